/-! Office i: rounds. -/
section NE
variable {ε : EE} {G : GG} {i : Nat} {V : VV} {s : Int32} {o : Nat → Int32} {Q : Option Int32 → GG → Prop}
def cgB (V : VV) (c : Nat) : Bool := decide (¬ V 13 c = -9) && (decide (V 14 c = 0) && decide (¬ V 11 (V 13 c).toNatClampNeg ≤ 0))
theorem w_canGoOut {c : Nat} (hi : i < 19) (hc : c < 6) (hw : V 13 c = -9 ∨ ∃ w, w < 8 ∧ V 13 c = nI w) : FC ε jX5_canGoOut [.inr (i, 0), .inl (nI c)] G i V s o (some (bI (cgB V c))) V s o := by
  refine C2.of (ls := [some (.inr (i, 0)), some (.inl (nI c)), none]) okX5_canGoOut rfl rfl ?_
  repeat (first | refine e2_step rfl rfl ?_ | refine e2c_get hi rfl rfl rfl rfl ?_ | refine e2c_lget rfl rfl ?_ | refine e2c_iald _ hi rfl rfl rfl rfl (by omega) ?_ | refine e2c_lald _ rfl rfl (by omega) ?_)
  rcases hw with z | ⟨w, hw1, hw2⟩
  · have e : cgB V c = false := by unfold cgB; rw [decide_eq_false (fun h => h z), Bool.false_and]
    rw [e, z]
    refine e2_fs (c_isWalk (-9)) rfl rfl ⟨rfl, rfl, rfl⟩ rfl rfl rfl ?_
    rw [show isInB (-9) (nI 0) (nI 7) = false by decide]
    refine e2_if rfl rfl (fun _ => ?_) (fun z => absurd rfl z)
    repeat (first | refine e2_step rfl rfl ?_ | refine e2c_get hi rfl rfl rfl rfl ?_ | refine e2c_lget rfl rfl ?_ | refine e2c_iald _ hi rfl rfl rfl rfl (by omega) ?_ | refine e2c_lald _ rfl rfl (by omega) ?_)
    exact e2_zret rfl rfl rfl ⟨rfl, rfl⟩
  · have z : ¬ V 13 c = -9 := by rw [hw2]; exact nI_n9 (by omega)
    rw [hw2]
    refine e2_fs (c_isWalkT hw1) rfl rfl ⟨rfl, rfl, rfl⟩ rfl rfl rfl ?_
    refine e2_if rfl rfl (fun z => absurd z (by decide)) (fun _ => ?_)
    repeat (first | refine e2_step rfl rfl ?_ | refine e2c_get hi rfl rfl rfl rfl ?_ | refine e2c_lget rfl rfl ?_ | refine e2c_iald _ hi rfl rfl rfl rfl (by omega) ?_ | refine e2c_lald _ rfl rfl (by omega) ?_)
    refine e2c_zald c hi rfl rfl rfl rfl hc ?_
    refine e2_if rfl rfl (fun z2 => ?_) (fun z2 => ?_)
    · have e : cgB V c = false := by unfold cgB; rw [decide_eq_false z2, Bool.false_and, Bool.and_false]
      rw [e]
      repeat (first | refine e2_step rfl rfl ?_ | refine e2c_get hi rfl rfl rfl rfl ?_ | refine e2c_lget rfl rfl ?_ | refine e2c_iald _ hi rfl rfl rfl rfl (by omega) ?_ | refine e2c_lald _ rfl rfl (by omega) ?_)
      exact e2_zret rfl rfl rfl ⟨rfl, rfl⟩
    · have z2 := Classical.not_not.1 z2
      repeat (first | refine e2_step rfl rfl ?_ | refine e2c_get hi rfl rfl rfl rfl ?_ | refine e2c_lget rfl rfl ?_ | refine e2c_iald _ hi rfl rfl rfl rfl (by omega) ?_ | refine e2c_lald _ rfl rfl (by omega) ?_)
      refine e2_if rfl rfl (fun z3 => ?_) (fun z3 => ?_)
      · have h3 : decide (¬ V 11 w ≤ 0) = false := decide_eq_false (fun h => h z3)
        have e : cgB V c = false := by unfold cgB; rw [hw2, nI_clamp (by omega), h3, Bool.and_false, Bool.and_false]
        rw [e]
        repeat (first | refine e2_step rfl rfl ?_ | refine e2c_get hi rfl rfl rfl rfl ?_ | refine e2c_lget rfl rfl ?_ | refine e2c_iald _ hi rfl rfl rfl rfl (by omega) ?_ | refine e2c_lald _ rfl rfl (by omega) ?_)
        exact e2_zret rfl rfl rfl ⟨rfl, rfl⟩
      · have e : cgB V c = true := by unfold cgB; rw [decide_eq_true z, decide_eq_true z2, hw2, nI_clamp (by omega), decide_eq_true z3]; rfl
        rw [e]
        repeat (first | refine e2_step rfl rfl ?_ | refine e2c_get hi rfl rfl rfl rfl ?_ | refine e2c_lget rfl rfl ?_ | refine e2c_iald _ hi rfl rfl rfl rfl (by omega) ?_ | refine e2c_lald _ rfl rfl (by omega) ?_)
        exact e2_zret rfl rfl rfl ⟨rfl, rfl⟩
def sgo (V : VV) (R : List Nat) (c : Int32) : Nat → VV
  | 0 => V
  | k + 1 => moveV (sgo V R c k) (revD R k) (nI 3) c
theorem n31 : ¬ nI 3 = nI 1 := by decide
theorem n41 : ¬ nI 4 = nI 1 := by decide
theorem n51 : ¬ nI 5 = nI 1 := by decide
theorem sgo_o {kk : Nat} {R : List Nat} {c : Int32} (h7 : kk ≠ 7) (h8 : kk ≠ 8) (h11 : kk ≠ 11) : ∀ k, sgo V R c k kk = V kk
  | 0 => rfl
  | k + 1 => by
    unfold sgo
    rw [moveV_o h7 h8 h11, sgo_o h7 h8 h11 k]
theorem sgo_ok {N : Nat} {R : List Nat} {c : Int32} (hok : okV V N) : ∀ k, okV (sgo V R c k) N
  | 0 => hok
  | k + 1 => okV_move (sgo_ok hok k) (fun z => absurd z n31)
/-- the letters of a place, by codes and numbers, last first -/
def atVR (V : VV) (N : Nat) (p k : Int32) : List Nat := layR (gtV V) (atV V p k) N
theorem atVR_lt {N : Nat} {p k : Int32} : ∀ a, a ∈ atVR V N p k → a < N := fun a h => ((layR_mem _ _ N a).1 h).1
theorem atVR_len {N : Nat} {p k : Int32} : (atVR V N p k).length ≤ N := by unfold atVR; rw [layR_len]; exact cntB_le _ _
def sndn (V : VV) (N c : Nat) : Nat := min (atVR V N (nI 1) (V 13 c)).length (V 0 7).toNatClampNeg
def sndV (V : VV) (N c : Nat) : VV := wv (sgo V (atVR V N (nI 1) (V 13 c)) (nI c) (sndn V N c)) 14 c (nI 1)
theorem min_if {a b : Nat} (ha : a < 2 ^ 31) (hb : b < 2 ^ 31) : (if nI a < nI b then nI a else nI b) = nI (min a b) := by
  by_cases h : a < b
  · rw [if_pos ((nI_ltI ha hb).2 h), Nat.min_eq_left (by omega)]
  · rw [if_neg (fun z => h ((nI_ltI ha hb).1 z)), Nat.min_eq_right (by omega)]
theorem w_sendOut {N c ld : Nat} (hi : i < 19) (hN : N ≤ 120) (hc : V 3 8 = nI N) (hok : okV V N) (hc6 : c < 6) (hld : V 0 7 = nI ld) (hld2 : ld < 1000) : FC ε jX5_sendOut [.inr (i, 0), .inl (nI c), .inr (0, 40)] G i V s o (some (nI (sndn V N c))) (sndV V N c) (nI (atVR V N (nI 1) (V 13 c)).length) (ordA (atVR V N (nI 1) (V 13 c)) o) := by
  have hlay := fun (G : GG) => v_listByCode (ε := ε) (G := G) (s := s) (o := o) hi hN hc (nI 1) (V 13 c)
  change ∀ (G : GG), FC ε jX2_listByCode [.inr (i, 3), .inl (nI 1), .inl (V 13 c), .inr (0, 40)] G i V s o none V (nI (atVR V N (nI 1) (V 13 c)).length) (ordA (atVR V N (nI 1) (V 13 c)) o) at hlay
  have hRl : (atVR V N (nI 1) (V 13 c)).length ≤ N := atVR_len
  have hRlt : ∀ a, a ∈ atVR V N (nI 1) (V 13 c) → a < N := atVR_lt
  have hn : sndn V N c = min (atVR V N (nI 1) (V 13 c)).length ld := by unfold sndn; rw [hld, nI_clamp (by omega)]
  unfold sndV
  rw [hn]
  generalize hR : atVR V N (nI 1) (V 13 c) = R at hRl hRlt hlay ⊢
  refine C2.of (ls := [some (.inr (i, 0)), some (.inl (nI c)), some (.inr (0, 40)), none, none]) okX5_sendOut rfl rfl ?_
  repeat (first | refine e2_step rfl rfl ?_ | refine e2c_get hi rfl rfl rfl rfl ?_ | refine e2c_lget rfl rfl ?_ | refine e2c_iald _ hi rfl rfl rfl rfl (by omega) ?_ | refine e2c_lald _ rfl rfl (by omega) ?_)
  refine e2c_fv (hlay G) rfl rfl ⟨rfl, rfl, rfl⟩ rfl rfl rfl hi rfl rfl rfl rfl ?_
  repeat (first | refine e2_step rfl rfl ?_ | refine e2c_get hi rfl rfl rfl rfl ?_ | refine e2c_lget rfl rfl ?_ | refine e2c_iald _ hi rfl rfl rfl rfl (by omega) ?_ | refine e2c_lald _ rfl rfl (by omega) ?_)
  rw [hld]
  refine e2_min rfl rfl rfl ?_
  rw [min_if (by omega) (by omega)]
  repeat (first | refine e2_stepS 33 rfl rfl rfl ?_ | refine e2c_getS 33 rfl hi rfl rfl rfl rfl ?_ | refine e2c_lgetS 33 rfl rfl rfl ?_ | refine e2c_ialdS 33 rfl _ hi rfl rfl rfl rfl (by omega) ?_)
  refine e2_for (min R.length ld) (fun k => [some (.inr (i, 0)), some (.inl (nI c)), some (.inr (0, 40)), some (.inl (nI (min R.length ld))), some (.inl (nI k))]) (fun k => cG G i (sgo V R (nI c) k) (nI R.length) (ordA R o)) (fun k hk K => ?_) (fun M hM => ?_)
  · repeat (first | refine e2_step rfl rfl ?_ | refine e2c_get hi rfl rfl rfl rfl ?_ | refine e2c_lget rfl rfl ?_ | refine e2c_iald _ hi rfl rfl rfl rfl (by omega) ?_ | refine e2c_lald _ rfl rfl (by omega) ?_)
    refine e2_if rfl rfl (fun z => absurd z (nI_ge hk (by omega))) (fun _ => ?_)
    repeat (first | refine e2_step rfl rfl ?_ | refine e2c_get hi rfl rfl rfl rfl ?_ | refine e2c_lget rfl rfl ?_ | refine e2c_iald _ hi rfl rfl rfl rfl (by omega) ?_ | refine e2c_lald _ rfl rfl (by omega) ?_)
    refine e2c_lfi (l_letterAt (n := R.length) (j := k) (by omega) (by omega)) rfl rfl ⟨rfl, rfl, rfl⟩ rfl rfl rfl rfl ?_
    rw [if_neg (by omega), ordA_at (by omega)]
    repeat (first | refine e2_step rfl rfl ?_ | refine e2c_get hi rfl rfl rfl rfl ?_ | refine e2c_lget rfl rfl ?_ | refine e2c_iald _ hi rfl rfl rfl rfl (by omega) ?_ | refine e2c_lald _ rfl rfl (by omega) ?_)
    have hlk := hRlt _ (revD_mem R k (by omega))
    refine e2c_fv (v_moveTo hi hN (okV_cnt (sgo_ok hok k) hlk) hlk (nI 3) (nI c) (sgo_ok hok k _ hlk).2 (fun z => absurd z n31)) rfl rfl ⟨rfl, rfl, rfl⟩ rfl rfl rfl hi rfl rfl rfl rfl ?_
    repeat (first | refine e2_stepS 33 rfl rfl rfl ?_ | refine e2c_getS 33 rfl hi rfl rfl rfl rfl ?_ | refine e2c_lgetS 33 rfl rfl rfl ?_ | refine e2c_ialdS 33 rfl _ hi rfl rfl rfl rfl (by omega) ?_)
    rw [nI_add']
    exact K
  · repeat (first | refine e2_step rfl rfl ?_ | refine e2c_get hi rfl rfl rfl rfl ?_ | refine e2c_lget rfl rfl ?_ | refine e2c_iald _ hi rfl rfl rfl rfl (by omega) ?_ | refine e2c_lald _ rfl rfl (by omega) ?_)
    refine e2_if rfl rfl (fun _ => ?_) (fun z => absurd (by rw [hM]; exact Int32.le_refl _) z)
    repeat (first | refine e2_step rfl rfl ?_ | refine e2c_get hi rfl rfl rfl rfl ?_ | refine e2c_lget rfl rfl ?_ | refine e2c_iald _ hi rfl rfl rfl rfl (by omega) ?_ | refine e2c_lald _ rfl rfl (by omega) ?_)
    refine e2c_zast c hi rfl rfl rfl rfl hc6 (Or.inr rfl) ?_
    repeat (first | refine e2_step rfl rfl ?_ | refine e2c_get hi rfl rfl rfl rfl ?_ | refine e2c_lget rfl rfl ?_ | refine e2c_iald _ hi rfl rfl rfl rfl (by omega) ?_ | refine e2c_lald _ rfl rfl (by omega) ?_)
    exact e2_iret rfl rfl ⟨rfl, by rw [hM]⟩
def misV (V : VV) (l : Nat) : VV := if V 6 l + nI 1 < nI 3 then moveV (wv V 6 l (V 6 l + nI 1)) l (nI 0) (-9) else finV (wv V 6 l (V 6 l + nI 1)) l (nI 5) (V 0 4)
theorem v_misroute {N l : Nat} (hi : i < 19) (hN : N ≤ 120) (hok : okV V N) (hl : l < N) : FC ε jX2_misroute [.inr (i, 3), .inl (nI l), .inl (V 0 4)] G i V s o none (misV V l) s o := by
  refine C2.of (ls := [some (.inr (i, 3)), some (.inl (nI l)), some (.inl (V 0 4))]) okX2_misroute rfl rfl ?_
  repeat (first | refine e2_step rfl rfl ?_ | refine e2c_get hi rfl rfl rfl rfl ?_ | refine e2c_lget rfl rfl ?_ | refine e2c_iald _ hi rfl rfl rfl rfl (by omega) ?_ | refine e2c_lald _ rfl rfl (by omega) ?_)
  refine e2c_fi (v_has hi hN (okV_cnt hok hl) hl) rfl rfl ⟨rfl, rfl, rfl⟩ rfl rfl rfl hi rfl rfl rfl rfl ?_
  refine e2_if rfl rfl (fun _ => ?_) (fun z => absurd (by decide) z)
  repeat (first | refine e2_step rfl rfl ?_ | refine e2c_get hi rfl rfl rfl rfl ?_ | refine e2c_lget rfl rfl ?_ | refine e2c_iald _ hi rfl rfl rfl rfl (by omega) ?_ | refine e2c_lald _ rfl rfl (by omega) ?_)
  refine e2c_iast l hi rfl rfl rfl rfl (by omega) ?_
  have h6 : wv V 6 l (V 6 l + nI 1) 6 l = V 6 l + nI 1 := by simp [wv, sv, upd]
  have hok2 : okV (wv V 6 l (V 6 l + nI 1)) N := hok
  repeat (first | refine e2_step rfl rfl ?_ | refine e2c_get hi rfl rfl rfl rfl ?_ | refine e2c_lget rfl rfl ?_ | refine e2c_iald _ hi rfl rfl rfl rfl (by omega) ?_ | refine e2c_lald _ rfl rfl (by omega) ?_)
  rw [h6]
  unfold misV
  refine e2_if rfl rfl (fun z => ?_) (fun z => ?_)
  · rw [if_pos z]
    repeat (first | refine e2_step rfl rfl ?_ | refine e2c_get hi rfl rfl rfl rfl ?_ | refine e2c_lget rfl rfl ?_ | refine e2c_iald _ hi rfl rfl rfl rfl (by omega) ?_ | refine e2c_lald _ rfl rfl (by omega) ?_)
    refine e2c_fv (v_moveTo hi hN (okV_cnt hok2 hl) hl (nI 0) (-9) (hok2 l hl).2 (fun z => absurd z n01)) rfl rfl ⟨rfl, rfl, rfl⟩ rfl rfl rfl hi rfl rfl rfl rfl ?_
    exact e2_vret rfl rfl ⟨rfl, rfl⟩
  · rw [if_neg z]
    repeat (first | refine e2_step rfl rfl ?_ | refine e2c_get hi rfl rfl rfl rfl ?_ | refine e2c_lget rfl rfl ?_ | refine e2c_iald _ hi rfl rfl rfl rfl (by omega) ?_ | refine e2c_lald _ rfl rfl (by omega) ?_)
    refine e2c_fv (v_finish hi hN (okV_cnt hok2 hl) hl (nI 5) (V 0 4) (hok2 l hl).2 n51) rfl rfl ⟨rfl, rfl, rfl⟩ rfl rfl rfl hi rfl rfl rfl rfl ?_
    repeat (first | refine e2_step rfl rfl ?_ | refine e2c_get hi rfl rfl rfl rfl ?_ | refine e2c_lget rfl rfl ?_ | refine e2c_iald _ hi rfl rfl rfl rfl (by omega) ?_ | refine e2c_lald _ rfl rfl (by omega) ?_)
    exact e2_vret rfl rfl ⟨rfl, rfl⟩
def pbV (V : VV) (l w : Nat) : VV := if freV V w ≤ 0 then moveV V l (nI 2) (-9) else moveV V l (nI 1) (nI w)
theorem w_putBack {N l w : Nat} (hi : i < 19) (hN : N ≤ 120) (hok : okV V N) (hl : l < N) (hw : w < 8) : FC ε jX5_putBack [.inr (i, 0), .inl (nI l), .inl (nI w)] G i V s o none (pbV V l w) s o := by
  refine C2.of (ls := [some (.inr (i, 0)), some (.inl (nI l)), some (.inl (nI w))]) okX5_putBack rfl rfl ?_
  repeat (first | refine e2_step rfl rfl ?_ | refine e2c_get hi rfl rfl rfl rfl ?_ | refine e2c_lget rfl rfl ?_ | refine e2c_iald _ hi rfl rfl rfl rfl (by omega) ?_ | refine e2c_lald _ rfl rfl (by omega) ?_)
  refine e2c_fi (w_freeHoles hi hw) rfl rfl ⟨rfl, rfl, rfl⟩ rfl rfl rfl hi rfl rfl rfl rfl ?_
  unfold pbV
  refine e2_if rfl rfl (fun z => ?_) (fun z => ?_)
  · have z2 : freV V w ≤ 0 := z
    rw [if_pos z2]
    repeat (first | refine e2_step rfl rfl ?_ | refine e2c_get hi rfl rfl rfl rfl ?_ | refine e2c_lget rfl rfl ?_ | refine e2c_iald _ hi rfl rfl rfl rfl (by omega) ?_ | refine e2c_lald _ rfl rfl (by omega) ?_)
    refine e2c_fv (v_moveTo hi hN (okV_cnt hok hl) hl (nI 2) (-9) (hok l hl).2 (fun z => absurd z n21)) rfl rfl ⟨rfl, rfl, rfl⟩ rfl rfl rfl hi rfl rfl rfl rfl ?_
    exact e2_vret rfl rfl ⟨rfl, rfl⟩
  · have z2 : ¬ freV V w ≤ 0 := z
    rw [if_neg z2]
    repeat (first | refine e2_step rfl rfl ?_ | refine e2c_get hi rfl rfl rfl rfl ?_ | refine e2c_lget rfl rfl ?_ | refine e2c_iald _ hi rfl rfl rfl rfl (by omega) ?_ | refine e2c_lald _ rfl rfl (by omega) ?_)
    refine e2c_fv (v_moveTo hi hN (okV_cnt hok hl) hl (nI 1) (nI w) (hok l hl).2 (fun _ => ⟨w, hw, rfl⟩)) rfl rfl ⟨rfl, rfl, rfl⟩ rfl rfl rfl hi rfl rfl rfl rfl ?_
    repeat (first | refine e2_step rfl rfl ?_ | refine e2c_get hi rfl rfl rfl rfl ?_ | refine e2c_lget rfl rfl ?_ | refine e2c_iald _ hi rfl rfl rfl rfl (by omega) ?_ | refine e2c_lald _ rfl rfl (by omega) ?_)
    exact e2_vret rfl rfl ⟨rfl, rfl⟩
theorem k_roundsOn {c w : Nat} (hi : i < 19) (hc : c < 6) (hw : w < 8) : FC ε jX0_roundsOn [.inr (i, 12), .inl (nI c), .inl (nI w)] G i V s o (some (V 16 (c * 8 + w))) V s o := by
  refine C2.of (ls := [some (.inr (i, 12)), some (.inl (nI c)), some (.inl (nI w))]) okX0_roundsOn rfl rfl ?_
  repeat (first | refine e2_step rfl rfl ?_ | refine e2c_get hi rfl rfl rfl rfl ?_ | refine e2c_lget rfl rfl ?_ | refine e2c_iald _ hi rfl rfl rfl rfl (by omega) ?_ | refine e2c_lald _ rfl rfl (by omega) ?_)
  refine e2_fs (c_isCarrierT hc) rfl rfl ⟨rfl, rfl, rfl⟩ rfl rfl rfl ?_
  refine e2_if rfl rfl (fun z => absurd z (by decide)) (fun _ => ?_)
  repeat (first | refine e2_step rfl rfl ?_ | refine e2c_get hi rfl rfl rfl rfl ?_ | refine e2c_lget rfl rfl ?_ | refine e2c_iald _ hi rfl rfl rfl rfl (by omega) ?_ | refine e2c_lald _ rfl rfl (by omega) ?_)
  refine e2_fs (c_isWalkT hw) rfl rfl ⟨rfl, rfl, rfl⟩ rfl rfl rfl ?_
  refine e2_if rfl rfl (fun z => absurd z (by decide)) (fun _ => ?_)
  repeat (first | refine e2_step rfl rfl ?_ | refine e2c_get hi rfl rfl rfl rfl ?_ | refine e2c_lget rfl rfl ?_ | refine e2c_iald _ hi rfl rfl rfl rfl (by omega) ?_ | refine e2c_lald _ rfl rfl (by omega) ?_)
  refine e2c_iald (c * 8 + w) hi rfl rfl (by rw [pk_mul, nI_add']) rfl (by omega) ?_
  repeat (first | refine e2_step rfl rfl ?_ | refine e2c_get hi rfl rfl rfl rfl ?_ | refine e2c_lget rfl rfl ?_ | refine e2c_iald _ hi rfl rfl rfl rfl (by omega) ?_ | refine e2c_lald _ rfl rfl (by omega) ?_)
  exact e2_iret rfl rfl ⟨rfl, rfl⟩
theorem k_knows {c w : Nat} (hi : i < 19) (hc : c < 6) (hw : w < 8) : FC ε jX0_knows [.inr (i, 12), .inl (nI c), .inl (nI w)] G i V s o (some (bI (decide (¬ V 16 (c * 8 + w) < nI 2)))) V s o := by
  refine C2.of (ls := [some (.inr (i, 12)), some (.inl (nI c)), some (.inl (nI w))]) okX0_knows rfl rfl ?_
  repeat (first | refine e2_step rfl rfl ?_ | refine e2c_get hi rfl rfl rfl rfl ?_ | refine e2c_lget rfl rfl ?_ | refine e2c_iald _ hi rfl rfl rfl rfl (by omega) ?_ | refine e2c_lald _ rfl rfl (by omega) ?_)
  refine e2c_fi (k_roundsOn hi hc hw) rfl rfl ⟨rfl, rfl, rfl⟩ rfl rfl rfl hi rfl rfl rfl rfl ?_
  repeat (first | refine e2_step rfl rfl ?_ | refine e2c_get hi rfl rfl rfl rfl ?_ | refine e2c_lget rfl rfl ?_ | refine e2c_iald _ hi rfl rfl rfl rfl (by omega) ?_ | refine e2c_lald _ rfl rfl (by omega) ?_)
  refine e2_if rfl rfl (fun z => ?_) (fun z => ?_)
  · rw [decide_eq_false (fun h => h z)]
    repeat (first | refine e2_step rfl rfl ?_ | refine e2c_get hi rfl rfl rfl rfl ?_ | refine e2c_lget rfl rfl ?_ | refine e2c_iald _ hi rfl rfl rfl rfl (by omega) ?_ | refine e2c_lald _ rfl rfl (by omega) ?_)
    exact e2_zret rfl rfl rfl ⟨rfl, rfl⟩
  · rw [decide_eq_true z]
    repeat (first | refine e2_step rfl rfl ?_ | refine e2c_get hi rfl rfl rfl rfl ?_ | refine e2c_lget rfl rfl ?_ | refine e2c_iald _ hi rfl rfl rfl rfl (by omega) ?_ | refine e2c_lald _ rfl rfl (by omega) ?_)
    exact e2_zret rfl rfl rfl ⟨rfl, rfl⟩
def erV (V : VV) (c w m : Nat) : VV := wv (wv (wv V 14 c (nI 0)) 15 c (V 15 c + nI m)) 16 (c * 8 + w) (V 16 (c * 8 + w) + nI 1)
theorem k_endRound {c w m : Nat} (hi : i < 19) (hc : c < 6) (hw : w < 8) (h13 : V 13 c = nI w) : FC ε jX0_endRound [.inr (i, 12), .inl (nI c), .inl (nI m)] G i V s o none (erV V c w m) s o := by
  refine C2.of (ls := [some (.inr (i, 12)), some (.inl (nI c)), some (.inl (nI m))]) okX0_endRound rfl rfl ?_
  repeat (first | refine e2_step rfl rfl ?_ | refine e2c_get hi rfl rfl rfl rfl ?_ | refine e2c_lget rfl rfl ?_ | refine e2c_iald _ hi rfl rfl rfl rfl (by omega) ?_ | refine e2c_lald _ rfl rfl (by omega) ?_)
  refine e2_fs (c_isCarrierT hc) rfl rfl ⟨rfl, rfl, rfl⟩ rfl rfl rfl ?_
  refine e2_if rfl rfl (fun z => absurd z (by decide)) (fun _ => ?_)
  repeat (first | refine e2_step rfl rfl ?_ | refine e2c_get hi rfl rfl rfl rfl ?_ | refine e2c_lget rfl rfl ?_ | refine e2c_iald _ hi rfl rfl rfl rfl (by omega) ?_ | refine e2c_lald _ rfl rfl (by omega) ?_)
  rw [h13]
  refine e2_fs (c_isWalkT hw) rfl rfl ⟨rfl, rfl, rfl⟩ rfl rfl rfl ?_
  refine e2_if rfl rfl (fun z => absurd z (by decide)) (fun _ => ?_)
  repeat (first | refine e2_step rfl rfl ?_ | refine e2c_get hi rfl rfl rfl rfl ?_ | refine e2c_lget rfl rfl ?_ | refine e2c_iald _ hi rfl rfl rfl rfl (by omega) ?_ | refine e2c_lald _ rfl rfl (by omega) ?_)
  refine e2c_zast c hi rfl rfl rfl rfl hc (Or.inl rfl) ?_
  repeat (first | refine e2_step rfl rfl ?_ | refine e2c_get hi rfl rfl rfl rfl ?_ | refine e2c_lget rfl rfl ?_ | refine e2c_iald _ hi rfl rfl rfl rfl (by omega) ?_ | refine e2c_lald _ rfl rfl (by omega) ?_)
  refine e2c_iast c hi rfl rfl rfl rfl hc ?_
  repeat (first | refine e2_step rfl rfl ?_ | refine e2c_get hi rfl rfl rfl rfl ?_ | refine e2c_lget rfl rfl ?_ | refine e2c_iald _ hi rfl rfl rfl rfl (by omega) ?_ | refine e2c_lald _ rfl rfl (by omega) ?_)
  have h13' : ∀ x y, wv (wv V 14 c x) 15 c y 13 c = nI w := fun x y => h13
  refine e2c_iald (c * 8 + w) hi rfl rfl (by rw [h13', pk_mul, nI_add']) rfl (by omega) ?_
  repeat (first | refine e2_step rfl rfl ?_ | refine e2c_get hi rfl rfl rfl rfl ?_ | refine e2c_lget rfl rfl ?_ | refine e2c_iald _ hi rfl rfl rfl rfl (by omega) ?_ | refine e2c_lald _ rfl rfl (by omega) ?_)
  refine e2c_iast (c * 8 + w) hi rfl rfl (by rw [h13', pk_mul, nI_add']) rfl (by omega) ?_
  exact e2_vret rfl rfl ⟨rfl, rfl⟩
def blnV (V : VV) (w : Nat) (R : List Nat) : Nat := cntB (fun k => decide (wkV V (revD R k) = w)) R.length
theorem w_countBelonging {N w : Nat} {R : List Nat} (hi : i < 19) (hN : N ≤ 120) (hok : okV V N) (hw : w < 8) (hRl : R.length ≤ 120) (hRlt : ∀ a, a ∈ R → a < N) : FC ε jX5_countBelonging [.inr (i, 0), .inr (0, 40), .inl (nI w)] G i V (nI R.length) (ordA R o) (some (nI (blnV V w R))) V (nI R.length) (ordA R o) := by
  refine C2.of (ls := [some (.inr (i, 0)), some (.inr (0, 40)), some (.inl (nI w)), none, none]) okX5_countBelonging rfl rfl ?_
  repeat (first | refine e2_stepS 5 rfl rfl rfl ?_ | refine e2c_getS 5 rfl hi rfl rfl rfl rfl ?_ | refine e2c_lgetS 5 rfl rfl rfl ?_ | refine e2c_ialdS 5 rfl _ hi rfl rfl rfl rfl (by omega) ?_)
  refine e2_for R.length (fun k => [some (.inr (i, 0)), some (.inr (0, 40)), some (.inl (nI w)), some (.inl (nI (cntB (fun k => decide (wkV V (revD R k) = w)) k))), some (.inl (nI k))]) (fun k => cG G i V (nI R.length) (ordA R o)) (fun k hk K => ?_) (fun M hM => ?_)
  · repeat (first | refine e2_step rfl rfl ?_ | refine e2c_get hi rfl rfl rfl rfl ?_ | refine e2c_lget rfl rfl ?_ | refine e2c_iald _ hi rfl rfl rfl rfl (by omega) ?_ | refine e2c_lald _ rfl rfl (by omega) ?_)
    refine e2_if rfl rfl (fun z => absurd z (nI_ge hk (by omega))) (fun _ => ?_)
    repeat (first | refine e2_step rfl rfl ?_ | refine e2c_get hi rfl rfl rfl rfl ?_ | refine e2c_lget rfl rfl ?_ | refine e2c_iald _ hi rfl rfl rfl rfl (by omega) ?_ | refine e2c_lald _ rfl rfl (by omega) ?_)
    refine e2c_lfi (l_letterAt (n := R.length) (j := k) (by omega) (by omega)) rfl rfl ⟨rfl, rfl, rfl⟩ rfl rfl rfl rfl ?_
    rw [if_neg (by omega), ordA_at hk]
    have hlk := hRlt _ (revD_mem R k hk)
    have hw9 := (wkV_of hok hlk).choose_spec.2.2.2
    refine e2c_fi (w_walkOf hi hN hok hlk) rfl rfl ⟨rfl, rfl, rfl⟩ rfl rfl rfl hi rfl rfl rfl rfl ?_
    repeat (first | refine e2_step rfl rfl ?_ | refine e2c_get hi rfl rfl rfl rfl ?_ | refine e2c_lget rfl rfl ?_ | refine e2c_iald _ hi rfl rfl rfl rfl (by omega) ?_ | refine e2c_lald _ rfl rfl (by omega) ?_)
    simp only [cntB] at K
    refine e2_if rfl rfl (fun z => ?_) (fun z => ?_)
    · rw [nI_eq (by omega) (by omega)] at z
      simp only [z, decide_false, Bool.false_eq_true, if_false] at K
      repeat (first | refine e2_stepS 5 rfl rfl rfl ?_ | refine e2c_getS 5 rfl hi rfl rfl rfl rfl ?_ | refine e2c_lgetS 5 rfl rfl rfl ?_ | refine e2c_ialdS 5 rfl _ hi rfl rfl rfl rfl (by omega) ?_)
      rw [nI_add']
      exact K
    · rw [nI_eq (by omega) (by omega), Classical.not_not] at z
      simp only [z, decide_true, if_true] at K
      repeat (first | refine e2_stepS 5 rfl rfl rfl ?_ | refine e2c_getS 5 rfl hi rfl rfl rfl rfl ?_ | refine e2c_lgetS 5 rfl rfl rfl ?_ | refine e2c_ialdS 5 rfl _ hi rfl rfl rfl rfl (by omega) ?_)
      rw [nI_add', nI_add']
      exact K
  · repeat (first | refine e2_step rfl rfl ?_ | refine e2c_get hi rfl rfl rfl rfl ?_ | refine e2c_lget rfl rfl ?_ | refine e2c_iald _ hi rfl rfl rfl rfl (by omega) ?_ | refine e2c_lald _ rfl rfl (by omega) ?_)
    refine e2_if rfl rfl (fun _ => ?_) (fun z => absurd (by rw [hM]; exact Int32.le_refl _) z)
    repeat (first | refine e2_step rfl rfl ?_ | refine e2c_get hi rfl rfl rfl rfl ?_ | refine e2c_lget rfl rfl ?_ | refine e2c_iald _ hi rfl rfl rfl rfl (by omega) ?_ | refine e2c_lald _ rfl rfl (by omega) ?_)
    exact e2_iret rfl rfl ⟨by rw [hM]; rfl, rfl⟩
/-- a round's end, letter by letter: the office, and how many may still be delivered -/
def brSt (w l : Nat) (q : VV × Nat) : VV × Nat :=
  if wkV q.1 l = w then (if 0 < q.2 then (finV q.1 l (nI 4) (q.1 0 4), q.2 - 1) else (pbV q.1 l w, q.2)) else (misV q.1 l, q.2)
def brL (V : VV) (w : Nat) (R : List Nat) (can : Nat) : Nat → VV × Nat
  | 0 => (V, can)
  | k + 1 => brSt w (revD R k) (brL V w R can k)
theorem finV_o {l kk : Nat} {p h : Int32} (h7 : kk ≠ 7) (h8 : kk ≠ 8) (h10 : kk ≠ 10) (h11 : kk ≠ 11) : finV V l p h kk = V kk := by
  unfold finV wv sv
  rw [if_neg h10, moveV_o h7 h8 h11]
theorem finV_ok {N l : Nat} {p h : Int32} (hok : okV V N) (hp : ¬ p = nI 1) : okV (finV V l p h) N := okV_move hok (fun z => absurd z hp)
theorem brSt_o {w l kk : Nat} {q : VV × Nat} (h6 : kk ≠ 6) (h7 : kk ≠ 7) (h8 : kk ≠ 8) (h10 : kk ≠ 10) (h11 : kk ≠ 11) : (brSt w l q).1 kk = q.1 kk := by
  unfold brSt
  split
  · split
    · exact finV_o h7 h8 h10 h11
    · dsimp only
      unfold pbV
      split
      · exact moveV_o h7 h8 h11
      · exact moveV_o h7 h8 h11
  · dsimp only
    unfold misV
    split
    · rw [moveV_o h7 h8 h11]
      unfold wv sv
      rw [if_neg h6]
    · rw [finV_o h7 h8 h10 h11]
      unfold wv sv
      rw [if_neg h6]
theorem brL_o {w can kk : Nat} {R : List Nat} (h6 : kk ≠ 6) (h7 : kk ≠ 7) (h8 : kk ≠ 8) (h10 : kk ≠ 10) (h11 : kk ≠ 11) : ∀ k, (brL V w R can k).1 kk = V kk
  | 0 => rfl
  | k + 1 => by
    unfold brL
    rw [brSt_o h6 h7 h8 h10 h11, brL_o h6 h7 h8 h10 h11 k]
theorem brSt_ok {N w l : Nat} {q : VV × Nat} (hw : w < 8) (hok : okV q.1 N) : okV (brSt w l q).1 N := by
  unfold brSt
  split
  · split
    · exact finV_ok hok n41
    · dsimp only
      unfold pbV
      split
      · exact okV_move hok (fun z => absurd z n21)
      · exact okV_move hok (fun _ => ⟨w, hw, rfl⟩)
  · dsimp only
    have hok2 : okV (wv q.1 6 l (q.1 6 l + nI 1)) N := hok
    unfold misV
    split
    · exact okV_move hok2 (fun z => absurd z n01)
    · exact finV_ok hok2 n51
theorem brL_ok {N w can : Nat} {R : List Nat} (hw : w < 8) (hok : okV V N) : ∀ k, okV (brL V w R can k).1 N
  | 0 => hok
  | k + 1 => brSt_ok hw (brL_ok hw hok k)
theorem brL_2 (V : VV) (w can : Nat) (R : List Nat) : ∀ k, (brL V w R can k).2 ≤ can
  | 0 => Nat.le_refl _
  | k + 1 => by
    have h := brL_2 V w can R k
    show (brSt w (revD R k) (brL V w R can k)).2 ≤ can
    unfold brSt
    split
    · split
      · dsimp only; omega
      · exact h
    · exact h
def cannV (V : VV) (c w : Nat) (R : List Nat) : Nat := if V 16 (c * 8 + w) < nI 2 then (blnV V w R + 1) / 2 else blnV V w R
def brgV (V : VV) (N c w : Nat) : VV := erV (brL V w (atVR V N (nI 3) (nI c)) (cannV V c w (atVR V N (nI 3) (nI c))) (atVR V N (nI 3) (nI c)).length).1 c w (cannV V c w (atVR V N (nI 3) (nI c)))
def brgn (V : VV) (N c w : Nat) : Nat := cannV V c w (atVR V N (nI 3) (nI c))
set_option maxHeartbeats 2000000 in
theorem w_bringBack {N c w : Nat} (hi : i < 19) (hN : N ≤ 120) (hcn : V 3 8 = nI N) (hok : okV V N) (hc : c < 6) (hw : w < 8) (h13 : V 13 c = nI w) : FC ε jX5_bringBack [.inr (i, 0), .inl (nI c), .inr (0, 40)] G i V s o (some (nI (brgn V N c w))) (brgV V N c w) (nI (atVR V N (nI 3) (nI c)).length) (ordA (atVR V N (nI 3) (nI c)) o) := by
  have hlay := fun (G : GG) => v_listByCode (ε := ε) (G := G) (s := s) (o := o) hi hN hcn (nI 3) (nI c)
  change ∀ (G : GG), FC ε jX2_listByCode [.inr (i, 3), .inl (nI 3), .inl (nI c), .inr (0, 40)] G i V s o none V (nI (atVR V N (nI 3) (nI c)).length) (ordA (atVR V N (nI 3) (nI c)) o) at hlay
  have hRl : (atVR V N (nI 3) (nI c)).length ≤ N := atVR_len
  have hRlt : ∀ a, a ∈ atVR V N (nI 3) (nI c) → a < N := atVR_lt
  unfold brgV brgn
  generalize hR : atVR V N (nI 3) (nI c) = R at hRl hRlt hlay ⊢
  refine C2.of (ls := [some (.inr (i, 0)), some (.inl (nI c)), some (.inr (0, 40)), none, none, none, none, none]) okX5_bringBack rfl rfl ?_
  repeat (first | refine e2_step rfl rfl ?_ | refine e2c_get hi rfl rfl rfl rfl ?_ | refine e2c_lget rfl rfl ?_ | refine e2c_iald _ hi rfl rfl rfl rfl (by omega) ?_ | refine e2c_lald _ rfl rfl (by omega) ?_)
  rw [h13]
  repeat (first | refine e2_step rfl rfl ?_ | refine e2c_get hi rfl rfl rfl rfl ?_ | refine e2c_lget rfl rfl ?_ | refine e2c_iald _ hi rfl rfl rfl rfl (by omega) ?_ | refine e2c_lald _ rfl rfl (by omega) ?_)
  refine e2c_fv (hlay G) rfl rfl ⟨rfl, rfl, rfl⟩ rfl rfl rfl hi rfl rfl rfl rfl ?_
  repeat (first | refine e2_step rfl rfl ?_ | refine e2c_get hi rfl rfl rfl rfl ?_ | refine e2c_lget rfl rfl ?_ | refine e2c_iald _ hi rfl rfl rfl rfl (by omega) ?_ | refine e2c_lald _ rfl rfl (by omega) ?_)
  refine e2c_fi (w_countBelonging hi hN hok hw (by omega) hRlt) rfl rfl ⟨rfl, rfl, rfl⟩ rfl rfl rfl hi rfl rfl rfl rfl ?_
  repeat (first | refine e2_step rfl rfl ?_ | refine e2c_get hi rfl rfl rfl rfl ?_ | refine e2c_lget rfl rfl ?_ | refine e2c_iald _ hi rfl rfl rfl rfl (by omega) ?_ | refine e2c_lald _ rfl rfl (by omega) ?_)
  refine e2c_fi (k_knows hi hc hw) rfl rfl ⟨rfl, rfl, rfl⟩ rfl rfl rfl hi rfl rfl rfl rfl ?_
  have hbl : blnV V w R ≤ 120 := Nat.le_trans (cntB_le _ _) (by omega)
  have hcan2 : cannV V c w R ≤ 120 := by unfold cannV; split <;> omega
  have hgo : E2 ε jX5_bringBack 48 [some (.inr (i, 0)), some (.inl (nI c)), some (.inr (0, 40)), some (.inl (nI w)), some (.inl (nI (cannV V c w R))), none, none, none] [] (cG G i V (nI R.length) (ordA R o)) (fun v' G' => v' = some (nI (cannV V c w R)) ∧ G' = cG G i (erV (brL V w R (cannV V c w R) R.length).1 c w (cannV V c w R)) (nI R.length) (ordA R o)) := by
    generalize hcan : cannV V c w R = can at hcan2 ⊢
    repeat (first | refine e2_stepS 55 rfl rfl rfl ?_ | refine e2c_getS 55 rfl hi rfl rfl rfl rfl ?_ | refine e2c_lgetS 55 rfl rfl rfl ?_ | refine e2c_ialdS 55 rfl _ hi rfl rfl rfl rfl (by omega) ?_)
    refine e2_for R.length (fun k => [some (.inr (i, 0)), some (.inl (nI c)), some (.inr (0, 40)), some (.inl (nI w)), some (.inl (nI can)), some (.inl (nI (brL V w R can k).2)), some (.inl (nI k)), none]) (fun k => cG G i (brL V w R can k).1 (nI R.length) (ordA R o)) (fun k hk K => ?_) (fun M hM => ?_)
    · have hok2 := brL_ok (w := w) (can := can) (R := R) hw hok k
      have h2 := brL_2 V w can R k
      have hlk := hRlt _ (revD_mem R k hk)
      simp only [brL, brSt] at K
      generalize hq : brL V w R can k = q at K hok2 h2 ⊢
      obtain ⟨Vk, d⟩ := q
      dsimp only at K hok2 h2 ⊢
      have hw9 := (wkV_of hok2 hlk).choose_spec.2.2.2
      repeat (first | refine e2_step rfl rfl ?_ | refine e2c_get hi rfl rfl rfl rfl ?_ | refine e2c_lget rfl rfl ?_ | refine e2c_iald _ hi rfl rfl rfl rfl (by omega) ?_ | refine e2c_lald _ rfl rfl (by omega) ?_)
      refine e2_if rfl rfl (fun z => absurd z (nI_ge hk (by omega))) (fun _ => ?_)
      repeat (first | refine e2_step rfl rfl ?_ | refine e2c_get hi rfl rfl rfl rfl ?_ | refine e2c_lget rfl rfl ?_ | refine e2c_iald _ hi rfl rfl rfl rfl (by omega) ?_ | refine e2c_lald _ rfl rfl (by omega) ?_)
      refine e2c_lfi (l_letterAt (n := R.length) (j := k) (by omega) (by omega)) rfl rfl ⟨rfl, rfl, rfl⟩ rfl rfl rfl rfl ?_
      rw [if_neg (by omega), ordA_at hk]
      repeat (first | refine e2_step rfl rfl ?_ | refine e2c_get hi rfl rfl rfl rfl ?_ | refine e2c_lget rfl rfl ?_ | refine e2c_iald _ hi rfl rfl rfl rfl (by omega) ?_ | refine e2c_lald _ rfl rfl (by omega) ?_)
      refine e2c_fi (w_walkOf hi hN hok2 hlk) rfl rfl ⟨rfl, rfl, rfl⟩ rfl rfl rfl hi rfl rfl rfl rfl ?_
      repeat (first | refine e2_step rfl rfl ?_ | refine e2c_get hi rfl rfl rfl rfl ?_ | refine e2c_lget rfl rfl ?_ | refine e2c_iald _ hi rfl rfl rfl rfl (by omega) ?_ | refine e2c_lald _ rfl rfl (by omega) ?_)
      refine e2_if rfl rfl (fun z => ?_) (fun z => ?_)
      · rw [nI_eq (by omega) (by omega)] at z
        rw [if_pos z] at K
        repeat (first | refine e2_step rfl rfl ?_ | refine e2c_get hi rfl rfl rfl rfl ?_ | refine e2c_lget rfl rfl ?_ | refine e2c_iald _ hi rfl rfl rfl rfl (by omega) ?_ | refine e2c_lald _ rfl rfl (by omega) ?_)
        refine e2_if rfl rfl (fun z2 => ?_) (fun z2 => ?_)
        · have z3 : nI d ≤ nI 0 := z2
          rw [nI_leI (by omega) (by omega)] at z3
          rw [if_neg (by omega)] at K
          dsimp only at K
          repeat (first | refine e2_step rfl rfl ?_ | refine e2c_get hi rfl rfl rfl rfl ?_ | refine e2c_lget rfl rfl ?_ | refine e2c_iald _ hi rfl rfl rfl rfl (by omega) ?_ | refine e2c_lald _ rfl rfl (by omega) ?_)
          refine e2c_fv (w_putBack hi hN hok2 hlk hw) rfl rfl ⟨rfl, rfl, rfl⟩ rfl rfl rfl hi rfl rfl rfl rfl ?_
          repeat (first | refine e2_stepS 55 rfl rfl rfl ?_ | refine e2c_getS 55 rfl hi rfl rfl rfl rfl ?_ | refine e2c_lgetS 55 rfl rfl rfl ?_ | refine e2c_ialdS 55 rfl _ hi rfl rfl rfl rfl (by omega) ?_)
          rw [nI_add']
          exact e2_dropK K ⟨rfl, rfl, rfl, rfl, rfl, rfl, rfl, trivial⟩
        · have z3 : ¬ nI d ≤ nI 0 := z2
          rw [nI_leI (by omega) (by omega)] at z3
          rw [if_pos (by omega)] at K
          dsimp only at K
          repeat (first | refine e2_step rfl rfl ?_ | refine e2c_get hi rfl rfl rfl rfl ?_ | refine e2c_lget rfl rfl ?_ | refine e2c_iald _ hi rfl rfl rfl rfl (by omega) ?_ | refine e2c_lald _ rfl rfl (by omega) ?_)
          refine e2c_fv (v_finish hi hN (okV_cnt hok2 hlk) hlk (nI 4) (Vk 0 4) (hok2 _ hlk).2 n41) rfl rfl ⟨rfl, rfl, rfl⟩ rfl rfl rfl hi rfl rfl rfl rfl ?_
          obtain ⟨d', rfl⟩ : ∃ d', d = d' + 1 := ⟨d - 1, by omega⟩
          rw [Nat.add_sub_cancel] at K
          repeat (first | refine e2_stepS 55 rfl rfl rfl ?_ | refine e2c_getS 55 rfl hi rfl rfl rfl rfl ?_ | refine e2c_lgetS 55 rfl rfl rfl ?_ | refine e2c_ialdS 55 rfl _ hi rfl rfl rfl rfl (by omega) ?_)
          rw [pk_m1, nI_add']
          exact e2_dropK K ⟨rfl, rfl, rfl, rfl, rfl, rfl, rfl, trivial⟩
      · rw [nI_eq (by omega) (by omega)] at z
        rw [if_neg z] at K
        repeat (first | refine e2_step rfl rfl ?_ | refine e2c_get hi rfl rfl rfl rfl ?_ | refine e2c_lget rfl rfl ?_ | refine e2c_iald _ hi rfl rfl rfl rfl (by omega) ?_ | refine e2c_lald _ rfl rfl (by omega) ?_)
        refine e2c_fv (v_misroute hi hN hok2 hlk) rfl rfl ⟨rfl, rfl, rfl⟩ rfl rfl rfl hi rfl rfl rfl rfl ?_
        repeat (first | refine e2_stepS 55 rfl rfl rfl ?_ | refine e2c_getS 55 rfl hi rfl rfl rfl rfl ?_ | refine e2c_lgetS 55 rfl rfl rfl ?_ | refine e2c_ialdS 55 rfl _ hi rfl rfl rfl rfl (by omega) ?_)
        rw [nI_add']
        exact e2_dropK K ⟨rfl, rfl, rfl, rfl, rfl, rfl, rfl, trivial⟩
    · subst hM
      have h13' : (brL V w R can R.length).1 13 c = nI w := by rw [brL_o (by decide) (by decide) (by decide) (by decide) (by decide)]; exact h13
      repeat (first | refine e2_step rfl rfl ?_ | refine e2c_get hi rfl rfl rfl rfl ?_ | refine e2c_lget rfl rfl ?_ | refine e2c_iald _ hi rfl rfl rfl rfl (by omega) ?_ | refine e2c_lald _ rfl rfl (by omega) ?_)
      refine e2_if rfl rfl (fun _ => ?_) (fun z => absurd (Int32.le_refl _) z)
      repeat (first | refine e2_step rfl rfl ?_ | refine e2c_get hi rfl rfl rfl rfl ?_ | refine e2c_lget rfl rfl ?_ | refine e2c_iald _ hi rfl rfl rfl rfl (by omega) ?_ | refine e2c_lald _ rfl rfl (by omega) ?_)
      refine e2c_fv (k_endRound (m := can) hi hc hw h13') rfl rfl ⟨rfl, rfl, rfl⟩ rfl rfl rfl hi rfl rfl rfl rfl ?_
      repeat (first | refine e2_step rfl rfl ?_ | refine e2c_get hi rfl rfl rfl rfl ?_ | refine e2c_lget rfl rfl ?_ | refine e2c_iald _ hi rfl rfl rfl rfl (by omega) ?_ | refine e2c_lald _ rfl rfl (by omega) ?_)
      exact e2_iret rfl rfl ⟨rfl, rfl⟩
  refine e2_if rfl rfl (fun z => ?_) (fun z => ?_)
  · rw [bI_0, decide_eq_false_iff_not, Classical.not_not] at z
    have e : cannV V c w R = blnV V w R := by unfold cannV; rw [if_neg z]
    rw [e] at hgo ⊢
    exact e2_dropK hgo ⟨rfl, rfl, rfl, rfl, rfl, trivial⟩
  · rw [bI_0, decide_eq_false_iff_not, Classical.not_not, Classical.not_not] at z
    have e : cannV V c w R = (blnV V w R + 1) / 2 := by unfold cannV; rw [if_pos z]
    repeat (first | refine e2_step rfl rfl ?_ | refine e2c_get hi rfl rfl rfl rfl ?_ | refine e2c_lget rfl rfl ?_ | refine e2c_iald _ hi rfl rfl rfl rfl (by omega) ?_ | refine e2c_lald _ rfl rfl (by omega) ?_)
    rw [nI_add']
    refine e2_div rfl (by decide) ?_
    rw [pk_div (by omega) (by decide) (by decide)]
    rw [e] at hgo ⊢
    repeat (first | refine e2_stepS 48 rfl rfl rfl ?_ | refine e2c_getS 48 rfl hi rfl rfl rfl rfl ?_ | refine e2c_lgetS 48 rfl rfl rfl ?_ | refine e2c_ialdS 48 rfl _ hi rfl rfl rfl rfl (by omega) ?_)
    exact e2_dropK hgo ⟨rfl, rfl, rfl, rfl, rfl, trivial⟩
end NE
