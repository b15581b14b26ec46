/-! Letters of office i. -/
section NB
variable {ε : EE} {J : JT} {pc : Nat} {ls : List (Option V0)} {st : List V0} {G : GG} {i : Nat} {V : VV} {s : Int32} {o : Nat → Int32} {Q : Option Int32 → GG → Prop}
def finV (V : VV) (l : Nat) (p h : Int32) : VV := wv (moveV V l p (-9)) 10 l h
theorem v_finish {N l : Nat} (hi : i < 19) (hN : N ≤ 120) (hc : V 3 8 = nI N) (hl : l < N) (p h : Int32) (h1 : V 7 l = nI 1 → ∃ w, w < 8 ∧ V 8 l = nI w) (h2 : ¬ p = nI 1) : FC ε jX2_finish [.inr (i, 3), .inl (nI l), .inl p, .inl h] G i V s o none (finV V l p h) s o := by
  refine C2.of (ls := [some (.inr (i, 3)), some (.inl (nI l)), some (.inl p), some (.inl h)]) okX2_finish rfl rfl ?_
  repeat (first | refine e2_step rfl rfl ?_ | refine e2c_get hi rfl rfl rfl rfl ?_ | refine e2c_lget rfl rfl ?_ | refine e2c_iald _ hi rfl rfl rfl rfl (by omega) ?_ | refine e2c_lald _ rfl rfl (by omega) ?_)
  refine e2c_fi (v_has hi hN hc hl) rfl rfl ⟨rfl, rfl, rfl⟩ rfl rfl rfl hi rfl rfl rfl rfl ?_
  refine e2_if rfl rfl (fun z => absurd z (by decide)) (fun _ => ?_)
  repeat (first | refine e2_step rfl rfl ?_ | refine e2c_get hi rfl rfl rfl rfl ?_ | refine e2c_lget rfl rfl ?_ | refine e2c_iald _ hi rfl rfl rfl rfl (by omega) ?_ | refine e2c_lald _ rfl rfl (by omega) ?_)
  refine e2c_fv (v_moveTo hi hN hc hl p (-9) h1 (fun z => absurd z h2)) rfl rfl ⟨rfl, rfl, rfl⟩ rfl rfl rfl hi rfl rfl rfl rfl ?_
  repeat (first | refine e2_step rfl rfl ?_ | refine e2c_get hi rfl rfl rfl rfl ?_ | refine e2c_lget rfl rfl ?_ | refine e2c_iald _ hi rfl rfl rfl rfl (by omega) ?_ | refine e2c_lald _ rfl rfl (by omega) ?_)
  refine e2c_iast l hi rfl rfl rfl rfl (by omega) ?_
  exact e2_vret rfl rfl ⟨rfl, rfl⟩
def ovV (V : VV) : Nat → VV
  | 0 => V
  | n + 1 => if ovV V n 7 n = nI 2 then moveV (ovV V n) n (nI 0) (-9) else ovV V n
theorem moveV_o {l : Nat} {p k : Int32} {kk : Nat} (h7 : kk ≠ 7) (h8 : kk ≠ 8) (h11 : kk ≠ 11) : moveV V l p k kk = V kk := by
  unfold moveV upV dnV wv sv
  repeat' split
  all_goals simp_all
theorem ovV_o {kk : Nat} (h7 : kk ≠ 7) (h8 : kk ≠ 8) (h11 : kk ≠ 11) : ∀ n, ovV V n kk = V kk
  | 0 => rfl
  | n + 1 => by
    unfold ovV
    split
    · rw [moveV_o h7 h8 h11, ovV_o h7 h8 h11 n]
    · exact ovV_o h7 h8 h11 n
theorem n21 : ¬ nI 2 = nI 1 := by decide
theorem n01 : ¬ nI 0 = nI 1 := by decide
theorem v_emptyOverflow {N : Nat} (hi : i < 19) (hN : N ≤ 120) (hc : V 3 8 = nI N) : FC ε jX2_emptyOverflow [.inr (i, 3)] G i V s o none (ovV V N) s o := by
  refine C2.of (ls := [some (.inr (i, 3)), none]) okX2_emptyOverflow rfl rfl ?_
  repeat (first | refine e2_stepS 2 rfl rfl rfl ?_ | refine e2c_getS 2 rfl hi rfl rfl rfl rfl ?_ | refine e2c_lgetS 2 rfl rfl rfl ?_ | refine e2c_ialdS 2 rfl _ hi rfl rfl rfl rfl (by omega) ?_)
  refine e2_for N (fun l => [some (.inr (i, 3)), some (.inl (nI l))]) (fun l => cG G i (ovV V l) s o) (fun l hl K => ?_) (fun M hM => ?_)
  · repeat (first | refine e2_step rfl rfl ?_ | refine e2c_get hi rfl rfl rfl rfl ?_ | refine e2c_lget rfl rfl ?_ | refine e2c_iald _ hi rfl rfl rfl rfl (by omega) ?_ | refine e2c_lald _ rfl rfl (by omega) ?_)
    rw [ovV_o (by decide) (by decide) (by decide), hc]
    refine e2_if rfl rfl (fun c => absurd c (nI_ge hl (by omega))) (fun _ => ?_)
    repeat (first | refine e2_step rfl rfl ?_ | refine e2c_get hi rfl rfl rfl rfl ?_ | refine e2c_lget rfl rfl ?_ | refine e2c_iald _ hi rfl rfl rfl rfl (by omega) ?_ | refine e2c_lald _ rfl rfl (by omega) ?_)
    simp only [ovV] at K
    refine e2_if rfl rfl (fun c => ?_) (fun c => ?_)
    · rw [if_neg c] at K
      repeat (first | refine e2_stepS 2 rfl rfl rfl ?_ | refine e2c_getS 2 rfl hi rfl rfl rfl rfl ?_ | refine e2c_lgetS 2 rfl rfl rfl ?_ | refine e2c_ialdS 2 rfl _ hi rfl rfl rfl rfl (by omega) ?_)
      rw [nI_add']
      exact K
    · have c := Classical.not_not.1 c
      rw [if_pos c] at K
      repeat (first | refine e2_step rfl rfl ?_ | refine e2c_get hi rfl rfl rfl rfl ?_ | refine e2c_lget rfl rfl ?_ | refine e2c_iald _ hi rfl rfl rfl rfl (by omega) ?_ | refine e2c_lald _ rfl rfl (by omega) ?_)
      refine e2c_fv (v_moveTo hi hN (by rw [ovV_o (by decide) (by decide) (by decide)]; exact hc) hl (nI 0) (-9) (fun z => absurd (c.symm.trans z) n21) (fun z => absurd z n01)) rfl rfl ⟨rfl, rfl, rfl⟩ rfl rfl rfl hi rfl rfl rfl rfl ?_
      repeat (first | refine e2_stepS 2 rfl rfl rfl ?_ | refine e2c_getS 2 rfl hi rfl rfl rfl rfl ?_ | refine e2c_lgetS 2 rfl rfl rfl ?_ | refine e2c_ialdS 2 rfl _ hi rfl rfl rfl rfl (by omega) ?_)
      rw [nI_add']
      exact K
  · repeat (first | refine e2_step rfl rfl ?_ | refine e2c_get hi rfl rfl rfl rfl ?_ | refine e2c_lget rfl rfl ?_ | refine e2c_iald _ hi rfl rfl rfl rfl (by omega) ?_ | refine e2c_lald _ rfl rfl (by omega) ?_)
    rw [ovV_o (by decide) (by decide) (by decide), hc]
    refine e2_if rfl rfl (fun _ => ?_) (fun c => absurd (by rw [hM]; exact Int32.le_refl _) c)
    exact e2_vret rfl rfl ⟨rfl, by rw [hM]⟩
theorem v_countInHand {N : Nat} (hi : i < 19) (hN : N ≤ 120) (hc : V 3 8 = nI N) (k : Int32) : FC ε jX2_countInHand [.inr (i, 3), .inl k] G i V s o (some (nI (cntB (atV V (nI 3) k) N))) V s o := by
  refine C2.of (ls := [some (.inr (i, 3)), some (.inl k), none, none]) okX2_countInHand rfl rfl ?_
  repeat (first | refine e2_stepS 4 rfl rfl rfl ?_ | refine e2c_getS 4 rfl hi rfl rfl rfl rfl ?_ | refine e2c_lgetS 4 rfl rfl rfl ?_ | refine e2c_ialdS 4 rfl _ hi rfl rfl rfl rfl (by omega) ?_)
  refine e2_for N (fun l => [some (.inr (i, 3)), some (.inl k), some (.inl (nI (cntB (atV V (nI 3) k) l))), some (.inl (nI l))]) (fun l => cG G i V s o) (fun l hl K => ?_) (fun M hM => ?_)
  · repeat (first | refine e2_step rfl rfl ?_ | refine e2c_get hi rfl rfl rfl rfl ?_ | refine e2c_lget rfl rfl ?_ | refine e2c_iald _ hi rfl rfl rfl rfl (by omega) ?_ | refine e2c_lald _ rfl rfl (by omega) ?_)
    rw [hc]
    refine e2_if rfl rfl (fun c => absurd c (nI_ge hl (by omega))) (fun _ => ?_)
    repeat (first | refine e2_step rfl rfl ?_ | refine e2c_get hi rfl rfl rfl rfl ?_ | refine e2c_lget rfl rfl ?_ | refine e2c_iald _ hi rfl rfl rfl rfl (by omega) ?_ | refine e2c_lald _ rfl rfl (by omega) ?_)
    refine e2c_fi (v_isAt hi hN hc hl (nI 3) k) rfl rfl ⟨rfl, rfl, rfl⟩ rfl rfl rfl hi rfl rfl rfl rfl ?_
    simp only [cntB] at K
    refine e2_if rfl rfl (fun c => ?_) (fun c => ?_)
    · rw [bI_0] at c
      rw [c] at K
      repeat (first | refine e2_stepS 4 rfl rfl rfl ?_ | refine e2c_getS 4 rfl hi rfl rfl rfl rfl ?_ | refine e2c_lgetS 4 rfl rfl rfl ?_ | refine e2c_ialdS 4 rfl _ hi rfl rfl rfl rfl (by omega) ?_)
      rw [nI_add']
      exact K
    · rw [bI_0, Bool.not_eq_false] at c
      rw [c] at K
      repeat (first | refine e2_stepS 4 rfl rfl rfl ?_ | refine e2c_getS 4 rfl hi rfl rfl rfl rfl ?_ | refine e2c_lgetS 4 rfl rfl rfl ?_ | refine e2c_ialdS 4 rfl _ hi rfl rfl rfl rfl (by omega) ?_)
      rw [nI_add', nI_add']
      exact K
  · repeat (first | refine e2_step rfl rfl ?_ | refine e2c_get hi rfl rfl rfl rfl ?_ | refine e2c_lget rfl rfl ?_ | refine e2c_iald _ hi rfl rfl rfl rfl (by omega) ?_ | refine e2c_lald _ rfl rfl (by omega) ?_)
    rw [hc]
    refine e2_if rfl rfl (fun _ => ?_) (fun c => absurd (by rw [hM]; exact Int32.le_refl _) c)
    repeat (first | refine e2_step rfl rfl ?_ | refine e2c_get hi rfl rfl rfl rfl ?_ | refine e2c_lget rfl rfl ?_ | refine e2c_iald _ hi rfl rfl rfl rfl (by omega) ?_ | refine e2c_lald _ rfl rfl (by omega) ?_)
    exact e2_iret rfl rfl ⟨by rw [hM], rfl⟩
theorem v_countFirstClass {N : Nat} (hi : i < 19) (hN : N ≤ 120) (hc : V 3 8 = nI N) (k : Int32) : FC ε jX2_countFirstClass [.inr (i, 3), .inl k] G i V s o (some (nI (cntB (fun l => atV V (nI 1) k l && decide (V 5 l = nI 1)) N))) V s o := by
  refine C2.of (ls := [some (.inr (i, 3)), some (.inl k), none, none]) okX2_countFirstClass rfl rfl ?_
  repeat (first | refine e2_stepS 4 rfl rfl rfl ?_ | refine e2c_getS 4 rfl hi rfl rfl rfl rfl ?_ | refine e2c_lgetS 4 rfl rfl rfl ?_ | refine e2c_ialdS 4 rfl _ hi rfl rfl rfl rfl (by omega) ?_)
  refine e2_for N (fun l => [some (.inr (i, 3)), some (.inl k), some (.inl (nI (cntB (fun l => atV V (nI 1) k l && decide (V 5 l = nI 1)) l))), some (.inl (nI l))]) (fun l => cG G i V s o) (fun l hl K => ?_) (fun M hM => ?_)
  · repeat (first | refine e2_step rfl rfl ?_ | refine e2c_get hi rfl rfl rfl rfl ?_ | refine e2c_lget rfl rfl ?_ | refine e2c_iald _ hi rfl rfl rfl rfl (by omega) ?_ | refine e2c_lald _ rfl rfl (by omega) ?_)
    rw [hc]
    refine e2_if rfl rfl (fun c => absurd c (nI_ge hl (by omega))) (fun _ => ?_)
    repeat (first | refine e2_step rfl rfl ?_ | refine e2c_get hi rfl rfl rfl rfl ?_ | refine e2c_lget rfl rfl ?_ | refine e2c_iald _ hi rfl rfl rfl rfl (by omega) ?_ | refine e2c_lald _ rfl rfl (by omega) ?_)
    refine e2c_fi (v_isAt hi hN hc hl (nI 1) k) rfl rfl ⟨rfl, rfl, rfl⟩ rfl rfl rfl hi rfl rfl rfl rfl ?_
    simp only [cntB] at K
    refine e2_if rfl rfl (fun c => ?_) (fun c => ?_)
    · rw [bI_0] at c
      simp only [c, Bool.false_and, Bool.false_eq_true, if_false] at K
      repeat (first | refine e2_stepS 4 rfl rfl rfl ?_ | refine e2c_getS 4 rfl hi rfl rfl rfl rfl ?_ | refine e2c_lgetS 4 rfl rfl rfl ?_ | refine e2c_ialdS 4 rfl _ hi rfl rfl rfl rfl (by omega) ?_)
      rw [nI_add']
      exact K
    · rw [bI_0, Bool.not_eq_false] at c
      repeat (first | refine e2_step rfl rfl ?_ | refine e2c_get hi rfl rfl rfl rfl ?_ | refine e2c_lget rfl rfl ?_ | refine e2c_iald _ hi rfl rfl rfl rfl (by omega) ?_ | refine e2c_lald _ rfl rfl (by omega) ?_)
      refine e2c_fi (v_isFirst hi hN hc hl) rfl rfl ⟨rfl, rfl, rfl⟩ rfl rfl rfl hi rfl rfl rfl rfl ?_
      refine e2_if rfl rfl (fun c2 => ?_) (fun c2 => ?_)
      · rw [bI_0, decide_eq_false_iff_not] at c2
        simp only [c, c2, decide_false, Bool.and_false, Bool.false_eq_true, if_false] at K
        repeat (first | refine e2_stepS 4 rfl rfl rfl ?_ | refine e2c_getS 4 rfl hi rfl rfl rfl rfl ?_ | refine e2c_lgetS 4 rfl rfl rfl ?_ | refine e2c_ialdS 4 rfl _ hi rfl rfl rfl rfl (by omega) ?_)
        rw [nI_add']
        exact K
      · rw [bI_0, decide_eq_false_iff_not, Classical.not_not] at c2
        simp only [c, c2, decide_true, Bool.and_true, if_true] at K
        repeat (first | refine e2_stepS 4 rfl rfl rfl ?_ | refine e2c_getS 4 rfl hi rfl rfl rfl rfl ?_ | refine e2c_lgetS 4 rfl rfl rfl ?_ | refine e2c_ialdS 4 rfl _ hi rfl rfl rfl rfl (by omega) ?_)
        rw [nI_add', nI_add']
        exact K
  · repeat (first | refine e2_step rfl rfl ?_ | refine e2c_get hi rfl rfl rfl rfl ?_ | refine e2c_lget rfl rfl ?_ | refine e2c_iald _ hi rfl rfl rfl rfl (by omega) ?_ | refine e2c_lald _ rfl rfl (by omega) ?_)
    rw [hc]
    refine e2_if rfl rfl (fun _ => ?_) (fun c => absurd (by rw [hM]; exact Int32.le_refl _) c)
    repeat (first | refine e2_step rfl rfl ?_ | refine e2c_get hi rfl rfl rfl rfl ?_ | refine e2c_lget rfl rfl ?_ | refine e2c_iald _ hi rfl rfl rfl rfl (by omega) ?_ | refine e2c_lald _ rfl rfl (by omega) ?_)
    exact e2_iret rfl rfl ⟨by rw [hM], rfl⟩
theorem v_countMisroutes {N : Nat} (hi : i < 19) (hN : N ≤ 120) (hc : V 3 8 = nI N) : FC ε jX2_countMisroutes [.inr (i, 3)] G i V s o (some (sumI (V 6) N)) V s o := by
  refine C2.of (ls := [some (.inr (i, 3)), none, none]) okX2_countMisroutes rfl rfl ?_
  repeat (first | refine e2_stepS 4 rfl rfl rfl ?_ | refine e2c_getS 4 rfl hi rfl rfl rfl rfl ?_ | refine e2c_lgetS 4 rfl rfl rfl ?_ | refine e2c_ialdS 4 rfl _ hi rfl rfl rfl rfl (by omega) ?_)
  refine e2_for N (fun l => [some (.inr (i, 3)), some (.inl (sumI (V 6) l)), some (.inl (nI l))]) (fun l => cG G i V s o) (fun l hl K => ?_) (fun M hM => ?_)
  · repeat (first | refine e2_step rfl rfl ?_ | refine e2c_get hi rfl rfl rfl rfl ?_ | refine e2c_lget rfl rfl ?_ | refine e2c_iald _ hi rfl rfl rfl rfl (by omega) ?_ | refine e2c_lald _ rfl rfl (by omega) ?_)
    rw [hc]
    refine e2_if rfl rfl (fun c => absurd c (nI_ge hl (by omega))) (fun _ => ?_)
    repeat (first | refine e2_stepS 4 rfl rfl rfl ?_ | refine e2c_getS 4 rfl hi rfl rfl rfl rfl ?_ | refine e2c_lgetS 4 rfl rfl rfl ?_ | refine e2c_ialdS 4 rfl _ hi rfl rfl rfl rfl (by omega) ?_)
    rw [nI_add']
    exact K
  · repeat (first | refine e2_step rfl rfl ?_ | refine e2c_get hi rfl rfl rfl rfl ?_ | refine e2c_lget rfl rfl ?_ | refine e2c_iald _ hi rfl rfl rfl rfl (by omega) ?_ | refine e2c_lald _ rfl rfl (by omega) ?_)
    rw [hc]
    refine e2_if rfl rfl (fun _ => ?_) (fun c => absurd (by rw [hM]; exact Int32.le_refl _) c)
    repeat (first | refine e2_step rfl rfl ?_ | refine e2c_get hi rfl rfl rfl rfl ?_ | refine e2c_lget rfl rfl ?_ | refine e2c_iald _ hi rfl rfl rfl rfl (by omega) ?_ | refine e2c_lald _ rfl rfl (by omega) ?_)
    exact e2_iret rfl rfl ⟨by rw [hM], rfl⟩
def secV (V : VV) (w : Int32) (l : Nat) : Bool := atV V (nI 1) w l && decide (V 5 l = 0)
-- the bag, by six passes
def passR (p : Nat → Bool) (R : List Nat) : Nat → List Nat
  | 0 => R
  | n + 1 => if p n then n :: passR p R n else passR p R n
theorem ordA_cons (R : List Nat) (y : Nat) (o : Nat → Int32) : upd (ordA R o) R.length (nI y) = ordA (y :: R) o := by
  funext j
  simp only [upd, ordA, List.length_cons, revD]
  by_cases h : j = R.length
  · rw [if_pos h, if_pos (by omega), if_pos h]
  · rw [if_neg h]
    by_cases h2 : j < R.length
    · rw [if_pos h2, if_pos (by omega), if_neg h]
    · rw [if_neg h2, if_neg (by omega)]
def bagP (V : VV) (c m : Int32) (l : Nat) : Bool := decide (V 7 l = 0) && (decide (V 5 l = c) && decide (V 6 l = m))
theorem v_addFromBag {N : Nat} (hi : i < 19) (hN : N ≤ 120) (hc : V 3 8 = nI N) (c m : Int32) (R : List Nat) (hR : (passR (bagP V c m) R N).length ≤ 120) : FC ε jX2_addFromBag [.inr (i, 3), .inl c, .inl m, .inr (0, 40)] G i V (nI R.length) (ordA R o) none V (nI (passR (bagP V c m) R N).length) (ordA (passR (bagP V c m) R N) o) := by
  have hmono : ∀ l, l ≤ N → (passR (bagP V c m) R l).length ≤ (passR (bagP V c m) R N).length := by
    intro l hl
    have : ∀ k, (passR (bagP V c m) R l).length ≤ (passR (bagP V c m) R (l + k)).length := by
      intro k
      induction k with
      | zero => exact Nat.le_refl _
      | succ k ih =>
        refine Nat.le_trans ih ?_
        show _ ≤ (if bagP V c m (l + k) then (l + k) :: passR (bagP V c m) R (l + k) else passR (bagP V c m) R (l + k)).length
        split
        · rw [List.length_cons]; omega
        · exact Nat.le_refl _
    have h2 := this (N - l)
    rwa [show l + (N - l) = N by omega] at h2
  refine C2.of (ls := [some (.inr (i, 3)), some (.inl c), some (.inl m), some (.inr (0, 40)), none]) okX2_addFromBag rfl rfl ?_
  repeat (first | refine e2_stepS 3 rfl rfl rfl ?_ | refine e2c_getS 3 rfl hi rfl rfl rfl rfl ?_ | refine e2c_lgetS 3 rfl rfl rfl ?_ | refine e2c_ialdS 3 rfl _ hi rfl rfl rfl rfl (by omega) ?_)
  refine e2_for N (fun l => [some (.inr (i, 3)), some (.inl c), some (.inl m), some (.inr (0, 40)), some (.inl (nI l))]) (fun l => cG G i V (nI (passR (bagP V c m) R l).length) (ordA (passR (bagP V c m) R l) o)) (fun l hl K => ?_) (fun M hM => ?_)
  · have hm1 := hmono (l + 1) (by omega)
    have hs : passR (bagP V c m) R (l + 1) = if bagP V c m l then l :: passR (bagP V c m) R l else passR (bagP V c m) R l := rfl
    rw [hs] at K hm1
    repeat (first | refine e2_step rfl rfl ?_ | refine e2c_get hi rfl rfl rfl rfl ?_ | refine e2c_lget rfl rfl ?_ | refine e2c_iald _ hi rfl rfl rfl rfl (by omega) ?_ | refine e2c_lald _ rfl rfl (by omega) ?_)
    rw [hc]
    refine e2_if rfl rfl (fun z => absurd z (nI_ge hl (by omega))) (fun _ => ?_)
    repeat (first | refine e2_step rfl rfl ?_ | refine e2c_get hi rfl rfl rfl rfl ?_ | refine e2c_lget rfl rfl ?_ | refine e2c_iald _ hi rfl rfl rfl rfl (by omega) ?_ | refine e2c_lald _ rfl rfl (by omega) ?_)
    refine e2_if rfl rfl (fun z => ?_) (fun z => ?_)
    · rw [if_neg (by unfold bagP; rw [decide_eq_false z]; simp)] at K
      repeat (first | refine e2_stepS 3 rfl rfl rfl ?_ | refine e2c_getS 3 rfl hi rfl rfl rfl rfl ?_ | refine e2c_lgetS 3 rfl rfl rfl ?_ | refine e2c_ialdS 3 rfl _ hi rfl rfl rfl rfl (by omega) ?_)
      rw [nI_add']
      exact K
    · have z := Classical.not_not.1 z
      repeat (first | refine e2_step rfl rfl ?_ | refine e2c_get hi rfl rfl rfl rfl ?_ | refine e2c_lget rfl rfl ?_ | refine e2c_iald _ hi rfl rfl rfl rfl (by omega) ?_ | refine e2c_lald _ rfl rfl (by omega) ?_)
      refine e2_if rfl rfl (fun z2 => ?_) (fun z2 => ?_)
      · rw [if_neg (by unfold bagP; rw [decide_eq_false z2]; simp)] at K
        repeat (first | refine e2_stepS 3 rfl rfl rfl ?_ | refine e2c_getS 3 rfl hi rfl rfl rfl rfl ?_ | refine e2c_lgetS 3 rfl rfl rfl ?_ | refine e2c_ialdS 3 rfl _ hi rfl rfl rfl rfl (by omega) ?_)
        rw [nI_add']
        exact K
      · have z2 := Classical.not_not.1 z2
        repeat (first | refine e2_step rfl rfl ?_ | refine e2c_get hi rfl rfl rfl rfl ?_ | refine e2c_lget rfl rfl ?_ | refine e2c_iald _ hi rfl rfl rfl rfl (by omega) ?_ | refine e2c_lald _ rfl rfl (by omega) ?_)
        refine e2_if rfl rfl (fun z3 => ?_) (fun z3 => ?_)
        · rw [if_neg (by unfold bagP; rw [decide_eq_false z3]; simp)] at K
          repeat (first | refine e2_stepS 3 rfl rfl rfl ?_ | refine e2c_getS 3 rfl hi rfl rfl rfl rfl ?_ | refine e2c_lgetS 3 rfl rfl rfl ?_ | refine e2c_ialdS 3 rfl _ hi rfl rfl rfl rfl (by omega) ?_)
          rw [nI_add']
          exact K
        · have z3 := Classical.not_not.1 z3
          have hb : bagP V c m l = true := by unfold bagP; rw [decide_eq_true z, decide_eq_true z2, decide_eq_true z3]; rfl
          rw [if_pos hb] at K hm1
          rw [List.length_cons] at hm1 K
          repeat (first | refine e2_step rfl rfl ?_ | refine e2c_get hi rfl rfl rfl rfl ?_ | refine e2c_lget rfl rfl ?_ | refine e2c_iald _ hi rfl rfl rfl rfl (by omega) ?_ | refine e2c_lald _ rfl rfl (by omega) ?_)
          refine e2c_lfv (l_addLast (n := (passR (bagP V c m) R l).length) (by omega) (nI l)) rfl rfl ⟨rfl, rfl, rfl⟩ rfl rfl rfl rfl ?_
          rw [ordA_cons]
          repeat (first | refine e2_stepS 3 rfl rfl rfl ?_ | refine e2c_getS 3 rfl hi rfl rfl rfl rfl ?_ | refine e2c_lgetS 3 rfl rfl rfl ?_ | refine e2c_ialdS 3 rfl _ hi rfl rfl rfl rfl (by omega) ?_)
          rw [nI_add']
          exact K
  · repeat (first | refine e2_step rfl rfl ?_ | refine e2c_get hi rfl rfl rfl rfl ?_ | refine e2c_lget rfl rfl ?_ | refine e2c_iald _ hi rfl rfl rfl rfl (by omega) ?_ | refine e2c_lald _ rfl rfl (by omega) ?_)
    rw [hc]
    refine e2_if rfl rfl (fun _ => ?_) (fun z => absurd (by rw [hM]; exact Int32.le_refl _) z)
    exact e2_vret rfl rfl ⟨rfl, by rw [hM]⟩
end NB
