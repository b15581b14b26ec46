/-! The law: its start, its end, its body. -/
section MY
variable {ε : EE} {J J' : JT} {X X' : Array Value → State → Prop} {Z : List Frame → Array Value → State → State → Prop} {mc ms cells slots pc : Nat} {lg : List (Nat × Int64)} {lst : List Int64} {ls ls' : List (Option V0)} {st : List V0} {ws ws' : va_W} {G G' G0 G1 : GG} {N Y k b L d fa : Nat} {xs : Nat → Int32} {nm : String} {x5 : Option V0}
set_option maxRecDepth 100000 in
set_option maxHeartbeats 4000000 in
theorem l_fin (hc : cells ≤ mc ∧ slots ≤ ms) (h : SG G0) (hend : ∀ G lg ls, EQ ε (jLaw nm) X Z mc ms lg [] cells slots 309 ls [.inl (nI 1)] (wd ε G)) : ET ε (jLaw nm) X Z mc ms G0 [] [] cells slots 77 [some (.inr (b, 99)), some (.inr (0, 30)), some (.inl (nI 40)), none, none, none] [] := by
  obtain ⟨N, hN⟩ := h.1
  repeat (first | refine et_step rfl rfl rfl ?_)
  refine et_if rfl rfl (fun _ => ?_) (fun z => absurd (Int32.le_refl _) z)
  repeat (first | refine et_step rfl rfl rfl ?_)
  refine et_statl (H_told hN) rfl rfl ⟨rfl, rfl, rfl⟩ rfl rfl rfl hc ?_
  refine et_drop (ls' := [some (.inr (b, 99)), some (.inr (0, 30)), none, none, none, none]) (show e_sub [some (.inr (b, 99)), some (.inr (0, 30)), none, none, none, none] [some (.inr (b, 99)), some (.inr (0, 30)), some (.inl (nI 40)), none, none, none] from ⟨rfl, rfl, trivial⟩) (fun _ z => z) ?_
  refine et_lstore (a := 2) dLaw_197 rfl rfl rfl rfl ?_
  repeat (first | refine et_step rfl rfl rfl ?_)
  refine et_look (R_post) rfl rfl ⟨rfl, rfl, rfl⟩ rfl rfl rfl rfl hc ?_
  repeat (first | refine et_step rfl rfl rfl ?_)
  refine et_if rfl rfl (fun z => absurd rfl z) (fun _ => ?_)
  repeat (first | refine et_step rfl rfl rfl ?_)
  refine et_look (R_setRange) rfl rfl ⟨rfl, rfl, rfl⟩ rfl rfl rfl rfl hc ?_
  repeat (first | refine et_step rfl rfl rfl ?_)
  refine et_if rfl rfl (fun z => absurd rfl z) (fun _ => ?_)
  repeat (first | refine et_step rfl rfl rfl ?_)
  refine et_look (R_set) rfl rfl ⟨rfl, rfl, rfl⟩ rfl rfl rfl rfl hc ?_
  repeat (first | refine et_step rfl rfl rfl ?_)
  refine et_if rfl rfl (fun z => absurd rfl z) (fun _ => ?_)
  repeat (first | refine et_step rfl rfl rfl ?_)
  refine et_look (R_goOut) rfl rfl ⟨rfl, rfl, rfl⟩ rfl rfl rfl rfl hc ?_
  repeat (first | refine et_step rfl rfl rfl ?_)
  refine et_if rfl rfl (fun z => absurd rfl z) (fun _ => ?_)
  repeat (first | refine et_step rfl rfl rfl ?_)
  refine et_look (R_letter hN) rfl rfl ⟨rfl, rfl, rfl⟩ rfl rfl rfl rfl hc ?_
  repeat (first | refine et_step rfl rfl rfl ?_)
  refine et_if rfl rfl (fun z => absurd rfl z) (fun _ => ?_)
  repeat (first | refine et_step rfl rfl rfl ?_)
  refine et_look (R_take) rfl rfl ⟨rfl, rfl, rfl⟩ rfl rfl rfl rfl hc ?_
  repeat (first | refine et_step rfl rfl rfl ?_)
  refine et_if rfl rfl (fun z => absurd rfl z) (fun _ => ?_)
  repeat (first | refine et_step rfl rfl rfl ?_)
  refine et_look (R_count) rfl rfl ⟨rfl, rfl, rfl⟩ rfl rfl rfl rfl hc ?_
  repeat (first | refine et_step rfl rfl rfl ?_)
  refine et_if rfl rfl (fun z => absurd rfl z) (fun _ => ?_)
  repeat (first | refine et_step rfl rfl rfl ?_)
  refine et_look (R_inFrame) rfl rfl ⟨rfl, rfl, rfl⟩ rfl rfl rfl rfl hc ?_
  repeat (first | refine et_step rfl rfl rfl ?_)
  refine et_if rfl rfl (fun z => absurd rfl z) (fun _ => ?_)
  repeat (first | refine et_step rfl rfl rfl ?_)
  refine et_if rfl rfl (fun z => absurd z (by decide)) (fun _ => ?_)
  repeat (first | refine et_step rfl rfl rfl ?_)
  refine et_statl (H_told hN) rfl rfl ⟨rfl, rfl, rfl⟩ rfl rfl rfl hc ?_
  refine et_lload (a := 2) dLaw_299 rfl rfl ?_
  refine et_lcmp dLaw_300 ?_
  refine et_if rfl rfl (fun z => absurd (cmp0 _) z) (fun _ => ?_)
  repeat (first | refine et_step rfl rfl rfl ?_)
  exact fun G _ => hend G _ _
theorem l_loop (hε : ε.2.2.2.2.2 = []) (hL : L < 1000) (hend : ∀ G lg ls cells slots, cells ≤ mc → slots ≤ ms → EQ ε (jLaw nm) (lXL b L xs ε) Z mc ms lg [] cells slots 309 ls [.inl (nI 1)] (wd ε G)) : ∀ m k G0 cells slots, k + m = 40 → SG G0 → cells + 4 * m ≤ mc → slots + 28 * m ≤ ms → ET ε (jLaw nm) (lXL b L xs ε) Z mc ms G0 [] [] cells slots 77 [some (.inr (b, 99)), some (.inr (0, 30)), some (.inl (nI k)), none, none, none] [] := by
  intro m
  induction m with
  | zero =>
    intro k G0 cells slots hk h h1 h2
    have : k = 40 := by omega
    subst this
    exact l_fin ⟨by omega, by omega⟩ h (fun G lg ls => hend G lg ls _ _ (by omega) (by omega))
  | succ m ih =>
    intro k G0 cells slots hk h h1 h2
    exact l_round hε ⟨by omega, by omega⟩ hL (by omega) h (fun G' h' => ih (k + 1) G' _ _ (by omega) h' (by omega) (by omega))
set_option maxRecDepth 100000 in
theorem z_8 : cntB (fun c => decide (¬ O GZ 0 2 (c + 1) = O GZ 0 2 c)) 99 = 7 := by decide +kernel
theorem z_b : bwwV (O GZ 0) 0 6 = some 0 := by decide +kernel
set_option maxRecDepth 100000 in
set_option maxHeartbeats 4000000 in
theorem l_init (hc : cells ≤ mc ∧ slots ≤ ms) (K : ∀ G', SG G' → ET ε (jLaw nm) X Z mc ms G' [] [] cells slots 77 [some (.inr (b, 99)), some (.inr (0, 30)), some (.inl (nI 0)), none, none, none] []) : ET ε (jLaw nm) X Z mc ms GZ [] [] cells slots 8 [some (.inr (b, 99)), some (.inr (0, 30)), none, none, none, none] [] := by
  have q8 : Lk ε jX8_count [.inl (nI 8)] GZ (nI 8) := by
    have q := L_count (ε := ε) (G0 := GZ) IV_Z (k := 8) (by omega)
    have e : aCount GZ 0 8 = nI (1 + cntB (fun c => decide (¬ O GZ 0 2 (c + 1) = O GZ 0 2 c)) 99) := rfl
    rw [e, z_8] at q
    exact q
  have q1 : Lk ε jX8_undo [] GZ (-2) := L_undo0 rfl
  have q2 : Lk ε jX8_clearIn [] GZ (nI 0) := L_clearIn IV_Z
  have q3 : Lk ε jX8_inBag [.inl (nI 0)] GZ (-9) := L_inBag IV_Z (j := 0) (by omega)
  have q4 : Lk ε jX8_restore [.inl (nI 0)] GZ (-2) := L_restoreNo (t := 0) (by omega) rfl
  repeat (first | refine et_step rfl rfl rfl ?_)
  refine et_look (q8) rfl rfl ⟨rfl, rfl, rfl⟩ rfl rfl rfl rfl hc ?_
  repeat (first | refine et_step rfl rfl rfl ?_)
  refine et_if rfl rfl (fun z => absurd rfl z) (fun _ => ?_)
  repeat (first | refine et_step rfl rfl rfl ?_)
  refine et_look (As := []) q1 rfl rfl ⟨rfl, rfl, rfl⟩ rfl rfl rfl rfl hc ?_
  repeat (first | refine et_step rfl rfl rfl ?_)
  refine et_if rfl rfl (fun z => absurd rfl z) (fun _ => ?_)
  repeat (first | refine et_step rfl rfl rfl ?_)
  refine et_look (As := []) q2 rfl rfl ⟨rfl, rfl, rfl⟩ rfl rfl rfl rfl hc ?_
  repeat (first | refine et_step rfl rfl rfl ?_)
  refine et_if rfl rfl (fun z => absurd (by decide) z) (fun _ => ?_)
  repeat (first | refine et_step rfl rfl rfl ?_)
  refine et_look (q3) rfl rfl ⟨rfl, rfl, rfl⟩ rfl rfl rfl rfl hc ?_
  repeat (first | refine et_step rfl rfl rfl ?_)
  refine et_if rfl rfl (fun z => absurd rfl z) (fun _ => ?_)
  repeat (first | refine et_step rfl rfl rfl ?_)
  refine et_look (q4) rfl rfl ⟨rfl, rfl, rfl⟩ rfl rfl rfl rfl hc ?_
  repeat (first | refine et_step rfl rfl rfl ?_)
  refine et_if rfl rfl (fun z => absurd rfl z) (fun _ => ?_)
  repeat (first | refine et_step rfl rfl rfl ?_)
  refine et_op (As := []) (r := -1000) (P := fun G' => SG G' ∧ O G' 0 = O GZ 0) (fun G hG => C2.post (fun v G' z => ⟨z.1, z.2.1, z.2.2.1.trans (hG.oo (by omega))⟩) (D_setRanges (hG.sg SG_Z))) rfl rfl ⟨rfl, rfl, rfl⟩ rfl rfl rfl rfl hc (fun G1 zz => ?_)
  obtain ⟨h1, hO⟩ := zz
  have q5 : Lk ε jX8_bestCarrier [.inl (nI 0)] G1 (nI 0) := by
    have q := L_best (ε := ε) (G0 := G1) (w := 0) (by omega)
    rw [hO, z_b] at q
    exact q
  repeat (first | refine et_step rfl rfl rfl ?_)
  refine et_if rfl rfl (fun z => absurd rfl z) (fun _ => ?_)
  repeat (first | refine et_step rfl rfl rfl ?_)
  refine et_look (q5) rfl rfl ⟨rfl, rfl, rfl⟩ rfl rfl rfl rfl hc ?_
  refine et_if rfl rfl (fun _ => ?_) (fun z => absurd (by decide) z)
  repeat (first | refine et_stepS 77 rfl rfl rfl rfl ?_)
  exact K G1 h1
theorem el_move {A : Nat → Nat → Nat} (hP : ∀ H, va_P ε.2.1 vwCl ws H → va_P ε.2.1 vwCl ws' H) (hD : va_D (e_A ε) ws → va_D (e_A ε) ws') (hX : ∀ args s, X args s → X' args s) (hls : e_ll ε 0 ls = e_ll (sa ε A) 0 ls') (k : EL (sa ε A) J X' Z mc ms cells slots pc ls' [] ws') : EL ε J X Z mc ms cells slots pc ls [] ws := by
  intro hT p e R s m args below meth c H locs lsA C XX hPP hDD hS hl
  exact k hT p e R s m args below meth c H locs lsA C (hX _ _ XX) (hP H hPP) (hD hDD) hS (by
    unfold e_L at hl ⊢
    rw [← hls]
    exact hl)
def lX1 (ε : EE) (fa b L : Nat) (xs : Nat → Int32) (args : Array Value) (s : State) : Prop := XF ε fa s ∧ lXL b L xs ε args s
set_option maxRecDepth 100000 in
set_option maxHeartbeats 4000000 in
theorem l_body (hL : L < 1000) (hend : ∀ (A : Nat → Nat → Nat) G lg ls cells slots, cells ≤ 600000 → slots ≤ 7302250 → EQ (sa ε A) (jLaw nm) (lXL b L xs (sa ε A)) Z 600000 7302250 lg [] cells slots 309 ls [.inl (nI 1)] (wd (sa ε A) G)) : EL ε (jLaw nm) (lX1 ε fa b L xs) Z 600000 7302250 0 0 0 [some (.inr (b, 99)), none, none, none, none, none] [] [] := by
  have hXX : ∀ args s, lX1 ε fa b L xs args s → XS ε fa (fun i => nI (fcN i)) s := fun _ _ z => z.1
  refine la_ctor (t := 8) (i_walkFrames []) dLaw_0 (by decide) kl_10_9 in_8 it_8 rfl rfl rfl ⟨rfl, rfl, rfl⟩ rfl rfl rfl hXX (fun h ws1 z => ?_)
  obtain ⟨M, T, y, e0, rfl⟩ := z
  rw [List.nil_append]
  refine el_step rfl rfl ?_
  refine el_move (A := AA M T y) (ws' := wd (sa ε (AA M T y)) GZ) (X' := lXL b L xs (sa ε (AA M T y))) (ls' := [some (.inr (b, 99)), some (.inr (0, 30)), none, none, none, none]) (fun H hP => P_wd hP) (fun hD => D_wd hD) (fun _ _ z => z.2) ?_ ?_
  · subst e0
    rfl
  · exact el_of_q (l_init (mc := 600000) (ms := 7302250) ⟨by decide, by decide⟩ (fun G' h' => l_loop rfl hL (fun G lg ls cells slots h1 h2 => hend _ G lg ls cells slots h1 h2) 40 0 G' _ _ rfl h' (by decide) (by decide)) GZ lk1.rf)
end MY
