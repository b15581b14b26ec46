/-! More looks of an office. -/
section NT
variable {ε : EE} {J : JT} {pc : Nat} {ls : List (Option V0)} {st : List V0} {G : GG} {i : Nat} {V : VV} {s : Int32} {o : Nat → Int32} {Q : Option Int32 → GG → Prop}
theorem k_countRounds (hi : i < 19) : FC ε jX0_countRounds [.inr (i, 12)] G i V s o (some (sumI (V 16) 48)) V s o := by
  obtain ⟨n48, h48⟩ : ∃ n, n = 48 := ⟨_, rfl⟩
  rw [← h48]
  refine C2.of (ls := [some (.inr (i, 12)), none, none]) okX0_countRounds rfl rfl ?_
  repeat (first | refine e2_stepS 4 rfl rfl rfl ?_ | refine e2c_getS 4 rfl hi rfl rfl rfl rfl ?_ | refine e2c_lgetS 4 rfl rfl rfl ?_ | refine e2c_ialdS 4 rfl _ hi rfl rfl rfl rfl (by omega) ?_)
  refine e2_for n48 (fun l => [some (.inr (i, 12)), some (.inl (sumI (V 16) l)), some (.inl (nI l))]) (fun l => cG G i V s o) (fun l hl K => ?_) (fun M hM => ?_)
  · repeat (first | refine e2_step rfl rfl ?_ | refine e2c_get hi rfl rfl rfl rfl ?_ | refine e2c_lget rfl rfl ?_ | refine e2c_iald _ hi rfl rfl rfl rfl (by omega) ?_ | refine e2c_lald _ rfl rfl (by omega) ?_)
    refine e2_alen (i := i) (kk := 16) (n := 48) rfl hi rfl (by decide) ?_
    refine e2_if rfl rfl (fun c => absurd c (nI_ge (by omega) (by omega))) (fun _ => ?_)
    repeat (first | refine e2_stepS 4 rfl rfl rfl ?_ | refine e2c_getS 4 rfl hi rfl rfl rfl rfl ?_ | refine e2c_lgetS 4 rfl rfl rfl ?_ | refine e2c_ialdS 4 rfl _ hi rfl rfl rfl rfl (by omega) ?_)
    rw [nI_add']
    exact K
  · repeat (first | refine e2_step rfl rfl ?_ | refine e2c_get hi rfl rfl rfl rfl ?_ | refine e2c_lget rfl rfl ?_ | refine e2c_iald _ hi rfl rfl rfl rfl (by omega) ?_ | refine e2c_lald _ rfl rfl (by omega) ?_)
    refine e2_alen (i := i) (kk := 16) (n := 48) rfl hi rfl (by decide) ?_
    refine e2_if rfl rfl (fun _ => ?_) (fun c => absurd (by rw [hM, h48]; exact Int32.le_refl _) c)
    repeat (first | refine e2_step rfl rfl ?_ | refine e2c_get hi rfl rfl rfl rfl ?_ | refine e2c_lget rfl rfl ?_ | refine e2c_iald _ hi rfl rfl rfl rfl (by omega) ?_ | refine e2c_lald _ rfl rfl (by omega) ?_)
    exact e2_iret rfl rfl ⟨by rw [hM], rfl⟩
def stryV (V : VV) (l : Nat) : Bool := decide (V 7 l = nI 1) && decide (¬ V 8 l = nI (wkV V l))
theorem w_countStray {N : Nat} (hi : i < 19) (hN : N ≤ 120) (hok : okV V N) (hc : V 3 8 = nI N) : FC ε jX5_countStrayLetters [.inr (i, 0)] G i V s o (some (nI (cntB (stryV V) N))) V s o := by
  refine C2.of (ls := [some (.inr (i, 0)), none, none]) okX5_countStrayLetters rfl rfl ?_
  repeat (first | refine e2_stepS 4 rfl rfl rfl ?_ | refine e2c_getS 4 rfl hi rfl rfl rfl rfl ?_ | refine e2c_lgetS 4 rfl rfl rfl ?_ | refine e2c_ialdS 4 rfl _ hi rfl rfl rfl rfl (by omega) ?_)
  refine e2_for N (fun l => [some (.inr (i, 0)), some (.inl (nI (cntB (stryV V) l))), some (.inl (nI l))]) (fun _ => cG G i V s o) (fun l hl K => ?_) (fun M hM => ?_)
  · repeat (first | refine e2_step rfl rfl ?_ | refine e2c_get hi rfl rfl rfl rfl ?_ | refine e2c_lget rfl rfl ?_ | refine e2c_iald _ hi rfl rfl rfl rfl (by omega) ?_ | refine e2c_lald _ rfl rfl (by omega) ?_)
    rw [hc]
    refine e2_if rfl rfl (fun z => absurd z (nI_ge hl (by omega))) (fun _ => ?_)
    repeat (first | refine e2_step rfl rfl ?_ | refine e2c_get hi rfl rfl rfl rfl ?_ | refine e2c_lget rfl rfl ?_ | refine e2c_iald _ hi rfl rfl rfl rfl (by omega) ?_ | refine e2c_lald _ rfl rfl (by omega) ?_)
    simp only [cntB] at K
    have hs : stryV V l = (decide (V 7 l = nI 1) && decide (¬ V 8 l = nI (wkV V l))) := rfl
    refine e2_if rfl rfl (fun z => ?_) (fun z => ?_)
    · have z' : ¬ V 7 l = nI 1 := z
      rw [hs, decide_eq_false z', Bool.false_and] at K
      simp only [Bool.false_eq_true, if_false, Nat.add_zero] at K
      repeat (first | refine e2_stepS 4 rfl rfl rfl ?_ | refine e2c_getS 4 rfl hi rfl rfl rfl rfl ?_ | refine e2c_lgetS 4 rfl rfl rfl ?_ | refine e2c_ialdS 4 rfl _ hi rfl rfl rfl rfl (by omega) ?_)
      rw [nI_add']
      exact K
    · have z' : V 7 l = nI 1 := Classical.not_not.1 z
      repeat (first | refine e2_step rfl rfl ?_ | refine e2c_get hi rfl rfl rfl rfl ?_ | refine e2c_lget rfl rfl ?_ | refine e2c_iald _ hi rfl rfl rfl rfl (by omega) ?_ | refine e2c_lald _ rfl rfl (by omega) ?_)
      refine e2c_fi (w_walkOf hi hN hok hl) rfl rfl ⟨rfl, rfl, rfl⟩ rfl rfl rfl hi rfl rfl rfl rfl ?_
      refine e2_if rfl rfl (fun y => ?_) (fun y => ?_)
      · have y' : V 8 l = nI (wkV V l) := y
        rw [hs, decide_eq_false (p := ¬ V 8 l = nI (wkV V l)) (fun q => q y'), Bool.and_false] at K
        simp only [Bool.false_eq_true, if_false, Nat.add_zero] at K
        repeat (first | refine e2_stepS 4 rfl rfl rfl ?_ | refine e2c_getS 4 rfl hi rfl rfl rfl rfl ?_ | refine e2c_lgetS 4 rfl rfl rfl ?_ | refine e2c_ialdS 4 rfl _ hi rfl rfl rfl rfl (by omega) ?_)
        rw [nI_add']
        exact K
      · have y' : ¬ V 8 l = nI (wkV V l) := y
        rw [hs, decide_eq_true z', decide_eq_true y', Bool.and_true] at K
        simp only [if_true] at K
        repeat (first | refine e2_stepS 4 rfl rfl rfl ?_ | refine e2c_getS 4 rfl hi rfl rfl rfl rfl ?_ | refine e2c_lgetS 4 rfl rfl rfl ?_ | refine e2c_ialdS 4 rfl _ hi rfl rfl rfl rfl (by omega) ?_)
        rw [nI_add', nI_add']
        exact K
  · repeat (first | refine e2_step rfl rfl ?_ | refine e2c_get hi rfl rfl rfl rfl ?_ | refine e2c_lget rfl rfl ?_ | refine e2c_iald _ hi rfl rfl rfl rfl (by omega) ?_ | refine e2c_lald _ rfl rfl (by omega) ?_)
    rw [hc]
    refine e2_if rfl rfl (fun _ => ?_) (fun c => absurd (by rw [hM]; exact Int32.le_refl _) c)
    repeat (first | refine e2_step rfl rfl ?_ | refine e2c_get hi rfl rfl rfl rfl ?_ | refine e2c_lget rfl rfl ?_ | refine e2c_iald _ hi rfl rfl rfl rfl (by omega) ?_ | refine e2c_lald _ rfl rfl (by omega) ?_)
    exact e2_iret rfl rfl ⟨by rw [hM], rfl⟩
end NT
