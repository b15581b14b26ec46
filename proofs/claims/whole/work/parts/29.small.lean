/-! Small looks: helpers of the class, counts of an office and of a moment, the filling of a slot. -/
section NS
variable {ε : EE} {J : JT} {pc : Nat} {ls : List (Option V0)} {st : List V0} {G : GG} {i : Nat} {V : VV} {s : Int32} {o : Nat → Int32} {Q : Option Int32 → GG → Prop}
theorem k_countOut (hi : i < 19) : FC ε jX0_countOut [.inr (i, 12)] G i V s o (some (nI (cntB (fun c => decide (¬ V 14 c = 0)) 6))) V s o := by
  obtain ⟨n6, h6⟩ : ∃ n, n = 6 := ⟨_, rfl⟩
  rw [← h6]
  refine C2.of (ls := [some (.inr (i, 12)), none, none]) okX0_countOut rfl rfl ?_
  repeat (first | refine e2_stepS 4 rfl rfl rfl ?_ | refine e2c_getS 4 rfl hi rfl rfl rfl rfl ?_ | refine e2c_lgetS 4 rfl rfl rfl ?_ | refine e2c_ialdS 4 rfl _ hi rfl rfl rfl rfl (by omega) ?_)
  refine e2_for n6 (fun c => [some (.inr (i, 12)), some (.inl (nI (cntB (fun c => decide (¬ V 14 c = 0)) c))), some (.inl (nI c))]) (fun _ => cG G i V s o) (fun c hc K => ?_) (fun M hM => ?_)
  · repeat (first | refine e2_step rfl rfl ?_ | refine e2c_get hi rfl rfl rfl rfl ?_ | refine e2c_lget rfl rfl ?_ | refine e2c_iald _ hi rfl rfl rfl rfl (by omega) ?_ | refine e2c_lald _ rfl rfl (by omega) ?_)
    refine e2_if rfl rfl (fun z => absurd z (nI_ge (by omega) (by omega))) (fun _ => ?_)
    repeat (first | refine e2_step rfl rfl ?_ | refine e2c_get hi rfl rfl rfl rfl ?_ | refine e2c_lget rfl rfl ?_ | refine e2c_iald _ hi rfl rfl rfl rfl (by omega) ?_ | refine e2c_lald _ rfl rfl (by omega) ?_)
    refine e2c_zald c hi rfl rfl rfl rfl (by omega) ?_
    simp only [cntB] at K
    refine e2_if rfl rfl (fun z => ?_) (fun z => ?_)
    · simp only [z, not_true_eq_false, decide_false, Bool.false_eq_true, if_false, Nat.add_zero] at K
      repeat (first | refine e2_stepS 4 rfl rfl rfl ?_ | refine e2c_getS 4 rfl hi rfl rfl rfl rfl ?_ | refine e2c_lgetS 4 rfl rfl rfl ?_ | refine e2c_ialdS 4 rfl _ hi rfl rfl rfl rfl (by omega) ?_)
      rw [nI_add']
      exact K
    · simp only [z, not_false_eq_true, decide_true, if_true] at K
      repeat (first | refine e2_stepS 4 rfl rfl rfl ?_ | refine e2c_getS 4 rfl hi rfl rfl rfl rfl ?_ | refine e2c_lgetS 4 rfl rfl rfl ?_ | refine e2c_ialdS 4 rfl _ hi rfl rfl rfl rfl (by omega) ?_)
      rw [nI_add', nI_add']
      exact K
  · repeat (first | refine e2_step rfl rfl ?_ | refine e2c_get hi rfl rfl rfl rfl ?_ | refine e2c_lget rfl rfl ?_ | refine e2c_iald _ hi rfl rfl rfl rfl (by omega) ?_ | refine e2c_lald _ rfl rfl (by omega) ?_)
    refine e2_if rfl rfl (fun _ => ?_) (fun c => absurd (by rw [hM, h6]; exact Int32.le_refl _) c)
    repeat (first | refine e2_step rfl rfl ?_ | refine e2c_get hi rfl rfl rfl rfl ?_ | refine e2c_lget rfl rfl ?_ | refine e2c_iald _ hi rfl rfl rfl rfl (by omega) ?_ | refine e2c_lald _ rfl rfl (by omega) ?_)
    exact e2_iret rfl rfl ⟨by rw [hM], rfl⟩
theorem q_countSnapshots {j : Nat} (hj : j < 6) : F2 ε jX4_countSnapshots [.inr (j, 20)] G (some (nI (cntB (fun c => decide (¬ G j 22 c = 0)) 2))) G := by
  obtain ⟨n2, h2⟩ : ∃ n, n = 2 := ⟨_, rfl⟩
  rw [← h2]
  refine C2.of (ls := [some (.inr (j, 20)), none, none]) okX4_countSnapshots rfl rfl ?_
  repeat (first | refine e2_stepS 4 rfl rfl rfl ?_)
  refine e2_for n2 (fun c => [some (.inr (j, 20)), some (.inl (nI (cntB (fun c => decide (¬ G j 22 c = 0)) c))), some (.inl (nI c))]) (fun _ => G) (fun c hc K => ?_) (fun M hM => ?_)
  · refine e2_step rfl rfl ?_
    refine e2_step rfl rfl ?_
    refine e2_if rfl rfl (fun z => absurd z (nI_ge (by omega) (by omega))) (fun _ => ?_)
    repeat (first | refine e2_step rfl rfl ?_ | refine e2_get rfl hj rfl rfl ?_)
    refine e2_zald (i := j) (kk := 22) c rfl rfl hj rfl (by omega) ?_
    simp only [cntB] at K
    refine e2_if rfl rfl (fun z => ?_) (fun z => ?_)
    · simp only [z, not_true_eq_false, decide_false, Bool.false_eq_true, if_false, Nat.add_zero] at K
      repeat (first | refine e2_stepS 4 rfl rfl rfl ?_)
      rw [nI_add']
      exact K
    · simp only [z, not_false_eq_true, decide_true, if_true] at K
      repeat (first | refine e2_stepS 4 rfl rfl rfl ?_)
      rw [nI_add', nI_add']
      exact K
  · refine e2_step rfl rfl ?_
    refine e2_step rfl rfl ?_
    refine e2_if rfl rfl (fun _ => ?_) (fun c => absurd (by rw [hM, h2]; exact Int32.le_refl _) c)
    refine e2_step rfl rfl ?_
    exact e2_iret rfl rfl ⟨by rw [hM], rfl⟩
theorem q_fillSlot {j t : Nat} (hj : j < 6) (ht : t < 2) (hz : okZ (G (3 * j))) : F2 ε jX4_fillSlot [.inr (j, 20), .inl (nI t)] G none (wr (cpG G (3 * j + 1 + t) (3 * j)) j 22 t 1) := by
  refine C2.of (ls := [some (.inr (j, 20)), some (.inl (nI t))]) okX4_fillSlot rfl rfl ?_
  repeat (first | refine e2_step rfl rfl ?_ | refine e2_get rfl hj rfl rfl ?_)
  refine e2_aald21 t rfl rfl hj ht ?_
  repeat (first | refine e2_step rfl rfl ?_ | refine e2_get rfl hj rfl rfl ?_)
  refine e2_fv (Q_office (i := 3 * j + 1 + t) (i2 := 3 * j) (by omega) (by omega) (by omega) hz) rfl rfl ⟨rfl, rfl, rfl⟩ rfl rfl rfl (show 3 * j + 1 + t < 19 by omega) rfl rfl rfl ?_
  repeat (first | refine e2_step rfl rfl ?_ | refine e2_get rfl hj rfl rfl ?_)
  refine e2_zast (i := j) (kk := 22) t rfl rfl hj rfl ht (Or.inr rfl) ?_
  exact e2_vret rfl rfl ⟨rfl, rfl⟩
end NS
