/-! The ends of a stretch of the ranges. -/
section NU
variable {ε : EE} {J : JT} {pc : Nat} {ls : List (Option V0)} {st : List V0} {G : GG} {i : Nat} {V : VV} {s : Int32} {o : Nat → Int32} {Q : Option Int32 → GG → Prop}
def fstC (f : Nat → Int32) (w : Int32) : Nat → Nat
  | 0 => 0
  | n + 1 => if f n = w then fstC f w n else n + 1
def lstC (f : Nat → Int32) (w : Int32) : Nat → Nat → Nat
  | 0, c => c
  | k + 1, c => if f (c + 1) = w then lstC f w k (c + 1) else c
theorem nI_dec (n : Nat) : nI (n + 1) + (-1) = nI n := by
  have h : nI (n + 1) = nI n + 1 := (nI_add' n 1).symm
  rw [h, Int32.add_assoc]
  exact Int32.add_zero _
theorem g_firstCode {a : Nat} (hi : i < 19) (ha : a < 100) : FC ε jX7_firstCode [.inr (i, 1), .inl (nI a)] G i V s o (some (nI (fstC (V 2) (V 2 a) a))) V s o := by
  refine C2.of (ls := [some (.inr (i, 1)), some (.inl (nI a)), none]) okX7_firstCode rfl rfl ?_
  repeat (first | refine e2_stepS 2 rfl rfl rfl ?_ | refine e2c_getS 2 rfl hi rfl rfl rfl rfl ?_ | refine e2c_lgetS 2 rfl rfl rfl ?_ | refine e2c_ialdS 2 rfl _ hi rfl rfl rfl rfl (by omega) ?_)
  have h : ∀ n, n ≤ a → V 2 n = V 2 a → E2 ε jX7_firstCode 2 [some (.inr (i, 1)), some (.inl (nI a)), some (.inl (nI n))] [] (cG G i V s o) (fun v' G' => v' = some (nI (fstC (V 2) (V 2 a) n)) ∧ G' = cG G i V s o) := by
    intro n
    induction n with
    | zero =>
      intro _ _
      repeat (first | refine e2_step rfl rfl ?_ | refine e2c_get hi rfl rfl rfl rfl ?_ | refine e2c_lget rfl rfl ?_ | refine e2c_iald _ hi rfl rfl rfl rfl (by omega) ?_ | refine e2c_lald _ rfl rfl (by omega) ?_)
      refine e2_if rfl rfl (fun _ => ?_) (fun z => absurd (Int32.le_refl _) z)
      repeat (first | refine e2_step rfl rfl ?_ | refine e2c_get hi rfl rfl rfl rfl ?_ | refine e2c_lget rfl rfl ?_ | refine e2c_iald _ hi rfl rfl rfl rfl (by omega) ?_ | refine e2c_lald _ rfl rfl (by omega) ?_)
      exact e2_iret rfl rfl ⟨rfl, rfl⟩
    | succ n ih =>
      intro hn hw
      repeat (first | refine e2_step rfl rfl ?_ | refine e2c_get hi rfl rfl rfl rfl ?_ | refine e2c_lget rfl rfl ?_ | refine e2c_iald _ hi rfl rfl rfl rfl (by omega) ?_ | refine e2c_lald _ rfl rfl (by omega) ?_)
      refine e2_if rfl rfl (fun z => absurd (show nI (n + 1) ≤ nI 0 from z) (nI_ge (by omega) (by omega))) (fun _ => ?_)
      repeat (first | refine e2_step rfl rfl ?_ | refine e2c_get hi rfl rfl rfl rfl ?_ | refine e2c_lget rfl rfl ?_ | refine e2c_iald _ hi rfl rfl rfl rfl (by omega) ?_ | refine e2c_lald _ rfl rfl (by omega) ?_)
      refine e2_if rfl rfl (fun z => absurd (show nI 100 ≤ nI (n + 1) from z) (nI_ge (by omega) (by omega))) (fun _ => ?_)
      repeat (first | refine e2_step rfl rfl ?_ | refine e2c_get hi rfl rfl rfl rfl ?_ | refine e2c_lget rfl rfl ?_ | refine e2c_iald _ hi rfl rfl rfl rfl (by omega) ?_ | refine e2c_lald _ rfl rfl (by omega) ?_)
      refine e2c_iald n hi rfl rfl (by rw [pk_sub (by omega), Nat.add_sub_cancel]) rfl (by omega) ?_
      repeat (first | refine e2_step rfl rfl ?_ | refine e2c_get hi rfl rfl rfl rfl ?_ | refine e2c_lget rfl rfl ?_ | refine e2c_iald _ hi rfl rfl rfl rfl (by omega) ?_ | refine e2c_lald _ rfl rfl (by omega) ?_)
      rw [hw]
      have hs : fstC (V 2) (V 2 a) (n + 1) = if V 2 n = V 2 a then fstC (V 2) (V 2 a) n else n + 1 := rfl
      refine e2_if rfl rfl (fun z => ?_) (fun z => ?_)
      · rw [hs, if_neg z]
        repeat (first | refine e2_step rfl rfl ?_ | refine e2c_get hi rfl rfl rfl rfl ?_ | refine e2c_lget rfl rfl ?_ | refine e2c_iald _ hi rfl rfl rfl rfl (by omega) ?_ | refine e2c_lald _ rfl rfl (by omega) ?_)
        exact e2_iret rfl rfl ⟨rfl, rfl⟩
      · rw [hs, if_pos (Classical.not_not.1 z)]
        repeat (first | refine e2_stepS 2 rfl rfl rfl ?_ | refine e2c_getS 2 rfl hi rfl rfl rfl rfl ?_ | refine e2c_lgetS 2 rfl rfl rfl ?_ | refine e2c_ialdS 2 rfl _ hi rfl rfl rfl rfl (by omega) ?_)
        rw [nI_dec]
        exact ih (by omega) (Classical.not_not.1 z)
  exact h a (Nat.le_refl _) rfl
theorem g_lastCode {a : Nat} (hi : i < 19) (ha : a < 100) : FC ε jX7_lastCode [.inr (i, 1), .inl (nI a)] G i V s o (some (nI (lstC (V 2) (V 2 a) (99 - a) a))) V s o := by
  refine C2.of (ls := [some (.inr (i, 1)), some (.inl (nI a)), none]) okX7_lastCode rfl rfl ?_
  repeat (first | refine e2_stepS 2 rfl rfl rfl ?_ | refine e2c_getS 2 rfl hi rfl rfl rfl rfl ?_ | refine e2c_lgetS 2 rfl rfl rfl ?_ | refine e2c_ialdS 2 rfl _ hi rfl rfl rfl rfl (by omega) ?_)
  have h : ∀ k c, c + k = 99 → V 2 c = V 2 a → E2 ε jX7_lastCode 2 [some (.inr (i, 1)), some (.inl (nI a)), some (.inl (nI c))] [] (cG G i V s o) (fun v' G' => v' = some (nI (lstC (V 2) (V 2 a) k c)) ∧ G' = cG G i V s o) := by
    intro k
    induction k with
    | zero =>
      intro c hc _
      have : c = 99 := by omega
      subst this
      repeat (first | refine e2_step rfl rfl ?_ | refine e2c_get hi rfl rfl rfl rfl ?_ | refine e2c_lget rfl rfl ?_ | refine e2c_iald _ hi rfl rfl rfl rfl (by omega) ?_ | refine e2c_lald _ rfl rfl (by omega) ?_)
      refine e2_if rfl rfl (fun z => absurd z (nI_pos (by omega))) (fun _ => ?_)
      repeat (first | refine e2_step rfl rfl ?_ | refine e2c_get hi rfl rfl rfl rfl ?_ | refine e2c_lget rfl rfl ?_ | refine e2c_iald _ hi rfl rfl rfl rfl (by omega) ?_ | refine e2c_lald _ rfl rfl (by omega) ?_)
      refine e2_if rfl rfl (fun _ => ?_) (fun z => absurd (Int32.le_refl _) z)
      repeat (first | refine e2_step rfl rfl ?_ | refine e2c_get hi rfl rfl rfl rfl ?_ | refine e2c_lget rfl rfl ?_ | refine e2c_iald _ hi rfl rfl rfl rfl (by omega) ?_ | refine e2c_lald _ rfl rfl (by omega) ?_)
      exact e2_iret rfl rfl ⟨rfl, rfl⟩
    | succ k ih =>
      intro c hc hw
      repeat (first | refine e2_step rfl rfl ?_ | refine e2c_get hi rfl rfl rfl rfl ?_ | refine e2c_lget rfl rfl ?_ | refine e2c_iald _ hi rfl rfl rfl rfl (by omega) ?_ | refine e2c_lald _ rfl rfl (by omega) ?_)
      refine e2_if rfl rfl (fun z => absurd z (nI_pos (by omega))) (fun _ => ?_)
      repeat (first | refine e2_step rfl rfl ?_ | refine e2c_get hi rfl rfl rfl rfl ?_ | refine e2c_lget rfl rfl ?_ | refine e2c_iald _ hi rfl rfl rfl rfl (by omega) ?_ | refine e2c_lald _ rfl rfl (by omega) ?_)
      refine e2_if rfl rfl (fun z => absurd (show nI 99 ≤ nI c from z) (nI_ge (by omega) (by omega))) (fun _ => ?_)
      repeat (first | refine e2_step rfl rfl ?_ | refine e2c_get hi rfl rfl rfl rfl ?_ | refine e2c_lget rfl rfl ?_ | refine e2c_iald _ hi rfl rfl rfl rfl (by omega) ?_ | refine e2c_lald _ rfl rfl (by omega) ?_)
      refine e2c_iald (c + 1) hi rfl rfl (nI_add' c 1) rfl (by omega) ?_
      repeat (first | refine e2_step rfl rfl ?_ | refine e2c_get hi rfl rfl rfl rfl ?_ | refine e2c_lget rfl rfl ?_ | refine e2c_iald _ hi rfl rfl rfl rfl (by omega) ?_ | refine e2c_lald _ rfl rfl (by omega) ?_)
      rw [hw]
      have hs : lstC (V 2) (V 2 a) (k + 1) c = if V 2 (c + 1) = V 2 a then lstC (V 2) (V 2 a) k (c + 1) else c := rfl
      refine e2_if rfl rfl (fun z => ?_) (fun z => ?_)
      · rw [hs, if_neg z]
        repeat (first | refine e2_step rfl rfl ?_ | refine e2c_get hi rfl rfl rfl rfl ?_ | refine e2c_lget rfl rfl ?_ | refine e2c_iald _ hi rfl rfl rfl rfl (by omega) ?_ | refine e2c_lald _ rfl rfl (by omega) ?_)
        exact e2_iret rfl rfl ⟨rfl, rfl⟩
      · rw [hs, if_pos (Classical.not_not.1 z)]
        repeat (first | refine e2_stepS 2 rfl rfl rfl ?_ | refine e2c_getS 2 rfl hi rfl rfl rfl rfl ?_ | refine e2c_lgetS 2 rfl rfl rfl ?_ | refine e2c_ialdS 2 rfl _ hi rfl rfl rfl rfl (by omega) ?_)
        rw [nI_add']
        exact ih (c + 1) (by omega) (Classical.not_not.1 z)
  exact h (99 - a) a (by omega) rfl
end NU
