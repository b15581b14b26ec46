/-! The history: its oldest moment goes round to the end of the row. -/
section NH
variable {ε : EE} {J : JT} {pc : Nat} {ls : List (Option V0)} {st : List V0} {G : GG} {Q : Option Int32 → GG → Prop}
theorem setA_self (G : GG) (i kk : Nat) : setA G i kk (G i kk) = G := by
  funext a b
  by_cases h1 : b = kk
  · subst h1
    by_cases h2 : a = i
    · subst h2; exact setA_s _ _ _ _
    · exact setA_i _ _ _ _ _ _ h2
  · exact setA_k _ _ _ _ _ _ h1
def rotT (f : Nat → Int32) (t : Nat) : Nat → Int32 := fun p => if p < t then f (p + 1) else f p
def rotR (f : Nat → Int32) : Nat → Int32 := fun p => if p < 4 then f (p + 1) else if p = 4 then f 0 else f p
theorem rotT_0 (f : Nat → Int32) : rotT f 0 = f := by
  funext p
  exact if_neg (by omega)
theorem rotT_s (f : Nat → Int32) (t : Nat) : upd (rotT f t) t (f (t + 1)) = rotT f (t + 1) := by
  funext p
  simp only [upd, rotT]
  by_cases h : p = t
  · rw [if_pos h, if_pos (by omega), h]
  · rw [if_neg h]
    by_cases h2 : p < t
    · rw [if_pos h2, if_pos (by omega)]
    · rw [if_neg h2, if_neg (by omega)]
theorem rotT_e (f : Nat → Int32) : upd (rotT f 4) 4 (f 0) = rotR f := by
  funext p
  simp only [upd, rotT, rotR]
  by_cases h : p = 4
  · rw [if_pos h, if_neg (by omega), if_pos h]
  · rw [if_neg h]
    by_cases h2 : p < 4
    · rw [if_pos h2, if_pos h2]
    · rw [if_neg h2, if_neg h2, if_neg h]
theorem q_dropOldest (hp : ∀ p, p < 5 → ∃ m, m < 6 ∧ G 0 32 p = nI m) : F2 ε jX1_dropOldest [.inr (0, 31)] G none (wr (setA G 0 32 (rotR (G 0 32))) 0 31 1 (G 0 31 1 - 1)) := by
  obtain ⟨m0, h0, h1⟩ := hp 0 (by decide)
  refine C2.of (ls := [some (.inr (0, 31)), none, none]) okX1_dropOldest rfl rfl ?_
  repeat (first | refine e2_step rfl rfl ?_ | refine e2_get rfl (by decide) rfl rfl ?_)
  refine e2_aald32 0 rfl rfl (by decide) h1 h0 ?_
  repeat (first | refine e2_stepS 9 rfl rfl rfl ?_)
  refine e2_forP 4 (fun t => [some (.inr (0, 31)), some (.inr (m0, 20)), some (.inl (nI (t + 1)))]) (fun t G1 => G1 = setA G 0 32 (rotT (G 0 32) t)) (by rw [rotT_0, setA_self]) (fun t ht G1 hI K => ?_) (fun M hM G1 hI => ?_)
  · subst hI
    obtain ⟨m, hm, hm1⟩ := hp (t + 1) (by omega)
    have hr : setA G 0 32 (rotT (G 0 32) t) 0 32 (t + 1) = nI m := by
      rw [setA_s, ← hm1]
      exact if_neg (by omega)
    have hw : wr (setA G 0 32 (rotT (G 0 32) t)) 0 32 t (nI m) = setA G 0 32 (rotT (G 0 32) (t + 1)) := by
      unfold wr
      rw [setA_s, setA_twice, ← hm1, rotT_s]
    refine e2_step rfl rfl ?_
    refine e2_step rfl rfl ?_
    refine e2_if rfl rfl (fun z => absurd (show nI 5 ≤ nI (t + 1) from z) (nI_ge (by omega) (by omega))) (fun _ => ?_)
    repeat (first | refine e2_step rfl rfl ?_ | refine e2_get rfl (by decide) rfl rfl ?_)
    refine e2_aald32 (t + 1) rfl rfl (by omega) hr hm ?_
    refine e2_aast32 t rfl (by rw [pk_sub (by omega), Nat.add_sub_cancel]) (by omega) hm ?_
    rw [hw]
    repeat (first | refine e2_stepS 9 rfl rfl rfl ?_)
    rw [nI_add']
    exact K _ rfl
  · subst hI
    subst hM
    have hw : wr (setA G 0 32 (rotT (G 0 32) 4)) 0 32 4 (nI m0) = setA G 0 32 (rotR (G 0 32)) := by
      unfold wr
      rw [setA_s, setA_twice, ← h1, rotT_e]
    refine e2_step rfl rfl ?_
    refine e2_step rfl rfl ?_
    refine e2_if rfl rfl (fun _ => ?_) (fun z => absurd (Int32.le_refl _) z)
    repeat (first | refine e2_step rfl rfl ?_ | refine e2_get rfl (by decide) rfl rfl ?_)
    refine e2_aast32 4 rfl rfl (by omega) h0 ?_
    rw [hw]
    repeat (first | refine e2_step rfl rfl ?_ | refine e2_get rfl (by decide) rfl rfl ?_)
    refine e2_put rfl (by decide) rfl rfl rfl rfl rfl ?_
    refine e2_vret rfl rfl ⟨rfl, ?_⟩
    rw [setA_k _ _ _ _ _ _ (by decide)]
    rfl
end NH
