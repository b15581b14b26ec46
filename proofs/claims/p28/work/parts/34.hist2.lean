/-! The history: remembering and giving back. -/
section NI2
variable {ε : EE} {J : JT} {pc : Nat} {ls : List (Option V0)} {st : List V0} {G : GG} {Q : Option Int32 → GG → Prop}
/-- a moment whose offices may be copied -/
def okM (G : GG) (m : Nat) : Prop := okZ (G (3 * m)) ∧ ∀ t, t < 2 → (G m 22 t = 0 ∨ G m 22 t = 1) ∧ (G m 22 t = 1 → okZ (G (3 * m + 1 + t)))
theorem okM_o {G G' : GG} {m : Nat} (h : okM G m) (he : ∀ i kk, kk = 14 ∨ kk = 22 → G' i kk = G i kk) : okM G' m := by
  refine ⟨fun t ht => ?_, fun t ht => ⟨?_, fun z u hu => ?_⟩⟩
  · rw [he _ _ (Or.inl rfl)]; exact h.1 t ht
  · rw [he _ _ (Or.inr rfl)]; exact (h.2 t ht).1
  · rw [he _ _ (Or.inr rfl)] at z
    rw [he _ _ (Or.inl rfl)]; exact (h.2 t ht).2 z u hu
theorem q_giveBack0 {j : Nat} (hd : G 0 31 1 = nI 0) : F2 ε jX1_giveBack [.inr (0, 31), .inr (j, 20)] G none G := by
  refine C2.of (ls := [some (.inr (0, 31)), some (.inr (j, 20))]) okX1_giveBack rfl rfl ?_
  repeat (first | refine e2_step rfl rfl ?_ | refine e2_get rfl (by decide) rfl rfl ?_)
  refine e2_if rfl rfl (fun _ => ?_) (fun z => absurd (show G 0 31 1 ≤ 0 from by rw [hd]; exact Int32.le_refl _) z)
  exact e2_vret rfl rfl ⟨rfl, rfl⟩
theorem q_giveBack {d m j : Nat} (hd : G 0 31 1 = nI (d + 1)) (hd5 : d < 5) (hm : G 0 32 d = nI m) (hm6 : m < 6) (hj : j < 6) (hne : m ≠ j) (hk : okM G m) : C2 ε jX1_giveBack [.inr (0, 31), .inr (j, 20)] G (fun v G' => v = none ∧ CpM (wr G 0 31 1 (nI d)) G' j m) := by
  refine C2.of (ls := [some (.inr (0, 31)), some (.inr (j, 20))]) okX1_giveBack rfl rfl ?_
  repeat (first | refine e2_step rfl rfl ?_ | refine e2_get rfl (by decide) rfl rfl ?_)
  refine e2_if rfl rfl (fun z => absurd (show nI (d + 1) ≤ nI 0 from hd ▸ z) (nI_ge (by omega) (by omega))) (fun _ => ?_)
  repeat (first | refine e2_step rfl rfl ?_ | refine e2_get rfl (by decide) rfl rfl ?_)
  refine e2_put rfl (by decide) rfl rfl rfl rfl rfl ?_
  have hx : G 0 31 1 - 1 = nI d := by
    rw [hd]
    have := pk_sub (a := d + 1) (b := 1) (by omega)
    rw [Nat.add_sub_cancel] at this
    exact this
  rw [show ∀ y, y = nI d → wr G 0 31 1 y = wr G 0 31 1 (nI d) from fun y h => by rw [h]] <;> try exact hx
  have hr : wr G 0 31 1 (nI d) 0 32 d = nI m := by rw [wr_o (by decide)]; exact hm
  have hk2 : okM (wr G 0 31 1 (nI d)) m := okM_o hk (fun i kk h => wr_o (by omega))
  have hdd : wr G 0 31 1 (nI d) 0 31 1 = nI d := wr_s
  repeat (first | refine e2_step rfl rfl ?_ | refine e2_get rfl (by first | exact hj | decide) rfl rfl ?_)
  refine e2_aald32 d rfl hdd hd5 hr hm6 ?_
  refine e2_callVv rfl ⟨rfl, rfl, rfl⟩ rfl rfl rfl rfl hj rfl rfl rfl (q_moment hj hm6 hne hk2.1 hk2.2) (fun G' z => ?_)
  exact e2_vret rfl rfl ⟨rfl, z.2⟩
end NI2
