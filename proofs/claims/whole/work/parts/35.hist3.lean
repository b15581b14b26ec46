/-! The history: remembering. -/
section NJ2
variable {ε : EE} {J : JT} {pc : Nat} {ls : List (Option V0)} {st : List V0} {G : GG} {Q : Option Int32 → GG → Prop}
/-- moment j laid at place d of the history -/
def RmM (G G' : GG) (d m j : Nat) : Prop := ∃ G1, CpM G G1 m j ∧ G' = wr G1 0 31 1 (nI (d + 1))
theorem q_rem12 {d m j : Nat} (hd : G 0 31 1 = nI d) (hd5 : d < 5) (hm : G 0 32 d = nI m) (hm6 : m < 6) (hj : j < 6) (hne : j ≠ m) (hk : okM G j) : E2 ε jX1_remember 12 [some (.inr (0, 31)), some (.inr (j, 20))] [] G (fun v G' => v = none ∧ RmM G G' d m j) := by
  repeat (first | refine e2_step rfl rfl ?_ | refine e2_get rfl (by decide) rfl rfl ?_)
  refine e2_aald32 d rfl hd hd5 hm hm6 ?_
  repeat (first | refine e2_step rfl rfl ?_ | refine e2_get rfl (by decide) rfl rfl ?_)
  refine e2_callVv rfl ⟨rfl, rfl, rfl⟩ rfl rfl rfl rfl hm6 rfl rfl rfl (q_moment hm6 hj hne hk.1 hk.2) (fun G1 z => ?_)
  have hx : G1 0 31 1 + 1 = nI (d + 1) := by
    rw [z.2.2.2 0 31 (by omega) (by omega), hd]
    exact nI_add' d 1
  repeat (first | refine e2_step rfl rfl ?_ | refine e2_get rfl (by decide) rfl rfl ?_)
  refine e2_put rfl (by decide) rfl rfl rfl rfl rfl ?_
  refine e2_vret rfl rfl ⟨rfl, G1, z.2, ?_⟩
  rw [← hx]
  rfl
theorem q_remember {d m j : Nat} (hd : G 0 31 1 = nI d) (hd5 : d < 5) (hm : G 0 32 d = nI m) (hm6 : m < 6) (hj : j < 6) (hne : j ≠ m) (hk : okM G j) : C2 ε jX1_remember [.inr (0, 31), .inr (j, 20)] G (fun v G' => v = none ∧ RmM G G' d m j) := by
  refine C2.of (ls := [some (.inr (0, 31)), some (.inr (j, 20))]) okX1_remember rfl rfl ?_
  repeat (first | refine e2_step rfl rfl ?_ | refine e2_get rfl (by decide) rfl rfl ?_)
  refine e2_if rfl rfl (fun _ => ?_) (fun z => absurd (show G 0 31 1 < nI 5 from by rw [hd]; exact Int32.not_le.1 (nI_ge (by omega) (by omega))) z)
  exact q_rem12 hd hd5 hm hm6 hj hne hk
theorem q_remember5 {m j : Nat} (hd : G 0 31 1 = nI 5) (hp : ∀ p, p < 5 → ∃ m, m < 6 ∧ G 0 32 p = nI m) (hm : G 0 32 0 = nI m) (hm6 : m < 6) (hj : j < 6) (hne : j ≠ m) (hk : okM G j) : C2 ε jX1_remember [.inr (0, 31), .inr (j, 20)] G (fun v G' => v = none ∧ RmM (wr (setA G 0 32 (rotR (G 0 32))) 0 31 1 (nI 4)) G' 4 m j) := by
  refine C2.of (ls := [some (.inr (0, 31)), some (.inr (j, 20))]) okX1_remember rfl rfl ?_
  repeat (first | refine e2_step rfl rfl ?_ | refine e2_get rfl (by decide) rfl rfl ?_)
  refine e2_if rfl rfl (fun z => absurd (show G 0 31 1 < nI 5 from z) (by rw [hd]; decide)) (fun _ => ?_)
  repeat (first | refine e2_step rfl rfl ?_ | refine e2_get rfl (by decide) rfl rfl ?_)
  refine e2_fv (q_dropOldest hp) rfl rfl ⟨rfl, rfl, rfl⟩ rfl rfl rfl (by first | exact hi | decide) rfl rfl rfl ?_
  have hx : G 0 31 1 - 1 = nI 4 := by rw [hd]; rfl
  rw [hx]
  have hs : ∀ i kk, ¬ kk = 31 → ¬ kk = 32 → wr (setA G 0 32 (rotR (G 0 32))) 0 31 1 (nI 4) i kk = G i kk := fun i kk a b => by
    rw [wr_o (by omega), setA_k _ _ _ _ _ _ b]
  refine q_rem12 (d := 4) (m := m) wr_s (by decide) ?_ hm6 hj hne (okM_o hk (fun i kk h => hs i kk (by omega) (by omega)))
  rw [wr_o (by decide), setA_s, ← hm]
  rfl
end NJ2
