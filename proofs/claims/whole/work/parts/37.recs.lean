/-! The reference's records. -/
section NY
variable {ε : EE} {J : JT} {pc : Nat} {ls : List (Option V0)} {st : List V0} {G : GG} {r t o x : Nat → Int32} {Q : Option Int32 → GG → Prop}
/-- the blocks 2.. laid one block lower, k of them -/
def lowr (r : Nat → Int32) : Nat → Nat → Int32
  | 0 => r
  | k + 1 => cpyr (lowr r k) (3071 * (k + 2)) (3071 * (k + 1)) 3071
def recr (r : Nat → Int32) (d : Nat) : Nat → Int32 := cpyr r 0 (3071 * (d + 1)) 3071
theorem m_rec50 {d : Nat} {l1 : Option V0} (hd : x 1 = nI d) (hd5 : d < 5) : E2 ε jX9_records 50 [some (.inr (0, 50)), l1] [] (mG G r t o x) (fun v G' => v = none ∧ G' = mG G (recr r d) t o (upd x 1 (nI (d + 1)))) := by
  repeat (first | refine e2_step rfl rfl ?_ | refine e2m_get rfl rfl ?_ | refine e2m_ld _ rfl rfl (by omega) ?_)
  refine e2m_put rfl (by omega) ?_
  have hx : x 1 + nI 1 = nI (d + 1) := by rw [hd]; exact nI_add' d 1
  rw [hx]
  repeat (first | refine e2_step rfl rfl ?_ | refine e2m_get rfl rfl ?_ | refine e2m_ld _ rfl rfl (by omega) ?_)
  have hc := m_copies (ε := ε) (G := G) (r := r) (t := t) (o := o) (x := upd x 1 (nI (d + 1))) (a := 0) (b := 3071 * (d + 1)) (n := 3071) (by decide) (by omega) (by omega)
  have e1 : nI (3071 * (d + 1)) = nI 3071 * upd x 1 (nI (d + 1)) 1 := (pk_mul 3071 (d + 1)).symm
  rw [e1] at hc
  refine e2_fv (hc) rfl rfl ⟨rfl, rfl, rfl⟩ rfl rfl rfl (by first | exact hi | decide) rfl rfl rfl ?_
  exact e2_vret rfl rfl ⟨rfl, rfl⟩
theorem m_records {d : Nat} (hd : x 1 = nI d) (hd5 : d < 5) : FM ε jX9_records [] G r t o x none (recr r d) t o (upd x 1 (nI (d + 1))) := by
  refine C2.of (ls := [some (.inr (0, 50)), none]) okX9_records rfl rfl ?_
  repeat (first | refine e2_step rfl rfl ?_ | refine e2m_get rfl rfl ?_ | refine e2m_ld _ rfl rfl (by omega) ?_)
  refine e2_if rfl rfl (fun _ => ?_) (fun z => absurd (show x 1 = 5 from Classical.not_not.1 z) (by rw [hd]; have e : d = 0 ∨ d = 1 ∨ d = 2 ∨ d = 3 ∨ d = 4 := (by omega); rcases e with rfl | rfl | rfl | rfl | rfl <;> decide))
  exact m_rec50 hd hd5
theorem m_records5 (hd : x 1 = nI 5) : FM ε jX9_records [] G r t o x none (recr (lowr r 4) 4) t o (upd x 1 (nI 5)) := by
  obtain ⟨n4, h4⟩ : ∃ n, n = 4 := ⟨_, rfl⟩
  refine C2.of (ls := [some (.inr (0, 50)), none]) okX9_records rfl rfl ?_
  repeat (first | refine e2_step rfl rfl ?_ | refine e2m_get rfl rfl ?_ | refine e2m_ld _ rfl rfl (by omega) ?_)
  refine e2_if rfl rfl (fun z => absurd (show x 1 = 5 from hd) z) (fun _ => ?_)
  repeat (first | refine e2_stepS 10 rfl rfl rfl ?_ | refine e2m_getS 10 rfl rfl rfl ?_ | refine e2m_ldS 10 rfl _ rfl rfl (by omega) ?_)
  refine e2_for n4 (fun k => [some (.inr (0, 50)), some (.inl (nI (k + 1)))]) (fun k => mG G (lowr r k) t o x) (fun k hk K => ?_) (fun M hM => ?_)
  · repeat (first | refine e2_step rfl rfl ?_ | refine e2m_get rfl rfl ?_ | refine e2m_ld _ rfl rfl (by omega) ?_)
    refine e2_if rfl rfl (fun z => absurd (show nI 5 ≤ nI (k + 1) from z) (nI_ge (by omega) (by omega))) (fun _ => ?_)
    repeat (first | refine e2_step rfl rfl ?_ | refine e2m_get rfl rfl ?_ | refine e2m_ld _ rfl rfl (by omega) ?_)
    have hc := m_copies (ε := ε) (G := G) (r := lowr r k) (t := t) (o := o) (x := x) (a := 3071 * (k + 2)) (b := 3071 * (k + 1)) (n := 3071) (by omega) (by omega) (by omega)
    have e1 : nI (3071 * (k + 2)) = nI 3071 * (nI (k + 1) + nI 1) := by rw [nI_add', pk_mul]
    have e2 : nI (3071 * (k + 1)) = nI 3071 * nI (k + 1) := (pk_mul _ _).symm
    rw [e1, e2] at hc
    refine e2_fv (hc) rfl rfl ⟨rfl, rfl, rfl⟩ rfl rfl rfl (by first | exact hi | decide) rfl rfl rfl ?_
    repeat (first | refine e2_stepS 10 rfl rfl rfl ?_ | refine e2m_getS 10 rfl rfl rfl ?_ | refine e2m_ldS 10 rfl _ rfl rfl (by omega) ?_)
    rw [nI_add']
    exact K
  · rw [hM, h4]
    repeat (first | refine e2_step rfl rfl ?_ | refine e2m_get rfl rfl ?_ | refine e2m_ld _ rfl rfl (by omega) ?_)
    refine e2_if rfl rfl (fun _ => ?_) (fun z => absurd (Int32.le_refl _) z)
    repeat (first | refine e2_step rfl rfl ?_ | refine e2m_get rfl rfl ?_ | refine e2m_ld _ rfl rfl (by omega) ?_)
    refine e2m_put rfl (by omega) ?_
    have hx : x 1 - nI 1 = nI 4 := by rw [hd]; rfl
    rw [hx]
    have h := m_rec50 (ε := ε) (G := G) (r := lowr r 4) (t := t) (o := o) (x := upd x 1 (nI 4)) (d := 4) (l1 := some (.inl (nI (4 + 1)))) rfl (by decide)
    have hu : upd (upd x 1 (nI 4)) 1 (nI (4 + 1)) = upd x 1 (nI 5) := by
      funext p
      simp only [upd]
      split <;> rfl
    rw [hu] at h
    exact h
end NY
