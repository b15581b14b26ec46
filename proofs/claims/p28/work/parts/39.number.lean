/-! The numbers of an office. -/
section NZ1
variable {ε : EE} {J : JT} {pc : Nat} {ls : List (Option V0)} {st : List V0} {G : GG} {i : Nat} {V : VV} {s : Int32} {o : Nat → Int32} {Q : Option Int32 → GG → Prop}
def numV (V : VV) (n : Int32) : Int32 := if n = nI 8 then V 0 5 else if n = nI 9 then V 0 6 else if n = nI 10 then V 0 7 else if isInB n (nI 0) (nI 7) = true then V 17 n.toNatClampNeg else -9
theorem tab3 {n : Int32} (h8 : ¬ n = nI 8) (h9 : ¬ n = nI 9) (h10 : ¬ n = nI 10) : n.toInt < 8 ∨ (10 : Int) < n.toInt := by
  have hq : ∀ k : Nat, k < 2 ^ 31 → n.toInt = k → n = nI k := fun k hk h => Int32.toInt_inj.1 (by rw [h, nI_toInt hk])
  rcases (by omega : n.toInt < 8 ∨ (10 : Int) < n.toInt ∨ n.toInt = 8 ∨ n.toInt = 9 ∨ n.toInt = 10) with h | h | h | h | h
  · exact Or.inl h
  · exact Or.inr h
  · exact absurd (hq 8 (by decide) h) h8
  · exact absurd (hq 9 (by decide) h) h9
  · exact absurd (hq 10 (by decide) h) h10
theorem isIn_nI {n : Int32} {b : Nat} (hb : b < 2 ^ 31) (h : isInB n (nI 0) (nI b) = true) : ∃ k, k ≤ b ∧ n = nI k := by
  simp only [isInB, Bool.and_eq_true, decide_eq_true_eq] at h
  have h1 := Int32.le_iff_toInt_le.1 h.1
  have h2 := Int32.le_iff_toInt_le.1 h.2
  rw [nI_toInt (by omega)] at h1 h2
  refine ⟨n.toInt.toNat, by omega, Int32.toInt_inj.1 ?_⟩
  rw [nI_toInt (by omega)]
  omega
theorem w_number (hi : i < 19) (n : Int32) : FC ε jX5_number [.inr (i, 0), .inl n] G i V s o (some (numV V n)) V s o := by
  refine C2.of (ls := [some (.inr (i, 0)), some (.inl n)]) okX5_number rfl rfl ?_
  refine e2_step rfl rfl ?_
  by_cases h8 : n = nI 8
  · subst h8
    refine e2_tabIn 0 dX5_number_1 (by decide) (by decide) rfl (tgt := 28) (by decide) ?_
    repeat (first | refine e2_step rfl rfl ?_ | refine e2c_get hi rfl rfl rfl rfl ?_ | refine e2c_lget rfl rfl ?_ | refine e2c_iald _ hi rfl rfl rfl rfl (by omega) ?_ | refine e2c_lald _ rfl rfl (by omega) ?_)
    exact e2_iret rfl rfl ⟨rfl, rfl⟩
  · by_cases h9 : n = nI 9
    · subst h9
      refine e2_tabIn 1 dX5_number_1 (by decide) (by decide) rfl (tgt := 33) (by decide) ?_
      repeat (first | refine e2_step rfl rfl ?_ | refine e2c_get hi rfl rfl rfl rfl ?_ | refine e2c_lget rfl rfl ?_ | refine e2c_iald _ hi rfl rfl rfl rfl (by omega) ?_ | refine e2c_lald _ rfl rfl (by omega) ?_)
      exact e2_iret rfl rfl ⟨rfl, rfl⟩
    · by_cases h10 : n = nI 10
      · subst h10
        refine e2_tabIn 2 dX5_number_1 (by decide) (by decide) rfl (tgt := 38) (by decide) ?_
        repeat (first | refine e2_step rfl rfl ?_ | refine e2c_get hi rfl rfl rfl rfl ?_ | refine e2c_lget rfl rfl ?_ | refine e2c_iald _ hi rfl rfl rfl rfl (by omega) ?_ | refine e2c_lald _ rfl rfl (by omega) ?_)
        exact e2_iret rfl rfl ⟨rfl, rfl⟩
      · refine e2_tabOut dX5_number_1 (tab3 h8 h9 h10) (tgt := 43) (by decide) ?_
        repeat (first | refine e2_step rfl rfl ?_ | refine e2c_get hi rfl rfl rfl rfl ?_ | refine e2c_lget rfl rfl ?_ | refine e2c_iald _ hi rfl rfl rfl rfl (by omega) ?_ | refine e2c_lald _ rfl rfl (by omega) ?_)
        refine e2_fs (c_isWalk n) rfl rfl ⟨rfl, rfl, rfl⟩ rfl rfl rfl ?_
        by_cases hb : isInB n (nI 0) (nI 7) = true
        · obtain ⟨k, hk, rfl⟩ := isIn_nI (by decide) hb
          have hv : numV V (nI k) = V 17 k := by
            rw [numV, if_neg h8, if_neg h9, if_neg h10, if_pos hb, nI_clamp (by omega)]
          rw [hb, hv]
          refine e2_if rfl rfl (fun z => absurd z (by decide)) (fun _ => ?_)
          repeat (first | refine e2_step rfl rfl ?_ | refine e2c_get hi rfl rfl rfl rfl ?_ | refine e2c_lget rfl rfl ?_ | refine e2c_iald _ hi rfl rfl rfl rfl (by omega) ?_ | refine e2c_lald _ rfl rfl (by omega) ?_)
          exact e2_iret rfl rfl ⟨rfl, rfl⟩
        · have hv : numV V n = -9 := by
            rw [numV, if_neg h8, if_neg h9, if_neg h10, if_neg hb]
          rw [eq_false_of_ne_true hb, hv]
          refine e2_if rfl rfl (fun _ => ?_) (fun z => absurd rfl z)
          repeat (first | refine e2_step rfl rfl ?_ | refine e2c_get hi rfl rfl rfl rfl ?_ | refine e2c_lget rfl rfl ?_ | refine e2c_iald _ hi rfl rfl rfl rfl (by omega) ?_ | refine e2c_lald _ rfl rfl (by omega) ?_)
          exact e2_iret rfl rfl ⟨rfl, rfl⟩
end NZ1
