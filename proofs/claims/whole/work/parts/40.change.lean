/-! Changing a number of an office. -/
section NZ2
variable {ε : EE} {J : JT} {pc : Nat} {ls : List (Option V0)} {st : List V0} {G : GG} {i : Nat} {V : VV} {s : Int32} {o : Nat → Int32} {Q : Option Int32 → GG → Prop}
def chgV (V : VV) (n v : Int32) : VV := if n = nI 8 then wv V 0 5 v else if n = nI 9 then wv V 0 6 v else if n = nI 10 then wv V 0 7 v else if isInB n (nI 0) (nI 7) = true then wv V 17 n.toNatClampNeg v else V
theorem w_changeNumber (hi : i < 19) (n v : Int32) : FC ε jX5_changeNumber [.inr (i, 0), .inl n, .inl v] G i V s o none (chgV V n v) s o := by
  refine C2.of (ls := [some (.inr (i, 0)), some (.inl n), some (.inl v)]) okX5_changeNumber rfl rfl ?_
  refine e2_step rfl rfl ?_
  by_cases h8 : n = nI 8
  · subst h8
    refine e2_tabIn 0 dX5_changeNumber_1 (by decide) (by decide) rfl (tgt := 28) (by decide) ?_
    repeat (first | refine e2_step rfl rfl ?_ | refine e2c_get hi rfl rfl rfl rfl ?_ | refine e2c_lget rfl rfl ?_ | refine e2c_iald _ hi rfl rfl rfl rfl (by omega) ?_ | refine e2c_lald _ rfl rfl (by omega) ?_)
    refine e2c_put hi rfl rfl rfl rfl rfl rfl rfl ?_
    repeat (first | refine e2_step rfl rfl ?_ | refine e2c_get hi rfl rfl rfl rfl ?_ | refine e2c_lget rfl rfl ?_ | refine e2c_iald _ hi rfl rfl rfl rfl (by omega) ?_ | refine e2c_lald _ rfl rfl (by omega) ?_)
    exact e2_vret rfl rfl ⟨rfl, rfl⟩
  · by_cases h9 : n = nI 9
    · subst h9
      refine e2_tabIn 1 dX5_changeNumber_1 (by decide) (by decide) rfl (tgt := 36) (by decide) ?_
      repeat (first | refine e2_step rfl rfl ?_ | refine e2c_get hi rfl rfl rfl rfl ?_ | refine e2c_lget rfl rfl ?_ | refine e2c_iald _ hi rfl rfl rfl rfl (by omega) ?_ | refine e2c_lald _ rfl rfl (by omega) ?_)
      refine e2c_put hi rfl rfl rfl rfl rfl rfl rfl ?_
      repeat (first | refine e2_step rfl rfl ?_ | refine e2c_get hi rfl rfl rfl rfl ?_ | refine e2c_lget rfl rfl ?_ | refine e2c_iald _ hi rfl rfl rfl rfl (by omega) ?_ | refine e2c_lald _ rfl rfl (by omega) ?_)
      exact e2_vret rfl rfl ⟨rfl, rfl⟩
    · by_cases h10 : n = nI 10
      · subst h10
        refine e2_tabIn 2 dX5_changeNumber_1 (by decide) (by decide) rfl (tgt := 44) (by decide) ?_
        repeat (first | refine e2_step rfl rfl ?_ | refine e2c_get hi rfl rfl rfl rfl ?_ | refine e2c_lget rfl rfl ?_ | refine e2c_iald _ hi rfl rfl rfl rfl (by omega) ?_ | refine e2c_lald _ rfl rfl (by omega) ?_)
        refine e2c_put hi rfl rfl rfl rfl rfl rfl rfl ?_
        repeat (first | refine e2_step rfl rfl ?_ | refine e2c_get hi rfl rfl rfl rfl ?_ | refine e2c_lget rfl rfl ?_ | refine e2c_iald _ hi rfl rfl rfl rfl (by omega) ?_ | refine e2c_lald _ rfl rfl (by omega) ?_)
        exact e2_vret rfl rfl ⟨rfl, rfl⟩
      · refine e2_tabOut dX5_changeNumber_1 (tab3 h8 h9 h10) (tgt := 52) (by decide) ?_
        repeat (first | refine e2_step rfl rfl ?_ | refine e2c_get hi rfl rfl rfl rfl ?_ | refine e2c_lget rfl rfl ?_ | refine e2c_iald _ hi rfl rfl rfl rfl (by omega) ?_ | refine e2c_lald _ rfl rfl (by omega) ?_)
        refine e2_fs (c_isWalk n) rfl rfl ⟨rfl, rfl, rfl⟩ rfl rfl rfl ?_
        by_cases hb : isInB n (nI 0) (nI 7) = true
        · obtain ⟨k, hk, rfl⟩ := isIn_nI (by decide) hb
          have hv : chgV V (nI k) v = wv V 17 k v := by
            rw [chgV, if_neg h8, if_neg h9, if_neg h10, if_pos hb, nI_clamp (by omega)]
          rw [hb, hv]
          refine e2_if rfl rfl (fun z => absurd z (by decide)) (fun _ => ?_)
          repeat (first | refine e2_step rfl rfl ?_ | refine e2c_get hi rfl rfl rfl rfl ?_ | refine e2c_lget rfl rfl ?_ | refine e2c_iald _ hi rfl rfl rfl rfl (by omega) ?_ | refine e2c_lald _ rfl rfl (by omega) ?_)
          refine e2c_iast k hi rfl rfl rfl rfl (by omega) ?_
          exact e2_vret rfl rfl ⟨rfl, rfl⟩
        · have hv : chgV V n v = V := by
            rw [chgV, if_neg h8, if_neg h9, if_neg h10, if_neg hb]
          rw [eq_false_of_ne_true hb, hv]
          refine e2_if rfl rfl (fun _ => ?_) (fun z => absurd rfl z)
          exact e2_vret rfl rfl ⟨rfl, rfl⟩
end NZ2
