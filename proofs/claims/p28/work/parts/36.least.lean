/-! The least value. -/
section Qd0
variable {ε : EE} {J : JT} {pc : Nat} {ls : List (Option V0)} {st : List V0} {G : GG} {Q : Option Int32 → GG → Prop}
def leaF (n : Int32) : Int32 := if n = nI 8 then nI 0 else nI 1
theorem c_leastValue (n : Int32) : F2 ε jX8_leastValue [.inl n] G (some (leaF n)) G := by
  refine C2.of (ls := [some (.inl n)]) okX8_leastValue rfl rfl ?_
  repeat (first | refine e2_step rfl rfl ?_ | refine e2_get rfl (by first | exact hi | decide) rfl rfl ?_)
  refine e2_if rfl rfl (fun z => ?_) (fun z => ?_)
  · repeat (first | refine e2_step rfl rfl ?_ | refine e2_get rfl (by first | exact hi | decide) rfl rfl ?_)
    exact e2_iret rfl rfl ⟨by rw [leaF, if_neg z], rfl⟩
  · repeat (first | refine e2_step rfl rfl ?_ | refine e2_get rfl (by first | exact hi | decide) rfl rfl ?_)
    exact e2_iret rfl rfl ⟨by rw [leaF, if_pos (Classical.not_not.1 z)], rfl⟩
end Qd0
