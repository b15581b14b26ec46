/-! The bounds of a number's value. -/
section NW
variable {ε : EE} {J : JT} {pc : Nat} {ls : List (Option V0)} {st : List V0} {G : GG} {Q : Option Int32 → GG → Prop}
def leaF (n : Int32) : Int32 := if n = nI 8 then nI 0 else nI 1
def mosF (n : Int32) : Int32 := if n < nI 8 then nI 20 else if n = nI 8 then nI 2 else if n = nI 9 then nI 40 else nI 30
theorem c_leastValue (n : Int32) : F2 ε jX8_leastValue [.inl n] G (some (leaF n)) G := by
  refine C2.of (ls := [some (.inl n)]) okX8_leastValue rfl rfl ?_
  repeat (first | refine e2_step rfl rfl ?_ | refine e2_get rfl (by first | exact hi | decide) rfl rfl ?_)
  refine e2_if rfl rfl (fun z => ?_) (fun z => ?_)
  · repeat (first | refine e2_step rfl rfl ?_ | refine e2_get rfl (by first | exact hi | decide) rfl rfl ?_)
    exact e2_iret rfl rfl ⟨by rw [leaF, if_neg z], rfl⟩
  · repeat (first | refine e2_step rfl rfl ?_ | refine e2_get rfl (by first | exact hi | decide) rfl rfl ?_)
    exact e2_iret rfl rfl ⟨by rw [leaF, if_pos (Classical.not_not.1 z)], rfl⟩
theorem m_most (n : Int32) : F2 ε jX9_most [.inl n] G (some (mosF n)) G := by
  refine C2.of (ls := [some (.inl n)]) okX9_most rfl rfl ?_
  repeat (first | refine e2_step rfl rfl ?_ | refine e2_get rfl (by first | exact hi | decide) rfl rfl ?_)
  refine e2_if rfl rfl (fun z => ?_) (fun z => ?_)
  · have z1 : ¬ n < nI 8 := Int32.not_lt.2 z
    repeat (first | refine e2_step rfl rfl ?_ | refine e2_get rfl (by first | exact hi | decide) rfl rfl ?_)
    refine e2_if rfl rfl (fun y => ?_) (fun y => ?_)
    · have y1 : ¬ n = nI 8 := y
      repeat (first | refine e2_step rfl rfl ?_ | refine e2_get rfl (by first | exact hi | decide) rfl rfl ?_)
      refine e2_if rfl rfl (fun x => ?_) (fun x => ?_)
      · have x1 : ¬ n = nI 9 := x
        repeat (first | refine e2_step rfl rfl ?_ | refine e2_get rfl (by first | exact hi | decide) rfl rfl ?_)
        exact e2_iret rfl rfl ⟨by rw [mosF, if_neg z1, if_neg y1, if_neg x1], rfl⟩
      · have x1 : n = nI 9 := Classical.not_not.1 x
        repeat (first | refine e2_step rfl rfl ?_ | refine e2_get rfl (by first | exact hi | decide) rfl rfl ?_)
        exact e2_iret rfl rfl ⟨by rw [mosF, if_neg z1, if_neg y1, if_pos x1], rfl⟩
    · have y1 : n = nI 8 := Classical.not_not.1 y
      repeat (first | refine e2_step rfl rfl ?_ | refine e2_get rfl (by first | exact hi | decide) rfl rfl ?_)
      exact e2_iret rfl rfl ⟨by rw [mosF, if_neg z1, if_pos y1], rfl⟩
  · have z1 : n < nI 8 := Int32.not_le.1 z
    repeat (first | refine e2_step rfl rfl ?_ | refine e2_get rfl (by first | exact hi | decide) rfl rfl ?_)
    exact e2_iret rfl rfl ⟨by rw [mosF, if_pos z1], rfl⟩
end NW
section NX
variable {ε : EE} {J : JT} {pc : Nat} {ls : List (Option V0)} {st : List V0} {G : GG} {r t o x : Nat → Int32} {Q : Option Int32 → GG → Prop}
theorem m_putAside : FM ε jX9_putAside [] G r t o x none (cpyr r 0 18426 1023) t o x := by
  refine C2.of (ls := [some (.inr (0, 50))]) okX9_putAside rfl rfl ?_
  repeat (first | refine e2_step rfl rfl ?_ | refine e2m_get rfl rfl ?_ | refine e2m_ld _ rfl rfl (by omega) ?_)
  refine e2_fv (m_copies (a := 0) (b := 18426) (n := 1023) (by decide) (by decide) (by decide)) rfl rfl ⟨rfl, rfl, rfl⟩ rfl rfl rfl (by first | exact hi | decide) rfl rfl rfl ?_
  exact e2_vret rfl rfl ⟨rfl, rfl⟩
theorem m_comesBack : FM ε jX9_comesBack [] G r t o x none (cpyr r 18426 0 1023) t o x := by
  refine C2.of (ls := [some (.inr (0, 50))]) okX9_comesBack rfl rfl ?_
  repeat (first | refine e2_step rfl rfl ?_ | refine e2m_get rfl rfl ?_ | refine e2m_ld _ rfl rfl (by omega) ?_)
  refine e2_fv (m_copies (a := 18426) (b := 0) (n := 1023) (by decide) (by decide) (by decide)) rfl rfl ⟨rfl, rfl, rfl⟩ rfl rfl rfl (by first | exact hi | decide) rfl rfl rfl ?_
  exact e2_vret rfl rfl ⟨rfl, rfl⟩
end NX
