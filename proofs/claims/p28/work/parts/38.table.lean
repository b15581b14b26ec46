/-! tableswitch over the machine. -/
section NZ
variable {ε : EE} {J : JT} {pc : Nat} {ls : List (Option V0)} {st : List V0} {G : GG} {Q : Option Int32 → GG → Prop}
theorem e2_tabOut {dflt lo hi : Int} {offs : Array Int} {len : Nat} {x : Int32} {tgt : Nat} (hdg : decode (jb J) pc = .ok (.tableswitch dflt lo hi offs, len)) (h : x.toInt < lo ∨ hi < x.toInt) (ht : (pc : Int) + dflt = (tgt : Int)) (k : E2 ε J tgt ls st G Q) : E2 ε J pc ls (.inl x :: st) G Q := by
  intro hT p e R s m args below meth c H locs lsA C hP hD hS hl
  have K := k hT p e R s m args below meth c H locs lsA C hP hD hS hl
  obtain ⟨hx, hb, -⟩ := C
  exact lv_tableOut hx hb hdg h ht K
theorem e2_tabIn {dflt lo hi : Int} {offs : Array Int} {len : Nat} {x : Int32} {off : Int} {tgt : Nat} (j : Nat) (hdg : decode (jb J) pc = .ok (.tableswitch dflt lo hi offs, len)) (hv : x.toInt = lo + j) (hj : lo + j ≤ hi) (ho : offs[j]? = some off) (ht : (pc : Int) + off = (tgt : Int)) (k : E2 ε J tgt ls st G Q) : E2 ε J pc ls (.inl x :: st) G Q := by
  intro hT p e R s m args below meth c H locs lsA C hP hD hS hl
  have K := k hT p e R s m args below meth c H locs lsA C hP hD hS hl
  obtain ⟨hx, hb, -⟩ := C
  have e1 : (x.toInt - lo).toNat = j := by omega
  exact lv_tableIn hx hb hdg (by omega) (by omega) (by rw [e1]; exact ho) ht K
def greF (n : Int32) : Int32 := if n = nI 8 then nI 2 else if n = nI 9 then nI 40 else if n = nI 10 then nI 30 else nI 20
theorem c_greatestValue (n : Int32) : F2 ε jX8_greatestValue [.inl n] G (some (greF n)) G := by
  refine C2.of (ls := [some (.inl n)]) okX8_greatestValue rfl rfl ?_
  refine e2_step rfl rfl ?_
  have hq : ∀ k : Nat, k < 2 ^ 31 → n.toInt = k → n = nI k := fun k hk h => Int32.toInt_inj.1 (by rw [h, nI_toInt hk])
  by_cases h8 : n = nI 8
  · subst h8
    refine e2_tabIn 0 dX8_greatestValue_1 (by decide) (by decide) rfl (tgt := 28) (by decide) ?_
    repeat (first | refine e2_step rfl rfl ?_ | refine e2_get rfl (by first | exact hi | decide) rfl rfl ?_)
    exact e2_iret rfl rfl ⟨rfl, rfl⟩
  · by_cases h9 : n = nI 9
    · subst h9
      refine e2_tabIn 1 dX8_greatestValue_1 (by decide) (by decide) rfl (tgt := 30) (by decide) ?_
      repeat (first | refine e2_step rfl rfl ?_ | refine e2_get rfl (by first | exact hi | decide) rfl rfl ?_)
      exact e2_iret rfl rfl ⟨rfl, rfl⟩
    · by_cases h10 : n = nI 10
      · subst h10
        refine e2_tabIn 2 dX8_greatestValue_1 (by decide) (by decide) rfl (tgt := 33) (by decide) ?_
        repeat (first | refine e2_step rfl rfl ?_ | refine e2_get rfl (by first | exact hi | decide) rfl rfl ?_)
        exact e2_iret rfl rfl ⟨rfl, rfl⟩
      · have ho : n.toInt < 8 ∨ (10 : Int) < n.toInt := by
          rcases (by omega : n.toInt < 8 ∨ (10 : Int) < n.toInt ∨ n.toInt = 8 ∨ n.toInt = 9 ∨ n.toInt = 10) with h | h | h | h | h
          · exact Or.inl h
          · exact Or.inr h
          · exact absurd (hq 8 (by decide) h) h8
          · exact absurd (hq 9 (by decide) h) h9
          · exact absurd (hq 10 (by decide) h) h10
        refine e2_tabOut dX8_greatestValue_1 ho (tgt := 36) (by decide) ?_
        repeat (first | refine e2_step rfl rfl ?_ | refine e2_get rfl (by first | exact hi | decide) rfl rfl ?_)
        exact e2_iret rfl rfl ⟨by rw [greF, if_neg h8, if_neg h9, if_neg h10], rfl⟩
end NZ
