/-! Further of the same. -/
section Qa0
variable {V V' : VV} {r r' : Nat → Int32} {N l : Nat}
theorem sumI_congr {f g : Nat → Int32} : ∀ n, (∀ j, j < n → f j = g j) → sumI f n = sumI g n
  | 0, _ => rfl
  | n + 1, h => by
    unfold sumI
    rw [sumI_congr n (fun j hj => h j (by omega)), h n (by omega)]
theorem cntB_congr {p q : Nat → Bool} : ∀ n, (∀ j, j < n → p j = q j) → cntB p n = cntB q n
  | 0, _ => rfl
  | n + 1, h => by
    unfold cntB
    rw [cntB_congr n (fun j hj => h j (by omega)), h n (by omega)]
/-- the count without l -/
theorem cntB_one (p : Nat → Bool) {l : Nat} : ∀ n, l < n → cntB p n = cntB (fun j => p j && decide (¬ j = l)) n + (if p l then 1 else 0)
  | 0, h => by omega
  | n + 1, h => by
    unfold cntB
    by_cases hl : l = n
    · subst hl
      have : cntB (fun j => p j && decide (¬ j = l)) l = cntB p l := cntB_congr l (fun j hj => by
        show (p j && decide (¬ j = l)) = p j
        rw [decide_eq_true (by omega), Bool.and_true])
      rw [this]
      simp
    · rw [cntB_one (l := l) p n (by omega)]
      have hd : decide (¬ n = l) = true := decide_eq_true (p := ¬ n = l) (fun z => hl z.symm)
      rw [hd, Bool.and_true]
      omega
end Qa0
section Qb0
variable {V U : VV} {r : Nat → Int32} {N l : Nat}
def lenO (kk : Nat) : Nat := match kk with
  | 2 => 100 | 4 => 120 | 5 => 120 | 6 => 120 | 7 => 120 | 8 => 120 | 9 => 120 | 10 => 120 | 11 => 8 | 13 => 6 | 14 => 6 | 15 => 6 | 16 => 48 | 17 => 8 | _ => 0
/-- two offices that show the same -/
def AgO (U V : VV) : Prop := (∀ kk t, t < lenO kk → V kk t = U kk t) ∧ V 0 4 = U 0 4 ∧ V 0 5 = U 0 5 ∧ V 0 6 = U 0 6 ∧ V 0 7 = U 0 7 ∧ V 3 8 = U 3 8
theorem AgO.rf : AgO U U := ⟨fun _ _ _ => rfl, rfl, rfl, rfl, rfl, rfl⟩
theorem cpO_ag : AgO U (cpO V U) := by
  refine ⟨fun kk t ht => ?_, rfl, rfl, rfl, rfl, rfl⟩
  have hk : kk = 2 ∨ kk = 4 ∨ kk = 5 ∨ kk = 6 ∨ kk = 7 ∨ kk = 8 ∨ kk = 9 ∨ kk = 10 ∨ kk = 11 ∨ kk = 13 ∨ kk = 14 ∨ kk = 15 ∨ kk = 16 ∨ kk = 17 := by
    unfold lenO at ht
    split at ht <;> omega
  rcases hk with rfl | rfl | rfl | rfl | rfl | rfl | rfl | rfl | rfl | rfl | rfl | rfl | rfl | rfl
  · show (if t < 100 then U 2 t else _) = _
    exact if_pos ht
  · show (if t < 120 then U 4 t else _) = _
    exact if_pos ht
  · show (if t < 120 then U 5 t else _) = _
    exact if_pos ht
  · show (if t < 120 then U 6 t else _) = _
    exact if_pos ht
  · show (if t < 120 then U 7 t else _) = _
    exact if_pos ht
  · show (if t < 120 then U 8 t else _) = _
    exact if_pos ht
  · show (if t < 120 then U 9 t else _) = _
    exact if_pos ht
  · show (if t < 120 then U 10 t else _) = _
    exact if_pos ht
  · show (if t < 8 then U 11 t else _) = _
    exact if_pos ht
  · show (if t < 6 then U 13 t else _) = _
    exact if_pos ht
  · show (if t < 6 then U 14 t else _) = _
    exact if_pos ht
  · show (if t < 6 then U 15 t else _) = _
    exact if_pos ht
  · show (if t < 48 then U 16 t else _) = _
    exact if_pos ht
  · show (if t < 8 then U 17 t else _) = _
    exact if_pos ht
end Qb0
