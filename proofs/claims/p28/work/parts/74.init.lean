/-! Of the new state. -/
section Rb0
variable {ε : EE}
set_option maxRecDepth 100000 in
theorem rg_vb : (List.range 100).all (fun c => decide (rgI 8 c = nI (c * 2 / 25))) = true := by decide +kernel
theorem rg_v {c : Nat} (h : c < 100) : rgI 8 c = nI (c * 2 / 25) := of_decide_eq_true (List.all_eq_true.mp rg_vb c (List.mem_range.2 h))
theorem cr_v : ∀ c, c < 6 → crI 6 c = -9 := by decide +kernel
theorem hl_v : ∀ w, w < 8 → hlI 8 w = nI 6 := by decide +kernel
theorem n9_v : ∀ n, n < 8 → ¬ (-9 : Int32) = nI n := by decide +kernel
theorem n01' : ¬ nI 0 = nI 1 := by decide +kernel
/-- a cell of an office is told by its parts' addresses -/
theorem cellE_sa {A : Nat → Nat → Nat} {ad : Nat → Nat} {i : Nat} (h : ∀ k, k < 18 → A i k = ad k) (g : Nat → Int32) (k : Nat) (hk : k < 18) : cellE (sa ε A) i k g = cellE (sa ε (fun _ => ad)) 0 k g := by
  have hc : k = 0 ∨ k = 1 ∨ k = 2 ∨ k = 3 ∨ k = 4 ∨ k = 5 ∨ k = 6 ∨ k = 7 ∨ k = 8 ∨ k = 9 ∨ k = 10 ∨ k = 11 ∨ k = 12 ∨ k = 13 ∨ k = 14 ∨ k = 15 ∨ k = 16 ∨ k = 17 := by omega
  rcases hc with rfl | rfl | rfl | rfl | rfl | rfl | rfl | rfl | rfl | rfl | rfl | rfl | rfl | rfl | rfl | rfl | rfl | rfl <;> first
    | rfl
    | (show (Sum.inr (5, [Value.ref (A i 1), .ref (A i 3), .ref (A i 12), .ref (A i 17), .int (g 4), .int (g 5), .int (g 6), .int (g 7)]) : va_E) = .inr (5, [Value.ref (ad 1), .ref (ad 3), .ref (ad 12), .ref (ad 17), .int (g 4), .int (g 5), .int (g 6), .int (g 7)])
       rw [h 1 (by omega), h 3 (by omega), h 12 (by omega), h 17 (by omega)])
    | (show (Sum.inr (7, [Value.ref (A i 2)]) : va_E) = .inr (7, [Value.ref (ad 2)])
       rw [h 2 (by omega)])
    | (show (Sum.inr (2, [Value.ref (A i 4), .ref (A i 5), .ref (A i 6), .ref (A i 7), .ref (A i 8), .ref (A i 9), .ref (A i 10), .ref (A i 11), .int (g 8)]) : va_E) = .inr (2, [Value.ref (ad 4), .ref (ad 5), .ref (ad 6), .ref (ad 7), .ref (ad 8), .ref (ad 9), .ref (ad 10), .ref (ad 11), .int (g 8)])
       rw [h 4 (by omega), h 5 (by omega), h 6 (by omega), h 7 (by omega), h 8 (by omega), h 9 (by omega), h 10 (by omega), h 11 (by omega)])
    | (show (Sum.inr (0, [Value.ref (A i 13), .ref (A i 14), .ref (A i 15), .ref (A i 16)]) : va_E) = .inr (0, [Value.ref (ad 13), .ref (ad 14), .ref (ad 15), .ref (ad 16)])
       rw [h 13 (by omega), h 14 (by omega), h 15 (by omega), h 16 (by omega)])
theorem at_refs {D : va_G} {cl : List vw_C} {a n : Nat} {cA : ClassId} {f g : Nat → Option Nat} {H : Heap} (hfg : ∀ i, i < n → f i = g i) (h : va_at D cl (a, .inl (cA, n, .inr (.inr (.inr (.inr f))))) H) : va_at D cl (a, .inl (cA, n, .inr (.inr (.inr (.inr g))))) H := by
  have hcell : vp_cell cA (n, .inr (.inr (.inr (.inr f)))) = vp_cell cA (n, .inr (.inr (.inr (.inr g)))) := by
    rw [vp_cell_q, vp_cell_q]
    unfold arrV
    congr 1
    apply Array.ext
    · simp
    · intro i h1 h2
      simp at h1
      simp [hfg i h1]
  show H[a]? = some (vp_cell cA (n, .inr (.inr (.inr (.inr g)))))
  rw [← hcell]
  exact h
end Rb0
