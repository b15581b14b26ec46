/-! The world out of the constructor is the world of the operations. -/
section PG
variable {ε : EE} {M : Nat → Nat → Nat → Nat} {T y : Nat → Nat} {D : va_G} {cl : List vw_C} {H : Heap}
def endW (ε : EE) (M : Nat → Nat → Nat → Nat) (T y : Nat → Nat) : va_W := wfW ε M T y
def AA (M : Nat → Nat → Nat → Nat) (T y : Nat → Nat) : Nat → Nat → Nat := fun i k => if k < 18 then (if i < 18 then M (i / 3) (i % 3) k else T k) else match k with
  | 20 => M i 0 20
  | 21 => M i 0 21
  | 22 => M i 0 22
  | k => y k
def ovs (i : Nat) : List (Nat × Nat) := (List.range 18).map (fun k => (i, k))
def mvs (j : Nat) : List (Nat × Nat) := (j, 20) :: (ovs (3 * j) ++ ((j, 21) :: (j, 22) :: (ovs (3 * j + 1) ++ ovs (3 * j + 2))))
def valsC : List (Nat × Nat) := ((0, 30) :: (mvs 0 ++ ((0, 31) :: (0, 32) :: ((((((([] ++ mvs 1) ++ mvs 2) ++ mvs 3) ++ mvs 4) ++ mvs 5)) ++ ([(0, 33), (0, 34), (0, 35), (0, 36), (0, 37)] ++ (ovs 18 ++ [(0, 40), (0, 41)]))))))
set_option maxRecDepth 100000 in
theorem valsC_all : vals.all (fun q => decide (q ∈ valsC)) = true := by decide +kernel
theorem fst_oW (A : Nat → Nat → Nat) (ad : Nat → Nat) (i : Nat) (h : ∀ k, k < 18 → A i k = ad k) : (oW ε ad).map Prod.fst = (ovs i).map (fun q => A q.1 q.2) := by
  unfold oW ovs
  rw [List.map_map, List.map_map]
  refine List.map_congr_left (fun k hk => ?_)
  exact (h k (List.mem_range.mp hk)).symm
theorem AA_o {j r k : Nat} (hj : j < 6) (hr : r < 3) (hk : k < 18) : AA M T y (3 * j + r) k = M j r k := by
  unfold AA
  rw [if_pos hk, if_pos (by omega), show (3 * j + r) / 3 = j by omega, show (3 * j + r) % 3 = r by omega]
theorem AA_t {k : Nat} (hk : k < 18) : AA M T y 18 k = T k := by
  unfold AA
  rw [if_pos hk, if_neg (by omega)]
theorem fst_mW {j : Nat} (hj : j < 6) : (mW ε (M j)).map Prod.fst = (mvs j).map (fun q => AA M T y q.1 q.2) := by
  unfold mW mvs
  rw [List.map_cons, List.map_append, List.map_cons, List.map_cons, List.map_append, List.map_cons, List.map_append, List.map_cons, List.map_cons, List.map_append]
  rw [fst_oW (AA M T y) (M j 0) (3 * j) (fun k hk => AA_o (r := 0) hj (by omega) hk), fst_oW (AA M T y) (M j 1) (3 * j + 1) (fun k hk => AA_o hj (by omega) hk), fst_oW (AA M T y) (M j 2) (3 * j + 2) (fun k hk => AA_o hj (by omega) hk)]
  rfl
theorem fst_end : (endW ε M T y).map Prod.fst = valsC.map (fun q => AA M T y q.1 q.2) := by
  unfold endW wfW valsC mWs mWs mWs mWs mWs mWs
  simp only [List.map_append, List.map_cons, List.map_nil]
  rw [fst_mW (T := T) (y := y) (j := 0) (by omega), fst_mW (T := T) (y := y) (j := 0 + 1) (by omega), fst_mW (T := T) (y := y) (j := 1 + 1) (by omega), fst_mW (T := T) (y := y) (j := 2 + 1) (by omega), fst_mW (T := T) (y := y) (j := 3 + 1) (by omega), fst_mW (T := T) (y := y) (j := 4 + 1) (by omega)]
  rw [fst_oW (AA M T y) T 18 (fun k hk => AA_t hk)]
  rfl
theorem P_of {W : va_W} (h : va_P D cl W H) {q : Nat × va_E} (hq : q ∈ W) : va_at D cl q H := by
  obtain ⟨k, hk⟩ := List.getElem?_of_mem hq
  exact h k q hk
theorem mem_mWs {q : Nat × va_E} {j : Nat} (h1 : 1 ≤ j) (h : q ∈ mW ε (M j)) : ∀ n, j ≤ n → q ∈ mWs ε M n
  | 0, h2 => by omega
  | n + 1, h2 => by
    unfold mWs
    by_cases hj : j = n + 1
    · subst hj
      exact List.mem_append_right _ h
    · exact List.mem_append_left _ (mem_mWs h1 h n (by omega))
theorem end_mW {j : Nat} (hj : j < 6) {q : Nat × va_E} (h : q ∈ mW ε (M j)) : q ∈ endW ε M T y := by
  unfold endW wfW
  refine List.mem_cons_of_mem _ ?_
  by_cases h0 : j = 0
  · subst h0
    exact List.mem_append_left _ h
  · exact List.mem_append_right _ (List.mem_cons_of_mem _ (List.mem_cons_of_mem _ (List.mem_append_left _ (mem_mWs (by omega) h 5 (by omega)))))
theorem end_o {i : Nat} (hi : i < 19) : ∃ ad : Nat → Nat, (∀ k, k < 18 → AA M T y i k = ad k) ∧ ∀ q, q ∈ oW ε ad → q ∈ endW ε M T y := by
  by_cases h18 : i = 18
  · subst h18
    refine ⟨T, fun k hk => AA_t hk, fun q hq => ?_⟩
    unfold endW wfW
    exact List.mem_cons_of_mem _ (List.mem_append_right _ (List.mem_cons_of_mem _ (List.mem_cons_of_mem _ (List.mem_append_right _ (List.mem_append_right _ (List.mem_append_left _ hq))))))
  · refine ⟨M (i / 3) (i % 3), fun k hk => ?_, fun q hq => end_mW (j := i / 3) (by omega) ?_⟩
    · have e := AA_o (M := M) (T := T) (y := y) (j := i / 3) (r := i % 3) (k := k) (by omega) (by omega) hk
      rw [show 3 * (i / 3) + i % 3 = i by omega] at e
      exact e
    · unfold mW
      have h3 : i % 3 = 0 ∨ i % 3 = 1 ∨ i % 3 = 2 := by omega
      rcases h3 with h3 | h3 | h3 <;> rw [h3] at hq
      · exact List.mem_cons_of_mem _ (List.mem_append_left _ hq)
      · exact List.mem_cons_of_mem _ (List.mem_append_right _ (List.mem_cons_of_mem _ (List.mem_cons_of_mem _ (List.mem_append_left _ hq))))
      · exact List.mem_cons_of_mem _ (List.mem_append_right _ (List.mem_cons_of_mem _ (List.mem_cons_of_mem _ (List.mem_append_right _ hq))))
end PG
