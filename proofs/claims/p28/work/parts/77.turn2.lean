/-! The same, cell by cell. -/
section PH
variable {ε : EE} {M : Nat → Nat → Nat → Nat} {T y : Nat → Nat} {D : va_G} {cl : List vw_C} {H : Heap}
def AtW (ε : EE) (D : va_G) (cl : List vw_C) (H : Heap) (M : Nat → Nat → Nat → Nat) (T y : Nat → Nat) (i kk : Nat) : Prop := va_at D cl (AA M T y i kk, cellE (sa ε (AA M T y)) i kk (GZ i kk)) H
theorem at_o (h : va_P D cl (endW ε M T y) H) {i k : Nat} (hi : i < 19) (hk : k < 18) : AtW ε D cl H M T y i k := by
  obtain ⟨ad, h1, h2⟩ := end_o (ε := ε) (M := M) (T := T) (y := y) hi
  unfold AtW
  rw [show GZ i k = O0 k from if_pos hk, cellE_sa h1 _ k hk, h1 k hk]
  exact P_of h (h2 _ (List.mem_map.mpr ⟨k, List.mem_range.mpr hk, rfl⟩))
theorem at_m (h : va_P D cl (endW ε M T y) H) {j : Nat} (hj : j < 6) : AtW ε D cl H M T y j 20 ∧ AtW ε D cl H M T y j 21 ∧ AtW ε D cl H M T y j 22 := by
  have m1 : (M j 0 20, (.inr (4, [.ref (M j 0 0), .ref (M j 0 21), .ref (M j 0 22)]) : va_E)) ∈ mW ε (M j) := List.mem_cons_self
  have m2 : (M j 0 21, (.inl (ε.2.2.1 3, 2, .inr (.inr (.inr (.inr (fun s => some (M j (s + 1) 0)))))) : va_E)) ∈ mW ε (M j) := List.mem_cons_of_mem _ (List.mem_append_right _ List.mem_cons_self)
  have m3 : (M j 0 22, (.inl (ε.2.2.1 1, 2, .inl (fun _ => nI 0)) : va_E)) ∈ mW ε (M j) := List.mem_cons_of_mem _ (List.mem_append_right _ (List.mem_cons_of_mem _ List.mem_cons_self))
  have n1 := P_of h (end_mW hj m1)
  have n2 := P_of h (end_mW hj m2)
  have n3 := P_of h (end_mW hj m3)
  refine ⟨?_, ?_, n3⟩
  · have e : AA M T y (3 * j) 0 = M j 0 0 := AA_o (r := 0) hj (by omega) (by omega)
    rw [← e] at n1
    exact n1
  · refine at_refs (fun s hs => ?_) n2
    show some (M j (s + 1) 0) = some (AA M T y (3 * j + 1 + s) 0)
    rw [show 3 * j + 1 + s = 3 * j + (s + 1) by omega, AA_o hj (by omega) (by omega)]
theorem at_s (h : va_P D cl (endW ε M T y) H) : ∀ q : Nat × Nat, q ∈ [(0, 30), (0, 31), (0, 32), (0, 33), (0, 34), (0, 35), (0, 36), (0, 37), (0, 40), (0, 41)] → AtW ε D cl H M T y q.1 q.2 := by
  have l1 : ∀ {q : Nat × va_E}, q ∈ wfW ε M T y → va_at D cl q H := fun hq => P_of h hq
  have l2 : ∀ {q : Nat × va_E}, q ∈ ((y 31, .inr (1, [.ref (y 32), .int 0])) :: (y 32, .inl (ε.2.2.1 4, 5, .inr (.inr (.inr (.inr (fun s => some (M (s + 1) 0 20))))))) :: (mWs ε M 5 ++ ([(y 33, .inr (6, [.ref (y 34), .int 0, .ref (y 35), .ref (y 36), .ref (y 37), .int 0, .int 0, .int 0])), (y 34, .inl (ε.2.2.1 2, 80, .inl (fun _ => nI 0))), (y 35, .inl (ε.2.2.1 0, 14, .inl (fun _ => nI 0))), (y 36, .inl (ε.2.2.1 0, 14, .inl (fun _ => nI 0))), (y 37, .inl (ε.2.2.1 0, 14, .inl (fun _ => nI 0)))] ++ (oW ε T ++ [(y 40, .inr (3, [.ref (y 41), .int 0])), (y 41, .inl (ε.2.2.1 0, 120, .inl (fun _ => nI 0)))]))) : va_W) → va_at D cl q H := fun hq => l1 (List.mem_cons_of_mem _ (List.mem_append_right _ hq))
  have l3 : ∀ {q : Nat × va_E}, q ∈ ([(y 33, .inr (6, [.ref (y 34), .int 0, .ref (y 35), .ref (y 36), .ref (y 37), .int 0, .int 0, .int 0])), (y 34, .inl (ε.2.2.1 2, 80, .inl (fun _ => nI 0))), (y 35, .inl (ε.2.2.1 0, 14, .inl (fun _ => nI 0))), (y 36, .inl (ε.2.2.1 0, 14, .inl (fun _ => nI 0))), (y 37, .inl (ε.2.2.1 0, 14, .inl (fun _ => nI 0)))] : va_W) → va_at D cl q H := fun hq => l2 (List.mem_cons_of_mem _ (List.mem_cons_of_mem _ (List.mem_append_right _ (List.mem_append_left _ hq))))
  have l4 : ∀ {q : Nat × va_E}, q ∈ ([(y 40, .inr (3, [.ref (y 41), .int 0])), (y 41, .inl (ε.2.2.1 0, 120, .inl (fun _ => nI 0)))] : va_W) → va_at D cl q H := fun hq => l2 (List.mem_cons_of_mem _ (List.mem_cons_of_mem _ (List.mem_append_right _ (List.mem_append_right _ (List.mem_append_right _ hq)))))
  have k30 : AtW ε D cl H M T y 0 30 := l1 List.mem_cons_self
  have k31 : AtW ε D cl H M T y 0 31 := l2 List.mem_cons_self
  have k32 : AtW ε D cl H M T y 0 32 := by
    refine at_refs (fun s hs => ?_) (l2 (List.mem_cons_of_mem _ List.mem_cons_self))
    show some (M (s + 1) 0 20) = some (M ((nI (s + 1)).toNatClampNeg) 0 20)
    rw [nI_clamp (by omega)]
  have k33 : AtW ε D cl H M T y 0 33 := l3 (List.mem_of_getElem? (i := 0) rfl)
  have k34 : AtW ε D cl H M T y 0 34 := l3 (List.mem_of_getElem? (i := 1) rfl)
  have k35 : AtW ε D cl H M T y 0 35 := l3 (List.mem_of_getElem? (i := 2) rfl)
  have k36 : AtW ε D cl H M T y 0 36 := l3 (List.mem_of_getElem? (i := 3) rfl)
  have k37 : AtW ε D cl H M T y 0 37 := l3 (List.mem_of_getElem? (i := 4) rfl)
  have k40 : AtW ε D cl H M T y 0 40 := l4 (List.mem_of_getElem? (i := 0) rfl)
  have k41 : AtW ε D cl H M T y 0 41 := l4 (List.mem_of_getElem? (i := 1) rfl)
  intro q hq
  simp only [List.mem_cons, List.not_mem_nil, or_false] at hq
  rcases hq with rfl | rfl | rfl | rfl | rfl | rfl | rfl | rfl | rfl | rfl
  · exact k30
  · exact k31
  · exact k32
  · exact k33
  · exact k34
  · exact k35
  · exact k36
  · exact k37
  · exact k40
  · exact k41
theorem at_all (h : va_P D cl (endW ε M T y) H) {q : Nat × Nat} (hq : q ∈ vals) : AtW ε D cl H M T y q.1 q.2 := by
  unfold vals at hq
  rcases List.mem_append.mp hq with hq | hq
  · obtain ⟨i, hi, hq⟩ := List.mem_flatMap.mp hq
    obtain ⟨k, hk, rfl⟩ := List.mem_map.mp hq
    exact at_o h (List.mem_range.mp hi) (List.mem_range.mp hk)
  · rcases List.mem_append.mp hq with hq | hq
    · obtain ⟨j, hj, hq⟩ := List.mem_flatMap.mp hq
      obtain ⟨z1, z2, z3⟩ := at_m h (List.mem_range.mp hj)
      simp only [List.mem_cons, List.not_mem_nil, or_false] at hq
      rcases hq with rfl | rfl | rfl
      · exact z1
      · exact z2
      · exact z3
    · exact at_s h q hq
theorem P_wd (h : va_P D cl (endW ε M T y) H) : va_P D cl (wd (sa ε (AA M T y)) GZ) H := by
  intro k q hk
  rw [wd_sa] at hk
  obtain ⟨v, hv, rfl⟩ := List.mem_map.mp (List.mem_of_getElem? hk)
  exact at_all h hv
theorem nd_at : ∀ (l : List (Nat × Nat)) (i j : Nat) (v : Nat × Nat), l.Nodup → l[i]? = some v → l[j]? = some v → i = j
  | [], i, j, v, _, h, _ => by simp at h
  | w :: t, i, j, v, hn, hi, hj => by
    obtain ⟨h1, h2⟩ := List.nodup_cons.mp hn
    cases i with
    | zero =>
      cases j with
      | zero => rfl
      | succ j =>
        simp at hi hj
        subst hi
        exact absurd (List.mem_of_getElem? hj) h1
    | succ i =>
      cases j with
      | zero =>
        simp at hi hj
        subst hj
        exact absurd (List.mem_of_getElem? hi) h1
      | succ j =>
        simp only [List.getElem?_cons_succ] at hi hj
        rw [nd_at t i j v h2 hi hj]
theorem D_wd {B : Nat → Prop} (h : va_D B (endW ε M T y)) : va_D B (wd (sa ε (AA M T y)) GZ) := by
  have hat : ∀ q, q ∈ vals → ∃ (n : Nat) (e : va_E), valsC[n]? = some q ∧ (endW ε M T y)[n]? = some (AA M T y q.1 q.2, e) := by
    intro q hq
    obtain ⟨n, hn⟩ := List.getElem?_of_mem (of_decide_eq_true (List.all_eq_true.mp valsC_all q hq))
    have e1 : (valsC.map (fun q => AA M T y q.1 q.2))[n]? = some (AA M T y q.1 q.2) := by rw [List.getElem?_map, hn]; rfl
    rw [← fst_end (ε := ε), List.getElem?_map] at e1
    cases hx : (endW ε M T y)[n]? with
    | none => rw [hx] at e1; cases e1
    | some x =>
      rw [hx] at e1
      obtain ⟨x1, x2⟩ := x
      have e2 : x1 = AA M T y q.1 q.2 := Option.some.inj e1
      exact ⟨n, x2, hn, by rw [hx, e2]⟩
  have hv : ∀ (k : Nat) (q : Nat × va_E), (wd (sa ε (AA M T y)) GZ)[k]? = some q → ∃ v, vals[k]? = some v ∧ q.1 = AA M T y v.1 v.2 := by
    intro k q hk
    rw [wd_sa, List.getElem?_map] at hk
    cases hx : vals[k]? with
    | none => rw [hx] at hk; cases hk
    | some v =>
      rw [hx] at hk
      cases hk
      exact ⟨v, rfl, rfl⟩
  refine ⟨fun i j p q hi hj e => ?_, fun k q hk => ?_⟩
  · obtain ⟨v, hv1, hv2⟩ := hv i p hi
    obtain ⟨w, hw1, hw2⟩ := hv j q hj
    obtain ⟨n, en, n1, n2⟩ := hat v (List.mem_of_getElem? hv1)
    obtain ⟨o, eo, o1, o2⟩ := hat w (List.mem_of_getElem? hw1)
    have hno : n = o := h.1 n o _ _ n2 o2 (by rw [← hv2, ← hw2]; exact e)
    subst hno
    rw [n1] at o1
    cases o1
    exact nd_at vals i j v vals_nd hv1 hw1
  · obtain ⟨v, hv1, hv2⟩ := hv k q hk
    obtain ⟨n, en, n1, n2⟩ := hat v (List.mem_of_getElem? hv1)
    rw [hv2]
    exact h.2 n _ n2
end PH
