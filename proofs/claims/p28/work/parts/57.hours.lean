/-! The law's own methods: low, hours. -/
section MA
variable {ε : EE} {J J' : JT} {pc : Nat} {ls : List (Option V0)} {st : List V0} {As : List V0} {G G' G0 G1 : GG} {V V' : VV} {i N Y d l w : Nat} {s a : Int32} {o : Nat → Int32} {Q : Option Int32 → GG → Prop}
theorem C3.of {As : List V0} {ls : List (Option V0)} (hT : e_T J) (hls : e_in As (jm J) = ls) (hlen : Nat.ble As.length (jm J) = true) (h : E3 ε J 0 ls [] G0 Q) : ∀ G, lk1 G0 G → C2 ε J As G Q := fun G hG => C2.of hT hls hlen (h G hG)
theorem ldc_ok : ∀ q ∈ ([(10, 7, 2147483647)] : List (Nat × Nat × Int32)), Cond.constant (nmC q.1) q.2.1 q.2.2 ∈ Tg := kc_all
theorem and_nn (v : Int32) : ∃ k, k < 2 ^ 31 ∧ v &&& 2147483647 = nI k := by
  have hm : (v &&& 2147483647).toBitVec.msb = false := by
    rw [Int32.toBitVec_and, BitVec.msb_and]
    have : (2147483647 : Int32).toBitVec.msb = false := by decide
    rw [this, Bool.and_false]
  have ht : (v &&& 2147483647).toInt = ((v &&& 2147483647).toBitVec.toNat : Int) := BitVec.toInt_eq_toNat_of_msb hm
  have hl : (v &&& 2147483647).toBitVec.toNat < 2 ^ 31 := by
    have := BitVec.toNat_lt_of_msb_false hm
    exact this
  refine ⟨(v &&& 2147483647).toBitVec.toNat, hl, Int32.toInt_inj.1 ?_⟩
  rw [ht, nI_toInt hl]
/-- what low answers -/
def lowI (v : Int32) (n : Nat) : Int32 := (v &&& 2147483647) - (v &&& 2147483647) / nI n * nI n
theorem lowI_of (v : Int32) {n : Nat} (h0 : 0 < n) (hn : n < 1000) : ∃ r, r < n ∧ lowI v n = nI r := by
  obtain ⟨k, hk, e⟩ := and_nn v
  refine ⟨k % n, Nat.mod_lt _ h0, ?_⟩
  unfold lowI
  have h1 := Nat.div_add_mod k n
  have h2 : k / n * n ≤ k := Nat.div_mul_le_self k n
  have h3 : k - k / n * n = k % n := by
    rw [Nat.mul_comm] at h1
    omega
  rw [e, pk_div hk h0 (by omega), pk_mul, pk_sub h2, h3]
theorem c_low (v : Int32) {n : Nat} (h0 : 0 < n) (hn : n < 1000) : F2 ε jL_low [.inl v, .inl (nI n)] G (some (lowI v n)) G := by
  refine C2.of (ls := [some (.inl v), some (.inl (nI n))]) okL_low rfl rfl ?_
  refine e2_step rfl rfl ?_
  refine e_ldc rfl ldc_ok ?_
  refine e2_step rfl rfl ?_
  refine e2_step rfl rfl ?_
  refine e_rem rfl (fun z => ?_) ?_
  · have := (nI_eq (b := 0) (by omega) (by decide)).1 z
    omega
  exact e2_iret rfl rfl ⟨rfl, rfl⟩
theorem L_low (v : Int32) {n : Nat} (h0 : 0 < n) (hn : n < 1000) : Ls ε jL_low [.inl v, .inl (nI n)] G0 (lowI v n) := fun G _ => C2.post (fun v G' z => ⟨z.1, by rw [z.2]; exact lk1.rf⟩) (c_low v h0 hn)
/-- behind an action: nothing has changed, or one state is recorded -/
def After (G0 G' : GG) : Prop := lk1 G0 G' ∨ ∃ V', Dn G0 G' V'
theorem Dn.lk (h : Dn G0 G1 V') (k : lk1 G1 G') : Dn G0 G' V' := by
  obtain ⟨a, b, d, c, e⟩ := h
  exact ⟨k.sg a, by rw [k.oo (by decide)]; exact b, d, k.top c, e⟩
def HQ (G0 : GG) (v : Option Int32) (G' : GG) : Prop := v = some (nI 1) ∧ After G0 G'
theorem HQ.lk : ∀ G', lk1 G0 G' → HQ G0 (some (nI 1)) G' := fun _ h => ⟨rfl, Or.inl h⟩
theorem HQ.dn (h : Dn G0 G1 V') : ∀ G', lk1 G1 G' → HQ G0 (some (nI 1)) G' := fun _ k => ⟨rfl, Or.inr ⟨V', h.lk k⟩⟩
theorem L_c0 (h : IV (O G0 0) N Y) : Lk ε jX8_count [.inl (nI 0)] G0 (nI (P7 (O G0 0) 0 N)) := L_count h (by decide)
theorem L_c2 (h : IV (O G0 0) N Y) : Lk ε jX8_count [.inl (nI 2)] G0 (nI (P7 (O G0 0) 2 N)) := L_count h (by decide)
theorem L_c6 (h : IV (O G0 0) N Y) : Lk ε jX8_count [.inl (nI 6)] G0 (nI N) := L_count h (by decide)
theorem L_c7 (h : IV (O G0 0) N Y) {y : Nat} (hy : O G0 0 0 4 = nI y) : Lk ε jX8_count [.inl (nI 7)] G0 (nI y) := by
  rw [← hy]
  exact L_count h (k := 7) (by decide)
theorem L_c13 (h : IV (O G0 0) N Y) {y : Nat} (hy : O G0 0 0 5 = nI y) : Lk ε jX8_count [.inl (nI 13)] G0 (nI y) := by
  rw [← hy]
  exact L_count h (k := 13) (by decide)
theorem L_c14 (h : IV (O G0 0) N Y) {y : Nat} (hy : O G0 0 0 6 = nI y) : Lk ε jX8_count [.inl (nI 14)] G0 (nI y) := by
  rw [← hy]
  exact L_count h (k := 14) (by decide)
theorem L_c15 (h : IV (O G0 0) N Y) {y : Nat} (hy : O G0 0 0 7 = nI y) : Lk ε jX8_count [.inl (nI 15)] G0 (nI y) := by
  rw [← hy]
  exact L_count h (k := 15) (by decide)
-- what clearIn tells ahead of an hour and behind it
theorem clr_c : ∀ k m (V : VV), clrF N k V m = -9 ∨ ∃ j, m ≤ j ∧ j < m + k ∧ clrF N k V m = nI j
  | 0, m, V => Or.inl rfl
  | k + 1, m, V => by
    have e : clrF N (k + 1) V m = if wtn V N = 0 then nI m else if hrsn V N = 0 then -9 else clrF N k (hrsV V N) (m + 1) := rfl
    rw [e]
    split
    · exact Or.inr ⟨m, Nat.le_refl _, by omega, rfl⟩
    · split
      · exact Or.inl rfl
      · rcases clr_c k (m + 1) (hrsV V N) with z | ⟨j, j1, j2, j3⟩
        · exact Or.inl z
        · exact Or.inr ⟨j, by omega, by omega, j3⟩
theorem clr_shift : ∀ k m (V : VV) j, clrF N k V (m + 1) = nI (j + 1) → m + k < 1000 → j < 1000 → clrF N (k + 1) V m = nI j
  | 0, m, V, j, h, _, _ => absurd (show nI (j + 1) = -9 from h.symm) (nI_n9 (by omega))
  | k + 1, m, V, j, h, hk, hj => by
    have e : clrF N (k + 1) V (m + 1) = if wtn V N = 0 then nI (m + 1) else if hrsn V N = 0 then -9 else clrF N k (hrsV V N) (m + 1 + 1) := rfl
    have e2 : clrF N (k + 1 + 1) V m = if wtn V N = 0 then nI m else if hrsn V N = 0 then -9 else clrF N (k + 1) (hrsV V N) (m + 1) := rfl
    rw [e] at h
    rw [e2]
    by_cases h1 : wtn V N = 0
    · rw [if_pos h1] at h ⊢
      have := (nI_eq (by omega) (by omega)).1 h
      rw [show m = j by omega]
    · rw [if_neg h1] at h ⊢
      by_cases h2 : hrsn V N = 0
      · rw [if_pos h2] at h
        exact absurd h.symm (nI_n9 (by omega))
      · rw [if_neg h2] at h ⊢
        exact clr_shift k (m + 1) (hrsV V N) j h (by omega) hj
/-- the last comparison of hours -/
theorem clr_hour (h : IV V N Y) : (clrF N 61 V 0 = nI 0 ∧ wtn (hrsV V N) N = 0) ∨ (clrF N 61 V 0 = nI 1 ∧ wtn (hrsV V N) N = 0) ∨ (clrF N 61 V 0 = -9 ∧ ¬ wtn (hrsV V N) N = 0) ∨ ∃ j, j < 1000 ∧ clrF N 61 V 0 = nI (j + 2) ∧ ¬ wtn (hrsV V N) N = 0 ∧ clrF N 61 (hrsV V N) 0 = nI (j + 1) := by
  obtain ⟨-, -, -, -, -, -, -, h1, h2⟩ := hour_all h
  have e : clrF N 61 V 0 = if wtn V N = 0 then nI 0 else if hrsn V N = 0 then -9 else clrF N 60 (hrsV V N) (0 + 1) := rfl
  by_cases hw : wtn V N = 0
  · rw [if_pos hw] at e
    exact Or.inl ⟨e, by omega⟩
  · rw [if_neg hw] at e
    by_cases hn : hrsn V N = 0
    · rw [if_pos hn] at e
      exact Or.inr (Or.inr (Or.inl ⟨e, by omega⟩))
    · rw [if_neg hn] at e
      have e2 : clrF N 60 (hrsV V N) (0 + 1) = if wtn (hrsV V N) N = 0 then nI (0 + 1) else if hrsn (hrsV V N) N = 0 then -9 else clrF N 59 (hrsV (hrsV V N) N) (0 + 1 + 1) := rfl
      by_cases hw2 : wtn (hrsV V N) N = 0
      · rw [if_pos hw2] at e2
        exact Or.inr (Or.inl ⟨e.trans e2, hw2⟩)
      · rcases clr_c (N := N) 60 (0 + 1) (hrsV V N) with z | ⟨j, j1, j2, j3⟩
        · exact Or.inr (Or.inr (Or.inl ⟨e.trans z, hw2⟩))
        · have j4 : j ≠ 1 := fun q => by
            rw [if_neg hw2] at e2
            by_cases hn2 : hrsn (hrsV V N) N = 0
            · rw [if_pos hn2, j3] at e2
              exact absurd e2 (nI_n9 (by omega))
            · rw [if_neg hn2] at e2
              rcases clr_c (N := N) 59 (0 + 1 + 1) (hrsV (hrsV V N) N) with y | ⟨j', y1, y2, y3⟩
              · rw [y, j3] at e2
                exact absurd e2 (nI_n9 (by omega))
              · rw [y3, j3] at e2
                have := (nI_eq (by omega) (by omega)).1 e2
                omega
          refine Or.inr (Or.inr (Or.inr ⟨j - 2, by omega, ?_, hw2, ?_⟩))
          · rw [e, j3, show j - 2 + 2 = j by omega]
          · exact clr_shift 60 0 (hrsV V N) (j - 2 + 1) (by rw [j3, show j - 2 + 1 + 1 = j by omega]) (by omega) (by omega)
end MA
