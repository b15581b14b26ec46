/-! The whole relation: moments against blocks of the row, the history, the text. -/
section OA
variable {ε : EE} {J : JT} {pc : Nat} {ls : List (Option V0)} {st : List V0} {G G' : GG} {r r' t x : Nat → Int32} {K K' : Nat} {Q : Option Int32 → GG → Prop}
/-- an office against a row, with what bounds its numbers -/
def RS (V : VV) (r : Nat → Int32) (K : Nat) : Prop := (∃ N, RO V r N) ∧ (∃ h, h ≤ 500 ∧ r 952 = nI h) ∧ ∀ k, k < 48 → ∃ c, c ≤ K ∧ r (963 + k) = nI c
def shr (r : Nat → Int32) (B : Nat) : Nat → Int32 := fun j => r (B + j)
/-- a moment against a row of 3071 places -/
def RM (G : GG) (m : Nat) (r : Nat → Int32) (K : Nat) : Prop := RS (G (3 * m)) r K ∧ ∀ s, s < 2 → G m 22 s = r (3069 + s) ∧ (r (3069 + s) = nI 0 ∨ r (3069 + s) = nI 1) ∧ (r (3069 + s) = nI 1 → RS (G (3 * m + 1 + s)) (shr r (1023 * (s + 1))) K)
def RH (G : GG) (r x : Nat → Int32) (K d : Nat) (hm : Nat → Nat) : Prop := d ≤ 5 ∧ G 0 31 1 = nI d ∧ x 1 = nI d ∧ (∀ p, p < 5 → 1 ≤ hm p ∧ hm p < 6 ∧ G 0 32 p = nI (hm p)) ∧ (∀ p q, p < 5 → q < 5 → hm p = hm q → p = q) ∧ ∀ p, p < d → RM G (hm p) (shr r (3071 * (p + 1))) K
def RT (G : GG) (t x : Nat → Int32) : Prop := ∃ n, n ≤ 80 ∧ G 0 33 1 = nI n ∧ x 3 = nI n ∧ G 0 34 = t
def RR (G : GG) (r t x : Nat → Int32) (K : Nat) : Prop := RM G 0 r K ∧ (∃ d hm, RH G r x K d hm) ∧ RT G t x
theorem RS.mono {V : VV} (h : RS V r K) (hk : K ≤ K') : RS V r K' := ⟨h.1, h.2.1, fun k hk2 => by
  obtain ⟨c, c1, c2⟩ := h.2.2 k hk2
  exact ⟨c, by omega, c2⟩⟩
theorem RM.mono {m : Nat} (h : RM G m r K) (hk : K ≤ K') : RM G m r K' := ⟨h.1.mono hk, fun s hs => ⟨(h.2 s hs).1, (h.2 s hs).2.1, fun z => ((h.2 s hs).2.2 z).mono hk⟩⟩
theorem RS.agree {U V : VV} (h : RS U r K) (ha : AgO U V) : RS V r K := ⟨by
  obtain ⟨N, hN⟩ := h.1
  exact ⟨N, hN.agree ha⟩, h.2⟩
theorem RS.row {V : VV} (h : RS V r K) (hr : ∀ j, j < 1023 → r' j = r j) : RS V r' K := by
  obtain ⟨⟨N, h1⟩, ⟨y, h2, h3⟩, h4⟩ := h
  refine ⟨⟨N, h1.row hr⟩, ⟨y, h2, by rw [hr 952 (by omega)]; exact h3⟩, fun k hk => ?_⟩
  rw [hr (963 + k) (by omega)]
  exact h4 k hk
theorem AgO.eq {U V : VV} (h : ∀ kk, kk < 18 → V kk = U kk) : AgO U V := by
  refine ⟨fun kk s hs => ?_, by rw [h 0 (by omega)], by rw [h 0 (by omega)], by rw [h 0 (by omega)], by rw [h 0 (by omega)], by rw [h 3 (by omega)]⟩
  have hk : kk < 18 := by
    unfold lenO at hs
    split at hs <;> omega
  rw [h kk hk]
theorem RM.same {m : Nat} (h : RM G m r K) (ho : ∀ i kk, 3 * m ≤ i → i < 3 * m + 3 → kk < 18 → G' i kk = G i kk) (h22 : G' m 22 = G m 22) : RM G' m r K := by
  refine ⟨h.1.agree (AgO.eq (fun kk hk => ho _ kk (by omega) (by omega) hk)), fun s hs => ?_⟩
  obtain ⟨a, b, c⟩ := h.2 s hs
  exact ⟨by rw [h22]; exact a, b, fun z => (c z).agree (AgO.eq (fun kk hk => ho _ kk (by omega) (by omega) hk))⟩
theorem RM.row {m : Nat} (h : RM G m r K) (hr : ∀ j, j < 3071 → r' j = r j) : RM G m r' K := by
  refine ⟨h.1.row (fun j hj => hr j (by omega)), fun s hs => ?_⟩
  obtain ⟨a, b, c⟩ := h.2 s hs
  rw [hr (3069 + s) (by omega)]
  refine ⟨a, b, fun z => (c z).row (fun j hj => ?_)⟩
  unfold shr
  have : s = 0 ∨ s = 1 := by omega
  rcases this with rfl | rfl
  · exact hr _ (by omega)
  · exact hr _ (by omega)
/-- what was copied is related as what it was copied from -/
theorem RM.cp {j m : Nat} (h : RM G m r K) (hc : CpM G G' j m) : RM G' j r K := by
  obtain ⟨c1, c2, -⟩ := hc
  refine ⟨h.1.agree c1, fun s hs => ?_⟩
  obtain ⟨a, b, c⟩ := h.2 s hs
  obtain ⟨d1, d2⟩ := c2 s hs
  exact ⟨by rw [d1]; exact a, b, fun z => (c z).agree (d2 (by rw [a]; exact z))⟩
theorem RS.okZ {V : VV} (h : RS V r K) : okZ V := by
  obtain ⟨⟨N, hN⟩, -⟩ := h
  obtain ⟨k1, -⟩ := hN.1.2.2.2.2.2.2.2
  intro c hc
  obtain ⟨a1, a2, -⟩ := k1 c hc
  rw [a1]
  exact a2
theorem RM.okM {m : Nat} (h : RM G m r K) : okM G m := by
  refine ⟨h.1.okZ, fun s hs => ?_⟩
  obtain ⟨a, b, c⟩ := h.2 s hs
  exact ⟨by rw [a]; exact b, fun z => (c (by rw [← a]; exact z)).okZ⟩
theorem RH.mono {d : Nat} {hm : Nat → Nat} (h : RH G r x K d hm) (hk : K ≤ K') : RH G r x K' d hm := by
  obtain ⟨a, b, c, e, f, g⟩ := h
  exact ⟨a, b, c, e, f, fun p hp => (g p hp).mono hk⟩
theorem RH.same {d : Nat} {hm : Nat → Nat} {x' : Nat → Int32} (h : RH G r x K d hm) (ho : ∀ i kk, 3 ≤ i → i < 18 → kk < 18 → G' i kk = G i kk) (h22 : ∀ m, 1 ≤ m → m < 6 → G' m 22 = G m 22) (h31 : G' 0 31 1 = G 0 31 1) (h32 : G' 0 32 = G 0 32) (hx : x' 1 = x 1) (hr : ∀ j, 3071 ≤ j → j < 18426 → r' j = r j) : RH G' r' x' K d hm := by
  obtain ⟨a, b, c, e, f, g⟩ := h
  refine ⟨a, by rw [h31]; exact b, by rw [hx]; exact c, fun p hp => by rw [h32]; exact e p hp, f, fun p hp => ?_⟩
  obtain ⟨e1, e2, -⟩ := e p (by omega)
  refine ((g p hp).same (fun i kk h1 h2 h3 => ho i kk (by omega) (by omega) h3) (h22 _ e1 e2)).row (fun j hj => ?_)
  unfold shr
  have : p = 0 ∨ p = 1 ∨ p = 2 ∨ p = 3 ∨ p = 4 := by omega
  rcases this with rfl | rfl | rfl | rfl | rfl <;> exact hr _ (by omega) (by omega)
theorem RT.same {x' : Nat → Int32} (h : RT G t x) (h33 : G' 0 33 1 = G 0 33 1) (h34 : G' 0 34 = G 0 34) (hx : x' 3 = x 3) : RT G' t x' := by
  obtain ⟨n, a, b, c, e⟩ := h
  exact ⟨n, a, by rw [h33]; exact b, by rw [hx]; exact c, by rw [h34]; exact e⟩
/-- what the reference keeps apart has no part in the relation -/
theorem RR.ref {t2 o2 x2 : Nat → Int32} {r2 : Nat → Int32} (h : RR G r t x K) : RR (mG G r2 t2 o2 x2) r t x K := by
  have e : ∀ i kk, kk < 50 → mG G r2 t2 o2 x2 i kk = G i kk := fun i kk hk => by
    unfold mG
    rw [setA_k _ _ _ _ _ _ (by omega), setA_k _ _ _ _ _ _ (by omega), setA_k _ _ _ _ _ _ (by omega), setA_k _ _ _ _ _ _ (by omega)]
  obtain ⟨h1, ⟨d, hm, h2⟩, h3⟩ := h
  exact ⟨h1.same (fun i kk _ _ hk => e i kk (by omega)) (e 0 22 (by omega)), ⟨d, hm, h2.same (fun i kk _ _ hk => e i kk (by omega)) (fun m _ _ => e m 22 (by omega)) (by rw [e 0 31 (by omega)]) (e 0 32 (by omega)) rfl (fun _ _ _ => rfl)⟩, h3.same (by rw [e 0 33 (by omega)]) (e 0 34 (by omega)) rfl⟩
/-- the present moment alone has changed -/
theorem RR.now {x' : Nat → Int32} (h : RR G r t x K) (hk : K ≤ K') (ho : ∀ i kk, 3 ≤ i → i < 18 → kk < 18 → G' i kk = G i kk) (h22 : ∀ m, 1 ≤ m → m < 6 → G' m 22 = G m 22) (h31 : G' 0 31 = G 0 31) (h32 : G' 0 32 = G 0 32) (h33 : G' 0 33 = G 0 33) (h34 : G' 0 34 = G 0 34) (hx : x' 1 = x 1) (hx3 : x' 3 = x 3) (hr : ∀ j, 3071 ≤ j → j < 18426 → r' j = r j) (hM : RM G' 0 r' K') : RR G' r' t x' K' := by
  obtain ⟨h1, ⟨d, hm, h2⟩, h3⟩ := h
  exact ⟨hM, ⟨d, hm, (h2.mono hk).same ho h22 (by rw [h31]) h32 hx hr⟩, h3.same (by rw [h33]) h34 hx3⟩
theorem RR.mono (h : RR G r t x K) (hk : K ≤ K') : RR G r t x K' := by
  obtain ⟨h1, ⟨d, hm, h2⟩, h3⟩ := h
  exact ⟨h1.mono hk, ⟨d, hm, h2.mono hk⟩, h3⟩
/-- only the present office has changed -/
theorem RM.off (h : RM G 0 r K) (hk : K ≤ K') (ho : ∀ i kk, 1 ≤ i → i < 3 → kk < 18 → G' i kk = G i kk) (h22 : G' 0 22 = G 0 22) (hr : ∀ j, 1023 ≤ j → j < 3071 → r' j = r j) (hS : RS (G' 0) r' K') : RM G' 0 r' K' := by
  refine ⟨hS, fun s hs => ?_⟩
  obtain ⟨a, b, c⟩ := h.2 s hs
  rw [h22, hr (3069 + s) (by omega) (by omega)]
  refine ⟨a, b, fun z => (((c z).agree (AgO.eq (fun kk hk => ho _ kk (by omega) (by omega) hk))).row (fun j hj => ?_)).mono hk⟩
  unfold shr
  have : s = 0 ∨ s = 1 := by omega
  rcases this with rfl | rfl
  · exact hr _ (by omega) (by omega)
  · exact hr _ (by omega) (by omega)
theorem cpyr_in {a b n j : Nat} (h1 : b ≤ j) (h2 : j < b + n) : cpyr r a b n j = r (a + (j - b)) := if_pos ⟨h1, h2⟩
theorem cpyr_out {a b n j : Nat} (h : j < b ∨ b + n ≤ j) : cpyr r a b n j = r j := if_neg (by omega)
theorem recr_o {d j : Nat} (h : j < 3071 * (d + 1) ∨ 3071 * (d + 1) + 3071 ≤ j) : recr r d j = r j := cpyr_out h
theorem recr_b {d j : Nat} (h : j < 3071) : recr r d (3071 * (d + 1) + j) = r j := by
  unfold recr
  rw [cpyr_in (by omega) (by omega)]
  rw [show 0 + (3071 * (d + 1) + j - 3071 * (d + 1)) = j by omega]
theorem lowr_lo {j : Nat} (h : j < 3071) : ∀ k, lowr r k j = r j
  | 0 => rfl
  | k + 1 => by
    unfold lowr
    rw [cpyr_out (by omega), lowr_lo h k]
theorem lowr_hi {k q j : Nat} (hq : k ≤ q) (hj : j < 3071) : lowr r k (3071 * (q + 2) + j) = r (3071 * (q + 2) + j) := by
  induction k with
  | zero => rfl
  | succ k ih =>
    unfold lowr
    rw [cpyr_out (by omega), ih (by omega)]
theorem lowr_at {q j : Nat} (hj : j < 3071) : ∀ k, q < k → lowr r k (3071 * (q + 1) + j) = r (3071 * (q + 2) + j)
  | 0, h => by omega
  | k + 1, h => by
    unfold lowr
    by_cases hq : q = k
    · subst hq
      rw [cpyr_in (by omega) (by omega), show 3071 * (q + 2) + (3071 * (q + 1) + j - 3071 * (q + 1)) = 3071 * (q + 2) + j by omega, lowr_hi (Nat.le_refl _) hj]
    · rw [cpyr_out (by omega), lowr_at hj k (by omega)]
/-- the reference's row and number behind the recording of a state -/
def recN (x : Nat → Int32) : Nat := if x 1 = nI 5 then 4 else (x 1).toNatClampNeg
def recR (r x : Nat → Int32) : Nat → Int32 := if x 1 = nI 5 then recr (lowr r 4) 4 else recr r (x 1).toNatClampNeg
def recX (x : Nat → Int32) : Nat → Int32 := upd x 1 (nI (recN x + 1))
theorem recR_lo {j : Nat} (h : j < 3071) : recR r x j = r j := by
  unfold recR
  split
  · rw [recr_o (Or.inl (by omega)), lowr_lo h]
  · rw [recr_o (Or.inl (by omega))]
theorem recX_3 : recX x 3 = x 3 := rfl
theorem recX_4 : recX x 4 = x 4 := rfl
theorem m_recordsX {o : Nat → Int32} {d : Nat} (hd : x 1 = nI d) (hd5 : d ≤ 5) : FM ε jX9_records [] G r t o x none (recR r x) t o (recX x) := by
  by_cases h5 : d = 5
  · subst h5
    have e1 : recR r x = recr (lowr r 4) 4 := by unfold recR; rw [if_pos hd]
    have e2 : recX x = upd x 1 (nI 5) := by unfold recX recN; rw [if_pos hd]
    rw [e1, e2]
    exact m_records5 hd
  · have hne : ¬ x 1 = nI 5 := fun z => h5 ((nI_eq (by omega) (by omega)).1 (hd.symm.trans z))
    have e1 : recR r x = recr r d := by unfold recR; rw [if_neg hne, hd, nI_clamp (by omega)]
    have e2 : recX x = upd x 1 (nI (d + 1)) := by unfold recX recN; rw [if_neg hne, hd, nI_clamp (by omega)]
    rw [e1, e2]
    exact m_records hd (by omega)
/-- what remembering leaves: the relation with the recorded row, and all but the history as it was -/
def RmQ (G G1 : GG) (r t x : Nat → Int32) (K : Nat) : Prop := RR G1 (recR r x) t (recX x) K ∧ ∀ i kk, (i < 3 ∨ i = 18 ∨ 18 ≤ kk) → kk ≠ 31 → kk ≠ 32 → (kk ≠ 22 ∨ i = 0) → G1 i kk = G i kk
set_option maxHeartbeats 1000000 in
theorem RR.rem0 {d m : Nat} {hm : Nat → Nat} {G0 : GG} {r0 : Nat → Int32} (h1 : RM G0 0 r0 K) (h3 : RT G0 t x) (hx : x 1 = nI d ∨ (x 1 = nI 5 ∧ d = 4)) (hd : d < 5) (e : ∀ p, p < 5 → 1 ≤ hm p ∧ hm p < 6 ∧ G0 0 32 p = nI (hm p)) (f : ∀ p q, p < 5 → q < 5 → hm p = hm q → p = q) (g : ∀ p, p < d → RM G0 (hm p) (shr r0 (3071 * (p + 1))) K) (hmd : hm d = m) (hR : RmM G0 G' d m 0) (hr : recR r x = recr r0 d) : RR G' (recR r x) t (recX x) K ∧ ∀ i kk, (i < 3 ∨ i = 18 ∨ 18 ≤ kk) → ¬ (i = 0 ∧ kk = 31) → (kk ≠ 22 ∨ i = 0) → G' i kk = G0 i kk := by
  obtain ⟨G1, hc, rfl⟩ := hR
  have hm1 := (e d hd).1
  have hm6 := (e d hd).2.1
  have hcc := hc
  obtain ⟨-, -, c3⟩ := hc
  have ho : ∀ i kk, ¬ (3 * m ≤ i ∧ i < 3 * m + 3 ∧ kk < 18) → ¬ (i = m ∧ kk = 22) → ¬ (i = 0 ∧ kk = 31) → wr G1 0 31 1 (nI (d + 1)) i kk = G0 i kk := fun i kk a b c => by
    rw [wr_o c]
    exact c3 i kk a b
  have hoff : ∀ i kk, kk < 30 → wr G1 0 31 1 (nI (d + 1)) i kk = G1 i kk := fun i kk a => wr_o (by omega)
  have hxn : recX x 1 = nI (d + 1) := by
    unfold recX recN
    show nI _ = _
    rcases hx with hx | ⟨hx, rfl⟩
    · have hne : ¬ x 1 = nI 5 := fun z => by have := (nI_eq (by omega) (by omega)).1 (hx.symm.trans z); omega
      rw [if_neg hne, hx, nI_clamp (by omega)]
    · rw [if_pos hx]
  rw [hr]
  refine ⟨⟨?_, ⟨d + 1, hm, by omega, wr_s, hxn, fun p hp => ?_, f, fun p hp => ?_⟩, ?_⟩, fun i kk a b c => ho i kk (by omega) (by omega) b⟩
  · exact (h1.same (fun i kk a b c => ho i kk (by omega) (by omega) (by omega)) (ho 0 22 (by omega) (by omega) (by omega))).row (fun j hj => recr_o (Or.inl (by omega)))
  · rw [ho 0 32 (by omega) (by omega) (by omega)]
    exact e p hp
  · by_cases hpd : p = d
    · subst hpd
      rw [hmd]
      have h9 : RM G1 m r0 K := h1.cp hcc
      refine (h9.same (fun i kk a b c => hoff i kk (by omega)) (hoff m 22 (by omega))).row (fun j hj => ?_)
      exact recr_b hj
    · have hne : hm p ≠ m := fun z => hpd (f p d (by omega) hd (by rw [hmd]; exact z))
      have hp1 := (e p (by omega)).1
      refine ((g p (by omega)).same (fun i kk a b c => ho i kk (by omega) (by omega) (by omega)) (ho _ 22 (by omega) (by omega) (by omega))).row (fun j hj => ?_)
      unfold shr
      exact recr_o (by omega)
  · exact h3.same (by rw [ho 0 33 (by omega) (by omega) (by omega)]) (ho 0 34 (by omega) (by omega) (by omega)) rfl
theorem q_rem (h : RR G r t x K) : C2 ε jX1_remember [.inr (0, 31), .inr (0, 20)] G (fun v G1 => v = none ∧ RmQ G G1 r t x K) := by
  obtain ⟨h1, ⟨d, hm, a, b, c, e, f, g⟩, h3⟩ := h
  by_cases h5 : d = 5
  · subst h5
    have e0 := e 0 (by omega)
    have hok : okM G 0 := h1.okM
    have hrr : recR r x = recr (lowr r 4) 4 := by unfold recR; rw [if_pos c]
    refine C2.post (fun v G1 z => ⟨z.1, ?_⟩) (q_remember5 (m := hm 0) (j := 0) b (fun p hp => ⟨hm p, (e p hp).2.1, (e p hp).2.2⟩) e0.2.2 e0.2.1 (by omega) (by omega) hok)
    have hs : ∀ i kk, ¬ (i = 0 ∧ kk = 31) → ¬ (i = 0 ∧ kk = 32) → wr (setA G 0 32 (rotR (G 0 32))) 0 31 1 (nI 4) i kk = G i kk := fun i kk a b => by
      rw [wr_o a]
      by_cases hk : kk = 32
      · subst hk
        exact setA_i _ _ _ _ _ _ (by omega)
      · exact setA_k _ _ _ _ _ _ hk
    have h32 : wr (setA G 0 32 (rotR (G 0 32))) 0 31 1 (nI 4) 0 32 = rotR (G 0 32) := by rw [wr_o (by omega), setA_s]
    generalize wr (setA G 0 32 (rotR (G 0 32))) 0 31 1 (nI 4) = G0 at z hs h32
    have K1 := RR.rem0 (G' := G1) (r := r) (x := x) (t := t) (K := K) (G0 := G0) (r0 := lowr r 4) (d := 4) (m := hm 0) (hm := fun p => if p < 4 then hm (p + 1) else hm 0)
      ((h1.same (fun i kk a b c => hs i kk (by omega) (by omega)) (hs 0 22 (by omega) (by omega))).row (fun j hj => lowr_lo hj 4))
      (h3.same (by rw [hs 0 33 (by omega) (by omega)]) (hs 0 34 (by omega) (by omega)) rfl) (Or.inr ⟨c, rfl⟩) (by omega)
      (fun p hp => by
        rw [h32]
        unfold rotR
        by_cases hp4 : p < 4
        · simp only [if_pos hp4]
          exact e (p + 1) (by omega)
        · have : p = 4 := by omega
          subst this
          exact e0)
      (fun p q hp hq z => by
        by_cases hp4 : p < 4
        · by_cases hq4 : q < 4
          · simp only [if_pos hp4, if_pos hq4] at z
            have := f _ _ (by omega) (by omega) z
            omega
          · simp only [if_pos hp4, if_neg hq4] at z
            have := f _ _ (by omega) (by omega) z
            omega
        · by_cases hq4 : q < 4
          · simp only [if_neg hp4, if_pos hq4] at z
            have := f _ _ (by omega) (by omega) z
            omega
          · omega)
      (fun p hp => by
        simp only [if_pos hp]
        have ep := e (p + 1) (by omega)
        refine ((g (p + 1) (by omega)).same (fun i kk a b c => hs i kk (by omega) (by omega)) (hs _ 22 (by omega) (by omega))).row (fun j hj => ?_)
        exact lowr_at hj 4 hp)
      rfl z.2 hrr
    refine ⟨K1.1, fun i kk a1 a2 a3 a4 => ?_⟩
    rw [K1.2 i kk a1 (by omega) a4]
    exact hs i kk (by omega) (by omega)
  · have hne : ¬ x 1 = nI 5 := fun z => h5 ((nI_eq (by omega) (by omega)).1 (c.symm.trans z))
    have hrr : recR r x = recr r d := by unfold recR; rw [if_neg hne, c, nI_clamp (by omega)]
    have ed := e d (by omega)
    refine C2.post (fun v G1 z => ⟨z.1, ?_⟩) (q_remember (m := hm d) (j := 0) b (by omega) ed.2.2 ed.2.1 (by omega) (by omega) h1.okM)
    have K1 := RR.rem0 (G' := G1) (r := r) (x := x) (t := t) (K := K) (G0 := G) (r0 := r) (d := d) (m := hm d) (hm := hm) h1 h3 (Or.inl c) (by omega) e f g rfl z.2 hrr
    refine ⟨K1.1, fun i kk a1 a2 a3 a4 => ?_⟩
    exact K1.2 i kk a1 (by omega) a4
end OA
