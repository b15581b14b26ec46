/-! The history by its order alone: what remembering leaves, what undo brings back. -/
section SA
variable {ε : EE} {J : JT} {G G' G1 G0 H1 : GG} {d m : Nat} {hm : Nat → Nat}
/-- the history: d states, hm gives the places of the moments -/
def HS (G : GG) (d : Nat) (hm : Nat → Nat) : Prop := d ≤ 5 ∧ G 0 31 1 = nI d ∧ (∀ p, p < 5 → 1 ≤ hm p ∧ hm p < 6 ∧ G 0 32 p = nI (hm p)) ∧ ∀ p q, p < 5 → q < 5 → hm p = hm q → p = q
/-- moment m shows what moment 0 of G0 shows -/
def Shows (G0 G : GG) (m : Nat) : Prop := (∀ kk, kk < 18 → G (3 * m) kk = G0 0 kk) ∧ ∀ t, t < 2 → G m 22 t = G0 0 22 t ∧ (G0 0 22 t = 1 → ∀ kk, kk < 18 → G (3 * m + 1 + t) kk = G0 (1 + t) kk)
/-- G0 is what undo brings back: it lies at the end of the history -/
def Top (G0 G : GG) (d : Nat) : Prop := ∃ hm, d < 5 ∧ HS G (d + 1) hm ∧ Shows G0 G (hm d)
/-- what remembering leaves -/
def Rm (G G1 : GG) : Prop := (∃ d, Top G G1 d ∧ (G 0 31 1 = nI d ∨ (G 0 31 1 = nI 5 ∧ d = 4))) ∧ ∀ i kk, (i < 3 ∨ i = 18 ∨ 18 ≤ kk) → kk ≠ 31 → kk ≠ 32 → (kk ≠ 22 ∨ i = 0) → G1 i kk = G i kk
theorem rem_of (hd : d < 5) (hx : G 0 31 1 = nI d ∨ (G 0 31 1 = nI 5 ∧ d = 4)) (e : ∀ p, p < 5 → 1 ≤ hm p ∧ hm p < 6 ∧ G0 0 32 p = nI (hm p)) (f : ∀ p q, p < 5 → q < 5 → hm p = hm q → p = q) (hs : ∀ i kk, ¬ (i = 0 ∧ kk = 31) → ¬ (i = 0 ∧ kk = 32) → G0 i kk = G i kk) (hR : CpX G0 H1 (hm d) 0) : Rm G (wr H1 0 31 1 (nI (d + 1))) := by
  obtain ⟨c1, c2, c3⟩ := hR
  obtain ⟨m1, m6, -⟩ := e d hd
  have ho : ∀ i kk, ¬ (3 * hm d ≤ i ∧ i < 3 * hm d + 3 ∧ kk < 18) → ¬ (i = hm d ∧ kk = 22) → ¬ (i = 0 ∧ kk = 31) → wr H1 0 31 1 (nI (d + 1)) i kk = G0 i kk := fun i kk a b c => by
    rw [wr_o c]
    exact c3 i kk a b
  have hoff : ∀ i kk, kk < 30 → wr H1 0 31 1 (nI (d + 1)) i kk = H1 i kk := fun i kk a => wr_o (by omega)
  refine ⟨⟨d, ⟨hm, hd, ⟨by omega, wr_s, fun p hp => ⟨(e p hp).1, (e p hp).2.1, ?_⟩, f⟩, fun kk hk => ?_, fun t ht => ⟨?_, fun z kk hk => ?_⟩⟩, hx⟩, fun i kk a b c q => ?_⟩
  · rw [ho 0 32 (by omega) (by omega) (by omega)]
    exact (e p hp).2.2
  · rw [hoff _ _ (by omega), c1 kk hk, hs _ _ (by omega) (by omega)]
  · rw [hoff _ _ (by omega), (c2 t ht).1, hs _ _ (by omega) (by omega)]
  · rw [hoff _ _ (by omega), (c2 t ht).2 (by rw [hs _ _ (by omega) (by omega)]; exact z) kk hk, hs _ _ (by omega) (by omega)]
  · rw [ho i kk (by omega) (by omega) (by omega)]
    exact hs i kk (by omega) (by omega)
theorem WE.wrt {j : Nat} {x : Int32} (h : WE G H1) (h31 : G 0 31 = H1 0 31) : WE (wr G 0 31 j x) (wr H1 0 31 j x) := by
  intro i kk hl
  by_cases h1 : i = 0 ∧ kk = 31
  · obtain ⟨rfl, rfl⟩ := h1
    unfold wr
    rw [setA_s, setA_s, h31]
    exact cEq.rf
  · rw [wr_o h1, wr_o h1]
    exact h i kk hl
theorem RmM.ex (hd : d < 5) (hm6 : m < 6) (h : RmM G0 G' d m 0) : ∃ H1, CpX G0 H1 m 0 ∧ WE G' (wr H1 0 31 1 (nI (d + 1))) := by
  obtain ⟨G1, h1, rfl⟩ := h
  have h13 := h1.2.2
  obtain ⟨H1, h2, h3⟩ := h1.ex
  exact ⟨H1, h2, h3.wrt (by rw [h13 0 31 (by omega) (by omega), h2.2.2 0 31 (by omega) (by omega)])⟩
theorem q_rem0 (h : HS G d hm) (hk : okM G 0) : C2 ε jX1_remember [.inr (0, 31), .inr (0, 20)] G (fun v G1 => v = none ∧ Rm G G1) := by
  obtain ⟨a, b, e, f⟩ := h
  by_cases h5 : d = 5
  · subst h5
    have e0 := e 0 (by omega)
    refine C2.conv (fun v G1 z => ?_) (q_remember5 (m := hm 0) (j := 0) b (fun p hp => ⟨hm p, (e p hp).2.1, (e p hp).2.2⟩) e0.2.2 e0.2.1 (by omega) (by omega) hk)
    have hs : ∀ i kk, ¬ (i = 0 ∧ kk = 31) → ¬ (i = 0 ∧ kk = 32) → wr (setA G 0 32 (rotR (G 0 32))) 0 31 1 (nI 4) i kk = G i kk := fun i kk a b => by
      rw [wr_o a]
      by_cases hk : kk = 32
      · subst hk
        exact setA_i _ _ _ _ _ _ (by omega)
      · exact setA_k _ _ _ _ _ _ hk
    have h32 : wr (setA G 0 32 (rotR (G 0 32))) 0 31 1 (nI 4) 0 32 = rotR (G 0 32) := by rw [wr_o (by omega), setA_s]
    generalize wr (setA G 0 32 (rotR (G 0 32))) 0 31 1 (nI 4) = G0 at z hs h32
    obtain ⟨H1, k1, k2⟩ := RmM.ex (by omega) e0.2.1 z.2
    refine ⟨_, ⟨z.1, rem_of (d := 4) (hm := fun p => if p < 4 then hm (p + 1) else hm 0) (by omega) (Or.inr ⟨b, rfl⟩) (fun p hp => ?_) (fun p q hp hq z => ?_) hs k1⟩, k2⟩
    · rw [h32]
      unfold rotR
      by_cases hp4 : p < 4
      · simp only [if_pos hp4]
        exact e (p + 1) (by omega)
      · have : p = 4 := by omega
        subst this
        exact e0
    · by_cases hp4 : p < 4
      · by_cases hq4 : q < 4
        · simp only [if_pos hp4, if_pos hq4] at z
          have := f _ _ (by omega) (by omega) z
          omega
        · simp only [if_pos hp4, if_neg hq4] at z
          have := f _ _ (by omega) (by omega) z
          omega
      · by_cases hq4 : q < 4
        · simp only [if_neg hp4, if_pos hq4] at z
          have := f _ _ (by omega) (by omega) z
          omega
        · omega
  · have ed := e d (by omega)
    refine C2.conv (fun v G1 z => ?_) (q_remember (m := hm d) (j := 0) b (by omega) ed.2.2 ed.2.1 (by omega) (by omega) hk)
    obtain ⟨H1, k1, k2⟩ := RmM.ex (by omega) ed.2.1 z.2
    exact ⟨_, ⟨z.1, rem_of (d := d) (hm := hm) (by omega) (Or.inl b) e f (fun _ _ _ _ => rfl) k1⟩, k2⟩
theorem Shows.okM (h : Shows G0 G m) (hk : okM G0 0) : okM G m := by
  obtain ⟨h1, h2⟩ := h
  refine ⟨fun t ht => ?_, fun t ht => ⟨?_, fun z u hu => ?_⟩⟩
  · rw [h1 14 (by omega)]
    exact hk.1 t ht
  · rw [(h2 t ht).1]
    exact (hk.2 t ht).1
  · have z0 : G0 0 22 t = 1 := by rw [← (h2 t ht).1]; exact z
    rw [(h2 t ht).2 z0 14 (by omega)]
    have := (hk.2 t ht).2 z0 u hu
    rw [show 3 * 0 + 1 + t = 1 + t by omega] at this
    exact this
/-- what undo leaves -/
def Bk (G0 G G' : GG) (d : Nat) : Prop := (∃ hm, HS G' d hm) ∧ Shows G0 G' 0 ∧ ∀ i kk, (i = 18 ∨ 18 ≤ kk) → kk ≠ 31 → kk ≠ 22 → G' i kk = G i kk
theorem q_back (h : Top G0 G d) (hk : okM G0 0) : C2 ε jX1_giveBack [.inr (0, 31), .inr (0, 20)] G (fun v G' => v = none ∧ Bk G0 G G' d) := by
  obtain ⟨hm, hd, ⟨a, b, e, f⟩, s⟩ := h
  have ed := e d hd
  refine C2.conv (fun v G' z => ?_) (q_giveBack (d := d) (m := hm d) (j := 0) b hd ed.2.2 ed.2.1 (by omega) (by omega) (s.okM hk))
  obtain ⟨H1, ⟨c1, c2, c3⟩, k2⟩ := z.2.ex
  refine ⟨H1, ⟨z.1, ⟨hm, by omega, ?_, fun p hp => ⟨(e p hp).1, (e p hp).2.1, ?_⟩, f⟩, ⟨fun kk hkk => ?_, fun t ht => ⟨?_, fun z kk hkk => ?_⟩⟩, fun i kk q1 q2 q3 => ?_⟩, k2⟩
  · rw [c3 0 31 (by omega) (by omega)]
    exact wr_s
  · rw [c3 0 32 (by omega) (by omega), wr_o (by omega)]
    exact (e p hp).2.2
  · rw [c1 kk hkk, wr_o (by omega), s.1 kk hkk]
  · rw [(c2 t ht).1, wr_o (by omega), (s.2 t ht).1]
  · rw [(c2 t ht).2 (by rw [wr_o (by omega), (s.2 t ht).1]; exact z) kk hkk, wr_o (by omega), (s.2 t ht).2 z kk hkk]
  · rw [c3 i kk (by omega) (by omega), wr_o (by omega)]
end SA
