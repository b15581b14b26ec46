/-! The invariant of an office, stated of its picture alone; one letter moved. -/
section IA
variable {V V' U : VV} {N Y l : Nat}
def P7 (V : VV) (p N : Nat) : Nat := cntB (fun l => decide (V 7 l = nI p)) N
def IN (V : VV) (N Y : Nat) : Prop := N ≤ 120 ∧ V 3 8 = nI N ∧ (∀ c, c < 100 → ∃ w, w < 8 ∧ V 2 c = nI w) ∧ (∀ w, w < 8 → ∃ h, 1 ≤ h ∧ h ≤ 20 ∧ V 17 w = nI h) ∧ (∃ y, y ≤ Y ∧ V 0 4 = nI y) ∧ (∃ u, u ≤ 2 ∧ V 0 5 = nI u) ∧ (∃ u, 1 ≤ u ∧ u ≤ 40 ∧ V 0 6 = nI u) ∧ (∃ u, 1 ≤ u ∧ u ≤ 30 ∧ V 0 7 = nI u)
def IK (V : VV) : Prop := (∀ c, c < 6 → (V 14 c = nI 0 ∨ V 14 c = nI 1) ∧ (V 13 c = -9 ∨ ∃ w, w < 8 ∧ V 13 c = nI w) ∧ (V 14 c = nI 1 → ¬ V 13 c = -9)) ∧ ∀ c d, c < 6 → d < 6 → V 13 c = V 13 d → V 13 c = -9 ∨ c = d
/-- a letter's place p, misroutes m, keeper k, end e -/
def IP (p m k e : Int32) : Prop := ∃ p' m' : Nat, p' ≤ 5 ∧ m' ≤ 3 ∧ p = nI p' ∧ m = nI m' ∧ (p' = 5 ↔ m' = 3) ∧ (p' = 1 → ∃ w, w < 8 ∧ k = nI w) ∧ (p' = 3 → ∃ c, c < 6 ∧ k = nI c) ∧ (p' ≤ 3 ↔ e = -9)
def IL (V : VV) (Y l : Nat) : Prop := (∃ c, c < 100 ∧ V 4 l = nI c) ∧ (V 5 l = nI 0 ∨ V 5 l = nI 1) ∧ IP (V 7 l) (V 6 l) (V 8 l) (V 10 l) ∧ ∃ h y, h ≤ y ∧ y ≤ Y ∧ V 9 l = nI h ∧ V 0 4 = nI y
def IF (V : VV) (N : Nat) : Prop := ∀ w, w < 8 → V 11 w = nI (cntB (atV V (nI 1) (nI w)) N)
def IH (V : VV) (N : Nat) : Prop := ∀ l, l < N → V 7 l = nI 3 → ∃ c, c < 6 ∧ V 8 l = nI c ∧ V 14 c = nI 1
def ID (V : VV) (N : Nat) : Prop := sumI (V 15) 6 = nI (P7 V 4 N)
/-- all but who is out, and what is delivered -/
def B0 (V : VV) (N Y : Nat) : Prop := IN V N Y ∧ IK V ∧ IF V N ∧ ∀ l, l < N → IL V Y l
def IV (V : VV) (N Y : Nat) : Prop := B0 V N Y ∧ IH V N ∧ ID V N
theorem B0.nle (h : B0 V N Y) : N ≤ 120 := h.1.1
theorem B0.cnt (h : B0 V N Y) : V 3 8 = nI N := h.1.2.1
theorem B0.okV (h : B0 V N Y) : okV V N := fun l hl => by
  obtain ⟨⟨a1, a2, a3, -⟩, -, -, hL⟩ := h
  obtain ⟨⟨c, c1, c2⟩, b, ⟨p, m, p1, m1, p2, m2, pm, e1, -⟩, -⟩ := hL l hl
  obtain ⟨w, w1, w2⟩ := a3 c c1
  refine ⟨⟨c, w, c1, w1, c2, w2, b, a2⟩, fun z => e1 ?_⟩
  rw [p2] at z
  exact (nI_eq (by omega) (by omega)).1 z
theorem IF.move {q k : Int32} (h : IF V N) (hN : N ≤ 120) (hl : l < N) (h1 : V 7 l = nI 1 → ∃ w, w < 8 ∧ V 8 l = nI w) (h2 : q = nI 1 → ∃ w, w < 8 ∧ k = nI w) : IF (moveV V l q k) N := fun w hw => by
  have hc0 : cntB (fun j => atV (moveV V l q k) (nI 1) (nI w) j && decide (¬ j = l)) N = cntB (fun j => atV V (nI 1) (nI w) j && decide (¬ j = l)) N := cntB_congr N (fun j hj => by
    by_cases hjl : j = l
    · simp [hjl]
    · unfold atV
      rw [moveV_7, moveV_8, if_neg hjl, if_neg hjl])
  have hdn : dnV V l 11 w = nI (cntB (fun j => atV V (nI 1) (nI w) j && decide (¬ j = l)) N) := by
    have hcw := cntB_one (atV V (nI 1) (nI w)) N hl
    unfold dnV
    by_cases hz : V 7 l = nI 1
    · rw [if_pos hz]
      obtain ⟨w0, g2, g3⟩ := h1 hz
      rw [g3, nI_clamp (by omega)]
      unfold wv sv
      rw [if_pos rfl]
      unfold upd
      by_cases hww : w = w0
      · subst hww
        rw [if_pos rfl, h w hw, hcw]
        have : atV V (nI 1) (nI w) l = true := by unfold atV; rw [decide_eq_true hz, decide_eq_true g3]; rfl
        rw [this, if_pos rfl, pk_sub (by omega), Nat.add_sub_cancel]
      · rw [if_neg hww, h w hw, hcw]
        have : atV V (nI 1) (nI w) l = false := by
          unfold atV
          rw [g3, decide_eq_false (p := nI w0 = nI w) (fun z => hww ((nI_eq (by omega) (by omega)).1 z).symm), Bool.and_false]
        rw [this]
        simp
    · rw [if_neg hz, h w hw, hcw]
      have : atV V (nI 1) (nI w) l = false := by unfold atV; rw [decide_eq_false hz, Bool.false_and]
      rw [this]
      simp
  rw [cntB_one (atV (moveV V l q k) (nI 1) (nI w)) N hl, hc0]
  have hat : atV (moveV V l q k) (nI 1) (nI w) l = (decide (q = nI 1) && decide (k = nI w)) := by
    unfold atV
    rw [moveV_7, moveV_8, if_pos rfl, if_pos rfl]
  rw [hat]
  have h11 : wv (wv (dnV V l) 7 l q) 8 l k 11 = dnV V l 11 := by
    unfold wv sv
    rw [if_neg (by decide), if_neg (by decide)]
  unfold moveV upV
  by_cases hq1 : q = nI 1
  · rw [if_pos hq1, decide_eq_true hq1, Bool.true_and]
    obtain ⟨w1, g2, g3⟩ := h2 hq1
    rw [g3, nI_clamp (by omega), ← g3, h11, g3]
    unfold wv sv
    rw [if_pos rfl]
    unfold upd
    by_cases hww : w = w1
    · subst hww
      rw [if_pos rfl, hdn, decide_eq_true rfl, if_pos rfl, nI_add']
    · rw [if_neg hww, if_neg (by decide), if_neg (by decide), hdn, decide_eq_false (p := nI w1 = nI w) (fun z => hww ((nI_eq (by omega) (by omega)).1 z).symm)]
      simp
  · rw [if_neg hq1, decide_eq_false hq1, Bool.false_and, h11, hdn]
    simp
theorem IF.congr (h : IF V N) (h7 : V' 7 = V 7) (h8 : V' 8 = V 8) (h11 : V' 11 = V 11) : IF V' N := fun w hw => by
  rw [h11, h w hw]
  unfold atV
  rw [h7, h8]
theorem IN.congr (h : IN V N Y) (h0 : V' 0 = V 0) (h2 : V' 2 = V 2) (h3 : V' 3 = V 3) (h17 : V' 17 = V 17) : IN V' N Y := by
  unfold IN at h ⊢
  rw [h0, h2, h3, h17]
  exact h
theorem IK.congr (h : IK V) (h13 : V' 13 = V 13) (h14 : V' 14 = V 14) : IK V' := by
  unfold IK at h ⊢
  rw [h13, h14]
  exact h
/-- one letter has changed, its place and keeper by a move -/
theorem B0.upd (h : B0 V N Y) (hl : l < N) {q k : Int32} (ho : ∀ kk, kk ≠ 6 → kk ≠ 10 → V' kk = moveV V l q k kk) (h6 : ∀ j, j ≠ l → V' 6 j = V 6 j) (h10 : ∀ j, j ≠ l → V' 10 j = V 10 j) (hp : IP q (V' 6 l) k (V' 10 l)) : B0 V' N Y := by
  have hok := h.okV
  obtain ⟨a, b, c, e⟩ := h
  obtain ⟨p', m', p1, m1, hpq, hm, pm, k1, k3, ke⟩ := hp
  have hmv : IF (moveV V l q k) N := c.move a.1 hl (hok l hl).2 (fun z => k1 ((nI_eq (by omega) (by omega)).1 (hpq.symm.trans z)))
  have o : ∀ kk, kk ≠ 6 → kk ≠ 7 → kk ≠ 8 → kk ≠ 10 → kk ≠ 11 → V' kk = V kk := fun kk a6 a7 a8 a10 a11 => by
    rw [ho kk a6 a10, moveV_o a7 a8 a11]
  refine ⟨a.congr (o 0 (by decide) (by decide) (by decide) (by decide) (by decide)) (o 2 (by decide) (by decide) (by decide) (by decide) (by decide)) (o 3 (by decide) (by decide) (by decide) (by decide) (by decide)) (o 17 (by decide) (by decide) (by decide) (by decide) (by decide)), b.congr (o 13 (by decide) (by decide) (by decide) (by decide) (by decide)) (o 14 (by decide) (by decide) (by decide) (by decide) (by decide)), hmv.congr (ho 7 (by decide) (by decide)) (ho 8 (by decide) (by decide)) (ho 11 (by decide) (by decide)), fun j hj => ?_⟩
  obtain ⟨e1, e2, e3, e4⟩ := e j hj
  unfold IL
  rw [o 4 (by decide) (by decide) (by decide) (by decide) (by decide), o 5 (by decide) (by decide) (by decide) (by decide) (by decide), o 9 (by decide) (by decide) (by decide) (by decide) (by decide), o 0 (by decide) (by decide) (by decide) (by decide) (by decide), ho 7 (by decide) (by decide), ho 8 (by decide) (by decide), moveV_7, moveV_8]
  refine ⟨e1, e2, ?_, e4⟩
  by_cases hjl : j = l
  · subst hjl
    rw [if_pos rfl, if_pos rfl]
    exact ⟨p', m', p1, m1, hpq, hm, pm, k1, k3, ke⟩
  · rw [if_neg hjl, if_neg hjl, h6 j hjl, h10 j hjl]
    exact e3
/-- a letter that is neither delivered nor sent back goes to a place of that kind -/
theorem B0.move (h : B0 V N Y) (hl : l < N) {p q : Nat} {k : Int32} (hp : V 7 l = nI p) (hp3 : p ≤ 3) (hq : q ≤ 3) (h1 : q = 1 → ∃ w, w < 8 ∧ k = nI w) (h3 : q = 3 → ∃ c, c < 6 ∧ k = nI c) : B0 (moveV V l (nI q) k) N Y := by
  obtain ⟨p', m', p1, m1, hpq, hm, pm, -, -, ke⟩ := (h.2.2.2 l hl).2.2.1
  have e : p' = p := (nI_eq (by omega) (by omega)).1 (hpq.symm.trans hp)
  subst e
  have e6 : moveV V l (nI q) k 6 = V 6 := moveV_o (by decide) (by decide) (by decide)
  have e10 : moveV V l (nI q) k 10 = V 10 := moveV_o (by decide) (by decide) (by decide)
  refine h.upd hl (fun kk _ _ => rfl) (fun j _ => by rw [e6]) (fun j _ => by rw [e10]) ⟨q, m', by omega, m1, rfl, by rw [e6]; exact hm, ⟨fun z => by omega, fun z => by omega⟩, h1, h3, ?_⟩
  rw [e10]
  exact ⟨fun _ => ke.1 hp3, fun _ => hq⟩
theorem P7_move {p q x : Nat} {k : Int32} (hl : l < N) (hp : V 7 l = nI p) (hp5 : p ≤ 5) (hq5 : q ≤ 5) (hx5 : x ≤ 5) : P7 (moveV V l (nI q) k) x N + (if p = x then 1 else 0) = P7 V x N + (if q = x then 1 else 0) := by
  unfold P7
  rw [cntB_one (fun j => decide (moveV V l (nI q) k 7 j = nI x)) N hl, cntB_one (fun j => decide (V 7 j = nI x)) N hl]
  have e : cntB (fun j => decide (moveV V l (nI q) k 7 j = nI x) && decide (¬ j = l)) N = cntB (fun j => decide (V 7 j = nI x) && decide (¬ j = l)) N := cntB_congr N (fun j hj => by
    by_cases hjl : j = l
    · simp [hjl]
    · rw [moveV_7, if_neg hjl])
  rw [e]
  have e1 : decide (moveV V l (nI q) k 7 l = nI x) = decide (q = x) := by
    rw [moveV_7, if_pos rfl]
    exact decide_eq_decide.2 (nI_eq (by omega) (by omega))
  have e2 : decide (V 7 l = nI x) = decide (p = x) := by
    rw [hp]
    exact decide_eq_decide.2 (nI_eq (by omega) (by omega))
  simp only [e1, e2, decide_eq_true_eq]
  omega
theorem P7_congr {p : Nat} (h : V' 7 = V 7) : P7 V' p N = P7 V p N := by unfold P7; rw [h]
theorem P7_le {p : Nat} : P7 V p N ≤ N := cntB_le _ _
theorem P7_0 {p : Nat} (hN : N < 2 ^ 31) (h : P7 V p N = 0) (hl : l < N) : ¬ V 7 l = nI p := fun z => by
  have := cntB_one (fun l => decide (V 7 l = nI p)) N hl
  unfold P7 at h
  rw [h] at this
  simp only [z, decide_true, if_true] at this
  omega
theorem B0.pl (h : B0 V N Y) (hl : l < N) : ∃ p, p ≤ 5 ∧ V 7 l = nI p := by
  obtain ⟨p', m', p1, m1, hpq, -⟩ := (h.2.2.2 l hl).2.2.1
  exact ⟨p', p1, hpq⟩
theorem nIp {p q : Nat} (hp : p ≤ 5) (hq : q ≤ 5) : nI p = nI q ↔ p = q := nI_eq (by omega) (by omega)
end IA
