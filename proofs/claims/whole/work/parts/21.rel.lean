/-! An office V of the class against a row r of the reference. -/
section NF
variable {V V' : VV} {r r' : Nat → Int32} {N l : Nat}
/-- carriers -/
def RK (V : VV) (r : Nat → Int32) : Prop :=
  (∀ c, c < 6 → V 14 c = r (1011 + c) ∧ (r (1011 + c) = nI 0 ∨ r (1011 + c) = nI 1) ∧ V 15 c = r (1017 + c) ∧ (V 13 c = -9 ∨ ∃ w, w < 8 ∧ V 13 c = nI w) ∧ (r (1011 + c) = nI 1 → ¬ V 13 c = -9)) ∧
  (∀ w, w < 8 → r (955 + w) = -9 ∨ ∃ c, c < 6 ∧ r (955 + w) = nI c) ∧
  (∀ c w, c < 6 → w < 8 → (V 13 c = nI w ↔ r (955 + w) = nI c)) ∧
  (∀ k, k < 48 → V 16 k = r (963 + k)) ∧ r 954 = sumI (V 16) 48
/-- all but letters' places, frames' counts and misroutes -/
def RX (V : VV) (r : Nat → Int32) (N : Nat) : Prop :=
  N ≤ 120 ∧ V 3 8 = nI N ∧ r 100 = nI N ∧
  (∀ c, c < 100 → V 2 c = r c ∧ ∃ w, w < 8 ∧ r c = nI w) ∧
  (∀ w, w < 8 → V 17 w = r (941 + w)) ∧
  (V 0 4 = r 952 ∧ V 0 5 = r 949 ∧ V 0 6 = r 950 ∧ V 0 7 = r 951) ∧
  ((∃ s, s ≤ 40 ∧ r 950 = nI s) ∧ ∃ s, s ≤ 30 ∧ r 951 = nI s) ∧ RK V r
/-- a letter -/
def LO (V : VV) (r : Nat → Int32) (l : Nat) : Prop :=
  (V 4 l = ofr r l 0 ∧ ∃ c, c < 100 ∧ ofr r l 0 = nI c) ∧ (V 5 l = ofr r l 1 ∧ (ofr r l 1 = nI 0 ∨ ofr r l 1 = nI 1)) ∧
  (V 6 l = ofr r l 2 ∧ ∃ m, m ≤ 3 ∧ ofr r l 2 = nI m ∧ (¬ ofr r l 3 = nI 5 → m ≤ 2)) ∧
  (V 7 l = ofr r l 3 ∧ ∃ p, p ≤ 5 ∧ ofr r l 3 = nI p) ∧ (V 9 l = ofr r l 5 ∧ V 10 l = ofr r l 6) ∧
  (ofr r l 3 = nI 1 → V 8 l = ofr r l 4 ∧ ∃ w, w < 8 ∧ ofr r l 4 = nI w) ∧ (ofr r l 3 = nI 3 → V 8 l = ofr r l 4 ∧ ∃ c, c < 6 ∧ ofr r l 4 = nI c)
def RF (V : VV) (r : Nat → Int32) (N : Nat) : Prop := ∀ w, w < 8 → V 11 w = nI (cntB (atr r (nI 1) (nI w)) N)
def RO (V : VV) (r : Nat → Int32) (N : Nat) : Prop := RX V r N ∧ (∀ l, l < N → LO V r l) ∧ RF V r N ∧ r 953 = sumI (V 6) N
theorem sumI_congr {f g : Nat → Int32} : ∀ n, (∀ j, j < n → f j = g j) → sumI f n = sumI g n
  | 0, _ => rfl
  | n + 1, h => by
    unfold sumI
    rw [sumI_congr n (fun j hj => h j (by omega)), h n (by omega)]
theorem cntB_congr {p q : Nat → Bool} : ∀ n, (∀ j, j < n → p j = q j) → cntB p n = cntB q n
  | 0, _ => rfl
  | n + 1, h => by
    unfold cntB
    rw [cntB_congr n (fun j hj => h j (by omega)), h n (by omega)]
/-- the count without l -/
theorem cntB_one (p : Nat → Bool) {l : Nat} : ∀ n, l < n → cntB p n = cntB (fun j => p j && decide (¬ j = l)) n + (if p l then 1 else 0)
  | 0, h => by omega
  | n + 1, h => by
    unfold cntB
    by_cases hl : l = n
    · subst hl
      have : cntB (fun j => p j && decide (¬ j = l)) l = cntB p l := cntB_congr l (fun j hj => by
        show (p j && decide (¬ j = l)) = p j
        rw [decide_eq_true (by omega), Bool.and_true])
      rw [this]
      simp
    · rw [cntB_one (l := l) p n (by omega)]
      have hd : decide (¬ n = l) = true := decide_eq_true (p := ¬ n = l) (fun z => hl z.symm)
      rw [hd, Bool.and_true]
      omega
theorem RX_congr (hV : ∀ kk, kk < 4 ∨ 12 ≤ kk → V' kk = V kk) (hr : ∀ j, j < 101 ∨ (941 ≤ j ∧ j ≠ 953) → r' j = r j) (h : RX V r N) : RX V' r' N := by
  obtain ⟨h1, h2, h3, h4, h5, h6, h7, h8, h9, h10, h11, h12⟩ := h
  refine ⟨h1, by rw [hV 3 (by omega)]; exact h2, by rw [hr 100 (by omega)]; exact h3, fun c hc => ?_, fun w hw => ?_, ?_, ?_, fun c hc => ?_, fun w hw => ?_, fun c w hc hw => ?_, fun k hk => ?_, ?_⟩
  · rw [hV 2 (by omega), hr c (by omega)]; exact h4 c hc
  · rw [hV 17 (by omega), hr _ (by omega)]; exact h5 w hw
  · rw [hV 0 (by omega), hr 952 (by omega), hr 949 (by omega), hr 950 (by omega), hr 951 (by omega)]; exact h6
  · rw [hr 950 (by omega), hr 951 (by omega)]; exact h7
  · rw [hV 14 (by omega), hV 15 (by omega), hV 13 (by omega), hr (1011 + c) (by omega), hr (1017 + c) (by omega)]; exact h8 c hc
  · rw [hr _ (by omega)]; exact h9 w hw
  · rw [hV 13 (by omega), hr _ (by omega)]; exact h10 c w hc hw
  · rw [hV 16 (by omega), hr _ (by omega)]; exact h11 k hk
  · rw [hr 954 (by omega), hV 16 (by omega)]; exact h12
theorem RO.okV (h : RO V r N) : okV V N := fun l hl => by
  obtain ⟨⟨-, hcnt, -, hc, -⟩, hL, -, -⟩ := h
  obtain ⟨⟨a1, c, a2, a3⟩, ⟨g1, g2⟩, -, ⟨d1, -⟩, -, e1, -⟩ := hL l hl
  obtain ⟨b1, w, b2, b3⟩ := hc c a2
  refine ⟨⟨c, w, a2, b2, a1.trans a3, b1.trans b3, by rw [g1]; exact g2, hcnt⟩, fun z => ?_⟩
  obtain ⟨f1, w2, f2, f3⟩ := e1 (d1 ▸ z)
  exact ⟨w2, f2, f1.trans f3⟩
theorem RO.okr (h : RO V r N) : okr r N := fun l hl => by
  obtain ⟨⟨-, -, -, hc, -⟩, hL, -, -⟩ := h
  obtain ⟨⟨a1, c, a2, a3⟩, -⟩ := hL l hl
  obtain ⟨b1, w, b2, b3⟩ := hc c a2
  exact ⟨c, w, a2, b2, a3, b3⟩
theorem RO.wk (h : RO V r N) (hl : l < N) : wkV V l = wkr r l := by
  obtain ⟨⟨-, -, -, hc, -⟩, hL, -, -⟩ := h
  obtain ⟨⟨a1, c, a2, a3⟩, -⟩ := hL l hl
  unfold wkV wkr
  rw [a1, a3, nI_clamp (by omega), (hc c a2).1]
theorem RO.at {p : Nat} (h : RO V r N) (hl : l < N) (hp : p = 1 ∨ p = 3) (k : Int32) : atV V (nI p) k l = atr r (nI p) k l := by
  obtain ⟨-, hL, -, -⟩ := h
  obtain ⟨-, -, -, ⟨d1, -⟩, -, e1, e3⟩ := hL l hl
  unfold atV atr
  rw [d1]
  by_cases hz : ofr r l 3 = nI p
  · have : V 8 l = ofr r l 4 := by
      rcases hp with rfl | rfl
      · exact (e1 hz).1
      · exact (e3 hz).1
    rw [this]
  · rw [decide_eq_false hz, Bool.false_and, Bool.false_and]
/-- a letter is moved on both sides -/
theorem RO.move {q : Nat} {k k' : Int32} (h : RO V r N) (hl : l < N) (hq : q ≤ 5) (h1 : q = 1 → k = k' ∧ ∃ w, w < 8 ∧ k = nI w) (h3 : q = 3 → k = k' ∧ ∃ c, c < 6 ∧ k = nI c) (h5 : q ≠ 5 → ∃ m, m ≤ 2 ∧ ofr r l 2 = nI m) : RO (moveV V l (nI q) k) (putsr r l (nI q) k') N := by
  have hok := h.okV
  obtain ⟨hX, hL, hF, hS⟩ := h
  have hN2 : N ≤ 120 := hX.1
  have hs := same34.puts (r := r) (l := l) (by omega) (nI q) k'
  have eq1 : ∀ a b : Nat, a ≤ 5 → b ≤ 5 → (nI a = nI b ↔ a = b) := fun a b ha hb => nI_eq (by omega) (by omega)
  refine ⟨RX_congr (fun kk hk => moveV_o (by omega) (by omega) (by omega)) (fun j hj => hs.1 j (by omega)) hX, fun m hm => ?_, fun w hw => ?_, ?_⟩
  · obtain ⟨a, b, ⟨c1, m0, c2, c3, c4⟩, ⟨d1, p0, d2, d3⟩, e, f1, f3⟩ := hL m hm
    unfold LO
    rw [moveV_o (kk := 4) (by decide) (by decide) (by decide), moveV_o (kk := 5) (by decide) (by decide) (by decide), moveV_o (kk := 6) (by decide) (by decide) (by decide), moveV_o (kk := 9) (by decide) (by decide) (by decide), moveV_o (kk := 10) (by decide) (by decide) (by decide), moveV_7, moveV_8, putsr_of (k := 0) (by omega), putsr_of (k := 1) (by omega), putsr_of (k := 2) (by omega), putsr_of (k := 5) (by omega), putsr_of (k := 6) (by omega), putsr_3, putsr_4]
    by_cases hml : m = l
    · subst hml
      simp only [if_true]
      refine ⟨a, b, ⟨c1, m0, c2, c3, fun z => ?_⟩, ⟨trivial, q, hq, rfl⟩, e, fun z => ?_, fun z => ?_⟩
      · have hq5 : q ≠ 5 := fun y => z (by rw [y])
        obtain ⟨m2, e1, e2⟩ := h5 hq5
        rw [c3, nI_eq (by omega) (by omega)] at e2
        omega
      · obtain ⟨g1, w, g2, g3⟩ := h1 ((eq1 q 1 hq (by omega)).1 z)
        exact ⟨g1, w, g2, by rw [← g1]; exact g3⟩
      · obtain ⟨g1, w, g2, g3⟩ := h3 ((eq1 q 3 hq (by omega)).1 z)
        exact ⟨g1, w, g2, by rw [← g1]; exact g3⟩
    · simp only [if_neg hml]
      exact ⟨a, b, ⟨c1, m0, c2, c3, c4⟩, ⟨d1, p0, d2, d3⟩, e, f1, f3⟩
  · -- the frames' counts
    obtain ⟨-, -, -, ⟨d1, -⟩, -, f1, -⟩ := hL l hl
    have hc0 : ∀ w', cntB (fun j => atr (putsr r l (nI q) k') (nI 1) w' j && decide (¬ j = l)) N = cntB (fun j => atr r (nI 1) w' j && decide (¬ j = l)) N := fun w' => cntB_congr N (fun j hj => by
      by_cases hjl : j = l
      · simp [hjl]
      · unfold atr
        rw [putsr_3, putsr_4, if_neg hjl, if_neg hjl])
    have hdn : dnV V l 11 w = nI (cntB (fun j => atr r (nI 1) (nI w) j && decide (¬ j = l)) N) := by
      have hcw := cntB_one (atr r (nI 1) (nI w)) N hl
      unfold dnV
      by_cases hz : V 7 l = nI 1
      · rw [if_pos hz]
        obtain ⟨g1, w0, g2, g3⟩ := f1 (d1 ▸ hz)
        rw [g1, g3, nI_clamp (by omega)]
        unfold wv sv
        rw [if_pos rfl]
        unfold upd
        by_cases hww : w = w0
        · subst hww
          rw [if_pos rfl, hF w hw, hcw]
          have : atr r (nI 1) (nI w) l = true := by unfold atr; rw [← d1, decide_eq_true hz, decide_eq_true g3]; rfl
          rw [this, if_pos rfl, pk_sub (by omega), Nat.add_sub_cancel]
        · rw [if_neg hww, hF w hw, hcw]
          have : atr r (nI 1) (nI w) l = false := by
            unfold atr
            rw [g3, decide_eq_false (p := nI w0 = nI w) (fun z => hww ((nI_eq (by omega) (by omega)).1 z).symm), Bool.and_false]
          rw [this]
          simp
      · rw [if_neg hz, hF w hw, hcw]
        have : atr r (nI 1) (nI w) l = false := by unfold atr; rw [← d1, decide_eq_false hz, Bool.false_and]
        rw [this]
        simp
    rw [cntB_one (atr (putsr r l (nI q) k') (nI 1) (nI w)) N hl, hc0]
    have hat : atr (putsr r l (nI q) k') (nI 1) (nI w) l = (decide (nI q = nI 1) && decide (k' = nI w)) := by
      unfold atr
      rw [putsr_3, putsr_4, if_pos rfl, if_pos rfl]
    rw [hat]
    have h11 : ∀ k, wv (wv (dnV V l) 7 l (nI q)) 8 l k 11 = dnV V l 11 := fun k => by
      unfold wv sv
      rw [if_neg (by decide), if_neg (by decide)]
    unfold moveV upV
    by_cases hq1 : nI q = nI 1
    · rw [if_pos hq1, decide_eq_true hq1, Bool.true_and]
      obtain ⟨g1, w1, g2, g3⟩ := h1 ((eq1 q 1 hq (by omega)).1 hq1)
      rw [← g1, g3, nI_clamp (by omega), h11]
      unfold wv sv
      rw [if_pos rfl]
      unfold upd
      by_cases hww : w = w1
      · subst hww
        rw [if_pos rfl, hdn, decide_eq_true rfl, if_pos rfl, nI_add']
      · rw [if_neg hww, if_neg (by decide), if_neg (by decide), hdn, decide_eq_false (p := nI w1 = nI w) (fun z => hww ((nI_eq (by omega) (by omega)).1 z).symm)]
        simp
    · rw [if_neg hq1, decide_eq_false hq1, Bool.false_and, h11, hdn]
      simp
  · rw [hs.1 953 (by omega), moveV_o (by decide) (by decide) (by decide)]
    exact hS
end NF
