/-! A round's end of an office. -/
section HD
variable {V V' V2 U : VV} {N Y l c w : Nat}
theorem finV_7 {p h : Int32} : finV V l p h 7 = moveV V l p (-9) 7 := by unfold finV wv sv; rw [if_neg (by decide)]
theorem finV_8 {p h : Int32} : finV V l p h 8 = moveV V l p (-9) 8 := by unfold finV wv sv; rw [if_neg (by decide)]
theorem pIP (h : B0 V N Y) (hl : l < N) {p : Nat} (hp : V 7 l = nI p) (hp5 : p ≤ 5) : ∃ m', m' ≤ 3 ∧ V 6 l = nI m' ∧ (p = 5 ↔ m' = 3) ∧ (p ≤ 3 ↔ V 10 l = -9) := by
  obtain ⟨p', m', p1, m1, hpq, hm, pm, -, -, ke⟩ := (h.2.2.2 l hl).2.2.1
  have e : p' = p := (nI_eq (by omega) (by omega)).1 (hpq.symm.trans hp)
  subst e
  exact ⟨m', m1, hm, pm, ke⟩
theorem hour_n9 (hY : Y < 2 ^ 30) (h : B0 V N Y) : ¬ V 0 4 = -9 := by
  obtain ⟨y, y1, y2⟩ := h.1.2.2.2.2.1
  rw [y2]
  exact nI_n9 (by omega)
/-- what a letter of the hand does when the round ends -/
theorem brSt_step (hY : Y < 2 ^ 30) {d : Nat} (h : B0 V N Y) (hl : l < N) (hw : w < 8) (h3 : V 7 l = nI 3) : B0 (brSt w l (V, d)).1 N Y ∧ (∀ j, j ≠ l → (brSt w l (V, d)).1 7 j = V 7 j ∧ (brSt w l (V, d)).1 8 j = V 8 j) ∧ ¬ (brSt w l (V, d)).1 7 l = nI 3 ∧ P7 (brSt w l (V, d)).1 4 N + (brSt w l (V, d)).2 = P7 V 4 N + d ∧ (brSt w l (V, d)).2 = (if wkV V l = w then d - 1 else d) := by
  obtain ⟨m, m1, hm, pm, ke⟩ := pIP h hl h3 (by omega)
  have hm2 : m ≤ 2 := by
    rcases Nat.lt_or_ge m 3 with z | z
    · omega
    · have := pm.2 (by omega)
      omega
  have h10 : V 10 l = -9 := ke.1 (by omega)
  have n9 : ¬ V 0 4 = -9 := hour_n9 hY h
  have c4 : ∀ {q : Nat} {k : Int32}, q ≤ 5 → P7 (moveV V l (nI q) k) 4 N = P7 V 4 N + (if q = 4 then 1 else 0) := fun {q} {k} hq => by
    have := P7_move (p := 3) (q := q) (x := 4) (k := k) hl h3 (by omega) hq (by omega)
    rw [if_neg (by omega)] at this
    exact this
  have o7 : ∀ {q k : Int32} (j : Nat), j ≠ l → moveV V l q k 7 j = V 7 j ∧ moveV V l q k 8 j = V 8 j := fun j hj => by
    rw [moveV_7, moveV_8, if_neg hj, if_neg hj]
    exact ⟨rfl, rfl⟩
  have s7 : ∀ {q k : Int32}, moveV V l q k 7 l = q := by
    intro q k
    rw [moveV_7, if_pos rfl]
  unfold brSt
  dsimp only
  by_cases hb : wkV V l = w
  · rw [if_pos hb, if_pos hb]
    by_cases hd : 0 < d
    · rw [if_pos hd]
      dsimp only
      refine ⟨?_, fun j hj => ?_, ?_, ?_, rfl⟩
      · refine h.upd (q := nI 4) (k := -9) hl (fun kk k6 k10 => ?_) (fun j hj => ?_) (fun j hj => ?_) ⟨4, m, by omega, m1, rfl, ?_, ⟨fun z => by omega, fun z => by omega⟩, fun z => by omega, fun z => by omega, ?_⟩
        · unfold finV wv sv
          rw [if_neg k10]
        · show moveV V l (nI 4) (-9) 6 j = _
          rw [moveV_o (by decide) (by decide) (by decide)]
        · show upd (moveV V l (nI 4) (-9) 10) l _ j = _
          rw [moveV_o (by decide) (by decide) (by decide)]
          exact if_neg hj
        · show moveV V l (nI 4) (-9) 6 l = _
          rw [moveV_o (by decide) (by decide) (by decide)]
          exact hm
        · have e : finV V l (nI 4) (V 0 4) 10 l = V 0 4 := by
            show upd _ l _ l = _
            exact if_pos rfl
          rw [e]
          exact ⟨fun z => by omega, fun z => absurd z n9⟩
      · rw [finV_7, finV_8]
        exact o7 j hj
      · rw [finV_7, s7]
        decide
      · rw [P7_congr (finV_7 (V := V) (l := l)), c4 (by omega), if_pos rfl]
        omega
    · rw [if_neg hd]
      dsimp only
      unfold pbV
      have hd0 : d - 1 = d := by omega
      rw [hd0]
      by_cases hf : freV V w ≤ 0
      · rw [if_pos hf]
        refine ⟨h.move (p := 3) (q := 2) hl h3 (by omega) (by omega) (fun z => by omega) (fun z => by omega), o7, ?_, ?_, rfl⟩
        · rw [s7]; decide
        · rw [c4 (by omega), if_neg (by omega), Nat.add_zero]
      · rw [if_neg hf]
        refine ⟨h.move (p := 3) (q := 1) hl h3 (by omega) (by omega) (fun _ => ⟨w, hw, rfl⟩) (fun z => by omega), o7, ?_, ?_, rfl⟩
        · rw [s7]; decide
        · rw [c4 (by omega), if_neg (by omega), Nat.add_zero]
  · rw [if_neg hb, if_neg hb]
    dsimp only
    unfold misV
    rw [hm, nI_add']
    by_cases hlt : nI (m + 1) < nI 3
    · rw [if_pos hlt]
      have hm3 : m + 1 < 3 := (nI_ltI (by omega) (by omega)).1 hlt
      refine ⟨?_, fun j hj => ?_, ?_, ?_, rfl⟩
      · refine h.upd (q := nI 0) (k := -9) hl (fun kk k6 k10 => moveV_w6 k6) (fun j hj => ?_) (fun j hj => ?_) ⟨0, m + 1, by omega, by omega, rfl, ?_, ⟨fun z => by omega, fun z => by omega⟩, fun z => by omega, fun z => by omega, ?_⟩
        · rw [moveV_o (kk := 6) (by decide) (by decide) (by decide)]
          show upd (V 6) l _ j = _
          exact if_neg hj
        · rw [moveV_o (kk := 10) (by decide) (by decide) (by decide)]
          rfl
        · rw [moveV_o (kk := 6) (by decide) (by decide) (by decide)]
          show upd (V 6) l _ l = _
          exact if_pos rfl
        · rw [moveV_o (kk := 10) (by decide) (by decide) (by decide)]
          exact ⟨fun _ => h10, fun _ => by omega⟩
      · rw [moveV_w6 (by decide), moveV_w6 (by decide)]
        exact o7 j hj
      · rw [moveV_w6 (by decide), s7]
        decide
      · rw [P7_congr (moveV_w6 (by decide)), c4 (q := 0) (by omega), if_neg (by omega), Nat.add_zero]
    · rw [if_neg hlt]
      have hm3 : m + 1 = 3 := by
        have : ¬ m + 1 < 3 := fun z => hlt ((nI_ltI (by omega) (by omega)).2 z)
        omega
      have f7 : ∀ kk, kk ≠ 6 → kk ≠ 10 → finV (wv V 6 l (nI (m + 1))) l (nI 5) (V 0 4) kk = moveV V l (nI 5) (-9) kk := fun kk k6 k10 => by
        show (if kk = 10 then _ else moveV (wv V 6 l (nI (m + 1))) l (nI 5) (-9) kk) = _
        rw [if_neg k10, moveV_w6 k6]
      refine ⟨?_, fun j hj => ?_, ?_, ?_, rfl⟩
      · refine h.upd (q := nI 5) (k := -9) hl f7 (fun j hj => ?_) (fun j hj => ?_) ⟨5, m + 1, by omega, by omega, rfl, ?_, ⟨fun _ => hm3, fun _ => rfl⟩, fun z => by omega, fun z => by omega, ?_⟩
        · show moveV (wv V 6 l (nI (m + 1))) l (nI 5) (-9) 6 j = _
          rw [moveV_o (kk := 6) (by decide) (by decide) (by decide)]
          show upd (V 6) l _ j = _
          exact if_neg hj
        · show upd (moveV (wv V 6 l (nI (m + 1))) l (nI 5) (-9) 10) l _ j = _
          rw [moveV_o (kk := 10) (by decide) (by decide) (by decide)]
          exact if_neg hj
        · show moveV (wv V 6 l (nI (m + 1))) l (nI 5) (-9) 6 l = _
          rw [moveV_o (kk := 6) (by decide) (by decide) (by decide)]
          show upd (V 6) l _ l = _
          exact if_pos rfl
        · have e : finV (wv V 6 l (nI (m + 1))) l (nI 5) (V 0 4) 10 l = V 0 4 := by
            show upd _ l _ l = _
            exact if_pos rfl
          rw [e]
          exact ⟨fun z => by omega, fun z => absurd z n9⟩
      · rw [f7 7 (by decide) (by decide), f7 8 (by decide) (by decide)]
        exact o7 j hj
      · rw [f7 7 (by decide) (by decide), s7]
        decide
      · rw [P7_congr (f7 7 (by decide) (by decide)), c4 (q := 5) (by omega), if_neg (by omega), Nat.add_zero]
theorem brL_all {can : Nat} {R : List Nat} (hY : Y < 2 ^ 30) (h : B0 V N Y) (hw : w < 8) (hR : ∀ j, j < R.length → revD R j < N ∧ V 7 (revD R j) = nI 3) (hd : ∀ i j, i < j → j < R.length → revD R i ≠ revD R j) : ∀ k, k ≤ R.length → B0 (brL V w R can k).1 N Y ∧ (∀ l, (∀ j, j < k → revD R j ≠ l) → (brL V w R can k).1 7 l = V 7 l ∧ (brL V w R can k).1 8 l = V 8 l) ∧ (∀ j, j < k → ¬ (brL V w R can k).1 7 (revD R j) = nI 3) ∧ P7 (brL V w R can k).1 4 N + (brL V w R can k).2 = P7 V 4 N + can ∧ (brL V w R can k).2 = can - cntB (fun k => decide (wkV V (revD R k) = w)) k
  | 0, _ => ⟨h, fun l _ => ⟨rfl, rfl⟩, fun j hj => by omega, rfl, rfl⟩
  | k + 1, hk => by
    obtain ⟨a1, a2, a3, a4, a5⟩ := brL_all hY h hw hR hd k (by omega)
    have hl := (hR k (by omega)).1
    have e : brL V w R can (k + 1) = brSt w (revD R k) (brL V w R can k) := rfl
    have h24 : (brL V w R can k).1 2 = V 2 ∧ (brL V w R can k).1 4 = V 4 := ⟨brL_o (by decide) (by decide) (by decide) (by decide) (by decide) k, brL_o (by decide) (by decide) (by decide) (by decide) (by decide) k⟩
    have hwk : wkV (brL V w R can k).1 (revD R k) = wkV V (revD R k) := by
      unfold wkV
      rw [h24.1, h24.2]
    have h3 : (brL V w R can k).1 7 (revD R k) = nI 3 := by
      rw [(a2 (revD R k) (fun j hj => hd j k hj (by omega))).1]
      exact (hR k (by omega)).2
    rw [e]
    generalize brL V w R can k = q at a1 a2 a3 a4 a5 hwk h3 ⊢
    obtain ⟨W, d⟩ := q
    dsimp only at a1 a2 a3 a4 a5 hwk h3
    obtain ⟨b1, b2, b3, b4, b5⟩ := brSt_step (V := W) (d := d) hY a1 hl hw h3
    refine ⟨b1, fun m hm => ?_, fun j hj => ?_, by omega, ?_⟩
    · have hml : m ≠ revD R k := fun z => hm k (by omega) z.symm
      obtain ⟨z1, z2⟩ := b2 m hml
      obtain ⟨z3, z4⟩ := a2 m (fun j hj => hm j (by omega))
      exact ⟨z1.trans z3, z2.trans z4⟩
    · by_cases hjk : j = k
      · subst hjk
        exact b3
      · rw [(b2 (revD R j) (hd j k (by omega) (by omega))).1]
        exact a3 j (by omega)
    · rw [b5, hwk, a5]
      show _ = can - (cntB (fun k => decide (wkV V (revD R k) = w)) k + (if decide (wkV V (revD R k) = w) then 1 else 0))
      by_cases hb : wkV V (revD R k) = w
      · rw [if_pos hb, decide_eq_true hb, if_pos rfl]
        omega
      · rw [if_neg hb, decide_eq_false hb]
        simp
theorem sumI_upd {f : Nat → Int32} {c : Nat} {x : Int32} : ∀ n, sumI (upd f c (f c + x)) n = if c < n then sumI f n + x else sumI f n
  | 0 => by rw [if_neg (by omega)]; rfl
  | n + 1 => by
    unfold sumI
    rw [sumI_upd n]
    unfold upd
    by_cases hcn : c < n
    · rw [if_pos hcn, if_neg (show ¬ n = c by omega), if_pos (show c < n + 1 by omega), Int32.add_assoc, Int32.add_comm x, ← Int32.add_assoc]
    · rw [if_neg hcn]
      by_cases hc : n = c
      · subst hc
        rw [if_pos rfl, if_pos (by omega), Int32.add_assoc]
      · rw [if_neg hc, if_neg (by omega)]
theorem can_le {R : List Nat} : cannV V c w R ≤ blnV V w R := by
  unfold cannV
  split <;> omega
/-- a round's end -/
theorem brg_all (hY : Y < 2 ^ 30) (h : IV V N Y) (hc : c < 6) (hw : w < 8) (h13 : V 13 c = nI w) : IV (brgV V N c w) N Y ∧ brgV V N c w 15 c = V 15 c + nI (brgn V N c w) ∧ brgV V N c w 16 (c * 8 + w) = V 16 (c * 8 + w) + nI 1 ∧ brgV V N c w 14 c = nI 0 := by
  obtain ⟨hb, hh, hd⟩ := h
  have hR : ∀ j, j < (atVR V N (nI 3) (nI c)).length → revD (atVR V N (nI 3) (nI c)) j < N ∧ V 7 (revD (atVR V N (nI 3) (nI c)) j) = nI 3 := fun j hj => by
    obtain ⟨z1, z2, -⟩ := atVR_in (revD_mem _ j hj)
    exact ⟨z1, z2⟩
  obtain ⟨a1, a2, a3, a4, a5⟩ := brL_all (can := cannV V c w (atVR V N (nI 3) (nI c))) hY hb hw hR (fun i j hij hj => atVR_d i j hij hj) _ (Nat.le_refl _)
  have ho : ∀ kk, kk ≠ 6 → kk ≠ 7 → kk ≠ 8 → kk ≠ 10 → kk ≠ 11 → (brL V w (atVR V N (nI 3) (nI c)) (cannV V c w (atVR V N (nI 3) (nI c))) (atVR V N (nI 3) (nI c)).length).1 kk = V kk := fun kk h6 h7 h8 h10 h11 => brL_o h6 h7 h8 h10 h11 _
  have hz : (brL V w (atVR V N (nI 3) (nI c)) (cannV V c w (atVR V N (nI 3) (nI c))) (atVR V N (nI 3) (nI c)).length).2 = 0 := by
    rw [a5]
    have := can_le (V := V) (c := c) (w := w) (R := atVR V N (nI 3) (nI c))
    unfold blnV at this
    omega
  have hin : ∀ l, l < N → V 7 l = nI 3 → V 8 l = nI c → ∃ j, j < (atVR V N (nI 3) (nI c)).length ∧ revD (atVR V N (nI 3) (nI c)) j = l := fun l hl h7 h8 => by
    have hm := atVR_mem hl h7 h8
    have key : ∀ (R : List Nat), l ∈ R → ∃ j, j < R.length ∧ revD R j = l := by
      intro R
      induction R with
      | nil => intro z; exact absurd z List.not_mem_nil
      | cons a t ih =>
        intro z
        rcases List.mem_cons.1 z with z | z
        · refine ⟨t.length, by rw [List.length_cons]; omega, ?_⟩
          unfold revD
          rw [if_pos rfl, z]
        · obtain ⟨j, j1, j2⟩ := ih z
          refine ⟨j, by rw [List.length_cons]; omega, ?_⟩
          unfold revD
          rw [if_neg (by omega)]
          exact j2
    exact key _ hm
  have e : brgV V N c w = erV (brL V w (atVR V N (nI 3) (nI c)) (cannV V c w (atVR V N (nI 3) (nI c))) (atVR V N (nI 3) (nI c)).length).1 c w (brgn V N c w) := rfl
  rw [hz] at a4
  have a4 : P7 (brL V w (atVR V N (nI 3) (nI c)) (cannV V c w (atVR V N (nI 3) (nI c))) (atVR V N (nI 3) (nI c)).length).1 4 N + 0 = P7 V 4 N + brgn V N c w := a4
  have a3' : ∀ l, l < N → V 7 l = nI 3 → V 8 l = nI c → ¬ (brL V w (atVR V N (nI 3) (nI c)) (cannV V c w (atVR V N (nI 3) (nI c))) (atVR V N (nI 3) (nI c)).length).1 7 l = nI 3 := fun l hl h7 h8 => by
    obtain ⟨j, j1, j2⟩ := hin l hl h7 h8
    rw [← j2]
    exact a3 j j1
  have a2' : ∀ l, l < N → ¬ (V 7 l = nI 3 ∧ V 8 l = nI c) → (brL V w (atVR V N (nI 3) (nI c)) (cannV V c w (atVR V N (nI 3) (nI c))) (atVR V N (nI 3) (nI c)).length).1 7 l = V 7 l ∧ (brL V w (atVR V N (nI 3) (nI c)) (cannV V c w (atVR V N (nI 3) (nI c))) (atVR V N (nI 3) (nI c)).length).1 8 l = V 8 l := fun l hl hn => a2 l (fun j hj z => by
    obtain ⟨-, z2, z3⟩ := atVR_in (revD_mem (atVR V N (nI 3) (nI c)) j hj)
    rw [z] at z2 z3
    exact hn ⟨z2, z3⟩)
  rw [e]
  generalize (brL V w (atVR V N (nI 3) (nI c)) (cannV V c w (atVR V N (nI 3) (nI c))) (atVR V N (nI 3) (nI c)).length).1 = W at a1 a4 a2' a3' ho ⊢
  generalize brgn V N c w = can at a4 ⊢
  have o14 : ∀ d, erV W c w can 14 d = if d = c then nI 0 else V 14 d := fun d => by
    show (if d = c then nI 0 else W 14 d) = _
    rw [ho 14 (by decide) (by decide) (by decide) (by decide) (by decide)]
  have o15 : erV W c w can 15 = upd (V 15) c (V 15 c + nI can) := by
    show upd (W 15) c (W 15 c + nI can) = _
    rw [ho 15 (by decide) (by decide) (by decide) (by decide) (by decide)]
  have o16 : erV W c w can 16 = upd (V 16) (c * 8 + w) (V 16 (c * 8 + w) + nI 1) := by
    show upd (W 16) _ (W 16 _ + nI 1) = _
    rw [ho 16 (by decide) (by decide) (by decide) (by decide) (by decide)]
  obtain ⟨b1, ⟨b2, b2'⟩, b3, b4⟩ := a1
  refine ⟨⟨⟨b1, ⟨fun d hd6 => ?_, b2'⟩, b3, b4⟩, fun m hm z => ?_, ?_⟩, by rw [o15]; exact if_pos rfl, by rw [o16]; exact if_pos rfl, by rw [o14, if_pos rfl]⟩
  · obtain ⟨c1, c2, c3⟩ := b2 d hd6
    rw [o14]
    show _ ∧ (W 13 d = -9 ∨ ∃ w, w < 8 ∧ W 13 d = nI w) ∧ (_ → ¬ W 13 d = -9)
    rw [ho 14 (by decide) (by decide) (by decide) (by decide) (by decide)] at c1 c3
    by_cases hdc : d = c
    · rw [if_pos hdc]
      exact ⟨Or.inl rfl, c2, fun z => absurd z (by decide)⟩
    · rw [if_neg hdc]
      exact ⟨c1, c2, c3⟩
  · show ∃ d, d < 6 ∧ W 8 m = nI d ∧ _
    have z : W 7 m = nI 3 := z
    by_cases hn : V 7 m = nI 3 ∧ V 8 m = nI c
    · exact absurd z (a3' m hm hn.1 hn.2)
    · obtain ⟨z1, z2⟩ := a2' m hm hn
      rw [z1] at z
      obtain ⟨d, d1, d2, d3⟩ := hh m hm z
      refine ⟨d, d1, z2.trans d2, ?_⟩
      rw [o14, if_neg (fun q => hn ⟨z, by rw [d2, q]⟩)]
      exact d3
  · unfold ID at hd ⊢
    rw [o15, sumI_upd, if_pos hc, hd]
    show nI (P7 V 4 N) + nI can = nI (P7 W 4 N)
    rw [nI_add', ← a4, Nat.add_zero]
end HD
