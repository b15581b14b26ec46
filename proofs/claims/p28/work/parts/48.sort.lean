/-! An hour of an office: the letters sorted one by one. -/
section HB
variable {V V' V2 U : VV} {N Y l : Nat}
theorem frm_cases (h : B0 V N Y) : (frmV V N l = V) ∨ ∃ d, d < N ∧ V 7 d = nI 1 ∧ frmV V N l = moveV V d (nI 2) (-9) ∧ ¬ frmT V N l = -9 := by
  unfold frmV frmT
  by_cases h1 : freV V (wkV V l) ≤ 0
  · rw [if_pos h1, if_pos h1]
    by_cases h2 : V 0 5 = nI 1 ∧ V 5 l = nI 1
    · rw [if_pos h2, if_pos h2]
      unfold dspV
      by_cases h3 : lastB (secV V (nI (wkV V l))) N = -9
      · rw [if_pos h3]
        exact Or.inl rfl
      · rw [if_neg h3, if_neg h3]
        rcases lastB_c (secV V (nI (wkV V l))) N with z | ⟨d, d1, d2, d3⟩
        · exact absurd z h3
        · refine Or.inr ⟨d, d1, (secV_of d3).1, by rw [d2, nI_clamp (by have := h.nle; omega)], ?_⟩
          have e := (secV_of d3).2
          obtain ⟨w, w1, w2⟩ := (h.okV d d1).2 (secV_of d3).1
          rw [← e, w2]
          exact nI_n9 (by omega)
    · rw [if_neg h2]
      exact Or.inl rfl
  · rw [if_neg h1]
    exact Or.inl rfl
/-- one letter of the bag is sorted -/
theorem srt_step (h : B0 V N Y) (hl : l < N) (h0 : V 7 l = nI 0) : B0 (srtV V N l) N Y ∧ Sm V (srtV V N l) N ∧ (∀ j, j ≠ l → V 7 j = nI 0 → srtV V N l 7 j = nI 0) ∧ P7 (srtV V N l) 0 N + 1 = P7 V 0 N ∧ P7 (srtV V N l) 0 N + P7 (srtV V N l) 2 N ≤ P7 V 0 N + P7 V 2 N ∧ P7 V 0 N + P7 V 2 N ≤ P7 (srtV V N l) 0 N + P7 (srtV V N l) 2 N + (if srtB V N l then 1 else 0) := by
  have hw := (wkV_of h.okV hl).choose_spec.2.2.2
  have hT := frmT_c (N := N) hw
  have h2 : ∀ {W : VV}, B0 W N Y → W 7 l = nI 0 → ∀ q, q = 1 ∨ q = 2 → ∀ k, (q = 1 → ∃ w, w < 8 ∧ k = nI w) → B0 (moveV W l (nI q) k) N Y ∧ Sm W (moveV W l (nI q) k) N ∧ (∀ j, j ≠ l → W 7 j = nI 0 → moveV W l (nI q) k 7 j = nI 0) ∧ P7 (moveV W l (nI q) k) 0 N + 1 = P7 W 0 N ∧ P7 (moveV W l (nI q) k) 2 N = P7 W 2 N + (if q = 2 then 1 else 0) := fun {W} hW h0 q hq k hk => by
    refine ⟨hW.move (p := 0) hl h0 (by omega) (by omega) hk (fun z => by omega), Sm.move (p := 0) h0 (by omega) (by omega), fun j hj hj0 => ?_, ?_, ?_⟩
    · rw [moveV_7, if_neg hj]
      exact hj0
    · have := P7_move (p := 0) (q := q) (x := 0) (k := k) hl h0 (by omega) (by omega) (by omega)
      rw [if_pos rfl, if_neg (by omega)] at this
      exact this
    · have := P7_move (p := 0) (q := q) (x := 2) (k := k) hl h0 (by omega) (by omega) (by omega)
      rw [if_neg (by omega)] at this
      exact this
  rcases frm_cases (l := l) h with e | ⟨d, d1, d2, d3, d4⟩
  · unfold srtV srtB
    rw [e]
    by_cases hn : frmT V N l = -9
    · rw [if_pos hn, decide_eq_false (fun z => z hn)]
      obtain ⟨a1, a2, a3, a4, a5⟩ := h2 h h0 2 (by omega) (-9) (fun z => by omega)
      rw [if_pos rfl] at a5
      refine ⟨a1, a2, a3, a4, by omega, ?_⟩
      rw [if_neg (by decide)]
      omega
    · rw [if_neg hn, decide_eq_true hn, if_pos rfl]
      obtain ⟨a1, a2, a3, a4, a5⟩ := h2 h h0 1 (by omega) (frmT V N l) (fun _ => hT.resolve_left hn)
      rw [if_neg (by omega)] at a5
      exact ⟨a1, a2, a3, a4, by omega, by omega⟩
  · unfold srtV srtB
    rw [if_neg d4, decide_eq_true d4, if_pos rfl, d3]
    have hdl : l ≠ d := fun z => by
      rw [z, d2] at h0
      exact absurd h0 (by decide)
    have b1 := h.move (q := 2) (k := -9) d1 d2 (by omega) (by omega) (fun z => by omega) (fun z => by omega)
    have b2 : Sm V (moveV V d (nI 2) (-9)) N := Sm.move (p := 1) d2 (by omega) (by omega)
    have c0 := P7_move (p := 1) (q := 2) (x := 0) (k := -9) d1 d2 (by omega) (by omega) (by omega)
    have c2 := P7_move (p := 1) (q := 2) (x := 2) (k := -9) d1 d2 (by omega) (by omega) (by omega)
    rw [if_neg (by omega), if_neg (by omega)] at c0
    rw [if_neg (by omega), if_pos rfl] at c2
    have b0 : moveV V d (nI 2) (-9) 7 l = nI 0 := by
      rw [moveV_7, if_neg hdl]
      exact h0
    obtain ⟨a1, a2, a3, a4, a5⟩ := h2 b1 b0 1 (by omega) (frmT V N l) (fun _ => hT.resolve_left d4)
    rw [if_neg (by omega)] at a5
    refine ⟨a1, b2.tr a2, fun j hj hj0 => a3 j hj ?_, by omega, by omega, by omega⟩
    rw [moveV_7]
    by_cases hjd : j = d
    · subst hjd
      rw [d2] at hj0
      exact absurd hj0 (by decide)
    · rw [if_neg hjd]
      exact hj0
/-- the first k of a list of letters in the bag are sorted -/
theorem srts_all {R : List Nat} (h : B0 V N Y) (hR : ∀ j, j < R.length → revD R j < N ∧ V 7 (revD R j) = nI 0) (hd : ∀ i j, i < j → j < R.length → revD R i ≠ revD R j) : ∀ k, k ≤ R.length → B0 (srtsV V N R k) N Y ∧ Sm V (srtsV V N R k) N ∧ (∀ j, k ≤ j → j < R.length → srtsV V N R k 7 (revD R j) = nI 0) ∧ P7 (srtsV V N R k) 0 N + k = P7 V 0 N ∧ P7 (srtsV V N R k) 0 N + P7 (srtsV V N R k) 2 N ≤ P7 V 0 N + P7 V 2 N ∧ P7 V 0 N + P7 V 2 N ≤ P7 (srtsV V N R k) 0 N + P7 (srtsV V N R k) 2 N + srtsn V N R k
  | 0, _ => ⟨h, Sm.rf, fun j _ hj => (hR j hj).2, rfl, Nat.le_refl _, Nat.le_refl _⟩
  | k + 1, hk => by
    obtain ⟨a1, a2, a3, a4, a5, a6⟩ := srts_all h hR hd k (by omega)
    obtain ⟨b1, b2, b3, b4, b5, b6⟩ := srt_step (l := revD R k) a1 (hR k (by omega)).1 (a3 k (Nat.le_refl _) (by omega))
    have e : srtsV V N R (k + 1) = srtV (srtsV V N R k) N (revD R k) := rfl
    have e2 : srtsn V N R (k + 1) = srtsn V N R k + (if srtB (srtsV V N R k) N (revD R k) then 1 else 0) := rfl
    rw [e, e2]
    refine ⟨b1, a2.tr b2, fun j hj hjl => b3 _ (fun z => hd k j (by omega) hjl z.symm) (a3 j (by omega) hjl), by omega, by omega, by omega⟩
theorem hr1_ok (h : IV V N Y) : IV (hr1V V) N (Y + 1) := by
  obtain ⟨⟨⟨a1, a2, a3, a4, ⟨y, y1, y2⟩, a6, a7, a8⟩, b, c, e⟩, f, g⟩ := h
  have h4 : hr1V V 0 4 = V 0 4 + nI 1 := by
    show upd (V 0) 4 _ 4 = _
    exact if_pos rfl
  refine ⟨⟨⟨a1, a2, a3, a4, ⟨y + 1, by omega, by rw [h4, y2, nI_add']⟩, a6, a7, a8⟩, b, c, fun l hl => ?_⟩, f, g⟩
  obtain ⟨e1, e2, e3, x, y', xy, yY, x9, y4⟩ := e l hl
  exact ⟨e1, e2, e3, x, y' + 1, by omega, by omega, x9, by rw [h4, y4, nI_add']⟩
/-- the waiting letters -/
def wtn (V : VV) (N : Nat) : Nat := P7 V 0 N + P7 V 2 N
theorem hour_all (h : IV V N Y) : IV (hrsV V N) N (Y + 1) ∧ (bagH V N).length = wtn V N ∧ (∀ a, a ∈ bagH V N → a < N) ∧ hrsV V N 0 4 = V 0 4 + nI 1 ∧ (∀ kk, kk ≠ 0 → kk ≠ 7 → kk ≠ 8 → kk ≠ 11 → hrsV V N kk = V kk) ∧ (∀ x, x ≠ 4 → hrsV V N 0 x = V 0 x) ∧ P7 (hrsV V N) 0 N + min (wtn V N) (V 0 6).toNatClampNeg = wtn V N ∧ wtn (hrsV V N) N ≤ wtn V N ∧ wtn V N ≤ wtn (hrsV V N) N + hrsn V N := by
  have h1 := hr1_ok h
  obtain ⟨o1, o2, -⟩ := ov_all h1.1 N (Nat.le_refl _)
  obtain ⟨c1, c2⟩ := ov_cnt h1.1
  have e1 : wtn V N = P7 (hr1V V) 0 N + P7 (hr1V V) 2 N := rfl
  have hlen : (bagH V N).length = wtn V N := by
    unfold bagH
    rw [bag_len o1, c1, e1]
  have hin : ∀ a, a ∈ bagH V N → a < N ∧ ovV (hr1V V) N 7 a = nI 0 := fun a ha => bag_in ha
  have hpw : (bagH V N).Pairwise (ahead (ovV (hr1V V) N)) := bag_pw
  obtain ⟨s1, s2, -, s4, s5, s6⟩ := srts_all (R := bagH V N) o1 (fun j hj => hin _ (revD_mem _ j hj)) (fun i j hij hj => fun z => ahead_ne (pw_revD (R := []) _ hpw i j hij hj) z.symm) (min (bagH V N).length (V 0 6).toNatClampNeg) (Nat.min_le_left _ _)
  have e : srtsV (ovV (hr1V V) N) N (bagH V N) (min (bagH V N).length (V 0 6).toNatClampNeg) = hrsV V N := rfl
  have en : srtsn (ovV (hr1V V) N) N (bagH V N) (min (bagH V N).length (V 0 6).toNatClampNeg) = hrsn V N := rfl
  rw [e] at s1 s2 s4 s5 s6
  rw [en] at s6
  have oo : ∀ kk, kk ≠ 7 → kk ≠ 8 → kk ≠ 11 → hrsV V N kk = hr1V V kk := fun kk k7 k8 k11 => by
    rw [← e, srtsV_o k7 k8 k11, ovV_o k7 k8 k11]
  refine ⟨⟨s1, (o2.tr s2).ih h1.2.1, (o2.tr s2).idd h1.2.2⟩, hlen, fun a ha => (hin a ha).1, ?_, fun kk k0 k7 k8 k11 => ?_, fun x hx => ?_, ?_, ?_, ?_⟩
  · rw [oo 0 (by decide) (by decide) (by decide)]
    show upd (V 0) 4 _ 4 = _
    exact if_pos rfl
  · rw [oo kk k7 k8 k11]
    unfold hr1V wv sv
    rw [if_neg k0]
  · rw [oo 0 (by decide) (by decide) (by decide)]
    show upd (V 0) 4 _ x = _
    exact if_neg hx
  · rw [hlen] at s4
    rw [s4, c1, e1]
  · unfold wtn
    unfold wtn at e1
    omega
  · unfold wtn
    unfold wtn at e1
    omega
end HB
