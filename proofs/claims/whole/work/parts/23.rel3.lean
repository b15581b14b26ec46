/-! The relation through sorting and an hour. -/
section NH
variable {V : VV} {r : Nat → Int32} {N l : Nat}
theorem RO.free (h : RO V r N) {w : Nat} (hw : w < 8) : freV V w = freer r N w := by
  obtain ⟨⟨-, -, -, -, h17, -⟩, -, hF, -⟩ := h
  unfold freV freer
  rw [h17 w hw, hF w hw]
  generalize r (941 + w) - nI (cntB (atr r (nI 1) (nI w)) N) = z
  by_cases h1 : z < nI 0
  · rw [if_pos h1, if_pos (show z ≤ 0 from Int32.le_of_lt h1)]
  · rw [if_neg h1]
    by_cases h2 : z ≤ 0
    · rw [if_pos h2]
      exact Int32.le_antisymm h2 (Int32.not_lt.1 h1)
    · rw [if_neg h2]
theorem lastB_congr {p q : Nat → Bool} : ∀ n, (∀ j, j < n → p j = q j) → lastB p n = lastB q n
  | 0, _ => rfl
  | n + 1, h => by
    unfold lastB
    rw [lastB_congr n (fun j hj => h j (by omega)), h n (by omega)]
theorem bestF_congr {f g : Nat → Int32} : ∀ n, (∀ j, j < n → f j = g j) → bestF f n = bestF g n
  | 0, _ => rfl
  | n + 1, h => by
    unfold bestF
    rw [bestF_congr n (fun j hj => h j (by omega)), h n (by omega)]
theorem RO.sec (h : RO V r N) {w : Nat} : lastB (secV V (nI w)) N = lastB (secB r w) N := lastB_congr N (fun j hj => by
  unfold secV secB
  rw [h.at hj (Or.inl rfl), ((h.2.1 j hj).2.1).1])
theorem RO.best (h : RO V r N) : (bestF (freV V) 8).1 = (bestF (freer r N) 8).1 := by
  rw [bestF_congr 8 (fun j hj => h.free hj)]
theorem putsr_twice {a b c d : Int32} : putsr (putsr r l a b) l c d = putsr r l c d := by
  funext j
  unfold putsr seto upd
  repeat' split
  all_goals first | rfl | omega
theorem putsr_over {m : Nat} {a b c d e f : Int32} : putsr (putsr (putsr r l a b) m c d) l e f = putsr (putsr r m c d) l e f := by
  funext j
  by_cases h1 : j = 104 + 7 * l
  · unfold putsr seto upd
    rw [if_neg (by omega), if_pos (by omega), if_neg (by omega), if_pos (by omega)]
  · by_cases h2 : j = 105 + 7 * l
    · unfold putsr seto upd
      rw [if_pos (by omega), if_pos (by omega)]
    · rw [putsr_o (l := l) h1 h2, putsr_o (l := l) h1 h2]
      unfold putsr seto upd
      repeat' split
      all_goals first | rfl | omega
theorem n02 : ¬ nI 0 = nI 2 := by decide
theorem n12 : ¬ nI 1 = nI 2 := by decide
theorem n10 : ¬ nI 1 = nI 0 := by decide
theorem n20 : ¬ nI 2 = nI 0 := by decide
/-- a letter from the bag into the overflow changes no frame -/
theorem atr_ov (hb : ofr r l 3 = nI 0) (w : Int32) (j : Nat) : atr (putsr r l (nI 2) (nI 0)) (nI 1) w j = atr r (nI 1) w j := by
  unfold atr
  rw [putsr_3, putsr_4]
  by_cases hj : j = l
  · subst hj
    rw [if_pos rfl, hb, decide_eq_false (p := nI 2 = nI 1) n21, decide_eq_false (p := nI 0 = nI 1) n01, Bool.false_and, Bool.false_and]
  · rw [if_neg hj, if_neg hj]
theorem freer_ov (hl : l < 120) (hb : ofr r l 3 = nI 0) (w : Nat) (hw : w < 8) : freer (putsr r l (nI 2) (nI 0)) N w = freer r N w := by
  unfold freer
  rw [putsr_hi hl (by omega), cntB_congr N (fun j _ => atr_ov hb (nI w) j)]
theorem secB_ov (hb : ofr r l 3 = nI 0) (w : Nat) : lastB (secB (putsr r l (nI 2) (nI 0)) w) N = lastB (secB r w) N := lastB_congr N (fun j _ => by
  unfold secB
  rw [atr_ov hb, putsr_of (by omega)])
/-- sorting one letter of the bag, in one word -/
theorem sortsr_eq (hN2 : N ≤ 120) (hl : l < 120) (hb : ofr r l 3 = nI 0) : sortsr r N l =
    if freer r N (wkr r l) ≤ 0 then
      (if r 949 = nI 1 ∧ ofr r l 1 = nI 1 then (if lastB (secB r (wkr r l)) N = -9 then putsr r l (nI 2) (nI 0) else putsr (putsr r (lastB (secB r (wkr r l)) N).toNatClampNeg (nI 2) (nI 0)) l (nI 1) (nI (wkr r l)))
       else if r 949 = nI 2 then (if (bestF (freer r N) 8).1 = -9 then putsr r l (nI 2) (nI 0) else putsr r l (nI 1) (bestF (freer r N) 8).1) else putsr r l (nI 2) (nI 0))
    else putsr r l (nI 1) (nI (wkr r l)) := by
  unfold sortsr
  by_cases hf : freer r N (wkr r l) ≤ 0
  · rw [if_pos hf, if_pos hf]
    have e9 : putsr r l (nI 2) (nI 0) 949 = r 949 := putsr_hi hl (by omega)
    have e1 : ofr (putsr r l (nI 2) (nI 0)) l 1 = ofr r l 1 := putsr_of (by omega)
    have eb : (bestF (freer (putsr r l (nI 2) (nI 0)) N) 8).1 = (bestF (freer r N) 8).1 := by rw [bestF_congr 8 (fun j hj => freer_ov hl hb j hj)]
    by_cases h1 : r 949 = nI 1
    · have hn2 : ¬ r 949 = nI 2 := by rw [h1]; exact n12
      by_cases h2 : ofr r l 1 = nI 1
      · rw [if_pos ⟨h1, h2⟩]
        unfold sort1
        rw [e9, if_pos h1, e1, if_pos h2, secB_ov hb]
        by_cases h3 : lastB (secB r (wkr r l)) N = -9
        · rw [if_pos h3, if_pos h3]
          unfold sort2
          rw [e9, if_neg hn2]
        · rw [if_neg h3, if_neg h3]
          unfold sort2
          rcases lastB_c (secB r (wkr r l)) N with h | ⟨k, k1, k2, -⟩
          · exact absurd h h3
          · rw [k2, nI_clamp (by omega), putsr_hi hl (by omega), putsr_hi (l := k) (by omega) (by omega), e9, if_neg hn2, putsr_over]
      · rw [if_neg (fun z => h2 z.2), if_neg hn2]
        unfold sort1
        rw [e9, if_pos h1, e1, if_neg h2]
        unfold sort2
        rw [e9, if_neg hn2]
    · rw [if_neg (fun z => h1 z.1)]
      unfold sort1
      rw [e9, if_neg h1]
      unfold sort2
      rw [e9, eb]
      by_cases h2 : r 949 = nI 2
      · rw [if_pos h2, if_pos h2]
        by_cases h3 : (bestF (freer r N) 8).1 = -9
        · rw [if_pos h3, if_pos h3]
        · rw [if_neg h3, if_neg h3, putsr_twice]
      · rw [if_neg h2, if_neg h2]
  · rw [if_neg hf, if_neg hf]
theorem RO.sort (h : RO V r N) (hl : l < N) (hb : ofr r l 3 = nI 0) : RO (srtV V N l) (sortsr r N l) N ∧ srtB V N l = decide (ofr (sortsr r N l) l 3 = nI 1) := by
  have hN2 : N ≤ 120 := h.1.1
  have hl2 : l < 120 := by omega
  have hwk := h.wk hl
  have hw8 : wkr r l < 8 := (wkr_of h.okr hl).choose_spec.2.2.2
  have hm : ∃ m, m ≤ 2 ∧ ofr r l 2 = nI m := by
    obtain ⟨-, -, ⟨-, m, c1, c2, c3⟩, -⟩ := h.2.1 l hl
    exact ⟨m, c3 (by rw [hb]; decide), c2⟩
  have h05 : V 0 5 = r 949 := h.1.2.2.2.2.2.1.2.1
  have h5l : V 5 l = ofr r l 1 := (h.2.1 l hl).2.1.1
  have m1 : ∀ w, w < 8 → RO (moveV V l (nI 1) (nI w)) (putsr r l (nI 1) (nI w)) N := fun w hw => h.move hl (by omega) (fun _ => ⟨rfl, w, hw, rfl⟩) (fun z => absurd z (by omega)) (fun _ => hm)
  have m2 : RO (moveV V l (nI 2) (-9)) (putsr r l (nI 2) (nI 0)) N := h.move hl (by omega) (fun z => absurd z (by omega)) (fun z => absurd z (by omega)) (fun _ => hm)
  have p2 : ∀ r' : Nat → Int32, decide (ofr (putsr r' l (nI 2) (nI 0)) l 3 = nI 1) = false := fun r' => by
    rw [putsr_3, if_pos rfl]
    decide
  have p1 : ∀ (r' : Nat → Int32) (x : Int32), decide (ofr (putsr r' l (nI 1) x) l 3 = nI 1) = true := fun r' x => by
    rw [putsr_3, if_pos rfl]
    decide
  rw [sortsr_eq hN2 hl2 hb]
  unfold srtV srtB
  by_cases hf : freer r N (wkr r l) ≤ 0
  · have hf2 : freV V (wkV V l) ≤ 0 := by rw [hwk, h.free hw8]; exact hf
    rw [if_pos hf]
    by_cases hc : r 949 = nI 1 ∧ ofr r l 1 = nI 1
    · have hc2 : V 0 5 = nI 1 ∧ V 5 l = nI 1 := by rw [h05, h5l]; exact hc
      rw [if_pos hc]
      by_cases hs : lastB (secB r (wkr r l)) N = -9
      · have hs2 : lastB (secV V (nI (wkV V l))) N = -9 := by rw [hwk, h.sec]; exact hs
        have eT : frmT V N l = -9 := by unfold frmT; rw [if_pos hf2, if_pos hc2, if_pos hs2]
        have eV : frmV V N l = V := by unfold frmV dspV; rw [if_pos hf2, if_pos hc2, if_pos hs2]
        rw [if_pos hs, eT, eV, if_pos rfl, p2]
        exact ⟨m2, by decide⟩
      · have hs2 : ¬ lastB (secV V (nI (wkV V l))) N = -9 := by rw [hwk, h.sec]; exact hs
        have eT : frmT V N l = nI (wkr r l) := by unfold frmT; rw [if_pos hf2, if_pos hc2, if_neg hs2, hwk]
        rcases lastB_c (secB r (wkr r l)) N with z | ⟨d, d1, d2, d3⟩
        · exact absurd z hs
        · have eV : frmV V N l = moveV V d (nI 2) (-9) := by unfold frmV dspV; rw [if_pos hf2, if_pos hc2, if_neg hs2, hwk, h.sec, d2, nI_clamp (by omega)]
          have hdat : atr r (nI 1) (nI (wkr r l)) d = true := by
            unfold secB at d3
            rw [Bool.and_eq_true] at d3
            exact d3.1
          have hd3 : ofr r d 3 = nI 1 := by
            unfold atr at hdat
            rw [Bool.and_eq_true, decide_eq_true_eq] at hdat
            exact hdat.1
          have hdl : d ≠ l := fun z => by
            rw [z, hb] at hd3
            exact n01 hd3
          rw [if_neg hs, eT, eV, if_neg (nI_n9 (by omega)), p1, d2, nI_clamp (by omega), decide_eq_true (p := ¬ nI (wkr r l) = -9) (nI_n9 (by omega))]
          have hmd : ∃ m, m ≤ 2 ∧ ofr r d 2 = nI m := by
            obtain ⟨-, -, ⟨-, m, c1, c2, c3⟩, -⟩ := h.2.1 d d1
            exact ⟨m, c3 (by rw [hd3]; decide), c2⟩
          have hA := h.move (q := 2) (k := -9) (k' := nI 0) d1 (by omega) (fun z => absurd z (by omega)) (fun z => absurd z (by omega)) (fun _ => hmd)
          refine ⟨hA.move (q := 1) (k := nI (wkr r l)) (k' := nI (wkr r l)) hl (by omega) (fun _ => ⟨rfl, _, hw8, rfl⟩) (fun z => absurd z (by omega)) (fun _ => ?_), rfl⟩
          rw [putsr_of (by omega)]
          exact hm
    · have hc2 : ¬ (V 0 5 = nI 1 ∧ V 5 l = nI 1) := by rw [h05, h5l]; exact hc
      have eV : frmV V N l = V := by unfold frmV; rw [if_pos hf2, if_neg hc2]
      rw [if_neg hc, eV]
      by_cases h2 : r 949 = nI 2
      · have h22 : V 0 5 = nI 2 := by rw [h05]; exact h2
        have eT : frmT V N l = (bestF (freer r N) 8).1 := by unfold frmT; rw [if_pos hf2, if_neg hc2, if_pos h22, h.best]
        rw [if_pos h2, eT]
        rcases bestF_c (freer r N) 8 with z | ⟨k, k1, k2⟩
        · rw [if_pos z, if_pos z, z, p2]
          exact ⟨m2, by decide⟩
        · rw [k2, if_neg (nI_n9 (by omega)), if_neg (nI_n9 (by omega)), p1, decide_eq_true (p := ¬ nI k = -9) (nI_n9 (by omega))]
          exact ⟨m1 k k1, rfl⟩
      · have h22 : ¬ V 0 5 = nI 2 := by rw [h05]; exact h2
        have eT : frmT V N l = -9 := by unfold frmT; rw [if_pos hf2, if_neg hc2, if_neg h22]
        rw [if_neg h2, eT, if_pos rfl, p2]
        exact ⟨m2, by decide⟩
  · have hf2 : ¬ freV V (wkV V l) ≤ 0 := by rw [hwk, h.free hw8]; exact hf
    have eT : frmT V N l = nI (wkr r l) := by unfold frmT; rw [if_neg hf2, hwk]
    have eV : frmV V N l = V := by unfold frmV; rw [if_neg hf2]
    rw [if_neg hf, eT, eV, if_neg (nI_n9 (by omega)), p1, decide_eq_true (p := ¬ nI (wkr r l) = -9) (nI_n9 (by omega))]
    exact ⟨m1 _ hw8, rfl⟩
theorem sortsr_keep {m : Nat} (hN2 : N ≤ 120) (hl : l < 120) (hb : ofr r l 3 = nI 0) (hml : m ≠ l) (hm : ofr r m 3 = nI 0) : ofr (sortsr r N l) m 3 = nI 0 := by
  rw [sortsr_eq hN2 hl hb]
  repeat' split
  · rw [putsr_3, if_neg hml]; exact hm
  · rename_i h9
    rcases lastB_c (secB r (wkr r l)) N with z | ⟨d, d1, d2, d3⟩
    · exact absurd z h9
    · rw [d2, nI_clamp (by omega), putsr_3, if_neg hml, putsr_3]
      by_cases hmd : m = d
      · subst hmd
        unfold secB atr at d3
        simp only [Bool.and_eq_true, decide_eq_true_eq] at d3
        rw [d3.1.1] at hm
        exact absurd hm n10
      · rw [if_neg hmd]; exact hm
  · rw [putsr_3, if_neg hml]; exact hm
  · rw [putsr_3, if_neg hml]; exact hm
  · rw [putsr_3, if_neg hml]; exact hm
  · rw [putsr_3, if_neg hml]; exact hm
theorem RO.ov (h : RO V r N) : ∀ n, n ≤ N → RO (ovV V n) (ovr r n) N
  | 0, _ => h
  | n + 1, hn => by
    have ih := h.ov n (by omega)
    have h7 := ((ih.2.1 n (by omega)).2.2.2.1).1
    unfold ovV ovr
    rw [h7]
    by_cases hz : ofr (ovr r n) n 3 = nI 2
    · rw [if_pos hz, if_pos hz]
      refine ih.move (q := 0) (by omega) (by omega) (fun z => absurd z (by omega)) (fun z => absurd z (by omega)) (fun _ => ?_)
      obtain ⟨-, -, ⟨-, m, c1, c2, c3⟩, -⟩ := ih.2.1 n (by omega)
      exact ⟨m, c3 (by rw [hz]; decide), c2⟩
    · rw [if_neg hz, if_neg hz]
      exact ih
theorem RO.hr1 (h : RO V r N) : RO (hr1V V) (upd r 952 (r 952 + nI 1)) N := by
  obtain ⟨⟨h1, h2, h3, h4, h5, ⟨h6, h6b⟩, h7, h8, h9, h10, h11, h12⟩, hL, hF, hS⟩ := h
  have hu : ∀ j, j ≠ 952 → upd r 952 (r 952 + nI 1) j = r j := fun j hj => by simp [upd, hj]
  have hu3 : ∀ l k, l < 120 → k < 7 → ofr (upd r 952 (r 952 + nI 1)) l k = ofr r l k := fun l k hl hk => hu _ (by omega)
  refine ⟨⟨h1, h2, by rw [hu 100 (by omega)]; exact h3, fun c hc => by rw [hu c (by omega)]; exact h4 c hc, fun w hw => by rw [hu _ (by omega)]; exact h5 w hw, ?_, by rw [hu 950 (by omega), hu 951 (by omega)]; exact h7, fun c hc => by rw [hu (1011 + c) (by omega), hu (1017 + c) (by omega)]; exact h8 c hc, fun w hw => by rw [hu _ (by omega)]; exact h9 w hw, fun c w hc hw => by rw [hu _ (by omega)]; exact h10 c w hc hw, fun k hk => by rw [hu _ (by omega)]; exact h11 k hk, by rw [hu 954 (by omega)]; exact h12⟩, fun l hl => ?_, fun w hw => ?_, by rw [hu 953 (by omega)]; exact hS⟩
  · refine ⟨?_, by rw [hu 949 (by omega), hu 950 (by omega), hu 951 (by omega)]; exact h6b⟩
    show upd (V 0) 4 (V 0 4 + nI 1) 4 = upd r 952 (r 952 + nI 1) 952
    simp [upd, h6]
  · have hl2 : l < 120 := by omega
    have := hL l hl
    unfold LO at this ⊢
    rw [hu3 l 0 hl2 (by omega), hu3 l 1 hl2 (by omega), hu3 l 2 hl2 (by omega), hu3 l 3 hl2 (by omega), hu3 l 4 hl2 (by omega), hu3 l 5 hl2 (by omega), hu3 l 6 hl2 (by omega)]
    exact this
  · have : V 11 w = nI (cntB (atr r (nI 1) (nI w)) N) := hF w hw
    show V 11 w = _
    rw [this, cntB_congr N (fun j hj => ?_)]
    unfold atr
    rw [hu3 j 3 (by omega) (by omega), hu3 j 4 (by omega) (by omega)]
theorem insR_nd (gt : Nat → Nat → Bool) (y : Nat) : ∀ (R : List Nat), R.Nodup → y ∉ R → (insR gt R y).Nodup
  | [], _, _ => by simp [insR]
  | a :: t, hn, hy => by
    have ⟨h1, h2⟩ := List.nodup_cons.1 hn
    have ⟨h3, h4⟩ : ¬ y = a ∧ y ∉ t := ⟨fun z => hy (z ▸ List.mem_cons_self), fun z => hy (List.mem_cons_of_mem _ z)⟩
    unfold insR
    split
    · refine List.nodup_cons.2 ⟨fun z => ?_, insR_nd gt y t h2 h4⟩
      rcases (insR_mem gt t y a).1 z with z | z
      · exact h3 z.symm
      · exact h1 z
    · exact List.nodup_cons.2 ⟨hy, hn⟩
theorem layR_nd (gt : Nat → Nat → Bool) (p : Nat → Bool) : ∀ n, (layR gt p n).Nodup
  | 0 => List.nodup_nil
  | n + 1 => by
    unfold layR
    split
    · exact insR_nd gt n _ (layR_nd gt p n) (fun z => by have := ((layR_mem gt p n n).1 z).1; omega)
    · exact layR_nd gt p n
theorem revD_inj : ∀ (R : List Nat), R.Nodup → ∀ j k, j < R.length → k < R.length → revD R j = revD R k → j = k
  | [], _, j, k, h, _, _ => by simp at h
  | a :: t, hn, j, k, hj, hk, h => by
    have ⟨h1, h2⟩ := List.nodup_cons.1 hn
    rw [List.length_cons] at hj hk
    unfold revD at h
    by_cases j1 : j = t.length
    · by_cases k1 : k = t.length
      · omega
      · rw [if_pos j1, if_neg k1] at h
        exact absurd (h ▸ revD_mem t k (by omega)) h1
    · by_cases k1 : k = t.length
      · rw [if_neg j1, if_pos k1] at h
        exact absurd (h ▸ revD_mem t j (by omega)) h1
      · rw [if_neg j1, if_neg k1] at h
        exact revD_inj t h2 j k (by omega) (by omega) h
theorem RO.srts {R : List Nat} (h : RO V r N) (hR : ∀ a, a ∈ R → a < N) (hnd : R.Nodup) (hb : ∀ a, a ∈ R → ofr r a 3 = nI 0) : ∀ k, k ≤ R.length → RO (srtsV V N R k) (srts r N R k) N ∧ ∀ j, k ≤ j → j < R.length → ofr (srts r N R k) (revD R j) 3 = nI 0
  | 0, _ => ⟨h, fun j _ hj => hb _ (revD_mem R j hj)⟩
  | k + 1, hk => by
    obtain ⟨i1, i2⟩ := h.srts hR hnd hb k (by omega)
    have hN2 : N ≤ 120 := h.1.1
    have hlk := hR _ (revD_mem R k (by omega))
    have hz := i2 k (Nat.le_refl _) (by omega)
    refine ⟨(i1.sort hlk hz).1, fun j hj hj2 => ?_⟩
    exact sortsr_keep hN2 (by omega) hz (fun z => by have := revD_inj R hnd j k hj2 (by omega) z; omega) (i2 j (by omega) hj2)
theorem RO.hours (h : RO V r N) : RO (hrsV V N) (hoursr r N) N := by
  have h1 := h.hr1
  have h2 := h1.ov N (Nat.le_refl _)
  have hb : bagH V N = bagR (ovr (upd r 952 (r 952 + nI 1)) N) N := bag_same h2.2.1
  have hsp : V 0 6 = r 950 := h.1.2.2.2.2.2.1.2.2.1
  unfold hrsV hoursr
  rw [hb, hsp]
  exact (h2.srts bagR_lt (layR_nd _ _ N) (fun a ha => of_decide_eq_true ((layR_mem _ _ N a).1 ha).2) _ (Nat.min_le_left _ _)).1
end NH
