/-! The relation through a round's end. -/
section NJ
variable {V : VV} {r : Nat → Int32} {N l : Nat}
/-- what a step of a round's end does not touch: other letters -/
theorem comSt_keep {w can m k : Nat} {q : (Nat → Int32) × Nat} (hl : l < 120) (hm : m < 120) (hk : k < 7) (hml : m ≠ l) : ofr (comSt N w can l q).1 m k = ofr q.1 m k := by
  have hs : ∀ (r : Nat → Int32) (j : Nat) (v : Int32), j < 7 → ofr (seto r l j v) m k = ofr r m k := fun r j v hj => by unfold ofr seto upd; rw [if_neg (by omega)]
  have hp : ∀ (r : Nat → Int32) (a b : Int32), ofr (putsr r l a b) m k = ofr r m k := fun r a b => by unfold putsr; rw [hs _ 4 _ (by omega), hs _ 3 _ (by omega)]
  have he : ∀ (r : Nat → Int32) (p : Int32), ofr (endsr r l p) m k = ofr r m k := fun r p => by unfold endsr; rw [hs _ 6 _ (by omega), hp]
  have h1 : ∀ (r : Nat → Int32), ofr (mis1 r l) m k = ofr r m k := fun r => by
    unfold mis1
    rw [hs _ 2 _ (by omega)]
    unfold ofr upd
    rw [if_neg (by omega)]
  unfold comSt
  split
  · split
    · exact he _ _
    · dsimp only
      split
      · exact hp _ _ _
      · exact hp _ _ _
  · dsimp only
    unfold misr
    split
    · rw [he, h1]
    · rw [hp, h1]
theorem comL_keep {w can m k : Nat} {R : List Nat} (hR : ∀ a, a ∈ R → a < 120) (hm : m < 120) (hk : k < 7) : ∀ n, n ≤ R.length → (∀ j, j < n → m ≠ revD R j) → ofr (comL r N w R can n).1 m k = ofr r m k
  | 0, _, _ => rfl
  | n + 1, hn, hne => by
    show ofr (comSt N w can (revD R n) (comL r N w R can n)).1 m k = _
    rw [comSt_keep (hR _ (revD_mem R n (by omega))) hm hk (hne n (by omega)), comL_keep hR hm hk n (by omega) (fun j hj => hne j (by omega))]
theorem RO.com {R : List Nat} {w can : Nat} (h : RO V r N) (hw : w < 8) (hR : ∀ a, a ∈ R → a < N) (hnd : R.Nodup) (hm : ∀ a, a ∈ R → ∃ m, m ≤ 2 ∧ ofr r a 2 = nI m) : ∀ k, k ≤ R.length → RO (brL V w R can k).1 (comL r N w R can k).1 N ∧ (brL V w R can k).2 + (comL r N w R can k).2 = can ∧ (comL r N w R can k).2 = min can (cntB (fun j => decide (wkr r (revD R j) = w)) k)
  | 0, _ => ⟨h, rfl, by simp [comL, cntB]⟩
  | k + 1, hk => by
    obtain ⟨i1, i2, i3⟩ := h.com (can := can) hw hR hnd hm k (by omega)
    have hN2 : N ≤ 120 := h.1.1
    have hmem := revD_mem R k (by omega)
    have hlk := hR _ hmem
    have hR2 : ∀ a, a ∈ R → a < 120 := fun a ha => by have := hR a ha; omega
    have hsame := comL_same (r := r) (N := N) (w := w) (can := can) hR2 k (by omega)
    have hwk := i1.wk hlk
    have hwk0 : wkr (comL r N w R can k).1 (revD R k) = wkr r (revD R k) := by
      obtain ⟨c, c1, c2, c3, c4⟩ := wkr_of h.okr hlk
      unfold wkr
      rw [hsame.2 _ 0 (by omega) (by omega), c2, nI_clamp (by omega), hsame.1 c (by omega)]
    obtain ⟨m, m2, m3⟩ := hm _ hmem
    have hmk : ofr (comL r N w R can k).1 (revD R k) 2 = nI m := by
      rw [comL_keep hR2 (by omega) (by omega) k (by omega) (fun j hj z => by have := revD_inj R hnd k j (by omega) (by omega) z; omega)]
      exact m3
    have hcnt : cntB (fun j => decide (wkr r (revD R j) = w)) (k + 1) = cntB (fun j => decide (wkr r (revD R j) = w)) k + (if decide (wkr r (revD R k) = w) then 1 else 0) := rfl
    rw [hcnt]
    show RO (brSt w (revD R k) (brL V w R can k)).1 (comSt N w can (revD R k) (comL r N w R can k)).1 N ∧ (brSt w (revD R k) (brL V w R can k)).2 + (comSt N w can (revD R k) (comL r N w R can k)).2 = can ∧ (comSt N w can (revD R k) (comL r N w R can k)).2 = _
    generalize brL V w R can k = qv at i1 i2 hwk ⊢
    generalize comL r N w R can k = qr at i1 i2 i3 hwk hwk0 hmk ⊢
    obtain ⟨Vk, dv⟩ := qv
    obtain ⟨rk, dr⟩ := qr
    dsimp only at i1 i2 i3 hwk hwk0 hmk
    unfold brSt comSt
    dsimp only
    rw [hwk, hwk0]
    by_cases hz : wkr r (revD R k) = w
    · rw [if_pos hz, if_pos hz, decide_eq_true hz, if_pos rfl]
      by_cases hd : dr < can
      · rw [if_pos hd, if_pos (show 0 < dv by omega)]
        exact ⟨i1.fin hlk (Or.inl rfl) (fun _ => ⟨m, m2, hmk⟩), by dsimp only; omega, by dsimp only; omega⟩
      · rw [if_neg hd, if_neg (show ¬ 0 < dv by omega)]
        refine ⟨?_, i2, by dsimp only; omega⟩
        dsimp only
        unfold pbV
        rw [i1.free hw]
        by_cases hf : freer rk N w ≤ 0
        · rw [if_pos hf, if_pos hf]
          exact i1.move (q := 2) hlk (by omega) (fun z => absurd z (by omega)) (fun z => absurd z (by omega)) (fun _ => ⟨m, m2, hmk⟩)
        · rw [if_neg hf, if_neg hf]
          exact i1.move (q := 1) hlk (by omega) (fun _ => ⟨rfl, w, hw, rfl⟩) (fun z => absurd z (by omega)) (fun _ => ⟨m, m2, hmk⟩)
    · rw [if_neg hz, if_neg hz, decide_eq_false hz]
      exact ⟨i1.mis hlk hmk m2, i2, by simpa using i3⟩
theorem RO.bring (h : RO V r N) {c w : Nat} (hc : c < 6) (hw : V 13 c = nI w) (hw8 : w < 8) : RO (brgV V N c w) (comesr r N c w) N ∧ brgn V N c w = comesn r N c w := by
  have hl := h.list (p := 3) (Or.inr rfl) (nI c)
  have hN2 : N ≤ 120 := h.1.1
  have hRlt : ∀ a, a ∈ atR r N (nI 3) (nI c) → a < N := atR_lt
  have hcan : cannV V c w (atR r N (nI 3) (nI c)) = cann r c w (atR r N (nI 3) (nI c)) := by
    have hb : blnV V w (atR r N (nI 3) (nI c)) = beln r w (atR r N (nI 3) (nI c)) := by
      unfold blnV beln
      exact cntB_congr _ (fun j hj => by rw [h.wk (hRlt _ (revD_mem _ j hj))])
    have h16 : V 16 (c * 8 + w) = r (963 + 8 * c + w) := by
      rw [h.1.2.2.2.2.2.2.2.2.2.2.1 (c * 8 + w) (by omega)]
      rw [show 963 + (c * 8 + w) = 963 + 8 * c + w by omega]
    unfold cannV cann
    rw [hb, h16]
    by_cases hz : r (963 + 8 * c + w) ≤ nI 1
    · rw [if_pos hz, if_pos]
      have h1 : (nI 1).toInt = 1 := by decide
      have h2 : (nI 2).toInt = 2 := by decide
      rw [Int32.le_iff_toInt_le, h1] at hz
      rw [Int32.lt_iff_toInt_lt, h2]
      omega
    · rw [if_neg hz, if_neg]
      have h1 : (nI 1).toInt = 1 := by decide
      have h2 : (nI 2).toInt = 2 := by decide
      rw [Int32.le_iff_toInt_le, h1] at hz
      rw [Int32.lt_iff_toInt_lt, h2]
      omega
  have hA := h.com (R := atR r N (nI 3) (nI c)) (w := w) (can := cann r c w (atR r N (nI 3) (nI c))) hw8 hRlt (layR_nd _ _ N) (fun a ha => by
    have hat := ((layR_mem _ _ N a).1 ha)
    obtain ⟨-, -, ⟨-, m, c1, c2, c3⟩, -⟩ := h.2.1 a hat.1
    have h3 : ofr r a 3 = nI 3 := by
      have := hat.2
      unfold atr at this
      rw [Bool.and_eq_true, decide_eq_true_eq] at this
      exact this.1
    exact ⟨m, c3 (by rw [h3]; decide), c2⟩) _ (Nat.le_refl _)
  have hmin : cann r c w (atR r N (nI 3) (nI c)) ≤ beln r w (atR r N (nI 3) (nI c)) := by
    unfold cann
    split <;> omega
  have h16e : comesn r N c w = cann r c w (atR r N (nI 3) (nI c)) := by
    unfold comesn
    rw [hA.2.2]
    exact Nat.min_eq_left hmin
  have hn : brgn V N c w = comesn r N c w := by unfold brgn; rw [hl, hcan, h16e]
  refine ⟨?_, hn⟩
  have hdone : (comL r N w (atR r N (nI 3) (nI c)) (cann r c w (atR r N (nI 3) (nI c))) (atR r N (nI 3) (nI c)).length).2 = cann r c w (atR r N (nI 3) (nI c)) := h16e
  have hsame := comL_same (r := r) (N := N) (w := w) (can := cann r c w (atR r N (nI 3) (nI c))) (R := atR r N (nI 3) (nI c)) (fun a ha => by have := hRlt a ha; omega) _ (Nat.le_refl _)
  have hVo : ∀ kk, 12 ≤ kk → (brL V w (atR r N (nI 3) (nI c)) (cann r c w (atR r N (nI 3) (nI c))) (atR r N (nI 3) (nI c)).length).1 kk = V kk := fun kk hk => brL_o (by omega) (by omega) (by omega) (by omega) (by omega) _
  unfold brgV comesr
  rw [hl, hcan]
  dsimp only
  rw [hdone]
  have hA1 := hA.1
  generalize cann r c w (atR r N (nI 3) (nI c)) = can at hA1 hsame hVo ⊢
  generalize hq1 : (brL V w (atR r N (nI 3) (nI c)) can (atR r N (nI 3) (nI c)).length).1 = Va at hA1 hVo ⊢
  generalize hq2 : (comL r N w (atR r N (nI 3) (nI c)) can (atR r N (nI 3) (nI c)).length).1 = ra at hA1 hsame ⊢
  have h13 : Va 13 c = nI w := by rw [hVo 13 (by omega)]; exact hw
  obtain ⟨k1, k2, k3, k4, k5⟩ := hA1.1.2.2.2.2.2.2.2
  have e17 : r (1017 + c) = ra (1017 + c) := (hsame.1 _ (by omega)).symm
  have e63 : r (963 + 8 * c + w) = ra (963 + (c * 8 + w)) := by rw [hsame.1 _ (by omega)]; rw [show 963 + (c * 8 + w) = 963 + 8 * c + w by omega]
  have e54 : r 954 = ra 954 := (hsame.1 _ (by omega)).symm
  rw [e17, e63, e54, show 963 + 8 * c + w = 963 + (c * 8 + w) by omega]
  generalize hrb : upd (upd (upd (upd ra (1017 + c) (ra (1017 + c) + nI can)) (963 + (c * 8 + w)) (ra (963 + (c * 8 + w)) + nI 1)) 954 (ra 954 + nI 1)) (1011 + c) (nI 0) = rb
  have b1 : ∀ j, j ≠ 1017 + c → j ≠ 963 + (c * 8 + w) → j ≠ 954 → j ≠ 1011 + c → rb j = ra j := fun j h1 h2 h3 h4 => by
    rw [← hrb]; unfold upd
    rw [if_neg h4, if_neg h3, if_neg h2, if_neg h1]
  have b2 : rb (1017 + c) = ra (1017 + c) + nI can := by
    rw [← hrb]; unfold upd
    rw [if_neg (by omega), if_neg (by omega), if_neg (by omega), if_pos rfl]
  have b3 : rb (963 + (c * 8 + w)) = ra (963 + (c * 8 + w)) + nI 1 := by
    rw [← hrb]; unfold upd
    rw [if_neg (by omega), if_neg (by omega), if_pos rfl]
  have b4 : rb 954 = ra 954 + nI 1 := by
    rw [← hrb]; unfold upd
    rw [if_neg (by omega), if_pos rfl]
  have b5 : rb (1011 + c) = nI 0 := by
    rw [← hrb]; unfold upd
    rw [if_pos rfl]
  refine hA1.congrK (fun kk hk => ?_) (fun j hj => b1 j (by omega) (by omega) (by omega) (by omega)) ⟨fun c' hc' => ?_, fun w' hw' => ?_, fun c' w' hc' hw' => ?_, fun k hk => ?_, ?_⟩
  · unfold erV wv sv
    rw [if_neg (by omega), if_neg (by omega), if_neg (by omega)]
  · obtain ⟨a1, a2, a3, a4, a5⟩ := k1 c' hc'
    show upd (Va 14) c (nI 0) c' = rb (1011 + c') ∧ (rb (1011 + c') = nI 0 ∨ rb (1011 + c') = nI 1) ∧ upd (Va 15) c (Va 15 c + nI can) c' = rb (1017 + c') ∧ (Va 13 c' = -9 ∨ ∃ w, w < 8 ∧ Va 13 c' = nI w) ∧ (rb (1011 + c') = nI 1 → ¬ Va 13 c' = -9)
    unfold upd
    by_cases hcc : c' = c
    · subst hcc
      rw [if_pos rfl, if_pos rfl, b5, b2, a3]
      exact ⟨rfl, Or.inl rfl, rfl, a4, fun z => absurd z n01⟩
    · rw [if_neg hcc, if_neg hcc, b1 (1011 + c') (by omega) (by omega) (by omega) (by omega), b1 (1017 + c') (by omega) (by omega) (by omega) (by omega)]
      exact ⟨a1, a2, a3, a4, a5⟩
  · rw [b1 _ (by omega) (by omega) (by omega) (by omega)]
    exact k2 w' hw'
  · rw [b1 _ (by omega) (by omega) (by omega) (by omega)]
    exact k3 c' w' hc' hw'
  · show upd (Va 16) (c * 8 + w) (Va 16 (c * 8 + w) + nI 1) k = rb (963 + k)
    unfold upd
    by_cases hk2 : k = c * 8 + w
    · subst hk2
      rw [if_pos rfl, b3, k4 _ hk]
    · rw [if_neg hk2, b1 _ (by omega) (by omega) (by omega) (by omega)]
      exact k4 k hk
  · show rb 954 = sumI (upd (Va 16) (c * 8 + w) (Va 16 (c * 8 + w) + nI 1)) 48
    rw [sumI_upd 48 (by omega), b4, k5]
end NJ
