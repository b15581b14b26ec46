/-! The relation through copying, posting, ranges. -/
section NL
variable {V U : VV} {r : Nat → Int32} {N l : Nat}
def lenO (kk : Nat) : Nat := match kk with
  | 2 => 100 | 4 => 120 | 5 => 120 | 6 => 120 | 7 => 120 | 8 => 120 | 9 => 120 | 10 => 120 | 11 => 8 | 13 => 6 | 14 => 6 | 15 => 6 | 16 => 48 | 17 => 8 | _ => 0
/-- two offices that show the same -/
def AgO (U V : VV) : Prop := (∀ kk t, t < lenO kk → V kk t = U kk t) ∧ V 0 4 = U 0 4 ∧ V 0 5 = U 0 5 ∧ V 0 6 = U 0 6 ∧ V 0 7 = U 0 7 ∧ V 3 8 = U 3 8
theorem AgO.rf : AgO U U := ⟨fun _ _ _ => rfl, rfl, rfl, rfl, rfl, rfl⟩
theorem AgO.sum6 (h : AgO U V) (hN : N ≤ 120) : sumI (V 6) N = sumI (U 6) N := sumI_congr N (fun j hj => h.1 6 j (by show j < 120; omega))
theorem RO.agree (h : RO U r N) (ha : AgO U V) : RO V r N := by
  obtain ⟨⟨h1, h2, h3, h4, h5, ⟨h6, h6b, h6c, h6d⟩, h7, h8, h9, h10, h11, h12⟩, hL, hF, hS⟩ := h
  obtain ⟨a, b4, b5, b6, b7, b8⟩ := ha
  refine ⟨⟨h1, by rw [b8]; exact h2, h3, fun c hc => by rw [a 2 c hc]; exact h4 c hc, fun w hw => by rw [a 17 w hw]; exact h5 w hw, ⟨by rw [b4]; exact h6, by rw [b5]; exact h6b, by rw [b6]; exact h6c, by rw [b7]; exact h6d⟩, h7, fun c hc => by rw [a 14 c hc, a 15 c hc, a 13 c hc]; exact h8 c hc, h9, fun c w hc hw => by rw [a 13 c hc]; exact h10 c w hc hw, fun k hk => by rw [a 16 k hk]; exact h11 k hk, ?_⟩, fun m hm => ?_, fun w hw => by rw [a 11 w hw]; exact hF w hw, ?_⟩
  · rw [h12]
    exact (sumI_congr 48 (fun j hj => (a 16 j hj))).symm
  · have hm2 : m < 120 := by omega
    have := hL m hm
    unfold LO at this ⊢
    rw [a 4 m hm2, a 5 m hm2, a 6 m hm2, a 7 m hm2, a 8 m hm2, a 9 m hm2, a 10 m hm2]
    exact this
  · rw [hS]
    exact (sumI_congr N (fun j hj => a 6 j (by show j < 120; omega))).symm
theorem cpO_ag : AgO U (cpO V U) := by
  refine ⟨fun kk t ht => ?_, rfl, rfl, rfl, rfl, rfl⟩
  have hk : kk = 2 ∨ kk = 4 ∨ kk = 5 ∨ kk = 6 ∨ kk = 7 ∨ kk = 8 ∨ kk = 9 ∨ kk = 10 ∨ kk = 11 ∨ kk = 13 ∨ kk = 14 ∨ kk = 15 ∨ kk = 16 ∨ kk = 17 := by
    unfold lenO at ht
    split at ht <;> omega
  rcases hk with rfl | rfl | rfl | rfl | rfl | rfl | rfl | rfl | rfl | rfl | rfl | rfl | rfl | rfl
  · show (if t < 100 then U 2 t else _) = _
    exact if_pos ht
  · show (if t < 120 then U 4 t else _) = _
    exact if_pos ht
  · show (if t < 120 then U 5 t else _) = _
    exact if_pos ht
  · show (if t < 120 then U 6 t else _) = _
    exact if_pos ht
  · show (if t < 120 then U 7 t else _) = _
    exact if_pos ht
  · show (if t < 120 then U 8 t else _) = _
    exact if_pos ht
  · show (if t < 120 then U 9 t else _) = _
    exact if_pos ht
  · show (if t < 120 then U 10 t else _) = _
    exact if_pos ht
  · show (if t < 8 then U 11 t else _) = _
    exact if_pos ht
  · show (if t < 6 then U 13 t else _) = _
    exact if_pos ht
  · show (if t < 6 then U 14 t else _) = _
    exact if_pos ht
  · show (if t < 6 then U 15 t else _) = _
    exact if_pos ht
  · show (if t < 48 then U 16 t else _) = _
    exact if_pos ht
  · show (if t < 8 then U 17 t else _) = _
    exact if_pos ht
/-- only the row's first 1023 places matter -/
theorem RO.row {r' : Nat → Int32} (h : RO V r N) (hr : ∀ j, j < 1023 → r' j = r j) : RO V r' N := by
  obtain ⟨⟨h1, h2, h3, h4, h5, h6, h7, h8, h9, h10, h11, h12⟩, hL, hF, hS⟩ := h
  have ho : ∀ m k, m < 120 → k < 7 → ofr r' m k = ofr r m k := fun m k hm hk => hr _ (by omega)
  refine ⟨⟨h1, h2, by rw [hr 100 (by omega)]; exact h3, fun c hc => by rw [hr c (by omega)]; exact h4 c hc, fun w hw => by rw [hr _ (by omega)]; exact h5 w hw, by rw [hr 952 (by omega), hr 949 (by omega), hr 950 (by omega), hr 951 (by omega)]; exact h6, by rw [hr 950 (by omega), hr 951 (by omega)]; exact h7, fun c hc => by rw [hr (1011 + c) (by omega), hr (1017 + c) (by omega)]; exact h8 c hc, fun w hw => by rw [hr _ (by omega)]; exact h9 w hw, fun c w hc hw => by rw [hr _ (by omega)]; exact h10 c w hc hw, fun k hk => by rw [hr _ (by omega)]; exact h11 k hk, by rw [hr 954 (by omega)]; exact h12⟩, fun m hm => ?_, fun w hw => ?_, by rw [hr 953 (by omega)]; exact hS⟩
  · have := hL m hm
    unfold LO at this ⊢
    rw [ho m 0 (by omega) (by omega), ho m 1 (by omega) (by omega), ho m 2 (by omega) (by omega), ho m 3 (by omega) (by omega), ho m 4 (by omega) (by omega), ho m 5 (by omega) (by omega), ho m 6 (by omega) (by omega)]
    exact this
  · rw [hF w hw, cntB_congr N (fun j hj => ?_)]
    unfold atr
    rw [ho j 3 (by omega) (by omega), ho j 4 (by omega) (by omega)]
theorem RO.give {a b w : Nat} (h : RO V r N) (hw : w < 8) (hb : b < 100) : RO (sv V 2 (rngr (V 2) a (b + 1) (nI w))) (rngr r a (b + 1) (nI w)) N := by
  obtain ⟨⟨h1, h2, h3, h4, h5, h6, h7, h8, h9, h10, h11, h12⟩, hL, hF, hS⟩ := h
  have hr : ∀ j, 100 ≤ j → rngr r a (b + 1) (nI w) j = r j := fun j hj => by unfold rngr; rw [if_neg (by omega)]
  have ho : ∀ m k, ofr (rngr r a (b + 1) (nI w)) m k = ofr r m k := fun m k => hr _ (by omega)
  refine ⟨⟨h1, h2, by rw [hr 100 (by omega)]; exact h3, fun c hc => ?_, fun w hw => by rw [hr _ (by omega)]; exact h5 w hw, by rw [hr 952 (by omega), hr 949 (by omega), hr 950 (by omega), hr 951 (by omega)]; exact h6, by rw [hr 950 (by omega), hr 951 (by omega)]; exact h7, fun c hc => by rw [hr (1011 + c) (by omega), hr (1017 + c) (by omega)]; exact h8 c hc, fun w hw => by rw [hr _ (by omega)]; exact h9 w hw, fun c w hc hw => by rw [hr _ (by omega)]; exact h10 c w hc hw, fun k hk => by rw [hr _ (by omega)]; exact h11 k hk, by rw [hr 954 (by omega)]; exact h12⟩, fun m hm => ?_, fun w hw => ?_, by rw [hr 953 (by omega)]; exact hS⟩
  · show rngr (V 2) a (b + 1) (nI w) c = rngr r a (b + 1) (nI w) c ∧ _
    unfold rngr
    by_cases hz : a ≤ c ∧ c < b + 1
    · rw [if_pos hz, if_pos hz]
      exact ⟨rfl, w, hw, rfl⟩
    · rw [if_neg hz, if_neg hz]
      exact h4 c hc
  · have := hL m hm
    unfold LO at this ⊢
    rw [ho m 0, ho m 1, ho m 2, ho m 3, ho m 4, ho m 5, ho m 6]
    exact this
  · show V 11 w = _
    rw [hF w hw, cntB_congr N (fun j hj => ?_)]
    unfold atr
    rw [ho j 3, ho j 4]
theorem RX.ofw (h : RX V r N) {w : Nat} (hw : w < 8) : ofwV V (nI w) = r (955 + w) := by
  obtain ⟨-, -, -, -, -, -, -, hk1, hk2, hk3, -⟩ := h
  unfold ofwV
  rcases firstFrom_c (fun c => decide (V 13 c = nI w)) 6 0 with z | ⟨j, j1, j2, j3, j4⟩
  · rw [z]
    rcases hk2 w hw with h9 | ⟨c, c1, c2⟩
    · exact h9.symm
    · exfalso
      have hr := (hk3 c w c1 hw).2 c2
      have hff : ∀ k w', w' ≤ c → c < w' + k → ¬ firstFrom (fun c => decide (V 13 c = nI w)) k w' = -9 := by
        intro k
        induction k with
        | zero => intro w' _ h2; omega
        | succ k ih =>
          intro w' h1 h2 h3
          unfold firstFrom at h3
          split at h3
          · exact nI_n9 (by omega) h3
          · rename_i hz
            by_cases hww : w' = c
            · subst hww
              exact hz (decide_eq_true hr)
            · exact ih (w' + 1) (by omega) (by omega) h3
      exact hff 6 0 (by omega) (by omega) z
  · rw [j3]
    exact ((hk3 j w (by omega) hw).1 (of_decide_eq_true j4)).symm
/-- a letter comes -/
def pos1 (r : Nat → Int32) (l : Nat) (code cat : Int32) : Nat → Int32 := seto (seto (putsr (seto (seto (seto (upd r 100 (r 100 + nI 1)) l 0 code) l 1 cat) l 2 (nI 0)) l (nI 0) (nI 0)) l 5 (r 952)) l 6 (-9)
theorem pos1_o {code cat : Int32} {j : Nat} (h : j < 101 + 7 * l ∨ 108 + 7 * l ≤ j) (h2 : j ≠ 100) : pos1 r l code cat j = r j := by
  unfold pos1 putsr seto upd
  rw [if_neg (by omega), if_neg (by omega), if_neg (by omega), if_neg (by omega), if_neg (by omega), if_neg (by omega), if_neg (by omega), if_neg (by omega)]
theorem RO.add (h : RO V r N) (hN : N < 120) {c f : Nat} (hc : c < 100) (hf : f < 2) : RO (addV V N (nI c) (nI f) (V 0 4)) (pos1 r N (nI c) (nI f)) (N + 1) := by
  obtain ⟨⟨h1, h2, h3, h4, h5, h6, h7, h8, h9, h10, h11, h12⟩, hL, hF, hS⟩ := h
  have hr : ∀ j, j < 100 ∨ 941 ≤ j → pos1 r N (nI c) (nI f) j = r j := fun j hj => pos1_o (by omega) (by omega)
  have h100 : pos1 r N (nI c) (nI f) 100 = nI (N + 1) := by
    unfold pos1 putsr seto upd
    rw [if_neg (by omega), if_neg (by omega), if_neg (by omega), if_neg (by omega), if_neg (by omega), if_neg (by omega), if_neg (by omega), if_pos rfl, h3, nI_add']
  have ho : ∀ m k, m < N → k < 7 → ofr (pos1 r N (nI c) (nI f)) m k = ofr r m k := fun m k hm hk => pos1_o (by omega) (by omega)
  have e0 : ofr (pos1 r N (nI c) (nI f)) N 0 = nI c := by
    unfold ofr pos1 putsr seto upd
    rw [if_neg (by omega), if_neg (by omega), if_neg (by omega), if_neg (by omega), if_neg (by omega), if_neg (by omega), if_pos (by omega)]
  have e1 : ofr (pos1 r N (nI c) (nI f)) N 1 = nI f := by
    unfold ofr pos1 putsr seto upd
    rw [if_neg (by omega), if_neg (by omega), if_neg (by omega), if_neg (by omega), if_neg (by omega), if_pos (by omega)]
  have e2 : ofr (pos1 r N (nI c) (nI f)) N 2 = nI 0 := by
    unfold ofr pos1 putsr seto upd
    rw [if_neg (by omega), if_neg (by omega), if_neg (by omega), if_neg (by omega), if_pos (by omega)]
  have e3 : ofr (pos1 r N (nI c) (nI f)) N 3 = nI 0 := by
    unfold ofr pos1 putsr seto upd
    rw [if_neg (by omega), if_neg (by omega), if_neg (by omega), if_pos (by omega)]
  have e5 : ofr (pos1 r N (nI c) (nI f)) N 5 = r 952 := by
    unfold ofr pos1 putsr seto upd
    rw [if_neg (by omega), if_pos (by omega)]
  have e6 : ofr (pos1 r N (nI c) (nI f)) N 6 = -9 := by
    unfold ofr pos1 putsr seto upd
    rw [if_pos (by omega)]
  refine ⟨⟨by omega, ?_, h100, fun c' hc' => by rw [hr c' (by omega)]; exact h4 c' hc', fun w hw => by rw [hr _ (by omega)]; exact h5 w hw, by rw [hr 952 (by omega), hr 949 (by omega), hr 950 (by omega), hr 951 (by omega)]; exact h6, by rw [hr 950 (by omega), hr 951 (by omega)]; exact h7, fun c hc => by rw [hr (1011 + c) (by omega), hr (1017 + c) (by omega)]; exact h8 c hc, fun w hw => by rw [hr _ (by omega)]; exact h9 w hw, fun c w hc hw => by rw [hr _ (by omega)]; exact h10 c w hc hw, fun k hk => by rw [hr _ (by omega)]; exact h11 k hk, by rw [hr 954 (by omega)]; exact h12⟩, fun m hm => ?_, fun w hw => ?_, ?_⟩
  · show V 3 8 + nI 1 = nI (N + 1)
    rw [h2, nI_add']
  · unfold LO
    show (upd (V 4) N (nI c) m = _ ∧ _) ∧ (upd (V 5) N (nI f) m = _ ∧ _) ∧ (upd (V 6) N (nI 0) m = _ ∧ _) ∧ (upd (V 7) N (nI 0) m = _ ∧ _) ∧ (upd (V 9) N (V 0 4) m = _ ∧ upd (V 10) N (-9) m = _) ∧ (_ → upd (V 8) N (-9) m = _ ∧ _) ∧ (_ → upd (V 8) N (-9) m = _ ∧ _)
    unfold upd
    by_cases hmN : m = N
    · subst hmN
      simp only [if_true]
      rw [e0, e1, e2, e3, e5, e6]
      refine ⟨⟨rfl, c, hc, rfl⟩, ⟨rfl, ?_⟩, ⟨rfl, 0, by omega, rfl, fun _ => by omega⟩, ⟨rfl, 0, by omega, rfl⟩, ⟨h6.1, rfl⟩, fun z => absurd z n01, fun z => absurd z (by decide)⟩
      rcases (show f = 0 ∨ f = 1 by omega) with rfl | rfl
      · exact Or.inl rfl
      · exact Or.inr rfl
    · simp only [if_neg hmN]
      rw [ho m 0 (by omega) (by omega), ho m 1 (by omega) (by omega), ho m 2 (by omega) (by omega), ho m 3 (by omega) (by omega), ho m 4 (by omega) (by omega), ho m 5 (by omega) (by omega), ho m 6 (by omega) (by omega)]
      exact hL m (by omega)
  · show V 11 w = _
    have : cntB (atr (pos1 r N (nI c) (nI f)) (nI 1) (nI w)) (N + 1) = cntB (atr (pos1 r N (nI c) (nI f)) (nI 1) (nI w)) N + (if atr (pos1 r N (nI c) (nI f)) (nI 1) (nI w) N then 1 else 0) := rfl
    rw [this, hF w hw, cntB_congr N (fun j hj => ?_)]
    · have : atr (pos1 r N (nI c) (nI f)) (nI 1) (nI w) N = false := by
        unfold atr
        rw [e3, decide_eq_false (p := nI 0 = nI 1) n01, Bool.false_and]
      rw [this]
      rfl
    · unfold atr
      rw [ho j 3 hj (by omega), ho j 4 hj (by omega)]
  · rw [hr 953 (by omega), hS]
    show _ = sumI (upd (V 6) N (nI 0)) N + upd (V 6) N (nI 0) N
    rw [sumI_congr (f := upd (V 6) N (nI 0)) (g := V 6) N (fun j hj => by unfold upd; rw [if_neg (by omega)])]
    unfold upd
    rw [if_pos rfl]
    show _ = _ + (0 : Int32)
    rw [Int32.add_zero]
end NL
