/-! Operations: setRange, set, goOut, comeBack, take, restore, undo. -/
section OB
variable {ε : EE} {J J' : JT} {pc : Nat} {ls : List (Option V0)} {st : List V0} {As : List V0} {G G' G0 G1 : GG} {V V' : VV} {i N Y d l : Nat} {s a : Int32} {o : Nat → Int32} {Q : Option Int32 → GG → Prop}
theorem IV.rng (h : IV V N Y) {a b w : Nat} (hw : w < 8) : IV (sv V 2 (rngr (V 2) a (b + 1) (nI w))) N Y := by
  obtain ⟨⟨⟨a1, a2, a3, a4⟩, b1, fr, e⟩, hh, hd⟩ := h
  refine ⟨⟨⟨a1, a2, fun c hc => ?_, a4⟩, b1, fr, e⟩, hh, hd⟩
  show ∃ w', w' < 8 ∧ rngr (V 2) a (b + 1) (nI w) c = nI w'
  unfold rngr
  split
  · exact ⟨w, hw, rfl⟩
  · exact a3 c hc
theorem D_setRange (h : SG G0) (hN : IV (O G0 0) N 500) {a b w : Nat} (hab : a ≤ b) (hb : b < 100) (hw : w < 8) : Op ε jX8_setRange [.inl (nI a), .inl (nI b), .inl (nI w)] G0 (nI (1 + cntB (fun c => decide (¬ rngr (O G0 0 2) a (b + 1) (nI w) (c + 1) = rngr (O G0 0 2) a (b + 1) (nI w) c)) 99)) (sv (O G0 0) 2 (rngr (O G0 0 2) a (b + 1) (nI w))) := by
  refine Op.of (fun G hG => ?_)
  rw [← hG.oo (by decide)]
  have hN := hG.IVo hN
  have h := hG.sg h
  have hi : (0 : Nat) < 19 := by decide
  refine C2.of (ls := [some (.inr (0, 30)), some (.inl (nI a)), some (.inl (nI b)), some (.inl (nI w))]) okX8_setRange rfl rfl ?_
  repeat (first | refine e2_step rfl rfl ?_ | refine e2_get rfl (by first | exact hi | decide) rfl rfl ?_)
  refine e2_fs (c_isIn (nI a) (nI 0) (nI 99)) rfl rfl ⟨rfl, rfl, rfl⟩ rfl rfl rfl ?_
  rw [isIn_T (by omega) (by decide)]
  refine e2_if rfl rfl (fun z => absurd z (by decide)) (fun _ => ?_)
  repeat (first | refine e2_step rfl rfl ?_ | refine e2_get rfl (by first | exact hi | decide) rfl rfl ?_)
  refine e2_fs (c_isIn (nI b) (nI a) (nI 99)) rfl rfl ⟨rfl, rfl, rfl⟩ rfl rfl rfl ?_
  rw [isIn_ab' hab (by omega) (by decide)]
  refine e2_if rfl rfl (fun z => absurd z (by decide)) (fun _ => ?_)
  repeat (first | refine e2_step rfl rfl ?_ | refine e2_get rfl (by first | exact hi | decide) rfl rfl ?_)
  refine e2_fs (c_isWalkT hw) rfl rfl ⟨rfl, rfl, rfl⟩ rfl rfl rfl ?_
  refine e2_if rfl rfl (fun _ => ?_) (fun z => absurd (by decide) z)
  repeat (first | refine e2_step rfl rfl ?_ | refine e2_get rfl (by first | exact hi | decide) rfl rfl ?_)
  refine e2_callVv rfl ⟨rfl, rfl, rfl⟩ rfl rfl rfl rfl (by decide) rfl rfl rfl (q_rem h) (fun G1 z => ?_)
  obtain ⟨-, hQ⟩ := z
  have e0 := hQ.oo (j := 0) (by omega)
  have hfin := hQ.off (V' := sv (O G 0) 2 (rngr (O G 0 2) a (b + 1) (nI w))) (s := G1 0 40 1) (o := G1 0 41) h (O_can.of (fun kk hk => by unfold sv; rw [if_neg (by omega)])) ⟨N, hN.rng hw⟩
  rw [← e0] at hfin ⊢
  repeat (first | refine e2_step rfl rfl ?_ | refine e2_get rfl (by first | exact hi | decide) rfl rfl ?_)
  refine e2_fv (fo_self (g_give (a := a) (b := b) hi (by omega) hb (nI w))) rfl rfl ⟨rfl, rfl, rfl⟩ rfl rfl rfl (by first | exact hi | decide) rfl rfl rfl ?_
  repeat (first | refine e2_step rfl rfl ?_ | refine e2c_get (i := 0) (by decide) rfl rfl rfl rfl ?_ | refine e2_get rfl (by decide) rfl rfl ?_)
  refine e2c_fi (g_stretches hi) rfl rfl ⟨rfl, rfl, rfl⟩ rfl rfl rfl hi rfl rfl rfl rfl ?_
  exact e2_iret rfl rfl ⟨rfl, hfin⟩
theorem lea_n {n : Nat} (hn : n < 1000) : leaF (nI n) = nI (if n = 8 then 0 else 1) := by
  unfold leaF
  by_cases h : n = 8
  · rw [if_pos (by rw [h]), if_pos h]
  · rw [if_neg (fun z => h ((nI_eq (by omega) (by omega)).1 z)), if_neg h]
theorem gre_n {n : Nat} (hn : n < 1000) : greF (nI n) = nI (if n = 8 then 2 else if n = 9 then 40 else if n = 10 then 30 else 20) := by
  unfold greF
  by_cases h : n = 8
  · rw [if_pos (by rw [h]), if_pos h]
  · rw [if_neg (fun z => h ((nI_eq (by omega) (by omega)).1 z)), if_neg h]
    by_cases h : n = 9
    · rw [if_pos (by rw [h]), if_pos h]
    · rw [if_neg (fun z => h ((nI_eq (by omega) (by omega)).1 z)), if_neg h]
      by_cases h : n = 10
      · rw [if_pos (by rw [h]), if_pos h]
      · rw [if_neg (fun z => h ((nI_eq (by omega) (by omega)).1 z)), if_neg h]
/-- a number may be so -/
def okSet (n v : Nat) : Prop := (if n = 8 then 0 else 1) ≤ v ∧ v ≤ (if n = 8 then 2 else if n = 9 then 40 else if n = 10 then 30 else 20)
theorem chg_n {n : Nat} (hn : n ≤ 10) (x : Int32) : chgV V (nI n) x = if n = 8 then wv V 0 5 x else if n = 9 then wv V 0 6 x else if n = 10 then wv V 0 7 x else wv V 17 n x := by
  unfold chgV
  by_cases h : n = 8
  · rw [if_pos (by rw [h]), if_pos h]
  · rw [if_neg (fun z => h ((nI_eq (by omega) (by omega)).1 z)), if_neg h]
    by_cases h9 : n = 9
    · rw [if_pos (by rw [h9]), if_pos h9]
    · rw [if_neg (fun z => h9 ((nI_eq (by omega) (by omega)).1 z)), if_neg h9]
      by_cases h10 : n = 10
      · rw [if_pos (by rw [h10]), if_pos h10]
      · rw [if_neg (fun z => h10 ((nI_eq (by omega) (by omega)).1 z)), if_neg h10, if_pos (isIn_T (by omega) (by decide)), nI_clamp (by omega)]
theorem num_n {n : Nat} (hn : n ≤ 10) : numV V (nI n) = if n = 8 then V 0 5 else if n = 9 then V 0 6 else if n = 10 then V 0 7 else V 17 n := by
  unfold numV
  by_cases h : n = 8
  · rw [if_pos (by rw [h]), if_pos h]
  · rw [if_neg (fun z => h ((nI_eq (by omega) (by omega)).1 z)), if_neg h]
    by_cases h9 : n = 9
    · rw [if_pos (by rw [h9]), if_pos h9]
    · rw [if_neg (fun z => h9 ((nI_eq (by omega) (by omega)).1 z)), if_neg h9]
      by_cases h10 : n = 10
      · rw [if_pos (by rw [h10]), if_pos h10]
      · rw [if_neg (fun z => h10 ((nI_eq (by omega) (by omega)).1 z)), if_neg h10, if_pos (isIn_T (by omega) (by decide)), nI_clamp (by omega)]
theorem IV.chg (h : IV V N Y) {n v : Nat} (hn : n ≤ 10) (hv : okSet n v) : IV (chgV V (nI n) (nI v)) N Y := by
  rw [chg_n hn]
  unfold okSet at hv
  obtain ⟨⟨⟨a1, a2, a3, a4, a5, a6, a7, a8⟩, b1, fr, e⟩, hh, hd⟩ := h
  by_cases h8 : n = 8
  · rw [if_pos h8] at hv ⊢
    rw [if_pos h8] at hv
    exact ⟨⟨⟨a1, a2, a3, a4, a5, ⟨v, hv.2, rfl⟩, a7, a8⟩, b1, fr, e⟩, hh, hd⟩
  · rw [if_neg h8] at hv ⊢
    rw [if_neg h8] at hv
    by_cases h9 : n = 9
    · rw [if_pos h9] at hv ⊢
      exact ⟨⟨⟨a1, a2, a3, a4, a5, a6, ⟨v, hv.1, hv.2, rfl⟩, a8⟩, b1, fr, e⟩, hh, hd⟩
    · rw [if_neg h9] at hv ⊢
      by_cases h10 : n = 10
      · rw [if_pos h10] at hv ⊢
        exact ⟨⟨⟨a1, a2, a3, a4, a5, a6, a7, ⟨v, hv.1, hv.2, rfl⟩⟩, b1, fr, e⟩, hh, hd⟩
      · rw [if_neg h10] at hv ⊢
        refine ⟨⟨⟨a1, a2, a3, fun w hw => ?_, a5, a6, a7, a8⟩, b1, fr, e⟩, hh, hd⟩
        show ∃ h, 1 ≤ h ∧ h ≤ 20 ∧ upd (V 17) n (nI v) w = nI h
        unfold upd
        split
        · exact ⟨v, hv.1, hv.2, rfl⟩
        · exact a4 w hw
theorem chg_can {n v : Nat} (hn : n ≤ 10) (hc : Can V) : Can (chgV V (nI n) (nI v)) := by
  rw [chg_n hn]
  refine hc.of (fun kk hk => ?_)
  split
  · unfold wv sv; rw [if_neg (by omega)]
  · split
    · unfold wv sv; rw [if_neg (by omega)]
    · split
      · unfold wv sv; rw [if_neg (by omega)]
      · unfold wv sv; rw [if_neg (by omega)]
theorem set_in {n v : Nat} (hn : n ≤ 10) (hv : v < 1000) : isInB (nI v) (leaF (nI n)) (greF (nI n)) = true ↔ okSet n v := by
  rw [lea_n (by omega), gre_n (by omega)]
  unfold isInB okSet
  have hg : (if n = 8 then 2 else if n = 9 then 40 else if n = 10 then 30 else 20) < 1000 := by
    split
    · omega
    · split
      · omega
      · split <;> omega
  have hl : (if n = 8 then 0 else 1) < 1000 := by split <;> omega
  rw [Bool.and_eq_true, decide_eq_true_eq, decide_eq_true_eq, nI_leI (by omega) (by omega), nI_leI (by omega) (by omega)]
theorem D_set (h : SG G0) (hN : IV (O G0 0) N 500) {n v : Nat} (hn : n ≤ 10) (hv2 : v < 1000) (hv : okSet n v) : Op ε jX8_set [.inl (nI n), .inl (nI v)] G0 (numV (O G0 0) (nI n)) (chgV (O G0 0) (nI n) (nI v)) := by
  refine Op.of (fun G hG => ?_)
  rw [← hG.oo (by decide)]
  have hN := hG.IVo hN
  have h := hG.sg h
  have hi : (0 : Nat) < 19 := by decide
  refine C2.of (ls := [some (.inr (0, 30)), some (.inl (nI n)), some (.inl (nI v)), none]) okX8_set rfl rfl ?_
  repeat (first | refine e2_step rfl rfl ?_ | refine e2_get rfl (by first | exact hi | decide) rfl rfl ?_)
  refine e2_fs (c_isIn (nI n) (nI 0) (nI 10)) rfl rfl ⟨rfl, rfl, rfl⟩ rfl rfl rfl ?_
  rw [isIn_T hn (by decide)]
  refine e2_if rfl rfl (fun z => absurd z (by decide)) (fun _ => ?_)
  repeat (first | refine e2_step rfl rfl ?_ | refine e2_get rfl (by first | exact hi | decide) rfl rfl ?_)
  refine e2_fs (c_leastValue (nI n)) rfl rfl ⟨rfl, rfl, rfl⟩ rfl rfl rfl ?_
  repeat (first | refine e2_step rfl rfl ?_ | refine e2_get rfl (by first | exact hi | decide) rfl rfl ?_)
  refine e2_fs (c_greatestValue (nI n)) rfl rfl ⟨rfl, rfl, rfl⟩ rfl rfl rfl ?_
  refine e2_fs (c_isIn (nI v) (leaF (nI n)) (greF (nI n))) rfl rfl ⟨rfl, rfl, rfl⟩ rfl rfl rfl ?_
  rw [(set_in hn hv2).2 hv]
  refine e2_if rfl rfl (fun _ => ?_) (fun z => absurd (by decide) z)
  repeat (first | refine e2_step rfl rfl ?_ | refine e2_get rfl (by first | exact hi | decide) rfl rfl ?_)
  refine e2_callVv rfl ⟨rfl, rfl, rfl⟩ rfl rfl rfl rfl (by decide) rfl rfl rfl (q_rem h) (fun G1 z => ?_)
  obtain ⟨-, hQ⟩ := z
  have e0 := hQ.oo (j := 0) (by omega)
  have hfin := hQ.off (V' := chgV (O G 0) (nI n) (nI v)) (s := G1 0 40 1) (o := G1 0 41) h (chg_can hn O_can) ⟨N, hN.chg hn hv⟩
  rw [← e0] at hfin ⊢
  repeat (first | refine e2_step rfl rfl ?_ | refine e2_get rfl (by first | exact hi | decide) rfl rfl ?_)
  refine e2_fi (fo_same (w_number hi (nI n))) rfl rfl ⟨rfl, rfl, rfl⟩ rfl rfl rfl (by first | exact hi | decide) rfl rfl rfl ?_
  repeat (first | refine e2_step rfl rfl ?_ | refine e2_get rfl (by first | exact hi | decide) rfl rfl ?_)
  refine e2_fv (fo_self (w_changeNumber hi (nI n) (nI v))) rfl rfl ⟨rfl, rfl, rfl⟩ rfl rfl rfl (by first | exact hi | decide) rfl rfl rfl ?_
  repeat (first | refine e2_step rfl rfl ?_ | refine e2c_get (i := 0) (by decide) rfl rfl rfl rfl ?_ | refine e2_get rfl (by decide) rfl rfl ?_)
  exact e2_iret rfl rfl ⟨rfl, hfin⟩
theorem L_setNo {n v : Nat} (hn : n ≤ 10) (hv2 : v < 1000) (hv : ¬ okSet n v) : Lk ε jX8_set [.inl (nI n), .inl (nI v)] G0 (-1) := by
  intro G hG
  refine FL.same ?_
  refine C2.of (ls := [some (.inr (0, 30)), some (.inl (nI n)), some (.inl (nI v)), none]) okX8_set rfl rfl ?_
  repeat (first | refine e2_step rfl rfl ?_ | refine e2_get rfl (by first | exact hi | decide) rfl rfl ?_)
  refine e2_fs (c_isIn (nI n) (nI 0) (nI 10)) rfl rfl ⟨rfl, rfl, rfl⟩ rfl rfl rfl ?_
  rw [isIn_T hn (by decide)]
  refine e2_if rfl rfl (fun z => absurd z (by decide)) (fun _ => ?_)
  repeat (first | refine e2_step rfl rfl ?_ | refine e2_get rfl (by first | exact hi | decide) rfl rfl ?_)
  refine e2_fs (c_leastValue (nI n)) rfl rfl ⟨rfl, rfl, rfl⟩ rfl rfl rfl ?_
  repeat (first | refine e2_step rfl rfl ?_ | refine e2_get rfl (by first | exact hi | decide) rfl rfl ?_)
  refine e2_fs (c_greatestValue (nI n)) rfl rfl ⟨rfl, rfl, rfl⟩ rfl rfl rfl ?_
  refine e2_fs (c_isIn (nI v) (leaF (nI n)) (greF (nI n))) rfl rfl ⟨rfl, rfl, rfl⟩ rfl rfl rfl ?_
  rw [eq_false_of_ne_true (fun z => hv ((set_in hn hv2).1 z))]
  refine e2_if rfl rfl (fun z => absurd rfl z) (fun _ => ?_)
  repeat (first | refine e2_step rfl rfl ?_ | refine e2_get rfl (by first | exact hi | decide) rfl rfl ?_)
  exact e2_iret rfl rfl ⟨rfl, rfl⟩
theorem snd_can {c : Nat} (hc : Can V) : Can (sndV V N c) := hc.of (fun kk hk => snd_o (by omega) (by omega) (by omega) (by omega))
theorem D_goOut (h : SG G0) (hN : IV (O G0 0) N 500) {c w : Nat} (hc : c < 6) (hw : w < 8) (h13 : O G0 0 13 c = nI w) (h14 : O G0 0 14 c = nI 0) (hg : cgB (O G0 0) c = true) : Op ε jX8_goOut [.inl (nI c)] G0 (nI (sndn (O G0 0) N c)) (sndV (O G0 0) N c) := by
  refine Op.of (fun G hG => ?_)
  rw [← hG.oo (by decide)] at h13 h14 hg ⊢
  have hN := hG.IVo hN
  have h := hG.sg h
  have hi : (0 : Nat) < 19 := by decide
  have hs := snd_all hN hc h14 hw h13
  refine C2.of (ls := [some (.inr (0, 30)), some (.inl (nI c))]) okX8_goOut rfl rfl ?_
  repeat (first | refine e2_step rfl rfl ?_ | refine e2_get rfl (by first | exact hi | decide) rfl rfl ?_)
  refine e2_fs (c_isCarrierT hc) rfl rfl ⟨rfl, rfl, rfl⟩ rfl rfl rfl ?_
  refine e2_if rfl rfl (fun _ => ?_) (fun z => absurd (by decide) z)
  repeat (first | refine e2_step rfl rfl ?_ | refine e2_get rfl (by first | exact hi | decide) rfl rfl ?_)
  refine e2_fi (fo_same (i := 0) (w_canGoOut (by decide) hc (Or.inr ⟨w, hw, h13⟩))) rfl rfl ⟨rfl, rfl, rfl⟩ rfl rfl rfl (by first | exact hi | decide) rfl rfl rfl ?_
  rw [hg]
  refine e2_if rfl rfl (fun _ => ?_) (fun z => absurd (by decide) z)
  repeat (first | refine e2_step rfl rfl ?_ | refine e2_get rfl (by first | exact hi | decide) rfl rfl ?_)
  refine e2_callVv rfl ⟨rfl, rfl, rfl⟩ rfl rfl rfl rfl (by decide) rfl rfl rfl (q_rem h) (fun G1 z => ?_)
  obtain ⟨-, hQ⟩ := z
  have e0 := hQ.oo (j := 0) (by omega)
  have hfin := fun s o => hQ.off (V' := sndV (O G 0) N c) (s := s) (o := o) h (snd_can O_can) ⟨N, hs.1⟩
  have hp := hN.send (ε := ε) (G := G1) (s := G1 0 40 1) (o := G1 0 41) hi hc
  rw [← e0] at hfin hp ⊢
  repeat (first | refine e2_step rfl rfl ?_ | refine e2_get rfl (by first | exact hi | decide) rfl rfl ?_)
  refine e2_fi (fo_self hp) rfl rfl ⟨rfl, rfl, rfl⟩ rfl rfl rfl (by first | exact hi | decide) rfl rfl rfl ?_
  exact e2_iret rfl rfl ⟨rfl, by rw [e0] at hfin ⊢; exact hfin _ _⟩
theorem L_goOutNo (hN : IV (O G0 0) N 500) {c : Nat} (hc : c < 6) (hg : cgB (O G0 0) c = false) : Lk ε jX8_goOut [.inl (nI c)] G0 (-2) := by
  intro G hG
  rw [← hG.oo (by decide)] at hg
  have hN := hG.IVo hN
  refine FL.same ?_
  refine C2.of (ls := [some (.inr (0, 30)), some (.inl (nI c))]) okX8_goOut rfl rfl ?_
  repeat (first | refine e2_step rfl rfl ?_ | refine e2_get rfl (by first | exact hi | decide) rfl rfl ?_)
  refine e2_fs (c_isCarrierT hc) rfl rfl ⟨rfl, rfl, rfl⟩ rfl rfl rfl ?_
  refine e2_if rfl rfl (fun _ => ?_) (fun z => absurd (by decide) z)
  repeat (first | refine e2_step rfl rfl ?_ | refine e2_get rfl (by first | exact hi | decide) rfl rfl ?_)
  refine e2_fi (fo_same (i := 0) (w_canGoOut (by decide) hc (hN.1.2.1.1 c hc).2.1)) rfl rfl ⟨rfl, rfl, rfl⟩ rfl rfl rfl (by first | exact hi | decide) rfl rfl rfl ?_
  rw [hg]
  refine e2_if rfl rfl (fun z => absurd rfl z) (fun _ => ?_)
  repeat (first | refine e2_step rfl rfl ?_ | refine e2_get rfl (by first | exact hi | decide) rfl rfl ?_)
  exact e2_iret rfl rfl ⟨rfl, rfl⟩
theorem brg_o {c w kk : Nat} (h6 : kk ≠ 6) (h7 : kk ≠ 7) (h8 : kk ≠ 8) (h10 : kk ≠ 10) (h11 : kk ≠ 11) (h14 : kk ≠ 14) (h15 : kk ≠ 15) (h16 : kk ≠ 16) : brgV V N c w kk = V kk := by
  unfold brgV erV
  show (if kk = 16 then _ else if kk = 15 then _ else if kk = 14 then _ else _) = _
  rw [if_neg h16, if_neg h15, if_neg h14, brL_o h6 h7 h8 h10 h11]
theorem brg_can {c w : Nat} (hc : Can V) : Can (brgV V N c w) := hc.of (fun kk hk => brg_o (by omega) (by omega) (by omega) (by omega) (by omega) (by omega) (by omega) (by omega))
theorem D_comeBack (h : SG G0) (hN : IV (O G0 0) N 500) {c w : Nat} (hc : c < 6) (hw : w < 8) (h13 : O G0 0 13 c = nI w) (h14 : O G0 0 14 c = nI 1) : Op ε jX8_comeBack [.inl (nI c)] G0 (nI (brgn (O G0 0) N c w)) (brgV (O G0 0) N c w) := by
  refine Op.of (fun G hG => ?_)
  rw [← hG.oo (by decide)] at h13 h14 ⊢
  have hN := hG.IVo hN
  have h := hG.sg h
  have hi : (0 : Nat) < 19 := by decide
  have hs := brg_all (by decide) hN hc hw h13
  refine C2.of (ls := [some (.inr (0, 30)), some (.inl (nI c))]) okX8_comeBack rfl rfl ?_
  repeat (first | refine e2_step rfl rfl ?_ | refine e2_get rfl (by first | exact hi | decide) rfl rfl ?_)
  refine e2_fs (c_isCarrierT hc) rfl rfl ⟨rfl, rfl, rfl⟩ rfl rfl rfl ?_
  refine e2_if rfl rfl (fun _ => ?_) (fun z => absurd (by decide) z)
  repeat (first | refine e2_step rfl rfl ?_ | refine e2_get rfl (by first | exact hi | decide) rfl rfl ?_)
  refine e2_zald (i := 0) (kk := 14) c rfl rfl (by decide) rfl hc ?_
  rw [show G 0 14 c = nI 1 from h14]
  refine e2_if rfl rfl (fun _ => ?_) (fun z => absurd (by decide) z)
  repeat (first | refine e2_step rfl rfl ?_ | refine e2_get rfl (by first | exact hi | decide) rfl rfl ?_)
  refine e2_callVv rfl ⟨rfl, rfl, rfl⟩ rfl rfl rfl rfl (by decide) rfl rfl rfl (q_rem h) (fun G1 z => ?_)
  obtain ⟨-, hQ⟩ := z
  have e0 := hQ.oo (j := 0) (by omega)
  have hfin := fun s o => hQ.off (V' := brgV (O G 0) N c w) (s := s) (o := o) h (brg_can O_can) ⟨N, hs.1⟩
  have hp := hN.back (ε := ε) (G := G1) (s := G1 0 40 1) (o := G1 0 41) hi hc hw h13
  rw [← e0] at hfin hp ⊢
  repeat (first | refine e2_step rfl rfl ?_ | refine e2_get rfl (by first | exact hi | decide) rfl rfl ?_)
  refine e2_fi (fo_self hp) rfl rfl ⟨rfl, rfl, rfl⟩ rfl rfl rfl (by first | exact hi | decide) rfl rfl rfl ?_
  exact e2_iret rfl rfl ⟨rfl, by rw [e0] at hfin ⊢; exact hfin _ _⟩
theorem L_comeBackNo {c : Nat} (hc : c < 6) (h14 : O G0 0 14 c = nI 0) : Lk ε jX8_comeBack [.inl (nI c)] G0 (-2) := by
  intro G hG
  rw [← hG.oo (by decide)] at h14
  refine FL.same ?_
  refine C2.of (ls := [some (.inr (0, 30)), some (.inl (nI c))]) okX8_comeBack rfl rfl ?_
  repeat (first | refine e2_step rfl rfl ?_ | refine e2_get rfl (by first | exact hi | decide) rfl rfl ?_)
  refine e2_fs (c_isCarrierT hc) rfl rfl ⟨rfl, rfl, rfl⟩ rfl rfl rfl ?_
  refine e2_if rfl rfl (fun _ => ?_) (fun z => absurd (by decide) z)
  repeat (first | refine e2_step rfl rfl ?_ | refine e2_get rfl (by first | exact hi | decide) rfl rfl ?_)
  refine e2_zald (i := 0) (kk := 14) c rfl rfl (by decide) rfl hc ?_
  rw [show G 0 14 c = nI 0 from h14]
  refine e2_if rfl rfl (fun z => absurd rfl z) (fun _ => ?_)
  repeat (first | refine e2_step rfl rfl ?_ | refine e2_get rfl (by first | exact hi | decide) rfl rfl ?_)
  exact e2_iret rfl rfl ⟨rfl, rfl⟩
-- slots
theorem q_fillX {t : Nat} (ht : t < 2) (hz : okZ (G 0)) : F2 ε jX4_fillSlot [.inr (0, 20), .inl (nI t)] G none (wr (cpE G (1 + t) 0) 0 22 t 1) := by
  refine C2.conv (fun v G1 z => ⟨_, ⟨z.1, rfl⟩, ?_⟩) (q_fillSlot (j := 0) (by decide) ht hz)
  rw [z.2]
  intro i kk _
  by_cases h1 : i = 0 ∧ kk = 22
  · obtain ⟨rfl, rfl⟩ := h1
    unfold wr
    rw [setA_s, setA_s, cpG_o _ _ _ (Or.inr (by omega)), cpE_o (Or.inr (by omega))]
    exact cEq.rf
  · rw [wr_o h1, wr_o h1]
    rw [show 3 * 0 + 1 + t = 1 + t by omega]
    by_cases h : i = 1 + t ∧ kk < 18
    · obtain ⟨rfl, hk⟩ := h
      rw [cpE_at hk]
      exact (cpG_ag G (1 + t) (3 * 0)).eq hk
    · rw [cpG_o G _ _ (by omega), cpE_o (by omega)]
      exact cEq.rf
theorem D_take (h : SG G0) {t : Nat} (ht : t < 2) : Op ε jX8_take [.inl (nI t)] G0 (O G0 0 0 4) (O G0 0) := by
  refine Op.of (fun G hG => ?_)
  rw [← hG.oo (by decide)]
  have h := hG.sg h
  obtain ⟨N, hN⟩ := h.1
  refine C2.of (ls := [some (.inr (0, 30)), some (.inl (nI t))]) okX8_take rfl rfl ?_
  repeat (first | refine e2_step rfl rfl ?_ | refine e2_get rfl (by first | exact hi | decide) rfl rfl ?_)
  refine e2_fs (c_isSlotT ht) rfl rfl ⟨rfl, rfl, rfl⟩ rfl rfl rfl ?_
  refine e2_if rfl rfl (fun _ => ?_) (fun z => absurd (by decide) z)
  repeat (first | refine e2_step rfl rfl ?_ | refine e2_get rfl (by first | exact hi | decide) rfl rfl ?_)
  refine e2_callVv rfl ⟨rfl, rfl, rfl⟩ rfl rfl rfl rfl (by decide) rfl rfl rfl (q_rem h) (fun G1 z => ?_)
  obtain ⟨-, hQ⟩ := z
  have e0 := hQ.oo (j := 0) (by omega)
  have hz : okZ (G1 0) := fun u hu => by
    rw [hQ.2 0 14 (by omega) (by omega) (by omega) (by omega)]
    exact hN.okG u hu
  repeat (first | refine e2_step rfl rfl ?_ | refine e2_get rfl (by first | exact hi | decide) rfl rfl ?_)
  refine e2_fv (q_fillX ht hz) rfl rfl ⟨rfl, rfl, rfl⟩ rfl rfl rfl (by first | exact hi | decide) rfl rfl rfl ?_
  have k22 : ∀ u, wr (cpE G1 (1 + t) 0) 0 22 t 1 0 22 u = if u = t then 1 else G 0 22 u := fun u => by
    by_cases hu : u = t
    · subst hu
      rw [if_pos rfl, wr_s]
    · rw [if_neg hu, wr_u hu, cpE_o (Or.inr (by omega)), hQ.2 0 22 (by omega) (by omega) (by omega) (by omega)]
  have kO : ∀ j, j ≠ 1 + t → O (wr (cpE G1 (1 + t) 0) 0 22 t 1) j = O G1 j := fun j hj => O_eq (fun kk hk => by rw [wr_o (by omega), cpE_o (Or.inl hj)])
  have kT : O (wr (cpE G1 (1 + t) 0) 0 22 t 1) (1 + t) = O G1 0 := O_eq (fun kk hk => by rw [wr_o (by omega), cpE_at hk])
  have e0' : O (wr (cpE G1 (1 + t) 0) 0 22 t 1) 0 = O G 0 := by rw [kO 0 (by omega), e0]
  have hf := hQ.dn (G' := wr (cpE G1 (1 + t) 0) 0 22 t 1) (V' := O G 0) h (fun i kk a b c => by rw [wr_o (by omega), cpE_o (Or.inl (by omega))]) (fun m a b => by rw [wr_o (by omega), cpE_o (Or.inr (by omega))]) (by rw [wr_o (by omega), cpE_o (Or.inr (by omega))]) (by rw [wr_o (by omega), cpE_o (Or.inr (by omega))]) (by rw [wr_o (by omega), cpE_o (Or.inr (by omega))]) e0' h.1 (fun u hu => by
    rw [k22]
    by_cases hut : u = t
    · subst hut
      rw [if_pos rfl]
      refine ⟨Or.inr rfl, fun _ => ?_⟩
      rw [kT, e0]
      exact h.1
    · rw [if_neg hut, kO (1 + u) (by omega), hQ.oo (by omega)]
      exact h.2.1 u hu)
  have e4 : wr (cpE G1 (1 + t) 0) 0 22 t 1 0 0 4 = O G 0 0 4 := by rw [← e0']; rfl
  repeat (first | refine e2_step rfl rfl ?_ | refine e2_get rfl (by first | exact hi | decide) rfl rfl ?_)
  exact e2_iret rfl rfl ⟨congrArg some e4, hf⟩
theorem D_restore (h : SG G0) {t : Nat} (ht : t < 2) (hf : G0 0 22 t = 1) : Op ε jX8_restore [.inl (nI t)] G0 (O G0 (1 + t) 0 4) (O G0 (1 + t)) := by
  refine Op.of (fun G hG => ?_)
  rw [← hG.oo (i := 1 + t) (by omega)]
  have hf : G 0 22 t = 1 := by rw [hG 0 22 (by omega) (by omega) (by omega)]; exact hf
  have h := hG.sg h
  obtain ⟨N, hN⟩ := (h.2.1 t ht).2 hf
  refine C2.of (ls := [some (.inr (0, 30)), some (.inl (nI t))]) okX8_restore rfl rfl ?_
  repeat (first | refine e2_step rfl rfl ?_ | refine e2_get rfl (by first | exact hi | decide) rfl rfl ?_)
  refine e2_fs (c_isSlotT ht) rfl rfl ⟨rfl, rfl, rfl⟩ rfl rfl rfl ?_
  refine e2_if rfl rfl (fun _ => ?_) (fun z => absurd (by decide) z)
  repeat (first | refine e2_step rfl rfl ?_ | refine e2_get rfl (by first | exact hi | decide) rfl rfl ?_)
  refine e2_zald (i := 0) (kk := 22) t rfl rfl (by decide) rfl ht ?_
  rw [hf]
  refine e2_if rfl rfl (fun _ => ?_) (fun z => absurd (by decide) z)
  repeat (first | refine e2_step rfl rfl ?_ | refine e2_get rfl (by first | exact hi | decide) rfl rfl ?_)
  refine e2_callVv rfl ⟨rfl, rfl, rfl⟩ rfl rfl rfl rfl (by decide) rfl rfl rfl (q_rem h) (fun G1 z => ?_)
  obtain ⟨-, hQ⟩ := z
  have eT := hQ.oo (j := 1 + t) (by omega)
  have hz : ∀ u, u < 6 → G1 (1 + t) 14 u = 0 ∨ G1 (1 + t) 14 u = 1 := fun u hu => by
    rw [hQ.2 (1 + t) 14 (by omega) (by omega) (by omega) (by omega)]
    exact hN.okZ u hu
  repeat (first | refine e2_step rfl rfl ?_ | refine e2_get rfl (by first | exact hi | decide) rfl rfl ?_)
  refine e2_aald21 (i := 0) t rfl rfl (by decide) ht ?_
  rw [show 3 * 0 + 1 + t = 1 + t by omega]
  refine e2_fv (Q_officeE (i := 0) (i2 := 1 + t) (by decide) (by omega) (by omega) hz) rfl rfl ⟨rfl, rfl, rfl⟩ rfl rfl rfl (by first | exact hi | decide) rfl rfl rfl ?_
  have kO : ∀ j, j ≠ 0 → O (cpE G1 0 (1 + t)) j = O G1 j := fun j hj => O_eq (fun kk hk => by rw [cpE_o (Or.inl hj)])
  have e0' : O (cpE G1 0 (1 + t)) 0 = O G (1 + t) := by rw [← eT]; exact O_eq (fun kk hk => cpE_at hk)
  have hf2 := hQ.dn (G' := cpE G1 0 (1 + t)) (V' := O G (1 + t)) h (fun i kk a b c => cpE_o (Or.inl (by omega))) (fun m a b => cpE_o (Or.inr (by omega))) (cpE_o (Or.inr (by omega))) (cpE_o (Or.inr (by omega))) (cpE_o (Or.inr (by omega))) e0' ⟨N, hN⟩ (fun u hu => by
    rw [cpE_o (Or.inr (by omega)), hQ.2 0 22 (by omega) (by omega) (by omega) (by omega), kO (1 + u) (by omega), hQ.oo (by omega)]
    exact h.2.1 u hu)
  have e4 : cpE G1 0 (1 + t) 0 0 4 = O G (1 + t) 0 4 := by rw [← e0']; rfl
  repeat (first | refine e2_step rfl rfl ?_ | refine e2_get rfl (by first | exact hi | decide) rfl rfl ?_)
  exact e2_iret rfl rfl ⟨congrArg some e4, hf2⟩
theorem L_restoreNo {t : Nat} (ht : t < 2) (hf : G0 0 22 t = 0) : Lk ε jX8_restore [.inl (nI t)] G0 (-2) := by
  intro G hG
  have hf : G 0 22 t = 0 := by rw [hG 0 22 (by omega) (by omega) (by omega)]; exact hf
  refine FL.same ?_
  refine C2.of (ls := [some (.inr (0, 30)), some (.inl (nI t))]) okX8_restore rfl rfl ?_
  repeat (first | refine e2_step rfl rfl ?_ | refine e2_get rfl (by first | exact hi | decide) rfl rfl ?_)
  refine e2_fs (c_isSlotT ht) rfl rfl ⟨rfl, rfl, rfl⟩ rfl rfl rfl ?_
  refine e2_if rfl rfl (fun _ => ?_) (fun z => absurd (by decide) z)
  repeat (first | refine e2_step rfl rfl ?_ | refine e2_get rfl (by first | exact hi | decide) rfl rfl ?_)
  refine e2_zald (i := 0) (kk := 22) t rfl rfl (by decide) rfl ht ?_
  rw [hf]
  refine e2_if rfl rfl (fun z => absurd rfl z) (fun _ => ?_)
  repeat (first | refine e2_step rfl rfl ?_ | refine e2_get rfl (by first | exact hi | decide) rfl rfl ?_)
  exact e2_iret rfl rfl ⟨rfl, rfl⟩
-- undo
theorem D_undo (h0 : SG G0) (hk : SG G') {d : Nat} (ht : Top G0 G' d) : ∀ G, lk1 G' G → C2 ε jX8_undo [.inr (0, 30)] G (fun v G2 => v = some (nI d) ∧ SG G2 ∧ O G2 0 = O G0 0 ∧ ∀ t, t < 2 → G2 0 22 t = G0 0 22 t) := by
  intro G hG
  have ht := hG.top ht
  have hk := hG.sg hk
  have hd5 : d < 5 := ht.choose_spec.1
  have hd1 : G 0 31 1 = nI (d + 1) := ht.choose_spec.2.1.2.1
  refine C2.of (ls := [some (.inr (0, 30))]) okX8_undo rfl rfl ?_
  repeat (first | refine e2_step rfl rfl ?_ | refine e2_get rfl (by first | exact hi | decide) rfl rfl ?_)
  refine e2_if rfl rfl (fun _ => ?_) (fun z => absurd (fun q => by
    have q : nI (d + 1) = nI 0 := hd1.symm.trans q
    have := (nI_eq (by omega) (by omega)).1 q
    omega) z)
  repeat (first | refine e2_step rfl rfl ?_ | refine e2_get rfl (by first | exact hi | decide) rfl rfl ?_)
  refine e2_callVv rfl ⟨rfl, rfl, rfl⟩ rfl rfl rfl rfl (by decide) rfl rfl rfl (q_back ht h0.okM) (fun G2 z => ?_)
  obtain ⟨-, ⟨hm, hH⟩, ⟨s1, s2⟩, hr⟩ := z
  have e0 : O G2 0 = O G0 0 := O_eq (fun kk hk => s1 kk hk)
  repeat (first | refine e2_step rfl rfl ?_ | refine e2_get rfl (by first | exact hi | decide) rfl rfl ?_)
  refine e2_iret rfl rfl ⟨congrArg some hH.2.1, ⟨by rw [e0]; exact h0.1, fun t ht => ?_, ⟨d, hm, hH⟩, ?_⟩, e0, fun t ht => (s2 t ht).1⟩
  · rw [(s2 t ht).1]
    refine ⟨(h0.2.1 t ht).1, fun z => ?_⟩
    have e1 : O G2 (1 + t) = O G0 (1 + t) := O_eq (fun kk hk => by
      have := (s2 t ht).2 z kk hk
      rw [show 3 * 0 + 1 + t = 1 + t by omega] at this
      exact this)
    rw [e1]
    exact (h0.2.1 t ht).2 z
  · rw [hr 0 33 (by omega) (by omega) (by omega)]
    exact hk.2.2.2
theorem L_undo0 (h : G0 0 31 1 = nI 0) : Lk ε jX8_undo [] G0 (-2) := by
  intro G hG
  have h : G 0 31 1 = nI 0 := by rw [hG 0 31 (by omega) (by omega) (by omega)]; exact h
  refine FL.same ?_
  refine C2.of (ls := [some (.inr (0, 30))]) okX8_undo rfl rfl ?_
  repeat (first | refine e2_step rfl rfl ?_ | refine e2_get rfl (by first | exact hi | decide) rfl rfl ?_)
  rw [h]
  refine e2_if rfl rfl (fun z => absurd rfl z) (fun _ => ?_)
  repeat (first | refine e2_step rfl rfl ?_ | refine e2_get rfl (by first | exact hi | decide) rfl rfl ?_)
  exact e2_iret rfl rfl ⟨rfl, rfl⟩
-- what is refused
theorem R_post : Lk ε jX8_post [.inl (nI 100), .inl (nI 0), .inl (nI 1)] G0 (-1) := by
  intro G hG
  refine FL.same ?_
  refine C2.of (ls := [some (.inr (0, 30)), some (.inl (nI 100)), some (.inl (nI 0)), some (.inl (nI 1)), none, none]) okX8_post rfl rfl ?_
  repeat (first | refine e2_step rfl rfl ?_ | refine e2_get rfl (by first | exact hi | decide) rfl rfl ?_)
  refine e2_fs (c_isIn (nI 100) (nI 0) (nI 99)) rfl rfl ⟨rfl, rfl, rfl⟩ rfl rfl rfl ?_
  rw [show isInB (nI 100) (nI 0) (nI 99) = false by decide]
  refine e2_if rfl rfl (fun _ => ?_) (fun z => absurd rfl z)
  repeat (first | refine e2_step rfl rfl ?_ | refine e2_get rfl (by first | exact hi | decide) rfl rfl ?_)
  exact e2_iret rfl rfl ⟨rfl, rfl⟩
theorem R_setRange : Lk ε jX8_setRange [.inl (nI 5), .inl (nI 4), .inl (nI 0)] G0 (-1) := by
  intro G hG
  refine FL.same ?_
  refine C2.of (ls := [some (.inr (0, 30)), some (.inl (nI 5)), some (.inl (nI 4)), some (.inl (nI 0))]) okX8_setRange rfl rfl ?_
  repeat (first | refine e2_step rfl rfl ?_ | refine e2_get rfl (by first | exact hi | decide) rfl rfl ?_)
  refine e2_fs (c_isIn (nI 5) (nI 0) (nI 99)) rfl rfl ⟨rfl, rfl, rfl⟩ rfl rfl rfl ?_
  rw [show isInB (nI 5) (nI 0) (nI 99) = true by decide]
  refine e2_if rfl rfl (fun z => absurd z (by decide)) (fun _ => ?_)
  repeat (first | refine e2_step rfl rfl ?_ | refine e2_get rfl (by first | exact hi | decide) rfl rfl ?_)
  refine e2_fs (c_isIn (nI 4) (nI 5) (nI 99)) rfl rfl ⟨rfl, rfl, rfl⟩ rfl rfl rfl ?_
  rw [show isInB (nI 4) (nI 5) (nI 99) = false by decide]
  refine e2_if rfl rfl (fun _ => ?_) (fun z => absurd rfl z)
  repeat (first | refine e2_step rfl rfl ?_ | refine e2_get rfl (by first | exact hi | decide) rfl rfl ?_)
  exact e2_iret rfl rfl ⟨rfl, rfl⟩
theorem R_set : Lk ε jX8_set [.inl (nI 11), .inl (nI 1)] G0 (-1) := by
  intro G hG
  refine FL.same ?_
  refine C2.of (ls := [some (.inr (0, 30)), some (.inl (nI 11)), some (.inl (nI 1)), none]) okX8_set rfl rfl ?_
  repeat (first | refine e2_step rfl rfl ?_ | refine e2_get rfl (by first | exact hi | decide) rfl rfl ?_)
  refine e2_fs (c_isIn (nI 11) (nI 0) (nI 10)) rfl rfl ⟨rfl, rfl, rfl⟩ rfl rfl rfl ?_
  rw [show isInB (nI 11) (nI 0) (nI 10) = false by decide]
  refine e2_if rfl rfl (fun _ => ?_) (fun z => absurd rfl z)
  repeat (first | refine e2_step rfl rfl ?_ | refine e2_get rfl (by first | exact hi | decide) rfl rfl ?_)
  exact e2_iret rfl rfl ⟨rfl, rfl⟩
theorem R_goOut : Lk ε jX8_goOut [.inl (nI 6)] G0 (-1) := by
  intro G hG
  refine FL.same ?_
  refine C2.of (ls := [some (.inr (0, 30)), some (.inl (nI 6))]) okX8_goOut rfl rfl ?_
  repeat (first | refine e2_step rfl rfl ?_ | refine e2_get rfl (by first | exact hi | decide) rfl rfl ?_)
  refine e2_fs (c_isCarrier (nI 6)) rfl rfl ⟨rfl, rfl, rfl⟩ rfl rfl rfl ?_
  rw [show isInB (nI 6) (nI 0) (nI 5) = false by decide]
  refine e2_if rfl rfl (fun z => absurd rfl z) (fun _ => ?_)
  repeat (first | refine e2_step rfl rfl ?_ | refine e2_get rfl (by first | exact hi | decide) rfl rfl ?_)
  exact e2_iret rfl rfl ⟨rfl, rfl⟩
theorem R_take : Lk ε jX8_take [.inl (nI 2)] G0 (-1) := by
  intro G hG
  refine FL.same ?_
  refine C2.of (ls := [some (.inr (0, 30)), some (.inl (nI 2))]) okX8_take rfl rfl ?_
  repeat (first | refine e2_step rfl rfl ?_ | refine e2_get rfl (by first | exact hi | decide) rfl rfl ?_)
  refine e2_fs (c_isSlot (nI 2)) rfl rfl ⟨rfl, rfl, rfl⟩ rfl rfl rfl ?_
  rw [show isInB (nI 2) (nI 0) (nI 1) = false by decide]
  refine e2_if rfl rfl (fun z => absurd rfl z) (fun _ => ?_)
  repeat (first | refine e2_step rfl rfl ?_ | refine e2_get rfl (by first | exact hi | decide) rfl rfl ?_)
  exact e2_iret rfl rfl ⟨rfl, rfl⟩
theorem R_count : Lk ε jX8_count [.inl (nI 19)] G0 (-1) := by
  intro G hG
  refine FL.same ?_
  refine C2.of (ls := [some (.inr (0, 30)), some (.inl (nI 19))]) okX8_count rfl rfl ?_
  repeat (first | refine e2_step rfl rfl ?_ | refine e2_get rfl (by first | exact hi | decide) rfl rfl ?_)
  refine e2_fs (c_isIn (nI 19) (nI 0) (nI 5)) rfl rfl ⟨rfl, rfl, rfl⟩ rfl rfl rfl ?_
  rw [show isInB (nI 19) (nI 0) (nI 5) = false by decide]
  refine e2_if rfl rfl (fun _ => ?_) (fun z => absurd rfl z)
  refine e2_step rfl rfl ?_
  refine e2_tabOut dX8_count_25 (Or.inr (by decide)) (tgt := 241) (by decide) ?_
  repeat (first | refine e2_step rfl rfl ?_ | refine e2_get rfl (by first | exact hi | decide) rfl rfl ?_)
  exact e2_iret rfl rfl ⟨rfl, rfl⟩
theorem R_inFrame : Lk ε jX8_inFrame [.inl (nI 8), .inl (nI 0)] G0 (-1) := by
  intro G hG
  refine FL.same ?_
  refine C2.of (ls := [some (.inr (0, 30)), some (.inl (nI 8)), some (.inl (nI 0))]) okX8_inFrame rfl rfl ?_
  repeat (first | refine e2_step rfl rfl ?_ | refine e2_get rfl (by first | exact hi | decide) rfl rfl ?_)
  refine e2_fs (c_isWalk (nI 8)) rfl rfl ⟨rfl, rfl, rfl⟩ rfl rfl rfl ?_
  rw [show isInB (nI 8) (nI 0) (nI 7) = false by decide]
  refine e2_if rfl rfl (fun _ => ?_) (fun z => absurd rfl z)
  repeat (first | refine e2_step rfl rfl ?_ | refine e2_get rfl (by first | exact hi | decide) rfl rfl ?_)
  exact e2_iret rfl rfl ⟨rfl, rfl⟩
theorem R_letter (h : IV (O G0 0) N Y) : Lk ε jX8_letter [.inl (nI 120), .inl (nI 0)] G0 (-1) := by
  intro G hG
  have h := hG.IVo h
  have hN2 := h.1.nle
  refine FL.same ?_
  have hb : isInB (nI 120) (nI 0) (nI N - nI 1) = false := by
    refine eq_false_of_ne_true (fun z => ?_)
    obtain ⟨l, hl, e⟩ := isIn_lt hN2 z
    have := (nI_eq (by decide) (by omega)).1 e
    omega
  refine C2.of (ls := [some (.inr (0, 30)), some (.inl (nI 120)), some (.inl (nI 0)), none]) okX8_letter rfl rfl ?_
  repeat (first | refine e2_step rfl rfl ?_ | refine e2_get rfl (by first | exact hi | decide) rfl rfl ?_)
  refine e2_fi (fo_same (i := 0) (v_hasF (by decide) hN2 h.1.cnt hb)) rfl rfl ⟨rfl, rfl, rfl⟩ rfl rfl rfl (by first | exact hi | decide) rfl rfl rfl ?_
  refine e2_if rfl rfl (fun z => absurd rfl z) (fun _ => ?_)
  repeat (first | refine e2_step rfl rfl ?_ | refine e2_get rfl (by first | exact hi | decide) rfl rfl ?_)
  exact e2_iret rfl rfl ⟨rfl, rfl⟩
end OB
