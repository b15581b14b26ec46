/-! The law's rules: over the letters, the places, the walks, the carriers. -/
section MG2
variable {ε : EE} {J' : JT} {pc : Nat} {ls : List (Option V0)} {st : List V0} {G G' G0 G1 : GG} {V V' : VV} {N Y n k w c l p : Nat} {y z x : Int32} {A : Nat × Nat × Nat × Nat} {f1 f2 f3 f4 g1 g2 g3 g4 : Nat → Int32}
theorem upd_s {f : Nat → Int32} {j : Nat} {x : Int32} : upd f j x j = x := by unfold upd; rw [if_pos rfl]
theorem upd_o {f : Nat → Int32} {j i : Nat} {x : Int32} (h : i ≠ j) : upd f j x i = f i := by unfold upd; rw [if_neg h]
theorem cnt_s (q : Nat → Bool) (n : Nat) : cntB q (n + 1) = cntB q n + (if q n then 1 else 0) := rfl
/-- behind letter l's place has been counted -/
theorem RI.s4 (h : RI V l f1 f2 f3 f4) (hp : p ≤ 5) (h7 : V 7 l = nI p) : ∀ q, q < 6 → upd f4 p (f4 p + nI 1) q = nI (P7 V q (l + 1)) := fun q hq => by
  have e : P7 V q (l + 1) = P7 V q l + (if decide (V 7 l = nI q) then 1 else 0) := rfl
  rw [e, h7]
  by_cases hqp : q = p
  · subst hqp
    rw [upd_s, h.2.2.2 q hq, nI_add', decide_eq_true rfl, if_pos rfl]
  · rw [upd_o hqp, h.2.2.2 q hq, decide_eq_false (fun z => hqp ((nIp hp (by omega)).1 z).symm), if_neg (by decide), Nat.add_zero]
theorem RI.s1 (h : RI V l f1 f2 f3 f4) (h7 : V 7 l = nI 1) {v : Nat} (hv : v < 8) (h8 : V 8 l = nI v) : ∀ w, w < 8 → upd f1 v (f1 v + nI 1) w = nI (cntB (atV V (nI 1) (nI w)) (l + 1)) := fun w hw => by
  rw [cnt_s]
  have e : atV V (nI 1) (nI w) l = decide (v = w) := by
    unfold atV
    rw [h7, h8, decide_eq_true rfl, Bool.true_and]
    exact decide_eq_decide.2 (nI_eq (by omega) (by omega))
  rw [e]
  by_cases hvw : v = w
  · subst hvw
    rw [upd_s, h.1 v hw, nI_add', decide_eq_true rfl, if_pos rfl]
  · rw [upd_o (fun q => hvw q.symm), h.1 w hw, decide_eq_false hvw, if_neg (by decide), Nat.add_zero]
theorem RI.s1n (h : RI V l f1 f2 f3 f4) (h7 : ¬ V 7 l = nI 1) : ∀ w, w < 8 → f1 w = nI (cntB (atV V (nI 1) (nI w)) (l + 1)) := fun w hw => by
  have e : atV V (nI 1) (nI w) l = false := by unfold atV; rw [decide_eq_false h7, Bool.false_and]
  rw [cnt_s, e, if_neg (by decide), Nat.add_zero]
  exact h.1 w hw
theorem RI.s2 (h : RI V l f1 f2 f3 f4) (h7 : V 7 l = nI 1) {v f : Nat} (hv : v < 8) (h8 : V 8 l = nI v) (hf : f ≤ 1) (h5 : V 5 l = nI f) : ∀ w, w < 8 → upd f2 v (f2 v + nI f) w = nI (cntB (fun l => atV V (nI 1) (nI w) l && decide (V 5 l = nI 1)) (l + 1)) := fun w hw => by
  rw [cnt_s]
  have e : atV V (nI 1) (nI w) l = decide (v = w) := by
    unfold atV
    rw [h7, h8, decide_eq_true rfl, Bool.true_and]
    exact decide_eq_decide.2 (nI_eq (by omega) (by omega))
  rw [e, h5]
  by_cases hvw : v = w
  · subst hvw
    rw [upd_s, h.2.1 v hw, nI_add', decide_eq_true rfl, Bool.true_and]
    have : f = 0 ∨ f = 1 := by omega
    rcases this with rfl | rfl
    · rfl
    · rfl
  · rw [upd_o (fun q => hvw q.symm), h.2.1 w hw, decide_eq_false hvw, Bool.false_and, if_neg (by decide), Nat.add_zero]
theorem RI.s2n (h : RI V l f1 f2 f3 f4) (h7 : ¬ V 7 l = nI 1) : ∀ w, w < 8 → f2 w = nI (cntB (fun l => atV V (nI 1) (nI w) l && decide (V 5 l = nI 1)) (l + 1)) := fun w hw => by
  have e : (atV V (nI 1) (nI w) l && decide (V 5 l = nI 1)) = false := by unfold atV; rw [decide_eq_false h7, Bool.false_and, Bool.false_and]
  rw [cnt_s, e, if_neg (by decide), Nat.add_zero]
  exact h.2.1 w hw
theorem RI.s3 (h : RI V l f1 f2 f3 f4) (h7 : V 7 l = nI 3) {v : Nat} (hv : v < 6) (h8 : V 8 l = nI v) : ∀ c, c < 6 → upd f3 v (f3 v + nI 1) c = nI (cntB (atV V (nI 3) (nI c)) (l + 1)) := fun w hw => by
  rw [cnt_s]
  have e : atV V (nI 3) (nI w) l = decide (v = w) := by
    unfold atV
    rw [h7, h8, decide_eq_true rfl, Bool.true_and]
    exact decide_eq_decide.2 (nI_eq (by omega) (by omega))
  rw [e]
  by_cases hvw : v = w
  · subst hvw
    rw [upd_s, h.2.2.1 v hw, nI_add', decide_eq_true rfl, if_pos rfl]
  · rw [upd_o (fun q => hvw q.symm), h.2.2.1 w hw, decide_eq_false hvw, if_neg (by decide), Nat.add_zero]
theorem RI.s3n (h : RI V l f1 f2 f3 f4) (h7 : ¬ V 7 l = nI 3) : ∀ c, c < 6 → f3 c = nI (cntB (atV V (nI 3) (nI c)) (l + 1)) := fun w hw => by
  have e : atV V (nI 3) (nI w) l = false := by unfold atV; rw [decide_eq_false h7, Bool.false_and]
  rw [cnt_s, e, if_neg (by decide), Nat.add_zero]
  exact h.2.2.1 w hw
theorem stry_1 (h7 : V 7 l = nI 1) : stryV V l = decide (¬ V 8 l = nI (wkV V l)) := by
  unfold stryV
  rw [decide_eq_true h7, Bool.true_and]
theorem stry_n (h7 : ¬ V 7 l = nI 1) : stryV V l = false := by
  unfold stryV
  rw [decide_eq_false h7, Bool.false_and]
abbrev L13l (A : Nat × Nat × Nat × Nat) (V : VV) (l : Nat) : List (Option V0) := L13 A (sumI (V 6) l) (nI (cntB (stryV V) l)) [some (.inl (nI l)), none, none, none, none, none]
set_option maxRecDepth 100000 in
set_option maxHeartbeats 4000000 in
/-- one letter -/
theorem rs_letter (hN : IV (O G0 0) N 500) (hl : l < N) (h : RI (O G0 0) l f1 f2 f3 f4) (K : ∀ g1 g2 g3 g4, RI (O G0 0) (l + 1) g1 g2 g3 g4 → ER ε A 30 (L13l A (O G0 0) (l + 1)) [] g1 g2 g3 g4 G0) : ER ε A 30 (L13l A (O G0 0) l) [] f1 f2 f3 f4 G0 := by
  have hN120 := hN.1.nle
  obtain ⟨⟨cd, cd1, cd2⟩, e5, ⟨p, m, p5, m3, h7, h6, pm, k1, k3, ke⟩, hh, yy, hhy, y500, h9, h4⟩ := hN.1.2.2.2 l hl
  have hf : ∃ f, f ≤ 1 ∧ O G0 0 5 l = nI f := by
    rcases e5 with q | q
    · exact ⟨0, by omega, q⟩
    · exact ⟨1, by omega, q⟩
  obtain ⟨f, f1', hf5⟩ := hf
  have q0 : Lk (ex ε (xl ε A f1 f2 f3 f4)) jX8_count [.inl (nI 6)] G0 (nI N) := L_c6 hN
  have q2 : Lk (ex ε (xl ε A f1 f2 f3 f4)) jX8_letter [.inl (nI l), .inl (nI 2)] G0 (nI p) := by rw [← h7]; exact L_letter hN hl (k := 2) (by decide)
  have q3 : Lk (ex ε (xl ε A f1 f2 f3 f4)) jX8_letter [.inl (nI l), .inl (nI 3)] G0 (if O G0 0 7 l = nI 1 then O G0 0 8 l else -9) := L_letter hN hl (k := 3) (by decide)
  have q4 : Lk (ex ε (xl ε A f1 f2 f3 f4)) jX8_letter [.inl (nI l), .inl (nI 4)] G0 (if O G0 0 7 l = nI 3 then O G0 0 8 l else -9) := L_letter hN hl (k := 4) (by decide)
  have hL : ∀ {g1 g2 g3 g4 : Nat → Int32} {k : Nat}, k ≤ 8 → Lk (ex ε (xl ε A g1 g2 g3 g4)) jX8_letter [.inl (nI l), .inl (nI k)] G0 (aLetter (O G0 0) l k) := fun hk => L_letter hN hl hk
  have hS : ∀ {g1 g2 g3 g4 : Nat → Int32}, Lk (ex ε (xl ε A g1 g2 g3 g4)) jX8_stretch [.inl (nI cd), .inl (nI 0)] G0 (O G0 0 2 cd) := L_str0 cd1
  have hwk : O G0 0 2 cd = nI (wkV (O G0 0) l) := by
    obtain ⟨c, c1, c2, c3, c4⟩ := wkV_of hN.1.okV hl
    have : c = cd := (nI_eq (by omega) (by omega)).1 (c2.symm.trans cd2)
    rw [← this]
    exact c3
  have hs4 := h.s4 p5 h7
  generalize hw9 : (if O G0 0 7 l = nI 1 then O G0 0 8 l else -9) = w9 at q3
  generalize hc9 : (if O G0 0 7 l = nI 3 then O G0 0 8 l else -9) = c9 at q4
  have iw : p = 1 ↔ ¬ w9 = -9 := by
    rw [← hw9]
    constructor
    · intro q
      obtain ⟨w, w8, w2⟩ := k1 q
      rw [if_pos (by rw [h7, q]), w2]
      exact nI_n9 (by omega)
    · intro q
      by_cases hp1 : p = 1
      · exact hp1
      · exact absurd (if_neg (fun w => hp1 ((nIp p5 (by omega)).1 (h7.symm.trans w)))) q
  have ic : p = 3 ↔ ¬ c9 = -9 := by
    rw [← hc9]
    constructor
    · intro q
      obtain ⟨w, w8, w2⟩ := k3 q
      rw [if_pos (by rw [h7, q]), w2]
      exact nI_n9 (by omega)
    · intro q
      by_cases hp1 : p = 3
      · exact hp1
      · exact absurd (if_neg (fun w => hp1 ((nIp p5 (by omega)).1 (h7.symm.trans w)))) q
  have hm5 : ∀ {g1 g2 g3 g4 : Nat → Int32}, Lk (ex ε (xl ε A g1 g2 g3 g4)) jX8_letter [.inl (nI l), .inl (nI 5)] G0 (nI m) := by
    intro g1 g2 g3 g4
    rw [← h6]
    exact L_letter hN hl (k := 5) (by decide)
  repeat (first | refine er_step rfl rfl ?_)
  refine er_look (q0) rfl rfl ⟨rfl, rfl, rfl⟩ rfl rfl rfl rfl ?_
  refine er_if rfl rfl (fun q => absurd q (nI_ge hl (by omega))) (fun _ => ?_)
  repeat (first | refine er_step rfl rfl ?_)
  refine er_look (q2) rfl rfl ⟨rfl, rfl, rfl⟩ rfl rfl rfl rfl ?_
  repeat (first | refine er_step rfl rfl ?_)
  refine er_look (q3) rfl rfl ⟨rfl, rfl, rfl⟩ rfl rfl rfl rfl ?_
  repeat (first | refine er_step rfl rfl ?_)
  refine er_look (q4) rfl rfl ⟨rfl, rfl, rfl⟩ rfl rfl rfl rfl ?_
  repeat (first | refine er_step rfl rfl ?_)
  refine er_ld 3 p rfl rfl (show p < 6 by omega) rfl ?_
  repeat (first | refine er_step rfl rfl ?_)
  refine er_st 3 p rfl rfl (show p < 6 by omega) rfl rfl ?_
  repeat (first | refine er_step rfl rfl ?_)
  refine er_look (hm5) rfl rfl ⟨rfl, rfl, rfl⟩ rfl rfl rfl rfl ?_
  repeat (first | refine er_stepS 89 rfl rfl rfl ?_)
  have e6 : sumI (O G0 0 6) l + nI m = sumI (O G0 0 6) (l + 1) := by rw [← h6]; rfl
  rw [e6]
  refine rs_1 (r := [none, none]) p5 iw ?_
  refine rs_2 (r := [none, none]) p5 ic ?_
  refine rs_3 (e := O G0 0 10 l) (r := [none, none]) p5 ke (hL (k := 7) (by decide)) ?_
  refine rs_4 (m := m) (r := [none, none]) p5 m3 pm hm5 ?_
  repeat (first | refine er_step rfl rfl ?_)
  refine er_look (hL (k := 8) (by decide)) rfl rfl ⟨rfl, rfl, rfl⟩ rfl rfl rfl rfl ?_
  repeat (first | refine er_step rfl rfl ?_)
  have hc4 : ∀ {g1 g2 g3 g4 : Nat → Int32}, Lk (ex ε (xl ε A g1 g2 g3 g4)) jX8_letter [.inl (nI l), .inl (nI 0)] G0 (nI cd) := by
    intro g1 g2 g3 g4
    rw [← cd2]
    exact L_letter hN hl (k := 0) (by decide)
  refine er_look (hc4) rfl rfl ⟨rfl, rfl, rfl⟩ rfl rfl rfl rfl ?_
  repeat (first | refine er_step rfl rfl ?_)
  refine er_look (hS) rfl rfl ⟨rfl, rfl, rfl⟩ rfl rfl rfl rfl ?_
  refine er_if rfl rfl (fun q => absurd hwk.symm q) (fun _ => ?_)
  have hh9 : ∀ {g1 g2 g3 g4 : Nat → Int32}, Lk (ex ε (xl ε A g1 g2 g3 g4)) jX8_letter [.inl (nI l), .inl (nI 6)] G0 (nI hh) := by
    intro g1 g2 g3 g4
    rw [← h9]
    exact L_letter hN hl (k := 6) (by decide)
  repeat (first | refine er_step rfl rfl ?_)
  refine er_look (hh9) rfl rfl ⟨rfl, rfl, rfl⟩ rfl rfl rfl rfl ?_
  repeat (first | refine er_step rfl rfl ?_)
  refine er_look (L_c7 hN h4) rfl rfl ⟨rfl, rfl, rfl⟩ rfl rfl rfl rfl ?_
  refine er_if rfl rfl (fun _ => ?_) (fun q => absurd (nI_le hhy (by omega)) q)
  repeat (first | refine er_step rfl rfl ?_)
  -- the hands
  have h297 : ∀ g1 g2, (∀ w, w < 8 → g1 w = nI (cntB (atV (O G0 0) (nI 1) (nI w)) (l + 1))) → (∀ w, w < 8 → g2 w = nI (cntB (fun l => atV (O G0 0) (nI 1) (nI w) l && decide (O G0 0 5 l = nI 1)) (l + 1))) → ER ε A 297 (L13 A (sumI (O G0 0 6) (l + 1)) (nI (cntB (stryV (O G0 0)) (l + 1))) [some (.inl (nI l)), some (.inl (nI p)), some (.inl w9), some (.inl c9), none, none]) [] g1 g2 f3 (upd f4 p (f4 p + nI 1)) G0 := by
    intro g1 g2 hg1 hg2
    repeat (first | refine er_step rfl rfl ?_)
    by_cases hp3 : p = 3
    · obtain ⟨v, v6, hv⟩ := k3 hp3
      have h73 : O G0 0 7 l = nI 3 := by rw [h7, hp3]
      have ec : c9 = nI v := by rw [← hc9, if_pos h73, hv]
      rw [ec]
      refine er_if rfl rfl (fun q => absurd (show nI v = -9 from q) (nI_n9 (by omega))) (fun _ => ?_)
      repeat (first | refine er_step rfl rfl ?_)
      refine er_ld 2 v rfl rfl v6 rfl ?_
      repeat (first | refine er_step rfl rfl ?_)
      refine er_st 2 v rfl rfl v6 rfl rfl ?_
      repeat (first | refine er_stepS 30 rfl rfl rfl ?_)
      rw [nI_add']
      exact er_dropK (K _ _ _ _ ⟨hg1, hg2, h.s3 h73 v6 hv, hs4⟩) ⟨rfl, rfl, rfl, rfl, rfl, rfl, rfl, rfl, trivial⟩
    · have h73 : ¬ O G0 0 7 l = nI 3 := fun q => hp3 ((nIp p5 (by omega)).1 (h7.symm.trans q))
      have ec : c9 = -9 := by rw [← hc9, if_neg h73]
      refine er_if rfl rfl (fun _ => ?_) (fun q => absurd ec q)
      repeat (first | refine er_stepS 30 rfl rfl rfl ?_)
      rw [nI_add']
      exact er_dropK (K _ _ _ _ ⟨hg1, hg2, h.s3n h73, hs4⟩) ⟨rfl, rfl, rfl, rfl, rfl, rfl, rfl, rfl, trivial⟩
  by_cases hp1 : p = 1
  · obtain ⟨v, v8, hv⟩ := k1 hp1
    have h71 : O G0 0 7 l = nI 1 := by rw [h7, hp1]
    have ew : w9 = nI v := by rw [← hw9, if_pos h71, hv]
    have hl1 : ∀ {g1 g2 g3 g4 : Nat → Int32}, Lk (ex ε (xl ε A g1 g2 g3 g4)) jX8_letter [.inl (nI l), .inl (nI 1)] G0 (nI f) := by
      intro g1 g2 g3 g4
      rw [← hf5]
      exact L_letter hN hl (k := 1) (by decide)
    have h297' := h297 _ _ (h.s1 h71 v8 hv) (h.s2 h71 v8 hv f1' hf5)
    rw [ew] at h297' ⊢
    refine er_if rfl rfl (fun q => absurd (show nI v = -9 from q) (nI_n9 (by omega))) (fun _ => ?_)
    repeat (first | refine er_step rfl rfl ?_)
    refine er_ld 0 v rfl rfl v8 rfl ?_
    repeat (first | refine er_step rfl rfl ?_)
    refine er_st 0 v rfl rfl v8 rfl rfl ?_
    repeat (first | refine er_step rfl rfl ?_)
    refine er_ld 1 v rfl rfl v8 rfl ?_
    repeat (first | refine er_step rfl rfl ?_)
    refine er_look (hl1) rfl rfl ⟨rfl, rfl, rfl⟩ rfl rfl rfl rfl ?_
    repeat (first | refine er_step rfl rfl ?_)
    refine er_st 1 v rfl rfl v8 rfl rfl ?_
    repeat (first | refine er_step rfl rfl ?_)
    refine er_look (hL (k := 8) (by decide)) rfl rfl ⟨rfl, rfl, rfl⟩ rfl rfl rfl rfl ?_
    have es : nI (cntB (stryV (O G0 0)) (l + 1)) = nI (cntB (stryV (O G0 0)) l) + (if decide (¬ nI v = nI (wkV (O G0 0) l)) = true then nI 1 else nI 0) := by
      rw [cnt_s, stry_1 h71, hv]
      split
      · rw [nI_add']
      · rw [nI_add']
    rw [es] at h297'
    refine er_if rfl rfl (fun q => ?_) (fun q => ?_)
    · have q : nI v = nI (wkV (O G0 0) l) := q
      rw [decide_eq_false (fun r => r q), if_neg (by decide)] at h297'
      repeat (first | refine er_stepS 297 rfl rfl rfl ?_)
      exact h297'
    · have q : ¬ nI v = nI (wkV (O G0 0) l) := q
      rw [decide_eq_true q, if_pos rfl] at h297'
      repeat (first | refine er_stepS 297 rfl rfl rfl ?_)
      exact h297'
  · have h71 : ¬ O G0 0 7 l = nI 1 := fun q => hp1 ((nIp p5 (by omega)).1 (h7.symm.trans q))
    have ew : w9 = -9 := by rw [← hw9, if_neg h71]
    have h297' := h297 _ _ (h.s1n h71) (h.s2n h71)
    rw [cnt_s, stry_n h71, if_neg (by decide), Nat.add_zero] at h297'
    exact er_if rfl rfl (fun _ => h297') (fun q => absurd ew q)
set_option maxRecDepth 100000 in
/-- all letters -/
theorem rs_letters (hN : IV (O G0 0) N 500) (K : ∀ g1 g2 g3 g4, RI (O G0 0) N g1 g2 g3 g4 → ER ε A 318 (L13l A (O G0 0) N) [] g1 g2 g3 g4 G0) : ∀ k l f1 f2 f3 f4, l + k = N → RI (O G0 0) l f1 f2 f3 f4 → ER ε A 30 (L13l A (O G0 0) l) [] f1 f2 f3 f4 G0
  | 0, l, f1, f2, f3, f4, hl, h => by
    have : l = N := by omega
    subst this
    have q0 : Lk (ex ε (xl ε A f1 f2 f3 f4)) jX8_count [.inl (nI 6)] G0 (nI l) := L_c6 hN
    repeat (first | refine er_step rfl rfl ?_)
    refine er_look (q0) rfl rfl ⟨rfl, rfl, rfl⟩ rfl rfl rfl rfl ?_
    refine er_if rfl rfl (fun _ => ?_) (fun q => absurd (Int32.le_refl _) q)
    exact K f1 f2 f3 f4 h
  | k + 1, l, f1, f2, f3, f4, hl, h => rs_letter hN (by omega) h (fun g1 g2 g3 g4 hg => rs_letters hN K k (l + 1) g1 g2 g3 g4 (by omega) hg)
theorem er_for (N : Nat) (L : Nat → List (Option V0)) (hs : ∀ i, i < N → ER ε A pc (L (i + 1)) [] f1 f2 f3 f4 G0 → ER ε A pc (L i) [] f1 f2 f3 f4 G0) (he : ∀ M, M = N → ER ε A pc (L M) [] f1 f2 f3 f4 G0) : ER ε A pc (L 0) [] f1 f2 f3 f4 G0 := by
  have h : ∀ k i, i + k = N → ER ε A pc (L i) [] f1 f2 f3 f4 G0 := by
    intro k
    induction k with
    | zero => intro i hi; exact he i (by omega)
    | succ k ih => intro i hi; exact hs i (by omega) (ih (i + 1) (by omega))
  exact h N 0 (by omega)
set_option maxRecDepth 100000 in
theorem rs_places (hN : IV (O G0 0) N 500) (h : RI (O G0 0) N f1 f2 f3 f4) (K : ER ε A 350 (L13 A y z [none, none, none, none, none, none]) [] f1 f2 f3 f4 G0) : ER ε A 318 (L13 A y z [some (.inl x), none, none, none, none, none]) [] f1 f2 f3 f4 G0 := by
  obtain ⟨n6, h6⟩ : ∃ n, n = 6 := ⟨_, rfl⟩
  repeat (first | refine er_stepS 321 rfl rfl rfl ?_)
  refine er_for n6 (fun p => L13 A y z [some (.inl (nI p)), none, none, none, none, none]) (fun p hp K2 => ?_) (fun M hM => ?_)
  · have hc : Lk (ex ε (xl ε A f1 f2 f3 f4)) jX8_count [.inl (nI p)] G0 (nI (P7 (O G0 0) p N)) := by
      have := L_count (ε := ex ε (xl ε A f1 f2 f3 f4)) hN (k := p) (by omega)
      have e : aCount G0 N p = nI (P7 (O G0 0) p N) := if_pos (by omega)
      rw [e] at this
      exact this
    repeat (first | refine er_step rfl rfl ?_)
    refine er_if rfl rfl (fun q => absurd q (nI_ge (a := p) (b := 6) (by omega) (by decide))) (fun _ => ?_)
    repeat (first | refine er_step rfl rfl ?_)
    refine er_look (hc) rfl rfl ⟨rfl, rfl, rfl⟩ rfl rfl rfl rfl ?_
    repeat (first | refine er_step rfl rfl ?_)
    refine er_ld 3 p rfl rfl (show p < 6 by omega) rfl ?_
    rw [h.2.2.2 p (by omega)]
    refine er_if rfl rfl (fun _ => ?_) (fun q => absurd rfl q)
    repeat (first | refine er_stepS 321 rfl rfl rfl ?_)
    rw [nI_add']
    exact K2
  · rw [hM, h6]
    repeat (first | refine er_step rfl rfl ?_)
    refine er_if rfl rfl (fun _ => ?_) (fun q => absurd (Int32.le_refl _) q)
    exact er_dropK K ⟨rfl, rfl, rfl, rfl, rfl, rfl, rfl, trivial⟩
end MG2
