/-! The law's rules: over the walks and the carriers; its end. -/
section MH2
variable {ε : EE} {J' : JT} {pc : Nat} {ls : List (Option V0)} {st : List V0} {G G' G0 G1 : GG} {V V' : VV} {N Y n k w c l p : Nat} {y z x : Int32} {A : Nat × Nat × Nat × Nat} {f1 f2 f3 f4 g1 g2 g3 g4 : Nat → Int32}
theorem L_inF (hN : IV (O G0 0) N Y) {w j : Nat} (hw : w < 8) (hj : j < (atVR (O G0 0) N (nI 1) (nI w)).length) : Lk ε jX8_inFrame [.inl (nI w), .inl (nI j)] G0 (nI (revD (atVR (O G0 0) N (nI 1) (nI w)) j)) := by
  have hl : (atVR (O G0 0) N (nI 1) (nI w)).length ≤ N := atVR_len
  have hN2 := hN.1.nle
  have := L_inFrame (ε := ε) hN hw (j := j) (by omega)
  rw [if_neg (by omega)] at this
  exact this
set_option maxRecDepth 100000 in
set_option maxHeartbeats 4000000 in
theorem rs_walk (hN : IV (O G0 0) N 500) (h : RI (O G0 0) N f1 f2 f3 f4) (hw : w < 8) (K : ER ε A 353 (L13 A y z [some (.inl (nI (w + 1))), none, none, none, none, none]) [] f1 f2 f3 f4 G0) : ER ε A 353 (L13 A y z [some (.inl (nI w)), none, none, none, none, none]) [] f1 f2 f3 f4 G0 := by
  have hN120 := hN.1.nle
  obtain ⟨q, hq⟩ := has_of (O G0 0) w
  have h11 : O G0 0 11 w = f1 w := by rw [hN.1.2.2.1 w hw, h.1 w hw]
  have hlen : (atVR (O G0 0) N (nI 1) (nI w)).length = cntB (atV (O G0 0) (nI 1) (nI w)) N := atVR_n
  have hle : (atVR (O G0 0) N (nI 1) (nI w)).length ≤ N := atVR_len
  have e1 : f1 w = nI (cntB (atV (O G0 0) (nI 1) (nI w)) N) := h.1 w hw
  have b0 : Lk (ex ε (xl ε A f1 f2 f3 f4)) jX8_frame [.inl (nI w), .inl (nI 0)] G0 (O G0 0 17 w) := L_frame hN hw (k := 0) (by decide)
  have b1 : Lk (ex ε (xl ε A f1 f2 f3 f4)) jX8_frame [.inl (nI w), .inl (nI 1)] G0 (f1 w) := by rw [← h11]; exact L_frame hN hw (k := 1) (by decide)
  have b2 : Lk (ex ε (xl ε A f1 f2 f3 f4)) jX8_frame [.inl (nI w), .inl (nI 2)] G0 (if O G0 0 17 w - f1 w < nI 0 then nI 0 else O G0 0 17 w - f1 w) := by rw [← h11]; exact L_frame hN hw (k := 2) (by decide)
  have b3 : Lk (ex ε (xl ε A f1 f2 f3 f4)) jX8_frame [.inl (nI w), .inl (nI 3)] G0 (f2 w) := by rw [h.2.1 w hw]; exact L_frame hN hw (k := 3) (by decide)
  have b5 : Lk (ex ε (xl ε A f1 f2 f3 f4)) jX8_inFrame [.inl (nI w), .inl (f1 w)] G0 (-9) := by
    rw [e1]
    have := L_inFrame (ε := ex ε (xl ε A f1 f2 f3 f4)) hN hw (j := cntB (atV (O G0 0) (nI 1) (nI w)) N) (by omega)
    rw [if_pos (by omega)] at this
    exact this
  -- the list's order
  have h468 : ∀ x8 x9 : V0, ER ε A 468 (L13 A y z [some (.inl (nI w)), some x8, some x9, none, none, none]) [] f1 f2 f3 f4 G0 := by
    intro x8 x9
    repeat (first | refine er_stepS 471 rfl rfl rfl ?_)
    refine er_for (cntB (atV (O G0 0) (nI 1) (nI w)) N - 1) (fun i => L13 A y z [some (.inl (nI w)), some x8, some x9, some (.inl (nI (i + 1))), none, none]) (fun i hi K2 => ?_) (fun M hM => ?_)
    · obtain ⟨a1, a2, a3⟩ := atVR_in (revD_mem (atVR (O G0 0) N (nI 1) (nI w)) i (by omega))
      obtain ⟨c1, c2, c3⟩ := atVR_in (revD_mem (atVR (O G0 0) N (nI 1) (nI w)) (i + 1) (by omega))
      have hb := pw_revD (R := []) _ (atVR_pw (V := O G0 0) (N := N) (p := nI 1) (k := nI w)) i (i + 1) (by omega) (by omega)
      have li := L_inF (ε := ex ε (xl ε A f1 f2 f3 f4)) hN hw (j := i) (by omega)
      have lj := L_inF (ε := ex ε (xl ε A f1 f2 f3 f4)) hN hw (j := i + 1) (by omega)
      generalize revD (atVR (O G0 0) N (nI 1) (nI w)) i = a at a1 a2 a3 hb li
      generalize revD (atVR (O G0 0) N (nI 1) (nI w)) (i + 1) = b at c1 c2 c3 hb lj
      have lb3 : Lk (ex ε (xl ε A f1 f2 f3 f4)) jX8_letter [.inl (nI b), .inl (nI 3)] G0 (nI w) := by
        have := L_letter (ε := ex ε (xl ε A f1 f2 f3 f4)) hN c1 (k := 3) (by decide)
        have e : aLetter (O G0 0) b 3 = nI w := by
          show (if O G0 0 7 b = nI 1 then O G0 0 8 b else -9) = _
          rw [if_pos c2, c3]
        rw [e] at this
        exact this
      have la0 : Lk (ex ε (xl ε A f1 f2 f3 f4)) jX8_letter [.inl (nI a), .inl (nI 0)] G0 (O G0 0 4 a) := L_letter hN a1 (k := 0) (by decide)
      have lb0 : Lk (ex ε (xl ε A f1 f2 f3 f4)) jX8_letter [.inl (nI b), .inl (nI 0)] G0 (O G0 0 4 b) := L_letter hN c1 (k := 0) (by decide)
      have h557 : ER ε A 557 (L13 A y z [some (.inl (nI w)), some x8, some x9, some (.inl (nI (i + 1))), some (.inl (nI a)), some (.inl (nI b))]) [] f1 f2 f3 f4 G0 := by
        repeat (first | refine er_stepS 471 rfl rfl rfl ?_)
        rw [nI_add']
        exact er_dropK K2 ⟨rfl, rfl, rfl, rfl, rfl, rfl, rfl, rfl, rfl, rfl, rfl, trivial⟩
      repeat (first | refine er_step rfl rfl ?_)
      refine er_ld 0 w rfl rfl hw rfl ?_
      rw [e1]
      refine er_if rfl rfl (fun q => absurd q (nI_ge (by omega) (by omega))) (fun _ => ?_)
      repeat (first | refine er_step rfl rfl ?_)
      rw [pk_sub (by omega), Nat.add_sub_cancel]
      refine er_look (li) rfl rfl ⟨rfl, rfl, rfl⟩ rfl rfl rfl rfl ?_
      repeat (first | refine er_step rfl rfl ?_)
      refine er_look (lj) rfl rfl ⟨rfl, rfl, rfl⟩ rfl rfl rfl rfl ?_
      repeat (first | refine er_step rfl rfl ?_)
      refine er_look (lb3) rfl rfl ⟨rfl, rfl, rfl⟩ rfl rfl rfl rfl ?_
      repeat (first | refine er_step rfl rfl ?_)
      refine er_if rfl rfl (fun q => absurd rfl q) (fun _ => ?_)
      repeat (first | refine er_step rfl rfl ?_)
      refine er_look (la0) rfl rfl ⟨rfl, rfl, rfl⟩ rfl rfl rfl rfl ?_
      repeat (first | refine er_step rfl rfl ?_)
      refine er_look (lb0) rfl rfl ⟨rfl, rfl, rfl⟩ rfl rfl rfl rfl ?_
      refine er_if rfl rfl (fun q => ?_) (fun _ => ?_)
      · rcases hb with r | ⟨r, -⟩
        · exact (Int32.lt_irrefl (Int32.lt_trans r q)).elim
        · rw [r] at q
          exact (Int32.lt_irrefl q).elim
      · repeat (first | refine er_step rfl rfl ?_)
        refine er_look (la0) rfl rfl ⟨rfl, rfl, rfl⟩ rfl rfl rfl rfl ?_
        repeat (first | refine er_step rfl rfl ?_)
        refine er_look (lb0) rfl rfl ⟨rfl, rfl, rfl⟩ rfl rfl rfl rfl ?_
        refine er_if rfl rfl (fun _ => h557) (fun q => ?_)
        have q := Classical.not_not.1 q
        rcases hb with r | ⟨-, r⟩
        · rw [q] at r
          exact (Int32.lt_irrefl r).elim
        · repeat (first | refine er_step rfl rfl ?_)
          exact er_if rfl rfl (fun _ => h557) (fun q => absurd ((nI_ltI (by omega) (by omega)).2 r) q)
    · repeat (first | refine er_step rfl rfl ?_)
      refine er_ld 0 w rfl rfl hw rfl ?_
      rw [e1]
      refine er_if rfl rfl (fun _ => ?_) (fun q => absurd (nI_le (b := M + 1) (by omega) (by omega)) q)
      repeat (first | refine er_stepS 353 rfl rfl rfl ?_)
      rw [nI_add']
      exact er_dropK K ⟨rfl, rfl, rfl, rfl, rfl, rfl, rfl, rfl, trivial⟩
  repeat (first | refine er_step rfl rfl ?_)
  refine er_if rfl rfl (fun q => absurd q (nI_ge hw (by decide))) (fun _ => ?_)
  repeat (first | refine er_step rfl rfl ?_)
  refine er_look (b0) rfl rfl ⟨rfl, rfl, rfl⟩ rfl rfl rfl rfl ?_
  repeat (first | refine er_step rfl rfl ?_)
  refine er_ld 0 w rfl rfl hw rfl ?_
  repeat (first | refine er_step rfl rfl ?_)
  refine er_look (L_fr4 hN hw hq) rfl rfl ⟨rfl, rfl, rfl⟩ rfl rfl rfl rfl ?_
  repeat (first | refine er_step rfl rfl ?_)
  refine er_look (b1) rfl rfl ⟨rfl, rfl, rfl⟩ rfl rfl rfl rfl ?_
  repeat (first | refine er_step rfl rfl ?_)
  refine er_ld 0 w rfl rfl hw rfl ?_
  refine er_if rfl rfl (fun q => absurd rfl q) (fun _ => ?_)
  repeat (first | refine er_step rfl rfl ?_)
  refine er_look (b2) rfl rfl ⟨rfl, rfl, rfl⟩ rfl rfl rfl rfl ?_
  repeat (first | refine er_step rfl rfl ?_)
  have h418 : ER ε A 418 (L13 A y z [some (.inl (nI w)), some (.inl (O G0 0 17 w - f1 w)), some (.inl (oI q)), none, none, none]) [] f1 f2 f3 f4 G0 := by
    repeat (first | refine er_step rfl rfl ?_)
    refine er_look (b3) rfl rfl ⟨rfl, rfl, rfl⟩ rfl rfl rfl rfl ?_
    repeat (first | refine er_step rfl rfl ?_)
    refine er_ld 1 w rfl rfl hw rfl ?_
    refine er_if rfl rfl (fun q => absurd rfl q) (fun _ => ?_)
    repeat (first | refine er_step rfl rfl ?_)
    have h451 : ER ε A 451 (L13 A y z [some (.inl (nI w)), some (.inl (O G0 0 17 w - f1 w)), some (.inl (oI q)), none, none, none]) [] f1 f2 f3 f4 G0 := by
      repeat (first | refine er_step rfl rfl ?_)
      refine er_ld 0 w rfl rfl hw rfl ?_
      refine er_look (b5) rfl rfl ⟨rfl, rfl, rfl⟩ rfl rfl rfl rfl ?_
      repeat (first | refine er_step rfl rfl ?_)
      refine er_if rfl rfl (fun _ => ?_) (fun q => absurd rfl q)
      exact h468 _ _
    cases hqq : q with
    | none =>
      rw [hqq] at h451
      exact er_if rfl rfl (fun _ => h451) (fun r => absurd rfl r)
    | some b =>
      obtain ⟨b6, b13⟩ := hq.2.1 b hqq
      have lb : Lk (ex ε (xl ε A f1 f2 f3 f4)) jX8_carrier [.inl (nI b), .inl (nI 0)] G0 (nI w) := by rw [← b13]; exact L_ca0 hN b6
      rw [hqq] at h451
      refine er_if rfl rfl (fun r => absurd (show nI b = -9 from r) (nI_n9 (by omega))) (fun _ => ?_)
      repeat (first | refine er_step rfl rfl ?_)
      refine er_look (lb) rfl rfl ⟨rfl, rfl, rfl⟩ rfl rfl rfl rfl ?_
      repeat (first | refine er_step rfl rfl ?_)
      refine er_if rfl rfl (fun q => absurd rfl q) (fun _ => ?_)
      exact h451
  generalize hd : O G0 0 17 w - f1 w = dd at h418 ⊢
  refine er_if rfl rfl (fun r => ?_) (fun r => ?_)
  · have e0 : (if dd < nI 0 then nI 0 else dd) = nI 0 := by
      by_cases h0 : dd < nI 0
      · rw [if_pos h0]
      · rw [if_neg h0]
        exact Int32.le_antisymm r (Int32.not_lt.1 h0)
    rw [e0]
    repeat (first | refine er_step rfl rfl ?_)
    refine er_if rfl rfl (fun q => absurd rfl q) (fun _ => ?_)
    exact h418
  · have e0 : (if dd < nI 0 then nI 0 else dd) = dd := by
      rw [if_neg (c := dd < nI 0) (fun h0 => r (Int32.le_of_lt h0))]
    rw [e0]
    repeat (first | refine er_step rfl rfl ?_)
    refine er_if rfl rfl (fun q => absurd rfl q) (fun _ => ?_)
    exact h418
theorem sumI_s (f : Nat → Int32) (n : Nat) : sumI f n + f n = sumI f (n + 1) := rfl
set_option maxRecDepth 100000 in
theorem rs_carrier (hN : IV (O G0 0) N 500) (h : RI (O G0 0) N f1 f2 f3 f4) (hc : c < 6) (K : ER ε A 581 (L13 A y z [some (.inl (sumI (O G0 0 15) (c + 1))), some (.inl (sumI (O G0 0 14) (c + 1))), some (.inl (sumI (O G0 0 16) ((c + 1) * 8))), some (.inl (nI (c + 1))), none, none]) [] f1 f2 f3 f4 G0) : ER ε A 581 (L13 A y z [some (.inl (sumI (O G0 0 15) c)), some (.inl (sumI (O G0 0 14) c)), some (.inl (sumI (O G0 0 16) (c * 8))), some (.inl (nI c)), none, none]) [] f1 f2 f3 f4 G0 := by
  obtain ⟨k1, k2, k3⟩ := hN.1.2.1.1 c hc
  have e3 : f3 c = nI (cntB (atV (O G0 0) (nI 3) (nI c)) N) := h.2.2.1 c hc
  have a0 : Lk (ex ε (xl ε A f1 f2 f3 f4)) jX8_carrier [.inl (nI c), .inl (nI 0)] G0 (O G0 0 13 c) := L_ca0 hN hc
  have a1 : Lk (ex ε (xl ε A f1 f2 f3 f4)) jX8_carrier [.inl (nI c), .inl (nI 1)] G0 (O G0 0 14 c) := L_ca1 hN hc
  have a2 : Lk (ex ε (xl ε A f1 f2 f3 f4)) jX8_carrier [.inl (nI c), .inl (nI 2)] G0 (f3 c) := by rw [e3]; exact L_ca2 hN hc
  have a3 : Lk (ex ε (xl ε A f1 f2 f3 f4)) jX8_carrier [.inl (nI c), .inl (nI 3)] G0 (O G0 0 15 c) := L_ca3 hN hc
  have h667 : ER ε A 667 (L13 A y z [some (.inl (sumI (O G0 0 15) c)), some (.inl (sumI (O G0 0 14) c)), some (.inl (sumI (O G0 0 16) (c * 8))), some (.inl (nI c)), some (.inl (O G0 0 13 c)), none]) [] f1 f2 f3 f4 G0 := by
    repeat (first | refine er_step rfl rfl ?_)
    refine er_look (a3) rfl rfl ⟨rfl, rfl, rfl⟩ rfl rfl rfl rfl ?_
    repeat (first | refine er_step rfl rfl ?_)
    rw [sumI_s]
    refine er_look (a1) rfl rfl ⟨rfl, rfl, rfl⟩ rfl rfl rfl rfl ?_
    repeat (first | refine er_stepS 694 rfl rfl rfl ?_)
    rw [sumI_s]
    obtain ⟨n8, h8⟩ : ∃ n, n = 8 := ⟨_, rfl⟩
    refine er_for n8 (fun k => L13 A y z [some (.inl (sumI (O G0 0 15) (c + 1))), some (.inl (sumI (O G0 0 14) (c + 1))), some (.inl (sumI (O G0 0 16) (c * 8 + k))), some (.inl (nI c)), some (.inl (O G0 0 13 c)), some (.inl (nI k))]) (fun k hk K2 => ?_) (fun M hM => ?_)
    · have lr : Lk (ex ε (xl ε A f1 f2 f3 f4)) jX8_rounds [.inl (nI c), .inl (nI k)] G0 (O G0 0 16 (c * 8 + k)) := L_rounds hc (by omega)
      repeat (first | refine er_step rfl rfl ?_)
      refine er_if rfl rfl (fun q => absurd q (nI_ge (a := k) (b := 8) (by omega) (by decide))) (fun _ => ?_)
      repeat (first | refine er_step rfl rfl ?_)
      refine er_look (lr) rfl rfl ⟨rfl, rfl, rfl⟩ rfl rfl rfl rfl ?_
      repeat (first | refine er_stepS 694 rfl rfl rfl ?_)
      rw [sumI_s, nI_add']
      exact K2
    · rw [hM, h8]
      repeat (first | refine er_step rfl rfl ?_)
      refine er_if rfl rfl (fun _ => ?_) (fun q => absurd (Int32.le_refl _) q)
      repeat (first | refine er_stepS 581 rfl rfl rfl ?_)
      rw [nI_add']
      rw [show (c + 1) * 8 = c * 8 + 8 by omega] at K
      exact er_dropK K ⟨rfl, rfl, rfl, rfl, rfl, rfl, rfl, rfl, rfl, rfl, rfl, trivial⟩
  have h630 : ER ε A 630 (L13 A y z [some (.inl (sumI (O G0 0 15) c)), some (.inl (sumI (O G0 0 14) c)), some (.inl (sumI (O G0 0 16) (c * 8))), some (.inl (nI c)), some (.inl (O G0 0 13 c)), none]) [] f1 f2 f3 f4 G0 := by
    repeat (first | refine er_step rfl rfl ?_)
    refine er_look (a1) rfl rfl ⟨rfl, rfl, rfl⟩ rfl rfl rfl rfl ?_
    rcases k1 with k0 | k0
    · have e0 : f3 c = nI 0 := by rw [e3, hN.2.1.none hc k0]
      rw [k0] at a1 ⊢
      refine er_if rfl rfl (fun q => absurd rfl q) (fun _ => ?_)
      repeat (first | refine er_step rfl rfl ?_)
      refine er_ld 2 c rfl rfl hc rfl ?_
      rw [e0]
      refine er_if rfl rfl (fun q => absurd q (by decide)) (fun _ => ?_)
      repeat (first | refine er_step rfl rfl ?_)
      refine er_look (a1) rfl rfl ⟨rfl, rfl, rfl⟩ rfl rfl rfl rfl ?_
      repeat (first | refine er_step rfl rfl ?_)
      refine er_if rfl rfl (fun _ => ?_) (fun q => absurd (by decide) q)
      exact h667
    · have hn9 := k3 k0
      rw [k0] at a1 ⊢
      refine er_if rfl rfl (fun _ => ?_) (fun q => absurd (by decide) q)
      repeat (first | refine er_step rfl rfl ?_)
      refine er_look (a1) rfl rfl ⟨rfl, rfl, rfl⟩ rfl rfl rfl rfl ?_
      repeat (first | refine er_step rfl rfl ?_)
      refine er_if rfl rfl (fun q => absurd rfl q) (fun _ => ?_)
      repeat (first | refine er_step rfl rfl ?_)
      exact er_if rfl rfl (fun _ => h667) (fun q => absurd (Classical.not_not.1 q) hn9)
  repeat (first | refine er_step rfl rfl ?_)
  refine er_if rfl rfl (fun q => absurd q (nI_ge (a := c) (b := 6) hc (by decide))) (fun _ => ?_)
  repeat (first | refine er_step rfl rfl ?_)
  refine er_look (a0) rfl rfl ⟨rfl, rfl, rfl⟩ rfl rfl rfl rfl ?_
  repeat (first | refine er_step rfl rfl ?_)
  refine er_look (a2) rfl rfl ⟨rfl, rfl, rfl⟩ rfl rfl rfl rfl ?_
  repeat (first | refine er_step rfl rfl ?_)
  refine er_ld 2 c rfl rfl hc rfl ?_
  refine er_if rfl rfl (fun q => absurd rfl q) (fun _ => ?_)
  repeat (first | refine er_step rfl rfl ?_)
  rcases k2 with h9 | ⟨v, v8, hv⟩
  · exact er_if rfl rfl (fun _ => h630) (fun q => absurd h9 q)
  · obtain ⟨q, hq⟩ := has_of (O G0 0) v
    have hqc : q = some c := by
      cases hqq : q with
      | none => exact absurd hv (hq.2.2 hqq c hc)
      | some b =>
        obtain ⟨b6, b13⟩ := hq.2.1 b hqq
        rcases hN.1.2.1.2 b c b6 hc (b13.trans hv.symm) with r | r
        · exact absurd (b13.symm.trans r) (nI_n9 (by omega))
        · rw [r]
    have lq : Lk (ex ε (xl ε A f1 f2 f3 f4)) jX8_frame [.inl (nI v), .inl (nI 4)] G0 (nI c) := by
      have := L_fr4 (ε := ex ε (xl ε A f1 f2 f3 f4)) hN v8 hq
      rw [hqc] at this
      exact this
    rw [hv] at h630 ⊢
    refine er_if rfl rfl (fun r => absurd (show nI v = -9 from r) (nI_n9 (by omega))) (fun _ => ?_)
    repeat (first | refine er_step rfl rfl ?_)
    refine er_look (lq) rfl rfl ⟨rfl, rfl, rfl⟩ rfl rfl rfl rfl ?_
    repeat (first | refine er_step rfl rfl ?_)
    refine er_if rfl rfl (fun q => absurd rfl q) (fun _ => ?_)
    exact h630
set_option maxRecDepth 100000 in
theorem rs_end (hN : IV (O G0 0) N 500) (h : RI (O G0 0) N f1 f2 f3 f4) {ls : List (Option V0)} (hls : ls = L13 A (sumI (O G0 0 6) N) (nI (cntB (stryV (O G0 0)) N)) [some (.inl (sumI (O G0 0 15) 6)), some (.inl (sumI (O G0 0 14) 6)), some (.inl (sumI (O G0 0 16) 48)), none, none, none]) : ER ε A 726 ls [] f1 f2 f3 f4 G0 := by
  subst hls
  have c9 : Lk (ex ε (xl ε A f1 f2 f3 f4)) jX8_count [.inl (nI 9)] G0 (sumI (O G0 0 14) 6) := by
    have := L_count (ε := ex ε (xl ε A f1 f2 f3 f4)) hN (k := 9) (by decide)
    have e : aCount G0 N 9 = sumI (O G0 0 14) 6 := by
      show nI (cntB (fun c => decide (¬ O G0 0 14 c = 0)) 6) = _
      rw [sumI_cnt 6 (p := fun c => decide (¬ O G0 0 14 c = 0)) (fun c hc => ?_)]
      rcases (hN.1.2.1.1 c hc).1 with q | q
      · rw [q]; rfl
      · rw [q]; rfl
    rw [e] at this
    exact this
  have c10 : Lk (ex ε (xl ε A f1 f2 f3 f4)) jX8_count [.inl (nI 10)] G0 (nI (cntB (stryV (O G0 0)) N)) := L_count hN (k := 10) (by decide)
  have c11 : Lk (ex ε (xl ε A f1 f2 f3 f4)) jX8_count [.inl (nI 11)] G0 (sumI (O G0 0 6) N) := L_count hN (k := 11) (by decide)
  have c12 : Lk (ex ε (xl ε A f1 f2 f3 f4)) jX8_count [.inl (nI 12)] G0 (sumI (O G0 0 16) 48) := L_count hN (k := 12) (by decide)
  repeat (first | refine er_step rfl rfl ?_)
  refine er_ld 3 0 rfl rfl (by decide) rfl ?_
  rw [h.2.2.2 0 (by decide)]
  refine er_stat (L_bag hN) rfl rfl ⟨rfl, rfl, rfl⟩ rfl rfl rfl ?_
  refine er_if rfl rfl (fun q => absurd q (by decide)) (fun _ => ?_)
  repeat (first | refine er_step rfl rfl ?_)
  refine er_stat (L_stretches hN) rfl rfl ⟨rfl, rfl, rfl⟩ rfl rfl rfl ?_
  refine er_if rfl rfl (fun q => absurd q (by decide)) (fun _ => ?_)
  repeat (first | refine er_step rfl rfl ?_)
  refine er_ld 3 4 rfl rfl (by decide) rfl ?_
  rw [h.2.2.2 4 (by decide)]
  refine er_if rfl rfl (fun q => absurd hN.2.2 q) (fun _ => ?_)
  repeat (first | refine er_step rfl rfl ?_)
  refine er_look (c9) rfl rfl ⟨rfl, rfl, rfl⟩ rfl rfl rfl rfl ?_
  refine er_if rfl rfl (fun q => absurd rfl q) (fun _ => ?_)
  repeat (first | refine er_step rfl rfl ?_)
  refine er_look (c12) rfl rfl ⟨rfl, rfl, rfl⟩ rfl rfl rfl rfl ?_
  refine er_if rfl rfl (fun q => absurd rfl q) (fun _ => ?_)
  repeat (first | refine er_step rfl rfl ?_)
  refine er_look (c11) rfl rfl ⟨rfl, rfl, rfl⟩ rfl rfl rfl rfl ?_
  refine er_if rfl rfl (fun q => absurd rfl q) (fun _ => ?_)
  repeat (first | refine er_step rfl rfl ?_)
  refine er_look (c10) rfl rfl ⟨rfl, rfl, rfl⟩ rfl rfl rfl rfl ?_
  refine er_if rfl rfl (fun q => absurd rfl q) (fun _ => ?_)
  repeat (first | refine er_step rfl rfl ?_)
  exact er_zret rfl
set_option maxRecDepth 100000 in
theorem rs_350 (hN : IV (O G0 0) N 500) (h : RI (O G0 0) N f1 f2 f3 f4) : ER ε A 350 (L13 A (sumI (O G0 0 6) N) (nI (cntB (stryV (O G0 0)) N)) [none, none, none, none, none, none]) [] f1 f2 f3 f4 G0 := by
  obtain ⟨n8, h8⟩ : ∃ n, n = 8 := ⟨_, rfl⟩
  obtain ⟨n6, h6⟩ : ∃ n, n = 6 := ⟨_, rfl⟩
  repeat (first | refine er_stepS 353 rfl rfl rfl ?_)
  refine er_for n8 (fun w => L13 A (sumI (O G0 0 6) N) (nI (cntB (stryV (O G0 0)) N)) [some (.inl (nI w)), none, none, none, none, none]) (fun w hw K => rs_walk hN h (by omega) K) (fun M hM => ?_)
  rw [hM, h8]
  repeat (first | refine er_step rfl rfl ?_)
  refine er_if rfl rfl (fun _ => ?_) (fun q => absurd (Int32.le_refl _) q)
  repeat (first | refine er_stepS 581 rfl rfl rfl ?_)
  refine er_for n6 (fun c => L13 A (sumI (O G0 0 6) N) (nI (cntB (stryV (O G0 0)) N)) [some (.inl (sumI (O G0 0 15) c)), some (.inl (sumI (O G0 0 14) c)), some (.inl (sumI (O G0 0 16) (c * 8))), some (.inl (nI c)), none, none]) (fun c hc K => rs_carrier hN h (by omega) K) (fun M hM => ?_)
  rw [hM, h6]
  repeat (first | refine er_step rfl rfl ?_)
  refine er_if rfl rfl (fun _ => ?_) (fun q => absurd (Int32.le_refl _) q)
  exact er_dropK (rs_end hN h rfl) ⟨rfl, rfl, rfl, rfl, rfl, rfl, rfl, rfl, rfl, rfl, trivial⟩
end MH2
