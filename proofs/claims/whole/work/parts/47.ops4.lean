/-! Calls: count, inBag, inFrame, bestCarrier. -/
section OE
variable {ε : EE} {J J1 J2 : JT} {pc : Nat} {ls : List (Option V0)} {st : List V0} {As : List V0} {G G' : GG} {i : Nat} {V : VV} {s : Int32} {r r' t x o : Nat → Int32} {K K' : Nat} {Q : Option Int32 → GG → Prop}
theorem op_count (h : RR G r t x K) (q : Int32) : OpOk ε jX8_count jX9_count [.inl q] G r t x K := by
  obtain ⟨N, hO⟩ := h.ro
  have hN2 : N ≤ 120 := hO.1.1
  have hc : G 0 3 8 = nI N := hO.1.2.1
  have hN : r 100 = nI N := hO.1.2.2.1
  obtain ⟨d, hm, hd5, hdc, hdx, -⟩ := h.2.1
  obtain ⟨n, hn80, hnc, hnx, -⟩ := h.2.2
  obtain ⟨g4, g5, g6, g7⟩ := hO.1.2.2.2.2.2.1
  have hK := hO.1.2.2.2.2.2.2.2
  by_cases hb : isInB q (nI 0) (nI 5) = true
  · refine OpOk.same (a := nI (cntB (fun l => decide (ofr r l 3 = q)) N)) h ?_ (fun G1 o => ⟨o, ?_⟩)
    · refine C2.of (ls := [some (.inr (0, 30)), some (.inl q)]) okX8_count rfl rfl ?_
      repeat (first | refine e2_step rfl rfl ?_ | refine e2_get rfl (by first | exact hi | decide) rfl rfl ?_)
      refine e2_fs (c_isIn q (nI 0) (nI 5)) rfl rfl ⟨rfl, rfl, rfl⟩ rfl rfl rfl ?_
      rw [hb]
      refine e2_if rfl rfl (fun z => absurd z (by decide)) (fun _ => ?_)
      repeat (first | refine e2_step rfl rfl ?_ | refine e2_get rfl (by first | exact hi | decide) rfl rfl ?_)
      refine e2_fi (c_countIn (i := 0) (by decide) hN2 hc q) rfl rfl ⟨rfl, rfl, rfl⟩ rfl rfl rfl (by first | exact hi | decide) rfl rfl rfl ?_
      refine e2_iret rfl rfl ⟨?_, rfl⟩
      rw [cntB_congr N (fun l hl => by rw [((hO.2.1 l hl).2.2.2.1).1])]
    · refine C2.of (ls := [some (.inr (0, 50)), some (.inl q)]) okX9_count rfl rfl ?_
      repeat (first | refine e2_step rfl rfl ?_ | refine e2m_get rfl rfl ?_ | refine e2m_ld _ rfl rfl (by omega) ?_)
      refine e2_fs (m_in q (nI 0) (nI 5)) rfl rfl ⟨rfl, rfl, rfl⟩ rfl rfl rfl ?_
      rw [hb]
      refine e2_if rfl rfl (fun z => absurd z (by decide)) (fun _ => ?_)
      repeat (first | refine e2_step rfl rfl ?_ | refine e2m_get rfl rfl ?_ | refine e2m_ld _ rfl rfl (by omega) ?_)
      refine e2_fi (m_countIn hN hN2 q) rfl rfl ⟨rfl, rfl, rfl⟩ rfl rfl rfl (by first | exact hi | decide) rfl rfl rfl ?_
      exact e2_iret rfl rfl ⟨rfl, rfl⟩
  · have hb2 := eq_false_of_ne_true hb
    have hcl : ∀ Q, E2 ε jX8_count 24 [some (.inr (0, 30)), some (.inl q)] [] G Q → E2 ε jX8_count 0 [some (.inr (0, 30)), some (.inl q)] [] G Q := by
      intro Q k
      repeat (first | refine e2_step rfl rfl ?_ | refine e2_get rfl (by first | exact hi | decide) rfl rfl ?_)
      refine e2_fs (c_isIn q (nI 0) (nI 5)) rfl rfl ⟨rfl, rfl, rfl⟩ rfl rfl rfl ?_
      rw [hb2]
      refine e2_if rfl rfl (fun _ => ?_) (fun z => absurd rfl z)
      exact k
    have hml : ∀ (G1 : GG) (o : Nat → Int32) Q, E2 ε jX9_count 15 [some (.inr (0, 50)), some (.inl q)] [] (mG G1 r t o x) Q → E2 ε jX9_count 0 [some (.inr (0, 50)), some (.inl q)] [] (mG G1 r t o x) Q := by
      intro G1 o Q k
      repeat (first | refine e2_step rfl rfl ?_ | refine e2m_get rfl rfl ?_ | refine e2m_ld _ rfl rfl (by omega) ?_)
      refine e2_fs (m_in q (nI 0) (nI 5)) rfl rfl ⟨rfl, rfl, rfl⟩ rfl rfl rfl ?_
      rw [hb2]
      refine e2_if rfl rfl (fun _ => ?_) (fun z => absurd rfl z)
      exact k
    by_cases hq : isInB q (nI 6) (nI 18) = true
    · obtain ⟨k, hk0, hk, rfl⟩ : ∃ k, 6 ≤ k ∧ k ≤ 18 ∧ q = nI k := by
        simp only [isInB, Bool.and_eq_true, decide_eq_true_eq] at hq
        have h1 := Int32.le_iff_toInt_le.1 hq.1
        have h2 := Int32.le_iff_toInt_le.1 hq.2
        rw [nI_toInt (by decide)] at h1 h2
        refine ⟨q.toInt.toNat, by omega, by omega, Int32.toInt_inj.1 ?_⟩
        rw [nI_toInt (by omega)]
        omega
      rcases (show k = 6 ∨ k = 7 ∨ k = 8 ∨ k = 9 ∨ k = 10 ∨ k = 11 ∨ k = 12 ∨ k = 13 ∨ k = 14 ∨ k = 15 ∨ k = 16 ∨ k = 17 ∨ k = 18 by omega) with rfl | rfl | rfl | rfl | rfl | rfl | rfl | rfl | rfl | rfl | rfl | rfl | rfl
      · refine OpOk.same (a := r 100) h ?_ (fun G1 o => ⟨o, ?_⟩)
        · refine C2.of (ls := [some (.inr (0, 30)), some (.inl (nI 6))]) okX8_count rfl rfl ?_
          refine hcl _ ?_
          refine e2_step rfl rfl ?_
          refine e2_tabIn 0 dX8_count_25 (by decide) (by decide) rfl (tgt := 92) (by decide) ?_
          repeat (first | refine e2_step rfl rfl ?_ | refine e2_get rfl (by first | exact hi | decide) rfl rfl ?_)
          exact e2_iret rfl rfl ⟨by rw [← hN] at hc; rw [← hc], rfl⟩
        · refine C2.of (ls := [some (.inr (0, 50)), some (.inl (nI 6))]) okX9_count rfl rfl ?_
          refine hml _ _ _ ?_
          refine e2_step rfl rfl ?_
          refine e2_tabIn 0 dX9_count_16 (by decide) (by decide) rfl (tgt := 84) (by decide) ?_
          repeat (first | refine e2_step rfl rfl ?_ | refine e2m_get rfl rfl ?_ | refine e2m_ld _ rfl rfl (by omega) ?_)
          exact e2_iret rfl rfl ⟨rfl, rfl⟩
      · refine OpOk.same (a := r 952) h ?_ (fun G1 o => ⟨o, ?_⟩)
        · refine C2.of (ls := [some (.inr (0, 30)), some (.inl (nI 7))]) okX8_count rfl rfl ?_
          refine hcl _ ?_
          refine e2_step rfl rfl ?_
          refine e2_tabIn 1 dX8_count_25 (by decide) (by decide) rfl (tgt := 106) (by decide) ?_
          repeat (first | refine e2_step rfl rfl ?_ | refine e2_get rfl (by first | exact hi | decide) rfl rfl ?_)
          exact e2_iret rfl rfl ⟨by rw [← g4], rfl⟩
        · refine C2.of (ls := [some (.inr (0, 50)), some (.inl (nI 7))]) okX9_count rfl rfl ?_
          refine hml _ _ _ ?_
          refine e2_step rfl rfl ?_
          refine e2_tabIn 1 dX9_count_16 (by decide) (by decide) rfl (tgt := 92) (by decide) ?_
          repeat (first | refine e2_step rfl rfl ?_ | refine e2m_get rfl rfl ?_ | refine e2m_ld _ rfl rfl (by omega) ?_)
          exact e2_iret rfl rfl ⟨rfl, rfl⟩
      · refine OpOk.same (a := nI (1 + cntB (fun c => decide (¬ r (c + 1) = r c)) 99)) h ?_ (fun G1 o => ⟨o, ?_⟩)
        · refine C2.of (ls := [some (.inr (0, 30)), some (.inl (nI 8))]) okX8_count rfl rfl ?_
          refine hcl _ ?_
          refine e2_step rfl rfl ?_
          refine e2_tabIn 2 dX8_count_25 (by decide) (by decide) rfl (tgt := 117) (by decide) ?_
          repeat (first | refine e2_step rfl rfl ?_ | refine e2_get rfl (by first | exact hi | decide) rfl rfl ?_)
          refine e2_fi (fc_same (i := 0) (g_stretches (by decide))) rfl rfl ⟨rfl, rfl, rfl⟩ rfl rfl rfl (by first | exact hi | decide) rfl rfl rfl ?_
          refine e2_iret rfl rfl ⟨?_, rfl⟩
          rw [cntB_congr 99 (fun c hc9 => by rw [(hO.1.2.2.2.1 (c + 1) (by omega)).1, (hO.1.2.2.2.1 c (by omega)).1])]
        · refine C2.of (ls := [some (.inr (0, 50)), some (.inl (nI 8))]) okX9_count rfl rfl ?_
          refine hml _ _ _ ?_
          refine e2_step rfl rfl ?_
          refine e2_tabIn 2 dX9_count_16 (by decide) (by decide) rfl (tgt := 101) (by decide) ?_
          repeat (first | refine e2_step rfl rfl ?_ | refine e2m_get rfl rfl ?_ | refine e2m_ld _ rfl rfl (by omega) ?_)
          refine e2_fi (m_stretches) rfl rfl ⟨rfl, rfl, rfl⟩ rfl rfl rfl (by first | exact hi | decide) rfl rfl rfl ?_
          exact e2_iret rfl rfl ⟨rfl, rfl⟩
      · refine OpOk.same (a := sumI (fun c => r (1011 + c)) 6) h ?_ (fun G1 o => ⟨o, ?_⟩)
        · refine C2.of (ls := [some (.inr (0, 30)), some (.inl (nI 9))]) okX8_count rfl rfl ?_
          refine hcl _ ?_
          refine e2_step rfl rfl ?_
          refine e2_tabIn 3 dX8_count_25 (by decide) (by decide) rfl (tgt := 131) (by decide) ?_
          repeat (first | refine e2_step rfl rfl ?_ | refine e2_get rfl (by first | exact hi | decide) rfl rfl ?_)
          refine e2_fi (fc_same (i := 0) (k_countOut (by decide))) rfl rfl ⟨rfl, rfl, rfl⟩ rfl rfl rfl (by first | exact hi | decide) rfl rfl rfl ?_
          refine e2_iret rfl rfl ⟨?_, rfl⟩
          rw [sumI_cnt 6 (p := fun c => decide (¬ G 0 14 c = 0)) (fun c hc6 => ?_)]
          obtain ⟨k1, k2, -⟩ := hK.1 c hc6
          show r (1011 + c) = if decide (¬ G 0 14 c = 0) = true then nI 1 else nI 0
          rw [k1]
          rcases k2 with k2 | k2
          · rw [k2]; rfl
          · rw [k2]; rfl
        · refine C2.of (ls := [some (.inr (0, 50)), some (.inl (nI 9))]) okX9_count rfl rfl ?_
          refine hml _ _ _ ?_
          refine e2_step rfl rfl ?_
          refine e2_tabIn 3 dX9_count_16 (by decide) (by decide) rfl (tgt := 106) (by decide) ?_
          repeat (first | refine e2_step rfl rfl ?_ | refine e2m_get rfl rfl ?_ | refine e2m_ld _ rfl rfl (by omega) ?_)
          refine e2_fi (m_out) rfl rfl ⟨rfl, rfl, rfl⟩ rfl rfl rfl (by first | exact hi | decide) rfl rfl rfl ?_
          exact e2_iret rfl rfl ⟨rfl, rfl⟩
      · refine OpOk.same (a := nI (cntB (stryr r) N)) h ?_ (fun G1 o => ⟨o, ?_⟩)
        · refine C2.of (ls := [some (.inr (0, 30)), some (.inl (nI 10))]) okX8_count rfl rfl ?_
          refine hcl _ ?_
          refine e2_step rfl rfl ?_
          refine e2_tabIn 4 dX8_count_25 (by decide) (by decide) rfl (tgt := 145) (by decide) ?_
          repeat (first | refine e2_step rfl rfl ?_ | refine e2_get rfl (by first | exact hi | decide) rfl rfl ?_)
          refine e2_fi (fc_same (i := 0) (w_countStray (by decide) hN2 hO.okV hc)) rfl rfl ⟨rfl, rfl, rfl⟩ rfl rfl rfl (by first | exact hi | decide) rfl rfl rfl ?_
          refine e2_iret rfl rfl ⟨?_, rfl⟩
          rw [cntB_congr N (fun l hl => ?_)]
          obtain ⟨-, -, -, ⟨d1, -⟩, -, f1, -⟩ := hO.2.1 l hl
          show stryV (G 0) l = stryr r l
          unfold stryV stryr
          rw [d1, hO.wk hl]
          by_cases hz : ofr r l 3 = nI 1
          · rw [(f1 hz).1]
          · rw [decide_eq_false hz, Bool.false_and, Bool.false_and]
        · refine C2.of (ls := [some (.inr (0, 50)), some (.inl (nI 10))]) okX9_count rfl rfl ?_
          refine hml _ _ _ ?_
          refine e2_step rfl rfl ?_
          refine e2_tabIn 4 dX9_count_16 (by decide) (by decide) rfl (tgt := 111) (by decide) ?_
          repeat (first | refine e2_step rfl rfl ?_ | refine e2m_get rfl rfl ?_ | refine e2m_ld _ rfl rfl (by omega) ?_)
          refine e2_fi (m_astray hN hN2 hO.okr) rfl rfl ⟨rfl, rfl, rfl⟩ rfl rfl rfl (by first | exact hi | decide) rfl rfl rfl ?_
          exact e2_iret rfl rfl ⟨rfl, rfl⟩
      · refine OpOk.same (a := r 953) h ?_ (fun G1 o => ⟨o, ?_⟩)
        · refine C2.of (ls := [some (.inr (0, 30)), some (.inl (nI 11))]) okX8_count rfl rfl ?_
          refine hcl _ ?_
          refine e2_step rfl rfl ?_
          refine e2_tabIn 5 dX8_count_25 (by decide) (by decide) rfl (tgt := 156) (by decide) ?_
          repeat (first | refine e2_step rfl rfl ?_ | refine e2_get rfl (by first | exact hi | decide) rfl rfl ?_)
          refine e2_fi (fc_same (i := 0) (v_countMisroutes (by decide) hN2 hc)) rfl rfl ⟨rfl, rfl, rfl⟩ rfl rfl rfl (by first | exact hi | decide) rfl rfl rfl ?_
          exact e2_iret rfl rfl ⟨by rw [hO.2.2.2], rfl⟩
        · refine C2.of (ls := [some (.inr (0, 50)), some (.inl (nI 11))]) okX9_count rfl rfl ?_
          refine hml _ _ _ ?_
          refine e2_step rfl rfl ?_
          refine e2_tabIn 5 dX9_count_16 (by decide) (by decide) rfl (tgt := 116) (by decide) ?_
          repeat (first | refine e2_step rfl rfl ?_ | refine e2m_get rfl rfl ?_ | refine e2m_ld _ rfl rfl (by omega) ?_)
          exact e2_iret rfl rfl ⟨rfl, rfl⟩
      · refine OpOk.same (a := r 954) h ?_ (fun G1 o => ⟨o, ?_⟩)
        · refine C2.of (ls := [some (.inr (0, 30)), some (.inl (nI 12))]) okX8_count rfl rfl ?_
          refine hcl _ ?_
          refine e2_step rfl rfl ?_
          refine e2_tabIn 6 dX8_count_25 (by decide) (by decide) rfl (tgt := 170) (by decide) ?_
          repeat (first | refine e2_step rfl rfl ?_ | refine e2_get rfl (by first | exact hi | decide) rfl rfl ?_)
          refine e2_fi (fc_same (i := 0) (k_countRounds (by decide))) rfl rfl ⟨rfl, rfl, rfl⟩ rfl rfl rfl (by first | exact hi | decide) rfl rfl rfl ?_
          exact e2_iret rfl rfl ⟨by rw [hK.2.2.2.2], rfl⟩
        · refine C2.of (ls := [some (.inr (0, 50)), some (.inl (nI 12))]) okX9_count rfl rfl ?_
          refine hml _ _ _ ?_
          refine e2_step rfl rfl ?_
          refine e2_tabIn 6 dX9_count_16 (by decide) (by decide) rfl (tgt := 125) (by decide) ?_
          repeat (first | refine e2_step rfl rfl ?_ | refine e2m_get rfl rfl ?_ | refine e2m_ld _ rfl rfl (by omega) ?_)
          exact e2_iret rfl rfl ⟨rfl, rfl⟩
      · refine OpOk.same (a := r 949) h ?_ (fun G1 o => ⟨o, ?_⟩)
        · refine C2.of (ls := [some (.inr (0, 30)), some (.inl (nI 13))]) okX8_count rfl rfl ?_
          refine hcl _ ?_
          refine e2_step rfl rfl ?_
          refine e2_tabIn 7 dX8_count_25 (by decide) (by decide) rfl (tgt := 184) (by decide) ?_
          repeat (first | refine e2_step rfl rfl ?_ | refine e2_get rfl (by first | exact hi | decide) rfl rfl ?_)
          exact e2_iret rfl rfl ⟨by rw [← g5], rfl⟩
        · refine C2.of (ls := [some (.inr (0, 50)), some (.inl (nI 13))]) okX9_count rfl rfl ?_
          refine hml _ _ _ ?_
          refine e2_step rfl rfl ?_
          refine e2_tabIn 7 dX9_count_16 (by decide) (by decide) rfl (tgt := 134) (by decide) ?_
          repeat (first | refine e2_step rfl rfl ?_ | refine e2m_get rfl rfl ?_ | refine e2m_ld _ rfl rfl (by omega) ?_)
          exact e2_iret rfl rfl ⟨rfl, rfl⟩
      · refine OpOk.same (a := r 950) h ?_ (fun G1 o => ⟨o, ?_⟩)
        · refine C2.of (ls := [some (.inr (0, 30)), some (.inl (nI 14))]) okX8_count rfl rfl ?_
          refine hcl _ ?_
          refine e2_step rfl rfl ?_
          refine e2_tabIn 8 dX8_count_25 (by decide) (by decide) rfl (tgt := 195) (by decide) ?_
          repeat (first | refine e2_step rfl rfl ?_ | refine e2_get rfl (by first | exact hi | decide) rfl rfl ?_)
          exact e2_iret rfl rfl ⟨by rw [← g6], rfl⟩
        · refine C2.of (ls := [some (.inr (0, 50)), some (.inl (nI 14))]) okX9_count rfl rfl ?_
          refine hml _ _ _ ?_
          refine e2_step rfl rfl ?_
          refine e2_tabIn 8 dX9_count_16 (by decide) (by decide) rfl (tgt := 143) (by decide) ?_
          repeat (first | refine e2_step rfl rfl ?_ | refine e2m_get rfl rfl ?_ | refine e2m_ld _ rfl rfl (by omega) ?_)
          exact e2_iret rfl rfl ⟨rfl, rfl⟩
      · refine OpOk.same (a := r 951) h ?_ (fun G1 o => ⟨o, ?_⟩)
        · refine C2.of (ls := [some (.inr (0, 30)), some (.inl (nI 15))]) okX8_count rfl rfl ?_
          refine hcl _ ?_
          refine e2_step rfl rfl ?_
          refine e2_tabIn 9 dX8_count_25 (by decide) (by decide) rfl (tgt := 206) (by decide) ?_
          repeat (first | refine e2_step rfl rfl ?_ | refine e2_get rfl (by first | exact hi | decide) rfl rfl ?_)
          exact e2_iret rfl rfl ⟨by rw [← g7], rfl⟩
        · refine C2.of (ls := [some (.inr (0, 50)), some (.inl (nI 15))]) okX9_count rfl rfl ?_
          refine hml _ _ _ ?_
          refine e2_step rfl rfl ?_
          refine e2_tabIn 9 dX9_count_16 (by decide) (by decide) rfl (tgt := 152) (by decide) ?_
          repeat (first | refine e2_step rfl rfl ?_ | refine e2m_get rfl rfl ?_ | refine e2m_ld _ rfl rfl (by omega) ?_)
          exact e2_iret rfl rfl ⟨rfl, rfl⟩
      · refine OpOk.same (a := r 3069 + r 3070) h ?_ (fun G1 o => ⟨o, ?_⟩)
        · refine C2.of (ls := [some (.inr (0, 30)), some (.inl (nI 16))]) okX8_count rfl rfl ?_
          refine hcl _ ?_
          refine e2_step rfl rfl ?_
          refine e2_tabIn 10 dX8_count_25 (by decide) (by decide) rfl (tgt := 217) (by decide) ?_
          repeat (first | refine e2_step rfl rfl ?_ | refine e2_get rfl (by first | exact hi | decide) rfl rfl ?_)
          refine e2_fi (q_countSnapshots (j := 0) (by decide)) rfl rfl ⟨rfl, rfl, rfl⟩ rfl rfl rfl (by first | exact hi | decide) rfl rfl rfl ?_
          refine e2_iret rfl rfl ⟨?_, rfl⟩
          rw [← sumI_cnt 2 (f := fun s => r (3069 + s)) (fun s hs => ?_)]
          · show some (nI 0 + r 3069 + r 3070) = _
            rw [show nI 0 + r 3069 = r 3069 from Int32.zero_add _]
          · obtain ⟨k1, k2, -⟩ := h.1.2 s hs
            show r (3069 + s) = if decide (¬ G 0 22 s = 0) = true then nI 1 else nI 0
            rw [k1]
            rcases k2 with k2 | k2
            · rw [k2]; rfl
            · rw [k2]; rfl
        · refine C2.of (ls := [some (.inr (0, 50)), some (.inl (nI 16))]) okX9_count rfl rfl ?_
          refine hml _ _ _ ?_
          refine e2_step rfl rfl ?_
          refine e2_tabIn 10 dX9_count_16 (by decide) (by decide) rfl (tgt := 161) (by decide) ?_
          repeat (first | refine e2_step rfl rfl ?_ | refine e2m_get rfl rfl ?_ | refine e2m_ld _ rfl rfl (by omega) ?_)
          exact e2_iret rfl rfl ⟨rfl, rfl⟩
      · refine OpOk.same (a := x 1) h ?_ (fun G1 o => ⟨o, ?_⟩)
        · refine C2.of (ls := [some (.inr (0, 30)), some (.inl (nI 17))]) okX8_count rfl rfl ?_
          refine hcl _ ?_
          refine e2_step rfl rfl ?_
          refine e2_tabIn 11 dX8_count_25 (by decide) (by decide) rfl (tgt := 225) (by decide) ?_
          repeat (first | refine e2_step rfl rfl ?_ | refine e2_get rfl (by first | exact hi | decide) rfl rfl ?_)
          exact e2_iret rfl rfl ⟨by rw [hdx, ← hdc], rfl⟩
        · refine C2.of (ls := [some (.inr (0, 50)), some (.inl (nI 17))]) okX9_count rfl rfl ?_
          refine hml _ _ _ ?_
          refine e2_step rfl rfl ?_
          refine e2_tabIn 11 dX9_count_16 (by decide) (by decide) rfl (tgt := 179) (by decide) ?_
          repeat (first | refine e2_step rfl rfl ?_ | refine e2m_get rfl rfl ?_ | refine e2m_ld _ rfl rfl (by omega) ?_)
          exact e2_iret rfl rfl ⟨rfl, rfl⟩
      · refine OpOk.same (a := x 3) h ?_ (fun G1 o => ⟨o, ?_⟩)
        · refine C2.of (ls := [some (.inr (0, 30)), some (.inl (nI 18))]) okX8_count rfl rfl ?_
          refine hcl _ ?_
          refine e2_step rfl rfl ?_
          refine e2_tabIn 12 dX8_count_25 (by decide) (by decide) rfl (tgt := 233) (by decide) ?_
          repeat (first | refine e2_step rfl rfl ?_ | refine e2_get rfl (by first | exact hi | decide) rfl rfl ?_)
          exact e2_iret rfl rfl ⟨by rw [hnx, ← hnc], rfl⟩
        · refine C2.of (ls := [some (.inr (0, 50)), some (.inl (nI 18))]) okX9_count rfl rfl ?_
          refine hml _ _ _ ?_
          refine e2_step rfl rfl ?_
          refine e2_tabIn 12 dX9_count_16 (by decide) (by decide) rfl (tgt := 184) (by decide) ?_
          repeat (first | refine e2_step rfl rfl ?_ | refine e2m_get rfl rfl ?_ | refine e2m_ld _ rfl rfl (by omega) ?_)
          exact e2_iret rfl rfl ⟨rfl, rfl⟩
    · have ho := isIn_out (by decide) (by decide) hq
      refine OpOk.same (a := -1) h ?_ (fun G1 o => ⟨o, ?_⟩)
      · refine C2.of (ls := [some (.inr (0, 30)), some (.inl q)]) okX8_count rfl rfl ?_
        refine hcl _ ?_
        refine e2_step rfl rfl ?_
        refine e2_tabOut dX8_count_25 ho (tgt := 241) (by decide) ?_
        repeat (first | refine e2_step rfl rfl ?_ | refine e2_get rfl (by first | exact hi | decide) rfl rfl ?_)
        exact e2_iret rfl rfl ⟨rfl, rfl⟩
      · refine C2.of (ls := [some (.inr (0, 50)), some (.inl q)]) okX9_count rfl rfl ?_
        refine hml _ _ _ ?_
        refine e2_step rfl rfl ?_
        refine e2_tabOut dX9_count_16 ho (tgt := 189) (by decide) ?_
        repeat (first | refine e2_step rfl rfl ?_ | refine e2m_get rfl rfl ?_ | refine e2m_ld _ rfl rfl (by omega) ?_)
        exact e2_iret rfl rfl ⟨rfl, rfl⟩
end OE
