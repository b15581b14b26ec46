/-! Calls: wouldOverflow, wouldDeliver. -/
section OO
variable {ε : EE} {J J1 J2 : JT} {pc : Nat} {ls : List (Option V0)} {st : List V0} {As : List V0} {G G' G1 : GG} {i N : Nat} {V V' : VV} {s : Int32} {r r' r1 r2 t t' f u w x x' x2 o : Nat → Int32} {K K' : Nat} {Q : Option Int32 → GG → Prop}
theorem cG_lk18 : lk1 G (cG G 18 V s o) := by
  intro i kk h1 h2 h3
  exact cG_o (by omega) h2 h3
/-- the row with its first 1023 places set aside -/
def asd (r : Nat → Int32) : Nat → Int32 := cpyr r 0 18426 1023
def bck (r : Nat → Int32) : Nat → Int32 := cpyr r 18426 0 1023
theorem asd_lo {j : Nat} (h : j < 18426) : asd r j = r j := cpyr_out (by omega)
theorem asd_hi {j : Nat} (h : j < 1023) : asd r (18426 + j) = r j := by
  unfold asd
  rw [cpyr_in (by omega) (by omega), show 0 + (18426 + j - 18426) = j by omega]
/-- a row that differs from what was set aside in its first 1023 places alone comes back -/
theorem bck_of (h : ∀ j, 1023 ≤ j → r2 j = asd r j) : ∀ j, j < 18426 → bck r2 j = r j := by
  intro j hj
  unfold bck
  by_cases h2 : j < 1023
  · rw [cpyr_in (by omega) (by omega), Nat.sub_zero, h _ (by omega), asd_hi h2]
  · rw [cpyr_out (by omega), h j (by omega), asd_lo hj]
theorem RR.tri (h : RR G r t x K) : ∃ N, RO (G 0) r N ∧ RO (cpO (G 18) (G 0)) r N ∧ okZ (G 0) := by
  obtain ⟨N, hO⟩ := h.ro
  exact ⟨N, hO, hO.agree cpO_ag, h.1.1.okZ⟩
theorem op_wouldOverflow (h : RR G r t x K) (p : Int32) : OpOk ε jX8_wouldOverflow jX9_wouldOverflow [.inl p] G r t x K := by
  by_cases hp : isInB p (nI 0) (nI 2) = true
  · obtain ⟨u, hu, rfl⟩ := isIn_nI (by decide) hp
    obtain ⟨N, hO0, hO, hz⟩ := h.tri
    have hi : (18 : Nat) < 19 := by decide
    have hO1 : RO (wv (cpO (G 18) (G 0)) 0 5 (nI u)) (upd (asd r) 949 (nI u)) N := by
      have h1 := ((hO.row (r' := asd r) (fun j hj => asd_lo (by omega))).set (k := 8) (y := u) (by omega) (by omega) (by omega)).1
      have e : chgV (cpO (G 18) (G 0)) (nI 8) (nI u) = wv (cpO (G 18) (G 0)) 0 5 (nI u) := by unfold chgV; rw [if_pos rfl]
      rw [e] at h1
      exact h1
    have hO2 := hO1.hours
    refine OpOk.look (a := nI (cntB (fun l => decide (ofr (hoursr (upd (asd r) 949 (nI u)) N) l 3 = nI 2)) N)) h ?_ (fun G1 o => ?_)
    · refine C2.of (ls := [some (.inr (0, 30)), some (.inl (nI u))]) okX8_wouldOverflow rfl rfl ?_
      repeat (first | refine e2_step rfl rfl ?_ | refine e2_get rfl (by first | exact hi | decide) rfl rfl ?_)
      refine e2_fs (c_isIn (nI u) (nI 0) (nI 2)) rfl rfl ⟨rfl, rfl, rfl⟩ rfl rfl rfl ?_
      rw [hp]
      refine e2_if rfl rfl (fun _ => ?_) (fun z => absurd (by decide) z)
      repeat (first | refine e2_step rfl rfl ?_ | refine e2_get rfl (by first | exact hi | decide) rfl rfl ?_)
      refine e2_fv (Q_office (i := 18) (i2 := 0) (by decide) (by decide) (by decide) hz) rfl rfl ⟨rfl, rfl, rfl⟩ rfl rfl rfl (by first | exact hi | decide) rfl rfl rfl ?_
      unfold cpG
      repeat (first | refine e2_step rfl rfl ?_ | refine e2c_get (i := 18) (by decide) rfl rfl rfl rfl ?_ | refine e2_get rfl (by decide) rfl rfl ?_)
      refine e2c_put (i := 18) hi rfl rfl rfl rfl rfl rfl rfl ?_
      repeat (first | refine e2_step rfl rfl ?_ | refine e2c_get (i := 18) (by decide) rfl rfl rfl rfl ?_ | refine e2_get rfl (by decide) rfl rfl ?_)
      refine e2c_fi (hO1.passes hi) rfl rfl ⟨rfl, rfl, rfl⟩ rfl rfl rfl hi rfl rfl rfl rfl ?_
      repeat (first | refine e2_step rfl rfl ?_ | refine e2c_get (i := 18) (by decide) rfl rfl rfl rfl ?_ | refine e2_get rfl (by decide) rfl rfl ?_)
      refine e2c_fi (v_countIn hi hO2.1.1 hO2.1.2.1 (nI 2)) rfl rfl ⟨rfl, rfl, rfl⟩ rfl rfl rfl hi rfl rfl rfl rfl ?_
      refine e2_iret rfl rfl ⟨?_, cG_lk18⟩
      rw [hO2.cnt7]
    · obtain ⟨sp, sp1, sp2⟩ := hO1.1.2.2.2.2.2.2.1.1
      refine C2.of (ls := [some (.inr (0, 50)), some (.inl (nI u)), none]) okX9_wouldOverflow rfl rfl ?_
      repeat (first | refine e2_step rfl rfl ?_ | refine e2m_get rfl rfl ?_ | refine e2m_ld _ rfl rfl (by omega) ?_)
      refine e2_fs (m_in (nI u) (nI 0) (nI 2)) rfl rfl ⟨rfl, rfl, rfl⟩ rfl rfl rfl ?_
      rw [hp]
      refine e2_if rfl rfl (fun _ => ?_) (fun z => absurd (by decide) z)
      repeat (first | refine e2_step rfl rfl ?_ | refine e2m_get rfl rfl ?_ | refine e2m_ld _ rfl rfl (by omega) ?_)
      refine e2_fv (m_putAside) rfl rfl ⟨rfl, rfl, rfl⟩ rfl rfl rfl (by first | exact hi | decide) rfl rfl rfl ?_
      repeat (first | refine e2_step rfl rfl ?_ | refine e2m_get rfl rfl ?_ | refine e2m_ld _ rfl rfl (by omega) ?_)
      refine e2m_st 949 rfl rfl (by omega) ?_
      repeat (first | refine e2_step rfl rfl ?_ | refine e2m_get rfl rfl ?_ | refine e2m_ld _ rfl rfl (by omega) ?_)
      refine e2_fi (m_hours hO1.1.2.2.1 hO1.1.1 hO1.okr sp2 (by omega)) rfl rfl ⟨rfl, rfl, rfl⟩ rfl rfl rfl (by first | exact hi | decide) rfl rfl rfl ?_
      repeat (first | refine e2_step rfl rfl ?_ | refine e2m_get rfl rfl ?_ | refine e2m_ld _ rfl rfl (by omega) ?_)
      refine e2_fv (m_comesBack) rfl rfl ⟨rfl, rfl, rfl⟩ rfl rfl rfl (by first | exact hi | decide) rfl rfl rfl ?_
      repeat (first | refine e2_step rfl rfl ?_ | refine e2m_get rfl rfl ?_ | refine e2m_ld _ rfl rfl (by omega) ?_)
      refine e2_iret rfl rfl ⟨rfl, _, _, rfl, bck_of (r := r) (fun j hj => ?_)⟩
      rw [hoursr_o hO1.1.1 (Or.inr (by omega))]
      unfold upd
      rw [if_neg (by omega), if_neg (by omega)]
      first | done | rfl
  · have hp2 := eq_false_of_ne_true hp
    refine OpOk.same (a := -1) h ?_ (fun G1 o => ⟨o, ?_⟩)
    · refine C2.of (ls := [some (.inr (0, 30)), some (.inl p)]) okX8_wouldOverflow rfl rfl ?_
      repeat (first | refine e2_step rfl rfl ?_ | refine e2_get rfl (by first | exact hi | decide) rfl rfl ?_)
      refine e2_fs (c_isIn p (nI 0) (nI 2)) rfl rfl ⟨rfl, rfl, rfl⟩ rfl rfl rfl ?_
      rw [hp2]
      refine e2_if rfl rfl (fun z => absurd rfl z) (fun _ => ?_)
      repeat (first | refine e2_step rfl rfl ?_ | refine e2_get rfl (by first | exact hi | decide) rfl rfl ?_)
      exact e2_iret rfl rfl ⟨rfl, rfl⟩
    · refine C2.of (ls := [some (.inr (0, 50)), some (.inl p), none]) okX9_wouldOverflow rfl rfl ?_
      repeat (first | refine e2_step rfl rfl ?_ | refine e2m_get rfl rfl ?_ | refine e2m_ld _ rfl rfl (by omega) ?_)
      refine e2_fs (m_in p (nI 0) (nI 2)) rfl rfl ⟨rfl, rfl, rfl⟩ rfl rfl rfl ?_
      rw [hp2]
      refine e2_if rfl rfl (fun z => absurd rfl z) (fun _ => ?_)
      repeat (first | refine e2_step rfl rfl ?_ | refine e2m_get rfl rfl ?_ | refine e2m_ld _ rfl rfl (by omega) ?_)
      exact e2_iret rfl rfl ⟨rfl, rfl⟩
theorem op_wouldDeliver (h : RR G r t x K) (c : Int32) : OpOk ε jX8_wouldDeliver jX9_wouldDeliver [.inl c] G r t x K := by
  by_cases hb : isInB c (nI 0) (nI 5) = true
  · obtain ⟨u, hu, rfl⟩ := isIn_nI (by decide) hb
    obtain ⟨N, hO0, hO, hz⟩ := h.tri
    have hi : (18 : Nat) < 19 := by decide
    have hi0 : (0 : Nat) < 19 := by decide
    have hN : r 100 = nI N := hO.1.2.2.1
    obtain ⟨k1, k2, k3, k4, k5⟩ := hO0.1.2.2.2.2.2.2.2.1 u (by omega)
    have hOa : RO (cpO (G 18) (G 0)) (asd r) N := hO.row (fun j hj => asd_lo (by omega))
    have e13 : cpO (G 18) (G 0) 13 u = G 0 13 u := cpO_ag.1 13 u (by show u < 6; omega)
    rcases k2 with k2 | k2
    · have hgb := hO0.goB (c := u) (by omega)
      by_cases hg : canGoB r N u = true
      · have hgv : cgB (G 0) u = true := by rw [hgb]; exact hg
        have hne : ¬ G 0 13 u = -9 := by
          intro z
          unfold cgB at hgv
          rw [decide_eq_false (fun y => y z), Bool.false_and] at hgv
          cases hgv
        obtain ⟨w, hw8, hw9⟩ := k4.resolve_left hne
        obtain ⟨hO2, hn2⟩ := hOa.send (c := u) (w := w) (by omega) (by rw [e13]; exact hw9) hw8
        have e13b : sndV (cpO (G 18) (G 0)) N u 13 u = nI w := by
          have : sndV (cpO (G 18) (G 0)) N u 13 = cpO (G 18) (G 0) 13 := by
            unfold sndV
            show sgo _ _ _ _ 13 = _
            exact sgo_o (by decide) (by decide) (by decide) _
          rw [this, e13]
          exact hw9
        have hwk : walkByr (goesr (asd r) N u) (nI u) = nI w := by rw [← hO2.1.wby (by omega)]; exact e13b
        obtain ⟨hO3, hn3⟩ := hO2.bring (c := u) (w := w) (by omega) e13b hw8
        obtain ⟨y, y1, y2⟩ := hOa.1.2.2.2.2.2.2.1.2
        have h7 : cpO (G 18) (G 0) 0 7 = nI y := by rw [hOa.1.2.2.2.2.2.1.2.2.2]; exact y2
        refine OpOk.look (a := nI (comesn (goesr (asd r) N u) N u w)) h ?_ (fun G1 o => ?_)
        · refine C2.of (ls := [some (.inr (0, 30)), some (.inl (nI u)), none]) okX8_wouldDeliver rfl rfl ?_
          repeat (first | refine e2_step rfl rfl ?_ | refine e2_get rfl (by first | exact hi | decide) rfl rfl ?_)
          refine e2_fs (c_isCarrier (nI u)) rfl rfl ⟨rfl, rfl, rfl⟩ rfl rfl rfl ?_
          rw [hb]
          refine e2_if rfl rfl (fun _ => ?_) (fun z => absurd (by decide) z)
          repeat (first | refine e2_step rfl rfl ?_ | refine e2_get rfl (by first | exact hi | decide) rfl rfl ?_)
          refine e2_zald (i := 0) (kk := 14) u rfl rfl (by decide) rfl (by omega) ?_
          rw [k1, k2]
          repeat (first | refine e2_step rfl rfl ?_ | refine e2_get rfl (by first | exact hi | decide) rfl rfl ?_)
          refine e2_if rfl rfl (fun z => absurd rfl z) (fun _ => ?_)
          repeat (first | refine e2_step rfl rfl ?_ | refine e2_get rfl (by first | exact hi | decide) rfl rfl ?_)
          refine e2_fi (fc_same (i := 0) (w_canGoOut (c := u) hi0 (by omega) k4)) rfl rfl ⟨rfl, rfl, rfl⟩ rfl rfl rfl (by first | exact hi | decide) rfl rfl rfl ?_
          rw [hgv]
          refine e2_if rfl rfl (fun _ => ?_) (fun z => absurd (by decide) z)
          repeat (first | refine e2_step rfl rfl ?_ | refine e2_get rfl (by first | exact hi | decide) rfl rfl ?_)
          refine e2_fv (Q_office (i := 18) (i2 := 0) (by decide) (by decide) (by decide) hz) rfl rfl ⟨rfl, rfl, rfl⟩ rfl rfl rfl (by first | exact hi | decide) rfl rfl rfl ?_
          unfold cpG
          repeat (first | refine e2_step rfl rfl ?_ | refine e2c_get (i := 18) (by decide) rfl rfl rfl rfl ?_ | refine e2_get rfl (by decide) rfl rfl ?_)
          refine e2_if rfl rfl (fun z => absurd rfl z) (fun _ => ?_)
          repeat (first | refine e2_step rfl rfl ?_ | refine e2c_get (i := 18) (by decide) rfl rfl rfl rfl ?_ | refine e2_get rfl (by decide) rfl rfl ?_)
          refine e2c_fi (w_sendOut (c := u) (ld := y) hi hOa.1.1 hOa.1.2.1 hOa.okV (by omega) h7 (by omega)) rfl rfl ⟨rfl, rfl, rfl⟩ rfl rfl rfl hi rfl rfl rfl rfl ?_
          repeat (first | refine e2_step rfl rfl ?_ | refine e2c_get (i := 18) (by decide) rfl rfl rfl rfl ?_ | refine e2_get rfl (by decide) rfl rfl ?_)
          refine e2c_fi (w_bringBack (c := u) (w := w) hi hO2.1.1 hO2.1.2.1 hO2.okV (by omega) hw8 e13b) rfl rfl ⟨rfl, rfl, rfl⟩ rfl rfl rfl hi rfl rfl rfl rfl ?_
          exact e2_iret rfl rfl ⟨by rw [hn3], cG_lk18⟩
        · refine C2.of (ls := [some (.inr (0, 50)), some (.inl (nI u)), none]) okX9_wouldDeliver rfl rfl ?_
          repeat (first | refine e2_step rfl rfl ?_ | refine e2m_get rfl rfl ?_ | refine e2m_ld _ rfl rfl (by omega) ?_)
          refine e2_fs (m_isCarrier (nI u)) rfl rfl ⟨rfl, rfl, rfl⟩ rfl rfl rfl ?_
          rw [hb]
          refine e2_if rfl rfl (fun _ => ?_) (fun z => absurd (by decide) z)
          repeat (first | refine e2_step rfl rfl ?_ | refine e2m_get rfl rfl ?_ | refine e2m_ld _ rfl rfl (by omega) ?_)
          rw [nI_add']
          repeat (first | refine e2_step rfl rfl ?_ | refine e2m_get rfl rfl ?_ | refine e2m_ld _ rfl rfl (by omega) ?_)
          rw [k2]
          refine e2_if rfl rfl (fun z => absurd rfl z) (fun _ => ?_)
          repeat (first | refine e2_step rfl rfl ?_ | refine e2m_get rfl rfl ?_ | refine e2m_ld _ rfl rfl (by omega) ?_)
          refine e2_fi (m_canGo (c := u) hN hO.1.1 (by omega)) rfl rfl ⟨rfl, rfl, rfl⟩ rfl rfl rfl (by first | exact hi | decide) rfl rfl rfl ?_
          rw [hg]
          refine e2_if rfl rfl (fun _ => ?_) (fun z => absurd (by decide) z)
          repeat (first | refine e2_step rfl rfl ?_ | refine e2m_get rfl rfl ?_ | refine e2m_ld _ rfl rfl (by omega) ?_)
          refine e2_fv (m_putAside) rfl rfl ⟨rfl, rfl, rfl⟩ rfl rfl rfl (by first | exact hi | decide) rfl rfl rfl ?_
          repeat (first | refine e2_step rfl rfl ?_ | refine e2m_get rfl rfl ?_ | refine e2m_ld _ rfl rfl (by omega) ?_)
          rw [nI_add']
          repeat (first | refine e2_step rfl rfl ?_ | refine e2m_get rfl rfl ?_ | refine e2m_ld _ rfl rfl (by omega) ?_)
          rw [show cpyr r 0 18426 1023 (1011 + u) = nI 0 from by rw [← k2]; exact asd_lo (by omega)]
          refine e2_if rfl rfl (fun z => absurd rfl z) (fun _ => ?_)
          repeat (first | refine e2_step rfl rfl ?_ | refine e2m_get rfl rfl ?_ | refine e2m_ld _ rfl rfl (by omega) ?_)
          refine e2_fi (m_goes (c := u) (s := y) hOa.1.2.2.1 hO.1.1 (by omega) y2 (by omega)) rfl rfl ⟨rfl, rfl, rfl⟩ rfl rfl rfl (by first | exact hi | decide) rfl rfl rfl ?_
          repeat (first | refine e2_step rfl rfl ?_ | refine e2m_get rfl rfl ?_ | refine e2m_ld _ rfl rfl (by omega) ?_)
          refine e2_fi (m_comes (c := u) (w := w) hO2.1.2.2.1 hO.1.1 hO2.okr (by omega) hwk hw8) rfl rfl ⟨rfl, rfl, rfl⟩ rfl rfl rfl (by first | exact hi | decide) rfl rfl rfl ?_
          repeat (first | refine e2_step rfl rfl ?_ | refine e2m_get rfl rfl ?_ | refine e2m_ld _ rfl rfl (by omega) ?_)
          refine e2_fv (m_comesBack) rfl rfl ⟨rfl, rfl, rfl⟩ rfl rfl rfl (by first | exact hi | decide) rfl rfl rfl ?_
          repeat (first | refine e2_step rfl rfl ?_ | refine e2m_get rfl rfl ?_ | refine e2m_ld _ rfl rfl (by omega) ?_)
          refine e2_iret rfl rfl ⟨rfl, _, _, rfl, bck_of (r := r) (fun j hj => ?_)⟩
          rw [comesr_o hO.1.1 (by omega) (by omega) (by omega) (by omega) (by omega), goesr_o hO.1.1 (by omega) (by omega)]
          first | done | rfl
      · have hg2 := eq_false_of_ne_true hg
        have hgv : cgB (G 0) u = false := by rw [hgb]; exact hg2
        refine OpOk.same (a := -2) h ?_ (fun G1 o => ⟨o, ?_⟩)
        · refine C2.of (ls := [some (.inr (0, 30)), some (.inl (nI u)), none]) okX8_wouldDeliver rfl rfl ?_
          repeat (first | refine e2_step rfl rfl ?_ | refine e2_get rfl (by first | exact hi | decide) rfl rfl ?_)
          refine e2_fs (c_isCarrier (nI u)) rfl rfl ⟨rfl, rfl, rfl⟩ rfl rfl rfl ?_
          rw [hb]
          refine e2_if rfl rfl (fun _ => ?_) (fun z => absurd (by decide) z)
          repeat (first | refine e2_step rfl rfl ?_ | refine e2_get rfl (by first | exact hi | decide) rfl rfl ?_)
          refine e2_zald (i := 0) (kk := 14) u rfl rfl (by decide) rfl (by omega) ?_
          rw [k1, k2]
          repeat (first | refine e2_step rfl rfl ?_ | refine e2_get rfl (by first | exact hi | decide) rfl rfl ?_)
          refine e2_if rfl rfl (fun z => absurd rfl z) (fun _ => ?_)
          repeat (first | refine e2_step rfl rfl ?_ | refine e2_get rfl (by first | exact hi | decide) rfl rfl ?_)
          refine e2_fi (fc_same (i := 0) (w_canGoOut (c := u) hi0 (by omega) k4)) rfl rfl ⟨rfl, rfl, rfl⟩ rfl rfl rfl (by first | exact hi | decide) rfl rfl rfl ?_
          rw [hgv]
          refine e2_if rfl rfl (fun z => absurd rfl z) (fun _ => ?_)
          repeat (first | refine e2_step rfl rfl ?_ | refine e2_get rfl (by first | exact hi | decide) rfl rfl ?_)
          exact e2_iret rfl rfl ⟨rfl, rfl⟩
        · refine C2.of (ls := [some (.inr (0, 50)), some (.inl (nI u)), none]) okX9_wouldDeliver rfl rfl ?_
          repeat (first | refine e2_step rfl rfl ?_ | refine e2m_get rfl rfl ?_ | refine e2m_ld _ rfl rfl (by omega) ?_)
          refine e2_fs (m_isCarrier (nI u)) rfl rfl ⟨rfl, rfl, rfl⟩ rfl rfl rfl ?_
          rw [hb]
          refine e2_if rfl rfl (fun _ => ?_) (fun z => absurd (by decide) z)
          repeat (first | refine e2_step rfl rfl ?_ | refine e2m_get rfl rfl ?_ | refine e2m_ld _ rfl rfl (by omega) ?_)
          rw [nI_add']
          repeat (first | refine e2_step rfl rfl ?_ | refine e2m_get rfl rfl ?_ | refine e2m_ld _ rfl rfl (by omega) ?_)
          rw [k2]
          refine e2_if rfl rfl (fun z => absurd rfl z) (fun _ => ?_)
          repeat (first | refine e2_step rfl rfl ?_ | refine e2m_get rfl rfl ?_ | refine e2m_ld _ rfl rfl (by omega) ?_)
          refine e2_fi (m_canGo (c := u) hN hO.1.1 (by omega)) rfl rfl ⟨rfl, rfl, rfl⟩ rfl rfl rfl (by first | exact hi | decide) rfl rfl rfl ?_
          rw [hg2]
          refine e2_if rfl rfl (fun z => absurd rfl z) (fun _ => ?_)
          repeat (first | refine e2_step rfl rfl ?_ | refine e2m_get rfl rfl ?_ | refine e2m_ld _ rfl rfl (by omega) ?_)
          exact e2_iret rfl rfl ⟨rfl, rfl⟩
    · obtain ⟨w, hw8, hw9⟩ := k4.resolve_left (k5 k2)
      have e13b : cpO (G 18) (G 0) 13 u = nI w := by rw [e13]; exact hw9
      have hwk : walkByr (asd r) (nI u) = nI w := by rw [← hOa.1.wby (by omega)]; exact e13b
      obtain ⟨hO3, hn3⟩ := hOa.bring (c := u) (w := w) (by omega) e13b hw8
      refine OpOk.look (a := nI (comesn (asd r) N u w)) h ?_ (fun G1 o => ?_)
      · refine C2.of (ls := [some (.inr (0, 30)), some (.inl (nI u)), none]) okX8_wouldDeliver rfl rfl ?_
        repeat (first | refine e2_step rfl rfl ?_ | refine e2_get rfl (by first | exact hi | decide) rfl rfl ?_)
        refine e2_fs (c_isCarrier (nI u)) rfl rfl ⟨rfl, rfl, rfl⟩ rfl rfl rfl ?_
        rw [hb]
        refine e2_if rfl rfl (fun _ => ?_) (fun z => absurd (by decide) z)
        repeat (first | refine e2_step rfl rfl ?_ | refine e2_get rfl (by first | exact hi | decide) rfl rfl ?_)
        refine e2_zald (i := 0) (kk := 14) u rfl rfl (by decide) rfl (by omega) ?_
        rw [k1, k2]
        repeat (first | refine e2_step rfl rfl ?_ | refine e2_get rfl (by first | exact hi | decide) rfl rfl ?_)
        refine e2_if rfl rfl (fun _ => ?_) (fun z => absurd (by decide) z)
        repeat (first | refine e2_step rfl rfl ?_ | refine e2_get rfl (by first | exact hi | decide) rfl rfl ?_)
        refine e2_fv (Q_office (i := 18) (i2 := 0) (by decide) (by decide) (by decide) hz) rfl rfl ⟨rfl, rfl, rfl⟩ rfl rfl rfl (by first | exact hi | decide) rfl rfl rfl ?_
        unfold cpG
        repeat (first | refine e2_step rfl rfl ?_ | refine e2c_get (i := 18) (by decide) rfl rfl rfl rfl ?_ | refine e2_get rfl (by decide) rfl rfl ?_)
        refine e2_if rfl rfl (fun _ => ?_) (fun z => absurd (by decide) z)
        repeat (first | refine e2_step rfl rfl ?_ | refine e2c_get (i := 18) (by decide) rfl rfl rfl rfl ?_ | refine e2_get rfl (by decide) rfl rfl ?_)
        refine e2c_fi (w_bringBack (c := u) (w := w) hi hOa.1.1 hOa.1.2.1 hOa.okV (by omega) hw8 e13b) rfl rfl ⟨rfl, rfl, rfl⟩ rfl rfl rfl hi rfl rfl rfl rfl ?_
        exact e2_iret rfl rfl ⟨by rw [hn3], cG_lk18⟩
      · refine C2.of (ls := [some (.inr (0, 50)), some (.inl (nI u)), none]) okX9_wouldDeliver rfl rfl ?_
        repeat (first | refine e2_step rfl rfl ?_ | refine e2m_get rfl rfl ?_ | refine e2m_ld _ rfl rfl (by omega) ?_)
        refine e2_fs (m_isCarrier (nI u)) rfl rfl ⟨rfl, rfl, rfl⟩ rfl rfl rfl ?_
        rw [hb]
        refine e2_if rfl rfl (fun _ => ?_) (fun z => absurd (by decide) z)
        repeat (first | refine e2_step rfl rfl ?_ | refine e2m_get rfl rfl ?_ | refine e2m_ld _ rfl rfl (by omega) ?_)
        rw [nI_add']
        repeat (first | refine e2_step rfl rfl ?_ | refine e2m_get rfl rfl ?_ | refine e2m_ld _ rfl rfl (by omega) ?_)
        rw [k2]
        refine e2_if rfl rfl (fun _ => ?_) (fun z => absurd (by decide) z)
        repeat (first | refine e2_step rfl rfl ?_ | refine e2m_get rfl rfl ?_ | refine e2m_ld _ rfl rfl (by omega) ?_)
        refine e2_fv (m_putAside) rfl rfl ⟨rfl, rfl, rfl⟩ rfl rfl rfl (by first | exact hi | decide) rfl rfl rfl ?_
        repeat (first | refine e2_step rfl rfl ?_ | refine e2m_get rfl rfl ?_ | refine e2m_ld _ rfl rfl (by omega) ?_)
        rw [nI_add']
        repeat (first | refine e2_step rfl rfl ?_ | refine e2m_get rfl rfl ?_ | refine e2m_ld _ rfl rfl (by omega) ?_)
        rw [show cpyr r 0 18426 1023 (1011 + u) = nI 1 from by rw [← k2]; exact asd_lo (by omega)]
        refine e2_if rfl rfl (fun _ => ?_) (fun z => absurd (by decide) z)
        repeat (first | refine e2_step rfl rfl ?_ | refine e2m_get rfl rfl ?_ | refine e2m_ld _ rfl rfl (by omega) ?_)
        refine e2_fi (m_comes (c := u) (w := w) hOa.1.2.2.1 hO.1.1 hOa.okr (by omega) hwk hw8) rfl rfl ⟨rfl, rfl, rfl⟩ rfl rfl rfl (by first | exact hi | decide) rfl rfl rfl ?_
        repeat (first | refine e2_step rfl rfl ?_ | refine e2m_get rfl rfl ?_ | refine e2m_ld _ rfl rfl (by omega) ?_)
        refine e2_fv (m_comesBack) rfl rfl ⟨rfl, rfl, rfl⟩ rfl rfl rfl (by first | exact hi | decide) rfl rfl rfl ?_
        repeat (first | refine e2_step rfl rfl ?_ | refine e2m_get rfl rfl ?_ | refine e2m_ld _ rfl rfl (by omega) ?_)
        refine e2_iret rfl rfl ⟨rfl, _, _, rfl, bck_of (r := r) (fun j hj => ?_)⟩
        rw [comesr_o hO.1.1 (by omega) (by omega) (by omega) (by omega) (by omega)]
        first | done | rfl
  · have hb2 := eq_false_of_ne_true hb
    refine OpOk.same (a := -1) h ?_ (fun G1 o => ⟨o, ?_⟩)
    · refine C2.of (ls := [some (.inr (0, 30)), some (.inl c), none]) okX8_wouldDeliver rfl rfl ?_
      repeat (first | refine e2_step rfl rfl ?_ | refine e2_get rfl (by first | exact hi | decide) rfl rfl ?_)
      refine e2_fs (c_isCarrier c) rfl rfl ⟨rfl, rfl, rfl⟩ rfl rfl rfl ?_
      rw [hb2]
      refine e2_if rfl rfl (fun z => absurd rfl z) (fun _ => ?_)
      repeat (first | refine e2_step rfl rfl ?_ | refine e2_get rfl (by first | exact hi | decide) rfl rfl ?_)
      exact e2_iret rfl rfl ⟨rfl, rfl⟩
    · refine C2.of (ls := [some (.inr (0, 50)), some (.inl c), none]) okX9_wouldDeliver rfl rfl ?_
      repeat (first | refine e2_step rfl rfl ?_ | refine e2m_get rfl rfl ?_ | refine e2m_ld _ rfl rfl (by omega) ?_)
      refine e2_fs (m_isCarrier c) rfl rfl ⟨rfl, rfl, rfl⟩ rfl rfl rfl ?_
      rw [hb2]
      refine e2_if rfl rfl (fun z => absurd rfl z) (fun _ => ?_)
      repeat (first | refine e2_step rfl rfl ?_ | refine e2m_get rfl rfl ?_ | refine e2m_ld _ rfl rfl (by omega) ?_)
      exact e2_iret rfl rfl ⟨rfl, rfl⟩
end OO
