/-! Calls that record a state: helpers; setRange, hour. -/
section OG
variable {ε : EE} {J J1 J2 : JT} {pc : Nat} {ls : List (Option V0)} {st : List V0} {As : List V0} {G G' G1 : GG} {i : Nat} {V : VV} {s : Int32} {r r' r1 r2 t x x2 o : Nat → Int32} {K K' : Nat} {Q : Option Int32 → GG → Prop}
theorem kp.tr {A B C : GG} (h1 : kp A B) (h2 : kp B C) : kp A C := fun i kk h => (h2 i kk h).trans (h1 i kk h)
theorem RmQ.kp (h : RmQ G G1 r t x K) : kp G G1 := fun i kk hk => h.2 i kk (Or.inr (Or.inr (by omega))) (by omega) (by omega) (by omega)
theorem RR.fin (h : RR G1 r1 t x K) (hk : K ≤ K') (hr : ∀ j, 1023 ≤ j → j < 18426 → r2 j = r1 j) (hx : x2 1 = x 1) (hx3 : x2 3 = x 3) (hS : RS V r2 K') : RR (cG G1 0 V s o) r2 t x2 K' ∧ kp G1 (cG G1 0 V s o) := by
  have ho : ∀ i kk, ¬ (i = 0 ∧ kk < 18) → kk ≠ 40 → kk ≠ 41 → cG G1 0 V s o i kk = G1 i kk := fun i kk a b c => cG_o (by omega) b c
  refine ⟨h.now hk (fun i kk a b c => ho i kk (by omega) (by omega) (by omega)) (fun m a b => ho m 22 (by omega) (by omega) (by omega)) (ho 0 31 (by omega) (by omega) (by omega)) (ho 0 32 (by omega) (by omega) (by omega)) (ho 0 33 (by omega) (by omega) (by omega)) (ho 0 34 (by omega) (by omega) (by omega)) hx hx3 (fun j a b => hr j (by omega) b) ?_, fun i kk a => ho i kk (by omega) (by omega) (by omega)⟩
  refine h.1.off hk (fun i kk a b c => ho i kk (by omega) (by omega) (by omega)) (ho 0 22 (by omega) (by omega) (by omega)) (fun j a b => hr j a (by omega)) ?_
  exact hS.agree (AgO.eq (fun kk hkk => cG_at hkk))
theorem isIn_ab {n : Int32} {a b : Nat} (ha : a < 2 ^ 31) (hb : b < 2 ^ 31) (h : isInB n (nI a) (nI b) = true) : ∃ k, a ≤ k ∧ k ≤ b ∧ n = nI k := by
  simp only [isInB, Bool.and_eq_true, decide_eq_true_eq] at h
  have h1 := Int32.le_iff_toInt_le.1 h.1
  have h2 := Int32.le_iff_toInt_le.1 h.2
  rw [nI_toInt ha] at h1
  rw [nI_toInt hb] at h2
  refine ⟨n.toInt.toNat, by omega, by omega, Int32.toInt_inj.1 ?_⟩
  rw [nI_toInt (by omega)]
  omega
theorem RR.d (h : RR G r t x K) : ∃ d, d ≤ 5 ∧ x 1 = nI d := by
  obtain ⟨d, hm, a, -, b, -⟩ := h.2.1
  exact ⟨d, a, b⟩
theorem op_setRange (h : RR G r t x K) (f u w : Int32) : OpOk ε jX8_setRange jX9_setRange [.inl f, .inl u, .inl w] G r t x K := by
  by_cases hf : isInB f (nI 0) (nI 99) = true
  · by_cases hu : isInB u f (nI 99) = true
    · by_cases hw : isInB w (nI 0) (nI 7) = true
      · obtain ⟨a, ha, rfl⟩ := isIn_nI (by decide) hf
        obtain ⟨b, hab, hb, rfl⟩ := isIn_ab (by omega) (by decide) hu
        obtain ⟨w, hw8, rfl⟩ := isIn_nI (by decide) hw
        obtain ⟨d, hd5, hd⟩ := h.d
        have hi : (0 : Nat) < 19 := by decide
        refine ⟨nI (1 + cntB (fun c => decide (¬ rngr (recR r x) a (b + 1) (nI w) (c + 1) = rngr (recR r x) a (b + 1) (nI w) c)) 99), rngr (recR r x) a (b + 1) (nI w), t, recX x, ?_, fun G1 o => ?_⟩
        · refine C2.of (ls := [some (.inr (0, 30)), some (.inl (nI a)), some (.inl (nI b)), some (.inl (nI w))]) okX8_setRange rfl rfl ?_
          repeat (first | refine e2_step rfl rfl ?_ | refine e2_get rfl (by first | exact hi | decide) rfl rfl ?_)
          refine e2_fs (c_isIn (nI a) (nI 0) (nI 99)) rfl rfl ⟨rfl, rfl, rfl⟩ rfl rfl rfl ?_
          rw [hf]
          refine e2_if rfl rfl (fun z => absurd z (by decide)) (fun _ => ?_)
          repeat (first | refine e2_step rfl rfl ?_ | refine e2_get rfl (by first | exact hi | decide) rfl rfl ?_)
          refine e2_fs (c_isIn (nI b) (nI a) (nI 99)) rfl rfl ⟨rfl, rfl, rfl⟩ rfl rfl rfl ?_
          rw [hu]
          refine e2_if rfl rfl (fun z => absurd z (by decide)) (fun _ => ?_)
          repeat (first | refine e2_step rfl rfl ?_ | refine e2_get rfl (by first | exact hi | decide) rfl rfl ?_)
          refine e2_fs (c_isWalk (nI w)) rfl rfl ⟨rfl, rfl, rfl⟩ rfl rfl rfl ?_
          rw [hw]
          refine e2_if rfl rfl (fun _ => ?_) (fun z => absurd (by decide) z)
          repeat (first | refine e2_step rfl rfl ?_ | refine e2_get rfl (by first | exact hi | decide) rfl rfl ?_)
          refine e2_callVv rfl ⟨rfl, rfl, rfl⟩ rfl rfl rfl rfl (by decide) rfl rfl rfl (q_rem h) (fun G1 z => ?_)
          obtain ⟨-, hQ⟩ := z
          obtain ⟨N, hO⟩ := hQ.1.ro
          have hO2 := hO.give (a := a) (b := b) (w := w) (by omega) (by omega)
          repeat (first | refine e2_step rfl rfl ?_ | refine e2_get rfl (by first | exact hi | decide) rfl rfl ?_)
          refine e2_fv (fc_self (g_give (a := a) (b := b) hi (by omega) (by omega) (nI w))) rfl rfl ⟨rfl, rfl, rfl⟩ rfl rfl rfl (by first | exact hi | decide) rfl rfl rfl ?_
          repeat (first | refine e2_step rfl rfl ?_ | refine e2c_get (i := 0) (by decide) rfl rfl rfl rfl ?_ | refine e2_get rfl (by decide) rfl rfl ?_)
          refine e2c_fi (g_stretches hi) rfl rfl ⟨rfl, rfl, rfl⟩ rfl rfl rfl hi rfl rfl rfl rfl ?_
          have hS := hQ.1.1.1
          have hn : ∀ j, 100 ≤ j → rngr (recR r x) a (b + 1) (nI w) j = recR r x j := fun j hj => by unfold rngr; rw [if_neg (by omega)]
          have hfin := hQ.1.fin (K' := K + 1) (s := G1 0 40 1) (o := G1 0 41) (V := sv (G1 0) 2 (rngr (G1 0 2) a (b + 1) (nI w))) (r2 := rngr (recR r x) a (b + 1) (nI w)) (x2 := recX x) (by omega) (fun j hj _ => hn j (by omega)) rfl rfl ⟨⟨N, hO2⟩, by rw [hn 952 (by omega)]; exact hS.2.1, fun k hk => by rw [hn (963 + k) (by omega)]; obtain ⟨c, c1, c2⟩ := hS.2.2 k hk; exact ⟨c, by omega, c2⟩⟩
          refine e2_iret rfl rfl ⟨?_, hfin.1, hQ.kp.tr hfin.2⟩
          rw [cntB_congr 99 (fun c hc9 => by rw [(hO2.1.2.2.2.1 (c + 1) (by omega)).1, (hO2.1.2.2.2.1 c (by omega)).1])]
        · refine C2.of (ls := [some (.inr (0, 50)), some (.inl (nI a)), some (.inl (nI b)), some (.inl (nI w))]) okX9_setRange rfl rfl ?_
          repeat (first | refine e2_step rfl rfl ?_ | refine e2m_get rfl rfl ?_ | refine e2m_ld _ rfl rfl (by omega) ?_)
          refine e2_fs (m_in (nI a) (nI 0) (nI 99)) rfl rfl ⟨rfl, rfl, rfl⟩ rfl rfl rfl ?_
          rw [hf]
          refine e2_if rfl rfl (fun z => absurd z (by decide)) (fun _ => ?_)
          repeat (first | refine e2_step rfl rfl ?_ | refine e2m_get rfl rfl ?_ | refine e2m_ld _ rfl rfl (by omega) ?_)
          refine e2_fs (m_in (nI b) (nI a) (nI 99)) rfl rfl ⟨rfl, rfl, rfl⟩ rfl rfl rfl ?_
          rw [hu]
          refine e2_if rfl rfl (fun z => absurd z (by decide)) (fun _ => ?_)
          repeat (first | refine e2_step rfl rfl ?_ | refine e2m_get rfl rfl ?_ | refine e2m_ld _ rfl rfl (by omega) ?_)
          refine e2_fs (m_isWalk (nI w)) rfl rfl ⟨rfl, rfl, rfl⟩ rfl rfl rfl ?_
          rw [hw]
          refine e2_if rfl rfl (fun _ => ?_) (fun z => absurd (by decide) z)
          repeat (first | refine e2_step rfl rfl ?_ | refine e2m_get rfl rfl ?_ | refine e2m_ld _ rfl rfl (by omega) ?_)
          refine e2_fv (m_recordsX hd hd5) rfl rfl ⟨rfl, rfl, rfl⟩ rfl rfl rfl (by first | exact hi | decide) rfl rfl rfl ?_
          repeat (first | refine e2_step rfl rfl ?_ | refine e2m_get rfl rfl ?_ | refine e2m_ld _ rfl rfl (by omega) ?_)
          refine e2_fv (m_ranges (a := a) (b := b) (by omega) (by omega) (nI w)) rfl rfl ⟨rfl, rfl, rfl⟩ rfl rfl rfl (by first | exact hi | decide) rfl rfl rfl ?_
          repeat (first | refine e2_step rfl rfl ?_ | refine e2m_get rfl rfl ?_ | refine e2m_ld _ rfl rfl (by omega) ?_)
          refine e2_fi (m_stretches) rfl rfl ⟨rfl, rfl, rfl⟩ rfl rfl rfl (by first | exact hi | decide) rfl rfl rfl ?_
          exact e2_iret rfl rfl ⟨rfl, _, _, _, rfl, fun _ _ => rfl, rfl, rfl⟩
      · have hw2 := eq_false_of_ne_true hw
        refine OpOk.same (a := -1) h ?_ (fun G1 o => ⟨o, ?_⟩)
        · refine C2.of (ls := [some (.inr (0, 30)), some (.inl f), some (.inl u), some (.inl w)]) okX8_setRange rfl rfl ?_
          repeat (first | refine e2_step rfl rfl ?_ | refine e2_get rfl (by first | exact hi | decide) rfl rfl ?_)
          refine e2_fs (c_isIn f (nI 0) (nI 99)) rfl rfl ⟨rfl, rfl, rfl⟩ rfl rfl rfl ?_
          rw [hf]
          refine e2_if rfl rfl (fun z => absurd z (by decide)) (fun _ => ?_)
          repeat (first | refine e2_step rfl rfl ?_ | refine e2_get rfl (by first | exact hi | decide) rfl rfl ?_)
          refine e2_fs (c_isIn u f (nI 99)) rfl rfl ⟨rfl, rfl, rfl⟩ rfl rfl rfl ?_
          rw [hu]
          refine e2_if rfl rfl (fun z => absurd z (by decide)) (fun _ => ?_)
          repeat (first | refine e2_step rfl rfl ?_ | refine e2_get rfl (by first | exact hi | decide) rfl rfl ?_)
          refine e2_fs (c_isWalk w) rfl rfl ⟨rfl, rfl, rfl⟩ rfl rfl rfl ?_
          rw [hw2]
          refine e2_if rfl rfl (fun z => absurd rfl z) (fun _ => ?_)
          repeat (first | refine e2_step rfl rfl ?_ | refine e2_get rfl (by first | exact hi | decide) rfl rfl ?_)
          exact e2_iret rfl rfl ⟨rfl, rfl⟩
        · refine C2.of (ls := [some (.inr (0, 50)), some (.inl f), some (.inl u), some (.inl w)]) okX9_setRange rfl rfl ?_
          repeat (first | refine e2_step rfl rfl ?_ | refine e2m_get rfl rfl ?_ | refine e2m_ld _ rfl rfl (by omega) ?_)
          refine e2_fs (m_in f (nI 0) (nI 99)) rfl rfl ⟨rfl, rfl, rfl⟩ rfl rfl rfl ?_
          rw [hf]
          refine e2_if rfl rfl (fun z => absurd z (by decide)) (fun _ => ?_)
          repeat (first | refine e2_step rfl rfl ?_ | refine e2m_get rfl rfl ?_ | refine e2m_ld _ rfl rfl (by omega) ?_)
          refine e2_fs (m_in u f (nI 99)) rfl rfl ⟨rfl, rfl, rfl⟩ rfl rfl rfl ?_
          rw [hu]
          refine e2_if rfl rfl (fun z => absurd z (by decide)) (fun _ => ?_)
          repeat (first | refine e2_step rfl rfl ?_ | refine e2m_get rfl rfl ?_ | refine e2m_ld _ rfl rfl (by omega) ?_)
          refine e2_fs (m_isWalk w) rfl rfl ⟨rfl, rfl, rfl⟩ rfl rfl rfl ?_
          rw [hw2]
          refine e2_if rfl rfl (fun z => absurd rfl z) (fun _ => ?_)
          repeat (first | refine e2_step rfl rfl ?_ | refine e2m_get rfl rfl ?_ | refine e2m_ld _ rfl rfl (by omega) ?_)
          exact e2_iret rfl rfl ⟨rfl, rfl⟩
    · have hu2 := eq_false_of_ne_true hu
      refine OpOk.same (a := -1) h ?_ (fun G1 o => ⟨o, ?_⟩)
      · refine C2.of (ls := [some (.inr (0, 30)), some (.inl f), some (.inl u), some (.inl w)]) okX8_setRange rfl rfl ?_
        repeat (first | refine e2_step rfl rfl ?_ | refine e2_get rfl (by first | exact hi | decide) rfl rfl ?_)
        refine e2_fs (c_isIn f (nI 0) (nI 99)) rfl rfl ⟨rfl, rfl, rfl⟩ rfl rfl rfl ?_
        rw [hf]
        refine e2_if rfl rfl (fun z => absurd z (by decide)) (fun _ => ?_)
        repeat (first | refine e2_step rfl rfl ?_ | refine e2_get rfl (by first | exact hi | decide) rfl rfl ?_)
        refine e2_fs (c_isIn u f (nI 99)) rfl rfl ⟨rfl, rfl, rfl⟩ rfl rfl rfl ?_
        rw [hu2]
        refine e2_if rfl rfl (fun _ => ?_) (fun z => absurd rfl z)
        repeat (first | refine e2_step rfl rfl ?_ | refine e2_get rfl (by first | exact hi | decide) rfl rfl ?_)
        exact e2_iret rfl rfl ⟨rfl, rfl⟩
      · refine C2.of (ls := [some (.inr (0, 50)), some (.inl f), some (.inl u), some (.inl w)]) okX9_setRange rfl rfl ?_
        repeat (first | refine e2_step rfl rfl ?_ | refine e2m_get rfl rfl ?_ | refine e2m_ld _ rfl rfl (by omega) ?_)
        refine e2_fs (m_in f (nI 0) (nI 99)) rfl rfl ⟨rfl, rfl, rfl⟩ rfl rfl rfl ?_
        rw [hf]
        refine e2_if rfl rfl (fun z => absurd z (by decide)) (fun _ => ?_)
        repeat (first | refine e2_step rfl rfl ?_ | refine e2m_get rfl rfl ?_ | refine e2m_ld _ rfl rfl (by omega) ?_)
        refine e2_fs (m_in u f (nI 99)) rfl rfl ⟨rfl, rfl, rfl⟩ rfl rfl rfl ?_
        rw [hu2]
        refine e2_if rfl rfl (fun _ => ?_) (fun z => absurd rfl z)
        repeat (first | refine e2_step rfl rfl ?_ | refine e2m_get rfl rfl ?_ | refine e2m_ld _ rfl rfl (by omega) ?_)
        exact e2_iret rfl rfl ⟨rfl, rfl⟩
  · have hf2 := eq_false_of_ne_true hf
    refine OpOk.same (a := -1) h ?_ (fun G1 o => ⟨o, ?_⟩)
    · refine C2.of (ls := [some (.inr (0, 30)), some (.inl f), some (.inl u), some (.inl w)]) okX8_setRange rfl rfl ?_
      repeat (first | refine e2_step rfl rfl ?_ | refine e2_get rfl (by first | exact hi | decide) rfl rfl ?_)
      refine e2_fs (c_isIn f (nI 0) (nI 99)) rfl rfl ⟨rfl, rfl, rfl⟩ rfl rfl rfl ?_
      rw [hf2]
      refine e2_if rfl rfl (fun _ => ?_) (fun z => absurd rfl z)
      repeat (first | refine e2_step rfl rfl ?_ | refine e2_get rfl (by first | exact hi | decide) rfl rfl ?_)
      exact e2_iret rfl rfl ⟨rfl, rfl⟩
    · refine C2.of (ls := [some (.inr (0, 50)), some (.inl f), some (.inl u), some (.inl w)]) okX9_setRange rfl rfl ?_
      repeat (first | refine e2_step rfl rfl ?_ | refine e2m_get rfl rfl ?_ | refine e2m_ld _ rfl rfl (by omega) ?_)
      refine e2_fs (m_in f (nI 0) (nI 99)) rfl rfl ⟨rfl, rfl, rfl⟩ rfl rfl rfl ?_
      rw [hf2]
      refine e2_if rfl rfl (fun _ => ?_) (fun z => absurd rfl z)
      repeat (first | refine e2_step rfl rfl ?_ | refine e2m_get rfl rfl ?_ | refine e2m_ld _ rfl rfl (by omega) ?_)
      exact e2_iret rfl rfl ⟨rfl, rfl⟩
theorem hoursr_o {N : Nat} (hN2 : N ≤ 120) {j : Nat} (hj : j < 101 ∨ 941 ≤ j) : hoursr r N j = upd r 952 (r 952 + nI 1) j := by
  unfold hoursr
  have h1 := ovr_same (r := upd r 952 (r 952 + nI 1)) N hN2
  have h2 := srts_same (r := ovr (upd r 952 (r 952 + nI 1)) N) (R := bagR (ovr (upd r 952 (r 952 + nI 1)) N) N) hN2 bagR_lt _ (Nat.min_le_left _ (r 950).toNatClampNeg)
  rw [h2.1 j hj, h1.1 j hj]
/-- an hour of office V over a world -/
theorem RO.passes {N : Nat} (h : RO V r N) (hi : i < 19) : FC ε jX5_passHour [.inr (i, 0), .inr (0, 40)] G i V s o (some (nI (hrsn V N))) (hrsV V N) (nI (bagH V N).length) (ordA (bagH V N) o) := by
  have hb : bagH V N = bagR (ovr (upd r 952 (r 952 + nI 1)) N) N := bag_same ((h.hr1.ov N (Nat.le_refl _)).2.1)
  obtain ⟨y, y1, y2⟩ := h.1.2.2.2.2.2.2.1.1
  have h6 : V 0 6 = r 950 := h.1.2.2.2.2.2.1.2.2.1
  refine w_passHour (sp := y) hi h.1.1 h.1.2.1 h.okV (by rw [h6]; exact y2) (by omega) ?_ ?_
  · rw [hb]
    unfold bagR
    rw [layR_len]
    exact cntB_le _ _
  · rw [hb]
    exact bagR_lt
theorem RO.cnt7 {N : Nat} (h : RO V r N) (p : Int32) : cntB (fun l => decide (V 7 l = p)) N = cntB (fun l => decide (ofr r l 3 = p)) N := cntB_congr N (fun l hl => by rw [((h.2.1 l hl).2.2.2.1).1])
theorem op_hour (h : RR G r t x K) : OpOk ε jX8_hour jX9_hour [] G r t x K := by
  obtain ⟨N, hO⟩ := h.ro
  have h4 : G 0 0 4 = r 952 := hO.1.2.2.2.2.2.1.1
  obtain ⟨y, y5, y9⟩ := h.1.1.2.1
  obtain ⟨d, hd5, hd⟩ := h.d
  have hi : (0 : Nat) < 19 := by decide
  by_cases hy : y = 500
  · subst hy
    refine OpOk.same (a := -3) h ?_ (fun G1 o => ⟨o, ?_⟩)
    · refine C2.of (ls := [some (.inr (0, 30))]) okX8_hour rfl rfl ?_
      repeat (first | refine e2_step rfl rfl ?_ | refine e2_get rfl (by first | exact hi | decide) rfl rfl ?_)
      refine e2_if rfl rfl (fun z => absurd z ?_) (fun _ => ?_)
      · show ¬ G 0 0 4 < nI 500
        rw [h4, y9]
        decide
      · repeat (first | refine e2_step rfl rfl ?_ | refine e2_get rfl (by first | exact hi | decide) rfl rfl ?_)
        exact e2_iret rfl rfl ⟨rfl, rfl⟩
    · refine C2.of (ls := [some (.inr (0, 50))]) okX9_hour rfl rfl ?_
      repeat (first | refine e2_step rfl rfl ?_ | refine e2m_get rfl rfl ?_ | refine e2m_ld _ rfl rfl (by omega) ?_)
      refine e2_if rfl rfl (fun z => absurd (show r 952 = nI 500 from y9) z) (fun _ => ?_)
      repeat (first | refine e2_step rfl rfl ?_ | refine e2m_get rfl rfl ?_ | refine e2m_ld _ rfl rfl (by omega) ?_)
      exact e2_iret rfl rfl ⟨rfl, rfl⟩
  · have hrr : recR r x 952 = nI y := by rw [recR_lo (by omega)]; exact y9
    have hN : recR r x 100 = nI N := by rw [recR_lo (by omega)]; exact hO.1.2.2.1
    refine ⟨nI (cntB (fun l => decide (ofr (hoursr (recR r x) N) l 3 = nI 2)) N), hoursr (recR r x) N, t, recX x, ?_, fun G1 o => ?_⟩
    · refine C2.of (ls := [some (.inr (0, 30))]) okX8_hour rfl rfl ?_
      repeat (first | refine e2_step rfl rfl ?_ | refine e2_get rfl (by first | exact hi | decide) rfl rfl ?_)
      refine e2_if rfl rfl (fun _ => ?_) (fun z => absurd ?_ z)
      · repeat (first | refine e2_step rfl rfl ?_ | refine e2_get rfl (by first | exact hi | decide) rfl rfl ?_)
        refine e2_callVv rfl ⟨rfl, rfl, rfl⟩ rfl rfl rfl rfl (by decide) rfl rfl rfl (q_rem h) (fun G1 z => ?_)
        obtain ⟨-, hQ⟩ := z
        obtain ⟨N', hO1⟩ := hQ.1.ro
        have hNN : N' = N := (nI_eq (by have := hO1.1.1; omega) (by have := hO.1.1; omega)).1 (hO1.1.2.2.1.symm.trans hN)
        subst hNN
        have hO2 := hO1.hours
        repeat (first | refine e2_step rfl rfl ?_ | refine e2_get rfl (by first | exact hi | decide) rfl rfl ?_)
        refine e2_fi (fc_self (hO1.passes (s := G1 0 40 1) (o := G1 0 41) hi)) rfl rfl ⟨rfl, rfl, rfl⟩ rfl rfl rfl (by first | exact hi | decide) rfl rfl rfl ?_
        repeat (first | refine e2_step rfl rfl ?_ | refine e2c_get (i := 0) (by decide) rfl rfl rfl rfl ?_ | refine e2_get rfl (by decide) rfl rfl ?_)
        refine e2c_fi (v_countIn hi hO2.1.1 hO2.1.2.1 (nI 2)) rfl rfl ⟨rfl, rfl, rfl⟩ rfl rfl rfl hi rfl rfl rfl rfl ?_
        have hS := hQ.1.1.1
        have hn : ∀ j, 941 ≤ j → j ≠ 952 → hoursr (recR r x) N' j = recR r x j := fun j hj hj2 => by rw [hoursr_o hO1.1.1 (Or.inr hj)]; unfold upd; rw [if_neg hj2]
        have hfin := hQ.1.fin (K' := K + 1) (s := nI (bagH (G1 0) N').length) (o := ordA (bagH (G1 0) N') (G1 0 41)) (V := hrsV (G1 0) N') (r2 := hoursr (recR r x) N') (x2 := recX x) (by omega) (fun j hj _ => hn j (by omega) (by omega)) rfl rfl ⟨⟨N', hO2⟩, ⟨y + 1, by omega, by rw [hoursr_o hO1.1.1 (Or.inr (by omega))]; unfold upd; rw [if_pos rfl, hrr, nI_add']⟩, fun k hk => by rw [hn (963 + k) (by omega) (by omega)]; obtain ⟨c, c1, c2⟩ := hS.2.2 k hk; exact ⟨c, by omega, c2⟩⟩
        refine e2_iret rfl rfl ⟨?_, hfin.1, hQ.kp.tr hfin.2⟩
        rw [hO2.cnt7]
      · show G 0 0 4 < nI 500
        rw [h4, y9]
        exact nI_lt (by omega) (by omega)
    · obtain ⟨sp, sp1, sp2⟩ := hO.1.2.2.2.2.2.2.1.1
      have hsp : recR r x 950 = nI sp := by rw [recR_lo (by omega)]; exact sp2
      have hok : okr (recR r x) N := (hO.row (r' := recR r x) (fun j hj => recR_lo (by omega))).okr
      refine C2.of (ls := [some (.inr (0, 50))]) okX9_hour rfl rfl ?_
      repeat (first | refine e2_step rfl rfl ?_ | refine e2m_get rfl rfl ?_ | refine e2m_ld _ rfl rfl (by omega) ?_)
      refine e2_if rfl rfl (fun _ => ?_) (fun z => absurd (fun q => hy ((nI_eq (by omega) (by omega)).1 (y9.symm.trans q))) z)
      repeat (first | refine e2_step rfl rfl ?_ | refine e2m_get rfl rfl ?_ | refine e2m_ld _ rfl rfl (by omega) ?_)
      refine e2_fv (m_recordsX hd hd5) rfl rfl ⟨rfl, rfl, rfl⟩ rfl rfl rfl (by first | exact hi | decide) rfl rfl rfl ?_
      repeat (first | refine e2_step rfl rfl ?_ | refine e2m_get rfl rfl ?_ | refine e2m_ld _ rfl rfl (by omega) ?_)
      refine e2_fi (m_hours hN hO.1.1 hok hsp (by omega)) rfl rfl ⟨rfl, rfl, rfl⟩ rfl rfl rfl (by first | exact hi | decide) rfl rfl rfl ?_
      exact e2_iret rfl rfl ⟨rfl, _, _, _, rfl, fun _ _ => rfl, rfl, rfl⟩
end OG
