/-! Calls that record a state: goOut, comeBack. -/
section OH
variable {ε : EE} {J J1 J2 : JT} {pc : Nat} {ls : List (Option V0)} {st : List V0} {As : List V0} {G G' G1 : GG} {i : Nat} {V : VV} {s : Int32} {r r' r1 r2 t x x2 o : Nat → Int32} {K K' : Nat} {Q : Option Int32 → GG → Prop}
theorem goesr_o {N c : Nat} (hN2 : N ≤ 120) {j : Nat} (hj : j < 101 ∨ 941 ≤ j) (h2 : j ≠ 1011 + c) : goesr r N c j = r j := by
  unfold goesr upd
  rw [if_neg h2]
  exact (goR_same (fun a ha => by have := atR_lt a ha; omega) _ (by unfold goesn; exact Nat.min_le_left _ _)).1 j hj
theorem comesr_o {N c w : Nat} (hN2 : N ≤ 120) {j : Nat} (hj : j < 101 ∨ (941 ≤ j ∧ j ≠ 953)) (h1 : j ≠ 1017 + c) (h2 : j ≠ 963 + 8 * c + w) (h3 : j ≠ 954) (h4 : j ≠ 1011 + c) : comesr r N c w j = r j := by
  unfold comesr upd
  rw [if_neg h4, if_neg h3, if_neg h2, if_neg h1]
  exact (comL_same (fun a ha => by have := atR_lt a ha; omega) _ (Nat.le_refl _)).1 j hj
theorem comesr_r {N c w : Nat} (hc : c < 6) (hw : w < 8) : comesr r N c w (963 + 8 * c + w) = r (963 + 8 * c + w) + nI 1 := by
  unfold comesr upd
  rw [if_neg (by omega), if_neg (by omega), if_pos rfl]
theorem op_goOut (h : RR G r t x K) (c : Int32) : OpOk ε jX8_goOut jX9_goOut [.inl c] G r t x K := by
  by_cases hb : isInB c (nI 0) (nI 5) = true
  · obtain ⟨u, hu, rfl⟩ := isIn_nI (by decide) hb
    obtain ⟨N, hO⟩ := h.ro
    have hN : r 100 = nI N := hO.1.2.2.1
    have hi : (0 : Nat) < 19 := by decide
    have hw := (hO.1.2.2.2.2.2.2.2.1 u (by omega)).2.2.2.1
    have hgb := hO.goB (c := u) (by omega)
    obtain ⟨d, hd5, hd⟩ := h.d
    by_cases hg : canGoB r N u = true
    · have hgv : cgB (G 0) u = true := by rw [hgb]; exact hg
      have hrO : RO (G 0) (recR r x) N := hO.row (fun j hj => recR_lo (by omega))
      refine ⟨nI (goesn (recR r x) N u), goesr (recR r x) N u, t, recX x, ?_, fun G1 o => ?_⟩
      · refine C2.of (ls := [some (.inr (0, 30)), some (.inl (nI u))]) okX8_goOut rfl rfl ?_
        repeat (first | refine e2_step rfl rfl ?_ | refine e2_get rfl (by first | exact hi | decide) rfl rfl ?_)
        refine e2_fs (c_isCarrier (nI u)) rfl rfl ⟨rfl, rfl, rfl⟩ rfl rfl rfl ?_
        rw [hb]
        refine e2_if rfl rfl (fun _ => ?_) (fun z => absurd (by decide) z)
        repeat (first | refine e2_step rfl rfl ?_ | refine e2_get rfl (by first | exact hi | decide) rfl rfl ?_)
        refine e2_fi (fc_same (i := 0) (w_canGoOut (c := u) hi (by omega) hw)) rfl rfl ⟨rfl, rfl, rfl⟩ rfl rfl rfl (by first | exact hi | decide) rfl rfl rfl ?_
        rw [hgv]
        refine e2_if rfl rfl (fun _ => ?_) (fun z => absurd (by decide) z)
        repeat (first | refine e2_step rfl rfl ?_ | refine e2_get rfl (by first | exact hi | decide) rfl rfl ?_)
        refine e2_callVv rfl ⟨rfl, rfl, rfl⟩ rfl rfl rfl rfl (by decide) rfl rfl rfl (q_rem h) (fun G1 z => ?_)
        obtain ⟨-, hQ⟩ := z
        obtain ⟨N', hO1⟩ := hQ.1.ro
        have hNN : N' = N := (nI_eq (by have := hO1.1.1; omega) (by have := hO.1.1; omega)).1 (hO1.1.2.2.1.symm.trans hrO.1.2.2.1)
        subst hNN
        have e13 : G1 0 13 = G 0 13 := hQ.2 0 13 (by omega) (by omega) (by omega) (by omega)
        have hne : ¬ G 0 13 u = -9 := by
          intro z
          unfold cgB at hgv
          rw [decide_eq_false (fun y => y z), Bool.false_and] at hgv
          cases hgv
        obtain ⟨w, hw8, hw9⟩ := hw.resolve_left hne
        obtain ⟨hO2, hn2⟩ := hO1.send (c := u) (w := w) (by omega) (by rw [e13]; exact hw9) hw8
        obtain ⟨y, y1, y2⟩ := hO1.1.2.2.2.2.2.2.1.2
        have h7 : G1 0 0 7 = nI y := by rw [hO1.1.2.2.2.2.2.1.2.2.2]; exact y2
        repeat (first | refine e2_step rfl rfl ?_ | refine e2_get rfl (by first | exact hi | decide) rfl rfl ?_)
        refine e2_fi (fc_self (w_sendOut (c := u) (ld := y) hi hO1.1.1 hO1.1.2.1 hO1.okV (by omega) h7 (by omega))) rfl rfl ⟨rfl, rfl, rfl⟩ rfl rfl rfl (by first | exact hi | decide) rfl rfl rfl ?_
        have hS := hQ.1.1.1
        have hn : ∀ j, 941 ≤ j → j ≠ 1011 + u → goesr (recR r x) N' u j = recR r x j := fun j hj hj2 => goesr_o hO1.1.1 (Or.inr hj) hj2
        have hfin := hQ.1.fin (K' := K + 1) (s := nI (atVR (G1 0) N' (nI 1) (G1 0 13 u)).length) (o := ordA (atVR (G1 0) N' (nI 1) (G1 0 13 u)) (G1 0 41)) (V := sndV (G1 0) N' u) (r2 := goesr (recR r x) N' u) (x2 := recX x) (by omega) (fun j hj _ => hn j (by omega) (by omega)) rfl rfl ⟨⟨N', hO2⟩, by rw [hn 952 (by omega) (by omega)]; exact hS.2.1, fun k hk => by rw [hn (963 + k) (by omega) (by omega)]; obtain ⟨c, c1, c2⟩ := hS.2.2 k hk; exact ⟨c, by omega, c2⟩⟩
        exact e2_iret rfl rfl ⟨by rw [hn2], hfin.1, hQ.kp.tr hfin.2⟩
      · obtain ⟨y, y1, y2⟩ := hrO.1.2.2.2.2.2.2.1.2
        refine C2.of (ls := [some (.inr (0, 50)), some (.inl (nI u))]) okX9_goOut rfl rfl ?_
        repeat (first | refine e2_step rfl rfl ?_ | refine e2m_get rfl rfl ?_ | refine e2m_ld _ rfl rfl (by omega) ?_)
        refine e2_fs (m_isCarrier (nI u)) rfl rfl ⟨rfl, rfl, rfl⟩ rfl rfl rfl ?_
        rw [hb]
        refine e2_if rfl rfl (fun _ => ?_) (fun z => absurd (by decide) z)
        repeat (first | refine e2_step rfl rfl ?_ | refine e2m_get rfl rfl ?_ | refine e2m_ld _ rfl rfl (by omega) ?_)
        refine e2_fi (m_canGo (c := u) hN hO.1.1 (by omega)) rfl rfl ⟨rfl, rfl, rfl⟩ rfl rfl rfl (by first | exact hi | decide) rfl rfl rfl ?_
        rw [hg]
        refine e2_if rfl rfl (fun _ => ?_) (fun z => absurd (by decide) z)
        repeat (first | refine e2_step rfl rfl ?_ | refine e2m_get rfl rfl ?_ | refine e2m_ld _ rfl rfl (by omega) ?_)
        refine e2_fv (m_recordsX hd hd5) rfl rfl ⟨rfl, rfl, rfl⟩ rfl rfl rfl (by first | exact hi | decide) rfl rfl rfl ?_
        repeat (first | refine e2_step rfl rfl ?_ | refine e2m_get rfl rfl ?_ | refine e2m_ld _ rfl rfl (by omega) ?_)
        refine e2_fi (m_goes (c := u) (s := y) hrO.1.2.2.1 hO.1.1 (by omega) y2 (by omega)) rfl rfl ⟨rfl, rfl, rfl⟩ rfl rfl rfl (by first | exact hi | decide) rfl rfl rfl ?_
        exact e2_iret rfl rfl ⟨rfl, _, _, _, rfl, fun _ _ => rfl, rfl, rfl⟩
    · have hg2 := eq_false_of_ne_true hg
      have hgv : cgB (G 0) u = false := by rw [hgb]; exact hg2
      refine OpOk.same (a := -2) h ?_ (fun G1 o => ⟨o, ?_⟩)
      · refine C2.of (ls := [some (.inr (0, 30)), some (.inl (nI u))]) okX8_goOut rfl rfl ?_
        repeat (first | refine e2_step rfl rfl ?_ | refine e2_get rfl (by first | exact hi | decide) rfl rfl ?_)
        refine e2_fs (c_isCarrier (nI u)) rfl rfl ⟨rfl, rfl, rfl⟩ rfl rfl rfl ?_
        rw [hb]
        refine e2_if rfl rfl (fun _ => ?_) (fun z => absurd (by decide) z)
        repeat (first | refine e2_step rfl rfl ?_ | refine e2_get rfl (by first | exact hi | decide) rfl rfl ?_)
        refine e2_fi (fc_same (i := 0) (w_canGoOut (c := u) hi (by omega) hw)) rfl rfl ⟨rfl, rfl, rfl⟩ rfl rfl rfl (by first | exact hi | decide) rfl rfl rfl ?_
        rw [hgv]
        refine e2_if rfl rfl (fun z => absurd rfl z) (fun _ => ?_)
        repeat (first | refine e2_step rfl rfl ?_ | refine e2_get rfl (by first | exact hi | decide) rfl rfl ?_)
        exact e2_iret rfl rfl ⟨rfl, rfl⟩
      · refine C2.of (ls := [some (.inr (0, 50)), some (.inl (nI u))]) okX9_goOut rfl rfl ?_
        repeat (first | refine e2_step rfl rfl ?_ | refine e2m_get rfl rfl ?_ | refine e2m_ld _ rfl rfl (by omega) ?_)
        refine e2_fs (m_isCarrier (nI u)) rfl rfl ⟨rfl, rfl, rfl⟩ rfl rfl rfl ?_
        rw [hb]
        refine e2_if rfl rfl (fun _ => ?_) (fun z => absurd (by decide) z)
        repeat (first | refine e2_step rfl rfl ?_ | refine e2m_get rfl rfl ?_ | refine e2m_ld _ rfl rfl (by omega) ?_)
        refine e2_fi (m_canGo (c := u) hN hO.1.1 (by omega)) rfl rfl ⟨rfl, rfl, rfl⟩ rfl rfl rfl (by first | exact hi | decide) rfl rfl rfl ?_
        rw [hg2]
        refine e2_if rfl rfl (fun z => absurd rfl z) (fun _ => ?_)
        repeat (first | refine e2_step rfl rfl ?_ | refine e2m_get rfl rfl ?_ | refine e2m_ld _ rfl rfl (by omega) ?_)
        exact e2_iret rfl rfl ⟨rfl, rfl⟩
  · have hb2 := eq_false_of_ne_true hb
    refine OpOk.same (a := -1) h ?_ (fun G1 o => ⟨o, ?_⟩)
    · refine C2.of (ls := [some (.inr (0, 30)), some (.inl c)]) okX8_goOut rfl rfl ?_
      repeat (first | refine e2_step rfl rfl ?_ | refine e2_get rfl (by first | exact hi | decide) rfl rfl ?_)
      refine e2_fs (c_isCarrier c) rfl rfl ⟨rfl, rfl, rfl⟩ rfl rfl rfl ?_
      rw [hb2]
      refine e2_if rfl rfl (fun z => absurd rfl z) (fun _ => ?_)
      repeat (first | refine e2_step rfl rfl ?_ | refine e2_get rfl (by first | exact hi | decide) rfl rfl ?_)
      exact e2_iret rfl rfl ⟨rfl, rfl⟩
    · refine C2.of (ls := [some (.inr (0, 50)), some (.inl c)]) okX9_goOut rfl rfl ?_
      repeat (first | refine e2_step rfl rfl ?_ | refine e2m_get rfl rfl ?_ | refine e2m_ld _ rfl rfl (by omega) ?_)
      refine e2_fs (m_isCarrier c) rfl rfl ⟨rfl, rfl, rfl⟩ rfl rfl rfl ?_
      rw [hb2]
      refine e2_if rfl rfl (fun z => absurd rfl z) (fun _ => ?_)
      repeat (first | refine e2_step rfl rfl ?_ | refine e2m_get rfl rfl ?_ | refine e2m_ld _ rfl rfl (by omega) ?_)
      exact e2_iret rfl rfl ⟨rfl, rfl⟩
theorem op_comeBack (h : RR G r t x K) (c : Int32) : OpOk ε jX8_comeBack jX9_comeBack [.inl c] G r t x K := by
  by_cases hb : isInB c (nI 0) (nI 5) = true
  · obtain ⟨u, hu, rfl⟩ := isIn_nI (by decide) hb
    obtain ⟨N, hO⟩ := h.ro
    have hN : r 100 = nI N := hO.1.2.2.1
    have hi : (0 : Nat) < 19 := by decide
    obtain ⟨k1, k2, k3, k4, k5⟩ := hO.1.2.2.2.2.2.2.2.1 u (by omega)
    obtain ⟨d, hd5, hd⟩ := h.d
    rcases k2 with k2 | k2
    · refine OpOk.same (a := -2) h ?_ (fun G1 o => ⟨o, ?_⟩)
      · refine C2.of (ls := [some (.inr (0, 30)), some (.inl (nI u))]) okX8_comeBack rfl rfl ?_
        repeat (first | refine e2_step rfl rfl ?_ | refine e2_get rfl (by first | exact hi | decide) rfl rfl ?_)
        refine e2_fs (c_isCarrier (nI u)) rfl rfl ⟨rfl, rfl, rfl⟩ rfl rfl rfl ?_
        rw [hb]
        refine e2_if rfl rfl (fun _ => ?_) (fun z => absurd (by decide) z)
        repeat (first | refine e2_step rfl rfl ?_ | refine e2_get rfl (by first | exact hi | decide) rfl rfl ?_)
        refine e2_zald (i := 0) (kk := 14) u rfl rfl (by decide) rfl (by omega) ?_
        rw [k1, k2]
        refine e2_if rfl rfl (fun z => absurd rfl z) (fun _ => ?_)
        repeat (first | refine e2_step rfl rfl ?_ | refine e2_get rfl (by first | exact hi | decide) rfl rfl ?_)
        exact e2_iret rfl rfl ⟨rfl, rfl⟩
      · refine C2.of (ls := [some (.inr (0, 50)), some (.inl (nI u))]) okX9_comeBack rfl rfl ?_
        repeat (first | refine e2_step rfl rfl ?_ | refine e2m_get rfl rfl ?_ | refine e2m_ld _ rfl rfl (by omega) ?_)
        refine e2_fs (m_isCarrier (nI u)) rfl rfl ⟨rfl, rfl, rfl⟩ rfl rfl rfl ?_
        rw [hb]
        refine e2_if rfl rfl (fun _ => ?_) (fun z => absurd (by decide) z)
        repeat (first | refine e2_step rfl rfl ?_ | refine e2m_get rfl rfl ?_ | refine e2m_ld _ rfl rfl (by omega) ?_)
        rw [nI_add']
        repeat (first | refine e2_step rfl rfl ?_ | refine e2m_get rfl rfl ?_ | refine e2m_ld _ rfl rfl (by omega) ?_)
        rw [k2]
        refine e2_if rfl rfl (fun z => absurd rfl z) (fun _ => ?_)
        repeat (first | refine e2_step rfl rfl ?_ | refine e2m_get rfl rfl ?_ | refine e2m_ld _ rfl rfl (by omega) ?_)
        exact e2_iret rfl rfl ⟨rfl, rfl⟩
    · obtain ⟨w, hw8, hw9⟩ := k4.resolve_left (k5 k2)
      have hrO : RO (G 0) (recR r x) N := hO.row (fun j hj => recR_lo (by omega))
      refine ⟨nI (comesn (recR r x) N u w), comesr (recR r x) N u w, t, recX x, ?_, fun G1 o => ?_⟩
      · refine C2.of (ls := [some (.inr (0, 30)), some (.inl (nI u))]) okX8_comeBack rfl rfl ?_
        repeat (first | refine e2_step rfl rfl ?_ | refine e2_get rfl (by first | exact hi | decide) rfl rfl ?_)
        refine e2_fs (c_isCarrier (nI u)) rfl rfl ⟨rfl, rfl, rfl⟩ rfl rfl rfl ?_
        rw [hb]
        refine e2_if rfl rfl (fun _ => ?_) (fun z => absurd (by decide) z)
        repeat (first | refine e2_step rfl rfl ?_ | refine e2_get rfl (by first | exact hi | decide) rfl rfl ?_)
        refine e2_zald (i := 0) (kk := 14) u rfl rfl (by decide) rfl (by omega) ?_
        rw [k1, k2]
        refine e2_if rfl rfl (fun _ => ?_) (fun z => absurd (by decide) z)
        repeat (first | refine e2_step rfl rfl ?_ | refine e2_get rfl (by first | exact hi | decide) rfl rfl ?_)
        refine e2_callVv rfl ⟨rfl, rfl, rfl⟩ rfl rfl rfl rfl (by decide) rfl rfl rfl (q_rem h) (fun G1 z => ?_)
        obtain ⟨-, hQ⟩ := z
        obtain ⟨N', hO1⟩ := hQ.1.ro
        have hNN : N' = N := (nI_eq (by have := hO1.1.1; omega) (by have := hO.1.1; omega)).1 (hO1.1.2.2.1.symm.trans hrO.1.2.2.1)
        subst hNN
        have e13 : G1 0 13 u = nI w := by rw [hQ.2 0 13 (by omega) (by omega) (by omega) (by omega)]; exact hw9
        obtain ⟨hO2, hn2⟩ := hO1.bring (c := u) (w := w) (by omega) e13 hw8
        repeat (first | refine e2_step rfl rfl ?_ | refine e2_get rfl (by first | exact hi | decide) rfl rfl ?_)
        refine e2_fi (fc_self (w_bringBack (c := u) (w := w) hi hO1.1.1 hO1.1.2.1 hO1.okV (by omega) hw8 e13)) rfl rfl ⟨rfl, rfl, rfl⟩ rfl rfl rfl (by first | exact hi | decide) rfl rfl rfl ?_
        have hS := hQ.1.1.1
        have hfin := hQ.1.fin (K' := K + 1) (s := nI (atVR (G1 0) N' (nI 3) (nI u)).length) (o := ordA (atVR (G1 0) N' (nI 3) (nI u)) (G1 0 41)) (V := brgV (G1 0) N' u w) (r2 := comesr (recR r x) N' u w) (x2 := recX x) (by omega) (fun j hj _ => comesr_o hO1.1.1 (by omega) (by omega) (by omega) (by omega) (by omega)) rfl rfl ⟨⟨N', hO2⟩, by rw [comesr_o hO1.1.1 (by omega) (by omega) (by omega) (by omega) (by omega)]; exact hS.2.1, fun k hk => by
          obtain ⟨c, c1, c2⟩ := hS.2.2 k hk
          by_cases hk2 : k = 8 * u + w
          · subst hk2
            rw [show 963 + (8 * u + w) = 963 + 8 * u + w by omega] at c2 ⊢
            rw [comesr_r (by omega) hw8, c2, nI_add']
            exact ⟨c + 1, by omega, rfl⟩
          · rw [comesr_o hO1.1.1 (by omega) (by omega) (by omega) (by omega) (by omega)]
            exact ⟨c, by omega, c2⟩⟩
        exact e2_iret rfl rfl ⟨by rw [hn2], hfin.1, hQ.kp.tr hfin.2⟩
      · refine C2.of (ls := [some (.inr (0, 50)), some (.inl (nI u))]) okX9_comeBack rfl rfl ?_
        repeat (first | refine e2_step rfl rfl ?_ | refine e2m_get rfl rfl ?_ | refine e2m_ld _ rfl rfl (by omega) ?_)
        refine e2_fs (m_isCarrier (nI u)) rfl rfl ⟨rfl, rfl, rfl⟩ rfl rfl rfl ?_
        rw [hb]
        refine e2_if rfl rfl (fun _ => ?_) (fun z => absurd (by decide) z)
        repeat (first | refine e2_step rfl rfl ?_ | refine e2m_get rfl rfl ?_ | refine e2m_ld _ rfl rfl (by omega) ?_)
        rw [nI_add']
        repeat (first | refine e2_step rfl rfl ?_ | refine e2m_get rfl rfl ?_ | refine e2m_ld _ rfl rfl (by omega) ?_)
        rw [k2]
        refine e2_if rfl rfl (fun _ => ?_) (fun z => absurd (by decide) z)
        repeat (first | refine e2_step rfl rfl ?_ | refine e2m_get rfl rfl ?_ | refine e2m_ld _ rfl rfl (by omega) ?_)
        refine e2_fv (m_recordsX hd hd5) rfl rfl ⟨rfl, rfl, rfl⟩ rfl rfl rfl (by first | exact hi | decide) rfl rfl rfl ?_
        repeat (first | refine e2_step rfl rfl ?_ | refine e2m_get rfl rfl ?_ | refine e2m_ld _ rfl rfl (by omega) ?_)
        refine e2_fi (m_comes (c := u) (w := w) hrO.1.2.2.1 hO.1.1 hrO.okr (by omega) (by rw [← hrO.1.wby (by omega)]; exact hw9) hw8) rfl rfl ⟨rfl, rfl, rfl⟩ rfl rfl rfl (by first | exact hi | decide) rfl rfl rfl ?_
        exact e2_iret rfl rfl ⟨rfl, _, _, _, rfl, fun _ _ => rfl, rfl, rfl⟩
  · have hb2 := eq_false_of_ne_true hb
    refine OpOk.same (a := -1) h ?_ (fun G1 o => ⟨o, ?_⟩)
    · refine C2.of (ls := [some (.inr (0, 30)), some (.inl c)]) okX8_comeBack rfl rfl ?_
      repeat (first | refine e2_step rfl rfl ?_ | refine e2_get rfl (by first | exact hi | decide) rfl rfl ?_)
      refine e2_fs (c_isCarrier c) rfl rfl ⟨rfl, rfl, rfl⟩ rfl rfl rfl ?_
      rw [hb2]
      refine e2_if rfl rfl (fun z => absurd rfl z) (fun _ => ?_)
      repeat (first | refine e2_step rfl rfl ?_ | refine e2_get rfl (by first | exact hi | decide) rfl rfl ?_)
      exact e2_iret rfl rfl ⟨rfl, rfl⟩
    · refine C2.of (ls := [some (.inr (0, 50)), some (.inl c)]) okX9_comeBack rfl rfl ?_
      repeat (first | refine e2_step rfl rfl ?_ | refine e2m_get rfl rfl ?_ | refine e2m_ld _ rfl rfl (by omega) ?_)
      refine e2_fs (m_isCarrier c) rfl rfl ⟨rfl, rfl, rfl⟩ rfl rfl rfl ?_
      rw [hb2]
      refine e2_if rfl rfl (fun z => absurd rfl z) (fun _ => ?_)
      repeat (first | refine e2_step rfl rfl ?_ | refine e2m_get rfl rfl ?_ | refine e2m_ld _ rfl rfl (by omega) ?_)
      exact e2_iret rfl rfl ⟨rfl, rfl⟩
end OH
