/-! Calls: take, restore, undo. -/
section OL
variable {ε : EE} {J J1 J2 : JT} {pc : Nat} {ls : List (Option V0)} {st : List V0} {As : List V0} {G G' G1 : GG} {i N : Nat} {V V' : VV} {s : Int32} {r r' r1 r2 t x x2 o : Nat → Int32} {K K' : Nat} {Q : Option Int32 → GG → Prop}
theorem AgO.tr {A B C : VV} (h1 : AgO A B) (h2 : AgO B C) : AgO A C := ⟨fun kk s hs => (h2.1 kk s hs).trans (h1.1 kk s hs), h2.2.1.trans h1.2.1, h2.2.2.1.trans h1.2.2.1, h2.2.2.2.1.trans h1.2.2.2.1, h2.2.2.2.2.1.trans h1.2.2.2.2.1, h2.2.2.2.2.2.trans h1.2.2.2.2.2⟩
theorem op_take (h : RR G r t x K) (p : Int32) : OpOk ε jX8_take jX9_take [.inl p] G r t x K := by
  by_cases hp : isInB p (nI 0) (nI 1) = true
  · obtain ⟨u, hu, rfl⟩ := isIn_nI (by decide) hp
    obtain ⟨N, hO⟩ := h.ro
    obtain ⟨d, hd5, hd⟩ := h.d
    have hrO : RO (G 0) (recR r x) N := hO.row (fun j hj => recR_lo (by omega))
    refine ⟨recR r x 952, upd (cpyr (recR r x) 0 (1023 * (u + 1)) 1023) (3069 + u) (nI 1), t, recX x, ?_, fun G1 o => ?_⟩
    · refine C2.of (ls := [some (.inr (0, 30)), some (.inl (nI u))]) okX8_take rfl rfl ?_
      repeat (first | refine e2_step rfl rfl ?_ | refine e2_get rfl (by first | exact hi | decide) rfl rfl ?_)
      refine e2_fs (c_isSlot (nI u)) rfl rfl ⟨rfl, rfl, rfl⟩ rfl rfl rfl ?_
      rw [hp]
      refine e2_if rfl rfl (fun _ => ?_) (fun z => absurd (by decide) z)
      repeat (first | refine e2_step rfl rfl ?_ | refine e2_get rfl (by first | exact hi | decide) rfl rfl ?_)
      refine e2_callVv rfl ⟨rfl, rfl, rfl⟩ rfl rfl rfl rfl (by decide) rfl rfl rfl (q_rem h) (fun G1 z => ?_)
      obtain ⟨-, hQ⟩ := z
      have hM := hQ.1.1
      have hS := hM.1
      have e4 : G1 0 0 4 = recR r x 952 := by
        obtain ⟨N', hO1⟩ := hQ.1.ro
        exact hO1.1.2.2.2.2.2.1.1
      repeat (first | refine e2_step rfl rfl ?_ | refine e2_get rfl (by first | exact hi | decide) rfl rfl ?_)
      refine e2_fv (q_fillSlot (j := 0) (t := u) (by decide) (by omega) hS.okZ) rfl rfl ⟨rfl, rfl, rfl⟩ rfl rfl rfl (by first | exact hi | decide) rfl rfl rfl ?_
      have w22 : ∀ v, wr (cpG G1 (3 * 0 + 1 + u) (3 * 0)) 0 22 u 1 0 22 v = if v = u then nI 1 else G1 0 22 v := fun v => by
        by_cases hv : v = u
        · subst hv
          rw [if_pos rfl, wr_s]
          rfl
        · rw [if_neg hv, wr_u hv, cpG_o _ _ _ (by omega)]
      have wo : ∀ i kk, ¬ (i = 0 ∧ kk = 22) → ¬ (i = 1 + u ∧ kk < 18) → wr (cpG G1 (3 * 0 + 1 + u) (3 * 0)) 0 22 u 1 i kk = G1 i kk := fun i kk a b => by
        rw [wr_o a, cpG_o _ _ _ (by omega)]
      have wsl : AgO (G1 0) (wr (cpG G1 (3 * 0 + 1 + u) (3 * 0)) 0 22 u 1 (1 + u)) := by
        have h9 := cpG_ag G1 (3 * 0 + 1 + u) (3 * 0)
        refine AgO.tr h9 (AgO.eq (fun kk hk => ?_))
        rw [wr_o (by omega), show 3 * 0 + 1 + u = 1 + u by omega]
      generalize wr (cpG G1 (3 * 0 + 1 + u) (3 * 0)) 0 22 u 1 = G2 at w22 wo wsl ⊢
      repeat (first | refine e2_step rfl rfl ?_ | refine e2_get rfl (by first | exact hi | decide) rfl rfl ?_)
      rw [show G2 0 0 4 = recR r x 952 by rw [wo 0 0 (by omega) (by omega)]; exact e4]
      refine e2_iret rfl rfl ⟨rfl, ?_, hQ.kp.tr (fun i kk a => wo i kk (by omega) (by omega))⟩
      have hlo : ∀ j, j < 1023 → upd (cpyr (recR r x) 0 (1023 * (u + 1)) 1023) (3069 + u) (nI 1) j = recR r x j := fun j hj => by
        unfold upd
        rw [if_neg (by omega), cpyr_out (by omega)]
      have hin : ∀ j, j < 1023 → upd (cpyr (recR r x) 0 (1023 * (u + 1)) 1023) (3069 + u) (nI 1) (1023 * (u + 1) + j) = recR r x j := fun j hj => by
        unfold upd
        rw [if_neg (by omega), cpyr_in (by omega) (by omega), show 0 + (1023 * (u + 1) + j - 1023 * (u + 1)) = j by omega]
      have hout : ∀ j, (j < 1023 * (u + 1) ∨ 1023 * (u + 1) + 1023 ≤ j) → j ≠ 3069 + u → upd (cpyr (recR r x) 0 (1023 * (u + 1)) 1023) (3069 + u) (nI 1) j = recR r x j := fun j hj h2 => by
        unfold upd
        rw [if_neg h2, cpyr_out hj]
      have hfl : upd (cpyr (recR r x) 0 (1023 * (u + 1)) 1023) (3069 + u) (nI 1) (3069 + u) = nI 1 := by unfold upd; rw [if_pos rfl]
      generalize upd (cpyr (recR r x) 0 (1023 * (u + 1)) 1023) (3069 + u) (nI 1) = q at hlo hin hout hfl ⊢
      refine (hQ.1.mono (Nat.le_succ K)).now (Nat.le_refl _) (fun i kk a b c => wo i kk (by omega) (by omega)) (fun m a b => wo m 22 (by omega) (by omega)) (wo 0 31 (by omega) (by omega)) (wo 0 32 (by omega) (by omega)) (wo 0 33 (by omega) (by omega)) (wo 0 34 (by omega) (by omega)) rfl rfl (fun j a b => hout j (by omega) (by omega)) ?_
      refine ⟨?_, fun v hv => ?_⟩
      · exact ((hS.mono (Nat.le_succ K)).agree (AgO.eq (fun kk hk => wo 0 kk (by omega) (by omega)))).row hlo
      · by_cases hvu : v = u
        · subst hvu
          refine ⟨by rw [w22, if_pos rfl, hfl], Or.inr hfl, fun _ => ?_⟩
          refine RS.row ((hS.mono (Nat.le_succ K)).agree ?_) (r' := shr q (1023 * (v + 1))) (fun j hj => hin j hj)
          rw [show 3 * 0 + 1 + v = 1 + v by omega]
          exact wsl
        · obtain ⟨a1, a2, a3⟩ := hM.2 v hv
          have e9 : q (3069 + v) = recR r x (3069 + v) := hout _ (by omega) (by omega)
          rw [e9, w22, if_neg hvu]
          refine ⟨a1, a2, fun z => ?_⟩
          refine RS.row (((a3 z).mono (Nat.le_succ K)).agree (AgO.eq (fun kk hk => wo _ kk (by omega) (by omega)))) (fun j hj => ?_)
          unfold shr
          have : (u = 0 ∧ v = 1) ∨ (u = 1 ∧ v = 0) := by omega
          rcases this with ⟨rfl, rfl⟩ | ⟨rfl, rfl⟩
          · exact hout _ (by omega) (by omega)
          · exact hout _ (by omega) (by omega)
    · refine C2.of (ls := [some (.inr (0, 50)), some (.inl (nI u))]) okX9_take rfl rfl ?_
      repeat (first | refine e2_step rfl rfl ?_ | refine e2m_get rfl rfl ?_ | refine e2m_ld _ rfl rfl (by omega) ?_)
      refine e2_fs (m_in (nI u) (nI 0) (nI 1)) rfl rfl ⟨rfl, rfl, rfl⟩ rfl rfl rfl ?_
      rw [hp]
      refine e2_if rfl rfl (fun _ => ?_) (fun z => absurd (by decide) z)
      repeat (first | refine e2_step rfl rfl ?_ | refine e2m_get rfl rfl ?_ | refine e2m_ld _ rfl rfl (by omega) ?_)
      refine e2_fv (m_recordsX hd hd5) rfl rfl ⟨rfl, rfl, rfl⟩ rfl rfl rfl (by first | exact hi | decide) rfl rfl rfl ?_
      repeat (first | refine e2_step rfl rfl ?_ | refine e2m_get rfl rfl ?_ | refine e2m_ld _ rfl rfl (by omega) ?_)
      rw [nI_add', pk_mul]
      repeat (first | refine e2_step rfl rfl ?_ | refine e2m_get rfl rfl ?_ | refine e2m_ld _ rfl rfl (by omega) ?_)
      refine e2_fv (m_copies (a := 0) (b := 1023 * (u + 1)) (n := 1023) (by omega) (by omega) (by omega)) rfl rfl ⟨rfl, rfl, rfl⟩ rfl rfl rfl (by first | exact hi | decide) rfl rfl rfl ?_
      repeat (first | refine e2_step rfl rfl ?_ | refine e2m_get rfl rfl ?_ | refine e2m_ld _ rfl rfl (by omega) ?_)
      rw [nI_add']
      repeat (first | refine e2_step rfl rfl ?_ | refine e2m_get rfl rfl ?_ | refine e2m_ld _ rfl rfl (by omega) ?_)
      refine e2m_st (3069 + u) rfl rfl (by omega) ?_
      repeat (first | refine e2_step rfl rfl ?_ | refine e2m_get rfl rfl ?_ | refine e2m_ld _ rfl rfl (by omega) ?_)
      refine e2_iret rfl rfl ⟨?_, _, _, _, rfl, fun _ _ => rfl, rfl, rfl⟩
      unfold upd
      rw [if_neg (by omega), cpyr_out (by omega)]
  · have hp2 := eq_false_of_ne_true hp
    refine OpOk.same (a := -1) h ?_ (fun G1 o => ⟨o, ?_⟩)
    · refine C2.of (ls := [some (.inr (0, 30)), some (.inl p)]) okX8_take rfl rfl ?_
      repeat (first | refine e2_step rfl rfl ?_ | refine e2_get rfl (by first | exact hi | decide) rfl rfl ?_)
      refine e2_fs (c_isSlot p) rfl rfl ⟨rfl, rfl, rfl⟩ rfl rfl rfl ?_
      rw [hp2]
      refine e2_if rfl rfl (fun z => absurd rfl z) (fun _ => ?_)
      repeat (first | refine e2_step rfl rfl ?_ | refine e2_get rfl (by first | exact hi | decide) rfl rfl ?_)
      exact e2_iret rfl rfl ⟨rfl, rfl⟩
    · refine C2.of (ls := [some (.inr (0, 50)), some (.inl p)]) okX9_take rfl rfl ?_
      repeat (first | refine e2_step rfl rfl ?_ | refine e2m_get rfl rfl ?_ | refine e2m_ld _ rfl rfl (by omega) ?_)
      refine e2_fs (m_in p (nI 0) (nI 1)) rfl rfl ⟨rfl, rfl, rfl⟩ rfl rfl rfl ?_
      rw [hp2]
      refine e2_if rfl rfl (fun z => absurd rfl z) (fun _ => ?_)
      repeat (first | refine e2_step rfl rfl ?_ | refine e2m_get rfl rfl ?_ | refine e2m_ld _ rfl rfl (by omega) ?_)
      exact e2_iret rfl rfl ⟨rfl, rfl⟩
theorem op_restore (h : RR G r t x K) (p : Int32) : OpOk ε jX8_restore jX9_restore [.inl p] G r t x K := by
  by_cases hp : isInB p (nI 0) (nI 1) = true
  · obtain ⟨u, hu, rfl⟩ := isIn_nI (by decide) hp
    obtain ⟨d, hd5, hd⟩ := h.d
    obtain ⟨a1, a2, a3⟩ := h.1.2 u (by omega)
    rcases a2 with a2 | a2
    · refine OpOk.same (a := -2) h ?_ (fun G1 o => ⟨o, ?_⟩)
      · refine C2.of (ls := [some (.inr (0, 30)), some (.inl (nI u))]) okX8_restore rfl rfl ?_
        repeat (first | refine e2_step rfl rfl ?_ | refine e2_get rfl (by first | exact hi | decide) rfl rfl ?_)
        refine e2_fs (c_isSlot (nI u)) rfl rfl ⟨rfl, rfl, rfl⟩ rfl rfl rfl ?_
        rw [hp]
        refine e2_if rfl rfl (fun _ => ?_) (fun z => absurd (by decide) z)
        repeat (first | refine e2_step rfl rfl ?_ | refine e2_get rfl (by first | exact hi | decide) rfl rfl ?_)
        refine e2_zald (i := 0) (kk := 22) u rfl rfl (by decide) rfl (by omega) ?_
        rw [a1, a2]
        refine e2_if rfl rfl (fun z => absurd rfl z) (fun _ => ?_)
        repeat (first | refine e2_step rfl rfl ?_ | refine e2_get rfl (by first | exact hi | decide) rfl rfl ?_)
        exact e2_iret rfl rfl ⟨rfl, rfl⟩
      · refine C2.of (ls := [some (.inr (0, 50)), some (.inl (nI u))]) okX9_restore rfl rfl ?_
        repeat (first | refine e2_step rfl rfl ?_ | refine e2m_get rfl rfl ?_ | refine e2m_ld _ rfl rfl (by omega) ?_)
        refine e2_fs (m_in (nI u) (nI 0) (nI 1)) rfl rfl ⟨rfl, rfl, rfl⟩ rfl rfl rfl ?_
        rw [hp]
        refine e2_if rfl rfl (fun _ => ?_) (fun z => absurd (by decide) z)
        repeat (first | refine e2_step rfl rfl ?_ | refine e2m_get rfl rfl ?_ | refine e2m_ld _ rfl rfl (by omega) ?_)
        rw [nI_add']
        repeat (first | refine e2_step rfl rfl ?_ | refine e2m_get rfl rfl ?_ | refine e2m_ld _ rfl rfl (by omega) ?_)
        rw [a2]
        refine e2_if rfl rfl (fun z => absurd rfl z) (fun _ => ?_)
        repeat (first | refine e2_step rfl rfl ?_ | refine e2m_get rfl rfl ?_ | refine e2m_ld _ rfl rfl (by omega) ?_)
        exact e2_iret rfl rfl ⟨rfl, rfl⟩
    · refine ⟨recR r x (1023 * (u + 1) + 952), cpyr (recR r x) (1023 * (u + 1)) 0 1023, t, recX x, ?_, fun G1 o => ?_⟩
      · refine C2.of (ls := [some (.inr (0, 30)), some (.inl (nI u))]) okX8_restore rfl rfl ?_
        repeat (first | refine e2_step rfl rfl ?_ | refine e2_get rfl (by first | exact hi | decide) rfl rfl ?_)
        refine e2_fs (c_isSlot (nI u)) rfl rfl ⟨rfl, rfl, rfl⟩ rfl rfl rfl ?_
        rw [hp]
        refine e2_if rfl rfl (fun _ => ?_) (fun z => absurd (by decide) z)
        repeat (first | refine e2_step rfl rfl ?_ | refine e2_get rfl (by first | exact hi | decide) rfl rfl ?_)
        refine e2_zald (i := 0) (kk := 22) u rfl rfl (by decide) rfl (by omega) ?_
        rw [a1, a2]
        refine e2_if rfl rfl (fun _ => ?_) (fun z => absurd (by decide) z)
        repeat (first | refine e2_step rfl rfl ?_ | refine e2_get rfl (by first | exact hi | decide) rfl rfl ?_)
        refine e2_callVv rfl ⟨rfl, rfl, rfl⟩ rfl rfl rfl rfl (by decide) rfl rfl rfl (q_rem h) (fun G1 z => ?_)
        obtain ⟨-, hQ⟩ := z
        obtain ⟨b1, b2, b3⟩ := hQ.1.1.2 u (by omega)
        have hb : recR r x (3069 + u) = nI 1 := by rw [recR_lo (by omega)]; exact a2
        have hS := b3 hb
        rw [show 3 * 0 + 1 + u = 1 + u by omega] at hS
        repeat (first | refine e2_step rfl rfl ?_ | refine e2_get rfl (by first | exact hi | decide) rfl rfl ?_)
        refine e2_aald21 (i := 0) u rfl rfl (by decide) (by omega) ?_
        rw [show 3 * 0 + 1 + u = 1 + u by omega]
        refine e2_fv (Q_office (i := 0) (i2 := 1 + u) (by decide) (by omega) (by omega) hS.okZ) rfl rfl ⟨rfl, rfl, rfl⟩ rfl rfl rfl (by first | exact hi | decide) rfl rfl rfl ?_
        have hag := cpG_ag G1 0 (1 + u)
        have hlo : ∀ j, j < 1023 → cpyr (recR r x) (1023 * (u + 1)) 0 1023 j = recR r x (1023 * (u + 1) + j) := fun j hj => by
          rw [cpyr_in (by omega) (by omega), Nat.sub_zero]
        have hS2 : RS (cpG G1 0 (1 + u) 0) (cpyr (recR r x) (1023 * (u + 1)) 0 1023) (K + 1) := RS.row ((hS.mono (Nat.le_succ K)).agree hag) hlo
        have hfin := hQ.1.fin (K' := K + 1) (s := G1 0 40 1) (o := G1 0 41) (V := cpO (G1 0) (G1 (1 + u))) (r2 := cpyr (recR r x) (1023 * (u + 1)) 0 1023) (x2 := recX x) (by omega) (fun j hj _ => cpyr_out (by omega)) rfl rfl (hS2.agree (AgO.eq (fun kk hk => (cpG_at G1 0 (1 + u) hk).symm)))
        have e4 : cpG G1 0 (1 + u) 0 0 4 = recR r x (1023 * (u + 1) + 952) := by
          obtain ⟨⟨N', hO1⟩, -⟩ := hS2
          rw [hO1.1.2.2.2.2.2.1.1, hlo 952 (by omega)]
        repeat (first | refine e2_step rfl rfl ?_ | refine e2_get rfl (by first | exact hi | decide) rfl rfl ?_)
        rw [e4]
        exact e2_iret rfl rfl ⟨rfl, hfin.1, hQ.kp.tr hfin.2⟩
      · refine C2.of (ls := [some (.inr (0, 50)), some (.inl (nI u))]) okX9_restore rfl rfl ?_
        repeat (first | refine e2_step rfl rfl ?_ | refine e2m_get rfl rfl ?_ | refine e2m_ld _ rfl rfl (by omega) ?_)
        refine e2_fs (m_in (nI u) (nI 0) (nI 1)) rfl rfl ⟨rfl, rfl, rfl⟩ rfl rfl rfl ?_
        rw [hp]
        refine e2_if rfl rfl (fun _ => ?_) (fun z => absurd (by decide) z)
        repeat (first | refine e2_step rfl rfl ?_ | refine e2m_get rfl rfl ?_ | refine e2m_ld _ rfl rfl (by omega) ?_)
        rw [nI_add']
        repeat (first | refine e2_step rfl rfl ?_ | refine e2m_get rfl rfl ?_ | refine e2m_ld _ rfl rfl (by omega) ?_)
        rw [a2]
        refine e2_if rfl rfl (fun _ => ?_) (fun z => absurd (by decide) z)
        repeat (first | refine e2_step rfl rfl ?_ | refine e2m_get rfl rfl ?_ | refine e2m_ld _ rfl rfl (by omega) ?_)
        refine e2_fv (m_recordsX hd hd5) rfl rfl ⟨rfl, rfl, rfl⟩ rfl rfl rfl (by first | exact hi | decide) rfl rfl rfl ?_
        repeat (first | refine e2_step rfl rfl ?_ | refine e2m_get rfl rfl ?_ | refine e2m_ld _ rfl rfl (by omega) ?_)
        rw [nI_add', pk_mul]
        repeat (first | refine e2_step rfl rfl ?_ | refine e2m_get rfl rfl ?_ | refine e2m_ld _ rfl rfl (by omega) ?_)
        refine e2_fv (m_copies (a := 1023 * (u + 1)) (b := 0) (n := 1023) (by omega) (by omega) (by omega)) rfl rfl ⟨rfl, rfl, rfl⟩ rfl rfl rfl (by first | exact hi | decide) rfl rfl rfl ?_
        repeat (first | refine e2_step rfl rfl ?_ | refine e2m_get rfl rfl ?_ | refine e2m_ld _ rfl rfl (by omega) ?_)
        refine e2_iret rfl rfl ⟨?_, _, _, _, rfl, fun _ _ => rfl, rfl, rfl⟩
        rw [cpyr_in (by omega) (by omega), Nat.sub_zero]
  · have hp2 := eq_false_of_ne_true hp
    refine OpOk.same (a := -1) h ?_ (fun G1 o => ⟨o, ?_⟩)
    · refine C2.of (ls := [some (.inr (0, 30)), some (.inl p)]) okX8_restore rfl rfl ?_
      repeat (first | refine e2_step rfl rfl ?_ | refine e2_get rfl (by first | exact hi | decide) rfl rfl ?_)
      refine e2_fs (c_isSlot p) rfl rfl ⟨rfl, rfl, rfl⟩ rfl rfl rfl ?_
      rw [hp2]
      refine e2_if rfl rfl (fun z => absurd rfl z) (fun _ => ?_)
      repeat (first | refine e2_step rfl rfl ?_ | refine e2_get rfl (by first | exact hi | decide) rfl rfl ?_)
      exact e2_iret rfl rfl ⟨rfl, rfl⟩
    · refine C2.of (ls := [some (.inr (0, 50)), some (.inl p)]) okX9_restore rfl rfl ?_
      repeat (first | refine e2_step rfl rfl ?_ | refine e2m_get rfl rfl ?_ | refine e2m_ld _ rfl rfl (by omega) ?_)
      refine e2_fs (m_in p (nI 0) (nI 1)) rfl rfl ⟨rfl, rfl, rfl⟩ rfl rfl rfl ?_
      rw [hp2]
      refine e2_if rfl rfl (fun z => absurd rfl z) (fun _ => ?_)
      repeat (first | refine e2_step rfl rfl ?_ | refine e2m_get rfl rfl ?_ | refine e2m_ld _ rfl rfl (by omega) ?_)
      exact e2_iret rfl rfl ⟨rfl, rfl⟩
theorem op_undo (h : RR G r t x K) : OpOk ε jX8_undo jX9_undo [] G r t x K := by
  obtain ⟨h1, ⟨d, hm, a, b, c, e, f, g⟩, h3⟩ := id h
  cases d with
  | zero =>
    refine OpOk.same (a := -2) h ?_ (fun G1 o => ⟨o, ?_⟩)
    · refine C2.of (ls := [some (.inr (0, 30))]) okX8_undo rfl rfl ?_
      repeat (first | refine e2_step rfl rfl ?_ | refine e2_get rfl (by first | exact hi | decide) rfl rfl ?_)
      rw [b]
      refine e2_if rfl rfl (fun z => absurd rfl z) (fun _ => ?_)
      repeat (first | refine e2_step rfl rfl ?_ | refine e2_get rfl (by first | exact hi | decide) rfl rfl ?_)
      exact e2_iret rfl rfl ⟨rfl, rfl⟩
    · refine C2.of (ls := [some (.inr (0, 50))]) okX9_undo rfl rfl ?_
      repeat (first | refine e2_step rfl rfl ?_ | refine e2m_get rfl rfl ?_ | refine e2m_ld _ rfl rfl (by omega) ?_)
      rw [c]
      refine e2_if rfl rfl (fun z => absurd rfl z) (fun _ => ?_)
      repeat (first | refine e2_step rfl rfl ?_ | refine e2m_get rfl rfl ?_ | refine e2m_ld _ rfl rfl (by omega) ?_)
      exact e2_iret rfl rfl ⟨rfl, rfl⟩
  | succ d =>
    have hd0 : ¬ nI (d + 1) = 0 := fun z => by have := (nI_eq (a := d + 1) (b := 0) (by omega) (by omega)).1 z; omega
    obtain ⟨e1, e2, e3⟩ := e d (by omega)
    have gd := g d (by omega)
    refine ⟨nI d, cpyr r (3071 * (d + 1)) 0 3071, t, upd x 1 (nI d), ?_, fun G1 o => ?_⟩
    · refine C2.of (ls := [some (.inr (0, 30))]) okX8_undo rfl rfl ?_
      repeat (first | refine e2_step rfl rfl ?_ | refine e2_get rfl (by first | exact hi | decide) rfl rfl ?_)
      rw [b]
      refine e2_if rfl rfl (fun _ => ?_) (fun z => absurd hd0 z)
      repeat (first | refine e2_step rfl rfl ?_ | refine e2_get rfl (by first | exact hi | decide) rfl rfl ?_)
      refine e2_callVv rfl ⟨rfl, rfl, rfl⟩ rfl rfl rfl rfl (by decide) rfl rfl rfl (q_giveBack (j := 0) b (by omega) e3 e2 (by omega) (by omega) gd.okM) (fun G1 z => ?_)
      obtain ⟨-, hc⟩ := z
      have hcc := hc
      obtain ⟨-, -, c3⟩ := hc
      have hw : ∀ i kk, ¬ (i = 0 ∧ kk = 31) → wr G 0 31 1 (nI d) i kk = G i kk := fun i kk q => wr_o q
      have ho : ∀ i kk, ¬ (i < 3 ∧ kk < 18) → ¬ (i = 0 ∧ kk = 22) → ¬ (i = 0 ∧ kk = 31) → G1 i kk = G i kk := fun i kk q1 q2 q3 => by
        rw [c3 i kk (by omega) q2, hw i kk q3]
      have h31 : G1 0 31 1 = nI d := by rw [c3 0 31 (by omega) (by omega), wr_s]
      repeat (first | refine e2_step rfl rfl ?_ | refine e2_get rfl (by first | exact hi | decide) rfl rfl ?_)
      rw [h31]
      refine e2_iret rfl rfl ⟨rfl, ?_, fun i kk q => ho i kk (by omega) (by omega) (by omega)⟩
      have hlo : ∀ j, j < 3071 → cpyr r (3071 * (d + 1)) 0 3071 j = shr r (3071 * (d + 1)) j := fun j hj => by
        rw [cpyr_in (by omega) (by omega), Nat.sub_zero]
        rfl
      have gd2 : RM (wr G 0 31 1 (nI d)) (hm d) (shr r (3071 * (d + 1))) K := gd.same (fun i kk q1 q2 q3 => hw i kk (by omega)) (hw _ 22 (by omega))
      refine ⟨((gd2.cp hcc).row hlo).mono (Nat.le_succ K), ⟨d, hm, by omega, h31, rfl, fun p hp => by rw [ho 0 32 (by omega) (by omega) (by omega)]; exact e p hp, f, fun p hp => ?_⟩, h3.same (by rw [ho 0 33 (by omega) (by omega) (by omega)]) (ho 0 34 (by omega) (by omega) (by omega)) rfl⟩
      have ep := e p (by omega)
      refine (((g p (by omega)).same (fun i kk q1 q2 q3 => ho i kk (by omega) (by omega) (by omega)) (ho _ 22 (by omega) (by omega) (by omega))).row (fun j hj => ?_)).mono (Nat.le_succ K)
      unfold shr
      exact cpyr_out (by omega)
    · refine C2.of (ls := [some (.inr (0, 50))]) okX9_undo rfl rfl ?_
      repeat (first | refine e2_step rfl rfl ?_ | refine e2m_get rfl rfl ?_ | refine e2m_ld _ rfl rfl (by omega) ?_)
      rw [c]
      refine e2_if rfl rfl (fun _ => ?_) (fun z => absurd hd0 z)
      repeat (first | refine e2_step rfl rfl ?_ | refine e2m_get rfl rfl ?_ | refine e2m_ld _ rfl rfl (by omega) ?_)
      rw [c, pk_mul]
      repeat (first | refine e2_step rfl rfl ?_ | refine e2m_get rfl rfl ?_ | refine e2m_ld _ rfl rfl (by omega) ?_)
      refine e2_fv (m_copies (a := 3071 * (d + 1)) (b := 0) (n := 3071) (by omega) (by omega) (by omega)) rfl rfl ⟨rfl, rfl, rfl⟩ rfl rfl rfl (by first | exact hi | decide) rfl rfl rfl ?_
      repeat (first | refine e2_step rfl rfl ?_ | refine e2m_get rfl rfl ?_ | refine e2m_ld _ rfl rfl (by omega) ?_)
      refine e2m_put rfl (by omega) ?_
      rw [show x 1 - nI 1 = nI d by rw [c, pk_sub (by omega), Nat.add_sub_cancel]]
      repeat (first | refine e2_step rfl rfl ?_ | refine e2m_get rfl rfl ?_ | refine e2m_ld _ rfl rfl (by omega) ?_)
      exact e2_iret rfl rfl ⟨rfl, _, _, _, rfl, fun _ _ => rfl, rfl, rfl⟩
end OL
