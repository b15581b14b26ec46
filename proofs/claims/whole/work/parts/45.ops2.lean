/-! Calls: carrier, stretch. -/
section OC
variable {ε : EE} {J J1 J2 : JT} {pc : Nat} {ls : List (Option V0)} {st : List V0} {As : List V0} {G G' : GG} {r r' t x o : Nat → Int32} {K K' : Nat} {Q : Option Int32 → GG → Prop}
theorem op_carrier (h : RR G r t x K) (c q : Int32) : OpOk ε jX8_carrier jX9_carrier [.inl c, .inl q] G r t x K := by
  by_cases hb : isInB c (nI 0) (nI 5) = true
  · obtain ⟨u, hu, rfl⟩ := isIn_nI (by decide) hb
    obtain ⟨N, hO⟩ := h.ro
    have hN2 : N ≤ 120 := hO.1.1
    have hc : G 0 3 8 = nI N := hO.1.2.1
    have hN : r 100 = nI N := hO.1.2.2.1
    obtain ⟨k1, k2, k3, k4, k5⟩ := hO.1.2.2.2.2.2.2.2.1 u (by omega)
    have hcl : ∀ Q, E2 ε jX8_carrier 20 [some (.inr (0, 30)), some (.inl (nI u)), some (.inl q), some (.inr (0, 12))] [] G Q → E2 ε jX8_carrier 0 [some (.inr (0, 30)), some (.inl (nI u)), some (.inl q), none] [] G Q := by
      intro Q k
      repeat (first | refine e2_step rfl rfl ?_ | refine e2_get rfl (by first | exact hi | decide) rfl rfl ?_)
      refine e2_fs (c_isCarrier (nI u)) rfl rfl ⟨rfl, rfl, rfl⟩ rfl rfl rfl ?_
      rw [hb]
      refine e2_if rfl rfl (fun _ => ?_) (fun z => absurd (by decide) z)
      repeat (first | refine e2_stepS 20 rfl rfl rfl ?_ | refine e2_getS 20 rfl rfl (by decide) rfl rfl ?_)
      exact k
    have hml : ∀ (G1 : GG) (o : Nat → Int32) Q, E2 ε jX9_carrier 9 [some (.inr (0, 50)), some (.inl (nI u)), some (.inl q)] [] (mG G1 r t o x) Q → E2 ε jX9_carrier 0 [some (.inr (0, 50)), some (.inl (nI u)), some (.inl q)] [] (mG G1 r t o x) Q := by
      intro G1 o Q k
      repeat (first | refine e2_step rfl rfl ?_ | refine e2m_get rfl rfl ?_ | refine e2m_ld _ rfl rfl (by omega) ?_)
      refine e2_fs (m_isCarrier (nI u)) rfl rfl ⟨rfl, rfl, rfl⟩ rfl rfl rfl ?_
      rw [hb]
      refine e2_if rfl rfl (fun _ => ?_) (fun z => absurd (by decide) z)
      exact k
    by_cases hq : isInB q (nI 0) (nI 3) = true
    · obtain ⟨k, hk, rfl⟩ := isIn_nI (by decide) hq
      rcases (show k = 0 ∨ k = 1 ∨ k = 2 ∨ k = 3 by omega) with rfl | rfl | rfl | rfl
      · refine OpOk.same (a := walkByr r (nI u)) h ?_ (fun G1 o => ⟨o, ?_⟩)
        · refine C2.of (ls := [some (.inr (0, 30)), some (.inl (nI u)), some (.inl (nI 0)), none]) okX8_carrier rfl rfl ?_
          refine hcl _ ?_
          refine e2_step rfl rfl ?_
          refine e2_tabIn 0 dX8_carrier_21 (by decide) (by decide) rfl (tgt := 52) (by decide) ?_
          repeat (first | refine e2_step rfl rfl ?_ | refine e2_get rfl (by first | exact hi | decide) rfl rfl ?_)
          refine e2_iald (i := 0) (kk := 13) u rfl rfl (by decide) rfl (by omega) ?_
          exact e2_iret rfl rfl ⟨by rw [hO.1.wby (by omega)], rfl⟩
        · refine C2.of (ls := [some (.inr (0, 50)), some (.inl (nI u)), some (.inl (nI 0))]) okX9_carrier rfl rfl ?_
          refine hml _ _ _ ?_
          refine e2_step rfl rfl ?_
          refine e2_tabIn 0 dX9_carrier_10 (by decide) (by decide) rfl (tgt := 40) (by decide) ?_
          repeat (first | refine e2_step rfl rfl ?_ | refine e2m_get rfl rfl ?_ | refine e2m_ld _ rfl rfl (by omega) ?_)
          refine e2_fi (m_walkBy (nI u)) rfl rfl ⟨rfl, rfl, rfl⟩ rfl rfl rfl (by first | exact hi | decide) rfl rfl rfl ?_
          exact e2_iret rfl rfl ⟨rfl, rfl⟩
      · refine OpOk.same (a := r (1011 + u)) h ?_ (fun G1 o => ⟨o, ?_⟩)
        · refine C2.of (ls := [some (.inr (0, 30)), some (.inl (nI u)), some (.inl (nI 1)), none]) okX8_carrier rfl rfl ?_
          refine hcl _ ?_
          refine e2_step rfl rfl ?_
          refine e2_tabIn 1 dX8_carrier_21 (by decide) (by decide) rfl (tgt := 59) (by decide) ?_
          repeat (first | refine e2_step rfl rfl ?_ | refine e2_get rfl (by first | exact hi | decide) rfl rfl ?_)
          refine e2_zald (i := 0) (kk := 14) u rfl rfl (by decide) rfl (by omega) ?_
          rw [k1]
          rcases k2 with k2 | k2
          · rw [k2]
            refine e2_if rfl rfl (fun _ => ?_) (fun z => absurd rfl z)
            repeat (first | refine e2_step rfl rfl ?_ | refine e2_get rfl (by first | exact hi | decide) rfl rfl ?_)
            exact e2_iret rfl rfl ⟨rfl, rfl⟩
          · rw [k2]
            refine e2_if rfl rfl (fun z => absurd z (by decide)) (fun _ => ?_)
            repeat (first | refine e2_step rfl rfl ?_ | refine e2_get rfl (by first | exact hi | decide) rfl rfl ?_)
            exact e2_iret rfl rfl ⟨rfl, rfl⟩
        · refine C2.of (ls := [some (.inr (0, 50)), some (.inl (nI u)), some (.inl (nI 1))]) okX9_carrier rfl rfl ?_
          refine hml _ _ _ ?_
          refine e2_step rfl rfl ?_
          refine e2_tabIn 1 dX9_carrier_10 (by decide) (by decide) rfl (tgt := 46) (by decide) ?_
          repeat (first | refine e2_step rfl rfl ?_ | refine e2m_get rfl rfl ?_ | refine e2m_ld _ rfl rfl (by omega) ?_)
          rw [nI_add']
          repeat (first | refine e2_step rfl rfl ?_ | refine e2m_get rfl rfl ?_ | refine e2m_ld _ rfl rfl (by omega) ?_)
          exact e2_iret rfl rfl ⟨rfl, rfl⟩
      · refine OpOk.same (a := nI (cntB (atr r (nI 3) (nI u)) N)) h ?_ (fun G1 o => ⟨o, ?_⟩)
        · refine C2.of (ls := [some (.inr (0, 30)), some (.inl (nI u)), some (.inl (nI 2)), none]) okX8_carrier rfl rfl ?_
          refine hcl _ ?_
          refine e2_step rfl rfl ?_
          refine e2_tabIn 2 dX8_carrier_21 (by decide) (by decide) rfl (tgt := 74) (by decide) ?_
          repeat (first | refine e2_step rfl rfl ?_ | refine e2_get rfl (by first | exact hi | decide) rfl rfl ?_)
          refine e2_fi (fc_same (i := 0) (v_countInHand (by decide) hN2 hc (nI u))) rfl rfl ⟨rfl, rfl, rfl⟩ rfl rfl rfl (by first | exact hi | decide) rfl rfl rfl ?_
          refine e2_iret rfl rfl ⟨?_, rfl⟩
          rw [cntB_congr N (fun l hl => hO.at (p := 3) hl (Or.inr rfl) (nI u))]
        · refine C2.of (ls := [some (.inr (0, 50)), some (.inl (nI u)), some (.inl (nI 2))]) okX9_carrier rfl rfl ?_
          refine hml _ _ _ ?_
          refine e2_step rfl rfl ?_
          refine e2_tabIn 2 dX9_carrier_10 (by decide) (by decide) rfl (tgt := 57) (by decide) ?_
          repeat (first | refine e2_step rfl rfl ?_ | refine e2m_get rfl rfl ?_ | refine e2m_ld _ rfl rfl (by omega) ?_)
          refine e2_fi (m_countAt hN hN2 (nI 3) (nI u)) rfl rfl ⟨rfl, rfl, rfl⟩ rfl rfl rfl (by first | exact hi | decide) rfl rfl rfl ?_
          exact e2_iret rfl rfl ⟨rfl, rfl⟩
      · refine OpOk.same (a := r (1017 + u)) h ?_ (fun G1 o => ⟨o, ?_⟩)
        · refine C2.of (ls := [some (.inr (0, 30)), some (.inl (nI u)), some (.inl (nI 3)), none]) okX8_carrier rfl rfl ?_
          refine hcl _ ?_
          refine e2_step rfl rfl ?_
          refine e2_tabIn 3 dX8_carrier_21 (by decide) (by decide) rfl (tgt := 89) (by decide) ?_
          repeat (first | refine e2_step rfl rfl ?_ | refine e2_get rfl (by first | exact hi | decide) rfl rfl ?_)
          refine e2_iald (i := 0) (kk := 15) u rfl rfl (by decide) rfl (by omega) ?_
          exact e2_iret rfl rfl ⟨by rw [k3], rfl⟩
        · refine C2.of (ls := [some (.inr (0, 50)), some (.inl (nI u)), some (.inl (nI 3))]) okX9_carrier rfl rfl ?_
          refine hml _ _ _ ?_
          refine e2_step rfl rfl ?_
          refine e2_tabIn 3 dX9_carrier_10 (by decide) (by decide) rfl (tgt := 64) (by decide) ?_
          repeat (first | refine e2_step rfl rfl ?_ | refine e2m_get rfl rfl ?_ | refine e2m_ld _ rfl rfl (by omega) ?_)
          rw [nI_add']
          repeat (first | refine e2_step rfl rfl ?_ | refine e2m_get rfl rfl ?_ | refine e2m_ld _ rfl rfl (by omega) ?_)
          exact e2_iret rfl rfl ⟨rfl, rfl⟩
    · have ho := isIn_out (by decide) (by decide) hq
      refine OpOk.same (a := -1) h ?_ (fun G1 o => ⟨o, ?_⟩)
      · refine C2.of (ls := [some (.inr (0, 30)), some (.inl (nI u)), some (.inl q), none]) okX8_carrier rfl rfl ?_
        refine hcl _ ?_
        refine e2_step rfl rfl ?_
        refine e2_tabOut dX8_carrier_21 ho (tgt := 96) (by decide) ?_
        repeat (first | refine e2_step rfl rfl ?_ | refine e2_get rfl (by first | exact hi | decide) rfl rfl ?_)
        exact e2_iret rfl rfl ⟨rfl, rfl⟩
      · refine C2.of (ls := [some (.inr (0, 50)), some (.inl (nI u)), some (.inl q)]) okX9_carrier rfl rfl ?_
        refine hml _ _ _ ?_
        refine e2_step rfl rfl ?_
        refine e2_tabOut dX9_carrier_10 ho (tgt := 75) (by decide) ?_
        repeat (first | refine e2_step rfl rfl ?_ | refine e2m_get rfl rfl ?_ | refine e2m_ld _ rfl rfl (by omega) ?_)
        exact e2_iret rfl rfl ⟨rfl, rfl⟩
  · have hb2 := eq_false_of_ne_true hb
    refine OpOk.same (a := -1) h ?_ (fun G1 o => ⟨o, ?_⟩)
    · refine C2.of (ls := [some (.inr (0, 30)), some (.inl c), some (.inl q), none]) okX8_carrier rfl rfl ?_
      repeat (first | refine e2_step rfl rfl ?_ | refine e2_get rfl (by first | exact hi | decide) rfl rfl ?_)
      refine e2_fs (c_isCarrier c) rfl rfl ⟨rfl, rfl, rfl⟩ rfl rfl rfl ?_
      rw [hb2]
      refine e2_if rfl rfl (fun z => absurd rfl z) (fun _ => ?_)
      repeat (first | refine e2_step rfl rfl ?_ | refine e2_get rfl (by first | exact hi | decide) rfl rfl ?_)
      exact e2_iret rfl rfl ⟨rfl, rfl⟩
    · refine C2.of (ls := [some (.inr (0, 50)), some (.inl c), some (.inl q)]) okX9_carrier rfl rfl ?_
      repeat (first | refine e2_step rfl rfl ?_ | refine e2m_get rfl rfl ?_ | refine e2m_ld _ rfl rfl (by omega) ?_)
      refine e2_fs (m_isCarrier c) rfl rfl ⟨rfl, rfl, rfl⟩ rfl rfl rfl ?_
      rw [hb2]
      refine e2_if rfl rfl (fun z => absurd rfl z) (fun _ => ?_)
      repeat (first | refine e2_step rfl rfl ?_ | refine e2m_get rfl rfl ?_ | refine e2m_ld _ rfl rfl (by omega) ?_)
      exact e2_iret rfl rfl ⟨rfl, rfl⟩
theorem fstC_congr {f g : Nat → Int32} {w : Int32} : ∀ n, (∀ j, j < n → f j = g j) → fstC f w n = fstC g w n
  | 0, _ => rfl
  | n + 1, h => by
    unfold fstC
    rw [fstC_congr n (fun j hj => h j (by omega)), h n (by omega)]
theorem lstC_congr {f g : Nat → Int32} {w : Int32} : ∀ k c, (∀ j, j ≤ c + k → f j = g j) → lstC f w k c = lstC g w k c
  | 0, c, _ => rfl
  | k + 1, c, h => by
    unfold lstC
    rw [lstC_congr k (c + 1) (fun j hj => h j (by omega)), h (c + 1) (by omega)]
theorem fstC_le {f : Nat → Int32} {w : Int32} : ∀ n, fstC f w n ≤ n
  | 0 => Nat.le_refl _
  | n + 1 => by
    unfold fstC
    split
    · have := fstC_le (f := f) (w := w) n
      omega
    · exact Nat.le_refl _
theorem m_stretch1 {a : Nat} (ha : a < 100) : FM ε jX9_stretch [.inl (nI a), .inl (nI 1)] G r t o x (some (nI (fstC r (r a) a))) r t o x := by
  refine C2.of (ls := [some (.inr (0, 50)), some (.inl (nI a)), some (.inl (nI 1)), none, none]) okX9_stretch rfl rfl ?_
  repeat (first | refine e2_step rfl rfl ?_ | refine e2m_get rfl rfl ?_ | refine e2m_ld _ rfl rfl (by omega) ?_)
  refine e2_fs (m_in (nI a) (nI 0) (nI 99)) rfl rfl ⟨rfl, rfl, rfl⟩ rfl rfl rfl ?_
  rw [isIn_nI' (by omega) (by decide)]
  refine e2_if rfl rfl (fun z => absurd z (by decide)) (fun _ => ?_)
  repeat (first | refine e2_step rfl rfl ?_ | refine e2m_get rfl rfl ?_ | refine e2m_ld _ rfl rfl (by omega) ?_)
  refine e2_fs (m_in (nI 1) (nI 0) (nI 2)) rfl rfl ⟨rfl, rfl, rfl⟩ rfl rfl rfl ?_
  rw [isIn_nI' (by omega) (by decide)]
  refine e2_if rfl rfl (fun _ => ?_) (fun z => absurd (by decide) z)
  repeat (first | refine e2_step rfl rfl ?_ | refine e2m_get rfl rfl ?_ | refine e2m_ld _ rfl rfl (by omega) ?_)
  refine e2_if rfl rfl (fun z => absurd rfl z) (fun _ => ?_)
  repeat (first | refine e2_stepS 35 rfl rfl rfl ?_ | refine e2m_getS 35 rfl rfl rfl ?_ | refine e2m_ldS 35 rfl _ rfl rfl (by omega) ?_)
  have he : ∀ n, E2 ε jX9_stretch 79 [some (.inr (0, 50)), some (.inl (nI a)), some (.inl (nI 1)), some (.inl (-1)), some (.inl (nI n))] [] (mG G r t o x) (fun v' G' => v' = some (nI n) ∧ G' = mG G r t o x) := by
    intro n
    repeat (first | refine e2_step rfl rfl ?_ | refine e2m_get rfl rfl ?_ | refine e2m_ld _ rfl rfl (by omega) ?_)
    refine e2_if rfl rfl (fun _ => ?_) (fun z => absurd (by decide) z)
    repeat (first | refine e2_step rfl rfl ?_ | refine e2m_get rfl rfl ?_ | refine e2m_ld _ rfl rfl (by omega) ?_)
    exact e2_iret rfl rfl ⟨rfl, rfl⟩
  have hl : ∀ n, n ≤ a → E2 ε jX9_stretch 35 [some (.inr (0, 50)), some (.inl (nI a)), some (.inl (nI 1)), some (.inl (-1)), some (.inl (nI n))] [] (mG G r t o x) (fun v' G' => v' = some (nI (fstC r (r a) n)) ∧ G' = mG G r t o x) := by
    intro n
    induction n with
    | zero =>
      intro _
      repeat (first | refine e2_step rfl rfl ?_ | refine e2m_get rfl rfl ?_ | refine e2m_ld _ rfl rfl (by omega) ?_)
      refine e2_if rfl rfl (fun z => absurd z (by decide)) (fun _ => ?_)
      repeat (first | refine e2_step rfl rfl ?_ | refine e2m_get rfl rfl ?_ | refine e2m_ld _ rfl rfl (by omega) ?_)
      refine e2_fs (m_in (nI 0 + -1) (nI 0) (nI 99)) rfl rfl ⟨rfl, rfl, rfl⟩ rfl rfl rfl ?_
      rw [show isInB (nI 0 + -1) (nI 0) (nI 99) = false by decide]
      refine e2_if rfl rfl (fun _ => ?_) (fun z => absurd rfl z)
      exact he 0
    | succ n ih =>
      intro hn
      repeat (first | refine e2_step rfl rfl ?_ | refine e2m_get rfl rfl ?_ | refine e2m_ld _ rfl rfl (by omega) ?_)
      refine e2_if rfl rfl (fun z => absurd z (by decide)) (fun _ => ?_)
      repeat (first | refine e2_step rfl rfl ?_ | refine e2m_get rfl rfl ?_ | refine e2m_ld _ rfl rfl (by omega) ?_)
      rw [nI_dec]
      refine e2_fs (m_in (nI n) (nI 0) (nI 99)) rfl rfl ⟨rfl, rfl, rfl⟩ rfl rfl rfl ?_
      rw [isIn_nI' (by omega) (by decide)]
      refine e2_if rfl rfl (fun z => absurd z (by decide)) (fun _ => ?_)
      repeat (first | refine e2_step rfl rfl ?_ | refine e2m_get rfl rfl ?_ | refine e2m_ld _ rfl rfl (by omega) ?_)
      refine e2m_ld n rfl (nI_dec n) (by omega) ?_
      repeat (first | refine e2_step rfl rfl ?_ | refine e2m_get rfl rfl ?_ | refine e2m_ld _ rfl rfl (by omega) ?_)
      have hs : fstC r (r a) (n + 1) = if r n = r a then fstC r (r a) n else n + 1 := rfl
      refine e2_if rfl rfl (fun z => ?_) (fun z => ?_)
      · rw [hs, if_neg z]
        exact he (n + 1)
      · rw [hs, if_pos (Classical.not_not.1 z)]
        repeat (first | refine e2_stepS 35 rfl rfl rfl ?_ | refine e2m_getS 35 rfl rfl rfl ?_ | refine e2m_ldS 35 rfl _ rfl rfl (by omega) ?_)
        rw [nI_dec]
        exact ih (by omega)
  exact hl a (Nat.le_refl _)
theorem m_stretch2 {a : Nat} (ha : a < 100) : FM ε jX9_stretch [.inl (nI a), .inl (nI 2)] G r t o x (some (nI (lstC r (r a) (99 - a) a))) r t o x := by
  refine C2.of (ls := [some (.inr (0, 50)), some (.inl (nI a)), some (.inl (nI 2)), none, none]) okX9_stretch rfl rfl ?_
  repeat (first | refine e2_step rfl rfl ?_ | refine e2m_get rfl rfl ?_ | refine e2m_ld _ rfl rfl (by omega) ?_)
  refine e2_fs (m_in (nI a) (nI 0) (nI 99)) rfl rfl ⟨rfl, rfl, rfl⟩ rfl rfl rfl ?_
  rw [isIn_nI' (by omega) (by decide)]
  refine e2_if rfl rfl (fun z => absurd z (by decide)) (fun _ => ?_)
  repeat (first | refine e2_step rfl rfl ?_ | refine e2m_get rfl rfl ?_ | refine e2m_ld _ rfl rfl (by omega) ?_)
  refine e2_fs (m_in (nI 2) (nI 0) (nI 2)) rfl rfl ⟨rfl, rfl, rfl⟩ rfl rfl rfl ?_
  rw [isIn_nI' (by omega) (by decide)]
  refine e2_if rfl rfl (fun _ => ?_) (fun z => absurd (by decide) z)
  repeat (first | refine e2_step rfl rfl ?_ | refine e2m_get rfl rfl ?_ | refine e2m_ld _ rfl rfl (by omega) ?_)
  refine e2_if rfl rfl (fun _ => ?_) (fun z => absurd (by decide) z)
  repeat (first | refine e2_stepS 35 rfl rfl rfl ?_ | refine e2m_getS 35 rfl rfl rfl ?_ | refine e2m_ldS 35 rfl _ rfl rfl (by omega) ?_)
  have he : ∀ n, E2 ε jX9_stretch 79 [some (.inr (0, 50)), some (.inl (nI a)), some (.inl (nI 2)), some (.inl (nI 1)), some (.inl (nI n))] [] (mG G r t o x) (fun v' G' => v' = some (nI n) ∧ G' = mG G r t o x) := by
    intro n
    repeat (first | refine e2_step rfl rfl ?_ | refine e2m_get rfl rfl ?_ | refine e2m_ld _ rfl rfl (by omega) ?_)
    refine e2_if rfl rfl (fun _ => ?_) (fun z => absurd (by decide) z)
    repeat (first | refine e2_step rfl rfl ?_ | refine e2m_get rfl rfl ?_ | refine e2m_ld _ rfl rfl (by omega) ?_)
    exact e2_iret rfl rfl ⟨rfl, rfl⟩
  have hl : ∀ k n, n + k = 99 → E2 ε jX9_stretch 35 [some (.inr (0, 50)), some (.inl (nI a)), some (.inl (nI 2)), some (.inl (nI 1)), some (.inl (nI n))] [] (mG G r t o x) (fun v' G' => v' = some (nI (lstC r (r a) k n)) ∧ G' = mG G r t o x) := by
    intro k
    induction k with
    | zero =>
      intro n hn
      have : n = 99 := by omega
      subst this
      repeat (first | refine e2_step rfl rfl ?_ | refine e2m_get rfl rfl ?_ | refine e2m_ld _ rfl rfl (by omega) ?_)
      refine e2_if rfl rfl (fun z => absurd z (by decide)) (fun _ => ?_)
      repeat (first | refine e2_step rfl rfl ?_ | refine e2m_get rfl rfl ?_ | refine e2m_ld _ rfl rfl (by omega) ?_)
      refine e2_fs (m_in (nI 99 + nI 1) (nI 0) (nI 99)) rfl rfl ⟨rfl, rfl, rfl⟩ rfl rfl rfl ?_
      rw [show isInB (nI 99 + nI 1) (nI 0) (nI 99) = false by decide]
      refine e2_if rfl rfl (fun _ => ?_) (fun z => absurd rfl z)
      exact he 99
    | succ k ih =>
      intro n hn
      repeat (first | refine e2_step rfl rfl ?_ | refine e2m_get rfl rfl ?_ | refine e2m_ld _ rfl rfl (by omega) ?_)
      refine e2_if rfl rfl (fun z => absurd z (by decide)) (fun _ => ?_)
      repeat (first | refine e2_step rfl rfl ?_ | refine e2m_get rfl rfl ?_ | refine e2m_ld _ rfl rfl (by omega) ?_)
      rw [nI_add']
      refine e2_fs (m_in (nI (n + 1)) (nI 0) (nI 99)) rfl rfl ⟨rfl, rfl, rfl⟩ rfl rfl rfl ?_
      rw [isIn_nI' (by omega) (by decide)]
      refine e2_if rfl rfl (fun z => absurd z (by decide)) (fun _ => ?_)
      repeat (first | refine e2_step rfl rfl ?_ | refine e2m_get rfl rfl ?_ | refine e2m_ld _ rfl rfl (by omega) ?_)
      refine e2m_ld (n + 1) rfl (nI_add' n 1) (by omega) ?_
      repeat (first | refine e2_step rfl rfl ?_ | refine e2m_get rfl rfl ?_ | refine e2m_ld _ rfl rfl (by omega) ?_)
      have hs : lstC r (r a) (k + 1) n = if r (n + 1) = r a then lstC r (r a) k (n + 1) else n := rfl
      refine e2_if rfl rfl (fun z => ?_) (fun z => ?_)
      · rw [hs, if_neg z]
        exact he n
      · rw [hs, if_pos (Classical.not_not.1 z)]
        repeat (first | refine e2_stepS 35 rfl rfl rfl ?_ | refine e2m_getS 35 rfl rfl rfl ?_ | refine e2m_ldS 35 rfl _ rfl rfl (by omega) ?_)
        rw [nI_add']
        exact ih (n + 1) (by omega)
  exact hl (99 - a) a (by omega)
theorem m_stretch0 {a : Nat} (ha : a < 100) : FM ε jX9_stretch [.inl (nI a), .inl (nI 0)] G r t o x (some (r a)) r t o x := by
  refine C2.of (ls := [some (.inr (0, 50)), some (.inl (nI a)), some (.inl (nI 0)), none, none]) okX9_stretch rfl rfl ?_
  repeat (first | refine e2_step rfl rfl ?_ | refine e2m_get rfl rfl ?_ | refine e2m_ld _ rfl rfl (by omega) ?_)
  refine e2_fs (m_in (nI a) (nI 0) (nI 99)) rfl rfl ⟨rfl, rfl, rfl⟩ rfl rfl rfl ?_
  rw [isIn_nI' (by omega) (by decide)]
  refine e2_if rfl rfl (fun z => absurd z (by decide)) (fun _ => ?_)
  repeat (first | refine e2_step rfl rfl ?_ | refine e2m_get rfl rfl ?_ | refine e2m_ld _ rfl rfl (by omega) ?_)
  refine e2_fs (m_in (nI 0) (nI 0) (nI 2)) rfl rfl ⟨rfl, rfl, rfl⟩ rfl rfl rfl ?_
  rw [isIn_nI' (by omega) (by decide)]
  refine e2_if rfl rfl (fun _ => ?_) (fun z => absurd (by decide) z)
  repeat (first | refine e2_step rfl rfl ?_ | refine e2m_get rfl rfl ?_ | refine e2m_ld _ rfl rfl (by omega) ?_)
  refine e2_if rfl rfl (fun _ => ?_) (fun z => absurd (by decide) z)
  repeat (first | refine e2_step rfl rfl ?_ | refine e2m_get rfl rfl ?_ | refine e2m_ld _ rfl rfl (by omega) ?_)
  refine e2_if rfl rfl (fun _ => ?_) (fun z => absurd (by decide) z)
  repeat (first | refine e2_step rfl rfl ?_ | refine e2m_get rfl rfl ?_ | refine e2m_ld _ rfl rfl (by omega) ?_)
  refine e2_if rfl rfl (fun z => absurd (by decide) z) (fun _ => ?_)
  repeat (first | refine e2_step rfl rfl ?_ | refine e2m_get rfl rfl ?_ | refine e2m_ld _ rfl rfl (by omega) ?_)
  exact e2_iret rfl rfl ⟨rfl, rfl⟩
theorem op_stretch (h : RR G r t x K) (c q : Int32) : OpOk ε jX8_stretch jX9_stretch [.inl c, .inl q] G r t x K := by
  by_cases hb : isInB c (nI 0) (nI 99) = true
  · obtain ⟨u, hu, rfl⟩ := isIn_nI (by decide) hb
    obtain ⟨N, hO⟩ := h.ro
    have h2 : ∀ c, c < 100 → G 0 2 c = r c := fun c hc => (hO.1.2.2.2.1 c hc).1
    have hcl : ∀ Q, E2 ε jX8_stretch 12 [some (.inr (0, 30)), some (.inl (nI u)), some (.inl q)] [] G Q → E2 ε jX8_stretch 0 [some (.inr (0, 30)), some (.inl (nI u)), some (.inl q)] [] G Q := by
      intro Q k
      repeat (first | refine e2_step rfl rfl ?_ | refine e2_get rfl (by first | exact hi | decide) rfl rfl ?_)
      refine e2_fs (c_isIn (nI u) (nI 0) (nI 99)) rfl rfl ⟨rfl, rfl, rfl⟩ rfl rfl rfl ?_
      rw [hb]
      refine e2_if rfl rfl (fun _ => ?_) (fun z => absurd (by decide) z)
      exact k
    by_cases hq : isInB q (nI 0) (nI 2) = true
    · obtain ⟨k, hk, rfl⟩ := isIn_nI (by decide) hq
      rcases (show k = 0 ∨ k = 1 ∨ k = 2 by omega) with rfl | rfl | rfl
      · refine OpOk.same (a := r u) h ?_ (fun G1 o => ⟨o, m_stretch0 (by omega)⟩)
        refine C2.of (ls := [some (.inr (0, 30)), some (.inl (nI u)), some (.inl (nI 0))]) okX8_stretch rfl rfl ?_
        refine hcl _ ?_
        refine e2_step rfl rfl ?_
        refine e2_tabIn 0 dX8_stretch_13 (by decide) (by decide) rfl (tgt := 40) (by decide) ?_
        repeat (first | refine e2_step rfl rfl ?_ | refine e2_get rfl (by first | exact hi | decide) rfl rfl ?_)
        refine e2_fi (fc_same (i := 0) (g_walkOf (c := u) (by decide) (by omega))) rfl rfl ⟨rfl, rfl, rfl⟩ rfl rfl rfl (by first | exact hi | decide) rfl rfl rfl ?_
        exact e2_iret rfl rfl ⟨by rw [h2 u (by omega)], rfl⟩
      · refine OpOk.same (a := nI (fstC r (r u) u)) h ?_ (fun G1 o => ⟨o, m_stretch1 (by omega)⟩)
        refine C2.of (ls := [some (.inr (0, 30)), some (.inl (nI u)), some (.inl (nI 1))]) okX8_stretch rfl rfl ?_
        refine hcl _ ?_
        refine e2_step rfl rfl ?_
        refine e2_tabIn 1 dX8_stretch_13 (by decide) (by decide) rfl (tgt := 55) (by decide) ?_
        repeat (first | refine e2_step rfl rfl ?_ | refine e2_get rfl (by first | exact hi | decide) rfl rfl ?_)
        refine e2_fi (fc_same (i := 0) (g_firstCode (a := u) (by decide) (by omega))) rfl rfl ⟨rfl, rfl, rfl⟩ rfl rfl rfl (by first | exact hi | decide) rfl rfl rfl ?_
        refine e2_iret rfl rfl ⟨?_, rfl⟩
        rw [h2 u (by omega), fstC_congr u (fun j hj => h2 j (by omega))]
      · refine OpOk.same (a := nI (lstC r (r u) (99 - u) u)) h ?_ (fun G1 o => ⟨o, m_stretch2 (by omega)⟩)
        refine C2.of (ls := [some (.inr (0, 30)), some (.inl (nI u)), some (.inl (nI 2))]) okX8_stretch rfl rfl ?_
        refine hcl _ ?_
        refine e2_step rfl rfl ?_
        refine e2_tabIn 2 dX8_stretch_13 (by decide) (by decide) rfl (tgt := 70) (by decide) ?_
        repeat (first | refine e2_step rfl rfl ?_ | refine e2_get rfl (by first | exact hi | decide) rfl rfl ?_)
        refine e2_fi (fc_same (i := 0) (g_lastCode (a := u) (by decide) (by omega))) rfl rfl ⟨rfl, rfl, rfl⟩ rfl rfl rfl (by first | exact hi | decide) rfl rfl rfl ?_
        refine e2_iret rfl rfl ⟨?_, rfl⟩
        rw [h2 u (by omega), lstC_congr (99 - u) u (fun j hj => h2 j (by omega))]
    · have ho := isIn_out (by decide) (by decide) hq
      have hq2 := eq_false_of_ne_true hq
      refine OpOk.same (a := -1) h ?_ (fun G1 o => ⟨o, ?_⟩)
      · refine C2.of (ls := [some (.inr (0, 30)), some (.inl (nI u)), some (.inl q)]) okX8_stretch rfl rfl ?_
        refine hcl _ ?_
        refine e2_step rfl rfl ?_
        refine e2_tabOut dX8_stretch_13 ho (tgt := 85) (by decide) ?_
        repeat (first | refine e2_step rfl rfl ?_ | refine e2_get rfl (by first | exact hi | decide) rfl rfl ?_)
        exact e2_iret rfl rfl ⟨rfl, rfl⟩
      · refine C2.of (ls := [some (.inr (0, 50)), some (.inl (nI u)), some (.inl q), none, none]) okX9_stretch rfl rfl ?_
        repeat (first | refine e2_step rfl rfl ?_ | refine e2m_get rfl rfl ?_ | refine e2m_ld _ rfl rfl (by omega) ?_)
        refine e2_fs (m_in (nI u) (nI 0) (nI 99)) rfl rfl ⟨rfl, rfl, rfl⟩ rfl rfl rfl ?_
        rw [hb]
        refine e2_if rfl rfl (fun z => absurd z (by decide)) (fun _ => ?_)
        repeat (first | refine e2_step rfl rfl ?_ | refine e2m_get rfl rfl ?_ | refine e2m_ld _ rfl rfl (by omega) ?_)
        refine e2_fs (m_in q (nI 0) (nI 2)) rfl rfl ⟨rfl, rfl, rfl⟩ rfl rfl rfl ?_
        rw [hq2]
        refine e2_if rfl rfl (fun z => absurd rfl z) (fun _ => ?_)
        repeat (first | refine e2_step rfl rfl ?_ | refine e2m_get rfl rfl ?_ | refine e2m_ld _ rfl rfl (by omega) ?_)
        exact e2_iret rfl rfl ⟨rfl, rfl⟩
  · have hb2 := eq_false_of_ne_true hb
    refine OpOk.same (a := -1) h ?_ (fun G1 o => ⟨o, ?_⟩)
    · refine C2.of (ls := [some (.inr (0, 30)), some (.inl c), some (.inl q)]) okX8_stretch rfl rfl ?_
      repeat (first | refine e2_step rfl rfl ?_ | refine e2_get rfl (by first | exact hi | decide) rfl rfl ?_)
      refine e2_fs (c_isIn c (nI 0) (nI 99)) rfl rfl ⟨rfl, rfl, rfl⟩ rfl rfl rfl ?_
      rw [hb2]
      refine e2_if rfl rfl (fun z => absurd rfl z) (fun _ => ?_)
      repeat (first | refine e2_step rfl rfl ?_ | refine e2_get rfl (by first | exact hi | decide) rfl rfl ?_)
      exact e2_iret rfl rfl ⟨rfl, rfl⟩
    · refine C2.of (ls := [some (.inr (0, 50)), some (.inl c), some (.inl q), none, none]) okX9_stretch rfl rfl ?_
      repeat (first | refine e2_step rfl rfl ?_ | refine e2m_get rfl rfl ?_ | refine e2m_ld _ rfl rfl (by omega) ?_)
      refine e2_fs (m_in c (nI 0) (nI 99)) rfl rfl ⟨rfl, rfl, rfl⟩ rfl rfl rfl ?_
      rw [hb2]
      refine e2_if rfl rfl (fun _ => ?_) (fun z => absurd rfl z)
      repeat (first | refine e2_step rfl rfl ?_ | refine e2m_get rfl rfl ?_ | refine e2m_ld _ rfl rfl (by omega) ?_)
      exact e2_iret rfl rfl ⟨rfl, rfl⟩
end OC
