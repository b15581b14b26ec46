/-! A call on the object and the same call on the reference: the form; rounds, frame, carrier. -/
section OB
variable {ε : EE} {J J1 J2 : JT} {pc : Nat} {ls : List (Option V0)} {st : List V0} {As : List V0} {G G' : GG} {r r' t x : Nat → Int32} {K K' : Nat} {Q : Option Int32 → GG → Prop}
/-- the reference's parts are as they were -/
def kp (G G1 : GG) : Prop := ∀ i kk, 50 ≤ kk → G1 i kk = G i kk
/-- all but the line and the trial office is as it was -/
def lk1 (G G1 : GG) : Prop := ∀ i kk, ¬ (i = 18 ∧ kk < 18) → kk ≠ 40 → kk ≠ 41 → G1 i kk = G i kk
def OpOk (ε : EE) (J1 J2 : JT) (As : List V0) (G : GG) (r t x : Nat → Int32) (K : Nat) : Prop := ∃ a r' t' x', C2 ε J1 (.inr (0, 30) :: As) G (fun v G1 => v = some a ∧ RR G1 r' t' x' (K + 1) ∧ kp G G1) ∧ ∀ (G1 : GG) (o : Nat → Int32), C2 ε J2 (.inr (0, 50) :: As) (mG G1 r t o x) (fun v G2 => v = some a ∧ ∃ r2 o2 x2, G2 = mG G1 r2 t' o2 x2 ∧ (∀ j, j < 18426 → r2 j = r' j) ∧ x2 1 = x' 1 ∧ x2 3 = x' 3)
theorem RR.lk (h : RR G r t x K) (hk : lk1 G G') : RR G' r t x K := by
  refine h.now (Nat.le_refl _) (fun i kk a b c => hk i kk (by omega) (by omega) (by omega)) (fun m a b => hk m 22 (by omega) (by omega) (by omega)) (hk 0 31 (by omega) (by omega) (by omega)) (hk 0 32 (by omega) (by omega) (by omega)) (hk 0 33 (by omega) (by omega) (by omega)) (hk 0 34 (by omega) (by omega) (by omega)) rfl rfl (fun _ _ _ => rfl) (h.1.same (fun i kk a b c => hk i kk (by omega) (by omega) (by omega)) (hk 0 22 (by omega) (by omega) (by omega)))
theorem lk1.kp (hk : lk1 G G') : kp G G' := fun i kk h => hk i kk (by omega) (by omega) (by omega)
theorem OpOk.look {a : Int32} (h : RR G r t x K) (hc : C2 ε J1 (.inr (0, 30) :: As) G (fun v G1 => v = some a ∧ lk1 G G1)) (hm : ∀ (G1 : GG) (o : Nat → Int32), C2 ε J2 (.inr (0, 50) :: As) (mG G1 r t o x) (fun v G2 => v = some a ∧ ∃ r2 o2, G2 = mG G1 r2 t o2 x ∧ ∀ j, j < 18426 → r2 j = r j)) : OpOk ε J1 J2 As G r t x K :=
  ⟨a, r, t, x, C2.post (fun v G1 z => ⟨z.1, (h.mono (Nat.le_succ K)).lk z.2, z.2.kp⟩) hc, fun G1 o => C2.post (fun v G2 z => by
    obtain ⟨z1, r2, o2, z2, z3⟩ := z
    exact ⟨z1, r2, o2, x, z2, z3, rfl, rfl⟩) (hm G1 o)⟩
theorem OpOk.same {a : Int32} (h : RR G r t x K) (hc : F2 ε J1 (.inr (0, 30) :: As) G (some a) G) (hm : ∀ (G1 : GG) (o : Nat → Int32), ∃ o2, FM ε J2 As G1 r t o x (some a) r t o2 x) : OpOk ε J1 J2 As G r t x K :=
  OpOk.look h (C2.post (fun v G1 z => ⟨z.1, by rw [z.2]; exact fun _ _ _ _ _ => rfl⟩) hc) (fun G1 o => by
    obtain ⟨o2, h2⟩ := hm G1 o
    exact C2.post (fun v G2 z => ⟨z.1, r, o2, z.2, fun _ _ => rfl⟩) h2)
theorem fc_self {i : Nat} {v : Option Int32} {V' : VV} {s' : Int32} {o' : Nat → Int32} (h : FC ε J As G i (G i) (G 0 40 1) (G 0 41) v V' s' o') : F2 ε J As G v (cG G i V' s' o') := by
  unfold FC at h
  rw [cG_self] at h
  exact h
theorem fc_same {i : Nat} {v : Option Int32} (h : FC ε J As G i (G i) (G 0 40 1) (G 0 41) v (G i) (G 0 40 1) (G 0 41)) : F2 ε J As G v G := by
  unfold FC at h
  rw [cG_self] at h
  exact h
theorem RR.ro (h : RR G r t x K) : ∃ N, RO (G 0) r N := h.1.1.1
theorem isIn_out {n : Int32} {a b : Nat} (ha : a < 2 ^ 31) (hb : b < 2 ^ 31) (h : ¬ isInB n (nI a) (nI b) = true) : n.toInt < a ∨ (b : Int) < n.toInt := by
  rcases Int.lt_or_le n.toInt a with h1 | h1
  · exact Or.inl h1
  · rcases Int.lt_or_le (b : Int) n.toInt with h2 | h2
    · exact Or.inr h2
    · exfalso
      apply h
      unfold isInB
      rw [decide_eq_true (Int32.le_iff_toInt_le.2 (by rw [nI_toInt ha]; exact h1)), decide_eq_true (Int32.le_iff_toInt_le.2 (by rw [nI_toInt hb]; exact h2))]
      rfl
theorem isIn_nI' {k b : Nat} (h : k ≤ b) (hb : b < 2 ^ 31) : isInB (nI k) (nI 0) (nI b) = true := by
  unfold isInB
  rw [decide_eq_true (nI_le (by omega) (by omega)), decide_eq_true (nI_le h hb)]
  rfl
theorem op_rounds (h : RR G r t x K) (c w : Int32) : OpOk ε jX8_rounds jX9_rounds [.inl c, .inl w] G r t x K := by
  by_cases hb : isInB c (nI 0) (nI 5) = true
  · by_cases hw : isInB w (nI 0) (nI 7) = true
    · obtain ⟨k, hk, rfl⟩ := isIn_nI (by decide) hb
      obtain ⟨u, hu, rfl⟩ := isIn_nI (by decide) hw
      obtain ⟨N, hO⟩ := h.ro
      have h16 := hO.1.2.2.2.2.2.2.2.2.2.2.1 (k * 8 + u) (by omega)
      refine OpOk.same (a := r (963 + 8 * k + u)) h ?_ (fun G1 o => ⟨o, ?_⟩)
      · refine C2.of (ls := [some (.inr (0, 30)), some (.inl (nI k)), some (.inl (nI u))]) okX8_rounds rfl rfl ?_
        repeat (first | refine e2_step rfl rfl ?_ | refine e2_get rfl (by first | exact hi | decide) rfl rfl ?_)
        refine e2_fs (c_isCarrier (nI k)) rfl rfl ⟨rfl, rfl, rfl⟩ rfl rfl rfl ?_
        rw [hb]
        refine e2_if rfl rfl (fun z => absurd z (by decide)) (fun _ => ?_)
        repeat (first | refine e2_step rfl rfl ?_ | refine e2_get rfl (by first | exact hi | decide) rfl rfl ?_)
        refine e2_fs (c_isWalk (nI u)) rfl rfl ⟨rfl, rfl, rfl⟩ rfl rfl rfl ?_
        rw [hw]
        refine e2_if rfl rfl (fun _ => ?_) (fun z => absurd (by decide) z)
        repeat (first | refine e2_step rfl rfl ?_ | refine e2_get rfl (by first | exact hi | decide) rfl rfl ?_)
        refine e2_fi (fc_same (i := 0) (k_roundsOn (c := k) (w := u) (by decide) (by omega) (by omega))) rfl rfl ⟨rfl, rfl, rfl⟩ rfl rfl rfl (by first | exact hi | decide) rfl rfl rfl ?_
        refine e2_iret rfl rfl ⟨?_, rfl⟩
        rw [h16, show 963 + (k * 8 + u) = 963 + 8 * k + u by omega]
      · refine C2.of (ls := [some (.inr (0, 50)), some (.inl (nI k)), some (.inl (nI u))]) okX9_rounds rfl rfl ?_
        repeat (first | refine e2_step rfl rfl ?_ | refine e2m_get rfl rfl ?_ | refine e2m_ld _ rfl rfl (by omega) ?_)
        refine e2_fs (m_isCarrier (nI k)) rfl rfl ⟨rfl, rfl, rfl⟩ rfl rfl rfl ?_
        rw [hb]
        refine e2_if rfl rfl (fun z => absurd z (by decide)) (fun _ => ?_)
        repeat (first | refine e2_step rfl rfl ?_ | refine e2m_get rfl rfl ?_ | refine e2m_ld _ rfl rfl (by omega) ?_)
        refine e2_fs (m_isWalk (nI u)) rfl rfl ⟨rfl, rfl, rfl⟩ rfl rfl rfl ?_
        rw [hw]
        refine e2_if rfl rfl (fun z => absurd z (by decide)) (fun _ => ?_)
        repeat (first | refine e2_step rfl rfl ?_ | refine e2m_get rfl rfl ?_ | refine e2m_ld _ rfl rfl (by omega) ?_)
        refine e2m_ld (963 + 8 * k + u) rfl (by rw [pk_mul, nI_add', nI_add']) (by omega) ?_
        repeat (first | refine e2_step rfl rfl ?_ | refine e2m_get rfl rfl ?_ | refine e2m_ld _ rfl rfl (by omega) ?_)
        exact e2_iret rfl rfl ⟨rfl, rfl⟩
    · have hw2 := eq_false_of_ne_true hw
      refine OpOk.same (a := -1) h ?_ (fun G1 o => ⟨o, ?_⟩)
      · refine C2.of (ls := [some (.inr (0, 30)), some (.inl c), some (.inl w)]) okX8_rounds rfl rfl ?_
        repeat (first | refine e2_step rfl rfl ?_ | refine e2_get rfl (by first | exact hi | decide) rfl rfl ?_)
        refine e2_fs (c_isCarrier c) rfl rfl ⟨rfl, rfl, rfl⟩ rfl rfl rfl ?_
        rw [hb]
        refine e2_if rfl rfl (fun z => absurd z (by decide)) (fun _ => ?_)
        repeat (first | refine e2_step rfl rfl ?_ | refine e2_get rfl (by first | exact hi | decide) rfl rfl ?_)
        refine e2_fs (c_isWalk w) rfl rfl ⟨rfl, rfl, rfl⟩ rfl rfl rfl ?_
        rw [hw2]
        refine e2_if rfl rfl (fun z => absurd rfl z) (fun _ => ?_)
        repeat (first | refine e2_step rfl rfl ?_ | refine e2_get rfl (by first | exact hi | decide) rfl rfl ?_)
        exact e2_iret rfl rfl ⟨rfl, rfl⟩
      · refine C2.of (ls := [some (.inr (0, 50)), some (.inl c), some (.inl w)]) okX9_rounds rfl rfl ?_
        repeat (first | refine e2_step rfl rfl ?_ | refine e2m_get rfl rfl ?_ | refine e2m_ld _ rfl rfl (by omega) ?_)
        refine e2_fs (m_isCarrier c) rfl rfl ⟨rfl, rfl, rfl⟩ rfl rfl rfl ?_
        rw [hb]
        refine e2_if rfl rfl (fun z => absurd z (by decide)) (fun _ => ?_)
        repeat (first | refine e2_step rfl rfl ?_ | refine e2m_get rfl rfl ?_ | refine e2m_ld _ rfl rfl (by omega) ?_)
        refine e2_fs (m_isWalk w) rfl rfl ⟨rfl, rfl, rfl⟩ rfl rfl rfl ?_
        rw [hw2]
        refine e2_if rfl rfl (fun _ => ?_) (fun z => absurd rfl z)
        repeat (first | refine e2_step rfl rfl ?_ | refine e2m_get rfl rfl ?_ | refine e2m_ld _ rfl rfl (by omega) ?_)
        exact e2_iret rfl rfl ⟨rfl, rfl⟩
  · have hb2 := eq_false_of_ne_true hb
    refine OpOk.same (a := -1) h ?_ (fun G1 o => ⟨o, ?_⟩)
    · refine C2.of (ls := [some (.inr (0, 30)), some (.inl c), some (.inl w)]) okX8_rounds rfl rfl ?_
      repeat (first | refine e2_step rfl rfl ?_ | refine e2_get rfl (by first | exact hi | decide) rfl rfl ?_)
      refine e2_fs (c_isCarrier c) rfl rfl ⟨rfl, rfl, rfl⟩ rfl rfl rfl ?_
      rw [hb2]
      refine e2_if rfl rfl (fun _ => ?_) (fun z => absurd rfl z)
      repeat (first | refine e2_step rfl rfl ?_ | refine e2_get rfl (by first | exact hi | decide) rfl rfl ?_)
      exact e2_iret rfl rfl ⟨rfl, rfl⟩
    · refine C2.of (ls := [some (.inr (0, 50)), some (.inl c), some (.inl w)]) okX9_rounds rfl rfl ?_
      repeat (first | refine e2_step rfl rfl ?_ | refine e2m_get rfl rfl ?_ | refine e2m_ld _ rfl rfl (by omega) ?_)
      refine e2_fs (m_isCarrier c) rfl rfl ⟨rfl, rfl, rfl⟩ rfl rfl rfl ?_
      rw [hb2]
      refine e2_if rfl rfl (fun _ => ?_) (fun z => absurd rfl z)
      repeat (first | refine e2_step rfl rfl ?_ | refine e2m_get rfl rfl ?_ | refine e2m_ld _ rfl rfl (by omega) ?_)
      exact e2_iret rfl rfl ⟨rfl, rfl⟩
theorem sumI_cnt {f : Nat → Int32} {p : Nat → Bool} : ∀ n, (∀ l, l < n → f l = if p l then nI 1 else nI 0) → sumI f n = nI (cntB p n)
  | 0, _ => rfl
  | n + 1, h => by
    unfold sumI cntB
    rw [sumI_cnt n (fun l hl => h l (by omega)), h n (by omega)]
    by_cases hp : p n = true
    · rw [if_pos hp, if_pos hp, nI_add']
    · rw [if_neg hp, if_neg hp, nI_add']
theorem op_frame (h : RR G r t x K) (w q : Int32) : OpOk ε jX8_frame jX9_frame [.inl w, .inl q] G r t x K := by
  by_cases hw : isInB w (nI 0) (nI 7) = true
  · obtain ⟨u, hu, rfl⟩ := isIn_nI (by decide) hw
    obtain ⟨N, hO⟩ := h.ro
    have hN2 : N ≤ 120 := hO.1.1
    have hc : G 0 3 8 = nI N := hO.1.2.1
    have hN : r 100 = nI N := hO.1.2.2.1
    have hcl : ∀ Q, E2 ε jX8_frame 9 [some (.inr (0, 30)), some (.inl (nI u)), some (.inl q)] [] G Q → E2 ε jX8_frame 0 [some (.inr (0, 30)), some (.inl (nI u)), some (.inl q)] [] G Q := by
      intro Q k
      repeat (first | refine e2_step rfl rfl ?_ | refine e2_get rfl (by first | exact hi | decide) rfl rfl ?_)
      refine e2_fs (c_isWalk (nI u)) rfl rfl ⟨rfl, rfl, rfl⟩ rfl rfl rfl ?_
      rw [hw]
      refine e2_if rfl rfl (fun _ => ?_) (fun z => absurd (by decide) z)
      exact k
    have hml : ∀ (G1 : GG) (o : Nat → Int32) Q, E2 ε jX9_frame 9 [some (.inr (0, 50)), some (.inl (nI u)), some (.inl q)] [] (mG G1 r t o x) Q → E2 ε jX9_frame 0 [some (.inr (0, 50)), some (.inl (nI u)), some (.inl q)] [] (mG G1 r t o x) Q := by
      intro G1 o Q k
      repeat (first | refine e2_step rfl rfl ?_ | refine e2m_get rfl rfl ?_ | refine e2m_ld _ rfl rfl (by omega) ?_)
      refine e2_fs (m_isWalk (nI u)) rfl rfl ⟨rfl, rfl, rfl⟩ rfl rfl rfl ?_
      rw [hw]
      refine e2_if rfl rfl (fun _ => ?_) (fun z => absurd (by decide) z)
      exact k
    by_cases hq : isInB q (nI 0) (nI 4) = true
    · obtain ⟨k, hk, rfl⟩ := isIn_nI (by decide) hq
      rcases (show k = 0 ∨ k = 1 ∨ k = 2 ∨ k = 3 ∨ k = 4 by omega) with rfl | rfl | rfl | rfl | rfl
      · refine OpOk.same (a := r (941 + u)) h ?_ (fun G1 o => ⟨o, ?_⟩)
        · refine C2.of (ls := [some (.inr (0, 30)), some (.inl (nI u)), some (.inl (nI 0))]) okX8_frame rfl rfl ?_
          refine hcl _ ?_
          refine e2_step rfl rfl ?_
          refine e2_tabIn 0 dX8_frame_10 (by decide) (by decide) rfl (tgt := 44) (by decide) ?_
          repeat (first | refine e2_step rfl rfl ?_ | refine e2_get rfl (by first | exact hi | decide) rfl rfl ?_)
          refine e2_iald (i := 0) (kk := 17) u rfl rfl (by decide) rfl (by omega) ?_
          exact e2_iret rfl rfl ⟨by rw [hO.1.2.2.2.2.1 u (by omega)], rfl⟩
        · refine C2.of (ls := [some (.inr (0, 50)), some (.inl (nI u)), some (.inl (nI 0))]) okX9_frame rfl rfl ?_
          refine hml _ _ _ ?_
          refine e2_step rfl rfl ?_
          refine e2_tabIn 0 dX9_frame_10 (by decide) (by decide) rfl (tgt := 44) (by decide) ?_
          repeat (first | refine e2_step rfl rfl ?_ | refine e2m_get rfl rfl ?_ | refine e2m_ld _ rfl rfl (by omega) ?_)
          rw [nI_add']
          repeat (first | refine e2_step rfl rfl ?_ | refine e2m_get rfl rfl ?_ | refine e2m_ld _ rfl rfl (by omega) ?_)
          exact e2_iret rfl rfl ⟨rfl, rfl⟩
      · refine OpOk.same (a := nI (cntB (atr r (nI 1) (nI u)) N)) h ?_ (fun G1 o => ⟨o, ?_⟩)
        · refine C2.of (ls := [some (.inr (0, 30)), some (.inl (nI u)), some (.inl (nI 1))]) okX8_frame rfl rfl ?_
          refine hcl _ ?_
          refine e2_step rfl rfl ?_
          refine e2_tabIn 1 dX8_frame_10 (by decide) (by decide) rfl (tgt := 57) (by decide) ?_
          repeat (first | refine e2_step rfl rfl ?_ | refine e2_get rfl (by first | exact hi | decide) rfl rfl ?_)
          refine e2_iald (i := 0) (kk := 11) u rfl rfl (by decide) rfl (by omega) ?_
          exact e2_iret rfl rfl ⟨by rw [hO.2.2.1 u (by omega)], rfl⟩
        · refine C2.of (ls := [some (.inr (0, 50)), some (.inl (nI u)), some (.inl (nI 1))]) okX9_frame rfl rfl ?_
          refine hml _ _ _ ?_
          refine e2_step rfl rfl ?_
          refine e2_tabIn 1 dX9_frame_10 (by decide) (by decide) rfl (tgt := 55) (by decide) ?_
          repeat (first | refine e2_step rfl rfl ?_ | refine e2m_get rfl rfl ?_ | refine e2m_ld _ rfl rfl (by omega) ?_)
          refine e2_fi (m_countAt hN hN2 (nI 1) (nI u)) rfl rfl ⟨rfl, rfl, rfl⟩ rfl rfl rfl (by first | exact hi | decide) rfl rfl rfl ?_
          exact e2_iret rfl rfl ⟨rfl, rfl⟩
      · refine OpOk.same (a := freer r N u) h ?_ (fun G1 o => ⟨o, ?_⟩)
        · refine C2.of (ls := [some (.inr (0, 30)), some (.inl (nI u)), some (.inl (nI 2))]) okX8_frame rfl rfl ?_
          refine hcl _ ?_
          refine e2_step rfl rfl ?_
          refine e2_tabIn 2 dX8_frame_10 (by decide) (by decide) rfl (tgt := 73) (by decide) ?_
          repeat (first | refine e2_step rfl rfl ?_ | refine e2_get rfl (by first | exact hi | decide) rfl rfl ?_)
          refine e2_fi (fc_same (i := 0) (w_freeHoles (w := u) (by decide) (by omega))) rfl rfl ⟨rfl, rfl, rfl⟩ rfl rfl rfl (by first | exact hi | decide) rfl rfl rfl ?_
          exact e2_iret rfl rfl ⟨by rw [hO.free (by omega)], rfl⟩
        · refine C2.of (ls := [some (.inr (0, 50)), some (.inl (nI u)), some (.inl (nI 2))]) okX9_frame rfl rfl ?_
          refine hml _ _ _ ?_
          refine e2_step rfl rfl ?_
          refine e2_tabIn 2 dX9_frame_10 (by decide) (by decide) rfl (tgt := 62) (by decide) ?_
          repeat (first | refine e2_step rfl rfl ?_ | refine e2m_get rfl rfl ?_ | refine e2m_ld _ rfl rfl (by omega) ?_)
          refine e2_fi (m_free (w := u) hN hN2 (by omega)) rfl rfl ⟨rfl, rfl, rfl⟩ rfl rfl rfl (by first | exact hi | decide) rfl rfl rfl ?_
          exact e2_iret rfl rfl ⟨rfl, rfl⟩
      · refine OpOk.same (a := sumI (fun l => if atr r (nI 1) (nI u) l then ofr r l 1 else nI 0) N) h ?_ (fun G1 o => ⟨o, ?_⟩)
        · refine C2.of (ls := [some (.inr (0, 30)), some (.inl (nI u)), some (.inl (nI 3))]) okX8_frame rfl rfl ?_
          refine hcl _ ?_
          refine e2_step rfl rfl ?_
          refine e2_tabIn 3 dX8_frame_10 (by decide) (by decide) rfl (tgt := 85) (by decide) ?_
          repeat (first | refine e2_step rfl rfl ?_ | refine e2_get rfl (by first | exact hi | decide) rfl rfl ?_)
          refine e2_fi (fc_same (i := 0) (v_countFirstClass (by decide) hN2 hc (nI u))) rfl rfl ⟨rfl, rfl, rfl⟩ rfl rfl rfl (by first | exact hi | decide) rfl rfl rfl ?_
          refine e2_iret rfl rfl ⟨?_, rfl⟩
          rw [← sumI_cnt N (f := fun l => if atr r (nI 1) (nI u) l then ofr r l 1 else nI 0) (fun l hl => ?_)]
          obtain ⟨-, ⟨b1, b2⟩, -⟩ := hO.2.1 l hl
          have ha := hO.at (p := 1) hl (Or.inl rfl) (nI u)
          rw [ha, b1]
          by_cases hz : atr r (nI 1) (nI u) l = true
          · simp only [hz, if_true, Bool.true_and]
            rcases b2 with b2 | b2
            · rw [b2, if_neg (by decide)]
            · rw [b2, if_pos (by decide)]
          · rw [eq_false_of_ne_true hz]
            rfl
        · refine C2.of (ls := [some (.inr (0, 50)), some (.inl (nI u)), some (.inl (nI 3))]) okX9_frame rfl rfl ?_
          refine hml _ _ _ ?_
          refine e2_step rfl rfl ?_
          refine e2_tabIn 3 dX9_frame_10 (by decide) (by decide) rfl (tgt := 68) (by decide) ?_
          repeat (first | refine e2_step rfl rfl ?_ | refine e2m_get rfl rfl ?_ | refine e2m_ld _ rfl rfl (by omega) ?_)
          refine e2_fi (m_firstIn hN hN2 (nI u)) rfl rfl ⟨rfl, rfl, rfl⟩ rfl rfl rfl (by first | exact hi | decide) rfl rfl rfl ?_
          exact e2_iret rfl rfl ⟨rfl, rfl⟩
      · refine OpOk.same (a := r (955 + u)) h ?_ (fun G1 o => ⟨o, ?_⟩)
        · refine C2.of (ls := [some (.inr (0, 30)), some (.inl (nI u)), some (.inl (nI 4))]) okX8_frame rfl rfl ?_
          refine hcl _ ?_
          refine e2_step rfl rfl ?_
          refine e2_tabIn 4 dX8_frame_10 (by decide) (by decide) rfl (tgt := 100) (by decide) ?_
          repeat (first | refine e2_step rfl rfl ?_ | refine e2_get rfl (by first | exact hi | decide) rfl rfl ?_)
          refine e2_fi (fc_same (i := 0) (k_ofWalk (by decide) (nI u))) rfl rfl ⟨rfl, rfl, rfl⟩ rfl rfl rfl (by first | exact hi | decide) rfl rfl rfl ?_
          exact e2_iret rfl rfl ⟨by rw [hO.1.ofw (by omega)], rfl⟩
        · refine C2.of (ls := [some (.inr (0, 50)), some (.inl (nI u)), some (.inl (nI 4))]) okX9_frame rfl rfl ?_
          refine hml _ _ _ ?_
          refine e2_step rfl rfl ?_
          refine e2_tabIn 4 dX9_frame_10 (by decide) (by decide) rfl (tgt := 74) (by decide) ?_
          repeat (first | refine e2_step rfl rfl ?_ | refine e2m_get rfl rfl ?_ | refine e2m_ld _ rfl rfl (by omega) ?_)
          rw [nI_add']
          repeat (first | refine e2_step rfl rfl ?_ | refine e2m_get rfl rfl ?_ | refine e2m_ld _ rfl rfl (by omega) ?_)
          exact e2_iret rfl rfl ⟨rfl, rfl⟩
    · have ho := isIn_out (by decide) (by decide) hq
      refine OpOk.same (a := -1) h ?_ (fun G1 o => ⟨o, ?_⟩)
      · refine C2.of (ls := [some (.inr (0, 30)), some (.inl (nI u)), some (.inl q)]) okX8_frame rfl rfl ?_
        refine hcl _ ?_
        refine e2_step rfl rfl ?_
        refine e2_tabOut dX8_frame_10 ho (tgt := 115) (by decide) ?_
        repeat (first | refine e2_step rfl rfl ?_ | refine e2_get rfl (by first | exact hi | decide) rfl rfl ?_)
        exact e2_iret rfl rfl ⟨rfl, rfl⟩
      · refine C2.of (ls := [some (.inr (0, 50)), some (.inl (nI u)), some (.inl q)]) okX9_frame rfl rfl ?_
        refine hml _ _ _ ?_
        refine e2_step rfl rfl ?_
        refine e2_tabOut dX9_frame_10 ho (tgt := 85) (by decide) ?_
        repeat (first | refine e2_step rfl rfl ?_ | refine e2m_get rfl rfl ?_ | refine e2m_ld _ rfl rfl (by omega) ?_)
        exact e2_iret rfl rfl ⟨rfl, rfl⟩
  · have hw2 := eq_false_of_ne_true hw
    refine OpOk.same (a := -1) h ?_ (fun G1 o => ⟨o, ?_⟩)
    · refine C2.of (ls := [some (.inr (0, 30)), some (.inl w), some (.inl q)]) okX8_frame rfl rfl ?_
      repeat (first | refine e2_step rfl rfl ?_ | refine e2_get rfl (by first | exact hi | decide) rfl rfl ?_)
      refine e2_fs (c_isWalk w) rfl rfl ⟨rfl, rfl, rfl⟩ rfl rfl rfl ?_
      rw [hw2]
      refine e2_if rfl rfl (fun z => absurd rfl z) (fun _ => ?_)
      repeat (first | refine e2_step rfl rfl ?_ | refine e2_get rfl (by first | exact hi | decide) rfl rfl ?_)
      exact e2_iret rfl rfl ⟨rfl, rfl⟩
    · refine C2.of (ls := [some (.inr (0, 50)), some (.inl w), some (.inl q)]) okX9_frame rfl rfl ?_
      repeat (first | refine e2_step rfl rfl ?_ | refine e2m_get rfl rfl ?_ | refine e2m_ld _ rfl rfl (by omega) ?_)
      refine e2_fs (m_isWalk w) rfl rfl ⟨rfl, rfl, rfl⟩ rfl rfl rfl ?_
      rw [hw2]
      refine e2_if rfl rfl (fun z => absurd rfl z) (fun _ => ?_)
      repeat (first | refine e2_step rfl rfl ?_ | refine e2m_get rfl rfl ?_ | refine e2m_ld _ rfl rfl (by omega) ?_)
      exact e2_iret rfl rfl ⟨rfl, rfl⟩
end OB
