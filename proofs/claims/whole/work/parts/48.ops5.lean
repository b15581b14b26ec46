/-! Calls: inBag, inFrame, bestCarrier. -/
section OF
variable {ε : EE} {J J1 J2 : JT} {pc : Nat} {ls : List (Option V0)} {st : List V0} {As : List V0} {G G' : GG} {i : Nat} {V : VV} {s : Int32} {r r' t x o : Nat → Int32} {K K' : Nat} {Q : Option Int32 → GG → Prop}
theorem cG_lk {G : GG} {s : Int32} {o : Nat → Int32} : lk1 G (cG G 0 (G 0) s o) := by
  intro i kk h1 h2 h3
  unfold cG
  by_cases h : i = 0 ∧ kk < 18
  · rw [if_pos h, h.1]
  · rw [if_neg h, if_neg (fun z => h2 z.2), if_neg (fun z => h3 z.2)]
theorem op_inBag (h : RR G r t x K) (p : Int32) : OpOk ε jX8_inBag jX9_inBag [.inl p] G r t x K := by
  obtain ⟨N, hO⟩ := h.ro
  have hN2 : N ≤ 120 := hO.1.1
  have hc : G 0 3 8 = nI N := hO.1.2.1
  have hN : r 100 = nI N := hO.1.2.2.1
  by_cases hp : p < 0
  · refine OpOk.same (a := -1) h ?_ (fun G1 o => ⟨o, ?_⟩)
    · refine C2.of (ls := [some (.inr (0, 30)), some (.inl p)]) okX8_inBag rfl rfl ?_
      repeat (first | refine e2_step rfl rfl ?_ | refine e2_get rfl (by first | exact hi | decide) rfl rfl ?_)
      refine e2_if rfl rfl (fun z => absurd z (Int32.not_le.2 hp)) (fun _ => ?_)
      repeat (first | refine e2_step rfl rfl ?_ | refine e2_get rfl (by first | exact hi | decide) rfl rfl ?_)
      exact e2_iret rfl rfl ⟨rfl, rfl⟩
    · refine C2.of (ls := [some (.inr (0, 50)), some (.inl p)]) okX9_inBag rfl rfl ?_
      repeat (first | refine e2_step rfl rfl ?_ | refine e2m_get rfl rfl ?_ | refine e2m_ld _ rfl rfl (by omega) ?_)
      refine e2_if rfl rfl (fun z => absurd z (Int32.not_le.2 hp)) (fun _ => ?_)
      repeat (first | refine e2_step rfl rfl ?_ | refine e2m_get rfl rfl ?_ | refine e2m_ld _ rfl rfl (by omega) ?_)
      exact e2_iret rfl rfl ⟨rfl, rfl⟩
  · obtain ⟨j, hj, rfl⟩ := nI_of hp
    have hb : bagVR (G 0) N = bagR r N := bag_same hO.2.1
    have hl : (bagR r N).length ≤ N := by unfold bagR; rw [layR_len]; exact cntB_le _ _
    refine OpOk.look (a := if (bagR r N).length ≤ j then -9 else nI (revD (bagR r N) j)) h ?_ (fun G1 o => ?_)
    · refine C2.of (ls := [some (.inr (0, 30)), some (.inl (nI j))]) okX8_inBag rfl rfl ?_
      repeat (first | refine e2_step rfl rfl ?_ | refine e2_get rfl (by first | exact hi | decide) rfl rfl ?_)
      refine e2_if rfl rfl (fun _ => ?_) (fun z => absurd (nI_pos' hj) z)
      repeat (first | refine e2_step rfl rfl ?_ | refine e2_get rfl (by first | exact hi | decide) rfl rfl ?_)
      have hL := v_listBag (ε := ε) (G := G) (i := 0) (V := G 0) (s := G 0 40 1) (o := G 0 41) (by decide) hN2 hc (by rw [hb]; omega)
      rw [hb] at hL
      refine e2_fv (fc_self hL) rfl rfl ⟨rfl, rfl, rfl⟩ rfl rfl rfl (by first | exact hi | decide) rfl rfl rfl ?_
      repeat (first | refine e2_step rfl rfl ?_ | refine e2c_get (i := 0) (by decide) rfl rfl rfl rfl ?_ | refine e2_get rfl (by decide) rfl rfl ?_)
      refine e2c_lfi (l_letterAt (n := (bagR r N).length) (j := j) (by omega) hj) rfl rfl ⟨rfl, rfl, rfl⟩ rfl rfl rfl rfl ?_
      refine e2_iret rfl rfl ⟨?_, cG_lk⟩
      by_cases hz : (bagR r N).length ≤ j
      · rw [if_pos hz, if_pos hz]
      · rw [if_neg hz, if_neg hz, ordA_at (by omega)]
    · refine C2.of (ls := [some (.inr (0, 50)), some (.inl (nI j))]) okX9_inBag rfl rfl ?_
      repeat (first | refine e2_step rfl rfl ?_ | refine e2m_get rfl rfl ?_ | refine e2m_ld _ rfl rfl (by omega) ?_)
      refine e2_if rfl rfl (fun _ => ?_) (fun z => absurd (nI_pos' hj) z)
      repeat (first | refine e2_step rfl rfl ?_ | refine e2m_get rfl rfl ?_ | refine e2m_ld _ rfl rfl (by omega) ?_)
      refine e2_fi (m_layBag hN hN2) rfl rfl ⟨rfl, rfl, rfl⟩ rfl rfl rfl (by first | exact hi | decide) rfl rfl rfl ?_
      refine e2_if rfl rfl (fun z => ?_) (fun z => ?_)
      · rw [nI_leI (by omega) hj] at z
        rw [if_pos z]
        repeat (first | refine e2_step rfl rfl ?_ | refine e2m_get rfl rfl ?_ | refine e2m_ld _ rfl rfl (by omega) ?_)
        exact e2_iret rfl rfl ⟨rfl, r, _, rfl, fun _ _ => rfl⟩
      · rw [nI_leI (by omega) hj] at z
        rw [if_neg z]
        repeat (first | refine e2_step rfl rfl ?_ | refine e2m_get rfl rfl ?_ | refine e2m_ld _ rfl rfl (by omega) ?_)
        refine e2m_ldo j rfl rfl (by omega) ?_
        rw [ordA_at (by omega)]
        repeat (first | refine e2_step rfl rfl ?_ | refine e2m_get rfl rfl ?_ | refine e2m_ld _ rfl rfl (by omega) ?_)
        exact e2_iret rfl rfl ⟨rfl, r, _, rfl, fun _ _ => rfl⟩
theorem op_inFrame (h : RR G r t x K) (w p : Int32) : OpOk ε jX8_inFrame jX9_inFrame [.inl w, .inl p] G r t x K := by
  obtain ⟨N, hO⟩ := h.ro
  have hN2 : N ≤ 120 := hO.1.1
  have hc : G 0 3 8 = nI N := hO.1.2.1
  have hN : r 100 = nI N := hO.1.2.2.1
  by_cases hw : isInB w (nI 0) (nI 7) = true
  · by_cases hp : p < 0
    · refine OpOk.same (a := -1) h ?_ (fun G1 o => ⟨o, ?_⟩)
      · refine C2.of (ls := [some (.inr (0, 30)), some (.inl w), some (.inl p)]) okX8_inFrame rfl rfl ?_
        repeat (first | refine e2_step rfl rfl ?_ | refine e2_get rfl (by first | exact hi | decide) rfl rfl ?_)
        refine e2_fs (c_isWalk w) rfl rfl ⟨rfl, rfl, rfl⟩ rfl rfl rfl ?_
        rw [hw]
        refine e2_if rfl rfl (fun z => absurd z (by decide)) (fun _ => ?_)
        repeat (first | refine e2_step rfl rfl ?_ | refine e2_get rfl (by first | exact hi | decide) rfl rfl ?_)
        refine e2_if rfl rfl (fun z => absurd z (Int32.not_le.2 hp)) (fun _ => ?_)
        repeat (first | refine e2_step rfl rfl ?_ | refine e2_get rfl (by first | exact hi | decide) rfl rfl ?_)
        exact e2_iret rfl rfl ⟨rfl, rfl⟩
      · refine C2.of (ls := [some (.inr (0, 50)), some (.inl w), some (.inl p)]) okX9_inFrame rfl rfl ?_
        repeat (first | refine e2_step rfl rfl ?_ | refine e2m_get rfl rfl ?_ | refine e2m_ld _ rfl rfl (by omega) ?_)
        refine e2_fs (m_isWalk w) rfl rfl ⟨rfl, rfl, rfl⟩ rfl rfl rfl ?_
        rw [hw]
        refine e2_if rfl rfl (fun z => absurd z (by decide)) (fun _ => ?_)
        repeat (first | refine e2_step rfl rfl ?_ | refine e2m_get rfl rfl ?_ | refine e2m_ld _ rfl rfl (by omega) ?_)
        refine e2_if rfl rfl (fun z => absurd z (Int32.not_le.2 hp)) (fun _ => ?_)
        repeat (first | refine e2_step rfl rfl ?_ | refine e2m_get rfl rfl ?_ | refine e2m_ld _ rfl rfl (by omega) ?_)
        exact e2_iret rfl rfl ⟨rfl, rfl⟩
    · obtain ⟨j, hj, rfl⟩ := nI_of hp
      have hb : layR (gtV (G 0)) (atV (G 0) (nI 1) w) N = atR r N (nI 1) w := hO.list (p := 1) (Or.inl rfl) w
      have hl : (atR r N (nI 1) w).length ≤ N := atR_len
      refine OpOk.look (a := if (atR r N (nI 1) w).length ≤ j then -9 else nI (revD (atR r N (nI 1) w) j)) h ?_ (fun G1 o => ?_)
      · refine C2.of (ls := [some (.inr (0, 30)), some (.inl w), some (.inl (nI j))]) okX8_inFrame rfl rfl ?_
        repeat (first | refine e2_step rfl rfl ?_ | refine e2_get rfl (by first | exact hi | decide) rfl rfl ?_)
        refine e2_fs (c_isWalk w) rfl rfl ⟨rfl, rfl, rfl⟩ rfl rfl rfl ?_
        rw [hw]
        refine e2_if rfl rfl (fun z => absurd z (by decide)) (fun _ => ?_)
        repeat (first | refine e2_step rfl rfl ?_ | refine e2_get rfl (by first | exact hi | decide) rfl rfl ?_)
        refine e2_if rfl rfl (fun _ => ?_) (fun z => absurd (nI_pos' hj) z)
        repeat (first | refine e2_step rfl rfl ?_ | refine e2_get rfl (by first | exact hi | decide) rfl rfl ?_)
        have hL := v_listByCode (ε := ε) (G := G) (i := 0) (V := G 0) (s := G 0 40 1) (o := G 0 41) (by decide) hN2 hc (nI 1) w
        rw [hb] at hL
        refine e2_fv (fc_self hL) rfl rfl ⟨rfl, rfl, rfl⟩ rfl rfl rfl (by first | exact hi | decide) rfl rfl rfl ?_
        repeat (first | refine e2_step rfl rfl ?_ | refine e2c_get (i := 0) (by decide) rfl rfl rfl rfl ?_ | refine e2_get rfl (by decide) rfl rfl ?_)
        refine e2c_lfi (l_letterAt (n := (atR r N (nI 1) w).length) (j := j) (by omega) hj) rfl rfl ⟨rfl, rfl, rfl⟩ rfl rfl rfl rfl ?_
        refine e2_iret rfl rfl ⟨?_, cG_lk⟩
        by_cases hz : (atR r N (nI 1) w).length ≤ j
        · rw [if_pos hz, if_pos hz]
        · rw [if_neg hz, if_neg hz, ordA_at (by omega)]
      · have hlay := m_layByCodes (ε := ε) (G := G1) (t := t) (o := o) (x := x) hN hN2 (nI 1) w
        change FM ε jX9_layByCodes [.inl (nI 1), .inl w] G1 r t o x (some (nI (atR r N (nI 1) w).length)) r t (ordA (atR r N (nI 1) w) o) x at hlay
        refine C2.of (ls := [some (.inr (0, 50)), some (.inl w), some (.inl (nI j))]) okX9_inFrame rfl rfl ?_
        repeat (first | refine e2_step rfl rfl ?_ | refine e2m_get rfl rfl ?_ | refine e2m_ld _ rfl rfl (by omega) ?_)
        refine e2_fs (m_isWalk w) rfl rfl ⟨rfl, rfl, rfl⟩ rfl rfl rfl ?_
        rw [hw]
        refine e2_if rfl rfl (fun z => absurd z (by decide)) (fun _ => ?_)
        repeat (first | refine e2_step rfl rfl ?_ | refine e2m_get rfl rfl ?_ | refine e2m_ld _ rfl rfl (by omega) ?_)
        refine e2_if rfl rfl (fun _ => ?_) (fun z => absurd (nI_pos' hj) z)
        repeat (first | refine e2_step rfl rfl ?_ | refine e2m_get rfl rfl ?_ | refine e2m_ld _ rfl rfl (by omega) ?_)
        refine e2_fi (hlay) rfl rfl ⟨rfl, rfl, rfl⟩ rfl rfl rfl (by first | exact hi | decide) rfl rfl rfl ?_
        refine e2_if rfl rfl (fun z => ?_) (fun z => ?_)
        · rw [nI_leI (by omega) hj] at z
          rw [if_pos z]
          repeat (first | refine e2_step rfl rfl ?_ | refine e2m_get rfl rfl ?_ | refine e2m_ld _ rfl rfl (by omega) ?_)
          exact e2_iret rfl rfl ⟨rfl, r, _, rfl, fun _ _ => rfl⟩
        · rw [nI_leI (by omega) hj] at z
          rw [if_neg z]
          repeat (first | refine e2_step rfl rfl ?_ | refine e2m_get rfl rfl ?_ | refine e2m_ld _ rfl rfl (by omega) ?_)
          refine e2m_ldo j rfl rfl (by omega) ?_
          rw [ordA_at (by omega)]
          repeat (first | refine e2_step rfl rfl ?_ | refine e2m_get rfl rfl ?_ | refine e2m_ld _ rfl rfl (by omega) ?_)
          exact e2_iret rfl rfl ⟨rfl, r, _, rfl, fun _ _ => rfl⟩
  · have hw2 := eq_false_of_ne_true hw
    refine OpOk.same (a := -1) h ?_ (fun G1 o => ⟨o, ?_⟩)
    · refine C2.of (ls := [some (.inr (0, 30)), some (.inl w), some (.inl p)]) okX8_inFrame rfl rfl ?_
      repeat (first | refine e2_step rfl rfl ?_ | refine e2_get rfl (by first | exact hi | decide) rfl rfl ?_)
      refine e2_fs (c_isWalk w) rfl rfl ⟨rfl, rfl, rfl⟩ rfl rfl rfl ?_
      rw [hw2]
      refine e2_if rfl rfl (fun _ => ?_) (fun z => absurd rfl z)
      repeat (first | refine e2_step rfl rfl ?_ | refine e2_get rfl (by first | exact hi | decide) rfl rfl ?_)
      exact e2_iret rfl rfl ⟨rfl, rfl⟩
    · refine C2.of (ls := [some (.inr (0, 50)), some (.inl w), some (.inl p)]) okX9_inFrame rfl rfl ?_
      repeat (first | refine e2_step rfl rfl ?_ | refine e2m_get rfl rfl ?_ | refine e2m_ld _ rfl rfl (by omega) ?_)
      refine e2_fs (m_isWalk w) rfl rfl ⟨rfl, rfl, rfl⟩ rfl rfl rfl ?_
      rw [hw2]
      refine e2_if rfl rfl (fun _ => ?_) (fun z => absurd rfl z)
      repeat (first | refine e2_step rfl rfl ?_ | refine e2m_get rfl rfl ?_ | refine e2m_ld _ rfl rfl (by omega) ?_)
      exact e2_iret rfl rfl ⟨rfl, rfl⟩
def bcR (r : Nat → Int32) (w : Nat) : Nat → Int32 × Int32
  | 0 => (-9, -1)
  | c + 1 => if (bcR r w c).2 < (if walkByr r (nI c) = -9 then r (963 + 8 * c + w) else -1) then (nI c, if walkByr r (nI c) = -9 then r (963 + 8 * c + w) else -1) else bcR r w c
theorem m_bestCarrier {w : Nat} (hw : w < 8) : FM ε jX9_bestCarrier [.inl (nI w)] G r t o x (some (bcR r w 6).1) r t o x := by
  obtain ⟨n6, h6⟩ : ∃ n, n = 6 := ⟨_, rfl⟩
  rw [← h6]
  refine C2.of (ls := [some (.inr (0, 50)), some (.inl (nI w)), none, none, none, none]) okX9_bestCarrier rfl rfl ?_
  repeat (first | refine e2_step rfl rfl ?_ | refine e2m_get rfl rfl ?_ | refine e2m_ld _ rfl rfl (by omega) ?_)
  refine e2_fs (m_isWalk (nI w)) rfl rfl ⟨rfl, rfl, rfl⟩ rfl rfl rfl ?_
  rw [isIn_nI' (by omega) (by decide)]
  refine e2_if rfl rfl (fun _ => ?_) (fun z => absurd (by decide) z)
  repeat (first | refine e2_stepS 17 rfl rfl rfl ?_ | refine e2m_getS 17 rfl rfl rfl ?_ | refine e2m_ldS 17 rfl _ rfl rfl (by omega) ?_)
  refine e2_drop (ls' := [some (.inr (0, 50)), some (.inl (nI w)), some (.inl (-9)), some (.inl (-1)), some (.inl (nI 0)), none]) ⟨rfl, rfl, rfl, rfl, rfl, trivial⟩ ?_
  refine e2_for n6 (fun c => [some (.inr (0, 50)), some (.inl (nI w)), some (.inl (bcR r w c).1), some (.inl (bcR r w c).2), some (.inl (nI c)), none]) (fun _ => mG G r t o x) (fun c hc K => ?_) (fun M hM => ?_)
  · have h55 : ∀ n, n = (if walkByr r (nI c) = -9 then r (963 + 8 * c + w) else -1) → E2 ε jX9_bestCarrier 55 [some (.inr (0, 50)), some (.inl (nI w)), some (.inl (bcR r w c).1), some (.inl (bcR r w c).2), some (.inl (nI c)), none] [.inl n] (mG G r t o x) (fun v' G' => v' = some (bcR r w n6).1 ∧ G' = mG G r t o x) := by
      intro n hn
      simp only [bcR] at K
      rw [← hn] at K
      repeat (first | refine e2_step rfl rfl ?_ | refine e2m_get rfl rfl ?_ | refine e2m_ld _ rfl rfl (by omega) ?_)
      refine e2_if rfl rfl (fun z => ?_) (fun z => ?_)
      · rw [if_neg (Int32.not_lt.2 z)] at K
        repeat (first | refine e2_step rfl rfl ?_ | refine e2m_get rfl rfl ?_ | refine e2m_ld _ rfl rfl (by omega) ?_)
        refine e2_if rfl rfl (fun _ => ?_) (fun z2 => absurd z z2)
        repeat (first | refine e2_stepS 17 rfl rfl rfl ?_ | refine e2m_getS 17 rfl rfl rfl ?_ | refine e2m_ldS 17 rfl _ rfl rfl (by omega) ?_)
        rw [nI_add']
        exact e2_dropK K ⟨rfl, rfl, rfl, rfl, rfl, trivial⟩
      · rw [if_pos (Int32.not_le.1 z)] at K
        repeat (first | refine e2_step rfl rfl ?_ | refine e2m_get rfl rfl ?_ | refine e2m_ld _ rfl rfl (by omega) ?_)
        refine e2_if rfl rfl (fun z2 => absurd z2 z) (fun _ => ?_)
        repeat (first | refine e2_stepS 17 rfl rfl rfl ?_ | refine e2m_getS 17 rfl rfl rfl ?_ | refine e2m_ldS 17 rfl _ rfl rfl (by omega) ?_)
        rw [nI_add']
        exact e2_dropK K ⟨rfl, rfl, rfl, rfl, rfl, trivial⟩
    repeat (first | refine e2_step rfl rfl ?_ | refine e2m_get rfl rfl ?_ | refine e2m_ld _ rfl rfl (by omega) ?_)
    refine e2_if rfl rfl (fun z => absurd z (nI_ge (by omega) (by omega))) (fun _ => ?_)
    repeat (first | refine e2_step rfl rfl ?_ | refine e2m_get rfl rfl ?_ | refine e2m_ld _ rfl rfl (by omega) ?_)
    refine e2_fi (m_walkBy (nI c)) rfl rfl ⟨rfl, rfl, rfl⟩ rfl rfl rfl (by first | exact hi | decide) rfl rfl rfl ?_
    repeat (first | refine e2_step rfl rfl ?_ | refine e2m_get rfl rfl ?_ | refine e2m_ld _ rfl rfl (by omega) ?_)
    refine e2_if rfl rfl (fun z => ?_) (fun z => ?_)
    · repeat (first | refine e2_stepS 55 rfl rfl rfl ?_ | refine e2m_getS 55 rfl rfl rfl ?_ | refine e2m_ldS 55 rfl _ rfl rfl (by omega) ?_)
      exact h55 _ (by rw [if_neg z])
    · repeat (first | refine e2_step rfl rfl ?_ | refine e2m_get rfl rfl ?_ | refine e2m_ld _ rfl rfl (by omega) ?_)
      refine e2m_ld (963 + 8 * c + w) rfl (by rw [pk_mul, nI_add', nI_add']) (by omega) ?_
      repeat (first | refine e2_stepS 55 rfl rfl rfl ?_ | refine e2m_getS 55 rfl rfl rfl ?_ | refine e2m_ldS 55 rfl _ rfl rfl (by omega) ?_)
      exact h55 _ (by rw [if_pos (Classical.not_not.1 z)])
  · repeat (first | refine e2_step rfl rfl ?_ | refine e2m_get rfl rfl ?_ | refine e2m_ld _ rfl rfl (by omega) ?_)
    refine e2_if rfl rfl (fun _ => ?_) (fun c => absurd (by rw [hM, h6]; exact Int32.le_refl _) c)
    repeat (first | refine e2_step rfl rfl ?_ | refine e2m_get rfl rfl ?_ | refine e2m_ld _ rfl rfl (by omega) ?_)
    exact e2_iret rfl rfl ⟨by rw [hM], rfl⟩
theorem bcR_bww {N w : Nat} (hO : RO V r N) (hw : w < 8) (hr : ∀ k, k < 48 → ∃ c, c ≤ K ∧ r (963 + k) = nI c) (hK : K < 100000) : ∀ c, c ≤ 6 → bcR r w c = (match bwwV V w c with
    | none => (-9, -1)
    | some b => (nI b, V 16 (b * 8 + w)))
  | 0, _ => rfl
  | c + 1, hc => by
    have ih := bcR_bww hO hw hr hK c (by omega)
    have h16 : ∀ b, b < 6 → V 16 (b * 8 + w) = r (963 + 8 * b + w) := fun b hb => by
      rw [hO.1.2.2.2.2.2.2.2.2.2.2.1 (b * 8 + w) (by omega), show 963 + (b * 8 + w) = 963 + 8 * b + w by omega]
    have hneg : ∀ b, b < 6 → (-1 : Int32) < r (963 + 8 * b + w) := fun b hb => by
      obtain ⟨y, y1, y2⟩ := hr (b * 8 + w) (by omega)
      rw [show 963 + 8 * b + w = 963 + (b * 8 + w) by omega, y2, Int32.lt_iff_toInt_lt, nI_toInt (by omega)]
      have : (-1 : Int32).toInt = -1 := by decide
      omega
    have hb : bcR r w (c + 1) = if (bcR r w c).2 < (if walkByr r (nI c) = -9 then r (963 + 8 * c + w) else -1) then (nI c, if walkByr r (nI c) = -9 then r (963 + 8 * c + w) else -1) else bcR r w c := rfl
    have hs : bwwV V w (c + 1) = if V 13 c = -9 then (match bwwV V w c with
      | none => some c
      | some b => if V 16 (c * 8 + w) ≤ V 16 (b * 8 + w) then some b else some c) else bwwV V w c := rfl
    rw [hb, hs, ← hO.1.wby (by omega)]
    by_cases hz : V 13 c = -9
    · rw [if_pos hz, if_pos hz]
      cases hw0 : bwwV V w c with
      | none =>
        rw [hw0] at ih
        rw [ih]
        dsimp only
        rw [if_pos (hneg c (by omega)), h16 c (by omega)]
      | some b =>
        have hlt := bwwV_lt V w c b hw0
        rw [hw0] at ih
        rw [ih]
        dsimp only
        have ec := h16 c (by omega)
        by_cases hle : V 16 (c * 8 + w) ≤ V 16 (b * 8 + w)
        · rw [if_pos hle, if_neg (show ¬ V 16 (b * 8 + w) < r (963 + 8 * c + w) from by rw [← ec]; exact Int32.not_lt.2 hle)]
        · rw [if_neg hle, if_pos (show V 16 (b * 8 + w) < r (963 + 8 * c + w) from by rw [← ec]; exact Int32.not_le.1 hle), ← ec]
    · rw [if_neg hz, if_neg hz]
      cases hw0 : bwwV V w c with
      | none =>
        rw [hw0] at ih
        rw [ih]
        dsimp only
        rw [if_neg (by decide)]
      | some b =>
        have hlt := bwwV_lt V w c b hw0
        rw [hw0] at ih
        rw [ih]
        dsimp only
        have h9 := hneg b (by omega)
        rw [← h16 b (by omega)] at h9
        rw [if_neg (Int32.not_lt.2 (Int32.le_of_lt h9))]
theorem op_bestCarrier (h : RR G r t x K) (hK : K < 100000) (w : Int32) : OpOk ε jX8_bestCarrier jX9_bestCarrier [.inl w] G r t x K := by
  by_cases hw : isInB w (nI 0) (nI 7) = true
  · obtain ⟨u, hu, rfl⟩ := isIn_nI (by decide) hw
    obtain ⟨N, hO⟩ := h.ro
    have hb := bcR_bww hO (w := u) (by omega) h.1.1.2.2 hK 6 (Nat.le_refl _)
    refine OpOk.same (a := (bcR r u 6).1) h ?_ (fun G1 o => ⟨o, m_bestCarrier (by omega)⟩)
    refine C2.of (ls := [some (.inr (0, 30)), some (.inl (nI u))]) okX8_bestCarrier rfl rfl ?_
    repeat (first | refine e2_step rfl rfl ?_ | refine e2_get rfl (by first | exact hi | decide) rfl rfl ?_)
    refine e2_fs (c_isWalk (nI u)) rfl rfl ⟨rfl, rfl, rfl⟩ rfl rfl rfl ?_
    rw [hw]
    refine e2_if rfl rfl (fun _ => ?_) (fun z => absurd (by decide) z)
    repeat (first | refine e2_step rfl rfl ?_ | refine e2_get rfl (by first | exact hi | decide) rfl rfl ?_)
    refine e2_fi (fc_same (i := 0) (k_bww (w := u) (by decide) (by omega))) rfl rfl ⟨rfl, rfl, rfl⟩ rfl rfl rfl (by first | exact hi | decide) rfl rfl rfl ?_
    refine e2_iret rfl rfl ⟨?_, rfl⟩
    rw [hb]
    cases bwwV (G 0) u 6 with
    | none => rfl
    | some b => rfl
  · have hw2 := eq_false_of_ne_true hw
    refine OpOk.same (a := -1) h ?_ (fun G1 o => ⟨o, ?_⟩)
    · refine C2.of (ls := [some (.inr (0, 30)), some (.inl w)]) okX8_bestCarrier rfl rfl ?_
      repeat (first | refine e2_step rfl rfl ?_ | refine e2_get rfl (by first | exact hi | decide) rfl rfl ?_)
      refine e2_fs (c_isWalk w) rfl rfl ⟨rfl, rfl, rfl⟩ rfl rfl rfl ?_
      rw [hw2]
      refine e2_if rfl rfl (fun z => absurd rfl z) (fun _ => ?_)
      repeat (first | refine e2_step rfl rfl ?_ | refine e2_get rfl (by first | exact hi | decide) rfl rfl ?_)
      exact e2_iret rfl rfl ⟨rfl, rfl⟩
    · refine C2.of (ls := [some (.inr (0, 50)), some (.inl w), none, none, none, none]) okX9_bestCarrier rfl rfl ?_
      repeat (first | refine e2_step rfl rfl ?_ | refine e2m_get rfl rfl ?_ | refine e2m_ld _ rfl rfl (by omega) ?_)
      refine e2_fs (m_isWalk w) rfl rfl ⟨rfl, rfl, rfl⟩ rfl rfl rfl ?_
      rw [hw2]
      refine e2_if rfl rfl (fun z => absurd rfl z) (fun _ => ?_)
      repeat (first | refine e2_step rfl rfl ?_ | refine e2m_get rfl rfl ?_ | refine e2m_ld _ rfl rfl (by omega) ?_)
      exact e2_iret rfl rfl ⟨rfl, rfl⟩
end OF
