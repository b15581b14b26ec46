/-! Operations: assign; the text that is empty. -/
section OC
variable {ε : EE} {J J' : JT} {pc : Nat} {ls : List (Option V0)} {st : List V0} {As : List V0} {G G' G0 G1 : GG} {V V' : VV} {i N Y d l w : Nat} {p c : Option Nat} {s a : Int32} {o : Nat → Int32} {Q : Option Int32 → GG → Prop}
theorem firstFrom_no {q : Nat → Bool} : ∀ k w, firstFrom q k w = -9 → w + k < 2 ^ 31 → ∀ j, w ≤ j → j < w + k → q j = false
  | 0, w, _, _, j, h1, h2 => by omega
  | k + 1, w, h, hb, j, h1, h2 => by
    have e : firstFrom q (k + 1) w = if q w then nI w else firstFrom q k (w + 1) := rfl
    rw [e] at h
    by_cases hq : q w = true
    · rw [if_pos hq] at h
      exact absurd h (nI_n9 (by omega))
    · rw [if_neg hq] at h
      by_cases hj : j = w
      · rw [hj]
        exact eq_false_of_ne_true hq
      · exact firstFrom_no k (w + 1) h (by omega) j (by omega) (by omega)
/-- p is the carrier that has walk w -/
def Has (V : VV) (w : Nat) (p : Option Nat) : Prop := ofwV V (nI w) = oI p ∧ (∀ a, p = some a → a < 6 ∧ V 13 a = nI w) ∧ (p = none → ∀ a, a < 6 → ¬ V 13 a = nI w)
theorem has_of (V : VV) (w : Nat) : ∃ p, Has V w p := by
  unfold Has ofwV
  rcases firstFrom_c (fun c => decide (V 13 c = nI w)) 6 0 with h | ⟨j, -, j2, j3, j4⟩
  · refine ⟨none, h, (fun a ha => by cases ha), fun _ a ha z => ?_⟩
    have := firstFrom_no 6 0 h (by decide) a (by omega) (by omega)
    rw [decide_eq_true z] at this
    cases this
  · refine ⟨some j, j3, fun a ha => ?_, fun z => by cases z⟩
    cases ha
    exact ⟨by omega, of_decide_eq_true j4⟩
theorem IV.asg (h : IV V N Y) (hw : w < 8) (hp : Has V w p) (hp0 : ∀ a, p = some a → V 14 a = nI 0) (hc : ∀ b, c = some b → b < 6 ∧ (V 13 b = -9 ∨ V 13 b = nI w)) : IV (asV V w p c) N Y := by
  obtain ⟨⟨a1, ⟨k1, k2⟩, fr, e⟩, hh, hd⟩ := h
  obtain ⟨-, h1, h2⟩ := hp
  have o : ∀ kk, kk ≠ 13 → asV V w p c kk = V kk := fun kk hk => asV_o hk
  have hw9 : ¬ nI w = -9 := nI_n9 (by omega)
  -- nobody else has the walk
  have hun : ∀ a, a < 6 → V 13 a = nI w → p = some a := fun a ha z => by
    cases hpp : p with
    | none => exact absurd z (h2 hpp a ha)
    | some b =>
      obtain ⟨b1, b2⟩ := h1 b hpp
      rcases k2 a b ha b1 (z.trans b2.symm) with q | q
      · exact absurd (z.symm.trans q) hw9
      · rw [q]
  refine ⟨⟨a1.congr (o 0 (by decide)) (o 2 (by decide)) (o 3 (by decide)) (o 17 (by decide)), ⟨fun a ha => ?_, fun a b ha hb z => ?_⟩, fr.congr (o 7 (by decide)) (o 8 (by decide)) (o 11 (by decide)), fun l hl => ?_⟩, fun l hl z => ?_, ?_⟩
  · obtain ⟨c1, c2, c3⟩ := k1 a ha
    rw [o 14 (by decide), asV_13]
    refine ⟨c1, ?_, fun z => ?_⟩
    · by_cases hca : c = some a
      · rw [if_pos hca]
        exact Or.inr ⟨w, hw, rfl⟩
      · rw [if_neg hca]
        by_cases hpa : p = some a
        · rw [if_pos hpa]
          exact Or.inl rfl
        · rw [if_neg hpa]
          exact c2
    · by_cases hca : c = some a
      · rw [if_pos hca]
        exact hw9
      · rw [if_neg hca]
        by_cases hpa : p = some a
        · rw [hp0 a hpa] at z
          exact absurd z (by decide)
        · rw [if_neg hpa]
          exact c3 z
  · rw [asV_13, asV_13] at z
    rw [asV_13]
    by_cases hca : c = some a
    · rw [if_pos hca] at z ⊢
      by_cases hcb : c = some b
      · exact Or.inr (Option.some.inj (hca.symm.trans hcb))
      · rw [if_neg hcb] at z
        by_cases hpb : p = some b
        · rw [if_pos hpb] at z
          exact absurd z hw9
        · rw [if_neg hpb] at z
          exact absurd (hun b hb z.symm) hpb
    · rw [if_neg hca] at z ⊢
      by_cases hpa : p = some a
      · rw [if_pos hpa]
        exact Or.inl rfl
      · rw [if_neg hpa] at z ⊢
        by_cases hcb : c = some b
        · rw [if_pos hcb] at z
          exact absurd (hun a ha z) hpa
        · rw [if_neg hcb] at z
          by_cases hpb : p = some b
          · rw [if_pos hpb] at z
            exact Or.inl z
          · rw [if_neg hpb] at z
            exact k2 a b ha hb z
  · have := e l hl
    unfold IL at this ⊢
    rw [o 4 (by decide), o 5 (by decide), o 7 (by decide), o 6 (by decide), o 8 (by decide), o 10 (by decide), o 9 (by decide), o 0 (by decide)]
    exact this
  · rw [o 7 (by decide)] at z
    rw [o 8 (by decide), o 14 (by decide)]
    exact hh l hl z
  · unfold ID at hd ⊢
    rw [o 15 (by decide), hd, P7_congr (o 7 (by decide))]
theorem asg_can (hc : Can V) : Can (asV V w p c) := hc.of (fun kk hk => asV_o (by omega))
theorem asg_has (h : IV (asV V w p c) N Y) (hp : Has V w p) (hw : w < 8) (hc : ∀ b, c = some b → b < 6) (hi : IV V N Y) : Has (asV V w p c) w c := by
  obtain ⟨q, e, e1, e2⟩ := has_of (asV V w p c) w
  have hw9 : ¬ nI w = -9 := nI_n9 (by omega)
  have hq : q = c := by
    cases hcc : c with
    | none =>
      cases hqq : q with
      | none => rfl
      | some a =>
        exfalso
        obtain ⟨z1, z2⟩ := e1 a hqq
        rw [asV_13, if_neg (by rw [hcc]; exact fun z => by cases z)] at z2
        by_cases hpa : p = some a
        · rw [if_pos hpa] at z2
          exact hw9 z2.symm
        · rw [if_neg hpa] at z2
          cases hpp : p with
          | none => exact hp.2.2 hpp a z1 z2
          | some b =>
            obtain ⟨b1, b2⟩ := hp.2.1 b hpp
            rcases hi.1.2.1.2 a b z1 b1 (z2.trans b2.symm) with y | y
            · exact hw9 (z2.symm.trans y)
            · exact hpa (by rw [hpp, y])
    | some b =>
      have hb6 := hc b hcc
      have e13 : asV V w p c 13 b = nI w := by rw [asV_13, if_pos hcc]
      cases hqq : q with
      | none => exact absurd e13 (e2 hqq b hb6)
      | some a =>
        obtain ⟨z1, z2⟩ := e1 a hqq
        rcases h.1.2.1.2 a b z1 hb6 (z2.trans e13.symm) with y | y
        · exact absurd (z2.symm.trans y) hw9
        · rw [y]
  rw [hq] at e e1 e2
  exact ⟨e, e1, e2⟩
theorem as_in (hw : w < 8) (hc6 : ∀ b, c = some b → b < 6) (hp : Has (O G 0) w p) : ∀ Q, E2 ε jX8_assign 36 [some (.inr (0, 30)), some (.inl (nI w)), some (.inl (cI c)), some (.inr (0, 12)), some (.inl (oI p))] [] G Q → E2 ε jX8_assign 0 [some (.inr (0, 30)), some (.inl (nI w)), some (.inl (cI c)), none, none] [] G Q := by
  intro Q k
  have hcin : isInB (cI c) (-1) (nI 5) = true := by
    rw [isIn_m1]
    cases c with
    | none => exact Or.inl rfl
    | some b => exact Or.inr (isIn_T (by have := hc6 b rfl; omega) (by decide))
  repeat (first | refine e2_step rfl rfl ?_ | refine e2_get rfl (by first | exact hi | decide) rfl rfl ?_)
  refine e2_fs (c_isWalkT hw) rfl rfl ⟨rfl, rfl, rfl⟩ rfl rfl rfl ?_
  refine e2_if rfl rfl (fun z => absurd z (by decide)) (fun _ => ?_)
  repeat (first | refine e2_step rfl rfl ?_ | refine e2_get rfl (by first | exact hi | decide) rfl rfl ?_)
  refine e2_fs (c_isIn (cI c) (-1) (nI 5)) rfl rfl ⟨rfl, rfl, rfl⟩ rfl rfl rfl ?_
  rw [hcin]
  refine e2_if rfl rfl (fun _ => ?_) (fun z => absurd (by decide) z)
  repeat (first | refine e2_step rfl rfl ?_ | refine e2_get rfl (by first | exact hi | decide) rfl rfl ?_)
  refine e2_fi (fo_same (i := 0) (k_ofWalk (by decide) (nI w))) rfl rfl ⟨rfl, rfl, rfl⟩ rfl rfl rfl (by first | exact hi | decide) rfl rfl rfl ?_
  rw [hp.1]
  repeat (first | refine e2_stepS 36 rfl rfl rfl ?_)
  exact k
theorem as_64 (hc6 : ∀ b, c = some b → b < 6) (hel : ¬ ∃ b, c = some b ∧ ¬ O G 0 13 b = -9 ∧ ¬ O G 0 13 b = nI w) : ∀ Q, E2 ε jX8_assign 64 [some (.inr (0, 30)), some (.inl (nI w)), some (.inl (cI c)), some (.inr (0, 12)), some (.inl (oI p))] [] G Q → E2 ε jX8_assign 36 [some (.inr (0, 30)), some (.inl (nI w)), some (.inl (cI c)), some (.inr (0, 12)), some (.inl (oI p))] [] G Q := by
  intro Q k
  repeat (first | refine e2_step rfl rfl ?_ | refine e2_get rfl (by first | exact hi | decide) rfl rfl ?_)
  cases c with
  | none => exact e2_if rfl rfl (fun _ => k) (fun z => absurd (show (-1 : Int32) < 0 by decide) z)
  | some b =>
    have hb := hc6 b rfl
    refine e2_if rfl rfl (fun z => absurd (show nI b < 0 from z) (nI_pos (by omega))) (fun _ => ?_)
    repeat (first | refine e2_step rfl rfl ?_ | refine e2_get rfl (by first | exact hi | decide) rfl rfl ?_)
    refine e2_iald (i := 0) (kk := 13) b rfl rfl (by decide) rfl hb ?_
    repeat (first | refine e2_step rfl rfl ?_ | refine e2_get rfl (by first | exact hi | decide) rfl rfl ?_)
    refine e2_if rfl rfl (fun _ => k) (fun e1 => ?_)
    repeat (first | refine e2_step rfl rfl ?_ | refine e2_get rfl (by first | exact hi | decide) rfl rfl ?_)
    refine e2_iald (i := 0) (kk := 13) b rfl rfl (by decide) rfl hb ?_
    repeat (first | refine e2_step rfl rfl ?_ | refine e2_get rfl (by first | exact hi | decide) rfl rfl ?_)
    exact e2_if rfl rfl (fun _ => k) (fun e2 => absurd ⟨b, rfl, e1, e2⟩ hel)
theorem D_assign (h : SG G0) (hN : IV (O G0 0) N 500) (hw : w < 8) (hp : Has (O G0 0) w p) (hp0 : ∀ a, p = some a → O G0 0 14 a = nI 0) (hc : ∀ b, c = some b → b < 6 ∧ (O G0 0 13 b = -9 ∨ O G0 0 13 b = nI w)) : Op ε jX8_assign [.inl (nI w), .inl (cI c)] G0 (oI p) (asV (O G0 0) w p c) := by
  refine Op.of (fun G hG => ?_)
  rw [← hG.oo (by decide)] at hp hp0 hc ⊢
  have hN := hG.IVo hN
  have h := hG.sg h
  have hi : (0 : Nat) < 19 := by decide
  have hel : ¬ ∃ b, c = some b ∧ ¬ O G 0 13 b = -9 ∧ ¬ O G 0 13 b = nI w := fun ⟨b, b1, b2, b3⟩ => by
    rcases (hc b b1).2 with z | z
    · exact b2 z
    · exact b3 z
  refine C2.of (ls := [some (.inr (0, 30)), some (.inl (nI w)), some (.inl (cI c)), none, none]) okX8_assign rfl rfl ?_
  refine as_in hw (fun b hb => (hc b hb).1) hp _ (as_64 (fun b hb => (hc b hb).1) hel _ ?_)
  have h82 : E2 ε jX8_assign 82 [some (.inr (0, 30)), some (.inl (nI w)), some (.inl (cI c)), some (.inr (0, 12)), some (.inl (oI p))] [] G (fun v G1 => v = some (oI p) ∧ Dn G G1 (asV (O G 0) w p c)) := by
    repeat (first | refine e2_step rfl rfl ?_ | refine e2_get rfl (by first | exact hi | decide) rfl rfl ?_)
    refine e2_callVv rfl ⟨rfl, rfl, rfl⟩ rfl rfl rfl rfl (by decide) rfl rfl rfl (q_rem h) (fun G1 z => ?_)
    obtain ⟨-, hQ⟩ := z
    have e0 := hQ.oo (j := 0) (by omega)
    have hfin := hQ.off (V' := asV (O G 0) w p c) (s := G1 0 40 1) (o := G1 0 41) h (asg_can O_can) ⟨N, hN.asg hw hp hp0 hc⟩
    rw [← e0] at hfin ⊢
    have h107 : E2 ε jX8_assign 107 [some (.inr (0, 30)), some (.inl (nI w)), some (.inl (cI c)), some (.inr (0, 12)), some (.inl (oI p))] [] (cG G1 0 (asP (O G1 0) p) (G1 0 40 1) (G1 0 41)) (fun v G2 => v = some (oI p) ∧ Dn G G2 (asV (O G1 0) w p c)) := by
      repeat (first | refine e2_step rfl rfl ?_ | refine e2_get rfl (by first | exact hi | decide) rfl rfl ?_)
      cases c with
      | none =>
        refine e2_if rfl rfl (fun _ => ?_) (fun z => absurd (show (-1 : Int32) < 0 by decide) z)
        repeat (first | refine e2_step rfl rfl ?_ | refine e2_get rfl (by first | exact hi | decide) rfl rfl ?_)
        exact e2_iret rfl rfl ⟨rfl, hfin⟩
      | some b =>
        have hb := (hc b rfl).1
        refine e2_if rfl rfl (fun z => absurd (show nI b < 0 from z) (nI_pos (by omega))) (fun _ => ?_)
        repeat (first | refine e2_step rfl rfl ?_ | refine e2c_get hi rfl rfl rfl rfl ?_ | refine e2c_lget rfl rfl ?_ | refine e2c_iald _ hi rfl rfl rfl rfl (by omega) ?_ | refine e2c_lald _ rfl rfl (by omega) ?_)
        refine e2c_iast b hi rfl rfl rfl rfl hb ?_
        repeat (first | refine e2_step rfl rfl ?_ | refine e2_get rfl (by first | exact hi | decide) rfl rfl ?_)
        exact e2_iret rfl rfl ⟨rfl, hfin⟩
    refine e2_cGin 0 ?_
    repeat (first | refine e2_step rfl rfl ?_ | refine e2_get rfl (by first | exact hi | decide) rfl rfl ?_)
    cases p with
    | none =>
      refine e2_if rfl rfl (fun _ => ?_) (fun z => absurd (show (-9 : Int32) < 0 by decide) z)
      exact h107
    | some a =>
      have ha := (hp.2.1 a rfl).1
      refine e2_if rfl rfl (fun z => absurd (show nI a < 0 from z) (nI_pos (by omega))) (fun _ => ?_)
      repeat (first | refine e2_step rfl rfl ?_ | refine e2c_get hi rfl rfl rfl rfl ?_ | refine e2c_lget rfl rfl ?_ | refine e2c_iald _ hi rfl rfl rfl rfl (by omega) ?_ | refine e2c_lald _ rfl rfl (by omega) ?_)
      refine e2c_iast a hi rfl rfl rfl rfl ha ?_
      exact h107
  repeat (first | refine e2_step rfl rfl ?_ | refine e2_get rfl (by first | exact hi | decide) rfl rfl ?_)
  cases p with
  | none => exact e2_if rfl rfl (fun _ => h82) (fun z => absurd (show (-9 : Int32) < 0 by decide) z)
  | some a =>
    have ha := (hp.2.1 a rfl).1
    refine e2_if rfl rfl (fun z => absurd (show nI a < 0 from z) (nI_pos (by omega))) (fun _ => ?_)
    repeat (first | refine e2_step rfl rfl ?_ | refine e2_get rfl (by first | exact hi | decide) rfl rfl ?_)
    refine e2_zald (i := 0) (kk := 14) a rfl rfl (by decide) rfl ha ?_
    rw [show G 0 14 a = nI 0 from hp0 a rfl]
    exact e2_if rfl rfl (fun _ => h82) (fun z => absurd rfl z)
theorem L_assignNo (hw : w < 8) (hp : Has (O G0 0) w p) (hc6 : ∀ b, c = some b → b < 6) (hno : (∃ b, c = some b ∧ ¬ O G0 0 13 b = -9 ∧ ¬ O G0 0 13 b = nI w) ∨ ∃ a, p = some a ∧ O G0 0 14 a = nI 1) : Lk ε jX8_assign [.inl (nI w), .inl (cI c)] G0 (-2) := by
  intro G hG
  rw [← hG.oo (by decide)] at hp hno
  refine FL.same ?_
  refine C2.of (ls := [some (.inr (0, 30)), some (.inl (nI w)), some (.inl (cI c)), none, none]) okX8_assign rfl rfl ?_
  refine as_in hw hc6 hp _ ?_
  by_cases hel : ∃ b, c = some b ∧ ¬ O G 0 13 b = -9 ∧ ¬ O G 0 13 b = nI w
  · obtain ⟨b, rfl, b2, b3⟩ := hel
    have hb := hc6 b rfl
    repeat (first | refine e2_step rfl rfl ?_ | refine e2_get rfl (by first | exact hi | decide) rfl rfl ?_)
    refine e2_if rfl rfl (fun z => absurd (show nI b < 0 from z) (nI_pos (by omega))) (fun _ => ?_)
    repeat (first | refine e2_step rfl rfl ?_ | refine e2_get rfl (by first | exact hi | decide) rfl rfl ?_)
    refine e2_iald (i := 0) (kk := 13) b rfl rfl (by decide) rfl hb ?_
    repeat (first | refine e2_step rfl rfl ?_ | refine e2_get rfl (by first | exact hi | decide) rfl rfl ?_)
    refine e2_if rfl rfl (fun z => absurd z b2) (fun _ => ?_)
    repeat (first | refine e2_step rfl rfl ?_ | refine e2_get rfl (by first | exact hi | decide) rfl rfl ?_)
    refine e2_iald (i := 0) (kk := 13) b rfl rfl (by decide) rfl hb ?_
    repeat (first | refine e2_step rfl rfl ?_ | refine e2_get rfl (by first | exact hi | decide) rfl rfl ?_)
    refine e2_if rfl rfl (fun z => absurd z b3) (fun _ => ?_)
    repeat (first | refine e2_step rfl rfl ?_ | refine e2_get rfl (by first | exact hi | decide) rfl rfl ?_)
    exact e2_iret rfl rfl ⟨rfl, rfl⟩
  · refine as_64 hc6 hel _ ?_
    rcases hno with z | ⟨a, rfl, e1⟩
    · exact absurd z hel
    · have ha := (hp.2.1 a rfl).1
      repeat (first | refine e2_step rfl rfl ?_ | refine e2_get rfl (by first | exact hi | decide) rfl rfl ?_)
      refine e2_if rfl rfl (fun z => absurd (show nI a < 0 from z) (nI_pos (by omega))) (fun _ => ?_)
      repeat (first | refine e2_step rfl rfl ?_ | refine e2_get rfl (by first | exact hi | decide) rfl rfl ?_)
      refine e2_zald (i := 0) (kk := 14) a rfl rfl (by decide) rfl ha ?_
      rw [show G 0 14 a = nI 1 from e1]
      refine e2_if rfl rfl (fun z => absurd z (by decide)) (fun _ => ?_)
      repeat (first | refine e2_step rfl rfl ?_ | refine e2_get rfl (by first | exact hi | decide) rfl rfl ?_)
      exact e2_iret rfl rfl ⟨rfl, rfl⟩
theorem xG_o {t f u w x : Nat → Int32} {i kk : Nat} (h : kk < 33 ∨ 37 < kk) : xG G t f u w x i kk = G i kk := by
  unfold xG
  rw [setA_k _ _ _ _ _ _ (by omega), setA_k _ _ _ _ _ _ (by omega), setA_k _ _ _ _ _ _ (by omega), setA_k _ _ _ _ _ _ (by omega), setA_k _ _ _ _ _ _ (by omega)]
/-- the empty text: a fault at its first place -/
theorem D_setRanges (h : SG G) : C2 ε jX8_setRanges [.inr (0, 30)] G (fun v G' => v = some (-1000) ∧ SG G' ∧ O G' 0 = O G 0 ∧ G' 0 22 = G 0 22 ∧ G' 0 31 = G 0 31) := by
  have hx : G 0 33 1 = nI 0 := h.2.2.2
  have hr := x_read (ε := ε) (G := G) (t := G 0 34) (f := G 0 35) (u := G 0 36) (w := G 0 37) (x := G 0 33) hx (by decide)
  rw [xG_self] at hr
  refine C2.of (ls := [some (.inr (0, 30)), none, none]) okX8_setRanges rfl rfl ?_
  repeat (first | refine e2_step rfl rfl ?_ | refine e2_get rfl (by first | exact hi | decide) rfl rfl ?_)
  refine e2_callVi rfl ⟨rfl, rfl, rfl⟩ rfl rfl rfl rfl (by decide) rfl rfl rfl hr (fun r G1 z => ?_)
  obtain ⟨f', u', w', i', a', br', z1, rfl, -⟩ := z
  have hp : fltI (prs (G 0 34) 0 (0 + 1) 0).2 = nI 0 := rfl
  rw [hp] at z1
  cases z1
  repeat (first | refine e2_step rfl rfl ?_ | refine e2_get rfl (by first | exact hi | decide) rfl rfl ?_)
  refine e2_if rfl rfl (fun z => absurd z (by decide)) (fun _ => ?_)
  repeat (first | refine e2_step rfl rfl ?_ | refine e2_get rfl (by first | exact hi | decide) rfl rfl ?_)
  have eO : ∀ j, O (xG G (G 0 34) f' u' w' (xst (G 0 33) i' a' br')) j = O G j := fun j => O_eq (fun kk hk => xG_o (by omega))
  have e33 : xG G (G 0 34) f' u' w' (xst (G 0 33) i' a' br') 0 33 1 = nI 0 := by
    unfold xG
    rw [setA_s]
    exact hx
  have e22 : xG G (G 0 34) f' u' w' (xst (G 0 33) i' a' br') 0 22 = G 0 22 := xG_o (by omega)
  have e31 : xG G (G 0 34) f' u' w' (xst (G 0 33) i' a' br') 0 31 = G 0 31 := xG_o (by omega)
  have e32 : xG G (G 0 34) f' u' w' (xst (G 0 33) i' a' br') 0 32 = G 0 32 := xG_o (by omega)
  obtain ⟨h1, h2, ⟨d, hm, h3⟩, -⟩ := h
  refine e2_iret rfl rfl ⟨rfl, ⟨by rw [eO]; exact h1, fun t ht => ?_, ⟨d, hm, h3.same e31 e32⟩, e33⟩, eO 0, e22, e31⟩
  rw [e22, eO]
  exact h2 t ht
end OC
