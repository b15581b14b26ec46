/-! Calls: letter. -/
section OD
variable {ε : EE} {J J1 J2 : JT} {pc : Nat} {ls : List (Option V0)} {st : List V0} {As : List V0} {G G' : GG} {r r' t x o : Nat → Int32} {K K' : Nat} {Q : Option Int32 → GG → Prop}
theorem isIn_lt {n : Int32} {N : Nat} (hN : N ≤ 120) (h : isInB n (nI 0) (nI N - nI 1) = true) : ∃ l, l < N ∧ n = nI l := by
  cases N with
  | zero =>
    exfalso
    simp only [isInB, Bool.and_eq_true, decide_eq_true_eq] at h
    have h1 := Int32.le_iff_toInt_le.1 (Int32.le_trans h.1 h.2)
    exact absurd h1 (by decide)
  | succ N =>
    rw [pk_sub (by omega), Nat.add_sub_cancel] at h
    obtain ⟨k, hk, e⟩ := isIn_nI (by omega) h
    exact ⟨k, by omega, e⟩
theorem op_letter (h : RR G r t x K) (l q : Int32) : OpOk ε jX8_letter jX9_letter [.inl l, .inl q] G r t x K := by
  obtain ⟨N, hO⟩ := h.ro
  have hN2 : N ≤ 120 := hO.1.1
  have hc : G 0 3 8 = nI N := hO.1.2.1
  have hN : r 100 = nI N := hO.1.2.2.1
  by_cases hb : isInB l (nI 0) (nI N - nI 1) = true
  · obtain ⟨l, hl, rfl⟩ := isIn_lt hN2 hb
    have hcl : ∀ Q, E2 ε jX8_letter 21 [some (.inr (0, 30)), some (.inl (nI l)), some (.inl q), some (.inr (0, 3))] [] G Q → E2 ε jX8_letter 0 [some (.inr (0, 30)), some (.inl (nI l)), some (.inl q), none] [] G Q := by
      intro Q k
      repeat (first | refine e2_step rfl rfl ?_ | refine e2_get rfl (by first | exact hi | decide) rfl rfl ?_)
      refine e2_fi (fc_same (i := 0) (v_has (by decide) hN2 hc hl)) rfl rfl ⟨rfl, rfl, rfl⟩ rfl rfl rfl (by first | exact hi | decide) rfl rfl rfl ?_
      refine e2_if rfl rfl (fun _ => ?_) (fun z => absurd (by decide) z)
      exact k
    have hml : ∀ (G1 : GG) (o : Nat → Int32) Q, E2 ε jX9_letter 19 [some (.inr (0, 50)), some (.inl (nI l)), some (.inl q)] [] (mG G1 r t o x) Q → E2 ε jX9_letter 0 [some (.inr (0, 50)), some (.inl (nI l)), some (.inl q)] [] (mG G1 r t o x) Q := by
      intro G1 o Q k
      repeat (first | refine e2_step rfl rfl ?_ | refine e2m_get rfl rfl ?_ | refine e2m_ld _ rfl rfl (by omega) ?_)
      rw [hN]
      refine e2_fs (m_in (nI l) (nI 0) (nI N - nI 1)) rfl rfl ⟨rfl, rfl, rfl⟩ rfl rfl rfl ?_
      rw [hb]
      refine e2_if rfl rfl (fun _ => ?_) (fun z => absurd (by decide) z)
      exact k
    have hl2 : l < 120 := by omega
    obtain ⟨⟨a1, -⟩, ⟨b1, -⟩, ⟨c1, -⟩, ⟨d1, -⟩, ⟨e1, e2⟩, f1, f3⟩ := hO.2.1 l hl
    by_cases hq : isInB q (nI 0) (nI 8) = true
    · obtain ⟨k, hk, rfl⟩ := isIn_nI (by decide) hq
      rcases (show k = 0 ∨ k = 1 ∨ k = 2 ∨ k = 3 ∨ k = 4 ∨ k = 5 ∨ k = 6 ∨ k = 7 ∨ k = 8 by omega) with rfl | rfl | rfl | rfl | rfl | rfl | rfl | rfl | rfl
      · refine OpOk.same (a := ofr r l 0) h ?_ (fun G1 o => ⟨o, ?_⟩)
        · refine C2.of (ls := [some (.inr (0, 30)), some (.inl (nI l)), some (.inl (nI 0)), none]) okX8_letter rfl rfl ?_
          refine hcl _ ?_
          refine e2_step rfl rfl ?_
          refine e2_tabIn 0 dX8_letter_22 (by decide) (by decide) rfl (tgt := 72) (by decide) ?_
          repeat (first | refine e2_step rfl rfl ?_ | refine e2_get rfl (by first | exact hi | decide) rfl rfl ?_)
          refine e2_iald (i := 0) (kk := 4) l rfl rfl (by decide) rfl hl2 ?_
          exact e2_iret rfl rfl ⟨by rw [a1], rfl⟩
        · refine C2.of (ls := [some (.inr (0, 50)), some (.inl (nI l)), some (.inl (nI 0))]) okX9_letter rfl rfl ?_
          refine hml _ _ _ ?_
          refine e2_step rfl rfl ?_
          refine e2_tabIn 0 dX9_letter_20 (by decide) (by decide) rfl (tgt := 72) (by decide) ?_
          repeat (first | refine e2_step rfl rfl ?_ | refine e2m_get rfl rfl ?_ | refine e2m_ld _ rfl rfl (by omega) ?_)
          refine e2_fi (m_of hl2 (k := 0) (by decide)) rfl rfl ⟨rfl, rfl, rfl⟩ rfl rfl rfl (by first | exact hi | decide) rfl rfl rfl ?_
          exact e2_iret rfl rfl ⟨rfl, rfl⟩
      · refine OpOk.same (a := ofr r l 1) h ?_ (fun G1 o => ⟨o, ?_⟩)
        · refine C2.of (ls := [some (.inr (0, 30)), some (.inl (nI l)), some (.inl (nI 1)), none]) okX8_letter rfl rfl ?_
          refine hcl _ ?_
          refine e2_step rfl rfl ?_
          refine e2_tabIn 1 dX8_letter_22 (by decide) (by decide) rfl (tgt := 79) (by decide) ?_
          repeat (first | refine e2_step rfl rfl ?_ | refine e2_get rfl (by first | exact hi | decide) rfl rfl ?_)
          refine e2_iald (i := 0) (kk := 5) l rfl rfl (by decide) rfl hl2 ?_
          exact e2_iret rfl rfl ⟨by rw [b1], rfl⟩
        · refine C2.of (ls := [some (.inr (0, 50)), some (.inl (nI l)), some (.inl (nI 1))]) okX9_letter rfl rfl ?_
          refine hml _ _ _ ?_
          refine e2_step rfl rfl ?_
          refine e2_tabIn 1 dX9_letter_20 (by decide) (by decide) rfl (tgt := 79) (by decide) ?_
          repeat (first | refine e2_step rfl rfl ?_ | refine e2m_get rfl rfl ?_ | refine e2m_ld _ rfl rfl (by omega) ?_)
          refine e2_fi (m_of hl2 (k := 1) (by decide)) rfl rfl ⟨rfl, rfl, rfl⟩ rfl rfl rfl (by first | exact hi | decide) rfl rfl rfl ?_
          exact e2_iret rfl rfl ⟨rfl, rfl⟩
      · refine OpOk.same (a := ofr r l 3) h ?_ (fun G1 o => ⟨o, ?_⟩)
        · refine C2.of (ls := [some (.inr (0, 30)), some (.inl (nI l)), some (.inl (nI 2)), none]) okX8_letter rfl rfl ?_
          refine hcl _ ?_
          refine e2_step rfl rfl ?_
          refine e2_tabIn 2 dX8_letter_22 (by decide) (by decide) rfl (tgt := 86) (by decide) ?_
          repeat (first | refine e2_step rfl rfl ?_ | refine e2_get rfl (by first | exact hi | decide) rfl rfl ?_)
          refine e2_iald (i := 0) (kk := 7) l rfl rfl (by decide) rfl hl2 ?_
          exact e2_iret rfl rfl ⟨by rw [d1], rfl⟩
        · refine C2.of (ls := [some (.inr (0, 50)), some (.inl (nI l)), some (.inl (nI 2))]) okX9_letter rfl rfl ?_
          refine hml _ _ _ ?_
          refine e2_step rfl rfl ?_
          refine e2_tabIn 2 dX9_letter_20 (by decide) (by decide) rfl (tgt := 86) (by decide) ?_
          repeat (first | refine e2_step rfl rfl ?_ | refine e2m_get rfl rfl ?_ | refine e2m_ld _ rfl rfl (by omega) ?_)
          refine e2_fi (m_of hl2 (k := 3) (by decide)) rfl rfl ⟨rfl, rfl, rfl⟩ rfl rfl rfl (by first | exact hi | decide) rfl rfl rfl ?_
          exact e2_iret rfl rfl ⟨rfl, rfl⟩
      · refine OpOk.same (a := if ofr r l 3 = nI 1 then ofr r l 4 else -9) h ?_ (fun G1 o => ⟨o, ?_⟩)
        · refine C2.of (ls := [some (.inr (0, 30)), some (.inl (nI l)), some (.inl (nI 3)), none]) okX8_letter rfl rfl ?_
          refine hcl _ ?_
          refine e2_step rfl rfl ?_
          refine e2_tabIn 3 dX8_letter_22 (by decide) (by decide) rfl (tgt := 93) (by decide) ?_
          repeat (first | refine e2_step rfl rfl ?_ | refine e2_get rfl (by first | exact hi | decide) rfl rfl ?_)
          refine e2_iald (i := 0) (kk := 7) l rfl rfl (by decide) rfl hl2 ?_
          rw [d1]
          repeat (first | refine e2_step rfl rfl ?_ | refine e2_get rfl (by first | exact hi | decide) rfl rfl ?_)
          refine e2_if rfl rfl (fun z => ?_) (fun z => ?_)
          · rw [if_neg z]
            repeat (first | refine e2_step rfl rfl ?_ | refine e2_get rfl (by first | exact hi | decide) rfl rfl ?_)
            exact e2_iret rfl rfl ⟨rfl, rfl⟩
          · rw [if_pos (Classical.not_not.1 z)]
            repeat (first | refine e2_step rfl rfl ?_ | refine e2_get rfl (by first | exact hi | decide) rfl rfl ?_)
            refine e2_iald (i := 0) (kk := 8) l rfl rfl (by decide) rfl hl2 ?_
            rw [(f1 (Classical.not_not.1 z)).1]
            repeat (first | refine e2_step rfl rfl ?_ | refine e2_get rfl (by first | exact hi | decide) rfl rfl ?_)
            exact e2_iret rfl rfl ⟨rfl, rfl⟩
        · refine C2.of (ls := [some (.inr (0, 50)), some (.inl (nI l)), some (.inl (nI 3))]) okX9_letter rfl rfl ?_
          refine hml _ _ _ ?_
          refine e2_step rfl rfl ?_
          refine e2_tabIn 3 dX9_letter_20 (by decide) (by decide) rfl (tgt := 93) (by decide) ?_
          repeat (first | refine e2_step rfl rfl ?_ | refine e2m_get rfl rfl ?_ | refine e2m_ld _ rfl rfl (by omega) ?_)
          refine e2_fi (m_of hl2 (k := 3) (by decide)) rfl rfl ⟨rfl, rfl, rfl⟩ rfl rfl rfl (by first | exact hi | decide) rfl rfl rfl ?_
          repeat (first | refine e2_step rfl rfl ?_ | refine e2m_get rfl rfl ?_ | refine e2m_ld _ rfl rfl (by omega) ?_)
          refine e2_if rfl rfl (fun z => ?_) (fun z => ?_)
          · rw [if_neg z]
            repeat (first | refine e2_step rfl rfl ?_ | refine e2m_get rfl rfl ?_ | refine e2m_ld _ rfl rfl (by omega) ?_)
            exact e2_iret rfl rfl ⟨rfl, rfl⟩
          · rw [if_pos (Classical.not_not.1 z)]
            repeat (first | refine e2_step rfl rfl ?_ | refine e2m_get rfl rfl ?_ | refine e2m_ld _ rfl rfl (by omega) ?_)
            refine e2_fi (m_of hl2 (k := 4) (by decide)) rfl rfl ⟨rfl, rfl, rfl⟩ rfl rfl rfl (by first | exact hi | decide) rfl rfl rfl ?_
            repeat (first | refine e2_step rfl rfl ?_ | refine e2m_get rfl rfl ?_ | refine e2m_ld _ rfl rfl (by omega) ?_)
            exact e2_iret rfl rfl ⟨rfl, rfl⟩
      · refine OpOk.same (a := if ofr r l 3 = nI 3 then ofr r l 4 else -9) h ?_ (fun G1 o => ⟨o, ?_⟩)
        · refine C2.of (ls := [some (.inr (0, 30)), some (.inl (nI l)), some (.inl (nI 4)), none]) okX8_letter rfl rfl ?_
          refine hcl _ ?_
          refine e2_step rfl rfl ?_
          refine e2_tabIn 4 dX8_letter_22 (by decide) (by decide) rfl (tgt := 115) (by decide) ?_
          repeat (first | refine e2_step rfl rfl ?_ | refine e2_get rfl (by first | exact hi | decide) rfl rfl ?_)
          refine e2_iald (i := 0) (kk := 7) l rfl rfl (by decide) rfl hl2 ?_
          rw [d1]
          repeat (first | refine e2_step rfl rfl ?_ | refine e2_get rfl (by first | exact hi | decide) rfl rfl ?_)
          refine e2_if rfl rfl (fun z => ?_) (fun z => ?_)
          · rw [if_neg z]
            repeat (first | refine e2_step rfl rfl ?_ | refine e2_get rfl (by first | exact hi | decide) rfl rfl ?_)
            exact e2_iret rfl rfl ⟨rfl, rfl⟩
          · rw [if_pos (Classical.not_not.1 z)]
            repeat (first | refine e2_step rfl rfl ?_ | refine e2_get rfl (by first | exact hi | decide) rfl rfl ?_)
            refine e2_iald (i := 0) (kk := 8) l rfl rfl (by decide) rfl hl2 ?_
            rw [(f3 (Classical.not_not.1 z)).1]
            repeat (first | refine e2_step rfl rfl ?_ | refine e2_get rfl (by first | exact hi | decide) rfl rfl ?_)
            exact e2_iret rfl rfl ⟨rfl, rfl⟩
        · refine C2.of (ls := [some (.inr (0, 50)), some (.inl (nI l)), some (.inl (nI 4))]) okX9_letter rfl rfl ?_
          refine hml _ _ _ ?_
          refine e2_step rfl rfl ?_
          refine e2_tabIn 4 dX9_letter_20 (by decide) (by decide) rfl (tgt := 115) (by decide) ?_
          repeat (first | refine e2_step rfl rfl ?_ | refine e2m_get rfl rfl ?_ | refine e2m_ld _ rfl rfl (by omega) ?_)
          refine e2_fi (m_of hl2 (k := 3) (by decide)) rfl rfl ⟨rfl, rfl, rfl⟩ rfl rfl rfl (by first | exact hi | decide) rfl rfl rfl ?_
          repeat (first | refine e2_step rfl rfl ?_ | refine e2m_get rfl rfl ?_ | refine e2m_ld _ rfl rfl (by omega) ?_)
          refine e2_if rfl rfl (fun z => ?_) (fun z => ?_)
          · rw [if_neg z]
            repeat (first | refine e2_step rfl rfl ?_ | refine e2m_get rfl rfl ?_ | refine e2m_ld _ rfl rfl (by omega) ?_)
            exact e2_iret rfl rfl ⟨rfl, rfl⟩
          · rw [if_pos (Classical.not_not.1 z)]
            repeat (first | refine e2_step rfl rfl ?_ | refine e2m_get rfl rfl ?_ | refine e2m_ld _ rfl rfl (by omega) ?_)
            refine e2_fi (m_of hl2 (k := 4) (by decide)) rfl rfl ⟨rfl, rfl, rfl⟩ rfl rfl rfl (by first | exact hi | decide) rfl rfl rfl ?_
            repeat (first | refine e2_step rfl rfl ?_ | refine e2m_get rfl rfl ?_ | refine e2m_ld _ rfl rfl (by omega) ?_)
            exact e2_iret rfl rfl ⟨rfl, rfl⟩
      · refine OpOk.same (a := ofr r l 2) h ?_ (fun G1 o => ⟨o, ?_⟩)
        · refine C2.of (ls := [some (.inr (0, 30)), some (.inl (nI l)), some (.inl (nI 5)), none]) okX8_letter rfl rfl ?_
          refine hcl _ ?_
          refine e2_step rfl rfl ?_
          refine e2_tabIn 5 dX8_letter_22 (by decide) (by decide) rfl (tgt := 137) (by decide) ?_
          repeat (first | refine e2_step rfl rfl ?_ | refine e2_get rfl (by first | exact hi | decide) rfl rfl ?_)
          refine e2_iald (i := 0) (kk := 6) l rfl rfl (by decide) rfl hl2 ?_
          exact e2_iret rfl rfl ⟨by rw [c1], rfl⟩
        · refine C2.of (ls := [some (.inr (0, 50)), some (.inl (nI l)), some (.inl (nI 5))]) okX9_letter rfl rfl ?_
          refine hml _ _ _ ?_
          refine e2_step rfl rfl ?_
          refine e2_tabIn 5 dX9_letter_20 (by decide) (by decide) rfl (tgt := 137) (by decide) ?_
          repeat (first | refine e2_step rfl rfl ?_ | refine e2m_get rfl rfl ?_ | refine e2m_ld _ rfl rfl (by omega) ?_)
          refine e2_fi (m_of hl2 (k := 2) (by decide)) rfl rfl ⟨rfl, rfl, rfl⟩ rfl rfl rfl (by first | exact hi | decide) rfl rfl rfl ?_
          exact e2_iret rfl rfl ⟨rfl, rfl⟩
      · refine OpOk.same (a := ofr r l 5) h ?_ (fun G1 o => ⟨o, ?_⟩)
        · refine C2.of (ls := [some (.inr (0, 30)), some (.inl (nI l)), some (.inl (nI 6)), none]) okX8_letter rfl rfl ?_
          refine hcl _ ?_
          refine e2_step rfl rfl ?_
          refine e2_tabIn 6 dX8_letter_22 (by decide) (by decide) rfl (tgt := 144) (by decide) ?_
          repeat (first | refine e2_step rfl rfl ?_ | refine e2_get rfl (by first | exact hi | decide) rfl rfl ?_)
          refine e2_iald (i := 0) (kk := 9) l rfl rfl (by decide) rfl hl2 ?_
          exact e2_iret rfl rfl ⟨by rw [e1], rfl⟩
        · refine C2.of (ls := [some (.inr (0, 50)), some (.inl (nI l)), some (.inl (nI 6))]) okX9_letter rfl rfl ?_
          refine hml _ _ _ ?_
          refine e2_step rfl rfl ?_
          refine e2_tabIn 6 dX9_letter_20 (by decide) (by decide) rfl (tgt := 144) (by decide) ?_
          repeat (first | refine e2_step rfl rfl ?_ | refine e2m_get rfl rfl ?_ | refine e2m_ld _ rfl rfl (by omega) ?_)
          refine e2_fi (m_of hl2 (k := 5) (by decide)) rfl rfl ⟨rfl, rfl, rfl⟩ rfl rfl rfl (by first | exact hi | decide) rfl rfl rfl ?_
          exact e2_iret rfl rfl ⟨rfl, rfl⟩
      · refine OpOk.same (a := ofr r l 6) h ?_ (fun G1 o => ⟨o, ?_⟩)
        · refine C2.of (ls := [some (.inr (0, 30)), some (.inl (nI l)), some (.inl (nI 7)), none]) okX8_letter rfl rfl ?_
          refine hcl _ ?_
          refine e2_step rfl rfl ?_
          refine e2_tabIn 7 dX8_letter_22 (by decide) (by decide) rfl (tgt := 151) (by decide) ?_
          repeat (first | refine e2_step rfl rfl ?_ | refine e2_get rfl (by first | exact hi | decide) rfl rfl ?_)
          refine e2_iald (i := 0) (kk := 10) l rfl rfl (by decide) rfl hl2 ?_
          exact e2_iret rfl rfl ⟨by rw [e2], rfl⟩
        · refine C2.of (ls := [some (.inr (0, 50)), some (.inl (nI l)), some (.inl (nI 7))]) okX9_letter rfl rfl ?_
          refine hml _ _ _ ?_
          refine e2_step rfl rfl ?_
          refine e2_tabIn 7 dX9_letter_20 (by decide) (by decide) rfl (tgt := 151) (by decide) ?_
          repeat (first | refine e2_step rfl rfl ?_ | refine e2m_get rfl rfl ?_ | refine e2m_ld _ rfl rfl (by omega) ?_)
          refine e2_fi (m_of hl2 (k := 6) (by decide)) rfl rfl ⟨rfl, rfl, rfl⟩ rfl rfl rfl (by first | exact hi | decide) rfl rfl rfl ?_
          exact e2_iret rfl rfl ⟨rfl, rfl⟩
      · refine OpOk.same (a := nI (wkr r l)) h ?_ (fun G1 o => ⟨o, ?_⟩)
        · refine C2.of (ls := [some (.inr (0, 30)), some (.inl (nI l)), some (.inl (nI 8)), none]) okX8_letter rfl rfl ?_
          refine hcl _ ?_
          refine e2_step rfl rfl ?_
          refine e2_tabIn 8 dX8_letter_22 (by decide) (by decide) rfl (tgt := 158) (by decide) ?_
          repeat (first | refine e2_step rfl rfl ?_ | refine e2_get rfl (by first | exact hi | decide) rfl rfl ?_)
          refine e2_fi (fc_same (i := 0) (w_walkOf (by decide) hN2 hO.okV hl)) rfl rfl ⟨rfl, rfl, rfl⟩ rfl rfl rfl (by first | exact hi | decide) rfl rfl rfl ?_
          exact e2_iret rfl rfl ⟨by rw [hO.wk hl], rfl⟩
        · refine C2.of (ls := [some (.inr (0, 50)), some (.inl (nI l)), some (.inl (nI 8))]) okX9_letter rfl rfl ?_
          refine hml _ _ _ ?_
          refine e2_step rfl rfl ?_
          refine e2_tabIn 8 dX9_letter_20 (by decide) (by decide) rfl (tgt := 159) (by decide) ?_
          repeat (first | refine e2_step rfl rfl ?_ | refine e2m_get rfl rfl ?_ | refine e2m_ld _ rfl rfl (by omega) ?_)
          refine e2_fi (m_walkOfk hO.okr hN2 hl) rfl rfl ⟨rfl, rfl, rfl⟩ rfl rfl rfl (by first | exact hi | decide) rfl rfl rfl ?_
          exact e2_iret rfl rfl ⟨rfl, rfl⟩
    · have ho := isIn_out (by decide) (by decide) hq
      refine OpOk.same (a := -1) h ?_ (fun G1 o => ⟨o, ?_⟩)
      · refine C2.of (ls := [some (.inr (0, 30)), some (.inl (nI l)), some (.inl q), none]) okX8_letter rfl rfl ?_
        refine hcl _ ?_
        refine e2_step rfl rfl ?_
        refine e2_tabOut dX8_letter_22 ho (tgt := 170) (by decide) ?_
        repeat (first | refine e2_step rfl rfl ?_ | refine e2_get rfl (by first | exact hi | decide) rfl rfl ?_)
        exact e2_iret rfl rfl ⟨rfl, rfl⟩
      · refine C2.of (ls := [some (.inr (0, 50)), some (.inl (nI l)), some (.inl q)]) okX9_letter rfl rfl ?_
        refine hml _ _ _ ?_
        refine e2_step rfl rfl ?_
        refine e2_tabOut dX9_letter_20 ho (tgt := 165) (by decide) ?_
        repeat (first | refine e2_step rfl rfl ?_ | refine e2m_get rfl rfl ?_ | refine e2m_ld _ rfl rfl (by omega) ?_)
        exact e2_iret rfl rfl ⟨rfl, rfl⟩
  · have hb2 := eq_false_of_ne_true hb
    refine OpOk.same (a := -1) h ?_ (fun G1 o => ⟨o, ?_⟩)
    · refine C2.of (ls := [some (.inr (0, 30)), some (.inl l), some (.inl q), none]) okX8_letter rfl rfl ?_
      repeat (first | refine e2_step rfl rfl ?_ | refine e2_get rfl (by first | exact hi | decide) rfl rfl ?_)
      refine e2_fi (fc_same (i := 0) (v_hasF (by decide) hN2 hc hb2)) rfl rfl ⟨rfl, rfl, rfl⟩ rfl rfl rfl (by first | exact hi | decide) rfl rfl rfl ?_
      refine e2_if rfl rfl (fun z => absurd rfl z) (fun _ => ?_)
      repeat (first | refine e2_step rfl rfl ?_ | refine e2_get rfl (by first | exact hi | decide) rfl rfl ?_)
      exact e2_iret rfl rfl ⟨rfl, rfl⟩
    · refine C2.of (ls := [some (.inr (0, 50)), some (.inl l), some (.inl q)]) okX9_letter rfl rfl ?_
      repeat (first | refine e2_step rfl rfl ?_ | refine e2m_get rfl rfl ?_ | refine e2m_ld _ rfl rfl (by omega) ?_)
      rw [hN]
      refine e2_fs (m_in l (nI 0) (nI N - nI 1)) rfl rfl ⟨rfl, rfl, rfl⟩ rfl rfl rfl ?_
      rw [hb2]
      refine e2_if rfl rfl (fun z => absurd rfl z) (fun _ => ?_)
      repeat (first | refine e2_step rfl rfl ?_ | refine e2m_get rfl rfl ?_ | refine e2m_ld _ rfl rfl (by omega) ?_)
      exact e2_iret rfl rfl ⟨rfl, rfl⟩
end OD
