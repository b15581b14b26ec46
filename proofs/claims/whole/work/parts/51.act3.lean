/-! Calls that record a state: set, assign. -/
section OI2
variable {ε : EE} {J J1 J2 : JT} {pc : Nat} {ls : List (Option V0)} {st : List V0} {As : List V0} {G G' G1 : GG} {i N : Nat} {V V' : VV} {s : Int32} {r r' r1 r2 t x x2 o : Nat → Int32} {K K' : Nat} {Q : Option Int32 → GG → Prop}
theorem e2_cGin (i : Nat) (h : E2 ε J pc ls st (cG G i (G i) (G 0 40 1) (G 0 41)) Q) : E2 ε J pc ls st G Q := by
  rw [cG_self] at h
  exact h
theorem RO.congrH (h : RO V r N) (hV : ∀ kk, 1 ≤ kk → kk ≠ 17 → V' kk = V kk) (h4 : V' 0 4 = V 0 4) (hr : ∀ j, j < 941 ∨ 952 ≤ j → r' j = r j) (h17 : ∀ w, w < 8 → V' 17 w = r' (941 + w)) (h5 : V' 0 5 = r' 949 ∧ V' 0 6 = r' 950 ∧ V' 0 7 = r' 951) (hs : (∃ s, s ≤ 40 ∧ r' 950 = nI s) ∧ ∃ s, s ≤ 30 ∧ r' 951 = nI s) : RO V' r' N := by
  obtain ⟨⟨h1, h2, h3, g4, -, ⟨h6, -⟩, -, k1, k2, k3, k4, k5⟩, hL, hF, hS⟩ := h
  have ho : ∀ m k, m < 120 → k < 7 → ofr r' m k = ofr r m k := fun m k hm hk => hr _ (by omega)
  refine ⟨⟨h1, by rw [hV 3 (by omega) (by omega)]; exact h2, by rw [hr 100 (by omega)]; exact h3, fun c hc => by rw [hV 2 (by omega) (by omega), hr c (by omega)]; exact g4 c hc, h17, ⟨by rw [h4, hr 952 (by omega)]; exact h6, h5⟩, hs, ⟨fun c hc => by rw [hV 14 (by omega) (by omega), hV 15 (by omega) (by omega), hV 13 (by omega) (by omega), hr (1011 + c) (by omega), hr (1017 + c) (by omega)]; exact k1 c hc, fun w hw => by rw [hr _ (by omega)]; exact k2 w hw, fun c w hc hw => by rw [hV 13 (by omega) (by omega), hr _ (by omega)]; exact k3 c w hc hw, fun k hk => by rw [hV 16 (by omega) (by omega), hr _ (by omega)]; exact k4 k hk, by rw [hr 954 (by omega), hV 16 (by omega) (by omega)]; exact k5⟩⟩, fun m hm => ?_, fun w hw => ?_, by rw [hr 953 (by omega), hV 6 (by omega) (by omega)]; exact hS⟩
  · have := hL m hm
    unfold LO at this ⊢
    rw [hV 4 (by omega) (by omega), hV 5 (by omega) (by omega), hV 6 (by omega) (by omega), hV 7 (by omega) (by omega), hV 8 (by omega) (by omega), hV 9 (by omega) (by omega), hV 10 (by omega) (by omega), ho m 0 (by omega) (by omega), ho m 1 (by omega) (by omega), ho m 2 (by omega) (by omega), ho m 3 (by omega) (by omega), ho m 4 (by omega) (by omega), ho m 5 (by omega) (by omega), ho m 6 (by omega) (by omega)]
    exact this
  · rw [hV 11 (by omega) (by omega), hF w hw]
    rw [cntB_congr N (fun j hj => ?_)]
    unfold atr
    rw [ho j 3 (by omega) (by omega), ho j 4 (by omega) (by omega)]
theorem nIne {a b : Nat} (ha : a < 1000) (hb : b < 1000) (h : a ≠ b) : ¬ nI a = nI b := fun z => h ((nI_eq (by omega) (by omega)).1 z)
theorem RO.set (h : RO V r N) {k y : Nat} (hk : k ≤ 10) (h9 : k = 9 → y ≤ 40) (h10 : k = 10 → y ≤ 30) : RO (chgV V (nI k) (nI y)) (upd r (941 + k) (nI y)) N ∧ numV V (nI k) = r (941 + k) := by
  obtain ⟨-, -, -, -, g17, ⟨-, g5, g6, g7⟩, ⟨gs, gl⟩, -⟩ := h.1
  have hr : ∀ j, j < 941 ∨ 952 ≤ j → upd r (941 + k) (nI y) j = r j := fun j hj => by unfold upd; rw [if_neg (by omega)]
  by_cases k8 : k = 8
  · subst k8
    have e : chgV V (nI 8) (nI y) = wv V 0 5 (nI y) := by unfold chgV; rw [if_pos rfl]
    rw [e]
    refine ⟨h.congrH (fun kk a b => by unfold wv sv; rw [if_neg (by omega)]) rfl hr (fun w hw => ?_) ⟨rfl, g6, g7⟩ ⟨gs, gl⟩, by unfold numV; rw [if_pos rfl]; exact g5⟩
    show V 17 w = upd r 949 (nI y) (941 + w)
    unfold upd
    rw [if_neg (by omega)]
    exact g17 w hw
  · by_cases k9 : k = 9
    · subst k9
      have e : chgV V (nI 9) (nI y) = wv V 0 6 (nI y) := by unfold chgV; rw [if_neg (by decide), if_pos rfl]
      rw [e]
      refine ⟨h.congrH (fun kk a b => by unfold wv sv; rw [if_neg (by omega)]) rfl hr (fun w hw => ?_) ⟨g5, rfl, g7⟩ ⟨⟨y, h9 rfl, rfl⟩, gl⟩, by unfold numV; rw [if_neg (by decide), if_pos rfl]; exact g6⟩
      show V 17 w = upd r 950 (nI y) (941 + w)
      unfold upd
      rw [if_neg (by omega)]
      exact g17 w hw
    · by_cases k10 : k = 10
      · subst k10
        have e : chgV V (nI 10) (nI y) = wv V 0 7 (nI y) := by unfold chgV; rw [if_neg (by decide), if_neg (by decide), if_pos rfl]
        rw [e]
        refine ⟨h.congrH (fun kk a b => by unfold wv sv; rw [if_neg (by omega)]) rfl hr (fun w hw => ?_) ⟨g5, g6, rfl⟩ ⟨gs, ⟨y, h10 rfl, rfl⟩⟩, by unfold numV; rw [if_neg (by decide), if_neg (by decide), if_pos rfl]; exact g7⟩
        show V 17 w = upd r 951 (nI y) (941 + w)
        unfold upd
        rw [if_neg (by omega)]
        exact g17 w hw
      · have hk7 : k ≤ 7 := by omega
        have n8 := nIne (a := k) (b := 8) (by omega) (by omega) k8
        have n9 := nIne (a := k) (b := 9) (by omega) (by omega) k9
        have n10 := nIne (a := k) (b := 10) (by omega) (by omega) k10
        have hin := isIn_nI' hk7 (by decide)
        have e : chgV V (nI k) (nI y) = wv V 17 k (nI y) := by unfold chgV; rw [if_neg n8, if_neg n9, if_neg n10, if_pos hin, nI_clamp (by omega)]
        have e2 : numV V (nI k) = V 17 k := by unfold numV; rw [if_neg n8, if_neg n9, if_neg n10, if_pos hin, nI_clamp (by omega)]
        have hu : ∀ j, 949 ≤ j → upd r (941 + k) (nI y) j = r j := fun j hj => by unfold upd; rw [if_neg (by omega)]
        rw [e, e2]
        refine ⟨h.congrH (fun kk a b => by unfold wv sv; rw [if_neg b]) rfl hr (fun w hw => ?_) ⟨by rw [hu 949 (by omega)]; exact g5, by rw [hu 950 (by omega)]; exact g6, by rw [hu 951 (by omega)]; exact g7⟩ ⟨by rw [hu 950 (by omega)]; exact gs, by rw [hu 951 (by omega)]; exact gl⟩, g17 k (by omega)⟩
        show upd (V 17) k (nI y) w = upd r (941 + k) (nI y) (941 + w)
        unfold upd
        by_cases hwk : w = k
        · rw [if_pos hwk, if_pos (by omega)]
        · rw [if_neg hwk, if_neg (by omega)]
          exact g17 w hw
theorem gre_mos {k : Nat} (hk : k ≤ 10) : greF (nI k) = mosF (nI k) := by
  unfold greF mosF
  by_cases k8 : k = 8
  · subst k8
    decide
  · by_cases k9 : k = 9
    · subst k9
      decide
    · by_cases k10 : k = 10
      · subst k10
        decide
      · rw [if_neg (nIne (a := k) (b := 8) (by omega) (by omega) k8), if_neg (nIne (a := k) (b := 9) (by omega) (by omega) k9), if_neg (nIne (a := k) (b := 10) (by omega) (by omega) k10), if_pos (nI_lt (by omega) (by omega))]
/-- the bounds of a number are numbers -/
theorem lea_gre {k : Nat} (hk : k ≤ 10) : ∃ a b, a < 100 ∧ b < 100 ∧ leaF (nI k) = nI a ∧ greF (nI k) = nI b ∧ (k = 9 → b = 40) ∧ (k = 10 → b = 30) := by
  unfold greF leaF
  by_cases k8 : k = 8
  · subst k8
    exact ⟨0, 2, by omega, by omega, by decide, by decide, by omega, by omega⟩
  · by_cases k9 : k = 9
    · subst k9
      exact ⟨1, 40, by omega, by omega, by decide, by decide, by omega, by omega⟩
    · by_cases k10 : k = 10
      · subst k10
        exact ⟨1, 30, by omega, by omega, by decide, by decide, by omega, by omega⟩
      · exact ⟨1, 20, by omega, by omega, by rw [if_neg (nIne (a := k) (b := 8) (by omega) (by omega) k8)], by rw [if_neg (nIne (a := k) (b := 8) (by omega) (by omega) k8), if_neg (nIne (a := k) (b := 9) (by omega) (by omega) k9), if_neg (nIne (a := k) (b := 10) (by omega) (by omega) k10)], fun z => absurd z k9, fun z => absurd z k10⟩
theorem op_set (h : RR G r t x K) (q v : Int32) : OpOk ε jX8_set jX9_set_ [.inl q, .inl v] G r t x K := by
  by_cases hq : isInB q (nI 0) (nI 10) = true
  · obtain ⟨k, hk, rfl⟩ := isIn_nI (by decide) hq
    have hgm := gre_mos hk
    obtain ⟨d, hd5, hd⟩ := h.d
    have hi : (0 : Nat) < 19 := by decide
    have hcl : ∀ Q, E2 ε jX8_set 22 [some (.inr (0, 30)), some (.inl (nI k)), some (.inl v), none] [.inl (bI (isInB v (leaF (nI k)) (greF (nI k))))] G Q → E2 ε jX8_set 0 [some (.inr (0, 30)), some (.inl (nI k)), some (.inl v), none] [] G Q := by
      intro Q kk
      repeat (first | refine e2_step rfl rfl ?_ | refine e2_get rfl (by first | exact hi | decide) rfl rfl ?_)
      refine e2_fs (c_isIn (nI k) (nI 0) (nI 10)) rfl rfl ⟨rfl, rfl, rfl⟩ rfl rfl rfl ?_
      rw [hq]
      refine e2_if rfl rfl (fun z => absurd z (by decide)) (fun _ => ?_)
      repeat (first | refine e2_step rfl rfl ?_ | refine e2_get rfl (by first | exact hi | decide) rfl rfl ?_)
      refine e2_fs (c_leastValue (nI k)) rfl rfl ⟨rfl, rfl, rfl⟩ rfl rfl rfl ?_
      repeat (first | refine e2_step rfl rfl ?_ | refine e2_get rfl (by first | exact hi | decide) rfl rfl ?_)
      refine e2_fs (c_greatestValue (nI k)) rfl rfl ⟨rfl, rfl, rfl⟩ rfl rfl rfl ?_
      refine e2_fs (c_isIn v (leaF (nI k)) (greF (nI k))) rfl rfl ⟨rfl, rfl, rfl⟩ rfl rfl rfl ?_
      exact kk
    have hml : ∀ (G1 : GG) (o : Nat → Int32) Q, E2 ε jX9_set_ 29 [some (.inr (0, 50)), some (.inl (nI k)), some (.inl v), none] [.inl (bI (isInB v (leaF (nI k)) (greF (nI k))))] (mG G1 r t o x) Q → E2 ε jX9_set_ 0 [some (.inr (0, 50)), some (.inl (nI k)), some (.inl v), none] [] (mG G1 r t o x) Q := by
      intro G1 o Q kk
      repeat (first | refine e2_step rfl rfl ?_ | refine e2m_get rfl rfl ?_ | refine e2m_ld _ rfl rfl (by omega) ?_)
      refine e2_fs (m_in (nI k) (nI 0) (nI 10)) rfl rfl ⟨rfl, rfl, rfl⟩ rfl rfl rfl ?_
      rw [hq]
      refine e2_if rfl rfl (fun z => absurd z (by decide)) (fun _ => ?_)
      repeat (first | refine e2_step rfl rfl ?_ | refine e2m_get rfl rfl ?_ | refine e2m_ld _ rfl rfl (by omega) ?_)
      rw [hgm] at kk
      refine e2_if rfl rfl (fun z => ?_) (fun z => ?_)
      · have e : leaF (nI k) = nI 1 := by unfold leaF; rw [if_neg z]
        rw [e] at kk
        repeat (first | refine e2_step rfl rfl ?_ | refine e2m_get rfl rfl ?_ | refine e2m_ld _ rfl rfl (by omega) ?_)
        refine e2_fs (m_most (nI k)) rfl rfl ⟨rfl, rfl, rfl⟩ rfl rfl rfl ?_
        refine e2_fs (m_in v (nI 1) (mosF (nI k))) rfl rfl ⟨rfl, rfl, rfl⟩ rfl rfl rfl ?_
        exact kk
      · have e : leaF (nI k) = nI 0 := by unfold leaF; rw [if_pos (Classical.not_not.1 z)]
        rw [e] at kk
        repeat (first | refine e2_step rfl rfl ?_ | refine e2m_get rfl rfl ?_ | refine e2m_ld _ rfl rfl (by omega) ?_)
        refine e2_fs (m_most (nI k)) rfl rfl ⟨rfl, rfl, rfl⟩ rfl rfl rfl ?_
        refine e2_fs (m_in v (nI 0) (mosF (nI k))) rfl rfl ⟨rfl, rfl, rfl⟩ rfl rfl rfl ?_
        exact kk
    by_cases hv : isInB v (leaF (nI k)) (greF (nI k)) = true
    · obtain ⟨a, b, ha, hb, ea, eb, e9, e10⟩ := lea_gre hk
      rw [hv] at hcl hml
      rw [ea, eb] at hv
      obtain ⟨y, hay, hyb, rfl⟩ := isIn_ab (by omega) (by omega) hv
      have hy9 : k = 9 → y ≤ 40 := fun z => by have := e9 z; omega
      have hy10 : k = 10 → y ≤ 30 := fun z => by have := e10 z; omega
      refine ⟨recR r x (941 + k), upd (recR r x) (941 + k) (nI y), t, recX x, ?_, fun G1 o => ?_⟩
      · refine C2.of (ls := [some (.inr (0, 30)), some (.inl (nI k)), some (.inl (nI y)), none]) okX8_set rfl rfl ?_
        refine hcl _ ?_
        refine e2_if rfl rfl (fun _ => ?_) (fun z => absurd (by decide) z)
        repeat (first | refine e2_step rfl rfl ?_ | refine e2_get rfl (by first | exact hi | decide) rfl rfl ?_)
        refine e2_callVv rfl ⟨rfl, rfl, rfl⟩ rfl rfl rfl rfl (by decide) rfl rfl rfl (q_rem h) (fun G1 z => ?_)
        obtain ⟨-, hQ⟩ := z
        obtain ⟨N, hO⟩ := hQ.1.ro
        obtain ⟨hO2, hn2⟩ := hO.set (k := k) (y := y) hk hy9 hy10
        repeat (first | refine e2_step rfl rfl ?_ | refine e2_get rfl (by first | exact hi | decide) rfl rfl ?_)
        refine e2_fi (fc_same (i := 0) (w_number hi (nI k))) rfl rfl ⟨rfl, rfl, rfl⟩ rfl rfl rfl (by first | exact hi | decide) rfl rfl rfl ?_
        repeat (first | refine e2_step rfl rfl ?_ | refine e2_get rfl (by first | exact hi | decide) rfl rfl ?_)
        refine e2_fv (fc_self (i := 0) (w_changeNumber hi (nI k) (nI y))) rfl rfl ⟨rfl, rfl, rfl⟩ rfl rfl rfl (by first | exact hi | decide) rfl rfl rfl ?_
        repeat (first | refine e2_step rfl rfl ?_ | refine e2_get rfl (by first | exact hi | decide) rfl rfl ?_)
        have hS := hQ.1.1.1
        have hn : ∀ j, 952 ≤ j → upd (recR r x) (941 + k) (nI y) j = recR r x j := fun j hj => by unfold upd; rw [if_neg (by omega)]
        have hfin := hQ.1.fin (K' := K + 1) (s := G1 0 40 1) (o := G1 0 41) (V := chgV (G1 0) (nI k) (nI y)) (r2 := upd (recR r x) (941 + k) (nI y)) (x2 := recX x) (by omega) (fun j hj _ => hn j (by omega)) rfl rfl ⟨⟨N, hO2⟩, by rw [hn 952 (by omega)]; exact hS.2.1, fun k hk => by rw [hn (963 + k) (by omega)]; obtain ⟨c, c1, c2⟩ := hS.2.2 k hk; exact ⟨c, by omega, c2⟩⟩
        exact e2_iret rfl rfl ⟨by rw [hn2], hfin.1, hQ.kp.tr hfin.2⟩
      · refine C2.of (ls := [some (.inr (0, 50)), some (.inl (nI k)), some (.inl (nI y)), none]) okX9_set_ rfl rfl ?_
        refine hml _ _ _ ?_
        refine e2_if rfl rfl (fun _ => ?_) (fun z => absurd (by decide) z)
        repeat (first | refine e2_step rfl rfl ?_ | refine e2m_get rfl rfl ?_ | refine e2m_ld _ rfl rfl (by omega) ?_)
        refine e2_fv (m_recordsX hd hd5) rfl rfl ⟨rfl, rfl, rfl⟩ rfl rfl rfl (by first | exact hi | decide) rfl rfl rfl ?_
        repeat (first | refine e2_step rfl rfl ?_ | refine e2m_get rfl rfl ?_ | refine e2m_ld _ rfl rfl (by omega) ?_)
        rw [nI_add']
        repeat (first | refine e2_step rfl rfl ?_ | refine e2m_get rfl rfl ?_ | refine e2m_ld _ rfl rfl (by omega) ?_)
        rw [nI_add']
        repeat (first | refine e2_step rfl rfl ?_ | refine e2m_get rfl rfl ?_ | refine e2m_ld _ rfl rfl (by omega) ?_)
        refine e2m_st (941 + k) rfl rfl (by omega) ?_
        repeat (first | refine e2_step rfl rfl ?_ | refine e2m_get rfl rfl ?_ | refine e2m_ld _ rfl rfl (by omega) ?_)
        exact e2_iret rfl rfl ⟨rfl, _, _, _, rfl, fun _ _ => rfl, rfl, rfl⟩
    · rw [eq_false_of_ne_true hv] at hcl hml
      refine OpOk.same (a := -1) h ?_ (fun G1 o => ⟨o, ?_⟩)
      · refine C2.of (ls := [some (.inr (0, 30)), some (.inl (nI k)), some (.inl v), none]) okX8_set rfl rfl ?_
        refine hcl _ ?_
        refine e2_if rfl rfl (fun z => absurd rfl z) (fun _ => ?_)
        repeat (first | refine e2_step rfl rfl ?_ | refine e2_get rfl (by first | exact hi | decide) rfl rfl ?_)
        exact e2_iret rfl rfl ⟨rfl, rfl⟩
      · refine C2.of (ls := [some (.inr (0, 50)), some (.inl (nI k)), some (.inl v), none]) okX9_set_ rfl rfl ?_
        refine hml _ _ _ ?_
        refine e2_if rfl rfl (fun z => absurd rfl z) (fun _ => ?_)
        repeat (first | refine e2_step rfl rfl ?_ | refine e2m_get rfl rfl ?_ | refine e2m_ld _ rfl rfl (by omega) ?_)
        exact e2_iret rfl rfl ⟨rfl, rfl⟩
  · have hq2 := eq_false_of_ne_true hq
    refine OpOk.same (a := -1) h ?_ (fun G1 o => ⟨o, ?_⟩)
    · refine C2.of (ls := [some (.inr (0, 30)), some (.inl q), some (.inl v), none]) okX8_set rfl rfl ?_
      repeat (first | refine e2_step rfl rfl ?_ | refine e2_get rfl (by first | exact hi | decide) rfl rfl ?_)
      refine e2_fs (c_isIn q (nI 0) (nI 10)) rfl rfl ⟨rfl, rfl, rfl⟩ rfl rfl rfl ?_
      rw [hq2]
      refine e2_if rfl rfl (fun _ => ?_) (fun z => absurd rfl z)
      repeat (first | refine e2_step rfl rfl ?_ | refine e2_get rfl (by first | exact hi | decide) rfl rfl ?_)
      exact e2_iret rfl rfl ⟨rfl, rfl⟩
    · refine C2.of (ls := [some (.inr (0, 50)), some (.inl q), some (.inl v), none]) okX9_set_ rfl rfl ?_
      repeat (first | refine e2_step rfl rfl ?_ | refine e2m_get rfl rfl ?_ | refine e2m_ld _ rfl rfl (by omega) ?_)
      refine e2_fs (m_in q (nI 0) (nI 10)) rfl rfl ⟨rfl, rfl, rfl⟩ rfl rfl rfl ?_
      rw [hq2]
      refine e2_if rfl rfl (fun _ => ?_) (fun z => absurd rfl z)
      repeat (first | refine e2_step rfl rfl ?_ | refine e2m_get rfl rfl ?_ | refine e2m_ld _ rfl rfl (by omega) ?_)
      exact e2_iret rfl rfl ⟨rfl, rfl⟩
end OI2
