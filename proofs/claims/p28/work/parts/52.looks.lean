/-! Looks: count, letter, frame, carrier, rounds, stretch. -/
section LA
variable {ε : EE} {J J' : JT} {pc : Nat} {ls : List (Option V0)} {st : List V0} {As : List V0} {G G' G0 G1 : GG} {V V' : VV} {N Y d l : Nat} {Q : Option Int32 → GG → Prop}
theorem lk1.IVo (h : lk1 G0 G) (k : IV (O G0 0) N Y) : IV (O G 0) N Y := by rw [h.oo (by decide)]; exact k
/-- what count tells -/
def aCount (G : GG) (N k : Nat) : Int32 := if k < 6 then nI (P7 (O G 0) k N) else match k with
  | 6 => nI N
  | 7 => O G 0 0 4
  | 8 => nI (1 + cntB (fun c => decide (¬ O G 0 2 (c + 1) = O G 0 2 c)) 99)
  | 9 => nI (cntB (fun c => decide (¬ O G 0 14 c = 0)) 6)
  | 10 => nI (cntB (stryV (O G 0)) N)
  | 11 => sumI (O G 0 6) N
  | 12 => sumI (O G 0 16) 48
  | 13 => O G 0 0 5
  | 14 => O G 0 0 6
  | 15 => O G 0 0 7
  | 16 => nI (cntB (fun c => decide (¬ G 0 22 c = 0)) 2)
  | 17 => G 0 31 1
  | 18 => G 0 33 1
  | _ => -1
theorem lk1.aC (h : lk1 G0 G) {k : Nat} : aCount G N k = aCount G0 N k := by
  unfold aCount
  rw [h.oo (by decide), h 0 22 (by omega) (by omega) (by omega), h 0 31 (by omega) (by omega) (by omega), h 0 33 (by omega) (by omega) (by omega)]
theorem L_count (h : IV (O G0 0) N Y) {k : Nat} (hk : k ≤ 18) : Lk ε jX8_count [.inl (nI k)] G0 (aCount G0 N k) := by
  intro G hG
  rw [← hG.aC]
  have h := hG.IVo h
  have hN2 := h.1.nle
  have hc : G 0 3 8 = nI N := h.1.cnt
  refine FL.same ?_
  by_cases h6 : k < 6
  · have e : aCount G N k = nI (P7 (O G 0) k N) := if_pos h6
    rw [e]
    refine C2.of (ls := [some (.inr (0, 30)), some (.inl (nI k))]) okX8_count rfl rfl ?_
    repeat (first | refine e2_step rfl rfl ?_ | refine e2_get rfl (by first | exact hi | decide) rfl rfl ?_)
    refine e2_fs (c_isIn (nI k) (nI 0) (nI 5)) rfl rfl ⟨rfl, rfl, rfl⟩ rfl rfl rfl ?_
    rw [isIn_T (by omega) (by decide)]
    refine e2_if rfl rfl (fun z => absurd z (by decide)) (fun _ => ?_)
    repeat (first | refine e2_step rfl rfl ?_ | refine e2_get rfl (by first | exact hi | decide) rfl rfl ?_)
    refine e2_fi (c_countIn (i := 0) (by decide) hN2 hc (nI k)) rfl rfl ⟨rfl, rfl, rfl⟩ rfl rfl rfl (by first | exact hi | decide) rfl rfl rfl ?_
    exact e2_iret rfl rfl ⟨rfl, rfl⟩
  · have hcl : ∀ Q, E2 ε jX8_count 24 [some (.inr (0, 30)), some (.inl (nI k))] [] G Q → E2 ε jX8_count 0 [some (.inr (0, 30)), some (.inl (nI k))] [] G Q := by
      intro Q kk
      repeat (first | refine e2_step rfl rfl ?_ | refine e2_get rfl (by first | exact hi | decide) rfl rfl ?_)
      refine e2_fs (c_isIn (nI k) (nI 0) (nI 5)) rfl rfl ⟨rfl, rfl, rfl⟩ rfl rfl rfl ?_
      rw [isIn_hi (k := 5) (by decide) ((nI_leI (by omega) (by omega)).2 (by omega))]
      refine e2_if rfl rfl (fun _ => ?_) (fun z => absurd rfl z)
      exact kk
    rcases (show k = 6 ∨ k = 7 ∨ k = 8 ∨ k = 9 ∨ k = 10 ∨ k = 11 ∨ k = 12 ∨ k = 13 ∨ k = 14 ∨ k = 15 ∨ k = 16 ∨ k = 17 ∨ k = 18 by omega) with rfl | rfl | rfl | rfl | rfl | rfl | rfl | rfl | rfl | rfl | rfl | rfl | rfl
    · refine C2.of (ls := [some (.inr (0, 30)), some (.inl (nI 6))]) okX8_count rfl rfl ?_
      refine hcl _ ?_
      refine e2_step rfl rfl ?_
      refine e2_tabIn 0 dX8_count_25 (by decide) (by decide) rfl (tgt := 92) (by decide) ?_
      repeat (first | refine e2_step rfl rfl ?_ | refine e2_get rfl (by first | exact hi | decide) rfl rfl ?_)
      exact e2_iret rfl rfl ⟨congrArg some hc, rfl⟩
    · refine C2.of (ls := [some (.inr (0, 30)), some (.inl (nI 7))]) okX8_count rfl rfl ?_
      refine hcl _ ?_
      refine e2_step rfl rfl ?_
      refine e2_tabIn 1 dX8_count_25 (by decide) (by decide) rfl (tgt := 106) (by decide) ?_
      repeat (first | refine e2_step rfl rfl ?_ | refine e2_get rfl (by first | exact hi | decide) rfl rfl ?_)
      exact e2_iret rfl rfl ⟨rfl, rfl⟩
    · refine C2.of (ls := [some (.inr (0, 30)), some (.inl (nI 8))]) okX8_count rfl rfl ?_
      refine hcl _ ?_
      refine e2_step rfl rfl ?_
      refine e2_tabIn 2 dX8_count_25 (by decide) (by decide) rfl (tgt := 117) (by decide) ?_
      repeat (first | refine e2_step rfl rfl ?_ | refine e2_get rfl (by first | exact hi | decide) rfl rfl ?_)
      refine e2_fi (fo_same (i := 0) (g_stretches (by decide))) rfl rfl ⟨rfl, rfl, rfl⟩ rfl rfl rfl (by first | exact hi | decide) rfl rfl rfl ?_
      exact e2_iret rfl rfl ⟨rfl, rfl⟩
    · refine C2.of (ls := [some (.inr (0, 30)), some (.inl (nI 9))]) okX8_count rfl rfl ?_
      refine hcl _ ?_
      refine e2_step rfl rfl ?_
      refine e2_tabIn 3 dX8_count_25 (by decide) (by decide) rfl (tgt := 131) (by decide) ?_
      repeat (first | refine e2_step rfl rfl ?_ | refine e2_get rfl (by first | exact hi | decide) rfl rfl ?_)
      refine e2_fi (fo_same (i := 0) (k_countOut (by decide))) rfl rfl ⟨rfl, rfl, rfl⟩ rfl rfl rfl (by first | exact hi | decide) rfl rfl rfl ?_
      exact e2_iret rfl rfl ⟨rfl, rfl⟩
    · refine C2.of (ls := [some (.inr (0, 30)), some (.inl (nI 10))]) okX8_count rfl rfl ?_
      refine hcl _ ?_
      refine e2_step rfl rfl ?_
      refine e2_tabIn 4 dX8_count_25 (by decide) (by decide) rfl (tgt := 145) (by decide) ?_
      repeat (first | refine e2_step rfl rfl ?_ | refine e2_get rfl (by first | exact hi | decide) rfl rfl ?_)
      refine e2_fi (fo_same (i := 0) (w_countStray (by decide) hN2 h.1.okV h.1.cnt)) rfl rfl ⟨rfl, rfl, rfl⟩ rfl rfl rfl (by first | exact hi | decide) rfl rfl rfl ?_
      exact e2_iret rfl rfl ⟨rfl, rfl⟩
    · refine C2.of (ls := [some (.inr (0, 30)), some (.inl (nI 11))]) okX8_count rfl rfl ?_
      refine hcl _ ?_
      refine e2_step rfl rfl ?_
      refine e2_tabIn 5 dX8_count_25 (by decide) (by decide) rfl (tgt := 156) (by decide) ?_
      repeat (first | refine e2_step rfl rfl ?_ | refine e2_get rfl (by first | exact hi | decide) rfl rfl ?_)
      refine e2_fi (fo_same (i := 0) (v_countMisroutes (by decide) hN2 h.1.cnt)) rfl rfl ⟨rfl, rfl, rfl⟩ rfl rfl rfl (by first | exact hi | decide) rfl rfl rfl ?_
      exact e2_iret rfl rfl ⟨rfl, rfl⟩
    · refine C2.of (ls := [some (.inr (0, 30)), some (.inl (nI 12))]) okX8_count rfl rfl ?_
      refine hcl _ ?_
      refine e2_step rfl rfl ?_
      refine e2_tabIn 6 dX8_count_25 (by decide) (by decide) rfl (tgt := 170) (by decide) ?_
      repeat (first | refine e2_step rfl rfl ?_ | refine e2_get rfl (by first | exact hi | decide) rfl rfl ?_)
      refine e2_fi (fo_same (i := 0) (k_countRounds (by decide))) rfl rfl ⟨rfl, rfl, rfl⟩ rfl rfl rfl (by first | exact hi | decide) rfl rfl rfl ?_
      exact e2_iret rfl rfl ⟨rfl, rfl⟩
    · refine C2.of (ls := [some (.inr (0, 30)), some (.inl (nI 13))]) okX8_count rfl rfl ?_
      refine hcl _ ?_
      refine e2_step rfl rfl ?_
      refine e2_tabIn 7 dX8_count_25 (by decide) (by decide) rfl (tgt := 184) (by decide) ?_
      repeat (first | refine e2_step rfl rfl ?_ | refine e2_get rfl (by first | exact hi | decide) rfl rfl ?_)
      exact e2_iret rfl rfl ⟨rfl, rfl⟩
    · refine C2.of (ls := [some (.inr (0, 30)), some (.inl (nI 14))]) okX8_count rfl rfl ?_
      refine hcl _ ?_
      refine e2_step rfl rfl ?_
      refine e2_tabIn 8 dX8_count_25 (by decide) (by decide) rfl (tgt := 195) (by decide) ?_
      repeat (first | refine e2_step rfl rfl ?_ | refine e2_get rfl (by first | exact hi | decide) rfl rfl ?_)
      exact e2_iret rfl rfl ⟨rfl, rfl⟩
    · refine C2.of (ls := [some (.inr (0, 30)), some (.inl (nI 15))]) okX8_count rfl rfl ?_
      refine hcl _ ?_
      refine e2_step rfl rfl ?_
      refine e2_tabIn 9 dX8_count_25 (by decide) (by decide) rfl (tgt := 206) (by decide) ?_
      repeat (first | refine e2_step rfl rfl ?_ | refine e2_get rfl (by first | exact hi | decide) rfl rfl ?_)
      exact e2_iret rfl rfl ⟨rfl, rfl⟩
    · refine C2.of (ls := [some (.inr (0, 30)), some (.inl (nI 16))]) okX8_count rfl rfl ?_
      refine hcl _ ?_
      refine e2_step rfl rfl ?_
      refine e2_tabIn 10 dX8_count_25 (by decide) (by decide) rfl (tgt := 217) (by decide) ?_
      repeat (first | refine e2_step rfl rfl ?_ | refine e2_get rfl (by first | exact hi | decide) rfl rfl ?_)
      refine e2_fi (q_countSnapshots (j := 0) (by decide)) rfl rfl ⟨rfl, rfl, rfl⟩ rfl rfl rfl (by first | exact hi | decide) rfl rfl rfl ?_
      exact e2_iret rfl rfl ⟨rfl, rfl⟩
    · refine C2.of (ls := [some (.inr (0, 30)), some (.inl (nI 17))]) okX8_count rfl rfl ?_
      refine hcl _ ?_
      refine e2_step rfl rfl ?_
      refine e2_tabIn 11 dX8_count_25 (by decide) (by decide) rfl (tgt := 225) (by decide) ?_
      repeat (first | refine e2_step rfl rfl ?_ | refine e2_get rfl (by first | exact hi | decide) rfl rfl ?_)
      exact e2_iret rfl rfl ⟨rfl, rfl⟩
    · refine C2.of (ls := [some (.inr (0, 30)), some (.inl (nI 18))]) okX8_count rfl rfl ?_
      refine hcl _ ?_
      refine e2_step rfl rfl ?_
      refine e2_tabIn 12 dX8_count_25 (by decide) (by decide) rfl (tgt := 233) (by decide) ?_
      repeat (first | refine e2_step rfl rfl ?_ | refine e2_get rfl (by first | exact hi | decide) rfl rfl ?_)
      exact e2_iret rfl rfl ⟨rfl, rfl⟩
/-- what letter tells of a letter that is there -/
def aLetter (V : VV) (l k : Nat) : Int32 := match k with
  | 0 => V 4 l
  | 1 => V 5 l
  | 2 => V 7 l
  | 3 => if V 7 l = nI 1 then V 8 l else -9
  | 4 => if V 7 l = nI 3 then V 8 l else -9
  | 5 => V 6 l
  | 6 => V 9 l
  | 7 => V 10 l
  | 8 => nI (wkV V l)
  | _ => -1
theorem L_letter (h : IV (O G0 0) N Y) (hl : l < N) {k : Nat} (hk : k ≤ 8) : Lk ε jX8_letter [.inl (nI l), .inl (nI k)] G0 (aLetter (O G0 0) l k) := by
  intro G hG
  rw [← hG.oo (by decide)]
  have h := hG.IVo h
  have hN2 := h.1.nle
  have hl2 : l < 120 := by omega
  refine FL.same ?_
  have hcl : ∀ Q, E2 ε jX8_letter 21 [some (.inr (0, 30)), some (.inl (nI l)), some (.inl (nI k)), some (.inr (0, 3))] [] G Q → E2 ε jX8_letter 0 [some (.inr (0, 30)), some (.inl (nI l)), some (.inl (nI k)), none] [] G Q := by
    intro Q kk
    repeat (first | refine e2_step rfl rfl ?_ | refine e2_get rfl (by first | exact hi | decide) rfl rfl ?_)
    refine e2_fi (fo_same (i := 0) (v_has (by decide) hN2 h.1.cnt hl)) rfl rfl ⟨rfl, rfl, rfl⟩ rfl rfl rfl (by first | exact hi | decide) rfl rfl rfl ?_
    refine e2_if rfl rfl (fun _ => ?_) (fun z => absurd (by decide) z)
    exact kk
  rcases (show k = 0 ∨ k = 1 ∨ k = 2 ∨ k = 3 ∨ k = 4 ∨ k = 5 ∨ k = 6 ∨ k = 7 ∨ k = 8 by omega) with rfl | rfl | rfl | rfl | rfl | rfl | rfl | rfl | rfl
  · refine C2.of (ls := [some (.inr (0, 30)), some (.inl (nI l)), some (.inl (nI 0)), none]) okX8_letter rfl rfl ?_
    refine hcl _ ?_
    refine e2_step rfl rfl ?_
    refine e2_tabIn 0 dX8_letter_22 (by decide) (by decide) rfl (tgt := 72) (by decide) ?_
    repeat (first | refine e2_step rfl rfl ?_ | refine e2_get rfl (by first | exact hi | decide) rfl rfl ?_)
    refine e2_iald (i := 0) (kk := 4) l rfl rfl (by decide) rfl hl2 ?_
    exact e2_iret rfl rfl ⟨rfl, rfl⟩
  · refine C2.of (ls := [some (.inr (0, 30)), some (.inl (nI l)), some (.inl (nI 1)), none]) okX8_letter rfl rfl ?_
    refine hcl _ ?_
    refine e2_step rfl rfl ?_
    refine e2_tabIn 1 dX8_letter_22 (by decide) (by decide) rfl (tgt := 79) (by decide) ?_
    repeat (first | refine e2_step rfl rfl ?_ | refine e2_get rfl (by first | exact hi | decide) rfl rfl ?_)
    refine e2_iald (i := 0) (kk := 5) l rfl rfl (by decide) rfl hl2 ?_
    exact e2_iret rfl rfl ⟨rfl, rfl⟩
  · refine C2.of (ls := [some (.inr (0, 30)), some (.inl (nI l)), some (.inl (nI 2)), none]) okX8_letter rfl rfl ?_
    refine hcl _ ?_
    refine e2_step rfl rfl ?_
    refine e2_tabIn 2 dX8_letter_22 (by decide) (by decide) rfl (tgt := 86) (by decide) ?_
    repeat (first | refine e2_step rfl rfl ?_ | refine e2_get rfl (by first | exact hi | decide) rfl rfl ?_)
    refine e2_iald (i := 0) (kk := 7) l rfl rfl (by decide) rfl hl2 ?_
    exact e2_iret rfl rfl ⟨rfl, rfl⟩
  · refine C2.of (ls := [some (.inr (0, 30)), some (.inl (nI l)), some (.inl (nI 3)), none]) okX8_letter rfl rfl ?_
    refine hcl _ ?_
    refine e2_step rfl rfl ?_
    refine e2_tabIn 3 dX8_letter_22 (by decide) (by decide) rfl (tgt := 93) (by decide) ?_
    repeat (first | refine e2_step rfl rfl ?_ | refine e2_get rfl (by first | exact hi | decide) rfl rfl ?_)
    refine e2_iald (i := 0) (kk := 7) l rfl rfl (by decide) rfl hl2 ?_
    repeat (first | refine e2_step rfl rfl ?_ | refine e2_get rfl (by first | exact hi | decide) rfl rfl ?_)
    refine e2_if rfl rfl (fun z => ?_) (fun z => ?_)
    · repeat (first | refine e2_step rfl rfl ?_ | refine e2_get rfl (by first | exact hi | decide) rfl rfl ?_)
      refine e2_iret rfl rfl ⟨?_, rfl⟩
      exact congrArg some (if_neg z).symm
    · repeat (first | refine e2_step rfl rfl ?_ | refine e2_get rfl (by first | exact hi | decide) rfl rfl ?_)
      refine e2_iald (i := 0) (kk := 8) l rfl rfl (by decide) rfl hl2 ?_
      repeat (first | refine e2_step rfl rfl ?_ | refine e2_get rfl (by first | exact hi | decide) rfl rfl ?_)
      refine e2_iret rfl rfl ⟨?_, rfl⟩
      exact congrArg some (if_pos (Classical.not_not.1 z)).symm
  · refine C2.of (ls := [some (.inr (0, 30)), some (.inl (nI l)), some (.inl (nI 4)), none]) okX8_letter rfl rfl ?_
    refine hcl _ ?_
    refine e2_step rfl rfl ?_
    refine e2_tabIn 4 dX8_letter_22 (by decide) (by decide) rfl (tgt := 115) (by decide) ?_
    repeat (first | refine e2_step rfl rfl ?_ | refine e2_get rfl (by first | exact hi | decide) rfl rfl ?_)
    refine e2_iald (i := 0) (kk := 7) l rfl rfl (by decide) rfl hl2 ?_
    repeat (first | refine e2_step rfl rfl ?_ | refine e2_get rfl (by first | exact hi | decide) rfl rfl ?_)
    refine e2_if rfl rfl (fun z => ?_) (fun z => ?_)
    · repeat (first | refine e2_step rfl rfl ?_ | refine e2_get rfl (by first | exact hi | decide) rfl rfl ?_)
      refine e2_iret rfl rfl ⟨?_, rfl⟩
      exact congrArg some (if_neg z).symm
    · repeat (first | refine e2_step rfl rfl ?_ | refine e2_get rfl (by first | exact hi | decide) rfl rfl ?_)
      refine e2_iald (i := 0) (kk := 8) l rfl rfl (by decide) rfl hl2 ?_
      repeat (first | refine e2_step rfl rfl ?_ | refine e2_get rfl (by first | exact hi | decide) rfl rfl ?_)
      refine e2_iret rfl rfl ⟨?_, rfl⟩
      exact congrArg some (if_pos (Classical.not_not.1 z)).symm
  · refine C2.of (ls := [some (.inr (0, 30)), some (.inl (nI l)), some (.inl (nI 5)), none]) okX8_letter rfl rfl ?_
    refine hcl _ ?_
    refine e2_step rfl rfl ?_
    refine e2_tabIn 5 dX8_letter_22 (by decide) (by decide) rfl (tgt := 137) (by decide) ?_
    repeat (first | refine e2_step rfl rfl ?_ | refine e2_get rfl (by first | exact hi | decide) rfl rfl ?_)
    refine e2_iald (i := 0) (kk := 6) l rfl rfl (by decide) rfl hl2 ?_
    exact e2_iret rfl rfl ⟨rfl, rfl⟩
  · refine C2.of (ls := [some (.inr (0, 30)), some (.inl (nI l)), some (.inl (nI 6)), none]) okX8_letter rfl rfl ?_
    refine hcl _ ?_
    refine e2_step rfl rfl ?_
    refine e2_tabIn 6 dX8_letter_22 (by decide) (by decide) rfl (tgt := 144) (by decide) ?_
    repeat (first | refine e2_step rfl rfl ?_ | refine e2_get rfl (by first | exact hi | decide) rfl rfl ?_)
    refine e2_iald (i := 0) (kk := 9) l rfl rfl (by decide) rfl hl2 ?_
    exact e2_iret rfl rfl ⟨rfl, rfl⟩
  · refine C2.of (ls := [some (.inr (0, 30)), some (.inl (nI l)), some (.inl (nI 7)), none]) okX8_letter rfl rfl ?_
    refine hcl _ ?_
    refine e2_step rfl rfl ?_
    refine e2_tabIn 7 dX8_letter_22 (by decide) (by decide) rfl (tgt := 151) (by decide) ?_
    repeat (first | refine e2_step rfl rfl ?_ | refine e2_get rfl (by first | exact hi | decide) rfl rfl ?_)
    refine e2_iald (i := 0) (kk := 10) l rfl rfl (by decide) rfl hl2 ?_
    exact e2_iret rfl rfl ⟨rfl, rfl⟩
  · refine C2.of (ls := [some (.inr (0, 30)), some (.inl (nI l)), some (.inl (nI 8)), none]) okX8_letter rfl rfl ?_
    refine hcl _ ?_
    refine e2_step rfl rfl ?_
    refine e2_tabIn 8 dX8_letter_22 (by decide) (by decide) rfl (tgt := 158) (by decide) ?_
    repeat (first | refine e2_step rfl rfl ?_ | refine e2_get rfl (by first | exact hi | decide) rfl rfl ?_)
    refine e2_fi (fo_same (i := 0) (w_walkOf (by decide) hN2 h.1.okV hl)) rfl rfl ⟨rfl, rfl, rfl⟩ rfl rfl rfl (by first | exact hi | decide) rfl rfl rfl ?_
    exact e2_iret rfl rfl ⟨rfl, rfl⟩
/-- what frame tells -/
def aFrame (V : VV) (N w k : Nat) : Int32 := match k with
  | 0 => V 17 w
  | 1 => V 11 w
  | 2 => freV V w
  | 3 => nI (cntB (fun l => atV V (nI 1) (nI w) l && decide (V 5 l = nI 1)) N)
  | 4 => ofwV V (nI w)
  | _ => -1
theorem L_frame (h : IV (O G0 0) N Y) {w k : Nat} (hw : w < 8) (hk : k ≤ 4) : Lk ε jX8_frame [.inl (nI w), .inl (nI k)] G0 (aFrame (O G0 0) N w k) := by
  intro G hG
  rw [← hG.oo (by decide)]
  have h := hG.IVo h
  have hN2 := h.1.nle
  refine FL.same ?_
  have hcl : ∀ Q, E2 ε jX8_frame 9 [some (.inr (0, 30)), some (.inl (nI w)), some (.inl (nI k))] [] G Q → E2 ε jX8_frame 0 [some (.inr (0, 30)), some (.inl (nI w)), some (.inl (nI k))] [] G Q := by
    intro Q kk
    repeat (first | refine e2_step rfl rfl ?_ | refine e2_get rfl (by first | exact hi | decide) rfl rfl ?_)
    refine e2_fs (c_isWalkT hw) rfl rfl ⟨rfl, rfl, rfl⟩ rfl rfl rfl ?_
    refine e2_if rfl rfl (fun _ => ?_) (fun z => absurd (by decide) z)
    exact kk
  rcases (show k = 0 ∨ k = 1 ∨ k = 2 ∨ k = 3 ∨ k = 4 by omega) with rfl | rfl | rfl | rfl | rfl
  · refine C2.of (ls := [some (.inr (0, 30)), some (.inl (nI w)), some (.inl (nI 0))]) okX8_frame rfl rfl ?_
    refine hcl _ ?_
    refine e2_step rfl rfl ?_
    refine e2_tabIn 0 dX8_frame_10 (by decide) (by decide) rfl (tgt := 44) (by decide) ?_
    repeat (first | refine e2_step rfl rfl ?_ | refine e2_get rfl (by first | exact hi | decide) rfl rfl ?_)
    refine e2_iald (i := 0) (kk := 17) w rfl rfl (by decide) rfl hw ?_
    exact e2_iret rfl rfl ⟨rfl, rfl⟩
  · refine C2.of (ls := [some (.inr (0, 30)), some (.inl (nI w)), some (.inl (nI 1))]) okX8_frame rfl rfl ?_
    refine hcl _ ?_
    refine e2_step rfl rfl ?_
    refine e2_tabIn 1 dX8_frame_10 (by decide) (by decide) rfl (tgt := 57) (by decide) ?_
    repeat (first | refine e2_step rfl rfl ?_ | refine e2_get rfl (by first | exact hi | decide) rfl rfl ?_)
    refine e2_iald (i := 0) (kk := 11) w rfl rfl (by decide) rfl hw ?_
    exact e2_iret rfl rfl ⟨rfl, rfl⟩
  · refine C2.of (ls := [some (.inr (0, 30)), some (.inl (nI w)), some (.inl (nI 2))]) okX8_frame rfl rfl ?_
    refine hcl _ ?_
    refine e2_step rfl rfl ?_
    refine e2_tabIn 2 dX8_frame_10 (by decide) (by decide) rfl (tgt := 73) (by decide) ?_
    repeat (first | refine e2_step rfl rfl ?_ | refine e2_get rfl (by first | exact hi | decide) rfl rfl ?_)
    refine e2_fi (fo_same (i := 0) (w_freeHoles (by decide) hw)) rfl rfl ⟨rfl, rfl, rfl⟩ rfl rfl rfl (by first | exact hi | decide) rfl rfl rfl ?_
    exact e2_iret rfl rfl ⟨rfl, rfl⟩
  · refine C2.of (ls := [some (.inr (0, 30)), some (.inl (nI w)), some (.inl (nI 3))]) okX8_frame rfl rfl ?_
    refine hcl _ ?_
    refine e2_step rfl rfl ?_
    refine e2_tabIn 3 dX8_frame_10 (by decide) (by decide) rfl (tgt := 85) (by decide) ?_
    repeat (first | refine e2_step rfl rfl ?_ | refine e2_get rfl (by first | exact hi | decide) rfl rfl ?_)
    refine e2_fi (fo_same (i := 0) (v_countFirstClass (by decide) hN2 h.1.cnt (nI w))) rfl rfl ⟨rfl, rfl, rfl⟩ rfl rfl rfl (by first | exact hi | decide) rfl rfl rfl ?_
    exact e2_iret rfl rfl ⟨rfl, rfl⟩
  · refine C2.of (ls := [some (.inr (0, 30)), some (.inl (nI w)), some (.inl (nI 4))]) okX8_frame rfl rfl ?_
    refine hcl _ ?_
    refine e2_step rfl rfl ?_
    refine e2_tabIn 4 dX8_frame_10 (by decide) (by decide) rfl (tgt := 100) (by decide) ?_
    repeat (first | refine e2_step rfl rfl ?_ | refine e2_get rfl (by first | exact hi | decide) rfl rfl ?_)
    refine e2_fi (fo_same (i := 0) (k_ofWalk (by decide) (nI w))) rfl rfl ⟨rfl, rfl, rfl⟩ rfl rfl rfl (by first | exact hi | decide) rfl rfl rfl ?_
    exact e2_iret rfl rfl ⟨rfl, rfl⟩
/-- what carrier tells -/
def aCarrier (V : VV) (N c k : Nat) : Int32 := match k with
  | 0 => V 13 c
  | 1 => V 14 c
  | 2 => nI (cntB (atV V (nI 3) (nI c)) N)
  | 3 => V 15 c
  | _ => -1
theorem L_carrier (h : IV (O G0 0) N Y) {c k : Nat} (hc : c < 6) (hk : k ≤ 3) : Lk ε jX8_carrier [.inl (nI c), .inl (nI k)] G0 (aCarrier (O G0 0) N c k) := by
  intro G hG
  rw [← hG.oo (by decide)]
  have h := hG.IVo h
  have hN2 := h.1.nle
  refine FL.same ?_
  have hcl : ∀ Q, E2 ε jX8_carrier 21 [some (.inr (0, 30)), some (.inl (nI c)), some (.inl (nI k)), some (.inr (0, 12))] [.inl (nI k)] G Q → E2 ε jX8_carrier 0 [some (.inr (0, 30)), some (.inl (nI c)), some (.inl (nI k)), none] [] G Q := by
    intro Q kk
    repeat (first | refine e2_step rfl rfl ?_ | refine e2_get rfl (by first | exact hi | decide) rfl rfl ?_)
    refine e2_fs (c_isCarrierT hc) rfl rfl ⟨rfl, rfl, rfl⟩ rfl rfl rfl ?_
    refine e2_if rfl rfl (fun _ => ?_) (fun z => absurd (by decide) z)
    repeat (first | refine e2_step rfl rfl ?_ | refine e2_get rfl (by first | exact hi | decide) rfl rfl ?_)
    exact kk
  rcases (show k = 0 ∨ k = 1 ∨ k = 2 ∨ k = 3 by omega) with rfl | rfl | rfl | rfl
  · refine C2.of (ls := [some (.inr (0, 30)), some (.inl (nI c)), some (.inl (nI 0)), none]) okX8_carrier rfl rfl ?_
    refine hcl _ ?_
    refine e2_tabIn 0 dX8_carrier_21 (by decide) (by decide) rfl (tgt := 52) (by decide) ?_
    repeat (first | refine e2_step rfl rfl ?_ | refine e2_get rfl (by first | exact hi | decide) rfl rfl ?_)
    refine e2_iald (i := 0) (kk := 13) c rfl rfl (by decide) rfl hc ?_
    exact e2_iret rfl rfl ⟨rfl, rfl⟩
  · refine C2.of (ls := [some (.inr (0, 30)), some (.inl (nI c)), some (.inl (nI 1)), none]) okX8_carrier rfl rfl ?_
    refine hcl _ ?_
    refine e2_tabIn 1 dX8_carrier_21 (by decide) (by decide) rfl (tgt := 59) (by decide) ?_
    repeat (first | refine e2_step rfl rfl ?_ | refine e2_get rfl (by first | exact hi | decide) rfl rfl ?_)
    refine e2_zald (i := 0) (kk := 14) c rfl rfl (by decide) rfl hc ?_
    have hz : G 0 14 c = nI 0 ∨ G 0 14 c = nI 1 := (h.1.2.1.1 c hc).1
    refine e2_if rfl rfl (fun z => ?_) (fun z => ?_)
    · repeat (first | refine e2_step rfl rfl ?_ | refine e2_get rfl (by first | exact hi | decide) rfl rfl ?_)
      refine e2_iret rfl rfl ⟨?_, rfl⟩
      exact congrArg some (show nI 0 = G 0 14 c from z.symm)
    · repeat (first | refine e2_step rfl rfl ?_ | refine e2_get rfl (by first | exact hi | decide) rfl rfl ?_)
      refine e2_iret rfl rfl ⟨?_, rfl⟩
      exact congrArg some (show nI 1 = G 0 14 c from (hz.resolve_left z).symm)
  · refine C2.of (ls := [some (.inr (0, 30)), some (.inl (nI c)), some (.inl (nI 2)), none]) okX8_carrier rfl rfl ?_
    refine hcl _ ?_
    refine e2_tabIn 2 dX8_carrier_21 (by decide) (by decide) rfl (tgt := 74) (by decide) ?_
    repeat (first | refine e2_step rfl rfl ?_ | refine e2_get rfl (by first | exact hi | decide) rfl rfl ?_)
    refine e2_fi (fo_same (i := 0) (v_countInHand (by decide) hN2 h.1.cnt (nI c))) rfl rfl ⟨rfl, rfl, rfl⟩ rfl rfl rfl (by first | exact hi | decide) rfl rfl rfl ?_
    exact e2_iret rfl rfl ⟨rfl, rfl⟩
  · refine C2.of (ls := [some (.inr (0, 30)), some (.inl (nI c)), some (.inl (nI 3)), none]) okX8_carrier rfl rfl ?_
    refine hcl _ ?_
    refine e2_tabIn 3 dX8_carrier_21 (by decide) (by decide) rfl (tgt := 89) (by decide) ?_
    repeat (first | refine e2_step rfl rfl ?_ | refine e2_get rfl (by first | exact hi | decide) rfl rfl ?_)
    refine e2_iald (i := 0) (kk := 15) c rfl rfl (by decide) rfl hc ?_
    exact e2_iret rfl rfl ⟨rfl, rfl⟩
theorem L_rounds {c w : Nat} (hc : c < 6) (hw : w < 8) : Lk ε jX8_rounds [.inl (nI c), .inl (nI w)] G0 (O G0 0 16 (c * 8 + w)) := by
  intro G hG
  rw [← hG.oo (by decide)]
  refine FL.same ?_
  refine C2.of (ls := [some (.inr (0, 30)), some (.inl (nI c)), some (.inl (nI w))]) okX8_rounds rfl rfl ?_
  repeat (first | refine e2_step rfl rfl ?_ | refine e2_get rfl (by first | exact hi | decide) rfl rfl ?_)
  refine e2_fs (c_isCarrierT hc) rfl rfl ⟨rfl, rfl, rfl⟩ rfl rfl rfl ?_
  refine e2_if rfl rfl (fun z => absurd z (by decide)) (fun _ => ?_)
  repeat (first | refine e2_step rfl rfl ?_ | refine e2_get rfl (by first | exact hi | decide) rfl rfl ?_)
  refine e2_fs (c_isWalkT hw) rfl rfl ⟨rfl, rfl, rfl⟩ rfl rfl rfl ?_
  refine e2_if rfl rfl (fun _ => ?_) (fun z => absurd (by decide) z)
  repeat (first | refine e2_step rfl rfl ?_ | refine e2_get rfl (by first | exact hi | decide) rfl rfl ?_)
  refine e2_fi (fo_same (i := 0) (k_roundsOn (by decide) hc hw)) rfl rfl ⟨rfl, rfl, rfl⟩ rfl rfl rfl (by first | exact hi | decide) rfl rfl rfl ?_
  exact e2_iret rfl rfl ⟨rfl, rfl⟩
/-- what stretch tells -/
def aStretch (f : Nat → Int32) (c k : Nat) : Int32 := match k with
  | 0 => f c
  | 1 => nI (fstC f (f c) c)
  | 2 => nI (lstC f (f c) (99 - c) c)
  | _ => -1
theorem L_stretch {c k : Nat} (hc : c < 100) (hk : k ≤ 2) : Lk ε jX8_stretch [.inl (nI c), .inl (nI k)] G0 (aStretch (O G0 0 2) c k) := by
  intro G hG
  rw [← hG.oo (by decide)]
  refine FL.same ?_
  have hcl : ∀ Q, E2 ε jX8_stretch 12 [some (.inr (0, 30)), some (.inl (nI c)), some (.inl (nI k))] [] G Q → E2 ε jX8_stretch 0 [some (.inr (0, 30)), some (.inl (nI c)), some (.inl (nI k))] [] G Q := by
    intro Q kk
    repeat (first | refine e2_step rfl rfl ?_ | refine e2_get rfl (by first | exact hi | decide) rfl rfl ?_)
    refine e2_fs (c_isIn (nI c) (nI 0) (nI 99)) rfl rfl ⟨rfl, rfl, rfl⟩ rfl rfl rfl ?_
    rw [isIn_T (by omega) (by decide)]
    refine e2_if rfl rfl (fun _ => ?_) (fun z => absurd (by decide) z)
    exact kk
  rcases (show k = 0 ∨ k = 1 ∨ k = 2 by omega) with rfl | rfl | rfl
  · refine C2.of (ls := [some (.inr (0, 30)), some (.inl (nI c)), some (.inl (nI 0))]) okX8_stretch rfl rfl ?_
    refine hcl _ ?_
    refine e2_step rfl rfl ?_
    refine e2_tabIn 0 dX8_stretch_13 (by decide) (by decide) rfl (tgt := 40) (by decide) ?_
    repeat (first | refine e2_step rfl rfl ?_ | refine e2_get rfl (by first | exact hi | decide) rfl rfl ?_)
    refine e2_fi (fo_same (i := 0) (g_walkOf (by decide) hc)) rfl rfl ⟨rfl, rfl, rfl⟩ rfl rfl rfl (by first | exact hi | decide) rfl rfl rfl ?_
    exact e2_iret rfl rfl ⟨rfl, rfl⟩
  · refine C2.of (ls := [some (.inr (0, 30)), some (.inl (nI c)), some (.inl (nI 1))]) okX8_stretch rfl rfl ?_
    refine hcl _ ?_
    refine e2_step rfl rfl ?_
    refine e2_tabIn 1 dX8_stretch_13 (by decide) (by decide) rfl (tgt := 55) (by decide) ?_
    repeat (first | refine e2_step rfl rfl ?_ | refine e2_get rfl (by first | exact hi | decide) rfl rfl ?_)
    refine e2_fi (fo_same (i := 0) (g_firstCode (by decide) hc)) rfl rfl ⟨rfl, rfl, rfl⟩ rfl rfl rfl (by first | exact hi | decide) rfl rfl rfl ?_
    exact e2_iret rfl rfl ⟨rfl, rfl⟩
  · refine C2.of (ls := [some (.inr (0, 30)), some (.inl (nI c)), some (.inl (nI 2))]) okX8_stretch rfl rfl ?_
    refine hcl _ ?_
    refine e2_step rfl rfl ?_
    refine e2_tabIn 2 dX8_stretch_13 (by decide) (by decide) rfl (tgt := 70) (by decide) ?_
    repeat (first | refine e2_step rfl rfl ?_ | refine e2_get rfl (by first | exact hi | decide) rfl rfl ?_)
    refine e2_fi (fo_same (i := 0) (g_lastCode (by decide) hc)) rfl rfl ⟨rfl, rfl, rfl⟩ rfl rfl rfl (by first | exact hi | decide) rfl rfl rfl ?_
    exact e2_iret rfl rfl ⟨rfl, rfl⟩
end LA
