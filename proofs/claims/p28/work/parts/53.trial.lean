/-! Looks that lay the line or try: inBag, inFrame, bestCarrier, wouldOverflow, clearIn, wouldDeliver. -/
section LB
variable {ε : EE} {J J' : JT} {pc : Nat} {ls : List (Option V0)} {st : List V0} {As : List V0} {G G' G0 G1 : GG} {V V' : VV} {i N Y d l : Nat} {s : Int32} {o : Nat → Int32} {Q : Option Int32 → GG → Prop}
theorem nI_ge0 {j : Nat} (hj : j < 2 ^ 31) : ¬ nI j < 0 := nI_pos hj
theorem L_inBag (h : IV (O G0 0) N Y) {j : Nat} (hj : j < 2 ^ 31) : Lk ε jX8_inBag [.inl (nI j)] G0 (if (bagVR (O G0 0) N).length ≤ j then -9 else nI (revD (bagVR (O G0 0) N) j)) := by
  intro G hG
  rw [← hG.oo (by decide)]
  have h := hG.IVo h
  have hN2 := h.1.nle
  have hb : (bagVR (O G 0) N).length ≤ N := by rw [bag_len h.1]; exact P7_le
  unfold FL
  refine C2.of (ls := [some (.inr (0, 30)), some (.inl (nI j))]) okX8_inBag rfl rfl ?_
  repeat (first | refine e2_step rfl rfl ?_ | refine e2_get rfl (by first | exact hi | decide) rfl rfl ?_)
  refine e2_if rfl rfl (fun _ => ?_) (fun z => absurd (Int32.not_lt.1 (nI_ge0 hj)) z)
  repeat (first | refine e2_step rfl rfl ?_ | refine e2_get rfl (by first | exact hi | decide) rfl rfl ?_)
  have hL := v_listBag (ε := ε) (G := G) (i := 0) (V := O G 0) (s := G 0 40 1) (o := G 0 41) (by decide) hN2 h.1.cnt (by omega)
  refine e2_fv (fo_self hL) rfl rfl ⟨rfl, rfl, rfl⟩ rfl rfl rfl (by first | exact hi | decide) rfl rfl rfl ?_
  repeat (first | refine e2_step rfl rfl ?_ | refine e2c_get (i := 0) (by decide) rfl rfl rfl rfl ?_ | refine e2_get rfl (by decide) rfl rfl ?_)
  refine e2c_lfi (l_letterAt (n := (bagVR (O G 0) N).length) (j := j) (by omega) hj) rfl rfl ⟨rfl, rfl, rfl⟩ rfl rfl rfl rfl ?_
  refine e2_iret rfl rfl ⟨?_, lk_line⟩
  by_cases hz : (bagVR (O G 0) N).length ≤ j
  · rw [if_pos hz, if_pos hz]
  · rw [if_neg hz, if_neg hz, ordA_at (by omega)]
theorem L_inFrame (h : IV (O G0 0) N Y) {w j : Nat} (hw : w < 8) (hj : j < 2 ^ 31) : Lk ε jX8_inFrame [.inl (nI w), .inl (nI j)] G0 (if (atVR (O G0 0) N (nI 1) (nI w)).length ≤ j then -9 else nI (revD (atVR (O G0 0) N (nI 1) (nI w)) j)) := by
  intro G hG
  rw [← hG.oo (by decide)]
  have h := hG.IVo h
  have hN2 := h.1.nle
  have hl : (atVR (O G 0) N (nI 1) (nI w)).length ≤ N := atVR_len
  unfold FL
  refine C2.of (ls := [some (.inr (0, 30)), some (.inl (nI w)), some (.inl (nI j))]) okX8_inFrame rfl rfl ?_
  repeat (first | refine e2_step rfl rfl ?_ | refine e2_get rfl (by first | exact hi | decide) rfl rfl ?_)
  refine e2_fs (c_isWalkT hw) rfl rfl ⟨rfl, rfl, rfl⟩ rfl rfl rfl ?_
  refine e2_if rfl rfl (fun z => absurd z (by decide)) (fun _ => ?_)
  repeat (first | refine e2_step rfl rfl ?_ | refine e2_get rfl (by first | exact hi | decide) rfl rfl ?_)
  refine e2_if rfl rfl (fun _ => ?_) (fun z => absurd (Int32.not_lt.1 (nI_ge0 hj)) z)
  repeat (first | refine e2_step rfl rfl ?_ | refine e2_get rfl (by first | exact hi | decide) rfl rfl ?_)
  have hL := v_listByCode (ε := ε) (G := G) (i := 0) (V := O G 0) (s := G 0 40 1) (o := G 0 41) (by decide) hN2 h.1.cnt (nI 1) (nI w)
  change FC ε jX2_listByCode [.inr (0, 3), .inl (nI 1), .inl (nI w), .inr (0, 40)] G 0 (O G 0) (G 0 40 1) (G 0 41) none (O G 0) (nI (atVR (O G 0) N (nI 1) (nI w)).length) (ordA (atVR (O G 0) N (nI 1) (nI w)) (G 0 41)) at hL
  refine e2_fv (fo_self hL) rfl rfl ⟨rfl, rfl, rfl⟩ rfl rfl rfl (by first | exact hi | decide) rfl rfl rfl ?_
  repeat (first | refine e2_step rfl rfl ?_ | refine e2c_get (i := 0) (by decide) rfl rfl rfl rfl ?_ | refine e2_get rfl (by decide) rfl rfl ?_)
  refine e2c_lfi (l_letterAt (n := (atVR (O G 0) N (nI 1) (nI w)).length) (j := j) (by omega) hj) rfl rfl ⟨rfl, rfl, rfl⟩ rfl rfl rfl rfl ?_
  refine e2_iret rfl rfl ⟨?_, lk_line⟩
  by_cases hz : (atVR (O G 0) N (nI 1) (nI w)).length ≤ j
  · rw [if_pos hz, if_pos hz]
  · rw [if_neg hz, if_neg hz, ordA_at (by omega)]
theorem L_best {w : Nat} (hw : w < 8) : Lk ε jX8_bestCarrier [.inl (nI w)] G0 (oI (bwwV (O G0 0) w 6)) := by
  intro G hG
  rw [← hG.oo (by decide)]
  refine FL.same ?_
  refine C2.of (ls := [some (.inr (0, 30)), some (.inl (nI w))]) okX8_bestCarrier rfl rfl ?_
  repeat (first | refine e2_step rfl rfl ?_ | refine e2_get rfl (by first | exact hi | decide) rfl rfl ?_)
  refine e2_fs (c_isWalkT hw) rfl rfl ⟨rfl, rfl, rfl⟩ rfl rfl rfl ?_
  refine e2_if rfl rfl (fun _ => ?_) (fun z => absurd (by decide) z)
  repeat (first | refine e2_step rfl rfl ?_ | refine e2_get rfl (by first | exact hi | decide) rfl rfl ?_)
  refine e2_fi (fo_same (i := 0) (k_bww (by decide) hw)) rfl rfl ⟨rfl, rfl, rfl⟩ rfl rfl rfl (by first | exact hi | decide) rfl rfl rfl ?_
  exact e2_iret rfl rfl ⟨rfl, rfl⟩
theorem bagH_le (h : IV V N Y) : (bagH V N).length ≤ N := by
  have h1 := hr1_ok h
  obtain ⟨o1, -⟩ := ov_all h1.1 N (Nat.le_refl _)
  unfold bagH
  rw [bag_len o1]
  exact P7_le
theorem IV.pass (h : IV V N Y) (hi : i < 19) : FC ε jX5_passHour [.inr (i, 0), .inr (0, 40)] G i V s o (some (nI (hrsn V N))) (hrsV V N) (nI (bagH V N).length) (ordA (bagH V N) o) := by
  obtain ⟨sp, sp1, sp2, sp3⟩ := h.1.1.2.2.2.2.2.2.1
  exact w_passHour (sp := sp) hi h.1.nle h.1.cnt h.1.okV sp3 (by omega) (bagH_le h) (hour_all h).2.2.1
theorem cpE_cG : cpE G 18 0 = cG G 18 (O G 0) (G 0 40 1) (G 0 41) := by
  have h := cG_self G 18
  funext a b
  by_cases h1 : a = 18 ∧ b < 18
  · unfold cpE cG
    rw [if_pos h1, if_pos h1, O_at h1.2]
  · have e : cG G 18 (O G 0) (G 0 40 1) (G 0 41) a b = cG G 18 (G 18) (G 0 40 1) (G 0 41) a b := by
      unfold cG
      rw [if_neg h1, if_neg h1]
    rw [e, h]
    unfold cpE
    rw [if_neg h1]
theorem IV.okG (h : IV (O G 0) N Y) : ∀ t, t < 6 → G 0 14 t = 0 ∨ G 0 14 t = 1 := fun t ht => h.okZ t ht
theorem L_wouldOverflow (h : IV (O G0 0) N Y) {u : Nat} (hu : u ≤ 2) (h5 : O G0 0 0 5 = nI u) : Lk ε jX8_wouldOverflow [.inl (nI u)] G0 (nI (P7 (hrsV (O G0 0) N) 2 N)) := by
  intro G hG
  rw [← hG.oo (by decide)] at h5 ⊢
  have h := hG.IVo h
  have hi : (18 : Nat) < 19 := by decide
  unfold FL
  refine C2.of (ls := [some (.inr (0, 30)), some (.inl (nI u))]) okX8_wouldOverflow rfl rfl ?_
  repeat (first | refine e2_step rfl rfl ?_ | refine e2_get rfl (by first | exact hi | decide) rfl rfl ?_)
  refine e2_fs (c_isIn (nI u) (nI 0) (nI 2)) rfl rfl ⟨rfl, rfl, rfl⟩ rfl rfl rfl ?_
  rw [isIn_T (by omega) (by decide)]
  refine e2_if rfl rfl (fun _ => ?_) (fun z => absurd (by decide) z)
  repeat (first | refine e2_step rfl rfl ?_ | refine e2_get rfl (by first | exact hi | decide) rfl rfl ?_)
  refine e2_fv (Q_officeE (i := 18) (i2 := 0) (by decide) (by decide) (by decide) h.okG) rfl rfl ⟨rfl, rfl, rfl⟩ rfl rfl rfl (by first | exact hi | decide) rfl rfl rfl ?_
  rw [cpE_cG]
  repeat (first | refine e2_step rfl rfl ?_ | refine e2c_get (i := 18) (by decide) rfl rfl rfl rfl ?_ | refine e2_get rfl (by decide) rfl rfl ?_)
  refine e2c_put (i := 18) hi rfl rfl rfl rfl rfl rfl rfl ?_
  have e : wv (O G 0) 0 5 (nI u) = O G 0 := by
    funext kk j
    unfold wv sv
    by_cases hk : kk = 0
    · subst hk
      rw [if_pos rfl]
      unfold upd
      by_cases hj : j = 5
      · rw [if_pos hj, hj, h5]
      · rw [if_neg hj]
    · rw [if_neg hk]
  rw [e]
  repeat (first | refine e2_step rfl rfl ?_ | refine e2c_get (i := 18) (by decide) rfl rfl rfl rfl ?_ | refine e2_get rfl (by decide) rfl rfl ?_)
  refine e2c_fi (h.pass hi) rfl rfl ⟨rfl, rfl, rfl⟩ rfl rfl rfl hi rfl rfl rfl rfl ?_
  repeat (first | refine e2_step rfl rfl ?_ | refine e2c_get (i := 18) (by decide) rfl rfl rfl rfl ?_ | refine e2_get rfl (by decide) rfl rfl ?_)
  refine e2c_fi (v_countIn hi (hour_all h).1.1.nle (hour_all h).1.1.cnt (nI 2)) rfl rfl ⟨rfl, rfl, rfl⟩ rfl rfl rfl hi rfl rfl rfl rfl ?_
  exact e2_iret rfl rfl ⟨rfl, lk_trial⟩
/-- in how many hours bag and overflow are empty, in at most k steps more -/
def clrF (N : Nat) : Nat → VV → Nat → Int32
  | 0, _, _ => -9
  | k + 1, V, m => if wtn V N = 0 then nI m else if hrsn V N = 0 then -9 else clrF N k (hrsV V N) (m + 1)
theorem l_clear (hi : 18 < 19) : ∀ (k m : Nat) (W : VV) (Y : Nat) (s : Int32) (o : Nat → Int32), m + k = 61 → IV W N Y → E2 ε jX8_clearIn 16 [some (.inr (0, 30)), some (.inl (nI m))] [] (cG G 18 W s o) (fun v G' => v = some (clrF N k W m) ∧ lk1 G G')
  | 0, m, W, Y, s, o, hm, h => by
    have : m = 61 := by omega
    subst this
    repeat (first | refine e2_step rfl rfl ?_ | refine e2c_get (i := 18) (by decide) rfl rfl rfl rfl ?_ | refine e2_get rfl (by decide) rfl rfl ?_)
    refine e2_if rfl rfl (fun _ => ?_) (fun z => absurd (show (60 : Int32) < nI 61 by decide) z)
    repeat (first | refine e2_step rfl rfl ?_ | refine e2c_get (i := 18) (by decide) rfl rfl rfl rfl ?_ | refine e2_get rfl (by decide) rfl rfl ?_)
    exact e2_iret rfl rfl ⟨rfl, lk_trial⟩
  | k + 1, m, W, Y, s, o, hm, h => by
    have hle := hour_all h
    repeat (first | refine e2_step rfl rfl ?_ | refine e2c_get (i := 18) (by decide) rfl rfl rfl rfl ?_ | refine e2_get rfl (by decide) rfl rfl ?_)
    refine e2_if rfl rfl (fun z => absurd ((nI_ltI (show 60 < 2 ^ 31 by decide) (show m < 2 ^ 31 by omega)).1 z) (by omega)) (fun _ => ?_)
    repeat (first | refine e2_step rfl rfl ?_ | refine e2c_get (i := 18) (by decide) rfl rfl rfl rfl ?_ | refine e2_get rfl (by decide) rfl rfl ?_)
    refine e2c_fi (w_isCleared hi h.1.nle h.1.cnt) rfl rfl ⟨rfl, rfl, rfl⟩ rfl rfl rfl hi rfl rfl rfl rfl ?_
    have ec : clrF N (k + 1) W m = if wtn W N = 0 then nI m else if hrsn W N = 0 then -9 else clrF N k (hrsV W N) (m + 1) := rfl
    rw [ec]
    have hw : wtn W N = cntB (fun l => decide (W 7 l = nI 0)) N + cntB (fun l => decide (W 7 l = nI 2)) N := rfl
    refine e2_if rfl rfl (fun z => ?_) (fun z => ?_)
    · rw [bI_0] at z
      have hn : ¬ wtn W N = 0 := fun q => by
        rw [decide_eq_true (p := cntB (fun l => decide (W 7 l = nI 0)) N = 0) (by omega), decide_eq_true (p := cntB (fun l => decide (W 7 l = nI 2)) N = 0) (by omega)] at z
        cases z
      rw [if_neg hn]
      repeat (first | refine e2_step rfl rfl ?_ | refine e2c_get (i := 18) (by decide) rfl rfl rfl rfl ?_ | refine e2_get rfl (by decide) rfl rfl ?_)
      refine e2c_fi (h.pass hi) rfl rfl ⟨rfl, rfl, rfl⟩ rfl rfl rfl hi rfl rfl rfl rfl ?_
      have hr : hrsn W N < 2 ^ 31 := by
        have h1 := srtsn_le (V := ovV (hr1V W) N) (N := N) (R := bagH W N) (min (bagH W N).length (W 0 6).toNatClampNeg)
        have h2 := bagH_le h
        have h3 := h.1.nle
        have h4 : hrsn W N ≤ min (bagH W N).length (W 0 6).toNatClampNeg := h1
        omega
      refine e2_if rfl rfl (fun y => ?_) (fun y => ?_)
      · have y2 : ¬ hrsn W N = 0 := fun q => y (by rw [q]; rfl)
        rw [if_neg y2]
        repeat (first | refine e2_stepS 16 rfl rfl rfl ?_)
        rw [nI_add']
        exact l_clear hi k (m + 1) (hrsV W N) (Y + 1) _ _ (by omega) hle.1
      · have y2 : hrsn W N = 0 := (nI_eq hr (by decide)).1 (Classical.not_not.1 y)
        rw [if_pos y2]
        repeat (first | refine e2_step rfl rfl ?_ | refine e2c_get (i := 18) (by decide) rfl rfl rfl rfl ?_ | refine e2_get rfl (by decide) rfl rfl ?_)
        exact e2_iret rfl rfl ⟨rfl, lk_trial⟩
    · rw [bI_0, Bool.not_eq_false, Bool.and_eq_true, decide_eq_true_eq, decide_eq_true_eq] at z
      rw [if_pos (by omega)]
      repeat (first | refine e2_step rfl rfl ?_ | refine e2c_get (i := 18) (by decide) rfl rfl rfl rfl ?_ | refine e2_get rfl (by decide) rfl rfl ?_)
      exact e2_iret rfl rfl ⟨rfl, lk_trial⟩
theorem L_clearIn (h : IV (O G0 0) N Y) : Lk ε jX8_clearIn [] G0 (clrF N 61 (O G0 0) 0) := by
  intro G hG
  rw [← hG.oo (by decide)]
  have h := hG.IVo h
  have hi : (18 : Nat) < 19 := by decide
  unfold FL
  refine C2.of (ls := [some (.inr (0, 30)), none]) okX8_clearIn rfl rfl ?_
  repeat (first | refine e2_step rfl rfl ?_ | refine e2_get rfl (by first | exact hi | decide) rfl rfl ?_)
  refine e2_fv (Q_officeE (i := 18) (i2 := 0) (by decide) (by decide) (by decide) h.okG) rfl rfl ⟨rfl, rfl, rfl⟩ rfl rfl rfl (by first | exact hi | decide) rfl rfl rfl ?_
  rw [cpE_cG]
  repeat (first | refine e2_stepS 16 rfl rfl rfl ?_)
  exact l_clear hi 61 0 (O G 0) Y _ _ rfl h
theorem IV.back (h : IV V N Y) (hi : i < 19) {c w : Nat} (hc : c < 6) (hw : w < 8) (h13 : V 13 c = nI w) : FC ε jX5_bringBack [.inr (i, 0), .inl (nI c), .inr (0, 40)] G i V s o (some (nI (brgn V N c w))) (brgV V N c w) (nI (atVR V N (nI 3) (nI c)).length) (ordA (atVR V N (nI 3) (nI c)) o) := w_bringBack hi h.1.nle h.1.cnt h.1.okV hc hw h13
theorem IV.send (h : IV V N Y) (hi : i < 19) {c : Nat} (hc : c < 6) : FC ε jX5_sendOut [.inr (i, 0), .inl (nI c), .inr (0, 40)] G i V s o (some (nI (sndn V N c))) (sndV V N c) (nI (atVR V N (nI 1) (V 13 c)).length) (ordA (atVR V N (nI 1) (V 13 c)) o) := by
  obtain ⟨u, u1, u2, u3⟩ := h.1.1.2.2.2.2.2.2.2
  exact w_sendOut (ld := u) hi h.1.nle h.1.cnt h.1.okV hc u3 (by omega)
theorem L_wouldOut (h : IV (O G0 0) N Y) {c w : Nat} (hc : c < 6) (hw : w < 8) (h13 : O G0 0 13 c = nI w) (h14 : O G0 0 14 c = nI 1) : Lk ε jX8_wouldDeliver [.inl (nI c)] G0 (nI (brgn (O G0 0) N c w)) := by
  intro G hG
  rw [← hG.oo (by decide)] at h13 h14 ⊢
  have h := hG.IVo h
  have hi : (18 : Nat) < 19 := by decide
  unfold FL
  refine C2.of (ls := [some (.inr (0, 30)), some (.inl (nI c)), none]) okX8_wouldDeliver rfl rfl ?_
  repeat (first | refine e2_step rfl rfl ?_ | refine e2_get rfl (by first | exact hi | decide) rfl rfl ?_)
  refine e2_fs (c_isCarrierT hc) rfl rfl ⟨rfl, rfl, rfl⟩ rfl rfl rfl ?_
  refine e2_if rfl rfl (fun _ => ?_) (fun z => absurd (by decide) z)
  repeat (first | refine e2_step rfl rfl ?_ | refine e2_get rfl (by first | exact hi | decide) rfl rfl ?_)
  refine e2_zald (i := 0) (kk := 14) c rfl rfl (by decide) rfl hc ?_
  rw [show G 0 14 c = nI 1 from h14]
  repeat (first | refine e2_step rfl rfl ?_ | refine e2_get rfl (by first | exact hi | decide) rfl rfl ?_)
  refine e2_if rfl rfl (fun _ => ?_) (fun z => absurd (by decide) z)
  repeat (first | refine e2_step rfl rfl ?_ | refine e2_get rfl (by first | exact hi | decide) rfl rfl ?_)
  refine e2_fv (Q_officeE (i := 18) (i2 := 0) (by decide) (by decide) (by decide) h.okG) rfl rfl ⟨rfl, rfl, rfl⟩ rfl rfl rfl (by first | exact hi | decide) rfl rfl rfl ?_
  rw [cpE_cG]
  repeat (first | refine e2_step rfl rfl ?_ | refine e2c_get (i := 18) (by decide) rfl rfl rfl rfl ?_ | refine e2_get rfl (by decide) rfl rfl ?_)
  refine e2_if rfl rfl (fun _ => ?_) (fun z => absurd (by decide) z)
  repeat (first | refine e2_step rfl rfl ?_ | refine e2c_get (i := 18) (by decide) rfl rfl rfl rfl ?_ | refine e2_get rfl (by decide) rfl rfl ?_)
  refine e2c_fi (h.back hi hc hw h13) rfl rfl ⟨rfl, rfl, rfl⟩ rfl rfl rfl hi rfl rfl rfl rfl ?_
  exact e2_iret rfl rfl ⟨rfl, lk_trial⟩
theorem L_wouldIn (h : IV (O G0 0) N Y) {c w : Nat} (hc : c < 6) (hw : w < 8) (h13 : O G0 0 13 c = nI w) (h14 : O G0 0 14 c = nI 0) (hg : cgB (O G0 0) c = true) : Lk ε jX8_wouldDeliver [.inl (nI c)] G0 (nI (brgn (sndV (O G0 0) N c) N c w)) := by
  intro G hG
  rw [← hG.oo (by decide)] at h13 h14 hg ⊢
  have h := hG.IVo h
  have hi : (18 : Nat) < 19 := by decide
  have hs := snd_all h hc h14 hw h13
  have h13b : sndV (O G 0) N c 13 c = nI w := by rw [snd_o (by decide) (by decide) (by decide) (by decide)]; exact h13
  unfold FL
  refine C2.of (ls := [some (.inr (0, 30)), some (.inl (nI c)), none]) okX8_wouldDeliver rfl rfl ?_
  repeat (first | refine e2_step rfl rfl ?_ | refine e2_get rfl (by first | exact hi | decide) rfl rfl ?_)
  refine e2_fs (c_isCarrierT hc) rfl rfl ⟨rfl, rfl, rfl⟩ rfl rfl rfl ?_
  refine e2_if rfl rfl (fun _ => ?_) (fun z => absurd (by decide) z)
  repeat (first | refine e2_step rfl rfl ?_ | refine e2_get rfl (by first | exact hi | decide) rfl rfl ?_)
  refine e2_zald (i := 0) (kk := 14) c rfl rfl (by decide) rfl hc ?_
  rw [show G 0 14 c = nI 0 from h14]
  repeat (first | refine e2_step rfl rfl ?_ | refine e2_get rfl (by first | exact hi | decide) rfl rfl ?_)
  refine e2_if rfl rfl (fun z => absurd rfl z) (fun _ => ?_)
  repeat (first | refine e2_step rfl rfl ?_ | refine e2_get rfl (by first | exact hi | decide) rfl rfl ?_)
  refine e2_fi (fo_same (i := 0) (w_canGoOut (by decide) hc (Or.inr ⟨w, hw, h13⟩))) rfl rfl ⟨rfl, rfl, rfl⟩ rfl rfl rfl (by first | exact hi | decide) rfl rfl rfl ?_
  rw [hg]
  refine e2_if rfl rfl (fun _ => ?_) (fun z => absurd (by decide) z)
  repeat (first | refine e2_step rfl rfl ?_ | refine e2_get rfl (by first | exact hi | decide) rfl rfl ?_)
  refine e2_fv (Q_officeE (i := 18) (i2 := 0) (by decide) (by decide) (by decide) h.okG) rfl rfl ⟨rfl, rfl, rfl⟩ rfl rfl rfl (by first | exact hi | decide) rfl rfl rfl ?_
  rw [cpE_cG]
  repeat (first | refine e2_step rfl rfl ?_ | refine e2c_get (i := 18) (by decide) rfl rfl rfl rfl ?_ | refine e2_get rfl (by decide) rfl rfl ?_)
  refine e2_if rfl rfl (fun z => absurd rfl z) (fun _ => ?_)
  repeat (first | refine e2_step rfl rfl ?_ | refine e2c_get (i := 18) (by decide) rfl rfl rfl rfl ?_ | refine e2_get rfl (by decide) rfl rfl ?_)
  refine e2c_fi (h.send hi hc) rfl rfl ⟨rfl, rfl, rfl⟩ rfl rfl rfl hi rfl rfl rfl rfl ?_
  repeat (first | refine e2_step rfl rfl ?_ | refine e2c_get (i := 18) (by decide) rfl rfl rfl rfl ?_ | refine e2_get rfl (by decide) rfl rfl ?_)
  refine e2c_fi (hs.1.back hi hc hw h13b) rfl rfl ⟨rfl, rfl, rfl⟩ rfl rfl rfl hi rfl rfl rfl rfl ?_
  exact e2_iret rfl rfl ⟨rfl, lk_trial⟩
theorem L_wouldNo (h : IV (O G0 0) N Y) {c : Nat} (hc : c < 6) (h14 : O G0 0 14 c = nI 0) (hg : cgB (O G0 0) c = false) : Lk ε jX8_wouldDeliver [.inl (nI c)] G0 (-2) := by
  intro G hG
  rw [← hG.oo (by decide)] at h14 hg
  have h := hG.IVo h
  refine FL.same ?_
  refine C2.of (ls := [some (.inr (0, 30)), some (.inl (nI c)), none]) okX8_wouldDeliver rfl rfl ?_
  repeat (first | refine e2_step rfl rfl ?_ | refine e2_get rfl (by first | exact hi | decide) rfl rfl ?_)
  refine e2_fs (c_isCarrierT hc) rfl rfl ⟨rfl, rfl, rfl⟩ rfl rfl rfl ?_
  refine e2_if rfl rfl (fun _ => ?_) (fun z => absurd (by decide) z)
  repeat (first | refine e2_step rfl rfl ?_ | refine e2_get rfl (by first | exact hi | decide) rfl rfl ?_)
  refine e2_zald (i := 0) (kk := 14) c rfl rfl (by decide) rfl hc ?_
  rw [show G 0 14 c = nI 0 from h14]
  repeat (first | refine e2_step rfl rfl ?_ | refine e2_get rfl (by first | exact hi | decide) rfl rfl ?_)
  refine e2_if rfl rfl (fun z => absurd rfl z) (fun _ => ?_)
  repeat (first | refine e2_step rfl rfl ?_ | refine e2_get rfl (by first | exact hi | decide) rfl rfl ?_)
  refine e2_fi (fo_same (i := 0) (w_canGoOut (by decide) hc (h.1.2.1.1 c hc).2.1)) rfl rfl ⟨rfl, rfl, rfl⟩ rfl rfl rfl (by first | exact hi | decide) rfl rfl rfl ?_
  rw [hg]
  refine e2_if rfl rfl (fun z => absurd rfl z) (fun _ => ?_)
  repeat (first | refine e2_step rfl rfl ?_ | refine e2_get rfl (by first | exact hi | decide) rfl rfl ?_)
  exact e2_iret rfl rfl ⟨rfl, rfl⟩
end LB
