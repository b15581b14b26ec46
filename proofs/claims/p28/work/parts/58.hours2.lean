/-! The law's hours. -/
section MB
variable {ε : EE} {G G' G0 G1 : GG} {V V' : VV} {N Y : Nat}
theorem wtn_le : wtn V N ≤ 2 * N := by
  have h1 : P7 V 0 N ≤ N := P7_le
  have h2 : P7 V 2 N ≤ N := P7_le
  unfold wtn
  omega
set_option maxHeartbeats 2000000 in
theorem H_hours (h : SG G0) : ∀ G, lk1 G0 G → C2 ε jL_hours [.inr (0, 30)] G (HQ G0) := by
  obtain ⟨N, hN⟩ := h.1
  obtain ⟨y, y500, hy⟩ := hN.1.1.2.2.2.2.1
  obtain ⟨u, u2, hu⟩ := hN.1.1.2.2.2.2.2.1
  obtain ⟨sp, sp1, sp40, hsp⟩ := hN.1.1.2.2.2.2.2.2.1
  have hN120 := hN.1.nle
  have hcl := clr_hour hN
  have hW := wtn_le (V := O G0 0) (N := N)
  have eW : nI (P7 (O G0 0) 0 N) + nI (P7 (O G0 0) 2 N) = nI (wtn (O G0 0) N) := nI_add' _ _
  refine C3.of (ls := [some (.inr (0, 30)), none, none, none, none, none, none, none]) okL_hours rfl rfl ?_
  repeat (first | refine e3_step rfl rfl ?_)
  refine e3_look (L_clearIn hN) rfl rfl ⟨rfl, rfl, rfl⟩ rfl rfl rfl rfl ?_
  repeat (first | refine e3_step rfl rfl ?_)
  refine e3_look (L_c13 hN hu) rfl rfl ⟨rfl, rfl, rfl⟩ rfl rfl rfl rfl ?_
  refine e3_look (L_wouldOverflow hN u2 hu) rfl rfl ⟨rfl, rfl, rfl⟩ rfl rfl rfl rfl ?_
  repeat (first | refine e3_step rfl rfl ?_)
  refine e3_look (L_c0 hN) rfl rfl ⟨rfl, rfl, rfl⟩ rfl rfl rfl rfl ?_
  repeat (first | refine e3_step rfl rfl ?_)
  refine e3_look (L_c2 hN) rfl rfl ⟨rfl, rfl, rfl⟩ rfl rfl rfl rfl ?_
  repeat (first | refine e3_step rfl rfl ?_)
  rw [eW]
  refine e3_look (L_c14 hN hsp) rfl rfl ⟨rfl, rfl, rfl⟩ rfl rfl rfl rfl ?_
  repeat (first | refine e3_step rfl rfl ?_)
  refine e3_look (L_c7 hN hy) rfl rfl ⟨rfl, rfl, rfl⟩ rfl rfl rfl rfl ?_
  repeat (first | refine e3_step rfl rfl ?_)
  by_cases hyy : y = 500
  · rw [hyy] at hy ⊢
    refine e3_look (L_hourFull hN hy) rfl rfl ⟨rfl, rfl, rfl⟩ rfl rfl rfl rfl ?_
    repeat (first | refine e3_step rfl rfl ?_)
    refine e3_if rfl rfl (fun z => absurd rfl z) (fun _ => ?_)
    repeat (first | refine e3_step rfl rfl ?_)
    refine e3_if rfl rfl (fun z => absurd rfl z) (fun _ => ?_)
    repeat (first | refine e3_step rfl rfl ?_)
    exact e3_zret rfl rfl rfl HQ.lk
  · have hlt : y < 500 := by omega
    have hT := hN.tight (by decide) hy (by omega)
    have hall := hour_all hT
    refine e3_op (D_hour h hN hy hlt) rfl rfl ⟨rfl, rfl, rfl⟩ rfl rfl rfl rfl (fun G1 zz => ?_)
    have e1 : O G1 0 = hrsV (O G0 0) N := zz.2.1
    have hN1 : IV (O G1 0) N 500 := by rw [e1]; exact hall.1.mono (by omega)
    have hy1 : O G1 0 0 4 = nI (y + 1) := by rw [e1, hall.2.2.2.1, hy, nI_add']
    have hp0 := hall.2.2.2.2.2.2.1
    have hle := hall.2.2.2.2.2.2.2.1
    rw [hsp, nI_clamp (by omega), ← e1] at hp0
    have hL := wtn_le (V := O G1 0) (N := N)
    have eL : nI (P7 (O G1 0) 0 N) + nI (P7 (O G1 0) 2 N) = nI (wtn (O G1 0) N) := nI_add' _ _
    rw [← e1] at hle hcl ⊢
    repeat (first | refine e3_step rfl rfl ?_)
    refine e3_if rfl rfl (fun _ => ?_) (fun q => absurd (fun w => hyy ((nI_eq (by omega) (by decide)).1 w)) q)
    repeat (first | refine e3_step rfl rfl ?_)
    refine e3_look (L_c0 hN1) rfl rfl ⟨rfl, rfl, rfl⟩ rfl rfl rfl rfl ?_
    repeat (first | refine e3_step rfl rfl ?_)
    refine e3_look (L_c2 hN1) rfl rfl ⟨rfl, rfl, rfl⟩ rfl rfl rfl rfl ?_
    repeat (first | refine e3_step rfl rfl ?_)
    rw [eL]
    refine e3_if rfl rfl (fun q => absurd rfl q) (fun _ => ?_)
    repeat (first | refine e3_step rfl rfl ?_)
    refine e3_look (L_c2 hN1) rfl rfl ⟨rfl, rfl, rfl⟩ rfl rfl rfl rfl ?_
    refine e3_if rfl rfl (fun q => absurd rfl q) (fun _ => ?_)
    repeat (first | refine e3_step rfl rfl ?_)
    refine e3_look (L_c7 hN1 hy1) rfl rfl ⟨rfl, rfl, rfl⟩ rfl rfl rfl rfl ?_
    repeat (first | refine e3_step rfl rfl ?_)
    rw [nI_add']
    refine e3_if rfl rfl (fun q => absurd rfl q) (fun _ => ?_)
    repeat (first | refine e3_step rfl rfl ?_)
    refine e3_look (L_c0 hN1) rfl rfl ⟨rfl, rfl, rfl⟩ rfl rfl rfl rfl ?_
    repeat (first | refine e3_step rfl rfl ?_)
    have h135 : E3 ε jL_hours 135 [some (.inr (0, 30)), some (.inl (clrF N 61 (O G0 0) 0)), some (.inl (nI (P7 (O G1 0) 2 N))), some (.inl (nI (wtn (O G0 0) N))), some (.inl (nI sp)), some (.inl (nI y)), some (.inl (nI (P7 (O G1 0) 2 N))), some (.inl (nI (wtn (O G1 0) N)))] [] G1 (HQ G0) := by
      repeat (first | refine e3_step rfl rfl ?_)
      refine e3_if rfl rfl (fun _ => ?_) (fun q => absurd ((nI_leI (by omega) (by omega)).2 hle) q)
      rcases hcl with ⟨c1, c2⟩ | ⟨c1, c2⟩ | ⟨c1, c2⟩ | ⟨j, j1, c1, c2, c3⟩
      · rw [c1, c2]
        repeat (first | refine e3_step rfl rfl ?_)
        refine e3_if rfl rfl (fun q => absurd rfl q) (fun _ => ?_)
        repeat (first | refine e3_step rfl rfl ?_)
        refine e3_if rfl rfl (fun q => absurd rfl q) (fun _ => ?_)
        repeat (first | refine e3_step rfl rfl ?_)
        exact e3_zret rfl rfl rfl (HQ.dn zz)
      · rw [c1, c2]
        repeat (first | refine e3_step rfl rfl ?_)
        refine e3_if rfl rfl (fun _ => ?_) (fun q => absurd (by decide) q)
        repeat (first | refine e3_step rfl rfl ?_)
        refine e3_if rfl rfl (fun q => absurd rfl q) (fun _ => ?_)
        repeat (first | refine e3_step rfl rfl ?_)
        refine e3_if rfl rfl (fun q => absurd rfl q) (fun _ => ?_)
        repeat (first | refine e3_step rfl rfl ?_)
        refine e3_if rfl rfl (fun q => absurd rfl q) (fun _ => ?_)
        repeat (first | refine e3_step rfl rfl ?_)
        refine e3_if rfl rfl (fun _ => ?_) (fun q => absurd (by decide) q)
        repeat (first | refine e3_step rfl rfl ?_)
        exact e3_zret rfl rfl rfl (HQ.dn zz)
      · rw [c1]
        have c2' : ¬ nI (wtn (O G1 0) N) = 0 := fun q => c2 ((nI_eq (b := 0) (by omega) (by decide)).1 q)
        repeat (first | refine e3_step rfl rfl ?_)
        refine e3_if rfl rfl (fun _ => ?_) (fun q => absurd (by decide) q)
        repeat (first | refine e3_step rfl rfl ?_)
        refine e3_if rfl rfl (fun _ => ?_) (fun q => absurd (by decide) q)
        repeat (first | refine e3_step rfl rfl ?_)
        refine e3_if rfl rfl (fun _ => ?_) (fun q => absurd c2' q)
        repeat (first | refine e3_step rfl rfl ?_)
        refine e3_if rfl rfl (fun q => absurd rfl q) (fun _ => ?_)
        repeat (first | refine e3_step rfl rfl ?_)
        refine e3_if rfl rfl (fun _ => ?_) (fun q => absurd (by decide) q)
        repeat (first | refine e3_step rfl rfl ?_)
        exact e3_zret rfl rfl rfl (HQ.dn zz)
      · rw [c1]
        have c2' : ¬ nI (wtn (O G1 0) N) = 0 := fun q => c2 ((nI_eq (b := 0) (by omega) (by decide)).1 q)
        have c4 : Lk ε jX8_clearIn [] G1 (nI (j + 1)) := by rw [← c3]; exact L_clearIn hN1
        repeat (first | refine e3_step rfl rfl ?_)
        refine e3_if rfl rfl (fun _ => ?_) (fun q => absurd (fun w => by
          have := (nI_eq (b := 0) (by omega) (by decide)).1 w
          omega) q)
        repeat (first | refine e3_step rfl rfl ?_)
        refine e3_if rfl rfl (fun _ => ?_) (fun q => absurd (fun w => by
          have := (nI_eq (b := 1) (by omega) (by decide)).1 w
          omega) q)
        repeat (first | refine e3_step rfl rfl ?_)
        refine e3_if rfl rfl (fun _ => ?_) (fun q => absurd c2' q)
        repeat (first | refine e3_step rfl rfl ?_)
        refine e3_if rfl rfl (fun q => absurd rfl q) (fun _ => ?_)
        repeat (first | refine e3_step rfl rfl ?_)
        refine e3_if rfl rfl (fun q => absurd ((nI_ltI (b := 2) (by omega) (by decide)).1 q) (by omega)) (fun _ => ?_)
        repeat (first | refine e3_step rfl rfl ?_)
        refine e3_look (c4) rfl rfl ⟨rfl, rfl, rfl⟩ rfl rfl rfl rfl ?_
        repeat (first | refine e3_step rfl rfl ?_)
        rw [pk_sub (a := j + 2) (b := 1) (by omega), show j + 2 - 1 = j + 1 by omega]
        refine e3_if rfl rfl (fun q => absurd rfl q) (fun _ => ?_)
        repeat (first | refine e3_step rfl rfl ?_)
        exact e3_zret rfl rfl rfl (HQ.dn zz)
    refine e3_if rfl rfl (fun q => ?_) (fun q => ?_)
    · have hq : wtn (O G0 0) N ≤ sp := (nI_leI (by omega) (by omega)).1 q
      rw [Nat.min_eq_left hq] at hp0
      have h0 : P7 (O G1 0) 0 N = 0 := by omega
      repeat (first | refine e3_step rfl rfl ?_)
      rw [h0]
      refine e3_if rfl rfl (fun q => absurd rfl q) (fun _ => ?_)
      exact h135
    · have hq : ¬ wtn (O G0 0) N ≤ sp := fun w => q ((nI_leI (by omega) (by omega)).2 w)
      rw [Nat.min_eq_right (by omega)] at hp0
      have h0 : P7 (O G1 0) 0 N = wtn (O G0 0) N - sp := by omega
      repeat (first | refine e3_step rfl rfl ?_)
      rw [pk_sub (by omega), ← h0]
      refine e3_if rfl rfl (fun q => absurd rfl q) (fun _ => ?_)
      exact h135
end MB
