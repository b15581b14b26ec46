/-! The law's acts, kind by kind: post, setRange, set. -/
section MD2
variable {ε : EE} {J J' : JT} {pc : Nat} {ls : List (Option V0)} {st : List V0} {G G' G0 G1 : GG} {V V' : VV} {N Y n k w c : Nat} {y z : Int32} {f : Nat → Int32} {Q : Option Int32 → GG → Prop}
theorem and_le (v : Int32) (m : Nat) (hm : m < 2 ^ 31) : ∃ k, k ≤ m ∧ v &&& nI m = nI k := by
  have e : (v &&& nI m).toBitVec.toNat = v.toBitVec.toNat &&& m := by
    rw [Int32.toBitVec_and, BitVec.toNat_and]
    congr 1
    show (BitVec.ofNat 32 m).toNat = m
    rw [BitVec.toNat_ofNat]
    omega
  have hle : v.toBitVec.toNat &&& m ≤ m := Nat.and_le_right
  refine ⟨v.toBitVec.toNat &&& m, hle, ?_⟩
  apply Int32.toBitVec_inj.1
  apply BitVec.eq_of_toNat_eq
  rw [e]
  show _ = (BitVec.ofNat 32 (v.toBitVec.toNat &&& m)).toNat
  rw [BitVec.toNat_ofNat]
  omega
theorem After.dn (h : Dn G0 G1 V') : ∀ G', lk1 G1 G' → HQ G0 (some (nI 1)) G' := HQ.dn h
set_option maxRecDepth 100000 in
set_option maxHeartbeats 1000000 in
theorem A_post (h : SG G0) : E3 ε jL_acts 31 [some (.inr (0, 30)), some (.inl y), some (.inl z), some (.inl (nI k)), some (.inl (nI w)), some (.inl (nI c)), none, none, none, none, none] [] G0 (HQ G0) := by
  obtain ⟨N, hN⟩ := h.1
  have hN120 := hN.1.nle
  obtain ⟨r, hr, er⟩ := lowI_of z (n := 20) (by decide) (by decide)
  obtain ⟨a, ha, ea⟩ := lowI_of (z >>> (nI 5 &&& 31)) (n := 100) (by decide) (by decide)
  obtain ⟨f, hf, ef⟩ := and_le (z >>> (nI 4 &&& 31)) 1 (by decide)
  repeat (first | refine e3_step rfl rfl ?_)
  refine e3_stat (L_low z (n := 20) (by decide) (by decide)) rfl rfl ⟨rfl, rfl, rfl⟩ rfl rfl rfl ?_
  rw [er]
  repeat (first | refine e3_step rfl rfl ?_)
  rw [nI_add']
  refine e3_look (L_c6 hN) rfl rfl ⟨rfl, rfl, rfl⟩ rfl rfl rfl rfl ?_
  repeat (first | refine e3_step rfl rfl ?_)
  refine e3_stat (L_low (z >>> (nI 5 &&& 31)) (n := 100) (by decide) (by decide)) rfl rfl ⟨rfl, rfl, rfl⟩ rfl rfl rfl ?_
  rw [ea]
  repeat (first | refine e3_step rfl rfl ?_)
  rw [ef]
  by_cases hful : N + (1 + r) ≤ 120
  · refine e3_op (D_post (c := a) (f := f) (m := 1 + r) h hN ha (by omega) (by omega) (by omega) hful) rfl rfl ⟨rfl, rfl, rfl⟩ rfl rfl rfl rfl (fun G1 zz => ?_)

    have hN1 : IV (O G1 0) (N + (1 + r)) 500 := by
      rw [zz.2.1]
      exact hN.adds ha (by omega) _ hful
    repeat (first | refine e3_step rfl rfl ?_)
    rw [nI_add']
    refine e3_if rfl rfl (fun _ => ?_) (fun q => absurd (nI_le hful (by omega)) q)
    repeat (first | refine e3_step rfl rfl ?_)
    refine e3_if rfl rfl (fun q => absurd rfl q) (fun _ => ?_)
    repeat (first | refine e3_step rfl rfl ?_)
    refine e3_look (L_c6 hN1) rfl rfl ⟨rfl, rfl, rfl⟩ rfl rfl rfl rfl ?_
    repeat (first | refine e3_step rfl rfl ?_)
    rw [nI_add']
    refine e3_if rfl rfl (fun q => absurd rfl q) (fun _ => ?_)
    repeat (first | refine e3_step rfl rfl ?_)
    exact e3_zret rfl rfl rfl (HQ.dn zz)
  · refine e3_look (L_postFull (c := a) (f := f) (m := 1 + r) hN ha (by omega) (by omega) (by omega) (by omega)) rfl rfl ⟨rfl, rfl, rfl⟩ rfl rfl rfl rfl ?_
    repeat (first | refine e3_step rfl rfl ?_)
    rw [nI_add']
    refine e3_if rfl rfl (fun q => absurd q (nI_ge (a := 120) (b := N + (1 + r)) (by omega) (by omega))) (fun _ => ?_)
    repeat (first | refine e3_step rfl rfl ?_)
    refine e3_if rfl rfl (fun q => absurd rfl q) (fun _ => ?_)
    repeat (first | refine e3_step rfl rfl ?_)
    refine e3_look (L_c6 hN) rfl rfl ⟨rfl, rfl, rfl⟩ rfl rfl rfl rfl ?_
    repeat (first | refine e3_step rfl rfl ?_)
    refine e3_if rfl rfl (fun q => absurd rfl q) (fun _ => ?_)
    repeat (first | refine e3_step rfl rfl ?_)
    exact e3_zret rfl rfl rfl HQ.lk
theorem fst_le {a : Nat} {x : Int32} : ∀ b, a ≤ b → (∀ j, a ≤ j → j < b → f j = x) → fstC f x b ≤ a
  | 0, h, _ => by
    show 0 ≤ a
    omega
  | b + 1, h, hf => by
    have e : fstC f x (b + 1) = if f b = x then fstC f x b else b + 1 := rfl
    by_cases hab : a = b + 1
    · rw [hab]
      exact fstC_le _
    · rw [e, if_pos (hf b (by omega) (by omega))]
      exact fst_le b (by omega) (fun j j1 j2 => hf j j1 (by omega))
set_option maxRecDepth 100000 in
set_option maxHeartbeats 1000000 in
theorem A_range (h : SG G0) (hw : w < 8) : E3 ε jL_acts 150 [some (.inr (0, 30)), some (.inl y), some (.inl z), some (.inl (nI k)), some (.inl (nI w)), some (.inl (nI c)), none, none, none, none, none] [] G0 (HQ G0) := by
  obtain ⟨N, hN⟩ := h.1
  obtain ⟨a, ha, ea⟩ := lowI_of z (n := 100) (by decide) (by decide)
  obtain ⟨r, hr, er⟩ := lowI_of (z >>> (nI 7 &&& 31)) (n := 100 - a) (by omega) (by omega)
  repeat (first | refine e3_step rfl rfl ?_)
  refine e3_stat (L_low z (n := 100) (by decide) (by decide)) rfl rfl ⟨rfl, rfl, rfl⟩ rfl rfl rfl ?_
  rw [ea]
  repeat (first | refine e3_step rfl rfl ?_)
  rw [pk_sub (a := 100) (b := a) (by omega)]
  refine e3_stat (L_low (z >>> (nI 7 &&& 31)) (n := 100 - a) (by omega) (by omega)) rfl rfl ⟨rfl, rfl, rfl⟩ rfl rfl rfl ?_
  rw [er]
  repeat (first | refine e3_step rfl rfl ?_)
  rw [nI_add']
  refine e3_op (D_setRange (a := a) (b := a + r) (w := w) h hN (by omega) (by omega) hw) rfl rfl ⟨rfl, rfl, rfl⟩ rfl rfl rfl rfl (fun G1 zz => ?_)

  have e1 : O G1 0 2 = rngr (O G0 0 2) a (a + r + 1) (nI w) := by rw [zz.2.1]; rfl
  have hN1 : IV (O G1 0) N 500 := by
    rw [zz.2.1]
    exact hN.rng hw
  have c8 : Lk ε jX8_count [.inl (nI 8)] G1 (nI (1 + cntB (fun c => decide (¬ O G1 0 2 (c + 1) = O G1 0 2 c)) 99)) := L_count hN1 (k := 8) (by decide)
  have gin : ∀ j, a ≤ j → j < a + r + 1 → O G1 0 2 j = nI w := fun j j1 j2 => by
    rw [e1]
    unfold rngr
    rw [if_pos ⟨j1, j2⟩]
  have s0 : Lk ε jX8_stretch [.inl (nI a), .inl (nI 0)] G1 (nI w) := by rw [← gin a (by omega) (by omega)]; exact L_str0 ha
  have s1 : Lk ε jX8_stretch [.inl (nI (a + r)), .inl (nI 0)] G1 (nI w) := by rw [← gin (a + r) (by omega) (by omega)]; exact L_str0 (by omega)
  have s2 : Lk ε jX8_stretch [.inl (nI (a + r)), .inl (nI 1)] G1 (nI (fstC (O G1 0 2) (nI w) (a + r))) := by
    have := L_stretch (ε := ε) (G0 := G1) (c := a + r) (by omega) (k := 1) (by decide)
    have e : aStretch (O G1 0 2) (a + r) 1 = nI (fstC (O G1 0 2) (nI w) (a + r)) := by
      show nI (fstC (O G1 0 2) (O G1 0 2 (a + r)) (a + r)) = _
      rw [gin (a + r) (by omega) (by omega)]
    rw [e] at this
    exact this
  have hfl := fst_le (f := O G1 0 2) (a := a) (x := nI w) (a + r) (by omega) (fun j j1 j2 => gin j j1 (by omega))
  rw [← e1]
  repeat (first | refine e3_step rfl rfl ?_)
  refine e3_look (c8) rfl rfl ⟨rfl, rfl, rfl⟩ rfl rfl rfl rfl ?_
  refine e3_if rfl rfl (fun q => absurd rfl q) (fun _ => ?_)
  repeat (first | refine e3_step rfl rfl ?_)
  refine e3_look (s0) rfl rfl ⟨rfl, rfl, rfl⟩ rfl rfl rfl rfl ?_
  repeat (first | refine e3_step rfl rfl ?_)
  refine e3_if rfl rfl (fun q => absurd rfl q) (fun _ => ?_)
  repeat (first | refine e3_step rfl rfl ?_)
  refine e3_look (s1) rfl rfl ⟨rfl, rfl, rfl⟩ rfl rfl rfl rfl ?_
  repeat (first | refine e3_step rfl rfl ?_)
  refine e3_if rfl rfl (fun q => absurd rfl q) (fun _ => ?_)
  repeat (first | refine e3_step rfl rfl ?_)
  refine e3_look (s2) rfl rfl ⟨rfl, rfl, rfl⟩ rfl rfl rfl rfl ?_
  repeat (first | refine e3_step rfl rfl ?_)
  refine e3_if rfl rfl (fun q => absurd ((nI_ltI (by omega) (by omega)).1 q) (by omega)) (fun _ => ?_)
  repeat (first | refine e3_step rfl rfl ?_)
  exact e3_zret rfl rfl rfl (HQ.dn zz)
theorem num_lk (hN : IV (O G0 0) N Y) (h8 : 8 ≤ n) (h10 : n ≤ 10) : Lk ε jX8_count [.inl (nI (5 + n))] G0 (numV (O G0 0) (nI n)) := by
  have := L_count (ε := ε) hN (k := 5 + n) (by omega)
  have e : aCount G0 N (5 + n) = numV (O G0 0) (nI n) := by
    rw [num_n h10]
    have : n = 8 ∨ n = 9 ∨ n = 10 := by omega
    rcases this with rfl | rfl | rfl
    · rfl
    · rfl
    · rfl
  rw [e] at this
  exact this
theorem num_fr (hN : IV (O G0 0) N Y) (h8 : n < 8) : Lk ε jX8_frame [.inl (nI n), .inl (nI 0)] G0 (numV (O G0 0) (nI n)) := by
  have := L_frame (ε := ε) hN (w := n) (k := 0) h8 (by decide)
  have e : aFrame (O G0 0) N n 0 = numV (O G0 0) (nI n) := by
    rw [num_n (by omega), if_neg (by omega), if_neg (by omega), if_neg (by omega)]
    rfl
  rw [e] at this
  exact this
theorem num_chg {n v : Nat} (hn : n ≤ 10) : numV (chgV V (nI n) (nI v)) (nI n) = nI v := by
  rw [num_n hn, chg_n hn]
  by_cases h8 : n = 8
  · rw [if_pos h8, if_pos h8]
    rfl
  · rw [if_neg h8, if_neg h8]
    by_cases h9 : n = 9
    · rw [if_pos h9, if_pos h9]
      rfl
    · rw [if_neg h9, if_neg h9]
      by_cases h10 : n = 10
      · rw [if_pos h10, if_pos h10]
        rfl
      · rw [if_neg h10, if_neg h10]
        show upd (V 17) n (nI v) n = _
        exact if_pos rfl
set_option maxRecDepth 100000 in
set_option maxHeartbeats 1000000 in
theorem A_set (h : SG G0) : E3 ε jL_acts 242 [some (.inr (0, 30)), some (.inl y), some (.inl z), some (.inl (nI k)), some (.inl (nI w)), some (.inl (nI c)), none, none, none, none, none] [] G0 (HQ G0) := by
  obtain ⟨N, hN⟩ := h.1
  obtain ⟨n, hn, en⟩ := lowI_of z (n := 11) (by decide) (by decide)
  obtain ⟨v, hv, ev⟩ := lowI_of (z >>> (nI 4 &&& 31)) (n := 22) (by decide) (by decide)
  have h250 : ∀ (G : GG) (L : List (Option V0)) Q, IV (O G 0) N 500 → E3 ε jL_acts 275 (some (.inr (0, 30)) :: some (.inl y) :: some (.inl z) :: some (.inl (nI k)) :: some (.inl (nI w)) :: some (.inl (nI c)) :: some (.inl (nI n)) :: L) [.inl (numV (O G 0) (nI n))] G Q → E3 ε jL_acts 250 (some (.inr (0, 30)) :: some (.inl y) :: some (.inl z) :: some (.inl (nI k)) :: some (.inl (nI w)) :: some (.inl (nI c)) :: some (.inl (nI n)) :: L) [] G Q := by
    intro G L Q hG K
    repeat (first | refine e3_step rfl rfl ?_)
    by_cases h8 : n < 8
    · refine e3_if rfl rfl (fun q => absurd q (nI_ge h8 (by decide))) (fun _ => ?_)
      repeat (first | refine e3_step rfl rfl ?_)
      refine e3_look (num_fr hG h8) rfl rfl ⟨rfl, rfl, rfl⟩ rfl rfl rfl rfl ?_
      repeat (first | refine e3_stepS 275 rfl rfl rfl ?_)
      exact K
    · refine e3_if rfl rfl (fun _ => ?_) (fun q => absurd (nI_le (a := 8) (b := n) (by omega) (by omega)) q)
      repeat (first | refine e3_step rfl rfl ?_)
      rw [nI_add']
      refine e3_look (num_lk hG (by omega) (by omega)) rfl rfl ⟨rfl, rfl, rfl⟩ rfl rfl rfl rfl ?_
      exact K
  have h356 : ∀ (G : GG) (L : List (Option V0)) Q, IV (O G 0) N 500 → E3 ε jL_acts 381 (some (.inr (0, 30)) :: some (.inl y) :: some (.inl z) :: some (.inl (nI k)) :: some (.inl (nI w)) :: some (.inl (nI c)) :: some (.inl (nI n)) :: L) [.inl (numV (O G 0) (nI n))] G Q → E3 ε jL_acts 356 (some (.inr (0, 30)) :: some (.inl y) :: some (.inl z) :: some (.inl (nI k)) :: some (.inl (nI w)) :: some (.inl (nI c)) :: some (.inl (nI n)) :: L) [] G Q := by
    intro G L Q hG K
    repeat (first | refine e3_step rfl rfl ?_)
    by_cases h8 : n < 8
    · refine e3_if rfl rfl (fun q => absurd q (nI_ge h8 (by decide))) (fun _ => ?_)
      repeat (first | refine e3_step rfl rfl ?_)
      refine e3_look (num_fr hG h8) rfl rfl ⟨rfl, rfl, rfl⟩ rfl rfl rfl rfl ?_
      repeat (first | refine e3_stepS 381 rfl rfl rfl ?_)
      exact K
    · refine e3_if rfl rfl (fun _ => ?_) (fun q => absurd (nI_le (a := 8) (b := n) (by omega) (by omega)) q)
      repeat (first | refine e3_step rfl rfl ?_)
      rw [nI_add']
      refine e3_look (num_lk hG (by omega) (by omega)) rfl rfl ⟨rfl, rfl, rfl⟩ rfl rfl rfl rfl ?_
      exact K
  repeat (first | refine e3_step rfl rfl ?_)
  refine e3_stat (L_low z (n := 11) (by decide) (by decide)) rfl rfl ⟨rfl, rfl, rfl⟩ rfl rfl rfl ?_
  rw [en]
  refine e3_step rfl rfl ?_
  refine h250 G0 _ _ hN ?_
  repeat (first | refine e3_step rfl rfl ?_)
  refine e3_stat (L_low (z >>> (nI 4 &&& 31)) (n := 22) (by decide) (by decide)) rfl rfl ⟨rfl, rfl, rfl⟩ rfl rfl rfl ?_
  rw [ev]
  refine e3_step rfl rfl ?_
  generalize hx : numV (O G0 0) (nI n) = x
  by_cases hok : okSet n v
  · have h332 : E3 ε jL_acts 332 [some (.inr (0, 30)), some (.inl y), some (.inl z), some (.inl (nI k)), some (.inl (nI w)), some (.inl (nI c)), some (.inl (nI n)), some (.inl x), some (.inl (nI v)), none, none] [.inl (nI 1)] G0 (HQ G0) := by
      repeat (first | refine e3_step rfl rfl ?_)
      refine e3_op (D_set (v := v) h hN (show n ≤ 10 by omega) (by omega) hok) rfl rfl ⟨rfl, rfl, rfl⟩ rfl rfl rfl rfl (fun G1 zz => ?_)

      have hN1 : IV (O G1 0) N 500 := by
        rw [zz.2.1]
        exact hN.chg (by omega) hok
      rw [hx]
      repeat (first | refine e3_step rfl rfl ?_)
      refine e3_if rfl rfl (fun q => absurd q (by decide)) (fun _ => ?_)
      repeat (first | refine e3_step rfl rfl ?_)
      refine e3_if rfl rfl (fun q => absurd rfl q) (fun _ => ?_)
      refine h356 G1 _ _ hN1 ?_
      rw [zz.2.1, num_chg (by omega)]
      repeat (first | refine e3_step rfl rfl ?_)
      refine e3_if rfl rfl (fun q => absurd q (by decide)) (fun _ => ?_)
      repeat (first | refine e3_step rfl rfl ?_)
      refine e3_if rfl rfl (fun q => absurd rfl q) (fun _ => ?_)
      repeat (first | refine e3_step rfl rfl ?_)
      exact e3_zret rfl rfl rfl (HQ.dn zz)
    unfold okSet at hok
    repeat (first | refine e3_step rfl rfl ?_)
    by_cases h8 : n = 8
    · rw [if_pos h8, if_pos h8] at hok
      refine e3_if rfl rfl (fun q => absurd (by rw [h8]) q) (fun _ => ?_)
      repeat (first | refine e3_step rfl rfl ?_)
      refine e3_if rfl rfl (fun q => absurd q (nI_ge (a := v) (b := 3) (by omega) (by decide))) (fun _ => ?_)
      repeat (first | refine e3_stepS 332 rfl rfl rfl ?_)
      exact h332
    · rw [if_neg h8, if_neg h8] at hok
      refine e3_if rfl rfl (fun _ => ?_) (fun q => absurd (fun w => h8 ((nI_eq (by omega) (by decide)).1 w)) q)
      repeat (first | refine e3_step rfl rfl ?_)
      refine e3_if rfl rfl (fun q => absurd (show nI v ≤ nI 0 from q) (nI_ge (by omega) (by omega))) (fun _ => ?_)
      repeat (first | refine e3_step rfl rfl ?_)
      by_cases hgt : 8 < n
      · refine e3_if rfl rfl (fun _ => ?_) (fun q => absurd ((nI_ltI (by decide) (by omega)).2 hgt) q)
        repeat (first | refine e3_stepS 332 rfl rfl rfl ?_)
        exact h332
      · refine e3_if rfl rfl (fun q => absurd ((nI_ltI (by decide) (by omega)).1 q) hgt) (fun _ => ?_)
        repeat (first | refine e3_step rfl rfl ?_)
        rw [if_neg (by omega), if_neg (by omega)] at hok
        refine e3_if rfl rfl (fun q => absurd q (nI_ge (a := v) (b := 21) (by omega) (by decide))) (fun _ => ?_)
        repeat (first | refine e3_stepS 332 rfl rfl rfl ?_)
        exact h332
  · have h332 : E3 ε jL_acts 332 [some (.inr (0, 30)), some (.inl y), some (.inl z), some (.inl (nI k)), some (.inl (nI w)), some (.inl (nI c)), some (.inl (nI n)), some (.inl x), some (.inl (nI v)), none, none] [.inl (nI 0)] G0 (HQ G0) := by
      repeat (first | refine e3_step rfl rfl ?_)
      refine e3_look (L_setNo (n := n) (v := v) (by omega) (by omega) hok) rfl rfl ⟨rfl, rfl, rfl⟩ rfl rfl rfl rfl ?_
      repeat (first | refine e3_step rfl rfl ?_)
      refine e3_if rfl rfl (fun _ => ?_) (fun q => absurd rfl q)
      repeat (first | refine e3_step rfl rfl ?_)
      refine e3_if rfl rfl (fun q => absurd rfl q) (fun _ => ?_)
      refine h356 G0 _ _ hN ?_
      rw [hx]
      repeat (first | refine e3_step rfl rfl ?_)
      refine e3_if rfl rfl (fun _ => ?_) (fun q => absurd rfl q)
      repeat (first | refine e3_step rfl rfl ?_)
      refine e3_if rfl rfl (fun q => absurd rfl q) (fun _ => ?_)
      repeat (first | refine e3_step rfl rfl ?_)
      exact e3_zret rfl rfl rfl HQ.lk
    unfold okSet at hok
    repeat (first | refine e3_step rfl rfl ?_)
    by_cases h8 : n = 8
    · rw [if_pos h8, if_pos h8] at hok
      refine e3_if rfl rfl (fun q => absurd (by rw [h8]) q) (fun _ => ?_)
      repeat (first | refine e3_step rfl rfl ?_)
      refine e3_if rfl rfl (fun _ => ?_) (fun q => absurd (nI_le (a := 3) (b := v) (by omega) (by omega)) q)
      repeat (first | refine e3_stepS 332 rfl rfl rfl ?_)
      exact h332
    · rw [if_neg h8, if_neg h8] at hok
      refine e3_if rfl rfl (fun _ => ?_) (fun q => absurd (fun w => h8 ((nI_eq (by omega) (by decide)).1 w)) q)
      repeat (first | refine e3_step rfl rfl ?_)
      by_cases hv0 : v = 0
      · subst hv0
        refine e3_if rfl rfl (fun _ => ?_) (fun q => absurd (Int32.le_refl _) q)
        repeat (first | refine e3_stepS 332 rfl rfl rfl ?_)
        exact h332
      · refine e3_if rfl rfl (fun q => absurd (show nI v ≤ nI 0 from q) (nI_ge (by omega) (by omega))) (fun _ => ?_)
        repeat (first | refine e3_step rfl rfl ?_)
        have hlt : n < 8 := by
          rcases Nat.lt_or_ge n 8 with q | q
          · exact q
          · exfalso
            refine hok ⟨by omega, ?_⟩
            by_cases h9 : n = 9
            · rw [if_pos h9]; omega
            · rw [if_neg h9, if_pos (by omega)]; omega
        refine e3_if rfl rfl (fun q => absurd ((nI_ltI (by decide) (by omega)).1 q) (by omega)) (fun _ => ?_)
        repeat (first | refine e3_step rfl rfl ?_)
        rw [if_neg (by omega), if_neg (by omega)] at hok
        refine e3_if rfl rfl (fun _ => ?_) (fun q => absurd (nI_le (a := 21) (b := v) (by omega) (by omega)) q)
        repeat (first | refine e3_stepS 332 rfl rfl rfl ?_)
        exact h332
end MD2
