/-! The law's bag and stretches. -/
section MC2
variable {ε : EE} {J J' : JT} {pc : Nat} {ls : List (Option V0)} {st : List V0} {G G' G0 G1 : GG} {V V' : VV} {N Y : Nat} {f : Nat → Int32} {Q : Option Int32 → GG → Prop}
theorem e3_for (N : Nat) (L : Nat → List (Option V0)) (hs : ∀ i, i < N → E3 ε J pc (L (i + 1)) [] G0 Q → E3 ε J pc (L i) [] G0 Q) (he : ∀ M, M = N → E3 ε J pc (L M) [] G0 Q) : E3 ε J pc (L 0) [] G0 Q := by
  have h : ∀ k i, i + k = N → E3 ε J pc (L i) [] G0 Q := by
    intro k
    induction k with
    | zero => intro i hi; exact he i (by omega)
    | succ k ih => intro i hi; exact hs i (by omega) (ih (i + 1) (by omega))
  exact h N 0 (by omega)
theorem e3_dropK {ls' : List (Option V0)} (k : E3 ε J pc ls' st G0 Q) (h : e_sub ls' ls) : E3 ε J pc ls st G0 Q := fun G hG => e2_dropK (k G hG) h
/-- a letter of the bag -/
theorem bag_l (h : B0 V N Y) {a : Nat} (ha : a ∈ bagVR V N) : a < N ∧ V 7 a = nI 0 ∧ ∃ c m, c ≤ 1 ∧ m ≤ 2 ∧ V 5 a = nI c ∧ V 6 a = nI m := by
  obtain ⟨h1, h2⟩ := bag_in ha
  obtain ⟨-, e2, ⟨p', m', p1, m1, hpq, hm, pm, -⟩, -⟩ := h.2.2.2 a h1
  have hp0 : p' = 0 := (nIp p1 (by omega)).1 (hpq.symm.trans h2)
  refine ⟨h1, h2, ?_⟩
  rcases e2 with z | z
  · exact ⟨0, m', by omega, by omega, z, hm⟩
  · exact ⟨1, m', by omega, by omega, z, hm⟩
theorem ahead_n {a b c m c' m' : Nat} (h : ahead V b a) (hc : c ≤ 1) (hm : m ≤ 2) (hc' : c' ≤ 1) (hm' : m' ≤ 2) (ha5 : V 5 a = nI c) (ha6 : V 6 a = nI m) (hb5 : V 5 b = nI c') (hb6 : V 6 b = nI m') : 10 * c' + m' < 10 * c + m ∨ (10 * c + m = 10 * c' + m' ∧ a < b) := by
  rcases h with ⟨h1, h2⟩ | ⟨h1, x, y, hx, hy, h2, h3, h4⟩
  · have e1 : c = 1 := (nI_eq (by omega) (by omega)).1 (ha5.symm.trans h1)
    have e2 : c' = 0 := (nI_eq (by omega) (by omega)).1 (hb5.symm.trans h2)
    omega
  · have e1 : c = c' := (nI_eq (by omega) (by omega)).1 (ha5.symm.trans (h1.trans hb5))
    have e2 : m = x := (nI_eq (by omega) (by omega)).1 (ha6.symm.trans h2)
    have e3 : m' = y := (nI_eq (by omega) (by omega)).1 (hb6.symm.trans h3)
    omega
set_option maxHeartbeats 1000000 in
theorem L_bag (hN : IV (O G0 0) N Y) : Ls ε jL_bag [.inr (0, 30), .inl (nI (P7 (O G0 0) 0 N))] G0 (nI 1) := by
  have hlen := bag_len hN.1
  have hN120 := hN.1.nle
  have hle : P7 (O G0 0) 0 N ≤ N := P7_le
  refine Ls.of (ls := [some (.inr (0, 30)), some (.inl (nI (P7 (O G0 0) 0 N))), none, none, none, none, none, none]) okL_bag rfl rfl ?_
  generalize hn : P7 (O G0 0) 0 N = n at hlen hle ⊢
  have c1 : Lk ε jX8_inBag [.inl (nI n)] G0 (-9) := by
    have := L_inBag (ε := ε) hN (j := n) (by omega)
    rw [if_pos (by omega)] at this
    exact this
  have c2 : ∀ j, j < n → Lk ε jX8_inBag [.inl (nI j)] G0 (nI (revD (bagVR (O G0 0) N) j)) := fun j hj => by
    have := L_inBag (ε := ε) hN (j := j) (by omega)
    rw [if_neg (by omega)] at this
    exact this
  repeat (first | refine e3_step rfl rfl ?_)
  refine e3_look (c1) rfl rfl ⟨rfl, rfl, rfl⟩ rfl rfl rfl rfl ?_
  repeat (first | refine e3_step rfl rfl ?_)
  refine e3_if rfl rfl (fun q => absurd rfl q) (fun _ => ?_)
  repeat (first | refine e3_stepS 18 rfl rfl rfl ?_)
  refine e3_for (n - 1) (fun i => [some (.inr (0, 30)), some (.inl (nI n)), some (.inl (nI 1)), some (.inl (nI (i + 1))), none, none, none, none]) (fun i hi K => ?_) (fun M hM => ?_)
  · obtain ⟨a1, a2, ca, ma, a3, a4, a5, a6⟩ := bag_l hN.1 (revD_mem (bagVR (O G0 0) N) i (by omega))
    obtain ⟨b1, b2, cb, mb, b3, b4, b5, b6⟩ := bag_l hN.1 (revD_mem (bagVR (O G0 0) N) (i + 1) (by omega))
    have hah := ahead_n (pw_revD (R := []) _ (bag_pw (V := O G0 0) (N := N)) i (i + 1) (by omega) (by omega)) a3 a4 b3 b4 a5 a6 b5 b6
    have ci := c2 i (by omega)
    have cj := c2 (i + 1) (by omega)
    generalize revD (bagVR (O G0 0) N) i = a at a1 a2 a5 a6 ci hah
    generalize revD (bagVR (O G0 0) N) (i + 1) = b at b1 b2 b5 b6 cj hah
    have la1 : Lk ε jX8_letter [.inl (nI a), .inl (nI 1)] G0 (nI ca) := by rw [← a5]; exact L_letter hN a1 (k := 1) (by decide)
    have la5 : Lk ε jX8_letter [.inl (nI a), .inl (nI 5)] G0 (nI ma) := by rw [← a6]; exact L_letter hN a1 (k := 5) (by decide)
    have lb1 : Lk ε jX8_letter [.inl (nI b), .inl (nI 1)] G0 (nI cb) := by rw [← b5]; exact L_letter hN b1 (k := 1) (by decide)
    have lb5 : Lk ε jX8_letter [.inl (nI b), .inl (nI 5)] G0 (nI mb) := by rw [← b6]; exact L_letter hN b1 (k := 5) (by decide)
    have lb2 : Lk ε jX8_letter [.inl (nI b), .inl (nI 2)] G0 (nI 0) := by rw [← b2]; exact L_letter hN b1 (k := 2) (by decide)
    repeat (first | refine e3_step rfl rfl ?_)
    refine e3_if rfl rfl (fun q => absurd q (nI_ge (by omega) (by omega))) (fun _ => ?_)
    repeat (first | refine e3_step rfl rfl ?_)
    rw [pk_sub (by omega), Nat.add_sub_cancel]
    refine e3_look (ci) rfl rfl ⟨rfl, rfl, rfl⟩ rfl rfl rfl rfl ?_
    repeat (first | refine e3_step rfl rfl ?_)
    refine e3_look (cj) rfl rfl ⟨rfl, rfl, rfl⟩ rfl rfl rfl rfl ?_
    repeat (first | refine e3_step rfl rfl ?_)
    refine e3_look (la1) rfl rfl ⟨rfl, rfl, rfl⟩ rfl rfl rfl rfl ?_
    repeat (first | refine e3_step rfl rfl ?_)
    refine e3_look (la5) rfl rfl ⟨rfl, rfl, rfl⟩ rfl rfl rfl rfl ?_
    repeat (first | refine e3_step rfl rfl ?_)
    refine e3_look (lb1) rfl rfl ⟨rfl, rfl, rfl⟩ rfl rfl rfl rfl ?_
    repeat (first | refine e3_step rfl rfl ?_)
    refine e3_look (lb5) rfl rfl ⟨rfl, rfl, rfl⟩ rfl rfl rfl rfl ?_
    repeat (first | refine e3_step rfl rfl ?_)
    refine e3_if rfl rfl (fun q => absurd q (by decide)) (fun _ => ?_)
    repeat (first | refine e3_step rfl rfl ?_)
    refine e3_look (lb2) rfl rfl ⟨rfl, rfl, rfl⟩ rfl rfl rfl rfl ?_
    refine e3_if rfl rfl (fun q => absurd rfl q) (fun _ => ?_)
    repeat (first | refine e3_step rfl rfl ?_)
    rw [pk_mul, pk_mul, nI_add', nI_add']
    have h114 : E3 ε jL_bag 114 [some (.inr (0, 30)), some (.inl (nI n)), some (.inl (nI 1)), some (.inl (nI (i + 1))), some (.inl (nI a)), some (.inl (nI b)), some (.inl (nI (10 * ca + ma))), some (.inl (nI (10 * cb + mb)))] [] G0 (fun v G' => v = some (nI 1) ∧ lk1 G0 G') := by
      repeat (first | refine e3_stepS 18 rfl rfl rfl ?_)
      rw [nI_add']
      exact e3_dropK K ⟨rfl, rfl, rfl, rfl, trivial⟩
    refine e3_if rfl rfl (fun _ => h114) (fun q => ?_)
    have hq : ¬ 10 * cb + mb < 10 * ca + ma := fun w => q ((nI_ltI (by omega) (by omega)).2 w)
    obtain ⟨e1, e2⟩ := hah.resolve_left hq
    repeat (first | refine e3_step rfl rfl ?_)
    refine e3_if rfl rfl (fun q => absurd (by rw [e1]) q) (fun _ => ?_)
    repeat (first | refine e3_step rfl rfl ?_)
    refine e3_if rfl rfl (fun q => absurd q (nI_ge e2 (by omega))) (fun _ => ?_)
    exact h114
  · repeat (first | refine e3_step rfl rfl ?_)
    refine e3_if rfl rfl (fun _ => ?_) (fun q => absurd (nI_le (a := n) (b := M + 1) (by omega) (by omega)) q)
    repeat (first | refine e3_step rfl rfl ?_)
    exact e3_zret rfl rfl rfl (fun G' hG' => ⟨rfl, hG'⟩)
-- stretches
theorem fst_self {c : Nat} (h : c = 0 ∨ ¬ f (c - 1) = f c) : fstC f (f c) c = c := by
  cases c with
  | zero => rfl
  | succ n =>
    have h : ¬ f n = f (n + 1) := h.resolve_left (by omega)
    show (if f n = f (n + 1) then _ else n + 1) = _
    rw [if_neg h]
theorem lst_of : ∀ k c (w : Int32), f c = w → c ≤ lstC f w k c ∧ lstC f w k c ≤ c + k ∧ (∀ j, c ≤ j → j ≤ lstC f w k c → f j = w) ∧ (lstC f w k c = c + k ∨ ¬ f (lstC f w k c + 1) = w)
  | 0, c, w, h => ⟨Nat.le_refl _, Nat.le_refl _, fun j j1 j2 => by
    have : j = c := by
      have j2 : j ≤ c := j2
      omega
    rw [this]; exact h, Or.inl rfl⟩
  | k + 1, c, w, h => by
    have e : lstC f w (k + 1) c = if f (c + 1) = w then lstC f w k (c + 1) else c := rfl
    rw [e]
    by_cases h1 : f (c + 1) = w
    · rw [if_pos h1]
      obtain ⟨a1, a2, a3, a4⟩ := lst_of k (c + 1) w h1
      refine ⟨by omega, by omega, fun j j1 j2 => ?_, ?_⟩
      · by_cases hj : j = c
        · rw [hj]; exact h
        · exact a3 j (by omega) j2
      · rcases a4 with z | z
        · exact Or.inl (by omega)
        · exact Or.inr z
    · rw [if_neg h1]
      exact ⟨Nat.le_refl _, by omega, fun j j1 j2 => by rw [show j = c by omega]; exact h, Or.inr h1⟩
/-- how many stretches begin ahead of c -/
def stN (f : Nat → Int32) (c : Nat) : Nat := if c = 0 then 0 else 1 + cntB (fun j => decide (¬ f (j + 1) = f j)) (c - 1)
theorem cntB_flat {q : Nat → Bool} {a : Nat} : ∀ k, (∀ j, a ≤ j → j < a + k → q j = false) → cntB q (a + k) = cntB q a
  | 0, _ => rfl
  | k + 1, h => by
    show cntB q (a + k) + (if q (a + k) then 1 else 0) = _
    rw [h (a + k) (by omega) (by omega), cntB_flat k (fun j j1 j2 => h j j1 (by omega))]
    rfl
theorem stN_next {c e : Nat} (h : c = 0 ∨ ¬ f (c - 1) = f c) (hce : c ≤ e) (hf : ∀ j, c ≤ j → j ≤ e → f j = f c) : stN f (e + 1) = stN f c + 1 := by
  have e1 : stN f (e + 1) = 1 + cntB (fun j => decide (¬ f (j + 1) = f j)) e := by
    unfold stN
    rw [if_neg (by omega), Nat.add_sub_cancel]
  have e2 : cntB (fun j => decide (¬ f (j + 1) = f j)) e = cntB (fun j => decide (¬ f (j + 1) = f j)) c := by
    have := cntB_flat (q := fun j => decide (¬ f (j + 1) = f j)) (a := c) (e - c) (fun j j1 j2 => decide_eq_false (fun q => q (by rw [hf (j + 1) (by omega) (by omega), hf j j1 (by omega)])))
    rw [show c + (e - c) = e by omega] at this
    exact this
  rw [e1, e2]
  unfold stN
  by_cases hc : c = 0
  · subst hc
    rfl
  · rw [if_neg hc]
    have h := h.resolve_left hc
    obtain ⟨d, rfl⟩ : ∃ d, c = d + 1 := ⟨c - 1, by omega⟩
    rw [Nat.add_sub_cancel] at h ⊢
    show 1 + (cntB _ d + (if decide (¬ f (d + 1) = f d) then 1 else 0)) = _
    rw [decide_eq_true (p := ¬ f (d + 1) = f d) (fun q => h q.symm), if_pos rfl]
    omega
theorem L_str0 {c : Nat} (hc : c < 100) : Lk ε jX8_stretch [.inl (nI c), .inl (nI 0)] G0 (O G0 0 2 c) := L_stretch hc (k := 0) (by decide)
theorem l_str (hN : IV (O G0 0) N Y) : ∀ k c, c + k = 100 → (c = 100 ∨ c = 0 ∨ ¬ O G0 0 2 (c - 1) = O G0 0 2 c) → E3 ε jL_stretches 4 [some (.inr (0, 30)), some (.inl (nI (stN (O G0 0 2) c))), some (.inl (nI c))] [] G0 (fun v G' => v = some (nI 1) ∧ lk1 G0 G') := by
  intro k
  induction k using Nat.strongRecOn with
  | _ k ih =>
  intro c hck hc
  by_cases h100 : c = 100
  · subst h100
    have c8 : Lk ε jX8_count [.inl (nI 8)] G0 (nI (stN (O G0 0 2) 100)) := L_count hN (k := 8) (by decide)
    repeat (first | refine e3_step rfl rfl ?_)
    refine e3_if rfl rfl (fun _ => ?_) (fun q => absurd (Int32.le_refl _) q)
    repeat (first | refine e3_step rfl rfl ?_)
    refine e3_look (c8) rfl rfl ⟨rfl, rfl, rfl⟩ rfl rfl rfl rfl ?_
    refine e3_if rfl rfl (fun q => absurd rfl q) (fun _ => ?_)
    repeat (first | refine e3_step rfl rfl ?_)
    exact e3_zret rfl rfl rfl (fun G' hG' => ⟨rfl, hG'⟩)
  · have hs := hc.resolve_left h100
    have hlt : c < 100 := by omega
    obtain ⟨e1, e2, e3, e4⟩ := lst_of (f := O G0 0 2) (99 - c) c _ rfl
    have hn := stN_next hs e1 e3
    have c1 : Lk ε jX8_stretch [.inl (nI c), .inl (nI 1)] G0 (nI c) := by
      have := L_stretch (ε := ε) (G0 := G0) hlt (k := 1) (by decide)
      have e : aStretch (O G0 0 2) c 1 = nI c := by
        show nI (fstC (O G0 0 2) (O G0 0 2 c) c) = _
        rw [fst_self hs]
      rw [e] at this
      exact this
    have c2 : Lk ε jX8_stretch [.inl (nI c), .inl (nI 2)] G0 (nI (lstC (O G0 0 2) (O G0 0 2 c) (99 - c) c)) := L_stretch hlt (k := 2) (by decide)
    generalize he : lstC (O G0 0 2) (O G0 0 2 c) (99 - c) c = e at e1 e2 e3 e4 hn c2
    have h43 : E3 ε jL_stretches 43 [some (.inr (0, 30)), some (.inl (nI (stN (O G0 0 2) c))), some (.inl (nI c))] [] G0 (fun v G' => v = some (nI 1) ∧ lk1 G0 G') := by
      repeat (first | refine e3_step rfl rfl ?_)
      refine e3_look (c2) rfl rfl ⟨rfl, rfl, rfl⟩ rfl rfl rfl rfl ?_
      repeat (first | refine e3_stepS 4 rfl rfl rfl ?_)
      rw [nI_add', nI_add', ← hn]
      refine ih (99 - e) (by omega) (e + 1) (by omega) ?_
      rcases e4 with z | z
      · exact Or.inl (by omega)
      · refine Or.inr (Or.inr (fun q => z ?_))
        rw [Nat.add_sub_cancel] at q
        rw [← q]
        exact e3 e e1 (Nat.le_refl _)
    repeat (first | refine e3_step rfl rfl ?_)
    refine e3_if rfl rfl (fun q => absurd q (nI_ge hlt (by decide))) (fun _ => ?_)
    repeat (first | refine e3_step rfl rfl ?_)
    refine e3_look (c1) rfl rfl ⟨rfl, rfl, rfl⟩ rfl rfl rfl rfl ?_
    repeat (first | refine e3_step rfl rfl ?_)
    refine e3_if rfl rfl (fun q => absurd rfl q) (fun _ => ?_)
    repeat (first | refine e3_step rfl rfl ?_)
    by_cases h0 : c = 0
    · subst h0
      exact e3_if rfl rfl (fun _ => h43) (fun q => absurd (Int32.le_refl _) q)
    · refine e3_if rfl rfl (fun q => absurd (show nI c ≤ nI 0 from q) (nI_ge (by omega) (by omega))) (fun _ => ?_)
      repeat (first | refine e3_step rfl rfl ?_)
      rw [pk_sub (by omega)]
      refine e3_look (L_str0 (c := c - 1) (by omega)) rfl rfl ⟨rfl, rfl, rfl⟩ rfl rfl rfl rfl ?_
      repeat (first | refine e3_step rfl rfl ?_)
      refine e3_look (L_str0 hlt) rfl rfl ⟨rfl, rfl, rfl⟩ rfl rfl rfl rfl ?_
      refine e3_if rfl rfl (fun _ => h43) (fun q => absurd (hs.resolve_left h0) q)
theorem L_stretches (hN : IV (O G0 0) N Y) : Ls ε jL_stretches [.inr (0, 30)] G0 (nI 1) := by
  refine Ls.of (ls := [some (.inr (0, 30)), none, none]) okL_stretches rfl rfl ?_
  repeat (first | refine e3_stepS 4 rfl rfl rfl ?_)
  exact l_str hN 100 0 rfl (Or.inr (Or.inl rfl))
end MC2
