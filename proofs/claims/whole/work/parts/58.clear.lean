/-! Calls: clearIn. An hour that lays no letter into a frame repeats itself. -/
section OP
variable {ε : EE} {J J1 J2 : JT} {pc : Nat} {ls : List (Option V0)} {st : List V0} {As : List V0} {G G' G1 : GG} {i N l : Nat} {V V' : VV} {s : Int32} {r r' r0 r1 r2 t t' f u w x x' x2 o : Nat → Int32} {K K' : Nat} {Q : Option Int32 → GG → Prop}
def clrB (r : Nat → Int32) (N : Nat) : Bool := decide (cntB (fun l => decide (ofr r l 3 = nI 0)) N = 0) && decide (cntB (fun l => decide (ofr r l 3 = nI 2)) N = 0)
def clA (N : Nat) : Nat → Nat → (Nat → Int32) → Int32
  | 0, _, _ => -9
  | k + 1, m, r => if clrB r N then nI m else clA N k (m + 1) (hoursr r N)
/-- in the bag or in the overflow -/
def bov (r : Nat → Int32) (l : Nat) : Prop := ofr r l 3 = nI 0 ∨ ofr r l 3 = nI 2
/-- rows with the same frames, and the same letters in bag and overflow together -/
def SmR (r0 r : Nat → Int32) (N : Nat) : Prop := (∀ j, j < 101 ∨ 941 ≤ j → j ≠ 952 → r j = r0 j) ∧ (∀ l, l < N → ofr r l 0 = ofr r0 l 0 ∧ ofr r l 1 = ofr r0 l 1 ∧ ofr r l 2 = ofr r0 l 2) ∧ (∀ l w, l < N → atr r (nI 1) w l = atr r0 (nI 1) w l) ∧ ∀ l, l < N → (bov r l ↔ bov r0 l)
theorem SmR.rf : SmR r r N := ⟨fun _ _ _ => rfl, fun _ _ => ⟨rfl, rfl, rfl⟩, fun _ _ _ => rfl, fun _ _ => Iff.rfl⟩
theorem SmR.free (h : SmR r0 r N) {w : Nat} (hw : w < 8) : freer r N w = freer r0 N w := by
  unfold freer
  rw [h.1 (941 + w) (by omega) (by omega), cntB_congr N (fun j hj => h.2.2.1 j (nI w) hj)]
theorem SmR.sec (h : SmR r0 r N) (w : Nat) : lastB (secB r w) N = lastB (secB r0 w) N := lastB_congr N (fun j hj => by
  unfold secB
  rw [h.2.2.1 j (nI w) hj, (h.2.1 j hj).2.1])
theorem SmR.best (h : SmR r0 r N) : (bestF (freer r N) 8).1 = (bestF (freer r0 N) 8).1 := by
  rw [bestF_congr 8 (fun j hj => h.free hj)]
theorem SmR.wk (h : SmR r0 r N) (hok : okr r0 N) (hl : l < N) : wkr r l = wkr r0 l := by
  obtain ⟨c, w, c1, w1, c2, c3⟩ := hok l hl
  unfold wkr
  rw [(h.2.1 l hl).1, c2, nI_clamp (by omega), h.1 c (by omega) (by omega)]
theorem atr_mv {q k w : Int32} (h : ¬ ofr r l 3 = nI 1) (hq : ¬ q = nI 1) (j : Nat) : atr (putsr r l q k) (nI 1) w j = atr r (nI 1) w j := by
  unfold atr
  rw [putsr_3, putsr_4]
  by_cases hj : j = l
  · subst hj
    rw [if_pos rfl, decide_eq_false hq, decide_eq_false h, Bool.false_and, Bool.false_and]
  · rw [if_neg hj, if_neg hj]
/-- a letter moved between bag and overflow -/
theorem SmR.put {q : Int32} (h : SmR r0 r N) (hl : l < N) (hN2 : N ≤ 120) (hb : bov r l) (hq : q = nI 0 ∨ q = nI 2) : SmR r0 (putsr r l q (nI 0)) N := by
  have h1 : ¬ ofr r l 3 = nI 1 := by
    rcases hb with z | z
    · rw [z]; decide
    · rw [z]; decide
  have hq1 : ¬ q = nI 1 := by
    rcases hq with z | z
    · rw [z]; decide
    · rw [z]; decide
  refine ⟨fun j hj h2 => ?_, fun m hm => ?_, fun m w hm => ?_, fun m hm => ?_⟩
  · rw [(same34.puts (r := r) (l := l) (by omega) q (nI 0)).1 j hj]
    exact h.1 j hj h2
  · rw [putsr_of (by omega), putsr_of (by omega), putsr_of (by omega)]
    exact h.2.1 m hm
  · rw [atr_mv h1 hq1]
    exact h.2.2.1 m w hm
  · rw [← h.2.2.2 m hm]
    unfold bov
    rw [putsr_3]
    by_cases hml : m = l
    · subst hml
      rw [if_pos rfl]
      exact ⟨fun _ => hb, fun _ => hq⟩
    · rw [if_neg hml]
theorem SmR.ov (h : SmR r0 r N) (hN2 : N ≤ 120) : ∀ n, n ≤ N → SmR r0 (ovr r n) N
  | 0, _ => h
  | n + 1, hn => by
    have ih := h.ov hN2 n (by omega)
    unfold ovr
    split
    · rename_i z
      exact ih.put (by omega) hN2 (Or.inr z) (Or.inl rfl)
    · exact ih
theorem ovr_no2 : ∀ n l, l < n → ¬ ofr (ovr r n) l 3 = nI 2
  | 0, l, h => by omega
  | n + 1, l, h => by
    unfold ovr
    split
    · rename_i z
      rw [putsr_3]
      by_cases hln : l = n
      · rw [if_pos hln]; decide
      · rw [if_neg hln]
        exact ovr_no2 n l (by omega)
    · rename_i z
      by_cases hln : l = n
      · rw [hln]; exact z
      · exact ovr_no2 n l (by omega)
/-- where sorting begins -/
def btr (r : Nat → Int32) (N : Nat) : Nat → Int32 := ovr (upd r 952 (r 952 + nI 1)) N
theorem SmR.beg (h : SmR r0 r N) (hN2 : N ≤ 120) : SmR r0 (btr r N) N := by
  have h1 : SmR r0 (upd r 952 (r 952 + nI 1)) N := by
    have hu : ∀ j, j ≠ 952 → upd r 952 (r 952 + nI 1) j = r j := fun j hj => by unfold upd; rw [if_neg hj]
    have ho : ∀ l k, l < N → k < 7 → ofr (upd r 952 (r 952 + nI 1)) l k = ofr r l k := fun l k hl hk => hu _ (by omega)
    refine ⟨fun j hj h2 => by rw [hu j h2]; exact h.1 j hj h2, fun l hl => by rw [ho l 0 hl (by omega), ho l 1 hl (by omega), ho l 2 hl (by omega)]; exact h.2.1 l hl, fun l w hl => ?_, fun l hl => ?_⟩
    · unfold atr
      rw [ho l 3 hl (by omega), ho l 4 hl (by omega)]
      exact h.2.2.1 l w hl
    · unfold bov
      rw [ho l 3 hl (by omega)]
      exact h.2.2.2 l hl
  exact h1.ov hN2 N (Nat.le_refl _)
theorem SmR.bag (h : SmR r0 r1 N) (g : SmR r0 r2 N) (h2 : ∀ l, l < N → ¬ ofr r1 l 3 = nI 2) (g2 : ∀ l, l < N → ¬ ofr r2 l 3 = nI 2) : bagR r1 N = bagR r2 N := by
  unfold bagR
  refine layR_congr N (fun j hj => ?_) (fun a y ha hy => ?_)
  · unfold bagB
    have e1 := h.2.2.2 j hj
    have e2 := g.2.2.2 j hj
    have n1 := h2 j hj
    have n2 := g2 j hj
    unfold bov at e1 e2
    have : ofr r1 j 3 = nI 0 ↔ ofr r2 j 3 = nI 0 := by
      constructor
      · intro z
        exact (e2.2 (e1.1 (Or.inl z))).resolve_right n2
      · intro z
        exact (e1.2 (e2.1 (Or.inl z))).resolve_right n1
    by_cases z : ofr r1 j 3 = nI 0
    · rw [decide_eq_true (show ofr r1 j 3 = 0 from z), decide_eq_true (show ofr r2 j 3 = 0 from this.1 z)]
    · rw [decide_eq_false (show ¬ ofr r1 j 3 = 0 from z), decide_eq_false (show ¬ ofr r2 j 3 = 0 from fun q => z (this.2 q))]
  · unfold gtB rankr
    rw [(h.2.1 a ha).2.1, (h.2.1 a ha).2.2, (h.2.1 y hy).2.1, (h.2.1 y hy).2.2, (g.2.1 a ha).2.1, (g.2.1 a ha).2.2, (g.2.1 y hy).2.1, (g.2.1 y hy).2.2]
/-- no frame takes letter l -/
def nofit (r : Nat → Int32) (N l : Nat) : Prop := freer r N (wkr r l) ≤ 0 ∧ (r 949 = nI 1 ∧ ofr r l 1 = nI 1 → lastB (secB r (wkr r l)) N = -9) ∧ (¬ (r 949 = nI 1 ∧ ofr r l 1 = nI 1) → r 949 = nI 2 → (bestF (freer r N) 8).1 = -9)
theorem SmR.sorts (h : SmR r0 r N) (hok : okr r0 N) (hN2 : N ≤ 120) (hl : l < N) (hb : ofr r l 3 = nI 0) : (nofit r0 N l → sortsr r N l = putsr r l (nI 2) (nI 0)) ∧ (¬ ofr (sortsr r N l) l 3 = nI 1 → nofit r0 N l) := by
  have hw : wkr r0 l < 8 := (wkr_of hok hl).choose_spec.2.2.2
  have e := sortsr_eq hN2 (show l < 120 by omega) hb
  rw [h.wk hok hl, h.free hw, h.sec, h.best, h.1 949 (by omega) (by omega), (h.2.1 l hl).2.1] at e
  have p1 : ∀ (r' : Nat → Int32) (y : Int32), ofr (putsr r' l (nI 1) y) l 3 = nI 1 := fun r' y => by rw [putsr_3, if_pos rfl]
  constructor
  · rintro ⟨n1, n2, n3⟩
    rw [e, if_pos n1]
    by_cases hc : r0 949 = nI 1 ∧ ofr r0 l 1 = nI 1
    · rw [if_pos hc, if_pos (n2 hc)]
    · rw [if_neg hc]
      by_cases h2 : r0 949 = nI 2
      · rw [if_pos h2, if_pos (n3 hc h2)]
      · rw [if_neg h2]
  · intro hne
    rw [e] at hne
    by_cases n1 : freer r0 N (wkr r0 l) ≤ 0
    · rw [if_pos n1] at hne
      refine ⟨n1, fun hc => ?_, fun hc h2 => ?_⟩
      · rw [if_pos hc] at hne
        by_cases z : lastB (secB r0 (wkr r0 l)) N = -9
        · exact z
        · rw [if_neg z] at hne
          exact absurd (p1 _ _) hne
      · rw [if_neg hc, if_pos h2] at hne
        by_cases z : (bestF (freer r0 N) 8).1 = -9
        · exact z
        · rw [if_neg z] at hne
          exact absurd (p1 _ _) hne
    · rw [if_neg n1] at hne
      exact absurd (p1 _ _) hne
/-- sorting letters that no frame takes -/
theorem SmR.run {R : List Nat} (h : SmR r0 r N) (hok : okr r0 N) (hN2 : N ≤ 120) (hR : ∀ a, a ∈ R → a < N) (hnd : R.Nodup) (hb : ∀ a, a ∈ R → ofr r a 3 = nI 0) {k : Nat} (hk : k ≤ R.length) (hf : ∀ i, i < k → nofit r0 N (revD R i)) : ∀ i, i ≤ k → SmR r0 (srts r N R i) N ∧ ∀ j, i ≤ j → j < R.length → ofr (srts r N R i) (revD R j) 3 = nI 0
  | 0, _ => ⟨h, fun j _ hj => hb _ (revD_mem R j hj)⟩
  | i + 1, hi => by
    obtain ⟨a1, a2⟩ := h.run hok hN2 hR hnd hb hk hf i (by omega)
    have hl := hR _ (revD_mem R i (by omega))
    have h0 := a2 i (Nat.le_refl _) (by omega)
    have e := (a1.sorts hok hN2 hl h0).1 (hf i (by omega))
    show SmR r0 (sortsr (srts r N R i) N (revD R i)) N ∧ ∀ j, i + 1 ≤ j → j < R.length → ofr (sortsr (srts r N R i) N (revD R i)) (revD R j) 3 = nI 0
    rw [e]
    refine ⟨a1.put hl hN2 (Or.inl h0) (Or.inr rfl), fun j hj hj2 => ?_⟩
    rw [putsr_3, if_neg (fun z => by have := revD_inj R hnd j i hj2 (by omega) z; omega)]
    exact a2 j (by omega) hj2
theorem bagR_0 : ∀ a, a ∈ bagR r N → ofr r a 3 = nI 0 := fun a ha => of_decide_eq_true ((layR_mem _ _ N a).1 ha).2
theorem hoursr_b : hoursr r N = srts (btr r N) N (bagR (btr r N) N) (min (bagR (btr r N) N).length (r 950).toNatClampNeg) := rfl
theorem SmR.hours (h : SmR r0 r N) (hok : okr r0 N) (hN2 : N ≤ 120) (hf : ∀ i, i < min (bagR (btr r0 N) N).length (r0 950).toNatClampNeg → nofit r0 N (revD (bagR (btr r0 N) N) i)) : SmR r0 (hoursr r N) N := by
  have hb := h.beg hN2
  have e : bagR (btr r N) N = bagR (btr r0 N) N := SmR.bag (r0 := r0) hb (SmR.rf.beg hN2) (fun l hl => ovr_no2 N l hl) (fun l hl => ovr_no2 N l hl)
  rw [hoursr_b, e, h.1 950 (by omega) (by omega)]
  exact (hb.run hok hN2 (fun a ha => by rw [← e] at ha; exact bagR_lt a ha) (by rw [← e]; exact layR_nd _ _ N) (fun a ha => by rw [← e] at ha; exact bagR_0 a ha) (Nat.min_le_left _ _) hf _ (Nat.le_refl _)).1
theorem srtsn_0 {R : List Nat} : ∀ k, srtsn V N R k = 0 → ∀ i, i < k → srtB (srtsV V N R i) N (revD R i) = false
  | 0, _, i, hi => by omega
  | k + 1, h, i, hi => by
    have h1 : srtsn V N R k + (if srtB (srtsV V N R k) N (revD R k) then 1 else 0) = 0 := h
    by_cases hik : i = k
    · subst hik
      by_cases z : srtB (srtsV V N R i) N (revD R i) = true
      · rw [if_pos z] at h1
        omega
      · exact eq_false_of_ne_true z
    · exact srtsn_0 k (by omega) i (by omega)
/-- an hour that lays nothing into a frame: no frame takes what was sorted -/
theorem RO.stuck (h : RO V r N) (h0 : hrsn V N = 0) : ∀ i, i < min (bagR (btr r N) N).length (r 950).toNatClampNeg → nofit r N (revD (bagR (btr r N) N) i) := by
  have hN2 := h.1.1
  have hok := h.okr
  have hA := h.hr1.ov N (Nat.le_refl _)
  have hbg : bagH V N = bagR (btr r N) N := bag_same hA.2.1
  have h6 : V 0 6 = r 950 := h.1.2.2.2.2.2.1.2.2.1
  have h1 : srtsn (ovV (hr1V V) N) N (bagR (btr r N) N) (min (bagR (btr r N) N).length (r 950).toNatClampNeg) = 0 := by
    have h2 := h0
    unfold hrsn at h2
    rw [hbg, h6] at h2
    exact h2
  have h3 := srtsn_0 _ h1
  have hS := hA.srts (R := bagR (btr r N) N) bagR_lt (layR_nd _ _ N) bagR_0
  have hb0 : SmR r (btr r N) N := SmR.rf.beg hN2
  have hall : ∀ n, n ≤ min (bagR (btr r N) N).length (r 950).toNatClampNeg → ∀ i, i < n → nofit r N (revD (bagR (btr r N) N) i) := by
    intro n
    induction n with
    | zero => intro _ i hi; omega
    | succ n ih =>
      intro hn i hi
      have hprev := ih (by omega)
      by_cases hin : i = n
      · subst hin
        have hlen : i < (bagR (btr r N) N).length := by have := Nat.min_le_left (bagR (btr r N) N).length (r 950).toNatClampNeg; omega
        obtain ⟨a1, a2⟩ := hb0.run hok hN2 (R := bagR (btr r N) N) bagR_lt (layR_nd _ _ N) bagR_0 (k := i) (by omega) hprev i (Nat.le_refl _)
        have hl := bagR_lt _ (revD_mem (bagR (btr r N) N) i hlen)
        have hz := a2 i (Nat.le_refl _) hlen
        refine (a1.sorts hok hN2 hl hz).2 ?_
        have hs := ((hS i (by omega)).1.sort hl ((hS i (by omega)).2 i (Nat.le_refl _) hlen)).2
        have hf := h3 i (by omega)
        rw [hs] at hf
        exact of_decide_eq_false hf
      · exact hprev i (by omega)
  exact hall _ (Nat.le_refl _)
theorem cntB_0 {p : Nat → Bool} : ∀ n, cntB p n = 0 ↔ ∀ l, l < n → p l = false
  | 0 => ⟨fun _ l h => by omega, fun _ => rfl⟩
  | n + 1 => by
    have ih := cntB_0 (p := p) n
    unfold cntB
    by_cases h : p n = true
    · rw [if_pos h]
      exact ⟨fun z => by omega, fun z => by rw [z n (by omega)] at h; cases h⟩
    · rw [if_neg h, Nat.add_zero, ih]
      refine ⟨fun z l hl => ?_, fun z l hl => z l (by omega)⟩
      by_cases hln : l = n
      · rw [hln]; exact eq_false_of_ne_true h
      · exact z l (by omega)
theorem clrB_iff : clrB r N = true ↔ ∀ l, l < N → ¬ bov r l := by
  unfold clrB bov
  rw [Bool.and_eq_true, decide_eq_true_eq, decide_eq_true_eq, cntB_0, cntB_0]
  constructor
  · rintro ⟨h1, h2⟩ l hl z
    rcases z with z | z
    · exact absurd z (of_decide_eq_false (h1 l hl))
    · exact absurd z (of_decide_eq_false (h2 l hl))
  · intro h
    exact ⟨fun l hl => decide_eq_false (fun z => h l hl (Or.inl z)), fun l hl => decide_eq_false (fun z => h l hl (Or.inr z))⟩
theorem SmR.clr (h : SmR r0 r N) : clrB r N = clrB r0 N := by
  have : clrB r N = true ↔ clrB r0 N = true := by
    rw [clrB_iff, clrB_iff]
    exact ⟨fun z l hl q => z l hl ((h.2.2.2 l hl).2 q), fun z l hl q => z l hl ((h.2.2.2 l hl).1 q)⟩
  by_cases z : clrB r N = true
  · rw [z, this.1 z]
  · rw [eq_false_of_ne_true z, eq_false_of_ne_true (fun q => z (this.2 q))]
theorem clA_never (hok : okr r0 N) (hN2 : N ≤ 120) (hc : clrB r0 N = false) (hf : ∀ i, i < min (bagR (btr r0 N) N).length (r0 950).toNatClampNeg → nofit r0 N (revD (bagR (btr r0 N) N) i)) : ∀ k m r, SmR r0 r N → clA N k m r = -9
  | 0, _, _, _ => rfl
  | k + 1, m, r, h => by
    show (if clrB r N then nI m else clA N k (m + 1) (hoursr r N)) = -9
    rw [h.clr, hc]
    exact clA_never hok hN2 hc hf k (m + 1) _ (h.hours hok hN2 hf)
theorem c_clearL : ∀ k m (V : VV) (s : Int32) (o r : Nat → Int32), m + k = 61 → RO V r N → E2 ε jX8_clearIn 16 [some (.inr (0, 30)), some (.inl (nI m))] [] (cG G 18 V s o) (fun v G1 => v = some (clA N k m r) ∧ lk1 G G1)
  | 0, m, V, s, o, r, hm, hO => by
    have : m = 61 := by omega
    subst this
    repeat (first | refine e2_step rfl rfl ?_ | refine e2_get rfl (by first | exact hi | decide) rfl rfl ?_)
    refine e2_if rfl rfl (fun _ => ?_) (fun z => absurd (show (60 : Int32) < nI 61 by decide) z)
    repeat (first | refine e2_step rfl rfl ?_ | refine e2_get rfl (by first | exact hi | decide) rfl rfl ?_)
    exact e2_iret rfl rfl ⟨rfl, cG_lk18⟩
  | k + 1, m, V, s, o, r, hm, hO => by
    have hi : (18 : Nat) < 19 := by decide
    have hN2 : N ≤ 120 := hO.1.1
    repeat (first | refine e2_step rfl rfl ?_ | refine e2_get rfl (by first | exact hi | decide) rfl rfl ?_)
    refine e2_if rfl rfl (fun z => absurd (show nI 60 < nI m from z) (nI_nlt (by omega) (by omega))) (fun _ => ?_)
    repeat (first | refine e2_step rfl rfl ?_ | refine e2c_get (i := 18) (by decide) rfl rfl rfl rfl ?_ | refine e2_get rfl (by decide) rfl rfl ?_)
    refine e2c_fi (w_isCleared hi hN2 hO.1.2.1) rfl rfl ⟨rfl, rfl, rfl⟩ rfl rfl rfl hi rfl rfl rfl rfl ?_
    rw [hO.cnt7 (nI 0), hO.cnt7 (nI 2)]
    have e : (decide (cntB (fun l => decide (ofr r l 3 = nI 0)) N = 0) && decide (cntB (fun l => decide (ofr r l 3 = nI 2)) N = 0)) = clrB r N := rfl
    rw [e]
    have hs : clA N (k + 1) m r = if clrB r N then nI m else clA N k (m + 1) (hoursr r N) := rfl
    cases hc : clrB r N with
    | true =>
      rw [hs, hc]
      refine e2_if rfl rfl (fun z => absurd z (by decide)) (fun _ => ?_)
      repeat (first | refine e2_step rfl rfl ?_ | refine e2_get rfl (by first | exact hi | decide) rfl rfl ?_)
      exact e2_iret rfl rfl ⟨rfl, cG_lk18⟩
    | false =>
      refine e2_if rfl rfl (fun _ => ?_) (fun z => absurd rfl z)
      repeat (first | refine e2_step rfl rfl ?_ | refine e2c_get (i := 18) (by decide) rfl rfl rfl rfl ?_ | refine e2_get rfl (by decide) rfl rfl ?_)
      refine e2c_fi (hO.passes hi) rfl rfl ⟨rfl, rfl, rfl⟩ rfl rfl rfl hi rfl rfl rfl rfl ?_
      have hle : hrsn V N < 2 ^ 31 := by
        unfold hrsn
        have h1 := srtsn_le (V := ovV (hr1V V) N) (N := N) (R := bagH V N) (min (bagH V N).length (V 0 6).toNatClampNeg)
        obtain ⟨y, y1, y2⟩ := hO.1.2.2.2.2.2.2.1.1
        have h6 : V 0 6 = nI y := by rw [hO.1.2.2.2.2.2.1.2.2.1]; exact y2
        rw [h6, nI_clamp (by omega)] at h1 ⊢
        have := Nat.min_le_right (bagH V N).length y
        omega
      refine e2_if rfl rfl (fun z => ?_) (fun z => ?_)
      · repeat (first | refine e2_stepS 16 rfl rfl rfl ?_)
        rw [nI_add', hs, hc]
        exact c_clearL k (m + 1) _ _ _ (hoursr r N) (by omega) hO.hours
      · have h0 : hrsn V N = 0 := (nI_eq hle (by decide)).1 (Classical.not_not.1 z)
        rw [clA_never hO.okr hN2 hc (hO.stuck h0) (k + 1) m r SmR.rf]
        repeat (first | refine e2_step rfl rfl ?_ | refine e2_get rfl (by first | exact hi | decide) rfl rfl ?_)
        exact e2_iret rfl rfl ⟨rfl, cG_lk18⟩
theorem m_clearL : ∀ k m (V : VV) (o r2 : Nat → Int32), m + k = 61 → RO V r2 N → (∀ j, 1023 ≤ j → r2 j = asd r j) → E2 ε jX9_clearIn 6 [some (.inr (0, 50)), some (.inl (nI m))] [] (mG G r2 t o x) (fun v G2 => v = some (clA N k m r2) ∧ ∃ r3 o3, G2 = mG G r3 t o3 x ∧ ∀ j, j < 18426 → r3 j = r j)
  | 0, m, V, o, r2, hm, hO, hr => by
    have : m = 61 := by omega
    subst this
    repeat (first | refine e2_step rfl rfl ?_ | refine e2m_get rfl rfl ?_ | refine e2m_ld _ rfl rfl (by omega) ?_)
    refine e2_if rfl rfl (fun _ => ?_) (fun z => absurd (show (60 : Int32) < nI 61 by decide) z)
    repeat (first | refine e2_step rfl rfl ?_ | refine e2m_get rfl rfl ?_ | refine e2m_ld _ rfl rfl (by omega) ?_)
    refine e2_fv (m_comesBack) rfl rfl ⟨rfl, rfl, rfl⟩ rfl rfl rfl (by first | exact hi | decide) rfl rfl rfl ?_
    repeat (first | refine e2_step rfl rfl ?_ | refine e2m_get rfl rfl ?_ | refine e2m_ld _ rfl rfl (by omega) ?_)
    refine e2_if rfl rfl (fun _ => ?_) (fun z => absurd (show (60 : Int32) < nI 61 by decide) z)
    repeat (first | refine e2_step rfl rfl ?_ | refine e2m_get rfl rfl ?_ | refine e2m_ld _ rfl rfl (by omega) ?_)
    exact e2_iret rfl rfl ⟨rfl, _, _, rfl, bck_of (r := r) hr⟩
  | k + 1, m, V, o, r2, hm, hO, hr => by
    have hN2 : N ≤ 120 := hO.1.1
    have hN : r2 100 = nI N := hO.1.2.2.1
    obtain ⟨sp, sp1, sp2⟩ := hO.1.2.2.2.2.2.2.1.1
    repeat (first | refine e2_step rfl rfl ?_ | refine e2m_get rfl rfl ?_ | refine e2m_ld _ rfl rfl (by omega) ?_)
    refine e2_if rfl rfl (fun z => absurd (show nI 60 < nI m from z) (nI_nlt (by omega) (by omega))) (fun _ => ?_)
    repeat (first | refine e2_step rfl rfl ?_ | refine e2m_get rfl rfl ?_ | refine e2m_ld _ rfl rfl (by omega) ?_)
    refine e2_fi (m_countIn hN hN2 (nI 0)) rfl rfl ⟨rfl, rfl, rfl⟩ rfl rfl rfl (by first | exact hi | decide) rfl rfl rfl ?_
    repeat (first | refine e2_step rfl rfl ?_ | refine e2m_get rfl rfl ?_ | refine e2m_ld _ rfl rfl (by omega) ?_)
    refine e2_fi (m_countIn hN hN2 (nI 2)) rfl rfl ⟨rfl, rfl, rfl⟩ rfl rfl rfl (by first | exact hi | decide) rfl rfl rfl ?_
    repeat (first | refine e2_step rfl rfl ?_ | refine e2m_get rfl rfl ?_ | refine e2m_ld _ rfl rfl (by omega) ?_)
    rw [nI_add']
    have hs : clA N (k + 1) m r2 = if clrB r2 N then nI m else clA N k (m + 1) (hoursr r2 N) := rfl
    have l1 := cntB_le (fun l => decide (ofr r2 l 3 = nI 0)) N
    have l2 := cntB_le (fun l => decide (ofr r2 l 3 = nI 2)) N
    have hcl : clrB r2 N = true ↔ cntB (fun l => decide (ofr r2 l 3 = nI 0)) N + cntB (fun l => decide (ofr r2 l 3 = nI 2)) N = 0 := by
      unfold clrB
      rw [Bool.and_eq_true, decide_eq_true_eq, decide_eq_true_eq]
      omega
    generalize cntB (fun l => decide (ofr r2 l 3 = nI 0)) N = n0 at l1 hcl ⊢
    generalize cntB (fun l => decide (ofr r2 l 3 = nI 2)) N = n2 at l2 hcl ⊢
    refine e2_if rfl rfl (fun z => ?_) (fun z => ?_)
    · have z2 : nI (n0 + n2) ≤ nI 0 := z
      rw [nI_leI (by omega) (by omega)] at z2
      rw [hs, hcl.2 (by omega)]
      repeat (first | refine e2_step rfl rfl ?_ | refine e2m_get rfl rfl ?_ | refine e2m_ld _ rfl rfl (by omega) ?_)
      refine e2_fv (m_comesBack) rfl rfl ⟨rfl, rfl, rfl⟩ rfl rfl rfl (by first | exact hi | decide) rfl rfl rfl ?_
      repeat (first | refine e2_step rfl rfl ?_ | refine e2m_get rfl rfl ?_ | refine e2m_ld _ rfl rfl (by omega) ?_)
      refine e2_if rfl rfl (fun z => absurd (show nI 60 < nI m from z) (nI_nlt (by omega) (by omega))) (fun _ => ?_)
      repeat (first | refine e2_step rfl rfl ?_ | refine e2m_get rfl rfl ?_ | refine e2m_ld _ rfl rfl (by omega) ?_)
      exact e2_iret rfl rfl ⟨rfl, _, _, rfl, bck_of (r := r) hr⟩
    · have z2 : ¬ nI (n0 + n2) ≤ nI 0 := z
      rw [nI_leI (by omega) (by omega)] at z2
      have hc : clrB r2 N = false := eq_false_of_ne_true (fun q => by have := hcl.1 q; omega)
      rw [hs, hc]
      repeat (first | refine e2_step rfl rfl ?_ | refine e2m_get rfl rfl ?_ | refine e2m_ld _ rfl rfl (by omega) ?_)
      refine e2_fi (m_hours hN hN2 hO.okr sp2 (by omega)) rfl rfl ⟨rfl, rfl, rfl⟩ rfl rfl rfl (by first | exact hi | decide) rfl rfl rfl ?_
      repeat (first | refine e2_stepS 6 rfl rfl rfl ?_ | refine e2m_getS 6 rfl rfl rfl ?_ | refine e2m_ldS 6 rfl _ rfl rfl (by omega) ?_)
      rw [nI_add']
      refine m_clearL k (m + 1) _ _ (hoursr r2 N) (by omega) hO.hours (fun j hj => ?_)
      rw [hoursr_o hN2 (Or.inr (by omega))]
      unfold upd
      rw [if_neg (by omega)]
      exact hr j hj
theorem op_clearIn (h : RR G r t x K) : OpOk ε jX8_clearIn jX9_clearIn [] G r t x K := by
  obtain ⟨N, hO0, hO, hz⟩ := h.tri
  have hOa : RO (cpO (G 18) (G 0)) (asd r) N := hO.row (fun j hj => asd_lo (by omega))
  refine OpOk.look (a := clA N 61 0 (asd r)) h ?_ (fun G1 o => ?_)
  · refine C2.of (ls := [some (.inr (0, 30)), none]) okX8_clearIn rfl rfl ?_
    repeat (first | refine e2_step rfl rfl ?_ | refine e2_get rfl (by first | exact hi | decide) rfl rfl ?_)
    refine e2_fv (Q_office (i := 18) (i2 := 0) (by decide) (by decide) (by decide) hz) rfl rfl ⟨rfl, rfl, rfl⟩ rfl rfl rfl (by first | exact hi | decide) rfl rfl rfl ?_
    unfold cpG
    repeat (first | refine e2_stepS 16 rfl rfl rfl ?_)
    exact c_clearL 61 0 _ _ _ (asd r) rfl hOa
  · refine C2.of (ls := [some (.inr (0, 50)), none]) okX9_clearIn rfl rfl ?_
    repeat (first | refine e2_step rfl rfl ?_ | refine e2m_get rfl rfl ?_ | refine e2m_ld _ rfl rfl (by omega) ?_)
    refine e2_fv (m_putAside) rfl rfl ⟨rfl, rfl, rfl⟩ rfl rfl rfl (by first | exact hi | decide) rfl rfl rfl ?_
    repeat (first | refine e2_stepS 6 rfl rfl rfl ?_ | refine e2m_getS 6 rfl rfl rfl ?_ | refine e2m_ldS 6 rfl _ rfl rfl (by omega) ?_)
    exact m_clearL 61 0 _ o (asd r) rfl hOa (fun _ _ => rfl)
end OP
