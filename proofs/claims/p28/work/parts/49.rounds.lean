/-! A round's beginning and end of an office. -/
section HC
variable {V V' V2 U : VV} {N Y l c w : Nat}
theorem moveV_11 {q k : Int32} : moveV V l q k 11 = if q = nI 1 then upd (dnV V l 11) k.toNatClampNeg (dnV V l 11 k.toNatClampNeg + nI 1) else dnV V l 11 := by
  have h11 : wv (wv (dnV V l) 7 l q) 8 l k 11 = dnV V l 11 := by
    unfold wv sv
    rw [if_neg (by decide), if_neg (by decide)]
  unfold moveV upV
  by_cases h : q = nI 1
  · rw [if_pos h, if_pos h]
    show upd (wv (wv (dnV V l) 7 l q) 8 l k 11) _ (wv (wv (dnV V l) 7 l q) 8 l k 11 _ + nI 1) = _
    rw [h11]
  · rw [if_neg h, if_neg h, h11]
theorem dnV_11 : dnV V l 11 = if V 7 l = nI 1 then upd (V 11) (V 8 l).toNatClampNeg (V 11 (V 8 l).toNatClampNeg - nI 1) else V 11 := by
  unfold dnV
  split
  · rfl
  · rfl
theorem moveV_w6 {x q k : Int32} {kk : Nat} (h : kk ≠ 6) : moveV (wv V 6 l x) l q k kk = moveV V l q k kk := by
  by_cases h7 : kk = 7
  · subst h7
    funext j
    rw [moveV_7, moveV_7]
    rfl
  · by_cases h8 : kk = 8
    · subst h8
      funext j
      rw [moveV_8, moveV_8]
      rfl
    · by_cases h11 : kk = 11
      · subst h11
        rw [moveV_11, moveV_11, dnV_11, dnV_11]
        rfl
      · rw [moveV_o h7 h8 h11, moveV_o h7 h8 h11]
        unfold wv sv
        rw [if_neg h]
/-- carrying letters: the hand's count grows by one -/
theorem hand_move (hl : l < N) (h3 : ¬ V 7 l = nI 3) : cntB (atV (moveV V l (nI 3) (nI c)) (nI 3) (nI c)) N = cntB (atV V (nI 3) (nI c)) N + 1 := by
  rw [cntB_one (atV (moveV V l (nI 3) (nI c)) (nI 3) (nI c)) N hl, cntB_one (atV V (nI 3) (nI c)) N hl]
  have e : cntB (fun j => atV (moveV V l (nI 3) (nI c)) (nI 3) (nI c) j && decide (¬ j = l)) N = cntB (fun j => atV V (nI 3) (nI c) j && decide (¬ j = l)) N := cntB_congr N (fun j hj => by
    by_cases hjl : j = l
    · simp [hjl]
    · unfold atV
      rw [moveV_7, moveV_8, if_neg hjl, if_neg hjl])
  have e1 : atV (moveV V l (nI 3) (nI c)) (nI 3) (nI c) l = true := by
    unfold atV
    rw [moveV_7, moveV_8, if_pos rfl, if_pos rfl, decide_eq_true rfl, decide_eq_true rfl]
    rfl
  have e2 : atV V (nI 3) (nI c) l = false := by
    unfold atV
    rw [decide_eq_false h3]
    rfl
  rw [e, e1, e2, if_pos rfl]
  simp
/-- the first k of a list of letters in frames go into a hand -/
theorem sgo_all {R : List Nat} (h : B0 V N Y) (hc : c < 6) (hR : ∀ j, j < R.length → revD R j < N ∧ V 7 (revD R j) = nI 1) (hd : ∀ i j, i < j → j < R.length → revD R i ≠ revD R j) : ∀ k, k ≤ R.length → B0 (sgo V R (nI c) k) N Y ∧ (∀ j, k ≤ j → j < R.length → sgo V R (nI c) k 7 (revD R j) = nI 1) ∧ cntB (atV (sgo V R (nI c) k) (nI 3) (nI c)) N = cntB (atV V (nI 3) (nI c)) N + k ∧ (∀ l, l < N → (sgo V R (nI c) k 7 l = nI 3 → (V 7 l = nI 3 ∧ sgo V R (nI c) k 8 l = V 8 l) ∨ sgo V R (nI c) k 8 l = nI c) ∧ (sgo V R (nI c) k 7 l = nI 4 ↔ V 7 l = nI 4))
  | 0, _ => ⟨h, fun j _ hj => (hR j hj).2, rfl, fun l hl => ⟨fun z => Or.inl ⟨z, rfl⟩, Iff.rfl⟩⟩
  | k + 1, hk => by
    obtain ⟨a1, a2, a3, a4⟩ := sgo_all h hc hR hd k (by omega)
    have h1 := a2 k (Nat.le_refl _) (by omega)
    have hl := (hR k (by omega)).1
    have e : sgo V R (nI c) (k + 1) = moveV (sgo V R (nI c) k) (revD R k) (nI 3) (nI c) := rfl
    rw [e]
    generalize sgo V R (nI c) k = W at a1 a2 a3 a4 h1 ⊢
    refine ⟨a1.move (p := 1) (q := 3) hl h1 (by omega) (by omega) (fun z => by omega) (fun _ => ⟨c, hc, rfl⟩), fun j hj hjl => ?_, ?_, fun m hm => ?_⟩
    · rw [moveV_7, if_neg (fun z => hd k j (by omega) hjl z.symm)]
      exact a2 j (by omega) hjl
    · rw [hand_move hl (by rw [h1]; decide), a3]
      omega
    · rw [moveV_7, moveV_8]
      by_cases hml : m = revD R k
      · rw [if_pos hml, if_pos hml, hml]
        refine ⟨fun _ => Or.inr rfl, ?_⟩
        have := (a4 (revD R k) hl).2
        rw [h1] at this
        rw [← this]
        exact ⟨fun z => absurd z (by decide), fun z => absurd z (by decide)⟩
      · rw [if_neg hml, if_neg hml]
        exact a4 m hm
-- the list of a place: in the order of codes and numbers, each letter once
def byc (V : VV) (b a : Nat) : Prop := V 4 a < V 4 b ∨ (V 4 a = V 4 b ∧ a < b)
theorem byc_ne {a b : Nat} (h : byc V b a) : b ≠ a := fun z => by
  subst z
  rcases h with h | ⟨-, h⟩
  · exact (Int32.lt_irrefl h).elim
  · omega
theorem insR_pw {n : Nat} : ∀ (R : List Nat), R.Pairwise (byc V) → (∀ a, a ∈ R → a < n) → (insR (gtV V) R n).Pairwise (byc V)
  | [], _, _ => List.pairwise_singleton _ _
  | a :: t, h, hn => by
    obtain ⟨h1, h2⟩ := List.pairwise_cons.1 h
    have e : insR (gtV V) (a :: t) n = if gtV V a n then a :: insR (gtV V) t n else n :: a :: t := rfl
    rw [e]
    by_cases hg : gtV V a n = true
    · rw [if_pos hg]
      refine List.pairwise_cons.2 ⟨fun b hb => ?_, insR_pw t h2 (fun b hb => hn b (List.mem_cons_of_mem _ hb))⟩
      rcases (insR_mem _ t n b).1 hb with rfl | hb
      · exact Or.inl (of_decide_eq_true hg)
      · exact h1 b hb
    · rw [if_neg hg]
      have hle : V 4 a ≤ V 4 n := Int32.not_lt.1 (fun z => hg (decide_eq_true z))
      have ha : byc V n a := by
        by_cases hq : V 4 a = V 4 n
        · exact Or.inr ⟨hq, hn a List.mem_cons_self⟩
        · exact Or.inl (Int32.lt_of_le_of_ne hle hq)
      refine List.pairwise_cons.2 ⟨fun b hb => ?_, h⟩
      rcases List.mem_cons.1 hb with rfl | hb
      · exact ha
      · rcases h1 b hb with z | ⟨z1, z2⟩
        · exact Or.inl (Int32.lt_of_lt_of_le z hle)
        · rcases ha with y | ⟨y1, y2⟩
          · exact Or.inl (by rw [z1]; exact y)
          · exact Or.inr ⟨z1.trans y1, by omega⟩
theorem layR_pw {p : Nat → Bool} : ∀ n, (layR (gtV V) p n).Pairwise (byc V)
  | 0 => List.Pairwise.nil
  | n + 1 => by
    have e : layR (gtV V) p (n + 1) = if p n then insR (gtV V) (layR (gtV V) p n) n else layR (gtV V) p n := rfl
    rw [e]
    split
    · exact insR_pw _ (layR_pw n) (fun a ha => ((layR_mem _ _ n a).1 ha).1)
    · exact layR_pw n
theorem atVR_pw {p k : Int32} : (atVR V N p k).Pairwise (byc V) := layR_pw N
theorem atVR_in {p k : Int32} {a : Nat} (h : a ∈ atVR V N p k) : a < N ∧ V 7 a = p ∧ V 8 a = k := by
  obtain ⟨h1, h2⟩ := (layR_mem _ _ N a).1 h
  simp only [atV, Bool.and_eq_true, decide_eq_true_eq] at h2
  exact ⟨h1, h2.1, h2.2⟩
theorem atVR_mem {p k : Int32} {a : Nat} (h : a < N) (h7 : V 7 a = p) (h8 : V 8 a = k) : a ∈ atVR V N p k := (layR_mem _ _ N a).2 ⟨h, by unfold atV; rw [decide_eq_true h7, decide_eq_true h8]; rfl⟩
theorem atVR_d {p k : Int32} (i j : Nat) (hij : i < j) (hj : j < (atVR V N p k).length) : revD (atVR V N p k) i ≠ revD (atVR V N p k) j := fun z => byc_ne (pw_revD (R := []) _ atVR_pw i j hij hj) z.symm
theorem atVR_n {p k : Int32} : (atVR V N p k).length = cntB (atV V p k) N := by unfold atVR; rw [layR_len]
/-- nobody who is in has letters -/
theorem IH.none (h : IH V N) (hc : c < 6) (h0 : V 14 c = nI 0) : cntB (atV V (nI 3) (nI c)) N = 0 := cntB_0 N (fun j hj => by
  cases hb : atV V (nI 3) (nI c) j with
  | false => rfl
  | true =>
    exfalso
    simp only [atV, Bool.and_eq_true, decide_eq_true_eq] at hb
    obtain ⟨d, d1, d2, d3⟩ := h j hj hb.1
    have : d = c := (nI_eq (by omega) (by omega)).1 (d2.symm.trans hb.2)
    subst this
    rw [h0] at d3
    exact absurd d3 (by decide))
theorem snd_o {kk : Nat} (h7 : kk ≠ 7) (h8 : kk ≠ 8) (h11 : kk ≠ 11) (h14 : kk ≠ 14) : sndV V N c kk = V kk := by
  unfold sndV
  show (if kk = 14 then _ else sgo V _ (nI c) _ kk) = _
  rw [if_neg h14, sgo_o h7 h8 h11]
theorem snd_all (h : IV V N Y) (hc : c < 6) (h0 : V 14 c = nI 0) (hw : w < 8) (h13 : V 13 c = nI w) : IV (sndV V N c) N Y ∧ cntB (atV (sndV V N c) (nI 3) (nI c)) N = sndn V N c ∧ sndV V N c 14 c = nI 1 := by
  obtain ⟨hb, hh, hd⟩ := h
  have hR : ∀ j, j < (atVR V N (nI 1) (V 13 c)).length → revD (atVR V N (nI 1) (V 13 c)) j < N ∧ V 7 (revD (atVR V N (nI 1) (V 13 c)) j) = nI 1 := fun j hj => by
    obtain ⟨z1, z2, -⟩ := atVR_in (revD_mem _ j hj)
    exact ⟨z1, z2⟩
  obtain ⟨a1, -, a3, a4⟩ := sgo_all hb hc hR (fun i j hij hj => atVR_d i j hij hj) (sndn V N c) (Nat.min_le_left _ _)
  have ho : ∀ kk, kk ≠ 7 → kk ≠ 8 → kk ≠ 11 → sgo V (atVR V N (nI 1) (V 13 c)) (nI c) (sndn V N c) kk = V kk := fun kk h7 h8 h11 => sgo_o h7 h8 h11 _
  have e : sndV V N c = wv (sgo V (atVR V N (nI 1) (V 13 c)) (nI c) (sndn V N c)) 14 c (nI 1) := rfl
  rw [e]
  rw [IH.none hh hc h0, Nat.zero_add] at a3
  generalize sgo V (atVR V N (nI 1) (V 13 c)) (nI c) (sndn V N c) = W at a1 a3 a4 ho ⊢
  have o14 : ∀ d, wv W 14 c (nI 1) 14 d = if d = c then nI 1 else V 14 d := fun d => by
    show (if d = c then nI 1 else W 14 d) = _
    rw [ho 14 (by decide) (by decide) (by decide)]
  obtain ⟨b1, ⟨b2, b2'⟩, b3, b4⟩ := a1
  refine ⟨⟨⟨b1, ⟨fun d hd6 => ?_, b2'⟩, b3, b4⟩, fun m hm z => ?_, ?_⟩, a3, by rw [o14, if_pos rfl]⟩
  · obtain ⟨c1, c2, c3⟩ := b2 d hd6
    rw [o14]
    show _ ∧ (W 13 d = -9 ∨ ∃ w, w < 8 ∧ W 13 d = nI w) ∧ (_ → ¬ W 13 d = -9)
    rw [ho 13 (by decide) (by decide) (by decide)] at c2 c3 ⊢
    rw [ho 14 (by decide) (by decide) (by decide)] at c1 c3
    by_cases hdc : d = c
    · rw [if_pos hdc, hdc]
      exact ⟨Or.inr rfl, by rw [hdc] at c2; exact c2, fun _ => by rw [h13]; exact nI_n9 (by omega)⟩
    · rw [if_neg hdc]
      exact ⟨c1, c2, c3⟩
  · show ∃ d, d < 6 ∧ W 8 m = nI d ∧ _
    rcases (a4 m hm).1 z with ⟨z1, z2⟩ | z1
    · obtain ⟨d, d1, d2, d3⟩ := hh m hm z1
      refine ⟨d, d1, z2.trans d2, ?_⟩
      rw [o14]
      split
      · rfl
      · exact d3
    · exact ⟨c, hc, z1, by rw [o14, if_pos rfl]⟩
  · unfold ID at hd ⊢
    show sumI (W 15) 6 = nI (P7 W 4 N)
    rw [ho 15 (by decide) (by decide) (by decide), hd]
    unfold P7
    rw [cntB_congr N (fun j hj => decide_eq_decide.2 (a4 j hj).2)]
end HC
