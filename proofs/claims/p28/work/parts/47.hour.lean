/-! An hour of an office: its invariant, and how many letters wait behind it. -/
section HA
variable {V V' V2 U : VV} {N Y l : Nat}
/-- hands and deliveries are as they were -/
def Sm (V V' : VV) (N : Nat) : Prop := V' 14 = V 14 ∧ V' 15 = V 15 ∧ ∀ l, l < N → (V' 7 l = nI 3 → V 7 l = nI 3 ∧ V' 8 l = V 8 l) ∧ (V' 7 l = nI 4 ↔ V 7 l = nI 4)
theorem Sm.rf : Sm V V N := ⟨rfl, rfl, fun _ _ => ⟨fun h => ⟨h, rfl⟩, Iff.rfl⟩⟩
theorem Sm.tr (h : Sm V V' N) (h2 : Sm V' V2 N) : Sm V V2 N := by
  obtain ⟨a, b, c⟩ := h
  obtain ⟨a2, b2, c2⟩ := h2
  refine ⟨a2.trans a, b2.trans b, fun l hl => ⟨fun z => ?_, (c2 l hl).2.trans (c l hl).2⟩⟩
  obtain ⟨z1, z2⟩ := (c2 l hl).1 z
  obtain ⟨z3, z4⟩ := (c l hl).1 z1
  exact ⟨z3, z2.trans z4⟩
theorem Sm.ih (h : Sm V V' N) (k : IH V N) : IH V' N := fun l hl z => by
  obtain ⟨z1, z2⟩ := (h.2.2 l hl).1 z
  obtain ⟨c, c1, c2, c3⟩ := k l hl z1
  exact ⟨c, c1, z2.trans c2, by rw [h.1]; exact c3⟩
theorem Sm.idd (h : Sm V V' N) (k : ID V N) : ID V' N := by
  unfold ID at k ⊢
  rw [h.2.1, k]
  unfold P7
  rw [cntB_congr N (fun j hj => decide_eq_decide.2 (h.2.2 j hj).2)]
theorem Sm.move {p q : Nat} {k : Int32} (hp : V 7 l = nI p) (hp2 : p ≤ 2) (hq : q ≤ 2) : Sm V (moveV V l (nI q) k) N := by
  refine ⟨moveV_o (by decide) (by decide) (by decide), moveV_o (by decide) (by decide) (by decide), fun j hj => ?_⟩
  rw [moveV_7, moveV_8]
  by_cases hjl : j = l
  · subst hjl
    rw [if_pos rfl, if_pos rfl, hp]
    refine ⟨fun z => ?_, ?_⟩
    · have := (nIp (by omega) (by omega)).1 z
      omega
    · rw [nIp (by omega) (by omega), nIp (by omega) (by omega)]
      omega
  · rw [if_neg hjl, if_neg hjl]
    exact ⟨fun z => ⟨z, rfl⟩, Iff.rfl⟩
/-- the overflow is emptied, letter by letter -/
theorem ov_all (h : B0 V N Y) : ∀ n, n ≤ N → B0 (ovV V n) N Y ∧ Sm V (ovV V n) N ∧ ∀ l, ovV V n 7 l = if l < n ∧ V 7 l = nI 2 then nI 0 else V 7 l
  | 0, _ => ⟨h, Sm.rf, fun l => by rw [if_neg (by omega)]; rfl⟩
  | n + 1, hn => by
    obtain ⟨a, b, c⟩ := ov_all h n (by omega)
    have hc := c n
    rw [if_neg (by omega)] at hc
    unfold ovV
    rw [hc]
    by_cases z : V 7 n = nI 2
    · rw [if_pos z]
      have hz : ovV V n 7 n = nI 2 := by rw [hc, z]
      refine ⟨a.move (p := 2) (q := 0) (by omega) hz (by omega) (by omega) (fun z => by omega) (fun z => by omega), b.tr (Sm.move (p := 2) (q := 0) hz (by omega) (by omega)), fun l => ?_⟩
      rw [moveV_7, c l]
      by_cases hln : l = n
      · subst hln
        rw [if_pos rfl, if_pos ⟨by omega, z⟩]
      · rw [if_neg hln]
        by_cases hl : l < n ∧ V 7 l = nI 2
        · rw [if_pos hl, if_pos ⟨by omega, hl.2⟩]
        · rw [if_neg hl, if_neg (fun q => hl ⟨by omega, q.2⟩)]
    · rw [if_neg z]
      refine ⟨a, b, fun l => ?_⟩
      rw [c l]
      by_cases hln : l = n
      · subst hln
        rw [if_neg (by omega), if_neg (fun q => z q.2)]
      · by_cases hl : l < n ∧ V 7 l = nI 2
        · rw [if_pos hl, if_pos ⟨by omega, hl.2⟩]
        · rw [if_neg hl, if_neg (fun q => hl ⟨by omega, q.2⟩)]
theorem cntB_sum {p q r : Nat → Bool} : ∀ n, (∀ j, j < n → (if r j then 1 else 0) = (if p j then 1 else 0) + (if q j then 1 else (0 : Nat))) → cntB r n = cntB p n + cntB q n
  | 0, _ => rfl
  | n + 1, h => by
    have h1 := h n (by omega)
    have h2 := cntB_sum n (fun j hj => h j (by omega))
    unfold cntB
    omega
theorem cntB_0 {p : Nat → Bool} : ∀ n, (∀ j, j < n → p j = false) → cntB p n = 0
  | 0, _ => rfl
  | n + 1, h => by
    unfold cntB
    rw [h n (by omega), cntB_0 n (fun j hj => h j (by omega))]
    rfl
theorem ov_cnt (h : B0 V N Y) : P7 (ovV V N) 0 N = P7 V 0 N + P7 V 2 N ∧ P7 (ovV V N) 2 N = 0 := by
  obtain ⟨-, -, c⟩ := ov_all h N (Nat.le_refl _)
  refine ⟨?_, ?_⟩
  · unfold P7
    refine cntB_sum N (fun j hj => ?_)
    obtain ⟨p, p5, hp⟩ := h.pl hj
    rw [c j, hp]
    by_cases h2 : p = 2
    · subst h2
      have e : (if j < N ∧ nI 2 = nI 2 then nI 0 else nI 2) = nI 0 := if_pos ⟨hj, rfl⟩
      rw [e]
      decide
    · have e2 : ¬ nI p = nI 2 := fun z => h2 ((nIp p5 (by omega)).1 z)
      have e : (if j < N ∧ nI p = nI 2 then nI 0 else nI p) = nI p := if_neg (fun z => e2 z.2)
      rw [e, decide_eq_false e2]
      simp
  · unfold P7
    refine cntB_0 N (fun j hj => ?_)
    rw [c j]
    by_cases h2 : V 7 j = nI 2
    · rw [if_pos ⟨hj, h2⟩]
      rfl
    · rw [if_neg (fun z => h2 z.2)]
      exact decide_eq_false h2
-- the bag's list
theorem passR_mem {p : Nat → Bool} {R : List Nat} {a : Nat} : ∀ n, a ∈ passR p R n ↔ (a < n ∧ p a = true) ∨ a ∈ R
  | 0 => by simp [passR]
  | n + 1 => by
    unfold passR
    by_cases h : p n = true
    · rw [if_pos h, List.mem_cons, passR_mem n]
      constructor
      · rintro (rfl | ⟨h1, h2⟩ | h1)
        · exact Or.inl ⟨by omega, h⟩
        · exact Or.inl ⟨by omega, h2⟩
        · exact Or.inr h1
      · rintro (⟨h1, h2⟩ | h1)
        · by_cases ha : a = n
          · exact Or.inl ha
          · exact Or.inr (Or.inl ⟨by omega, h2⟩)
        · exact Or.inr (Or.inr h1)
    · rw [if_neg h, passR_mem n]
      constructor
      · rintro (⟨h1, h2⟩ | h1)
        · exact Or.inl ⟨by omega, h2⟩
        · exact Or.inr h1
      · rintro (⟨h1, h2⟩ | h1)
        · by_cases ha : a = n
          · subst ha; exact absurd h2 h
          · exact Or.inl ⟨by omega, h2⟩
        · exact Or.inr h1
theorem passR_len {p : Nat → Bool} {R : List Nat} : ∀ n, (passR p R n).length = cntB p n + R.length
  | 0 => by simp [passR, cntB]
  | n + 1 => by
    unfold passR cntB
    by_cases h : p n = true
    · rw [if_pos h, if_pos h, List.length_cons, passR_len n]
      omega
    · rw [if_neg h, if_neg h, passR_len n, Nat.add_zero]
theorem passR_pw {p : Nat → Bool} {R : List Nat} {S : Nat → Nat → Prop} (hR : R.Pairwise S) (h1 : ∀ a b, p a = true → b ∈ R → S a b) (h2 : ∀ a b, p a = true → p b = true → b < a → S a b) : ∀ n, (passR p R n).Pairwise S
  | 0 => hR
  | n + 1 => by
    unfold passR
    by_cases h : p n = true
    · rw [if_pos h]
      refine List.pairwise_cons.2 ⟨fun b hb => ?_, passR_pw hR h1 h2 n⟩
      rcases (passR_mem n).1 hb with ⟨z1, z2⟩ | z
      · exact h2 n b h z2 z1
      · exact h1 n b h z
    · rw [if_neg h]
      exact passR_pw hR h1 h2 n
theorem bagP_of {c m : Int32} {a : Nat} (h : bagP V c m a = true) : V 7 a = 0 ∧ V 5 a = c ∧ V 6 a = m := by
  simpa only [bagP, Bool.and_eq_true, decide_eq_true_eq] using h
/-- a stands ahead of b in the bag -/
def ahead (V : VV) (b a : Nat) : Prop := (V 5 a = nI 1 ∧ V 5 b = nI 0) ∨ (V 5 a = V 5 b ∧ ∃ x y, x ≤ 2 ∧ y ≤ 2 ∧ V 6 a = nI x ∧ V 6 b = nI y ∧ (y < x ∨ (x = y ∧ a < b)))
theorem bagC_in {c : Int32} {R : List Nat} {a : Nat} (h : a ∈ bagC V N c R) : (a < N ∧ V 7 a = 0 ∧ V 5 a = c ∧ ∃ m, m ≤ 2 ∧ V 6 a = nI m) ∨ a ∈ R := by
  unfold bagC at h
  rcases (passR_mem N).1 h with ⟨h1, h2⟩ | h
  · obtain ⟨b1, b2, b3⟩ := bagP_of h2
    exact Or.inl ⟨h1, b1, b2, 0, by omega, b3⟩
  · rcases (passR_mem N).1 h with ⟨h1, h2⟩ | h
    · obtain ⟨b1, b2, b3⟩ := bagP_of h2
      exact Or.inl ⟨h1, b1, b2, 1, by omega, b3⟩
    · rcases (passR_mem N).1 h with ⟨h1, h2⟩ | h
      · obtain ⟨b1, b2, b3⟩ := bagP_of h2
        exact Or.inl ⟨h1, b1, b2, 2, by omega, b3⟩
      · exact Or.inr h
theorem bagC_pw {c : Int32} {R : List Nat} (hR : R.Pairwise (ahead V)) (h1 : ∀ a b, V 5 a = c → b ∈ R → ahead V a b) : (bagC V N c R).Pairwise (ahead V) := by
  have step : ∀ m, m ≤ 2 → ∀ a b, bagP V c (nI m) a = true → bagP V c (nI m) b = true → b < a → ahead V a b := fun m hm a b ha hb hab => by
    obtain ⟨-, a2, a3⟩ := bagP_of ha
    obtain ⟨-, b2, b3⟩ := bagP_of hb
    exact Or.inr ⟨b2.trans a2.symm, m, m, hm, hm, b3, a3, Or.inr ⟨rfl, hab⟩⟩
  have down : ∀ x y, x ≤ 2 → y ≤ 2 → y < x → ∀ a b, bagP V c (nI y) a = true → V 5 b = c → V 6 b = nI x → ahead V a b := fun x y hx hy hxy a b ha hb hb6 => by
    obtain ⟨-, a2, a3⟩ := bagP_of ha
    exact Or.inr ⟨hb.trans a2.symm, x, y, hx, hy, hb6, a3, Or.inl hxy⟩
  unfold bagC
  refine passR_pw (passR_pw (passR_pw hR (fun a b ha hb => h1 a b (bagP_of ha).2.1 hb) (step 2 (by omega)) N) (fun a b ha hb => ?_) (step 1 (by omega)) N) (fun a b ha hb => ?_) (step 0 (by omega)) N
  · rcases (passR_mem N).1 hb with ⟨-, z⟩ | z
    · exact down 2 1 (by omega) (by omega) (by omega) a b ha (bagP_of z).2.1 (bagP_of z).2.2
    · exact h1 a b (bagP_of ha).2.1 z
  · rcases (passR_mem N).1 hb with ⟨-, z⟩ | z
    · exact down 1 0 (by omega) (by omega) (by omega) a b ha (bagP_of z).2.1 (bagP_of z).2.2
    · rcases (passR_mem N).1 z with ⟨-, z⟩ | z
      · exact down 2 0 (by omega) (by omega) (by omega) a b ha (bagP_of z).2.1 (bagP_of z).2.2
      · exact h1 a b (bagP_of ha).2.1 z
theorem bag_pw : (bagVR V N).Pairwise (ahead V) := by
  unfold bagVR
  refine bagC_pw (bagC_pw List.Pairwise.nil (fun a b _ hb => absurd hb List.not_mem_nil)) (fun a b ha hb => ?_)
  rcases bagC_in hb with ⟨-, -, z, -⟩ | z
  · exact Or.inl ⟨z, ha⟩
  · exact absurd z List.not_mem_nil
theorem bag_in {a : Nat} (h : a ∈ bagVR V N) : a < N ∧ V 7 a = nI 0 := by
  unfold bagVR at h
  rcases bagC_in h with ⟨z1, z2, -⟩ | h
  · exact ⟨z1, z2⟩
  · rcases bagC_in h with ⟨z1, z2, -⟩ | h
    · exact ⟨z1, z2⟩
    · exact absurd h List.not_mem_nil
theorem cntB_0s (n : Nat) : cntB (fun _ => false) n = 0 := cntB_0 n (fun _ _ => rfl)
theorem cntB_or {p q : Nat → Bool} (n : Nat) (h : ∀ j, j < n → p j = true → q j = false) : cntB (fun j => p j || q j) n = cntB p n + cntB q n := by
  refine cntB_sum n (fun j hj => ?_)
  cases hp : p j with
  | true => rw [h j hj hp]; rfl
  | false => simp
theorem bag_len (h : B0 V N Y) : (bagVR V N).length = P7 V 0 N := by
  have e : ∀ c R, (bagC V N c R).length = cntB (fun l => decide (V 7 l = 0) && decide (V 5 l = c) && decide (¬ V 7 l = nI 5)) N + R.length := fun c R => by
    unfold bagC
    rw [passR_len, passR_len, passR_len]
    have e1 : cntB (fun l => decide (V 7 l = 0) && decide (V 5 l = c) && decide (¬ V 7 l = nI 5)) N = cntB (bagP V c (nI 0)) N + (cntB (bagP V c (nI 1)) N + cntB (bagP V c (nI 2)) N) := by
      rw [← cntB_or N (fun j hj z => ?_), ← cntB_or N (fun j hj z => ?_)]
      · refine cntB_congr N (fun j hj => ?_)
        obtain ⟨p', m', p1, m1, hpq, hm, pm, -⟩ := (h.2.2.2 j hj).2.2.1
        unfold bagP
        by_cases h7 : V 7 j = 0
        · have hp0 : p' = 0 := (nIp p1 (by omega)).1 (hpq.symm.trans h7)
          have hm2 : m' = 0 ∨ m' = 1 ∨ m' = 2 := by omega
          have h5 : ¬ V 7 j = nI 5 := by rw [h7]; decide
          rw [decide_eq_true h7, decide_eq_true h5, hm]
          by_cases h5 : V 5 j = c
          · rw [decide_eq_true h5]
            rcases hm2 with rfl | rfl | rfl <;> decide
          · rw [decide_eq_false h5]
            rfl
        · rw [decide_eq_false h7]
          rfl
      · simp only [bagP, Bool.and_eq_true, decide_eq_true_eq] at z
        simp only [bagP]
        rw [z.2.2, decide_eq_false (p := nI 0 = nI 1) (by decide), decide_eq_false (p := nI 0 = nI 2) (by decide), Bool.and_false, Bool.and_false]
        rfl
      · simp only [bagP, Bool.and_eq_true, decide_eq_true_eq] at z
        simp only [bagP]
        rw [z.2.2, decide_eq_false (p := nI 1 = nI 2) (by decide), Bool.and_false, Bool.and_false]
    omega
  unfold bagVR
  rw [e, e, List.length_nil, Nat.add_zero, ← cntB_or N (fun j hj z => ?_)]
  · unfold P7
    refine cntB_congr N (fun j hj => ?_)
    obtain ⟨-, e2, -⟩ := h.2.2.2 j hj
    by_cases h7 : V 7 j = 0
    · have h5 : ¬ V 7 j = nI 5 := by rw [h7]; decide
      have h0 : V 7 j = nI 0 := h7
      rw [decide_eq_true h7, decide_eq_true h5, decide_eq_true h0]
      rcases e2 with z | z
      · rw [z]; decide
      · rw [z]; decide
    · have h0 : ¬ V 7 j = nI 0 := h7
      rw [decide_eq_false h7, decide_eq_false h0]
      rfl
  · simp only [Bool.and_eq_true, decide_eq_true_eq] at z
    rw [z.1.2, decide_eq_false (p := nI 0 = nI 1) (by decide), Bool.and_false, Bool.false_and]
theorem pw_revD {R : List Nat} {S : Nat → Nat → Prop} : ∀ (R : List Nat), R.Pairwise S → ∀ i j, i < j → j < R.length → S (revD R j) (revD R i)
  | [], _, i, j, _, hj => by simp at hj
  | a :: t, h, i, j, hij, hj => by
    obtain ⟨h1, h2⟩ := List.pairwise_cons.1 h
    rw [List.length_cons] at hj
    have hi : revD (a :: t) i = revD t i := by
      conv => lhs; unfold revD
      rw [if_neg (by omega)]
    by_cases hjt : j = t.length
    · have hj2 : revD (a :: t) j = a := by
        conv => lhs; unfold revD
        rw [if_pos hjt]
      rw [hi, hj2]
      exact h1 _ (revD_mem t i (by omega))
    · have hj2 : revD (a :: t) j = revD t j := by
        conv => lhs; unfold revD
        rw [if_neg hjt]
      rw [hi, hj2]
      exact pw_revD (R := t) t h2 i j hij (by omega)
theorem ahead_ne {a b : Nat} (h : ahead V b a) : b ≠ a := fun z => by
  subst z
  rcases h with ⟨h1, h2⟩ | ⟨-, x, y, hx, hy, h1, h2, h3⟩
  · rw [h1] at h2
    exact absurd h2 (by decide)
  · have : x = y := (nI_eq (by omega) (by omega)).1 (h1.symm.trans h2)
    omega
end HA
