/-! The bag's lists are the same; sorting keeps the relation. -/
section NG
variable {V : VV} {r : Nat → Int32} {N l : Nat}
theorem passR_app (p : Nat → Bool) (R : List Nat) : ∀ n, passR p R n = passR p [] n ++ R
  | 0 => rfl
  | n + 1 => by
    show (if p n then n :: passR p R n else passR p R n) = (if p n then n :: passR p [] n else passR p [] n) ++ R
    rw [passR_app p R n]
    split
    · rfl
    · rfl
theorem passR_mem (p : Nat → Bool) : ∀ n a, a ∈ passR p [] n → p a = true ∧ a < n
  | 0, a, h => by simp [passR] at h
  | n + 1, a, h => by
    have h2 : a ∈ (if p n then n :: passR p [] n else passR p [] n) := h
    split at h2
    · rename_i hp
      rcases List.mem_cons.1 h2 with rfl | h3
      · exact ⟨hp, by omega⟩
      · have := passR_mem p n a h3
        exact ⟨this.1, by omega⟩
    · have := passR_mem p n a h2
      exact ⟨this.1, by omega⟩
theorem insR_app (gt : Nat → Nat → Bool) (y : Nat) (B : List Nat) (hB : ∀ b, b ∈ B → gt b y = false) : ∀ (A : List Nat), (∀ a, a ∈ A → gt a y = true) → insR gt (A ++ B) y = A ++ (y :: B)
  | [], _ => by
    cases B with
    | nil => rfl
    | cons b t =>
      show (if gt b y then b :: insR gt t y else y :: b :: t) = y :: b :: t
      rw [hB b List.mem_cons_self]
      rfl
  | a :: A, hA => by
    show (if gt a y then a :: insR gt (A ++ B) y else y :: a :: (A ++ B)) = a :: (A ++ y :: B)
    rw [if_pos (hA a List.mem_cons_self), insR_app gt y B hB A (fun b hb => hA b (List.mem_cons_of_mem _ hb))]
/-- a letter's class and misroutes, in the bag -/
def kyB (r : Nat → Int32) (f m : Nat) (l : Nat) : Bool := decide (ofr r l 3 = 0) && (decide (ofr r l 1 = nI f) && decide (ofr r l 2 = nI m))
def kyR (r : Nat → Int32) (n : Nat) : List Nat := passR (kyB r 0 0) [] n ++ (passR (kyB r 0 1) [] n ++ (passR (kyB r 0 2) [] n ++ (passR (kyB r 1 0) [] n ++ (passR (kyB r 1 1) [] n ++ passR (kyB r 1 2) [] n))))
theorem kyB_rank {f m : Nat} (h : kyB r f m l = true) : rankr r l = nI (10 * f + m) := by
  simp only [kyB, Bool.and_eq_true, decide_eq_true_eq] at h
  unfold rankr
  rw [h.2.1, h.2.2, pk_mul, nI_add']
theorem kyB_gt {f m f' m' a y : Nat} (ha : kyB r f m a = true) (hy : kyB r f' m' y = true) (h1 : f < 2) (h2 : m < 3) (h3 : f' < 2) (h4 : m' < 3) : gtB r a y = decide (10 * f + m < 10 * f' + m') := by
  unfold gtB
  rw [kyB_rank ha, kyB_rank hy]
  by_cases h : 10 * f + m < 10 * f' + m'
  · rw [decide_eq_true h, decide_eq_true ((nI_ltI (by omega) (by omega)).2 h)]
  · rw [decide_eq_false h, decide_eq_false (fun z => h ((nI_ltI (by omega) (by omega)).1 z))]
theorem kyB_uniq {f m f' m' : Nat} (h1 : f < 2) (h2 : m < 3) (h3 : f' < 2) (h4 : m' < 3) (h : kyB r f m l = true) (hne : ¬ (f = f' ∧ m = m')) : kyB r f' m' l = false := by
  simp only [kyB, Bool.and_eq_true, decide_eq_true_eq] at h
  obtain ⟨e0, e1, e2⟩ := h
  unfold kyB
  rw [e1, e2]
  by_cases hf : f = f'
  · have : ¬ nI m = nI m' := fun z => hne ⟨hf, (nI_eq (by omega) (by omega)).1 z⟩
    rw [decide_eq_false this, Bool.and_false, Bool.and_false]
  · have : ¬ nI f = nI f' := fun z => hf ((nI_eq (by omega) (by omega)).1 z)
    rw [decide_eq_false this, Bool.false_and, Bool.and_false]
theorem passR_s (p : Nat → Bool) (n : Nat) : passR p [] (n + 1) = if p n then n :: passR p [] n else passR p [] n := rfl
theorem kyR_no {n : Nat} (h : ∀ f m, f < 2 → m < 3 → kyB r f m n = false) : kyR r (n + 1) = kyR r n := by
  unfold kyR
  simp only [passR_s, h 0 0 (by omega) (by omega), h 0 1 (by omega) (by omega), h 0 2 (by omega) (by omega), h 1 0 (by omega) (by omega), h 1 1 (by omega) (by omega), h 1 2 (by omega) (by omega), Bool.false_eq_true, if_false]
theorem kyR_gt {f m f' m' n : Nat} (hn : kyB r f' m' n = true) (h1 : f < 2) (h2 : m < 3) (h3 : f' < 2) (h4 : m' < 3) : ∀ a, a ∈ passR (kyB r f m) [] n → gtB r a n = decide (10 * f + m < 10 * f' + m') := fun a ha => kyB_gt (passR_mem _ n a ha).1 hn h1 h2 h3 h4
theorem kyR_ins {n f m : Nat} (hf : f < 2) (hm : m < 3) (hn : kyB r f m n = true) : kyR r (n + 1) = insR (gtB r) (kyR r n) n := by
  have g := fun f' m' (h1 : f' < 2) (h2 : m' < 3) => kyR_gt (f := f') (m := m') hn h1 h2 hf hm
  have u := fun f' m' (h1 : f' < 2) (h2 : m' < 3) (hne : ¬ (f = f' ∧ m = m')) => kyB_uniq (l := n) hf hm h1 h2 hn hne
  have g00 := g 0 0 (by omega) (by omega)
  have g01 := g 0 1 (by omega) (by omega)
  have g02 := g 0 2 (by omega) (by omega)
  have g10 := g 1 0 (by omega) (by omega)
  have g11 := g 1 1 (by omega) (by omega)
  have g12 := g 1 2 (by omega) (by omega)
  unfold kyR
  simp only [passR_s]
  generalize passR (kyB r 0 0) [] n = A00 at g00 ⊢
  generalize passR (kyB r 0 1) [] n = A01 at g01 ⊢
  generalize passR (kyB r 0 2) [] n = A02 at g02 ⊢
  generalize passR (kyB r 1 0) [] n = A10 at g10 ⊢
  generalize passR (kyB r 1 1) [] n = A11 at g11 ⊢
  generalize passR (kyB r 1 2) [] n = A12 at g12 ⊢
  rcases (show (f = 0 ∧ m = 0) ∨ (f = 0 ∧ m = 1) ∨ (f = 0 ∧ m = 2) ∨ (f = 1 ∧ m = 0) ∨ (f = 1 ∧ m = 1) ∨ (f = 1 ∧ m = 2) by omega) with ⟨rfl, rfl⟩ | ⟨rfl, rfl⟩ | ⟨rfl, rfl⟩ | ⟨rfl, rfl⟩ | ⟨rfl, rfl⟩ | ⟨rfl, rfl⟩
  · rw [hn, u 0 1 (by omega) (by omega) (by omega), u 0 2 (by omega) (by omega) (by omega), u 1 0 (by omega) (by omega) (by omega), u 1 1 (by omega) (by omega) (by omega), u 1 2 (by omega) (by omega) (by omega)]
    have h := insR_app (gtB r) n (A00 ++ (A01 ++ (A02 ++ (A10 ++ (A11 ++ A12))))) (fun b hb => by
      simp only [List.mem_append] at hb
      rcases hb with hb | hb | hb | hb | hb | hb
      · rw [g00 b hb]; rfl
      · rw [g01 b hb]; rfl
      · rw [g02 b hb]; rfl
      · rw [g10 b hb]; rfl
      · rw [g11 b hb]; rfl
      · rw [g12 b hb]; rfl) [] (fun a ha => by simp at ha)
    rw [List.nil_append, List.nil_append] at h
    rw [h]
    simp
  · rw [hn, u 0 0 (by omega) (by omega) (by omega), u 0 2 (by omega) (by omega) (by omega), u 1 0 (by omega) (by omega) (by omega), u 1 1 (by omega) (by omega) (by omega), u 1 2 (by omega) (by omega) (by omega)]
    have h := insR_app (gtB r) n (A01 ++ (A02 ++ (A10 ++ (A11 ++ A12)))) (fun b hb => by
      simp only [List.mem_append] at hb
      rcases hb with hb | hb | hb | hb | hb
      · rw [g01 b hb]; rfl
      · rw [g02 b hb]; rfl
      · rw [g10 b hb]; rfl
      · rw [g11 b hb]; rfl
      · rw [g12 b hb]; rfl) A00 (fun a ha => by rw [g00 a ha]; rfl)
    rw [h]
    simp
  · rw [hn, u 0 0 (by omega) (by omega) (by omega), u 0 1 (by omega) (by omega) (by omega), u 1 0 (by omega) (by omega) (by omega), u 1 1 (by omega) (by omega) (by omega), u 1 2 (by omega) (by omega) (by omega)]
    have h := insR_app (gtB r) n (A02 ++ (A10 ++ (A11 ++ A12))) (fun b hb => by
      simp only [List.mem_append] at hb
      rcases hb with hb | hb | hb | hb
      · rw [g02 b hb]; rfl
      · rw [g10 b hb]; rfl
      · rw [g11 b hb]; rfl
      · rw [g12 b hb]; rfl) (A00 ++ A01) (fun a ha => by
      rcases List.mem_append.1 ha with ha | ha
      · rw [g00 a ha]; rfl
      · rw [g01 a ha]; rfl)
    simp only [List.append_assoc] at h
    rw [h]
    simp
  · rw [hn, u 0 0 (by omega) (by omega) (by omega), u 0 1 (by omega) (by omega) (by omega), u 0 2 (by omega) (by omega) (by omega), u 1 1 (by omega) (by omega) (by omega), u 1 2 (by omega) (by omega) (by omega)]
    have h := insR_app (gtB r) n (A10 ++ (A11 ++ A12)) (fun b hb => by
      simp only [List.mem_append] at hb
      rcases hb with hb | hb | hb
      · rw [g10 b hb]; rfl
      · rw [g11 b hb]; rfl
      · rw [g12 b hb]; rfl) (A00 ++ (A01 ++ A02)) (fun a ha => by
      simp only [List.mem_append] at ha
      rcases ha with ha | ha | ha
      · rw [g00 a ha]; rfl
      · rw [g01 a ha]; rfl
      · rw [g02 a ha]; rfl)
    simp only [List.append_assoc] at h
    rw [h]
    simp
  · rw [hn, u 0 0 (by omega) (by omega) (by omega), u 0 1 (by omega) (by omega) (by omega), u 0 2 (by omega) (by omega) (by omega), u 1 0 (by omega) (by omega) (by omega), u 1 2 (by omega) (by omega) (by omega)]
    have h := insR_app (gtB r) n (A11 ++ A12) (fun b hb => by
      simp only [List.mem_append] at hb
      rcases hb with hb | hb
      · rw [g11 b hb]; rfl
      · rw [g12 b hb]; rfl) (A00 ++ (A01 ++ (A02 ++ A10))) (fun a ha => by
      simp only [List.mem_append] at ha
      rcases ha with ha | ha | ha | ha
      · rw [g00 a ha]; rfl
      · rw [g01 a ha]; rfl
      · rw [g02 a ha]; rfl
      · rw [g10 a ha]; rfl)
    simp only [List.append_assoc] at h
    rw [h]
    simp
  · rw [hn, u 0 0 (by omega) (by omega) (by omega), u 0 1 (by omega) (by omega) (by omega), u 0 2 (by omega) (by omega) (by omega), u 1 0 (by omega) (by omega) (by omega), u 1 1 (by omega) (by omega) (by omega)]
    have h := insR_app (gtB r) n A12 (fun b hb => by rw [g12 b hb]; rfl) (A00 ++ (A01 ++ (A02 ++ (A10 ++ A11)))) (fun a ha => by
      simp only [List.mem_append] at ha
      rcases ha with ha | ha | ha | ha | ha
      · rw [g00 a ha]; rfl
      · rw [g01 a ha]; rfl
      · rw [g02 a ha]; rfl
      · rw [g10 a ha]; rfl
      · rw [g11 a ha]; rfl)
    simp only [List.append_assoc] at h
    rw [h]
    simp
/-- classes and misroutes of the letters in the bag are in range -/
theorem bag_ky (hL : ∀ l, l < N → LO V r l) : ∀ n, n ≤ N → bagR r n = kyR r n
  | 0, _ => rfl
  | n + 1, hn => by
    have ih := bag_ky hL n (by omega)
    obtain ⟨-, ⟨-, b1⟩, ⟨-, m, c1, c2, c3⟩, -⟩ := hL n (by omega)
    show (if bagB r n then insR (gtB r) (bagR r n) n else bagR r n) = kyR r (n + 1)
    rw [ih]
    by_cases hb : ofr r n 3 = 0
    · have hm : m ≤ 2 := c3 (by rw [hb]; decide)
      rw [if_pos (by unfold bagB; exact decide_eq_true hb)]
      rcases b1 with b1 | b1
      · rw [kyR_ins (f := 0) (m := m) (by omega) (by omega) (by unfold kyB; rw [decide_eq_true hb, decide_eq_true b1, decide_eq_true c2]; rfl)]
      · rw [kyR_ins (f := 1) (m := m) (by omega) (by omega) (by unfold kyB; rw [decide_eq_true hb, decide_eq_true b1, decide_eq_true c2]; rfl)]
    · rw [if_neg (by unfold bagB; rw [decide_eq_false hb]; decide)]
      rw [kyR_no (fun f m _ _ => by unfold kyB; rw [decide_eq_false hb, Bool.false_and])]
theorem passR_congr {p q : Nat → Bool} : ∀ n, (∀ j, j < n → p j = q j) → passR p [] n = passR q [] n
  | 0, _ => rfl
  | n + 1, h => by
    rw [passR_s, passR_s, passR_congr n (fun j hj => h j (by omega)), h n (by omega)]
theorem bag_same (hL : ∀ l, l < N → LO V r l) : bagVR V N = bagR r N := by
  rw [bag_ky hL N (Nat.le_refl _)]
  have hk : ∀ f m, passR (bagP V (nI f) (nI m)) [] N = passR (kyB r f m) [] N := fun f m => passR_congr N (fun j hj => by
    obtain ⟨-, ⟨b1, -⟩, ⟨c1, -⟩, ⟨d1, -⟩, -⟩ := hL j hj
    unfold bagP kyB
    rw [b1, c1, d1])
  unfold bagVR bagC
  rw [passR_app (bagP V (nI 0) (nI 0)), passR_app (bagP V (nI 0) (nI 1)), passR_app (bagP V (nI 0) (nI 2)), passR_app (bagP V (nI 1) (nI 0)), passR_app (bagP V (nI 1) (nI 1))]
  rw [hk 0 0, hk 0 1, hk 0 2, hk 1 0, hk 1 1, hk 1 2]
  unfold kyR
  rfl
end NG
