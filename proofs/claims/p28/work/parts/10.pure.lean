/-! What serves of the pictures: loops, sums, lists. -/
section Pa0
variable {ε : EE} {J : JT} {pc : Nat} {ls : List (Option V0)} {st : List V0} {G : GG} {r t o x : Nat → Int32} {Q : Option Int32 → GG → Prop}
theorem setA_eq (G : GG) {i kk : Nat} {g g' : Nat → Int32} (h : g = g') : setA G i kk g = setA G i kk g' := by rw [h]
theorem setA_twice (G : GG) (i kk : Nat) (g g' : Nat → Int32) : setA (setA G i kk g) i kk g' = setA G i kk g' := by
  funext a b
  simp only [setA]
  split <;> rfl
theorem setA_comm (G : GG) (i kk i2 kk2 : Nat) (g g' : Nat → Int32) (h : kk ≠ kk2) : setA (setA G i kk g) i2 kk2 g' = setA (setA G i2 kk2 g') i kk g := by
  funext a b
  simp only [setA]
  by_cases h1 : a = i2 ∧ b = kk2
  · rw [if_pos h1, if_neg (fun z => h (by omega)), if_pos h1]
  · rw [if_neg h1]
    by_cases h2 : a = i ∧ b = kk
    · rw [if_pos h2, if_pos h2]
    · rw [if_neg h2, if_neg h2, if_neg h1]
theorem nb_bI (b : Bool) : vp_nar .boolean (bI b) = bI b := by cases b <;> rfl
end Pa0
section Pb0
variable {ε : EE} {J : JT} {pc : Nat} {ls : List (Option V0)} {st : List V0} {G : GG} {r t o x : Nat → Int32} {Q : Option Int32 → GG → Prop}
/-- a counted loop whose state is a function of the count -/
theorem e2_for {st : List V0} (N : Nat) (L : Nat → List (Option V0)) (S : Nat → GG) (hs : ∀ i, i < N → E2 ε J pc (L (i + 1)) st (S (i + 1)) Q → E2 ε J pc (L i) st (S i) Q) (he : ∀ M, M = N → E2 ε J pc (L M) st (S M) Q) : E2 ε J pc (L 0) st (S 0) Q := by
  have h : ∀ k i, i + k = N → E2 ε J pc (L i) st (S i) Q := by
    intro k
    induction k with
    | zero =>
      intro i hi
      exact he i (by omega)
    | succ k ih =>
      intro i hi
      exact hs i (by omega) (ih (i + 1) (by omega))
  exact h N 0 (by omega)
/-- fewer known locals -/
def e_sub : List (Option V0) → List (Option V0) → Prop
  | [], [] => True
  | none :: a, _ :: b => e_sub a b
  | some v :: a, some w :: b => v = w ∧ e_sub a b
  | _, _ => False
theorem e_sub_at : ∀ (a b : List (Option V0)), e_sub a b → ∀ (k : Nat) (v : V0), a[k]? = some (some v) → b[k]? = some (some v)
  | [], [], _, k, v, h => by simp at h
  | none :: a, w :: b, hs, k, v, h => by
    cases k with
    | zero => simp at h
    | succ k => simpa using e_sub_at a b hs k v (by simpa using h)
  | some u :: a, some w :: b, hs, k, v, h => by
    cases k with
    | zero =>
      simp at h ⊢
      exact hs.1 ▸ h
    | succ k => simpa using e_sub_at a b hs.2 k v (by simpa using h)
theorem e2_drop {ls' : List (Option V0)} (h : e_sub ls' ls) (k : E2 ε J pc ls' st G Q) : E2 ε J pc ls st G Q := by
  intro hT p e R s m args below meth c H locs lsA C hP hD hS hl
  refine k hT p e R s m args below meth c H locs lsA C hP hD hS ⟨hl.1, hl.2.1, fun q hq => ?_⟩
  obtain ⟨j, v, h1, h2, h3⟩ := (e_ll_mem ε ls' 0 q).1 hq
  exact hl.2.2 q ((e_ll_mem ε ls 0 q).2 ⟨j, v, h1, e_sub_at _ _ h j v h2, h3⟩)
theorem e2_dropK {ls' : List (Option V0)} (k : E2 ε J pc ls' st G Q) (h : e_sub ls' ls) : E2 ε J pc ls st G Q := e2_drop h k
def sumI (f : Nat → Int32) : Nat → Int32
  | 0 => nI 0
  | n + 1 => sumI f n + f n
def lastB (p : Nat → Bool) : Nat → Int32
  | 0 => -9
  | n + 1 => if p n then nI n else lastB p n
def bestF (f : Nat → Int32) : Nat → Int32 × Int32
  | 0 => (-9, nI 0)
  | n + 1 => if (bestF f n).2 < f n then (nI n, f n) else bestF f n
def firstFrom (p : Nat → Bool) : Nat → Nat → Int32
  | 0, _ => -9
  | k + 1, w => if p w then nI w else firstFrom p k (w + 1)
def rngr (r : Nat → Int32) (a b : Nat) (w : Int32) : Nat → Int32 := fun j => if a ≤ j ∧ j < b then w else r j
theorem rngr_0 (r : Nat → Int32) (a : Nat) (w : Int32) : rngr r a a w = r := by
  funext j
  simp only [rngr]
  rw [if_neg (by omega)]
theorem rngr_s (r : Nat → Int32) (a k : Nat) (w : Int32) : rngr r a (a + (k + 1)) w = upd (rngr r a (a + k) w) (a + k) w := by
  funext j
  simp only [rngr, upd]
  by_cases h : j = a + k
  · rw [if_pos (by omega), if_pos h]
  · rw [if_neg h]
    by_cases h2 : a ≤ j ∧ j < a + k
    · rw [if_pos (by omega), if_pos h2]
    · rw [if_neg (by omega), if_neg h2]
end Pb0
section Pc0
variable {ε : EE} {J : JT} {pc : Nat} {ls : List (Option V0)} {st : List V0} {G : GG} {r t o x : Nat → Int32} {Q : Option Int32 → GG → Prop}
/-- lists stand last element first: y behind the elements that may stay before it -/
def insR (gt : Nat → Nat → Bool) : List Nat → Nat → List Nat
  | [], y => [y]
  | a :: t, y => if gt a y then a :: insR gt t y else y :: a :: t
def revD : List Nat → Nat → Nat
  | [], _ => 0
  | a :: t, j => if j = t.length then a else revD t j
def layR (gt : Nat → Nat → Bool) (p : Nat → Bool) : Nat → List Nat
  | 0 => []
  | n + 1 => if p n then insR gt (layR gt p n) n else layR gt p n
def ordA (R : List Nat) (o : Nat → Int32) : Nat → Int32 := fun j => if j < R.length then nI (revD R j) else o j
theorem insR_len (gt : Nat → Nat → Bool) : ∀ (R : List Nat) (y : Nat), (insR gt R y).length = R.length + 1
  | [], y => rfl
  | a :: t, y => by
    unfold insR
    split
    · rw [List.length_cons, insR_len gt t y, List.length_cons]
    · rfl
theorem insR_mem (gt : Nat → Nat → Bool) : ∀ (R : List Nat) (y z : Nat), z ∈ insR gt R y ↔ z = y ∨ z ∈ R
  | [], y, z => by simp [insR]
  | a :: t, y, z => by
    unfold insR
    split
    · rw [List.mem_cons, insR_mem gt t y z, List.mem_cons]
      constructor
      · rintro (h | h | h)
        · exact Or.inr (Or.inl h)
        · exact Or.inl h
        · exact Or.inr (Or.inr h)
      · rintro (h | h | h)
        · exact Or.inr (Or.inl h)
        · exact Or.inl h
        · exact Or.inr (Or.inr h)
    · simp
theorem layR_mem (gt : Nat → Nat → Bool) (p : Nat → Bool) : ∀ (n z : Nat), z ∈ layR gt p n ↔ z < n ∧ p z = true
  | 0, z => by simp [layR]
  | n + 1, z => by
    unfold layR
    split
    · rename_i h
      rw [insR_mem, layR_mem gt p n z]
      constructor
      · rintro (rfl | ⟨h1, h2⟩)
        · exact ⟨by omega, h⟩
        · exact ⟨by omega, h2⟩
      · rintro ⟨h1, h2⟩
        by_cases hz : z = n
        · exact Or.inl hz
        · exact Or.inr ⟨by omega, h2⟩
    · rename_i h
      rw [layR_mem gt p n z]
      constructor
      · rintro ⟨h1, h2⟩
        exact ⟨by omega, h2⟩
      · rintro ⟨h1, h2⟩
        have hz : z ≠ n := fun e => h (e ▸ h2)
        exact ⟨by omega, h2⟩
theorem layR_len (gt : Nat → Nat → Bool) (p : Nat → Bool) : ∀ (n : Nat), (layR gt p n).length = cntB p n
  | 0 => rfl
  | n + 1 => by
    unfold layR cntB
    split
    · rw [insR_len, layR_len gt p n]
    · rw [layR_len gt p n]
      rfl
theorem revD_mem : ∀ (R : List Nat) (j : Nat), j < R.length → revD R j ∈ R
  | [], j, h => by simp at h
  | a :: t, j, h => by
    unfold revD
    split
    · exact List.mem_cons_self
    · exact List.mem_cons_of_mem _ (revD_mem t j (by rw [List.length_cons] at h; omega))
/-- what the inner loop of an insertion leaves -/
def insOk (gt : Nat → Nat → Bool) (R : List Nat) (y : Nat) (o o' : Nat → Int32) : Prop := (∀ j, j < R.length + 1 → o' j = nI (revD (insR gt R y) j)) ∧ ∀ j, R.length < j → o' j = o j
theorem insOk_nil (gt : Nat → Nat → Bool) (y : Nat) (o : Nat → Int32) : insOk gt [] y o (upd o 0 (nI y)) := by
  refine ⟨fun j hj => ?_, fun j hj => ?_⟩
  · have : j = 0 := by simp at hj; omega
    subst this
    simp [upd, insR, revD]
  · simp at hj
    simp [upd, show j ≠ 0 by omega]
theorem insOk_stop {gt : Nat → Nat → Bool} {a y : Nat} {t : List Nat} {o : Nat → Int32} (h : gt a y = false) (ho : ∀ j, j < t.length + 1 → o j = nI (revD (a :: t) j)) : insOk gt (a :: t) y o (upd o (t.length + 1) (nI y)) := by
  refine ⟨fun j hj => ?_, fun j hj => ?_⟩
  · rw [List.length_cons] at hj
    simp only [insR, h, Bool.false_eq_true, if_false, upd]
    by_cases hj2 : j = t.length + 1
    · rw [if_pos hj2]
      simp [revD, hj2]
    · rw [if_neg hj2, ho j (by omega)]
      have : ¬ j = (a :: t).length := by rw [List.length_cons]; exact hj2
      conv => rhs; unfold revD
      rw [if_neg this]
  · rw [List.length_cons] at hj
    simp [upd, show j ≠ t.length + 1 by omega]
theorem insOk_go {gt : Nat → Nat → Bool} {a y : Nat} {t : List Nat} {o o' : Nat → Int32} (h : gt a y = true) (hk : insOk gt t y (upd o (t.length + 1) (nI a)) o') : insOk gt (a :: t) y o o' := by
  refine ⟨fun j hj => ?_, fun j hj => ?_⟩
  · rw [List.length_cons] at hj
    simp only [insR, h, if_true]
    unfold revD
    rw [insR_len]
    by_cases hj2 : j = t.length + 1
    · rw [if_pos hj2, hk.2 j (by omega)]
      simp [upd, hj2]
    · rw [if_neg hj2]
      exact hk.1 j (by omega)
  · rw [List.length_cons] at hj
    rw [hk.2 j (by omega)]
    simp [upd, show j ≠ t.length + 1 by omega]
theorem insOk_ord {gt : Nat → Nat → Bool} {R : List Nat} {y : Nat} {o o' : Nat → Int32} (hk : insOk gt R y (ordA R o) o') : o' = ordA (insR gt R y) o := by
  funext j
  simp only [ordA, insR_len]
  by_cases h : j < R.length + 1
  · rw [if_pos h]
    exact hk.1 j h
  · rw [if_neg h, hk.2 j (by omega)]
    simp [ordA, show ¬ j < R.length by omega]
theorem ordA_at {R : List Nat} {o : Nat → Int32} {j : Nat} (h : j < R.length) : ordA R o j = nI (revD R j) := by
  simp [ordA, h]
theorem ordA_nil (o : Nat → Int32) : ordA [] o = o := by
  funext j
  simp [ordA]
end Pc0
section Pd0
variable {ε : EE} {J : JT} {pc : Nat} {ls : List (Option V0)} {st : List V0} {G : GG} {r t o x : Nat → Int32} {Q : Option Int32 → GG → Prop}
theorem lastB_c (p : Nat → Bool) : ∀ n, lastB p n = -9 ∨ ∃ k, k < n ∧ lastB p n = nI k ∧ p k = true
  | 0 => Or.inl rfl
  | n + 1 => by
    unfold lastB
    split
    · rename_i h
      exact Or.inr ⟨n, by omega, rfl, h⟩
    · rcases lastB_c p n with h | ⟨k, h1, h2, h3⟩
      · exact Or.inl h
      · exact Or.inr ⟨k, by omega, h2, h3⟩
theorem nI_n9 {k : Nat} (h : k < 2 ^ 31) : ¬ nI k = -9 := by
  intro z
  have h1 := nI_toInt h
  rw [z] at h1
  have h2 : (-9 : Int32).toInt = -9 := by decide
  omega
end Pd0
section Pe0
variable {ε : EE} {J : JT} {pc : Nat} {ls : List (Option V0)} {st : List V0} {G : GG} {r t o x : Nat → Int32} {Q : Option Int32 → GG → Prop}
theorem firstFrom_c (p : Nat → Bool) : ∀ k w, firstFrom p k w = -9 ∨ ∃ j, w ≤ j ∧ j < w + k ∧ firstFrom p k w = nI j ∧ p j = true
  | 0, w => Or.inl rfl
  | k + 1, w => by
    unfold firstFrom
    split
    · rename_i h
      exact Or.inr ⟨w, by omega, by omega, rfl, h⟩
    · rcases firstFrom_c p k (w + 1) with h | ⟨j, h1, h2, h3, h4⟩
      · exact Or.inl h
      · exact Or.inr ⟨j, by omega, by omega, h3, h4⟩
end Pe0
section Pf0
variable {ε : EE} {J : JT} {pc : Nat} {ls : List (Option V0)} {st : List V0} {G : GG} {t f u w x : Nat → Int32} {Q : Option Int32 → GG → Prop}
theorem e_post {mc ms cells slots : Nat} {ws : va_W} {Q Q' : Option Int32 → va_W → Prop} (h : ∀ v ws, Q v ws → Q' v ws) (k : E ε J mc ms cells slots pc ls st ws Q) : E ε J mc ms cells slots pc ls st ws Q' := by
  intro hT p e R s m args below meth c H locs lsA C hP hD hS hl T hTH X
  obtain ⟨t, a1, o, b1, b2, b3, b4⟩ := k hT p e R s m args below meth c H locs lsA C hP hD hS hl T hTH X
  refine ⟨t, a1, o, b1, b2, ?_, b4⟩
  cases hj : jr J with
  | none =>
    rw [e_Qc_none hj] at b3 ⊢
    obtain ⟨⟨u, c1, c2, c3⟩, c4⟩ := b3
    exact ⟨⟨u, c1, h _ _ c2, c3⟩, c4⟩
  | some ty =>
    rw [e_Qc_some hj] at b3 ⊢
    obtain ⟨⟨r, u, c1, c2, c3⟩, c4⟩ := b3
    exact ⟨⟨r, u, c1, h _ _ c2, c3⟩, c4⟩
theorem e2_post {Q Q' : Option Int32 → GG → Prop} (h : ∀ v G, Q v G → Q' v G) (k : E2 ε J pc ls st G Q) : E2 ε J pc ls st G Q' := e_post (fun v ws z => by
  obtain ⟨G', e, q⟩ := z
  exact ⟨G', e, h v G' q⟩) k
theorem C2.post {As : List V0} {Q Q' : Option Int32 → GG → Prop} (h : ∀ v G, Q v G → Q' v G) (k : C2 ε J As G Q) : C2 ε J As G Q' := by
  unfold C2 e_Ct Met at k ⊢
  refine MetFree.mono k (fun _ _ z => z) (fun _ _ _ _ _ z => z) (fun a s o s' _ z => ⟨?_, z.2⟩)
  have b3 := z.1
  cases hj : jr J with
  | none =>
    rw [e_Qc_none hj] at b3 ⊢
    obtain ⟨⟨u, c1, ⟨G', e, q⟩, c3⟩, c4⟩ := b3
    exact ⟨⟨u, c1, ⟨G', e, h _ _ q⟩, c3⟩, c4⟩
  | some ty =>
    rw [e_Qc_some hj] at b3 ⊢
    obtain ⟨⟨r, u, c1, ⟨G', e, q⟩, c3⟩, c4⟩ := b3
    exact ⟨⟨r, u, c1, ⟨G', e, h _ _ q⟩, c3⟩, c4⟩
end Pf0
