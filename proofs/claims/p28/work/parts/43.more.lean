/-! Looks by offices; ranges of numbers. -/
section Qe0
variable {ε : EE} {J J1 J2 : JT} {pc : Nat} {ls : List (Option V0)} {st : List V0} {As : List V0} {G G' : GG} {r r' t x : Nat → Int32} {K K' : Nat} {Q : Option Int32 → GG → Prop}
/-- all but the line and the trial office is as it was -/
def lk1 (G G1 : GG) : Prop := ∀ i kk, ¬ (i = 18 ∧ kk < 18) → kk ≠ 40 → kk ≠ 41 → G1 i kk = G i kk
theorem fc_self {i : Nat} {v : Option Int32} {V' : VV} {s' : Int32} {o' : Nat → Int32} (h : FC ε J As G i (G i) (G 0 40 1) (G 0 41) v V' s' o') : F2 ε J As G v (cG G i V' s' o') := by
  unfold FC at h
  rw [cG_self] at h
  exact h
theorem fc_same {i : Nat} {v : Option Int32} (h : FC ε J As G i (G i) (G 0 40 1) (G 0 41) v (G i) (G 0 40 1) (G 0 41)) : F2 ε J As G v G := by
  unfold FC at h
  rw [cG_self] at h
  exact h
theorem isIn_out {n : Int32} {a b : Nat} (ha : a < 2 ^ 31) (hb : b < 2 ^ 31) (h : ¬ isInB n (nI a) (nI b) = true) : n.toInt < a ∨ (b : Int) < n.toInt := by
  rcases Int.lt_or_le n.toInt a with h1 | h1
  · exact Or.inl h1
  · rcases Int.lt_or_le (b : Int) n.toInt with h2 | h2
    · exact Or.inr h2
    · exfalso
      apply h
      unfold isInB
      rw [decide_eq_true (Int32.le_iff_toInt_le.2 (by rw [nI_toInt ha]; exact h1)), decide_eq_true (Int32.le_iff_toInt_le.2 (by rw [nI_toInt hb]; exact h2))]
      rfl
theorem isIn_nI' {k b : Nat} (h : k ≤ b) (hb : b < 2 ^ 31) : isInB (nI k) (nI 0) (nI b) = true := by
  unfold isInB
  rw [decide_eq_true (nI_le (by omega) (by omega)), decide_eq_true (nI_le h hb)]
  rfl
theorem sumI_cnt {f : Nat → Int32} {p : Nat → Bool} : ∀ n, (∀ l, l < n → f l = if p l then nI 1 else nI 0) → sumI f n = nI (cntB p n)
  | 0, _ => rfl
  | n + 1, h => by
    unfold sumI cntB
    rw [sumI_cnt n (fun l hl => h l (by omega)), h n (by omega)]
    by_cases hp : p n = true
    · rw [if_pos hp, if_pos hp, nI_add']
    · rw [if_neg hp, if_neg hp, nI_add']
end Qe0
section Qf0
variable {ε : EE} {J J1 J2 : JT} {pc : Nat} {ls : List (Option V0)} {st : List V0} {As : List V0} {G G' : GG} {r r' t x o : Nat → Int32} {K K' : Nat} {Q : Option Int32 → GG → Prop}
theorem fstC_congr {f g : Nat → Int32} {w : Int32} : ∀ n, (∀ j, j < n → f j = g j) → fstC f w n = fstC g w n
  | 0, _ => rfl
  | n + 1, h => by
    unfold fstC
    rw [fstC_congr n (fun j hj => h j (by omega)), h n (by omega)]
theorem lstC_congr {f g : Nat → Int32} {w : Int32} : ∀ k c, (∀ j, j ≤ c + k → f j = g j) → lstC f w k c = lstC g w k c
  | 0, c, _ => rfl
  | k + 1, c, h => by
    unfold lstC
    rw [lstC_congr k (c + 1) (fun j hj => h j (by omega)), h (c + 1) (by omega)]
theorem fstC_le {f : Nat → Int32} {w : Int32} : ∀ n, fstC f w n ≤ n
  | 0 => Nat.le_refl _
  | n + 1 => by
    unfold fstC
    split
    · have := fstC_le (f := f) (w := w) n
      omega
    · exact Nat.le_refl _
end Qf0
section Qg0
variable {ε : EE} {J J1 J2 : JT} {pc : Nat} {ls : List (Option V0)} {st : List V0} {As : List V0} {G G' : GG} {r r' t x o : Nat → Int32} {K K' : Nat} {Q : Option Int32 → GG → Prop}
theorem isIn_lt {n : Int32} {N : Nat} (hN : N ≤ 120) (h : isInB n (nI 0) (nI N - nI 1) = true) : ∃ l, l < N ∧ n = nI l := by
  cases N with
  | zero =>
    exfalso
    simp only [isInB, Bool.and_eq_true, decide_eq_true_eq] at h
    have h1 := Int32.le_iff_toInt_le.1 (Int32.le_trans h.1 h.2)
    exact absurd h1 (by decide)
  | succ N =>
    rw [pk_sub (by omega), Nat.add_sub_cancel] at h
    obtain ⟨k, hk, e⟩ := isIn_nI (by omega) h
    exact ⟨k, by omega, e⟩
end Qg0
section Qh0
variable {ε : EE} {J J1 J2 : JT} {pc : Nat} {ls : List (Option V0)} {st : List V0} {As : List V0} {G G' G1 : GG} {i : Nat} {V : VV} {s : Int32} {r r' r1 r2 t x x2 o : Nat → Int32} {K K' : Nat} {Q : Option Int32 → GG → Prop}
theorem isIn_ab {n : Int32} {a b : Nat} (ha : a < 2 ^ 31) (hb : b < 2 ^ 31) (h : isInB n (nI a) (nI b) = true) : ∃ k, a ≤ k ∧ k ≤ b ∧ n = nI k := by
  simp only [isInB, Bool.and_eq_true, decide_eq_true_eq] at h
  have h1 := Int32.le_iff_toInt_le.1 h.1
  have h2 := Int32.le_iff_toInt_le.1 h.2
  rw [nI_toInt ha] at h1
  rw [nI_toInt hb] at h2
  refine ⟨n.toInt.toNat, by omega, by omega, Int32.toInt_inj.1 ?_⟩
  rw [nI_toInt (by omega)]
  omega
end Qh0
section Qi0
variable {ε : EE} {J J1 J2 : JT} {pc : Nat} {ls : List (Option V0)} {st : List V0} {As : List V0} {G G' G1 : GG} {i N : Nat} {V V' : VV} {s : Int32} {r r' r1 r2 t x x2 o : Nat → Int32} {K K' : Nat} {Q : Option Int32 → GG → Prop}
def addVs (V : VV) (N : Nat) (c f h : Int32) : Nat → VV
  | 0 => V
  | k + 1 => addV (addVs V N c f h k) (N + k) c f h
theorem addVs_0 {c f h : Int32} : ∀ k, addVs V N c f h k 0 = V 0
  | 0 => rfl
  | k + 1 => by
    show addV (addVs V N c f h k) (N + k) c f h 0 = V 0
    rw [← addVs_0 (c := c) (f := f) (h := h) k]
    rfl
end Qi0
section Qj0
variable {ε : EE} {J J1 J2 : JT} {pc : Nat} {ls : List (Option V0)} {st : List V0} {As : List V0} {G G' G1 : GG} {i N : Nat} {V V' : VV} {s : Int32} {r r' r1 r2 t x x2 o : Nat → Int32} {K K' : Nat} {Q : Option Int32 → GG → Prop}
/-- the office when walk w, which has carrier p, gets carrier c -/
def asP (V : VV) (p : Option Nat) : VV := match p with
  | none => V
  | some a => wv V 13 a (-9)
def asV (V : VV) (w : Nat) (p c : Option Nat) : VV := match c with
  | none => asP V p
  | some a => wv (asP V p) 13 a (nI w)
theorem asV_o {w : Nat} {p c : Option Nat} {kk : Nat} (h : kk ≠ 13) : asV V w p c kk = V kk := by
  have e : asP V p kk = V kk := by
    cases p with
    | none => rfl
    | some a => show wv V 13 a (-9) kk = _; unfold wv sv; rw [if_neg h]
  cases c with
  | none => exact e
  | some b => show wv (asP V p) 13 b (nI w) kk = _; unfold wv sv; rw [if_neg h]; exact e
theorem asP_13 {p : Option Nat} {a : Nat} : asP V p 13 a = if p = some a then -9 else V 13 a := by
  cases p with
  | none => rfl
  | some b =>
    show upd (V 13) b (-9) a = _
    unfold upd
    by_cases h : a = b
    · subst h
      rw [if_pos rfl, if_pos rfl]
    · rw [if_neg h, if_neg (fun z => h (Option.some.inj z).symm)]
theorem asV_13 {w : Nat} {p c : Option Nat} {a : Nat} : asV V w p c 13 a = if c = some a then nI w else if p = some a then -9 else V 13 a := by
  cases c with
  | none => exact asP_13
  | some b =>
    show upd (asP V p 13) b (nI w) a = _
    unfold upd
    by_cases h : a = b
    · subst h
      rw [if_pos rfl, if_pos rfl]
    · rw [if_neg h, if_neg (fun z => h (Option.some.inj z).symm)]
      exact asP_13
theorem oI_some {c : Option Nat} {a : Nat} (ha : a < 1000) (hc : ∀ b, c = some b → b < 6) : oI c = nI a ↔ c = some a := by
  cases c with
  | none => exact ⟨fun z => absurd (show (-9 : Int32) = nI a from z).symm (nI_n9 (by omega)), fun z => by cases z⟩
  | some b =>
    have := hc b rfl
    exact ⟨fun z => by rw [(nI_eq (by omega) (by omega)).1 (show nI b = nI a from z)], fun z => by cases z; rfl⟩
def cI : Option Nat → Int32
  | none => -1
  | some b => nI b
theorem isIn_m1 {c : Int32} : isInB c (-1) (nI 5) = true ↔ c = -1 ∨ isInB c (nI 0) (nI 5) = true := by
  have e0 : (nI 0).toInt = 0 := by decide
  have e5 : (nI 5).toInt = 5 := by decide
  have e1 : (-1 : Int32).toInt = -1 := by decide
  simp only [isInB, Bool.and_eq_true, decide_eq_true_eq, Int32.le_iff_toInt_le, e0, e5, e1]
  constructor
  · intro h
    by_cases hz : c.toInt = -1
    · exact Or.inl (Int32.toInt_inj.1 (by rw [hz, e1]))
    · exact Or.inr ⟨by omega, h.2⟩
  · rintro (h | h)
    · rw [h, e1]
      omega
    · omega
end Qj0
