/-! The reference's counts and small loops. -/
section MI
variable {ε : EE} {J : JT} {pc : Nat} {ls : List (Option V0)} {st : List V0} {G : GG} {r t o x : Nat → Int32} {Q : Option Int32 → GG → Prop}
/-- a counted loop whose state is a function of the count -/
theorem e2_for {st : List V0} (N : Nat) (L : Nat → List (Option V0)) (S : Nat → GG) (hs : ∀ i, i < N → E2 ε J pc (L (i + 1)) st (S (i + 1)) Q → E2 ε J pc (L i) st (S i) Q) (he : ∀ M, M = N → E2 ε J pc (L M) st (S M) Q) : E2 ε J pc (L 0) st (S 0) Q := by
  have h : ∀ k i, i + k = N → E2 ε J pc (L i) st (S i) Q := by
    intro k
    induction k with
    | zero =>
      intro i hi
      exact he i (by omega)
    | succ k ih =>
      intro i hi
      exact hs i (by omega) (ih (i + 1) (by omega))
  exact h N 0 (by omega)
/-- fewer known locals -/
def e_sub : List (Option V0) → List (Option V0) → Prop
  | [], [] => True
  | none :: a, _ :: b => e_sub a b
  | some v :: a, some w :: b => v = w ∧ e_sub a b
  | _, _ => False
theorem e_sub_at : ∀ (a b : List (Option V0)), e_sub a b → ∀ (k : Nat) (v : V0), a[k]? = some (some v) → b[k]? = some (some v)
  | [], [], _, k, v, h => by simp at h
  | none :: a, w :: b, hs, k, v, h => by
    cases k with
    | zero => simp at h
    | succ k => simpa using e_sub_at a b hs k v (by simpa using h)
  | some u :: a, some w :: b, hs, k, v, h => by
    cases k with
    | zero =>
      simp at h ⊢
      exact hs.1 ▸ h
    | succ k => simpa using e_sub_at a b hs.2 k v (by simpa using h)
theorem e2_drop {ls' : List (Option V0)} (h : e_sub ls' ls) (k : E2 ε J pc ls' st G Q) : E2 ε J pc ls st G Q := by
  intro hT p e R s m args below meth c H locs lsA C hP hD hS hl
  refine k hT p e R s m args below meth c H locs lsA C hP hD hS ⟨hl.1, hl.2.1, fun q hq => ?_⟩
  obtain ⟨j, v, h1, h2, h3⟩ := (e_ll_mem ε ls' 0 q).1 hq
  exact hl.2.2 q ((e_ll_mem ε ls 0 q).2 ⟨j, v, h1, e_sub_at _ _ h j v h2, h3⟩)
theorem e2_dropK {ls' : List (Option V0)} (k : E2 ε J pc ls' st G Q) (h : e_sub ls' ls) : E2 ε J pc ls st G Q := e2_drop h k
def sumI (f : Nat → Int32) : Nat → Int32
  | 0 => nI 0
  | n + 1 => sumI f n + f n
def lastB (p : Nat → Bool) : Nat → Int32
  | 0 => -9
  | n + 1 => if p n then nI n else lastB p n
def bestF (f : Nat → Int32) : Nat → Int32 × Int32
  | 0 => (-9, nI 0)
  | n + 1 => if (bestF f n).2 < f n then (nI n, f n) else bestF f n
def firstFrom (p : Nat → Bool) : Nat → Nat → Int32
  | 0, _ => -9
  | k + 1, w => if p w then nI w else firstFrom p k (w + 1)
def cpyr (r : Nat → Int32) (a b n : Nat) : Nat → Int32 := fun j => if b ≤ j ∧ j < b + n then r (a + (j - b)) else r j
def rngr (r : Nat → Int32) (a b : Nat) (w : Int32) : Nat → Int32 := fun j => if a ≤ j ∧ j < b then w else r j
def freer (r : Nat → Int32) (N w : Nat) : Int32 := if r (941 + w) - nI (cntB (atr r (nI 1) (nI w)) N) ≤ 0 then nI 0 else r (941 + w) - nI (cntB (atr r (nI 1) (nI w)) N)
def secB (r : Nat → Int32) (w : Nat) (l : Nat) : Bool := atr r (nI 1) (nI w) l && decide (ofr r l 1 = 0)
def walkByr (r : Nat → Int32) (c : Int32) : Int32 := firstFrom (fun w => decide (r (955 + w) = c)) 8 0
theorem m_countAt {N : Nat} (hN : r 100 = nI N) (hN2 : N ≤ 120) (p w : Int32) : FM ε jX9_countAt [.inl p, .inl w] G r t o x (some (nI (cntB (atr r p w) N))) r t o x := by
  refine C2.of (ls := [some (.inr (0, 50)), some (.inl p), some (.inl w), none, none]) okX9_countAt rfl rfl ?_
  repeat (first | refine e2_stepS 5 rfl rfl rfl ?_ | refine e2m_getS 5 rfl rfl rfl ?_ | refine e2m_ldS 5 rfl _ rfl rfl (by omega) ?_)
  refine e2_for N (fun l => [some (.inr (0, 50)), some (.inl p), some (.inl w), some (.inl (nI (cntB (atr r p w) l))), some (.inl (nI l))]) (fun _ => mG G r t o x) (fun l hl K => ?_) (fun M hM => ?_)
  · repeat (first | refine e2_step rfl rfl ?_ | refine e2m_get rfl rfl ?_ | refine e2m_ld _ rfl rfl (by omega) ?_)
    refine e2_if rfl rfl (fun c => absurd (hN ▸ c) (nI_ge hl (by omega))) (fun _ => ?_)
    repeat (first | refine e2_step rfl rfl ?_ | refine e2m_get rfl rfl ?_ | refine e2m_ld _ rfl rfl (by omega) ?_)
    refine e2_fi (m_isAt (l := l) (by omega) p w) rfl rfl ⟨rfl, rfl, rfl⟩ rfl rfl rfl (by first | exact hi | decide) rfl rfl rfl ?_
    repeat (first | refine e2_step rfl rfl ?_ | refine e2m_get rfl rfl ?_ | refine e2m_ld _ rfl rfl (by omega) ?_)
    simp only [cntB] at K
    refine e2_if rfl rfl (fun c => ?_) (fun c => ?_)
    · rw [bI_0] at c
      rw [c] at K
      repeat (first | refine e2_stepS 5 rfl rfl rfl ?_ | refine e2m_getS 5 rfl rfl rfl ?_ | refine e2m_ldS 5 rfl _ rfl rfl (by omega) ?_)
      rw [nI_add', nI_add']
      exact K
    · rw [bI_0, Bool.not_eq_false] at c
      rw [c] at K
      repeat (first | refine e2_stepS 5 rfl rfl rfl ?_ | refine e2m_getS 5 rfl rfl rfl ?_ | refine e2m_ldS 5 rfl _ rfl rfl (by omega) ?_)
      rw [nI_add', nI_add']
      exact K
  · repeat (first | refine e2_step rfl rfl ?_ | refine e2m_get rfl rfl ?_ | refine e2m_ld _ rfl rfl (by omega) ?_)
    refine e2_if rfl rfl (fun c => ?_) (fun c => absurd (by rw [hN, hM]; exact Int32.le_refl _) c)
    repeat (first | refine e2_step rfl rfl ?_ | refine e2m_get rfl rfl ?_ | refine e2m_ld _ rfl rfl (by omega) ?_)
    exact e2_iret rfl rfl ⟨by rw [hM], rfl⟩
theorem m_countIn {N : Nat} (hN : r 100 = nI N) (hN2 : N ≤ 120) (p : Int32) : FM ε jX9_countIn [.inl p] G r t o x (some (nI (cntB (fun l => decide (ofr r l 3 = p)) N))) r t o x := by
  refine C2.of (ls := [some (.inr (0, 50)), some (.inl p), none, none]) okX9_countIn rfl rfl ?_
  repeat (first | refine e2_stepS 4 rfl rfl rfl ?_ | refine e2m_getS 4 rfl rfl rfl ?_ | refine e2m_ldS 4 rfl _ rfl rfl (by omega) ?_)
  refine e2_for N (fun l => [some (.inr (0, 50)), some (.inl p), some (.inl (nI (cntB (fun l => decide (ofr r l 3 = p)) l))), some (.inl (nI l))]) (fun _ => mG G r t o x) (fun l hl K => ?_) (fun M hM => ?_)
  · repeat (first | refine e2_step rfl rfl ?_ | refine e2m_get rfl rfl ?_ | refine e2m_ld _ rfl rfl (by omega) ?_)
    refine e2_if rfl rfl (fun c => absurd (hN ▸ c) (nI_ge hl (by omega))) (fun _ => ?_)
    repeat (first | refine e2_step rfl rfl ?_ | refine e2m_get rfl rfl ?_ | refine e2m_ld _ rfl rfl (by omega) ?_)
    refine e2_fi (m_of (l := l) (k := 3) (by omega) (by decide)) rfl rfl ⟨rfl, rfl, rfl⟩ rfl rfl rfl (by first | exact hi | decide) rfl rfl rfl ?_
    repeat (first | refine e2_step rfl rfl ?_ | refine e2m_get rfl rfl ?_ | refine e2m_ld _ rfl rfl (by omega) ?_)
    simp only [cntB] at K
    refine e2_if rfl rfl (fun c => ?_) (fun c => ?_)
    · simp only [c, decide_false, Bool.false_eq_true, if_false] at K
      repeat (first | refine e2_stepS 4 rfl rfl rfl ?_ | refine e2m_getS 4 rfl rfl rfl ?_ | refine e2m_ldS 4 rfl _ rfl rfl (by omega) ?_)
      rw [nI_add', nI_add']
      exact K
    · simp only [Classical.not_not.1 c, decide_true, if_true] at K
      repeat (first | refine e2_stepS 4 rfl rfl rfl ?_ | refine e2m_getS 4 rfl rfl rfl ?_ | refine e2m_ldS 4 rfl _ rfl rfl (by omega) ?_)
      rw [nI_add', nI_add']
      exact K
  · repeat (first | refine e2_step rfl rfl ?_ | refine e2m_get rfl rfl ?_ | refine e2m_ld _ rfl rfl (by omega) ?_)
    refine e2_if rfl rfl (fun c => ?_) (fun c => absurd (by rw [hN, hM]; exact Int32.le_refl _) c)
    repeat (first | refine e2_step rfl rfl ?_ | refine e2m_get rfl rfl ?_ | refine e2m_ld _ rfl rfl (by omega) ?_)
    exact e2_iret rfl rfl ⟨by rw [hM], rfl⟩
theorem m_free {N w : Nat} (hN : r 100 = nI N) (hN2 : N ≤ 120) (hw : w < 8) : FM ε jX9_free [.inl (nI w)] G r t o x (some (freer r N w)) r t o x := by
  refine C2.of (ls := [some (.inr (0, 50)), some (.inl (nI w)), none]) okX9_free rfl rfl ?_
  repeat (first | refine e2_step rfl rfl ?_ | refine e2m_get rfl rfl ?_ | refine e2m_ld _ rfl rfl (by omega) ?_)
  rw [nI_add']
  repeat (first | refine e2_step rfl rfl ?_ | refine e2m_get rfl rfl ?_ | refine e2m_ld _ rfl rfl (by omega) ?_)
  refine e2_fi (m_countAt hN hN2 (nI 1) (nI w)) rfl rfl ⟨rfl, rfl, rfl⟩ rfl rfl rfl (by first | exact hi | decide) rfl rfl rfl ?_
  repeat (first | refine e2_step rfl rfl ?_ | refine e2m_get rfl rfl ?_ | refine e2m_ld _ rfl rfl (by omega) ?_)
  refine e2_if rfl rfl (fun c => ?_) (fun c => ?_)
  · repeat (first | refine e2_step rfl rfl ?_ | refine e2m_get rfl rfl ?_ | refine e2m_ld _ rfl rfl (by omega) ?_)
    refine e2_iret rfl rfl ⟨?_, rfl⟩
    unfold freer
    rw [if_pos c]
  · repeat (first | refine e2_step rfl rfl ?_ | refine e2m_get rfl rfl ?_ | refine e2m_ld _ rfl rfl (by omega) ?_)
    refine e2_iret rfl rfl ⟨?_, rfl⟩
    unfold freer
    rw [if_neg c]
theorem m_rank {l : Nat} (hl : l < 120) : FM ε jX9_rank [.inl (nI l)] G r t o x (some (nI 10 * ofr r l 1 + ofr r l 2)) r t o x := by
  refine C2.of (ls := [some (.inr (0, 50)), some (.inl (nI l))]) okX9_rank rfl rfl ?_
  repeat (first | refine e2_step rfl rfl ?_ | refine e2m_get rfl rfl ?_ | refine e2m_ld _ rfl rfl (by omega) ?_)
  refine e2_fi (m_of hl (k := 1) (by decide)) rfl rfl ⟨rfl, rfl, rfl⟩ rfl rfl rfl (by first | exact hi | decide) rfl rfl rfl ?_
  repeat (first | refine e2_step rfl rfl ?_ | refine e2m_get rfl rfl ?_ | refine e2m_ld _ rfl rfl (by omega) ?_)
  refine e2_fi (m_of hl (k := 2) (by decide)) rfl rfl ⟨rfl, rfl, rfl⟩ rfl rfl rfl (by first | exact hi | decide) rfl rfl rfl ?_
  repeat (first | refine e2_step rfl rfl ?_ | refine e2m_get rfl rfl ?_ | refine e2m_ld _ rfl rfl (by omega) ?_)
  exact e2_iret rfl rfl ⟨rfl, rfl⟩
theorem m_lastSecond {N w : Nat} (hN : r 100 = nI N) (hN2 : N ≤ 120) : FM ε jX9_lastSecond [.inl (nI w)] G r t o x (some (lastB (secB r w) N)) r t o x := by
  refine C2.of (ls := [some (.inr (0, 50)), some (.inl (nI w)), none, none]) okX9_lastSecond rfl rfl ?_
  repeat (first | refine e2_stepS 5 rfl rfl rfl ?_ | refine e2m_getS 5 rfl rfl rfl ?_ | refine e2m_ldS 5 rfl _ rfl rfl (by omega) ?_)
  refine e2_for N (fun l => [some (.inr (0, 50)), some (.inl (nI w)), some (.inl (lastB (secB r w) l)), some (.inl (nI l))]) (fun _ => mG G r t o x) (fun l hl K => ?_) (fun M hM => ?_)
  · repeat (first | refine e2_step rfl rfl ?_ | refine e2m_get rfl rfl ?_ | refine e2m_ld _ rfl rfl (by omega) ?_)
    refine e2_if rfl rfl (fun c => absurd (hN ▸ c) (nI_ge hl (by omega))) (fun _ => ?_)
    repeat (first | refine e2_step rfl rfl ?_ | refine e2m_get rfl rfl ?_ | refine e2m_ld _ rfl rfl (by omega) ?_)
    refine e2_fi (m_isAt (l := l) (by omega) (nI 1) (nI w)) rfl rfl ⟨rfl, rfl, rfl⟩ rfl rfl rfl (by first | exact hi | decide) rfl rfl rfl ?_
    repeat (first | refine e2_step rfl rfl ?_ | refine e2m_get rfl rfl ?_ | refine e2m_ld _ rfl rfl (by omega) ?_)
    simp only [lastB, secB] at K
    refine e2_if rfl rfl (fun c => ?_) (fun c => ?_)
    · rw [bI_0] at c
      simp only [c, Bool.false_and, Bool.false_eq_true, if_false] at K
      repeat (first | refine e2_stepS 5 rfl rfl rfl ?_ | refine e2m_getS 5 rfl rfl rfl ?_ | refine e2m_ldS 5 rfl _ rfl rfl (by omega) ?_)
      rw [nI_add']
      exact K
    · rw [bI_0, Bool.not_eq_false] at c
      repeat (first | refine e2_step rfl rfl ?_ | refine e2m_get rfl rfl ?_ | refine e2m_ld _ rfl rfl (by omega) ?_)
      refine e2_fi (m_of (l := l) (k := 1) (by omega) (by decide)) rfl rfl ⟨rfl, rfl, rfl⟩ rfl rfl rfl (by first | exact hi | decide) rfl rfl rfl ?_
      repeat (first | refine e2_step rfl rfl ?_ | refine e2m_get rfl rfl ?_ | refine e2m_ld _ rfl rfl (by omega) ?_)
      refine e2_if rfl rfl (fun c2 => ?_) (fun c2 => ?_)
      · simp only [c, c2, decide_false, Bool.and_false, Bool.false_eq_true, if_false] at K
        repeat (first | refine e2_stepS 5 rfl rfl rfl ?_ | refine e2m_getS 5 rfl rfl rfl ?_ | refine e2m_ldS 5 rfl _ rfl rfl (by omega) ?_)
        rw [nI_add']
        exact K
      · simp only [c, Classical.not_not.1 c2, decide_true, Bool.and_true, if_true] at K
        repeat (first | refine e2_stepS 5 rfl rfl rfl ?_ | refine e2m_getS 5 rfl rfl rfl ?_ | refine e2m_ldS 5 rfl _ rfl rfl (by omega) ?_)
        rw [nI_add']
        exact K
  · repeat (first | refine e2_step rfl rfl ?_ | refine e2m_get rfl rfl ?_ | refine e2m_ld _ rfl rfl (by omega) ?_)
    refine e2_if rfl rfl (fun c => ?_) (fun c => absurd (by rw [hN, hM]; exact Int32.le_refl _) c)
    repeat (first | refine e2_step rfl rfl ?_ | refine e2m_get rfl rfl ?_ | refine e2m_ld _ rfl rfl (by omega) ?_)
    exact e2_iret rfl rfl ⟨by rw [hM], rfl⟩
theorem m_freest {N : Nat} (hN : r 100 = nI N) (hN2 : N ≤ 120) : FM ε jX9_freest [] G r t o x (some (bestF (freer r N) 8).1) r t o x := by
  obtain ⟨n8, h8⟩ : ∃ n, n = 8 := ⟨_, rfl⟩
  rw [← h8]
  refine C2.of (ls := [some (.inr (0, 50)), none, none, none, none]) okX9_freest rfl rfl ?_
  repeat (first | refine e2_stepS 7 rfl rfl rfl ?_ | refine e2m_getS 7 rfl rfl rfl ?_ | refine e2m_ldS 7 rfl _ rfl rfl (by omega) ?_)
  refine e2_drop (ls' := [some (.inr (0, 50)), some (.inl (-9)), some (.inl (nI 0)), some (.inl (nI 0)), none]) ⟨rfl, rfl, rfl, rfl, trivial⟩ ?_
  refine e2_for n8 (fun w => [some (.inr (0, 50)), some (.inl (bestF (freer r N) w).1), some (.inl (bestF (freer r N) w).2), some (.inl (nI w)), none]) (fun _ => mG G r t o x) (fun w hw K => ?_) (fun M hM => ?_)
  · repeat (first | refine e2_step rfl rfl ?_ | refine e2m_get rfl rfl ?_ | refine e2m_ld _ rfl rfl (by omega) ?_)
    refine e2_if rfl rfl (fun c => absurd c (nI_ge (by omega) (by omega))) (fun _ => ?_)
    repeat (first | refine e2_step rfl rfl ?_ | refine e2m_get rfl rfl ?_ | refine e2m_ld _ rfl rfl (by omega) ?_)
    refine e2_fi (m_free (w := w) hN hN2 (by omega)) rfl rfl ⟨rfl, rfl, rfl⟩ rfl rfl rfl (by first | exact hi | decide) rfl rfl rfl ?_
    repeat (first | refine e2_step rfl rfl ?_ | refine e2m_get rfl rfl ?_ | refine e2m_ld _ rfl rfl (by omega) ?_)
    simp only [bestF] at K
    refine e2_if rfl rfl (fun c => ?_) (fun c => ?_)
    · rw [if_neg (Int32.not_lt.2 c)] at K
      repeat (first | refine e2_step rfl rfl ?_ | refine e2m_get rfl rfl ?_ | refine e2m_ld _ rfl rfl (by omega) ?_)
      refine e2_if rfl rfl (fun c2 => ?_) (fun c2 => absurd c c2)
      repeat (first | refine e2_stepS 7 rfl rfl rfl ?_ | refine e2m_getS 7 rfl rfl rfl ?_ | refine e2m_ldS 7 rfl _ rfl rfl (by omega) ?_)
      rw [nI_add']
      exact e2_dropK K ⟨rfl, rfl, rfl, rfl, trivial⟩
    · rw [if_pos (Int32.not_le.1 c)] at K
      repeat (first | refine e2_step rfl rfl ?_ | refine e2m_get rfl rfl ?_ | refine e2m_ld _ rfl rfl (by omega) ?_)
      refine e2_if rfl rfl (fun c2 => absurd c2 c) (fun c2 => ?_)
      repeat (first | refine e2_stepS 7 rfl rfl rfl ?_ | refine e2m_getS 7 rfl rfl rfl ?_ | refine e2m_ldS 7 rfl _ rfl rfl (by omega) ?_)
      rw [nI_add']
      exact e2_dropK K ⟨rfl, rfl, rfl, rfl, trivial⟩
  · repeat (first | refine e2_step rfl rfl ?_ | refine e2m_get rfl rfl ?_ | refine e2m_ld _ rfl rfl (by omega) ?_)
    refine e2_if rfl rfl (fun c => ?_) (fun c => absurd (by rw [hM, h8]; exact Int32.le_refl _) c)
    repeat (first | refine e2_step rfl rfl ?_ | refine e2m_get rfl rfl ?_ | refine e2m_ld _ rfl rfl (by omega) ?_)
    exact e2_iret rfl rfl ⟨by rw [hM], rfl⟩
theorem cpyr_0 (r : Nat → Int32) (a b : Nat) : cpyr r a b 0 = r := by
  funext j
  simp only [cpyr]
  rw [if_neg (by omega)]
theorem cpyr_s (r : Nat → Int32) (a b n : Nat) : cpyr r a b (n + 1) = upd (cpyr r a b n) (b + n) (r (a + n)) := by
  funext j
  simp only [cpyr, upd]
  by_cases h : j = b + n
  · rw [if_pos (by omega), if_pos h, show a + (j - b) = a + n by omega]
  · rw [if_neg h]
    by_cases h2 : b ≤ j ∧ j < b + n
    · rw [if_pos (by omega), if_pos h2]
    · rw [if_neg (by omega), if_neg h2]
theorem m_copies {a b n : Nat} (ha : a + n ≤ 21497) (hb : b + n ≤ 21497) (hd : a + n ≤ b ∨ b + n ≤ a) : FM ε jX9_copies [.inl (nI a), .inl (nI b), .inl (nI n)] G r t o x none (cpyr r a b n) t o x := by
  refine C2.of (ls := [some (.inr (0, 50)), some (.inl (nI a)), some (.inl (nI b)), some (.inl (nI n)), none]) okX9_copies rfl rfl ?_
  repeat (first | refine e2_stepS 3 rfl rfl rfl ?_ | refine e2m_getS 3 rfl rfl rfl ?_ | refine e2m_ldS 3 rfl _ rfl rfl (by omega) ?_)
  refine Eq.mp (congrArg (fun q => E2 ε jX9_copies 3 _ [] (mG G q t o x) _) (cpyr_0 r a b)) ?_
  refine e2_for n (fun k => [some (.inr (0, 50)), some (.inl (nI a)), some (.inl (nI b)), some (.inl (nI n)), some (.inl (nI k))]) (fun k => mG G (cpyr r a b k) t o x) (fun k hk K => ?_) (fun M hM => ?_)
  · repeat (first | refine e2_step rfl rfl ?_ | refine e2m_get rfl rfl ?_ | refine e2m_ld _ rfl rfl (by omega) ?_)
    refine e2_if rfl rfl (fun c => absurd c (nI_ge hk (by omega))) (fun _ => ?_)
    repeat (first | refine e2_step rfl rfl ?_ | refine e2m_get rfl rfl ?_ | refine e2m_ld _ rfl rfl (by omega) ?_)
    rw [nI_add', nI_add']
    repeat (first | refine e2_step rfl rfl ?_ | refine e2m_get rfl rfl ?_ | refine e2m_ld _ rfl rfl (by omega) ?_)
    refine e2m_st (b + k) rfl rfl (by omega) ?_
    repeat (first | refine e2_stepS 3 rfl rfl rfl ?_ | refine e2m_getS 3 rfl rfl rfl ?_ | refine e2m_ldS 3 rfl _ rfl rfl (by omega) ?_)
    rw [nI_add']
    have h1 : cpyr r a b k (a + k) = r (a + k) := by
      simp only [cpyr]
      rw [if_neg (by omega)]
    rw [h1, ← cpyr_s]
    exact K
  · repeat (first | refine e2_step rfl rfl ?_ | refine e2m_get rfl rfl ?_ | refine e2m_ld _ rfl rfl (by omega) ?_)
    refine e2_if rfl rfl (fun c => ?_) (fun c => absurd (by rw [hM]; exact Int32.le_refl _) c)
    repeat (first | refine e2_step rfl rfl ?_ | refine e2m_get rfl rfl ?_ | refine e2m_ld _ rfl rfl (by omega) ?_)
    exact e2_vret rfl rfl ⟨rfl, by rw [hM]⟩
theorem m_stretches : FM ε jX9_stretches [] G r t o x (some (nI (1 + cntB (fun c => decide (¬ r (c + 1) = r c)) 99))) r t o x := by
  obtain ⟨n99, h99⟩ : ∃ n, n = 99 := ⟨_, rfl⟩
  rw [← h99]
  refine C2.of (ls := [some (.inr (0, 50)), none, none]) okX9_stretches rfl rfl ?_
  repeat (first | refine e2_stepS 4 rfl rfl rfl ?_ | refine e2m_getS 4 rfl rfl rfl ?_ | refine e2m_ldS 4 rfl _ rfl rfl (by omega) ?_)
  refine e2_for n99 (fun c => [some (.inr (0, 50)), some (.inl (nI (1 + cntB (fun c => decide (¬ r (c + 1) = r c)) c))), some (.inl (nI (c + 1)))]) (fun _ => mG G r t o x) (fun c hc K => ?_) (fun M hM => ?_)
  · repeat (first | refine e2_step rfl rfl ?_ | refine e2m_get rfl rfl ?_ | refine e2m_ld _ rfl rfl (by omega) ?_)
    refine e2_if rfl rfl (fun z => absurd z (nI_ge (by omega) (by omega))) (fun _ => ?_)
    repeat (first | refine e2_step rfl rfl ?_ | refine e2m_get rfl rfl ?_ | refine e2m_ld _ rfl rfl (by omega) ?_)
    refine e2m_ld c rfl (by rw [pk_sub (by omega), Nat.add_sub_cancel]) (by omega) ?_
    repeat (first | refine e2_step rfl rfl ?_ | refine e2m_get rfl rfl ?_ | refine e2m_ld _ rfl rfl (by omega) ?_)
    simp only [cntB] at K
    refine e2_if rfl rfl (fun z => ?_) (fun z => ?_)
    · simp only [z, not_true_eq_false, decide_false, Bool.false_eq_true, if_false] at K
      repeat (first | refine e2_stepS 4 rfl rfl rfl ?_ | refine e2m_getS 4 rfl rfl rfl ?_ | refine e2m_ldS 4 rfl _ rfl rfl (by omega) ?_)
      rw [nI_add', nI_add']
      simp only [Nat.add_assoc, Nat.add_zero] at K ⊢
      exact K
    · simp only [z, not_false_eq_true, decide_true, if_true] at K
      repeat (first | refine e2_stepS 4 rfl rfl rfl ?_ | refine e2m_getS 4 rfl rfl rfl ?_ | refine e2m_ldS 4 rfl _ rfl rfl (by omega) ?_)
      rw [nI_add', nI_add']
      simp only [Nat.add_assoc, Nat.add_zero] at K ⊢
      exact K
  · repeat (first | refine e2_step rfl rfl ?_ | refine e2m_get rfl rfl ?_ | refine e2m_ld _ rfl rfl (by omega) ?_)
    refine e2_if rfl rfl (fun c => ?_) (fun c => absurd (by rw [hM, h99]; exact Int32.le_refl _) c)
    repeat (first | refine e2_step rfl rfl ?_ | refine e2m_get rfl rfl ?_ | refine e2m_ld _ rfl rfl (by omega) ?_)
    exact e2_iret rfl rfl ⟨by rw [hM], rfl⟩
theorem rngr_0 (r : Nat → Int32) (a : Nat) (w : Int32) : rngr r a a w = r := by
  funext j
  simp only [rngr]
  rw [if_neg (by omega)]
theorem rngr_s (r : Nat → Int32) (a k : Nat) (w : Int32) : rngr r a (a + (k + 1)) w = upd (rngr r a (a + k) w) (a + k) w := by
  funext j
  simp only [rngr, upd]
  by_cases h : j = a + k
  · rw [if_pos (by omega), if_pos h]
  · rw [if_neg h]
    by_cases h2 : a ≤ j ∧ j < a + k
    · rw [if_pos (by omega), if_pos h2]
    · rw [if_neg (by omega), if_neg h2]
/-- the codes a to b (b + 1 is e), or none -/
theorem m_ranges {a b : Nat} (ha : a < 100) (hb : b < 100) (w : Int32) : FM ε jX9_ranges [.inl (nI a), .inl (nI b), .inl w] G r t o x none (rngr r a (b + 1) w) t o x := by
  refine C2.of (ls := [some (.inr (0, 50)), some (.inl (nI a)), some (.inl (nI b)), some (.inl w), none]) okX9_ranges rfl rfl ?_
  repeat (first | refine e2_stepS 3 rfl rfl rfl ?_ | refine e2m_getS 3 rfl rfl rfl ?_ | refine e2m_ldS 3 rfl _ rfl rfl (by omega) ?_)
  have h0 : rngr r a (a + 0) w = r := rngr_0 r a w
  refine Eq.mp (congrArg (fun q => E2 ε jX9_ranges 3 _ [] (mG G q t o x) _) h0) ?_
  refine e2_for (b + 1 - a) (fun k => [some (.inr (0, 50)), some (.inl (nI a)), some (.inl (nI b)), some (.inl w), some (.inl (nI (a + k)))]) (fun k => mG G (rngr r a (a + k) w) t o x) (fun k hk K => ?_) (fun M hM => ?_)
  · repeat (first | refine e2_step rfl rfl ?_ | refine e2m_get rfl rfl ?_ | refine e2m_ld _ rfl rfl (by omega) ?_)
    refine e2_if rfl rfl (fun c => absurd c (nI_nlt (by omega) (by omega))) (fun _ => ?_)
    repeat (first | refine e2_step rfl rfl ?_ | refine e2m_get rfl rfl ?_ | refine e2m_ld _ rfl rfl (by omega) ?_)
    refine e2m_st (a + k) rfl rfl (by omega) ?_
    repeat (first | refine e2_stepS 3 rfl rfl rfl ?_ | refine e2m_getS 3 rfl rfl rfl ?_ | refine e2m_ldS 3 rfl _ rfl rfl (by omega) ?_)
    rw [nI_add', ← rngr_s]
    exact K
  · repeat (first | refine e2_step rfl rfl ?_ | refine e2m_get rfl rfl ?_ | refine e2m_ld _ rfl rfl (by omega) ?_)
    refine e2_if rfl rfl (fun c => ?_) (fun c => absurd (nI_lt (by omega) (by omega)) c)
    refine e2_vret rfl rfl ⟨rfl, ?_⟩
    subst hM
    have : rngr r a (b + 1) w = rngr r a (a + (b + 1 - a)) w := by
      funext j
      simp only [rngr]
      by_cases h : a ≤ j ∧ j < b + 1
      · rw [if_pos h, if_pos (by omega)]
      · rw [if_neg h, if_neg (by omega)]
    rw [this]
theorem m_walkBy (c : Int32) : FM ε jX9_walkBy [.inl c] G r t o x (some (walkByr r c)) r t o x := by
  refine C2.of (ls := [some (.inr (0, 50)), some (.inl c), none]) okX9_walkBy rfl rfl ?_
  repeat (first | refine e2_stepS 2 rfl rfl rfl ?_ | refine e2m_getS 2 rfl rfl rfl ?_ | refine e2m_ldS 2 rfl _ rfl rfl (by omega) ?_)
  have h : ∀ k w, w + k = 8 → E2 ε jX9_walkBy 2 [some (.inr (0, 50)), some (.inl c), some (.inl (nI w))] [] (mG G r t o x) (fun v' G' => v' = some (firstFrom (fun w => decide (r (955 + w) = c)) k w) ∧ G' = mG G r t o x) := by
    intro k
    induction k with
    | zero =>
      intro w hw
      repeat (first | refine e2_step rfl rfl ?_ | refine e2m_get rfl rfl ?_ | refine e2m_ld _ rfl rfl (by omega) ?_)
      refine e2_if rfl rfl (fun _ => ?_) (fun z => absurd (nI_le (by omega) (by omega)) z)
      repeat (first | refine e2_step rfl rfl ?_ | refine e2m_get rfl rfl ?_ | refine e2m_ld _ rfl rfl (by omega) ?_)
      exact e2_iret rfl rfl ⟨rfl, rfl⟩
    | succ k ih =>
      intro w hw
      repeat (first | refine e2_step rfl rfl ?_ | refine e2m_get rfl rfl ?_ | refine e2m_ld _ rfl rfl (by omega) ?_)
      refine e2_if rfl rfl (fun z => absurd z (nI_ge (by omega) (by omega))) (fun _ => ?_)
      repeat (first | refine e2_step rfl rfl ?_ | refine e2m_get rfl rfl ?_ | refine e2m_ld _ rfl rfl (by omega) ?_)
      rw [nI_add']
      repeat (first | refine e2_step rfl rfl ?_ | refine e2m_get rfl rfl ?_ | refine e2m_ld _ rfl rfl (by omega) ?_)
      refine e2_if rfl rfl (fun z => ?_) (fun z => ?_)
      · repeat (first | refine e2_stepS 2 rfl rfl rfl ?_ | refine e2m_getS 2 rfl rfl rfl ?_ | refine e2m_ldS 2 rfl _ rfl rfl (by omega) ?_)
        rw [nI_add']
        have := ih (w + 1) (by omega)
        simp only [firstFrom, z, decide_false, Bool.false_eq_true, if_false]
        exact this
      · repeat (first | refine e2_step rfl rfl ?_ | refine e2m_get rfl rfl ?_ | refine e2m_ld _ rfl rfl (by omega) ?_)
        refine e2_iret rfl rfl ⟨?_, rfl⟩
        simp only [firstFrom, Classical.not_not.1 z, decide_true, if_true]
  exact h 8 0 rfl
theorem m_out : FM ε jX9_out [] G r t o x (some (sumI (fun c => r (1011 + c)) 6)) r t o x := by
  obtain ⟨n6, h6⟩ : ∃ n, n = 6 := ⟨_, rfl⟩
  rw [← h6]
  refine C2.of (ls := [some (.inr (0, 50)), none, none]) okX9_out rfl rfl ?_
  repeat (first | refine e2_stepS 4 rfl rfl rfl ?_ | refine e2m_getS 4 rfl rfl rfl ?_ | refine e2m_ldS 4 rfl _ rfl rfl (by omega) ?_)
  refine e2_for n6 (fun c => [some (.inr (0, 50)), some (.inl (sumI (fun c => r (1011 + c)) c)), some (.inl (nI c))]) (fun _ => mG G r t o x) (fun c hc K => ?_) (fun M hM => ?_)
  · repeat (first | refine e2_step rfl rfl ?_ | refine e2m_get rfl rfl ?_ | refine e2m_ld _ rfl rfl (by omega) ?_)
    refine e2_if rfl rfl (fun z => absurd z (nI_ge (by omega) (by omega))) (fun _ => ?_)
    repeat (first | refine e2_step rfl rfl ?_ | refine e2m_get rfl rfl ?_ | refine e2m_ld _ rfl rfl (by omega) ?_)
    rw [nI_add']
    repeat (first | refine e2_stepS 4 rfl rfl rfl ?_ | refine e2m_getS 4 rfl rfl rfl ?_ | refine e2m_ldS 4 rfl _ rfl rfl (by omega) ?_)
    rw [nI_add']
    exact K
  · repeat (first | refine e2_step rfl rfl ?_ | refine e2m_get rfl rfl ?_ | refine e2m_ld _ rfl rfl (by omega) ?_)
    refine e2_if rfl rfl (fun c => ?_) (fun c => absurd (by rw [hM, h6]; exact Int32.le_refl _) c)
    repeat (first | refine e2_step rfl rfl ?_ | refine e2m_get rfl rfl ?_ | refine e2m_ld _ rfl rfl (by omega) ?_)
    exact e2_iret rfl rfl ⟨by rw [hM], rfl⟩
theorem m_firstIn {N : Nat} (hN : r 100 = nI N) (hN2 : N ≤ 120) (w : Int32) : FM ε jX9_firstIn [.inl w] G r t o x (some (sumI (fun l => if atr r (nI 1) w l then ofr r l 1 else nI 0) N)) r t o x := by
  refine C2.of (ls := [some (.inr (0, 50)), some (.inl w), none, none]) okX9_firstIn rfl rfl ?_
  repeat (first | refine e2_stepS 4 rfl rfl rfl ?_ | refine e2m_getS 4 rfl rfl rfl ?_ | refine e2m_ldS 4 rfl _ rfl rfl (by omega) ?_)
  refine e2_for N (fun l => [some (.inr (0, 50)), some (.inl w), some (.inl (sumI (fun l => if atr r (nI 1) w l then ofr r l 1 else nI 0) l)), some (.inl (nI l))]) (fun _ => mG G r t o x) (fun l hl K => ?_) (fun M hM => ?_)
  · repeat (first | refine e2_step rfl rfl ?_ | refine e2m_get rfl rfl ?_ | refine e2m_ld _ rfl rfl (by omega) ?_)
    refine e2_if rfl rfl (fun c => absurd (hN ▸ c) (nI_ge hl (by omega))) (fun _ => ?_)
    repeat (first | refine e2_step rfl rfl ?_ | refine e2m_get rfl rfl ?_ | refine e2m_ld _ rfl rfl (by omega) ?_)
    refine e2_fi (m_isAt (l := l) (by omega) (nI 1) w) rfl rfl ⟨rfl, rfl, rfl⟩ rfl rfl rfl (by first | exact hi | decide) rfl rfl rfl ?_
    repeat (first | refine e2_step rfl rfl ?_ | refine e2m_get rfl rfl ?_ | refine e2m_ld _ rfl rfl (by omega) ?_)
    simp only [sumI] at K
    refine e2_if rfl rfl (fun c => ?_) (fun c => ?_)
    · rw [bI_0] at c
      simp only [c, Bool.false_eq_true, if_false] at K
      repeat (first | refine e2_stepS 4 rfl rfl rfl ?_ | refine e2m_getS 4 rfl rfl rfl ?_ | refine e2m_ldS 4 rfl _ rfl rfl (by omega) ?_)
      rw [nI_add']
      exact K
    · rw [bI_0, Bool.not_eq_false] at c
      simp only [c, if_true] at K
      repeat (first | refine e2_step rfl rfl ?_ | refine e2m_get rfl rfl ?_ | refine e2m_ld _ rfl rfl (by omega) ?_)
      refine e2_fi (m_of (l := l) (k := 1) (by omega) (by decide)) rfl rfl ⟨rfl, rfl, rfl⟩ rfl rfl rfl (by first | exact hi | decide) rfl rfl rfl ?_
      repeat (first | refine e2_stepS 4 rfl rfl rfl ?_ | refine e2m_getS 4 rfl rfl rfl ?_ | refine e2m_ldS 4 rfl _ rfl rfl (by omega) ?_)
      rw [nI_add']
      exact K
  · repeat (first | refine e2_step rfl rfl ?_ | refine e2m_get rfl rfl ?_ | refine e2m_ld _ rfl rfl (by omega) ?_)
    refine e2_if rfl rfl (fun c => ?_) (fun c => absurd (by rw [hN, hM]; exact Int32.le_refl _) c)
    repeat (first | refine e2_step rfl rfl ?_ | refine e2m_get rfl rfl ?_ | refine e2m_ld _ rfl rfl (by omega) ?_)
    exact e2_iret rfl rfl ⟨by rw [hM], rfl⟩
end MI
