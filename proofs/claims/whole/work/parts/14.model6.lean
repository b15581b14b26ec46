/-! The reference: the text is read. -/
section MM
variable {ε : EE} {J : JT} {pc : Nat} {ls : List (Option V0)} {st : List V0} {G : GG} {r t o x : Nat → Int32} {Q : Option Int32 → GG → Prop}
def dgB (t : Nat → Int32) (n a m : Nat) : Bool := decide (a < n) && isInB (t a) (nI 48) (nI (48 + m))
def dgt (t : Nat → Int32) (a : Nat) : Nat := (t a).toNatClampNeg - 48
theorem dgB_of {n a m : Nat} (hm : m ≤ 9) (h : dgB t n a m = true) : a < n ∧ dgt t a ≤ m ∧ t a = nI (48 + dgt t a) := by
  simp only [dgB, isInB, Bool.and_eq_true, decide_eq_true_eq] at h
  obtain ⟨h1, h2, h3⟩ := h
  have e1 : (nI 48).toInt = 48 := nI_toInt (by decide)
  have e2 : (nI (48 + m)).toInt = ((48 + m : Nat) : Int) := nI_toInt (by omega)
  rw [Int32.le_iff_toInt_le, e1] at h2
  rw [Int32.le_iff_toInt_le, e2] at h3
  have h0 : ¬ t a < 0 := by
    rw [Int32.lt_iff_toInt_lt]
    have : (0 : Int32).toInt = 0 := by decide
    omega
  obtain ⟨j, hj, hj2⟩ := nI_of h0
  have e3 : (t a).toInt = (j : Int) := by rw [hj2]; exact nI_toInt hj
  have e4 : dgt t a = j - 48 := by unfold dgt; rw [hj2, nI_clamp hj]
  refine ⟨h1, by omega, ?_⟩
  rw [hj2, e4]
  congr 1
  omega
/-- a number's end and value -/
def tkN (t : Nat → Int32) (n a : Nat) : Option (Nat × Nat) :=
  if dgB t n a 9 then (if dgt t a = 0 then some (a + 1, 0) else if dgB t n (a + 1) 9 then some (a + 2, 10 * dgt t a + dgt t (a + 1)) else some (a + 1, dgt t a)) else none
def tkS (t : Nat → Int32) (n a : Nat) (s : Int32) : Option Nat := if a < n then (if t a = s then some (a + 1) else none) else none
theorem tkN_of {n a a' f : Nat} (h : tkN t n a = some (a', f)) : a < a' ∧ a' ≤ n ∧ f < 100 := by
  unfold tkN at h
  split at h
  · rename_i h1
    obtain ⟨h2, h3, -⟩ := dgB_of (by omega) h1
    split at h
    · cases h
      omega
    · split at h
      · rename_i h4
        obtain ⟨h5, h6, -⟩ := dgB_of (by omega) h4
        cases h
        omega
      · cases h
        omega
  · cases h
theorem tkS_of {n a a' : Nat} {s : Int32} (h : tkS t n a s = some a') : a' = a + 1 ∧ a' ≤ n := by
  unfold tkS at h
  split at h
  · split at h
    · cases h
      omega
    · cases h
  · cases h
/-- the reference's numbers with its place in the text and its last number -/
def pst (x : Nat → Int32) (a : Nat) (u : Int32) : Nat → Int32 := upd (upd x 4 (nI a)) 5 u
theorem pst_4 (a b : Nat) (u : Int32) : upd (pst x a u) 4 (nI b) = pst x b u := by
  funext j
  unfold pst upd
  by_cases h : j = 4
  · simp [h]
  · simp [h]
theorem pst_5 (a : Nat) (u v : Int32) : upd (pst x a u) 5 v = pst x a v := by
  funext j
  unfold pst upd
  by_cases h : j = 5
  · simp [h]
  · simp [h]
theorem pst_1 (a : Nat) (u : Int32) : pst x a u 1 = x 1 := rfl
theorem pst_3 (a : Nat) (u : Int32) : pst x a u 3 = x 3 := rfl
theorem m_isDigit {n a m : Nat} {u : Int32} (hx3 : x 3 = nI n) (hn : n ≤ 80) (ha : a ≤ n) : FM ε jX9_isDigit [.inl (nI m)] G r t o (pst x a u) (some (bI (dgB t n a m))) r t o (pst x a u) := by
  refine C2.of (ls := [some (.inr (0, 50)), some (.inl (nI m))]) okX9_isDigit rfl rfl ?_
  repeat (first | refine e2_step rfl rfl ?_ | refine e2m_get rfl rfl ?_ | refine e2m_ld _ rfl rfl (by omega) ?_)
  have h3 : pst x a u 3 = nI n := hx3
  have h4 : pst x a u 4 = nI a := rfl
  rw [h3, h4]
  refine e2_if rfl rfl (fun z => ?_) (fun z => ?_)
  · rw [nI_leI (by omega) (by omega)] at z
    repeat (first | refine e2_step rfl rfl ?_ | refine e2m_get rfl rfl ?_ | refine e2m_ld _ rfl rfl (by omega) ?_)
    refine e2_zret rfl rfl rfl ⟨?_, rfl⟩
    simp [dgB, show ¬ a < n by omega]; rfl
  · rw [nI_leI (by omega) (by omega)] at z
    repeat (first | refine e2_step rfl rfl ?_ | refine e2m_get rfl rfl ?_ | refine e2m_ld _ rfl rfl (by omega) ?_)
    refine e2m_ldt a rfl h4 (by omega) ?_
    repeat (first | refine e2_step rfl rfl ?_ | refine e2m_get rfl rfl ?_ | refine e2m_ld _ rfl rfl (by omega) ?_)
    rw [nI_add']
    refine e2_fs (m_in (t a) (nI 48) (nI (48 + m))) rfl rfl ⟨rfl, rfl, rfl⟩ rfl rfl rfl ?_
    refine e2_if rfl rfl (fun c => ?_) (fun c => ?_)
    · rw [bI_0] at c
      repeat (first | refine e2_step rfl rfl ?_ | refine e2m_get rfl rfl ?_ | refine e2m_ld _ rfl rfl (by omega) ?_)
      refine e2_zret rfl rfl rfl ⟨?_, rfl⟩
      simp [dgB, c]; rfl
    · rw [bI_0, Bool.not_eq_false] at c
      repeat (first | refine e2_step rfl rfl ?_ | refine e2m_get rfl rfl ?_ | refine e2m_ld _ rfl rfl (by omega) ?_)
      refine e2_zret rfl rfl rfl ⟨?_, rfl⟩
      simp [dgB, c, show a < n by omega]; rfl
theorem m_takes {n a : Nat} {u s : Int32} (hx3 : x 3 = nI n) (hn : n ≤ 80) (ha : a ≤ n) : FM ε jX9_takes [.inl s] G r t o (pst x a u) (some (bI (tkS t n a s).isSome)) r t o (pst x ((tkS t n a s).getD a) u) := by
  refine C2.of (ls := [some (.inr (0, 50)), some (.inl s), none]) okX9_takes rfl rfl ?_
  repeat (first | refine e2_step rfl rfl ?_ | refine e2m_get rfl rfl ?_ | refine e2m_ld _ rfl rfl (by omega) ?_)
  have h3 : pst x a u 3 = nI n := hx3
  have h4 : pst x a u 4 = nI a := rfl
  have hno : tkS t n a s = none → E2 ε jX9_takes 28 [some (.inr (0, 50)), some (.inl s), none] [] (mG G r t o (pst x a u)) (fun v' G' => v' = some (bI (tkS t n a s).isSome) ∧ G' = mG G r t o (pst x ((tkS t n a s).getD a) u)) := by
    intro hz
    rw [hz]
    repeat (first | refine e2_step rfl rfl ?_ | refine e2m_get rfl rfl ?_ | refine e2m_ld _ rfl rfl (by omega) ?_)
    refine e2_if rfl rfl (fun c => ?_) (fun c => absurd rfl c)
    repeat (first | refine e2_step rfl rfl ?_ | refine e2m_get rfl rfl ?_ | refine e2m_ld _ rfl rfl (by omega) ?_)
    rw [h4, nI_add']
    refine e2m_put rfl (by omega) ?_
    rw [pst_4]
    repeat (first | refine e2_step rfl rfl ?_ | refine e2m_get rfl rfl ?_ | refine e2m_ld _ rfl rfl (by omega) ?_)
    exact e2_zret rfl rfl rfl ⟨rfl, rfl⟩
  rw [h3, h4]
  refine e2_if rfl rfl (fun z => ?_) (fun z => ?_)
  · rw [nI_leI (by omega) (by omega)] at z
    exact hno (by unfold tkS; rw [if_neg (by omega)])
  · rw [nI_leI (by omega) (by omega)] at z
    repeat (first | refine e2_step rfl rfl ?_ | refine e2m_get rfl rfl ?_ | refine e2m_ld _ rfl rfl (by omega) ?_)
    refine e2m_ldt a rfl h4 (by omega) ?_
    repeat (first | refine e2_step rfl rfl ?_ | refine e2m_get rfl rfl ?_ | refine e2m_ld _ rfl rfl (by omega) ?_)
    refine e2_if rfl rfl (fun c => ?_) (fun c => ?_)
    · exact hno (by unfold tkS; rw [if_pos (by omega), if_neg c])
    · have hz : tkS t n a s = some (a + 1) := by unfold tkS; rw [if_pos (by omega), if_pos (Classical.not_not.1 c)]
      rw [hz]
      repeat (first | refine e2_step rfl rfl ?_ | refine e2m_get rfl rfl ?_ | refine e2m_ld _ rfl rfl (by omega) ?_)
      refine e2_if rfl rfl (fun c => absurd c (by decide)) (fun c => ?_)
      repeat (first | refine e2_step rfl rfl ?_ | refine e2m_get rfl rfl ?_ | refine e2m_ld _ rfl rfl (by omega) ?_)
      rw [h4, nI_add']
      refine e2m_put rfl (by omega) ?_
      rw [pst_4]
      repeat (first | refine e2_step rfl rfl ?_ | refine e2m_get rfl rfl ?_ | refine e2m_ld _ rfl rfl (by omega) ?_)
      exact e2_zret rfl rfl rfl ⟨rfl, rfl⟩
def CM (ε : EE) (J : JT) (As : List V0) (G : GG) (r t o x : Nat → Int32) (Q : Option Int32 → GG → Prop) : Prop := C2 ε J (.inr (0, 50) :: As) (mG G r t o x) Q
theorem m_takesNumber {n a : Nat} {u : Int32} (hx3 : x 3 = nI n) (hn : n ≤ 80) (ha : a ≤ n) : CM ε jX9_takesNumber [] G r t o (pst x a u) (fun v' G' => (tkN t n a = none ∧ v' = some (nI 0) ∧ G' = mG G r t o (pst x a u)) ∨ ∃ a' f, tkN t n a = some (a', f) ∧ v' = some (nI 1) ∧ G' = mG G r t o (pst x a' (nI f))) := by
  refine C2.of (ls := [some (.inr (0, 50))]) okX9_takesNumber rfl rfl ?_
  repeat (first | refine e2_step rfl rfl ?_ | refine e2m_get rfl rfl ?_ | refine e2m_ld _ rfl rfl (by omega) ?_)
  refine e2_fi (m_isDigit (m := 9) hx3 hn ha) rfl rfl ⟨rfl, rfl, rfl⟩ rfl rfl rfl (by first | exact hi | decide) rfl rfl rfl ?_
  refine e2_if rfl rfl (fun c => ?_) (fun c => ?_)
  · rw [bI_0, Bool.not_eq_false] at c
    obtain ⟨d1, d2, d3⟩ := dgB_of (by omega) c
    have h4 : pst x a u 4 = nI a := rfl
    repeat (first | refine e2_step rfl rfl ?_ | refine e2m_get rfl rfl ?_ | refine e2m_ld _ rfl rfl (by omega) ?_)
    refine e2m_ldt a rfl h4 (by omega) ?_
    rw [d3]
    repeat (first | refine e2_step rfl rfl ?_ | refine e2m_get rfl rfl ?_ | refine e2m_ld _ rfl rfl (by omega) ?_)
    rw [pk_sub (by omega), Nat.add_sub_cancel_left]
    refine e2m_put rfl (by omega) ?_
    rw [pst_5]
    repeat (first | refine e2_step rfl rfl ?_ | refine e2m_get rfl rfl ?_ | refine e2m_ld _ rfl rfl (by omega) ?_)
    rw [show pst x a (nI (dgt t a)) 4 = nI a from rfl, nI_add']
    refine e2m_put rfl (by omega) ?_
    rw [pst_4]
    repeat (first | refine e2_step rfl rfl ?_ | refine e2m_get rfl rfl ?_ | refine e2m_ld _ rfl rfl (by omega) ?_)
    rw [show pst x (a + 1) (nI (dgt t a)) 5 = nI (dgt t a) from rfl]
    have hone : ∀ f, tkN t n a = some (a + 1, f) → E2 ε jX9_takesNumber 87 [some (.inr (0, 50))] [] (mG G r t o (pst x (a + 1) (nI f))) (fun v' G' => (tkN t n a = none ∧ v' = some (nI 0) ∧ G' = mG G r t o (pst x a u)) ∨ ∃ a' f, tkN t n a = some (a', f) ∧ v' = some (nI 1) ∧ G' = mG G r t o (pst x a' (nI f))) := by
      intro f hf
      repeat (first | refine e2_step rfl rfl ?_ | refine e2m_get rfl rfl ?_ | refine e2m_ld _ rfl rfl (by omega) ?_)
      exact e2_zret rfl rfl rfl (Or.inr ⟨a + 1, f, hf, rfl, rfl⟩)
    refine e2_if rfl rfl (fun z => ?_) (fun z => ?_)
    · have hd0 : dgt t a = 0 := by
        have z2 : nI (dgt t a) ≤ nI 0 := z
        rw [nI_leI (by omega) (by omega)] at z2
        omega
      rw [hd0]
      exact hone 0 (by unfold tkN; rw [if_pos c, if_pos hd0])
    · have hd0 : ¬ dgt t a = 0 := by
        intro hz
        rw [hz] at z
        exact z (Int32.le_refl _)
      repeat (first | refine e2_step rfl rfl ?_ | refine e2m_get rfl rfl ?_ | refine e2m_ld _ rfl rfl (by omega) ?_)
      refine e2_fi (m_isDigit (a := a + 1) (m := 9) hx3 hn (by omega)) rfl rfl ⟨rfl, rfl, rfl⟩ rfl rfl rfl (by first | exact hi | decide) rfl rfl rfl ?_
      refine e2_if rfl rfl (fun c2 => ?_) (fun c2 => ?_)
      · rw [bI_0] at c2
        exact hone _ (by unfold tkN; rw [if_pos c, if_neg hd0, if_neg (by rw [c2]; decide)])
      · rw [bI_0, Bool.not_eq_false] at c2
        obtain ⟨f1, f2, f3⟩ := dgB_of (by omega) c2
        repeat (first | refine e2_step rfl rfl ?_ | refine e2m_get rfl rfl ?_ | refine e2m_ld _ rfl rfl (by omega) ?_)
        rw [show pst x (a + 1) (nI (dgt t a)) 5 = nI (dgt t a) from rfl, pk_mul]
        refine e2m_ldt (a + 1) rfl rfl (by omega) ?_
        rw [f3]
        repeat (first | refine e2_step rfl rfl ?_ | refine e2m_get rfl rfl ?_ | refine e2m_ld _ rfl rfl (by omega) ?_)
        rw [nI_add', pk_sub (by omega)]
        refine e2m_put rfl (by omega) ?_
        rw [pst_5]
        repeat (first | refine e2_step rfl rfl ?_ | refine e2m_get rfl rfl ?_ | refine e2m_ld _ rfl rfl (by omega) ?_)
        rw [show ∀ z, pst x (a + 1) z 4 = nI (a + 1) from fun _ => rfl, nI_add']
        refine e2m_put rfl (by omega) ?_
        rw [pst_4]
        repeat (first | refine e2_step rfl rfl ?_ | refine e2m_get rfl rfl ?_ | refine e2m_ld _ rfl rfl (by omega) ?_)
        refine e2_zret rfl rfl rfl (Or.inr ⟨a + 2, 10 * dgt t a + dgt t (a + 1), ?_, rfl, ?_⟩)
        · unfold tkN
          rw [if_pos c, if_neg hd0, if_pos c2]
        · rw [show 10 * dgt t a + (48 + dgt t (a + 1)) - 48 = 10 * dgt t a + dgt t (a + 1) by omega]
  · rw [bI_0, Classical.not_not] at c
    repeat (first | refine e2_step rfl rfl ?_ | refine e2m_get rfl rfl ?_ | refine e2m_ld _ rfl rfl (by omega) ?_)
    exact e2_zret rfl rfl rfl (Or.inl ⟨by unfold tkN; rw [if_neg (by rw [c]; decide)], rfl, rfl⟩)
/-- one range from a: where it stops, and what it says if it is one -/
def rd1 (t : Nat → Int32) (n a : Nat) : Nat × Option (Nat × Nat × Nat) :=
  match tkN t n a with
  | none => (a, none)
  | some (a1, f) => match tkS t n a1 (nI 45) with
    | none => (a1, none)
    | some a2 => match tkN t n a2 with
      | none => (a2, none)
      | some (a3, g) => match tkS t n a3 (nI 61) with
        | none => (a3, none)
        | some a4 => if dgB t n a4 7 then (a4 + 1, some (f, g, dgt t a4)) else (a4, none)
/-- the ranges from a, and the fault -/
def prs (t : Nat → Int32) (n : Nat) : Nat → Nat → List (Nat × Nat × Nat) × Option Nat
  | 0, a => ([], some a)
  | k + 1, a => match rd1 t n a with
    | (a', none) => ([], some a')
    | (a', some q) => match tkS t n a' (nI 59) with
      | some a'' => (q :: (prs t n k a'').1, (prs t n k a'').2)
      | none => ([q], if a' < n then some a' else none)
def aplR (r : Nat → Int32) : List (Nat × Nat × Nat) → Nat → Int32
  | [] => r
  | q :: l => aplR (rngr r q.1 (q.2.1 + 1) (nI q.2.2)) l
def dwnB (l : List (Nat × Nat × Nat)) : Bool := l.any (fun q => decide (q.2.1 < q.1))
theorem rd1_of {n a a' : Nat} {q : Nat × Nat × Nat} (h : rd1 t n a = (a', some q)) : a < a' ∧ a' ≤ n ∧ q.1 < 100 ∧ q.2.1 < 100 ∧ q.2.2 < 8 := by
  unfold rd1 at h
  split at h
  · cases h
  · rename_i a1 f h1
    split at h
    · cases h
    · rename_i a2 h2
      split at h
      · cases h
      · rename_i a3 g h3
        split at h
        · cases h
        · rename_i a4 h4
          split at h
          · rename_i h5
            cases h
            have e1 := tkN_of h1
            have e2 := tkS_of h2
            have e3 := tkN_of h3
            have e4 := tkS_of h4
            obtain ⟨d1, d2, d3⟩ := dgB_of (by omega) h5
            exact ⟨by omega, by omega, e1.2.2, e3.2.2, Nat.lt_succ_of_le d2⟩
          · cases h
theorem rd1_le {n a : Nat} (ha : a ≤ n) : (rd1 t n a).1 ≤ n := by
  unfold rd1
  split
  · exact ha
  · rename_i a1 f h1
    have e1 := tkN_of h1
    split
    · exact e1.2.1
    · rename_i a2 h2
      have e2 := tkS_of h2
      split
      · exact e2.2
      · rename_i a3 g h3
        have e3 := tkN_of h3
        split
        · exact e3.2.1
        · rename_i a4 h4
          have e4 := tkS_of h4
          split
          · rename_i h5
            obtain ⟨d1, -, -⟩ := dgB_of (by omega) h5
            exact d1
          · exact e4.2
/-- how reads answers: (answer, row, place) of the ranges and the fault -/
def rdEnd (r : Nat → Int32) (how cnt : Nat) (down : Bool) (q : List (Nat × Nat × Nat) × Option Nat) (r' : Nat → Int32) (v : Int32) (a' : Nat) : Prop :=
  r' = (if how = 1 then aplR r q.1 else r) ∧ (match q.2 with
  | some p => v = -1 ∧ a' = p
  | none => v = if (down || dwnB q.1) then -2 else nI (cnt + q.1.length))
set_option maxHeartbeats 4000000 in
theorem m_readsL {n how : Nat} (hx3 : x 3 = nI n) (hn : n ≤ 80) (hhow : how < 2) : ∀ (k a : Nat) (u : Int32) (cnt : Nat) (down : Bool) (r : Nat → Int32), a ≤ n → n < a + k → cnt < 1000 + a →
    E2 ε jX9_reads 12 [some (.inr (0, 50)), some (.inl (nI how)), some (.inl (nI cnt)), some (.inl (bI down)), some (.inl (nI 1)), none, none] [] (mG G r t o (pst x a u)) (fun v' G' => ∃ v a' u' r', v' = some v ∧ a' ≤ n ∧ G' = mG G r' t o (pst x a' u') ∧ rdEnd r how cnt down (prs t n k a) r' v a') := by
  intro k
  induction k with
  | zero =>
    intro a u cnt down r ha hk
    omega
  | succ k ih =>
    intro a u cnt down r ha hk hcnt
    have hfail : ∀ a' u', a' ≤ n → rd1 t n a = (a', none) → ∀ ls', E2 ε jX9_reads 24 ls' [] (mG G r t o (pst x a' u')) (fun v' G' => ∃ v a' u' r', v' = some v ∧ a' ≤ n ∧ G' = mG G r' t o (pst x a' u') ∧ rdEnd r how cnt down (prs t n (k + 1) a) r' v a') := by
      intro a' u' ha' hr ls'
      repeat (first | refine e2_step rfl rfl ?_ | refine e2m_get rfl rfl ?_ | refine e2m_ld _ rfl rfl (by omega) ?_)
      refine e2_iret rfl rfl ⟨-1, a', u', r, rfl, ha', rfl, ?_⟩
      unfold prs
      rw [hr]
      exact ⟨by unfold aplR; split <;> rfl, rfl, rfl⟩
    have hfail2 : ∀ a' u', a' ≤ n → rd1 t n a = (a', none) → ∀ ls', E2 ε jX9_reads 48 ls' [] (mG G r t o (pst x a' u')) (fun v' G' => ∃ v a' u' r', v' = some v ∧ a' ≤ n ∧ G' = mG G r' t o (pst x a' u') ∧ rdEnd r how cnt down (prs t n (k + 1) a) r' v a') := by
      intro a' u' ha' hr ls'
      repeat (first | refine e2_step rfl rfl ?_ | refine e2m_get rfl rfl ?_ | refine e2m_ld _ rfl rfl (by omega) ?_)
      refine e2_iret rfl rfl ⟨-1, a', u', r, rfl, ha', rfl, ?_⟩
      unfold prs
      rw [hr]
      exact ⟨by unfold aplR; split <;> rfl, rfl, rfl⟩
    have hfail3 : ∀ a' u', a' ≤ n → rd1 t n a = (a', none) → ∀ ls', E2 ε jX9_reads 74 ls' [] (mG G r t o (pst x a' u')) (fun v' G' => ∃ v a' u' r', v' = some v ∧ a' ≤ n ∧ G' = mG G r' t o (pst x a' u') ∧ rdEnd r how cnt down (prs t n (k + 1) a) r' v a') := by
      intro a' u' ha' hr ls'
      repeat (first | refine e2_step rfl rfl ?_ | refine e2m_get rfl rfl ?_ | refine e2m_ld _ rfl rfl (by omega) ?_)
      refine e2_iret rfl rfl ⟨-1, a', u', r, rfl, ha', rfl, ?_⟩
      unfold prs
      rw [hr]
      exact ⟨by unfold aplR; split <;> rfl, rfl, rfl⟩
    repeat (first | refine e2_step rfl rfl ?_ | refine e2m_get rfl rfl ?_ | refine e2m_ld _ rfl rfl (by omega) ?_)
    refine e2_if rfl rfl (fun z => absurd (show nI 1 = 0 from z) (by decide)) (fun _ => ?_)
    repeat (first | refine e2_step rfl rfl ?_ | refine e2m_get rfl rfl ?_ | refine e2m_ld _ rfl rfl (by omega) ?_)
    refine e2_callVi rfl ⟨rfl, rfl, rfl⟩ rfl (As := []) rfl rfl rfl (by decide) rfl rfl rfl (m_takesNumber (u := u) hx3 hn ha) (fun v1 G1 h1 => ?_)
    rcases h1 with ⟨e1, hv, rfl⟩ | ⟨a1, f, e1, hv, rfl⟩
    · cases hv
      refine e2_if rfl rfl (fun z => absurd rfl z) (fun _ => ?_)
      exact hfail a u ha (by unfold rd1; rw [e1]) _
    cases hv
    refine e2_if rfl rfl (fun _ => ?_) (fun z => absurd (show ¬ nI 1 = 0 by decide) z)
    have b1 := tkN_of e1
    repeat (first | refine e2_step rfl rfl ?_ | refine e2m_get rfl rfl ?_ | refine e2m_ld _ rfl rfl (by omega) ?_)
    rw [show pst x a1 (nI f) 5 = nI f from rfl]
    refine e2_fi (m_takes (s := nI 45) hx3 hn b1.2.1) rfl rfl ⟨rfl, rfl, rfl⟩ rfl rfl rfl (by decide) rfl rfl rfl ?_
    cases e2 : tkS t n a1 (nI 45) with
    | none =>
      refine e2_if rfl rfl (fun _ => ?_) (fun z => absurd rfl z)
      exact hfail2 a1 (nI f) b1.2.1 (by unfold rd1; rw [e1]; dsimp only; rw [e2]) _
    | some a2 =>
      have b2 := tkS_of e2
      refine e2_if rfl rfl (fun z => absurd (show nI 1 = 0 from z) (by decide)) (fun _ => ?_)
      repeat (first | refine e2_step rfl rfl ?_ | refine e2m_get rfl rfl ?_ | refine e2m_ld _ rfl rfl (by omega) ?_)
      refine e2_callVi rfl ⟨rfl, rfl, rfl⟩ rfl (As := []) rfl rfl rfl (by decide) rfl rfl rfl (m_takesNumber (a := a2) (u := nI f) hx3 hn b2.2) (fun v1 G1 h1 => ?_)
      rcases h1 with ⟨e3, hv, rfl⟩ | ⟨a3, g, e3, hv, rfl⟩
      · cases hv
        refine e2_if rfl rfl (fun z => absurd rfl z) (fun _ => ?_)
        exact hfail2 a2 (nI f) b2.2 (by unfold rd1; rw [e1]; dsimp only; rw [e2]; dsimp only; rw [e3]) _
      cases hv
      refine e2_if rfl rfl (fun _ => ?_) (fun z => absurd (show ¬ nI 1 = 0 by decide) z)
      have b3 := tkN_of e3
      repeat (first | refine e2_step rfl rfl ?_ | refine e2m_get rfl rfl ?_ | refine e2m_ld _ rfl rfl (by omega) ?_)
      rw [show pst x a3 (nI g) 5 = nI g from rfl]
      refine e2_fi (m_takes (s := nI 61) hx3 hn b3.2.1) rfl rfl ⟨rfl, rfl, rfl⟩ rfl rfl rfl (by decide) rfl rfl rfl ?_
      cases e4 : tkS t n a3 (nI 61) with
      | none =>
        refine e2_if rfl rfl (fun _ => ?_) (fun z => absurd rfl z)
        exact hfail3 a3 (nI g) b3.2.1 (by unfold rd1; rw [e1]; dsimp only; rw [e2]; dsimp only; rw [e3]; dsimp only; rw [e4]) _
      | some a4 =>
        have b4 := tkS_of e4
        refine e2_if rfl rfl (fun z => absurd (show nI 1 = 0 from z) (by decide)) (fun _ => ?_)
        repeat (first | refine e2_step rfl rfl ?_ | refine e2m_get rfl rfl ?_ | refine e2m_ld _ rfl rfl (by omega) ?_)
        refine e2_fi (m_isDigit (a := a4) (u := nI g) (m := 7) hx3 hn b4.2) rfl rfl ⟨rfl, rfl, rfl⟩ rfl rfl rfl (by decide) rfl rfl rfl ?_
        cases e5 : dgB t n a4 7 with
        | false =>
          refine e2_if rfl rfl (fun z => absurd rfl z) (fun _ => ?_)
          exact hfail3 a4 (nI g) b4.2 (by unfold rd1; rw [e1]; dsimp only; rw [e2]; dsimp only; rw [e3]; dsimp only; rw [e4]; dsimp only; rw [e5]; rfl) _
        | true =>
          refine e2_if rfl rfl (fun _ => ?_) (fun z => absurd (show ¬ nI 1 = 0 by decide) z)
          obtain ⟨d1, d2, d3⟩ := dgB_of (by omega) e5
          have hr1 : rd1 t n a = (a4 + 1, some (f, g, dgt t a4)) := by unfold rd1; rw [e1]; dsimp only; rw [e2]; dsimp only; rw [e3]; dsimp only; rw [e4]; dsimp only; rw [e5]; rfl
          repeat (first | refine e2_step rfl rfl ?_ | refine e2m_get rfl rfl ?_ | refine e2m_ld _ rfl rfl (by omega) ?_)
          have hnext : ∀ (r1 : Nat → Int32), r1 = (if how = 1 then rngr r f (g + 1) (nI (dgt t a4)) else r) → E2 ε jX9_reads 101 [some (.inr (0, 50)), some (.inl (nI how)), some (.inl (nI cnt)), some (.inl (bI down)), some (.inl (nI 1)), some (.inl (nI f)), some (.inl (nI g))] [] (mG G r1 t o (pst x a4 (nI g))) (fun v' G' => ∃ v a' u' r', v' = some v ∧ a' ≤ n ∧ G' = mG G r' t o (pst x a' u') ∧ rdEnd r how cnt down (prs t n (k + 1) a) r' v a') := by
            intro r1 hr1e
            repeat (first | refine e2_step rfl rfl ?_ | refine e2m_get rfl rfl ?_ | refine e2m_ld _ rfl rfl (by omega) ?_)
            rw [show pst x a4 (nI g) 4 = nI a4 from rfl, nI_add']
            refine e2m_put rfl (by omega) ?_
            rw [pst_4]
            have hdown : ∀ dv, dv = bI (down || decide (g < f)) → E2 ε jX9_reads 127 [some (.inr (0, 50)), some (.inl (nI how)), some (.inl (nI cnt)), none, none, none, none] [.inl dv] (mG G r1 t o (pst x (a4 + 1) (nI g))) (fun v' G' => ∃ v a' u' r', v' = some v ∧ a' ≤ n ∧ G' = mG G r' t o (pst x a' u') ∧ rdEnd r how cnt down (prs t n (k + 1) a) r' v a') := by
              intro dv hdv
              subst hdv
              repeat (first | refine e2_step rfl rfl ?_ | refine e2m_get rfl rfl ?_ | refine e2m_ld _ rfl rfl (by omega) ?_)
              refine e2_fi (m_takes (a := a4 + 1) (s := nI 59) hx3 hn d1) rfl rfl ⟨rfl, rfl, rfl⟩ rfl rfl rfl (by decide) rfl rfl rfl ?_
              repeat (first | refine e2_stepS 12 rfl rfl rfl ?_ | refine e2m_getS 12 rfl rfl rfl ?_ | refine e2m_ldS 12 rfl _ rfl rfl (by omega) ?_)
              rw [nI_add']
              cases e6 : tkS t n (a4 + 1) (nI 59) with
              | some a6 =>
                have b6 := tkS_of e6
                have K := ih a6 (nI g) (cnt + 1) (down || decide (g < f)) r1 b6.2 (by omega) (by omega)
                refine e2_dropK (ls' := [some (.inr (0, 50)), some (.inl (nI how)), some (.inl (nI (cnt + 1))), some (.inl (bI (down || decide (g < f)))), some (.inl (nI 1)), none, none]) ?_ ⟨rfl, rfl, rfl, rfl, rfl, trivial⟩
                have hQ : (fun (v' : Option Int32) (G' : GG) => ∃ v a' u' r', v' = some v ∧ a' ≤ n ∧ G' = mG G r' t o (pst x a' u') ∧ rdEnd r how cnt down (prs t n (k + 1) a) r' v a') = (fun v' G' => ∃ v a' u' r', v' = some v ∧ a' ≤ n ∧ G' = mG G r' t o (pst x a' u') ∧ rdEnd r1 how (cnt + 1) (down || decide (g < f)) (prs t n k a6) r' v a') := by
                  have hp : prs t n (k + 1) a = ((f, g, dgt t a4) :: (prs t n k a6).1, (prs t n k a6).2) := by
                    conv => lhs; unfold prs
                    rw [hr1]
                    dsimp only
                    rw [e6]
                  have he : ∀ r' v a', rdEnd r how cnt down (prs t n (k + 1) a) r' v a' = rdEnd r1 how (cnt + 1) (down || decide (g < f)) (prs t n k a6) r' v a' := by
                    intro r' v a'
                    rw [hp]
                    unfold rdEnd
                    dsimp only
                    have e7 : (if how = 1 then aplR r ((f, g, dgt t a4) :: (prs t n k a6).1) else r) = (if how = 1 then aplR r1 (prs t n k a6).1 else r1) := by
                      rw [hr1e]
                      by_cases hh : how = 1
                      · simp only [hh, if_true]; rfl
                      · simp only [hh, if_false]
                    rw [e7]
                    have e8 : (down || dwnB ((f, g, dgt t a4) :: (prs t n k a6).1)) = ((down || decide (g < f)) || dwnB (prs t n k a6).1) := by
                      simp [dwnB, Bool.or_assoc]
                    rw [e8, List.length_cons, show cnt + ((prs t n k a6).1.length + 1) = cnt + 1 + (prs t n k a6).1.length by omega]
                  funext v' G'
                  simp only [he]
                rw [hQ]
                exact K
              | none =>
                have hp : prs t n (k + 1) a = ([(f, g, dgt t a4)], if a4 + 1 < n then some (a4 + 1) else none) := by
                  conv => lhs; unfold prs
                  rw [hr1]
                  dsimp only
                  rw [e6]
                rw [hp]
                have e7 : r1 = (if how = 1 then aplR r [(f, g, dgt t a4)] else r) := hr1e
                have e8 : (down || dwnB [(f, g, dgt t a4)]) = (down || decide (g < f)) := by simp [dwnB]
                repeat (first | refine e2_step rfl rfl ?_ | refine e2m_get rfl rfl ?_ | refine e2m_ld _ rfl rfl (by omega) ?_)
                refine e2_if rfl rfl (fun _ => ?_) (fun z => absurd rfl z)
                repeat (first | refine e2_step rfl rfl ?_ | refine e2m_get rfl rfl ?_ | refine e2m_ld _ rfl rfl (by omega) ?_)
                rw [show pst x ((none : Option Nat).getD (a4 + 1)) (nI g) 4 = nI (a4 + 1) from rfl, show pst x ((none : Option Nat).getD (a4 + 1)) (nI g) 3 = nI n from hx3]
                refine e2_if rfl rfl (fun z => ?_) (fun z => ?_)
                · rw [nI_leI (by omega) (by omega)] at z
                  rw [if_neg (by omega)]
                  repeat (first | refine e2_step rfl rfl ?_ | refine e2m_get rfl rfl ?_ | refine e2m_ld _ rfl rfl (by omega) ?_)
                  refine e2_if rfl rfl (fun z2 => ?_) (fun z2 => ?_)
                  · rw [bI_0] at z2
                    repeat (first | refine e2_step rfl rfl ?_ | refine e2m_get rfl rfl ?_ | refine e2m_ld _ rfl rfl (by omega) ?_)
                    refine e2_iret rfl rfl ⟨_, a4 + 1, nI g, r1, rfl, d1, rfl, e7, ?_⟩
                    dsimp only
                    rw [e8, z2]
                    rfl
                  · rw [bI_0, Bool.not_eq_false] at z2
                    repeat (first | refine e2_step rfl rfl ?_ | refine e2m_get rfl rfl ?_ | refine e2m_ld _ rfl rfl (by omega) ?_)
                    refine e2_iret rfl rfl ⟨_, a4 + 1, nI g, r1, rfl, d1, rfl, e7, ?_⟩
                    dsimp only
                    rw [e8, z2]
                    rfl
                · rw [nI_leI (by omega) (by omega)] at z
                  rw [if_pos (by omega)]
                  repeat (first | refine e2_step rfl rfl ?_ | refine e2m_get rfl rfl ?_ | refine e2m_ld _ rfl rfl (by omega) ?_)
                  exact e2_iret rfl rfl ⟨_, a4 + 1, nI g, r1, rfl, d1, rfl, e7, rfl, rfl⟩
            repeat (first | refine e2_step rfl rfl ?_ | refine e2m_get rfl rfl ?_ | refine e2m_ld _ rfl rfl (by omega) ?_)
            refine e2_if rfl rfl (fun z => ?_) (fun z => ?_)
            · have hd : down = true := by cases down with | true => rfl | false => exact absurd rfl z
              repeat (first | refine e2_stepS 127 rfl rfl rfl ?_ | refine e2m_getS 127 rfl rfl rfl ?_ | refine e2m_ldS 127 rfl _ rfl rfl (by omega) ?_)
              exact e2_dropK (hdown _ (by rw [hd]; rfl)) ⟨rfl, rfl, rfl, trivial⟩
            · have hd : down = false := by cases down with | true => exact absurd (by decide) z | false => rfl
              repeat (first | refine e2_step rfl rfl ?_ | refine e2m_get rfl rfl ?_ | refine e2m_ld _ rfl rfl (by omega) ?_)
              refine e2_if rfl rfl (fun z2 => ?_) (fun z2 => ?_)
              · rw [nI_leI (by omega) (by omega)] at z2
                repeat (first | refine e2_stepS 127 rfl rfl rfl ?_ | refine e2m_getS 127 rfl rfl rfl ?_ | refine e2m_ldS 127 rfl _ rfl rfl (by omega) ?_)
                exact e2_dropK (hdown _ (by rw [hd, decide_eq_false (by omega)]; rfl)) ⟨rfl, rfl, rfl, trivial⟩
              · rw [nI_leI (by omega) (by omega)] at z2
                repeat (first | refine e2_stepS 127 rfl rfl rfl ?_ | refine e2m_getS 127 rfl rfl rfl ?_ | refine e2m_ldS 127 rfl _ rfl rfl (by omega) ?_)
                exact e2_dropK (hdown _ (by rw [hd, decide_eq_true (by omega)]; rfl)) ⟨rfl, rfl, rfl, trivial⟩
          refine e2_if rfl rfl (fun z => ?_) (fun z => ?_)
          · have hh : ¬ how = 1 := fun e => z (by rw [e])
            exact hnext r (by rw [if_neg hh])
          · have hh : how = 1 := by
              have z2 : nI how = nI 1 := Classical.not_not.1 z
              rwa [nI_eq (by omega) (by omega)] at z2
            repeat (first | refine e2_step rfl rfl ?_ | refine e2m_get rfl rfl ?_ | refine e2m_ld _ rfl rfl (by omega) ?_)
            refine e2m_ldt a4 rfl rfl (by omega) ?_
            rw [d3]
            repeat (first | refine e2_step rfl rfl ?_ | refine e2m_get rfl rfl ?_ | refine e2m_ld _ rfl rfl (by omega) ?_)
            rw [pk_sub (by omega), Nat.add_sub_cancel_left]
            refine e2_fv (m_ranges (a := f) (b := g) b1.2.2 b3.2.2 (nI (dgt t a4))) rfl rfl ⟨rfl, rfl, rfl⟩ rfl rfl rfl (by decide) rfl rfl rfl ?_
            exact hnext _ (by rw [if_pos hh])
theorem m_reads {n how : Nat} (hx3 : x 3 = nI n) (hn : n ≤ 80) (hhow : how < 2) {a0 : Nat} {u0 : Int32} : CM ε jX9_reads [.inl (nI how)] G r t o (pst x a0 u0) (fun v' G' => ∃ v a' u' r', v' = some v ∧ a' ≤ n ∧ G' = mG G r' t o (pst x a' u') ∧ rdEnd r how 0 false (prs t n (n + 1) 0) r' v a') := by
  refine C2.of (ls := [some (.inr (0, 50)), some (.inl (nI how)), none, none, none, none, none]) okX9_reads rfl rfl ?_
  repeat (first | refine e2_step rfl rfl ?_ | refine e2m_get rfl rfl ?_ | refine e2m_ld _ rfl rfl (by omega) ?_)
  refine e2m_put rfl (by omega) ?_
  rw [pst_4]
  repeat (first | refine e2_stepS 12 rfl rfl rfl ?_ | refine e2m_getS 12 rfl rfl rfl ?_ | refine e2m_ldS 12 rfl _ rfl rfl (by omega) ?_)
  exact m_readsL hx3 hn hhow (n + 1) 0 u0 0 false r (by omega) (by omega) (by omega)
end MM
