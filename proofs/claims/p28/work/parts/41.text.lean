/-! The class's text. -/
section Ta0
variable {ε : EE} {J : JT} {pc : Nat} {ls : List (Option V0)} {st : List V0} {G : GG} {r t o x : Nat → Int32} {Q : Option Int32 → GG → Prop}
def dgB (t : Nat → Int32) (n a m : Nat) : Bool := decide (a < n) && isInB (t a) (nI 48) (nI (48 + m))
def dgt (t : Nat → Int32) (a : Nat) : Nat := (t a).toNatClampNeg - 48
theorem dgB_of {n a m : Nat} (hm : m ≤ 9) (h : dgB t n a m = true) : a < n ∧ dgt t a ≤ m ∧ t a = nI (48 + dgt t a) := by
  simp only [dgB, isInB, Bool.and_eq_true, decide_eq_true_eq] at h
  obtain ⟨h1, h2, h3⟩ := h
  have e1 : (nI 48).toInt = 48 := nI_toInt (by decide)
  have e2 : (nI (48 + m)).toInt = ((48 + m : Nat) : Int) := nI_toInt (by omega)
  rw [Int32.le_iff_toInt_le, e1] at h2
  rw [Int32.le_iff_toInt_le, e2] at h3
  have h0 : ¬ t a < 0 := by
    rw [Int32.lt_iff_toInt_lt]
    have : (0 : Int32).toInt = 0 := by decide
    omega
  obtain ⟨j, hj, hj2⟩ := nI_of h0
  have e3 : (t a).toInt = (j : Int) := by rw [hj2]; exact nI_toInt hj
  have e4 : dgt t a = j - 48 := by unfold dgt; rw [hj2, nI_clamp hj]
  refine ⟨h1, by omega, ?_⟩
  rw [hj2, e4]
  congr 1
  omega
/-- a number's end and value -/
def tkN (t : Nat → Int32) (n a : Nat) : Option (Nat × Nat) :=
  if dgB t n a 9 then (if dgt t a = 0 then some (a + 1, 0) else if dgB t n (a + 1) 9 then some (a + 2, 10 * dgt t a + dgt t (a + 1)) else some (a + 1, dgt t a)) else none
def tkS (t : Nat → Int32) (n a : Nat) (s : Int32) : Option Nat := if a < n then (if t a = s then some (a + 1) else none) else none
theorem tkN_of {n a a' f : Nat} (h : tkN t n a = some (a', f)) : a < a' ∧ a' ≤ n ∧ f < 100 := by
  unfold tkN at h
  split at h
  · rename_i h1
    obtain ⟨h2, h3, -⟩ := dgB_of (by omega) h1
    split at h
    · cases h
      omega
    · split at h
      · rename_i h4
        obtain ⟨h5, h6, -⟩ := dgB_of (by omega) h4
        cases h
        omega
      · cases h
        omega
  · cases h
theorem tkS_of {n a a' : Nat} {s : Int32} (h : tkS t n a s = some a') : a' = a + 1 ∧ a' ≤ n := by
  unfold tkS at h
  split at h
  · split at h
    · cases h
      omega
    · cases h
  · cases h
/-- one range from a: where it stops, and what it says if it is one -/
def rd1 (t : Nat → Int32) (n a : Nat) : Nat × Option (Nat × Nat × Nat) :=
  match tkN t n a with
  | none => (a, none)
  | some (a1, f) => match tkS t n a1 (nI 45) with
    | none => (a1, none)
    | some a2 => match tkN t n a2 with
      | none => (a2, none)
      | some (a3, g) => match tkS t n a3 (nI 61) with
        | none => (a3, none)
        | some a4 => if dgB t n a4 7 then (a4 + 1, some (f, g, dgt t a4)) else (a4, none)
/-- the ranges from a, and the fault -/
def prs (t : Nat → Int32) (n : Nat) : Nat → Nat → List (Nat × Nat × Nat) × Option Nat
  | 0, a => ([], some a)
  | k + 1, a => match rd1 t n a with
    | (a', none) => ([], some a')
    | (a', some q) => match tkS t n a' (nI 59) with
      | some a'' => (q :: (prs t n k a'').1, (prs t n k a'').2)
      | none => ([q], if a' < n then some a' else none)
def dwnB (l : List (Nat × Nat × Nat)) : Bool := l.any (fun q => decide (q.2.1 < q.1))
theorem rd1_of {n a a' : Nat} {q : Nat × Nat × Nat} (h : rd1 t n a = (a', some q)) : a < a' ∧ a' ≤ n ∧ q.1 < 100 ∧ q.2.1 < 100 ∧ q.2.2 < 8 := by
  unfold rd1 at h
  split at h
  · cases h
  · rename_i a1 f h1
    split at h
    · cases h
    · rename_i a2 h2
      split at h
      · cases h
      · rename_i a3 g h3
        split at h
        · cases h
        · rename_i a4 h4
          split at h
          · rename_i h5
            cases h
            have e1 := tkN_of h1
            have e2 := tkS_of h2
            have e3 := tkN_of h3
            have e4 := tkS_of h4
            obtain ⟨d1, d2, d3⟩ := dgB_of (by omega) h5
            exact ⟨by omega, by omega, e1.2.2, e3.2.2, Nat.lt_succ_of_le d2⟩
          · cases h
theorem rd1_le {n a : Nat} (ha : a ≤ n) : (rd1 t n a).1 ≤ n := by
  unfold rd1
  split
  · exact ha
  · rename_i a1 f h1
    have e1 := tkN_of h1
    split
    · exact e1.2.1
    · rename_i a2 h2
      have e2 := tkS_of h2
      split
      · exact e2.2
      · rename_i a3 g h3
        have e3 := tkN_of h3
        split
        · exact e3.2.1
        · rename_i a4 h4
          have e4 := tkS_of h4
          split
          · rename_i h5
            obtain ⟨d1, -, -⟩ := dgB_of (by omega) h5
            exact d1
          · exact e4.2
end Ta0
section Tb0
variable {ε : EE} {J : JT} {pc : Nat} {ls : List (Option V0)} {st : List V0} {G : GG} {t f u w x : Nat → Int32} {Q : Option Int32 → GG → Prop}
def xG (G : GG) (t f u w x : Nat → Int32) : GG := setA (setA (setA (setA (setA G 0 34 t) 0 35 f) 0 36 u) 0 37 w) 0 33 x
theorem xG_self (G : GG) : xG G (G 0 34) (G 0 35) (G 0 36) (G 0 37) (G 0 33) = G := by
  unfold xG
  rw [setA_self, setA_self, setA_self, setA_self, setA_self]
theorem xG_w33 (j : Nat) (v : Int32) : wr (xG G t f u w x) 0 33 j v = xG G t f u w (upd x j v) := by
  show setA _ 0 33 (upd x j v) = _
  unfold xG
  rw [setA_twice]
theorem xG_w34 (j : Nat) (v : Int32) : wr (xG G t f u w x) 0 34 j v = xG G (upd t j v) f u w x := by
  show setA _ 0 34 (upd t j v) = _
  unfold xG
  rw [setA_comm _ 0 33 0 34 _ _ (by decide), setA_comm _ 0 37 0 34 _ _ (by decide), setA_comm _ 0 36 0 34 _ _ (by decide), setA_comm _ 0 35 0 34 _ _ (by decide), setA_twice]
theorem xG_w35 (j : Nat) (v : Int32) : wr (xG G t f u w x) 0 35 j v = xG G t (upd f j v) u w x := by
  show setA _ 0 35 (upd f j v) = _
  unfold xG
  rw [setA_comm _ 0 33 0 35 _ _ (by decide), setA_comm _ 0 37 0 35 _ _ (by decide), setA_comm _ 0 36 0 35 _ _ (by decide), setA_twice]
theorem xG_w36 (j : Nat) (v : Int32) : wr (xG G t f u w x) 0 36 j v = xG G t f (upd u j v) w x := by
  show setA _ 0 36 (upd u j v) = _
  unfold xG
  rw [setA_comm _ 0 33 0 36 _ _ (by decide), setA_comm _ 0 37 0 36 _ _ (by decide), setA_twice]
theorem xG_w37 (j : Nat) (v : Int32) : wr (xG G t f u w x) 0 37 j v = xG G t f u (upd w j v) x := by
  show setA _ 0 37 (upd w j v) = _
  unfold xG
  rw [setA_comm _ 0 33 0 37 _ _ (by decide), setA_twice]
theorem e2x_get {kf nx idx : Nat} {v : Int32} {z : V0} (h : lk (jt J) pc = (30, kf, 6, v, nx, idx)) (hw : ([.inr (0, 34), .inl (x 1), .inr (0, 35), .inr (0, 36), .inr (0, 37), .inl (x 5), .inl (x 6), .inl (x 7)] : List V0)[kf]? = some z) (k : E2 ε J nx ls (z :: st) (xG G t f u w x) Q) : E2 ε J pc ls (.inr (0, 33) :: st) (xG G t f u w x) Q := e2_get h (by decide) rfl hw k
theorem e2x_getS {kf nx idx : Nat} {v : Int32} {z : V0} (stop : Nat) (_ : Nat.beq pc stop = false) (h : lk (jt J) pc = (30, kf, 6, v, nx, idx)) (hw : ([.inr (0, 34), .inl (x 1), .inr (0, 35), .inr (0, 36), .inr (0, 37), .inl (x 5), .inl (x 6), .inl (x 7)] : List V0)[kf]? = some z) (k : E2 ε J nx ls (z :: st) (xG G t f u w x) Q) : E2 ε J pc ls (.inr (0, 33) :: st) (xG G t f u w x) Q := e2_get h (by decide) rfl hw k
theorem e2x_put {kf nx idx : Nat} {v y : Int32} (h : lk (jt J) pc = (31, kf, 6, v, nx, idx)) (hk : kf = 1 ∨ kf = 5 ∨ kf = 6) (k : E2 ε J nx ls st (xG G t f u w (upd x kf y)) Q) : E2 ε J pc ls (.inl y :: .inr (0, 33) :: st) (xG G t f u w x) Q := by
  rcases hk with rfl | rfl | rfl <;> exact e2_put h (by decide) rfl rfl rfl rfl rfl (by rw [xG_w33]; exact k)
theorem e2x_putz {nx idx : Nat} {v y : Int32} (h : lk (jt J) pc = (31, 7, 6, v, nx, idx)) (hy : y = 0 ∨ y = 1) (k : E2 ε J nx ls st (xG G t f u w (upd x 7 y)) Q) : E2 ε J pc ls (.inl y :: .inr (0, 33) :: st) (xG G t f u w x) Q :=
  e2_putz h (by decide) rfl rfl rfl rfl hy rfl (by rw [xG_w33]; exact k)
theorem e2x_cald {a b nx idx : Nat} {v y : Int32} (j : Nat) (h : lk (jt J) pc = (34, a, b, v, nx, idx)) (hx : y = nI j) (hj : j < 80) (k : E2 ε J nx ls (.inl (t j) :: st) (xG G t f u w x) Q) : E2 ε J pc ls (.inl y :: .inr (0, 34) :: st) (xG G t f u w x) Q := e2_cald j h hx (by decide) rfl hj k
theorem e2x_cast {a b nx idx : Nat} {v y z : Int32} (j : Nat) (h : lk (jt J) pc = (38, a, b, v, nx, idx)) (hx : y = nI j) (hj : j < 80) (hz : vp_nar .char z = z) (k : E2 ε J nx ls st (xG G (upd t j z) f u w x) Q) : E2 ε J pc ls (.inl z :: .inl y :: .inr (0, 34) :: st) (xG G t f u w x) Q := e2_cast j h hx (by decide) rfl hj hz (by rw [xG_w34]; exact k)
/-- the numbers of the text: length stays, k ranges, next place a, broken or not -/
def xst (x : Nat → Int32) (k a : Nat) (br : Bool) : Nat → Int32 := upd (upd (upd x 5 (nI k)) 6 (nI a)) 7 (bI br)
theorem xst_5 (x : Nat → Int32) (k a k' : Nat) (br : Bool) : upd (xst x k a br) 5 (nI k') = xst x k' a br := by
  funext j
  unfold xst upd
  by_cases h : j = 5
  · simp [h]
  · simp [h]
theorem xst_6 (x : Nat → Int32) (k a a' : Nat) (br : Bool) : upd (xst x k a br) 6 (nI a') = xst x k a' br := by
  funext j
  unfold xst upd
  by_cases h : j = 6
  · simp [h]
  · simp [h]
theorem xst_7 (x : Nat → Int32) (k a : Nat) (br br' : Bool) : upd (xst x k a br) 7 (bI br') = xst x k a br' := by
  funext j
  unfold xst upd
  by_cases h : j = 7
  · simp [h]
  · simp [h]
def nxB (t : Nat → Int32) (n a : Nat) (l g : Int32) : Bool := decide (a < n) && isInB (t a) l g
theorem x_next {n a k : Nat} {br : Bool} (hx1 : x 1 = nI n) (hn : n ≤ 80) (ha : a ≤ n) (l g : Int32) : F2 ε jX6_isNextIn [.inr (0, 33), .inl l, .inl g] (xG G t f u w (xst x k a br)) (some (bI (nxB t n a l g))) (xG G t f u w (xst x k a br)) := by
  have h1 : xst x k a br 1 = nI n := hx1
  have h6 : xst x k a br 6 = nI a := rfl
  have hno : nxB t n a l g = false → E2 ε jX6_isNextIn 41 [some (.inr (0, 33)), some (.inl l), some (.inl g)] [] (xG G t f u w (xst x k a br)) (fun v' G' => v' = some (bI (nxB t n a l g)) ∧ G' = xG G t f u w (xst x k a br)) := by
    intro e
    rw [e]
    repeat (first | refine e2_step rfl rfl ?_ | refine e2x_get rfl rfl ?_)
    exact e2_zret rfl rfl rfl ⟨rfl, rfl⟩
  refine C2.of (ls := [some (.inr (0, 33)), some (.inl l), some (.inl g)]) okX6_isNextIn rfl rfl ?_
  repeat (first | refine e2_step rfl rfl ?_ | refine e2x_get rfl rfl ?_)
  rw [h6, h1]
  refine e2_if rfl rfl (fun z => ?_) (fun z => ?_)
  · rw [nI_leI (by omega) (by omega)] at z
    exact hno (by unfold nxB; rw [decide_eq_false (by omega), Bool.false_and])
  · rw [nI_leI (by omega) (by omega)] at z
    repeat (first | refine e2_step rfl rfl ?_ | refine e2x_get rfl rfl ?_)
    refine e2x_cald a rfl h6 (by omega) ?_
    repeat (first | refine e2_step rfl rfl ?_ | refine e2x_get rfl rfl ?_)
    refine e2_if rfl rfl (fun c => ?_) (fun c => ?_)
    · exact hno (by unfold nxB isInB; rw [decide_eq_false (p := l ≤ t a) (Int32.not_le.2 c), Bool.false_and, Bool.and_false])
    · repeat (first | refine e2_step rfl rfl ?_ | refine e2x_get rfl rfl ?_)
      refine e2x_cald a rfl h6 (by omega) ?_
      repeat (first | refine e2_step rfl rfl ?_ | refine e2x_get rfl rfl ?_)
      refine e2_if rfl rfl (fun d => ?_) (fun d => ?_)
      · exact hno (by unfold nxB isInB; rw [decide_eq_false (p := t a ≤ g) (Int32.not_le.2 d), Bool.and_false, Bool.and_false])
      · have e : nxB t n a l g = true := by
          unfold nxB isInB
          rw [decide_eq_true (p := a < n) (by omega), decide_eq_true (p := l ≤ t a) (Int32.not_lt.1 c), decide_eq_true (p := t a ≤ g) (Int32.not_lt.1 d)]
          rfl
        rw [e]
        repeat (first | refine e2_step rfl rfl ?_ | refine e2x_get rfl rfl ?_)
        exact e2_zret rfl rfl rfl ⟨rfl, rfl⟩
/-- a digit: where it stops, broken or not, its value -/
def rdD (t : Nat → Int32) (n a : Nat) (br : Bool) (m : Nat) : Nat × Bool × Nat := if br = false ∧ dgB t n a m = true then (a + 1, false, dgt t a) else (a, true, 0)
theorem x_digit {n a k m : Nat} {br : Bool} (hm : m ≤ 9) (hx1 : x 1 = nI n) (hn : n ≤ 80) (ha : a ≤ n) : F2 ε jX6_readDigit [.inr (0, 33), .inl (nI (48 + m))] (xG G t f u w (xst x k a br)) (some (nI (rdD t n a br m).2.2)) (xG G t f u w (xst x k (rdD t n a br m).1 (rdD t n a br m).2.1)) := by
  have h17 : rdD t n a br m = (a, true, 0) → E2 ε jX6_readDigit 17 [some (.inr (0, 33)), some (.inl (nI (48 + m))), none] [] (xG G t f u w (xst x k a br)) (fun v' G' => v' = some (nI (rdD t n a br m).2.2) ∧ G' = xG G t f u w (xst x k (rdD t n a br m).1 (rdD t n a br m).2.1)) := by
    intro he
    rw [he]
    repeat (first | refine e2_step rfl rfl ?_ | refine e2x_get rfl rfl ?_)
    refine e2x_putz rfl (Or.inr rfl) ?_
    rw [show upd (xst x k a br) 7 (nI 1) = xst x k a true from xst_7 x k a br true]
    repeat (first | refine e2_step rfl rfl ?_ | refine e2x_get rfl rfl ?_)
    exact e2_iret rfl rfl ⟨rfl, rfl⟩
  refine C2.of (ls := [some (.inr (0, 33)), some (.inl (nI (48 + m))), none]) okX6_readDigit rfl rfl ?_
  repeat (first | refine e2_step rfl rfl ?_ | refine e2x_get rfl rfl ?_)
  cases br with
  | true =>
    refine e2_if rfl rfl (fun _ => h17 (by unfold rdD; rw [if_neg (fun z => Bool.noConfusion z.1)])) (fun z => absurd (show ¬ nI 1 = 0 by decide) z)
  | false =>
    refine e2_if rfl rfl (fun z => absurd rfl z) (fun _ => ?_)
    repeat (first | refine e2_step rfl rfl ?_ | refine e2x_get rfl rfl ?_)
    refine e2_fi (x_next hx1 hn ha (nI 48) (nI (48 + m))) rfl rfl ⟨rfl, rfl, rfl⟩ rfl rfl rfl (by first | exact hi | decide) rfl rfl rfl ?_
    have hnb : nxB t n a (nI 48) (nI (48 + m)) = dgB t n a m := rfl
    rw [hnb]
    refine e2_if rfl rfl (fun c => ?_) (fun c => ?_)
    · rw [bI_0, Bool.not_eq_false] at c
      obtain ⟨d1, d2, d3⟩ := dgB_of hm c
      have he : rdD t n a false m = (a + 1, false, dgt t a) := by unfold rdD; rw [if_pos ⟨rfl, c⟩]
      rw [he]
      repeat (first | refine e2_step rfl rfl ?_ | refine e2x_get rfl rfl ?_)
      refine e2x_cald a rfl rfl (by omega) ?_
      rw [d3]
      repeat (first | refine e2_step rfl rfl ?_ | refine e2x_get rfl rfl ?_)
      rw [pk_sub (by omega), Nat.add_sub_cancel_left, show xst x k a false 6 = nI a from rfl, nI_add']
      refine e2x_put rfl (by omega) ?_
      rw [xst_6]
      repeat (first | refine e2_step rfl rfl ?_ | refine e2x_get rfl rfl ?_)
      exact e2_iret rfl rfl ⟨rfl, rfl⟩
    · rw [bI_0, Classical.not_not] at c
      exact h17 (by unfold rdD; rw [if_neg (fun z => by rw [c] at z; exact Bool.noConfusion z.2)])
/-- a sign -/
def rdS (t : Nat → Int32) (n a : Nat) (br : Bool) (s : Int32) : Nat × Bool := if br = false ∧ nxB t n a s s = true then (a + 1, false) else (a, true)
theorem x_sign {n a k : Nat} {br : Bool} (hx1 : x 1 = nI n) (hn : n ≤ 80) (ha : a ≤ n) (s : Int32) : F2 ε jX6_readSign [.inr (0, 33), .inl s] (xG G t f u w (xst x k a br)) none (xG G t f u w (xst x k (rdS t n a br s).1 (rdS t n a br s).2)) := by
  have h16 : rdS t n a br s = (a, true) → E2 ε jX6_readSign 16 [some (.inr (0, 33)), some (.inl s)] [] (xG G t f u w (xst x k a br)) (fun v' G' => v' = none ∧ G' = xG G t f u w (xst x k (rdS t n a br s).1 (rdS t n a br s).2)) := by
    intro he
    rw [he]
    repeat (first | refine e2_step rfl rfl ?_ | refine e2x_get rfl rfl ?_)
    refine e2x_putz rfl (Or.inr rfl) ?_
    rw [show upd (xst x k a br) 7 (nI 1) = xst x k a true from xst_7 x k a br true]
    repeat (first | refine e2_step rfl rfl ?_ | refine e2x_get rfl rfl ?_)
    exact e2_vret rfl rfl ⟨rfl, rfl⟩
  refine C2.of (ls := [some (.inr (0, 33)), some (.inl s)]) okX6_readSign rfl rfl ?_
  repeat (first | refine e2_step rfl rfl ?_ | refine e2x_get rfl rfl ?_)
  cases br with
  | true =>
    refine e2_if rfl rfl (fun _ => h16 (by unfold rdS; rw [if_neg (fun z => Bool.noConfusion z.1)])) (fun z => absurd (show ¬ nI 1 = 0 by decide) z)
  | false =>
    refine e2_if rfl rfl (fun z => absurd rfl z) (fun _ => ?_)
    repeat (first | refine e2_step rfl rfl ?_ | refine e2x_get rfl rfl ?_)
    refine e2_fi (x_next hx1 hn ha s s) rfl rfl ⟨rfl, rfl, rfl⟩ rfl rfl rfl (by first | exact hi | decide) rfl rfl rfl ?_
    refine e2_if rfl rfl (fun c => ?_) (fun c => ?_)
    · rw [bI_0, Bool.not_eq_false] at c
      have he : rdS t n a false s = (a + 1, false) := by unfold rdS; rw [if_pos ⟨rfl, c⟩]
      rw [he]
      repeat (first | refine e2_step rfl rfl ?_ | refine e2x_get rfl rfl ?_)
      rw [show xst x k a false 6 = nI a from rfl, nI_add']
      refine e2x_put rfl (by omega) ?_
      rw [xst_6]
      exact e2_vret rfl rfl ⟨rfl, rfl⟩
    · rw [bI_0, Classical.not_not] at c
      exact h16 (by unfold rdS; rw [if_neg (fun z => by rw [c] at z; exact Bool.noConfusion z.2)])
theorem nxB_s {n a : Nat} {s : Int32} : nxB t n a s s = (tkS t n a s).isSome := by
  unfold nxB tkS isInB
  by_cases h : a < n
  · rw [decide_eq_true h, if_pos h, Bool.true_and]
    by_cases h2 : t a = s
    · rw [if_pos h2, h2, decide_eq_true (Int32.le_refl s)]
      rfl
    · rw [if_neg h2]
      by_cases h3 : s ≤ t a
      · rw [decide_eq_true h3, decide_eq_false (p := t a ≤ s) (fun z => h2 (Int32.le_antisymm z h3))]
        rfl
      · rw [decide_eq_false h3]
        rfl
  · rw [decide_eq_false h, if_neg h]
    rfl
theorem rdS_some {n a a' : Nat} {s : Int32} (h : tkS t n a s = some a') : rdS t n a false s = (a', false) := by
  have e := (tkS_of h).1
  unfold rdS
  rw [nxB_s, h, if_pos ⟨rfl, rfl⟩, e]
theorem rdS_none {n a : Nat} {s : Int32} (h : tkS t n a s = none) : rdS t n a false s = (a, true) := by
  unfold rdS
  rw [nxB_s, h, if_neg (fun z => Bool.noConfusion z.2)]
theorem rdS_t {n a : Nat} {s : Int32} : rdS t n a true s = (a, true) := by
  unfold rdS
  rw [if_neg (fun z => Bool.noConfusion z.1)]
theorem rdD_t {n a m : Nat} : rdD t n a true m = (a, true, 0) := by
  unfold rdD
  rw [if_neg (fun z => Bool.noConfusion z.1)]
/-- a number -/
def rdN (t : Nat → Int32) (n a : Nat) (br : Bool) : Nat × Bool × Nat := if br = true then (a, true, 0) else match tkN t n a with
  | none => (a, true, 0)
  | some (a', v) => (a', false, v)
theorem x_number {n a k : Nat} {br : Bool} (hx1 : x 1 = nI n) (hn : n ≤ 80) (ha : a ≤ n) : F2 ε jX6_readNumber [.inr (0, 33)] (xG G t f u w (xst x k a br)) (some (nI (rdN t n a br).2.2)) (xG G t f u w (xst x k (rdN t n a br).1 (rdN t n a br).2.1)) := by
  refine C2.of (ls := [some (.inr (0, 33)), none]) okX6_readNumber rfl rfl ?_
  repeat (first | refine e2_step rfl rfl ?_ | refine e2x_get rfl rfl ?_)
  refine e2_fi (x_digit (m := 9) (br := br) (by omega) hx1 hn ha) rfl rfl ⟨rfl, rfl, rfl⟩ rfl rfl rfl (by first | exact hi | decide) rfl rfl rfl ?_
  cases br with
  | true =>
    rw [rdD_t]
    have e : rdN t n a true = (a, true, 0) := rfl
    rw [e]
    repeat (first | refine e2_step rfl rfl ?_ | refine e2x_get rfl rfl ?_)
    refine e2_if rfl rfl (fun _ => ?_) (fun z => absurd rfl z)
    repeat (first | refine e2_step rfl rfl ?_ | refine e2x_get rfl rfl ?_)
    exact e2_iret rfl rfl ⟨rfl, rfl⟩
  | false =>
    have e0 : rdN t n a false = match tkN t n a with
      | none => (a, true, 0)
      | some (a', v) => (a', false, v) := rfl
    cases c : dgB t n a 9 with
    | false =>
      have e1 : tkN t n a = none := by unfold tkN; rw [if_neg (by rw [c]; decide)]
      have e2 : rdD t n a false 9 = (a, true, 0) := by unfold rdD; rw [if_neg (fun z => by rw [c] at z; exact Bool.noConfusion z.2)]
      rw [e0, e1, e2]
      repeat (first | refine e2_step rfl rfl ?_ | refine e2x_get rfl rfl ?_)
      refine e2_if rfl rfl (fun _ => ?_) (fun z => absurd rfl z)
      repeat (first | refine e2_step rfl rfl ?_ | refine e2x_get rfl rfl ?_)
      exact e2_iret rfl rfl ⟨rfl, rfl⟩
    | true =>
      obtain ⟨d1, d2, d3⟩ := dgB_of (by omega) c
      have e2 : rdD t n a false 9 = (a + 1, false, dgt t a) := by unfold rdD; rw [if_pos ⟨rfl, c⟩]
      rw [e2]
      repeat (first | refine e2_step rfl rfl ?_ | refine e2x_get rfl rfl ?_)
      refine e2_if rfl rfl (fun z => ?_) (fun z => ?_)
      · have z2 : nI (dgt t a) = nI 0 := z
        rw [nI_eq (by omega) (by omega)] at z2
        have e1 : tkN t n a = some (a + 1, 0) := by unfold tkN; rw [if_pos c, if_pos z2]
        rw [e0, e1, z2]
        repeat (first | refine e2_step rfl rfl ?_ | refine e2x_get rfl rfl ?_)
        exact e2_iret rfl rfl ⟨rfl, rfl⟩
      · have z2 : ¬ nI (dgt t a) = nI 0 := z
        rw [nI_eq (by omega) (by omega)] at z2
        repeat (first | refine e2_step rfl rfl ?_ | refine e2x_get rfl rfl ?_)
        refine e2_fi (x_next (a := a + 1) (br := false) hx1 hn (by omega) (nI 48) (nI 57)) rfl rfl ⟨rfl, rfl, rfl⟩ rfl rfl rfl (by first | exact hi | decide) rfl rfl rfl ?_
        have hnb : nxB t n (a + 1) (nI 48) (nI 57) = dgB t n (a + 1) 9 := rfl
        rw [hnb]
        refine e2_if rfl rfl (fun y => ?_) (fun y => ?_)
        · rw [bI_0] at y
          have e1 : tkN t n a = some (a + 1, dgt t a) := by unfold tkN; rw [if_pos c, if_neg z2, if_neg (by rw [y]; decide)]
          rw [e0, e1]
          repeat (first | refine e2_step rfl rfl ?_ | refine e2x_get rfl rfl ?_)
          exact e2_iret rfl rfl ⟨rfl, rfl⟩
        · rw [bI_0, Bool.not_eq_false] at y
          have e1 : tkN t n a = some (a + 2, 10 * dgt t a + dgt t (a + 1)) := by unfold tkN; rw [if_pos c, if_neg z2, if_pos y]
          have e3 : rdD t n (a + 1) false 9 = (a + 2, false, dgt t (a + 1)) := by unfold rdD; rw [if_pos ⟨rfl, y⟩]
          rw [e0, e1]
          repeat (first | refine e2_step rfl rfl ?_ | refine e2x_get rfl rfl ?_)
          refine e2_fi (x_digit (a := a + 1) (br := false) (m := 9) (by omega) hx1 hn (by omega)) rfl rfl ⟨rfl, rfl, rfl⟩ rfl rfl rfl (by first | exact hi | decide) rfl rfl rfl ?_
          rw [e3]
          repeat (first | refine e2_step rfl rfl ?_ | refine e2x_get rfl rfl ?_)
          refine e2_iret rfl rfl ⟨?_, rfl⟩
          rw [pk_mul, nI_add', Nat.mul_comm]
end Tb0
section Tc0
variable {ε : EE} {J : JT} {pc : Nat} {ls : List (Option V0)} {st : List V0} {G : GG} {t f u w x : Nat → Int32} {Q : Option Int32 → GG → Prop}
/-- what reading one range leaves -/
def rgG (G : GG) (t f u w x : Nat → Int32) (k n a : Nat) : GG := match rd1 t n a with
  | (a', none) => xG G t f u w (xst x k a' true)
  | (a', some q) => xG G t (upd f k (nI q.1)) (upd u k (nI q.2.1)) (upd w k (nI q.2.2)) (xst x (k + 1) a' false)
theorem x_range {n a k : Nat} (hx1 : x 1 = nI n) (hn : n ≤ 80) (ha : a ≤ n) (hk : k < 14) : F2 ε jX6_readRange [.inr (0, 33)] (xG G t f u w (xst x k a false)) none (rgG G t f u w x k n a) := by
  have b29 : ∀ a', rd1 t n a = (a', none) → ∀ l1 l2 l3, E2 ε jX6_readRange 29 [some (.inr (0, 33)), l1, l2, l3] [] (xG G t f u w (xst x k a' true)) (fun v' G' => v' = none ∧ G' = rgG G t f u w x k n a) := by
    intro a' he l1 l2 l3
    repeat (first | refine e2_step rfl rfl ?_ | refine e2x_get rfl rfl ?_)
    refine e2_if rfl rfl (fun _ => ?_) (fun z => absurd (show ¬ nI 1 = 0 by decide) z)
    exact e2_vret rfl rfl ⟨rfl, by unfold rgG; rw [he]⟩
  have b22 : ∀ a', a' ≤ n → rd1 t n a = (a', none) → ∀ l1 l2 l3, E2 ε jX6_readRange 22 [some (.inr (0, 33)), l1, l2, l3] [] (xG G t f u w (xst x k a' true)) (fun v' G' => v' = none ∧ G' = rgG G t f u w x k n a) := by
    intro a' ha' he l1 l2 l3
    repeat (first | refine e2_step rfl rfl ?_ | refine e2x_get rfl rfl ?_)
    refine e2_fi (x_digit (a := a') (br := true) (m := 7) (by omega) hx1 hn ha') rfl rfl ⟨rfl, rfl, rfl⟩ rfl rfl rfl (by first | exact hi | decide) rfl rfl rfl ?_
    rw [rdD_t]
    repeat (first | refine e2_stepS 29 rfl rfl rfl ?_ | refine e2x_getS 29 rfl rfl rfl ?_)
    exact b29 a' he _ _ _
  have b16 : ∀ a', a' ≤ n → rd1 t n a = (a', none) → ∀ l1 l2 l3, E2 ε jX6_readRange 16 [some (.inr (0, 33)), l1, l2, l3] [] (xG G t f u w (xst x k a' true)) (fun v' G' => v' = none ∧ G' = rgG G t f u w x k n a) := by
    intro a' ha' he l1 l2 l3
    repeat (first | refine e2_step rfl rfl ?_ | refine e2x_get rfl rfl ?_)
    refine e2_fv (x_sign (a := a') (br := true) hx1 hn ha' (nI 61)) rfl rfl ⟨rfl, rfl, rfl⟩ rfl rfl rfl (by first | exact hi | decide) rfl rfl rfl ?_
    rw [rdS_t]
    exact b22 a' ha' he _ _ _
  have b11 : ∀ a', a' ≤ n → rd1 t n a = (a', none) → ∀ l1 l2 l3, E2 ε jX6_readRange 11 [some (.inr (0, 33)), l1, l2, l3] [] (xG G t f u w (xst x k a' true)) (fun v' G' => v' = none ∧ G' = rgG G t f u w x k n a) := by
    intro a' ha' he l1 l2 l3
    repeat (first | refine e2_step rfl rfl ?_ | refine e2x_get rfl rfl ?_)
    refine e2_fi (x_number (a := a') (br := true) hx1 hn ha') rfl rfl ⟨rfl, rfl, rfl⟩ rfl rfl rfl (by first | exact hi | decide) rfl rfl rfl ?_
    rw [show rdN t n a' true = (a', true, 0) from rfl]
    repeat (first | refine e2_stepS 16 rfl rfl rfl ?_ | refine e2x_getS 16 rfl rfl rfl ?_)
    exact b16 a' ha' he _ _ _
  have b5 : ∀ a', a' ≤ n → rd1 t n a = (a', none) → ∀ l1 l2 l3, E2 ε jX6_readRange 5 [some (.inr (0, 33)), l1, l2, l3] [] (xG G t f u w (xst x k a' true)) (fun v' G' => v' = none ∧ G' = rgG G t f u w x k n a) := by
    intro a' ha' he l1 l2 l3
    repeat (first | refine e2_step rfl rfl ?_ | refine e2x_get rfl rfl ?_)
    refine e2_fv (x_sign (a := a') (br := true) hx1 hn ha' (nI 45)) rfl rfl ⟨rfl, rfl, rfl⟩ rfl rfl rfl (by first | exact hi | decide) rfl rfl rfl ?_
    rw [rdS_t]
    exact b11 a' ha' he _ _ _
  refine C2.of (ls := [some (.inr (0, 33)), none, none, none]) okX6_readRange rfl rfl ?_
  repeat (first | refine e2_step rfl rfl ?_ | refine e2x_get rfl rfl ?_)
  refine e2_fi (x_number (a := a) (br := false) hx1 hn ha) rfl rfl ⟨rfl, rfl, rfl⟩ rfl rfl rfl (by first | exact hi | decide) rfl rfl rfl ?_
  have e0 : ∀ a, rdN t n a false = match tkN t n a with
    | none => (a, true, 0)
    | some (a', v) => (a', false, v) := fun _ => rfl
  rw [e0]
  cases e1 : tkN t n a with
  | none =>
    repeat (first | refine e2_stepS 5 rfl rfl rfl ?_ | refine e2x_getS 5 rfl rfl rfl ?_)
    exact b5 a ha (by unfold rd1; rw [e1]) _ _ _
  | some q1 =>
    obtain ⟨a1, v1⟩ := q1
    have b1 := tkN_of e1
    repeat (first | refine e2_step rfl rfl ?_ | refine e2x_get rfl rfl ?_)
    refine e2_fv (x_sign (a := a1) (br := false) hx1 hn b1.2.1 (nI 45)) rfl rfl ⟨rfl, rfl, rfl⟩ rfl rfl rfl (by first | exact hi | decide) rfl rfl rfl ?_
    cases e2 : tkS t n a1 (nI 45) with
    | none =>
      rw [rdS_none e2]
      exact b11 a1 b1.2.1 (by unfold rd1; rw [e1]; dsimp only; rw [e2]) _ _ _
    | some a2 =>
      have b2 := tkS_of e2
      rw [rdS_some e2]
      repeat (first | refine e2_step rfl rfl ?_ | refine e2x_get rfl rfl ?_)
      refine e2_fi (x_number (a := a2) (br := false) hx1 hn b2.2) rfl rfl ⟨rfl, rfl, rfl⟩ rfl rfl rfl (by first | exact hi | decide) rfl rfl rfl ?_
      rw [e0]
      cases e3 : tkN t n a2 with
      | none =>
        repeat (first | refine e2_stepS 16 rfl rfl rfl ?_ | refine e2x_getS 16 rfl rfl rfl ?_)
        exact b16 a2 b2.2 (by unfold rd1; rw [e1]; dsimp only; rw [e2]; dsimp only; rw [e3]) _ _ _
      | some q3 =>
        obtain ⟨a3, v3⟩ := q3
        have b3 := tkN_of e3
        repeat (first | refine e2_step rfl rfl ?_ | refine e2x_get rfl rfl ?_)
        refine e2_fv (x_sign (a := a3) (br := false) hx1 hn b3.2.1 (nI 61)) rfl rfl ⟨rfl, rfl, rfl⟩ rfl rfl rfl (by first | exact hi | decide) rfl rfl rfl ?_
        cases e4 : tkS t n a3 (nI 61) with
        | none =>
          rw [rdS_none e4]
          exact b22 a3 b3.2.1 (by unfold rd1; rw [e1]; dsimp only; rw [e2]; dsimp only; rw [e3]; dsimp only; rw [e4]) _ _ _
        | some a4 =>
          have b4 := tkS_of e4
          rw [rdS_some e4]
          repeat (first | refine e2_step rfl rfl ?_ | refine e2x_get rfl rfl ?_)
          refine e2_fi (x_digit (a := a4) (br := false) (m := 7) (by omega) hx1 hn b4.2) rfl rfl ⟨rfl, rfl, rfl⟩ rfl rfl rfl (by first | exact hi | decide) rfl rfl rfl ?_
          cases e5 : dgB t n a4 7 with
          | false =>
            have e6 : rdD t n a4 false 7 = (a4, true, 0) := by unfold rdD; rw [if_neg (fun z => by rw [e5] at z; exact Bool.noConfusion z.2)]
            rw [e6]
            repeat (first | refine e2_stepS 29 rfl rfl rfl ?_ | refine e2x_getS 29 rfl rfl rfl ?_)
            exact b29 a4 (by unfold rd1; rw [e1]; dsimp only; rw [e2]; dsimp only; rw [e3]; dsimp only; rw [e4]; dsimp only; rw [e5]; rfl) _ _ _
          | true =>
            obtain ⟨d1, d2, d3⟩ := dgB_of (by omega) e5
            have e6 : rdD t n a4 false 7 = (a4 + 1, false, dgt t a4) := by unfold rdD; rw [if_pos ⟨rfl, e5⟩]
            have hr1 : rd1 t n a = (a4 + 1, some (v1, v3, dgt t a4)) := by unfold rd1; rw [e1]; dsimp only; rw [e2]; dsimp only; rw [e3]; dsimp only; rw [e4]; dsimp only; rw [e5]; rfl
            rw [e6]
            repeat (first | refine e2_step rfl rfl ?_ | refine e2x_get rfl rfl ?_)
            refine e2_if rfl rfl (fun z => absurd rfl z) (fun _ => ?_)
            repeat (first | refine e2_step rfl rfl ?_ | refine e2x_get rfl rfl ?_)
            rw [show xst x k (a4 + 1) false 5 = nI k from rfl]
            refine e2_if rfl rfl (fun z => absurd (show nI 14 ≤ nI k from z) (nI_ge (by omega) (by omega))) (fun _ => ?_)
            repeat (first | refine e2_step rfl rfl ?_ | refine e2x_get rfl rfl ?_)
            refine e2_iast (i := 0) (kk := 35) k rfl rfl (by decide) rfl (by omega) ?_
            rw [xG_w35]
            repeat (first | refine e2_step rfl rfl ?_ | refine e2x_get rfl rfl ?_)
            refine e2_iast (i := 0) (kk := 36) k rfl rfl (by decide) rfl (by omega) ?_
            rw [xG_w36]
            repeat (first | refine e2_step rfl rfl ?_ | refine e2x_get rfl rfl ?_)
            refine e2_iast (i := 0) (kk := 37) k rfl rfl (by decide) rfl (by omega) ?_
            rw [xG_w37]
            repeat (first | refine e2_step rfl rfl ?_ | refine e2x_get rfl rfl ?_)
            rw [show xst x k (a4 + 1) false 5 = nI k from rfl, nI_add']
            refine e2x_put rfl (by omega) ?_
            rw [xst_5]
            exact e2_vret rfl rfl ⟨rfl, by unfold rgG; rw [hr1]⟩
theorem rd1_5 {n a a' : Nat} {q : Nat × Nat × Nat} (h : rd1 t n a = (a', some q)) : a + 5 ≤ a' := by
  unfold rd1 at h
  split at h
  · cases h
  · rename_i a1 f h1
    split at h
    · cases h
    · rename_i a2 h2
      split at h
      · cases h
      · rename_i a3 g h3
        split at h
        · cases h
        · rename_i a4 h4
          split at h
          · cases h
            have e1 := tkN_of h1
            have e2 := tkS_of h2
            have e3 := tkN_of h3
            have e4 := tkS_of h4
            omega
          · cases h
/-- the rows from place i on hold the ranges -/
def lsOk (f u w : Nat → Int32) (i : Nat) (L : List (Nat × Nat × Nat)) : Prop := ∀ j q, L[j]? = some q → f (i + j) = nI q.1 ∧ u (i + j) = nI q.2.1 ∧ w (i + j) = nI q.2.2
theorem lsOk_cons {i : Nat} {q : Nat × Nat × Nat} {L : List (Nat × Nat × Nat)} (h0 : f i = nI q.1 ∧ u i = nI q.2.1 ∧ w i = nI q.2.2) (h : lsOk f u w (i + 1) L) : lsOk f u w i (q :: L) := by
  intro j z hz
  cases j with
  | zero =>
    simp at hz
    subst hz
    exact h0
  | succ j =>
    have := h j z (by simpa using hz)
    rw [show i + (j + 1) = i + 1 + j by omega]
    exact this
def fltI : Option Nat → Int32
  | some p => nI p
  | none => -9
/-- how reading the ranges ends: its answer and what it leaves -/
def rdQ (G : GG) (t f u w x : Nat → Int32) (i : Nat) (P : List (Nat × Nat × Nat) × Option Nat) (v' : Option Int32) (G' : GG) : Prop := ∃ f' u' w' i' a' br', v' = some (fltI P.2) ∧ G' = xG G t f' u' w' (xst x i' a' br') ∧ (P.2 = none → i' = i + P.1.length ∧ (∀ j, j < i → f' j = f j ∧ u' j = u j ∧ w' j = w j) ∧ lsOk f' u' w' i P.1)
theorem x_readL {n : Nat} (hx1 : x 1 = nI n) (hn : n ≤ 80) : ∀ (k a i : Nat) (f u w : Nat → Int32), a ≤ n → n < a + k → 6 * i ≤ a → E2 ε jX6_read 17 [some (.inr (0, 33)), some (.inl (nI i))] [] (xG G t f u w (xst x i a false)) (rdQ G t f u w x i (prs t n k a)) := by
  intro k
  induction k with
  | zero => intro a i f u w ha hk; omega
  | succ k ih =>
    intro a i f u w ha hk hi6
    have hend : ∀ j i' a' f' u' w', (prs t n (k + 1) a).2 = some a' → j < 1000 → E2 ε jX6_read 17 [some (.inr (0, 33)), some (.inl (nI j))] [] (xG G t f' u' w' (xst x i' a' true)) (rdQ G t f u w x i (prs t n (k + 1) a)) := by
      intro j i' a' f' u' w' hp hj
      have h67 : E2 ε jX6_read 67 [some (.inr (0, 33)), some (.inl (nI j))] [] (xG G t f' u' w' (xst x i' a' true)) (rdQ G t f u w x i (prs t n (k + 1) a)) := by
        repeat (first | refine e2_step rfl rfl ?_ | refine e2x_get rfl rfl ?_)
        refine e2_iret rfl rfl ⟨f', u', w', i', a', true, ?_, rfl, fun z => ?_⟩
        · rw [hp]; rfl
        · rw [hp] at z; cases z
      repeat (first | refine e2_step rfl rfl ?_ | refine e2x_get rfl rfl ?_)
      refine e2_if rfl rfl (fun _ => h67) (fun _ => ?_)
      repeat (first | refine e2_step rfl rfl ?_ | refine e2x_get rfl rfl ?_)
      refine e2_if rfl rfl (fun _ => h67) (fun z => absurd (show ¬ nI 1 = 0 by decide) z)
    have hi : i < 14 := by omega
    have hps : prs t n (k + 1) a = match rd1 t n a with
      | (a', none) => ([], some a')
      | (a', some q) => match tkS t n a' (nI 59) with
        | some a'' => (q :: (prs t n k a'').1, (prs t n k a'').2)
        | none => ([q], if a' < n then some a' else none) := rfl
    have hle := rd1_le (t := t) ha
    repeat (first | refine e2_step rfl rfl ?_ | refine e2x_get rfl rfl ?_)
    refine e2_if rfl rfl (fun z => absurd (show nI 14 ≤ nI i from z) (nI_ge (by omega) (by omega))) (fun _ => ?_)
    repeat (first | refine e2_step rfl rfl ?_ | refine e2x_get rfl rfl ?_)
    refine e2_if rfl rfl (fun z => absurd rfl z) (fun _ => ?_)
    repeat (first | refine e2_step rfl rfl ?_ | refine e2x_get rfl rfl ?_)
    refine e2_fv (x_range (f := f) (u := u) (w := w) (a := a) (k := i) hx1 hn ha hi) rfl rfl ⟨rfl, rfl, rfl⟩ rfl rfl rfl (by first | exact hi | decide) rfl rfl rfl ?_
    unfold rgG
    cases e1 : rd1 t n a with
    | mk a' oq =>
    rw [e1] at hle
    cases oq with
    | none =>
      have hp : prs t n (k + 1) a = ([], some a') := by rw [hps, e1]
      dsimp only
      repeat (first | refine e2_step rfl rfl ?_ | refine e2x_get rfl rfl ?_)
      refine e2_if rfl rfl (fun _ => ?_) (fun z => absurd (show ¬ nI 1 = 0 by decide) z)
      repeat (first | refine e2_step rfl rfl ?_ | refine e2x_get rfl rfl ?_)
      refine e2_fv (x_sign (a := a') (br := true) hx1 hn hle (nI 59)) rfl rfl ⟨rfl, rfl, rfl⟩ rfl rfl rfl (by first | exact hi | decide) rfl rfl rfl ?_
      rw [rdS_t]
      repeat (first | refine e2_stepS 17 rfl rfl rfl ?_ | refine e2x_getS 17 rfl rfl rfl ?_)
      rw [nI_add']
      exact hend _ _ _ _ _ _ (by rw [hp]) (by omega)
    | some q =>
      have h5 := rd1_5 e1
      dsimp only
      repeat (first | refine e2_step rfl rfl ?_ | refine e2x_get rfl rfl ?_)
      refine e2_if rfl rfl (fun z => absurd rfl z) (fun _ => ?_)
      repeat (first | refine e2_step rfl rfl ?_ | refine e2x_get rfl rfl ?_)
      rw [show xst x (i + 1) a' false 6 = nI a' from rfl, show xst x (i + 1) a' false 1 = nI n from hx1]
      have h55 : ¬ (a' = n ∧ tkS t n a' (nI 59) = none) → E2 ε jX6_read 55 [some (.inr (0, 33)), some (.inl (nI i))] [] (xG G t (upd f i (nI q.1)) (upd u i (nI q.2.1)) (upd w i (nI q.2.2)) (xst x (i + 1) a' false)) (rdQ G t f u w x i (prs t n (k + 1) a)) := by
        intro hne
        repeat (first | refine e2_step rfl rfl ?_ | refine e2x_get rfl rfl ?_)
        refine e2_fv (x_sign (a := a') (br := false) hx1 hn hle (nI 59)) rfl rfl ⟨rfl, rfl, rfl⟩ rfl rfl rfl (by first | exact hi | decide) rfl rfl rfl ?_
        cases e2 : tkS t n a' (nI 59) with
        | none =>
          have hlt : a' < n := by
            rcases Nat.lt_or_ge a' n with z | z
            · exact z
            · exact absurd ⟨Nat.le_antisymm hle z, e2⟩ hne
          have hp : prs t n (k + 1) a = ([q], some a') := by rw [hps, e1]; dsimp only; rw [e2]; dsimp only; rw [if_pos hlt]
          rw [rdS_none e2]
          repeat (first | refine e2_stepS 17 rfl rfl rfl ?_ | refine e2x_getS 17 rfl rfl rfl ?_)
          rw [nI_add']
          exact hend _ _ _ _ _ _ (by rw [hp]) (by omega)
        | some a'' =>
          have b2 := tkS_of e2
          have hp : prs t n (k + 1) a = (q :: (prs t n k a'').1, (prs t n k a'').2) := by rw [hps, e1]; dsimp only; rw [e2]
          rw [rdS_some e2]
          repeat (first | refine e2_stepS 17 rfl rfl rfl ?_ | refine e2x_getS 17 rfl rfl rfl ?_)
          rw [nI_add']
          have K := ih a'' (i + 1) (upd f i (nI q.1)) (upd u i (nI q.2.1)) (upd w i (nI q.2.2)) b2.2 (by omega) (by omega)
          have hQ : ∀ v' G', rdQ G t (upd f i (nI q.1)) (upd u i (nI q.2.1)) (upd w i (nI q.2.2)) x (i + 1) (prs t n k a'') v' G' → rdQ G t f u w x i (prs t n (k + 1) a) v' G' := by
            rintro v' G' ⟨f', u', w', i', a3, br', h1, h2, h3⟩
            refine ⟨f', u', w', i', a3, br', by rw [hp]; exact h1, h2, fun z => ?_⟩
            rw [hp] at z ⊢
            obtain ⟨g1, g2, g3⟩ := h3 z
            have e9 : ∀ (g : Nat → Int32) (y : Int32) (j : Nat), j < i → upd g i y j = g j := fun g y j hj => by unfold upd; rw [if_neg (by omega)]
            refine ⟨by rw [g1, List.length_cons]; omega, fun j hj => ?_, lsOk_cons ?_ g3⟩
            · have := g2 j (by omega)
              rw [e9 _ _ _ hj, e9 _ _ _ hj, e9 _ _ _ hj] at this
              exact this
            · have := g2 i (by omega)
              simpa [upd] using this
          exact e2_post hQ K
      refine e2_if rfl rfl (fun z => ?_) (fun z => ?_)
      · have z2 : ¬ nI a' = nI n := z
        rw [nI_eq (by omega) (by omega)] at z2
        exact h55 (fun y => z2 y.1)
      · have z2 : nI a' = nI n := Classical.not_not.1 z
        rw [nI_eq (by omega) (by omega)] at z2
        have e2 : tkS t n a' (nI 59) = none := by unfold tkS; rw [if_neg (by omega)]
        have hp : prs t n (k + 1) a = ([q], none) := by rw [hps, e1]; dsimp only; rw [e2]; dsimp only; rw [if_neg (by omega)]
        have e9 : ∀ (g : Nat → Int32) (y : Int32) (j : Nat), j < i → upd g i y j = g j := fun g y j hj => by unfold upd; rw [if_neg (by omega)]
        repeat (first | refine e2_step rfl rfl ?_ | refine e2x_get rfl rfl ?_)
        refine e2_iret rfl rfl ⟨_, _, _, i + 1, a', false, by rw [hp]; rfl, rfl, fun _ => ?_⟩
        rw [hp]
        refine ⟨rfl, fun j hj => ⟨e9 _ _ _ hj, e9 _ _ _ hj, e9 _ _ _ hj⟩, lsOk_cons ?_ (fun j z hz => by simp at hz)⟩
        simp [upd]
theorem x_read {n : Nat} (hx1 : x 1 = nI n) (hn : n ≤ 80) : C2 ε jX6_read [.inr (0, 33)] (xG G t f u w x) (rdQ G t f u w x 0 (prs t n (n + 1) 0)) := by
  refine C2.of (ls := [some (.inr (0, 33)), none]) okX6_read rfl rfl ?_
  repeat (first | refine e2_step rfl rfl ?_ | refine e2x_get rfl rfl ?_)
  refine e2x_put rfl (by omega) ?_
  repeat (first | refine e2_step rfl rfl ?_ | refine e2x_get rfl rfl ?_)
  refine e2x_putz rfl (Or.inl rfl) ?_
  repeat (first | refine e2_step rfl rfl ?_ | refine e2x_get rfl rfl ?_)
  refine e2x_put rfl (by omega) ?_
  have e : upd (upd (upd x 6 (nI 0)) 7 (nI 0)) 5 (nI 0) = xst x 0 0 false := by
    funext j
    unfold xst upd
    by_cases h : j = 5
    · simp [h]
    · by_cases h2 : j = 7
      · simp [h2]; rfl
      · simp [h, h2]
  rw [e]
  repeat (first | refine e2_stepS 17 rfl rfl rfl ?_ | refine e2x_getS 17 rfl rfl rfl ?_)
  exact x_readL hx1 hn (n + 1) 0 0 f u w (by omega) (by omega) (by omega)
theorem x_reversed {L : List (Nat × Nat × Nat)} (hk : x 5 = nI L.length) (hk14 : L.length ≤ 14) (hL : lsOk f u w 0 L) (h100 : ∀ q, q ∈ L → q.1 < 100 ∧ q.2.1 < 100) : F2 ε jX6_hasReversedRange [.inr (0, 33)] (xG G t f u w x) (some (bI (dwnB L))) (xG G t f u w x) := by
  refine C2.of (ls := [some (.inr (0, 33)), none]) okX6_hasReversedRange rfl rfl ?_
  repeat (first | refine e2_stepS 2 rfl rfl rfl ?_ | refine e2x_getS 2 rfl rfl rfl ?_)
  have h : ∀ k i, i + k = L.length → E2 ε jX6_hasReversedRange 2 [some (.inr (0, 33)), some (.inl (nI i))] [] (xG G t f u w x) (fun v' G' => v' = some (bI (dwnB (L.drop i))) ∧ G' = xG G t f u w x) := by
    intro k
    induction k with
    | zero =>
      intro i hi
      have hd : L.drop i = [] := List.drop_eq_nil_of_le (by omega)
      rw [hd]
      repeat (first | refine e2_step rfl rfl ?_ | refine e2x_get rfl rfl ?_)
      rw [hk]
      refine e2_if rfl rfl (fun _ => ?_) (fun z => absurd (nI_le (by omega) (by omega)) z)
      repeat (first | refine e2_step rfl rfl ?_ | refine e2x_get rfl rfl ?_)
      exact e2_zret rfl rfl rfl ⟨rfl, rfl⟩
    | succ k ih =>
      intro i hi
      have hil : i < L.length := by omega
      have hd : L.drop i = L[i] :: L.drop (i + 1) := List.drop_eq_getElem_cons hil
      obtain ⟨g1, g2, -⟩ := hL i L[i] (by simp [hil])
      rw [Nat.zero_add] at g1 g2
      obtain ⟨y1, y2⟩ := h100 L[i] (List.getElem_mem hil)
      have e : dwnB (L.drop i) = (decide (L[i].2.1 < L[i].1) || dwnB (L.drop (i + 1))) := by rw [hd]; rfl
      have K := ih (i + 1) (by omega)
      rw [e]
      generalize L[i] = q at g1 g2 y1 y2 ⊢
      repeat (first | refine e2_step rfl rfl ?_ | refine e2x_get rfl rfl ?_)
      rw [hk]
      refine e2_if rfl rfl (fun z => absurd z (nI_ge (by omega) (by omega))) (fun _ => ?_)
      repeat (first | refine e2_step rfl rfl ?_ | refine e2x_get rfl rfl ?_)
      refine e2_iald (i := 0) (kk := 35) i rfl rfl (by decide) rfl (by omega) ?_
      repeat (first | refine e2_step rfl rfl ?_ | refine e2x_get rfl rfl ?_)
      refine e2_iald (i := 0) (kk := 36) i rfl rfl (by decide) rfl (by omega) ?_
      rw [show xG G t f u w x 0 35 i = f i from rfl, show xG G t f u w x 0 36 i = u i from rfl, g1, g2]
      refine e2_if rfl rfl (fun z => ?_) (fun z => ?_)
      · rw [nI_leI (by omega) (by omega)] at z
        rw [decide_eq_false (by omega), Bool.false_or]
        repeat (first | refine e2_stepS 2 rfl rfl rfl ?_ | refine e2x_getS 2 rfl rfl rfl ?_)
        rw [nI_add']
        exact K
      · rw [nI_leI (by omega) (by omega)] at z
        rw [decide_eq_true (by omega), Bool.true_or]
        repeat (first | refine e2_step rfl rfl ?_ | refine e2x_get rfl rfl ?_)
        exact e2_zret rfl rfl rfl ⟨rfl, rfl⟩
  exact h L.length 0 (by omega)
end Tc0
