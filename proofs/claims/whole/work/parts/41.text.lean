/-! The class's text: its signs and reading a digit, a sign, a number. -/
section NZ3
variable {ε : EE} {J : JT} {pc : Nat} {ls : List (Option V0)} {st : List V0} {G : GG} {t f u w x : Nat → Int32} {Q : Option Int32 → GG → Prop}
theorem e_post {mc ms cells slots : Nat} {ws : va_W} {Q Q' : Option Int32 → va_W → Prop} (h : ∀ v ws, Q v ws → Q' v ws) (k : E ε J mc ms cells slots pc ls st ws Q) : E ε J mc ms cells slots pc ls st ws Q' := by
  intro hT p e R s m args below meth c H locs lsA C hP hD hS hl T hTH X
  obtain ⟨t, a1, o, b1, b2, b3, b4⟩ := k hT p e R s m args below meth c H locs lsA C hP hD hS hl T hTH X
  refine ⟨t, a1, o, b1, b2, ?_, b4⟩
  cases hj : jr J with
  | none =>
    rw [e_Qc_none hj] at b3 ⊢
    obtain ⟨⟨u, c1, c2, c3⟩, c4⟩ := b3
    exact ⟨⟨u, c1, h _ _ c2, c3⟩, c4⟩
  | some ty =>
    rw [e_Qc_some hj] at b3 ⊢
    obtain ⟨⟨r, u, c1, c2, c3⟩, c4⟩ := b3
    exact ⟨⟨r, u, c1, h _ _ c2, c3⟩, c4⟩
theorem e2_post {Q Q' : Option Int32 → GG → Prop} (h : ∀ v G, Q v G → Q' v G) (k : E2 ε J pc ls st G Q) : E2 ε J pc ls st G Q' := e_post (fun v ws z => by
  obtain ⟨G', e, q⟩ := z
  exact ⟨G', e, h v G' q⟩) k
theorem C2.post {As : List V0} {Q Q' : Option Int32 → GG → Prop} (h : ∀ v G, Q v G → Q' v G) (k : C2 ε J As G Q) : C2 ε J As G Q' := by
  unfold C2 e_Ct Met at k ⊢
  refine MetFree.mono k (fun _ _ z => z) (fun _ _ _ _ _ z => z) (fun a s o s' _ z => ⟨?_, z.2⟩)
  have b3 := z.1
  cases hj : jr J with
  | none =>
    rw [e_Qc_none hj] at b3 ⊢
    obtain ⟨⟨u, c1, ⟨G', e, q⟩, c3⟩, c4⟩ := b3
    exact ⟨⟨u, c1, ⟨G', e, h _ _ q⟩, c3⟩, c4⟩
  | some ty =>
    rw [e_Qc_some hj] at b3 ⊢
    obtain ⟨⟨r, u, c1, ⟨G', e, q⟩, c3⟩, c4⟩ := b3
    exact ⟨⟨r, u, c1, ⟨G', e, h _ _ q⟩, c3⟩, c4⟩
def xG (G : GG) (t f u w x : Nat → Int32) : GG := setA (setA (setA (setA (setA G 0 34 t) 0 35 f) 0 36 u) 0 37 w) 0 33 x
theorem xG_self (G : GG) : xG G (G 0 34) (G 0 35) (G 0 36) (G 0 37) (G 0 33) = G := by
  unfold xG
  rw [setA_self, setA_self, setA_self, setA_self, setA_self]
theorem xG_w33 (j : Nat) (v : Int32) : wr (xG G t f u w x) 0 33 j v = xG G t f u w (upd x j v) := by
  show setA _ 0 33 (upd x j v) = _
  unfold xG
  rw [setA_twice]
theorem xG_w34 (j : Nat) (v : Int32) : wr (xG G t f u w x) 0 34 j v = xG G (upd t j v) f u w x := by
  show setA _ 0 34 (upd t j v) = _
  unfold xG
  rw [setA_comm _ 0 33 0 34 _ _ (by decide), setA_comm _ 0 37 0 34 _ _ (by decide), setA_comm _ 0 36 0 34 _ _ (by decide), setA_comm _ 0 35 0 34 _ _ (by decide), setA_twice]
theorem xG_w35 (j : Nat) (v : Int32) : wr (xG G t f u w x) 0 35 j v = xG G t (upd f j v) u w x := by
  show setA _ 0 35 (upd f j v) = _
  unfold xG
  rw [setA_comm _ 0 33 0 35 _ _ (by decide), setA_comm _ 0 37 0 35 _ _ (by decide), setA_comm _ 0 36 0 35 _ _ (by decide), setA_twice]
theorem xG_w36 (j : Nat) (v : Int32) : wr (xG G t f u w x) 0 36 j v = xG G t f (upd u j v) w x := by
  show setA _ 0 36 (upd u j v) = _
  unfold xG
  rw [setA_comm _ 0 33 0 36 _ _ (by decide), setA_comm _ 0 37 0 36 _ _ (by decide), setA_twice]
theorem xG_w37 (j : Nat) (v : Int32) : wr (xG G t f u w x) 0 37 j v = xG G t f u (upd w j v) x := by
  show setA _ 0 37 (upd w j v) = _
  unfold xG
  rw [setA_comm _ 0 33 0 37 _ _ (by decide), setA_twice]
theorem e2x_get {kf nx idx : Nat} {v : Int32} {z : V0} (h : lk (jt J) pc = (30, kf, 6, v, nx, idx)) (hw : ([.inr (0, 34), .inl (x 1), .inr (0, 35), .inr (0, 36), .inr (0, 37), .inl (x 5), .inl (x 6), .inl (x 7)] : List V0)[kf]? = some z) (k : E2 ε J nx ls (z :: st) (xG G t f u w x) Q) : E2 ε J pc ls (.inr (0, 33) :: st) (xG G t f u w x) Q := e2_get h (by decide) rfl hw k
theorem e2x_getS {kf nx idx : Nat} {v : Int32} {z : V0} (stop : Nat) (_ : Nat.beq pc stop = false) (h : lk (jt J) pc = (30, kf, 6, v, nx, idx)) (hw : ([.inr (0, 34), .inl (x 1), .inr (0, 35), .inr (0, 36), .inr (0, 37), .inl (x 5), .inl (x 6), .inl (x 7)] : List V0)[kf]? = some z) (k : E2 ε J nx ls (z :: st) (xG G t f u w x) Q) : E2 ε J pc ls (.inr (0, 33) :: st) (xG G t f u w x) Q := e2_get h (by decide) rfl hw k
theorem e2x_put {kf nx idx : Nat} {v y : Int32} (h : lk (jt J) pc = (31, kf, 6, v, nx, idx)) (hk : kf = 1 ∨ kf = 5 ∨ kf = 6) (k : E2 ε J nx ls st (xG G t f u w (upd x kf y)) Q) : E2 ε J pc ls (.inl y :: .inr (0, 33) :: st) (xG G t f u w x) Q := by
  rcases hk with rfl | rfl | rfl <;> exact e2_put h (by decide) rfl rfl rfl rfl rfl (by rw [xG_w33]; exact k)
theorem e2x_putz {nx idx : Nat} {v y : Int32} (h : lk (jt J) pc = (31, 7, 6, v, nx, idx)) (hy : y = 0 ∨ y = 1) (k : E2 ε J nx ls st (xG G t f u w (upd x 7 y)) Q) : E2 ε J pc ls (.inl y :: .inr (0, 33) :: st) (xG G t f u w x) Q :=
  e2_putz h (by decide) rfl rfl rfl rfl hy rfl (by rw [xG_w33]; exact k)
theorem e2x_cald {a b nx idx : Nat} {v y : Int32} (j : Nat) (h : lk (jt J) pc = (34, a, b, v, nx, idx)) (hx : y = nI j) (hj : j < 80) (k : E2 ε J nx ls (.inl (t j) :: st) (xG G t f u w x) Q) : E2 ε J pc ls (.inl y :: .inr (0, 34) :: st) (xG G t f u w x) Q := e2_cald j h hx (by decide) rfl hj k
theorem e2x_cast {a b nx idx : Nat} {v y z : Int32} (j : Nat) (h : lk (jt J) pc = (38, a, b, v, nx, idx)) (hx : y = nI j) (hj : j < 80) (hz : vp_nar .char z = z) (k : E2 ε J nx ls st (xG G (upd t j z) f u w x) Q) : E2 ε J pc ls (.inl z :: .inl y :: .inr (0, 34) :: st) (xG G t f u w x) Q := e2_cast j h hx (by decide) rfl hj hz (by rw [xG_w34]; exact k)
/-- the numbers of the text: length stays, k ranges, next place a, broken or not -/
def xst (x : Nat → Int32) (k a : Nat) (br : Bool) : Nat → Int32 := upd (upd (upd x 5 (nI k)) 6 (nI a)) 7 (bI br)
theorem xst_5 (x : Nat → Int32) (k a k' : Nat) (br : Bool) : upd (xst x k a br) 5 (nI k') = xst x k' a br := by
  funext j
  unfold xst upd
  by_cases h : j = 5
  · simp [h]
  · simp [h]
theorem xst_6 (x : Nat → Int32) (k a a' : Nat) (br : Bool) : upd (xst x k a br) 6 (nI a') = xst x k a' br := by
  funext j
  unfold xst upd
  by_cases h : j = 6
  · simp [h]
  · simp [h]
theorem xst_7 (x : Nat → Int32) (k a : Nat) (br br' : Bool) : upd (xst x k a br) 7 (bI br') = xst x k a br' := by
  funext j
  unfold xst upd
  by_cases h : j = 7
  · simp [h]
  · simp [h]
def nxB (t : Nat → Int32) (n a : Nat) (l g : Int32) : Bool := decide (a < n) && isInB (t a) l g
theorem x_next {n a k : Nat} {br : Bool} (hx1 : x 1 = nI n) (hn : n ≤ 80) (ha : a ≤ n) (l g : Int32) : F2 ε jX6_isNextIn [.inr (0, 33), .inl l, .inl g] (xG G t f u w (xst x k a br)) (some (bI (nxB t n a l g))) (xG G t f u w (xst x k a br)) := by
  have h1 : xst x k a br 1 = nI n := hx1
  have h6 : xst x k a br 6 = nI a := rfl
  have hno : nxB t n a l g = false → E2 ε jX6_isNextIn 41 [some (.inr (0, 33)), some (.inl l), some (.inl g)] [] (xG G t f u w (xst x k a br)) (fun v' G' => v' = some (bI (nxB t n a l g)) ∧ G' = xG G t f u w (xst x k a br)) := by
    intro e
    rw [e]
    repeat (first | refine e2_step rfl rfl ?_ | refine e2x_get rfl rfl ?_)
    exact e2_zret rfl rfl rfl ⟨rfl, rfl⟩
  refine C2.of (ls := [some (.inr (0, 33)), some (.inl l), some (.inl g)]) okX6_isNextIn rfl rfl ?_
  repeat (first | refine e2_step rfl rfl ?_ | refine e2x_get rfl rfl ?_)
  rw [h6, h1]
  refine e2_if rfl rfl (fun z => ?_) (fun z => ?_)
  · rw [nI_leI (by omega) (by omega)] at z
    exact hno (by unfold nxB; rw [decide_eq_false (by omega), Bool.false_and])
  · rw [nI_leI (by omega) (by omega)] at z
    repeat (first | refine e2_step rfl rfl ?_ | refine e2x_get rfl rfl ?_)
    refine e2x_cald a rfl h6 (by omega) ?_
    repeat (first | refine e2_step rfl rfl ?_ | refine e2x_get rfl rfl ?_)
    refine e2_if rfl rfl (fun c => ?_) (fun c => ?_)
    · exact hno (by unfold nxB isInB; rw [decide_eq_false (p := l ≤ t a) (Int32.not_le.2 c), Bool.false_and, Bool.and_false])
    · repeat (first | refine e2_step rfl rfl ?_ | refine e2x_get rfl rfl ?_)
      refine e2x_cald a rfl h6 (by omega) ?_
      repeat (first | refine e2_step rfl rfl ?_ | refine e2x_get rfl rfl ?_)
      refine e2_if rfl rfl (fun d => ?_) (fun d => ?_)
      · exact hno (by unfold nxB isInB; rw [decide_eq_false (p := t a ≤ g) (Int32.not_le.2 d), Bool.and_false, Bool.and_false])
      · have e : nxB t n a l g = true := by
          unfold nxB isInB
          rw [decide_eq_true (p := a < n) (by omega), decide_eq_true (p := l ≤ t a) (Int32.not_lt.1 c), decide_eq_true (p := t a ≤ g) (Int32.not_lt.1 d)]
          rfl
        rw [e]
        repeat (first | refine e2_step rfl rfl ?_ | refine e2x_get rfl rfl ?_)
        exact e2_zret rfl rfl rfl ⟨rfl, rfl⟩
/-- a digit: where it stops, broken or not, its value -/
def rdD (t : Nat → Int32) (n a : Nat) (br : Bool) (m : Nat) : Nat × Bool × Nat := if br = false ∧ dgB t n a m = true then (a + 1, false, dgt t a) else (a, true, 0)
theorem x_digit {n a k m : Nat} {br : Bool} (hm : m ≤ 9) (hx1 : x 1 = nI n) (hn : n ≤ 80) (ha : a ≤ n) : F2 ε jX6_readDigit [.inr (0, 33), .inl (nI (48 + m))] (xG G t f u w (xst x k a br)) (some (nI (rdD t n a br m).2.2)) (xG G t f u w (xst x k (rdD t n a br m).1 (rdD t n a br m).2.1)) := by
  have h17 : rdD t n a br m = (a, true, 0) → E2 ε jX6_readDigit 17 [some (.inr (0, 33)), some (.inl (nI (48 + m))), none] [] (xG G t f u w (xst x k a br)) (fun v' G' => v' = some (nI (rdD t n a br m).2.2) ∧ G' = xG G t f u w (xst x k (rdD t n a br m).1 (rdD t n a br m).2.1)) := by
    intro he
    rw [he]
    repeat (first | refine e2_step rfl rfl ?_ | refine e2x_get rfl rfl ?_)
    refine e2x_putz rfl (Or.inr rfl) ?_
    rw [show upd (xst x k a br) 7 (nI 1) = xst x k a true from xst_7 x k a br true]
    repeat (first | refine e2_step rfl rfl ?_ | refine e2x_get rfl rfl ?_)
    exact e2_iret rfl rfl ⟨rfl, rfl⟩
  refine C2.of (ls := [some (.inr (0, 33)), some (.inl (nI (48 + m))), none]) okX6_readDigit rfl rfl ?_
  repeat (first | refine e2_step rfl rfl ?_ | refine e2x_get rfl rfl ?_)
  cases br with
  | true =>
    refine e2_if rfl rfl (fun _ => h17 (by unfold rdD; rw [if_neg (fun z => Bool.noConfusion z.1)])) (fun z => absurd (show ¬ nI 1 = 0 by decide) z)
  | false =>
    refine e2_if rfl rfl (fun z => absurd rfl z) (fun _ => ?_)
    repeat (first | refine e2_step rfl rfl ?_ | refine e2x_get rfl rfl ?_)
    refine e2_fi (x_next hx1 hn ha (nI 48) (nI (48 + m))) rfl rfl ⟨rfl, rfl, rfl⟩ rfl rfl rfl (by first | exact hi | decide) rfl rfl rfl ?_
    have hnb : nxB t n a (nI 48) (nI (48 + m)) = dgB t n a m := rfl
    rw [hnb]
    refine e2_if rfl rfl (fun c => ?_) (fun c => ?_)
    · rw [bI_0, Bool.not_eq_false] at c
      obtain ⟨d1, d2, d3⟩ := dgB_of hm c
      have he : rdD t n a false m = (a + 1, false, dgt t a) := by unfold rdD; rw [if_pos ⟨rfl, c⟩]
      rw [he]
      repeat (first | refine e2_step rfl rfl ?_ | refine e2x_get rfl rfl ?_)
      refine e2x_cald a rfl rfl (by omega) ?_
      rw [d3]
      repeat (first | refine e2_step rfl rfl ?_ | refine e2x_get rfl rfl ?_)
      rw [pk_sub (by omega), Nat.add_sub_cancel_left, show xst x k a false 6 = nI a from rfl, nI_add']
      refine e2x_put rfl (by omega) ?_
      rw [xst_6]
      repeat (first | refine e2_step rfl rfl ?_ | refine e2x_get rfl rfl ?_)
      exact e2_iret rfl rfl ⟨rfl, rfl⟩
    · rw [bI_0, Classical.not_not] at c
      exact h17 (by unfold rdD; rw [if_neg (fun z => by rw [c] at z; exact Bool.noConfusion z.2)])
/-- a sign -/
def rdS (t : Nat → Int32) (n a : Nat) (br : Bool) (s : Int32) : Nat × Bool := if br = false ∧ nxB t n a s s = true then (a + 1, false) else (a, true)
theorem x_sign {n a k : Nat} {br : Bool} (hx1 : x 1 = nI n) (hn : n ≤ 80) (ha : a ≤ n) (s : Int32) : F2 ε jX6_readSign [.inr (0, 33), .inl s] (xG G t f u w (xst x k a br)) none (xG G t f u w (xst x k (rdS t n a br s).1 (rdS t n a br s).2)) := by
  have h16 : rdS t n a br s = (a, true) → E2 ε jX6_readSign 16 [some (.inr (0, 33)), some (.inl s)] [] (xG G t f u w (xst x k a br)) (fun v' G' => v' = none ∧ G' = xG G t f u w (xst x k (rdS t n a br s).1 (rdS t n a br s).2)) := by
    intro he
    rw [he]
    repeat (first | refine e2_step rfl rfl ?_ | refine e2x_get rfl rfl ?_)
    refine e2x_putz rfl (Or.inr rfl) ?_
    rw [show upd (xst x k a br) 7 (nI 1) = xst x k a true from xst_7 x k a br true]
    repeat (first | refine e2_step rfl rfl ?_ | refine e2x_get rfl rfl ?_)
    exact e2_vret rfl rfl ⟨rfl, rfl⟩
  refine C2.of (ls := [some (.inr (0, 33)), some (.inl s)]) okX6_readSign rfl rfl ?_
  repeat (first | refine e2_step rfl rfl ?_ | refine e2x_get rfl rfl ?_)
  cases br with
  | true =>
    refine e2_if rfl rfl (fun _ => h16 (by unfold rdS; rw [if_neg (fun z => Bool.noConfusion z.1)])) (fun z => absurd (show ¬ nI 1 = 0 by decide) z)
  | false =>
    refine e2_if rfl rfl (fun z => absurd rfl z) (fun _ => ?_)
    repeat (first | refine e2_step rfl rfl ?_ | refine e2x_get rfl rfl ?_)
    refine e2_fi (x_next hx1 hn ha s s) rfl rfl ⟨rfl, rfl, rfl⟩ rfl rfl rfl (by first | exact hi | decide) rfl rfl rfl ?_
    refine e2_if rfl rfl (fun c => ?_) (fun c => ?_)
    · rw [bI_0, Bool.not_eq_false] at c
      have he : rdS t n a false s = (a + 1, false) := by unfold rdS; rw [if_pos ⟨rfl, c⟩]
      rw [he]
      repeat (first | refine e2_step rfl rfl ?_ | refine e2x_get rfl rfl ?_)
      rw [show xst x k a false 6 = nI a from rfl, nI_add']
      refine e2x_put rfl (by omega) ?_
      rw [xst_6]
      exact e2_vret rfl rfl ⟨rfl, rfl⟩
    · rw [bI_0, Classical.not_not] at c
      exact h16 (by unfold rdS; rw [if_neg (fun z => by rw [c] at z; exact Bool.noConfusion z.2)])
theorem nxB_s {n a : Nat} {s : Int32} : nxB t n a s s = (tkS t n a s).isSome := by
  unfold nxB tkS isInB
  by_cases h : a < n
  · rw [decide_eq_true h, if_pos h, Bool.true_and]
    by_cases h2 : t a = s
    · rw [if_pos h2, h2, decide_eq_true (Int32.le_refl s)]
      rfl
    · rw [if_neg h2]
      by_cases h3 : s ≤ t a
      · rw [decide_eq_true h3, decide_eq_false (p := t a ≤ s) (fun z => h2 (Int32.le_antisymm z h3))]
        rfl
      · rw [decide_eq_false h3]
        rfl
  · rw [decide_eq_false h, if_neg h]
    rfl
theorem rdS_some {n a a' : Nat} {s : Int32} (h : tkS t n a s = some a') : rdS t n a false s = (a', false) := by
  have e := (tkS_of h).1
  unfold rdS
  rw [nxB_s, h, if_pos ⟨rfl, rfl⟩, e]
theorem rdS_none {n a : Nat} {s : Int32} (h : tkS t n a s = none) : rdS t n a false s = (a, true) := by
  unfold rdS
  rw [nxB_s, h, if_neg (fun z => Bool.noConfusion z.2)]
theorem rdS_t {n a : Nat} {s : Int32} : rdS t n a true s = (a, true) := by
  unfold rdS
  rw [if_neg (fun z => Bool.noConfusion z.1)]
theorem rdD_t {n a m : Nat} : rdD t n a true m = (a, true, 0) := by
  unfold rdD
  rw [if_neg (fun z => Bool.noConfusion z.1)]
/-- a number -/
def rdN (t : Nat → Int32) (n a : Nat) (br : Bool) : Nat × Bool × Nat := if br = true then (a, true, 0) else match tkN t n a with
  | none => (a, true, 0)
  | some (a', v) => (a', false, v)
theorem x_number {n a k : Nat} {br : Bool} (hx1 : x 1 = nI n) (hn : n ≤ 80) (ha : a ≤ n) : F2 ε jX6_readNumber [.inr (0, 33)] (xG G t f u w (xst x k a br)) (some (nI (rdN t n a br).2.2)) (xG G t f u w (xst x k (rdN t n a br).1 (rdN t n a br).2.1)) := by
  refine C2.of (ls := [some (.inr (0, 33)), none]) okX6_readNumber rfl rfl ?_
  repeat (first | refine e2_step rfl rfl ?_ | refine e2x_get rfl rfl ?_)
  refine e2_fi (x_digit (m := 9) (br := br) (by omega) hx1 hn ha) rfl rfl ⟨rfl, rfl, rfl⟩ rfl rfl rfl (by first | exact hi | decide) rfl rfl rfl ?_
  cases br with
  | true =>
    rw [rdD_t]
    have e : rdN t n a true = (a, true, 0) := rfl
    rw [e]
    repeat (first | refine e2_step rfl rfl ?_ | refine e2x_get rfl rfl ?_)
    refine e2_if rfl rfl (fun _ => ?_) (fun z => absurd rfl z)
    repeat (first | refine e2_step rfl rfl ?_ | refine e2x_get rfl rfl ?_)
    exact e2_iret rfl rfl ⟨rfl, rfl⟩
  | false =>
    have e0 : rdN t n a false = match tkN t n a with
      | none => (a, true, 0)
      | some (a', v) => (a', false, v) := rfl
    cases c : dgB t n a 9 with
    | false =>
      have e1 : tkN t n a = none := by unfold tkN; rw [if_neg (by rw [c]; decide)]
      have e2 : rdD t n a false 9 = (a, true, 0) := by unfold rdD; rw [if_neg (fun z => by rw [c] at z; exact Bool.noConfusion z.2)]
      rw [e0, e1, e2]
      repeat (first | refine e2_step rfl rfl ?_ | refine e2x_get rfl rfl ?_)
      refine e2_if rfl rfl (fun _ => ?_) (fun z => absurd rfl z)
      repeat (first | refine e2_step rfl rfl ?_ | refine e2x_get rfl rfl ?_)
      exact e2_iret rfl rfl ⟨rfl, rfl⟩
    | true =>
      obtain ⟨d1, d2, d3⟩ := dgB_of (by omega) c
      have e2 : rdD t n a false 9 = (a + 1, false, dgt t a) := by unfold rdD; rw [if_pos ⟨rfl, c⟩]
      rw [e2]
      repeat (first | refine e2_step rfl rfl ?_ | refine e2x_get rfl rfl ?_)
      refine e2_if rfl rfl (fun z => ?_) (fun z => ?_)
      · have z2 : nI (dgt t a) = nI 0 := z
        rw [nI_eq (by omega) (by omega)] at z2
        have e1 : tkN t n a = some (a + 1, 0) := by unfold tkN; rw [if_pos c, if_pos z2]
        rw [e0, e1, z2]
        repeat (first | refine e2_step rfl rfl ?_ | refine e2x_get rfl rfl ?_)
        exact e2_iret rfl rfl ⟨rfl, rfl⟩
      · have z2 : ¬ nI (dgt t a) = nI 0 := z
        rw [nI_eq (by omega) (by omega)] at z2
        repeat (first | refine e2_step rfl rfl ?_ | refine e2x_get rfl rfl ?_)
        refine e2_fi (x_next (a := a + 1) (br := false) hx1 hn (by omega) (nI 48) (nI 57)) rfl rfl ⟨rfl, rfl, rfl⟩ rfl rfl rfl (by first | exact hi | decide) rfl rfl rfl ?_
        have hnb : nxB t n (a + 1) (nI 48) (nI 57) = dgB t n (a + 1) 9 := rfl
        rw [hnb]
        refine e2_if rfl rfl (fun y => ?_) (fun y => ?_)
        · rw [bI_0] at y
          have e1 : tkN t n a = some (a + 1, dgt t a) := by unfold tkN; rw [if_pos c, if_neg z2, if_neg (by rw [y]; decide)]
          rw [e0, e1]
          repeat (first | refine e2_step rfl rfl ?_ | refine e2x_get rfl rfl ?_)
          exact e2_iret rfl rfl ⟨rfl, rfl⟩
        · rw [bI_0, Bool.not_eq_false] at y
          have e1 : tkN t n a = some (a + 2, 10 * dgt t a + dgt t (a + 1)) := by unfold tkN; rw [if_pos c, if_neg z2, if_pos y]
          have e3 : rdD t n (a + 1) false 9 = (a + 2, false, dgt t (a + 1)) := by unfold rdD; rw [if_pos ⟨rfl, y⟩]
          rw [e0, e1]
          repeat (first | refine e2_step rfl rfl ?_ | refine e2x_get rfl rfl ?_)
          refine e2_fi (x_digit (a := a + 1) (br := false) (m := 9) (by omega) hx1 hn (by omega)) rfl rfl ⟨rfl, rfl, rfl⟩ rfl rfl rfl (by first | exact hi | decide) rfl rfl rfl ?_
          rw [e3]
          repeat (first | refine e2_step rfl rfl ?_ | refine e2x_get rfl rfl ?_)
          refine e2_iret rfl rfl ⟨?_, rfl⟩
          rw [pk_mul, nI_add', Nat.mul_comm]
end NZ3
