/-! Office i: ranges, carriers' looks, posting; copying. -/
section NK
variable {ε : EE} {J : JT} {pc : Nat} {ls : List (Option V0)} {st : List V0} {G : GG} {i : Nat} {V : VV} {s : Int32} {o : Nat → Int32} {Q : Option Int32 → GG → Prop}
theorem g_give {a b : Nat} (hi : i < 19) (ha : a < 100) (hb : b < 100) (w : Int32) : FC ε jX7_give [.inr (i, 1), .inl (nI a), .inl (nI b), .inl w] G i V s o none (sv V 2 (rngr (V 2) a (b + 1) w)) s o := by
  refine C2.of (ls := [some (.inr (i, 1)), some (.inl (nI a)), some (.inl (nI b)), some (.inl w), none]) okX7_give rfl rfl ?_
  repeat (first | refine e2_step rfl rfl ?_ | refine e2c_get hi rfl rfl rfl rfl ?_ | refine e2c_lget rfl rfl ?_ | refine e2c_iald _ hi rfl rfl rfl rfl (by omega) ?_ | refine e2c_lald _ rfl rfl (by omega) ?_)
  refine e2_max rfl rfl rfl ?_
  have hm : (if nI a < nI 0 then nI 0 else nI a) = nI a := by rw [if_neg]; exact nI_pos (by omega)
  rw [hm]
  repeat (first | refine e2_stepS 7 rfl rfl rfl ?_ | refine e2c_getS 7 rfl hi rfl rfl rfl rfl ?_ | refine e2c_lgetS 7 rfl rfl rfl ?_ | refine e2c_ialdS 7 rfl _ hi rfl rfl rfl rfl (by omega) ?_)
  have h0 : sv V 2 (rngr (V 2) a (a + 0) w) = V := by
    funext kk
    unfold sv
    by_cases hk : kk = 2
    · subst hk
      rw [if_pos rfl]
      exact rngr_0 _ a w
    · rw [if_neg hk]
  refine Eq.mp (congrArg (fun q => E2 ε jX7_give 7 _ [] (cG G i q s o) _) h0) ?_
  refine e2_for (b + 1 - a) (fun k => [some (.inr (i, 1)), some (.inl (nI a)), some (.inl (nI b)), some (.inl w), some (.inl (nI (a + k)))]) (fun k => cG G i (sv V 2 (rngr (V 2) a (a + k) w)) s o) (fun k hk K => ?_) (fun M hM => ?_)
  · repeat (first | refine e2_step rfl rfl ?_ | refine e2c_get hi rfl rfl rfl rfl ?_ | refine e2c_lget rfl rfl ?_ | refine e2c_iald _ hi rfl rfl rfl rfl (by omega) ?_ | refine e2c_lald _ rfl rfl (by omega) ?_)
    refine e2_if rfl rfl (fun c => absurd c (nI_nlt (by omega) (by omega))) (fun _ => ?_)
    repeat (first | refine e2_step rfl rfl ?_ | refine e2c_get hi rfl rfl rfl rfl ?_ | refine e2c_lget rfl rfl ?_ | refine e2c_iald _ hi rfl rfl rfl rfl (by omega) ?_ | refine e2c_lald _ rfl rfl (by omega) ?_)
    refine e2_if rfl rfl (fun c => absurd c (nI_ge (by omega) (by omega))) (fun _ => ?_)
    repeat (first | refine e2_step rfl rfl ?_ | refine e2c_get hi rfl rfl rfl rfl ?_ | refine e2c_lget rfl rfl ?_ | refine e2c_iald _ hi rfl rfl rfl rfl (by omega) ?_ | refine e2c_lald _ rfl rfl (by omega) ?_)
    refine e2c_iast (a + k) hi rfl rfl rfl rfl (by omega) ?_
    have e : wv (sv V 2 (rngr (V 2) a (a + k) w)) 2 (a + k) w = sv V 2 (rngr (V 2) a (a + (k + 1)) w) := by
      rw [rngr_s]
      funext kk
      unfold wv sv
      by_cases hk2 : kk = 2
      · subst hk2
        rw [if_pos rfl, if_pos rfl, if_pos rfl]
      · rw [if_neg hk2, if_neg hk2, if_neg hk2]
    rw [e]
    repeat (first | refine e2_stepS 7 rfl rfl rfl ?_ | refine e2c_getS 7 rfl hi rfl rfl rfl rfl ?_ | refine e2c_lgetS 7 rfl rfl rfl ?_ | refine e2c_ialdS 7 rfl _ hi rfl rfl rfl rfl (by omega) ?_)
    rw [nI_add']
    exact K
  · have hfin : sv V 2 (rngr (V 2) a (a + M) w) = sv V 2 (rngr (V 2) a (b + 1) w) := by
      congr 1
      funext j
      simp only [rngr]
      by_cases h : a ≤ j ∧ j < b + 1
      · rw [if_pos h, if_pos (by omega)]
      · rw [if_neg h, if_neg (by omega)]
    rw [hfin]
    repeat (first | refine e2_step rfl rfl ?_ | refine e2c_get hi rfl rfl rfl rfl ?_ | refine e2c_lget rfl rfl ?_ | refine e2c_iald _ hi rfl rfl rfl rfl (by omega) ?_ | refine e2c_lald _ rfl rfl (by omega) ?_)
    by_cases hba : b < a + M
    · refine e2_if rfl rfl (fun c => ?_) (fun c => absurd (nI_lt hba (by omega)) c)
      exact e2_vret rfl rfl ⟨rfl, rfl⟩
    · omega
theorem g_stretches (hi : i < 19) : FC ε jX7_countStretches [.inr (i, 1)] G i V s o (some (nI (1 + cntB (fun c => decide (¬ V 2 (c + 1) = V 2 c)) 99))) V s o := by
  obtain ⟨n99, h99⟩ : ∃ n, n = 99 := ⟨_, rfl⟩
  rw [← h99]
  refine C2.of (ls := [some (.inr (i, 1)), none, none]) okX7_countStretches rfl rfl ?_
  repeat (first | refine e2_stepS 4 rfl rfl rfl ?_ | refine e2c_getS 4 rfl hi rfl rfl rfl rfl ?_ | refine e2c_lgetS 4 rfl rfl rfl ?_ | refine e2c_ialdS 4 rfl _ hi rfl rfl rfl rfl (by omega) ?_)
  refine e2_for n99 (fun c => [some (.inr (i, 1)), some (.inl (nI (1 + cntB (fun c => decide (¬ V 2 (c + 1) = V 2 c)) c))), some (.inl (nI (c + 1)))]) (fun _ => cG G i V s o) (fun c hc K => ?_) (fun M hM => ?_)
  · repeat (first | refine e2_step rfl rfl ?_ | refine e2c_get hi rfl rfl rfl rfl ?_ | refine e2c_lget rfl rfl ?_ | refine e2c_iald _ hi rfl rfl rfl rfl (by omega) ?_ | refine e2c_lald _ rfl rfl (by omega) ?_)
    refine e2_if rfl rfl (fun z => absurd z (nI_ge (by omega) (by omega))) (fun _ => ?_)
    repeat (first | refine e2_step rfl rfl ?_ | refine e2c_get hi rfl rfl rfl rfl ?_ | refine e2c_lget rfl rfl ?_ | refine e2c_iald _ hi rfl rfl rfl rfl (by omega) ?_ | refine e2c_lald _ rfl rfl (by omega) ?_)
    refine e2c_iald c hi rfl rfl (by rw [pk_sub (by omega), Nat.add_sub_cancel]) rfl (by omega) ?_
    simp only [cntB] at K
    refine e2_if rfl rfl (fun z => ?_) (fun z => ?_)
    · simp only [z, not_true_eq_false, decide_false, Bool.false_eq_true, if_false] at K
      repeat (first | refine e2_stepS 4 rfl rfl rfl ?_ | refine e2c_getS 4 rfl hi rfl rfl rfl rfl ?_ | refine e2c_lgetS 4 rfl rfl rfl ?_ | refine e2c_ialdS 4 rfl _ hi rfl rfl rfl rfl (by omega) ?_)
      rw [nI_add']
      simp only [Nat.add_assoc, Nat.add_zero] at K ⊢
      exact K
    · simp only [z, not_false_eq_true, decide_true, if_true] at K
      repeat (first | refine e2_stepS 4 rfl rfl rfl ?_ | refine e2c_getS 4 rfl hi rfl rfl rfl rfl ?_ | refine e2c_lgetS 4 rfl rfl rfl ?_ | refine e2c_ialdS 4 rfl _ hi rfl rfl rfl rfl (by omega) ?_)
      rw [nI_add', nI_add']
      simp only [Nat.add_assoc, Nat.add_zero] at K ⊢
      exact K
  · repeat (first | refine e2_step rfl rfl ?_ | refine e2c_get hi rfl rfl rfl rfl ?_ | refine e2c_lget rfl rfl ?_ | refine e2c_iald _ hi rfl rfl rfl rfl (by omega) ?_ | refine e2c_lald _ rfl rfl (by omega) ?_)
    refine e2_if rfl rfl (fun _ => ?_) (fun c => absurd (by rw [hM, h99]; exact Int32.le_refl _) c)
    repeat (first | refine e2_step rfl rfl ?_ | refine e2c_get hi rfl rfl rfl rfl ?_ | refine e2c_lget rfl rfl ?_ | refine e2c_iald _ hi rfl rfl rfl rfl (by omega) ?_ | refine e2c_lald _ rfl rfl (by omega) ?_)
    exact e2_iret rfl rfl ⟨by rw [hM], rfl⟩
def addV (V : VV) (N : Nat) (code cat h : Int32) : VV := wv (wv (wv (wv (wv (wv (wv (wv V 4 N code) 5 N cat) 6 N (nI 0)) 7 N (nI 0)) 8 N (-9)) 9 N h) 10 N (-9)) 3 8 (V 3 8 + nI 1)
theorem v_add {N : Nat} (hi : i < 19) (hN : N < 120) (hc : V 3 8 = nI N) (code cat h : Int32) : FC ε jX2_add [.inr (i, 3), .inl code, .inl cat, .inl h] G i V s o none (addV V N code cat h) s o := by
  refine C2.of (ls := [some (.inr (i, 3)), some (.inl code), some (.inl cat), some (.inl h)]) okX2_add rfl rfl ?_
  repeat (first | refine e2_step rfl rfl ?_ | refine e2c_get hi rfl rfl rfl rfl ?_ | refine e2c_lget rfl rfl ?_ | refine e2c_iald _ hi rfl rfl rfl rfl (by omega) ?_ | refine e2c_lald _ rfl rfl (by omega) ?_)
  rw [hc]
  refine e2_if rfl rfl (fun c => absurd c (nI_ge hN (by omega))) (fun _ => ?_)
  repeat (first | refine e2_step rfl rfl ?_ | refine e2c_get hi rfl rfl rfl rfl ?_ | refine e2c_lget rfl rfl ?_ | refine e2c_iald _ hi rfl rfl rfl rfl (by omega) ?_ | refine e2c_lald _ rfl rfl (by omega) ?_)
  rw [hc]
  repeat (first | refine e2_step rfl rfl ?_ | refine e2c_get hi rfl rfl rfl rfl ?_ | refine e2c_lget rfl rfl ?_ | refine e2c_iald _ hi rfl rfl rfl rfl (by omega) ?_ | refine e2c_lald _ rfl rfl (by omega) ?_)
  refine e2c_iast N hi rfl rfl rfl rfl hN ?_
  repeat (first | refine e2_step rfl rfl ?_ | refine e2c_get hi rfl rfl rfl rfl ?_ | refine e2c_lget rfl rfl ?_ | refine e2c_iald _ hi rfl rfl rfl rfl (by omega) ?_ | refine e2c_lald _ rfl rfl (by omega) ?_)
  refine e2c_iast N hi rfl rfl hc rfl hN ?_
  repeat (first | refine e2_step rfl rfl ?_ | refine e2c_get hi rfl rfl rfl rfl ?_ | refine e2c_lget rfl rfl ?_ | refine e2c_iald _ hi rfl rfl rfl rfl (by omega) ?_ | refine e2c_lald _ rfl rfl (by omega) ?_)
  refine e2c_iast N hi rfl rfl hc rfl hN ?_
  repeat (first | refine e2_step rfl rfl ?_ | refine e2c_get hi rfl rfl rfl rfl ?_ | refine e2c_lget rfl rfl ?_ | refine e2c_iald _ hi rfl rfl rfl rfl (by omega) ?_ | refine e2c_lald _ rfl rfl (by omega) ?_)
  refine e2c_iast N hi rfl rfl hc rfl hN ?_
  repeat (first | refine e2_step rfl rfl ?_ | refine e2c_get hi rfl rfl rfl rfl ?_ | refine e2c_lget rfl rfl ?_ | refine e2c_iald _ hi rfl rfl rfl rfl (by omega) ?_ | refine e2c_lald _ rfl rfl (by omega) ?_)
  refine e2c_iast N hi rfl rfl hc rfl hN ?_
  repeat (first | refine e2_step rfl rfl ?_ | refine e2c_get hi rfl rfl rfl rfl ?_ | refine e2c_lget rfl rfl ?_ | refine e2c_iald _ hi rfl rfl rfl rfl (by omega) ?_ | refine e2c_lald _ rfl rfl (by omega) ?_)
  refine e2c_iast N hi rfl rfl hc rfl hN ?_
  repeat (first | refine e2_step rfl rfl ?_ | refine e2c_get hi rfl rfl rfl rfl ?_ | refine e2c_lget rfl rfl ?_ | refine e2c_iald _ hi rfl rfl rfl rfl (by omega) ?_ | refine e2c_lald _ rfl rfl (by omega) ?_)
  refine e2c_iast N hi rfl rfl hc rfl hN ?_
  repeat (first | refine e2_step rfl rfl ?_ | refine e2c_get hi rfl rfl rfl rfl ?_ | refine e2c_lget rfl rfl ?_ | refine e2c_iald _ hi rfl rfl rfl rfl (by omega) ?_ | refine e2c_lald _ rfl rfl (by omega) ?_)
  refine e2c_put hi rfl rfl rfl rfl rfl rfl rfl ?_
  exact e2_vret rfl rfl ⟨rfl, rfl⟩
def ofwV (V : VV) (w : Int32) : Int32 := firstFrom (fun c => decide (V 13 c = w)) 6 0
theorem k_ofWalk (hi : i < 19) (w : Int32) : FC ε jX0_ofWalk [.inr (i, 12), .inl w] G i V s o (some (ofwV V w)) V s o := by
  refine C2.of (ls := [some (.inr (i, 12)), some (.inl w), none]) okX0_ofWalk rfl rfl ?_
  repeat (first | refine e2_stepS 2 rfl rfl rfl ?_ | refine e2c_getS 2 rfl hi rfl rfl rfl rfl ?_ | refine e2c_lgetS 2 rfl rfl rfl ?_ | refine e2c_ialdS 2 rfl _ hi rfl rfl rfl rfl (by omega) ?_)
  have h : ∀ k c, c + k = 6 → E2 ε jX0_ofWalk 2 [some (.inr (i, 12)), some (.inl w), some (.inl (nI c))] [] (cG G i V s o) (fun v' G' => v' = some (firstFrom (fun c => decide (V 13 c = w)) k c) ∧ G' = cG G i V s o) := by
    intro k
    induction k with
    | zero =>
      intro c hc
      repeat (first | refine e2_step rfl rfl ?_ | refine e2c_get hi rfl rfl rfl rfl ?_ | refine e2c_lget rfl rfl ?_ | refine e2c_iald _ hi rfl rfl rfl rfl (by omega) ?_ | refine e2c_lald _ rfl rfl (by omega) ?_)
      refine e2_if rfl rfl (fun _ => ?_) (fun z => absurd (nI_le (by omega) (by omega)) z)
      repeat (first | refine e2_step rfl rfl ?_ | refine e2c_get hi rfl rfl rfl rfl ?_ | refine e2c_lget rfl rfl ?_ | refine e2c_iald _ hi rfl rfl rfl rfl (by omega) ?_ | refine e2c_lald _ rfl rfl (by omega) ?_)
      exact e2_iret rfl rfl ⟨rfl, rfl⟩
    | succ k ih =>
      intro c hc
      repeat (first | refine e2_step rfl rfl ?_ | refine e2c_get hi rfl rfl rfl rfl ?_ | refine e2c_lget rfl rfl ?_ | refine e2c_iald _ hi rfl rfl rfl rfl (by omega) ?_ | refine e2c_lald _ rfl rfl (by omega) ?_)
      refine e2_if rfl rfl (fun z => absurd z (nI_ge (by omega) (by omega))) (fun _ => ?_)
      repeat (first | refine e2_step rfl rfl ?_ | refine e2c_get hi rfl rfl rfl rfl ?_ | refine e2c_lget rfl rfl ?_ | refine e2c_iald _ hi rfl rfl rfl rfl (by omega) ?_ | refine e2c_lald _ rfl rfl (by omega) ?_)
      refine e2_if rfl rfl (fun z => ?_) (fun z => ?_)
      · repeat (first | refine e2_stepS 2 rfl rfl rfl ?_ | refine e2c_getS 2 rfl hi rfl rfl rfl rfl ?_ | refine e2c_lgetS 2 rfl rfl rfl ?_ | refine e2c_ialdS 2 rfl _ hi rfl rfl rfl rfl (by omega) ?_)
        rw [nI_add']
        have := ih (c + 1) (by omega)
        simp only [firstFrom, z, decide_false, Bool.false_eq_true, if_false]
        exact this
      · repeat (first | refine e2_step rfl rfl ?_ | refine e2c_get hi rfl rfl rfl rfl ?_ | refine e2c_lget rfl rfl ?_ | refine e2c_iald _ hi rfl rfl rfl rfl (by omega) ?_ | refine e2c_lald _ rfl rfl (by omega) ?_)
        refine e2_iret rfl rfl ⟨?_, rfl⟩
        simp only [firstFrom, Classical.not_not.1 z, decide_true, if_true]
  exact h 6 0 rfl
/-- copying a row of the office i2 -/
theorem e2c_copy {a b nx idx kk i2 n0 : Nat} {v : Int32} {rest : List V0} (n : Nat) (hi : i < 19) (hi2 : i2 < 19) (hne : i2 ≠ i) (hk : Nat.blt kk 18 = true) (h : lk (jt J) pc = (54, a, b, v, nx, idx)) (ha : arrI kk = some (0, n0)) (hn : n ≤ n0) (hrm : (Nat.ble 1 (jf J) && Nat.ble 30 (jo J)) = true) (hrest : Nat.ble rest.length 8 = true)
    (k : E2 ε J nx ls rest (cG G i (sv V kk (fun t => if t < n then G i2 kk t else V kk t)) s o) Q) : E2 ε J pc ls (.inl (nI n) :: .inl (nI 0) :: .inr (i, kk) :: .inl (nI 0) :: .inr (i2, kk) :: rest) (cG G i V s o) Q := by
  have h18 := (lim18 hi hk).2
  refine e2_copy (n1 := 0) n h (lim18 hi2 hk).1 (lim18 hi hk).1 ha hn hrm hrest ?_
  rw [cG_set h18, cG_at h18, cG_o (Or.inl hne) (by omega) (by omega)]
  exact k
theorem e2c_copyz {a b nx idx kk i2 n0 : Nat} {v : Int32} {rest : List V0} (n : Nat) (hi : i < 19) (hi2 : i2 < 19) (hne : i2 ≠ i) (hk : Nat.blt kk 18 = true) (h : lk (jt J) pc = (54, a, b, v, nx, idx)) (ha : arrI kk = some (1, n0)) (hn : n ≤ n0) (hz : ∀ t, t < n → G i2 kk t = 0 ∨ G i2 kk t = 1) (hrm : (Nat.ble 1 (jf J) && Nat.ble 30 (jo J)) = true) (hrest : Nat.ble rest.length 8 = true)
    (k : E2 ε J nx ls rest (cG G i (sv V kk (fun t => if t < n then G i2 kk t else V kk t)) s o) Q) : E2 ε J pc ls (.inl (nI n) :: .inl (nI 0) :: .inr (i, kk) :: .inl (nI 0) :: .inr (i2, kk) :: rest) (cG G i V s o) Q := by
  have h18 := (lim18 hi hk).2
  refine e2_copyz (n1 := 0) n h (lim18 hi2 hk).1 (lim18 hi hk).1 ha hn (fun t ht => by rw [cG_o (Or.inl hne) (by omega) (by omega)]; exact hz t ht) hrm hrest ?_
  rw [cG_set h18, cG_at h18, cG_o (Or.inl hne) (by omega) (by omega)]
  exact k
theorem e2c_get2 {kf t nx idx kk i2 : Nat} {v : Int32} {fs : List V0} {w : V0} (hi2 : i2 < 19) (hne : i2 ≠ i) (hk : Nat.blt kk 18 = true) (h : lk (jt J) pc = (30, kf, t, v, nx, idx)) (ho : objV i2 kk (G i2 kk) = some (t, fs)) (hw : fs[kf]? = some w) (k : E2 ε J nx ls (w :: st) (cG G i V s o) Q) : E2 ε J pc ls (.inr (i2, kk) :: st) (cG G i V s o) Q :=
  e2_get h (lim18 hi2 hk).1 (by rw [cG_o (Or.inl hne) (by have := (lim18 hi2 hk).2; omega) (by have := (lim18 hi2 hk).2; omega)]; exact ho) hw k
def cpV (V : VV) (kk n : Nat) (g : Nat → Int32) : VV := sv V kk (fun t => if t < n then g t else V kk t)
theorem q_ranges {i2 : Nat} (hi : i < 19) (hi2 : i2 < 19) (hne : i2 ≠ i) : FC ε jX7_copyFrom [.inr (i, 1), .inr (i2, 1)] G i V s o none (cpV V 2 100 (G i2 2)) s o := by
  refine C2.of (ls := [some (.inr (i, 1)), some (.inr (i2, 1))]) okX7_copyFrom rfl rfl ?_
  repeat (first | refine e2_step rfl rfl ?_ | refine e2c_get hi rfl rfl rfl rfl ?_ | refine e2c_get2 hi2 hne rfl rfl rfl rfl ?_)
  refine e2c_copy 100 hi hi2 hne rfl rfl rfl (by omega) rfl rfl ?_
  exact e2_vret rfl rfl ⟨rfl, rfl⟩
def cpL (V : VV) (U : VV) : VV := wv (cpV (cpV (cpV (cpV (cpV (cpV (cpV (cpV V 4 120 (U 4)) 5 120 (U 5)) 6 120 (U 6)) 7 120 (U 7)) 8 120 (U 8)) 9 120 (U 9)) 10 120 (U 10)) 11 8 (U 11)) 3 8 (U 3 8)
theorem q_letters {i2 : Nat} (hi : i < 19) (hi2 : i2 < 19) (hne : i2 ≠ i) : FC ε jX2_copyFrom [.inr (i, 3), .inr (i2, 3)] G i V s o none (cpL V (G i2)) s o := by
  refine C2.of (ls := [some (.inr (i, 3)), some (.inr (i2, 3))]) okX2_copyFrom rfl rfl ?_
  repeat (first | refine e2_step rfl rfl ?_ | refine e2c_get hi rfl rfl rfl rfl ?_ | refine e2c_get2 hi2 hne rfl rfl rfl rfl ?_)
  refine e2c_copy 120 hi hi2 hne rfl rfl rfl (by omega) rfl rfl ?_
  repeat (first | refine e2_step rfl rfl ?_ | refine e2c_get hi rfl rfl rfl rfl ?_ | refine e2c_get2 hi2 hne rfl rfl rfl rfl ?_)
  refine e2c_copy 120 hi hi2 hne rfl rfl rfl (by omega) rfl rfl ?_
  repeat (first | refine e2_step rfl rfl ?_ | refine e2c_get hi rfl rfl rfl rfl ?_ | refine e2c_get2 hi2 hne rfl rfl rfl rfl ?_)
  refine e2c_copy 120 hi hi2 hne rfl rfl rfl (by omega) rfl rfl ?_
  repeat (first | refine e2_step rfl rfl ?_ | refine e2c_get hi rfl rfl rfl rfl ?_ | refine e2c_get2 hi2 hne rfl rfl rfl rfl ?_)
  refine e2c_copy 120 hi hi2 hne rfl rfl rfl (by omega) rfl rfl ?_
  repeat (first | refine e2_step rfl rfl ?_ | refine e2c_get hi rfl rfl rfl rfl ?_ | refine e2c_get2 hi2 hne rfl rfl rfl rfl ?_)
  refine e2c_copy 120 hi hi2 hne rfl rfl rfl (by omega) rfl rfl ?_
  repeat (first | refine e2_step rfl rfl ?_ | refine e2c_get hi rfl rfl rfl rfl ?_ | refine e2c_get2 hi2 hne rfl rfl rfl rfl ?_)
  refine e2c_copy 120 hi hi2 hne rfl rfl rfl (by omega) rfl rfl ?_
  repeat (first | refine e2_step rfl rfl ?_ | refine e2c_get hi rfl rfl rfl rfl ?_ | refine e2c_get2 hi2 hne rfl rfl rfl rfl ?_)
  refine e2c_copy 120 hi hi2 hne rfl rfl rfl (by omega) rfl rfl ?_
  repeat (first | refine e2_step rfl rfl ?_ | refine e2c_get hi rfl rfl rfl rfl ?_ | refine e2c_get2 hi2 hne rfl rfl rfl rfl ?_)
  refine e2c_copy 8 hi hi2 hne rfl rfl rfl (by omega) rfl rfl ?_
  repeat (first | refine e2_step rfl rfl ?_ | refine e2c_get hi rfl rfl rfl rfl ?_ | refine e2c_get2 hi2 hne rfl rfl rfl rfl ?_)
  refine e2c_put hi rfl rfl rfl rfl rfl rfl rfl ?_
  exact e2_vret rfl rfl ⟨rfl, rfl⟩
def cpK (V : VV) (U : VV) : VV := cpV (cpV (cpV (cpV V 13 6 (U 13)) 14 6 (U 14)) 15 6 (U 15)) 16 48 (U 16)
theorem q_carriers {i2 : Nat} (hi : i < 19) (hi2 : i2 < 19) (hne : i2 ≠ i) (hz : ∀ t, t < 6 → G i2 14 t = 0 ∨ G i2 14 t = 1) : FC ε jX0_copyFrom [.inr (i, 12), .inr (i2, 12)] G i V s o none (cpK V (G i2)) s o := by
  refine C2.of (ls := [some (.inr (i, 12)), some (.inr (i2, 12))]) okX0_copyFrom rfl rfl ?_
  repeat (first | refine e2_step rfl rfl ?_ | refine e2c_get hi rfl rfl rfl rfl ?_ | refine e2c_get2 hi2 hne rfl rfl rfl rfl ?_)
  refine e2c_copy 6 hi hi2 hne rfl rfl rfl (by omega) rfl rfl ?_
  repeat (first | refine e2_step rfl rfl ?_ | refine e2c_get hi rfl rfl rfl rfl ?_ | refine e2c_get2 hi2 hne rfl rfl rfl rfl ?_)
  refine e2c_copyz 6 hi hi2 hne rfl rfl rfl (by omega) hz rfl rfl ?_
  repeat (first | refine e2_step rfl rfl ?_ | refine e2c_get hi rfl rfl rfl rfl ?_ | refine e2c_get2 hi2 hne rfl rfl rfl rfl ?_)
  refine e2c_copy 6 hi hi2 hne rfl rfl rfl (by omega) rfl rfl ?_
  repeat (first | refine e2_step rfl rfl ?_ | refine e2c_get hi rfl rfl rfl rfl ?_ | refine e2c_get2 hi2 hne rfl rfl rfl rfl ?_)
  refine e2c_copy 48 hi hi2 hne rfl rfl rfl (by omega) rfl rfl ?_
  exact e2_vret rfl rfl ⟨rfl, rfl⟩
def cpO (V : VV) (U : VV) : VV := wv (wv (wv (wv (cpV (cpK (cpL (cpV V 2 100 (U 2)) U) U) 17 8 (U 17)) 0 4 (U 0 4)) 0 5 (U 0 5)) 0 6 (U 0 6)) 0 7 (U 0 7)
theorem q_office {i2 : Nat} (hi : i < 19) (hi2 : i2 < 19) (hne : i2 ≠ i) (hz : ∀ t, t < 6 → G i2 14 t = 0 ∨ G i2 14 t = 1) : FC ε jX5_copyFrom [.inr (i, 0), .inr (i2, 0)] G i V s o none (cpO V (G i2)) s o := by
  refine C2.of (ls := [some (.inr (i, 0)), some (.inr (i2, 0))]) okX5_copyFrom rfl rfl ?_
  repeat (first | refine e2_step rfl rfl ?_ | refine e2c_get hi rfl rfl rfl rfl ?_ | refine e2c_get2 hi2 hne rfl rfl rfl rfl ?_)
  refine e2c_fv (q_ranges hi hi2 hne) rfl rfl ⟨rfl, rfl, rfl⟩ rfl rfl rfl hi rfl rfl rfl rfl ?_
  repeat (first | refine e2_step rfl rfl ?_ | refine e2c_get hi rfl rfl rfl rfl ?_ | refine e2c_get2 hi2 hne rfl rfl rfl rfl ?_)
  refine e2c_fv (q_letters hi hi2 hne) rfl rfl ⟨rfl, rfl, rfl⟩ rfl rfl rfl hi rfl rfl rfl rfl ?_
  repeat (first | refine e2_step rfl rfl ?_ | refine e2c_get hi rfl rfl rfl rfl ?_ | refine e2c_get2 hi2 hne rfl rfl rfl rfl ?_)
  refine e2c_fv (q_carriers hi hi2 hne hz) rfl rfl ⟨rfl, rfl, rfl⟩ rfl rfl rfl hi rfl rfl rfl rfl ?_
  repeat (first | refine e2_step rfl rfl ?_ | refine e2c_get hi rfl rfl rfl rfl ?_ | refine e2c_get2 hi2 hne rfl rfl rfl rfl ?_)
  refine e2c_copy 8 hi hi2 hne rfl rfl rfl (by omega) rfl rfl ?_
  repeat (first | refine e2_step rfl rfl ?_ | refine e2c_get hi rfl rfl rfl rfl ?_ | refine e2c_get2 hi2 hne rfl rfl rfl rfl ?_)
  refine e2c_put hi rfl rfl rfl rfl rfl rfl rfl ?_
  repeat (first | refine e2_step rfl rfl ?_ | refine e2c_get hi rfl rfl rfl rfl ?_ | refine e2c_get2 hi2 hne rfl rfl rfl rfl ?_)
  refine e2c_put hi rfl rfl rfl rfl rfl rfl rfl ?_
  repeat (first | refine e2_step rfl rfl ?_ | refine e2c_get hi rfl rfl rfl rfl ?_ | refine e2c_get2 hi2 hne rfl rfl rfl rfl ?_)
  refine e2c_put hi rfl rfl rfl rfl rfl rfl rfl ?_
  repeat (first | refine e2_step rfl rfl ?_ | refine e2c_get hi rfl rfl rfl rfl ?_ | refine e2c_get2 hi2 hne rfl rfl rfl rfl ?_)
  refine e2c_put hi rfl rfl rfl rfl rfl rfl rfl ?_
  exact e2_vret rfl rfl ⟨rfl, rfl⟩
end NK
