/-! Office i: a letter is sorted, an hour passes. -/
section ND
variable {ε : EE} {G : GG} {i : Nat} {V : VV} {s : Int32} {o : Nat → Int32} {Q : Option Int32 → GG → Prop}
/-- codes, walks, classes and keepers of the letters below N are in range, and there are N -/
def okV (V : VV) (N : Nat) : Prop := ∀ l, l < N → (∃ c w, c < 100 ∧ w < 8 ∧ V 4 l = nI c ∧ V 2 c = nI w ∧ (V 5 l = nI 0 ∨ V 5 l = nI 1) ∧ V 3 8 = nI N) ∧ (V 7 l = nI 1 → ∃ w, w < 8 ∧ V 8 l = nI w)
def wkV (V : VV) (l : Nat) : Nat := (V 2 (V 4 l).toNatClampNeg).toNatClampNeg
theorem wkV_of {N l : Nat} (hok : okV V N) (hl : l < N) : ∃ c, c < 100 ∧ V 4 l = nI c ∧ V 2 c = nI (wkV V l) ∧ wkV V l < 8 := by
  obtain ⟨⟨c, w, h1, h2, h3, h4, -⟩, -⟩ := hok l hl
  have hwk : wkV V l = w := by unfold wkV; rw [h3, nI_clamp (by omega), h4, nI_clamp (by omega)]
  exact ⟨c, h1, h3, by rw [hwk]; exact h4, by rw [hwk]; exact h2⟩
theorem okV_cnt {N l : Nat} (hok : okV V N) (hl : l < N) : V 3 8 = nI N := by
  obtain ⟨⟨c, w, h1, h2, h3, h4, h5, h6⟩, -⟩ := hok l hl
  exact h6
theorem okV_cat {N l : Nat} (hok : okV V N) (hl : l < N) : V 5 l = nI 0 ∨ V 5 l = nI 1 := by
  obtain ⟨⟨c, w, h1, h2, h3, h4, h5, h6⟩, -⟩ := hok l hl
  exact h5
theorem upV_o {p k : Int32} {kk : Nat} (h : kk ≠ 11) : upV V p k kk = V kk := by
  unfold upV
  split
  · unfold wv sv
    rw [if_neg h]
  · rfl
theorem dnV_o {l kk : Nat} (h : kk ≠ 11) : dnV V l kk = V kk := by
  unfold dnV
  split
  · unfold wv sv
    rw [if_neg h]
  · rfl
theorem moveV_7 {l m : Nat} {p k : Int32} : moveV V l p k 7 m = if m = l then p else V 7 m := by
  unfold moveV
  rw [upV_o (by decide)]
  unfold wv sv
  rw [if_neg (by decide), if_pos rfl]
  unfold upd
  split
  · rfl
  · rw [dnV_o (by decide)]
theorem moveV_8 {l m : Nat} {p k : Int32} : moveV V l p k 8 m = if m = l then k else V 8 m := by
  unfold moveV
  rw [upV_o (by decide)]
  unfold wv sv
  rw [if_pos rfl]
  unfold upd
  split
  · rfl
  · rw [if_neg (by decide), dnV_o (by decide)]
theorem okV_move {N l : Nat} {p k : Int32} (h : okV V N) (hk : p = nI 1 → ∃ w, w < 8 ∧ k = nI w) : okV (moveV V l p k) N := fun m hm => by
  obtain ⟨h1, h2⟩ := h m hm
  refine ⟨?_, fun z => ?_⟩
  · rw [moveV_o (kk := 4) (by decide) (by decide) (by decide), moveV_o (kk := 2) (by decide) (by decide) (by decide), moveV_o (kk := 5) (by decide) (by decide) (by decide), moveV_o (kk := 3) (by decide) (by decide) (by decide)]
    exact h1
  · rw [moveV_7] at z
    rw [moveV_8]
    by_cases hml : m = l
    · rw [if_pos hml] at z ⊢
      exact hk z
    · rw [if_neg hml] at z ⊢
      exact h2 z
theorem g_walkOf {c : Nat} (hi : i < 19) (hc : c < 100) : FC ε jX7_walkOf [.inr (i, 1), .inl (nI c)] G i V s o (some (V 2 c)) V s o := by
  refine C2.of (ls := [some (.inr (i, 1)), some (.inl (nI c))]) okX7_walkOf rfl rfl ?_
  repeat (first | refine e2_step rfl rfl ?_ | refine e2c_get hi rfl rfl rfl rfl ?_ | refine e2c_lget rfl rfl ?_ | refine e2c_iald _ hi rfl rfl rfl rfl (by omega) ?_ | refine e2c_lald _ rfl rfl (by omega) ?_)
  refine e2_fs (c_isIn (nI c) (nI 0) (nI 99)) rfl rfl ⟨rfl, rfl, rfl⟩ rfl rfl rfl ?_
  rw [isIn_T (by omega) (by decide)]
  refine e2_if rfl rfl (fun z => absurd z (by decide)) (fun _ => ?_)
  repeat (first | refine e2_step rfl rfl ?_ | refine e2c_get hi rfl rfl rfl rfl ?_ | refine e2c_lget rfl rfl ?_ | refine e2c_iald _ hi rfl rfl rfl rfl (by omega) ?_ | refine e2c_lald _ rfl rfl (by omega) ?_)
  exact e2_iret rfl rfl ⟨rfl, rfl⟩
theorem w_walkOf {N l : Nat} (hi : i < 19) (hN : N ≤ 120) (hok : okV V N) (hl : l < N) : FC ε jX5_walkOf [.inr (i, 0), .inl (nI l)] G i V s o (some (nI (wkV V l))) V s o := by
  obtain ⟨c, h1, h2, h3, h4⟩ := wkV_of hok hl
  refine C2.of (ls := [some (.inr (i, 0)), some (.inl (nI l))]) okX5_walkOf rfl rfl ?_
  repeat (first | refine e2_step rfl rfl ?_ | refine e2c_get hi rfl rfl rfl rfl ?_ | refine e2c_lget rfl rfl ?_ | refine e2c_iald _ hi rfl rfl rfl rfl (by omega) ?_ | refine e2c_lald _ rfl rfl (by omega) ?_)
  refine e2c_fi (v_has hi hN (okV_cnt hok hl) hl) rfl rfl ⟨rfl, rfl, rfl⟩ rfl rfl rfl hi rfl rfl rfl rfl ?_
  refine e2_if rfl rfl (fun z => absurd z (by decide)) (fun _ => ?_)
  repeat (first | refine e2_step rfl rfl ?_ | refine e2c_get hi rfl rfl rfl rfl ?_ | refine e2c_lget rfl rfl ?_ | refine e2c_iald _ hi rfl rfl rfl rfl (by omega) ?_ | refine e2c_lald _ rfl rfl (by omega) ?_)
  rw [h2]
  refine e2c_fi (g_walkOf hi h1) rfl rfl ⟨rfl, rfl, rfl⟩ rfl rfl rfl hi rfl rfl rfl rfl ?_
  rw [h3]
  repeat (first | refine e2_step rfl rfl ?_ | refine e2c_get hi rfl rfl rfl rfl ?_ | refine e2c_lget rfl rfl ?_ | refine e2c_iald _ hi rfl rfl rfl rfl (by omega) ?_ | refine e2c_lald _ rfl rfl (by omega) ?_)
  exact e2_iret rfl rfl ⟨rfl, rfl⟩
def freV (V : VV) (w : Nat) : Int32 := if V 17 w - V 11 w < nI 0 then nI 0 else V 17 w - V 11 w
theorem w_freeHoles {w : Nat} (hi : i < 19) (hw : w < 8) : FC ε jX5_freeHoles [.inr (i, 0), .inl (nI w)] G i V s o (some (freV V w)) V s o := by
  refine C2.of (ls := [some (.inr (i, 0)), some (.inl (nI w))]) okX5_freeHoles rfl rfl ?_
  repeat (first | refine e2_step rfl rfl ?_ | refine e2c_get hi rfl rfl rfl rfl ?_ | refine e2c_lget rfl rfl ?_ | refine e2c_iald _ hi rfl rfl rfl rfl (by omega) ?_ | refine e2c_lald _ rfl rfl (by omega) ?_)
  refine e2_fs (c_isWalkT hw) rfl rfl ⟨rfl, rfl, rfl⟩ rfl rfl rfl ?_
  refine e2_if rfl rfl (fun z => absurd z (by decide)) (fun _ => ?_)
  repeat (first | refine e2_step rfl rfl ?_ | refine e2c_get hi rfl rfl rfl rfl ?_ | refine e2c_lget rfl rfl ?_ | refine e2c_iald _ hi rfl rfl rfl rfl (by omega) ?_ | refine e2c_lald _ rfl rfl (by omega) ?_)
  refine e2_max rfl rfl rfl ?_
  repeat (first | refine e2_step rfl rfl ?_ | refine e2c_get hi rfl rfl rfl rfl ?_ | refine e2c_lget rfl rfl ?_ | refine e2c_iald _ hi rfl rfl rfl rfl (by omega) ?_ | refine e2c_lald _ rfl rfl (by omega) ?_)
  exact e2_iret rfl rfl ⟨rfl, rfl⟩
theorem bestF_c (f : Nat → Int32) : ∀ n, (bestF f n).1 = -9 ∨ ∃ k, k < n ∧ (bestF f n).1 = nI k
  | 0 => Or.inl rfl
  | n + 1 => by
    unfold bestF
    split
    · exact Or.inr ⟨n, by omega, rfl⟩
    · rcases bestF_c f n with h | ⟨k, h1, h2⟩
      · exact Or.inl h
      · exact Or.inr ⟨k, by omega, h2⟩
theorem w_mostFree (hi : i < 19) : FC ε jX5_walkWithMostFree [.inr (i, 0)] G i V s o (some (bestF (freV V) 8).1) V s o := by
  obtain ⟨n8, h8⟩ : ∃ n, n = 8 := ⟨_, rfl⟩
  rw [← h8]
  refine C2.of (ls := [some (.inr (i, 0)), none, none, none]) okX5_walkWithMostFree rfl rfl ?_
  repeat (first | refine e2_stepS 7 rfl rfl rfl ?_ | refine e2c_getS 7 rfl hi rfl rfl rfl rfl ?_ | refine e2c_lgetS 7 rfl rfl rfl ?_ | refine e2c_ialdS 7 rfl _ hi rfl rfl rfl rfl (by omega) ?_)
  refine e2_for n8 (fun w => [some (.inr (i, 0)), some (.inl (bestF (freV V) w).1), some (.inl (bestF (freV V) w).2), some (.inl (nI w))]) (fun _ => cG G i V s o) (fun w hw K => ?_) (fun M hM => ?_)
  · repeat (first | refine e2_step rfl rfl ?_ | refine e2c_get hi rfl rfl rfl rfl ?_ | refine e2c_lget rfl rfl ?_ | refine e2c_iald _ hi rfl rfl rfl rfl (by omega) ?_ | refine e2c_lald _ rfl rfl (by omega) ?_)
    refine e2_if rfl rfl (fun c => absurd c (nI_ge (by omega) (by omega))) (fun _ => ?_)
    repeat (first | refine e2_step rfl rfl ?_ | refine e2c_get hi rfl rfl rfl rfl ?_ | refine e2c_lget rfl rfl ?_ | refine e2c_iald _ hi rfl rfl rfl rfl (by omega) ?_ | refine e2c_lald _ rfl rfl (by omega) ?_)
    refine e2c_fi (w_freeHoles hi (w := w) (by omega)) rfl rfl ⟨rfl, rfl, rfl⟩ rfl rfl rfl hi rfl rfl rfl rfl ?_
    repeat (first | refine e2_step rfl rfl ?_ | refine e2c_get hi rfl rfl rfl rfl ?_ | refine e2c_lget rfl rfl ?_ | refine e2c_iald _ hi rfl rfl rfl rfl (by omega) ?_ | refine e2c_lald _ rfl rfl (by omega) ?_)
    simp only [bestF] at K
    refine e2_if rfl rfl (fun c => ?_) (fun c => ?_)
    · rw [if_neg (Int32.not_lt.2 c)] at K
      repeat (first | refine e2_stepS 7 rfl rfl rfl ?_ | refine e2c_getS 7 rfl hi rfl rfl rfl rfl ?_ | refine e2c_lgetS 7 rfl rfl rfl ?_ | refine e2c_ialdS 7 rfl _ hi rfl rfl rfl rfl (by omega) ?_)
      rw [nI_add']
      exact K
    · rw [if_pos (Int32.not_le.1 c)] at K
      repeat (first | refine e2_step rfl rfl ?_ | refine e2c_get hi rfl rfl rfl rfl ?_ | refine e2c_lget rfl rfl ?_ | refine e2c_iald _ hi rfl rfl rfl rfl (by omega) ?_ | refine e2c_lald _ rfl rfl (by omega) ?_)
      refine e2c_fi (w_freeHoles hi (w := w) (by omega)) rfl rfl ⟨rfl, rfl, rfl⟩ rfl rfl rfl hi rfl rfl rfl rfl ?_
      repeat (first | refine e2_stepS 7 rfl rfl rfl ?_ | refine e2c_getS 7 rfl hi rfl rfl rfl rfl ?_ | refine e2c_lgetS 7 rfl rfl rfl ?_ | refine e2c_ialdS 7 rfl _ hi rfl rfl rfl rfl (by omega) ?_)
      rw [nI_add']
      exact K
  · repeat (first | refine e2_step rfl rfl ?_ | refine e2c_get hi rfl rfl rfl rfl ?_ | refine e2c_lget rfl rfl ?_ | refine e2c_iald _ hi rfl rfl rfl rfl (by omega) ?_ | refine e2c_lald _ rfl rfl (by omega) ?_)
    refine e2_if rfl rfl (fun _ => ?_) (fun c => absurd (by rw [hM, h8]; exact Int32.le_refl _) c)
    repeat (first | refine e2_step rfl rfl ?_ | refine e2c_get hi rfl rfl rfl rfl ?_ | refine e2c_lget rfl rfl ?_ | refine e2c_iald _ hi rfl rfl rfl rfl (by omega) ?_ | refine e2c_lald _ rfl rfl (by omega) ?_)
    exact e2_iret rfl rfl ⟨by rw [hM], rfl⟩
theorem secV_of {w : Int32} {l : Nat} (h : secV V w l = true) : V 7 l = nI 1 ∧ V 8 l = w := by
  simp only [secV, atV, Bool.and_eq_true, decide_eq_true_eq] at h
  exact h.1
def dspV (V : VV) (N : Nat) (w : Int32) : VV := if lastB (secV V w) N = -9 then V else moveV V (lastB (secV V w) N).toNatClampNeg (nI 2) (-9)
theorem v_displace {N : Nat} (hi : i < 19) (hN : N ≤ 120) (hc : V 3 8 = nI N) (hok : okV V N) (w : Int32) : FC ε jX2_displaceSecondClass [.inr (i, 3), .inl w] G i V s o (some (bI (decide (¬ lastB (secV V w) N = -9)))) (dspV V N w) s o := by
  refine C2.of (ls := [some (.inr (i, 3)), some (.inl w), none]) okX2_displaceSecondClass rfl rfl ?_
  repeat (first | refine e2_stepS 7 rfl rfl rfl ?_ | refine e2c_getS 7 rfl hi rfl rfl rfl rfl ?_ | refine e2c_lgetS 7 rfl rfl rfl ?_ | refine e2c_ialdS 7 rfl _ hi rfl rfl rfl rfl (by omega) ?_)
  rw [hc]
  have h : ∀ n, n ≤ N → ∀ y, y + nI 1 = nI n → E2 ε jX2_displaceSecondClass 7 [some (.inr (i, 3)), some (.inl w), some (.inl y)] [] (cG G i V s o) (fun v' G' => v' = some (bI (decide (¬ lastB (secV V w) n = -9))) ∧ G' = cG G i (dspV V n w) s o) := by
    intro n
    induction n with
    | zero =>
      intro _ y hy
      have hy1 : y = -1 := by
        have : y = nI 0 - nI 1 := by rw [← hy]; simp
        rw [this]
        decide
      subst hy1
      have e : lastB (secV V w) 0 = -9 := rfl
      unfold dspV
      rw [e, if_pos rfl, decide_eq_false (by decide)]
      repeat (first | refine e2_step rfl rfl ?_ | refine e2c_get hi rfl rfl rfl rfl ?_ | refine e2c_lget rfl rfl ?_ | refine e2c_iald _ hi rfl rfl rfl rfl (by omega) ?_ | refine e2c_lald _ rfl rfl (by omega) ?_)
      refine e2_if rfl rfl (fun _ => ?_) (fun c => absurd (by decide) c)
      repeat (first | refine e2_step rfl rfl ?_ | refine e2c_get hi rfl rfl rfl rfl ?_ | refine e2c_lget rfl rfl ?_ | refine e2c_iald _ hi rfl rfl rfl rfl (by omega) ?_ | refine e2c_lald _ rfl rfl (by omega) ?_)
      exact e2_zret rfl rfl rfl ⟨rfl, rfl⟩
    | succ n ih =>
      intro hn y hy
      have hy1 : y = nI n := by
        have : y = nI (n + 1) - nI 1 := by rw [← hy]; simp
        rw [this, pk_sub (by omega), Nat.add_sub_cancel]
      subst hy1
      have hback : secV V w n = false → E2 ε jX2_displaceSecondClass 39 [some (.inr (i, 3)), some (.inl w), some (.inl (nI n))] [] (cG G i V s o) (fun v' G' => v' = some (bI (decide (¬ lastB (secV V w) (n + 1) = -9))) ∧ G' = cG G i (dspV V (n + 1) w) s o) := by
        intro hs
        have e : lastB (secV V w) (n + 1) = lastB (secV V w) n := by rw [lastB, hs]; rfl
        have e2 : dspV V (n + 1) w = dspV V n w := by unfold dspV; rw [e]
        rw [e, e2]
        repeat (first | refine e2_stepS 7 rfl rfl rfl ?_ | refine e2c_getS 7 rfl hi rfl rfl rfl rfl ?_ | refine e2c_lgetS 7 rfl rfl rfl ?_ | refine e2c_ialdS 7 rfl _ hi rfl rfl rfl rfl (by omega) ?_)
        exact ih (by omega) (nI n + -1) (by simp [Int32.add_assoc]; decide)
      repeat (first | refine e2_step rfl rfl ?_ | refine e2c_get hi rfl rfl rfl rfl ?_ | refine e2c_lget rfl rfl ?_ | refine e2c_iald _ hi rfl rfl rfl rfl (by omega) ?_ | refine e2c_lald _ rfl rfl (by omega) ?_)
      refine e2_if rfl rfl (fun c => absurd c (nI_pos (by omega))) (fun _ => ?_)
      repeat (first | refine e2_step rfl rfl ?_ | refine e2c_get hi rfl rfl rfl rfl ?_ | refine e2c_lget rfl rfl ?_ | refine e2c_iald _ hi rfl rfl rfl rfl (by omega) ?_ | refine e2c_lald _ rfl rfl (by omega) ?_)
      refine e2c_fi (v_isAt hi hN hc (l := n) (by omega) (nI 1) w) rfl rfl ⟨rfl, rfl, rfl⟩ rfl rfl rfl hi rfl rfl rfl rfl ?_
      refine e2_if rfl rfl (fun c => ?_) (fun c => ?_)
      · rw [bI_0] at c
        exact hback (by unfold secV; rw [c]; rfl)
      · rw [bI_0, Bool.not_eq_false] at c
        repeat (first | refine e2_step rfl rfl ?_ | refine e2c_get hi rfl rfl rfl rfl ?_ | refine e2c_lget rfl rfl ?_ | refine e2c_iald _ hi rfl rfl rfl rfl (by omega) ?_ | refine e2c_lald _ rfl rfl (by omega) ?_)
        refine e2c_fi (v_isFirst hi hN hc (l := n) (by omega)) rfl rfl ⟨rfl, rfl, rfl⟩ rfl rfl rfl hi rfl rfl rfl rfl ?_
        refine e2_if rfl rfl (fun c2 => ?_) (fun c2 => ?_)
        · rw [bI_0, decide_eq_false_iff_not, Classical.not_not] at c2
          exact hback (by unfold secV; rw [c2, decide_eq_false (p := nI 1 = 0) (by decide), Bool.and_false])
        · have c2 := Classical.not_not.1 c2
          rw [bI_0, decide_eq_false_iff_not] at c2
          have c0 : V 5 n = nI 0 := (okV_cat hok (by omega)).resolve_right c2
          have hs : secV V w n = true := by unfold secV; rw [c, decide_eq_true (show V 5 n = 0 from c0)]; rfl
          have e : lastB (secV V w) (n + 1) = nI n := by rw [lastB, if_pos hs]
          have hne : ¬ nI n = -9 := nI_n9 (by omega)
          unfold dspV
          rw [e, if_neg hne, decide_eq_true hne, nI_clamp (by omega)]
          repeat (first | refine e2_step rfl rfl ?_ | refine e2c_get hi rfl rfl rfl rfl ?_ | refine e2c_lget rfl rfl ?_ | refine e2c_iald _ hi rfl rfl rfl rfl (by omega) ?_ | refine e2c_lald _ rfl rfl (by omega) ?_)
          refine e2c_fv (v_moveTo hi hN hc (l := n) (by omega) (nI 2) (-9) (hok n (by omega)).2 (fun z => absurd z n21)) rfl rfl ⟨rfl, rfl, rfl⟩ rfl rfl rfl hi rfl rfl rfl rfl ?_
          repeat (first | refine e2_step rfl rfl ?_ | refine e2c_get hi rfl rfl rfl rfl ?_ | refine e2c_lget rfl rfl ?_ | refine e2c_iald _ hi rfl rfl rfl rfl (by omega) ?_ | refine e2c_lald _ rfl rfl (by omega) ?_)
          exact e2_zret rfl rfl rfl ⟨rfl, rfl⟩
  exact h N (Nat.le_refl _) _ (by simp)
/-- the frame that a letter gets, and the office behind the search -/
def frmT (V : VV) (N l : Nat) : Int32 :=
  if freV V (wkV V l) ≤ 0 then (if V 0 5 = nI 1 ∧ V 5 l = nI 1 then (if lastB (secV V (nI (wkV V l))) N = -9 then -9 else nI (wkV V l)) else if V 0 5 = nI 2 then (bestF (freV V) 8).1 else -9) else nI (wkV V l)
def frmV (V : VV) (N l : Nat) : VV :=
  if freV V (wkV V l) ≤ 0 then (if V 0 5 = nI 1 ∧ V 5 l = nI 1 then dspV V N (nI (wkV V l)) else V) else V
theorem frmT_c {N l : Nat} (hw : wkV V l < 8) : frmT V N l = -9 ∨ ∃ w, w < 8 ∧ frmT V N l = nI w := by
  unfold frmT
  repeat' split
  · exact Or.inl rfl
  · exact Or.inr ⟨_, hw, rfl⟩
  · exact bestF_c (freV V) 8
  · exact Or.inl rfl
  · exact Or.inr ⟨_, hw, rfl⟩
theorem w_frameFor {N l : Nat} (hi : i < 19) (hN : N ≤ 120) (hc : V 3 8 = nI N) (hok : okV V N) (hl : l < N) : FC ε jX5_frameFor [.inr (i, 0), .inl (nI l)] G i V s o (some (frmT V N l)) (frmV V N l) s o := by
  have hw := (wkV_of hok hl).choose_spec.2.2.2
  refine C2.of (ls := [some (.inr (i, 0)), some (.inl (nI l)), none]) okX5_frameFor rfl rfl ?_
  repeat (first | refine e2_step rfl rfl ?_ | refine e2c_get hi rfl rfl rfl rfl ?_ | refine e2c_lget rfl rfl ?_ | refine e2c_iald _ hi rfl rfl rfl rfl (by omega) ?_ | refine e2c_lald _ rfl rfl (by omega) ?_)
  refine e2c_fi (w_walkOf hi hN hok hl) rfl rfl ⟨rfl, rfl, rfl⟩ rfl rfl rfl hi rfl rfl rfl rfl ?_
  repeat (first | refine e2_step rfl rfl ?_ | refine e2c_get hi rfl rfl rfl rfl ?_ | refine e2c_lget rfl rfl ?_ | refine e2c_iald _ hi rfl rfl rfl rfl (by omega) ?_ | refine e2c_lald _ rfl rfl (by omega) ?_)
  refine e2c_fi (w_freeHoles hi hw) rfl rfl ⟨rfl, rfl, rfl⟩ rfl rfl rfl hi rfl rfl rfl rfl ?_
  have h53 : ¬ (V 0 5 = nI 1 ∧ V 5 l = nI 1) → freV V (wkV V l) ≤ 0 → E2 ε jX5_frameFor 53 [some (.inr (i, 0)), some (.inl (nI l)), some (.inl (nI (wkV V l)))] [] (cG G i V s o) (fun v' G' => v' = some (frmT V N l) ∧ G' = cG G i (frmV V N l) s o) := by
    intro z1 z2
    have e2 : frmV V N l = V := by unfold frmV; rw [if_pos z2, if_neg z1]
    rw [e2]
    repeat (first | refine e2_step rfl rfl ?_ | refine e2c_get hi rfl rfl rfl rfl ?_ | refine e2c_lget rfl rfl ?_ | refine e2c_iald _ hi rfl rfl rfl rfl (by omega) ?_ | refine e2c_lald _ rfl rfl (by omega) ?_)
    refine e2_if rfl rfl (fun c => ?_) (fun c => ?_)
    · have e1 : frmT V N l = -9 := by unfold frmT; rw [if_pos z2, if_neg z1, if_neg c]
      rw [e1]
      repeat (first | refine e2_step rfl rfl ?_ | refine e2c_get hi rfl rfl rfl rfl ?_ | refine e2c_lget rfl rfl ?_ | refine e2c_iald _ hi rfl rfl rfl rfl (by omega) ?_ | refine e2c_lald _ rfl rfl (by omega) ?_)
      exact e2_iret rfl rfl ⟨rfl, rfl⟩
    · have e1 : frmT V N l = (bestF (freV V) 8).1 := by unfold frmT; rw [if_pos z2, if_neg z1, if_pos (Classical.not_not.1 c)]
      rw [e1]
      repeat (first | refine e2_step rfl rfl ?_ | refine e2c_get hi rfl rfl rfl rfl ?_ | refine e2c_lget rfl rfl ?_ | refine e2c_iald _ hi rfl rfl rfl rfl (by omega) ?_ | refine e2c_lald _ rfl rfl (by omega) ?_)
      refine e2c_fi (w_mostFree hi) rfl rfl ⟨rfl, rfl, rfl⟩ rfl rfl rfl hi rfl rfl rfl rfl ?_
      generalize (bestF (freV V) 8).1 = bf
      repeat (first | refine e2_step rfl rfl ?_ | refine e2c_get hi rfl rfl rfl rfl ?_ | refine e2c_lget rfl rfl ?_ | refine e2c_iald _ hi rfl rfl rfl rfl (by omega) ?_ | refine e2c_lald _ rfl rfl (by omega) ?_)
      exact e2_iret rfl rfl ⟨rfl, rfl⟩
  refine e2_if rfl rfl (fun z => ?_) (fun z => ?_)
  · have z2 : freV V (wkV V l) ≤ 0 := z
    repeat (first | refine e2_step rfl rfl ?_ | refine e2c_get hi rfl rfl rfl rfl ?_ | refine e2c_lget rfl rfl ?_ | refine e2c_iald _ hi rfl rfl rfl rfl (by omega) ?_ | refine e2c_lald _ rfl rfl (by omega) ?_)
    refine e2_if rfl rfl (fun c => ?_) (fun c => ?_)
    · exact h53 (fun h => c h.1) z2
    · have c := Classical.not_not.1 c
      repeat (first | refine e2_step rfl rfl ?_ | refine e2c_get hi rfl rfl rfl rfl ?_ | refine e2c_lget rfl rfl ?_ | refine e2c_iald _ hi rfl rfl rfl rfl (by omega) ?_ | refine e2c_lald _ rfl rfl (by omega) ?_)
      refine e2c_fi (v_isFirst hi hN hc hl) rfl rfl ⟨rfl, rfl, rfl⟩ rfl rfl rfl hi rfl rfl rfl rfl ?_
      refine e2_if rfl rfl (fun c2 => ?_) (fun c2 => ?_)
      · rw [bI_0, decide_eq_false_iff_not] at c2
        exact h53 (fun h => c2 h.2) z2
      · rw [bI_0, decide_eq_false_iff_not, Classical.not_not] at c2
        have e2 : frmV V N l = dspV V N (nI (wkV V l)) := by unfold frmV; rw [if_pos z2, if_pos ⟨c, c2⟩]
        rw [e2]
        repeat (first | refine e2_step rfl rfl ?_ | refine e2c_get hi rfl rfl rfl rfl ?_ | refine e2c_lget rfl rfl ?_ | refine e2c_iald _ hi rfl rfl rfl rfl (by omega) ?_ | refine e2c_lald _ rfl rfl (by omega) ?_)
        refine e2c_fi (v_displace hi hN hc hok (nI (wkV V l))) rfl rfl ⟨rfl, rfl, rfl⟩ rfl rfl rfl hi rfl rfl rfl rfl ?_
        refine e2_if rfl rfl (fun z3 => ?_) (fun z3 => ?_)
        · rw [bI_0, decide_eq_false_iff_not, Classical.not_not] at z3
          have e1 : frmT V N l = -9 := by unfold frmT; rw [if_pos z2, if_pos ⟨c, c2⟩, if_pos z3]
          rw [e1]
          repeat (first | refine e2_step rfl rfl ?_ | refine e2c_get hi rfl rfl rfl rfl ?_ | refine e2c_lget rfl rfl ?_ | refine e2c_iald _ hi rfl rfl rfl rfl (by omega) ?_ | refine e2c_lald _ rfl rfl (by omega) ?_)
          exact e2_iret rfl rfl ⟨rfl, rfl⟩
        · rw [bI_0, decide_eq_false_iff_not, Classical.not_not] at z3
          have e1 : frmT V N l = nI (wkV V l) := by unfold frmT; rw [if_pos z2, if_pos ⟨c, c2⟩, if_neg z3]
          rw [e1]
          repeat (first | refine e2_step rfl rfl ?_ | refine e2c_get hi rfl rfl rfl rfl ?_ | refine e2c_lget rfl rfl ?_ | refine e2c_iald _ hi rfl rfl rfl rfl (by omega) ?_ | refine e2c_lald _ rfl rfl (by omega) ?_)
          exact e2_iret rfl rfl ⟨rfl, rfl⟩
  · have z2 : ¬ freV V (wkV V l) ≤ 0 := z
    have e1 : frmT V N l = nI (wkV V l) := by unfold frmT; rw [if_neg z2]
    have e2 : frmV V N l = V := by unfold frmV; rw [if_neg z2]
    rw [e1, e2]
    repeat (first | refine e2_step rfl rfl ?_ | refine e2c_get hi rfl rfl rfl rfl ?_ | refine e2c_lget rfl rfl ?_ | refine e2c_iald _ hi rfl rfl rfl rfl (by omega) ?_ | refine e2c_lald _ rfl rfl (by omega) ?_)
    exact e2_iret rfl rfl ⟨rfl, rfl⟩
def srtB (V : VV) (N l : Nat) : Bool := decide (¬ frmT V N l = -9)
def srtV (V : VV) (N l : Nat) : VV := if frmT V N l = -9 then moveV (frmV V N l) l (nI 2) (-9) else moveV (frmV V N l) l (nI 1) (frmT V N l)
theorem frmV_ok {N l : Nat} (hok : okV V N) : okV (frmV V N l) N := by
  unfold frmV dspV
  repeat' split
  · exact hok
  · exact okV_move hok (fun z => absurd z n21)
  · exact hok
  · exact hok
theorem frmV_o {N l kk : Nat} (h7 : kk ≠ 7) (h8 : kk ≠ 8) (h11 : kk ≠ 11) : frmV V N l kk = V kk := by
  unfold frmV dspV
  repeat' split
  · rfl
  · exact moveV_o h7 h8 h11
  · rfl
  · rfl
theorem srtV_o {N l kk : Nat} (h7 : kk ≠ 7) (h8 : kk ≠ 8) (h11 : kk ≠ 11) : srtV V N l kk = V kk := by
  unfold srtV
  split
  · rw [moveV_o h7 h8 h11, frmV_o h7 h8 h11]
  · rw [moveV_o h7 h8 h11, frmV_o h7 h8 h11]
theorem srtV_ok {N l : Nat} (hok : okV V N) (hl : l < N) : okV (srtV V N l) N := by
  have hw := (wkV_of hok hl).choose_spec.2.2.2
  unfold srtV
  split
  · exact okV_move (frmV_ok hok) (fun z => absurd z n21)
  · rename_i h
    exact okV_move (frmV_ok hok) (fun _ => (frmT_c hw).resolve_left h)
theorem w_sort {N l : Nat} (hi : i < 19) (hN : N ≤ 120) (hc : V 3 8 = nI N) (hok : okV V N) (hl : l < N) : FC ε jX5_sort [.inr (i, 0), .inl (nI l)] G i V s o (some (bI (srtB V N l))) (srtV V N l) s o := by
  have hT := frmT_c (N := N) (wkV_of hok hl).choose_spec.2.2.2
  have hok2 := frmV_ok (l := l) hok
  have hfr := fun (G : GG) => w_frameFor (ε := ε) (G := G) (s := s) (o := o) hi hN hc hok hl
  unfold srtB srtV
  generalize frmT V N l = T at hT hfr ⊢
  generalize frmV V N l = V1 at hok2 hfr ⊢
  refine C2.of (ls := [some (.inr (i, 0)), some (.inl (nI l)), none]) okX5_sort rfl rfl ?_
  repeat (first | refine e2_step rfl rfl ?_ | refine e2c_get hi rfl rfl rfl rfl ?_ | refine e2c_lget rfl rfl ?_ | refine e2c_iald _ hi rfl rfl rfl rfl (by omega) ?_ | refine e2c_lald _ rfl rfl (by omega) ?_)
  refine e2c_fi (hfr G) rfl rfl ⟨rfl, rfl, rfl⟩ rfl rfl rfl hi rfl rfl rfl rfl ?_
  repeat (first | refine e2_step rfl rfl ?_ | refine e2c_get hi rfl rfl rfl rfl ?_ | refine e2c_lget rfl rfl ?_ | refine e2c_iald _ hi rfl rfl rfl rfl (by omega) ?_ | refine e2c_lald _ rfl rfl (by omega) ?_)
  refine e2_if rfl rfl (fun c => ?_) (fun c => ?_)
  · rw [if_neg c, decide_eq_true c]
    repeat (first | refine e2_step rfl rfl ?_ | refine e2c_get hi rfl rfl rfl rfl ?_ | refine e2c_lget rfl rfl ?_ | refine e2c_iald _ hi rfl rfl rfl rfl (by omega) ?_ | refine e2c_lald _ rfl rfl (by omega) ?_)
    refine e2c_fv (v_moveTo hi hN (okV_cnt hok2 hl) hl (nI 1) T (hok2 l hl).2 (fun _ => hT.resolve_left c)) rfl rfl ⟨rfl, rfl, rfl⟩ rfl rfl rfl hi rfl rfl rfl rfl ?_
    repeat (first | refine e2_step rfl rfl ?_ | refine e2c_get hi rfl rfl rfl rfl ?_ | refine e2c_lget rfl rfl ?_ | refine e2c_iald _ hi rfl rfl rfl rfl (by omega) ?_ | refine e2c_lald _ rfl rfl (by omega) ?_)
    exact e2_zret rfl rfl rfl ⟨rfl, rfl⟩
  · have c := Classical.not_not.1 c
    rw [if_pos c, decide_eq_false (by rw [c]; decide)]
    repeat (first | refine e2_step rfl rfl ?_ | refine e2c_get hi rfl rfl rfl rfl ?_ | refine e2c_lget rfl rfl ?_ | refine e2c_iald _ hi rfl rfl rfl rfl (by omega) ?_ | refine e2c_lald _ rfl rfl (by omega) ?_)
    refine e2c_fv (v_moveTo hi hN (okV_cnt hok2 hl) hl (nI 2) (-9) (hok2 l hl).2 (fun z => absurd z n21)) rfl rfl ⟨rfl, rfl, rfl⟩ rfl rfl rfl hi rfl rfl rfl rfl ?_
    repeat (first | refine e2_step rfl rfl ?_ | refine e2c_get hi rfl rfl rfl rfl ?_ | refine e2c_lget rfl rfl ?_ | refine e2c_iald _ hi rfl rfl rfl rfl (by omega) ?_ | refine e2c_lald _ rfl rfl (by omega) ?_)
    exact e2_zret rfl rfl rfl ⟨rfl, rfl⟩
/-- the first k of a list are sorted: the office, and how many went into a frame -/
def srtsV (V : VV) (N : Nat) (R : List Nat) : Nat → VV
  | 0 => V
  | k + 1 => srtV (srtsV V N R k) N (revD R k)
def srtsn (V : VV) (N : Nat) (R : List Nat) : Nat → Nat
  | 0 => 0
  | k + 1 => srtsn V N R k + (if srtB (srtsV V N R k) N (revD R k) then 1 else 0)
theorem srtsV_o {N kk : Nat} {R : List Nat} (h7 : kk ≠ 7) (h8 : kk ≠ 8) (h11 : kk ≠ 11) : ∀ k, srtsV V N R k kk = V kk
  | 0 => rfl
  | k + 1 => by
    unfold srtsV
    rw [srtV_o h7 h8 h11, srtsV_o h7 h8 h11 k]
theorem srtsV_ok {N : Nat} {R : List Nat} (hok : okV V N) (hR : ∀ a, a ∈ R → a < N) : ∀ k, k ≤ R.length → okV (srtsV V N R k) N
  | 0, _ => hok
  | k + 1, h => srtV_ok (srtsV_ok hok hR k (by omega)) (hR _ (revD_mem R k (by omega)))
theorem ovV_ok {N : Nat} (hok : okV V N) : ∀ n, okV (ovV V n) N
  | 0 => hok
  | n + 1 => by
    unfold ovV
    split
    · exact okV_move (ovV_ok hok n) (fun z => absurd z n01)
    · exact ovV_ok hok n
def hr1V (V : VV) : VV := wv V 0 4 (V 0 4 + nI 1)
def bagH (V : VV) (N : Nat) : List Nat := bagVR (ovV (hr1V V) N) N
def hrsV (V : VV) (N : Nat) : VV := srtsV (ovV (hr1V V) N) N (bagH V N) (min (bagH V N).length (V 0 6).toNatClampNeg)
def hrsn (V : VV) (N : Nat) : Nat := srtsn (ovV (hr1V V) N) N (bagH V N) (min (bagH V N).length (V 0 6).toNatClampNeg)
theorem srtsn_le {N : Nat} {R : List Nat} : ∀ k, srtsn V N R k ≤ k
  | 0 => Nat.le_refl _
  | k + 1 => by
    have := srtsn_le (N := N) (R := R) k
    show srtsn V N R k + _ ≤ k + 1
    split <;> omega
set_option maxHeartbeats 2000000 in
theorem w_passHour {N sp : Nat} (hi : i < 19) (hN : N ≤ 120) (hc : V 3 8 = nI N) (hok : okV V N) (hsp : V 0 6 = nI sp) (hsp2 : sp < 1000) (hR : (bagH V N).length ≤ N) (hRlt : ∀ a, a ∈ bagH V N → a < N) : FC ε jX5_passHour [.inr (i, 0), .inr (0, 40)] G i V s o (some (nI (hrsn V N))) (hrsV V N) (nI (bagH V N).length) (ordA (bagH V N) o) := by
  refine C2.of (ls := [some (.inr (i, 0)), some (.inr (0, 40)), none, none, none]) okX5_passHour rfl rfl ?_
  repeat (first | refine e2_step rfl rfl ?_ | refine e2c_get hi rfl rfl rfl rfl ?_ | refine e2c_lget rfl rfl ?_ | refine e2c_iald _ hi rfl rfl rfl rfl (by omega) ?_ | refine e2c_lald _ rfl rfl (by omega) ?_)
  refine e2c_put hi rfl rfl rfl rfl rfl rfl rfl ?_
  change E2 ε jX5_passHour 10 _ _ (cG G i (hr1V V) s o) _
  have hok1 : okV (hr1V V) N := hok
  have hc1 : hr1V V 3 8 = nI N := hc
  have hsp1 : hr1V V 0 6 = nI sp := hsp
  unfold hrsn hrsV
  rw [hsp, nI_clamp (by omega)]
  have hbag : bagH V N = bagVR (ovV (hr1V V) N) N := rfl
  generalize hR0 : bagH V N = R at hR hRlt hbag ⊢
  generalize hV1 : hr1V V = V1 at hok1 hc1 hsp1 hbag ⊢
  repeat (first | refine e2_step rfl rfl ?_ | refine e2c_get hi rfl rfl rfl rfl ?_ | refine e2c_lget rfl rfl ?_ | refine e2c_iald _ hi rfl rfl rfl rfl (by omega) ?_ | refine e2c_lald _ rfl rfl (by omega) ?_)
  refine e2c_fv (v_emptyOverflow hi hN hc1) rfl rfl ⟨rfl, rfl, rfl⟩ rfl rfl rfl hi rfl rfl rfl rfl ?_
  have hok2 := ovV_ok hok1 N
  have hc2 : ovV V1 N 3 8 = nI N := by rw [ovV_o (by decide) (by decide) (by decide)]; exact hc1
  have hsp2' : ovV V1 N 0 6 = nI sp := by rw [ovV_o (by decide) (by decide) (by decide)]; exact hsp1
  generalize hV2 : ovV V1 N = V2 at hok2 hc2 hsp2' hbag ⊢
  repeat (first | refine e2_step rfl rfl ?_ | refine e2c_get hi rfl rfl rfl rfl ?_ | refine e2c_lget rfl rfl ?_ | refine e2c_iald _ hi rfl rfl rfl rfl (by omega) ?_ | refine e2c_lald _ rfl rfl (by omega) ?_)
  refine e2c_fv (v_listBag hi hN hc2 (by rw [← hbag]; omega)) rfl rfl ⟨rfl, rfl, rfl⟩ rfl rfl rfl hi rfl rfl rfl rfl ?_
  rw [← hbag]
  repeat (first | refine e2_step rfl rfl ?_ | refine e2c_get hi rfl rfl rfl rfl ?_ | refine e2c_lget rfl rfl ?_ | refine e2c_iald _ hi rfl rfl rfl rfl (by omega) ?_ | refine e2c_lald _ rfl rfl (by omega) ?_)
  rw [hsp2']
  refine e2_min rfl rfl rfl ?_
  have hm : (if nI R.length < nI sp then nI R.length else nI sp) = nI (min R.length sp) := by
    by_cases h : R.length < sp
    · rw [if_pos ((nI_ltI (by omega) (by omega)).2 h), Nat.min_eq_left (by omega)]
    · rw [if_neg (fun z => h ((nI_ltI (by omega) (by omega)).1 z)), Nat.min_eq_right (by omega)]
  rw [hm]
  repeat (first | refine e2_stepS 42 rfl rfl rfl ?_ | refine e2c_getS 42 rfl hi rfl rfl rfl rfl ?_ | refine e2c_lgetS 42 rfl rfl rfl ?_ | refine e2c_ialdS 42 rfl _ hi rfl rfl rfl rfl (by omega) ?_)
  refine e2_for (min R.length sp) (fun k => [some (.inr (i, 0)), some (.inr (0, 40)), some (.inl (nI (min R.length sp))), some (.inl (nI (srtsn V2 N R k))), some (.inl (nI k))]) (fun k => cG G i (srtsV V2 N R k) (nI R.length) (ordA R o)) (fun k hk K => ?_) (fun M hM => ?_)
  · have hok3 := srtsV_ok hok2 hRlt k (by omega)
    have hc3 : srtsV V2 N R k 3 8 = nI N := by rw [srtsV_o (by decide) (by decide) (by decide)]; exact hc2
    repeat (first | refine e2_step rfl rfl ?_ | refine e2c_get hi rfl rfl rfl rfl ?_ | refine e2c_lget rfl rfl ?_ | refine e2c_iald _ hi rfl rfl rfl rfl (by omega) ?_ | refine e2c_lald _ rfl rfl (by omega) ?_)
    refine e2_if rfl rfl (fun c => absurd c (nI_ge hk (by omega))) (fun _ => ?_)
    repeat (first | refine e2_step rfl rfl ?_ | refine e2c_get hi rfl rfl rfl rfl ?_ | refine e2c_lget rfl rfl ?_ | refine e2c_iald _ hi rfl rfl rfl rfl (by omega) ?_ | refine e2c_lald _ rfl rfl (by omega) ?_)
    refine e2c_lfi (l_letterAt (n := R.length) (j := k) (by omega) (by omega)) rfl rfl ⟨rfl, rfl, rfl⟩ rfl rfl rfl rfl ?_
    rw [if_neg (by omega), ordA_at (by omega)]
    refine e2c_fi (w_sort hi hN hc3 hok3 (hRlt _ (revD_mem R k (by omega)))) rfl rfl ⟨rfl, rfl, rfl⟩ rfl rfl rfl hi rfl rfl rfl rfl ?_
    simp only [srtsn] at K
    refine e2_if rfl rfl (fun c => ?_) (fun c => ?_)
    · rw [bI_0] at c
      rw [c] at K
      repeat (first | refine e2_stepS 42 rfl rfl rfl ?_ | refine e2c_getS 42 rfl hi rfl rfl rfl rfl ?_ | refine e2c_lgetS 42 rfl rfl rfl ?_ | refine e2c_ialdS 42 rfl _ hi rfl rfl rfl rfl (by omega) ?_)
      rw [nI_add']
      exact K
    · rw [bI_0, Bool.not_eq_false] at c
      rw [c] at K
      repeat (first | refine e2_stepS 42 rfl rfl rfl ?_ | refine e2c_getS 42 rfl hi rfl rfl rfl rfl ?_ | refine e2c_lgetS 42 rfl rfl rfl ?_ | refine e2c_ialdS 42 rfl _ hi rfl rfl rfl rfl (by omega) ?_)
      rw [nI_add', nI_add']
      exact K
  · repeat (first | refine e2_step rfl rfl ?_ | refine e2c_get hi rfl rfl rfl rfl ?_ | refine e2c_lget rfl rfl ?_ | refine e2c_iald _ hi rfl rfl rfl rfl (by omega) ?_ | refine e2c_lald _ rfl rfl (by omega) ?_)
    refine e2_if rfl rfl (fun _ => ?_) (fun c => absurd (by rw [hM]; exact Int32.le_refl _) c)
    repeat (first | refine e2_step rfl rfl ?_ | refine e2c_get hi rfl rfl rfl rfl ?_ | refine e2c_lget rfl rfl ?_ | refine e2c_iald _ hi rfl rfl rfl rfl (by omega) ?_ | refine e2c_lald _ rfl rfl (by omega) ?_)
    exact e2_iret rfl rfl ⟨by rw [hM], by rw [hM]⟩
theorem w_isCleared {N : Nat} (hi : i < 19) (hN : N ≤ 120) (hc : V 3 8 = nI N) : FC ε jX5_isCleared [.inr (i, 0)] G i V s o (some (bI (decide (cntB (fun l => decide (V 7 l = nI 0)) N = 0) && decide (cntB (fun l => decide (V 7 l = nI 2)) N = 0)))) V s o := by
  have hle : ∀ p : Nat → Bool, cntB p N < 2 ^ 31 := fun p => Nat.lt_of_le_of_lt (cntB_le p N) (by omega)
  refine C2.of (ls := [some (.inr (i, 0))]) okX5_isCleared rfl rfl ?_
  repeat (first | refine e2_step rfl rfl ?_ | refine e2c_get hi rfl rfl rfl rfl ?_ | refine e2c_lget rfl rfl ?_ | refine e2c_iald _ hi rfl rfl rfl rfl (by omega) ?_ | refine e2c_lald _ rfl rfl (by omega) ?_)
  refine e2c_fi (v_countIn hi hN hc (nI 0)) rfl rfl ⟨rfl, rfl, rfl⟩ rfl rfl rfl hi rfl rfl rfl rfl ?_
  refine e2_if rfl rfl (fun c => ?_) (fun c => ?_)
  · have c2 : ¬ cntB (fun l => decide (V 7 l = nI 0)) N = 0 := fun h => c (by rw [h]; rfl)
    rw [decide_eq_false c2]
    repeat (first | refine e2_step rfl rfl ?_ | refine e2c_get hi rfl rfl rfl rfl ?_ | refine e2c_lget rfl rfl ?_ | refine e2c_iald _ hi rfl rfl rfl rfl (by omega) ?_ | refine e2c_lald _ rfl rfl (by omega) ?_)
    exact e2_zret rfl rfl rfl ⟨rfl, rfl⟩
  · have c2 : cntB (fun l => decide (V 7 l = nI 0)) N = 0 := (nI_eq (hle _) (by decide)).1 (Classical.not_not.1 c)
    rw [decide_eq_true c2]
    repeat (first | refine e2_step rfl rfl ?_ | refine e2c_get hi rfl rfl rfl rfl ?_ | refine e2c_lget rfl rfl ?_ | refine e2c_iald _ hi rfl rfl rfl rfl (by omega) ?_ | refine e2c_lald _ rfl rfl (by omega) ?_)
    refine e2c_fi (v_countIn hi hN hc (nI 2)) rfl rfl ⟨rfl, rfl, rfl⟩ rfl rfl rfl hi rfl rfl rfl rfl ?_
    refine e2_if rfl rfl (fun d => ?_) (fun d => ?_)
    · have d2 : ¬ cntB (fun l => decide (V 7 l = nI 2)) N = 0 := fun h => d (by rw [h]; rfl)
      rw [decide_eq_false d2]
      repeat (first | refine e2_step rfl rfl ?_ | refine e2c_get hi rfl rfl rfl rfl ?_ | refine e2c_lget rfl rfl ?_ | refine e2c_iald _ hi rfl rfl rfl rfl (by omega) ?_ | refine e2c_lald _ rfl rfl (by omega) ?_)
      exact e2_zret rfl rfl rfl ⟨rfl, rfl⟩
    · have d2 : cntB (fun l => decide (V 7 l = nI 2)) N = 0 := (nI_eq (hle _) (by decide)).1 (Classical.not_not.1 d)
      rw [decide_eq_true d2]
      repeat (first | refine e2_step rfl rfl ?_ | refine e2c_get hi rfl rfl rfl rfl ?_ | refine e2c_lget rfl rfl ?_ | refine e2c_iald _ hi rfl rfl rfl rfl (by omega) ?_ | refine e2c_lald _ rfl rfl (by omega) ?_)
      exact e2_zret rfl rfl rfl ⟨rfl, rfl⟩
end ND
