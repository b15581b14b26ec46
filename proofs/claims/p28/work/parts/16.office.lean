/-! The class's office i as numbers V (V kk = its part kk), with the line (s letters o): cG; rules over it; Line and Letters. -/
section NA
variable {ε : EE} {J : JT} {pc : Nat} {ls : List (Option V0)} {st : List V0} {G : GG} {i : Nat} {V V' : Nat → Nat → Int32} {s s' : Int32} {o o' : Nat → Int32} {Q : Option Int32 → GG → Prop}
abbrev VV : Type := Nat → Nat → Int32
def cG (G : GG) (i : Nat) (V : VV) (s : Int32) (o : Nat → Int32) : GG := fun i' kk => if i' = i ∧ kk < 18 then V kk else if i' = 0 ∧ kk = 40 then upd (G 0 40) 1 s else if i' = 0 ∧ kk = 41 then o else G i' kk
def sv (V : VV) (kk : Nat) (g : Nat → Int32) : VV := fun kk' => if kk' = kk then g else V kk'
def wv (V : VV) (kk j : Nat) (x : Int32) : VV := sv V kk (upd (V kk) j x)
theorem cG_at {kk : Nat} (h : kk < 18) : cG G i V s o i kk = V kk := by simp [cG, h]
theorem cG_40 : cG G i V s o 0 40 = upd (G 0 40) 1 s := by simp [cG]
theorem cG_41 : cG G i V s o 0 41 = o := by simp [cG]
theorem cG_o {i' kk : Nat} (h : i' ≠ i ∨ 18 ≤ kk) (h2 : kk ≠ 40) (h3 : kk ≠ 41) : cG G i V s o i' kk = G i' kk := by
  unfold cG
  rw [if_neg (by omega), if_neg (by omega), if_neg (by omega)]
theorem cG_set {kk : Nat} (h : kk < 18) (g : Nat → Int32) : setA (cG G i V s o) i kk g = cG G i (sv V kk g) s o := by
  funext a b
  simp only [setA, cG, sv]
  by_cases h1 : a = i ∧ b = kk
  · rw [if_pos h1, if_pos (by omega), if_pos h1.2]
  · rw [if_neg h1]
    by_cases h2 : a = i ∧ b < 18
    · rw [if_pos h2, if_pos h2, if_neg (by omega)]
    · rw [if_neg h2, if_neg h2]
theorem cG_set40 (x : Int32) : setA (cG G i V s o) 0 40 (upd (upd (G 0 40) 1 s) 1 x) = cG G i V x o := by
  funext a b
  simp only [setA, cG]
  by_cases h1 : a = 0 ∧ b = 40
  · rw [if_pos h1, if_neg (by omega), if_pos h1]
    funext j
    simp only [upd]
    split <;> rfl
  · rw [if_neg h1]
    by_cases h2 : a = i ∧ b < 18
    · rw [if_pos h2, if_pos h2]
    · rw [if_neg h2, if_neg h2, if_neg h1, if_neg h1]
theorem cG_set41 (g : Nat → Int32) : setA (cG G i V s o) 0 41 g = cG G i V s g := by
  funext a b
  simp only [setA, cG]
  by_cases h1 : a = 0 ∧ b = 41
  · rw [if_pos h1, if_neg (by omega), if_neg (by omega), if_pos h1]
  · rw [if_neg h1]
    by_cases h2 : a = i ∧ b < 18
    · rw [if_pos h2, if_pos h2]
    · rw [if_neg h2, if_neg h2]
      by_cases h3 : a = 0 ∧ b = 40
      · rw [if_pos h3, if_pos h3]
      · rw [if_neg h3, if_neg h3, if_neg h1, if_neg h1]
theorem cG_self (G : GG) (i : Nat) : cG G i (G i) (G 0 40 1) (G 0 41) = G := by
  funext a b
  simp only [cG]
  by_cases h2 : a = i ∧ b < 18
  · rw [if_pos h2, h2.1]
  · rw [if_neg h2]
    by_cases h3 : a = 0 ∧ b = 40
    · rw [if_pos h3, h3.1, h3.2]
      funext j
      simp only [upd]
      split
      · rename_i h; rw [h]
      · rfl
    · rw [if_neg h3]
      by_cases h4 : a = 0 ∧ b = 41
      · rw [if_pos h4, h4.1, h4.2]
      · rw [if_neg h4]
theorem lim18 {kk : Nat} (hi : i < 19) (hk : Nat.blt kk 18 = true) : i < lim kk ∧ kk < 18 := by
  have h : kk < 18 := by
    have h0 := hk
    simp [Nat.blt] at h0
    omega
  refine ⟨?_, h⟩
  unfold lim
  rw [if_pos h]
  exact hi
theorem e2c_get {kf t nx idx kk : Nat} {v : Int32} {fs : List V0} {w : V0} (hi : i < 19) (hk : Nat.blt kk 18 = true) (h : lk (jt J) pc = (30, kf, t, v, nx, idx)) (ho : objV i kk (V kk) = some (t, fs)) (hw : fs[kf]? = some w) (k : E2 ε J nx ls (w :: st) (cG G i V s o) Q) : E2 ε J pc ls (.inr (i, kk) :: st) (cG G i V s o) Q :=
  e2_get h (lim18 hi hk).1 (by rw [cG_at (lim18 hi hk).2]; exact ho) hw k
theorem e2c_getS {kf t nx idx kk : Nat} {v : Int32} {fs : List V0} {w : V0} (stop : Nat) (_ : Nat.beq pc stop = false) (hi : i < 19) (hk : Nat.blt kk 18 = true) (h : lk (jt J) pc = (30, kf, t, v, nx, idx)) (ho : objV i kk (V kk) = some (t, fs)) (hw : fs[kf]? = some w) (k : E2 ε J nx ls (w :: st) (cG G i V s o) Q) : E2 ε J pc ls (.inr (i, kk) :: st) (cG G i V s o) Q := e2c_get hi hk h ho hw k
theorem e2c_lget {kf nx idx : Nat} {v : Int32} {w : V0} (h : lk (jt J) pc = (30, kf, 3, v, nx, idx)) (hw : ([.inr (0, 41), .inl s] : List V0)[kf]? = some w) (k : E2 ε J nx ls (w :: st) (cG G i V s o) Q) : E2 ε J pc ls (.inr (0, 40) :: st) (cG G i V s o) Q :=
  e2_get (fs := [.inr (0, 41), .inl s]) h (by decide) (by rw [cG_40]; rfl) hw k
theorem e2c_lgetS {kf nx idx : Nat} {v : Int32} {w : V0} (stop : Nat) (_ : Nat.beq pc stop = false) (h : lk (jt J) pc = (30, kf, 3, v, nx, idx)) (hw : ([.inr (0, 41), .inl s] : List V0)[kf]? = some w) (k : E2 ε J nx ls (w :: st) (cG G i V s o) Q) : E2 ε J pc ls (.inr (0, 40) :: st) (cG G i V s o) Q := e2c_lget h hw k
theorem e2c_iald {a b nx idx kk n : Nat} {v x : Int32} (j : Nat) (hi : i < 19) (hk : Nat.blt kk 18 = true) (h : lk (jt J) pc = (32, a, b, v, nx, idx)) (hx : x = nI j) (ha : arrI kk = some (0, n)) (hj : j < n) (k : E2 ε J nx ls (.inl (V kk j) :: st) (cG G i V s o) Q) : E2 ε J pc ls (.inl x :: .inr (i, kk) :: st) (cG G i V s o) Q :=
  e2_iald j h hx (lim18 hi hk).1 ha hj (by rw [cG_at (lim18 hi hk).2]; exact k)
theorem e2c_ialdS {a b nx idx kk n : Nat} {v x : Int32} (stop : Nat) (_ : Nat.beq pc stop = false) (j : Nat) (hi : i < 19) (hk : Nat.blt kk 18 = true) (h : lk (jt J) pc = (32, a, b, v, nx, idx)) (hx : x = nI j) (ha : arrI kk = some (0, n)) (hj : j < n) (k : E2 ε J nx ls (.inl (V kk j) :: st) (cG G i V s o) Q) : E2 ε J pc ls (.inl x :: .inr (i, kk) :: st) (cG G i V s o) Q := e2c_iald j hi hk h hx ha hj k
theorem e2c_zald {a b nx idx kk n : Nat} {v x : Int32} (j : Nat) (hi : i < 19) (hk : Nat.blt kk 18 = true) (h : lk (jt J) pc = (33, a, b, v, nx, idx)) (hx : x = nI j) (ha : arrI kk = some (1, n)) (hj : j < n) (k : E2 ε J nx ls (.inl (V kk j) :: st) (cG G i V s o) Q) : E2 ε J pc ls (.inl x :: .inr (i, kk) :: st) (cG G i V s o) Q :=
  e2_zald j h hx (lim18 hi hk).1 ha hj (by rw [cG_at (lim18 hi hk).2]; exact k)
theorem e2c_lald {a b nx idx : Nat} {v x : Int32} (j : Nat) (h : lk (jt J) pc = (32, a, b, v, nx, idx)) (hx : x = nI j) (hj : j < 120) (k : E2 ε J nx ls (.inl (o j) :: st) (cG G i V s o) Q) : E2 ε J pc ls (.inl x :: .inr (0, 41) :: st) (cG G i V s o) Q :=
  e2_iald j h hx (by decide) rfl hj (by rw [cG_41]; exact k)
theorem e2c_iast {a b nx idx kk n : Nat} {v x y : Int32} (j : Nat) (hi : i < 19) (hk : Nat.blt kk 18 = true) (h : lk (jt J) pc = (36, a, b, v, nx, idx)) (hx : x = nI j) (ha : arrI kk = some (0, n)) (hj : j < n) (k : E2 ε J nx ls st (cG G i (wv V kk j y) s o) Q) : E2 ε J pc ls (.inl y :: .inl x :: .inr (i, kk) :: st) (cG G i V s o) Q :=
  e2_iast j h hx (lim18 hi hk).1 ha hj (by
    show E2 ε J nx ls st (setA _ i kk (upd (cG G i V s o i kk) j y)) Q
    rw [cG_at (lim18 hi hk).2, cG_set (lim18 hi hk).2]
    exact k)
theorem e2c_zast {a b nx idx kk n : Nat} {v x y : Int32} (j : Nat) (hi : i < 19) (hk : Nat.blt kk 18 = true) (h : lk (jt J) pc = (37, a, b, v, nx, idx)) (hx : x = nI j) (ha : arrI kk = some (1, n)) (hj : j < n) (hy : y = 0 ∨ y = 1) (k : E2 ε J nx ls st (cG G i (wv V kk j y) s o) Q) : E2 ε J pc ls (.inl y :: .inl x :: .inr (i, kk) :: st) (cG G i V s o) Q :=
  e2_zast j h hx (lim18 hi hk).1 ha hj hy (by
    show E2 ε J nx ls st (setA _ i kk (upd (cG G i V s o i kk) j y)) Q
    rw [cG_at (lim18 hi hk).2, cG_set (lim18 hi hk).2]
    exact k)
theorem e2c_last {a b nx idx : Nat} {v x y : Int32} (j : Nat) (h : lk (jt J) pc = (36, a, b, v, nx, idx)) (hx : x = nI j) (hj : j < 120) (k : E2 ε J nx ls st (cG G i V s (upd o j y)) Q) : E2 ε J pc ls (.inl y :: .inl x :: .inr (0, 41) :: st) (cG G i V s o) Q :=
  e2_iast j h hx (by decide) rfl hj (by
    show E2 ε J nx ls st (setA _ 0 41 (upd (cG G i V s o 0 41) j y)) Q
    rw [cG_41, cG_set41]
    exact k)
theorem e2c_put {kf t nx idx kk : Nat} {v x : Int32} {fs : List V0} (hi : i < 19) (hk : Nat.blt kk 18 = true) (h : lk (jt J) pc = (31, kf, t, v, nx, idx)) (ho : objV i kk (V kk) = some (t, fs)) (ho2 : objV i kk (upd (V kk) kf x) = some (t, fs.set kf (.inl x))) (hfin : (tbC t kf).2.2.2 = false) (hty : tyC t kf = .int) (hl0 : Nat.ble (kf + 1) fs.length = true) (k : E2 ε J nx ls st (cG G i (wv V kk kf x) s o) Q) : E2 ε J pc ls (.inl x :: .inr (i, kk) :: st) (cG G i V s o) Q :=
  e2_put h (lim18 hi hk).1 (by rw [cG_at (lim18 hi hk).2]; exact ho) (by rw [cG_at (lim18 hi hk).2]; exact ho2) hfin hty hl0 (by
    show E2 ε J nx ls st (setA _ i kk (upd (cG G i V s o i kk) kf x)) Q
    rw [cG_at (lim18 hi hk).2, cG_set (lim18 hi hk).2]
    exact k)
theorem e2c_lput {nx idx : Nat} {v x : Int32} (h : lk (jt J) pc = (31, 1, 3, v, nx, idx)) (k : E2 ε J nx ls st (cG G i V x o) Q) : E2 ε J pc ls (.inl x :: .inr (0, 40) :: st) (cG G i V s o) Q :=
  e2_put (fs := [.inr (0, 41), .inl s]) h (by decide) (by rw [cG_40]; rfl) (by rw [cG_40]; rfl) rfl rfl rfl (by
    show E2 ε J nx ls st (setA _ 0 40 (upd (cG G i V s o 0 40) 1 x)) Q
    rw [cG_40, cG_set40]
    exact k)
/-- a method of a part of office i -/
def FC (ε : EE) (J : JT) (As : List V0) (G : GG) (i : Nat) (V : VV) (s : Int32) (o : Nat → Int32) (v : Option Int32) (V' : VV) (s' : Int32) (o' : Nat → Int32) : Prop := F2 ε J As (cG G i V s o) v (cG G i V' s' o')
theorem e2c_fi {J' : JT} {n idx nx kk ci : Nat} {v r : Int32} {As rest : List V0} {fs : List V0} {ty : FieldType} (hC : FC ε J' (.inr (i, kk) :: As) G i V s o (some r) V' s' o') (hst : st = As.reverse ++ .inr (i, kk) :: rest) (h : lk (jt J) pc = (44, n, jn J', v, nx, idx)) (hT : e_fit J J') (hr : jr J' = some ty) (hn : As.length = n) (hrest : Nat.ble rest.length 8 = true) (hi : i < 19) (hk : Nat.blt kk 18 = true) (ho : objV i kk (V kk) = some (ci, fs)) (hci : Nat.ble ci 8 = true) (hcn : nmC ci = (jy J').cls)
    (k : E2 ε J nx ls (.inl r :: rest) (cG G i V' s' o') Q) : E2 ε J pc ls st (cG G i V s o) Q := e2_fi hC hst h hT hr hn hrest (lim18 hi hk).1 (by rw [cG_at (lim18 hi hk).2]; exact ho) hci hcn k
theorem e2c_fv {J' : JT} {n idx nx kk ci : Nat} {v : Int32} {As rest : List V0} {fs : List V0} (hC : FC ε J' (.inr (i, kk) :: As) G i V s o none V' s' o') (hst : st = As.reverse ++ .inr (i, kk) :: rest) (h : lk (jt J) pc = (44, n, jn J', v, nx, idx)) (hT : e_fit J J') (hr : jr J' = none) (hn : As.length = n) (hrest : Nat.ble rest.length 8 = true) (hi : i < 19) (hk : Nat.blt kk 18 = true) (ho : objV i kk (V kk) = some (ci, fs)) (hci : Nat.ble ci 8 = true) (hcn : nmC ci = (jy J').cls)
    (k : E2 ε J nx ls rest (cG G i V' s' o') Q) : E2 ε J pc ls st (cG G i V s o) Q := e2_fv hC hst h hT hr hn hrest (lim18 hi hk).1 (by rw [cG_at (lim18 hi hk).2]; exact ho) hci hcn k
theorem e2c_lfi {J' : JT} {n idx nx : Nat} {v r : Int32} {As rest : List V0} {ty : FieldType} (hC : FC ε J' (.inr (0, 40) :: As) G i V s o (some r) V' s' o') (hst : st = As.reverse ++ .inr (0, 40) :: rest) (h : lk (jt J) pc = (44, n, jn J', v, nx, idx)) (hT : e_fit J J') (hr : jr J' = some ty) (hn : As.length = n) (hrest : Nat.ble rest.length 8 = true) (hcn : nmC 3 = (jy J').cls)
    (k : E2 ε J nx ls (.inl r :: rest) (cG G i V' s' o') Q) : E2 ε J pc ls st (cG G i V s o) Q := e2_fi (fs := [.inr (0, 41), .inl s]) hC hst h hT hr hn hrest (by decide) (by rw [cG_40]; rfl) (by decide) hcn k
theorem e2c_lfv {J' : JT} {n idx nx : Nat} {v : Int32} {As rest : List V0} (hC : FC ε J' (.inr (0, 40) :: As) G i V s o none V' s' o') (hst : st = As.reverse ++ .inr (0, 40) :: rest) (h : lk (jt J) pc = (44, n, jn J', v, nx, idx)) (hT : e_fit J J') (hr : jr J' = none) (hn : As.length = n) (hrest : Nat.ble rest.length 8 = true) (hcn : nmC 3 = (jy J').cls)
    (k : E2 ε J nx ls rest (cG G i V' s' o') Q) : E2 ε J pc ls st (cG G i V s o) Q := e2_fv (fs := [.inr (0, 41), .inl s]) hC hst h hT hr hn hrest (by decide) (by rw [cG_40]; rfl) (by decide) hcn k
-- Line
theorem l_addLast {n : Nat} (hn : n < 120) (y : Int32) : FC ε jX3_addLast [.inr (0, 40), .inl y] G i V (nI n) o none V (nI (n + 1)) (upd o n y) := by
  refine C2.of (ls := [some (.inr (0, 40)), some (.inl y)]) okX3_addLast rfl rfl ?_
  repeat (first | refine e2_step rfl rfl ?_ | refine e2c_lget rfl rfl ?_)
  refine e2_alen (n := 120) rfl (by decide) rfl (by decide) ?_
  refine e2_if rfl rfl (fun c => absurd c (nI_ge hn (by decide))) (fun _ => ?_)
  repeat (first | refine e2_step rfl rfl ?_ | refine e2c_lget rfl rfl ?_)
  refine e2c_last n rfl rfl hn ?_
  repeat (first | refine e2_step rfl rfl ?_ | refine e2c_lget rfl rfl ?_)
  rw [nI_add']
  refine e2c_lput rfl ?_
  exact e2_vret rfl rfl ⟨rfl, rfl⟩
theorem l_swap {n k : Nat} (hn : n ≤ 120) (hk : k + 1 < n) : FC ε jX3_swapWithPrevious [.inr (0, 40), .inl (nI (k + 1))] G i V (nI n) o none V (nI n) (upd (upd o (k + 1) (o k)) k (o (k + 1))) := by
  refine C2.of (ls := [some (.inr (0, 40)), some (.inl (nI (k + 1))), none]) okX3_swapWithPrevious rfl rfl ?_
  repeat (first | refine e2_step rfl rfl ?_ | refine e2c_lget rfl rfl ?_)
  refine e2_if rfl rfl (fun c => absurd c (nI_nle (by omega) (by omega))) (fun _ => ?_)
  repeat (first | refine e2_step rfl rfl ?_ | refine e2c_lget rfl rfl ?_)
  refine e2_if rfl rfl (fun c => absurd c (nI_ge hk (by omega))) (fun _ => ?_)
  repeat (first | refine e2_step rfl rfl ?_ | refine e2c_lget rfl rfl ?_)
  refine e2c_lald (k + 1) rfl rfl (by omega) ?_
  repeat (first | refine e2_step rfl rfl ?_ | refine e2c_lget rfl rfl ?_)
  refine e2c_lald k rfl (by rw [pk_sub (by omega), Nat.add_sub_cancel]) (by omega) ?_
  refine e2c_last (k + 1) rfl rfl (by omega) ?_
  repeat (first | refine e2_step rfl rfl ?_ | refine e2c_lget rfl rfl ?_)
  refine e2c_last k rfl (by rw [pk_sub (by omega), Nat.add_sub_cancel]) (by omega) ?_
  exact e2_vret rfl rfl ⟨rfl, rfl⟩
def atV (V : VV) (p k : Int32) (l : Nat) : Bool := decide (V 7 l = p) && decide (V 8 l = k)
theorem l_letterAt {n j : Nat} (hn : n ≤ 120) (hj : j < 2 ^ 31) : FC ε jX3_letterAt [.inr (0, 40), .inl (nI j)] G i V (nI n) o (some (if n ≤ j then -9 else o j)) V (nI n) o := by
  refine C2.of (ls := [some (.inr (0, 40)), some (.inl (nI j))]) okX3_letterAt rfl rfl ?_
  repeat (first | refine e2_step rfl rfl ?_ | refine e2c_lget rfl rfl ?_)
  refine e2_if rfl rfl (fun z => absurd z (nI_pos hj)) (fun _ => ?_)
  repeat (first | refine e2_step rfl rfl ?_ | refine e2c_lget rfl rfl ?_)
  refine e2_if rfl rfl (fun z => ?_) (fun z => ?_)
  · rw [nI_leI (by omega) hj] at z
    rw [if_pos z]
    repeat (first | refine e2_step rfl rfl ?_ | refine e2c_lget rfl rfl ?_)
    exact e2_iret rfl rfl ⟨rfl, rfl⟩
  · rw [nI_leI (by omega) hj] at z
    rw [if_neg z]
    repeat (first | refine e2_step rfl rfl ?_ | refine e2c_lget rfl rfl ?_)
    refine e2c_lald j rfl rfl (by omega) ?_
    repeat (first | refine e2_step rfl rfl ?_ | refine e2c_lget rfl rfl ?_)
    exact e2_iret rfl rfl ⟨rfl, rfl⟩
theorem v_has {N l : Nat} (hi : i < 19) (hN : N ≤ 120) (hc : V 3 8 = nI N) (hl : l < N) : FC ε jX2_has [.inr (i, 3), .inl (nI l)] G i V s o (some (nI 1)) V s o := by
  refine C2.of (ls := [some (.inr (i, 3)), some (.inl (nI l))]) okX2_has rfl rfl ?_
  repeat (first | refine e2_step rfl rfl ?_ | refine e2c_get hi rfl rfl rfl rfl ?_ | refine e2c_lget rfl rfl ?_ | refine e2c_iald _ hi rfl rfl rfl rfl (by omega) ?_ | refine e2c_lald _ rfl rfl (by omega) ?_)
  refine e2_if rfl rfl (fun c => absurd c (nI_pos (by omega))) (fun _ => ?_)
  repeat (first | refine e2_step rfl rfl ?_ | refine e2c_get hi rfl rfl rfl rfl ?_ | refine e2c_lget rfl rfl ?_ | refine e2c_iald _ hi rfl rfl rfl rfl (by omega) ?_ | refine e2c_lald _ rfl rfl (by omega) ?_)
  rw [hc]
  refine e2_if rfl rfl (fun c => absurd c (nI_ge hl (by omega))) (fun _ => ?_)
  repeat (first | refine e2_step rfl rfl ?_ | refine e2c_get hi rfl rfl rfl rfl ?_ | refine e2c_lget rfl rfl ?_ | refine e2c_iald _ hi rfl rfl rfl rfl (by omega) ?_ | refine e2c_lald _ rfl rfl (by omega) ?_)
  exact e2_zret rfl rfl rfl ⟨rfl, rfl⟩
theorem v_hasF {N : Nat} {x : Int32} (hi : i < 19) (hN : N ≤ 120) (hc : V 3 8 = nI N) (h : isInB x (nI 0) (nI N - nI 1) = false) : FC ε jX2_has [.inr (i, 3), .inl x] G i V s o (some (nI 0)) V s o := by
  refine C2.of (ls := [some (.inr (i, 3)), some (.inl x)]) okX2_has rfl rfl ?_
  repeat (first | refine e2_step rfl rfl ?_ | refine e2c_get hi rfl rfl rfl rfl ?_ | refine e2c_lget rfl rfl ?_ | refine e2c_iald _ hi rfl rfl rfl rfl (by omega) ?_ | refine e2c_lald _ rfl rfl (by omega) ?_)
  refine e2_if rfl rfl (fun c => ?_) (fun c => ?_)
  · repeat (first | refine e2_step rfl rfl ?_ | refine e2c_get hi rfl rfl rfl rfl ?_ | refine e2c_lget rfl rfl ?_ | refine e2c_iald _ hi rfl rfl rfl rfl (by omega) ?_ | refine e2c_lald _ rfl rfl (by omega) ?_)
    exact e2_zret rfl rfl rfl ⟨rfl, rfl⟩
  · repeat (first | refine e2_step rfl rfl ?_ | refine e2c_get hi rfl rfl rfl rfl ?_ | refine e2c_lget rfl rfl ?_ | refine e2c_iald _ hi rfl rfl rfl rfl (by omega) ?_ | refine e2c_lald _ rfl rfl (by omega) ?_)
    rw [hc]
    refine e2_if rfl rfl (fun c2 => ?_) (fun c2 => ?_)
    · repeat (first | refine e2_step rfl rfl ?_ | refine e2c_get hi rfl rfl rfl rfl ?_ | refine e2c_lget rfl rfl ?_ | refine e2c_iald _ hi rfl rfl rfl rfl (by omega) ?_ | refine e2c_lald _ rfl rfl (by omega) ?_)
      exact e2_zret rfl rfl rfl ⟨rfl, rfl⟩
    · exfalso
      cases N with
      | zero => exact c2 (Int32.not_lt.1 c)
      | succ k =>
        rw [pk_sub (by omega), Nat.add_sub_cancel, isIn_mid (by omega) c c2] at h
        cases h
theorem v_isAt {N l : Nat} (hi : i < 19) (hN : N ≤ 120) (hc : V 3 8 = nI N) (hl : l < N) (p k : Int32) : FC ε jX2_isAt [.inr (i, 3), .inl (nI l), .inl p, .inl k] G i V s o (some (bI (atV V p k l))) V s o := by
  refine C2.of (ls := [some (.inr (i, 3)), some (.inl (nI l)), some (.inl p), some (.inl k)]) okX2_isAt rfl rfl ?_
  repeat (first | refine e2_step rfl rfl ?_ | refine e2c_get hi rfl rfl rfl rfl ?_ | refine e2c_lget rfl rfl ?_ | refine e2c_iald _ hi rfl rfl rfl rfl (by omega) ?_ | refine e2c_lald _ rfl rfl (by omega) ?_)
  refine e2c_fi (v_has hi hN hc hl) rfl rfl ⟨rfl, rfl, rfl⟩ rfl rfl rfl hi rfl rfl rfl rfl ?_
  refine e2_if rfl rfl (fun z => absurd z (by decide)) (fun _ => ?_)
  repeat (first | refine e2_step rfl rfl ?_ | refine e2c_get hi rfl rfl rfl rfl ?_ | refine e2c_lget rfl rfl ?_ | refine e2c_iald _ hi rfl rfl rfl rfl (by omega) ?_ | refine e2c_lald _ rfl rfl (by omega) ?_)
  refine e2_if rfl rfl (fun c => ?_) (fun c => ?_)
  · have e : atV V p k l = false := by unfold atV; rw [decide_eq_false c, Bool.false_and]
    rw [e]
    repeat (first | refine e2_step rfl rfl ?_ | refine e2c_get hi rfl rfl rfl rfl ?_ | refine e2c_lget rfl rfl ?_ | refine e2c_iald _ hi rfl rfl rfl rfl (by omega) ?_ | refine e2c_lald _ rfl rfl (by omega) ?_)
    exact e2_zret rfl rfl rfl ⟨rfl, rfl⟩
  · repeat (first | refine e2_step rfl rfl ?_ | refine e2c_get hi rfl rfl rfl rfl ?_ | refine e2c_lget rfl rfl ?_ | refine e2c_iald _ hi rfl rfl rfl rfl (by omega) ?_ | refine e2c_lald _ rfl rfl (by omega) ?_)
    refine e2_if rfl rfl (fun c2 => ?_) (fun c2 => ?_)
    · have e : atV V p k l = false := by unfold atV; rw [decide_eq_false c2, Bool.and_false]
      rw [e]
      repeat (first | refine e2_step rfl rfl ?_ | refine e2c_get hi rfl rfl rfl rfl ?_ | refine e2c_lget rfl rfl ?_ | refine e2c_iald _ hi rfl rfl rfl rfl (by omega) ?_ | refine e2c_lald _ rfl rfl (by omega) ?_)
      exact e2_zret rfl rfl rfl ⟨rfl, rfl⟩
    · have e : atV V p k l = true := by unfold atV; rw [decide_eq_true (Classical.not_not.1 c), decide_eq_true (Classical.not_not.1 c2)]; rfl
      rw [e]
      repeat (first | refine e2_step rfl rfl ?_ | refine e2c_get hi rfl rfl rfl rfl ?_ | refine e2c_lget rfl rfl ?_ | refine e2c_iald _ hi rfl rfl rfl rfl (by omega) ?_ | refine e2c_lald _ rfl rfl (by omega) ?_)
      exact e2_zret rfl rfl rfl ⟨rfl, rfl⟩
theorem v_isFirst {N l : Nat} (hi : i < 19) (hN : N ≤ 120) (hc : V 3 8 = nI N) (hl : l < N) : FC ε jX2_isFirstClass [.inr (i, 3), .inl (nI l)] G i V s o (some (bI (decide (V 5 l = nI 1)))) V s o := by
  refine C2.of (ls := [some (.inr (i, 3)), some (.inl (nI l))]) okX2_isFirstClass rfl rfl ?_
  repeat (first | refine e2_step rfl rfl ?_ | refine e2c_get hi rfl rfl rfl rfl ?_ | refine e2c_lget rfl rfl ?_ | refine e2c_iald _ hi rfl rfl rfl rfl (by omega) ?_ | refine e2c_lald _ rfl rfl (by omega) ?_)
  refine e2c_fi (v_has hi hN hc hl) rfl rfl ⟨rfl, rfl, rfl⟩ rfl rfl rfl hi rfl rfl rfl rfl ?_
  refine e2_if rfl rfl (fun z => absurd z (by decide)) (fun _ => ?_)
  repeat (first | refine e2_step rfl rfl ?_ | refine e2c_get hi rfl rfl rfl rfl ?_ | refine e2c_lget rfl rfl ?_ | refine e2c_iald _ hi rfl rfl rfl rfl (by omega) ?_ | refine e2c_lald _ rfl rfl (by omega) ?_)
  refine e2_if rfl rfl (fun c => ?_) (fun c => ?_)
  · rw [decide_eq_false c]
    repeat (first | refine e2_step rfl rfl ?_ | refine e2c_get hi rfl rfl rfl rfl ?_ | refine e2c_lget rfl rfl ?_ | refine e2c_iald _ hi rfl rfl rfl rfl (by omega) ?_ | refine e2c_lald _ rfl rfl (by omega) ?_)
    exact e2_zret rfl rfl rfl ⟨rfl, rfl⟩
  · rw [decide_eq_true (Classical.not_not.1 c)]
    repeat (first | refine e2_step rfl rfl ?_ | refine e2c_get hi rfl rfl rfl rfl ?_ | refine e2c_lget rfl rfl ?_ | refine e2c_iald _ hi rfl rfl rfl rfl (by omega) ?_ | refine e2c_lald _ rfl rfl (by omega) ?_)
    exact e2_zret rfl rfl rfl ⟨rfl, rfl⟩
theorem v_countIn {N : Nat} (hi : i < 19) (hN : N ≤ 120) (hc : V 3 8 = nI N) (p : Int32) : FC ε jX2_countIn [.inr (i, 3), .inl p] G i V s o (some (nI (cntB (fun l => decide (V 7 l = p)) N))) V s o := by
  have h := c_countIn (ε := ε) (G := cG G i V s o) hi hN (by rw [cG_at (by decide)]; exact hc) p
  rw [cG_at (by decide)] at h
  exact h
def dnV (V : VV) (l : Nat) : VV := if V 7 l = nI 1 then wv V 11 (V 8 l).toNatClampNeg (V 11 (V 8 l).toNatClampNeg - nI 1) else V
def upV (V : VV) (p k : Int32) : VV := if p = nI 1 then wv V 11 k.toNatClampNeg (V 11 k.toNatClampNeg + nI 1) else V
def moveV (V : VV) (l : Nat) (p k : Int32) : VV := upV (wv (wv (dnV V l) 7 l p) 8 l k) p k
theorem v_moveTo {N l : Nat} (hi : i < 19) (hN : N ≤ 120) (hc : V 3 8 = nI N) (hl : l < N) (p k : Int32) (h1 : V 7 l = nI 1 → ∃ w, w < 8 ∧ V 8 l = nI w) (h2 : p = nI 1 → ∃ w, w < 8 ∧ k = nI w) : FC ε jX2_moveTo [.inr (i, 3), .inl (nI l), .inl p, .inl k] G i V s o none (moveV V l p k) s o := by
  refine C2.of (ls := [some (.inr (i, 3)), some (.inl (nI l)), some (.inl p), some (.inl k)]) okX2_moveTo rfl rfl ?_
  repeat (first | refine e2_step rfl rfl ?_ | refine e2c_get hi rfl rfl rfl rfl ?_ | refine e2c_lget rfl rfl ?_ | refine e2c_iald _ hi rfl rfl rfl rfl (by omega) ?_ | refine e2c_lald _ rfl rfl (by omega) ?_)
  refine e2c_fi (v_has hi hN hc hl) rfl rfl ⟨rfl, rfl, rfl⟩ rfl rfl rfl hi rfl rfl rfl rfl ?_
  refine e2_if rfl rfl (fun _ => ?_) (fun z => absurd (by decide) z)
  repeat (first | refine e2_step rfl rfl ?_ | refine e2c_get hi rfl rfl rfl rfl ?_ | refine e2c_lget rfl rfl ?_ | refine e2c_iald _ hi rfl rfl rfl rfl (by omega) ?_ | refine e2c_lald _ rfl rfl (by omega) ?_)
  have hrest : ∀ V1 : VV, V1 = dnV V l → E2 ε jX2_moveTo 46 [some (.inr (i, 3)), some (.inl (nI l)), some (.inl p), some (.inl k)] [] (cG G i V1 s o) (fun v' G' => v' = none ∧ G' = cG G i (moveV V l p k) s o) := by
    intro V1 hV1
    repeat (first | refine e2_step rfl rfl ?_ | refine e2c_get hi rfl rfl rfl rfl ?_ | refine e2c_lget rfl rfl ?_ | refine e2c_iald _ hi rfl rfl rfl rfl (by omega) ?_ | refine e2c_lald _ rfl rfl (by omega) ?_)
    refine e2c_iast l hi rfl rfl rfl rfl (by omega) ?_
    repeat (first | refine e2_step rfl rfl ?_ | refine e2c_get hi rfl rfl rfl rfl ?_ | refine e2c_lget rfl rfl ?_ | refine e2c_iald _ hi rfl rfl rfl rfl (by omega) ?_ | refine e2c_lald _ rfl rfl (by omega) ?_)
    refine e2c_iast l hi rfl rfl rfl rfl (by omega) ?_
    repeat (first | refine e2_step rfl rfl ?_ | refine e2c_get hi rfl rfl rfl rfl ?_ | refine e2c_lget rfl rfl ?_ | refine e2c_iald _ hi rfl rfl rfl rfl (by omega) ?_ | refine e2c_lald _ rfl rfl (by omega) ?_)
    unfold moveV upV
    rw [← hV1]
    refine e2_if rfl rfl (fun c => ?_) (fun c => ?_)
    · rw [if_neg c]
      exact e2_vret rfl rfl ⟨rfl, rfl⟩
    · have c := Classical.not_not.1 c
      obtain ⟨w, hw, hk⟩ := h2 c
      rw [if_pos c, hk, nI_clamp (by omega)]
      repeat (first | refine e2_step rfl rfl ?_ | refine e2c_get hi rfl rfl rfl rfl ?_ | refine e2c_lget rfl rfl ?_ | refine e2c_iald _ hi rfl rfl rfl rfl (by omega) ?_ | refine e2c_lald _ rfl rfl (by omega) ?_)
      refine e2_fs (c_isWalkT hw) rfl rfl ⟨rfl, rfl, rfl⟩ rfl rfl rfl ?_
      refine e2_if rfl rfl (fun z => absurd z (by decide)) (fun _ => ?_)
      repeat (first | refine e2_step rfl rfl ?_ | refine e2c_get hi rfl rfl rfl rfl ?_ | refine e2c_lget rfl rfl ?_ | refine e2c_iald _ hi rfl rfl rfl rfl (by omega) ?_ | refine e2c_lald _ rfl rfl (by omega) ?_)
      refine e2c_iast w hi rfl rfl rfl rfl hw ?_
      exact e2_vret rfl rfl ⟨rfl, rfl⟩
  refine e2_if rfl rfl (fun c => ?_) (fun c => ?_)
  · exact hrest V (by unfold dnV; rw [if_neg c])
  · have c := Classical.not_not.1 c
    obtain ⟨w, hw, hk⟩ := h1 c
    repeat (first | refine e2_step rfl rfl ?_ | refine e2c_get hi rfl rfl rfl rfl ?_ | refine e2c_lget rfl rfl ?_ | refine e2c_iald _ hi rfl rfl rfl rfl (by omega) ?_ | refine e2c_lald _ rfl rfl (by omega) ?_)
    rw [hk]
    refine e2_fs (c_isWalkT hw) rfl rfl ⟨rfl, rfl, rfl⟩ rfl rfl rfl ?_
    refine e2_if rfl rfl (fun z => absurd z (by decide)) (fun _ => ?_)
    repeat (first | refine e2_step rfl rfl ?_ | refine e2c_get hi rfl rfl rfl rfl ?_ | refine e2c_lget rfl rfl ?_ | refine e2c_iald _ hi rfl rfl rfl rfl (by omega) ?_ | refine e2c_lald _ rfl rfl (by omega) ?_)
    refine e2c_iald w hi rfl rfl hk rfl hw ?_
    repeat (first | refine e2_step rfl rfl ?_ | refine e2c_get hi rfl rfl rfl rfl ?_ | refine e2c_lget rfl rfl ?_ | refine e2c_iald _ hi rfl rfl rfl rfl (by omega) ?_ | refine e2c_lald _ rfl rfl (by omega) ?_)
    refine e2c_iast w hi rfl rfl hk rfl hw ?_
    exact hrest _ (by unfold dnV; rw [if_pos c, hk, nI_clamp (by omega)])
end NA
