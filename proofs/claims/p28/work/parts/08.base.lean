/-! Functional contracts, and the calls by them. -/
section MG
variable {ε : EE} {J : JT} {pc : Nat} {ls : List (Option V0)} {st : List V0} {G G1 : GG} {Q : Option Int32 → GG → Prop}
def F2 (ε : EE) (J : JT) (As : List V0) (G : GG) (v : Option Int32) (G1 : GG) : Prop := C2 ε J As G (fun v' G' => v' = v ∧ G' = G1)
theorem e2_fi {J' : JT} {n idx nx i kk ci : Nat} {v r : Int32} {As rest : List V0} {fs : List V0} {ty : FieldType} (hC : F2 ε J' (.inr (i, kk) :: As) G (some r) G1) (hst : st = As.reverse ++ .inr (i, kk) :: rest) (h : lk (jt J) pc = (44, n, jn J', v, nx, idx)) (hT : e_fit J J') (hr : jr J' = some ty) (hn : As.length = n) (hrest : Nat.ble rest.length 8 = true) (hv : i < lim kk) (ho : objV i kk (G i kk) = some (ci, fs)) (hci : Nat.ble ci 8 = true) (hcn : nmC ci = (jy J').cls)
    (k : E2 ε J nx ls (.inl r :: rest) G1 Q) : E2 ε J pc ls st G Q :=
  e2_callVi h hT hr hn hst hrest hv ho hci hcn hC (fun r' G' z => by
    obtain ⟨z1, rfl⟩ := z
    cases z1
    exact k)
theorem e2_fv {J' : JT} {n idx nx i kk ci : Nat} {v : Int32} {As rest : List V0} {fs : List V0} (hC : F2 ε J' (.inr (i, kk) :: As) G none G1) (hst : st = As.reverse ++ .inr (i, kk) :: rest) (h : lk (jt J) pc = (44, n, jn J', v, nx, idx)) (hT : e_fit J J') (hr : jr J' = none) (hn : As.length = n) (hrest : Nat.ble rest.length 8 = true) (hv : i < lim kk) (ho : objV i kk (G i kk) = some (ci, fs)) (hci : Nat.ble ci 8 = true) (hcn : nmC ci = (jy J').cls)
    (k : E2 ε J nx ls rest G1 Q) : E2 ε J pc ls st G Q :=
  e2_callVv h hT hr hn hst hrest hv ho hci hcn hC (fun G' z => by
    obtain ⟨-, rfl⟩ := z
    exact k)
theorem e2_fs {J' : JT} {n idx nx : Nat} {v r : Int32} {As rest : List V0} {ty : FieldType} (hC : F2 ε J' As G (some r) G1) (hst : st = As.reverse ++ rest) (h : lk (jt J) pc = (46, n, jn J', v, nx, idx)) (hT : e_fit J J') (hr : jr J' = some ty) (hn : As.length = n) (hrest : Nat.ble rest.length 8 = true)
    (k : E2 ε J nx ls (.inl r :: rest) G1 Q) : E2 ε J pc ls st G Q :=
  e2_callSi h hT hr hn hst hrest hC (fun r' G' z => by
    obtain ⟨z1, rfl⟩ := z
    cases z1
    exact k)
theorem e2_stepS {o a b nx tg : Nat} {v : Int32} {ls' : List (Option V0)} {st' : List V0} (stop : Nat) (_ : Nat.beq pc stop = false) (h : lk (jt J) pc = (o, a, b, v, nx, tg)) (hs : stp o a v ls st = some (ls', st')) (k : E2 ε J nx ls' st' G Q) : E2 ε J pc ls st G Q := e_step h hs k
theorem e2_getS {kf t nx idx i kk : Nat} {v : Int32} {fs : List V0} {w : V0} (stop : Nat) (_ : Nat.beq pc stop = false) (h : lk (jt J) pc = (30, kf, t, v, nx, idx)) (hv : i < lim kk) (ho : objV i kk (G i kk) = some (t, fs)) (hw : fs[kf]? = some w) (k : E2 ε J nx ls (w :: st) G Q) : E2 ε J pc ls (.inr (i, kk) :: st) G Q := e2_get h hv ho hw k
/-- a truth as the machine's number -/
def bI (b : Bool) : Int32 := if b then nI 1 else nI 0
theorem bI_t : bI true = nI 1 := rfl
theorem bI_f : bI false = nI 0 := rfl
theorem bI_0 (b : Bool) : bI b = 0 ↔ b = false := by cases b <;> decide
theorem nI_add' (a b : Nat) : nI a + nI b = nI (a + b) := nI_add a b
/-- how many below n -/
def cntB (p : Nat → Bool) : Nat → Nat
  | 0 => 0
  | n + 1 => cntB p n + (if p n then 1 else 0)
theorem cntB_le (p : Nat → Bool) : ∀ n, cntB p n ≤ n
  | 0 => Nat.le_refl _
  | n + 1 => by
    have := cntB_le p n
    unfold cntB
    split <;> omega
def isInB (v a b : Int32) : Bool := decide (a ≤ v) && decide (v ≤ b)
theorem c_isIn (v a b : Int32) : F2 ε jX8_isIn [.inl v, .inl a, .inl b] G (some (bI (isInB v a b))) G := by
  refine C2.of (ls := [some (.inl v), some (.inl a), some (.inl b)]) okX8_isIn rfl rfl ?_
  repeat (first | refine e2_step rfl rfl ?_ | refine e2_get rfl (by first | exact hi | decide) rfl rfl ?_)
  refine e2_if rfl rfl (fun c => ?_) (fun c => ?_)
  · repeat (first | refine e2_step rfl rfl ?_ | refine e2_get rfl (by first | exact hi | decide) rfl rfl ?_)
    refine e2_zret rfl rfl rfl ⟨?_, rfl⟩
    have : isInB v a b = false := by simp [isInB, Int32.not_le.2 c]
    rw [this]; rfl
  · repeat (first | refine e2_step rfl rfl ?_ | refine e2_get rfl (by first | exact hi | decide) rfl rfl ?_)
    refine e2_if rfl rfl (fun c2 => ?_) (fun c2 => ?_)
    · repeat (first | refine e2_step rfl rfl ?_ | refine e2_get rfl (by first | exact hi | decide) rfl rfl ?_)
      refine e2_zret rfl rfl rfl ⟨?_, rfl⟩
      have : isInB v a b = false := by simp [isInB, Int32.not_le.2 c2]
      rw [this]; rfl
    · repeat (first | refine e2_step rfl rfl ?_ | refine e2_get rfl (by first | exact hi | decide) rfl rfl ?_)
      refine e2_zret rfl rfl rfl ⟨?_, rfl⟩
      have : isInB v a b = true := by simp [isInB, Int32.not_lt.1 c, Int32.not_lt.1 c2]
      rw [this]; rfl
theorem isIn_T {k b : Nat} (h : k ≤ b) (hb : b < 2 ^ 31) : isInB (nI k) (nI 0) (nI b) = true := by
  unfold isInB
  rw [decide_eq_true ((nI_leI (by omega) (by omega)).2 (Nat.zero_le k)), decide_eq_true ((nI_leI (by omega) hb).2 h)]
  rfl
theorem isIn_low {v b : Int32} (h : v < nI 0) : isInB v (nI 0) b = false := by
  unfold isInB
  rw [decide_eq_false (Int32.not_le.2 h)]
  rfl
theorem isIn_hi {v : Int32} {k : Nat} (hk : k + 1 < 2 ^ 31) (h : nI (k + 1) ≤ v) : isInB v (nI 0) (nI k) = false := by
  unfold isInB
  rw [decide_eq_false (p := v ≤ nI k) (fun z => by
    have h1 := Int32.le_iff_toInt_le.1 h
    have h2 := Int32.le_iff_toInt_le.1 z
    rw [nI_toInt (by omega)] at h1 h2
    omega), Bool.and_false]
theorem isIn_mid {v : Int32} {k : Nat} (hk : k + 1 < 2 ^ 31) (h : ¬ v < nI 0) (h' : ¬ nI (k + 1) ≤ v) : isInB v (nI 0) (nI k) = true := by
  unfold isInB
  rw [decide_eq_true (Int32.not_lt.1 h), decide_eq_true (p := v ≤ nI k) (by
    refine Int32.le_iff_toInt_le.2 ?_
    have h2 := Int32.lt_iff_toInt_lt.1 (Int32.not_le.1 h')
    rw [nI_toInt (by omega)] at h2 ⊢
    omega)]
  rfl
theorem c_isWalk (v : Int32) : F2 ε jX8_isWalk [.inl v] G (some (bI (isInB v (nI 0) (nI 7)))) G := by
  refine C2.of (ls := [some (.inl v)]) okX8_isWalk rfl rfl ?_
  repeat (first | refine e2_step rfl rfl ?_ | refine e2_get rfl (by first | exact hi | decide) rfl rfl ?_)
  refine e2_if rfl rfl (fun c => ?_) (fun c => ?_)
  · rw [isIn_low (show v < nI 0 from c)]
    repeat (first | refine e2_step rfl rfl ?_ | refine e2_get rfl (by first | exact hi | decide) rfl rfl ?_)
    exact e2_zret rfl rfl rfl ⟨rfl, rfl⟩
  · repeat (first | refine e2_step rfl rfl ?_ | refine e2_get rfl (by first | exact hi | decide) rfl rfl ?_)
    refine e2_if rfl rfl (fun c2 => ?_) (fun c2 => ?_)
    · rw [isIn_hi (k := 7) (by decide) (show nI 8 ≤ v from c2)]
      repeat (first | refine e2_step rfl rfl ?_ | refine e2_get rfl (by first | exact hi | decide) rfl rfl ?_)
      exact e2_zret rfl rfl rfl ⟨rfl, rfl⟩
    · rw [isIn_mid (k := 7) (by decide) (show ¬ v < nI 0 from c) (show ¬ nI 8 ≤ v from c2)]
      repeat (first | refine e2_step rfl rfl ?_ | refine e2_get rfl (by first | exact hi | decide) rfl rfl ?_)
      exact e2_zret rfl rfl rfl ⟨rfl, rfl⟩
theorem c_isWalkT {w : Nat} (hw : w < 8) : F2 ε jX8_isWalk [.inl (nI w)] G (some (nI 1)) G := by
  have h := c_isWalk (ε := ε) (G := G) (nI w)
  rw [isIn_T (by omega) (by decide)] at h
  exact h
theorem c_isCarrier (v : Int32) : F2 ε jX8_isCarrier [.inl v] G (some (bI (isInB v (nI 0) (nI 5)))) G := by
  refine C2.of (ls := [some (.inl v)]) okX8_isCarrier rfl rfl ?_
  repeat (first | refine e2_step rfl rfl ?_ | refine e2_get rfl (by first | exact hi | decide) rfl rfl ?_)
  refine e2_if rfl rfl (fun c => ?_) (fun c => ?_)
  · rw [isIn_low (show v < nI 0 from c)]
    repeat (first | refine e2_step rfl rfl ?_ | refine e2_get rfl (by first | exact hi | decide) rfl rfl ?_)
    exact e2_zret rfl rfl rfl ⟨rfl, rfl⟩
  · repeat (first | refine e2_step rfl rfl ?_ | refine e2_get rfl (by first | exact hi | decide) rfl rfl ?_)
    refine e2_if rfl rfl (fun c2 => ?_) (fun c2 => ?_)
    · rw [isIn_hi (k := 5) (by decide) (show nI 6 ≤ v from c2)]
      repeat (first | refine e2_step rfl rfl ?_ | refine e2_get rfl (by first | exact hi | decide) rfl rfl ?_)
      exact e2_zret rfl rfl rfl ⟨rfl, rfl⟩
    · rw [isIn_mid (k := 5) (by decide) (show ¬ v < nI 0 from c) (show ¬ nI 6 ≤ v from c2)]
      repeat (first | refine e2_step rfl rfl ?_ | refine e2_get rfl (by first | exact hi | decide) rfl rfl ?_)
      exact e2_zret rfl rfl rfl ⟨rfl, rfl⟩
theorem c_isCarrierT {w : Nat} (hw : w < 6) : F2 ε jX8_isCarrier [.inl (nI w)] G (some (nI 1)) G := by
  have h := c_isCarrier (ε := ε) (G := G) (nI w)
  rw [isIn_T (by omega) (by decide)] at h
  exact h
theorem c_isSlot (v : Int32) : F2 ε jX8_isSlot [.inl v] G (some (bI (isInB v (nI 0) (nI 1)))) G := by
  refine C2.of (ls := [some (.inl v)]) okX8_isSlot rfl rfl ?_
  repeat (first | refine e2_step rfl rfl ?_ | refine e2_get rfl (by first | exact hi | decide) rfl rfl ?_)
  refine e2_if rfl rfl (fun c => ?_) (fun c => ?_)
  · rw [isIn_low (show v < nI 0 from c)]
    repeat (first | refine e2_step rfl rfl ?_ | refine e2_get rfl (by first | exact hi | decide) rfl rfl ?_)
    exact e2_zret rfl rfl rfl ⟨rfl, rfl⟩
  · repeat (first | refine e2_step rfl rfl ?_ | refine e2_get rfl (by first | exact hi | decide) rfl rfl ?_)
    refine e2_if rfl rfl (fun c2 => ?_) (fun c2 => ?_)
    · rw [isIn_hi (k := 1) (by decide) (show nI 2 ≤ v from c2)]
      repeat (first | refine e2_step rfl rfl ?_ | refine e2_get rfl (by first | exact hi | decide) rfl rfl ?_)
      exact e2_zret rfl rfl rfl ⟨rfl, rfl⟩
    · rw [isIn_mid (k := 1) (by decide) (show ¬ v < nI 0 from c) (show ¬ nI 2 ≤ v from c2)]
      repeat (first | refine e2_step rfl rfl ?_ | refine e2_get rfl (by first | exact hi | decide) rfl rfl ?_)
      exact e2_zret rfl rfl rfl ⟨rfl, rfl⟩
theorem c_isSlotT {w : Nat} (hw : w < 2) : F2 ε jX8_isSlot [.inl (nI w)] G (some (nI 1)) G := by
  have h := c_isSlot (ε := ε) (G := G) (nI w)
  rw [isIn_T (by omega) (by decide)] at h
  exact h
theorem l_countIn {i N : Nat} (hi : i < 19) (hN : N ≤ 120) (hc : G i 3 8 = nI N) (p : Int32) : ∀ (k l : Nat) , l + k = N → E2 ε jX2_countIn 4 [some (.inr (i, 3)), some (.inl p), some (.inl (nI (cntB (fun l => decide (G i 7 l = p)) l))), some (.inl (nI l))] [] G (fun v G' => v = some (nI (cntB (fun l => decide (G i 7 l = p)) N)) ∧ G' = G)
  | 0, l, h => by
    repeat (first | refine e2_step rfl rfl ?_ | refine e2_get rfl (by first | exact hi | decide) rfl rfl ?_)
    refine e2_if rfl rfl (fun c => ?_) (fun c => absurd ?_ c)
    · repeat (first | refine e2_step rfl rfl ?_ | refine e2_get rfl (by first | exact hi | decide) rfl rfl ?_)
      refine e2_iret rfl rfl ⟨?_, rfl⟩
      rw [show l = N by omega]
    · rw [hc]; exact nI_le (by omega) (by omega)
  | k + 1, l, h => by
    repeat (first | refine e2_step rfl rfl ?_ | refine e2_get rfl (by first | exact hi | decide) rfl rfl ?_)
    refine e2_if rfl rfl (fun c => absurd ?_ (nI_ge (a := l) (b := N) (by omega) (by omega))) (fun c => ?_)
    · rw [← hc]; exact c
    · repeat (first | refine e2_step rfl rfl ?_ | refine e2_get rfl (by first | exact hi | decide) rfl rfl ?_)
      refine e2_iald l rfl rfl hi rfl (by omega) ?_
      repeat (first | refine e2_step rfl rfl ?_ | refine e2_get rfl (by first | exact hi | decide) rfl rfl ?_)
      refine e2_if rfl rfl (fun c => ?_) (fun c => ?_)
      · repeat (first | refine e2_stepS 4 rfl rfl rfl ?_ | refine e2_getS 4 rfl rfl (by first | exact hi | decide) rfl rfl ?_)
        have := l_countIn hi hN hc p k (l + 1) (by omega)
        simp only [cntB, c, decide_false, Bool.false_eq_true, if_false, Nat.add_zero] at this
        rw [nI_add']
        exact this
      · repeat (first | refine e2_stepS 4 rfl rfl rfl ?_ | refine e2_getS 4 rfl rfl (by first | exact hi | decide) rfl rfl ?_)
        have := l_countIn hi hN hc p k (l + 1) (by omega)
        simp only [cntB, Classical.not_not.1 c, decide_true, if_true] at this
        rw [nI_add', nI_add']
        exact this
theorem c_countIn {i N : Nat} (hi : i < 19) (hN : N ≤ 120) (hc : G i 3 8 = nI N) (p : Int32) : F2 ε jX2_countIn [.inr (i, 3), .inl p] G (some (nI (cntB (fun l => decide (G i 7 l = p)) N))) G := by
  refine C2.of (ls := [some (.inr (i, 3)), some (.inl p), none, none]) okX2_countIn rfl rfl ?_
  repeat (first | refine e2_stepS 4 rfl rfl rfl ?_ | refine e2_getS 4 rfl rfl (by first | exact hi | decide) rfl rfl ?_)
  exact l_countIn hi hN hc p N 0 (by omega)
end MG
