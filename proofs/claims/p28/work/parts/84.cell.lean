/-! A cell of the script. -/
section MV
variable {ε : EE} {J : JT} {X : Array Value → State → Prop} {Z : List Frame → Array Value → State → State → Prop} {mc ms cells slots pc : Nat} {ls : List (Option V0)} {st : List V0} {ws : va_W} {Q : Option Int32 → va_W → Prop} {b L j : Nat} {xs : Nat → Int32} {Y : State → Prop}
/-- the script: a row of L numbers that lies ahead of all that may change -/
def XC (ε : EE) (b L : Nat) (xs : Nat → Int32) (s : State) : Prop := va_X b L xs s s.heap ∧ b < s.heap.size ∧ ¬ e_A ε b
theorem XC.moved {s U : State} {H : Heap} {locs : List Loc} (h : XC ε b L xs s) (hU : U.heap = H) (hW : s.WarmedH U.vm) (hS : va_S (e_A ε) s.heap H locs) : XC ε b L xs U := by
  obtain ⟨h1, h2, h3⟩ := h
  refine ⟨?_, by rw [hU]; exact Nat.lt_of_lt_of_le h2 hS.1, h3⟩
  rw [hU]
  exact (h1.kept (hS.2.1 b h2 h3)).moved hW.alike
theorem XC.same {s U : State} (hv : s.vm = U.vm) (hh : U.heap = s.heap) (h : XC ε b L xs s) : XC ε b L xs U := by
  obtain ⟨h1, h2, h3⟩ := h
  refine ⟨?_, by rw [hh]; exact h2, h3⟩
  rw [hh]
  exact h1.moved (by rw [hv]; exact Vm.Alike.refl _)
theorem XC.blind {As : List V0} : FrameBlind (e_PcX ε (XC ε b L xs) As ws) := fun a U g mk q => by
  obtain ⟨h1, h2, h3, h4, h5⟩ := q
  exact ⟨h1, h2, e_K.same (s := U) (U := U.calling g mk a) rfl h3, XC.same (s := U) (U := U.calling g mk a) rfl rfl h4, h5⟩
theorem eg_sld {o a b1 nx : Nat} {v x : Int32} (h : lk (jt J) pc = (32, a, b1, v, nx, o)) (hXX : ∀ args s, X args s → XC ε b L xs s) (hx : x = nI j) (hj : j < L) (hL : L < 2 ^ 31) (k : EG ε J X Z mc ms cells slots nx ls (.inl (xs j) :: st) ws) : EG ε J X Z mc ms cells slots pc ls (.inl x :: .inr (b, 99) :: st) ws := by
  subst hx
  intro hT p e R s m args below meth c H locs lsA C XX hP hD hS hl
  have hok := e_op hT h (by decide)
  have K := k hT p e R s m args below meth c H locs lsA C XX hP hD hS hl
  obtain ⟨hx, hb, hr, hml, hown, hts, hlk, hK, hB0, hR, hnm⟩ := C
  obtain ⟨hd, rfl⟩ := okD_d hok
  obtain ⟨x1, x2, x3⟩ := hXX _ _ XX
  refine va_sld hx hb x1 x2 x3 hS (vp_in_nI hj hL) hd ?_
  rw [nI_clamp (by omega)]
  exact K
theorem eg_slen {o a b1 nx : Nat} {v : Int32} (h : lk (jt J) pc = (40, a, b1, v, nx, o)) (hXX : ∀ args s, X args s → XC ε b L xs s) (k : EG ε J X Z mc ms cells slots nx ls (.inl (nI L) :: st) ws) : EG ε J X Z mc ms cells slots pc ls (.inr (b, 99) :: st) ws := by
  intro hT p e R s m args below meth c H locs lsA C XX hP hD hS hl
  have hok := e_op hT h (by decide)
  have K := k hT p e R s m args below meth c H locs lsA C XX hP hD hS hl
  obtain ⟨hx, hb, hr, hml, hown, hts, hlk, hK, hB0, hR, hnm⟩ := C
  obtain ⟨hd, rfl⟩ := okD_d hok
  obtain ⟨x1, x2, x3⟩ := hXX _ _ XX
  exact va_slen hx hb x1 x2 x3 hS hd K
theorem ex_iret {o a b1 nx : Nat} {v x : Int32} (h : lk (jt J) pc = (41, a, b1, v, nx, o)) (hr : jr J = some .int) (hc : Nat.ble cells mc = true) (hs : Nat.ble slots ms = true) (hQ : Q (some x) ws) : EX ε J Y mc ms cells slots pc ls [.inl x] ws Q := by
  intro hT p e R s m args below meth c H locs lsA C XX hP hD hS hl
  have hok := e_op hT h (by decide)
  obtain ⟨hx, hb, hrt, hml, hown, hts, hlk, hK, hB0, hR, hnm⟩ := C
  simp only [okOp, decide_eq_true_eq] at hok
  refine W.widen (Nat.le_of_ble_eq_true hc) (Nat.le_of_ble_eq_true hs) ?_
  refine W.iret (v := x) hx hb (by rw [hrt, hr]) (fun t ht hW => ?_) hS.2.2 hok hlk
  rw [e_Qc_some hr]
  exact ⟨⟨x, ws, rfl, hQ, by rw [ht]; exact hP, hD⟩, hS.F ht⟩
theorem H_cell (hj : j < 1000) (hL : L < 1000) : e_CtX ε jL_cell (XC ε b L xs) 0 0 [.inr (b, 99), .inl (nI j)] ws (fun v ws' => (∃ x, v = some x) ∧ ws' = ws) := by
  have hXX : ∀ (args : Array Value) s, (fun _ s => XC ε b L xs s) args s → XC ε b L xs s := fun _ _ z => z
  refine ex_met (ls := [some (.inr (b, 99)), some (.inl (nI j))]) okL_cell rfl rfl ?_
  unfold EX
  refine eg_step rfl rfl ?_
  refine eg_step rfl rfl ?_
  refine eg_slen rfl hXX ?_
  by_cases h : j < L
  · refine eg_if rfl rfl (fun z => absurd z (nI_ge h (by omega))) (fun _ => ?_)
    refine eg_step rfl rfl ?_
    refine eg_step rfl rfl ?_
    refine eg_sld (j := j) rfl hXX rfl h (by omega) ?_
    refine eg_step rfl rfl ?_
    exact ex_iret rfl rfl rfl rfl ⟨⟨_, rfl⟩, rfl⟩
  · refine eg_if rfl rfl (fun _ => ?_) (fun z => absurd (nI_le (a := L) (b := j) (by omega) (by omega)) z)
    refine eg_step rfl rfl ?_
    refine eg_step rfl rfl ?_
    refine eg_step rfl rfl ?_
    refine eg_step rfl rfl ?_
    refine eg_step rfl rfl ?_
    refine eg_step rfl rfl ?_
    refine eg_step rfl rfl ?_
    refine eg_step rfl rfl ?_
    refine eg_step rfl rfl ?_
    exact ex_iret rfl rfl rfl rfl ⟨⟨_, rfl⟩, rfl⟩
end MV
