/-! The same from any state that differs from G0 in line and trials alone. -/
section MT
variable {ε : EE} {J J' : JT} {X : Array Value → State → Prop} {Z : List Frame → Array Value → State → State → Prop} {mc ms cells slots pc : Nat} {lg lg' : List (Nat × Int64)} {lst : List Int64} {ls ls' : List (Option V0)} {st : List V0} {G G' G0 G1 : GG} {N Y : Nat}
def ET (ε : EE) (J : JT) (X : Array Value → State → Prop) (Z : List Frame → Array Value → State → State → Prop) (mc ms : Nat) (G0 : GG) (lg : List (Nat × Int64)) (lst : List Int64) (cells slots pc : Nat) (ls : List (Option V0)) (st : List V0) : Prop := ∀ G, lk1 G0 G → EQ ε J X Z mc ms lg lst cells slots pc ls st (wd ε G)
theorem et_step {o a b nx tg : Nat} {v : Int32} {ls' : List (Option V0)} {st' : List V0} (h : lk (jt J) pc = (o, a, b, v, nx, tg)) (hs : stp o a v ls st = some (ls', st')) (hg : qok o a lg = true) (k : ET ε J X Z mc ms G0 lg lst cells slots nx ls' st') : ET ε J X Z mc ms G0 lg lst cells slots pc ls st := fun G hG => q_step h hs hg (k G hG)
theorem et_stepS {o a b nx tg : Nat} {v : Int32} {ls' : List (Option V0)} {st' : List V0} (stop : Nat) (_ : Nat.beq pc stop = false) (h : lk (jt J) pc = (o, a, b, v, nx, tg)) (hs : stp o a v ls st = some (ls', st')) (hg : qok o a lg = true) (k : ET ε J X Z mc ms G0 lg lst cells slots nx ls' st') : ET ε J X Z mc ms G0 lg lst cells slots pc ls st := fun G hG => q_step h hs hg (k G hG)
theorem et_if {o a b nx tg : Nat} {v : Int32} {P : Prop} {st' : List V0} (h : lk (jt J) pc = (o, a, b, v, nx, tg)) (hs : cnd o st = some (P, st')) (kt : P → ET ε J X Z mc ms G0 lg lst cells slots tg ls st') (kf : ¬ P → ET ε J X Z mc ms G0 lg lst cells slots nx ls st') : ET ε J X Z mc ms G0 lg lst cells slots pc ls st := fun G hG => q_if h hs (fun p => kt p G hG) (fun p => kf p G hG)
theorem et_rem {a b nx tg : Nat} {v x y : Int32} {t : List V0} (h : lk (jt J) pc = (29, a, b, v, nx, tg)) (hy : ¬ y = 0) (k : ET ε J X Z mc ms G0 lg lst cells slots nx ls (.inl (x - x / y * y) :: t)) : ET ε J X Z mc ms G0 lg lst cells slots pc ls (.inl y :: .inl x :: t) := fun G hG => qq_rem h hy (k G hG)
theorem et_ldc2 {idx : Nat} {v : Int64} (hdg : decode (jb J) pc = .ok (.ldc2_w idx, 3)) (hw : Cond.constantLong (nmC (jc J)) idx v ∈ Tg) (k : ET ε J X Z mc ms G0 lg (v :: lst) cells slots (pc + 3) ls []) : ET ε J X Z mc ms G0 lg lst cells slots pc ls [] := fun G hG => q_ldc2 hdg hw (k G hG)
theorem et_lload {k0 : Fin 4} {a : Nat} {v : Int64} (hdg : decode (jb J) pc = .ok (.lload_n k0, 1)) (ha : (k0 : Nat) = a) (hv : lg = (a, v) :: lg') (k : ET ε J X Z mc ms G0 lg (v :: lst) cells slots (pc + 1) ls []) : ET ε J X Z mc ms G0 lg lst cells slots pc ls [] := fun G hG => q_lload hdg ha hv (k G hG)
theorem et_lmul {x y : Int64} (hdg : decode (jb J) pc = .ok (.lmul, 1)) (k : ET ε J X Z mc ms G0 lg ((x * y) :: lst) cells slots (pc + 1) ls []) : ET ε J X Z mc ms G0 lg (y :: x :: lst) cells slots pc ls [] := fun G hG => q_lmul hdg (k G hG)
theorem et_ladd {x y : Int64} (hdg : decode (jb J) pc = .ok (.ladd, 1)) (k : ET ε J X Z mc ms G0 lg ((x + y) :: lst) cells slots (pc + 1) ls []) : ET ε J X Z mc ms G0 lg (y :: x :: lst) cells slots pc ls [] := fun G hG => q_ladd hdg (k G hG)
theorem et_i2l {x : Int32} (hdg : decode (jb J) pc = .ok (.i2l, 1)) (k : ET ε J X Z mc ms G0 lg (x.toInt64 :: lst) cells slots (pc + 1) ls []) : ET ε J X Z mc ms G0 lg lst cells slots pc ls [.inl x] := fun G hG => q_i2l hdg (k G hG)
theorem et_lcmp {x y : Int64} (hdg : decode (jb J) pc = .ok (.lcmp, 1)) (k : ET ε J X Z mc ms G0 lg lst cells slots (pc + 1) ls [.inl (lg_cmp x y)]) : ET ε J X Z mc ms G0 lg (y :: x :: lst) cells slots pc ls [] := fun G hG => q_lcmp hdg (k G hG)
theorem et_lstore {k0 : Fin 4} {a : Nat} {x : Int64} (hdg : decode (jb J) pc = .ok (.lstore_n k0, 1)) (ha : (k0 : Nat) = a) (hm : Nat.ble (a + 2) (jm J) = true) (h0 : ls[a]? = some none) (h1 : ls[a + 1]? = some none) (k : ET ε J X Z mc ms G0 [(a, x)] lst cells slots (pc + 1) ls []) : ET ε J X Z mc ms G0 lg (x :: lst) cells slots pc ls [] := fun G hG => q_lstore hdg ha hm h0 h1 (k G hG)
theorem et_drop (hls : e_sub ls' ls) (hlg : ∀ q, q ∈ lg' → q ∈ lg) (k : ET ε J X Z mc ms G0 lg' lst cells slots pc ls' st) : ET ε J X Z mc ms G0 lg lst cells slots pc ls st := fun G hG => q_drop hls hlg (k G hG)
theorem et_from (h : lk1 G0 G1) (k : ET ε J X Z mc ms G0 lg lst cells slots pc ls st) : ET ε J X Z mc ms G1 lg lst cells slots pc ls st := fun G hG => k G (h.tr hG)
/-- a call of the class's: it answers r, and leaves P -/
theorem et_op {n idx nx : Nat} {v r : Int32} {As rest : List V0} {ty : FieldType} {P : GG → Prop} (hC : ∀ G, lk1 G0 G → C2 ε J' (.inr (0, 30) :: As) G (fun v G' => v = some r ∧ P G')) (hst : st = As.reverse ++ .inr (0, 30) :: rest) (h : lk (jt J) pc = (44, n, jn J', v, nx, idx)) (hT : e_fit J J') (hr : jr J' = some ty) (hn : As.length = n) (hrest : Nat.ble (rest.length + 2 * lst.length) 8 = true) (hcn : nmC 8 = (jy J').cls) (hcc : cells ≤ mc ∧ slots ≤ ms) (k : ∀ G', P G' → ET ε J X Z mc ms G' lg lst cells slots nx ls (.inl r :: rest)) : ET ε J X Z mc ms G0 lg lst cells slots pc ls st := fun G hG => by
  obtain ⟨q0, -, h2⟩ := wd_at ε G (i := 0) (kk := 30) (by decide)
  have h3 : (wd ε G)[q0]? = some (ε.2.2.2.2.1 0 30, .inr (8, [.inr (0, 20), .inr (0, 31), .inr (0, 33), .inr (18, 0), .inr (0, 40)].map (e_vm ε))) := h2
  have hC2 : e_Ct ε J' 0 0 (.inr (0, 30) :: As) (wd ε G) (fun v ws' => ∃ G', ws' = wd ε G' ∧ v = some r ∧ P G') := hC G hG
  refine q_callVi (mc' := 0) (ms' := 0) h hT.1 hr hT.rm hn hst hrest (e_vm_val ε (by decide)) h3 (by decide) hcn hC2 hcc (fun r' ws' zz => ?_)
  obtain ⟨G', rfl, z1, z2⟩ := zz
  cases z1
  exact k G' z2 G' lk1.rf
theorem et_look {n idx nx : Nat} {v r : Int32} {As rest : List V0} {ty : FieldType} (hC : Lk ε J' As G0 r) (hst : st = As.reverse ++ .inr (0, 30) :: rest) (h : lk (jt J) pc = (44, n, jn J', v, nx, idx)) (hT : e_fit J J') (hr : jr J' = some ty) (hn : As.length = n) (hrest : Nat.ble (rest.length + 2 * lst.length) 8 = true) (hcn : nmC 8 = (jy J').cls) (hcc : cells ≤ mc ∧ slots ≤ ms) (k : ET ε J X Z mc ms G0 lg lst cells slots nx ls (.inl r :: rest)) : ET ε J X Z mc ms G0 lg lst cells slots pc ls st :=
  et_op (P := lk1 G0) (fun G hG => C2.post (fun v G' z => ⟨z.1, hG.tr z.2⟩) (hC G hG)) hst h hT hr hn hrest hcn hcc (fun G' z => et_from z k)
/-- a static method of the law's own -/
theorem et_stat {n idx nx mc' ms' : Nat} {v r : Int32} {As rest : List V0} {ty : FieldType} {P : GG → Prop} (hC : ∀ G, lk1 G0 G → e_Ct ε J' mc' ms' As (wd ε G) (fun v ws' => v = some r ∧ ∃ G', ws' = wd ε G' ∧ P G')) (hst : st = As.reverse ++ rest) (h : lk (jt J) pc = (46, n, jn J', v, nx, idx)) (hT : e_fit J J') (hr : jr J' = some ty) (hn : As.length = n) (hrest : Nat.ble (rest.length + 2 * lst.length) 8 = true) (hcc : cells + mc' ≤ mc ∧ slots + ms' ≤ ms) (k : ∀ G', P G' → ET ε J X Z mc ms G' lg lst (cells + mc') (slots + ms') nx ls (.inl r :: rest)) : ET ε J X Z mc ms G0 lg lst cells slots pc ls st := fun G hG =>
  q_callSi h hT.1 hr hT.rm hn hst hrest (hC G hG) hcc (fun r' ws' zz => by
    obtain ⟨z1, G', rfl, z2⟩ := zz
    cases z1
    exact k G' z2 G' lk1.rf)
/-- a static method of the law's own that answers a long number -/
theorem et_statl {n idx nx : Nat} {v : Int32} {r : Int64} {As : List V0} (hC : ∀ G, lk1 G0 G → e_CtL ε J' 0 0 As (wd ε G) (fun v ws' => v = r ∧ ∃ G', ws' = wd ε G' ∧ lk1 G0 G')) (hst : st = As.reverse) (h : lk (jt J) pc = (46, n, jn J', v, nx, idx)) (hT : e_fit J J') (hr : jr J' = some .long) (hn : As.length = n) (hrest : Nat.ble (2 * lst.length) 8 = true) (hcc : cells ≤ mc ∧ slots ≤ ms) (k : ET ε J X Z mc ms G0 lg (r :: lst) cells slots nx ls []) : ET ε J X Z mc ms G0 lg lst cells slots pc ls st := fun G hG =>
  q_callSl (mc' := 0) (ms' := 0) (rest := []) h hT.1 hr hT.rm hn (by rw [hst, List.append_nil]) rfl (by rw [List.length_nil, Nat.zero_add]; exact hrest) (hC G hG) hcc (fun r' ws' zz => by
    obtain ⟨z1, G', rfl, z2⟩ := zz
    cases z1
    exact k G' z2)
end MT
