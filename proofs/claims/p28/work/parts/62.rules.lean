/-! The law's rules: its four rows lie beside the world. -/
section MF2
variable {ε : EE} {J' : JT} {pc : Nat} {ls : List (Option V0)} {st : List V0} {G G' G0 G1 : GG} {V V' : VV} {N Y n k w c l p : Nat} {y z x : Int32} {A : Nat × Nat × Nat × Nat} {f1 f2 f3 f4 g1 g2 g3 g4 : Nat → Int32}
/-- the same with other cells beside -/
def ex (ε : EE) (xs : va_W) : EE := (ε.1, ε.2.1, ε.2.2.1, ε.2.2.2.1, ε.2.2.2.2.1, xs)
def xl (ε : EE) (A : Nat × Nat × Nat × Nat) (f1 f2 f3 f4 : Nat → Int32) : va_W := [(A.1, .inl (ε.2.2.1 0, 8, .inl f1)), (A.2.1, .inl (ε.2.2.1 0, 8, .inl f2)), (A.2.2.1, .inl (ε.2.2.1 0, 6, .inl f3)), (A.2.2.2, .inl (ε.2.2.1 0, 6, .inl f4))]
def RQ (ε : EE) (G0 : GG) (v : Option Int32) (ws' : va_W) : Prop := v = some (nI 1) ∧ ∃ G' xs, ws' = wd (ex ε xs) G' ∧ lk1 G0 G'
def ER (ε : EE) (A : Nat × Nat × Nat × Nat) (pc : Nat) (ls : List (Option V0)) (st : List V0) (f1 f2 f3 f4 : Nat → Int32) (G0 : GG) : Prop := ∀ G, lk1 G0 G → E ε jL_rules 4 28 4 28 pc ls st (wd (ex ε (xl ε A f1 f2 f3 f4)) G) (RQ ε G0)
theorem er_step {o a b nx tg : Nat} {v : Int32} {ls' : List (Option V0)} {st' : List V0} (h : lk (jt jL_rules) pc = (o, a, b, v, nx, tg)) (hs : stp o a v ls st = some (ls', st')) (k : ER ε A nx ls' st' f1 f2 f3 f4 G0) : ER ε A pc ls st f1 f2 f3 f4 G0 := fun G hG => e_step h hs (k G hG)
theorem er_stepS {o a b nx tg : Nat} {v : Int32} {ls' : List (Option V0)} {st' : List V0} (stop : Nat) (_ : Nat.beq pc stop = false) (h : lk (jt jL_rules) pc = (o, a, b, v, nx, tg)) (hs : stp o a v ls st = some (ls', st')) (k : ER ε A nx ls' st' f1 f2 f3 f4 G0) : ER ε A pc ls st f1 f2 f3 f4 G0 := fun G hG => e_step h hs (k G hG)
theorem er_if {o a b nx tg : Nat} {v : Int32} {P : Prop} {st' : List V0} (h : lk (jt jL_rules) pc = (o, a, b, v, nx, tg)) (hs : cnd o st = some (P, st')) (kt : P → ER ε A tg ls st' f1 f2 f3 f4 G0) (kf : ¬ P → ER ε A nx ls st' f1 f2 f3 f4 G0) : ER ε A pc ls st f1 f2 f3 f4 G0 := fun G hG => e_if h hs (fun q => kt q G hG) (fun q => kf q G hG)
theorem vm_ex {xs : va_W} : e_vm (ex ε xs) = e_vm ε := rfl
theorem e_Ct_ex {J : JT} {mc ms : Nat} {As : List V0} {ws xs : va_W} {Q : Option Int32 → va_W → Prop} (h : e_Ct (ex ε xs) J mc ms As ws Q) : e_Ct ε J mc ms As ws Q := h
theorem er_look {n idx nx : Nat} {v r : Int32} {As rest : List V0} {ty : FieldType} (hC : Lk (ex ε (xl ε A f1 f2 f3 f4)) J' As G0 r) (hst : st = As.reverse ++ .inr (0, 30) :: rest) (h : lk (jt jL_rules) pc = (44, n, jn J', v, nx, idx)) (hT : e_fit jL_rules J') (hr : jr J' = some ty) (hn : As.length = n) (hrest : Nat.ble rest.length 8 = true) (hcn : nmC 8 = (jy J').cls) (k : ER ε A nx ls (.inl r :: rest) f1 f2 f3 f4 G0) : ER ε A pc ls st f1 f2 f3 f4 G0 := fun G hG => by
  obtain ⟨q0, -, h2⟩ := wd_at (ex ε (xl ε A f1 f2 f3 f4)) G (i := 0) (kk := 30) (by decide)
  have h3 : (wd (ex ε (xl ε A f1 f2 f3 f4)) G)[q0]? = some (ε.2.2.2.2.1 0 30, .inr (8, [.inr (0, 20), .inr (0, 31), .inr (0, 33), .inr (18, 0), .inr (0, 40)].map (e_vm ε))) := h2
  have hC2 : e_Ct ε J' 0 0 (.inr (0, 30) :: As) (wd (ex ε (xl ε A f1 f2 f3 f4)) G) (fun v ws' => ∃ G', ws' = wd (ex ε (xl ε A f1 f2 f3 f4)) G' ∧ v = some r ∧ lk1 G G') := e_Ct_ex (hC G hG)
  refine e_callVi (cells := 4) (slots := 28) (mc' := 0) (ms' := 0) h hT.1 hr hT.rm hn hst (Nat.le_of_ble_eq_true hrest) (e_vm_val ε (by decide)) h3 (by decide) hcn hC2 ⟨Nat.le_refl _, Nat.le_refl _⟩ (fun r' ws' zz => ?_)
  obtain ⟨G', rfl, z1, z2⟩ := zz
  cases z1
  exact k G' (hG.tr z2)
theorem er_stat {n idx nx : Nat} {v r : Int32} {As rest : List V0} {ty : FieldType} (hC : Ls (ex ε (xl ε A f1 f2 f3 f4)) J' As G0 r) (hst : st = As.reverse ++ rest) (h : lk (jt jL_rules) pc = (46, n, jn J', v, nx, idx)) (hT : e_fit jL_rules J') (hr : jr J' = some ty) (hn : As.length = n) (hrest : Nat.ble rest.length 8 = true) (k : ER ε A nx ls (.inl r :: rest) f1 f2 f3 f4 G0) : ER ε A pc ls st f1 f2 f3 f4 G0 := fun G hG => by
  have hC2 : e_Ct ε J' 0 0 As (wd (ex ε (xl ε A f1 f2 f3 f4)) G) (fun v ws' => ∃ G', ws' = wd (ex ε (xl ε A f1 f2 f3 f4)) G' ∧ v = some r ∧ lk1 G G') := e_Ct_ex (hC G hG)
  refine e_callSi (cells := 4) (slots := 28) (mc' := 0) (ms' := 0) h hT.1 hr hT.rm hn hst (Nat.le_of_ble_eq_true hrest) hC2 ⟨Nat.le_refl _, Nat.le_refl _⟩ (fun r' ws' zz => ?_)
  obtain ⟨G', rfl, z1, z2⟩ := zz
  cases z1
  exact k G' (hG.tr z2)
theorem vals_n : vals.length = 370 := by decide +kernel
theorem xl_at {xs : va_W} {i : Nat} {q : Nat × va_E} (h : xs[i]? = some q) : (wd (ex ε xs) G)[370 + i]? = some q := by
  unfold wd
  rw [List.getElem?_append_right (by rw [List.length_map, vals_n]; omega), List.length_map, vals_n, Nat.add_sub_cancel_left]
  exact h
theorem xl_set {xs : va_W} {i : Nat} {q : Nat × va_E} : (wd (ex ε xs) G).set (370 + i) q = wd (ex ε (xs.set i q)) G := by
  unfold wd
  rw [List.set_append_right _ _ (by rw [List.length_map, vals_n]; omega), List.length_map, vals_n, Nat.add_sub_cancel_left]
  rfl
theorem er_ld {o a b nx a0 n : Nat} {v : Int32} {f : Nat → Int32} (i j : Nat) (h : lk (jt jL_rules) pc = (32, a, b, v, nx, o)) (hp : (xl ε A f1 f2 f3 f4)[i]? = some (a0, .inl (ε.2.2.1 0, n, .inl f))) (hj : j < n) (hn : Nat.ble n 100 = true) (k : ER ε A nx ls (.inl (f j) :: st) f1 f2 f3 f4 G0) : ER ε A pc ls (.inl (nI j) :: .inr (a0, 99) :: st) f1 f2 f3 f4 G0 := fun G hG =>
  e_iald (q0 := 370 + i) h rfl (xl_at hp) hj (by have := Nat.le_of_ble_eq_true hn; omega) (k G hG)
theorem er_st {o a b nx a0 n : Nat} {v : Int32} {f : Nat → Int32} (i j : Nat) (h : lk (jt jL_rules) pc = (36, a, b, v, nx, o)) (hp : (xl ε A f1 f2 f3 f4)[i]? = some (a0, .inl (ε.2.2.1 0, n, .inl f))) (hj : j < n) (hn : Nat.ble n 100 = true) (hs : (xl ε A f1 f2 f3 f4).set i (a0, .inl (ε.2.2.1 0, n, .inl (upd f j x))) = xl ε A g1 g2 g3 g4) (k : ER ε A nx ls st g1 g2 g3 g4 G0) : ER ε A pc ls (.inl x :: .inl (nI j) :: .inr (a0, 99) :: st) f1 f2 f3 f4 G0 := fun G hG =>
  e_iast (q0 := 370 + i) h rfl (xl_at hp) hj (by have := Nat.le_of_ble_eq_true hn; omega) (by rw [xl_set, hs]; exact k G hG)
set_option maxRecDepth 100000 in
theorem er_zret {o a b nx : Nat} {v : Int32} (h : lk (jt jL_rules) pc = (41, a, b, v, nx, o)) : ER ε A pc ls [.inl (nI 1)] f1 f2 f3 f4 G0 := fun G hG =>
  e_zret h rfl (Nat.le_refl _) (Nat.le_refl _) rfl ⟨rfl, G, _, rfl, hG⟩
theorem e_dropK {mc ms cells slots : Nat} {J : JT} {ws : va_W} {ls' : List (Option V0)} {Q : Option Int32 → va_W → Prop} (k : E ε J mc ms cells slots pc ls' st ws Q) (h : e_sub ls' ls) : E ε J mc ms cells slots pc ls st ws Q := by
  intro hT p e R s m args below meth c H locs lsA C hP hD hS hl
  refine k hT p e R s m args below meth c H locs lsA C hP hD hS ⟨hl.1, hl.2.1, fun q hq => ?_⟩
  obtain ⟨j, v, z1, z2, z3⟩ := (e_ll_mem ε _ 0 q).1 hq
  exact hl.2.2 q ((e_ll_mem ε _ 0 q).2 ⟨j, v, z1, e_sub_at _ _ h j v z2, z3⟩)
theorem er_dropK {ls' : List (Option V0)} (k : ER ε A pc ls' st f1 f2 f3 f4 G0) (h : e_sub ls' ls) : ER ε A pc ls st f1 f2 f3 f4 G0 := fun G hG => e_dropK (k G hG) h
-- what rules counts up to letter l
def RI (V : VV) (l : Nat) (f1 f2 f3 f4 : Nat → Int32) : Prop := (∀ w, w < 8 → f1 w = nI (cntB (atV V (nI 1) (nI w)) l)) ∧ (∀ w, w < 8 → f2 w = nI (cntB (fun l => atV V (nI 1) (nI w) l && decide (V 5 l = nI 1)) l)) ∧ (∀ c, c < 6 → f3 c = nI (cntB (atV V (nI 3) (nI c)) l)) ∧ ∀ p, p < 6 → f4 p = nI (P7 V p l)
abbrev L13 (A : Nat × Nat × Nat × Nat) (a b : Int32) (r : List (Option V0)) : List (Option V0) := some (.inr (0, 30)) :: some (.inr (A.1, 99)) :: some (.inr (A.2.1, 99)) :: some (.inr (A.2.2.1, 99)) :: some (.inr (A.2.2.2, 99)) :: some (.inl a) :: some (.inl b) :: r
set_option maxRecDepth 100000 in
/-- place and walk fit -/
theorem rs_1 {w9 c9 : Int32} {r : List (Option V0)} (hp : p ≤ 5) (hw : p = 1 ↔ ¬ w9 = -9) (K : ER ε A 115 (L13 A y z (some (.inl (nI l)) :: some (.inl (nI p)) :: some (.inl w9) :: some (.inl c9) :: r)) [] f1 f2 f3 f4 G0) : ER ε A 89 (L13 A y z (some (.inl (nI l)) :: some (.inl (nI p)) :: some (.inl w9) :: some (.inl c9) :: r)) [] f1 f2 f3 f4 G0 := by
  repeat (first | refine er_step rfl rfl ?_)
  by_cases h : p = 1
  · have h9 := hw.1 h
    refine er_if rfl rfl (fun q => absurd (by rw [h]) q) (fun _ => ?_)
    repeat (first | refine er_step rfl rfl ?_)
    refine er_if rfl rfl (fun q => absurd q h9) (fun _ => ?_)
    repeat (first | refine er_step rfl rfl ?_)
    refine er_if rfl rfl (fun q => absurd rfl q) (fun _ => ?_)
    exact K
  · have h9 : w9 = -9 := Classical.not_not.1 (fun q => h (hw.2 q))
    refine er_if rfl rfl (fun _ => ?_) (fun q => absurd (fun w => h ((nI_eq (by omega) (by decide)).1 w)) q)
    repeat (first | refine er_step rfl rfl ?_)
    refine er_if rfl rfl (fun _ => ?_) (fun q => absurd h9 q)
    repeat (first | refine er_step rfl rfl ?_)
    refine er_if rfl rfl (fun q => absurd rfl q) (fun _ => ?_)
    exact K
set_option maxRecDepth 100000 in
theorem rs_2 {w9 c9 : Int32} {r : List (Option V0)} (hp : p ≤ 5) (hc : p = 3 ↔ ¬ c9 = -9) (K : ER ε A 141 (L13 A y z (some (.inl (nI l)) :: some (.inl (nI p)) :: some (.inl w9) :: some (.inl c9) :: r)) [] f1 f2 f3 f4 G0) : ER ε A 115 (L13 A y z (some (.inl (nI l)) :: some (.inl (nI p)) :: some (.inl w9) :: some (.inl c9) :: r)) [] f1 f2 f3 f4 G0 := by
  repeat (first | refine er_step rfl rfl ?_)
  by_cases h : p = 3
  · have h9 := hc.1 h
    refine er_if rfl rfl (fun q => absurd (by rw [h]) q) (fun _ => ?_)
    repeat (first | refine er_step rfl rfl ?_)
    refine er_if rfl rfl (fun q => absurd q h9) (fun _ => ?_)
    repeat (first | refine er_step rfl rfl ?_)
    refine er_if rfl rfl (fun q => absurd rfl q) (fun _ => ?_)
    exact K
  · have h9 : c9 = -9 := Classical.not_not.1 (fun q => h (hc.2 q))
    refine er_if rfl rfl (fun _ => ?_) (fun q => absurd (fun w => h ((nI_eq (by omega) (by decide)).1 w)) q)
    repeat (first | refine er_step rfl rfl ?_)
    refine er_if rfl rfl (fun _ => ?_) (fun q => absurd h9 q)
    repeat (first | refine er_step rfl rfl ?_)
    refine er_if rfl rfl (fun q => absurd rfl q) (fun _ => ?_)
    exact K
set_option maxRecDepth 100000 in
theorem rs_3 {w9 c9 e : Int32} {r : List (Option V0)} (hp : p ≤ 5) (he : p ≤ 3 ↔ e = -9) (hL : Lk (ex ε (xl ε A f1 f2 f3 f4)) jX8_letter [.inl (nI l), .inl (nI 7)] G0 e) (K : ER ε A 173 (L13 A y z (some (.inl (nI l)) :: some (.inl (nI p)) :: some (.inl w9) :: some (.inl c9) :: r)) [] f1 f2 f3 f4 G0) : ER ε A 141 (L13 A y z (some (.inl (nI l)) :: some (.inl (nI p)) :: some (.inl w9) :: some (.inl c9) :: r)) [] f1 f2 f3 f4 G0 := by
  repeat (first | refine er_step rfl rfl ?_)
  by_cases h : p ≤ 3
  · have h9 := he.1 h
    refine er_if rfl rfl (fun _ => ?_) (fun q => absurd (nI_le (b := 3) h (by decide)) q)
    repeat (first | refine er_step rfl rfl ?_)
    refine er_look (hL) rfl rfl ⟨rfl, rfl, rfl⟩ rfl rfl rfl rfl ?_
    repeat (first | refine er_step rfl rfl ?_)
    refine er_if rfl rfl (fun _ => ?_) (fun q => absurd h9 q)
    repeat (first | refine er_step rfl rfl ?_)
    refine er_if rfl rfl (fun q => absurd rfl q) (fun _ => ?_)
    exact K
  · have h9 : ¬ e = -9 := fun q => h (he.2 q)
    refine er_if rfl rfl (fun q => absurd q (nI_ge (a := 3) (b := p) (by omega) (by omega))) (fun _ => ?_)
    repeat (first | refine er_step rfl rfl ?_)
    refine er_look (hL) rfl rfl ⟨rfl, rfl, rfl⟩ rfl rfl rfl rfl ?_
    repeat (first | refine er_step rfl rfl ?_)
    refine er_if rfl rfl (fun q => absurd q h9) (fun _ => ?_)
    repeat (first | refine er_step rfl rfl ?_)
    refine er_if rfl rfl (fun q => absurd rfl q) (fun _ => ?_)
    exact K
set_option maxRecDepth 100000 in
theorem rs_4 {w9 c9 : Int32} {m : Nat} {r : List (Option V0)} (hp : p ≤ 5) (hm : m ≤ 3) (he : p = 5 ↔ m = 3) (hL : Lk (ex ε (xl ε A f1 f2 f3 f4)) jX8_letter [.inl (nI l), .inl (nI 5)] G0 (nI m)) (K : ER ε A 203 (L13 A y z (some (.inl (nI l)) :: some (.inl (nI p)) :: some (.inl w9) :: some (.inl c9) :: r)) [] f1 f2 f3 f4 G0) : ER ε A 173 (L13 A y z (some (.inl (nI l)) :: some (.inl (nI p)) :: some (.inl w9) :: some (.inl c9) :: r)) [] f1 f2 f3 f4 G0 := by
  repeat (first | refine er_step rfl rfl ?_)
  by_cases h : p = 5
  · have h9 := he.1 h
    refine er_if rfl rfl (fun q => absurd (by rw [h]) q) (fun _ => ?_)
    repeat (first | refine er_step rfl rfl ?_)
    refine er_look (hL) rfl rfl ⟨rfl, rfl, rfl⟩ rfl rfl rfl rfl ?_
    repeat (first | refine er_step rfl rfl ?_)
    refine er_if rfl rfl (fun q => absurd (by rw [h9]) q) (fun _ => ?_)
    repeat (first | refine er_step rfl rfl ?_)
    refine er_if rfl rfl (fun q => absurd rfl q) (fun _ => ?_)
    exact K
  · have h9 : ¬ m = 3 := fun q => h (he.2 q)
    refine er_if rfl rfl (fun _ => ?_) (fun q => absurd (fun w => h ((nI_eq (by omega) (by decide)).1 w)) q)
    repeat (first | refine er_step rfl rfl ?_)
    refine er_look (hL) rfl rfl ⟨rfl, rfl, rfl⟩ rfl rfl rfl rfl ?_
    repeat (first | refine er_step rfl rfl ?_)
    refine er_if rfl rfl (fun _ => ?_) (fun q => absurd (fun w => h9 ((nI_eq (by omega) (by decide)).1 w)) q)
    repeat (first | refine er_step rfl rfl ?_)
    refine er_if rfl rfl (fun q => absurd rfl q) (fun _ => ?_)
    exact K
end MF2
