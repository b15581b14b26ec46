/-! Constructors: rows of codes, letters, carriers, line, text. -/
section PA
variable {ε : EE} {J : JT} {X : Array Value → State → Prop} {Z : List Frame → Array Value → State → State → Prop} {mc ms cells slots pc : Nat} {ls : List (Option V0)} {st : List V0} {ws w0 l : va_W} {Q : Option Int32 → va_W → Prop} {fa : Nat} {fcs : Nat → Int32}
theorem at_app (j : Nat) : (w0 ++ l)[w0.length + j]? = l[j]? := by
  rw [List.getElem?_append_right (by omega), Nat.add_sub_cancel_left]
theorem set_app (j : Nat) (x : Nat × va_E) : (w0 ++ l).set (w0.length + j) x = w0 ++ l.set j x := by
  rw [List.set_append_right _ _ (by omega), Nat.add_sub_cancel_left]
theorem set_same {x : Nat × va_E} {q : Nat} (h : ws[q]? = some x) : ws.set q x = ws := by
  apply List.ext_getElem?
  intro i
  by_cases hi : q = i
  · subst hi
    have hl : q < ws.length := by
      rcases Nat.lt_or_ge q ws.length with z | z
      · exact z
      · rw [List.getElem?_eq_none z] at h
        cases h
    rw [List.getElem?_set_self hl, h]
  · rw [List.getElem?_set_ne hi]
theorem ga_newa {n : Nat} {x : Int32} (kk : Nat) (hdg : decode (jb J) pc = .ok (.newarray (atyC kk).1, 2)) (hkk : kk < 3) (hac : Cond.arrayClass (atyC kk).2 ∈ Tg) (hx0 : x = nI n) (hn : Nat.ble n 1000000 = true) (hcc : (Nat.ble (cells + 1) mc && Nat.ble (slots + n) ms) = true)
    (k : ∀ q : Nat, EG ε J X Z mc ms (cells + 1) (slots + n) (pc + 2) ls (.inr (q, 99) :: st) (w0 ++ (l ++ [(q, .inl (ε.2.2.1 kk, n, .inl (fun _ => nI 0)))]))) : EG ε J X Z mc ms cells slots pc ls (.inl x :: st) (w0 ++ l) :=
  eg_newa kk hdg hkk hac hx0 hn hcc (fun q => by rw [List.append_assoc]; exact k q)
/-- a final field of references -/
theorem ga_put {kf t nx idx a0 q : Nat} {v : Int32} {fs : List Value} (j : Nat) (h : lk (jt J) pc = (31, kf, t, v, nx, idx)) (hp : l[j]? = some (a0, .inr (t, fs))) (hm : (t, idx, kf) ∈ fiT) (hc : jc J = t) (hin : (jy J).name = "<init>") (hn : narrow (tyC t kf) (.ref q) = .ref q) (hfit : fits (tyC t kf) (.ref q) = true) (hl0 : Nat.ble (kf + 1) fs.length = true) (k : EG ε J X Z mc ms cells slots nx ls st (w0 ++ l.set j (a0, .inr (t, fs.set kf (.ref q))))) : EG ε J X Z mc ms cells slots pc ls (.inr (q, 99) :: .inr (a0, 99) :: st) (w0 ++ l) :=
  eg_putF (q0 := w0.length + j) (w := .inr (q, 99)) h rfl (by rw [at_app]; exact hp) hm hc hin hn hfit (Nat.le_of_ble_eq_true hl0) (by rw [set_app]; exact k)
theorem ga_get {kf t nx idx a0 : Nat} {v : Int32} {fs : List Value} {w : V0} (j : Nat) (h : lk (jt J) pc = (30, kf, t, v, nx, idx)) (hp : l[j]? = some (a0, .inr (t, fs))) (hv : fs[kf]? = some (e_vm ε w)) (k : EG ε J X Z mc ms cells slots nx ls (w :: st) (w0 ++ l)) : EG ε J X Z mc ms cells slots pc ls (.inr (a0, 99) :: st) (w0 ++ l) :=
  eg_get (q0 := w0.length + j) h rfl (by rw [at_app]; exact hp) hv k
theorem ga_iast {o a b nx a0 n i : Nat} {v x y : Int32} {f : Nat → Int32} (j : Nat) (h : lk (jt J) pc = (36, a, b, v, nx, o)) (hy : y = nI i) (hp : l[j]? = some (a0, .inl (ε.2.2.1 0, n, .inl f))) (hj : i < n) (hn : n < 2 ^ 31) (k : EG ε J X Z mc ms cells slots nx ls st (w0 ++ l.set j (a0, .inl (ε.2.2.1 0, n, .inl (upd f i x))))) : EG ε J X Z mc ms cells slots pc ls (.inl x :: .inl y :: .inr (a0, 99) :: st) (w0 ++ l) := by
  subst hy
  exact eg_iast (q0 := w0.length + j) h rfl (by rw [at_app]; exact hp) hj hn (by rw [set_app]; exact k)
/-- a row of codes given a range, at any addresses -/
theorem g_giveR {h kq q0 q1 a b : Nat} {f : Nat → Int32} (h0 : ws[q0]? = some (h, .inr (7, [.ref kq]))) (h1 : ws[q1]? = some (kq, .inl (ε.2.2.1 0, 100, .inl f))) (ha : a < 100) (hb : b < 100) (w : Int32) : e_Ct ε jX7_give 0 0 [.inr (h, 99), .inl (nI a), .inl (nI b), .inl w] ws (fun v ws' => v = none ∧ ws' = ws.set q1 (kq, .inl (ε.2.2.1 0, 100, .inl (rngr f a (b + 1) w)))) := by
  have hne : q1 ≠ q0 := fun z => by
    rw [z, h0] at h1
    cases h1
  have hl1 : q1 < ws.length := by
    rcases Nat.lt_or_ge q1 ws.length with z | z
    · exact z
    · rw [List.getElem?_eq_none z] at h1
      cases h1
  refine e_met okX7_give (Nat.le_of_ble_eq_true rfl) ?_
  show E ε jX7_give 0 0 0 0 0 [some (.inr (h, 99)), some (.inl (nI a)), some (.inl (nI b)), some (.inl w), none] [] ws _
  repeat (first | refine e_step rfl rfl ?_)
  refine e_max rfl ⟨by decide, by decide⟩ ⟨Nat.le_refl _, Nat.le_refl _⟩ (by decide) ?_
  have hm : (if nI a < nI 0 then nI 0 else nI a) = nI a := by rw [if_neg]; exact nI_pos (by omega)
  rw [hm]
  refine e_step rfl rfl ?_
  have hl : ∀ m i, i + m = b + 1 - a → ∀ ws', ws' = ws.set q1 (kq, .inl (ε.2.2.1 0, 100, .inl (rngr f a (a + i) w))) → E ε jX7_give 0 0 0 0 7 [some (.inr (h, 99)), some (.inl (nI a)), some (.inl (nI b)), some (.inl w), some (.inl (nI (a + i)))] [] ws' (fun v ws' => v = none ∧ ws' = ws.set q1 (kq, .inl (ε.2.2.1 0, 100, .inl (rngr f a (b + 1) w)))) := by
    intro m
    induction m with
    | zero =>
      intro i hi ws' hws
      have hfin : ws' = ws.set q1 (kq, .inl (ε.2.2.1 0, 100, .inl (rngr f a (b + 1) w))) := by
        rw [hws]
        have : rngr f a (a + i) w = rngr f a (b + 1) w := by
          funext j
          simp only [rngr]
          by_cases z : a ≤ j ∧ j < b + 1
          · rw [if_pos z, if_pos (by omega)]
          · rw [if_neg z, if_neg (by omega)]
        rw [this]
      refine e_step rfl rfl ?_
      refine e_step rfl rfl ?_
      by_cases hba : b < a + i
      · refine e_if rfl rfl (fun _ => ?_) (fun z => absurd (nI_lt hba (by omega)) z)
        exact e_vret rfl rfl (Nat.le_refl _) (Nat.le_refl _) ⟨rfl, hfin⟩
      · omega
    | succ m ih =>
      intro i hi ws' hws
      have g0 : ws'[q0]? = some (h, .inr (7, [.ref kq])) := by rw [hws, List.getElem?_set_ne hne]; exact h0
      have g1 : ws'[q1]? = some (kq, .inl (ε.2.2.1 0, 100, .inl (rngr f a (a + i) w))) := by rw [hws, List.getElem?_set_self hl1]
      refine e_step rfl rfl ?_
      refine e_step rfl rfl ?_
      refine e_if rfl rfl (fun z => absurd z (nI_nlt (by omega) (by omega))) (fun _ => ?_)
      refine e_step rfl rfl ?_
      refine e_step rfl rfl ?_
      refine e_if rfl rfl (fun z => absurd z (nI_ge (by omega) (by omega))) (fun _ => ?_)
      refine e_step rfl rfl ?_
      refine e_get (w := .inr (kq, 99)) rfl rfl g0 rfl ?_
      refine e_step rfl rfl ?_
      refine e_step rfl rfl ?_
      refine e_iast rfl rfl g1 (show a + i < 100 by omega) (by omega) ?_
      refine e_step rfl rfl ?_
      refine e_step rfl rfl ?_
      rw [nI_add']
      refine ih (i + 1) (by omega) _ ?_
      rw [hws, List.set_set, show a + (i + 1) = a + (i + 1) from rfl, rngr_s]
  refine hl (b + 1 - a) 0 (by omega) ws ?_
  rw [show a + 0 = a from rfl, rngr_0, set_same h1]
def fcN (i : Nat) : Nat := match i with | 0 => 0 | 1 => 13 | 2 => 25 | 3 => 38 | 4 => 50 | 5 => 63 | 6 => 75 | _ => 88
theorem fcN_lt (i : Nat) : fcN i < 100 := by
  unfold fcN
  split <;> decide
def rgI : Nat → Nat → Int32
  | 0 => fun _ => nI 0
  | i + 1 => rngr (rgI i) (fcN i) 100 (nI i)
abbrev XF (ε : EE) (fa : Nat) : State → Prop := XS ε fa (fun i => nI (fcN i))
theorem i_ranges (w0 : va_W) (h : Nat) : e_CtX ε jX7_init (XF ε fa) 1 100 [.inr (h, 99)] (w0 ++ [(h, .inr (7, dflV 7))]) (fun v ws' => v = none ∧ ∃ kq, ws' = w0 ++ [(h, .inr (7, [.ref kq])), (kq, .inl (ε.2.2.1 0, 100, .inl (rgI 8)))]) := by
  have hXX : ∀ (args : Array Value) s, (fun _ s => XF ε fa s) args s → XS ε fa (fun i => nI (fcN i)) s := fun _ _ z => z
  refine ex_met (ls := [some (.inr (h, 99)), none]) okX7_init rfl rfl ?_
  unfold EX
  refine eg_step rfl rfl ?_
  refine eg_objInit rfl rfl rfl rfl ?_
  refine eg_step rfl rfl ?_
  refine eg_step rfl rfl ?_
  refine ga_newa 0 dX7_init_7 (by decide) ac_int rfl rfl rfl (fun kq => ?_)
  refine ga_put 0 rfl rfl (by decide) rfl rfl rfl rfl rfl ?_
  refine eg_step rfl rfl ?_
  refine eg_step rfl rfl ?_
  have hl : ∀ m i, i + m = 8 → EG ε jX7_init (fun _ s => XF ε fa s) (fun below args s => MQ below (e_Qc ε jX7_init (fun v ws' => v = none ∧ ∃ kq, ws' = w0 ++ [(h, .inr (7, [.ref kq])), (kq, .inl (ε.2.2.1 0, 100, .inl (rgI 8)))])) args s 1 100 (e_A ε)) 1 100 1 100 14 [some (.inr (h, 99)), some (.inl (nI i))] [] (w0 ++ [(h, .inr (7, [.ref kq])), (kq, .inl (ε.2.2.1 0, 100, .inl (rgI i)))]) := by
    intro m
    induction m with
    | zero =>
      intro i hi
      have : i = 8 := by omega
      subst this
      refine eg_step rfl rfl ?_
      refine eg_fc dX7_init_15 rfl hXX ?_
      refine eg_fclen rfl hXX ?_
      refine eg_if rfl rfl (fun _ => ?_) (fun z => absurd (Int32.le_refl _) z)
      exact ex_vret rfl rfl rfl rfl ⟨rfl, kq, rfl⟩
    | succ m ih =>
      intro i hi
      refine eg_step rfl rfl ?_
      refine eg_fc dX7_init_15 rfl hXX ?_
      refine eg_fclen rfl hXX ?_
      refine eg_if rfl rfl (fun z => absurd z (nI_ge (by omega) (by omega))) (fun _ => ?_)
      refine eg_step rfl rfl ?_
      refine eg_fc dX7_init_23 rfl hXX ?_
      refine eg_step rfl rfl ?_
      refine eg_fcld rfl hXX (show i < 8 by omega) ?_
      refine eg_step rfl rfl ?_
      refine eg_step rfl rfl ?_
      refine eg_callVv (cells := 1) (slots := 100) (q0 := w0.length + 0) (As := [.inl (nI (fcN i)), .inl (nI 99), .inl (nI i)]) (rest := []) (mc' := 0) (ms' := 0) (J' := jX7_give) rfl rfl rfl ⟨by decide, by decide⟩ rfl rfl (by decide) rfl (by rw [at_app]; rfl) (by decide) rfl (g_giveR (q0 := w0.length + 0) (q1 := w0.length + 1) (kq := kq) (f := rgI i) (by rw [at_app]; rfl) (by rw [at_app]; rfl) (fcN_lt i) (by omega) (nI i)) ⟨Nat.le_refl _, Nat.le_refl _⟩ (fun ws' z => ?_)
      obtain ⟨-, rfl⟩ := z
      rw [set_app]
      refine eg_step rfl rfl ?_
      refine eg_step rfl rfl ?_
      rw [nI_add']
      exact ih (i + 1) (by omega)
  exact hl 8 0 rfl
theorem i_letters (w0 : va_W) (h : Nat) : e_CtX ε jX2_init (XF ε fa) 8 848 [.inr (h, 99)] (w0 ++ [(h, .inr (2, dflV 2))]) (fun v ws' => v = none ∧ ∃ a b c d e f g i, ws' = w0 ++ [(h, .inr (2, [.ref a, .ref b, .ref c, .ref d, .ref e, .ref f, .ref g, .ref i, .int 0])), (a, .inl (ε.2.2.1 0, 120, .inl (fun _ => nI 0))), (b, .inl (ε.2.2.1 0, 120, .inl (fun _ => nI 0))), (c, .inl (ε.2.2.1 0, 120, .inl (fun _ => nI 0))), (d, .inl (ε.2.2.1 0, 120, .inl (fun _ => nI 0))), (e, .inl (ε.2.2.1 0, 120, .inl (fun _ => nI 0))), (f, .inl (ε.2.2.1 0, 120, .inl (fun _ => nI 0))), (g, .inl (ε.2.2.1 0, 120, .inl (fun _ => nI 0))), (i, .inl (ε.2.2.1 0, 8, .inl (fun _ => nI 0)))]) := by
  refine ex_met (ls := [some (.inr (h, 99))]) okX2_init rfl rfl ?_
  unfold EX
  refine eg_step rfl rfl ?_
  refine eg_objInit rfl rfl rfl rfl ?_
  refine eg_step rfl rfl ?_
  refine eg_step rfl rfl ?_
  refine ga_newa 0 dX2_init_7 (by decide) ac_int rfl rfl rfl (fun a => ?_)
  refine ga_put 0 rfl rfl (by decide) rfl rfl rfl rfl rfl ?_
  refine eg_step rfl rfl ?_
  refine eg_step rfl rfl ?_
  refine ga_newa 0 dX2_init_15 (by decide) ac_int rfl rfl rfl (fun b => ?_)
  refine ga_put 0 rfl rfl (by decide) rfl rfl rfl rfl rfl ?_
  refine eg_step rfl rfl ?_
  refine eg_step rfl rfl ?_
  refine ga_newa 0 dX2_init_23 (by decide) ac_int rfl rfl rfl (fun c => ?_)
  refine ga_put 0 rfl rfl (by decide) rfl rfl rfl rfl rfl ?_
  refine eg_step rfl rfl ?_
  refine eg_step rfl rfl ?_
  refine ga_newa 0 dX2_init_31 (by decide) ac_int rfl rfl rfl (fun d => ?_)
  refine ga_put 0 rfl rfl (by decide) rfl rfl rfl rfl rfl ?_
  refine eg_step rfl rfl ?_
  refine eg_step rfl rfl ?_
  refine ga_newa 0 dX2_init_39 (by decide) ac_int rfl rfl rfl (fun e => ?_)
  refine ga_put 0 rfl rfl (by decide) rfl rfl rfl rfl rfl ?_
  refine eg_step rfl rfl ?_
  refine eg_step rfl rfl ?_
  refine ga_newa 0 dX2_init_47 (by decide) ac_int rfl rfl rfl (fun f => ?_)
  refine ga_put 0 rfl rfl (by decide) rfl rfl rfl rfl rfl ?_
  refine eg_step rfl rfl ?_
  refine eg_step rfl rfl ?_
  refine ga_newa 0 dX2_init_55 (by decide) ac_int rfl rfl rfl (fun g => ?_)
  refine ga_put 0 rfl rfl (by decide) rfl rfl rfl rfl rfl ?_
  refine eg_step rfl rfl ?_
  refine eg_step rfl rfl ?_
  refine ga_newa 0 dX2_init_63 (by decide) ac_int rfl rfl rfl (fun i => ?_)
  refine ga_put 0 rfl rfl (by decide) rfl rfl rfl rfl rfl ?_
  exact ex_vret rfl rfl rfl rfl ⟨rfl, a, b, c, d, e, f, g, i, rfl⟩
def crI : Nat → Nat → Int32
  | 0 => fun _ => nI 0
  | i + 1 => upd (crI i) i (-9)
theorem i_carriers (w0 : va_W) (h : Nat) : e_CtX ε jX0_init (XF ε fa) 4 66 [.inr (h, 99)] (w0 ++ [(h, .inr (0, dflV 0))]) (fun v ws' => v = none ∧ ∃ a b c d, ws' = w0 ++ [(h, .inr (0, [.ref a, .ref b, .ref c, .ref d])), (a, .inl (ε.2.2.1 0, 6, .inl (crI 6))), (b, .inl (ε.2.2.1 1, 6, .inl (fun _ => nI 0))), (c, .inl (ε.2.2.1 0, 6, .inl (fun _ => nI 0))), (d, .inl (ε.2.2.1 0, 48, .inl (fun _ => nI 0)))]) := by
  refine ex_met (ls := [some (.inr (h, 99)), none]) okX0_init rfl rfl ?_
  unfold EX
  refine eg_step rfl rfl ?_
  refine eg_objInit rfl rfl rfl rfl ?_
  refine eg_step rfl rfl ?_
  refine eg_step rfl rfl ?_
  refine ga_newa 0 dX0_init_7 (by decide) ac_int rfl rfl rfl (fun a => ?_)
  refine ga_put 0 rfl rfl (by decide) rfl rfl rfl rfl rfl ?_
  refine eg_step rfl rfl ?_
  refine eg_step rfl rfl ?_
  refine ga_newa 1 dX0_init_15 (by decide) ac_boolean rfl rfl rfl (fun b => ?_)
  refine ga_put 0 rfl rfl (by decide) rfl rfl rfl rfl rfl ?_
  refine eg_step rfl rfl ?_
  refine eg_step rfl rfl ?_
  refine ga_newa 0 dX0_init_23 (by decide) ac_int rfl rfl rfl (fun c => ?_)
  refine ga_put 0 rfl rfl (by decide) rfl rfl rfl rfl rfl ?_
  refine eg_step rfl rfl ?_
  refine eg_step rfl rfl ?_
  refine ga_newa 0 dX0_init_31 (by decide) ac_int rfl rfl rfl (fun d => ?_)
  refine ga_put 0 rfl rfl (by decide) rfl rfl rfl rfl rfl ?_
  refine eg_step rfl rfl ?_
  refine eg_step rfl rfl ?_
  have hl : ∀ m i, i + m = 6 → EG ε jX0_init (fun _ s => XF ε fa s) (fun below args s => MQ below (e_Qc ε jX0_init (fun v ws' => v = none ∧ ∃ a b c d, ws' = w0 ++ [(h, .inr (0, [.ref a, .ref b, .ref c, .ref d])), (a, .inl (ε.2.2.1 0, 6, .inl (crI 6))), (b, .inl (ε.2.2.1 1, 6, .inl (fun _ => nI 0))), (c, .inl (ε.2.2.1 0, 6, .inl (fun _ => nI 0))), (d, .inl (ε.2.2.1 0, 48, .inl (fun _ => nI 0)))])) args s 4 66 (e_A ε)) 4 66 4 66 38 [some (.inr (h, 99)), some (.inl (nI i))] [] (w0 ++ [(h, .inr (0, [.ref a, .ref b, .ref c, .ref d])), (a, .inl (ε.2.2.1 0, 6, .inl (crI i))), (b, .inl (ε.2.2.1 1, 6, .inl (fun _ => nI 0))), (c, .inl (ε.2.2.1 0, 6, .inl (fun _ => nI 0))), (d, .inl (ε.2.2.1 0, 48, .inl (fun _ => nI 0)))]) := by
    intro m
    induction m with
    | zero =>
      intro i hi
      have : i = 6 := by omega
      subst this
      refine eg_step rfl rfl ?_
      refine eg_step rfl rfl ?_
      refine eg_if rfl rfl (fun _ => ?_) (fun z => absurd (Int32.le_refl _) z)
      exact ex_vret rfl rfl rfl rfl ⟨rfl, a, b, c, d, rfl⟩
    | succ m ih =>
      intro i hi
      refine eg_step rfl rfl ?_
      refine eg_step rfl rfl ?_
      refine eg_if rfl rfl (fun z => absurd (show nI 6 ≤ nI i from z) (nI_ge (by omega) (by omega))) (fun _ => ?_)
      refine eg_step rfl rfl ?_
      refine ga_get (w := .inr (a, 99)) 0 rfl rfl rfl ?_
      refine eg_step rfl rfl ?_
      refine eg_step rfl rfl ?_
      refine ga_iast (i := i) 1 rfl rfl rfl (by omega) (by decide) ?_
      refine eg_step rfl rfl ?_
      refine eg_step rfl rfl ?_
      rw [nI_add']
      exact ih (i + 1) (by omega)
  exact hl 6 0 rfl
theorem i_line (w0 : va_W) (h : Nat) : e_CtX ε jX3_init (XF ε fa) 1 120 [.inr (h, 99)] (w0 ++ [(h, .inr (3, dflV 3))]) (fun v ws' => v = none ∧ ∃ a, ws' = w0 ++ [(h, .inr (3, [.ref a, .int 0])), (a, .inl (ε.2.2.1 0, 120, .inl (fun _ => nI 0)))]) := by
  refine ex_met (ls := [some (.inr (h, 99))]) okX3_init rfl rfl ?_
  unfold EX
  refine eg_step rfl rfl ?_
  refine eg_objInit rfl rfl rfl rfl ?_
  refine eg_step rfl rfl ?_
  refine eg_step rfl rfl ?_
  refine ga_newa 0 dX3_init_7 (by decide) ac_int rfl rfl rfl (fun a => ?_)
  refine ga_put 0 rfl rfl (by decide) rfl rfl rfl rfl rfl ?_
  exact ex_vret rfl rfl rfl rfl ⟨rfl, a, rfl⟩
theorem i_text (w0 : va_W) (h : Nat) : e_CtX ε jX6_init (XF ε fa) 4 122 [.inr (h, 99)] (w0 ++ [(h, .inr (6, dflV 6))]) (fun v ws' => v = none ∧ ∃ a b c d, ws' = w0 ++ [(h, .inr (6, [.ref a, .int 0, .ref b, .ref c, .ref d, .int 0, .int 0, .int 0])), (a, .inl (ε.2.2.1 2, 80, .inl (fun _ => nI 0))), (b, .inl (ε.2.2.1 0, 14, .inl (fun _ => nI 0))), (c, .inl (ε.2.2.1 0, 14, .inl (fun _ => nI 0))), (d, .inl (ε.2.2.1 0, 14, .inl (fun _ => nI 0)))]) := by
  refine ex_met (ls := [some (.inr (h, 99))]) okX6_init rfl rfl ?_
  unfold EX
  refine eg_step rfl rfl ?_
  refine eg_objInit rfl rfl rfl rfl ?_
  refine eg_step rfl rfl ?_
  refine eg_step rfl rfl ?_
  refine ga_newa 2 dX6_init_7 (by decide) ac_char rfl rfl rfl (fun a => ?_)
  refine ga_put 0 rfl rfl (by decide) rfl rfl rfl rfl rfl ?_
  refine eg_step rfl rfl ?_
  refine eg_step rfl rfl ?_
  refine ga_newa 0 dX6_init_15 (by decide) ac_int rfl rfl rfl (fun b => ?_)
  refine ga_put 0 rfl rfl (by decide) rfl rfl rfl rfl rfl ?_
  refine eg_step rfl rfl ?_
  refine eg_step rfl rfl ?_
  refine ga_newa 0 dX6_init_23 (by decide) ac_int rfl rfl rfl (fun c => ?_)
  refine ga_put 0 rfl rfl (by decide) rfl rfl rfl rfl rfl ?_
  refine eg_step rfl rfl ?_
  refine eg_step rfl rfl ?_
  refine ga_newa 0 dX6_init_31 (by decide) ac_int rfl rfl rfl (fun d => ?_)
  refine ga_put 0 rfl rfl (by decide) rfl rfl rfl rfl rfl ?_
  exact ex_vret rfl rfl rfl rfl ⟨rfl, a, b, c, d, rfl⟩
end PA
