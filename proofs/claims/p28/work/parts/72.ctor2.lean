/-! Constructors: office, moment. -/
section PB
variable {ε : EE} {J : JT} {X : Array Value → State → Prop} {Z : List Frame → Array Value → State → State → Prop} {mc ms cells slots pc : Nat} {ls : List (Option V0)} {st : List V0} {ws w0 l : va_W} {Q : Option Int32 → va_W → Prop} {fa : Nat} {fcs : Nat → Int32}
/-- the same, but for the addresses of parts -/
def sa (ε : EE) (f : Nat → Nat → Nat) : EE := (ε.1, ε.2.1, ε.2.2.1, ε.2.2.2.1, f, [])
def hlI : Nat → Nat → Int32
  | 0 => fun _ => nI 0
  | i + 1 => upd (hlI i) i (nI 6)
/-- a new office -/
def O0 : VV := fun kk => match kk with
  | 0 => fun j => if j = 6 then nI 10 else if j = 7 then nI 8 else nI 0
  | 2 => rgI 8
  | 13 => crI 6
  | 17 => hlI 8
  | _ => fun _ => nI 0
def oW (ε : EE) (ad : Nat → Nat) : va_W := (List.range 18).map (fun k => (ad k, cellE (sa ε (fun _ => ad)) 0 k (O0 k)))
/-- new; dup; the constructor -/
theorem ga_ctor {J' : JT} {t idx idx2 nx nx0 a0 b0 tg0 mc' ms' : Nat} {v v0 : Int32} {R : Nat → va_W → Prop} (hC : ∀ h, e_CtX ε J' (XS ε fa fcs) mc' ms' [.inr (h, 99)] (ws ++ [(h, .inr (t, dflV t))]) (fun v ws' => v = none ∧ R h ws')) (hdg : decode (jb J) pc = .ok (.new idx, 3)) (ht : t < 9) (hcl : Cond.classLink (nmC (jc J)) idx (nmC t) ∈ Tg) (hinst : Cond.instantiable (nmC t) (nfC t) ∈ Tg) (hini : Cond.initialized (nmC t) ∈ Tg) (hcc0 : (Nat.ble (cells + 1) mc && Nat.ble (slots + nfC t) ms) = true) (hd : lk (jt J) (pc + 3) = (26, a0, b0, v0, nx0, tg0)) (h : lk (jt J) nx0 = (45, 0, jn J', v, nx, idx2)) (hT' : e_fit J J') (hr : jr J' = none) (hst : Nat.ble st.length 7 = true) (hcc : (Nat.ble (cells + 1 + mc') mc && Nat.ble (slots + nfC t + ms') ms) = true) (hXX : ∀ args s, X args s → XS ε fa fcs s)
    (k : ∀ q ws', R q ws' → EG ε J X Z mc ms (cells + 1 + mc') (slots + nfC t + ms') nx ls (.inr (q, 99) :: st) ws') : EG ε J X Z mc ms cells slots pc ls st ws := by
  refine eg_new hdg ht hcl hinst hini hcc0 (fun q => ?_)
  refine eg_step hd rfl ?_
  refine eg_callI (As := []) (rest := .inr (q, 99) :: st) (hC q) h hT' hr rfl rfl ?_ rfl hcc hXX (fun ws' z => k q ws' z.2)
  have := Nat.le_of_ble_eq_true hst
  exact Nat.ble_eq_true_of_le (by rw [List.length_cons]; omega)
theorem ga_puti {kf t nx idx a0 : Nat} {v x : Int32} {fs : List Value} (j : Nat) (h : lk (jt J) pc = (31, kf, t, v, nx, idx)) (hp : l[j]? = some (a0, .inr (t, fs))) (hfin : (tbC t kf).2.2.2 = false) (hty : tyC t kf = .int) (hl0 : Nat.ble (kf + 1) fs.length = true) (k : EG ε J X Z mc ms cells slots nx ls st (w0 ++ l.set j (a0, .inr (t, fs.set kf (.int x))))) : EG ε J X Z mc ms cells slots pc ls (.inl x :: .inr (a0, 99) :: st) (w0 ++ l) :=
  eg_put (q0 := w0.length + j) (w := .inl x) h rfl (by rw [at_app]; exact hp) hfin (by rw [hty]; rfl) (by rw [hty]; rfl) (Nat.le_of_ble_eq_true hl0) (by rw [set_app]; exact k)
set_option maxHeartbeats 2000000 in
theorem i_office (w0 : va_W) (h : Nat) : e_CtX ε jX5_init (XF ε fa) 17 1036 [.inr (h, 99)] (w0 ++ [(h, .inr (5, dflV 5))]) (fun v ws' => v = none ∧ ∃ ad : Nat → Nat, ad 0 = h ∧ ws' = w0 ++ oW ε ad) := by
  have hXX : ∀ (args : Array Value) s, (fun _ s => XF ε fa s) args s → XS ε fa (fun i => nI (fcN i)) s := fun _ _ z => z
  refine ex_met (ls := [some (.inr (h, 99)), none]) okX5_init rfl rfl ?_
  unfold EX
  refine eg_step rfl rfl ?_
  refine eg_objInit rfl rfl rfl rfl ?_
  refine eg_step rfl rfl ?_
  refine ga_ctor (t := 7) (i_ranges (w0 ++ [(h, .inr (5, dflV 5))])) dX5_init_5 (by decide) kl_5_9 in_7 it_7 rfl rfl rfl ⟨rfl, rfl, rfl⟩ rfl rfl rfl hXX (fun q1 ws1 z => ?_)
  obtain ⟨q2, rfl⟩ := z
  rw [List.append_assoc]
  refine ga_put 0 rfl rfl (by decide) rfl rfl rfl rfl rfl ?_
  refine eg_step rfl rfl ?_
  refine ga_ctor (t := 2) (i_letters _) dX5_init_16 (by decide) kl_5_18 in_2 it_2 rfl rfl rfl ⟨rfl, rfl, rfl⟩ rfl rfl rfl hXX (fun q3 ws1 z => ?_)
  obtain ⟨q4, q5, q6, q7, q8, q9, q10, q11, rfl⟩ := z
  rw [List.append_assoc]
  refine ga_put 0 rfl rfl (by decide) rfl rfl rfl rfl rfl ?_
  refine eg_step rfl rfl ?_
  refine ga_ctor (t := 0) (i_carriers _) dX5_init_27 (by decide) kl_5_25 in_0 it_0 rfl rfl rfl ⟨rfl, rfl, rfl⟩ rfl rfl rfl hXX (fun q12 ws1 z => ?_)
  obtain ⟨q13, q14, q15, q16, rfl⟩ := z
  rw [List.append_assoc]
  refine ga_put 0 rfl rfl (by decide) rfl rfl rfl rfl rfl ?_
  refine eg_step rfl rfl ?_
  refine eg_step rfl rfl ?_
  refine ga_newa 0 dX5_init_40 (by decide) ac_int rfl rfl rfl (fun q17 => ?_)
  refine ga_put 0 rfl rfl (by decide) rfl rfl rfl rfl rfl ?_
  refine eg_step rfl rfl ?_
  refine eg_step rfl rfl ?_
  refine ga_puti 0 rfl rfl rfl rfl rfl ?_
  refine eg_step rfl rfl ?_
  refine eg_step rfl rfl ?_
  refine ga_puti 0 rfl rfl rfl rfl rfl ?_
  refine eg_step rfl rfl ?_
  refine eg_step rfl rfl ?_
  refine ga_puti 0 rfl rfl rfl rfl rfl ?_
  refine eg_step rfl rfl ?_
  refine eg_step rfl rfl ?_
  have hl : ∀ m i, i + m = 8 → EG ε jX5_init (fun _ s => XF ε fa s) (fun below args s => MQ below (e_Qc ε jX5_init (fun v ws' => v = none ∧ ∃ ad : Nat → Nat, ad 0 = h ∧ ws' = w0 ++ oW ε ad)) args s 17 1036 (e_A ε)) 17 1036 17 1036 64 [some (.inr (h, 99)), some (.inl (nI i))] [] (w0 ++ [(h, .inr (5, [.ref q1, .ref q3, .ref q12, .ref q17, .int 0, .int (nI 0), .int (nI 10), .int (nI 8)])), (q1, .inr (7, [.ref q2])), (q2, .inl (ε.2.2.1 0, 100, .inl (rgI 8))), (q3, .inr (2, [.ref q4, .ref q5, .ref q6, .ref q7, .ref q8, .ref q9, .ref q10, .ref q11, .int 0])), (q4, .inl (ε.2.2.1 0, 120, .inl (fun _ => nI 0))), (q5, .inl (ε.2.2.1 0, 120, .inl (fun _ => nI 0))), (q6, .inl (ε.2.2.1 0, 120, .inl (fun _ => nI 0))), (q7, .inl (ε.2.2.1 0, 120, .inl (fun _ => nI 0))), (q8, .inl (ε.2.2.1 0, 120, .inl (fun _ => nI 0))), (q9, .inl (ε.2.2.1 0, 120, .inl (fun _ => nI 0))), (q10, .inl (ε.2.2.1 0, 120, .inl (fun _ => nI 0))), (q11, .inl (ε.2.2.1 0, 8, .inl (fun _ => nI 0))), (q12, .inr (0, [.ref q13, .ref q14, .ref q15, .ref q16])), (q13, .inl (ε.2.2.1 0, 6, .inl (crI 6))), (q14, .inl (ε.2.2.1 1, 6, .inl (fun _ => nI 0))), (q15, .inl (ε.2.2.1 0, 6, .inl (fun _ => nI 0))), (q16, .inl (ε.2.2.1 0, 48, .inl (fun _ => nI 0))), (q17, .inl (ε.2.2.1 0, 8, .inl (hlI i)))]) := by
    intro m
    induction m with
    | zero =>
      intro i hi
      have : i = 8 := by omega
      subst this
      refine eg_step rfl rfl ?_
      refine eg_step rfl rfl ?_
      refine eg_if rfl rfl (fun _ => ?_) (fun z => absurd (Int32.le_refl _) z)
      exact ex_vret rfl rfl rfl rfl ⟨rfl, (fun k => match k with | 0 => h | 1 => q1 | 2 => q2 | 3 => q3 | 4 => q4 | 5 => q5 | 6 => q6 | 7 => q7 | 8 => q8 | 9 => q9 | 10 => q10 | 11 => q11 | 12 => q12 | 13 => q13 | 14 => q14 | 15 => q15 | 16 => q16 | _ => q17), rfl, rfl⟩
    | succ m ih =>
      intro i hi
      refine eg_step rfl rfl ?_
      refine eg_step rfl rfl ?_
      refine eg_if rfl rfl (fun z => absurd (show nI 8 ≤ nI i from z) (nI_ge (by omega) (by omega))) (fun _ => ?_)
      refine eg_step rfl rfl ?_
      refine ga_get (w := .inr (q17, 99)) 0 rfl rfl rfl ?_
      refine eg_step rfl rfl ?_
      refine eg_step rfl rfl ?_
      refine ga_iast (i := i) 17 rfl rfl rfl (by omega) (by decide) ?_
      refine eg_step rfl rfl ?_
      refine eg_step rfl rfl ?_
      rw [nI_add']
      exact ih (i + 1) (by omega)
  exact hl 8 0 rfl
/-- another world that says the same of every heap -/
theorem eg_world {ws' : va_W} (hP : ∀ H, va_P ε.2.1 vwCl ws H → va_P ε.2.1 vwCl ws' H) (hD : va_D (e_A ε) ws → va_D (e_A ε) ws') (k : EG ε J X Z mc ms cells slots pc ls st ws') : EG ε J X Z mc ms cells slots pc ls st ws := by
  intro hT p e R s m args below meth c H locs lsA C XX h1 h2 hS hl
  exact k hT p e R s m args below meth c H locs lsA C XX (hP H h1) (hD h2) hS hl
/-- a row of references, otherwise behind its end -/
theorem eg_refs {j a n : Nat} {cA : ClassId} {f g : Nat → Option Nat} (hp : l[j]? = some (a, .inl (cA, n, .inr (.inr (.inr (.inr f)))))) (hfg : ∀ i, i < n → f i = g i) (k : EG ε J X Z mc ms cells slots pc ls st (w0 ++ l.set j (a, .inl (cA, n, .inr (.inr (.inr (.inr g))))))) : EG ε J X Z mc ms cells slots pc ls st (w0 ++ l) := by
  have hat : (w0 ++ l)[w0.length + j]? = some (a, .inl (cA, n, .inr (.inr (.inr (.inr f))))) := by rw [at_app]; exact hp
  have hlt : w0.length + j < (w0 ++ l).length := by
    rcases Nat.lt_or_ge (w0.length + j) (w0 ++ l).length with z | z
    · exact z
    · rw [List.getElem?_eq_none z] at hat
      cases hat
  have hcell : vp_cell cA (n, .inr (.inr (.inr (.inr f)))) = vp_cell cA (n, .inr (.inr (.inr (.inr g)))) := by
    rw [vp_cell_q, vp_cell_q]
    unfold arrV
    congr 1
    apply Array.ext
    · simp
    · intro i h1 h2
      simp at h1
      simp [hfg i h1]
  refine eg_world (ws' := w0 ++ l.set j (a, .inl (cA, n, .inr (.inr (.inr (.inr g)))))) (fun H hP => ?_) (fun hD => ?_) k
  · rw [← set_app]
    intro k q hq
    by_cases hk : w0.length + j = k
    · subst hk
      rw [List.getElem?_set_self hlt] at hq
      cases hq
      have := hP _ _ hat
      show H[a]? = some (vp_cell cA (n, .inr (.inr (.inr (.inr g)))))
      rw [← hcell]
      exact this
    · rw [List.getElem?_set_ne hk] at hq
      exact hP k q hq
  · rw [← set_app]
    exact hD.set hat
/-- a new moment: offices 0, 1, 2 -/
def mW (ε : EE) (B : Nat → Nat → Nat) : va_W := (B 0 20, .inr (4, [.ref (B 0 0), .ref (B 0 21), .ref (B 0 22)])) :: (oW ε (B 0) ++ ((B 0 21, .inl (ε.2.2.1 3, 2, .inr (.inr (.inr (.inr (fun s => some (B (s + 1) 0))))))) :: (B 0 22, .inl (ε.2.2.1 1, 2, .inl (fun _ => nI 0))) :: (oW ε (B 1) ++ oW ε (B 2))))
theorem ga_aast {o a b nx aq n i t0 qk ci aj : Nat} {v y : Int32} {cA : ClassId} {r : vw_C} {vs : List Value} {f : Nat → Option Nat} (j : Nat) (h : lk (jt J) pc = (39, a, b, v, nx, o)) (hy : y = nI i) (hp : l[j]? = some (aq, .inl (cA, n, .inr (.inr (.inr (.inr f)))))) (ht : (e_tys ε)[t0]? = some (cA, .object r.1)) (hv : l[qk]? = some (aj, .inr (ci, vs))) (hc : vwCl[ci]? = some r) (hj : i < n) (hn : n < 2 ^ 31) (k : EG ε J X Z mc ms cells slots nx ls st (w0 ++ l.set j (aq, .inl (cA, n, .inr (.inr (.inr (.inr (va_up f i (some aj))))))))) : EG ε J X Z mc ms cells slots pc ls (.inr (aj, 99) :: .inl y :: .inr (aq, 99) :: st) (w0 ++ l) := by
  subst hy
  exact eg_aast (q0 := w0.length + j) (qk := w0.length + qk) h rfl (by rw [at_app]; exact hp) ht rfl (by rw [at_app]; exact hv) hc hj hn (by rw [set_app]; exact k)
set_option maxHeartbeats 4000000 in
theorem i_moment (w0 : va_W) (h : Nat) : e_CtX ε jX4_init (XF ε fa) 56 3136 [.inr (h, 99)] (w0 ++ [(h, .inr (4, dflV 4))]) (fun v ws' => v = none ∧ ∃ B : Nat → Nat → Nat, B 0 20 = h ∧ ws' = w0 ++ mW ε B) := by
  have hXX : ∀ (args : Array Value) s, (fun _ s => XF ε fa s) args s → XS ε fa (fun i => nI (fcN i)) s := fun _ _ z => z
  refine ex_met (ls := [some (.inr (h, 99)), none]) okX4_init rfl rfl ?_
  unfold EX
  refine eg_step rfl rfl ?_
  refine eg_objInit rfl rfl rfl rfl ?_
  refine eg_step rfl rfl ?_
  refine ga_ctor (t := 5) (i_office (w0 ++ [(h, .inr (4, dflV 4))])) dX4_init_5 (by decide) kl_4_9 in_5 it_5 rfl rfl rfl ⟨rfl, rfl, rfl⟩ rfl rfl rfl hXX (fun c0 ws1 z => ?_)
  obtain ⟨a0, e0, rfl⟩ := z
  subst e0
  rw [List.append_assoc]
  refine ga_put 0 rfl rfl (by decide) rfl rfl rfl rfl rfl ?_
  refine eg_step rfl rfl ?_
  refine eg_step rfl rfl ?_
  refine eg_newq (kk := 3) dX4_init_17 rfl kl_4_9 (fun _ _ z => z.2.2.1) rfl rfl rfl (fun q21 => ?_)
  rw [List.append_assoc]
  refine ga_put 0 rfl rfl (by decide) rfl rfl rfl rfl rfl ?_
  refine eg_step rfl rfl ?_
  refine eg_step rfl rfl ?_
  refine ga_newa 1 dX4_init_25 (by decide) ac_boolean rfl rfl rfl (fun q22 => ?_)
  refine ga_put 0 rfl rfl (by decide) rfl rfl rfl rfl rfl ?_
  refine eg_step rfl rfl ?_
  refine eg_step rfl rfl ?_
  refine eg_step rfl rfl ?_
  refine eg_step rfl rfl ?_
  refine eg_if rfl rfl (fun z => absurd z (by decide)) (fun _ => ?_)
  refine eg_step rfl rfl ?_
  refine ga_get (w := .inr (q21, 99)) 0 rfl rfl rfl ?_
  refine eg_step rfl rfl ?_
  refine ga_ctor (t := 5) (i_office _) dX4_init_42 (by decide) kl_4_9 in_5 it_5 rfl rfl rfl ⟨rfl, rfl, rfl⟩ rfl rfl rfl hXX (fun c1 ws1 z => ?_)
  obtain ⟨a1, e1, rfl⟩ := z
  subst e1
  rw [List.append_assoc]
  refine ga_aast (t0 := 3) (i := 0) (qk := 21) (ci := 5) 19 rfl rfl rfl rfl rfl rfl (by decide) (by decide) ?_
  refine eg_step rfl rfl ?_
  refine eg_step rfl rfl ?_
  refine eg_step rfl rfl ?_
  refine eg_step rfl rfl ?_
  refine eg_if rfl rfl (fun z => absurd z (by decide)) (fun _ => ?_)
  refine eg_step rfl rfl ?_
  refine ga_get (w := .inr (q21, 99)) 0 rfl rfl rfl ?_
  refine eg_step rfl rfl ?_
  refine ga_ctor (t := 5) (i_office _) dX4_init_42 (by decide) kl_4_9 in_5 it_5 rfl rfl rfl ⟨rfl, rfl, rfl⟩ rfl rfl rfl hXX (fun c2 ws1 z => ?_)
  obtain ⟨a2, e2, rfl⟩ := z
  subst e2
  rw [List.append_assoc]
  refine ga_aast (t0 := 3) (i := 1) (qk := 39) (ci := 5) 19 rfl rfl rfl rfl rfl rfl (by decide) (by decide) ?_
  refine eg_step rfl rfl ?_
  refine eg_step rfl rfl ?_
  refine eg_step rfl rfl ?_
  refine eg_step rfl rfl ?_
  refine eg_if rfl rfl (fun _ => ?_) (fun z => absurd (by decide) z)
  refine eg_refs (j := 19) (g := fun s => some (match s + 1 with | 0 => a0 0 | 1 => a1 0 | _ => a2 0)) rfl (fun i hi => ?_) ?_
  · rcases (show i = 0 ∨ i = 1 by omega) with rfl | rfl <;> rfl
  · exact ex_vret rfl rfl rfl rfl ⟨rfl, (fun t k => match k with | 20 => h | 21 => q21 | 22 => q22 | _ => match t with | 0 => a0 k | 1 => a1 k | _ => a2 k), rfl, rfl⟩
end PB
