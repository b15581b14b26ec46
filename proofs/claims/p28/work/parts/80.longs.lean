/-! The rules once more: long numbers in locals and on the stack; the law's own body. -/
section MQ
variable {ε : EE} {J : JT} {X : Array Value → State → Prop} {Z : List Frame → Array Value → State → State → Prop} {mc ms cells slots pc : Nat} {lg lg' : List (Nat × Int64)} {lst : List Int64} {ls ls' : List (Option V0)} {st : List V0} {ws w0 l : va_W} {fa : Nat} {fcs : Nat → Int32} {lsA : Array Slot}
def e_TL (J : JT) : Prop := (jt J).all (fun q => okOp (jc J) (jm J) (jb J) q.1 q.2) = true ∧ (nmC (jc J) = (jy J).cls)
theorem e_T.tl (h : e_T J) : e_TL J := ⟨h.1, h.2.1⟩
theorem el_op {pc o a b : Nat} {v : Int32} {nx tg : Nat} (hT : e_TL J) (h : lk (jt J) pc = (o, a, b, v, nx, tg)) (h0 : o ≠ 0) : okOp (jc J) (jm J) (jb J) pc (o, a, b, v, nx, tg) = true := lk_ok (P := fun x y => okOp (jc J) (jm J) (jb J) x y) _ _ _ hT.1 h h0
theorem el_own {s : State} {m : MethodId} (hT : e_TL J) (h : s.vm.findClass (jy J).cls = some m.cls) : s.vm.findClass (nmC (jc J)) = some m.cls := by rw [hT.2]; exact h
theorem el_link_of {J' : JT} (hT : e_TL J) (hT' : mN (jn J') = (jy J', jb J', jm J', jr J')) {kind n idx : Nat} (h : (kind, jc J, idx, jn J', n) ∈ clT) : e_link J J' kind n idx := by
  have h1 := clT_ok _ h
  unfold ClOk at h1
  simp only [hT'] at h1
  rw [hT.2] at h1
  exact h1
def lgV (lg : List (Nat × Int64)) : List (Nat × Value) := lg.map (fun q => (q.1, Value.long q.2))
def loV (lst : List Int64) : List Value := lst.map Value.long
def e_LQ (ε : EE) (J : JT) (lg : List (Nat × Int64)) (ls : List (Option V0)) (lsA : Array Slot) : Prop := lv_has lsA (jm J) (e_ll ε 0 ls ++ lgV lg)
/-- a body whose locals hold numbers and cells (ls) and long numbers (lg), whose stack is st above long numbers lst -/
def EQ (ε : EE) (J : JT) (X : Array Value → State → Prop) (Z : List Frame → Array Value → State → State → Prop) (mc ms : Nat) (lg : List (Nat × Int64)) (lst : List Int64) (cells slots pc : Nat) (ls : List (Option V0)) (st : List V0) (ws : va_W) : Prop :=
  e_TL J → ∀ (p : Program) (e : Env) (R : Room) (s : State) (m : MethodId) (args : Array Value) (below : List Frame) (meth : Method) (c : Code) (H : Heap) (locs : List Loc) (lsA : Array Slot),
    e_C ε J mc ms p R s m args meth c → X args s → va_P ε.2.1 vwCl ws H → va_D (e_A ε) ws → va_S (e_A ε) s.heap H locs → e_LQ ε J lg ls lsA →
    W p ε.1 e R s m args below meth c H locs cells slots (Z below args s) (F0 m pc lsA (st.map (e_vm ε) ++ loV lst))
/-- no long number is touched -/
def qok (o a : Nat) (lg : List (Nat × Int64)) : Bool := bif Nat.beq o 4 || (Nat.beq o 5 || Nat.beq o 12) then lg.all (fun q => !(Nat.beq q.1 a) && !(Nat.beq (q.1 + 1) a)) else true
theorem q_load (hl : e_LQ ε J lg ls lsA) {a : Nat} {v : V0} (h : ls[a]? = some (some v)) : lsA[a]? = some (.val (e_vm ε v)) :=
  hl.2.2 (a, e_vm ε v) (List.mem_append_left _ ((e_ll_mem ε ls 0 _).2 ⟨a, v, by simp, h, rfl⟩))
theorem q_loadl (hl : e_LQ ε J lg ls lsA) {a : Nat} {v : Int64} (h : (a, v) ∈ lg) : lsA[a]? = some (.val (.long v)) :=
  hl.2.2 (a, .long v) (List.mem_append_right _ (List.mem_map.2 ⟨(a, v), h, rfl⟩))
theorem q_store {a : Nat} {v : V0} (hg : lg.all (fun q => !(Nat.beq q.1 a) && !(Nat.beq (q.1 + 1) a)) = true) (h : lv_has lsA (jm J) ((a, e_vm ε v) :: (e_ll ε 0 ls ++ lgV lg).filter (fun q => !(q.1 == a) && !(q.1 + 1 == a && q.2.category == 2)))) : e_LQ ε J lg (ls.set a (some v)) lsA := by
  rw [List.filter_append] at h
  have h1 : e_L ε J (ls.set a (some v)) lsA := e_store ⟨h.1, h.2.1, fun q hq => h.2.2 q (by
    rcases List.mem_cons.1 hq with z | z
    · exact List.mem_cons.2 (Or.inl z)
    · exact List.mem_cons.2 (Or.inr (List.mem_append_left _ z)))⟩
  refine ⟨h.1, h.2.1, fun q hq => ?_⟩
  rcases List.mem_append.1 hq with z | z
  · exact h1.2.2 q z
  · refine h.2.2 q (List.mem_cons.2 (Or.inr (List.mem_append_right _ (List.mem_filter.2 ⟨z, ?_⟩))))
    obtain ⟨x, hx, rfl⟩ := List.mem_map.1 z
    have h2 := List.all_eq_true.1 hg x hx
    simp only [Bool.and_eq_true, Bool.not_eq_true'] at h2
    have n1 := Nat.ne_of_beq_eq_false h2.1
    have n2 := Nat.ne_of_beq_eq_false h2.2
    simp [n1, n2]
theorem q_W8 {rest : List V0} (h : rest.length + 2 * lst.length ≤ 8) : ((rest.map (e_vm ε) ++ loV lst).map fun v => v.category).sum ≤ 8 := by
  have h1 : ∀ r : List V0, ((r.map (e_vm ε)).map fun v => v.category).sum = r.length := by
    intro r
    induction r with
    | nil => rfl
    | cons x t ih =>
      rw [List.map_cons, List.map_cons, List.sum_cons, ih, e_vm_cat, List.length_cons]
      omega
  have h2 : ∀ r : List Int64, ((loV r).map fun v => v.category).sum = 2 * r.length := by
    intro r
    induction r with
    | nil => rfl
    | cons x t ih =>
      show 2 + ((loV t).map fun v => v.category).sum = _
      rw [ih, List.length_cons]
      omega
  rw [List.map_append, List.sum_append, h1, h2]
  exact h
def e_CtL (ε : EE) (J : JT) (mc ms : Nat) (As : List V0) (ws : va_W) (Q : Int64 → va_W → Prop) : Prop := Met ε.1 (jy J) (e_ws J) (e_rm J mc ms) (e_Pc ε As ws) (va_Ql Q (fun u t => e_W ε u t) (e_A ε)) mc ms (e_A ε)
set_option maxHeartbeats 4000000 in
theorem q_step {o a b nx tg : Nat} {v : Int32} {ls' : List (Option V0)} {st' : List V0} (h : lk (jt J) pc = (o, a, b, v, nx, tg)) (hs : stp o a v ls st = some (ls', st')) (hg0 : qok o a lg = true) (k : EQ ε J X Z mc ms lg lst cells slots nx ls' st' ws) : EQ ε J X Z mc ms lg lst cells slots pc ls st ws := by
  intro hT p e R s m args below meth c H locs lsA C XX hP hD hS hl
  have h0 : o ≠ 0 := by
    intro z
    subst z
    cases hs
  have hok := el_op hT h h0
  have K := fun (lsB : Array Slot) (hl : e_LQ ε J lg ls' lsB) => k hT p e R s m args below meth c H locs lsB C XX hP hD hS hl
  obtain ⟨hx, hb, -⟩ := C
  unfold stp at hs
  split at hs
  · cases hs
    simp only [okOp, Bool.or_eq_true, Bool.and_eq_true, decide_eq_true_eq] at hok
    rcases hok with (hok | ⟨hok, hv⟩) | ⟨hok, hv⟩
    · obtain ⟨hd, rfl⟩ := okD_d hok
      exact lv_iconst hx hb hd (e_ofInt _) (K lsA hl)
    · obtain ⟨hd, rfl⟩ := okD_d hok
      exact lv_bipush hx hb hd hv (K lsA hl)
    · obtain ⟨hd, rfl⟩ := okD_d hok
      exact lv_sipush hx hb hd hv (K lsA hl)
  · split at hs
    · rename_i x hg
      cases hs
      simp only [okOp, Bool.or_eq_true, Bool.and_eq_true, decide_eq_true_eq] at hok
      rcases hok with hok | ⟨h4, hok⟩
      · obtain ⟨hd, rfl⟩ := okD_d hok
        exact lv_iload hx hb hd (q_load hl hg) (K lsA hl)
      · obtain ⟨hd, rfl⟩ := okD_d hok
        exact lv_iload_n hx hb hd (e_fin h4) (q_load hl hg) (K lsA hl)
    · cases hs
  · split at hs
    · rename_i i k1 hg
      cases hb98 : Nat.beq k1 98 with
      | true => rw [hb98] at hs; cases hs
      | false =>
        rw [hb98] at hs
        cases hs
        obtain ⟨ar, har⟩ := e_ptr (ε := ε) (i := i) hb98
        have hg2 := q_load hl hg
        rw [har] at hg2
        simp only [okOp, Bool.or_eq_true, Bool.and_eq_true, decide_eq_true_eq] at hok
        rcases hok with hok | ⟨h4, hok⟩
        · obtain ⟨hd, rfl⟩ := okD_d hok
          refine lv_aload hx hb hd hg2 ?_
          have KK := K lsA hl
          rw [List.map_cons, har] at KK
          exact KK
        · obtain ⟨hd, rfl⟩ := okD_d hok
          refine lv_aload_n hx hb hd (e_fin h4) hg2 ?_
          have KK := K lsA hl
          rw [List.map_cons, har] at KK
          exact KK
    · cases hs
  · split at hs
    · cases hs
      simp only [okOp, Bool.or_eq_true, Bool.and_eq_true, decide_eq_true_eq] at hok
      obtain ⟨hm, hok | ⟨h4, hok⟩⟩ := hok
      · obtain ⟨hd, rfl⟩ := okD_d hok
        exact lv_istore hx hb hd hl hm rfl (fun lsB hB => K lsB (q_store hg0 hB))
      · obtain ⟨hd, rfl⟩ := okD_d hok
        exact lv_istore_n hx hb hd (e_fin h4) hl hm rfl (fun lsB hB => K lsB (q_store hg0 hB))
    · cases hs
  · split at hs
    · rename_i i k1 t
      cases hb98 : Nat.beq k1 98 with
      | true => rw [hb98] at hs; cases hs
      | false =>
        rw [hb98] at hs
        cases hs
        obtain ⟨ar, har⟩ := e_ptr (ε := ε) (i := i) hb98
        simp only [okOp, Bool.or_eq_true, Bool.and_eq_true, decide_eq_true_eq] at hok
        obtain ⟨hm, hok⟩ := hok
        rw [List.map_cons, har]
        rcases hok with hok | ⟨h4, hok⟩
        · obtain ⟨hd, rfl⟩ := okD_d hok
          exact lv_astore hx hb hd hl hm rfl (fun lsB hB => K lsB (q_store hg0 (by rw [har]; exact hB)))
        · obtain ⟨hd, rfl⟩ := okD_d hok
          exact lv_astore_n hx hb hd (e_fin h4) hl hm rfl (fun lsB hB => K lsB (q_store hg0 (by rw [har]; exact hB)))
    · cases hs
  · split at hs
    · cases hs
      obtain ⟨hd, rfl⟩ := okD_d hok
      exact lv_iadd hx hb hd (K lsA hl)
    · cases hs
  · split at hs
    · cases hs
      obtain ⟨hd, rfl⟩ := okD_d hok
      exact lv_isub hx hb hd (K lsA hl)
    · cases hs
  · split at hs
    · cases hs
      obtain ⟨hd, rfl⟩ := okD_d hok
      exact lv_imul hx hb hd (K lsA hl)
    · cases hs
  · split at hs
    · cases hs
      obtain ⟨hd, rfl⟩ := okD_d hok
      exact lv_iand hx hb hd (K lsA hl)
    · cases hs
  · split at hs
    · cases hs
      obtain ⟨hd, rfl⟩ := okD_d hok
      exact lv_i2c hx hb hd rfl (K lsA hl)
    · cases hs
  · split at hs
    · rename_i x hg
      cases hs
      simp only [okOp, Bool.and_eq_true, decide_eq_true_eq] at hok
      obtain ⟨hm, hok⟩ := hok
      obtain ⟨hd, rfl⟩ := okD_d hok
      obtain ⟨j9, hj9⟩ := List.getElem?_of_mem (List.mem_append_left (lgV lg) ((e_ll_mem ε ls 0 (a, .int x)).2 ⟨a, .inl x, by simp, hg, rfl⟩))
      exact lv_iinc hx hb hd hl hj9 (by rw [e_ofInt]) hm rfl (fun lsB hB => K lsB (q_store hg0 hB))
    · cases hs
  · cases hs
    simp only [okOp, decide_eq_true_eq] at hok
    exact lv_goto hx hb hok (by omega) (K lsA hl)
  · split at hs
    · cases hs
      obtain ⟨hd, rfl⟩ := okD_d hok
      exact lv_dup hx hb hd (e_vm_cat ε _) (K lsA hl)
    · cases hs
  · split at hs
    · cases hs
      obtain ⟨hd, rfl⟩ := okD_d hok
      exact lv_dup2_11 hx hb hd (e_vm_cat ε _) (e_vm_cat ε _) (K lsA hl)
    · cases hs
  · split at hs
    · cases hs
      obtain ⟨hd, rfl⟩ := okD_d hok
      exact lv_pop hx hb hd (e_vm_cat ε _) (K lsA hl)
    · cases hs
  · split at hs
    · cases hs
      obtain ⟨hd, rfl⟩ := okD_d hok
      exact lv_ishr hx hb hd (K lsA hl)
    · cases hs
  · cases hs
set_option maxHeartbeats 4000000 in
theorem q_if {o a b nx tg : Nat} {v : Int32} {P : Prop} {st' : List V0} (h : lk (jt J) pc = (o, a, b, v, nx, tg)) (hs : cnd o st = some (P, st')) (kt : P → EQ ε J X Z mc ms lg lst cells slots tg ls st' ws) (kf : ¬ P → EQ ε J X Z mc ms lg lst cells slots nx ls st' ws) : EQ ε J X Z mc ms lg lst cells slots pc ls st ws := by
  intro hT p e R s m args below meth c H locs lsA C XX hP hD hS hl
  have h0 : o ≠ 0 := by
    intro z
    subst z
    cases hs
  have hok := el_op hT h h0
  have KT := fun z => kt z hT p e R s m args below meth c H locs lsA C XX hP hD hS hl
  have KF := fun z => kf z hT p e R s m args below meth c H locs lsA C XX hP hD hS hl
  obtain ⟨hx, hb, -⟩ := C
  have ht : (pc : Int) + ((tg : Int) - (pc : Int)) = (tg : Int) := by omega
  unfold cnd at hs
  split at hs
  · split at hs
    · cases hs
      obtain ⟨hd, rfl⟩ := okB_d hok
      exact lv_if_eq hx hb hd ht KT KF
    · cases hs
  · split at hs
    · cases hs
      obtain ⟨hd, rfl⟩ := okB_d hok
      exact lv_if_ne hx hb hd ht KT (fun z => KF (fun w => w z))
    · cases hs
  · split at hs
    · cases hs
      obtain ⟨hd, rfl⟩ := okB_d hok
      exact lv_if_lt hx hb hd ht KT KF
    · cases hs
  · split at hs
    · cases hs
      obtain ⟨hd, rfl⟩ := okB_d hok
      exact lv_if_ge hx hb hd ht KT KF
    · cases hs
  · split at hs
    · cases hs
      obtain ⟨hd, rfl⟩ := okB_d hok
      exact lv_if_gt hx hb hd ht KT KF
    · cases hs
  · split at hs
    · cases hs
      obtain ⟨hd, rfl⟩ := okB_d hok
      exact lv_if_le hx hb hd ht KT KF
    · cases hs
  · split at hs
    · cases hs
      obtain ⟨hd, rfl⟩ := okB_d hok
      exact lv_icmp_eq hx hb hd ht KT KF
    · cases hs
  · split at hs
    · cases hs
      obtain ⟨hd, rfl⟩ := okB_d hok
      exact lv_icmp_ne hx hb hd ht KT (fun z => KF (fun w => w z))
    · cases hs
  · split at hs
    · cases hs
      obtain ⟨hd, rfl⟩ := okB_d hok
      exact lv_icmp_lt hx hb hd ht KT KF
    · cases hs
  · split at hs
    · cases hs
      obtain ⟨hd, rfl⟩ := okB_d hok
      exact lv_icmp_ge hx hb hd ht KT KF
    · cases hs
  · split at hs
    · cases hs
      obtain ⟨hd, rfl⟩ := okB_d hok
      exact lv_icmp_gt hx hb hd ht KT KF
    · cases hs
  · split at hs
    · cases hs
      obtain ⟨hd, rfl⟩ := okB_d hok
      exact lv_icmp_le hx hb hd ht KT KF
    · cases hs
  · cases hs
theorem qq_rem {a b nx tg : Nat} {v x y : Int32} {t : List V0} (h : lk (jt J) pc = (29, a, b, v, nx, tg)) (hy : ¬ y = 0) (k : EQ ε J X Z mc ms lg lst cells slots nx ls (.inl (x - x / y * y) :: t) ws) : EQ ε J X Z mc ms lg lst cells slots pc ls (.inl y :: .inl x :: t) ws := by
  intro hT p e R s m args below meth c H locs lsA C XX hP hD hS hl
  have hok := el_op hT h (by decide)
  have K := k hT p e R s m args below meth c H locs lsA C XX hP hD hS hl
  obtain ⟨hx, hb, -⟩ := C
  obtain ⟨hd, rfl⟩ := okD_d hok
  exact lv_irem hx hb hd hy K
set_option maxHeartbeats 4000000 in
/-- invokevirtual, an answer that is a number -/
theorem q_callVi {J' : JT} {n idx nx a0 q0 ci mc' ms' : Nat} {v : Int32} {As rest : List V0} {pp : Nat × Nat} {fs : List Value} {Qc : Option Int32 → va_W → Prop} {ty : FieldType} (h : lk (jt J) pc = (44, n, jn J', v, nx, idx)) (hT' : mN (jn J') = (jy J', jb J', jm J', jr J')) (hr : jr J' = some ty) (hrm : jf J' + 1 ≤ jf J ∧ 8 + (jm J' + 11) + jo J' ≤ jo J) (hn : As.length = n) (hst : st = As.reverse ++ .inr pp :: rest) (hrest : Nat.ble (rest.length + 2 * lst.length) 8 = true) (hpt : e_vm ε (.inr pp) = .ref a0) (hp : ws[q0]? = some (a0, .inr (ci, fs))) (hci : ci < 9) (hcn : nmC ci = (jy J').cls) (hC : e_Ct ε J' mc' ms' (.inr pp :: As) ws Qc) (hcc : cells + mc' ≤ mc ∧ slots + ms' ≤ ms)
    (k : ∀ r ws', Qc (some r) ws' → EQ ε J X Z mc ms lg lst (cells + mc') (slots + ms') nx ls (.inl r :: rest) ws') : EQ ε J X Z mc ms lg lst cells slots pc ls st ws := by
  intro hT p e R s m args below meth c H locs lsA C XX hP hD hS hl
  have hok := el_op hT h (by decide)
  have K := fun r ws' z H locs hP hD hS => k r ws' z hT p e R s m args below meth c H locs lsA C XX hP hD hS hl
  obtain ⟨hx, hb, hrt, hml, hown, hts, hlk, hK, hB0, hR, hnm⟩ := C
  simp only [okOp, Bool.and_eq_true, decide_eq_true_eq] at hok
  obtain ⟨hok, hmem⟩ := hok
  obtain ⟨hd, rfl⟩ := okD_d hok
  obtain ⟨hlink, hcode, hini, hcl, -, hinst, hsel, -⟩ := el_link_of hT hT' hmem
  have hinst := hinst (by decide)
  have hsel := hsel rfl
  have hM : Met ε.1 (jy J') (e_ws J') (e_rm J' mc' ms') (e_Pc ε (.inr pp :: As) ws) (va_Qi (fun r u => Qc (some r) u) (fun u t => e_W ε u t) (e_A ε)) mc' ms' (e_A ε) := by
    have := hC
    unfold e_Ct at this
    rw [e_Qc_some hr] at this
    exact this
  have hrecv := va_recv hK.1 hP (vw_at hci).1 hp
  have hPre : PreV s H (jy J').cls a0 (e_Pc ε (.inr pp :: As) ws) (As.map (e_vm ε)) := by
    refine ⟨e_blind, ?_, fun U hU hW => ⟨?_, ?_, e_K.moved hW hK, ?_, hD⟩⟩
    · rw [← hcn]; exact hrecv
    · rw [List.map_cons, hpt]
    · rw [hU]; exact Nat.le_trans hB0 hS.1
    · rw [hU]; exact hP
  have hsz : (F0 m pc lsA (st.map (e_vm ε) ++ loV lst)).locals.size = jm J := hl.1
  have hstk : (F0 m pc lsA (st.map (e_vm ε) ++ loV lst)).stack = (As.map (e_vm ε)).reverse ++ .ref a0 :: (rest.map (e_vm ε) ++ loV lst) := by
    show st.map (e_vm ε) ++ loV lst = _
    rw [hst, List.map_append, List.map_cons, hpt, List.map_reverse, List.append_assoc, List.cons_append]
  have hW8 : 2 * (F0 m pc lsA (st.map (e_vm ε) ++ loV lst)).monitorRoom + (((rest.map (e_vm ε) ++ loV lst)).map fun v => v.category).sum ≤ 8 := by
    exact lv_room (q_W8 (Nat.le_of_ble_eq_true hrest))
  have hcells : cells + mc' ≤ R.cells ∧ slots + ms' ≤ R.slots := by rw [hR]; exact hcc
  have hRm : (e_rm J' mc' ms').frames + 1 ≤ R.frames ∧ 8 + (jm J' + 11) + (e_rm J' mc' ms').locals ≤ R.locals := by rw [hR]; exact hrm
  have hlen : (As.map (e_vm ε)).length = n := by rw [List.length_map]; exact hn
  have S : CallFix p m c (jb J) (jm J) s args Tg (jy J).cls := ⟨hx, hb, hml, hown, hts⟩
  have fin : va_Run p ε.1 e R s m args below meth c H locs cells slots mc' ms' (F0 m pc lsA (st.map (e_vm ε) ++ loV lst)) (rest.map (e_vm ε) ++ loV lst) (va_Qi (fun r u => Qc (some r) u) (fun u t => e_W ε u t) (e_A ε) (Value.ref a0 :: As.map (e_vm ε)).toArray) (e_A ε) := by
    rcases hlink with hlink | ⟨host, hlink⟩
    · exact va_runV (As := As.map (e_vm ε)) (rest := (rest.map (e_vm ε) ++ loV lst)) S hM ⟨callB_of (ws' := Tg) n hts (e_good hcode) rfl rfl rfl (hts _ hini) (hts _ hlink) hcl hRm, hts _ hinst, hts _ hsel⟩ hPre rfl hlen hsz hstk hW8 hd hcells
    · exact va_runVN (As := As.map (e_vm ε)) (rest := (rest.map (e_vm ε) ++ loV lst)) S hM ⟨va_cnB (ws' := Tg) n hts (e_good hcode) rfl rfl rfl (hK.2 _ hlink) (hts _ hini) hcl hRm, hts _ hinst, hts _ hsel⟩ hPre rfl hlen hsz hstk hW8 hd hcells
  refine va_calli fin hS (fun q _ h => h) (fun q h => h) (fun r u t H1 locs1 ht hvm hw hB hz1 hk1 hS1 => ?_)
  obtain ⟨hP1, hD1⟩ := hB
  rw [ht] at hP1
  exact K r u hw H1 locs1 hP1 hD1 hS1
set_option maxHeartbeats 4000000 in
/-- invokestatic, an answer that is a number -/
theorem q_callSi {J' : JT} {n idx nx mc' ms' : Nat} {v : Int32} {As rest : List V0} {Qc : Option Int32 → va_W → Prop} {ty : FieldType} (h : lk (jt J) pc = (46, n, jn J', v, nx, idx)) (hT' : mN (jn J') = (jy J', jb J', jm J', jr J')) (hr : jr J' = some ty) (hrm : jf J' + 1 ≤ jf J ∧ 8 + (jm J' + 11) + jo J' ≤ jo J) (hn : As.length = n) (hst : st = As.reverse ++ rest) (hrest : Nat.ble (rest.length + 2 * lst.length) 8 = true) (hC : e_Ct ε J' mc' ms' As ws Qc) (hcc : cells + mc' ≤ mc ∧ slots + ms' ≤ ms)
    (k : ∀ r ws', Qc (some r) ws' → EQ ε J X Z mc ms lg lst (cells + mc') (slots + ms') nx ls (.inl r :: rest) ws') : EQ ε J X Z mc ms lg lst cells slots pc ls st ws := by
  intro hT p e R s m args below meth c H locs lsA C XX hP hD hS hl
  have hok := el_op hT h (by decide)
  have K := fun r ws' z H locs hP hD hS => k r ws' z hT p e R s m args below meth c H locs lsA C XX hP hD hS hl
  obtain ⟨hx, hb, hrt, hml, hown, hts, hlk, hK, hB0, hR, hnm⟩ := C
  simp only [okOp, Bool.and_eq_true, decide_eq_true_eq] at hok
  obtain ⟨hok, hmem⟩ := hok
  obtain ⟨hd, rfl⟩ := okD_d hok
  obtain ⟨hlink, hcode, hini, hcl, hstat, -, -, -⟩ := el_link_of hT hT' hmem
  have hstat := hstat rfl
  have hM : Met ε.1 (jy J') (e_ws J') (e_rm J' mc' ms') (e_Pc ε As ws) (va_Qi (fun r u => Qc (some r) u) (fun u t => e_W ε u t) (e_A ε)) mc' ms' (e_A ε) := by
    have := hC
    unfold e_Ct at this
    rw [e_Qc_some hr] at this
    exact this
  have hPre : PreS s H (e_Pc ε As ws) (As.map (e_vm ε)) := by
    refine ⟨e_blind, fun U hU hW => ⟨rfl, ?_, e_K.moved hW hK, ?_, hD⟩⟩
    · rw [hU]; exact Nat.le_trans hB0 hS.1
    · rw [hU]; exact hP
  have hsz : (F0 m pc lsA (st.map (e_vm ε) ++ loV lst)).locals.size = jm J := hl.1
  have hstk : (F0 m pc lsA (st.map (e_vm ε) ++ loV lst)).stack = (As.map (e_vm ε)).reverse ++ (rest.map (e_vm ε) ++ loV lst) := by
    show st.map (e_vm ε) ++ loV lst = _
    rw [hst, List.map_append, List.map_reverse, List.append_assoc]
  have hW8 : 2 * (F0 m pc lsA (st.map (e_vm ε) ++ loV lst)).monitorRoom + (((rest.map (e_vm ε) ++ loV lst)).map fun v => v.category).sum ≤ 8 := by
    exact lv_room (q_W8 (Nat.le_of_ble_eq_true hrest))
  have hcells : cells + mc' ≤ R.cells ∧ slots + ms' ≤ R.slots := by rw [hR]; exact hcc
  have hRm : (e_rm J' mc' ms').frames + 1 ≤ R.frames ∧ 8 + (jm J' + 11) + (e_rm J' mc' ms').locals ≤ R.locals := by rw [hR]; exact hrm
  have hlen : (As.map (e_vm ε)).length = n := by rw [List.length_map]; exact hn
  have S : CallFix p m c (jb J) (jm J) s args Tg (jy J).cls := ⟨hx, hb, hml, hown, hts⟩
  have fin : va_Run p ε.1 e R s m args below meth c H locs cells slots mc' ms' (F0 m pc lsA (st.map (e_vm ε) ++ loV lst)) (rest.map (e_vm ε) ++ loV lst) (va_Qi (fun r u => Qc (some r) u) (fun u t => e_W ε u t) (e_A ε) (As.map (e_vm ε)).toArray) (e_A ε) := by
    rcases hlink with hlink | ⟨host, hlink⟩
    · exact va_runS (As := As.map (e_vm ε)) (rest := (rest.map (e_vm ε) ++ loV lst)) S hM ⟨callB_of (ws' := Tg) n hts (e_good hcode) rfl rfl rfl (hts _ hini) (hts _ hlink) hcl hRm, hts _ hstat⟩ hPre rfl hlen hsz hstk hW8 hd hcells
    · exact va_runSN (As := As.map (e_vm ε)) (rest := (rest.map (e_vm ε) ++ loV lst)) S hM ⟨va_cnB (ws' := Tg) n hts (e_good hcode) rfl rfl rfl (hK.2 _ hlink) (hts _ hini) hcl hRm, hts _ hstat, trivial⟩ hPre rfl hlen hsz hstk hW8 hd hcells
  refine va_calli fin hS (fun q _ h => h) (fun q h => h) (fun r u t H1 locs1 ht hvm hw hB hz1 hk1 hS1 => ?_)
  obtain ⟨hP1, hD1⟩ := hB
  rw [ht] at hP1
  exact K r u hw H1 locs1 hP1 hD1 hS1
set_option maxHeartbeats 4000000 in
/-- invokestatic, an answer that is a number -/
theorem q_callSX {J' : JT} {n idx nx mc' ms' : Nat} {v : Int32} {As rest : List V0} {Qc : Option Int32 → va_W → Prop} {ty : FieldType} (h : lk (jt J) pc = (46, n, jn J', v, nx, idx)) (hT' : mN (jn J') = (jy J', jb J', jm J', jr J')) (hr : jr J' = some ty) (hrm : jf J' + 1 ≤ jf J ∧ 8 + (jm J' + 11) + jo J' ≤ jo J) (hn : As.length = n) (hst : st = As.reverse ++ rest) (hrest : Nat.ble (rest.length + 2 * lst.length) 8 = true) {Y : State → Prop} (hYb : FrameBlind (e_PcX ε Y As ws)) (hYm : ∀ args s H locs U, X args s → U.heap = H → s.WarmedH U.vm → va_S (e_A ε) s.heap H locs → Y U) (hC : e_CtX ε J' Y mc' ms' As ws Qc) (hcc : cells + mc' ≤ mc ∧ slots + ms' ≤ ms)
    (k : ∀ r ws', Qc (some r) ws' → EQ ε J X Z mc ms lg lst (cells + mc') (slots + ms') nx ls (.inl r :: rest) ws') : EQ ε J X Z mc ms lg lst cells slots pc ls st ws := by
  intro hT p e R s m args below meth c H locs lsA C XX hP hD hS hl
  have hok := el_op hT h (by decide)
  have K := fun r ws' z H locs hP hD hS => k r ws' z hT p e R s m args below meth c H locs lsA C XX hP hD hS hl
  obtain ⟨hx, hb, hrt, hml, hown, hts, hlk, hK, hB0, hR, hnm⟩ := C
  simp only [okOp, Bool.and_eq_true, decide_eq_true_eq] at hok
  obtain ⟨hok, hmem⟩ := hok
  obtain ⟨hd, rfl⟩ := okD_d hok
  obtain ⟨hlink, hcode, hini, hcl, hstat, -, -, -⟩ := el_link_of hT hT' hmem
  have hstat := hstat rfl
  have hM : Met ε.1 (jy J') (e_ws J') (e_rm J' mc' ms') (e_PcX ε Y As ws) (va_Qi (fun r u => Qc (some r) u) (fun u t => e_W ε u t) (e_A ε)) mc' ms' (e_A ε) := by
    have := hC
    unfold e_CtX at this
    rw [e_Qc_some hr] at this
    exact this
  have hPre : PreS s H (e_PcX ε Y As ws) (As.map (e_vm ε)) := by
    refine ⟨hYb, fun U hU hW => ⟨rfl, ?_, e_K.moved hW hK, hYm _ _ _ _ _ XX hU hW hS, ?_, hD⟩⟩
    · rw [hU]; exact Nat.le_trans hB0 hS.1
    · rw [hU]; exact hP
  have hsz : (F0 m pc lsA (st.map (e_vm ε) ++ loV lst)).locals.size = jm J := hl.1
  have hstk : (F0 m pc lsA (st.map (e_vm ε) ++ loV lst)).stack = (As.map (e_vm ε)).reverse ++ (rest.map (e_vm ε) ++ loV lst) := by
    show st.map (e_vm ε) ++ loV lst = _
    rw [hst, List.map_append, List.map_reverse, List.append_assoc]
  have hW8 : 2 * (F0 m pc lsA (st.map (e_vm ε) ++ loV lst)).monitorRoom + (((rest.map (e_vm ε) ++ loV lst)).map fun v => v.category).sum ≤ 8 := by
    exact lv_room (q_W8 (Nat.le_of_ble_eq_true hrest))
  have hcells : cells + mc' ≤ R.cells ∧ slots + ms' ≤ R.slots := by rw [hR]; exact hcc
  have hRm : (e_rm J' mc' ms').frames + 1 ≤ R.frames ∧ 8 + (jm J' + 11) + (e_rm J' mc' ms').locals ≤ R.locals := by rw [hR]; exact hrm
  have hlen : (As.map (e_vm ε)).length = n := by rw [List.length_map]; exact hn
  have S : CallFix p m c (jb J) (jm J) s args Tg (jy J).cls := ⟨hx, hb, hml, hown, hts⟩
  have fin : va_Run p ε.1 e R s m args below meth c H locs cells slots mc' ms' (F0 m pc lsA (st.map (e_vm ε) ++ loV lst)) (rest.map (e_vm ε) ++ loV lst) (va_Qi (fun r u => Qc (some r) u) (fun u t => e_W ε u t) (e_A ε) (As.map (e_vm ε)).toArray) (e_A ε) := by
    rcases hlink with hlink | ⟨host, hlink⟩
    · exact va_runS (As := As.map (e_vm ε)) (rest := (rest.map (e_vm ε) ++ loV lst)) S hM ⟨callB_of (ws' := Tg) n hts (e_good hcode) rfl rfl rfl (hts _ hini) (hts _ hlink) hcl hRm, hts _ hstat⟩ hPre rfl hlen hsz hstk hW8 hd hcells
    · exact va_runSN (As := As.map (e_vm ε)) (rest := (rest.map (e_vm ε) ++ loV lst)) S hM ⟨va_cnB (ws' := Tg) n hts (e_good hcode) rfl rfl rfl (hK.2 _ hlink) (hts _ hini) hcl hRm, hts _ hstat, trivial⟩ hPre rfl hlen hsz hstk hW8 hd hcells
  refine va_calli fin hS (fun q _ h => h) (fun q h => h) (fun r u t H1 locs1 ht hvm hw hB hz1 hk1 hS1 => ?_)
  obtain ⟨hP1, hD1⟩ := hB
  rw [ht] at hP1
  exact K r u hw H1 locs1 hP1 hD1 hS1
set_option maxHeartbeats 4000000 in
/-- invokestatic, an answer that is a number -/
theorem q_callSl {J' : JT} {n idx nx mc' ms' : Nat} {v : Int32} {As rest : List V0} {Ql : Int64 → va_W → Prop}  (h : lk (jt J) pc = (46, n, jn J', v, nx, idx)) (hT' : mN (jn J') = (jy J', jb J', jm J', jr J')) (hr : jr J' = some .long) (hrm : jf J' + 1 ≤ jf J ∧ 8 + (jm J' + 11) + jo J' ≤ jo J) (hn : As.length = n) (hst : st = As.reverse ++ rest) (h00 : rest = []) (hrest : Nat.ble (rest.length + 2 * lst.length) 8 = true) (hC : e_CtL ε J' mc' ms' As ws Ql) (hcc : cells + mc' ≤ mc ∧ slots + ms' ≤ ms)
    (k : ∀ r ws', Ql r ws' → EQ ε J X Z mc ms lg (r :: lst) (cells + mc') (slots + ms') nx ls [] ws') : EQ ε J X Z mc ms lg lst cells slots pc ls st ws := by
  intro hT p e R s m args below meth c H locs lsA C XX hP hD hS hl
  have hok := el_op hT h (by decide)
  have K := fun r ws' z H locs hP hD hS => k r ws' z hT p e R s m args below meth c H locs lsA C XX hP hD hS hl
  obtain ⟨hx, hb, hrt, hml, hown, hts, hlk, hK, hB0, hR, hnm⟩ := C
  simp only [okOp, Bool.and_eq_true, decide_eq_true_eq] at hok
  obtain ⟨hok, hmem⟩ := hok
  obtain ⟨hd, rfl⟩ := okD_d hok
  obtain ⟨hlink, hcode, hini, hcl, hstat, -, -, -⟩ := el_link_of hT hT' hmem
  have hstat := hstat rfl
  have hM : Met ε.1 (jy J') (e_ws J') (e_rm J' mc' ms') (e_Pc ε As ws) (va_Ql Ql (fun u t => e_W ε u t) (e_A ε)) mc' ms' (e_A ε) := by
    exact hC
  have hPre : PreS s H (e_Pc ε As ws) (As.map (e_vm ε)) := by
    refine ⟨e_blind, fun U hU hW => ⟨rfl, ?_, e_K.moved hW hK, ?_, hD⟩⟩
    · rw [hU]; exact Nat.le_trans hB0 hS.1
    · rw [hU]; exact hP
  have hsz : (F0 m pc lsA (st.map (e_vm ε) ++ loV lst)).locals.size = jm J := hl.1
  have hstk : (F0 m pc lsA (st.map (e_vm ε) ++ loV lst)).stack = (As.map (e_vm ε)).reverse ++ (rest.map (e_vm ε) ++ loV lst) := by
    show st.map (e_vm ε) ++ loV lst = _
    rw [hst, List.map_append, List.map_reverse, List.append_assoc]
  have hW8 : 2 * (F0 m pc lsA (st.map (e_vm ε) ++ loV lst)).monitorRoom + (((rest.map (e_vm ε) ++ loV lst)).map fun v => v.category).sum ≤ 8 := by
    exact lv_room (q_W8 (Nat.le_of_ble_eq_true hrest))
  have hcells : cells + mc' ≤ R.cells ∧ slots + ms' ≤ R.slots := by rw [hR]; exact hcc
  have hRm : (e_rm J' mc' ms').frames + 1 ≤ R.frames ∧ 8 + (jm J' + 11) + (e_rm J' mc' ms').locals ≤ R.locals := by rw [hR]; exact hrm
  have hlen : (As.map (e_vm ε)).length = n := by rw [List.length_map]; exact hn
  have S : CallFix p m c (jb J) (jm J) s args Tg (jy J).cls := ⟨hx, hb, hml, hown, hts⟩
  have fin : va_Run p ε.1 e R s m args below meth c H locs cells slots mc' ms' (F0 m pc lsA (st.map (e_vm ε) ++ loV lst)) (rest.map (e_vm ε) ++ loV lst) (va_Ql Ql (fun u t => e_W ε u t) (e_A ε) (As.map (e_vm ε)).toArray) (e_A ε) := by
    rcases hlink with hlink | ⟨host, hlink⟩
    · exact va_runS (As := As.map (e_vm ε)) (rest := (rest.map (e_vm ε) ++ loV lst)) S hM ⟨callB_of (ws' := Tg) n hts (e_good hcode) rfl rfl rfl (hts _ hini) (hts _ hlink) hcl hRm, hts _ hstat⟩ hPre rfl hlen hsz hstk hW8 hd hcells
    · exact va_runSN (As := As.map (e_vm ε)) (rest := (rest.map (e_vm ε) ++ loV lst)) S hM ⟨va_cnB (ws' := Tg) n hts (e_good hcode) rfl rfl rfl (hK.2 _ hlink) (hts _ hini) hcl hRm, hts _ hstat, trivial⟩ hPre rfl hlen hsz hstk hW8 hd hcells
  refine va_calll fin hS (fun q _ h => h) (fun q h => h) (fun r u t H1 locs1 ht hvm hw hB hz1 hk1 hS1 => ?_)
  obtain ⟨hP1, hD1⟩ := hB
  rw [ht] at hP1
  subst h00
  exact K r u hw H1 locs1 hP1 hD1 hS1
def EL (ε : EE) (J : JT) (X : Array Value → State → Prop) (Z : List Frame → Array Value → State → State → Prop) (mc ms cells slots pc : Nat) (ls : List (Option V0)) (st : List V0) (ws : va_W) : Prop :=
  e_TL J → ∀ (p : Program) (e : Env) (R : Room) (s : State) (m : MethodId) (args : Array Value) (below : List Frame) (meth : Method) (c : Code) (H : Heap) (locs : List Loc) (lsA : Array Slot),
    e_C ε J mc ms p R s m args meth c → X args s → va_P ε.2.1 vwCl ws H → va_D (e_A ε) ws → va_S (e_A ε) s.heap H locs → e_L ε J ls lsA →
    W p ε.1 e R s m args below meth c H locs cells slots (Z below args s) (F0 m pc lsA (st.map (e_vm ε)))
theorem el_of_q (k : EQ ε J X Z mc ms [] [] cells slots pc ls st ws) : EL ε J X Z mc ms cells slots pc ls st ws := by
  intro hT p e R s m args below meth c H locs lsA C XX hP hD hS hl
  have h := k hT p e R s m args below meth c H locs lsA C XX hP hD hS (by
    unfold e_LQ
    rw [show lgV [] = [] from rfl, List.append_nil]
    exact hl)
  rw [show loV [] = [] from rfl, List.append_nil] at h
  exact h
set_option maxHeartbeats 4000000 in
theorem el_step {o a b nx tg : Nat} {v : Int32} {ls' : List (Option V0)} {st' : List V0} (h : lk (jt J) pc = (o, a, b, v, nx, tg)) (hs : stp o a v ls st = some (ls', st')) (k : EL ε J X Z mc ms cells slots nx ls' st' ws) : EL ε J X Z mc ms cells slots pc ls st ws := by
  intro hT p e R s m args below meth c H locs lsA C XX hP hD hS hl
  have h0 : o ≠ 0 := by
    intro z
    subst z
    cases hs
  have hok := el_op hT h h0
  have K := fun (lsB : Array Slot) (hl : e_L ε J ls' lsB) => k hT p e R s m args below meth c H locs lsB C XX hP hD hS hl
  obtain ⟨hx, hb, -⟩ := C
  unfold stp at hs
  split at hs
  · cases hs
    simp only [okOp, Bool.or_eq_true, Bool.and_eq_true, decide_eq_true_eq] at hok
    rcases hok with (hok | ⟨hok, hv⟩) | ⟨hok, hv⟩
    · obtain ⟨hd, rfl⟩ := okD_d hok
      exact lv_iconst hx hb hd (e_ofInt _) (K lsA hl)
    · obtain ⟨hd, rfl⟩ := okD_d hok
      exact lv_bipush hx hb hd hv (K lsA hl)
    · obtain ⟨hd, rfl⟩ := okD_d hok
      exact lv_sipush hx hb hd hv (K lsA hl)
  · split at hs
    · rename_i x hg
      cases hs
      simp only [okOp, Bool.or_eq_true, Bool.and_eq_true, decide_eq_true_eq] at hok
      rcases hok with hok | ⟨h4, hok⟩
      · obtain ⟨hd, rfl⟩ := okD_d hok
        exact lv_iload hx hb hd (e_load hl hg) (K lsA hl)
      · obtain ⟨hd, rfl⟩ := okD_d hok
        exact lv_iload_n hx hb hd (e_fin h4) (e_load hl hg) (K lsA hl)
    · cases hs
  · split at hs
    · rename_i i k1 hg
      cases hb98 : Nat.beq k1 98 with
      | true => rw [hb98] at hs; cases hs
      | false =>
        rw [hb98] at hs
        cases hs
        obtain ⟨ar, har⟩ := e_ptr (ε := ε) (i := i) hb98
        have hg2 := e_load hl hg
        rw [har] at hg2
        simp only [okOp, Bool.or_eq_true, Bool.and_eq_true, decide_eq_true_eq] at hok
        rcases hok with hok | ⟨h4, hok⟩
        · obtain ⟨hd, rfl⟩ := okD_d hok
          refine lv_aload hx hb hd hg2 ?_
          have KK := K lsA hl
          rw [List.map_cons, har] at KK
          exact KK
        · obtain ⟨hd, rfl⟩ := okD_d hok
          refine lv_aload_n hx hb hd (e_fin h4) hg2 ?_
          have KK := K lsA hl
          rw [List.map_cons, har] at KK
          exact KK
    · cases hs
  · split at hs
    · cases hs
      simp only [okOp, Bool.or_eq_true, Bool.and_eq_true, decide_eq_true_eq] at hok
      obtain ⟨hm, hok | ⟨h4, hok⟩⟩ := hok
      · obtain ⟨hd, rfl⟩ := okD_d hok
        exact lv_istore hx hb hd hl hm rfl (fun lsB hB => K lsB (e_store hB))
      · obtain ⟨hd, rfl⟩ := okD_d hok
        exact lv_istore_n hx hb hd (e_fin h4) hl hm rfl (fun lsB hB => K lsB (e_store hB))
    · cases hs
  · split at hs
    · rename_i i k1 t
      cases hb98 : Nat.beq k1 98 with
      | true => rw [hb98] at hs; cases hs
      | false =>
        rw [hb98] at hs
        cases hs
        obtain ⟨ar, har⟩ := e_ptr (ε := ε) (i := i) hb98
        simp only [okOp, Bool.or_eq_true, Bool.and_eq_true, decide_eq_true_eq] at hok
        obtain ⟨hm, hok⟩ := hok
        rw [List.map_cons, har]
        rcases hok with hok | ⟨h4, hok⟩
        · obtain ⟨hd, rfl⟩ := okD_d hok
          exact lv_astore hx hb hd hl hm rfl (fun lsB hB => K lsB (e_store (by rw [har]; exact hB)))
        · obtain ⟨hd, rfl⟩ := okD_d hok
          exact lv_astore_n hx hb hd (e_fin h4) hl hm rfl (fun lsB hB => K lsB (e_store (by rw [har]; exact hB)))
    · cases hs
  · split at hs
    · cases hs
      obtain ⟨hd, rfl⟩ := okD_d hok
      exact lv_iadd hx hb hd (K lsA hl)
    · cases hs
  · split at hs
    · cases hs
      obtain ⟨hd, rfl⟩ := okD_d hok
      exact lv_isub hx hb hd (K lsA hl)
    · cases hs
  · split at hs
    · cases hs
      obtain ⟨hd, rfl⟩ := okD_d hok
      exact lv_imul hx hb hd (K lsA hl)
    · cases hs
  · split at hs
    · cases hs
      obtain ⟨hd, rfl⟩ := okD_d hok
      exact lv_iand hx hb hd (K lsA hl)
    · cases hs
  · split at hs
    · cases hs
      obtain ⟨hd, rfl⟩ := okD_d hok
      exact lv_i2c hx hb hd rfl (K lsA hl)
    · cases hs
  · split at hs
    · rename_i x hg
      cases hs
      simp only [okOp, Bool.and_eq_true, decide_eq_true_eq] at hok
      obtain ⟨hm, hok⟩ := hok
      obtain ⟨hd, rfl⟩ := okD_d hok
      obtain ⟨j9, hj9⟩ := List.getElem?_of_mem ((e_ll_mem ε ls 0 (a, .int x)).2 ⟨a, .inl x, by simp, hg, rfl⟩)
      exact lv_iinc hx hb hd hl hj9 (by rw [e_ofInt]) hm rfl (fun lsB hB => K lsB (e_store hB))
    · cases hs
  · cases hs
    simp only [okOp, decide_eq_true_eq] at hok
    exact lv_goto hx hb hok (by omega) (K lsA hl)
  · split at hs
    · cases hs
      obtain ⟨hd, rfl⟩ := okD_d hok
      exact lv_dup hx hb hd (e_vm_cat ε _) (K lsA hl)
    · cases hs
  · split at hs
    · cases hs
      obtain ⟨hd, rfl⟩ := okD_d hok
      exact lv_dup2_11 hx hb hd (e_vm_cat ε _) (e_vm_cat ε _) (K lsA hl)
    · cases hs
  · split at hs
    · cases hs
      obtain ⟨hd, rfl⟩ := okD_d hok
      exact lv_pop hx hb hd (e_vm_cat ε _) (K lsA hl)
    · cases hs
  · split at hs
    · cases hs
      obtain ⟨hd, rfl⟩ := okD_d hok
      exact lv_ishr hx hb hd (K lsA hl)
    · cases hs
  · cases hs
set_option maxHeartbeats 4000000 in
/-- a constructor is called -/
theorem el_callI {J' : JT} {n idx nx a0 mc' ms' fa : Nat} {fcs : Nat → Int32} {v : Int32} {As rest : List V0} {pp : Nat × Nat} {Qc : Option Int32 → va_W → Prop} (hC : e_CtX ε J' (XS ε fa fcs) mc' ms' (.inr pp :: As) ws Qc) (h : lk (jt J) pc = (45, n, jn J', v, nx, idx)) (hT' : e_fit J J') (hr : jr J' = none) (hn : As.length = n) (hst : st = As.reverse ++ .inr pp :: rest) (hrest : Nat.ble rest.length 8 = true) (hpt : e_vm ε (.inr pp) = .ref a0) (hcc : (Nat.ble (cells + mc') mc && Nat.ble (slots + ms') ms) = true) (hXX : ∀ args s, X args s → XS ε fa fcs s)
    (k : ∀ ws', Qc none ws' → EL ε J X Z mc ms (cells + mc') (slots + ms') nx ls rest ws') : EL ε J X Z mc ms cells slots pc ls st ws := by
  intro hT p e R s m args below meth c H locs lsA C XX hP hD hS hl
  have hok := el_op hT h (by decide)
  have K := fun ws' z H locs hP hD hS => k ws' z hT p e R s m args below meth c H locs lsA C XX hP hD hS hl
  obtain ⟨hx, hb, hrt, hml, hown, hts, hlk, hK, hB0, hR, hnm⟩ := C
  simp only [okOp, Bool.and_eq_true, decide_eq_true_eq] at hok
  obtain ⟨hok, hmem⟩ := hok
  obtain ⟨hd, rfl⟩ := okD_d hok
  obtain ⟨hlink, hcode, hini, hcl, -, hinst, -, hname⟩ := el_link_of hT hT'.1 hmem
  have hinst := hinst (by decide)
  have hname := hname rfl
  have hrm := hT'.rm
  have hrest := Nat.le_of_ble_eq_true hrest
  rw [Bool.and_eq_true] at hcc
  have hM : Met ε.1 (jy J') (e_ws J') (e_rm J' mc' ms') (e_PcX ε (XS ε fa fcs) (.inr pp :: As) ws) (va_Qv (Qc none) (fun u t => e_W ε u t) (e_A ε)) mc' ms' (e_A ε) := by
    have := hC
    unfold e_CtX at this
    rw [e_Qc_none hr] at this
    exact this
  have hcode2 : Cond.code (jy J') (jb J') (jm J') none ∈ Tg := by rw [← hr]; exact hcode
  have hgd : GoodIn Tg (e_ws J') := e_good hcode
  have hws : e_ws J' = Cond.code (jy J') (jb J') (jm J') none :: Tg := by unfold e_ws; rw [hr]
  have hPre : PreS s H (e_PcX ε (XS ε fa fcs) (.inr pp :: As) ws) (.ref a0 :: As.map (e_vm ε)) := by
    refine ⟨eX_blind, fun U hU hW => ⟨?_, ?_, e_K.moved hW hK, ?_, ?_, hD⟩⟩
    · rw [List.map_cons, hpt]
    · rw [hU]; exact Nat.le_trans hB0 hS.1
    · exact XS.moved hW (locs := locs) (by rw [hU]; exact hS) (hXX _ _ XX)
    · rw [hU]; exact hP
  have hsz : (F0 m pc lsA (st.map (e_vm ε))).locals.size = jm J := hl.1
  have hstk : (F0 m pc lsA (st.map (e_vm ε))).stack = (As.map (e_vm ε)).reverse ++ .ref a0 :: rest.map (e_vm ε) := by
    show st.map (e_vm ε) = _
    rw [hst, List.map_append, List.map_cons, hpt, List.map_reverse]
  have hW8 : 2 * (F0 m pc lsA (st.map (e_vm ε))).monitorRoom + ((rest.map (e_vm ε)).map fun v => v.category).sum ≤ 8 := lv_room (e_W8 hrest)
  have hcells : cells + mc' ≤ R.cells ∧ slots + ms' ≤ R.slots := by rw [hR]; exact ⟨Nat.le_of_ble_eq_true hcc.1, Nat.le_of_ble_eq_true hcc.2⟩
  have hRm : (e_rm J' mc' ms').frames + 1 ≤ R.frames ∧ 8 + (jm J' + 11) + (e_rm J' mc' ms').locals ≤ R.locals := by rw [hR]; exact hrm
  have hlen : (As.map (e_vm ε)).length = n := by rw [List.length_map]; exact hn
  have S : CallFix p m c (jb J) (jm J) s args Tg (jy J).cls := ⟨hx, hb, hml, hown, hts⟩
  have fin : va_Run p ε.1 e R s m args below meth c H locs cells slots mc' ms' (F0 m pc lsA (st.map (e_vm ε))) (rest.map (e_vm ε)) (va_Qv (Qc none) (fun u t => e_W ε u t) (e_A ε) (Value.ref a0 :: As.map (e_vm ε)).toArray) (e_A ε) := by
    rcases hlink with hlink | ⟨host, hlink⟩
    · exact va_runI (As := As.map (e_vm ε)) (rest := rest.map (e_vm ε)) S hM ⟨callB_of (ws' := Tg) n hts hgd hws rfl rfl (hts _ hini) (hts _ hlink) hcl hRm, hname, hts _ hinst⟩ hPre rfl hlen hsz hstk hW8 hd hcells
    · exact va_runIN (As := As.map (e_vm ε)) (rest := rest.map (e_vm ε)) S hM ⟨va_cnB (ws' := Tg) n hts hgd hws rfl rfl (hK.2 _ hlink) (hts _ hini) hcl hRm, hname, hts _ hinst⟩ hPre rfl hlen hsz hstk hW8 hd hcells
  refine va_callv fin hS (fun q _ h => h) (fun q h => h) (fun u t H1 locs1 ht hvm hw hB hz1 hk1 hS1 => ?_)
  obtain ⟨hP1, hD1⟩ := hB
  rw [ht] at hP1
  exact K u hw H1 locs1 hP1 hD1 hS1
theorem el_new {t idx : Nat} (hdg : decode (jb J) pc = .ok (.new idx, 3)) (ht : t < 9) (hcl : Cond.classLink (nmC (jc J)) idx (nmC t) ∈ Tg) (hinst : Cond.instantiable (nmC t) (nfC t) ∈ Tg) (hini : Cond.initialized (nmC t) ∈ Tg) (hcc : (Nat.ble (cells + 1) mc && Nat.ble (slots + nfC t) ms) = true)
    (k : ∀ q : Nat, EL ε J X Z mc ms (cells + 1) (slots + nfC t) (pc + 3) ls (.inr (q, 99) :: st) (ws ++ [(q, .inr (t, dflV t))])) : EL ε J X Z mc ms cells slots pc ls st ws := by
  intro hT p e R s m args below meth c H locs lsA C XX hP hD hS hl
  have K := fun q H locs hP hD hS => k q hT p e R s m args below meth c H locs lsA C XX hP hD hS hl
  obtain ⟨hx, hb, hr, hml, hown, hts, hlk, hK, hB0, hR, hnm⟩ := C
  have hown := el_own hT hown
  obtain ⟨v1, v2, v3, v4⟩ := vw_at ht
  rw [Bool.and_eq_true] at hcc
  exact va_new hx hb hts v2 (tyC t) v3 hown (hts _ hcl) (hts _ hinst) (hts _ hini) hK.1 hP hD hS (fun q hq => Nat.le_trans hB0 hq) v1 (fun j hj => dflV_at hj) (by rw [hR]; exact Nat.le_of_ble_eq_true hcc.1) (by rw [hR]; exact Nat.le_of_ble_eq_true hcc.2) hdg (fun q H1 hP1 hD1 hS1 => K q H1 locs hP1 hD1 hS1)
/-- new; dup; the constructor -/
theorem la_ctor {J' : JT} {t idx idx2 nx nx0 a0 b0 tg0 mc' ms' : Nat} {v v0 : Int32} {R : Nat → va_W → Prop} (hC : ∀ h, e_CtX ε J' (XS ε fa fcs) mc' ms' [.inr (h, 99)] (ws ++ [(h, .inr (t, dflV t))]) (fun v ws' => v = none ∧ R h ws')) (hdg : decode (jb J) pc = .ok (.new idx, 3)) (ht : t < 9) (hcl : Cond.classLink (nmC (jc J)) idx (nmC t) ∈ Tg) (hinst : Cond.instantiable (nmC t) (nfC t) ∈ Tg) (hini : Cond.initialized (nmC t) ∈ Tg) (hcc0 : (Nat.ble (cells + 1) mc && Nat.ble (slots + nfC t) ms) = true) (hd : lk (jt J) (pc + 3) = (26, a0, b0, v0, nx0, tg0)) (h : lk (jt J) nx0 = (45, 0, jn J', v, nx, idx2)) (hT' : e_fit J J') (hr : jr J' = none) (hst : Nat.ble st.length 7 = true) (hcc : (Nat.ble (cells + 1 + mc') mc && Nat.ble (slots + nfC t + ms') ms) = true) (hXX : ∀ args s, X args s → XS ε fa fcs s)
    (k : ∀ q ws', R q ws' → EL ε J X Z mc ms (cells + 1 + mc') (slots + nfC t + ms') nx ls (.inr (q, 99) :: st) ws') : EL ε J X Z mc ms cells slots pc ls st ws := by
  refine el_new hdg ht hcl hinst hini hcc0 (fun q => ?_)
  refine el_step hd rfl ?_
  refine el_callI (As := []) (rest := .inr (q, 99) :: st) (hC q) h hT' hr rfl rfl ?_ rfl hcc hXX (fun ws' z => k q ws' z.2)
  have := Nat.le_of_ble_eq_true hst
  exact Nat.ble_eq_true_of_le (by rw [List.length_cons]; omega)
theorem q_ldc2 {idx : Nat} {v : Int64} (hdg : decode (jb J) pc = .ok (.ldc2_w idx, 3)) (hw : Cond.constantLong (nmC (jc J)) idx v ∈ Tg) (k : EQ ε J X Z mc ms lg (v :: lst) cells slots (pc + 3) ls [] ws) : EQ ε J X Z mc ms lg lst cells slots pc ls [] ws := by
  intro hT p e R s m args below meth c H locs lsA C XX hP hD hS hl
  have K := k hT p e R s m args below meth c H locs lsA C XX hP hD hS hl
  obtain ⟨hx, hb, -, -, hown, hts, -⟩ := C
  exact lv_ldc2 hx hb (own := nmC (jc J)) (el_own hT hown) (hts _ hw) hdg K
theorem q_lload {k0 : Fin 4} {a : Nat} {v : Int64} (hdg : decode (jb J) pc = .ok (.lload_n k0, 1)) (ha : (k0 : Nat) = a) (hv : lg = (a, v) :: lg') (k : EQ ε J X Z mc ms lg (v :: lst) cells slots (pc + 1) ls [] ws) : EQ ε J X Z mc ms lg lst cells slots pc ls [] ws := by
  intro hT p e R s m args below meth c H locs lsA C XX hP hD hS hl
  have K := k hT p e R s m args below meth c H locs lsA C XX hP hD hS hl
  obtain ⟨hx, hb, -⟩ := C
  exact lv_lload_n hx hb hdg ha (q_loadl hl (by rw [hv]; exact List.mem_cons_self)) K
theorem q_lmul {x y : Int64} (hdg : decode (jb J) pc = .ok (.lmul, 1)) (k : EQ ε J X Z mc ms lg ((x * y) :: lst) cells slots (pc + 1) ls [] ws) : EQ ε J X Z mc ms lg (y :: x :: lst) cells slots pc ls [] ws := by
  intro hT p e R s m args below meth c H locs lsA C XX hP hD hS hl
  have K := k hT p e R s m args below meth c H locs lsA C XX hP hD hS hl
  obtain ⟨hx, hb, -⟩ := C
  exact lv_lmul hx hb hdg K
theorem q_ladd {x y : Int64} (hdg : decode (jb J) pc = .ok (.ladd, 1)) (k : EQ ε J X Z mc ms lg ((x + y) :: lst) cells slots (pc + 1) ls [] ws) : EQ ε J X Z mc ms lg (y :: x :: lst) cells slots pc ls [] ws := by
  intro hT p e R s m args below meth c H locs lsA C XX hP hD hS hl
  have K := k hT p e R s m args below meth c H locs lsA C XX hP hD hS hl
  obtain ⟨hx, hb, -⟩ := C
  exact lv_ladd hx hb hdg K
theorem q_i2l {x : Int32} (hdg : decode (jb J) pc = .ok (.i2l, 1)) (k : EQ ε J X Z mc ms lg (x.toInt64 :: lst) cells slots (pc + 1) ls [] ws) : EQ ε J X Z mc ms lg lst cells slots pc ls [.inl x] ws := by
  intro hT p e R s m args below meth c H locs lsA C XX hP hD hS hl
  have K := k hT p e R s m args below meth c H locs lsA C XX hP hD hS hl
  obtain ⟨hx, hb, -⟩ := C
  exact lv_i2l hx hb hdg rfl K
theorem q_lcmp {x y : Int64} (hdg : decode (jb J) pc = .ok (.lcmp, 1)) (k : EQ ε J X Z mc ms lg lst cells slots (pc + 1) ls [.inl (lg_cmp x y)] ws) : EQ ε J X Z mc ms lg (y :: x :: lst) cells slots pc ls [] ws := by
  intro hT p e R s m args below meth c H locs lsA C XX hP hD hS hl
  have K := k hT p e R s m args below meth c H locs lsA C XX hP hD hS hl
  obtain ⟨hx, hb, -⟩ := C
  exact W.lcmp hx hb hdg K
/-- the only long number among the locals -/
theorem q_lstore {k0 : Fin 4} {a : Nat} {x : Int64} (hdg : decode (jb J) pc = .ok (.lstore_n k0, 1)) (ha : (k0 : Nat) = a) (hm : Nat.ble (a + 2) (jm J) = true) (h0 : ls[a]? = some none) (h1 : ls[a + 1]? = some none) (k : EQ ε J X Z mc ms [(a, x)] lst cells slots (pc + 1) ls [] ws) : EQ ε J X Z mc ms lg (x :: lst) cells slots pc ls [] ws := by
  intro hT p e R s m args below meth c H locs lsA C XX hP hD hS hl
  have K := fun lsB hl => k hT p e R s m args below meth c H locs lsB C XX hP hD hS hl
  obtain ⟨hx, hb, -⟩ := C
  have hm := Nat.le_of_ble_eq_true hm
  refine lv_lstore_n hx hb hdg ha hl (by omega) rfl (fun lsB hB => K lsB ⟨hB.1, hB.2.1, fun q hq => ?_⟩)
  rcases List.mem_append.1 hq with z | z
  · refine hB.2.2 q (List.mem_cons.2 (Or.inr (List.mem_filter.2 ⟨List.mem_append_left _ z, ?_⟩)))
    obtain ⟨j, v, z1, z2, z3⟩ := (e_ll_mem ε ls 0 q).1 z
    rw [Nat.zero_add] at z1
    have n0 : ¬ j = a := fun w => by
      rw [w, h0] at z2
      cases z2
    have n1 : ¬ j = a + 1 := fun w => by
      rw [w, h1] at z2
      cases z2
    rw [z1, z3, e_vm_cat]
    simp [n0, n1]
  · refine hB.2.2 q (List.mem_cons.2 (Or.inl ?_))
    have : q ∈ [(a, Value.long x)] := z
    exact List.mem_singleton.1 this
theorem q_drop (hls : e_sub ls' ls) (hlg : ∀ q, q ∈ lg' → q ∈ lg) (k : EQ ε J X Z mc ms lg' lst cells slots pc ls' st ws) : EQ ε J X Z mc ms lg lst cells slots pc ls st ws := by
  intro hT p e R s m args below meth c H locs lsA C XX hP hD hS hl
  refine k hT p e R s m args below meth c H locs lsA C XX hP hD hS ⟨hl.1, hl.2.1, fun q hq => ?_⟩
  rcases List.mem_append.1 hq with z | z
  · obtain ⟨j, v, z1, z2, z3⟩ := (e_ll_mem ε _ 0 q).1 z
    exact hl.2.2 q (List.mem_append_left _ ((e_ll_mem ε ls 0 q).2 ⟨j, v, z1, e_sub_at _ _ hls j v z2, z3⟩))
  · obtain ⟨x, hx, rfl⟩ := List.mem_map.1 z
    exact hl.2.2 _ (List.mem_append_right _ (List.mem_map.2 ⟨x, hlg x hx, rfl⟩))
theorem q_lret {Q : Int64 → va_W → Prop} {x : Int64} (hdg : decode (jb J) pc = .ok (.lreturn, 1)) (hr : jr J = some .long) (hcc : cells ≤ mc ∧ slots ≤ ms) (hQ : Q x ws) : EQ ε J X (fun below args s => MQ below (va_Ql Q (fun u t => e_W ε u t) (e_A ε)) args s mc ms (e_A ε)) mc ms lg [x] cells slots pc ls [] ws := by
  intro hT p e R s m args below meth c H locs lsA C XX hP hD hS hl
  obtain ⟨hx, hb, hrt, hml, hown, hts, hlk, hK, hB0, hR, hnm⟩ := C
  refine W.widen hcc.1 hcc.2 ?_
  refine W.lret (v := x) hx hb (by rw [hrt, hr]) (fun t ht hW => ?_) hS.2.2 hdg hlk
  exact ⟨⟨x, ws, rfl, hQ, by rw [ht]; exact hP, hD⟩, hS.F ht⟩
set_option maxHeartbeats 4000000 in
theorem q_met {Q : Int64 → va_W → Prop} {As : List V0} {ls : List (Option V0)} (hT : e_T J) (hls : e_in As (jm J) = ls) (hlen : Nat.ble As.length (jm J) = true) (hE : EQ ε J (fun _ _ => True) (fun below args s => MQ below (va_Ql Q (fun u t => e_W ε u t) (e_A ε)) args s mc ms (e_A ε)) mc ms [] [] 0 0 0 ls [] ws) : e_CtL ε J mc ms As ws Q := by
  subst hls
  have hlen := Nat.le_of_ble_eq_true hlen
  refine Met.ofW (cc := jb J) (maxL := jm J) (ret := jr J) hT.2.2.2 rfl ?_
  intro p e s m args below meth c s₁ B hml hv
  obtain ⟨rfl, hB0, hK, hP, hD⟩ := hv
  have hts := atoms_spec (ws := e_ws J) B.pre
  have hl := lv_entry (As.map (e_vm ε)) (n := jm J) (by rw [e_sl_len]; exact hlen)
  have hC : e_C ε J mc ms p (headSpec (e_ws J) (e_rm J mc ms)).room s m (As.map (e_vm ε)).toArray meth c := ⟨B.exec, B.bytes, B.returns, hml, findClass_of_methodNamed B.named, fun w hw => hts w (List.mem_cons_of_mem _ hw), B.notSynchronized, hK, hB0, rfl, (name_of_methodNamed B.named B.method).1⟩
  rw [lg_entry_eq]
  refine hE hT.tl p e _ s m _ below meth c s.heap [] _ hC trivial hP hD va_S.rf ?_
  unfold e_LQ e_in
  rw [e_ll_in, show lgV [] = [] from rfl, List.append_nil]
  exact hl
end MQ
