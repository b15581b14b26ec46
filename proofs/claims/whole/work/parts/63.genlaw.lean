/-! The rules once more, for the law's own body; the law's instructions. -/
section ML
variable {ε : EE} {J : JT} {X : Array Value → State → Prop} {Z : List Frame → Array Value → State → State → Prop} {mc ms cells slots pc : Nat} {ls : List (Option V0)} {st : List V0} {ws w0 l : va_W} {Q : Option Int32 → va_W → Prop} {fa : Nat} {fcs : Nat → Int32}
def e_TL (J : JT) : Prop := (jt J).all (fun q => okOp (jc J) (jm J) (jb J) q.1 q.2) = true ∧ (nmC (jc J) = (jy J).cls)
theorem el_op {pc o a b : Nat} {v : Int32} {nx tg : Nat} (hT : e_TL J) (h : lk (jt J) pc = (o, a, b, v, nx, tg)) (h0 : o ≠ 0) : okOp (jc J) (jm J) (jb J) pc (o, a, b, v, nx, tg) = true := lk_ok (P := fun x y => okOp (jc J) (jm J) (jb J) x y) _ _ _ hT.1 h h0
theorem el_own {s : State} {m : MethodId} (hT : e_TL J) (h : s.vm.findClass (jy J).cls = some m.cls) : s.vm.findClass (nmC (jc J)) = some m.cls := by rw [hT.2]; exact h
theorem el_link_of {J' : JT} (hT : e_TL J) (hT' : mN (jn J') = (jy J', jb J', jm J', jr J')) {kind n idx : Nat} (h : (kind, jc J, idx, jn J', n) ∈ clT) : e_link J J' kind n idx := by
  have h1 := clT_ok _ h
  unfold ClOk at h1
  simp only [hT'] at h1
  rw [hT.2] at h1
  exact h1
def EL (ε : EE) (J : JT) (X : Array Value → State → Prop) (Z : List Frame → Array Value → State → State → Prop) (mc ms cells slots pc : Nat) (ls : List (Option V0)) (st : List V0) (ws : va_W) : Prop :=
  e_TL J → ∀ (p : Program) (e : Env) (R : Room) (s : State) (m : MethodId) (args : Array Value) (below : List Frame) (meth : Method) (c : Code) (H : Heap) (locs : List Loc) (lsA : Array Slot),
    e_C ε J mc ms p R s m args meth c → X args s → va_P ε.2.1 vwCl ws H → va_D (e_A ε) ws → va_S (e_A ε) s.heap H locs → e_L ε J ls lsA →
    W p ε.1 e R s m args below meth c H locs cells slots (Z below args s) (F0 m pc lsA (st.map (e_vm ε)))
set_option maxHeartbeats 4000000 in
theorem el_step {o a b nx tg : Nat} {v : Int32} {ls' : List (Option V0)} {st' : List V0} (h : lk (jt J) pc = (o, a, b, v, nx, tg)) (hs : stp o a v ls st = some (ls', st')) (k : EL ε J X Z mc ms cells slots nx ls' st' ws) : EL ε J X Z mc ms cells slots pc ls st ws := by
  intro hT p e R s m args below meth c H locs lsA C XX hP hD hS hl
  have h0 : o ≠ 0 := by
    intro z
    subst z
    cases hs
  have hok := el_op hT h h0
  have K := fun (lsB : Array Slot) (hl : e_L ε J ls' lsB) => k hT p e R s m args below meth c H locs lsB C XX hP hD hS hl
  obtain ⟨hx, hb, -⟩ := C
  unfold stp at hs
  split at hs
  · cases hs
    simp only [okOp, Bool.or_eq_true, Bool.and_eq_true, decide_eq_true_eq] at hok
    rcases hok with (hok | ⟨hok, hv⟩) | ⟨hok, hv⟩
    · obtain ⟨hd, rfl⟩ := okD_d hok
      exact lv_iconst hx hb hd (e_ofInt _) (K lsA hl)
    · obtain ⟨hd, rfl⟩ := okD_d hok
      exact lv_bipush hx hb hd hv (K lsA hl)
    · obtain ⟨hd, rfl⟩ := okD_d hok
      exact lv_sipush hx hb hd hv (K lsA hl)
  · split at hs
    · rename_i x hg
      cases hs
      simp only [okOp, Bool.or_eq_true, Bool.and_eq_true, decide_eq_true_eq] at hok
      rcases hok with hok | ⟨h4, hok⟩
      · obtain ⟨hd, rfl⟩ := okD_d hok
        exact lv_iload hx hb hd (e_load hl hg) (K lsA hl)
      · obtain ⟨hd, rfl⟩ := okD_d hok
        exact lv_iload_n hx hb hd (e_fin h4) (e_load hl hg) (K lsA hl)
    · cases hs
  · split at hs
    · rename_i i k1 hg
      cases hb98 : Nat.beq k1 98 with
      | true => rw [hb98] at hs; cases hs
      | false =>
        rw [hb98] at hs
        cases hs
        obtain ⟨ar, har⟩ := e_ptr (ε := ε) (i := i) hb98
        have hg2 := e_load hl hg
        rw [har] at hg2
        simp only [okOp, Bool.or_eq_true, Bool.and_eq_true, decide_eq_true_eq] at hok
        rcases hok with hok | ⟨h4, hok⟩
        · obtain ⟨hd, rfl⟩ := okD_d hok
          refine lv_aload hx hb hd hg2 ?_
          have KK := K lsA hl
          rw [List.map_cons, har] at KK
          exact KK
        · obtain ⟨hd, rfl⟩ := okD_d hok
          refine lv_aload_n hx hb hd (e_fin h4) hg2 ?_
          have KK := K lsA hl
          rw [List.map_cons, har] at KK
          exact KK
    · cases hs
  · split at hs
    · cases hs
      simp only [okOp, Bool.or_eq_true, Bool.and_eq_true, decide_eq_true_eq] at hok
      obtain ⟨hm, hok | ⟨h4, hok⟩⟩ := hok
      · obtain ⟨hd, rfl⟩ := okD_d hok
        exact lv_istore hx hb hd hl hm rfl (fun lsB hB => K lsB (e_store hB))
      · obtain ⟨hd, rfl⟩ := okD_d hok
        exact lv_istore_n hx hb hd (e_fin h4) hl hm rfl (fun lsB hB => K lsB (e_store hB))
    · cases hs
  · split at hs
    · rename_i i k1 t
      cases hb98 : Nat.beq k1 98 with
      | true => rw [hb98] at hs; cases hs
      | false =>
        rw [hb98] at hs
        cases hs
        obtain ⟨ar, har⟩ := e_ptr (ε := ε) (i := i) hb98
        simp only [okOp, Bool.or_eq_true, Bool.and_eq_true, decide_eq_true_eq] at hok
        obtain ⟨hm, h4, hok⟩ := hok
        obtain ⟨hd, rfl⟩ := okD_d hok
        rw [List.map_cons, har]
        exact lv_astore_n hx hb hd (e_fin h4) hl hm rfl (fun lsB hB => K lsB (e_store (by rw [har]; exact hB)))
    · cases hs
  · split at hs
    · cases hs
      obtain ⟨hd, rfl⟩ := okD_d hok
      exact lv_iadd hx hb hd (K lsA hl)
    · cases hs
  · split at hs
    · cases hs
      obtain ⟨hd, rfl⟩ := okD_d hok
      exact lv_isub hx hb hd (K lsA hl)
    · cases hs
  · split at hs
    · cases hs
      obtain ⟨hd, rfl⟩ := okD_d hok
      exact lv_imul hx hb hd (K lsA hl)
    · cases hs
  · split at hs
    · cases hs
      obtain ⟨hd, rfl⟩ := okD_d hok
      exact lv_iand hx hb hd (K lsA hl)
    · cases hs
  · split at hs
    · cases hs
      obtain ⟨hd, rfl⟩ := okD_d hok
      exact lv_i2c hx hb hd rfl (K lsA hl)
    · cases hs
  · split at hs
    · rename_i x hg
      cases hs
      simp only [okOp, Bool.and_eq_true, decide_eq_true_eq] at hok
      obtain ⟨hm, hok⟩ := hok
      obtain ⟨hd, rfl⟩ := okD_d hok
      obtain ⟨j9, hj9⟩ := List.getElem?_of_mem ((e_ll_mem ε ls 0 (a, .int x)).2 ⟨a, .inl x, by simp, hg, rfl⟩)
      exact lv_iinc hx hb hd hl hj9 (by rw [e_ofInt]) hm rfl (fun lsB hB => K lsB (e_store hB))
    · cases hs
  · cases hs
    simp only [okOp, decide_eq_true_eq] at hok
    exact lv_goto hx hb hok (by omega) (K lsA hl)
  · split at hs
    · cases hs
      obtain ⟨hd, rfl⟩ := okD_d hok
      exact lv_dup hx hb hd (e_vm_cat ε _) (K lsA hl)
    · cases hs
  · split at hs
    · cases hs
      obtain ⟨hd, rfl⟩ := okD_d hok
      exact lv_dup2_11 hx hb hd (e_vm_cat ε _) (e_vm_cat ε _) (K lsA hl)
    · cases hs
  · split at hs
    · cases hs
      obtain ⟨hd, rfl⟩ := okD_d hok
      exact lv_pop hx hb hd (e_vm_cat ε _) (K lsA hl)
    · cases hs
  · cases hs
set_option maxHeartbeats 4000000 in
theorem el_if {o a b nx tg : Nat} {v : Int32} {P : Prop} {st' : List V0} (h : lk (jt J) pc = (o, a, b, v, nx, tg)) (hs : cnd o st = some (P, st')) (kt : P → EL ε J X Z mc ms cells slots tg ls st' ws) (kf : ¬ P → EL ε J X Z mc ms cells slots nx ls st' ws) : EL ε J X Z mc ms cells slots pc ls st ws := by
  intro hT p e R s m args below meth c H locs lsA C XX hP hD hS hl
  have h0 : o ≠ 0 := by
    intro z
    subst z
    cases hs
  have hok := el_op hT h h0
  have KT := fun z => kt z hT p e R s m args below meth c H locs lsA C XX hP hD hS hl
  have KF := fun z => kf z hT p e R s m args below meth c H locs lsA C XX hP hD hS hl
  obtain ⟨hx, hb, -⟩ := C
  have ht : (pc : Int) + ((tg : Int) - (pc : Int)) = (tg : Int) := by omega
  unfold cnd at hs
  split at hs
  · split at hs
    · cases hs
      obtain ⟨hd, rfl⟩ := okB_d hok
      exact lv_if_eq hx hb hd ht KT KF
    · cases hs
  · split at hs
    · cases hs
      obtain ⟨hd, rfl⟩ := okB_d hok
      exact lv_if_ne hx hb hd ht KT (fun z => KF (fun w => w z))
    · cases hs
  · split at hs
    · cases hs
      obtain ⟨hd, rfl⟩ := okB_d hok
      exact lv_if_lt hx hb hd ht KT KF
    · cases hs
  · split at hs
    · cases hs
      obtain ⟨hd, rfl⟩ := okB_d hok
      exact lv_if_ge hx hb hd ht KT KF
    · cases hs
  · split at hs
    · cases hs
      obtain ⟨hd, rfl⟩ := okB_d hok
      exact lv_if_gt hx hb hd ht KT KF
    · cases hs
  · split at hs
    · cases hs
      obtain ⟨hd, rfl⟩ := okB_d hok
      exact lv_if_le hx hb hd ht KT KF
    · cases hs
  · split at hs
    · cases hs
      obtain ⟨hd, rfl⟩ := okB_d hok
      exact lv_icmp_eq hx hb hd ht KT KF
    · cases hs
  · split at hs
    · cases hs
      obtain ⟨hd, rfl⟩ := okB_d hok
      exact lv_icmp_ne hx hb hd ht KT (fun z => KF (fun w => w z))
    · cases hs
  · split at hs
    · cases hs
      obtain ⟨hd, rfl⟩ := okB_d hok
      exact lv_icmp_lt hx hb hd ht KT KF
    · cases hs
  · split at hs
    · cases hs
      obtain ⟨hd, rfl⟩ := okB_d hok
      exact lv_icmp_ge hx hb hd ht KT KF
    · cases hs
  · split at hs
    · cases hs
      obtain ⟨hd, rfl⟩ := okB_d hok
      exact lv_icmp_gt hx hb hd ht KT KF
    · cases hs
  · split at hs
    · cases hs
      obtain ⟨hd, rfl⟩ := okB_d hok
      exact lv_icmp_le hx hb hd ht KT KF
    · cases hs
  · cases hs
set_option maxHeartbeats 4000000 in
/-- invokevirtual, an answer that is a number -/
theorem el_callVi {J' : JT} {n idx nx a0 q0 ci mc' ms' : Nat} {v : Int32} {As rest : List V0} {pp : Nat × Nat} {fs : List Value} {Qc : Option Int32 → va_W → Prop} {ty : FieldType} (h : lk (jt J) pc = (44, n, jn J', v, nx, idx)) (hT' : mN (jn J') = (jy J', jb J', jm J', jr J')) (hr : jr J' = some ty) (hrm : jf J' + 1 ≤ jf J ∧ 8 + (jm J' + 11) + jo J' ≤ jo J) (hn : As.length = n) (hst : st = As.reverse ++ .inr pp :: rest) (hrest : rest.length ≤ 8) (hpt : e_vm ε (.inr pp) = .ref a0) (hp : ws[q0]? = some (a0, .inr (ci, fs))) (hci : ci < 10) (hcn : nmC ci = (jy J').cls) (hC : e_Ct ε J' mc' ms' (.inr pp :: As) ws Qc) (hcc : cells + mc' ≤ mc ∧ slots + ms' ≤ ms)
    (k : ∀ r ws', Qc (some r) ws' → EL ε J X Z mc ms (cells + mc') (slots + ms') nx ls (.inl r :: rest) ws') : EL ε J X Z mc ms cells slots pc ls st ws := by
  intro hT p e R s m args below meth c H locs lsA C XX hP hD hS hl
  have hok := el_op hT h (by decide)
  have K := fun r ws' z H locs hP hD hS => k r ws' z hT p e R s m args below meth c H locs lsA C XX hP hD hS hl
  obtain ⟨hx, hb, hrt, hml, hown, hts, hlk, hK, hB0, hR, hnm⟩ := C
  simp only [okOp, Bool.and_eq_true, decide_eq_true_eq] at hok
  obtain ⟨hok, hmem⟩ := hok
  obtain ⟨hd, rfl⟩ := okD_d hok
  obtain ⟨hlink, hcode, hini, hcl, -, hinst, hsel, -⟩ := el_link_of hT hT' hmem
  have hinst := hinst (by decide)
  have hsel := hsel rfl
  have hM : Met ε.1 (jy J') (e_ws J') (e_rm J' mc' ms') (e_Pc ε (.inr pp :: As) ws) (va_Qi (fun r u => Qc (some r) u) (fun u t => e_W ε u t) (e_A ε)) mc' ms' (e_A ε) := by
    have := hC
    unfold e_Ct at this
    rw [e_Qc_some hr] at this
    exact this
  have hrecv := va_recv hK.1 hP (vw_at hci).1 hp
  have hPre : PreV s H (jy J').cls a0 (e_Pc ε (.inr pp :: As) ws) (As.map (e_vm ε)) := by
    refine ⟨e_blind, ?_, fun U hU hW => ⟨?_, ?_, e_K.moved hW hK, ?_, hD⟩⟩
    · rw [← hcn]; exact hrecv
    · rw [List.map_cons, hpt]
    · rw [hU]; exact Nat.le_trans hB0 hS.1
    · rw [hU]; exact hP
  have hsz : (F0 m pc lsA (st.map (e_vm ε))).locals.size = jm J := hl.1
  have hstk : (F0 m pc lsA (st.map (e_vm ε))).stack = (As.map (e_vm ε)).reverse ++ .ref a0 :: rest.map (e_vm ε) := by
    show st.map (e_vm ε) = _
    rw [hst, List.map_append, List.map_cons, hpt, List.map_reverse]
  have hW8 : 2 * (F0 m pc lsA (st.map (e_vm ε))).monitorRoom + ((rest.map (e_vm ε)).map fun v => v.category).sum ≤ 8 := by
    refine lv_room ?_
    have : ((rest.map (e_vm ε)).map fun v => v.category) = List.replicate rest.length 1 := by
      rw [List.map_map]
      refine List.eq_replicate_iff.2 ⟨by simp, fun b hb => ?_⟩
      obtain ⟨x, -, rfl⟩ := List.mem_map.1 hb
      exact e_vm_cat ε x
    rw [this, List.sum_replicate_nat]
    omega
  have hcells : cells + mc' ≤ R.cells ∧ slots + ms' ≤ R.slots := by rw [hR]; exact hcc
  have hRm : (e_rm J' mc' ms').frames + 1 ≤ R.frames ∧ 8 + (jm J' + 11) + (e_rm J' mc' ms').locals ≤ R.locals := by rw [hR]; exact hrm
  have hlen : (As.map (e_vm ε)).length = n := by rw [List.length_map]; exact hn
  have S : CallFix p m c (jb J) (jm J) s args Tg (jy J).cls := ⟨hx, hb, hml, hown, hts⟩
  have fin : va_Run p ε.1 e R s m args below meth c H locs cells slots mc' ms' (F0 m pc lsA (st.map (e_vm ε))) (rest.map (e_vm ε)) (va_Qi (fun r u => Qc (some r) u) (fun u t => e_W ε u t) (e_A ε) (Value.ref a0 :: As.map (e_vm ε)).toArray) (e_A ε) := by
    rcases hlink with hlink | ⟨host, hlink⟩
    · exact va_runV (As := As.map (e_vm ε)) (rest := rest.map (e_vm ε)) S hM ⟨callB_of (ws' := Tg) n hts (e_good hcode) rfl rfl rfl (hts _ hini) (hts _ hlink) hcl hRm, hts _ hinst, hts _ hsel⟩ hPre rfl hlen hsz hstk hW8 hd hcells
    · exact va_runVN (As := As.map (e_vm ε)) (rest := rest.map (e_vm ε)) S hM ⟨va_cnB (ws' := Tg) n hts (e_good hcode) rfl rfl rfl (hK.2 _ hlink) (hts _ hini) hcl hRm, hts _ hinst, hts _ hsel⟩ hPre rfl hlen hsz hstk hW8 hd hcells
  refine va_calli fin hS (fun q _ h => h) (fun q h => h) (fun r u t H1 locs1 ht hvm hw hB hz1 hk1 hS1 => ?_)
  obtain ⟨hP1, hD1⟩ := hB
  rw [ht] at hP1
  exact K r u hw H1 locs1 hP1 hD1 hS1
set_option maxHeartbeats 4000000 in
/-- a constructor is called -/
theorem el_callI {J' : JT} {n idx nx a0 mc' ms' fa : Nat} {fcs : Nat → Int32} {v : Int32} {As rest : List V0} {pp : Nat × Nat} {Qc : Option Int32 → va_W → Prop} (hC : e_CtX ε J' (XS ε fa fcs) mc' ms' (.inr pp :: As) ws Qc) (h : lk (jt J) pc = (45, n, jn J', v, nx, idx)) (hT' : e_fit J J') (hr : jr J' = none) (hn : As.length = n) (hst : st = As.reverse ++ .inr pp :: rest) (hrest : Nat.ble rest.length 8 = true) (hpt : e_vm ε (.inr pp) = .ref a0) (hcc : (Nat.ble (cells + mc') mc && Nat.ble (slots + ms') ms) = true) (hXX : ∀ args s, X args s → XS ε fa fcs s)
    (k : ∀ ws', Qc none ws' → EL ε J X Z mc ms (cells + mc') (slots + ms') nx ls rest ws') : EL ε J X Z mc ms cells slots pc ls st ws := by
  intro hT p e R s m args below meth c H locs lsA C XX hP hD hS hl
  have hok := el_op hT h (by decide)
  have K := fun ws' z H locs hP hD hS => k ws' z hT p e R s m args below meth c H locs lsA C XX hP hD hS hl
  obtain ⟨hx, hb, hrt, hml, hown, hts, hlk, hK, hB0, hR, hnm⟩ := C
  simp only [okOp, Bool.and_eq_true, decide_eq_true_eq] at hok
  obtain ⟨hok, hmem⟩ := hok
  obtain ⟨hd, rfl⟩ := okD_d hok
  obtain ⟨hlink, hcode, hini, hcl, -, hinst, -, hname⟩ := el_link_of hT hT'.1 hmem
  have hinst := hinst (by decide)
  have hname := hname rfl
  have hrm := hT'.rm
  have hrest := Nat.le_of_ble_eq_true hrest
  rw [Bool.and_eq_true] at hcc
  have hM : Met ε.1 (jy J') (e_ws J') (e_rm J' mc' ms') (e_PcX ε (XS ε fa fcs) (.inr pp :: As) ws) (va_Qv (Qc none) (fun u t => e_W ε u t) (e_A ε)) mc' ms' (e_A ε) := by
    have := hC
    unfold e_CtX at this
    rw [e_Qc_none hr] at this
    exact this
  have hcode2 : Cond.code (jy J') (jb J') (jm J') none ∈ Tg := by rw [← hr]; exact hcode
  have hgd : GoodIn Tg (e_ws J') := e_good hcode
  have hws : e_ws J' = Cond.code (jy J') (jb J') (jm J') none :: Tg := by unfold e_ws; rw [hr]
  have hPre : PreS s H (e_PcX ε (XS ε fa fcs) (.inr pp :: As) ws) (.ref a0 :: As.map (e_vm ε)) := by
    refine ⟨eX_blind, fun U hU hW => ⟨?_, ?_, e_K.moved hW hK, ?_, ?_, hD⟩⟩
    · rw [List.map_cons, hpt]
    · rw [hU]; exact Nat.le_trans hB0 hS.1
    · exact XS.moved hW (locs := locs) (by rw [hU]; exact hS) (hXX _ _ XX)
    · rw [hU]; exact hP
  have hsz : (F0 m pc lsA (st.map (e_vm ε))).locals.size = jm J := hl.1
  have hstk : (F0 m pc lsA (st.map (e_vm ε))).stack = (As.map (e_vm ε)).reverse ++ .ref a0 :: rest.map (e_vm ε) := by
    show st.map (e_vm ε) = _
    rw [hst, List.map_append, List.map_cons, hpt, List.map_reverse]
  have hW8 : 2 * (F0 m pc lsA (st.map (e_vm ε))).monitorRoom + ((rest.map (e_vm ε)).map fun v => v.category).sum ≤ 8 := lv_room (e_W8 hrest)
  have hcells : cells + mc' ≤ R.cells ∧ slots + ms' ≤ R.slots := by rw [hR]; exact ⟨Nat.le_of_ble_eq_true hcc.1, Nat.le_of_ble_eq_true hcc.2⟩
  have hRm : (e_rm J' mc' ms').frames + 1 ≤ R.frames ∧ 8 + (jm J' + 11) + (e_rm J' mc' ms').locals ≤ R.locals := by rw [hR]; exact hrm
  have hlen : (As.map (e_vm ε)).length = n := by rw [List.length_map]; exact hn
  have S : CallFix p m c (jb J) (jm J) s args Tg (jy J).cls := ⟨hx, hb, hml, hown, hts⟩
  have fin : va_Run p ε.1 e R s m args below meth c H locs cells slots mc' ms' (F0 m pc lsA (st.map (e_vm ε))) (rest.map (e_vm ε)) (va_Qv (Qc none) (fun u t => e_W ε u t) (e_A ε) (Value.ref a0 :: As.map (e_vm ε)).toArray) (e_A ε) := by
    rcases hlink with hlink | ⟨host, hlink⟩
    · exact va_runI (As := As.map (e_vm ε)) (rest := rest.map (e_vm ε)) S hM ⟨callB_of (ws' := Tg) n hts hgd hws rfl rfl (hts _ hini) (hts _ hlink) hcl hRm, hname, hts _ hinst⟩ hPre rfl hlen hsz hstk hW8 hd hcells
    · exact va_runIN (As := As.map (e_vm ε)) (rest := rest.map (e_vm ε)) S hM ⟨va_cnB (ws' := Tg) n hts hgd hws rfl rfl (hK.2 _ hlink) (hts _ hini) hcl hRm, hname, hts _ hinst⟩ hPre rfl hlen hsz hstk hW8 hd hcells
  refine va_callv fin hS (fun q _ h => h) (fun q h => h) (fun u t H1 locs1 ht hvm hw hB hz1 hk1 hS1 => ?_)
  obtain ⟨hP1, hD1⟩ := hB
  rw [ht] at hP1
  exact K u hw H1 locs1 hP1 hD1 hS1
theorem el_new {t idx : Nat} (hdg : decode (jb J) pc = .ok (.new idx, 3)) (ht : t < 10) (hcl : Cond.classLink (nmC (jc J)) idx (nmC t) ∈ Tg) (hinst : Cond.instantiable (nmC t) (nfC t) ∈ Tg) (hini : Cond.initialized (nmC t) ∈ Tg) (hcc : (Nat.ble (cells + 1) mc && Nat.ble (slots + nfC t) ms) = true)
    (k : ∀ q : Nat, EL ε J X Z mc ms (cells + 1) (slots + nfC t) (pc + 3) ls (.inr (q, 99) :: st) (ws ++ [(q, .inr (t, dflV t))])) : EL ε J X Z mc ms cells slots pc ls st ws := by
  intro hT p e R s m args below meth c H locs lsA C XX hP hD hS hl
  have K := fun q H locs hP hD hS => k q hT p e R s m args below meth c H locs lsA C XX hP hD hS hl
  obtain ⟨hx, hb, hr, hml, hown, hts, hlk, hK, hB0, hR, hnm⟩ := C
  have hown := el_own hT hown
  obtain ⟨v1, v2, v3, v4⟩ := vw_at ht
  rw [Bool.and_eq_true] at hcc
  exact va_new hx hb hts v2 (tyC t) v3 hown (hts _ hcl) (hts _ hinst) (hts _ hini) hK.1 hP hD hS (fun q hq => Nat.le_trans hB0 hq) v1 (fun j hj => dflV_at hj) (by rw [hR]; exact Nat.le_of_ble_eq_true hcc.1) (by rw [hR]; exact Nat.le_of_ble_eq_true hcc.2) hdg (fun q H1 hP1 hD1 hS1 => K q H1 locs hP1 hD1 hS1)
/-- new; dup; the constructor -/
theorem la_ctor {J' : JT} {t idx idx2 nx nx0 a0 b0 tg0 mc' ms' : Nat} {v v0 : Int32} {R : Nat → va_W → Prop} (hC : ∀ h, e_CtX ε J' (XS ε fa fcs) mc' ms' [.inr (h, 99)] (ws ++ [(h, .inr (t, dflV t))]) (fun v ws' => v = none ∧ R h ws')) (hdg : decode (jb J) pc = .ok (.new idx, 3)) (ht : t < 10) (hcl : Cond.classLink (nmC (jc J)) idx (nmC t) ∈ Tg) (hinst : Cond.instantiable (nmC t) (nfC t) ∈ Tg) (hini : Cond.initialized (nmC t) ∈ Tg) (hcc0 : (Nat.ble (cells + 1) mc && Nat.ble (slots + nfC t) ms) = true) (hd : lk (jt J) (pc + 3) = (26, a0, b0, v0, nx0, tg0)) (h : lk (jt J) nx0 = (45, 0, jn J', v, nx, idx2)) (hT' : e_fit J J') (hr : jr J' = none) (hst : Nat.ble st.length 7 = true) (hcc : (Nat.ble (cells + 1 + mc') mc && Nat.ble (slots + nfC t + ms') ms) = true) (hXX : ∀ args s, X args s → XS ε fa fcs s)
    (k : ∀ q ws', R q ws' → EL ε J X Z mc ms (cells + 1 + mc') (slots + nfC t + ms') nx ls (.inr (q, 99) :: st) ws') : EL ε J X Z mc ms cells slots pc ls st ws := by
  refine el_new hdg ht hcl hinst hini hcc0 (fun q => ?_)
  refine el_step hd rfl ?_
  refine el_callI (As := []) (rest := .inr (q, 99) :: st) (hC q) h hT' hr rfl rfl ?_ rfl hcc hXX (fun ws' z => k q ws' z.2)
  have := Nat.le_of_ble_eq_true hst
  exact Nat.ble_eq_true_of_le (by rw [List.length_cons]; omega)
theorem el_sld {o a b nx bb L j : Nat} {v x : Int32} {xs : Nat → Int32} (h : lk (jt J) pc = (32, a, b, v, nx, o)) (hXX : ∀ args s, X args s → va_X bb L xs s s.heap ∧ bb < s.heap.size ∧ ¬ e_A ε bb) (hx : x = nI j) (hj : j < L) (hL : L < 2 ^ 31) (k : EL ε J X Z mc ms cells slots nx ls (.inl (xs j) :: st) ws) : EL ε J X Z mc ms cells slots pc ls (.inl x :: .inr (bb, 99) :: st) ws := by
  subst hx
  intro hT p e R s m args below meth c H locs lsA C XX hP hD hS hl
  have hok := el_op hT h (by decide)
  have K := k hT p e R s m args below meth c H locs lsA C XX hP hD hS hl
  obtain ⟨hx, hb, hr, hml, hown, hts, hlk, hK, hB0, hR, hnm⟩ := C
  obtain ⟨hd, rfl⟩ := okD_d hok
  obtain ⟨x1, x2, x3⟩ := hXX _ _ XX
  refine va_sld hx hb x1 x2 x3 hS (vp_in_nI hj hL) hd ?_
  rw [nI_clamp (by omega)]
  exact K
theorem el_slen {o a b nx bb L : Nat} {v : Int32} {xs : Nat → Int32} (h : lk (jt J) pc = (40, a, b, v, nx, o)) (hXX : ∀ args s, X args s → va_X bb L xs s s.heap ∧ bb < s.heap.size ∧ ¬ e_A ε bb) (k : EL ε J X Z mc ms cells slots nx ls (.inl (nI L) :: st) ws) : EL ε J X Z mc ms cells slots pc ls (.inr (bb, 99) :: st) ws := by
  intro hT p e R s m args below meth c H locs lsA C XX hP hD hS hl
  have hok := el_op hT h (by decide)
  have K := k hT p e R s m args below meth c H locs lsA C XX hP hD hS hl
  obtain ⟨hx, hb, hr, hml, hown, hts, hlk, hK, hB0, hR, hnm⟩ := C
  obtain ⟨hd, rfl⟩ := okD_d hok
  obtain ⟨x1, x2, x3⟩ := hXX _ _ XX
  exact va_slen hx hb x1 x2 x3 hS hd K
theorem el_tabOut {dflt lo hi : Int} {offs : Array Int} {len : Nat} {x : Int32} {tgt : Nat} (hdg : decode (jb J) pc = .ok (.tableswitch dflt lo hi offs, len)) (h : x.toInt < lo ∨ hi < x.toInt) (ht : (pc : Int) + dflt = (tgt : Int)) (k : EL ε J X Z mc ms cells slots tgt ls st ws) : EL ε J X Z mc ms cells slots pc ls (.inl x :: st) ws := by
  intro hT p e R s m args below meth c H locs lsA C XX hP hD hS hl
  have K := k hT p e R s m args below meth c H locs lsA C XX hP hD hS hl
  obtain ⟨hx, hb, -⟩ := C
  exact lv_tableOut hx hb hdg h ht K
theorem el_tabIn {dflt lo hi : Int} {offs : Array Int} {len : Nat} {x : Int32} {off : Int} {tgt : Nat} (j : Nat) (hdg : decode (jb J) pc = .ok (.tableswitch dflt lo hi offs, len)) (hv : x.toInt = lo + j) (hj : lo + j ≤ hi) (ho : offs[j]? = some off) (ht : (pc : Int) + off = (tgt : Int)) (k : EL ε J X Z mc ms cells slots tgt ls st ws) : EL ε J X Z mc ms cells slots pc ls (.inl x :: st) ws := by
  intro hT p e R s m args below meth c H locs lsA C XX hP hD hS hl
  have K := k hT p e R s m args below meth c H locs lsA C XX hP hD hS hl
  obtain ⟨hx, hb, -⟩ := C
  have e1 : (x.toInt - lo).toNat = j := by omega
  exact lv_tableIn hx hb hdg (by omega) (by omega) (by rw [e1]; exact ho) ht K
theorem el2_call {J' : JT} {n idx nx kk ci : Nat} {v : Int32} {As rest : List V0} {fs : List V0} {Qc : Option Int32 → GG → Prop} {G : GG} (hC : C2 ε J' (.inr (0, kk) :: As) G Qc) (h : lk (jt J) pc = (44, n, jn J', v, nx, idx)) (hT : e_fit J J') (hr : jr J' = some .int) (hn : As.length = n) (hst : st = As.reverse ++ .inr (0, kk) :: rest) (hrest : Nat.ble rest.length 8 = true) (hv : 0 < lim kk) (ho : objV 0 kk (G 0 kk) = some (ci, fs)) (hci : Nat.ble ci 9 = true) (hcn : nmC ci = (jy J').cls) (hcc : cells ≤ mc ∧ slots ≤ ms)
    (k : ∀ r G', Qc (some r) G' → EL ε J X Z mc ms cells slots nx ls (.inl r :: rest) (wd ε G')) : EL ε J X Z mc ms cells slots pc ls st (wd ε G) := by
  obtain ⟨q0, h1, h2⟩ := wd_at ε G hv
  rw [cellE_obj ε ho] at h2
  refine el_callVi (mc' := 0) (ms' := 0) h hT.1 hr hT.rm hn hst (Nat.le_of_ble_eq_true hrest) (e_vm_val ε hv) h2 (Nat.lt_succ_of_le (Nat.le_of_ble_eq_true hci)) hcn hC hcc (fun r ws' z => ?_)
  obtain ⟨G', rfl, hq⟩ := z
  exact k r G' hq
def tL_law : List (Nat × OpT) := [(0, 47, 0, 0, 0, 3, 7), (3, 26, 0, 0, 0, 4, 0), (4, 45, 0, 75, 0, 7, 9), (7, 5, 1, 0, 0, 8, 0), (8, 47, 0, 0, 0, 11, 10), (11, 26, 0, 0, 0, 12, 0), (12, 45, 0, 107, 0, 15, 12), (15, 5, 2, 0, 0, 16, 0), (16, 1, 0, 0, nI 0, 17, 0), (17, 4, 3, 0, 0, 18, 0), (18, 2, 3, 0, 0, 19, 0), (19, 3, 0, 0, 0, 20, 0), (20, 40, 0, 0, 0, 21, 0), (21, 1, 0, 0, nI 4, 22, 0), (22, 7, 0, 0, 0, 23, 0), (23, 24, 0, 0, 0, 26, 799), (26, 3, 0, 0, 0, 27, 0), (27, 2, 3, 0, 0, 28, 0), (28, 32, 0, 0, 0, 29, 0), (29, 1, 0, 0, nI 31, 31, 0), (31, 10, 0, 0, 0, 32, 0), (32, 43, 0, 0, 0, 148, 0), (148, 3, 1, 0, 0, 149, 0), (149, 3, 0, 0, 0, 150, 0), (150, 2, 3, 0, 0, 151, 0), (151, 1, 0, 0, nI 1, 152, 0), (152, 6, 0, 0, 0, 153, 0), (153, 32, 0, 0, 0, 154, 0), (154, 3, 0, 0, 0, 155, 0), (155, 2, 3, 0, 0, 156, 0), (156, 1, 0, 0, nI 2, 157, 0), (157, 6, 0, 0, 0, 158, 0), (158, 32, 0, 0, 0, 159, 0), (159, 3, 0, 0, 0, 160, 0), (160, 2, 3, 0, 0, 161, 0), (161, 1, 0, 0, nI 3, 162, 0), (162, 6, 0, 0, 0, 163, 0), (163, 32, 0, 0, 0, 164, 0), (164, 44, 3, 76, 0, 167, 13), (167, 3, 2, 0, 0, 168, 0), (168, 3, 0, 0, 0, 169, 0), (169, 2, 3, 0, 0, 170, 0), (170, 1, 0, 0, nI 1, 171, 0), (171, 6, 0, 0, 0, 172, 0), (172, 32, 0, 0, 0, 173, 0), (173, 3, 0, 0, 0, 174, 0), (174, 2, 3, 0, 0, 175, 0), (175, 1, 0, 0, nI 2, 176, 0), (176, 6, 0, 0, 0, 177, 0), (177, 32, 0, 0, 0, 178, 0), (178, 3, 0, 0, 0, 179, 0), (179, 2, 3, 0, 0, 180, 0), (180, 1, 0, 0, nI 3, 181, 0), (181, 6, 0, 0, 0, 182, 0), (182, 32, 0, 0, 0, 183, 0), (183, 44, 3, 124, 0, 186, 17), (186, 20, 0, 0, 0, 189, 793), (189, 1, 0, 0, nI 0, 190, 0), (190, 41, 0, 0, 0, 191, 0), (191, 3, 1, 0, 0, 192, 0), (192, 44, 0, 77, 0, 195, 18), (195, 3, 2, 0, 0, 196, 0), (196, 44, 0, 129, 0, 199, 22), (199, 20, 0, 0, 0, 202, 793), (202, 1, 0, 0, nI 0, 203, 0), (203, 41, 0, 0, 0, 204, 0), (204, 3, 1, 0, 0, 205, 0), (205, 3, 0, 0, 0, 206, 0), (206, 2, 3, 0, 0, 207, 0), (207, 1, 0, 0, nI 1, 208, 0), (208, 6, 0, 0, 0, 209, 0), (209, 32, 0, 0, 0, 210, 0), (210, 3, 0, 0, 0, 211, 0), (211, 2, 3, 0, 0, 212, 0), (212, 1, 0, 0, nI 2, 213, 0), (213, 6, 0, 0, 0, 214, 0), (214, 32, 0, 0, 0, 215, 0), (215, 3, 0, 0, 0, 216, 0), (216, 2, 3, 0, 0, 217, 0), (217, 1, 0, 0, nI 3, 218, 0), (218, 6, 0, 0, 0, 219, 0), (219, 32, 0, 0, 0, 220, 0), (220, 44, 3, 78, 0, 223, 23), (223, 3, 2, 0, 0, 224, 0), (224, 3, 0, 0, 0, 225, 0), (225, 2, 3, 0, 0, 226, 0), (226, 1, 0, 0, nI 1, 227, 0), (227, 6, 0, 0, 0, 228, 0), (228, 32, 0, 0, 0, 229, 0), (229, 3, 0, 0, 0, 230, 0), (230, 2, 3, 0, 0, 231, 0), (231, 1, 0, 0, nI 2, 232, 0), (232, 6, 0, 0, 0, 233, 0), (233, 32, 0, 0, 0, 234, 0), (234, 3, 0, 0, 0, 235, 0), (235, 2, 3, 0, 0, 236, 0), (236, 1, 0, 0, nI 3, 237, 0), (237, 6, 0, 0, 0, 238, 0), (238, 32, 0, 0, 0, 239, 0), (239, 44, 3, 132, 0, 242, 26), (242, 20, 0, 0, 0, 245, 793), (245, 1, 0, 0, nI 0, 246, 0), (246, 41, 0, 0, 0, 247, 0), (247, 3, 1, 0, 0, 248, 0), (248, 3, 0, 0, 0, 249, 0), (249, 2, 3, 0, 0, 250, 0), (250, 1, 0, 0, nI 1, 251, 0), (251, 6, 0, 0, 0, 252, 0), (252, 32, 0, 0, 0, 253, 0), (253, 3, 0, 0, 0, 254, 0), (254, 2, 3, 0, 0, 255, 0), (255, 1, 0, 0, nI 2, 256, 0), (256, 6, 0, 0, 0, 257, 0), (257, 32, 0, 0, 0, 258, 0), (258, 44, 2, 79, 0, 261, 27), (261, 3, 2, 0, 0, 262, 0), (262, 3, 0, 0, 0, 263, 0), (263, 2, 3, 0, 0, 264, 0), (264, 1, 0, 0, nI 1, 265, 0), (265, 6, 0, 0, 0, 266, 0), (266, 32, 0, 0, 0, 267, 0), (267, 3, 0, 0, 0, 268, 0), (268, 2, 3, 0, 0, 269, 0), (269, 1, 0, 0, nI 2, 270, 0), (270, 6, 0, 0, 0, 271, 0), (271, 32, 0, 0, 0, 272, 0), (272, 44, 2, 134, 0, 275, 31), (275, 20, 0, 0, 0, 278, 793), (278, 1, 0, 0, nI 0, 279, 0), (279, 41, 0, 0, 0, 280, 0), (280, 3, 1, 0, 0, 281, 0), (281, 3, 0, 0, 0, 282, 0), (282, 2, 3, 0, 0, 283, 0), (283, 1, 0, 0, nI 1, 284, 0), (284, 6, 0, 0, 0, 285, 0), (285, 32, 0, 0, 0, 286, 0), (286, 3, 0, 0, 0, 287, 0), (287, 2, 3, 0, 0, 288, 0), (288, 1, 0, 0, nI 2, 289, 0), (289, 6, 0, 0, 0, 290, 0), (290, 32, 0, 0, 0, 291, 0), (291, 44, 2, 80, 0, 294, 32), (294, 3, 2, 0, 0, 295, 0), (295, 3, 0, 0, 0, 296, 0), (296, 2, 3, 0, 0, 297, 0), (297, 1, 0, 0, nI 1, 298, 0), (298, 6, 0, 0, 0, 299, 0), (299, 32, 0, 0, 0, 300, 0), (300, 3, 0, 0, 0, 301, 0), (301, 2, 3, 0, 0, 302, 0), (302, 1, 0, 0, nI 2, 303, 0), (303, 6, 0, 0, 0, 304, 0), (304, 32, 0, 0, 0, 305, 0), (305, 44, 2, 136, 0, 308, 35), (308, 20, 0, 0, 0, 311, 793), (311, 1, 0, 0, nI 0, 312, 0), (312, 41, 0, 0, 0, 313, 0), (313, 3, 1, 0, 0, 314, 0), (314, 3, 0, 0, 0, 315, 0), (315, 2, 3, 0, 0, 316, 0), (316, 1, 0, 0, nI 1, 317, 0), (317, 6, 0, 0, 0, 318, 0), (318, 32, 0, 0, 0, 319, 0), (319, 44, 1, 81, 0, 322, 36), (322, 3, 2, 0, 0, 323, 0), (323, 3, 0, 0, 0, 324, 0), (324, 2, 3, 0, 0, 325, 0), (325, 1, 0, 0, nI 1, 326, 0), (326, 6, 0, 0, 0, 327, 0), (327, 32, 0, 0, 0, 328, 0), (328, 44, 1, 139, 0, 331, 40), (331, 20, 0, 0, 0, 334, 793), (334, 1, 0, 0, nI 0, 335, 0), (335, 41, 0, 0, 0, 336, 0), (336, 3, 1, 0, 0, 337, 0), (337, 3, 0, 0, 0, 338, 0), (338, 2, 3, 0, 0, 339, 0), (339, 1, 0, 0, nI 1, 340, 0), (340, 6, 0, 0, 0, 341, 0), (341, 32, 0, 0, 0, 342, 0), (342, 44, 1, 82, 0, 345, 41), (345, 3, 2, 0, 0, 346, 0), (346, 3, 0, 0, 0, 347, 0), (347, 2, 3, 0, 0, 348, 0), (348, 1, 0, 0, nI 1, 349, 0), (349, 6, 0, 0, 0, 350, 0), (350, 32, 0, 0, 0, 351, 0), (351, 44, 1, 143, 0, 354, 44), (354, 20, 0, 0, 0, 357, 793), (357, 1, 0, 0, nI 0, 358, 0), (358, 41, 0, 0, 0, 359, 0), (359, 3, 1, 0, 0, 360, 0), (360, 3, 0, 0, 0, 361, 0), (361, 2, 3, 0, 0, 362, 0), (362, 1, 0, 0, nI 1, 363, 0), (363, 6, 0, 0, 0, 364, 0), (364, 32, 0, 0, 0, 365, 0), (365, 44, 1, 83, 0, 368, 45), (368, 3, 2, 0, 0, 369, 0), (369, 3, 0, 0, 0, 370, 0), (370, 2, 3, 0, 0, 371, 0), (371, 1, 0, 0, nI 1, 372, 0), (372, 6, 0, 0, 0, 373, 0), (373, 32, 0, 0, 0, 374, 0), (374, 44, 1, 144, 0, 377, 48), (377, 20, 0, 0, 0, 380, 793), (380, 1, 0, 0, nI 0, 381, 0), (381, 41, 0, 0, 0, 382, 0), (382, 3, 1, 0, 0, 383, 0), (383, 3, 0, 0, 0, 384, 0), (384, 2, 3, 0, 0, 385, 0), (385, 1, 0, 0, nI 1, 386, 0), (386, 6, 0, 0, 0, 387, 0), (387, 32, 0, 0, 0, 388, 0), (388, 44, 1, 84, 0, 391, 49), (391, 3, 2, 0, 0, 392, 0), (392, 3, 0, 0, 0, 393, 0), (393, 2, 3, 0, 0, 394, 0), (394, 1, 0, 0, nI 1, 395, 0), (395, 6, 0, 0, 0, 396, 0), (396, 32, 0, 0, 0, 397, 0), (397, 44, 1, 145, 0, 400, 52), (400, 20, 0, 0, 0, 403, 793), (403, 1, 0, 0, nI 0, 404, 0), (404, 41, 0, 0, 0, 405, 0), (405, 3, 1, 0, 0, 406, 0), (406, 44, 0, 85, 0, 409, 53), (409, 3, 2, 0, 0, 410, 0), (410, 44, 0, 146, 0, 413, 56), (413, 20, 0, 0, 0, 416, 793), (416, 1, 0, 0, nI 0, 417, 0), (417, 41, 0, 0, 0, 418, 0), (418, 3, 1, 0, 0, 419, 0), (419, 3, 0, 0, 0, 420, 0), (420, 2, 3, 0, 0, 421, 0), (421, 1, 0, 0, nI 1, 422, 0), (422, 6, 0, 0, 0, 423, 0), (423, 32, 0, 0, 0, 424, 0), (424, 44, 1, 86, 0, 427, 57), (427, 3, 2, 0, 0, 428, 0), (428, 3, 0, 0, 0, 429, 0), (429, 2, 3, 0, 0, 430, 0), (430, 1, 0, 0, nI 1, 431, 0), (431, 6, 0, 0, 0, 432, 0), (432, 32, 0, 0, 0, 433, 0), (433, 44, 1, 147, 0, 436, 60), (436, 20, 0, 0, 0, 439, 793), (439, 1, 0, 0, nI 0, 440, 0), (440, 41, 0, 0, 0, 441, 0), (441, 3, 1, 0, 0, 442, 0), (442, 44, 0, 87, 0, 445, 61), (445, 3, 2, 0, 0, 446, 0), (446, 44, 0, 148, 0, 449, 64), (449, 20, 0, 0, 0, 452, 793), (452, 1, 0, 0, nI 0, 453, 0), (453, 41, 0, 0, 0, 454, 0), (454, 3, 1, 0, 0, 455, 0), (455, 44, 0, 88, 0, 458, 65), (458, 3, 2, 0, 0, 459, 0), (459, 44, 0, 153, 0, 462, 68), (462, 20, 0, 0, 0, 465, 793), (465, 1, 0, 0, nI 0, 466, 0), (466, 41, 0, 0, 0, 467, 0), (467, 3, 1, 0, 0, 468, 0), (468, 3, 0, 0, 0, 469, 0), (469, 2, 3, 0, 0, 470, 0), (470, 1, 0, 0, nI 1, 471, 0), (471, 6, 0, 0, 0, 472, 0), (472, 32, 0, 0, 0, 473, 0), (473, 44, 1, 89, 0, 476, 69), (476, 3, 2, 0, 0, 477, 0), (477, 3, 0, 0, 0, 478, 0), (478, 2, 3, 0, 0, 479, 0), (479, 1, 0, 0, nI 1, 480, 0), (480, 6, 0, 0, 0, 481, 0), (481, 32, 0, 0, 0, 482, 0), (482, 44, 1, 156, 0, 485, 72), (485, 20, 0, 0, 0, 488, 793), (488, 1, 0, 0, nI 0, 489, 0), (489, 41, 0, 0, 0, 490, 0), (490, 3, 1, 0, 0, 491, 0), (491, 3, 0, 0, 0, 492, 0), (492, 2, 3, 0, 0, 493, 0), (493, 1, 0, 0, nI 1, 494, 0), (494, 6, 0, 0, 0, 495, 0), (495, 32, 0, 0, 0, 496, 0), (496, 3, 0, 0, 0, 497, 0), (497, 2, 3, 0, 0, 498, 0), (498, 1, 0, 0, nI 2, 499, 0), (499, 6, 0, 0, 0, 500, 0), (500, 32, 0, 0, 0, 501, 0), (501, 44, 2, 90, 0, 504, 73), (504, 3, 2, 0, 0, 505, 0), (505, 3, 0, 0, 0, 506, 0), (506, 2, 3, 0, 0, 507, 0), (507, 1, 0, 0, nI 1, 508, 0), (508, 6, 0, 0, 0, 509, 0), (509, 32, 0, 0, 0, 510, 0), (510, 3, 0, 0, 0, 511, 0), (511, 2, 3, 0, 0, 512, 0), (512, 1, 0, 0, nI 2, 513, 0), (513, 6, 0, 0, 0, 514, 0), (514, 32, 0, 0, 0, 515, 0), (515, 44, 2, 157, 0, 518, 76), (518, 20, 0, 0, 0, 521, 793), (521, 1, 0, 0, nI 0, 522, 0), (522, 41, 0, 0, 0, 523, 0), (523, 3, 1, 0, 0, 524, 0), (524, 3, 0, 0, 0, 525, 0), (525, 2, 3, 0, 0, 526, 0), (526, 1, 0, 0, nI 1, 527, 0), (527, 6, 0, 0, 0, 528, 0), (528, 32, 0, 0, 0, 529, 0), (529, 3, 0, 0, 0, 530, 0), (530, 2, 3, 0, 0, 531, 0), (531, 1, 0, 0, nI 2, 532, 0), (532, 6, 0, 0, 0, 533, 0), (533, 32, 0, 0, 0, 534, 0), (534, 44, 2, 91, 0, 537, 77), (537, 3, 2, 0, 0, 538, 0), (538, 3, 0, 0, 0, 539, 0), (539, 2, 3, 0, 0, 540, 0), (540, 1, 0, 0, nI 1, 541, 0), (541, 6, 0, 0, 0, 542, 0), (542, 32, 0, 0, 0, 543, 0), (543, 3, 0, 0, 0, 544, 0), (544, 2, 3, 0, 0, 545, 0), (545, 1, 0, 0, nI 2, 546, 0), (546, 6, 0, 0, 0, 547, 0), (547, 32, 0, 0, 0, 548, 0), (548, 44, 2, 159, 0, 551, 80), (551, 20, 0, 0, 0, 554, 793), (554, 1, 0, 0, nI 0, 555, 0), (555, 41, 0, 0, 0, 556, 0), (556, 3, 1, 0, 0, 557, 0), (557, 3, 0, 0, 0, 558, 0), (558, 2, 3, 0, 0, 559, 0), (559, 1, 0, 0, nI 1, 560, 0), (560, 6, 0, 0, 0, 561, 0), (561, 32, 0, 0, 0, 562, 0), (562, 3, 0, 0, 0, 563, 0), (563, 2, 3, 0, 0, 564, 0), (564, 1, 0, 0, nI 2, 565, 0), (565, 6, 0, 0, 0, 566, 0), (566, 32, 0, 0, 0, 567, 0), (567, 44, 2, 92, 0, 570, 81), (570, 3, 2, 0, 0, 571, 0), (571, 3, 0, 0, 0, 572, 0), (572, 2, 3, 0, 0, 573, 0), (573, 1, 0, 0, nI 1, 574, 0), (574, 6, 0, 0, 0, 575, 0), (575, 32, 0, 0, 0, 576, 0), (576, 3, 0, 0, 0, 577, 0), (577, 2, 3, 0, 0, 578, 0), (578, 1, 0, 0, nI 2, 579, 0), (579, 6, 0, 0, 0, 580, 0), (580, 32, 0, 0, 0, 581, 0), (581, 44, 2, 160, 0, 584, 84), (584, 20, 0, 0, 0, 587, 793), (587, 1, 0, 0, nI 0, 588, 0), (588, 41, 0, 0, 0, 589, 0), (589, 3, 1, 0, 0, 590, 0), (590, 3, 0, 0, 0, 591, 0), (591, 2, 3, 0, 0, 592, 0), (592, 1, 0, 0, nI 1, 593, 0), (593, 6, 0, 0, 0, 594, 0), (594, 32, 0, 0, 0, 595, 0), (595, 3, 0, 0, 0, 596, 0), (596, 2, 3, 0, 0, 597, 0), (597, 1, 0, 0, nI 2, 598, 0), (598, 6, 0, 0, 0, 599, 0), (599, 32, 0, 0, 0, 600, 0), (600, 44, 2, 93, 0, 603, 85), (603, 3, 2, 0, 0, 604, 0), (604, 3, 0, 0, 0, 605, 0), (605, 2, 3, 0, 0, 606, 0), (606, 1, 0, 0, nI 1, 607, 0), (607, 6, 0, 0, 0, 608, 0), (608, 32, 0, 0, 0, 609, 0), (609, 3, 0, 0, 0, 610, 0), (610, 2, 3, 0, 0, 611, 0), (611, 1, 0, 0, nI 2, 612, 0), (612, 6, 0, 0, 0, 613, 0), (613, 32, 0, 0, 0, 614, 0), (614, 44, 2, 161, 0, 617, 88), (617, 20, 0, 0, 0, 620, 793), (620, 1, 0, 0, nI 0, 621, 0), (621, 41, 0, 0, 0, 622, 0), (622, 3, 1, 0, 0, 623, 0), (623, 3, 0, 0, 0, 624, 0), (624, 2, 3, 0, 0, 625, 0), (625, 1, 0, 0, nI 1, 626, 0), (626, 6, 0, 0, 0, 627, 0), (627, 32, 0, 0, 0, 628, 0), (628, 3, 0, 0, 0, 629, 0), (629, 2, 3, 0, 0, 630, 0), (630, 1, 0, 0, nI 2, 631, 0), (631, 6, 0, 0, 0, 632, 0), (632, 32, 0, 0, 0, 633, 0), (633, 44, 2, 94, 0, 636, 89), (636, 3, 2, 0, 0, 637, 0), (637, 3, 0, 0, 0, 638, 0), (638, 2, 3, 0, 0, 639, 0), (639, 1, 0, 0, nI 1, 640, 0), (640, 6, 0, 0, 0, 641, 0), (641, 32, 0, 0, 0, 642, 0), (642, 3, 0, 0, 0, 643, 0), (643, 2, 3, 0, 0, 644, 0), (644, 1, 0, 0, nI 2, 645, 0), (645, 6, 0, 0, 0, 646, 0), (646, 32, 0, 0, 0, 647, 0), (647, 44, 2, 162, 0, 650, 92), (650, 20, 0, 0, 0, 653, 793), (653, 1, 0, 0, nI 0, 654, 0), (654, 41, 0, 0, 0, 655, 0), (655, 3, 1, 0, 0, 656, 0), (656, 3, 0, 0, 0, 657, 0), (657, 2, 3, 0, 0, 658, 0), (658, 1, 0, 0, nI 1, 659, 0), (659, 6, 0, 0, 0, 660, 0), (660, 32, 0, 0, 0, 661, 0), (661, 44, 1, 95, 0, 664, 93), (664, 3, 2, 0, 0, 665, 0), (665, 3, 0, 0, 0, 666, 0), (666, 2, 3, 0, 0, 667, 0), (667, 1, 0, 0, nI 1, 668, 0), (668, 6, 0, 0, 0, 669, 0), (669, 32, 0, 0, 0, 670, 0), (670, 44, 1, 163, 0, 673, 96), (673, 20, 0, 0, 0, 676, 793), (676, 1, 0, 0, nI 0, 677, 0), (677, 41, 0, 0, 0, 678, 0), (678, 3, 1, 0, 0, 679, 0), (679, 3, 0, 0, 0, 680, 0), (680, 2, 3, 0, 0, 681, 0), (681, 1, 0, 0, nI 1, 682, 0), (682, 6, 0, 0, 0, 683, 0), (683, 32, 0, 0, 0, 684, 0), (684, 3, 0, 0, 0, 685, 0), (685, 2, 3, 0, 0, 686, 0), (686, 1, 0, 0, nI 2, 687, 0), (687, 6, 0, 0, 0, 688, 0), (688, 32, 0, 0, 0, 689, 0), (689, 44, 2, 96, 0, 692, 97), (692, 3, 2, 0, 0, 693, 0), (693, 3, 0, 0, 0, 694, 0), (694, 2, 3, 0, 0, 695, 0), (695, 1, 0, 0, nI 1, 696, 0), (696, 6, 0, 0, 0, 697, 0), (697, 32, 0, 0, 0, 698, 0), (698, 3, 0, 0, 0, 699, 0), (699, 2, 3, 0, 0, 700, 0), (700, 1, 0, 0, nI 2, 701, 0), (701, 6, 0, 0, 0, 702, 0), (702, 32, 0, 0, 0, 703, 0), (703, 44, 2, 164, 0, 706, 100), (706, 20, 0, 0, 0, 709, 793), (709, 1, 0, 0, nI 0, 710, 0), (710, 41, 0, 0, 0, 711, 0), (711, 3, 1, 0, 0, 712, 0), (712, 44, 0, 97, 0, 715, 101), (715, 3, 2, 0, 0, 716, 0), (716, 44, 0, 167, 0, 719, 104), (719, 20, 0, 0, 0, 722, 793), (722, 1, 0, 0, nI 0, 723, 0), (723, 41, 0, 0, 0, 724, 0), (724, 3, 1, 0, 0, 725, 0), (725, 3, 0, 0, 0, 726, 0), (726, 2, 3, 0, 0, 727, 0), (727, 1, 0, 0, nI 1, 728, 0), (728, 6, 0, 0, 0, 729, 0), (729, 32, 0, 0, 0, 730, 0), (730, 44, 1, 98, 0, 733, 105), (733, 3, 2, 0, 0, 734, 0), (734, 3, 0, 0, 0, 735, 0), (735, 2, 3, 0, 0, 736, 0), (736, 1, 0, 0, nI 1, 737, 0), (737, 6, 0, 0, 0, 738, 0), (738, 32, 0, 0, 0, 739, 0), (739, 44, 1, 168, 0, 742, 108), (742, 20, 0, 0, 0, 745, 793), (745, 1, 0, 0, nI 0, 746, 0), (746, 41, 0, 0, 0, 747, 0), (747, 3, 1, 0, 0, 748, 0), (748, 3, 0, 0, 0, 749, 0), (749, 2, 3, 0, 0, 750, 0), (750, 1, 0, 0, nI 1, 751, 0), (751, 6, 0, 0, 0, 752, 0), (752, 32, 0, 0, 0, 753, 0), (753, 44, 1, 99, 0, 756, 109), (756, 3, 2, 0, 0, 757, 0), (757, 3, 0, 0, 0, 758, 0), (758, 2, 3, 0, 0, 759, 0), (759, 1, 0, 0, nI 1, 760, 0), (760, 6, 0, 0, 0, 761, 0), (761, 32, 0, 0, 0, 762, 0), (762, 44, 1, 169, 0, 765, 112), (765, 20, 0, 0, 0, 768, 793), (768, 1, 0, 0, nI 0, 769, 0), (769, 41, 0, 0, 0, 770, 0), (770, 3, 1, 0, 0, 771, 0), (771, 3, 0, 0, 0, 772, 0), (772, 2, 3, 0, 0, 773, 0), (773, 1, 0, 0, nI 1, 774, 0), (774, 6, 0, 0, 0, 775, 0), (775, 32, 0, 0, 0, 776, 0), (776, 44, 1, 100, 0, 779, 113), (779, 3, 2, 0, 0, 780, 0), (780, 3, 0, 0, 0, 781, 0), (781, 2, 3, 0, 0, 782, 0), (782, 1, 0, 0, nI 1, 783, 0), (783, 6, 0, 0, 0, 784, 0), (784, 32, 0, 0, 0, 785, 0), (785, 44, 1, 170, 0, 788, 116), (788, 20, 0, 0, 0, 791, 793), (791, 1, 0, 0, nI 0, 792, 0), (792, 41, 0, 0, 0, 793, 0), (793, 12, 3, 0, nI 4, 796, 0), (796, 13, 0, 0, 0, 18, 0), (799, 1, 0, 0, nI 1, 800, 0), (800, 41, 0, 0, 0, 801, 0)]
def jLaw (nm : String) : JT := (0, ⟨RL, nm, ""⟩, code, 4, some .boolean, 10, 362, 10, tL_law)
def tL_0 : List (Nat × OpT) := [(0, 47, 0, 0, 0, 3, 7), (3, 26, 0, 0, 0, 4, 0), (4, 45, 0, 75, 0, 7, 9), (7, 5, 1, 0, 0, 8, 0), (8, 47, 0, 0, 0, 11, 10), (11, 26, 0, 0, 0, 12, 0), (12, 45, 0, 107, 0, 15, 12), (15, 5, 2, 0, 0, 16, 0), (16, 1, 0, 0, nI 0, 17, 0), (17, 4, 3, 0, 0, 18, 0), (18, 2, 3, 0, 0, 19, 0), (19, 3, 0, 0, 0, 20, 0), (20, 40, 0, 0, 0, 21, 0), (21, 1, 0, 0, nI 4, 22, 0), (22, 7, 0, 0, 0, 23, 0), (23, 24, 0, 0, 0, 26, 799), (26, 3, 0, 0, 0, 27, 0), (27, 2, 3, 0, 0, 28, 0), (28, 32, 0, 0, 0, 29, 0), (29, 1, 0, 0, nI 31, 31, 0), (31, 10, 0, 0, 0, 32, 0), (32, 43, 0, 0, 0, 148, 0), (148, 3, 1, 0, 0, 149, 0), (149, 3, 0, 0, 0, 150, 0)]
set_option maxRecDepth 100000 in
theorem okL_0 : tL_0.all (fun q => okOp 10 4 code q.1 q.2) = true := by decide +kernel
def tL_1 : List (Nat × OpT) := [(150, 2, 3, 0, 0, 151, 0), (151, 1, 0, 0, nI 1, 152, 0), (152, 6, 0, 0, 0, 153, 0), (153, 32, 0, 0, 0, 154, 0), (154, 3, 0, 0, 0, 155, 0), (155, 2, 3, 0, 0, 156, 0), (156, 1, 0, 0, nI 2, 157, 0), (157, 6, 0, 0, 0, 158, 0), (158, 32, 0, 0, 0, 159, 0), (159, 3, 0, 0, 0, 160, 0), (160, 2, 3, 0, 0, 161, 0), (161, 1, 0, 0, nI 3, 162, 0), (162, 6, 0, 0, 0, 163, 0), (163, 32, 0, 0, 0, 164, 0), (164, 44, 3, 76, 0, 167, 13), (167, 3, 2, 0, 0, 168, 0), (168, 3, 0, 0, 0, 169, 0), (169, 2, 3, 0, 0, 170, 0), (170, 1, 0, 0, nI 1, 171, 0), (171, 6, 0, 0, 0, 172, 0), (172, 32, 0, 0, 0, 173, 0), (173, 3, 0, 0, 0, 174, 0), (174, 2, 3, 0, 0, 175, 0), (175, 1, 0, 0, nI 2, 176, 0)]
set_option maxRecDepth 100000 in
theorem okL_1 : tL_1.all (fun q => okOp 10 4 code q.1 q.2) = true := by decide +kernel
def tL_2 : List (Nat × OpT) := [(176, 6, 0, 0, 0, 177, 0), (177, 32, 0, 0, 0, 178, 0), (178, 3, 0, 0, 0, 179, 0), (179, 2, 3, 0, 0, 180, 0), (180, 1, 0, 0, nI 3, 181, 0), (181, 6, 0, 0, 0, 182, 0), (182, 32, 0, 0, 0, 183, 0), (183, 44, 3, 124, 0, 186, 17), (186, 20, 0, 0, 0, 189, 793), (189, 1, 0, 0, nI 0, 190, 0), (190, 41, 0, 0, 0, 191, 0), (191, 3, 1, 0, 0, 192, 0), (192, 44, 0, 77, 0, 195, 18), (195, 3, 2, 0, 0, 196, 0), (196, 44, 0, 129, 0, 199, 22), (199, 20, 0, 0, 0, 202, 793), (202, 1, 0, 0, nI 0, 203, 0), (203, 41, 0, 0, 0, 204, 0), (204, 3, 1, 0, 0, 205, 0), (205, 3, 0, 0, 0, 206, 0), (206, 2, 3, 0, 0, 207, 0), (207, 1, 0, 0, nI 1, 208, 0), (208, 6, 0, 0, 0, 209, 0), (209, 32, 0, 0, 0, 210, 0)]
set_option maxRecDepth 100000 in
theorem okL_2 : tL_2.all (fun q => okOp 10 4 code q.1 q.2) = true := by decide +kernel
def tL_3 : List (Nat × OpT) := [(210, 3, 0, 0, 0, 211, 0), (211, 2, 3, 0, 0, 212, 0), (212, 1, 0, 0, nI 2, 213, 0), (213, 6, 0, 0, 0, 214, 0), (214, 32, 0, 0, 0, 215, 0), (215, 3, 0, 0, 0, 216, 0), (216, 2, 3, 0, 0, 217, 0), (217, 1, 0, 0, nI 3, 218, 0), (218, 6, 0, 0, 0, 219, 0), (219, 32, 0, 0, 0, 220, 0), (220, 44, 3, 78, 0, 223, 23), (223, 3, 2, 0, 0, 224, 0), (224, 3, 0, 0, 0, 225, 0), (225, 2, 3, 0, 0, 226, 0), (226, 1, 0, 0, nI 1, 227, 0), (227, 6, 0, 0, 0, 228, 0), (228, 32, 0, 0, 0, 229, 0), (229, 3, 0, 0, 0, 230, 0), (230, 2, 3, 0, 0, 231, 0), (231, 1, 0, 0, nI 2, 232, 0), (232, 6, 0, 0, 0, 233, 0), (233, 32, 0, 0, 0, 234, 0), (234, 3, 0, 0, 0, 235, 0), (235, 2, 3, 0, 0, 236, 0)]
set_option maxRecDepth 100000 in
theorem okL_3 : tL_3.all (fun q => okOp 10 4 code q.1 q.2) = true := by decide +kernel
def tL_4 : List (Nat × OpT) := [(236, 1, 0, 0, nI 3, 237, 0), (237, 6, 0, 0, 0, 238, 0), (238, 32, 0, 0, 0, 239, 0), (239, 44, 3, 132, 0, 242, 26), (242, 20, 0, 0, 0, 245, 793), (245, 1, 0, 0, nI 0, 246, 0), (246, 41, 0, 0, 0, 247, 0), (247, 3, 1, 0, 0, 248, 0), (248, 3, 0, 0, 0, 249, 0), (249, 2, 3, 0, 0, 250, 0), (250, 1, 0, 0, nI 1, 251, 0), (251, 6, 0, 0, 0, 252, 0), (252, 32, 0, 0, 0, 253, 0), (253, 3, 0, 0, 0, 254, 0), (254, 2, 3, 0, 0, 255, 0), (255, 1, 0, 0, nI 2, 256, 0), (256, 6, 0, 0, 0, 257, 0), (257, 32, 0, 0, 0, 258, 0), (258, 44, 2, 79, 0, 261, 27), (261, 3, 2, 0, 0, 262, 0), (262, 3, 0, 0, 0, 263, 0), (263, 2, 3, 0, 0, 264, 0), (264, 1, 0, 0, nI 1, 265, 0), (265, 6, 0, 0, 0, 266, 0)]
set_option maxRecDepth 100000 in
theorem okL_4 : tL_4.all (fun q => okOp 10 4 code q.1 q.2) = true := by decide +kernel
def tL_5 : List (Nat × OpT) := [(266, 32, 0, 0, 0, 267, 0), (267, 3, 0, 0, 0, 268, 0), (268, 2, 3, 0, 0, 269, 0), (269, 1, 0, 0, nI 2, 270, 0), (270, 6, 0, 0, 0, 271, 0), (271, 32, 0, 0, 0, 272, 0), (272, 44, 2, 134, 0, 275, 31), (275, 20, 0, 0, 0, 278, 793), (278, 1, 0, 0, nI 0, 279, 0), (279, 41, 0, 0, 0, 280, 0), (280, 3, 1, 0, 0, 281, 0), (281, 3, 0, 0, 0, 282, 0), (282, 2, 3, 0, 0, 283, 0), (283, 1, 0, 0, nI 1, 284, 0), (284, 6, 0, 0, 0, 285, 0), (285, 32, 0, 0, 0, 286, 0), (286, 3, 0, 0, 0, 287, 0), (287, 2, 3, 0, 0, 288, 0), (288, 1, 0, 0, nI 2, 289, 0), (289, 6, 0, 0, 0, 290, 0), (290, 32, 0, 0, 0, 291, 0), (291, 44, 2, 80, 0, 294, 32), (294, 3, 2, 0, 0, 295, 0), (295, 3, 0, 0, 0, 296, 0)]
set_option maxRecDepth 100000 in
theorem okL_5 : tL_5.all (fun q => okOp 10 4 code q.1 q.2) = true := by decide +kernel
def tL_6 : List (Nat × OpT) := [(296, 2, 3, 0, 0, 297, 0), (297, 1, 0, 0, nI 1, 298, 0), (298, 6, 0, 0, 0, 299, 0), (299, 32, 0, 0, 0, 300, 0), (300, 3, 0, 0, 0, 301, 0), (301, 2, 3, 0, 0, 302, 0), (302, 1, 0, 0, nI 2, 303, 0), (303, 6, 0, 0, 0, 304, 0), (304, 32, 0, 0, 0, 305, 0), (305, 44, 2, 136, 0, 308, 35), (308, 20, 0, 0, 0, 311, 793), (311, 1, 0, 0, nI 0, 312, 0), (312, 41, 0, 0, 0, 313, 0), (313, 3, 1, 0, 0, 314, 0), (314, 3, 0, 0, 0, 315, 0), (315, 2, 3, 0, 0, 316, 0), (316, 1, 0, 0, nI 1, 317, 0), (317, 6, 0, 0, 0, 318, 0), (318, 32, 0, 0, 0, 319, 0), (319, 44, 1, 81, 0, 322, 36), (322, 3, 2, 0, 0, 323, 0), (323, 3, 0, 0, 0, 324, 0), (324, 2, 3, 0, 0, 325, 0), (325, 1, 0, 0, nI 1, 326, 0)]
set_option maxRecDepth 100000 in
theorem okL_6 : tL_6.all (fun q => okOp 10 4 code q.1 q.2) = true := by decide +kernel
def tL_7 : List (Nat × OpT) := [(326, 6, 0, 0, 0, 327, 0), (327, 32, 0, 0, 0, 328, 0), (328, 44, 1, 139, 0, 331, 40), (331, 20, 0, 0, 0, 334, 793), (334, 1, 0, 0, nI 0, 335, 0), (335, 41, 0, 0, 0, 336, 0), (336, 3, 1, 0, 0, 337, 0), (337, 3, 0, 0, 0, 338, 0), (338, 2, 3, 0, 0, 339, 0), (339, 1, 0, 0, nI 1, 340, 0), (340, 6, 0, 0, 0, 341, 0), (341, 32, 0, 0, 0, 342, 0), (342, 44, 1, 82, 0, 345, 41), (345, 3, 2, 0, 0, 346, 0), (346, 3, 0, 0, 0, 347, 0), (347, 2, 3, 0, 0, 348, 0), (348, 1, 0, 0, nI 1, 349, 0), (349, 6, 0, 0, 0, 350, 0), (350, 32, 0, 0, 0, 351, 0), (351, 44, 1, 143, 0, 354, 44), (354, 20, 0, 0, 0, 357, 793), (357, 1, 0, 0, nI 0, 358, 0), (358, 41, 0, 0, 0, 359, 0), (359, 3, 1, 0, 0, 360, 0)]
set_option maxRecDepth 100000 in
theorem okL_7 : tL_7.all (fun q => okOp 10 4 code q.1 q.2) = true := by decide +kernel
def tL_8 : List (Nat × OpT) := [(360, 3, 0, 0, 0, 361, 0), (361, 2, 3, 0, 0, 362, 0), (362, 1, 0, 0, nI 1, 363, 0), (363, 6, 0, 0, 0, 364, 0), (364, 32, 0, 0, 0, 365, 0), (365, 44, 1, 83, 0, 368, 45), (368, 3, 2, 0, 0, 369, 0), (369, 3, 0, 0, 0, 370, 0), (370, 2, 3, 0, 0, 371, 0), (371, 1, 0, 0, nI 1, 372, 0), (372, 6, 0, 0, 0, 373, 0), (373, 32, 0, 0, 0, 374, 0), (374, 44, 1, 144, 0, 377, 48), (377, 20, 0, 0, 0, 380, 793), (380, 1, 0, 0, nI 0, 381, 0), (381, 41, 0, 0, 0, 382, 0), (382, 3, 1, 0, 0, 383, 0), (383, 3, 0, 0, 0, 384, 0), (384, 2, 3, 0, 0, 385, 0), (385, 1, 0, 0, nI 1, 386, 0), (386, 6, 0, 0, 0, 387, 0), (387, 32, 0, 0, 0, 388, 0), (388, 44, 1, 84, 0, 391, 49), (391, 3, 2, 0, 0, 392, 0)]
set_option maxRecDepth 100000 in
theorem okL_8 : tL_8.all (fun q => okOp 10 4 code q.1 q.2) = true := by decide +kernel
def tL_9 : List (Nat × OpT) := [(392, 3, 0, 0, 0, 393, 0), (393, 2, 3, 0, 0, 394, 0), (394, 1, 0, 0, nI 1, 395, 0), (395, 6, 0, 0, 0, 396, 0), (396, 32, 0, 0, 0, 397, 0), (397, 44, 1, 145, 0, 400, 52), (400, 20, 0, 0, 0, 403, 793), (403, 1, 0, 0, nI 0, 404, 0), (404, 41, 0, 0, 0, 405, 0), (405, 3, 1, 0, 0, 406, 0), (406, 44, 0, 85, 0, 409, 53), (409, 3, 2, 0, 0, 410, 0), (410, 44, 0, 146, 0, 413, 56), (413, 20, 0, 0, 0, 416, 793), (416, 1, 0, 0, nI 0, 417, 0), (417, 41, 0, 0, 0, 418, 0), (418, 3, 1, 0, 0, 419, 0), (419, 3, 0, 0, 0, 420, 0), (420, 2, 3, 0, 0, 421, 0), (421, 1, 0, 0, nI 1, 422, 0), (422, 6, 0, 0, 0, 423, 0), (423, 32, 0, 0, 0, 424, 0), (424, 44, 1, 86, 0, 427, 57), (427, 3, 2, 0, 0, 428, 0)]
set_option maxRecDepth 100000 in
theorem okL_9 : tL_9.all (fun q => okOp 10 4 code q.1 q.2) = true := by decide +kernel
def tL_10 : List (Nat × OpT) := [(428, 3, 0, 0, 0, 429, 0), (429, 2, 3, 0, 0, 430, 0), (430, 1, 0, 0, nI 1, 431, 0), (431, 6, 0, 0, 0, 432, 0), (432, 32, 0, 0, 0, 433, 0), (433, 44, 1, 147, 0, 436, 60), (436, 20, 0, 0, 0, 439, 793), (439, 1, 0, 0, nI 0, 440, 0), (440, 41, 0, 0, 0, 441, 0), (441, 3, 1, 0, 0, 442, 0), (442, 44, 0, 87, 0, 445, 61), (445, 3, 2, 0, 0, 446, 0), (446, 44, 0, 148, 0, 449, 64), (449, 20, 0, 0, 0, 452, 793), (452, 1, 0, 0, nI 0, 453, 0), (453, 41, 0, 0, 0, 454, 0), (454, 3, 1, 0, 0, 455, 0), (455, 44, 0, 88, 0, 458, 65), (458, 3, 2, 0, 0, 459, 0), (459, 44, 0, 153, 0, 462, 68), (462, 20, 0, 0, 0, 465, 793), (465, 1, 0, 0, nI 0, 466, 0), (466, 41, 0, 0, 0, 467, 0), (467, 3, 1, 0, 0, 468, 0)]
set_option maxRecDepth 100000 in
theorem okL_10 : tL_10.all (fun q => okOp 10 4 code q.1 q.2) = true := by decide +kernel
def tL_11 : List (Nat × OpT) := [(468, 3, 0, 0, 0, 469, 0), (469, 2, 3, 0, 0, 470, 0), (470, 1, 0, 0, nI 1, 471, 0), (471, 6, 0, 0, 0, 472, 0), (472, 32, 0, 0, 0, 473, 0), (473, 44, 1, 89, 0, 476, 69), (476, 3, 2, 0, 0, 477, 0), (477, 3, 0, 0, 0, 478, 0), (478, 2, 3, 0, 0, 479, 0), (479, 1, 0, 0, nI 1, 480, 0), (480, 6, 0, 0, 0, 481, 0), (481, 32, 0, 0, 0, 482, 0), (482, 44, 1, 156, 0, 485, 72), (485, 20, 0, 0, 0, 488, 793), (488, 1, 0, 0, nI 0, 489, 0), (489, 41, 0, 0, 0, 490, 0), (490, 3, 1, 0, 0, 491, 0), (491, 3, 0, 0, 0, 492, 0), (492, 2, 3, 0, 0, 493, 0), (493, 1, 0, 0, nI 1, 494, 0), (494, 6, 0, 0, 0, 495, 0), (495, 32, 0, 0, 0, 496, 0), (496, 3, 0, 0, 0, 497, 0), (497, 2, 3, 0, 0, 498, 0)]
set_option maxRecDepth 100000 in
theorem okL_11 : tL_11.all (fun q => okOp 10 4 code q.1 q.2) = true := by decide +kernel
def tL_12 : List (Nat × OpT) := [(498, 1, 0, 0, nI 2, 499, 0), (499, 6, 0, 0, 0, 500, 0), (500, 32, 0, 0, 0, 501, 0), (501, 44, 2, 90, 0, 504, 73), (504, 3, 2, 0, 0, 505, 0), (505, 3, 0, 0, 0, 506, 0), (506, 2, 3, 0, 0, 507, 0), (507, 1, 0, 0, nI 1, 508, 0), (508, 6, 0, 0, 0, 509, 0), (509, 32, 0, 0, 0, 510, 0), (510, 3, 0, 0, 0, 511, 0), (511, 2, 3, 0, 0, 512, 0), (512, 1, 0, 0, nI 2, 513, 0), (513, 6, 0, 0, 0, 514, 0), (514, 32, 0, 0, 0, 515, 0), (515, 44, 2, 157, 0, 518, 76), (518, 20, 0, 0, 0, 521, 793), (521, 1, 0, 0, nI 0, 522, 0), (522, 41, 0, 0, 0, 523, 0), (523, 3, 1, 0, 0, 524, 0), (524, 3, 0, 0, 0, 525, 0), (525, 2, 3, 0, 0, 526, 0), (526, 1, 0, 0, nI 1, 527, 0), (527, 6, 0, 0, 0, 528, 0)]
set_option maxRecDepth 100000 in
theorem okL_12 : tL_12.all (fun q => okOp 10 4 code q.1 q.2) = true := by decide +kernel
def tL_13 : List (Nat × OpT) := [(528, 32, 0, 0, 0, 529, 0), (529, 3, 0, 0, 0, 530, 0), (530, 2, 3, 0, 0, 531, 0), (531, 1, 0, 0, nI 2, 532, 0), (532, 6, 0, 0, 0, 533, 0), (533, 32, 0, 0, 0, 534, 0), (534, 44, 2, 91, 0, 537, 77), (537, 3, 2, 0, 0, 538, 0), (538, 3, 0, 0, 0, 539, 0), (539, 2, 3, 0, 0, 540, 0), (540, 1, 0, 0, nI 1, 541, 0), (541, 6, 0, 0, 0, 542, 0), (542, 32, 0, 0, 0, 543, 0), (543, 3, 0, 0, 0, 544, 0), (544, 2, 3, 0, 0, 545, 0), (545, 1, 0, 0, nI 2, 546, 0), (546, 6, 0, 0, 0, 547, 0), (547, 32, 0, 0, 0, 548, 0), (548, 44, 2, 159, 0, 551, 80), (551, 20, 0, 0, 0, 554, 793), (554, 1, 0, 0, nI 0, 555, 0), (555, 41, 0, 0, 0, 556, 0), (556, 3, 1, 0, 0, 557, 0), (557, 3, 0, 0, 0, 558, 0)]
set_option maxRecDepth 100000 in
theorem okL_13 : tL_13.all (fun q => okOp 10 4 code q.1 q.2) = true := by decide +kernel
def tL_14 : List (Nat × OpT) := [(558, 2, 3, 0, 0, 559, 0), (559, 1, 0, 0, nI 1, 560, 0), (560, 6, 0, 0, 0, 561, 0), (561, 32, 0, 0, 0, 562, 0), (562, 3, 0, 0, 0, 563, 0), (563, 2, 3, 0, 0, 564, 0), (564, 1, 0, 0, nI 2, 565, 0), (565, 6, 0, 0, 0, 566, 0), (566, 32, 0, 0, 0, 567, 0), (567, 44, 2, 92, 0, 570, 81), (570, 3, 2, 0, 0, 571, 0), (571, 3, 0, 0, 0, 572, 0), (572, 2, 3, 0, 0, 573, 0), (573, 1, 0, 0, nI 1, 574, 0), (574, 6, 0, 0, 0, 575, 0), (575, 32, 0, 0, 0, 576, 0), (576, 3, 0, 0, 0, 577, 0), (577, 2, 3, 0, 0, 578, 0), (578, 1, 0, 0, nI 2, 579, 0), (579, 6, 0, 0, 0, 580, 0), (580, 32, 0, 0, 0, 581, 0), (581, 44, 2, 160, 0, 584, 84), (584, 20, 0, 0, 0, 587, 793), (587, 1, 0, 0, nI 0, 588, 0)]
set_option maxRecDepth 100000 in
theorem okL_14 : tL_14.all (fun q => okOp 10 4 code q.1 q.2) = true := by decide +kernel
def tL_15 : List (Nat × OpT) := [(588, 41, 0, 0, 0, 589, 0), (589, 3, 1, 0, 0, 590, 0), (590, 3, 0, 0, 0, 591, 0), (591, 2, 3, 0, 0, 592, 0), (592, 1, 0, 0, nI 1, 593, 0), (593, 6, 0, 0, 0, 594, 0), (594, 32, 0, 0, 0, 595, 0), (595, 3, 0, 0, 0, 596, 0), (596, 2, 3, 0, 0, 597, 0), (597, 1, 0, 0, nI 2, 598, 0), (598, 6, 0, 0, 0, 599, 0), (599, 32, 0, 0, 0, 600, 0), (600, 44, 2, 93, 0, 603, 85), (603, 3, 2, 0, 0, 604, 0), (604, 3, 0, 0, 0, 605, 0), (605, 2, 3, 0, 0, 606, 0), (606, 1, 0, 0, nI 1, 607, 0), (607, 6, 0, 0, 0, 608, 0), (608, 32, 0, 0, 0, 609, 0), (609, 3, 0, 0, 0, 610, 0), (610, 2, 3, 0, 0, 611, 0), (611, 1, 0, 0, nI 2, 612, 0), (612, 6, 0, 0, 0, 613, 0), (613, 32, 0, 0, 0, 614, 0)]
set_option maxRecDepth 100000 in
theorem okL_15 : tL_15.all (fun q => okOp 10 4 code q.1 q.2) = true := by decide +kernel
def tL_16 : List (Nat × OpT) := [(614, 44, 2, 161, 0, 617, 88), (617, 20, 0, 0, 0, 620, 793), (620, 1, 0, 0, nI 0, 621, 0), (621, 41, 0, 0, 0, 622, 0), (622, 3, 1, 0, 0, 623, 0), (623, 3, 0, 0, 0, 624, 0), (624, 2, 3, 0, 0, 625, 0), (625, 1, 0, 0, nI 1, 626, 0), (626, 6, 0, 0, 0, 627, 0), (627, 32, 0, 0, 0, 628, 0), (628, 3, 0, 0, 0, 629, 0), (629, 2, 3, 0, 0, 630, 0), (630, 1, 0, 0, nI 2, 631, 0), (631, 6, 0, 0, 0, 632, 0), (632, 32, 0, 0, 0, 633, 0), (633, 44, 2, 94, 0, 636, 89), (636, 3, 2, 0, 0, 637, 0), (637, 3, 0, 0, 0, 638, 0), (638, 2, 3, 0, 0, 639, 0), (639, 1, 0, 0, nI 1, 640, 0), (640, 6, 0, 0, 0, 641, 0), (641, 32, 0, 0, 0, 642, 0), (642, 3, 0, 0, 0, 643, 0), (643, 2, 3, 0, 0, 644, 0)]
set_option maxRecDepth 100000 in
theorem okL_16 : tL_16.all (fun q => okOp 10 4 code q.1 q.2) = true := by decide +kernel
def tL_17 : List (Nat × OpT) := [(644, 1, 0, 0, nI 2, 645, 0), (645, 6, 0, 0, 0, 646, 0), (646, 32, 0, 0, 0, 647, 0), (647, 44, 2, 162, 0, 650, 92), (650, 20, 0, 0, 0, 653, 793), (653, 1, 0, 0, nI 0, 654, 0), (654, 41, 0, 0, 0, 655, 0), (655, 3, 1, 0, 0, 656, 0), (656, 3, 0, 0, 0, 657, 0), (657, 2, 3, 0, 0, 658, 0), (658, 1, 0, 0, nI 1, 659, 0), (659, 6, 0, 0, 0, 660, 0), (660, 32, 0, 0, 0, 661, 0), (661, 44, 1, 95, 0, 664, 93), (664, 3, 2, 0, 0, 665, 0), (665, 3, 0, 0, 0, 666, 0), (666, 2, 3, 0, 0, 667, 0), (667, 1, 0, 0, nI 1, 668, 0), (668, 6, 0, 0, 0, 669, 0), (669, 32, 0, 0, 0, 670, 0), (670, 44, 1, 163, 0, 673, 96), (673, 20, 0, 0, 0, 676, 793), (676, 1, 0, 0, nI 0, 677, 0), (677, 41, 0, 0, 0, 678, 0)]
set_option maxRecDepth 100000 in
theorem okL_17 : tL_17.all (fun q => okOp 10 4 code q.1 q.2) = true := by decide +kernel
def tL_18 : List (Nat × OpT) := [(678, 3, 1, 0, 0, 679, 0), (679, 3, 0, 0, 0, 680, 0), (680, 2, 3, 0, 0, 681, 0), (681, 1, 0, 0, nI 1, 682, 0), (682, 6, 0, 0, 0, 683, 0), (683, 32, 0, 0, 0, 684, 0), (684, 3, 0, 0, 0, 685, 0), (685, 2, 3, 0, 0, 686, 0), (686, 1, 0, 0, nI 2, 687, 0), (687, 6, 0, 0, 0, 688, 0), (688, 32, 0, 0, 0, 689, 0), (689, 44, 2, 96, 0, 692, 97), (692, 3, 2, 0, 0, 693, 0), (693, 3, 0, 0, 0, 694, 0), (694, 2, 3, 0, 0, 695, 0), (695, 1, 0, 0, nI 1, 696, 0), (696, 6, 0, 0, 0, 697, 0), (697, 32, 0, 0, 0, 698, 0), (698, 3, 0, 0, 0, 699, 0), (699, 2, 3, 0, 0, 700, 0), (700, 1, 0, 0, nI 2, 701, 0), (701, 6, 0, 0, 0, 702, 0), (702, 32, 0, 0, 0, 703, 0), (703, 44, 2, 164, 0, 706, 100)]
set_option maxRecDepth 100000 in
theorem okL_18 : tL_18.all (fun q => okOp 10 4 code q.1 q.2) = true := by decide +kernel
def tL_19 : List (Nat × OpT) := [(706, 20, 0, 0, 0, 709, 793), (709, 1, 0, 0, nI 0, 710, 0), (710, 41, 0, 0, 0, 711, 0), (711, 3, 1, 0, 0, 712, 0), (712, 44, 0, 97, 0, 715, 101), (715, 3, 2, 0, 0, 716, 0), (716, 44, 0, 167, 0, 719, 104), (719, 20, 0, 0, 0, 722, 793), (722, 1, 0, 0, nI 0, 723, 0), (723, 41, 0, 0, 0, 724, 0), (724, 3, 1, 0, 0, 725, 0), (725, 3, 0, 0, 0, 726, 0), (726, 2, 3, 0, 0, 727, 0), (727, 1, 0, 0, nI 1, 728, 0), (728, 6, 0, 0, 0, 729, 0), (729, 32, 0, 0, 0, 730, 0), (730, 44, 1, 98, 0, 733, 105), (733, 3, 2, 0, 0, 734, 0), (734, 3, 0, 0, 0, 735, 0), (735, 2, 3, 0, 0, 736, 0), (736, 1, 0, 0, nI 1, 737, 0), (737, 6, 0, 0, 0, 738, 0), (738, 32, 0, 0, 0, 739, 0), (739, 44, 1, 168, 0, 742, 108)]
set_option maxRecDepth 100000 in
theorem okL_19 : tL_19.all (fun q => okOp 10 4 code q.1 q.2) = true := by decide +kernel
def tL_20 : List (Nat × OpT) := [(742, 20, 0, 0, 0, 745, 793), (745, 1, 0, 0, nI 0, 746, 0), (746, 41, 0, 0, 0, 747, 0), (747, 3, 1, 0, 0, 748, 0), (748, 3, 0, 0, 0, 749, 0), (749, 2, 3, 0, 0, 750, 0), (750, 1, 0, 0, nI 1, 751, 0), (751, 6, 0, 0, 0, 752, 0), (752, 32, 0, 0, 0, 753, 0), (753, 44, 1, 99, 0, 756, 109), (756, 3, 2, 0, 0, 757, 0), (757, 3, 0, 0, 0, 758, 0), (758, 2, 3, 0, 0, 759, 0), (759, 1, 0, 0, nI 1, 760, 0), (760, 6, 0, 0, 0, 761, 0), (761, 32, 0, 0, 0, 762, 0), (762, 44, 1, 169, 0, 765, 112), (765, 20, 0, 0, 0, 768, 793), (768, 1, 0, 0, nI 0, 769, 0), (769, 41, 0, 0, 0, 770, 0), (770, 3, 1, 0, 0, 771, 0), (771, 3, 0, 0, 0, 772, 0), (772, 2, 3, 0, 0, 773, 0), (773, 1, 0, 0, nI 1, 774, 0)]
set_option maxRecDepth 100000 in
theorem okL_20 : tL_20.all (fun q => okOp 10 4 code q.1 q.2) = true := by decide +kernel
def tL_21 : List (Nat × OpT) := [(774, 6, 0, 0, 0, 775, 0), (775, 32, 0, 0, 0, 776, 0), (776, 44, 1, 100, 0, 779, 113), (779, 3, 2, 0, 0, 780, 0), (780, 3, 0, 0, 0, 781, 0), (781, 2, 3, 0, 0, 782, 0), (782, 1, 0, 0, nI 1, 783, 0), (783, 6, 0, 0, 0, 784, 0), (784, 32, 0, 0, 0, 785, 0), (785, 44, 1, 170, 0, 788, 116), (788, 20, 0, 0, 0, 791, 793), (791, 1, 0, 0, nI 0, 792, 0), (792, 41, 0, 0, 0, 793, 0), (793, 12, 3, 0, nI 4, 796, 0), (796, 13, 0, 0, 0, 18, 0), (799, 1, 0, 0, nI 1, 800, 0), (800, 41, 0, 0, 0, 801, 0)]
set_option maxRecDepth 100000 in
theorem okL_21 : tL_21.all (fun q => okOp 10 4 code q.1 q.2) = true := by decide +kernel
theorem all_app {α : Type} {f : α → Bool} {a b : List α} (h1 : a.all f = true) (h2 : b.all f = true) : (a ++ b).all f = true := by rw [List.all_append, h1, h2]; rfl
set_option maxRecDepth 100000 in
theorem okL : tL_law.all (fun q => okOp 10 4 code q.1 q.2) = true := by
  show (tL_0 ++ (tL_1 ++ (tL_2 ++ (tL_3 ++ (tL_4 ++ (tL_5 ++ (tL_6 ++ (tL_7 ++ (tL_8 ++ (tL_9 ++ (tL_10 ++ (tL_11 ++ (tL_12 ++ (tL_13 ++ (tL_14 ++ (tL_15 ++ (tL_16 ++ (tL_17 ++ (tL_18 ++ (tL_19 ++ (tL_20 ++ (tL_21)))))))))))))))))))))).all _ = true
  exact all_app okL_0 (all_app okL_1 (all_app okL_2 (all_app okL_3 (all_app okL_4 (all_app okL_5 (all_app okL_6 (all_app okL_7 (all_app okL_8 (all_app okL_9 (all_app okL_10 (all_app okL_11 (all_app okL_12 (all_app okL_13 (all_app okL_14 (all_app okL_15 (all_app okL_16 (all_app okL_17 (all_app okL_18 (all_app okL_19 (all_app okL_20 (okL_21)))))))))))))))))))))
theorem okLaw (nm : String) : e_TL (jLaw nm) := ⟨okL, rfl⟩
theorem dL_0 : decode code 0 = .ok (.new 7, 3) := by decide +kernel
theorem dL_8 : decode code 8 = .ok (.new 10, 3) := by decide +kernel
theorem dL_32 : decode code 32 = .ok (.tableswitch 761 0 24 #[116, 159, 172, 215, 248, 281, 304, 327, 350, 373, 386, 409, 422, 435, 458, 491, 524, 557, 590, 623, 646, 679, 692, 715, 738], 116) := by decide +kernel
theorem dL_800 : decode code 800 = .ok (.ireturn, 1) := by decide +kernel
end ML
