/-! The rules of E once more, with a premise X on the start and a free end Z; rules for what makes cells. -/
section MX
variable {ε : EE} {J : JT} {X : Array Value → State → Prop} {Z : List Frame → Array Value → State → State → Prop} {mc ms cells slots pc : Nat} {ls : List (Option V0)} {st : List V0} {ws : va_W} {Q : Option Int32 → va_W → Prop}
def EG (ε : EE) (J : JT) (X : Array Value → State → Prop) (Z : List Frame → Array Value → State → State → Prop) (mc ms cells slots pc : Nat) (ls : List (Option V0)) (st : List V0) (ws : va_W) : Prop :=
  e_T J → ∀ (p : Program) (e : Env) (R : Room) (s : State) (m : MethodId) (args : Array Value) (below : List Frame) (meth : Method) (c : Code) (H : Heap) (locs : List Loc) (lsA : Array Slot),
    e_C ε J mc ms p R s m args meth c → X args s → va_P ε.2.1 vwCl ws H → va_D (e_A ε) ws → va_S (e_A ε) s.heap H locs → e_L ε J ls lsA →
    W p ε.1 e R s m args below meth c H locs cells slots (Z below args s) (F0 m pc lsA (st.map (e_vm ε)))
theorem eg_go {pc' : Nat} {ls' : List (Option V0)} {st' : List V0} {ws' : va_W} (h1 : pc = pc') (h2 : ls = ls') (h3 : st = st') (h4 : ws = ws') (k : EG ε J X Z mc ms cells slots pc' ls' st' ws') : EG ε J X Z mc ms cells slots pc ls st ws := by
  subst h1; subst h2; subst h3; subst h4
  exact k
set_option maxHeartbeats 4000000 in
theorem eg_step {o a b nx tg : Nat} {v : Int32} {ls' : List (Option V0)} {st' : List V0} (h : lk (jt J) pc = (o, a, b, v, nx, tg)) (hs : stp o a v ls st = some (ls', st')) (k : EG ε J X Z mc ms cells slots nx ls' st' ws) : EG ε J X Z mc ms cells slots pc ls st ws := by
  intro hT p e R s m args below meth c H locs lsA C XX hP hD hS hl
  have h0 : o ≠ 0 := by
    intro z
    subst z
    cases hs
  have hok := e_op hT h h0
  have K := fun (lsB : Array Slot) (hl : e_L ε J ls' lsB) => k hT p e R s m args below meth c H locs lsB C XX hP hD hS hl
  obtain ⟨hx, hb, -⟩ := C
  unfold stp at hs
  split at hs
  · cases hs
    simp only [okOp, Bool.or_eq_true, Bool.and_eq_true, decide_eq_true_eq] at hok
    rcases hok with (hok | ⟨hok, hv⟩) | ⟨hok, hv⟩
    · obtain ⟨hd, rfl⟩ := okD_d hok
      exact lv_iconst hx hb hd (e_ofInt _) (K lsA hl)
    · obtain ⟨hd, rfl⟩ := okD_d hok
      exact lv_bipush hx hb hd hv (K lsA hl)
    · obtain ⟨hd, rfl⟩ := okD_d hok
      exact lv_sipush hx hb hd hv (K lsA hl)
  · split at hs
    · rename_i x hg
      cases hs
      simp only [okOp, Bool.or_eq_true, Bool.and_eq_true, decide_eq_true_eq] at hok
      rcases hok with hok | ⟨h4, hok⟩
      · obtain ⟨hd, rfl⟩ := okD_d hok
        exact lv_iload hx hb hd (e_load hl hg) (K lsA hl)
      · obtain ⟨hd, rfl⟩ := okD_d hok
        exact lv_iload_n hx hb hd (e_fin h4) (e_load hl hg) (K lsA hl)
    · cases hs
  · split at hs
    · rename_i i k1 hg
      cases hb98 : Nat.beq k1 98 with
      | true => rw [hb98] at hs; cases hs
      | false =>
        rw [hb98] at hs
        cases hs
        obtain ⟨ar, har⟩ := e_ptr (ε := ε) (i := i) hb98
        have hg2 := e_load hl hg
        rw [har] at hg2
        simp only [okOp, Bool.or_eq_true, Bool.and_eq_true, decide_eq_true_eq] at hok
        rcases hok with hok | ⟨h4, hok⟩
        · obtain ⟨hd, rfl⟩ := okD_d hok
          refine lv_aload hx hb hd hg2 ?_
          have KK := K lsA hl
          rw [List.map_cons, har] at KK
          exact KK
        · obtain ⟨hd, rfl⟩ := okD_d hok
          refine lv_aload_n hx hb hd (e_fin h4) hg2 ?_
          have KK := K lsA hl
          rw [List.map_cons, har] at KK
          exact KK
    · cases hs
  · split at hs
    · cases hs
      simp only [okOp, Bool.or_eq_true, Bool.and_eq_true, decide_eq_true_eq] at hok
      obtain ⟨hm, hok | ⟨h4, hok⟩⟩ := hok
      · obtain ⟨hd, rfl⟩ := okD_d hok
        exact lv_istore hx hb hd hl hm rfl (fun lsB hB => K lsB (e_store hB))
      · obtain ⟨hd, rfl⟩ := okD_d hok
        exact lv_istore_n hx hb hd (e_fin h4) hl hm rfl (fun lsB hB => K lsB (e_store hB))
    · cases hs
  · split at hs
    · rename_i i k1 t
      cases hb98 : Nat.beq k1 98 with
      | true => rw [hb98] at hs; cases hs
      | false =>
        rw [hb98] at hs
        cases hs
        obtain ⟨ar, har⟩ := e_ptr (ε := ε) (i := i) hb98
        simp only [okOp, Bool.or_eq_true, Bool.and_eq_true, decide_eq_true_eq] at hok
        obtain ⟨hm, hok⟩ := hok
        rw [List.map_cons, har]
        rcases hok with hok | ⟨h4, hok⟩
        · obtain ⟨hd, rfl⟩ := okD_d hok
          exact lv_astore hx hb hd hl hm rfl (fun lsB hB => K lsB (e_store (by rw [har]; exact hB)))
        · obtain ⟨hd, rfl⟩ := okD_d hok
          exact lv_astore_n hx hb hd (e_fin h4) hl hm rfl (fun lsB hB => K lsB (e_store (by rw [har]; exact hB)))
    · cases hs
  · split at hs
    · cases hs
      obtain ⟨hd, rfl⟩ := okD_d hok
      exact lv_iadd hx hb hd (K lsA hl)
    · cases hs
  · split at hs
    · cases hs
      obtain ⟨hd, rfl⟩ := okD_d hok
      exact lv_isub hx hb hd (K lsA hl)
    · cases hs
  · split at hs
    · cases hs
      obtain ⟨hd, rfl⟩ := okD_d hok
      exact lv_imul hx hb hd (K lsA hl)
    · cases hs
  · split at hs
    · cases hs
      obtain ⟨hd, rfl⟩ := okD_d hok
      exact lv_iand hx hb hd (K lsA hl)
    · cases hs
  · split at hs
    · cases hs
      obtain ⟨hd, rfl⟩ := okD_d hok
      exact lv_i2c hx hb hd rfl (K lsA hl)
    · cases hs
  · split at hs
    · rename_i x hg
      cases hs
      simp only [okOp, Bool.and_eq_true, decide_eq_true_eq] at hok
      obtain ⟨hm, hok⟩ := hok
      obtain ⟨hd, rfl⟩ := okD_d hok
      obtain ⟨j9, hj9⟩ := List.getElem?_of_mem ((e_ll_mem ε ls 0 (a, .int x)).2 ⟨a, .inl x, by simp, hg, rfl⟩)
      exact lv_iinc hx hb hd hl hj9 (by rw [e_ofInt]) hm rfl (fun lsB hB => K lsB (e_store hB))
    · cases hs
  · cases hs
    simp only [okOp, decide_eq_true_eq] at hok
    exact lv_goto hx hb hok (by omega) (K lsA hl)
  · split at hs
    · cases hs
      obtain ⟨hd, rfl⟩ := okD_d hok
      exact lv_dup hx hb hd (e_vm_cat ε _) (K lsA hl)
    · cases hs
  · split at hs
    · cases hs
      obtain ⟨hd, rfl⟩ := okD_d hok
      exact lv_dup2_11 hx hb hd (e_vm_cat ε _) (e_vm_cat ε _) (K lsA hl)
    · cases hs
  · split at hs
    · cases hs
      obtain ⟨hd, rfl⟩ := okD_d hok
      exact lv_pop hx hb hd (e_vm_cat ε _) (K lsA hl)
    · cases hs
  · split at hs
    · cases hs
      obtain ⟨hd, rfl⟩ := okD_d hok
      exact lv_ishr hx hb hd (K lsA hl)
    · cases hs
  · cases hs
theorem eg_div {a b nx tg : Nat} {v x y : Int32} {t : List V0} (h : lk (jt J) pc = (9, a, b, v, nx, tg)) (hy : ¬ y = 0) (k : EG ε J X Z mc ms cells slots nx ls (.inl (x / y) :: t) ws) : EG ε J X Z mc ms cells slots pc ls (.inl y :: .inl x :: t) ws := by
  intro hT p e R s m args below meth c H locs lsA C XX hP hD hS hl
  have hok := e_op hT h (by decide)
  have K := k hT p e R s m args below meth c H locs lsA C XX hP hD hS hl
  obtain ⟨hx, hb, -⟩ := C
  obtain ⟨hd, rfl⟩ := okD_d hok
  exact lv_idiv hx hb hd hy K
set_option maxHeartbeats 4000000 in
theorem eg_if {o a b nx tg : Nat} {v : Int32} {P : Prop} {st' : List V0} (h : lk (jt J) pc = (o, a, b, v, nx, tg)) (hs : cnd o st = some (P, st')) (kt : P → EG ε J X Z mc ms cells slots tg ls st' ws) (kf : ¬ P → EG ε J X Z mc ms cells slots nx ls st' ws) : EG ε J X Z mc ms cells slots pc ls st ws := by
  intro hT p e R s m args below meth c H locs lsA C XX hP hD hS hl
  have h0 : o ≠ 0 := by
    intro z
    subst z
    cases hs
  have hok := e_op hT h h0
  have KT := fun z => kt z hT p e R s m args below meth c H locs lsA C XX hP hD hS hl
  have KF := fun z => kf z hT p e R s m args below meth c H locs lsA C XX hP hD hS hl
  obtain ⟨hx, hb, -⟩ := C
  have ht : (pc : Int) + ((tg : Int) - (pc : Int)) = (tg : Int) := by omega
  unfold cnd at hs
  split at hs
  · split at hs
    · cases hs
      obtain ⟨hd, rfl⟩ := okB_d hok
      exact lv_if_eq hx hb hd ht KT KF
    · cases hs
  · split at hs
    · cases hs
      obtain ⟨hd, rfl⟩ := okB_d hok
      exact lv_if_ne hx hb hd ht KT (fun z => KF (fun w => w z))
    · cases hs
  · split at hs
    · cases hs
      obtain ⟨hd, rfl⟩ := okB_d hok
      exact lv_if_lt hx hb hd ht KT KF
    · cases hs
  · split at hs
    · cases hs
      obtain ⟨hd, rfl⟩ := okB_d hok
      exact lv_if_ge hx hb hd ht KT KF
    · cases hs
  · split at hs
    · cases hs
      obtain ⟨hd, rfl⟩ := okB_d hok
      exact lv_if_gt hx hb hd ht KT KF
    · cases hs
  · split at hs
    · cases hs
      obtain ⟨hd, rfl⟩ := okB_d hok
      exact lv_if_le hx hb hd ht KT KF
    · cases hs
  · split at hs
    · cases hs
      obtain ⟨hd, rfl⟩ := okB_d hok
      exact lv_icmp_eq hx hb hd ht KT KF
    · cases hs
  · split at hs
    · cases hs
      obtain ⟨hd, rfl⟩ := okB_d hok
      exact lv_icmp_ne hx hb hd ht KT (fun z => KF (fun w => w z))
    · cases hs
  · split at hs
    · cases hs
      obtain ⟨hd, rfl⟩ := okB_d hok
      exact lv_icmp_lt hx hb hd ht KT KF
    · cases hs
  · split at hs
    · cases hs
      obtain ⟨hd, rfl⟩ := okB_d hok
      exact lv_icmp_ge hx hb hd ht KT KF
    · cases hs
  · split at hs
    · cases hs
      obtain ⟨hd, rfl⟩ := okB_d hok
      exact lv_icmp_gt hx hb hd ht KT KF
    · cases hs
  · split at hs
    · cases hs
      obtain ⟨hd, rfl⟩ := okB_d hok
      exact lv_icmp_le hx hb hd ht KT KF
    · cases hs
  · cases hs
theorem eg_get {kf t nx idx q0 a0 : Nat} {v : Int32} {pp : Nat × Nat} {fs : List Value} {w : V0} (h : lk (jt J) pc = (30, kf, t, v, nx, idx)) (hpt : e_vm ε (.inr pp) = .ref a0) (hp : ws[q0]? = some (a0, .inr (t, fs))) (hv : fs[kf]? = some (e_vm ε w)) (k : EG ε J X Z mc ms cells slots nx ls (w :: st) ws) : EG ε J X Z mc ms cells slots pc ls (.inr pp :: st) ws := by
  intro hT p e R s m args below meth c H locs lsA C XX hP hD hS hl
  have hok := e_op hT h (by decide)
  have K := k hT p e R s m args below meth c H locs lsA C XX hP hD hS hl
  obtain ⟨hx, hb, hr, hml, hown, hts, hlk, hK, hB0, hR, hnm⟩ := C
  have hown := e_own hT hown
  simp only [okOp, Bool.and_eq_true, decide_eq_true_eq] at hok
  obtain ⟨hok, hmem⟩ := hok
  obtain ⟨hd, rfl⟩ := okD_d hok
  obtain ⟨hk, ht, hsm⟩ := flT_k _ hmem
  obtain ⟨v1, v2, v3, v4⟩ := vw_at ht
  rw [List.map_cons, hpt]
  rcases flT_ok _ hmem with hf | ⟨host, hf⟩
  · exact va_get hx hb hts v2 hown hK.1 hP q0 hp v1 kf hk (hts _ hf) (fun x h9 => by rw [← hsm]; exact h9) hv hd K
  · exact va_getN hx hb hts v2 hown hK.1 hP q0 hp v1 kf hk (va_Nw.use rfl (hK.2 _ hf)) (fun x h9 => by rw [← hsm]; exact h9) hv hd K
theorem eg_put {kf t nx idx q0 a0 : Nat} {v : Int32} {pp : Nat × Nat} {fs : List Value} {w : V0} (h : lk (jt J) pc = (31, kf, t, v, nx, idx)) (hpt : e_vm ε (.inr pp) = .ref a0) (hp : ws[q0]? = some (a0, .inr (t, fs))) (hfin : (tbC t kf).2.2.2 = false) (hn : narrow (tyC t kf) (e_vm ε w) = e_vm ε w) (hfit : fits (tyC t kf) (e_vm ε w) = true) (hl0 : kf < fs.length) (k : EG ε J X Z mc ms cells slots nx ls st (ws.set q0 (a0, .inr (t, fs.set kf (e_vm ε w))))) : EG ε J X Z mc ms cells slots pc ls (w :: .inr pp :: st) ws := by
  intro hT p e R s m args below meth c H locs lsA C XX hP hD hS hl
  have hok := e_op hT h (by decide)
  have K := fun H locs hP hD hS => k hT p e R s m args below meth c H locs lsA C XX hP hD hS hl
  obtain ⟨hx, hb, hr, hml, hown, hts, hlk, hK, hB0, hR, hnm⟩ := C
  have hown := e_own hT hown
  simp only [okOp, Bool.and_eq_true, decide_eq_true_eq] at hok
  obtain ⟨hok, hmem⟩ := hok
  obtain ⟨hd, rfl⟩ := okD_d hok
  obtain ⟨hk, ht, hsm⟩ := flT_k _ hmem
  obtain ⟨v1, v2, v3, v4⟩ := vw_at ht
  rw [List.map_cons, List.map_cons, hpt]
  rcases flT_ok _ hmem with hf | ⟨host, hf⟩
  · exact va_put hx hb hts v2 (tyC t) v3 v4 hown hK.1 hP hD hS q0 hp v1 kf hk (hts _ hf) (fun x h9 => by rw [← hsm]; exact h9) hfin (v3 kf hk) hn hfit hl0 hd K
  · exact va_putN hx hb hts v2 (tyC t) v3 v4 hown hK.1 hP hD hS q0 hp v1 kf hk (va_Nw.use rfl (hK.2 _ hf)) (fun x h9 => by rw [← hsm]; exact h9) hfin (v3 kf hk) hn hfit hl0 hd K
theorem eg_iast {o a b nx q0 a0 n j : Nat} {v x : Int32} {pp : Nat × Nat} {f : Nat → Int32} (h : lk (jt J) pc = (36, a, b, v, nx, o)) (hpt : e_vm ε (.inr pp) = .ref a0) (hp : ws[q0]? = some (a0, .inl (ε.2.2.1 0, n, .inl f))) (hj : j < n) (hn : n < 2 ^ 31) (k : EG ε J X Z mc ms cells slots nx ls st (ws.set q0 (a0, .inl (ε.2.2.1 0, n, .inl (upd f j x))))) : EG ε J X Z mc ms cells slots pc ls (.inl x :: .inl (nI j) :: .inr pp :: st) ws := by
  intro hT p e R s m args below meth c H locs lsA C XX hP hD hS hl
  have hok := e_op hT h (by decide)
  have K := fun H locs hP hD hS => k hT p e R s m args below meth c H locs lsA C XX hP hD hS hl
  obtain ⟨hx, hb, hr, hml, hown, hts, hlk, hK, hB0, hR, hnm⟩ := C
  obtain ⟨hd, rfl⟩ := okD_d hok
  rw [List.map_cons, List.map_cons, List.map_cons, hpt]
  refine va_iast hx hb hK.1 hP hD hS q0 0 hp rfl (vp_in_nI hj hn) hd ?_
  rw [nI_clamp (Nat.lt_trans hj hn)]
  exact K
theorem eg_aast {o a b nx q0 a0 n j t0 qk ci aj : Nat} {v : Int32} {pp p2 : Nat × Nat} {cA : ClassId} {r : vw_C} {vs : List Value} {f : Nat → Option Nat} (h : lk (jt J) pc = (39, a, b, v, nx, o)) (hpt : e_vm ε (.inr pp) = .ref a0) (hp : ws[q0]? = some (a0, .inl (cA, n, .inr (.inr (.inr (.inr f)))))) (ht : (e_tys ε)[t0]? = some (cA, .object r.1)) (hpt2 : e_vm ε (.inr p2) = .ref aj) (hv : ws[qk]? = some (aj, .inr (ci, vs))) (hc : vwCl[ci]? = some r) (hj : j < n) (hn : n < 2 ^ 31) (k : EG ε J X Z mc ms cells slots nx ls st (ws.set q0 (a0, .inl (cA, n, .inr (.inr (.inr (.inr (va_up f j (some aj))))))))) : EG ε J X Z mc ms cells slots pc ls (.inr p2 :: .inl (nI j) :: .inr pp :: st) ws := by
  intro hT p e R s m args below meth c H locs lsA C XX hP hD hS hl
  have hok := e_op hT h (by decide)
  have K := fun H locs hP hD hS => k hT p e R s m args below meth c H locs lsA C XX hP hD hS hl
  obtain ⟨hx, hb, hr, hml, hown, hts, hlk, hK, hB0, hR, hnm⟩ := C
  obtain ⟨hd, rfl⟩ := okD_d hok
  rw [List.map_cons, List.map_cons, List.map_cons, hpt, hpt2]
  refine va_astq hx hb hK.1 hP hD hS q0 t0 qk ci hp ht hv hc (vp_in_nI hj hn) hd ?_
  rw [nI_clamp (Nat.lt_trans hj hn)]
  exact K
set_option maxHeartbeats 4000000 in
/-- invokevirtual, an answer that is a number -/
theorem eg_callVi {J' : JT} {n idx nx a0 q0 ci mc' ms' : Nat} {v : Int32} {As rest : List V0} {pp : Nat × Nat} {fs : List Value} {Qc : Option Int32 → va_W → Prop} {ty : FieldType} (h : lk (jt J) pc = (44, n, jn J', v, nx, idx)) (hT' : mN (jn J') = (jy J', jb J', jm J', jr J')) (hr : jr J' = some ty) (hrm : jf J' + 1 ≤ jf J ∧ 8 + (jm J' + 11) + jo J' ≤ jo J) (hn : As.length = n) (hst : st = As.reverse ++ .inr pp :: rest) (hrest : rest.length ≤ 8) (hpt : e_vm ε (.inr pp) = .ref a0) (hp : ws[q0]? = some (a0, .inr (ci, fs))) (hci : ci < 9) (hcn : nmC ci = (jy J').cls) (hC : e_Ct ε J' mc' ms' (.inr pp :: As) ws Qc) (hcc : cells + mc' ≤ mc ∧ slots + ms' ≤ ms)
    (k : ∀ r ws', Qc (some r) ws' → EG ε J X Z mc ms (cells + mc') (slots + ms') nx ls (.inl r :: rest) ws') : EG ε J X Z mc ms cells slots pc ls st ws := by
  intro hT p e R s m args below meth c H locs lsA C XX hP hD hS hl
  have hok := e_op hT h (by decide)
  have K := fun r ws' z H locs hP hD hS => k r ws' z hT p e R s m args below meth c H locs lsA C XX hP hD hS hl
  obtain ⟨hx, hb, hrt, hml, hown, hts, hlk, hK, hB0, hR, hnm⟩ := C
  simp only [okOp, Bool.and_eq_true, decide_eq_true_eq] at hok
  obtain ⟨hok, hmem⟩ := hok
  obtain ⟨hd, rfl⟩ := okD_d hok
  obtain ⟨hlink, hcode, hini, hcl, -, hinst, hsel, -⟩ := e_link_of hT hT' hmem
  have hinst := hinst (by decide)
  have hsel := hsel rfl
  have hM : Met ε.1 (jy J') (e_ws J') (e_rm J' mc' ms') (e_Pc ε (.inr pp :: As) ws) (va_Qi (fun r u => Qc (some r) u) (fun u t => e_W ε u t) (e_A ε)) mc' ms' (e_A ε) := by
    have := hC
    unfold e_Ct at this
    rw [e_Qc_some hr] at this
    exact this
  have hrecv := va_recv hK.1 hP (vw_at hci).1 hp
  have hPre : PreV s H (jy J').cls a0 (e_Pc ε (.inr pp :: As) ws) (As.map (e_vm ε)) := by
    refine ⟨e_blind, ?_, fun U hU hW => ⟨?_, ?_, e_K.moved hW hK, ?_, hD⟩⟩
    · rw [← hcn]; exact hrecv
    · rw [List.map_cons, hpt]
    · rw [hU]; exact Nat.le_trans hB0 hS.1
    · rw [hU]; exact hP
  have hsz : (F0 m pc lsA (st.map (e_vm ε))).locals.size = jm J := hl.1
  have hstk : (F0 m pc lsA (st.map (e_vm ε))).stack = (As.map (e_vm ε)).reverse ++ .ref a0 :: rest.map (e_vm ε) := by
    show st.map (e_vm ε) = _
    rw [hst, List.map_append, List.map_cons, hpt, List.map_reverse]
  have hW8 : 2 * (F0 m pc lsA (st.map (e_vm ε))).monitorRoom + ((rest.map (e_vm ε)).map fun v => v.category).sum ≤ 8 := by
    refine lv_room ?_
    have : ((rest.map (e_vm ε)).map fun v => v.category) = List.replicate rest.length 1 := by
      rw [List.map_map]
      refine List.eq_replicate_iff.2 ⟨by simp, fun b hb => ?_⟩
      obtain ⟨x, -, rfl⟩ := List.mem_map.1 hb
      exact e_vm_cat ε x
    rw [this, List.sum_replicate_nat]
    omega
  have hcells : cells + mc' ≤ R.cells ∧ slots + ms' ≤ R.slots := by rw [hR]; exact hcc
  have hRm : (e_rm J' mc' ms').frames + 1 ≤ R.frames ∧ 8 + (jm J' + 11) + (e_rm J' mc' ms').locals ≤ R.locals := by rw [hR]; exact hrm
  have hlen : (As.map (e_vm ε)).length = n := by rw [List.length_map]; exact hn
  have S : CallFix p m c (jb J) (jm J) s args Tg (jy J).cls := ⟨hx, hb, hml, hown, hts⟩
  have fin : va_Run p ε.1 e R s m args below meth c H locs cells slots mc' ms' (F0 m pc lsA (st.map (e_vm ε))) (rest.map (e_vm ε)) (va_Qi (fun r u => Qc (some r) u) (fun u t => e_W ε u t) (e_A ε) (Value.ref a0 :: As.map (e_vm ε)).toArray) (e_A ε) := by
    rcases hlink with hlink | ⟨host, hlink⟩
    · exact va_runV (As := As.map (e_vm ε)) (rest := rest.map (e_vm ε)) S hM ⟨callB_of (ws' := Tg) n hts (e_good hcode) rfl rfl rfl (hts _ hini) (hts _ hlink) hcl hRm, hts _ hinst, hts _ hsel⟩ hPre rfl hlen hsz hstk hW8 hd hcells
    · exact va_runVN (As := As.map (e_vm ε)) (rest := rest.map (e_vm ε)) S hM ⟨va_cnB (ws' := Tg) n hts (e_good hcode) rfl rfl rfl (hK.2 _ hlink) (hts _ hini) hcl hRm, hts _ hinst, hts _ hsel⟩ hPre rfl hlen hsz hstk hW8 hd hcells
  refine va_calli fin hS (fun q _ h => h) (fun q h => h) (fun r u t H1 locs1 ht hvm hw hB hz1 hk1 hS1 => ?_)
  obtain ⟨hP1, hD1⟩ := hB
  rw [ht] at hP1
  exact K r u hw H1 locs1 hP1 hD1 hS1
set_option maxHeartbeats 4000000 in
/-- invokevirtual, no answer -/
theorem eg_callVv {J' : JT} {n idx nx a0 q0 ci mc' ms' : Nat} {v : Int32} {As rest : List V0} {pp : Nat × Nat} {fs : List Value} {Qc : Option Int32 → va_W → Prop} (h : lk (jt J) pc = (44, n, jn J', v, nx, idx)) (hT' : mN (jn J') = (jy J', jb J', jm J', jr J')) (hr : jr J' = none) (hrm : jf J' + 1 ≤ jf J ∧ 8 + (jm J' + 11) + jo J' ≤ jo J) (hn : As.length = n) (hst : st = As.reverse ++ .inr pp :: rest) (hrest : rest.length ≤ 8) (hpt : e_vm ε (.inr pp) = .ref a0) (hp : ws[q0]? = some (a0, .inr (ci, fs))) (hci : ci < 9) (hcn : nmC ci = (jy J').cls) (hC : e_Ct ε J' mc' ms' (.inr pp :: As) ws Qc) (hcc : cells + mc' ≤ mc ∧ slots + ms' ≤ ms)
    (k : ∀ ws', Qc none ws' → EG ε J X Z mc ms (cells + mc') (slots + ms') nx ls rest ws') : EG ε J X Z mc ms cells slots pc ls st ws := by
  intro hT p e R s m args below meth c H locs lsA C XX hP hD hS hl
  have hok := e_op hT h (by decide)
  have K := fun ws' z H locs hP hD hS => k ws' z hT p e R s m args below meth c H locs lsA C XX hP hD hS hl
  obtain ⟨hx, hb, hrt, hml, hown, hts, hlk, hK, hB0, hR, hnm⟩ := C
  simp only [okOp, Bool.and_eq_true, decide_eq_true_eq] at hok
  obtain ⟨hok, hmem⟩ := hok
  obtain ⟨hd, rfl⟩ := okD_d hok
  obtain ⟨hlink, hcode, hini, hcl, -, hinst, hsel, -⟩ := e_link_of hT hT' hmem
  have hinst := hinst (by decide)
  have hsel := hsel rfl
  have hM : Met ε.1 (jy J') (e_ws J') (e_rm J' mc' ms') (e_Pc ε (.inr pp :: As) ws) (va_Qv (Qc none) (fun u t => e_W ε u t) (e_A ε)) mc' ms' (e_A ε) := by
    have := hC
    unfold e_Ct at this
    rw [e_Qc_none hr] at this
    exact this
  have hrecv := va_recv hK.1 hP (vw_at hci).1 hp
  have hPre : PreV s H (jy J').cls a0 (e_Pc ε (.inr pp :: As) ws) (As.map (e_vm ε)) := by
    refine ⟨e_blind, ?_, fun U hU hW => ⟨?_, ?_, e_K.moved hW hK, ?_, hD⟩⟩
    · rw [← hcn]; exact hrecv
    · rw [List.map_cons, hpt]
    · rw [hU]; exact Nat.le_trans hB0 hS.1
    · rw [hU]; exact hP
  have hsz : (F0 m pc lsA (st.map (e_vm ε))).locals.size = jm J := hl.1
  have hstk : (F0 m pc lsA (st.map (e_vm ε))).stack = (As.map (e_vm ε)).reverse ++ .ref a0 :: rest.map (e_vm ε) := by
    show st.map (e_vm ε) = _
    rw [hst, List.map_append, List.map_cons, hpt, List.map_reverse]
  have hW8 : 2 * (F0 m pc lsA (st.map (e_vm ε))).monitorRoom + ((rest.map (e_vm ε)).map fun v => v.category).sum ≤ 8 := by
    refine lv_room ?_
    have : ((rest.map (e_vm ε)).map fun v => v.category) = List.replicate rest.length 1 := by
      rw [List.map_map]
      refine List.eq_replicate_iff.2 ⟨by simp, fun b hb => ?_⟩
      obtain ⟨x, -, rfl⟩ := List.mem_map.1 hb
      exact e_vm_cat ε x
    rw [this, List.sum_replicate_nat]
    omega
  have hcells : cells + mc' ≤ R.cells ∧ slots + ms' ≤ R.slots := by rw [hR]; exact hcc
  have hRm : (e_rm J' mc' ms').frames + 1 ≤ R.frames ∧ 8 + (jm J' + 11) + (e_rm J' mc' ms').locals ≤ R.locals := by rw [hR]; exact hrm
  have hlen : (As.map (e_vm ε)).length = n := by rw [List.length_map]; exact hn
  have S : CallFix p m c (jb J) (jm J) s args Tg (jy J).cls := ⟨hx, hb, hml, hown, hts⟩
  have fin : va_Run p ε.1 e R s m args below meth c H locs cells slots mc' ms' (F0 m pc lsA (st.map (e_vm ε))) (rest.map (e_vm ε)) (va_Qv (Qc none) (fun u t => e_W ε u t) (e_A ε) (Value.ref a0 :: As.map (e_vm ε)).toArray) (e_A ε) := by
    rcases hlink with hlink | ⟨host, hlink⟩
    · exact va_runV (As := As.map (e_vm ε)) (rest := rest.map (e_vm ε)) S hM ⟨callB_of (ws' := Tg) n hts (e_good hcode) rfl rfl rfl (hts _ hini) (hts _ hlink) hcl hRm, hts _ hinst, hts _ hsel⟩ hPre rfl hlen hsz hstk hW8 hd hcells
    · exact va_runVN (As := As.map (e_vm ε)) (rest := rest.map (e_vm ε)) S hM ⟨va_cnB (ws' := Tg) n hts (e_good hcode) rfl rfl rfl (hK.2 _ hlink) (hts _ hini) hcl hRm, hts _ hinst, hts _ hsel⟩ hPre rfl hlen hsz hstk hW8 hd hcells
  refine va_callv fin hS (fun q _ h => h) (fun q h => h) (fun u t H1 locs1 ht hvm hw hB hz1 hk1 hS1 => ?_)
  obtain ⟨hP1, hD1⟩ := hB
  rw [ht] at hP1
  exact K u hw H1 locs1 hP1 hD1 hS1
/-- a final field's link in its own class: (class, place, field) -/
def FiOk (r : Nat × Nat × Nat) : Prop := Cond.fieldLink (nmC r.1) r.2.1 (nmC r.1) (tbC r.1 r.2.2).2.1 (tbC r.1 r.2.2).2.2.1 ∈ Tg
theorem fi_0 : FiOk (7, 9, 0) := tg_mem 62 (by decide +kernel) rfl
theorem fi_1 : FiOk (2, 9, 0) := tg_mem 73 (by decide +kernel) rfl
theorem fi_2 : FiOk (2, 15, 1) := tg_mem 76 (by decide +kernel) rfl
theorem fi_3 : FiOk (2, 18, 2) := tg_mem 78 (by decide +kernel) rfl
theorem fi_4 : FiOk (2, 21, 3) := tg_mem 80 (by decide +kernel) rfl
theorem fi_5 : FiOk (2, 24, 4) := tg_mem 83 (by decide +kernel) rfl
theorem fi_6 : FiOk (2, 27, 5) := tg_mem 86 (by decide +kernel) rfl
theorem fi_7 : FiOk (2, 30, 6) := tg_mem 88 (by decide +kernel) rfl
theorem fi_8 : FiOk (2, 33, 7) := tg_mem 90 (by decide +kernel) rfl
theorem fi_9 : FiOk (0, 9, 0) := tg_mem 121 (by decide +kernel) rfl
theorem fi_10 : FiOk (0, 15, 1) := tg_mem 124 (by decide +kernel) rfl
theorem fi_11 : FiOk (0, 19, 2) := tg_mem 127 (by decide +kernel) rfl
theorem fi_12 : FiOk (0, 22, 3) := tg_mem 129 (by decide +kernel) rfl
theorem fi_13 : FiOk (5, 12, 0) := tg_mem 140 (by decide +kernel) rfl
theorem fi_14 : FiOk (5, 21, 1) := tg_mem 142 (by decide +kernel) rfl
theorem fi_15 : FiOk (5, 28, 2) := tg_mem 144 (by decide +kernel) rfl
theorem fi_16 : FiOk (5, 32, 3) := tg_mem 146 (by decide +kernel) rfl
theorem fi_17 : FiOk (4, 12, 0) := tg_mem 174 (by decide +kernel) rfl
theorem fi_18 : FiOk (4, 18, 1) := tg_mem 176 (by decide +kernel) rfl
theorem fi_19 : FiOk (4, 22, 2) := tg_mem 178 (by decide +kernel) rfl
theorem fi_20 : FiOk (1, 11, 0) := tg_mem 196 (by decide +kernel) rfl
theorem fi_21 : FiOk (6, 11, 0) := tg_mem 210 (by decide +kernel) rfl
theorem fi_22 : FiOk (6, 15, 2) := tg_mem 213 (by decide +kernel) rfl
theorem fi_23 : FiOk (6, 19, 3) := tg_mem 215 (by decide +kernel) rfl
theorem fi_24 : FiOk (6, 22, 4) := tg_mem 217 (by decide +kernel) rfl
theorem fi_25 : FiOk (3, 9, 0) := tg_mem 249 (by decide +kernel) rfl
theorem fi_26 : FiOk (8, 10, 0) := tg_mem 258 (by decide +kernel) rfl
theorem fi_27 : FiOk (8, 19, 1) := tg_mem 259 (by decide +kernel) rfl
theorem fi_28 : FiOk (8, 26, 2) := tg_mem 260 (by decide +kernel) rfl
theorem fi_29 : FiOk (8, 33, 3) := tg_mem 261 (by decide +kernel) rfl
theorem fi_30 : FiOk (8, 40, 4) := tg_mem 262 (by decide +kernel) rfl
def fiT : List (Nat × Nat × Nat) := [(7, 9, 0), (2, 9, 0), (2, 15, 1), (2, 18, 2), (2, 21, 3), (2, 24, 4), (2, 27, 5), (2, 30, 6), (2, 33, 7), (0, 9, 0), (0, 15, 1), (0, 19, 2), (0, 22, 3), (5, 12, 0), (5, 21, 1), (5, 28, 2), (5, 32, 3), (4, 12, 0), (4, 18, 1), (4, 22, 2), (1, 11, 0), (6, 11, 0), (6, 15, 2), (6, 19, 3), (6, 22, 4), (3, 9, 0), (8, 10, 0), (8, 19, 1), (8, 26, 2), (8, 33, 3), (8, 40, 4)]
theorem fiT_ok : ∀ r ∈ fiT, FiOk r := List.forall_mem_cons.mpr ⟨fi_0, List.forall_mem_cons.mpr ⟨fi_1, List.forall_mem_cons.mpr ⟨fi_2, List.forall_mem_cons.mpr ⟨fi_3, List.forall_mem_cons.mpr ⟨fi_4, List.forall_mem_cons.mpr ⟨fi_5, List.forall_mem_cons.mpr ⟨fi_6, List.forall_mem_cons.mpr ⟨fi_7, List.forall_mem_cons.mpr ⟨fi_8, List.forall_mem_cons.mpr ⟨fi_9, List.forall_mem_cons.mpr ⟨fi_10, List.forall_mem_cons.mpr ⟨fi_11, List.forall_mem_cons.mpr ⟨fi_12, List.forall_mem_cons.mpr ⟨fi_13, List.forall_mem_cons.mpr ⟨fi_14, List.forall_mem_cons.mpr ⟨fi_15, List.forall_mem_cons.mpr ⟨fi_16, List.forall_mem_cons.mpr ⟨fi_17, List.forall_mem_cons.mpr ⟨fi_18, List.forall_mem_cons.mpr ⟨fi_19, List.forall_mem_cons.mpr ⟨fi_20, List.forall_mem_cons.mpr ⟨fi_21, List.forall_mem_cons.mpr ⟨fi_22, List.forall_mem_cons.mpr ⟨fi_23, List.forall_mem_cons.mpr ⟨fi_24, List.forall_mem_cons.mpr ⟨fi_25, List.forall_mem_cons.mpr ⟨fi_26, List.forall_mem_cons.mpr ⟨fi_27, List.forall_mem_cons.mpr ⟨fi_28, List.forall_mem_cons.mpr ⟨fi_29, List.forall_mem_cons.mpr ⟨fi_30, fun _ h => absurd h List.not_mem_nil⟩⟩⟩⟩⟩⟩⟩⟩⟩⟩⟩⟩⟩⟩⟩⟩⟩⟩⟩⟩⟩⟩⟩⟩⟩⟩⟩⟩⟩⟩⟩
theorem fiT_k : ∀ r ∈ fiT, r.2.2 < nfC r.1 ∧ r.1 < 9 ∧ (tbC r.1 r.2.2).1 = nmC r.1 ∧ (tbC r.1 r.2.2).2.2.2 = true := by decide +kernel
theorem kl_10_9 : Cond.classLink (nmC 10) 9 (nmC 8) ∈ Tg := tg_mem 27 (by decide +kernel) rfl
theorem kl_8_7 : Cond.classLink (nmC 8) 7 (nmC 4) ∈ Tg := tg_mem 35 (by decide +kernel) rfl
theorem kl_4_9 : Cond.classLink (nmC 4) 9 (nmC 5) ∈ Tg := tg_mem 41 (by decide +kernel) rfl
theorem kl_5_9 : Cond.classLink (nmC 5) 9 (nmC 7) ∈ Tg := tg_mem 47 (by decide +kernel) rfl
theorem kl_5_18 : Cond.classLink (nmC 5) 18 (nmC 2) ∈ Tg := tg_mem 67 (by decide +kernel) rfl
theorem kl_5_25 : Cond.classLink (nmC 5) 25 (nmC 0) ∈ Tg := tg_mem 115 (by decide +kernel) rfl
theorem kl_8_16 : Cond.classLink (nmC 8) 16 (nmC 1) ∈ Tg := tg_mem 187 (by decide +kernel) rfl
theorem kl_1_9 : Cond.classLink (nmC 1) 9 (nmC 4) ∈ Tg := tg_mem 193 (by decide +kernel) rfl
theorem kl_8_23 : Cond.classLink (nmC 8) 23 (nmC 6) ∈ Tg := tg_mem 204 (by decide +kernel) rfl
theorem kl_8_30 : Cond.classLink (nmC 8) 30 (nmC 5) ∈ Tg := tg_mem 241 (by decide +kernel) rfl
theorem kl_8_37 : Cond.classLink (nmC 8) 37 (nmC 3) ∈ Tg := tg_mem 243 (by decide +kernel) rfl
theorem in_0 : Cond.instantiable (nmC 0) (nfC 0) ∈ Tg := tg_mem 116 (by decide +kernel) rfl
theorem it_0 : Cond.initialized (nmC 0) ∈ Tg := tg_mem 22 (by decide +kernel) rfl
theorem in_1 : Cond.instantiable (nmC 1) (nfC 1) ∈ Tg := tg_mem 188 (by decide +kernel) rfl
theorem it_1 : Cond.initialized (nmC 1) ∈ Tg := tg_mem 23 (by decide +kernel) rfl
theorem in_2 : Cond.instantiable (nmC 2) (nfC 2) ∈ Tg := tg_mem 68 (by decide +kernel) rfl
theorem it_2 : Cond.initialized (nmC 2) ∈ Tg := tg_mem 21 (by decide +kernel) rfl
theorem in_3 : Cond.instantiable (nmC 3) (nfC 3) ∈ Tg := tg_mem 244 (by decide +kernel) rfl
theorem it_3 : Cond.initialized (nmC 3) ∈ Tg := tg_mem 25 (by decide +kernel) rfl
theorem in_4 : Cond.instantiable (nmC 4) (nfC 4) ∈ Tg := tg_mem 36 (by decide +kernel) rfl
theorem it_4 : Cond.initialized (nmC 4) ∈ Tg := tg_mem 17 (by decide +kernel) rfl
theorem in_5 : Cond.instantiable (nmC 5) (nfC 5) ∈ Tg := tg_mem 42 (by decide +kernel) rfl
theorem it_5 : Cond.initialized (nmC 5) ∈ Tg := tg_mem 18 (by decide +kernel) rfl
theorem in_6 : Cond.instantiable (nmC 6) (nfC 6) ∈ Tg := tg_mem 205 (by decide +kernel) rfl
theorem it_6 : Cond.initialized (nmC 6) ∈ Tg := tg_mem 24 (by decide +kernel) rfl
theorem in_7 : Cond.instantiable (nmC 7) (nfC 7) ∈ Tg := tg_mem 48 (by decide +kernel) rfl
theorem it_7 : Cond.initialized (nmC 7) ∈ Tg := tg_mem 19 (by decide +kernel) rfl
theorem in_8 : Cond.instantiable (nmC 8) (nfC 8) ∈ Tg := tg_mem 28 (by decide +kernel) rfl
theorem it_8 : Cond.initialized (nmC 8) ∈ Tg := tg_mem 16 (by decide +kernel) rfl
theorem ac_int : Cond.arrayClass .int ∈ Tg := tg_mem 66 (by decide +kernel) rfl
theorem ac_boolean : Cond.arrayClass .boolean ∈ Tg := tg_mem 139 (by decide +kernel) rfl
theorem ac_char : Cond.arrayClass .char ∈ Tg := tg_mem 240 (by decide +kernel) rfl
theorem fc_link : Cond.fieldLink RX7 15 RX7 "FIRST_CODES" "[I" ∈ Tg := tg_mem 53 (by decide +kernel) rfl
theorem fc_lays : Cond.laysStatic RX7 "FIRST_CODES" "[I" ∈ lw_tbl := List.mem_of_getElem? (i := 54) (by decide +kernel)
theorem ao_5 : Cond.arrayOver (.object RX5) ∈ lw_tbl := List.mem_of_getElem? (i := 173) (by decide +kernel)
theorem ao_4 : Cond.arrayOver (.object RX4) ∈ lw_tbl := List.mem_of_getElem? (i := 194) (by decide +kernel)
theorem eg_objInit {a b nx idx a0 : Nat} {v : Int32} {pp : Nat × Nat} {rest : List V0} (h : lk (jt J) pc = (51, a, b, v, nx, idx)) (hpt : e_vm ε (.inr pp) = .ref a0) (hrm : (Nat.ble 1 (jf J) && Nat.ble 20 (jo J)) = true) (hrest : Nat.ble rest.length 8 = true) (k : EG ε J X Z mc ms cells slots nx ls rest ws) : EG ε J X Z mc ms cells slots pc ls (.inr pp :: rest) ws := by
  intro hT p e R s m args below meth c H locs lsA C XX hP hD hS hl
  have hok := e_op hT h (by decide)
  have K := k hT p e R s m args below meth c H locs lsA C XX hP hD hS hl
  obtain ⟨hx, hb, hrt, hml, hown, hts, hlk, hK, hB0, hR, hnm⟩ := C
  simp only [okOp, Bool.and_eq_true, decide_eq_true_eq] at hok
  obtain ⟨hok, hmem⟩ := hok
  obtain ⟨hd, rfl⟩ := okD_d hok
  have hlink := (mxT_ok _ hmem).1 rfl
  rw [Bool.and_eq_true] at hrm
  rw [List.map_cons, hpt]
  refine W.objInit hx hb (e_own hT hown) (hts _ hlink) (hts _ oi_inst) (hts _ oi_code) rfl (by rw [hml]; exact hl.1) rfl hd (by rw [hR]; exact Nat.le_of_ble_eq_true hrm.1) ?_ K
  rw [hR]
  have h8 := lv_room (m := m) (pc := pc) (ls := lsA) (rest := Value.ref a0 :: rest.map (e_vm ε)) (e_W8 (ε := ε) (Nat.le_of_ble_eq_true hrest))
  exact Nat.le_trans (Nat.add_le_add_right h8 12) (Nat.le_of_ble_eq_true hrm.2)
/-- a final field, in its own class's constructor -/
theorem eg_putF {kf t nx idx q0 a0 : Nat} {v : Int32} {pp : Nat × Nat} {fs : List Value} {w : V0} (h : lk (jt J) pc = (31, kf, t, v, nx, idx)) (hpt : e_vm ε (.inr pp) = .ref a0) (hp : ws[q0]? = some (a0, .inr (t, fs))) (hm : (t, idx, kf) ∈ fiT) (hc : jc J = t) (hin : (jy J).name = "<init>") (hn : narrow (tyC t kf) (e_vm ε w) = e_vm ε w) (hfit : fits (tyC t kf) (e_vm ε w) = true) (hl0 : kf < fs.length) (k : EG ε J X Z mc ms cells slots nx ls st (ws.set q0 (a0, .inr (t, fs.set kf (e_vm ε w))))) : EG ε J X Z mc ms cells slots pc ls (w :: .inr pp :: st) ws := by
  intro hT p e R s m args below meth c H locs lsA C XX hP hD hS hl
  have hok := e_op hT h (by decide)
  have K := fun H locs hP hD hS => k hT p e R s m args below meth c H locs lsA C XX hP hD hS hl
  obtain ⟨hx, hb, hr, hml, hown, hts, hlk, hK, hB0, hR, hnm⟩ := C
  have hown := e_own hT hown
  simp only [okOp, Bool.and_eq_true, decide_eq_true_eq] at hok
  obtain ⟨hok, -⟩ := hok
  obtain ⟨hd, rfl⟩ := okD_d hok
  obtain ⟨hk, ht, hsm, hfin⟩ := fiT_k _ hm
  obtain ⟨v1, v2, v3, v4⟩ := vw_at ht
  have hlink := fiT_ok _ hm
  rw [hc] at hown
  rw [List.map_cons, List.map_cons, hpt]
  exact va_putF hx hb hts v2 (tyC t) v3 v4 hown hK.1 hP hD hS q0 hp v1 kf hk (hts _ hlink) (fun x h9 => by rw [← hsm]; exact h9) hfin (hnm.trans hin) hsm (v3 kf hk) hn hfit hl0 hd K
/-- what the start of a constructor of the class holds besides: the row FIRST_CODES, the two classes of rows of objects -/
def XS (ε : EE) (fa : Nat) (fcs : Nat → Int32) (U : State) : Prop := va_Z RX7 "FIRST_CODES" "[I" (.ref fa) (e_A ε) U U.heap ∧ va_T .int fa 8 (fun j => .int (fcs j)) (e_A ε) U U.heap ∧ va_AO RX5 U ∧ va_AO RX4 U
theorem XS.moved {fa : Nat} {fcs : Nat → Int32} {s U : State} {locs : List Loc} (hW : s.WarmedH U.vm) (hS : va_S (e_A ε) s.heap U.heap locs) (h : XS ε fa fcs s) : XS ε fa fcs U := by
  obtain ⟨h1, h2, h5, h6⟩ := h
  exact ⟨(h1.kept (fun a ha hn => hS.2.1 a ha hn)).moved hW.alike, (h2.kept (fun a ha hn => hS.2.1 a ha hn)).moved hW.alike, va_AO.moved hW.alike h5, va_AO.moved hW.alike h6⟩
theorem XS.same {fa : Nat} {fcs : Nat → Int32} {s U : State} (hv : s.vm = U.vm) (hh : U.heap = s.heap) (h : XS ε fa fcs s) : XS ε fa fcs U := by
  obtain ⟨h1, h2, h5, h6⟩ := h
  have ha : s.vm.Alike U.vm := by rw [hv]; exact Vm.Alike.refl _
  refine ⟨?_, ?_, va_AO.moved ha h5, va_AO.moved ha h6⟩
  · rw [hh]; exact h1.moved ha
  · rw [hh]; exact h2.moved ha
def e_PcX (ε : EE) (X : State → Prop) (As : List V0) (ws : va_W) : Array Value → State → Prop := va_Pc (As.map (e_vm ε)) (fun U => ε.2.2.2.1 ≤ U.heap.size ∧ e_K ε U ∧ X U ∧ e_W ε ws U)
def e_CtX (ε : EE) (J : JT) (X : State → Prop) (mc ms : Nat) (As : List V0) (ws : va_W) (Q : Option Int32 → va_W → Prop) : Prop := Met ε.1 (jy J) (e_ws J) (e_rm J mc ms) (e_PcX ε X As ws) (e_Qc ε J Q) mc ms (e_A ε)
/-- the judgement of a constructor -/
def EX (ε : EE) (J : JT) (X : State → Prop) (mc ms cells slots pc : Nat) (ls : List (Option V0)) (st : List V0) (ws : va_W) (Q : Option Int32 → va_W → Prop) : Prop := EG ε J (fun _ s => X s) (fun below args s => MQ below (e_Qc ε J Q) args s mc ms (e_A ε)) mc ms cells slots pc ls st ws
set_option maxHeartbeats 4000000 in
theorem ex_met {Y : State → Prop} {As : List V0} {ls : List (Option V0)} (hT : e_T J) (hls : e_in As (jm J) = ls) (hlen : Nat.ble As.length (jm J) = true) (hE : EX ε J Y mc ms 0 0 0 ls [] ws Q) : e_CtX ε J Y mc ms As ws Q := by
  subst hls
  have hlen := Nat.le_of_ble_eq_true hlen
  refine Met.ofW (cc := jb J) (maxL := jm J) (ret := jr J) hT.2.2.2 rfl ?_
  intro p e s m args below meth c s₁ B hml hv
  obtain ⟨rfl, hB0, hK, hX, hP, hD⟩ := hv
  have hts := atoms_spec (ws := e_ws J) B.pre
  have hl := lv_entry (As.map (e_vm ε)) (n := jm J) (by rw [e_sl_len]; exact hlen)
  have hC : e_C ε J mc ms p (headSpec (e_ws J) (e_rm J mc ms)).room s m (As.map (e_vm ε)).toArray meth c := ⟨B.exec, B.bytes, B.returns, hml, findClass_of_methodNamed B.named, fun w hw => hts w (List.mem_cons_of_mem _ hw), B.notSynchronized, hK, hB0, rfl, (name_of_methodNamed B.named B.method).1⟩
  rw [lg_entry_eq]
  refine hE hT p e _ s m _ below meth c s.heap [] _ hC hX hP hD va_S.rf ?_
  unfold e_L e_in
  rw [e_ll_in]
  exact hl
theorem ex_vret {Y : State → Prop} {o a b nx : Nat} {v : Int32} (h : lk (jt J) pc = (42, a, b, v, nx, o)) (hr : jr J = none) (hc : Nat.ble cells mc = true) (hs : Nat.ble slots ms = true) (hQ : Q none ws) : EX ε J Y mc ms cells slots pc ls [] ws Q := by
  intro hT p e R s m args below meth c H locs lsA C XX hP hD hS hl
  have hok := e_op hT h (by decide)
  obtain ⟨hx, hb, hrt, hml, hown, hts, hlk, hK, hB0, hR, hnm⟩ := C
  simp only [okOp, decide_eq_true_eq] at hok
  refine W.widen (Nat.le_of_ble_eq_true hc) (Nat.le_of_ble_eq_true hs) ?_
  refine W.vret hx hb (by rw [hrt, hr]) (fun t ht hW => ?_) hS.2.2 hok hlk
  rw [e_Qc_none hr]
  exact ⟨⟨ws, rfl, hQ, by rw [ht]; exact hP, hD⟩, hS.F ht⟩
theorem eX_blind {fa : Nat} {fcs : Nat → Int32} {As : List V0} : FrameBlind (e_PcX ε (XS ε fa fcs) As ws) := fun a U g mk q => by
  obtain ⟨h1, h2, h3, h4, h5⟩ := q
  exact ⟨h1, h2, e_K.same (s := U) (U := U.calling g mk a) rfl h3, XS.same (s := U) (U := U.calling g mk a) rfl rfl h4, h5⟩
set_option maxHeartbeats 4000000 in
/-- a constructor is called -/
theorem eg_callI {J' : JT} {n idx nx a0 mc' ms' fa : Nat} {fcs : Nat → Int32} {v : Int32} {As rest : List V0} {pp : Nat × Nat} {Qc : Option Int32 → va_W → Prop} (hC : e_CtX ε J' (XS ε fa fcs) mc' ms' (.inr pp :: As) ws Qc) (h : lk (jt J) pc = (45, n, jn J', v, nx, idx)) (hT' : e_fit J J') (hr : jr J' = none) (hn : As.length = n) (hst : st = As.reverse ++ .inr pp :: rest) (hrest : Nat.ble rest.length 8 = true) (hpt : e_vm ε (.inr pp) = .ref a0) (hcc : (Nat.ble (cells + mc') mc && Nat.ble (slots + ms') ms) = true) (hXX : ∀ args s, X args s → XS ε fa fcs s)
    (k : ∀ ws', Qc none ws' → EG ε J X Z mc ms (cells + mc') (slots + ms') nx ls rest ws') : EG ε J X Z mc ms cells slots pc ls st ws := by
  intro hT p e R s m args below meth c H locs lsA C XX hP hD hS hl
  have hok := e_op hT h (by decide)
  have K := fun ws' z H locs hP hD hS => k ws' z hT p e R s m args below meth c H locs lsA C XX hP hD hS hl
  obtain ⟨hx, hb, hrt, hml, hown, hts, hlk, hK, hB0, hR, hnm⟩ := C
  simp only [okOp, Bool.and_eq_true, decide_eq_true_eq] at hok
  obtain ⟨hok, hmem⟩ := hok
  obtain ⟨hd, rfl⟩ := okD_d hok
  obtain ⟨hlink, hcode, hini, hcl, -, hinst, -, hname⟩ := e_link_of hT hT'.1 hmem
  have hinst := hinst (by decide)
  have hname := hname rfl
  have hrm := hT'.rm
  have hrest := Nat.le_of_ble_eq_true hrest
  rw [Bool.and_eq_true] at hcc
  have hM : Met ε.1 (jy J') (e_ws J') (e_rm J' mc' ms') (e_PcX ε (XS ε fa fcs) (.inr pp :: As) ws) (va_Qv (Qc none) (fun u t => e_W ε u t) (e_A ε)) mc' ms' (e_A ε) := by
    have := hC
    unfold e_CtX at this
    rw [e_Qc_none hr] at this
    exact this
  have hcode2 : Cond.code (jy J') (jb J') (jm J') none ∈ Tg := by rw [← hr]; exact hcode
  have hgd : GoodIn Tg (e_ws J') := e_good hcode
  have hws : e_ws J' = Cond.code (jy J') (jb J') (jm J') none :: Tg := by unfold e_ws; rw [hr]
  have hPre : PreS s H (e_PcX ε (XS ε fa fcs) (.inr pp :: As) ws) (.ref a0 :: As.map (e_vm ε)) := by
    refine ⟨eX_blind, fun U hU hW => ⟨?_, ?_, e_K.moved hW hK, ?_, ?_, hD⟩⟩
    · rw [List.map_cons, hpt]
    · rw [hU]; exact Nat.le_trans hB0 hS.1
    · exact XS.moved hW (locs := locs) (by rw [hU]; exact hS) (hXX _ _ XX)
    · rw [hU]; exact hP
  have hsz : (F0 m pc lsA (st.map (e_vm ε))).locals.size = jm J := hl.1
  have hstk : (F0 m pc lsA (st.map (e_vm ε))).stack = (As.map (e_vm ε)).reverse ++ .ref a0 :: rest.map (e_vm ε) := by
    show st.map (e_vm ε) = _
    rw [hst, List.map_append, List.map_cons, hpt, List.map_reverse]
  have hW8 : 2 * (F0 m pc lsA (st.map (e_vm ε))).monitorRoom + ((rest.map (e_vm ε)).map fun v => v.category).sum ≤ 8 := lv_room (e_W8 hrest)
  have hcells : cells + mc' ≤ R.cells ∧ slots + ms' ≤ R.slots := by rw [hR]; exact ⟨Nat.le_of_ble_eq_true hcc.1, Nat.le_of_ble_eq_true hcc.2⟩
  have hRm : (e_rm J' mc' ms').frames + 1 ≤ R.frames ∧ 8 + (jm J' + 11) + (e_rm J' mc' ms').locals ≤ R.locals := by rw [hR]; exact hrm
  have hlen : (As.map (e_vm ε)).length = n := by rw [List.length_map]; exact hn
  have S : CallFix p m c (jb J) (jm J) s args Tg (jy J).cls := ⟨hx, hb, hml, hown, hts⟩
  have fin : va_Run p ε.1 e R s m args below meth c H locs cells slots mc' ms' (F0 m pc lsA (st.map (e_vm ε))) (rest.map (e_vm ε)) (va_Qv (Qc none) (fun u t => e_W ε u t) (e_A ε) (Value.ref a0 :: As.map (e_vm ε)).toArray) (e_A ε) := by
    rcases hlink with hlink | ⟨host, hlink⟩
    · exact va_runI (As := As.map (e_vm ε)) (rest := rest.map (e_vm ε)) S hM ⟨callB_of (ws' := Tg) n hts hgd hws rfl rfl (hts _ hini) (hts _ hlink) hcl hRm, hname, hts _ hinst⟩ hPre rfl hlen hsz hstk hW8 hd hcells
    · exact va_runIN (As := As.map (e_vm ε)) (rest := rest.map (e_vm ε)) S hM ⟨va_cnB (ws' := Tg) n hts hgd hws rfl rfl (hK.2 _ hlink) (hts _ hini) hcl hRm, hname, hts _ hinst⟩ hPre rfl hlen hsz hstk hW8 hd hcells
  refine va_callv fin hS (fun q _ h => h) (fun q h => h) (fun u t H1 locs1 ht hvm hw hB hz1 hk1 hS1 => ?_)
  obtain ⟨hP1, hD1⟩ := hB
  rw [ht] at hP1
  exact K u hw H1 locs1 hP1 hD1 hS1
def dflV (t : Nat) : List Value := (List.range (nfC t)).map (fun j => defaultValue (tyC t j))
theorem dflV_at {t j : Nat} (h : j < nfC t) : defaultValue (tyC t j) = vp_V (dflV t) j := by
  unfold vp_V dflV
  rw [List.getD_eq_getElem?_getD, List.getElem?_map, List.getElem?_range h]
  rfl
theorem eg_new {t idx : Nat} (hdg : decode (jb J) pc = .ok (.new idx, 3)) (ht : t < 9) (hcl : Cond.classLink (nmC (jc J)) idx (nmC t) ∈ Tg) (hinst : Cond.instantiable (nmC t) (nfC t) ∈ Tg) (hini : Cond.initialized (nmC t) ∈ Tg) (hcc : (Nat.ble (cells + 1) mc && Nat.ble (slots + nfC t) ms) = true)
    (k : ∀ q : Nat, EG ε J X Z mc ms (cells + 1) (slots + nfC t) (pc + 3) ls (.inr (q, 99) :: st) (ws ++ [(q, .inr (t, dflV t))])) : EG ε J X Z mc ms cells slots pc ls st ws := by
  intro hT p e R s m args below meth c H locs lsA C XX hP hD hS hl
  have K := fun q H locs hP hD hS => k q hT p e R s m args below meth c H locs lsA C XX hP hD hS hl
  obtain ⟨hx, hb, hr, hml, hown, hts, hlk, hK, hB0, hR, hnm⟩ := C
  have hown := e_own hT hown
  obtain ⟨v1, v2, v3, v4⟩ := vw_at ht
  rw [Bool.and_eq_true] at hcc
  exact va_new hx hb hts v2 (tyC t) v3 hown (hts _ hcl) (hts _ hinst) (hts _ hini) hK.1 hP hD hS (fun q hq => Nat.le_trans hB0 hq) v1 (fun j hj => dflV_at hj) (by rw [hR]; exact Nat.le_of_ble_eq_true hcc.1) (by rw [hR]; exact Nat.le_of_ble_eq_true hcc.2) hdg (fun q H1 hP1 hD1 hS1 => K q H1 locs hP1 hD1 hS1)
/-- the three classes of rows of numbers -/
def atyC (k : Nat) : ArrayType × FieldType := match k with
  | 0 => (.int, .int)
  | 1 => (.boolean, .boolean)
  | _ => (.char, .char)
theorem e_cA {s : State} {k : Nat} {cA : ClassId} (hK : e_K ε s) (hk : k < 3) (h : va_RA s cA (atyC k).2) : cA = ε.2.2.1 k := by
  rcases (show k = 0 ∨ k = 1 ∨ k = 2 by omega) with rfl | rfl | rfl
  · exact Option.some.inj ((show s.vm.findClass _ = some cA from h).symm.trans (hK.1.2 0 _ rfl).2)
  · exact Option.some.inj ((show s.vm.findClass _ = some cA from h).symm.trans (hK.1.2 1 _ rfl).2)
  · exact Option.some.inj ((show s.vm.findClass _ = some cA from h).symm.trans (hK.1.2 2 _ rfl).2)
theorem eg_newa {n : Nat} {x : Int32} (kk : Nat) (hdg : decode (jb J) pc = .ok (.newarray (atyC kk).1, 2)) (hkk : kk < 3) (hac : Cond.arrayClass (atyC kk).2 ∈ Tg) (hx0 : x = nI n) (hn : Nat.ble n 1000000 = true) (hcc : (Nat.ble (cells + 1) mc && Nat.ble (slots + n) ms) = true)
    (k : ∀ q : Nat, EG ε J X Z mc ms (cells + 1) (slots + n) (pc + 2) ls (.inr (q, 99) :: st) (ws ++ [(q, .inl (ε.2.2.1 kk, n, .inl (fun _ => nI 0)))])) : EG ε J X Z mc ms cells slots pc ls (.inl x :: st) ws := by
  subst hx0
  intro hT p e R s m args below meth c H locs lsA C XX hP hD hS hl
  have K := fun q H locs hP hD hS => k q hT p e R s m args below meth c H locs lsA C XX hP hD hS hl
  obtain ⟨hx, hb, hr, hml, hown, hts, hlk, hK, hB0, hR, hnm⟩ := C
  have hn := Nat.le_of_ble_eq_true hn
  rw [Bool.and_eq_true] at hcc
  have hcl : (nI n).toNatClampNeg = n := nI_clamp (by omega)
  have hlast : ∀ {cA : ClassId} {ty : FieldType}, va_K ε.2.1 vwCl (e_tys ε ++ [(cA, ty)]) s → va_RA s cA ty := fun {cA ty} h => (h.2 5 (cA, ty) rfl).2
  rcases (show kk = 0 ∨ kk = 1 ∨ kk = 2 by omega) with rfl | rfl | rfl
  · refine va_newa (atype := .int) (ty := .int) hx hb (hts _ hac) rfl hK.1 hP hD hS (fun q hq => Nat.le_trans hB0 hq) (N' := n) (a0 := (n, .inl (fun _ => nI 0))) (fun cA => rfl) (nI_pos (by omega)) hcl ?_ (by rw [hR]; exact Nat.le_of_ble_eq_true hcc.1) (by rw [hR]; exact Nat.le_of_ble_eq_true hcc.2) hdg (fun q cA H1 hK1 hP1 hD1 hS1 => ?_)
    · exact Nat.le_trans (Nat.mul_le_mul_right _ hn) (by decide)
    · have e1 := e_cA hK (k := 0) (by omega) (hlast hK1)
      subst e1
      exact K q H1 locs hP1 hD1 hS1
  · refine va_newa (atype := .boolean) (ty := .boolean) hx hb (hts _ hac) rfl hK.1 hP hD hS (fun q hq => Nat.le_trans hB0 hq) (N' := n) (a0 := (n, .inl (fun _ => nI 0))) (fun cA => rfl) (nI_pos (by omega)) hcl ?_ (by rw [hR]; exact Nat.le_of_ble_eq_true hcc.1) (by rw [hR]; exact Nat.le_of_ble_eq_true hcc.2) hdg (fun q cA H1 hK1 hP1 hD1 hS1 => ?_)
    · exact Nat.le_trans (Nat.mul_le_mul_right _ hn) (by decide)
    · have e1 := e_cA hK (k := 1) (by omega) (hlast hK1)
      subst e1
      exact K q H1 locs hP1 hD1 hS1
  · refine va_newa (atype := .char) (ty := .char) hx hb (hts _ hac) rfl hK.1 hP hD hS (fun q hq => Nat.le_trans hB0 hq) (N' := n) (a0 := (n, .inl (fun _ => nI 0))) (fun cA => rfl) (nI_pos (by omega)) hcl ?_ (by rw [hR]; exact Nat.le_of_ble_eq_true hcc.1) (by rw [hR]; exact Nat.le_of_ble_eq_true hcc.2) hdg (fun q cA H1 hK1 hP1 hD1 hS1 => ?_)
    · exact Nat.le_trans (Nat.mul_le_mul_right _ hn) (by decide)
    · have e1 := e_cA hK (k := 2) (by omega) (hlast hK1)
      subst e1
      exact K q H1 locs hP1 hD1 hS1
theorem e_cA2 {s : State} {kk : Nat} {C : String} {cA c2 : ClassId} (hq : (e_tys ε)[kk]? = some (c2, .object C)) (hK : e_K ε s) (h : va_RA s cA (.object C)) : cA = c2 := by
  obtain ⟨-, -, -, -, -, h4⟩ := h
  obtain ⟨-, -, -, -, -, g4⟩ := (hK.1.2 kk _ hq).2
  exact Option.some.inj (h4.symm.trans g4)
theorem eg_newq {n idx kk : Nat} {x : Int32} {C : String} {c2 : ClassId} (hdg : decode (jb J) pc = .ok (.anewarray idx, 3)) (hq : (e_tys ε)[kk]? = some (c2, .object C)) (hcl : Cond.classLink (nmC (jc J)) idx C ∈ Tg) (hao : ∀ args s, X args s → va_AO C s) (hx0 : x = nI n) (hn : Nat.ble n 1000 = true) (hcc : (Nat.ble (cells + 1) mc && Nat.ble (slots + n) ms) = true)
    (k : ∀ q : Nat, EG ε J X Z mc ms (cells + 1) (slots + n) (pc + 3) ls (.inr (q, 99) :: st) (ws ++ [(q, .inl (c2, n, .inr (.inr (.inr (.inr (fun _ => none))))))])) : EG ε J X Z mc ms cells slots pc ls (.inl x :: st) ws := by
  subst hx0
  intro hT p e R s m args below meth c H locs lsA C0 XX hP hD hS hl
  have K := fun q H locs hP hD hS => k q hT p e R s m args below meth c H locs lsA C0 XX hP hD hS hl
  obtain ⟨hx, hb, hr, hml, hown, hts, hlk, hK, hB0, hR, hnm⟩ := C0
  have hn := Nat.le_of_ble_eq_true hn
  rw [Bool.and_eq_true] at hcc
  have hclm : (nI n).toNatClampNeg = n := nI_clamp (by omega)
  refine va_newq hx hb (e_own hT hown) (hts _ hcl) (hao _ _ XX) hK.1 hP hD hS (fun q hq => Nat.le_trans hB0 hq) (N' := n) (nI_pos (by omega)) hclm (by omega) (by rw [hR]; exact Nat.le_of_ble_eq_true hcc.1) (by rw [hR]; exact Nat.le_of_ble_eq_true hcc.2) hdg (fun q cA H1 hK1 hP1 hD1 hS1 => ?_)
  have e1 : cA = c2 := e_cA2 hq hK ((hK1.2 5 (cA, .object C) rfl).2)
  subst e1
  exact K q H1 locs hP1 hD1 hS1
/-- the row FIRST_CODES: loaded, its length, its places -/
theorem eg_fc {fa : Nat} {fcs : Nat → Int32} (hdg : decode (jb J) pc = .ok (.getstatic 15, 3)) (hc : jc J = 7) (hXX : ∀ args s, X args s → XS ε fa fcs s) (k : EG ε J X Z mc ms cells slots (pc + 3) ls (.inr (fa, 99) :: st) ws) : EG ε J X Z mc ms cells slots pc ls st ws := by
  intro hT p e R s m args below meth c H locs lsA C XX hP hD hS hl
  have K := k hT p e R s m args below meth c H locs lsA C XX hP hD hS hl
  obtain ⟨hx, hb, hr, hml, hown, hts, hlk, hK, hB0, hR, hnm⟩ := C
  have hown := e_own hT hown
  rw [hc] at hown
  exact va_gets hx hb (hXX _ _ XX).1 hS hown (hts _ fc_link) (fun x h => h) hdg K
theorem eg_fclen {o a b nx fa : Nat} {v : Int32} {fcs : Nat → Int32} (h : lk (jt J) pc = (40, a, b, v, nx, o)) (hXX : ∀ args s, X args s → XS ε fa fcs s) (k : EG ε J X Z mc ms cells slots nx ls (.inl (nI 8) :: st) ws) : EG ε J X Z mc ms cells slots pc ls (.inr (fa, 99) :: st) ws := by
  intro hT p e R s m args below meth c H locs lsA C XX hP hD hS hl
  have hok := e_op hT h (by decide)
  have K := k hT p e R s m args below meth c H locs lsA C XX hP hD hS hl
  obtain ⟨hx, hb, hr, hml, hown, hts, hlk, hK, hB0, hR, hnm⟩ := C
  obtain ⟨hd, rfl⟩ := okD_d hok
  exact va_tlen hx hb (hXX _ _ XX).2.1 hS rfl hd K
theorem eg_fcld {o a b nx fa j : Nat} {v : Int32} {fcs : Nat → Int32} (h : lk (jt J) pc = (32, a, b, v, nx, o)) (hXX : ∀ args s, X args s → XS ε fa fcs s) (hj : j < 8) (k : EG ε J X Z mc ms cells slots nx ls (.inl (fcs j) :: st) ws) : EG ε J X Z mc ms cells slots pc ls (.inl (nI j) :: .inr (fa, 99) :: st) ws := by
  intro hT p e R s m args below meth c H locs lsA C XX hP hD hS hl
  have hok := e_op hT h (by decide)
  have K := k hT p e R s m args below meth c H locs lsA C XX hP hD hS hl
  obtain ⟨hx, hb, hr, hml, hown, hts, hlk, hK, hB0, hR, hnm⟩ := C
  obtain ⟨hd, rfl⟩ := okD_d hok
  exact va_ti hx hb (hXX _ _ XX).2.1 hS (vp_in_nI hj (by omega)) (by rw [nI_clamp (by omega)]; rfl) hd K
end MX
