/-! The rules of E: a method's contract out of E, and calls. -/
section MD
variable {ε : EE} {J : JT} {mc ms cells slots pc : Nat} {ls : List (Option V0)} {st : List V0} {ws : va_W} {Q : Option Int32 → va_W → Prop}
def e_in (As : List V0) (n : Nat) : List (Option V0) := As.map some ++ List.replicate (n - As.length) none
theorem e_ll_none (ε : EE) : ∀ (n k : Nat), e_ll ε k (List.replicate n none) = []
  | 0, k => rfl
  | n + 1, k => by rw [List.replicate_succ, e_ll, e_ll_none ε n (k + 1)]
theorem e_ll_in (ε : EE) (n : Nat) : ∀ (As : List V0) (k : Nat), e_ll ε k (As.map some ++ List.replicate n none) = lv_args k (As.map (e_vm ε))
  | [], k => by rw [List.map_nil, List.nil_append, e_ll_none]; rfl
  | v :: t, k => by
    rw [List.map_cons, List.cons_append, e_ll, e_ll_in ε n t (k + 1), List.map_cons, lv_args, if_neg (by rw [e_vm_cat]; decide)]
theorem e_sl_len (ε : EE) : ∀ (As : List V0), (lg_sl (As.map (e_vm ε))).length = As.length
  | [] => rfl
  | v :: t => by
    have h := e_sl_len ε t
    unfold lg_sl at h ⊢
    rw [List.map_cons, List.flatMap_cons, if_neg (by rw [e_vm_cat]; decide), List.length_append, h]
    simp
    omega
theorem e_K.moved {s U : State} (hW : s.WarmedH U.vm) (h : e_K ε s) : e_K ε U := ⟨va_K.moved hW.alike h.1, fun w hw => nw_warm hW hw (h.2 w hw)⟩
theorem e_K.same {s U : State} (hv : s.vm = U.vm) (h : e_K ε s) : e_K ε U := ⟨va_K.moved (by rw [hv]; exact Vm.Alike.refl _) h.1, fun w hw => va_Nw.same (nw_tab hw) hv (h.2 w hw)⟩
set_option maxHeartbeats 4000000 in
theorem e_met {As : List V0} (hT : e_T J) (hlen : As.length ≤ jm J) (hE : E ε J mc ms 0 0 0 (e_in As (jm J)) [] ws Q) : e_Ct ε J mc ms As ws Q := by
  refine Met.ofW (cc := jb J) (maxL := jm J) (ret := jr J) hT.2.2.2 rfl ?_
  intro p e s m args below meth c s₁ B hml hv
  obtain ⟨rfl, hB0, hK, hP, hD⟩ := hv
  have hts := atoms_spec (ws := e_ws J) B.pre
  have hl := lv_entry (As.map (e_vm ε)) (n := jm J) (by rw [e_sl_len]; exact hlen)
  have hC : e_C ε J mc ms p (headSpec (e_ws J) (e_rm J mc ms)).room s m (As.map (e_vm ε)).toArray meth c := ⟨B.exec, B.bytes, B.returns, hml, findClass_of_methodNamed B.named, fun w hw => hts w (List.mem_cons_of_mem _ hw), B.notSynchronized, hK, hB0, rfl, (name_of_methodNamed B.named B.method).1⟩
  rw [lg_entry_eq]
  refine hE hT p e _ s m _ below meth c s.heap [] _ hC hP hD va_S.rf ?_
  unfold e_L e_in
  rw [e_ll_in]
  exact hl
theorem e_blind {As : List V0} : FrameBlind (e_Pc ε As ws) := fun a U g mk q => by
  obtain ⟨h1, h2, h3, h4, h5⟩ := q
  exact ⟨h1, h2, e_K.same (s := U) (U := U.calling g mk a) rfl h3, h4, h5⟩
def e_link (J J' : JT) (kind n idx : Nat) : Prop := ((Cond.methodLink (jy J).cls idx (jy J') ∈ Tg) ∨ (∃ host, Cond.methodLinkNest (jy J).cls idx (jy J') host ∈ Nw)) ∧ (Cond.code (jy J') (jb J') (jm J') (jr J') ∈ Tg) ∧ (Cond.initialized (jy J').cls ∈ Tg) ∧ ((jy J').cls ≠ "java/lang/invoke/MethodHandle" ∧ (jy J').cls ≠ "java/lang/invoke/VarHandle" ∧ (parseMethodDescriptor (jy J').desc).map (fun d => d.parameters.length) = some n) ∧ (kind = 46 → Cond.static (jy J') ∈ Tg) ∧ (kind ≠ 46 → Cond.instanceMethod (jy J') ∈ Tg) ∧ (kind = 44 → Cond.selects (jy J').cls (jy J') (jy J') ∈ Tg) ∧ (kind = 45 → (jy J').name = "<init>")
theorem e_link_of {J' : JT} (hT : e_T J) (hT' : mN (jn J') = (jy J', jb J', jm J', jr J')) {kind n idx : Nat} (h : (kind, jc J, idx, jn J', n) ∈ clT) : e_link J J' kind n idx := by
  have h1 := clT_ok _ h
  unfold ClOk at h1
  simp only [hT'] at h1
  rw [hT.2.1] at h1
  exact h1
theorem e_good {J' : JT} (h : Cond.code (jy J') (jb J') (jm J') (jr J') ∈ Tg) : GoodIn Tg (e_ws J') := by
  intro w hw
  rcases List.mem_cons.1 hw with rfl | hw
  · exact tg_good _ h
  · exact tg_good _ hw
set_option maxHeartbeats 4000000 in
/-- invokevirtual, an answer that is a number -/
theorem e_callVi {J' : JT} {n idx nx a0 q0 ci mc' ms' : Nat} {v : Int32} {As rest : List V0} {pp : Nat × Nat} {fs : List Value} {Qc : Option Int32 → va_W → Prop} {ty : FieldType} (h : lk (jt J) pc = (44, n, jn J', v, nx, idx)) (hT' : mN (jn J') = (jy J', jb J', jm J', jr J')) (hr : jr J' = some ty) (hrm : jf J' + 1 ≤ jf J ∧ 8 + (jm J' + 11) + jo J' ≤ jo J) (hn : As.length = n) (hst : st = As.reverse ++ .inr pp :: rest) (hrest : rest.length ≤ 8) (hpt : e_vm ε (.inr pp) = .ref a0) (hp : ws[q0]? = some (a0, .inr (ci, fs))) (hci : ci < 9) (hcn : nmC ci = (jy J').cls) (hC : e_Ct ε J' mc' ms' (.inr pp :: As) ws Qc) (hcc : cells + mc' ≤ mc ∧ slots + ms' ≤ ms)
    (k : ∀ r ws', Qc (some r) ws' → E ε J mc ms (cells + mc') (slots + ms') nx ls (.inl r :: rest) ws' Q) : E ε J mc ms cells slots pc ls st ws Q := by
  intro hT p e R s m args below meth c H locs lsA C hP hD hS hl
  have hok := e_op hT h (by decide)
  have K := fun r ws' z H locs hP hD hS => k r ws' z hT p e R s m args below meth c H locs lsA C hP hD hS hl
  obtain ⟨hx, hb, hrt, hml, hown, hts, hlk, hK, hB0, hR, hnm⟩ := C
  simp only [okOp, Bool.and_eq_true, decide_eq_true_eq] at hok
  obtain ⟨hok, hmem⟩ := hok
  obtain ⟨hd, rfl⟩ := okD_d hok
  obtain ⟨hlink, hcode, hini, hcl, -, hinst, hsel, -⟩ := e_link_of hT hT' hmem
  have hinst := hinst (by decide)
  have hsel := hsel rfl
  have hM : Met ε.1 (jy J') (e_ws J') (e_rm J' mc' ms') (e_Pc ε (.inr pp :: As) ws) (va_Qi (fun r u => Qc (some r) u) (fun u t => e_W ε u t) (e_A ε)) mc' ms' (e_A ε) := by
    have := hC
    unfold e_Ct at this
    rw [e_Qc_some hr] at this
    exact this
  have hrecv := va_recv hK.1 hP (vw_at hci).1 hp
  have hPre : PreV s H (jy J').cls a0 (e_Pc ε (.inr pp :: As) ws) (As.map (e_vm ε)) := by
    refine ⟨e_blind, ?_, fun U hU hW => ⟨?_, ?_, e_K.moved hW hK, ?_, hD⟩⟩
    · rw [← hcn]; exact hrecv
    · rw [List.map_cons, hpt]
    · rw [hU]; exact Nat.le_trans hB0 hS.1
    · rw [hU]; exact hP
  have hsz : (F0 m pc lsA (st.map (e_vm ε))).locals.size = jm J := hl.1
  have hstk : (F0 m pc lsA (st.map (e_vm ε))).stack = (As.map (e_vm ε)).reverse ++ .ref a0 :: rest.map (e_vm ε) := by
    show st.map (e_vm ε) = _
    rw [hst, List.map_append, List.map_cons, hpt, List.map_reverse]
  have hW8 : 2 * (F0 m pc lsA (st.map (e_vm ε))).monitorRoom + ((rest.map (e_vm ε)).map fun v => v.category).sum ≤ 8 := by
    refine lv_room ?_
    have : ((rest.map (e_vm ε)).map fun v => v.category) = List.replicate rest.length 1 := by
      rw [List.map_map]
      refine List.eq_replicate_iff.2 ⟨by simp, fun b hb => ?_⟩
      obtain ⟨x, -, rfl⟩ := List.mem_map.1 hb
      exact e_vm_cat ε x
    rw [this, List.sum_replicate_nat]
    omega
  have hcells : cells + mc' ≤ R.cells ∧ slots + ms' ≤ R.slots := by rw [hR]; exact hcc
  have hRm : (e_rm J' mc' ms').frames + 1 ≤ R.frames ∧ 8 + (jm J' + 11) + (e_rm J' mc' ms').locals ≤ R.locals := by rw [hR]; exact hrm
  have hlen : (As.map (e_vm ε)).length = n := by rw [List.length_map]; exact hn
  have S : CallFix p m c (jb J) (jm J) s args Tg (jy J).cls := ⟨hx, hb, hml, hown, hts⟩
  have fin : va_Run p ε.1 e R s m args below meth c H locs cells slots mc' ms' (F0 m pc lsA (st.map (e_vm ε))) (rest.map (e_vm ε)) (va_Qi (fun r u => Qc (some r) u) (fun u t => e_W ε u t) (e_A ε) (Value.ref a0 :: As.map (e_vm ε)).toArray) (e_A ε) := by
    rcases hlink with hlink | ⟨host, hlink⟩
    · exact va_runV (As := As.map (e_vm ε)) (rest := rest.map (e_vm ε)) S hM ⟨callB_of (ws' := Tg) n hts (e_good hcode) rfl rfl rfl (hts _ hini) (hts _ hlink) hcl hRm, hts _ hinst, hts _ hsel⟩ hPre rfl hlen hsz hstk hW8 hd hcells
    · exact va_runVN (As := As.map (e_vm ε)) (rest := rest.map (e_vm ε)) S hM ⟨va_cnB (ws' := Tg) n hts (e_good hcode) rfl rfl rfl (hK.2 _ hlink) (hts _ hini) hcl hRm, hts _ hinst, hts _ hsel⟩ hPre rfl hlen hsz hstk hW8 hd hcells
  refine va_calli fin hS (fun q _ h => h) (fun q h => h) (fun r u t H1 locs1 ht hvm hw hB hz1 hk1 hS1 => ?_)
  obtain ⟨hP1, hD1⟩ := hB
  rw [ht] at hP1
  exact K r u hw H1 locs1 hP1 hD1 hS1
set_option maxHeartbeats 4000000 in
/-- invokevirtual, no answer -/
theorem e_callVv {J' : JT} {n idx nx a0 q0 ci mc' ms' : Nat} {v : Int32} {As rest : List V0} {pp : Nat × Nat} {fs : List Value} {Qc : Option Int32 → va_W → Prop} (h : lk (jt J) pc = (44, n, jn J', v, nx, idx)) (hT' : mN (jn J') = (jy J', jb J', jm J', jr J')) (hr : jr J' = none) (hrm : jf J' + 1 ≤ jf J ∧ 8 + (jm J' + 11) + jo J' ≤ jo J) (hn : As.length = n) (hst : st = As.reverse ++ .inr pp :: rest) (hrest : rest.length ≤ 8) (hpt : e_vm ε (.inr pp) = .ref a0) (hp : ws[q0]? = some (a0, .inr (ci, fs))) (hci : ci < 9) (hcn : nmC ci = (jy J').cls) (hC : e_Ct ε J' mc' ms' (.inr pp :: As) ws Qc) (hcc : cells + mc' ≤ mc ∧ slots + ms' ≤ ms)
    (k : ∀ ws', Qc none ws' → E ε J mc ms (cells + mc') (slots + ms') nx ls rest ws' Q) : E ε J mc ms cells slots pc ls st ws Q := by
  intro hT p e R s m args below meth c H locs lsA C hP hD hS hl
  have hok := e_op hT h (by decide)
  have K := fun ws' z H locs hP hD hS => k ws' z hT p e R s m args below meth c H locs lsA C hP hD hS hl
  obtain ⟨hx, hb, hrt, hml, hown, hts, hlk, hK, hB0, hR, hnm⟩ := C
  simp only [okOp, Bool.and_eq_true, decide_eq_true_eq] at hok
  obtain ⟨hok, hmem⟩ := hok
  obtain ⟨hd, rfl⟩ := okD_d hok
  obtain ⟨hlink, hcode, hini, hcl, -, hinst, hsel, -⟩ := e_link_of hT hT' hmem
  have hinst := hinst (by decide)
  have hsel := hsel rfl
  have hM : Met ε.1 (jy J') (e_ws J') (e_rm J' mc' ms') (e_Pc ε (.inr pp :: As) ws) (va_Qv (Qc none) (fun u t => e_W ε u t) (e_A ε)) mc' ms' (e_A ε) := by
    have := hC
    unfold e_Ct at this
    rw [e_Qc_none hr] at this
    exact this
  have hrecv := va_recv hK.1 hP (vw_at hci).1 hp
  have hPre : PreV s H (jy J').cls a0 (e_Pc ε (.inr pp :: As) ws) (As.map (e_vm ε)) := by
    refine ⟨e_blind, ?_, fun U hU hW => ⟨?_, ?_, e_K.moved hW hK, ?_, hD⟩⟩
    · rw [← hcn]; exact hrecv
    · rw [List.map_cons, hpt]
    · rw [hU]; exact Nat.le_trans hB0 hS.1
    · rw [hU]; exact hP
  have hsz : (F0 m pc lsA (st.map (e_vm ε))).locals.size = jm J := hl.1
  have hstk : (F0 m pc lsA (st.map (e_vm ε))).stack = (As.map (e_vm ε)).reverse ++ .ref a0 :: rest.map (e_vm ε) := by
    show st.map (e_vm ε) = _
    rw [hst, List.map_append, List.map_cons, hpt, List.map_reverse]
  have hW8 : 2 * (F0 m pc lsA (st.map (e_vm ε))).monitorRoom + ((rest.map (e_vm ε)).map fun v => v.category).sum ≤ 8 := by
    refine lv_room ?_
    have : ((rest.map (e_vm ε)).map fun v => v.category) = List.replicate rest.length 1 := by
      rw [List.map_map]
      refine List.eq_replicate_iff.2 ⟨by simp, fun b hb => ?_⟩
      obtain ⟨x, -, rfl⟩ := List.mem_map.1 hb
      exact e_vm_cat ε x
    rw [this, List.sum_replicate_nat]
    omega
  have hcells : cells + mc' ≤ R.cells ∧ slots + ms' ≤ R.slots := by rw [hR]; exact hcc
  have hRm : (e_rm J' mc' ms').frames + 1 ≤ R.frames ∧ 8 + (jm J' + 11) + (e_rm J' mc' ms').locals ≤ R.locals := by rw [hR]; exact hrm
  have hlen : (As.map (e_vm ε)).length = n := by rw [List.length_map]; exact hn
  have S : CallFix p m c (jb J) (jm J) s args Tg (jy J).cls := ⟨hx, hb, hml, hown, hts⟩
  have fin : va_Run p ε.1 e R s m args below meth c H locs cells slots mc' ms' (F0 m pc lsA (st.map (e_vm ε))) (rest.map (e_vm ε)) (va_Qv (Qc none) (fun u t => e_W ε u t) (e_A ε) (Value.ref a0 :: As.map (e_vm ε)).toArray) (e_A ε) := by
    rcases hlink with hlink | ⟨host, hlink⟩
    · exact va_runV (As := As.map (e_vm ε)) (rest := rest.map (e_vm ε)) S hM ⟨callB_of (ws' := Tg) n hts (e_good hcode) rfl rfl rfl (hts _ hini) (hts _ hlink) hcl hRm, hts _ hinst, hts _ hsel⟩ hPre rfl hlen hsz hstk hW8 hd hcells
    · exact va_runVN (As := As.map (e_vm ε)) (rest := rest.map (e_vm ε)) S hM ⟨va_cnB (ws' := Tg) n hts (e_good hcode) rfl rfl rfl (hK.2 _ hlink) (hts _ hini) hcl hRm, hts _ hinst, hts _ hsel⟩ hPre rfl hlen hsz hstk hW8 hd hcells
  refine va_callv fin hS (fun q _ h => h) (fun q h => h) (fun u t H1 locs1 ht hvm hw hB hz1 hk1 hS1 => ?_)
  obtain ⟨hP1, hD1⟩ := hB
  rw [ht] at hP1
  exact K u hw H1 locs1 hP1 hD1 hS1
set_option maxHeartbeats 4000000 in
/-- invokestatic, an answer that is a number -/
theorem e_callSi {J' : JT} {n idx nx mc' ms' : Nat} {v : Int32} {As rest : List V0} {Qc : Option Int32 → va_W → Prop} {ty : FieldType} (h : lk (jt J) pc = (46, n, jn J', v, nx, idx)) (hT' : mN (jn J') = (jy J', jb J', jm J', jr J')) (hr : jr J' = some ty) (hrm : jf J' + 1 ≤ jf J ∧ 8 + (jm J' + 11) + jo J' ≤ jo J) (hn : As.length = n) (hst : st = As.reverse ++ rest) (hrest : rest.length ≤ 8) (hC : e_Ct ε J' mc' ms' As ws Qc) (hcc : cells + mc' ≤ mc ∧ slots + ms' ≤ ms)
    (k : ∀ r ws', Qc (some r) ws' → E ε J mc ms (cells + mc') (slots + ms') nx ls (.inl r :: rest) ws' Q) : E ε J mc ms cells slots pc ls st ws Q := by
  intro hT p e R s m args below meth c H locs lsA C hP hD hS hl
  have hok := e_op hT h (by decide)
  have K := fun r ws' z H locs hP hD hS => k r ws' z hT p e R s m args below meth c H locs lsA C hP hD hS hl
  obtain ⟨hx, hb, hrt, hml, hown, hts, hlk, hK, hB0, hR, hnm⟩ := C
  simp only [okOp, Bool.and_eq_true, decide_eq_true_eq] at hok
  obtain ⟨hok, hmem⟩ := hok
  obtain ⟨hd, rfl⟩ := okD_d hok
  obtain ⟨hlink, hcode, hini, hcl, hstat, -, -, -⟩ := e_link_of hT hT' hmem
  have hstat := hstat rfl
  have hM : Met ε.1 (jy J') (e_ws J') (e_rm J' mc' ms') (e_Pc ε As ws) (va_Qi (fun r u => Qc (some r) u) (fun u t => e_W ε u t) (e_A ε)) mc' ms' (e_A ε) := by
    have := hC
    unfold e_Ct at this
    rw [e_Qc_some hr] at this
    exact this
  have hPre : PreS s H (e_Pc ε As ws) (As.map (e_vm ε)) := by
    refine ⟨e_blind, fun U hU hW => ⟨rfl, ?_, e_K.moved hW hK, ?_, hD⟩⟩
    · rw [hU]; exact Nat.le_trans hB0 hS.1
    · rw [hU]; exact hP
  have hsz : (F0 m pc lsA (st.map (e_vm ε))).locals.size = jm J := hl.1
  have hstk : (F0 m pc lsA (st.map (e_vm ε))).stack = (As.map (e_vm ε)).reverse ++ rest.map (e_vm ε) := by
    show st.map (e_vm ε) = _
    rw [hst, List.map_append, List.map_reverse]
  have hW8 : 2 * (F0 m pc lsA (st.map (e_vm ε))).monitorRoom + ((rest.map (e_vm ε)).map fun v => v.category).sum ≤ 8 := by
    refine lv_room ?_
    have : ((rest.map (e_vm ε)).map fun v => v.category) = List.replicate rest.length 1 := by
      rw [List.map_map]
      refine List.eq_replicate_iff.2 ⟨by simp, fun b hb => ?_⟩
      obtain ⟨x, -, rfl⟩ := List.mem_map.1 hb
      exact e_vm_cat ε x
    rw [this, List.sum_replicate_nat]
    omega
  have hcells : cells + mc' ≤ R.cells ∧ slots + ms' ≤ R.slots := by rw [hR]; exact hcc
  have hRm : (e_rm J' mc' ms').frames + 1 ≤ R.frames ∧ 8 + (jm J' + 11) + (e_rm J' mc' ms').locals ≤ R.locals := by rw [hR]; exact hrm
  have hlen : (As.map (e_vm ε)).length = n := by rw [List.length_map]; exact hn
  have S : CallFix p m c (jb J) (jm J) s args Tg (jy J).cls := ⟨hx, hb, hml, hown, hts⟩
  have fin : va_Run p ε.1 e R s m args below meth c H locs cells slots mc' ms' (F0 m pc lsA (st.map (e_vm ε))) (rest.map (e_vm ε)) (va_Qi (fun r u => Qc (some r) u) (fun u t => e_W ε u t) (e_A ε) (As.map (e_vm ε)).toArray) (e_A ε) := by
    rcases hlink with hlink | ⟨host, hlink⟩
    · exact va_runS (As := As.map (e_vm ε)) (rest := rest.map (e_vm ε)) S hM ⟨callB_of (ws' := Tg) n hts (e_good hcode) rfl rfl rfl (hts _ hini) (hts _ hlink) hcl hRm, hts _ hstat⟩ hPre rfl hlen hsz hstk hW8 hd hcells
    · exact va_runSN (As := As.map (e_vm ε)) (rest := rest.map (e_vm ε)) S hM ⟨va_cnB (ws' := Tg) n hts (e_good hcode) rfl rfl rfl (hK.2 _ hlink) (hts _ hini) hcl hRm, hts _ hstat, trivial⟩ hPre rfl hlen hsz hstk hW8 hd hcells
  refine va_calli fin hS (fun q _ h => h) (fun q h => h) (fun r u t H1 locs1 ht hvm hw hB hz1 hk1 hS1 => ?_)
  obtain ⟨hP1, hD1⟩ := hB
  rw [ht] at hP1
  exact K r u hw H1 locs1 hP1 hD1 hS1
theorem e_W8 {rest : List V0} (hrest : rest.length ≤ 8) : ((rest.map (e_vm ε)).map fun v => v.category).sum ≤ 8 := by
  have : ((rest.map (e_vm ε)).map fun v => v.category) = List.replicate rest.length 1 := by
    rw [List.map_map]
    refine List.eq_replicate_iff.2 ⟨by simp, fun b hb => ?_⟩
    obtain ⟨x, -, rfl⟩ := List.mem_map.1 hb
    exact e_vm_cat ε x
  rw [this, List.sum_replicate_nat]
  omega
theorem e_max {a b nx idx : Nat} {v x y : Int32} {rest : List V0} (h : lk (jt J) pc = (52, a, b, v, nx, idx)) (hrm : 1 ≤ jf J ∧ 21 ≤ jo J) (hcc : cells ≤ mc ∧ slots ≤ ms) (hrest : rest.length ≤ 8) (k : E ε J mc ms cells slots nx ls (.inl (if x < y then y else x) :: rest) ws Q) : E ε J mc ms cells slots pc ls (.inl y :: .inl x :: rest) ws Q := by
  intro hT p e R s m args below meth c H locs lsA C hP hD hS hl
  have hok := e_op hT h (by decide)
  have K := k hT p e R s m args below meth c H locs lsA C hP hD hS hl
  obtain ⟨hx, hb, hrt, hml, hown, hts, hlk, hK, hB0, hR, hnm⟩ := C
  simp only [okOp, Bool.and_eq_true, decide_eq_true_eq] at hok
  obtain ⟨hok, hmem⟩ := hok
  obtain ⟨hd, rfl⟩ := okD_d hok
  have hlink := (mxT_ok _ hmem).2.1 rfl
  refine va_mmax hx hb (by rw [hml]; exact hl.1.symm) (e_own hT hown) (hts _ hlink) (hts _ mx_stat) (hts _ mt_ini) (hts _ mx_code) (by rw [hR]; exact hrm.1) ?_ (by rw [hR]; exact hcc.1) (by rw [hR]; exact hcc.2) hd K
  rw [hR]
  have := e_W8 (ε := ε) hrest
  exact Nat.le_trans (Nat.add_le_add_right this 13) hrm.2
theorem e_min {a b nx idx : Nat} {v x y : Int32} {rest : List V0} (h : lk (jt J) pc = (53, a, b, v, nx, idx)) (hrm : 1 ≤ jf J ∧ 21 ≤ jo J) (hcc : cells ≤ mc ∧ slots ≤ ms) (hrest : rest.length ≤ 8) (k : E ε J mc ms cells slots nx ls (.inl (if y < x then y else x) :: rest) ws Q) : E ε J mc ms cells slots pc ls (.inl y :: .inl x :: rest) ws Q := by
  intro hT p e R s m args below meth c H locs lsA C hP hD hS hl
  have hok := e_op hT h (by decide)
  have K := k hT p e R s m args below meth c H locs lsA C hP hD hS hl
  obtain ⟨hx, hb, hrt, hml, hown, hts, hlk, hK, hB0, hR, hnm⟩ := C
  simp only [okOp, Bool.and_eq_true, decide_eq_true_eq] at hok
  obtain ⟨hok, hmem⟩ := hok
  obtain ⟨hd, rfl⟩ := okD_d hok
  have hlink := (mxT_ok _ hmem).2.2.1 rfl
  refine va_mmin hx hb (by rw [hml]; exact hl.1.symm) (e_own hT hown) (hts _ hlink) (hts _ mn_stat) (hts _ mt_ini) (hts _ mn_code) (by rw [hR]; exact hrm.1) ?_ (by rw [hR]; exact hcc.1) (by rw [hR]; exact hcc.2) hd K
  rw [hR]
  have := e_W8 (ε := ε) hrest
  exact Nat.le_trans (Nat.add_le_add_right this 13) hrm.2
/-- System.arraycopy of numbers: t0 0 (int) or 1 (boolean), n places from nI sp to nI dp -/
theorem e_copy {a b nx idx q0 q1 t0 a0 a1 n0 n1 sp dp n : Nat} {v : Int32} {pp p2 : Nat × Nat} {cA : ClassId} {f g : Nat → Int32} {ty : FieldType} {rest : List V0} (h : lk (jt J) pc = (54, a, b, v, nx, idx)) (hpt : e_vm ε (.inr pp) = .ref a0) (hpt2 : e_vm ε (.inr p2) = .ref a1) (hp0 : ws[q0]? = some (a0, .inl (cA, n0, .inl f))) (hp1 : ws[q1]? = some (a1, .inl (cA, n1, .inl g))) (ht : (e_tys ε)[t0]? = some (cA, ty)) (hprim : refKind ty = false) (h4 : sp + n ≤ n0) (h5 : dp + n ≤ n1) (hb0 : n0 < 2 ^ 31) (hb1 : n1 < 2 ^ 31) (hfit : ∀ i, i < n → fits ty (.int (f (sp + i))) = true) (hrm : 1 ≤ jf J ∧ 30 ≤ jo J) (hrest : rest.length ≤ 8)
    (k : E ε J mc ms cells slots nx ls rest (ws.set q1 (a1, .inl (cA, n1, .inl (va_cpy f g sp dp n)))) Q) : E ε J mc ms cells slots pc ls (.inl (nI n) :: .inl (nI dp) :: .inr p2 :: .inl (nI sp) :: .inr pp :: rest) ws Q := by
  intro hT p e R s m args below meth c H locs lsA C hP hD hS hl
  have hok := e_op hT h (by decide)
  have K := fun H locs hP hD hS => k hT p e R s m args below meth c H locs lsA C hP hD hS hl
  obtain ⟨hx, hb, hrt, hml, hown, hts, hlk, hK, hB0, hR, hnm⟩ := C
  simp only [okOp, Bool.and_eq_true, decide_eq_true_eq] at hok
  obtain ⟨hok, hmem⟩ := hok
  obtain ⟨hd, rfl⟩ := okD_d hok
  have hlink := (mxT_ok _ hmem).2.2.2 rfl
  have es : (nI sp).toNatClampNeg = sp := nI_clamp (by omega)
  have ed : (nI dp).toNatClampNeg = dp := nI_clamp (by omega)
  have en : (nI n).toNatClampNeg = n := nI_clamp (by omega)
  rw [List.map_cons, List.map_cons, List.map_cons, List.map_cons, List.map_cons, hpt, hpt2]
  refine va_copyi hx hb (by rw [hml]; exact hl.1.symm) (e_own hT hown) (hts _ hlink) (hts _ ac_nat) (hts _ ac_stat) (hts _ sy_ini) hK.1 hP hD hS q0 q1 t0 t0 hp0 hp1 ht ht hprim (nI_pos (by omega)) (nI_pos (by omega)) (nI_pos (by omega)) (by rw [es, en]; exact h4) (by rw [ed, en]; exact h5) (fun i hi => by rw [en] at hi; rw [es]; exact hfit i hi) (by rw [hR]; exact hrm.1) ?_ hd ?_
  · rw [hR]
    have := e_W8 (ε := ε) hrest
    have h7 : nativeFrameWords "java/lang/System" "arraycopy" 5 = 7 := by decide +kernel
    rw [h7]
    exact Nat.le_trans (Nat.add_le_add_right this 18) (Nat.le_trans (by omega) hrm.2)
  · rw [es, ed, en]
    exact K
end MD
