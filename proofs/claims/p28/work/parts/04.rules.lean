/-! The rules of E: fields, arrays, ends, calls. -/
section MC
variable {ε : EE} {J : JT} {mc ms cells slots pc : Nat} {ls : List (Option V0)} {st : List V0} {ws : va_W} {Q : Option Int32 → va_W → Prop}
def nfC (t : Nat) : Nat := match t with
  | 0 => 4 | 1 => 2 | 2 => 9 | 3 => 2 | 4 => 3 | 5 => 8 | 6 => 8 | 7 => 1 | _ => 5
def tyC (t : Nat) : Nat → FieldType := match t with
  | 0 => tyX0 | 1 => tyX1 | 2 => tyX2 | 3 => tyX3 | 4 => tyX4 | 5 => tyX5 | 6 => tyX6 | 7 => tyX7 | _ => tyX8
theorem co_9 {P : Nat → Prop} (h0 : P 0) (h1 : P 1) (h2 : P 2) (h3 : P 3) (h4 : P 4) (h5 : P 5) (h6 : P 6) (h7 : P 7) (h8 : P 8) {t : Nat} (ht : t < 9) : P t := by
  rcases (show t = 0 ∨ t = 1 ∨ t = 2 ∨ t = 3 ∨ t = 4 ∨ t = 5 ∨ t = 6 ∨ t = 7 ∨ t = 8 by omega) with h | h | h | h | h | h | h | h | h <;> subst h <;> assumption
theorem vw_at {t : Nat} (ht : t < 9) : vwCl[t]? = some (nmC t, tbC t, nfC t) ∧ (∀ w ∈ u_ws (nmC t) (tbC t) (nfC t), w ∈ Tg) ∧ (∀ k, k < nfC t → parseFieldDescriptor (tbC t k).2.2.1 = some (tyC t k)) ∧ (∀ a, a < nfC t → ∀ b, b < nfC t → a ≠ b → (tbC t a).2.1 ≠ (tbC t b).2.1) :=
  co_9 (P := fun t => vwCl[t]? = some (nmC t, tbC t, nfC t) ∧ (∀ w ∈ u_ws (nmC t) (tbC t) (nfC t), w ∈ Tg) ∧ (∀ k, k < nfC t → parseFieldDescriptor (tbC t k).2.2.1 = some (tyC t k)) ∧ (∀ a, a < nfC t → ∀ b, b < nfC t → a ≠ b → (tbC t a).2.1 ≠ (tbC t b).2.1))
    ⟨rfl, tgX0, tyX0_ok, nmX0⟩ ⟨rfl, tgX1, tyX1_ok, nmX1⟩ ⟨rfl, tgX2, tyX2_ok, nmX2⟩ ⟨rfl, tgX3, tyX3_ok, nmX3⟩ ⟨rfl, tgX4, tyX4_ok, nmX4⟩ ⟨rfl, tgX5, tyX5_ok, nmX5⟩ ⟨rfl, tgX6, tyX6_ok, nmX6⟩ ⟨rfl, tgX7, tyX7_ok, nmX7⟩ ⟨rfl, tgX8, tyX8_ok, nmX8⟩ ht
theorem flT_k : ∀ r ∈ flT, r.2.2.2 < nfC r.2.2.1 ∧ r.2.2.1 < 9 ∧ (tbC r.2.2.1 r.2.2.2).1 = nmC r.2.2.1 := by decide +kernel
theorem e_own {s : State} {m : MethodId} (hT : e_T J) (h : s.vm.findClass (jy J).cls = some m.cls) : s.vm.findClass (nmC (jc J)) = some m.cls := by rw [hT.2.1]; exact h
theorem e_get {kf t nx idx q0 a0 : Nat} {v : Int32} {pp : Nat × Nat} {fs : List Value} {w : V0} (h : lk (jt J) pc = (30, kf, t, v, nx, idx)) (hpt : e_vm ε (.inr pp) = .ref a0) (hp : ws[q0]? = some (a0, .inr (t, fs))) (hv : fs[kf]? = some (e_vm ε w)) (k : E ε J mc ms cells slots nx ls (w :: st) ws Q) : E ε J mc ms cells slots pc ls (.inr pp :: st) ws Q := by
  intro hT p e R s m args below meth c H locs lsA C hP hD hS hl
  have hok := e_op hT h (by decide)
  have K := k hT p e R s m args below meth c H locs lsA C hP hD hS hl
  obtain ⟨hx, hb, hr, hml, hown, hts, hlk, hK, hB0, hR, hnm⟩ := C
  have hown := e_own hT hown
  simp only [okOp, Bool.and_eq_true, decide_eq_true_eq] at hok
  obtain ⟨hok, hmem⟩ := hok
  obtain ⟨hd, rfl⟩ := okD_d hok
  obtain ⟨hk, ht, hsm⟩ := flT_k _ hmem
  obtain ⟨v1, v2, v3, v4⟩ := vw_at ht
  rw [List.map_cons, hpt]
  rcases flT_ok _ hmem with hf | ⟨host, hf⟩
  · exact va_get hx hb hts v2 hown hK.1 hP q0 hp v1 kf hk (hts _ hf) (fun x h9 => by rw [← hsm]; exact h9) hv hd K
  · exact va_getN hx hb hts v2 hown hK.1 hP q0 hp v1 kf hk (va_Nw.use rfl (hK.2 _ hf)) (fun x h9 => by rw [← hsm]; exact h9) hv hd K
theorem e_put {kf t nx idx q0 a0 : Nat} {v : Int32} {pp : Nat × Nat} {fs : List Value} {w : V0} (h : lk (jt J) pc = (31, kf, t, v, nx, idx)) (hpt : e_vm ε (.inr pp) = .ref a0) (hp : ws[q0]? = some (a0, .inr (t, fs))) (hfin : (tbC t kf).2.2.2 = false) (hn : narrow (tyC t kf) (e_vm ε w) = e_vm ε w) (hfit : fits (tyC t kf) (e_vm ε w) = true) (hl0 : kf < fs.length) (k : E ε J mc ms cells slots nx ls st (ws.set q0 (a0, .inr (t, fs.set kf (e_vm ε w)))) Q) : E ε J mc ms cells slots pc ls (w :: .inr pp :: st) ws Q := by
  intro hT p e R s m args below meth c H locs lsA C hP hD hS hl
  have hok := e_op hT h (by decide)
  have K := fun H locs hP hD hS => k hT p e R s m args below meth c H locs lsA C hP hD hS hl
  obtain ⟨hx, hb, hr, hml, hown, hts, hlk, hK, hB0, hR, hnm⟩ := C
  have hown := e_own hT hown
  simp only [okOp, Bool.and_eq_true, decide_eq_true_eq] at hok
  obtain ⟨hok, hmem⟩ := hok
  obtain ⟨hd, rfl⟩ := okD_d hok
  obtain ⟨hk, ht, hsm⟩ := flT_k _ hmem
  obtain ⟨v1, v2, v3, v4⟩ := vw_at ht
  rw [List.map_cons, List.map_cons, hpt]
  rcases flT_ok _ hmem with hf | ⟨host, hf⟩
  · exact va_put hx hb hts v2 (tyC t) v3 v4 hown hK.1 hP hD hS q0 hp v1 kf hk (hts _ hf) (fun x h9 => by rw [← hsm]; exact h9) hfin (v3 kf hk) hn hfit hl0 hd K
  · exact va_putN hx hb hts v2 (tyC t) v3 v4 hown hK.1 hP hD hS q0 hp v1 kf hk (va_Nw.use rfl (hK.2 _ hf)) (fun x h9 => by rw [← hsm]; exact h9) hfin (v3 kf hk) hn hfit hl0 hd K
theorem e_iald {o a b nx q0 a0 n j : Nat} {v : Int32} {pp : Nat × Nat} {f : Nat → Int32} (h : lk (jt J) pc = (32, a, b, v, nx, o)) (hpt : e_vm ε (.inr pp) = .ref a0) (hp : ws[q0]? = some (a0, .inl (ε.2.2.1 0, n, .inl f))) (hj : j < n) (hn : n < 2 ^ 31) (k : E ε J mc ms cells slots nx ls (.inl (f j) :: st) ws Q) : E ε J mc ms cells slots pc ls (.inl (nI j) :: .inr pp :: st) ws Q := by
  intro hT p e R s m args below meth c H locs lsA C hP hD hS hl
  have hok := e_op hT h (by decide)
  have K := k hT p e R s m args below meth c H locs lsA C hP hD hS hl
  obtain ⟨hx, hb, hr, hml, hown, hts, hlk, hK, hB0, hR, hnm⟩ := C
  obtain ⟨hd, rfl⟩ := okD_d hok
  rw [List.map_cons, List.map_cons, hpt]
  refine va_iald hx hb hK.1 hP q0 0 hp rfl (vp_in_nI hj hn) hd ?_
  rw [nI_clamp (Nat.lt_trans hj hn)]
  exact K
theorem e_zald {o a b nx q0 a0 n j : Nat} {v : Int32} {pp : Nat × Nat} {f : Nat → Int32} (h : lk (jt J) pc = (33, a, b, v, nx, o)) (hpt : e_vm ε (.inr pp) = .ref a0) (hp : ws[q0]? = some (a0, .inl (ε.2.2.1 1, n, .inl f))) (hj : j < n) (hn : n < 2 ^ 31) (k : E ε J mc ms cells slots nx ls (.inl (f j) :: st) ws Q) : E ε J mc ms cells slots pc ls (.inl (nI j) :: .inr pp :: st) ws Q := by
  intro hT p e R s m args below meth c H locs lsA C hP hD hS hl
  have hok := e_op hT h (by decide)
  have K := k hT p e R s m args below meth c H locs lsA C hP hD hS hl
  obtain ⟨hx, hb, hr, hml, hown, hts, hlk, hK, hB0, hR, hnm⟩ := C
  obtain ⟨hd, rfl⟩ := okD_d hok
  rw [List.map_cons, List.map_cons, hpt]
  refine va_zald hx hb hK.1 hP q0 1 hp rfl (vp_in_nI hj hn) hd ?_
  rw [nI_clamp (Nat.lt_trans hj hn)]
  exact K
theorem e_cald {o a b nx q0 a0 n j : Nat} {v : Int32} {pp : Nat × Nat} {f : Nat → Int32} (h : lk (jt J) pc = (34, a, b, v, nx, o)) (hpt : e_vm ε (.inr pp) = .ref a0) (hp : ws[q0]? = some (a0, .inl (ε.2.2.1 2, n, .inl f))) (hj : j < n) (hn : n < 2 ^ 31) (k : E ε J mc ms cells slots nx ls (.inl (f j) :: st) ws Q) : E ε J mc ms cells slots pc ls (.inl (nI j) :: .inr pp :: st) ws Q := by
  intro hT p e R s m args below meth c H locs lsA C hP hD hS hl
  have hok := e_op hT h (by decide)
  have K := k hT p e R s m args below meth c H locs lsA C hP hD hS hl
  obtain ⟨hx, hb, hr, hml, hown, hts, hlk, hK, hB0, hR, hnm⟩ := C
  obtain ⟨hd, rfl⟩ := okD_d hok
  rw [List.map_cons, List.map_cons, hpt]
  refine va_cald hx hb hK.1 hP q0 2 hp rfl (vp_in_nI hj hn) hd ?_
  rw [nI_clamp (Nat.lt_trans hj hn)]
  exact K
theorem e_aald {o a b nx q0 a0 n j t0 aj : Nat} {v : Int32} {pp p2 : Nat × Nat} {C0 : String} {cA : ClassId} {f : Nat → Option Nat} (h : lk (jt J) pc = (35, a, b, v, nx, o)) (hpt : e_vm ε (.inr pp) = .ref a0) (hp : ws[q0]? = some (a0, .inl (cA, n, .inr (.inr (.inr (.inr f)))))) (ht : (e_tys ε)[t0]? = some (cA, .object C0)) (hj : j < n) (hn : n < 2 ^ 31) (hf : f j = some aj) (hpt2 : e_vm ε (.inr p2) = .ref aj) (k : E ε J mc ms cells slots nx ls (.inr p2 :: st) ws Q) : E ε J mc ms cells slots pc ls (.inl (nI j) :: .inr pp :: st) ws Q := by
  intro hT p e R s m args below meth c H locs lsA C hP hD hS hl
  have hok := e_op hT h (by decide)
  have K := k hT p e R s m args below meth c H locs lsA C hP hD hS hl
  obtain ⟨hx, hb, hr, hml, hown, hts, hlk, hK, hB0, hR, hnm⟩ := C
  obtain ⟨hd, rfl⟩ := okD_d hok
  rw [List.map_cons, List.map_cons, hpt]
  refine va_aldq hx hb hK.1 hP q0 t0 hp ht (vp_in_nI hj hn) hd ?_
  rw [nI_clamp (Nat.lt_trans hj hn), hf]
  rw [List.map_cons, hpt2] at K
  exact K
theorem e_iast {o a b nx q0 a0 n j : Nat} {v x : Int32} {pp : Nat × Nat} {f : Nat → Int32} (h : lk (jt J) pc = (36, a, b, v, nx, o)) (hpt : e_vm ε (.inr pp) = .ref a0) (hp : ws[q0]? = some (a0, .inl (ε.2.2.1 0, n, .inl f))) (hj : j < n) (hn : n < 2 ^ 31) (k : E ε J mc ms cells slots nx ls st (ws.set q0 (a0, .inl (ε.2.2.1 0, n, .inl (upd f j x)))) Q) : E ε J mc ms cells slots pc ls (.inl x :: .inl (nI j) :: .inr pp :: st) ws Q := by
  intro hT p e R s m args below meth c H locs lsA C hP hD hS hl
  have hok := e_op hT h (by decide)
  have K := fun H locs hP hD hS => k hT p e R s m args below meth c H locs lsA C hP hD hS hl
  obtain ⟨hx, hb, hr, hml, hown, hts, hlk, hK, hB0, hR, hnm⟩ := C
  obtain ⟨hd, rfl⟩ := okD_d hok
  rw [List.map_cons, List.map_cons, List.map_cons, hpt]
  refine va_iast hx hb hK.1 hP hD hS q0 0 hp rfl (vp_in_nI hj hn) hd ?_
  rw [nI_clamp (Nat.lt_trans hj hn)]
  exact K
theorem e_zast {o a b nx q0 a0 n j : Nat} {v x : Int32} {pp : Nat × Nat} {f : Nat → Int32} (h : lk (jt J) pc = (37, a, b, v, nx, o)) (hpt : e_vm ε (.inr pp) = .ref a0) (hp : ws[q0]? = some (a0, .inl (ε.2.2.1 1, n, .inl f))) (hj : j < n) (hn : n < 2 ^ 31) (hv : vp_nar .boolean x = x) (k : E ε J mc ms cells slots nx ls st (ws.set q0 (a0, .inl (ε.2.2.1 1, n, .inl (upd f j x)))) Q) : E ε J mc ms cells slots pc ls (.inl x :: .inl (nI j) :: .inr pp :: st) ws Q := by
  intro hT p e R s m args below meth c H locs lsA C hP hD hS hl
  have hok := e_op hT h (by decide)
  have K := fun H locs hP hD hS => k hT p e R s m args below meth c H locs lsA C hP hD hS hl
  obtain ⟨hx, hb, hr, hml, hown, hts, hlk, hK, hB0, hR, hnm⟩ := C
  obtain ⟨hd, rfl⟩ := okD_d hok
  rw [List.map_cons, List.map_cons, List.map_cons, hpt]
  refine va_zast hx hb hK.1 hP hD hS q0 1 hp rfl (vp_in_nI hj hn) hd ?_
  rw [nI_clamp (Nat.lt_trans hj hn), hv]
  exact K
theorem e_cast {o a b nx q0 a0 n j : Nat} {v x : Int32} {pp : Nat × Nat} {f : Nat → Int32} (h : lk (jt J) pc = (38, a, b, v, nx, o)) (hpt : e_vm ε (.inr pp) = .ref a0) (hp : ws[q0]? = some (a0, .inl (ε.2.2.1 2, n, .inl f))) (hj : j < n) (hn : n < 2 ^ 31) (hv : vp_nar .char x = x) (k : E ε J mc ms cells slots nx ls st (ws.set q0 (a0, .inl (ε.2.2.1 2, n, .inl (upd f j x)))) Q) : E ε J mc ms cells slots pc ls (.inl x :: .inl (nI j) :: .inr pp :: st) ws Q := by
  intro hT p e R s m args below meth c H locs lsA C hP hD hS hl
  have hok := e_op hT h (by decide)
  have K := fun H locs hP hD hS => k hT p e R s m args below meth c H locs lsA C hP hD hS hl
  obtain ⟨hx, hb, hr, hml, hown, hts, hlk, hK, hB0, hR, hnm⟩ := C
  obtain ⟨hd, rfl⟩ := okD_d hok
  rw [List.map_cons, List.map_cons, List.map_cons, hpt]
  refine va_cast hx hb hK.1 hP hD hS q0 2 hp rfl (vp_in_nI hj hn) hd ?_
  rw [nI_clamp (Nat.lt_trans hj hn), hv]
  exact K
theorem e_aast {o a b nx q0 a0 n j t0 qk ci aj : Nat} {v : Int32} {pp p2 : Nat × Nat} {cA : ClassId} {r : vw_C} {vs : List Value} {f : Nat → Option Nat} (h : lk (jt J) pc = (39, a, b, v, nx, o)) (hpt : e_vm ε (.inr pp) = .ref a0) (hp : ws[q0]? = some (a0, .inl (cA, n, .inr (.inr (.inr (.inr f)))))) (ht : (e_tys ε)[t0]? = some (cA, .object r.1)) (hpt2 : e_vm ε (.inr p2) = .ref aj) (hv : ws[qk]? = some (aj, .inr (ci, vs))) (hc : vwCl[ci]? = some r) (hj : j < n) (hn : n < 2 ^ 31) (k : E ε J mc ms cells slots nx ls st (ws.set q0 (a0, .inl (cA, n, .inr (.inr (.inr (.inr (va_up f j (some aj)))))))) Q) : E ε J mc ms cells slots pc ls (.inr p2 :: .inl (nI j) :: .inr pp :: st) ws Q := by
  intro hT p e R s m args below meth c H locs lsA C hP hD hS hl
  have hok := e_op hT h (by decide)
  have K := fun H locs hP hD hS => k hT p e R s m args below meth c H locs lsA C hP hD hS hl
  obtain ⟨hx, hb, hr, hml, hown, hts, hlk, hK, hB0, hR, hnm⟩ := C
  obtain ⟨hd, rfl⟩ := okD_d hok
  rw [List.map_cons, List.map_cons, List.map_cons, hpt, hpt2]
  refine va_astq hx hb hK.1 hP hD hS q0 t0 qk ci hp ht hv hc (vp_in_nI hj hn) hd ?_
  rw [nI_clamp (Nat.lt_trans hj hn)]
  exact K
theorem e_alen {o a b nx q0 a0 t0 : Nat} {v : Int32} {pp : Nat × Nat} {cA : ClassId} {x : vp_A} {ty : FieldType} (h : lk (jt J) pc = (40, a, b, v, nx, o)) (hpt : e_vm ε (.inr pp) = .ref a0) (hp : ws[q0]? = some (a0, .inl (cA, x))) (ht : (e_tys ε)[t0]? = some (cA, ty)) (k : E ε J mc ms cells slots nx ls (.inl (nI x.1) :: st) ws Q) : E ε J mc ms cells slots pc ls (.inr pp :: st) ws Q := by
  intro hT p e R s m args below meth c H locs lsA C hP hD hS hl
  have hok := e_op hT h (by decide)
  have K := k hT p e R s m args below meth c H locs lsA C hP hD hS hl
  obtain ⟨hx, hb, hr, hml, hown, hts, hlk, hK, hB0, hR, hnm⟩ := C
  obtain ⟨hd, rfl⟩ := okD_d hok
  rw [List.map_cons, hpt]
  exact va_alen hx hb hK.1 hP q0 t0 hp ht rfl hd K
theorem e_Qc_some {ty : FieldType} (h : jr J = some ty) : e_Qc ε J Q = va_Qi (fun r u => Q (some r) u) (fun u t => e_W ε u t) (e_A ε) := by unfold e_Qc; rw [h]
theorem e_Qc_none (h : jr J = none) : e_Qc ε J Q = va_Qv (Q none) (fun u t => e_W ε u t) (e_A ε) := by unfold e_Qc; rw [h]
theorem e_iret {o a b nx : Nat} {v x : Int32} (h : lk (jt J) pc = (41, a, b, v, nx, o)) (hr : jr J = some .int) (hc : cells ≤ mc) (hs : slots ≤ ms) (hQ : Q (some x) ws) : E ε J mc ms cells slots pc ls [.inl x] ws Q := by
  intro hT p e R s m args below meth c H locs lsA C hP hD hS hl
  have hok := e_op hT h (by decide)
  obtain ⟨hx, hb, hrt, hml, hown, hts, hlk, hK, hB0, hR, hnm⟩ := C
  simp only [okOp, decide_eq_true_eq] at hok
  refine W.widen hc hs ?_
  refine W.iret (v := x) hx hb (by rw [hrt, hr]) (fun t ht hW => ?_) hS.2.2 hok hlk
  rw [e_Qc_some hr]
  exact ⟨⟨x, ws, rfl, hQ, by rw [ht]; exact hP, hD⟩, hS.F ht⟩
theorem e_zret {o a b nx : Nat} {v x : Int32} (h : lk (jt J) pc = (41, a, b, v, nx, o)) (hr : jr J = some .boolean) (hc : cells ≤ mc) (hs : slots ≤ ms) (hv : vp_nar .boolean x = x) (hQ : Q (some x) ws) : E ε J mc ms cells slots pc ls [.inl x] ws Q := by
  intro hT p e R s m args below meth c H locs lsA C hP hD hS hl
  have hok := e_op hT h (by decide)
  obtain ⟨hx, hb, hrt, hml, hown, hts, hlk, hK, hB0, hR, hnm⟩ := C
  simp only [okOp, decide_eq_true_eq] at hok
  refine W.widen hc hs ?_
  refine W.zret (v := x) hx hb (by rw [hrt, hr]) (by
    have : narrow .boolean (.int x) = .int (vp_nar .boolean x) := by simp [vp_nar, narrow]
    rw [this, hv]) (fun t ht hW => ?_) hS.2.2 hok hlk
  rw [e_Qc_some hr]
  exact ⟨⟨x, ws, rfl, hQ, by rw [ht]; exact hP, hD⟩, hS.F ht⟩
theorem e_vret {o a b nx : Nat} {v : Int32} (h : lk (jt J) pc = (42, a, b, v, nx, o)) (hr : jr J = none) (hc : cells ≤ mc) (hs : slots ≤ ms) (hQ : Q none ws) : E ε J mc ms cells slots pc ls [] ws Q := by
  intro hT p e R s m args below meth c H locs lsA C hP hD hS hl
  have hok := e_op hT h (by decide)
  obtain ⟨hx, hb, hrt, hml, hown, hts, hlk, hK, hB0, hR, hnm⟩ := C
  simp only [okOp, decide_eq_true_eq] at hok
  refine W.widen hc hs ?_
  refine W.vret hx hb (by rw [hrt, hr]) (fun t ht hW => ?_) hS.2.2 hok hlk
  rw [e_Qc_none hr]
  exact ⟨⟨ws, rfl, hQ, by rw [ht]; exact hP, hD⟩, hS.F ht⟩
end MC
