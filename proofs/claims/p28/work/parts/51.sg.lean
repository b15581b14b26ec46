/-! The state of the object as the law sees it; calls that only look. -/
section SB
variable {ε : EE} {J J' : JT} {pc : Nat} {ls : List (Option V0)} {st : List V0} {As : List V0} {G G' G0 G1 : GG} {V V' : VV} {N Y d : Nat} {Q : Option Int32 → GG → Prop}
/-- office i, with nothing else -/
def O (G : GG) (i : Nat) : VV := fun kk => if kk < 18 then G i kk else fun _ => 0
def Can (V : VV) : Prop := ∀ kk, 18 ≤ kk → V kk = fun _ => 0
theorem O_at {i kk : Nat} (h : kk < 18) : O G i kk = G i kk := if_pos h
theorem O_can {i : Nat} : Can (O G i) := fun kk hk => if_neg (by omega)
theorem O_eq {i j : Nat} (h : ∀ kk, kk < 18 → G' j kk = G i kk) : O G' j = O G i := by
  funext kk
  unfold O
  by_cases hk : kk < 18
  · rw [if_pos hk, if_pos hk, h kk hk]
  · rw [if_neg hk, if_neg hk]
theorem Can.of (h : Can V) (h2 : ∀ kk, 18 ≤ kk → V' kk = V kk) : Can V' := fun kk hk => by rw [h2 kk hk, h kk hk]
theorem cG_O {i : Nat} : cG G i (O G i) (G 0 40 1) (G 0 41) = G := by
  have e : cG G i (O G i) (G 0 40 1) (G 0 41) = cG G i (G i) (G 0 40 1) (G 0 41) := by
    funext a b
    unfold cG
    by_cases h1 : a = i ∧ b < 18
    · rw [if_pos h1, if_pos h1, O_at h1.2]
    · rw [if_neg h1, if_neg h1]
  exact e.trans (cG_self G i)
theorem O_cG {i : Nat} {s : Int32} {o : Nat → Int32} (h : Can V) : O (cG G i V s o) i = V := by
  funext kk
  by_cases hk : kk < 18
  · rw [O_at hk, cG_at hk]
  · unfold O
    rw [if_neg hk, h kk (by omega)]
theorem O_cGo {i j : Nat} {s : Int32} {o : Nat → Int32} (h : j ≠ i) : O (cG G i V s o) j = O G j := O_eq (fun kk hk => cG_o (Or.inl h) (by omega) (by omega))
theorem fo_self {i : Nat} {v : Option Int32} {V' : VV} {s' : Int32} {o' : Nat → Int32} (h : FC ε J As G i (O G i) (G 0 40 1) (G 0 41) v V' s' o') : F2 ε J As G v (cG G i V' s' o') := by
  unfold FC at h
  rw [cG_O] at h
  exact h
theorem fo_same {i : Nat} {v : Option Int32} (h : FC ε J As G i (O G i) (G 0 40 1) (G 0 41) v (O G i) (G 0 40 1) (G 0 41)) : F2 ε J As G v G := by
  unfold FC at h
  rw [cG_O] at h
  exact h
def SG (G : GG) : Prop := (∃ N, IV (O G 0) N 500) ∧ (∀ t, t < 2 → (G 0 22 t = 0 ∨ G 0 22 t = 1) ∧ (G 0 22 t = 1 → ∃ N, IV (O G (1 + t)) N 500)) ∧ (∃ d hm, HS G d hm) ∧ G 0 33 1 = nI 0
theorem lk1.oo (h : lk1 G G') {i : Nat} (hi : i ≠ 18) : O G' i = O G i := O_eq (fun kk hk => h i kk (by omega) (by omega) (by omega))
theorem lk1.rf : lk1 G G := fun _ _ _ _ _ => rfl
theorem lk1.tr (h : lk1 G G') (h2 : lk1 G' G1) : lk1 G G1 := fun i kk a b c => (h2 i kk a b c).trans (h i kk a b c)
theorem lk1.hs {hm : Nat → Nat} (h : lk1 G G') (k : HS G d hm) : HS G' d hm := by
  obtain ⟨a, b, e, f⟩ := k
  exact ⟨a, by rw [h 0 31 (by omega) (by omega) (by omega)]; exact b, fun p hp => by rw [h 0 32 (by omega) (by omega) (by omega)]; exact e p hp, f⟩
theorem lk1.sg (h : lk1 G G') (k : SG G) : SG G' := by
  obtain ⟨a, b, ⟨d, hm, c⟩, e⟩ := k
  refine ⟨by rw [h.oo (by omega)]; exact a, fun t ht => ?_, ⟨d, hm, h.hs c⟩, by rw [h 0 33 (by omega) (by omega) (by omega)]; exact e⟩
  rw [h 0 22 (by omega) (by omega) (by omega), h.oo (by omega)]
  exact b t ht
theorem lk1.sh {m : Nat} (h : lk1 G G') (hm : m < 6) (k : Shows G0 G m) : Shows G0 G' m := by
  obtain ⟨a, b⟩ := k
  refine ⟨fun kk hk => by rw [h _ kk (by omega) (by omega) (by omega)]; exact a kk hk, fun t ht => ⟨by rw [h m 22 (by omega) (by omega) (by omega)]; exact (b t ht).1, fun z kk hk => ?_⟩⟩
  rw [h _ kk (by omega) (by omega) (by omega)]
  exact (b t ht).2 z kk hk
theorem lk1.top (h : lk1 G G') (k : Top G0 G d) : Top G0 G' d := by
  obtain ⟨hm, a, b, c⟩ := k
  exact ⟨hm, a, h.hs b, h.sh (b.2.2.1 d a).2.1 c⟩
theorem IV.okZ (h : IV V N Y) : okZ V := fun t ht => ((h.1.2.1.1 t ht).1).imp id id
theorem SG.okM (h : SG G) : okM G 0 := by
  obtain ⟨⟨N, a⟩, b, -⟩ := h
  refine ⟨fun t ht => ?_, fun t ht => ⟨(b t ht).1, fun z u hu => ?_⟩⟩
  · have := a.okZ t ht
    rw [O_at (by omega)] at this
    exact this
  · obtain ⟨N2, c⟩ := (b t ht).2 z
    have := c.okZ u hu
    rw [O_at (by omega)] at this
    rw [show 3 * 0 + 1 + t = 1 + t by omega]
    exact this
/-- a look: it answers, and all but the line and the trials is as it was -/
def FL (ε : EE) (J : JT) (As : List V0) (G : GG) (a : Int32) : Prop := C2 ε J (.inr (0, 30) :: As) G (fun v G' => v = some a ∧ lk1 G G')
def Lk (ε : EE) (J : JT) (As : List V0) (G0 : GG) (a : Int32) : Prop := ∀ G, lk1 G0 G → FL ε J As G a
theorem FL.same {a : Int32} (h : F2 ε J (.inr (0, 30) :: As) G (some a) G) : FL ε J As G a := C2.post (fun v G' z => ⟨z.1, by rw [z.2]; exact lk1.rf⟩) h
theorem lk_line {s : Int32} {o : Nat → Int32} : lk1 G (cG G 0 (O G 0) s o) := fun i kk a b c => by
  unfold cG
  by_cases h1 : i = 0 ∧ kk < 18
  · rw [if_pos h1, O_at h1.2, h1.1]
  · rw [if_neg h1, if_neg (by omega), if_neg (by omega)]
theorem lk_trial {V : VV} {s : Int32} {o : Nat → Int32} : lk1 G (cG G 18 V s o) := fun i kk a b c => by
  unfold cG
  rw [if_neg a, if_neg (by omega), if_neg (by omega)]
/-- a method that looks, from any state that differs from G0 in line and trials alone -/
def E3 (ε : EE) (J : JT) (pc : Nat) (ls : List (Option V0)) (st : List V0) (G0 : GG) (Q : Option Int32 → GG → Prop) : Prop := ∀ G, lk1 G0 G → E2 ε J pc ls st G Q
theorem e3_step {o a b nx tg : Nat} {v : Int32} {ls' : List (Option V0)} {st' : List V0} (h : lk (jt J) pc = (o, a, b, v, nx, tg)) (hs : stp o a v ls st = some (ls', st')) (k : E3 ε J nx ls' st' G0 Q) : E3 ε J pc ls st G0 Q := fun G hG => e2_step h hs (k G hG)
theorem e3_stepS {o a b nx tg : Nat} {v : Int32} {ls' : List (Option V0)} {st' : List V0} (stop : Nat) (_ : Nat.beq pc stop = false) (h : lk (jt J) pc = (o, a, b, v, nx, tg)) (hs : stp o a v ls st = some (ls', st')) (k : E3 ε J nx ls' st' G0 Q) : E3 ε J pc ls st G0 Q := fun G hG => e2_step h hs (k G hG)
theorem e3_if {o a b nx tg : Nat} {v : Int32} {P : Prop} {st' : List V0} (h : lk (jt J) pc = (o, a, b, v, nx, tg)) (hs : cnd o st = some (P, st')) (kt : P → E3 ε J tg ls st' G0 Q) (kf : ¬ P → E3 ε J nx ls st' G0 Q) : E3 ε J pc ls st G0 Q := fun G hG => e2_if h hs (fun p => kt p G hG) (fun p => kf p G hG)
theorem e3_look {n idx nx : Nat} {v r : Int32} {As rest : List V0} {ty : FieldType} (hC : Lk ε J' As G0 r) (hst : st = As.reverse ++ .inr (0, 30) :: rest) (h : lk (jt J) pc = (44, n, jn J', v, nx, idx)) (hT : e_fit J J') (hr : jr J' = some ty) (hn : As.length = n) (hrest : Nat.ble rest.length 8 = true) (hcn : nmC 8 = (jy J').cls) (k : E3 ε J nx ls (.inl r :: rest) G0 Q) : E3 ε J pc ls st G0 Q := fun G hG =>
  e2_callVi (ci := 8) h hT hr hn hst hrest (by decide) rfl (by decide) hcn (hC G hG) (fun r' G' z => by
    obtain ⟨z1, z2⟩ := z
    cases z1
    exact k G' (hG.tr z2))
theorem e3_op {n idx nx : Nat} {v r : Int32} {As rest : List V0} {ty : FieldType} {P : GG → Prop} (hC : ∀ G, lk1 G0 G → C2 ε J' (.inr (0, 30) :: As) G (fun v G' => v = some r ∧ P G')) (hst : st = As.reverse ++ .inr (0, 30) :: rest) (h : lk (jt J) pc = (44, n, jn J', v, nx, idx)) (hT : e_fit J J') (hr : jr J' = some ty) (hn : As.length = n) (hrest : Nat.ble rest.length 8 = true) (hcn : nmC 8 = (jy J').cls) (k : ∀ G', P G' → E3 ε J nx ls (.inl r :: rest) G' Q) : E3 ε J pc ls st G0 Q := fun G hG =>
  e2_callVi (ci := 8) h hT hr hn hst hrest (by decide) rfl (by decide) hcn (hC G hG) (fun r' G' z => by
    obtain ⟨z1, z2⟩ := z
    cases z1
    exact k G' z2 G' lk1.rf)
/-- a static method of the law's own that looks -/
def Ls (ε : EE) (J : JT) (As : List V0) (G0 : GG) (a : Int32) : Prop := ∀ G, lk1 G0 G → C2 ε J As G (fun v G' => v = some a ∧ lk1 G G')
theorem e3_stat {n idx nx : Nat} {v r : Int32} {As rest : List V0} {ty : FieldType} (hC : Ls ε J' As G0 r) (hst : st = As.reverse ++ rest) (h : lk (jt J) pc = (46, n, jn J', v, nx, idx)) (hT : e_fit J J') (hr : jr J' = some ty) (hn : As.length = n) (hrest : Nat.ble rest.length 8 = true) (k : E3 ε J nx ls (.inl r :: rest) G0 Q) : E3 ε J pc ls st G0 Q := fun G hG =>
  e2_callSi h hT hr hn hst hrest (hC G hG) (fun r' G' z => by
    obtain ⟨z1, z2⟩ := z
    cases z1
    exact k G' (hG.tr z2))
theorem e3_statO {n idx nx : Nat} {v r : Int32} {As rest : List V0} {ty : FieldType} {P : GG → Prop} (hC : ∀ G, lk1 G0 G → C2 ε J' As G (fun v G' => v = some r ∧ P G')) (hst : st = As.reverse ++ rest) (h : lk (jt J) pc = (46, n, jn J', v, nx, idx)) (hT : e_fit J J') (hr : jr J' = some ty) (hn : As.length = n) (hrest : Nat.ble rest.length 8 = true) (k : ∀ G', P G' → E3 ε J nx ls (.inl r :: rest) G' Q) : E3 ε J pc ls st G0 Q := fun G hG =>
  e2_callSi h hT hr hn hst hrest (hC G hG) (fun r' G' z => by
    obtain ⟨z1, z2⟩ := z
    cases z1
    exact k G' z2 G' lk1.rf)
theorem e3_ret {o a b nx : Nat} {v x : Int32} (h : lk (jt J) pc = (41, a, b, v, nx, o)) (hr : jr J = some .int) (hQ : ∀ G, lk1 G0 G → Q (some x) G) : E3 ε J pc ls [.inl x] G0 Q := fun G hG => e2_iret h hr (hQ G hG)
theorem e3_zret {o a b nx : Nat} {v x : Int32} (h : lk (jt J) pc = (41, a, b, v, nx, o)) (hr : jr J = some .boolean) (hv : vp_nar .boolean x = x) (hQ : ∀ G, lk1 G0 G → Q (some x) G) : E3 ε J pc ls [.inl x] G0 Q := fun G hG => e2_zret h hr hv (hQ G hG)
/-- the law's own method by its body -/
theorem Ls.of {As : List V0} {ls : List (Option V0)} {a : Int32} (hT : e_T J) (hls : e_in As (jm J) = ls) (hlen : Nat.ble As.length (jm J) = true) (h : E3 ε J 0 ls [] G0 (fun v G' => v = some a ∧ lk1 G0 G')) : Ls ε J As G0 a := fun G hG => C2.of hT hls hlen (by
  have h1 : E3 ε J 0 ls [] G (fun v G' => v = some a ∧ lk1 G0 G') := fun G' hG' => h G' (hG.tr hG')
  have hb : lk1 G G0 := fun i kk a b c => (hG i kk a b c).symm
  exact e2_post (fun v G' z => ⟨z.1, hb.tr z.2⟩) (h1 G lk1.rf))
end SB
