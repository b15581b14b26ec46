/-! Operations: what they answer, what the present office is behind them, what undo would bring back. Hour, post. -/
section OA
variable {ε : EE} {J J' : JT} {pc : Nat} {ls : List (Option V0)} {st : List V0} {As : List V0} {G G' G0 G1 : GG} {V V' : VV} {i N Y d l : Nat} {s a : Int32} {o : Nat → Int32} {Q : Option Int32 → GG → Prop}
/-- one state recorded: G0; the present office is V' -/
def Dn (G0 G' : GG) (V' : VV) : Prop := SG G' ∧ O G' 0 = V' ∧ ∃ d, Top G0 G' d ∧ (G0 0 31 1 = nI d ∨ (G0 0 31 1 = nI 5 ∧ d = 4))
theorem q_rem (h : SG G) : C2 ε jX1_remember [.inr (0, 31), .inr (0, 20)] G (fun v G1 => v = none ∧ Rm G G1) := by
  obtain ⟨d, hm, hh⟩ := h.2.2.1
  exact q_rem0 hh h.okM
theorem Rm.oo (h : Rm G G1) {j : Nat} (hj : j < 3) : O G1 j = O G j := O_eq (fun kk hk => h.2 j kk (by omega) (by omega) (by omega) (by omega))
theorem HS.same {hm : Nat → Nat} (h : HS G d hm) (h31 : G' 0 31 = G 0 31) (h32 : G' 0 32 = G 0 32) : HS G' d hm := by
  obtain ⟨a, b, e, f⟩ := h
  exact ⟨a, by rw [h31]; exact b, fun p hp => by rw [h32]; exact e p hp, f⟩
theorem Rm.dn (h : Rm G G1) (k : SG G) (ho : ∀ i kk, 3 ≤ i → i < 18 → kk < 18 → G' i kk = G1 i kk) (h22 : ∀ m, 1 ≤ m → m < 6 → G' m 22 = G1 m 22) (h31 : G' 0 31 = G1 0 31) (h32 : G' 0 32 = G1 0 32) (h33 : G' 0 33 = G1 0 33) (hV : O G' 0 = V') (hI : ∃ N, IV V' N 500) (hs : ∀ t, t < 2 → (G' 0 22 t = 0 ∨ G' 0 22 t = 1) ∧ (G' 0 22 t = 1 → ∃ N, IV (O G' (1 + t)) N 500)) : Dn G G' V' := by
  obtain ⟨⟨d, ⟨hm, hd, hH, s1, s2⟩, hx⟩, hr⟩ := h
  obtain ⟨m1, m6, -⟩ := hH.2.2.1 d hd
  refine ⟨⟨by rw [hV]; exact hI, hs, ⟨d + 1, hm, hH.same h31 h32⟩, ?_⟩, hV, d, ⟨hm, hd, hH.same h31 h32, fun kk hk => ?_, fun t ht => ⟨?_, fun z kk hk => ?_⟩⟩, hx⟩
  · rw [h33, hr 0 33 (by omega) (by omega) (by omega) (by omega)]
    exact k.2.2.2
  · rw [ho _ kk (by omega) (by omega) hk]
    exact s1 kk hk
  · rw [h22 _ m1 m6]
    exact (s2 t ht).1
  · rw [ho _ kk (by omega) (by omega) hk]
    exact (s2 t ht).2 z kk hk
theorem Rm.off (h : Rm G G1) (k : SG G) (hc : Can V') (hI : ∃ N, IV V' N 500) : Dn G (cG G1 0 V' s o) V' := by
  refine h.dn k (fun i kk a b c => cG_o (Or.inl (by omega)) (by omega) (by omega)) (fun m a b => cG_o (Or.inr (by omega)) (by omega) (by omega)) (cG_o (Or.inr (by omega)) (by omega) (by omega)) (cG_o (Or.inr (by omega)) (by omega) (by omega)) (cG_o (Or.inr (by omega)) (by omega) (by omega)) (O_cG hc) hI (fun t ht => ?_)
  rw [cG_o (Or.inr (by omega)) (by omega) (by omega), O_cGo (by omega), h.2 0 22 (by omega) (by omega) (by omega) (by omega), h.oo (by omega)]
  exact k.2.1 t ht
theorem Shows.back {m : Nat} (hG : lk1 G0 G) (h : Shows G G' m) : Shows G0 G' m := by
  obtain ⟨a, b⟩ := h
  have e22 : G 0 22 = G0 0 22 := hG 0 22 (by omega) (by omega) (by omega)
  rw [e22] at b
  refine ⟨fun kk hk => by rw [a kk hk]; exact hG 0 kk (by omega) (by omega) (by omega), fun t ht => ⟨(b t ht).1, fun z kk hk => ?_⟩⟩
  rw [(b t ht).2 z kk hk]
  exact hG (1 + t) kk (by omega) (by omega) (by omega)
theorem Dn.back (hG : lk1 G0 G) (h : Dn G G' V') : Dn G0 G' V' := by
  obtain ⟨a, b, d, ⟨hm, c1, c2, c3⟩, e⟩ := h
  rw [hG 0 31 (by omega) (by omega) (by omega)] at e
  exact ⟨a, b, d, ⟨hm, c1, c2, c3.back hG⟩, e⟩
/-- an operation that records -/
def Op (ε : EE) (J : JT) (As : List V0) (G0 : GG) (a : Int32) (V' : VV) : Prop := ∀ G, lk1 G0 G → C2 ε J (.inr (0, 30) :: As) G (fun v G' => v = some a ∧ Dn G0 G' V')
theorem Op.of (h : ∀ G, lk1 G0 G → C2 ε J (.inr (0, 30) :: As) G (fun v G' => v = some a ∧ Dn G G' V')) : Op ε J As G0 a V' := fun G hG => C2.post (fun v G' z => ⟨z.1, z.2.back hG⟩) (h G hG)
theorem IV.mono {Y' : Nat} (h : IV V N Y) (hy : Y ≤ Y') : IV V N Y' := by
  obtain ⟨⟨⟨a1, a2, a3, a4, ⟨y, y1, y2⟩, a6, a7, a8⟩, b, c, e⟩, f, g⟩ := h
  refine ⟨⟨⟨a1, a2, a3, a4, ⟨y, by omega, y2⟩, a6, a7, a8⟩, b, c, fun l hl => ?_⟩, f, g⟩
  obtain ⟨e1, e2, e3, x, y', xy, yY, x9, y4⟩ := e l hl
  exact ⟨e1, e2, e3, x, y', xy, by omega, x9, y4⟩
theorem IV.tight {y : Nat} (h : IV V N Y) (hY : Y < 2 ^ 30) (hy : V 0 4 = nI y) (hy2 : y < 2 ^ 30) : IV V N y := by
  obtain ⟨⟨⟨a1, a2, a3, a4, ⟨y', y1, y2⟩, a6, a7, a8⟩, b, c, e⟩, f, g⟩ := h
  refine ⟨⟨⟨a1, a2, a3, a4, ⟨y, Nat.le_refl _, hy⟩, a6, a7, a8⟩, b, c, fun l hl => ?_⟩, f, g⟩
  obtain ⟨e1, e2, e3, x, y', xy, yY, x9, y4⟩ := e l hl
  have : y' = y := (nI_eq (by omega) (by omega)).1 (y4.symm.trans hy)
  exact ⟨e1, e2, e3, x, y', xy, by omega, x9, y4⟩
theorem hrs_can (h : IV V N Y) (hc : Can V) : Can (hrsV V N) := hc.of (fun kk hk => (hour_all h).2.2.2.2.1 kk (by omega) (by omega) (by omega) (by omega))
theorem D_hour (h : SG G0) (hN : IV (O G0 0) N 500) {y : Nat} (hy : O G0 0 0 4 = nI y) (hlt : y < 500) : Op ε jX8_hour [] G0 (nI (P7 (hrsV (O G0 0) N) 2 N)) (hrsV (O G0 0) N) := by
  refine Op.of (fun G hG => ?_)
  rw [← hG.oo (by decide)] at hy ⊢
  have hN := hG.IVo hN
  have h := hG.sg h
  have hi : (0 : Nat) < 19 := by decide
  have hT := hN.tight (by decide) hy (by omega)
  have hall := hour_all hT
  refine C2.of (ls := [some (.inr (0, 30))]) okX8_hour rfl rfl ?_
  repeat (first | refine e2_step rfl rfl ?_ | refine e2_get rfl (by first | exact hi | decide) rfl rfl ?_)
  rw [show G 0 0 4 = nI y from hy]
  refine e2_if rfl rfl (fun _ => ?_) (fun z => absurd ((nI_ltI (by omega) (by omega)).2 hlt) z)
  repeat (first | refine e2_step rfl rfl ?_ | refine e2_get rfl (by first | exact hi | decide) rfl rfl ?_)
  refine e2_callVv rfl ⟨rfl, rfl, rfl⟩ rfl rfl rfl rfl (by decide) rfl rfl rfl (q_rem h) (fun G1 z => ?_)
  obtain ⟨-, hQ⟩ := z
  have e0 := hQ.oo (j := 0) (by omega)
  have hp := hN.pass (ε := ε) (G := G1) (s := G1 0 40 1) (o := G1 0 41) hi
  have hv := v_countIn (ε := ε) (G := G1) (s := nI (bagH (O G 0) N).length) (o := ordA (bagH (O G 0) N) (G1 0 41)) hi hall.1.1.nle hall.1.1.cnt (nI 2)
  rw [← e0] at hp hv ⊢
  repeat (first | refine e2_step rfl rfl ?_ | refine e2_get rfl (by first | exact hi | decide) rfl rfl ?_)
  refine e2_fi (fo_self hp) rfl rfl ⟨rfl, rfl, rfl⟩ rfl rfl rfl (by first | exact hi | decide) rfl rfl rfl ?_
  repeat (first | refine e2_step rfl rfl ?_ | refine e2c_get (i := 0) (by decide) rfl rfl rfl rfl ?_ | refine e2_get rfl (by decide) rfl rfl ?_)
  refine e2c_fi (hv) rfl rfl ⟨rfl, rfl, rfl⟩ rfl rfl rfl hi rfl rfl rfl rfl ?_
  rw [e0] at hp hv ⊢
  exact e2_iret rfl rfl ⟨rfl, hQ.off h (hrs_can hT O_can) ⟨N, hall.1.mono (by omega)⟩⟩
theorem L_hourFull (hN : IV (O G0 0) N 500) (hy : O G0 0 0 4 = nI 500) : Lk ε jX8_hour [] G0 (-3) := by
  intro G hG
  rw [← hG.oo (by decide)] at hy
  refine FL.same ?_
  refine C2.of (ls := [some (.inr (0, 30))]) okX8_hour rfl rfl ?_
  repeat (first | refine e2_step rfl rfl ?_ | refine e2_get rfl (by first | exact hi | decide) rfl rfl ?_)
  rw [show G 0 0 4 = nI 500 from hy]
  refine e2_if rfl rfl (fun z => absurd z (by decide)) (fun _ => ?_)
  repeat (first | refine e2_step rfl rfl ?_ | refine e2_get rfl (by first | exact hi | decide) rfl rfl ?_)
  exact e2_iret rfl rfl ⟨rfl, rfl⟩
-- post
theorem IV.add (h : IV V N Y) (hN : N < 120) {c f : Nat} (hc : c < 100) (hf : f < 2) : IV (addV V N (nI c) (nI f) (V 0 4)) (N + 1) Y := by
  obtain ⟨⟨⟨a1, a2, a3, a4, ⟨y, y1, y2⟩, a6, a7, a8⟩, b, fr, e⟩, hh, hd⟩ := h
  have w4 : addV V N (nI c) (nI f) (V 0 4) 4 = upd (V 4) N (nI c) := rfl
  have w5 : addV V N (nI c) (nI f) (V 0 4) 5 = upd (V 5) N (nI f) := rfl
  have w6 : addV V N (nI c) (nI f) (V 0 4) 6 = upd (V 6) N (nI 0) := rfl
  have w7 : addV V N (nI c) (nI f) (V 0 4) 7 = upd (V 7) N (nI 0) := rfl
  have w8 : addV V N (nI c) (nI f) (V 0 4) 8 = upd (V 8) N (-9) := rfl
  have w9 : addV V N (nI c) (nI f) (V 0 4) 9 = upd (V 9) N (V 0 4) := rfl
  have w10 : addV V N (nI c) (nI f) (V 0 4) 10 = upd (V 10) N (-9) := rfl
  have w3 : addV V N (nI c) (nI f) (V 0 4) 3 8 = nI (N + 1) := by
    show V 3 8 + nI 1 = _
    rw [a2, nI_add']
  have u : ∀ (g : Nat → Int32) (x : Int32) (l : Nat), l < N → upd g N x l = g l := fun g x l hl => by unfold upd; rw [if_neg (by omega)]
  have uN : ∀ (g : Nat → Int32) (x : Int32), upd g N x N = x := fun g x => by unfold upd; rw [if_pos rfl]
  generalize hW : addV V N (nI c) (nI f) (V 0 4) = W at w3 w4 w5 w6 w7 w8 w9 w10 ⊢
  have w0 : W 0 = V 0 := by rw [← hW]; rfl
  have w2 : W 2 = V 2 := by rw [← hW]; rfl
  have w11 : W 11 = V 11 := by rw [← hW]; rfl
  have w13 : W 13 = V 13 := by rw [← hW]; rfl
  have w14 : W 14 = V 14 := by rw [← hW]; rfl
  have w15 : W 15 = V 15 := by rw [← hW]; rfl
  have w17 : W 17 = V 17 := by rw [← hW]; rfl
  refine ⟨⟨⟨by omega, w3, by rw [w2]; exact a3, by rw [w17]; exact a4, ⟨y, y1, by rw [w0]; exact y2⟩, by rw [w0]; exact a6, by rw [w0]; exact a7, by rw [w0]; exact a8⟩, b.congr w13 w14, fun w hw => ?_, fun l hl => ?_⟩, fun l hl z => ?_, ?_⟩
  · rw [w11, fr w hw]
    show _ = nI (cntB (atV W (nI 1) (nI w)) N + _)
    have e1 : atV W (nI 1) (nI w) N = false := by
      unfold atV
      rw [w7, uN, decide_eq_false (by decide), Bool.false_and]
    rw [e1, if_neg (by decide), Nat.add_zero]
    congr 1
    refine cntB_congr N (fun j hj => ?_)
    unfold atV
    rw [w7, w8, u _ _ j hj, u _ _ j hj]
  · unfold IL
    rw [w4, w5, w6, w7, w8, w9, w10, w0]
    by_cases hlN : l < N
    · rw [u _ _ l hlN, u _ _ l hlN, u _ _ l hlN, u _ _ l hlN, u _ _ l hlN, u _ _ l hlN, u _ _ l hlN]
      exact e l hlN
    · have : l = N := by omega
      subst this
      rw [uN, uN, uN, uN, uN, uN, uN]
      refine ⟨⟨c, hc, rfl⟩, ?_, ⟨0, 0, by omega, by omega, rfl, rfl, ⟨fun z => by omega, fun z => by omega⟩, fun z => by omega, fun z => by omega, ⟨fun _ => rfl, fun _ => by omega⟩⟩, y, y, Nat.le_refl _, y1, y2, y2⟩
      have : f = 0 ∨ f = 1 := by omega
      rcases this with rfl | rfl
      · exact Or.inl rfl
      · exact Or.inr rfl
  · rw [w7] at z
    rw [w8, w14]
    by_cases hlN : l < N
    · rw [u _ _ l hlN] at z ⊢
      exact hh l hlN z
    · have : l = N := by omega
      subst this
      rw [uN] at z
      exact absurd z (by decide)
  · unfold ID at hd ⊢
    rw [w15, hd]
    show _ = nI (cntB (fun l => decide (W 7 l = nI 4)) N + (if decide (W 7 N = nI 4) then 1 else 0))
    rw [w7, uN, decide_eq_false (p := nI 0 = nI 4) (by decide), if_neg (by decide), Nat.add_zero]
    congr 1
    exact cntB_congr N (fun j hj => by rw [u _ _ j hj])
theorem IV.adds (h : IV V N Y) {c f : Nat} (hc : c < 100) (hf : f < 2) : ∀ k, N + k ≤ 120 → IV (addVs V N (nI c) (nI f) (V 0 4) k) (N + k) Y
  | 0, _ => h
  | k + 1, hk => by
    have ih := h.adds hc hf k (by omega)
    have := ih.add (by omega) hc hf
    rw [addVs_0] at this
    exact this
theorem adds_can {c f x : Int32} (hc : Can V) : ∀ k, Can (addVs V N c f x k)
  | 0 => hc
  | k + 1 => (adds_can hc k).of (fun kk hk => by
    show addV _ _ _ _ _ kk = _
    unfold addV wv sv
    rw [if_neg (by omega), if_neg (by omega), if_neg (by omega), if_neg (by omega), if_neg (by omega), if_neg (by omega), if_neg (by omega), if_neg (by omega)])
theorem isIn_ab' {k a b : Nat} (h1 : a ≤ k) (h2 : k ≤ b) (hb : b < 2 ^ 31) : isInB (nI k) (nI a) (nI b) = true := by
  unfold isInB
  rw [decide_eq_true ((nI_leI (by omega) (by omega)).2 h1), decide_eq_true ((nI_leI (by omega) hb).2 h2)]
  rfl
theorem p_in {c f m : Nat} (hc : c < 100) (hf : f < 2) (hm : 1 ≤ m) (hm2 : m ≤ 20) (hcc : G 0 3 8 = nI N) : ∀ Q, E2 ε jX8_post 46 [some (.inr (0, 30)), some (.inl (nI c)), some (.inl (nI f)), some (.inl (nI m)), some (.inl (nI N)), none] [] G Q → E2 ε jX8_post 0 [some (.inr (0, 30)), some (.inl (nI c)), some (.inl (nI f)), some (.inl (nI m)), none, none] [] G Q := by
  intro Q k
  repeat (first | refine e2_step rfl rfl ?_ | refine e2_get rfl (by first | exact hi | decide) rfl rfl ?_)
  refine e2_fs (c_isIn (nI c) (nI 0) (nI 99)) rfl rfl ⟨rfl, rfl, rfl⟩ rfl rfl rfl ?_
  rw [isIn_T (by omega) (by decide)]
  refine e2_if rfl rfl (fun z => absurd z (by decide)) (fun _ => ?_)
  repeat (first | refine e2_step rfl rfl ?_ | refine e2_get rfl (by first | exact hi | decide) rfl rfl ?_)
  refine e2_fs (c_isIn (nI f) (nI 0) (nI 1)) rfl rfl ⟨rfl, rfl, rfl⟩ rfl rfl rfl ?_
  rw [isIn_T (by omega) (by decide)]
  refine e2_if rfl rfl (fun z => absurd z (by decide)) (fun _ => ?_)
  repeat (first | refine e2_step rfl rfl ?_ | refine e2_get rfl (by first | exact hi | decide) rfl rfl ?_)
  refine e2_fs (c_isIn (nI m) (nI 1) (nI 20)) rfl rfl ⟨rfl, rfl, rfl⟩ rfl rfl rfl ?_
  rw [isIn_ab' hm hm2 (by decide)]
  refine e2_if rfl rfl (fun _ => ?_) (fun z => absurd (by decide) z)
  repeat (first | refine e2_stepS 44 rfl rfl rfl ?_ | refine e2_getS 44 rfl rfl (by decide) rfl rfl ?_)
  rw [hcc]
  refine e2_step rfl rfl ?_
  exact k
theorem e2_cGin (i : Nat) (h : E2 ε J pc ls st (cG G i (O G i) (G 0 40 1) (G 0 41)) Q) : E2 ε J pc ls st G Q := by
  rw [cG_O] at h
  exact h
theorem D_post (h : SG G0) (hN : IV (O G0 0) N 500) {c f m : Nat} (hc : c < 100) (hf : f < 2) (hm : 1 ≤ m) (hm2 : m ≤ 20) (hful : N + m ≤ 120) : Op ε jX8_post [.inl (nI c), .inl (nI f), .inl (nI m)] G0 (nI N) (addVs (O G0 0) N (nI c) (nI f) (O G0 0 0 4) m) := by
  refine Op.of (fun G hG => ?_)
  rw [← hG.oo (by decide)]
  have hN := hG.IVo hN
  have h := hG.sg h
  have hi : (0 : Nat) < 19 := by decide
  refine C2.of (ls := [some (.inr (0, 30)), some (.inl (nI c)), some (.inl (nI f)), some (.inl (nI m)), none, none]) okX8_post rfl rfl ?_
  refine p_in (G := G) hc hf hm hm2 (show G 0 3 8 = nI N from hN.1.cnt) _ ?_
  repeat (first | refine e2_step rfl rfl ?_ | refine e2_get rfl (by first | exact hi | decide) rfl rfl ?_)
  rw [nI_add']
  refine e2_if rfl rfl (fun _ => ?_) (fun z => absurd (nI_le hful (by omega)) z)
  repeat (first | refine e2_step rfl rfl ?_ | refine e2_get rfl (by first | exact hi | decide) rfl rfl ?_)
  refine e2_callVv rfl ⟨rfl, rfl, rfl⟩ rfl rfl rfl rfl (by decide) rfl rfl rfl (q_rem h) (fun G1 z => ?_)
  obtain ⟨-, hQ⟩ := z
  have e0 := hQ.oo (j := 0) (by omega)
  have hfin := hQ.off (s := G1 0 40 1) (o := G1 0 41) h (adds_can (V := O G 0) (N := N) (c := nI c) (f := nI f) (x := O G 0 0 4) O_can m) ⟨_, hN.adds hc hf m hful⟩
  have hP := fun k hk => hN.adds hc hf k hk
  rw [← e0] at hfin hP
  refine e2_cGin 0 ?_
  repeat (first | refine e2_stepS 72 rfl rfl rfl ?_)
  refine e2_for m (fun k => [some (.inr (0, 30)), some (.inl (nI c)), some (.inl (nI f)), some (.inl (nI m)), some (.inl (nI N)), some (.inl (nI k))]) (fun k => cG G1 0 (addVs (O G1 0) N (nI c) (nI f) (O G1 0 0 4) k) (G1 0 40 1) (G1 0 41)) (fun k hk K => ?_) (fun M hM => ?_)
  · repeat (first | refine e2_step rfl rfl ?_ | refine e2_get rfl (by first | exact hi | decide) rfl rfl ?_)
    refine e2_if rfl rfl (fun z => absurd z (nI_ge hk (by omega))) (fun _ => ?_)
    repeat (first | refine e2_step rfl rfl ?_ | refine e2c_get (i := 0) (by decide) rfl rfl rfl rfl ?_ | refine e2_get rfl (by decide) rfl rfl ?_)
    rw [show addVs (O G1 0) N (nI c) (nI f) (O G1 0 0 4) k 0 4 = O G1 0 0 4 by rw [addVs_0]]
    refine e2c_fv (v_add (N := N + k) hi (by omega) (hP k (by omega)).1.cnt (nI c) (nI f) (O G1 0 0 4)) rfl rfl ⟨rfl, rfl, rfl⟩ rfl rfl rfl hi rfl rfl rfl rfl ?_
    repeat (first | refine e2_stepS 72 rfl rfl rfl ?_)
    rw [nI_add']
    exact K
  · subst hM
    repeat (first | refine e2_step rfl rfl ?_ | refine e2_get rfl (by first | exact hi | decide) rfl rfl ?_)
    refine e2_if rfl rfl (fun _ => ?_) (fun z => absurd (Int32.le_refl _) z)
    repeat (first | refine e2_step rfl rfl ?_ | refine e2_get rfl (by first | exact hi | decide) rfl rfl ?_)
    exact e2_iret rfl rfl ⟨rfl, by rw [← e0]; exact hfin⟩
theorem L_postFull (hN : IV (O G0 0) N 500) {c f m : Nat} (hc : c < 100) (hf : f < 2) (hm : 1 ≤ m) (hm2 : m ≤ 20) (hful : 120 < N + m) : Lk ε jX8_post [.inl (nI c), .inl (nI f), .inl (nI m)] G0 (-3) := by
  intro G hG
  have hN := hG.IVo hN
  have hN2 := hN.1.nle
  refine FL.same ?_
  refine C2.of (ls := [some (.inr (0, 30)), some (.inl (nI c)), some (.inl (nI f)), some (.inl (nI m)), none, none]) okX8_post rfl rfl ?_
  refine p_in (G := G) hc hf hm hm2 (show G 0 3 8 = nI N from hN.1.cnt) _ ?_
  repeat (first | refine e2_step rfl rfl ?_ | refine e2_get rfl (by first | exact hi | decide) rfl rfl ?_)
  rw [nI_add']
  refine e2_if rfl rfl (fun z => absurd z (nI_ge (a := 120) (b := N + m) hful (by omega))) (fun _ => ?_)
  repeat (first | refine e2_step rfl rfl ?_ | refine e2_get rfl (by first | exact hi | decide) rfl rfl ?_)
  exact e2_iret rfl rfl ⟨rfl, rfl⟩
end OA
