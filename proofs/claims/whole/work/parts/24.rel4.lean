/-! The relation through rounds. -/
section NI
variable {V : VV} {r : Nat → Int32} {N l : Nat}
theorem insR_congr {gt gt' : Nat → Nat → Bool} (y : Nat) : ∀ (R : List Nat), (∀ a, a ∈ R → gt a y = gt' a y) → insR gt R y = insR gt' R y
  | [], _ => rfl
  | a :: t, h => by
    unfold insR
    rw [h a List.mem_cons_self, insR_congr y t (fun b hb => h b (List.mem_cons_of_mem _ hb))]
theorem layR_congr {gt gt' : Nat → Nat → Bool} {p p' : Nat → Bool} : ∀ n, (∀ j, j < n → p j = p' j) → (∀ a y, a < n → y < n → gt a y = gt' a y) → layR gt p n = layR gt' p' n
  | 0, _, _ => rfl
  | n + 1, hp, hg => by
    have ih := layR_congr n (fun j hj => hp j (by omega)) (fun a y ha hy => hg a y (by omega) (by omega))
    unfold layR
    rw [ih, hp n (by omega), insR_congr n _ (fun a ha => hg a n (by have := ((layR_mem gt' p' n a).1 ha).1; omega) (by omega))]
theorem RO.list {p : Nat} (h : RO V r N) (hp : p = 1 ∨ p = 3) (k : Int32) : atVR V N (nI p) k = atR r N (nI p) k :=
  layR_congr N (fun j hj => h.at hj hp k) (fun a y ha hy => by
    unfold gtV gtC
    rw [((h.2.1 a ha).1).1, ((h.2.1 y hy).1).1])
theorem RX.wby (h : RX V r N) {c : Nat} (hc : c < 6) : V 13 c = walkByr r (nI c) := by
  obtain ⟨-, -, -, -, -, -, -, hk1, hk2, hk3, -⟩ := h
  obtain ⟨-, -, -, hw, -⟩ := hk1 c hc
  unfold walkByr
  rcases firstFrom_c (fun w => decide (r (955 + w) = nI c)) 8 0 with z | ⟨j, j1, j2, j3, j4⟩
  · rw [z]
    rcases hw with h9 | ⟨w, w1, w2⟩
    · exact h9
    · -- a walk would have been found
      exfalso
      have hr := (hk3 c w hc w1).1 w2
      have hff : ∀ k w', w' ≤ w → w < w' + k → ¬ firstFrom (fun w => decide (r (955 + w) = nI c)) k w' = -9 := by
        intro k
        induction k with
        | zero => intro w' _ h2; omega
        | succ k ih =>
          intro w' h1 h2 h3
          unfold firstFrom at h3
          split at h3
          · rename_i hz
            by_cases hww : w' < 2 ^ 31
            · exact nI_n9 hww h3
            · omega
          · rename_i hz
            by_cases hww : w' = w
            · subst hww
              exact hz (decide_eq_true hr)
            · exact ih (w' + 1) (by omega) (by omega) h3
      exact hff 8 0 (by omega) (by omega) z
  · rw [j3]
    exact (hk3 c j hc (by omega)).2 (of_decide_eq_true j4)
theorem RO.goB (h : RO V r N) {c : Nat} (hc : c < 6) : cgB V c = canGoB r N c := by
  have hwb := h.1.wby hc
  obtain ⟨h14, -, -, hw, -⟩ := h.1.2.2.2.2.2.2.2.1 c hc
  unfold cgB canGoB
  rw [← hwb, h14]
  rcases hw with h9 | ⟨w, w1, w2⟩
  · rw [h9, decide_eq_false (p := ¬ (-9 : Int32) = -9) (by decide), Bool.false_and, Bool.false_and]
  · rw [w2, nI_clamp (by omega), h.2.2.1 w w1]
/-- a number of the carriers' rows changes on both sides -/
theorem RO.congrK {V' : VV} {r' : Nat → Int32} (h : RO V r N) (hV : ∀ kk, kk < 13 ∨ kk = 17 → V' kk = V kk) (hr : ∀ j, j < 954 → r' j = r j) (hK : RK V' r') : RO V' r' N := by
  obtain ⟨⟨h1, h2, h3, h4, h5, h6, h7, -⟩, hL, hF, hS⟩ := h
  have hN2 : N ≤ 120 := h1
  have ho : ∀ m k, m < 120 → k < 7 → ofr r' m k = ofr r m k := fun m k hm hk => hr _ (by omega)
  refine ⟨⟨h1, by rw [hV 3 (by omega)]; exact h2, by rw [hr 100 (by omega)]; exact h3, fun c hc => by rw [hV 2 (by omega), hr c (by omega)]; exact h4 c hc, fun w hw => by rw [hV 17 (by omega), hr _ (by omega)]; exact h5 w hw, by rw [hV 0 (by omega), hr 952 (by omega), hr 949 (by omega), hr 950 (by omega), hr 951 (by omega)]; exact h6, by rw [hr 950 (by omega), hr 951 (by omega)]; exact h7, hK⟩, fun m hm => ?_, fun w hw => ?_, by rw [hr 953 (by omega), hV 6 (by omega)]; exact hS⟩
  · have := hL m hm
    unfold LO at this ⊢
    rw [hV 4 (by omega), hV 5 (by omega), hV 6 (by omega), hV 7 (by omega), hV 8 (by omega), hV 9 (by omega), hV 10 (by omega), ho m 0 (by omega) (by omega), ho m 1 (by omega) (by omega), ho m 2 (by omega) (by omega), ho m 3 (by omega) (by omega), ho m 4 (by omega) (by omega), ho m 5 (by omega) (by omega), ho m 6 (by omega) (by omega)]
    exact this
  · rw [hV 11 (by omega), hF w hw]
    rw [cntB_congr N (fun j hj => ?_)]
    unfold atr
    rw [ho j 3 (by omega) (by omega), ho j 4 (by omega) (by omega)]
theorem RO.go {R : List Nat} {c : Nat} (h : RO V r N) (hc : c < 6) (hR : ∀ a, a ∈ R → a < N) (hm : ∀ a, a ∈ R → ∃ m, m ≤ 2 ∧ ofr r a 2 = nI m) : ∀ k, k ≤ R.length → RO (sgo V R (nI c) k) (goR r R (nI c) k) N
  | 0, _ => h
  | k + 1, hk => by
    have ih := h.go hc hR hm k (by omega)
    have hN2 : N ≤ 120 := h.1.1
    have hmem := revD_mem R k (by omega)
    refine ih.move (hR _ hmem) (by omega) (fun z => absurd z (by omega)) (fun _ => ⟨rfl, c, hc, rfl⟩) (fun _ => ?_)
    rw [(goR_same (fun a ha => by have := hR a ha; omega) k (by omega)).2 _ 2 (by have := hR _ hmem; omega) (by omega)]
    exact hm _ hmem
theorem RO.send (h : RO V r N) {c w : Nat} (hc : c < 6) (hw : V 13 c = nI w) (hw8 : w < 8) : RO (sndV V N c) (goesr r N c) N ∧ sndn V N c = goesn r N c := by
  have hwb := h.1.wby hc
  have hl := h.list (p := 1) (Or.inl rfl) (V 13 c)
  have h7 : V 0 7 = r 951 := h.1.2.2.2.2.2.1.2.2.2
  have hn : sndn V N c = goesn r N c := by
    unfold sndn goesn
    rw [hl, hwb, h7]
  refine ⟨?_, hn⟩
  unfold sndV goesr
  rw [hn, hl, ← hwb]
  have hle : goesn r N c ≤ (atR r N (nI 1) (V 13 c)).length := by unfold goesn; rw [← hwb]; exact Nat.min_le_left _ _
  have hA := h.go (R := atR r N (nI 1) (V 13 c)) hc atR_lt (fun a ha => by
    have hat := ((layR_mem _ _ N a).1 ha)
    obtain ⟨-, -, ⟨-, m, c1, c2, c3⟩, -⟩ := h.2.1 a hat.1
    have h3 : ofr r a 3 = nI 1 := by
      have := hat.2
      unfold atr at this
      rw [Bool.and_eq_true, decide_eq_true_eq] at this
      exact this.1
    exact ⟨m, c3 (by rw [h3]; decide), c2⟩) (goesn r N c) hle
  generalize hVa : sgo V (atR r N (nI 1) (V 13 c)) (nI c) (goesn r N c) = Va at hA ⊢
  generalize hra : goR r (atR r N (nI 1) (V 13 c)) (nI c) (goesn r N c) = ra at hA ⊢
  have h13 : Va 13 c = nI w := by rw [← hVa, sgo_o (by decide) (by decide) (by decide)]; exact hw
  obtain ⟨k1, k2, k3, k4, k5⟩ := hA.1.2.2.2.2.2.2.2
  refine hA.congrK (fun kk hk => ?_) (fun j hj => ?_) ⟨fun c' hc' => ?_, fun w' hw' => ?_, fun c' w' hc' hw' => ?_, fun k hk => ?_, ?_⟩
  · unfold wv sv
    rw [if_neg (by omega)]
  · unfold upd
    rw [if_neg (by omega)]
  · obtain ⟨a1, a2, a3, a4, a5⟩ := k1 c' hc'
    show upd (Va 14) c (nI 1) c' = upd ra (1011 + c) (nI 1) (1011 + c') ∧ (upd ra (1011 + c) (nI 1) (1011 + c') = nI 0 ∨ upd ra (1011 + c) (nI 1) (1011 + c') = nI 1) ∧ Va 15 c' = upd ra (1011 + c) (nI 1) (1017 + c') ∧ (Va 13 c' = -9 ∨ ∃ w, w < 8 ∧ Va 13 c' = nI w) ∧ (upd ra (1011 + c) (nI 1) (1011 + c') = nI 1 → ¬ Va 13 c' = -9)
    unfold upd
    rw [if_neg (show ¬ 1017 + c' = 1011 + c by omega)]
    by_cases hcc : c' = c
    · subst hcc
      rw [if_pos rfl, if_pos rfl]
      exact ⟨rfl, Or.inr rfl, a3, a4, fun _ => by rw [h13]; exact nI_n9 (by omega)⟩
    · rw [if_neg hcc, if_neg (show ¬ 1011 + c' = 1011 + c by omega)]
      exact ⟨a1, a2, a3, a4, a5⟩
  · have : upd ra (1011 + c) (nI 1) (955 + w') = ra (955 + w') := by unfold upd; rw [if_neg (by omega)]
    rw [this]
    exact k2 w' hw'
  · have : upd ra (1011 + c) (nI 1) (955 + w') = ra (955 + w') := by unfold upd; rw [if_neg (by omega)]
    rw [this]
    exact k3 c' w' hc' hw'
  · have : upd ra (1011 + c) (nI 1) (963 + k) = ra (963 + k) := by unfold upd; rw [if_neg (by omega)]
    rw [this]
    exact k4 k hk
  · have : upd ra (1011 + c) (nI 1) 954 = ra 954 := by unfold upd; rw [if_neg (by omega)]
    rw [this]
    exact k5
theorem sumI_upd {f : Nat → Int32} {x : Int32} : ∀ n, l < n → sumI (upd f l (f l + x)) n = sumI f n + x
  | 0, h => by omega
  | n + 1, h => by
    show sumI (upd f l (f l + x)) n + upd f l (f l + x) n = sumI f n + f n + x
    by_cases hl : l = n
    · subst hl
      rw [sumI_congr (f := upd f l (f l + x)) (g := f) l (fun j hj => by unfold upd; rw [if_neg (by omega)])]
      unfold upd
      rw [if_pos rfl, Int32.add_assoc]
    · rw [sumI_upd n (by omega)]
      have : upd f l (f l + x) n = f n := by unfold upd; rw [if_neg (fun z => hl z.symm)]
      rw [this, Int32.add_assoc, Int32.add_comm x, ← Int32.add_assoc]
/-- a letter has ended on both sides -/
theorem RO.ended (h : RO V r N) (hl : l < N) (x : Int32) : RO (wv V 10 l x) (seto r l 6 x) N := by
  obtain ⟨hX, hL, hF, hS⟩ := h
  have hN2 : N ≤ 120 := hX.1
  have hlo : ∀ j, j < 101 ∨ 941 ≤ j → seto r l 6 x j = r j := fun j hj => by unfold seto upd; rw [if_neg (by omega)]
  have ho : ∀ m k, k < 6 → ofr (seto r l 6 x) m k = ofr r m k := fun m k hk => by unfold ofr seto upd; rw [if_neg (by omega)]
  have ho6 : ∀ m, ofr (seto r l 6 x) m 6 = if m = l then x else ofr r m 6 := fun m => by
    unfold ofr seto upd
    by_cases hm : m = l
    · rw [if_pos (by omega), if_pos hm]
    · rw [if_neg (by omega), if_neg hm]
  refine ⟨RX_congr (fun kk hk => by unfold wv sv; rw [if_neg (by omega)]) (fun j hj => hlo j (by omega)) hX, fun m hm => ?_, fun w hw => ?_, by rw [hlo 953 (by omega)]; exact hS⟩
  · obtain ⟨a, b, c, d, ⟨e1, e2⟩, f⟩ := hL m hm
    unfold LO
    rw [ho m 0 (by omega), ho m 1 (by omega), ho m 2 (by omega), ho m 3 (by omega), ho m 4 (by omega), ho m 5 (by omega), ho6]
    refine ⟨a, b, c, d, ⟨e1, ?_⟩, f⟩
    show upd (V 10) l x m = _
    unfold upd
    by_cases hml : m = l
    · rw [if_pos hml, if_pos hml]
    · rw [if_neg hml, if_neg hml]; exact e2
  · show V 11 w = _
    rw [hF w hw, cntB_congr N (fun j _ => ?_)]
    unfold atr
    rw [ho j 3 (by omega), ho j 4 (by omega)]
theorem RO.fin {q : Nat} (h : RO V r N) (hl : l < N) (hq : q = 4 ∨ q = 5) (h5 : q ≠ 5 → ∃ m, m ≤ 2 ∧ ofr r l 2 = nI m) : RO (finV V l (nI q) (V 0 4)) (endsr r l (nI q)) N := by
  have e : V 0 4 = r 952 := h.1.2.2.2.2.2.1.1
  have hA := h.move (q := q) (k := -9) (k' := nI 0) hl (by omega) (fun z => absurd z (by omega)) (fun z => absurd z (by omega)) h5
  unfold finV endsr
  rw [e]
  exact hA.ended hl _
/-- one misroute more on both sides -/
theorem RO.lost (h : RO V r N) (hl : l < N) {m : Nat} (hm : ofr r l 2 = nI m) (hm3 : m + 1 ≤ 3) (h5 : ¬ ofr r l 3 = nI 5 → m + 1 ≤ 2) : RO (wv V 6 l (V 6 l + nI 1)) (mis1 r l) N := by
  obtain ⟨hX, hL, hF, hS⟩ := h
  have hN2 : N ≤ 120 := hX.1
  have hlo : ∀ j, j < 101 ∨ (941 ≤ j ∧ j ≠ 953) → mis1 r l j = r j := fun j hj => by unfold mis1 seto upd; rw [if_neg (by omega), if_neg (by omega)]
  have ho : ∀ a k, a < 120 → k < 7 → k ≠ 2 → ofr (mis1 r l) a k = ofr r a k := fun a k ha hk h2 => by unfold ofr mis1 seto upd; rw [if_neg (by omega), if_neg (by omega)]
  have ho2 : ∀ a, a < 120 → ofr (mis1 r l) a 2 = if a = l then ofr r l 2 + nI 1 else ofr r a 2 := fun a ha => by
    unfold mis1
    unfold ofr seto upd
    by_cases hal : a = l
    · rw [if_pos (by omega), if_pos hal]
    · rw [if_neg (by omega), if_neg (by omega), if_neg hal]
  have e6 : V 6 l = ofr r l 2 := (hL l hl).2.2.1.1
  refine ⟨RX_congr (fun kk hk => by unfold wv sv; rw [if_neg (by omega)]) hlo hX, fun a ha => ?_, fun w hw => ?_, ?_⟩
  · obtain ⟨a1, b1, ⟨c1, m0, c2, c3, c4⟩, d, e, f⟩ := hL a ha
    unfold LO
    rw [ho a 0 (by omega) (by omega) (by omega), ho a 1 (by omega) (by omega) (by omega), ho2 a (by omega), ho a 3 (by omega) (by omega) (by omega), ho a 4 (by omega) (by omega) (by omega), ho a 5 (by omega) (by omega) (by omega), ho a 6 (by omega) (by omega) (by omega)]
    refine ⟨a1, b1, ?_, d, e, f⟩
    show upd (V 6) l (V 6 l + nI 1) a = _ ∧ _
    unfold upd
    by_cases hal : a = l
    · subst hal
      rw [if_pos rfl, if_pos rfl, e6]
      exact ⟨rfl, m + 1, hm3, by rw [hm, nI_add'], h5⟩
    · rw [if_neg hal, if_neg hal]
      exact ⟨c1, m0, c2, c3, c4⟩
  · show V 11 w = _
    rw [hF w hw, cntB_congr N (fun j hj => ?_)]
    unfold atr
    rw [ho j 3 (by omega) (by omega) (by omega), ho j 4 (by omega) (by omega) (by omega)]
  · show mis1 r l 953 = sumI (upd (V 6) l (V 6 l + nI 1)) N
    rw [sumI_upd N hl, ← hS]
    unfold mis1 seto upd
    rw [if_neg (by omega), if_pos rfl]
theorem moveV_wv6 {p k x : Int32} : moveV (wv V 6 l x) l p k = wv (moveV V l p k) 6 l x := by
  have e : dnV (wv V 6 l x) l = wv (dnV V l) 6 l x := by
    unfold dnV
    show (if V 7 l = nI 1 then wv (wv V 6 l x) 11 (V 8 l).toNatClampNeg (V 11 (V 8 l).toNatClampNeg - nI 1) else wv V 6 l x) = _
    by_cases h : V 7 l = nI 1
    · rw [if_pos h, if_pos h]
      funext a b
      unfold wv sv
      by_cases h1 : a = 11
      · subst h1
        rw [if_pos rfl, if_neg (by decide), if_neg (by decide), if_pos rfl]
      · by_cases h2 : a = 6
        · subst h2
          rw [if_neg (by decide), if_pos rfl, if_pos rfl, if_neg (by decide)]
        · rw [if_neg h1, if_neg h2, if_neg h2, if_neg h1]
    · rw [if_neg h, if_neg h]
  unfold moveV
  rw [e]
  generalize dnV V l = W
  have e2 : wv (wv (wv W 6 l x) 7 l p) 8 l k = wv (wv (wv W 7 l p) 8 l k) 6 l x := by
    funext a b
    unfold wv sv
    by_cases h1 : a = 8
    · subst h1
      rw [if_pos rfl, if_neg (by decide), if_neg (by decide), if_neg (by decide), if_pos rfl, if_neg (by decide)]
    · by_cases h2 : a = 7
      · subst h2
        rw [if_neg (by decide), if_pos rfl, if_neg (by decide), if_neg (by decide), if_neg (by decide), if_pos rfl]
      · by_cases h3 : a = 6
        · subst h3
          rw [if_neg (by decide), if_neg (by decide), if_pos rfl, if_pos rfl, if_neg (by decide), if_neg (by decide)]
        · rw [if_neg h1, if_neg h2, if_neg h3, if_neg h3, if_neg h1, if_neg h2]
  rw [e2]
  generalize wv (wv W 7 l p) 8 l k = W2
  unfold upV
  show (if p = nI 1 then wv (wv W2 6 l x) 11 k.toNatClampNeg (W2 11 k.toNatClampNeg + nI 1) else wv W2 6 l x) = _
  by_cases h : p = nI 1
  · rw [if_pos h, if_pos h]
    funext a b
    unfold wv sv
    by_cases h1 : a = 11
    · subst h1
      rw [if_pos rfl, if_neg (by decide), if_neg (by decide), if_pos rfl]
    · by_cases h2 : a = 6
      · subst h2
        rw [if_neg (by decide), if_pos rfl, if_pos rfl, if_neg (by decide)]
      · rw [if_neg h1, if_neg h2, if_neg h2, if_neg h1]
  · rw [if_neg h, if_neg h]
theorem putsr_mis1 {p k : Int32} (hl : l < 120) : putsr (mis1 r l) l p k = mis1 (putsr r l p k) l := by
  have e2 : ofr (putsr r l p k) l 2 = ofr r l 2 := putsr_of (by omega)
  have e3 : putsr r l p k 953 = r 953 := putsr_hi hl (by omega)
  unfold mis1
  rw [e2, e3]
  funext j
  unfold putsr seto upd
  repeat' split
  all_goals first | rfl | omega
theorem RO.mis (h : RO V r N) (hl : l < N) {m : Nat} (hm : ofr r l 2 = nI m) (hm2 : m ≤ 2) : RO (misV V l) (misr r l) N := by
  have hl2 : l < 120 := by have := h.1.1; omega
  have e6 : V 6 l = ofr r l 2 := (h.2.1 l hl).2.2.1.1
  have e4 : V 0 4 = r 952 := h.1.2.2.2.2.2.1.1
  unfold misV misr
  rw [e6, hm, nI_add']
  by_cases hz : m = 2
  · subst hz
    rw [if_neg (by decide), if_pos (by decide)]
    have hA := h.move (q := 5) (k := -9) (k' := nI 0) hl (by omega) (fun z => absurd z (by omega)) (fun z => absurd z (by omega)) (fun z => absurd rfl z)
    have hB := hA.lost hl (m := 2) (by rw [putsr_of (by omega)]; exact hm) (by omega) (fun z => absurd (by rw [putsr_3, if_pos rfl]) z)
    have e7 : moveV V l (nI 5) (-9) 6 l = nI 2 := by rw [moveV_o (by decide) (by decide) (by decide), e6, hm]
    rw [e7, nI_add'] at hB
    unfold finV endsr
    rw [moveV_wv6, putsr_mis1 hl2, e4]
    have e8 : mis1 r l 952 = r 952 := by unfold mis1 seto upd; rw [if_neg (by omega), if_neg (by omega)]
    rw [e8]
    exact hB.ended hl _
  · rw [if_pos ((nI_ltI (by omega) (by omega)).2 (by omega)), if_neg (fun z => hz (by have := (nI_eq (by omega) (by omega)).1 z; omega))]
    have hA := h.move (q := 0) (k := -9) (k' := nI 0) hl (by omega) (fun z => absurd z (by omega)) (fun z => absurd z (by omega)) (fun _ => ⟨m, hm2, hm⟩)
    have hB := hA.lost hl (m := m) (by rw [putsr_of (by omega)]; exact hm) (by omega) (fun _ => by omega)
    have e7 : moveV V l (nI 0) (-9) 6 l = nI m := by rw [moveV_o (by decide) (by decide) (by decide), e6, hm]
    rw [e7, nI_add'] at hB
    rw [moveV_wv6, putsr_mis1 hl2]
    exact hB
end NI
