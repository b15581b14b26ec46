/-! The law: its rounds. -/
section MW
variable {ε : EE} {J J' : JT} {X : Array Value → State → Prop} {Z : List Frame → Array Value → State → State → Prop} {mc ms cells slots pc : Nat} {lg : List (Nat × Int64)} {lst : List Int64} {ls : List (Option V0)} {st : List V0} {G G' G0 G1 : GG} {N Y k b L d : Nat} {xs : Nat → Int32} {nm : String} {x5 : Option V0}
def lXL (b L : Nat) (xs : Nat → Int32) (ε : EE) (args : Array Value) (s : State) : Prop := va_X b L xs s s.heap ∧ b < s.heap.size ∧ ¬ e_A ε b ∧ args = #[Value.ref b] ∧ s.heap.size ≤ ε.2.2.2.1
theorem lXL.xc {args : Array Value} {s : State} (h : lXL b L xs ε args s) : XC ε b L xs s := ⟨h.1, h.2.1, h.2.2.1⟩
theorem et_statC {n idx nx : Nat} {v r : Int32} {As rest : List V0} {ty : FieldType} {P : GG → Prop} (hC : ∀ G, lk1 G0 G → C2 ε J' As G (fun v G' => v = some r ∧ P G')) (hst : st = As.reverse ++ rest) (h : lk (jt J) pc = (46, n, jn J', v, nx, idx)) (hT : e_fit J J') (hr : jr J' = some ty) (hn : As.length = n) (hrest : Nat.ble (rest.length + 2 * lst.length) 8 = true) (hcc : cells ≤ mc ∧ slots ≤ ms) (k : ∀ G', P G' → ET ε J X Z mc ms G' lg lst cells slots nx ls (.inl r :: rest)) : ET ε J X Z mc ms G0 lg lst cells slots pc ls st := fun G hG => by
  have hC2 : e_Ct ε J' 0 0 As (wd ε G) (fun v ws' => ∃ G', ws' = wd ε G' ∧ v = some r ∧ P G') := hC G hG
  refine q_callSi (mc' := 0) (ms' := 0) h hT.1 hr hT.rm hn hst hrest hC2 hcc (fun r' ws' zz => ?_)
  obtain ⟨G', rfl, z1, z2⟩ := zz
  cases z1
  exact k G' z2 G' lk1.rf
theorem et_cell {n idx nx j : Nat} {v : Int32} {rest : List V0} (hj : j < 1000) (hL : L < 1000) (hst : st = .inl (nI j) :: .inr (b, 99) :: rest) (h : lk (jt J) pc = (46, n, 103, v, nx, idx)) (hT : e_fit J jL_cell) (hn : 2 = n) (hrest : Nat.ble (rest.length + 2 * lst.length) 8 = true) (hcc : cells ≤ mc ∧ slots ≤ ms) (k : ∀ x, ET ε J (lXL b L xs ε) Z mc ms G0 lg lst cells slots nx ls (.inl x :: rest)) : ET ε J (lXL b L xs ε) Z mc ms G0 lg lst cells slots pc ls st := fun G hG => by
  refine q_callSX (J' := jL_cell) (As := [.inr (b, 99), .inl (nI j)]) (mc' := 0) (ms' := 0) (ty := .int) h hT.1 rfl hT.rm hn hst hrest (Y := XC ε b L xs) XC.blind (fun args s H locs U XX hU hW hS => XX.xc.moved hU hW hS) (H_cell hj hL) hcc (fun r' ws' zz => ?_)
  obtain ⟨-, rfl⟩ := zz
  exact k r' G hG
/-- a round's end -/
theorem l_next {T : Int64} (hk : k < 40) (K : ET ε (jLaw nm) X Z mc ms G0 [] [] cells slots 77 [some (.inr (b, 99)), some (.inr (0, 30)), some (.inl (nI (k + 1))), none, none, none] []) : ET ε (jLaw nm) X Z mc ms G0 [(3, T)] [] cells slots 187 [some (.inr (b, 99)), some (.inr (0, 30)), some (.inl (nI k)), none, none, some (.inl (nI d))] [] := by
  refine et_step rfl rfl rfl ?_
  refine et_step rfl rfl rfl ?_
  rw [nI_add']
  exact et_drop (ls' := [some (.inr (b, 99)), some (.inr (0, 30)), some (.inl (nI (k + 1))), none, none, none]) (show e_sub [some (.inr (b, 99)), some (.inr (0, 30)), some (.inl (nI (k + 1))), none, none, none] [some (.inr (b, 99)), some (.inr (0, 30)), some (.inl (nI (k + 1))), none, none, some (.inl (nI d))] from ⟨rfl, rfl, rfl, trivial⟩) (fun q hq => by cases hq) K
theorem cmp0 (T : Int64) : lg_cmp T T = 0 := (lg_cmp_eq T T).2 rfl
set_option maxRecDepth 100000 in
set_option maxHeartbeats 4000000 in
/-- nothing has changed -/
theorem l_same (hc : cells ≤ mc ∧ slots ≤ ms) (hk : k < 40) (hN : IV (O G0 0) N Y) (hd5 : d ≤ 5) (hd : G0 0 31 1 = nI d) (K : ET ε (jLaw nm) X Z mc ms G0 [] [] cells slots 77 [some (.inr (b, 99)), some (.inr (0, 30)), some (.inl (nI (k + 1))), none, none, none] []) : ET ε (jLaw nm) X Z mc ms G0 [(3, toldV G0 N)] [] cells slots 126 [some (.inr (b, 99)), some (.inr (0, 30)), some (.inl (nI k)), none, none, some (.inl (nI d))] [] := by
  have q17 : Lk ε jX8_count [.inl (nI 17)] G0 (nI d) := by rw [← hd]; exact L_count hN (k := 17) (by omega)
  have h154 : ET ε (jLaw nm) X Z mc ms G0 [(3, toldV G0 N)] [] cells slots 154 [some (.inr (b, 99)), some (.inr (0, 30)), some (.inl (nI k)), none, none, some (.inl (nI d))] [] := by
    refine et_step rfl rfl rfl ?_
    refine et_step rfl rfl rfl ?_
    refine et_rem rfl (by decide) ?_
    refine et_if rfl rfl (fun _ => l_next hk K) (fun _ => ?_)
    repeat (first | refine et_step rfl rfl rfl ?_)
    refine et_statl (H_told hN) rfl rfl ⟨rfl, rfl, rfl⟩ rfl rfl rfl hc ?_
    refine et_lload (a := 3) dLaw_164 rfl rfl ?_
    refine et_lcmp dLaw_165 ?_
    refine et_if rfl rfl (fun _ => l_next hk K) (fun z => absurd (cmp0 _) z)
  repeat (first | refine et_step rfl rfl rfl ?_)
  refine et_look (q17) rfl rfl ⟨rfl, rfl, rfl⟩ rfl rfl rfl rfl hc ?_
  repeat (first | refine et_step rfl rfl rfl ?_)
  refine et_if rfl rfl (fun z => absurd rfl z) (fun _ => ?_)
  repeat (first | refine et_step rfl rfl rfl ?_)
  refine et_if rfl rfl (fun _ => h154) (fun _ => ?_)
  repeat (first | refine et_step rfl rfl rfl ?_)
  refine et_statl (H_told hN) rfl rfl ⟨rfl, rfl, rfl⟩ rfl rfl rfl hc ?_
  refine et_lload (a := 3) dLaw_147 rfl rfl ?_
  refine et_lcmp dLaw_148 ?_
  refine et_if rfl rfl (fun _ => h154) (fun z => absurd (cmp0 _) z)
set_option maxRecDepth 100000 in
set_option maxHeartbeats 4000000 in
/-- one state is recorded -/
theorem l_done {V' : VV} (hc : cells ≤ mc ∧ slots ≤ ms) (hk : k < 40) (h : SG G0) (hN : IV (O G0 0) N 500) (hd5 : d ≤ 5) (hd : G0 0 31 1 = nI d) (hD : Dn G0 G1 V') (K : ∀ G', SG G' → ET ε (jLaw nm) X Z mc ms G' [] [] cells slots 77 [some (.inr (b, 99)), some (.inr (0, 30)), some (.inl (nI (k + 1))), none, none, none] []) : ET ε (jLaw nm) X Z mc ms G1 [(3, toldV G0 N)] [] cells slots 126 [some (.inr (b, 99)), some (.inr (0, 30)), some (.inl (nI k)), none, none, some (.inl (nI d))] [] := by
  obtain ⟨h1, -, e, hT, he⟩ := hD
  obtain ⟨N1, hN1⟩ := h1.1
  have e5 : e < 5 := hT.choose_spec.1
  have he1 : G1 0 31 1 = nI (e + 1) := hT.choose_spec.2.1.2.1
  have hde : d = e ∨ (d = 5 ∧ e = 4) := by
    rcases he with q | ⟨q, q4⟩
    · exact Or.inl ((nI_eq (by omega) (by omega)).1 (hd.symm.trans q))
    · exact Or.inr ⟨(nI_eq (by omega) (by omega)).1 (hd.symm.trans q), q4⟩
  have q17 : Lk ε jX8_count [.inl (nI 17)] G1 (nI (e + 1)) := by rw [← he1]; exact L_count hN1 (k := 17) (by omega)
  have h154 : ET ε (jLaw nm) X Z mc ms G1 [(3, toldV G0 N)] [] cells slots 154 [some (.inr (b, 99)), some (.inr (0, 30)), some (.inl (nI k)), none, none, some (.inl (nI d))] [] := by
    refine et_step rfl rfl rfl ?_
    refine et_step rfl rfl rfl ?_
    refine et_rem rfl (by decide) ?_
    refine et_if rfl rfl (fun _ => l_next hk (K G1 h1)) (fun _ => ?_)
    repeat (first | refine et_step rfl rfl rfl ?_)
    refine et_statl (H_told hN1) rfl rfl ⟨rfl, rfl, rfl⟩ rfl rfl rfl hc ?_
    refine et_lload (a := 3) dLaw_164 rfl rfl ?_
    refine et_lcmp dLaw_165 ?_
    refine et_if rfl rfl (fun _ => l_next hk (K G1 h1)) (fun _ => ?_)
    repeat (first | refine et_step rfl rfl rfl ?_)
    refine et_op (As := []) (D_undo h h1 hT) rfl rfl ⟨rfl, rfl, rfl⟩ rfl rfl rfl rfl hc (fun G2 z => ?_)
    obtain ⟨z1, z2, z3⟩ := z
    refine et_if rfl rfl (fun z => absurd z (nI_pos (by omega))) (fun _ => ?_)
    repeat (first | refine et_step rfl rfl rfl ?_)
    have hN2 : IV (O G2 0) N 500 := by rw [z2]; exact hN
    refine et_statl (H_told hN2) rfl rfl ⟨rfl, rfl, rfl⟩ rfl rfl rfl hc ?_
    rw [toldV_eq z2 z3]
    refine et_lload (a := 3) dLaw_180 rfl rfl ?_
    refine et_lcmp dLaw_181 ?_
    refine et_if rfl rfl (fun _ => l_next hk (K G2 z1)) (fun z => absurd (cmp0 _) z)
  repeat (first | refine et_step rfl rfl rfl ?_)
  refine et_look (q17) rfl rfl ⟨rfl, rfl, rfl⟩ rfl rfl rfl rfl hc ?_
  repeat (first | refine et_step rfl rfl rfl ?_)
  rcases hde with q | ⟨q, q4⟩
  · refine et_if rfl rfl (fun _ => h154) (fun z => absurd (fun w => ?_) z)
    have := (nI_eq (a := e + 1) (b := d) (by omega) (by omega)).1 w
    omega
  · subst q
    refine et_if rfl rfl (fun _ => h154) (fun _ => ?_)
    repeat (first | refine et_step rfl rfl rfl ?_)
    exact et_if rfl rfl (fun _ => h154) (fun z => absurd (Int32.le_refl _) z)
set_option maxRecDepth 100000 in
set_option maxHeartbeats 4000000 in
/-- one round -/
theorem l_round (hε : ε.2.2.2.2.2 = []) (hc : cells + 4 ≤ mc ∧ slots + 28 ≤ ms) (hL : L < 1000) (hk : k < 40) (h : SG G0) (K : ∀ G', SG G' → ET ε (jLaw nm) (lXL b L xs ε) Z mc ms G' [] [] (cells + 4) (slots + 28) 77 [some (.inr (b, 99)), some (.inr (0, 30)), some (.inl (nI (k + 1))), none, none, none] []) : ET ε (jLaw nm) (lXL b L xs ε) Z mc ms G0 [] [] cells slots 77 [some (.inr (b, 99)), some (.inr (0, 30)), some (.inl (nI k)), none, none, none] [] := by
  have hc0 : cells ≤ mc ∧ slots ≤ ms := ⟨by omega, by omega⟩
  obtain ⟨N, hN⟩ := h.1
  obtain ⟨d, hm, hd5, hd, -⟩ := h.2.2.1
  have q17 : Lk ε jX8_count [.inl (nI 17)] G0 (nI d) := by rw [← hd]; exact L_count hN (k := 17) (by omega)
  repeat (first | refine et_step rfl rfl rfl ?_)
  refine et_if rfl rfl (fun z => absurd z (nI_ge (by omega) (by omega))) (fun _ => ?_)
  repeat (first | refine et_step rfl rfl rfl ?_)
  refine et_statl (H_told hN) rfl rfl ⟨rfl, rfl, rfl⟩ rfl rfl rfl hc0 ?_
  refine et_lstore (a := 3) dLaw_87 rfl rfl rfl rfl ?_
  repeat (first | refine et_step rfl rfl rfl ?_)
  refine et_look (q17) rfl rfl ⟨rfl, rfl, rfl⟩ rfl rfl rfl rfl hc0 ?_
  repeat (first | refine et_step rfl rfl rfl ?_)
  rw [pk_mul]
  refine et_cell (j := 2 * k) (by omega) hL rfl rfl ⟨rfl, rfl, rfl⟩ rfl rfl hc0 (fun x => ?_)
  repeat (first | refine et_step rfl rfl rfl ?_)
  rw [pk_mul, nI_add']
  refine et_cell (j := 2 * k + 1) (by omega) hL rfl rfl ⟨rfl, rfl, rfl⟩ rfl rfl hc0 (fun y => ?_)
  refine et_statC (As := [.inr (0, 30), .inl x, .inl y]) (P := After G0) (H_acts h x y) rfl rfl ⟨rfl, rfl, rfl⟩ rfl rfl rfl hc0 (fun G1 hA => ?_)
  have h1 : SG G1 := by
    rcases hA with q | ⟨V', q⟩
    · exact q.sg h
    · exact q.1
  refine et_if rfl rfl (fun z => absurd z (by decide)) (fun _ => ?_)
  repeat (first | refine et_step rfl rfl rfl ?_)
  refine et_stat (As := [.inr (0, 30)]) (mc' := 4) (ms' := 28) (P := lk1 G1) (fun G hG => H_rules hε h1 hG) rfl rfl ⟨rfl, rfl, rfl⟩ rfl rfl rfl hc (fun G2 z => et_from z ?_)
  refine et_if rfl rfl (fun z => absurd z (by decide)) (fun _ => ?_)
  rcases hA with q | ⟨V', q⟩
  · exact et_from q (l_same hc hk hN hd5 hd (K G0 h))
  · exact l_done hc hk h hN hd5 hd q K
end MW
