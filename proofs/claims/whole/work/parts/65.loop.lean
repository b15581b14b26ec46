/-! The law's loop: one case for each operation. -/
section PF
variable {ε : EE} {X : Array Value → State → Prop} {Z : List Frame → Array Value → State → State → Prop} {mc ms cells slots : Nat} {nm : String} {G G1 : GG} {r t x : Nat → Int32} {K b L : Nat} {xs : Nat → Int32}
def RW (G : GG) (K : Nat) : Prop := RR G (G 0 51) (G 0 52) (G 0 50) K
theorem RR.rows {r2 x2 : Nat → Int32} (h : RR G r t x K) (hr : ∀ j, j < 18426 → r2 j = r j) (h1 : x2 1 = x 1) (h3 : x2 3 = x 3) : RR G r2 t x2 K :=
  h.now (Nat.le_refl _) (fun _ _ _ _ _ => rfl) (fun _ _ _ => rfl) rfl rfl rfl rfl h1 h3 (fun j _ hj => hr j hj) (h.1.row (fun j hj => hr j (by omega)))
theorem op_after {r' t' x' r2 o2 x2 : Nat → Int32} (h : RR G1 r' t' x' (K + 1)) (hr : ∀ j, j < 18426 → r2 j = r' j) (h1 : x2 1 = x' 1) (h3 : x2 3 = x' 3) : RW (mG G1 r2 t' o2 x2) (K + 1) := (h.rows hr h1 h3).ref
theorem op_self (h : kp G G1) : mG G1 (G 0 51) (G 0 52) (G1 0 53) (G 0 50) = G1 := by
  rw [← h 0 51 (by omega), ← h 0 52 (by omega), ← h 0 50 (by omega)]
  exact mG_self G1
/-- the law's locals -/
def lLS (b K : Nat) : List (Option V0) := [some (.inr (b, 99)), some (.inr (0, 30)), some (.inr (0, 50)), some (.inl (nI (4 * K)))]
def lXL (b L : Nat) (xs : Nat → Int32) (ε : EE) (args : Array Value) (s : State) : Prop := va_X b L xs s s.heap ∧ b < s.heap.size ∧ ¬ e_A ε b ∧ args = #[Value.ref b] ∧ s.heap.size ≤ ε.2.2.2.1
set_option maxRecDepth 100000 in
theorem l_case0 (hXX : ∀ args s, lXL b L xs ε args s → va_X b L xs s s.heap ∧ b < s.heap.size ∧ ¬ e_A ε b) (hc : cells ≤ mc ∧ slots ≤ ms) (hL : L ≤ 2048) (hK : 4 * K + 4 ≤ L) (hR : RW G K) (hn : ∀ G', RW G' (K + 1) → EL ε (jLaw nm) (lXL b L xs ε) Z mc ms cells slots 793 (lLS b K) [] (wd ε G')) : EL ε (jLaw nm) (lXL b L xs ε) Z mc ms cells slots 148 (lLS b K) [] (wd ε G) := by
  obtain ⟨a, r', t', x', hc1, hc2⟩ := op_post (ε := ε) hR (xs (4 * K + 1)) (xs (4 * K + 2)) (xs (4 * K + 3))
  refine el_step rfl rfl ?_
  refine el_step rfl rfl ?_
  refine el_step rfl rfl ?_
  refine el_step rfl rfl ?_
  refine el_step rfl rfl ?_
  refine el_sld (j := 4 * K + 1) rfl hXX (nI_add' _ _) (by omega) (by omega) ?_
  refine el_step rfl rfl ?_
  refine el_step rfl rfl ?_
  refine el_step rfl rfl ?_
  refine el_step rfl rfl ?_
  refine el_sld (j := 4 * K + 2) rfl hXX (nI_add' _ _) (by omega) (by omega) ?_
  refine el_step rfl rfl ?_
  refine el_step rfl rfl ?_
  refine el_step rfl rfl ?_
  refine el_step rfl rfl ?_
  refine el_sld (j := 4 * K + 3) rfl hXX (nI_add' _ _) (by omega) (by omega) ?_
  refine el2_call hc1 rfl ⟨rfl, rfl, rfl⟩ rfl rfl rfl rfl (by decide) rfl rfl rfl hc (fun v G1 z => ?_)
  obtain ⟨z1, z2, z3⟩ := z
  cases z1
  have hc3 := hc2 G1 (G1 0 53)
  rw [op_self z3] at hc3
  refine el_step rfl rfl ?_
  refine el_step rfl rfl ?_
  refine el_step rfl rfl ?_
  refine el_step rfl rfl ?_
  refine el_step rfl rfl ?_
  refine el_sld (j := 4 * K + 1) rfl hXX (nI_add' _ _) (by omega) (by omega) ?_
  refine el_step rfl rfl ?_
  refine el_step rfl rfl ?_
  refine el_step rfl rfl ?_
  refine el_step rfl rfl ?_
  refine el_sld (j := 4 * K + 2) rfl hXX (nI_add' _ _) (by omega) (by omega) ?_
  refine el_step rfl rfl ?_
  refine el_step rfl rfl ?_
  refine el_step rfl rfl ?_
  refine el_step rfl rfl ?_
  refine el_sld (j := 4 * K + 3) rfl hXX (nI_add' _ _) (by omega) (by omega) ?_
  refine el2_call hc3 rfl ⟨rfl, rfl, rfl⟩ rfl rfl rfl rfl (by decide) rfl rfl rfl hc (fun v G2 z => ?_)
  obtain ⟨z1, r2, o2, x2, rfl, z4, z5, z6⟩ := z
  cases z1
  exact el_if rfl rfl (fun _ => hn _ (op_after z2 z4 z5 z6)) (fun z => absurd rfl z)
set_option maxRecDepth 100000 in
theorem l_case1 (hXX : ∀ args s, lXL b L xs ε args s → va_X b L xs s s.heap ∧ b < s.heap.size ∧ ¬ e_A ε b) (hc : cells ≤ mc ∧ slots ≤ ms) (hL : L ≤ 2048) (hK : 4 * K + 4 ≤ L) (hR : RW G K) (hn : ∀ G', RW G' (K + 1) → EL ε (jLaw nm) (lXL b L xs ε) Z mc ms cells slots 793 (lLS b K) [] (wd ε G')) : EL ε (jLaw nm) (lXL b L xs ε) Z mc ms cells slots 191 (lLS b K) [] (wd ε G) := by
  obtain ⟨a, r', t', x', hc1, hc2⟩ := op_hour (ε := ε) hR
  refine el_step rfl rfl ?_
  refine el2_call hc1 rfl ⟨rfl, rfl, rfl⟩ rfl rfl rfl rfl (by decide) rfl rfl rfl hc (fun v G1 z => ?_)
  obtain ⟨z1, z2, z3⟩ := z
  cases z1
  have hc3 := hc2 G1 (G1 0 53)
  rw [op_self z3] at hc3
  refine el_step rfl rfl ?_
  refine el2_call hc3 rfl ⟨rfl, rfl, rfl⟩ rfl rfl rfl rfl (by decide) rfl rfl rfl hc (fun v G2 z => ?_)
  obtain ⟨z1, r2, o2, x2, rfl, z4, z5, z6⟩ := z
  cases z1
  exact el_if rfl rfl (fun _ => hn _ (op_after z2 z4 z5 z6)) (fun z => absurd rfl z)
set_option maxRecDepth 100000 in
theorem l_case2 (hXX : ∀ args s, lXL b L xs ε args s → va_X b L xs s s.heap ∧ b < s.heap.size ∧ ¬ e_A ε b) (hc : cells ≤ mc ∧ slots ≤ ms) (hL : L ≤ 2048) (hK : 4 * K + 4 ≤ L) (hR : RW G K) (hn : ∀ G', RW G' (K + 1) → EL ε (jLaw nm) (lXL b L xs ε) Z mc ms cells slots 793 (lLS b K) [] (wd ε G')) : EL ε (jLaw nm) (lXL b L xs ε) Z mc ms cells slots 204 (lLS b K) [] (wd ε G) := by
  obtain ⟨a, r', t', x', hc1, hc2⟩ := op_setRange (ε := ε) hR (xs (4 * K + 1)) (xs (4 * K + 2)) (xs (4 * K + 3))
  refine el_step rfl rfl ?_
  refine el_step rfl rfl ?_
  refine el_step rfl rfl ?_
  refine el_step rfl rfl ?_
  refine el_step rfl rfl ?_
  refine el_sld (j := 4 * K + 1) rfl hXX (nI_add' _ _) (by omega) (by omega) ?_
  refine el_step rfl rfl ?_
  refine el_step rfl rfl ?_
  refine el_step rfl rfl ?_
  refine el_step rfl rfl ?_
  refine el_sld (j := 4 * K + 2) rfl hXX (nI_add' _ _) (by omega) (by omega) ?_
  refine el_step rfl rfl ?_
  refine el_step rfl rfl ?_
  refine el_step rfl rfl ?_
  refine el_step rfl rfl ?_
  refine el_sld (j := 4 * K + 3) rfl hXX (nI_add' _ _) (by omega) (by omega) ?_
  refine el2_call hc1 rfl ⟨rfl, rfl, rfl⟩ rfl rfl rfl rfl (by decide) rfl rfl rfl hc (fun v G1 z => ?_)
  obtain ⟨z1, z2, z3⟩ := z
  cases z1
  have hc3 := hc2 G1 (G1 0 53)
  rw [op_self z3] at hc3
  refine el_step rfl rfl ?_
  refine el_step rfl rfl ?_
  refine el_step rfl rfl ?_
  refine el_step rfl rfl ?_
  refine el_step rfl rfl ?_
  refine el_sld (j := 4 * K + 1) rfl hXX (nI_add' _ _) (by omega) (by omega) ?_
  refine el_step rfl rfl ?_
  refine el_step rfl rfl ?_
  refine el_step rfl rfl ?_
  refine el_step rfl rfl ?_
  refine el_sld (j := 4 * K + 2) rfl hXX (nI_add' _ _) (by omega) (by omega) ?_
  refine el_step rfl rfl ?_
  refine el_step rfl rfl ?_
  refine el_step rfl rfl ?_
  refine el_step rfl rfl ?_
  refine el_sld (j := 4 * K + 3) rfl hXX (nI_add' _ _) (by omega) (by omega) ?_
  refine el2_call hc3 rfl ⟨rfl, rfl, rfl⟩ rfl rfl rfl rfl (by decide) rfl rfl rfl hc (fun v G2 z => ?_)
  obtain ⟨z1, r2, o2, x2, rfl, z4, z5, z6⟩ := z
  cases z1
  exact el_if rfl rfl (fun _ => hn _ (op_after z2 z4 z5 z6)) (fun z => absurd rfl z)
set_option maxRecDepth 100000 in
theorem l_case3 (hXX : ∀ args s, lXL b L xs ε args s → va_X b L xs s s.heap ∧ b < s.heap.size ∧ ¬ e_A ε b) (hc : cells ≤ mc ∧ slots ≤ ms) (hL : L ≤ 2048) (hK : 4 * K + 4 ≤ L) (hR : RW G K) (hn : ∀ G', RW G' (K + 1) → EL ε (jLaw nm) (lXL b L xs ε) Z mc ms cells slots 793 (lLS b K) [] (wd ε G')) : EL ε (jLaw nm) (lXL b L xs ε) Z mc ms cells slots 247 (lLS b K) [] (wd ε G) := by
  obtain ⟨a, r', t', x', hc1, hc2⟩ := op_set (ε := ε) hR (xs (4 * K + 1)) (xs (4 * K + 2))
  refine el_step rfl rfl ?_
  refine el_step rfl rfl ?_
  refine el_step rfl rfl ?_
  refine el_step rfl rfl ?_
  refine el_step rfl rfl ?_
  refine el_sld (j := 4 * K + 1) rfl hXX (nI_add' _ _) (by omega) (by omega) ?_
  refine el_step rfl rfl ?_
  refine el_step rfl rfl ?_
  refine el_step rfl rfl ?_
  refine el_step rfl rfl ?_
  refine el_sld (j := 4 * K + 2) rfl hXX (nI_add' _ _) (by omega) (by omega) ?_
  refine el2_call hc1 rfl ⟨rfl, rfl, rfl⟩ rfl rfl rfl rfl (by decide) rfl rfl rfl hc (fun v G1 z => ?_)
  obtain ⟨z1, z2, z3⟩ := z
  cases z1
  have hc3 := hc2 G1 (G1 0 53)
  rw [op_self z3] at hc3
  refine el_step rfl rfl ?_
  refine el_step rfl rfl ?_
  refine el_step rfl rfl ?_
  refine el_step rfl rfl ?_
  refine el_step rfl rfl ?_
  refine el_sld (j := 4 * K + 1) rfl hXX (nI_add' _ _) (by omega) (by omega) ?_
  refine el_step rfl rfl ?_
  refine el_step rfl rfl ?_
  refine el_step rfl rfl ?_
  refine el_step rfl rfl ?_
  refine el_sld (j := 4 * K + 2) rfl hXX (nI_add' _ _) (by omega) (by omega) ?_
  refine el2_call hc3 rfl ⟨rfl, rfl, rfl⟩ rfl rfl rfl rfl (by decide) rfl rfl rfl hc (fun v G2 z => ?_)
  obtain ⟨z1, r2, o2, x2, rfl, z4, z5, z6⟩ := z
  cases z1
  exact el_if rfl rfl (fun _ => hn _ (op_after z2 z4 z5 z6)) (fun z => absurd rfl z)
set_option maxRecDepth 100000 in
theorem l_case4 (hXX : ∀ args s, lXL b L xs ε args s → va_X b L xs s s.heap ∧ b < s.heap.size ∧ ¬ e_A ε b) (hc : cells ≤ mc ∧ slots ≤ ms) (hL : L ≤ 2048) (hK : 4 * K + 4 ≤ L) (hR : RW G K) (hn : ∀ G', RW G' (K + 1) → EL ε (jLaw nm) (lXL b L xs ε) Z mc ms cells slots 793 (lLS b K) [] (wd ε G')) : EL ε (jLaw nm) (lXL b L xs ε) Z mc ms cells slots 280 (lLS b K) [] (wd ε G) := by
  obtain ⟨a, r', t', x', hc1, hc2⟩ := op_assign (ε := ε) hR (xs (4 * K + 1)) (xs (4 * K + 2))
  refine el_step rfl rfl ?_
  refine el_step rfl rfl ?_
  refine el_step rfl rfl ?_
  refine el_step rfl rfl ?_
  refine el_step rfl rfl ?_
  refine el_sld (j := 4 * K + 1) rfl hXX (nI_add' _ _) (by omega) (by omega) ?_
  refine el_step rfl rfl ?_
  refine el_step rfl rfl ?_
  refine el_step rfl rfl ?_
  refine el_step rfl rfl ?_
  refine el_sld (j := 4 * K + 2) rfl hXX (nI_add' _ _) (by omega) (by omega) ?_
  refine el2_call hc1 rfl ⟨rfl, rfl, rfl⟩ rfl rfl rfl rfl (by decide) rfl rfl rfl hc (fun v G1 z => ?_)
  obtain ⟨z1, z2, z3⟩ := z
  cases z1
  have hc3 := hc2 G1 (G1 0 53)
  rw [op_self z3] at hc3
  refine el_step rfl rfl ?_
  refine el_step rfl rfl ?_
  refine el_step rfl rfl ?_
  refine el_step rfl rfl ?_
  refine el_step rfl rfl ?_
  refine el_sld (j := 4 * K + 1) rfl hXX (nI_add' _ _) (by omega) (by omega) ?_
  refine el_step rfl rfl ?_
  refine el_step rfl rfl ?_
  refine el_step rfl rfl ?_
  refine el_step rfl rfl ?_
  refine el_sld (j := 4 * K + 2) rfl hXX (nI_add' _ _) (by omega) (by omega) ?_
  refine el2_call hc3 rfl ⟨rfl, rfl, rfl⟩ rfl rfl rfl rfl (by decide) rfl rfl rfl hc (fun v G2 z => ?_)
  obtain ⟨z1, r2, o2, x2, rfl, z4, z5, z6⟩ := z
  cases z1
  exact el_if rfl rfl (fun _ => hn _ (op_after z2 z4 z5 z6)) (fun z => absurd rfl z)
set_option maxRecDepth 100000 in
theorem l_case5 (hXX : ∀ args s, lXL b L xs ε args s → va_X b L xs s s.heap ∧ b < s.heap.size ∧ ¬ e_A ε b) (hc : cells ≤ mc ∧ slots ≤ ms) (hL : L ≤ 2048) (hK : 4 * K + 4 ≤ L) (hR : RW G K) (hn : ∀ G', RW G' (K + 1) → EL ε (jLaw nm) (lXL b L xs ε) Z mc ms cells slots 793 (lLS b K) [] (wd ε G')) : EL ε (jLaw nm) (lXL b L xs ε) Z mc ms cells slots 313 (lLS b K) [] (wd ε G) := by
  obtain ⟨a, r', t', x', hc1, hc2⟩ := op_goOut (ε := ε) hR (xs (4 * K + 1))
  refine el_step rfl rfl ?_
  refine el_step rfl rfl ?_
  refine el_step rfl rfl ?_
  refine el_step rfl rfl ?_
  refine el_step rfl rfl ?_
  refine el_sld (j := 4 * K + 1) rfl hXX (nI_add' _ _) (by omega) (by omega) ?_
  refine el2_call hc1 rfl ⟨rfl, rfl, rfl⟩ rfl rfl rfl rfl (by decide) rfl rfl rfl hc (fun v G1 z => ?_)
  obtain ⟨z1, z2, z3⟩ := z
  cases z1
  have hc3 := hc2 G1 (G1 0 53)
  rw [op_self z3] at hc3
  refine el_step rfl rfl ?_
  refine el_step rfl rfl ?_
  refine el_step rfl rfl ?_
  refine el_step rfl rfl ?_
  refine el_step rfl rfl ?_
  refine el_sld (j := 4 * K + 1) rfl hXX (nI_add' _ _) (by omega) (by omega) ?_
  refine el2_call hc3 rfl ⟨rfl, rfl, rfl⟩ rfl rfl rfl rfl (by decide) rfl rfl rfl hc (fun v G2 z => ?_)
  obtain ⟨z1, r2, o2, x2, rfl, z4, z5, z6⟩ := z
  cases z1
  exact el_if rfl rfl (fun _ => hn _ (op_after z2 z4 z5 z6)) (fun z => absurd rfl z)
set_option maxRecDepth 100000 in
theorem l_case6 (hXX : ∀ args s, lXL b L xs ε args s → va_X b L xs s s.heap ∧ b < s.heap.size ∧ ¬ e_A ε b) (hc : cells ≤ mc ∧ slots ≤ ms) (hL : L ≤ 2048) (hK : 4 * K + 4 ≤ L) (hR : RW G K) (hn : ∀ G', RW G' (K + 1) → EL ε (jLaw nm) (lXL b L xs ε) Z mc ms cells slots 793 (lLS b K) [] (wd ε G')) : EL ε (jLaw nm) (lXL b L xs ε) Z mc ms cells slots 336 (lLS b K) [] (wd ε G) := by
  obtain ⟨a, r', t', x', hc1, hc2⟩ := op_comeBack (ε := ε) hR (xs (4 * K + 1))
  refine el_step rfl rfl ?_
  refine el_step rfl rfl ?_
  refine el_step rfl rfl ?_
  refine el_step rfl rfl ?_
  refine el_step rfl rfl ?_
  refine el_sld (j := 4 * K + 1) rfl hXX (nI_add' _ _) (by omega) (by omega) ?_
  refine el2_call hc1 rfl ⟨rfl, rfl, rfl⟩ rfl rfl rfl rfl (by decide) rfl rfl rfl hc (fun v G1 z => ?_)
  obtain ⟨z1, z2, z3⟩ := z
  cases z1
  have hc3 := hc2 G1 (G1 0 53)
  rw [op_self z3] at hc3
  refine el_step rfl rfl ?_
  refine el_step rfl rfl ?_
  refine el_step rfl rfl ?_
  refine el_step rfl rfl ?_
  refine el_step rfl rfl ?_
  refine el_sld (j := 4 * K + 1) rfl hXX (nI_add' _ _) (by omega) (by omega) ?_
  refine el2_call hc3 rfl ⟨rfl, rfl, rfl⟩ rfl rfl rfl rfl (by decide) rfl rfl rfl hc (fun v G2 z => ?_)
  obtain ⟨z1, r2, o2, x2, rfl, z4, z5, z6⟩ := z
  cases z1
  exact el_if rfl rfl (fun _ => hn _ (op_after z2 z4 z5 z6)) (fun z => absurd rfl z)
set_option maxRecDepth 100000 in
theorem l_case7 (hXX : ∀ args s, lXL b L xs ε args s → va_X b L xs s s.heap ∧ b < s.heap.size ∧ ¬ e_A ε b) (hc : cells ≤ mc ∧ slots ≤ ms) (hL : L ≤ 2048) (hK : 4 * K + 4 ≤ L) (hR : RW G K) (hn : ∀ G', RW G' (K + 1) → EL ε (jLaw nm) (lXL b L xs ε) Z mc ms cells slots 793 (lLS b K) [] (wd ε G')) : EL ε (jLaw nm) (lXL b L xs ε) Z mc ms cells slots 359 (lLS b K) [] (wd ε G) := by
  obtain ⟨a, r', t', x', hc1, hc2⟩ := op_take (ε := ε) hR (xs (4 * K + 1))
  refine el_step rfl rfl ?_
  refine el_step rfl rfl ?_
  refine el_step rfl rfl ?_
  refine el_step rfl rfl ?_
  refine el_step rfl rfl ?_
  refine el_sld (j := 4 * K + 1) rfl hXX (nI_add' _ _) (by omega) (by omega) ?_
  refine el2_call hc1 rfl ⟨rfl, rfl, rfl⟩ rfl rfl rfl rfl (by decide) rfl rfl rfl hc (fun v G1 z => ?_)
  obtain ⟨z1, z2, z3⟩ := z
  cases z1
  have hc3 := hc2 G1 (G1 0 53)
  rw [op_self z3] at hc3
  refine el_step rfl rfl ?_
  refine el_step rfl rfl ?_
  refine el_step rfl rfl ?_
  refine el_step rfl rfl ?_
  refine el_step rfl rfl ?_
  refine el_sld (j := 4 * K + 1) rfl hXX (nI_add' _ _) (by omega) (by omega) ?_
  refine el2_call hc3 rfl ⟨rfl, rfl, rfl⟩ rfl rfl rfl rfl (by decide) rfl rfl rfl hc (fun v G2 z => ?_)
  obtain ⟨z1, r2, o2, x2, rfl, z4, z5, z6⟩ := z
  cases z1
  exact el_if rfl rfl (fun _ => hn _ (op_after z2 z4 z5 z6)) (fun z => absurd rfl z)
set_option maxRecDepth 100000 in
theorem l_case8 (hXX : ∀ args s, lXL b L xs ε args s → va_X b L xs s s.heap ∧ b < s.heap.size ∧ ¬ e_A ε b) (hc : cells ≤ mc ∧ slots ≤ ms) (hL : L ≤ 2048) (hK : 4 * K + 4 ≤ L) (hR : RW G K) (hn : ∀ G', RW G' (K + 1) → EL ε (jLaw nm) (lXL b L xs ε) Z mc ms cells slots 793 (lLS b K) [] (wd ε G')) : EL ε (jLaw nm) (lXL b L xs ε) Z mc ms cells slots 382 (lLS b K) [] (wd ε G) := by
  obtain ⟨a, r', t', x', hc1, hc2⟩ := op_restore (ε := ε) hR (xs (4 * K + 1))
  refine el_step rfl rfl ?_
  refine el_step rfl rfl ?_
  refine el_step rfl rfl ?_
  refine el_step rfl rfl ?_
  refine el_step rfl rfl ?_
  refine el_sld (j := 4 * K + 1) rfl hXX (nI_add' _ _) (by omega) (by omega) ?_
  refine el2_call hc1 rfl ⟨rfl, rfl, rfl⟩ rfl rfl rfl rfl (by decide) rfl rfl rfl hc (fun v G1 z => ?_)
  obtain ⟨z1, z2, z3⟩ := z
  cases z1
  have hc3 := hc2 G1 (G1 0 53)
  rw [op_self z3] at hc3
  refine el_step rfl rfl ?_
  refine el_step rfl rfl ?_
  refine el_step rfl rfl ?_
  refine el_step rfl rfl ?_
  refine el_step rfl rfl ?_
  refine el_sld (j := 4 * K + 1) rfl hXX (nI_add' _ _) (by omega) (by omega) ?_
  refine el2_call hc3 rfl ⟨rfl, rfl, rfl⟩ rfl rfl rfl rfl (by decide) rfl rfl rfl hc (fun v G2 z => ?_)
  obtain ⟨z1, r2, o2, x2, rfl, z4, z5, z6⟩ := z
  cases z1
  exact el_if rfl rfl (fun _ => hn _ (op_after z2 z4 z5 z6)) (fun z => absurd rfl z)
set_option maxRecDepth 100000 in
theorem l_case9 (hXX : ∀ args s, lXL b L xs ε args s → va_X b L xs s s.heap ∧ b < s.heap.size ∧ ¬ e_A ε b) (hc : cells ≤ mc ∧ slots ≤ ms) (hL : L ≤ 2048) (hK : 4 * K + 4 ≤ L) (hR : RW G K) (hn : ∀ G', RW G' (K + 1) → EL ε (jLaw nm) (lXL b L xs ε) Z mc ms cells slots 793 (lLS b K) [] (wd ε G')) : EL ε (jLaw nm) (lXL b L xs ε) Z mc ms cells slots 405 (lLS b K) [] (wd ε G) := by
  obtain ⟨a, r', t', x', hc1, hc2⟩ := op_undo (ε := ε) hR
  refine el_step rfl rfl ?_
  refine el2_call hc1 rfl ⟨rfl, rfl, rfl⟩ rfl rfl rfl rfl (by decide) rfl rfl rfl hc (fun v G1 z => ?_)
  obtain ⟨z1, z2, z3⟩ := z
  cases z1
  have hc3 := hc2 G1 (G1 0 53)
  rw [op_self z3] at hc3
  refine el_step rfl rfl ?_
  refine el2_call hc3 rfl ⟨rfl, rfl, rfl⟩ rfl rfl rfl rfl (by decide) rfl rfl rfl hc (fun v G2 z => ?_)
  obtain ⟨z1, r2, o2, x2, rfl, z4, z5, z6⟩ := z
  cases z1
  exact el_if rfl rfl (fun _ => hn _ (op_after z2 z4 z5 z6)) (fun z => absurd rfl z)
set_option maxRecDepth 100000 in
theorem l_case10 (hXX : ∀ args s, lXL b L xs ε args s → va_X b L xs s s.heap ∧ b < s.heap.size ∧ ¬ e_A ε b) (hc : cells ≤ mc ∧ slots ≤ ms) (hL : L ≤ 2048) (hK : 4 * K + 4 ≤ L) (hR : RW G K) (hn : ∀ G', RW G' (K + 1) → EL ε (jLaw nm) (lXL b L xs ε) Z mc ms cells slots 793 (lLS b K) [] (wd ε G')) : EL ε (jLaw nm) (lXL b L xs ε) Z mc ms cells slots 418 (lLS b K) [] (wd ε G) := by
  obtain ⟨a, r', t', x', hc1, hc2⟩ := op_append (ε := ε) hR (xs (4 * K + 1))
  refine el_step rfl rfl ?_
  refine el_step rfl rfl ?_
  refine el_step rfl rfl ?_
  refine el_step rfl rfl ?_
  refine el_step rfl rfl ?_
  refine el_sld (j := 4 * K + 1) rfl hXX (nI_add' _ _) (by omega) (by omega) ?_
  refine el2_call hc1 rfl ⟨rfl, rfl, rfl⟩ rfl rfl rfl rfl (by decide) rfl rfl rfl hc (fun v G1 z => ?_)
  obtain ⟨z1, z2, z3⟩ := z
  cases z1
  have hc3 := hc2 G1 (G1 0 53)
  rw [op_self z3] at hc3
  refine el_step rfl rfl ?_
  refine el_step rfl rfl ?_
  refine el_step rfl rfl ?_
  refine el_step rfl rfl ?_
  refine el_step rfl rfl ?_
  refine el_sld (j := 4 * K + 1) rfl hXX (nI_add' _ _) (by omega) (by omega) ?_
  refine el2_call hc3 rfl ⟨rfl, rfl, rfl⟩ rfl rfl rfl rfl (by decide) rfl rfl rfl hc (fun v G2 z => ?_)
  obtain ⟨z1, r2, o2, x2, rfl, z4, z5, z6⟩ := z
  cases z1
  exact el_if rfl rfl (fun _ => hn _ (op_after z2 z4 z5 z6)) (fun z => absurd rfl z)
set_option maxRecDepth 100000 in
theorem l_case11 (hXX : ∀ args s, lXL b L xs ε args s → va_X b L xs s s.heap ∧ b < s.heap.size ∧ ¬ e_A ε b) (hc : cells ≤ mc ∧ slots ≤ ms) (hL : L ≤ 2048) (hK : 4 * K + 4 ≤ L) (hR : RW G K) (hn : ∀ G', RW G' (K + 1) → EL ε (jLaw nm) (lXL b L xs ε) Z mc ms cells slots 793 (lLS b K) [] (wd ε G')) : EL ε (jLaw nm) (lXL b L xs ε) Z mc ms cells slots 441 (lLS b K) [] (wd ε G) := by
  obtain ⟨a, r', t', x', hc1, hc2⟩ := op_clearText (ε := ε) hR
  refine el_step rfl rfl ?_
  refine el2_call hc1 rfl ⟨rfl, rfl, rfl⟩ rfl rfl rfl rfl (by decide) rfl rfl rfl hc (fun v G1 z => ?_)
  obtain ⟨z1, z2, z3⟩ := z
  cases z1
  have hc3 := hc2 G1 (G1 0 53)
  rw [op_self z3] at hc3
  refine el_step rfl rfl ?_
  refine el2_call hc3 rfl ⟨rfl, rfl, rfl⟩ rfl rfl rfl rfl (by decide) rfl rfl rfl hc (fun v G2 z => ?_)
  obtain ⟨z1, r2, o2, x2, rfl, z4, z5, z6⟩ := z
  cases z1
  exact el_if rfl rfl (fun _ => hn _ (op_after z2 z4 z5 z6)) (fun z => absurd rfl z)
set_option maxRecDepth 100000 in
theorem l_case12 (hXX : ∀ args s, lXL b L xs ε args s → va_X b L xs s s.heap ∧ b < s.heap.size ∧ ¬ e_A ε b) (hc : cells ≤ mc ∧ slots ≤ ms) (hL : L ≤ 2048) (hK : 4 * K + 4 ≤ L) (hR : RW G K) (hn : ∀ G', RW G' (K + 1) → EL ε (jLaw nm) (lXL b L xs ε) Z mc ms cells slots 793 (lLS b K) [] (wd ε G')) : EL ε (jLaw nm) (lXL b L xs ε) Z mc ms cells slots 454 (lLS b K) [] (wd ε G) := by
  obtain ⟨a, r', t', x', hc1, hc2⟩ := op_setRanges (ε := ε) hR
  refine el_step rfl rfl ?_
  refine el2_call hc1 rfl ⟨rfl, rfl, rfl⟩ rfl rfl rfl rfl (by decide) rfl rfl rfl hc (fun v G1 z => ?_)
  obtain ⟨z1, z2, z3⟩ := z
  cases z1
  have hc3 := hc2 G1 (G1 0 53)
  rw [op_self z3] at hc3
  refine el_step rfl rfl ?_
  refine el2_call hc3 rfl ⟨rfl, rfl, rfl⟩ rfl rfl rfl rfl (by decide) rfl rfl rfl hc (fun v G2 z => ?_)
  obtain ⟨z1, r2, o2, x2, rfl, z4, z5, z6⟩ := z
  cases z1
  exact el_if rfl rfl (fun _ => hn _ (op_after z2 z4 z5 z6)) (fun z => absurd rfl z)
set_option maxRecDepth 100000 in
theorem l_case13 (hXX : ∀ args s, lXL b L xs ε args s → va_X b L xs s s.heap ∧ b < s.heap.size ∧ ¬ e_A ε b) (hc : cells ≤ mc ∧ slots ≤ ms) (hL : L ≤ 2048) (hK : 4 * K + 4 ≤ L) (hR : RW G K) (hn : ∀ G', RW G' (K + 1) → EL ε (jLaw nm) (lXL b L xs ε) Z mc ms cells slots 793 (lLS b K) [] (wd ε G')) : EL ε (jLaw nm) (lXL b L xs ε) Z mc ms cells slots 467 (lLS b K) [] (wd ε G) := by
  obtain ⟨a, r', t', x', hc1, hc2⟩ := op_count (ε := ε) hR (xs (4 * K + 1))
  refine el_step rfl rfl ?_
  refine el_step rfl rfl ?_
  refine el_step rfl rfl ?_
  refine el_step rfl rfl ?_
  refine el_step rfl rfl ?_
  refine el_sld (j := 4 * K + 1) rfl hXX (nI_add' _ _) (by omega) (by omega) ?_
  refine el2_call hc1 rfl ⟨rfl, rfl, rfl⟩ rfl rfl rfl rfl (by decide) rfl rfl rfl hc (fun v G1 z => ?_)
  obtain ⟨z1, z2, z3⟩ := z
  cases z1
  have hc3 := hc2 G1 (G1 0 53)
  rw [op_self z3] at hc3
  refine el_step rfl rfl ?_
  refine el_step rfl rfl ?_
  refine el_step rfl rfl ?_
  refine el_step rfl rfl ?_
  refine el_step rfl rfl ?_
  refine el_sld (j := 4 * K + 1) rfl hXX (nI_add' _ _) (by omega) (by omega) ?_
  refine el2_call hc3 rfl ⟨rfl, rfl, rfl⟩ rfl rfl rfl rfl (by decide) rfl rfl rfl hc (fun v G2 z => ?_)
  obtain ⟨z1, r2, o2, x2, rfl, z4, z5, z6⟩ := z
  cases z1
  exact el_if rfl rfl (fun _ => hn _ (op_after z2 z4 z5 z6)) (fun z => absurd rfl z)
set_option maxRecDepth 100000 in
theorem l_case14 (hXX : ∀ args s, lXL b L xs ε args s → va_X b L xs s s.heap ∧ b < s.heap.size ∧ ¬ e_A ε b) (hc : cells ≤ mc ∧ slots ≤ ms) (hL : L ≤ 2048) (hK : 4 * K + 4 ≤ L) (hR : RW G K) (hn : ∀ G', RW G' (K + 1) → EL ε (jLaw nm) (lXL b L xs ε) Z mc ms cells slots 793 (lLS b K) [] (wd ε G')) : EL ε (jLaw nm) (lXL b L xs ε) Z mc ms cells slots 490 (lLS b K) [] (wd ε G) := by
  obtain ⟨a, r', t', x', hc1, hc2⟩ := op_letter (ε := ε) hR (xs (4 * K + 1)) (xs (4 * K + 2))
  refine el_step rfl rfl ?_
  refine el_step rfl rfl ?_
  refine el_step rfl rfl ?_
  refine el_step rfl rfl ?_
  refine el_step rfl rfl ?_
  refine el_sld (j := 4 * K + 1) rfl hXX (nI_add' _ _) (by omega) (by omega) ?_
  refine el_step rfl rfl ?_
  refine el_step rfl rfl ?_
  refine el_step rfl rfl ?_
  refine el_step rfl rfl ?_
  refine el_sld (j := 4 * K + 2) rfl hXX (nI_add' _ _) (by omega) (by omega) ?_
  refine el2_call hc1 rfl ⟨rfl, rfl, rfl⟩ rfl rfl rfl rfl (by decide) rfl rfl rfl hc (fun v G1 z => ?_)
  obtain ⟨z1, z2, z3⟩ := z
  cases z1
  have hc3 := hc2 G1 (G1 0 53)
  rw [op_self z3] at hc3
  refine el_step rfl rfl ?_
  refine el_step rfl rfl ?_
  refine el_step rfl rfl ?_
  refine el_step rfl rfl ?_
  refine el_step rfl rfl ?_
  refine el_sld (j := 4 * K + 1) rfl hXX (nI_add' _ _) (by omega) (by omega) ?_
  refine el_step rfl rfl ?_
  refine el_step rfl rfl ?_
  refine el_step rfl rfl ?_
  refine el_step rfl rfl ?_
  refine el_sld (j := 4 * K + 2) rfl hXX (nI_add' _ _) (by omega) (by omega) ?_
  refine el2_call hc3 rfl ⟨rfl, rfl, rfl⟩ rfl rfl rfl rfl (by decide) rfl rfl rfl hc (fun v G2 z => ?_)
  obtain ⟨z1, r2, o2, x2, rfl, z4, z5, z6⟩ := z
  cases z1
  exact el_if rfl rfl (fun _ => hn _ (op_after z2 z4 z5 z6)) (fun z => absurd rfl z)
set_option maxRecDepth 100000 in
theorem l_case15 (hXX : ∀ args s, lXL b L xs ε args s → va_X b L xs s s.heap ∧ b < s.heap.size ∧ ¬ e_A ε b) (hc : cells ≤ mc ∧ slots ≤ ms) (hL : L ≤ 2048) (hK : 4 * K + 4 ≤ L) (hR : RW G K) (hn : ∀ G', RW G' (K + 1) → EL ε (jLaw nm) (lXL b L xs ε) Z mc ms cells slots 793 (lLS b K) [] (wd ε G')) : EL ε (jLaw nm) (lXL b L xs ε) Z mc ms cells slots 523 (lLS b K) [] (wd ε G) := by
  obtain ⟨a, r', t', x', hc1, hc2⟩ := op_frame (ε := ε) hR (xs (4 * K + 1)) (xs (4 * K + 2))
  refine el_step rfl rfl ?_
  refine el_step rfl rfl ?_
  refine el_step rfl rfl ?_
  refine el_step rfl rfl ?_
  refine el_step rfl rfl ?_
  refine el_sld (j := 4 * K + 1) rfl hXX (nI_add' _ _) (by omega) (by omega) ?_
  refine el_step rfl rfl ?_
  refine el_step rfl rfl ?_
  refine el_step rfl rfl ?_
  refine el_step rfl rfl ?_
  refine el_sld (j := 4 * K + 2) rfl hXX (nI_add' _ _) (by omega) (by omega) ?_
  refine el2_call hc1 rfl ⟨rfl, rfl, rfl⟩ rfl rfl rfl rfl (by decide) rfl rfl rfl hc (fun v G1 z => ?_)
  obtain ⟨z1, z2, z3⟩ := z
  cases z1
  have hc3 := hc2 G1 (G1 0 53)
  rw [op_self z3] at hc3
  refine el_step rfl rfl ?_
  refine el_step rfl rfl ?_
  refine el_step rfl rfl ?_
  refine el_step rfl rfl ?_
  refine el_step rfl rfl ?_
  refine el_sld (j := 4 * K + 1) rfl hXX (nI_add' _ _) (by omega) (by omega) ?_
  refine el_step rfl rfl ?_
  refine el_step rfl rfl ?_
  refine el_step rfl rfl ?_
  refine el_step rfl rfl ?_
  refine el_sld (j := 4 * K + 2) rfl hXX (nI_add' _ _) (by omega) (by omega) ?_
  refine el2_call hc3 rfl ⟨rfl, rfl, rfl⟩ rfl rfl rfl rfl (by decide) rfl rfl rfl hc (fun v G2 z => ?_)
  obtain ⟨z1, r2, o2, x2, rfl, z4, z5, z6⟩ := z
  cases z1
  exact el_if rfl rfl (fun _ => hn _ (op_after z2 z4 z5 z6)) (fun z => absurd rfl z)
set_option maxRecDepth 100000 in
theorem l_case16 (hXX : ∀ args s, lXL b L xs ε args s → va_X b L xs s s.heap ∧ b < s.heap.size ∧ ¬ e_A ε b) (hc : cells ≤ mc ∧ slots ≤ ms) (hL : L ≤ 2048) (hK : 4 * K + 4 ≤ L) (hR : RW G K) (hn : ∀ G', RW G' (K + 1) → EL ε (jLaw nm) (lXL b L xs ε) Z mc ms cells slots 793 (lLS b K) [] (wd ε G')) : EL ε (jLaw nm) (lXL b L xs ε) Z mc ms cells slots 556 (lLS b K) [] (wd ε G) := by
  obtain ⟨a, r', t', x', hc1, hc2⟩ := op_carrier (ε := ε) hR (xs (4 * K + 1)) (xs (4 * K + 2))
  refine el_step rfl rfl ?_
  refine el_step rfl rfl ?_
  refine el_step rfl rfl ?_
  refine el_step rfl rfl ?_
  refine el_step rfl rfl ?_
  refine el_sld (j := 4 * K + 1) rfl hXX (nI_add' _ _) (by omega) (by omega) ?_
  refine el_step rfl rfl ?_
  refine el_step rfl rfl ?_
  refine el_step rfl rfl ?_
  refine el_step rfl rfl ?_
  refine el_sld (j := 4 * K + 2) rfl hXX (nI_add' _ _) (by omega) (by omega) ?_
  refine el2_call hc1 rfl ⟨rfl, rfl, rfl⟩ rfl rfl rfl rfl (by decide) rfl rfl rfl hc (fun v G1 z => ?_)
  obtain ⟨z1, z2, z3⟩ := z
  cases z1
  have hc3 := hc2 G1 (G1 0 53)
  rw [op_self z3] at hc3
  refine el_step rfl rfl ?_
  refine el_step rfl rfl ?_
  refine el_step rfl rfl ?_
  refine el_step rfl rfl ?_
  refine el_step rfl rfl ?_
  refine el_sld (j := 4 * K + 1) rfl hXX (nI_add' _ _) (by omega) (by omega) ?_
  refine el_step rfl rfl ?_
  refine el_step rfl rfl ?_
  refine el_step rfl rfl ?_
  refine el_step rfl rfl ?_
  refine el_sld (j := 4 * K + 2) rfl hXX (nI_add' _ _) (by omega) (by omega) ?_
  refine el2_call hc3 rfl ⟨rfl, rfl, rfl⟩ rfl rfl rfl rfl (by decide) rfl rfl rfl hc (fun v G2 z => ?_)
  obtain ⟨z1, r2, o2, x2, rfl, z4, z5, z6⟩ := z
  cases z1
  exact el_if rfl rfl (fun _ => hn _ (op_after z2 z4 z5 z6)) (fun z => absurd rfl z)
set_option maxRecDepth 100000 in
theorem l_case17 (hXX : ∀ args s, lXL b L xs ε args s → va_X b L xs s s.heap ∧ b < s.heap.size ∧ ¬ e_A ε b) (hc : cells ≤ mc ∧ slots ≤ ms) (hL : L ≤ 2048) (hK : 4 * K + 4 ≤ L) (hR : RW G K) (hn : ∀ G', RW G' (K + 1) → EL ε (jLaw nm) (lXL b L xs ε) Z mc ms cells slots 793 (lLS b K) [] (wd ε G')) : EL ε (jLaw nm) (lXL b L xs ε) Z mc ms cells slots 589 (lLS b K) [] (wd ε G) := by
  obtain ⟨a, r', t', x', hc1, hc2⟩ := op_rounds (ε := ε) hR (xs (4 * K + 1)) (xs (4 * K + 2))
  refine el_step rfl rfl ?_
  refine el_step rfl rfl ?_
  refine el_step rfl rfl ?_
  refine el_step rfl rfl ?_
  refine el_step rfl rfl ?_
  refine el_sld (j := 4 * K + 1) rfl hXX (nI_add' _ _) (by omega) (by omega) ?_
  refine el_step rfl rfl ?_
  refine el_step rfl rfl ?_
  refine el_step rfl rfl ?_
  refine el_step rfl rfl ?_
  refine el_sld (j := 4 * K + 2) rfl hXX (nI_add' _ _) (by omega) (by omega) ?_
  refine el2_call hc1 rfl ⟨rfl, rfl, rfl⟩ rfl rfl rfl rfl (by decide) rfl rfl rfl hc (fun v G1 z => ?_)
  obtain ⟨z1, z2, z3⟩ := z
  cases z1
  have hc3 := hc2 G1 (G1 0 53)
  rw [op_self z3] at hc3
  refine el_step rfl rfl ?_
  refine el_step rfl rfl ?_
  refine el_step rfl rfl ?_
  refine el_step rfl rfl ?_
  refine el_step rfl rfl ?_
  refine el_sld (j := 4 * K + 1) rfl hXX (nI_add' _ _) (by omega) (by omega) ?_
  refine el_step rfl rfl ?_
  refine el_step rfl rfl ?_
  refine el_step rfl rfl ?_
  refine el_step rfl rfl ?_
  refine el_sld (j := 4 * K + 2) rfl hXX (nI_add' _ _) (by omega) (by omega) ?_
  refine el2_call hc3 rfl ⟨rfl, rfl, rfl⟩ rfl rfl rfl rfl (by decide) rfl rfl rfl hc (fun v G2 z => ?_)
  obtain ⟨z1, r2, o2, x2, rfl, z4, z5, z6⟩ := z
  cases z1
  exact el_if rfl rfl (fun _ => hn _ (op_after z2 z4 z5 z6)) (fun z => absurd rfl z)
set_option maxRecDepth 100000 in
theorem l_case18 (hXX : ∀ args s, lXL b L xs ε args s → va_X b L xs s s.heap ∧ b < s.heap.size ∧ ¬ e_A ε b) (hc : cells ≤ mc ∧ slots ≤ ms) (hL : L ≤ 2048) (hK : 4 * K + 4 ≤ L) (hR : RW G K) (hn : ∀ G', RW G' (K + 1) → EL ε (jLaw nm) (lXL b L xs ε) Z mc ms cells slots 793 (lLS b K) [] (wd ε G')) : EL ε (jLaw nm) (lXL b L xs ε) Z mc ms cells slots 622 (lLS b K) [] (wd ε G) := by
  obtain ⟨a, r', t', x', hc1, hc2⟩ := op_stretch (ε := ε) hR (xs (4 * K + 1)) (xs (4 * K + 2))
  refine el_step rfl rfl ?_
  refine el_step rfl rfl ?_
  refine el_step rfl rfl ?_
  refine el_step rfl rfl ?_
  refine el_step rfl rfl ?_
  refine el_sld (j := 4 * K + 1) rfl hXX (nI_add' _ _) (by omega) (by omega) ?_
  refine el_step rfl rfl ?_
  refine el_step rfl rfl ?_
  refine el_step rfl rfl ?_
  refine el_step rfl rfl ?_
  refine el_sld (j := 4 * K + 2) rfl hXX (nI_add' _ _) (by omega) (by omega) ?_
  refine el2_call hc1 rfl ⟨rfl, rfl, rfl⟩ rfl rfl rfl rfl (by decide) rfl rfl rfl hc (fun v G1 z => ?_)
  obtain ⟨z1, z2, z3⟩ := z
  cases z1
  have hc3 := hc2 G1 (G1 0 53)
  rw [op_self z3] at hc3
  refine el_step rfl rfl ?_
  refine el_step rfl rfl ?_
  refine el_step rfl rfl ?_
  refine el_step rfl rfl ?_
  refine el_step rfl rfl ?_
  refine el_sld (j := 4 * K + 1) rfl hXX (nI_add' _ _) (by omega) (by omega) ?_
  refine el_step rfl rfl ?_
  refine el_step rfl rfl ?_
  refine el_step rfl rfl ?_
  refine el_step rfl rfl ?_
  refine el_sld (j := 4 * K + 2) rfl hXX (nI_add' _ _) (by omega) (by omega) ?_
  refine el2_call hc3 rfl ⟨rfl, rfl, rfl⟩ rfl rfl rfl rfl (by decide) rfl rfl rfl hc (fun v G2 z => ?_)
  obtain ⟨z1, r2, o2, x2, rfl, z4, z5, z6⟩ := z
  cases z1
  exact el_if rfl rfl (fun _ => hn _ (op_after z2 z4 z5 z6)) (fun z => absurd rfl z)
set_option maxRecDepth 100000 in
theorem l_case19 (hXX : ∀ args s, lXL b L xs ε args s → va_X b L xs s s.heap ∧ b < s.heap.size ∧ ¬ e_A ε b) (hc : cells ≤ mc ∧ slots ≤ ms) (hL : L ≤ 2048) (hK : 4 * K + 4 ≤ L) (hR : RW G K) (hn : ∀ G', RW G' (K + 1) → EL ε (jLaw nm) (lXL b L xs ε) Z mc ms cells slots 793 (lLS b K) [] (wd ε G')) : EL ε (jLaw nm) (lXL b L xs ε) Z mc ms cells slots 655 (lLS b K) [] (wd ε G) := by
  obtain ⟨a, r', t', x', hc1, hc2⟩ := op_inBag (ε := ε) hR (xs (4 * K + 1))
  refine el_step rfl rfl ?_
  refine el_step rfl rfl ?_
  refine el_step rfl rfl ?_
  refine el_step rfl rfl ?_
  refine el_step rfl rfl ?_
  refine el_sld (j := 4 * K + 1) rfl hXX (nI_add' _ _) (by omega) (by omega) ?_
  refine el2_call hc1 rfl ⟨rfl, rfl, rfl⟩ rfl rfl rfl rfl (by decide) rfl rfl rfl hc (fun v G1 z => ?_)
  obtain ⟨z1, z2, z3⟩ := z
  cases z1
  have hc3 := hc2 G1 (G1 0 53)
  rw [op_self z3] at hc3
  refine el_step rfl rfl ?_
  refine el_step rfl rfl ?_
  refine el_step rfl rfl ?_
  refine el_step rfl rfl ?_
  refine el_step rfl rfl ?_
  refine el_sld (j := 4 * K + 1) rfl hXX (nI_add' _ _) (by omega) (by omega) ?_
  refine el2_call hc3 rfl ⟨rfl, rfl, rfl⟩ rfl rfl rfl rfl (by decide) rfl rfl rfl hc (fun v G2 z => ?_)
  obtain ⟨z1, r2, o2, x2, rfl, z4, z5, z6⟩ := z
  cases z1
  exact el_if rfl rfl (fun _ => hn _ (op_after z2 z4 z5 z6)) (fun z => absurd rfl z)
set_option maxRecDepth 100000 in
theorem l_case20 (hXX : ∀ args s, lXL b L xs ε args s → va_X b L xs s s.heap ∧ b < s.heap.size ∧ ¬ e_A ε b) (hc : cells ≤ mc ∧ slots ≤ ms) (hL : L ≤ 2048) (hK : 4 * K + 4 ≤ L) (hR : RW G K) (hn : ∀ G', RW G' (K + 1) → EL ε (jLaw nm) (lXL b L xs ε) Z mc ms cells slots 793 (lLS b K) [] (wd ε G')) : EL ε (jLaw nm) (lXL b L xs ε) Z mc ms cells slots 678 (lLS b K) [] (wd ε G) := by
  obtain ⟨a, r', t', x', hc1, hc2⟩ := op_inFrame (ε := ε) hR (xs (4 * K + 1)) (xs (4 * K + 2))
  refine el_step rfl rfl ?_
  refine el_step rfl rfl ?_
  refine el_step rfl rfl ?_
  refine el_step rfl rfl ?_
  refine el_step rfl rfl ?_
  refine el_sld (j := 4 * K + 1) rfl hXX (nI_add' _ _) (by omega) (by omega) ?_
  refine el_step rfl rfl ?_
  refine el_step rfl rfl ?_
  refine el_step rfl rfl ?_
  refine el_step rfl rfl ?_
  refine el_sld (j := 4 * K + 2) rfl hXX (nI_add' _ _) (by omega) (by omega) ?_
  refine el2_call hc1 rfl ⟨rfl, rfl, rfl⟩ rfl rfl rfl rfl (by decide) rfl rfl rfl hc (fun v G1 z => ?_)
  obtain ⟨z1, z2, z3⟩ := z
  cases z1
  have hc3 := hc2 G1 (G1 0 53)
  rw [op_self z3] at hc3
  refine el_step rfl rfl ?_
  refine el_step rfl rfl ?_
  refine el_step rfl rfl ?_
  refine el_step rfl rfl ?_
  refine el_step rfl rfl ?_
  refine el_sld (j := 4 * K + 1) rfl hXX (nI_add' _ _) (by omega) (by omega) ?_
  refine el_step rfl rfl ?_
  refine el_step rfl rfl ?_
  refine el_step rfl rfl ?_
  refine el_step rfl rfl ?_
  refine el_sld (j := 4 * K + 2) rfl hXX (nI_add' _ _) (by omega) (by omega) ?_
  refine el2_call hc3 rfl ⟨rfl, rfl, rfl⟩ rfl rfl rfl rfl (by decide) rfl rfl rfl hc (fun v G2 z => ?_)
  obtain ⟨z1, r2, o2, x2, rfl, z4, z5, z6⟩ := z
  cases z1
  exact el_if rfl rfl (fun _ => hn _ (op_after z2 z4 z5 z6)) (fun z => absurd rfl z)
set_option maxRecDepth 100000 in
theorem l_case21 (hXX : ∀ args s, lXL b L xs ε args s → va_X b L xs s s.heap ∧ b < s.heap.size ∧ ¬ e_A ε b) (hc : cells ≤ mc ∧ slots ≤ ms) (hL : L ≤ 2048) (hK : 4 * K + 4 ≤ L) (hR : RW G K) (hn : ∀ G', RW G' (K + 1) → EL ε (jLaw nm) (lXL b L xs ε) Z mc ms cells slots 793 (lLS b K) [] (wd ε G')) : EL ε (jLaw nm) (lXL b L xs ε) Z mc ms cells slots 711 (lLS b K) [] (wd ε G) := by
  obtain ⟨a, r', t', x', hc1, hc2⟩ := op_clearIn (ε := ε) hR
  refine el_step rfl rfl ?_
  refine el2_call hc1 rfl ⟨rfl, rfl, rfl⟩ rfl rfl rfl rfl (by decide) rfl rfl rfl hc (fun v G1 z => ?_)
  obtain ⟨z1, z2, z3⟩ := z
  cases z1
  have hc3 := hc2 G1 (G1 0 53)
  rw [op_self z3] at hc3
  refine el_step rfl rfl ?_
  refine el2_call hc3 rfl ⟨rfl, rfl, rfl⟩ rfl rfl rfl rfl (by decide) rfl rfl rfl hc (fun v G2 z => ?_)
  obtain ⟨z1, r2, o2, x2, rfl, z4, z5, z6⟩ := z
  cases z1
  exact el_if rfl rfl (fun _ => hn _ (op_after z2 z4 z5 z6)) (fun z => absurd rfl z)
set_option maxRecDepth 100000 in
theorem l_case22 (hXX : ∀ args s, lXL b L xs ε args s → va_X b L xs s s.heap ∧ b < s.heap.size ∧ ¬ e_A ε b) (hc : cells ≤ mc ∧ slots ≤ ms) (hL : L ≤ 2048) (hK : 4 * K + 4 ≤ L) (hR : RW G K) (hn : ∀ G', RW G' (K + 1) → EL ε (jLaw nm) (lXL b L xs ε) Z mc ms cells slots 793 (lLS b K) [] (wd ε G')) : EL ε (jLaw nm) (lXL b L xs ε) Z mc ms cells slots 724 (lLS b K) [] (wd ε G) := by
  obtain ⟨a, r', t', x', hc1, hc2⟩ := op_wouldOverflow (ε := ε) hR (xs (4 * K + 1))
  refine el_step rfl rfl ?_
  refine el_step rfl rfl ?_
  refine el_step rfl rfl ?_
  refine el_step rfl rfl ?_
  refine el_step rfl rfl ?_
  refine el_sld (j := 4 * K + 1) rfl hXX (nI_add' _ _) (by omega) (by omega) ?_
  refine el2_call hc1 rfl ⟨rfl, rfl, rfl⟩ rfl rfl rfl rfl (by decide) rfl rfl rfl hc (fun v G1 z => ?_)
  obtain ⟨z1, z2, z3⟩ := z
  cases z1
  have hc3 := hc2 G1 (G1 0 53)
  rw [op_self z3] at hc3
  refine el_step rfl rfl ?_
  refine el_step rfl rfl ?_
  refine el_step rfl rfl ?_
  refine el_step rfl rfl ?_
  refine el_step rfl rfl ?_
  refine el_sld (j := 4 * K + 1) rfl hXX (nI_add' _ _) (by omega) (by omega) ?_
  refine el2_call hc3 rfl ⟨rfl, rfl, rfl⟩ rfl rfl rfl rfl (by decide) rfl rfl rfl hc (fun v G2 z => ?_)
  obtain ⟨z1, r2, o2, x2, rfl, z4, z5, z6⟩ := z
  cases z1
  exact el_if rfl rfl (fun _ => hn _ (op_after z2 z4 z5 z6)) (fun z => absurd rfl z)
set_option maxRecDepth 100000 in
theorem l_case23 (hXX : ∀ args s, lXL b L xs ε args s → va_X b L xs s s.heap ∧ b < s.heap.size ∧ ¬ e_A ε b) (hc : cells ≤ mc ∧ slots ≤ ms) (hL : L ≤ 2048) (hK : 4 * K + 4 ≤ L) (hR : RW G K) (hn : ∀ G', RW G' (K + 1) → EL ε (jLaw nm) (lXL b L xs ε) Z mc ms cells slots 793 (lLS b K) [] (wd ε G')) : EL ε (jLaw nm) (lXL b L xs ε) Z mc ms cells slots 747 (lLS b K) [] (wd ε G) := by
  obtain ⟨a, r', t', x', hc1, hc2⟩ := op_bestCarrier (ε := ε) hR (by omega) (xs (4 * K + 1))
  refine el_step rfl rfl ?_
  refine el_step rfl rfl ?_
  refine el_step rfl rfl ?_
  refine el_step rfl rfl ?_
  refine el_step rfl rfl ?_
  refine el_sld (j := 4 * K + 1) rfl hXX (nI_add' _ _) (by omega) (by omega) ?_
  refine el2_call hc1 rfl ⟨rfl, rfl, rfl⟩ rfl rfl rfl rfl (by decide) rfl rfl rfl hc (fun v G1 z => ?_)
  obtain ⟨z1, z2, z3⟩ := z
  cases z1
  have hc3 := hc2 G1 (G1 0 53)
  rw [op_self z3] at hc3
  refine el_step rfl rfl ?_
  refine el_step rfl rfl ?_
  refine el_step rfl rfl ?_
  refine el_step rfl rfl ?_
  refine el_step rfl rfl ?_
  refine el_sld (j := 4 * K + 1) rfl hXX (nI_add' _ _) (by omega) (by omega) ?_
  refine el2_call hc3 rfl ⟨rfl, rfl, rfl⟩ rfl rfl rfl rfl (by decide) rfl rfl rfl hc (fun v G2 z => ?_)
  obtain ⟨z1, r2, o2, x2, rfl, z4, z5, z6⟩ := z
  cases z1
  exact el_if rfl rfl (fun _ => hn _ (op_after z2 z4 z5 z6)) (fun z => absurd rfl z)
set_option maxRecDepth 100000 in
theorem l_case24 (hXX : ∀ args s, lXL b L xs ε args s → va_X b L xs s s.heap ∧ b < s.heap.size ∧ ¬ e_A ε b) (hc : cells ≤ mc ∧ slots ≤ ms) (hL : L ≤ 2048) (hK : 4 * K + 4 ≤ L) (hR : RW G K) (hn : ∀ G', RW G' (K + 1) → EL ε (jLaw nm) (lXL b L xs ε) Z mc ms cells slots 793 (lLS b K) [] (wd ε G')) : EL ε (jLaw nm) (lXL b L xs ε) Z mc ms cells slots 770 (lLS b K) [] (wd ε G) := by
  obtain ⟨a, r', t', x', hc1, hc2⟩ := op_wouldDeliver (ε := ε) hR (xs (4 * K + 1))
  refine el_step rfl rfl ?_
  refine el_step rfl rfl ?_
  refine el_step rfl rfl ?_
  refine el_step rfl rfl ?_
  refine el_step rfl rfl ?_
  refine el_sld (j := 4 * K + 1) rfl hXX (nI_add' _ _) (by omega) (by omega) ?_
  refine el2_call hc1 rfl ⟨rfl, rfl, rfl⟩ rfl rfl rfl rfl (by decide) rfl rfl rfl hc (fun v G1 z => ?_)
  obtain ⟨z1, z2, z3⟩ := z
  cases z1
  have hc3 := hc2 G1 (G1 0 53)
  rw [op_self z3] at hc3
  refine el_step rfl rfl ?_
  refine el_step rfl rfl ?_
  refine el_step rfl rfl ?_
  refine el_step rfl rfl ?_
  refine el_step rfl rfl ?_
  refine el_sld (j := 4 * K + 1) rfl hXX (nI_add' _ _) (by omega) (by omega) ?_
  refine el2_call hc3 rfl ⟨rfl, rfl, rfl⟩ rfl rfl rfl rfl (by decide) rfl rfl rfl hc (fun v G2 z => ?_)
  obtain ⟨z1, r2, o2, x2, rfl, z4, z5, z6⟩ := z
  cases z1
  exact el_if rfl rfl (fun _ => hn _ (op_after z2 z4 z5 z6)) (fun z => absurd rfl z)
set_option maxRecDepth 100000 in
theorem l_loop (hXX : ∀ args s, lXL b L xs ε args s → va_X b L xs s s.heap ∧ b < s.heap.size ∧ ¬ e_A ε b) (hc : cells ≤ mc ∧ slots ≤ ms) (hL : L ≤ 2048) (hend : ∀ G K, EL ε (jLaw nm) (lXL b L xs ε) Z mc ms cells slots 799 (lLS b K) [] (wd ε G)) : ∀ m K G, L ≤ 4 * K + 4 * m → RW G K → 4 * K ≤ L + 3 → EL ε (jLaw nm) (lXL b L xs ε) Z mc ms cells slots 18 (lLS b K) [] (wd ε G) := by
  intro m
  induction m with
  | zero =>
    intro K G hm hR hK3
    refine el_step rfl rfl ?_
    refine el_step rfl rfl ?_
    refine el_slen rfl hXX ?_
    refine el_step rfl rfl ?_
    refine el_step rfl rfl ?_
    refine el_if rfl rfl (fun _ => hend G K) (fun z => ?_)
    exfalso
    rw [Int32.lt_iff_toInt_lt, pk_sub_toInt (by omega) (by omega), nI_toInt (by omega)] at z
    omega
  | succ m ih =>
    intro K G hm hR hK3
    refine el_step rfl rfl ?_
    refine el_step rfl rfl ?_
    refine el_slen rfl hXX ?_
    refine el_step rfl rfl ?_
    refine el_step rfl rfl ?_
    refine el_if rfl rfl (fun _ => hend G K) (fun z => ?_)
    rw [Int32.lt_iff_toInt_lt, pk_sub_toInt (by omega) (by omega), nI_toInt (by omega)] at z
    have hK : 4 * K + 4 ≤ L := by omega
    have hn : ∀ G', RW G' (K + 1) → EL ε (jLaw nm) (lXL b L xs ε) Z mc ms cells slots 793 (lLS b K) [] (wd ε G') := by
      intro G' hR'
      refine el_step rfl rfl ?_
      refine el_step rfl rfl ?_
      have e : lLS b (K + 1) = [some (.inr (b, 99)), some (.inr (0, 30)), some (.inr (0, 50)), some (.inl (nI (4 * K) + nI 4))] := by
        rw [nI_add']
        rfl
      have k := ih (K + 1) G' (by omega) hR' (by omega)
      rw [e] at k
      exact k
    refine el_step rfl rfl ?_
    refine el_step rfl rfl ?_
    refine el_sld (j := 4 * K) rfl hXX rfl (by omega) (by omega) ?_
    refine el_step rfl rfl ?_
    refine el_step rfl rfl ?_
    by_cases hx : (xs (4 * K) &&& nI 31).toInt < 0 ∨ 24 < (xs (4 * K) &&& nI 31).toInt
    · exact el_tabOut dL_32 hx (tgt := 793) (by decide) (hn G (hR.mono (Nat.le_succ K)))
    · have hj : ∃ j : Nat, (xs (4 * K) &&& nI 31).toInt = 0 + (j : Int) ∧ j ≤ 24 := ⟨(xs (4 * K) &&& nI 31).toInt.toNat, by omega, by omega⟩
      obtain ⟨j, hj1, hj2⟩ := hj
      have hcs : j = 0 ∨ j = 1 ∨ j = 2 ∨ j = 3 ∨ j = 4 ∨ j = 5 ∨ j = 6 ∨ j = 7 ∨ j = 8 ∨ j = 9 ∨ j = 10 ∨ j = 11 ∨ j = 12 ∨ j = 13 ∨ j = 14 ∨ j = 15 ∨ j = 16 ∨ j = 17 ∨ j = 18 ∨ j = 19 ∨ j = 20 ∨ j = 21 ∨ j = 22 ∨ j = 23 ∨ j = 24 := by omega
      rcases hcs with rfl | rfl | rfl | rfl | rfl | rfl | rfl | rfl | rfl | rfl | rfl | rfl | rfl | rfl | rfl | rfl | rfl | rfl | rfl | rfl | rfl | rfl | rfl | rfl | rfl
      · exact el_tabIn 0 dL_32 hj1 (by decide) rfl (tgt := 148) (by decide) (l_case0 hXX hc hL hK hR hn)
      · exact el_tabIn 1 dL_32 hj1 (by decide) rfl (tgt := 191) (by decide) (l_case1 hXX hc hL hK hR hn)
      · exact el_tabIn 2 dL_32 hj1 (by decide) rfl (tgt := 204) (by decide) (l_case2 hXX hc hL hK hR hn)
      · exact el_tabIn 3 dL_32 hj1 (by decide) rfl (tgt := 247) (by decide) (l_case3 hXX hc hL hK hR hn)
      · exact el_tabIn 4 dL_32 hj1 (by decide) rfl (tgt := 280) (by decide) (l_case4 hXX hc hL hK hR hn)
      · exact el_tabIn 5 dL_32 hj1 (by decide) rfl (tgt := 313) (by decide) (l_case5 hXX hc hL hK hR hn)
      · exact el_tabIn 6 dL_32 hj1 (by decide) rfl (tgt := 336) (by decide) (l_case6 hXX hc hL hK hR hn)
      · exact el_tabIn 7 dL_32 hj1 (by decide) rfl (tgt := 359) (by decide) (l_case7 hXX hc hL hK hR hn)
      · exact el_tabIn 8 dL_32 hj1 (by decide) rfl (tgt := 382) (by decide) (l_case8 hXX hc hL hK hR hn)
      · exact el_tabIn 9 dL_32 hj1 (by decide) rfl (tgt := 405) (by decide) (l_case9 hXX hc hL hK hR hn)
      · exact el_tabIn 10 dL_32 hj1 (by decide) rfl (tgt := 418) (by decide) (l_case10 hXX hc hL hK hR hn)
      · exact el_tabIn 11 dL_32 hj1 (by decide) rfl (tgt := 441) (by decide) (l_case11 hXX hc hL hK hR hn)
      · exact el_tabIn 12 dL_32 hj1 (by decide) rfl (tgt := 454) (by decide) (l_case12 hXX hc hL hK hR hn)
      · exact el_tabIn 13 dL_32 hj1 (by decide) rfl (tgt := 467) (by decide) (l_case13 hXX hc hL hK hR hn)
      · exact el_tabIn 14 dL_32 hj1 (by decide) rfl (tgt := 490) (by decide) (l_case14 hXX hc hL hK hR hn)
      · exact el_tabIn 15 dL_32 hj1 (by decide) rfl (tgt := 523) (by decide) (l_case15 hXX hc hL hK hR hn)
      · exact el_tabIn 16 dL_32 hj1 (by decide) rfl (tgt := 556) (by decide) (l_case16 hXX hc hL hK hR hn)
      · exact el_tabIn 17 dL_32 hj1 (by decide) rfl (tgt := 589) (by decide) (l_case17 hXX hc hL hK hR hn)
      · exact el_tabIn 18 dL_32 hj1 (by decide) rfl (tgt := 622) (by decide) (l_case18 hXX hc hL hK hR hn)
      · exact el_tabIn 19 dL_32 hj1 (by decide) rfl (tgt := 655) (by decide) (l_case19 hXX hc hL hK hR hn)
      · exact el_tabIn 20 dL_32 hj1 (by decide) rfl (tgt := 678) (by decide) (l_case20 hXX hc hL hK hR hn)
      · exact el_tabIn 21 dL_32 hj1 (by decide) rfl (tgt := 711) (by decide) (l_case21 hXX hc hL hK hR hn)
      · exact el_tabIn 22 dL_32 hj1 (by decide) rfl (tgt := 724) (by decide) (l_case22 hXX hc hL hK hR hn)
      · exact el_tabIn 23 dL_32 hj1 (by decide) rfl (tgt := 747) (by decide) (l_case23 hXX hc hL hK hR hn)
      · exact el_tabIn 24 dL_32 hj1 (by decide) rfl (tgt := 770) (by decide) (l_case24 hXX hc hL hK hR hn)
end PF
