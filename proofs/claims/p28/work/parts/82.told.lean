/-! What told tells. -/
section MU
variable {ε : EE} {X : Array Value → State → Prop} {Z : List Frame → Array Value → State → State → Prop} {G G' G0 G1 : GG} {N Y : Nat} {x0 x1 : Option V0} {v : Int64}
def acc (v : Int64) (x : Int32) : Int64 := 31 * v + x.toInt64
def itT (f : Nat → Int64 → Int64) : Nat → Int64 → Int64
  | 0, v => v
  | n + 1, v => f n (itT f n v)
def tf1 (G : GG) (N : Nat) : Nat → Int64 → Int64 := fun k v => acc v (aCount G N k)
def tf2i (G : GG) (l : Nat) : Nat → Int64 → Int64 := fun k v => acc v (aLetter (O G 0) l (2 + k))
def tf2 (G : GG) : Nat → Int64 → Int64 := fun l v => itT (tf2i G l) 6 v
def tf3 (G : GG) (N : Nat) : Nat → Int64 → Int64 := fun w v => acc (acc v (aFrame (O G 0) N w 0)) (aFrame (O G 0) N w 4)
def tf4 (G : GG) : Nat → Int64 → Int64 := fun j v => acc (acc v (aStretch (O G 0 2) (7 * j) 0)) (aStretch (O G 0 2) (7 * j) 2)
def tv1 (G : GG) (N : Nat) : Int64 := itT (tf1 G N) 17 7
def tv2 (G : GG) (N : Nat) : Int64 := itT (tf2 G) N (tv1 G N)
def tv3 (G : GG) (N : Nat) : Int64 := itT (tf3 G N) 8 (tv2 G N)
def toldV (G : GG) (N : Nat) : Int64 := itT (tf4 G) 15 (tv3 G N)
theorem itT_congr {f g : Nat → Int64 → Int64} : ∀ n v, (∀ k v, k < n → f k v = g k v) → itT f n v = itT g n v
  | 0, _, _ => rfl
  | n + 1, v, h => by
    show f n (itT f n v) = g n (itT g n v)
    rw [itT_congr n v (fun k v hk => h k v (by omega)), h n _ (by omega)]
/-- it is a matter of the office and of the two flags -/
theorem toldV_eq (hO : O G' 0 = O G 0) (h22 : ∀ t, t < 2 → G' 0 22 t = G 0 22 t) : toldV G' N = toldV G N := by
  have c16 : cntB (fun c => decide (¬ G' 0 22 c = 0)) 2 = cntB (fun c => decide (¬ G 0 22 c = 0)) 2 := cntB_congr 2 (fun c hc => by rw [h22 c hc])
  have e1 : tv1 G' N = tv1 G N := itT_congr 17 7 (fun k v hk => by
    unfold tf1
    have : aCount G' N k = aCount G N k := by
      unfold aCount
      rw [hO, c16]
      split
      · rfl
      · split <;> first | rfl | (exfalso; omega)
    rw [this])
  have e2 : tf2 G' = tf2 G := by
    funext l v
    unfold tf2
    refine itT_congr 6 v (fun k v hk => ?_)
    unfold tf2i
    rw [hO]
  have e3 : tf3 G' N = tf3 G N := by
    funext w v
    unfold tf3
    rw [hO]
  have e4 : tf4 G' = tf4 G := by
    funext w v
    unfold tf4
    rw [hO]
  unfold toldV tv3 tv2
  rw [e1, e2, e3, e4]
theorem lk1.told (h : lk1 G G') : toldV G' N = toldV G N := toldV_eq (h.oo (by omega)) (fun t _ => by rw [h 0 22 (by omega) (by omega) (by omega)])
abbrev TQ (ε : EE) (G0 : GG) (N : Nat) : Int64 → va_W → Prop := fun r ws' => r = toldV G0 N ∧ ∃ G', ws' = wd ε G' ∧ lk1 G0 G'
abbrev TZ (ε : EE) (G0 : GG) (N : Nat) : List Frame → Array Value → State → State → Prop := fun below args s => MQ below (va_Ql (TQ ε G0 N) (fun u t => e_W ε u t) (e_A ε)) args s 0 0 (e_A ε)
abbrev TE (ε : EE) (G0 : GG) (N : Nat) (lg : List (Nat × Int64)) (lst : List Int64) (pc : Nat) (ls : List (Option V0)) (st : List V0) : Prop := ET ε jL_told (fun _ _ => True) (TZ ε G0 N) 0 0 G0 lg lst 0 0 pc ls st
set_option maxRecDepth 100000 in
set_option maxHeartbeats 4000000 in
theorem tld_l1 (hN : IV (O G0 0) N Y) (K : TE ε G0 N [(1, tv1 G0 N)] [] 31 [some (.inr (0, 30)), none, none, some (.inl (nI 17)), none] []) : ∀ m i, i + m = 17 → TE ε G0 N [(1, itT (tf1 G0 N) i 7)] [] 6 [some (.inr (0, 30)), none, none, some (.inl (nI i)), none] [] := by
  intro m
  induction m with
  | zero =>
    intro i hi
    have : i = 17 := by omega
    subst this
    repeat (first | refine et_step rfl rfl rfl ?_)
    refine et_if rfl rfl (fun _ => ?_) (fun z => absurd (Int32.le_refl _) z)
    exact K
  | succ m ih =>
    intro i hi
    repeat (first | refine et_step rfl rfl rfl ?_)
    refine et_if rfl rfl (fun z => absurd z (nI_ge (by omega) (by omega))) (fun _ => ?_)
    refine et_ldc2 dTold_12 kl_48 ?_
    refine et_lload dTold_15 rfl rfl ?_
    refine et_lmul dTold_16 ?_
    repeat (first | refine et_step rfl rfl rfl ?_)
    refine et_look (L_count hN (k := i) (by omega)) rfl rfl ⟨rfl, rfl, rfl⟩ rfl rfl rfl rfl ⟨Nat.le_refl _, Nat.le_refl _⟩ ?_
    refine et_i2l dTold_22 ?_
    refine et_ladd dTold_23 ?_
    refine et_lstore (a := 1) dTold_24 rfl rfl rfl rfl ?_
    repeat (first | refine et_stepS 6 rfl rfl rfl rfl ?_)
    rw [nI_add']
    exact ih (i + 1) (by omega)
set_option maxRecDepth 100000 in
set_option maxHeartbeats 4000000 in
theorem tld_l2i (hN : IV (O G0 0) N Y) {l : Nat} (hl : l < N) {v0 : Int64} (K : TE ε G0 N [(1, itT (tf2i G0 l) 6 v0)] [] 74 [some (.inr (0, 30)), none, none, some (.inl (nI l)), some (.inl (nI 8))] []) : ∀ m i, i + m = 6 → TE ε G0 N [(1, itT (tf2i G0 l) i v0)] [] 46 [some (.inr (0, 30)), none, none, some (.inl (nI l)), some (.inl (nI (2 + i)))] [] := by
  intro m
  induction m with
  | zero =>
    intro i hi
    have : i = 6 := by omega
    subst this
    repeat (first | refine et_step rfl rfl rfl ?_)
    refine et_if rfl rfl (fun _ => ?_) (fun z => absurd (Int32.le_refl _) z)
    exact K
  | succ m ih =>
    intro i hi
    repeat (first | refine et_step rfl rfl rfl ?_)
    refine et_if rfl rfl (fun z => absurd z (nI_ge (by omega) (by omega))) (fun _ => ?_)
    refine et_ldc2 dTold_53 kl_48 ?_
    refine et_lload dTold_56 rfl rfl ?_
    refine et_lmul dTold_57 ?_
    repeat (first | refine et_step rfl rfl rfl ?_)
    refine et_look (L_letter hN hl (k := 2 + i) (by omega)) rfl rfl ⟨rfl, rfl, rfl⟩ rfl rfl rfl rfl ⟨Nat.le_refl _, Nat.le_refl _⟩ ?_
    refine et_i2l dTold_65 ?_
    refine et_ladd dTold_66 ?_
    refine et_lstore (a := 1) dTold_67 rfl rfl rfl rfl ?_
    repeat (first | refine et_stepS 46 rfl rfl rfl rfl ?_)
    rw [nI_add', Nat.add_assoc 2 i 1]
    exact ih (i + 1) (by omega)
set_option maxRecDepth 100000 in
set_option maxHeartbeats 4000000 in
theorem tld_l2 (hN : IV (O G0 0) N Y) (K : ∀ x1, TE ε G0 N [(1, tv2 G0 N)] [] 80 [some (.inr (0, 30)), none, none, some (.inl (nI N)), x1] []) : ∀ m i, i + m = N → ∀ x1, TE ε G0 N [(1, itT (tf2 G0) i (tv1 G0 N))] [] 33 [some (.inr (0, 30)), none, none, some (.inl (nI i)), x1] [] := by
  have hN120 := hN.1.nle
  intro m
  induction m with
  | zero =>
    intro i hi x1
    have : i = N := by omega
    subst this
    repeat (first | refine et_step rfl rfl rfl ?_)
    refine et_look (L_c6 hN) rfl rfl ⟨rfl, rfl, rfl⟩ rfl rfl rfl rfl ⟨Nat.le_refl _, Nat.le_refl _⟩ ?_
    refine et_if rfl rfl (fun _ => ?_) (fun z => absurd (Int32.le_refl _) z)
    exact K x1
  | succ m ih =>
    intro i hi x1
    repeat (first | refine et_step rfl rfl rfl ?_)
    refine et_look (L_c6 hN) rfl rfl ⟨rfl, rfl, rfl⟩ rfl rfl rfl rfl ⟨Nat.le_refl _, Nat.le_refl _⟩ ?_
    refine et_if rfl rfl (fun z => absurd z (nI_ge (by omega) (by omega))) (fun _ => ?_)
    refine et_step rfl rfl rfl ?_
    refine et_step rfl rfl rfl ?_
    refine tld_l2i hN (l := i) (by omega) ?_ 6 0 rfl
    repeat (first | refine et_stepS 33 rfl rfl rfl rfl ?_)
    rw [nI_add']
    exact ih (i + 1) (by omega) _
set_option maxRecDepth 100000 in
set_option maxHeartbeats 4000000 in
theorem tld_l3 (hN : IV (O G0 0) N Y) (K : TE ε G0 N [(1, tv3 G0 N)] [] 122 [some (.inr (0, 30)), none, none, some (.inl (nI 8)), x1] []) : ∀ m i, i + m = 8 → TE ε G0 N [(1, itT (tf3 G0 N) i (tv2 G0 N))] [] 82 [some (.inr (0, 30)), none, none, some (.inl (nI i)), x1] [] := by
  intro m
  induction m with
  | zero =>
    intro i hi
    have : i = 8 := by omega
    subst this
    repeat (first | refine et_step rfl rfl rfl ?_)
    refine et_if rfl rfl (fun _ => ?_) (fun z => absurd (Int32.le_refl _) z)
    exact K
  | succ m ih =>
    intro i hi
    repeat (first | refine et_step rfl rfl rfl ?_)
    refine et_if rfl rfl (fun z => absurd z (nI_ge (by omega) (by omega))) (fun _ => ?_)
    refine et_ldc2 dTold_88 kl_48 ?_
    refine et_lload dTold_91 rfl rfl ?_
    refine et_lmul dTold_92 ?_
    repeat (first | refine et_step rfl rfl rfl ?_)
    refine et_look (L_frame hN (w := i) (k := 0) (by omega) (by omega)) rfl rfl ⟨rfl, rfl, rfl⟩ rfl rfl rfl rfl ⟨Nat.le_refl _, Nat.le_refl _⟩ ?_
    refine et_i2l dTold_99 ?_
    refine et_ladd dTold_100 ?_
    refine et_lstore (a := 1) dTold_101 rfl rfl rfl rfl ?_
    refine et_ldc2 dTold_102 kl_48 ?_
    refine et_lload dTold_105 rfl rfl ?_
    refine et_lmul dTold_106 ?_
    repeat (first | refine et_step rfl rfl rfl ?_)
    refine et_look (L_frame hN (w := i) (k := 4) (by omega) (by omega)) rfl rfl ⟨rfl, rfl, rfl⟩ rfl rfl rfl rfl ⟨Nat.le_refl _, Nat.le_refl _⟩ ?_
    refine et_i2l dTold_113 ?_
    refine et_ladd dTold_114 ?_
    refine et_lstore (a := 1) dTold_115 rfl rfl rfl rfl ?_
    repeat (first | refine et_stepS 82 rfl rfl rfl rfl ?_)
    rw [nI_add']
    exact ih (i + 1) (by omega)
set_option maxRecDepth 100000 in
set_option maxHeartbeats 4000000 in
theorem tld_l4 (hN : IV (O G0 0) N Y) (K : TE ε G0 N [(1, toldV G0 N)] [] 164 [some (.inr (0, 30)), none, none, some (.inl (nI 105)), x1] []) : ∀ m i, i + m = 15 → TE ε G0 N [(1, itT (tf4 G0) i (tv3 G0 N))] [] 124 [some (.inr (0, 30)), none, none, some (.inl (nI (7 * i))), x1] [] := by
  intro m
  induction m with
  | zero =>
    intro i hi
    have : i = 15 := by omega
    subst this
    repeat (first | refine et_step rfl rfl rfl ?_)
    refine et_if rfl rfl (fun _ => ?_) (fun z => absurd (show nI 100 ≤ nI 105 by decide) z)
    exact K
  | succ m ih =>
    intro i hi
    repeat (first | refine et_step rfl rfl rfl ?_)
    refine et_if rfl rfl (fun z => absurd z (nI_ge (by omega) (by omega))) (fun _ => ?_)
    refine et_ldc2 dTold_130 kl_48 ?_
    refine et_lload dTold_133 rfl rfl ?_
    refine et_lmul dTold_134 ?_
    repeat (first | refine et_step rfl rfl rfl ?_)
    refine et_look (L_stretch (c := 7 * i) (k := 0) (by omega) (by omega)) rfl rfl ⟨rfl, rfl, rfl⟩ rfl rfl rfl rfl ⟨Nat.le_refl _, Nat.le_refl _⟩ ?_
    refine et_i2l dTold_141 ?_
    refine et_ladd dTold_142 ?_
    refine et_lstore (a := 1) dTold_143 rfl rfl rfl rfl ?_
    refine et_ldc2 dTold_144 kl_48 ?_
    refine et_lload dTold_147 rfl rfl ?_
    refine et_lmul dTold_148 ?_
    repeat (first | refine et_step rfl rfl rfl ?_)
    refine et_look (L_stretch (c := 7 * i) (k := 2) (by omega) (by omega)) rfl rfl ⟨rfl, rfl, rfl⟩ rfl rfl rfl rfl ⟨Nat.le_refl _, Nat.le_refl _⟩ ?_
    refine et_i2l dTold_155 ?_
    refine et_ladd dTold_156 ?_
    refine et_lstore (a := 1) dTold_157 rfl rfl rfl rfl ?_
    repeat (first | refine et_stepS 124 rfl rfl rfl rfl ?_)
    rw [nI_add', show 7 * i + 7 = 7 * (i + 1) by omega]
    exact ih (i + 1) (by omega)
set_option maxRecDepth 100000 in
set_option maxHeartbeats 4000000 in
theorem H_told (hN : IV (O G0 0) N Y) : ∀ G, lk1 G0 G → e_CtL ε jL_told 0 0 [.inr (0, 30)] (wd ε G) (TQ ε G0 N) := fun G hG => by
  refine q_met (ls := [some (.inr (0, 30)), none, none, none, none]) okL_told rfl rfl ?_
  have h : TE ε G0 N [] [] 0 [some (.inr (0, 30)), none, none, none, none] [] := by
    refine et_ldc2 dTold_0 kl_46 ?_
    refine et_lstore (a := 1) dTold_3 rfl rfl rfl rfl ?_
    refine et_step rfl rfl rfl ?_
    refine et_step rfl rfl rfl ?_
    refine tld_l1 hN ?_ 17 0 rfl
    refine et_step rfl rfl rfl ?_
    refine et_step rfl rfl rfl ?_
    refine tld_l2 hN (fun x1 => ?_) N 0 (Nat.zero_add N) none
    refine et_step rfl rfl rfl ?_
    refine et_step rfl rfl rfl ?_
    refine tld_l3 hN ?_ 8 0 rfl
    refine et_step rfl rfl rfl ?_
    refine et_step rfl rfl rfl ?_
    refine tld_l4 hN ?_ 15 0 rfl
    refine et_lload dTold_164 rfl rfl ?_
    exact fun G hG => q_lret dTold_165 rfl ⟨Nat.le_refl _, Nat.le_refl _⟩ ⟨rfl, G, rfl, hG⟩
  exact h G hG
end MU
