/-! The reference: rounds. -/
section ML
variable {ε : EE} {J : JT} {pc : Nat} {ls : List (Option V0)} {st : List V0} {G : GG} {r t o x : Nat → Int32} {Q : Option Int32 → GG → Prop}
theorem wkr_of {N l : Nat} (hok : okr r N) (hl : l < N) : ∃ c, c < 100 ∧ ofr r l 0 = nI c ∧ r c = nI (wkr r l) ∧ wkr r l < 8 := by
  obtain ⟨c, w, h1, h2, h3, h4⟩ := hok l hl
  have hwk : wkr r l = w := by unfold wkr; rw [h3, nI_clamp (by omega), h4, nI_clamp (by omega)]
  exact ⟨c, h1, h3, by rw [hwk]; exact h4, by rw [hwk]; exact h2⟩
theorem m_walkOfk {N l : Nat} (hok : okr r N) (hN2 : N ≤ 120) (hl : l < N) : FM ε jX9_walkOf [.inl (nI l)] G r t o x (some (nI (wkr r l))) r t o x := by
  obtain ⟨c, h1, h2, h3, -⟩ := wkr_of hok hl
  rw [← h3]
  exact m_walkOf (by omega) h1 h2
theorem firstFrom_c (p : Nat → Bool) : ∀ k w, firstFrom p k w = -9 ∨ ∃ j, w ≤ j ∧ j < w + k ∧ firstFrom p k w = nI j ∧ p j = true
  | 0, w => Or.inl rfl
  | k + 1, w => by
    unfold firstFrom
    split
    · rename_i h
      exact Or.inr ⟨w, by omega, by omega, rfl, h⟩
    · rcases firstFrom_c p k (w + 1) with h | ⟨j, h1, h2, h3, h4⟩
      · exact Or.inl h
      · exact Or.inr ⟨j, by omega, by omega, h3, h4⟩
def canGoB (r : Nat → Int32) (N c : Nat) : Bool := decide (¬ walkByr r (nI c) = -9) && (decide (r (1011 + c) = 0) && decide (¬ nI (cntB (atr r (nI 1) (walkByr r (nI c))) N) ≤ 0))
theorem m_canGo {N c : Nat} (hN : r 100 = nI N) (hN2 : N ≤ 120) (hc : c < 6) : FM ε jX9_canGo [.inl (nI c)] G r t o x (some (bI (canGoB r N c))) r t o x := by
  refine C2.of (ls := [some (.inr (0, 50)), some (.inl (nI c)), none]) okX9_canGo rfl rfl ?_
  repeat (first | refine e2_step rfl rfl ?_ | refine e2m_get rfl rfl ?_ | refine e2m_ld _ rfl rfl (by omega) ?_)
  refine e2_fi (m_walkBy (nI c)) rfl rfl ⟨rfl, rfl, rfl⟩ rfl rfl rfl (by first | exact hi | decide) rfl rfl rfl ?_
  repeat (first | refine e2_step rfl rfl ?_ | refine e2m_get rfl rfl ?_ | refine e2m_ld _ rfl rfl (by omega) ?_)
  refine e2_if rfl rfl (fun z => ?_) (fun z => ?_)
  · repeat (first | refine e2_step rfl rfl ?_ | refine e2m_get rfl rfl ?_ | refine e2m_ld _ rfl rfl (by omega) ?_)
    refine e2_zret rfl rfl rfl ⟨?_, rfl⟩
    simp [canGoB, z]; rfl
  · repeat (first | refine e2_step rfl rfl ?_ | refine e2m_get rfl rfl ?_ | refine e2m_ld _ rfl rfl (by omega) ?_)
    rw [nI_add']
    repeat (first | refine e2_step rfl rfl ?_ | refine e2m_get rfl rfl ?_ | refine e2m_ld _ rfl rfl (by omega) ?_)
    refine e2_if rfl rfl (fun z2 => ?_) (fun z2 => ?_)
    · repeat (first | refine e2_step rfl rfl ?_ | refine e2m_get rfl rfl ?_ | refine e2m_ld _ rfl rfl (by omega) ?_)
      refine e2_zret rfl rfl rfl ⟨?_, rfl⟩
      simp [canGoB, z2]; rfl
    · repeat (first | refine e2_step rfl rfl ?_ | refine e2m_get rfl rfl ?_ | refine e2m_ld _ rfl rfl (by omega) ?_)
      refine e2_fi (m_countAt hN hN2 (nI 1) (walkByr r (nI c))) rfl rfl ⟨rfl, rfl, rfl⟩ rfl rfl rfl (by first | exact hi | decide) rfl rfl rfl ?_
      refine e2_if rfl rfl (fun z3 => ?_) (fun z3 => ?_)
      · repeat (first | refine e2_step rfl rfl ?_ | refine e2m_get rfl rfl ?_ | refine e2m_ld _ rfl rfl (by omega) ?_)
        refine e2_zret rfl rfl rfl ⟨?_, rfl⟩
        simp [canGoB, z3]; rfl
      · repeat (first | refine e2_step rfl rfl ?_ | refine e2m_get rfl rfl ?_ | refine e2m_ld _ rfl rfl (by omega) ?_)
        refine e2_zret rfl rfl rfl ⟨?_, rfl⟩
        simp only [canGoB, z, z3, Classical.not_not.1 z2, not_false_eq_true, decide_true, Bool.and_self]; rfl
def goR (r : Nat → Int32) (R : List Nat) (c : Int32) : Nat → Nat → Int32
  | 0 => r
  | k + 1 => putsr (goR r R c k) (revD R k) (nI 3) c
theorem goR_same {R : List Nat} {c : Int32} (hR : ∀ a, a ∈ R → a < 120) : ∀ k, k ≤ R.length → same34 r (goR r R c k)
  | 0, _ => same34.rf r
  | k + 1, h => (goR_same hR k (by omega)).tr (same34.puts (hR _ (revD_mem R k (by omega))) _ _)
/-- the letters of a place, by codes and numbers, last first -/
def atR (r : Nat → Int32) (N : Nat) (p w : Int32) : List Nat := layR (gtC r) (atr r p w) N
theorem atR_lt {N : Nat} {p w : Int32} : ∀ a, a ∈ atR r N p w → a < N := fun a h => ((layR_mem _ _ N a).1 h).1
theorem atR_len {N : Nat} {p w : Int32} : (atR r N p w).length ≤ N := by unfold atR; rw [layR_len]; exact cntB_le _ _
def goesn (r : Nat → Int32) (N c : Nat) : Nat := min (atR r N (nI 1) (walkByr r (nI c))).length (r 951).toNatClampNeg
def goesr (r : Nat → Int32) (N c : Nat) : Nat → Int32 := upd (goR r (atR r N (nI 1) (walkByr r (nI c))) (nI c) (goesn r N c)) (1011 + c) (nI 1)
theorem m_goes {N c s : Nat} (hN : r 100 = nI N) (hN2 : N ≤ 120) (hc : c < 6) (hs : r 951 = nI s) (hs2 : s < 1000) : FM ε jX9_goes [.inl (nI c)] G r t o x (some (nI (goesn r N c))) (goesr r N c) t (ordA (atR r N (nI 1) (walkByr r (nI c))) o) x := by
  have hRl : (atR r N (nI 1) (walkByr r (nI c))).length ≤ N := atR_len
  have hRlt : ∀ a, a ∈ atR r N (nI 1) (walkByr r (nI c)) → a < N := atR_lt
  have hlay := fun (G : GG) => m_layByCodes (ε := ε) (G := G) (t := t) (o := o) (x := x) hN hN2 (nI 1) (walkByr r (nI c))
  have hn : goesn r N c = min (atR r N (nI 1) (walkByr r (nI c))).length s := by unfold goesn; rw [hs, nI_clamp (by omega)]
  unfold goesr
  rw [hn]
  change ∀ (G : GG), FM ε jX9_layByCodes [.inl (nI 1), .inl (walkByr r (nI c))] G r t o x (some (nI (atR r N (nI 1) (walkByr r (nI c))).length)) r t (ordA (atR r N (nI 1) (walkByr r (nI c))) o) x at hlay
  generalize hR : atR r N (nI 1) (walkByr r (nI c)) = R at hRl hRlt hlay ⊢
  refine C2.of (ls := [some (.inr (0, 50)), some (.inl (nI c)), none, none]) okX9_goes rfl rfl ?_
  repeat (first | refine e2_step rfl rfl ?_ | refine e2m_get rfl rfl ?_ | refine e2m_ld _ rfl rfl (by omega) ?_)
  refine e2_fi (m_walkBy (nI c)) rfl rfl ⟨rfl, rfl, rfl⟩ rfl rfl rfl (by first | exact hi | decide) rfl rfl rfl ?_
  refine e2_fi (hlay G) rfl rfl ⟨rfl, rfl, rfl⟩ rfl rfl rfl (by first | exact hi | decide) rfl rfl rfl ?_
  repeat (first | refine e2_step rfl rfl ?_ | refine e2m_get rfl rfl ?_ | refine e2m_ld _ rfl rfl (by omega) ?_)
  have hmin : ∀ st', st' = nI (min R.length s) → E2 ε jX9_goes 35 [some (.inr (0, 50)), some (.inl (nI c)), some (.inl (nI R.length)), none] [.inl st'] (mG G r t (ordA R o) x) (fun v' G' => v' = some (nI (min R.length s)) ∧ G' = mG G (upd (goR r R (nI c) (min R.length s)) (1011 + c) (nI 1)) t (ordA R o) x) := by
    intro st' hst
    subst hst
    repeat (first | refine e2_stepS 38 rfl rfl rfl ?_ | refine e2m_getS 38 rfl rfl rfl ?_ | refine e2m_ldS 38 rfl _ rfl rfl (by omega) ?_)
    refine e2_for (min R.length s) (fun k => [some (.inr (0, 50)), some (.inl (nI c)), some (.inl (nI (min R.length s))), some (.inl (nI k))]) (fun k => mG G (goR r R (nI c) k) t (ordA R o) x) (fun k hk K => ?_) (fun M hM => ?_)
    · repeat (first | refine e2_step rfl rfl ?_ | refine e2m_get rfl rfl ?_ | refine e2m_ld _ rfl rfl (by omega) ?_)
      refine e2_if rfl rfl (fun z => absurd z (nI_ge hk (by omega))) (fun _ => ?_)
      repeat (first | refine e2_step rfl rfl ?_ | refine e2m_get rfl rfl ?_ | refine e2m_ld _ rfl rfl (by omega) ?_)
      refine e2m_ldo k rfl rfl (by omega) ?_
      rw [ordA_at (by omega)]
      repeat (first | refine e2_step rfl rfl ?_ | refine e2m_get rfl rfl ?_ | refine e2m_ld _ rfl rfl (by omega) ?_)
      have := hRlt _ (revD_mem R k (by omega))
      refine e2_fv (m_puts (l := revD R k) (by omega) (nI 3) (nI c)) rfl rfl ⟨rfl, rfl, rfl⟩ rfl rfl rfl (by first | exact hi | decide) rfl rfl rfl ?_
      repeat (first | refine e2_stepS 38 rfl rfl rfl ?_ | refine e2m_getS 38 rfl rfl rfl ?_ | refine e2m_ldS 38 rfl _ rfl rfl (by omega) ?_)
      rw [nI_add']
      exact K
    · repeat (first | refine e2_step rfl rfl ?_ | refine e2m_get rfl rfl ?_ | refine e2m_ld _ rfl rfl (by omega) ?_)
      refine e2_if rfl rfl (fun _ => ?_) (fun z => absurd (by rw [hM]; exact Int32.le_refl _) z)
      repeat (first | refine e2_step rfl rfl ?_ | refine e2m_get rfl rfl ?_ | refine e2m_ld _ rfl rfl (by omega) ?_)
      refine e2m_st (1011 + c) rfl (by rw [nI_add']) (by omega) ?_
      repeat (first | refine e2_step rfl rfl ?_ | refine e2m_get rfl rfl ?_ | refine e2m_ld _ rfl rfl (by omega) ?_)
      exact e2_iret rfl rfl ⟨rfl, by rw [hM]⟩
  rw [hs]
  refine e2_if rfl rfl (fun z => ?_) (fun z => ?_)
  · rw [nI_leI (by omega) (by omega)] at z
    repeat (first | refine e2_stepS 35 rfl rfl rfl ?_ | refine e2m_getS 35 rfl rfl rfl ?_ | refine e2m_ldS 35 rfl _ rfl rfl (by omega) ?_)
    rw [hs]
    exact hmin _ (by rw [Nat.min_eq_right z])
  · rw [nI_leI (by omega) (by omega)] at z
    repeat (first | refine e2_stepS 35 rfl rfl rfl ?_ | refine e2m_getS 35 rfl rfl rfl ?_ | refine e2m_ldS 35 rfl _ rfl rfl (by omega) ?_)
    exact hmin _ (by rw [Nat.min_eq_left (by omega)])
def endsr (r : Nat → Int32) (l : Nat) (p : Int32) : Nat → Int32 := seto (putsr r l p (nI 0)) l 6 (r 952)
theorem m_ends {l : Nat} (hl : l < 120) (p : Int32) : FM ε jX9_ends [.inl (nI l), .inl p] G r t o x none (endsr r l p) t o x := by
  refine C2.of (ls := [some (.inr (0, 50)), some (.inl (nI l)), some (.inl p)]) okX9_ends rfl rfl ?_
  repeat (first | refine e2_step rfl rfl ?_ | refine e2m_get rfl rfl ?_ | refine e2m_ld _ rfl rfl (by omega) ?_)
  refine e2_fv (m_puts hl p (nI 0)) rfl rfl ⟨rfl, rfl, rfl⟩ rfl rfl rfl (by first | exact hi | decide) rfl rfl rfl ?_
  repeat (first | refine e2_step rfl rfl ?_ | refine e2m_get rfl rfl ?_ | refine e2m_ld _ rfl rfl (by omega) ?_)
  rw [putsr_hi hl (by omega)]
  refine e2_fv (m_set hl (k := 6) (by decide) (r 952)) rfl rfl ⟨rfl, rfl, rfl⟩ rfl rfl rfl (by first | exact hi | decide) rfl rfl rfl ?_
  exact e2_vret rfl rfl ⟨rfl, rfl⟩
def mis1 (r : Nat → Int32) (l : Nat) : Nat → Int32 := seto (upd r 953 (r 953 + nI 1)) l 2 (ofr r l 2 + nI 1)
def misr (r : Nat → Int32) (l : Nat) : Nat → Int32 := if ofr r l 2 + nI 1 = nI 3 then endsr (mis1 r l) l (nI 5) else putsr (mis1 r l) l (nI 0) (nI 0)
theorem m_misroutes {l : Nat} (hl : l < 120) : FM ε jX9_misroutes [.inl (nI l)] G r t o x none (misr r l) t o x := by
  refine C2.of (ls := [some (.inr (0, 50)), some (.inl (nI l))]) okX9_misroutes rfl rfl ?_
  repeat (first | refine e2_step rfl rfl ?_ | refine e2m_get rfl rfl ?_ | refine e2m_ld _ rfl rfl (by omega) ?_)
  refine e2m_st 953 rfl rfl (by omega) ?_
  have h1 : ofr (upd r 953 (r 953 + nI 1)) l 2 = ofr r l 2 := by unfold ofr upd; rw [if_neg (by omega)]
  repeat (first | refine e2_step rfl rfl ?_ | refine e2m_get rfl rfl ?_ | refine e2m_ld _ rfl rfl (by omega) ?_)
  refine e2_fi (m_of hl (k := 2) (by decide)) rfl rfl ⟨rfl, rfl, rfl⟩ rfl rfl rfl (by first | exact hi | decide) rfl rfl rfl ?_
  rw [h1]
  repeat (first | refine e2_step rfl rfl ?_ | refine e2m_get rfl rfl ?_ | refine e2m_ld _ rfl rfl (by omega) ?_)
  refine e2_fv (m_set hl (k := 2) (by decide) (ofr r l 2 + nI 1)) rfl rfl ⟨rfl, rfl, rfl⟩ rfl rfl rfl (by first | exact hi | decide) rfl rfl rfl ?_
  have h2 : ofr (mis1 r l) l 2 = ofr r l 2 + nI 1 := by unfold mis1 ofr seto upd; rw [if_pos (by omega)]
  change E2 ε jX9_misroutes 26 _ _ (mG G (mis1 r l) t o x) _
  repeat (first | refine e2_step rfl rfl ?_ | refine e2m_get rfl rfl ?_ | refine e2m_ld _ rfl rfl (by omega) ?_)
  refine e2_fi (m_of hl (k := 2) (by decide)) rfl rfl ⟨rfl, rfl, rfl⟩ rfl rfl rfl (by first | exact hi | decide) rfl rfl rfl ?_
  rw [h2]
  repeat (first | refine e2_step rfl rfl ?_ | refine e2m_get rfl rfl ?_ | refine e2m_ld _ rfl rfl (by omega) ?_)
  unfold misr
  refine e2_if rfl rfl (fun z => ?_) (fun z => ?_)
  · rw [if_neg z]
    repeat (first | refine e2_step rfl rfl ?_ | refine e2m_get rfl rfl ?_ | refine e2m_ld _ rfl rfl (by omega) ?_)
    refine e2_fv (m_puts hl (nI 0) (nI 0)) rfl rfl ⟨rfl, rfl, rfl⟩ rfl rfl rfl (by first | exact hi | decide) rfl rfl rfl ?_
    exact e2_vret rfl rfl ⟨rfl, rfl⟩
  · rw [if_pos (Classical.not_not.1 z)]
    repeat (first | refine e2_step rfl rfl ?_ | refine e2m_get rfl rfl ?_ | refine e2m_ld _ rfl rfl (by omega) ?_)
    refine e2_fv (m_ends hl (nI 5)) rfl rfl ⟨rfl, rfl, rfl⟩ rfl rfl rfl (by first | exact hi | decide) rfl rfl rfl ?_
    repeat (first | refine e2_step rfl rfl ?_ | refine e2m_get rfl rfl ?_ | refine e2m_ld _ rfl rfl (by omega) ?_)
    exact e2_vret rfl rfl ⟨rfl, rfl⟩
/-- a round's end, letter by letter: the row, and how many are delivered -/
def comSt (N w can l : Nat) (q : (Nat → Int32) × Nat) : (Nat → Int32) × Nat :=
  if wkr q.1 l = w then (if q.2 < can then (endsr q.1 l (nI 4), q.2 + 1) else (if freer q.1 N w ≤ 0 then putsr q.1 l (nI 2) (nI 0) else putsr q.1 l (nI 1) (nI w), q.2)) else (misr q.1 l, q.2)
def comL (r : Nat → Int32) (N w : Nat) (R : List Nat) (can : Nat) : Nat → (Nat → Int32) × Nat
  | 0 => (r, 0)
  | k + 1 => comSt N w can (revD R k) (comL r N w R can k)
/-- what no step of a round's end touches: codes, classes, hours of coming, and all numbers but the letters' and the misroutes -/
def same0 (r r' : Nat → Int32) : Prop := (∀ j, j < 101 ∨ (941 ≤ j ∧ j ≠ 953) → r' j = r j) ∧ ∀ l k, l < 120 → k < 2 ∨ k = 5 → ofr r' l k = ofr r l k
theorem same0.rf (r : Nat → Int32) : same0 r r := ⟨fun _ _ => rfl, fun _ _ _ _ => rfl⟩
theorem same0.tr {a b c : Nat → Int32} (h : same0 a b) (h2 : same0 b c) : same0 a c := ⟨fun j hj => (h2.1 j hj).trans (h.1 j hj), fun l k hl hk => (h2.2 l k hl hk).trans (h.2 l k hl hk)⟩
theorem same0.of {r' : Nat → Int32} (h : same34 r r') : same0 r r' := ⟨fun j hj => h.1 j (by omega), fun l k hl hk => h.2 l k hl (by omega)⟩
theorem same0.set {l k : Nat} (hl : l < 120) (hk : k = 2 ∨ k = 3 ∨ k = 4 ∨ k = 6) (v : Int32) : same0 r (seto r l k v) := by
  refine ⟨fun j hj => ?_, fun m k' hm hk' => ?_⟩
  · unfold seto upd
    rw [if_neg (by omega)]
  · unfold ofr seto upd
    rw [if_neg (by omega)]
theorem same0.ends {l : Nat} (hl : l < 120) (p : Int32) : same0 r (endsr r l p) := (same0.of (same34.puts hl p (nI 0))).tr (same0.set hl (by omega) _)
theorem same0.mis {l : Nat} (hl : l < 120) : same0 r (misr r l) := by
  have h1 : same0 r (mis1 r l) := by
    refine same0.tr (b := upd r 953 (r 953 + nI 1)) ⟨fun j hj => ?_, fun m k' hm hk' => ?_⟩ (same0.set hl (by omega) _)
    · unfold upd
      rw [if_neg (by omega)]
    · unfold ofr upd
      rw [if_neg (by omega)]
  unfold misr
  split
  · exact h1.tr (same0.ends hl _)
  · exact h1.tr (same0.of (same34.puts hl _ _))
theorem same0.okr {r' : Nat → Int32} {N : Nat} (h : same0 r r') (hN2 : N ≤ 120) (hk : okr r N) : okr r' N := fun l hl => by
  obtain ⟨c, w, h1, h2, h3, h4⟩ := hk l hl
  exact ⟨c, w, h1, h2, by rw [h.2 l 0 (by omega) (by omega)]; exact h3, by rw [h.1 c (by omega)]; exact h4⟩
theorem comSt_same {N w can l : Nat} (hl : l < 120) (q : (Nat → Int32) × Nat) : same0 q.1 (comSt N w can l q).1 := by
  unfold comSt
  split
  · split
    · exact same0.ends hl _
    · dsimp only
      split
      · exact same0.of (same34.puts hl _ _)
      · exact same0.of (same34.puts hl _ _)
  · exact same0.mis hl
theorem comSt_2 {N w can l : Nat} (q : (Nat → Int32) × Nat) : (comSt N w can l q).2 ≤ q.2 + 1 := by
  unfold comSt
  split
  · split
    · exact Nat.le_refl _
    · exact Nat.le_succ _
  · exact Nat.le_succ _
theorem comL_same {N w can : Nat} {R : List Nat} (hR : ∀ a, a ∈ R → a < 120) : ∀ k, k ≤ R.length → same0 r (comL r N w R can k).1
  | 0, _ => same0.rf r
  | k + 1, h => (comL_same hR k (by omega)).tr (comSt_same (hR _ (revD_mem R k (by omega))) _)
theorem comL_2 (r : Nat → Int32) (N w can : Nat) (R : List Nat) : ∀ k, (comL r N w R can k).2 ≤ k
  | 0 => Nat.le_refl _
  | k + 1 => Nat.le_trans (comSt_2 _) (Nat.succ_le_succ (comL_2 r N w can R k))
/-- how many of those in hand belong to the walk; how many of them may be delivered -/
def beln (r : Nat → Int32) (w : Nat) (R : List Nat) : Nat := cntB (fun k => decide (wkr r (revD R k) = w)) R.length
def cann (r : Nat → Int32) (c w : Nat) (R : List Nat) : Nat := if r (963 + 8 * c + w) ≤ nI 1 then (beln r w R + 1) / 2 else beln r w R
def comesr (r : Nat → Int32) (N c w : Nat) : Nat → Int32 :=
  let q := comL r N w (atR r N (nI 3) (nI c)) (cann r c w (atR r N (nI 3) (nI c))) (atR r N (nI 3) (nI c)).length
  upd (upd (upd (upd q.1 (1017 + c) (r (1017 + c) + nI q.2)) (963 + 8 * c + w) (r (963 + 8 * c + w) + nI 1)) 954 (r 954 + nI 1)) (1011 + c) (nI 0)
def comesn (r : Nat → Int32) (N c w : Nat) : Nat := (comL r N w (atR r N (nI 3) (nI c)) (cann r c w (atR r N (nI 3) (nI c))) (atR r N (nI 3) (nI c)).length).2
set_option maxHeartbeats 2000000 in
theorem m_comes {N c w : Nat} (hN : r 100 = nI N) (hN2 : N ≤ 120) (hok : okr r N) (hc : c < 6) (hw : walkByr r (nI c) = nI w) (hw8 : w < 8) : FM ε jX9_comes [.inl (nI c)] G r t o x (some (nI (comesn r N c w))) (comesr r N c w) t (ordA (atR r N (nI 3) (nI c)) o) x := by
  have hRl : (atR r N (nI 3) (nI c)).length ≤ N := atR_len
  have hRlt : ∀ a, a ∈ atR r N (nI 3) (nI c) → a < N := atR_lt
  have hlay := fun (G : GG) => m_layByCodes (ε := ε) (G := G) (t := t) (o := o) (x := x) hN hN2 (nI 3) (nI c)
  change ∀ (G : GG), FM ε jX9_layByCodes [.inl (nI 3), .inl (nI c)] G r t o x (some (nI (atR r N (nI 3) (nI c)).length)) r t (ordA (atR r N (nI 3) (nI c)) o) x at hlay
  unfold comesn comesr
  generalize hR : atR r N (nI 3) (nI c) = R at hRl hRlt hlay ⊢
  refine C2.of (ls := [some (.inr (0, 50)), some (.inl (nI c)), none, none, none, none, none, none, none]) okX9_comes rfl rfl ?_
  repeat (first | refine e2_step rfl rfl ?_ | refine e2m_get rfl rfl ?_ | refine e2m_ld _ rfl rfl (by omega) ?_)
  refine e2_fi (m_walkBy (nI c)) rfl rfl ⟨rfl, rfl, rfl⟩ rfl rfl rfl (by first | exact hi | decide) rfl rfl rfl ?_
  rw [hw]
  repeat (first | refine e2_step rfl rfl ?_ | refine e2m_get rfl rfl ?_ | refine e2m_ld _ rfl rfl (by omega) ?_)
  refine e2_fi (hlay G) rfl rfl ⟨rfl, rfl, rfl⟩ rfl rfl rfl (by first | exact hi | decide) rfl rfl rfl ?_
  repeat (first | refine e2_stepS 19 rfl rfl rfl ?_ | refine e2m_getS 19 rfl rfl rfl ?_ | refine e2m_ldS 19 rfl _ rfl rfl (by omega) ?_)
  refine e2_for R.length (fun k => [some (.inr (0, 50)), some (.inl (nI c)), some (.inl (nI w)), some (.inl (nI R.length)), some (.inl (nI (cntB (fun k => decide (wkr r (revD R k) = w)) k))), some (.inl (nI k)), none, none, none]) (fun k => mG G r t (ordA R o) x) (fun k hk K => ?_) (fun M hM => ?_)
  · repeat (first | refine e2_step rfl rfl ?_ | refine e2m_get rfl rfl ?_ | refine e2m_ld _ rfl rfl (by omega) ?_)
    refine e2_if rfl rfl (fun z => absurd z (nI_ge hk (by omega))) (fun _ => ?_)
    repeat (first | refine e2_step rfl rfl ?_ | refine e2m_get rfl rfl ?_ | refine e2m_ld _ rfl rfl (by omega) ?_)
    refine e2m_ldo k rfl rfl (by omega) ?_
    rw [ordA_at hk]
    have hlk := hRlt _ (revD_mem R k hk)
    refine e2_fi (m_walkOfk hok hN2 hlk) rfl rfl ⟨rfl, rfl, rfl⟩ rfl rfl rfl (by first | exact hi | decide) rfl rfl rfl ?_
    repeat (first | refine e2_step rfl rfl ?_ | refine e2m_get rfl rfl ?_ | refine e2m_ld _ rfl rfl (by omega) ?_)
    simp only [cntB] at K
    have hw9 := (wkr_of hok hlk).choose_spec.2.2.2
    refine e2_if rfl rfl (fun z => ?_) (fun z => ?_)
    · rw [nI_eq (by omega) (by omega)] at z
      simp only [z, decide_false, Bool.false_eq_true, if_false] at K
      repeat (first | refine e2_stepS 19 rfl rfl rfl ?_ | refine e2m_getS 19 rfl rfl rfl ?_ | refine e2m_ldS 19 rfl _ rfl rfl (by omega) ?_)
      rw [nI_add', nI_add']
      exact K
    · rw [nI_eq (by omega) (by omega), Classical.not_not] at z
      simp only [z, decide_true, if_true] at K
      repeat (first | refine e2_stepS 19 rfl rfl rfl ?_ | refine e2m_getS 19 rfl rfl rfl ?_ | refine e2m_ldS 19 rfl _ rfl rfl (by omega) ?_)
      rw [nI_add', nI_add']
      exact K
  · repeat (first | refine e2_step rfl rfl ?_ | refine e2m_get rfl rfl ?_ | refine e2m_ld _ rfl rfl (by omega) ?_)
    refine e2_if rfl rfl (fun _ => ?_) (fun z => absurd (by rw [hM]; exact Int32.le_refl _) z)
    have hbel : cntB (fun k => decide (wkr r (revD R k) = w)) M = beln r w R := by rw [hM]; rfl
    have hbl : beln r w R ≤ 120 := Nat.le_trans (cntB_le _ _) (by omega)
    rw [hbel]
    repeat (first | refine e2_step rfl rfl ?_ | refine e2m_get rfl rfl ?_ | refine e2m_ld _ rfl rfl (by omega) ?_)
    rw [pk_mul, nI_add', nI_add']
    repeat (first | refine e2_step rfl rfl ?_ | refine e2m_get rfl rfl ?_ | refine e2m_ld _ rfl rfl (by omega) ?_)
    have hgo : ∀ cv, cv = nI (cann r c w R) → E2 ε jX9_comes 86 [some (.inr (0, 50)), some (.inl (nI c)), some (.inl (nI w)), some (.inl (nI R.length)), none, none, none, none, none] [.inl cv] (mG G r t (ordA R o) x) (fun v' G' => v' = some (nI (comL r N w R (cann r c w R) R.length).2) ∧ G' = mG G (let q := comL r N w R (cann r c w R) R.length
        upd (upd (upd (upd q.1 (1017 + c) (r (1017 + c) + nI q.2)) (963 + 8 * c + w) (r (963 + 8 * c + w) + nI 1)) 954 (r 954 + nI 1)) (1011 + c) (nI 0)) t (ordA R o) x) := by
      intro cv hcv
      subst hcv
      generalize hcan : cann r c w R = can
      have hcan2 : can ≤ 1000 := by
        rw [← hcan]
        unfold cann
        split <;> omega
      repeat (first | refine e2_stepS 94 rfl rfl rfl ?_ | refine e2m_getS 94 rfl rfl rfl ?_ | refine e2m_ldS 94 rfl _ rfl rfl (by omega) ?_)
      refine e2_for R.length (fun k => [some (.inr (0, 50)), some (.inl (nI c)), some (.inl (nI w)), some (.inl (nI R.length)), none, some (.inl (nI can)), some (.inl (nI (comL r N w R can k).2)), some (.inl (nI k)), none]) (fun k => mG G (comL r N w R can k).1 t (ordA R o) x) (fun k hk K => ?_) (fun M hM => ?_)
      · have hsm := comL_same (r := r) (N := N) (w := w) (can := can) (R := R) (fun a h => by have := hRlt a h; omega) k (by omega)
        have h2 := comL_2 r N w can R k
        have hlk := hRlt _ (revD_mem R k hk)
        have hok2 := hsm.okr hN2 hok
        have hN' : (comL r N w R can k).1 100 = nI N := by rw [hsm.1 100 (by omega)]; exact hN
        simp only [comL, comSt] at K
        generalize hq : comL r N w R can k = q at K hok2 h2 hN' ⊢
        obtain ⟨rk, d⟩ := q
        dsimp only at K hok2 h2 hN' ⊢
        have hw9 := (wkr_of hok2 hlk).choose_spec.2.2.2
        repeat (first | refine e2_step rfl rfl ?_ | refine e2m_get rfl rfl ?_ | refine e2m_ld _ rfl rfl (by omega) ?_)
        refine e2_if rfl rfl (fun z => absurd z (nI_ge hk (by omega))) (fun _ => ?_)
        repeat (first | refine e2_step rfl rfl ?_ | refine e2m_get rfl rfl ?_ | refine e2m_ld _ rfl rfl (by omega) ?_)
        refine e2m_ldo k rfl rfl (by omega) ?_
        rw [ordA_at hk]
        repeat (first | refine e2_step rfl rfl ?_ | refine e2m_get rfl rfl ?_ | refine e2m_ld _ rfl rfl (by omega) ?_)
        refine e2_fi (m_walkOfk hok2 hN2 hlk) rfl rfl ⟨rfl, rfl, rfl⟩ rfl rfl rfl (by first | exact hi | decide) rfl rfl rfl ?_
        repeat (first | refine e2_step rfl rfl ?_ | refine e2m_get rfl rfl ?_ | refine e2m_ld _ rfl rfl (by omega) ?_)
        refine e2_if rfl rfl (fun z => ?_) (fun z => ?_)
        · rw [nI_eq (by omega) (by omega)] at z
          rw [if_pos z] at K
          repeat (first | refine e2_step rfl rfl ?_ | refine e2m_get rfl rfl ?_ | refine e2m_ld _ rfl rfl (by omega) ?_)
          refine e2_if rfl rfl (fun z2 => ?_) (fun z2 => ?_)
          · rw [nI_leI (by omega) (by omega)] at z2
            rw [if_neg (by omega)] at K
            dsimp only at K
            repeat (first | refine e2_step rfl rfl ?_ | refine e2m_get rfl rfl ?_ | refine e2m_ld _ rfl rfl (by omega) ?_)
            refine e2_fi (m_free hN' hN2 hw8) rfl rfl ⟨rfl, rfl, rfl⟩ rfl rfl rfl (by first | exact hi | decide) rfl rfl rfl ?_
            refine e2_if rfl rfl (fun z3 => ?_) (fun z3 => ?_)
            · have hf : freer rk N w ≤ 0 := z3
              rw [if_pos hf] at K
              repeat (first | refine e2_step rfl rfl ?_ | refine e2m_get rfl rfl ?_ | refine e2m_ld _ rfl rfl (by omega) ?_)
              refine e2_fv (m_puts (l := revD R k) (by omega) (nI 2) (nI 0)) rfl rfl ⟨rfl, rfl, rfl⟩ rfl rfl rfl (by first | exact hi | decide) rfl rfl rfl ?_
              repeat (first | refine e2_stepS 94 rfl rfl rfl ?_ | refine e2m_getS 94 rfl rfl rfl ?_ | refine e2m_ldS 94 rfl _ rfl rfl (by omega) ?_)
              rw [nI_add']
              exact e2_dropK K ⟨rfl, rfl, rfl, rfl, rfl, rfl, rfl, trivial⟩
            · rw [if_neg z3] at K
              repeat (first | refine e2_step rfl rfl ?_ | refine e2m_get rfl rfl ?_ | refine e2m_ld _ rfl rfl (by omega) ?_)
              refine e2_fv (m_puts (l := revD R k) (by omega) (nI 1) (nI w)) rfl rfl ⟨rfl, rfl, rfl⟩ rfl rfl rfl (by first | exact hi | decide) rfl rfl rfl ?_
              repeat (first | refine e2_stepS 94 rfl rfl rfl ?_ | refine e2m_getS 94 rfl rfl rfl ?_ | refine e2m_ldS 94 rfl _ rfl rfl (by omega) ?_)
              rw [nI_add']
              exact e2_dropK K ⟨rfl, rfl, rfl, rfl, rfl, rfl, rfl, trivial⟩
          · rw [nI_leI (by omega) (by omega)] at z2
            rw [if_pos (by omega)] at K
            dsimp only at K
            repeat (first | refine e2_step rfl rfl ?_ | refine e2m_get rfl rfl ?_ | refine e2m_ld _ rfl rfl (by omega) ?_)
            refine e2_fv (m_ends (l := revD R k) (by omega) (nI 4)) rfl rfl ⟨rfl, rfl, rfl⟩ rfl rfl rfl (by first | exact hi | decide) rfl rfl rfl ?_
            repeat (first | refine e2_stepS 94 rfl rfl rfl ?_ | refine e2m_getS 94 rfl rfl rfl ?_ | refine e2m_ldS 94 rfl _ rfl rfl (by omega) ?_)
            rw [nI_add', nI_add']
            exact e2_dropK K ⟨rfl, rfl, rfl, rfl, rfl, rfl, rfl, trivial⟩
        · rw [nI_eq (by omega) (by omega)] at z
          rw [if_neg z] at K
          repeat (first | refine e2_step rfl rfl ?_ | refine e2m_get rfl rfl ?_ | refine e2m_ld _ rfl rfl (by omega) ?_)
          refine e2_fv (m_misroutes (l := revD R k) (by omega)) rfl rfl ⟨rfl, rfl, rfl⟩ rfl rfl rfl (by first | exact hi | decide) rfl rfl rfl ?_
          repeat (first | refine e2_stepS 94 rfl rfl rfl ?_ | refine e2m_getS 94 rfl rfl rfl ?_ | refine e2m_ldS 94 rfl _ rfl rfl (by omega) ?_)
          rw [nI_add']
          exact e2_dropK K ⟨rfl, rfl, rfl, rfl, rfl, rfl, rfl, trivial⟩
      · subst hM
        have hsm := comL_same (r := r) (N := N) (w := w) (can := can) (R := R) (fun a h => by have := hRlt a h; omega) R.length (Nat.le_refl _)
        dsimp only
        generalize comL r N w R can R.length = q at hsm ⊢
        obtain ⟨rk, d⟩ := q
        dsimp only at hsm ⊢
        repeat (first | refine e2_step rfl rfl ?_ | refine e2m_get rfl rfl ?_ | refine e2m_ld _ rfl rfl (by omega) ?_)
        refine e2_if rfl rfl (fun _ => ?_) (fun z => absurd (Int32.le_refl _) z)
        repeat (first | refine e2_step rfl rfl ?_ | refine e2m_get rfl rfl ?_ | refine e2m_ld _ rfl rfl (by omega) ?_)
        rw [nI_add']
        repeat (first | refine e2_step rfl rfl ?_ | refine e2m_get rfl rfl ?_ | refine e2m_ld _ rfl rfl (by omega) ?_)
        refine e2m_st (1017 + c) rfl rfl (by omega) ?_
        rw [hsm.1 (1017 + c) (by omega)]
        repeat (first | refine e2_step rfl rfl ?_ | refine e2m_get rfl rfl ?_ | refine e2m_ld _ rfl rfl (by omega) ?_)
        rw [pk_mul, nI_add', nI_add']
        repeat (first | refine e2_step rfl rfl ?_ | refine e2m_get rfl rfl ?_ | refine e2m_ld _ rfl rfl (by omega) ?_)
        refine e2m_st (963 + 8 * c + w) rfl rfl (by omega) ?_
        have e1 : upd rk (1017 + c) (r (1017 + c) + nI d) (963 + 8 * c + w) = r (963 + 8 * c + w) := by
          unfold upd
          rw [if_neg (by omega), hsm.1 _ (by omega)]
        rw [e1]
        repeat (first | refine e2_step rfl rfl ?_ | refine e2m_get rfl rfl ?_ | refine e2m_ld _ rfl rfl (by omega) ?_)
        refine e2m_st 954 rfl rfl (by omega) ?_
        have e2 : upd (upd rk (1017 + c) (r (1017 + c) + nI d)) (963 + 8 * c + w) (r (963 + 8 * c + w) + nI 1) 954 = r 954 := by
          unfold upd
          rw [if_neg (by omega), if_neg (by omega), hsm.1 _ (by omega)]
        rw [e2]
        repeat (first | refine e2_step rfl rfl ?_ | refine e2m_get rfl rfl ?_ | refine e2m_ld _ rfl rfl (by omega) ?_)
        refine e2m_st (1011 + c) rfl (by rw [nI_add']) (by omega) ?_
        repeat (first | refine e2_step rfl rfl ?_ | refine e2m_get rfl rfl ?_ | refine e2m_ld _ rfl rfl (by omega) ?_)
        exact e2_iret rfl rfl ⟨rfl, rfl⟩
    refine e2_if rfl rfl (fun z => ?_) (fun z => ?_)
    · have hz : r (963 + 8 * c + w) ≤ nI 1 := z
      repeat (first | refine e2_step rfl rfl ?_ | refine e2m_get rfl rfl ?_ | refine e2m_ld _ rfl rfl (by omega) ?_)
      rw [nI_add']
      refine e2_div rfl (by decide) ?_
      refine e2_dropK (hgo _ ?_) ⟨rfl, rfl, rfl, rfl, trivial⟩
      rw [pk_div (by omega) (by decide) (by decide)]
      unfold cann
      rw [if_pos hz]
    · have hz : ¬ r (963 + 8 * c + w) ≤ nI 1 := z
      repeat (first | refine e2_stepS 86 rfl rfl rfl ?_ | refine e2m_getS 86 rfl rfl rfl ?_ | refine e2m_ldS 86 rfl _ rfl rfl (by omega) ?_)
      refine e2_dropK (hgo _ ?_) ⟨rfl, rfl, rfl, rfl, trivial⟩
      unfold cann
      rw [if_neg hz]
end ML
