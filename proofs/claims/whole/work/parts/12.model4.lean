/-! The reference: a letter is sorted, an hour passes. -/
section MK
variable {ε : EE} {J : JT} {pc : Nat} {ls : List (Option V0)} {st : List V0} {G : GG} {r t o x : Nat → Int32} {Q : Option Int32 → GG → Prop}
theorem putsr_o {l : Nat} {a b : Int32} {j : Nat} (h : j ≠ 104 + 7 * l) (h2 : j ≠ 105 + 7 * l) : putsr r l a b j = r j := by
  unfold putsr seto upd
  rw [if_neg (by omega), if_neg (by omega)]
theorem putsr_lo {l : Nat} {a b : Int32} {j : Nat} (h : j < 104) : putsr r l a b j = r j := putsr_o (by omega) (by omega)
theorem putsr_hi {l : Nat} {a b : Int32} {j : Nat} (hl : l < 120) (h : 941 ≤ j) : putsr r l a b j = r j := putsr_o (by omega) (by omega)
theorem putsr_of {l : Nat} {a b : Int32} {m k : Nat} (hk : k < 3 ∨ k = 5 ∨ k = 6) : ofr (putsr r l a b) m k = ofr r m k := by
  unfold ofr
  exact putsr_o (by omega) (by omega)
theorem putsr_3 {l : Nat} {a b : Int32} {m : Nat} : ofr (putsr r l a b) m 3 = if m = l then a else ofr r m 3 := by
  unfold ofr putsr seto upd
  rw [if_neg (by omega)]
  by_cases h : m = l
  · rw [if_pos (by omega), if_pos h]
  · rw [if_neg (by omega), if_neg h]
theorem putsr_4 {l : Nat} {a b : Int32} {m : Nat} : ofr (putsr r l a b) m 4 = if m = l then b else ofr r m 4 := by
  unfold ofr putsr seto upd
  by_cases h : m = l
  · rw [if_pos (by omega), if_pos h]
  · rw [if_neg (by omega), if_neg (by omega), if_neg h]
theorem lastB_c (p : Nat → Bool) : ∀ n, lastB p n = -9 ∨ ∃ k, k < n ∧ lastB p n = nI k ∧ p k = true
  | 0 => Or.inl rfl
  | n + 1 => by
    unfold lastB
    split
    · rename_i h
      exact Or.inr ⟨n, by omega, rfl, h⟩
    · rcases lastB_c p n with h | ⟨k, h1, h2, h3⟩
      · exact Or.inl h
      · exact Or.inr ⟨k, by omega, h2, h3⟩
theorem nI_n9 {k : Nat} (h : k < 2 ^ 31) : ¬ nI k = -9 := by
  intro z
  have h1 := nI_toInt h
  rw [z] at h1
  have h2 : (-9 : Int32).toInt = -9 := by decide
  omega
/-- the walk to which letter l belongs -/
def wkr (r : Nat → Int32) (l : Nat) : Nat := (r (ofr r l 0).toNatClampNeg).toNatClampNeg
/-- codes and walks of the letters below N are in range -/
def okr (r : Nat → Int32) (N : Nat) : Prop := ∀ l, l < N → ∃ c w, c < 100 ∧ w < 8 ∧ ofr r l 0 = nI c ∧ r c = nI w
theorem okr_puts {N l : Nat} {a b : Int32} (h : okr r N) : okr (putsr r l a b) N := fun m hm => by
  obtain ⟨c, w, h1, h2, h3, h4⟩ := h m hm
  exact ⟨c, w, h1, h2, by rw [putsr_of (by omega)]; exact h3, by rw [putsr_lo (by omega)]; exact h4⟩
def sort1 (r : Nat → Int32) (N l w : Nat) : Nat → Int32 :=
  if r 949 = nI 1 then (if ofr r l 1 = nI 1 then (if lastB (secB r w) N = -9 then r else putsr (putsr r (lastB (secB r w) N).toNatClampNeg (nI 2) (nI 0)) l (nI 1) (nI w)) else r) else r
def sort2 (r : Nat → Int32) (N l : Nat) : Nat → Int32 :=
  if r 949 = nI 2 then (if (bestF (freer r N) 8).1 = -9 then r else putsr r l (nI 1) (bestF (freer r N) 8).1) else r
def sortsr (r : Nat → Int32) (N l : Nat) : Nat → Int32 :=
  if freer r N (wkr r l) ≤ 0 then sort2 (sort1 (putsr r l (nI 2) (nI 0)) N l (wkr r l)) N l else putsr r l (nI 1) (nI (wkr r l))
theorem m_sort2 {N l : Nat} (hN : r 100 = nI N) (hN2 : N ≤ 120) (hl : l < 120) (w : Int32) : E2 ε jX9_sorts 79 [some (.inr (0, 50)), some (.inl (nI l)), some (.inl w)] [] (mG G r t o x) (fun v' G' => v' = none ∧ G' = mG G (sort2 r N l) t o x) := by
  repeat (first | refine e2_step rfl rfl ?_ | refine e2m_get rfl rfl ?_ | refine e2m_ld _ rfl rfl (by omega) ?_)
  unfold sort2
  refine e2_if rfl rfl (fun c => ?_) (fun c => ?_)
  · rw [if_neg c]
    exact e2_vret rfl rfl ⟨rfl, rfl⟩
  · rw [if_pos (Classical.not_not.1 c)]
    repeat (first | refine e2_step rfl rfl ?_ | refine e2m_get rfl rfl ?_ | refine e2m_ld _ rfl rfl (by omega) ?_)
    refine e2_fi (m_freest hN hN2) rfl rfl ⟨rfl, rfl, rfl⟩ rfl rfl rfl (by first | exact hi | decide) rfl rfl rfl ?_
    repeat (first | refine e2_step rfl rfl ?_ | refine e2m_get rfl rfl ?_ | refine e2m_ld _ rfl rfl (by omega) ?_)
    refine e2_if rfl rfl (fun c2 => ?_) (fun c2 => ?_)
    · rw [if_pos c2]
      exact e2_vret rfl rfl ⟨rfl, rfl⟩
    · rw [if_neg c2]
      repeat (first | refine e2_step rfl rfl ?_ | refine e2m_get rfl rfl ?_ | refine e2m_ld _ rfl rfl (by omega) ?_)
      refine e2_fi (m_freest hN hN2) rfl rfl ⟨rfl, rfl, rfl⟩ rfl rfl rfl (by first | exact hi | decide) rfl rfl rfl ?_
      refine e2_fv (m_puts hl (nI 1) (bestF (freer r N) 8).1) rfl rfl ⟨rfl, rfl, rfl⟩ rfl rfl rfl (by first | exact hi | decide) rfl rfl rfl ?_
      exact e2_vret rfl rfl ⟨rfl, rfl⟩
theorem m_sorts {N l : Nat} (hN : r 100 = nI N) (hN2 : N ≤ 120) (hl : l < N) (hok : okr r N) : FM ε jX9_sorts [.inl (nI l)] G r t o x none (sortsr r N l) t o x := by
  obtain ⟨c, w, hc, hw, h1, h2⟩ := hok l hl
  have hwk : wkr r l = w := by unfold wkr; rw [h1, nI_clamp (by omega), h2, nI_clamp (by omega)]
  have hl2 : l < 120 := by omega
  unfold sortsr
  rw [hwk]
  refine C2.of (ls := [some (.inr (0, 50)), some (.inl (nI l)), none]) okX9_sorts rfl rfl ?_
  repeat (first | refine e2_step rfl rfl ?_ | refine e2m_get rfl rfl ?_ | refine e2m_ld _ rfl rfl (by omega) ?_)
  refine e2_fi (m_walkOf hl2 hc h1) rfl rfl ⟨rfl, rfl, rfl⟩ rfl rfl rfl (by first | exact hi | decide) rfl rfl rfl ?_
  repeat (first | refine e2_step rfl rfl ?_ | refine e2m_get rfl rfl ?_ | refine e2m_ld _ rfl rfl (by omega) ?_)
  rw [h2]
  refine e2_fi (m_free hN hN2 hw) rfl rfl ⟨rfl, rfl, rfl⟩ rfl rfl rfl (by first | exact hi | decide) rfl rfl rfl ?_
  refine e2_if rfl rfl (fun z => ?_) (fun z => ?_)
  · rw [if_pos z]
    repeat (first | refine e2_step rfl rfl ?_ | refine e2m_get rfl rfl ?_ | refine e2m_ld _ rfl rfl (by omega) ?_)
    refine e2_fv (m_puts hl2 (nI 2) (nI 0)) rfl rfl ⟨rfl, rfl, rfl⟩ rfl rfl rfl (by first | exact hi | decide) rfl rfl rfl ?_
    have hN' : putsr r l (nI 2) (nI 0) 100 = nI N := by rw [putsr_lo (by omega)]; exact hN
    generalize hr1 : putsr r l (nI 2) (nI 0) = r1 at hN' ⊢
    unfold sort1
    repeat (first | refine e2_step rfl rfl ?_ | refine e2m_get rfl rfl ?_ | refine e2m_ld _ rfl rfl (by omega) ?_)
    refine e2_if rfl rfl (fun c1 => ?_) (fun c1 => ?_)
    · rw [if_neg c1]
      exact m_sort2 hN' hN2 hl2 _
    · rw [if_pos (Classical.not_not.1 c1)]
      repeat (first | refine e2_step rfl rfl ?_ | refine e2m_get rfl rfl ?_ | refine e2m_ld _ rfl rfl (by omega) ?_)
      refine e2_fi (m_of hl2 (k := 1) (by decide)) rfl rfl ⟨rfl, rfl, rfl⟩ rfl rfl rfl (by first | exact hi | decide) rfl rfl rfl ?_
      repeat (first | refine e2_step rfl rfl ?_ | refine e2m_get rfl rfl ?_ | refine e2m_ld _ rfl rfl (by omega) ?_)
      refine e2_if rfl rfl (fun c2 => ?_) (fun c2 => ?_)
      · rw [if_neg c2]
        exact m_sort2 hN' hN2 hl2 _
      · rw [if_pos (Classical.not_not.1 c2)]
        repeat (first | refine e2_step rfl rfl ?_ | refine e2m_get rfl rfl ?_ | refine e2m_ld _ rfl rfl (by omega) ?_)
        refine e2_fi (m_lastSecond hN' hN2) rfl rfl ⟨rfl, rfl, rfl⟩ rfl rfl rfl (by first | exact hi | decide) rfl rfl rfl ?_
        repeat (first | refine e2_step rfl rfl ?_ | refine e2m_get rfl rfl ?_ | refine e2m_ld _ rfl rfl (by omega) ?_)
        refine e2_if rfl rfl (fun c3 => ?_) (fun c3 => ?_)
        · rw [if_pos c3]
          exact m_sort2 hN' hN2 hl2 _
        · rw [if_neg c3]
          repeat (first | refine e2_step rfl rfl ?_ | refine e2m_get rfl rfl ?_ | refine e2m_ld _ rfl rfl (by omega) ?_)
          refine e2_fi (m_lastSecond hN' hN2) rfl rfl ⟨rfl, rfl, rfl⟩ rfl rfl rfl (by first | exact hi | decide) rfl rfl rfl ?_
          rcases lastB_c (secB r1 w) N with h9 | ⟨k, k1, k2, -⟩
          · exact absurd h9 c3
          · rw [k2, nI_clamp (by omega)]
            repeat (first | refine e2_step rfl rfl ?_ | refine e2m_get rfl rfl ?_ | refine e2m_ld _ rfl rfl (by omega) ?_)
            refine e2_fv (m_puts (l := k) (by omega) (nI 2) (nI 0)) rfl rfl ⟨rfl, rfl, rfl⟩ rfl rfl rfl (by first | exact hi | decide) rfl rfl rfl ?_
            repeat (first | refine e2_step rfl rfl ?_ | refine e2m_get rfl rfl ?_ | refine e2m_ld _ rfl rfl (by omega) ?_)
            refine e2_fv (m_puts hl2 (nI 1) (nI w)) rfl rfl ⟨rfl, rfl, rfl⟩ rfl rfl rfl (by first | exact hi | decide) rfl rfl rfl ?_
            exact m_sort2 (by rw [putsr_lo (by omega), putsr_lo (by omega)]; exact hN') hN2 hl2 _
  · rw [if_neg z]
    repeat (first | refine e2_step rfl rfl ?_ | refine e2m_get rfl rfl ?_ | refine e2m_ld _ rfl rfl (by omega) ?_)
    refine e2_fv (m_puts hl2 (nI 1) (nI w)) rfl rfl ⟨rfl, rfl, rfl⟩ rfl rfl rfl (by first | exact hi | decide) rfl rfl rfl ?_
    exact e2_vret rfl rfl ⟨rfl, rfl⟩
/-- letters of the overflow below n go to the bag -/
def ovr (r : Nat → Int32) : Nat → Nat → Int32
  | 0 => r
  | n + 1 => if ofr (ovr r n) n 3 = nI 2 then putsr (ovr r n) n (nI 0) (nI 0) else ovr r n
/-- the first k of an order are sorted -/
def srts (r : Nat → Int32) (N : Nat) (R : List Nat) : Nat → Nat → Int32
  | 0 => r
  | k + 1 => sortsr (srts r N R k) N (revD R k)
def hoursr (r : Nat → Int32) (N : Nat) : Nat → Int32 := srts (ovr (upd r 952 (r 952 + nI 1)) N) N (bagR (ovr (upd r 952 (r 952 + nI 1)) N) N) (min (bagR (ovr (upd r 952 (r 952 + nI 1)) N) N).length (r 950).toNatClampNeg)
/-- what no step of sorting touches: all but places and where letters are -/
def same34 (r r' : Nat → Int32) : Prop := (∀ j, j < 101 ∨ 941 ≤ j → r' j = r j) ∧ ∀ l k, l < 120 → k < 3 ∨ k = 5 ∨ k = 6 → ofr r' l k = ofr r l k
theorem same34.rf (r : Nat → Int32) : same34 r r := ⟨fun _ _ => rfl, fun _ _ _ _ => rfl⟩
theorem same34.tr {a b c : Nat → Int32} (h : same34 a b) (h2 : same34 b c) : same34 a c := ⟨fun j hj => (h2.1 j hj).trans (h.1 j hj), fun l k hl hk => (h2.2 l k hl hk).trans (h.2 l k hl hk)⟩
theorem same34.puts {l : Nat} (hl : l < 120) (a b : Int32) : same34 r (putsr r l a b) := ⟨fun j hj => by
  rcases hj with h | h
  · exact putsr_lo (by omega)
  · exact putsr_hi hl h, fun m k _ hk => putsr_of hk⟩
theorem same34.okr {r' : Nat → Int32} {N : Nat} (h : same34 r r') (hN2 : N ≤ 120) (hk : okr r N) : okr r' N := fun l hl => by
  obtain ⟨c, w, h1, h2, h3, h4⟩ := hk l hl
  exact ⟨c, w, h1, h2, by rw [h.2 l 0 (by omega) (by omega)]; exact h3, by rw [h.1 c (by omega)]; exact h4⟩
theorem sortsr_same {N l : Nat} (hl : l < 120) (hN2 : N ≤ 120) : same34 r (sortsr r N l) := by
  unfold sortsr
  split
  · refine (same34.puts hl (nI 2) (nI 0)).tr ?_
    generalize putsr r l (nI 2) (nI 0) = r1
    refine same34.tr (b := sort1 r1 N l (wkr r l)) ?_ ?_
    · unfold sort1
      repeat' split
      · exact same34.rf _
      · rename_i h9
        rcases lastB_c (secB r1 (wkr r l)) N with h | ⟨k, k1, k2, -⟩
        · exact absurd h h9
        · rw [k2, nI_clamp (by omega)]
          exact (same34.puts (by omega) _ _).tr (same34.puts hl _ _)
      · exact same34.rf _
      · exact same34.rf _
    · generalize sort1 r1 N l (wkr r l) = r2
      unfold sort2
      repeat' split
      · exact same34.rf _
      · exact same34.puts hl _ _
      · exact same34.rf _
  · exact same34.puts hl _ _
theorem ovr_same : ∀ n, n ≤ 120 → same34 r (ovr r n)
  | 0, _ => same34.rf r
  | n + 1, h => by
    unfold ovr
    split
    · exact (ovr_same n (by omega)).tr (same34.puts (by omega) _ _)
    · exact ovr_same n (by omega)
theorem srts_same {N : Nat} {R : List Nat} (hN2 : N ≤ 120) (hR : ∀ a, a ∈ R → a < N) : ∀ k, k ≤ R.length → same34 r (srts r N R k)
  | 0, _ => same34.rf r
  | k + 1, h => (srts_same hN2 hR k (by omega)).tr (sortsr_same (by have := hR _ (revD_mem R k (by omega)); omega) hN2)
theorem bagR_lt {N : Nat} : ∀ a, a ∈ bagR r N → a < N := fun a h => ((layR_mem _ _ N a).1 h).1
set_option maxHeartbeats 2000000 in
theorem m_hours {N s : Nat} (hN : r 100 = nI N) (hN2 : N ≤ 120) (hok : okr r N) (hs : r 950 = nI s) (hs2 : s < 1000) : FM ε jX9_hours [] G r t o x (some (nI (cntB (fun l => decide (ofr (hoursr r N) l 3 = nI 2)) N))) (hoursr r N) t (ordA (bagR (ovr (upd r 952 (r 952 + nI 1)) N) N) o) x := by
  refine C2.of (ls := [some (.inr (0, 50)), none, none]) okX9_hours rfl rfl ?_
  repeat (first | refine e2_step rfl rfl ?_ | refine e2m_get rfl rfl ?_ | refine e2m_ld _ rfl rfl (by omega) ?_)
  refine e2m_st 952 rfl rfl (by omega) ?_
  have hu : ∀ j, j ≠ 952 → upd r 952 (r 952 + nI 1) j = r j := fun j hj => by simp [upd, hj]
  have hu34 : ∀ l k, l < 120 → k < 7 → ofr (upd r 952 (r 952 + nI 1)) l k = ofr r l k := fun l k h h2 => hu _ (by omega)
  unfold hoursr
  have hok1 : okr (upd r 952 (r 952 + nI 1)) N := fun l hl => by
    obtain ⟨c, w, h1, h2, h3, h4⟩ := hok l hl
    exact ⟨c, w, h1, h2, by rw [hu34 l 0 (by omega) (by omega)]; exact h3, by rw [hu c (by omega)]; exact h4⟩
  have hN1 : upd r 952 (r 952 + nI 1) 100 = nI N := by rw [hu 100 (by decide)]; exact hN
  have hs1 : upd r 952 (r 952 + nI 1) 950 = nI s := by rw [hu 950 (by decide)]; exact hs
  generalize hr1 : upd r 952 (r 952 + nI 1) = r1 at hok1 hN1 hs1 ⊢
  repeat (first | refine e2_stepS 14 rfl rfl rfl ?_ | refine e2m_getS 14 rfl rfl rfl ?_ | refine e2m_ldS 14 rfl _ rfl rfl (by omega) ?_)
  refine e2_dropK (ls' := [some (.inr (0, 50)), some (.inl (nI 0)), none]) ?_ ⟨rfl, rfl, trivial⟩
  refine e2_for N (fun l => [some (.inr (0, 50)), some (.inl (nI l)), none]) (fun l => mG G (ovr r1 l) t o x) (fun l hl K => ?_) (fun M hM => ?_)
  · have hN' : ovr r1 l 100 = nI N := by rw [(ovr_same l (by omega)).1 100 (by omega)]; exact hN1
    repeat (first | refine e2_step rfl rfl ?_ | refine e2m_get rfl rfl ?_ | refine e2m_ld _ rfl rfl (by omega) ?_)
    refine e2_if rfl rfl (fun c => absurd (hN' ▸ c) (nI_ge hl (by omega))) (fun _ => ?_)
    repeat (first | refine e2_step rfl rfl ?_ | refine e2m_get rfl rfl ?_ | refine e2m_ld _ rfl rfl (by omega) ?_)
    refine e2_fi (m_of (l := l) (k := 3) (by omega) (by decide)) rfl rfl ⟨rfl, rfl, rfl⟩ rfl rfl rfl (by first | exact hi | decide) rfl rfl rfl ?_
    repeat (first | refine e2_step rfl rfl ?_ | refine e2m_get rfl rfl ?_ | refine e2m_ld _ rfl rfl (by omega) ?_)
    simp only [ovr] at K
    refine e2_if rfl rfl (fun c => ?_) (fun c => ?_)
    · rw [if_neg c] at K
      repeat (first | refine e2_stepS 14 rfl rfl rfl ?_ | refine e2m_getS 14 rfl rfl rfl ?_ | refine e2m_ldS 14 rfl _ rfl rfl (by omega) ?_)
      rw [nI_add']
      exact K
    · rw [if_pos (Classical.not_not.1 c)] at K
      repeat (first | refine e2_step rfl rfl ?_ | refine e2m_get rfl rfl ?_ | refine e2m_ld _ rfl rfl (by omega) ?_)
      refine e2_fv (m_puts (l := l) (by omega) (nI 0) (nI 0)) rfl rfl ⟨rfl, rfl, rfl⟩ rfl rfl rfl (by first | exact hi | decide) rfl rfl rfl ?_
      repeat (first | refine e2_stepS 14 rfl rfl rfl ?_ | refine e2m_getS 14 rfl rfl rfl ?_ | refine e2m_ldS 14 rfl _ rfl rfl (by omega) ?_)
      rw [nI_add']
      exact K
  · subst hM
    have hsm := ovr_same (r := r1) M hN2
    have hN' : ovr r1 M 100 = nI M := by rw [hsm.1 100 (by omega)]; exact hN1
    have hs' : ovr r1 M 950 = nI s := by rw [hsm.1 950 (by omega)]; exact hs1
    have hok' := hsm.okr hN2 hok1
    repeat (first | refine e2_step rfl rfl ?_ | refine e2m_get rfl rfl ?_ | refine e2m_ld _ rfl rfl (by omega) ?_)
    refine e2_if rfl rfl (fun c => ?_) (fun c => absurd (by rw [hN']; exact Int32.le_refl _) c)
    repeat (first | refine e2_step rfl rfl ?_ | refine e2m_get rfl rfl ?_ | refine e2m_ld _ rfl rfl (by omega) ?_)
    refine e2_fi (m_layBag hN' hN2) rfl rfl ⟨rfl, rfl, rfl⟩ rfl rfl rfl (by first | exact hi | decide) rfl rfl rfl ?_
    have hRl : (bagR (ovr r1 M) M).length ≤ M := by unfold bagR; rw [layR_len]; exact cntB_le _ _
    rw [hs, nI_clamp (by omega)]
    have hRlt : ∀ a, a ∈ bagR (ovr r1 M) M → a < M := bagR_lt
    generalize hr2 : ovr r1 M = r2 at hN' hs' hok' hRl hRlt ⊢
    generalize hR : bagR r2 M = R at hRl hRlt ⊢
    repeat (first | refine e2_stepS 55 rfl rfl rfl ?_ | refine e2m_getS 55 rfl rfl rfl ?_ | refine e2m_ldS 55 rfl _ rfl rfl (by omega) ?_)
    refine e2_for (min R.length s) (fun k => [some (.inr (0, 50)), some (.inl (nI R.length)), some (.inl (nI k))]) (fun k => mG G (srts r2 M R k) t (ordA R o) x) (fun k hk K => ?_) (fun M' hM' => ?_)
    · have hsm2 := srts_same (r := r2) hN2 hRlt k (by omega)
      repeat (first | refine e2_step rfl rfl ?_ | refine e2m_get rfl rfl ?_ | refine e2m_ld _ rfl rfl (by omega) ?_)
      refine e2_if rfl rfl (fun c => absurd c (nI_ge (by omega) (by omega))) (fun _ => ?_)
      repeat (first | refine e2_step rfl rfl ?_ | refine e2m_get rfl rfl ?_ | refine e2m_ld _ rfl rfl (by omega) ?_)
      rw [hsm2.1 950 (by omega), hs']
      refine e2_if rfl rfl (fun c => absurd c (nI_ge (by omega) (by omega))) (fun _ => ?_)
      repeat (first | refine e2_step rfl rfl ?_ | refine e2m_get rfl rfl ?_ | refine e2m_ld _ rfl rfl (by omega) ?_)
      refine e2m_ldo k rfl rfl (by omega) ?_
      rw [ordA_at (by omega)]
      refine e2_fv (m_sorts (l := revD R k) (by rw [hsm2.1 100 (by omega)]; exact hN') hN2 (hRlt _ (revD_mem R k (by omega))) (hsm2.okr hN2 hok')) rfl rfl ⟨rfl, rfl, rfl⟩ rfl rfl rfl (by first | exact hi | decide) rfl rfl rfl ?_
      repeat (first | refine e2_stepS 55 rfl rfl rfl ?_ | refine e2m_getS 55 rfl rfl rfl ?_ | refine e2m_ldS 55 rfl _ rfl rfl (by omega) ?_)
      rw [nI_add']
      exact K
    · have hsm2 := srts_same (r := r2) hN2 hRlt M' (by omega)
      have hfin : E2 ε jX9_hours 88 [some (.inr (0, 50)), some (.inl (nI R.length)), some (.inl (nI M'))] [] (mG G (srts r2 M R M') t (ordA R o) x) (fun v' G' => v' = some (nI (cntB (fun l => decide (ofr (srts r2 M R (min R.length s)) l 3 = nI 2)) M)) ∧ G' = mG G (srts r2 M R (min R.length s)) t (ordA R o) x) := by
        repeat (first | refine e2_step rfl rfl ?_ | refine e2m_get rfl rfl ?_ | refine e2m_ld _ rfl rfl (by omega) ?_)
        refine e2_fi (m_countIn (by rw [hsm2.1 100 (by omega)]; exact hN') hN2 (nI 2)) rfl rfl ⟨rfl, rfl, rfl⟩ rfl rfl rfl (by first | exact hi | decide) rfl rfl rfl ?_
        exact e2_iret rfl rfl ⟨by rw [hM'], by rw [hM']⟩
      repeat (first | refine e2_step rfl rfl ?_ | refine e2m_get rfl rfl ?_ | refine e2m_ld _ rfl rfl (by omega) ?_)
      refine e2_if rfl rfl (fun c => hfin) (fun c => ?_)
      repeat (first | refine e2_step rfl rfl ?_ | refine e2m_get rfl rfl ?_ | refine e2m_ld _ rfl rfl (by omega) ?_)
      rw [hsm2.1 950 (by omega), hs']
      refine e2_if rfl rfl (fun c2 => hfin) (fun c2 => ?_)
      rw [nI_leI (by omega) (by omega)] at c c2
      exact absurd hM' (by omega)
end MK
