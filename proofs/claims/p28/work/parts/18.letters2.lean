/-! Letters of office i: the bag's list and lists by codes. -/
section NC
variable {ε : EE} {G : GG} {i : Nat} {V : VV} {s : Int32} {o : Nat → Int32} {Q : Option Int32 → GG → Prop}
theorem passR_le (p : Nat → Bool) (R : List Nat) : ∀ n, R.length ≤ (passR p R n).length
  | 0 => Nat.le_refl _
  | n + 1 => by
    refine Nat.le_trans (passR_le p R n) ?_
    show _ ≤ (if p n then n :: passR p R n else passR p R n).length
    split
    · rw [List.length_cons]; omega
    · exact Nat.le_refl _
def bagC (V : VV) (N : Nat) (c : Int32) (R : List Nat) : List Nat := passR (bagP V c (nI 0)) (passR (bagP V c (nI 1)) (passR (bagP V c (nI 2)) R N) N) N
def bagVR (V : VV) (N : Nat) : List Nat := bagC V N (nI 0) (bagC V N (nI 1) [])
theorem bagC_le (N : Nat) (c : Int32) (R : List Nat) : R.length ≤ (bagC V N c R).length := Nat.le_trans (passR_le _ _ _) (Nat.le_trans (passR_le _ _ _) (passR_le _ _ _))
theorem v_bagIn {N : Nat} (hi : i < 19) (hN : N ≤ 120) (hc : V 3 8 = nI N) (c : Int32) (R : List Nat) (hR : (bagC V N c R).length ≤ 120) (K : E2 ε jX2_listBag 30 [some (.inr (i, 3)), some (.inr (0, 40)), some (.inl c), none] [] (cG G i V (nI (bagC V N c R).length) (ordA (bagC V N c R) o)) Q) : E2 ε jX2_listBag 11 [some (.inr (i, 3)), some (.inr (0, 40)), some (.inl c), none] [] (cG G i V (nI R.length) (ordA R o)) Q := by
  unfold bagC at hR K
  have h1 : (passR (bagP V c (nI 2)) R N).length ≤ 120 := Nat.le_trans (Nat.le_trans (passR_le _ _ _) (passR_le _ _ _)) hR
  have h2 : (passR (bagP V c (nI 1)) (passR (bagP V c (nI 2)) R N) N).length ≤ 120 := Nat.le_trans (passR_le _ _ _) hR
  repeat (first | refine e2_step rfl rfl ?_ | refine e2c_get hi rfl rfl rfl rfl ?_ | refine e2c_lget rfl rfl ?_ | refine e2c_iald _ hi rfl rfl rfl rfl (by omega) ?_ | refine e2c_lald _ rfl rfl (by omega) ?_)
  refine e2_if rfl rfl (fun z => absurd z (by decide)) (fun _ => ?_)
  repeat (first | refine e2_step rfl rfl ?_ | refine e2c_get hi rfl rfl rfl rfl ?_ | refine e2c_lget rfl rfl ?_ | refine e2c_iald _ hi rfl rfl rfl rfl (by omega) ?_ | refine e2c_lald _ rfl rfl (by omega) ?_)
  refine e2c_fv (v_addFromBag hi hN hc c (nI 2) R h1) rfl rfl ⟨rfl, rfl, rfl⟩ rfl rfl rfl hi rfl rfl rfl rfl ?_
  repeat (first | refine e2_step rfl rfl ?_ | refine e2c_get hi rfl rfl rfl rfl ?_ | refine e2c_lget rfl rfl ?_ | refine e2c_iald _ hi rfl rfl rfl rfl (by omega) ?_ | refine e2c_lald _ rfl rfl (by omega) ?_)
  refine e2_if rfl rfl (fun z => absurd z (by decide)) (fun _ => ?_)
  repeat (first | refine e2_step rfl rfl ?_ | refine e2c_get hi rfl rfl rfl rfl ?_ | refine e2c_lget rfl rfl ?_ | refine e2c_iald _ hi rfl rfl rfl rfl (by omega) ?_ | refine e2c_lald _ rfl rfl (by omega) ?_)
  rw [show nI 2 + -1 = nI 1 by decide]
  refine e2c_fv (v_addFromBag hi hN hc c (nI 1) _ h2) rfl rfl ⟨rfl, rfl, rfl⟩ rfl rfl rfl hi rfl rfl rfl rfl ?_
  repeat (first | refine e2_step rfl rfl ?_ | refine e2c_get hi rfl rfl rfl rfl ?_ | refine e2c_lget rfl rfl ?_ | refine e2c_iald _ hi rfl rfl rfl rfl (by omega) ?_ | refine e2c_lald _ rfl rfl (by omega) ?_)
  refine e2_if rfl rfl (fun z => absurd z (by decide)) (fun _ => ?_)
  repeat (first | refine e2_step rfl rfl ?_ | refine e2c_get hi rfl rfl rfl rfl ?_ | refine e2c_lget rfl rfl ?_ | refine e2c_iald _ hi rfl rfl rfl rfl (by omega) ?_ | refine e2c_lald _ rfl rfl (by omega) ?_)
  rw [show nI 1 + -1 = nI 0 by decide]
  refine e2c_fv (v_addFromBag hi hN hc c (nI 0) _ hR) rfl rfl ⟨rfl, rfl, rfl⟩ rfl rfl rfl hi rfl rfl rfl rfl ?_
  repeat (first | refine e2_step rfl rfl ?_ | refine e2c_get hi rfl rfl rfl rfl ?_ | refine e2c_lget rfl rfl ?_ | refine e2c_iald _ hi rfl rfl rfl rfl (by omega) ?_ | refine e2c_lald _ rfl rfl (by omega) ?_)
  refine e2_if rfl rfl (fun _ => ?_) (fun z => absurd (by decide) z)
  exact e2_dropK K ⟨rfl, rfl, rfl, trivial⟩
theorem v_listBag {N : Nat} (hi : i < 19) (hN : N ≤ 120) (hc : V 3 8 = nI N) (hR : (bagVR V N).length ≤ 120) : FC ε jX2_listBag [.inr (i, 3), .inr (0, 40)] G i V s o none V (nI (bagVR V N).length) (ordA (bagVR V N) o) := by
  refine C2.of (ls := [some (.inr (i, 3)), some (.inr (0, 40)), none, none]) okX2_listBag rfl rfl ?_
  repeat (first | refine e2_step rfl rfl ?_ | refine e2c_get hi rfl rfl rfl rfl ?_ | refine e2c_lget rfl rfl ?_ | refine e2c_iald _ hi rfl rfl rfl rfl (by omega) ?_ | refine e2c_lald _ rfl rfl (by omega) ?_)
  refine e2c_lput rfl ?_
  refine Eq.mp (congrArg (fun q => E2 ε jX2_listBag 5 _ [] (cG G i V (nI 0) q) _) (ordA_nil o)) ?_
  repeat (first | refine e2_step rfl rfl ?_ | refine e2c_get hi rfl rfl rfl rfl ?_ | refine e2c_lget rfl rfl ?_ | refine e2c_iald _ hi rfl rfl rfl rfl (by omega) ?_ | refine e2c_lald _ rfl rfl (by omega) ?_)
  refine e2_if rfl rfl (fun z => absurd z (by decide)) (fun _ => ?_)
  refine v_bagIn hi hN hc (nI 1) [] (Nat.le_trans (bagC_le N (nI 0) _) hR) ?_
  repeat (first | refine e2_step rfl rfl ?_ | refine e2c_get hi rfl rfl rfl rfl ?_ | refine e2c_lget rfl rfl ?_ | refine e2c_iald _ hi rfl rfl rfl rfl (by omega) ?_ | refine e2c_lald _ rfl rfl (by omega) ?_)
  refine e2_if rfl rfl (fun z => absurd z (by decide)) (fun _ => ?_)
  rw [show nI 1 + -1 = nI 0 by decide]
  refine v_bagIn hi hN hc (nI 0) _ hR ?_
  repeat (first | refine e2_step rfl rfl ?_ | refine e2c_get hi rfl rfl rfl rfl ?_ | refine e2c_lget rfl rfl ?_ | refine e2c_iald _ hi rfl rfl rfl rfl (by omega) ?_ | refine e2c_lald _ rfl rfl (by omega) ?_)
  refine e2_if rfl rfl (fun _ => ?_) (fun z => absurd (by decide) z)
  exact e2_vret rfl rfl ⟨rfl, rfl⟩
-- by codes
def gtV (V : VV) (a y : Nat) : Bool := decide (V 4 y < V 4 a)
theorem insOk_congr {gt : Nat → Nat → Bool} {R : List Nat} {y : Nat} {o1 o2 o' : Nat → Int32} (h : ∀ j, R.length < j → o1 j = o2 j) (hk : insOk gt R y o1 o') : insOk gt R y o2 o' := ⟨hk.1, fun j hj => (hk.2 j hj).trans (h j hj)⟩
theorem insOk_nil' (gt : Nat → Nat → Bool) {y : Nat} {o : Nat → Int32} (h : o 0 = nI y) : insOk gt [] y o o := ⟨fun j hj => by
  have : j = 0 := by simp at hj; omega
  subst this
  simpa [insR, revD] using h, fun _ _ => rfl⟩
theorem insOk_stay {gt : Nat → Nat → Bool} {a y : Nat} {t : List Nat} {o : Nat → Int32} (h : gt a y = false) (ho : ∀ j, j < t.length + 1 → o j = nI (revD (a :: t) j)) (hy : o (t.length + 1) = nI y) : insOk gt (a :: t) y o o := by
  have h1 := insOk_stop (o := o) h ho
  have h2 : upd o (t.length + 1) (nI y) = o := by
    funext j
    unfold upd
    split
    · rename_i hj; rw [hj, hy]
    · rfl
  rwa [h2] at h1
theorem v_hasGt {N a l : Nat} (hi : i < 19) (hN : N ≤ 120) (hc : V 3 8 = nI N) (ha : a < N) (hl : l < N) : FC ε jX2_hasGreaterCode [.inr (i, 3), .inl (nI a), .inl (nI l)] G i V s o (some (bI (gtV V a l))) V s o := by
  refine C2.of (ls := [some (.inr (i, 3)), some (.inl (nI a)), some (.inl (nI l))]) okX2_hasGreaterCode rfl rfl ?_
  repeat (first | refine e2_step rfl rfl ?_ | refine e2c_get hi rfl rfl rfl rfl ?_ | refine e2c_lget rfl rfl ?_ | refine e2c_iald _ hi rfl rfl rfl rfl (by omega) ?_ | refine e2c_lald _ rfl rfl (by omega) ?_)
  refine e2c_fi (v_has hi hN hc ha) rfl rfl ⟨rfl, rfl, rfl⟩ rfl rfl rfl hi rfl rfl rfl rfl ?_
  refine e2_if rfl rfl (fun z => absurd z (by decide)) (fun _ => ?_)
  repeat (first | refine e2_step rfl rfl ?_ | refine e2c_get hi rfl rfl rfl rfl ?_ | refine e2c_lget rfl rfl ?_ | refine e2c_iald _ hi rfl rfl rfl rfl (by omega) ?_ | refine e2c_lald _ rfl rfl (by omega) ?_)
  refine e2c_fi (v_has hi hN hc hl) rfl rfl ⟨rfl, rfl, rfl⟩ rfl rfl rfl hi rfl rfl rfl rfl ?_
  refine e2_if rfl rfl (fun z => absurd z (by decide)) (fun _ => ?_)
  repeat (first | refine e2_step rfl rfl ?_ | refine e2c_get hi rfl rfl rfl rfl ?_ | refine e2c_lget rfl rfl ?_ | refine e2c_iald _ hi rfl rfl rfl rfl (by omega) ?_ | refine e2c_lald _ rfl rfl (by omega) ?_)
  unfold gtV
  refine e2_if rfl rfl (fun c => ?_) (fun c => ?_)
  · rw [decide_eq_false (Int32.not_lt.2 c)]
    repeat (first | refine e2_step rfl rfl ?_ | refine e2c_get hi rfl rfl rfl rfl ?_ | refine e2c_lget rfl rfl ?_ | refine e2c_iald _ hi rfl rfl rfl rfl (by omega) ?_ | refine e2c_lald _ rfl rfl (by omega) ?_)
    exact e2_zret rfl rfl rfl ⟨rfl, rfl⟩
  · rw [decide_eq_true (Int32.not_le.1 c)]
    repeat (first | refine e2_step rfl rfl ?_ | refine e2c_get hi rfl rfl rfl rfl ?_ | refine e2c_lget rfl rfl ?_ | refine e2c_iald _ hi rfl rfl rfl rfl (by omega) ?_ | refine e2c_lald _ rfl rfl (by omega) ?_)
    exact e2_zret rfl rfl rfl ⟨rfl, rfl⟩
theorem v_ins1 {N l n : Nat} (hi : i < 19) (hN : N ≤ 120) (hc : V 3 8 = nI N) (hl : l < N) (hn : n ≤ 120) : ∀ (R : List Nat), (∀ a, a ∈ R → a < N) → R.length < n → ∀ (o : Nat → Int32), (∀ j, j < R.length → o j = nI (revD R j)) → o R.length = nI l →
    (∀ o', insOk (gtV V) R l o o' → E2 ε jX2_insertByCode 42 [some (.inr (i, 3)), some (.inl (nI l)), some (.inr (0, 40)), none] [] (cG G i V (nI n) o') Q) →
    E2 ε jX2_insertByCode 12 [some (.inr (i, 3)), some (.inl (nI l)), some (.inr (0, 40)), some (.inl (nI R.length))] [] (cG G i V (nI n) o) Q
  | [], hR, hlen, o, ho, hol, K => by
    repeat (first | refine e2_step rfl rfl ?_ | refine e2c_get hi rfl rfl rfl rfl ?_ | refine e2c_lget rfl rfl ?_ | refine e2c_iald _ hi rfl rfl rfl rfl (by omega) ?_ | refine e2c_lald _ rfl rfl (by omega) ?_)
    refine e2_if rfl rfl (fun _ => ?_) (fun c => absurd (Int32.le_refl _) c)
    exact e2_dropK (K o (insOk_nil' _ hol)) ⟨rfl, rfl, rfl, trivial⟩
  | a :: t', hR, hlen, o, ho, hol, K => by
    rw [List.length_cons] at hlen hol
    have ha : a < N := hR a List.mem_cons_self
    have hoa : o t'.length = nI a := by rw [ho _ (by rw [List.length_cons]; omega)]; simp [revD]
    have ho2 : ∀ j, j < t'.length + 1 → o j = nI (revD (a :: t') j) := fun j hj => ho j (by rw [List.length_cons]; exact hj)
    repeat (first | refine e2_step rfl rfl ?_ | refine e2c_get hi rfl rfl rfl rfl ?_ | refine e2c_lget rfl rfl ?_ | refine e2c_iald _ hi rfl rfl rfl rfl (by omega) ?_ | refine e2c_lald _ rfl rfl (by omega) ?_)
    refine e2_if rfl rfl (fun c => absurd c (nI_nle (by rw [List.length_cons]; omega) (by rw [List.length_cons]; omega))) (fun _ => ?_)
    repeat (first | refine e2_step rfl rfl ?_ | refine e2c_get hi rfl rfl rfl rfl ?_ | refine e2c_lget rfl rfl ?_ | refine e2c_iald _ hi rfl rfl rfl rfl (by omega) ?_ | refine e2c_lald _ rfl rfl (by omega) ?_)
    rw [List.length_cons, pk_sub (by omega), Nat.add_sub_cancel]
    refine e2c_lfi (l_letterAt (n := n) (j := t'.length) hn (by omega)) rfl rfl ⟨rfl, rfl, rfl⟩ rfl rfl rfl rfl ?_
    rw [if_neg (by omega), hoa]
    repeat (first | refine e2_step rfl rfl ?_ | refine e2c_get hi rfl rfl rfl rfl ?_ | refine e2c_lget rfl rfl ?_ | refine e2c_iald _ hi rfl rfl rfl rfl (by omega) ?_ | refine e2c_lald _ rfl rfl (by omega) ?_)
    refine e2c_fi (v_hasGt hi hN hc ha hl) rfl rfl ⟨rfl, rfl, rfl⟩ rfl rfl rfl hi rfl rfl rfl rfl ?_
    refine e2_if rfl rfl (fun c => ?_) (fun c => ?_)
    · rw [bI_0] at c
      exact e2_dropK (K o (insOk_stay c ho2 hol)) ⟨rfl, rfl, rfl, trivial⟩
    · rw [bI_0, Bool.not_eq_false] at c
      repeat (first | refine e2_step rfl rfl ?_ | refine e2c_get hi rfl rfl rfl rfl ?_ | refine e2c_lget rfl rfl ?_ | refine e2c_iald _ hi rfl rfl rfl rfl (by omega) ?_ | refine e2c_lald _ rfl rfl (by omega) ?_)
      refine e2c_lfv (l_swap (k := t'.length) hn (by omega)) rfl rfl ⟨rfl, rfl, rfl⟩ rfl rfl rfl rfl ?_
      rw [hoa, hol]
      repeat (first | refine e2_stepS 12 rfl rfl rfl ?_ | refine e2c_getS 12 rfl hi rfl rfl rfl rfl ?_ | refine e2c_lgetS 12 rfl rfl rfl ?_ | refine e2c_ialdS 12 rfl _ hi rfl rfl rfl rfl (by omega) ?_)
      rw [pk_m1]
      refine v_ins1 hi hN hc hl hn t' (fun b hb => hR b (List.mem_cons_of_mem _ hb)) (by omega) _ (fun j hj => ?_) ?_ (fun o' ho' => K o' (insOk_go ?_ (insOk_congr (fun j hj => ?_) ho')))
      · unfold upd
        rw [if_neg (by omega), if_neg (by omega), ho2 j (by omega)]
        conv => lhs; unfold revD
        rw [if_neg (by omega)]
      · simp [upd]
      · exact c
      · unfold upd
        rw [if_neg (by omega)]
theorem v_insertByCode {N l : Nat} (hi : i < 19) (hN : N ≤ 120) (hc : V 3 8 = nI N) (hl : l < N) (R : List Nat) (hR : ∀ a, a ∈ R → a < N) (hlen : R.length < 120) : FC ε jX2_insertByCode [.inr (i, 3), .inl (nI l), .inr (0, 40)] G i V (nI R.length) (ordA R o) none V (nI (R.length + 1)) (ordA (insR (gtV V) R l) o) := by
  refine C2.of (ls := [some (.inr (i, 3)), some (.inl (nI l)), some (.inr (0, 40)), none]) okX2_insertByCode rfl rfl ?_
  repeat (first | refine e2_step rfl rfl ?_ | refine e2c_get hi rfl rfl rfl rfl ?_ | refine e2c_lget rfl rfl ?_ | refine e2c_iald _ hi rfl rfl rfl rfl (by omega) ?_ | refine e2c_lald _ rfl rfl (by omega) ?_)
  refine e2c_lfv (l_addLast (n := R.length) hlen (nI l)) rfl rfl ⟨rfl, rfl, rfl⟩ rfl rfl rfl rfl ?_
  repeat (first | refine e2_stepS 12 rfl rfl rfl ?_ | refine e2c_getS 12 rfl hi rfl rfl rfl rfl ?_ | refine e2c_lgetS 12 rfl rfl rfl ?_ | refine e2c_ialdS 12 rfl _ hi rfl rfl rfl rfl (by omega) ?_)
  rw [pk_sub (by omega), Nat.add_sub_cancel]
  refine v_ins1 hi hN hc hl (by omega) R hR (by omega) _ (fun j hj => ?_) ?_ (fun o' ho' => ?_)
  · unfold upd
    rw [if_neg (by omega)]
    exact ordA_at hj
  · simp [upd]
  · refine e2_vret rfl rfl ⟨rfl, ?_⟩
    have h2 : insOk (gtV V) R l (ordA R o) o' := insOk_congr (fun j hj => by unfold upd; rw [if_neg (by omega)]) ho'
    rw [insOk_ord h2]
theorem v_listByCode {N : Nat} (hi : i < 19) (hN : N ≤ 120) (hc : V 3 8 = nI N) (p k : Int32) : FC ε jX2_listByCode [.inr (i, 3), .inl p, .inl k, .inr (0, 40)] G i V s o none V (nI (layR (gtV V) (atV V p k) N).length) (ordA (layR (gtV V) (atV V p k) N) o) := by
  refine C2.of (ls := [some (.inr (i, 3)), some (.inl p), some (.inl k), some (.inr (0, 40)), none]) okX2_listByCode rfl rfl ?_
  repeat (first | refine e2_step rfl rfl ?_ | refine e2c_get hi rfl rfl rfl rfl ?_ | refine e2c_lget rfl rfl ?_ | refine e2c_iald _ hi rfl rfl rfl rfl (by omega) ?_ | refine e2c_lald _ rfl rfl (by omega) ?_)
  refine e2c_lput rfl ?_
  refine Eq.mp (congrArg (fun q => E2 ε jX2_listByCode 5 _ [] (cG G i V (nI 0) q) _) (ordA_nil o)) ?_
  repeat (first | refine e2_stepS 8 rfl rfl rfl ?_ | refine e2c_getS 8 rfl hi rfl rfl rfl rfl ?_ | refine e2c_lgetS 8 rfl rfl rfl ?_ | refine e2c_ialdS 8 rfl _ hi rfl rfl rfl rfl (by omega) ?_)
  refine e2_for N (fun l => [some (.inr (i, 3)), some (.inl p), some (.inl k), some (.inr (0, 40)), some (.inl (nI l))]) (fun l => cG G i V (nI (layR (gtV V) (atV V p k) l).length) (ordA (layR (gtV V) (atV V p k) l) o)) (fun l hl K => ?_) (fun M hM => ?_)
  · have hlen : (layR (gtV V) (atV V p k) l).length ≤ l := by rw [layR_len]; exact cntB_le _ _
    repeat (first | refine e2_step rfl rfl ?_ | refine e2c_get hi rfl rfl rfl rfl ?_ | refine e2c_lget rfl rfl ?_ | refine e2c_iald _ hi rfl rfl rfl rfl (by omega) ?_ | refine e2c_lald _ rfl rfl (by omega) ?_)
    rw [hc]
    refine e2_if rfl rfl (fun c => absurd c (nI_ge hl (by omega))) (fun _ => ?_)
    repeat (first | refine e2_step rfl rfl ?_ | refine e2c_get hi rfl rfl rfl rfl ?_ | refine e2c_lget rfl rfl ?_ | refine e2c_iald _ hi rfl rfl rfl rfl (by omega) ?_ | refine e2c_lald _ rfl rfl (by omega) ?_)
    refine e2c_fi (v_isAt hi hN hc hl p k) rfl rfl ⟨rfl, rfl, rfl⟩ rfl rfl rfl hi rfl rfl rfl rfl ?_
    simp only [layR] at K
    refine e2_if rfl rfl (fun c => ?_) (fun c => ?_)
    · rw [bI_0] at c
      rw [c] at K
      repeat (first | refine e2_stepS 8 rfl rfl rfl ?_ | refine e2c_getS 8 rfl hi rfl rfl rfl rfl ?_ | refine e2c_lgetS 8 rfl rfl rfl ?_ | refine e2c_ialdS 8 rfl _ hi rfl rfl rfl rfl (by omega) ?_)
      rw [nI_add']
      exact K
    · rw [bI_0, Bool.not_eq_false] at c
      rw [if_pos c, insR_len] at K
      repeat (first | refine e2_step rfl rfl ?_ | refine e2c_get hi rfl rfl rfl rfl ?_ | refine e2c_lget rfl rfl ?_ | refine e2c_iald _ hi rfl rfl rfl rfl (by omega) ?_ | refine e2c_lald _ rfl rfl (by omega) ?_)
      refine e2c_fv (v_insertByCode hi hN hc hl (layR (gtV V) (atV V p k) l) (fun a ha => by have := (layR_mem _ _ l a).1 ha; omega) (by omega)) rfl rfl ⟨rfl, rfl, rfl⟩ rfl rfl rfl hi rfl rfl rfl rfl ?_
      repeat (first | refine e2_stepS 8 rfl rfl rfl ?_ | refine e2c_getS 8 rfl hi rfl rfl rfl rfl ?_ | refine e2c_lgetS 8 rfl rfl rfl ?_ | refine e2c_ialdS 8 rfl _ hi rfl rfl rfl rfl (by omega) ?_)
      rw [nI_add']
      exact K
  · repeat (first | refine e2_step rfl rfl ?_ | refine e2c_get hi rfl rfl rfl rfl ?_ | refine e2c_lget rfl rfl ?_ | refine e2c_iald _ hi rfl rfl rfl rfl (by omega) ?_ | refine e2c_lald _ rfl rfl (by omega) ?_)
    rw [hc]
    refine e2_if rfl rfl (fun _ => ?_) (fun c => absurd (by rw [hM]; exact Int32.le_refl _) c)
    exact e2_vret rfl rfl ⟨rfl, by rw [hM]⟩
end NC
