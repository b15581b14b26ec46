/-! The reference's orders, sorting and the hour. -/
section MJ
variable {ε : EE} {J : JT} {pc : Nat} {ls : List (Option V0)} {st : List V0} {G : GG} {r t o x : Nat → Int32} {Q : Option Int32 → GG → Prop}
/-- lists stand last element first: y behind the elements that may stay before it -/
def insR (gt : Nat → Nat → Bool) : List Nat → Nat → List Nat
  | [], y => [y]
  | a :: t, y => if gt a y then a :: insR gt t y else y :: a :: t
def revD : List Nat → Nat → Nat
  | [], _ => 0
  | a :: t, j => if j = t.length then a else revD t j
def layR (gt : Nat → Nat → Bool) (p : Nat → Bool) : Nat → List Nat
  | 0 => []
  | n + 1 => if p n then insR gt (layR gt p n) n else layR gt p n
def ordA (R : List Nat) (o : Nat → Int32) : Nat → Int32 := fun j => if j < R.length then nI (revD R j) else o j
theorem insR_len (gt : Nat → Nat → Bool) : ∀ (R : List Nat) (y : Nat), (insR gt R y).length = R.length + 1
  | [], y => rfl
  | a :: t, y => by
    unfold insR
    split
    · rw [List.length_cons, insR_len gt t y, List.length_cons]
    · rfl
theorem insR_mem (gt : Nat → Nat → Bool) : ∀ (R : List Nat) (y z : Nat), z ∈ insR gt R y ↔ z = y ∨ z ∈ R
  | [], y, z => by simp [insR]
  | a :: t, y, z => by
    unfold insR
    split
    · rw [List.mem_cons, insR_mem gt t y z, List.mem_cons]
      constructor
      · rintro (h | h | h)
        · exact Or.inr (Or.inl h)
        · exact Or.inl h
        · exact Or.inr (Or.inr h)
      · rintro (h | h | h)
        · exact Or.inr (Or.inl h)
        · exact Or.inl h
        · exact Or.inr (Or.inr h)
    · simp
theorem layR_mem (gt : Nat → Nat → Bool) (p : Nat → Bool) : ∀ (n z : Nat), z ∈ layR gt p n ↔ z < n ∧ p z = true
  | 0, z => by simp [layR]
  | n + 1, z => by
    unfold layR
    split
    · rename_i h
      rw [insR_mem, layR_mem gt p n z]
      constructor
      · rintro (rfl | ⟨h1, h2⟩)
        · exact ⟨by omega, h⟩
        · exact ⟨by omega, h2⟩
      · rintro ⟨h1, h2⟩
        by_cases hz : z = n
        · exact Or.inl hz
        · exact Or.inr ⟨by omega, h2⟩
    · rename_i h
      rw [layR_mem gt p n z]
      constructor
      · rintro ⟨h1, h2⟩
        exact ⟨by omega, h2⟩
      · rintro ⟨h1, h2⟩
        have hz : z ≠ n := fun e => h (e ▸ h2)
        exact ⟨by omega, h2⟩
theorem layR_len (gt : Nat → Nat → Bool) (p : Nat → Bool) : ∀ (n : Nat), (layR gt p n).length = cntB p n
  | 0 => rfl
  | n + 1 => by
    unfold layR cntB
    split
    · rw [insR_len, layR_len gt p n]
    · rw [layR_len gt p n]
      rfl
theorem revD_mem : ∀ (R : List Nat) (j : Nat), j < R.length → revD R j ∈ R
  | [], j, h => by simp at h
  | a :: t, j, h => by
    unfold revD
    split
    · exact List.mem_cons_self
    · exact List.mem_cons_of_mem _ (revD_mem t j (by rw [List.length_cons] at h; omega))
/-- what the inner loop of an insertion leaves -/
def insOk (gt : Nat → Nat → Bool) (R : List Nat) (y : Nat) (o o' : Nat → Int32) : Prop := (∀ j, j < R.length + 1 → o' j = nI (revD (insR gt R y) j)) ∧ ∀ j, R.length < j → o' j = o j
theorem insOk_nil (gt : Nat → Nat → Bool) (y : Nat) (o : Nat → Int32) : insOk gt [] y o (upd o 0 (nI y)) := by
  refine ⟨fun j hj => ?_, fun j hj => ?_⟩
  · have : j = 0 := by simp at hj; omega
    subst this
    simp [upd, insR, revD]
  · simp at hj
    simp [upd, show j ≠ 0 by omega]
theorem insOk_stop {gt : Nat → Nat → Bool} {a y : Nat} {t : List Nat} {o : Nat → Int32} (h : gt a y = false) (ho : ∀ j, j < t.length + 1 → o j = nI (revD (a :: t) j)) : insOk gt (a :: t) y o (upd o (t.length + 1) (nI y)) := by
  refine ⟨fun j hj => ?_, fun j hj => ?_⟩
  · rw [List.length_cons] at hj
    simp only [insR, h, Bool.false_eq_true, if_false, upd]
    by_cases hj2 : j = t.length + 1
    · rw [if_pos hj2]
      simp [revD, hj2]
    · rw [if_neg hj2, ho j (by omega)]
      have : ¬ j = (a :: t).length := by rw [List.length_cons]; exact hj2
      conv => rhs; unfold revD
      rw [if_neg this]
  · rw [List.length_cons] at hj
    simp [upd, show j ≠ t.length + 1 by omega]
theorem insOk_go {gt : Nat → Nat → Bool} {a y : Nat} {t : List Nat} {o o' : Nat → Int32} (h : gt a y = true) (hk : insOk gt t y (upd o (t.length + 1) (nI a)) o') : insOk gt (a :: t) y o o' := by
  refine ⟨fun j hj => ?_, fun j hj => ?_⟩
  · rw [List.length_cons] at hj
    simp only [insR, h, if_true]
    unfold revD
    rw [insR_len]
    by_cases hj2 : j = t.length + 1
    · rw [if_pos hj2, hk.2 j (by omega)]
      simp [upd, hj2]
    · rw [if_neg hj2]
      exact hk.1 j (by omega)
  · rw [List.length_cons] at hj
    rw [hk.2 j (by omega)]
    simp [upd, show j ≠ t.length + 1 by omega]
theorem insOk_ord {gt : Nat → Nat → Bool} {R : List Nat} {y : Nat} {o o' : Nat → Int32} (hk : insOk gt R y (ordA R o) o') : o' = ordA (insR gt R y) o := by
  funext j
  simp only [ordA, insR_len]
  by_cases h : j < R.length + 1
  · rw [if_pos h]
    exact hk.1 j h
  · rw [if_neg h, hk.2 j (by omega)]
    simp [ordA, show ¬ j < R.length by omega]
theorem ordA_at {R : List Nat} {o : Nat → Int32} {j : Nat} (h : j < R.length) : ordA R o j = nI (revD R j) := by
  simp [ordA, h]
theorem ordA_nil (o : Nat → Int32) : ordA [] o = o := by
  funext j
  simp [ordA]
def gtC (r : Nat → Int32) (a y : Nat) : Bool := decide (ofr r y 0 < ofr r a 0)
def rankr (r : Nat → Int32) (l : Nat) : Int32 := nI 10 * ofr r l 1 + ofr r l 2
def gtB (r : Nat → Int32) (a y : Nat) : Bool := decide (rankr r a < rankr r y)
theorem m_lay1 {l n : Nat} {p w : Int32} (hl : l < 120) : ∀ (R : List Nat), (∀ a, a ∈ R → a < 120) → R.length < 120 → ∀ (o : Nat → Int32), (∀ j, j < R.length → o j = nI (revD R j)) →
    (∀ o', insOk (gtC r) R l o o' → E2 ε jX9_layByCodes 91 [some (.inr (0, 50)), some (.inl p), some (.inl w), some (.inl (nI n)), some (.inl (nI l)), none] [] (mG G r t o' x) Q) →
    E2 ε jX9_layByCodes 31 [some (.inr (0, 50)), some (.inl p), some (.inl w), some (.inl (nI n)), some (.inl (nI l)), some (.inl (nI R.length))] [] (mG G r t o x) Q
  | [], hR, hlen, o, ho, K => by
    repeat (first | refine e2_step rfl rfl ?_ | refine e2m_get rfl rfl ?_ | refine e2m_ld _ rfl rfl (by omega) ?_)
    refine e2_if rfl rfl (fun _ => ?_) (fun c => absurd (Int32.le_refl _) c)
    repeat (first | refine e2_step rfl rfl ?_ | refine e2m_get rfl rfl ?_ | refine e2m_ld _ rfl rfl (by omega) ?_)
    refine e2m_sto 0 rfl rfl (by omega) ?_
    exact e2_dropK (K _ (insOk_nil _ l o)) ⟨rfl, rfl, rfl, rfl, rfl, trivial⟩
  | a :: t', hR, hlen, o, ho, K => by
    rw [List.length_cons] at hlen
    have ha : a < 120 := hR a List.mem_cons_self
    have hoa : o t'.length = nI a := by rw [ho _ (by rw [List.length_cons]; omega)]; simp [revD]
    repeat (first | refine e2_step rfl rfl ?_ | refine e2m_get rfl rfl ?_ | refine e2m_ld _ rfl rfl (by omega) ?_)
    refine e2_if rfl rfl (fun c => absurd c (nI_nle (by rw [List.length_cons]; omega) (by rw [List.length_cons]; omega))) (fun _ => ?_)
    repeat (first | refine e2_step rfl rfl ?_ | refine e2m_get rfl rfl ?_ | refine e2m_ld _ rfl rfl (by omega) ?_)
    refine e2m_ldo t'.length rfl (by rw [List.length_cons, pk_sub (by omega), Nat.add_sub_cancel]) (by omega) ?_
    rw [hoa]
    repeat (first | refine e2_step rfl rfl ?_ | refine e2m_get rfl rfl ?_ | refine e2m_ld _ rfl rfl (by omega) ?_)
    refine e2_fi (m_of ha (k := 0) (by decide)) rfl rfl ⟨rfl, rfl, rfl⟩ rfl rfl rfl (by first | exact hi | decide) rfl rfl rfl ?_
    repeat (first | refine e2_step rfl rfl ?_ | refine e2m_get rfl rfl ?_ | refine e2m_ld _ rfl rfl (by omega) ?_)
    refine e2_fi (m_of hl (k := 0) (by decide)) rfl rfl ⟨rfl, rfl, rfl⟩ rfl rfl rfl (by first | exact hi | decide) rfl rfl rfl ?_
    repeat (first | refine e2_step rfl rfl ?_ | refine e2m_get rfl rfl ?_ | refine e2m_ld _ rfl rfl (by omega) ?_)
    refine e2_if rfl rfl (fun c => ?_) (fun c => ?_)
    · repeat (first | refine e2_step rfl rfl ?_ | refine e2m_get rfl rfl ?_ | refine e2m_ld _ rfl rfl (by omega) ?_)
      refine e2m_sto (t'.length + 1) rfl (by rw [List.length_cons]) (by omega) ?_
      refine e2_dropK (K _ (insOk_stop ?_ (fun j hj => ho j (by rw [List.length_cons]; omega)))) ⟨rfl, rfl, rfl, rfl, rfl, trivial⟩
      simp [gtC, Int32.not_lt.2 c]
    · repeat (first | refine e2_step rfl rfl ?_ | refine e2m_get rfl rfl ?_ | refine e2m_ld _ rfl rfl (by omega) ?_)
      refine e2m_ldo t'.length rfl (by rw [List.length_cons, pk_sub (by omega), Nat.add_sub_cancel]) (by omega) ?_
      rw [hoa]
      refine e2m_sto (t'.length + 1) rfl (by rw [List.length_cons]) (by omega) ?_
      repeat (first | refine e2_stepS 31 rfl rfl rfl ?_ | refine e2m_getS 31 rfl rfl rfl ?_ | refine e2m_ldS 31 rfl _ rfl rfl (by omega) ?_)
      rw [List.length_cons, pk_m1]
      refine m_lay1 hl t' (fun b hb => hR b (List.mem_cons_of_mem _ hb)) (by omega) _ (fun j hj => ?_) (fun o' ho' => K o' (insOk_go ?_ ho'))
      · rw [show upd o (t'.length + 1) (nI a) j = o j by simp [upd, show j ≠ t'.length + 1 by omega], ho j (by rw [List.length_cons]; omega)]
        conv => lhs; unfold revD
        rw [if_neg (by omega)]
      · simp [gtC, Int32.not_le.1 c]
theorem m_layByCodes {N : Nat} (hN : r 100 = nI N) (hN2 : N ≤ 120) (p w : Int32) : FM ε jX9_layByCodes [.inl p, .inl w] G r t o x (some (nI (layR (gtC r) (atr r p w) N).length)) r t (ordA (layR (gtC r) (atr r p w) N) o) x := by
  refine C2.of (ls := [some (.inr (0, 50)), some (.inl p), some (.inl w), none, none, none]) okX9_layByCodes rfl rfl ?_
  repeat (first | refine e2_stepS 5 rfl rfl rfl ?_ | refine e2m_getS 5 rfl rfl rfl ?_ | refine e2m_ldS 5 rfl _ rfl rfl (by omega) ?_)
  refine Eq.mp (congrArg (fun q => E2 ε jX9_layByCodes 5 _ [] (mG G r t q x) _) (ordA_nil o)) ?_
  refine e2_dropK (ls' := [some (.inr (0, 50)), some (.inl p), some (.inl w), some (.inl (nI 0)), some (.inl (nI 0)), none]) ?_ ⟨rfl, rfl, rfl, rfl, rfl, trivial⟩
  refine e2_for N (fun l => [some (.inr (0, 50)), some (.inl p), some (.inl w), some (.inl (nI (layR (gtC r) (atr r p w) l).length)), some (.inl (nI l)), none]) (fun l => mG G r t (ordA (layR (gtC r) (atr r p w) l) o) x) (fun l hl K => ?_) (fun M hM => ?_)
  · repeat (first | refine e2_step rfl rfl ?_ | refine e2m_get rfl rfl ?_ | refine e2m_ld _ rfl rfl (by omega) ?_)
    refine e2_if rfl rfl (fun c => absurd (hN ▸ c) (nI_ge hl (by omega))) (fun _ => ?_)
    repeat (first | refine e2_step rfl rfl ?_ | refine e2m_get rfl rfl ?_ | refine e2m_ld _ rfl rfl (by omega) ?_)
    refine e2_fi (m_isAt (l := l) (by omega) p w) rfl rfl ⟨rfl, rfl, rfl⟩ rfl rfl rfl (by first | exact hi | decide) rfl rfl rfl ?_
    repeat (first | refine e2_step rfl rfl ?_ | refine e2m_get rfl rfl ?_ | refine e2m_ld _ rfl rfl (by omega) ?_)
    have hlen : (layR (gtC r) (atr r p w) l).length ≤ l := by rw [layR_len]; exact cntB_le _ _
    simp only [layR] at K
    refine e2_if rfl rfl (fun c => ?_) (fun c => ?_)
    · rw [bI_0] at c
      rw [c] at K
      repeat (first | refine e2_stepS 5 rfl rfl rfl ?_ | refine e2m_getS 5 rfl rfl rfl ?_ | refine e2m_ldS 5 rfl _ rfl rfl (by omega) ?_)
      rw [nI_add']
      exact K
    · rw [bI_0, Bool.not_eq_false] at c
      rw [if_pos c, insR_len] at K
      repeat (first | refine e2_stepS 31 rfl rfl rfl ?_ | refine e2m_getS 31 rfl rfl rfl ?_ | refine e2m_ldS 31 rfl _ rfl rfl (by omega) ?_)
      refine m_lay1 (by omega) _ (fun a ha => ?_) (by omega) _ (fun j hj => ordA_at hj) (fun o' ho' => ?_)
      · have := (layR_mem _ _ l a).1 ha
        omega
      · rw [insOk_ord ho']
        repeat (first | refine e2_stepS 5 rfl rfl rfl ?_ | refine e2m_getS 5 rfl rfl rfl ?_ | refine e2m_ldS 5 rfl _ rfl rfl (by omega) ?_)
        rw [nI_add', nI_add']
        exact K
  · repeat (first | refine e2_step rfl rfl ?_ | refine e2m_get rfl rfl ?_ | refine e2m_ld _ rfl rfl (by omega) ?_)
    refine e2_if rfl rfl (fun c => ?_) (fun c => absurd (by rw [hN, hM]; exact Int32.le_refl _) c)
    repeat (first | refine e2_step rfl rfl ?_ | refine e2m_get rfl rfl ?_ | refine e2m_ld _ rfl rfl (by omega) ?_)
    exact e2_iret rfl rfl ⟨by rw [hM], by rw [hM]⟩
theorem m_rank' {l : Nat} (hl : l < 120) : FM ε jX9_rank [.inl (nI l)] G r t o x (some (rankr r l)) r t o x := m_rank hl
theorem m_lay2 {l n : Nat} (hl : l < 120) : ∀ (R : List Nat), (∀ a, a ∈ R → a < 120) → R.length < 120 → ∀ (o : Nat → Int32), (∀ j, j < R.length → o j = nI (revD R j)) →
    (∀ o', insOk (gtB r) R l o o' → E2 ε jX9_layBag 77 [some (.inr (0, 50)), some (.inl (nI n)), some (.inl (nI l)), none] [] (mG G r t o' x) Q) →
    E2 ε jX9_layBag 26 [some (.inr (0, 50)), some (.inl (nI n)), some (.inl (nI l)), some (.inl (nI R.length))] [] (mG G r t o x) Q
  | [], hR, hlen, o, ho, K => by
    repeat (first | refine e2_step rfl rfl ?_ | refine e2m_get rfl rfl ?_ | refine e2m_ld _ rfl rfl (by omega) ?_)
    refine e2_if rfl rfl (fun _ => ?_) (fun c => absurd (Int32.le_refl _) c)
    repeat (first | refine e2_step rfl rfl ?_ | refine e2m_get rfl rfl ?_ | refine e2m_ld _ rfl rfl (by omega) ?_)
    refine e2m_sto 0 rfl rfl (by omega) ?_
    exact e2_dropK (K _ (insOk_nil _ l o)) ⟨rfl, rfl, rfl, trivial⟩
  | a :: t', hR, hlen, o, ho, K => by
    rw [List.length_cons] at hlen
    have ha : a < 120 := hR a List.mem_cons_self
    have hoa : o t'.length = nI a := by rw [ho _ (by rw [List.length_cons]; omega)]; simp [revD]
    repeat (first | refine e2_step rfl rfl ?_ | refine e2m_get rfl rfl ?_ | refine e2m_ld _ rfl rfl (by omega) ?_)
    refine e2_if rfl rfl (fun c => absurd c (nI_nle (by rw [List.length_cons]; omega) (by rw [List.length_cons]; omega))) (fun _ => ?_)
    repeat (first | refine e2_step rfl rfl ?_ | refine e2m_get rfl rfl ?_ | refine e2m_ld _ rfl rfl (by omega) ?_)
    refine e2m_ldo t'.length rfl (by rw [List.length_cons, pk_sub (by omega), Nat.add_sub_cancel]) (by omega) ?_
    rw [hoa]
    refine e2_fi (m_rank' ha) rfl rfl ⟨rfl, rfl, rfl⟩ rfl rfl rfl (by first | exact hi | decide) rfl rfl rfl ?_
    repeat (first | refine e2_step rfl rfl ?_ | refine e2m_get rfl rfl ?_ | refine e2m_ld _ rfl rfl (by omega) ?_)
    refine e2_fi (m_rank' hl) rfl rfl ⟨rfl, rfl, rfl⟩ rfl rfl rfl (by first | exact hi | decide) rfl rfl rfl ?_
    refine e2_if rfl rfl (fun c => ?_) (fun c => ?_)
    · repeat (first | refine e2_step rfl rfl ?_ | refine e2m_get rfl rfl ?_ | refine e2m_ld _ rfl rfl (by omega) ?_)
      refine e2m_sto (t'.length + 1) rfl (by rw [List.length_cons]) (by omega) ?_
      refine e2_dropK (K _ (insOk_stop ?_ (fun j hj => ho j (by rw [List.length_cons]; omega)))) ⟨rfl, rfl, rfl, trivial⟩
      simp [gtB, Int32.not_lt.2 c]
    · repeat (first | refine e2_step rfl rfl ?_ | refine e2m_get rfl rfl ?_ | refine e2m_ld _ rfl rfl (by omega) ?_)
      refine e2m_ldo t'.length rfl (by rw [List.length_cons, pk_sub (by omega), Nat.add_sub_cancel]) (by omega) ?_
      rw [hoa]
      refine e2m_sto (t'.length + 1) rfl (by rw [List.length_cons]) (by omega) ?_
      repeat (first | refine e2_stepS 26 rfl rfl rfl ?_ | refine e2m_getS 26 rfl rfl rfl ?_ | refine e2m_ldS 26 rfl _ rfl rfl (by omega) ?_)
      rw [List.length_cons, pk_m1]
      refine m_lay2 hl t' (fun b hb => hR b (List.mem_cons_of_mem _ hb)) (by omega) _ (fun j hj => ?_) (fun o' ho' => K o' (insOk_go ?_ ho'))
      · rw [show upd o (t'.length + 1) (nI a) j = o j by simp [upd, show j ≠ t'.length + 1 by omega], ho j (by rw [List.length_cons]; omega)]
        conv => lhs; unfold revD
        rw [if_neg (by omega)]
      · simp [gtB, Int32.not_le.1 c]
def bagB (r : Nat → Int32) (l : Nat) : Bool := decide (ofr r l 3 = 0)
def bagR (r : Nat → Int32) (N : Nat) : List Nat := layR (gtB r) (bagB r) N
theorem m_layBag {N : Nat} (hN : r 100 = nI N) (hN2 : N ≤ 120) : FM ε jX9_layBag [] G r t o x (some (nI (bagR r N).length)) r t (ordA (bagR r N) o) x := by
  refine C2.of (ls := [some (.inr (0, 50)), none, none, none]) okX9_layBag rfl rfl ?_
  repeat (first | refine e2_stepS 4 rfl rfl rfl ?_ | refine e2m_getS 4 rfl rfl rfl ?_ | refine e2m_ldS 4 rfl _ rfl rfl (by omega) ?_)
  refine Eq.mp (congrArg (fun q => E2 ε jX9_layBag 4 _ [] (mG G r t q x) _) (ordA_nil o)) ?_
  refine e2_dropK (ls' := [some (.inr (0, 50)), some (.inl (nI 0)), some (.inl (nI 0)), none]) ?_ ⟨rfl, rfl, rfl, trivial⟩
  refine e2_for N (fun l => [some (.inr (0, 50)), some (.inl (nI (bagR r l).length)), some (.inl (nI l)), none]) (fun l => mG G r t (ordA (bagR r l) o) x) (fun l hl K => ?_) (fun M hM => ?_)
  · repeat (first | refine e2_step rfl rfl ?_ | refine e2m_get rfl rfl ?_ | refine e2m_ld _ rfl rfl (by omega) ?_)
    refine e2_if rfl rfl (fun c => absurd (hN ▸ c) (nI_ge hl (by omega))) (fun _ => ?_)
    repeat (first | refine e2_step rfl rfl ?_ | refine e2m_get rfl rfl ?_ | refine e2m_ld _ rfl rfl (by omega) ?_)
    refine e2_fi (m_of (l := l) (k := 3) (by omega) (by decide)) rfl rfl ⟨rfl, rfl, rfl⟩ rfl rfl rfl (by first | exact hi | decide) rfl rfl rfl ?_
    have hlen : (bagR r l).length ≤ l := by unfold bagR; rw [layR_len]; exact cntB_le _ _
    have hs : bagR r (l + 1) = if bagB r l then insR (gtB r) (bagR r l) l else bagR r l := rfl
    rw [hs] at K
    refine e2_if rfl rfl (fun c => ?_) (fun c => ?_)
    · have hb : bagB r l = false := by simp [bagB, c]
      rw [hb] at K
      repeat (first | refine e2_stepS 4 rfl rfl rfl ?_ | refine e2m_getS 4 rfl rfl rfl ?_ | refine e2m_ldS 4 rfl _ rfl rfl (by omega) ?_)
      rw [nI_add']
      exact K
    · have hb : bagB r l = true := by simp [bagB, Classical.not_not.1 c]
      rw [if_pos hb, insR_len] at K
      repeat (first | refine e2_stepS 26 rfl rfl rfl ?_ | refine e2m_getS 26 rfl rfl rfl ?_ | refine e2m_ldS 26 rfl _ rfl rfl (by omega) ?_)
      refine m_lay2 (by omega) _ (fun a ha => ?_) (by omega) _ (fun j hj => ordA_at hj) (fun o' ho' => ?_)
      · have := (layR_mem _ _ l a).1 ha
        omega
      · rw [insOk_ord ho']
        repeat (first | refine e2_stepS 4 rfl rfl rfl ?_ | refine e2m_getS 4 rfl rfl rfl ?_ | refine e2m_ldS 4 rfl _ rfl rfl (by omega) ?_)
        rw [nI_add', nI_add']
        exact K
  · repeat (first | refine e2_step rfl rfl ?_ | refine e2m_get rfl rfl ?_ | refine e2m_ld _ rfl rfl (by omega) ?_)
    refine e2_if rfl rfl (fun c => ?_) (fun c => absurd (by rw [hN, hM]; exact Int32.le_refl _) c)
    repeat (first | refine e2_step rfl rfl ?_ | refine e2m_get rfl rfl ?_ | refine e2m_ld _ rfl rfl (by omega) ?_)
    exact e2_iret rfl rfl ⟨by rw [hM], by rw [hM]⟩
end MJ
