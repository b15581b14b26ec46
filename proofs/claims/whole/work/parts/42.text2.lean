/-! The class's text: its ranges are read. -/
section NZ4
variable {ε : EE} {J : JT} {pc : Nat} {ls : List (Option V0)} {st : List V0} {G : GG} {t f u w x : Nat → Int32} {Q : Option Int32 → GG → Prop}
/-- what reading one range leaves -/
def rgG (G : GG) (t f u w x : Nat → Int32) (k n a : Nat) : GG := match rd1 t n a with
  | (a', none) => xG G t f u w (xst x k a' true)
  | (a', some q) => xG G t (upd f k (nI q.1)) (upd u k (nI q.2.1)) (upd w k (nI q.2.2)) (xst x (k + 1) a' false)
theorem x_range {n a k : Nat} (hx1 : x 1 = nI n) (hn : n ≤ 80) (ha : a ≤ n) (hk : k < 14) : F2 ε jX6_readRange [.inr (0, 33)] (xG G t f u w (xst x k a false)) none (rgG G t f u w x k n a) := by
  have b29 : ∀ a', rd1 t n a = (a', none) → ∀ l1 l2 l3, E2 ε jX6_readRange 29 [some (.inr (0, 33)), l1, l2, l3] [] (xG G t f u w (xst x k a' true)) (fun v' G' => v' = none ∧ G' = rgG G t f u w x k n a) := by
    intro a' he l1 l2 l3
    repeat (first | refine e2_step rfl rfl ?_ | refine e2x_get rfl rfl ?_)
    refine e2_if rfl rfl (fun _ => ?_) (fun z => absurd (show ¬ nI 1 = 0 by decide) z)
    exact e2_vret rfl rfl ⟨rfl, by unfold rgG; rw [he]⟩
  have b22 : ∀ a', a' ≤ n → rd1 t n a = (a', none) → ∀ l1 l2 l3, E2 ε jX6_readRange 22 [some (.inr (0, 33)), l1, l2, l3] [] (xG G t f u w (xst x k a' true)) (fun v' G' => v' = none ∧ G' = rgG G t f u w x k n a) := by
    intro a' ha' he l1 l2 l3
    repeat (first | refine e2_step rfl rfl ?_ | refine e2x_get rfl rfl ?_)
    refine e2_fi (x_digit (a := a') (br := true) (m := 7) (by omega) hx1 hn ha') rfl rfl ⟨rfl, rfl, rfl⟩ rfl rfl rfl (by first | exact hi | decide) rfl rfl rfl ?_
    rw [rdD_t]
    repeat (first | refine e2_stepS 29 rfl rfl rfl ?_ | refine e2x_getS 29 rfl rfl rfl ?_)
    exact b29 a' he _ _ _
  have b16 : ∀ a', a' ≤ n → rd1 t n a = (a', none) → ∀ l1 l2 l3, E2 ε jX6_readRange 16 [some (.inr (0, 33)), l1, l2, l3] [] (xG G t f u w (xst x k a' true)) (fun v' G' => v' = none ∧ G' = rgG G t f u w x k n a) := by
    intro a' ha' he l1 l2 l3
    repeat (first | refine e2_step rfl rfl ?_ | refine e2x_get rfl rfl ?_)
    refine e2_fv (x_sign (a := a') (br := true) hx1 hn ha' (nI 61)) rfl rfl ⟨rfl, rfl, rfl⟩ rfl rfl rfl (by first | exact hi | decide) rfl rfl rfl ?_
    rw [rdS_t]
    exact b22 a' ha' he _ _ _
  have b11 : ∀ a', a' ≤ n → rd1 t n a = (a', none) → ∀ l1 l2 l3, E2 ε jX6_readRange 11 [some (.inr (0, 33)), l1, l2, l3] [] (xG G t f u w (xst x k a' true)) (fun v' G' => v' = none ∧ G' = rgG G t f u w x k n a) := by
    intro a' ha' he l1 l2 l3
    repeat (first | refine e2_step rfl rfl ?_ | refine e2x_get rfl rfl ?_)
    refine e2_fi (x_number (a := a') (br := true) hx1 hn ha') rfl rfl ⟨rfl, rfl, rfl⟩ rfl rfl rfl (by first | exact hi | decide) rfl rfl rfl ?_
    rw [show rdN t n a' true = (a', true, 0) from rfl]
    repeat (first | refine e2_stepS 16 rfl rfl rfl ?_ | refine e2x_getS 16 rfl rfl rfl ?_)
    exact b16 a' ha' he _ _ _
  have b5 : ∀ a', a' ≤ n → rd1 t n a = (a', none) → ∀ l1 l2 l3, E2 ε jX6_readRange 5 [some (.inr (0, 33)), l1, l2, l3] [] (xG G t f u w (xst x k a' true)) (fun v' G' => v' = none ∧ G' = rgG G t f u w x k n a) := by
    intro a' ha' he l1 l2 l3
    repeat (first | refine e2_step rfl rfl ?_ | refine e2x_get rfl rfl ?_)
    refine e2_fv (x_sign (a := a') (br := true) hx1 hn ha' (nI 45)) rfl rfl ⟨rfl, rfl, rfl⟩ rfl rfl rfl (by first | exact hi | decide) rfl rfl rfl ?_
    rw [rdS_t]
    exact b11 a' ha' he _ _ _
  refine C2.of (ls := [some (.inr (0, 33)), none, none, none]) okX6_readRange rfl rfl ?_
  repeat (first | refine e2_step rfl rfl ?_ | refine e2x_get rfl rfl ?_)
  refine e2_fi (x_number (a := a) (br := false) hx1 hn ha) rfl rfl ⟨rfl, rfl, rfl⟩ rfl rfl rfl (by first | exact hi | decide) rfl rfl rfl ?_
  have e0 : ∀ a, rdN t n a false = match tkN t n a with
    | none => (a, true, 0)
    | some (a', v) => (a', false, v) := fun _ => rfl
  rw [e0]
  cases e1 : tkN t n a with
  | none =>
    repeat (first | refine e2_stepS 5 rfl rfl rfl ?_ | refine e2x_getS 5 rfl rfl rfl ?_)
    exact b5 a ha (by unfold rd1; rw [e1]) _ _ _
  | some q1 =>
    obtain ⟨a1, v1⟩ := q1
    have b1 := tkN_of e1
    repeat (first | refine e2_step rfl rfl ?_ | refine e2x_get rfl rfl ?_)
    refine e2_fv (x_sign (a := a1) (br := false) hx1 hn b1.2.1 (nI 45)) rfl rfl ⟨rfl, rfl, rfl⟩ rfl rfl rfl (by first | exact hi | decide) rfl rfl rfl ?_
    cases e2 : tkS t n a1 (nI 45) with
    | none =>
      rw [rdS_none e2]
      exact b11 a1 b1.2.1 (by unfold rd1; rw [e1]; dsimp only; rw [e2]) _ _ _
    | some a2 =>
      have b2 := tkS_of e2
      rw [rdS_some e2]
      repeat (first | refine e2_step rfl rfl ?_ | refine e2x_get rfl rfl ?_)
      refine e2_fi (x_number (a := a2) (br := false) hx1 hn b2.2) rfl rfl ⟨rfl, rfl, rfl⟩ rfl rfl rfl (by first | exact hi | decide) rfl rfl rfl ?_
      rw [e0]
      cases e3 : tkN t n a2 with
      | none =>
        repeat (first | refine e2_stepS 16 rfl rfl rfl ?_ | refine e2x_getS 16 rfl rfl rfl ?_)
        exact b16 a2 b2.2 (by unfold rd1; rw [e1]; dsimp only; rw [e2]; dsimp only; rw [e3]) _ _ _
      | some q3 =>
        obtain ⟨a3, v3⟩ := q3
        have b3 := tkN_of e3
        repeat (first | refine e2_step rfl rfl ?_ | refine e2x_get rfl rfl ?_)
        refine e2_fv (x_sign (a := a3) (br := false) hx1 hn b3.2.1 (nI 61)) rfl rfl ⟨rfl, rfl, rfl⟩ rfl rfl rfl (by first | exact hi | decide) rfl rfl rfl ?_
        cases e4 : tkS t n a3 (nI 61) with
        | none =>
          rw [rdS_none e4]
          exact b22 a3 b3.2.1 (by unfold rd1; rw [e1]; dsimp only; rw [e2]; dsimp only; rw [e3]; dsimp only; rw [e4]) _ _ _
        | some a4 =>
          have b4 := tkS_of e4
          rw [rdS_some e4]
          repeat (first | refine e2_step rfl rfl ?_ | refine e2x_get rfl rfl ?_)
          refine e2_fi (x_digit (a := a4) (br := false) (m := 7) (by omega) hx1 hn b4.2) rfl rfl ⟨rfl, rfl, rfl⟩ rfl rfl rfl (by first | exact hi | decide) rfl rfl rfl ?_
          cases e5 : dgB t n a4 7 with
          | false =>
            have e6 : rdD t n a4 false 7 = (a4, true, 0) := by unfold rdD; rw [if_neg (fun z => by rw [e5] at z; exact Bool.noConfusion z.2)]
            rw [e6]
            repeat (first | refine e2_stepS 29 rfl rfl rfl ?_ | refine e2x_getS 29 rfl rfl rfl ?_)
            exact b29 a4 (by unfold rd1; rw [e1]; dsimp only; rw [e2]; dsimp only; rw [e3]; dsimp only; rw [e4]; dsimp only; rw [e5]; rfl) _ _ _
          | true =>
            obtain ⟨d1, d2, d3⟩ := dgB_of (by omega) e5
            have e6 : rdD t n a4 false 7 = (a4 + 1, false, dgt t a4) := by unfold rdD; rw [if_pos ⟨rfl, e5⟩]
            have hr1 : rd1 t n a = (a4 + 1, some (v1, v3, dgt t a4)) := by unfold rd1; rw [e1]; dsimp only; rw [e2]; dsimp only; rw [e3]; dsimp only; rw [e4]; dsimp only; rw [e5]; rfl
            rw [e6]
            repeat (first | refine e2_step rfl rfl ?_ | refine e2x_get rfl rfl ?_)
            refine e2_if rfl rfl (fun z => absurd rfl z) (fun _ => ?_)
            repeat (first | refine e2_step rfl rfl ?_ | refine e2x_get rfl rfl ?_)
            rw [show xst x k (a4 + 1) false 5 = nI k from rfl]
            refine e2_if rfl rfl (fun z => absurd (show nI 14 ≤ nI k from z) (nI_ge (by omega) (by omega))) (fun _ => ?_)
            repeat (first | refine e2_step rfl rfl ?_ | refine e2x_get rfl rfl ?_)
            refine e2_iast (i := 0) (kk := 35) k rfl rfl (by decide) rfl (by omega) ?_
            rw [xG_w35]
            repeat (first | refine e2_step rfl rfl ?_ | refine e2x_get rfl rfl ?_)
            refine e2_iast (i := 0) (kk := 36) k rfl rfl (by decide) rfl (by omega) ?_
            rw [xG_w36]
            repeat (first | refine e2_step rfl rfl ?_ | refine e2x_get rfl rfl ?_)
            refine e2_iast (i := 0) (kk := 37) k rfl rfl (by decide) rfl (by omega) ?_
            rw [xG_w37]
            repeat (first | refine e2_step rfl rfl ?_ | refine e2x_get rfl rfl ?_)
            rw [show xst x k (a4 + 1) false 5 = nI k from rfl, nI_add']
            refine e2x_put rfl (by omega) ?_
            rw [xst_5]
            exact e2_vret rfl rfl ⟨rfl, by unfold rgG; rw [hr1]⟩
theorem rd1_5 {n a a' : Nat} {q : Nat × Nat × Nat} (h : rd1 t n a = (a', some q)) : a + 5 ≤ a' := by
  unfold rd1 at h
  split at h
  · cases h
  · rename_i a1 f h1
    split at h
    · cases h
    · rename_i a2 h2
      split at h
      · cases h
      · rename_i a3 g h3
        split at h
        · cases h
        · rename_i a4 h4
          split at h
          · cases h
            have e1 := tkN_of h1
            have e2 := tkS_of h2
            have e3 := tkN_of h3
            have e4 := tkS_of h4
            omega
          · cases h
/-- the rows from place i on hold the ranges -/
def lsOk (f u w : Nat → Int32) (i : Nat) (L : List (Nat × Nat × Nat)) : Prop := ∀ j q, L[j]? = some q → f (i + j) = nI q.1 ∧ u (i + j) = nI q.2.1 ∧ w (i + j) = nI q.2.2
theorem lsOk_cons {i : Nat} {q : Nat × Nat × Nat} {L : List (Nat × Nat × Nat)} (h0 : f i = nI q.1 ∧ u i = nI q.2.1 ∧ w i = nI q.2.2) (h : lsOk f u w (i + 1) L) : lsOk f u w i (q :: L) := by
  intro j z hz
  cases j with
  | zero =>
    simp at hz
    subst hz
    exact h0
  | succ j =>
    have := h j z (by simpa using hz)
    rw [show i + (j + 1) = i + 1 + j by omega]
    exact this
def fltI : Option Nat → Int32
  | some p => nI p
  | none => -9
/-- how reading the ranges ends: its answer and what it leaves -/
def rdQ (G : GG) (t f u w x : Nat → Int32) (i : Nat) (P : List (Nat × Nat × Nat) × Option Nat) (v' : Option Int32) (G' : GG) : Prop := ∃ f' u' w' i' a' br', v' = some (fltI P.2) ∧ G' = xG G t f' u' w' (xst x i' a' br') ∧ (P.2 = none → i' = i + P.1.length ∧ (∀ j, j < i → f' j = f j ∧ u' j = u j ∧ w' j = w j) ∧ lsOk f' u' w' i P.1)
theorem x_readL {n : Nat} (hx1 : x 1 = nI n) (hn : n ≤ 80) : ∀ (k a i : Nat) (f u w : Nat → Int32), a ≤ n → n < a + k → 6 * i ≤ a → E2 ε jX6_read 17 [some (.inr (0, 33)), some (.inl (nI i))] [] (xG G t f u w (xst x i a false)) (rdQ G t f u w x i (prs t n k a)) := by
  intro k
  induction k with
  | zero => intro a i f u w ha hk; omega
  | succ k ih =>
    intro a i f u w ha hk hi6
    have hend : ∀ j i' a' f' u' w', (prs t n (k + 1) a).2 = some a' → j < 1000 → E2 ε jX6_read 17 [some (.inr (0, 33)), some (.inl (nI j))] [] (xG G t f' u' w' (xst x i' a' true)) (rdQ G t f u w x i (prs t n (k + 1) a)) := by
      intro j i' a' f' u' w' hp hj
      have h67 : E2 ε jX6_read 67 [some (.inr (0, 33)), some (.inl (nI j))] [] (xG G t f' u' w' (xst x i' a' true)) (rdQ G t f u w x i (prs t n (k + 1) a)) := by
        repeat (first | refine e2_step rfl rfl ?_ | refine e2x_get rfl rfl ?_)
        refine e2_iret rfl rfl ⟨f', u', w', i', a', true, ?_, rfl, fun z => ?_⟩
        · rw [hp]; rfl
        · rw [hp] at z; cases z
      repeat (first | refine e2_step rfl rfl ?_ | refine e2x_get rfl rfl ?_)
      refine e2_if rfl rfl (fun _ => h67) (fun _ => ?_)
      repeat (first | refine e2_step rfl rfl ?_ | refine e2x_get rfl rfl ?_)
      refine e2_if rfl rfl (fun _ => h67) (fun z => absurd (show ¬ nI 1 = 0 by decide) z)
    have hi : i < 14 := by omega
    have hps : prs t n (k + 1) a = match rd1 t n a with
      | (a', none) => ([], some a')
      | (a', some q) => match tkS t n a' (nI 59) with
        | some a'' => (q :: (prs t n k a'').1, (prs t n k a'').2)
        | none => ([q], if a' < n then some a' else none) := rfl
    have hle := rd1_le (t := t) ha
    repeat (first | refine e2_step rfl rfl ?_ | refine e2x_get rfl rfl ?_)
    refine e2_if rfl rfl (fun z => absurd (show nI 14 ≤ nI i from z) (nI_ge (by omega) (by omega))) (fun _ => ?_)
    repeat (first | refine e2_step rfl rfl ?_ | refine e2x_get rfl rfl ?_)
    refine e2_if rfl rfl (fun z => absurd rfl z) (fun _ => ?_)
    repeat (first | refine e2_step rfl rfl ?_ | refine e2x_get rfl rfl ?_)
    refine e2_fv (x_range (f := f) (u := u) (w := w) (a := a) (k := i) hx1 hn ha hi) rfl rfl ⟨rfl, rfl, rfl⟩ rfl rfl rfl (by first | exact hi | decide) rfl rfl rfl ?_
    unfold rgG
    cases e1 : rd1 t n a with
    | mk a' oq =>
    rw [e1] at hle
    cases oq with
    | none =>
      have hp : prs t n (k + 1) a = ([], some a') := by rw [hps, e1]
      dsimp only
      repeat (first | refine e2_step rfl rfl ?_ | refine e2x_get rfl rfl ?_)
      refine e2_if rfl rfl (fun _ => ?_) (fun z => absurd (show ¬ nI 1 = 0 by decide) z)
      repeat (first | refine e2_step rfl rfl ?_ | refine e2x_get rfl rfl ?_)
      refine e2_fv (x_sign (a := a') (br := true) hx1 hn hle (nI 59)) rfl rfl ⟨rfl, rfl, rfl⟩ rfl rfl rfl (by first | exact hi | decide) rfl rfl rfl ?_
      rw [rdS_t]
      repeat (first | refine e2_stepS 17 rfl rfl rfl ?_ | refine e2x_getS 17 rfl rfl rfl ?_)
      rw [nI_add']
      exact hend _ _ _ _ _ _ (by rw [hp]) (by omega)
    | some q =>
      have h5 := rd1_5 e1
      dsimp only
      repeat (first | refine e2_step rfl rfl ?_ | refine e2x_get rfl rfl ?_)
      refine e2_if rfl rfl (fun z => absurd rfl z) (fun _ => ?_)
      repeat (first | refine e2_step rfl rfl ?_ | refine e2x_get rfl rfl ?_)
      rw [show xst x (i + 1) a' false 6 = nI a' from rfl, show xst x (i + 1) a' false 1 = nI n from hx1]
      have h55 : ¬ (a' = n ∧ tkS t n a' (nI 59) = none) → E2 ε jX6_read 55 [some (.inr (0, 33)), some (.inl (nI i))] [] (xG G t (upd f i (nI q.1)) (upd u i (nI q.2.1)) (upd w i (nI q.2.2)) (xst x (i + 1) a' false)) (rdQ G t f u w x i (prs t n (k + 1) a)) := by
        intro hne
        repeat (first | refine e2_step rfl rfl ?_ | refine e2x_get rfl rfl ?_)
        refine e2_fv (x_sign (a := a') (br := false) hx1 hn hle (nI 59)) rfl rfl ⟨rfl, rfl, rfl⟩ rfl rfl rfl (by first | exact hi | decide) rfl rfl rfl ?_
        cases e2 : tkS t n a' (nI 59) with
        | none =>
          have hlt : a' < n := by
            rcases Nat.lt_or_ge a' n with z | z
            · exact z
            · exact absurd ⟨Nat.le_antisymm hle z, e2⟩ hne
          have hp : prs t n (k + 1) a = ([q], some a') := by rw [hps, e1]; dsimp only; rw [e2]; dsimp only; rw [if_pos hlt]
          rw [rdS_none e2]
          repeat (first | refine e2_stepS 17 rfl rfl rfl ?_ | refine e2x_getS 17 rfl rfl rfl ?_)
          rw [nI_add']
          exact hend _ _ _ _ _ _ (by rw [hp]) (by omega)
        | some a'' =>
          have b2 := tkS_of e2
          have hp : prs t n (k + 1) a = (q :: (prs t n k a'').1, (prs t n k a'').2) := by rw [hps, e1]; dsimp only; rw [e2]
          rw [rdS_some e2]
          repeat (first | refine e2_stepS 17 rfl rfl rfl ?_ | refine e2x_getS 17 rfl rfl rfl ?_)
          rw [nI_add']
          have K := ih a'' (i + 1) (upd f i (nI q.1)) (upd u i (nI q.2.1)) (upd w i (nI q.2.2)) b2.2 (by omega) (by omega)
          have hQ : ∀ v' G', rdQ G t (upd f i (nI q.1)) (upd u i (nI q.2.1)) (upd w i (nI q.2.2)) x (i + 1) (prs t n k a'') v' G' → rdQ G t f u w x i (prs t n (k + 1) a) v' G' := by
            rintro v' G' ⟨f', u', w', i', a3, br', h1, h2, h3⟩
            refine ⟨f', u', w', i', a3, br', by rw [hp]; exact h1, h2, fun z => ?_⟩
            rw [hp] at z ⊢
            obtain ⟨g1, g2, g3⟩ := h3 z
            have e9 : ∀ (g : Nat → Int32) (y : Int32) (j : Nat), j < i → upd g i y j = g j := fun g y j hj => by unfold upd; rw [if_neg (by omega)]
            refine ⟨by rw [g1, List.length_cons]; omega, fun j hj => ?_, lsOk_cons ?_ g3⟩
            · have := g2 j (by omega)
              rw [e9 _ _ _ hj, e9 _ _ _ hj, e9 _ _ _ hj] at this
              exact this
            · have := g2 i (by omega)
              simpa [upd] using this
          exact e2_post hQ K
      refine e2_if rfl rfl (fun z => ?_) (fun z => ?_)
      · have z2 : ¬ nI a' = nI n := z
        rw [nI_eq (by omega) (by omega)] at z2
        exact h55 (fun y => z2 y.1)
      · have z2 : nI a' = nI n := Classical.not_not.1 z
        rw [nI_eq (by omega) (by omega)] at z2
        have e2 : tkS t n a' (nI 59) = none := by unfold tkS; rw [if_neg (by omega)]
        have hp : prs t n (k + 1) a = ([q], none) := by rw [hps, e1]; dsimp only; rw [e2]; dsimp only; rw [if_neg (by omega)]
        have e9 : ∀ (g : Nat → Int32) (y : Int32) (j : Nat), j < i → upd g i y j = g j := fun g y j hj => by unfold upd; rw [if_neg (by omega)]
        repeat (first | refine e2_step rfl rfl ?_ | refine e2x_get rfl rfl ?_)
        refine e2_iret rfl rfl ⟨_, _, _, i + 1, a', false, by rw [hp]; rfl, rfl, fun _ => ?_⟩
        rw [hp]
        refine ⟨rfl, fun j hj => ⟨e9 _ _ _ hj, e9 _ _ _ hj, e9 _ _ _ hj⟩, lsOk_cons ?_ (fun j z hz => by simp at hz)⟩
        simp [upd]
theorem x_read {n : Nat} (hx1 : x 1 = nI n) (hn : n ≤ 80) : C2 ε jX6_read [.inr (0, 33)] (xG G t f u w x) (rdQ G t f u w x 0 (prs t n (n + 1) 0)) := by
  refine C2.of (ls := [some (.inr (0, 33)), none]) okX6_read rfl rfl ?_
  repeat (first | refine e2_step rfl rfl ?_ | refine e2x_get rfl rfl ?_)
  refine e2x_put rfl (by omega) ?_
  repeat (first | refine e2_step rfl rfl ?_ | refine e2x_get rfl rfl ?_)
  refine e2x_putz rfl (Or.inl rfl) ?_
  repeat (first | refine e2_step rfl rfl ?_ | refine e2x_get rfl rfl ?_)
  refine e2x_put rfl (by omega) ?_
  have e : upd (upd (upd x 6 (nI 0)) 7 (nI 0)) 5 (nI 0) = xst x 0 0 false := by
    funext j
    unfold xst upd
    by_cases h : j = 5
    · simp [h]
    · by_cases h2 : j = 7
      · simp [h2]; rfl
      · simp [h, h2]
  rw [e]
  repeat (first | refine e2_stepS 17 rfl rfl rfl ?_ | refine e2x_getS 17 rfl rfl rfl ?_)
  exact x_readL hx1 hn (n + 1) 0 0 f u w (by omega) (by omega) (by omega)
theorem x_reversed {L : List (Nat × Nat × Nat)} (hk : x 5 = nI L.length) (hk14 : L.length ≤ 14) (hL : lsOk f u w 0 L) (h100 : ∀ q, q ∈ L → q.1 < 100 ∧ q.2.1 < 100) : F2 ε jX6_hasReversedRange [.inr (0, 33)] (xG G t f u w x) (some (bI (dwnB L))) (xG G t f u w x) := by
  refine C2.of (ls := [some (.inr (0, 33)), none]) okX6_hasReversedRange rfl rfl ?_
  repeat (first | refine e2_stepS 2 rfl rfl rfl ?_ | refine e2x_getS 2 rfl rfl rfl ?_)
  have h : ∀ k i, i + k = L.length → E2 ε jX6_hasReversedRange 2 [some (.inr (0, 33)), some (.inl (nI i))] [] (xG G t f u w x) (fun v' G' => v' = some (bI (dwnB (L.drop i))) ∧ G' = xG G t f u w x) := by
    intro k
    induction k with
    | zero =>
      intro i hi
      have hd : L.drop i = [] := List.drop_eq_nil_of_le (by omega)
      rw [hd]
      repeat (first | refine e2_step rfl rfl ?_ | refine e2x_get rfl rfl ?_)
      rw [hk]
      refine e2_if rfl rfl (fun _ => ?_) (fun z => absurd (nI_le (by omega) (by omega)) z)
      repeat (first | refine e2_step rfl rfl ?_ | refine e2x_get rfl rfl ?_)
      exact e2_zret rfl rfl rfl ⟨rfl, rfl⟩
    | succ k ih =>
      intro i hi
      have hil : i < L.length := by omega
      have hd : L.drop i = L[i] :: L.drop (i + 1) := List.drop_eq_getElem_cons hil
      obtain ⟨g1, g2, -⟩ := hL i L[i] (by simp [hil])
      rw [Nat.zero_add] at g1 g2
      obtain ⟨y1, y2⟩ := h100 L[i] (List.getElem_mem hil)
      have e : dwnB (L.drop i) = (decide (L[i].2.1 < L[i].1) || dwnB (L.drop (i + 1))) := by rw [hd]; rfl
      have K := ih (i + 1) (by omega)
      rw [e]
      generalize L[i] = q at g1 g2 y1 y2 ⊢
      repeat (first | refine e2_step rfl rfl ?_ | refine e2x_get rfl rfl ?_)
      rw [hk]
      refine e2_if rfl rfl (fun z => absurd z (nI_ge (by omega) (by omega))) (fun _ => ?_)
      repeat (first | refine e2_step rfl rfl ?_ | refine e2x_get rfl rfl ?_)
      refine e2_iald (i := 0) (kk := 35) i rfl rfl (by decide) rfl (by omega) ?_
      repeat (first | refine e2_step rfl rfl ?_ | refine e2x_get rfl rfl ?_)
      refine e2_iald (i := 0) (kk := 36) i rfl rfl (by decide) rfl (by omega) ?_
      rw [show xG G t f u w x 0 35 i = f i from rfl, show xG G t f u w x 0 36 i = u i from rfl, g1, g2]
      refine e2_if rfl rfl (fun z => ?_) (fun z => ?_)
      · rw [nI_leI (by omega) (by omega)] at z
        rw [decide_eq_false (by omega), Bool.false_or]
        repeat (first | refine e2_stepS 2 rfl rfl rfl ?_ | refine e2x_getS 2 rfl rfl rfl ?_)
        rw [nI_add']
        exact K
      · rw [nI_leI (by omega) (by omega)] at z
        rw [decide_eq_true (by omega), Bool.true_or]
        repeat (first | refine e2_step rfl rfl ?_ | refine e2x_get rfl rfl ?_)
        exact e2_zret rfl rfl rfl ⟨rfl, rfl⟩
  exact h L.length 0 (by omega)
theorem x_isFull {n : Nat} (hx1 : x 1 = nI n) (hn : n ≤ 80) : F2 ε jX6_isFull [.inr (0, 33)] (xG G t f u w x) (some (bI (decide (¬ n < 80)))) (xG G t f u w x) := by
  refine C2.of (ls := [some (.inr (0, 33))]) okX6_isFull rfl rfl ?_
  repeat (first | refine e2_step rfl rfl ?_ | refine e2x_get rfl rfl ?_)
  rw [hx1]
  refine e2_if rfl rfl (fun z => ?_) (fun z => ?_)
  · have z2 : nI n < nI 80 := z
    rw [nI_ltI (by omega) (by omega)] at z2
    rw [decide_eq_false (fun y => y z2)]
    repeat (first | refine e2_step rfl rfl ?_ | refine e2x_get rfl rfl ?_)
    exact e2_zret rfl rfl rfl ⟨rfl, rfl⟩
  · have z2 : ¬ nI n < nI 80 := z
    rw [nI_ltI (by omega) (by omega)] at z2
    rw [decide_eq_true z2]
    repeat (first | refine e2_step rfl rfl ?_ | refine e2x_get rfl rfl ?_)
    exact e2_zret rfl rfl rfl ⟨rfl, rfl⟩
theorem x_add {n : Nat} (hx1 : x 1 = nI n) (hn : n < 80) (y : Int32) (hy : vp_nar .char y = y) : F2 ε jX6_add [.inr (0, 33), .inl y] (xG G t f u w x) none (xG G (upd t n y) f u w (upd x 1 (nI (n + 1)))) := by
  refine C2.of (ls := [some (.inr (0, 33)), some (.inl y)]) okX6_add rfl rfl ?_
  repeat (first | refine e2_step rfl rfl ?_ | refine e2x_get rfl rfl ?_)
  rw [hx1]
  refine e2_if rfl rfl (fun z => absurd (show nI 80 ≤ nI n from z) (nI_ge (by omega) (by omega))) (fun _ => ?_)
  repeat (first | refine e2_step rfl rfl ?_ | refine e2x_get rfl rfl ?_)
  refine e2x_cast n rfl hx1 hn hy ?_
  repeat (first | refine e2_step rfl rfl ?_ | refine e2x_get rfl rfl ?_)
  rw [hx1, nI_add']
  refine e2x_put rfl (by omega) ?_
  exact e2_vret rfl rfl ⟨rfl, rfl⟩
end NZ4
