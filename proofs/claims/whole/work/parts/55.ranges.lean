/-! Calls of the text: append, clearText, setRanges. -/
section OM
variable {ε : EE} {J J1 J2 : JT} {pc : Nat} {ls : List (Option V0)} {st : List V0} {As : List V0} {G G' G1 : GG} {i N : Nat} {V V' : VV} {s : Int32} {r r' r1 r2 t t' f u w x x' x2 o : Nat → Int32} {K K' : Nat} {Q : Option Int32 → GG → Prop}
theorem fx_self {v : Option Int32} (h : F2 ε J As (xG G (G 0 34) (G 0 35) (G 0 36) (G 0 37) (G 0 33)) v G') : F2 ε J As G v G' := by
  rw [xG_self] at h
  exact h
theorem fx_same {v : Option Int32} (h : F2 ε J As (xG G (G 0 34) (G 0 35) (G 0 36) (G 0 37) (G 0 33)) v (xG G (G 0 34) (G 0 35) (G 0 36) (G 0 37) (G 0 33))) : F2 ε J As G v G := by
  rw [xG_self] at h
  exact h
theorem cx_self (h : C2 ε J As (xG G (G 0 34) (G 0 35) (G 0 36) (G 0 37) (G 0 33)) Q) : C2 ε J As G Q := by
  rw [xG_self] at h
  exact h
theorem xG_o {i kk : Nat} (h : ¬ (33 ≤ kk ∧ kk ≤ 37)) : xG G t f u w x i kk = G i kk := by
  unfold xG
  rw [setA_k _ _ _ _ _ _ (by omega), setA_k _ _ _ _ _ _ (by omega), setA_k _ _ _ _ _ _ (by omega), setA_k _ _ _ _ _ _ (by omega), setA_k _ _ _ _ _ _ (by omega)]
theorem RR.txt (h : RR G r t x K) (ho : ∀ i kk, ¬ (33 ≤ kk ∧ kk ≤ 37) → G1 i kk = G i kk) (hx : x' 1 = x 1) (hT : RT G1 t' x') : RR G1 r t' x' K := by
  obtain ⟨h1, ⟨d, hm, h2⟩, -⟩ := h
  exact ⟨h1.same (fun i kk _ _ a => ho i kk (by omega)) (ho 0 22 (by omega)), ⟨d, hm, h2.same (fun i kk _ _ a => ho i kk (by omega)) (fun m _ _ => ho m 22 (by omega)) (by rw [ho 0 31 (by omega)]) (ho 0 32 (by omega)) hx (fun _ _ _ => rfl)⟩, hT⟩
theorem i2c_small : ∀ y, y < 256 → ((nI y).toUInt32 % 65536).toInt32 = nI y := by decide +kernel
theorem char_small : ∀ y, y < 256 → vp_nar .char (nI y) = nI y := by decide +kernel
theorem op_append (h : RR G r t x K) (c : Int32) : OpOk ε jX8_append jX9_append [.inl c] G r t x K := by
  obtain ⟨n, hn80, hnc, hnx, h34⟩ := h.2.2
  by_cases hc : isInB c (nI 1) (nI 255) = true
  · obtain ⟨y, hy1, hy2, rfl⟩ := isIn_ab (by decide) (by decide) hc
    by_cases h80 : n = 80
    · subst h80
      refine OpOk.same (a := -3) h ?_ (fun G1 o => ⟨o, ?_⟩)
      · refine C2.of (ls := [some (.inr (0, 30)), some (.inl (nI y))]) okX8_append rfl rfl ?_
        repeat (first | refine e2_step rfl rfl ?_ | refine e2_get rfl (by first | exact hi | decide) rfl rfl ?_)
        refine e2_fs (c_isIn (nI y) (nI 1) (nI 255)) rfl rfl ⟨rfl, rfl, rfl⟩ rfl rfl rfl ?_
        rw [hc]
        refine e2_if rfl rfl (fun _ => ?_) (fun z => absurd (by decide) z)
        repeat (first | refine e2_step rfl rfl ?_ | refine e2_get rfl (by first | exact hi | decide) rfl rfl ?_)
        refine e2_fi (fx_same (x_isFull hnc (by omega))) rfl rfl ⟨rfl, rfl, rfl⟩ rfl rfl rfl (by first | exact hi | decide) rfl rfl rfl ?_
        rw [decide_eq_true (p := ¬ 80 < 80) (by omega)]
        refine e2_if rfl rfl (fun z => absurd z (by decide)) (fun _ => ?_)
        repeat (first | refine e2_step rfl rfl ?_ | refine e2_get rfl (by first | exact hi | decide) rfl rfl ?_)
        exact e2_iret rfl rfl ⟨rfl, rfl⟩
      · refine C2.of (ls := [some (.inr (0, 50)), some (.inl (nI y))]) okX9_append rfl rfl ?_
        repeat (first | refine e2_step rfl rfl ?_ | refine e2m_get rfl rfl ?_ | refine e2m_ld _ rfl rfl (by omega) ?_)
        refine e2_fs (m_in (nI y) (nI 1) (nI 255)) rfl rfl ⟨rfl, rfl, rfl⟩ rfl rfl rfl ?_
        rw [hc]
        refine e2_if rfl rfl (fun _ => ?_) (fun z => absurd (by decide) z)
        repeat (first | refine e2_step rfl rfl ?_ | refine e2m_get rfl rfl ?_ | refine e2m_ld _ rfl rfl (by omega) ?_)
        rw [hnx]
        refine e2_if rfl rfl (fun z => absurd rfl z) (fun _ => ?_)
        repeat (first | refine e2_step rfl rfl ?_ | refine e2m_get rfl rfl ?_ | refine e2m_ld _ rfl rfl (by omega) ?_)
        exact e2_iret rfl rfl ⟨rfl, rfl⟩
    · refine ⟨nI (n + 1), r, upd t n (nI y), upd x 3 (nI (n + 1)), ?_, fun G1 o => ?_⟩
      · refine C2.of (ls := [some (.inr (0, 30)), some (.inl (nI y))]) okX8_append rfl rfl ?_
        repeat (first | refine e2_step rfl rfl ?_ | refine e2_get rfl (by first | exact hi | decide) rfl rfl ?_)
        refine e2_fs (c_isIn (nI y) (nI 1) (nI 255)) rfl rfl ⟨rfl, rfl, rfl⟩ rfl rfl rfl ?_
        rw [hc]
        refine e2_if rfl rfl (fun _ => ?_) (fun z => absurd (by decide) z)
        repeat (first | refine e2_step rfl rfl ?_ | refine e2_get rfl (by first | exact hi | decide) rfl rfl ?_)
        refine e2_fi (fx_same (x_isFull hnc hn80)) rfl rfl ⟨rfl, rfl, rfl⟩ rfl rfl rfl (by first | exact hi | decide) rfl rfl rfl ?_
        rw [decide_eq_false (p := ¬ n < 80) (by omega)]
        refine e2_if rfl rfl (fun _ => ?_) (fun z => absurd rfl z)
        repeat (first | refine e2_step rfl rfl ?_ | refine e2_get rfl (by first | exact hi | decide) rfl rfl ?_)
        rw [i2c_small y (by omega)]
        refine e2_fv (fx_self (x_add hnc (by omega) (nI y) (char_small y (by omega)))) rfl rfl ⟨rfl, rfl, rfl⟩ rfl rfl rfl (by first | exact hi | decide) rfl rfl rfl ?_
        repeat (first | refine e2_step rfl rfl ?_ | refine e2_get rfl (by first | exact hi | decide) rfl rfl ?_)
        refine e2_iret rfl rfl ⟨rfl, ?_, fun i kk a => xG_o (by omega)⟩
        refine (h.mono (Nat.le_succ K)).txt (fun i kk a => xG_o a) rfl ⟨n + 1, by omega, rfl, rfl, ?_⟩
        rw [← h34]
        rfl
      · refine C2.of (ls := [some (.inr (0, 50)), some (.inl (nI y))]) okX9_append rfl rfl ?_
        repeat (first | refine e2_step rfl rfl ?_ | refine e2m_get rfl rfl ?_ | refine e2m_ld _ rfl rfl (by omega) ?_)
        refine e2_fs (m_in (nI y) (nI 1) (nI 255)) rfl rfl ⟨rfl, rfl, rfl⟩ rfl rfl rfl ?_
        rw [hc]
        refine e2_if rfl rfl (fun _ => ?_) (fun z => absurd (by decide) z)
        repeat (first | refine e2_step rfl rfl ?_ | refine e2m_get rfl rfl ?_ | refine e2m_ld _ rfl rfl (by omega) ?_)
        rw [hnx]
        refine e2_if rfl rfl (fun _ => ?_) (fun z => absurd (fun q => h80 ((nI_eq (by omega) (by omega)).1 q)) z)
        repeat (first | refine e2_step rfl rfl ?_ | refine e2m_get rfl rfl ?_ | refine e2m_ld _ rfl rfl (by omega) ?_)
        refine e2m_stt n rfl hnx (by omega) ?_
        repeat (first | refine e2_step rfl rfl ?_ | refine e2m_get rfl rfl ?_ | refine e2m_ld _ rfl rfl (by omega) ?_)
        rw [hnx, nI_add']
        refine e2m_put rfl (by omega) ?_
        repeat (first | refine e2_step rfl rfl ?_ | refine e2m_get rfl rfl ?_ | refine e2m_ld _ rfl rfl (by omega) ?_)
        exact e2_iret rfl rfl ⟨rfl, _, _, _, rfl, fun _ _ => rfl, rfl, rfl⟩
  · have hc2 := eq_false_of_ne_true hc
    refine OpOk.same (a := -1) h ?_ (fun G1 o => ⟨o, ?_⟩)
    · refine C2.of (ls := [some (.inr (0, 30)), some (.inl c)]) okX8_append rfl rfl ?_
      repeat (first | refine e2_step rfl rfl ?_ | refine e2_get rfl (by first | exact hi | decide) rfl rfl ?_)
      refine e2_fs (c_isIn c (nI 1) (nI 255)) rfl rfl ⟨rfl, rfl, rfl⟩ rfl rfl rfl ?_
      rw [hc2]
      refine e2_if rfl rfl (fun z => absurd rfl z) (fun _ => ?_)
      repeat (first | refine e2_step rfl rfl ?_ | refine e2_get rfl (by first | exact hi | decide) rfl rfl ?_)
      exact e2_iret rfl rfl ⟨rfl, rfl⟩
    · refine C2.of (ls := [some (.inr (0, 50)), some (.inl c)]) okX9_append rfl rfl ?_
      repeat (first | refine e2_step rfl rfl ?_ | refine e2m_get rfl rfl ?_ | refine e2m_ld _ rfl rfl (by omega) ?_)
      refine e2_fs (m_in c (nI 1) (nI 255)) rfl rfl ⟨rfl, rfl, rfl⟩ rfl rfl rfl ?_
      rw [hc2]
      refine e2_if rfl rfl (fun z => absurd rfl z) (fun _ => ?_)
      repeat (first | refine e2_step rfl rfl ?_ | refine e2m_get rfl rfl ?_ | refine e2m_ld _ rfl rfl (by omega) ?_)
      exact e2_iret rfl rfl ⟨rfl, rfl⟩
theorem op_clearText (h : RR G r t x K) : OpOk ε jX8_clearText jX9_clearText [] G r t x K := by
  obtain ⟨n, hn80, hnc, hnx, h34⟩ := h.2.2
  refine ⟨nI n, r, t, upd x 3 (nI 0), ?_, fun G1 o => ?_⟩
  · refine C2.of (ls := [some (.inr (0, 30)), none]) okX8_clearText rfl rfl ?_
    repeat (first | refine e2_step rfl rfl ?_ | refine e2_get rfl (by first | exact hi | decide) rfl rfl ?_)
    refine e2_put (i := 0) (kk := 33) rfl (by decide) rfl rfl rfl rfl rfl ?_
    repeat (first | refine e2_step rfl rfl ?_ | refine e2_get rfl (by first | exact hi | decide) rfl rfl ?_)
    have hwo : ∀ i kk, ¬ (33 ≤ kk ∧ kk ≤ 37) → wr G 0 33 1 (nI 0) i kk = G i kk := fun i kk a => wr_o (by omega)
    refine e2_iret rfl rfl ⟨by rw [hnc], ?_, fun i kk a => hwo i kk (by omega)⟩
    exact (h.mono (Nat.le_succ K)).txt hwo rfl ⟨0, by omega, wr_s, rfl, by rw [wr_o (by omega)]; exact h34⟩
  · refine C2.of (ls := [some (.inr (0, 50)), none]) okX9_clearText rfl rfl ?_
    repeat (first | refine e2_step rfl rfl ?_ | refine e2m_get rfl rfl ?_ | refine e2m_ld _ rfl rfl (by omega) ?_)
    rw [hnx]
    refine e2m_put rfl (by omega) ?_
    repeat (first | refine e2_step rfl rfl ?_ | refine e2m_get rfl rfl ?_ | refine e2m_ld _ rfl rfl (by omega) ?_)
    exact e2_iret rfl rfl ⟨rfl, _, _, _, rfl, fun _ _ => rfl, rfl, rfl⟩
theorem prs_len {n : Nat} : ∀ k a, a ≤ n → 6 * (prs t n k a).1.length ≤ n - a + 1
  | 0, a, _ => by
    show 6 * 0 ≤ _
    omega
  | k + 1, a, ha => by
    have hps : prs t n (k + 1) a = match rd1 t n a with
      | (a', none) => ([], some a')
      | (a', some q) => match tkS t n a' (nI 59) with
        | some a'' => (q :: (prs t n k a'').1, (prs t n k a'').2)
        | none => ([q], if a' < n then some a' else none) := rfl
    rw [hps]
    cases e1 : rd1 t n a with
    | mk a' oq =>
    cases oq with
    | none =>
      dsimp only
      show 6 * 0 ≤ _
      omega
    | some q =>
      have h5 := rd1_5 e1
      have hof := rd1_of e1
      dsimp only
      cases e2 : tkS t n a' (nI 59) with
      | none =>
        dsimp only
        show 6 * 1 ≤ _
        omega
      | some a'' =>
        have b2 := tkS_of e2
        have ih := prs_len k a'' b2.2
        dsimp only
        rw [List.length_cons]
        omega
theorem prs_mem {n : Nat} : ∀ k a q, q ∈ (prs t n k a).1 → q.1 < 100 ∧ q.2.1 < 100 ∧ q.2.2 < 8
  | 0, a, q, h => by simp [prs] at h
  | k + 1, a, q, h => by
    have hps : prs t n (k + 1) a = match rd1 t n a with
      | (a', none) => ([], some a')
      | (a', some q) => match tkS t n a' (nI 59) with
        | some a'' => (q :: (prs t n k a'').1, (prs t n k a'').2)
        | none => ([q], if a' < n then some a' else none) := rfl
    rw [hps] at h
    cases e1 : rd1 t n a with
    | mk a' oq =>
    rw [e1] at h
    cases oq with
    | none => simp at h
    | some q1 =>
      have hof := rd1_of e1
      dsimp only at h
      cases e2 : tkS t n a' (nI 59) with
      | none =>
        rw [e2] at h
        dsimp only at h
        rw [List.mem_singleton] at h
        rw [h]
        exact hof.2.2
      | some a'' =>
        rw [e2] at h
        dsimp only at h
        rcases List.mem_cons.1 h with h | h
        · rw [h]
          exact hof.2.2
        · exact prs_mem k a'' q h
/-- the first k ranges of a list, given in the class -/
def gvV (V : VV) (L : List (Nat × Nat × Nat)) : Nat → VV
  | 0 => V
  | k + 1 => match L[k]? with
    | some q => sv (gvV V L k) 2 (rngr (gvV V L k 2) q.1 (q.2.1 + 1) (nI q.2.2))
    | none => gvV V L k
theorem aplR_app (l : List (Nat × Nat × Nat)) (q : Nat × Nat × Nat) : ∀ r : Nat → Int32, aplR r (l ++ [q]) = rngr (aplR r l) q.1 (q.2.1 + 1) (nI q.2.2) := by
  induction l with
  | nil => intro r; rfl
  | cons a l ih => intro r; exact ih _
theorem aplR_o {l : List (Nat × Nat × Nat)} (hl : ∀ q, q ∈ l → q.2.1 < 100) {j : Nat} (hj : 100 ≤ j) : ∀ r : Nat → Int32, aplR r l j = r j := by
  induction l with
  | nil => intro r; rfl
  | cons a l ih =>
    intro r
    show aplR (rngr r a.1 (a.2.1 + 1) (nI a.2.2)) l j = r j
    rw [ih (fun q hq => hl q (List.mem_cons_of_mem _ hq))]
    have := hl a List.mem_cons_self
    unfold rngr
    rw [if_neg (by omega)]
theorem RO.gives {L : List (Nat × Nat × Nat)} (h : RO V r N) (hL : ∀ q, q ∈ L → q.1 < 100 ∧ q.2.1 < 100 ∧ q.2.2 < 8) : ∀ k, k ≤ L.length → RO (gvV V L k) (aplR r (L.take k)) N
  | 0, _ => by
    rw [List.take_zero]
    exact h
  | k + 1, hk => by
    have ih := h.gives hL k (by omega)
    have hkl : k < L.length := by omega
    obtain ⟨q1, q2, q3⟩ := hL L[k] (List.getElem_mem hkl)
    have e1 : L[k]? = some L[k] := List.getElem?_eq_getElem hkl
    have e2 : L.take (k + 1) = L.take k ++ [L[k]] := by rw [List.take_add_one, e1]; rfl
    rw [e2, aplR_app]
    show RO (match L[k]? with
      | some q => sv (gvV V L k) 2 (rngr (gvV V L k 2) q.1 (q.2.1 + 1) (nI q.2.2))
      | none => gvV V L k) _ N
    rw [e1]
    exact ih.give q3 q2
theorem m_readsX {n how : Nat} (hx3 : x 3 = nI n) (hn : n ≤ 80) (hhow : how < 2) : CM ε jX9_reads [.inl (nI how)] G r t o x (fun v' G' => ∃ v a' u' r', v' = some v ∧ a' ≤ n ∧ G' = mG G r' t o (pst x a' u') ∧ rdEnd r how 0 false (prs t n (n + 1) 0) r' v a') := by
  refine C2.of (ls := [some (.inr (0, 50)), some (.inl (nI how)), none, none, none, none, none]) okX9_reads rfl rfl ?_
  repeat (first | refine e2_step rfl rfl ?_ | refine e2m_get rfl rfl ?_ | refine e2m_ld _ rfl rfl (by omega) ?_)
  refine e2m_put rfl (by omega) ?_
  have e : upd x 4 (nI 0) = pst x 0 (x 5) := by
    funext j
    unfold pst upd
    by_cases h : j = 5
    · subst h
      rw [if_neg (by decide), if_pos rfl]
    · rw [if_neg h]
  rw [e]
  repeat (first | refine e2_stepS 12 rfl rfl rfl ?_ | refine e2m_getS 12 rfl rfl rfl ?_ | refine e2m_ldS 12 rfl _ rfl rfl (by omega) ?_)
  exact m_readsL hx3 hn hhow (n + 1) 0 (x 5) 0 false r (by omega) (by omega) (by omega)
end OM
