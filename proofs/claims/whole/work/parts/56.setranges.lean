/-! Calls: setRanges. -/
section ON
variable {ε : EE} {J J1 J2 : JT} {pc : Nat} {ls : List (Option V0)} {st : List V0} {As : List V0} {G G' G1 : GG} {i N : Nat} {V V' : VV} {s : Int32} {r r' r1 r2 t t' f u w x x' x2 o : Nat → Int32} {K K' : Nat} {Q : Option Int32 → GG → Prop}
theorem RR.xGs {k a : Nat} {br : Bool} (h : RR G r t x K) : RR (xG G t f u w (xst (G 0 33) k a br)) r t x K := by
  obtain ⟨n, hn80, hnc, hnx, h34⟩ := h.2.2
  exact h.txt (fun i kk a => xG_o a) rfl ⟨n, hn80, hnc, hnx, rfl⟩
theorem OpOk.look2 {a : Int32} (hc : C2 ε J1 (.inr (0, 30) :: As) G (fun v G1 => v = some a ∧ RR G1 r t x K ∧ kp G G1)) (hm : ∀ (G1 : GG) (o : Nat → Int32), C2 ε J2 (.inr (0, 50) :: As) (mG G1 r t o x) (fun v G2 => v = some a ∧ ∃ r2 o2 x2, G2 = mG G1 r2 t o2 x2 ∧ (∀ j, j < 18426 → r2 j = r j) ∧ x2 1 = x 1 ∧ x2 3 = x 3)) : OpOk ε J1 J2 As G r t x K :=
  ⟨a, r, t, x, C2.post (fun v G1 z => ⟨z.1, z.2.1.mono (Nat.le_succ K), z.2.2⟩) hc, hm⟩
theorem prs_flt {n : Nat} : ∀ k a p, a ≤ n → (prs t n k a).2 = some p → p ≤ n
  | 0, a, p, ha, h => by
    cases h
    exact ha
  | k + 1, a, p, ha, h => by
    have hps : prs t n (k + 1) a = match rd1 t n a with
      | (a', none) => ([], some a')
      | (a', some q) => match tkS t n a' (nI 59) with
        | some a'' => (q :: (prs t n k a'').1, (prs t n k a'').2)
        | none => ([q], if a' < n then some a' else none) := rfl
    rw [hps] at h
    have hle := rd1_le (t := t) ha
    cases e1 : rd1 t n a with
    | mk a' oq =>
    rw [e1] at h hle
    cases oq with
    | none =>
      cases h
      exact hle
    | some q1 =>
      dsimp only at h
      cases e2 : tkS t n a' (nI 59) with
      | none =>
        rw [e2] at h
        dsimp only at h
        split at h
        · cases h
          exact hle
        · cases h
      | some a'' =>
        rw [e2] at h
        exact prs_flt k a'' p (tkS_of e2).2 h
theorem rec_pst {a : Nat} {u : Int32} : recR r (pst x a u) = recR r x := rfl
theorem op_setRanges (h : RR G r t x K) : OpOk ε jX8_setRanges jX9_setRanges [] G r t x K := by
  obtain ⟨n, hn80, hnc, hnx, h34⟩ := h.2.2
  obtain ⟨d, hd5, hd⟩ := h.d
  have hi : (0 : Nat) < 19 := by decide
  have hread := cx_self (x_read (ε := ε) (G := G) (t := G 0 34) (f := G 0 35) (u := G 0 36) (w := G 0 37) (x := G 0 33) hnc hn80)
  rw [h34] at hread
  have hmem := prs_mem (t := t) (n := n) (n + 1) 0
  have hlen := prs_len (t := t) (n := n) (n + 1) 0 (by omega)
  have hml : ∀ (G1 : GG) (o : Nat → Int32) Q, (∀ v a' u' , a' ≤ n → rdEnd r 0 0 false (prs t n (n + 1) 0) r v a' → E2 ε jX9_setRanges 5 [some (.inr (0, 50)), none] [.inl v] (mG G1 r t o (pst x a' u')) Q) → E2 ε jX9_setRanges 0 [some (.inr (0, 50)), none] [] (mG G1 r t o x) Q := by
    intro G1 o Q k
    repeat (first | refine e2_step rfl rfl ?_ | refine e2m_get rfl rfl ?_ | refine e2m_ld _ rfl rfl (by omega) ?_)
    refine e2_callVi rfl ⟨rfl, rfl, rfl⟩ rfl (As := [.inl (nI 0)]) rfl rfl rfl (by decide) rfl rfl rfl (m_readsX (how := 0) hnx hn80 (by omega)) (fun v1 G2 h1 => ?_)
    obtain ⟨v, a', u', r', e1, e2, rfl, e4⟩ := h1
    cases e1
    have er : r' = r := e4.1
    subst er
    exact k _ a' u' e2 e4
  cases hP : (prs t n (n + 1) 0).2 with
  | some p =>
    have hbad : ∀ v a', rdEnd r 0 0 false (prs t n (n + 1) 0) r v a' → v = -1 ∧ a' = p := by
      intro v a' e
      have := e.2
      rw [hP] at this
      exact this
    refine OpOk.look2 (a := -1000 - nI p) ?_ (fun G1 o => ?_)
    · refine C2.of (ls := [some (.inr (0, 30)), none, none]) okX8_setRanges rfl rfl ?_
      repeat (first | refine e2_step rfl rfl ?_ | refine e2_get rfl (by first | exact hi | decide) rfl rfl ?_)
      refine e2_callVi rfl ⟨rfl, rfl, rfl⟩ rfl (As := []) rfl rfl rfl (by decide) rfl rfl rfl hread (fun v1 G1 h1 => ?_)
      obtain ⟨f', u', w', i', a', br', e1, rfl, -⟩ := h1
      rw [hP] at e1
      cases e1
      have hp : p ≤ n := prs_flt (n + 1) 0 p (by omega) hP
      repeat (first | refine e2_step rfl rfl ?_ | refine e2_get rfl (by first | exact hi | decide) rfl rfl ?_)
      refine e2_if rfl rfl (fun z => absurd (show nI p = -9 from z) (nI_n9 (by omega))) (fun _ => ?_)
      repeat (first | refine e2_step rfl rfl ?_ | refine e2_get rfl (by first | exact hi | decide) rfl rfl ?_)
      exact e2_iret rfl rfl ⟨rfl, h.xGs, fun i kk a => xG_o (by omega)⟩
    · refine C2.of (ls := [some (.inr (0, 50)), none]) okX9_setRanges rfl rfl ?_
      refine hml _ _ _ (fun v a' u' ha' he => ?_)
      obtain ⟨rfl, rfl⟩ := hbad _ _ he
      repeat (first | refine e2_step rfl rfl ?_ | refine e2m_get rfl rfl ?_ | refine e2m_ld _ rfl rfl (by omega) ?_)
      refine e2_if rfl rfl (fun z => absurd z (by decide)) (fun _ => ?_)
      repeat (first | refine e2_step rfl rfl ?_ | refine e2m_get rfl rfl ?_ | refine e2m_ld _ rfl rfl (by omega) ?_)
      refine e2_if rfl rfl (fun z => absurd rfl z) (fun _ => ?_)
      repeat (first | refine e2_step rfl rfl ?_ | refine e2m_get rfl rfl ?_ | refine e2m_ld _ rfl rfl (by omega) ?_)
      exact e2_iret rfl rfl ⟨rfl, r, _, _, rfl, fun _ _ => rfl, rfl, rfl⟩
  | none =>
    generalize hL : (prs t n (n + 1) 0).1 = L at hmem hlen
    have hv : ∀ v r' how a', rdEnd r how 0 false (prs t n (n + 1) 0) r' v a' → v = if dwnB L then -2 else nI L.length := by
      intro v r' how a' e
      have := e.2
      rw [hP] at this
      simp only [hL, Bool.false_or, Nat.zero_add] at this
      exact this
    have hcl : ∀ Q, (∀ G1 f' u' w' k a' br', k = L.length → lsOk f' u' w' 0 L → G1 = xG G t f' u' w' (xst (G 0 33) k a' br') → E2 ε jX8_setRanges 27 [some (.inr (0, 30)), some (.inl (-9)), none] [.inl (bI (dwnB L))] G1 Q) → E2 ε jX8_setRanges 0 [some (.inr (0, 30)), none, none] [] G Q := by
      intro Q k
      repeat (first | refine e2_step rfl rfl ?_ | refine e2_get rfl (by first | exact hi | decide) rfl rfl ?_)
      refine e2_callVi rfl ⟨rfl, rfl, rfl⟩ rfl (As := []) rfl rfl rfl (by decide) rfl rfl rfl hread (fun v1 G1 h1 => ?_)
      obtain ⟨f', u', w', i', a', br', e1, rfl, e3⟩ := h1
      obtain ⟨g1, -, g3⟩ := e3 hP
      rw [hL] at g1 g3
      rw [Nat.zero_add] at g1
      rw [hP] at e1
      cases e1
      repeat (first | refine e2_step rfl rfl ?_ | refine e2_get rfl (by first | exact hi | decide) rfl rfl ?_)
      refine e2_if rfl rfl (fun _ => ?_) (fun z => absurd rfl z)
      repeat (first | refine e2_step rfl rfl ?_ | refine e2_get rfl (by first | exact hi | decide) rfl rfl ?_)
      refine e2_fi (x_reversed (L := L) (show xst (G 0 33) i' a' br' 5 = nI L.length by rw [← g1]; rfl) (by omega) g3 (fun q hq => ⟨(hmem q hq).1, (hmem q hq).2.1⟩)) rfl rfl ⟨rfl, rfl, rfl⟩ rfl rfl rfl (by first | exact hi | decide) rfl rfl rfl ?_
      exact k _ f' u' w' i' a' br' g1 g3 rfl
    cases hD : dwnB L with
    | true =>
      rw [hD] at hcl hv
      refine OpOk.look2 (a := -1) ?_ (fun G1 o => ?_)
      · refine C2.of (ls := [some (.inr (0, 30)), none, none]) okX8_setRanges rfl rfl ?_
        refine hcl _ (fun G1 f' u' w' k a' br' hk hls hG1 => ?_)
        refine e2_if rfl rfl (fun z => absurd z (by decide)) (fun _ => ?_)
        repeat (first | refine e2_step rfl rfl ?_ | refine e2_get rfl (by first | exact hi | decide) rfl rfl ?_)
        subst hG1
        exact e2_iret rfl rfl ⟨rfl, h.xGs, fun i kk a => xG_o (by omega)⟩
      · refine C2.of (ls := [some (.inr (0, 50)), none]) okX9_setRanges rfl rfl ?_
        refine hml _ _ _ (fun v a' u' ha' he => ?_)
        have hv2 : v = -2 := hv _ _ _ _ he
        subst hv2
        repeat (first | refine e2_step rfl rfl ?_ | refine e2m_get rfl rfl ?_ | refine e2m_ld _ rfl rfl (by omega) ?_)
        refine e2_if rfl rfl (fun z => absurd z (by decide)) (fun _ => ?_)
        repeat (first | refine e2_step rfl rfl ?_ | refine e2m_get rfl rfl ?_ | refine e2m_ld _ rfl rfl (by omega) ?_)
        refine e2_if rfl rfl (fun _ => ?_) (fun z => absurd (by decide) z)
        repeat (first | refine e2_step rfl rfl ?_ | refine e2m_get rfl rfl ?_ | refine e2m_ld _ rfl rfl (by omega) ?_)
        exact e2_iret rfl rfl ⟨rfl, r, _, _, rfl, fun _ _ => rfl, rfl, rfl⟩
    | false =>
      rw [hD] at hcl hv
      refine ⟨nI L.length, aplR (recR r x) L, t, upd (recX x) 3 (nI 0), ?_, fun G1 o => ?_⟩
      · refine C2.of (ls := [some (.inr (0, 30)), none, none]) okX8_setRanges rfl rfl ?_
        refine hcl _ (fun G1 f' u' w' k a' br' hk hls hG1 => ?_)
        have hR1 : RR G1 r t x K := by
          rw [hG1]
          exact h.xGs
        have hk1 : kp G G1 := by
          rw [hG1]
          exact fun i kk a => xG_o (by omega)
        have g5 : G1 0 33 5 = nI L.length := by rw [hG1, ← hk]; rfl
        have g35 : G1 0 35 = f' := by rw [hG1]; rfl
        have g36 : G1 0 36 = u' := by rw [hG1]; rfl
        have g37 : G1 0 37 = w' := by rw [hG1]; rfl
        clear hG1
        refine e2_if rfl rfl (fun _ => ?_) (fun z => absurd rfl z)
        repeat (first | refine e2_step rfl rfl ?_ | refine e2_get rfl (by first | exact hi | decide) rfl rfl ?_)
        refine e2_callVv rfl ⟨rfl, rfl, rfl⟩ rfl rfl rfl rfl (by decide) rfl rfl rfl (q_rem hR1) (fun G2 z => ?_)
        obtain ⟨-, hQ⟩ := z
        have e33 : ∀ kk, 33 ≤ kk → G2 0 kk = G1 0 kk := fun kk hkk => hQ.2 0 kk (by omega) (by omega) (by omega) (by omega)
        rw [← e33 33 (by omega)] at g5
        rw [← e33 35 (by omega)] at g35
        rw [← e33 36 (by omega)] at g36
        rw [← e33 37 (by omega)] at g37
        obtain ⟨N, hO⟩ := hQ.1.ro
        have hG := fun k hk => hO.gives hmem k hk
        have hfull := hG L.length (Nat.le_refl _)
        rw [List.take_length] at hfull
        refine e2_cGin 0 ?_
        repeat (first | refine e2_stepS 45 rfl rfl rfl ?_)
        refine e2_for L.length (fun k => [some (.inr (0, 30)), some (.inl (-9)), some (.inl (nI k))]) (fun k => cG G2 0 (gvV (G2 0) L k) (G2 0 40 1) (G2 0 41)) (fun k hk K1 => ?_) (fun M hM => ?_)
        · have e1 : L[k]? = some L[k] := List.getElem?_eq_getElem hk
          have hq := hmem L[k] (List.getElem_mem hk)
          have hl3 := hls k L[k] e1
          rw [Nat.zero_add] at hl3
          have hgs : gvV (G2 0) L (k + 1) = sv (gvV (G2 0) L k) 2 (rngr (gvV (G2 0) L k 2) L[k].1 (L[k].2.1 + 1) (nI L[k].2.2)) := by
            show (match L[k]? with
              | some q => sv (gvV (G2 0) L k) 2 (rngr (gvV (G2 0) L k 2) q.1 (q.2.1 + 1) (nI q.2.2))
              | none => gvV (G2 0) L k) = _
            rw [e1]
          rw [hgs] at K1
          generalize L[k] = q at hq hl3 K1
          repeat (first | refine e2_step rfl rfl ?_ | refine e2c_get (i := 0) (by decide) rfl rfl rfl rfl ?_ | refine e2_get rfl (by decide) rfl rfl ?_)
          rw [show cG G2 0 (gvV (G2 0) L k) (G2 0 40 1) (G2 0 41) 0 33 5 = nI L.length from g5]
          refine e2_if rfl rfl (fun z => absurd z (nI_ge hk (by omega))) (fun _ => ?_)
          repeat (first | refine e2_step rfl rfl ?_ | refine e2c_get (i := 0) (by decide) rfl rfl rfl rfl ?_ | refine e2_get rfl (by decide) rfl rfl ?_)
          refine e2_iald (i := 0) (kk := 35) k rfl rfl (by decide) rfl (by omega) ?_
          rw [show cG G2 0 (gvV (G2 0) L k) (G2 0 40 1) (G2 0 41) 0 35 k = nI q.1 from by rw [← hl3.1, ← g35]; rfl]
          repeat (first | refine e2_step rfl rfl ?_ | refine e2c_get (i := 0) (by decide) rfl rfl rfl rfl ?_ | refine e2_get rfl (by decide) rfl rfl ?_)
          refine e2_iald (i := 0) (kk := 36) k rfl rfl (by decide) rfl (by omega) ?_
          rw [show cG G2 0 (gvV (G2 0) L k) (G2 0 40 1) (G2 0 41) 0 36 k = nI q.2.1 from by rw [← hl3.2.1, ← g36]; rfl]
          repeat (first | refine e2_step rfl rfl ?_ | refine e2c_get (i := 0) (by decide) rfl rfl rfl rfl ?_ | refine e2_get rfl (by decide) rfl rfl ?_)
          refine e2_iald (i := 0) (kk := 37) k rfl rfl (by decide) rfl (by omega) ?_
          rw [show cG G2 0 (gvV (G2 0) L k) (G2 0 40 1) (G2 0 41) 0 37 k = nI q.2.2 from by rw [← hl3.2.2, ← g37]; rfl]
          refine e2c_fv (g_give (a := q.1) (b := q.2.1) hi hq.1 hq.2.1 (nI q.2.2)) rfl rfl ⟨rfl, rfl, rfl⟩ rfl rfl rfl hi rfl rfl rfl rfl ?_
          repeat (first | refine e2_stepS 45 rfl rfl rfl ?_)
          rw [nI_add']
          exact K1
        · subst hM
          repeat (first | refine e2_step rfl rfl ?_ | refine e2c_get (i := 0) (by decide) rfl rfl rfl rfl ?_ | refine e2_get rfl (by decide) rfl rfl ?_)
          rw [show cG G2 0 (gvV (G2 0) L L.length) (G2 0 40 1) (G2 0 41) 0 33 5 = nI L.length from g5]
          refine e2_if rfl rfl (fun _ => ?_) (fun z => absurd (Int32.le_refl _) z)
          repeat (first | refine e2_step rfl rfl ?_ | refine e2c_get (i := 0) (by decide) rfl rfl rfl rfl ?_ | refine e2_get rfl (by decide) rfl rfl ?_)
          have hS := hQ.1.1.1
          have hn : ∀ j, 100 ≤ j → aplR (recR r x) L j = recR r x j := fun j hj => aplR_o (fun q hq => (hmem q hq).2.1) hj _
          have hfin := hQ.1.fin (K' := K + 1) (s := G2 0 40 1) (o := G2 0 41) (V := gvV (G2 0) L L.length) (r2 := aplR (recR r x) L) (x2 := recX x) (by omega) (fun j hj _ => hn j (by omega)) rfl rfl ⟨⟨N, hfull⟩, by rw [hn 952 (by omega)]; exact hS.2.1, fun k hk => by rw [hn (963 + k) (by omega)]; obtain ⟨c, c1, c2⟩ := hS.2.2 k hk; exact ⟨c, by omega, c2⟩⟩
          have g5' : cG G2 0 (gvV (G2 0) L L.length) (G2 0 40 1) (G2 0 41) 0 33 5 = nI L.length := g5
          have g34 : cG G2 0 (gvV (G2 0) L L.length) (G2 0 40 1) (G2 0 41) 0 34 = t := by
            obtain ⟨n3, -, -, -, q⟩ := hfin.1.2.2
            exact q
          have hkk := (hk1.tr hQ.kp).tr hfin.2
          generalize cG G2 0 (gvV (G2 0) L L.length) (G2 0 40 1) (G2 0 41) = G3 at hfin g5' g34 hkk ⊢
          refine e2_put (i := 0) (kk := 33) rfl (by decide) rfl rfl rfl rfl rfl ?_
          repeat (first | refine e2_step rfl rfl ?_ | refine e2_get rfl (by first | exact hi | decide) rfl rfl ?_)
          rw [show wr G3 0 33 1 (nI 0) 0 33 5 = nI L.length from by rw [wr_u (by decide)]; exact g5']
          have hwo : ∀ i kk, ¬ (33 ≤ kk ∧ kk ≤ 37) → wr G3 0 33 1 (nI 0) i kk = G3 i kk := fun i kk a => wr_o (by omega)
          refine e2_iret rfl rfl ⟨rfl, ?_, hkk.tr (fun i kk a => hwo i kk (by omega))⟩
          exact hfin.1.txt hwo rfl ⟨0, by omega, wr_s, rfl, by rw [wr_o (by omega)]; exact g34⟩
      · refine C2.of (ls := [some (.inr (0, 50)), none]) okX9_setRanges rfl rfl ?_
        refine hml _ _ _ (fun v a' u' ha' he => ?_)
        have hv2 : v = nI L.length := hv _ _ _ _ he
        subst hv2
        repeat (first | refine e2_step rfl rfl ?_ | refine e2m_get rfl rfl ?_ | refine e2m_ld _ rfl rfl (by omega) ?_)
        refine e2_if rfl rfl (fun _ => ?_) (fun z => absurd (nI_pos' (by omega)) z)
        repeat (first | refine e2_step rfl rfl ?_ | refine e2m_get rfl rfl ?_ | refine e2m_ld _ rfl rfl (by omega) ?_)
        refine e2_fv (m_recordsX (x := pst x a' u') hd hd5) rfl rfl ⟨rfl, rfl, rfl⟩ rfl rfl rfl (by first | exact hi | decide) rfl rfl rfl ?_
        repeat (first | refine e2_step rfl rfl ?_ | refine e2m_get rfl rfl ?_ | refine e2m_ld _ rfl rfl (by omega) ?_)
        refine e2_callVi rfl ⟨rfl, rfl, rfl⟩ rfl (As := [.inl (nI 1)]) rfl rfl rfl (by decide) rfl rfl rfl (m_readsX (how := 1) (n := n) hnx hn80 (by omega)) (fun v1 G2 h1 => ?_)
        obtain ⟨v, a'', u'', r'', e1, e2, rfl, e4⟩ := h1
        have er : r'' = aplR (recR r x) L := by rw [← hL]; exact e4.1
        subst er
        repeat (first | refine e2_step rfl rfl ?_ | refine e2m_get rfl rfl ?_ | refine e2m_ld _ rfl rfl (by omega) ?_)
        refine e2m_put rfl (by omega) ?_
        repeat (first | refine e2_step rfl rfl ?_ | refine e2m_get rfl rfl ?_ | refine e2m_ld _ rfl rfl (by omega) ?_)
        exact e2_iret rfl rfl ⟨rfl, _, _, _, rfl, fun _ _ => rfl, rfl, rfl⟩
end ON
