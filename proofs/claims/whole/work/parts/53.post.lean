/-! Calls that record a state: post. -/
section OK2
variable {ε : EE} {J J1 J2 : JT} {pc : Nat} {ls : List (Option V0)} {st : List V0} {As : List V0} {G G' G1 : GG} {i N : Nat} {V V' : VV} {s : Int32} {r r' r1 r2 t x x2 o : Nat → Int32} {K K' : Nat} {Q : Option Int32 → GG → Prop}
def posr (r : Nat → Int32) (N : Nat) (c f : Int32) : Nat → Nat → Int32
  | 0 => r
  | k + 1 => pos1 (posr r N c f k) (N + k) c f
def addVs (V : VV) (N : Nat) (c f h : Int32) : Nat → VV
  | 0 => V
  | k + 1 => addV (addVs V N c f h k) (N + k) c f h
theorem addVs_0 {c f h : Int32} : ∀ k, addVs V N c f h k 0 = V 0
  | 0 => rfl
  | k + 1 => by
    show addV (addVs V N c f h k) (N + k) c f h 0 = V 0
    rw [← addVs_0 (c := c) (f := f) (h := h) k]
    rfl
theorem posr_o {c f : Int32} {j : Nat} : ∀ k, N + k ≤ 120 → (j < 100 ∨ 941 ≤ j) → posr r N c f k j = r j
  | 0, _, _ => rfl
  | k + 1, hk, hj => by
    show pos1 (posr r N c f k) (N + k) c f j = r j
    rw [pos1_o (by omega) (by omega), posr_o k (by omega) hj]
theorem RO.posts (h : RO V r N) {c f : Nat} (hc : c < 100) (hf : f < 2) : ∀ k, N + k ≤ 120 → RO (addVs V N (nI c) (nI f) (V 0 4) k) (posr r N (nI c) (nI f) k) (N + k)
  | 0, _ => h
  | k + 1, hk => by
    have ih := h.posts hc hf k (by omega)
    have hA := ih.add (by omega) hc hf
    rw [addVs_0] at hA
    exact hA
theorem m_post1 {c f l : Int32} {N k : Nat} {l6 : Option V0} (hl : N + k < 120) (h1 : E2 ε jX9_post 145 [some (.inr (0, 50)), some (.inl c), some (.inl f), some (.inl l), some (.inl (nI N)), some (.inl (nI k)), some (.inl (nI (N + k)))] [] (mG G (pos1 r (N + k) c f) t o x) Q) : E2 ε jX9_post 70 [some (.inr (0, 50)), some (.inl c), some (.inl f), some (.inl l), some (.inl (nI N)), some (.inl (nI k)), l6] [] (mG G r t o x) Q := by
  repeat (first | refine e2_step rfl rfl ?_ | refine e2m_get rfl rfl ?_ | refine e2m_ld _ rfl rfl (by omega) ?_)
  rw [nI_add']
  repeat (first | refine e2_step rfl rfl ?_ | refine e2m_get rfl rfl ?_ | refine e2m_ld _ rfl rfl (by omega) ?_)
  refine e2m_st 100 rfl rfl (by omega) ?_
  repeat (first | refine e2_step rfl rfl ?_ | refine e2m_get rfl rfl ?_ | refine e2m_ld _ rfl rfl (by omega) ?_)
  refine e2_fv (m_set (l := N + k) (k := 0) hl (by decide) c) rfl rfl ⟨rfl, rfl, rfl⟩ rfl rfl rfl (by first | exact hi | decide) rfl rfl rfl ?_
  repeat (first | refine e2_step rfl rfl ?_ | refine e2m_get rfl rfl ?_ | refine e2m_ld _ rfl rfl (by omega) ?_)
  refine e2_fv (m_set (l := N + k) (k := 1) hl (by decide) f) rfl rfl ⟨rfl, rfl, rfl⟩ rfl rfl rfl (by first | exact hi | decide) rfl rfl rfl ?_
  repeat (first | refine e2_step rfl rfl ?_ | refine e2m_get rfl rfl ?_ | refine e2m_ld _ rfl rfl (by omega) ?_)
  refine e2_fv (m_set (l := N + k) (k := 2) hl (by decide) (nI 0)) rfl rfl ⟨rfl, rfl, rfl⟩ rfl rfl rfl (by first | exact hi | decide) rfl rfl rfl ?_
  repeat (first | refine e2_step rfl rfl ?_ | refine e2m_get rfl rfl ?_ | refine e2m_ld _ rfl rfl (by omega) ?_)
  refine e2_fv (m_puts (l := N + k) hl (nI 0) (nI 0)) rfl rfl ⟨rfl, rfl, rfl⟩ rfl rfl rfl (by first | exact hi | decide) rfl rfl rfl ?_
  repeat (first | refine e2_step rfl rfl ?_ | refine e2m_get rfl rfl ?_ | refine e2m_ld _ rfl rfl (by omega) ?_)
  have e : putsr (seto (seto (seto (upd r 100 (r 100 + nI 1)) (N + k) 0 c) (N + k) 1 f) (N + k) 2 (nI 0)) (N + k) (nI 0) (nI 0) 952 = r 952 := by
    rw [putsr_hi hl (by omega)]
    unfold seto upd
    rw [if_neg (by omega), if_neg (by omega), if_neg (by omega), if_neg (by omega)]
  rw [e]
  refine e2_fv (m_set (l := N + k) (k := 5) hl (by decide) (r 952)) rfl rfl ⟨rfl, rfl, rfl⟩ rfl rfl rfl (by first | exact hi | decide) rfl rfl rfl ?_
  repeat (first | refine e2_step rfl rfl ?_ | refine e2m_get rfl rfl ?_ | refine e2m_ld _ rfl rfl (by omega) ?_)
  refine e2_fv (m_set (l := N + k) (k := 6) hl (by decide) (-9)) rfl rfl ⟨rfl, rfl, rfl⟩ rfl rfl rfl (by first | exact hi | decide) rfl rfl rfl ?_
  exact h1
theorem op_post (h : RR G r t x K) (c f m : Int32) : OpOk ε jX8_post jX9_post [.inl c, .inl f, .inl m] G r t x K := by
  by_cases hc : isInB c (nI 0) (nI 99) = true
  · by_cases hf : isInB f (nI 0) (nI 1) = true
    · by_cases hm : isInB m (nI 1) (nI 20) = true
      · obtain ⟨c, hc99, rfl⟩ := isIn_nI (by decide) hc
        obtain ⟨f, hf1, rfl⟩ := isIn_nI (by decide) hf
        obtain ⟨m, hm1, hm20, rfl⟩ := isIn_ab (by decide) (by decide) hm
        obtain ⟨N, hO⟩ := h.ro
        obtain ⟨d, hd5, hd⟩ := h.d
        have hN2 : N ≤ 120 := hO.1.1
        have hcc : G 0 3 8 = nI N := hO.1.2.1
        have hN : r 100 = nI N := hO.1.2.2.1
        have hi : (0 : Nat) < 19 := by decide
        have hcl : ∀ Q, E2 ε jX8_post 46 [some (.inr (0, 30)), some (.inl (nI c)), some (.inl (nI f)), some (.inl (nI m)), some (.inl (nI N)), none] [] G Q → E2 ε jX8_post 0 [some (.inr (0, 30)), some (.inl (nI c)), some (.inl (nI f)), some (.inl (nI m)), none, none] [] G Q := by
          intro Q k
          repeat (first | refine e2_step rfl rfl ?_ | refine e2_get rfl (by first | exact hi | decide) rfl rfl ?_)
          refine e2_fs (c_isIn (nI c) (nI 0) (nI 99)) rfl rfl ⟨rfl, rfl, rfl⟩ rfl rfl rfl ?_
          rw [hc]
          refine e2_if rfl rfl (fun z => absurd z (by decide)) (fun _ => ?_)
          repeat (first | refine e2_step rfl rfl ?_ | refine e2_get rfl (by first | exact hi | decide) rfl rfl ?_)
          refine e2_fs (c_isIn (nI f) (nI 0) (nI 1)) rfl rfl ⟨rfl, rfl, rfl⟩ rfl rfl rfl ?_
          rw [hf]
          refine e2_if rfl rfl (fun z => absurd z (by decide)) (fun _ => ?_)
          repeat (first | refine e2_step rfl rfl ?_ | refine e2_get rfl (by first | exact hi | decide) rfl rfl ?_)
          refine e2_fs (c_isIn (nI m) (nI 1) (nI 20)) rfl rfl ⟨rfl, rfl, rfl⟩ rfl rfl rfl ?_
          rw [hm]
          refine e2_if rfl rfl (fun _ => ?_) (fun z => absurd (by decide) z)
          repeat (first | refine e2_stepS 44 rfl rfl rfl ?_ | refine e2_getS 44 rfl rfl (by decide) rfl rfl ?_)
          rw [hcc]
          refine e2_step rfl rfl ?_
          exact k
        have hml : ∀ (G1 : GG) (o : Nat → Int32) Q, E2 ε jX9_post 31 [some (.inr (0, 50)), some (.inl (nI c)), some (.inl (nI f)), some (.inl (nI m)), none, none, none] [] (mG G1 r t o x) Q → E2 ε jX9_post 0 [some (.inr (0, 50)), some (.inl (nI c)), some (.inl (nI f)), some (.inl (nI m)), none, none, none] [] (mG G1 r t o x) Q := by
          intro G1 o Q k
          repeat (first | refine e2_step rfl rfl ?_ | refine e2m_get rfl rfl ?_ | refine e2m_ld _ rfl rfl (by omega) ?_)
          refine e2_fs (m_in (nI c) (nI 0) (nI 99)) rfl rfl ⟨rfl, rfl, rfl⟩ rfl rfl rfl ?_
          rw [hc]
          refine e2_if rfl rfl (fun z => absurd z (by decide)) (fun _ => ?_)
          repeat (first | refine e2_step rfl rfl ?_ | refine e2m_get rfl rfl ?_ | refine e2m_ld _ rfl rfl (by omega) ?_)
          refine e2_fs (m_in (nI f) (nI 0) (nI 1)) rfl rfl ⟨rfl, rfl, rfl⟩ rfl rfl rfl ?_
          rw [hf]
          refine e2_if rfl rfl (fun z => absurd z (by decide)) (fun _ => ?_)
          repeat (first | refine e2_step rfl rfl ?_ | refine e2m_get rfl rfl ?_ | refine e2m_ld _ rfl rfl (by omega) ?_)
          refine e2_fs (m_in (nI m) (nI 1) (nI 20)) rfl rfl ⟨rfl, rfl, rfl⟩ rfl rfl rfl ?_
          rw [hm]
          refine e2_if rfl rfl (fun _ => ?_) (fun z => absurd (by decide) z)
          exact k
        by_cases hful : N + m ≤ 120
        · have hrO : RO (G 0) (recR r x) N := hO.row (fun j hj => recR_lo (by omega))
          refine ⟨nI N, posr (recR r x) N (nI c) (nI f) m, t, recX x, ?_, fun G1 o => ?_⟩
          · refine C2.of (ls := [some (.inr (0, 30)), some (.inl (nI c)), some (.inl (nI f)), some (.inl (nI m)), none, none]) okX8_post rfl rfl ?_
            refine hcl _ ?_
            repeat (first | refine e2_step rfl rfl ?_ | refine e2_get rfl (by first | exact hi | decide) rfl rfl ?_)
            rw [nI_add']
            refine e2_if rfl rfl (fun _ => ?_) (fun z => absurd (nI_le hful (by omega)) z)
            repeat (first | refine e2_step rfl rfl ?_ | refine e2_get rfl (by first | exact hi | decide) rfl rfl ?_)
            refine e2_callVv rfl ⟨rfl, rfl, rfl⟩ rfl rfl rfl rfl (by decide) rfl rfl rfl (q_rem h) (fun G1 z => ?_)
            obtain ⟨-, hQ⟩ := z
            obtain ⟨N', hO1⟩ := hQ.1.ro
            have hNN : N' = N := (nI_eq (by have := hO1.1.1; omega) (by omega)).1 (hO1.1.2.2.1.symm.trans hrO.1.2.2.1)
            subst hNN
            have hP := fun k hk => hO1.posts (c := c) (f := f) (by omega) (by omega) k hk
            refine e2_cGin 0 ?_
            repeat (first | refine e2_stepS 72 rfl rfl rfl ?_)
            refine e2_for m (fun k => [some (.inr (0, 30)), some (.inl (nI c)), some (.inl (nI f)), some (.inl (nI m)), some (.inl (nI N')), some (.inl (nI k))]) (fun k => cG G1 0 (addVs (G1 0) N' (nI c) (nI f) (G1 0 0 4) k) (G1 0 40 1) (G1 0 41)) (fun k hk K1 => ?_) (fun M hM => ?_)
            · repeat (first | refine e2_step rfl rfl ?_ | refine e2_get rfl (by first | exact hi | decide) rfl rfl ?_)
              refine e2_if rfl rfl (fun z => absurd z (nI_ge hk (by omega))) (fun _ => ?_)
              repeat (first | refine e2_step rfl rfl ?_ | refine e2c_get (i := 0) (by decide) rfl rfl rfl rfl ?_ | refine e2_get rfl (by decide) rfl rfl ?_)
              rw [show addVs (G1 0) N' (nI c) (nI f) (G1 0 0 4) k 0 4 = G1 0 0 4 by rw [addVs_0]]
              refine e2c_fv (v_add (N := N' + k) hi (by omega) (hP k (by omega)).1.2.1 (nI c) (nI f) (G1 0 0 4)) rfl rfl ⟨rfl, rfl, rfl⟩ rfl rfl rfl hi rfl rfl rfl rfl ?_
              repeat (first | refine e2_stepS 72 rfl rfl rfl ?_)
              rw [nI_add']
              exact K1
            · repeat (first | refine e2_step rfl rfl ?_ | refine e2_get rfl (by first | exact hi | decide) rfl rfl ?_)
              refine e2_if rfl rfl (fun _ => ?_) (fun z => absurd (by rw [hM]; exact Int32.le_refl _) z)
              repeat (first | refine e2_step rfl rfl ?_ | refine e2_get rfl (by first | exact hi | decide) rfl rfl ?_)
              subst hM
              have hS := hQ.1.1.1
              have hn : ∀ j, 941 ≤ j → posr (recR r x) N' (nI c) (nI f) M j = recR r x j := fun j hj => posr_o M hful (Or.inr hj)
              have hfin := hQ.1.fin (K' := K + 1) (s := G1 0 40 1) (o := G1 0 41) (V := addVs (G1 0) N' (nI c) (nI f) (G1 0 0 4) M) (r2 := posr (recR r x) N' (nI c) (nI f) M) (x2 := recX x) (by omega) (fun j hj _ => hn j (by omega)) rfl rfl ⟨⟨N' + M, hP M hful⟩, by rw [hn 952 (by omega)]; exact hS.2.1, fun k hk => by rw [hn (963 + k) (by omega)]; obtain ⟨c, c1, c2⟩ := hS.2.2 k hk; exact ⟨c, by omega, c2⟩⟩
              exact e2_iret rfl rfl ⟨rfl, hfin.1, hQ.kp.tr hfin.2⟩
          · refine C2.of (ls := [some (.inr (0, 50)), some (.inl (nI c)), some (.inl (nI f)), some (.inl (nI m)), none, none, none]) okX9_post rfl rfl ?_
            refine hml _ _ _ ?_
            repeat (first | refine e2_step rfl rfl ?_ | refine e2m_get rfl rfl ?_ | refine e2m_ld _ rfl rfl (by omega) ?_)
            rw [hN, nI_add']
            refine e2_if rfl rfl (fun _ => ?_) (fun z => absurd (nI_le hful (by omega)) z)
            repeat (first | refine e2_step rfl rfl ?_ | refine e2m_get rfl rfl ?_ | refine e2m_ld _ rfl rfl (by omega) ?_)
            refine e2_fv (m_recordsX hd hd5) rfl rfl ⟨rfl, rfl, rfl⟩ rfl rfl rfl (by first | exact hi | decide) rfl rfl rfl ?_
            repeat (first | refine e2_stepS 59 rfl rfl rfl ?_ | refine e2m_getS 59 rfl rfl rfl ?_ | refine e2m_ldS 59 rfl _ rfl rfl (by omega) ?_)
            rw [show recR r x 100 = nI N from hrO.1.2.2.1]
            repeat (first | refine e2_stepS 64 rfl rfl rfl ?_ | refine e2m_getS 64 rfl rfl rfl ?_ | refine e2m_ldS 64 rfl _ rfl rfl (by omega) ?_)
            refine e2_for m (fun k => [some (.inr (0, 50)), some (.inl (nI c)), some (.inl (nI f)), some (.inl (nI m)), some (.inl (nI N)), some (.inl (nI k)), none]) (fun k => mG G1 (posr (recR r x) N (nI c) (nI f) k) t o (recX x)) (fun k hk K1 => ?_) (fun M hM => ?_)
            · repeat (first | refine e2_step rfl rfl ?_ | refine e2m_get rfl rfl ?_ | refine e2m_ld _ rfl rfl (by omega) ?_)
              refine e2_if rfl rfl (fun z => absurd z (nI_ge hk (by omega))) (fun _ => ?_)
              refine m_post1 (by omega) ?_
              repeat (first | refine e2_stepS 64 rfl rfl rfl ?_ | refine e2m_getS 64 rfl rfl rfl ?_ | refine e2m_ldS 64 rfl _ rfl rfl (by omega) ?_)
              rw [nI_add']
              exact e2_dropK K1 ⟨rfl, rfl, rfl, rfl, rfl, rfl, trivial⟩
            · subst hM
              repeat (first | refine e2_step rfl rfl ?_ | refine e2m_get rfl rfl ?_ | refine e2m_ld _ rfl rfl (by omega) ?_)
              refine e2_if rfl rfl (fun _ => ?_) (fun z => absurd (Int32.le_refl _) z)
              repeat (first | refine e2_step rfl rfl ?_ | refine e2m_get rfl rfl ?_ | refine e2m_ld _ rfl rfl (by omega) ?_)
              exact e2_iret rfl rfl ⟨rfl, _, _, _, rfl, fun _ _ => rfl, rfl, rfl⟩
        · refine OpOk.same (a := -3) h ?_ (fun G1 o => ⟨o, ?_⟩)
          · refine C2.of (ls := [some (.inr (0, 30)), some (.inl (nI c)), some (.inl (nI f)), some (.inl (nI m)), none, none]) okX8_post rfl rfl ?_
            refine hcl _ ?_
            repeat (first | refine e2_step rfl rfl ?_ | refine e2_get rfl (by first | exact hi | decide) rfl rfl ?_)
            rw [nI_add']
            refine e2_if rfl rfl (fun z => absurd z (nI_ge (by omega) (by omega))) (fun _ => ?_)
            repeat (first | refine e2_step rfl rfl ?_ | refine e2_get rfl (by first | exact hi | decide) rfl rfl ?_)
            exact e2_iret rfl rfl ⟨rfl, rfl⟩
          · refine C2.of (ls := [some (.inr (0, 50)), some (.inl (nI c)), some (.inl (nI f)), some (.inl (nI m)), none, none, none]) okX9_post rfl rfl ?_
            refine hml _ _ _ ?_
            repeat (first | refine e2_step rfl rfl ?_ | refine e2m_get rfl rfl ?_ | refine e2m_ld _ rfl rfl (by omega) ?_)
            rw [hN, nI_add']
            refine e2_if rfl rfl (fun z => absurd z (nI_ge (by omega) (by omega))) (fun _ => ?_)
            repeat (first | refine e2_step rfl rfl ?_ | refine e2m_get rfl rfl ?_ | refine e2m_ld _ rfl rfl (by omega) ?_)
            exact e2_iret rfl rfl ⟨rfl, rfl⟩
      · have hm2 := eq_false_of_ne_true hm
        refine OpOk.same (a := -1) h ?_ (fun G1 o => ⟨o, ?_⟩)
        · refine C2.of (ls := [some (.inr (0, 30)), some (.inl c), some (.inl f), some (.inl m), none, none]) okX8_post rfl rfl ?_
          repeat (first | refine e2_step rfl rfl ?_ | refine e2_get rfl (by first | exact hi | decide) rfl rfl ?_)
          refine e2_fs (c_isIn c (nI 0) (nI 99)) rfl rfl ⟨rfl, rfl, rfl⟩ rfl rfl rfl ?_
          rw [hc]
          refine e2_if rfl rfl (fun z => absurd z (by decide)) (fun _ => ?_)
          repeat (first | refine e2_step rfl rfl ?_ | refine e2_get rfl (by first | exact hi | decide) rfl rfl ?_)
          refine e2_fs (c_isIn f (nI 0) (nI 1)) rfl rfl ⟨rfl, rfl, rfl⟩ rfl rfl rfl ?_
          rw [hf]
          refine e2_if rfl rfl (fun z => absurd z (by decide)) (fun _ => ?_)
          repeat (first | refine e2_step rfl rfl ?_ | refine e2_get rfl (by first | exact hi | decide) rfl rfl ?_)
          refine e2_fs (c_isIn m (nI 1) (nI 20)) rfl rfl ⟨rfl, rfl, rfl⟩ rfl rfl rfl ?_
          rw [hm2]
          refine e2_if rfl rfl (fun z => absurd rfl z) (fun _ => ?_)
          repeat (first | refine e2_step rfl rfl ?_ | refine e2_get rfl (by first | exact hi | decide) rfl rfl ?_)
          exact e2_iret rfl rfl ⟨rfl, rfl⟩
        · refine C2.of (ls := [some (.inr (0, 50)), some (.inl c), some (.inl f), some (.inl m), none, none, none]) okX9_post rfl rfl ?_
          repeat (first | refine e2_step rfl rfl ?_ | refine e2m_get rfl rfl ?_ | refine e2m_ld _ rfl rfl (by omega) ?_)
          refine e2_fs (m_in c (nI 0) (nI 99)) rfl rfl ⟨rfl, rfl, rfl⟩ rfl rfl rfl ?_
          rw [hc]
          refine e2_if rfl rfl (fun z => absurd z (by decide)) (fun _ => ?_)
          repeat (first | refine e2_step rfl rfl ?_ | refine e2m_get rfl rfl ?_ | refine e2m_ld _ rfl rfl (by omega) ?_)
          refine e2_fs (m_in f (nI 0) (nI 1)) rfl rfl ⟨rfl, rfl, rfl⟩ rfl rfl rfl ?_
          rw [hf]
          refine e2_if rfl rfl (fun z => absurd z (by decide)) (fun _ => ?_)
          repeat (first | refine e2_step rfl rfl ?_ | refine e2m_get rfl rfl ?_ | refine e2m_ld _ rfl rfl (by omega) ?_)
          refine e2_fs (m_in m (nI 1) (nI 20)) rfl rfl ⟨rfl, rfl, rfl⟩ rfl rfl rfl ?_
          rw [hm2]
          refine e2_if rfl rfl (fun z => absurd rfl z) (fun _ => ?_)
          repeat (first | refine e2_step rfl rfl ?_ | refine e2m_get rfl rfl ?_ | refine e2m_ld _ rfl rfl (by omega) ?_)
          exact e2_iret rfl rfl ⟨rfl, rfl⟩
    · have hf2 := eq_false_of_ne_true hf
      refine OpOk.same (a := -1) h ?_ (fun G1 o => ⟨o, ?_⟩)
      · refine C2.of (ls := [some (.inr (0, 30)), some (.inl c), some (.inl f), some (.inl m), none, none]) okX8_post rfl rfl ?_
        repeat (first | refine e2_step rfl rfl ?_ | refine e2_get rfl (by first | exact hi | decide) rfl rfl ?_)
        refine e2_fs (c_isIn c (nI 0) (nI 99)) rfl rfl ⟨rfl, rfl, rfl⟩ rfl rfl rfl ?_
        rw [hc]
        refine e2_if rfl rfl (fun z => absurd z (by decide)) (fun _ => ?_)
        repeat (first | refine e2_step rfl rfl ?_ | refine e2_get rfl (by first | exact hi | decide) rfl rfl ?_)
        refine e2_fs (c_isIn f (nI 0) (nI 1)) rfl rfl ⟨rfl, rfl, rfl⟩ rfl rfl rfl ?_
        rw [hf2]
        refine e2_if rfl rfl (fun _ => ?_) (fun z => absurd rfl z)
        repeat (first | refine e2_step rfl rfl ?_ | refine e2_get rfl (by first | exact hi | decide) rfl rfl ?_)
        exact e2_iret rfl rfl ⟨rfl, rfl⟩
      · refine C2.of (ls := [some (.inr (0, 50)), some (.inl c), some (.inl f), some (.inl m), none, none, none]) okX9_post rfl rfl ?_
        repeat (first | refine e2_step rfl rfl ?_ | refine e2m_get rfl rfl ?_ | refine e2m_ld _ rfl rfl (by omega) ?_)
        refine e2_fs (m_in c (nI 0) (nI 99)) rfl rfl ⟨rfl, rfl, rfl⟩ rfl rfl rfl ?_
        rw [hc]
        refine e2_if rfl rfl (fun z => absurd z (by decide)) (fun _ => ?_)
        repeat (first | refine e2_step rfl rfl ?_ | refine e2m_get rfl rfl ?_ | refine e2m_ld _ rfl rfl (by omega) ?_)
        refine e2_fs (m_in f (nI 0) (nI 1)) rfl rfl ⟨rfl, rfl, rfl⟩ rfl rfl rfl ?_
        rw [hf2]
        refine e2_if rfl rfl (fun _ => ?_) (fun z => absurd rfl z)
        repeat (first | refine e2_step rfl rfl ?_ | refine e2m_get rfl rfl ?_ | refine e2m_ld _ rfl rfl (by omega) ?_)
        exact e2_iret rfl rfl ⟨rfl, rfl⟩
  · have hc2 := eq_false_of_ne_true hc
    refine OpOk.same (a := -1) h ?_ (fun G1 o => ⟨o, ?_⟩)
    · refine C2.of (ls := [some (.inr (0, 30)), some (.inl c), some (.inl f), some (.inl m), none, none]) okX8_post rfl rfl ?_
      repeat (first | refine e2_step rfl rfl ?_ | refine e2_get rfl (by first | exact hi | decide) rfl rfl ?_)
      refine e2_fs (c_isIn c (nI 0) (nI 99)) rfl rfl ⟨rfl, rfl, rfl⟩ rfl rfl rfl ?_
      rw [hc2]
      refine e2_if rfl rfl (fun _ => ?_) (fun z => absurd rfl z)
      repeat (first | refine e2_step rfl rfl ?_ | refine e2_get rfl (by first | exact hi | decide) rfl rfl ?_)
      exact e2_iret rfl rfl ⟨rfl, rfl⟩
    · refine C2.of (ls := [some (.inr (0, 50)), some (.inl c), some (.inl f), some (.inl m), none, none, none]) okX9_post rfl rfl ?_
      repeat (first | refine e2_step rfl rfl ?_ | refine e2m_get rfl rfl ?_ | refine e2m_ld _ rfl rfl (by omega) ?_)
      refine e2_fs (m_in c (nI 0) (nI 99)) rfl rfl ⟨rfl, rfl, rfl⟩ rfl rfl rfl ?_
      rw [hc2]
      refine e2_if rfl rfl (fun _ => ?_) (fun z => absurd rfl z)
      repeat (first | refine e2_step rfl rfl ?_ | refine e2m_get rfl rfl ?_ | refine e2m_ld _ rfl rfl (by omega) ?_)
      exact e2_iret rfl rfl ⟨rfl, rfl⟩
end OK2
