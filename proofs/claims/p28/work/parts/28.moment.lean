/-! Moments: an office with its slots. -/
section NM
variable {ε : EE} {J : JT} {pc : Nat} {ls : List (Option V0)} {st : List V0} {G : GG} {Q : Option Int32 → GG → Prop}
theorem e2_forP (N : Nat) (L : Nat → List (Option V0)) (I : Nat → GG → Prop) (h0 : I 0 G) (hs : ∀ i, i < N → ∀ G1, I i G1 → (∀ G2, I (i + 1) G2 → E2 ε J pc (L (i + 1)) [] G2 Q) → E2 ε J pc (L i) [] G1 Q) (he : ∀ M, M = N → ∀ G1, I M G1 → E2 ε J pc (L M) [] G1 Q) : E2 ε J pc (L 0) [] G Q := by
  have h : ∀ k i, i + k = N → ∀ G1, I i G1 → E2 ε J pc (L i) [] G1 Q := by
    intro k
    induction k with
    | zero =>
      intro i hi G1 h1
      exact he i (by omega) G1 h1
    | succ k ih =>
      intro i hi G1 h1
      exact hs i (by omega) G1 h1 (fun G2 h2 => ih (i + 1) (by omega) G2 h2)
  exact h N 0 (by omega) G h0
def cpG (G : GG) (i i2 : Nat) : GG := cG G i (cpO (G i) (G i2)) (G 0 40 1) (G 0 41)
theorem cpG_at (G : GG) (i i2 : Nat) {kk : Nat} (h : kk < 18) : cpG G i i2 i kk = cpO (G i) (G i2) kk := cG_at h
theorem cpG_o (G : GG) (i i2 : Nat) {i' kk : Nat} (h : i' ≠ i ∨ 18 ≤ kk) : cpG G i i2 i' kk = G i' kk := by
  unfold cpG cG
  rw [if_neg (by omega)]
  by_cases h1 : i' = 0 ∧ kk = 40
  · rw [if_pos h1, h1.1, h1.2]
    funext j
    unfold upd
    split
    · rename_i hj; rw [hj]
    · rfl
  · rw [if_neg h1]
    by_cases h2 : i' = 0 ∧ kk = 41
    · rw [if_pos h2, h2.1, h2.2]
    · rw [if_neg h2]
theorem cpG_ag (G : GG) (i i2 : Nat) : AgO (G i2) (cpG G i i2 i) := by
  have h := cpO_ag (V := G i) (U := G i2)
  refine ⟨fun kk t ht => ?_, ?_, ?_, ?_, ?_, ?_⟩
  · have hk : kk < 18 := by
      unfold lenO at ht
      split at ht <;> omega
    rw [cpG_at G i i2 hk]
    exact h.1 kk t ht
  · rw [cpG_at G i i2 (by decide)]; exact h.2.1
  · rw [cpG_at G i i2 (by decide)]; exact h.2.2.1
  · rw [cpG_at G i i2 (by decide)]; exact h.2.2.2.1
  · rw [cpG_at G i i2 (by decide)]; exact h.2.2.2.2.1
  · rw [cpG_at G i i2 (by decide)]; exact h.2.2.2.2.2
theorem Q_office {i i2 : Nat} (hi : i < 19) (hi2 : i2 < 19) (hne : i2 ≠ i) (hz : ∀ t, t < 6 → G i2 14 t = 0 ∨ G i2 14 t = 1) : F2 ε jX5_copyFrom [.inr (i, 0), .inr (i2, 0)] G none (cpG G i i2) := by
  have h := q_office (ε := ε) (G := G) (V := G i) (s := G 0 40 1) (o := G 0 41) hi hi2 hne hz
  unfold FC at h
  rw [cG_self] at h
  exact h
/-- an office may be copied: its carriers' truths are truths -/
def okZ (U : VV) : Prop := ∀ t, t < 6 → U 14 t = 0 ∨ U 14 t = 1
/-- moment j behind the copying of moment m -/
def CpM (G G' : GG) (j m : Nat) : Prop := AgO (G (3 * m)) (G' (3 * j)) ∧ (∀ t, t < 2 → G' j 22 t = G m 22 t ∧ (G m 22 t = 1 → AgO (G (3 * m + 1 + t)) (G' (3 * j + 1 + t)))) ∧ (∀ i kk, ¬ (3 * j ≤ i ∧ i < 3 * j + 3 ∧ kk < 18) → ¬ (i = j ∧ kk = 22) → G' i kk = G i kk)
theorem wr_o {G : GG} {j k t : Nat} {x : Int32} {i kk : Nat} (h : ¬ (i = j ∧ kk = k)) : wr G j k t x i kk = G i kk := by
  by_cases h1 : i = j
  · subst h1
    exact setA_k _ _ _ _ _ _ (fun q => h ⟨rfl, q⟩)
  · exact setA_i _ _ _ _ _ _ h1
theorem wr_s {G : GG} {j k t : Nat} {x : Int32} : wr G j k t x j k t = x := by
  unfold wr
  rw [setA_s]
  exact if_pos rfl
theorem wr_u {G : GG} {j k t u : Nat} {x : Int32} (h : u ≠ t) : wr G j k t x j k u = G j k u := by
  unfold wr
  rw [setA_s]
  exact if_neg h
set_option maxHeartbeats 2000000 in
theorem q_moment {j m : Nat} (hj : j < 6) (hm : m < 6) (hne : m ≠ j) (hz0 : okZ (G (3 * m))) (hf : ∀ t, t < 2 → (G m 22 t = 0 ∨ G m 22 t = 1) ∧ (G m 22 t = 1 → okZ (G (3 * m + 1 + t)))) : C2 ε jX4_copyFrom [.inr (j, 20), .inr (m, 20)] G (fun v G' => v = none ∧ CpM G G' j m) := by
  refine C2.of (ls := [some (.inr (j, 20)), some (.inr (m, 20)), none]) okX4_copyFrom rfl rfl ?_
  repeat (first | refine e2_step rfl rfl ?_ | refine e2_get rfl (by first | exact hj | exact hm) rfl rfl ?_)
  refine e2_fv (Q_office (i := 3 * j) (i2 := 3 * m) (by omega) (by omega) (by omega) hz0) rfl rfl ⟨rfl, rfl, rfl⟩ rfl rfl rfl (show 3 * j < 19 by omega) rfl rfl rfl ?_
  refine e2_step rfl rfl ?_
  refine e2_step rfl rfl ?_
  refine e2_forP 2 (fun t => [some (.inr (j, 20)), some (.inr (m, 20)), some (.inl (nI t))]) (fun t G1 => AgO (G (3 * m)) (G1 (3 * j)) ∧ (∀ u, u < t → G1 j 22 u = G m 22 u ∧ (G m 22 u = 1 → AgO (G (3 * m + 1 + u)) (G1 (3 * j + 1 + u)))) ∧ (∀ i kk, ¬ (3 * j ≤ i ∧ i < 3 * j + 1 + t ∧ kk < 18) → ¬ (i = j ∧ kk = 22) → G1 i kk = G i kk)) ⟨cpG_ag G (3 * j) (3 * m), fun u hu => absurd hu (by omega), fun i kk h1 h2 => cpG_o G (3 * j) (3 * m) (by omega)⟩ (fun t ht G1 hI K => ?_) (fun M hM G1 hI => ?_)
  · obtain ⟨I1, I2, I3⟩ := hI
    have hmt : G1 m 22 = G m 22 := I3 m 22 (by omega) (by omega)
    have hgo : ∀ G2 : GG, (∀ i kk, ¬ (i = j ∧ kk = 22) → ¬ (i = 3 * j + 1 + t ∧ kk < 18) → G2 i kk = G1 i kk) → (∀ u, u < t → G2 j 22 u = G1 j 22 u) → G2 j 22 t = G m 22 t → (G m 22 t = 1 → AgO (G (3 * m + 1 + t)) (G2 (3 * j + 1 + t))) → E2 ε jX4_copyFrom 54 [some (.inr (j, 20)), some (.inr (m, 20)), some (.inl (nI t))] [] G2 (fun v G' => v = none ∧ CpM G G' j m) := by
      intro G2 h1 h2 h3 h4
      refine e2_step rfl rfl ?_
      refine e2_step rfl rfl ?_
      rw [nI_add']
      refine K G2 ⟨?_, fun u hu => ?_, fun i kk a1 a2 => by rw [h1 i kk a2 (by omega)]; exact I3 i kk (by omega) a2⟩
      · have e : ∀ kk, kk < 18 → G2 (3 * j) kk = G1 (3 * j) kk := fun kk hk => h1 _ _ (by omega) (by omega)
        refine ⟨fun kk u hu => ?_, by rw [e 0 (by omega)]; exact I1.2.1, by rw [e 0 (by omega)]; exact I1.2.2.1, by rw [e 0 (by omega)]; exact I1.2.2.2.1, by rw [e 0 (by omega)]; exact I1.2.2.2.2.1, by rw [e 3 (by omega)]; exact I1.2.2.2.2.2⟩
        have hk : kk < 18 := by
          unfold lenO at hu
          split at hu <;> omega
        rw [e kk hk]
        exact I1.1 kk u hu
      · by_cases hut : u = t
        · subst hut
          exact ⟨h3, h4⟩
        · obtain ⟨b1, b2⟩ := I2 u (by omega)
          refine ⟨by rw [h2 u (by omega)]; exact b1, fun z => ?_⟩
          have e : ∀ kk, kk < 18 → G2 (3 * j + 1 + u) kk = G1 (3 * j + 1 + u) kk := fun kk hk => h1 _ _ (by omega) (by omega)
          have b3 := b2 z
          refine ⟨fun kk x hx => ?_, by rw [e 0 (by omega)]; exact b3.2.1, by rw [e 0 (by omega)]; exact b3.2.2.1, by rw [e 0 (by omega)]; exact b3.2.2.2.1, by rw [e 0 (by omega)]; exact b3.2.2.2.2.1, by rw [e 3 (by omega)]; exact b3.2.2.2.2.2⟩
          have hk : kk < 18 := by
            unfold lenO at hx
            split at hx <;> omega
          rw [e kk hk]
          exact b3.1 kk x hx
    have hge : ¬ ((2 : Int32) ≤ nI t) := by
      have e : t = 0 ∨ t = 1 := by omega
      rcases e with rfl | rfl <;> decide
    have hwo : ∀ i kk, ¬ (i = j ∧ kk = 22) → wr G1 j 22 t (G m 22 t) i kk = G1 i kk := fun i kk a => wr_o a
    have hww : wr G1 j 22 t (G m 22 t) j 22 t = G m 22 t := wr_s
    have hwu : ∀ u, u < t → wr G1 j 22 t (G m 22 t) j 22 u = G1 j 22 u := fun u hu => wr_u (by omega)
    refine e2_step rfl rfl ?_
    refine e2_step rfl rfl ?_
    refine e2_if rfl rfl (fun z => absurd z hge) (fun _ => ?_)
    repeat (first | refine e2_step rfl rfl ?_ | refine e2_get rfl (by first | exact hj | exact hm) rfl rfl ?_)
    refine e2_zald (i := m) (kk := 22) t rfl rfl hm rfl ht ?_
    rw [hmt]
    refine e2_zast (i := j) (kk := 22) t rfl rfl hj rfl ht (hf t ht).1 ?_
    generalize hG2 : wr G1 j 22 t (G m 22 t) = G2 at hwo hww hwu ⊢
    repeat (first | refine e2_step rfl rfl ?_ | refine e2_get rfl (by first | exact hj | exact hm) rfl rfl ?_)
    refine e2_zald (i := j) (kk := 22) t rfl rfl hj rfl ht ?_
    rw [hww]
    refine e2_if rfl rfl (fun z => ?_) (fun z => ?_)
    · exact hgo G2 (fun i kk a _ => hwo i kk a) hwu hww (fun q => absurd (z.symm.trans q) (by decide))
    · have h1 : G m 22 t = 1 := by
        rcases (hf t ht).1 with q | q
        · exact absurd q z
        · exact q
      repeat (first | refine e2_step rfl rfl ?_ | refine e2_get rfl (by first | exact hj | exact hm) rfl rfl ?_)
      refine e2_aald21 t rfl rfl hj ht ?_
      repeat (first | refine e2_step rfl rfl ?_ | refine e2_get rfl (by first | exact hj | exact hm) rfl rfl ?_)
      refine e2_aald21 t rfl rfl hm ht ?_
      have hms : ∀ kk, kk < 18 → G2 (3 * m + 1 + t) kk = G (3 * m + 1 + t) kk := fun kk hk => by
        rw [hwo _ _ (by omega)]; exact I3 _ _ (by omega) (by omega)
      have hz2 : okZ (G2 (3 * m + 1 + t)) := fun u hu => by
        rw [hms 14 (by omega)]; exact (hf t ht).2 h1 u hu
      refine e2_fv (Q_office (i := 3 * j + 1 + t) (i2 := 3 * m + 1 + t) (by omega) (by omega) (by omega) hz2) rfl rfl ⟨rfl, rfl, rfl⟩ rfl rfl rfl (show 3 * j + 1 + t < 19 by omega) rfl rfl rfl ?_
      have hk22 : ∀ i, cpG G2 (3 * j + 1 + t) (3 * m + 1 + t) i 22 = G2 i 22 := fun i => cpG_o G2 (3 * j + 1 + t) (3 * m + 1 + t) (by omega)
      refine hgo _ (fun i kk a b => ?_) (fun u hu => by rw [hk22]; exact hwu u hu) (by rw [hk22]; exact hww) (fun _ => ?_)
      · rw [cpG_o G2 (3 * j + 1 + t) (3 * m + 1 + t) (by omega)]
        exact hwo i kk a
      · have b3 := cpG_ag G2 (3 * j + 1 + t) (3 * m + 1 + t)
        refine ⟨fun kk x hx => ?_, by rw [← hms 0 (by omega)]; exact b3.2.1, by rw [← hms 0 (by omega)]; exact b3.2.2.1, by rw [← hms 0 (by omega)]; exact b3.2.2.2.1, by rw [← hms 0 (by omega)]; exact b3.2.2.2.2.1, by rw [← hms 3 (by omega)]; exact b3.2.2.2.2.2⟩
        have hk : kk < 18 := by
          unfold lenO at hx
          split at hx <;> omega
        rw [← hms kk hk]
        exact b3.1 kk x hx
  · obtain ⟨I1, I2, I3⟩ := hI
    subst hM
    refine e2_step rfl rfl ?_
    refine e2_step rfl rfl ?_
    refine e2_if rfl rfl (fun _ => ?_) (fun z => absurd (Int32.le_refl _) z)
    exact e2_vret rfl rfl ⟨rfl, I1, fun u hu => I2 u hu, fun i kk h1 h2 => I3 i kk (by omega) h2⟩
end NM
