/-! Pictures that differ only where no cell lies serve alike: copies are exact. -/
section EX
variable {ε : EE} {J : JT} {D : va_G} {cl : List vw_C} {A : Nat → Prop} {H : Heap} {G G' : GG}
def cEq (i kk : Nat) (f g : Nat → Int32) : Prop := objV i kk f = objV i kk g ∧ (∀ t n, arrI kk = some (t, n) → ∀ j, j < n → f j = g j) ∧ (arrI kk = none → objV i kk f = none → kk ≠ 21 → ∀ j, j < 5 → f j = g j)
theorem cEq.rf {i kk : Nat} {f : Nat → Int32} : cEq i kk f f := ⟨rfl, fun _ _ _ _ _ => rfl, fun _ _ _ _ _ => rfl⟩
theorem cEq.of {i kk : Nat} {f g : Nat → Int32} (h : f = g) : cEq i kk f g := by subst h; exact cEq.rf
theorem arrV_ext {cA : ClassId} {n : Nat} {f g : Nat → Value} (h : ∀ j, j < n → f j = g j) : arrV cA n f = arrV cA n g := by
  unfold arrV
  have e : (fun j : Fin n => f j.val) = (fun j : Fin n => g j.val) := funext fun j => h j.val j.isLt
  rw [e]
theorem cEq.at {i kk a : Nat} {f g : Nat → Int32} (h : cEq i kk f g) (hP : va_at D cl (a, cellE ε i kk f) H) : va_at D cl (a, cellE ε i kk g) H := by
  obtain ⟨h1, h2, h3⟩ := h
  unfold cellE at hP ⊢
  rw [← h1]
  cases ho : objV i kk f with
  | some q => rw [ho] at hP; exact hP
  | none =>
    rw [ho] at hP
    simp only [] at hP ⊢
    cases ha : arrI kk with
    | some q =>
      obtain ⟨t, n⟩ := q
      rw [ha] at hP
      have e : arrV (ε.2.2.1 t) n (fun j => Value.int (f j)) = arrV (ε.2.2.1 t) n (fun j => Value.int (g j)) := arrV_ext (fun j hj => by rw [h2 t n ha j hj])
      have hP : H[a]? = some (arrV (ε.2.2.1 t) n (fun j => Value.int (f j))) := hP
      show H[a]? = some (arrV (ε.2.2.1 t) n (fun j => Value.int (g j)))
      rw [← e]
      exact hP
    | none =>
      rw [ha] at hP
      simp only [] at hP ⊢
      by_cases hk : kk = 21
      · rw [if_pos hk] at hP ⊢
        exact hP
      · rw [if_neg hk] at hP ⊢
        have e : arrV (ε.2.2.1 4) 5 (fun s => va_rf (some (ε.2.2.2.2.1 (f s).toNatClampNeg 20))) = arrV (ε.2.2.1 4) 5 (fun s => va_rf (some (ε.2.2.2.2.1 (g s).toNatClampNeg 20))) := arrV_ext (fun j hj => by rw [h3 ha ho hk j hj])
        have hP : H[a]? = some (arrV (ε.2.2.1 4) 5 (fun s => va_rf (some (ε.2.2.2.2.1 (f s).toNatClampNeg 20)))) := hP
        show H[a]? = some (arrV (ε.2.2.1 4) 5 (fun s => va_rf (some (ε.2.2.2.2.1 (g s).toNatClampNeg 20))))
        rw [← e]
        exact hP
def WE (G G' : GG) : Prop := ∀ i kk, i < lim kk → cEq i kk (G i kk) (G' i kk)
theorem WE.rf : WE G G := fun _ _ _ => cEq.rf
set_option maxRecDepth 100000 in
theorem vals_limb : vals.all (fun q => decide (q.1 < lim q.2)) = true := by decide +kernel
theorem vals_lim {q : Nat × Nat} (h : q ∈ vals) : q.1 < lim q.2 := of_decide_eq_true (List.all_eq_true.mp vals_limb q h)
theorem WE.P (h : WE G G') (hP : va_P D cl (wd ε G) H) : va_P D cl (wd ε G') H := by
  intro k q hk
  unfold wd at hk
  by_cases hl : k < vals.length
  · rw [List.getElem?_append_left (by rw [List.length_map]; exact hl), List.getElem?_map] at hk
    obtain ⟨p, hp⟩ : ∃ p, vals[k]? = some p := ⟨_, List.getElem?_eq_getElem hl⟩
    rw [hp] at hk
    cases hk
    have h1 := hP k (ε.2.2.2.2.1 p.1 p.2, cellE ε p.1 p.2 (G p.1 p.2)) (by
      unfold wd
      rw [List.getElem?_append_left (by rw [List.length_map]; exact hl), List.getElem?_map, hp]
      rfl)
    exact (h p.1 p.2 (vals_lim (List.mem_of_getElem? hp))).at h1
  · refine hP k q ?_
    unfold wd
    rw [List.getElem?_append_right (by rw [List.length_map]; omega), List.length_map] at hk ⊢
    exact hk
theorem map_fst {α β γ : Type} (f : α → β) (F : α → γ) (z : Option α) : (z.map (fun q => (f q, F q))).map Prod.fst = z.map f := by cases z <;> rfl
theorem wd_fst (ε : EE) (G G' : GG) (k : Nat) : ((wd ε G)[k]?).map Prod.fst = ((wd ε G')[k]?).map Prod.fst := by
  unfold wd
  by_cases hl : k < vals.length
  · rw [List.getElem?_append_left (by rw [List.length_map]; exact hl), List.getElem?_append_left (by rw [List.length_map]; exact hl), List.getElem?_map, List.getElem?_map, map_fst, map_fst]
  · rw [List.getElem?_append_right (by rw [List.length_map]; omega), List.getElem?_append_right (by rw [List.length_map]; omega), List.length_map, List.length_map]
theorem wd_pre {k : Nat} {p : Nat × va_E} (h : (wd ε G')[k]? = some p) : ∃ p', (wd ε G)[k]? = some p' ∧ p'.1 = p.1 := by
  have e := wd_fst ε G G' k
  rw [h] at e
  cases hg : (wd ε G)[k]? with
  | none => rw [hg] at e; cases e
  | some p' =>
    rw [hg] at e
    exact ⟨p', rfl, Option.some.inj e⟩
theorem WE.dist (hD : va_D A (wd ε G)) : va_D A (wd ε G') := by
  refine ⟨fun i j p q hi hj e => ?_, fun k q hk => ?_⟩
  · obtain ⟨p', h1, h2⟩ := wd_pre (G := G) hi
    obtain ⟨q', h3, h4⟩ := wd_pre (G := G) hj
    exact hD.1 i j p' q' h1 h3 (by rw [h2, h4, e])
  · obtain ⟨q', h1, h2⟩ := wd_pre (G := G) hk
    rw [← h2]
    exact hD.2 k q' h1
theorem C2.conv {As : List V0} {Q Q' : Option Int32 → GG → Prop} (h : ∀ v G, Q v G → ∃ G', Q' v G' ∧ WE G G') (k : C2 ε J As G Q) : C2 ε J As G Q' := by
  unfold C2 e_Ct Met at k ⊢
  refine MetFree.mono k (fun _ _ z => z) (fun _ _ _ _ _ z => z) (fun a s o s' _ z => ⟨?_, z.2⟩)
  have b3 := z.1
  cases hj : jr J with
  | none =>
    rw [e_Qc_none hj] at b3 ⊢
    obtain ⟨⟨u, c1, ⟨G', e, q⟩, c3⟩, c4⟩ := b3
    obtain ⟨G2, q2, w⟩ := h _ _ q
    rw [e] at c3
    exact ⟨⟨wd ε G2, c1, ⟨G2, rfl, q2⟩, w.P c3.1, WE.dist c3.2⟩, c4⟩
  | some ty =>
    rw [e_Qc_some hj] at b3 ⊢
    obtain ⟨⟨r, u, c1, ⟨G', e, q⟩, c3⟩, c4⟩ := b3
    obtain ⟨G2, q2, w⟩ := h _ _ q
    rw [e] at c3
    exact ⟨⟨r, wd ε G2, c1, ⟨G2, rfl, q2⟩, w.P c3.1, WE.dist c3.2⟩, c4⟩
/-- offices that show the same serve alike -/
theorem AgO.eq {U V : VV} (h : AgO U V) {i kk : Nat} (hk : kk < 18) : cEq i kk (V kk) (U kk) := by
  obtain ⟨h1, h4, h5, h6, h7, h8⟩ := h
  have hk2 : kk = 0 ∨ kk = 1 ∨ kk = 2 ∨ kk = 3 ∨ kk = 4 ∨ kk = 5 ∨ kk = 6 ∨ kk = 7 ∨ kk = 8 ∨ kk = 9 ∨ kk = 10 ∨ kk = 11 ∨ kk = 12 ∨ kk = 13 ∨ kk = 14 ∨ kk = 15 ∨ kk = 16 ∨ kk = 17 := by omega
  have ar : ∀ kk, (∀ t n, arrI kk = some (t, n) → n = lenO kk) → objV i kk (V kk) = objV i kk (U kk) → (arrI kk = none → objV i kk (V kk) = none → False) → cEq i kk (V kk) (U kk) := fun kk a b c => ⟨b, fun t n e j hj => h1 kk j (by rw [← a t n e]; exact hj), fun e1 e2 _ => (c e1 e2).elim⟩
  rcases hk2 with rfl | rfl | rfl | rfl | rfl | rfl | rfl | rfl | rfl | rfl | rfl | rfl | rfl | rfl | rfl | rfl | rfl | rfl
  · refine ar 0 (fun t n e => by cases e) ?_ (fun _ e => by cases e)
    show some (_, _) = some (_, _)
    rw [h4, h5, h6, h7]
  · exact ar 1 (fun t n e => by cases e) rfl (fun _ e => by cases e)
  · exact ar 2 (fun t n e => by cases e; rfl) rfl (fun e => by cases e)
  · refine ar 3 (fun t n e => by cases e) ?_ (fun _ e => by cases e)
    show some (_, _) = some (_, _)
    rw [h8]
  · exact ar 4 (fun t n e => by cases e; rfl) rfl (fun e => by cases e)
  · exact ar 5 (fun t n e => by cases e; rfl) rfl (fun e => by cases e)
  · exact ar 6 (fun t n e => by cases e; rfl) rfl (fun e => by cases e)
  · exact ar 7 (fun t n e => by cases e; rfl) rfl (fun e => by cases e)
  · exact ar 8 (fun t n e => by cases e; rfl) rfl (fun e => by cases e)
  · exact ar 9 (fun t n e => by cases e; rfl) rfl (fun e => by cases e)
  · exact ar 10 (fun t n e => by cases e; rfl) rfl (fun e => by cases e)
  · exact ar 11 (fun t n e => by cases e; rfl) rfl (fun e => by cases e)
  · exact ar 12 (fun t n e => by cases e) rfl (fun _ e => by cases e)
  · exact ar 13 (fun t n e => by cases e; rfl) rfl (fun e => by cases e)
  · exact ar 14 (fun t n e => by cases e; rfl) rfl (fun e => by cases e)
  · exact ar 15 (fun t n e => by cases e; rfl) rfl (fun e => by cases e)
  · exact ar 16 (fun t n e => by cases e; rfl) rfl (fun e => by cases e)
  · exact ar 17 (fun t n e => by cases e; rfl) rfl (fun e => by cases e)
/-- office i as office i2 is -/
def cpE (G : GG) (i i2 : Nat) : GG := fun i' kk => if i' = i ∧ kk < 18 then G i2 kk else G i' kk
theorem cpE_at {i i2 kk : Nat} (h : kk < 18) : cpE G i i2 i kk = G i2 kk := by unfold cpE; rw [if_pos ⟨rfl, h⟩]
theorem cpE_o {i i2 i' kk : Nat} (h : i' ≠ i ∨ 18 ≤ kk) : cpE G i i2 i' kk = G i' kk := by unfold cpE; rw [if_neg (by omega)]
theorem Q_officeE {i i2 : Nat} (hi : i < 19) (hi2 : i2 < 19) (hne : i2 ≠ i) (hz : ∀ t, t < 6 → G i2 14 t = 0 ∨ G i2 14 t = 1) : F2 ε jX5_copyFrom [.inr (i, 0), .inr (i2, 0)] G none (cpE G i i2) := by
  refine C2.conv (fun v G1 z => ⟨cpE G i i2, ⟨z.1, rfl⟩, ?_⟩) (Q_office hi hi2 hne hz)
  rw [z.2]
  intro i' kk _
  by_cases h : i' = i ∧ kk < 18
  · obtain ⟨rfl, hk⟩ := h
    rw [cpE_at hk]
    exact (cpG_ag G i' i2).eq hk
  · rw [cpG_o G i i2 (by omega), cpE_o (by omega)]
    exact cEq.rf
/-- moment j behind the copying of moment m, exactly -/
def CpX (G G' : GG) (j m : Nat) : Prop := (∀ kk, kk < 18 → G' (3 * j) kk = G (3 * m) kk) ∧ (∀ t, t < 2 → G' j 22 t = G m 22 t ∧ (G m 22 t = 1 → ∀ kk, kk < 18 → G' (3 * j + 1 + t) kk = G (3 * m + 1 + t) kk)) ∧ (∀ i kk, ¬ (3 * j ≤ i ∧ i < 3 * j + 3 ∧ kk < 18) → ¬ (i = j ∧ kk = 22) → G' i kk = G i kk)
/-- G' with moment j as moment m of G, exactly -/
def exG (G G' : GG) (j m : Nat) : GG := fun i kk => if i = 3 * j ∧ kk < 18 then G (3 * m) kk else if (i = 3 * j + 1 ∧ G m 22 0 = 1) ∧ kk < 18 then G (3 * m + 1) kk else if (i = 3 * j + 2 ∧ G m 22 1 = 1) ∧ kk < 18 then G (3 * m + 2) kk else G' i kk
theorem exG_o {j m i kk : Nat} (h : ¬ (3 * j ≤ i ∧ i < 3 * j + 3 ∧ kk < 18)) : exG G G' j m i kk = G' i kk := by
  unfold exG
  rw [if_neg (by omega), if_neg (by omega), if_neg (by omega)]
theorem CpM.ex {j m : Nat} (h : CpM G G' j m) : ∃ G2, CpX G G2 j m ∧ WE G' G2 := by
  obtain ⟨h1, h2, h3⟩ := h
  refine ⟨exG G G' j m, ⟨fun kk hk => ?_, fun t ht => ⟨?_, fun z kk hk => ?_⟩, fun i kk a b => ?_⟩, fun i kk _ => ?_⟩
  · unfold exG
    rw [if_pos ⟨rfl, hk⟩]
  · rw [exG_o (by omega)]
    exact (h2 t ht).1
  · unfold exG
    rw [if_neg (by omega)]
    have e : t = 0 ∨ t = 1 := by omega
    rcases e with rfl | rfl
    · rw [if_pos ⟨⟨rfl, z⟩, hk⟩]
    · rw [if_neg (by omega), if_pos ⟨⟨rfl, z⟩, hk⟩]
  · rw [exG_o (by omega)]
    exact h3 i kk a b
  · unfold exG
    by_cases c0 : i = 3 * j ∧ kk < 18
    · rw [if_pos c0, c0.1]
      exact h1.eq c0.2
    · rw [if_neg c0]
      by_cases c1 : (i = 3 * j + 1 ∧ G m 22 0 = 1) ∧ kk < 18
      · rw [if_pos c1, c1.1.1]
        exact ((h2 0 (by omega)).2 c1.1.2).eq c1.2
      · rw [if_neg c1]
        by_cases c2 : (i = 3 * j + 2 ∧ G m 22 1 = 1) ∧ kk < 18
        · rw [if_pos c2, c2.1.1]
          exact ((h2 1 (by omega)).2 c2.1.2).eq c2.2
        · rw [if_neg c2]
          exact cEq.rf
end EX
