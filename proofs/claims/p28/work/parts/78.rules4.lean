/-! The law's rules: its rows made; its contract. -/
section MF5
variable {ε : EE} {J : JT} {mc ms cells slots pc : Nat} {ls : List (Option V0)} {st : List V0} {ws : va_W} {Q : Option Int32 → va_W → Prop} {G G' G0 : GG} {xs ys : va_W} {H : Heap} {N : Nat}
theorem wd_ex : wd (ex ε xs) G = wd (ex ε []) G ++ xs := by
  have e : wd (ex ε []) G = vals.map (fun q => ((ex ε []).2.2.2.2.1 q.1 q.2, cellE (ex ε []) q.1 q.2 (G q.1 q.2))) := List.append_nil _
  rw [e]
  rfl
theorem wd_ex1 : wd (ex ε xs) G ++ ys = wd (ex ε (xs ++ ys)) G := by
  rw [wd_ex, wd_ex (xs := xs ++ ys), List.append_assoc]
theorem ex_e (h : ε.2.2.2.2.2 = []) : wd ε G = wd (ex ε []) G := by
  have e : wd (ex ε []) G = vals.map (fun q => ((ex ε []).2.2.2.2.1 q.1 q.2, cellE (ex ε []) q.1 q.2 (G q.1 q.2))) := List.append_nil _
  rw [e]
  unfold wd
  rw [h, List.append_nil]
  rfl
theorem app_at {k : Nat} {q : Nat × va_E} (h : xs[k]? = some q) : (xs ++ ys)[k]? = some q := by
  rw [List.getElem?_append_left (List.getElem?_eq_some_iff.1 h).1]
  exact h
theorem app_P {D : va_G} {cl : List vw_C} (h : va_P D cl (xs ++ ys) H) : va_P D cl xs H := fun k q hq => h k q (app_at hq)
theorem app_D {A : Nat → Prop} (h : va_D A (xs ++ ys)) : va_D A xs := ⟨fun i j p q hi hj => h.1 i j p q (app_at hi) (app_at hj), fun k q hk => h.2 k q (app_at hk)⟩
theorem e_of_eg (k : EG ε J (fun _ _ => True) (fun below args s => MQ below (e_Qc ε J Q) args s mc ms (e_A ε)) mc ms cells slots pc ls st ws) : E ε J mc ms cells slots pc ls st ws Q := by
  intro hT p e R s m args below meth c H locs lsA C hP hD hS hl
  exact k hT p e R s m args below meth c H locs lsA C trivial hP hD hS hl
theorem eg_of_e (k : E ε J mc ms cells slots pc ls st ws Q) : EG ε J (fun _ _ => True) (fun below args s => MQ below (e_Qc ε J Q) args s mc ms (e_A ε)) mc ms cells slots pc ls st ws := by
  intro hT p e R s m args below meth c H locs lsA C _ hP hD hS hl
  exact k hT p e R s m args below meth c H locs lsA C hP hD hS hl
theorem RI_0 {V : VV} : RI V 0 (fun _ => nI 0) (fun _ => nI 0) (fun _ => nI 0) (fun _ => nI 0) := ⟨fun _ _ => rfl, fun _ _ => rfl, fun _ _ => rfl, fun _ _ => rfl⟩
set_option maxRecDepth 100000 in
set_option maxHeartbeats 4000000 in
theorem H_rules0 (h : SG G0) (hG : lk1 G0 G) : e_Ct ε jL_rules 4 28 [.inr (0, 30)] (wd (ex ε []) G) (RQ ε G0) := by
  obtain ⟨N, hN⟩ := h.1
  refine e_met okL_rules (Nat.le_of_ble_eq_true rfl) ?_
  show E ε jL_rules 4 28 0 0 0 [some (.inr (0, 30)), none, none, none, none, none, none, none, none, none, none, none, none] [] (wd (ex ε []) G) (RQ ε G0)
  refine e_step rfl rfl ?_
  refine e_of_eg (eg_newa 0 dL_rules_2 (by decide) ac_int rfl rfl rfl (fun q1 => eg_of_e ?_))
  rw [wd_ex1]
  refine e_step rfl rfl ?_
  refine e_step rfl rfl ?_
  refine e_of_eg (eg_newa 0 dL_rules_7 (by decide) ac_int rfl rfl rfl (fun q2 => eg_of_e ?_))
  rw [wd_ex1]
  refine e_step rfl rfl ?_
  refine e_step rfl rfl ?_
  refine e_of_eg (eg_newa 0 dL_rules_12 (by decide) ac_int rfl rfl rfl (fun q3 => eg_of_e ?_))
  rw [wd_ex1]
  refine e_step rfl rfl ?_
  refine e_step rfl rfl ?_
  refine e_of_eg (eg_newa 0 dL_rules_17 (by decide) ac_int rfl rfl rfl (fun q4 => eg_of_e ?_))
  rw [wd_ex1]
  refine e_step rfl rfl ?_
  refine e_step rfl rfl ?_
  refine e_step rfl rfl ?_
  refine e_step rfl rfl ?_
  refine e_step rfl rfl ?_
  refine e_step rfl rfl ?_
  refine e_step rfl rfl ?_
  exact rs_letters (A := (q1, q2, q3, q4)) hN (fun g1 g2 g3 g4 hri => rs_places hN hri (rs_350 hN hri)) N 0 _ _ _ _ (Nat.zero_add N) RI_0 G hG
theorem H_rules (hε : ε.2.2.2.2.2 = []) (h : SG G0) (hG : lk1 G0 G) : e_Ct ε jL_rules 4 28 [.inr (0, 30)] (wd ε G) (fun v ws' => v = some (nI 1) ∧ ∃ G', ws' = wd ε G' ∧ lk1 G0 G') := by
  have k := H_rules0 (ε := ε) h hG
  rw [← ex_e hε] at k
  unfold e_Ct Met at k ⊢
  refine MetFree.mono k (fun _ _ z => z) (fun _ _ _ _ _ z => z) (fun a s o s' _ z => ⟨?_, z.2⟩)
  have b3 := z.1
  rw [e_Qc_some (J := jL_rules) (ty := .boolean) rfl] at b3 ⊢
  obtain ⟨⟨r, u, c1, ⟨q0, G', xs, e, q⟩, c3⟩, c4⟩ := b3
  rw [e, wd_ex, ← ex_e hε] at c3
  exact ⟨⟨r, wd ε G', c1, ⟨q0, G', rfl, q⟩, app_P c3.1, app_D c3.2⟩, c4⟩
end MF5
