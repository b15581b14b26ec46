/-! The law's acts: assign, rounds, slots; all kinds. -/
section ME2
variable {ε : EE} {J J' : JT} {pc : Nat} {ls : List (Option V0)} {st : List V0} {G G' G0 G1 : GG} {V V' : VV} {N Y n k w c : Nat} {y z x : Int32} {f : Nat → Int32} {Q : Option Int32 → GG → Prop}
theorem L_fr4 (hN : IV (O G0 0) N Y) (hw : w < 8) {p : Option Nat} (hp : Has (O G0 0) w p) : Lk ε jX8_frame [.inl (nI w), .inl (nI 4)] G0 (oI p) := by
  have := L_frame (ε := ε) hN hw (k := 4) (by decide)
  have e : aFrame (O G0 0) N w 4 = oI p := hp.1
  rw [e] at this
  exact this
theorem L_ca0 (hN : IV (O G0 0) N Y) (hc : c < 6) : Lk ε jX8_carrier [.inl (nI c), .inl (nI 0)] G0 (O G0 0 13 c) := L_carrier hN hc (k := 0) (by decide)
theorem L_ca1 (hN : IV (O G0 0) N Y) (hc : c < 6) : Lk ε jX8_carrier [.inl (nI c), .inl (nI 1)] G0 (O G0 0 14 c) := L_carrier hN hc (k := 1) (by decide)
theorem L_ca2 (hN : IV (O G0 0) N Y) (hc : c < 6) : Lk ε jX8_carrier [.inl (nI c), .inl (nI 2)] G0 (nI (cntB (atV (O G0 0) (nI 3) (nI c)) N)) := L_carrier hN hc (k := 2) (by decide)
theorem L_ca3 (hN : IV (O G0 0) N Y) (hc : c < 6) : Lk ε jX8_carrier [.inl (nI c), .inl (nI 3)] G0 (O G0 0 15 c) := L_carrier hN hc (k := 3) (by decide)
theorem L_fr1 (hN : IV (O G0 0) N Y) (hw : w < 8) : Lk ε jX8_frame [.inl (nI w), .inl (nI 1)] G0 (O G0 0 11 w) := L_frame hN hw (k := 1) (by decide)
set_option maxRecDepth 100000 in
/-- whoever is meant, whatever was there: one of both answers -/
theorem a_asg (h : SG G0) (hN : IV (O G0 0) N 500) (hw : w < 8) {p q : Option Nat} (hp : Has (O G0 0) w p) (hq : ∀ b, q = some b → b < 6) {best : Int32} : E3 ε jL_acts 471 [some (.inr (0, 30)), some (.inl y), some (.inl z), some (.inl (nI k)), some (.inl (nI w)), some (.inl (nI c)), some (.inl (oI p)), some (.inl best), some (.inl (if q = none then nI 1 else nI 0)), some (.inl (cI q)), none] [] G0 (HQ G0) := by
  have hcan1 : (∀ b, q = some b → O G0 0 13 b = -9 ∨ O G0 0 13 b = nI w) ∨ ∃ b, q = some b ∧ ¬ O G0 0 13 b = -9 ∧ ¬ O G0 0 13 b = nI w := by
    cases q with
    | none => exact Or.inl (fun b hb => by cases hb)
    | some b =>
      by_cases h1 : O G0 0 13 b = -9
      · exact Or.inl (fun b' hb => by cases hb; exact Or.inl h1)
      · by_cases h2 : O G0 0 13 b = nI w
        · exact Or.inl (fun b' hb => by cases hb; exact Or.inr h2)
        · exact Or.inr ⟨b, rfl, h1, h2⟩
  have h522 : ∀ can : Bool, (can = true ↔ (∀ b, q = some b → O G0 0 13 b = -9 ∨ O G0 0 13 b = nI w) ∧ ∀ a, p = some a → O G0 0 14 a = nI 0) → E3 ε jL_acts 522 [some (.inr (0, 30)), some (.inl y), some (.inl z), some (.inl (nI k)), some (.inl (nI w)), some (.inl (nI c)), some (.inl (oI p)), some (.inl best), some (.inl (if q = none then nI 1 else nI 0)), some (.inl (cI q)), none] [.inl (bI can)] G0 (HQ G0) := by
    intro can hcan
    cases can with
    | true =>
      obtain ⟨c1, c2⟩ := hcan.1 rfl
      repeat (first | refine e3_step rfl rfl ?_)
      refine e3_op (D_assign (p := p) (c := q) h hN hw hp c2 (fun b hb => ⟨hq b hb, c1 b hb⟩)) rfl rfl ⟨rfl, rfl, rfl⟩ rfl rfl rfl rfl (fun G1 zz => ?_)
      have hN1 : IV (asV (O G0 0) w p q) N 500 := hN.asg hw hp c2 (fun b hb => ⟨hq b hb, c1 b hb⟩)
      have hp1 := asg_has hN1 hp hw hq hN
      rw [← zz.2.1] at hN1 hp1
      repeat (first | refine e3_step rfl rfl ?_)
      refine e3_if rfl rfl (fun q => absurd q (by decide)) (fun _ => ?_)
      repeat (first | refine e3_step rfl rfl ?_)
      refine e3_if rfl rfl (fun q => absurd rfl q) (fun _ => ?_)
      repeat (first | refine e3_step rfl rfl ?_)
      refine e3_look (L_fr4 hN1 hw hp1) rfl rfl ⟨rfl, rfl, rfl⟩ rfl rfl rfl rfl ?_
      repeat (first | refine e3_step rfl rfl ?_)
      refine e3_if rfl rfl (fun q => absurd q (by decide)) (fun _ => ?_)
      repeat (first | refine e3_step rfl rfl ?_)
      cases q with
      | none =>
        refine e3_if rfl rfl (fun q => absurd (show nI 1 = 0 from q) (by decide)) (fun _ => ?_)
        repeat (first | refine e3_step rfl rfl ?_)
        refine e3_if rfl rfl (fun q => absurd rfl q) (fun _ => ?_)
        repeat (first | refine e3_step rfl rfl ?_)
        exact e3_zret rfl rfl rfl (HQ.dn zz)
      | some b =>
        refine e3_if rfl rfl (fun _ => ?_) (fun q => absurd (show nI 0 = 0 from rfl) q)
        repeat (first | refine e3_step rfl rfl ?_)
        refine e3_if rfl rfl (fun q => absurd rfl q) (fun _ => ?_)
        repeat (first | refine e3_step rfl rfl ?_)
        exact e3_zret rfl rfl rfl (HQ.dn zz)
    | false =>
      have hno : (∃ b, q = some b ∧ ¬ O G0 0 13 b = -9 ∧ ¬ O G0 0 13 b = nI w) ∨ ∃ a, p = some a ∧ O G0 0 14 a = nI 1 := by
        rcases hcan1 with c1 | c1
        · right
          have : ¬ ∀ a, p = some a → O G0 0 14 a = nI 0 := fun c2 => by
            have := hcan.2 ⟨c1, c2⟩
            cases this
          cases p with
          | none => exact absurd (fun a ha => by cases ha) this
          | some a =>
            refine ⟨a, rfl, ?_⟩
            rcases (hN.1.2.1.1 a (hp.2.1 a rfl).1).1 with q | q
            · exact absurd (fun a' ha => by cases ha; exact q) this
            · exact q
        · exact Or.inl c1
      repeat (first | refine e3_step rfl rfl ?_)
      refine e3_look (L_assignNo (p := p) (c := q) hw hp hq hno) rfl rfl ⟨rfl, rfl, rfl⟩ rfl rfl rfl rfl ?_
      repeat (first | refine e3_step rfl rfl ?_)
      refine e3_if rfl rfl (fun _ => ?_) (fun q => absurd rfl q)
      repeat (first | refine e3_step rfl rfl ?_)
      refine e3_if rfl rfl (fun q => absurd rfl q) (fun _ => ?_)
      repeat (first | refine e3_step rfl rfl ?_)
      refine e3_look (L_fr4 hN hw hp) rfl rfl ⟨rfl, rfl, rfl⟩ rfl rfl rfl rfl ?_
      repeat (first | refine e3_step rfl rfl ?_)
      refine e3_if rfl rfl (fun _ => ?_) (fun q => absurd rfl q)
      repeat (first | refine e3_step rfl rfl ?_)
      refine e3_if rfl rfl (fun q => absurd rfl q) (fun _ => ?_)
      repeat (first | refine e3_step rfl rfl ?_)
      exact e3_zret rfl rfl rfl HQ.lk
  have h521 : (¬ ((∀ b, q = some b → O G0 0 13 b = -9 ∨ O G0 0 13 b = nI w) ∧ ∀ a, p = some a → O G0 0 14 a = nI 0)) → E3 ε jL_acts 521 [some (.inr (0, 30)), some (.inl y), some (.inl z), some (.inl (nI k)), some (.inl (nI w)), some (.inl (nI c)), some (.inl (oI p)), some (.inl best), some (.inl (if q = none then nI 1 else nI 0)), some (.inl (cI q)), none] [] G0 (HQ G0) := by
    intro hn
    refine e3_step rfl rfl ?_
    exact h522 false ⟨(fun q => by cases q), fun q => absurd q hn⟩
  have h500 : (∀ b, q = some b → O G0 0 13 b = -9 ∨ O G0 0 13 b = nI w) → E3 ε jL_acts 500 [some (.inr (0, 30)), some (.inl y), some (.inl z), some (.inl (nI k)), some (.inl (nI w)), some (.inl (nI c)), some (.inl (oI p)), some (.inl best), some (.inl (if q = none then nI 1 else nI 0)), some (.inl (cI q)), none] [] G0 (HQ G0) := by
    intro c1
    repeat (first | refine e3_step rfl rfl ?_)
    cases p with
    | none =>
      refine e3_if rfl rfl (fun _ => ?_) (fun q => absurd rfl q)
      repeat (first | refine e3_stepS 522 rfl rfl rfl ?_)
      exact h522 true ⟨fun _ => ⟨c1, fun a ha => by cases ha⟩, fun _ => rfl⟩
    | some a =>
      have ha := (hp.2.1 a rfl).1
      refine e3_if rfl rfl (fun q => absurd (show nI a = -9 from q) (nI_n9 (by omega))) (fun _ => ?_)
      repeat (first | refine e3_step rfl rfl ?_)
      refine e3_look (L_ca1 (c := a) hN ha) rfl rfl ⟨rfl, rfl, rfl⟩ rfl rfl rfl rfl ?_
      rcases (hN.1.2.1.1 a ha).1 with e | e
      · rw [e]
        refine e3_if rfl rfl (fun q => absurd rfl q) (fun _ => ?_)
        repeat (first | refine e3_stepS 522 rfl rfl rfl ?_)
        exact h522 true ⟨fun _ => ⟨c1, fun a' ha' => by cases ha'; exact e⟩, fun _ => rfl⟩
      · rw [e]
        refine e3_if rfl rfl (fun _ => ?_) (fun q => absurd (by decide) q)
        refine h521 (fun q => ?_)
        have := q.2 a rfl
        rw [e] at this
        exact absurd this (by decide)
  repeat (first | refine e3_step rfl rfl ?_)
  cases q with
  | none =>
    refine e3_if rfl rfl (fun _ => ?_) (fun q => absurd (show (-1 : Int32) < 0 by decide) q)
    exact h500 (fun b hb => by cases hb)
  | some b =>
    have hb := hq b rfl
    refine e3_if rfl rfl (fun q => absurd (show nI b < 0 from q) (nI_pos (by omega))) (fun _ => ?_)
    repeat (first | refine e3_step rfl rfl ?_)
    refine e3_look (L_ca0 (c := b) hN hb) rfl rfl ⟨rfl, rfl, rfl⟩ rfl rfl rfl rfl ?_
    repeat (first | refine e3_step rfl rfl ?_)
    by_cases e1 : O G0 0 13 b = -9
    · refine e3_if rfl rfl (fun _ => ?_) (fun q => absurd e1 q)
      exact h500 (fun b' hb' => by cases hb'; exact Or.inl e1)
    · refine e3_if rfl rfl (fun q => absurd q e1) (fun _ => ?_)
      repeat (first | refine e3_step rfl rfl ?_)
      refine e3_look (L_ca0 (c := b) hN hb) rfl rfl ⟨rfl, rfl, rfl⟩ rfl rfl rfl rfl ?_
      repeat (first | refine e3_step rfl rfl ?_)
      by_cases e2 : O G0 0 13 b = nI w
      · refine e3_if rfl rfl (fun q => absurd e2 q) (fun _ => ?_)
        exact h500 (fun b' hb' => by cases hb'; exact Or.inr e2)
      · refine e3_if rfl rfl (fun _ => ?_) (fun q => absurd e2 q)
        refine h521 (fun q => ?_)
        rcases q.1 b rfl with q | q
        · exact e1 q
        · exact e2 q
set_option maxRecDepth 100000 in
theorem A_asg (h : SG G0) (hw : w < 8) (hc : c < 6) : E3 ε jL_acts 408 [some (.inr (0, 30)), some (.inl y), some (.inl z), some (.inl (nI k)), some (.inl (nI w)), some (.inl (nI c)), none, none, none, none, none] [] G0 (HQ G0) := by
  obtain ⟨N, hN⟩ := h.1
  obtain ⟨p, hp⟩ := has_of (O G0 0) w
  repeat (first | refine e3_step rfl rfl ?_)
  refine e3_look (L_fr4 hN hw hp) rfl rfl ⟨rfl, rfl, rfl⟩ rfl rfl rfl rfl ?_
  repeat (first | refine e3_step rfl rfl ?_)
  refine e3_look (L_best hw) rfl rfl ⟨rfl, rfl, rfl⟩ rfl rfl rfl rfl ?_
  repeat (first | refine e3_step rfl rfl ?_)
  have hbb : ∀ b, bwwV (O G0 0) w 6 = some b → b < 6 := bwwV_lt (O G0 0) w 6
  by_cases hz : z &&& nI 7 = 0
  · refine e3_if rfl rfl (fun q => absurd hz q) (fun _ => ?_)
    repeat (first | refine e3_step rfl rfl ?_)
    refine e3_if rfl rfl (fun q => absurd q (by decide)) (fun _ => ?_)
    repeat (first | refine e3_stepS 471 rfl rfl rfl ?_)
    exact a_asg (p := p) (q := none) h hN hw hp (fun b hb => by cases hb)
  · refine e3_if rfl rfl (fun _ => ?_) (fun q => absurd hz q)
    repeat (first | refine e3_step rfl rfl ?_)
    refine e3_if rfl rfl (fun _ => ?_) (fun q => absurd rfl q)
    repeat (first | refine e3_step rfl rfl ?_)
    have hc0 : E3 ε jL_acts 467 [some (.inr (0, 30)), some (.inl y), some (.inl z), some (.inl (nI k)), some (.inl (nI w)), some (.inl (nI c)), some (.inl (oI p)), some (.inl (oI (bwwV (O G0 0) w 6))), some (.inl (nI 0)), none, none] [] G0 (HQ G0) := by
      repeat (first | refine e3_stepS 471 rfl rfl rfl ?_)
      exact a_asg (p := p) (q := some c) h hN hw hp (fun b hb => by cases hb; exact hc)
    by_cases hz8 : z &&& nI 8 = 0
    · refine e3_if rfl rfl (fun q => absurd hz8 q) (fun _ => ?_)
      repeat (first | refine e3_step rfl rfl ?_)
      cases hb : bwwV (O G0 0) w 6 with
      | none =>
        rw [hb] at hc0
        exact e3_if rfl rfl (fun _ => hc0) (fun q => absurd rfl q)
      | some b =>
        have hb6 := hbb b hb
        refine e3_if rfl rfl (fun q => absurd (show nI b = -9 from q) (nI_n9 (by omega))) (fun _ => ?_)
        repeat (first | refine e3_stepS 471 rfl rfl rfl ?_)
        exact a_asg (p := p) (q := some b) h hN hw hp (fun b' hb' => by cases hb'; exact hb6)
    · exact e3_if rfl rfl (fun _ => hc0) (fun q => absurd hz8 q)
theorem cg_of {V : VV} {w c : Nat} (h : IV V N Y) (hw : w < 8) (h13 : V 13 c = nI w) (h14 : V 14 c = nI 0) : cgB V c = decide (0 < cntB (atV V (nI 1) (nI w)) N) := by
  have hN := h.1.nle
  have h11 := h.1.2.2.1 w hw
  have hle : cntB (atV V (nI 1) (nI w)) N ≤ N := cntB_le _ _
  unfold cgB
  rw [h13, nI_clamp (by omega), h11, decide_eq_true (nI_n9 (by omega)), Bool.true_and, decide_eq_true (p := V 14 c = 0) h14, Bool.true_and]
  refine decide_eq_decide.2 ?_
  constructor
  · intro q
    rcases Nat.eq_zero_or_pos (cntB (atV V (nI 1) (nI w)) N) with z | z
    · rw [z] at q
      exact absurd (Int32.le_refl _) q
    · exact z
  · intro q
    exact nI_ge (a := 0) q (by omega)
set_option maxRecDepth 100000 in
set_option maxHeartbeats 2000000 in
theorem A_round (h : SG G0) (hc : c < 6) : E3 ε jL_acts 600 [some (.inr (0, 30)), some (.inl y), some (.inl z), some (.inl (nI k)), some (.inl (nI w)), some (.inl (nI c)), some (.inl (O G0 0 13 c)), none, none, none, none] [] G0 (HQ G0) := by
  obtain ⟨N, hN⟩ := h.1
  have hN120 := hN.1.nle
  obtain ⟨u, u1, u30, hu⟩ := hN.1.1.2.2.2.2.2.2.2
  obtain ⟨k1, k2, k3⟩ := hN.1.2.1.1 c hc
  rcases k1 with h14 | h14
  · -- in
    have hno : ∀ there : Nat, there = 0 → cgB (O G0 0) c = false → E3 ε jL_acts 714 [some (.inr (0, 30)), some (.inl y), some (.inl z), some (.inl (nI k)), some (.inl (nI w)), some (.inl (nI c)), some (.inl (O G0 0 13 c)), some (.inl (-2)), none, none, none] [.inl (nI there)] G0 (HQ G0) := by
      intro there ht hg
      subst ht
      have hh : cntB (atV (O G0 0) (nI 3) (nI c)) N = 0 := hN.2.1.none hc h14
      have c2 : Lk ε jX8_carrier [.inl (nI c), .inl (nI 2)] G0 (nI 0) := by rw [← hh]; exact L_ca2 hN hc
      repeat (first | refine e3_step rfl rfl ?_)
      refine e3_look (L_c15 hN hu) rfl rfl ⟨rfl, rfl, rfl⟩ rfl rfl rfl rfl ?_
      refine e3_if rfl rfl (fun q => absurd q (nI_ge (a := 0) (b := u) (by omega) (by omega))) (fun _ => ?_)
      repeat (first | refine e3_step rfl rfl ?_)
      refine e3_look (L_goOutNo hN hc hg) rfl rfl ⟨rfl, rfl, rfl⟩ rfl rfl rfl rfl ?_
      repeat (first | refine e3_step rfl rfl ?_)
      refine e3_if rfl rfl (fun _ => ?_) (fun q => absurd (Int32.le_refl _) q)
      repeat (first | refine e3_step rfl rfl ?_)
      refine e3_if rfl rfl (fun q => absurd rfl q) (fun _ => ?_)
      repeat (first | refine e3_step rfl rfl ?_)
      refine e3_look (L_wouldNo hN hc h14 hg) rfl rfl ⟨rfl, rfl, rfl⟩ rfl rfl rfl rfl ?_
      repeat (first | refine e3_step rfl rfl ?_)
      refine e3_if rfl rfl (fun q => absurd rfl q) (fun _ => ?_)
      repeat (first | refine e3_step rfl rfl ?_)
      refine e3_look (c2) rfl rfl ⟨rfl, rfl, rfl⟩ rfl rfl rfl rfl ?_
      repeat (first | refine e3_step rfl rfl ?_)
      refine e3_if rfl rfl (fun q => absurd rfl q) (fun _ => ?_)
      repeat (first | refine e3_step rfl rfl ?_)
      exact e3_zret rfl rfl rfl HQ.lk
    by_cases h9 : O G0 0 13 c = -9
    · have hg : cgB (O G0 0) c = false := by unfold cgB; rw [decide_eq_false (fun q => q h9), Bool.false_and]
      repeat (first | refine e3_step rfl rfl ?_)
      refine e3_look (L_wouldNo hN hc h14 hg) rfl rfl ⟨rfl, rfl, rfl⟩ rfl rfl rfl rfl ?_
      repeat (first | refine e3_step rfl rfl ?_)
      refine e3_look (L_ca1 hN hc) rfl rfl ⟨rfl, rfl, rfl⟩ rfl rfl rfl rfl ?_
      rw [h14]
      repeat (first | refine e3_step rfl rfl ?_)
      refine e3_if rfl rfl (fun _ => ?_) (fun q => absurd (by decide) q)
      repeat (first | refine e3_step rfl rfl ?_)
      refine e3_if rfl rfl (fun q => absurd h9 q) (fun _ => ?_)
      repeat (first | refine e3_stepS 714 rfl rfl rfl ?_)
      exact hno 0 rfl hg
    · obtain ⟨v, v8, hv⟩ := k2.resolve_left h9
      have hcg := cg_of hN v8 hv h14
      have h11 := hN.1.2.2.1 v v8
      have hle : cntB (atV (O G0 0) (nI 1) (nI v)) N ≤ N := cntB_le _ _
      have f1 : Lk ε jX8_frame [.inl (nI v), .inl (nI 1)] G0 (nI (cntB (atV (O G0 0) (nI 1) (nI v)) N)) := by rw [← h11]; exact L_fr1 hN v8
      rcases Nat.eq_zero_or_pos (cntB (atV (O G0 0) (nI 1) (nI v)) N) with z0 | z0
      · have hg : cgB (O G0 0) c = false := by rw [hcg, z0]; rfl
        have hno0 := hno _ z0 hg
        repeat (first | refine e3_step rfl rfl ?_)
        refine e3_look (L_wouldNo hN hc h14 hg) rfl rfl ⟨rfl, rfl, rfl⟩ rfl rfl rfl rfl ?_
        repeat (first | refine e3_step rfl rfl ?_)
        refine e3_look (L_ca1 hN hc) rfl rfl ⟨rfl, rfl, rfl⟩ rfl rfl rfl rfl ?_
        rw [h14]
        repeat (first | refine e3_step rfl rfl ?_)
        refine e3_if rfl rfl (fun _ => ?_) (fun q => absurd (by decide) q)
        repeat (first | refine e3_step rfl rfl ?_)
        refine e3_if rfl rfl (fun _ => ?_) (fun q => absurd h9 q)
        repeat (first | refine e3_step rfl rfl ?_)
        rw [hv] at hno0 ⊢
        refine e3_look (f1) rfl rfl ⟨rfl, rfl, rfl⟩ rfl rfl rfl rfl ?_
        exact hno0
      · have hg : cgB (O G0 0) c = true := by rw [hcg, decide_eq_true z0]
        have hs := snd_all hN hc h14 v8 hv
        have hsn : sndn (O G0 0) N c = min (cntB (atV (O G0 0) (nI 1) (nI v)) N) u := by
          unfold sndn
          rw [hv, atVR_n, hu, nI_clamp (by omega)]
        have h13b : sndV (O G0 0) N c 13 c = nI v := by rw [snd_o (by decide) (by decide) (by decide) (by decide)]; exact hv
        repeat (first | refine e3_step rfl rfl ?_)
        refine e3_look (L_wouldIn hN hc v8 hv h14 hg) rfl rfl ⟨rfl, rfl, rfl⟩ rfl rfl rfl rfl ?_
        repeat (first | refine e3_step rfl rfl ?_)
        refine e3_look (L_ca1 hN hc) rfl rfl ⟨rfl, rfl, rfl⟩ rfl rfl rfl rfl ?_
        rw [h14]
        repeat (first | refine e3_step rfl rfl ?_)
        refine e3_if rfl rfl (fun _ => ?_) (fun q => absurd (by decide) q)
        repeat (first | refine e3_step rfl rfl ?_)
        refine e3_if rfl rfl (fun _ => ?_) (fun q => absurd h9 q)
        repeat (first | refine e3_step rfl rfl ?_)
        rw [hv]
        refine e3_look (f1) rfl rfl ⟨rfl, rfl, rfl⟩ rfl rfl rfl rfl ?_
        have h738 : E3 ε jL_acts 738 [some (.inr (0, 30)), some (.inl y), some (.inl z), some (.inl (nI k)), some (.inl (nI w)), some (.inl (nI c)), some (.inl (nI v)), some (.inl (nI (brgn (sndV (O G0 0) N c) N c v))), some (.inl (nI (cntB (atV (O G0 0) (nI 1) (nI v)) N))), none, none] [.inl (nI (min (cntB (atV (O G0 0) (nI 1) (nI v)) N) u))] G0 (HQ G0) := by
          repeat (first | refine e3_step rfl rfl ?_)
          refine e3_op (D_goOut h hN hc v8 hv h14 hg) rfl rfl ⟨rfl, rfl, rfl⟩ rfl rfl rfl rfl (fun G1 zz => ?_)
          have hN1 : IV (O G1 0) N 500 := by rw [zz.2.1]; exact hs.1
          have e13 : O G1 0 13 c = nI v := by rw [zz.2.1]; exact h13b
          have e14 : O G1 0 14 c = nI 1 := by rw [zz.2.1]; exact hs.2.2
          have w1 : Lk ε jX8_wouldDeliver [.inl (nI c)] G1 (nI (brgn (sndV (O G0 0) N c) N c v)) := by
            rw [← zz.2.1]
            exact L_wouldOut hN1 hc v8 e13 e14
          have c2 : Lk ε jX8_carrier [.inl (nI c), .inl (nI 2)] G1 (nI (min (cntB (atV (O G0 0) (nI 1) (nI v)) N) u)) := by
            rw [← hsn, ← hs.2.1, ← zz.2.1]
            exact L_ca2 hN1 hc
          rw [hsn]
          repeat (first | refine e3_step rfl rfl ?_)
          refine e3_if rfl rfl (fun q => absurd (show nI _ ≤ nI 0 from q) (nI_ge z0 (by omega))) (fun _ => ?_)
          repeat (first | refine e3_step rfl rfl ?_)
          refine e3_if rfl rfl (fun q => absurd rfl q) (fun _ => ?_)
          repeat (first | refine e3_step rfl rfl ?_)
          refine e3_look (w1) rfl rfl ⟨rfl, rfl, rfl⟩ rfl rfl rfl rfl ?_
          repeat (first | refine e3_step rfl rfl ?_)
          refine e3_if rfl rfl (fun q => absurd rfl q) (fun _ => ?_)
          repeat (first | refine e3_step rfl rfl ?_)
          refine e3_look (c2) rfl rfl ⟨rfl, rfl, rfl⟩ rfl rfl rfl rfl ?_
          repeat (first | refine e3_step rfl rfl ?_)
          refine e3_if rfl rfl (fun q => absurd rfl q) (fun _ => ?_)
          repeat (first | refine e3_step rfl rfl ?_)
          exact e3_zret rfl rfl rfl (HQ.dn zz)
        repeat (first | refine e3_step rfl rfl ?_)
        refine e3_look (L_c15 hN hu) rfl rfl ⟨rfl, rfl, rfl⟩ rfl rfl rfl rfl ?_
        by_cases hlt : cntB (atV (O G0 0) (nI 1) (nI v)) N < u
        · refine e3_if rfl rfl (fun q => absurd q (nI_ge hlt (by omega))) (fun _ => ?_)
          rw [Nat.min_eq_left (by omega)] at h738
          repeat (first | refine e3_stepS 738 rfl rfl rfl ?_)
          exact h738
        · refine e3_if rfl rfl (fun _ => ?_) (fun q => absurd (nI_le (a := u) (by omega) (by omega)) q)
          rw [Nat.min_eq_right (by omega)] at h738
          repeat (first | refine e3_step rfl rfl ?_)
          refine e3_look (L_c15 hN hu) rfl rfl ⟨rfl, rfl, rfl⟩ rfl rfl rfl rfl ?_
          exact h738
  · -- out
    obtain ⟨v, v8, hv⟩ := k2.resolve_left (k3 h14)
    obtain ⟨b1, b2, b3, b4⟩ := brg_all (by decide) hN hc v8 hv
    repeat (first | refine e3_step rfl rfl ?_)
    refine e3_look (L_wouldOut hN hc v8 hv h14) rfl rfl ⟨rfl, rfl, rfl⟩ rfl rfl rfl rfl ?_
    repeat (first | refine e3_step rfl rfl ?_)
    refine e3_look (L_ca1 hN hc) rfl rfl ⟨rfl, rfl, rfl⟩ rfl rfl rfl rfl ?_
    rw [h14]
    repeat (first | refine e3_step rfl rfl ?_)
    refine e3_if rfl rfl (fun q => absurd rfl q) (fun _ => ?_)
    repeat (first | refine e3_step rfl rfl ?_)
    refine e3_look (L_ca3 hN hc) rfl rfl ⟨rfl, rfl, rfl⟩ rfl rfl rfl rfl ?_
    repeat (first | refine e3_step rfl rfl ?_)
    rw [hv]
    refine e3_look (L_rounds hc v8) rfl rfl ⟨rfl, rfl, rfl⟩ rfl rfl rfl rfl ?_
    repeat (first | refine e3_step rfl rfl ?_)
    refine e3_op (D_comeBack h hN hc v8 hv h14) rfl rfl ⟨rfl, rfl, rfl⟩ rfl rfl rfl rfl (fun G1 zz => ?_)
    have hN1 : IV (O G1 0) N 500 := by rw [zz.2.1]; exact b1
    have r1 : Lk ε jX8_rounds [.inl (nI c), .inl (nI v)] G1 (O G0 0 16 (c * 8 + v) + nI 1) := by
      rw [← b3, ← zz.2.1]
      exact L_rounds hc v8
    have c3 : Lk ε jX8_carrier [.inl (nI c), .inl (nI 3)] G1 (O G0 0 15 c + nI (brgn (O G0 0) N c v)) := by
      rw [← b2, ← zz.2.1]
      exact L_ca3 hN1 hc
    have e14 : O G1 0 14 c = nI 0 := by rw [zz.2.1]; exact b4
    repeat (first | refine e3_step rfl rfl ?_)
    refine e3_if rfl rfl (fun q => absurd rfl q) (fun _ => ?_)
    repeat (first | refine e3_step rfl rfl ?_)
    refine e3_look (c3) rfl rfl ⟨rfl, rfl, rfl⟩ rfl rfl rfl rfl ?_
    repeat (first | refine e3_step rfl rfl ?_)
    refine e3_if rfl rfl (fun q => absurd rfl q) (fun _ => ?_)
    repeat (first | refine e3_step rfl rfl ?_)
    refine e3_look (r1) rfl rfl ⟨rfl, rfl, rfl⟩ rfl rfl rfl rfl ?_
    repeat (first | refine e3_step rfl rfl ?_)
    refine e3_if rfl rfl (fun q => absurd rfl q) (fun _ => ?_)
    repeat (first | refine e3_step rfl rfl ?_)
    refine e3_look (L_comeBackNo hc e14) rfl rfl ⟨rfl, rfl, rfl⟩ rfl rfl rfl rfl ?_
    repeat (first | refine e3_step rfl rfl ?_)
    refine e3_if rfl rfl (fun q => absurd rfl q) (fun _ => ?_)
    repeat (first | refine e3_step rfl rfl ?_)
    exact e3_zret rfl rfl rfl (HQ.dn zz)
set_option maxRecDepth 100000 in
theorem A_slot (h : SG G0) : E3 ε jL_acts 790 [some (.inr (0, 30)), some (.inl y), some (.inl z), some (.inl (nI k)), some (.inl (nI w)), some (.inl (nI c)), some (.inl x), none, none, none, none] [] G0 (HQ G0) := by
  obtain ⟨N, hN⟩ := h.1
  obtain ⟨yy, y500, hy⟩ := hN.1.1.2.2.2.2.1
  obtain ⟨t, ht, et⟩ := and_le z 1 (by decide)
  repeat (first | refine e3_step rfl rfl ?_)
  rw [et]
  by_cases hz : z &&& nI 2 = 0
  · refine e3_if rfl rfl (fun q => absurd hz q) (fun _ => ?_)
    repeat (first | refine e3_step rfl rfl ?_)
    refine e3_op (D_take (t := t) h (by omega)) rfl rfl ⟨rfl, rfl, rfl⟩ rfl rfl rfl rfl (fun G1 zz => ?_)
    have hN1 : IV (O G1 0) N 500 := by rw [zz.2.1]; exact hN
    have hy1 : O G1 0 0 4 = nI yy := by rw [zz.2.1]; exact hy
    rw [hy]
    repeat (first | refine e3_step rfl rfl ?_)
    refine e3_look (L_c7 hN1 hy1) rfl rfl ⟨rfl, rfl, rfl⟩ rfl rfl rfl rfl ?_
    refine e3_if rfl rfl (fun q => absurd rfl q) (fun _ => ?_)
    repeat (first | refine e3_step rfl rfl ?_)
    exact e3_zret rfl rfl rfl (HQ.dn zz)
  · refine e3_if rfl rfl (fun _ => ?_) (fun q => absurd hz q)
    repeat (first | refine e3_step rfl rfl ?_)
    rcases (h.2.1 t (by omega)).1 with hf | hf
    · have c16 : Lk ε jX8_count [.inl (nI 16)] G0 (nI (cntB (fun c => decide (¬ G0 0 22 c = 0)) 2)) := L_count hN (k := 16) (by decide)
      have hlt : cntB (fun c => decide (¬ G0 0 22 c = 0)) 2 < 2 := by
        have ht2 : t = 0 ∨ t = 1 := by omega
        have e : cntB (fun c => decide (¬ G0 0 22 c = 0)) 2 = (0 + (if decide (¬ G0 0 22 0 = 0) = true then 1 else 0)) + (if decide (¬ G0 0 22 1 = 0) = true then 1 else 0) := rfl
        rw [e]
        rcases ht2 with rfl | rfl
        · have f0 : decide (¬ G0 0 22 0 = 0) = false := decide_eq_false (fun q => q hf)
          rw [f0, if_neg (by decide)]
          split <;> omega
        · have f0 : decide (¬ G0 0 22 1 = 0) = false := decide_eq_false (fun q => q hf)
          rw [f0, if_neg (c := false = true) (by decide)]
          split <;> omega
      refine e3_look (L_restoreNo (t := t) (by omega) hf) rfl rfl ⟨rfl, rfl, rfl⟩ rfl rfl rfl rfl ?_
      repeat (first | refine e3_step rfl rfl ?_)
      refine e3_if rfl rfl (fun q => absurd rfl q) (fun _ => ?_)
      repeat (first | refine e3_step rfl rfl ?_)
      refine e3_look (c16) rfl rfl ⟨rfl, rfl, rfl⟩ rfl rfl rfl rfl ?_
      repeat (first | refine e3_step rfl rfl ?_)
      refine e3_if rfl rfl (fun q => absurd q (nI_ge hlt (by decide))) (fun _ => ?_)
      repeat (first | refine e3_step rfl rfl ?_)
      exact e3_zret rfl rfl rfl HQ.lk
    · obtain ⟨N2, hN2⟩ := (h.2.1 t (by omega)).2 hf
      obtain ⟨y2, y2500, hy2⟩ := hN2.1.1.2.2.2.2.1
      refine e3_op (D_restore (t := t) h (by omega) hf) rfl rfl ⟨rfl, rfl, rfl⟩ rfl rfl rfl rfl (fun G1 zz => ?_)
      have hN1 : IV (O G1 0) N2 500 := by rw [zz.2.1]; exact hN2
      have hy1 : O G1 0 0 4 = nI y2 := by rw [zz.2.1]; exact hy2
      rw [hy2]
      repeat (first | refine e3_step rfl rfl ?_)
      refine e3_if rfl rfl (fun _ => ?_) (fun q => absurd (fun w => by
        have := congrArg Int32.toInt w
        rw [nI_toInt (by omega)] at this
        have e2 : (-2 : Int32).toInt = -2 := by decide
        omega) q)
      repeat (first | refine e3_step rfl rfl ?_)
      refine e3_look (L_c7 hN1 hy1) rfl rfl ⟨rfl, rfl, rfl⟩ rfl rfl rfl rfl ?_
      refine e3_if rfl rfl (fun q => absurd rfl q) (fun _ => ?_)
      repeat (first | refine e3_step rfl rfl ?_)
      exact e3_zret rfl rfl rfl (HQ.dn zz)
theorem After.tr {G2 : GG} (h : After G0 G1) (k : lk1 G1 G2) : After G0 G2 := by
  rcases h with h | ⟨V', h⟩
  · exact Or.inl (h.tr k)
  · exact Or.inr ⟨V', h.lk k⟩
set_option maxRecDepth 100000 in
theorem H_acts (h : SG G0) (y z : Int32) : ∀ G, lk1 G0 G → C2 ε jL_acts [.inr (0, 30), .inl y, .inl z] G (HQ G0) := by
  obtain ⟨N, hN⟩ := h.1
  obtain ⟨k, hk, ek⟩ := and_le y 15 (by decide)
  obtain ⟨w, hw, ew⟩ := lowI_of (y >>> (nI 4 &&& 31)) (n := 8) (by decide) (by decide)
  obtain ⟨c, hc, ec⟩ := lowI_of (y >>> (nI 8 &&& 31)) (n := 6) (by decide) (by decide)
  refine C3.of (ls := [some (.inr (0, 30)), some (.inl y), some (.inl z), none, none, none, none, none, none, none, none]) okL_acts rfl rfl ?_
  repeat (first | refine e3_step rfl rfl ?_)
  rw [ek]
  refine e3_stat (L_low (y >>> (nI 4 &&& 31)) (n := 8) (by decide) (by decide)) rfl rfl ⟨rfl, rfl, rfl⟩ rfl rfl rfl ?_
  rw [ew]
  repeat (first | refine e3_step rfl rfl ?_)
  refine e3_stat (L_low (y >>> (nI 8 &&& 31)) (n := 6) (by decide) (by decide)) rfl rfl ⟨rfl, rfl, rfl⟩ rfl rfl rfl ?_
  rw [ec]
  repeat (first | refine e3_step rfl rfl ?_)
  by_cases k3 : k < 3
  · refine e3_if rfl rfl (fun q => absurd q (nI_ge k3 (by decide))) (fun _ => ?_)
    exact A_post h
  · refine e3_if rfl rfl (fun _ => ?_) (fun q => absurd (nI_le (a := 3) (b := k) (by omega) (by omega)) q)
    repeat (first | refine e3_step rfl rfl ?_)
    by_cases k7 : k < 7
    · refine e3_if rfl rfl (fun q => absurd q (nI_ge k7 (by decide))) (fun _ => ?_)
      repeat (first | refine e3_step rfl rfl ?_)
      refine e3_statO (As := [.inr (0, 30)]) (r := nI 1) (P := fun G' => After G0 G') (H_hours h) rfl rfl ⟨rfl, rfl, rfl⟩ rfl rfl rfl (fun G1 zz => ?_)
      exact e3_zret rfl rfl rfl (fun G' hG' => ⟨rfl, zz.tr hG'⟩)
    · refine e3_if rfl rfl (fun _ => ?_) (fun q => absurd (nI_le (a := 7) (b := k) (by omega) (by omega)) q)
      repeat (first | refine e3_step rfl rfl ?_)
      by_cases k7e : k = 7
      · refine e3_if rfl rfl (fun q => absurd (by rw [k7e]) q) (fun _ => ?_)
        exact A_range h hw
      · refine e3_if rfl rfl (fun _ => ?_) (fun q => absurd (fun w => k7e ((nI_eq (by omega) (by decide)).1 w)) q)
        repeat (first | refine e3_step rfl rfl ?_)
        by_cases k8 : k = 8
        · refine e3_if rfl rfl (fun q => absurd (by rw [k8]) q) (fun _ => ?_)
          exact A_set h
        · refine e3_if rfl rfl (fun _ => ?_) (fun q => absurd (fun w => k8 ((nI_eq (by omega) (by decide)).1 w)) q)
          repeat (first | refine e3_step rfl rfl ?_)
          by_cases k11 : k < 11
          · refine e3_if rfl rfl (fun q => absurd q (nI_ge k11 (by decide))) (fun _ => ?_)
            exact A_asg h hw hc
          · refine e3_if rfl rfl (fun _ => ?_) (fun q => absurd (nI_le (a := 11) (b := k) (by omega) (by omega)) q)
            repeat (first | refine e3_step rfl rfl ?_)
            refine e3_look (L_ca0 hN hc) rfl rfl ⟨rfl, rfl, rfl⟩ rfl rfl rfl rfl ?_
            repeat (first | refine e3_step rfl rfl ?_)
            by_cases k15 : k < 15
            · refine e3_if rfl rfl (fun q => absurd q (nI_ge k15 (by decide))) (fun _ => ?_)
              exact A_round h hc
            · refine e3_if rfl rfl (fun _ => ?_) (fun q => absurd (nI_le (a := 15) (b := k) (by omega) (by omega)) q)
              exact A_slot h
end ME2
