/-! Calls that record a state: assign. -/
section OJ
variable {ε : EE} {J J1 J2 : JT} {pc : Nat} {ls : List (Option V0)} {st : List V0} {As : List V0} {G G' G1 : GG} {i N : Nat} {V V' : VV} {s : Int32} {r r' r1 r2 t x x2 o : Nat → Int32} {K K' : Nat} {Q : Option Int32 → GG → Prop}
/-- the office when walk w, which has carrier p, gets carrier c -/
def asP (V : VV) (p : Option Nat) : VV := match p with
  | none => V
  | some a => wv V 13 a (-9)
def asV (V : VV) (w : Nat) (p c : Option Nat) : VV := match c with
  | none => asP V p
  | some a => wv (asP V p) 13 a (nI w)
theorem asV_o {w : Nat} {p c : Option Nat} {kk : Nat} (h : kk ≠ 13) : asV V w p c kk = V kk := by
  have e : asP V p kk = V kk := by
    cases p with
    | none => rfl
    | some a => show wv V 13 a (-9) kk = _; unfold wv sv; rw [if_neg h]
  cases c with
  | none => exact e
  | some b => show wv (asP V p) 13 b (nI w) kk = _; unfold wv sv; rw [if_neg h]; exact e
theorem asP_13 {p : Option Nat} {a : Nat} : asP V p 13 a = if p = some a then -9 else V 13 a := by
  cases p with
  | none => rfl
  | some b =>
    show upd (V 13) b (-9) a = _
    unfold upd
    by_cases h : a = b
    · subst h
      rw [if_pos rfl, if_pos rfl]
    · rw [if_neg h, if_neg (fun z => h (Option.some.inj z).symm)]
theorem asV_13 {w : Nat} {p c : Option Nat} {a : Nat} : asV V w p c 13 a = if c = some a then nI w else if p = some a then -9 else V 13 a := by
  cases c with
  | none => exact asP_13
  | some b =>
    show upd (asP V p 13) b (nI w) a = _
    unfold upd
    by_cases h : a = b
    · subst h
      rw [if_pos rfl, if_pos rfl]
    · rw [if_neg h, if_neg (fun z => h (Option.some.inj z).symm)]
      exact asP_13
theorem oI_some {c : Option Nat} {a : Nat} (ha : a < 1000) (hc : ∀ b, c = some b → b < 6) : oI c = nI a ↔ c = some a := by
  cases c with
  | none => exact ⟨fun z => absurd (show (-9 : Int32) = nI a from z).symm (nI_n9 (by omega)), fun z => by cases z⟩
  | some b =>
    have := hc b rfl
    exact ⟨fun z => by rw [(nI_eq (by omega) (by omega)).1 (show nI b = nI a from z)], fun z => by cases z; rfl⟩
theorem RO.assign {w : Nat} {p c : Option Nat} (h : RO V r N) (hw : w < 8) (hp : r (955 + w) = oI p) (hp6 : ∀ a, p = some a → a < 6 ∧ r (1011 + a) = nI 0) (hc : ∀ a, c = some a → a < 6 ∧ (V 13 a = -9 ∨ V 13 a = nI w)) : RO (asV V w p c) (upd r (955 + w) (oI c)) N := by
  obtain ⟨k1, k2, k3, k4, k5⟩ := h.1.2.2.2.2.2.2.2
  have hr : ∀ j, j ≠ 955 + w → upd r (955 + w) (oI c) j = r j := fun j hj => by unfold upd; rw [if_neg hj]
  have hrw : upd r (955 + w) (oI c) (955 + w) = oI c := by unfold upd; rw [if_pos rfl]
  have hc6 : ∀ b, c = some b → b < 6 := fun b hb => (hc b hb).1
  have hpw : ∀ a, p = some a → V 13 a = nI w := fun a ha => by
    obtain ⟨a6, -⟩ := hp6 a ha
    exact (k3 a w a6 hw).2 (by rw [hp, ha]; rfl)
  refine h.congrK (fun kk hk => asV_o (by omega)) (fun j hj => hr j (by omega)) ⟨fun a ha => ?_, fun w' hw' => ?_, fun a w' ha hw' => ?_, fun k hk => ?_, ?_⟩
  · obtain ⟨a1, a2, a3, a4, a5⟩ := k1 a ha
    rw [asV_o (by decide), asV_o (by decide), hr (1011 + a) (by omega), hr (1017 + a) (by omega), asV_13]
    refine ⟨a1, a2, a3, ?_, fun z => ?_⟩
    · by_cases hca : c = some a
      · rw [if_pos hca]
        exact Or.inr ⟨w, hw, rfl⟩
      · rw [if_neg hca]
        by_cases hpa : p = some a
        · rw [if_pos hpa]
          exact Or.inl rfl
        · rw [if_neg hpa]
          exact a4
    · by_cases hca : c = some a
      · rw [if_pos hca]
        exact nI_n9 (by omega)
      · rw [if_neg hca]
        by_cases hpa : p = some a
        · rw [(hp6 a hpa).2] at z
          exact absurd z n01
        · rw [if_neg hpa]
          exact a5 z
  · by_cases hww : w' = w
    · subst hww
      rw [hrw]
      cases c with
      | none => exact Or.inl rfl
      | some b => exact Or.inr ⟨b, hc6 b rfl, rfl⟩
    · rw [hr _ (by omega)]
      exact k2 w' hw'
  · rw [asV_13]
    by_cases hca : c = some a
    · rw [if_pos hca]
      by_cases hww : w' = w
      · subst hww
        rw [hrw]
        exact ⟨fun _ => (oI_some (by omega) hc6).2 hca, fun _ => rfl⟩
      · rw [hr _ (by omega), ← k3 a w' ha hw']
        refine ⟨fun z => absurd ((nI_eq (by omega) (by omega)).1 z).symm hww, fun z => ?_⟩
        rcases (hc a hca).2 with q | q
        · exact absurd (z.symm.trans q) (nI_n9 (by omega))
        · exact q.symm.trans z
    · rw [if_neg hca]
      by_cases hpa : p = some a
      · rw [if_pos hpa]
        refine ⟨fun z => absurd z.symm (nI_n9 (by omega)), fun z => ?_⟩
        by_cases hww : w' = w
        · subst hww
          rw [hrw, oI_some (by omega) hc6] at z
          exact absurd z hca
        · rw [hr _ (by omega), ← k3 a w' ha hw', hpw a hpa, nI_eq (by omega) (by omega)] at z
          exact absurd z.symm hww
      · rw [if_neg hpa]
        by_cases hww : w' = w
        · subst hww
          rw [hrw, oI_some (by omega) hc6]
          refine ⟨fun z => ?_, fun z => absurd z hca⟩
          have := (k3 a w' ha hw').1 z
          rw [hp, oI_some (by omega) (fun b hb => (hp6 b hb).1)] at this
          exact absurd this hpa
        · rw [hr _ (by omega)]
          exact k3 a w' ha hw'
  · rw [asV_o (by decide), hr _ (by omega)]
    exact k4 k hk
  · rw [hr 954 (by omega), asV_o (by decide)]
    exact k5
def cI : Option Nat → Int32
  | none => -1
  | some b => nI b
theorem isIn_m1 {c : Int32} : isInB c (-1) (nI 5) = true ↔ c = -1 ∨ isInB c (nI 0) (nI 5) = true := by
  have e0 : (nI 0).toInt = 0 := by decide
  have e5 : (nI 5).toInt = 5 := by decide
  have e1 : (-1 : Int32).toInt = -1 := by decide
  simp only [isInB, Bool.and_eq_true, decide_eq_true_eq, Int32.le_iff_toInt_le, e0, e5, e1]
  constructor
  · intro h
    by_cases hz : c.toInt = -1
    · exact Or.inl (Int32.toInt_inj.1 (by rw [hz, e1]))
    · exact Or.inr ⟨by omega, h.2⟩
  · rintro (h | h)
    · rw [h, e1]
      omega
    · omega
set_option maxHeartbeats 1000000 in
theorem op_assign1 (h : RR G r t x K) {w : Nat} (hw8 : w ≤ 7) (c : Option Nat) (hc6 : ∀ b, c = some b → b < 6) : OpOk ε jX8_assign jX9_assign [.inl (nI w), .inl (cI c)] G r t x K := by
  have hw := isIn_nI' hw8 (by decide)
  obtain ⟨N, hO⟩ := h.ro
  obtain ⟨d, hd5, hd⟩ := h.d
  have hi : (0 : Nat) < 19 := by decide
  obtain ⟨k1, k2, k3, k4, k5⟩ := hO.1.2.2.2.2.2.2.2
  obtain ⟨p, hp, hp6⟩ : ∃ p : Option Nat, r (955 + w) = oI p ∧ ∀ a, p = some a → a < 6 := by
    rcases k2 w (by omega) with z | ⟨a, a1, a2⟩
    · exact ⟨none, z, fun a ha => by cases ha⟩
    · exact ⟨some a, a2, fun b hb => by cases hb; exact a1⟩
  have hofw := hO.1.ofw (w := w) (by omega)
  rw [hp] at hofw
  have hcl : ∀ Q, E2 ε jX8_assign 36 [some (.inr (0, 30)), some (.inl (nI w)), some (.inl (cI c)), some (.inr (0, 12)), some (.inl (oI p))] [] G Q → E2 ε jX8_assign 0 [some (.inr (0, 30)), some (.inl (nI w)), some (.inl (cI c)), none, none] [] G Q := by
    intro Q k
    have hcin : isInB (cI c) (-1) (nI 5) = true := by
      rw [isIn_m1]
      cases c with
      | none => exact Or.inl rfl
      | some b => exact Or.inr (isIn_nI' (by have := hc6 b rfl; omega) (by decide))
    repeat (first | refine e2_step rfl rfl ?_ | refine e2_get rfl (by first | exact hi | decide) rfl rfl ?_)
    refine e2_fs (c_isWalk (nI w)) rfl rfl ⟨rfl, rfl, rfl⟩ rfl rfl rfl ?_
    rw [hw]
    refine e2_if rfl rfl (fun z => absurd z (by decide)) (fun _ => ?_)
    repeat (first | refine e2_step rfl rfl ?_ | refine e2_get rfl (by first | exact hi | decide) rfl rfl ?_)
    refine e2_fs (c_isIn (cI c) (-1) (nI 5)) rfl rfl ⟨rfl, rfl, rfl⟩ rfl rfl rfl ?_
    rw [hcin]
    refine e2_if rfl rfl (fun _ => ?_) (fun z => absurd (by decide) z)
    repeat (first | refine e2_step rfl rfl ?_ | refine e2_get rfl (by first | exact hi | decide) rfl rfl ?_)
    refine e2_fi (fc_same (i := 0) (k_ofWalk hi (nI w))) rfl rfl ⟨rfl, rfl, rfl⟩ rfl rfl rfl (by first | exact hi | decide) rfl rfl rfl ?_
    rw [hofw]
    repeat (first | refine e2_stepS 36 rfl rfl rfl ?_)
    exact k
  have hml : ∀ (G1 : GG) (o : Nat → Int32) Q, E2 ε jX9_assign 32 [some (.inr (0, 50)), some (.inl (nI w)), some (.inl (cI c)), some (.inl (oI p)), none] [] (mG G1 r t o x) Q → E2 ε jX9_assign 0 [some (.inr (0, 50)), some (.inl (nI w)), some (.inl (cI c)), none, none] [] (mG G1 r t o x) Q := by
    intro G1 o Q k
    have h21 : E2 ε jX9_assign 21 [some (.inr (0, 50)), some (.inl (nI w)), some (.inl (cI c)), none, none] [] (mG G1 r t o x) Q := by
      repeat (first | refine e2_step rfl rfl ?_ | refine e2m_get rfl rfl ?_ | refine e2m_ld _ rfl rfl (by omega) ?_)
      rw [nI_add']
      repeat (first | refine e2_stepS 32 rfl rfl rfl ?_ | refine e2m_getS 32 rfl rfl rfl ?_ | refine e2m_ldS 32 rfl _ rfl rfl (by omega) ?_)
      rw [hp]
      exact k
    repeat (first | refine e2_step rfl rfl ?_ | refine e2m_get rfl rfl ?_ | refine e2m_ld _ rfl rfl (by omega) ?_)
    refine e2_fs (m_isWalk (nI w)) rfl rfl ⟨rfl, rfl, rfl⟩ rfl rfl rfl ?_
    rw [hw]
    refine e2_if rfl rfl (fun z => absurd z (by decide)) (fun _ => ?_)
    repeat (first | refine e2_step rfl rfl ?_ | refine e2m_get rfl rfl ?_ | refine e2m_ld _ rfl rfl (by omega) ?_)
    cases c with
    | none =>
      refine e2_if rfl rfl (fun _ => h21) (fun z => absurd (show cI none = -1 from rfl) z)
    | some b =>
      have hb := hc6 b rfl
      refine e2_if rfl rfl (fun _ => h21) (fun _ => ?_)
      repeat (first | refine e2_step rfl rfl ?_ | refine e2m_get rfl rfl ?_ | refine e2m_ld _ rfl rfl (by omega) ?_)
      refine e2_fs (m_isCarrier (cI (some b))) rfl rfl ⟨rfl, rfl, rfl⟩ rfl rfl rfl ?_
      rw [show isInB (cI (some b)) (nI 0) (nI 5) = true from isIn_nI' (by omega) (by decide)]
      refine e2_if rfl rfl (fun _ => ?_) (fun z => absurd (by decide) z)
      exact h21
  have hne1 : ∀ b, b < 6 → ¬ nI b = -1 := fun b hb z => by
    have := congrArg Int32.toInt z
    rw [nI_toInt (by omega)] at this
    have e1 : (-1 : Int32).toInt = -1 := by decide
    omega
  have hwb : ∀ b, c = some b → G 0 13 b = walkByr r (nI b) := fun b hb => hO.1.wby (hc6 b hb)
  by_cases hel : ∃ b, c = some b ∧ ¬ G 0 13 b = -9 ∧ ¬ G 0 13 b = nI w
  · obtain ⟨b, rfl, e1, e2⟩ := hel
    have hb := hc6 b rfl
    have hwb2 := hwb b rfl
    refine OpOk.same (a := -2) h ?_ (fun G1 o => ⟨o, ?_⟩)
    · refine C2.of (ls := [some (.inr (0, 30)), some (.inl (nI w)), some (.inl (cI (some b))), none, none]) okX8_assign rfl rfl ?_
      refine hcl _ ?_
      repeat (first | refine e2_step rfl rfl ?_ | refine e2_get rfl (by first | exact hi | decide) rfl rfl ?_)
      refine e2_if rfl rfl (fun z => absurd (show nI b < 0 from z) (nI_pos (by omega))) (fun _ => ?_)
      repeat (first | refine e2_step rfl rfl ?_ | refine e2_get rfl (by first | exact hi | decide) rfl rfl ?_)
      refine e2_iald (i := 0) (kk := 13) b rfl rfl (by decide) rfl hb ?_
      repeat (first | refine e2_step rfl rfl ?_ | refine e2_get rfl (by first | exact hi | decide) rfl rfl ?_)
      refine e2_if rfl rfl (fun z => absurd z e1) (fun _ => ?_)
      repeat (first | refine e2_step rfl rfl ?_ | refine e2_get rfl (by first | exact hi | decide) rfl rfl ?_)
      refine e2_iald (i := 0) (kk := 13) b rfl rfl (by decide) rfl hb ?_
      repeat (first | refine e2_step rfl rfl ?_ | refine e2_get rfl (by first | exact hi | decide) rfl rfl ?_)
      refine e2_if rfl rfl (fun z => absurd z e2) (fun _ => ?_)
      repeat (first | refine e2_step rfl rfl ?_ | refine e2_get rfl (by first | exact hi | decide) rfl rfl ?_)
      exact e2_iret rfl rfl ⟨rfl, rfl⟩
    · refine C2.of (ls := [some (.inr (0, 50)), some (.inl (nI w)), some (.inl (cI (some b))), none, none]) okX9_assign rfl rfl ?_
      refine hml _ _ _ ?_
      repeat (first | refine e2_step rfl rfl ?_ | refine e2m_get rfl rfl ?_ | refine e2m_ld _ rfl rfl (by omega) ?_)
      refine e2_if rfl rfl (fun z => absurd (show nI b = -1 from z) (hne1 b hb)) (fun _ => ?_)
      repeat (first | refine e2_step rfl rfl ?_ | refine e2m_get rfl rfl ?_ | refine e2m_ld _ rfl rfl (by omega) ?_)
      refine e2_fi (m_walkBy (nI b)) rfl rfl ⟨rfl, rfl, rfl⟩ rfl rfl rfl (by first | exact hi | decide) rfl rfl rfl ?_
      rw [← hwb2]
      repeat (first | refine e2_step rfl rfl ?_ | refine e2m_get rfl rfl ?_ | refine e2m_ld _ rfl rfl (by omega) ?_)
      refine e2_if rfl rfl (fun z => absurd z e1) (fun _ => ?_)
      repeat (first | refine e2_step rfl rfl ?_ | refine e2m_get rfl rfl ?_ | refine e2m_ld _ rfl rfl (by omega) ?_)
      refine e2_fi (m_walkBy (nI b)) rfl rfl ⟨rfl, rfl, rfl⟩ rfl rfl rfl (by first | exact hi | decide) rfl rfl rfl ?_
      rw [← hwb2]
      repeat (first | refine e2_step rfl rfl ?_ | refine e2m_get rfl rfl ?_ | refine e2m_ld _ rfl rfl (by omega) ?_)
      refine e2_if rfl rfl (fun z => absurd z e2) (fun _ => ?_)
      repeat (first | refine e2_step rfl rfl ?_ | refine e2m_get rfl rfl ?_ | refine e2m_ld _ rfl rfl (by omega) ?_)
      refine e2_if rfl rfl (fun _ => ?_) (fun z => absurd (by decide) z)
      repeat (first | refine e2_step rfl rfl ?_ | refine e2m_get rfl rfl ?_ | refine e2m_ld _ rfl rfl (by omega) ?_)
      exact e2_iret rfl rfl ⟨rfl, rfl⟩
  · have h64 : ∀ Q, E2 ε jX8_assign 64 [some (.inr (0, 30)), some (.inl (nI w)), some (.inl (cI c)), some (.inr (0, 12)), some (.inl (oI p))] [] G Q → E2 ε jX8_assign 36 [some (.inr (0, 30)), some (.inl (nI w)), some (.inl (cI c)), some (.inr (0, 12)), some (.inl (oI p))] [] G Q := by
      intro Q k
      repeat (first | refine e2_step rfl rfl ?_ | refine e2_get rfl (by first | exact hi | decide) rfl rfl ?_)
      cases c with
      | none => exact e2_if rfl rfl (fun _ => k) (fun z => absurd (show (-1 : Int32) < 0 by decide) z)
      | some b =>
        have hb := hc6 b rfl
        refine e2_if rfl rfl (fun z => absurd (show nI b < 0 from z) (nI_pos (by omega))) (fun _ => ?_)
        repeat (first | refine e2_step rfl rfl ?_ | refine e2_get rfl (by first | exact hi | decide) rfl rfl ?_)
        refine e2_iald (i := 0) (kk := 13) b rfl rfl (by decide) rfl hb ?_
        repeat (first | refine e2_step rfl rfl ?_ | refine e2_get rfl (by first | exact hi | decide) rfl rfl ?_)
        refine e2_if rfl rfl (fun _ => k) (fun e1 => ?_)
        repeat (first | refine e2_step rfl rfl ?_ | refine e2_get rfl (by first | exact hi | decide) rfl rfl ?_)
        refine e2_iald (i := 0) (kk := 13) b rfl rfl (by decide) rfl hb ?_
        repeat (first | refine e2_step rfl rfl ?_ | refine e2_get rfl (by first | exact hi | decide) rfl rfl ?_)
        exact e2_if rfl rfl (fun _ => k) (fun e2 => absurd ⟨b, rfl, e1, e2⟩ hel)
    have r63 : ∀ (G1 : GG) (o : Nat → Int32) Q, E2 ε jX9_assign 63 [some (.inr (0, 50)), some (.inl (nI w)), some (.inl (cI c)), some (.inl (oI p)), some (.inl (nI 0))] [] (mG G1 r t o x) Q → E2 ε jX9_assign 32 [some (.inr (0, 50)), some (.inl (nI w)), some (.inl (cI c)), some (.inl (oI p)), none] [] (mG G1 r t o x) Q := by
      intro G1 o Q k
      have k60 : E2 ε jX9_assign 60 [some (.inr (0, 50)), some (.inl (nI w)), some (.inl (cI c)), some (.inl (oI p)), none] [] (mG G1 r t o x) Q := by
        repeat (first | refine e2_stepS 63 rfl rfl rfl ?_ | refine e2m_getS 63 rfl rfl rfl ?_ | refine e2m_ldS 63 rfl _ rfl rfl (by omega) ?_)
        exact k
      repeat (first | refine e2_step rfl rfl ?_ | refine e2m_get rfl rfl ?_ | refine e2m_ld _ rfl rfl (by omega) ?_)
      cases c with
      | none => exact e2_if rfl rfl (fun _ => k60) (fun z => absurd (show cI none = -1 from rfl) z)
      | some b =>
        have hb := hc6 b rfl
        have hwb2 := hwb b rfl
        refine e2_if rfl rfl (fun z => absurd (show nI b = -1 from z) (hne1 b hb)) (fun _ => ?_)
        repeat (first | refine e2_step rfl rfl ?_ | refine e2m_get rfl rfl ?_ | refine e2m_ld _ rfl rfl (by omega) ?_)
        refine e2_fi (m_walkBy (nI b)) rfl rfl ⟨rfl, rfl, rfl⟩ rfl rfl rfl (by first | exact hi | decide) rfl rfl rfl ?_
        rw [← hwb2]
        repeat (first | refine e2_step rfl rfl ?_ | refine e2m_get rfl rfl ?_ | refine e2m_ld _ rfl rfl (by omega) ?_)
        refine e2_if rfl rfl (fun _ => k60) (fun e1 => ?_)
        repeat (first | refine e2_step rfl rfl ?_ | refine e2m_get rfl rfl ?_ | refine e2m_ld _ rfl rfl (by omega) ?_)
        refine e2_fi (m_walkBy (nI b)) rfl rfl ⟨rfl, rfl, rfl⟩ rfl rfl rfl (by first | exact hi | decide) rfl rfl rfl ?_
        rw [← hwb2]
        repeat (first | refine e2_step rfl rfl ?_ | refine e2m_get rfl rfl ?_ | refine e2m_ld _ rfl rfl (by omega) ?_)
        exact e2_if rfl rfl (fun _ => k60) (fun e2 => absurd ⟨b, rfl, e1, e2⟩ hel)
    by_cases hpo : ∃ a, p = some a ∧ r (1011 + a) = nI 1
    · obtain ⟨a, rfl, e1⟩ := hpo
      have ha := hp6 a rfl
      have e14 := (k1 a ha).1
      refine OpOk.same (a := -2) h ?_ (fun G1 o => ⟨o, ?_⟩)
      · refine C2.of (ls := [some (.inr (0, 30)), some (.inl (nI w)), some (.inl (cI c)), none, none]) okX8_assign rfl rfl ?_
        refine hcl _ (h64 _ ?_)
        repeat (first | refine e2_step rfl rfl ?_ | refine e2_get rfl (by first | exact hi | decide) rfl rfl ?_)
        refine e2_if rfl rfl (fun z => absurd (show nI a < 0 from z) (nI_pos (by omega))) (fun _ => ?_)
        repeat (first | refine e2_step rfl rfl ?_ | refine e2_get rfl (by first | exact hi | decide) rfl rfl ?_)
        refine e2_zald (i := 0) (kk := 14) a rfl rfl (by decide) rfl ha ?_
        rw [e14, e1]
        refine e2_if rfl rfl (fun z => absurd z (by decide)) (fun _ => ?_)
        repeat (first | refine e2_step rfl rfl ?_ | refine e2_get rfl (by first | exact hi | decide) rfl rfl ?_)
        exact e2_iret rfl rfl ⟨rfl, rfl⟩
      · refine C2.of (ls := [some (.inr (0, 50)), some (.inl (nI w)), some (.inl (cI c)), none, none]) okX9_assign rfl rfl ?_
        refine hml _ _ _ (r63 _ _ _ ?_)
        repeat (first | refine e2_step rfl rfl ?_ | refine e2m_get rfl rfl ?_ | refine e2m_ld _ rfl rfl (by omega) ?_)
        refine e2_if rfl rfl (fun z => absurd rfl z) (fun _ => ?_)
        repeat (first | refine e2_step rfl rfl ?_ | refine e2m_get rfl rfl ?_ | refine e2m_ld _ rfl rfl (by omega) ?_)
        refine e2_if rfl rfl (fun z => absurd (show nI a = -9 from z) (nI_n9 (by omega))) (fun _ => ?_)
        repeat (first | refine e2_step rfl rfl ?_ | refine e2m_get rfl rfl ?_ | refine e2m_ld _ rfl rfl (by omega) ?_)
        refine e2m_ld (1011 + a) rfl (nI_add' 1011 a) (by omega) ?_
        rw [e1]
        repeat (first | refine e2_step rfl rfl ?_ | refine e2m_get rfl rfl ?_ | refine e2m_ld _ rfl rfl (by omega) ?_)
        refine e2_if rfl rfl (fun z => absurd rfl z) (fun _ => ?_)
        repeat (first | refine e2_step rfl rfl ?_ | refine e2m_get rfl rfl ?_ | refine e2m_ld _ rfl rfl (by omega) ?_)
        exact e2_iret rfl rfl ⟨rfl, rfl⟩
    · have hp0 : ∀ a, p = some a → a < 6 ∧ r (1011 + a) = nI 0 := fun a ha => by
        have a6 := hp6 a ha
        rcases (k1 a a6).2.1 with q | q
        · exact ⟨a6, q⟩
        · exact absurd ⟨a, ha, q⟩ hpo
      have hc9 : ∀ a, c = some a → a < 6 ∧ (G 0 13 a = -9 ∨ G 0 13 a = nI w) := fun a ha => by
        refine ⟨hc6 a ha, ?_⟩
        by_cases q : G 0 13 a = -9
        · exact Or.inl q
        · by_cases q2 : G 0 13 a = nI w
          · exact Or.inr q2
          · exact absurd ⟨a, ha, q, q2⟩ hel
      refine ⟨oI p, upd (recR r x) (955 + w) (oI c), t, recX x, ?_, fun G1 o => ?_⟩
      · refine C2.of (ls := [some (.inr (0, 30)), some (.inl (nI w)), some (.inl (cI c)), none, none]) okX8_assign rfl rfl ?_
        refine hcl _ (h64 _ ?_)
        have h82 : E2 ε jX8_assign 82 [some (.inr (0, 30)), some (.inl (nI w)), some (.inl (cI c)), some (.inr (0, 12)), some (.inl (oI p))] [] G (fun v G1 => v = some (oI p) ∧ RR G1 (upd (recR r x) (955 + w) (oI c)) t (recX x) (K + 1) ∧ kp G G1) := by
          repeat (first | refine e2_step rfl rfl ?_ | refine e2_get rfl (by first | exact hi | decide) rfl rfl ?_)
          refine e2_callVv rfl ⟨rfl, rfl, rfl⟩ rfl rfl rfl rfl (by decide) rfl rfl rfl (q_rem h) (fun G1 z => ?_)
          obtain ⟨-, hQ⟩ := z
          obtain ⟨N', hO1⟩ := hQ.1.ro
          have e13 : G1 0 13 = G 0 13 := hQ.2 0 13 (by omega) (by omega) (by omega) (by omega)
          have hO2 := hO1.assign (w := w) (p := p) (c := c) (by omega) (by rw [recR_lo (by omega)]; exact hp) (fun a ha => by rw [recR_lo (by have := hp6 a ha; omega)]; exact hp0 a ha) (fun a ha => by rw [e13]; exact hc9 a ha)
          have hS := hQ.1.1.1
          have hn : ∀ j, j ≠ 955 + w → upd (recR r x) (955 + w) (oI c) j = recR r x j := fun j hj => by unfold upd; rw [if_neg hj]
          have hfin := hQ.1.fin (K' := K + 1) (s := G1 0 40 1) (o := G1 0 41) (V := asV (G1 0) w p c) (r2 := upd (recR r x) (955 + w) (oI c)) (x2 := recX x) (by omega) (fun j hj _ => hn j (by omega)) rfl rfl ⟨⟨N', hO2⟩, by rw [hn 952 (by omega)]; exact hS.2.1, fun k hk => by rw [hn (963 + k) (by omega)]; obtain ⟨c, c1, c2⟩ := hS.2.2 k hk; exact ⟨c, by omega, c2⟩⟩
          have h107 : E2 ε jX8_assign 107 [some (.inr (0, 30)), some (.inl (nI w)), some (.inl (cI c)), some (.inr (0, 12)), some (.inl (oI p))] [] (cG G1 0 (asP (G1 0) p) (G1 0 40 1) (G1 0 41)) (fun v G1 => v = some (oI p) ∧ RR G1 (upd (recR r x) (955 + w) (oI c)) t (recX x) (K + 1) ∧ kp G G1) := by
            repeat (first | refine e2_step rfl rfl ?_ | refine e2_get rfl (by first | exact hi | decide) rfl rfl ?_)
            cases c with
            | none =>
              refine e2_if rfl rfl (fun _ => ?_) (fun z => absurd (show (-1 : Int32) < 0 by decide) z)
              repeat (first | refine e2_step rfl rfl ?_ | refine e2_get rfl (by first | exact hi | decide) rfl rfl ?_)
              exact e2_iret rfl rfl ⟨rfl, hfin.1, hQ.kp.tr hfin.2⟩
            | some b =>
              have hb := hc6 b rfl
              refine e2_if rfl rfl (fun z => absurd (show nI b < 0 from z) (nI_pos (by omega))) (fun _ => ?_)
              repeat (first | refine e2_step rfl rfl ?_ | refine e2c_get hi rfl rfl rfl rfl ?_ | refine e2c_lget rfl rfl ?_ | refine e2c_iald _ hi rfl rfl rfl rfl (by omega) ?_ | refine e2c_lald _ rfl rfl (by omega) ?_)
              refine e2c_iast b hi rfl rfl rfl rfl hb ?_
              repeat (first | refine e2_step rfl rfl ?_ | refine e2_get rfl (by first | exact hi | decide) rfl rfl ?_)
              exact e2_iret rfl rfl ⟨rfl, hfin.1, hQ.kp.tr hfin.2⟩
          refine e2_cGin 0 ?_
          repeat (first | refine e2_step rfl rfl ?_ | refine e2_get rfl (by first | exact hi | decide) rfl rfl ?_)
          cases p with
          | none =>
            refine e2_if rfl rfl (fun _ => ?_) (fun z => absurd (show (-9 : Int32) < 0 by decide) z)
            exact h107
          | some a =>
            have ha := hp6 a rfl
            refine e2_if rfl rfl (fun z => absurd (show nI a < 0 from z) (nI_pos (by omega))) (fun _ => ?_)
            repeat (first | refine e2_step rfl rfl ?_ | refine e2c_get hi rfl rfl rfl rfl ?_ | refine e2c_lget rfl rfl ?_ | refine e2c_iald _ hi rfl rfl rfl rfl (by omega) ?_ | refine e2c_lald _ rfl rfl (by omega) ?_)
            refine e2c_iast a hi rfl rfl rfl rfl ha ?_
            exact h107
        repeat (first | refine e2_step rfl rfl ?_ | refine e2_get rfl (by first | exact hi | decide) rfl rfl ?_)
        cases p with
        | none => exact e2_if rfl rfl (fun _ => h82) (fun z => absurd (show (-9 : Int32) < 0 by decide) z)
        | some a =>
          have ha := hp6 a rfl
          refine e2_if rfl rfl (fun z => absurd (show nI a < 0 from z) (nI_pos (by omega))) (fun _ => ?_)
          repeat (first | refine e2_step rfl rfl ?_ | refine e2_get rfl (by first | exact hi | decide) rfl rfl ?_)
          refine e2_zald (i := 0) (kk := 14) a rfl rfl (by decide) rfl ha ?_
          rw [(k1 a ha).1, (hp0 a rfl).2]
          exact e2_if rfl rfl (fun _ => h82) (fun z => absurd rfl z)
      · refine C2.of (ls := [some (.inr (0, 50)), some (.inl (nI w)), some (.inl (cI c)), none, none]) okX9_assign rfl rfl ?_
        refine hml _ _ _ (r63 _ _ _ ?_)
        have h91 : E2 ε jX9_assign 91 [some (.inr (0, 50)), some (.inl (nI w)), some (.inl (cI c)), some (.inl (oI p)), some (.inl (nI 0))] [] (mG G1 r t o x) (fun v G2 => v = some (oI p) ∧ ∃ r2 o2 x2, G2 = mG G1 r2 t o2 x2 ∧ (∀ j, j < 18426 → r2 j = upd (recR r x) (955 + w) (oI c) j) ∧ x2 1 = recX x 1 ∧ x2 3 = recX x 3) := by
          repeat (first | refine e2_step rfl rfl ?_ | refine e2m_get rfl rfl ?_ | refine e2m_ld _ rfl rfl (by omega) ?_)
          refine e2_fv (m_recordsX hd hd5) rfl rfl ⟨rfl, rfl, rfl⟩ rfl rfl rfl (by first | exact hi | decide) rfl rfl rfl ?_
          repeat (first | refine e2_step rfl rfl ?_ | refine e2m_get rfl rfl ?_ | refine e2m_ld _ rfl rfl (by omega) ?_)
          rw [nI_add']
          cases c with
          | none =>
            refine e2_if rfl rfl (fun z => absurd (show cI none = -1 from rfl) z) (fun _ => ?_)
            repeat (first | refine e2_step rfl rfl ?_ | refine e2m_get rfl rfl ?_ | refine e2m_ld _ rfl rfl (by omega) ?_)
            refine e2m_st (955 + w) rfl rfl (by omega) ?_
            repeat (first | refine e2_step rfl rfl ?_ | refine e2m_get rfl rfl ?_ | refine e2m_ld _ rfl rfl (by omega) ?_)
            exact e2_iret rfl rfl ⟨rfl, _, _, _, rfl, fun _ _ => rfl, rfl, rfl⟩
          | some b =>
            have hb := hc6 b rfl
            refine e2_if rfl rfl (fun _ => ?_) (fun z => absurd (hne1 b hb) z)
            repeat (first | refine e2_step rfl rfl ?_ | refine e2m_get rfl rfl ?_ | refine e2m_ld _ rfl rfl (by omega) ?_)
            refine e2m_st (955 + w) rfl rfl (by omega) ?_
            repeat (first | refine e2_step rfl rfl ?_ | refine e2m_get rfl rfl ?_ | refine e2m_ld _ rfl rfl (by omega) ?_)
            exact e2_iret rfl rfl ⟨rfl, _, _, _, rfl, fun _ _ => rfl, rfl, rfl⟩
        repeat (first | refine e2_step rfl rfl ?_ | refine e2m_get rfl rfl ?_ | refine e2m_ld _ rfl rfl (by omega) ?_)
        refine e2_if rfl rfl (fun z => absurd rfl z) (fun _ => ?_)
        repeat (first | refine e2_step rfl rfl ?_ | refine e2m_get rfl rfl ?_ | refine e2m_ld _ rfl rfl (by omega) ?_)
        cases p with
        | none => exact e2_if rfl rfl (fun _ => h91) (fun z => absurd (show oI none = -9 from rfl) z)
        | some a =>
          have ha := hp6 a rfl
          refine e2_if rfl rfl (fun z => absurd (show nI a = -9 from z) (nI_n9 (by omega))) (fun _ => ?_)
          repeat (first | refine e2_step rfl rfl ?_ | refine e2m_get rfl rfl ?_ | refine e2m_ld _ rfl rfl (by omega) ?_)
          refine e2m_ld (1011 + a) rfl (nI_add' 1011 a) (by omega) ?_
          rw [(hp0 a rfl).2]
          repeat (first | refine e2_step rfl rfl ?_ | refine e2m_get rfl rfl ?_ | refine e2m_ld _ rfl rfl (by omega) ?_)
          exact e2_if rfl rfl (fun _ => h91) (fun z => absurd n01 z)
theorem op_assign (h : RR G r t x K) (w c : Int32) : OpOk ε jX8_assign jX9_assign [.inl w, .inl c] G r t x K := by
  by_cases hw : isInB w (nI 0) (nI 7) = true
  · obtain ⟨u, hu, rfl⟩ := isIn_nI (by decide) hw
    by_cases hc : isInB c (-1) (nI 5) = true
    · rcases isIn_m1.1 hc with rfl | hc2
      · exact op_assign1 h hu none (fun b hb => by cases hb)
      · obtain ⟨b, hb, rfl⟩ := isIn_nI (by decide) hc2
        exact op_assign1 h hu (some b) (fun a ha => by cases ha; omega)
    · have hcn : ¬ c = -1 := fun z => hc (isIn_m1.2 (Or.inl z))
      have hcb : isInB c (nI 0) (nI 5) = false := eq_false_of_ne_true (fun z => hc (isIn_m1.2 (Or.inr z)))
      have hc2 := eq_false_of_ne_true hc
      refine OpOk.same (a := -1) h ?_ (fun G1 o => ⟨o, ?_⟩)
      · refine C2.of (ls := [some (.inr (0, 30)), some (.inl (nI u)), some (.inl c), none, none]) okX8_assign rfl rfl ?_
        repeat (first | refine e2_step rfl rfl ?_ | refine e2_get rfl (by first | exact hi | decide) rfl rfl ?_)
        refine e2_fs (c_isWalk (nI u)) rfl rfl ⟨rfl, rfl, rfl⟩ rfl rfl rfl ?_
        rw [hw]
        refine e2_if rfl rfl (fun z => absurd z (by decide)) (fun _ => ?_)
        repeat (first | refine e2_step rfl rfl ?_ | refine e2_get rfl (by first | exact hi | decide) rfl rfl ?_)
        refine e2_fs (c_isIn c (-1) (nI 5)) rfl rfl ⟨rfl, rfl, rfl⟩ rfl rfl rfl ?_
        rw [hc2]
        refine e2_if rfl rfl (fun z => absurd rfl z) (fun _ => ?_)
        repeat (first | refine e2_step rfl rfl ?_ | refine e2_get rfl (by first | exact hi | decide) rfl rfl ?_)
        exact e2_iret rfl rfl ⟨rfl, rfl⟩
      · refine C2.of (ls := [some (.inr (0, 50)), some (.inl (nI u)), some (.inl c), none, none]) okX9_assign rfl rfl ?_
        repeat (first | refine e2_step rfl rfl ?_ | refine e2m_get rfl rfl ?_ | refine e2m_ld _ rfl rfl (by omega) ?_)
        refine e2_fs (m_isWalk (nI u)) rfl rfl ⟨rfl, rfl, rfl⟩ rfl rfl rfl ?_
        rw [hw]
        refine e2_if rfl rfl (fun z => absurd z (by decide)) (fun _ => ?_)
        repeat (first | refine e2_step rfl rfl ?_ | refine e2m_get rfl rfl ?_ | refine e2m_ld _ rfl rfl (by omega) ?_)
        refine e2_if rfl rfl (fun z => absurd z hcn) (fun _ => ?_)
        repeat (first | refine e2_step rfl rfl ?_ | refine e2m_get rfl rfl ?_ | refine e2m_ld _ rfl rfl (by omega) ?_)
        refine e2_fs (m_isCarrier c) rfl rfl ⟨rfl, rfl, rfl⟩ rfl rfl rfl ?_
        rw [hcb]
        refine e2_if rfl rfl (fun z => absurd rfl z) (fun _ => ?_)
        repeat (first | refine e2_step rfl rfl ?_ | refine e2m_get rfl rfl ?_ | refine e2m_ld _ rfl rfl (by omega) ?_)
        exact e2_iret rfl rfl ⟨rfl, rfl⟩
  · have hw2 := eq_false_of_ne_true hw
    refine OpOk.same (a := -1) h ?_ (fun G1 o => ⟨o, ?_⟩)
    · refine C2.of (ls := [some (.inr (0, 30)), some (.inl w), some (.inl c), none, none]) okX8_assign rfl rfl ?_
      repeat (first | refine e2_step rfl rfl ?_ | refine e2_get rfl (by first | exact hi | decide) rfl rfl ?_)
      refine e2_fs (c_isWalk w) rfl rfl ⟨rfl, rfl, rfl⟩ rfl rfl rfl ?_
      rw [hw2]
      refine e2_if rfl rfl (fun _ => ?_) (fun z => absurd rfl z)
      repeat (first | refine e2_step rfl rfl ?_ | refine e2_get rfl (by first | exact hi | decide) rfl rfl ?_)
      exact e2_iret rfl rfl ⟨rfl, rfl⟩
    · refine C2.of (ls := [some (.inr (0, 50)), some (.inl w), some (.inl c), none, none]) okX9_assign rfl rfl ?_
      repeat (first | refine e2_step rfl rfl ?_ | refine e2m_get rfl rfl ?_ | refine e2m_ld _ rfl rfl (by omega) ?_)
      refine e2_fs (m_isWalk w) rfl rfl ⟨rfl, rfl, rfl⟩ rfl rfl rfl ?_
      rw [hw2]
      refine e2_if rfl rfl (fun _ => ?_) (fun z => absurd rfl z)
      repeat (first | refine e2_step rfl rfl ?_ | refine e2m_get rfl rfl ?_ | refine e2m_ld _ rfl rfl (by omega) ?_)
      exact e2_iret rfl rfl ⟨rfl, rfl⟩
end OJ
