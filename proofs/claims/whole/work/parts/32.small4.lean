/-! The reference: strays, rounds of a carrier; the class: the first without a walk. -/
section NV2
variable {ε : EE} {J : JT} {pc : Nat} {ls : List (Option V0)} {st : List V0} {G : GG} {r t o x : Nat → Int32} {Q : Option Int32 → GG → Prop}
def stryr (r : Nat → Int32) (l : Nat) : Bool := decide (ofr r l 3 = nI 1) && decide (¬ ofr r l 4 = nI (wkr r l))
theorem m_astray {N : Nat} (hN : r 100 = nI N) (hN2 : N ≤ 120) (hok : okr r N) : FM ε jX9_astray [] G r t o x (some (nI (cntB (stryr r) N))) r t o x := by
  refine C2.of (ls := [some (.inr (0, 50)), none, none]) okX9_astray rfl rfl ?_
  repeat (first | refine e2_stepS 4 rfl rfl rfl ?_ | refine e2m_getS 4 rfl rfl rfl ?_ | refine e2m_ldS 4 rfl _ rfl rfl (by omega) ?_)
  refine e2_for N (fun l => [some (.inr (0, 50)), some (.inl (nI (cntB (stryr r) l))), some (.inl (nI l))]) (fun _ => mG G r t o x) (fun l hl K => ?_) (fun M hM => ?_)
  · repeat (first | refine e2_step rfl rfl ?_ | refine e2m_get rfl rfl ?_ | refine e2m_ld _ rfl rfl (by omega) ?_)
    refine e2_if rfl rfl (fun c => absurd (hN ▸ c) (nI_ge hl (by omega))) (fun _ => ?_)
    repeat (first | refine e2_step rfl rfl ?_ | refine e2m_get rfl rfl ?_ | refine e2m_ld _ rfl rfl (by omega) ?_)
    refine e2_fi (m_of (l := l) (k := 3) (by omega) (by decide)) rfl rfl ⟨rfl, rfl, rfl⟩ rfl rfl rfl (by first | exact hi | decide) rfl rfl rfl ?_
    repeat (first | refine e2_step rfl rfl ?_ | refine e2m_get rfl rfl ?_ | refine e2m_ld _ rfl rfl (by omega) ?_)
    simp only [cntB] at K
    have hs : stryr r l = (decide (ofr r l 3 = nI 1) && decide (¬ ofr r l 4 = nI (wkr r l))) := rfl
    refine e2_if rfl rfl (fun z => ?_) (fun z => ?_)
    · have z' : ¬ ofr r l 3 = nI 1 := z
      rw [hs, decide_eq_false z', Bool.false_and] at K
      simp only [Bool.false_eq_true, if_false, Nat.add_zero] at K
      repeat (first | refine e2_stepS 4 rfl rfl rfl ?_ | refine e2m_getS 4 rfl rfl rfl ?_ | refine e2m_ldS 4 rfl _ rfl rfl (by omega) ?_)
      rw [nI_add', nI_add']
      exact K
    · have z' : ofr r l 3 = nI 1 := Classical.not_not.1 z
      repeat (first | refine e2_step rfl rfl ?_ | refine e2m_get rfl rfl ?_ | refine e2m_ld _ rfl rfl (by omega) ?_)
      refine e2_fi (m_of (l := l) (k := 4) (by omega) (by decide)) rfl rfl ⟨rfl, rfl, rfl⟩ rfl rfl rfl (by first | exact hi | decide) rfl rfl rfl ?_
      repeat (first | refine e2_step rfl rfl ?_ | refine e2m_get rfl rfl ?_ | refine e2m_ld _ rfl rfl (by omega) ?_)
      refine e2_fi (m_walkOfk hok hN2 hl) rfl rfl ⟨rfl, rfl, rfl⟩ rfl rfl rfl (by first | exact hi | decide) rfl rfl rfl ?_
      refine e2_if rfl rfl (fun y => ?_) (fun y => ?_)
      · have y' : ofr r l 4 = nI (wkr r l) := y
        rw [hs, decide_eq_false (p := ¬ ofr r l 4 = nI (wkr r l)) (fun q => q y'), Bool.and_false] at K
        simp only [Bool.false_eq_true, if_false, Nat.add_zero] at K
        repeat (first | refine e2_stepS 4 rfl rfl rfl ?_ | refine e2m_getS 4 rfl rfl rfl ?_ | refine e2m_ldS 4 rfl _ rfl rfl (by omega) ?_)
        rw [nI_add', nI_add']
        exact K
      · have y' : ¬ ofr r l 4 = nI (wkr r l) := y
        rw [hs, decide_eq_true z', decide_eq_true y', Bool.and_true] at K
        simp only [if_true] at K
        repeat (first | refine e2_stepS 4 rfl rfl rfl ?_ | refine e2m_getS 4 rfl rfl rfl ?_ | refine e2m_ldS 4 rfl _ rfl rfl (by omega) ?_)
        rw [nI_add', nI_add']
        exact K
  · repeat (first | refine e2_step rfl rfl ?_ | refine e2m_get rfl rfl ?_ | refine e2m_ld _ rfl rfl (by omega) ?_)
    refine e2_if rfl rfl (fun c => ?_) (fun c => absurd (by rw [hN, hM]; exact Int32.le_refl _) c)
    repeat (first | refine e2_step rfl rfl ?_ | refine e2m_get rfl rfl ?_ | refine e2m_ld _ rfl rfl (by omega) ?_)
    exact e2_iret rfl rfl ⟨by rw [hM], rfl⟩
end NV2
section NV3
variable {ε : EE} {J : JT} {pc : Nat} {ls : List (Option V0)} {st : List V0} {G : GG} {i : Nat} {V : VV} {s : Int32} {o : Nat → Int32} {Q : Option Int32 → GG → Prop}
/-- the carrier without a walk who has most rounds on walk w, the least of those even, among the first ones -/
def bwwV (V : VV) (w : Nat) : Nat → Option Nat
  | 0 => none
  | c + 1 => if V 13 c = -9 then (match bwwV V w c with
    | none => some c
    | some b => if V 16 (c * 8 + w) ≤ V 16 (b * 8 + w) then some b else some c) else bwwV V w c
def oI : Option Nat → Int32
  | none => -9
  | some b => nI b
theorem bwwV_lt (V : VV) (w : Nat) : ∀ n b, bwwV V w n = some b → b < n := by
  intro n
  induction n with
  | zero => intro b h; cases h
  | succ n ih =>
    intro b h
    simp only [bwwV] at h
    split at h
    · split at h
      · cases h; omega
      · rename_i b' hb
        split at h
        · cases h; have := ih _ hb; omega
        · cases h; omega
    · have := ih _ h; omega
theorem k_bww {w : Nat} (hi : i < 19) (hw : w < 8) : FC ε jX0_bestWithoutWalk [.inr (i, 12), .inl (nI w)] G i V s o (some (oI (bwwV V w 6))) V s o := by
  obtain ⟨n6, h6⟩ : ∃ n, n = 6 := ⟨_, rfl⟩
  rw [← h6]
  refine C2.of (ls := [some (.inr (i, 12)), some (.inl (nI w)), none, none]) okX0_bestWithoutWalk rfl rfl ?_
  repeat (first | refine e2_stepS 5 rfl rfl rfl ?_ | refine e2c_getS 5 rfl hi rfl rfl rfl rfl ?_ | refine e2c_lgetS 5 rfl rfl rfl ?_ | refine e2c_ialdS 5 rfl _ hi rfl rfl rfl rfl (by omega) ?_)
  refine e2_for n6 (fun c => [some (.inr (i, 12)), some (.inl (nI w)), some (.inl (oI (bwwV V w c))), some (.inl (nI c))]) (fun _ => cG G i V s o) (fun c hc K => ?_) (fun M hM => ?_)
  · repeat (first | refine e2_step rfl rfl ?_ | refine e2c_get hi rfl rfl rfl rfl ?_ | refine e2c_lget rfl rfl ?_ | refine e2c_iald _ hi rfl rfl rfl rfl (by omega) ?_ | refine e2c_lald _ rfl rfl (by omega) ?_)
    refine e2_if rfl rfl (fun z => absurd z (nI_ge (by omega) (by omega))) (fun _ => ?_)
    repeat (first | refine e2_step rfl rfl ?_ | refine e2c_get hi rfl rfl rfl rfl ?_ | refine e2c_lget rfl rfl ?_ | refine e2c_iald _ hi rfl rfl rfl rfl (by omega) ?_ | refine e2c_lald _ rfl rfl (by omega) ?_)
    have hs : bwwV V w (c + 1) = if V 13 c = -9 then (match bwwV V w c with
      | none => some c
      | some b => if V 16 (c * 8 + w) ≤ V 16 (b * 8 + w) then some b else some c) else bwwV V w c := rfl
    refine e2_if rfl rfl (fun z => ?_) (fun z => ?_)
    · have z' : ¬ V 13 c = -9 := z
      rw [hs, if_neg z'] at K
      repeat (first | refine e2_stepS 5 rfl rfl rfl ?_ | refine e2c_getS 5 rfl hi rfl rfl rfl rfl ?_ | refine e2c_lgetS 5 rfl rfl rfl ?_ | refine e2c_ialdS 5 rfl _ hi rfl rfl rfl rfl (by omega) ?_)
      rw [nI_add']
      exact K
    · have z' : V 13 c = -9 := Classical.not_not.1 z
      rw [hs, if_pos z'] at K
      repeat (first | refine e2_step rfl rfl ?_ | refine e2c_get hi rfl rfl rfl rfl ?_ | refine e2c_lget rfl rfl ?_ | refine e2c_iald _ hi rfl rfl rfl rfl (by omega) ?_ | refine e2c_lald _ rfl rfl (by omega) ?_)
      cases hb : bwwV V w c with
      | none =>
        rw [hb] at K
        refine e2_if rfl rfl (fun _ => ?_) (fun y => absurd rfl y)
        repeat (first | refine e2_stepS 5 rfl rfl rfl ?_ | refine e2c_getS 5 rfl hi rfl rfl rfl rfl ?_ | refine e2c_lgetS 5 rfl rfl rfl ?_ | refine e2c_ialdS 5 rfl _ hi rfl rfl rfl rfl (by omega) ?_)
        rw [nI_add']
        exact K
      | some b =>
        rw [hb] at K
        have hlt := bwwV_lt V w c b hb
        refine e2_if rfl rfl (fun y => absurd (show nI b = -9 from y) (nI_n9 (by omega))) (fun _ => ?_)
        repeat (first | refine e2_step rfl rfl ?_ | refine e2c_get hi rfl rfl rfl rfl ?_ | refine e2c_lget rfl rfl ?_ | refine e2c_iald _ hi rfl rfl rfl rfl (by omega) ?_ | refine e2c_lald _ rfl rfl (by omega) ?_)
        refine e2c_fi (k_roundsOn (c := c) hi (by omega) hw) rfl rfl ⟨rfl, rfl, rfl⟩ rfl rfl rfl hi rfl rfl rfl rfl ?_
        repeat (first | refine e2_step rfl rfl ?_ | refine e2c_get hi rfl rfl rfl rfl ?_ | refine e2c_lget rfl rfl ?_ | refine e2c_iald _ hi rfl rfl rfl rfl (by omega) ?_ | refine e2c_lald _ rfl rfl (by omega) ?_)
        refine e2c_fi (k_roundsOn (c := b) hi (by omega) hw) rfl rfl ⟨rfl, rfl, rfl⟩ rfl rfl rfl hi rfl rfl rfl rfl ?_
        refine e2_if rfl rfl (fun y => ?_) (fun y => ?_)
        · simp only [] at K
          rw [if_pos (show V 16 (c * 8 + w) ≤ V 16 (b * 8 + w) from y)] at K
          repeat (first | refine e2_stepS 5 rfl rfl rfl ?_ | refine e2c_getS 5 rfl hi rfl rfl rfl rfl ?_ | refine e2c_lgetS 5 rfl rfl rfl ?_ | refine e2c_ialdS 5 rfl _ hi rfl rfl rfl rfl (by omega) ?_)
          rw [nI_add']
          exact K
        · simp only [] at K
          rw [if_neg (show ¬ V 16 (c * 8 + w) ≤ V 16 (b * 8 + w) from y)] at K
          repeat (first | refine e2_stepS 5 rfl rfl rfl ?_ | refine e2c_getS 5 rfl hi rfl rfl rfl rfl ?_ | refine e2c_lgetS 5 rfl rfl rfl ?_ | refine e2c_ialdS 5 rfl _ hi rfl rfl rfl rfl (by omega) ?_)
          rw [nI_add']
          exact K
  · repeat (first | refine e2_step rfl rfl ?_ | refine e2c_get hi rfl rfl rfl rfl ?_ | refine e2c_lget rfl rfl ?_ | refine e2c_iald _ hi rfl rfl rfl rfl (by omega) ?_ | refine e2c_lald _ rfl rfl (by omega) ?_)
    refine e2_if rfl rfl (fun _ => ?_) (fun c => absurd (by rw [hM, h6]; exact Int32.le_refl _) c)
    repeat (first | refine e2_step rfl rfl ?_ | refine e2c_get hi rfl rfl rfl rfl ?_ | refine e2c_lget rfl rfl ?_ | refine e2c_iald _ hi rfl rfl rfl rfl (by omega) ?_ | refine e2c_lald _ rfl rfl (by omega) ?_)
    exact e2_iret rfl rfl ⟨by rw [hM], rfl⟩
end NV3
