/-! The best carrier. -/
section Qc0
variable {ε : EE} {J : JT} {pc : Nat} {ls : List (Option V0)} {st : List V0} {G : GG} {i : Nat} {V : VV} {s : Int32} {o : Nat → Int32} {Q : Option Int32 → GG → Prop}
/-- the carrier without a walk who has most rounds on walk w, the least of those even, among the first ones -/
def bwwV (V : VV) (w : Nat) : Nat → Option Nat
  | 0 => none
  | c + 1 => if V 13 c = -9 then (match bwwV V w c with
    | none => some c
    | some b => if V 16 (c * 8 + w) ≤ V 16 (b * 8 + w) then some b else some c) else bwwV V w c
def oI : Option Nat → Int32
  | none => -9
  | some b => nI b
theorem bwwV_lt (V : VV) (w : Nat) : ∀ n b, bwwV V w n = some b → b < n := by
  intro n
  induction n with
  | zero => intro b h; cases h
  | succ n ih =>
    intro b h
    simp only [bwwV] at h
    split at h
    · split at h
      · cases h; omega
      · rename_i b' hb
        split at h
        · cases h; have := ih _ hb; omega
        · cases h; omega
    · have := ih _ h; omega
theorem k_bww {w : Nat} (hi : i < 19) (hw : w < 8) : FC ε jX0_bestWithoutWalk [.inr (i, 12), .inl (nI w)] G i V s o (some (oI (bwwV V w 6))) V s o := by
  obtain ⟨n6, h6⟩ : ∃ n, n = 6 := ⟨_, rfl⟩
  rw [← h6]
  refine C2.of (ls := [some (.inr (i, 12)), some (.inl (nI w)), none, none]) okX0_bestWithoutWalk rfl rfl ?_
  repeat (first | refine e2_stepS 5 rfl rfl rfl ?_ | refine e2c_getS 5 rfl hi rfl rfl rfl rfl ?_ | refine e2c_lgetS 5 rfl rfl rfl ?_ | refine e2c_ialdS 5 rfl _ hi rfl rfl rfl rfl (by omega) ?_)
  refine e2_for n6 (fun c => [some (.inr (i, 12)), some (.inl (nI w)), some (.inl (oI (bwwV V w c))), some (.inl (nI c))]) (fun _ => cG G i V s o) (fun c hc K => ?_) (fun M hM => ?_)
  · repeat (first | refine e2_step rfl rfl ?_ | refine e2c_get hi rfl rfl rfl rfl ?_ | refine e2c_lget rfl rfl ?_ | refine e2c_iald _ hi rfl rfl rfl rfl (by omega) ?_ | refine e2c_lald _ rfl rfl (by omega) ?_)
    refine e2_if rfl rfl (fun z => absurd z (nI_ge (by omega) (by omega))) (fun _ => ?_)
    repeat (first | refine e2_step rfl rfl ?_ | refine e2c_get hi rfl rfl rfl rfl ?_ | refine e2c_lget rfl rfl ?_ | refine e2c_iald _ hi rfl rfl rfl rfl (by omega) ?_ | refine e2c_lald _ rfl rfl (by omega) ?_)
    have hs : bwwV V w (c + 1) = if V 13 c = -9 then (match bwwV V w c with
      | none => some c
      | some b => if V 16 (c * 8 + w) ≤ V 16 (b * 8 + w) then some b else some c) else bwwV V w c := rfl
    refine e2_if rfl rfl (fun z => ?_) (fun z => ?_)
    · have z' : ¬ V 13 c = -9 := z
      rw [hs, if_neg z'] at K
      repeat (first | refine e2_stepS 5 rfl rfl rfl ?_ | refine e2c_getS 5 rfl hi rfl rfl rfl rfl ?_ | refine e2c_lgetS 5 rfl rfl rfl ?_ | refine e2c_ialdS 5 rfl _ hi rfl rfl rfl rfl (by omega) ?_)
      rw [nI_add']
      exact K
    · have z' : V 13 c = -9 := Classical.not_not.1 z
      rw [hs, if_pos z'] at K
      repeat (first | refine e2_step rfl rfl ?_ | refine e2c_get hi rfl rfl rfl rfl ?_ | refine e2c_lget rfl rfl ?_ | refine e2c_iald _ hi rfl rfl rfl rfl (by omega) ?_ | refine e2c_lald _ rfl rfl (by omega) ?_)
      cases hb : bwwV V w c with
      | none =>
        rw [hb] at K
        refine e2_if rfl rfl (fun _ => ?_) (fun y => absurd rfl y)
        repeat (first | refine e2_stepS 5 rfl rfl rfl ?_ | refine e2c_getS 5 rfl hi rfl rfl rfl rfl ?_ | refine e2c_lgetS 5 rfl rfl rfl ?_ | refine e2c_ialdS 5 rfl _ hi rfl rfl rfl rfl (by omega) ?_)
        rw [nI_add']
        exact K
      | some b =>
        rw [hb] at K
        have hlt := bwwV_lt V w c b hb
        refine e2_if rfl rfl (fun y => absurd (show nI b = -9 from y) (nI_n9 (by omega))) (fun _ => ?_)
        repeat (first | refine e2_step rfl rfl ?_ | refine e2c_get hi rfl rfl rfl rfl ?_ | refine e2c_lget rfl rfl ?_ | refine e2c_iald _ hi rfl rfl rfl rfl (by omega) ?_ | refine e2c_lald _ rfl rfl (by omega) ?_)
        refine e2c_fi (k_roundsOn (c := c) hi (by omega) hw) rfl rfl ⟨rfl, rfl, rfl⟩ rfl rfl rfl hi rfl rfl rfl rfl ?_
        repeat (first | refine e2_step rfl rfl ?_ | refine e2c_get hi rfl rfl rfl rfl ?_ | refine e2c_lget rfl rfl ?_ | refine e2c_iald _ hi rfl rfl rfl rfl (by omega) ?_ | refine e2c_lald _ rfl rfl (by omega) ?_)
        refine e2c_fi (k_roundsOn (c := b) hi (by omega) hw) rfl rfl ⟨rfl, rfl, rfl⟩ rfl rfl rfl hi rfl rfl rfl rfl ?_
        refine e2_if rfl rfl (fun y => ?_) (fun y => ?_)
        · simp only [] at K
          rw [if_pos (show V 16 (c * 8 + w) ≤ V 16 (b * 8 + w) from y)] at K
          repeat (first | refine e2_stepS 5 rfl rfl rfl ?_ | refine e2c_getS 5 rfl hi rfl rfl rfl rfl ?_ | refine e2c_lgetS 5 rfl rfl rfl ?_ | refine e2c_ialdS 5 rfl _ hi rfl rfl rfl rfl (by omega) ?_)
          rw [nI_add']
          exact K
        · simp only [] at K
          rw [if_neg (show ¬ V 16 (c * 8 + w) ≤ V 16 (b * 8 + w) from y)] at K
          repeat (first | refine e2_stepS 5 rfl rfl rfl ?_ | refine e2c_getS 5 rfl hi rfl rfl rfl rfl ?_ | refine e2c_lgetS 5 rfl rfl rfl ?_ | refine e2c_ialdS 5 rfl _ hi rfl rfl rfl rfl (by omega) ?_)
          rw [nI_add']
          exact K
  · repeat (first | refine e2_step rfl rfl ?_ | refine e2c_get hi rfl rfl rfl rfl ?_ | refine e2c_lget rfl rfl ?_ | refine e2c_iald _ hi rfl rfl rfl rfl (by omega) ?_ | refine e2c_lald _ rfl rfl (by omega) ?_)
    refine e2_if rfl rfl (fun _ => ?_) (fun c => absurd (by rw [hM, h6]; exact Int32.le_refl _) c)
    repeat (first | refine e2_step rfl rfl ?_ | refine e2c_get hi rfl rfl rfl rfl ?_ | refine e2c_lget rfl rfl ?_ | refine e2c_iald _ hi rfl rfl rfl rfl (by omega) ?_ | refine e2c_lald _ rfl rfl (by omega) ?_)
    exact e2_iret rfl rfl ⟨by rw [hM], rfl⟩
end Qc0
