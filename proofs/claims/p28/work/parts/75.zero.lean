/-! The new state holds what the law asks of a state. -/
section PE2
variable {ε : EE}
def GZ : GG := fun _ kk => if kk < 18 then O0 kk else match kk with
  | 32 => fun s => nI (s + 1)
  | _ => fun _ => nI 0
theorem wd_sa {A : Nat → Nat → Nat} {G : GG} : wd (sa ε A) G = vals.map (fun q => (A q.1 q.2, cellE (sa ε A) q.1 q.2 (G q.1 q.2))) := List.append_nil _
theorem GZ_o (i kk : Nat) (hk : kk < 18) : GZ i kk = O0 kk := if_pos hk
theorem OZ_at {i kk : Nat} (hk : kk < 18) : O GZ i kk = O0 kk := by rw [O_at hk, GZ_o _ _ hk]
theorem IV_Z : IV (O GZ 0) 0 500 := by
  refine ⟨⟨⟨by omega, ?_, fun c hc => ?_, fun w hw => ?_, ⟨0, by omega, ?_⟩, ⟨0, by omega, ?_⟩, ⟨10, by omega, by omega, ?_⟩, 8, by omega, by omega, ?_⟩, ⟨fun c hc => ⟨Or.inl ?_, Or.inl ?_, fun z => ?_⟩, fun c d hc hd z => Or.inl ?_⟩, fun w hw => ?_, fun l hl => absurd hl (by omega)⟩, fun l hl => absurd hl (by omega), ?_⟩
  · rw [OZ_at (by omega)]; rfl
  · rw [OZ_at (by omega)]
    exact ⟨c * 2 / 25, by omega, rg_v hc⟩
  · rw [OZ_at (by omega)]
    exact ⟨6, by omega, by omega, hl_v w hw⟩
  · rw [OZ_at (by omega)]; rfl
  · rw [OZ_at (by omega)]; rfl
  · rw [OZ_at (by omega)]; rfl
  · rw [OZ_at (by omega)]; rfl
  · rw [OZ_at (by omega)]; rfl
  · rw [OZ_at (by omega)]; exact cr_v c hc
  · rw [OZ_at (by omega)] at z
    exact absurd z n01'
  · rw [OZ_at (by omega)]; exact cr_v c hc
  · rw [OZ_at (by omega)]; rfl
  · unfold ID
    rw [OZ_at (by omega)]
    show sumI (fun _ => nI 0) 6 = nI 0
    decide +kernel
theorem SG_Z : SG GZ := by
  refine ⟨⟨0, IV_Z⟩, fun t ht => ⟨Or.inl rfl, fun z => absurd (show nI 0 = nI 1 from z) n01'⟩, ⟨0, fun p => p + 1, by omega, rfl, fun p hp => ⟨Nat.succ_le_succ (Nat.zero_le _), Nat.succ_lt_succ hp, rfl⟩, fun p q _ _ e => Nat.succ.inj e⟩, rfl⟩
end PE2
