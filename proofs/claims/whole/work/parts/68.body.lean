/-! The law's body up to its end. -/
section PI
variable {ε : EE} {X X' : Array Value → State → Prop} {Z : List Frame → Array Value → State → State → Prop} {mc ms cells slots pc : Nat} {J : JT} {nm : String} {ls ls' : List (Option V0)} {ws ws' : va_W} {b L fa : Nat} {xs : Nat → Int32}
theorem el_move {A : Nat → Nat → Nat} (hP : ∀ H, va_P ε.2.1 vwCl ws H → va_P ε.2.1 vwCl ws' H) (hD : va_D (e_A ε) ws → va_D (e_A ε) ws') (hX : ∀ args s, X args s → X' args s) (hls : e_ll ε 0 ls = e_ll (sa ε A) 0 ls') (k : EL (sa ε A) J X' Z mc ms cells slots pc ls' [] ws') : EL ε J X Z mc ms cells slots pc ls [] ws := by
  intro hT p e R s m args below meth c H locs lsA C XX hPP hDD hS hl
  exact k hT p e R s m args below meth c H locs lsA C (hX _ _ XX) (hP H hPP) (hD hDD) hS (by
    unfold e_L at hl ⊢
    rw [← hls]
    exact hl)
def lX1 (ε : EE) (fa b L : Nat) (xs : Nat → Int32) (args : Array Value) (s : State) : Prop := XF ε fa s ∧ lXL b L xs ε args s
set_option maxRecDepth 100000 in
set_option maxHeartbeats 4000000 in
theorem l_body (hL : L ≤ 2048) (hend : ∀ (A : Nat → Nat → Nat) G K cells slots, cells ≤ 600000 → slots ≤ 7302250 → EL (sa ε A) (jLaw nm) (lXL b L xs (sa ε A)) Z 600000 7302250 cells slots 799 (lLS b K) [] (wd (sa ε A) G)) : EL ε (jLaw nm) (lX1 ε fa b L xs) Z 600000 7302250 0 0 0 [some (.inr (b, 99)), none, none, none] [] [] := by
  have hXX : ∀ args s, lX1 ε fa b L xs args s → XS ε fa (fun i => nI (fcN i)) s := fun _ _ z => z.1
  refine la_ctor (t := 8) (i_walkFrames []) dL_0 (by decide) kl_10_7 in_8 it_8 rfl rfl rfl ⟨rfl, rfl, rfl⟩ rfl rfl rfl hXX (fun h ws1 z => ?_)
  obtain ⟨M, T, y, e0, rfl⟩ := z
  rw [List.nil_append]
  refine el_step rfl rfl ?_
  refine la_ctor (t := 9) (i_model (wfW ε M T y)) dL_8 (by decide) kl_10_10 in_9 it_9 rfl rfl rfl ⟨rfl, rfl, rfl⟩ rfl rfl rfl hXX (fun h9 ws1 z => ?_)
  obtain ⟨a, b2, c, rfl⟩ := z
  refine el_step rfl rfl ?_
  refine el_step rfl rfl ?_
  refine el_step rfl rfl ?_
  refine el_move (A := AA M T y h9 a b2 c) (ws' := wd (sa ε (AA M T y h9 a b2 c)) G0) (X' := lXL b L xs (sa ε (AA M T y h9 a b2 c))) (ls' := lLS b 0) (fun H hP => P_wd hP) (fun hD => D_wd hD) (fun _ _ z => z.2) ?_ ?_
  · subst e0
    rfl
  · exact l_loop (fun _ _ z => ⟨z.1, z.2.1, z.2.2.1⟩) ⟨by decide, by decide⟩ hL (fun G K => hend _ G K _ _ (by decide) (by decide)) 512 0 G0 (by omega) RR_0 (by omega)
end PI
