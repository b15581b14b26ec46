/-! Constructors: history, the class. -/
section Ra0
variable {ε : EE} {J : JT} {X : Array Value → State → Prop} {Z : List Frame → Array Value → State → State → Prop} {mc ms cells slots pc : Nat} {ls : List (Option V0)} {st : List V0} {ws w0 l : va_W} {Q : Option Int32 → va_W → Prop} {fa : Nat} {fcs : Nat → Int32}
theorem eg_goC {cells' slots' : Nat} {ws' : va_W} (h1 : cells = cells') (h2 : slots = slots') (k : EG ε J X Z mc ms cells' slots' pc ls st ws') (h3 : ws = ws') : EG ε J X Z mc ms cells slots pc ls st ws := by
  subst h1; subst h2; subst h3
  exact k
/-- the moments 1 to n -/
def mWs (ε : EE) (M : Nat → Nat → Nat → Nat) : Nat → va_W
  | 0 => []
  | n + 1 => mWs ε M n ++ mW ε (M (n + 1))
theorem mWs_congr {M M' : Nat → Nat → Nat → Nat} : ∀ n, (∀ j, 1 ≤ j → j ≤ n → M j = M' j) → mWs ε M n = mWs ε M' n
  | 0, _ => rfl
  | n + 1, h => by
    unfold mWs
    rw [mWs_congr n (fun j h1 h2 => h j h1 (by omega)), h (n + 1) (by omega) (Nat.le_refl _)]
theorem i_history (w0 : va_W) (h : Nat) : e_CtX ε jX1_init (XF ε fa) 286 15700 [.inr (h, 99)] (w0 ++ [(h, .inr (1, dflV 1))]) (fun v ws' => v = none ∧ ∃ (q : Nat) (M : Nat → Nat → Nat → Nat), ws' = w0 ++ ((h, .inr (1, [.ref q, .int 0])) :: (q, .inl (ε.2.2.1 4, 5, .inr (.inr (.inr (.inr (fun s => some (M (s + 1) 0 20))))))) :: mWs ε M 5)) := by
  have hXX : ∀ (args : Array Value) s, (fun _ s => XF ε fa s) args s → XS ε fa (fun i => nI (fcN i)) s := fun _ _ z => z
  refine ex_met (ls := [some (.inr (h, 99)), none]) okX1_init rfl rfl ?_
  unfold EX
  refine eg_step rfl rfl ?_
  refine eg_objInit rfl rfl rfl rfl ?_
  refine eg_step rfl rfl ?_
  refine eg_step rfl rfl ?_
  refine eg_newq (kk := 4) dX1_init_6 rfl kl_1_9 (fun _ _ z => z.2.2.2) rfl rfl rfl (fun q => ?_)
  rw [List.append_assoc]
  refine ga_put 0 rfl rfl (by decide) rfl rfl rfl rfl rfl ?_
  refine eg_step rfl rfl ?_
  refine eg_step rfl rfl ?_
  have hl : ∀ m i, i + m = 5 → ∀ (M : Nat → Nat → Nat → Nat) (f : Nat → Option Nat), (∀ s, s < i → f s = some (M (s + 1) 0 20)) → EG ε jX1_init (fun _ s => XF ε fa s) (fun below args s => MQ below (e_Qc ε jX1_init (fun v ws' => v = none ∧ ∃ (q : Nat) (M : Nat → Nat → Nat → Nat), ws' = w0 ++ ((h, .inr (1, [.ref q, .int 0])) :: (q, .inl (ε.2.2.1 4, 5, .inr (.inr (.inr (.inr (fun s => some (M (s + 1) 0 20))))))) :: mWs ε M 5))) args s 286 15700 (e_A ε)) 286 15700 (1 + 57 * i) (5 + 3139 * i) 14 [some (.inr (h, 99)), some (.inl (nI i))] [] (w0 ++ ((h, .inr (1, [.ref q, .int 0])) :: (q, .inl (ε.2.2.1 4, 5, .inr (.inr (.inr (.inr f))))) :: mWs ε M i)) := by
    intro m
    induction m with
    | zero =>
      intro i hi M f hf
      have : i = 5 := by omega
      subst this
      refine eg_step rfl rfl ?_
      refine eg_step rfl rfl ?_
      refine eg_if rfl rfl (fun _ => ?_) (fun z => absurd (Int32.le_refl _) z)
      refine eg_refs (j := 1) (g := fun s => some (M (s + 1) 0 20)) rfl hf ?_
      exact ex_vret rfl rfl rfl rfl ⟨rfl, q, M, rfl⟩
    | succ m ih =>
      intro i hi M f hf
      refine eg_step rfl rfl ?_
      refine eg_step rfl rfl ?_
      refine eg_if rfl rfl (fun z => absurd (show nI 5 ≤ nI i from z) (nI_ge (by omega) (by omega))) (fun _ => ?_)
      refine eg_step rfl rfl ?_
      refine ga_get (w := .inr (q, 99)) 0 rfl rfl rfl ?_
      refine eg_step rfl rfl ?_
      have hb1 : (Nat.ble (1 + 57 * i + 1) 286 && Nat.ble (5 + 3139 * i + nfC 4) 15700) = true := by
        rw [Bool.and_eq_true]
        exact ⟨Nat.ble_eq_true_of_le (by omega), Nat.ble_eq_true_of_le (by show 5 + 3139 * i + 3 ≤ 15700; omega)⟩
      have hb2 : (Nat.ble (1 + 57 * i + 1 + 56) 286 && Nat.ble (5 + 3139 * i + nfC 4 + 3136) 15700) = true := by
        rw [Bool.and_eq_true]
        exact ⟨Nat.ble_eq_true_of_le (by omega), Nat.ble_eq_true_of_le (by show 5 + 3139 * i + 3 + 3136 ≤ 15700; omega)⟩
      refine ga_ctor (t := 4) (i_moment _) dX1_init_24 (by decide) kl_1_9 in_4 it_4 hb1 rfl rfl ⟨rfl, rfl, rfl⟩ rfl rfl hb2 hXX (fun c0 ws1 z => ?_)
      obtain ⟨B, e0, rfl⟩ := z
      subst e0
      rw [List.append_assoc]
      have hidx : ((h, .inr (1, [.ref q, .int 0])) :: (q, .inl (ε.2.2.1 4, 5, .inr (.inr (.inr (.inr f))))) :: mWs ε M i ++ mW ε B : va_W)[2 + (mWs ε M i).length]? = some (B 0 20, .inr (4, [.ref (B 0 0), .ref (B 0 21), .ref (B 0 22)])) := by
        rw [List.getElem?_append_right (by simp; omega)]
        rw [show 2 + (mWs ε M i).length - ((h, .inr (1, [.ref q, .int 0])) :: (q, .inl (ε.2.2.1 4, 5, .inr (.inr (.inr (.inr f))))) :: mWs ε M i : va_W).length = 0 by simp; omega]
        rfl
      refine ga_aast (t0 := 4) (i := i) (qk := 2 + (mWs ε M i).length) (ci := 4) (r := (RX4, TX4, 3)) 1 rfl rfl rfl rfl hidx rfl (by omega) (by decide) ?_
      refine eg_step rfl rfl ?_
      refine eg_step rfl rfl ?_
      rw [nI_add']
      have K := ih (i + 1) (by omega) (fun j => if j = i + 1 then B else M j) (va_up f i (some (B 0 20))) (fun s hs => ?_)
      · refine eg_goC ?_ ?_ K (by
          show w0 ++ ((h, .inr (1, [.ref q, .int 0])) :: (q, .inl (ε.2.2.1 4, 5, .inr (.inr (.inr (.inr (va_up f i (some (B 0 20)))))))) :: (mWs ε M i ++ mW ε B)) = _
          have e1 : mWs ε (fun j => if j = i + 1 then B else M j) (i + 1) = mWs ε M i ++ mW ε B := by
            show mWs ε _ i ++ mW ε (if i + 1 = i + 1 then B else M (i + 1)) = _
            rw [if_pos rfl, mWs_congr (M' := M) i (fun j h1 h2 => by rw [if_neg (by omega)])]
          rw [e1])
        · omega
        · show 5 + 3139 * i + 3 + 3136 = 5 + 3139 * (i + 1)
          omega
      · unfold va_up
        by_cases hsi : s = i
        · rw [if_pos hsi, if_pos (by omega)]
        · rw [if_neg hsi, if_neg (by omega)]
          exact hf s (by omega)
  exact hl 5 0 rfl (fun _ _ _ => 0) (fun _ => none) (fun s hs => by omega)
/-- a new object of the class -/
def wfW (ε : EE) (M : Nat → Nat → Nat → Nat) (T y : Nat → Nat) : va_W := (y 30, .inr (8, [.ref (M 0 0 20), .ref (y 31), .ref (y 33), .ref (T 0), .ref (y 40)])) :: (mW ε (M 0) ++ ((y 31, .inr (1, [.ref (y 32), .int 0])) :: (y 32, .inl (ε.2.2.1 4, 5, .inr (.inr (.inr (.inr (fun s => some (M (s + 1) 0 20))))))) :: (mWs ε M 5 ++ ([(y 33, .inr (6, [.ref (y 34), .int 0, .ref (y 35), .ref (y 36), .ref (y 37), .int 0, .int 0, .int 0])), (y 34, .inl (ε.2.2.1 2, 80, .inl (fun _ => nI 0))), (y 35, .inl (ε.2.2.1 0, 14, .inl (fun _ => nI 0))), (y 36, .inl (ε.2.2.1 0, 14, .inl (fun _ => nI 0))), (y 37, .inl (ε.2.2.1 0, 14, .inl (fun _ => nI 0)))] ++ (oW ε T ++ [(y 40, .inr (3, [.ref (y 41), .int 0])), (y 41, .inl (ε.2.2.1 0, 120, .inl (fun _ => nI 0)))])))))
set_option maxHeartbeats 4000000 in
theorem i_walkFrames (w0 : va_W) (h : Nat) : e_CtX ε jX8_init (XF ε fa) 369 20137 [.inr (h, 99)] (w0 ++ [(h, .inr (8, dflV 8))]) (fun v ws' => v = none ∧ ∃ (M : Nat → Nat → Nat → Nat) (T y : Nat → Nat), y 30 = h ∧ ws' = w0 ++ wfW ε M T y) := by
  have hXX : ∀ (args : Array Value) s, (fun _ s => XF ε fa s) args s → XS ε fa (fun i => nI (fcN i)) s := fun _ _ z => z
  refine ex_met (ls := [some (.inr (h, 99))]) okX8_init rfl rfl ?_
  unfold EX
  refine eg_step rfl rfl ?_
  refine eg_objInit rfl rfl rfl rfl ?_
  refine eg_step rfl rfl ?_
  refine ga_ctor (t := 4) (i_moment (w0 ++ [(h, .inr (8, dflV 8))])) dX8_init_5 (by decide) kl_8_7 in_4 it_4 rfl rfl rfl ⟨rfl, rfl, rfl⟩ rfl rfl rfl hXX (fun c0 ws1 z => ?_)
  obtain ⟨B, e0, rfl⟩ := z
  subst e0
  rw [List.append_assoc]
  refine ga_put 0 rfl rfl (by decide) rfl rfl rfl rfl rfl ?_
  refine eg_step rfl rfl ?_
  refine ga_ctor (t := 1) (i_history _) dX8_init_16 (by decide) kl_8_16 in_1 it_1 rfl rfl rfl ⟨rfl, rfl, rfl⟩ rfl rfl rfl hXX (fun c1 ws1 z => ?_)
  obtain ⟨q32, M, rfl⟩ := z
  rw [List.append_assoc]
  refine ga_put 0 rfl rfl (by decide) rfl rfl rfl rfl rfl ?_
  refine eg_step rfl rfl ?_
  refine ga_ctor (t := 6) (i_text _) dX8_init_27 (by decide) kl_8_23 in_6 it_6 rfl rfl rfl ⟨rfl, rfl, rfl⟩ rfl rfl rfl hXX (fun c2 ws1 z => ?_)
  obtain ⟨q34, q35, q36, q37, rfl⟩ := z
  rw [List.append_assoc]
  refine ga_put 0 rfl rfl (by decide) rfl rfl rfl rfl rfl ?_
  refine eg_step rfl rfl ?_
  refine ga_ctor (t := 5) (i_office _) dX8_init_38 (by decide) kl_8_30 in_5 it_5 rfl rfl rfl ⟨rfl, rfl, rfl⟩ rfl rfl rfl hXX (fun c3 ws1 z => ?_)
  obtain ⟨T, e3, rfl⟩ := z
  subst e3
  rw [List.append_assoc]
  refine ga_put 0 rfl rfl (by decide) rfl rfl rfl rfl rfl ?_
  refine eg_step rfl rfl ?_
  refine ga_ctor (t := 3) (i_line _) dX8_init_49 (by decide) kl_8_37 in_3 it_3 rfl rfl rfl ⟨rfl, rfl, rfl⟩ rfl rfl rfl hXX (fun c4 ws1 z => ?_)
  obtain ⟨q41, rfl⟩ := z
  rw [List.append_assoc]
  refine ga_put 0 rfl rfl (by decide) rfl rfl rfl rfl rfl ?_
  refine ex_vret rfl rfl rfl rfl ⟨rfl, (fun j => if j = 0 then B else M j), T, (fun k => match k with | 30 => h | 31 => c1 | 32 => q32 | 33 => c2 | 34 => q34 | 35 => q35 | 36 => q36 | 37 => q37 | 40 => c4 | _ => q41), rfl, ?_⟩
  have e1 : mWs ε (fun j => if j = 0 then B else M j) 5 = mWs ε M 5 := mWs_congr 5 (fun j h1 h2 => by rw [if_neg (by omega)])
  have e2 : (fun s => some ((fun j => if j = 0 then B else M j) (s + 1) 0 20)) = (fun s => some (M (s + 1) 0 20)) := by
    funext s
    show some ((if s + 1 = 0 then B else M (s + 1)) 0 20) = _
    rw [if_neg (by omega)]
  unfold wfW
  rw [e1, e2]
  simp only [List.set_cons_zero, List.cons_append, List.nil_append, List.append_assoc]
  rfl
end Ra0
