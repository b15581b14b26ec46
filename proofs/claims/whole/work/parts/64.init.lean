/-! The two new states are related; the world out of both constructors. -/
section PE
variable {ε : EE}
def G0 : GG := fun _ kk => if kk < 18 then O0 kk else match kk with
  | 32 => fun s => nI (s + 1)
  | 51 => r00
  | _ => fun _ => nI 0
theorem rA_v (j : Nat) : ∀ n, rA n j = if j < n then nI (j * 2 / 25) else nI 0
  | 0 => by rw [if_neg (by omega)]; rfl
  | n + 1 => by
    unfold rA upd
    by_cases h : j = n
    · subst h
      rw [if_pos rfl, if_pos (by omega)]
    · rw [if_neg h, rA_v j n]
      by_cases h2 : j < n
      · rw [if_pos h2, if_pos (by omega)]
      · rw [if_neg h2, if_neg (by omega)]
theorem rB_v (j : Nat) : ∀ n, n ≤ 8 → rB n j = if 941 ≤ j ∧ j < 941 + n then nI 6 else if 955 ≤ j ∧ j < 955 + n then -9 else rA 100 j
  | 0, _ => by rw [if_neg (by omega), if_neg (by omega)]; rfl
  | n + 1, hn => by
    have ih := rB_v j n (by omega)
    unfold rB upd
    by_cases h : j = 955 + n
    · rw [if_pos h, if_neg (by omega), if_pos (by omega)]
    · rw [if_neg h]
      by_cases h2 : j = 941 + n
      · rw [if_pos h2, if_pos (by omega)]
      · rw [if_neg h2, ih]
        by_cases h3 : 941 ≤ j ∧ j < 941 + n
        · rw [if_pos h3, if_pos (by omega)]
        · rw [if_neg h3]
          by_cases h4 : 955 ≤ j ∧ j < 955 + n
          · rw [if_pos h4, if_neg (by omega), if_pos (by omega)]
          · rw [if_neg h4, if_neg (by omega), if_neg (by omega)]
theorem r00_v (j : Nat) (h1 : j ≠ 950) (h2 : j ≠ 951) : r00 j = rB 8 j := by
  unfold r00 upd
  rw [if_neg h2, if_neg h1]
theorem r00_c {c : Nat} (h : c < 100) : r00 c = nI (c * 2 / 25) := by
  rw [r00_v c (by omega) (by omega), rB_v c 8 (by omega), if_neg (by omega), if_neg (by omega), rA_v, if_pos h]
theorem r00_h {w : Nat} (h : w < 8) : r00 (941 + w) = nI 6 := by
  rw [r00_v _ (by omega) (by omega), rB_v _ 8 (by omega), if_pos (by omega)]
theorem r00_g {w : Nat} (h : w < 8) : r00 (955 + w) = -9 := by
  rw [r00_v _ (by omega) (by omega), rB_v _ 8 (by omega), if_neg (by omega), if_pos (by omega)]
theorem r00_z {j : Nat} (h0 : 100 ≤ j) (h1 : j ≠ 950) (h2 : j ≠ 951) (h3 : j < 941 ∨ 949 ≤ j) (h4 : j < 955 ∨ 963 ≤ j) : r00 j = nI 0 := by
  rw [r00_v _ h1 h2, rB_v _ 8 (by omega), if_neg (by omega), if_neg (by omega), rA_v, if_neg (by omega)]
set_option maxRecDepth 100000 in
theorem rg_vb : (List.range 100).all (fun c => decide (rgI 8 c = nI (c * 2 / 25))) = true := by decide +kernel
theorem rg_v {c : Nat} (h : c < 100) : rgI 8 c = nI (c * 2 / 25) := of_decide_eq_true (List.all_eq_true.mp rg_vb c (List.mem_range.2 h))
theorem cr_v : ∀ c, c < 6 → crI 6 c = -9 := by decide +kernel
theorem hl_v : ∀ w, w < 8 → hlI 8 w = nI 6 := by decide +kernel
theorem n9_v : ∀ n, n < 8 → ¬ (-9 : Int32) = nI n := by decide +kernel
theorem n01' : ¬ nI 0 = nI 1 := by decide +kernel
theorem RO_0 : RO O0 r00 0 := by
  refine ⟨⟨Nat.zero_le _, rfl, r00_z (by omega) (by omega) (by omega) (by omega) (by omega), fun c hc => ⟨?_, c * 2 / 25, by omega, r00_c hc⟩, fun w hw => ?_, ⟨?_, ?_, ?_, ?_⟩, ⟨⟨10, by omega, rfl⟩, 8, by omega, rfl⟩, ?_, ?_, ?_, ?_, ?_⟩, fun l hl => absurd hl (by omega), fun w _ => rfl, ?_⟩
  · rw [r00_c hc]
    exact rg_v hc
  · rw [r00_h hw]
    exact hl_v w hw
  · rw [r00_z (by omega) (by omega) (by omega) (by omega) (by omega)]; rfl
  · rw [r00_z (by omega) (by omega) (by omega) (by omega) (by omega)]; rfl
  · rfl
  · rfl
  · intro c hc
    have e1 : r00 (1011 + c) = nI 0 := r00_z (by omega) (by omega) (by omega) (by omega) (by omega)
    have e2 : r00 (1017 + c) = nI 0 := r00_z (by omega) (by omega) (by omega) (by omega) (by omega)
    exact ⟨by rw [e1]; rfl, Or.inl e1, by rw [e2]; rfl, Or.inl (cr_v c hc), fun z => absurd (e1.symm.trans z) n01'⟩
  · intro w hw
    exact Or.inl (r00_g hw)
  · intro c w hc hw
    rw [r00_g hw, show O0 13 c = -9 from cr_v c hc]
    exact ⟨fun z => absurd z (n9_v w hw), fun z => absurd z (n9_v c (by omega))⟩
  · intro k hk
    rw [r00_z (by omega) (by omega) (by omega) (by omega) (by omega)]; rfl
  · rw [r00_z (by omega) (by omega) (by omega) (by omega) (by omega)]
    show nI 0 = sumI (fun _ => nI 0) 48
    decide +kernel
  · rw [r00_z (by omega) (by omega) (by omega) (by omega) (by omega)]; rfl
theorem RR_0 : RR G0 r00 (fun _ => nI 0) (fun _ => nI 0) 0 := by
  have hS : RS (G0 (3 * 0)) r00 0 := ⟨⟨0, RO_0.agree (AgO.eq (fun kk hk => if_pos hk))⟩, ⟨0, by omega, r00_z (by omega) (by omega) (by omega) (by omega) (by omega)⟩, fun k hk => ⟨0, Nat.le_refl _, r00_z (by omega) (by omega) (by omega) (by omega) (by omega)⟩⟩
  refine ⟨⟨hS, fun s hs => ?_⟩, ⟨0, fun p => p + 1, by omega, rfl, rfl, fun p hp => ⟨Nat.succ_le_succ (Nat.zero_le _), Nat.succ_lt_succ hp, rfl⟩, fun p q _ _ e => Nat.succ.inj e, fun p hp => absurd hp (by omega)⟩, 0, by omega, rfl, rfl, rfl⟩
  have e1 : r00 (3069 + s) = nI 0 := r00_z (by omega) (by omega) (by omega) (by omega) (by omega)
  exact ⟨by rw [e1]; rfl, Or.inl e1, fun z => absurd (e1.symm.trans z) n01'⟩
/-- a cell of an office is told by its parts' addresses -/
theorem cellE_sa {A : Nat → Nat → Nat} {ad : Nat → Nat} {i : Nat} (h : ∀ k, k < 18 → A i k = ad k) (g : Nat → Int32) (k : Nat) (hk : k < 18) : cellE (sa ε A) i k g = cellE (sa ε (fun _ => ad)) 0 k g := by
  have hc : k = 0 ∨ k = 1 ∨ k = 2 ∨ k = 3 ∨ k = 4 ∨ k = 5 ∨ k = 6 ∨ k = 7 ∨ k = 8 ∨ k = 9 ∨ k = 10 ∨ k = 11 ∨ k = 12 ∨ k = 13 ∨ k = 14 ∨ k = 15 ∨ k = 16 ∨ k = 17 := by omega
  rcases hc with rfl | rfl | rfl | rfl | rfl | rfl | rfl | rfl | rfl | rfl | rfl | rfl | rfl | rfl | rfl | rfl | rfl | rfl <;> first
    | rfl
    | (show (Sum.inr (5, [Value.ref (A i 1), .ref (A i 3), .ref (A i 12), .ref (A i 17), .int (g 4), .int (g 5), .int (g 6), .int (g 7)]) : va_E) = .inr (5, [Value.ref (ad 1), .ref (ad 3), .ref (ad 12), .ref (ad 17), .int (g 4), .int (g 5), .int (g 6), .int (g 7)])
       rw [h 1 (by omega), h 3 (by omega), h 12 (by omega), h 17 (by omega)])
    | (show (Sum.inr (7, [Value.ref (A i 2)]) : va_E) = .inr (7, [Value.ref (ad 2)])
       rw [h 2 (by omega)])
    | (show (Sum.inr (2, [Value.ref (A i 4), .ref (A i 5), .ref (A i 6), .ref (A i 7), .ref (A i 8), .ref (A i 9), .ref (A i 10), .ref (A i 11), .int (g 8)]) : va_E) = .inr (2, [Value.ref (ad 4), .ref (ad 5), .ref (ad 6), .ref (ad 7), .ref (ad 8), .ref (ad 9), .ref (ad 10), .ref (ad 11), .int (g 8)])
       rw [h 4 (by omega), h 5 (by omega), h 6 (by omega), h 7 (by omega), h 8 (by omega), h 9 (by omega), h 10 (by omega), h 11 (by omega)])
    | (show (Sum.inr (0, [Value.ref (A i 13), .ref (A i 14), .ref (A i 15), .ref (A i 16)]) : va_E) = .inr (0, [Value.ref (ad 13), .ref (ad 14), .ref (ad 15), .ref (ad 16)])
       rw [h 13 (by omega), h 14 (by omega), h 15 (by omega), h 16 (by omega)])
theorem at_refs {D : va_G} {cl : List vw_C} {a n : Nat} {cA : ClassId} {f g : Nat → Option Nat} {H : Heap} (hfg : ∀ i, i < n → f i = g i) (h : va_at D cl (a, .inl (cA, n, .inr (.inr (.inr (.inr f))))) H) : va_at D cl (a, .inl (cA, n, .inr (.inr (.inr (.inr g))))) H := by
  have hcell : vp_cell cA (n, .inr (.inr (.inr (.inr f)))) = vp_cell cA (n, .inr (.inr (.inr (.inr g)))) := by
    rw [vp_cell_q, vp_cell_q]
    unfold arrV
    congr 1
    apply Array.ext
    · simp
    · intro i h1 h2
      simp at h1
      simp [hfg i h1]
  show H[a]? = some (vp_cell cA (n, .inr (.inr (.inr (.inr g)))))
  rw [← hcell]
  exact h
end PE
