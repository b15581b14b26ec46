/-! The reference's private methods, as functions of its row r, text t, order o and numbers x. -/
section MH
variable {ε : EE} {J : JT} {pc : Nat} {ls : List (Option V0)} {st : List V0} {G : GG} {r t o x : Nat → Int32} {Q : Option Int32 → GG → Prop}
def mG (G : GG) (r t o x : Nat → Int32) : GG := setA (setA (setA (setA G 0 51 r) 0 52 t) 0 53 o) 0 50 x
theorem setA_eq (G : GG) {i kk : Nat} {g g' : Nat → Int32} (h : g = g') : setA G i kk g = setA G i kk g' := by rw [h]
theorem setA_twice (G : GG) (i kk : Nat) (g g' : Nat → Int32) : setA (setA G i kk g) i kk g' = setA G i kk g' := by
  funext a b
  simp only [setA]
  split <;> rfl
theorem setA_comm (G : GG) (i kk i2 kk2 : Nat) (g g' : Nat → Int32) (h : kk ≠ kk2) : setA (setA G i kk g) i2 kk2 g' = setA (setA G i2 kk2 g') i kk g := by
  funext a b
  simp only [setA]
  by_cases h1 : a = i2 ∧ b = kk2
  · rw [if_pos h1, if_neg (fun z => h (by omega)), if_pos h1]
  · rw [if_neg h1]
    by_cases h2 : a = i ∧ b = kk
    · rw [if_pos h2, if_pos h2]
    · rw [if_neg h2, if_neg h2, if_neg h1]
theorem mG_self (G : GG) : mG G (G 0 51) (G 0 52) (G 0 53) (G 0 50) = G := by
  funext a b
  simp only [mG, setA]
  repeat' split
  all_goals (try rename_i h; try obtain ⟨rfl, rfl⟩ := h)
  all_goals rfl
theorem mG_w51 (j : Nat) (v : Int32) : wr (mG G r t o x) 0 51 j v = mG G (upd r j v) t o x := by
  show setA _ 0 51 (upd r j v) = _
  unfold mG
  rw [setA_comm _ 0 50 0 51 _ _ (by decide), setA_comm _ 0 53 0 51 _ _ (by decide), setA_comm _ 0 52 0 51 _ _ (by decide), setA_twice]
theorem mG_w52 (j : Nat) (v : Int32) : wr (mG G r t o x) 0 52 j v = mG G r (upd t j v) o x := by
  show setA _ 0 52 (upd t j v) = _
  unfold mG
  rw [setA_comm _ 0 50 0 52 _ _ (by decide), setA_comm _ 0 53 0 52 _ _ (by decide), setA_twice]
theorem mG_w53 (j : Nat) (v : Int32) : wr (mG G r t o x) 0 53 j v = mG G r t (upd o j v) x := by
  show setA _ 0 53 (upd o j v) = _
  unfold mG
  rw [setA_comm _ 0 50 0 53 _ _ (by decide), setA_twice]
theorem mG_w50 (j : Nat) (v : Int32) : wr (mG G r t o x) 0 50 j v = mG G r t o (upd x j v) := by
  show setA _ 0 50 (upd x j v) = _
  unfold mG
  rw [setA_twice]
theorem e2m_get {kf nx idx : Nat} {v : Int32} {w : V0} (h : lk (jt J) pc = (30, kf, 9, v, nx, idx)) (hw : ([.inr (0, 51), .inl (x 1), .inr (0, 52), .inl (x 3), .inl (x 4), .inl (x 5), .inr (0, 53)] : List V0)[kf]? = some w) (k : E2 ε J nx ls (w :: st) (mG G r t o x) Q) : E2 ε J pc ls (.inr (0, 50) :: st) (mG G r t o x) Q := e2_get h (by decide) rfl hw k
theorem e2m_getS {kf nx idx : Nat} {v : Int32} {w : V0} (stop : Nat) (_ : Nat.beq pc stop = false) (h : lk (jt J) pc = (30, kf, 9, v, nx, idx)) (hw : ([.inr (0, 51), .inl (x 1), .inr (0, 52), .inl (x 3), .inl (x 4), .inl (x 5), .inr (0, 53)] : List V0)[kf]? = some w) (k : E2 ε J nx ls (w :: st) (mG G r t o x) Q) : E2 ε J pc ls (.inr (0, 50) :: st) (mG G r t o x) Q := e2_get h (by decide) rfl hw k
theorem e2m_ld {a b nx idx : Nat} {v y : Int32} (j : Nat) (h : lk (jt J) pc = (32, a, b, v, nx, idx)) (hx : y = nI j) (hj : j < 21497) (k : E2 ε J nx ls (.inl (r j) :: st) (mG G r t o x) Q) : E2 ε J pc ls (.inl y :: .inr (0, 51) :: st) (mG G r t o x) Q := e2_iald j h hx (by decide) rfl hj k
theorem e2m_ldS {a b nx idx : Nat} {v y : Int32} (stop : Nat) (_ : Nat.beq pc stop = false) (j : Nat) (h : lk (jt J) pc = (32, a, b, v, nx, idx)) (hx : y = nI j) (hj : j < 21497) (k : E2 ε J nx ls (.inl (r j) :: st) (mG G r t o x) Q) : E2 ε J pc ls (.inl y :: .inr (0, 51) :: st) (mG G r t o x) Q := e2_iald j h hx (by decide) rfl hj k
theorem e2m_ldo {a b nx idx : Nat} {v y : Int32} (j : Nat) (h : lk (jt J) pc = (32, a, b, v, nx, idx)) (hx : y = nI j) (hj : j < 120) (k : E2 ε J nx ls (.inl (o j) :: st) (mG G r t o x) Q) : E2 ε J pc ls (.inl y :: .inr (0, 53) :: st) (mG G r t o x) Q := e2_iald j h hx (by decide) rfl hj k
theorem e2m_ldt {a b nx idx : Nat} {v y : Int32} (j : Nat) (h : lk (jt J) pc = (32, a, b, v, nx, idx)) (hx : y = nI j) (hj : j < 80) (k : E2 ε J nx ls (.inl (t j) :: st) (mG G r t o x) Q) : E2 ε J pc ls (.inl y :: .inr (0, 52) :: st) (mG G r t o x) Q := e2_iald j h hx (by decide) rfl hj k
theorem e2m_st {a b nx idx : Nat} {v y z : Int32} (j : Nat) (h : lk (jt J) pc = (36, a, b, v, nx, idx)) (hx : y = nI j) (hj : j < 21497) (k : E2 ε J nx ls st (mG G (upd r j z) t o x) Q) : E2 ε J pc ls (.inl z :: .inl y :: .inr (0, 51) :: st) (mG G r t o x) Q := e2_iast j h hx (by decide) rfl hj (by rw [mG_w51]; exact k)
theorem e2m_sto {a b nx idx : Nat} {v y z : Int32} (j : Nat) (h : lk (jt J) pc = (36, a, b, v, nx, idx)) (hx : y = nI j) (hj : j < 120) (k : E2 ε J nx ls st (mG G r t (upd o j z) x) Q) : E2 ε J pc ls (.inl z :: .inl y :: .inr (0, 53) :: st) (mG G r t o x) Q := e2_iast j h hx (by decide) rfl hj (by rw [mG_w53]; exact k)
theorem e2m_stt {a b nx idx : Nat} {v y z : Int32} (j : Nat) (h : lk (jt J) pc = (36, a, b, v, nx, idx)) (hx : y = nI j) (hj : j < 80) (k : E2 ε J nx ls st (mG G r (upd t j z) o x) Q) : E2 ε J pc ls (.inl z :: .inl y :: .inr (0, 52) :: st) (mG G r t o x) Q := e2_iast j h hx (by decide) rfl hj (by rw [mG_w52]; exact k)
theorem e2m_put {kf nx idx : Nat} {v y : Int32} (h : lk (jt J) pc = (31, kf, 9, v, nx, idx)) (hk : kf = 1 ∨ kf = 3 ∨ kf = 4 ∨ kf = 5) (k : E2 ε J nx ls st (mG G r t o (upd x kf y)) Q) : E2 ε J pc ls (.inl y :: .inr (0, 50) :: st) (mG G r t o x) Q := by
  rcases hk with rfl | rfl | rfl | rfl <;> exact e2_put h (by decide) rfl rfl rfl rfl rfl (by rw [mG_w50]; exact k)
/-- a method of the reference -/
def FM (ε : EE) (J : JT) (As : List V0) (G : GG) (r t o x : Nat → Int32) (v : Option Int32) (r' t' o' x' : Nat → Int32) : Prop := F2 ε J (.inr (0, 50) :: As) (mG G r t o x) v (mG G r' t' o' x')
theorem m_in (v a b : Int32) : F2 ε jX9_in [.inl v, .inl a, .inl b] G (some (bI (isInB v a b))) G := by
  refine C2.of (ls := [some (.inl v), some (.inl a), some (.inl b)]) okX9_in rfl rfl ?_
  repeat (first | refine e2_step rfl rfl ?_ | refine e2_get rfl (by first | exact hi | decide) rfl rfl ?_)
  refine e2_if rfl rfl (fun c => ?_) (fun c => ?_)
  · repeat (first | refine e2_step rfl rfl ?_ | refine e2_get rfl (by first | exact hi | decide) rfl rfl ?_)
    refine e2_zret rfl rfl rfl ⟨?_, rfl⟩
    have : isInB v a b = false := by simp [isInB, Int32.not_le.2 c]
    rw [this]; rfl
  · repeat (first | refine e2_step rfl rfl ?_ | refine e2_get rfl (by first | exact hi | decide) rfl rfl ?_)
    refine e2_if rfl rfl (fun c2 => ?_) (fun c2 => ?_)
    · repeat (first | refine e2_step rfl rfl ?_ | refine e2_get rfl (by first | exact hi | decide) rfl rfl ?_)
      refine e2_zret rfl rfl rfl ⟨?_, rfl⟩
      have : isInB v a b = false := by simp [isInB, Int32.not_le.2 c2]
      rw [this]; rfl
    · repeat (first | refine e2_step rfl rfl ?_ | refine e2_get rfl (by first | exact hi | decide) rfl rfl ?_)
      refine e2_zret rfl rfl rfl ⟨?_, rfl⟩
      have : isInB v a b = true := by simp [isInB, Int32.not_lt.1 c, Int32.not_lt.1 c2]
      rw [this]; rfl
theorem nb_bI (b : Bool) : vp_nar .boolean (bI b) = bI b := by cases b <;> rfl
theorem m_isWalk (v : Int32) : F2 ε jX9_isWalk [.inl v] G (some (bI (isInB v (nI 0) (nI 7)))) G := by
  refine C2.of (ls := [some (.inl v)]) okX9_isWalk rfl rfl ?_
  repeat (first | refine e2_step rfl rfl ?_ | refine e2_get rfl (by first | exact hi | decide) rfl rfl ?_)
  refine e2_fs (m_in v (nI 0) (nI 7)) rfl rfl ⟨rfl, rfl, rfl⟩ rfl rfl rfl ?_
  exact e2_zret rfl rfl (nb_bI _) ⟨rfl, rfl⟩
theorem m_isCarrier (v : Int32) : F2 ε jX9_isCarrier [.inl v] G (some (bI (isInB v (nI 0) (nI 5)))) G := by
  refine C2.of (ls := [some (.inl v)]) okX9_isCarrier rfl rfl ?_
  repeat (first | refine e2_step rfl rfl ?_ | refine e2_get rfl (by first | exact hi | decide) rfl rfl ?_)
  refine e2_fs (m_in v (nI 0) (nI 5)) rfl rfl ⟨rfl, rfl, rfl⟩ rfl rfl rfl ?_
  exact e2_zret rfl rfl (nb_bI _) ⟨rfl, rfl⟩
def ofr (r : Nat → Int32) (l k : Nat) : Int32 := r (101 + 7 * l + k)
def seto (r : Nat → Int32) (l k : Nat) (v : Int32) : Nat → Int32 := upd r (101 + 7 * l + k) v
def putsr (r : Nat → Int32) (l : Nat) (p w : Int32) : Nat → Int32 := seto (seto r l 3 p) l 4 w
theorem m_of {l k : Nat} (hl : l < 120) (hk : k < 7) : FM ε jX9_of [.inl (nI l), .inl (nI k)] G r t o x (some (ofr r l k)) r t o x := by
  refine C2.of (ls := [some (.inr (0, 50)), some (.inl (nI l)), some (.inl (nI k))]) okX9_of rfl rfl ?_
  repeat (first | refine e2_step rfl rfl ?_ | refine e2m_get rfl rfl ?_ | refine e2m_ld _ rfl rfl (by omega) ?_)
  refine e2m_ld (101 + 7 * l + k) rfl (by rw [pk_mul, nI_add', nI_add']) (by omega) ?_
  exact e2_iret rfl rfl ⟨rfl, rfl⟩
theorem m_set {l k : Nat} (hl : l < 120) (hk : k < 7) (v : Int32) : FM ε jX9_set [.inl (nI l), .inl (nI k), .inl v] G r t o x none (seto r l k v) t o x := by
  refine C2.of (ls := [some (.inr (0, 50)), some (.inl (nI l)), some (.inl (nI k)), some (.inl v)]) okX9_set rfl rfl ?_
  repeat (first | refine e2_step rfl rfl ?_ | refine e2m_get rfl rfl ?_ | refine e2m_ld _ rfl rfl (by omega) ?_)
  refine e2m_st (101 + 7 * l + k) rfl (by rw [pk_mul, nI_add', nI_add']) (by omega) ?_
  exact e2_vret rfl rfl ⟨rfl, rfl⟩
theorem m_puts {l : Nat} (hl : l < 120) (p w : Int32) : FM ε jX9_puts [.inl (nI l), .inl p, .inl w] G r t o x none (putsr r l p w) t o x := by
  refine C2.of (ls := [some (.inr (0, 50)), some (.inl (nI l)), some (.inl p), some (.inl w)]) okX9_puts rfl rfl ?_
  repeat (first | refine e2_step rfl rfl ?_ | refine e2m_get rfl rfl ?_ | refine e2m_ld _ rfl rfl (by omega) ?_)
  refine e2_fv (m_set hl (k := 3) (by decide) p) rfl rfl ⟨rfl, rfl, rfl⟩ rfl rfl rfl (by first | exact hi | decide) rfl rfl rfl ?_
  repeat (first | refine e2_step rfl rfl ?_ | refine e2m_get rfl rfl ?_ | refine e2m_ld _ rfl rfl (by omega) ?_)
  refine e2_fv (m_set hl (k := 4) (by decide) w) rfl rfl ⟨rfl, rfl, rfl⟩ rfl rfl rfl (by first | exact hi | decide) rfl rfl rfl ?_
  exact e2_vret rfl rfl ⟨rfl, rfl⟩
theorem m_walkOf {l c : Nat} (hl : l < 120) (hc : c < 100) (h : ofr r l 0 = nI c) : FM ε jX9_walkOf [.inl (nI l)] G r t o x (some (r c)) r t o x := by
  refine C2.of (ls := [some (.inr (0, 50)), some (.inl (nI l))]) okX9_walkOf rfl rfl ?_
  repeat (first | refine e2_step rfl rfl ?_ | refine e2m_get rfl rfl ?_ | refine e2m_ld _ rfl rfl (by omega) ?_)
  refine e2_fi (m_of hl (k := 0) (by decide)) rfl rfl ⟨rfl, rfl, rfl⟩ rfl rfl rfl (by first | exact hi | decide) rfl rfl rfl ?_
  refine e2m_ld c rfl h (by omega) ?_
  exact e2_iret rfl rfl ⟨rfl, rfl⟩
def atr (r : Nat → Int32) (p w : Int32) (l : Nat) : Bool := decide (ofr r l 3 = p) && decide (ofr r l 4 = w)
theorem m_isAt {l : Nat} (hl : l < 120) (p w : Int32) : FM ε jX9_isAt [.inl (nI l), .inl p, .inl w] G r t o x (some (bI (atr r p w l))) r t o x := by
  refine C2.of (ls := [some (.inr (0, 50)), some (.inl (nI l)), some (.inl p), some (.inl w)]) okX9_isAt rfl rfl ?_
  repeat (first | refine e2_step rfl rfl ?_ | refine e2m_get rfl rfl ?_ | refine e2m_ld _ rfl rfl (by omega) ?_)
  refine e2_fi (m_of hl (k := 3) (by decide)) rfl rfl ⟨rfl, rfl, rfl⟩ rfl rfl rfl (by first | exact hi | decide) rfl rfl rfl ?_
  repeat (first | refine e2_step rfl rfl ?_ | refine e2m_get rfl rfl ?_ | refine e2m_ld _ rfl rfl (by omega) ?_)
  refine e2_if rfl rfl (fun c => ?_) (fun c => ?_)
  · repeat (first | refine e2_step rfl rfl ?_ | refine e2m_get rfl rfl ?_ | refine e2m_ld _ rfl rfl (by omega) ?_)
    refine e2_zret rfl rfl rfl ⟨?_, rfl⟩
    simp [atr, c]; rfl
  · repeat (first | refine e2_step rfl rfl ?_ | refine e2m_get rfl rfl ?_ | refine e2m_ld _ rfl rfl (by omega) ?_)
    refine e2_fi (m_of hl (k := 4) (by decide)) rfl rfl ⟨rfl, rfl, rfl⟩ rfl rfl rfl (by first | exact hi | decide) rfl rfl rfl ?_
    repeat (first | refine e2_step rfl rfl ?_ | refine e2m_get rfl rfl ?_ | refine e2m_ld _ rfl rfl (by omega) ?_)
    refine e2_if rfl rfl (fun c2 => ?_) (fun c2 => ?_)
    · repeat (first | refine e2_step rfl rfl ?_ | refine e2m_get rfl rfl ?_ | refine e2m_ld _ rfl rfl (by omega) ?_)
      refine e2_zret rfl rfl rfl ⟨?_, rfl⟩
      simp [atr, c2]; rfl
    · repeat (first | refine e2_step rfl rfl ?_ | refine e2m_get rfl rfl ?_ | refine e2m_ld _ rfl rfl (by omega) ?_)
      refine e2_zret rfl rfl rfl ⟨?_, rfl⟩
      simp [atr, Classical.not_not.1 c, Classical.not_not.1 c2]; rfl
end MH
