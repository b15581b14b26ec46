/-! The rules of E. -/
section MB
variable {ε : EE} {J : JT} {mc ms cells slots pc : Nat} {ls : List (Option V0)} {st : List V0} {ws : va_W} {Q : Option Int32 → va_W → Prop}
theorem e_load {lsA : Array Slot} (hl : e_L ε J ls lsA) {a : Nat} {v : V0} (h : ls[a]? = some (some v)) : lsA[a]? = some (.val (e_vm ε v)) :=
  hl.2.2 (a, e_vm ε v) ((e_ll_mem ε ls 0 _).2 ⟨a, v, by simp, h, rfl⟩)
theorem e_store {lsA : Array Slot} {a : Nat} {v : V0} (h : lv_has lsA (jm J) ((a, e_vm ε v) :: (e_ll ε 0 ls).filter (fun q => !(q.1 == a) && !(q.1 + 1 == a && q.2.category == 2)))) : e_L ε J (ls.set a (some v)) lsA := by
  refine ⟨h.1, h.2.1, fun q hq => ?_⟩
  obtain ⟨j, w, h1, h2, h3⟩ := (e_ll_mem ε _ 0 q).1 hq
  rw [Nat.zero_add] at h1
  refine h.2.2 q ?_
  by_cases hj : a = j
  · subst hj
    have hlt : a < ls.length := by
      rcases Nat.lt_or_ge a ls.length with z | z
      · exact z
      · rw [List.getElem?_eq_none (by simpa using z)] at h2
        cases h2
    rw [List.getElem?_set_self hlt] at h2
    cases h2
    exact List.mem_cons.2 (Or.inl (by rcases q with ⟨x, y⟩; simp only [] at h1 h3; rw [h1, h3]))
  · rw [List.getElem?_set_ne hj] at h2
    refine List.mem_cons.2 (Or.inr (List.mem_filter.2 ⟨(e_ll_mem ε ls 0 q).2 ⟨j, w, by omega, h2, h3⟩, ?_⟩))
    have h5 : (q.1 == a) = false := by
      rw [h1]
      simpa using fun z => hj z.symm
    have h6 : (q.2.category == 2) = false := by
      rw [h3, e_vm_cat]
      rfl
    simp [h5, h6]
theorem e_ptr {i k : Nat} (h : Nat.beq k 98 = false) : ∃ a, e_vm ε (.inr (i, k)) = .ref a := by
  cases h9 : Nat.beq k 99 with
  | true => exact ⟨i, by simp [e_vm, h, h9]⟩
  | false => exact ⟨ε.2.2.2.2.1 i k, by simp [e_vm, h, h9]⟩
theorem e_fin {a : Nat} (h : a < 4) : ((Fin.ofNat 4 a : Fin 4) : Nat) = a := by
  show a % 4 = a
  omega
theorem e_ofInt (v : Int32) : Int32.ofInt v.toInt = v := by simp
/-- the instructions that touch neither the heap nor another method -/
def stp (o a : Nat) (v : Int32) (ls : List (Option V0)) (st : List V0) : Option (List (Option V0) × List V0) := match o with
  | 1 => some (ls, .inl v :: st)
  | 2 => match ls[a]? with
    | some (some (.inl x)) => some (ls, .inl x :: st)
    | _ => none
  | 3 => match ls[a]? with
    | some (some (.inr (i, k))) => bif Nat.beq k 98 then none else some (ls, .inr (i, k) :: st)
    | _ => none
  | 4 => match st with
    | .inl x :: t => some (ls.set a (some (.inl x)), t)
    | _ => none
  | 5 => match st with
    | .inr (i, k) :: t => bif Nat.beq k 98 then none else some (ls.set a (some (.inr (i, k))), t)
    | _ => none
  | 6 => match st with
    | .inl y :: .inl x :: t => some (ls, .inl (x + y) :: t)
    | _ => none
  | 7 => match st with
    | .inl y :: .inl x :: t => some (ls, .inl (x - y) :: t)
    | _ => none
  | 8 => match st with
    | .inl y :: .inl x :: t => some (ls, .inl (x * y) :: t)
    | _ => none
  | 10 => match st with
    | .inl y :: .inl x :: t => some (ls, .inl (x &&& y) :: t)
    | _ => none
  | 11 => match st with
    | .inl x :: t => some (ls, .inl ((x.toUInt32 % 65536).toInt32) :: t)
    | _ => none
  | 12 => match ls[a]? with
    | some (some (.inl x)) => some (ls.set a (some (.inl (x + v))), st)
    | _ => none
  | 13 => some (ls, st)
  | 26 => match st with
    | x :: t => some (ls, x :: x :: t)
    | _ => none
  | 27 => match st with
    | y :: x :: t => some (ls, y :: x :: y :: x :: t)
    | _ => none
  | 28 => match st with
    | _ :: t => some (ls, t)
    | _ => none
  | 55 => match st with
    | .inl y :: .inl x :: t => some (ls, .inl (x >>> (y &&& 31)) :: t)
    | _ => none
  | _ => none
set_option maxHeartbeats 4000000 in
theorem e_step {o a b nx tg : Nat} {v : Int32} {ls' : List (Option V0)} {st' : List V0} (h : lk (jt J) pc = (o, a, b, v, nx, tg)) (hs : stp o a v ls st = some (ls', st')) (k : E ε J mc ms cells slots nx ls' st' ws Q) : E ε J mc ms cells slots pc ls st ws Q := by
  intro hT p e R s m args below meth c H locs lsA C hP hD hS hl
  have h0 : o ≠ 0 := by
    intro z
    subst z
    cases hs
  have hok := e_op hT h h0
  have K := fun (lsB : Array Slot) (hl : e_L ε J ls' lsB) => k hT p e R s m args below meth c H locs lsB C hP hD hS hl
  obtain ⟨hx, hb, -⟩ := C
  unfold stp at hs
  split at hs
  · cases hs
    simp only [okOp, Bool.or_eq_true, Bool.and_eq_true, decide_eq_true_eq] at hok
    rcases hok with (hok | ⟨hok, hv⟩) | ⟨hok, hv⟩
    · obtain ⟨hd, rfl⟩ := okD_d hok
      exact lv_iconst hx hb hd (e_ofInt _) (K lsA hl)
    · obtain ⟨hd, rfl⟩ := okD_d hok
      exact lv_bipush hx hb hd hv (K lsA hl)
    · obtain ⟨hd, rfl⟩ := okD_d hok
      exact lv_sipush hx hb hd hv (K lsA hl)
  · split at hs
    · rename_i x hg
      cases hs
      simp only [okOp, Bool.or_eq_true, Bool.and_eq_true, decide_eq_true_eq] at hok
      rcases hok with hok | ⟨h4, hok⟩
      · obtain ⟨hd, rfl⟩ := okD_d hok
        exact lv_iload hx hb hd (e_load hl hg) (K lsA hl)
      · obtain ⟨hd, rfl⟩ := okD_d hok
        exact lv_iload_n hx hb hd (e_fin h4) (e_load hl hg) (K lsA hl)
    · cases hs
  · split at hs
    · rename_i i k1 hg
      cases hb98 : Nat.beq k1 98 with
      | true => rw [hb98] at hs; cases hs
      | false =>
        rw [hb98] at hs
        cases hs
        obtain ⟨ar, har⟩ := e_ptr (ε := ε) (i := i) hb98
        have hg2 := e_load hl hg
        rw [har] at hg2
        simp only [okOp, Bool.or_eq_true, Bool.and_eq_true, decide_eq_true_eq] at hok
        rcases hok with hok | ⟨h4, hok⟩
        · obtain ⟨hd, rfl⟩ := okD_d hok
          refine lv_aload hx hb hd hg2 ?_
          have KK := K lsA hl
          rw [List.map_cons, har] at KK
          exact KK
        · obtain ⟨hd, rfl⟩ := okD_d hok
          refine lv_aload_n hx hb hd (e_fin h4) hg2 ?_
          have KK := K lsA hl
          rw [List.map_cons, har] at KK
          exact KK
    · cases hs
  · split at hs
    · cases hs
      simp only [okOp, Bool.or_eq_true, Bool.and_eq_true, decide_eq_true_eq] at hok
      obtain ⟨hm, hok | ⟨h4, hok⟩⟩ := hok
      · obtain ⟨hd, rfl⟩ := okD_d hok
        exact lv_istore hx hb hd hl hm rfl (fun lsB hB => K lsB (e_store hB))
      · obtain ⟨hd, rfl⟩ := okD_d hok
        exact lv_istore_n hx hb hd (e_fin h4) hl hm rfl (fun lsB hB => K lsB (e_store hB))
    · cases hs
  · split at hs
    · rename_i i k1 t
      cases hb98 : Nat.beq k1 98 with
      | true => rw [hb98] at hs; cases hs
      | false =>
        rw [hb98] at hs
        cases hs
        obtain ⟨ar, har⟩ := e_ptr (ε := ε) (i := i) hb98
        simp only [okOp, Bool.or_eq_true, Bool.and_eq_true, decide_eq_true_eq] at hok
        obtain ⟨hm, hok⟩ := hok
        rw [List.map_cons, har]
        rcases hok with hok | ⟨h4, hok⟩
        · obtain ⟨hd, rfl⟩ := okD_d hok
          exact lv_astore hx hb hd hl hm rfl (fun lsB hB => K lsB (e_store (by rw [har]; exact hB)))
        · obtain ⟨hd, rfl⟩ := okD_d hok
          exact lv_astore_n hx hb hd (e_fin h4) hl hm rfl (fun lsB hB => K lsB (e_store (by rw [har]; exact hB)))
    · cases hs
  · split at hs
    · cases hs
      obtain ⟨hd, rfl⟩ := okD_d hok
      exact lv_iadd hx hb hd (K lsA hl)
    · cases hs
  · split at hs
    · cases hs
      obtain ⟨hd, rfl⟩ := okD_d hok
      exact lv_isub hx hb hd (K lsA hl)
    · cases hs
  · split at hs
    · cases hs
      obtain ⟨hd, rfl⟩ := okD_d hok
      exact lv_imul hx hb hd (K lsA hl)
    · cases hs
  · split at hs
    · cases hs
      obtain ⟨hd, rfl⟩ := okD_d hok
      exact lv_iand hx hb hd (K lsA hl)
    · cases hs
  · split at hs
    · cases hs
      obtain ⟨hd, rfl⟩ := okD_d hok
      exact lv_i2c hx hb hd rfl (K lsA hl)
    · cases hs
  · split at hs
    · rename_i x hg
      cases hs
      simp only [okOp, Bool.and_eq_true, decide_eq_true_eq] at hok
      obtain ⟨hm, hok⟩ := hok
      obtain ⟨hd, rfl⟩ := okD_d hok
      obtain ⟨j9, hj9⟩ := List.getElem?_of_mem ((e_ll_mem ε ls 0 (a, .int x)).2 ⟨a, .inl x, by simp, hg, rfl⟩)
      exact lv_iinc hx hb hd hl hj9 (by rw [e_ofInt]) hm rfl (fun lsB hB => K lsB (e_store hB))
    · cases hs
  · cases hs
    simp only [okOp, decide_eq_true_eq] at hok
    exact lv_goto hx hb hok (by omega) (K lsA hl)
  · split at hs
    · cases hs
      obtain ⟨hd, rfl⟩ := okD_d hok
      exact lv_dup hx hb hd (e_vm_cat ε _) (K lsA hl)
    · cases hs
  · split at hs
    · cases hs
      obtain ⟨hd, rfl⟩ := okD_d hok
      exact lv_dup2_11 hx hb hd (e_vm_cat ε _) (e_vm_cat ε _) (K lsA hl)
    · cases hs
  · split at hs
    · cases hs
      obtain ⟨hd, rfl⟩ := okD_d hok
      exact lv_pop hx hb hd (e_vm_cat ε _) (K lsA hl)
    · cases hs
  · split at hs
    · cases hs
      obtain ⟨hd, rfl⟩ := okD_d hok
      exact lv_ishr hx hb hd (K lsA hl)
    · cases hs
  · cases hs
theorem e_div {a b nx tg : Nat} {v x y : Int32} {t : List V0} (h : lk (jt J) pc = (9, a, b, v, nx, tg)) (hy : ¬ y = 0) (k : E ε J mc ms cells slots nx ls (.inl (x / y) :: t) ws Q) : E ε J mc ms cells slots pc ls (.inl y :: .inl x :: t) ws Q := by
  intro hT p e R s m args below meth c H locs lsA C hP hD hS hl
  have hok := e_op hT h (by decide)
  have K := k hT p e R s m args below meth c H locs lsA C hP hD hS hl
  obtain ⟨hx, hb, -⟩ := C
  obtain ⟨hd, rfl⟩ := okD_d hok
  exact lv_idiv hx hb hd hy K
theorem e_rem {a b nx tg : Nat} {v x y : Int32} {t : List V0} (h : lk (jt J) pc = (29, a, b, v, nx, tg)) (hy : ¬ y = 0) (k : E ε J mc ms cells slots nx ls (.inl (x - x / y * y) :: t) ws Q) : E ε J mc ms cells slots pc ls (.inl y :: .inl x :: t) ws Q := by
  intro hT p e R s m args below meth c H locs lsA C hP hD hS hl
  have hok := e_op hT h (by decide)
  have K := k hT p e R s m args below meth c H locs lsA C hP hD hS hl
  obtain ⟨hx, hb, -⟩ := C
  obtain ⟨hd, rfl⟩ := okD_d hok
  exact lv_irem hx hb hd hy K
theorem e_ldc {a b nx tg : Nat} {v : Int32} (h : lk (jt J) pc = (56, a, b, v, nx, tg)) (hw : ∀ q ∈ ([(10, 7, 2147483647)] : List (Nat × Nat × Int32)), Cond.constant (nmC q.1) q.2.1 q.2.2 ∈ Tg) (k : E ε J mc ms cells slots nx ls (.inl v :: st) ws Q) : E ε J mc ms cells slots pc ls st ws Q := by
  intro hT p e R s m args below meth c H locs lsA C hP hD hS hl
  have hok := e_op hT h (by decide)
  have K := k hT p e R s m args below meth c H locs lsA C hP hD hS hl
  obtain ⟨hx, hb, -, -, hown, hts, -⟩ := C
  simp only [okOp, Bool.and_eq_true, decide_eq_true_eq] at hok
  obtain ⟨hok, hmem⟩ := hok
  obtain ⟨hd, rfl⟩ := okD_d hok
  exact lv_ldc hx hb (own := nmC (jc J)) (by rw [hT.2.1]; exact hown) (hts _ (hw _ hmem)) hd K
/-- branches: on one number against 0, on two numbers -/
def cnd (o : Nat) (st : List V0) : Option (Prop × List V0) := match o with
  | 14 => match st with
    | .inl x :: t => some (x = 0, t)
    | _ => none
  | 15 => match st with
    | .inl x :: t => some (¬ x = 0, t)
    | _ => none
  | 16 => match st with
    | .inl x :: t => some (x < 0, t)
    | _ => none
  | 17 => match st with
    | .inl x :: t => some (0 ≤ x, t)
    | _ => none
  | 18 => match st with
    | .inl x :: t => some (0 < x, t)
    | _ => none
  | 19 => match st with
    | .inl x :: t => some (x ≤ 0, t)
    | _ => none
  | 20 => match st with
    | .inl y :: .inl x :: t => some (x = y, t)
    | _ => none
  | 21 => match st with
    | .inl y :: .inl x :: t => some (¬ x = y, t)
    | _ => none
  | 22 => match st with
    | .inl y :: .inl x :: t => some (x < y, t)
    | _ => none
  | 23 => match st with
    | .inl y :: .inl x :: t => some (y ≤ x, t)
    | _ => none
  | 24 => match st with
    | .inl y :: .inl x :: t => some (y < x, t)
    | _ => none
  | 25 => match st with
    | .inl y :: .inl x :: t => some (x ≤ y, t)
    | _ => none
  | _ => none
set_option maxHeartbeats 4000000 in
theorem e_if {o a b nx tg : Nat} {v : Int32} {P : Prop} {st' : List V0} (h : lk (jt J) pc = (o, a, b, v, nx, tg)) (hs : cnd o st = some (P, st')) (kt : P → E ε J mc ms cells slots tg ls st' ws Q) (kf : ¬ P → E ε J mc ms cells slots nx ls st' ws Q) : E ε J mc ms cells slots pc ls st ws Q := by
  intro hT p e R s m args below meth c H locs lsA C hP hD hS hl
  have h0 : o ≠ 0 := by
    intro z
    subst z
    cases hs
  have hok := e_op hT h h0
  have KT := fun z => kt z hT p e R s m args below meth c H locs lsA C hP hD hS hl
  have KF := fun z => kf z hT p e R s m args below meth c H locs lsA C hP hD hS hl
  obtain ⟨hx, hb, -⟩ := C
  have ht : (pc : Int) + ((tg : Int) - (pc : Int)) = (tg : Int) := by omega
  unfold cnd at hs
  split at hs
  · split at hs
    · cases hs
      obtain ⟨hd, rfl⟩ := okB_d hok
      exact lv_if_eq hx hb hd ht KT KF
    · cases hs
  · split at hs
    · cases hs
      obtain ⟨hd, rfl⟩ := okB_d hok
      exact lv_if_ne hx hb hd ht KT (fun z => KF (fun w => w z))
    · cases hs
  · split at hs
    · cases hs
      obtain ⟨hd, rfl⟩ := okB_d hok
      exact lv_if_lt hx hb hd ht KT KF
    · cases hs
  · split at hs
    · cases hs
      obtain ⟨hd, rfl⟩ := okB_d hok
      exact lv_if_ge hx hb hd ht KT KF
    · cases hs
  · split at hs
    · cases hs
      obtain ⟨hd, rfl⟩ := okB_d hok
      exact lv_if_gt hx hb hd ht KT KF
    · cases hs
  · split at hs
    · cases hs
      obtain ⟨hd, rfl⟩ := okB_d hok
      exact lv_if_le hx hb hd ht KT KF
    · cases hs
  · split at hs
    · cases hs
      obtain ⟨hd, rfl⟩ := okB_d hok
      exact lv_icmp_eq hx hb hd ht KT KF
    · cases hs
  · split at hs
    · cases hs
      obtain ⟨hd, rfl⟩ := okB_d hok
      exact lv_icmp_ne hx hb hd ht KT (fun z => KF (fun w => w z))
    · cases hs
  · split at hs
    · cases hs
      obtain ⟨hd, rfl⟩ := okB_d hok
      exact lv_icmp_lt hx hb hd ht KT KF
    · cases hs
  · split at hs
    · cases hs
      obtain ⟨hd, rfl⟩ := okB_d hok
      exact lv_icmp_ge hx hb hd ht KT KF
    · cases hs
  · split at hs
    · cases hs
      obtain ⟨hd, rfl⟩ := okB_d hok
      exact lv_icmp_gt hx hb hd ht KT KF
    · cases hs
  · split at hs
    · cases hs
      obtain ⟨hd, rfl⟩ := okB_d hok
      exact lv_icmp_le hx hb hd ht KT KF
    · cases hs
  · cases hs
end MB
