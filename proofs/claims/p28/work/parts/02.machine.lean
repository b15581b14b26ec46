/-! A small machine over the kit's worlds: a method's instructions as a table, one judgement E from a place in it, one rule an instruction. -/
section MA
abbrev OpT : Type := Nat × Nat × Nat × Int32 × Nat × Nat
/-- a value: a number, or a pointer (i, k): part k of object i; (a, 99) the cell a itself, (_, 98) null -/
abbrev V0 : Type := Int32 ⊕ (Nat × Nat)
/-- a method: its number, name, bytes, locals, answer, frames and words below, number of its class, instructions -/
abbrev JT : Type := Nat × MethodName × ByteArray × Nat × Option FieldType × Nat × Nat × Nat × List (Nat × OpT)
def jn (J : JT) : Nat := J.1
def jy (J : JT) : MethodName := J.2.1
def jb (J : JT) : ByteArray := J.2.2.1
def jm (J : JT) : Nat := J.2.2.2.1
def jr (J : JT) : Option FieldType := J.2.2.2.2.1
def jf (J : JT) : Nat := J.2.2.2.2.2.1
def jo (J : JT) : Nat := J.2.2.2.2.2.2.1
def jc (J : JT) : Nat := J.2.2.2.2.2.2.2.1
def jt (J : JT) : List (Nat × OpT) := J.2.2.2.2.2.2.2.2
def lk : List (Nat × OpT) → Nat → OpT
  | [], _ => (0, 0, 0, 0, 0, 0)
  | q :: t, pc => bif Nat.beq q.1 pc then q.2 else lk t pc
def okD (b : ByteArray) (pc nx : Nat) (i : Instr) (n : Nat) : Bool := decide (decode b pc = .ok (i, n)) && decide (nx = pc + n)
def okB (b : ByteArray) (pc nx : Nat) (tg : Nat) (i : Int → Instr) : Bool := decide (decode b pc = .ok (i ((tg : Int) - (pc : Int)), 3)) && decide (nx = pc + 3)
def okOp (cn mL : Nat) (b : ByteArray) (pc : Nat) (q : OpT) : Bool := match q with
  | (1, _, _, v, nx, _) => okD b pc nx (.iconst v.toInt) 1 || (okD b pc nx (.bipush v.toInt) 2 && decide ((Int8.ofInt v.toInt).toInt32 = v)) || (okD b pc nx (.sipush v.toInt) 3 && decide ((Int16.ofInt v.toInt).toInt32 = v))
  | (2, a, _, _, nx, _) => okD b pc nx (.iload a) 2 || (decide (a < 4) && okD b pc nx (.iload_n (Fin.ofNat 4 a)) 1)
  | (3, a, _, _, nx, _) => okD b pc nx (.aload a) 2 || (decide (a < 4) && okD b pc nx (.aload_n (Fin.ofNat 4 a)) 1)
  | (4, a, _, _, nx, _) => decide (a < mL) && (okD b pc nx (.istore a) 2 || (decide (a < 4) && okD b pc nx (.istore_n (Fin.ofNat 4 a)) 1))
  | (5, a, _, _, nx, _) => decide (a < mL) && (okD b pc nx (.astore a) 2 || (decide (a < 4) && okD b pc nx (.astore_n (Fin.ofNat 4 a)) 1))
  | (6, _, _, _, nx, _) => okD b pc nx .iadd 1
  | (7, _, _, _, nx, _) => okD b pc nx .isub 1
  | (8, _, _, _, nx, _) => okD b pc nx .imul 1
  | (9, _, _, _, nx, _) => okD b pc nx .idiv 1
  | (10, _, _, _, nx, _) => okD b pc nx .iand 1
  | (11, _, _, _, nx, _) => okD b pc nx .i2c 1
  | (12, a, _, v, nx, _) => decide (a < mL) && okD b pc nx (.iinc a v.toInt) 3
  | (13, _, _, _, nx, _) => decide (decode b pc = .ok (.goto ((nx : Int) - (pc : Int)), 3))
  | (14, _, _, _, nx, tg) => okB b pc nx tg (.ifCond .eq)
  | (15, _, _, _, nx, tg) => okB b pc nx tg (.ifCond .ne)
  | (16, _, _, _, nx, tg) => okB b pc nx tg (.ifCond .lt)
  | (17, _, _, _, nx, tg) => okB b pc nx tg (.ifCond .ge)
  | (18, _, _, _, nx, tg) => okB b pc nx tg (.ifCond .gt)
  | (19, _, _, _, nx, tg) => okB b pc nx tg (.ifCond .le)
  | (20, _, _, _, nx, tg) => okB b pc nx tg (.if_icmp .eq)
  | (21, _, _, _, nx, tg) => okB b pc nx tg (.if_icmp .ne)
  | (22, _, _, _, nx, tg) => okB b pc nx tg (.if_icmp .lt)
  | (23, _, _, _, nx, tg) => okB b pc nx tg (.if_icmp .ge)
  | (24, _, _, _, nx, tg) => okB b pc nx tg (.if_icmp .gt)
  | (25, _, _, _, nx, tg) => okB b pc nx tg (.if_icmp .le)
  | (26, _, _, _, nx, _) => okD b pc nx .dup 1
  | (27, _, _, _, nx, _) => okD b pc nx .dup2 1
  | (28, _, _, _, nx, _) => okD b pc nx .pop 1
  | (29, _, _, _, nx, _) => okD b pc nx .irem 1
  | (55, _, _, _, nx, _) => okD b pc nx .ishr 1
  | (56, _, _, v, nx, idx) => okD b pc nx (.ldc idx) 2 && decide ((cn, idx, v) ∈ ([(10, 7, 2147483647)] : List (Nat × Nat × Int32)))
  | (30, a, t, _, nx, idx) => okD b pc nx (.getfield idx) 3 && decide ((cn, idx, t, a) ∈ flT)
  | (31, a, t, _, nx, idx) => okD b pc nx (.putfield idx) 3 && decide ((cn, idx, t, a) ∈ flT)
  | (32, _, _, _, nx, _) => okD b pc nx .iaload 1
  | (33, _, _, _, nx, _) => okD b pc nx .baload 1
  | (34, _, _, _, nx, _) => okD b pc nx .caload 1
  | (35, _, _, _, nx, _) => okD b pc nx .aaload 1
  | (36, _, _, _, nx, _) => okD b pc nx .iastore 1
  | (37, _, _, _, nx, _) => okD b pc nx .bastore 1
  | (38, _, _, _, nx, _) => okD b pc nx .castore 1
  | (39, _, _, _, nx, _) => okD b pc nx .aastore 1
  | (40, _, _, _, nx, _) => okD b pc nx .arraylength 1
  | (41, _, _, _, _, _) => decide (decode b pc = .ok (.ireturn, 1))
  | (42, _, _, _, _, _) => decide (decode b pc = .ok (.return_, 1))
  | (44, n, j, _, nx, idx) => okD b pc nx (.invokevirtual idx) 3 && decide ((44, cn, idx, j, n) ∈ clT)
  | (45, n, j, _, nx, idx) => okD b pc nx (.invokespecial idx) 3 && decide ((45, cn, idx, j, n) ∈ clT)
  | (46, n, j, _, nx, idx) => okD b pc nx (.invokestatic idx) 3 && decide ((46, cn, idx, j, n) ∈ clT)
  | (51, _, _, _, nx, idx) => okD b pc nx (.invokespecial idx) 3 && decide ((51, cn, idx) ∈ mxT)
  | (52, _, _, _, nx, idx) => okD b pc nx (.invokestatic idx) 3 && decide ((52, cn, idx) ∈ mxT)
  | (53, _, _, _, nx, idx) => okD b pc nx (.invokestatic idx) 3 && decide ((53, cn, idx) ∈ mxT)
  | (54, _, _, _, nx, idx) => okD b pc nx (.invokestatic idx) 3 && decide ((54, cn, idx) ∈ mxT)
  | _ => true
/-- the table says what the bytes say, and the method is the one of its number -/
def e_T (J : JT) : Prop := (jt J).all (fun q => okOp (jc J) (jm J) (jb J) q.1 q.2) = true ∧ (nmC (jc J) = (jy J).cls) ∧ mN (jn J) = (jy J, jb J, jm J, jr J) ∧ plainName (jy J).cls = true
theorem lk_ok {P : Nat → OpT → Bool} : ∀ (l : List (Nat × OpT)) (pc : Nat) (q : OpT), l.all (fun q => P q.1 q.2) = true → lk l pc = q → q.1 ≠ 0 → P pc q = true
  | [], pc, q, _, h, h0 => by
    subst h
    exact absurd rfl h0
  | x :: t, pc, q, ha, h, h0 => by
    simp only [List.all_cons, Bool.and_eq_true] at ha
    by_cases hx : x.1 = pc
    · have : lk (x :: t) pc = x.2 := by simp [lk, hx]
      rw [this] at h
      subst h
      rw [← hx]
      exact ha.1
    · have : lk (x :: t) pc = lk t pc := by
        have hb : Nat.beq x.1 pc = false := by
          cases hbq : Nat.beq x.1 pc with
          | false => rfl
          | true => exact absurd (Nat.eq_of_beq_eq_true hbq) hx
        simp [lk, hb]
      rw [this] at h
      exact lk_ok t pc q ha.2 h h0
theorem e_op {J : JT} (hT : e_T J) {pc o a b : Nat} {v : Int32} {nx tg : Nat} (h : lk (jt J) pc = (o, a, b, v, nx, tg)) (h0 : o ≠ 0) : okOp (jc J) (jm J) (jb J) pc (o, a, b, v, nx, tg) = true := lk_ok (P := fun x y => okOp (jc J) (jm J) (jb J) x y) _ _ _ hT.1 h h0
theorem okD_d {b : ByteArray} {pc nx : Nat} {i : Instr} {n : Nat} (h : okD b pc nx i n = true) : decode b pc = .ok (i, n) ∧ nx = pc + n := by
  simp only [okD, Bool.and_eq_true, decide_eq_true_eq] at h
  exact h
theorem okB_d {b : ByteArray} {pc nx tg : Nat} {i : Int → Instr} (h : okB b pc nx tg i = true) : decode b pc = .ok (i ((tg : Int) - (pc : Int)), 3) ∧ nx = pc + 3 := by
  simp only [okB, Bool.and_eq_true, decide_eq_true_eq] at h
  exact h
/-- the launch, the places of classes and fields, the classes of arrays, the first cell that may change, the addresses of parts, further cells beside the world -/
abbrev EE : Type := Launch × va_G × (Nat → ClassId) × Nat × (Nat → Nat → Nat) × va_W
def e_tys (ε : EE) : List (ClassId × FieldType) := [(ε.2.2.1 0, .int), (ε.2.2.1 1, .boolean), (ε.2.2.1 2, .char), (ε.2.2.1 3, .object RX5), (ε.2.2.1 4, .object RX4)]
def e_A (ε : EE) : Nat → Prop := fun q => ε.2.2.2.1 ≤ q
def e_vm (ε : EE) (v : V0) : Value := match v with
  | .inl x => .int x
  | .inr (i, k) => bif Nat.beq k 98 then .null else bif Nat.beq k 99 then .ref i else .ref (ε.2.2.2.2.1 i k)
theorem e_vm_cat (ε : EE) (v : V0) : (e_vm ε v).category = 1 := by
  rcases v with x | ⟨i, k⟩
  · rfl
  · simp only [e_vm]
    cases Nat.beq k 98 <;> cases Nat.beq k 99 <;> rfl
def e_ws (J : JT) : List Cond := Cond.code (jy J) (jb J) (jm J) (jr J) :: Tg
def e_rm (J : JT) (mc ms : Nat) : Room := { frames := jf J, cells := mc, slots := ms, locals := jo J }
/-- what holds of the classes at a state -/
def e_K (ε : EE) (U : State) : Prop := va_K ε.2.1 vwCl (e_tys ε) U ∧ ∀ w ∈ Nw, va_Nw w U
def e_W (ε : EE) (ws : va_W) (U : State) : Prop := va_P ε.2.1 vwCl ws U.heap ∧ va_D (e_A ε) ws
def e_Pc (ε : EE) (As : List V0) (ws : va_W) : Array Value → State → Prop := va_Pc (As.map (e_vm ε)) (fun U => ε.2.2.2.1 ≤ U.heap.size ∧ e_K ε U ∧ e_W ε ws U)
def e_Qc (ε : EE) (J : JT) (Q : Option Int32 → va_W → Prop) : Array Value → State → Outcome → State → Prop := match jr J with
  | none => va_Qv (Q none) (fun u t => e_W ε u t) (e_A ε)
  | some _ => va_Qi (fun r u => Q (some r) u) (fun u t => e_W ε u t) (e_A ε)
/-- a method's contract: from a world, with arguments, at most mc cells of ms slots more -/
def e_Ct (ε : EE) (J : JT) (mc ms : Nat) (As : List V0) (ws : va_W) (Q : Option Int32 → va_W → Prop) : Prop := Met ε.1 (jy J) (e_ws J) (e_rm J mc ms) (e_Pc ε As ws) (e_Qc ε J Q) mc ms (e_A ε)
def e_ll (ε : EE) : Nat → List (Option V0) → List (Nat × Value)
  | _, [] => []
  | k, none :: t => e_ll ε (k + 1) t
  | k, some v :: t => (k, e_vm ε v) :: e_ll ε (k + 1) t
theorem e_ll_mem (ε : EE) : ∀ (ls : List (Option V0)) (k : Nat) (q : Nat × Value), q ∈ e_ll ε k ls ↔ ∃ (j : Nat) (v : V0), q.1 = k + j ∧ ls[j]? = some (some v) ∧ q.2 = e_vm ε v
  | [], k, q => by simp [e_ll]
  | none :: t, k, q => by
    rw [e_ll, e_ll_mem ε t (k + 1) q]
    constructor
    · rintro ⟨j, v, h1, h2, h3⟩
      exact ⟨j + 1, v, by omega, by simpa using h2, h3⟩
    · rintro ⟨j, v, h1, h2, h3⟩
      cases j with
      | zero => simp at h2
      | succ j => exact ⟨j, v, by omega, by simpa using h2, h3⟩
  | some w :: t, k, q => by
    rw [e_ll, List.mem_cons, e_ll_mem ε t (k + 1) q]
    constructor
    · rintro (h | ⟨j, v, h1, h2, h3⟩)
      · exact ⟨0, w, by rw [h]; rfl, by simp, by rw [h]⟩
      · exact ⟨j + 1, v, by omega, by simpa using h2, h3⟩
    · rintro ⟨j, v, h1, h2, h3⟩
      cases j with
      | zero =>
        simp at h2
        subst h2
        exact Or.inl (by rcases q with ⟨a, b⟩; simp only [] at h1 h3; rw [h1, h3]; rfl)
      | succ j => exact Or.inr ⟨j, v, by omega, by simpa using h2, h3⟩
def e_L (ε : EE) (J : JT) (ls : List (Option V0)) (lsA : Array Slot) : Prop := lv_has lsA (jm J) (e_ll ε 0 ls)
/-- what holds all through a method's body -/
def e_C (ε : EE) (J : JT) (mc ms : Nat) (p : Program) (R : Room) (s : State) (m : MethodId) (args : Array Value) (meth : Method) (c : Code) : Prop :=
  p.tables.exec = Jvm.exec ∧ c.code = jb J ∧ meth.sig.returnType = jr J ∧ c.maxLocals = jm J ∧ s.vm.findClass (jy J).cls = some m.cls ∧ (∀ w ∈ Tg, w.before args s = true) ∧ meth.locks = false ∧ e_K ε s ∧ ε.2.2.2.1 ≤ s.heap.size ∧ R = e_rm J mc ms ∧ meth.name = (jy J).name
def E (ε : EE) (J : JT) (mc ms cells slots pc : Nat) (ls : List (Option V0)) (st : List V0) (ws : va_W) (Q : Option Int32 → va_W → Prop) : Prop :=
  e_T J → ∀ (p : Program) (e : Env) (R : Room) (s : State) (m : MethodId) (args : Array Value) (below : List Frame) (meth : Method) (c : Code) (H : Heap) (locs : List Loc) (lsA : Array Slot),
    e_C ε J mc ms p R s m args meth c → va_P ε.2.1 vwCl ws H → va_D (e_A ε) ws → va_S (e_A ε) s.heap H locs → e_L ε J ls lsA →
    W p ε.1 e R s m args below meth c H locs cells slots (MQ below (e_Qc ε J Q) args s mc ms (e_A ε)) (F0 m pc lsA (st.map (e_vm ε)))
end MA
