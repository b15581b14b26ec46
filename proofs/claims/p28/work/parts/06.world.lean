/-! The world of this claim as numbers: G i k s is place s of part k of object i. Parts: 0..17 an office (i < 19: now 0, its slots 1, 2; moment j: 3j, 3j+1, 3j+2; trial 18): 0 Office, 1 Ranges, 2 its row, 3 Letters, 4..11 its rows, 12 Carriers, 13..16 its rows, 17 holes; 20..22 a moment (i < 6); 30 WalkFrames, 31 History, 32 its row, 33 RangeText, 34..37 its rows, 40 Line, 41 its row. -/
section ME
abbrev GG : Type := Nat → Nat → Nat → Int32
def objV (i kk : Nat) (g : Nat → Int32) : Option (Nat × List V0) := match kk with
  | 0 => some (5, [.inr (i, 1), .inr (i, 3), .inr (i, 12), .inr (i, 17), .inl (g 4), .inl (g 5), .inl (g 6), .inl (g 7)])
  | 1 => some (7, [.inr (i, 2)])
  | 3 => some (2, [.inr (i, 4), .inr (i, 5), .inr (i, 6), .inr (i, 7), .inr (i, 8), .inr (i, 9), .inr (i, 10), .inr (i, 11), .inl (g 8)])
  | 12 => some (0, [.inr (i, 13), .inr (i, 14), .inr (i, 15), .inr (i, 16)])
  | 20 => some (4, [.inr (3 * i, 0), .inr (i, 21), .inr (i, 22)])
  | 30 => some (8, [.inr (0, 20), .inr (0, 31), .inr (0, 33), .inr (18, 0), .inr (0, 40)])
  | 31 => some (1, [.inr (0, 32), .inl (g 1)])
  | 33 => some (6, [.inr (0, 34), .inl (g 1), .inr (0, 35), .inr (0, 36), .inr (0, 37), .inl (g 5), .inl (g 6), .inl (g 7)])
  | 40 => some (3, [.inr (0, 41), .inl (g 1)])
  | _ => none
/-- rows of numbers: the kind (0 int, 1 boolean, 2 char) and the length -/
def arrI (kk : Nat) : Option (Nat × Nat) := match kk with
  | 2 => some (0, 100)
  | 4 => some (0, 120) | 5 => some (0, 120) | 6 => some (0, 120) | 7 => some (0, 120) | 8 => some (0, 120) | 9 => some (0, 120) | 10 => some (0, 120)
  | 11 => some (0, 8) | 13 => some (0, 6) | 14 => some (1, 6) | 15 => some (0, 6) | 16 => some (0, 48) | 17 => some (0, 8)
  | 22 => some (1, 2) | 34 => some (2, 80) | 35 => some (0, 14) | 36 => some (0, 14) | 37 => some (0, 14) | 41 => some (0, 120)
  | _ => none
def cellE (ε : EE) (i kk : Nat) (g : Nat → Int32) : va_E := match objV i kk g with
  | some (t, fs) => .inr (t, fs.map (e_vm ε))
  | none => match arrI kk with
    | some (t, n) => .inl (ε.2.2.1 t, n, .inl g)
    | none => if kk = 21 then .inl (ε.2.2.1 3, 2, .inr (.inr (.inr (.inr (fun s => some (ε.2.2.2.2.1 (3 * i + 1 + s) 0)))))) else .inl (ε.2.2.1 4, 5, .inr (.inr (.inr (.inr (fun s => some (ε.2.2.2.2.1 (g s).toNatClampNeg 20))))))
def lim (kk : Nat) : Nat := if kk < 18 then 19 else match kk with
  | 20 => 6 | 21 => 6 | 22 => 6
  | 30 => 1 | 31 => 1 | 32 => 1 | 33 => 1 | 34 => 1 | 35 => 1 | 36 => 1 | 37 => 1 | 40 => 1 | 41 => 1
  | _ => 0
def vals : List (Nat × Nat) := (List.range 19).flatMap (fun i => (List.range 18).map (fun k => (i, k))) ++ ((List.range 6).flatMap (fun j => [(j, 20), (j, 21), (j, 22)]) ++ [(0, 30), (0, 31), (0, 32), (0, 33), (0, 34), (0, 35), (0, 36), (0, 37), (0, 40), (0, 41)])
theorem lim_le {i kk : Nat} (h : i < lim kk) : kk < 42 ∧ i < 19 := by
  unfold lim at h
  split at h
  · omega
  · split at h <;> omega
set_option maxRecDepth 100000 in
theorem vals_inb : (List.range 42).all (fun kk => (List.range 19).all (fun i => !(decide (i < lim kk)) || decide ((i, kk) ∈ vals))) = true := by decide +kernel
theorem vals_in (kk : Nat) (h1 : kk < 42) (i : Nat) (h2 : i < 19) (h : i < lim kk) : (i, kk) ∈ vals := by
  have h3 := List.all_eq_true.mp (List.all_eq_true.mp vals_inb kk (List.mem_range.2 h1)) i (List.mem_range.2 h2)
  rw [Bool.or_eq_true] at h3
  rcases h3 with h3 | h3
  · simp [h] at h3
  · exact of_decide_eq_true h3
set_option maxRecDepth 100000 in
theorem vals_nd : vals.Nodup := by decide +kernel
def wd (ε : EE) (G : GG) : va_W := vals.map (fun q => (ε.2.2.2.2.1 q.1 q.2, cellE ε q.1 q.2 (G q.1 q.2))) ++ ε.2.2.2.2.2
theorem wd_at (ε : EE) (G : GG) {i kk : Nat} (h : i < lim kk) : ∃ q0 : Nat, vals[q0]? = some (i, kk) ∧ (wd ε G)[q0]? = some (ε.2.2.2.2.1 i kk, cellE ε i kk (G i kk)) := by
  obtain ⟨h1, h2⟩ := lim_le h
  obtain ⟨q0, hq⟩ := List.getElem?_of_mem (vals_in kk h1 i h2 h)
  refine ⟨q0, hq, ?_⟩
  unfold wd
  rw [List.getElem?_append_left (by rw [List.length_map]; exact (List.getElem?_eq_some_iff.mp hq).1), List.getElem?_map, hq]
  rfl
def setA (G : GG) (i kk : Nat) (g : Nat → Int32) : GG := fun i' kk' => if i' = i ∧ kk' = kk then g else G i' kk'
def wr (G : GG) (i kk j : Nat) (x : Int32) : GG := setA G i kk (upd (G i kk) j x)
theorem setA_s (G : GG) (i kk : Nat) (g : Nat → Int32) : setA G i kk g i kk = g := by simp [setA]
theorem setA_k (G : GG) (i kk i' kk' : Nat) (g : Nat → Int32) (h : kk' ≠ kk) : setA G i kk g i' kk' = G i' kk' := by simp [setA, h]
theorem setA_i (G : GG) (i kk i' kk' : Nat) (g : Nat → Int32) (h : i' ≠ i) : setA G i kk g i' kk' = G i' kk' := by simp [setA, h]
theorem wd_set_aux {β : Type} (F : Nat × Nat → (Nat → Int32) → β) (G : GG) {i kk : Nat} (g : Nat → Int32) : ∀ (vs : List (Nat × Nat)) (q0 : Nat), vs.Nodup → vs[q0]? = some (i, kk) → (vs.map (fun q => F q (G q.1 q.2))).set q0 (F (i, kk) g) = vs.map (fun q => F q (setA G i kk g q.1 q.2))
  | [], q0, _, h => by simp at h
  | x :: t, 0, hn, h => by
    have hx : x = (i, kk) := by simpa using h
    subst hx
    have hnt : (i, kk) ∉ t := (List.nodup_cons.1 hn).1
    rw [List.map_cons, List.map_cons, List.set_cons_zero, setA_s]
    congr 1
    apply List.map_congr_left
    intro q hq
    have hne : ¬ (q.1 = i ∧ q.2 = kk) := by
      intro ⟨z1, z2⟩
      have hq2 : q = (i, kk) := by rcases q with ⟨a, b⟩; simp only [] at z1 z2; rw [z1, z2]
      exact hnt (hq2 ▸ hq)
    simp [setA, hne]
  | x :: t, q0 + 1, hn, h => by
    have ht : t[q0]? = some (i, kk) := by simpa using h
    have hnt := List.nodup_cons.1 hn
    have hne : ¬ (x.1 = i ∧ x.2 = kk) := by
      intro ⟨z1, z2⟩
      have hx : x = (i, kk) := by rcases x with ⟨a, b⟩; simp only [] at z1 z2; rw [z1, z2]
      exact hnt.1 (hx ▸ List.mem_of_getElem? ht)
    rw [List.map_cons, List.map_cons, List.set_cons_succ, wd_set_aux F G g t q0 hnt.2 ht]
    congr 1
    simp [setA, hne]
theorem wd_set (ε : EE) (G : GG) {i kk q0 : Nat} (g : Nat → Int32) (h : vals[q0]? = some (i, kk)) : (wd ε G).set q0 (ε.2.2.2.2.1 i kk, cellE ε i kk g) = wd ε (setA G i kk g) := by
  have h2 := wd_set_aux (fun q g => (ε.2.2.2.2.1 q.1 q.2, cellE ε q.1 q.2 g)) G g vals q0 vals_nd h
  unfold wd
  rw [List.set_append_left _ _ (by rw [List.length_map]; exact (List.getElem?_eq_some_iff.mp h).1), ← h2]
theorem e_vm_val (ε : EE) {i kk : Nat} (h : i < lim kk) : e_vm ε (.inr (i, kk)) = .ref (ε.2.2.2.2.1 i kk) := by
  have h1 := (lim_le h).1
  have a : Nat.beq kk 98 = false := by
    cases hb : Nat.beq kk 98 with
    | false => rfl
    | true => have := Nat.eq_of_beq_eq_true hb; omega
  have b : Nat.beq kk 99 = false := by
    cases hb : Nat.beq kk 99 with
    | false => rfl
    | true => have := Nat.eq_of_beq_eq_true hb; omega
  simp [e_vm, a, b]
theorem cellE_obj (ε : EE) {i kk t : Nat} {g : Nat → Int32} {fs : List V0} (h : objV i kk g = some (t, fs)) : cellE ε i kk g = .inr (t, fs.map (e_vm ε)) := by unfold cellE; rw [h]
theorem arrI_obj {kk t n : Nat} (h : arrI kk = some (t, n)) (i : Nat) (g : Nat → Int32) : objV i kk g = none ∧ n < 2 ^ 31 := by
  unfold arrI at h
  split at h <;> first | (cases h; done) | (cases h; exact ⟨rfl, by decide⟩)
theorem cellE_arr (ε : EE) {i kk t n : Nat} {g : Nat → Int32} (h : arrI kk = some (t, n)) : cellE ε i kk g = .inl (ε.2.2.1 t, n, .inl g) := by
  unfold cellE
  rw [(arrI_obj h i g).1, h]
end ME
section MF
variable {ε : EE} {J : JT} {pc : Nat} {ls : List (Option V0)} {st : List V0} {G : GG} {Q : Option Int32 → GG → Prop}
def E2 (ε : EE) (J : JT) (pc : Nat) (ls : List (Option V0)) (st : List V0) (G : GG) (Q : Option Int32 → GG → Prop) : Prop := E ε J 0 0 0 0 pc ls st (wd ε G) (fun v ws' => ∃ G', ws' = wd ε G' ∧ Q v G')
def C2 (ε : EE) (J : JT) (As : List V0) (G : GG) (Q : Option Int32 → GG → Prop) : Prop := e_Ct ε J 0 0 As (wd ε G) (fun v ws' => ∃ G', ws' = wd ε G' ∧ Q v G')
theorem C2.of {As : List V0} {ls : List (Option V0)} (hT : e_T J) (hls : e_in As (jm J) = ls) (hlen : Nat.ble As.length (jm J) = true) (h : E2 ε J 0 ls [] G Q) : C2 ε J As G Q := by
  subst hls
  exact e_met hT (Nat.le_of_ble_eq_true hlen) h
theorem e2_step {o a b nx tg : Nat} {v : Int32} {ls' : List (Option V0)} {st' : List V0} (h : lk (jt J) pc = (o, a, b, v, nx, tg)) (hs : stp o a v ls st = some (ls', st')) (k : E2 ε J nx ls' st' G Q) : E2 ε J pc ls st G Q := e_step h hs k
theorem e2_div {a b nx tg : Nat} {v x y : Int32} {t : List V0} (h : lk (jt J) pc = (9, a, b, v, nx, tg)) (hy : ¬ y = 0) (k : E2 ε J nx ls (.inl (x / y) :: t) G Q) : E2 ε J pc ls (.inl y :: .inl x :: t) G Q := e_div h hy k
theorem e2_if {o a b nx tg : Nat} {v : Int32} {P : Prop} {st' : List V0} (h : lk (jt J) pc = (o, a, b, v, nx, tg)) (hs : cnd o st = some (P, st')) (kt : P → E2 ε J tg ls st' G Q) (kf : ¬ P → E2 ε J nx ls st' G Q) : E2 ε J pc ls st G Q := e_if h hs kt kf
theorem e2_get {kf t nx idx i kk : Nat} {v : Int32} {fs : List V0} {w : V0} (h : lk (jt J) pc = (30, kf, t, v, nx, idx)) (hv : i < lim kk) (ho : objV i kk (G i kk) = some (t, fs)) (hw : fs[kf]? = some w) (k : E2 ε J nx ls (w :: st) G Q) : E2 ε J pc ls (.inr (i, kk) :: st) G Q := by
  obtain ⟨q0, h1, h2⟩ := wd_at ε G hv
  rw [cellE_obj ε ho] at h2
  exact e_get h (e_vm_val ε hv) h2 (by rw [List.getElem?_map, hw]; rfl) k
theorem e2_put {kf t nx idx i kk : Nat} {v x : Int32} {fs : List V0} (h : lk (jt J) pc = (31, kf, t, v, nx, idx)) (hv : i < lim kk) (ho : objV i kk (G i kk) = some (t, fs)) (ho2 : objV i kk (upd (G i kk) kf x) = some (t, fs.set kf (.inl x))) (hfin : (tbC t kf).2.2.2 = false) (hty : tyC t kf = .int) (hl0 : Nat.ble (kf + 1) fs.length = true) (k : E2 ε J nx ls st (wr G i kk kf x) Q) : E2 ε J pc ls (.inl x :: .inr (i, kk) :: st) G Q := by
  obtain ⟨q0, h1, h2⟩ := wd_at ε G hv
  rw [cellE_obj ε ho] at h2
  refine e_put h (e_vm_val ε hv) h2 hfin (by rw [hty]; rfl) (by rw [hty]; rfl) (by rw [List.length_map]; exact Nat.le_of_ble_eq_true hl0) ?_
  have h5 := wd_set ε G (upd (G i kk) kf x) h1
  rw [cellE_obj ε ho2, List.map_set] at h5
  rw [h5]
  exact k
theorem e2_putz {kf t nx idx i kk : Nat} {v x : Int32} {fs : List V0} (h : lk (jt J) pc = (31, kf, t, v, nx, idx)) (hv : i < lim kk) (ho : objV i kk (G i kk) = some (t, fs)) (ho2 : objV i kk (upd (G i kk) kf x) = some (t, fs.set kf (.inl x))) (hfin : (tbC t kf).2.2.2 = false) (hty : tyC t kf = .boolean) (hx : x = 0 ∨ x = 1) (hl0 : Nat.ble (kf + 1) fs.length = true) (k : E2 ε J nx ls st (wr G i kk kf x) Q) : E2 ε J pc ls (.inl x :: .inr (i, kk) :: st) G Q := by
  obtain ⟨q0, h1, h2⟩ := wd_at ε G hv
  rw [cellE_obj ε ho] at h2
  refine e_put h (e_vm_val ε hv) h2 hfin (by rw [hty]; rcases hx with rfl | rfl <;> rfl) (by rw [hty]; rcases hx with rfl | rfl <;> rfl) (by rw [List.length_map]; exact Nat.le_of_ble_eq_true hl0) ?_
  have h5 := wd_set ε G (upd (G i kk) kf x) h1
  rw [cellE_obj ε ho2, List.map_set] at h5
  rw [h5]
  exact k
theorem e2_iald {o a b nx i kk n : Nat} {v x : Int32} (j : Nat) (h : lk (jt J) pc = (32, a, b, v, nx, o)) (hx : x = nI j) (hv : i < lim kk) (ha : arrI kk = some (0, n)) (hj : j < n) (k : E2 ε J nx ls (.inl (G i kk j) :: st) G Q) : E2 ε J pc ls (.inl x :: .inr (i, kk) :: st) G Q := by
  subst hx
  obtain ⟨q0, h1, h2⟩ := wd_at ε G hv
  rw [cellE_arr ε ha] at h2
  exact e_iald h (e_vm_val ε hv) h2 hj (arrI_obj ha 0 (fun _ => 0)).2 k
theorem e2_zald {o a b nx i kk n : Nat} {v x : Int32} (j : Nat) (h : lk (jt J) pc = (33, a, b, v, nx, o)) (hx : x = nI j) (hv : i < lim kk) (ha : arrI kk = some (1, n)) (hj : j < n) (k : E2 ε J nx ls (.inl (G i kk j) :: st) G Q) : E2 ε J pc ls (.inl x :: .inr (i, kk) :: st) G Q := by
  subst hx
  obtain ⟨q0, h1, h2⟩ := wd_at ε G hv
  rw [cellE_arr ε ha] at h2
  exact e_zald h (e_vm_val ε hv) h2 hj (arrI_obj ha 0 (fun _ => 0)).2 k
theorem e2_cald {o a b nx i kk n : Nat} {v x : Int32} (j : Nat) (h : lk (jt J) pc = (34, a, b, v, nx, o)) (hx : x = nI j) (hv : i < lim kk) (ha : arrI kk = some (2, n)) (hj : j < n) (k : E2 ε J nx ls (.inl (G i kk j) :: st) G Q) : E2 ε J pc ls (.inl x :: .inr (i, kk) :: st) G Q := by
  subst hx
  obtain ⟨q0, h1, h2⟩ := wd_at ε G hv
  rw [cellE_arr ε ha] at h2
  exact e_cald h (e_vm_val ε hv) h2 hj (arrI_obj ha 0 (fun _ => 0)).2 k
theorem e2_iast {o a b nx i kk n : Nat} {v x y : Int32} (j : Nat) (h : lk (jt J) pc = (36, a, b, v, nx, o)) (hx : x = nI j) (hv : i < lim kk) (ha : arrI kk = some (0, n)) (hj : j < n) (k : E2 ε J nx ls st (wr G i kk j y) Q) : E2 ε J pc ls (.inl y :: .inl x :: .inr (i, kk) :: st) G Q := by
  subst hx
  obtain ⟨q0, h1, h2⟩ := wd_at ε G hv
  rw [cellE_arr ε ha] at h2
  refine e_iast h (e_vm_val ε hv) h2 hj (arrI_obj ha 0 (fun _ => 0)).2 ?_
  have h5 := wd_set ε G (upd (G i kk) j y) h1
  rw [cellE_arr ε ha] at h5
  rw [h5]
  exact k
theorem e2_zast {o a b nx i kk n : Nat} {v x y : Int32} (j : Nat) (h : lk (jt J) pc = (37, a, b, v, nx, o)) (hx : x = nI j) (hv : i < lim kk) (ha : arrI kk = some (1, n)) (hj : j < n) (hy : y = 0 ∨ y = 1) (k : E2 ε J nx ls st (wr G i kk j y) Q) : E2 ε J pc ls (.inl y :: .inl x :: .inr (i, kk) :: st) G Q := by
  subst hx
  obtain ⟨q0, h1, h2⟩ := wd_at ε G hv
  rw [cellE_arr ε ha] at h2
  refine e_zast h (e_vm_val ε hv) h2 hj (arrI_obj ha 0 (fun _ => 0)).2 (by rcases hy with rfl | rfl <;> rfl) ?_
  have h5 := wd_set ε G (upd (G i kk) j y) h1
  rw [cellE_arr ε ha] at h5
  rw [h5]
  exact k
theorem e2_cast {o a b nx i kk n : Nat} {v x y : Int32} (j : Nat) (h : lk (jt J) pc = (38, a, b, v, nx, o)) (hx : x = nI j) (hv : i < lim kk) (ha : arrI kk = some (2, n)) (hj : j < n) (hy : vp_nar .char y = y) (k : E2 ε J nx ls st (wr G i kk j y) Q) : E2 ε J pc ls (.inl y :: .inl x :: .inr (i, kk) :: st) G Q := by
  subst hx
  obtain ⟨q0, h1, h2⟩ := wd_at ε G hv
  rw [cellE_arr ε ha] at h2
  refine e_cast h (e_vm_val ε hv) h2 hj (arrI_obj ha 0 (fun _ => 0)).2 hy ?_
  have h5 := wd_set ε G (upd (G i kk) j y) h1
  rw [cellE_arr ε ha] at h5
  rw [h5]
  exact k
/-- a moment's slots: the office of slot j -/
theorem e2_aald21 {o a b nx i : Nat} {v x : Int32} (j : Nat) (h : lk (jt J) pc = (35, a, b, v, nx, o)) (hx : x = nI j) (hv : i < 6) (hj : j < 2) (k : E2 ε J nx ls (.inr (3 * i + 1 + j, 0) :: st) G Q) : E2 ε J pc ls (.inl x :: .inr (i, 21) :: st) G Q := by
  subst hx
  obtain ⟨q0, h1, h2⟩ := wd_at ε G (i := i) (kk := 21) hv
  exact e_aald (t0 := 3) h (e_vm_val ε (i := i) (kk := 21) hv) h2 rfl hj (by decide) rfl (e_vm_val ε (i := 3 * i + 1 + j) (kk := 0) (by show _ < 19; omega)) k
/-- the history's row: the moment at place j -/
theorem e2_aald32 {o a b nx m : Nat} {v x : Int32} (j : Nat) (h : lk (jt J) pc = (35, a, b, v, nx, o)) (hx : x = nI j) (hj : j < 5) (hm : G 0 32 j = nI m) (hm6 : m < 6) (k : E2 ε J nx ls (.inr (m, 20) :: st) G Q) : E2 ε J pc ls (.inl x :: .inr (0, 32) :: st) G Q := by
  subst hx
  obtain ⟨q0, h1, h2⟩ := wd_at ε G (i := 0) (kk := 32) (by decide)
  exact e_aald (t0 := 4) (aj := ε.2.2.2.2.1 m 20) h (e_vm_val ε (i := 0) (kk := 32) (by decide)) h2 rfl hj (by decide) (by simp only [hm]; rw [nI_clamp (by omega)]) (e_vm_val ε (i := m) (kk := 20) hm6) k
theorem e2_aast32 {o a b nx m : Nat} {v x : Int32} (j : Nat) (h : lk (jt J) pc = (39, a, b, v, nx, o)) (hx : x = nI j) (hj : j < 5) (hm6 : m < 6) (k : E2 ε J nx ls st (wr G 0 32 j (nI m)) Q) : E2 ε J pc ls (.inr (m, 20) :: .inl x :: .inr (0, 32) :: st) G Q := by
  subst hx
  obtain ⟨q0, h1, h2⟩ := wd_at ε G (i := 0) (kk := 32) (by decide)
  obtain ⟨q1, g1, g2⟩ := wd_at ε G (i := m) (kk := 20) hm6
  rw [cellE_obj ε (i := m) (kk := 20) rfl] at g2
  refine e_aast (t0 := 4) (aj := ε.2.2.2.2.1 m 20) h (e_vm_val ε (i := 0) (kk := 32) (by decide)) h2 rfl (e_vm_val ε (i := m) (kk := 20) hm6) g2 rfl hj (by decide) ?_
  have h5 := wd_set ε G (upd (G 0 32) j (nI m)) h1
  have h6 : cellE ε 0 32 (upd (G 0 32) j (nI m)) = .inl (ε.2.2.1 4, 5, .inr (.inr (.inr (.inr (va_up (fun s => some (ε.2.2.2.2.1 (G 0 32 s).toNatClampNeg 20)) j (some (ε.2.2.2.2.1 m 20))))))) := by
    have : (fun s => some (ε.2.2.2.2.1 (upd (G 0 32) j (nI m) s).toNatClampNeg 20)) = va_up (fun s => some (ε.2.2.2.2.1 (G 0 32 s).toNatClampNeg 20)) j (some (ε.2.2.2.2.1 m 20)) := by
      funext s
      by_cases hs : s = j
      · simp [upd, va_up, hs, nI_clamp (show m < 2 ^ 31 by omega)]
      · simp [upd, va_up, hs]
    rw [← this]
    rfl
  rw [h6] at h5
  rw [h5]
  exact k
theorem e2_alen {o a b nx i kk t n : Nat} {v : Int32} (h : lk (jt J) pc = (40, a, b, v, nx, o)) (hv : i < lim kk) (ha : arrI kk = some (t, n)) (ht : t < 3) (k : E2 ε J nx ls (.inl (nI n) :: st) G Q) : E2 ε J pc ls (.inr (i, kk) :: st) G Q := by
  obtain ⟨q0, h1, h2⟩ := wd_at ε G hv
  rw [cellE_arr ε ha] at h2
  rcases (show t = 0 ∨ t = 1 ∨ t = 2 by omega) with rfl | rfl | rfl
  · exact e_alen (t0 := 0) h (e_vm_val ε hv) h2 rfl k
  · exact e_alen (t0 := 1) h (e_vm_val ε hv) h2 rfl k
  · exact e_alen (t0 := 2) h (e_vm_val ε hv) h2 rfl k
theorem e2_iret {o a b nx : Nat} {v x : Int32} (h : lk (jt J) pc = (41, a, b, v, nx, o)) (hr : jr J = some .int) (hQ : Q (some x) G) : E2 ε J pc ls [.inl x] G Q := e_iret h hr (Nat.le_refl _) (Nat.le_refl _) ⟨G, rfl, hQ⟩
theorem e2_zret {o a b nx : Nat} {v x : Int32} (h : lk (jt J) pc = (41, a, b, v, nx, o)) (hr : jr J = some .boolean) (hv : vp_nar .boolean x = x) (hQ : Q (some x) G) : E2 ε J pc ls [.inl x] G Q := e_zret h hr (Nat.le_refl _) (Nat.le_refl _) hv ⟨G, rfl, hQ⟩
theorem e2_vret {o a b nx : Nat} {v : Int32} (h : lk (jt J) pc = (42, a, b, v, nx, o)) (hr : jr J = none) (hQ : Q none G) : E2 ε J pc ls [] G Q := e_vret h hr (Nat.le_refl _) (Nat.le_refl _) ⟨G, rfl, hQ⟩
/-- the callee is the method of its number, its frames and words fit -/
def e_fit (J J' : JT) : Prop := mN (jn J') = (jy J', jb J', jm J', jr J') ∧ Nat.ble (jf J' + 1) (jf J) = true ∧ Nat.ble (19 + jm J' + jo J') (jo J) = true
theorem e_fit.rm {J J' : JT} (h : e_fit J J') : jf J' + 1 ≤ jf J ∧ 8 + (jm J' + 11) + jo J' ≤ jo J := by
  have h1 := Nat.le_of_ble_eq_true h.2.1
  have h2 := Nat.le_of_ble_eq_true h.2.2
  omega
theorem e2_callVi {J' : JT} {n idx nx i kk ci : Nat} {v : Int32} {As rest : List V0} {fs : List V0} {Qc : Option Int32 → GG → Prop} {ty : FieldType} (h : lk (jt J) pc = (44, n, jn J', v, nx, idx)) (hT : e_fit J J') (hr : jr J' = some ty) (hn : As.length = n) (hst : st = As.reverse ++ .inr (i, kk) :: rest) (hrest : Nat.ble rest.length 8 = true) (hv : i < lim kk) (ho : objV i kk (G i kk) = some (ci, fs)) (hci : Nat.ble ci 8 = true) (hcn : nmC ci = (jy J').cls) (hC : C2 ε J' (.inr (i, kk) :: As) G Qc)
    (k : ∀ r G', Qc (some r) G' → E2 ε J nx ls (.inl r :: rest) G' Q) : E2 ε J pc ls st G Q := by
  obtain ⟨q0, h1, h2⟩ := wd_at ε G hv
  rw [cellE_obj ε ho] at h2
  refine e_callVi (cells := 0) (slots := 0) (mc' := 0) (ms' := 0) h hT.1 hr hT.rm hn hst (Nat.le_of_ble_eq_true hrest) (e_vm_val ε hv) h2 (Nat.lt_succ_of_le (Nat.le_of_ble_eq_true hci)) hcn hC ⟨Nat.le_refl _, Nat.le_refl _⟩ (fun r ws' z => ?_)
  obtain ⟨G', rfl, hq⟩ := z
  exact k r G' hq
theorem e2_callVv {J' : JT} {n idx nx i kk ci : Nat} {v : Int32} {As rest : List V0} {fs : List V0} {Qc : Option Int32 → GG → Prop} (h : lk (jt J) pc = (44, n, jn J', v, nx, idx)) (hT : e_fit J J') (hr : jr J' = none) (hn : As.length = n) (hst : st = As.reverse ++ .inr (i, kk) :: rest) (hrest : Nat.ble rest.length 8 = true) (hv : i < lim kk) (ho : objV i kk (G i kk) = some (ci, fs)) (hci : Nat.ble ci 8 = true) (hcn : nmC ci = (jy J').cls) (hC : C2 ε J' (.inr (i, kk) :: As) G Qc)
    (k : ∀ G', Qc none G' → E2 ε J nx ls rest G' Q) : E2 ε J pc ls st G Q := by
  obtain ⟨q0, h1, h2⟩ := wd_at ε G hv
  rw [cellE_obj ε ho] at h2
  refine e_callVv (cells := 0) (slots := 0) (mc' := 0) (ms' := 0) h hT.1 hr hT.rm hn hst (Nat.le_of_ble_eq_true hrest) (e_vm_val ε hv) h2 (Nat.lt_succ_of_le (Nat.le_of_ble_eq_true hci)) hcn hC ⟨Nat.le_refl _, Nat.le_refl _⟩ (fun ws' z => ?_)
  obtain ⟨G', rfl, hq⟩ := z
  exact k G' hq
theorem e2_callSi {J' : JT} {n idx nx : Nat} {v : Int32} {As rest : List V0} {Qc : Option Int32 → GG → Prop} {ty : FieldType} (h : lk (jt J) pc = (46, n, jn J', v, nx, idx)) (hT : e_fit J J') (hr : jr J' = some ty) (hn : As.length = n) (hst : st = As.reverse ++ rest) (hrest : Nat.ble rest.length 8 = true) (hC : C2 ε J' As G Qc)
    (k : ∀ r G', Qc (some r) G' → E2 ε J nx ls (.inl r :: rest) G' Q) : E2 ε J pc ls st G Q := by
  refine e_callSi (cells := 0) (slots := 0) (mc' := 0) (ms' := 0) h hT.1 hr hT.rm hn hst (Nat.le_of_ble_eq_true hrest) hC ⟨Nat.le_refl _, Nat.le_refl _⟩ (fun r ws' z => ?_)
  obtain ⟨G', rfl, hq⟩ := z
  exact k r G' hq
theorem e2_max {a b nx idx : Nat} {v x y : Int32} {rest : List V0} (h : lk (jt J) pc = (52, a, b, v, nx, idx)) (hrm : (Nat.ble 1 (jf J) && Nat.ble 21 (jo J)) = true) (hrest : Nat.ble rest.length 8 = true) (k : E2 ε J nx ls (.inl (if x < y then y else x) :: rest) G Q) : E2 ε J pc ls (.inl y :: .inl x :: rest) G Q := by
  rw [Bool.and_eq_true] at hrm
  exact e_max h ⟨Nat.le_of_ble_eq_true hrm.1, Nat.le_of_ble_eq_true hrm.2⟩ ⟨Nat.le_refl _, Nat.le_refl _⟩ (Nat.le_of_ble_eq_true hrest) k
theorem e2_min {a b nx idx : Nat} {v x y : Int32} {rest : List V0} (h : lk (jt J) pc = (53, a, b, v, nx, idx)) (hrm : (Nat.ble 1 (jf J) && Nat.ble 21 (jo J)) = true) (hrest : Nat.ble rest.length 8 = true) (k : E2 ε J nx ls (.inl (if y < x then y else x) :: rest) G Q) : E2 ε J pc ls (.inl y :: .inl x :: rest) G Q := by
  rw [Bool.and_eq_true] at hrm
  exact e_min h ⟨Nat.le_of_ble_eq_true hrm.1, Nat.le_of_ble_eq_true hrm.2⟩ ⟨Nat.le_refl _, Nat.le_refl _⟩ (Nat.le_of_ble_eq_true hrest) k
/-- System.arraycopy of the first n places of a row of ints -/
theorem e2_copy {a b nx idx i kk i2 n0 n1 : Nat} {v : Int32} {rest : List V0} (n : Nat) (h : lk (jt J) pc = (54, a, b, v, nx, idx)) (hv : i < lim kk) (hv2 : i2 < lim kk) (ha : arrI kk = some (0, n0)) (hn : n ≤ n0) (hrm : (Nat.ble 1 (jf J) && Nat.ble 30 (jo J)) = true) (hrest : Nat.ble rest.length 8 = true)
    (k : E2 ε J nx ls rest (setA G i2 kk (fun s => if s < n then G i kk s else G i2 kk s)) Q) : E2 ε J pc ls (.inl (nI n) :: .inl (nI 0) :: .inr (i2, kk) :: .inl (nI 0) :: .inr (i, kk) :: rest) G Q := by
  rw [Bool.and_eq_true] at hrm
  obtain ⟨q0, h1, h2⟩ := wd_at ε G hv
  obtain ⟨q1, g1, g2⟩ := wd_at ε G hv2
  rw [cellE_arr ε ha] at h2 g2
  have hb := (arrI_obj ha 0 (fun _ => 0)).2
  refine e_copy (t0 := 0) (ty := .int) h (e_vm_val ε hv) (e_vm_val ε hv2) h2 g2 rfl rfl (by omega) (by omega) hb hb (fun _ _ => rfl) ⟨Nat.le_of_ble_eq_true hrm.1, Nat.le_of_ble_eq_true hrm.2⟩ (Nat.le_of_ble_eq_true hrest) ?_
  have h5 := wd_set ε G (fun s => if s < n then G i kk s else G i2 kk s) g1
  rw [cellE_arr ε ha] at h5
  have h6 : va_cpy (G i kk) (G i2 kk) 0 0 n = fun s => if s < n then G i kk s else G i2 kk s := by
    funext s
    simp [va_cpy]
  rw [h6, h5]
  exact k
theorem e2_copyz {a b nx idx i kk i2 n0 n1 : Nat} {v : Int32} {rest : List V0} (n : Nat) (h : lk (jt J) pc = (54, a, b, v, nx, idx)) (hv : i < lim kk) (hv2 : i2 < lim kk) (ha : arrI kk = some (1, n0)) (hn : n ≤ n0) (hz : ∀ s, s < n → G i kk s = 0 ∨ G i kk s = 1) (hrm : (Nat.ble 1 (jf J) && Nat.ble 30 (jo J)) = true) (hrest : Nat.ble rest.length 8 = true)
    (k : E2 ε J nx ls rest (setA G i2 kk (fun s => if s < n then G i kk s else G i2 kk s)) Q) : E2 ε J pc ls (.inl (nI n) :: .inl (nI 0) :: .inr (i2, kk) :: .inl (nI 0) :: .inr (i, kk) :: rest) G Q := by
  rw [Bool.and_eq_true] at hrm
  obtain ⟨q0, h1, h2⟩ := wd_at ε G hv
  obtain ⟨q1, g1, g2⟩ := wd_at ε G hv2
  rw [cellE_arr ε ha] at h2 g2
  have hb := (arrI_obj ha 0 (fun _ => 0)).2
  refine e_copy (t0 := 1) (ty := .boolean) h (e_vm_val ε hv) (e_vm_val ε hv2) h2 g2 rfl rfl (by omega) (by omega) hb hb (fun s hs => by
    rw [Nat.zero_add]
    rcases hz s hs with z | z <;> rw [z] <;> rfl) ⟨Nat.le_of_ble_eq_true hrm.1, Nat.le_of_ble_eq_true hrm.2⟩ (Nat.le_of_ble_eq_true hrest) ?_
  have h5 := wd_set ε G (fun s => if s < n then G i kk s else G i2 kk s) g1
  rw [cellE_arr ε ha] at h5
  have h6 : va_cpy (G i kk) (G i2 kk) 0 0 n = fun s => if s < n then G i kk s else G i2 kk s := by
    funext s
    simp [va_cpy]
  rw [h6, h5]
  exact k
end MF
