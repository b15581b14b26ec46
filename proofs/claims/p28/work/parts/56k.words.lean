/-! Words of the tables for the law's own constants. -/
theorem kc_all : ∀ q ∈ ([(10, 7, 2147483647)] : List (Nat × Nat × Int32)), Cond.constant (nmC q.1) q.2.1 q.2.2 ∈ Tg := List.forall_mem_cons.mpr ⟨tg_mem 645 (by decide +kernel) rfl, fun _ h => absurd h List.not_mem_nil⟩
theorem kl_46 : Cond.constantLong RL 46 7 ∈ Tg := tg_mem 637 (by decide +kernel) rfl
theorem kl_48 : Cond.constantLong RL 48 31 ∈ Tg := tg_mem 638 (by decide +kernel) rfl
