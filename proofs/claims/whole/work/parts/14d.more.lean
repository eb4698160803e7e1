theorem sv_idivx {m pc : Nat} {ls : jm_L} {st : List Value} {σ : jm_S} {mt : jm_M} {x y : Int32} (hm : jm_mt[m]? = some mt) (hc : jm_code m pc = some (.idiv, 1)) (hl : Nat.beq ls.length mt.2.2.2.1 = true) : jv m pc ls (.int y :: .int x :: st) σ = if y = 0 then none else jv m (pc + 1) ls (.int (x / y) :: st) σ := by
  rw [jv_k hm hc hl]; simp only [jm_do, jm_2]; split <;> rfl
