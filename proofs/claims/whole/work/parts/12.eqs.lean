noncomputable def jv (m pc : Nat) (ls : jm_L) (st : List Value) (σ : jm_S) : Option (Option Value × jm_S) := jm_ev0 jm_act jm_ini m (pc, ls, st, σ)
noncomputable def jc (m : Nat) (as : List Value) (σ : jm_S) : Option (Option Value × jm_S) := jv m 0 (jm_ini m as) [] σ
def jbi (o : Option (Option Value × jm_S)) (f : Int32 → jm_S → Option (Option Value × jm_S)) : Option (Option Value × jm_S) := match o with
  | some (some (.int x), τ) => f x τ
  | _ => none
def jbl (o : Option (Option Value × jm_S)) (f : Int64 → jm_S → Option (Option Value × jm_S)) : Option (Option Value × jm_S) := match o with
  | some (some (.long x), τ) => f x τ
  | _ => none
def jbv (o : Option (Option Value × jm_S)) (f : jm_S → Option (Option Value × jm_S)) : Option (Option Value × jm_S) := match o with
  | some (none, τ) => f τ
  | _ => none
def jaa (i : Int32) (ts : List Nat) (f : Nat → Option (Option Value × jm_S)) : Option (Option Value × jm_S) := if i < 0 ∨ ts.length ≤ i.toNatClampNeg then none else match ts[i.toNatClampNeg]? with
  | some q => f q
  | none => none
theorem jbi_some (x : Int32) (τ : jm_S) (f : Int32 → jm_S → Option (Option Value × jm_S)) : jbi (some (some (.int x), τ)) f = f x τ := rfl
theorem jbl_some (x : Int64) (τ : jm_S) (f : Int64 → jm_S → Option (Option Value × jm_S)) : jbl (some (some (.long x), τ)) f = f x τ := rfl
theorem jbv_some (τ : jm_S) (f : jm_S → Option (Option Value × jm_S)) : jbv (some (none, τ)) f = f τ := rfl
theorem jbi_c {o : Option (Option Value × jm_S)} {f g : Int32 → jm_S → Option (Option Value × jm_S)} (h : ∀ x τ, f x τ = g x τ) : jbi o f = jbi o g := by
  have e : f = g := funext fun x => funext fun τ => h x τ
  rw [e]
theorem jbl_c {o : Option (Option Value × jm_S)} {f g : Int64 → jm_S → Option (Option Value × jm_S)} (h : ∀ x τ, f x τ = g x τ) : jbl o f = jbl o g := by
  have e : f = g := funext fun x => funext fun τ => h x τ
  rw [e]
theorem jbv_c {o : Option (Option Value × jm_S)} {f g : jm_S → Option (Option Value × jm_S)} (h : ∀ τ, f τ = g τ) : jbv o f = jbv o g := by
  have e : f = g := funext fun τ => h τ
  rw [e]
theorem jif {P : Prop} (d : Decidable P) {β : Type} {a b a' b' : β} (h1 : a = a') (h2 : b = b') : @ite β P d a b = @ite β P d a' b' := by rw [h1, h2]
def jv_fit (ty : Option FieldType) (v : Option Value) : Prop := match ty with
  | none => v = none
  | some .int => ∃ x, v = some (.int x)
  | some .boolean => ∃ x, v = some (.int x)
  | some .long => ∃ x, v = some (.long x)
  | _ => False
theorem jm_call_nr {o z : Nat} {vir : Bool} {pc : Nat} {ls : jm_L} {st : List Value} {σ : jm_S} {r : Option Value × jm_S} : ¬ jm_call o z vir pc ls st σ = some (.inr (.inl r)) := by
  intro h
  rcases jm_call_split _ _ _ h with ⟨y', pl, hq, hb, hv, h⟩ | ⟨y', pl, my', as', rest, hq, hb, hmy', hs, hlen, hst, hcat, hoc, he⟩
  · unfold jm_nat at h
    split at h
    · obtain ⟨a1, sp, b1, dp, n1, t, rfl, h9⟩ := jm_cp_i h
      obtain ⟨n0, hw0, h9⟩ := jm_ob_i h9
      obtain ⟨n2, hw1, h9⟩ := jm_ob_i h9
      split at h9 <;> cases h9
    · obtain ⟨x, y1, t, rfl, h9⟩ := jm_2_i h
      split at h9 <;> cases h9
    · obtain ⟨x, y1, t, rfl, h9⟩ := jm_2_i h
      split at h9 <;> cases h9
    · obtain ⟨x, t, rfl, h9⟩ := jm_1_i h
      split at h9 <;> cases h9
    · obtain ⟨x, y1, t, rfl, h9⟩ := jm_l2_i h
      split at h9 <;> cases h9
    · cases h
  · cases he
theorem jm_do_fit {o : Nat} {rt : Option FieldType} {i : Instr} {n pc : Nat} {ls : jm_L} {st : List Value} {σ : jm_S} {r : Option Value × jm_S} (ha : jm_do o rt i n pc ls st σ = some (.inr (.inl r))) : jv_fit rt r.1 := by
  unfold jm_do at ha
  split at ha
  · cases ha
  · cases ha
  · cases ha
  · cases ha
  · obtain ⟨q, hq, ha⟩ := jm_ob_i ha
    cases ha
  · obtain ⟨q, hq, ha⟩ := jm_ob_i ha
    cases ha
  · obtain ⟨q, hq, ha⟩ := jm_ob_i ha
    cases ha
  · obtain ⟨x, hg, ha⟩ := jm_ld_i ha
    cases ha
  · obtain ⟨x, hg, ha⟩ := jm_ld_i ha
    cases ha
  · obtain ⟨x, hg, ha⟩ := jm_ldl_i ha
    cases ha
  · obtain ⟨x, hg, ha⟩ := jm_ldl_i ha
    cases ha
  · obtain ⟨x, hg, ha⟩ := jm_lda_i ha
    cases ha
  · obtain ⟨x, hg, ha⟩ := jm_lda_i ha
    cases ha
  · obtain ⟨x, t, rfl, hz9⟩ := jm_1_i ha
    split at hz9
    · next hz => cases hz9
    · cases hz9
  · obtain ⟨x, t, rfl, hz9⟩ := jm_1_i ha
    split at hz9
    · next hz => cases hz9
    · cases hz9
  · split at ha
    · split at ha
      · next hz => cases ha
      · cases ha
    · cases ha
  · split at ha
    · split at ha
      · next hz => cases ha
      · cases ha
    · cases ha
  · obtain ⟨x, t, rfl, hz9⟩ := jm_r1_i ha
    split at hz9
    · next hz => cases hz9
    · cases hz9
  · obtain ⟨x, t, rfl, hz9⟩ := jm_r1_i ha
    split at hz9
    · next hz => cases hz9
    · cases hz9
  · obtain ⟨x, hg, ha⟩ := jm_ld_i ha
    cases ha
  · obtain ⟨x, y, t, rfl, hz9⟩ := jm_2_i ha
    cases hz9
  · obtain ⟨x, y, t, rfl, hz9⟩ := jm_2_i ha
    cases hz9
  · obtain ⟨x, y, t, rfl, hz9⟩ := jm_2_i ha
    cases hz9
  · obtain ⟨x, y, t, rfl, hz9⟩ := jm_2_i ha
    cases hz9
  · obtain ⟨x, y, t, rfl, hz9⟩ := jm_2_i ha
    cases hz9
  · obtain ⟨x, y, t, rfl, hz9⟩ := jm_2_i ha
    split at hz9
    · cases hz9
    · next hy => cases hz9
  · obtain ⟨x, y, t, rfl, hz9⟩ := jm_2_i ha
    cases hz9
  · obtain ⟨x, y, t, rfl, hz9⟩ := jm_2_i ha
    cases hz9
  · obtain ⟨x, t, rfl, hz9⟩ := jm_1_i ha
    cases hz9
  · obtain ⟨x, y, t, rfl, hz9⟩ := jm_l2_i ha
    cases hz9
  · obtain ⟨x, y, t, rfl, hz9⟩ := jm_l2_i ha
    cases hz9
  · obtain ⟨x, y, t, rfl, hz9⟩ := jm_l2_i ha
    cases hz9
  · obtain ⟨x, y, t, rfl, hz9⟩ := jm_l2_i ha
    split at hz9
    · cases hz9
    · next hy => cases hz9
  · obtain ⟨x, y, t, rfl, hz9⟩ := jm_l2_i ha
    split at hz9
    · cases hz9
    · next hy => cases hz9
  · obtain ⟨x, y, t, rfl, hz9⟩ := jm_l2_i ha
    cases hz9
  · obtain ⟨x, t, rfl, hz9⟩ := jm_1_i ha
    cases hz9
  · obtain ⟨x, t, rfl, hz9⟩ := jm_1_i ha
    cases hz9
  · obtain ⟨x, t, rfl, hz9⟩ := jm_1_i ha
    cases hz9
  · split at ha
    · split at ha
      · next hv => cases ha
      · cases ha
    · cases ha
  · split at ha
    · split at ha
      · next hv => cases ha
      · cases ha
    · cases ha
  · split at ha
    · split at ha
      · next hv => cases ha
      · cases ha
    · cases ha
  · unfold jm_jmp at ha
    split at ha
    · next hp => cases ha
    · cases ha
  · obtain ⟨x, t, rfl, hz9⟩ := jm_1_i ha
    unfold jm_br at hz9
    split at hz9
    · split at hz9 <;> cases hz9
    · cases hz9
  · obtain ⟨x, y, t, rfl, hz9⟩ := jm_2_i ha
    unfold jm_br at hz9
    split at hz9
    · split at hz9 <;> cases hz9
    · cases hz9
  · obtain ⟨x, t, rfl, hz9⟩ := jm_1_i ha
    split at hz9
    · next ho =>
      unfold jm_jmp at hz9
      split at hz9
      · next hp => cases hz9
      · cases hz9
    · next ho =>
      obtain ⟨z, hz, hz9⟩ := jm_ob_i hz9
      unfold jm_jmp at hz9
      split at hz9
      · next hp => cases hz9
      · cases hz9
  · obtain ⟨x, t, rfl, hz9⟩ := jm_r1_i ha
    obtain ⟨q, hq, hz9⟩ := jm_ob_i hz9
    obtain ⟨v, hv, hz9⟩ := jm_ob_i hz9
    cases hz9
  · obtain ⟨x, y, t, rfl, hz9⟩ := jm_rx_i ha
    obtain ⟨q, hq, hz9⟩ := jm_ob_i hz9
    obtain ⟨v, hv, hz9⟩ := jm_ob_i hz9
    cases hz9
  · obtain ⟨q, hq, ha⟩ := jm_ob_i ha
    cases ha
  · obtain ⟨x, y, t, rfl, hz9⟩ := jm_ri_i ha
    obtain ⟨q, hq, hz9⟩ := jm_ob_i hz9
    split at hz9
    · cases hz9
    · next hj => cases hz9
  · obtain ⟨x, y, t, rfl, hz9⟩ := jm_ri_i ha
    obtain ⟨q, hq, hz9⟩ := jm_ob_i hz9
    split at hz9
    · cases hz9
    · next hj => cases hz9
  · obtain ⟨x, y, u, t, rfl, hz9⟩ := jm_rix_i ha
    obtain ⟨q, hq, hz9⟩ := jm_ob_i hz9
    split at hz9
    · cases hz9
    · next hj => cases hz9
  · obtain ⟨x, y, u, t, rfl, hz9⟩ := jm_rix_i ha
    obtain ⟨q, hq, hz9⟩ := jm_ob_i hz9
    split at hz9
    · cases hz9
    · next hj => cases hz9
  · obtain ⟨x, y, t, rfl, hz9⟩ := jm_ri_i ha
    obtain ⟨q, hq, hz9⟩ := jm_ob_i hz9
    split at hz9
    · cases hz9
    · next hj =>
      obtain ⟨r, hr, hz9⟩ := jm_ob_i hz9
      cases hz9
  · obtain ⟨x, t, rfl, hz9⟩ := jm_r1_i ha
    obtain ⟨q, hq, hz9⟩ := jm_ob_i hz9
    cases hz9
  · exact absurd ha jm_call_nr
  · exact absurd ha jm_call_nr
  · unfold jm_ret at ha
    split at ha
    · split at ha
      · cases ha; exact ⟨_, rfl⟩
      · split at ha
        · cases ha; exact ⟨_, rfl⟩
        · cases ha
      · cases ha
    · cases ha
  · unfold jm_lret at ha
    split at ha
    · split at ha
      · cases ha; exact ⟨_, rfl⟩
      · cases ha
    · cases ha
  · unfold jm_vret at ha
    split at ha
    · split at ha
      · cases ha; rfl
      · cases ha
    · cases ha
  · cases ha
/-- what a method returns is of its kind -/
theorem jm_kindF : ∀ (n m : Nat) (N : jm_N) (v : Option Value) (τ : jm_S) (mt : jm_M), jm_mt[m]? = some mt → jm_evF jm_act jm_ini n m N = some (v, τ) → jv_fit mt.2.2.2.2.1 v := by
  intro n
  induction n with
  | zero => intro m N v τ mt hm h; cases h
  | succ n ih =>
    intro m N v τ mt hm h
    rw [jm_evF] at h
    cases ha : jm_act m N with
    | none => rw [ha] at h; cases h
    | some a =>
      rw [ha] at h
      rcases a with s1 | r | ⟨y, as, k⟩
      · exact ih _ _ _ _ _ hm h
      · cases h
        obtain ⟨mt', i, k, hm', hc, hlen, hdo⟩ := jm_act_i ha
        cases hm.symm.trans hm'
        exact jm_do_fit hdo
      · dsimp only at h
        cases hcl : jm_evF jm_act jm_ini n y (0, jm_ini y as, [], k.2.2.2) with
        | none => rw [hcl] at h; cases h
        | some vt =>
          obtain ⟨v1, t1⟩ := vt
          rw [hcl] at h
          exact ih _ _ _ _ _ hm h
theorem jc_kind {m : Nat} {as : List Value} {σ τ : jm_S} {v : Option Value} {mt : jm_M} (hm : jm_mt[m]? = some mt) (h : jc m as σ = some (v, τ)) : jv_fit mt.2.2.2.2.1 v := by
  obtain ⟨n, hn⟩ := (jm_ev0_iff jm_act jm_ini).mp h
  exact jm_kindF n _ _ _ _ _ hm hn
theorem jv_k {m pc : Nat} {ls : jm_L} {st : List Value} {σ : jm_S} {mt : jm_M} {i : Instr} {n : Nat} (hm : jm_mt[m]? = some mt) (hc : jm_code m pc = some (i, n)) (hl : Nat.beq ls.length mt.2.2.2.1 = true) :
    jv m pc ls st σ = jm_k jm_ini (jm_ev0 jm_act jm_ini) m (jm_do mt.1 mt.2.2.2.2.1 i n pc ls st σ) := by
  unfold jv
  rw [jm_ev0_eq]
  have e : jm_act m (pc, ls, st, σ) = jm_do mt.1 mt.2.2.2.2.1 i n pc ls st σ := by
    unfold jm_act
    dsimp only
    rw [hm, hc]
    dsimp only
    rw [hl]
  rw [e]
section SV
variable {m pc : Nat} {ls : jm_L} {st : List Value} {σ : jm_S} {mt : jm_M}
theorem sv_iconst {z : Int} {v : Int32} (hm : jm_mt[m]? = some mt) (hc : jm_code m pc = some (.iconst z, 1)) (hl : Nat.beq ls.length mt.2.2.2.1 = true) (hv : Int32.ofInt z = v) : jv m pc ls st σ = jv m (pc + 1) ls (.int v :: st) σ := by
  subst hv; rw [jv_k hm hc hl]; rfl
theorem sv_bipush {z : Int} {v : Int32} (hm : jm_mt[m]? = some mt) (hc : jm_code m pc = some (.bipush z, 2)) (hl : Nat.beq ls.length mt.2.2.2.1 = true) (hv : (Int8.ofInt z).toInt32 = v) : jv m pc ls st σ = jv m (pc + 2) ls (.int v :: st) σ := by
  subst hv; rw [jv_k hm hc hl]; rfl
theorem sv_sipush {z : Int} {v : Int32} (hm : jm_mt[m]? = some mt) (hc : jm_code m pc = some (.sipush z, 3)) (hl : Nat.beq ls.length mt.2.2.2.1 = true) (hv : (Int16.ofInt z).toInt32 = v) : jv m pc ls st σ = jv m (pc + 3) ls (.int v :: st) σ := by
  subst hv; rw [jv_k hm hc hl]; rfl
theorem sv_lconst {z : Fin 2} {v : Int64} (hm : jm_mt[m]? = some mt) (hc : jm_code m pc = some (.lconst z, 1)) (hl : Nat.beq ls.length mt.2.2.2.1 = true) (hv : Int64.ofNat (z : Nat) = v) : jv m pc ls st σ = jv m (pc + 1) ls (.long v :: st) σ := by
  subst hv; rw [jv_k hm hc hl]; rfl
theorem sv_ldc {z pl : Nat} {v : Int32} (hm : jm_mt[m]? = some mt) (hc : jm_code m pc = some (.ldc z, 2)) (hl : Nat.beq ls.length mt.2.2.2.1 = true) (hq : jm_lk2 jm_lc mt.1 z = some (v, pl)) : jv m pc ls st σ = jv m (pc + 2) ls (.int v :: st) σ := by
  rw [jv_k hm hc hl]; simp only [jm_do, hq, jm_ob]; rfl
theorem sv_ldcw {z pl : Nat} {v : Int32} (hm : jm_mt[m]? = some mt) (hc : jm_code m pc = some (.ldc_w z, 3)) (hl : Nat.beq ls.length mt.2.2.2.1 = true) (hq : jm_lk2 jm_lc mt.1 z = some (v, pl)) : jv m pc ls st σ = jv m (pc + 3) ls (.int v :: st) σ := by
  rw [jv_k hm hc hl]; simp only [jm_do, hq, jm_ob]; rfl
theorem sv_ldc2 {z pl : Nat} {v : Int64} (hm : jm_mt[m]? = some mt) (hc : jm_code m pc = some (.ldc2_w z, 3)) (hl : Nat.beq ls.length mt.2.2.2.1 = true) (hq : jm_lk2 jm_ll mt.1 z = some (v, pl)) : jv m pc ls st σ = jv m (pc + 3) ls (.long v :: st) σ := by
  rw [jv_k hm hc hl]; simp only [jm_do, hq, jm_ob]; rfl
theorem sv_iload_n {z : Fin 4} {x : Int32} (hm : jm_mt[m]? = some mt) (hc : jm_code m pc = some (.iload_n z, 1)) (hl : Nat.beq ls.length mt.2.2.2.1 = true) (hg : jm_get ls z = some (.int x)) : jv m pc ls st σ = jv m (pc + 1) ls (.int x :: st) σ := by
  rw [jv_k hm hc hl]; simp only [jm_do, hg, jm_ld]; rfl
theorem sv_iload {z : Nat} {x : Int32} (hm : jm_mt[m]? = some mt) (hc : jm_code m pc = some (.iload z, 2)) (hl : Nat.beq ls.length mt.2.2.2.1 = true) (hg : jm_get ls z = some (.int x)) : jv m pc ls st σ = jv m (pc + 2) ls (.int x :: st) σ := by
  rw [jv_k hm hc hl]; simp only [jm_do, hg, jm_ld]; rfl
theorem sv_istore_n {z : Fin 4} {x : Int32} {ls1 : jm_L} (hm : jm_mt[m]? = some mt) (hc : jm_code m pc = some (.istore_n z, 1)) (hl : Nat.beq ls.length mt.2.2.2.1 = true) (hz : (z : Nat) < ls.length) (hs : jm_set1 ls z (.int x) = ls1) : jv m pc ls (.int x :: st) σ = jv m (pc + 1) ls1 (st) σ := by
  subst hs; rw [jv_k hm hc hl]; simp only [jm_do, jm_1, if_pos hz]; rfl
theorem sv_istore {z : Nat} {x : Int32} {ls1 : jm_L} (hm : jm_mt[m]? = some mt) (hc : jm_code m pc = some (.istore z, 2)) (hl : Nat.beq ls.length mt.2.2.2.1 = true) (hz : z < ls.length) (hs : jm_set1 ls z (.int x) = ls1) : jv m pc ls (.int x :: st) σ = jv m (pc + 2) ls1 (st) σ := by
  subst hs; rw [jv_k hm hc hl]; simp only [jm_do, jm_1, if_pos hz]; rfl
theorem sv_lload_n {z : Fin 4} {x : Int64} (hm : jm_mt[m]? = some mt) (hc : jm_code m pc = some (.lload_n z, 1)) (hl : Nat.beq ls.length mt.2.2.2.1 = true) (hg : jm_get ls z = some (.long x)) : jv m pc ls st σ = jv m (pc + 1) ls (.long x :: st) σ := by
  rw [jv_k hm hc hl]; simp only [jm_do, hg, jm_ldl]; rfl
theorem sv_lload {z : Nat} {x : Int64} (hm : jm_mt[m]? = some mt) (hc : jm_code m pc = some (.lload z, 2)) (hl : Nat.beq ls.length mt.2.2.2.1 = true) (hg : jm_get ls z = some (.long x)) : jv m pc ls st σ = jv m (pc + 2) ls (.long x :: st) σ := by
  rw [jv_k hm hc hl]; simp only [jm_do, hg, jm_ldl]; rfl
theorem sv_lstore_n {z : Fin 4} {x : Int64} {ls1 : jm_L} (hm : jm_mt[m]? = some mt) (hc : jm_code m pc = some (.lstore_n z, 1)) (hl : Nat.beq ls.length mt.2.2.2.1 = true) (hz : (z : Nat) + 1 < ls.length) (hs : jm_set2 ls z (.long x) = ls1) : jv m pc ls (.long x :: st) σ = jv m (pc + 1) ls1 (st) σ := by
  subst hs; rw [jv_k hm hc hl]; simp only [jm_do, if_pos hz]; rfl
theorem sv_lstore {z : Nat} {x : Int64} {ls1 : jm_L} (hm : jm_mt[m]? = some mt) (hc : jm_code m pc = some (.lstore z, 2)) (hl : Nat.beq ls.length mt.2.2.2.1 = true) (hz : z + 1 < ls.length) (hs : jm_set2 ls z (.long x) = ls1) : jv m pc ls (.long x :: st) σ = jv m (pc + 2) ls1 (st) σ := by
  subst hs; rw [jv_k hm hc hl]; simp only [jm_do, if_pos hz]; rfl
theorem sv_aload_n {z : Fin 4} {x : Nat} (hm : jm_mt[m]? = some mt) (hc : jm_code m pc = some (.aload_n z, 1)) (hl : Nat.beq ls.length mt.2.2.2.1 = true) (hg : jm_get ls z = some (.ref x)) : jv m pc ls st σ = jv m (pc + 1) ls (.ref x :: st) σ := by
  rw [jv_k hm hc hl]; simp only [jm_do, hg, jm_lda]; rfl
theorem sv_aload {z : Nat} {x : Nat} (hm : jm_mt[m]? = some mt) (hc : jm_code m pc = some (.aload z, 2)) (hl : Nat.beq ls.length mt.2.2.2.1 = true) (hg : jm_get ls z = some (.ref x)) : jv m pc ls st σ = jv m (pc + 2) ls (.ref x :: st) σ := by
  rw [jv_k hm hc hl]; simp only [jm_do, hg, jm_lda]; rfl
theorem sv_astore_n {z : Fin 4} {x : Nat} {ls1 : jm_L} (hm : jm_mt[m]? = some mt) (hc : jm_code m pc = some (.astore_n z, 1)) (hl : Nat.beq ls.length mt.2.2.2.1 = true) (hz : (z : Nat) < ls.length) (hs : jm_set1 ls z (.ref x) = ls1) : jv m pc ls (.ref x :: st) σ = jv m (pc + 1) ls1 (st) σ := by
  subst hs; rw [jv_k hm hc hl]; simp only [jm_do, jm_r1, if_pos hz]; rfl
theorem sv_astore {z : Nat} {x : Nat} {ls1 : jm_L} (hm : jm_mt[m]? = some mt) (hc : jm_code m pc = some (.astore z, 2)) (hl : Nat.beq ls.length mt.2.2.2.1 = true) (hz : z < ls.length) (hs : jm_set1 ls z (.ref x) = ls1) : jv m pc ls (.ref x :: st) σ = jv m (pc + 2) ls1 (st) σ := by
  subst hs; rw [jv_k hm hc hl]; simp only [jm_do, jm_r1, if_pos hz]; rfl
theorem sv_iinc {z : Nat} {y : Int} {x v : Int32} {ls1 : jm_L} (hm : jm_mt[m]? = some mt) (hc : jm_code m pc = some (.iinc z y, 3)) (hl : Nat.beq ls.length mt.2.2.2.1 = true) (hg : jm_get ls z = some (.int x)) (hv : Int32.ofInt y = v) (hs : jm_set1 ls z (.int (x + v)) = ls1) : jv m pc ls st σ = jv m (pc + 3) ls1 (st) σ := by
  subst hs; subst hv; rw [jv_k hm hc hl]; simp only [jm_do, hg, jm_ld]; rfl
theorem sv_iadd {x y : Int32} (hm : jm_mt[m]? = some mt) (hc : jm_code m pc = some (.iadd, 1)) (hl : Nat.beq ls.length mt.2.2.2.1 = true)  : jv m pc ls (.int y :: .int x :: st) σ = jv m (pc + 1) ls (.int (x + y) :: st) σ := by
  rw [jv_k hm hc hl]; rfl
theorem sv_isub {x y : Int32} (hm : jm_mt[m]? = some mt) (hc : jm_code m pc = some (.isub, 1)) (hl : Nat.beq ls.length mt.2.2.2.1 = true)  : jv m pc ls (.int y :: .int x :: st) σ = jv m (pc + 1) ls (.int (x - y) :: st) σ := by
  rw [jv_k hm hc hl]; rfl
theorem sv_imul {x y : Int32} (hm : jm_mt[m]? = some mt) (hc : jm_code m pc = some (.imul, 1)) (hl : Nat.beq ls.length mt.2.2.2.1 = true)  : jv m pc ls (.int y :: .int x :: st) σ = jv m (pc + 1) ls (.int (x * y) :: st) σ := by
  rw [jv_k hm hc hl]; rfl
theorem sv_iand {x y : Int32} (hm : jm_mt[m]? = some mt) (hc : jm_code m pc = some (.iand, 1)) (hl : Nat.beq ls.length mt.2.2.2.1 = true)  : jv m pc ls (.int y :: .int x :: st) σ = jv m (pc + 1) ls (.int (x &&& y) :: st) σ := by
  rw [jv_k hm hc hl]; rfl
theorem sv_ixor {x y : Int32} (hm : jm_mt[m]? = some mt) (hc : jm_code m pc = some (.ixor, 1)) (hl : Nat.beq ls.length mt.2.2.2.1 = true)  : jv m pc ls (.int y :: .int x :: st) σ = jv m (pc + 1) ls (.int (x ^^^ y) :: st) σ := by
  rw [jv_k hm hc hl]; rfl
theorem sv_ishl {x y : Int32} (hm : jm_mt[m]? = some mt) (hc : jm_code m pc = some (.ishl, 1)) (hl : Nat.beq ls.length mt.2.2.2.1 = true)  : jv m pc ls (.int y :: .int x :: st) σ = jv m (pc + 1) ls (.int (x <<< (y &&& 31)) :: st) σ := by
  rw [jv_k hm hc hl]; rfl
theorem sv_ishr {x y : Int32} (hm : jm_mt[m]? = some mt) (hc : jm_code m pc = some (.ishr, 1)) (hl : Nat.beq ls.length mt.2.2.2.1 = true)  : jv m pc ls (.int y :: .int x :: st) σ = jv m (pc + 1) ls (.int (x >>> (y &&& 31)) :: st) σ := by
  rw [jv_k hm hc hl]; rfl
theorem sv_ladd {x y : Int64} (hm : jm_mt[m]? = some mt) (hc : jm_code m pc = some (.ladd, 1)) (hl : Nat.beq ls.length mt.2.2.2.1 = true)  : jv m pc ls (.long y :: .long x :: st) σ = jv m (pc + 1) ls (.long (x + y) :: st) σ := by
  rw [jv_k hm hc hl]; rfl
theorem sv_lsub {x y : Int64} (hm : jm_mt[m]? = some mt) (hc : jm_code m pc = some (.lsub, 1)) (hl : Nat.beq ls.length mt.2.2.2.1 = true)  : jv m pc ls (.long y :: .long x :: st) σ = jv m (pc + 1) ls (.long (x - y) :: st) σ := by
  rw [jv_k hm hc hl]; rfl
theorem sv_lmul {x y : Int64} (hm : jm_mt[m]? = some mt) (hc : jm_code m pc = some (.lmul, 1)) (hl : Nat.beq ls.length mt.2.2.2.1 = true)  : jv m pc ls (.long y :: .long x :: st) σ = jv m (pc + 1) ls (.long (x * y) :: st) σ := by
  rw [jv_k hm hc hl]; rfl
theorem sv_idiv {x y : Int32} (hm : jm_mt[m]? = some mt) (hc : jm_code m pc = some (.idiv, 1)) (hl : Nat.beq ls.length mt.2.2.2.1 = true) (hy : ¬ y = 0) : jv m pc ls (.int y :: .int x :: st) σ = jv m (pc + 1) ls (.int (x / y) :: st) σ := by
  rw [jv_k hm hc hl]; simp only [jm_do, jm_2, if_neg hy]; rfl
theorem sv_ldiv {x y : Int64} (hm : jm_mt[m]? = some mt) (hc : jm_code m pc = some (.ldiv, 1)) (hl : Nat.beq ls.length mt.2.2.2.1 = true)  : jv m pc ls (.long y :: .long x :: st) σ = (if y = 0 then none else jv m (pc + 1) ls (.long (x / y) :: st) σ) := by
  rw [jv_k hm hc hl]; simp only [jm_do, jm_l2]; split <;> rfl
theorem sv_lrem {x y : Int64} (hm : jm_mt[m]? = some mt) (hc : jm_code m pc = some (.lrem, 1)) (hl : Nat.beq ls.length mt.2.2.2.1 = true)  : jv m pc ls (.long y :: .long x :: st) σ = (if y = 0 then none else jv m (pc + 1) ls (.long (x - x / y * y) :: st) σ) := by
  rw [jv_k hm hc hl]; simp only [jm_do, jm_l2]; split <;> rfl
theorem sv_lcmp {x y : Int64} (hm : jm_mt[m]? = some mt) (hc : jm_code m pc = some (.lcmp, 1)) (hl : Nat.beq ls.length mt.2.2.2.1 = true)  : jv m pc ls (.long y :: .long x :: st) σ = jv m (pc + 1) ls (.int (lg_cmp x y) :: st) σ := by
  rw [jv_k hm hc hl]; rfl
theorem sv_ineg {x : Int32} (hm : jm_mt[m]? = some mt) (hc : jm_code m pc = some (.ineg, 1)) (hl : Nat.beq ls.length mt.2.2.2.1 = true)  : jv m pc ls (.int x :: st) σ = jv m (pc + 1) ls (.int (-x) :: st) σ := by
  rw [jv_k hm hc hl]; rfl
theorem sv_i2l {x : Int32} (hm : jm_mt[m]? = some mt) (hc : jm_code m pc = some (.i2l, 1)) (hl : Nat.beq ls.length mt.2.2.2.1 = true)  : jv m pc ls (.int x :: st) σ = jv m (pc + 1) ls (.long x.toInt64 :: st) σ := by
  rw [jv_k hm hc hl]; rfl
theorem sv_i2b {x : Int32} (hm : jm_mt[m]? = some mt) (hc : jm_code m pc = some (.i2b, 1)) (hl : Nat.beq ls.length mt.2.2.2.1 = true)  : jv m pc ls (.int x :: st) σ = jv m (pc + 1) ls (.int x.toInt8.toInt32 :: st) σ := by
  rw [jv_k hm hc hl]; rfl
theorem sv_i2s {x : Int32} (hm : jm_mt[m]? = some mt) (hc : jm_code m pc = some (.i2s, 1)) (hl : Nat.beq ls.length mt.2.2.2.1 = true)  : jv m pc ls (.int x :: st) σ = jv m (pc + 1) ls (.int x.toInt16.toInt32 :: st) σ := by
  rw [jv_k hm hc hl]; rfl
theorem sv_dup {v : Value} (hm : jm_mt[m]? = some mt) (hc : jm_code m pc = some (.dup, 1)) (hl : Nat.beq ls.length mt.2.2.2.1 = true) (hv : v.category = 1) : jv m pc ls (v :: st) σ = jv m (pc + 1) ls (v :: v :: st) σ := by
  rw [jv_k hm hc hl]; simp only [jm_do, if_pos hv]; rfl
theorem sv_pop {v : Value} (hm : jm_mt[m]? = some mt) (hc : jm_code m pc = some (.pop, 1)) (hl : Nat.beq ls.length mt.2.2.2.1 = true) (hv : v.category = 1) : jv m pc ls (v :: st) σ = jv m (pc + 1) ls (st) σ := by
  rw [jv_k hm hc hl]; simp only [jm_do, if_pos hv]; rfl
theorem sv_dup2 {v u : Value} (hm : jm_mt[m]? = some mt) (hc : jm_code m pc = some (.dup2, 1)) (hl : Nat.beq ls.length mt.2.2.2.1 = true) (hv : v.category = 1 ∧ u.category = 1) : jv m pc ls (v :: u :: st) σ = jv m (pc + 1) ls (v :: u :: v :: u :: st) σ := by
  rw [jv_k hm hc hl]; simp only [jm_do, if_pos hv]; rfl
theorem sv_goto {z : Int} {t : Nat} (hm : jm_mt[m]? = some mt) (hc : jm_code m pc = some (.goto z, 3)) (hl : Nat.beq ls.length mt.2.2.2.1 = true) (ht : (pc : Int) + z = (t : Int)) : jv m pc ls st σ = jv m t ls st σ := by
  rw [jv_k hm hc hl]; simp only [jm_do, jm_jmp, ht]; rfl
theorem sv_icmp_eq {x y : Int32} {z : Int} {t : Nat} (hm : jm_mt[m]? = some mt) (hc : jm_code m pc = some (.if_icmp .eq z, 3)) (hl : Nat.beq ls.length mt.2.2.2.1 = true) (ht : (pc : Int) + z = (t : Int)) : jv m pc ls (.int y :: .int x :: st) σ = (if x = y then jv m t ls st σ else jv m (pc + 3) ls st σ) := by
  rw [jv_k hm hc hl]
  simp only [jm_do, jm_2, jm_br, ht, Int.natCast_nonneg, if_true, jm_cmp, decide_eq_true_eq, Int.toNat_natCast]
  split <;> rfl
theorem sv_if_eq {x : Int32} {z : Int} {t : Nat} (hm : jm_mt[m]? = some mt) (hc : jm_code m pc = some (.ifCond .eq z, 3)) (hl : Nat.beq ls.length mt.2.2.2.1 = true) (ht : (pc : Int) + z = (t : Int)) : jv m pc ls (.int x :: st) σ = (if x = 0 then jv m t ls st σ else jv m (pc + 3) ls st σ) := by
  rw [jv_k hm hc hl]
  simp only [jm_do, jm_1, jm_br, ht, Int.natCast_nonneg, if_true, jm_cmp, decide_eq_true_eq, Int.toNat_natCast]
  split <;> rfl
theorem sv_icmp_ne {x y : Int32} {z : Int} {t : Nat} (hm : jm_mt[m]? = some mt) (hc : jm_code m pc = some (.if_icmp .ne z, 3)) (hl : Nat.beq ls.length mt.2.2.2.1 = true) (ht : (pc : Int) + z = (t : Int)) : jv m pc ls (.int y :: .int x :: st) σ = (if ¬ x = y then jv m t ls st σ else jv m (pc + 3) ls st σ) := by
  rw [jv_k hm hc hl]
  simp only [jm_do, jm_2, jm_br, ht, Int.natCast_nonneg, if_true, jm_cmp, decide_eq_true_eq, Int.toNat_natCast]
  split <;> rfl
theorem sv_if_ne {x : Int32} {z : Int} {t : Nat} (hm : jm_mt[m]? = some mt) (hc : jm_code m pc = some (.ifCond .ne z, 3)) (hl : Nat.beq ls.length mt.2.2.2.1 = true) (ht : (pc : Int) + z = (t : Int)) : jv m pc ls (.int x :: st) σ = (if ¬ x = 0 then jv m t ls st σ else jv m (pc + 3) ls st σ) := by
  rw [jv_k hm hc hl]
  simp only [jm_do, jm_1, jm_br, ht, Int.natCast_nonneg, if_true, jm_cmp, decide_eq_true_eq, Int.toNat_natCast]
  split <;> rfl
theorem sv_icmp_lt {x y : Int32} {z : Int} {t : Nat} (hm : jm_mt[m]? = some mt) (hc : jm_code m pc = some (.if_icmp .lt z, 3)) (hl : Nat.beq ls.length mt.2.2.2.1 = true) (ht : (pc : Int) + z = (t : Int)) : jv m pc ls (.int y :: .int x :: st) σ = (if x < y then jv m t ls st σ else jv m (pc + 3) ls st σ) := by
  rw [jv_k hm hc hl]
  simp only [jm_do, jm_2, jm_br, ht, Int.natCast_nonneg, if_true, jm_cmp, decide_eq_true_eq, Int.toNat_natCast]
  split <;> rfl
theorem sv_if_lt {x : Int32} {z : Int} {t : Nat} (hm : jm_mt[m]? = some mt) (hc : jm_code m pc = some (.ifCond .lt z, 3)) (hl : Nat.beq ls.length mt.2.2.2.1 = true) (ht : (pc : Int) + z = (t : Int)) : jv m pc ls (.int x :: st) σ = (if x < 0 then jv m t ls st σ else jv m (pc + 3) ls st σ) := by
  rw [jv_k hm hc hl]
  simp only [jm_do, jm_1, jm_br, ht, Int.natCast_nonneg, if_true, jm_cmp, decide_eq_true_eq, Int.toNat_natCast]
  split <;> rfl
theorem sv_icmp_ge {x y : Int32} {z : Int} {t : Nat} (hm : jm_mt[m]? = some mt) (hc : jm_code m pc = some (.if_icmp .ge z, 3)) (hl : Nat.beq ls.length mt.2.2.2.1 = true) (ht : (pc : Int) + z = (t : Int)) : jv m pc ls (.int y :: .int x :: st) σ = (if y ≤ x then jv m t ls st σ else jv m (pc + 3) ls st σ) := by
  rw [jv_k hm hc hl]
  simp only [jm_do, jm_2, jm_br, ht, Int.natCast_nonneg, if_true, jm_cmp, decide_eq_true_eq, Int.toNat_natCast]
  split <;> rfl
theorem sv_if_ge {x : Int32} {z : Int} {t : Nat} (hm : jm_mt[m]? = some mt) (hc : jm_code m pc = some (.ifCond .ge z, 3)) (hl : Nat.beq ls.length mt.2.2.2.1 = true) (ht : (pc : Int) + z = (t : Int)) : jv m pc ls (.int x :: st) σ = (if 0 ≤ x then jv m t ls st σ else jv m (pc + 3) ls st σ) := by
  rw [jv_k hm hc hl]
  simp only [jm_do, jm_1, jm_br, ht, Int.natCast_nonneg, if_true, jm_cmp, decide_eq_true_eq, Int.toNat_natCast]
  split <;> rfl
theorem sv_icmp_gt {x y : Int32} {z : Int} {t : Nat} (hm : jm_mt[m]? = some mt) (hc : jm_code m pc = some (.if_icmp .gt z, 3)) (hl : Nat.beq ls.length mt.2.2.2.1 = true) (ht : (pc : Int) + z = (t : Int)) : jv m pc ls (.int y :: .int x :: st) σ = (if y < x then jv m t ls st σ else jv m (pc + 3) ls st σ) := by
  rw [jv_k hm hc hl]
  simp only [jm_do, jm_2, jm_br, ht, Int.natCast_nonneg, if_true, jm_cmp, decide_eq_true_eq, Int.toNat_natCast]
  split <;> rfl
theorem sv_if_gt {x : Int32} {z : Int} {t : Nat} (hm : jm_mt[m]? = some mt) (hc : jm_code m pc = some (.ifCond .gt z, 3)) (hl : Nat.beq ls.length mt.2.2.2.1 = true) (ht : (pc : Int) + z = (t : Int)) : jv m pc ls (.int x :: st) σ = (if 0 < x then jv m t ls st σ else jv m (pc + 3) ls st σ) := by
  rw [jv_k hm hc hl]
  simp only [jm_do, jm_1, jm_br, ht, Int.natCast_nonneg, if_true, jm_cmp, decide_eq_true_eq, Int.toNat_natCast]
  split <;> rfl
theorem sv_icmp_le {x y : Int32} {z : Int} {t : Nat} (hm : jm_mt[m]? = some mt) (hc : jm_code m pc = some (.if_icmp .le z, 3)) (hl : Nat.beq ls.length mt.2.2.2.1 = true) (ht : (pc : Int) + z = (t : Int)) : jv m pc ls (.int y :: .int x :: st) σ = (if x ≤ y then jv m t ls st σ else jv m (pc + 3) ls st σ) := by
  rw [jv_k hm hc hl]
  simp only [jm_do, jm_2, jm_br, ht, Int.natCast_nonneg, if_true, jm_cmp, decide_eq_true_eq, Int.toNat_natCast]
  split <;> rfl
theorem sv_if_le {x : Int32} {z : Int} {t : Nat} (hm : jm_mt[m]? = some mt) (hc : jm_code m pc = some (.ifCond .le z, 3)) (hl : Nat.beq ls.length mt.2.2.2.1 = true) (ht : (pc : Int) + z = (t : Int)) : jv m pc ls (.int x :: st) σ = (if x ≤ 0 then jv m t ls st σ else jv m (pc + 3) ls st σ) := by
  rw [jv_k hm hc hl]
  simp only [jm_do, jm_1, jm_br, ht, Int.natCast_nonneg, if_true, jm_cmp, decide_eq_true_eq, Int.toNat_natCast]
  split <;> rfl
theorem sv_ts {d lo hi : Int} {offs : Array Int} {x : Int32} {z : Int} {t : Nat} {ln : Nat} (hm : jm_mt[m]? = some mt) (hc : jm_code m pc = some (.tableswitch d lo hi offs, ln)) (hl : Nat.beq ls.length mt.2.2.2.1 = true) (h : ¬ (x.toInt < lo ∨ hi < x.toInt)) (hz : offs[(x.toInt - lo).toNat]? = some z) (ht : (pc : Int) + z = (t : Int)) : jv m pc ls (.int x :: st) σ = jv m t ls st σ := by
  rw [jv_k hm hc hl]; simp only [jm_do, jm_1, if_neg h, hz, jm_ob, jm_jmp, ht]; rfl
theorem sv_tso {d lo hi : Int} {offs : Array Int} {x : Int32} {t : Nat} {ln : Nat} (hm : jm_mt[m]? = some mt) (hc : jm_code m pc = some (.tableswitch d lo hi offs, ln)) (hl : Nat.beq ls.length mt.2.2.2.1 = true) (ht : (pc : Int) + d = (t : Int)) (h : x.toInt < lo ∨ hi < x.toInt) : jv m pc ls (.int x :: st) σ = jv m t ls st σ := by
  rw [jv_k hm hc hl]; simp only [jm_do, jm_1, if_pos h, jm_jmp, ht]; rfl
theorem sv_getf {z a ci k pl : Nat} {v : Value} (hm : jm_mt[m]? = some mt) (hc : jm_code m pc = some (.getfield z, 3)) (hl : Nat.beq ls.length mt.2.2.2.1 = true) (hq : jm_lk2 jm_fl mt.1 z = some (ci, k, pl)) (hv : jm_gf ci k a σ = some v) : jv m pc ls (.ref a :: st) σ = jv m (pc + 3) ls (v :: st) σ := by
  rw [jv_k hm hc hl]; simp only [jm_do, jm_r1, hq, jm_ob, hv]; rfl
theorem sv_putf {z a ci k pl : Nat} {x : Int32} {τ : jm_S} (hm : jm_mt[m]? = some mt) (hc : jm_code m pc = some (.putfield z, 3)) (hl : Nat.beq ls.length mt.2.2.2.1 = true) (hq : jm_lk2 jm_fl mt.1 z = some (ci, k, pl)) (hv : jm_pf ci k a x σ = some τ) : jv m pc ls (.int x :: .ref a :: st) σ = jv m (pc + 3) ls st τ := by
  rw [jv_k hm hc hl]; simp only [jm_do, jm_rx, hq, jm_ob, hv]; rfl
theorem sv_gets {z i pl : Nat} (hm : jm_mt[m]? = some mt) (hc : jm_code m pc = some (.getstatic z, 3)) (hl : Nat.beq ls.length mt.2.2.2.1 = true) (hq : jm_lk2 jm_sl mt.1 z = some (i, pl)) : jv m pc ls st σ = jv m (pc + 3) ls (.ref (1000 + i) :: st) σ := by
  rw [jv_k hm hc hl]; simp only [jm_do, hq, jm_ob]; rfl
theorem sv_iald {a n : Nat} {f : Nat → Int32} {j : Int32} (hm : jm_mt[m]? = some mt) (hc : jm_code m pc = some (.iaload, 1)) (hl : Nat.beq ls.length mt.2.2.2.1 = true) (hq : jm_ia a σ = some (n, f)) : jv m pc ls (.int j :: .ref a :: st) σ = (if j < 0 ∨ n ≤ j.toNatClampNeg then none else jv m (pc + 1) ls (.int (f j.toNatClampNeg) :: st) σ) := by
  rw [jv_k hm hc hl]; simp only [jm_do, jm_ri, hq, jm_ob]; split <;> rfl
theorem sv_iald1 {a n i : Nat} {f : Nat → Int32} {j : Int32} (hm : jm_mt[m]? = some mt) (hc : jm_code m pc = some (.iaload, 1)) (hl : Nat.beq ls.length mt.2.2.2.1 = true) (hq : jm_ia a σ = some (n, f)) (hj : ¬ (j < 0 ∨ n ≤ j.toNatClampNeg)) (hi : j.toNatClampNeg = i) : jv m pc ls (.int j :: .ref a :: st) σ = jv m (pc + 1) ls (.int (f i) :: st) σ := by
  subst hi; rw [jv_k hm hc hl]; simp only [jm_do, jm_ri, hq, jm_ob, if_neg hj]; rfl
theorem sv_bald {a n : Nat} {j : Int32} (hm : jm_mt[m]? = some mt) (hc : jm_code m pc = some (.baload, 1)) (hl : Nat.beq ls.length mt.2.2.2.1 = true) (hq : jm_wi a true = some n) : jv m pc ls (.int j :: .ref a :: st) σ = (if j < 0 ∨ n ≤ j.toNatClampNeg then none else jv m (pc + 1) ls (.int (σ a j.toNatClampNeg) :: st) σ) := by
  rw [jv_k hm hc hl]; simp only [jm_do, jm_ri, hq, jm_ob]; split <;> rfl
theorem sv_iast {a n : Nat} {j x : Int32} (hm : jm_mt[m]? = some mt) (hc : jm_code m pc = some (.iastore, 1)) (hl : Nat.beq ls.length mt.2.2.2.1 = true) (hq : jm_wi a false = some n) : jv m pc ls (.int x :: .int j :: .ref a :: st) σ = (if j < 0 ∨ n ≤ j.toNatClampNeg then none else jv m (pc + 1) ls st (jm_up σ a j.toNatClampNeg x)) := by
  rw [jv_k hm hc hl]; simp only [jm_do, jm_rix, hq, jm_ob]; split <;> rfl
theorem sv_iast1 {a n i : Nat} {j x : Int32} (hm : jm_mt[m]? = some mt) (hc : jm_code m pc = some (.iastore, 1)) (hl : Nat.beq ls.length mt.2.2.2.1 = true) (hq : jm_wi a false = some n) (hj : ¬ (j < 0 ∨ n ≤ j.toNatClampNeg)) (hi : j.toNatClampNeg = i) : jv m pc ls (.int x :: .int j :: .ref a :: st) σ = jv m (pc + 1) ls st (jm_up σ a i x) := by
  subst hi; rw [jv_k hm hc hl]; simp only [jm_do, jm_rix, hq, jm_ob, if_neg hj]; rfl
theorem sv_bast {a n : Nat} {j x : Int32} (hm : jm_mt[m]? = some mt) (hc : jm_code m pc = some (.bastore, 1)) (hl : Nat.beq ls.length mt.2.2.2.1 = true) (hq : jm_wi a true = some n) : jv m pc ls (.int x :: .int j :: .ref a :: st) σ = (if j < 0 ∨ n ≤ j.toNatClampNeg ∨ ¬ (x = 0 ∨ x = 1) then none else jv m (pc + 1) ls st (jm_up σ a j.toNatClampNeg x)) := by
  rw [jv_k hm hc hl]; simp only [jm_do, jm_rix, hq, jm_ob]; split <;> rfl
theorem sv_aald {a : Nat} {ts : List Nat} {j : Int32} (hm : jm_mt[m]? = some mt) (hc : jm_code m pc = some (.aaload, 1)) (hl : Nat.beq ls.length mt.2.2.2.1 = true) (hq : jm_wr a = some ts) : jv m pc ls (.int j :: .ref a :: st) σ = jaa j ts (fun q => jv m (pc + 1) ls (.ref q :: st) σ) := by
  rw [jv_k hm hc hl]
  simp only [jm_do, jm_ri, hq, jm_ob, jaa]
  split
  · rfl
  · cases ts[j.toNatClampNeg]? <;> rfl
theorem sv_alen {a n : Nat} {v : Int32} (hm : jm_mt[m]? = some mt) (hc : jm_code m pc = some (.arraylength, 1)) (hl : Nat.beq ls.length mt.2.2.2.1 = true) (hq : jm_len a σ = some n) (hv : Int32.ofNat n = v) : jv m pc ls (.ref a :: st) σ = jv m (pc + 1) ls (.int v :: st) σ := by
  subst hv; rw [jv_k hm hc hl]; simp only [jm_do, jm_r1, hq, jm_ob]; rfl
theorem sv_max {x y : Int32} {z pl : Nat} (hm : jm_mt[m]? = some mt) (hc : jm_code m pc = some (.invokestatic z, 3)) (hl : Nat.beq ls.length mt.2.2.2.1 = true) (hq : jm_lk2 jm_ml mt.1 z = some (1001, pl)) (hcat : ¬ 8 < jm_cat st) : jv m pc ls (.int y :: .int x :: st) σ = jv m (pc + 3) ls (.int (if x < y then y else x) :: st) σ := by
  rw [jv_k hm hc hl]; simp only [jm_do, jm_call, hq, jm_ob]; show jm_k _ _ _ (jm_nat 1001 pc ls _ σ) = _; simp only [jm_nat, jm_2, if_neg hcat]; rfl
theorem sv_min {x y : Int32} {z pl : Nat} (hm : jm_mt[m]? = some mt) (hc : jm_code m pc = some (.invokestatic z, 3)) (hl : Nat.beq ls.length mt.2.2.2.1 = true) (hq : jm_lk2 jm_ml mt.1 z = some (1002, pl)) (hcat : ¬ 8 < jm_cat st) : jv m pc ls (.int y :: .int x :: st) σ = jv m (pc + 3) ls (.int (if y < x then y else x) :: st) σ := by
  rw [jv_k hm hc hl]; simp only [jm_do, jm_call, hq, jm_ob]; show jm_k _ _ _ (jm_nat 1002 pc ls _ σ) = _; simp only [jm_nat, jm_2, if_neg hcat]; rfl
theorem sv_abs {x : Int32} {z pl : Nat} (hm : jm_mt[m]? = some mt) (hc : jm_code m pc = some (.invokestatic z, 3)) (hl : Nat.beq ls.length mt.2.2.2.1 = true) (hq : jm_lk2 jm_ml mt.1 z = some (1003, pl)) (hcat : ¬ 8 < jm_cat st) : jv m pc ls (.int x :: st) σ = jv m (pc + 3) ls (.int (if 0 ≤ x then x else 0 - x) :: st) σ := by
  rw [jv_k hm hc hl]; simp only [jm_do, jm_call, hq, jm_ob]; show jm_k _ _ _ (jm_nat 1003 pc ls _ σ) = _; simp only [jm_nat, jm_1, if_neg hcat]; rfl
theorem sv_maxl {x y : Int64} {z pl : Nat} (hm : jm_mt[m]? = some mt) (hc : jm_code m pc = some (.invokestatic z, 3)) (hl : Nat.beq ls.length mt.2.2.2.1 = true) (hq : jm_lk2 jm_ml mt.1 z = some (1004, pl)) (hcat : ¬ 8 < jm_cat st) : jv m pc ls (.long y :: .long x :: st) σ = jv m (pc + 3) ls (.long (if y < x then x else y) :: st) σ := by
  rw [jv_k hm hc hl]; simp only [jm_do, jm_call, hq, jm_ob]; show jm_k _ _ _ (jm_nat 1004 pc ls _ σ) = _; simp only [jm_nat, jm_l2, if_neg hcat]; rfl
theorem sv_cpy {a b n0 n1 : Nat} {sp dp n : Int32} {z pl : Nat} (hm : jm_mt[m]? = some mt) (hc : jm_code m pc = some (.invokestatic z, 3)) (hl : Nat.beq ls.length mt.2.2.2.1 = true) (hq : jm_lk2 jm_ml mt.1 z = some (1000, pl)) (hcat : ¬ 8 < jm_cat st) (h0 : jm_wi a false = some n0) (h1 : jm_wi b false = some n1) : jv m pc ls (.int n :: .int dp :: .ref b :: .int sp :: .ref a :: st) σ = (if sp < 0 ∨ dp < 0 ∨ n < 0 ∨ n0 < sp.toNatClampNeg + n.toNatClampNeg ∨ n1 < dp.toNatClampNeg + n.toNatClampNeg then none else jv m (pc + 3) ls st (jm_row σ b (va_cpy (σ a) (σ b) sp.toNatClampNeg dp.toNatClampNeg n.toNatClampNeg))) := by
  rw [jv_k hm hc hl]; simp only [jm_do, jm_call, hq, jm_ob]; show jm_k _ _ _ (jm_nat 1000 pc ls _ σ) = _
  simp only [jm_nat, jm_cp, h0, h1, jm_ob, hcat, or_false]
  split <;> rfl
theorem sv_callsi {z y pl : Nat} {as rest : List Value} {my : jm_M} {ty : Option FieldType} (hm : jm_mt[m]? = some mt) (hc : jm_code m pc = some (.invokestatic z, 3)) (hl : Nat.beq ls.length mt.2.2.2.1 = true) (ha : jm_call mt.1 z false pc ls st σ = some (.inr (.inr (y, as, (pc + 3, ls, rest, σ))))) (hmy : jm_mt[y]? = some my) (hr : my.2.2.2.2.1 = ty) (hty : ty = some .int ∨ ty = some .boolean) : jv m pc ls st σ = jbi (jc y as σ) (fun x τ => jv m (pc + 3) ls (.int x :: rest) τ) := by
  rw [jv_k hm hc hl]
  simp only [jm_do]
  rw [ha]
  show (match jc y as σ with
    | none => none
    | some (v, τ) => jv m (pc + 3) ls (v.toList ++ rest) τ) = _
  cases hj : jc y as σ with
  | none => rfl
  | some vt =>
    obtain ⟨v, t⟩ := vt
    have hv := jc_kind hmy hj
    rw [hr] at hv
    rcases hty with rfl | rfl <;> (obtain ⟨x, rfl⟩ := hv; rfl)
theorem sv_callsl {z y pl : Nat} {as rest : List Value} {my : jm_M} {ty : Option FieldType} (hm : jm_mt[m]? = some mt) (hc : jm_code m pc = some (.invokestatic z, 3)) (hl : Nat.beq ls.length mt.2.2.2.1 = true) (ha : jm_call mt.1 z false pc ls st σ = some (.inr (.inr (y, as, (pc + 3, ls, rest, σ))))) (hmy : jm_mt[y]? = some my) (hr : my.2.2.2.2.1 = ty) (hty : ty = some .long) : jv m pc ls st σ = jbl (jc y as σ) (fun x τ => jv m (pc + 3) ls (.long x :: rest) τ) := by
  rw [jv_k hm hc hl]
  simp only [jm_do]
  rw [ha]
  show (match jc y as σ with
    | none => none
    | some (v, τ) => jv m (pc + 3) ls (v.toList ++ rest) τ) = _
  cases hj : jc y as σ with
  | none => rfl
  | some vt =>
    obtain ⟨v, t⟩ := vt
    have hv := jc_kind hmy hj
    rw [hr] at hv
    subst hty; obtain ⟨x, rfl⟩ := hv; rfl
theorem sv_callsv {z y pl : Nat} {as rest : List Value} {my : jm_M} {ty : Option FieldType} (hm : jm_mt[m]? = some mt) (hc : jm_code m pc = some (.invokestatic z, 3)) (hl : Nat.beq ls.length mt.2.2.2.1 = true) (ha : jm_call mt.1 z false pc ls st σ = some (.inr (.inr (y, as, (pc + 3, ls, rest, σ))))) (hmy : jm_mt[y]? = some my) (hr : my.2.2.2.2.1 = ty) (hty : ty = none) : jv m pc ls st σ = jbv (jc y as σ) (fun τ => jv m (pc + 3) ls rest τ) := by
  rw [jv_k hm hc hl]
  simp only [jm_do]
  rw [ha]
  show (match jc y as σ with
    | none => none
    | some (v, τ) => jv m (pc + 3) ls (v.toList ++ rest) τ) = _
  cases hj : jc y as σ with
  | none => rfl
  | some vt =>
    obtain ⟨v, t⟩ := vt
    have hv := jc_kind hmy hj
    rw [hr] at hv
    subst hty; cases hv; rfl
theorem sv_callvi {z y pl : Nat} {as rest : List Value} {my : jm_M} {ty : Option FieldType} (hm : jm_mt[m]? = some mt) (hc : jm_code m pc = some (.invokevirtual z, 3)) (hl : Nat.beq ls.length mt.2.2.2.1 = true) (ha : jm_call mt.1 z true pc ls st σ = some (.inr (.inr (y, as, (pc + 3, ls, rest, σ))))) (hmy : jm_mt[y]? = some my) (hr : my.2.2.2.2.1 = ty) (hty : ty = some .int ∨ ty = some .boolean) : jv m pc ls st σ = jbi (jc y as σ) (fun x τ => jv m (pc + 3) ls (.int x :: rest) τ) := by
  rw [jv_k hm hc hl]
  simp only [jm_do]
  rw [ha]
  show (match jc y as σ with
    | none => none
    | some (v, τ) => jv m (pc + 3) ls (v.toList ++ rest) τ) = _
  cases hj : jc y as σ with
  | none => rfl
  | some vt =>
    obtain ⟨v, t⟩ := vt
    have hv := jc_kind hmy hj
    rw [hr] at hv
    rcases hty with rfl | rfl <;> (obtain ⟨x, rfl⟩ := hv; rfl)
theorem sv_callvl {z y pl : Nat} {as rest : List Value} {my : jm_M} {ty : Option FieldType} (hm : jm_mt[m]? = some mt) (hc : jm_code m pc = some (.invokevirtual z, 3)) (hl : Nat.beq ls.length mt.2.2.2.1 = true) (ha : jm_call mt.1 z true pc ls st σ = some (.inr (.inr (y, as, (pc + 3, ls, rest, σ))))) (hmy : jm_mt[y]? = some my) (hr : my.2.2.2.2.1 = ty) (hty : ty = some .long) : jv m pc ls st σ = jbl (jc y as σ) (fun x τ => jv m (pc + 3) ls (.long x :: rest) τ) := by
  rw [jv_k hm hc hl]
  simp only [jm_do]
  rw [ha]
  show (match jc y as σ with
    | none => none
    | some (v, τ) => jv m (pc + 3) ls (v.toList ++ rest) τ) = _
  cases hj : jc y as σ with
  | none => rfl
  | some vt =>
    obtain ⟨v, t⟩ := vt
    have hv := jc_kind hmy hj
    rw [hr] at hv
    subst hty; obtain ⟨x, rfl⟩ := hv; rfl
theorem sv_callvv {z y pl : Nat} {as rest : List Value} {my : jm_M} {ty : Option FieldType} (hm : jm_mt[m]? = some mt) (hc : jm_code m pc = some (.invokevirtual z, 3)) (hl : Nat.beq ls.length mt.2.2.2.1 = true) (ha : jm_call mt.1 z true pc ls st σ = some (.inr (.inr (y, as, (pc + 3, ls, rest, σ))))) (hmy : jm_mt[y]? = some my) (hr : my.2.2.2.2.1 = ty) (hty : ty = none) : jv m pc ls st σ = jbv (jc y as σ) (fun τ => jv m (pc + 3) ls rest τ) := by
  rw [jv_k hm hc hl]
  simp only [jm_do]
  rw [ha]
  show (match jc y as σ with
    | none => none
    | some (v, τ) => jv m (pc + 3) ls (v.toList ++ rest) τ) = _
  cases hj : jc y as σ with
  | none => rfl
  | some vt =>
    obtain ⟨v, t⟩ := vt
    have hv := jc_kind hmy hj
    rw [hr] at hv
    subst hty; cases hv; rfl
theorem sv_iret {x : Int32} (hm : jm_mt[m]? = some mt) (hc : jm_code m pc = some (.ireturn, 1)) (hl : Nat.beq ls.length mt.2.2.2.1 = true) (hr : mt.2.2.2.2.1 = some .int) : jv m pc ls [.int x] σ = some (some (.int x), σ) := by
  rw [jv_k hm hc hl]; simp only [jm_do, hr]; rfl
theorem sv_zret {x : Int32} (hm : jm_mt[m]? = some mt) (hc : jm_code m pc = some (.ireturn, 1)) (hl : Nat.beq ls.length mt.2.2.2.1 = true) (hr : mt.2.2.2.2.1 = some .boolean) (hx : x = 0 ∨ x = 1) : jv m pc ls [.int x] σ = some (some (.int x), σ) := by
  rw [jv_k hm hc hl]; simp only [jm_do, hr, jm_ret, if_pos hx]; rfl
theorem sv_zretx {x : Int32} (hm : jm_mt[m]? = some mt) (hc : jm_code m pc = some (.ireturn, 1)) (hl : Nat.beq ls.length mt.2.2.2.1 = true) (hr : mt.2.2.2.2.1 = some .boolean) : jv m pc ls [.int x] σ = (if x = 0 ∨ x = 1 then some (some (.int x), σ) else none) := by
  rw [jv_k hm hc hl]; simp only [jm_do, hr, jm_ret]; split <;> rfl
theorem sv_lret {x : Int64} (hm : jm_mt[m]? = some mt) (hc : jm_code m pc = some (.lreturn, 1)) (hl : Nat.beq ls.length mt.2.2.2.1 = true) (hr : mt.2.2.2.2.1 = some .long) : jv m pc ls [.long x] σ = some (some (.long x), σ) := by
  rw [jv_k hm hc hl]; simp only [jm_do, hr]; rfl
theorem sv_vret (hm : jm_mt[m]? = some mt) (hc : jm_code m pc = some (.return_, 1)) (hl : Nat.beq ls.length mt.2.2.2.1 = true) (hr : mt.2.2.2.2.1 = none) : jv m pc ls [] σ = some (none, σ) := by
  rw [jv_k hm hc hl]; simp only [jm_do, hr]; rfl
end SV
