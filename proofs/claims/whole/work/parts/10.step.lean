section SND4
variable {D : va_G} {α : Nat → Nat} {κ : Nat → ClassId} {xs : Nat → Int32} {L : Nat}
variable {p : Program} {l : Launch} {e : Env} {R : Room} {s : State} {mid : MethodId} {args : Array Value} {below : List Frame} {meth : Method} {c : Code} {cells slots : Nat} {Q : State → Prop} {A : Nat → Prop}
def jm_act (m : Nat) (N : jm_N) : Option jm_A := match jm_mt[m]?, jm_code m N.1 with
  | some mt, some (i, n) => match Nat.beq N.2.1.length mt.2.2.2.1 with
    | true => jm_do mt.1 mt.2.2.2.2.1 i n N.1 N.2.1 N.2.2.1 N.2.2.2
    | false => none
  | _, _ => none
def jm_ini (m : Nat) (as : List Value) : jm_L := match jm_mt[m]? with
  | some mt => jm_pad mt.2.2.2.1 (jm_ent as)
  | none => []
theorem jm_act_i {m : Nat} {N : jm_N} {r : jm_A} (h : jm_act m N = some r) : ∃ mt i n, jm_mt[m]? = some mt ∧ jm_code m N.1 = some (i, n) ∧ N.2.1.length = mt.2.2.2.1 ∧ jm_do mt.1 mt.2.2.2.2.1 i n N.1 N.2.1 N.2.2.1 N.2.2.2 = some r := by
  unfold jm_act at h
  split at h
  · next mt i n h1 h2 =>
    split at h
    · next hb => exact ⟨mt, i, n, h1, h2, Nat.eq_of_beq_eq_true hb, h⟩
    · cases h
  · cases h
/-- a return that fits the method -/
def jm_RT (mt : jm_M) (pc : Nat) (v : Option Value) : Prop :=
  (∃ x ty, v = some (.int x) ∧ decode mt.2.2.1 pc = .ok (.ireturn, 1) ∧ mt.2.2.2.2.1 = some ty ∧ narrow ty (.int x) = .int x) ∨ (∃ x, v = some (.long x) ∧ decode mt.2.2.1 pc = .ok (.lreturn, 1) ∧ mt.2.2.2.2.1 = some .long) ∨ (v = none ∧ decode mt.2.2.1 pc = .ok (.return_, 1) ∧ mt.2.2.2.2.1 = none)
/-- what each action owes -/
def jm_owe (D : va_G) (α : Nat → Nat) (κ : Nat → ClassId) (xs : Nat → Int32) (L : Nat) (p : Program) (l : Launch) (e : Env) (R : Room) (s : State) (mid : MethodId) (args : Array Value) (below : List Frame) (meth : Method) (c : Code) (cells slots : Nat) (Q : State → Prop) (A : Nat → Prop) (mt : jm_M) (pc : Nat) (a : jm_A) : Prop := match a with
  | .inl s1 => jm_W D α κ xs L p l e R s mid args below meth c cells slots Q A mt s1
  | .inr (.inl r) => jm_RT mt pc r.1 → ∀ (H : Heap) (locs : List Loc) (larr : Array Slot), va_P D jm_cl (jm_enc α κ r.2) H → va_S A s.heap H locs → jm_X xs L r.2 → W p l e R s mid args below meth c H locs cells slots Q (F0 mid pc larr (r.1.toList.map (jm_rv α)))
  | .inr (.inr (y, as, k)) => ∃ my v τ, jm_mt[y]? = some my ∧ jm_Met D α κ xs L l my as k.2.2.2 v τ ∧ jm_W D α κ xs L p l e R s mid args below meth c cells slots Q A mt (k.1, k.2.1, v.toList ++ k.2.2.1, τ)
theorem jm_call_split (o z : Nat) (vir : Bool) {pc : Nat} {ls : jm_L} {st : List Value} {σ : jm_S} {a : jm_A} (h : jm_call o z vir pc ls st σ = some a) :
    (∃ k pl, jm_lk2 jm_ml o z = some (k, pl) ∧ Nat.ble 1000 k = true ∧ vir = false ∧ jm_nat k pc ls st σ = some a) ∨
    (∃ y pl my as rest, jm_lk2 jm_ml o z = some (y, pl) ∧ Nat.ble 1000 y = false ∧ jm_mt[y]? = some my ∧ my.2.2.2.2.2.2.1 = !vir ∧ as.length = my.2.2.2.2.2.2.2.1 ∧ st = as.reverse ++ rest ∧ jm_cat rest ≤ 8 ∧ (vir = true → ∃ b bs, as = .ref b :: bs ∧ jm_oc b = some my.1) ∧ a = .inr (.inr (y, as, (pc + 3, ls, rest, σ)))) := by
  unfold jm_call at h
  obtain ⟨⟨k, pl⟩, hq, h⟩ := jm_ob_i h
  dsimp only at h
  split at h
  · next hb =>
    split at h
    · exact Or.inl ⟨k, pl, hq, hb, rfl, h⟩
    · cases h
  · next hb =>
    obtain ⟨my, hmy, h⟩ := jm_ob_i h
    split at h
    · next hc =>
      obtain ⟨c1, c2, c3⟩ := hc
      have hlen : ((st.take my.2.2.2.2.2.2.2.1).reverse).length = my.2.2.2.2.2.2.2.1 := by rw [List.length_reverse, List.length_take]; omega
      have hst : st = ((st.take my.2.2.2.2.2.2.2.1).reverse).reverse ++ st.drop my.2.2.2.2.2.2.2.1 := by rw [List.reverse_reverse, List.take_append_drop]
      split at h
      · next hv =>
        split at h
        · next b bs heq =>
          split at h
          · next hoc =>
            cases h
            rw [heq] at hlen hst
            exact Or.inr ⟨k, pl, my, _, _, hq, hb, hmy, c3, hlen, hst, c2, fun _ => ⟨b, bs, rfl, hoc⟩, rfl⟩
          · cases h
        · cases h
      · next hv =>
        cases h
        exact Or.inr ⟨k, pl, my, _, _, hq, hb, hmy, c3, hlen, hst, c2, fun q => absurd q hv, rfl⟩
    · cases h

theorem jm_do_call {m : Nat} {mt : jm_M} (hm : jm_mt[m]? = some mt) (C : jm_Cx D α κ xs L p R s mid args c cells slots A mt) {pc z n : Nat} {ls : jm_L} {st : List Value} {σ : jm_S} {i : Instr} {vir : Bool} (hc : jm_code m pc = some (i, n)) (hi : (i = .invokestatic z ∧ vir = false) ∨ (i = .invokevirtual z ∧ vir = true)) (hn : n = 3) {a : jm_A} (ha : jm_call mt.1 z vir pc ls st σ = some a) (k : jm_owe D α κ xs L p l e R s mid args below meth c cells slots Q A mt pc a) : jm_W D α κ xs L p l e R s mid args below meth c cells slots Q A mt (pc, ls, st, σ) := by
  have hd := jm_dec hm hc
  subst hn
  rcases jm_call_split _ _ _ ha with ⟨y, pl, hq, hb, hv, h⟩ | ⟨y, pl, my, as, rest, hq, hb, hmy, hs, hlen, hst, hcat, hoc, rfl⟩
  · obtain ⟨rfl, -⟩ : i = .invokestatic z ∧ vir = false := by
      rcases hi with h | ⟨-, h⟩
      · exact h
      · rw [hv] at h; cases h
    have h1 := (jm_hgt hm hc (Or.inl rfl) hq).1 hb
    unfold jm_nat at h
    split at h
    · obtain ⟨a1, sp, b1, dp, n1, t, rfl, h9⟩ := jm_cp_i h
      obtain ⟨n0, hw0, h9⟩ := jm_ob_i h9
      obtain ⟨n2, hw1, h9⟩ := jm_ob_i h9
      split at h9
      · cases h9
      · next hh =>
        cases h9
        exact jm_x_cpy C hw0 hw1 hh hd hq h1 (fun q => hh (Or.inr (Or.inr (Or.inr (Or.inr (Or.inr q)))))) k
    · obtain ⟨x, y1, t, rfl, h9⟩ := jm_2_i h
      split at h9
      · cases h9
      · next hh => cases h9; exact jm_x_max C hd hq h1 hh k
    · obtain ⟨x, y1, t, rfl, h9⟩ := jm_2_i h
      split at h9
      · cases h9
      · next hh => cases h9; exact jm_x_min C hd hq h1 hh k
    · obtain ⟨x, t, rfl, h9⟩ := jm_1_i h
      split at h9
      · cases h9
      · next hh => cases h9; exact jm_x_abs C hd hq h1 hh k
    · obtain ⟨x, y1, t, rfl, h9⟩ := jm_l2_i h
      split at h9
      · cases h9
      · next hh => cases h9; exact jm_x_maxl C hd hq h1 hh k
    · cases h
  · obtain ⟨my', v, τ, hmy', M, kk⟩ := k
    cases hmy.symm.trans hmy'
    subst hst
    rcases hi with ⟨rfl, rfl⟩ | ⟨rfl, rfl⟩
    · exact jm_x_calls C hd hq hb hmy ((jm_hgt hm hc (Or.inl rfl) hq).2 hb my hmy) hs hlen hcat M kk
    · obtain ⟨b, bs, rfl, hob⟩ := hoc rfl
      have e1 : (Value.ref b :: bs).reverse ++ rest = bs.reverse ++ .ref b :: rest := by simp
      rw [e1]
      exact jm_x_callv C hd hq hb hmy ((jm_hgt hm hc (Or.inr rfl) hq).2 hb my hmy) hs hlen hob hcat M kk

theorem jm_step {m : Nat} {mt : jm_M} (hm : jm_mt[m]? = some mt) (C : jm_Cx D α κ xs L p R s mid args c cells slots A mt) {pc : Nat} {ls : jm_L} {st : List Value} {σ : jm_S} {i : Instr} {n : Nat} (hc : jm_code m pc = some (i, n)) {a : jm_A} (ha : jm_do mt.1 mt.2.2.2.2.1 i n pc ls st σ = some a) (k : jm_owe D α κ xs L p l e R s mid args below meth c cells slots Q A mt pc a) : jm_W D α κ xs L p l e R s mid args below meth c cells slots Q A mt (pc, ls, st, σ) := by
  have hd := jm_dec hm hc
  unfold jm_do at ha
  split at ha
  · cases ha; exact jm_x_iconst C hd k
  · cases ha; exact jm_x_bipush C hd k
  · cases ha; exact jm_x_sipush C hd k
  · cases ha; exact jm_x_lconst C hd k
  · obtain ⟨q, hq, ha⟩ := jm_ob_i ha
    cases ha; exact jm_x_ldc C hd hq k
  · obtain ⟨q, hq, ha⟩ := jm_ob_i ha
    cases ha; exact jm_x_ldcw C hd hq k
  · obtain ⟨q, hq, ha⟩ := jm_ob_i ha
    cases ha; exact jm_x_ldc2 C hd hq k
  · obtain ⟨x, hg, ha⟩ := jm_ld_i ha
    cases ha; exact jm_x_iload_n C hd hg k
  · obtain ⟨x, hg, ha⟩ := jm_ld_i ha
    cases ha; exact jm_x_iload C hd hg k
  · obtain ⟨x, hg, ha⟩ := jm_ldl_i ha
    cases ha; exact jm_x_lload_n C hd hg k
  · obtain ⟨x, hg, ha⟩ := jm_ldl_i ha
    cases ha; exact jm_x_lload C hd hg k
  · obtain ⟨x, hg, ha⟩ := jm_lda_i ha
    cases ha; exact jm_x_aload_n C hd hg k
  · obtain ⟨x, hg, ha⟩ := jm_lda_i ha
    cases ha; exact jm_x_aload C hd hg k
  · obtain ⟨x, t, rfl, hz9⟩ := jm_1_i ha
    split at hz9
    · next hz => cases hz9; exact jm_x_istore_n C hd hz k
    · cases hz9
  · obtain ⟨x, t, rfl, hz9⟩ := jm_1_i ha
    split at hz9
    · next hz => cases hz9; exact jm_x_istore C hd hz k
    · cases hz9
  · split at ha
    · split at ha
      · next hz => cases ha; exact jm_x_lstore_n C hd hz k
      · cases ha
    · cases ha
  · split at ha
    · split at ha
      · next hz => cases ha; exact jm_x_lstore C hd hz k
      · cases ha
    · cases ha
  · obtain ⟨x, t, rfl, hz9⟩ := jm_r1_i ha
    split at hz9
    · next hz => cases hz9; exact jm_x_astore_n C hd hz k
    · cases hz9
  · obtain ⟨x, t, rfl, hz9⟩ := jm_r1_i ha
    split at hz9
    · next hz => cases hz9; exact jm_x_astore C hd hz k
    · cases hz9
  · obtain ⟨x, hg, ha⟩ := jm_ld_i ha
    cases ha; exact jm_x_iinc C hd hg k
  · obtain ⟨x, y, t, rfl, hz9⟩ := jm_2_i ha
    cases hz9; exact jm_x_iadd C hd k
  · obtain ⟨x, y, t, rfl, hz9⟩ := jm_2_i ha
    cases hz9; exact jm_x_isub C hd k
  · obtain ⟨x, y, t, rfl, hz9⟩ := jm_2_i ha
    cases hz9; exact jm_x_imul C hd k
  · obtain ⟨x, y, t, rfl, hz9⟩ := jm_2_i ha
    cases hz9; exact jm_x_iand C hd k
  · obtain ⟨x, y, t, rfl, hz9⟩ := jm_2_i ha
    cases hz9; exact jm_x_ixor C hd k
  · obtain ⟨x, y, t, rfl, hz9⟩ := jm_2_i ha
    split at hz9
    · cases hz9
    · next hy => cases hz9; exact jm_x_idiv C hd hy k
  · obtain ⟨x, y, t, rfl, hz9⟩ := jm_2_i ha
    cases hz9; exact jm_x_ishl C hd k
  · obtain ⟨x, y, t, rfl, hz9⟩ := jm_2_i ha
    cases hz9; exact jm_x_ishr C hd k
  · obtain ⟨x, t, rfl, hz9⟩ := jm_1_i ha
    cases hz9; exact jm_x_ineg C hd k
  · obtain ⟨x, y, t, rfl, hz9⟩ := jm_l2_i ha
    cases hz9; exact jm_x_ladd C hd k
  · obtain ⟨x, y, t, rfl, hz9⟩ := jm_l2_i ha
    cases hz9; exact jm_x_lsub C hd k
  · obtain ⟨x, y, t, rfl, hz9⟩ := jm_l2_i ha
    cases hz9; exact jm_x_lmul C hd k
  · obtain ⟨x, y, t, rfl, hz9⟩ := jm_l2_i ha
    split at hz9
    · cases hz9
    · next hy => cases hz9; exact jm_x_ldiv C hd hy k
  · obtain ⟨x, y, t, rfl, hz9⟩ := jm_l2_i ha
    split at hz9
    · cases hz9
    · next hy => cases hz9; exact jm_x_lrem C hd hy k
  · obtain ⟨x, y, t, rfl, hz9⟩ := jm_l2_i ha
    cases hz9; exact jm_x_lcmp C hd k
  · obtain ⟨x, t, rfl, hz9⟩ := jm_1_i ha
    cases hz9; exact jm_x_i2l C hd k
  · obtain ⟨x, t, rfl, hz9⟩ := jm_1_i ha
    cases hz9; exact jm_x_i2b C hd k
  · obtain ⟨x, t, rfl, hz9⟩ := jm_1_i ha
    cases hz9; exact jm_x_i2s C hd k
  · split at ha
    · split at ha
      · next hv => cases ha; exact jm_x_dup C hd hv k
      · cases ha
    · cases ha
  · split at ha
    · split at ha
      · next hv => cases ha; exact jm_x_dup2 C hd hv.1 hv.2 k
      · cases ha
    · cases ha
  · split at ha
    · split at ha
      · next hv => cases ha; exact jm_x_pop C hd hv k
      · cases ha
    · cases ha
  · unfold jm_jmp at ha
    split at ha
    · next hp => cases ha; exact jm_x_goto C hd (Int.toNat_of_nonneg hp).symm k
    · cases ha
  · obtain ⟨x, t, rfl, hz9⟩ := jm_1_i ha
    rcases a with s1 | a1
    · exact jm_x_if C hd hz9 k
    · unfold jm_br at hz9
      split at hz9
      · split at hz9 <;> cases hz9
      · cases hz9
  · obtain ⟨x, y, t, rfl, hz9⟩ := jm_2_i ha
    rcases a with s1 | a1
    · exact jm_x_icmp C hd hz9 k
    · unfold jm_br at hz9
      split at hz9
      · split at hz9 <;> cases hz9
      · cases hz9
  · obtain ⟨x, t, rfl, hz9⟩ := jm_1_i ha
    split at hz9
    · next ho =>
      unfold jm_jmp at hz9
      split at hz9
      · next hp => cases hz9; exact jm_x_tsO C hd ho (Int.toNat_of_nonneg hp).symm k
      · cases hz9
    · next ho =>
      obtain ⟨z, hz, hz9⟩ := jm_ob_i hz9
      unfold jm_jmp at hz9
      split at hz9
      · next hp => cases hz9; exact jm_x_tsI C hd ho hz (Int.toNat_of_nonneg hp).symm k
      · cases hz9
  · obtain ⟨x, t, rfl, hz9⟩ := jm_r1_i ha
    obtain ⟨q, hq, hz9⟩ := jm_ob_i hz9
    obtain ⟨v, hv, hz9⟩ := jm_ob_i hz9
    cases hz9; exact jm_x_getf C hd hq hv k
  · obtain ⟨x, y, t, rfl, hz9⟩ := jm_rx_i ha
    obtain ⟨q, hq, hz9⟩ := jm_ob_i hz9
    obtain ⟨v, hv, hz9⟩ := jm_ob_i hz9
    cases hz9; exact jm_x_putf C hd hq hv k
  · obtain ⟨q, hq, ha⟩ := jm_ob_i ha
    cases ha; exact jm_x_gets C hd hq k
  · obtain ⟨x, y, t, rfl, hz9⟩ := jm_ri_i ha
    obtain ⟨q, hq, hz9⟩ := jm_ob_i hz9
    split at hz9
    · cases hz9
    · next hj => cases hz9; exact jm_x_iaload C hd hq hj k
  · obtain ⟨x, y, t, rfl, hz9⟩ := jm_ri_i ha
    obtain ⟨q, hq, hz9⟩ := jm_ob_i hz9
    split at hz9
    · cases hz9
    · next hj => cases hz9; exact jm_x_baload C hd hq hj k
  · obtain ⟨x, y, u, t, rfl, hz9⟩ := jm_rix_i ha
    obtain ⟨q, hq, hz9⟩ := jm_ob_i hz9
    split at hz9
    · cases hz9
    · next hj => cases hz9; exact jm_x_iastore C hd hq hj k
  · obtain ⟨x, y, u, t, rfl, hz9⟩ := jm_rix_i ha
    obtain ⟨q, hq, hz9⟩ := jm_ob_i hz9
    split at hz9
    · cases hz9
    · next hj => cases hz9; exact jm_x_bastore C hd hq (fun q => hj (q.elim Or.inl (fun q => Or.inr (Or.inl q)))) (Classical.byContradiction fun q => hj (Or.inr (Or.inr q))) k
  · obtain ⟨x, y, t, rfl, hz9⟩ := jm_ri_i ha
    obtain ⟨q, hq, hz9⟩ := jm_ob_i hz9
    split at hz9
    · cases hz9
    · next hj =>
      obtain ⟨r, hr, hz9⟩ := jm_ob_i hz9
      cases hz9; exact jm_x_aaload C hd hq hj hr k
  · obtain ⟨x, t, rfl, hz9⟩ := jm_r1_i ha
    obtain ⟨q, hq, hz9⟩ := jm_ob_i hz9
    cases hz9; exact jm_x_alen C hd hq k
  · exact jm_do_call hm C hc (Or.inl ⟨rfl, rfl⟩) rfl ha k
  · exact jm_do_call hm C hc (Or.inr ⟨rfl, rfl⟩) rfl ha k
  · unfold jm_ret at ha
    split at ha
    · next v =>
      split at ha
      · next hr =>
        cases ha
        intro H locs larr hP hS hl hlen hX
        exact k (Or.inl ⟨v, .int, rfl, hd, hr, rfl⟩) H locs larr hP hS hX
      · next hr =>
        split at ha
        · next h01 =>
          cases ha
          intro H locs larr hP hS hl hlen hX
          exact k (Or.inl ⟨v, .boolean, rfl, hd, hr, by rcases h01 with rfl | rfl <;> decide +kernel⟩) H locs larr hP hS hX
        · cases ha
      · cases ha
    · cases ha
  · unfold jm_lret at ha
    split at ha
    · next v =>
      split at ha
      · next hr =>
        cases ha
        intro H locs larr hP hS hl hlen hX
        exact k (Or.inr (Or.inl ⟨v, rfl, hd, hr⟩)) H locs larr hP hS hX
      · cases ha
    · cases ha
  · unfold jm_vret at ha
    split at ha
    · split at ha
      · next hr =>
        cases ha
        intro H locs larr hP hS hl hlen hX
        exact k (Or.inr (Or.inr ⟨rfl, hd, hr⟩)) H locs larr hP hS hX
      · cases ha
    · cases ha
  · cases ha
end SND4
