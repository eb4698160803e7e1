/-- whom a call names lies ahead of the law -/
theorem jm_call_lt {o z y : Nat} {vir : Bool} {pc : Nat} {ls : jm_L} {st : List Value} {σ : jm_S} {as : List Value} {k : jm_N} {own : String} (ho : jm_own[o]? = some own) (h : jm_call o z vir pc ls st σ = some (.inr (.inr (y, as, k)))) {my : jm_M} (hmy : jm_mt[y]? = some my) : y < 201 := by
  rcases jm_call_split _ _ _ h with ⟨y', pl, hq, hb, hv, h⟩ | ⟨y', pl, my', as', rest, hq, hb, hmy', hs, hlen, hst, hcat, hoc, he⟩
  · unfold jm_nat at h
    split at h
    · obtain ⟨a1, sp, b1, dp, n1, t, rfl, h9⟩ := jm_cp_i h
      obtain ⟨n0, hw0, h9⟩ := jm_ob_i h9
      obtain ⟨n2, hw1, h9⟩ := jm_ob_i h9
      split at h9 <;> cases h9
    · obtain ⟨x, y1, t, rfl, h9⟩ := jm_2_i h
      split at h9 <;> cases h9
    · obtain ⟨x, y1, t, rfl, h9⟩ := jm_2_i h
      split at h9 <;> cases h9
    · obtain ⟨x, t, rfl, h9⟩ := jm_1_i h
      split at h9 <;> cases h9
    · obtain ⟨x, y1, t, rfl, h9⟩ := jm_l2_i h
      split at h9 <;> cases h9
    · cases h
  · cases he
    exact (jm_ml_of ho hq hb hmy').2
theorem jm_do_lt {D : va_G} {α : Nat → Nat} {κ : Nat → ClassId} {xs : Nat → Int32} {L : Nat} {p : Program} {R : Room} {s : State} {mid : MethodId} {args : Array Value} {c : Code} {cells slots : Nat} {A : Nat → Prop} {m : Nat} {mt : jm_M} (hm : jm_mt[m]? = some mt) (C : jm_Cx D α κ xs L p R s mid args c cells slots A mt) {pc : Nat} {ls : jm_L} {st : List Value} {σ : jm_S} {i : Instr} {n : Nat} (hc : jm_code m pc = some (i, n)) {y : Nat} {as : List Value} {k : jm_N} (ha : jm_do mt.1 mt.2.2.2.2.1 i n pc ls st σ = some (.inr (.inr (y, as, k)))) {my : jm_M} (hmy : jm_mt[y]? = some my) : y < 201 := by
  obtain ⟨-, -, -, ⟨own, ho, -⟩, -⟩ := C
  unfold jm_do at ha
  split at ha
  · cases ha
  · cases ha
  · cases ha
  · cases ha
  · obtain ⟨q, hq, ha⟩ := jm_ob_i ha
    cases ha
  · obtain ⟨q, hq, ha⟩ := jm_ob_i ha
    cases ha
  · obtain ⟨q, hq, ha⟩ := jm_ob_i ha
    cases ha
  · obtain ⟨x, hg, ha⟩ := jm_ld_i ha
    cases ha
  · obtain ⟨x, hg, ha⟩ := jm_ld_i ha
    cases ha
  · obtain ⟨x, hg, ha⟩ := jm_ldl_i ha
    cases ha
  · obtain ⟨x, hg, ha⟩ := jm_ldl_i ha
    cases ha
  · obtain ⟨x, hg, ha⟩ := jm_lda_i ha
    cases ha
  · obtain ⟨x, hg, ha⟩ := jm_lda_i ha
    cases ha
  · obtain ⟨x, t, rfl, hz9⟩ := jm_1_i ha
    split at hz9
    · next hz => cases hz9
    · cases hz9
  · obtain ⟨x, t, rfl, hz9⟩ := jm_1_i ha
    split at hz9
    · next hz => cases hz9
    · cases hz9
  · split at ha
    · split at ha
      · next hz => cases ha
      · cases ha
    · cases ha
  · split at ha
    · split at ha
      · next hz => cases ha
      · cases ha
    · cases ha
  · obtain ⟨x, t, rfl, hz9⟩ := jm_r1_i ha
    split at hz9
    · next hz => cases hz9
    · cases hz9
  · obtain ⟨x, t, rfl, hz9⟩ := jm_r1_i ha
    split at hz9
    · next hz => cases hz9
    · cases hz9
  · obtain ⟨x, hg, ha⟩ := jm_ld_i ha
    cases ha
  · obtain ⟨x, y, t, rfl, hz9⟩ := jm_2_i ha
    cases hz9
  · obtain ⟨x, y, t, rfl, hz9⟩ := jm_2_i ha
    cases hz9
  · obtain ⟨x, y, t, rfl, hz9⟩ := jm_2_i ha
    cases hz9
  · obtain ⟨x, y, t, rfl, hz9⟩ := jm_2_i ha
    cases hz9
  · obtain ⟨x, y, t, rfl, hz9⟩ := jm_2_i ha
    cases hz9
  · obtain ⟨x, y, t, rfl, hz9⟩ := jm_2_i ha
    split at hz9
    · cases hz9
    · next hy => cases hz9
  · obtain ⟨x, y, t, rfl, hz9⟩ := jm_2_i ha
    cases hz9
  · obtain ⟨x, y, t, rfl, hz9⟩ := jm_2_i ha
    cases hz9
  · obtain ⟨x, t, rfl, hz9⟩ := jm_1_i ha
    cases hz9
  · obtain ⟨x, y, t, rfl, hz9⟩ := jm_l2_i ha
    cases hz9
  · obtain ⟨x, y, t, rfl, hz9⟩ := jm_l2_i ha
    cases hz9
  · obtain ⟨x, y, t, rfl, hz9⟩ := jm_l2_i ha
    cases hz9
  · obtain ⟨x, y, t, rfl, hz9⟩ := jm_l2_i ha
    split at hz9
    · cases hz9
    · next hy => cases hz9
  · obtain ⟨x, y, t, rfl, hz9⟩ := jm_l2_i ha
    split at hz9
    · cases hz9
    · next hy => cases hz9
  · obtain ⟨x, y, t, rfl, hz9⟩ := jm_l2_i ha
    cases hz9
  · obtain ⟨x, t, rfl, hz9⟩ := jm_1_i ha
    cases hz9
  · obtain ⟨x, t, rfl, hz9⟩ := jm_1_i ha
    cases hz9
  · obtain ⟨x, t, rfl, hz9⟩ := jm_1_i ha
    cases hz9
  · split at ha
    · split at ha
      · next hv => cases ha
      · cases ha
    · cases ha
  · split at ha
    · split at ha
      · next hv => cases ha
      · cases ha
    · cases ha
  · split at ha
    · split at ha
      · next hv => cases ha
      · cases ha
    · cases ha
  · unfold jm_jmp at ha
    split at ha
    · next hp => cases ha
    · cases ha
  · obtain ⟨x, t, rfl, hz9⟩ := jm_1_i ha
    unfold jm_br at hz9
    split at hz9
    · split at hz9 <;> cases hz9
    · cases hz9
  · obtain ⟨x, y, t, rfl, hz9⟩ := jm_2_i ha
    unfold jm_br at hz9
    split at hz9
    · split at hz9 <;> cases hz9
    · cases hz9
  · obtain ⟨x, t, rfl, hz9⟩ := jm_1_i ha
    split at hz9
    · next ho =>
      unfold jm_jmp at hz9
      split at hz9
      · next hp => cases hz9
      · cases hz9
    · next ho =>
      obtain ⟨z, hz, hz9⟩ := jm_ob_i hz9
      unfold jm_jmp at hz9
      split at hz9
      · next hp => cases hz9
      · cases hz9
  · obtain ⟨x, t, rfl, hz9⟩ := jm_r1_i ha
    obtain ⟨q, hq, hz9⟩ := jm_ob_i hz9
    obtain ⟨v, hv, hz9⟩ := jm_ob_i hz9
    cases hz9
  · obtain ⟨x, y, t, rfl, hz9⟩ := jm_rx_i ha
    obtain ⟨q, hq, hz9⟩ := jm_ob_i hz9
    obtain ⟨v, hv, hz9⟩ := jm_ob_i hz9
    cases hz9
  · obtain ⟨q, hq, ha⟩ := jm_ob_i ha
    cases ha
  · obtain ⟨x, y, t, rfl, hz9⟩ := jm_ri_i ha
    obtain ⟨q, hq, hz9⟩ := jm_ob_i hz9
    split at hz9
    · cases hz9
    · next hj => cases hz9
  · obtain ⟨x, y, t, rfl, hz9⟩ := jm_ri_i ha
    obtain ⟨q, hq, hz9⟩ := jm_ob_i hz9
    split at hz9
    · cases hz9
    · next hj => cases hz9
  · obtain ⟨x, y, u, t, rfl, hz9⟩ := jm_rix_i ha
    obtain ⟨q, hq, hz9⟩ := jm_ob_i hz9
    split at hz9
    · cases hz9
    · next hj => cases hz9
  · obtain ⟨x, y, u, t, rfl, hz9⟩ := jm_rix_i ha
    obtain ⟨q, hq, hz9⟩ := jm_ob_i hz9
    split at hz9
    · cases hz9
    · next hj => cases hz9
  · obtain ⟨x, y, t, rfl, hz9⟩ := jm_ri_i ha
    obtain ⟨q, hq, hz9⟩ := jm_ob_i hz9
    split at hz9
    · cases hz9
    · next hj =>
      obtain ⟨r, hr, hz9⟩ := jm_ob_i hz9
      cases hz9
  · obtain ⟨x, t, rfl, hz9⟩ := jm_r1_i ha
    obtain ⟨q, hq, hz9⟩ := jm_ob_i hz9
    cases hz9
  · exact jm_call_lt ho ha hmy
  · exact jm_call_lt ho ha hmy
  · unfold jm_ret at ha
    split at ha
    · next v =>
      split at ha
      · next hr =>
        cases ha
      · next hr =>
        split at ha
        · next h01 =>
          cases ha
        · cases ha
      · cases ha
    · cases ha
  · unfold jm_lret at ha
    split at ha
    · next v =>
      split at ha
      · next hr =>
        cases ha
      · cases ha
    · cases ha
  · unfold jm_vret at ha
    split at ha
    · split at ha
      · next hr =>
        cases ha
      · cases ha
    · cases ha
  · cases ha
theorem jm_ent_map (α : Nat → Nat) (vs : List Value) : jm_ent (vs.map (jm_rv α)) = (jm_ent vs).map (Option.map (jm_rv α)) := by
  induction vs with
  | nil => rfl
  | cons v r ih => cases v <;> simp only [List.map_cons, jm_rv, jm_ent, ih, Option.map_some, Option.map_none]
theorem jm_sl_len (vs : List Value) : (lg_sl vs).length = (jm_ent vs).length := by
  induction vs with
  | nil => rfl
  | cons v r ih =>
    have e : lg_sl (v :: r) = (if v.category = 2 then [.val v, .second] else [.val v]) ++ lg_sl r := rfl
    rw [e, List.length_append, ih]
    cases v <;> simp [jm_ent, Value.category] <;> omega
theorem jm_pad_get {n i : Nat} {l : jm_L} {v : Value} (h : jm_get (jm_pad n l) i = some v) : l[i]? = some (some v) := by
  have h1 := (jm_get_lt h).2
  unfold jm_pad at h1
  by_cases hl : i < l.length
  · rwa [List.getElem?_append_left hl] at h1
  · rw [List.getElem?_append_right (by omega), List.getElem?_replicate] at h1
    split at h1 <;> cases h1
section SND5
variable {D : va_G} {α : Nat → Nat} {κ : Nat → ClassId} {xs : Nat → Int32} {L : Nat} {l : Launch}
/-- from a run of a body, the machine's -/
def jm_Snd (D : va_G) (α : Nat → Nat) (κ : Nat → ClassId) (xs : Nat → Int32) (L : Nat) (l : Launch) (n : Nat) : Prop :=
  ∀ (m : Nat) (N : jm_N) (v : Option Value) (τ : jm_S) (mt : jm_M), jm_mt[m]? = some mt → jm_evF jm_act jm_ini n m N = some (v, τ) → ∀ (p : Program) (e : Env) (R : Room) (s : State) (mid : MethodId) (args : Array Value) (below : List Frame) (meth : Method) (c : Code) (cells slots : Nat) (Q : State → Prop) (A : Nat → Prop), jm_Cx D α κ xs L p R s mid args c cells slots A mt →
    (∀ (pc : Nat) (H : Heap) (locs : List Loc) (larr : Array Slot), jm_RT mt pc v → va_P D jm_cl (jm_enc α κ τ) H → va_S A s.heap H locs → jm_X xs L τ → W p l e R s mid args below meth c H locs cells slots Q (F0 mid pc larr (v.toList.map (jm_rv α)))) →
    jm_W D α κ xs L p l e R s mid args below meth c cells slots Q A mt N
theorem jm_met_of (hinj : jm_inj α) {n y : Nat} (ih : jm_Snd D α κ xs L l n) {my : jm_M} (hmy : jm_mt[y]? = some my) (hy : y < 201) {as : List Value} {σ τ : jm_S} {v : Option Value} (hlen : (jm_ent as).length ≤ my.2.2.2.1) (h : jm_evF jm_act jm_ini n y (0, jm_ini y as, [], σ) = some (v, τ)) : jm_Met D α κ xs L l my as σ v τ := by
  have hY := jm_okY_of hmy hy
  unfold jm_okY at hY
  simp only [Bool.and_eq_true, decide_eq_true_eq] at hY
  obtain ⟨y1, y2, y3, -⟩ := hY
  refine Met.ofW (cc := my.2.2.1) (maxL := my.2.2.2.1) (ret := my.2.2.2.2.1) y3 rfl ?_
  intro p e s mid args below meth c s₁ B hml hv
  obtain ⟨rfl, ⟨hP, hK, hT, hX⟩, hnn⟩ := hv
  have hx := B.exec
  have hb := B.bytes
  have hr := B.returns
  have hts := atoms_spec (ws := jm_ws my) B.pre
  have hown : s.vm.findClass my.2.1.cls = some mid.cls := findClass_of_methodNamed B.named
  have hlocks := B.notSynchronized
  have hl := lv_entry (as.map (jm_rv α)) (n := my.2.2.2.1) (by rw [jm_sl_len, jm_ent_map, List.length_map]; exact hlen)
  rw [lg_entry_eq]
  generalize (lg_sl (as.map (jm_rv α)) ++ List.replicate (my.2.2.2.1 - (lg_sl (as.map (jm_rv α))).length) Slot.unset).toArray = larr at hl ⊢
  have hini : jm_ini y as = jm_pad my.2.2.2.1 (jm_ent as) := by unfold jm_ini; rw [hmy]
  have hl2 : lv_has larr my.2.2.2.1 (jm_lv α (jm_ini y as)) := by
    refine jm_has_sub hl (fun q hq => ?_)
    obtain ⟨u, hu, hq2⟩ := jm_lv_inv hq
    rw [hini] at hu
    have h1 := jm_pad_get hu
    have h2 : (jm_ent (as.map (jm_rv α)))[q.1]? = some (some (jm_rv α u)) := by rw [jm_ent_map, List.getElem?_map, h1]; rfl
    have h3 := jm_ent_lv (as.map (jm_rv α)) 0 q.1 _ h2
    rw [Nat.zero_add, ← hq2] at h3
    exact h3
  have hlen2 : (jm_ini y as).length = my.2.2.2.1 := by
    rw [hini]
    unfold jm_pad
    rw [List.length_append, List.length_replicate]
    omega
  have Cx : jm_Cx D α κ xs L p (headSpec (jm_ws my) (jm_rm my.2.2.2.2.2.1)).room s mid (as.map (jm_rv α)).toArray c 0 0 (jm_A0 α) my :=
    ⟨hx, hb, hml, ⟨_, y1, hown⟩, fun w hw => hts w (List.mem_cons_of_mem _ hw), hK, hT, fun a ha => ⟨a, ha, rfl⟩, ⟨Nat.le_refl _, Nat.le_refl _⟩, ⟨Nat.le_refl _, Nat.le_refl _⟩, hinj, hnn⟩
  have key := ih y _ v τ my hmy h p e _ s mid _ below meth c 0 0 (MQ below (jm_Qc D α κ xs L v τ) (as.map (jm_rv α)).toArray s 0 0 (jm_A0 α)) (jm_A0 α) Cx ?_
  · exact key s.heap [] larr hP va_S.rf hl2 hlen2 hX
  · intro pc H locs larr hrt hP1 hS1 hX1
    have hq : ∀ t : State, t.heap = H → s.WarmedH t.vm → jm_Qc D α κ xs L v τ (as.map (jm_rv α)).toArray s (.returned (v.map (jm_rv α))) t := by
      intro t ht hW
      refine ⟨rfl, ⟨by rw [ht]; exact hP1, hK.moved hW.alike, ?_, hX1⟩, hS1.F ht⟩
      rw [ht]
      exact (hT.kept (fun q h1 h2 => hS1.2.1 q h1 h2)).moved hW.alike
    rcases hrt with ⟨x, ty, rfl, hd, hty, hn⟩ | ⟨x, rfl, hd, hty⟩ | ⟨rfl, hd, hty⟩
    · exact W.zret hx hb (hr.trans hty) hn hq hS1.2.2 hd hlocks
    · exact W.lret hx hb (hr.trans hty) hq hS1.2.2 hd hlocks
    · exact W.vret hx hb (hr.trans hty) hq hS1.2.2 hd hlocks
theorem jm_sound (hinj : jm_inj α) : ∀ n, jm_Snd D α κ xs L l n := by
  intro n
  induction n with
  | zero => intro m N v τ mt hm h; cases h
  | succ n ih =>
    intro m N v τ mt hm h p e R s mid args below meth c cells slots Q A Cx kr
    obtain ⟨pc, ls, st, σ⟩ := N
    rw [jm_evF] at h
    cases ha : jm_act m (pc, ls, st, σ) with
    | none => rw [ha] at h; cases h
    | some a =>
      rw [ha] at h
      obtain ⟨mt', i, k, hm', hc, hlen, hdo⟩ := jm_act_i ha
      cases hm.symm.trans hm'
      refine jm_step hm Cx hc hdo ?_
      rcases a with s1 | r | ⟨y, as, k⟩
      · exact ih m s1 v τ mt hm h p e R s mid args below meth c cells slots Q A Cx kr
      · cases h
        intro hrt H locs larr hP hS hX
        exact kr pc H locs larr hrt hP hS hX
      · dsimp only at h
        cases hcl : jm_evF jm_act jm_ini n y (0, jm_ini y as, [], k.2.2.2) with
        | none => rw [hcl] at h; cases h
        | some vt =>
          obtain ⟨v1, t1⟩ := vt
          rw [hcl] at h
          dsimp only at h
          have hy : ∃ my, jm_mt[y]? = some my ∧ y < 201 ∧ (jm_ent as).length ≤ my.2.2.2.1 := by
            have h2 : jm_act y (0, jm_ini y as, [], k.2.2.2) ≠ none := by
              intro hz
              cases n with
              | zero => cases hcl
              | succ n => rw [jm_evF, hz] at hcl; cases hcl
            cases ha2 : jm_act y (0, jm_ini y as, [], k.2.2.2) with
            | none => exact absurd ha2 h2
            | some a2 =>
              obtain ⟨my, i2, n2, hmy, -, hlen2, -⟩ := jm_act_i ha2
              refine ⟨my, hmy, ?_, ?_⟩
              · exact jm_do_lt hm Cx hc hdo hmy
              · dsimp only at hlen2
                have hini : jm_ini y as = jm_pad my.2.2.2.1 (jm_ent as) := by unfold jm_ini; rw [hmy]
                rw [hini] at hlen2
                unfold jm_pad at hlen2
                rw [List.length_append, List.length_replicate] at hlen2
                omega
          obtain ⟨my, hmy, hyl, hel⟩ := hy
          exact ⟨my, v1, t1, hmy, jm_met_of hinj ih hmy hyl hel hcl, ih m _ v τ mt hm h p e R s mid args below meth c cells slots Q A Cx kr⟩
end SND5
