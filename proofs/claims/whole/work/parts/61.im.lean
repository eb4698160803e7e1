/-! ===== the script stays ===== -/
def stO (A : jm_A) : jm_S := match A with
  | .inl s => s.2.2.2
  | .inr (.inl r) => r.2
  | .inr (.inr q) => q.2.2.2.2.2
theorem sk_lt {a : Nat} {z : jm_C} (h : jm_sk[a]? = some z) : a < 89 := by
  obtain ⟨h1, _⟩ := List.getElem?_eq_some_iff.mp h
  exact h1
theorem wi_lt {a n : Nat} {b : Bool} (h : jm_wi a b = some n) : a < 89 := sk_lt (jm_wi_i h)
theorem pf_im {ci k a : Nat} {x : Int32} {σ τ : jm_S} (h : jm_pf ci k a x σ = some τ) : ∀ c, 89 ≤ c → τ c = σ c := by
  unfold jm_pf at h
  split at h
  · next hs =>
    have := sk_lt hs
    split at h
    · split at h
      · split at h
        · cases h
        · cases h
          intro c hc
          exact jup_n _ _ _ (by omega)
      · cases h
    · cases h
  · cases h
theorem nat_im {k pc : Nat} {ls : jm_L} {st : List Value} {σ : jm_S} {A : jm_A} (h : jm_nat k pc ls st σ = some A) : ∀ c, 89 ≤ c → stO A c = σ c := by
  unfold jm_nat at h
  split at h
  · obtain ⟨a1, sp, b1, dp, n1, t, rfl, h9⟩ := jm_cp_i h
    obtain ⟨n0, hw0, h9⟩ := jm_ob_i h9
    obtain ⟨n2, hw1, h9⟩ := jm_ob_i h9
    have := wi_lt hw1
    split at h9
    · cases h9
    · cases h9
      intro c hc
      exact jrow_n _ _ (by omega)
  · obtain ⟨x, y1, t, rfl, h9⟩ := jm_2_i h
    split at h9 <;> cases h9
    exact fun _ _ => rfl
  · obtain ⟨x, y1, t, rfl, h9⟩ := jm_2_i h
    split at h9 <;> cases h9
    exact fun _ _ => rfl
  · obtain ⟨x, t, rfl, h9⟩ := jm_1_i h
    split at h9 <;> cases h9
    exact fun _ _ => rfl
  · obtain ⟨x, y1, t, rfl, h9⟩ := jm_l2_i h
    split at h9 <;> cases h9
    exact fun _ _ => rfl
  · cases h
theorem call_im {o z : Nat} {vir : Bool} {pc : Nat} {ls : jm_L} {st : List Value} {σ : jm_S} {A : jm_A} (h : jm_call o z vir pc ls st σ = some A) : ∀ c, 89 ≤ c → stO A c = σ c := by
  rcases jm_call_split _ _ _ h with ⟨y', pl, hq, hb, hv, h⟩ | ⟨y', pl, my', as', rest, hq, hb, hmy', hs, hlen, hst, hcat, hoc, he⟩
  · exact nat_im h
  · rw [he]; exact fun _ _ => rfl
theorem ret_im {rt : Option FieldType} {st : List Value} {σ : jm_S} {A : jm_A} (h : jm_ret rt st σ = some A) : ∀ c, 89 ≤ c → stO A c = σ c := by
  unfold jm_ret at h
  split at h
  · split at h
    · cases h; exact fun _ _ => rfl
    · split at h
      · cases h; exact fun _ _ => rfl
      · cases h
    · cases h
  · cases h
theorem lret_im {rt : Option FieldType} {st : List Value} {σ : jm_S} {A : jm_A} (h : jm_lret rt st σ = some A) : ∀ c, 89 ≤ c → stO A c = σ c := by
  unfold jm_lret at h
  split at h
  · split at h
    · cases h; exact fun _ _ => rfl
    · cases h
  · cases h
theorem vret_im {rt : Option FieldType} {st : List Value} {σ : jm_S} {A : jm_A} (h : jm_vret rt st σ = some A) : ∀ c, 89 ≤ c → stO A c = σ c := by
  unfold jm_vret at h
  split at h
  · split at h
    · cases h; exact fun _ _ => rfl
    · cases h
  · cases h
theorem jmp_im {pc : Nat} {off : Int} {ls : jm_L} {st : List Value} {σ : jm_S} {A : jm_A} (h : jm_jmp pc off ls st σ = some A) : ∀ c, 89 ≤ c → stO A c = σ c := by
  unfold jm_jmp at h
  split at h
  · cases h; exact fun _ _ => rfl
  · cases h
theorem br_im {b : Bool} {pc : Nat} {off : Int} {ls : jm_L} {st : List Value} {σ : jm_S} {A : jm_A} (h : jm_br b pc off ls st σ = some A) : ∀ c, 89 ≤ c → stO A c = σ c := by
  unfold jm_br at h
  split at h
  · split at h
    · cases h; exact fun _ _ => rfl
    · cases h; exact fun _ _ => rfl
  · cases h
theorem nx_im {pc : Nat} {ls : jm_L} {st : List Value} {σ : jm_S} {A : jm_A} (h : jm_nx pc ls st σ = some A) : ∀ c, 89 ≤ c → stO A c = σ c := by
  cases h; exact fun _ _ => rfl
theorem ifn_im {P : Prop} {d : Decidable P} {pc : Nat} {ls : jm_L} {st : List Value} {σ : jm_S} {A : jm_A} (h : @ite (Option jm_A) P d none (jm_nx pc ls st σ) = some A) : ∀ c, 89 ≤ c → stO A c = σ c := by
  cases d with
  | isTrue q => cases h
  | isFalse q => exact nx_im h
theorem ifj_im {P : Prop} {d : Decidable P} {pc : Nat} {off : Int} {v : Option Int} {ls : jm_L} {st : List Value} {σ : jm_S} {A : jm_A} (h : @ite (Option jm_A) P d (jm_jmp pc off ls st σ) (jm_ob v fun z => jm_jmp pc z ls st σ) = some A) : ∀ c, 89 ≤ c → stO A c = σ c := by
  cases d with
  | isTrue q => exact jmp_im h
  | isFalse q =>
    obtain ⟨z, hz, h⟩ := jm_ob_i h
    exact jmp_im h
theorem do_im {o : Nat} {rt : Option FieldType} {i : Instr} {n pc : Nat} {ls : jm_L} {st : List Value} {σ : jm_S} {A : jm_A} (ha : jm_do o rt i n pc ls st σ = some A) : ∀ c, 89 ≤ c → stO A c = σ c := by
  unfold jm_do at ha
  split at ha
  all_goals first
    | exact nx_im ha
    | exact jmp_im ha
    | exact call_im ha
    | exact ret_im ha
    | exact lret_im ha
    | exact vret_im ha
    | (obtain ⟨q, hq, ha⟩ := jm_ob_i ha; exact nx_im ha)
    | (obtain ⟨q, hq, ha⟩ := jm_ld_i ha; exact nx_im ha)
    | (obtain ⟨q, hq, ha⟩ := jm_ldl_i ha; exact nx_im ha)
    | (obtain ⟨q, hq, ha⟩ := jm_lda_i ha; exact nx_im ha)
    | (obtain ⟨x, t, rfl, ha⟩ := jm_1_i ha; exact nx_im ha)
    | (obtain ⟨x, t, rfl, ha⟩ := jm_1_i ha; exact br_im ha)
    | (obtain ⟨x, y, t, rfl, ha⟩ := jm_2_i ha; exact nx_im ha)
    | (obtain ⟨x, y, t, rfl, ha⟩ := jm_2_i ha; exact br_im ha)
    | (obtain ⟨x, y, t, rfl, ha⟩ := jm_l2_i ha; exact nx_im ha)
    | (obtain ⟨x, y, t, rfl, ha⟩ := jm_2_i ha; exact ifn_im ha)
    | (obtain ⟨x, y, t, rfl, ha⟩ := jm_l2_i ha; exact ifn_im ha)
    | (obtain ⟨x, t, rfl, ha⟩ := jm_1_i ha; exact ifj_im ha)
    | (obtain ⟨x, t, rfl, ha⟩ := jm_1_i ha; split at ha <;> first | exact nx_im ha | cases ha)
    | (obtain ⟨x, t, rfl, ha⟩ := jm_r1_i ha; split at ha <;> first | exact nx_im ha | cases ha)
    | (obtain ⟨x, y, t, rfl, ha⟩ := jm_2_i ha; split at ha <;> first | exact nx_im ha | cases ha)
    | (obtain ⟨x, y, t, rfl, ha⟩ := jm_l2_i ha; split at ha <;> first | exact nx_im ha | cases ha)
    | (obtain ⟨x, t, rfl, ha⟩ := jm_1_i ha; split at ha <;> first | exact jmp_im ha | (obtain ⟨q, hq, ha⟩ := jm_ob_i ha; exact jmp_im ha))
    | (obtain ⟨x, t, rfl, ha⟩ := jm_r1_i ha; obtain ⟨q, hq, ha⟩ := jm_ob_i ha; exact nx_im ha)
    | (obtain ⟨x, t, rfl, ha⟩ := jm_r1_i ha; obtain ⟨q, hq, ha⟩ := jm_ob_i ha; obtain ⟨v, hv, ha⟩ := jm_ob_i ha; exact nx_im ha)
    | (obtain ⟨x, y, t, rfl, ha⟩ := jm_rx_i ha; obtain ⟨q, hq, ha⟩ := jm_ob_i ha; obtain ⟨v, hv, ha⟩ := jm_ob_i ha; intro c hc; rw [nx_im ha c hc]; exact pf_im hv c hc)
    | (obtain ⟨x, y, t, rfl, ha⟩ := jm_ri_i ha; obtain ⟨q, hq, ha⟩ := jm_ob_i ha; split at ha <;> first | exact nx_im ha | cases ha)
    | (obtain ⟨x, y, t, rfl, ha⟩ := jm_ri_i ha; obtain ⟨q, hq, ha⟩ := jm_ob_i ha; split at ha <;> first | cases ha | (obtain ⟨v, hv, ha⟩ := jm_ob_i ha; exact nx_im ha))
    | (obtain ⟨x, y, z, t, rfl, ha⟩ := jm_rix_i ha; obtain ⟨q, hq, ha⟩ := jm_ob_i ha; have := wi_lt hq; split at ha <;> first | (intro c hc; rw [nx_im ha c hc]; exact jup_n _ _ _ (by omega)) | cases ha)
    | (split at ha <;> first | cases ha | (split at ha <;> first | exact nx_im ha | cases ha))
    | cases ha
theorem act_im {m : Nat} {N : jm_N} {A : jm_A} (h : jm_act m N = some A) : ∀ c, 89 ≤ c → stO A c = N.2.2.2 c := by
  obtain ⟨mt, i, n, h1, h2, h3, h4⟩ := jm_act_i h
  exact do_im h4
theorem evF_im : ∀ (n m : Nat) (N : jm_N) (r : Option Value × jm_S), jm_evF jm_act jm_ini n m N = some r → ∀ c, 89 ≤ c → r.2 c = N.2.2.2 c := by
  intro n
  induction n with
  | zero => intro m N r h; cases h
  | succ n ih =>
    intro m N r h c hc
    rw [jm_evF] at h
    cases ha : jm_act m N with
    | none => rw [ha] at h; cases h
    | some a =>
      rw [ha] at h
      have im := act_im ha c hc
      rcases a with s' | r' | ⟨y, as, k⟩
      · exact (ih _ _ _ h c hc).trans im
      · cases h; exact im
      · dsimp only at h
        cases hq : jm_evF jm_act jm_ini n y (0, jm_ini y as, [], k.2.2.2) with
        | none => rw [hq] at h; cases h
        | some vt =>
          obtain ⟨v, t⟩ := vt
          rw [hq] at h
          exact ((ih _ _ _ h c hc).trans (ih _ _ _ hq c hc)).trans im
theorem jc_im {m : Nat} {as : List Value} {σ τ : jm_S} {v : Option Value} (h : jc m as σ = some (v, τ)) : ∀ c, 89 ≤ c → τ c = σ c := by
  unfold jc jv at h
  obtain ⟨n, hn⟩ := (jm_ev0_iff jm_act jm_ini).mp h
  exact evF_im n _ _ _ hn
