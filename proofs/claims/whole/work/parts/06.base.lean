/-! ===== the pure machine's steps are the machine's ===== -/
def jm_rv (α : Nat → Nat) : Value → Value
  | .ref a => .ref (α a)
  | v => v
theorem jm_rv_cat (α : Nat → Nat) (v : Value) : (jm_rv α v).category = v.category := by cases v <;> rfl
def jm_fv (α : Nat → Nat) (σ : jm_S) (a k : Nat) (f : Option Nat) : Value := match f with
  | none => .int (σ a k)
  | some q => .ref (α q)
def jm_cell (α : Nat → Nat) (κ : Nat → ClassId) (σ : jm_S) (a : Nat) (c : jm_C) : va_E := match c with
  | .inl (ci, fs) => .inr (ci, fs.mapIdx (jm_fv α σ a))
  | .inr (.inl (_, n)) => .inl (κ a, n, .inl (σ a))
  | .inr (.inr (_, ts)) => .inl (κ a, ts.length, .inr (.inr (.inr (.inr (fun i => (ts[i]?).map α)))))
def jm_enc (α : Nat → Nat) (κ : Nat → ClassId) (σ : jm_S) : va_W := jm_sk.mapIdx (fun a c => (α a, jm_cell α κ σ a c))
theorem jm_enc_at {α : Nat → Nat} {κ : Nat → ClassId} {σ : jm_S} {a : Nat} {c : jm_C} (h : jm_sk[a]? = some c) : (jm_enc α κ σ)[a]? = some (α a, jm_cell α κ σ a c) := by
  unfold jm_enc
  rw [List.getElem?_mapIdx, h]
  rfl
theorem jm_enc_inv {α : Nat → Nat} {κ : Nat → ClassId} {σ : jm_S} {a : Nat} {q : Nat × va_E} (h : (jm_enc α κ σ)[a]? = some q) : ∃ c, jm_sk[a]? = some c ∧ q = (α a, jm_cell α κ σ a c) := by
  unfold jm_enc at h
  rw [List.getElem?_mapIdx] at h
  cases hs : jm_sk[a]? with
  | none => rw [hs] at h; cases h
  | some c => rw [hs] at h; cases h; exact ⟨c, rfl, rfl⟩
theorem jm_cell_ne {α : Nat → Nat} {κ : Nat → ClassId} {σ : jm_S} {a b : Nat} {f : Nat → Int32} {c : jm_C} (h : b ≠ a) : jm_cell α κ (jm_row σ a f) b c = jm_cell α κ σ b c := by
  have e : jm_row σ a f b = σ b := by simp [jm_row, h]
  rcases c with ⟨ci, fs⟩ | ⟨b', n⟩ | ⟨C, ts⟩
  · show Sum.inr (ci, fs.mapIdx (jm_fv α (jm_row σ a f) b)) = Sum.inr (ci, fs.mapIdx (jm_fv α σ b))
    have e2 : jm_fv α (jm_row σ a f) b = jm_fv α σ b := by
      funext k o
      cases o with
      | none => simp only [jm_fv, e]
      | some q => rfl
    rw [e2]
  · show Sum.inl _ = Sum.inl _
    rw [e]
  · rfl
theorem jm_enc_set {α : Nat → Nat} {κ : Nat → ClassId} {σ : jm_S} {a : Nat} {c : jm_C} {f : Nat → Int32} {e : va_E} (h : jm_sk[a]? = some c) (he : e = jm_cell α κ (jm_row σ a f) a c) : (jm_enc α κ σ).set a (α a, e) = jm_enc α κ (jm_row σ a f) := by
  subst he
  apply List.ext_getElem?
  intro b
  by_cases hb : a = b
  · subst hb
    have hl : a < (jm_enc α κ σ).length := (List.getElem?_eq_some_iff.mp (jm_enc_at (α := α) (κ := κ) (σ := σ) h)).1
    rw [List.getElem?_set_self hl, jm_enc_at h]
  · rw [List.getElem?_set_ne hb]
    cases hs : jm_sk[b]? with
    | none =>
      unfold jm_enc
      rw [List.getElem?_mapIdx, List.getElem?_mapIdx, hs]
      rfl
    | some c' =>
      rw [jm_enc_at hs, jm_enc_at hs, jm_cell_ne (Ne.symm hb)]
theorem jm_sk_lt {a : Nat} {c : jm_C} (h : jm_sk[a]? = some c) : a < 89 := (List.getElem?_eq_some_iff.mp h).1
def jm_lv (α : Nat → Nat) (ls : jm_L) : List (Nat × Value) := (List.range ls.length).filterMap (fun i => (jm_get ls i).map (fun v => (i, jm_rv α v)))
theorem jm_get_lt {ls : jm_L} {i : Nat} {v : Value} (h : jm_get ls i = some v) : i < ls.length ∧ ls[i]? = some (some v) := by
  unfold jm_get at h
  split at h
  · next w hw => cases h; exact ⟨(List.getElem?_eq_some_iff.mp hw).1, hw⟩
  · cases h
theorem jm_lv_mem {α : Nat → Nat} {ls : jm_L} {i : Nat} {v : Value} (h : jm_get ls i = some v) : (i, jm_rv α v) ∈ jm_lv α ls := by
  refine List.mem_filterMap.mpr ⟨i, List.mem_range.mpr (jm_get_lt h).1, ?_⟩
  rw [h]; rfl
theorem jm_lv_inv {α : Nat → Nat} {ls : jm_L} {q : Nat × Value} (h : q ∈ jm_lv α ls) : ∃ v, jm_get ls q.1 = some v ∧ q.2 = jm_rv α v := by
  obtain ⟨i, -, hi⟩ := List.mem_filterMap.mp h
  cases hg : jm_get ls i with
  | none => rw [hg] at hi; cases hi
  | some v => rw [hg] at hi; cases hi; exact ⟨v, hg, rfl⟩
theorem jm_has_at {α : Nat → Nat} {ls : jm_L} {larr : Array Slot} {nL i : Nat} {v : Value} (hl : lv_has larr nL (jm_lv α ls)) (h : jm_get ls i = some v) : larr[i]? = some (.val (jm_rv α v)) := hl.2.2 _ (jm_lv_mem h)
theorem jm_has_sub {larr : Array Slot} {nL : Nat} {l l' : List (Nat × Value)} (hl : lv_has larr nL l) (h : ∀ q ∈ l', q ∈ l) : lv_has larr nL l' := ⟨hl.1, hl.2.1, fun q hq => hl.2.2 q (h q hq)⟩
theorem jm_pre_len (ls : jm_L) (i : Nat) : (jm_pre ls i).length = ls.length := by
  unfold jm_pre
  split
  · rfl
  · split
    · split <;> simp
    · rfl
theorem jm_pre_get {ls : jm_L} {i j : Nat} {v : Value} (hg : jm_get (jm_pre ls i) j = some v) : jm_get ls j = some v ∧ ¬ (j + 1 = i ∧ v.category = 2) := by
  have h := (jm_get_lt hg).2
  clear hg
  unfold jm_pre at h
  split at h
  · exact ⟨by unfold jm_get; rw [h], fun q => by omega⟩
  · next k =>
    split at h
    · next w hw =>
      have key : ∀ (e : (ls.set k none)[j]? = some (some v)), jm_get ls j = some v ∧ ¬ (j + 1 = k + 1 ∧ v.category = 2) := by
        intro e
        by_cases hk : k = j
        · subst hk
          rw [List.getElem?_set_self (List.getElem?_eq_some_iff.mp hw).1] at e
          cases e
        · rw [List.getElem?_set_ne hk] at e
          exact ⟨by unfold jm_get; rw [e], fun q => hk (by omega)⟩
      split at h
      · exact key h
      · exact key h
      · next hn1 hn2 =>
        refine ⟨by unfold jm_get; rw [h], fun q => ?_⟩
        have hkj : k = j := by omega
        subst hkj
        rw [hw] at h
        cases h
        cases v with
        | long z => exact hn1 z rfl
        | double z => exact hn2 z rfl
        | _ => cases q.2
    · next hn =>
      refine ⟨by unfold jm_get; rw [h], fun q => ?_⟩
      have hkj : k = j := by omega
      subst hkj
      exact hn v h
theorem jm_lv_set1 {α : Nat → Nat} {ls : jm_L} {i : Nat} {v : Value} (hi : i < ls.length) : ∀ q ∈ jm_lv α (jm_set1 ls i v), q ∈ (i, jm_rv α v) :: (jm_lv α ls).filter (fun q => !(q.1 == i) && !(q.1 + 1 == i && q.2.category == 2)) := by
  rintro ⟨j, w⟩ hq
  obtain ⟨u, hu, hw⟩ := jm_lv_inv hq
  dsimp only at hu hw
  subst hw
  by_cases hj : j = i
  · subst hj
    have h2 := (jm_get_lt hu).2
    unfold jm_set1 at h2
    rw [List.getElem?_set_self (by rw [jm_pre_len]; exact hi)] at h2
    cases h2
    exact List.mem_cons_self
  · have h2 := (jm_get_lt hu).2
    unfold jm_set1 at h2
    rw [List.getElem?_set_ne (Ne.symm hj)] at h2
    obtain ⟨h3, h4⟩ := jm_pre_get (ls := ls) (i := i) (j := j) (v := u) (by unfold jm_get; rw [h2])
    refine List.mem_cons_of_mem _ (List.mem_filter.mpr ⟨jm_lv_mem h3, ?_⟩)
    simp only [jm_rv_cat]
    simp [hj]
    by_cases e : j + 1 = i
    · exact Or.inr (fun e2 => h4 ⟨e, e2⟩)
    · exact Or.inl e
theorem jm_lv_set2 {α : Nat → Nat} {ls : jm_L} {i : Nat} {v : Value} (hi : i + 1 < ls.length) : ∀ q ∈ jm_lv α (jm_set2 ls i v), q ∈ (i, jm_rv α v) :: (jm_lv α ls).filter (fun q => !(q.1 == i) && (!(q.1 == i + 1) && !(q.1 + 1 == i && q.2.category == 2))) := by
  rintro ⟨j, w⟩ hq
  obtain ⟨u, hu, hw⟩ := jm_lv_inv hq
  dsimp only at hu hw
  subst hw
  have h2 := (jm_get_lt hu).2
  unfold jm_set2 at h2
  by_cases hj1 : j = i + 1
  · subst hj1
    rw [List.getElem?_set_self (by rw [List.length_set, jm_pre_len]; exact hi)] at h2
    cases h2
  rw [List.getElem?_set_ne (Ne.symm hj1)] at h2
  by_cases hj : j = i
  · subst hj
    rw [List.getElem?_set_self (by rw [jm_pre_len]; omega)] at h2
    cases h2
    exact List.mem_cons_self
  · rw [List.getElem?_set_ne (Ne.symm hj)] at h2
    obtain ⟨h3, h4⟩ := jm_pre_get (ls := ls) (i := i) (j := j) (v := u) (by unfold jm_get; rw [h2])
    refine List.mem_cons_of_mem _ (List.mem_filter.mpr ⟨jm_lv_mem h3, ?_⟩)
    simp only [jm_rv_cat]
    simp [hj, hj1]
    by_cases e : j + 1 = i
    · exact Or.inr (fun e2 => h4 ⟨e, e2⟩)
    · exact Or.inl e
theorem jm_set1_len (ls : jm_L) (i : Nat) (v : Value) : (jm_set1 ls i v).length = ls.length := by
  unfold jm_set1; rw [List.length_set, jm_pre_len]
theorem jm_set2_len (ls : jm_L) (i : Nat) (v : Value) : (jm_set2 ls i v).length = ls.length := by
  unfold jm_set2; rw [List.length_set, List.length_set, jm_pre_len]
theorem jm_ent_lv (vs : List Value) : ∀ (k i : Nat) (v : Value), (jm_ent vs)[i]? = some (some v) → (k + i, v) ∈ lv_args k vs := by
  induction vs with
  | nil => intro k i v h; simp [jm_ent] at h
  | cons u r ih =>
    intro k i v h
    have two : ∀ (w : Value), w.category = 2 → (some w :: none :: jm_ent r)[i]? = some (some v) → (k + i, v) ∈ lv_args k (w :: r) := by
      intro w hw hh
      rw [lv_args]
      match i, hh with
      | 0, hh => cases hh; exact List.mem_cons_self
      | 1, hh => cases hh
      | j + 2, hh =>
        refine List.mem_cons_of_mem _ ?_
        rw [hw]
        have := ih (k + 2) j v (by simpa using hh)
        rw [show k + (j + 2) = k + 2 + j by omega]
        exact this
    have one : ∀ (w : Value), w.category = 1 → (some w :: jm_ent r)[i]? = some (some v) → (k + i, v) ∈ lv_args k (w :: r) := by
      intro w hw hh
      rw [lv_args]
      match i, hh with
      | 0, hh => cases hh; exact List.mem_cons_self
      | j + 1, hh =>
        refine List.mem_cons_of_mem _ ?_
        rw [hw]
        have := ih (k + 1) j v (by simpa using hh)
        rw [show k + (j + 1) = k + 1 + j by omega]
        exact this
    cases u with
    | long z => exact two _ rfl h
    | double z => exact two _ rfl h
    | _ => exact one _ rfl h
