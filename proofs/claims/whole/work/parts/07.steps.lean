/-! ===== what inverts ===== -/
theorem jm_nx_i {pc : Nat} {ls : jm_L} {st : List Value} {σ : jm_S} {s' : jm_N} (h : jm_nx pc ls st σ = some (.inl s')) : s' = (pc, ls, st, σ) := by
  unfold jm_nx at h
  cases h
  rfl
theorem jm_1_i {st : List Value} {f : Int32 → List Value → Option jm_A} {r : jm_A} (h : jm_1 st f = some r) : ∃ x t, st = .int x :: t ∧ f x t = some r := by
  unfold jm_1 at h
  split at h
  · exact ⟨_, _, rfl, h⟩
  · cases h
theorem jm_2_i {st : List Value} {f : Int32 → Int32 → List Value → Option jm_A} {r : jm_A} (h : jm_2 st f = some r) : ∃ x y t, st = .int y :: .int x :: t ∧ f x y t = some r := by
  unfold jm_2 at h
  split at h
  · exact ⟨_, _, _, rfl, h⟩
  · cases h
theorem jm_l2_i {st : List Value} {f : Int64 → Int64 → List Value → Option jm_A} {r : jm_A} (h : jm_l2 st f = some r) : ∃ x y t, st = .long y :: .long x :: t ∧ f x y t = some r := by
  unfold jm_l2 at h
  split at h
  · exact ⟨_, _, _, rfl, h⟩
  · cases h
theorem jm_r1_i {st : List Value} {f : Nat → List Value → Option jm_A} {r : jm_A} (h : jm_r1 st f = some r) : ∃ x t, st = .ref x :: t ∧ f x t = some r := by
  unfold jm_r1 at h
  split at h
  · exact ⟨_, _, rfl, h⟩
  · cases h
theorem jm_ri_i {st : List Value} {f : Nat → Int32 → List Value → Option jm_A} {r : jm_A} (h : jm_ri st f = some r) : ∃ a i t, st = .int i :: .ref a :: t ∧ f a i t = some r := by
  unfold jm_ri at h
  split at h
  · exact ⟨_, _, _, rfl, h⟩
  · cases h
theorem jm_rx_i {st : List Value} {f : Nat → Int32 → List Value → Option jm_A} {r : jm_A} (h : jm_rx st f = some r) : ∃ a i t, st = .int i :: .ref a :: t ∧ f a i t = some r := by
  unfold jm_rx at h
  split at h
  · exact ⟨_, _, _, rfl, h⟩
  · cases h
theorem jm_rix_i {st : List Value} {f : Nat → Int32 → Int32 → List Value → Option jm_A} {r : jm_A} (h : jm_rix st f = some r) : ∃ a i x t, st = .int x :: .int i :: .ref a :: t ∧ f a i x t = some r := by
  unfold jm_rix at h
  split at h
  · exact ⟨_, _, _, _, rfl, h⟩
  · cases h
theorem jm_cp_i {st : List Value} {f : Nat → Int32 → Nat → Int32 → Int32 → List Value → Option jm_A} {r : jm_A} (h : jm_cp st f = some r) : ∃ a sp b dp n t, st = .int n :: .int dp :: .ref b :: .int sp :: .ref a :: t ∧ f a sp b dp n t = some r := by
  unfold jm_cp at h
  split at h
  · exact ⟨_, _, _, _, _, _, rfl, h⟩
  · cases h
theorem jm_ld_i {v : Option Value} {f : Int32 → Option jm_A} {r : jm_A} (h : jm_ld v f = some r) : ∃ x, v = some (.int x) ∧ f x = some r := by
  unfold jm_ld at h
  split at h
  · exact ⟨_, rfl, h⟩
  · cases h
theorem jm_ldl_i {v : Option Value} {f : Int64 → Option jm_A} {r : jm_A} (h : jm_ldl v f = some r) : ∃ x, v = some (.long x) ∧ f x = some r := by
  unfold jm_ldl at h
  split at h
  · exact ⟨_, rfl, h⟩
  · cases h
theorem jm_lda_i {v : Option Value} {f : Nat → Option jm_A} {r : jm_A} (h : jm_lda v f = some r) : ∃ x, v = some (.ref x) ∧ f x = some r := by
  unfold jm_lda at h
  split at h
  · exact ⟨_, rfl, h⟩
  · cases h
theorem jm_ob_i {β : Type} {v : Option β} {f : β → Option jm_A} {r : jm_A} (h : jm_ob v f = some r) : ∃ x, v = some x ∧ f x = some r := by
  unfold jm_ob at h
  split at h
  · exact ⟨_, rfl, h⟩
  · cases h
theorem jm_jmp_i {pc : Nat} {off : Int} {ls : jm_L} {st : List Value} {σ : jm_S} {s' : jm_N} (h : jm_jmp pc off ls st σ = some (.inl s')) : ∃ t : Nat, (pc : Int) + off = (t : Int) ∧ s' = (t, ls, st, σ) := by
  unfold jm_jmp at h
  split at h
  · next hp => exact ⟨((pc : Int) + off).toNat, (Int.toNat_of_nonneg hp).symm, jm_nx_i h⟩
  · cases h
theorem jm_gf_i {ci k a : Nat} {σ : jm_S} {v : Value} (h : jm_gf ci k a σ = some v) : ∃ fs, jm_sk[a]? = some (.inl (ci, fs)) ∧ ((fs[k]? = some none ∧ v = .int (σ a k)) ∨ ∃ q, fs[k]? = some (some q) ∧ v = .ref q) := by
  unfold jm_gf at h
  split at h
  · next c fs hs =>
    split at h
    · next hb =>
      rw [Nat.eq_of_beq_eq_true hb] at hs
      refine ⟨fs, hs, ?_⟩
      split at h
      · next e => cases h; exact Or.inl ⟨e, rfl⟩
      · next q e => cases h; exact Or.inr ⟨q, e, rfl⟩
      · cases h
    · cases h
  · cases h
theorem jm_pf_i {ci k a : Nat} {x : Int32} {σ τ : jm_S} (h : jm_pf ci k a x σ = some τ) : ∃ fs, jm_sk[a]? = some (.inl (ci, fs)) ∧ fs[k]? = some none ∧ (jm_isZ ci k = true → x = 0 ∨ x = 1) ∧ τ = jm_up σ a k x := by
  unfold jm_pf at h
  split at h
  · next c fs hs =>
    split at h
    · next hb =>
      rw [Nat.eq_of_beq_eq_true hb] at hs
      split at h
      · next e =>
        split at h
        · cases h
        · next hz => cases h; exact ⟨fs, hs, e, fun z => Classical.byContradiction fun z2 => hz ⟨z, z2⟩, rfl⟩
      · cases h
    · cases h
  · cases h
theorem jm_wi_i {a : Nat} {b : Bool} {n : Nat} (h : jm_wi a b = some n) : jm_sk[a]? = some (.inr (.inl (b, n))) := by
  unfold jm_wi at h
  split at h
  · next c n' hs =>
    split at h
    · next hc => cases h; rw [hs, hc]
    · cases h
  · cases h
theorem jm_wr_i {a : Nat} {ts : List Nat} (h : jm_wr a = some ts) : ∃ C, jm_sk[a]? = some (.inr (.inr (C, ts))) := by
  unfold jm_wr at h
  split at h
  · next C t' hs => cases h; exact ⟨C, hs⟩
  · cases h
theorem jm_oc_i {a c : Nat} (h : jm_oc a = some c) : ∃ fs, jm_sk[a]? = some (.inl (c, fs)) := by
  unfold jm_oc at h
  split at h
  · next C t' hs => cases h; exact ⟨_, hs⟩
  · cases h
/-! ===== classes ===== -/
theorem jm_clf {ci N : Nat} {C : String} {T : u_T} (h : jm_cl[ci]? = some (C, T, N)) : ∃ ty : Nat → FieldType, (∀ k, k < N → parseFieldDescriptor (T k).2.2.1 = some (ty k)) ∧ (∀ a, a < N → ∀ b, b < N → a ≠ b → (T a).2.1 ≠ (T b).2.1) ∧ ∀ w ∈ u_ws C T N, w ∈ lw_tbl := by
  match ci, h with
  | 0, h => cases h; exact ⟨jY0, jYo0, jNm0, jIn0⟩
  | 1, h => cases h; exact ⟨jY1, jYo1, jNm1, jIn1⟩
  | 2, h => cases h; exact ⟨jY2, jYo2, jNm2, jIn2⟩
  | 3, h => cases h; exact ⟨jY3, jYo3, jNm3, jIn3⟩
  | 4, h => cases h; exact ⟨jY4, jYo4, jNm4, jIn4⟩
  | 5, h => cases h; exact ⟨jY5, jYo5, jNm5, jIn5⟩
  | 6, h => cases h; exact ⟨jY6, jYo6, jNm6, jIn6⟩
  | 7, h => cases h; exact ⟨jY7, jYo7, jNm7, jIn7⟩
  | 8, h => cases h; exact ⟨jY8, jYo8, jNm8, jIn8⟩
  | 9, h => cases h; exact ⟨jY9, jYo9, jNm9, jIn9⟩
  | n + 10, h => simp at h
theorem jm_lays_good {C : String} {T : u_T} {N : Nat} : ∀ w ∈ u_ws C T N, goodWord w = true := by
  intro w hw
  obtain ⟨k, -, rfl⟩ := List.mem_map.mp hw
  unfold u_lay
  split <;> rfl
theorem jm_cli {ci N : Nat} {C : String} {T : u_T} (h : jm_cl[ci]? = some (C, T, N)) : ∀ w ∈ u_ws C T N, w ∈ jm_tg := by
  obtain ⟨-, -, -, h3⟩ := jm_clf h
  exact fun w hw => List.mem_filter.mpr ⟨h3 w hw, jm_lays_good w hw⟩
def jm_okN (c : jm_C) : Bool := match c with
  | .inl (ci, fs) => match jm_cl[ci]? with
    | some (_, T, N) => decide (fs.length = N) && (List.range fs.length).all (fun k => match fs[k]? with
      | some none => !(T k).2.2.2 && (decide ((T k).2.2.1 = "I") || decide ((T k).2.2.1 = "Z"))
      | _ => true)
    | none => false
  | _ => true
theorem jm_okN_all : jm_sk.all jm_okN = true := by decide +kernel
theorem jm_okN_of {a ci k : Nat} {fs : List (Option Nat)} (h : jm_sk[a]? = some (.inl (ci, fs))) : ∃ C T N, jm_cl[ci]? = some (C, T, N) ∧ fs.length = N ∧ (fs[k]? = some none → (T k).2.2.2 = false ∧ ((T k).2.2.1 = "I" ∨ (T k).2.2.1 = "Z")) := by
  have h1 := List.all_eq_true.mp jm_okN_all _ (List.mem_of_getElem? h)
  unfold jm_okN at h1
  dsimp only at h1
  split at h1
  · next C T N hc =>
    rw [Bool.and_eq_true] at h1
    refine ⟨C, T, N, hc, of_decide_eq_true h1.1, fun hk => ?_⟩
    have h2 := List.all_eq_true.mp h1.2 k (List.mem_range.mpr (List.getElem?_eq_some_iff.mp hk).1)
    rw [hk] at h2
    simp only [Bool.and_eq_true, Bool.not_eq_true', Bool.or_eq_true, decide_eq_true_eq] at h2
    exact h2
  · cases h1
/-! ===== the world ===== -/
def jm_bt (b : Bool) : FieldType := match b with
  | true => .boolean
  | false => .int
def jm_kc (κ : Nat → ClassId) (U : State) (a : Nat) (c : jm_C) : Prop := match c with
  | .inl _ => True
  | .inr (.inl (b, _)) => ArrOfT U (κ a) (jm_bt b) ∧ va_RA U (κ a) (jm_bt b)
  | .inr (.inr (C, _)) => ArrOfT U (κ a) (.object C) ∧ va_RA U (κ a) (.object C)
def jm_K (D : va_G) (κ : Nat → ClassId) (U : State) : Prop := va_K D jm_cl [] U ∧ ∀ a c, jm_sk[a]? = some c → jm_kc κ U a c
theorem jm_K.moved {D : va_G} {κ : Nat → ClassId} {u U : State} (hvm : u.vm.Alike U.vm) (h : jm_K D κ u) : jm_K D κ U := by
  refine ⟨va_K.moved hvm h.1, fun a c hc => ?_⟩
  have h1 := h.2 a c hc
  rcases c with ⟨ci, fs⟩ | ⟨b', n⟩ | ⟨C, ts⟩
  · exact trivial
  · exact ⟨arrOfT_moved hvm h1.1, h1.2.moved hvm⟩
  · exact ⟨arrOfT_moved hvm h1.1, h1.2.moved hvm⟩
theorem jm_K.num {D : va_G} {κ : Nat → ClassId} {U : State} (h : jm_K D κ U) {a n : Nat} {b : Bool} (hs : jm_sk[a]? = some (.inr (.inl (b, n)))) : va_K D jm_cl [(κ a, jm_bt b)] U := by
  refine ⟨h.1.1, fun k q hk => ?_⟩
  match k, hk with
  | 0, hk => cases hk; exact h.2 a _ hs
  | k + 1, hk => simp at hk
theorem jm_K.two {D : va_G} {κ : Nat → ClassId} {U : State} (h : jm_K D κ U) {a n a' n' : Nat} {b b' : Bool} (hs : jm_sk[a]? = some (.inr (.inl (b, n)))) (hs' : jm_sk[a']? = some (.inr (.inl (b', n')))) : va_K D jm_cl [(κ a, jm_bt b), (κ a', jm_bt b')] U := by
  refine ⟨h.1.1, fun k q hk => ?_⟩
  match k, hk with
  | 0, hk => cases hk; exact h.2 a _ hs
  | 1, hk => cases hk; exact h.2 a' _ hs'
  | k + 2, hk => simp at hk
theorem jm_K.ref {D : va_G} {κ : Nat → ClassId} {U : State} (h : jm_K D κ U) {a : Nat} {C : String} {ts : List Nat} (hs : jm_sk[a]? = some (.inr (.inr (C, ts)))) : va_K D jm_cl [(κ a, .object C)] U := by
  refine ⟨h.1.1, fun k q hk => ?_⟩
  match k, hk with
  | 0, hk => cases hk; exact h.2 a _ hs
  | k + 1, hk => simp at hk
def jm_T (α : Nat → Nat) (xs : Nat → Int32) (L : Nat) (A : Nat → Prop) (U : State) (H : Heap) : Prop :=
  (∀ i q, jm_stv[i]? = some q → va_Z "PopPan" q.1 "[I" (.ref (α (1000 + i))) A U H ∧ va_T .int (α (1000 + i)) q.2.length (fun j => .int (q.2.getD j 0)) A U H) ∧ va_T .int (α 1005) L (fun j => .int (xs j)) A U H
theorem jm_T.moved {α : Nat → Nat} {xs : Nat → Int32} {L : Nat} {A : Nat → Prop} {u U : State} {H : Heap} (hvm : u.vm.Alike U.vm) (h : jm_T α xs L A u H) : jm_T α xs L A U H :=
  ⟨fun i q hq => ⟨(h.1 i q hq).1.moved hvm, (h.1 i q hq).2.moved hvm⟩, h.2.moved hvm⟩
theorem jm_T.kept {α : Nat → Nat} {xs : Nat → Int32} {L : Nat} {A : Nat → Prop} {U : State} {H H1 : Heap} (h : jm_T α xs L A U H) (hq : ∀ a : Nat, a < H.size → ¬ A a → H1[a]? = H[a]?) : jm_T α xs L A U H1 :=
  ⟨fun i q h1 => ⟨(h.1 i q h1).1.kept hq, (h.1 i q h1).2.kept hq⟩, h.2.kept hq⟩
theorem jm_T.narrow {α : Nat → Nat} {xs : Nat → Int32} {L : Nat} {A B : Nat → Prop} {U : State} {H : Heap} (h : jm_T α xs L A U H) (hAB : ∀ q, B q → A q) : jm_T α xs L B U H :=
  ⟨fun i q h1 => ⟨(h.1 i q h1).1.narrow hAB, (h.1 i q h1).2.narrow hAB⟩, h.2.narrow hAB⟩
def jm_A0 (α : Nat → Nat) : Nat → Prop := fun q => ∃ a, a < 89 ∧ q = α a
def jm_inj (α : Nat → Nat) : Prop := ∀ a b, a < 89 → b < 89 → α a = α b → a = b
theorem jm_enc_D {α : Nat → Nat} {κ : Nat → ClassId} {σ : jm_S} {A : Nat → Prop} (hi : jm_inj α) (hA : ∀ a, a < 89 → A (α a)) : va_D A (jm_enc α κ σ) := by
  refine ⟨fun i j p q h1 h2 e => ?_, fun k q h => ?_⟩
  · obtain ⟨c1, s1, rfl⟩ := jm_enc_inv h1
    obtain ⟨c2, s2, rfl⟩ := jm_enc_inv h2
    exact hi i j (jm_sk_lt s1) (jm_sk_lt s2) e
  · obtain ⟨c1, s1, rfl⟩ := jm_enc_inv h
    exact hA k (jm_sk_lt s1)
def jm_X (xs : Nat → Int32) (L : Nat) (σ : jm_S) : Prop := σ 1005 = xs ∧ (σ 1006 0).toNatClampNeg = L
theorem jm_X.row {xs : Nat → Int32} {L : Nat} {σ : jm_S} (h : jm_X xs L σ) {a : Nat} (ha : a < 89) (f : Nat → Int32) : jm_X xs L (jm_row σ a f) := by
  refine ⟨?_, ?_⟩
  · unfold jm_row
    rw [if_neg (by omega)]
    exact h.1
  · unfold jm_row
    rw [if_neg (by omega)]
    exact h.2
def jm_Nn (U : State) : Prop := ∀ a i b n d h, Cond.fieldLinkNest a i b n d h ∈ lw_tbl → va_Nw (.fieldLinkNest a i b n d h) U
section SND
variable {D : va_G} {α : Nat → Nat} {κ : Nat → ClassId} {xs : Nat → Int32} {L : Nat}
variable {p : Program} {l : Launch} {e : Env} {R : Room} {s : State} {mid : MethodId} {args : Array Value} {below : List Frame} {meth : Method} {c : Code} {cells slots : Nat} {Q : State → Prop} {A : Nat → Prop}
def jm_Cx (D : va_G) (α : Nat → Nat) (κ : Nat → ClassId) (xs : Nat → Int32) (L : Nat) (p : Program) (R : Room) (s : State) (mid : MethodId) (args : Array Value) (c : Code) (cells slots : Nat) (A : Nat → Prop) (mt : jm_M) : Prop :=
  p.tables.exec = Jvm.exec ∧ c.code = mt.2.2.1 ∧ c.maxLocals = mt.2.2.2.1 ∧ (∃ own, jm_own[mt.1]? = some own ∧ s.vm.findClass own = some mid.cls) ∧ (∀ w ∈ jm_tg, w.before args s = true) ∧ jm_K D κ s ∧ jm_T α xs L A s s.heap ∧ (∀ a, a < 89 → A (α a)) ∧ (mt.2.2.2.2.2.1 ≤ R.frames ∧ 38 * mt.2.2.2.2.2.1 ≤ R.locals) ∧ (cells ≤ R.cells ∧ slots ≤ R.slots) ∧ jm_inj α ∧ jm_Nn s
def jm_W (D : va_G) (α : Nat → Nat) (κ : Nat → ClassId) (xs : Nat → Int32) (L : Nat) (p : Program) (l : Launch) (e : Env) (R : Room) (s : State) (mid : MethodId) (args : Array Value) (below : List Frame) (meth : Method) (c : Code) (cells slots : Nat) (Q : State → Prop) (A : Nat → Prop) (mt : jm_M) (N : jm_N) : Prop :=
  ∀ (H : Heap) (locs : List Loc) (larr : Array Slot), va_P D jm_cl (jm_enc α κ N.2.2.2) H → va_S A s.heap H locs → lv_has larr mt.2.2.2.1 (jm_lv α N.2.1) → N.2.1.length = mt.2.2.2.1 → jm_X xs L N.2.2.2 → W p l e R s mid args below meth c H locs cells slots Q (F0 mid N.1 larr (N.2.2.1.map (jm_rv α)))

theorem jm_x_iconst {mt : jm_M} (C : jm_Cx D α κ xs L p R s mid args c cells slots A mt) {pc : Nat} {ls : jm_L} {σ : jm_S} {st : List Value} {z : Int} (hd : decode mt.2.2.1 pc = .ok (.iconst z, 1)) (k : jm_W D α κ xs L p l e R s mid args below meth c cells slots Q A mt (pc + 1, ls, .int (Int32.ofInt z) :: st, σ)) : jm_W D α κ xs L p l e R s mid args below meth c cells slots Q A mt (pc, ls, st, σ) := by
  obtain ⟨hx, hb, hml, ⟨own, ho, hown⟩, hts, hK, hT, hA, hR, hcs, hinj, hnn⟩ := C
  intro H locs larr hP hS hl hlen hX
  exact lv_iconst hx hb hd rfl (k H locs larr hP hS hl hlen hX)

theorem jm_x_bipush {mt : jm_M} (C : jm_Cx D α κ xs L p R s mid args c cells slots A mt) {pc : Nat} {ls : jm_L} {σ : jm_S} {st : List Value} {z : Int} (hd : decode mt.2.2.1 pc = .ok (.bipush z, 2)) (k : jm_W D α κ xs L p l e R s mid args below meth c cells slots Q A mt (pc + 2, ls, .int (Int8.ofInt z).toInt32 :: st, σ)) : jm_W D α κ xs L p l e R s mid args below meth c cells slots Q A mt (pc, ls, st, σ) := by
  obtain ⟨hx, hb, hml, ⟨own, ho, hown⟩, hts, hK, hT, hA, hR, hcs, hinj, hnn⟩ := C
  intro H locs larr hP hS hl hlen hX
  exact lv_bipush hx hb hd rfl (k H locs larr hP hS hl hlen hX)

theorem jm_x_sipush {mt : jm_M} (C : jm_Cx D α κ xs L p R s mid args c cells slots A mt) {pc : Nat} {ls : jm_L} {σ : jm_S} {st : List Value} {z : Int} (hd : decode mt.2.2.1 pc = .ok (.sipush z, 3)) (k : jm_W D α κ xs L p l e R s mid args below meth c cells slots Q A mt (pc + 3, ls, .int (Int16.ofInt z).toInt32 :: st, σ)) : jm_W D α κ xs L p l e R s mid args below meth c cells slots Q A mt (pc, ls, st, σ) := by
  obtain ⟨hx, hb, hml, ⟨own, ho, hown⟩, hts, hK, hT, hA, hR, hcs, hinj, hnn⟩ := C
  intro H locs larr hP hS hl hlen hX
  exact lv_sipush hx hb hd rfl (k H locs larr hP hS hl hlen hX)

theorem jm_x_lconst {mt : jm_M} (C : jm_Cx D α κ xs L p R s mid args c cells slots A mt) {pc : Nat} {ls : jm_L} {σ : jm_S} {st : List Value} {z : Fin 2} (hd : decode mt.2.2.1 pc = .ok (.lconst z, 1)) (k : jm_W D α κ xs L p l e R s mid args below meth c cells slots Q A mt (pc + 1, ls, .long (Int64.ofNat (z : Nat)) :: st, σ)) : jm_W D α κ xs L p l e R s mid args below meth c cells slots Q A mt (pc, ls, st, σ) := by
  obtain ⟨hx, hb, hml, ⟨own, ho, hown⟩, hts, hK, hT, hA, hR, hcs, hinj, hnn⟩ := C
  intro H locs larr hP hS hl hlen hX
  exact lv_lconst hx hb hd rfl (k H locs larr hP hS hl hlen hX)

theorem jm_x_iload_n {mt : jm_M} (C : jm_Cx D α κ xs L p R s mid args c cells slots A mt) {pc : Nat} {ls : jm_L} {σ : jm_S} {st : List Value} {z : Fin 4} {x : Int32} (hd : decode mt.2.2.1 pc = .ok (.iload_n z, 1)) (hg : jm_get ls z = some (.int x)) (k : jm_W D α κ xs L p l e R s mid args below meth c cells slots Q A mt (pc + 1, ls, .int x :: st, σ)) : jm_W D α κ xs L p l e R s mid args below meth c cells slots Q A mt (pc, ls, st, σ) := by
  obtain ⟨hx, hb, hml, ⟨own, ho, hown⟩, hts, hK, hT, hA, hR, hcs, hinj, hnn⟩ := C
  intro H locs larr hP hS hl hlen hX
  exact lv_iload_n hx hb hd rfl (jm_has_at hl hg) (k H locs larr hP hS hl hlen hX)

theorem jm_x_iload {mt : jm_M} (C : jm_Cx D α κ xs L p R s mid args c cells slots A mt) {pc : Nat} {ls : jm_L} {σ : jm_S} {st : List Value} {z : Nat} {x : Int32} (hd : decode mt.2.2.1 pc = .ok (.iload z, 2)) (hg : jm_get ls z = some (.int x)) (k : jm_W D α κ xs L p l e R s mid args below meth c cells slots Q A mt (pc + 2, ls, .int x :: st, σ)) : jm_W D α κ xs L p l e R s mid args below meth c cells slots Q A mt (pc, ls, st, σ) := by
  obtain ⟨hx, hb, hml, ⟨own, ho, hown⟩, hts, hK, hT, hA, hR, hcs, hinj, hnn⟩ := C
  intro H locs larr hP hS hl hlen hX
  exact lv_iload hx hb hd (jm_has_at hl hg) (k H locs larr hP hS hl hlen hX)

theorem jm_x_istore_n {mt : jm_M} (C : jm_Cx D α κ xs L p R s mid args c cells slots A mt) {pc : Nat} {ls : jm_L} {σ : jm_S} {st : List Value} {z : Fin 4} {x : Int32} (hd : decode mt.2.2.1 pc = .ok (.istore_n z, 1)) (hz : (z : Nat) < ls.length) (k : jm_W D α κ xs L p l e R s mid args below meth c cells slots Q A mt (pc + 1, jm_set1 ls z (.int x), st, σ)) : jm_W D α κ xs L p l e R s mid args below meth c cells slots Q A mt (pc, ls, .int x :: st, σ) := by
  obtain ⟨hx, hb, hml, ⟨own, ho, hown⟩, hts, hK, hT, hA, hR, hcs, hinj, hnn⟩ := C
  intro H locs larr hP hS hl hlen hX
  refine lv_istore_n hx hb hd rfl hl (by rw [← hlen]; exact hz) rfl (fun la ha => ?_)
  exact k H locs la hP hS (jm_has_sub ha (jm_lv_set1 hz)) (by rw [← hlen]; exact jm_set1_len _ _ _) hX

theorem jm_x_istore {mt : jm_M} (C : jm_Cx D α κ xs L p R s mid args c cells slots A mt) {pc : Nat} {ls : jm_L} {σ : jm_S} {st : List Value} {z : Nat} {x : Int32} (hd : decode mt.2.2.1 pc = .ok (.istore z, 2)) (hz : z < ls.length) (k : jm_W D α κ xs L p l e R s mid args below meth c cells slots Q A mt (pc + 2, jm_set1 ls z (.int x), st, σ)) : jm_W D α κ xs L p l e R s mid args below meth c cells slots Q A mt (pc, ls, .int x :: st, σ) := by
  obtain ⟨hx, hb, hml, ⟨own, ho, hown⟩, hts, hK, hT, hA, hR, hcs, hinj, hnn⟩ := C
  intro H locs larr hP hS hl hlen hX
  refine lv_istore hx hb hd hl (by rw [← hlen]; exact hz) rfl (fun la ha => ?_)
  exact k H locs la hP hS (jm_has_sub ha (jm_lv_set1 hz)) (by rw [← hlen]; exact jm_set1_len _ _ _) hX

theorem jm_x_lload_n {mt : jm_M} (C : jm_Cx D α κ xs L p R s mid args c cells slots A mt) {pc : Nat} {ls : jm_L} {σ : jm_S} {st : List Value} {z : Fin 4} {x : Int64} (hd : decode mt.2.2.1 pc = .ok (.lload_n z, 1)) (hg : jm_get ls z = some (.long x)) (k : jm_W D α κ xs L p l e R s mid args below meth c cells slots Q A mt (pc + 1, ls, .long x :: st, σ)) : jm_W D α κ xs L p l e R s mid args below meth c cells slots Q A mt (pc, ls, st, σ) := by
  obtain ⟨hx, hb, hml, ⟨own, ho, hown⟩, hts, hK, hT, hA, hR, hcs, hinj, hnn⟩ := C
  intro H locs larr hP hS hl hlen hX
  exact lv_lload_n hx hb hd rfl (jm_has_at hl hg) (k H locs larr hP hS hl hlen hX)

theorem jm_x_lload {mt : jm_M} (C : jm_Cx D α κ xs L p R s mid args c cells slots A mt) {pc : Nat} {ls : jm_L} {σ : jm_S} {st : List Value} {z : Nat} {x : Int64} (hd : decode mt.2.2.1 pc = .ok (.lload z, 2)) (hg : jm_get ls z = some (.long x)) (k : jm_W D α κ xs L p l e R s mid args below meth c cells slots Q A mt (pc + 2, ls, .long x :: st, σ)) : jm_W D α κ xs L p l e R s mid args below meth c cells slots Q A mt (pc, ls, st, σ) := by
  obtain ⟨hx, hb, hml, ⟨own, ho, hown⟩, hts, hK, hT, hA, hR, hcs, hinj, hnn⟩ := C
  intro H locs larr hP hS hl hlen hX
  exact lv_lload hx hb hd (jm_has_at hl hg) (k H locs larr hP hS hl hlen hX)

theorem jm_x_lstore_n {mt : jm_M} (C : jm_Cx D α κ xs L p R s mid args c cells slots A mt) {pc : Nat} {ls : jm_L} {σ : jm_S} {st : List Value} {z : Fin 4} {x : Int64} (hd : decode mt.2.2.1 pc = .ok (.lstore_n z, 1)) (hz : (z : Nat) + 1 < ls.length) (k : jm_W D α κ xs L p l e R s mid args below meth c cells slots Q A mt (pc + 1, jm_set2 ls z (.long x), st, σ)) : jm_W D α κ xs L p l e R s mid args below meth c cells slots Q A mt (pc, ls, .long x :: st, σ) := by
  obtain ⟨hx, hb, hml, ⟨own, ho, hown⟩, hts, hK, hT, hA, hR, hcs, hinj, hnn⟩ := C
  intro H locs larr hP hS hl hlen hX
  refine lv_lstore_n hx hb hd rfl hl (by rw [← hlen]; exact hz) rfl (fun la ha => ?_)
  exact k H locs la hP hS (jm_has_sub ha (jm_lv_set2 hz)) (by rw [← hlen]; exact jm_set2_len _ _ _) hX

theorem jm_x_lstore {mt : jm_M} (C : jm_Cx D α κ xs L p R s mid args c cells slots A mt) {pc : Nat} {ls : jm_L} {σ : jm_S} {st : List Value} {z : Nat} {x : Int64} (hd : decode mt.2.2.1 pc = .ok (.lstore z, 2)) (hz : z + 1 < ls.length) (k : jm_W D α κ xs L p l e R s mid args below meth c cells slots Q A mt (pc + 2, jm_set2 ls z (.long x), st, σ)) : jm_W D α κ xs L p l e R s mid args below meth c cells slots Q A mt (pc, ls, .long x :: st, σ) := by
  obtain ⟨hx, hb, hml, ⟨own, ho, hown⟩, hts, hK, hT, hA, hR, hcs, hinj, hnn⟩ := C
  intro H locs larr hP hS hl hlen hX
  refine lv_lstore hx hb hd hl (by rw [← hlen]; exact hz) rfl (fun la ha => ?_)
  exact k H locs la hP hS (jm_has_sub ha (jm_lv_set2 hz)) (by rw [← hlen]; exact jm_set2_len _ _ _) hX

theorem jm_x_aload_n {mt : jm_M} (C : jm_Cx D α κ xs L p R s mid args c cells slots A mt) {pc : Nat} {ls : jm_L} {σ : jm_S} {st : List Value} {z : Fin 4} {x : Nat} (hd : decode mt.2.2.1 pc = .ok (.aload_n z, 1)) (hg : jm_get ls z = some (.ref x)) (k : jm_W D α κ xs L p l e R s mid args below meth c cells slots Q A mt (pc + 1, ls, .ref x :: st, σ)) : jm_W D α κ xs L p l e R s mid args below meth c cells slots Q A mt (pc, ls, st, σ) := by
  obtain ⟨hx, hb, hml, ⟨own, ho, hown⟩, hts, hK, hT, hA, hR, hcs, hinj, hnn⟩ := C
  intro H locs larr hP hS hl hlen hX
  exact lv_aload_n hx hb hd rfl (jm_has_at hl hg) (k H locs larr hP hS hl hlen hX)

theorem jm_x_aload {mt : jm_M} (C : jm_Cx D α κ xs L p R s mid args c cells slots A mt) {pc : Nat} {ls : jm_L} {σ : jm_S} {st : List Value} {z : Nat} {x : Nat} (hd : decode mt.2.2.1 pc = .ok (.aload z, 2)) (hg : jm_get ls z = some (.ref x)) (k : jm_W D α κ xs L p l e R s mid args below meth c cells slots Q A mt (pc + 2, ls, .ref x :: st, σ)) : jm_W D α κ xs L p l e R s mid args below meth c cells slots Q A mt (pc, ls, st, σ) := by
  obtain ⟨hx, hb, hml, ⟨own, ho, hown⟩, hts, hK, hT, hA, hR, hcs, hinj, hnn⟩ := C
  intro H locs larr hP hS hl hlen hX
  exact lv_aload hx hb hd (jm_has_at hl hg) (k H locs larr hP hS hl hlen hX)

theorem jm_x_astore_n {mt : jm_M} (C : jm_Cx D α κ xs L p R s mid args c cells slots A mt) {pc : Nat} {ls : jm_L} {σ : jm_S} {st : List Value} {z : Fin 4} {x : Nat} (hd : decode mt.2.2.1 pc = .ok (.astore_n z, 1)) (hz : (z : Nat) < ls.length) (k : jm_W D α κ xs L p l e R s mid args below meth c cells slots Q A mt (pc + 1, jm_set1 ls z (.ref x), st, σ)) : jm_W D α κ xs L p l e R s mid args below meth c cells slots Q A mt (pc, ls, .ref x :: st, σ) := by
  obtain ⟨hx, hb, hml, ⟨own, ho, hown⟩, hts, hK, hT, hA, hR, hcs, hinj, hnn⟩ := C
  intro H locs larr hP hS hl hlen hX
  refine lv_astore_n hx hb hd rfl hl (by rw [← hlen]; exact hz) rfl (fun la ha => ?_)
  exact k H locs la hP hS (jm_has_sub ha (jm_lv_set1 hz)) (by rw [← hlen]; exact jm_set1_len _ _ _) hX

theorem jm_x_astore {mt : jm_M} (C : jm_Cx D α κ xs L p R s mid args c cells slots A mt) {pc : Nat} {ls : jm_L} {σ : jm_S} {st : List Value} {z : Nat} {x : Nat} (hd : decode mt.2.2.1 pc = .ok (.astore z, 2)) (hz : z < ls.length) (k : jm_W D α κ xs L p l e R s mid args below meth c cells slots Q A mt (pc + 2, jm_set1 ls z (.ref x), st, σ)) : jm_W D α κ xs L p l e R s mid args below meth c cells slots Q A mt (pc, ls, .ref x :: st, σ) := by
  obtain ⟨hx, hb, hml, ⟨own, ho, hown⟩, hts, hK, hT, hA, hR, hcs, hinj, hnn⟩ := C
  intro H locs larr hP hS hl hlen hX
  refine lv_astore hx hb hd hl (by rw [← hlen]; exact hz) rfl (fun la ha => ?_)
  exact k H locs la hP hS (jm_has_sub ha (jm_lv_set1 hz)) (by rw [← hlen]; exact jm_set1_len _ _ _) hX

theorem jm_x_iinc {mt : jm_M} (C : jm_Cx D α κ xs L p R s mid args c cells slots A mt) {pc : Nat} {ls : jm_L} {σ : jm_S} {st : List Value} {z : Nat} {y : Int} {x : Int32} (hd : decode mt.2.2.1 pc = .ok (.iinc z y, 3)) (hg : jm_get ls z = some (.int x)) (k : jm_W D α κ xs L p l e R s mid args below meth c cells slots Q A mt (pc + 3, jm_set1 ls z (.int (x + Int32.ofInt y)), st, σ)) : jm_W D α κ xs L p l e R s mid args below meth c cells slots Q A mt (pc, ls, st, σ) := by
  obtain ⟨hx, hb, hml, ⟨own, ho, hown⟩, hts, hK, hT, hA, hR, hcs, hinj, hnn⟩ := C
  intro H locs larr hP hS hl hlen hX
  obtain ⟨j, hj⟩ := List.getElem?_of_mem (jm_lv_mem (α := α) hg)
  have hz := (jm_get_lt hg).1
  refine lv_iinc hx hb hd hl (k := j) hj rfl (by rw [← hlen]; exact hz) rfl (fun la ha => ?_)
  exact k H locs la hP hS (jm_has_sub ha (jm_lv_set1 hz)) (by rw [← hlen]; exact jm_set1_len _ _ _) hX

theorem jm_x_iadd {mt : jm_M} (C : jm_Cx D α κ xs L p R s mid args c cells slots A mt) {pc : Nat} {ls : jm_L} {σ : jm_S} {st : List Value} {x y : Int32} (hd : decode mt.2.2.1 pc = .ok (.iadd, 1)) (k : jm_W D α κ xs L p l e R s mid args below meth c cells slots Q A mt (pc + 1, ls, .int (x + y) :: st, σ)) : jm_W D α κ xs L p l e R s mid args below meth c cells slots Q A mt (pc, ls, .int y :: .int x :: st, σ) := by
  obtain ⟨hx, hb, hml, ⟨own, ho, hown⟩, hts, hK, hT, hA, hR, hcs, hinj, hnn⟩ := C
  intro H locs larr hP hS hl hlen hX
  exact lv_iadd hx hb hd (k H locs larr hP hS hl hlen hX)

theorem jm_x_isub {mt : jm_M} (C : jm_Cx D α κ xs L p R s mid args c cells slots A mt) {pc : Nat} {ls : jm_L} {σ : jm_S} {st : List Value} {x y : Int32} (hd : decode mt.2.2.1 pc = .ok (.isub, 1)) (k : jm_W D α κ xs L p l e R s mid args below meth c cells slots Q A mt (pc + 1, ls, .int (x - y) :: st, σ)) : jm_W D α κ xs L p l e R s mid args below meth c cells slots Q A mt (pc, ls, .int y :: .int x :: st, σ) := by
  obtain ⟨hx, hb, hml, ⟨own, ho, hown⟩, hts, hK, hT, hA, hR, hcs, hinj, hnn⟩ := C
  intro H locs larr hP hS hl hlen hX
  exact lv_isub hx hb hd (k H locs larr hP hS hl hlen hX)

theorem jm_x_imul {mt : jm_M} (C : jm_Cx D α κ xs L p R s mid args c cells slots A mt) {pc : Nat} {ls : jm_L} {σ : jm_S} {st : List Value} {x y : Int32} (hd : decode mt.2.2.1 pc = .ok (.imul, 1)) (k : jm_W D α κ xs L p l e R s mid args below meth c cells slots Q A mt (pc + 1, ls, .int (x * y) :: st, σ)) : jm_W D α κ xs L p l e R s mid args below meth c cells slots Q A mt (pc, ls, .int y :: .int x :: st, σ) := by
  obtain ⟨hx, hb, hml, ⟨own, ho, hown⟩, hts, hK, hT, hA, hR, hcs, hinj, hnn⟩ := C
  intro H locs larr hP hS hl hlen hX
  exact lv_imul hx hb hd (k H locs larr hP hS hl hlen hX)

theorem jm_x_iand {mt : jm_M} (C : jm_Cx D α κ xs L p R s mid args c cells slots A mt) {pc : Nat} {ls : jm_L} {σ : jm_S} {st : List Value} {x y : Int32} (hd : decode mt.2.2.1 pc = .ok (.iand, 1)) (k : jm_W D α κ xs L p l e R s mid args below meth c cells slots Q A mt (pc + 1, ls, .int (x &&& y) :: st, σ)) : jm_W D α κ xs L p l e R s mid args below meth c cells slots Q A mt (pc, ls, .int y :: .int x :: st, σ) := by
  obtain ⟨hx, hb, hml, ⟨own, ho, hown⟩, hts, hK, hT, hA, hR, hcs, hinj, hnn⟩ := C
  intro H locs larr hP hS hl hlen hX
  exact lv_iand hx hb hd (k H locs larr hP hS hl hlen hX)

theorem jm_x_ixor {mt : jm_M} (C : jm_Cx D α κ xs L p R s mid args c cells slots A mt) {pc : Nat} {ls : jm_L} {σ : jm_S} {st : List Value} {x y : Int32} (hd : decode mt.2.2.1 pc = .ok (.ixor, 1)) (k : jm_W D α κ xs L p l e R s mid args below meth c cells slots Q A mt (pc + 1, ls, .int (x ^^^ y) :: st, σ)) : jm_W D α κ xs L p l e R s mid args below meth c cells slots Q A mt (pc, ls, .int y :: .int x :: st, σ) := by
  obtain ⟨hx, hb, hml, ⟨own, ho, hown⟩, hts, hK, hT, hA, hR, hcs, hinj, hnn⟩ := C
  intro H locs larr hP hS hl hlen hX
  exact lv_ixor hx hb hd (k H locs larr hP hS hl hlen hX)

theorem jm_x_ishl {mt : jm_M} (C : jm_Cx D α κ xs L p R s mid args c cells slots A mt) {pc : Nat} {ls : jm_L} {σ : jm_S} {st : List Value} {x y : Int32} (hd : decode mt.2.2.1 pc = .ok (.ishl, 1)) (k : jm_W D α κ xs L p l e R s mid args below meth c cells slots Q A mt (pc + 1, ls, .int (x <<< (y &&& 31)) :: st, σ)) : jm_W D α κ xs L p l e R s mid args below meth c cells slots Q A mt (pc, ls, .int y :: .int x :: st, σ) := by
  obtain ⟨hx, hb, hml, ⟨own, ho, hown⟩, hts, hK, hT, hA, hR, hcs, hinj, hnn⟩ := C
  intro H locs larr hP hS hl hlen hX
  exact lv_ishl hx hb hd (k H locs larr hP hS hl hlen hX)

theorem jm_x_ishr {mt : jm_M} (C : jm_Cx D α κ xs L p R s mid args c cells slots A mt) {pc : Nat} {ls : jm_L} {σ : jm_S} {st : List Value} {x y : Int32} (hd : decode mt.2.2.1 pc = .ok (.ishr, 1)) (k : jm_W D α κ xs L p l e R s mid args below meth c cells slots Q A mt (pc + 1, ls, .int (x >>> (y &&& 31)) :: st, σ)) : jm_W D α κ xs L p l e R s mid args below meth c cells slots Q A mt (pc, ls, .int y :: .int x :: st, σ) := by
  obtain ⟨hx, hb, hml, ⟨own, ho, hown⟩, hts, hK, hT, hA, hR, hcs, hinj, hnn⟩ := C
  intro H locs larr hP hS hl hlen hX
  exact lv_ishr hx hb hd (k H locs larr hP hS hl hlen hX)

theorem jm_x_ladd {mt : jm_M} (C : jm_Cx D α κ xs L p R s mid args c cells slots A mt) {pc : Nat} {ls : jm_L} {σ : jm_S} {st : List Value} {x y : Int64} (hd : decode mt.2.2.1 pc = .ok (.ladd, 1)) (k : jm_W D α κ xs L p l e R s mid args below meth c cells slots Q A mt (pc + 1, ls, .long (x + y) :: st, σ)) : jm_W D α κ xs L p l e R s mid args below meth c cells slots Q A mt (pc, ls, .long y :: .long x :: st, σ) := by
  obtain ⟨hx, hb, hml, ⟨own, ho, hown⟩, hts, hK, hT, hA, hR, hcs, hinj, hnn⟩ := C
  intro H locs larr hP hS hl hlen hX
  exact lv_ladd hx hb hd (k H locs larr hP hS hl hlen hX)

theorem jm_x_lsub {mt : jm_M} (C : jm_Cx D α κ xs L p R s mid args c cells slots A mt) {pc : Nat} {ls : jm_L} {σ : jm_S} {st : List Value} {x y : Int64} (hd : decode mt.2.2.1 pc = .ok (.lsub, 1)) (k : jm_W D α κ xs L p l e R s mid args below meth c cells slots Q A mt (pc + 1, ls, .long (x - y) :: st, σ)) : jm_W D α κ xs L p l e R s mid args below meth c cells slots Q A mt (pc, ls, .long y :: .long x :: st, σ) := by
  obtain ⟨hx, hb, hml, ⟨own, ho, hown⟩, hts, hK, hT, hA, hR, hcs, hinj, hnn⟩ := C
  intro H locs larr hP hS hl hlen hX
  exact lv_lsub hx hb hd (k H locs larr hP hS hl hlen hX)

theorem jm_x_lmul {mt : jm_M} (C : jm_Cx D α κ xs L p R s mid args c cells slots A mt) {pc : Nat} {ls : jm_L} {σ : jm_S} {st : List Value} {x y : Int64} (hd : decode mt.2.2.1 pc = .ok (.lmul, 1)) (k : jm_W D α κ xs L p l e R s mid args below meth c cells slots Q A mt (pc + 1, ls, .long (x * y) :: st, σ)) : jm_W D α κ xs L p l e R s mid args below meth c cells slots Q A mt (pc, ls, .long y :: .long x :: st, σ) := by
  obtain ⟨hx, hb, hml, ⟨own, ho, hown⟩, hts, hK, hT, hA, hR, hcs, hinj, hnn⟩ := C
  intro H locs larr hP hS hl hlen hX
  exact lv_lmul hx hb hd (k H locs larr hP hS hl hlen hX)

theorem jm_x_idiv {mt : jm_M} (C : jm_Cx D α κ xs L p R s mid args c cells slots A mt) {pc : Nat} {ls : jm_L} {σ : jm_S} {st : List Value} {x y : Int32} (hd : decode mt.2.2.1 pc = .ok (.idiv, 1)) (hy : ¬ y = 0) (k : jm_W D α κ xs L p l e R s mid args below meth c cells slots Q A mt (pc + 1, ls, .int (x / y) :: st, σ)) : jm_W D α κ xs L p l e R s mid args below meth c cells slots Q A mt (pc, ls, .int y :: .int x :: st, σ) := by
  obtain ⟨hx, hb, hml, ⟨own, ho, hown⟩, hts, hK, hT, hA, hR, hcs, hinj, hnn⟩ := C
  intro H locs larr hP hS hl hlen hX
  exact lv_idiv hx hb hd hy (k H locs larr hP hS hl hlen hX)

theorem jm_x_ldiv {mt : jm_M} (C : jm_Cx D α κ xs L p R s mid args c cells slots A mt) {pc : Nat} {ls : jm_L} {σ : jm_S} {st : List Value} {x y : Int64} (hd : decode mt.2.2.1 pc = .ok (.ldiv, 1)) (hy : ¬ y = 0) (k : jm_W D α κ xs L p l e R s mid args below meth c cells slots Q A mt (pc + 1, ls, .long (x / y) :: st, σ)) : jm_W D α κ xs L p l e R s mid args below meth c cells slots Q A mt (pc, ls, .long y :: .long x :: st, σ) := by
  obtain ⟨hx, hb, hml, ⟨own, ho, hown⟩, hts, hK, hT, hA, hR, hcs, hinj, hnn⟩ := C
  intro H locs larr hP hS hl hlen hX
  exact lv_ldiv hx hb hd hy (k H locs larr hP hS hl hlen hX)

theorem jm_x_lrem {mt : jm_M} (C : jm_Cx D α κ xs L p R s mid args c cells slots A mt) {pc : Nat} {ls : jm_L} {σ : jm_S} {st : List Value} {x y : Int64} (hd : decode mt.2.2.1 pc = .ok (.lrem, 1)) (hy : ¬ y = 0) (k : jm_W D α κ xs L p l e R s mid args below meth c cells slots Q A mt (pc + 1, ls, .long (x - x / y * y) :: st, σ)) : jm_W D α κ xs L p l e R s mid args below meth c cells slots Q A mt (pc, ls, .long y :: .long x :: st, σ) := by
  obtain ⟨hx, hb, hml, ⟨own, ho, hown⟩, hts, hK, hT, hA, hR, hcs, hinj, hnn⟩ := C
  intro H locs larr hP hS hl hlen hX
  exact lv_lrem hx hb hd hy (k H locs larr hP hS hl hlen hX)

theorem jm_x_ineg {mt : jm_M} (C : jm_Cx D α κ xs L p R s mid args c cells slots A mt) {pc : Nat} {ls : jm_L} {σ : jm_S} {st : List Value} {x : Int32} (hd : decode mt.2.2.1 pc = .ok (.ineg, 1)) (k : jm_W D α κ xs L p l e R s mid args below meth c cells slots Q A mt (pc + 1, ls, .int (-x) :: st, σ)) : jm_W D α κ xs L p l e R s mid args below meth c cells slots Q A mt (pc, ls, .int x :: st, σ) := by
  obtain ⟨hx, hb, hml, ⟨own, ho, hown⟩, hts, hK, hT, hA, hR, hcs, hinj, hnn⟩ := C
  intro H locs larr hP hS hl hlen hX
  exact lv_ineg hx hb hd (k H locs larr hP hS hl hlen hX)

theorem jm_x_lcmp {mt : jm_M} (C : jm_Cx D α κ xs L p R s mid args c cells slots A mt) {pc : Nat} {ls : jm_L} {σ : jm_S} {st : List Value} {x y : Int64} (hd : decode mt.2.2.1 pc = .ok (.lcmp, 1)) (k : jm_W D α κ xs L p l e R s mid args below meth c cells slots Q A mt (pc + 1, ls, .int (lg_cmp x y) :: st, σ)) : jm_W D α κ xs L p l e R s mid args below meth c cells slots Q A mt (pc, ls, .long y :: .long x :: st, σ) := by
  obtain ⟨hx, hb, hml, ⟨own, ho, hown⟩, hts, hK, hT, hA, hR, hcs, hinj, hnn⟩ := C
  intro H locs larr hP hS hl hlen hX
  exact W.lcmp hx hb hd (k H locs larr hP hS hl hlen hX)

theorem jm_x_i2l {mt : jm_M} (C : jm_Cx D α κ xs L p R s mid args c cells slots A mt) {pc : Nat} {ls : jm_L} {σ : jm_S} {st : List Value} {x : Int32} (hd : decode mt.2.2.1 pc = .ok (.i2l, 1)) (k : jm_W D α κ xs L p l e R s mid args below meth c cells slots Q A mt (pc + 1, ls, .long x.toInt64 :: st, σ)) : jm_W D α κ xs L p l e R s mid args below meth c cells slots Q A mt (pc, ls, .int x :: st, σ) := by
  obtain ⟨hx, hb, hml, ⟨own, ho, hown⟩, hts, hK, hT, hA, hR, hcs, hinj, hnn⟩ := C
  intro H locs larr hP hS hl hlen hX
  exact lv_i2l hx hb hd rfl (k H locs larr hP hS hl hlen hX)

theorem jm_x_i2b {mt : jm_M} (C : jm_Cx D α κ xs L p R s mid args c cells slots A mt) {pc : Nat} {ls : jm_L} {σ : jm_S} {st : List Value} {x : Int32} (hd : decode mt.2.2.1 pc = .ok (.i2b, 1)) (k : jm_W D α κ xs L p l e R s mid args below meth c cells slots Q A mt (pc + 1, ls, .int x.toInt8.toInt32 :: st, σ)) : jm_W D α κ xs L p l e R s mid args below meth c cells slots Q A mt (pc, ls, .int x :: st, σ) := by
  obtain ⟨hx, hb, hml, ⟨own, ho, hown⟩, hts, hK, hT, hA, hR, hcs, hinj, hnn⟩ := C
  intro H locs larr hP hS hl hlen hX
  exact lv_i2b hx hb hd rfl (k H locs larr hP hS hl hlen hX)

theorem jm_x_i2s {mt : jm_M} (C : jm_Cx D α κ xs L p R s mid args c cells slots A mt) {pc : Nat} {ls : jm_L} {σ : jm_S} {st : List Value} {x : Int32} (hd : decode mt.2.2.1 pc = .ok (.i2s, 1)) (k : jm_W D α κ xs L p l e R s mid args below meth c cells slots Q A mt (pc + 1, ls, .int x.toInt16.toInt32 :: st, σ)) : jm_W D α κ xs L p l e R s mid args below meth c cells slots Q A mt (pc, ls, .int x :: st, σ) := by
  obtain ⟨hx, hb, hml, ⟨own, ho, hown⟩, hts, hK, hT, hA, hR, hcs, hinj, hnn⟩ := C
  intro H locs larr hP hS hl hlen hX
  exact lv_i2s hx hb hd rfl (k H locs larr hP hS hl hlen hX)

theorem jm_x_dup {mt : jm_M} (C : jm_Cx D α κ xs L p R s mid args c cells slots A mt) {pc : Nat} {ls : jm_L} {σ : jm_S} {st : List Value} {v : Value} (hd : decode mt.2.2.1 pc = .ok (.dup, 1)) (hv : v.category = 1) (k : jm_W D α κ xs L p l e R s mid args below meth c cells slots Q A mt (pc + 1, ls, v :: v :: st, σ)) : jm_W D α κ xs L p l e R s mid args below meth c cells slots Q A mt (pc, ls, v :: st, σ) := by
  obtain ⟨hx, hb, hml, ⟨own, ho, hown⟩, hts, hK, hT, hA, hR, hcs, hinj, hnn⟩ := C
  intro H locs larr hP hS hl hlen hX
  exact lv_dup hx hb hd (by rw [jm_rv_cat]; exact hv) (k H locs larr hP hS hl hlen hX)

theorem jm_x_pop {mt : jm_M} (C : jm_Cx D α κ xs L p R s mid args c cells slots A mt) {pc : Nat} {ls : jm_L} {σ : jm_S} {st : List Value} {v : Value} (hd : decode mt.2.2.1 pc = .ok (.pop, 1)) (hv : v.category = 1) (k : jm_W D α κ xs L p l e R s mid args below meth c cells slots Q A mt (pc + 1, ls, st, σ)) : jm_W D α κ xs L p l e R s mid args below meth c cells slots Q A mt (pc, ls, v :: st, σ) := by
  obtain ⟨hx, hb, hml, ⟨own, ho, hown⟩, hts, hK, hT, hA, hR, hcs, hinj, hnn⟩ := C
  intro H locs larr hP hS hl hlen hX
  exact lv_pop hx hb hd (by rw [jm_rv_cat]; exact hv) (k H locs larr hP hS hl hlen hX)

theorem jm_x_dup2 {mt : jm_M} (C : jm_Cx D α κ xs L p R s mid args c cells slots A mt) {pc : Nat} {ls : jm_L} {σ : jm_S} {st : List Value} {v u : Value} (hd : decode mt.2.2.1 pc = .ok (.dup2, 1)) (hv : v.category = 1) (hu : u.category = 1) (k : jm_W D α κ xs L p l e R s mid args below meth c cells slots Q A mt (pc + 1, ls, v :: u :: v :: u :: st, σ)) : jm_W D α κ xs L p l e R s mid args below meth c cells slots Q A mt (pc, ls, v :: u :: st, σ) := by
  obtain ⟨hx, hb, hml, ⟨own, ho, hown⟩, hts, hK, hT, hA, hR, hcs, hinj, hnn⟩ := C
  intro H locs larr hP hS hl hlen hX
  exact lv_dup2_11 hx hb hd (by rw [jm_rv_cat]; exact hv) (by rw [jm_rv_cat]; exact hu) (k H locs larr hP hS hl hlen hX)

theorem jm_x_goto {mt : jm_M} (C : jm_Cx D α κ xs L p R s mid args c cells slots A mt) {pc : Nat} {ls : jm_L} {σ : jm_S} {st : List Value} {z : Int} {t : Nat} (hd : decode mt.2.2.1 pc = .ok (.goto z, 3)) (ht : (pc : Int) + z = (t : Int)) (k : jm_W D α κ xs L p l e R s mid args below meth c cells slots Q A mt (t, ls, st, σ)) : jm_W D α κ xs L p l e R s mid args below meth c cells slots Q A mt (pc, ls, st, σ) := by
  obtain ⟨hx, hb, hml, ⟨own, ho, hown⟩, hts, hK, hT, hA, hR, hcs, hinj, hnn⟩ := C
  intro H locs larr hP hS hl hlen hX
  exact lv_goto hx hb hd ht (k H locs larr hP hS hl hlen hX)
end SND
