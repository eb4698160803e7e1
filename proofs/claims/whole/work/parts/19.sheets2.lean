theorem j60 (k i : Nat) : (60 : Int32) * nI k + nI i = nI (60 * k + i) := by
  rw [show (60 : Int32) = nI 60 by decide +kernel, pk_mul, nI_add]
theorem jin3 {f : Int32} : (f < 0 ∨ 2 < f) ∨ ¬ (f < 0 ∨ 2 < f) := Classical.em _
theorem P_sheet {k : Nat} (hk : k < 4) {f n : Int32} (hf : ¬ (f < 0 ∨ 2 < f)) (h60 : n ≤ 60) (h0 : 0 ≤ n) (σ : jm_S) : jc 102 [.ref 0, .int (nI k), .int f, .int n] σ = some (some (.int n), jm_row (jm_up (jm_up σ (53 + 2 * k) 1 f) (53 + 2 * k) 2 n) (54 + 2 * k) (fun j => if j < 60 then 0 else σ (54 + 2 * k) j)) := by
  rw [P_sheet_in, P_isOutside, jbi_some, P_isOutside, jbi_some]
  simp only [jout hk, if_false, hf, h60, h0, if_true, not_true_eq_false]
  match k, hk with
  | 0, h =>
    have e : jc 103 [.ref 53, .int f, .int n] σ = some (none, jm_row (jm_up (jm_up σ 53 1 f) 53 2 n) 54 (fun j => if j < 60 then 0 else σ 54 j)) := Sheet_renew h f n σ
    simp only [jnI0, jaa4_0, P_sheet_A43_53, e, jbv_some]
  | 1, h =>
    have e : jc 103 [.ref 55, .int f, .int n] σ = some (none, jm_row (jm_up (jm_up σ 55 1 f) 55 2 n) 56 (fun j => if j < 60 then 0 else σ 56 j)) := Sheet_renew h f n σ
    simp only [jnI1, jaa4_1, P_sheet_A43_55, e, jbv_some]
  | 2, h =>
    have e : jc 103 [.ref 57, .int f, .int n] σ = some (none, jm_row (jm_up (jm_up σ 57 1 f) 57 2 n) 58 (fun j => if j < 60 then 0 else σ 58 j)) := Sheet_renew h f n σ
    simp only [jnI2, jaa4_2, P_sheet_A43_57, e, jbv_some]
  | 3, h =>
    have e : jc 103 [.ref 59, .int f, .int n] σ = some (none, jm_row (jm_up (jm_up σ 59 1 f) 59 2 n) 60 (fun j => if j < 60 then 0 else σ 60 j)) := Sheet_renew h f n σ
    simp only [jnI3, jaa4_3, P_sheet_A43_59, e, jbv_some]
theorem M_sheet_loop {k m : Nat} (hk : k < 4) (hm : m ≤ 60) (f : Int32) : ∀ (d i : Nat) (σ : jm_S), i + d = m → jv 118 55 [some (.ref 61), some (.int (nI k)), some (.int f), some (.int (nI m)), some (.int (nI i))] [] σ = some (some (.int (nI m)), jm_row σ 64 (fun j => if 60 * k + i ≤ j ∧ j < 60 * k + m then 0 else σ 64 j)) := by
  intro d
  induction d with
  | zero =>
    intro i σ h
    rw [M_sheet_L55, if_pos (nI_le (by omega) (by omega))]
    congr 2
    funext b j
    by_cases hb : b = 64
    · subst hb; rw [jrow_s, if_neg (by omega)]
    · rw [jrow_n _ _ hb]
  | succ d ih =>
    intro i σ h
    rw [M_sheet_L55, if_neg (nI_ge (by omega) (by omega))]
    simp only [j60, nI_1, nI_clamp (show 60 * k + i < 2 ^ 31 by omega), jbad2 (show 60 * k + i < 240 by omega) (by decide), if_false]
    rw [ih _ _ (by omega)]
    congr 2
    funext b j
    by_cases hb : b = 64
    · subst hb
      rw [jrow_s, jrow_s, jup_s, jupd]
      by_cases h1 : j = 60 * k + i
      · subst h1; rw [if_neg (by omega), if_pos rfl, if_pos (by omega)]
      · by_cases h2 : 60 * k + i ≤ j ∧ j < 60 * k + m
        · rw [if_pos (by omega), if_pos h2]
        · rw [if_neg (by omega), if_neg h2, if_neg h1]
    · rw [jrow_n _ _ hb, jrow_n _ _ hb, jup_n _ _ _ hb]
theorem A_sheet {σ : jm_S} (h : I_sl σ) (x f n : Int32) : jSame σ jSS [4] I_sl (jc 102 [.ref 0, .int x, .int f, .int n]) (jc 118 [.ref 61, .int x, .int f, .int n]) := by
  obtain ⟨hs, hl⟩ := id h
  by_cases hx : x < 0 ∨ 3 < x
  · refine jSame_bad h (v := .int (-2)) ?_ ?_
    · rw [P_sheet_in, P_isOutside, jbi_some]; simp [hx]
    · rw [M_sheet_in, M_isSheet, jbi_some]; simp [hx]
  obtain ⟨k, hk, rfl⟩ := jN4 hx
  by_cases hf : f < 0 ∨ 2 < f
  · refine jSame_bad h (v := .int (-2)) ?_ ?_
    · rw [P_sheet_in, P_isOutside, jbi_some, P_isOutside, jbi_some]; simp only [jout hk, if_false, not_true_eq_false]; simp [hf]
    · rw [M_sheet_in, M_isSheet, jbi_some, M_in f 0 2 0 2 (by decide +kernel) (by decide +kernel), jbi_some]; simp only [jout hk, if_false]; simp [hf]
  by_cases h60 : n ≤ 60
  · by_cases h0 : 0 ≤ n
    · obtain ⟨m, hm, rfl⟩ := nI_of2 (M := 60) (n := 60) (by decide +kernel) (Int32.not_lt.mpr h0) h60
      obtain ⟨n0, h1⟩ := hs k hk
      refine ⟨some (.int (nI m)), _, _, P_sheet hk hf h60 h0 σ, ?_, ⟨I_sh_1 (k := k) hs (ρ := jm_row (jm_up (jm_up (jm_row (jm_up (jm_up σ (53 + 2 * k) 1 f) (53 + 2 * k) 2 (nI m)) (54 + 2 * k) (fun j => if j < 60 then 0 else σ (54 + 2 * k) j)) 62 k f) 63 k (nI m)) 64 (fun j => if 60 * k + 0 ≤ j ∧ j < 60 * k + m then 0 else σ 64 j)) (fun a ha => ?_) (fun j hj => ?_) (fun j hj => ?_) (fun j hj => ?_) (n := m) ?_, ?_⟩, ?_⟩
      · rw [M_sheet_in, M_isSheet, jbi_some, M_in f 0 2 0 2 (by decide +kernel) (by decide +kernel), jbi_some]
        simp only [jout hk, if_false, hf, h60, h0, if_true, nI_clamp (show k < 2 ^ 31 by omega), jbad2 hk (by decide)]
        have e := M_sheet_loop hk hm f m 0
        rw [nI_0] at e
        rw [if_neg (by decide), if_neg (by decide), e _ (by omega)]
        congr 3
        funext j
        rw [jup_n _ _ _ (by omega), jup_n _ _ _ (by omega), jrow_n _ _ (by omega), jup_n _ _ _ (by omega), jup_n _ _ _ (by omega)]
      · simp only [List.mem_cons, List.not_mem_nil, or_false, not_or] at ha
        (repeat (first | rw [jup_s] | rw [jrow_s] | rw [jup_n _ _ _ (by omega)] | rw [jrow_n _ _ (by omega)]))
      · (repeat (first | rw [jup_s] | rw [jrow_s] | rw [jup_n _ _ _ (by omega)] | rw [jrow_n _ _ (by omega)]))
        rw [jupd, if_neg hj]
        (repeat (first | rw [jup_s] | rw [jrow_s] | rw [jup_n _ _ _ (by omega)] | rw [jrow_n _ _ (by omega)]))
      · (repeat (first | rw [jup_s] | rw [jrow_s] | rw [jup_n _ _ _ (by omega)] | rw [jrow_n _ _ (by omega)]))
        rw [jupd, if_neg hj]
        (repeat (first | rw [jup_s] | rw [jrow_s] | rw [jup_n _ _ _ (by omega)] | rw [jrow_n _ _ (by omega)]))
      · (repeat (first | rw [jup_s] | rw [jrow_s] | rw [jup_n _ _ _ (by omega)] | rw [jrow_n _ _ (by omega)]))
        rw [if_neg (by omega)]
      · refine ⟨hm, ?_, ?_, ?_, ?_, ?_⟩
        · (repeat (first | rw [jup_s] | rw [jrow_s] | rw [jup_n _ _ _ (by omega)] | rw [jrow_n _ _ (by omega)]))
          simp [jupd]
        · (repeat (first | rw [jup_s] | rw [jrow_s] | rw [jup_n _ _ _ (by omega)] | rw [jrow_n _ _ (by omega)]))
          simp only [jupd, if_true]
          exact Or.inr (fun q => hf (Or.inl q))
        · (repeat (first | rw [jup_s] | rw [jrow_s] | rw [jup_n _ _ _ (by omega)] | rw [jrow_n _ _ (by omega)]))
          simp [jupd]
        · (repeat (first | rw [jup_s] | rw [jrow_s] | rw [jup_n _ _ _ (by omega)] | rw [jrow_n _ _ (by omega)]))
          simp [jupd]
        · intro j hj
          (repeat (first | rw [jup_s] | rw [jrow_s] | rw [jup_n _ _ _ (by omega)] | rw [jrow_n _ _ (by omega)]))
          rw [if_pos (by omega), if_pos (by omega)]
      · unfold I_lat
        (repeat (first | rw [jup_s] | rw [jrow_s] | rw [jup_n _ _ _ (by omega)] | rw [jrow_n _ _ (by omega)]))
        exact hl
      · exact ((((((jFr.up jFr.rf (jSS1 hk).1 (jSS1 hk).2.2.1).up (jSS1 hk).1 (jSS1 hk).2.2.1).row (jSS1 hk).2.1 (jSS1 hk).2.2.2).up (by decide) (by decide)).up (by decide) (by decide)).row (by decide) (by decide))
    · refine jSame_find hs (x := 5) (v := .int (-10 - 5)) ?_ ?_
      · rw [P_sheet_in, P_isOutside, jbi_some, P_isOutside, jbi_some]; simp only [jout hk, if_false, not_true_eq_false, hf, h60, h0, if_true, P_finding, jbi_some]
      · intro τ _ _
        rw [M_sheet_in, M_isSheet, jbi_some, M_in f 0 2 0 2 (by decide +kernel) (by decide +kernel), jbi_some]; simp only [jout hk, if_false, hf, h60, h0, if_true, M_met, jbi_some]
        simp
  · refine jSame_bad h (v := .int (-2)) ?_ ?_
    · rw [P_sheet_in, P_isOutside, jbi_some, P_isOutside, jbi_some]; simp only [jout hk, if_false, not_true_eq_false, hf, h60, if_true]
    · rw [M_sheet_in, M_isSheet, jbi_some, M_in f 0 2 0 2 (by decide +kernel) (by decide +kernel), jbi_some]; simp only [jout hk, if_false, hf, h60]; simp
/-! lay, get -/
def jobj (a1 a2 f i : Int32) : Int32 := if a1 = -1 then 1 else if a1 = f then (if i < 0 ∨ ¬ i < a2 then 2 else 0) else 3
theorem M_lacks {k : Nat} (hk : k < 4) {n : Nat} (hn : n ≤ 60) (f i : Int32) (hf : ¬ (f < 0 ∨ 2 < f)) (σ : jm_S) (p3 : σ 62 k = -1 ∨ ¬ σ 62 k < 0) (p5 : σ 63 k = nI n) : jc 124 [.ref 61, .int (nI k), .int f, .int i] σ = if jobj (σ 62 k) (σ 63 k) f i = 0 then some (some (.int 0), σ) else some (some (.int (-10 - jobj (σ 62 k) (σ 63 k) f i)), jm_up σ 61 4 (jobj (σ 62 k) (σ 63 k) f i)) := by
  rw [M_lacks_in]
  simp only [nI_clamp (show k < 2 ^ 31 by omega), jbad2 hk (by decide), if_false, M_met, jbi_some]
  unfold jobj
  rcases p3 with p3 | p3
  · rw [p3]; simp
  · have h0 : 0 ≤ σ 62 k := Int32.not_lt.mp p3
    have h1 : ¬ σ 62 k = -1 := fun e => p3 (by rw [e]; decide +kernel)
    simp only [h0, if_true, h1, if_false]
    by_cases h2 : σ 62 k = f
    · simp only [h2, if_true]
      have hlt : (i < 0 ∨ nI n - 1 < i) ↔ (i < 0 ∨ ¬ i < nI n) := by
        have e1 : (nI n - 1).toInt = (n : Int) - 1 := by
          rw [show (1 : Int32) = nI 1 by decide +kernel, pk_sub_toInt (by omega) (by omega)]; rfl
        have e2 : (nI n).toInt = n := nI_toInt (by omega)
        rw [Int32.lt_iff_toInt_lt (x := nI n - 1), Int32.lt_iff_toInt_lt (x := i) (y := nI n), e1, e2]
        constructor
        · rintro (a | a)
          · exact Or.inl a
          · exact Or.inr (by omega)
        · rintro (a | a)
          · exact Or.inl a
          · exact Or.inr (by omega)
      rw [M_in i 0 (nI n - 1) 0 _ (by decide +kernel) (by rw [p5]), jbi_some]
      by_cases h3 : i < 0 ∨ ¬ i < nI n
      · have h4 := hlt.mpr h3
        simp only [h4, if_true, p5, h3]
        simp
      · have h4 : ¬ (i < 0 ∨ nI n - 1 < i) := fun q => h3 (hlt.mp q)
        simp only [h4, if_false, p5, h3]
        simp
    · simp only [h2, if_false]
      simp
theorem P_lay_k {k : Nat} (hk : k < 4) {f i v : Int32} (hf : ¬ (f < 0 ∨ 2 < f)) (σ : jm_S) : jc 105 [.ref 0, .int (nI k), .int f, .int i, .int v] σ = if jobj (σ (53 + 2 * k) 1) (σ (53 + 2 * k) 2) f i = 0 then jbv (jc 107 [.ref (53 + 2 * k), .int i, .int v] σ) (fun τ => some (some (.int 1), τ)) else some (some (.int (-10 - jobj (σ (53 + 2 * k) 1) (σ (53 + 2 * k) 2) f i)), jm_up σ 0 10 (jobj (σ (53 + 2 * k) 1) (σ (53 + 2 * k) 2) f i)) := by
  rw [P_lay_in, P_isOutside, jbi_some, P_isOutside, jbi_some]
  simp only [jout hk, if_false, hf, if_true, not_true_eq_false]
  have e := Sheet_objection hk f i σ
  unfold jobj
  match k, hk, e with
  | 0, h, e =>
    simp only [jnI0, jaa4_0, P_lay_A27_53, P_lay_A52_53]
    rw [show 53 + 2 * 0 = 53 from rfl] at e ⊢
    rw [e, jbi_some]
    simp only [P_finding, jbi_some]
  | 1, h, e =>
    simp only [jnI1, jaa4_1, P_lay_A27_55, P_lay_A52_55]
    rw [show 53 + 2 * 1 = 55 from rfl] at e ⊢
    rw [e, jbi_some]
    simp only [P_finding, jbi_some]
  | 2, h, e =>
    simp only [jnI2, jaa4_2, P_lay_A27_57, P_lay_A52_57]
    rw [show 53 + 2 * 2 = 57 from rfl] at e ⊢
    rw [e, jbi_some]
    simp only [P_finding, jbi_some]
  | 3, h, e =>
    simp only [jnI3, jaa4_3, P_lay_A27_59, P_lay_A52_59]
    rw [show 53 + 2 * 3 = 59 from rfl] at e ⊢
    rw [e, jbi_some]
    simp only [P_finding, jbi_some]
theorem P_get_k {k : Nat} (hk : k < 4) {f i : Int32} (hf : ¬ (f < 0 ∨ 2 < f)) (σ : jm_S) : jc 108 [.ref 0, .int (nI k), .int f, .int i] σ = if jobj (σ (53 + 2 * k) 1) (σ (53 + 2 * k) 2) f i = 0 then (if i < 0 ∨ 60 ≤ i.toNatClampNeg then none else some (some (.int (σ (54 + 2 * k) i.toNatClampNeg)), σ)) else some (some (.int (-2147483648)), jm_up σ 0 10 (jobj (σ (53 + 2 * k) 1) (σ (53 + 2 * k) 2) f i)) := by
  rw [P_get_in, P_isOutside, jbi_some, P_isOutside, jbi_some]
  simp only [jout hk, if_false, hf, if_true, not_true_eq_false]
  have e := Sheet_objection hk f i σ
  unfold jobj
  match k, hk, e with
  | 0, h, e =>
    simp only [jnI0, jaa4_0, P_get_A28_53, P_get_A56_53]
    rw [show 53 + 2 * 0 = 53 from rfl] at e ⊢
    rw [e, jbi_some]
  | 1, h, e =>
    simp only [jnI1, jaa4_1, P_get_A28_55, P_get_A56_55]
    rw [show 53 + 2 * 1 = 55 from rfl] at e ⊢
    rw [e, jbi_some]
  | 2, h, e =>
    simp only [jnI2, jaa4_2, P_get_A28_57, P_get_A56_57]
    rw [show 53 + 2 * 2 = 57 from rfl] at e ⊢
    rw [e, jbi_some]
  | 3, h, e =>
    simp only [jnI3, jaa4_3, P_get_A28_59, P_get_A56_59]
    rw [show 53 + 2 * 3 = 59 from rfl] at e ⊢
    rw [e, jbi_some]
theorem jobj_ok {a1 f i : Int32} {n : Nat} (hn : n ≤ 60) (h : jobj a1 (nI n) f i = 0) : a1 = f ∧ ∃ j, j < n ∧ i = nI j := by
  unfold jobj at h
  split at h
  · exact absurd h (by decide)
  · split at h
    · next h1 =>
      split at h
      · exact absurd h (by decide)
      · next h2 =>
        refine ⟨h1, ?_⟩
        obtain ⟨j, hj, rfl⟩ := nI_of (x := i) (fun q => h2 (Or.inl q))
        have : nI j < nI n := Classical.byContradiction fun q => h2 (Or.inr q)
        exact ⟨j, (nI_ltI hj (by omega)).mp this, rfl⟩
    · exact absurd h (by decide)
theorem j10 : ((1 : Int32) = 0) = False := by decide +kernel
theorem jobj_n (a1 a2 f i : Int32) : (-10 - jobj a1 a2 f i = 0) = False := by
  unfold jobj
  split
  · decide +kernel
  · split
    · split
      · decide +kernel
      · decide +kernel
    · decide +kernel
theorem jobj_ne (a1 a2 f i : Int32) : ¬ (-10 - jobj a1 a2 f i = 0) := fun h => by rw [jobj_n] at h; exact h
theorem M_lay_k {k : Nat} (hk : k < 4) {n : Nat} (p1 : n ≤ 60) (i v : Int32) {f : Int32} (hf : ¬ (f < 0 ∨ 2 < f)) (τ : jm_S) (p3 : τ 62 k = -1 ∨ ¬ τ 62 k < 0) (p5 : τ 63 k = nI n) : jc 123 [.ref 61, .int (nI k), .int f, .int i, .int v] τ = if jobj (τ 62 k) (nI n) f i = 0 then (if (60 : Int32) * nI k + i < 0 ∨ 240 ≤ ((60 : Int32) * nI k + i).toNatClampNeg then none else some (some (.int 1), jm_up τ 64 ((60 : Int32) * nI k + i).toNatClampNeg (jcut f v))) else some (some (.int (-10 - jobj (τ 62 k) (nI n) f i)), jm_up τ 61 4 (jobj (τ 62 k) (nI n) f i)) := by
  rw [M_lay_in, M_isSheet, jbi_some, M_in f 0 2 0 2 (by decide +kernel) (by decide +kernel), jbi_some, M_lacks hk p1 f i hf τ p3 p5, p5]
  simp only [jout hk, if_false, hf, j10, not_false_eq_true, if_true]
  by_cases hj : jobj (τ 62 k) (nI n) f i = 0
  · simp only [hj, if_true, jbi_some, M_cut]
  · rw [if_neg hj, if_neg hj, jbi_some, if_neg (jobj_ne _ _ _ _)]
theorem M_get_k {k : Nat} (hk : k < 4) {n : Nat} (p1 : n ≤ 60) (i : Int32) {f : Int32} (hf : ¬ (f < 0 ∨ 2 < f)) (τ : jm_S) (p3 : τ 62 k = -1 ∨ ¬ τ 62 k < 0) (p5 : τ 63 k = nI n) : jc 126 [.ref 61, .int (nI k), .int f, .int i] τ = if jobj (τ 62 k) (nI n) f i = 0 then (if (60 : Int32) * nI k + i < 0 ∨ 240 ≤ ((60 : Int32) * nI k + i).toNatClampNeg then none else some (some (.int (τ 64 ((60 : Int32) * nI k + i).toNatClampNeg)), τ)) else some (some (.int (-2147483648)), jm_up τ 61 4 (jobj (τ 62 k) (nI n) f i)) := by
  rw [M_get_in, M_isSheet, jbi_some, M_in f 0 2 0 2 (by decide +kernel) (by decide +kernel), jbi_some, M_lacks hk p1 f i hf τ p3 p5, p5]
  simp only [jout hk, if_false, hf, j10, not_false_eq_true, if_true]
  by_cases hj : jobj (τ 62 k) (nI n) f i = 0
  · simp only [hj, if_true, jbi_some]
  · rw [if_neg hj, if_neg hj, jbi_some, if_neg (jobj_ne _ _ _ _)]
theorem A_lay {σ : jm_S} (h : I_sl σ) (x f i v : Int32) : jSame σ jSS [4] I_sl (jc 105 [.ref 0, .int x, .int f, .int i, .int v]) (jc 123 [.ref 61, .int x, .int f, .int i, .int v]) := by
  obtain ⟨hs, hl⟩ := id h
  by_cases hx : x < 0 ∨ 3 < x
  · refine jSame_bad h (v := .int (-2)) ?_ ?_
    · rw [P_lay_in, P_isOutside, jbi_some]; simp [hx]
    · rw [M_lay_in, M_isSheet, jbi_some]; simp [hx]
  obtain ⟨k, hk, rfl⟩ := jN4 hx
  by_cases hf : f < 0 ∨ 2 < f
  · refine jSame_bad h (v := .int (-2)) ?_ ?_
    · rw [P_lay_in, P_isOutside, jbi_some, P_isOutside, jbi_some]; simp only [jout hk, if_false, not_true_eq_false]; simp [hf]
    · rw [M_lay_in, M_isSheet, jbi_some, M_in f 0 2 0 2 (by decide +kernel) (by decide +kernel), jbi_some]; simp only [jout hk, if_false]; simp [hf]
  obtain ⟨n, h1⟩ := hs k hk
  obtain ⟨p1, p2, p3, p4, p5, p6⟩ := id h1
  have hM : ∀ τ, τ 62 = σ 62 → τ 63 = σ 63 → jc 123 [.ref 61, .int (nI k), .int f, .int i, .int v] τ = if jobj (σ 62 k) (nI n) f i = 0 then (if (60 : Int32) * nI k + i < 0 ∨ 240 ≤ ((60 : Int32) * nI k + i).toNatClampNeg then none else some (some (.int 1), jm_up τ 64 ((60 : Int32) * nI k + i).toNatClampNeg (jcut f v))) else some (some (.int (-10 - jobj (σ 62 k) (nI n) f i)), jm_up τ 61 4 (jobj (σ 62 k) (nI n) f i)) := fun τ e1 e2 => by
    have e := M_lay_k hk p1 i v hf τ (by rw [e1]; exact p3) (by rw [e2]; exact p5)
    rw [e1] at e
    exact e
  by_cases hj : jobj (σ 62 k) (nI n) f i = 0
  · obtain ⟨rfl, j, hjn, rfl⟩ := jobj_ok p1 hj
    refine ⟨some (.int 1), jm_up σ (54 + 2 * k) j (jcut (σ 62 k) v), jm_up (jm_up σ (54 + 2 * k) j (jcut (σ 62 k) v)) 64 (60 * k + j) (jcut (σ 62 k) v), ?_, ?_, ⟨I_sh_1 (k := k) hs (fun a ha => ?_) (fun j' hj' => ?_) (fun j' hj' => ?_) (fun j' hj' => ?_) (n := n) ?_, ?_⟩, ?_⟩
    · rw [P_lay_k hk hf, p2, p4, if_pos hj, Sheet_put hk (by omega), jbv_some, p2]
    · rw [hM _ (by rw [jup_n _ _ _ (by omega)]) (by rw [jup_n _ _ _ (by omega)]), if_pos hj]
      simp only [j60, nI_clamp (show 60 * k + j < 2 ^ 31 by omega), jbad2 (show 60 * k + j < 240 by omega) (by decide), if_false]
    · simp only [List.mem_cons, List.not_mem_nil, or_false, not_or] at ha
      (repeat (first | rw [jup_s] | rw [jrow_s] | rw [jup_n _ _ _ (by omega)] | rw [jrow_n _ _ (by omega)]))
    · (repeat (first | rw [jup_s] | rw [jrow_s] | rw [jup_n _ _ _ (by omega)] | rw [jrow_n _ _ (by omega)]))
    · (repeat (first | rw [jup_s] | rw [jrow_s] | rw [jup_n _ _ _ (by omega)] | rw [jrow_n _ _ (by omega)]))
    · (repeat (first | rw [jup_s] | rw [jrow_s] | rw [jup_n _ _ _ (by omega)] | rw [jrow_n _ _ (by omega)]))
      rw [jupd, if_neg (by omega)]
      (repeat (first | rw [jup_s] | rw [jrow_s] | rw [jup_n _ _ _ (by omega)] | rw [jrow_n _ _ (by omega)]))
    · refine ⟨p1, ?_, ?_, ?_, ?_, ?_⟩
      · (repeat (first | rw [jup_s] | rw [jrow_s] | rw [jup_n _ _ _ (by omega)] | rw [jrow_n _ _ (by omega)]))
        exact p2
      · (repeat (first | rw [jup_s] | rw [jrow_s] | rw [jup_n _ _ _ (by omega)] | rw [jrow_n _ _ (by omega)]))
        exact p3
      · (repeat (first | rw [jup_s] | rw [jrow_s] | rw [jup_n _ _ _ (by omega)] | rw [jrow_n _ _ (by omega)]))
        exact p4
      · (repeat (first | rw [jup_s] | rw [jrow_s] | rw [jup_n _ _ _ (by omega)] | rw [jrow_n _ _ (by omega)]))
        exact p5
      · intro j' hj'
        (repeat (first | rw [jup_s] | rw [jrow_s] | rw [jup_n _ _ _ (by omega)] | rw [jrow_n _ _ (by omega)]))
        rw [jupd, jupd]
        by_cases e : j' = j
        · subst e; rw [if_pos rfl, if_pos rfl]
        · rw [if_neg e, if_neg (by omega)]
          (repeat (first | rw [jup_s] | rw [jrow_s] | rw [jup_n _ _ _ (by omega)] | rw [jrow_n _ _ (by omega)]))
          exact p6 j' hj'
    · unfold I_lat
      (repeat (first | rw [jup_s] | rw [jrow_s] | rw [jup_n _ _ _ (by omega)] | rw [jrow_n _ _ (by omega)]))
      exact hl
    · exact (jFr.up jFr.rf (jSS1 hk).2.1 (jSS1 hk).2.2.2).up (by decide) (by decide)
  · refine jSame_find hs (x := jobj (σ 62 k) (nI n) f i) (v := .int (-10 - jobj (σ 62 k) (nI n) f i)) ?_ ?_
    · rw [P_lay_k hk hf, p2, p4, if_neg hj]
    · intro τ e1 e2
      rw [hM τ e1 e2, if_neg hj]
theorem A_get {σ : jm_S} (h : I_sl σ) (x f i : Int32) : jSame σ jSS [4] I_sl (jc 108 [.ref 0, .int x, .int f, .int i]) (jc 126 [.ref 61, .int x, .int f, .int i]) := by
  obtain ⟨hs, hl⟩ := id h
  by_cases hx : x < 0 ∨ 3 < x
  · refine jSame_bad h (v := .int (-2147483648)) ?_ ?_
    · rw [P_get_in, P_isOutside, jbi_some]; simp [hx]
    · rw [M_get_in, M_isSheet, jbi_some]; simp [hx]
  obtain ⟨k, hk, rfl⟩ := jN4 hx
  by_cases hf : f < 0 ∨ 2 < f
  · refine jSame_bad h (v := .int (-2147483648)) ?_ ?_
    · rw [P_get_in, P_isOutside, jbi_some, P_isOutside, jbi_some]; simp only [jout hk, if_false, not_true_eq_false]; simp [hf]
    · rw [M_get_in, M_isSheet, jbi_some, M_in f 0 2 0 2 (by decide +kernel) (by decide +kernel), jbi_some]; simp only [jout hk, if_false]; simp [hf]
  obtain ⟨n, h1⟩ := hs k hk
  obtain ⟨p1, p2, p3, p4, p5, p6⟩ := id h1
  have hM : ∀ τ, τ 62 = σ 62 → τ 63 = σ 63 → jc 126 [.ref 61, .int (nI k), .int f, .int i] τ = if jobj (σ 62 k) (nI n) f i = 0 then (if (60 : Int32) * nI k + i < 0 ∨ 240 ≤ ((60 : Int32) * nI k + i).toNatClampNeg then none else some (some (.int (τ 64 ((60 : Int32) * nI k + i).toNatClampNeg)), τ)) else some (some (.int (-2147483648)), jm_up τ 61 4 (jobj (σ 62 k) (nI n) f i)) := fun τ e1 e2 => by
    have e := M_get_k hk p1 i hf τ (by rw [e1]; exact p3) (by rw [e2]; exact p5)
    rw [e1] at e
    exact e
  by_cases hj : jobj (σ 62 k) (nI n) f i = 0
  · obtain ⟨rfl, j, hjn, rfl⟩ := jobj_ok p1 hj
    refine jSame_bad h (v := .int (σ 64 (60 * k + j))) ?_ ?_
    · rw [P_get_k hk hf, p2, p4, if_pos hj]
      simp only [nI_clamp (show j < 2 ^ 31 by omega), jbad2 (show j < 60 by omega) (by decide), if_false, p6 j hjn]
    · rw [hM _ rfl rfl, if_pos hj]
      simp only [j60, nI_clamp (show 60 * k + j < 2 ^ 31 by omega), jbad2 (show 60 * k + j < 240 by omega) (by decide), if_false]
  · refine jSame_find hs (x := jobj (σ 62 k) (nI n) f i) (v := .int (-2147483648)) ?_ ?_
    · rw [P_get_k hk hf, p2, p4, if_neg hj]
    · intro τ e1 e2
      rw [hM τ e1 e2, if_neg hj]
