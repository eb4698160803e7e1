/-! ===== sheets ===== -/
theorem jnI0 : nI 0 = 0 := by decide +kernel
theorem jnI1 : nI 1 = 1 := by decide +kernel
theorem jnI2 : nI 2 = 2 := by decide +kernel
theorem jnI3 : nI 3 = 3 := by decide +kernel
theorem jout {k : Nat} (hk : k < 4) : (nI k < 0 ∨ 3 < nI k) = False := by
  match k, hk with
  | 0, _ => decide +kernel
  | 1, _ => decide +kernel
  | 2, _ => decide +kernel
  | 3, _ => decide +kernel
theorem jN4 {x : Int32} (h : ¬ (x < 0 ∨ 3 < x)) : ∃ k, k < 4 ∧ x = nI k := by
  obtain ⟨j, hj, rfl⟩ := jN (n := 3) (by decide +kernel) h
  exact ⟨j, by omega, rfl⟩
def I_s1 (σ : jm_S) (k n : Nat) : Prop := n ≤ 60 ∧ σ (53 + 2 * k) 1 = σ 62 k ∧ (σ 62 k = -1 ∨ ¬ σ 62 k < 0) ∧ σ (53 + 2 * k) 2 = nI n ∧ σ 63 k = nI n ∧ ∀ j, j < n → σ (54 + 2 * k) j = σ 64 (60 * k + j)
def I_sh (σ : jm_S) : Prop := ∀ k, k < 4 → ∃ n, I_s1 σ k n
def I_lat (σ : jm_S) : Prop := σ 0 10 = σ 61 4
def I_sl (σ : jm_S) : Prop := I_sh σ ∧ I_lat σ
abbrev jSS : List Nat := [0, 53, 54, 55, 56, 57, 58, 59, 60, 62, 63, 64, 65]
theorem jSS1 {k : Nat} (hk : k < 4) : 53 + 2 * k ∈ jSS ∧ 54 + 2 * k ∈ jSS ∧ 53 + 2 * k ≠ 61 ∧ 54 + 2 * k ≠ 61 := by
  match k, hk with
  | 0, _ => decide
  | 1, _ => decide
  | 2, _ => decide
  | 3, _ => decide
theorem I_s1_c {σ ρ : jm_S} {k n : Nat} (h : I_s1 σ k n) (ha : ρ (53 + 2 * k) = σ (53 + 2 * k)) (hb : ρ (54 + 2 * k) = σ (54 + 2 * k)) (h2 : ρ 62 k = σ 62 k) (h3 : ρ 63 k = σ 63 k) (h4 : ∀ j, j < 60 → ρ 64 (60 * k + j) = σ 64 (60 * k + j)) : I_s1 ρ k n := by
  obtain ⟨p1, p2, p3, p4, p5, p6⟩ := h
  exact ⟨p1, by rw [ha, h2]; exact p2, by rw [h2]; exact p3, by rw [ha]; exact p4, by rw [h3]; exact p5, fun j hj => by rw [hb, h4 j (by omega)]; exact p6 j hj⟩
/-- one sheet changes -/
theorem I_sh_1 {σ ρ : jm_S} (hs : I_sh σ) {k : Nat} (hr : ∀ a, a ∉ [53 + 2 * k, 54 + 2 * k, 0, 61, 62, 63, 64, 65] → ρ a = σ a) (h2 : ∀ j, j ≠ k → ρ 62 j = σ 62 j) (h3 : ∀ j, j ≠ k → ρ 63 j = σ 63 j) (h4 : ∀ j, ¬ (60 * k ≤ j ∧ j < 60 * k + 60) → ρ 64 j = σ 64 j) {n : Nat} (h : I_s1 ρ k n) : I_sh ρ := by
  intro k' hk'
  by_cases e : k' = k
  · subst e; exact ⟨n, h⟩
  · obtain ⟨n', h'⟩ := hs k' hk'
    refine ⟨n', I_s1_c h' (hr _ ?_) (hr _ ?_) (h2 _ e) (h3 _ e) (fun j hj => h4 _ ?_)⟩
    · simp only [List.mem_cons, List.not_mem_nil, or_false, not_or]; omega
    · simp only [List.mem_cons, List.not_mem_nil, or_false, not_or]; omega
    · omega
theorem M_met (x : Int32) (σ : jm_S) : jc 121 [.ref 61, .int x] σ = some (some (.int (-10 - x)), jm_up σ 61 4 x) := M_met_in x σ
theorem P_finding (x : Int32) (σ : jm_S) : jc 9 [.ref 0, .int x] σ = some (some (.int (-10 - x)), jm_up σ 0 10 x) := P_finding_in x σ
theorem I_find {σ : jm_S} (hs : I_sh σ) (x : Int32) : I_sl (jm_up (jm_up σ 0 10 x) 61 4 x) ∧ jFr jSS [4] σ (jm_up (jm_up σ 0 10 x) 61 4 x) := by
  have e : ∀ a, a ≠ 0 → a ≠ 61 → (jm_up (jm_up σ 0 10 x) 61 4 x) a = σ a := fun a h0 h61 => by rw [jup_n _ _ _ h61, jup_n _ _ _ h0]
  refine ⟨⟨fun k hk => ?_, ?_⟩, (jFr.up jFr.rf (by decide) (by decide)).u61 (by decide)⟩
  · obtain ⟨n, h⟩ := hs k hk
    exact ⟨n, I_s1_c h (e _ (by omega) (by omega)) (e _ (by omega) (by omega)) (by rw [e _ (by decide) (by decide)]) (by rw [e _ (by decide) (by decide)]) (fun j _ => by rw [e _ (by decide) (by decide)])⟩
  · unfold I_lat
    rw [jup_n _ _ _ (by decide), jup_s, jup_s]
    rfl
/-- both answer alike, and what holds goes on -/
def jSame (σ : jm_S) (S K : List Nat) (p : jm_S → Prop) (c1 c2 : jm_S → Option (Option Value × jm_S)) : Prop := ∃ v τ ρ, c1 σ = some (v, τ) ∧ c2 τ = some (v, ρ) ∧ p ρ ∧ jFr S K σ ρ
theorem jSame_find {σ : jm_S} (hs : I_sh σ) {x : Int32} {v : Value} {c1 c2 : jm_S → Option (Option Value × jm_S)} (h1 : c1 σ = some (some v, jm_up σ 0 10 x)) (h2 : ∀ τ, τ 62 = σ 62 → τ 63 = σ 63 → c2 τ = some (some v, jm_up τ 61 4 x)) : jSame σ jSS [4] I_sl c1 c2 :=
  ⟨_, _, _, h1, h2 _ (jup_n _ _ _ (by decide)) (jup_n _ _ _ (by decide)), (I_find hs x).1, (I_find hs x).2⟩
theorem jSame_bad {σ : jm_S} {S K : List Nat} {p : jm_S → Prop} (hp : p σ) {v : Value} {c1 c2 : jm_S → Option (Option Value × jm_S)} (h1 : c1 σ = some (some v, σ)) (h2 : c2 σ = some (some v, σ)) : jSame σ S K p c1 c2 := ⟨_, _, _, h1, h2, hp, jFr.rf⟩
/-! the class's own -/
theorem Sheet_isLost {k : Nat} (hk : k < 4) (σ : jm_S) : jc 8 [.ref (53 + 2 * k)] σ = some (some (.int (if σ (53 + 2 * k) 1 = -1 then 1 else 0)), σ) := by
  match k, hk with
  | 0, _ => show jc 8 [.ref 53] σ = some (some (.int (if σ 53 1 = -1 then 1 else 0)), σ); rw [Sheet_isLost_53_in]; by_cases h : σ 53 1 = -1 <;> simp [h]
  | 1, _ => show jc 8 [.ref 55] σ = some (some (.int (if σ 55 1 = -1 then 1 else 0)), σ); rw [Sheet_isLost_55_in]; by_cases h : σ 55 1 = -1 <;> simp [h]
  | 2, _ => show jc 8 [.ref 57] σ = some (some (.int (if σ 57 1 = -1 then 1 else 0)), σ); rw [Sheet_isLost_57_in]; by_cases h : σ 57 1 = -1 <;> simp [h]
  | 3, _ => show jc 8 [.ref 59] σ = some (some (.int (if σ 59 1 = -1 then 1 else 0)), σ); rw [Sheet_isLost_59_in]; by_cases h : σ 59 1 = -1 <;> simp [h]
theorem Sheet_objection {k : Nat} (hk : k < 4) (f i : Int32) (σ : jm_S) : jc 106 [.ref (53 + 2 * k), .int f, .int i] σ = some (some (.int (if σ (53 + 2 * k) 1 = -1 then 1 else if σ (53 + 2 * k) 1 = f then (if i < 0 ∨ ¬ i < σ (53 + 2 * k) 2 then 2 else 0) else 3)), σ) := by
  match k, hk with
  | 0, h =>
    have e : jc 8 [.ref 53] σ = some (some (.int (if σ 53 1 = -1 then 1 else 0)), σ) := Sheet_isLost h σ
    show jc 106 [.ref 53, .int f, .int i] σ = some (some (.int (if σ 53 1 = -1 then 1 else if σ 53 1 = f then (if i < 0 ∨ ¬ i < σ 53 2 then 2 else 0) else 3)), σ)
    rw [Sheet_objection_53_in, e, jbi_some]
    by_cases h : σ 53 1 = -1
    · simp [h]
    · by_cases h1 : σ 53 1 = f
      · by_cases h2 : i < 0
        · simp only [if_neg h, if_pos h1, if_true, if_pos h2, if_pos (Or.inl h2 : i < 0 ∨ ¬ i < σ 53 2)]
        · by_cases h3 : i < σ 53 2 <;> simp only [if_neg h, if_pos h1, if_true, if_neg h2, h3, not_true_eq_false, not_false_eq_true, if_false, h2, or_false, or_true, false_or]
      · simp [h, h1]
  | 1, h =>
    have e : jc 8 [.ref 55] σ = some (some (.int (if σ 55 1 = -1 then 1 else 0)), σ) := Sheet_isLost h σ
    show jc 106 [.ref 55, .int f, .int i] σ = some (some (.int (if σ 55 1 = -1 then 1 else if σ 55 1 = f then (if i < 0 ∨ ¬ i < σ 55 2 then 2 else 0) else 3)), σ)
    rw [Sheet_objection_55_in, e, jbi_some]
    by_cases h : σ 55 1 = -1
    · simp [h]
    · by_cases h1 : σ 55 1 = f
      · by_cases h2 : i < 0
        · simp only [if_neg h, if_pos h1, if_true, if_pos h2, if_pos (Or.inl h2 : i < 0 ∨ ¬ i < σ 55 2)]
        · by_cases h3 : i < σ 55 2 <;> simp only [if_neg h, if_pos h1, if_true, if_neg h2, h3, not_true_eq_false, not_false_eq_true, if_false, h2, or_false, or_true, false_or]
      · simp [h, h1]
  | 2, h =>
    have e : jc 8 [.ref 57] σ = some (some (.int (if σ 57 1 = -1 then 1 else 0)), σ) := Sheet_isLost h σ
    show jc 106 [.ref 57, .int f, .int i] σ = some (some (.int (if σ 57 1 = -1 then 1 else if σ 57 1 = f then (if i < 0 ∨ ¬ i < σ 57 2 then 2 else 0) else 3)), σ)
    rw [Sheet_objection_57_in, e, jbi_some]
    by_cases h : σ 57 1 = -1
    · simp [h]
    · by_cases h1 : σ 57 1 = f
      · by_cases h2 : i < 0
        · simp only [if_neg h, if_pos h1, if_true, if_pos h2, if_pos (Or.inl h2 : i < 0 ∨ ¬ i < σ 57 2)]
        · by_cases h3 : i < σ 57 2 <;> simp only [if_neg h, if_pos h1, if_true, if_neg h2, h3, not_true_eq_false, not_false_eq_true, if_false, h2, or_false, or_true, false_or]
      · simp [h, h1]
  | 3, h =>
    have e : jc 8 [.ref 59] σ = some (some (.int (if σ 59 1 = -1 then 1 else 0)), σ) := Sheet_isLost h σ
    show jc 106 [.ref 59, .int f, .int i] σ = some (some (.int (if σ 59 1 = -1 then 1 else if σ 59 1 = f then (if i < 0 ∨ ¬ i < σ 59 2 then 2 else 0) else 3)), σ)
    rw [Sheet_objection_59_in, e, jbi_some]
    by_cases h : σ 59 1 = -1
    · simp [h]
    · by_cases h1 : σ 59 1 = f
      · by_cases h2 : i < 0
        · simp only [if_neg h, if_pos h1, if_true, if_pos h2, if_pos (Or.inl h2 : i < 0 ∨ ¬ i < σ 59 2)]
        · by_cases h3 : i < σ 59 2 <;> simp only [if_neg h, if_pos h1, if_true, if_neg h2, h3, not_true_eq_false, not_false_eq_true, if_false, h2, or_false, or_true, false_or]
      · simp [h, h1]
def jcut (f v : Int32) : Int32 := if f = 0 then v.toInt8.toInt32 else if f = 1 then v.toInt16.toInt32 else v
theorem M_cut (f v : Int32) (σ : jm_S) : jc 125 [.int f, .int v] σ = some (some (.int (jcut f v)), σ) := by
  rw [M_cut_in]
  unfold jcut
  by_cases h : f = 0
  · simp [h]
  · by_cases h1 : f = 1 <;> simp [h, h1]
theorem Sheet_put {k : Nat} (hk : k < 4) {j : Nat} (hj : j < 60) (v : Int32) (σ : jm_S) : jc 107 [.ref (53 + 2 * k), .int (nI j), .int v] σ = some (none, jm_up σ (54 + 2 * k) j (jcut (σ (53 + 2 * k) 1) v)) := by
  unfold jcut
  match k, hk with
  | 0, h => 
    show jc 107 [.ref 53, .int (nI j), .int v] σ = some (none, jm_up σ 54 j (if σ 53 1 = 0 then v.toInt8.toInt32 else if σ 53 1 = 1 then v.toInt16.toInt32 else v))
    rw [Sheet_put_53_in]
    simp only [nI_clamp (show j < 2 ^ 31 by omega), jbad2 hj (by decide), if_false]
    by_cases h : σ 53 1 = 0
    · simp [h]
    · by_cases h1 : σ 53 1 = 1 <;> simp [h, h1]
  | 1, h => 
    show jc 107 [.ref 55, .int (nI j), .int v] σ = some (none, jm_up σ 56 j (if σ 55 1 = 0 then v.toInt8.toInt32 else if σ 55 1 = 1 then v.toInt16.toInt32 else v))
    rw [Sheet_put_55_in]
    simp only [nI_clamp (show j < 2 ^ 31 by omega), jbad2 hj (by decide), if_false]
    by_cases h : σ 55 1 = 0
    · simp [h]
    · by_cases h1 : σ 55 1 = 1 <;> simp [h, h1]
  | 2, h => 
    show jc 107 [.ref 57, .int (nI j), .int v] σ = some (none, jm_up σ 58 j (if σ 57 1 = 0 then v.toInt8.toInt32 else if σ 57 1 = 1 then v.toInt16.toInt32 else v))
    rw [Sheet_put_57_in]
    simp only [nI_clamp (show j < 2 ^ 31 by omega), jbad2 hj (by decide), if_false]
    by_cases h : σ 57 1 = 0
    · simp [h]
    · by_cases h1 : σ 57 1 = 1 <;> simp [h, h1]
  | 3, h => 
    show jc 107 [.ref 59, .int (nI j), .int v] σ = some (none, jm_up σ 60 j (if σ 59 1 = 0 then v.toInt8.toInt32 else if σ 59 1 = 1 then v.toInt16.toInt32 else v))
    rw [Sheet_put_59_in]
    simp only [nI_clamp (show j < 2 ^ 31 by omega), jbad2 hj (by decide), if_false]
    by_cases h : σ 59 1 = 0
    · simp [h]
    · by_cases h1 : σ 59 1 = 1 <;> simp [h, h1]
theorem Sheet_renew {k : Nat} (hk : k < 4) (f n : Int32) (σ : jm_S) : jc 103 [.ref (53 + 2 * k), .int f, .int n] σ = some (none, jm_row (jm_up (jm_up σ (53 + 2 * k) 1 f) (53 + 2 * k) 2 n) (54 + 2 * k) (fun j => if j < 60 then 0 else σ (54 + 2 * k) j)) := by
  match k, hk with
  | 0, h => 
    show jc 103 [.ref 53, .int f, .int n] σ = some (none, jm_row (jm_up (jm_up σ 53 1 f) 53 2 n) 54 (fun j => if j < 60 then 0 else σ 54 j))
    rw [Sheet_renew_53_in, Arrays_fill_54, jbv_some]
    rfl
  | 1, h => 
    show jc 103 [.ref 55, .int f, .int n] σ = some (none, jm_row (jm_up (jm_up σ 55 1 f) 55 2 n) 56 (fun j => if j < 60 then 0 else σ 56 j))
    rw [Sheet_renew_55_in, Arrays_fill_56, jbv_some]
    rfl
  | 2, h => 
    show jc 103 [.ref 57, .int f, .int n] σ = some (none, jm_row (jm_up (jm_up σ 57 1 f) 57 2 n) 58 (fun j => if j < 60 then 0 else σ 58 j))
    rw [Sheet_renew_57_in, Arrays_fill_58, jbv_some]
    rfl
  | 3, h => 
    show jc 103 [.ref 59, .int f, .int n] σ = some (none, jm_row (jm_up (jm_up σ 59 1 f) 59 2 n) 60 (fun j => if j < 60 then 0 else σ 60 j))
    rw [Sheet_renew_59_in, Arrays_fill_60, jbv_some]
    rfl
theorem Sheet_hasStretch {k : Nat} (hk : k < 4) (i n : Int32) (σ : jm_S) : jc 110 [.ref (53 + 2 * k), .int i, .int n] σ = some (some (.int (if i < 0 ∨ n < 0 ∨ σ (53 + 2 * k) 2 < i ∨ σ (53 + 2 * k) 2 - i < n then 0 else 1)), σ) := by
  match k, hk with
  | 0, h => 
    show jc 110 [.ref 53, .int i, .int n] σ = some (some (.int (if i < 0 ∨ n < 0 ∨ σ 53 2 < i ∨ σ 53 2 - i < n then 0 else 1)), σ)
    rw [Sheet_hasStretch_53_in]
    by_cases h1 : i < 0
    · simp [h1]
    · by_cases h2 : n < 0
      · simp [h1, h2]
      · by_cases h3 : σ 53 2 < i
        · simp [h1, h2, h3]
        · by_cases h4 : σ 53 2 - i < n <;> simp [h1, h2, h3, h4]
  | 1, h => 
    show jc 110 [.ref 55, .int i, .int n] σ = some (some (.int (if i < 0 ∨ n < 0 ∨ σ 55 2 < i ∨ σ 55 2 - i < n then 0 else 1)), σ)
    rw [Sheet_hasStretch_55_in]
    by_cases h1 : i < 0
    · simp [h1]
    · by_cases h2 : n < 0
      · simp [h1, h2]
      · by_cases h3 : σ 55 2 < i
        · simp [h1, h2, h3]
        · by_cases h4 : σ 55 2 - i < n <;> simp [h1, h2, h3, h4]
  | 2, h => 
    show jc 110 [.ref 57, .int i, .int n] σ = some (some (.int (if i < 0 ∨ n < 0 ∨ σ 57 2 < i ∨ σ 57 2 - i < n then 0 else 1)), σ)
    rw [Sheet_hasStretch_57_in]
    by_cases h1 : i < 0
    · simp [h1]
    · by_cases h2 : n < 0
      · simp [h1, h2]
      · by_cases h3 : σ 57 2 < i
        · simp [h1, h2, h3]
        · by_cases h4 : σ 57 2 - i < n <;> simp [h1, h2, h3, h4]
  | 3, h => 
    show jc 110 [.ref 59, .int i, .int n] σ = some (some (.int (if i < 0 ∨ n < 0 ∨ σ 59 2 < i ∨ σ 59 2 - i < n then 0 else 1)), σ)
    rw [Sheet_hasStretch_59_in]
    by_cases h1 : i < 0
    · simp [h1]
    · by_cases h2 : n < 0
      · simp [h1, h2]
      · by_cases h3 : σ 59 2 < i
        · simp [h1, h2, h3]
        · by_cases h4 : σ 59 2 - i < n <;> simp [h1, h2, h3, h4]
theorem P_lose {k : Nat} (hk : k < 4) (σ : jm_S) : jc 104 [.ref 0, .int (nI k)] σ = if σ (53 + 2 * k) 1 = -1 then some (some (.int (-10 - 1)), jm_up σ 0 10 1) else some (some (.int (σ (53 + 2 * k) 2)), jm_up σ (53 + 2 * k) 1 (-1)) := by
  rw [P_lose_in, P_isOutside, jbi_some]
  simp only [jout hk, if_false, if_true]
  match k, hk with
  | 0, h => 
    have e : jc 8 [.ref 53] σ = some (some (.int (if σ 53 1 = -1 then 1 else 0)), σ) := Sheet_isLost h σ
    simp only [jnI0, jaa4_0, P_lose_A18_53, P_lose_A36_53, P_lose_A46_53, e, jbi_some]
    show _ = if σ 53 1 = -1 then some (some (Value.int (-10 - 1)), jm_up σ 0 10 1) else some (some (Value.int (σ 53 2)), jm_up σ 53 1 (-1))
    by_cases h : σ 53 1 = -1
    · simp [h, P_finding, jbi_some]
    · simp [h, jup, jupd]
  | 1, h => 
    have e : jc 8 [.ref 55] σ = some (some (.int (if σ 55 1 = -1 then 1 else 0)), σ) := Sheet_isLost h σ
    simp only [jnI1, jaa4_1, P_lose_A18_55, P_lose_A36_55, P_lose_A46_55, e, jbi_some]
    show _ = if σ 55 1 = -1 then some (some (Value.int (-10 - 1)), jm_up σ 0 10 1) else some (some (Value.int (σ 55 2)), jm_up σ 55 1 (-1))
    by_cases h : σ 55 1 = -1
    · simp [h, P_finding, jbi_some]
    · simp [h, jup, jupd]
  | 2, h => 
    have e : jc 8 [.ref 57] σ = some (some (.int (if σ 57 1 = -1 then 1 else 0)), σ) := Sheet_isLost h σ
    simp only [jnI2, jaa4_2, P_lose_A18_57, P_lose_A36_57, P_lose_A46_57, e, jbi_some]
    show _ = if σ 57 1 = -1 then some (some (Value.int (-10 - 1)), jm_up σ 0 10 1) else some (some (Value.int (σ 57 2)), jm_up σ 57 1 (-1))
    by_cases h : σ 57 1 = -1
    · simp [h, P_finding, jbi_some]
    · simp [h, jup, jupd]
  | 3, h => 
    have e : jc 8 [.ref 59] σ = some (some (.int (if σ 59 1 = -1 then 1 else 0)), σ) := Sheet_isLost h σ
    simp only [jnI3, jaa4_3, P_lose_A18_59, P_lose_A36_59, P_lose_A46_59, e, jbi_some]
    show _ = if σ 59 1 = -1 then some (some (Value.int (-10 - 1)), jm_up σ 0 10 1) else some (some (Value.int (σ 59 2)), jm_up σ 59 1 (-1))
    by_cases h : σ 59 1 = -1
    · simp [h, P_finding, jbi_some]
    · simp [h, jup, jupd]
theorem A_lose {σ : jm_S} (h : I_sl σ) (x : Int32) : jSame σ jSS [4] I_sl (jc 104 [.ref 0, .int x]) (jc 122 [.ref 61, .int x]) := by
  obtain ⟨hs, hl⟩ := id h
  by_cases hx : x < 0 ∨ 3 < x
  · refine jSame_bad h (v := .int (-2)) ?_ ?_
    · rw [P_lose_in, P_isOutside, jbi_some]; simp [hx]
    · rw [M_lose_in, M_isSheet, jbi_some]; simp [hx]
  · obtain ⟨k, hk, rfl⟩ := jN4 hx
    obtain ⟨n, h1⟩ := hs k hk
    obtain ⟨p1, p2, p3, p4, p5, p6⟩ := id h1
    have hM : ∀ τ, jc 122 [.ref 61, .int (nI k)] τ = if 0 ≤ τ 62 k then some (some (.int (τ 63 k)), jm_up τ 62 k (-1)) else some (some (.int (-10 - 1)), jm_up τ 61 4 1) := by
      intro τ
      rw [M_lose_in, M_isSheet, jbi_some]
      simp only [jout hk, if_false, M_met, jbi_some, nI_clamp (show k < 2 ^ 31 by omega), jbad2 hk (by decide)]
      simp
    by_cases hf : σ 62 k = -1
    · refine jSame_find hs (x := 1) (v := .int (-10 - 1)) ?_ ?_
      · rw [P_lose hk, if_pos (p2.trans hf)]
      · intro τ e1 _
        rw [hM, e1, hf, if_neg (by decide)]
    · have hf0 : 0 ≤ σ 62 k := Int32.not_lt.mp (p3.resolve_left hf)
      refine ⟨some (.int (nI n)), jm_up σ (53 + 2 * k) 1 (-1), jm_up (jm_up σ (53 + 2 * k) 1 (-1)) 62 k (-1), by rw [P_lose hk, if_neg (by rw [p2]; exact hf), p4], ?_, ⟨?_, ?_⟩, ?_⟩
      · rw [hM, jup_n _ _ _ (by omega), jup_n _ _ _ (by omega), if_pos hf0, p5]
      · refine I_sh_1 (k := k) hs (fun a ha => ?_) (fun j hj => ?_) (fun j hj => ?_) (fun j hj => ?_) (n := n) ?_
        · simp only [List.mem_cons, List.not_mem_nil, or_false, not_or] at ha
          rw [jup_n _ _ _ (by omega), jup_n _ _ _ (by omega)]
        · rw [jup_s, jupd, if_neg hj, jup_n _ _ _ (by omega)]
        · rw [jup_n _ _ _ (by omega), jup_n _ _ _ (by omega)]
        · rw [jup_n _ _ _ (by omega), jup_n _ _ _ (by omega)]
        · refine ⟨p1, ?_, ?_, ?_, ?_, ?_⟩
          · rw [jup_n _ _ _ (by omega), jup_s, jupd, if_pos rfl, jup_s, jupd, if_pos rfl]
          · rw [jup_s, jupd, if_pos rfl]; exact Or.inl rfl
          · rw [jup_n _ _ _ (by omega), jup_s, jupd, if_neg (by decide)]; exact p4
          · rw [jup_n _ _ _ (by omega), jup_n _ _ _ (by omega)]; exact p5
          · intro j hj
            rw [jup_n _ _ _ (by omega), jup_n _ _ _ (by omega), jup_n _ _ _ (by omega), jup_n _ _ _ (by omega)]; exact p6 j hj
      · unfold I_lat
        rw [jup_n _ _ _ (by omega), jup_n _ _ _ (by omega), jup_n _ _ _ (by omega), jup_n _ _ _ (by omega)]; exact hl
      · exact (jFr.up jFr.rf (jSS1 hk).1 (jSS1 hk).2.2.1).up (by decide) (by decide)
