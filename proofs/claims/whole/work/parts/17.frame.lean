/-! ===== frames; small numbers ===== -/
def jFr (S K : List Nat) (σ ρ : jm_S) : Prop := (∀ a, a ∉ S → a ≠ 61 → ρ a = σ a) ∧ (∀ k, k ∉ K → ρ 61 k = σ 61 k)
theorem jFr.rf {S K : List Nat} {σ : jm_S} : jFr S K σ σ := ⟨fun _ _ _ => rfl, fun _ _ => rfl⟩
theorem jFr.up {S K : List Nat} {σ ρ : jm_S} (h : jFr S K σ ρ) {b k : Nat} {x : Int32} (hb : b ∈ S) (h61 : b ≠ 61) : jFr S K σ (jm_up ρ b k x) := by
  refine ⟨fun a ha h6 => ?_, fun k hk => ?_⟩
  · rw [jup_n _ _ _ (fun e => ha (by rw [e]; exact hb))]; exact h.1 a ha h6
  · rw [jup_n _ _ _ (Ne.symm h61)]; exact h.2 k hk
theorem jFr.row {S K : List Nat} {σ ρ : jm_S} (h : jFr S K σ ρ) {b : Nat} {f : Nat → Int32} (hb : b ∈ S) (h61 : b ≠ 61) : jFr S K σ (jm_row ρ b f) := by
  refine ⟨fun a ha h6 => ?_, fun k hk => ?_⟩
  · rw [jrow_n _ _ (fun e => ha (by rw [e]; exact hb))]; exact h.1 a ha h6
  · rw [jrow_n _ _ (Ne.symm h61)]; exact h.2 k hk
theorem jFr.u61 {S K : List Nat} {σ ρ : jm_S} (h : jFr S K σ ρ) {k : Nat} {x : Int32} (hk : k ∈ K) : jFr S K σ (jm_up ρ 61 k x) := by
  refine ⟨fun a ha h6 => ?_, fun j hj => ?_⟩
  · rw [jup_n _ _ _ h6]; exact h.1 a ha h6
  · rw [jup_s, jupd, if_neg (fun e => hj (by rw [e]; exact hk))]; exact h.2 j hj
theorem jFr.trans {S K : List Nat} {σ ρ τ : jm_S} (h : jFr S K σ ρ) (h2 : jFr S K ρ τ) : jFr S K σ τ :=
  ⟨fun a ha h6 => (h2.1 a ha h6).trans (h.1 a ha h6), fun k hk => (h2.2 k hk).trans (h.2 k hk)⟩
theorem jFr.weak {S K S' K' : List Nat} {σ ρ : jm_S} (h : jFr S K σ ρ) (hS : ∀ a ∈ S, a ∈ S') (hK : ∀ a ∈ K, a ∈ K') : jFr S' K' σ ρ :=
  ⟨fun a ha h6 => h.1 a (fun z => ha (hS a z)) h6, fun k hk => h.2 k (fun z => hk (hK k z))⟩
theorem jaa4_0 (a b c d : Nat) (f : Nat → Option (Option Value × jm_S)) : jaa 0 [a, b, c, d] f = f a := by simp [jaa]
theorem jaa4_1 (a b c d : Nat) (f : Nat → Option (Option Value × jm_S)) : jaa 1 [a, b, c, d] f = f b := by
  have e : (1 : Int32).toNatClampNeg = 1 := by decide +kernel
  have e2 : ¬ (1 : Int32) < 0 := by decide +kernel
  simp [jaa, e, e2]
theorem jaa4_2 (a b c d : Nat) (f : Nat → Option (Option Value × jm_S)) : jaa 2 [a, b, c, d] f = f c := by
  have e : (2 : Int32).toNatClampNeg = 2 := by decide +kernel
  have e2 : ¬ (2 : Int32) < 0 := by decide +kernel
  simp [jaa, e, e2]
theorem jaa4_3 (a b c d : Nat) (f : Nat → Option (Option Value × jm_S)) : jaa 3 [a, b, c, d] f = f d := by
  have e : (3 : Int32).toNatClampNeg = 3 := by decide +kernel
  have e2 : ¬ (3 : Int32) < 0 := by decide +kernel
  simp [jaa, e, e2]
theorem jaa3_0 (a b c : Nat) (f : Nat → Option (Option Value × jm_S)) : jaa 0 [a, b, c] f = f a := by simp [jaa]
theorem jaa3_1 (a b c : Nat) (f : Nat → Option (Option Value × jm_S)) : jaa 1 [a, b, c] f = f b := by
  have e : (1 : Int32).toNatClampNeg = 1 := by decide +kernel
  have e2 : ¬ (1 : Int32) < 0 := by decide +kernel
  simp [jaa, e, e2]
theorem jaa3_2 (a b c : Nat) (f : Nat → Option (Option Value × jm_S)) : jaa 2 [a, b, c] f = f c := by
  have e : (2 : Int32).toNatClampNeg = 2 := by decide +kernel
  have e2 : ¬ (2 : Int32) < 0 := by decide +kernel
  simp [jaa, e, e2]
theorem jN {x M : Int32} {n : Nat} (hM : M.toInt = n) (h : ¬ (x < 0 ∨ M < x)) : ∃ j : Nat, j ≤ n ∧ x = nI j :=
  nI_of2 hM (fun q => h (Or.inl q)) (Int32.not_lt.mp fun q => h (Or.inr q))
theorem j4 {x : Int32} (h : ¬ (x < 0 ∨ 3 < x)) : x = 0 ∨ x = 1 ∨ x = 2 ∨ x = 3 := by
  obtain ⟨j, hj, rfl⟩ := jN (n := 3) (by decide +kernel) h
  match j, hj with
  | 0, _ => exact Or.inl (by decide +kernel)
  | 1, _ => exact Or.inr (Or.inl (by decide +kernel))
  | 2, _ => exact Or.inr (Or.inr (Or.inl (by decide +kernel)))
  | 3, _ => exact Or.inr (Or.inr (Or.inr (by decide +kernel)))
  | n + 4, h => omega
theorem j3 {x : Int32} (h : ¬ (x < 0 ∨ 2 < x)) : x = 0 ∨ x = 1 ∨ x = 2 := by
  obtain ⟨j, hj, rfl⟩ := jN (n := 2) (by decide +kernel) h
  match j, hj with
  | 0, _ => exact Or.inl (by decide +kernel)
  | 1, _ => exact Or.inr (Or.inl (by decide +kernel))
  | 2, _ => exact Or.inr (Or.inr (by decide +kernel))
  | n + 3, h => omega
theorem jn0 : (0 : Int32).toNatClampNeg = 0 := by decide +kernel
theorem jn1 : (1 : Int32).toNatClampNeg = 1 := by decide +kernel
theorem jn2 : (2 : Int32).toNatClampNeg = 2 := by decide +kernel
theorem jn3 : (3 : Int32).toNatClampNeg = 3 := by decide +kernel
theorem jbd0 (N : Nat) (h : 0 < N) : ((0 : Int32) < 0 ∨ N ≤ (0 : Int32).toNatClampNeg) = False := jbadx (by decide +kernel) (by rw [jn0]; exact h)
theorem jbd1 (N : Nat) (h : 1 < N) : ((1 : Int32) < 0 ∨ N ≤ (1 : Int32).toNatClampNeg) = False := jbadx (by decide +kernel) (by rw [jn1]; exact h)
theorem jbd2 (N : Nat) (h : 2 < N) : ((2 : Int32) < 0 ∨ N ≤ (2 : Int32).toNatClampNeg) = False := jbadx (by decide +kernel) (by rw [jn2]; exact h)
theorem jbd3 (N : Nat) (h : 3 < N) : ((3 : Int32) < 0 ∨ N ≤ (3 : Int32).toNatClampNeg) = False := jbadx (by decide +kernel) (by rw [jn3]; exact h)
theorem jo0 : ((0 : Int32) < 0 ∨ 3 < (0 : Int32)) = False := by decide +kernel
theorem jo1 : ((1 : Int32) < 0 ∨ 3 < (1 : Int32)) = False := by decide +kernel
theorem jo2 : ((2 : Int32) < 0 ∨ 3 < (2 : Int32)) = False := by decide +kernel
theorem jo3 : ((3 : Int32) < 0 ∨ 3 < (3 : Int32)) = False := by decide +kernel
theorem M_isSheet (x : Int32) (σ : jm_S) : jc 119 [.int x] σ = some (some (.int (if x < 0 ∨ 3 < x then 0 else 1)), σ) := by
  rw [M_isSheet_in, M_in x 0 3 0 3 (by decide +kernel) (by decide +kernel), jbi_some]
  by_cases h : x < 0 ∨ 3 < x <;> simp [h]
theorem M_isPlace (x : Int32) (σ : jm_S) : jc 129 [.int x] σ = some (some (.int (if x < 0 ∨ 3 < x then 0 else 1)), σ) := by
  rw [M_isPlace_in, M_in x 0 3 0 3 (by decide +kernel) (by decide +kernel), jbi_some]
  by_cases h : x < 0 ∨ 3 < x <;> simp [h]
theorem M_isText (x : Int32) (σ : jm_S) : jc 137 [.int x] σ = some (some (.int (if x < 0 ∨ 3 < x then 0 else 1)), σ) := by
  rw [M_isText_in, M_in x 0 3 0 3 (by decide +kernel) (by decide +kernel), jbi_some]
  by_cases h : x < 0 ∨ 3 < x <;> simp [h]
theorem M_isRule (x : Int32) (σ : jm_S) : jc 163 [.int x] σ = some (some (.int (if x < 0 ∨ 2 < x then 0 else 1)), σ) := by
  rw [M_isRule_in, M_in x 0 2 0 2 (by decide +kernel) (by decide +kernel), jbi_some]
  by_cases h : x < 0 ∨ 2 < x <;> simp [h]
theorem M_isTwo (x : Int32) (σ : jm_S) : jc 180 [.int x] σ = some (some (.int (if x < 0 ∨ 1 < x then 0 else 1)), σ) := by
  rw [M_isTwo_in, M_in x 0 1 0 1 (by decide +kernel) (by decide +kernel), jbi_some]
  by_cases h : x < 0 ∨ 1 < x <;> simp [h]
theorem M_isLong (x : Int32) (σ : jm_S) : jc 175 [.int x] σ = some (some (.int (if x < 1 ∨ 200 < x then 0 else 1)), σ) := by
  rw [M_isLong_in, M_in x 1 200 1 200 (by decide +kernel) (by decide +kernel), jbi_some]
  by_cases h : x < 1 ∨ 200 < x <;> simp [h]
theorem M_isDamp (x : Int32) (σ : jm_S) : jc 186 [.int x] σ = some (some (.int (if x < 0 ∨ 99 < x then 0 else 1)), σ) := by
  rw [M_isDamp_in, M_in x 0 99 0 99 (by decide +kernel) (by decide +kernel), jbi_some]
  by_cases h : x < 0 ∨ 99 < x <;> simp [h]
theorem Arrays_fill_7_loop (v : Int32) : ∀ (k i : Nat) (σ : jm_S), i + k = 200 → jv 21 5 [some (.ref 7), some (.int v), some (.int (nI i)), some (.int (nI 200))] [] σ = some (none, jm_row σ 7 (fun j => if i ≤ j ∧ j < 200 then v else σ 7 j)) := by
  intro k
  induction k with
  | zero =>
    intro i σ h
    rw [Arrays_fill_7_L5, if_pos (nI_le (by omega) (by omega))]
    congr 2
    funext b j
    by_cases hb : b = 7
    · subst hb; rw [jrow_s, if_neg (by omega)]
    · rw [jrow_n _ _ hb]
  | succ k ih =>
    intro i σ h
    rw [Arrays_fill_7_L5, if_neg (nI_ge (by omega) (by omega))]
    simp only [jbad2 (show i < 200 by omega) (by decide), if_false, nI_1, nI_clamp (show i < 2 ^ 31 by omega)]
    rw [ih _ _ (by omega)]
    congr 2
    funext b j
    by_cases hb : b = 7
    · subst hb
      rw [jrow_s, jrow_s, jup_s, jupd]
      by_cases h1 : j = i
      · subst h1; simp; omega
      · by_cases h2 : i ≤ j ∧ j < 200
        · rw [if_pos (show i + 1 ≤ j ∧ j < 200 by omega), if_pos h2]
        · rw [if_neg (show ¬ (i + 1 ≤ j ∧ j < 200) by omega), if_neg h2, if_neg h1]
    · rw [jrow_n _ _ hb, jrow_n _ _ hb, jup_n _ _ _ hb]
theorem Arrays_fill_7 (v : Int32) (σ : jm_S) : jc 21 [.ref 7, .int v] σ = some (none, jm_row σ 7 (fun j => if j < 200 then v else σ 7 j)) := by
  rw [Arrays_fill_7_in]
  have h := Arrays_fill_7_loop v 200 0 σ (by omega)
  rw [show nI 200 = (200 : Int32) by decide +kernel, nI_0] at h
  rw [h]
  simp
theorem Arrays_fill_8_loop (v : Int32) : ∀ (k i : Nat) (σ : jm_S), i + k = 200 → jv 21 5 [some (.ref 8), some (.int v), some (.int (nI i)), some (.int (nI 200))] [] σ = some (none, jm_row σ 8 (fun j => if i ≤ j ∧ j < 200 then v else σ 8 j)) := by
  intro k
  induction k with
  | zero =>
    intro i σ h
    rw [Arrays_fill_8_L5, if_pos (nI_le (by omega) (by omega))]
    congr 2
    funext b j
    by_cases hb : b = 8
    · subst hb; rw [jrow_s, if_neg (by omega)]
    · rw [jrow_n _ _ hb]
  | succ k ih =>
    intro i σ h
    rw [Arrays_fill_8_L5, if_neg (nI_ge (by omega) (by omega))]
    simp only [jbad2 (show i < 200 by omega) (by decide), if_false, nI_1, nI_clamp (show i < 2 ^ 31 by omega)]
    rw [ih _ _ (by omega)]
    congr 2
    funext b j
    by_cases hb : b = 8
    · subst hb
      rw [jrow_s, jrow_s, jup_s, jupd]
      by_cases h1 : j = i
      · subst h1; simp; omega
      · by_cases h2 : i ≤ j ∧ j < 200
        · rw [if_pos (show i + 1 ≤ j ∧ j < 200 by omega), if_pos h2]
        · rw [if_neg (show ¬ (i + 1 ≤ j ∧ j < 200) by omega), if_neg h2, if_neg h1]
    · rw [jrow_n _ _ hb, jrow_n _ _ hb, jup_n _ _ _ hb]
theorem Arrays_fill_8 (v : Int32) (σ : jm_S) : jc 21 [.ref 8, .int v] σ = some (none, jm_row σ 8 (fun j => if j < 200 then v else σ 8 j)) := by
  rw [Arrays_fill_8_in]
  have h := Arrays_fill_8_loop v 200 0 σ (by omega)
  rw [show nI 200 = (200 : Int32) by decide +kernel, nI_0] at h
  rw [h]
  simp
theorem Arrays_fill_22_loop (v : Int32) : ∀ (k i : Nat) (σ : jm_S), i + k = 4 → jv 21 5 [some (.ref 22), some (.int v), some (.int (nI i)), some (.int (nI 4))] [] σ = some (none, jm_row σ 22 (fun j => if i ≤ j ∧ j < 4 then v else σ 22 j)) := by
  intro k
  induction k with
  | zero =>
    intro i σ h
    rw [Arrays_fill_22_L5, if_pos (nI_le (by omega) (by omega))]
    congr 2
    funext b j
    by_cases hb : b = 22
    · subst hb; rw [jrow_s, if_neg (by omega)]
    · rw [jrow_n _ _ hb]
  | succ k ih =>
    intro i σ h
    rw [Arrays_fill_22_L5, if_neg (nI_ge (by omega) (by omega))]
    simp only [jbad2 (show i < 4 by omega) (by decide), if_false, nI_1, nI_clamp (show i < 2 ^ 31 by omega)]
    rw [ih _ _ (by omega)]
    congr 2
    funext b j
    by_cases hb : b = 22
    · subst hb
      rw [jrow_s, jrow_s, jup_s, jupd]
      by_cases h1 : j = i
      · subst h1; simp; omega
      · by_cases h2 : i ≤ j ∧ j < 4
        · rw [if_pos (show i + 1 ≤ j ∧ j < 4 by omega), if_pos h2]
        · rw [if_neg (show ¬ (i + 1 ≤ j ∧ j < 4) by omega), if_neg h2, if_neg h1]
    · rw [jrow_n _ _ hb, jrow_n _ _ hb, jup_n _ _ _ hb]
theorem Arrays_fill_22 (v : Int32) (σ : jm_S) : jc 21 [.ref 22, .int v] σ = some (none, jm_row σ 22 (fun j => if j < 4 then v else σ 22 j)) := by
  rw [Arrays_fill_22_in]
  have h := Arrays_fill_22_loop v 4 0 σ (by omega)
  rw [show nI 4 = (4 : Int32) by decide +kernel, nI_0] at h
  rw [h]
  simp
theorem Arrays_fill_54_loop (v : Int32) : ∀ (k i : Nat) (σ : jm_S), i + k = 60 → jv 21 5 [some (.ref 54), some (.int v), some (.int (nI i)), some (.int (nI 60))] [] σ = some (none, jm_row σ 54 (fun j => if i ≤ j ∧ j < 60 then v else σ 54 j)) := by
  intro k
  induction k with
  | zero =>
    intro i σ h
    rw [Arrays_fill_54_L5, if_pos (nI_le (by omega) (by omega))]
    congr 2
    funext b j
    by_cases hb : b = 54
    · subst hb; rw [jrow_s, if_neg (by omega)]
    · rw [jrow_n _ _ hb]
  | succ k ih =>
    intro i σ h
    rw [Arrays_fill_54_L5, if_neg (nI_ge (by omega) (by omega))]
    simp only [jbad2 (show i < 60 by omega) (by decide), if_false, nI_1, nI_clamp (show i < 2 ^ 31 by omega)]
    rw [ih _ _ (by omega)]
    congr 2
    funext b j
    by_cases hb : b = 54
    · subst hb
      rw [jrow_s, jrow_s, jup_s, jupd]
      by_cases h1 : j = i
      · subst h1; simp; omega
      · by_cases h2 : i ≤ j ∧ j < 60
        · rw [if_pos (show i + 1 ≤ j ∧ j < 60 by omega), if_pos h2]
        · rw [if_neg (show ¬ (i + 1 ≤ j ∧ j < 60) by omega), if_neg h2, if_neg h1]
    · rw [jrow_n _ _ hb, jrow_n _ _ hb, jup_n _ _ _ hb]
theorem Arrays_fill_54 (v : Int32) (σ : jm_S) : jc 21 [.ref 54, .int v] σ = some (none, jm_row σ 54 (fun j => if j < 60 then v else σ 54 j)) := by
  rw [Arrays_fill_54_in]
  have h := Arrays_fill_54_loop v 60 0 σ (by omega)
  rw [show nI 60 = (60 : Int32) by decide +kernel, nI_0] at h
  rw [h]
  simp
theorem Arrays_fill_56_loop (v : Int32) : ∀ (k i : Nat) (σ : jm_S), i + k = 60 → jv 21 5 [some (.ref 56), some (.int v), some (.int (nI i)), some (.int (nI 60))] [] σ = some (none, jm_row σ 56 (fun j => if i ≤ j ∧ j < 60 then v else σ 56 j)) := by
  intro k
  induction k with
  | zero =>
    intro i σ h
    rw [Arrays_fill_56_L5, if_pos (nI_le (by omega) (by omega))]
    congr 2
    funext b j
    by_cases hb : b = 56
    · subst hb; rw [jrow_s, if_neg (by omega)]
    · rw [jrow_n _ _ hb]
  | succ k ih =>
    intro i σ h
    rw [Arrays_fill_56_L5, if_neg (nI_ge (by omega) (by omega))]
    simp only [jbad2 (show i < 60 by omega) (by decide), if_false, nI_1, nI_clamp (show i < 2 ^ 31 by omega)]
    rw [ih _ _ (by omega)]
    congr 2
    funext b j
    by_cases hb : b = 56
    · subst hb
      rw [jrow_s, jrow_s, jup_s, jupd]
      by_cases h1 : j = i
      · subst h1; simp; omega
      · by_cases h2 : i ≤ j ∧ j < 60
        · rw [if_pos (show i + 1 ≤ j ∧ j < 60 by omega), if_pos h2]
        · rw [if_neg (show ¬ (i + 1 ≤ j ∧ j < 60) by omega), if_neg h2, if_neg h1]
    · rw [jrow_n _ _ hb, jrow_n _ _ hb, jup_n _ _ _ hb]
theorem Arrays_fill_56 (v : Int32) (σ : jm_S) : jc 21 [.ref 56, .int v] σ = some (none, jm_row σ 56 (fun j => if j < 60 then v else σ 56 j)) := by
  rw [Arrays_fill_56_in]
  have h := Arrays_fill_56_loop v 60 0 σ (by omega)
  rw [show nI 60 = (60 : Int32) by decide +kernel, nI_0] at h
  rw [h]
  simp
theorem Arrays_fill_58_loop (v : Int32) : ∀ (k i : Nat) (σ : jm_S), i + k = 60 → jv 21 5 [some (.ref 58), some (.int v), some (.int (nI i)), some (.int (nI 60))] [] σ = some (none, jm_row σ 58 (fun j => if i ≤ j ∧ j < 60 then v else σ 58 j)) := by
  intro k
  induction k with
  | zero =>
    intro i σ h
    rw [Arrays_fill_58_L5, if_pos (nI_le (by omega) (by omega))]
    congr 2
    funext b j
    by_cases hb : b = 58
    · subst hb; rw [jrow_s, if_neg (by omega)]
    · rw [jrow_n _ _ hb]
  | succ k ih =>
    intro i σ h
    rw [Arrays_fill_58_L5, if_neg (nI_ge (by omega) (by omega))]
    simp only [jbad2 (show i < 60 by omega) (by decide), if_false, nI_1, nI_clamp (show i < 2 ^ 31 by omega)]
    rw [ih _ _ (by omega)]
    congr 2
    funext b j
    by_cases hb : b = 58
    · subst hb
      rw [jrow_s, jrow_s, jup_s, jupd]
      by_cases h1 : j = i
      · subst h1; simp; omega
      · by_cases h2 : i ≤ j ∧ j < 60
        · rw [if_pos (show i + 1 ≤ j ∧ j < 60 by omega), if_pos h2]
        · rw [if_neg (show ¬ (i + 1 ≤ j ∧ j < 60) by omega), if_neg h2, if_neg h1]
    · rw [jrow_n _ _ hb, jrow_n _ _ hb, jup_n _ _ _ hb]
theorem Arrays_fill_58 (v : Int32) (σ : jm_S) : jc 21 [.ref 58, .int v] σ = some (none, jm_row σ 58 (fun j => if j < 60 then v else σ 58 j)) := by
  rw [Arrays_fill_58_in]
  have h := Arrays_fill_58_loop v 60 0 σ (by omega)
  rw [show nI 60 = (60 : Int32) by decide +kernel, nI_0] at h
  rw [h]
  simp
theorem Arrays_fill_60_loop (v : Int32) : ∀ (k i : Nat) (σ : jm_S), i + k = 60 → jv 21 5 [some (.ref 60), some (.int v), some (.int (nI i)), some (.int (nI 60))] [] σ = some (none, jm_row σ 60 (fun j => if i ≤ j ∧ j < 60 then v else σ 60 j)) := by
  intro k
  induction k with
  | zero =>
    intro i σ h
    rw [Arrays_fill_60_L5, if_pos (nI_le (by omega) (by omega))]
    congr 2
    funext b j
    by_cases hb : b = 60
    · subst hb; rw [jrow_s, if_neg (by omega)]
    · rw [jrow_n _ _ hb]
  | succ k ih =>
    intro i σ h
    rw [Arrays_fill_60_L5, if_neg (nI_ge (by omega) (by omega))]
    simp only [jbad2 (show i < 60 by omega) (by decide), if_false, nI_1, nI_clamp (show i < 2 ^ 31 by omega)]
    rw [ih _ _ (by omega)]
    congr 2
    funext b j
    by_cases hb : b = 60
    · subst hb
      rw [jrow_s, jrow_s, jup_s, jupd]
      by_cases h1 : j = i
      · subst h1; simp; omega
      · by_cases h2 : i ≤ j ∧ j < 60
        · rw [if_pos (show i + 1 ≤ j ∧ j < 60 by omega), if_pos h2]
        · rw [if_neg (show ¬ (i + 1 ≤ j ∧ j < 60) by omega), if_neg h2, if_neg h1]
    · rw [jrow_n _ _ hb, jrow_n _ _ hb, jup_n _ _ _ hb]
theorem Arrays_fill_60 (v : Int32) (σ : jm_S) : jc 21 [.ref 60, .int v] σ = some (none, jm_row σ 60 (fun j => if j < 60 then v else σ 60 j)) := by
  rw [Arrays_fill_60_in]
  have h := Arrays_fill_60_loop v 60 0 σ (by omega)
  rw [show nI 60 = (60 : Int32) by decide +kernel, nI_0] at h
  rw [h]
  simp
