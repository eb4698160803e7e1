/-! ===== copy ===== -/
theorem jl_sum (x y z : Int32) : (z.toInt64 < x.toInt64 + y.toInt64) = (z.toInt < x.toInt + y.toInt) := by
  have hx := Int32.le_toInt x
  have hx2 := Int32.toInt_lt x
  have hy := Int32.le_toInt y
  have hy2 := Int32.toInt_lt y
  have e : (x.toInt64 + y.toInt64).toInt = x.toInt + y.toInt := by
    rw [Int64.toInt_add, Int32.toInt_toInt64, Int32.toInt_toInt64, Int.bmod_eq_of_le]
    · omega
    · omega
  rw [eq_iff_iff, Int64.lt_iff_toInt_lt, e, Int32.toInt_toInt64]
theorem jcmp_le (x y : Int64) : (lg_cmp x y ≤ 0) = ¬ (y < x) := by
  rw [← jcmp_gt x y, eq_iff_iff]
  exact Int32.not_lt.symm
abbrev jstr (m i n : Int32) : Prop := i < 0 ∨ n < 0 ∨ m < i ∨ m - i < n
theorem jstr_iff {m : Nat} (hm : m ≤ 60) (i n : Int32) : jstr (nI m) i n ↔ (i < 0 ∨ n < 0 ∨ (nI m).toInt < i.toInt + n.toInt) := by
  unfold jstr
  by_cases hi : i < 0
  · simp [hi]
  · by_cases hn : n < 0
    · simp [hn]
    · obtain ⟨a, ha, rfl⟩ := nI_of hi
      obtain ⟨b, hb, rfl⟩ := nI_of hn
      simp only [hi, hn, false_or]
      rw [nI_toInt ha, nI_toInt hb, nI_toInt (show m < 2 ^ 31 by omega), nI_ltI (by omega) ha]
      by_cases h : m < a
      · simp only [h, true_or, true_iff]; omega
      · rw [pk_sub (by omega), nI_ltI (by omega) hb]
        omega
theorem jstr_ok {m : Nat} (hm : m ≤ 60) {i n : Int32} (h : ¬ jstr (nI m) i n) : ∃ a b, a + b ≤ m ∧ i = nI a ∧ n = nI b := by
  rw [jstr_iff hm] at h
  obtain ⟨a, ha, rfl⟩ := nI_of (x := i) (fun q => h (Or.inl q))
  obtain ⟨b, hb, rfl⟩ := nI_of (x := n) (fun q => h (Or.inr (Or.inl q)))
  refine ⟨a, b, ?_, rfl, rfl⟩
  have h3 : ¬ (nI m).toInt < (nI a).toInt + (nI b).toInt := fun q => h (Or.inr (Or.inr q))
  rw [nI_toInt ha, nI_toInt hb, nI_toInt (show m < 2 ^ 31 by omega)] at h3
  omega
theorem P_copy_k {k t : Nat} (hk : k < 4) (ht : t < 4) (i j n : Int32) (σ : jm_S) : jc 109 [.ref 0, .int (nI k), .int i, .int (nI t), .int j, .int n] σ =
    if σ (53 + 2 * k) 1 = -1 ∨ σ (53 + 2 * t) 1 = -1 then some (some (.int (-10 - 1)), jm_up σ 0 10 1)
    else if ¬ σ (53 + 2 * k) 1 = σ (53 + 2 * t) 1 then some (some (.int (-10 - 4)), jm_up σ 0 10 4)
    else if jstr (σ (53 + 2 * k) 2) i n ∨ jstr (σ (53 + 2 * t) 2) j n then some (some (.int (-10 - 2)), jm_up σ 0 10 2)
    else if i < 0 ∨ j < 0 ∨ n < 0 ∨ 60 < i.toNatClampNeg + n.toNatClampNeg ∨ 60 < j.toNatClampNeg + n.toNatClampNeg then none else some (some (.int 1), jm_row σ (54 + 2 * t) (va_cpy (σ (54 + 2 * k)) (σ (54 + 2 * t)) i.toNatClampNeg j.toNatClampNeg n.toNatClampNeg)) := by
  rw [P_copy_in, P_isOutside, jbi_some, P_isOutside, jbi_some]
  simp only [jout hk, jout ht, if_false, if_true, not_true_eq_false]
  have e1 := Sheet_isLost hk σ
  have e2 := Sheet_isLost ht σ
  have e3 := Sheet_hasStretch hk i n σ
  have e4 := Sheet_hasStretch ht j n σ
  match k, hk, t, ht, e1, e2, e3, e4 with
  | 0, _, 0, _, e1, e2, e3, e4 =>
    simp only [show 53 + 2 * 0 = 53 from rfl, show 53 + 2 * 0 = 53 from rfl, show 54 + 2 * 0 = 54 from rfl, show 54 + 2 * 0 = 54 from rfl] at e1 e2 e3 e4 ⊢
    simp only [jnI0, jnI0, jaa4_0, jaa4_0, P_copy_A27_53, P_copy_A35_53, e1, e2, e3, e4, jbi_some, P_finding]
    by_cases h1 : σ 53 1 = -1
    · simp [h1]
    · by_cases h2 : σ 53 1 = -1
      · simp [h1, h2]
      · by_cases h3 : σ 53 1 = σ 53 1
        · by_cases h4 : i < 0 ∨ n < 0 ∨ σ 53 2 < i ∨ σ 53 2 - i < n
          · have h4' : jstr (σ 53 2) i n := h4
            simp only [h1, h2, h3, h4, h4', if_true, if_false, or_false, true_or, not_true_eq_false, j10]
          · have h4' : ¬ jstr (σ 53 2) i n := h4
            by_cases h5 : j < 0 ∨ n < 0 ∨ σ 53 2 < j ∨ σ 53 2 - j < n
            · have h5' : jstr (σ 53 2) j n := h5
              simp only [h1, h2, h3, h4, h4', h5, h5', if_true, if_false, or_false, false_or, not_true_eq_false, j10]
            · have h5' : ¬ jstr (σ 53 2) j n := h5
              simp only [h1, h2, h3, h4, h4', h5, h5', if_true, if_false, or_false, not_true_eq_false, j10, not_false_eq_true]
        · first | exact absurd rfl h3 | simp [h1, h2, h3]
  | 0, _, 1, _, e1, e2, e3, e4 =>
    simp only [show 53 + 2 * 0 = 53 from rfl, show 53 + 2 * 1 = 55 from rfl, show 54 + 2 * 0 = 54 from rfl, show 54 + 2 * 1 = 56 from rfl] at e1 e2 e3 e4 ⊢
    simp only [jnI0, jnI1, jaa4_0, jaa4_1, P_copy_A27_53, P_copy_A35_55, e1, e2, e3, e4, jbi_some, P_finding]
    by_cases h1 : σ 53 1 = -1
    · simp [h1]
    · by_cases h2 : σ 55 1 = -1
      · simp [h1, h2]
      · by_cases h3 : σ 53 1 = σ 55 1
        · by_cases h4 : i < 0 ∨ n < 0 ∨ σ 53 2 < i ∨ σ 53 2 - i < n
          · have h4' : jstr (σ 53 2) i n := h4
            simp only [h1, h2, h3, h4, h4', if_true, if_false, or_false, true_or, not_true_eq_false, j10]
          · have h4' : ¬ jstr (σ 53 2) i n := h4
            by_cases h5 : j < 0 ∨ n < 0 ∨ σ 55 2 < j ∨ σ 55 2 - j < n
            · have h5' : jstr (σ 55 2) j n := h5
              simp only [h1, h2, h3, h4, h4', h5, h5', if_true, if_false, or_false, false_or, not_true_eq_false, j10]
            · have h5' : ¬ jstr (σ 55 2) j n := h5
              simp only [h1, h2, h3, h4, h4', h5, h5', if_true, if_false, or_false, not_true_eq_false, j10, not_false_eq_true]
        · first | exact absurd rfl h3 | simp [h1, h2, h3]
  | 0, _, 2, _, e1, e2, e3, e4 =>
    simp only [show 53 + 2 * 0 = 53 from rfl, show 53 + 2 * 2 = 57 from rfl, show 54 + 2 * 0 = 54 from rfl, show 54 + 2 * 2 = 58 from rfl] at e1 e2 e3 e4 ⊢
    simp only [jnI0, jnI2, jaa4_0, jaa4_2, P_copy_A27_53, P_copy_A35_57, e1, e2, e3, e4, jbi_some, P_finding]
    by_cases h1 : σ 53 1 = -1
    · simp [h1]
    · by_cases h2 : σ 57 1 = -1
      · simp [h1, h2]
      · by_cases h3 : σ 53 1 = σ 57 1
        · by_cases h4 : i < 0 ∨ n < 0 ∨ σ 53 2 < i ∨ σ 53 2 - i < n
          · have h4' : jstr (σ 53 2) i n := h4
            simp only [h1, h2, h3, h4, h4', if_true, if_false, or_false, true_or, not_true_eq_false, j10]
          · have h4' : ¬ jstr (σ 53 2) i n := h4
            by_cases h5 : j < 0 ∨ n < 0 ∨ σ 57 2 < j ∨ σ 57 2 - j < n
            · have h5' : jstr (σ 57 2) j n := h5
              simp only [h1, h2, h3, h4, h4', h5, h5', if_true, if_false, or_false, false_or, not_true_eq_false, j10]
            · have h5' : ¬ jstr (σ 57 2) j n := h5
              simp only [h1, h2, h3, h4, h4', h5, h5', if_true, if_false, or_false, not_true_eq_false, j10, not_false_eq_true]
        · first | exact absurd rfl h3 | simp [h1, h2, h3]
  | 0, _, 3, _, e1, e2, e3, e4 =>
    simp only [show 53 + 2 * 0 = 53 from rfl, show 53 + 2 * 3 = 59 from rfl, show 54 + 2 * 0 = 54 from rfl, show 54 + 2 * 3 = 60 from rfl] at e1 e2 e3 e4 ⊢
    simp only [jnI0, jnI3, jaa4_0, jaa4_3, P_copy_A27_53, P_copy_A35_59, e1, e2, e3, e4, jbi_some, P_finding]
    by_cases h1 : σ 53 1 = -1
    · simp [h1]
    · by_cases h2 : σ 59 1 = -1
      · simp [h1, h2]
      · by_cases h3 : σ 53 1 = σ 59 1
        · by_cases h4 : i < 0 ∨ n < 0 ∨ σ 53 2 < i ∨ σ 53 2 - i < n
          · have h4' : jstr (σ 53 2) i n := h4
            simp only [h1, h2, h3, h4, h4', if_true, if_false, or_false, true_or, not_true_eq_false, j10]
          · have h4' : ¬ jstr (σ 53 2) i n := h4
            by_cases h5 : j < 0 ∨ n < 0 ∨ σ 59 2 < j ∨ σ 59 2 - j < n
            · have h5' : jstr (σ 59 2) j n := h5
              simp only [h1, h2, h3, h4, h4', h5, h5', if_true, if_false, or_false, false_or, not_true_eq_false, j10]
            · have h5' : ¬ jstr (σ 59 2) j n := h5
              simp only [h1, h2, h3, h4, h4', h5, h5', if_true, if_false, or_false, not_true_eq_false, j10, not_false_eq_true]
        · first | exact absurd rfl h3 | simp [h1, h2, h3]
  | 1, _, 0, _, e1, e2, e3, e4 =>
    simp only [show 53 + 2 * 1 = 55 from rfl, show 53 + 2 * 0 = 53 from rfl, show 54 + 2 * 1 = 56 from rfl, show 54 + 2 * 0 = 54 from rfl] at e1 e2 e3 e4 ⊢
    simp only [jnI1, jnI0, jaa4_1, jaa4_0, P_copy_A27_55, P_copy_A35_53_v2, e1, e2, e3, e4, jbi_some, P_finding]
    by_cases h1 : σ 55 1 = -1
    · simp [h1]
    · by_cases h2 : σ 53 1 = -1
      · simp [h1, h2]
      · by_cases h3 : σ 55 1 = σ 53 1
        · by_cases h4 : i < 0 ∨ n < 0 ∨ σ 55 2 < i ∨ σ 55 2 - i < n
          · have h4' : jstr (σ 55 2) i n := h4
            simp only [h1, h2, h3, h4, h4', if_true, if_false, or_false, true_or, not_true_eq_false, j10]
          · have h4' : ¬ jstr (σ 55 2) i n := h4
            by_cases h5 : j < 0 ∨ n < 0 ∨ σ 53 2 < j ∨ σ 53 2 - j < n
            · have h5' : jstr (σ 53 2) j n := h5
              simp only [h1, h2, h3, h4, h4', h5, h5', if_true, if_false, or_false, false_or, not_true_eq_false, j10]
            · have h5' : ¬ jstr (σ 53 2) j n := h5
              simp only [h1, h2, h3, h4, h4', h5, h5', if_true, if_false, or_false, not_true_eq_false, j10, not_false_eq_true]
        · first | exact absurd rfl h3 | simp [h1, h2, h3]
  | 1, _, 1, _, e1, e2, e3, e4 =>
    simp only [show 53 + 2 * 1 = 55 from rfl, show 53 + 2 * 1 = 55 from rfl, show 54 + 2 * 1 = 56 from rfl, show 54 + 2 * 1 = 56 from rfl] at e1 e2 e3 e4 ⊢
    simp only [jnI1, jnI1, jaa4_1, jaa4_1, P_copy_A27_55, P_copy_A35_55_v2, e1, e2, e3, e4, jbi_some, P_finding]
    by_cases h1 : σ 55 1 = -1
    · simp [h1]
    · by_cases h2 : σ 55 1 = -1
      · simp [h1, h2]
      · by_cases h3 : σ 55 1 = σ 55 1
        · by_cases h4 : i < 0 ∨ n < 0 ∨ σ 55 2 < i ∨ σ 55 2 - i < n
          · have h4' : jstr (σ 55 2) i n := h4
            simp only [h1, h2, h3, h4, h4', if_true, if_false, or_false, true_or, not_true_eq_false, j10]
          · have h4' : ¬ jstr (σ 55 2) i n := h4
            by_cases h5 : j < 0 ∨ n < 0 ∨ σ 55 2 < j ∨ σ 55 2 - j < n
            · have h5' : jstr (σ 55 2) j n := h5
              simp only [h1, h2, h3, h4, h4', h5, h5', if_true, if_false, or_false, false_or, not_true_eq_false, j10]
            · have h5' : ¬ jstr (σ 55 2) j n := h5
              simp only [h1, h2, h3, h4, h4', h5, h5', if_true, if_false, or_false, not_true_eq_false, j10, not_false_eq_true]
        · first | exact absurd rfl h3 | simp [h1, h2, h3]
  | 1, _, 2, _, e1, e2, e3, e4 =>
    simp only [show 53 + 2 * 1 = 55 from rfl, show 53 + 2 * 2 = 57 from rfl, show 54 + 2 * 1 = 56 from rfl, show 54 + 2 * 2 = 58 from rfl] at e1 e2 e3 e4 ⊢
    simp only [jnI1, jnI2, jaa4_1, jaa4_2, P_copy_A27_55, P_copy_A35_57_v2, e1, e2, e3, e4, jbi_some, P_finding]
    by_cases h1 : σ 55 1 = -1
    · simp [h1]
    · by_cases h2 : σ 57 1 = -1
      · simp [h1, h2]
      · by_cases h3 : σ 55 1 = σ 57 1
        · by_cases h4 : i < 0 ∨ n < 0 ∨ σ 55 2 < i ∨ σ 55 2 - i < n
          · have h4' : jstr (σ 55 2) i n := h4
            simp only [h1, h2, h3, h4, h4', if_true, if_false, or_false, true_or, not_true_eq_false, j10]
          · have h4' : ¬ jstr (σ 55 2) i n := h4
            by_cases h5 : j < 0 ∨ n < 0 ∨ σ 57 2 < j ∨ σ 57 2 - j < n
            · have h5' : jstr (σ 57 2) j n := h5
              simp only [h1, h2, h3, h4, h4', h5, h5', if_true, if_false, or_false, false_or, not_true_eq_false, j10]
            · have h5' : ¬ jstr (σ 57 2) j n := h5
              simp only [h1, h2, h3, h4, h4', h5, h5', if_true, if_false, or_false, not_true_eq_false, j10, not_false_eq_true]
        · first | exact absurd rfl h3 | simp [h1, h2, h3]
  | 1, _, 3, _, e1, e2, e3, e4 =>
    simp only [show 53 + 2 * 1 = 55 from rfl, show 53 + 2 * 3 = 59 from rfl, show 54 + 2 * 1 = 56 from rfl, show 54 + 2 * 3 = 60 from rfl] at e1 e2 e3 e4 ⊢
    simp only [jnI1, jnI3, jaa4_1, jaa4_3, P_copy_A27_55, P_copy_A35_59_v2, e1, e2, e3, e4, jbi_some, P_finding]
    by_cases h1 : σ 55 1 = -1
    · simp [h1]
    · by_cases h2 : σ 59 1 = -1
      · simp [h1, h2]
      · by_cases h3 : σ 55 1 = σ 59 1
        · by_cases h4 : i < 0 ∨ n < 0 ∨ σ 55 2 < i ∨ σ 55 2 - i < n
          · have h4' : jstr (σ 55 2) i n := h4
            simp only [h1, h2, h3, h4, h4', if_true, if_false, or_false, true_or, not_true_eq_false, j10]
          · have h4' : ¬ jstr (σ 55 2) i n := h4
            by_cases h5 : j < 0 ∨ n < 0 ∨ σ 59 2 < j ∨ σ 59 2 - j < n
            · have h5' : jstr (σ 59 2) j n := h5
              simp only [h1, h2, h3, h4, h4', h5, h5', if_true, if_false, or_false, false_or, not_true_eq_false, j10]
            · have h5' : ¬ jstr (σ 59 2) j n := h5
              simp only [h1, h2, h3, h4, h4', h5, h5', if_true, if_false, or_false, not_true_eq_false, j10, not_false_eq_true]
        · first | exact absurd rfl h3 | simp [h1, h2, h3]
  | 2, _, 0, _, e1, e2, e3, e4 =>
    simp only [show 53 + 2 * 2 = 57 from rfl, show 53 + 2 * 0 = 53 from rfl, show 54 + 2 * 2 = 58 from rfl, show 54 + 2 * 0 = 54 from rfl] at e1 e2 e3 e4 ⊢
    simp only [jnI2, jnI0, jaa4_2, jaa4_0, P_copy_A27_57, P_copy_A35_53_v3, e1, e2, e3, e4, jbi_some, P_finding]
    by_cases h1 : σ 57 1 = -1
    · simp [h1]
    · by_cases h2 : σ 53 1 = -1
      · simp [h1, h2]
      · by_cases h3 : σ 57 1 = σ 53 1
        · by_cases h4 : i < 0 ∨ n < 0 ∨ σ 57 2 < i ∨ σ 57 2 - i < n
          · have h4' : jstr (σ 57 2) i n := h4
            simp only [h1, h2, h3, h4, h4', if_true, if_false, or_false, true_or, not_true_eq_false, j10]
          · have h4' : ¬ jstr (σ 57 2) i n := h4
            by_cases h5 : j < 0 ∨ n < 0 ∨ σ 53 2 < j ∨ σ 53 2 - j < n
            · have h5' : jstr (σ 53 2) j n := h5
              simp only [h1, h2, h3, h4, h4', h5, h5', if_true, if_false, or_false, false_or, not_true_eq_false, j10]
            · have h5' : ¬ jstr (σ 53 2) j n := h5
              simp only [h1, h2, h3, h4, h4', h5, h5', if_true, if_false, or_false, not_true_eq_false, j10, not_false_eq_true]
        · first | exact absurd rfl h3 | simp [h1, h2, h3]
  | 2, _, 1, _, e1, e2, e3, e4 =>
    simp only [show 53 + 2 * 2 = 57 from rfl, show 53 + 2 * 1 = 55 from rfl, show 54 + 2 * 2 = 58 from rfl, show 54 + 2 * 1 = 56 from rfl] at e1 e2 e3 e4 ⊢
    simp only [jnI2, jnI1, jaa4_2, jaa4_1, P_copy_A27_57, P_copy_A35_55_v3, e1, e2, e3, e4, jbi_some, P_finding]
    by_cases h1 : σ 57 1 = -1
    · simp [h1]
    · by_cases h2 : σ 55 1 = -1
      · simp [h1, h2]
      · by_cases h3 : σ 57 1 = σ 55 1
        · by_cases h4 : i < 0 ∨ n < 0 ∨ σ 57 2 < i ∨ σ 57 2 - i < n
          · have h4' : jstr (σ 57 2) i n := h4
            simp only [h1, h2, h3, h4, h4', if_true, if_false, or_false, true_or, not_true_eq_false, j10]
          · have h4' : ¬ jstr (σ 57 2) i n := h4
            by_cases h5 : j < 0 ∨ n < 0 ∨ σ 55 2 < j ∨ σ 55 2 - j < n
            · have h5' : jstr (σ 55 2) j n := h5
              simp only [h1, h2, h3, h4, h4', h5, h5', if_true, if_false, or_false, false_or, not_true_eq_false, j10]
            · have h5' : ¬ jstr (σ 55 2) j n := h5
              simp only [h1, h2, h3, h4, h4', h5, h5', if_true, if_false, or_false, not_true_eq_false, j10, not_false_eq_true]
        · first | exact absurd rfl h3 | simp [h1, h2, h3]
  | 2, _, 2, _, e1, e2, e3, e4 =>
    simp only [show 53 + 2 * 2 = 57 from rfl, show 53 + 2 * 2 = 57 from rfl, show 54 + 2 * 2 = 58 from rfl, show 54 + 2 * 2 = 58 from rfl] at e1 e2 e3 e4 ⊢
    simp only [jnI2, jnI2, jaa4_2, jaa4_2, P_copy_A27_57, P_copy_A35_57_v3, e1, e2, e3, e4, jbi_some, P_finding]
    by_cases h1 : σ 57 1 = -1
    · simp [h1]
    · by_cases h2 : σ 57 1 = -1
      · simp [h1, h2]
      · by_cases h3 : σ 57 1 = σ 57 1
        · by_cases h4 : i < 0 ∨ n < 0 ∨ σ 57 2 < i ∨ σ 57 2 - i < n
          · have h4' : jstr (σ 57 2) i n := h4
            simp only [h1, h2, h3, h4, h4', if_true, if_false, or_false, true_or, not_true_eq_false, j10]
          · have h4' : ¬ jstr (σ 57 2) i n := h4
            by_cases h5 : j < 0 ∨ n < 0 ∨ σ 57 2 < j ∨ σ 57 2 - j < n
            · have h5' : jstr (σ 57 2) j n := h5
              simp only [h1, h2, h3, h4, h4', h5, h5', if_true, if_false, or_false, false_or, not_true_eq_false, j10]
            · have h5' : ¬ jstr (σ 57 2) j n := h5
              simp only [h1, h2, h3, h4, h4', h5, h5', if_true, if_false, or_false, not_true_eq_false, j10, not_false_eq_true]
        · first | exact absurd rfl h3 | simp [h1, h2, h3]
  | 2, _, 3, _, e1, e2, e3, e4 =>
    simp only [show 53 + 2 * 2 = 57 from rfl, show 53 + 2 * 3 = 59 from rfl, show 54 + 2 * 2 = 58 from rfl, show 54 + 2 * 3 = 60 from rfl] at e1 e2 e3 e4 ⊢
    simp only [jnI2, jnI3, jaa4_2, jaa4_3, P_copy_A27_57, P_copy_A35_59_v3, e1, e2, e3, e4, jbi_some, P_finding]
    by_cases h1 : σ 57 1 = -1
    · simp [h1]
    · by_cases h2 : σ 59 1 = -1
      · simp [h1, h2]
      · by_cases h3 : σ 57 1 = σ 59 1
        · by_cases h4 : i < 0 ∨ n < 0 ∨ σ 57 2 < i ∨ σ 57 2 - i < n
          · have h4' : jstr (σ 57 2) i n := h4
            simp only [h1, h2, h3, h4, h4', if_true, if_false, or_false, true_or, not_true_eq_false, j10]
          · have h4' : ¬ jstr (σ 57 2) i n := h4
            by_cases h5 : j < 0 ∨ n < 0 ∨ σ 59 2 < j ∨ σ 59 2 - j < n
            · have h5' : jstr (σ 59 2) j n := h5
              simp only [h1, h2, h3, h4, h4', h5, h5', if_true, if_false, or_false, false_or, not_true_eq_false, j10]
            · have h5' : ¬ jstr (σ 59 2) j n := h5
              simp only [h1, h2, h3, h4, h4', h5, h5', if_true, if_false, or_false, not_true_eq_false, j10, not_false_eq_true]
        · first | exact absurd rfl h3 | simp [h1, h2, h3]
  | 3, _, 0, _, e1, e2, e3, e4 =>
    simp only [show 53 + 2 * 3 = 59 from rfl, show 53 + 2 * 0 = 53 from rfl, show 54 + 2 * 3 = 60 from rfl, show 54 + 2 * 0 = 54 from rfl] at e1 e2 e3 e4 ⊢
    simp only [jnI3, jnI0, jaa4_3, jaa4_0, P_copy_A27_59, P_copy_A35_53_v4, e1, e2, e3, e4, jbi_some, P_finding]
    by_cases h1 : σ 59 1 = -1
    · simp [h1]
    · by_cases h2 : σ 53 1 = -1
      · simp [h1, h2]
      · by_cases h3 : σ 59 1 = σ 53 1
        · by_cases h4 : i < 0 ∨ n < 0 ∨ σ 59 2 < i ∨ σ 59 2 - i < n
          · have h4' : jstr (σ 59 2) i n := h4
            simp only [h1, h2, h3, h4, h4', if_true, if_false, or_false, true_or, not_true_eq_false, j10]
          · have h4' : ¬ jstr (σ 59 2) i n := h4
            by_cases h5 : j < 0 ∨ n < 0 ∨ σ 53 2 < j ∨ σ 53 2 - j < n
            · have h5' : jstr (σ 53 2) j n := h5
              simp only [h1, h2, h3, h4, h4', h5, h5', if_true, if_false, or_false, false_or, not_true_eq_false, j10]
            · have h5' : ¬ jstr (σ 53 2) j n := h5
              simp only [h1, h2, h3, h4, h4', h5, h5', if_true, if_false, or_false, not_true_eq_false, j10, not_false_eq_true]
        · first | exact absurd rfl h3 | simp [h1, h2, h3]
  | 3, _, 1, _, e1, e2, e3, e4 =>
    simp only [show 53 + 2 * 3 = 59 from rfl, show 53 + 2 * 1 = 55 from rfl, show 54 + 2 * 3 = 60 from rfl, show 54 + 2 * 1 = 56 from rfl] at e1 e2 e3 e4 ⊢
    simp only [jnI3, jnI1, jaa4_3, jaa4_1, P_copy_A27_59, P_copy_A35_55_v4, e1, e2, e3, e4, jbi_some, P_finding]
    by_cases h1 : σ 59 1 = -1
    · simp [h1]
    · by_cases h2 : σ 55 1 = -1
      · simp [h1, h2]
      · by_cases h3 : σ 59 1 = σ 55 1
        · by_cases h4 : i < 0 ∨ n < 0 ∨ σ 59 2 < i ∨ σ 59 2 - i < n
          · have h4' : jstr (σ 59 2) i n := h4
            simp only [h1, h2, h3, h4, h4', if_true, if_false, or_false, true_or, not_true_eq_false, j10]
          · have h4' : ¬ jstr (σ 59 2) i n := h4
            by_cases h5 : j < 0 ∨ n < 0 ∨ σ 55 2 < j ∨ σ 55 2 - j < n
            · have h5' : jstr (σ 55 2) j n := h5
              simp only [h1, h2, h3, h4, h4', h5, h5', if_true, if_false, or_false, false_or, not_true_eq_false, j10]
            · have h5' : ¬ jstr (σ 55 2) j n := h5
              simp only [h1, h2, h3, h4, h4', h5, h5', if_true, if_false, or_false, not_true_eq_false, j10, not_false_eq_true]
        · first | exact absurd rfl h3 | simp [h1, h2, h3]
  | 3, _, 2, _, e1, e2, e3, e4 =>
    simp only [show 53 + 2 * 3 = 59 from rfl, show 53 + 2 * 2 = 57 from rfl, show 54 + 2 * 3 = 60 from rfl, show 54 + 2 * 2 = 58 from rfl] at e1 e2 e3 e4 ⊢
    simp only [jnI3, jnI2, jaa4_3, jaa4_2, P_copy_A27_59, P_copy_A35_57_v4, e1, e2, e3, e4, jbi_some, P_finding]
    by_cases h1 : σ 59 1 = -1
    · simp [h1]
    · by_cases h2 : σ 57 1 = -1
      · simp [h1, h2]
      · by_cases h3 : σ 59 1 = σ 57 1
        · by_cases h4 : i < 0 ∨ n < 0 ∨ σ 59 2 < i ∨ σ 59 2 - i < n
          · have h4' : jstr (σ 59 2) i n := h4
            simp only [h1, h2, h3, h4, h4', if_true, if_false, or_false, true_or, not_true_eq_false, j10]
          · have h4' : ¬ jstr (σ 59 2) i n := h4
            by_cases h5 : j < 0 ∨ n < 0 ∨ σ 57 2 < j ∨ σ 57 2 - j < n
            · have h5' : jstr (σ 57 2) j n := h5
              simp only [h1, h2, h3, h4, h4', h5, h5', if_true, if_false, or_false, false_or, not_true_eq_false, j10]
            · have h5' : ¬ jstr (σ 57 2) j n := h5
              simp only [h1, h2, h3, h4, h4', h5, h5', if_true, if_false, or_false, not_true_eq_false, j10, not_false_eq_true]
        · first | exact absurd rfl h3 | simp [h1, h2, h3]
  | 3, _, 3, _, e1, e2, e3, e4 =>
    simp only [show 53 + 2 * 3 = 59 from rfl, show 53 + 2 * 3 = 59 from rfl, show 54 + 2 * 3 = 60 from rfl, show 54 + 2 * 3 = 60 from rfl] at e1 e2 e3 e4 ⊢
    simp only [jnI3, jnI3, jaa4_3, jaa4_3, P_copy_A27_59, P_copy_A35_59_v4, e1, e2, e3, e4, jbi_some, P_finding]
    by_cases h1 : σ 59 1 = -1
    · simp [h1]
    · by_cases h2 : σ 59 1 = -1
      · simp [h1, h2]
      · by_cases h3 : σ 59 1 = σ 59 1
        · by_cases h4 : i < 0 ∨ n < 0 ∨ σ 59 2 < i ∨ σ 59 2 - i < n
          · have h4' : jstr (σ 59 2) i n := h4
            simp only [h1, h2, h3, h4, h4', if_true, if_false, or_false, true_or, not_true_eq_false, j10]
          · have h4' : ¬ jstr (σ 59 2) i n := h4
            by_cases h5 : j < 0 ∨ n < 0 ∨ σ 59 2 < j ∨ σ 59 2 - j < n
            · have h5' : jstr (σ 59 2) j n := h5
              simp only [h1, h2, h3, h4, h4', h5, h5', if_true, if_false, or_false, false_or, not_true_eq_false, j10]
            · have h5' : ¬ jstr (σ 59 2) j n := h5
              simp only [h1, h2, h3, h4, h4', h5, h5', if_true, if_false, or_false, not_true_eq_false, j10, not_false_eq_true]
        · first | exact absurd rfl h3 | simp [h1, h2, h3]
theorem M_copy_l1 {k a b : Nat} (hk : k < 4) (hab : a + b ≤ 60) (t j : Int32) : ∀ (d c : Nat) (σ : jm_S), c + d = b → jv 127 120 [some (.ref 61), some (.int (nI k)), some (.int (nI a)), some (.int t), some (.int j), some (.int (nI b)), some (.int (nI c))] [] σ = jv 127 157 [some (.ref 61), some (.int (nI k)), some (.int (nI a)), some (.int t), some (.int j), some (.int (nI b)), some (.int 0)] [] (jm_row σ 65 (fun z => if c ≤ z ∧ z < b then σ 64 (60 * k + a + z) else σ 65 z)) := by
  intro d
  induction d with
  | zero =>
    intro c σ h
    rw [M_copy_L120, if_pos (nI_le (by omega) (by omega))]
    congr 1
    funext x z
    by_cases hb : x = 65
    · subst hb; rw [jrow_s, if_neg (by omega)]
    · rw [jrow_n _ _ hb]
  | succ d ih =>
    intro c σ h
    rw [M_copy_L120, if_neg (nI_ge (by omega) (by omega))]
    simp only [j60, nI_add, nI_1, nI_clamp (show 60 * k + a + c < 2 ^ 31 by omega), nI_clamp (show c < 2 ^ 31 by omega), jbad2 (show 60 * k + a + c < 240 by omega) (by decide), jbad2 (show c < 60 by omega) (by decide), if_false]
    rw [ih _ _ (by omega)]
    congr 1
    funext x z
    by_cases hb : x = 65
    · subst hb
      rw [jrow_s, jrow_s, jup_s, jupd, jup_n _ _ _ (by decide)]
      by_cases h1 : z = c
      · subst h1; rw [if_neg (by omega), if_pos rfl, if_pos (by omega)]
      · by_cases h2 : c ≤ z ∧ z < b
        · rw [if_pos (by omega), if_pos h2]
        · rw [if_neg (by omega), if_neg h2, if_neg h1]
    · rw [jrow_n _ _ hb, jrow_n _ _ hb, jup_n _ _ _ hb]
theorem M_copy_l2 {t a b : Nat} (ht : t < 4) (hab : a + b ≤ 60) (k i : Int32) : ∀ (d c : Nat) (σ : jm_S), c + d = b → jv 127 157 [some (.ref 61), some (.int k), some (.int i), some (.int (nI t)), some (.int (nI a)), some (.int (nI b)), some (.int (nI c))] [] σ = some (some (.int 1), jm_row σ 64 (fun z => if 60 * t + a + c ≤ z ∧ z < 60 * t + a + b then σ 65 (z - (60 * t + a)) else σ 64 z)) := by
  intro d
  induction d with
  | zero =>
    intro c σ h
    rw [M_copy_L157, if_pos (nI_le (by omega) (by omega))]
    congr 2
    funext x z
    by_cases hb : x = 64
    · subst hb; rw [jrow_s, if_neg (by omega)]
    · rw [jrow_n _ _ hb]
  | succ d ih =>
    intro c σ h
    rw [M_copy_L157, if_neg (nI_ge (by omega) (by omega))]
    simp only [j60, nI_add, nI_1, nI_clamp (show 60 * t + a + c < 2 ^ 31 by omega), nI_clamp (show c < 2 ^ 31 by omega), jbad2 (show 60 * t + a + c < 240 by omega) (by decide), jbad2 (show c < 60 by omega) (by decide), if_false]
    rw [ih _ _ (by omega)]
    congr 2
    funext x z
    by_cases hb : x = 64
    · subst hb
      rw [jrow_s, jrow_s, jup_s, jupd, jup_n _ _ _ (by decide)]
      by_cases h1 : z = 60 * t + a + c
      · subst h1; rw [if_neg (by omega), if_pos rfl, if_pos (by omega)]; congr 1; omega
      · by_cases h2 : 60 * t + a + c ≤ z ∧ z < 60 * t + a + b
        · rw [if_pos (by omega), if_pos h2]
        · rw [if_neg (by omega), if_neg h2, if_neg h1]
    · rw [jrow_n _ _ hb, jrow_n _ _ hb, jup_n _ _ _ hb]
theorem M_copy_k {k t m m' : Nat} (hk : k < 4) (ht : t < 4) (hm : m ≤ 60) (hm' : m' ≤ 60) (i j n : Int32) (σ : jm_S) (p3 : σ 62 k = -1 ∨ ¬ σ 62 k < 0) (q3 : σ 62 t = -1 ∨ ¬ σ 62 t < 0) (p5 : σ 63 k = nI m) (q5 : σ 63 t = nI m') : jc 127 [.ref 61, .int (nI k), .int i, .int (nI t), .int j, .int n] σ =
    if σ 62 k = -1 ∨ σ 62 t = -1 then some (some (.int (-10 - 1)), jm_up σ 61 4 1)
    else if ¬ σ 62 k = σ 62 t then some (some (.int (-10 - 4)), jm_up σ 61 4 4)
    else if jstr (nI m) i n ∨ jstr (nI m') j n then some (some (.int (-10 - 2)), jm_up σ 61 4 2)
    else jv 127 120 [some (.ref 61), some (.int (nI k)), some (.int i), some (.int (nI t)), some (.int j), some (.int n), some (.int 0)] [] σ := by
  rw [M_copy_in, M_isSheet, jbi_some, M_isSheet, jbi_some]
  simp only [jout hk, jout ht, if_false, j10, not_false_eq_true, if_true, nI_clamp (show k < 2 ^ 31 by omega), nI_clamp (show t < 2 ^ 31 by omega), jbad2 hk (by decide), jbad2 ht (by decide), M_met, jbi_some, jcmp_gt, jcmp_le, p5, q5, jl_sum]
  have neg1 : ∀ z : Int32, (z = -1 ∨ ¬ z < 0) → (z < 0 ↔ z = -1) := fun z h => ⟨fun q => h.resolve_right (fun r => r q), fun q => by rw [q]; decide +kernel⟩
  by_cases h1 : σ 62 k = -1
  · rw [if_pos ((neg1 _ p3).mpr h1), if_pos (Or.inl h1)]
  · rw [if_neg (fun q => h1 ((neg1 _ p3).mp q))]
    by_cases h2 : σ 62 t = -1
    · rw [if_neg (fun q => absurd ((neg1 _ q3).mpr h2) (Int32.not_lt.mpr q)), if_pos (Or.inr h2)]
    · rw [if_pos (Int32.not_lt.mp (fun q => h2 ((neg1 _ q3).mp q))), if_neg (not_or.mpr ⟨h1, h2⟩)]
      by_cases h3 : σ 62 k = σ 62 t
      · rw [if_pos h3, if_neg (fun (q : ¬ σ 62 k = σ 62 t) => q h3)]
        simp only [jstr_iff hm, jstr_iff hm']
        by_cases h4 : i < 0
        · simp only [h4, if_true, true_or]
        · by_cases h5 : j < 0
          · simp only [h4, h5, if_true, if_false, true_or, or_true]
          · by_cases h6 : n < 0
            · simp only [h4, h5, h6, if_true, if_false, true_or, or_true]
            · by_cases h7 : (nI m).toInt < i.toInt + n.toInt
              · simp only [h4, h5, h6, h7, if_true, if_false, true_or, or_true]
              · by_cases h8 : (nI m').toInt < j.toInt + n.toInt
                · simp only [h4, h5, h6, h7, h8, if_true, if_false, or_true, not_true_eq_false]
                · simp only [h4, h5, h6, h7, h8, if_true, if_false, or_false, not_false_eq_true]
      · rw [if_neg h3, if_pos h3]
theorem A_copy {σ : jm_S} (h : I_sl σ) (x i y j n : Int32) : jSame σ jSS [4] I_sl (jc 109 [.ref 0, .int x, .int i, .int y, .int j, .int n]) (jc 127 [.ref 61, .int x, .int i, .int y, .int j, .int n]) := by
  obtain ⟨hs, hl⟩ := id h
  by_cases hx : x < 0 ∨ 3 < x
  · refine jSame_bad h (v := .int (-2)) ?_ ?_
    · rw [P_copy_in, P_isOutside, jbi_some]; simp [hx]
    · rw [M_copy_in, M_isSheet, jbi_some]; simp [hx]
  obtain ⟨k, hk, rfl⟩ := jN4 hx
  by_cases hy : y < 0 ∨ 3 < y
  · refine jSame_bad h (v := .int (-2)) ?_ ?_
    · rw [P_copy_in, P_isOutside, jbi_some, P_isOutside, jbi_some]; simp only [jout hk, if_false, not_true_eq_false]; simp [hy]
    · rw [M_copy_in, M_isSheet, jbi_some, M_isSheet, jbi_some]; simp only [jout hk, if_false]; simp [hy]
  obtain ⟨t, ht, rfl⟩ := jN4 hy
  obtain ⟨m, h1⟩ := hs k hk
  obtain ⟨p1, p2, p3, p4, p5, p6⟩ := id h1
  obtain ⟨m', h2⟩ := hs t ht
  obtain ⟨q1, q2, q3, q4, q5, q6⟩ := id h2
  have hP := P_copy_k hk ht i j n σ
  rw [p2, q2, p4, q4] at hP
  have hM : ∀ τ : jm_S, τ 62 = σ 62 → τ 63 = σ 63 → _ := fun τ e1 e2 => M_copy_k hk ht p1 q1 i j n τ (by rw [e1]; exact p3) (by rw [e1]; exact q3) (by rw [e2]; exact p5) (by rw [e2]; exact q5)
  by_cases c1 : σ 62 k = -1 ∨ σ 62 t = -1
  · refine jSame_find hs (x := 1) (v := .int (-10 - 1)) (by rw [hP, if_pos c1]) (fun τ e1 e2 => ?_)
    rw [hM τ e1 e2, e1, if_pos c1]
  by_cases c2 : σ 62 k = σ 62 t
  · by_cases c3 : jstr (nI m) i n ∨ jstr (nI m') j n
    · refine jSame_find hs (x := 2) (v := .int (-10 - 2)) (by rw [hP, if_neg c1, if_neg (fun (q : ¬ σ 62 k = σ 62 t) => q c2), if_pos c3]) (fun τ e1 e2 => ?_)
      rw [hM τ e1 e2, e1, if_neg c1, if_neg (fun (q : ¬ σ 62 k = σ 62 t) => q c2), if_pos c3]
    · obtain ⟨a, b, hab, rfl, rfl⟩ := jstr_ok p1 (fun q => c3 (Or.inl q))
      obtain ⟨a', b', hab', rfl, e⟩ := jstr_ok q1 (fun q => c3 (Or.inr q))
      have hb : b = b' := by
        have hb2 : b < 2 ^ 31 := by omega
        have hb3 : b' < 2 ^ 31 := by omega
        exact (nI_eq hb2 hb3).mp e
      subst hb
      rw [if_neg c1, if_neg (fun (q : ¬ σ 62 k = σ 62 t) => q c2), if_neg c3] at hP
      simp only [nI_clamp (show a < 2 ^ 31 by omega), nI_clamp (show a' < 2 ^ 31 by omega), nI_clamp (show b < 2 ^ 31 by omega)] at hP
      rw [if_neg (by
        rintro (q | q | q | q | q)
        · exact nI_pos (by omega) q
        · exact nI_pos (by omega) q
        · exact nI_pos (by omega) q
        · omega
        · omega)] at hP
      refine ⟨_, _, _, hP, ?_, ⟨I_sh_1 (k := t) hs (ρ := jm_row (jm_row (jm_row σ (54 + 2 * t) (va_cpy (σ (54 + 2 * k)) (σ (54 + 2 * t)) a a' b)) 65 (fun z => if 0 ≤ z ∧ z < b then σ 64 (60 * k + a + z) else σ 65 z)) 64 (fun z => if 60 * t + a' + 0 ≤ z ∧ z < 60 * t + a' + b then (if 0 ≤ z - (60 * t + a') ∧ z - (60 * t + a') < b then σ 64 (60 * k + a + (z - (60 * t + a'))) else σ 65 (z - (60 * t + a'))) else σ 64 z)) (fun x ha => ?_) (fun j' hj' => ?_) (fun j' hj' => ?_) (fun j' hj' => ?_) (n := m') ?_, ?_⟩, ?_⟩
      · rw [hM _ (by rw [jrow_n _ _ (by omega)]) (by rw [jrow_n _ _ (by omega)]), jrow_n _ _ (by omega), if_neg c1, if_neg (fun (q : ¬ σ 62 k = σ 62 t) => q c2), if_neg c3]
        have l1 := M_copy_l1 (a := a) (b := b) hk (by omega) (nI t) (nI a') b 0
        have l2 := M_copy_l2 (a := a') (b := b) ht (by omega) (nI k) (nI a) b 0
        rw [nI_0] at l1 l2
        have e1 : (fun z => if 0 ≤ z ∧ z < b then (jm_row σ (54 + 2 * t) (va_cpy (σ (54 + 2 * k)) (σ (54 + 2 * t)) a a' b)) 64 (60 * k + a + z) else (jm_row σ (54 + 2 * t) (va_cpy (σ (54 + 2 * k)) (σ (54 + 2 * t)) a a' b)) 65 z) = (fun z => if 0 ≤ z ∧ z < b then σ 64 (60 * k + a + z) else σ 65 z) := by
          funext z
          rw [jrow_n _ _ (by omega), jrow_n _ _ (by omega)]
        rw [l1 _ (by omega), l2 _ (by omega), e1]
        have e2 : (fun z => if 60 * t + a' + 0 ≤ z ∧ z < 60 * t + a' + b then (jm_row (jm_row σ (54 + 2 * t) (va_cpy (σ (54 + 2 * k)) (σ (54 + 2 * t)) a a' b)) 65 (fun z => if 0 ≤ z ∧ z < b then σ 64 (60 * k + a + z) else σ 65 z)) 65 (z - (60 * t + a')) else (jm_row (jm_row σ (54 + 2 * t) (va_cpy (σ (54 + 2 * k)) (σ (54 + 2 * t)) a a' b)) 65 (fun z => if 0 ≤ z ∧ z < b then σ 64 (60 * k + a + z) else σ 65 z)) 64 z) = (fun z => if 60 * t + a' + 0 ≤ z ∧ z < 60 * t + a' + b then (if 0 ≤ z - (60 * t + a') ∧ z - (60 * t + a') < b then σ 64 (60 * k + a + (z - (60 * t + a'))) else σ 65 (z - (60 * t + a'))) else σ 64 z) := by
          funext z
          rw [jrow_s, jrow_n _ _ (by decide), jrow_n _ _ (by omega)]
        rw [e2]
      · simp only [List.mem_cons, List.not_mem_nil, or_false, not_or] at ha
        (repeat (first | rw [jup_s] | rw [jrow_s] | rw [jup_n _ _ _ (by omega)] | rw [jrow_n _ _ (by omega)]))
      · (repeat (first | rw [jup_s] | rw [jrow_s] | rw [jup_n _ _ _ (by omega)] | rw [jrow_n _ _ (by omega)]))
      · (repeat (first | rw [jup_s] | rw [jrow_s] | rw [jup_n _ _ _ (by omega)] | rw [jrow_n _ _ (by omega)]))
      · (repeat (first | rw [jup_s] | rw [jrow_s] | rw [jup_n _ _ _ (by omega)] | rw [jrow_n _ _ (by omega)]))
        rw [if_neg (by omega)]
      · refine ⟨q1, ?_, ?_, ?_, ?_, ?_⟩
        · (repeat (first | rw [jup_s] | rw [jrow_s] | rw [jup_n _ _ _ (by omega)] | rw [jrow_n _ _ (by omega)]))
          exact q2
        · (repeat (first | rw [jup_s] | rw [jrow_s] | rw [jup_n _ _ _ (by omega)] | rw [jrow_n _ _ (by omega)]))
          exact q3
        · (repeat (first | rw [jup_s] | rw [jrow_s] | rw [jup_n _ _ _ (by omega)] | rw [jrow_n _ _ (by omega)]))
          exact q4
        · (repeat (first | rw [jup_s] | rw [jrow_s] | rw [jup_n _ _ _ (by omega)] | rw [jrow_n _ _ (by omega)]))
          exact q5
        · intro j' hj'
          (repeat (first | rw [jup_s] | rw [jrow_s] | rw [jup_n _ _ _ (by omega)] | rw [jrow_n _ _ (by omega)]))
          unfold va_cpy
          by_cases e1 : a' ≤ j' ∧ j' < a' + b
          · rw [if_pos e1, if_pos (by omega), if_pos (by omega), p6 _ (by omega)]
            congr 1
            omega
          · rw [if_neg e1, if_neg (by omega)]
            exact q6 j' hj'
      · unfold I_lat
        (repeat (first | rw [jup_s] | rw [jrow_s] | rw [jup_n _ _ _ (by omega)] | rw [jrow_n _ _ (by omega)]))
        exact hl
      · exact ((jFr.row jFr.rf (jSS1 ht).2.1 (jSS1 ht).2.2.2).row (by decide) (by decide)).row (by decide) (by decide)
  · refine jSame_find hs (x := 4) (v := .int (-10 - 4)) (by rw [hP, if_neg c1, if_pos c2]) (fun τ e1 e2 => ?_)
    rw [hM τ e1 e2, e1, if_neg c1, if_pos c2]
