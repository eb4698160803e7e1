theorem fg_0_0 (σ : jm_S) : jm_gf 8 0 0 σ = some (.ref 1) := rfl
theorem fg_0_1 (σ : jm_S) : jm_gf 8 1 0 σ = some (.ref 4) := rfl
theorem fg_0_2 (σ : jm_S) : jm_gf 8 2 0 σ = some (.ref 5) := rfl
theorem fg_0_3 (σ : jm_S) : jm_gf 8 3 0 σ = some (.ref 6) := rfl
theorem fg_0_4 (σ : jm_S) : jm_gf 8 4 0 σ = some (.ref 10) := rfl
theorem fg_0_5 (σ : jm_S) : jm_gf 8 5 0 σ = some (.ref 11) := rfl
theorem fg_0_6 (σ : jm_S) : jm_gf 8 6 0 σ = some (.ref 23) := rfl
theorem fg_0_7 (σ : jm_S) : jm_gf 8 7 0 σ = some (.ref 35) := rfl
theorem fg_0_8 (σ : jm_S) : jm_gf 8 8 0 σ = some (.ref 38) := rfl
theorem fg_0_9 (σ : jm_S) : jm_gf 8 9 0 σ = some (.ref 41) := rfl
theorem fg_0_10 (σ : jm_S) : jm_gf 8 10 0 σ = some (.int (σ 0 10)) := rfl
theorem pf_0_10 (x : Int32) (σ : jm_S) : jm_pf 8 10 0 x σ = some (jm_up σ 0 10 x) := by
  show (if jm_isZ 8 10 = true ∧ ¬ (x = 0 ∨ x = 1) then none else some (jm_up σ 0 10 x)) = _
  rw [if_neg (fun h => absurd h.1 (by decide +kernel))]
theorem fg_1_0 (σ : jm_S) : jm_gf 2 0 1 σ = some (.ref 2) := rfl
theorem fg_1_1 (σ : jm_S) : jm_gf 2 1 1 σ = some (.ref 3) := rfl
theorem fg_1_2 (σ : jm_S) : jm_gf 2 2 1 σ = some (.int (σ 1 2)) := rfl
theorem pf_1_2 (x : Int32) (σ : jm_S) : jm_pf 2 2 1 x σ = some (jm_up σ 1 2 x) := by
  show (if jm_isZ 2 2 = true ∧ ¬ (x = 0 ∨ x = 1) then none else some (jm_up σ 1 2 x)) = _
  rw [if_neg (fun h => absurd h.1 (by decide +kernel))]
theorem wi_2 : jm_wi 2 false = some 12 := rfl
theorem ia_2 (σ : jm_S) : jm_ia 2 σ = some (12, σ 2) := rfl
theorem ln_2 (σ : jm_S) : jm_len 2 σ = some 12 := rfl
theorem wi_3 : jm_wi 3 false = some 48 := rfl
theorem ia_3 (σ : jm_S) : jm_ia 3 σ = some (48, σ 3) := rfl
theorem ln_3 (σ : jm_S) : jm_len 3 σ = some 48 := rfl
theorem wi_4 : jm_wi 4 false = some 6 := rfl
theorem ia_4 (σ : jm_S) : jm_ia 4 σ = some (6, σ 4) := rfl
theorem ln_4 (σ : jm_S) : jm_len 4 σ = some 6 := rfl
theorem wr_5 : jm_wr 5 = some [42, 44, 47, 50] := rfl
theorem fg_6_0 (σ : jm_S) : jm_gf 4 0 6 σ = some (.ref 7) := rfl
theorem fg_6_1 (σ : jm_S) : jm_gf 4 1 6 σ = some (.ref 8) := rfl
theorem fg_6_2 (σ : jm_S) : jm_gf 4 2 6 σ = some (.ref 9) := rfl
theorem fg_6_3 (σ : jm_S) : jm_gf 4 3 6 σ = some (.int (σ 6 3)) := rfl
theorem pf_6_3 (x : Int32) (σ : jm_S) : jm_pf 4 3 6 x σ = some (jm_up σ 6 3 x) := by
  show (if jm_isZ 4 3 = true ∧ ¬ (x = 0 ∨ x = 1) then none else some (jm_up σ 6 3 x)) = _
  rw [if_neg (fun h => absurd h.1 (by decide +kernel))]
theorem wi_7 : jm_wi 7 false = some 200 := rfl
theorem ia_7 (σ : jm_S) : jm_ia 7 σ = some (200, σ 7) := rfl
theorem ln_7 (σ : jm_S) : jm_len 7 σ = some 200 := rfl
theorem wi_8 : jm_wi 8 false = some 200 := rfl
theorem ia_8 (σ : jm_S) : jm_ia 8 σ = some (200, σ 8) := rfl
theorem ln_8 (σ : jm_S) : jm_len 8 σ = some 200 := rfl
theorem wi_9 : jm_wi 9 true = some 200 := rfl
theorem ln_9 (σ : jm_S) : jm_len 9 σ = some 200 := rfl
theorem wr_10 : jm_wr 10 = some [46, 49, 52] := rfl
theorem fg_11_0 (σ : jm_S) : jm_gf 0 0 11 σ = some (.ref 12) := rfl
theorem fg_11_1 (σ : jm_S) : jm_gf 0 1 11 σ = some (.ref 13) := rfl
theorem fg_11_2 (σ : jm_S) : jm_gf 0 2 11 σ = some (.ref 14) := rfl
theorem fg_11_3 (σ : jm_S) : jm_gf 0 3 11 σ = some (.ref 15) := rfl
theorem fg_11_4 (σ : jm_S) : jm_gf 0 4 11 σ = some (.ref 16) := rfl
theorem fg_11_5 (σ : jm_S) : jm_gf 0 5 11 σ = some (.ref 17) := rfl
theorem fg_11_6 (σ : jm_S) : jm_gf 0 6 11 σ = some (.ref 18) := rfl
theorem fg_11_7 (σ : jm_S) : jm_gf 0 7 11 σ = some (.ref 19) := rfl
theorem fg_11_8 (σ : jm_S) : jm_gf 0 8 11 σ = some (.ref 20) := rfl
theorem fg_11_9 (σ : jm_S) : jm_gf 0 9 11 σ = some (.ref 21) := rfl
theorem fg_11_10 (σ : jm_S) : jm_gf 0 10 11 σ = some (.ref 22) := rfl
theorem fg_11_11 (σ : jm_S) : jm_gf 0 11 11 σ = some (.int (σ 11 11)) := rfl
theorem pf_11_11 (x : Int32) (σ : jm_S) : jm_pf 0 11 11 x σ = some (jm_up σ 11 11 x) := by
  show (if jm_isZ 0 11 = true ∧ ¬ (x = 0 ∨ x = 1) then none else some (jm_up σ 11 11 x)) = _
  rw [if_neg (fun h => absurd h.1 (by decide +kernel))]
theorem fg_11_12 (σ : jm_S) : jm_gf 0 12 11 σ = some (.int (σ 11 12)) := rfl
theorem pf_11_12 (x : Int32) (σ : jm_S) : jm_pf 0 12 11 x σ = some (jm_up σ 11 12 x) := by
  show (if jm_isZ 0 12 = true ∧ ¬ (x = 0 ∨ x = 1) then none else some (jm_up σ 11 12 x)) = _
  rw [if_neg (fun h => absurd h.1 (by decide +kernel))]
theorem fg_11_13 (σ : jm_S) : jm_gf 0 13 11 σ = some (.int (σ 11 13)) := rfl
theorem pf_11_13 (x : Int32) (σ : jm_S) : jm_pf 0 13 11 x σ = some (jm_up σ 11 13 x) := by
  show (if jm_isZ 0 13 = true ∧ ¬ (x = 0 ∨ x = 1) then none else some (jm_up σ 11 13 x)) = _
  rw [if_neg (fun h => absurd h.1 (by decide +kernel))]
theorem fg_11_14 (σ : jm_S) : jm_gf 0 14 11 σ = some (.int (σ 11 14)) := rfl
theorem pf_11_14 (x : Int32) (σ : jm_S) : jm_pf 0 14 11 x σ = some (jm_up σ 11 14 x) := by
  show (if jm_isZ 0 14 = true ∧ ¬ (x = 0 ∨ x = 1) then none else some (jm_up σ 11 14 x)) = _
  rw [if_neg (fun h => absurd h.1 (by decide +kernel))]
theorem fg_11_15 (σ : jm_S) : jm_gf 0 15 11 σ = some (.int (σ 11 15)) := rfl
theorem pf_11_15 (x : Int32) (σ : jm_S) : jm_pf 0 15 11 x σ = some (jm_up σ 11 15 x) := by
  show (if jm_isZ 0 15 = true ∧ ¬ (x = 0 ∨ x = 1) then none else some (jm_up σ 11 15 x)) = _
  rw [if_neg (fun h => absurd h.1 (by decide +kernel))]
theorem fg_11_16 (σ : jm_S) : jm_gf 0 16 11 σ = some (.int (σ 11 16)) := rfl
theorem pf_11_16 (x : Int32) (σ : jm_S) (hx : x = 0 ∨ x = 1) : jm_pf 0 16 11 x σ = some (jm_up σ 11 16 x) := by
  show (if jm_isZ 0 16 = true ∧ ¬ (x = 0 ∨ x = 1) then none else some (jm_up σ 11 16 x)) = _
  rw [if_neg (fun h => h.2 hx)]
theorem pn_11_16 (x : Int32) (σ : jm_S) (hx : ¬ (x = 0 ∨ x = 1)) : jm_pf 0 16 11 x σ = none := by
  show (if jm_isZ 0 16 = true ∧ ¬ (x = 0 ∨ x = 1) then none else some (jm_up σ 11 16 x)) = _
  rw [if_pos ⟨by decide +kernel, hx⟩]
theorem wi_12 : jm_wi 12 false = some 12 := rfl
theorem ia_12 (σ : jm_S) : jm_ia 12 σ = some (12, σ 12) := rfl
theorem ln_12 (σ : jm_S) : jm_len 12 σ = some 12 := rfl
theorem wi_13 : jm_wi 13 false = some 12 := rfl
theorem ia_13 (σ : jm_S) : jm_ia 13 σ = some (12, σ 13) := rfl
theorem ln_13 (σ : jm_S) : jm_len 13 σ = some 12 := rfl
theorem wi_14 : jm_wi 14 false = some 12 := rfl
theorem ia_14 (σ : jm_S) : jm_ia 14 σ = some (12, σ 14) := rfl
theorem ln_14 (σ : jm_S) : jm_len 14 σ = some 12 := rfl
theorem wi_15 : jm_wi 15 false = some 12 := rfl
theorem ia_15 (σ : jm_S) : jm_ia 15 σ = some (12, σ 15) := rfl
theorem ln_15 (σ : jm_S) : jm_len 15 σ = some 12 := rfl
theorem wi_16 : jm_wi 16 false = some 12 := rfl
theorem ia_16 (σ : jm_S) : jm_ia 16 σ = some (12, σ 16) := rfl
theorem ln_16 (σ : jm_S) : jm_len 16 σ = some 12 := rfl
theorem wi_17 : jm_wi 17 false = some 12 := rfl
theorem ia_17 (σ : jm_S) : jm_ia 17 σ = some (12, σ 17) := rfl
theorem ln_17 (σ : jm_S) : jm_len 17 σ = some 12 := rfl
theorem wi_18 : jm_wi 18 false = some 12 := rfl
theorem ia_18 (σ : jm_S) : jm_ia 18 σ = some (12, σ 18) := rfl
theorem ln_18 (σ : jm_S) : jm_len 18 σ = some 12 := rfl
theorem wi_19 : jm_wi 19 false = some 12 := rfl
theorem ia_19 (σ : jm_S) : jm_ia 19 σ = some (12, σ 19) := rfl
theorem ln_19 (σ : jm_S) : jm_len 19 σ = some 12 := rfl
theorem wi_20 : jm_wi 20 false = some 12 := rfl
theorem ia_20 (σ : jm_S) : jm_ia 20 σ = some (12, σ 20) := rfl
theorem ln_20 (σ : jm_S) : jm_len 20 σ = some 12 := rfl
theorem wi_21 : jm_wi 21 false = some 48 := rfl
theorem ia_21 (σ : jm_S) : jm_ia 21 σ = some (48, σ 21) := rfl
theorem ln_21 (σ : jm_S) : jm_len 21 σ = some 48 := rfl
theorem wi_22 : jm_wi 22 false = some 4 := rfl
theorem ia_22 (σ : jm_S) : jm_ia 22 σ = some (4, σ 22) := rfl
theorem ln_22 (σ : jm_S) : jm_len 22 σ = some 4 := rfl
theorem fg_23_0 (σ : jm_S) : jm_gf 0 0 23 σ = some (.ref 24) := rfl
theorem fg_23_1 (σ : jm_S) : jm_gf 0 1 23 σ = some (.ref 25) := rfl
theorem fg_23_2 (σ : jm_S) : jm_gf 0 2 23 σ = some (.ref 26) := rfl
theorem fg_23_3 (σ : jm_S) : jm_gf 0 3 23 σ = some (.ref 27) := rfl
theorem fg_23_4 (σ : jm_S) : jm_gf 0 4 23 σ = some (.ref 28) := rfl
theorem fg_23_5 (σ : jm_S) : jm_gf 0 5 23 σ = some (.ref 29) := rfl
theorem fg_23_6 (σ : jm_S) : jm_gf 0 6 23 σ = some (.ref 30) := rfl
theorem fg_23_7 (σ : jm_S) : jm_gf 0 7 23 σ = some (.ref 31) := rfl
theorem fg_23_8 (σ : jm_S) : jm_gf 0 8 23 σ = some (.ref 32) := rfl
theorem fg_23_9 (σ : jm_S) : jm_gf 0 9 23 σ = some (.ref 33) := rfl
theorem fg_23_10 (σ : jm_S) : jm_gf 0 10 23 σ = some (.ref 34) := rfl
theorem fg_23_11 (σ : jm_S) : jm_gf 0 11 23 σ = some (.int (σ 23 11)) := rfl
theorem pf_23_11 (x : Int32) (σ : jm_S) : jm_pf 0 11 23 x σ = some (jm_up σ 23 11 x) := by
  show (if jm_isZ 0 11 = true ∧ ¬ (x = 0 ∨ x = 1) then none else some (jm_up σ 23 11 x)) = _
  rw [if_neg (fun h => absurd h.1 (by decide +kernel))]
theorem fg_23_12 (σ : jm_S) : jm_gf 0 12 23 σ = some (.int (σ 23 12)) := rfl
theorem pf_23_12 (x : Int32) (σ : jm_S) : jm_pf 0 12 23 x σ = some (jm_up σ 23 12 x) := by
  show (if jm_isZ 0 12 = true ∧ ¬ (x = 0 ∨ x = 1) then none else some (jm_up σ 23 12 x)) = _
  rw [if_neg (fun h => absurd h.1 (by decide +kernel))]
theorem fg_23_13 (σ : jm_S) : jm_gf 0 13 23 σ = some (.int (σ 23 13)) := rfl
theorem pf_23_13 (x : Int32) (σ : jm_S) : jm_pf 0 13 23 x σ = some (jm_up σ 23 13 x) := by
  show (if jm_isZ 0 13 = true ∧ ¬ (x = 0 ∨ x = 1) then none else some (jm_up σ 23 13 x)) = _
  rw [if_neg (fun h => absurd h.1 (by decide +kernel))]
theorem fg_23_14 (σ : jm_S) : jm_gf 0 14 23 σ = some (.int (σ 23 14)) := rfl
theorem pf_23_14 (x : Int32) (σ : jm_S) : jm_pf 0 14 23 x σ = some (jm_up σ 23 14 x) := by
  show (if jm_isZ 0 14 = true ∧ ¬ (x = 0 ∨ x = 1) then none else some (jm_up σ 23 14 x)) = _
  rw [if_neg (fun h => absurd h.1 (by decide +kernel))]
theorem fg_23_15 (σ : jm_S) : jm_gf 0 15 23 σ = some (.int (σ 23 15)) := rfl
theorem pf_23_15 (x : Int32) (σ : jm_S) : jm_pf 0 15 23 x σ = some (jm_up σ 23 15 x) := by
  show (if jm_isZ 0 15 = true ∧ ¬ (x = 0 ∨ x = 1) then none else some (jm_up σ 23 15 x)) = _
  rw [if_neg (fun h => absurd h.1 (by decide +kernel))]
theorem fg_23_16 (σ : jm_S) : jm_gf 0 16 23 σ = some (.int (σ 23 16)) := rfl
theorem pf_23_16 (x : Int32) (σ : jm_S) (hx : x = 0 ∨ x = 1) : jm_pf 0 16 23 x σ = some (jm_up σ 23 16 x) := by
  show (if jm_isZ 0 16 = true ∧ ¬ (x = 0 ∨ x = 1) then none else some (jm_up σ 23 16 x)) = _
  rw [if_neg (fun h => h.2 hx)]
theorem pn_23_16 (x : Int32) (σ : jm_S) (hx : ¬ (x = 0 ∨ x = 1)) : jm_pf 0 16 23 x σ = none := by
  show (if jm_isZ 0 16 = true ∧ ¬ (x = 0 ∨ x = 1) then none else some (jm_up σ 23 16 x)) = _
  rw [if_pos ⟨by decide +kernel, hx⟩]
theorem wi_24 : jm_wi 24 false = some 12 := rfl
theorem ia_24 (σ : jm_S) : jm_ia 24 σ = some (12, σ 24) := rfl
theorem ln_24 (σ : jm_S) : jm_len 24 σ = some 12 := rfl
theorem wi_25 : jm_wi 25 false = some 12 := rfl
theorem ia_25 (σ : jm_S) : jm_ia 25 σ = some (12, σ 25) := rfl
theorem ln_25 (σ : jm_S) : jm_len 25 σ = some 12 := rfl
theorem wi_26 : jm_wi 26 false = some 12 := rfl
theorem ia_26 (σ : jm_S) : jm_ia 26 σ = some (12, σ 26) := rfl
theorem ln_26 (σ : jm_S) : jm_len 26 σ = some 12 := rfl
theorem wi_27 : jm_wi 27 false = some 12 := rfl
theorem ia_27 (σ : jm_S) : jm_ia 27 σ = some (12, σ 27) := rfl
theorem ln_27 (σ : jm_S) : jm_len 27 σ = some 12 := rfl
theorem wi_28 : jm_wi 28 false = some 12 := rfl
theorem ia_28 (σ : jm_S) : jm_ia 28 σ = some (12, σ 28) := rfl
theorem ln_28 (σ : jm_S) : jm_len 28 σ = some 12 := rfl
theorem wi_29 : jm_wi 29 false = some 12 := rfl
theorem ia_29 (σ : jm_S) : jm_ia 29 σ = some (12, σ 29) := rfl
theorem ln_29 (σ : jm_S) : jm_len 29 σ = some 12 := rfl
theorem wi_30 : jm_wi 30 false = some 12 := rfl
theorem ia_30 (σ : jm_S) : jm_ia 30 σ = some (12, σ 30) := rfl
theorem ln_30 (σ : jm_S) : jm_len 30 σ = some 12 := rfl
theorem wi_31 : jm_wi 31 false = some 12 := rfl
theorem ia_31 (σ : jm_S) : jm_ia 31 σ = some (12, σ 31) := rfl
theorem ln_31 (σ : jm_S) : jm_len 31 σ = some 12 := rfl
theorem wi_32 : jm_wi 32 false = some 12 := rfl
theorem ia_32 (σ : jm_S) : jm_ia 32 σ = some (12, σ 32) := rfl
theorem ln_32 (σ : jm_S) : jm_len 32 σ = some 12 := rfl
theorem wi_33 : jm_wi 33 false = some 48 := rfl
theorem ia_33 (σ : jm_S) : jm_ia 33 σ = some (48, σ 33) := rfl
theorem ln_33 (σ : jm_S) : jm_len 33 σ = some 48 := rfl
theorem wi_34 : jm_wi 34 false = some 4 := rfl
theorem ia_34 (σ : jm_S) : jm_ia 34 σ = some (4, σ 34) := rfl
theorem ln_34 (σ : jm_S) : jm_len 34 σ = some 4 := rfl
theorem fg_35_0 (σ : jm_S) : jm_gf 1 0 35 σ = some (.ref 36) := rfl
theorem fg_35_1 (σ : jm_S) : jm_gf 1 1 35 σ = some (.ref 37) := rfl
theorem wi_36 : jm_wi 36 false = some 100 := rfl
theorem ia_36 (σ : jm_S) : jm_ia 36 σ = some (100, σ 36) := rfl
theorem ln_36 (σ : jm_S) : jm_len 36 σ = some 100 := rfl
theorem wi_37 : jm_wi 37 false = some 100 := rfl
theorem ia_37 (σ : jm_S) : jm_ia 37 σ = some (100, σ 37) := rfl
theorem ln_37 (σ : jm_S) : jm_len 37 σ = some 100 := rfl
theorem fg_38_0 (σ : jm_S) : jm_gf 3 0 38 σ = some (.ref 39) := rfl
theorem fg_38_1 (σ : jm_S) : jm_gf 3 1 38 σ = some (.ref 40) := rfl
theorem fg_38_2 (σ : jm_S) : jm_gf 3 2 38 σ = some (.int (σ 38 2)) := rfl
theorem pf_38_2 (x : Int32) (σ : jm_S) : jm_pf 3 2 38 x σ = some (jm_up σ 38 2 x) := by
  show (if jm_isZ 3 2 = true ∧ ¬ (x = 0 ∨ x = 1) then none else some (jm_up σ 38 2 x)) = _
  rw [if_neg (fun h => absurd h.1 (by decide +kernel))]
theorem fg_38_3 (σ : jm_S) : jm_gf 3 3 38 σ = some (.int (σ 38 3)) := rfl
theorem pf_38_3 (x : Int32) (σ : jm_S) : jm_pf 3 3 38 x σ = some (jm_up σ 38 3 x) := by
  show (if jm_isZ 3 3 = true ∧ ¬ (x = 0 ∨ x = 1) then none else some (jm_up σ 38 3 x)) = _
  rw [if_neg (fun h => absurd h.1 (by decide +kernel))]
theorem fg_38_4 (σ : jm_S) : jm_gf 3 4 38 σ = some (.int (σ 38 4)) := rfl
theorem pf_38_4 (x : Int32) (σ : jm_S) : jm_pf 3 4 38 x σ = some (jm_up σ 38 4 x) := by
  show (if jm_isZ 3 4 = true ∧ ¬ (x = 0 ∨ x = 1) then none else some (jm_up σ 38 4 x)) = _
  rw [if_neg (fun h => absurd h.1 (by decide +kernel))]
theorem fg_38_5 (σ : jm_S) : jm_gf 3 5 38 σ = some (.int (σ 38 5)) := rfl
theorem pf_38_5 (x : Int32) (σ : jm_S) : jm_pf 3 5 38 x σ = some (jm_up σ 38 5 x) := by
  show (if jm_isZ 3 5 = true ∧ ¬ (x = 0 ∨ x = 1) then none else some (jm_up σ 38 5 x)) = _
  rw [if_neg (fun h => absurd h.1 (by decide +kernel))]
theorem fg_38_6 (σ : jm_S) : jm_gf 3 6 38 σ = some (.int (σ 38 6)) := rfl
theorem pf_38_6 (x : Int32) (σ : jm_S) : jm_pf 3 6 38 x σ = some (jm_up σ 38 6 x) := by
  show (if jm_isZ 3 6 = true ∧ ¬ (x = 0 ∨ x = 1) then none else some (jm_up σ 38 6 x)) = _
  rw [if_neg (fun h => absurd h.1 (by decide +kernel))]
theorem fg_38_7 (σ : jm_S) : jm_gf 3 7 38 σ = some (.int (σ 38 7)) := rfl
theorem pf_38_7 (x : Int32) (σ : jm_S) : jm_pf 3 7 38 x σ = some (jm_up σ 38 7 x) := by
  show (if jm_isZ 3 7 = true ∧ ¬ (x = 0 ∨ x = 1) then none else some (jm_up σ 38 7 x)) = _
  rw [if_neg (fun h => absurd h.1 (by decide +kernel))]
theorem wi_39 : jm_wi 39 false = some 12 := rfl
theorem ia_39 (σ : jm_S) : jm_ia 39 σ = some (12, σ 39) := rfl
theorem ln_39 (σ : jm_S) : jm_len 39 σ = some 12 := rfl
theorem wi_40 : jm_wi 40 false = some 12 := rfl
theorem ia_40 (σ : jm_S) : jm_ia 40 σ = some (12, σ 40) := rfl
theorem ln_40 (σ : jm_S) : jm_len 40 σ = some 12 := rfl
theorem wr_41 : jm_wr 41 = some [53, 55, 57, 59] := rfl
theorem fg_42_0 (σ : jm_S) : jm_gf 7 0 42 σ = some (.ref 43) := rfl
theorem fg_42_1 (σ : jm_S) : jm_gf 7 1 42 σ = some (.int (σ 42 1)) := rfl
theorem pf_42_1 (x : Int32) (σ : jm_S) : jm_pf 7 1 42 x σ = some (jm_up σ 42 1 x) := by
  show (if jm_isZ 7 1 = true ∧ ¬ (x = 0 ∨ x = 1) then none else some (jm_up σ 42 1 x)) = _
  rw [if_neg (fun h => absurd h.1 (by decide +kernel))]
theorem fg_42_2 (σ : jm_S) : jm_gf 7 2 42 σ = some (.int (σ 42 2)) := rfl
theorem pf_42_2 (x : Int32) (σ : jm_S) : jm_pf 7 2 42 x σ = some (jm_up σ 42 2 x) := by
  show (if jm_isZ 7 2 = true ∧ ¬ (x = 0 ∨ x = 1) then none else some (jm_up σ 42 2 x)) = _
  rw [if_neg (fun h => absurd h.1 (by decide +kernel))]
theorem fg_42_3 (σ : jm_S) : jm_gf 7 3 42 σ = some (.int (σ 42 3)) := rfl
theorem pf_42_3 (x : Int32) (σ : jm_S) : jm_pf 7 3 42 x σ = some (jm_up σ 42 3 x) := by
  show (if jm_isZ 7 3 = true ∧ ¬ (x = 0 ∨ x = 1) then none else some (jm_up σ 42 3 x)) = _
  rw [if_neg (fun h => absurd h.1 (by decide +kernel))]
theorem wi_43 : jm_wi 43 false = some 60 := rfl
theorem ia_43 (σ : jm_S) : jm_ia 43 σ = some (60, σ 43) := rfl
theorem ln_43 (σ : jm_S) : jm_len 43 σ = some 60 := rfl
theorem fg_44_0 (σ : jm_S) : jm_gf 7 0 44 σ = some (.ref 45) := rfl
theorem fg_44_1 (σ : jm_S) : jm_gf 7 1 44 σ = some (.int (σ 44 1)) := rfl
theorem pf_44_1 (x : Int32) (σ : jm_S) : jm_pf 7 1 44 x σ = some (jm_up σ 44 1 x) := by
  show (if jm_isZ 7 1 = true ∧ ¬ (x = 0 ∨ x = 1) then none else some (jm_up σ 44 1 x)) = _
  rw [if_neg (fun h => absurd h.1 (by decide +kernel))]
theorem fg_44_2 (σ : jm_S) : jm_gf 7 2 44 σ = some (.int (σ 44 2)) := rfl
theorem pf_44_2 (x : Int32) (σ : jm_S) : jm_pf 7 2 44 x σ = some (jm_up σ 44 2 x) := by
  show (if jm_isZ 7 2 = true ∧ ¬ (x = 0 ∨ x = 1) then none else some (jm_up σ 44 2 x)) = _
  rw [if_neg (fun h => absurd h.1 (by decide +kernel))]
theorem fg_44_3 (σ : jm_S) : jm_gf 7 3 44 σ = some (.int (σ 44 3)) := rfl
theorem pf_44_3 (x : Int32) (σ : jm_S) : jm_pf 7 3 44 x σ = some (jm_up σ 44 3 x) := by
  show (if jm_isZ 7 3 = true ∧ ¬ (x = 0 ∨ x = 1) then none else some (jm_up σ 44 3 x)) = _
  rw [if_neg (fun h => absurd h.1 (by decide +kernel))]
theorem wi_45 : jm_wi 45 false = some 30 := rfl
theorem ia_45 (σ : jm_S) : jm_ia 45 σ = some (30, σ 45) := rfl
theorem ln_45 (σ : jm_S) : jm_len 45 σ = some 30 := rfl
theorem fg_46_0 (σ : jm_S) : jm_gf 5 0 46 σ = some (.int (σ 46 0)) := rfl
theorem pf_46_0 (x : Int32) (σ : jm_S) : jm_pf 5 0 46 x σ = some (jm_up σ 46 0 x) := by
  show (if jm_isZ 5 0 = true ∧ ¬ (x = 0 ∨ x = 1) then none else some (jm_up σ 46 0 x)) = _
  rw [if_neg (fun h => absurd h.1 (by decide +kernel))]
theorem fg_46_1 (σ : jm_S) : jm_gf 5 1 46 σ = some (.int (σ 46 1)) := rfl
theorem pf_46_1 (x : Int32) (σ : jm_S) : jm_pf 5 1 46 x σ = some (jm_up σ 46 1 x) := by
  show (if jm_isZ 5 1 = true ∧ ¬ (x = 0 ∨ x = 1) then none else some (jm_up σ 46 1 x)) = _
  rw [if_neg (fun h => absurd h.1 (by decide +kernel))]
theorem fg_46_2 (σ : jm_S) : jm_gf 5 2 46 σ = some (.int (σ 46 2)) := rfl
theorem pf_46_2 (x : Int32) (σ : jm_S) : jm_pf 5 2 46 x σ = some (jm_up σ 46 2 x) := by
  show (if jm_isZ 5 2 = true ∧ ¬ (x = 0 ∨ x = 1) then none else some (jm_up σ 46 2 x)) = _
  rw [if_neg (fun h => absurd h.1 (by decide +kernel))]
theorem fg_47_0 (σ : jm_S) : jm_gf 7 0 47 σ = some (.ref 48) := rfl
theorem fg_47_1 (σ : jm_S) : jm_gf 7 1 47 σ = some (.int (σ 47 1)) := rfl
theorem pf_47_1 (x : Int32) (σ : jm_S) : jm_pf 7 1 47 x σ = some (jm_up σ 47 1 x) := by
  show (if jm_isZ 7 1 = true ∧ ¬ (x = 0 ∨ x = 1) then none else some (jm_up σ 47 1 x)) = _
  rw [if_neg (fun h => absurd h.1 (by decide +kernel))]
theorem fg_47_2 (σ : jm_S) : jm_gf 7 2 47 σ = some (.int (σ 47 2)) := rfl
theorem pf_47_2 (x : Int32) (σ : jm_S) : jm_pf 7 2 47 x σ = some (jm_up σ 47 2 x) := by
  show (if jm_isZ 7 2 = true ∧ ¬ (x = 0 ∨ x = 1) then none else some (jm_up σ 47 2 x)) = _
  rw [if_neg (fun h => absurd h.1 (by decide +kernel))]
theorem fg_47_3 (σ : jm_S) : jm_gf 7 3 47 σ = some (.int (σ 47 3)) := rfl
theorem pf_47_3 (x : Int32) (σ : jm_S) : jm_pf 7 3 47 x σ = some (jm_up σ 47 3 x) := by
  show (if jm_isZ 7 3 = true ∧ ¬ (x = 0 ∨ x = 1) then none else some (jm_up σ 47 3 x)) = _
  rw [if_neg (fun h => absurd h.1 (by decide +kernel))]
theorem wi_48 : jm_wi 48 false = some 30 := rfl
theorem ia_48 (σ : jm_S) : jm_ia 48 σ = some (30, σ 48) := rfl
theorem ln_48 (σ : jm_S) : jm_len 48 σ = some 30 := rfl
theorem fg_49_0 (σ : jm_S) : jm_gf 5 0 49 σ = some (.int (σ 49 0)) := rfl
theorem pf_49_0 (x : Int32) (σ : jm_S) : jm_pf 5 0 49 x σ = some (jm_up σ 49 0 x) := by
  show (if jm_isZ 5 0 = true ∧ ¬ (x = 0 ∨ x = 1) then none else some (jm_up σ 49 0 x)) = _
  rw [if_neg (fun h => absurd h.1 (by decide +kernel))]
theorem fg_49_1 (σ : jm_S) : jm_gf 5 1 49 σ = some (.int (σ 49 1)) := rfl
theorem pf_49_1 (x : Int32) (σ : jm_S) : jm_pf 5 1 49 x σ = some (jm_up σ 49 1 x) := by
  show (if jm_isZ 5 1 = true ∧ ¬ (x = 0 ∨ x = 1) then none else some (jm_up σ 49 1 x)) = _
  rw [if_neg (fun h => absurd h.1 (by decide +kernel))]
theorem fg_49_2 (σ : jm_S) : jm_gf 5 2 49 σ = some (.int (σ 49 2)) := rfl
theorem pf_49_2 (x : Int32) (σ : jm_S) : jm_pf 5 2 49 x σ = some (jm_up σ 49 2 x) := by
  show (if jm_isZ 5 2 = true ∧ ¬ (x = 0 ∨ x = 1) then none else some (jm_up σ 49 2 x)) = _
  rw [if_neg (fun h => absurd h.1 (by decide +kernel))]
theorem fg_50_0 (σ : jm_S) : jm_gf 7 0 50 σ = some (.ref 51) := rfl
theorem fg_50_1 (σ : jm_S) : jm_gf 7 1 50 σ = some (.int (σ 50 1)) := rfl
theorem pf_50_1 (x : Int32) (σ : jm_S) : jm_pf 7 1 50 x σ = some (jm_up σ 50 1 x) := by
  show (if jm_isZ 7 1 = true ∧ ¬ (x = 0 ∨ x = 1) then none else some (jm_up σ 50 1 x)) = _
  rw [if_neg (fun h => absurd h.1 (by decide +kernel))]
theorem fg_50_2 (σ : jm_S) : jm_gf 7 2 50 σ = some (.int (σ 50 2)) := rfl
theorem pf_50_2 (x : Int32) (σ : jm_S) : jm_pf 7 2 50 x σ = some (jm_up σ 50 2 x) := by
  show (if jm_isZ 7 2 = true ∧ ¬ (x = 0 ∨ x = 1) then none else some (jm_up σ 50 2 x)) = _
  rw [if_neg (fun h => absurd h.1 (by decide +kernel))]
theorem fg_50_3 (σ : jm_S) : jm_gf 7 3 50 σ = some (.int (σ 50 3)) := rfl
theorem pf_50_3 (x : Int32) (σ : jm_S) : jm_pf 7 3 50 x σ = some (jm_up σ 50 3 x) := by
  show (if jm_isZ 7 3 = true ∧ ¬ (x = 0 ∨ x = 1) then none else some (jm_up σ 50 3 x)) = _
  rw [if_neg (fun h => absurd h.1 (by decide +kernel))]
theorem wi_51 : jm_wi 51 false = some 30 := rfl
theorem ia_51 (σ : jm_S) : jm_ia 51 σ = some (30, σ 51) := rfl
theorem ln_51 (σ : jm_S) : jm_len 51 σ = some 30 := rfl
theorem fg_52_0 (σ : jm_S) : jm_gf 5 0 52 σ = some (.int (σ 52 0)) := rfl
theorem pf_52_0 (x : Int32) (σ : jm_S) : jm_pf 5 0 52 x σ = some (jm_up σ 52 0 x) := by
  show (if jm_isZ 5 0 = true ∧ ¬ (x = 0 ∨ x = 1) then none else some (jm_up σ 52 0 x)) = _
  rw [if_neg (fun h => absurd h.1 (by decide +kernel))]
theorem fg_52_1 (σ : jm_S) : jm_gf 5 1 52 σ = some (.int (σ 52 1)) := rfl
theorem pf_52_1 (x : Int32) (σ : jm_S) : jm_pf 5 1 52 x σ = some (jm_up σ 52 1 x) := by
  show (if jm_isZ 5 1 = true ∧ ¬ (x = 0 ∨ x = 1) then none else some (jm_up σ 52 1 x)) = _
  rw [if_neg (fun h => absurd h.1 (by decide +kernel))]
theorem fg_52_2 (σ : jm_S) : jm_gf 5 2 52 σ = some (.int (σ 52 2)) := rfl
theorem pf_52_2 (x : Int32) (σ : jm_S) : jm_pf 5 2 52 x σ = some (jm_up σ 52 2 x) := by
  show (if jm_isZ 5 2 = true ∧ ¬ (x = 0 ∨ x = 1) then none else some (jm_up σ 52 2 x)) = _
  rw [if_neg (fun h => absurd h.1 (by decide +kernel))]
theorem fg_53_0 (σ : jm_S) : jm_gf 6 0 53 σ = some (.ref 54) := rfl
theorem fg_53_1 (σ : jm_S) : jm_gf 6 1 53 σ = some (.int (σ 53 1)) := rfl
theorem pf_53_1 (x : Int32) (σ : jm_S) : jm_pf 6 1 53 x σ = some (jm_up σ 53 1 x) := by
  show (if jm_isZ 6 1 = true ∧ ¬ (x = 0 ∨ x = 1) then none else some (jm_up σ 53 1 x)) = _
  rw [if_neg (fun h => absurd h.1 (by decide +kernel))]
theorem fg_53_2 (σ : jm_S) : jm_gf 6 2 53 σ = some (.int (σ 53 2)) := rfl
theorem pf_53_2 (x : Int32) (σ : jm_S) : jm_pf 6 2 53 x σ = some (jm_up σ 53 2 x) := by
  show (if jm_isZ 6 2 = true ∧ ¬ (x = 0 ∨ x = 1) then none else some (jm_up σ 53 2 x)) = _
  rw [if_neg (fun h => absurd h.1 (by decide +kernel))]
theorem wi_54 : jm_wi 54 false = some 60 := rfl
theorem ia_54 (σ : jm_S) : jm_ia 54 σ = some (60, σ 54) := rfl
theorem ln_54 (σ : jm_S) : jm_len 54 σ = some 60 := rfl
theorem fg_55_0 (σ : jm_S) : jm_gf 6 0 55 σ = some (.ref 56) := rfl
theorem fg_55_1 (σ : jm_S) : jm_gf 6 1 55 σ = some (.int (σ 55 1)) := rfl
theorem pf_55_1 (x : Int32) (σ : jm_S) : jm_pf 6 1 55 x σ = some (jm_up σ 55 1 x) := by
  show (if jm_isZ 6 1 = true ∧ ¬ (x = 0 ∨ x = 1) then none else some (jm_up σ 55 1 x)) = _
  rw [if_neg (fun h => absurd h.1 (by decide +kernel))]
theorem fg_55_2 (σ : jm_S) : jm_gf 6 2 55 σ = some (.int (σ 55 2)) := rfl
theorem pf_55_2 (x : Int32) (σ : jm_S) : jm_pf 6 2 55 x σ = some (jm_up σ 55 2 x) := by
  show (if jm_isZ 6 2 = true ∧ ¬ (x = 0 ∨ x = 1) then none else some (jm_up σ 55 2 x)) = _
  rw [if_neg (fun h => absurd h.1 (by decide +kernel))]
theorem wi_56 : jm_wi 56 false = some 60 := rfl
theorem ia_56 (σ : jm_S) : jm_ia 56 σ = some (60, σ 56) := rfl
theorem ln_56 (σ : jm_S) : jm_len 56 σ = some 60 := rfl
theorem fg_57_0 (σ : jm_S) : jm_gf 6 0 57 σ = some (.ref 58) := rfl
theorem fg_57_1 (σ : jm_S) : jm_gf 6 1 57 σ = some (.int (σ 57 1)) := rfl
theorem pf_57_1 (x : Int32) (σ : jm_S) : jm_pf 6 1 57 x σ = some (jm_up σ 57 1 x) := by
  show (if jm_isZ 6 1 = true ∧ ¬ (x = 0 ∨ x = 1) then none else some (jm_up σ 57 1 x)) = _
  rw [if_neg (fun h => absurd h.1 (by decide +kernel))]
theorem fg_57_2 (σ : jm_S) : jm_gf 6 2 57 σ = some (.int (σ 57 2)) := rfl
theorem pf_57_2 (x : Int32) (σ : jm_S) : jm_pf 6 2 57 x σ = some (jm_up σ 57 2 x) := by
  show (if jm_isZ 6 2 = true ∧ ¬ (x = 0 ∨ x = 1) then none else some (jm_up σ 57 2 x)) = _
  rw [if_neg (fun h => absurd h.1 (by decide +kernel))]
theorem wi_58 : jm_wi 58 false = some 60 := rfl
theorem ia_58 (σ : jm_S) : jm_ia 58 σ = some (60, σ 58) := rfl
theorem ln_58 (σ : jm_S) : jm_len 58 σ = some 60 := rfl
theorem fg_59_0 (σ : jm_S) : jm_gf 6 0 59 σ = some (.ref 60) := rfl
theorem fg_59_1 (σ : jm_S) : jm_gf 6 1 59 σ = some (.int (σ 59 1)) := rfl
theorem pf_59_1 (x : Int32) (σ : jm_S) : jm_pf 6 1 59 x σ = some (jm_up σ 59 1 x) := by
  show (if jm_isZ 6 1 = true ∧ ¬ (x = 0 ∨ x = 1) then none else some (jm_up σ 59 1 x)) = _
  rw [if_neg (fun h => absurd h.1 (by decide +kernel))]
theorem fg_59_2 (σ : jm_S) : jm_gf 6 2 59 σ = some (.int (σ 59 2)) := rfl
theorem pf_59_2 (x : Int32) (σ : jm_S) : jm_pf 6 2 59 x σ = some (jm_up σ 59 2 x) := by
  show (if jm_isZ 6 2 = true ∧ ¬ (x = 0 ∨ x = 1) then none else some (jm_up σ 59 2 x)) = _
  rw [if_neg (fun h => absurd h.1 (by decide +kernel))]
theorem wi_60 : jm_wi 60 false = some 60 := rfl
theorem ia_60 (σ : jm_S) : jm_ia 60 σ = some (60, σ 60) := rfl
theorem ln_60 (σ : jm_S) : jm_len 60 σ = some 60 := rfl
theorem fg_61_0 (σ : jm_S) : jm_gf 9 0 61 σ = some (.ref 62) := rfl
theorem fg_61_1 (σ : jm_S) : jm_gf 9 1 61 σ = some (.ref 63) := rfl
theorem fg_61_2 (σ : jm_S) : jm_gf 9 2 61 σ = some (.ref 64) := rfl
theorem fg_61_3 (σ : jm_S) : jm_gf 9 3 61 σ = some (.ref 65) := rfl
theorem fg_61_4 (σ : jm_S) : jm_gf 9 4 61 σ = some (.int (σ 61 4)) := rfl
theorem pf_61_4 (x : Int32) (σ : jm_S) : jm_pf 9 4 61 x σ = some (jm_up σ 61 4 x) := by
  show (if jm_isZ 9 4 = true ∧ ¬ (x = 0 ∨ x = 1) then none else some (jm_up σ 61 4 x)) = _
  rw [if_neg (fun h => absurd h.1 (by decide +kernel))]
theorem fg_61_5 (σ : jm_S) : jm_gf 9 5 61 σ = some (.int (σ 61 5)) := rfl
theorem pf_61_5 (x : Int32) (σ : jm_S) : jm_pf 9 5 61 x σ = some (jm_up σ 61 5 x) := by
  show (if jm_isZ 9 5 = true ∧ ¬ (x = 0 ∨ x = 1) then none else some (jm_up σ 61 5 x)) = _
  rw [if_neg (fun h => absurd h.1 (by decide +kernel))]
theorem fg_61_6 (σ : jm_S) : jm_gf 9 6 61 σ = some (.ref 66) := rfl
theorem fg_61_7 (σ : jm_S) : jm_gf 9 7 61 σ = some (.ref 67) := rfl
theorem fg_61_8 (σ : jm_S) : jm_gf 9 8 61 σ = some (.ref 68) := rfl
theorem fg_61_9 (σ : jm_S) : jm_gf 9 9 61 σ = some (.ref 69) := rfl
theorem fg_61_10 (σ : jm_S) : jm_gf 9 10 61 σ = some (.ref 70) := rfl
theorem fg_61_11 (σ : jm_S) : jm_gf 9 11 61 σ = some (.int (σ 61 11)) := rfl
theorem pf_61_11 (x : Int32) (σ : jm_S) : jm_pf 9 11 61 x σ = some (jm_up σ 61 11 x) := by
  show (if jm_isZ 9 11 = true ∧ ¬ (x = 0 ∨ x = 1) then none else some (jm_up σ 61 11 x)) = _
  rw [if_neg (fun h => absurd h.1 (by decide +kernel))]
theorem fg_61_12 (σ : jm_S) : jm_gf 9 12 61 σ = some (.ref 71) := rfl
theorem fg_61_13 (σ : jm_S) : jm_gf 9 13 61 σ = some (.ref 72) := rfl
theorem fg_61_14 (σ : jm_S) : jm_gf 9 14 61 σ = some (.ref 73) := rfl
theorem fg_61_15 (σ : jm_S) : jm_gf 9 15 61 σ = some (.int (σ 61 15)) := rfl
theorem pf_61_15 (x : Int32) (σ : jm_S) : jm_pf 9 15 61 x σ = some (jm_up σ 61 15 x) := by
  show (if jm_isZ 9 15 = true ∧ ¬ (x = 0 ∨ x = 1) then none else some (jm_up σ 61 15 x)) = _
  rw [if_neg (fun h => absurd h.1 (by decide +kernel))]
theorem fg_61_16 (σ : jm_S) : jm_gf 9 16 61 σ = some (.int (σ 61 16)) := rfl
theorem pf_61_16 (x : Int32) (σ : jm_S) (hx : x = 0 ∨ x = 1) : jm_pf 9 16 61 x σ = some (jm_up σ 61 16 x) := by
  show (if jm_isZ 9 16 = true ∧ ¬ (x = 0 ∨ x = 1) then none else some (jm_up σ 61 16 x)) = _
  rw [if_neg (fun h => h.2 hx)]
theorem pn_61_16 (x : Int32) (σ : jm_S) (hx : ¬ (x = 0 ∨ x = 1)) : jm_pf 9 16 61 x σ = none := by
  show (if jm_isZ 9 16 = true ∧ ¬ (x = 0 ∨ x = 1) then none else some (jm_up σ 61 16 x)) = _
  rw [if_pos ⟨by decide +kernel, hx⟩]
theorem fg_61_17 (σ : jm_S) : jm_gf 9 17 61 σ = some (.int (σ 61 17)) := rfl
theorem pf_61_17 (x : Int32) (σ : jm_S) : jm_pf 9 17 61 x σ = some (jm_up σ 61 17 x) := by
  show (if jm_isZ 9 17 = true ∧ ¬ (x = 0 ∨ x = 1) then none else some (jm_up σ 61 17 x)) = _
  rw [if_neg (fun h => absurd h.1 (by decide +kernel))]
theorem fg_61_18 (σ : jm_S) : jm_gf 9 18 61 σ = some (.ref 74) := rfl
theorem fg_61_19 (σ : jm_S) : jm_gf 9 19 61 σ = some (.ref 75) := rfl
theorem fg_61_20 (σ : jm_S) : jm_gf 9 20 61 σ = some (.int (σ 61 20)) := rfl
theorem pf_61_20 (x : Int32) (σ : jm_S) : jm_pf 9 20 61 x σ = some (jm_up σ 61 20 x) := by
  show (if jm_isZ 9 20 = true ∧ ¬ (x = 0 ∨ x = 1) then none else some (jm_up σ 61 20 x)) = _
  rw [if_neg (fun h => absurd h.1 (by decide +kernel))]
theorem fg_61_21 (σ : jm_S) : jm_gf 9 21 61 σ = some (.int (σ 61 21)) := rfl
theorem pf_61_21 (x : Int32) (σ : jm_S) : jm_pf 9 21 61 x σ = some (jm_up σ 61 21 x) := by
  show (if jm_isZ 9 21 = true ∧ ¬ (x = 0 ∨ x = 1) then none else some (jm_up σ 61 21 x)) = _
  rw [if_neg (fun h => absurd h.1 (by decide +kernel))]
theorem fg_61_22 (σ : jm_S) : jm_gf 9 22 61 σ = some (.int (σ 61 22)) := rfl
theorem pf_61_22 (x : Int32) (σ : jm_S) : jm_pf 9 22 61 x σ = some (jm_up σ 61 22 x) := by
  show (if jm_isZ 9 22 = true ∧ ¬ (x = 0 ∨ x = 1) then none else some (jm_up σ 61 22 x)) = _
  rw [if_neg (fun h => absurd h.1 (by decide +kernel))]
theorem fg_61_23 (σ : jm_S) : jm_gf 9 23 61 σ = some (.int (σ 61 23)) := rfl
theorem pf_61_23 (x : Int32) (σ : jm_S) : jm_pf 9 23 61 x σ = some (jm_up σ 61 23 x) := by
  show (if jm_isZ 9 23 = true ∧ ¬ (x = 0 ∨ x = 1) then none else some (jm_up σ 61 23 x)) = _
  rw [if_neg (fun h => absurd h.1 (by decide +kernel))]
theorem fg_61_24 (σ : jm_S) : jm_gf 9 24 61 σ = some (.int (σ 61 24)) := rfl
theorem pf_61_24 (x : Int32) (σ : jm_S) : jm_pf 9 24 61 x σ = some (jm_up σ 61 24 x) := by
  show (if jm_isZ 9 24 = true ∧ ¬ (x = 0 ∨ x = 1) then none else some (jm_up σ 61 24 x)) = _
  rw [if_neg (fun h => absurd h.1 (by decide +kernel))]
theorem fg_61_25 (σ : jm_S) : jm_gf 9 25 61 σ = some (.ref 76) := rfl
theorem fg_61_26 (σ : jm_S) : jm_gf 9 26 61 σ = some (.ref 77) := rfl
theorem fg_61_27 (σ : jm_S) : jm_gf 9 27 61 σ = some (.ref 78) := rfl
theorem fg_61_28 (σ : jm_S) : jm_gf 9 28 61 σ = some (.ref 79) := rfl
theorem fg_61_29 (σ : jm_S) : jm_gf 9 29 61 σ = some (.ref 80) := rfl
theorem fg_61_30 (σ : jm_S) : jm_gf 9 30 61 σ = some (.ref 81) := rfl
theorem fg_61_31 (σ : jm_S) : jm_gf 9 31 61 σ = some (.ref 82) := rfl
theorem fg_61_32 (σ : jm_S) : jm_gf 9 32 61 σ = some (.ref 83) := rfl
theorem fg_61_33 (σ : jm_S) : jm_gf 9 33 61 σ = some (.ref 84) := rfl
theorem fg_61_34 (σ : jm_S) : jm_gf 9 34 61 σ = some (.ref 85) := rfl
theorem fg_61_35 (σ : jm_S) : jm_gf 9 35 61 σ = some (.ref 86) := rfl
theorem fg_61_36 (σ : jm_S) : jm_gf 9 36 61 σ = some (.int (σ 61 36)) := rfl
theorem pf_61_36 (x : Int32) (σ : jm_S) : jm_pf 9 36 61 x σ = some (jm_up σ 61 36 x) := by
  show (if jm_isZ 9 36 = true ∧ ¬ (x = 0 ∨ x = 1) then none else some (jm_up σ 61 36 x)) = _
  rw [if_neg (fun h => absurd h.1 (by decide +kernel))]
theorem fg_61_37 (σ : jm_S) : jm_gf 9 37 61 σ = some (.ref 87) := rfl
theorem fg_61_38 (σ : jm_S) : jm_gf 9 38 61 σ = some (.ref 88) := rfl
theorem wi_62 : jm_wi 62 false = some 4 := rfl
theorem ia_62 (σ : jm_S) : jm_ia 62 σ = some (4, σ 62) := rfl
theorem ln_62 (σ : jm_S) : jm_len 62 σ = some 4 := rfl
theorem wi_63 : jm_wi 63 false = some 4 := rfl
theorem ia_63 (σ : jm_S) : jm_ia 63 σ = some (4, σ 63) := rfl
theorem ln_63 (σ : jm_S) : jm_len 63 σ = some 4 := rfl
theorem wi_64 : jm_wi 64 false = some 240 := rfl
theorem ia_64 (σ : jm_S) : jm_ia 64 σ = some (240, σ 64) := rfl
theorem ln_64 (σ : jm_S) : jm_len 64 σ = some 240 := rfl
theorem wi_65 : jm_wi 65 false = some 60 := rfl
theorem ia_65 (σ : jm_S) : jm_ia 65 σ = some (60, σ 65) := rfl
theorem ln_65 (σ : jm_S) : jm_len 65 σ = some 60 := rfl
theorem wi_66 : jm_wi 66 false = some 12 := rfl
theorem ia_66 (σ : jm_S) : jm_ia 66 σ = some (12, σ 66) := rfl
theorem ln_66 (σ : jm_S) : jm_len 66 σ = some 12 := rfl
theorem wi_67 : jm_wi 67 false = some 48 := rfl
theorem ia_67 (σ : jm_S) : jm_ia 67 σ = some (48, σ 67) := rfl
theorem ln_67 (σ : jm_S) : jm_len 67 σ = some 48 := rfl
theorem wi_68 : jm_wi 68 false = some 6 := rfl
theorem ia_68 (σ : jm_S) : jm_ia 68 σ = some (6, σ 68) := rfl
theorem ln_68 (σ : jm_S) : jm_len 68 σ = some 6 := rfl
theorem wi_69 : jm_wi 69 false = some 240 := rfl
theorem ia_69 (σ : jm_S) : jm_ia 69 σ = some (240, σ 69) := rfl
theorem ln_69 (σ : jm_S) : jm_len 69 σ = some 240 := rfl
theorem wi_70 : jm_wi 70 false = some 4 := rfl
theorem ia_70 (σ : jm_S) : jm_ia 70 σ = some (4, σ 70) := rfl
theorem ln_70 (σ : jm_S) : jm_len 70 σ = some 4 := rfl
theorem wi_71 : jm_wi 71 false = some 200 := rfl
theorem ia_71 (σ : jm_S) : jm_ia 71 σ = some (200, σ 71) := rfl
theorem ln_71 (σ : jm_S) : jm_len 71 σ = some 200 := rfl
theorem wi_72 : jm_wi 72 false = some 200 := rfl
theorem ia_72 (σ : jm_S) : jm_ia 72 σ = some (200, σ 72) := rfl
theorem ln_72 (σ : jm_S) : jm_len 72 σ = some 200 := rfl
theorem wi_73 : jm_wi 73 true = some 200 := rfl
theorem ln_73 (σ : jm_S) : jm_len 73 σ = some 200 := rfl
theorem wi_74 : jm_wi 74 false = some 11 := rfl
theorem ia_74 (σ : jm_S) : jm_ia 74 σ = some (11, σ 74) := rfl
theorem ln_74 (σ : jm_S) : jm_len 74 σ = some 11 := rfl
theorem wi_75 : jm_wi 75 false = some 11 := rfl
theorem ia_75 (σ : jm_S) : jm_ia 75 σ = some (11, σ 75) := rfl
theorem ln_75 (σ : jm_S) : jm_len 75 σ = some 11 := rfl
theorem wi_76 : jm_wi 76 false = some 12 := rfl
theorem ia_76 (σ : jm_S) : jm_ia 76 σ = some (12, σ 76) := rfl
theorem ln_76 (σ : jm_S) : jm_len 76 σ = some 12 := rfl
theorem wi_77 : jm_wi 77 false = some 12 := rfl
theorem ia_77 (σ : jm_S) : jm_ia 77 σ = some (12, σ 77) := rfl
theorem ln_77 (σ : jm_S) : jm_len 77 σ = some 12 := rfl
theorem wi_78 : jm_wi 78 false = some 12 := rfl
theorem ia_78 (σ : jm_S) : jm_ia 78 σ = some (12, σ 78) := rfl
theorem ln_78 (σ : jm_S) : jm_len 78 σ = some 12 := rfl
theorem wi_79 : jm_wi 79 false = some 12 := rfl
theorem ia_79 (σ : jm_S) : jm_ia 79 σ = some (12, σ 79) := rfl
theorem ln_79 (σ : jm_S) : jm_len 79 σ = some 12 := rfl
theorem wi_80 : jm_wi 80 false = some 12 := rfl
theorem ia_80 (σ : jm_S) : jm_ia 80 σ = some (12, σ 80) := rfl
theorem ln_80 (σ : jm_S) : jm_len 80 σ = some 12 := rfl
theorem wi_81 : jm_wi 81 false = some 12 := rfl
theorem ia_81 (σ : jm_S) : jm_ia 81 σ = some (12, σ 81) := rfl
theorem ln_81 (σ : jm_S) : jm_len 81 σ = some 12 := rfl
theorem wi_82 : jm_wi 82 false = some 48 := rfl
theorem ia_82 (σ : jm_S) : jm_ia 82 σ = some (48, σ 82) := rfl
theorem ln_82 (σ : jm_S) : jm_len 82 σ = some 48 := rfl
theorem wi_83 : jm_wi 83 false = some 4 := rfl
theorem ia_83 (σ : jm_S) : jm_ia 83 σ = some (4, σ 83) := rfl
theorem ln_83 (σ : jm_S) : jm_len 83 σ = some 4 := rfl
theorem wi_84 : jm_wi 84 false = some 200 := rfl
theorem ia_84 (σ : jm_S) : jm_ia 84 σ = some (200, σ 84) := rfl
theorem ln_84 (σ : jm_S) : jm_len 84 σ = some 200 := rfl
theorem wi_85 : jm_wi 85 false = some 100 := rfl
theorem ia_85 (σ : jm_S) : jm_ia 85 σ = some (100, σ 85) := rfl
theorem ln_85 (σ : jm_S) : jm_len 85 σ = some 100 := rfl
theorem wi_86 : jm_wi 86 false = some 100 := rfl
theorem ia_86 (σ : jm_S) : jm_ia 86 σ = some (100, σ 86) := rfl
theorem ln_86 (σ : jm_S) : jm_len 86 σ = some 100 := rfl
theorem wi_87 : jm_wi 87 false = some 12 := rfl
theorem ia_87 (σ : jm_S) : jm_ia 87 σ = some (12, σ 87) := rfl
theorem ln_87 (σ : jm_S) : jm_len 87 σ = some 12 := rfl
theorem wi_88 : jm_wi 88 false = some 12 := rfl
theorem ia_88 (σ : jm_S) : jm_ia 88 σ = some (12, σ 88) := rfl
theorem ln_88 (σ : jm_S) : jm_len 88 σ = some 12 := rfl
theorem ia_1000 (σ : jm_S) : jm_ia 1000 σ = some (4, fun j => ([0, 1, 1, 0] : List Int32).getD j 0) := rfl
theorem ia_1001 (σ : jm_S) : jm_ia 1001 σ = some (4, fun j => ([99, 20, 9, 9] : List Int32).getD j 0) := rfl
theorem ia_1002 (σ : jm_S) : jm_ia 1002 σ = some (6, fun j => ([0, 5, 1, 0, 0, 0] : List Int32).getD j 0) := rfl
theorem ia_1003 (σ : jm_S) : jm_ia 1003 σ = some (6, fun j => ([99, 15, 99, 99, 99, 99] : List Int32).getD j 0) := rfl
theorem ia_1005 (σ : jm_S) : jm_ia 1005 σ = some ((σ 1006 0).toNatClampNeg, σ 1005) := rfl
theorem ln_1005 (σ : jm_S) : jm_len 1005 σ = some ((σ 1006 0).toNatClampNeg) := rfl
theorem lf_0_9 : jm_lk2 jm_fl 0 9 = some (0, 0, 153) := by decide +kernel
theorem lf_0_15 : jm_lk2 jm_fl 0 15 = some (0, 1, 154) := by decide +kernel
theorem lf_0_18 : jm_lk2 jm_fl 0 18 = some (0, 2, 155) := by decide +kernel
theorem lf_0_21 : jm_lk2 jm_fl 0 21 = some (0, 3, 156) := by decide +kernel
theorem lf_0_24 : jm_lk2 jm_fl 0 24 = some (0, 4, 157) := by decide +kernel
theorem lf_0_27 : jm_lk2 jm_fl 0 27 = some (0, 5, 158) := by decide +kernel
theorem lf_0_30 : jm_lk2 jm_fl 0 30 = some (0, 6, 159) := by decide +kernel
theorem lf_0_33 : jm_lk2 jm_fl 0 33 = some (0, 7, 160) := by decide +kernel
theorem lf_0_36 : jm_lk2 jm_fl 0 36 = some (0, 8, 161) := by decide +kernel
theorem lf_0_39 : jm_lk2 jm_fl 0 39 = some (0, 9, 162) := by decide +kernel
theorem lf_0_42 : jm_lk2 jm_fl 0 42 = some (0, 10, 163) := by decide +kernel
theorem lf_0_45 : jm_lk2 jm_fl 0 45 = some (0, 11, 164) := by decide +kernel
theorem lf_0_49 : jm_lk2 jm_fl 0 49 = some (0, 12, 165) := by decide +kernel
theorem lf_0_52 : jm_lk2 jm_fl 0 52 = some (0, 13, 166) := by decide +kernel
theorem lf_0_55 : jm_lk2 jm_fl 0 55 = some (0, 14, 167) := by decide +kernel
theorem lf_0_58 : jm_lk2 jm_fl 0 58 = some (0, 15, 169) := by decide +kernel
theorem lf_0_61 : jm_lk2 jm_fl 0 61 = some (0, 16, 170) := by decide +kernel
theorem lf_0_65 : jm_lk2 jm_fl 0 65 = some (2, 2, 97) := by decide +kernel
theorem lf_0_78 : jm_lk2 jm_fl 0 78 = some (2, 0, 94) := by decide +kernel
theorem lf_0_91 : jm_lk2 jm_fl 0 91 = some (4, 0, 125) := by decide +kernel
theorem lf_0_96 : jm_lk2 jm_fl 0 96 = some (4, 1, 128) := by decide +kernel
theorem lf_0_99 : jm_lk2 jm_fl 0 99 = some (4, 2, 131) := by decide +kernel
theorem lf_1_9 : jm_lk2 jm_fl 1 9 = some (1, 0, 212) := by decide +kernel
theorem lf_1_15 : jm_lk2 jm_fl 1 15 = some (1, 1, 214) := by decide +kernel
theorem lf_2_9 : jm_lk2 jm_fl 2 9 = some (2, 0, 93) := by decide +kernel
theorem lf_2_15 : jm_lk2 jm_fl 2 15 = some (2, 1, 95) := by decide +kernel
theorem lf_2_18 : jm_lk2 jm_fl 2 18 = some (2, 2, 96) := by decide +kernel
theorem lf_3_9 : jm_lk2 jm_fl 3 9 = some (3, 0, 227) := by decide +kernel
theorem lf_3_15 : jm_lk2 jm_fl 3 15 = some (3, 1, 228) := by decide +kernel
theorem lf_3_18 : jm_lk2 jm_fl 3 18 = some (3, 2, 229) := by decide +kernel
theorem lf_3_22 : jm_lk2 jm_fl 3 22 = some (3, 3, 231) := by decide +kernel
theorem lf_3_25 : jm_lk2 jm_fl 3 25 = some (3, 4, 232) := by decide +kernel
theorem lf_3_28 : jm_lk2 jm_fl 3 28 = some (3, 5, 233) := by decide +kernel
theorem lf_3_31 : jm_lk2 jm_fl 3 31 = some (3, 6, 234) := by decide +kernel
theorem lf_3_34 : jm_lk2 jm_fl 3 34 = some (3, 7, 235) := by decide +kernel
theorem lf_4_9 : jm_lk2 jm_fl 4 9 = some (4, 0, 124) := by decide +kernel
theorem lf_4_15 : jm_lk2 jm_fl 4 15 = some (4, 1, 127) := by decide +kernel
theorem lf_4_18 : jm_lk2 jm_fl 4 18 = some (4, 2, 130) := by decide +kernel
theorem lf_4_22 : jm_lk2 jm_fl 4 22 = some (4, 3, 133) := by decide +kernel
theorem lf_4_34 : jm_lk2 jm_fl 4 34 = some (7, 1, 262) := by decide +kernel
theorem lf_4_45 : jm_lk2 jm_fl 4 45 = some (7, 3, 269) := by decide +kernel
theorem lf_4_73 : jm_lk2 jm_fl 4 73 = some (7, 2, 267) := by decide +kernel
theorem lf_5_11 : jm_lk2 jm_fl 5 11 = some (5, 0, 285) := by decide +kernel
theorem lf_5_15 : jm_lk2 jm_fl 5 15 = some (5, 1, 286) := by decide +kernel
theorem lf_5_18 : jm_lk2 jm_fl 5 18 = some (5, 2, 287) := by decide +kernel
theorem lf_5_26 : jm_lk2 jm_fl 5 26 = some (7, 1, 263) := by decide +kernel
theorem lf_5_50 : jm_lk2 jm_fl 5 50 = some (7, 2, 266) := by decide +kernel
theorem lf_6_9 : jm_lk2 jm_fl 6 9 = some (6, 0, 300) := by decide +kernel
theorem lf_6_15 : jm_lk2 jm_fl 6 15 = some (6, 1, 302) := by decide +kernel
theorem lf_6_19 : jm_lk2 jm_fl 6 19 = some (6, 2, 304) := by decide +kernel
theorem lf_7_9 : jm_lk2 jm_fl 7 9 = some (7, 1, 261) := by decide +kernel
theorem lf_7_15 : jm_lk2 jm_fl 7 15 = some (7, 2, 265) := by decide +kernel
theorem lf_7_18 : jm_lk2 jm_fl 7 18 = some (7, 3, 268) := by decide +kernel
theorem lf_7_21 : jm_lk2 jm_fl 7 21 = some (7, 0, 260) := by decide +kernel
theorem lf_8_10 : jm_lk2 jm_fl 8 10 = some (8, 0, 313) := by decide +kernel
theorem lf_8_25 : jm_lk2 jm_fl 8 25 = some (8, 1, 314) := by decide +kernel
theorem lf_8_30 : jm_lk2 jm_fl 8 30 = some (8, 2, 315) := by decide +kernel
theorem lf_8_37 : jm_lk2 jm_fl 8 37 = some (8, 3, 316) := by decide +kernel
theorem lf_8_43 : jm_lk2 jm_fl 8 43 = some (8, 4, 317) := by decide +kernel
theorem lf_8_50 : jm_lk2 jm_fl 8 50 = some (8, 5, 318) := by decide +kernel
theorem lf_8_54 : jm_lk2 jm_fl 8 54 = some (8, 6, 319) := by decide +kernel
theorem lf_8_60 : jm_lk2 jm_fl 8 60 = some (8, 7, 320) := by decide +kernel
theorem lf_8_67 : jm_lk2 jm_fl 8 67 = some (8, 8, 321) := by decide +kernel
theorem lf_8_73 : jm_lk2 jm_fl 8 73 = some (8, 9, 322) := by decide +kernel
theorem lf_8_77 : jm_lk2 jm_fl 8 77 = some (8, 10, 323) := by decide +kernel
theorem lf_8_109 : jm_lk2 jm_fl 8 109 = some (6, 2, 305) := by decide +kernel
theorem lf_8_112 : jm_lk2 jm_fl 8 112 = some (6, 0, 301) := by decide +kernel
theorem lf_8_131 : jm_lk2 jm_fl 8 131 = some (2, 2, 98) := by decide +kernel
theorem lf_8_134 : jm_lk2 jm_fl 8 134 = some (3, 2, 230) := by decide +kernel
theorem lf_8_147 : jm_lk2 jm_fl 8 147 = some (7, 1, 264) := by decide +kernel
theorem lf_8_148 : jm_lk2 jm_fl 8 148 = some (7, 3, 270) := by decide +kernel
theorem lf_8_151 : jm_lk2 jm_fl 8 151 = some (4, 0, 126) := by decide +kernel
theorem lf_8_154 : jm_lk2 jm_fl 8 154 = some (4, 1, 129) := by decide +kernel
theorem lf_8_157 : jm_lk2 jm_fl 8 157 = some (4, 2, 132) := by decide +kernel
theorem lf_8_209 : jm_lk2 jm_fl 8 209 = some (0, 14, 168) := by decide +kernel
theorem lf_8_281 : jm_lk2 jm_fl 8 281 = some (6, 1, 303) := by decide +kernel
theorem lf_8_302 : jm_lk2 jm_fl 8 302 = some (4, 3, 134) := by decide +kernel
theorem lf_8_350 : jm_lk2 jm_fl 8 350 = some (1, 0, 213) := by decide +kernel
theorem lf_8_353 : jm_lk2 jm_fl 8 353 = some (1, 1, 215) := by decide +kernel
theorem lf_9_7 : jm_lk2 jm_fl 9 7 = some (9, 0, 867) := by decide +kernel
theorem lf_9_13 : jm_lk2 jm_fl 9 13 = some (9, 1, 868) := by decide +kernel
theorem lf_9_16 : jm_lk2 jm_fl 9 16 = some (9, 2, 869) := by decide +kernel
theorem lf_9_19 : jm_lk2 jm_fl 9 19 = some (9, 3, 870) := by decide +kernel
theorem lf_9_22 : jm_lk2 jm_fl 9 22 = some (9, 6, 873) := by decide +kernel
theorem lf_9_25 : jm_lk2 jm_fl 9 25 = some (9, 7, 874) := by decide +kernel
theorem lf_9_28 : jm_lk2 jm_fl 9 28 = some (9, 8, 875) := by decide +kernel
theorem lf_9_31 : jm_lk2 jm_fl 9 31 = some (9, 9, 876) := by decide +kernel
theorem lf_9_34 : jm_lk2 jm_fl 9 34 = some (9, 10, 877) := by decide +kernel
theorem lf_9_37 : jm_lk2 jm_fl 9 37 = some (9, 12, 879) := by decide +kernel
theorem lf_9_40 : jm_lk2 jm_fl 9 40 = some (9, 13, 880) := by decide +kernel
theorem lf_9_43 : jm_lk2 jm_fl 9 43 = some (9, 14, 881) := by decide +kernel
theorem lf_9_47 : jm_lk2 jm_fl 9 47 = some (9, 18, 885) := by decide +kernel
theorem lf_9_50 : jm_lk2 jm_fl 9 50 = some (9, 19, 886) := by decide +kernel
theorem lf_9_53 : jm_lk2 jm_fl 9 53 = some (9, 25, 892) := by decide +kernel
theorem lf_9_56 : jm_lk2 jm_fl 9 56 = some (9, 26, 893) := by decide +kernel
theorem lf_9_59 : jm_lk2 jm_fl 9 59 = some (9, 27, 894) := by decide +kernel
theorem lf_9_62 : jm_lk2 jm_fl 9 62 = some (9, 28, 895) := by decide +kernel
theorem lf_9_65 : jm_lk2 jm_fl 9 65 = some (9, 29, 896) := by decide +kernel
theorem lf_9_68 : jm_lk2 jm_fl 9 68 = some (9, 30, 897) := by decide +kernel
theorem lf_9_71 : jm_lk2 jm_fl 9 71 = some (9, 31, 898) := by decide +kernel
theorem lf_9_74 : jm_lk2 jm_fl 9 74 = some (9, 32, 899) := by decide +kernel
theorem lf_9_77 : jm_lk2 jm_fl 9 77 = some (9, 33, 900) := by decide +kernel
theorem lf_9_80 : jm_lk2 jm_fl 9 80 = some (9, 34, 901) := by decide +kernel
theorem lf_9_83 : jm_lk2 jm_fl 9 83 = some (9, 35, 902) := by decide +kernel
theorem lf_9_86 : jm_lk2 jm_fl 9 86 = some (9, 37, 904) := by decide +kernel
theorem lf_9_89 : jm_lk2 jm_fl 9 89 = some (9, 38, 905) := by decide +kernel
theorem lf_9_99 : jm_lk2 jm_fl 9 99 = some (9, 4, 871) := by decide +kernel
theorem lf_9_124 : jm_lk2 jm_fl 9 124 = some (9, 5, 872) := by decide +kernel
theorem lf_9_147 : jm_lk2 jm_fl 9 147 = some (9, 36, 903) := by decide +kernel
theorem lf_9_159 : jm_lk2 jm_fl 9 159 = some (9, 11, 878) := by decide +kernel
theorem lf_9_169 : jm_lk2 jm_fl 9 169 = some (9, 15, 882) := by decide +kernel
theorem lf_9_172 : jm_lk2 jm_fl 9 172 = some (9, 16, 883) := by decide +kernel
theorem lf_9_191 : jm_lk2 jm_fl 9 191 = some (9, 17, 884) := by decide +kernel
theorem lf_9_206 : jm_lk2 jm_fl 9 206 = some (9, 20, 887) := by decide +kernel
theorem lf_9_209 : jm_lk2 jm_fl 9 209 = some (9, 21, 888) := by decide +kernel
theorem lf_9_212 : jm_lk2 jm_fl 9 212 = some (9, 22, 889) := by decide +kernel
theorem lf_9_215 : jm_lk2 jm_fl 9 215 = some (9, 23, 890) := by decide +kernel
theorem lf_9_218 : jm_lk2 jm_fl 9 218 = some (9, 24, 891) := by decide +kernel
theorem lm_0_68 : jm_lk2 jm_ml 0 68 = some (21, 519) := by decide +kernel
theorem lm_0_74 : jm_lk2 jm_ml 0 74 = some (12, 520) := by decide +kernel
theorem lm_0_81 : jm_lk2 jm_ml 0 81 = some (39, 521) := by decide +kernel
theorem lm_0_85 : jm_lk2 jm_ml 0 85 = some (1000, 541) := by decide +kernel
theorem lm_0_103 : jm_lk2 jm_ml 0 103 = some (41, 529) := by decide +kernel
theorem lm_0_107 : jm_lk2 jm_ml 0 107 = some (42, 533) := by decide +kernel
theorem lm_0_110 : jm_lk2 jm_ml 0 110 = some (43, 537) := by decide +kernel
theorem lm_0_114 : jm_lk2 jm_ml 0 114 = some (44, 544) := by decide +kernel
theorem lm_0_118 : jm_lk2 jm_ml 0 118 = some (45, 548) := by decide +kernel
theorem lm_0_121 : jm_lk2 jm_ml 0 121 = some (1001, 552) := by decide +kernel
theorem lm_0_126 : jm_lk2 jm_ml 0 126 = some (46, 555) := by decide +kernel
theorem lm_0_129 : jm_lk2 jm_ml 0 129 = some (52, 579) := by decide +kernel
theorem lm_0_133 : jm_lk2 jm_ml 0 133 = some (51, 606) := by decide +kernel
theorem lm_0_137 : jm_lk2 jm_ml 0 137 = some (58, 607) := by decide +kernel
theorem lm_1_18 : jm_lk2 jm_ml 1 18 = some (68, 648) := by decide +kernel
theorem lm_1_22 : jm_lk2 jm_ml 1 22 = some (72, 664) := by decide +kernel
theorem lm_1_26 : jm_lk2 jm_ml 1 26 = some (71, 660) := by decide +kernel
theorem lm_2_22 : jm_lk2 jm_ml 2 22 = some (6, 372) := by decide +kernel
theorem lm_2_26 : jm_lk2 jm_ml 2 26 = some (12, 841) := by decide +kernel
theorem lm_3_37 : jm_lk2 jm_ml 3 37 = some (100, 778) := by decide +kernel
theorem lm_3_41 : jm_lk2 jm_ml 3 41 = some (47, 782) := by decide +kernel
theorem lm_3_47 : jm_lk2 jm_ml 3 47 = some (1003, 783) := by decide +kernel
theorem lm_4_26 : jm_lk2 jm_ml 4 26 = some (20, 433) := by decide +kernel
theorem lm_4_29 : jm_lk2 jm_ml 4 29 = some (23, 444) := by decide +kernel
theorem lm_4_37 : jm_lk2 jm_ml 4 37 = some (24, 448) := by decide +kernel
theorem lm_4_41 : jm_lk2 jm_ml 4 41 = some (30, 474) := by decide +kernel
theorem lm_4_48 : jm_lk2 jm_ml 4 48 = some (21, 437) := by decide +kernel
theorem lm_4_54 : jm_lk2 jm_ml 4 54 = some (22, 440) := by decide +kernel
theorem lm_4_58 : jm_lk2 jm_ml 4 58 = some (25, 452) := by decide +kernel
theorem lm_4_61 : jm_lk2 jm_ml 4 61 = some (26, 456) := by decide +kernel
theorem lm_4_65 : jm_lk2 jm_ml 4 65 = some (28, 464) := by decide +kernel
theorem lm_4_69 : jm_lk2 jm_ml 4 69 = some (29, 469) := by decide +kernel
theorem lm_4_76 : jm_lk2 jm_ml 4 76 = some (27, 473) := by decide +kernel
theorem lm_5_21 : jm_lk2 jm_ml 5 21 = some (23, 483) := by decide +kernel
theorem lm_5_29 : jm_lk2 jm_ml 5 29 = some (32, 484) := by decide +kernel
theorem lm_5_33 : jm_lk2 jm_ml 5 33 = some (30, 494) := by decide +kernel
theorem lm_5_37 : jm_lk2 jm_ml 5 37 = some (25, 488) := by decide +kernel
theorem lm_5_40 : jm_lk2 jm_ml 5 40 = some (26, 489) := by decide +kernel
theorem lm_5_44 : jm_lk2 jm_ml 5 44 = some (1002, 490) := by decide +kernel
theorem lm_5_53 : jm_lk2 jm_ml 5 53 = some (27, 493) := by decide +kernel
theorem lm_5_57 : jm_lk2 jm_ml 5 57 = some (53, 601) := by decide +kernel
theorem lm_6_22 : jm_lk2 jm_ml 6 22 = some (21, 796) := by decide +kernel
theorem lm_6_28 : jm_lk2 jm_ml 6 28 = some (8, 809) := by decide +kernel
theorem lm_7_25 : jm_lk2 jm_ml 7 25 = some (25, 468) := by decide +kernel
theorem lm_7_29 : jm_lk2 jm_ml 7 29 = some (27, 460) := by decide +kernel
theorem lm_7_33 : jm_lk2 jm_ml 7 33 = some (28, 478) := by decide +kernel
theorem lm_8_86 : jm_lk2 jm_ml 8 86 = some (1, 351) := by decide +kernel
theorem lm_8_90 : jm_lk2 jm_ml 8 90 = some (2, 354) := by decide +kernel
theorem lm_8_94 : jm_lk2 jm_ml 8 94 = some (4, 364) := by decide +kernel
theorem lm_8_98 : jm_lk2 jm_ml 8 98 = some (5, 368) := by decide +kernel
theorem lm_8_102 : jm_lk2 jm_ml 8 102 = some (8, 380) := by decide +kernel
theorem lm_8_105 : jm_lk2 jm_ml 8 105 = some (9, 384) := by decide +kernel
theorem lm_8_115 : jm_lk2 jm_ml 8 115 = some (11, 392) := by decide +kernel
theorem lm_8_119 : jm_lk2 jm_ml 8 119 = some (3, 357) := by decide +kernel
theorem lm_8_123 : jm_lk2 jm_ml 8 123 = some (12, 396) := by decide +kernel
theorem lm_8_127 : jm_lk2 jm_ml 8 127 = some (6, 400) := by decide +kernel
theorem lm_8_141 : jm_lk2 jm_ml 8 141 = some (16, 417) := by decide +kernel
theorem lm_8_142 : jm_lk2 jm_ml 8 142 = some (17, 421) := by decide +kernel
theorem lm_8_144 : jm_lk2 jm_ml 8 144 = some (18, 425) := by decide +kernel
theorem lm_8_161 : jm_lk2 jm_ml 8 161 = some (37, 511) := by decide +kernel
theorem lm_8_164 : jm_lk2 jm_ml 8 164 = some (40, 525) := by decide +kernel
theorem lm_8_168 : jm_lk2 jm_ml 8 168 = some (47, 559) := by decide +kernel
theorem lm_8_171 : jm_lk2 jm_ml 8 171 = some (49, 567) := by decide +kernel
theorem lm_8_174 : jm_lk2 jm_ml 8 174 = some (51, 575) := by decide +kernel
theorem lm_8_177 : jm_lk2 jm_ml 8 177 = some (53, 583) := by decide +kernel
theorem lm_8_181 : jm_lk2 jm_ml 8 181 = some (55, 592) := by decide +kernel
theorem lm_8_184 : jm_lk2 jm_ml 8 184 = some (63, 628) := by decide +kernel
theorem lm_8_188 : jm_lk2 jm_ml 8 188 = some (65, 636) := by decide +kernel
theorem lm_8_191 : jm_lk2 jm_ml 8 191 = some (67, 644) := by decide +kernel
theorem lm_8_193 : jm_lk2 jm_ml 8 193 = some (70, 656) := by decide +kernel
theorem lm_8_196 : jm_lk2 jm_ml 8 196 = some (73, 668) := by decide +kernel
theorem lm_8_199 : jm_lk2 jm_ml 8 199 = some (38, 515) := by decide +kernel
theorem lm_8_203 : jm_lk2 jm_ml 8 203 = some (50, 571) := by decide +kernel
theorem lm_8_206 : jm_lk2 jm_ml 8 206 = some (59, 611) := by decide +kernel
theorem lm_8_212 : jm_lk2 jm_ml 8 212 = some (76, 680) := by decide +kernel
theorem lm_8_216 : jm_lk2 jm_ml 8 216 = some (41, 684) := by decide +kernel
theorem lm_8_220 : jm_lk2 jm_ml 8 220 = some (78, 689) := by decide +kernel
theorem lm_8_230 : jm_lk2 jm_ml 8 230 = some (80, 697) := by decide +kernel
theorem lm_8_234 : jm_lk2 jm_ml 8 234 = some (81, 701) := by decide +kernel
theorem lm_8_237 : jm_lk2 jm_ml 8 237 = some (83, 709) := by decide +kernel
theorem lm_8_240 : jm_lk2 jm_ml 8 240 = some (84, 712) := by decide +kernel
theorem lm_8_243 : jm_lk2 jm_ml 8 243 = some (87, 726) := by decide +kernel
theorem lm_8_248 : jm_lk2 jm_ml 8 248 = some (88, 730) := by decide +kernel
theorem lm_8_252 : jm_lk2 jm_ml 8 252 = some (89, 733) := by decide +kernel
theorem lm_8_256 : jm_lk2 jm_ml 8 256 = some (90, 736) := by decide +kernel
theorem lm_8_260 : jm_lk2 jm_ml 8 260 = some (1004, 739) := by decide +kernel
theorem lm_8_265 : jm_lk2 jm_ml 8 265 = some (92, 746) := by decide +kernel
theorem lm_8_271 : jm_lk2 jm_ml 8 271 = some (94, 754) := by decide +kernel
theorem lm_8_272 : jm_lk2 jm_ml 8 272 = some (95, 758) := by decide +kernel
theorem lm_8_274 : jm_lk2 jm_ml 8 274 = some (97, 766) := by decide +kernel
theorem lm_8_277 : jm_lk2 jm_ml 8 277 = some (101, 784) := by decide +kernel
theorem lm_8_278 : jm_lk2 jm_ml 8 278 = some (103, 792) := by decide +kernel
theorem lm_8_284 : jm_lk2 jm_ml 8 284 = some (106, 805) := by decide +kernel
theorem lm_8_287 : jm_lk2 jm_ml 8 287 = some (107, 810) := by decide +kernel
theorem lm_8_290 : jm_lk2 jm_ml 8 290 = some (110, 823) := by decide +kernel
theorem lm_8_293 : jm_lk2 jm_ml 8 293 = some (1000, 827) := by decide +kernel
theorem lm_8_299 : jm_lk2 jm_ml 8 299 = some (1002, 832) := by decide +kernel
theorem lm_8_305 : jm_lk2 jm_ml 8 305 = some (113, 837) := by decide +kernel
theorem lm_8_312 : jm_lk2 jm_ml 8 312 = some (112, 848) := by decide +kernel
theorem lm_8_315 : jm_lk2 jm_ml 8 315 = some (115, 849) := by decide +kernel
theorem lm_8_319 : jm_lk2 jm_ml 8 319 = some (116, 853) := by decide +kernel
theorem lm_8_323 : jm_lk2 jm_ml 8 323 = some (117, 857) := by decide +kernel
theorem lm_8_326 : jm_lk2 jm_ml 8 326 = some (19, 429) := by decide +kernel
theorem lm_8_330 : jm_lk2 jm_ml 8 330 = some (31, 479) := by decide +kernel
theorem lm_8_331 : jm_lk2 jm_ml 8 331 = some (57, 602) := by decide +kernel
theorem lm_8_334 : jm_lk2 jm_ml 8 334 = some (58, 615) := by decide +kernel
theorem lm_8_337 : jm_lk2 jm_ml 8 337 = some (56, 597) := by decide +kernel
theorem lm_8_341 : jm_lk2 jm_ml 8 341 = some (60, 616) := by decide +kernel
theorem lm_8_344 : jm_lk2 jm_ml 8 344 = some (61, 620) := by decide +kernel
theorem lm_8_347 : jm_lk2 jm_ml 8 347 = some (66, 640) := by decide +kernel
theorem lm_8_356 : jm_lk2 jm_ml 8 356 = some (98, 770) := by decide +kernel
theorem lm_8_359 : jm_lk2 jm_ml 8 359 = some (99, 774) := by decide +kernel
theorem lm_8_363 : jm_lk2 jm_ml 8 363 = some (1003, 715) := by decide +kernel
theorem lm_9_95 : jm_lk2 jm_ml 9 95 = some (120, 993) := by decide +kernel
theorem lm_9_105 : jm_lk2 jm_ml 9 105 = some (119, 989) := by decide +kernel
theorem lm_9_111 : jm_lk2 jm_ml 9 111 = some (121, 997) := by decide +kernel
theorem lm_9_115 : jm_lk2 jm_ml 9 115 = some (124, 1009) := by decide +kernel
theorem lm_9_119 : jm_lk2 jm_ml 9 119 = some (125, 1013) := by decide +kernel
theorem lm_9_133 : jm_lk2 jm_ml 9 133 = some (129, 1029) := by decide +kernel
theorem lm_9_136 : jm_lk2 jm_ml 9 136 = some (130, 1032) := by decide +kernel
theorem lm_9_140 : jm_lk2 jm_ml 9 140 = some (128, 1042) := by decide +kernel
theorem lm_9_144 : jm_lk2 jm_ml 9 144 = some (133, 1047) := by decide +kernel
theorem lm_9_154 : jm_lk2 jm_ml 9 154 = some (137, 1065) := by decide +kernel
theorem lm_9_162 : jm_lk2 jm_ml 9 162 = some (144, 1093) := by decide +kernel
theorem lm_9_176 : jm_lk2 jm_ml 9 176 = some (145, 1097) := by decide +kernel
theorem lm_9_180 : jm_lk2 jm_ml 9 180 = some (146, 1101) := by decide +kernel
theorem lm_9_184 : jm_lk2 jm_ml 9 184 = some (142, 1085) := by decide +kernel
theorem lm_9_187 : jm_lk2 jm_ml 9 187 = some (143, 1089) := by decide +kernel
theorem lm_9_194 : jm_lk2 jm_ml 9 194 = some (141, 1081) := by decide +kernel
theorem lm_9_198 : jm_lk2 jm_ml 9 198 = some (147, 1107) := by decide +kernel
theorem lm_9_201 : jm_lk2 jm_ml 9 201 = some (140, 1077) := by decide +kernel
theorem lm_9_221 : jm_lk2 jm_ml 9 221 = some (153, 1133) := by decide +kernel
theorem lm_9_224 : jm_lk2 jm_ml 9 224 = some (158, 1153) := by decide +kernel
theorem lm_9_227 : jm_lk2 jm_ml 9 227 = some (155, 1141) := by decide +kernel
theorem lm_9_230 : jm_lk2 jm_ml 9 230 = some (156, 1145) := by decide +kernel
theorem lm_9_234 : jm_lk2 jm_ml 9 234 = some (157, 1149) := by decide +kernel
theorem lm_9_237 : jm_lk2 jm_ml 9 237 = some (159, 1157) := by decide +kernel
theorem lm_9_240 : jm_lk2 jm_ml 9 240 = some (152, 1129) := by decide +kernel
theorem lm_9_243 : jm_lk2 jm_ml 9 243 = some (154, 1137) := by decide +kernel
theorem lm_9_248 : jm_lk2 jm_ml 9 248 = some (150, 1121) := by decide +kernel
theorem lm_9_251 : jm_lk2 jm_ml 9 251 = some (151, 1125) := by decide +kernel
theorem lm_9_254 : jm_lk2 jm_ml 9 254 = some (160, 1161) := by decide +kernel
theorem lm_9_257 : jm_lk2 jm_ml 9 257 = some (167, 1188) := by decide +kernel
theorem lm_9_261 : jm_lk2 jm_ml 9 261 = some (169, 1196) := by decide +kernel
theorem lm_9_264 : jm_lk2 jm_ml 9 264 = some (168, 1192) := by decide +kernel
theorem lm_9_267 : jm_lk2 jm_ml 9 267 = some (170, 1200) := by decide +kernel
theorem lm_9_270 : jm_lk2 jm_ml 9 270 = some (165, 1180) := by decide +kernel
theorem lm_9_273 : jm_lk2 jm_ml 9 273 = some (166, 1184) := by decide +kernel
theorem lm_9_276 : jm_lk2 jm_ml 9 276 = some (171, 1204) := by decide +kernel
theorem lm_9_279 : jm_lk2 jm_ml 9 279 = some (163, 1173) := by decide +kernel
theorem lm_9_282 : jm_lk2 jm_ml 9 282 = some (164, 1176) := by decide +kernel
theorem lm_9_285 : jm_lk2 jm_ml 9 285 = some (173, 1212) := by decide +kernel
theorem lm_9_288 : jm_lk2 jm_ml 9 288 = some (177, 1227) := by decide +kernel
theorem lm_9_291 : jm_lk2 jm_ml 9 291 = some (175, 1220) := by decide +kernel
theorem lm_9_294 : jm_lk2 jm_ml 9 294 = some (176, 1223) := by decide +kernel
theorem lm_9_297 : jm_lk2 jm_ml 9 297 = some (180, 1239) := by decide +kernel
theorem lm_9_300 : jm_lk2 jm_ml 9 300 = some (184, 1254) := by decide +kernel
theorem lm_9_303 : jm_lk2 jm_ml 9 303 = some (186, 1262) := by decide +kernel
theorem lm_9_308 : jm_lk2 jm_ml 9 308 = some (187, 1266) := by decide +kernel
theorem lm_9_311 : jm_lk2 jm_ml 9 311 = some (192, 1285) := by decide +kernel
theorem lm_9_317 : jm_lk2 jm_ml 9 317 = some (190, 1278) := by decide +kernel
theorem lm_9_321 : jm_lk2 jm_ml 9 321 = some (191, 1282) := by decide +kernel
theorem lm_9_327 : jm_lk2 jm_ml 9 327 = some (197, 1306) := by decide +kernel
theorem lm_9_332 : jm_lk2 jm_ml 9 332 = some (196, 1302) := by decide +kernel
theorem lm_9_339 : jm_lk2 jm_ml 9 339 = some (199, 1324) := by decide +kernel
theorem lm_10_13 : jm_lk2 jm_ml 10 13 = some (0, 347) := by decide +kernel
theorem lm_10_17 : jm_lk2 jm_ml 10 17 = some (128, 1025) := by decide +kernel
theorem lm_10_18 : jm_lk2 jm_ml 10 18 = some (7, 376) := by decide +kernel
theorem lm_10_22 : jm_lk2 jm_ml 10 22 = some (131, 1038) := by decide +kernel
theorem lm_10_23 : jm_lk2 jm_ml 10 23 = some (10, 388) := by decide +kernel
theorem lm_10_27 : jm_lk2 jm_ml 10 27 = some (132, 1043) := by decide +kernel
theorem lm_10_28 : jm_lk2 jm_ml 10 28 = some (13, 401) := by decide +kernel
theorem lm_10_32 : jm_lk2 jm_ml 10 32 = some (134, 1051) := by decide +kernel
theorem lm_10_33 : jm_lk2 jm_ml 10 33 = some (14, 405) := by decide +kernel
theorem lm_10_36 : jm_lk2 jm_ml 10 36 = some (135, 1055) := by decide +kernel
theorem lm_10_37 : jm_lk2 jm_ml 10 37 = some (15, 413) := by decide +kernel
theorem lm_10_40 : jm_lk2 jm_ml 10 40 = some (136, 1061) := by decide +kernel
theorem lm_10_41 : jm_lk2 jm_ml 10 41 = some (33, 495) := by decide +kernel
theorem lm_10_45 : jm_lk2 jm_ml 10 45 = some (138, 1069) := by decide +kernel
theorem lm_10_46 : jm_lk2 jm_ml 10 46 = some (34, 499) := by decide +kernel
theorem lm_10_49 : jm_lk2 jm_ml 10 49 = some (139, 1073) := by decide +kernel
theorem lm_10_50 : jm_lk2 jm_ml 10 50 = some (35, 503) := by decide +kernel
theorem lm_10_53 : jm_lk2 jm_ml 10 53 = some (148, 1111) := by decide +kernel
theorem lm_10_54 : jm_lk2 jm_ml 10 54 = some (36, 507) := by decide +kernel
theorem lm_10_57 : jm_lk2 jm_ml 10 57 = some (149, 1116) := by decide +kernel
theorem lm_10_58 : jm_lk2 jm_ml 10 58 = some (48, 563) := by decide +kernel
theorem lm_10_62 : jm_lk2 jm_ml 10 62 = some (161, 1165) := by decide +kernel
theorem lm_10_63 : jm_lk2 jm_ml 10 63 = some (54, 587) := by decide +kernel
theorem lm_10_66 : jm_lk2 jm_ml 10 66 = some (162, 1169) := by decide +kernel
theorem lm_10_67 : jm_lk2 jm_ml 10 67 = some (62, 624) := by decide +kernel
theorem lm_10_70 : jm_lk2 jm_ml 10 70 = some (172, 1208) := by decide +kernel
theorem lm_10_71 : jm_lk2 jm_ml 10 71 = some (64, 632) := by decide +kernel
theorem lm_10_74 : jm_lk2 jm_ml 10 74 = some (174, 1216) := by decide +kernel
theorem lm_10_75 : jm_lk2 jm_ml 10 75 = some (69, 652) := by decide +kernel
theorem lm_10_78 : jm_lk2 jm_ml 10 78 = some (178, 1231) := by decide +kernel
theorem lm_10_79 : jm_lk2 jm_ml 10 79 = some (74, 672) := by decide +kernel
theorem lm_10_82 : jm_lk2 jm_ml 10 82 = some (179, 1235) := by decide +kernel
theorem lm_10_83 : jm_lk2 jm_ml 10 83 = some (75, 676) := by decide +kernel
theorem lm_10_86 : jm_lk2 jm_ml 10 86 = some (181, 1242) := by decide +kernel
theorem lm_10_87 : jm_lk2 jm_ml 10 87 = some (77, 685) := by decide +kernel
theorem lm_10_90 : jm_lk2 jm_ml 10 90 = some (182, 1246) := by decide +kernel
theorem lm_10_91 : jm_lk2 jm_ml 10 91 = some (79, 693) := by decide +kernel
theorem lm_10_94 : jm_lk2 jm_ml 10 94 = some (183, 1250) := by decide +kernel
theorem lm_10_95 : jm_lk2 jm_ml 10 95 = some (82, 705) := by decide +kernel
theorem lm_10_98 : jm_lk2 jm_ml 10 98 = some (185, 1258) := by decide +kernel
theorem lm_10_99 : jm_lk2 jm_ml 10 99 = some (85, 718) := by decide +kernel
theorem lm_10_103 : jm_lk2 jm_ml 10 103 = some (188, 1269) := by decide +kernel
theorem lm_10_104 : jm_lk2 jm_ml 10 104 = some (86, 722) := by decide +kernel
theorem lm_10_108 : jm_lk2 jm_ml 10 108 = some (189, 1273) := by decide +kernel
theorem lm_10_109 : jm_lk2 jm_ml 10 109 = some (91, 742) := by decide +kernel
theorem lm_10_112 : jm_lk2 jm_ml 10 112 = some (193, 1288) := by decide +kernel
theorem lm_10_113 : jm_lk2 jm_ml 10 113 = some (93, 750) := by decide +kernel
theorem lm_10_116 : jm_lk2 jm_ml 10 116 = some (194, 1293) := by decide +kernel
theorem lm_10_117 : jm_lk2 jm_ml 10 117 = some (96, 762) := by decide +kernel
theorem lm_10_120 : jm_lk2 jm_ml 10 120 = some (195, 1297) := by decide +kernel
theorem lm_10_121 : jm_lk2 jm_ml 10 121 = some (102, 788) := by decide +kernel
theorem lm_10_124 : jm_lk2 jm_ml 10 124 = some (118, 985) := by decide +kernel
theorem lm_10_125 : jm_lk2 jm_ml 10 125 = some (104, 797) := by decide +kernel
theorem lm_10_128 : jm_lk2 jm_ml 10 128 = some (122, 1001) := by decide +kernel
theorem lm_10_129 : jm_lk2 jm_ml 10 129 = some (105, 801) := by decide +kernel
theorem lm_10_132 : jm_lk2 jm_ml 10 132 = some (123, 1005) := by decide +kernel
theorem lm_10_133 : jm_lk2 jm_ml 10 133 = some (108, 814) := by decide +kernel
theorem lm_10_136 : jm_lk2 jm_ml 10 136 = some (126, 1016) := by decide +kernel
theorem lm_10_137 : jm_lk2 jm_ml 10 137 = some (109, 819) := by decide +kernel
theorem lm_10_140 : jm_lk2 jm_ml 10 140 = some (127, 1021) := by decide +kernel
theorem lm_10_141 : jm_lk2 jm_ml 10 141 = some (111, 828) := by decide +kernel
theorem lm_10_144 : jm_lk2 jm_ml 10 144 = some (198, 1310) := by decide +kernel
theorem lm_10_145 : jm_lk2 jm_ml 10 145 = some (112, 833) := by decide +kernel
theorem lm_10_148 : jm_lk2 jm_ml 10 148 = some (199, 1314) := by decide +kernel
theorem lm_10_149 : jm_lk2 jm_ml 10 149 = some (114, 842) := by decide +kernel
theorem lm_10_153 : jm_lk2 jm_ml 10 153 = some (200, 1318) := by decide +kernel
theorem lc_8_180 : jm_lk2 jm_lc 8 180 = some (-100002, 591) := by decide +kernel
theorem lc_8_223 : jm_lk2 jm_lc 8 223 = some (-100003, 596) := by decide +kernel
theorem lc_8_289 : jm_lk2 jm_lc 8 289 = some (-2147483648, 818) := by decide +kernel
theorem lc_9_94 : jm_lk2 jm_lc 9 94 = some (-100000, 1183) := by decide +kernel
theorem lc_9_123 : jm_lk2 jm_lc 9 123 = some (-2147483648, 1020) := by decide +kernel
theorem ll_8_246 : jm_lk2 jm_ll 8 246 = some (-9223372036854775806, 729) := by decide +kernel
theorem ll_8_269 : jm_lk2 jm_ll 8 269 = some (256, 749) := by decide +kernel
theorem ll_8_308 : jm_lk2 jm_ll 8 308 = some (17, 846) := by decide +kernel
theorem ll_8_310 : jm_lk2 jm_ll 8 310 = some (31, 847) := by decide +kernel
theorem ll_9_92 : jm_lk2 jm_ll 9 92 = some (-9223372036854775808, 1281) := by decide +kernel
theorem ll_9_103 : jm_lk2 jm_ll 9 103 = some (3, 992) := by decide +kernel
theorem ll_9_109 : jm_lk2 jm_ll 9 109 = some (2, 996) := by decide +kernel
theorem ll_9_127 : jm_lk2 jm_ll 9 127 = some (99, 1035) := by decide +kernel
theorem ll_9_129 : jm_lk2 jm_ll 9 129 = some (20, 1036) := by decide +kernel
theorem ll_9_131 : jm_lk2 jm_ll 9 131 = some (9, 1037) := by decide +kernel
theorem ll_9_150 : jm_lk2 jm_ll 9 150 = some (5, 1059) := by decide +kernel
theorem ll_9_152 : jm_lk2 jm_ll 9 152 = some (15, 1060) := by decide +kernel
theorem ll_9_157 : jm_lk2 jm_ll 9 157 = some (255, 1068) := by decide +kernel
theorem ll_9_165 : jm_lk2 jm_ll 9 165 = some (48, 1105) := by decide +kernel
theorem ll_9_167 : jm_lk2 jm_ll 9 167 = some (57, 1106) := by decide +kernel
theorem ll_9_204 : jm_lk2 jm_ll 9 204 = some (199, 1115) := by decide +kernel
theorem ll_9_246 : jm_lk2 jm_ll 9 246 = some (200, 1120) := by decide +kernel
theorem ll_9_306 : jm_lk2 jm_ll 9 306 = some (60, 1265) := by decide +kernel
theorem ll_9_315 : jm_lk2 jm_ll 9 315 = some (30, 1277) := by decide +kernel
theorem ll_9_325 : jm_lk2 jm_ll 9 325 = some (256, 1292) := by decide +kernel
theorem ll_9_330 : jm_lk2 jm_ll 9 330 = some (4, 1301) := by decide +kernel
theorem ll_9_335 : jm_lk2 jm_ll 9 335 = some (17, 1322) := by decide +kernel
theorem ll_9_337 : jm_lk2 jm_ll 9 337 = some (31, 1323) := by decide +kernel
theorem ls_8_135 : jm_lk2 jm_sl 8 135 = some (2, 409) := by decide +kernel
theorem ls_8_138 : jm_lk2 jm_sl 8 138 = some (3, 411) := by decide +kernel
theorem ls_8_224 : jm_lk2 jm_sl 8 224 = some (0, 360) := by decide +kernel
theorem ls_8_227 : jm_lk2 jm_sl 8 227 = some (1, 362) := by decide +kernel
set_option maxRecDepth 10000 in
theorem jM0 : jm_mt[0]? = some jMt0 := rfl
set_option maxRecDepth 10000 in
theorem jM1 : jm_mt[1]? = some jMt1 := rfl
set_option maxRecDepth 10000 in
theorem jM2 : jm_mt[2]? = some jMt2 := rfl
set_option maxRecDepth 10000 in
theorem jM3 : jm_mt[3]? = some jMt3 := rfl
set_option maxRecDepth 10000 in
theorem jM4 : jm_mt[4]? = some jMt4 := rfl
set_option maxRecDepth 10000 in
theorem jM5 : jm_mt[5]? = some jMt5 := rfl
set_option maxRecDepth 10000 in
theorem jM6 : jm_mt[6]? = some jMt6 := rfl
set_option maxRecDepth 10000 in
theorem jM7 : jm_mt[7]? = some jMt7 := rfl
set_option maxRecDepth 10000 in
theorem jM8 : jm_mt[8]? = some jMt8 := rfl
set_option maxRecDepth 10000 in
theorem jM9 : jm_mt[9]? = some jMt9 := rfl
set_option maxRecDepth 10000 in
theorem jM10 : jm_mt[10]? = some jMt10 := rfl
set_option maxRecDepth 10000 in
theorem jM11 : jm_mt[11]? = some jMt11 := rfl
set_option maxRecDepth 10000 in
theorem jM12 : jm_mt[12]? = some jMt12 := rfl
set_option maxRecDepth 10000 in
theorem jM13 : jm_mt[13]? = some jMt13 := rfl
set_option maxRecDepth 10000 in
theorem jM14 : jm_mt[14]? = some jMt14 := rfl
set_option maxRecDepth 10000 in
theorem jM15 : jm_mt[15]? = some jMt15 := rfl
set_option maxRecDepth 10000 in
theorem jM16 : jm_mt[16]? = some jMt16 := rfl
set_option maxRecDepth 10000 in
theorem jM17 : jm_mt[17]? = some jMt17 := rfl
set_option maxRecDepth 10000 in
theorem jM18 : jm_mt[18]? = some jMt18 := rfl
set_option maxRecDepth 10000 in
theorem jM19 : jm_mt[19]? = some jMt19 := rfl
set_option maxRecDepth 10000 in
theorem jM20 : jm_mt[20]? = some jMt20 := rfl
set_option maxRecDepth 10000 in
theorem jM21 : jm_mt[21]? = some jMt21 := rfl
set_option maxRecDepth 10000 in
theorem jM22 : jm_mt[22]? = some jMt22 := rfl
set_option maxRecDepth 10000 in
theorem jM23 : jm_mt[23]? = some jMt23 := rfl
set_option maxRecDepth 10000 in
theorem jM24 : jm_mt[24]? = some jMt24 := rfl
set_option maxRecDepth 10000 in
theorem jM25 : jm_mt[25]? = some jMt25 := rfl
set_option maxRecDepth 10000 in
theorem jM26 : jm_mt[26]? = some jMt26 := rfl
set_option maxRecDepth 10000 in
theorem jM27 : jm_mt[27]? = some jMt27 := rfl
set_option maxRecDepth 10000 in
theorem jM28 : jm_mt[28]? = some jMt28 := rfl
set_option maxRecDepth 10000 in
theorem jM29 : jm_mt[29]? = some jMt29 := rfl
set_option maxRecDepth 10000 in
theorem jM30 : jm_mt[30]? = some jMt30 := rfl
set_option maxRecDepth 10000 in
theorem jM31 : jm_mt[31]? = some jMt31 := rfl
set_option maxRecDepth 10000 in
theorem jM32 : jm_mt[32]? = some jMt32 := rfl
set_option maxRecDepth 10000 in
theorem jM33 : jm_mt[33]? = some jMt33 := rfl
set_option maxRecDepth 10000 in
theorem jM34 : jm_mt[34]? = some jMt34 := rfl
set_option maxRecDepth 10000 in
theorem jM35 : jm_mt[35]? = some jMt35 := rfl
set_option maxRecDepth 10000 in
theorem jM36 : jm_mt[36]? = some jMt36 := rfl
set_option maxRecDepth 10000 in
theorem jM37 : jm_mt[37]? = some jMt37 := rfl
set_option maxRecDepth 10000 in
theorem jM38 : jm_mt[38]? = some jMt38 := rfl
set_option maxRecDepth 10000 in
theorem jM39 : jm_mt[39]? = some jMt39 := rfl
set_option maxRecDepth 10000 in
theorem jM40 : jm_mt[40]? = some jMt40 := rfl
set_option maxRecDepth 10000 in
theorem jM41 : jm_mt[41]? = some jMt41 := rfl
set_option maxRecDepth 10000 in
theorem jM42 : jm_mt[42]? = some jMt42 := rfl
set_option maxRecDepth 10000 in
theorem jM43 : jm_mt[43]? = some jMt43 := rfl
set_option maxRecDepth 10000 in
theorem jM44 : jm_mt[44]? = some jMt44 := rfl
set_option maxRecDepth 10000 in
theorem jM45 : jm_mt[45]? = some jMt45 := rfl
set_option maxRecDepth 10000 in
theorem jM46 : jm_mt[46]? = some jMt46 := rfl
set_option maxRecDepth 10000 in
theorem jM47 : jm_mt[47]? = some jMt47 := rfl
set_option maxRecDepth 10000 in
theorem jM48 : jm_mt[48]? = some jMt48 := rfl
set_option maxRecDepth 10000 in
theorem jM49 : jm_mt[49]? = some jMt49 := rfl
set_option maxRecDepth 10000 in
theorem jM50 : jm_mt[50]? = some jMt50 := rfl
set_option maxRecDepth 10000 in
theorem jM51 : jm_mt[51]? = some jMt51 := rfl
set_option maxRecDepth 10000 in
theorem jM52 : jm_mt[52]? = some jMt52 := rfl
set_option maxRecDepth 10000 in
theorem jM53 : jm_mt[53]? = some jMt53 := rfl
set_option maxRecDepth 10000 in
theorem jM54 : jm_mt[54]? = some jMt54 := rfl
set_option maxRecDepth 10000 in
theorem jM55 : jm_mt[55]? = some jMt55 := rfl
set_option maxRecDepth 10000 in
theorem jM56 : jm_mt[56]? = some jMt56 := rfl
set_option maxRecDepth 10000 in
theorem jM57 : jm_mt[57]? = some jMt57 := rfl
set_option maxRecDepth 10000 in
theorem jM58 : jm_mt[58]? = some jMt58 := rfl
set_option maxRecDepth 10000 in
theorem jM59 : jm_mt[59]? = some jMt59 := rfl
set_option maxRecDepth 10000 in
theorem jM60 : jm_mt[60]? = some jMt60 := rfl
set_option maxRecDepth 10000 in
theorem jM61 : jm_mt[61]? = some jMt61 := rfl
set_option maxRecDepth 10000 in
theorem jM62 : jm_mt[62]? = some jMt62 := rfl
set_option maxRecDepth 10000 in
theorem jM63 : jm_mt[63]? = some jMt63 := rfl
set_option maxRecDepth 10000 in
theorem jM64 : jm_mt[64]? = some jMt64 := rfl
set_option maxRecDepth 10000 in
theorem jM65 : jm_mt[65]? = some jMt65 := rfl
set_option maxRecDepth 10000 in
theorem jM66 : jm_mt[66]? = some jMt66 := rfl
set_option maxRecDepth 10000 in
theorem jM67 : jm_mt[67]? = some jMt67 := rfl
set_option maxRecDepth 10000 in
theorem jM68 : jm_mt[68]? = some jMt68 := rfl
set_option maxRecDepth 10000 in
theorem jM69 : jm_mt[69]? = some jMt69 := rfl
set_option maxRecDepth 10000 in
theorem jM70 : jm_mt[70]? = some jMt70 := rfl
set_option maxRecDepth 10000 in
theorem jM71 : jm_mt[71]? = some jMt71 := rfl
set_option maxRecDepth 10000 in
theorem jM72 : jm_mt[72]? = some jMt72 := rfl
set_option maxRecDepth 10000 in
theorem jM73 : jm_mt[73]? = some jMt73 := rfl
set_option maxRecDepth 10000 in
theorem jM74 : jm_mt[74]? = some jMt74 := rfl
set_option maxRecDepth 10000 in
theorem jM75 : jm_mt[75]? = some jMt75 := rfl
set_option maxRecDepth 10000 in
theorem jM76 : jm_mt[76]? = some jMt76 := rfl
set_option maxRecDepth 10000 in
theorem jM77 : jm_mt[77]? = some jMt77 := rfl
set_option maxRecDepth 10000 in
theorem jM78 : jm_mt[78]? = some jMt78 := rfl
set_option maxRecDepth 10000 in
theorem jM79 : jm_mt[79]? = some jMt79 := rfl
set_option maxRecDepth 10000 in
theorem jM80 : jm_mt[80]? = some jMt80 := rfl
set_option maxRecDepth 10000 in
theorem jM81 : jm_mt[81]? = some jMt81 := rfl
set_option maxRecDepth 10000 in
theorem jM82 : jm_mt[82]? = some jMt82 := rfl
set_option maxRecDepth 10000 in
theorem jM83 : jm_mt[83]? = some jMt83 := rfl
set_option maxRecDepth 10000 in
theorem jM84 : jm_mt[84]? = some jMt84 := rfl
set_option maxRecDepth 10000 in
theorem jM85 : jm_mt[85]? = some jMt85 := rfl
set_option maxRecDepth 10000 in
theorem jM86 : jm_mt[86]? = some jMt86 := rfl
set_option maxRecDepth 10000 in
theorem jM87 : jm_mt[87]? = some jMt87 := rfl
set_option maxRecDepth 10000 in
theorem jM88 : jm_mt[88]? = some jMt88 := rfl
set_option maxRecDepth 10000 in
theorem jM89 : jm_mt[89]? = some jMt89 := rfl
set_option maxRecDepth 10000 in
theorem jM90 : jm_mt[90]? = some jMt90 := rfl
set_option maxRecDepth 10000 in
theorem jM91 : jm_mt[91]? = some jMt91 := rfl
set_option maxRecDepth 10000 in
theorem jM92 : jm_mt[92]? = some jMt92 := rfl
set_option maxRecDepth 10000 in
theorem jM93 : jm_mt[93]? = some jMt93 := rfl
set_option maxRecDepth 10000 in
theorem jM94 : jm_mt[94]? = some jMt94 := rfl
set_option maxRecDepth 10000 in
theorem jM95 : jm_mt[95]? = some jMt95 := rfl
set_option maxRecDepth 10000 in
theorem jM96 : jm_mt[96]? = some jMt96 := rfl
set_option maxRecDepth 10000 in
theorem jM97 : jm_mt[97]? = some jMt97 := rfl
set_option maxRecDepth 10000 in
theorem jM98 : jm_mt[98]? = some jMt98 := rfl
set_option maxRecDepth 10000 in
theorem jM99 : jm_mt[99]? = some jMt99 := rfl
set_option maxRecDepth 10000 in
theorem jM100 : jm_mt[100]? = some jMt100 := rfl
set_option maxRecDepth 10000 in
theorem jM101 : jm_mt[101]? = some jMt101 := rfl
set_option maxRecDepth 10000 in
theorem jM102 : jm_mt[102]? = some jMt102 := rfl
set_option maxRecDepth 10000 in
theorem jM103 : jm_mt[103]? = some jMt103 := rfl
set_option maxRecDepth 10000 in
theorem jM104 : jm_mt[104]? = some jMt104 := rfl
set_option maxRecDepth 10000 in
theorem jM105 : jm_mt[105]? = some jMt105 := rfl
set_option maxRecDepth 10000 in
theorem jM106 : jm_mt[106]? = some jMt106 := rfl
set_option maxRecDepth 10000 in
theorem jM107 : jm_mt[107]? = some jMt107 := rfl
set_option maxRecDepth 10000 in
theorem jM108 : jm_mt[108]? = some jMt108 := rfl
set_option maxRecDepth 10000 in
theorem jM109 : jm_mt[109]? = some jMt109 := rfl
set_option maxRecDepth 10000 in
theorem jM110 : jm_mt[110]? = some jMt110 := rfl
set_option maxRecDepth 10000 in
theorem jM111 : jm_mt[111]? = some jMt111 := rfl
set_option maxRecDepth 10000 in
theorem jM112 : jm_mt[112]? = some jMt112 := rfl
set_option maxRecDepth 10000 in
theorem jM113 : jm_mt[113]? = some jMt113 := rfl
set_option maxRecDepth 10000 in
theorem jM114 : jm_mt[114]? = some jMt114 := rfl
set_option maxRecDepth 10000 in
theorem jM115 : jm_mt[115]? = some jMt115 := rfl
set_option maxRecDepth 10000 in
theorem jM116 : jm_mt[116]? = some jMt116 := rfl
set_option maxRecDepth 10000 in
theorem jM117 : jm_mt[117]? = some jMt117 := rfl
set_option maxRecDepth 10000 in
theorem jM118 : jm_mt[118]? = some jMt118 := rfl
set_option maxRecDepth 10000 in
theorem jM119 : jm_mt[119]? = some jMt119 := rfl
set_option maxRecDepth 10000 in
theorem jM120 : jm_mt[120]? = some jMt120 := rfl
set_option maxRecDepth 10000 in
theorem jM121 : jm_mt[121]? = some jMt121 := rfl
set_option maxRecDepth 10000 in
theorem jM122 : jm_mt[122]? = some jMt122 := rfl
set_option maxRecDepth 10000 in
theorem jM123 : jm_mt[123]? = some jMt123 := rfl
set_option maxRecDepth 10000 in
theorem jM124 : jm_mt[124]? = some jMt124 := rfl
set_option maxRecDepth 10000 in
theorem jM125 : jm_mt[125]? = some jMt125 := rfl
set_option maxRecDepth 10000 in
theorem jM126 : jm_mt[126]? = some jMt126 := rfl
set_option maxRecDepth 10000 in
theorem jM127 : jm_mt[127]? = some jMt127 := rfl
set_option maxRecDepth 10000 in
theorem jM128 : jm_mt[128]? = some jMt128 := rfl
set_option maxRecDepth 10000 in
theorem jM129 : jm_mt[129]? = some jMt129 := rfl
set_option maxRecDepth 10000 in
theorem jM130 : jm_mt[130]? = some jMt130 := rfl
set_option maxRecDepth 10000 in
theorem jM131 : jm_mt[131]? = some jMt131 := rfl
set_option maxRecDepth 10000 in
theorem jM132 : jm_mt[132]? = some jMt132 := rfl
set_option maxRecDepth 10000 in
theorem jM133 : jm_mt[133]? = some jMt133 := rfl
set_option maxRecDepth 10000 in
theorem jM134 : jm_mt[134]? = some jMt134 := rfl
set_option maxRecDepth 10000 in
theorem jM135 : jm_mt[135]? = some jMt135 := rfl
set_option maxRecDepth 10000 in
theorem jM136 : jm_mt[136]? = some jMt136 := rfl
set_option maxRecDepth 10000 in
theorem jM137 : jm_mt[137]? = some jMt137 := rfl
set_option maxRecDepth 10000 in
theorem jM138 : jm_mt[138]? = some jMt138 := rfl
set_option maxRecDepth 10000 in
theorem jM139 : jm_mt[139]? = some jMt139 := rfl
set_option maxRecDepth 10000 in
theorem jM140 : jm_mt[140]? = some jMt140 := rfl
set_option maxRecDepth 10000 in
theorem jM141 : jm_mt[141]? = some jMt141 := rfl
set_option maxRecDepth 10000 in
theorem jM142 : jm_mt[142]? = some jMt142 := rfl
set_option maxRecDepth 10000 in
theorem jM143 : jm_mt[143]? = some jMt143 := rfl
set_option maxRecDepth 10000 in
theorem jM144 : jm_mt[144]? = some jMt144 := rfl
set_option maxRecDepth 10000 in
theorem jM145 : jm_mt[145]? = some jMt145 := rfl
set_option maxRecDepth 10000 in
theorem jM146 : jm_mt[146]? = some jMt146 := rfl
set_option maxRecDepth 10000 in
theorem jM147 : jm_mt[147]? = some jMt147 := rfl
set_option maxRecDepth 10000 in
theorem jM148 : jm_mt[148]? = some jMt148 := rfl
set_option maxRecDepth 10000 in
theorem jM149 : jm_mt[149]? = some jMt149 := rfl
set_option maxRecDepth 10000 in
theorem jM150 : jm_mt[150]? = some jMt150 := rfl
set_option maxRecDepth 10000 in
theorem jM151 : jm_mt[151]? = some jMt151 := rfl
set_option maxRecDepth 10000 in
theorem jM152 : jm_mt[152]? = some jMt152 := rfl
set_option maxRecDepth 10000 in
theorem jM153 : jm_mt[153]? = some jMt153 := rfl
set_option maxRecDepth 10000 in
theorem jM154 : jm_mt[154]? = some jMt154 := rfl
set_option maxRecDepth 10000 in
theorem jM155 : jm_mt[155]? = some jMt155 := rfl
set_option maxRecDepth 10000 in
theorem jM156 : jm_mt[156]? = some jMt156 := rfl
set_option maxRecDepth 10000 in
theorem jM157 : jm_mt[157]? = some jMt157 := rfl
set_option maxRecDepth 10000 in
theorem jM158 : jm_mt[158]? = some jMt158 := rfl
set_option maxRecDepth 10000 in
theorem jM159 : jm_mt[159]? = some jMt159 := rfl
set_option maxRecDepth 10000 in
theorem jM160 : jm_mt[160]? = some jMt160 := rfl
set_option maxRecDepth 10000 in
theorem jM161 : jm_mt[161]? = some jMt161 := rfl
set_option maxRecDepth 10000 in
theorem jM162 : jm_mt[162]? = some jMt162 := rfl
set_option maxRecDepth 10000 in
theorem jM163 : jm_mt[163]? = some jMt163 := rfl
set_option maxRecDepth 10000 in
theorem jM164 : jm_mt[164]? = some jMt164 := rfl
set_option maxRecDepth 10000 in
theorem jM165 : jm_mt[165]? = some jMt165 := rfl
set_option maxRecDepth 10000 in
theorem jM166 : jm_mt[166]? = some jMt166 := rfl
set_option maxRecDepth 10000 in
theorem jM167 : jm_mt[167]? = some jMt167 := rfl
set_option maxRecDepth 10000 in
theorem jM168 : jm_mt[168]? = some jMt168 := rfl
set_option maxRecDepth 10000 in
theorem jM169 : jm_mt[169]? = some jMt169 := rfl
set_option maxRecDepth 10000 in
theorem jM170 : jm_mt[170]? = some jMt170 := rfl
set_option maxRecDepth 10000 in
theorem jM171 : jm_mt[171]? = some jMt171 := rfl
set_option maxRecDepth 10000 in
theorem jM172 : jm_mt[172]? = some jMt172 := rfl
set_option maxRecDepth 10000 in
theorem jM173 : jm_mt[173]? = some jMt173 := rfl
set_option maxRecDepth 10000 in
theorem jM174 : jm_mt[174]? = some jMt174 := rfl
set_option maxRecDepth 10000 in
theorem jM175 : jm_mt[175]? = some jMt175 := rfl
set_option maxRecDepth 10000 in
theorem jM176 : jm_mt[176]? = some jMt176 := rfl
set_option maxRecDepth 10000 in
theorem jM177 : jm_mt[177]? = some jMt177 := rfl
set_option maxRecDepth 10000 in
theorem jM178 : jm_mt[178]? = some jMt178 := rfl
set_option maxRecDepth 10000 in
theorem jM179 : jm_mt[179]? = some jMt179 := rfl
set_option maxRecDepth 10000 in
theorem jM180 : jm_mt[180]? = some jMt180 := rfl
set_option maxRecDepth 10000 in
theorem jM181 : jm_mt[181]? = some jMt181 := rfl
set_option maxRecDepth 10000 in
theorem jM182 : jm_mt[182]? = some jMt182 := rfl
set_option maxRecDepth 10000 in
theorem jM183 : jm_mt[183]? = some jMt183 := rfl
set_option maxRecDepth 10000 in
theorem jM184 : jm_mt[184]? = some jMt184 := rfl
set_option maxRecDepth 10000 in
theorem jM185 : jm_mt[185]? = some jMt185 := rfl
set_option maxRecDepth 10000 in
theorem jM186 : jm_mt[186]? = some jMt186 := rfl
set_option maxRecDepth 10000 in
theorem jM187 : jm_mt[187]? = some jMt187 := rfl
set_option maxRecDepth 10000 in
theorem jM188 : jm_mt[188]? = some jMt188 := rfl
set_option maxRecDepth 10000 in
theorem jM189 : jm_mt[189]? = some jMt189 := rfl
set_option maxRecDepth 10000 in
theorem jM190 : jm_mt[190]? = some jMt190 := rfl
set_option maxRecDepth 10000 in
theorem jM191 : jm_mt[191]? = some jMt191 := rfl
set_option maxRecDepth 10000 in
theorem jM192 : jm_mt[192]? = some jMt192 := rfl
set_option maxRecDepth 10000 in
theorem jM193 : jm_mt[193]? = some jMt193 := rfl
set_option maxRecDepth 10000 in
theorem jM194 : jm_mt[194]? = some jMt194 := rfl
set_option maxRecDepth 10000 in
theorem jM195 : jm_mt[195]? = some jMt195 := rfl
set_option maxRecDepth 10000 in
theorem jM196 : jm_mt[196]? = some jMt196 := rfl
set_option maxRecDepth 10000 in
theorem jM197 : jm_mt[197]? = some jMt197 := rfl
set_option maxRecDepth 10000 in
theorem jM198 : jm_mt[198]? = some jMt198 := rfl
set_option maxRecDepth 10000 in
theorem jM199 : jm_mt[199]? = some jMt199 := rfl
set_option maxRecDepth 10000 in
theorem jM200 : jm_mt[200]? = some jMt200 := rfl
set_option maxRecDepth 10000 in
theorem jM201 : jm_mt[201]? = some jMt201 := rfl
section SVC
variable {m pc : Nat} {ls : jm_L} {st : List Value} {σ : jm_S} {mt : jm_M}
theorem jm_call_s {o z y pl : Nat} {as rest : List Value} {my : jm_M} (hq : jm_lk2 jm_ml o z = some (y, pl)) (hb : Nat.ble 1000 y = false) (hmy : jm_mt[y]? = some my) (hs : my.2.2.2.2.2.2.1 = true) (hlen : as.length = my.2.2.2.2.2.2.2.1) (hst : st = as.reverse ++ rest) (hcat : Nat.ble (jm_cat rest) 8 = true) : jm_call o z false pc ls st σ = some (.inr (.inr (y, as, (pc + 3, ls, rest, σ)))) := by
  have e1 : st.take my.2.2.2.2.2.2.2.1 = as.reverse := by rw [hst, ← hlen, ← List.length_reverse]; exact List.take_left
  have e2 : st.drop my.2.2.2.2.2.2.2.1 = rest := by rw [hst, ← hlen, ← List.length_reverse]; exact List.drop_left
  have e3 : my.2.2.2.2.2.2.2.1 ≤ st.length := by rw [hst, ← hlen, List.length_append, List.length_reverse]; omega
  unfold jm_call
  rw [hq]
  simp only [jm_ob, hb, hmy, e1, e2, List.reverse_reverse]
  rw [if_pos ⟨e3, Nat.le_of_ble_eq_true hcat, hs⟩]
  rfl
theorem jm_call_v {o z y pl a : Nat} {as rest : List Value} {my : jm_M} (hq : jm_lk2 jm_ml o z = some (y, pl)) (hb : Nat.ble 1000 y = false) (hmy : jm_mt[y]? = some my) (hs : my.2.2.2.2.2.2.1 = false) (hlen : as.length + 1 = my.2.2.2.2.2.2.2.1) (hst : st = as.reverse ++ .ref a :: rest) (hoc : jm_oc a = some my.1) (hcat : Nat.ble (jm_cat rest) 8 = true) : jm_call o z true pc ls st σ = some (.inr (.inr (y, .ref a :: as, (pc + 3, ls, rest, σ)))) := by
  have hst' : st = (Value.ref a :: as).reverse ++ rest := by rw [hst]; simp
  have hlen' : (Value.ref a :: as).length = my.2.2.2.2.2.2.2.1 := hlen
  have e1 : st.take my.2.2.2.2.2.2.2.1 = (Value.ref a :: as).reverse := by rw [hst', ← hlen', ← List.length_reverse]; exact List.take_left
  have e2 : st.drop my.2.2.2.2.2.2.2.1 = rest := by rw [hst', ← hlen', ← List.length_reverse]; exact List.drop_left
  have e3 : my.2.2.2.2.2.2.2.1 ≤ st.length := by rw [hst', ← hlen', List.length_append, List.length_reverse]; omega
  unfold jm_call
  rw [hq]
  simp only [jm_ob, hb, hmy, e1, e2, List.reverse_reverse]
  rw [if_pos ⟨e3, Nat.le_of_ble_eq_true hcat, hs⟩]
  simp only [if_true, hoc]
theorem sv_putfz {z a ci k pl : Nat} {x : Int32} {τ : jm_S} (hm : jm_mt[m]? = some mt) (hc : jm_code m pc = some (.putfield z, 3)) (hl : Nat.beq ls.length mt.2.2.2.1 = true) (hq : jm_lk2 jm_fl mt.1 z = some (ci, k, pl)) (hv : x = 0 ∨ x = 1 → jm_pf ci k a x σ = some τ) (hn : ¬ (x = 0 ∨ x = 1) → jm_pf ci k a x σ = none) : jv m pc ls (.int x :: .ref a :: st) σ = if x = 0 ∨ x = 1 then jv m (pc + 3) ls st τ else none := by
  by_cases h : x = 0 ∨ x = 1
  · rw [if_pos h]; exact sv_putf hm hc hl hq (hv h)
  · rw [if_neg h, jv_k hm hc hl]
    simp only [jm_do, jm_rx, hq, jm_ob, hn h]
    rfl
theorem jc_of {y : Nat} {as : List Value} {ls1 : jm_L} (h : jm_ini y as = ls1) : jc y as σ = jv y 0 ls1 [] σ := by subst h; rfl
theorem jm_ini_of {y : Nat} {as : List Value} {my : jm_M} (hmy : jm_mt[y]? = some my) : jm_ini y as = jm_pad my.2.2.2.1 (jm_ent as) := by unfold jm_ini; rw [hmy]
theorem jaa_0 {q : Nat} {ts : List Nat} {f : Nat → Option (Option Value × jm_S)} : jaa 0 (q :: ts) f = f q := by
  unfold jaa
  rw [if_neg (by simp)]
  rfl
end SVC
