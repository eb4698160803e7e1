/-! ===== grains, settings, what was heard ===== -/
def I_gr (σ : jm_S) (G : Nat) : Prop := σ 1 2 = nI G ∧ σ 61 5 = nI G ∧ G ≤ 12 ∧ (∀ g, g < G → σ 2 g = σ 66 g ∧ ∃ p, p < 4 ∧ σ 66 g = nI p) ∧ (∀ j, j < 4 * G → σ 3 j = σ 67 j) ∧
  (∀ g, g < G → ¬ (σ 67 (4 * g) < 0 ∨ 99 < σ 67 (4 * g)) ∧ ¬ (σ 67 (4 * g + 1) < 1 ∨ 20 < σ 67 (4 * g + 1)) ∧ ¬ (σ 67 (4 * g + 2) < 1 ∨ 9 < σ 67 (4 * g + 2)) ∧ ¬ (σ 67 (4 * g + 3) < 0 ∨ 9 < σ 67 (4 * g + 3)))
def I_se (σ : jm_S) : Prop := (∀ k, k < 6 → σ 4 k = σ 68 k) ∧ ¬ (σ 68 0 < 0 ∨ 99 < σ 68 0) ∧ ¬ (σ 68 1 < 5 ∨ 15 < σ 68 1)
def I_he (σ : jm_S) (G : Nat) : Prop := ∃ h, h ≤ 12 ∧ σ 38 2 = nI h ∧ σ 61 36 = nI h ∧ ∀ j, j < h → σ 39 j = σ 87 j ∧ σ 40 j = σ 88 j ∧ (∃ g, g < G ∧ σ 87 j = nI g) ∧ ∃ s, s < 200 ∧ σ 88 j = nI s
def I_gh (σ : jm_S) : Prop := ∃ G, I_gr σ G ∧ I_he σ G
abbrev jGS : List Nat := [1, 2, 3, 38, 39, 40, 66, 67, 87, 88]
theorem j4g0 (g : Nat) : nI g * 4 + 0 = nI (4 * g) := by rw [show (4 : Int32) = nI 4 by decide +kernel, show (0 : Int32) = nI 0 by decide +kernel, pk_mul, nI_add]; congr 1; omega
theorem j4g1 (g : Nat) : nI g * 4 + 1 = nI (4 * g + 1) := by rw [show (4 : Int32) = nI 4 by decide +kernel, show (1 : Int32) = nI 1 by decide +kernel, pk_mul, nI_add]; congr 1; omega
theorem j4g2 (g : Nat) : nI g * 4 + 2 = nI (4 * g + 2) := by rw [show (4 : Int32) = nI 4 by decide +kernel, show (2 : Int32) = nI 2 by decide +kernel, pk_mul, nI_add]; congr 1; omega
theorem j4g3 (g : Nat) : nI g * 4 + 3 = nI (4 * g + 3) := by rw [show (4 : Int32) = nI 4 by decide +kernel, show (3 : Int32) = nI 3 by decide +kernel, pk_mul, nI_add]; congr 1; omega
theorem j4gk (g k : Nat) : nI g * 4 + nI k = nI (4 * g + k) := by rw [show (4 : Int32) = nI 4 by decide +kernel, pk_mul, nI_add]; congr 1; omega
theorem j4m (g : Nat) : 4 * nI g = nI (4 * g) := by rw [show (4 : Int32) = nI 4 by decide +kernel, pk_mul]
theorem jadd1 (g : Nat) : nI g + 1 = nI (g + 1) := nI_1 g
theorem jadd2 (g : Nat) : nI g + 2 = nI (g + 2) := by rw [show (2 : Int32) = nI 2 by decide +kernel, nI_add]
theorem jadd3 (g : Nat) : nI g + 3 = nI (g + 3) := by rw [show (3 : Int32) = nI 3 by decide +kernel, nI_add]
theorem M_isOf0 (x : Int32) (σ : jm_S) : jc 130 [.int 0, .int x] σ = some (some (.int (if x < 0 ∨ 99 < x then 0 else 1)), σ) := by
  rw [M_isOf_in, if_neg (by decide), M_in x 0 99 0 99 (by decide +kernel) (by decide +kernel), jbi_some]
  by_cases h : x < 0 ∨ 99 < x <;> simp [h]
theorem M_isOf1 (x : Int32) (σ : jm_S) : jc 130 [.int 1, .int x] σ = some (some (.int (if x < 1 ∨ 20 < x then 0 else 1)), σ) := by
  rw [M_isOf_in, if_pos (by decide), if_neg (by decide), M_in x 1 20 1 20 (by decide +kernel) (by decide +kernel), jbi_some]
  by_cases h : x < 1 ∨ 20 < x <;> simp [h]
theorem M_isOf2 (x : Int32) (σ : jm_S) : jc 130 [.int 2, .int x] σ = some (some (.int (if x < 1 ∨ 9 < x then 0 else 1)), σ) := by
  rw [M_isOf_in, if_pos (by decide), if_pos (by decide), if_neg (by decide), M_in x 1 9 1 9 (by decide +kernel) (by decide +kernel), jbi_some]
  by_cases h : x < 1 ∨ 9 < x <;> simp [h]
theorem M_isOf3 (x : Int32) (σ : jm_S) : jc 130 [.int 3, .int x] σ = some (some (.int (if x < 0 ∨ 9 < x then 0 else 1)), σ) := by
  rw [M_isOf_in, if_pos (by decide), if_pos (by decide), if_pos (by decide), M_in x 0 9 0 9 (by decide +kernel) (by decide +kernel), jbi_some]
  by_cases h : x < 0 ∨ 9 < x <;> simp [h]
abbrev jBad (w s z c : Int32) : Prop := (w < 0 ∨ 99 < w) ∨ (s < 1 ∨ 20 < s) ∨ (z < 1 ∨ 9 < z) ∨ (c < 0 ∨ 9 < c)
theorem P_mayAllBe (w s z c : Int32) (σ : jm_S) : jc 2 [.int w, .int s, .int z, .int c] σ = some (some (.int (if jBad w s z c then 0 else 1)), σ) := by
  rw [P_mayAllBe_in, P_mayBe0, jbi_some, P_mayBe1, jbi_some, P_mayBe2, jbi_some, P_mayBe3, jbi_some]
  by_cases h1 : w < 0 ∨ 99 < w
  · rw [if_pos h1, if_pos rfl, if_pos (Or.inl h1)]
  · rw [if_neg h1, if_neg (by decide)]
    by_cases h2 : s < 1 ∨ 20 < s
    · rw [if_pos h2, if_pos rfl, if_pos (Or.inr (Or.inl h2))]
    · rw [if_neg h2, if_neg (by decide)]
      by_cases h3 : z < 1 ∨ 9 < z
      · rw [if_pos h3, if_pos rfl, if_pos (Or.inr (Or.inr (Or.inl h3)))]
      · rw [if_neg h3, if_neg (by decide)]
        by_cases h4 : c < 0 ∨ 9 < c
        · rw [if_pos h4, if_pos rfl, if_pos (Or.inr (Or.inr (Or.inr h4)))]
        · rw [if_neg h4, if_neg (by decide), if_neg]
          rintro (q | q | q | q)
          · exact h1 q
          · exact h2 q
          · exact h3 q
          · exact h4 q
theorem Grains_add {G : Nat} (hG : G < 12) (x w s z c : Int32) (σ : jm_S) (h : σ 1 2 = nI G) : jc 5 [.ref 1, .int x, .int w, .int s, .int z, .int c] σ = some (some (.int (nI G)), jm_up (jm_up (jm_up (jm_up (jm_up (jm_up σ 1 2 (nI (G + 1))) 2 G x) 3 (4 * G) w) 3 (4 * G + 1) s) 3 (4 * G + 2) z) 3 (4 * G + 3) c) := by
  rw [Grains_add_in, h]
  simp only [nI_clamp (show G < 2 ^ 31 by omega), jbad2 hG (by decide), if_false, nI_1, Grains_put_in, j4g0, j4g1, j4g2, j4g3, nI_clamp (show 4 * G < 2 ^ 31 by omega), nI_clamp (show 4 * G + 1 < 2 ^ 31 by omega), nI_clamp (show 4 * G + 2 < 2 ^ 31 by omega), nI_clamp (show 4 * G + 3 < 2 ^ 31 by omega), jbad2 (show 4 * G < 48 by omega) (by decide), jbad2 (show 4 * G + 1 < 48 by omega) (by decide), jbad2 (show 4 * G + 2 < 48 by omega) (by decide), jbad2 (show 4 * G + 3 < 48 by omega) (by decide), jbv_some]
theorem Grains_isFull {G : Nat} (hG : G ≤ 12) (σ : jm_S) (h : σ 1 2 = nI G) : jc 4 [.ref 1] σ = some (some (.int (if G < 12 then 0 else 1)), σ) := by
  rw [Grains_isFull_in, h, show (12 : Int32) = nI 12 by decide +kernel]
  by_cases h1 : G < 12
  · rw [if_pos (nI_lt h1 (by omega)), if_pos h1]
  · rw [if_neg (nI_nlt (by omega) (by omega)), if_neg h1]
theorem P_grain {G : Nat} (hG : G ≤ 12) (x w s z c : Int32) (σ : jm_S) (h : σ 1 2 = nI G) : jc 0 [.ref 0, .int x, .int w, .int s, .int z, .int c] σ = if (x < 0 ∨ 3 < x) ∨ jBad w s z c then some (some (.int (-2)), σ) else if G < 12 then some (some (.int (nI G)), jm_up (jm_up (jm_up (jm_up (jm_up (jm_up σ 1 2 (nI (G + 1))) 2 G x) 3 (4 * G) w) 3 (4 * G + 1) s) 3 (4 * G + 2) z) 3 (4 * G + 3) c) else some (some (.int (-4)), σ) := by
  rw [P_grain_in, P_isOutside, jbi_some, P_mayAllBe, jbi_some, Grains_isFull hG σ h, jbi_some]
  by_cases h1 : x < 0 ∨ 3 < x
  · rw [if_pos h1, if_pos (by decide), if_pos (Or.inl h1)]
  · rw [if_neg h1, if_neg (by decide)]
    by_cases h2 : jBad w s z c
    · rw [if_pos h2, if_neg (by decide), if_pos (Or.inr h2)]
    · rw [if_neg h2, if_pos (by decide), if_neg (not_or.mpr ⟨h1, h2⟩)]
      by_cases h3 : G < 12
      · rw [if_pos h3, if_pos rfl, if_pos h3, Grains_add h3 x w s z c σ h, jbi_some]
      · rw [if_neg h3, if_neg (by decide), if_neg h3]
theorem M_grain {G : Nat} (hG : G ≤ 12) (x w s z c : Int32) (σ : jm_S) (h : σ 61 5 = nI G) : jc 128 [.ref 61, .int x, .int w, .int s, .int z, .int c] σ = if (x < 0 ∨ 3 < x) ∨ jBad w s z c then some (some (.int (-2)), σ) else if G < 12 then some (some (.int (nI G)), jm_up (jm_up (jm_up (jm_up (jm_up (jm_up σ 66 G x) 67 (4 * G) w) 67 (4 * G + 1) s) 67 (4 * G + 2) z) 67 (4 * G + 3) c) 61 5 (nI (G + 1))) else some (some (.int (-4)), σ) := by
  rw [M_grain_in, M_isPlace, jbi_some, M_isOf0, jbi_some, M_isOf1, jbi_some, M_isOf2, jbi_some, M_isOf3, jbi_some]
  by_cases h1 : x < 0 ∨ 3 < x
  · rw [if_pos h1, if_pos rfl, if_pos (Or.inl h1)]
  · rw [if_neg h1, if_neg (by decide)]
    by_cases h2 : w < 0 ∨ 99 < w
    · rw [if_pos h2, if_pos rfl, if_pos (Or.inr (Or.inl h2))]
    · rw [if_neg h2, if_neg (by decide)]
      by_cases h3 : s < 1 ∨ 20 < s
      · rw [if_pos h3, if_pos rfl, if_pos (Or.inr (Or.inr (Or.inl h3)))]
      · rw [if_neg h3, if_neg (by decide)]
        by_cases h4 : z < 1 ∨ 9 < z
        · rw [if_pos h4, if_pos rfl, if_pos (Or.inr (Or.inr (Or.inr (Or.inl h4))))]
        · rw [if_neg h4, if_neg (by decide)]
          by_cases h5 : c < 0 ∨ 9 < c
          · rw [if_pos h5, if_neg (by decide), if_pos (Or.inr (Or.inr (Or.inr (Or.inr h5))))]
          · rw [if_neg h5, if_pos (by decide), if_neg (show ¬ ((x < 0 ∨ 3 < x) ∨ jBad w s z c) by
              rintro (q | q | q | q | q)
              · exact h1 q
              · exact h2 q
              · exact h3 q
              · exact h4 q
              · exact h5 q), h]
            by_cases h6 : G < 12
            · have hne : ¬ nI G = 12 := by
                rw [show (12 : Int32) = nI 12 by decide +kernel, nI_eq (by omega) (by decide)]; omega
              rw [if_pos hne, if_pos h6]
              simp only [nI_clamp (show G < 2 ^ 31 by omega), jbad2 h6 (by decide), if_false, j4m, jadd1, jadd2, jadd3, nI_clamp (show 4 * G < 2 ^ 31 by omega), nI_clamp (show 4 * G + 1 < 2 ^ 31 by omega), nI_clamp (show 4 * G + 2 < 2 ^ 31 by omega), nI_clamp (show 4 * G + 3 < 2 ^ 31 by omega), jbad2 (show 4 * G < 48 by omega) (by decide), jbad2 (show 4 * G + 1 < 48 by omega) (by decide), jbad2 (show 4 * G + 2 < 48 by omega) (by decide), jbad2 (show 4 * G + 3 < 48 by omega) (by decide), nI_pred]
            · have he : nI G = 12 := by rw [show G = 12 by omega]; decide +kernel
              rw [if_neg (fun q => q he), if_neg h6]
/-- one grain more -/
theorem I_gr_add {σ : jm_S} {G : Nat} (hG : G < 12) (h : I_gr σ G) {x w s z c : Int32} (hx : ¬ (x < 0 ∨ 3 < x)) (hb : ¬ jBad w s z c) : I_gr (jm_up (jm_up (jm_up (jm_up (jm_up (jm_up (jm_up (jm_up (jm_up (jm_up (jm_up (jm_up σ 1 2 (nI (G + 1))) 2 G x) 3 (4 * G) w) 3 (4 * G + 1) s) 3 (4 * G + 2) z) 3 (4 * G + 3) c) 66 G x) 67 (4 * G) w) 67 (4 * G + 1) s) 67 (4 * G + 2) z) 67 (4 * G + 3) c) 61 5 (nI (G + 1))) (G + 1) := by
  obtain ⟨p1, p2, p3, p4, p5, p6⟩ := h
  refine ⟨?_, ?_, by omega, ?_, ?_, ?_⟩
  · (repeat (first | rw [jup_s] | rw [jrow_s] | rw [jup_n _ _ _ (by omega)] | rw [jrow_n _ _ (by omega)]))
    simp [jupd]
  · rw [jup_s, jupd, if_pos rfl]
  · intro g hg
    by_cases e : g = G
    · subst e
      obtain ⟨p, hp, rfl⟩ := jN4 hx
      refine ⟨?_, p, hp, ?_⟩
      · (repeat (first | rw [jup_s] | rw [jrow_s] | rw [jup_n _ _ _ (by omega)] | rw [jrow_n _ _ (by omega)]))
        simp [jupd]
      · (repeat (first | rw [jup_s] | rw [jrow_s] | rw [jup_n _ _ _ (by omega)] | rw [jrow_n _ _ (by omega)]))
        simp [jupd]
    · obtain ⟨a, b⟩ := p4 g (by omega)
      have e1 : (jm_up (jm_up (jm_up (jm_up (jm_up (jm_up (jm_up (jm_up (jm_up (jm_up (jm_up (jm_up σ 1 2 (nI (G + 1))) 2 G x) 3 (4 * G) w) 3 (4 * G + 1) s) 3 (4 * G + 2) z) 3 (4 * G + 3) c) 66 G x) 67 (4 * G) w) 67 (4 * G + 1) s) 67 (4 * G + 2) z) 67 (4 * G + 3) c) 61 5 (nI (G + 1))) 2 g = σ 2 g := by
        (repeat (first | rw [jup_s] | rw [jrow_s] | rw [jup_n _ _ _ (by omega)] | rw [jrow_n _ _ (by omega)]))
        simp only [jupd, e, if_false]
        (repeat (first | rw [jup_s] | rw [jrow_s] | rw [jup_n _ _ _ (by omega)] | rw [jrow_n _ _ (by omega)]))
      have e2 : (jm_up (jm_up (jm_up (jm_up (jm_up (jm_up (jm_up (jm_up (jm_up (jm_up (jm_up (jm_up σ 1 2 (nI (G + 1))) 2 G x) 3 (4 * G) w) 3 (4 * G + 1) s) 3 (4 * G + 2) z) 3 (4 * G + 3) c) 66 G x) 67 (4 * G) w) 67 (4 * G + 1) s) 67 (4 * G + 2) z) 67 (4 * G + 3) c) 61 5 (nI (G + 1))) 66 g = σ 66 g := by
        (repeat (first | rw [jup_s] | rw [jrow_s] | rw [jup_n _ _ _ (by omega)] | rw [jrow_n _ _ (by omega)]))
        simp only [jupd, e, if_false]
        (repeat (first | rw [jup_s] | rw [jrow_s] | rw [jup_n _ _ _ (by omega)] | rw [jrow_n _ _ (by omega)]))
      rw [e1, e2]
      exact ⟨a, b⟩
  · intro j hj
    (repeat (first | rw [jup_s] | rw [jrow_s] | rw [jup_n _ _ _ (by omega)] | rw [jrow_n _ _ (by omega)]))
    simp only [jupd]
    by_cases e3 : j = 4 * G + 3
    · rw [if_pos e3, if_pos e3]
    · rw [if_neg e3, if_neg e3]
      by_cases e2 : j = 4 * G + 2
      · rw [if_pos e2, if_pos e2]
      · rw [if_neg e2, if_neg e2]
        by_cases e1 : j = 4 * G + 1
        · rw [if_pos e1, if_pos e1]
        · rw [if_neg e1, if_neg e1]
          by_cases e0 : j = 4 * G
          · rw [if_pos e0, if_pos e0]
          · rw [if_neg e0, if_neg e0]
            (repeat (first | rw [jup_s] | rw [jrow_s] | rw [jup_n _ _ _ (by omega)] | rw [jrow_n _ _ (by omega)]))
            exact p5 j (by omega)
  · intro g hg
    have hrow : (jm_up (jm_up (jm_up (jm_up (jm_up (jm_up (jm_up (jm_up (jm_up (jm_up (jm_up (jm_up σ 1 2 (nI (G + 1))) 2 G x) 3 (4 * G) w) 3 (4 * G + 1) s) 3 (4 * G + 2) z) 3 (4 * G + 3) c) 66 G x) 67 (4 * G) w) 67 (4 * G + 1) s) 67 (4 * G + 2) z) 67 (4 * G + 3) c) 61 5 (nI (G + 1))) 67 = upd (upd (upd (upd (σ 67) (4 * G) w) (4 * G + 1) s) (4 * G + 2) z) (4 * G + 3) c := by
      (repeat (first | rw [jup_s] | rw [jrow_s] | rw [jup_n _ _ _ (by omega)] | rw [jrow_n _ _ (by omega)]))
    rw [hrow]
    simp only [jupd]
    by_cases e : g = G
    · subst e
      rw [if_neg (show ¬ 4 * g = 4 * g + 3 by omega), if_neg (show ¬ 4 * g = 4 * g + 2 by omega), if_neg (show ¬ 4 * g = 4 * g + 1 by omega), if_pos rfl, if_neg (show ¬ 4 * g + 1 = 4 * g + 3 by omega), if_neg (show ¬ 4 * g + 1 = 4 * g + 2 by omega), if_pos rfl, if_neg (show ¬ 4 * g + 2 = 4 * g + 3 by omega), if_pos rfl, if_pos rfl]
      exact ⟨fun q => hb (Or.inl q), fun q => hb (Or.inr (Or.inl q)), fun q => hb (Or.inr (Or.inr (Or.inl q))), fun q => hb (Or.inr (Or.inr (Or.inr q)))⟩
    · rw [if_neg (by omega), if_neg (by omega), if_neg (by omega), if_neg (by omega), if_neg (by omega), if_neg (by omega), if_neg (by omega), if_neg (by omega), if_neg (by omega), if_neg (by omega), if_neg (by omega), if_neg (by omega), if_neg (by omega), if_neg (by omega), if_neg (by omega), if_neg (by omega)]
      exact p6 g (by omega)
theorem I_he_mono {σ ρ : jm_S} {G G' : Nat} (h : I_he σ G) (hG : G ≤ G') (h1 : ρ 38 2 = σ 38 2) (h2 : ρ 61 36 = σ 61 36) (h3 : ρ 39 = σ 39) (h4 : ρ 40 = σ 40) (h5 : ρ 87 = σ 87) (h6 : ρ 88 = σ 88) : I_he ρ G' := by
  obtain ⟨m, p1, p2, p3, p4⟩ := h
  refine ⟨m, p1, by rw [h1]; exact p2, by rw [h2]; exact p3, fun j hj => ?_⟩
  obtain ⟨q1, q2, ⟨g, hg, q3⟩, q4⟩ := p4 j hj
  rw [h3, h4, h5, h6]
  exact ⟨q1, q2, ⟨g, by omega, q3⟩, q4⟩
theorem A_grain {σ : jm_S} (h : I_gh σ) (x w s z c : Int32) : jSame σ jGS [5, 36] I_gh (jc 0 [.ref 0, .int x, .int w, .int s, .int z, .int c]) (jc 128 [.ref 61, .int x, .int w, .int s, .int z, .int c]) := by
  obtain ⟨G, hg, hh⟩ := id h
  have hG := hg.2.2.1
  have hP := P_grain hG x w s z c σ hg.1
  by_cases h1 : (x < 0 ∨ 3 < x) ∨ jBad w s z c
  · exact jSame_v h (hP.trans (if_pos h1)) ((M_grain hG x w s z c σ hg.2.1).trans (if_pos h1))
  · by_cases h2 : G < 12
    · rw [if_neg h1, if_pos h2] at hP
      refine ⟨_, _, _, hP, (M_grain hG x w s z c _ (by (repeat (first | rw [jup_s] | rw [jrow_s] | rw [jup_n _ _ _ (by omega)] | rw [jrow_n _ _ (by omega)])); exact hg.2.1)).trans ((if_neg h1).trans (if_pos h2)), ⟨G + 1, I_gr_add h2 hg (fun q => h1 (Or.inl q)) (fun q => h1 (Or.inr q)), I_he_mono hh (by omega) ?_ ?_ ?_ ?_ ?_ ?_⟩, ?_⟩
      · (repeat (first | rw [jup_s] | rw [jrow_s] | rw [jup_n _ _ _ (by omega)] | rw [jrow_n _ _ (by omega)]))
      · (repeat (first | rw [jup_s] | rw [jrow_s] | rw [jup_n _ _ _ (by omega)] | rw [jrow_n _ _ (by omega)]))
        rw [jupd, if_neg (by decide)]
        (repeat (first | rw [jup_s] | rw [jrow_s] | rw [jup_n _ _ _ (by omega)] | rw [jrow_n _ _ (by omega)]))
      · (repeat (first | rw [jup_s] | rw [jrow_s] | rw [jup_n _ _ _ (by omega)] | rw [jrow_n _ _ (by omega)]))
      · (repeat (first | rw [jup_s] | rw [jrow_s] | rw [jup_n _ _ _ (by omega)] | rw [jrow_n _ _ (by omega)]))
      · (repeat (first | rw [jup_s] | rw [jrow_s] | rw [jup_n _ _ _ (by omega)] | rw [jrow_n _ _ (by omega)]))
      · (repeat (first | rw [jup_s] | rw [jrow_s] | rw [jup_n _ _ _ (by omega)] | rw [jrow_n _ _ (by omega)]))
      · refine jFr.u61 ?_ (by decide)
        repeat (first | exact jFr.rf | refine jFr.up ?_ (by decide) (by decide))
    · rw [if_neg h1, if_neg h2] at hP
      exact jSame_v h hP ((M_grain hG x w s z c σ hg.2.1).trans ((if_neg h1).trans (if_neg h2)))
