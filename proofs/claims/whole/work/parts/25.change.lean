/-! ===== change, empty, set, heard ===== -/
theorem jpred {n : Nat} (hn : n ≤ 60) (i : Int32) : (i < 0 ∨ nI n - 1 < i) ↔ (i < 0 ∨ nI n ≤ i) := by
  have e1 : (nI n - 1).toInt = (n : Int) - 1 := by
    rw [show (1 : Int32) = nI 1 by decide +kernel, pk_sub_toInt (by omega) (by omega)]; rfl
  have e2 : (nI n).toInt = n := nI_toInt (by omega)
  rw [Int32.lt_iff_toInt_lt (x := nI n - 1), Int32.le_iff_toInt_le (x := nI n), e1, e2]
  constructor
  · rintro (a | a)
    · exact Or.inl a
    · exact Or.inr (by omega)
  · rintro (a | a)
    · exact Or.inl a
    · exact Or.inr (by omega)
theorem Grains_has {G : Nat} (x : Int32) (σ : jm_S) (h : σ 1 2 = nI G) : jc 11 [.ref 1, .int x] σ = some (some (.int (if x < 0 ∨ nI G ≤ x then 0 else 1)), σ) := by
  rw [Grains_has_in, h]
  by_cases h1 : x < 0
  · rw [if_pos h1, if_pos (Or.inl h1)]
  · rw [if_neg h1]
    by_cases h2 : nI G ≤ x
    · rw [if_pos h2, if_pos (Or.inr h2)]
    · rw [if_neg h2, if_neg (not_or.mpr ⟨h1, h2⟩)]
theorem M_isGrain {G : Nat} (hG : G ≤ 12) (x : Int32) (σ : jm_S) (h : σ 61 5 = nI G) : jc 133 [.ref 61, .int x] σ = some (some (.int (if x < 0 ∨ nI G ≤ x then 0 else 1)), σ) := by
  rw [M_isGrain_in, h, M_in x 0 (nI G - 1) 0 _ (by decide +kernel) rfl, jbi_some]
  by_cases h1 : x < 0 ∨ nI G ≤ x
  · rw [if_pos ((jpred (by omega) x).mpr h1), if_pos (by decide), if_pos h1]
  · rw [if_neg (fun q => h1 ((jpred (by omega) x).mp q)), if_pos (by decide), if_neg h1]
theorem jNg {G : Nat} (hG : G < 2 ^ 31) {x : Int32} (h : ¬ (x < 0 ∨ nI G ≤ x)) : ∃ g, g < G ∧ x = nI g := by
  obtain ⟨g, hg, rfl⟩ := nI_of (x := x) (fun q => h (Or.inl q))
  refine ⟨g, ?_, rfl⟩
  have : ¬ nI G ≤ nI g := fun q => h (Or.inr q)
  rw [nI_leI hG hg] at this
  omega
theorem A_empty {σ : jm_S} (h : I_gh σ) : jSame σ jGS [5, 36] I_gh (jc 13 [.ref 0]) (jc 134 [.ref 61]) := by
  obtain ⟨G, hg, hh⟩ := id h
  refine ⟨some (.int (nI G)), jm_up (jm_up σ 1 2 0) 38 2 0, jm_up (jm_up (jm_up (jm_up σ 1 2 0) 38 2 0) 61 5 0) 61 36 0, ?_, ?_, ⟨0, ⟨?_, ?_, by omega, ?_, ?_, ?_⟩, ⟨0, by omega, ?_, ?_, ?_⟩⟩, ?_⟩
  · rw [P_empty_in, hg.1]
  · rw [M_empty_in]
    congr 2
    (repeat (first | rw [jup_s] | rw [jrow_s] | rw [jup_n _ _ _ (by omega)] | rw [jrow_n _ _ (by omega)]))
    rw [hg.2.1]
  · (repeat (first | rw [jup_s] | rw [jrow_s] | rw [jup_n _ _ _ (by omega)] | rw [jrow_n _ _ (by omega)]))
    simp [jupd, nI_0]
  · (repeat (first | rw [jup_s] | rw [jrow_s] | rw [jup_n _ _ _ (by omega)] | rw [jrow_n _ _ (by omega)]))
    simp [jupd, nI_0]
  · intro g hg; omega
  · intro g hg; omega
  · intro g hg; omega
  · (repeat (first | rw [jup_s] | rw [jrow_s] | rw [jup_n _ _ _ (by omega)] | rw [jrow_n _ _ (by omega)]))
    simp [jupd, nI_0]
  · (repeat (first | rw [jup_s] | rw [jrow_s] | rw [jup_n _ _ _ (by omega)] | rw [jrow_n _ _ (by omega)]))
    simp [jupd, nI_0]
  · intro g hg; omega
  · exact (((jFr.rf.up (by decide) (by decide)).up (by decide) (by decide)).u61 (by decide)).u61 (by decide)
theorem I_gr_put {σ : jm_S} {G : Nat} (h : I_gr σ G) {g k : Nat} (hg : g < G) (hk : k < 4) {v : Int32} (hv : (k = 0 → ¬ (v < 0 ∨ 99 < v)) ∧ (k = 1 → ¬ (v < 1 ∨ 20 < v)) ∧ (k = 2 → ¬ (v < 1 ∨ 9 < v)) ∧ (k = 3 → ¬ (v < 0 ∨ 9 < v))) : I_gr (jm_up (jm_up σ 3 (4 * g + k) v) 67 (4 * g + k) v) G := by
  obtain ⟨p1, p2, p3, p4, p5, p6⟩ := h
  refine ⟨?_, ?_, p3, fun g' hg' => ?_, fun j hj => ?_, fun g' hg' => ?_⟩
  · (repeat (first | rw [jup_s] | rw [jrow_s] | rw [jup_n _ _ _ (by omega)] | rw [jrow_n _ _ (by omega)]))
    exact p1
  · (repeat (first | rw [jup_s] | rw [jrow_s] | rw [jup_n _ _ _ (by omega)] | rw [jrow_n _ _ (by omega)]))
    exact p2
  · (repeat (first | rw [jup_s] | rw [jrow_s] | rw [jup_n _ _ _ (by omega)] | rw [jrow_n _ _ (by omega)]))
    exact p4 g' hg'
  · (repeat (first | rw [jup_s] | rw [jrow_s] | rw [jup_n _ _ _ (by omega)] | rw [jrow_n _ _ (by omega)]))
    simp only [jupd]
    by_cases e : j = 4 * g + k
    · rw [if_pos e, if_pos e]
    · rw [if_neg e, if_neg e]
      (repeat (first | rw [jup_s] | rw [jrow_s] | rw [jup_n _ _ _ (by omega)] | rw [jrow_n _ _ (by omega)]))
      exact p5 j hj
  · obtain ⟨a, b, c, d⟩ := p6 g' hg'
    rw [jup_s, jup_n _ _ _ (by decide)]
    simp only [jupd]
    refine ⟨?_, ?_, ?_, ?_⟩
    · by_cases e : 4 * g' = 4 * g + k
      · rw [if_pos e]; exact hv.1 (by omega)
      · rw [if_neg e]; exact a
    · by_cases e : 4 * g' + 1 = 4 * g + k
      · rw [if_pos e]; exact hv.2.1 (by omega)
      · rw [if_neg e]; exact b
    · by_cases e : 4 * g' + 2 = 4 * g + k
      · rw [if_pos e]; exact hv.2.2.1 (by omega)
      · rw [if_neg e]; exact c
    · by_cases e : 4 * g' + 3 = 4 * g + k
      · rw [if_pos e]; exact hv.2.2.2 (by omega)
      · rw [if_neg e]; exact d
theorem A_change {σ : jm_S} (h : I_gh σ) (x y v : Int32) : jSame σ jGS [5, 36] I_gh (jc 10 [.ref 0, .int x, .int y, .int v]) (jc 132 [.ref 61, .int x, .int y, .int v]) := by
  obtain ⟨G, hg, hh⟩ := id h
  have hG := hg.2.2.1
  by_cases h1 : x < 0 ∨ nI G ≤ x
  · refine jSame_v h (v := some (.int (-2))) ?_ ?_
    · rw [P_change_in, Grains_has x σ hg.1, jbi_some, if_pos h1, if_pos rfl]
    · rw [M_change_in, M_isGrain hG x σ hg.2.1, jbi_some, if_pos h1, if_pos rfl]
  by_cases h2 : y < 0 ∨ 3 < y
  · refine jSame_v h (v := some (.int (-2))) ?_ ?_
    · rw [P_change_in, Grains_has x σ hg.1, jbi_some, if_neg h1, if_neg (by decide), P_isOutside, jbi_some, if_pos h2, if_pos (by decide)]
    · rw [M_change_in, M_isGrain hG x σ hg.2.1, jbi_some, if_neg h1, if_neg (by decide), M_in y 0 3 0 3 (by decide +kernel) (by decide +kernel), jbi_some, if_pos h2, if_pos rfl]
  obtain ⟨g, hg1, rfl⟩ := jNg (by omega) h1
  have hP0 : ∀ b : Prop, ∀ d : Decidable b, jc 3 [.int y, .int v] σ = some (some (.int (@ite _ b d 0 1)), σ) → jc 10 [.ref 0, .int (nI g), .int y, .int v] σ = if b then some (some (.int (-2)), σ) else jbi (jc 12 [(.ref 1), (.int (nI g)), (.int y)] σ) (fun r4 τ4 => jbv (jc 6 [(.ref 1), (.int (nI g)), (.int y), (.int v)] τ4) (fun τ5 => some (some (.int r4), τ5))) := by
    intro b d e
    rw [P_change_in, Grains_has _ σ hg.1, jbi_some, if_neg h1, if_neg (by decide), P_isOutside, jbi_some, if_neg h2, if_neg (by decide), e, jbi_some]
    by_cases hb : b
    · rw [if_pos hb, if_neg (by decide), if_pos hb]
    · rw [if_neg hb, if_pos (by decide), if_neg hb]
  have hM0 : ∀ τ : jm_S, τ 61 5 = nI G → ∀ b : Prop, ∀ d : Decidable b, jc 130 [.int y, .int v] τ = some (some (.int (@ite _ b d 0 1)), τ) → jc 132 [.ref 61, .int (nI g), .int y, .int v] τ = if b then some (some (.int (-2)), τ) else (if (((4 : Int32) * nI g) + y) < 0 ∨ 48 ≤ (((4 : Int32) * nI g) + y).toNatClampNeg then none else (if (((4 : Int32) * nI g) + y) < 0 ∨ 48 ≤ (((4 : Int32) * nI g) + y).toNatClampNeg then none else some (some (.int (τ 67 (((4 : Int32) * nI g) + y).toNatClampNeg)), (jm_up τ 67 (((4 : Int32) * nI g) + y).toNatClampNeg v)))) := by
    intro τ e1 b d e
    rw [M_change_in, M_isGrain hG _ τ e1, jbi_some, if_neg h1, if_neg (by decide), M_in y 0 3 0 3 (by decide +kernel) (by decide +kernel), jbi_some, if_neg h2, if_neg (by decide), e, jbi_some]
    by_cases hb : b
    · rw [if_pos hb, if_neg (by decide), if_pos hb]
    · rw [if_neg hb, if_pos (by decide), if_neg hb]
  have fin : ∀ k, k < 4 → y = nI k → ∀ b : Prop, ∀ d : Decidable b, (¬ b → (k = 0 → ¬ (v < 0 ∨ 99 < v)) ∧ (k = 1 → ¬ (v < 1 ∨ 20 < v)) ∧ (k = 2 → ¬ (v < 1 ∨ 9 < v)) ∧ (k = 3 → ¬ (v < 0 ∨ 9 < v))) → (jc 3 [.int y, .int v] σ = some (some (.int (@ite _ b d 0 1)), σ)) → (∀ τ, jc 130 [.int y, .int v] τ = some (some (.int (@ite _ b d 0 1)), τ)) → jSame σ jGS [5, 36] I_gh (jc 10 [.ref 0, .int (nI g), .int y, .int v]) (jc 132 [.ref 61, .int (nI g), .int y, .int v]) := by
    rintro k hk rfl b d hbv eP eM
    have hP := hP0 b d eP
    by_cases hb : b
    · exact jSame_v h (hP.trans (if_pos hb)) ((hM0 σ hg.2.1 b d (eM σ)).trans (if_pos hb))
    · rw [if_neg hb] at hP
      simp only [Grains_trait_in, Grains_put_in, j4gk, nI_clamp (show 4 * g + k < 2 ^ 31 by omega), jbad2 (show 4 * g + k < 48 by omega) (by decide), if_false, jbi_some, jbv_some] at hP
      refine ⟨_, _, jm_up (jm_up σ 3 (4 * g + k) v) 67 (4 * g + k) v, hP, ?_, ⟨G, I_gr_put hg hg1 hk (hbv hb), I_he_mono hh (Nat.le_refl G) ?_ ?_ ?_ ?_ ?_ ?_⟩, ?_⟩
      · rw [hM0 _ (by (repeat (first | rw [jup_s] | rw [jrow_s] | rw [jup_n _ _ _ (by omega)] | rw [jrow_n _ _ (by omega)])); exact hg.2.1) b d (eM _), if_neg hb]
        simp only [j4m, nI_add, nI_clamp (show 4 * g + k < 2 ^ 31 by omega), jbad2 (show 4 * g + k < 48 by omega) (by decide), if_false]
        rw [jup_n _ _ _ (by decide), hg.2.2.2.2.1 (4 * g + k) (by omega)]
      · (repeat (first | rw [jup_s] | rw [jrow_s] | rw [jup_n _ _ _ (by omega)] | rw [jrow_n _ _ (by omega)]))
      · (repeat (first | rw [jup_s] | rw [jrow_s] | rw [jup_n _ _ _ (by omega)] | rw [jrow_n _ _ (by omega)]))
      · (repeat (first | rw [jup_s] | rw [jrow_s] | rw [jup_n _ _ _ (by omega)] | rw [jrow_n _ _ (by omega)]))
      · (repeat (first | rw [jup_s] | rw [jrow_s] | rw [jup_n _ _ _ (by omega)] | rw [jrow_n _ _ (by omega)]))
      · (repeat (first | rw [jup_s] | rw [jrow_s] | rw [jup_n _ _ _ (by omega)] | rw [jrow_n _ _ (by omega)]))
      · (repeat (first | rw [jup_s] | rw [jrow_s] | rw [jup_n _ _ _ (by omega)] | rw [jrow_n _ _ (by omega)]))
      · exact (jFr.rf.up (by decide) (by decide)).up (by decide) (by decide)
  rcases j4 h2 with rfl | rfl | rfl | rfl
  · exact fin 0 (by omega) (by decide +kernel) _ _ (fun q => ⟨fun _ => q, fun e => by omega, fun e => by omega, fun e => by omega⟩) (P_mayBe0 v σ) (M_isOf0 v)
  · exact fin 1 (by omega) (by decide +kernel) _ _ (fun q => ⟨fun e => by omega, fun _ => q, fun e => by omega, fun e => by omega⟩) (P_mayBe1 v σ) (M_isOf1 v)
  · exact fin 2 (by omega) (by decide +kernel) _ _ (fun q => ⟨fun e => by omega, fun e => by omega, fun _ => q, fun e => by omega⟩) (P_mayBe2 v σ) (M_isOf2 v)
  · exact fin 3 (by omega) (by decide +kernel) _ _ (fun q => ⟨fun e => by omega, fun e => by omega, fun e => by omega, fun _ => q⟩) (P_mayBe3 v σ) (M_isOf3 v)
theorem j6 {x : Int32} (h : ¬ (x < 0 ∨ 5 < x)) : x = 0 ∨ x = 1 ∨ x = 2 ∨ x = 3 ∨ x = 4 ∨ x = 5 := by
  obtain ⟨j, hj, rfl⟩ := jN (n := 5) (by decide +kernel) h
  match j, hj with
  | 0, _ => exact Or.inl (by decide +kernel)
  | 1, _ => exact Or.inr (Or.inl (by decide +kernel))
  | 2, _ => exact Or.inr (Or.inr (Or.inl (by decide +kernel)))
  | 3, _ => exact Or.inr (Or.inr (Or.inr (Or.inl (by decide +kernel))))
  | 4, _ => exact Or.inr (Or.inr (Or.inr (Or.inr (Or.inl (by decide +kernel)))))
  | 5, _ => exact Or.inr (Or.inr (Or.inr (Or.inr (Or.inr (by decide +kernel)))))
  | n + 6, h => omega
theorem jn4 : (4 : Int32).toNatClampNeg = 4 := by decide +kernel
theorem jn5 : (5 : Int32).toNatClampNeg = 5 := by decide +kernel
theorem jbd4 (N : Nat) (h : 4 < N) : ((4 : Int32) < 0 ∨ N ≤ (4 : Int32).toNatClampNeg) = False := jbadx (by decide +kernel) (by rw [jn4]; exact h)
theorem jbd5 (N : Nat) (h : 5 < N) : ((5 : Int32) < 0 ∨ N ≤ (5 : Int32).toNatClampNeg) = False := jbadx (by decide +kernel) (by rw [jn5]; exact h)
theorem I_se_put {σ : jm_S} (h : I_se σ) {k : Nat} (hk : k < 6) {v : Int32} (h0 : k = 0 → ¬ (v < 0 ∨ 99 < v)) (h1 : k = 1 → ¬ (v < 5 ∨ 15 < v)) : I_se (jm_up (jm_up σ 4 k v) 68 k v) := by
  refine ⟨fun j hj => ?_, ?_, ?_⟩
  · (repeat (first | rw [jup_s] | rw [jrow_s] | rw [jup_n _ _ _ (by omega)] | rw [jrow_n _ _ (by omega)]))
    simp only [jupd]
    by_cases e : j = k
    · rw [if_pos e, if_pos e]
    · rw [if_neg e, if_neg e]
      (repeat (first | rw [jup_s] | rw [jrow_s] | rw [jup_n _ _ _ (by omega)] | rw [jrow_n _ _ (by omega)]))
      exact h.1 j hj
  · rw [jup_s, jup_n _ _ _ (by decide)]
    simp only [jupd]
    by_cases e : 0 = k
    · rw [if_pos e]; exact h0 e.symm
    · rw [if_neg e]; exact h.2.1
  · rw [jup_s, jup_n _ _ _ (by decide)]
    simp only [jupd]
    by_cases e : 1 = k
    · rw [if_pos e]; exact h1 e.symm
    · rw [if_neg e]; exact h.2.2
theorem A_set {σ : jm_S} (h : I_se σ) (x v : Int32) : jSame σ [4, 68] [] I_se (jc 14 [.ref 0, .int x, .int v]) (jc 135 [.ref 61, .int x, .int v]) := by
  by_cases hx : x < 0 ∨ 5 < x
  · refine jSame_v h (v := some (.int (-2))) ?_ ?_
    · rw [P_set_in, P_isOutside, jbi_some, if_pos hx, if_pos (by decide)]
    · have h1 : ¬ x = 1 := fun e => by rw [e] at hx; exact absurd hx (by decide +kernel)
      rw [M_set_in, if_pos h1, M_in x 0 5 0 5 (by decide +kernel) (by decide +kernel), jbi_some, if_pos hx, if_pos rfl]
  rcases j6 hx with rfl | rfl | rfl | rfl | rfl | rfl
  · have hP : jc 14 [.ref 0, .int 0, .int v] σ = if v < 0 ∨ 99 < v then some (some (.int (-2)), σ) else some (some (.int (σ 4 0)), jm_up σ 4 0 v) := by
      rw [P_set_in, P_isOutside, jbi_some, if_neg hx, if_neg (by decide)]
      simp only [jbd0 6 (by decide), if_false]
      simp only [jn0]
      rw [show ([0, 5, 1, 0, 0, 0] : List Int32).getD 0 0 = 0 from rfl, show ([99, 15, 99, 99, 99, 99] : List Int32).getD 0 0 = 99 from rfl, P_isOutside, jbi_some]
      by_cases hv : v < 0 ∨ 99 < v
      · rw [if_pos hv, if_neg (by decide), if_pos hv]
      · rw [if_neg hv, if_pos rfl, if_neg hv]
    have hM : ∀ τ : jm_S, jc 135 [.ref 61, .int 0, .int v] τ = if v < 0 ∨ 99 < v then some (some (.int (-2)), τ) else some (some (.int (τ 68 0)), jm_up τ 68 0 v) := by
      intro τ
      rw [M_set_in, if_pos (show ¬ (0 : Int32) = 1 by decide), M_in 0 0 5 0 5 (by decide +kernel) (by decide +kernel), jbi_some, if_neg hx, if_neg (by decide), if_pos (show ¬ (0 : Int32) = 2 by decide)]
      simp only [jbd0 6 (by decide), if_false]
      simp only [jn0]
      rw [M_in v 0 99 0 99 (by decide +kernel) (by decide +kernel), jbi_some]
      by_cases hv : v < 0 ∨ 99 < v
      · rw [if_pos hv, if_pos hv]; rfl
      · rw [if_neg hv, if_neg hv]; rfl
    by_cases hv : v < 0 ∨ 99 < v
    · exact jSame_v h (hP.trans (if_pos hv)) ((hM σ).trans (if_pos hv))
    · refine ⟨_, _, _, hP.trans (if_neg hv), (hM _).trans ((if_neg hv).trans ?_), I_se_put (v := v) h (k := 0) (by omega) (fun e => ?_) (fun e => ?_), (jFr.rf.up (by decide) (by decide)).up (by decide) (by decide)⟩
      · rw [jup_n _ _ _ (by decide), h.1 0 (by omega)]
      · first | exact hv | exact absurd e (by decide)
      · first | exact hv | exact absurd e (by decide)
  · have hP : jc 14 [.ref 0, .int 1, .int v] σ = if v < 5 ∨ 15 < v then some (some (.int (-2)), σ) else some (some (.int (σ 4 1)), jm_up σ 4 1 v) := by
      rw [P_set_in, P_isOutside, jbi_some, if_neg hx, if_neg (by decide)]
      simp only [jbd1 6 (by decide), if_false]
      simp only [jn1]
      rw [show ([0, 5, 1, 0, 0, 0] : List Int32).getD 1 0 = 5 from rfl, show ([99, 15, 99, 99, 99, 99] : List Int32).getD 1 0 = 15 from rfl, P_isOutside, jbi_some]
      by_cases hv : v < 5 ∨ 15 < v
      · rw [if_pos hv, if_neg (by decide), if_pos hv]
      · rw [if_neg hv, if_pos rfl, if_neg hv]
    have hM : ∀ τ : jm_S, jc 135 [.ref 61, .int 1, .int v] τ = if v < 5 ∨ 15 < v then some (some (.int (-2)), τ) else some (some (.int (τ 68 1)), jm_up τ 68 1 v) := by
      intro τ
      rw [M_set_in, if_neg (show ¬ ¬ (1 : Int32) = 1 by decide)]
      simp only [jbd1 6 (by decide), if_false]
      simp only [jn1]
      rw [M_in v 5 15 5 15 (by decide +kernel) (by decide +kernel), jbi_some]
      by_cases hv : v < 5 ∨ 15 < v
      · rw [if_pos hv, if_pos hv]; rfl
      · rw [if_neg hv, if_neg hv]; rfl
    by_cases hv : v < 5 ∨ 15 < v
    · exact jSame_v h (hP.trans (if_pos hv)) ((hM σ).trans (if_pos hv))
    · refine ⟨_, _, _, hP.trans (if_neg hv), (hM _).trans ((if_neg hv).trans ?_), I_se_put (v := v) h (k := 1) (by omega) (fun e => ?_) (fun e => ?_), (jFr.rf.up (by decide) (by decide)).up (by decide) (by decide)⟩
      · rw [jup_n _ _ _ (by decide), h.1 1 (by omega)]
      · first | exact hv | exact absurd e (by decide)
      · first | exact hv | exact absurd e (by decide)
  · have hP : jc 14 [.ref 0, .int 2, .int v] σ = if v < 1 ∨ 99 < v then some (some (.int (-2)), σ) else some (some (.int (σ 4 2)), jm_up σ 4 2 v) := by
      rw [P_set_in, P_isOutside, jbi_some, if_neg hx, if_neg (by decide)]
      simp only [jbd2 6 (by decide), if_false]
      simp only [jn2]
      rw [show ([0, 5, 1, 0, 0, 0] : List Int32).getD 2 0 = 1 from rfl, show ([99, 15, 99, 99, 99, 99] : List Int32).getD 2 0 = 99 from rfl, P_isOutside, jbi_some]
      by_cases hv : v < 1 ∨ 99 < v
      · rw [if_pos hv, if_neg (by decide), if_pos hv]
      · rw [if_neg hv, if_pos rfl, if_neg hv]
    have hM : ∀ τ : jm_S, jc 135 [.ref 61, .int 2, .int v] τ = if v < 1 ∨ 99 < v then some (some (.int (-2)), τ) else some (some (.int (τ 68 2)), jm_up τ 68 2 v) := by
      intro τ
      rw [M_set_in, if_pos (show ¬ (2 : Int32) = 1 by decide), M_in 2 0 5 0 5 (by decide +kernel) (by decide +kernel), jbi_some, if_neg hx, if_neg (by decide), if_neg (show ¬ ¬ (2 : Int32) = 2 by decide)]
      simp only [jbd2 6 (by decide), if_false]
      simp only [jn2]
      rw [M_in v 1 99 1 99 (by decide +kernel) (by decide +kernel), jbi_some]
      by_cases hv : v < 1 ∨ 99 < v
      · rw [if_pos hv, if_pos hv]; rfl
      · rw [if_neg hv, if_neg hv]; rfl
    by_cases hv : v < 1 ∨ 99 < v
    · exact jSame_v h (hP.trans (if_pos hv)) ((hM σ).trans (if_pos hv))
    · refine ⟨_, _, _, hP.trans (if_neg hv), (hM _).trans ((if_neg hv).trans ?_), I_se_put (v := v) h (k := 2) (by omega) (fun e => ?_) (fun e => ?_), (jFr.rf.up (by decide) (by decide)).up (by decide) (by decide)⟩
      · rw [jup_n _ _ _ (by decide), h.1 2 (by omega)]
      · first | exact hv | exact absurd e (by decide)
      · first | exact hv | exact absurd e (by decide)
  · have hP : jc 14 [.ref 0, .int 3, .int v] σ = if v < 0 ∨ 99 < v then some (some (.int (-2)), σ) else some (some (.int (σ 4 3)), jm_up σ 4 3 v) := by
      rw [P_set_in, P_isOutside, jbi_some, if_neg hx, if_neg (by decide)]
      simp only [jbd3 6 (by decide), if_false]
      simp only [jn3]
      rw [show ([0, 5, 1, 0, 0, 0] : List Int32).getD 3 0 = 0 from rfl, show ([99, 15, 99, 99, 99, 99] : List Int32).getD 3 0 = 99 from rfl, P_isOutside, jbi_some]
      by_cases hv : v < 0 ∨ 99 < v
      · rw [if_pos hv, if_neg (by decide), if_pos hv]
      · rw [if_neg hv, if_pos rfl, if_neg hv]
    have hM : ∀ τ : jm_S, jc 135 [.ref 61, .int 3, .int v] τ = if v < 0 ∨ 99 < v then some (some (.int (-2)), τ) else some (some (.int (τ 68 3)), jm_up τ 68 3 v) := by
      intro τ
      rw [M_set_in, if_pos (show ¬ (3 : Int32) = 1 by decide), M_in 3 0 5 0 5 (by decide +kernel) (by decide +kernel), jbi_some, if_neg hx, if_neg (by decide), if_pos (show ¬ (3 : Int32) = 2 by decide)]
      simp only [jbd3 6 (by decide), if_false]
      simp only [jn3]
      rw [M_in v 0 99 0 99 (by decide +kernel) (by decide +kernel), jbi_some]
      by_cases hv : v < 0 ∨ 99 < v
      · rw [if_pos hv, if_pos hv]; rfl
      · rw [if_neg hv, if_neg hv]; rfl
    by_cases hv : v < 0 ∨ 99 < v
    · exact jSame_v h (hP.trans (if_pos hv)) ((hM σ).trans (if_pos hv))
    · refine ⟨_, _, _, hP.trans (if_neg hv), (hM _).trans ((if_neg hv).trans ?_), I_se_put (v := v) h (k := 3) (by omega) (fun e => ?_) (fun e => ?_), (jFr.rf.up (by decide) (by decide)).up (by decide) (by decide)⟩
      · rw [jup_n _ _ _ (by decide), h.1 3 (by omega)]
      · first | exact hv | exact absurd e (by decide)
      · first | exact hv | exact absurd e (by decide)
  · have hP : jc 14 [.ref 0, .int 4, .int v] σ = if v < 0 ∨ 99 < v then some (some (.int (-2)), σ) else some (some (.int (σ 4 4)), jm_up σ 4 4 v) := by
      rw [P_set_in, P_isOutside, jbi_some, if_neg hx, if_neg (by decide)]
      simp only [jbd4 6 (by decide), if_false]
      simp only [jn4]
      rw [show ([0, 5, 1, 0, 0, 0] : List Int32).getD 4 0 = 0 from rfl, show ([99, 15, 99, 99, 99, 99] : List Int32).getD 4 0 = 99 from rfl, P_isOutside, jbi_some]
      by_cases hv : v < 0 ∨ 99 < v
      · rw [if_pos hv, if_neg (by decide), if_pos hv]
      · rw [if_neg hv, if_pos rfl, if_neg hv]
    have hM : ∀ τ : jm_S, jc 135 [.ref 61, .int 4, .int v] τ = if v < 0 ∨ 99 < v then some (some (.int (-2)), τ) else some (some (.int (τ 68 4)), jm_up τ 68 4 v) := by
      intro τ
      rw [M_set_in, if_pos (show ¬ (4 : Int32) = 1 by decide), M_in 4 0 5 0 5 (by decide +kernel) (by decide +kernel), jbi_some, if_neg hx, if_neg (by decide), if_pos (show ¬ (4 : Int32) = 2 by decide)]
      simp only [jbd4 6 (by decide), if_false]
      simp only [jn4]
      rw [M_in v 0 99 0 99 (by decide +kernel) (by decide +kernel), jbi_some]
      by_cases hv : v < 0 ∨ 99 < v
      · rw [if_pos hv, if_pos hv]; rfl
      · rw [if_neg hv, if_neg hv]; rfl
    by_cases hv : v < 0 ∨ 99 < v
    · exact jSame_v h (hP.trans (if_pos hv)) ((hM σ).trans (if_pos hv))
    · refine ⟨_, _, _, hP.trans (if_neg hv), (hM _).trans ((if_neg hv).trans ?_), I_se_put (v := v) h (k := 4) (by omega) (fun e => ?_) (fun e => ?_), (jFr.rf.up (by decide) (by decide)).up (by decide) (by decide)⟩
      · rw [jup_n _ _ _ (by decide), h.1 4 (by omega)]
      · first | exact hv | exact absurd e (by decide)
      · first | exact hv | exact absurd e (by decide)
  · have hP : jc 14 [.ref 0, .int 5, .int v] σ = if v < 0 ∨ 99 < v then some (some (.int (-2)), σ) else some (some (.int (σ 4 5)), jm_up σ 4 5 v) := by
      rw [P_set_in, P_isOutside, jbi_some, if_neg hx, if_neg (by decide)]
      simp only [jbd5 6 (by decide), if_false]
      simp only [jn5]
      rw [show ([0, 5, 1, 0, 0, 0] : List Int32).getD 5 0 = 0 from rfl, show ([99, 15, 99, 99, 99, 99] : List Int32).getD 5 0 = 99 from rfl, P_isOutside, jbi_some]
      by_cases hv : v < 0 ∨ 99 < v
      · rw [if_pos hv, if_neg (by decide), if_pos hv]
      · rw [if_neg hv, if_pos rfl, if_neg hv]
    have hM : ∀ τ : jm_S, jc 135 [.ref 61, .int 5, .int v] τ = if v < 0 ∨ 99 < v then some (some (.int (-2)), τ) else some (some (.int (τ 68 5)), jm_up τ 68 5 v) := by
      intro τ
      rw [M_set_in, if_pos (show ¬ (5 : Int32) = 1 by decide), M_in 5 0 5 0 5 (by decide +kernel) (by decide +kernel), jbi_some, if_neg hx, if_neg (by decide), if_pos (show ¬ (5 : Int32) = 2 by decide)]
      simp only [jbd5 6 (by decide), if_false]
      simp only [jn5]
      rw [M_in v 0 99 0 99 (by decide +kernel) (by decide +kernel), jbi_some]
      by_cases hv : v < 0 ∨ 99 < v
      · rw [if_pos hv, if_pos hv]; rfl
      · rw [if_neg hv, if_neg hv]; rfl
    by_cases hv : v < 0 ∨ 99 < v
    · exact jSame_v h (hP.trans (if_pos hv)) ((hM σ).trans (if_pos hv))
    · refine ⟨_, _, _, hP.trans (if_neg hv), (hM _).trans ((if_neg hv).trans ?_), I_se_put (v := v) h (k := 5) (by omega) (fun e => ?_) (fun e => ?_), (jFr.rf.up (by decide) (by decide)).up (by decide) (by decide)⟩
      · rw [jup_n _ _ _ (by decide), h.1 5 (by omega)]
      · first | exact hv | exact absurd e (by decide)
      · first | exact hv | exact absurd e (by decide)
theorem A_heard {σ : jm_S} (h : I_gh σ) (x y : Int32) : jSame σ jGS [5, 36] I_gh (jc 93 [.ref 0, .int x, .int y]) (jc 194 [.ref 61, .int x, .int y]) := by
  obtain ⟨G, hg, hh⟩ := id h
  have hG := hg.2.2.1
  by_cases h1 : x < 0 ∨ nI G ≤ x
  · refine jSame_v h (v := some (.int (-2))) ?_ ?_
    · rw [P_heard_in, Grains_has x σ hg.1, jbi_some, if_pos h1, if_pos rfl]
    · rw [M_heard_in, M_isGrain hG x σ hg.2.1, jbi_some, if_pos h1, if_pos rfl]
  by_cases h2 : y < 0 ∨ 199 < y
  · refine jSame_v h (v := some (.int (-2))) ?_ ?_
    · rw [P_heard_in, Grains_has x σ hg.1, jbi_some, if_neg h1, if_neg (by decide), P_isOutside, jbi_some, if_pos h2, if_neg (by decide)]
    · rw [M_heard_in, M_isGrain hG x σ hg.2.1, jbi_some, if_neg h1, if_neg (by decide), M_in y 0 199 0 199 (by decide +kernel) (by decide +kernel), jbi_some, if_pos h2, if_neg (by decide)]
  obtain ⟨g, hg1, rfl⟩ := jNg (by omega) h1
  obtain ⟨s, hs1, rfl⟩ := jN (n := 199) (by decide +kernel) h2
  obtain ⟨m, q1, q2, q3, q4⟩ := id hh
  have hP : jc 93 [.ref 0, .int (nI g), .int (nI s)] σ = if m < 12 then some (some (.int (nI (m + 1))), jm_up (jm_up (jm_up σ 39 m (nI g)) 40 m (nI s)) 38 2 (nI (m + 1))) else some (some (.int (-4)), σ) := by
    rw [P_heard_in, Grains_has _ σ hg.1, jbi_some, if_neg h1, if_neg (by decide), P_isOutside, jbi_some, if_neg h2, if_pos rfl, Hearing_isFull_in, q2, show (12 : Int32) = nI 12 by decide +kernel]
    by_cases h3 : m < 12
    · rw [if_pos (nI_lt h3 (by omega)), jbi_some, if_pos rfl, Hearing_add_in, q2]
      simp only [nI_clamp (show m < 2 ^ 31 by omega), jbad2 h3 (by decide), if_false, jbv_some, nI_1, if_pos h3]
      rw [jup_s, jupd, if_pos rfl]
    · rw [if_neg (nI_nlt (by omega) (by omega)), jbi_some, if_neg (by decide), if_neg h3]
  have hM : ∀ τ : jm_S, τ 61 5 = nI G → τ 61 36 = nI m → jc 194 [.ref 61, .int (nI g), .int (nI s)] τ = if m < 12 then some (some (.int (nI (m + 1))), jm_up (jm_up (jm_up τ 87 m (nI g)) 88 m (nI s)) 61 36 (nI (m + 1))) else some (some (.int (-4)), τ) := by
    intro τ e1 e2
    rw [M_heard_in, M_isGrain hG _ τ e1, jbi_some, if_neg h1, if_neg (by decide), M_in (nI s) 0 199 0 199 (by decide +kernel) (by decide +kernel), jbi_some, if_neg h2, if_pos (by decide), e2]
    by_cases h3 : m < 12
    · have hne : ¬ nI m = 12 := by
        rw [show (12 : Int32) = nI 12 by decide +kernel, nI_eq (by omega) (by decide)]; omega
      rw [if_pos hne]
      simp only [nI_clamp (show m < 2 ^ 31 by omega), jbad2 h3 (by decide), if_false, nI_1, if_pos h3]
    · have he : nI m = 12 := by rw [show m = 12 by omega]; decide +kernel
      rw [if_neg (fun q => q he), if_neg h3]
  by_cases h3 : m < 12
  · refine ⟨_, _, _, hP.trans (if_pos h3), (hM _ ?_ ?_).trans (if_pos h3), ⟨G, ⟨?_, ?_, hG, ?_, ?_, ?_⟩, ⟨m + 1, by omega, ?_, ?_, ?_⟩⟩, ?_⟩
    · (repeat (first | rw [jup_s] | rw [jrow_s] | rw [jup_n _ _ _ (by omega)] | rw [jrow_n _ _ (by omega)]))
      exact hg.2.1
    · (repeat (first | rw [jup_s] | rw [jrow_s] | rw [jup_n _ _ _ (by omega)] | rw [jrow_n _ _ (by omega)]))
      exact q3
    · (repeat (first | rw [jup_s] | rw [jrow_s] | rw [jup_n _ _ _ (by omega)] | rw [jrow_n _ _ (by omega)]))
      exact hg.1
    · (repeat (first | rw [jup_s] | rw [jrow_s] | rw [jup_n _ _ _ (by omega)] | rw [jrow_n _ _ (by omega)]))
      rw [jupd, if_neg (by decide)]
      (repeat (first | rw [jup_s] | rw [jrow_s] | rw [jup_n _ _ _ (by omega)] | rw [jrow_n _ _ (by omega)]))
      exact hg.2.1
    · (repeat (first | rw [jup_s] | rw [jrow_s] | rw [jup_n _ _ _ (by omega)] | rw [jrow_n _ _ (by omega)]))
      exact hg.2.2.2.1
    · (repeat (first | rw [jup_s] | rw [jrow_s] | rw [jup_n _ _ _ (by omega)] | rw [jrow_n _ _ (by omega)]))
      exact hg.2.2.2.2.1
    · (repeat (first | rw [jup_s] | rw [jrow_s] | rw [jup_n _ _ _ (by omega)] | rw [jrow_n _ _ (by omega)]))
      exact hg.2.2.2.2.2
    · (repeat (first | rw [jup_s] | rw [jrow_s] | rw [jup_n _ _ _ (by omega)] | rw [jrow_n _ _ (by omega)]))
      rw [jupd, if_pos rfl]
    · rw [jup_s, jupd, if_pos rfl]
    · intro j hj
      (repeat (first | rw [jup_s] | rw [jrow_s] | rw [jup_n _ _ _ (by omega)] | rw [jrow_n _ _ (by omega)]))
      simp only [jupd]
      by_cases e : j = m
      · simp only [if_pos e]
        exact ⟨trivial, trivial, ⟨g, hg1, rfl⟩, s, by omega, rfl⟩
      · simp only [if_neg e]
        (repeat (first | rw [jup_s] | rw [jrow_s] | rw [jup_n _ _ _ (by omega)] | rw [jrow_n _ _ (by omega)]))
        exact q4 j (by omega)
    · exact (((((jFr.rf.up (by decide) (by decide)).up (by decide) (by decide)).up (by decide) (by decide)).up (by decide) (by decide)).up (by decide) (by decide)).u61 (by decide)
  · exact jSame_v h (hP.trans (if_neg h3)) ((hM σ hg.2.1 q3).trans (if_neg h3))
