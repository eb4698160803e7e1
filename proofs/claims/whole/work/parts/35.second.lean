/-! ===== a batch: one second ===== -/
theorem nI_m1 {n : Nat} (h : 0 < n) : nI n - 1 = nI (n - 1) := by
  rw [show n = (n - 1) + 1 by omega, nI_pred]; rfl
def qq (l : Int32) : Int32 := if l = 0 then 32 else 64
theorem qq0 (l : Int32) : ¬ qq l = 0 := by unfold qq; split <;> decide
theorem strainS_11 {g : Nat} (hg : g < 12) (σ : jm_S) : ∃ ρ, jc 45 [.ref 11, .int (nI g)] σ = some (none, ρ) ∧ (∀ c, c ∉ [11, 16, 17, 18, 19, 20] → ρ c = σ c) ∧ (∀ j, j ≠ g → ρ 16 j = σ 16 j ∧ ρ 17 j = σ 17 j ∧ ρ 18 j = σ 18 j ∧ ρ 19 j = σ 19 j ∧ ρ 20 j = σ 20 j) ∧ (∀ k, k ≠ 14 → k ≠ 16 → ρ 11 k = σ 11 k) ∧ ρ 17 g = xP (σ 15 g) (σ 16 g) ∧
    ρ 16 g = (if xO (σ 11 13) (σ 11 12) (σ 12 g) (σ 15 g) (σ 16 g) then σ 16 g else if σ 15 g ≤ 250 then xW (σ 14 g) (σ 15 g) (σ 16 g) else σ 16 g) ∧
    ρ 18 g = (if xO (σ 11 13) (σ 11 12) (σ 12 g) (σ 15 g) (σ 16 g) then 1 else if σ 15 g ≤ 250 then σ 18 g else 2) ∧
    ρ 19 g = (if xO (σ 11 13) (σ 11 12) (σ 12 g) (σ 15 g) (σ 16 g) then σ 11 15 else if σ 15 g ≤ 250 then σ 19 g else σ 11 15) ∧
    ρ 20 g = (if xO (σ 11 13) (σ 11 12) (σ 12 g) (σ 15 g) (σ 16 g) then σ 13 g * (xP (σ 15 g) (σ 16 g) - σ 11 13) / 10 else σ 20 g) ∧
    ρ 11 14 = (if xO (σ 11 13) (σ 11 12) (σ 12 g) (σ 15 g) (σ 16 g) then σ 11 14 - 1 else if σ 15 g ≤ 250 then σ 11 14 else σ 11 14 - 1) ∧
    ρ 11 16 = (if xO (σ 11 13) (σ 11 12) (σ 12 g) (σ 15 g) (σ 16 g) then 1 else σ 11 16) := by
  refine ⟨_, strain_11 hg σ, ?_⟩
  by_cases c1 : xO (σ 11 13) (σ 11 12) (σ 12 g) (σ 15 g) (σ 16 g)
  · simp only [if_pos c1]
    refine ⟨fun c hc => ?_, fun j hj => ⟨?_, ?_, ?_, ?_, ?_⟩, fun k h1 h2 => ?_, ?_, ?_, ?_, ?_, ?_, ?_, ?_⟩
    · simp only [List.mem_cons, List.not_mem_nil, or_false, not_or] at hc
      rw [jup_n _ _ _ (by omega), jup_n _ _ _ (by omega), jup_n _ _ _ (by omega), jup_n _ _ _ (by omega), jup_n _ _ _ (by omega), jup_n _ _ _ (by omega)]
    · (repeat (first | rw [jup_s] | rw [jrow_s] | rw [jup_n _ _ _ (by omega)] | rw [jrow_n _ _ (by omega)]))
    · (repeat (first | rw [jup_s] | rw [jrow_s] | rw [jup_n _ _ _ (by omega)] | rw [jrow_n _ _ (by omega)]))
      rw [jupd, if_neg hj]
    · (repeat (first | rw [jup_s] | rw [jrow_s] | rw [jup_n _ _ _ (by omega)] | rw [jrow_n _ _ (by omega)]))
      rw [jupd, if_neg hj]
      (repeat (first | rw [jup_s] | rw [jrow_s] | rw [jup_n _ _ _ (by omega)] | rw [jrow_n _ _ (by omega)]))
    · (repeat (first | rw [jup_s] | rw [jrow_s] | rw [jup_n _ _ _ (by omega)] | rw [jrow_n _ _ (by omega)]))
      rw [jupd, if_neg hj]
      (repeat (first | rw [jup_s] | rw [jrow_s] | rw [jup_n _ _ _ (by omega)] | rw [jrow_n _ _ (by omega)]))
    · (repeat (first | rw [jup_s] | rw [jrow_s] | rw [jup_n _ _ _ (by omega)] | rw [jrow_n _ _ (by omega)]))
      rw [jupd, if_neg hj]
      (repeat (first | rw [jup_s] | rw [jrow_s] | rw [jup_n _ _ _ (by omega)] | rw [jrow_n _ _ (by omega)]))
    · (repeat (first | rw [jup_s] | rw [jrow_s] | rw [jup_n _ _ _ (by omega)] | rw [jrow_n _ _ (by omega)]))
      rw [jupd, if_neg h2]
      (repeat (first | rw [jup_s] | rw [jrow_s] | rw [jup_n _ _ _ (by omega)] | rw [jrow_n _ _ (by omega)]))
      rw [jupd, if_neg h1]
      (repeat (first | rw [jup_s] | rw [jrow_s] | rw [jup_n _ _ _ (by omega)] | rw [jrow_n _ _ (by omega)]))
    · (repeat (first | rw [jup_s] | rw [jrow_s] | rw [jup_n _ _ _ (by omega)] | rw [jrow_n _ _ (by omega)]))
      rw [jupd, if_pos rfl]
    · (repeat (first | rw [jup_s] | rw [jrow_s] | rw [jup_n _ _ _ (by omega)] | rw [jrow_n _ _ (by omega)]))
    · (repeat (first | rw [jup_s] | rw [jrow_s] | rw [jup_n _ _ _ (by omega)] | rw [jrow_n _ _ (by omega)]))
      rw [jupd, if_pos rfl]
    · (repeat (first | rw [jup_s] | rw [jrow_s] | rw [jup_n _ _ _ (by omega)] | rw [jrow_n _ _ (by omega)]))
      rw [jupd, if_pos rfl]
    · (repeat (first | rw [jup_s] | rw [jrow_s] | rw [jup_n _ _ _ (by omega)] | rw [jrow_n _ _ (by omega)]))
      rw [jupd, if_pos rfl]
    · (repeat (first | rw [jup_s] | rw [jrow_s] | rw [jup_n _ _ _ (by omega)] | rw [jrow_n _ _ (by omega)]))
      rw [jupd, if_neg (by decide)]
      (repeat (first | rw [jup_s] | rw [jrow_s] | rw [jup_n _ _ _ (by omega)] | rw [jrow_n _ _ (by omega)]))
      rw [jupd, if_pos rfl]
    · (repeat (first | rw [jup_s] | rw [jrow_s] | rw [jup_n _ _ _ (by omega)] | rw [jrow_n _ _ (by omega)]))
      rw [jupd, if_pos rfl]
  · simp only [if_neg c1]
    by_cases c2 : σ 15 g ≤ 250
    · simp only [if_pos c2]
      refine ⟨fun c hc => ?_, fun j hj => ⟨?_, ?_, ?_, ?_, ?_⟩, fun k h1 h2 => ?_, ?_, ?_, ?_, ?_, ?_, ?_, ?_⟩
      · simp only [List.mem_cons, List.not_mem_nil, or_false, not_or] at hc
        rw [jup_n _ _ _ (by omega), jup_n _ _ _ (by omega)]
      · (repeat (first | rw [jup_s] | rw [jrow_s] | rw [jup_n _ _ _ (by omega)] | rw [jrow_n _ _ (by omega)]))
        rw [jupd, if_neg hj]
        (repeat (first | rw [jup_s] | rw [jrow_s] | rw [jup_n _ _ _ (by omega)] | rw [jrow_n _ _ (by omega)]))
      · (repeat (first | rw [jup_s] | rw [jrow_s] | rw [jup_n _ _ _ (by omega)] | rw [jrow_n _ _ (by omega)]))
        rw [jupd, if_neg hj]
      · (repeat (first | rw [jup_s] | rw [jrow_s] | rw [jup_n _ _ _ (by omega)] | rw [jrow_n _ _ (by omega)]))
      · (repeat (first | rw [jup_s] | rw [jrow_s] | rw [jup_n _ _ _ (by omega)] | rw [jrow_n _ _ (by omega)]))
      · (repeat (first | rw [jup_s] | rw [jrow_s] | rw [jup_n _ _ _ (by omega)] | rw [jrow_n _ _ (by omega)]))
      · (repeat (first | rw [jup_s] | rw [jrow_s] | rw [jup_n _ _ _ (by omega)] | rw [jrow_n _ _ (by omega)]))
      · (repeat (first | rw [jup_s] | rw [jrow_s] | rw [jup_n _ _ _ (by omega)] | rw [jrow_n _ _ (by omega)]))
        rw [jupd, if_pos rfl]
      · (repeat (first | rw [jup_s] | rw [jrow_s] | rw [jup_n _ _ _ (by omega)] | rw [jrow_n _ _ (by omega)]))
        rw [jupd, if_pos rfl]
      · (repeat (first | rw [jup_s] | rw [jrow_s] | rw [jup_n _ _ _ (by omega)] | rw [jrow_n _ _ (by omega)]))
      · (repeat (first | rw [jup_s] | rw [jrow_s] | rw [jup_n _ _ _ (by omega)] | rw [jrow_n _ _ (by omega)]))
      · (repeat (first | rw [jup_s] | rw [jrow_s] | rw [jup_n _ _ _ (by omega)] | rw [jrow_n _ _ (by omega)]))
      · (repeat (first | rw [jup_s] | rw [jrow_s] | rw [jup_n _ _ _ (by omega)] | rw [jrow_n _ _ (by omega)]))
      · (repeat (first | rw [jup_s] | rw [jrow_s] | rw [jup_n _ _ _ (by omega)] | rw [jrow_n _ _ (by omega)]))
    · simp only [if_neg c2]
      refine ⟨fun c hc => ?_, fun j hj => ⟨?_, ?_, ?_, ?_, ?_⟩, fun k h1 h2 => ?_, ?_, ?_, ?_, ?_, ?_, ?_, ?_⟩
      · simp only [List.mem_cons, List.not_mem_nil, or_false, not_or] at hc
        rw [jup_n _ _ _ (by omega), jup_n _ _ _ (by omega), jup_n _ _ _ (by omega), jup_n _ _ _ (by omega)]
      · (repeat (first | rw [jup_s] | rw [jrow_s] | rw [jup_n _ _ _ (by omega)] | rw [jrow_n _ _ (by omega)]))
      · (repeat (first | rw [jup_s] | rw [jrow_s] | rw [jup_n _ _ _ (by omega)] | rw [jrow_n _ _ (by omega)]))
        rw [jupd, if_neg hj]
      · (repeat (first | rw [jup_s] | rw [jrow_s] | rw [jup_n _ _ _ (by omega)] | rw [jrow_n _ _ (by omega)]))
        rw [jupd, if_neg hj]
        (repeat (first | rw [jup_s] | rw [jrow_s] | rw [jup_n _ _ _ (by omega)] | rw [jrow_n _ _ (by omega)]))
      · (repeat (first | rw [jup_s] | rw [jrow_s] | rw [jup_n _ _ _ (by omega)] | rw [jrow_n _ _ (by omega)]))
        rw [jupd, if_neg hj]
        (repeat (first | rw [jup_s] | rw [jrow_s] | rw [jup_n _ _ _ (by omega)] | rw [jrow_n _ _ (by omega)]))
      · (repeat (first | rw [jup_s] | rw [jrow_s] | rw [jup_n _ _ _ (by omega)] | rw [jrow_n _ _ (by omega)]))
      · (repeat (first | rw [jup_s] | rw [jrow_s] | rw [jup_n _ _ _ (by omega)] | rw [jrow_n _ _ (by omega)]))
        rw [jupd, if_neg h1]
        (repeat (first | rw [jup_s] | rw [jrow_s] | rw [jup_n _ _ _ (by omega)] | rw [jrow_n _ _ (by omega)]))
      · (repeat (first | rw [jup_s] | rw [jrow_s] | rw [jup_n _ _ _ (by omega)] | rw [jrow_n _ _ (by omega)]))
        rw [jupd, if_pos rfl]
      · (repeat (first | rw [jup_s] | rw [jrow_s] | rw [jup_n _ _ _ (by omega)] | rw [jrow_n _ _ (by omega)]))
      · (repeat (first | rw [jup_s] | rw [jrow_s] | rw [jup_n _ _ _ (by omega)] | rw [jrow_n _ _ (by omega)]))
        rw [jupd, if_pos rfl]
      · (repeat (first | rw [jup_s] | rw [jrow_s] | rw [jup_n _ _ _ (by omega)] | rw [jrow_n _ _ (by omega)]))
        rw [jupd, if_pos rfl]
      · (repeat (first | rw [jup_s] | rw [jrow_s] | rw [jup_n _ _ _ (by omega)] | rw [jrow_n _ _ (by omega)]))
      · (repeat (first | rw [jup_s] | rw [jrow_s] | rw [jup_n _ _ _ (by omega)] | rw [jrow_n _ _ (by omega)]))
        rw [jupd, if_pos rfl]
      · (repeat (first | rw [jup_s] | rw [jrow_s] | rw [jup_n _ _ _ (by omega)] | rw [jrow_n _ _ (by omega)]))
        rw [jupd, if_neg (by decide)]
        (repeat (first | rw [jup_s] | rw [jrow_s] | rw [jup_n _ _ _ (by omega)] | rw [jrow_n _ _ (by omega)]))
/-- one place: turned and warmed -/
theorem place_11 {p : Nat} (hp : p < 4) (h lid : Int32) (k : Nat) (hk : k < 2 ^ 31) : ∀ (m i : Nat) (L : List Nat) (σ : jm_S), i + m = k → RW σ 21 22 p L → ∃ ρ u, jv 41 23 [some (.ref 11), some (.int h), some (.int (nI k)), some (.int lid), some (.int (nI p)), some (.int (nI i))] [] σ = jv 41 14 [some (.ref 11), some (.int h), some (.int (nI k)), some (.int lid), some (.int (nI (p + 1))), u] [] ρ ∧ RW ρ 21 22 p (rotN m L) ∧ ρ 15 = warmL (qq lid) (rotN m L) h (σ 15) ∧ (∀ c, c ≠ 21 → c ≠ 15 → ρ c = σ c) ∧ (∀ j, (j < 12 * p ∨ 12 * p + 12 ≤ j) → ρ 21 j = σ 21 j) := by
  intro m
  induction m with
  | zero =>
    intro i L σ hi hL
    have w := warmRow_11 hp h (qq lid) (qq0 lid) σ hL
    refine ⟨jm_row σ 15 (warmL (qq lid) L h (σ 15)), some (.int (nI i)), ?_, RW_fr hL (by rw [jrow_n _ _ (by decide)]) (fun j _ => by rw [jrow_n _ _ (by decide)]), by rw [jrow_s]; rfl, fun c _ h2 => by rw [jrow_n _ _ h2], fun j _ => by rw [jrow_n _ _ (by decide)]⟩
    rw [Batch_second_11_L23, if_pos (nI_le (by omega) (by omega)), nI_1]
    unfold qq at w ⊢
    by_cases c : lid = 0
    · rw [if_pos c] at w
      rw [if_pos c, w, jbv_some, if_pos c]
    · rw [if_neg c] at w
      rw [if_neg c, w, jbv_some, if_neg c]
  | succ m ih =>
    intro i L σ hi hL
    obtain ⟨τ, e1, e2, e3, e4⟩ := turnRow_11 hp σ hL
    obtain ⟨ρ, u, g1, g2, g3, g4, g5⟩ := ih (i + 1) (rot L) τ (by omega) e2
    refine ⟨ρ, u, ?_, g2, by rw [g3, e3 15 (by decide)]; rfl, fun c h1 h2 => by rw [g4 c h1 h2, e3 c h1], fun j hj => by rw [g5 j hj, e4 j hj]⟩
    rw [Batch_second_11_L23, if_neg (nI_ge (by omega) (by omega)), e1, jbv_some, nI_1, g1]
theorem places_11 (h lid : Int32) {k : Nat} (hk : k < 2 ^ 31) (C : Nat → List Nat) (σ : jm_S) (hC : ∀ p, p < 4 → RW σ 21 22 p (C p)) : ∃ ρ u, jv 41 14 [some (.ref 11), some (.int h), some (.int (nI k)), some (.int lid), some (.int (0 : Int32)), none] [] σ = jv 41 68 [some (.ref 11), some (.int h), some (.int (nI k)), some (.int lid), some (.int (0 : Int32)), u] [] ρ ∧ (∀ p, p < 4 → RW ρ 21 22 p (rotN k (C p))) ∧ ρ 15 = warmL (qq lid) (rotN k (C 3)) h (warmL (qq lid) (rotN k (C 2)) h (warmL (qq lid) (rotN k (C 1)) h (warmL (qq lid) (rotN k (C 0)) h (σ 15)))) ∧ (∀ c, c ≠ 21 → c ≠ 15 → ρ c = σ c) := by
  have n0 : ∀ p, p < 4 → ¬ (4 : Int32) ≤ nI p := fun p hp => by rw [show (4 : Int32) = nI 4 by decide +kernel]; exact nI_ge hp (by decide)
  have go : ∀ (p : Nat) (u : Option Value) (τ : jm_S), p < 4 → jv 41 14 [some (.ref 11), some (.int h), some (.int (nI k)), some (.int lid), some (.int (nI p)), u] [] τ = jv 41 23 [some (.ref 11), some (.int h), some (.int (nI k)), some (.int lid), some (.int (nI p)), some (.int (nI 0))] [] τ := by
    intro p u τ hp
    rw [Batch_second_11_L14, if_neg (n0 p hp), nI_0]
  obtain ⟨τ0, u0, a1, a2, a3, a4, a5⟩ := place_11 (p := 0) (by omega) h lid k hk k 0 (C 0) σ (by omega) (hC 0 (by omega))
  have w1 : ∀ p, p < 4 → p ≠ 0 → RW τ0 21 22 p (C p) := fun p hp hne => RW_fr (hC p hp) (by rw [a4 22 (by decide) (by decide)]) (fun i hi => a5 _ (by omega))
  obtain ⟨τ1, u1, b1, b2, b3, b4, b5⟩ := place_11 (p := 1) (by omega) h lid k hk k 0 (C 1) τ0 (by omega) (w1 1 (by omega) (by omega))
  have w2 : ∀ p, p < 4 → p ≠ 0 → p ≠ 1 → RW τ1 21 22 p (C p) := fun p hp hne hne1 => RW_fr (w1 p hp hne) (by rw [b4 22 (by decide) (by decide)]) (fun i hi => b5 _ (by omega))
  obtain ⟨τ2, u2, c1, c2, c3, c4, c5⟩ := place_11 (p := 2) (by omega) h lid k hk k 0 (C 2) τ1 (by omega) (w2 2 (by omega) (by omega) (by omega))
  have w3 : RW τ2 21 22 3 (C 3) := RW_fr (w2 3 (by omega) (by omega) (by omega)) (by rw [c4 22 (by decide) (by decide)]) (fun i hi => c5 _ (by omega))
  obtain ⟨τ3, u3, d1, d2, d3, d4, d5⟩ := place_11 (p := 3) (by omega) h lid k hk k 0 (C 3) τ2 (by omega) w3
  refine ⟨τ3, u3, ?_, fun p hp => ?_, by rw [d3, c3, b3, a3], fun c h1 h2 => by rw [d4 c h1 h2, c4 c h1 h2, b4 c h1 h2, a4 c h1 h2]⟩
  · rw [← nI_0, go 0 _ _ (by omega), a1, go 1 _ _ (by omega), b1, go 2 _ _ (by omega), c1, go 3 _ _ (by omega), d1, Batch_second_11_L14, if_pos (by decide +kernel), nI_0]
  · match p, hp with
    | 0, _ => exact RW_fr (RW_fr (RW_fr a2 (by rw [b4 22 (by decide) (by decide)]) (fun i hi => b5 _ (by omega))) (by rw [c4 22 (by decide) (by decide)]) (fun i hi => c5 _ (by omega))) (by rw [d4 22 (by decide) (by decide)]) (fun i hi => d5 _ (by omega))
    | 1, _ => exact RW_fr (RW_fr b2 (by rw [c4 22 (by decide) (by decide)]) (fun i hi => c5 _ (by omega))) (by rw [d4 22 (by decide) (by decide)]) (fun i hi => d5 _ (by omega))
    | 2, _ => exact RW_fr c2 (by rw [d4 22 (by decide) (by decide)]) (fun i hi => d5 _ (by omega))
    | 3, _ => exact d2
    | n + 4, h => omega
/-- the batch holds a state -/
def CR_11 (G : Nat) (T : Nat → Int32) (I : Nat → Bool) (a s : Int32) (t : Nat) (X : Sm) (σ : jm_S) : Prop :=
  σ 11 11 = nI G ∧ σ 11 12 = s ∧ σ 11 13 = a ∧ σ 11 14 = nI (whN G I X.st) ∧ σ 11 15 = nI t ∧
  (∀ g, g < G → σ 12 g = T (4 * g + 1) ∧ σ 13 g = T (4 * g + 2) ∧ σ 14 g = T (4 * g + 3) ∧ σ 15 g = X.wm g ∧ σ 16 g = X.wt g ∧ σ 17 g = X.pr g ∧ σ 18 g = (if I g = true then X.st g else 3) ∧ σ 19 g = X.en g ∧ σ 20 g = X.lg g) ∧
  (∃ C : Nat → List Nat, (∀ p, p < 4 → RW σ 21 22 p (C p) ∧ (∀ g, g ∈ C p → g < G) ∧ (C p).filter (fun g => I g && decide (¬ X.st g = 1)) = X.rw p) ∧ (σ 11 16 = 1 ∨ (σ 11 16 = 0 ∧ ∀ p, p < 4 → C p = X.rw p)))
def SL_11 (G : Nat) (T : Nat → Int32) (I : Nat → Bool) (a s : Int32) (t : Nat) (W : Nat → Int32) (X : Sm) (i : Nat) (σ : jm_S) : Prop :=
  σ 11 11 = nI G ∧ σ 11 12 = s ∧ σ 11 13 = a ∧ σ 11 14 = nI (whN G I (fun g => if g < i then stS G T I a s W X g else X.st g)) ∧ σ 11 15 = nI t ∧
  (∀ g, g < G → σ 12 g = T (4 * g + 1) ∧ σ 13 g = T (4 * g + 2) ∧ σ 14 g = T (4 * g + 3) ∧ σ 15 g = W g ∧ σ 16 g = (if g < i ∧ act G I X g then nWt T a s W X g else X.wt g) ∧ σ 17 g = (if g < i ∧ act G I X g then xP (W g) (X.wt g) else X.pr g) ∧ σ 18 g = (if I g = true then (if g < i ∧ act G I X g then nSt T a s W X g else X.st g) else 3) ∧ σ 19 g = (if g < i ∧ act G I X g then nEn T a s W t X g else X.en g) ∧ σ 20 g = (if g < i ∧ act G I X g then nLg T a s W X g else X.lg g)) ∧
  (σ 11 16 = 1 ∨ (σ 11 16 = 0 ∧ ∀ g, g < i → act G I X g → ¬ nSt T a s W X g = 1))
theorem SL_step_11 {G : Nat} (hG : G ≤ 12) {T : Nat → Int32} {I : Nat → Bool} {a s : Int32} {t : Nat} {W : Nat → Int32} {X : Sm} {i : Nat} (hi : i < G) {σ : jm_S} (h : SL_11 G T I a s t W X i σ) (hx : Option Value) (x1 x2 x3 : Int32) : ∃ ρ, jv 41 68 [some (.ref 11), some (.int x1), some (.int x2), some (.int x3), some (.int (nI i)), hx] [] σ = jv 41 68 [some (.ref 11), some (.int x1), some (.int x2), some (.int x3), some (.int (nI (i + 1))), hx] [] ρ ∧ SL_11 G T I a s t W X (i + 1) ρ ∧ (∀ c, c ∉ [11, 16, 17, 18, 19, 20] → ρ c = σ c) := by
  obtain ⟨h1, h2, h3, h4, h5, h6, h7⟩ := h
  obtain ⟨g1, g2, g3, g4, g5, g6, g7, g8, g9⟩ := h6 i hi
  rw [if_neg (show ¬ (i < i ∧ act G I X i) by omega)] at g5 g6 g7 g8 g9
  have r0 := Batch_second_11_L68 x1 x2 x3 (nI i) hx σ
  rw [h1, if_neg (nI_ge hi (by omega)), nI_clamp (show i < 2 ^ 31 by omega), if_neg (by rw [jbad2 (show i < 12 by omega) (by decide)]; exact id), nI_1] at r0
  have lt : ∀ g, g ≠ i → ((g < i + 1) = (g < i)) := fun g hg => propext ⟨fun q => by omega, fun q => by omega⟩
  by_cases c : act G I X i
  · have cst : σ 18 i = 0 := by rw [g7, if_pos c.2.1, c.2.2]
    obtain ⟨ρ, e1, e2, e3, e4, e5, e6, e7, e8, e9, e10, e11⟩ := strainS_11 (show i < 12 by omega) σ
    rw [if_neg (not_not_intro cst), e1, jbv_some] at r0
    rw [h2, h3, g1, g4, g5] at e6 e7 e8 e9 e10 e11
    rw [g4, g5] at e5
    refine ⟨ρ, r0, ⟨by rw [e4 11 (by decide) (by decide)]; exact h1, by rw [e4 12 (by decide) (by decide)]; exact h2, by rw [e4 13 (by decide) (by decide)]; exact h3, ?_, by rw [e4 15 (by decide) (by decide)]; exact h5, fun g hg => ?_, ?_⟩, e2⟩
    · have keep : ∀ g, g < G → g ≠ i → (fun g => I g && decide ((if g < i + 1 then stS G T I a s W X g else X.st g) = 0)) g = (fun g => I g && decide ((if g < i then stS G T I a s W X g else X.st g) = 0)) g := by
        intro g _ hne
        show (I g && decide ((if g < i + 1 then stS G T I a s W X g else X.st g) = 0)) = (I g && decide ((if g < i then stS G T I a s W X g else X.st g) = 0))
        simp only [lt g hne]
      have old : (fun g => I g && decide ((if g < i then stS G T I a s W X g else X.st g) = 0)) i = true := by
        show (I i && decide ((if i < i then stS G T I a s W X i else X.st i) = 0)) = true
        rw [if_neg (show ¬ i < i by omega), c.2.1, c.2.2]; decide
      have nw : ∀ v, nSt T a s W X i = v → (fun g => I g && decide ((if g < i + 1 then stS G T I a s W X g else X.st g) = 0)) i = decide (v = 0) := by
        intro v hv
        show (I i && decide ((if i < i + 1 then stS G T I a s W X i else X.st i) = 0)) = decide (v = 0)
        rw [if_pos (show i < i + 1 by omega), stS, if_pos c, hv, c.2.1, Bool.true_and]
      have dn : ∀ v, nSt T a s W X i = v → ¬ v = 0 → σ 11 14 - 1 = nI (whN G I (fun g => if g < i + 1 then stS G T I a s W X g else X.st g)) := by
        intro v hv hv0
        have fl := cntN_flip hi keep old ((nw v hv).trans (decide_eq_false hv0))
        rw [h4]
        unfold whN
        rw [fl, nI_pred]
      rw [e10]
      by_cases c1 : xO a s (T (4 * i + 1)) (W i) (X.wt i)
      · rw [if_pos c1]; exact dn 1 (by rw [nSt, if_pos c1]) (by decide)
      · rw [if_neg c1]
        by_cases c2 : W i ≤ 250
        · rw [if_pos c2, h4]
          unfold whN
          congr 1
          refine cntN_congr (fun j hj => ?_)
          by_cases cj : j = i
          · subst cj; exact old.trans (nw 0 (by rw [nSt, if_neg c1, if_pos c2])).symm
          · exact (keep j hj cj).symm
        · rw [if_neg c2]; exact dn 2 (by rw [nSt, if_neg c1, if_neg c2]) (by decide)
    · by_cases cg : g = i
      · subst cg
        rw [e2 12 (by decide), e2 13 (by decide), e2 14 (by decide), e2 15 (by decide)]
        have lt' : g < g + 1 ∧ act G I X g := ⟨by omega, c⟩
        refine ⟨g1, g2, g3, g4, ?_, ?_, ?_, ?_, ?_⟩
        · rw [if_pos lt', e6, g3]; rfl
        · rw [if_pos lt', e5]
        · rw [if_pos c.2.1, if_pos lt', e7, cst]; rfl
        · rw [if_pos lt', e8, h5, g8]; rfl
        · rw [if_pos lt', e9, g2, g9]; rfl
      · obtain ⟨k1, k2, k3, k4, k5, k6, k7, k8, k9⟩ := h6 g hg
        obtain ⟨m1, m2, m3, m4, m5⟩ := e3 g cg
        rw [e2 12 (by decide), e2 13 (by decide), e2 14 (by decide), e2 15 (by decide), m1, m2, m3, m4, m5]
        simp only [lt g cg]
        exact ⟨k1, k2, k3, k4, k5, k6, k7, k8, k9⟩
    · rw [e11]
      by_cases c1 : xO a s (T (4 * i + 1)) (W i) (X.wt i)
      · rw [if_pos c1]; exact Or.inl rfl
      · rw [if_neg c1]
        refine h7.imp id (fun k => ⟨k.1, fun g hg hact => ?_⟩)
        by_cases cg : g = i
        · subst cg
          rw [nSt, if_neg c1]
          split <;> decide
        · exact k.2 g (by omega) hact
  · have cst : ¬ σ 18 i = 0 := by
      rw [g7]
      by_cases ci : I i = true
      · rw [if_pos ci]; exact fun e => c ⟨hi, ci, e⟩
      · rw [if_neg ci]; decide
    rw [if_pos cst] at r0
    refine ⟨σ, r0, ⟨h1, h2, h3, ?_, h5, fun g hg => ?_, ?_⟩, fun _ _ => rfl⟩
    · rw [h4]
      unfold whN
      congr 1
      refine cntN_congr (fun j hj => ?_)
      show (I j && decide ((if j < i then stS G T I a s W X j else X.st j) = 0)) = (I j && decide ((if j < i + 1 then stS G T I a s W X j else X.st j) = 0))
      by_cases cj : j = i
      · subst cj
        rw [if_neg (show ¬ j < j by omega), if_pos (show j < j + 1 by omega), stS, if_neg c]
      · simp only [lt j cj]
    · by_cases cg : g = i
      · subst cg
        have nq : ¬ (g < g + 1 ∧ act G I X g) := fun q => c q.2
        simp only [if_neg nq]
        exact ⟨g1, g2, g3, g4, g5, g6, g7, g8, g9⟩
      · simp only [lt g cg]
        exact h6 g hg
    · refine h7.imp id (fun k => ⟨k.1, fun g hg hact => ?_⟩)
      by_cases cg : g = i
      · subst cg; exact absurd hact c
      · exact k.2 g (by omega) hact
theorem SL_loop_11 {G : Nat} (hG : G ≤ 12) {T : Nat → Int32} {I : Nat → Bool} {a s : Int32} {t : Nat} {W : Nat → Int32} {X : Sm} (hx : Option Value) (x1 x2 x3 : Int32) : ∀ (k i : Nat) (σ : jm_S), i + k = G → SL_11 G T I a s t W X i σ → ∃ ρ, jv 41 68 [some (.ref 11), some (.int x1), some (.int x2), some (.int x3), some (.int (nI i)), hx] [] σ = some (none, jm_up ρ 11 15 (nI (t + 1))) ∧ SL_11 G T I a s t W X G ρ ∧ (∀ c, c ∉ [11, 16, 17, 18, 19, 20] → ρ c = σ c) := by
  intro k
  induction k with
  | zero =>
    intro i σ hi h
    have e : i = G := by omega
    subst e
    refine ⟨σ, ?_, h, fun _ _ => rfl⟩
    rw [Batch_second_11_L68, h.1, if_pos (nI_le (Nat.le_refl _) (by omega)), h.2.2.2.2.1, nI_1]
  | succ k ih =>
    intro i σ hi h
    obtain ⟨τ, e1, e2, e3⟩ := SL_step_11 hG (show i < G by omega) h hx x1 x2 x3
    obtain ⟨ρ, g1, g2, g3⟩ := ih (i + 1) τ (by omega) e2
    exact ⟨ρ, by rw [e1, g1], g2, fun c hc => by rw [g3 c hc, e3 c hc]⟩
theorem strainS_23 {g : Nat} (hg : g < 12) (σ : jm_S) : ∃ ρ, jc 45 [.ref 23, .int (nI g)] σ = some (none, ρ) ∧ (∀ c, c ∉ [23, 28, 29, 30, 31, 32] → ρ c = σ c) ∧ (∀ j, j ≠ g → ρ 28 j = σ 28 j ∧ ρ 29 j = σ 29 j ∧ ρ 30 j = σ 30 j ∧ ρ 31 j = σ 31 j ∧ ρ 32 j = σ 32 j) ∧ (∀ k, k ≠ 14 → k ≠ 16 → ρ 23 k = σ 23 k) ∧ ρ 29 g = xP (σ 27 g) (σ 28 g) ∧
    ρ 28 g = (if xO (σ 23 13) (σ 23 12) (σ 24 g) (σ 27 g) (σ 28 g) then σ 28 g else if σ 27 g ≤ 250 then xW (σ 26 g) (σ 27 g) (σ 28 g) else σ 28 g) ∧
    ρ 30 g = (if xO (σ 23 13) (σ 23 12) (σ 24 g) (σ 27 g) (σ 28 g) then 1 else if σ 27 g ≤ 250 then σ 30 g else 2) ∧
    ρ 31 g = (if xO (σ 23 13) (σ 23 12) (σ 24 g) (σ 27 g) (σ 28 g) then σ 23 15 else if σ 27 g ≤ 250 then σ 31 g else σ 23 15) ∧
    ρ 32 g = (if xO (σ 23 13) (σ 23 12) (σ 24 g) (σ 27 g) (σ 28 g) then σ 25 g * (xP (σ 27 g) (σ 28 g) - σ 23 13) / 10 else σ 32 g) ∧
    ρ 23 14 = (if xO (σ 23 13) (σ 23 12) (σ 24 g) (σ 27 g) (σ 28 g) then σ 23 14 - 1 else if σ 27 g ≤ 250 then σ 23 14 else σ 23 14 - 1) ∧
    ρ 23 16 = (if xO (σ 23 13) (σ 23 12) (σ 24 g) (σ 27 g) (σ 28 g) then 1 else σ 23 16) := by
  refine ⟨_, strain_23 hg σ, ?_⟩
  by_cases c1 : xO (σ 23 13) (σ 23 12) (σ 24 g) (σ 27 g) (σ 28 g)
  · simp only [if_pos c1]
    refine ⟨fun c hc => ?_, fun j hj => ⟨?_, ?_, ?_, ?_, ?_⟩, fun k h1 h2 => ?_, ?_, ?_, ?_, ?_, ?_, ?_, ?_⟩
    · simp only [List.mem_cons, List.not_mem_nil, or_false, not_or] at hc
      rw [jup_n _ _ _ (by omega), jup_n _ _ _ (by omega), jup_n _ _ _ (by omega), jup_n _ _ _ (by omega), jup_n _ _ _ (by omega), jup_n _ _ _ (by omega)]
    · (repeat (first | rw [jup_s] | rw [jrow_s] | rw [jup_n _ _ _ (by omega)] | rw [jrow_n _ _ (by omega)]))
    · (repeat (first | rw [jup_s] | rw [jrow_s] | rw [jup_n _ _ _ (by omega)] | rw [jrow_n _ _ (by omega)]))
      rw [jupd, if_neg hj]
    · (repeat (first | rw [jup_s] | rw [jrow_s] | rw [jup_n _ _ _ (by omega)] | rw [jrow_n _ _ (by omega)]))
      rw [jupd, if_neg hj]
      (repeat (first | rw [jup_s] | rw [jrow_s] | rw [jup_n _ _ _ (by omega)] | rw [jrow_n _ _ (by omega)]))
    · (repeat (first | rw [jup_s] | rw [jrow_s] | rw [jup_n _ _ _ (by omega)] | rw [jrow_n _ _ (by omega)]))
      rw [jupd, if_neg hj]
      (repeat (first | rw [jup_s] | rw [jrow_s] | rw [jup_n _ _ _ (by omega)] | rw [jrow_n _ _ (by omega)]))
    · (repeat (first | rw [jup_s] | rw [jrow_s] | rw [jup_n _ _ _ (by omega)] | rw [jrow_n _ _ (by omega)]))
      rw [jupd, if_neg hj]
      (repeat (first | rw [jup_s] | rw [jrow_s] | rw [jup_n _ _ _ (by omega)] | rw [jrow_n _ _ (by omega)]))
    · (repeat (first | rw [jup_s] | rw [jrow_s] | rw [jup_n _ _ _ (by omega)] | rw [jrow_n _ _ (by omega)]))
      rw [jupd, if_neg h2]
      (repeat (first | rw [jup_s] | rw [jrow_s] | rw [jup_n _ _ _ (by omega)] | rw [jrow_n _ _ (by omega)]))
      rw [jupd, if_neg h1]
      (repeat (first | rw [jup_s] | rw [jrow_s] | rw [jup_n _ _ _ (by omega)] | rw [jrow_n _ _ (by omega)]))
    · (repeat (first | rw [jup_s] | rw [jrow_s] | rw [jup_n _ _ _ (by omega)] | rw [jrow_n _ _ (by omega)]))
      rw [jupd, if_pos rfl]
    · (repeat (first | rw [jup_s] | rw [jrow_s] | rw [jup_n _ _ _ (by omega)] | rw [jrow_n _ _ (by omega)]))
    · (repeat (first | rw [jup_s] | rw [jrow_s] | rw [jup_n _ _ _ (by omega)] | rw [jrow_n _ _ (by omega)]))
      rw [jupd, if_pos rfl]
    · (repeat (first | rw [jup_s] | rw [jrow_s] | rw [jup_n _ _ _ (by omega)] | rw [jrow_n _ _ (by omega)]))
      rw [jupd, if_pos rfl]
    · (repeat (first | rw [jup_s] | rw [jrow_s] | rw [jup_n _ _ _ (by omega)] | rw [jrow_n _ _ (by omega)]))
      rw [jupd, if_pos rfl]
    · (repeat (first | rw [jup_s] | rw [jrow_s] | rw [jup_n _ _ _ (by omega)] | rw [jrow_n _ _ (by omega)]))
      rw [jupd, if_neg (by decide)]
      (repeat (first | rw [jup_s] | rw [jrow_s] | rw [jup_n _ _ _ (by omega)] | rw [jrow_n _ _ (by omega)]))
      rw [jupd, if_pos rfl]
    · (repeat (first | rw [jup_s] | rw [jrow_s] | rw [jup_n _ _ _ (by omega)] | rw [jrow_n _ _ (by omega)]))
      rw [jupd, if_pos rfl]
  · simp only [if_neg c1]
    by_cases c2 : σ 27 g ≤ 250
    · simp only [if_pos c2]
      refine ⟨fun c hc => ?_, fun j hj => ⟨?_, ?_, ?_, ?_, ?_⟩, fun k h1 h2 => ?_, ?_, ?_, ?_, ?_, ?_, ?_, ?_⟩
      · simp only [List.mem_cons, List.not_mem_nil, or_false, not_or] at hc
        rw [jup_n _ _ _ (by omega), jup_n _ _ _ (by omega)]
      · (repeat (first | rw [jup_s] | rw [jrow_s] | rw [jup_n _ _ _ (by omega)] | rw [jrow_n _ _ (by omega)]))
        rw [jupd, if_neg hj]
        (repeat (first | rw [jup_s] | rw [jrow_s] | rw [jup_n _ _ _ (by omega)] | rw [jrow_n _ _ (by omega)]))
      · (repeat (first | rw [jup_s] | rw [jrow_s] | rw [jup_n _ _ _ (by omega)] | rw [jrow_n _ _ (by omega)]))
        rw [jupd, if_neg hj]
      · (repeat (first | rw [jup_s] | rw [jrow_s] | rw [jup_n _ _ _ (by omega)] | rw [jrow_n _ _ (by omega)]))
      · (repeat (first | rw [jup_s] | rw [jrow_s] | rw [jup_n _ _ _ (by omega)] | rw [jrow_n _ _ (by omega)]))
      · (repeat (first | rw [jup_s] | rw [jrow_s] | rw [jup_n _ _ _ (by omega)] | rw [jrow_n _ _ (by omega)]))
      · (repeat (first | rw [jup_s] | rw [jrow_s] | rw [jup_n _ _ _ (by omega)] | rw [jrow_n _ _ (by omega)]))
      · (repeat (first | rw [jup_s] | rw [jrow_s] | rw [jup_n _ _ _ (by omega)] | rw [jrow_n _ _ (by omega)]))
        rw [jupd, if_pos rfl]
      · (repeat (first | rw [jup_s] | rw [jrow_s] | rw [jup_n _ _ _ (by omega)] | rw [jrow_n _ _ (by omega)]))
        rw [jupd, if_pos rfl]
      · (repeat (first | rw [jup_s] | rw [jrow_s] | rw [jup_n _ _ _ (by omega)] | rw [jrow_n _ _ (by omega)]))
      · (repeat (first | rw [jup_s] | rw [jrow_s] | rw [jup_n _ _ _ (by omega)] | rw [jrow_n _ _ (by omega)]))
      · (repeat (first | rw [jup_s] | rw [jrow_s] | rw [jup_n _ _ _ (by omega)] | rw [jrow_n _ _ (by omega)]))
      · (repeat (first | rw [jup_s] | rw [jrow_s] | rw [jup_n _ _ _ (by omega)] | rw [jrow_n _ _ (by omega)]))
      · (repeat (first | rw [jup_s] | rw [jrow_s] | rw [jup_n _ _ _ (by omega)] | rw [jrow_n _ _ (by omega)]))
    · simp only [if_neg c2]
      refine ⟨fun c hc => ?_, fun j hj => ⟨?_, ?_, ?_, ?_, ?_⟩, fun k h1 h2 => ?_, ?_, ?_, ?_, ?_, ?_, ?_, ?_⟩
      · simp only [List.mem_cons, List.not_mem_nil, or_false, not_or] at hc
        rw [jup_n _ _ _ (by omega), jup_n _ _ _ (by omega), jup_n _ _ _ (by omega), jup_n _ _ _ (by omega)]
      · (repeat (first | rw [jup_s] | rw [jrow_s] | rw [jup_n _ _ _ (by omega)] | rw [jrow_n _ _ (by omega)]))
      · (repeat (first | rw [jup_s] | rw [jrow_s] | rw [jup_n _ _ _ (by omega)] | rw [jrow_n _ _ (by omega)]))
        rw [jupd, if_neg hj]
      · (repeat (first | rw [jup_s] | rw [jrow_s] | rw [jup_n _ _ _ (by omega)] | rw [jrow_n _ _ (by omega)]))
        rw [jupd, if_neg hj]
        (repeat (first | rw [jup_s] | rw [jrow_s] | rw [jup_n _ _ _ (by omega)] | rw [jrow_n _ _ (by omega)]))
      · (repeat (first | rw [jup_s] | rw [jrow_s] | rw [jup_n _ _ _ (by omega)] | rw [jrow_n _ _ (by omega)]))
        rw [jupd, if_neg hj]
        (repeat (first | rw [jup_s] | rw [jrow_s] | rw [jup_n _ _ _ (by omega)] | rw [jrow_n _ _ (by omega)]))
      · (repeat (first | rw [jup_s] | rw [jrow_s] | rw [jup_n _ _ _ (by omega)] | rw [jrow_n _ _ (by omega)]))
      · (repeat (first | rw [jup_s] | rw [jrow_s] | rw [jup_n _ _ _ (by omega)] | rw [jrow_n _ _ (by omega)]))
        rw [jupd, if_neg h1]
        (repeat (first | rw [jup_s] | rw [jrow_s] | rw [jup_n _ _ _ (by omega)] | rw [jrow_n _ _ (by omega)]))
      · (repeat (first | rw [jup_s] | rw [jrow_s] | rw [jup_n _ _ _ (by omega)] | rw [jrow_n _ _ (by omega)]))
        rw [jupd, if_pos rfl]
      · (repeat (first | rw [jup_s] | rw [jrow_s] | rw [jup_n _ _ _ (by omega)] | rw [jrow_n _ _ (by omega)]))
      · (repeat (first | rw [jup_s] | rw [jrow_s] | rw [jup_n _ _ _ (by omega)] | rw [jrow_n _ _ (by omega)]))
        rw [jupd, if_pos rfl]
      · (repeat (first | rw [jup_s] | rw [jrow_s] | rw [jup_n _ _ _ (by omega)] | rw [jrow_n _ _ (by omega)]))
        rw [jupd, if_pos rfl]
      · (repeat (first | rw [jup_s] | rw [jrow_s] | rw [jup_n _ _ _ (by omega)] | rw [jrow_n _ _ (by omega)]))
      · (repeat (first | rw [jup_s] | rw [jrow_s] | rw [jup_n _ _ _ (by omega)] | rw [jrow_n _ _ (by omega)]))
        rw [jupd, if_pos rfl]
      · (repeat (first | rw [jup_s] | rw [jrow_s] | rw [jup_n _ _ _ (by omega)] | rw [jrow_n _ _ (by omega)]))
        rw [jupd, if_neg (by decide)]
        (repeat (first | rw [jup_s] | rw [jrow_s] | rw [jup_n _ _ _ (by omega)] | rw [jrow_n _ _ (by omega)]))
/-- one place: turned and warmed -/
theorem place_23 {p : Nat} (hp : p < 4) (h lid : Int32) (k : Nat) (hk : k < 2 ^ 31) : ∀ (m i : Nat) (L : List Nat) (σ : jm_S), i + m = k → RW σ 33 34 p L → ∃ ρ u, jv 41 23 [some (.ref 23), some (.int h), some (.int (nI k)), some (.int lid), some (.int (nI p)), some (.int (nI i))] [] σ = jv 41 14 [some (.ref 23), some (.int h), some (.int (nI k)), some (.int lid), some (.int (nI (p + 1))), u] [] ρ ∧ RW ρ 33 34 p (rotN m L) ∧ ρ 27 = warmL (qq lid) (rotN m L) h (σ 27) ∧ (∀ c, c ≠ 33 → c ≠ 27 → ρ c = σ c) ∧ (∀ j, (j < 12 * p ∨ 12 * p + 12 ≤ j) → ρ 33 j = σ 33 j) := by
  intro m
  induction m with
  | zero =>
    intro i L σ hi hL
    have w := warmRow_23 hp h (qq lid) (qq0 lid) σ hL
    refine ⟨jm_row σ 27 (warmL (qq lid) L h (σ 27)), some (.int (nI i)), ?_, RW_fr hL (by rw [jrow_n _ _ (by decide)]) (fun j _ => by rw [jrow_n _ _ (by decide)]), by rw [jrow_s]; rfl, fun c _ h2 => by rw [jrow_n _ _ h2], fun j _ => by rw [jrow_n _ _ (by decide)]⟩
    rw [Batch_second_23_L23, if_pos (nI_le (by omega) (by omega)), nI_1]
    unfold qq at w ⊢
    by_cases c : lid = 0
    · rw [if_pos c] at w
      rw [if_pos c, w, jbv_some, if_pos c]
    · rw [if_neg c] at w
      rw [if_neg c, w, jbv_some, if_neg c]
  | succ m ih =>
    intro i L σ hi hL
    obtain ⟨τ, e1, e2, e3, e4⟩ := turnRow_23 hp σ hL
    obtain ⟨ρ, u, g1, g2, g3, g4, g5⟩ := ih (i + 1) (rot L) τ (by omega) e2
    refine ⟨ρ, u, ?_, g2, by rw [g3, e3 27 (by decide)]; rfl, fun c h1 h2 => by rw [g4 c h1 h2, e3 c h1], fun j hj => by rw [g5 j hj, e4 j hj]⟩
    rw [Batch_second_23_L23, if_neg (nI_ge (by omega) (by omega)), e1, jbv_some, nI_1, g1]
theorem places_23 (h lid : Int32) {k : Nat} (hk : k < 2 ^ 31) (C : Nat → List Nat) (σ : jm_S) (hC : ∀ p, p < 4 → RW σ 33 34 p (C p)) : ∃ ρ u, jv 41 14 [some (.ref 23), some (.int h), some (.int (nI k)), some (.int lid), some (.int (0 : Int32)), none] [] σ = jv 41 68 [some (.ref 23), some (.int h), some (.int (nI k)), some (.int lid), some (.int (0 : Int32)), u] [] ρ ∧ (∀ p, p < 4 → RW ρ 33 34 p (rotN k (C p))) ∧ ρ 27 = warmL (qq lid) (rotN k (C 3)) h (warmL (qq lid) (rotN k (C 2)) h (warmL (qq lid) (rotN k (C 1)) h (warmL (qq lid) (rotN k (C 0)) h (σ 27)))) ∧ (∀ c, c ≠ 33 → c ≠ 27 → ρ c = σ c) := by
  have n0 : ∀ p, p < 4 → ¬ (4 : Int32) ≤ nI p := fun p hp => by rw [show (4 : Int32) = nI 4 by decide +kernel]; exact nI_ge hp (by decide)
  have go : ∀ (p : Nat) (u : Option Value) (τ : jm_S), p < 4 → jv 41 14 [some (.ref 23), some (.int h), some (.int (nI k)), some (.int lid), some (.int (nI p)), u] [] τ = jv 41 23 [some (.ref 23), some (.int h), some (.int (nI k)), some (.int lid), some (.int (nI p)), some (.int (nI 0))] [] τ := by
    intro p u τ hp
    rw [Batch_second_23_L14, if_neg (n0 p hp), nI_0]
  obtain ⟨τ0, u0, a1, a2, a3, a4, a5⟩ := place_23 (p := 0) (by omega) h lid k hk k 0 (C 0) σ (by omega) (hC 0 (by omega))
  have w1 : ∀ p, p < 4 → p ≠ 0 → RW τ0 33 34 p (C p) := fun p hp hne => RW_fr (hC p hp) (by rw [a4 34 (by decide) (by decide)]) (fun i hi => a5 _ (by omega))
  obtain ⟨τ1, u1, b1, b2, b3, b4, b5⟩ := place_23 (p := 1) (by omega) h lid k hk k 0 (C 1) τ0 (by omega) (w1 1 (by omega) (by omega))
  have w2 : ∀ p, p < 4 → p ≠ 0 → p ≠ 1 → RW τ1 33 34 p (C p) := fun p hp hne hne1 => RW_fr (w1 p hp hne) (by rw [b4 34 (by decide) (by decide)]) (fun i hi => b5 _ (by omega))
  obtain ⟨τ2, u2, c1, c2, c3, c4, c5⟩ := place_23 (p := 2) (by omega) h lid k hk k 0 (C 2) τ1 (by omega) (w2 2 (by omega) (by omega) (by omega))
  have w3 : RW τ2 33 34 3 (C 3) := RW_fr (w2 3 (by omega) (by omega) (by omega)) (by rw [c4 34 (by decide) (by decide)]) (fun i hi => c5 _ (by omega))
  obtain ⟨τ3, u3, d1, d2, d3, d4, d5⟩ := place_23 (p := 3) (by omega) h lid k hk k 0 (C 3) τ2 (by omega) w3
  refine ⟨τ3, u3, ?_, fun p hp => ?_, by rw [d3, c3, b3, a3], fun c h1 h2 => by rw [d4 c h1 h2, c4 c h1 h2, b4 c h1 h2, a4 c h1 h2]⟩
  · rw [← nI_0, go 0 _ _ (by omega), a1, go 1 _ _ (by omega), b1, go 2 _ _ (by omega), c1, go 3 _ _ (by omega), d1, Batch_second_23_L14, if_pos (by decide +kernel), nI_0]
  · match p, hp with
    | 0, _ => exact RW_fr (RW_fr (RW_fr a2 (by rw [b4 34 (by decide) (by decide)]) (fun i hi => b5 _ (by omega))) (by rw [c4 34 (by decide) (by decide)]) (fun i hi => c5 _ (by omega))) (by rw [d4 34 (by decide) (by decide)]) (fun i hi => d5 _ (by omega))
    | 1, _ => exact RW_fr (RW_fr b2 (by rw [c4 34 (by decide) (by decide)]) (fun i hi => c5 _ (by omega))) (by rw [d4 34 (by decide) (by decide)]) (fun i hi => d5 _ (by omega))
    | 2, _ => exact RW_fr c2 (by rw [d4 34 (by decide) (by decide)]) (fun i hi => d5 _ (by omega))
    | 3, _ => exact d2
    | n + 4, h => omega
/-- the batch holds a state -/
def CR_23 (G : Nat) (T : Nat → Int32) (I : Nat → Bool) (a s : Int32) (t : Nat) (X : Sm) (σ : jm_S) : Prop :=
  σ 23 11 = nI G ∧ σ 23 12 = s ∧ σ 23 13 = a ∧ σ 23 14 = nI (whN G I X.st) ∧ σ 23 15 = nI t ∧
  (∀ g, g < G → σ 24 g = T (4 * g + 1) ∧ σ 25 g = T (4 * g + 2) ∧ σ 26 g = T (4 * g + 3) ∧ σ 27 g = X.wm g ∧ σ 28 g = X.wt g ∧ σ 29 g = X.pr g ∧ σ 30 g = (if I g = true then X.st g else 3) ∧ σ 31 g = X.en g ∧ σ 32 g = X.lg g) ∧
  (∃ C : Nat → List Nat, (∀ p, p < 4 → RW σ 33 34 p (C p) ∧ (∀ g, g ∈ C p → g < G) ∧ (C p).filter (fun g => I g && decide (¬ X.st g = 1)) = X.rw p) ∧ (σ 23 16 = 1 ∨ (σ 23 16 = 0 ∧ ∀ p, p < 4 → C p = X.rw p)))
def SL_23 (G : Nat) (T : Nat → Int32) (I : Nat → Bool) (a s : Int32) (t : Nat) (W : Nat → Int32) (X : Sm) (i : Nat) (σ : jm_S) : Prop :=
  σ 23 11 = nI G ∧ σ 23 12 = s ∧ σ 23 13 = a ∧ σ 23 14 = nI (whN G I (fun g => if g < i then stS G T I a s W X g else X.st g)) ∧ σ 23 15 = nI t ∧
  (∀ g, g < G → σ 24 g = T (4 * g + 1) ∧ σ 25 g = T (4 * g + 2) ∧ σ 26 g = T (4 * g + 3) ∧ σ 27 g = W g ∧ σ 28 g = (if g < i ∧ act G I X g then nWt T a s W X g else X.wt g) ∧ σ 29 g = (if g < i ∧ act G I X g then xP (W g) (X.wt g) else X.pr g) ∧ σ 30 g = (if I g = true then (if g < i ∧ act G I X g then nSt T a s W X g else X.st g) else 3) ∧ σ 31 g = (if g < i ∧ act G I X g then nEn T a s W t X g else X.en g) ∧ σ 32 g = (if g < i ∧ act G I X g then nLg T a s W X g else X.lg g)) ∧
  (σ 23 16 = 1 ∨ (σ 23 16 = 0 ∧ ∀ g, g < i → act G I X g → ¬ nSt T a s W X g = 1))
theorem SL_step_23 {G : Nat} (hG : G ≤ 12) {T : Nat → Int32} {I : Nat → Bool} {a s : Int32} {t : Nat} {W : Nat → Int32} {X : Sm} {i : Nat} (hi : i < G) {σ : jm_S} (h : SL_23 G T I a s t W X i σ) (hx : Option Value) (x1 x2 x3 : Int32) : ∃ ρ, jv 41 68 [some (.ref 23), some (.int x1), some (.int x2), some (.int x3), some (.int (nI i)), hx] [] σ = jv 41 68 [some (.ref 23), some (.int x1), some (.int x2), some (.int x3), some (.int (nI (i + 1))), hx] [] ρ ∧ SL_23 G T I a s t W X (i + 1) ρ ∧ (∀ c, c ∉ [23, 28, 29, 30, 31, 32] → ρ c = σ c) := by
  obtain ⟨h1, h2, h3, h4, h5, h6, h7⟩ := h
  obtain ⟨g1, g2, g3, g4, g5, g6, g7, g8, g9⟩ := h6 i hi
  rw [if_neg (show ¬ (i < i ∧ act G I X i) by omega)] at g5 g6 g7 g8 g9
  have r0 := Batch_second_23_L68 x1 x2 x3 (nI i) hx σ
  rw [h1, if_neg (nI_ge hi (by omega)), nI_clamp (show i < 2 ^ 31 by omega), if_neg (by rw [jbad2 (show i < 12 by omega) (by decide)]; exact id), nI_1] at r0
  have lt : ∀ g, g ≠ i → ((g < i + 1) = (g < i)) := fun g hg => propext ⟨fun q => by omega, fun q => by omega⟩
  by_cases c : act G I X i
  · have cst : σ 30 i = 0 := by rw [g7, if_pos c.2.1, c.2.2]
    obtain ⟨ρ, e1, e2, e3, e4, e5, e6, e7, e8, e9, e10, e11⟩ := strainS_23 (show i < 12 by omega) σ
    rw [if_neg (not_not_intro cst), e1, jbv_some] at r0
    rw [h2, h3, g1, g4, g5] at e6 e7 e8 e9 e10 e11
    rw [g4, g5] at e5
    refine ⟨ρ, r0, ⟨by rw [e4 11 (by decide) (by decide)]; exact h1, by rw [e4 12 (by decide) (by decide)]; exact h2, by rw [e4 13 (by decide) (by decide)]; exact h3, ?_, by rw [e4 15 (by decide) (by decide)]; exact h5, fun g hg => ?_, ?_⟩, e2⟩
    · have keep : ∀ g, g < G → g ≠ i → (fun g => I g && decide ((if g < i + 1 then stS G T I a s W X g else X.st g) = 0)) g = (fun g => I g && decide ((if g < i then stS G T I a s W X g else X.st g) = 0)) g := by
        intro g _ hne
        show (I g && decide ((if g < i + 1 then stS G T I a s W X g else X.st g) = 0)) = (I g && decide ((if g < i then stS G T I a s W X g else X.st g) = 0))
        simp only [lt g hne]
      have old : (fun g => I g && decide ((if g < i then stS G T I a s W X g else X.st g) = 0)) i = true := by
        show (I i && decide ((if i < i then stS G T I a s W X i else X.st i) = 0)) = true
        rw [if_neg (show ¬ i < i by omega), c.2.1, c.2.2]; decide
      have nw : ∀ v, nSt T a s W X i = v → (fun g => I g && decide ((if g < i + 1 then stS G T I a s W X g else X.st g) = 0)) i = decide (v = 0) := by
        intro v hv
        show (I i && decide ((if i < i + 1 then stS G T I a s W X i else X.st i) = 0)) = decide (v = 0)
        rw [if_pos (show i < i + 1 by omega), stS, if_pos c, hv, c.2.1, Bool.true_and]
      have dn : ∀ v, nSt T a s W X i = v → ¬ v = 0 → σ 23 14 - 1 = nI (whN G I (fun g => if g < i + 1 then stS G T I a s W X g else X.st g)) := by
        intro v hv hv0
        have fl := cntN_flip hi keep old ((nw v hv).trans (decide_eq_false hv0))
        rw [h4]
        unfold whN
        rw [fl, nI_pred]
      rw [e10]
      by_cases c1 : xO a s (T (4 * i + 1)) (W i) (X.wt i)
      · rw [if_pos c1]; exact dn 1 (by rw [nSt, if_pos c1]) (by decide)
      · rw [if_neg c1]
        by_cases c2 : W i ≤ 250
        · rw [if_pos c2, h4]
          unfold whN
          congr 1
          refine cntN_congr (fun j hj => ?_)
          by_cases cj : j = i
          · subst cj; exact old.trans (nw 0 (by rw [nSt, if_neg c1, if_pos c2])).symm
          · exact (keep j hj cj).symm
        · rw [if_neg c2]; exact dn 2 (by rw [nSt, if_neg c1, if_neg c2]) (by decide)
    · by_cases cg : g = i
      · subst cg
        rw [e2 24 (by decide), e2 25 (by decide), e2 26 (by decide), e2 27 (by decide)]
        have lt' : g < g + 1 ∧ act G I X g := ⟨by omega, c⟩
        refine ⟨g1, g2, g3, g4, ?_, ?_, ?_, ?_, ?_⟩
        · rw [if_pos lt', e6, g3]; rfl
        · rw [if_pos lt', e5]
        · rw [if_pos c.2.1, if_pos lt', e7, cst]; rfl
        · rw [if_pos lt', e8, h5, g8]; rfl
        · rw [if_pos lt', e9, g2, g9]; rfl
      · obtain ⟨k1, k2, k3, k4, k5, k6, k7, k8, k9⟩ := h6 g hg
        obtain ⟨m1, m2, m3, m4, m5⟩ := e3 g cg
        rw [e2 24 (by decide), e2 25 (by decide), e2 26 (by decide), e2 27 (by decide), m1, m2, m3, m4, m5]
        simp only [lt g cg]
        exact ⟨k1, k2, k3, k4, k5, k6, k7, k8, k9⟩
    · rw [e11]
      by_cases c1 : xO a s (T (4 * i + 1)) (W i) (X.wt i)
      · rw [if_pos c1]; exact Or.inl rfl
      · rw [if_neg c1]
        refine h7.imp id (fun k => ⟨k.1, fun g hg hact => ?_⟩)
        by_cases cg : g = i
        · subst cg
          rw [nSt, if_neg c1]
          split <;> decide
        · exact k.2 g (by omega) hact
  · have cst : ¬ σ 30 i = 0 := by
      rw [g7]
      by_cases ci : I i = true
      · rw [if_pos ci]; exact fun e => c ⟨hi, ci, e⟩
      · rw [if_neg ci]; decide
    rw [if_pos cst] at r0
    refine ⟨σ, r0, ⟨h1, h2, h3, ?_, h5, fun g hg => ?_, ?_⟩, fun _ _ => rfl⟩
    · rw [h4]
      unfold whN
      congr 1
      refine cntN_congr (fun j hj => ?_)
      show (I j && decide ((if j < i then stS G T I a s W X j else X.st j) = 0)) = (I j && decide ((if j < i + 1 then stS G T I a s W X j else X.st j) = 0))
      by_cases cj : j = i
      · subst cj
        rw [if_neg (show ¬ j < j by omega), if_pos (show j < j + 1 by omega), stS, if_neg c]
      · simp only [lt j cj]
    · by_cases cg : g = i
      · subst cg
        have nq : ¬ (g < g + 1 ∧ act G I X g) := fun q => c q.2
        simp only [if_neg nq]
        exact ⟨g1, g2, g3, g4, g5, g6, g7, g8, g9⟩
      · simp only [lt g cg]
        exact h6 g hg
    · refine h7.imp id (fun k => ⟨k.1, fun g hg hact => ?_⟩)
      by_cases cg : g = i
      · subst cg; exact absurd hact c
      · exact k.2 g (by omega) hact
theorem SL_loop_23 {G : Nat} (hG : G ≤ 12) {T : Nat → Int32} {I : Nat → Bool} {a s : Int32} {t : Nat} {W : Nat → Int32} {X : Sm} (hx : Option Value) (x1 x2 x3 : Int32) : ∀ (k i : Nat) (σ : jm_S), i + k = G → SL_23 G T I a s t W X i σ → ∃ ρ, jv 41 68 [some (.ref 23), some (.int x1), some (.int x2), some (.int x3), some (.int (nI i)), hx] [] σ = some (none, jm_up ρ 23 15 (nI (t + 1))) ∧ SL_23 G T I a s t W X G ρ ∧ (∀ c, c ∉ [23, 28, 29, 30, 31, 32] → ρ c = σ c) := by
  intro k
  induction k with
  | zero =>
    intro i σ hi h
    have e : i = G := by omega
    subst e
    refine ⟨σ, ?_, h, fun _ _ => rfl⟩
    rw [Batch_second_23_L68, h.1, if_pos (nI_le (Nat.le_refl _) (by omega)), h.2.2.2.2.1, nI_1]
  | succ k ih =>
    intro i σ hi h
    obtain ⟨τ, e1, e2, e3⟩ := SL_step_23 hG (show i < G by omega) h hx x1 x2 x3
    obtain ⟨ρ, g1, g2, g3⟩ := ih (i + 1) τ (by omega) e2
    exact ⟨ρ, by rw [e1, g1], g2, fun c hc => by rw [g3 c hc, e3 c hc]⟩
