/-! ===== the model: one second, whole ===== -/
abbrev inB (v : Int32) (g : Nat) : Prop := ((v >>> (nI g &&& 31)) &&& (1 : Int32)) = 1
theorem M_isIn (g : Nat) (σ : jm_S) : jc 153 [.ref 61, .int (nI g)] σ = some (some (.int (if inB (σ 61 24) g then 1 else 0)), σ) := by
  rw [M_isIn_in]
  by_cases c : inB (σ 61 24) g
  · rw [if_neg (not_not_intro c), if_pos c]
  · rw [if_pos c, if_neg c]
def MR (G : Nat) (T : Nat → Int32) (I : Nat → Bool) (a s : Int32) (X : Sm) (σ : jm_S) : Prop :=
  σ 61 5 = nI G ∧ σ 61 20 = a ∧ σ 61 21 = s ∧ (∀ g, g < G → (inB (σ 61 24) g ↔ I g = true)) ∧ (∀ j, j < 4 * G → σ 67 j = T j) ∧
  (∀ g, g < G → σ 76 g = X.wm g ∧ σ 77 g = X.wt g ∧ σ 78 g = X.pr g ∧ σ 79 g = X.st g ∧ σ 80 g = (if X.st g = 1 then X.en g else -1) ∧ σ 81 g = X.lg g) ∧
  (∀ p, p < 4 → RW σ 82 83 p (X.rw p))
def ML (G : Nat) (T : Nat → Int32) (I : Nat → Bool) (a s : Int32) (t : Nat) (W : Nat → Int32) (X : Sm) (i : Nat) (σ : jm_S) : Prop :=
  σ 61 5 = nI G ∧ σ 61 20 = a ∧ σ 61 21 = s ∧ (∀ g, g < G → (inB (σ 61 24) g ↔ I g = true)) ∧ (∀ j, j < 4 * G → σ 67 j = T j) ∧
  (∀ g, g < G → σ 76 g = W g ∧ σ 77 g = (if g < i ∧ act G I X g then nWt T a s W X g else X.wt g) ∧ σ 78 g = (if g < i ∧ act G I X g then xP (W g) (X.wt g) else X.pr g) ∧ σ 79 g = (if g < i ∧ act G I X g then nSt T a s W X g else X.st g) ∧ σ 80 g = (if (if g < i ∧ act G I X g then nSt T a s W X g else X.st g) = 1 then (if g < i ∧ act G I X g then nEn T a s W t X g else X.en g) else -1) ∧ σ 81 g = (if g < i ∧ act G I X g then nLg T a s W X g else X.lg g))
def opN (G : Nat) (T : Nat → Int32) (I : Nat → Bool) (a s : Int32) (W : Nat → Int32) (X : Sm) : Nat → Nat := cntN (fun g => decide (act G I X g ∧ nSt T a s W X g = 1))
theorem goesS {g : Nat} (hg : g < 12) (t : Int32) (σ : jm_S) : ∃ ρ, jc 157 [.ref 61, .int (nI g), .int t] σ = some (some (.int (if xO (σ 61 20) (σ 61 21) (σ 67 (4 * g + 1)) (σ 76 g) (σ 77 g) then 1 else 0)), ρ) ∧ (∀ c, c ∉ [77, 78, 79, 80, 81] → ρ c = σ c) ∧ (∀ j, j ≠ g → ρ 77 j = σ 77 j ∧ ρ 78 j = σ 78 j ∧ ρ 79 j = σ 79 j ∧ ρ 80 j = σ 80 j ∧ ρ 81 j = σ 81 j) ∧ ρ 78 g = xP (σ 76 g) (σ 77 g) ∧
    ρ 77 g = (if xO (σ 61 20) (σ 61 21) (σ 67 (4 * g + 1)) (σ 76 g) (σ 77 g) then σ 77 g else if σ 76 g ≤ 250 then xW (σ 67 (4 * g + 3)) (σ 76 g) (σ 77 g) else σ 77 g) ∧
    ρ 79 g = (if xO (σ 61 20) (σ 61 21) (σ 67 (4 * g + 1)) (σ 76 g) (σ 77 g) then 1 else if σ 76 g ≤ 250 then σ 79 g else 2) ∧
    ρ 80 g = (if xO (σ 61 20) (σ 61 21) (σ 67 (4 * g + 1)) (σ 76 g) (σ 77 g) then t else σ 80 g) ∧
    ρ 81 g = (if xO (σ 61 20) (σ 61 21) (σ 67 (4 * g + 1)) (σ 76 g) (σ 77 g) then σ 67 (4 * g + 2) * (xP (σ 76 g) (σ 77 g) - σ 61 20) / 10 else σ 81 g) := by
  have r0 := M_goes hg t σ
  by_cases c1 : xO (σ 61 20) (σ 61 21) (σ 67 (4 * g + 1)) (σ 76 g) (σ 77 g)
  · rw [if_pos c1] at r0
    simp only [if_pos c1]
    refine ⟨_, r0, fun c hc => ?_, fun j hj => ⟨?_, ?_, ?_, ?_, ?_⟩, ?_, ?_, ?_, ?_, ?_⟩
    · simp only [List.mem_cons, List.not_mem_nil, or_false, not_or] at hc
      rw [jup_n _ _ _ (by omega), jup_n _ _ _ (by omega), jup_n _ _ _ (by omega), jup_n _ _ _ (by omega)]
    · (repeat (first | rw [jup_s] | rw [jrow_s] | rw [jup_n _ _ _ (by omega)] | rw [jrow_n _ _ (by omega)]))
    · (repeat (first | rw [jup_s] | rw [jrow_s] | rw [jup_n _ _ _ (by omega)] | rw [jrow_n _ _ (by omega)]))
      rw [jupd, if_neg hj]
    · (repeat (first | rw [jup_s] | rw [jrow_s] | rw [jup_n _ _ _ (by omega)] | rw [jrow_n _ _ (by omega)]))
      rw [jupd, if_neg hj]
      (repeat (first | rw [jup_s] | rw [jrow_s] | rw [jup_n _ _ _ (by omega)] | rw [jrow_n _ _ (by omega)]))
    · (repeat (first | rw [jup_s] | rw [jrow_s] | rw [jup_n _ _ _ (by omega)] | rw [jrow_n _ _ (by omega)]))
      rw [jupd, if_neg hj]
      (repeat (first | rw [jup_s] | rw [jrow_s] | rw [jup_n _ _ _ (by omega)] | rw [jrow_n _ _ (by omega)]))
    · (repeat (first | rw [jup_s] | rw [jrow_s] | rw [jup_n _ _ _ (by omega)] | rw [jrow_n _ _ (by omega)]))
      rw [jupd, if_neg hj]
      (repeat (first | rw [jup_s] | rw [jrow_s] | rw [jup_n _ _ _ (by omega)] | rw [jrow_n _ _ (by omega)]))
    · (repeat (first | rw [jup_s] | rw [jrow_s] | rw [jup_n _ _ _ (by omega)] | rw [jrow_n _ _ (by omega)]))
      rw [jupd, if_pos rfl]
    · (repeat (first | rw [jup_s] | rw [jrow_s] | rw [jup_n _ _ _ (by omega)] | rw [jrow_n _ _ (by omega)]))
    · (repeat (first | rw [jup_s] | rw [jrow_s] | rw [jup_n _ _ _ (by omega)] | rw [jrow_n _ _ (by omega)]))
      rw [jupd, if_pos rfl]
    · (repeat (first | rw [jup_s] | rw [jrow_s] | rw [jup_n _ _ _ (by omega)] | rw [jrow_n _ _ (by omega)]))
      rw [jupd, if_pos rfl]
    · (repeat (first | rw [jup_s] | rw [jrow_s] | rw [jup_n _ _ _ (by omega)] | rw [jrow_n _ _ (by omega)]))
      rw [jupd, if_pos rfl]
  · rw [if_neg c1] at r0
    simp only [if_neg c1]
    by_cases c2 : σ 76 g ≤ 250
    · rw [if_pos c2] at r0
      simp only [if_pos c2]
      refine ⟨_, r0, fun c hc => ?_, fun j hj => ⟨?_, ?_, ?_, ?_, ?_⟩, ?_, ?_, ?_, ?_, ?_⟩
      · simp only [List.mem_cons, List.not_mem_nil, or_false, not_or] at hc
        rw [jup_n _ _ _ (by omega), jup_n _ _ _ (by omega)]
      · (repeat (first | rw [jup_s] | rw [jrow_s] | rw [jup_n _ _ _ (by omega)] | rw [jrow_n _ _ (by omega)]))
        rw [jupd, if_neg hj]
        (repeat (first | rw [jup_s] | rw [jrow_s] | rw [jup_n _ _ _ (by omega)] | rw [jrow_n _ _ (by omega)]))
      · (repeat (first | rw [jup_s] | rw [jrow_s] | rw [jup_n _ _ _ (by omega)] | rw [jrow_n _ _ (by omega)]))
        rw [jupd, if_neg hj]
      · (repeat (first | rw [jup_s] | rw [jrow_s] | rw [jup_n _ _ _ (by omega)] | rw [jrow_n _ _ (by omega)]))
      · (repeat (first | rw [jup_s] | rw [jrow_s] | rw [jup_n _ _ _ (by omega)] | rw [jrow_n _ _ (by omega)]))
      · (repeat (first | rw [jup_s] | rw [jrow_s] | rw [jup_n _ _ _ (by omega)] | rw [jrow_n _ _ (by omega)]))
      · (repeat (first | rw [jup_s] | rw [jrow_s] | rw [jup_n _ _ _ (by omega)] | rw [jrow_n _ _ (by omega)]))
        rw [jupd, if_pos rfl]
      · (repeat (first | rw [jup_s] | rw [jrow_s] | rw [jup_n _ _ _ (by omega)] | rw [jrow_n _ _ (by omega)]))
        rw [jupd, if_pos rfl]
      · (repeat (first | rw [jup_s] | rw [jrow_s] | rw [jup_n _ _ _ (by omega)] | rw [jrow_n _ _ (by omega)]))
      · (repeat (first | rw [jup_s] | rw [jrow_s] | rw [jup_n _ _ _ (by omega)] | rw [jrow_n _ _ (by omega)]))
      · (repeat (first | rw [jup_s] | rw [jrow_s] | rw [jup_n _ _ _ (by omega)] | rw [jrow_n _ _ (by omega)]))
    · rw [if_neg c2] at r0
      simp only [if_neg c2]
      refine ⟨_, r0, fun c hc => ?_, fun j hj => ⟨?_, ?_, ?_, ?_, ?_⟩, ?_, ?_, ?_, ?_, ?_⟩
      · simp only [List.mem_cons, List.not_mem_nil, or_false, not_or] at hc
        rw [jup_n _ _ _ (by omega), jup_n _ _ _ (by omega)]
      · (repeat (first | rw [jup_s] | rw [jrow_s] | rw [jup_n _ _ _ (by omega)] | rw [jrow_n _ _ (by omega)]))
      · (repeat (first | rw [jup_s] | rw [jrow_s] | rw [jup_n _ _ _ (by omega)] | rw [jrow_n _ _ (by omega)]))
        rw [jupd, if_neg hj]
      · (repeat (first | rw [jup_s] | rw [jrow_s] | rw [jup_n _ _ _ (by omega)] | rw [jrow_n _ _ (by omega)]))
        rw [jupd, if_neg hj]
        (repeat (first | rw [jup_s] | rw [jrow_s] | rw [jup_n _ _ _ (by omega)] | rw [jrow_n _ _ (by omega)]))
      · (repeat (first | rw [jup_s] | rw [jrow_s] | rw [jup_n _ _ _ (by omega)] | rw [jrow_n _ _ (by omega)]))
      · (repeat (first | rw [jup_s] | rw [jrow_s] | rw [jup_n _ _ _ (by omega)] | rw [jrow_n _ _ (by omega)]))
      · (repeat (first | rw [jup_s] | rw [jrow_s] | rw [jup_n _ _ _ (by omega)] | rw [jrow_n _ _ (by omega)]))
        rw [jupd, if_pos rfl]
      · (repeat (first | rw [jup_s] | rw [jrow_s] | rw [jup_n _ _ _ (by omega)] | rw [jrow_n _ _ (by omega)]))
      · (repeat (first | rw [jup_s] | rw [jrow_s] | rw [jup_n _ _ _ (by omega)] | rw [jrow_n _ _ (by omega)]))
        rw [jupd, if_pos rfl]
      · (repeat (first | rw [jup_s] | rw [jrow_s] | rw [jup_n _ _ _ (by omega)] | rw [jrow_n _ _ (by omega)]))
      · (repeat (first | rw [jup_s] | rw [jrow_s] | rw [jup_n _ _ _ (by omega)] | rw [jrow_n _ _ (by omega)]))
theorem ML_step {G : Nat} (hG : G ≤ 12) {T : Nat → Int32} {I : Nat → Bool} {a s : Int32} {t : Nat} {W : Nat → Int32} {X : Sm} {i : Nat} (hi : i < G) {σ : jm_S} (h : ML G T I a s t W X i σ) (x2 : Int32) : ∃ ρ, jv 154 102 [some (.ref 61), some (.int (nI t)), some (.int x2), some (.int (nI (opN G T I a s W X i))), some (.int (nI i))] [] σ = jv 154 102 [some (.ref 61), some (.int (nI t)), some (.int x2), some (.int (nI (opN G T I a s W X (i + 1)))), some (.int (nI (i + 1)))] [] ρ ∧ ML G T I a s t W X (i + 1) ρ ∧ (∀ c, c ∉ [77, 78, 79, 80, 81] → ρ c = σ c) := by
  obtain ⟨h1, h2, h3, h4, h5, h6⟩ := h
  obtain ⟨g4, g5, g6, g7, g8, g9⟩ := h6 i hi
  have t1 := h5 (4 * i + 1) (by omega)
  have t2 := h5 (4 * i + 2) (by omega)
  have t3 := h5 (4 * i + 3) (by omega)
  rw [if_neg (show ¬ (i < i ∧ act G I X i) by omega)] at g5 g6 g7 g9
  rw [if_neg (show ¬ (i < i ∧ act G I X i) by omega), if_neg (show ¬ (i < i ∧ act G I X i) by omega)] at g8
  have r0 := M_second_L102 (nI t) x2 (nI (opN G T I a s W X i)) (nI i) σ
  rw [h1, if_neg (nI_ge hi (by omega)), M_isIn, jbi_some, nI_clamp (show i < 2 ^ 31 by omega), nI_1, nI_1] at r0
  have lt : ∀ g, g ≠ i → ((g < i + 1) = (g < i)) := fun g hg => propext ⟨fun q => by omega, fun q => by omega⟩
  have nob : ¬ act G I X i → opN G T I a s W X (i + 1) = opN G T I a s W X i := by
    intro c
    unfold opN
    rw [cntN, if_neg (fun q => c (of_decide_eq_true q).1)]; rfl
  have skip : ¬ act G I X i → jv 154 102 [some (.ref 61), some (.int (nI t)), some (.int x2), some (.int (nI (opN G T I a s W X i))), some (.int (nI i))] [] σ = jv 154 102 [some (.ref 61), some (.int (nI t)), some (.int x2), some (.int (nI (opN G T I a s W X i))), some (.int (nI (i + 1)))] [] σ → ∃ ρ, jv 154 102 [some (.ref 61), some (.int (nI t)), some (.int x2), some (.int (nI (opN G T I a s W X i))), some (.int (nI i))] [] σ = jv 154 102 [some (.ref 61), some (.int (nI t)), some (.int x2), some (.int (nI (opN G T I a s W X (i + 1)))), some (.int (nI (i + 1)))] [] ρ ∧ ML G T I a s t W X (i + 1) ρ ∧ (∀ c, c ∉ [77, 78, 79, 80, 81] → ρ c = σ c) := by
    intro c r
    refine ⟨σ, by rw [nob c]; exact r, ⟨h1, h2, h3, h4, h5, fun g hg => ?_⟩, fun _ _ => rfl⟩
    by_cases cg : g = i
    · subst cg
      have nq : ¬ (g < g + 1 ∧ act G I X g) := fun q => c q.2
      simp only [if_neg nq]
      exact ⟨g4, g5, g6, g7, g8, g9⟩
    · simp only [lt g cg]
      exact h6 g hg
  by_cases c1 : I i = true
  · have cb := (h4 i hi).mpr c1
    rw [if_pos cb, if_neg (by decide), if_neg (by rw [jbad2 (show i < 12 by omega) (by decide)]; exact id)] at r0
    by_cases c2 : X.st i = 0
    · have c : act G I X i := ⟨hi, c1, c2⟩
      rw [g7, if_neg (not_not_intro c2)] at r0
      obtain ⟨ρ, e1, e2, e3, e5, e6, e7, e8, e9⟩ := goesS (show i < 12 by omega) (nI t) σ
      rw [e1, jbi_some] at r0
      rw [h2, h3, t1, g4, g5] at r0 e6 e7 e8 e9
      rw [g4, g5] at e5
      have cnt : opN G T I a s W X (i + 1) = if xO a s (T (4 * i + 1)) (W i) (X.wt i) then opN G T I a s W X i + 1 else opN G T I a s W X i := by
        unfold opN
        rw [cntN]
        by_cases c3 : xO a s (T (4 * i + 1)) (W i) (X.wt i)
        · rw [if_pos c3, if_pos (decide_eq_true ⟨c, by rw [nSt, if_pos c3]⟩)]
        · rw [if_neg c3, if_neg (by
            intro q
            have q := (of_decide_eq_true q).2
            rw [nSt, if_neg c3] at q
            split at q
            · exact absurd q (by decide)
            · exact absurd q (by decide))]; rfl
      refine ⟨ρ, ?_, ⟨by rw [e2 61 (by decide)]; exact h1, by rw [e2 61 (by decide)]; exact h2, by rw [e2 61 (by decide)]; exact h3, by rw [e2 61 (by decide)]; exact h4, by rw [e2 67 (by decide)]; exact h5, fun g hg => ?_⟩, e2⟩
      · rw [r0, cnt]
        by_cases c3 : xO a s (T (4 * i + 1)) (W i) (X.wt i)
        · rw [if_pos c3, if_pos c3, if_neg (by decide)]
        · rw [if_neg c3, if_neg c3, if_pos rfl]
      · by_cases cg : g = i
        · subst cg
          have lt' : g < g + 1 ∧ act G I X g := ⟨by omega, c⟩
          simp only [if_pos lt']
          rw [e2 76 (by decide)]
          refine ⟨g4, ?_, e5, ?_, ?_, ?_⟩
          · rw [e6, t3]; rfl
          · rw [e7, g7, c2]; rfl
          · rw [e8, g8, c2, nSt, nEn]
            by_cases c3 : xO a s (T (4 * g + 1)) (W g) (X.wt g)
            · rw [if_pos c3, if_pos c3, if_pos rfl, if_pos c3]
            · rw [if_neg c3, if_neg c3, if_neg (by decide)]
              by_cases c4 : W g ≤ 250
              · rw [if_pos c4, if_neg (by decide)]
              · rw [if_neg c4, if_neg (by decide)]
          · rw [e9, t2, g9]; rfl
        · obtain ⟨k4, k5, k6, k7, k8, k9⟩ := h6 g hg
          obtain ⟨m1, m2, m3, m4, m5⟩ := e3 g cg
          rw [e2 76 (by decide), m1, m2, m3, m4, m5]
          simp only [lt g cg]
          exact ⟨k4, k5, k6, k7, k8, k9⟩
    · rw [g7, if_pos c2] at r0
      exact skip (fun q => c2 q.2.2) r0
  · rw [if_neg (fun q => c1 ((h4 i hi).mp q)), if_pos rfl] at r0
    exact skip (fun q => c1 q.2.1) r0
theorem ML_loop {G : Nat} (hG : G ≤ 12) {T : Nat → Int32} {I : Nat → Bool} {a s : Int32} {t : Nat} {W : Nat → Int32} {X : Sm} (x2 : Int32) : ∀ (k i : Nat) (σ : jm_S), i + k = G → ML G T I a s t W X i σ → ∃ ρ, jv 154 102 [some (.ref 61), some (.int (nI t)), some (.int x2), some (.int (nI (opN G T I a s W X i))), some (.int (nI i))] [] σ = jv 154 102 [some (.ref 61), some (.int (nI t)), some (.int x2), some (.int (nI (opN G T I a s W X G))), some (.int (nI G))] [] ρ ∧ ML G T I a s t W X G ρ ∧ (∀ c, c ∉ [77, 78, 79, 80, 81] → ρ c = σ c) := by
  intro k
  induction k with
  | zero =>
    intro i σ hi h
    have e : i = G := by omega
    subst e
    exact ⟨σ, rfl, h, fun _ _ => rfl⟩
  | succ k ih =>
    intro i σ hi h
    obtain ⟨τ, e1, e2, e3⟩ := ML_step hG (show i < G by omega) h x2
    obtain ⟨ρ, g1, g2, g3⟩ := ih (i + 1) τ (by omega) e2
    exact ⟨ρ, by rw [e1, g1], g2, fun c hc => by rw [g3 c hc, e3 c hc]⟩
def mH (σ : jm_S) (t : Nat) : Int32 := if σ 61 22 = -1 then σ 71 t else σ 61 22
def mL (σ : jm_S) (t : Nat) : Int32 := if σ 61 22 = -1 then (if σ 73 t = 0 then 0 else 1) else 0
def mK (σ : jm_S) (t : Nat) : Int32 := (if σ 61 22 = -1 then σ 72 t else 0) + (if σ 61 23 = nI t then 1 else 0)
theorem M_second_start {t : Nat} (ht : t < 200) (σ : jm_S) : jc 154 [.ref 61, .int (nI t)] σ = jv 154 35 [some (.ref 61), some (.int (nI t)), some (.int (mK σ t)), some (.int (0 : Int32)), none] [] σ := by
  rw [M_second_in, nI_clamp (show t < 2 ^ 31 by omega)]
  unfold mK
  have nt : ¬ (nI t < 0 ∨ 200 ≤ t) := by rw [jbad2 ht (by decide)]; exact id
  by_cases c1 : σ 61 22 = -1
  · rw [if_neg (not_not_intro c1), if_neg nt, if_pos c1]
    by_cases c2 : σ 61 23 = nI t
    · rw [if_neg (not_not_intro c2), if_pos c2]
    · rw [if_pos c2, if_neg c2]
  · rw [if_pos c1, if_neg c1]
    by_cases c2 : σ 61 23 = nI t
    · rw [if_neg (not_not_intro c2), if_pos c2]
    · rw [if_pos c2, if_neg c2]
theorem M_second_warm {t : Nat} (ht : t < 200) (k : Int32) (σ : jm_S) : (if ¬ (σ 61 22) = (-1 : Int32) then (if ¬ (σ 61 22) = (-1 : Int32) then jbv (jc 156 [(.ref 61), (.int (σ 61 22)), (.int (0 : Int32))] σ) (fun τ1 => jv 154 102 [some (.ref 61), some (.int (nI t)), some (.int k), some (.int (0 : Int32)), some (.int (0 : Int32))] [] τ1) else (if (nI t) < 0 ∨ 200 ≤ t then none else (if (σ 73 t) = 0 then jbv (jc 156 [(.ref 61), (.int (σ 61 22)), (.int (0 : Int32))] σ) (fun τ2 => jv 154 102 [some (.ref 61), some (.int (nI t)), some (.int k), some (.int (0 : Int32)), some (.int (0 : Int32))] [] τ2) else jbv (jc 156 [(.ref 61), (.int (σ 61 22)), (.int (1 : Int32))] σ) (fun τ3 => jv 154 102 [some (.ref 61), some (.int (nI t)), some (.int k), some (.int (0 : Int32)), some (.int (0 : Int32))] [] τ3)))) else (if (nI t) < 0 ∨ 200 ≤ t then none else (if ¬ (σ 61 22) = (-1 : Int32) then jbv (jc 156 [(.ref 61), (.int (σ 71 t)), (.int (0 : Int32))] σ) (fun τ4 => jv 154 102 [some (.ref 61), some (.int (nI t)), some (.int k), some (.int (0 : Int32)), some (.int (0 : Int32))] [] τ4) else (if (nI t) < 0 ∨ 200 ≤ t then none else (if (σ 73 t) = 0 then jbv (jc 156 [(.ref 61), (.int (σ 71 t)), (.int (0 : Int32))] σ) (fun τ5 => jv 154 102 [some (.ref 61), some (.int (nI t)), some (.int k), some (.int (0 : Int32)), some (.int (0 : Int32))] [] τ5) else jbv (jc 156 [(.ref 61), (.int (σ 71 t)), (.int (1 : Int32))] σ) (fun τ6 => jv 154 102 [some (.ref 61), some (.int (nI t)), some (.int k), some (.int (0 : Int32)), some (.int (0 : Int32))] [] τ6)))))) = jbv (jc 156 [.ref 61, .int (mH σ t), .int (mL σ t)] σ) (fun τ1 => jv 154 102 [some (.ref 61), some (.int (nI t)), some (.int k), some (.int (0 : Int32)), some (.int (0 : Int32))] [] τ1) := by
  have nt : ¬ (nI t < 0 ∨ 200 ≤ t) := by rw [jbad2 ht (by decide)]; exact id
  unfold mH mL
  by_cases c1 : σ 61 22 = -1
  · simp only [if_neg (not_not_intro c1), if_neg nt, if_pos c1]
    by_cases c2 : σ 73 t = 0
    · simp only [if_pos c2]
    · simp only [if_neg c2]
  · simp only [if_pos c1, if_neg c1]
theorem M_second_shakes {t : Nat} (ht : t < 200) {k : Nat} (hk : k < 2 ^ 31) : ∀ (m i : Nat) (C : Nat → List Nat) (σ : jm_S), i + m = k → (∀ p, p < 4 → RW σ 82 83 p (C p)) → ∃ ρ, jv 154 35 [some (.ref 61), some (.int (nI t)), some (.int (nI k)), some (.int (nI i)), none] [] σ = jbv (jc 156 [.ref 61, .int (mH ρ t), .int (mL ρ t)] ρ) (fun τ1 => jv 154 102 [some (.ref 61), some (.int (nI t)), some (.int (nI k)), some (.int (0 : Int32)), some (.int (0 : Int32))] [] τ1) ∧ (∀ p, p < 4 → RW ρ 82 83 p (rotN m (C p))) ∧ (∀ c, c ≠ 82 → ρ c = σ c) := by
  intro m
  induction m with
  | zero =>
    intro i C σ hi hC
    refine ⟨σ, ?_, hC, fun _ _ => rfl⟩
    rw [M_second_L35, if_pos (nI_le (by omega) (by omega)), nI_clamp (show t < 2 ^ 31 by omega)]
    exact M_second_warm ht (nI k) σ
  | succ m ih =>
    intro i C σ hi hC
    obtain ⟨τ, e1, e2, e3⟩ := M_shakesAll C σ hC
    obtain ⟨ρ, g1, g2, g3⟩ := ih (i + 1) (fun p => rot (C p)) τ (by omega) e2
    refine ⟨ρ, ?_, g2, fun c hc => by rw [g3 c hc, e3 c hc]⟩
    rw [M_second_L35, if_neg (nI_ge (by omega) (by omega)), e1, jbv_some, nI_1, g1]
theorem M_second {G : Nat} (hG : G ≤ 12) {T : Nat → Int32} {I : Nat → Bool} {a s : Int32} {t : Nat} (ht : t < 200) {X : Sm} (hX : Wf G I X) {k : Nat} (hk : k < 2 ^ 31) (σ : jm_S) (hK : mK σ t = nI k) (hR : MR G T I a s X σ) : ∃ ρ, jc 154 [.ref 61, .int (nI t)] σ = some (none, ρ) ∧ MR G T I a s (stp G T I a s (mH σ t) k (qq (mL σ t)) t X) ρ ∧ ρ 84 = upd (σ 84) t (nI (opN G T I a s (s1W (mH σ t) k (qq (mL σ t)) X) X G)) ∧ (∀ c, c ∉ [76, 77, 78, 79, 80, 81, 82, 83, 84] → ρ c = σ c) := by
  obtain ⟨h1, h2, h3, h4, h5, h6, h7⟩ := hR
  obtain ⟨τ, a1, a2, a3⟩ := M_second_shakes ht hk k 0 X.rw σ (by omega) h7
  have eH : mH τ t = mH σ t := by unfold mH; rw [a3 61 (by decide), a3 71 (by decide)]
  have eL : mL τ t = mL σ t := by unfold mL; rw [a3 61 (by decide), a3 73 (by decide)]
  rw [eH, eL] at a1
  have a1' : jv 154 35 [some (.ref 61), some (.int (nI t)), some (.int (nI k)), some (.int (nI 0)), none] [] σ = _ := a1.trans (by rw [M_warms (fun p => rotN k (X.rw p)) _ _ τ a2, jbv_some])
  generalize hh : mH σ t = h at a1' ⊢
  generalize hl : mL σ t = l at a1' ⊢
  have W : ∀ g, g < G → (jm_row τ 76 (warmL (qq l) (rotN k (X.rw 3)) h (warmL (qq l) (rotN k (X.rw 2)) h (warmL (qq l) (rotN k (X.rw 1)) h (warmL (qq l) (rotN k (X.rw 0)) h (τ 76)))))) 76 g = s1W h k (qq l) X g := by
    intro g hg
    rw [jrow_s]
    refine s1W_congr hX h k (qq l) _ (fun j hj => ?_) g hg
    rw [a3 76 (by decide)]
    exact (h6 j hj).1
  generalize hf : warmL (qq l) (rotN k (X.rw 3)) h (warmL (qq l) (rotN k (X.rw 2)) h (warmL (qq l) (rotN k (X.rw 1)) h (warmL (qq l) (rotN k (X.rw 0)) h (τ 76)))) = f at a1' W
  have tc : ∀ c, c ≠ 82 → c ≠ 76 → (jm_row τ 76 f) c = σ c := fun c q1 q2 => by rw [jrow_n _ _ q2, a3 c q1]
  have ml0 : ML G T I a s t (s1W h k (qq l) X) X 0 (jm_row τ 76 f) := by
    rw [ML, tc 61 (by decide) (by decide), tc 67 (by decide) (by decide)]
    refine ⟨h1, h2, h3, h4, h5, fun g hg => ?_⟩
    obtain ⟨k4, k5, k6, k7, k8, k9⟩ := h6 g hg
    have nq : ¬ (g < 0 ∧ act G I X g) := fun q => by omega
    simp only [if_neg nq]
    rw [W g hg, tc 77 (by decide) (by decide), tc 78 (by decide) (by decide), tc 79 (by decide) (by decide), tc 80 (by decide) (by decide), tc 81 (by decide) (by decide)]
    exact ⟨rfl, k5, k6, k7, k8, k9⟩
  obtain ⟨τ2, b1, b2, b3⟩ := ML_loop hG (nI k) G 0 _ (by omega) ml0
  obtain ⟨d1, d2, d3, d4, d5, d6⟩ := b2
  have fr2 : ∀ c, c ∉ [76, 77, 78, 79, 80, 81, 82] → τ2 c = σ c := by
    intro c hc
    simp only [List.mem_cons, List.not_mem_nil, or_false, not_or] at hc
    rw [b3 c (by simp; omega), tc c (by omega) (by omega)]
  have sts : ∀ g, g < G → τ2 79 g = stS G T I a s (s1W h k (qq l) X) X g := by
    intro g hg
    rw [(d6 g hg).2.2.2.1]
    unfold stS
    by_cases c : act G I X g
    · rw [if_pos ⟨hg, c⟩, if_pos c]
    · rw [if_neg (fun q => c q.2), if_neg c]
  have rwR : ∀ p, p < 4 → RW τ2 82 83 p (s1R k X p) := fun p hp => RW_fr (a2 p hp) (by rw [b3 83 (by decide), jrow_n _ _ (by decide)]) (fun i _ => by rw [b3 82 (by decide), jrow_n _ _ (by decide)])
  obtain ⟨ρ, c1, c2, c3⟩ := M_rises (fun g => decide (¬ stS G T I a s (s1W h k (qq l) X) X g = 1)) (s1R k X) (jm_up τ2 84 t (nI (opN G T I a s (s1W h k (qq l) X) X G))) (fun p hp => ⟨RW_fr (rwR p hp) (by rw [jup_n _ _ _ (by decide)]) (fun i _ => by rw [jup_n _ _ _ (by decide)]), fun g hg => by
    have hgG := (s1R_mem hX hg).1
    refine ⟨by omega, ?_⟩
    rw [jup_n _ _ _ (by decide), sts g hgG, decide_eq_true_eq]⟩)
  refine ⟨ρ, ?_, ⟨?_, ?_, ?_, ?_, ?_, fun g hg => ?_, c2⟩, ?_, fun c hc => ?_⟩
  · have o0 : opN G T I a s (s1W h k (qq l) X) X 0 = 0 := rfl
    rw [o0, nI_0] at b1
    rw [M_second_start ht, hK, ← nI_0, a1', b1, M_second_L102, d1, if_pos (nI_le (Nat.le_refl _) (by omega)), nI_clamp (show t < 2 ^ 31 by omega), if_neg (by rw [jbad2 ht (by decide)]; exact id), c1, jbv_some]
  · rw [c3 61 (by decide) (by decide), jup_n _ _ _ (by decide)]; exact d1
  · rw [c3 61 (by decide) (by decide), jup_n _ _ _ (by decide)]; exact d2
  · rw [c3 61 (by decide) (by decide), jup_n _ _ _ (by decide)]; exact d3
  · rw [c3 61 (by decide) (by decide), jup_n _ _ _ (by decide)]; exact d4
  · rw [c3 67 (by decide) (by decide), jup_n _ _ _ (by decide)]; exact d5
  · obtain ⟨k4, k5, k6, k7, k8, k9⟩ := d6 g hg
    have e : (g < G ∧ act G I X g) = act G I X g := propext ⟨fun q => q.2, fun q => ⟨hg, q⟩⟩
    simp only [e] at k5 k6 k7 k8 k9
    rw [c3 76 (by decide) (by decide), c3 77 (by decide) (by decide), c3 78 (by decide) (by decide), c3 79 (by decide) (by decide), c3 80 (by decide) (by decide), c3 81 (by decide) (by decide), jup_n _ _ _ (by decide), jup_n _ _ _ (by decide), jup_n _ _ _ (by decide), jup_n _ _ _ (by decide), jup_n _ _ _ (by decide), jup_n _ _ _ (by decide)]
    exact ⟨k4, k5, k6, k7, k8, k9⟩
  · rw [c3 84 (by decide) (by decide), jup_s, fr2 84 (by decide)]
  · simp only [List.mem_cons, List.not_mem_nil, or_false, not_or] at hc
    rw [c3 c (by omega) (by omega), jup_n _ _ _ (by omega), fr2 c (by simp; omega)]
