/-! ===== when a rule stops ===== -/
abbrev stQ (g h s : Int32) (q : Int32 × Int32) : Prop := if q.1 = 116 then ¬ g < q.2 else if q.1 = 110 then ¬ h < q.2 else (¬ h ≤ 0 ∧ ¬ s < q.2)
def stB (g h s : Int32) (L : List (Int32 × Int32)) : Prop := ∃ q, q ∈ L ∧ stQ g h s q
theorem stB_nil {g h s : Int32} : ¬ stB g h s [] := by rintro ⟨q, h1, _⟩; cases h1
theorem stB_cons {g h s : Int32} {q : Int32 × Int32} {r : List (Int32 × Int32)} : stB g h s (q :: r) ↔ (stQ g h s q ∨ stB g h s r) := by
  constructor
  · rintro ⟨p, h1, h2⟩
    rcases List.mem_cons.mp h1 with e | e
    · rw [e] at h2; exact Or.inl h2
    · exact Or.inr ⟨p, e, h2⟩
  · rintro (h1 | ⟨p, h1, h2⟩)
    · exact ⟨q, List.mem_cons_self .., h1⟩
    · exact ⟨p, List.mem_cons_of_mem _ h1, h2⟩
theorem mnF_le (c : Int32) : ∀ (L : List (Int32 × Int32)) (m x : Int32), mnF c L m ≤ x ↔ (m ≤ x ∨ ∃ q, q ∈ L ∧ q.1 = c ∧ q.2 ≤ x) := by
  intro L
  induction L with
  | nil =>
    intro m x
    constructor
    · exact Or.inl
    · rintro (h | ⟨q, h, _⟩)
      · exact h
      · cases h
  | cons q r ih =>
    intro m x
    rw [mnF, ih]
    constructor
    · rintro (h | ⟨p, h1, h2⟩)
      · by_cases c1 : q.1 = c
        · rw [if_pos c1] at h
          by_cases c2 : q.2 < m
          · rw [if_pos c2] at h; exact Or.inr ⟨q, List.mem_cons_self .., c1, h⟩
          · rw [if_neg c2] at h; exact Or.inl h
        · rw [if_neg c1] at h; exact Or.inl h
      · exact Or.inr ⟨p, List.mem_cons_of_mem _ h1, h2⟩
    · rintro (h | ⟨p, h1, h2, h3⟩)
      · left
        by_cases c1 : q.1 = c
        · rw [if_pos c1]
          by_cases c2 : q.2 < m
          · rw [if_pos c2]; exact Int32.le_trans (Int32.le_of_lt c2) h
          · rw [if_neg c2]; exact h
        · rw [if_neg c1]; exact h
      · rcases List.mem_cons.mp h1 with e | e
        · left
          rw [e] at h2 h3
          rw [if_pos h2]
          by_cases c2 : q.2 < m
          · rw [if_pos c2]; exact h3
          · rw [if_neg c2]; exact Int32.le_trans (Int32.not_lt.mp c2) h3
        · exact Or.inr ⟨p, e, h2, h3⟩
theorem ruF_ok (y : Nat → Int32) (n : Nat) : ∀ (k p : Nat) (q : Int32 × Int32), q ∈ (ruF y n k p).2 → ruL q.1 ∧ ¬ q.2 < 1 := by
  intro k
  induction k with
  | zero => intro p q h; cases h
  | succ k ih =>
    intro p q h
    rw [ruF] at h
    by_cases c1 : p < n ∧ ruL (y p)
    · rw [if_pos c1] at h
      by_cases c2 : nbad (p + 1) 1 (ruH (y p)) (dgF y n (ruK (y p)) (p + 1) 0)
      · rw [if_pos c2] at h; cases h
      · rw [if_neg c2] at h
        have one : ruL (y p) ∧ ¬ (dgF y n (ruK (y p)) (p + 1) 0).1 < 1 := ⟨c1.2, fun w => c2 (Or.inr (Or.inl w))⟩
        split at h
        · split at h
          · rcases List.mem_cons.mp h with e | e
            · rw [e]; exact one
            · exact ih _ q e
          · rcases List.mem_cons.mp h with e | e
            · rw [e]; exact one
            · cases e
        · rcases List.mem_cons.mp h with e | e
          · rw [e]; exact one
          · cases e
    · rw [if_neg c1] at h; cases h
theorem ruA_ok (y : Nat → Int32) (n : Nat) (q : Int32 × Int32) (h : q ∈ (ruA y n).2) : ruL q.1 ∧ ¬ q.2 < 1 := by
  unfold ruA at h
  split at h
  · cases h
  · exact ruF_ok y n _ _ q h
def slM (c : Nat → Nat) : Nat → Nat
  | 0 => 0
  | g + 1 => if 0 < c g then 0 else slM c g + 1
def slC (c : Nat → Nat) : Nat → Nat
  | 0 => 0
  | g + 1 => if 0 < c g ∨ sumN c (g + 1) = 0 then 0 else slC c g + 1
theorem slM_le (c : Nat → Nat) (g : Nat) : slM c g ≤ g := by
  induction g with
  | zero => exact Nat.le_refl 0
  | succ g ih => rw [slM]; split <;> omega
theorem slC_le (c : Nat → Nat) (g : Nat) : slC c g ≤ g := by
  induction g with
  | zero => exact Nat.le_refl 0
  | succ g ih => rw [slC]; split <;> omega
theorem sl_eq (c : Nat → Nat) (g : Nat) : (0 < sumN c g → slM c g = slC c g) ∧ (sumN c g = 0 → slC c g = 0) := by
  induction g with
  | zero => exact ⟨fun _ => rfl, fun _ => rfl⟩
  | succ g ih =>
    rw [slM, slC]
    constructor
    · intro h
      by_cases q : 0 < c g
      · rw [if_pos q, if_pos (Or.inl q)]
      · rw [if_neg q, if_neg (by rintro (w | w); exact q w; omega)]
        rw [sumN] at h
        rw [ih.1 (by omega)]
    · intro h
      rw [if_pos (Or.inr h)]
abbrev pM' (c : Nat → Nat) (L : List (Int32 × Int32)) (g : Nat) : Prop := stB (nI g) (nI (sumN c g)) (nI (slM c g)) L
abbrev pC' (c : Nat → Nat) (m1 m2 m3 : Int32) (g : Nat) : Prop := m1 ≤ nI (slC c g) ∨ m2 ≤ nI (sumN c g) ∨ ¬ nI g < m3
theorem p_eq {c : Nat → Nat} {L : List (Int32 × Int32)} (hL : ∀ q, q ∈ L → ruL q.1 ∧ ¬ q.2 < 1) {g : Nat} (hg : g ≤ 200) (hs : sumN c g ≤ 12) : pM' c L g ↔ pC' c (mnF 103 L 1000) (mnF 110 L 1000) (mnF 116 L 1000) g := by
  have big : ∀ k, k ≤ 200 → ¬ (1000 : Int32) ≤ nI k := fun k hk => by
    rw [show (1000 : Int32) = nI 1000 by decide +kernel]; exact nI_ge (by omega) (by omega)
  have hM := slM_le c g
  have hC := slC_le c g
  unfold pM' pC' stB
  rw [Int32.not_lt, mnF_le, mnF_le, mnF_le]
  constructor
  · rintro ⟨q, h1, h2⟩
    unfold stQ at h2
    by_cases c1 : q.1 = 116
    · rw [if_pos c1] at h2
      exact Or.inr (Or.inr (Or.inr ⟨q, h1, c1, Int32.not_lt.mp h2⟩))
    · rw [if_neg c1] at h2
      by_cases c2 : q.1 = 110
      · rw [if_pos c2] at h2
        exact Or.inr (Or.inl (Or.inr ⟨q, h1, c2, Int32.not_lt.mp h2⟩))
      · rw [if_neg c2] at h2
        refine Or.inl (Or.inr ⟨q, h1, ?_, ?_⟩)
        · rcases (hL q h1).1 with e | e | e
          · exact e
          · exact absurd e c2
          · exact absurd e c1
        · have pos : 0 < sumN c g := by
            by_cases z : sumN c g = 0
            · rw [z] at h2; exact absurd (by decide +kernel) h2.1
            · omega
          rw [← (sl_eq c g).1 pos]
          exact Int32.not_lt.mp h2.2
  · rintro ((h | ⟨q, h1, h2, h3⟩) | (h | ⟨q, h1, h2, h3⟩) | (h | ⟨q, h1, h2, h3⟩))
    · exact absurd h (big _ (by omega))
    · refine ⟨q, h1, ?_⟩
      unfold stQ
      rw [if_neg (by rw [h2]; decide), if_neg (by rw [h2]; decide)]
      by_cases z : sumN c g = 0
      · rw [(sl_eq c g).2 z, nI_0] at h3
        exact absurd (Int32.lt_of_le_of_lt h3 (by decide)) (hL q h1).2
      · rw [(sl_eq c g).1 (by omega)]
        exact ⟨nI_nle (by omega) (by omega), Int32.not_lt.mpr h3⟩
    · exact absurd h (big _ (by omega))
    · refine ⟨q, h1, ?_⟩
      unfold stQ
      rw [if_neg (by rw [h2]; decide), if_pos h2]
      exact Int32.not_lt.mpr h3
    · exact absurd h (big _ hg)
    · refine ⟨q, h1, ?_⟩
      unfold stQ
      rw [if_pos h2]
      exact Int32.not_lt.mpr h3
noncomputable def stF (p : Nat → Prop) : Nat → Nat → Nat
  | 0, g => g
  | k + 1, g => @ite Nat (p (g + 1)) (Classical.propDecidable _) (g + 1) (stF p k (g + 1))
theorem stF_t {p : Nat → Prop} {k g : Nat} (h : p (g + 1)) : stF p (k + 1) g = g + 1 := if_pos h
theorem stF_f {p : Nat → Prop} {k g : Nat} (h : ¬ p (g + 1)) : stF p (k + 1) g = stF p k (g + 1) := if_neg h
theorem stF_le {p : Nat → Prop} : ∀ (k g : Nat), stF p k g ≤ g + k := by
  intro k
  induction k with
  | zero => intro g; exact Nat.le_refl g
  | succ k ih =>
    intro g
    by_cases c : p (g + 1)
    · rw [stF_t c]; omega
    · rw [stF_f c]; have := ih (g + 1); omega
theorem stF_congr {p q : Nat → Prop} : ∀ (k g : Nat), (∀ j, j ≤ g + k → (p j ↔ q j)) → stF p k g = stF q k g := by
  intro k
  induction k with
  | zero => intro g _; rfl
  | succ k ih =>
    intro g h
    by_cases c : p (g + 1)
    · rw [stF_t c, stF_t ((h _ (by omega)).mp c)]
    · rw [stF_f c, stF_f (fun w => c ((h _ (by omega)).mpr w)), ih (g + 1) (fun j hj => h j (by omega))]
/-! the class's rules -/
abbrev sN (G : Nat) (T : Nat → Int32) (pl : Nat → Nat) (P : Pn) (se : Nat → Int32) (j : Nat) : Nat := snN G (fun _ => true) (RN G T pl P se j) (RN G T pl P se (j + 1))
theorem sN_sum (G : Nat) (T : Nat → Int32) (pl : Nat → Nat) (P : Pn) (se : Nat → Int32) (t : Nat) : sumN (sN G T pl P se) t = nmN G (fun _ => true) 1 (RN G T pl P se t) := nm1_sum G T (fun _ => true) (se 0) (se 1) pl (panZ P) t
theorem sN_12 {G : Nat} (hG : G ≤ 12) (T : Nat → Int32) (pl : Nat → Nat) (P : Pn) (se : Nat → Int32) (t : Nat) : sumN (sN G T pl P se) t ≤ 12 := by
  rw [sN_sum]; exact Nat.le_trans (nm_le G _ _ _) hG
theorem sN_1 {G : Nat} (hG : G ≤ 12) (T : Nat → Int32) (pl : Nat → Nat) (P : Pn) (se : Nat → Int32) (t : Nat) : sN G T pl P se t ≤ 12 := Nat.le_trans (cntN_le _ _) hG
theorem until_46 {G : Nat} (hG : G ≤ 12) {T : Nat → Int32} {pl : Nat → Nat} {P : Pn} {se : Nat → Int32} (σ : jm_S) (h : CS_11 G (fun _ => true) (RN G T pl P se 200) σ) : ∀ (k g : Nat) (u : Option Value), g + k = 200 → jv 56 7 [some (.ref 46), some (.ref 11), some (.int (nI (sumN (sN G T pl P se) g))), some (.int (nI (slC (sN G T pl P se) g))), some (.int (nI g)), u] [] σ = some (some (.int (nI (stF (pC' (sN G T pl P se) (σ 46 0) (σ 46 1) (σ 46 2)) k g))), σ) := by
  intro k
  induction k with
  | zero =>
    intro g u hg
    have e : g = 200 := by omega
    subst e
    rw [Rule_secondsUntilStop_46_11_L7, if_pos (by decide +kernel), nI200]; rfl
  | succ k ih =>
    intro g u hg
    have s12 := sN_12 hG T pl P se (g + 1)
    have c12 := sN_1 hG T pl P se g
    have gi : jc 53 [.ref 11, .int (nI g)] σ = some (some (.int (nI (sN G T pl P se g))), σ) := goneIn_11 hG (show g < 200 by omega) (by omega) σ h
    have es : sumN (sN G T pl P se) g + sN G T pl P se g = sumN (sN G T pl P se) (g + 1) := rfl
    rw [Rule_secondsUntilStop_46_11_L7, if_neg (by rw [nI200]; exact nI_ge (by omega) (by omega)), gi, jbi_some, nI_1, nI_add, es]
    have ih' := ih (g + 1)
    clear ih gi
    generalize hc : sN G T pl P se = c at *
    have fin : ∀ (sl : Nat) (w : Option Value), slC c (g + 1) = sl → (if σ 46 0 ≤ nI sl then some (some (Value.int (nI (g + 1))), σ) else (if σ 46 1 ≤ nI (sumN c (g + 1)) then some (some (Value.int (nI (g + 1))), σ) else (if nI (g + 1) < σ 46 2 then jv 56 7 [some (.ref 46), some (.ref 11), some (.int (nI (sumN c (g + 1)))), some (.int (nI sl)), some (.int (nI (g + 1))), w] [] σ else some (some (Value.int (nI (g + 1))), σ)))) = some (some (.int (nI (stF (pC' c (σ 46 0) (σ 46 1) (σ 46 2)) (k + 1) g))), σ) := by
      intro sl w hsl
      by_cases q : pC' c (σ 46 0) (σ 46 1) (σ 46 2) (g + 1)
      · rw [stF_t q]
        unfold pC' at q
        rw [hsl] at q
        by_cases q1 : σ 46 0 ≤ nI sl
        · rw [if_pos q1]
        · rw [if_neg q1]
          by_cases q2 : σ 46 1 ≤ nI (sumN c (g + 1))
          · rw [if_pos q2]
          · rw [if_neg q2, if_neg ((q.resolve_left q1).resolve_left q2)]
      · rw [stF_f q, ← ih' w (by omega), hsl]
        unfold pC' at q
        rw [hsl, not_or, not_or] at q
        rw [if_neg q.1, if_neg q.2.1, if_pos (Classical.not_not.mp q.2.2)]
    by_cases c1 : 0 < c g
    · have f := fin 0 (some (.int (nI (c g)))) (by rw [slC, if_pos (Or.inl c1)])
      rw [nI_0] at f
      rw [if_pos (by rw [← nI_0]; exact nI_lt c1 (by omega)), f]
    · rw [if_neg (by rw [← nI_0]; exact nI_nlt (by omega) (by omega))]
      by_cases c2 : sumN c (g + 1) = 0
      · have f := fin 0 (some (.int (nI (c g)))) (by rw [slC, if_pos (Or.inr c2)])
        rw [nI_0] at f
        rw [if_neg (by rw [c2]; exact not_not_intro nI_0), f]
      · have f := fin (slC c g + 1) (some (.int (nI (c g)))) (by rw [slC, if_neg (by rintro (w | w); exact c1 w; exact c2 w)])
        rw [if_pos (nI_ne0 (by omega) (by omega)), nI_1, f]
theorem until_49 {G : Nat} (hG : G ≤ 12) {T : Nat → Int32} {pl : Nat → Nat} {P : Pn} {se : Nat → Int32} (σ : jm_S) (h : CS_11 G (fun _ => true) (RN G T pl P se 200) σ) : ∀ (k g : Nat) (u : Option Value), g + k = 200 → jv 56 7 [some (.ref 49), some (.ref 11), some (.int (nI (sumN (sN G T pl P se) g))), some (.int (nI (slC (sN G T pl P se) g))), some (.int (nI g)), u] [] σ = some (some (.int (nI (stF (pC' (sN G T pl P se) (σ 49 0) (σ 49 1) (σ 49 2)) k g))), σ) := by
  intro k
  induction k with
  | zero =>
    intro g u hg
    have e : g = 200 := by omega
    subst e
    rw [Rule_secondsUntilStop_49_11_L7, if_pos (by decide +kernel), nI200]; rfl
  | succ k ih =>
    intro g u hg
    have s12 := sN_12 hG T pl P se (g + 1)
    have c12 := sN_1 hG T pl P se g
    have gi : jc 53 [.ref 11, .int (nI g)] σ = some (some (.int (nI (sN G T pl P se g))), σ) := goneIn_11 hG (show g < 200 by omega) (by omega) σ h
    have es : sumN (sN G T pl P se) g + sN G T pl P se g = sumN (sN G T pl P se) (g + 1) := rfl
    rw [Rule_secondsUntilStop_49_11_L7, if_neg (by rw [nI200]; exact nI_ge (by omega) (by omega)), gi, jbi_some, nI_1, nI_add, es]
    have ih' := ih (g + 1)
    clear ih gi
    generalize hc : sN G T pl P se = c at *
    have fin : ∀ (sl : Nat) (w : Option Value), slC c (g + 1) = sl → (if σ 49 0 ≤ nI sl then some (some (Value.int (nI (g + 1))), σ) else (if σ 49 1 ≤ nI (sumN c (g + 1)) then some (some (Value.int (nI (g + 1))), σ) else (if nI (g + 1) < σ 49 2 then jv 56 7 [some (.ref 49), some (.ref 11), some (.int (nI (sumN c (g + 1)))), some (.int (nI sl)), some (.int (nI (g + 1))), w] [] σ else some (some (Value.int (nI (g + 1))), σ)))) = some (some (.int (nI (stF (pC' c (σ 49 0) (σ 49 1) (σ 49 2)) (k + 1) g))), σ) := by
      intro sl w hsl
      by_cases q : pC' c (σ 49 0) (σ 49 1) (σ 49 2) (g + 1)
      · rw [stF_t q]
        unfold pC' at q
        rw [hsl] at q
        by_cases q1 : σ 49 0 ≤ nI sl
        · rw [if_pos q1]
        · rw [if_neg q1]
          by_cases q2 : σ 49 1 ≤ nI (sumN c (g + 1))
          · rw [if_pos q2]
          · rw [if_neg q2, if_neg ((q.resolve_left q1).resolve_left q2)]
      · rw [stF_f q, ← ih' w (by omega), hsl]
        unfold pC' at q
        rw [hsl, not_or, not_or] at q
        rw [if_neg q.1, if_neg q.2.1, if_pos (Classical.not_not.mp q.2.2)]
    by_cases c1 : 0 < c g
    · have f := fin 0 (some (.int (nI (c g)))) (by rw [slC, if_pos (Or.inl c1)])
      rw [nI_0] at f
      rw [if_pos (by rw [← nI_0]; exact nI_lt c1 (by omega)), f]
    · rw [if_neg (by rw [← nI_0]; exact nI_nlt (by omega) (by omega))]
      by_cases c2 : sumN c (g + 1) = 0
      · have f := fin 0 (some (.int (nI (c g)))) (by rw [slC, if_pos (Or.inr c2)])
        rw [nI_0] at f
        rw [if_neg (by rw [c2]; exact not_not_intro nI_0), f]
      · have f := fin (slC c g + 1) (some (.int (nI (c g)))) (by rw [slC, if_neg (by rintro (w | w); exact c1 w; exact c2 w)])
        rw [if_pos (nI_ne0 (by omega) (by omega)), nI_1, f]
theorem until_52 {G : Nat} (hG : G ≤ 12) {T : Nat → Int32} {pl : Nat → Nat} {P : Pn} {se : Nat → Int32} (σ : jm_S) (h : CS_11 G (fun _ => true) (RN G T pl P se 200) σ) : ∀ (k g : Nat) (u : Option Value), g + k = 200 → jv 56 7 [some (.ref 52), some (.ref 11), some (.int (nI (sumN (sN G T pl P se) g))), some (.int (nI (slC (sN G T pl P se) g))), some (.int (nI g)), u] [] σ = some (some (.int (nI (stF (pC' (sN G T pl P se) (σ 52 0) (σ 52 1) (σ 52 2)) k g))), σ) := by
  intro k
  induction k with
  | zero =>
    intro g u hg
    have e : g = 200 := by omega
    subst e
    rw [Rule_secondsUntilStop_52_11_L7, if_pos (by decide +kernel), nI200]; rfl
  | succ k ih =>
    intro g u hg
    have s12 := sN_12 hG T pl P se (g + 1)
    have c12 := sN_1 hG T pl P se g
    have gi : jc 53 [.ref 11, .int (nI g)] σ = some (some (.int (nI (sN G T pl P se g))), σ) := goneIn_11 hG (show g < 200 by omega) (by omega) σ h
    have es : sumN (sN G T pl P se) g + sN G T pl P se g = sumN (sN G T pl P se) (g + 1) := rfl
    rw [Rule_secondsUntilStop_52_11_L7, if_neg (by rw [nI200]; exact nI_ge (by omega) (by omega)), gi, jbi_some, nI_1, nI_add, es]
    have ih' := ih (g + 1)
    clear ih gi
    generalize hc : sN G T pl P se = c at *
    have fin : ∀ (sl : Nat) (w : Option Value), slC c (g + 1) = sl → (if σ 52 0 ≤ nI sl then some (some (Value.int (nI (g + 1))), σ) else (if σ 52 1 ≤ nI (sumN c (g + 1)) then some (some (Value.int (nI (g + 1))), σ) else (if nI (g + 1) < σ 52 2 then jv 56 7 [some (.ref 52), some (.ref 11), some (.int (nI (sumN c (g + 1)))), some (.int (nI sl)), some (.int (nI (g + 1))), w] [] σ else some (some (Value.int (nI (g + 1))), σ)))) = some (some (.int (nI (stF (pC' c (σ 52 0) (σ 52 1) (σ 52 2)) (k + 1) g))), σ) := by
      intro sl w hsl
      by_cases q : pC' c (σ 52 0) (σ 52 1) (σ 52 2) (g + 1)
      · rw [stF_t q]
        unfold pC' at q
        rw [hsl] at q
        by_cases q1 : σ 52 0 ≤ nI sl
        · rw [if_pos q1]
        · rw [if_neg q1]
          by_cases q2 : σ 52 1 ≤ nI (sumN c (g + 1))
          · rw [if_pos q2]
          · rw [if_neg q2, if_neg ((q.resolve_left q1).resolve_left q2)]
      · rw [stF_f q, ← ih' w (by omega), hsl]
        unfold pC' at q
        rw [hsl, not_or, not_or] at q
        rw [if_neg q.1, if_neg q.2.1, if_pos (Classical.not_not.mp q.2.2)]
    by_cases c1 : 0 < c g
    · have f := fin 0 (some (.int (nI (c g)))) (by rw [slC, if_pos (Or.inl c1)])
      rw [nI_0] at f
      rw [if_pos (by rw [← nI_0]; exact nI_lt c1 (by omega)), f]
    · rw [if_neg (by rw [← nI_0]; exact nI_nlt (by omega) (by omega))]
      by_cases c2 : sumN c (g + 1) = 0
      · have f := fin 0 (some (.int (nI (c g)))) (by rw [slC, if_pos (Or.inr c2)])
        rw [nI_0] at f
        rw [if_neg (by rw [c2]; exact not_not_intro nI_0), f]
      · have f := fin (slC c g + 1) (some (.int (nI (c g)))) (by rw [slC, if_neg (by rintro (w | w); exact c1 w; exact c2 w)])
        rw [if_pos (nI_ne0 (by omega) (by omega)), nI_1, f]
