/-! ===== the model: rows shaken, warmed, cleared; a grain that goes ===== -/
theorem nI4 : (4 : Int32) = nI 4 := by decide +kernel
theorem shk_loop {p : Nat} {L : List Nat} (hp : p < 4) (hL : L.length ≤ 12) (hE : ∀ i, i < L.length → L.getD i 0 < 12) : ∀ (k i : Nat) (σ : jm_S), i + k = L.length → 1 ≤ i → σ 83 p = nI L.length → (∀ j, j + 1 < i → σ 82 (12 * p + j) = nI (L.getD (j + 1) 0)) → (∀ j, i ≤ j + 1 → j < L.length → σ 82 (12 * p + j) = nI (L.getD j 0)) →
    ∃ ρ u2 u3, jv 155 28 [some (.ref 61), some (.int (nI p)), some (.int (nI (L.getD 0 0))), some (.int (nI i))] [] σ = jv 155 2 [some (.ref 61), some (.int (nI (p + 1))), u2, u3] [] ρ ∧ RW ρ 82 83 p (rot L) ∧ (∀ c, c ≠ 82 → ρ c = σ c) ∧ (∀ j, (j < 12 * p ∨ 12 * p + 12 ≤ j) → ρ 82 j = σ 82 j) := by
  intro k
  induction k with
  | zero =>
    intro i σ hi h1 hh ha hb
    have e2 : (12 : Int32) * nI p + nI L.length - 1 = nI (12 * p + (L.length - 1)) := by
      rw [j12b, nI_add, show 12 * p + L.length = (12 * p + (L.length - 1)) + 1 by omega, nI_pred]
    rw [M_shakesAll_L28, nI_clamp (show p < 2 ^ 31 by omega), if_neg (by rw [jbad2 hp (by decide)]; exact id), hh, if_pos (nI_le (by omega) (by omega)), if_neg (by rw [jbad2 hp (by decide)]; exact id), e2, nI_clamp (show 12 * p + (L.length - 1) < 2 ^ 31 by omega), if_neg (by rw [jbad2 (show 12 * p + (L.length - 1) < 48 by omega) (by decide)]; exact id), nI_1]
    refine ⟨_, _, _, rfl, ⟨?_, by rw [rot_len]; exact hL, fun j hj => ?_⟩, fun c hc => by rw [jup_n _ _ _ hc], fun j hj => ?_⟩
    · rw [jup_n _ _ _ (by decide), hh, rot_len]
    · rw [rot_len] at hj
      rw [rot_getD hj, jup_s, jupd]
      by_cases c2 : j + 1 < L.length
      · rw [if_pos c2, if_neg (by omega)]
        exact ⟨hE _ c2, ha j (by omega)⟩
      · rw [if_neg c2, if_pos (by omega)]
        exact ⟨hE 0 (by omega), rfl⟩
    · rw [jup_s, jupd, if_neg (by omega)]
  | succ k ih =>
    intro i σ hi h1 hh ha hb
    have e1 : (12 : Int32) * nI p + nI i = nI (12 * p + i) := by rw [j12b, nI_add]
    have e2 : nI (12 * p + i) - 1 = nI (12 * p + (i - 1)) := by
      rw [show 12 * p + i = (12 * p + (i - 1)) + 1 by omega, nI_pred]
    obtain ⟨ρ, u2, u3, g1, g2, g3, g4⟩ := ih (i + 1) (jm_up σ 82 (12 * p + (i - 1)) (nI (L.getD i 0))) (by omega) (by omega) (by rw [jup_n _ _ _ (by decide)]; exact hh) (fun j hj => by
        rw [jup_s, jupd]
        by_cases c : j = i - 1
        · rw [if_pos (by omega), show j + 1 = i by omega]
        · rw [if_neg (by omega)]; exact ha j (by omega)) (fun j hj1 hj2 => by
        rw [jup_s, jupd, if_neg (by omega)]; exact hb j (by omega) hj2)
    refine ⟨ρ, u2, u3, ?_, g2, fun c hc => by rw [g3 c hc, jup_n _ _ _ hc], fun j hj => by rw [g4 j hj, jup_s, jupd, if_neg (by omega)]⟩
    rw [M_shakesAll_L28, nI_clamp (show p < 2 ^ 31 by omega), if_neg (by rw [jbad2 hp (by decide)]; exact id), hh, if_neg (nI_ge (by omega) (by omega)), e1, nI_clamp (show 12 * p + i < 2 ^ 31 by omega), if_neg (by rw [jbad2 (show 12 * p + i < 48 by omega) (by decide)]; exact id), e2, nI_clamp (show 12 * p + (i - 1) < 2 ^ 31 by omega), if_neg (by rw [jbad2 (show 12 * p + (i - 1) < 48 by omega) (by decide)]; exact id), hb i (by omega) (by omega), nI_1, g1]
theorem shk_all (C : Nat → List Nat) : ∀ (k p : Nat) (u2 u3 : Option Value) (σ : jm_S), p + k = 4 → (∀ j, j < 4 → p ≤ j → RW σ 82 83 j (C j)) → (∀ j, j < p → RW σ 82 83 j (rot (C j))) → ∃ ρ, jv 155 2 [some (.ref 61), some (.int (nI p)), u2, u3] [] σ = some (none, ρ) ∧ (∀ j, j < 4 → RW ρ 82 83 j (rot (C j))) ∧ (∀ c, c ≠ 82 → ρ c = σ c) := by
  intro k
  induction k with
  | zero =>
    intro p u2 u3 σ hp h1 h2
    rw [M_shakesAll_L2, if_pos (by rw [nI4]; exact nI_le (by omega) (by omega))]
    exact ⟨σ, rfl, fun j hj => h2 j (by omega), fun _ _ => rfl⟩
  | succ k ih =>
    intro p u2 u3 σ hp h1 h2
    obtain ⟨a1, a2, a3⟩ := h1 p (by omega) (Nat.le_refl p)
    rw [M_shakesAll_L2, if_neg (by rw [nI4]; exact nI_ge (by omega) (by omega)), nI_clamp (show p < 2 ^ 31 by omega), if_neg (by rw [jbad2 (show p < 4 by omega) (by decide)]; exact id), a1, nI_1]
    by_cases c : (C p).length = 0
    · rw [if_pos (by rw [c]; decide +kernel)]
      refine ih (p + 1) u2 u3 σ (by omega) (fun j hj hpj => h1 j hj (by omega)) (fun j hj => ?_)
      by_cases cj : j = p
      · rw [cj, rot_one (by omega)]; exact ⟨a1, a2, a3⟩
      · exact h2 j (by omega)
    · have e0 := (a3 0 (by omega)).2
      rw [Nat.add_zero] at e0
      rw [if_neg (nI_nle (by omega) (by omega)), j12b, nI_clamp (show 12 * p < 2 ^ 31 by omega), if_neg (by rw [jbad2 (show 12 * p < 48 by omega) (by decide)]; exact id), e0]
      obtain ⟨τ, v2, v3, b1, b2, b3, b4⟩ := shk_loop (L := C p) (show p < 4 by omega) a2 (fun i hi => (a3 i hi).1) ((C p).length - 1) 1 σ (by omega) (Nat.le_refl 1) a1 (fun j hj => by omega) (fun j _ hj => (a3 j hj).2)
      rw [show nI 1 = 1 by decide +kernel] at b1
      rw [b1]
      obtain ⟨ρ, g1, g2, g3⟩ := ih (p + 1) v2 v3 τ (by omega) (fun j hj hpj => RW_fr (h1 j hj (by omega)) (by rw [b3 83 (by decide)]) (fun i hi => b4 _ (by omega))) (fun j hj => by
        by_cases cj : j = p
        · rw [cj]; exact b2
        · exact RW_fr (h2 j (by omega)) (by rw [b3 83 (by decide)]) (fun i hi => b4 _ (by omega)))
      exact ⟨ρ, g1, g2, fun c hc => by rw [g3 c hc, b3 c hc]⟩
theorem M_shakesAll (C : Nat → List Nat) (σ : jm_S) (h : ∀ j, j < 4 → RW σ 82 83 j (C j)) : ∃ ρ, jc 155 [.ref 61] σ = some (none, ρ) ∧ (∀ j, j < 4 → RW ρ 82 83 j (rot (C j))) ∧ (∀ c, c ≠ 82 → ρ c = σ c) := by
  rw [M_shakesAll_in, ← nI_0]
  exact shk_all C 4 0 none none σ (by omega) (fun j hj _ => h j hj) (fun j hj => by omega)
theorem mwarm_loop {p : Nat} {L : List Nat} (hp : p < 4) (x1 l : Int32) : ∀ (k i : Nat) (x : Int32) (u6 : Option Value) (σ : jm_S), i + k = L.length → RW σ 82 83 p L → ∃ u4 u5 u6', jv 156 13 [some (.ref 61), some (.int x1), some (.int l), some (.int (nI p)), some (.int x), some (.int (nI i)), u6] [] σ = jv 156 2 [some (.ref 61), some (.int x1), some (.int l), some (.int (nI (p + 1))), u4, u5, u6'] [] (jm_row σ 76 (warmL (qq l) (L.drop i) x (σ 76))) := by
  intro k
  induction k with
  | zero =>
    intro i x u6 σ hi h
    have h2 := h.2.1
    refine ⟨some (.int x), some (.int (nI i)), u6, ?_⟩
    rw [M_warms_L13, nI_clamp (show p < 2 ^ 31 by omega), if_neg (by rw [jbad2 hp (by decide)]; exact id), h.1, if_pos (nI_le (by omega) (by omega)), List.drop_of_length_le (by omega), nI_1]
    congr 1
    funext c
    by_cases hc : c = 76
    · subst hc; rw [jrow_s]; rfl
    · rw [jrow_n _ _ hc]
  | succ k ih =>
    intro i x u6 σ hi h
    have h2 := h.2.1
    obtain ⟨g1, g2⟩ := h.2.2 i (by omega)
    have e1 : (12 : Int32) * nI p + nI i = nI (12 * p + i) := by rw [j12b, nI_add]
    have ng : ¬ (nI (L.getD i 0) < 0 ∨ 12 ≤ L.getD i 0) := by rw [jbad2 g1 (by decide)]; exact id
    obtain ⟨u4, u5, u6', e⟩ := ih (i + 1) (x / 2) (some (.int (nI (L.getD i 0)))) (jm_up σ 76 (L.getD i 0) ((σ 76 (L.getD i 0) + x) - (σ 76 (L.getD i 0) + x) / qq l)) (by omega) (RW_fr h (by rw [jup_n _ _ _ (by decide)]) (fun j _ => by rw [jup_n _ _ _ (by decide)]))
    have fin : jm_row (jm_up σ 76 (L.getD i 0) ((σ 76 (L.getD i 0) + x) - (σ 76 (L.getD i 0) + x) / qq l)) 76 (warmL (qq l) (L.drop (i + 1)) (x / 2) ((jm_up σ 76 (L.getD i 0) ((σ 76 (L.getD i 0) + x) - (σ 76 (L.getD i 0) + x) / qq l)) 76)) = jm_row σ 76 (warmL (qq l) (L.drop i) x (σ 76)) := by
      rw [drop_getD (L := L) (i := i) (by omega), warmL]
      funext c
      by_cases hc : c = 76
      · subst hc; rw [jrow_s, jrow_s, jup_s]
      · rw [jrow_n _ _ hc, jrow_n _ _ hc, jup_n _ _ _ hc]
    refine ⟨u4, u5, u6', ?_⟩
    rw [← fin, ← e, M_warms_L13, nI_clamp (show p < 2 ^ 31 by omega), if_neg (by rw [jbad2 hp (by decide)]; exact id), h.1, if_neg (nI_ge (by omega) (by omega)), e1, nI_clamp (show 12 * p + i < 2 ^ 31 by omega), if_neg (by rw [jbad2 (show 12 * p + i < 48 by omega) (by decide)]; exact id), g2, nI_clamp (show L.getD i 0 < 2 ^ 31 by omega)]
    simp only [if_neg ng, nI_1, jup_up]
    have z : (jm_up σ 76 (L.getD i 0) (σ 76 (L.getD i 0) + x)) 76 (L.getD i 0) = σ 76 (L.getD i 0) + x := by rw [jup_s, jupd, if_pos rfl]
    rw [z]
    unfold qq
    by_cases c : l = 0
    · simp only [if_pos c]
    · simp only [if_neg c]
theorem M_warms (C : Nat → List Nat) (x l : Int32) (σ : jm_S) (hC : ∀ j, j < 4 → RW σ 82 83 j (C j)) : jc 156 [.ref 61, .int x, .int l] σ = some (none, jm_row σ 76 (warmL (qq l) (C 3) x (warmL (qq l) (C 2) x (warmL (qq l) (C 1) x (warmL (qq l) (C 0) x (σ 76)))))) := by
  have go : ∀ (p : Nat) (u4 u5 u6 : Option Value) (f : Nat → Int32), p < 4 → ∃ v4 v5 v6, jv 156 2 [some (.ref 61), some (.int x), some (.int l), some (.int (nI p)), u4, u5, u6] [] (jm_row σ 76 f) = jv 156 2 [some (.ref 61), some (.int x), some (.int l), some (.int (nI (p + 1))), v4, v5, v6] [] (jm_row σ 76 (warmL (qq l) (C p) x f)) := by
    intro p u4 u5 u6 f hp
    obtain ⟨v4, v5, v6, e⟩ := mwarm_loop (L := C p) hp x l (C p).length 0 x u6 (jm_row σ 76 f) (by omega) (RW_fr (hC p hp) (by rw [jrow_n _ _ (by decide)]) (fun i _ => by rw [jrow_n _ _ (by decide)]))
    refine ⟨v4, v5, v6, ?_⟩
    rw [M_warms_L2, if_neg (by rw [nI4]; exact nI_ge (by omega) (by omega)), ← nI_0, e, List.drop_zero, jrow_s]
    congr 1
    funext c
    by_cases hc : c = 76
    · subst hc; rw [jrow_s, jrow_s]
    · rw [jrow_n _ _ hc, jrow_n _ _ hc, jrow_n _ _ hc]
  have id0 : jm_row σ 76 (σ 76) = σ := by
    funext c
    by_cases hc : c = 76
    · subst hc; rw [jrow_s]
    · rw [jrow_n _ _ hc]
  have r0 : jc 156 [.ref 61, .int x, .int l] σ = jv 156 2 [some (.ref 61), some (.int x), some (.int l), some (.int (nI 0)), none, none, none] [] (jm_row σ 76 (σ 76)) := by
    rw [M_warms_in, id0, nI_0]
  obtain ⟨a4, a5, a6, e0⟩ := go 0 none none none (σ 76) (by omega)
  obtain ⟨b4, b5, b6, e1⟩ := go 1 a4 a5 a6 (warmL (qq l) (C 0) x (σ 76)) (by omega)
  obtain ⟨c4, c5, c6, e2⟩ := go 2 b4 b5 b6 (warmL (qq l) (C 1) x (warmL (qq l) (C 0) x (σ 76))) (by omega)
  obtain ⟨d4, d5, d6, e3⟩ := go 3 c4 c5 c6 (warmL (qq l) (C 2) x (warmL (qq l) (C 1) x (warmL (qq l) (C 0) x (σ 76)))) (by omega)
  rw [r0, e0, e1, e2, e3, M_warms_L2, if_pos (by decide +kernel)]
theorem rise_loop {p : Nat} {L : List Nat} (hp : p < 4) (al : Nat → Bool) : ∀ (k i : Nat) (u4 : Option Value) (σ : jm_S), i + k = L.length → L.length ≤ 12 → σ 83 p = nI L.length → (∀ g, g ∈ L → g < 12 ∧ (al g = true ↔ ¬ σ 79 g = 1)) → (∀ j, j < ((L.take i).filter al).length → σ 82 (12 * p + j) = nI (((L.take i).filter al).getD j 0)) → (∀ j, i ≤ j → j < L.length → σ 82 (12 * p + j) = nI (L.getD j 0)) →
    ∃ ρ x2 x3 u4', jv 159 11 [some (.ref 61), some (.int (nI p)), some (.int (nI ((L.take i).filter al).length)), some (.int (nI i)), u4] [] σ = jv 159 2 [some (.ref 61), some (.int (nI (p + 1))), x2, x3, u4'] [] ρ ∧ RW ρ 82 83 p (L.filter al) ∧ (∀ c, c ≠ 82 → c ≠ 83 → ρ c = σ c) ∧ (∀ j, j ≠ p → ρ 83 j = σ 83 j) ∧ (∀ j, (j < 12 * p ∨ 12 * p + 12 ≤ j) → ρ 82 j = σ 82 j) := by
  intro k
  induction k with
  | zero =>
    intro i u4 σ hi hL hh hal h1 h2
    rw [M_rises_L11, nI_clamp (show p < 2 ^ 31 by omega), if_neg (by rw [jbad2 hp (by decide)]; exact id), hh, if_pos (nI_le (by omega) (by omega)), if_neg (by rw [jbad2 hp (by decide)]; exact id), nI_1]
    rw [List.take_of_length_le (by omega)] at h1 ⊢
    have hl : (L.filter al).length ≤ 12 := Nat.le_trans (List.length_filter_le _ _) hL
    refine ⟨_, _, _, _, rfl, ⟨?_, hl, fun j hj => ⟨?_, ?_⟩⟩, fun c _ h22 => by rw [jup_n _ _ _ h22], fun j hj => ?_, fun j _ => ?_⟩
    · rw [jup_s, jupd, if_pos rfl]
    · exact (hal _ (List.mem_filter.mp (mem_getD hj)).1).1
    · rw [jup_n _ _ _ (by decide)]; exact h1 j hj
    · rw [jup_s, jupd, if_neg hj]
    · rw [jup_n _ _ _ (by decide)]
  | succ k ih =>
    intro i u4 σ hi hL hh hal h1 h2
    have hg := hal (L.getD i 0) (mem_getD (by omega))
    have hle : ((L.take i).filter al).length ≤ i := Nat.le_trans (List.length_filter_le _ _) (by rw [List.length_take]; omega)
    have ht : L.take (i + 1) = L.take i ++ [L.getD i 0] := take_getD (by omega)
    have e1 : (12 : Int32) * nI p + nI i = nI (12 * p + i) := by rw [j12b, nI_add]
    have e2 : (12 : Int32) * nI p + nI ((L.take i).filter al).length = nI (12 * p + ((L.take i).filter al).length) := by rw [j12b, nI_add]
    have ng : ¬ (nI (L.getD i 0) < 0 ∨ 12 ≤ L.getD i 0) := by rw [jbad2 hg.1 (by decide)]; exact id
    rw [M_rises_L11, nI_clamp (show p < 2 ^ 31 by omega), if_neg (by rw [jbad2 hp (by decide)]; exact id), hh, if_neg (nI_ge (by omega) (by omega)), e1, e2, nI_clamp (show 12 * p + i < 2 ^ 31 by omega), if_neg (by rw [jbad2 (show 12 * p + i < 48 by omega) (by decide)]; exact id), h2 i (Nat.le_refl i) (by omega), nI_clamp (show L.getD i 0 < 2 ^ 31 by have := hg.1; omega), nI_clamp (show 12 * p + ((L.take i).filter al).length < 2 ^ 31 by omega)]
    simp only [if_neg ng, if_neg (show ¬ (nI (12 * p + ((L.take i).filter al).length) < 0 ∨ 48 ≤ 12 * p + ((L.take i).filter al).length) by rw [jbad2 (show 12 * p + ((L.take i).filter al).length < 48 by omega) (by decide)]; exact id), nI_1]
    by_cases c : al (L.getD i 0) = true
    · have e : (L.take (i + 1)).filter al = (L.take i).filter al ++ [L.getD i 0] := by
        rw [ht, List.filter_append]
        congr 1
        rw [List.filter_cons_of_pos c]; rfl
      have el : ((L.take (i + 1)).filter al).length = ((L.take i).filter al).length + 1 := by rw [e, List.length_append]; rfl
      obtain ⟨ρ, x2, x3, u4', g1, g2, g3, g4, g5⟩ := ih (i + 1) (some (.int (nI (L.getD i 0)))) (jm_up σ 82 (12 * p + ((L.take i).filter al).length) (nI (L.getD i 0))) (by omega) hL (by rw [jup_n _ _ _ (by decide)]; exact hh) (fun g hg => by rw [jup_n _ _ _ (by decide)]; exact hal g hg) (fun j hj => by
          rw [el] at hj
          rw [jup_s, jupd, e]
          by_cases cj : j = ((L.take i).filter al).length
          · rw [if_pos (by omega), cj, getD_app_e]
          · rw [if_neg (by omega), getD_app (by omega)]; exact h1 j (by omega)) (fun j hj1 hj2 => by
          rw [jup_s, jupd, if_neg (by omega)]; exact h2 j (by omega) hj2)
      rw [el] at g1
      refine ⟨ρ, x2, x3, u4', ?_, g2, fun c h21 h22 => by rw [g3 c h21 h22, jup_n _ _ _ h21], fun j hj => by rw [g4 j hj, jup_n _ _ _ (by decide)], fun j hj => by rw [g5 j hj, jup_s, jupd, if_neg (by omega)]⟩
      rw [← g1, if_neg (hg.2.mp c)]
    · have e : (L.take (i + 1)).filter al = (L.take i).filter al := by
        rw [ht, List.filter_append, List.filter_cons_of_neg c, List.filter_nil, List.append_nil]
      obtain ⟨ρ, x2, x3, u4', g1, g2, g3, g4, g5⟩ := ih (i + 1) (some (.int (nI (L.getD i 0)))) σ (by omega) hL hh hal (fun j hj => by rw [e] at hj ⊢; exact h1 j hj) (fun j hj1 hj2 => h2 j (by omega) hj2)
      rw [e] at g1
      refine ⟨ρ, x2, x3, u4', ?_, g2, g3, g4, g5⟩
      rw [← g1, if_pos (Classical.not_not.mp (fun q => c (hg.2.mpr q)))]
theorem M_rises_all (al : Nat → Bool) (C : Nat → List Nat) : ∀ (k p : Nat) (u2 u3 u4 : Option Value) (σ : jm_S), p + k = 4 → (∀ j, j < 4 → p ≤ j → RW σ 82 83 j (C j) ∧ ∀ g, g ∈ C j → g < 12 ∧ (al g = true ↔ ¬ σ 79 g = 1)) → (∀ j, j < p → RW σ 82 83 j ((C j).filter al)) → ∃ ρ, jv 159 2 [some (.ref 61), some (.int (nI p)), u2, u3, u4] [] σ = some (none, ρ) ∧ (∀ j, j < 4 → RW ρ 82 83 j ((C j).filter al)) ∧ (∀ c, c ≠ 82 → c ≠ 83 → ρ c = σ c) := by
  intro k
  induction k with
  | zero =>
    intro p u2 u3 u4 σ hp h1 h2
    rw [M_rises_L2, if_pos (by rw [nI4]; exact nI_le (by omega) (by omega))]
    exact ⟨σ, rfl, fun j hj => h2 j (by omega), fun _ _ _ => rfl⟩
  | succ k ih =>
    intro p u2 u3 u4 σ hp h1 h2
    obtain ⟨a1, a2⟩ := h1 p (by omega) (Nat.le_refl p)
    obtain ⟨τ, x2, x3, u4', e1, e2, e3, e4, e5⟩ := rise_loop (L := C p) (by omega : p < 4) al (C p).length 0 u4 σ (by omega) a1.2.1 a1.1 a2 (fun j hj => by simp at hj) (fun j _ hj => (a1.2.2 j hj).2)
    obtain ⟨ρ, g1, g2, g3⟩ := ih (p + 1) x2 x3 u4' τ (by omega) (fun j hj hpj => by
        obtain ⟨c1, c2⟩ := h1 j hj (by omega)
        refine ⟨RW_fr c1 (e4 j (by omega)) (fun i hi => e5 _ (by omega)), fun g hg => ?_⟩
        rw [e3 79 (by decide) (by decide)]; exact c2 g hg) (fun j hj => by
        by_cases c : j = p
        · rw [c]; exact e2
        · exact RW_fr (h2 j (by omega)) (e4 j c) (fun i hi => e5 _ (by omega)))
    refine ⟨ρ, ?_, g2, fun c h21 h22 => by rw [g3 c h21 h22, e3 c h21 h22]⟩
    rw [M_rises_L2, if_neg (by rw [nI4]; exact nI_ge (by omega) (by omega)), ← g1, ← e1, List.take_zero, List.filter_nil, List.length_nil, nI_0]
theorem M_rises (al : Nat → Bool) (C : Nat → List Nat) (σ : jm_S) (h : ∀ j, j < 4 → RW σ 82 83 j (C j) ∧ ∀ g, g ∈ C j → g < 12 ∧ (al g = true ↔ ¬ σ 79 g = 1)) : ∃ ρ, jc 159 [.ref 61] σ = some (none, ρ) ∧ (∀ j, j < 4 → RW ρ 82 83 j ((C j).filter al)) ∧ (∀ c, c ≠ 82 → c ≠ 83 → ρ c = σ c) := by
  rw [M_rises_in, ← nI_0]
  exact M_rises_all al C 4 0 none none none σ (by omega) (fun j hj _ => h j hj) (fun j hj => by omega)
theorem j4n (g k : Nat) : (4 : Int32) * nI g + nI k = nI (4 * g + k) := by rw [nI4, pk_mul, nI_add]
theorem j4n1 (g : Nat) : (4 : Int32) * nI g + 1 = nI (4 * g + 1) := by rw [show (1 : Int32) = nI 1 by decide +kernel, j4n]
theorem j4n2 (g : Nat) : (4 : Int32) * nI g + 2 = nI (4 * g + 2) := by rw [show (2 : Int32) = nI 2 by decide +kernel, j4n]
theorem j4n3 (g : Nat) : (4 : Int32) * nI g + 3 = nI (4 * g + 3) := by rw [show (3 : Int32) = nI 3 by decide +kernel, j4n]
theorem j4n0 (g : Nat) : (4 : Int32) * nI g = nI (4 * g) := by rw [nI4, pk_mul]
theorem i32_max (x : Int32) : (if (1 : Int32) ≤ x then x else 1) = (if 1 < x then x else 1) := by
  by_cases c : 1 < x
  · rw [if_pos c, if_pos (Int32.le_of_lt c)]
  · rw [if_neg c]
    by_cases c2 : 1 ≤ x
    · rw [if_pos c2]; exact Int32.le_antisymm (Int32.not_lt.mp c) c2
    · rw [if_neg c2]
theorem i32_max0 (x : Int32) : (if (0 : Int32) ≤ x then x else 0) = (if 0 < x then x else 0) := by
  by_cases c : 0 < x
  · rw [if_pos c, if_pos (Int32.le_of_lt c)]
  · rw [if_neg c]
    by_cases c2 : 0 ≤ x
    · rw [if_pos c2]; exact Int32.le_antisymm (Int32.not_lt.mp c) c2
    · rw [if_neg c2]
theorem M_hold {g : Nat} (hg : g < 12) (σ : jm_S) : jc 158 [.ref 61, .int (nI g)] σ = some (some (.int (xH (σ 67 (4 * g + 1)) (σ 77 g))), σ) := by
  rw [M_hold_in, j4n1, nI_clamp (show 4 * g + 1 < 2 ^ 31 by omega), if_neg (by rw [jbad2 (show 4 * g + 1 < 48 by omega) (by decide)]; exact id), nI_clamp (show g < 2 ^ 31 by omega), if_neg (by rw [jbad2 hg (by decide)]; exact id), xH, ← i32_max]
  by_cases c : 1 ≤ σ 67 (4 * g + 1) - σ 77 g / 20
  · rw [if_pos c, if_pos c]
  · rw [if_neg c, if_neg c]
/-- a whole one: what becomes of it -/
theorem M_goes {g : Nat} (hg : g < 12) (t : Int32) (σ : jm_S) : jc 157 [.ref 61, .int (nI g), .int t] σ =
    if xO (σ 61 20) (σ 61 21) (σ 67 (4 * g + 1)) (σ 76 g) (σ 77 g) then some (some (.int 1), jm_up (jm_up (jm_up (jm_up σ 78 g (xP (σ 76 g) (σ 77 g))) 79 g 1) 80 g t) 81 g (σ 67 (4 * g + 2) * (xP (σ 76 g) (σ 77 g) - σ 61 20) / 10))
    else if σ 76 g ≤ 250 then some (some (.int 0), jm_up (jm_up σ 78 g (xP (σ 76 g) (σ 77 g))) 77 g (xW (σ 67 (4 * g + 3)) (σ 76 g) (σ 77 g)))
    else some (some (.int 0), jm_up (jm_up σ 78 g (xP (σ 76 g) (σ 77 g))) 79 g 2) := by
  have r0 := M_goes_in (nI g) t σ
  have ng : ¬ (nI g < 0 ∨ 12 ≤ g) := by rw [jbad2 hg (by decide)]; exact id
  have n2 : ¬ (nI (4 * g + 2) < 0 ∨ 48 ≤ 4 * g + 2) := by rw [jbad2 (show 4 * g + 2 < 48 by omega) (by decide)]; exact id
  have n3 : ¬ (nI (4 * g + 3) < 0 ∨ 48 ≤ 4 * g + 3) := by rw [jbad2 (show 4 * g + 3 < 48 by omega) (by decide)]; exact id
  simp only [j4n2, j4n3, nI_clamp (show g < 2 ^ 31 by omega), nI_clamp (show 4 * g + 2 < 2 ^ 31 by omega), nI_clamp (show 4 * g + 3 < 2 ^ 31 by omega), if_neg ng, if_neg n2, if_neg n3, M_hold hg, jbi_some] at r0
  rw [r0]
  clear r0
  have fold : ∀ P : Int32, (if (((jm_up σ 78 g P) 78 g) - (σ 61 20)) < ((σ 61 21) * (xH ((jm_up σ 78 g P) 67 (4 * g + 1)) ((jm_up σ 78 g P) 77 g))) then (if ((jm_up σ 78 g P) 76 g) ≤ (250 : Int32) then (if 0 ≤ (((jm_up σ 78 g P) 77 g) - ((((jm_up σ 78 g P) 78 g) * ((jm_up σ 78 g P) 67 (4 * g + 3))) / (100 : Int32))) then some (some (.int (0 : Int32)), (jm_up (jm_up σ 78 g P) 77 g (((jm_up σ 78 g P) 77 g) - ((((jm_up σ 78 g P) 78 g) * ((jm_up σ 78 g P) 67 (4 * g + 3))) / (100 : Int32))))) else some (some (.int (0 : Int32)), (jm_up (jm_up σ 78 g P) 77 g (0 : Int32)))) else some (some (.int (0 : Int32)), (jm_up (jm_up σ 78 g P) 79 g (2 : Int32)))) else some (some (Value.int (1 : Int32)), (jm_up (jm_up (jm_up (jm_up σ 78 g P) 79 g (1 : Int32)) 80 g t) 81 g ((((jm_up σ 78 g P) 67 (4 * g + 2)) * (((jm_up σ 78 g P) 78 g) - (σ 61 20))) / (10 : Int32))))) =
      if ¬ (P - σ 61 20 < σ 61 21 * xH (σ 67 (4 * g + 1)) (σ 77 g)) then some (some (.int 1), jm_up (jm_up (jm_up (jm_up σ 78 g P) 79 g 1) 80 g t) 81 g (σ 67 (4 * g + 2) * (P - σ 61 20) / 10))
      else if σ 76 g ≤ 250 then some (some (.int 0), jm_up (jm_up σ 78 g P) 77 g (if 0 < σ 77 g - P * σ 67 (4 * g + 3) / 100 then σ 77 g - P * σ 67 (4 * g + 3) / 100 else 0))
      else some (some (.int 0), jm_up (jm_up σ 78 g P) 79 g 2) := by
    intro P
    have z1 : (jm_up σ 78 g P) 78 g = P := by rw [jup_s, jupd, if_pos rfl]
    rw [z1, jup_n σ _ P (show 67 ≠ 78 by decide), jup_n σ _ P (show 77 ≠ 78 by decide), jup_n σ _ P (show 76 ≠ 78 by decide)]
    by_cases c1 : P - σ 61 20 < σ 61 21 * xH (σ 67 (4 * g + 1)) (σ 77 g)
    · rw [if_pos c1, if_neg (not_not_intro c1)]
      by_cases c2 : σ 76 g ≤ 250
      · rw [if_pos c2, if_pos c2, ← i32_max0]
        by_cases c3 : 0 ≤ σ 77 g - P * σ 67 (4 * g + 3) / 100
        · rw [if_pos c3, if_pos c3]
        · rw [if_neg c3, if_neg c3]
      · rw [if_neg c2, if_neg c2]
    · rw [if_neg c1, if_pos c1]
  unfold xO xW
  by_cases c : 100 < σ 76 g
  · rw [if_pos c, fold ((σ 76 g - 100) * σ 77 g / 40), xP, if_neg (Int32.not_le.mpr c)]
  · rw [if_neg c, fold 0, xP, if_pos (Int32.not_lt.mp c)]
