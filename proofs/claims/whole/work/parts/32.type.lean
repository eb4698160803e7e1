/-! ===== type, wipe, fault, pan ===== -/
def T0 (σ : jm_S) : Prop := ∃ n y, n ≤ 60 ∧ σ 70 0 = nI n ∧ (∀ j, j < n → σ 69 (60 * 0 + j) = y j) ∧ tx σ 42 43 n y ∧ σ 42 3 = (paA y n).1 ∧ pP σ (paA y n).2
theorem T0_fr {σ ρ : jm_S} (h : T0 σ) (h1 : ρ 42 = σ 42) (h2 : ρ 43 = σ 43) (h3 : ρ 6 = σ 6) (h4 : ρ 7 = σ 7) (h5 : ρ 8 = σ 8) (h6 : ρ 9 = σ 9) (h7 : ρ 70 0 = σ 70 0) (h8 : ∀ j, j < 60 → ρ 69 (60 * 0 + j) = σ 69 (60 * 0 + j)) : T0 ρ := by
  obtain ⟨n, y, p1, p2, p3, p4, p5, p6⟩ := h
  refine ⟨n, y, p1, h7.trans p2, fun j hj => (h8 j (by omega)).trans (p3 j hj), ?_, ?_, ?_⟩
  · unfold tx; rw [h1, h2]; exact p4
  · rw [h1]; exact p5
  · unfold pP; rw [h3, h4, h5, h6]; exact p6
def T1 (σ : jm_S) : Prop := ∃ n y, n ≤ 30 ∧ σ 70 1 = nI n ∧ (∀ j, j < n → σ 69 (60 * 1 + j) = y j) ∧ tx σ 44 45 n y ∧ σ 44 3 = (ruA y n).1 ∧ ((ruA y n).1 = -1 → σ 46 0 = mnF 103 (ruA y n).2 1000 ∧ σ 46 1 = mnF 110 (ruA y n).2 1000 ∧ σ 46 2 = mnF 116 (ruA y n).2 1000)
theorem T1_fr {σ ρ : jm_S} (h : T1 σ) (h1 : ρ 44 = σ 44) (h2 : ρ 45 = σ 45) (h3 : ρ 46 = σ 46) (h7 : ρ 70 1 = σ 70 1) (h8 : ∀ j, j < 60 → ρ 69 (60 * 1 + j) = σ 69 (60 * 1 + j)) : T1 ρ := by
  obtain ⟨n, y, p1, p2, p3, p4, p5, p6⟩ := h
  refine ⟨n, y, p1, h7.trans p2, fun j hj => (h8 j (by omega)).trans (p3 j hj), ?_, ?_, ?_⟩
  · unfold tx; rw [h1, h2]; exact p4
  · rw [h1]; exact p5
  · rw [h3]; exact p6
theorem Rule_follow2_46 {n : Nat} {y : Nat → Int32} (hn : n ≤ 30) (σ : jm_S) (ht : tx σ 44 45 n y) : ∃ ρ, jc 31 [.ref 46, .ref 44] σ = some (none, ρ) ∧ (∀ c, c ∉ [46, 44] → ρ c = σ c) ∧ ρ 44 1 = σ 44 1 ∧ ρ 44 3 = (ruA y n).1 ∧ ((ruA y n).1 = -1 → ρ 46 0 = mnF 103 (ruA y n).2 1000 ∧ ρ 46 1 = mnF 110 (ruA y n).2 1000 ∧ ρ 46 2 = mnF 116 (ruA y n).2 1000) := by
  obtain ⟨ρ, e1, e2, e3, e4, e5⟩ := Rule_follow_46 hn σ ht
  refine ⟨ρ, e1, fun c hc => e2 c (fun e => hc (by simp [e])) (fun e => hc (by simp [e])), e3, ?_⟩
  unfold ruA
  by_cases c : n = 0
  · simp only [if_pos c] at e4 e5 ⊢; exact ⟨e4, e5⟩
  · simp only [if_neg c] at e4 e5 ⊢; exact ⟨e4, e5⟩
def T2 (σ : jm_S) : Prop := ∃ n y, n ≤ 30 ∧ σ 70 2 = nI n ∧ (∀ j, j < n → σ 69 (60 * 2 + j) = y j) ∧ tx σ 47 48 n y ∧ σ 47 3 = (ruA y n).1 ∧ ((ruA y n).1 = -1 → σ 49 0 = mnF 103 (ruA y n).2 1000 ∧ σ 49 1 = mnF 110 (ruA y n).2 1000 ∧ σ 49 2 = mnF 116 (ruA y n).2 1000)
theorem T2_fr {σ ρ : jm_S} (h : T2 σ) (h1 : ρ 47 = σ 47) (h2 : ρ 48 = σ 48) (h3 : ρ 49 = σ 49) (h7 : ρ 70 2 = σ 70 2) (h8 : ∀ j, j < 60 → ρ 69 (60 * 2 + j) = σ 69 (60 * 2 + j)) : T2 ρ := by
  obtain ⟨n, y, p1, p2, p3, p4, p5, p6⟩ := h
  refine ⟨n, y, p1, h7.trans p2, fun j hj => (h8 j (by omega)).trans (p3 j hj), ?_, ?_, ?_⟩
  · unfold tx; rw [h1, h2]; exact p4
  · rw [h1]; exact p5
  · rw [h3]; exact p6
theorem Rule_follow2_49 {n : Nat} {y : Nat → Int32} (hn : n ≤ 30) (σ : jm_S) (ht : tx σ 47 48 n y) : ∃ ρ, jc 31 [.ref 49, .ref 47] σ = some (none, ρ) ∧ (∀ c, c ∉ [49, 47] → ρ c = σ c) ∧ ρ 47 1 = σ 47 1 ∧ ρ 47 3 = (ruA y n).1 ∧ ((ruA y n).1 = -1 → ρ 49 0 = mnF 103 (ruA y n).2 1000 ∧ ρ 49 1 = mnF 110 (ruA y n).2 1000 ∧ ρ 49 2 = mnF 116 (ruA y n).2 1000) := by
  obtain ⟨ρ, e1, e2, e3, e4, e5⟩ := Rule_follow_49 hn σ ht
  refine ⟨ρ, e1, fun c hc => e2 c (fun e => hc (by simp [e])) (fun e => hc (by simp [e])), e3, ?_⟩
  unfold ruA
  by_cases c : n = 0
  · simp only [if_pos c] at e4 e5 ⊢; exact ⟨e4, e5⟩
  · simp only [if_neg c] at e4 e5 ⊢; exact ⟨e4, e5⟩
def T3 (σ : jm_S) : Prop := ∃ n y, n ≤ 30 ∧ σ 70 3 = nI n ∧ (∀ j, j < n → σ 69 (60 * 3 + j) = y j) ∧ tx σ 50 51 n y ∧ σ 50 3 = (ruA y n).1 ∧ ((ruA y n).1 = -1 → σ 52 0 = mnF 103 (ruA y n).2 1000 ∧ σ 52 1 = mnF 110 (ruA y n).2 1000 ∧ σ 52 2 = mnF 116 (ruA y n).2 1000)
theorem T3_fr {σ ρ : jm_S} (h : T3 σ) (h1 : ρ 50 = σ 50) (h2 : ρ 51 = σ 51) (h3 : ρ 52 = σ 52) (h7 : ρ 70 3 = σ 70 3) (h8 : ∀ j, j < 60 → ρ 69 (60 * 3 + j) = σ 69 (60 * 3 + j)) : T3 ρ := by
  obtain ⟨n, y, p1, p2, p3, p4, p5, p6⟩ := h
  refine ⟨n, y, p1, h7.trans p2, fun j hj => (h8 j (by omega)).trans (p3 j hj), ?_, ?_, ?_⟩
  · unfold tx; rw [h1, h2]; exact p4
  · rw [h1]; exact p5
  · rw [h3]; exact p6
theorem Rule_follow2_52 {n : Nat} {y : Nat → Int32} (hn : n ≤ 30) (σ : jm_S) (ht : tx σ 50 51 n y) : ∃ ρ, jc 31 [.ref 52, .ref 50] σ = some (none, ρ) ∧ (∀ c, c ∉ [52, 50] → ρ c = σ c) ∧ ρ 50 1 = σ 50 1 ∧ ρ 50 3 = (ruA y n).1 ∧ ((ruA y n).1 = -1 → ρ 52 0 = mnF 103 (ruA y n).2 1000 ∧ ρ 52 1 = mnF 110 (ruA y n).2 1000 ∧ ρ 52 2 = mnF 116 (ruA y n).2 1000) := by
  obtain ⟨ρ, e1, e2, e3, e4, e5⟩ := Rule_follow_52 hn σ ht
  refine ⟨ρ, e1, fun c hc => e2 c (fun e => hc (by simp [e])) (fun e => hc (by simp [e])), e3, ?_⟩
  unfold ruA
  by_cases c : n = 0
  · simp only [if_pos c] at e4 e5 ⊢; exact ⟨e4, e5⟩
  · simp only [if_neg c] at e4 e5 ⊢; exact ⟨e4, e5⟩
def I_tx (σ : jm_S) : Prop := T0 σ ∧ T1 σ ∧ T2 σ ∧ T3 σ
theorem und0 {n : Nat} {y : Nat → Int32} (hn : n ≤ 60) (σ : jm_S) (ht : tx σ 42 43 n y) : ∃ ρ, jc 18 [.ref 0, .int 0] σ = some (none, ρ) ∧ (∀ c, c ∉ [6, 7, 8, 9, 42] → ρ c = σ c) ∧ ρ 42 1 = σ 42 1 ∧ (ρ 42 3 = (paA y n).1 ∧ pP ρ (paA y n).2) := by
  obtain ⟨ρ, e1, e2, e3, e4, e5⟩ := Heating_follow hn σ ht
  refine ⟨ρ, ?_, fun c hc => ?_, e3, e4, e5⟩
  · rw [P_understand_in, if_neg (by simp), jaa4_0, P_understand_A14_42, e1, jbv_some]
  · simp only [List.mem_cons, List.not_mem_nil, or_false, not_or] at hc
    exact e2 c hc.1 hc.2.1 hc.2.2.1 hc.2.2.2.1 hc.2.2.2.2
theorem und1 {n : Nat} {y : Nat → Int32} (hn : n ≤ 30) (σ : jm_S) (ht : tx σ 44 45 n y) : ∃ ρ, jc 18 [.ref 0, .int 1] σ = some (none, ρ) ∧ (∀ c, c ∉ [46, 44] → ρ c = σ c) ∧ ρ 44 1 = σ 44 1 ∧ (ρ 44 3 = (ruA y n).1 ∧ ((ruA y n).1 = -1 → ρ 46 0 = mnF 103 (ruA y n).2 1000 ∧ ρ 46 1 = mnF 110 (ruA y n).2 1000 ∧ ρ 46 2 = mnF 116 (ruA y n).2 1000)) := by
  obtain ⟨ρ, e1, e2, e3, e4, e5⟩ := Rule_follow2_46 hn σ ht
  refine ⟨ρ, ?_, e2, e3, e4, e5⟩
  rw [P_understand_in, if_pos (by decide), show (1 : Int32) - 1 = 0 by decide, jaa3_0, P_understand_A28_46, jaa4_1, P_understand_A34_44, e1, jbv_some]
theorem und2 {n : Nat} {y : Nat → Int32} (hn : n ≤ 30) (σ : jm_S) (ht : tx σ 47 48 n y) : ∃ ρ, jc 18 [.ref 0, .int 2] σ = some (none, ρ) ∧ (∀ c, c ∉ [49, 47] → ρ c = σ c) ∧ ρ 47 1 = σ 47 1 ∧ (ρ 47 3 = (ruA y n).1 ∧ ((ruA y n).1 = -1 → ρ 49 0 = mnF 103 (ruA y n).2 1000 ∧ ρ 49 1 = mnF 110 (ruA y n).2 1000 ∧ ρ 49 2 = mnF 116 (ruA y n).2 1000)) := by
  obtain ⟨ρ, e1, e2, e3, e4, e5⟩ := Rule_follow2_49 hn σ ht
  refine ⟨ρ, ?_, e2, e3, e4, e5⟩
  rw [P_understand_in, if_pos (by decide), show (2 : Int32) - 1 = 1 by decide, jaa3_1, P_understand_A28_49, jaa4_2, P_understand_A34_47_v2, e1, jbv_some]
theorem und3 {n : Nat} {y : Nat → Int32} (hn : n ≤ 30) (σ : jm_S) (ht : tx σ 50 51 n y) : ∃ ρ, jc 18 [.ref 0, .int 3] σ = some (none, ρ) ∧ (∀ c, c ∉ [52, 50] → ρ c = σ c) ∧ ρ 50 1 = σ 50 1 ∧ (ρ 50 3 = (ruA y n).1 ∧ ((ruA y n).1 = -1 → ρ 52 0 = mnF 103 (ruA y n).2 1000 ∧ ρ 52 1 = mnF 110 (ruA y n).2 1000 ∧ ρ 52 2 = mnF 116 (ruA y n).2 1000)) := by
  obtain ⟨ρ, e1, e2, e3, e4, e5⟩ := Rule_follow2_52 hn σ ht
  refine ⟨ρ, ?_, e2, e3, e4, e5⟩
  rw [P_understand_in, if_pos (by decide), show (3 : Int32) - 1 = 2 by decide, jaa3_2, P_understand_A28_52, jaa4_3, P_understand_A34_50_v3, e1, jbv_some]
theorem set0 {σ ρ : jm_S} (h : I_tx σ) (hn : T0 ρ) (hf : ∀ c, c ∉ [6, 7, 8, 9, 42, 43] → c ≠ 69 → c ≠ 70 → ρ c = σ c) (h70 : ∀ j, j ≠ 0 → ρ 70 j = σ 70 j) (h69 : ∀ j, (j < 60 * 0 ∨ 60 * 0 + 60 ≤ j) → ρ 69 j = σ 69 j) : I_tx ρ := by
  refine ⟨?_, ?_, ?_, ?_⟩
  · first | exact hn | exact T0_fr h.1 (hf _ (by decide) (by decide) (by decide)) (hf _ (by decide) (by decide) (by decide)) (hf _ (by decide) (by decide) (by decide)) (hf _ (by decide) (by decide) (by decide)) (hf _ (by decide) (by decide) (by decide)) (hf _ (by decide) (by decide) (by decide)) (h70 _ (by decide)) (fun j hj => h69 _ (by omega))
  · first | exact hn | exact T1_fr h.2.1 (hf _ (by decide) (by decide) (by decide)) (hf _ (by decide) (by decide) (by decide)) (hf _ (by decide) (by decide) (by decide)) (h70 _ (by decide)) (fun j hj => h69 _ (by omega))
  · first | exact hn | exact T2_fr h.2.2.1 (hf _ (by decide) (by decide) (by decide)) (hf _ (by decide) (by decide) (by decide)) (hf _ (by decide) (by decide) (by decide)) (h70 _ (by decide)) (fun j hj => h69 _ (by omega))
  · first | exact hn | exact T3_fr h.2.2.2 (hf _ (by decide) (by decide) (by decide)) (hf _ (by decide) (by decide) (by decide)) (hf _ (by decide) (by decide) (by decide)) (h70 _ (by decide)) (fun j hj => h69 _ (by omega))
theorem set1 {σ ρ : jm_S} (h : I_tx σ) (hn : T1 ρ) (hf : ∀ c, c ∉ [46, 44, 45] → c ≠ 69 → c ≠ 70 → ρ c = σ c) (h70 : ∀ j, j ≠ 1 → ρ 70 j = σ 70 j) (h69 : ∀ j, (j < 60 * 1 ∨ 60 * 1 + 60 ≤ j) → ρ 69 j = σ 69 j) : I_tx ρ := by
  refine ⟨?_, ?_, ?_, ?_⟩
  · first | exact hn | exact T0_fr h.1 (hf _ (by decide) (by decide) (by decide)) (hf _ (by decide) (by decide) (by decide)) (hf _ (by decide) (by decide) (by decide)) (hf _ (by decide) (by decide) (by decide)) (hf _ (by decide) (by decide) (by decide)) (hf _ (by decide) (by decide) (by decide)) (h70 _ (by decide)) (fun j hj => h69 _ (by omega))
  · first | exact hn | exact T1_fr h.2.1 (hf _ (by decide) (by decide) (by decide)) (hf _ (by decide) (by decide) (by decide)) (hf _ (by decide) (by decide) (by decide)) (h70 _ (by decide)) (fun j hj => h69 _ (by omega))
  · first | exact hn | exact T2_fr h.2.2.1 (hf _ (by decide) (by decide) (by decide)) (hf _ (by decide) (by decide) (by decide)) (hf _ (by decide) (by decide) (by decide)) (h70 _ (by decide)) (fun j hj => h69 _ (by omega))
  · first | exact hn | exact T3_fr h.2.2.2 (hf _ (by decide) (by decide) (by decide)) (hf _ (by decide) (by decide) (by decide)) (hf _ (by decide) (by decide) (by decide)) (h70 _ (by decide)) (fun j hj => h69 _ (by omega))
theorem set2 {σ ρ : jm_S} (h : I_tx σ) (hn : T2 ρ) (hf : ∀ c, c ∉ [49, 47, 48] → c ≠ 69 → c ≠ 70 → ρ c = σ c) (h70 : ∀ j, j ≠ 2 → ρ 70 j = σ 70 j) (h69 : ∀ j, (j < 60 * 2 ∨ 60 * 2 + 60 ≤ j) → ρ 69 j = σ 69 j) : I_tx ρ := by
  refine ⟨?_, ?_, ?_, ?_⟩
  · first | exact hn | exact T0_fr h.1 (hf _ (by decide) (by decide) (by decide)) (hf _ (by decide) (by decide) (by decide)) (hf _ (by decide) (by decide) (by decide)) (hf _ (by decide) (by decide) (by decide)) (hf _ (by decide) (by decide) (by decide)) (hf _ (by decide) (by decide) (by decide)) (h70 _ (by decide)) (fun j hj => h69 _ (by omega))
  · first | exact hn | exact T1_fr h.2.1 (hf _ (by decide) (by decide) (by decide)) (hf _ (by decide) (by decide) (by decide)) (hf _ (by decide) (by decide) (by decide)) (h70 _ (by decide)) (fun j hj => h69 _ (by omega))
  · first | exact hn | exact T2_fr h.2.2.1 (hf _ (by decide) (by decide) (by decide)) (hf _ (by decide) (by decide) (by decide)) (hf _ (by decide) (by decide) (by decide)) (h70 _ (by decide)) (fun j hj => h69 _ (by omega))
  · first | exact hn | exact T3_fr h.2.2.2 (hf _ (by decide) (by decide) (by decide)) (hf _ (by decide) (by decide) (by decide)) (hf _ (by decide) (by decide) (by decide)) (h70 _ (by decide)) (fun j hj => h69 _ (by omega))
theorem set3 {σ ρ : jm_S} (h : I_tx σ) (hn : T3 ρ) (hf : ∀ c, c ∉ [52, 50, 51] → c ≠ 69 → c ≠ 70 → ρ c = σ c) (h70 : ∀ j, j ≠ 3 → ρ 70 j = σ 70 j) (h69 : ∀ j, (j < 60 * 3 ∨ 60 * 3 + 60 ≤ j) → ρ 69 j = σ 69 j) : I_tx ρ := by
  refine ⟨?_, ?_, ?_, ?_⟩
  · first | exact hn | exact T0_fr h.1 (hf _ (by decide) (by decide) (by decide)) (hf _ (by decide) (by decide) (by decide)) (hf _ (by decide) (by decide) (by decide)) (hf _ (by decide) (by decide) (by decide)) (hf _ (by decide) (by decide) (by decide)) (hf _ (by decide) (by decide) (by decide)) (h70 _ (by decide)) (fun j hj => h69 _ (by omega))
  · first | exact hn | exact T1_fr h.2.1 (hf _ (by decide) (by decide) (by decide)) (hf _ (by decide) (by decide) (by decide)) (hf _ (by decide) (by decide) (by decide)) (h70 _ (by decide)) (fun j hj => h69 _ (by omega))
  · first | exact hn | exact T2_fr h.2.2.1 (hf _ (by decide) (by decide) (by decide)) (hf _ (by decide) (by decide) (by decide)) (hf _ (by decide) (by decide) (by decide)) (h70 _ (by decide)) (fun j hj => h69 _ (by omega))
  · first | exact hn | exact T3_fr h.2.2.2 (hf _ (by decide) (by decide) (by decide)) (hf _ (by decide) (by decide) (by decide)) (hf _ (by decide) (by decide) (by decide)) (h70 _ (by decide)) (fun j hj => h69 _ (by omega))
abbrev jTS : List Nat := [6, 7, 8, 9, 42, 43, 44, 45, 46, 47, 48, 49, 50, 51, 52, 69, 70, 71, 72, 73, 74, 75]
theorem M_type_bad (x b : Int32) (σ : jm_S) (h : (x < 0 ∨ 3 < x) ∨ (b < 0 ∨ 255 < b)) : jc 136 [.ref 61, .int x, .int b] σ = some (some (.int (-2)), σ) := by
  rw [M_type_in, M_isText, jbi_some]
  by_cases h1 : x < 0 ∨ 3 < x
  · rw [if_pos h1, if_pos rfl]
  · rw [if_neg h1, if_neg (by decide), M_in b 0 255 0 255 (by decide +kernel) (by decide +kernel), jbi_some, if_pos (h.resolve_left h1), if_neg (by decide)]
theorem P_type_bad (x b : Int32) (σ : jm_S) (h : (x < 0 ∨ 3 < x) ∨ (b < 0 ∨ 255 < b)) : jc 15 [.ref 0, .int x, .int b] σ = some (some (.int (-2)), σ) := by
  rw [P_type_in, P_isOutside, jbi_some]
  by_cases h1 : x < 0 ∨ 3 < x
  · rw [if_pos h1, if_pos (by decide)]
  · rw [if_neg h1, if_neg (by decide), P_isOutside, jbi_some, if_pos (h.resolve_left h1), if_neg (by decide)]
theorem M_type_0 {n : Nat} (hn : n ≤ 60) (b : Int32) (hb : ¬ (b < 0 ∨ 255 < b)) (σ : jm_S) (h : σ 70 0 = nI n) : jc 136 [.ref 61, .int 0, .int b] σ = if n < 60 then some (some (.int (nI (n + 1))), jm_up (jm_up σ 69 (60 * 0 + n) b) 70 0 (nI (n + 1))) else some (some (.int (-4)), σ) := by
  have r0 := M_type_in 0 b σ
  rw [M_isText, jbi_some, if_neg (by decide), M_in b 0 255 0 255 (by decide +kernel) (by decide +kernel), jbi_some, if_neg hb, if_pos (by decide), jn0, if_neg (by decide), h] at r0
  rw [r0]
  clear r0
  by_cases c : n < 60
  · rw [if_pos c]
    have e1 : (60 : Int32) * 0 + nI n = nI (60 * 0 + n) := by rw [show (60 : Int32) * 0 = nI (60 * 0) by decide +kernel, nI_add]
    have e2 : ¬ nI n = (60 : Int32) := by rw [show (60 : Int32) = nI 60 by decide +kernel, nI_eq (by omega) (by omega)]; omega
    rw [e1, nI_clamp (show 60 * 0 + n < 2 ^ 31 by omega), nI_1]
    first
      | rw [if_neg (show ¬ ¬ (0 : Int32) = 0 by decide), if_pos e2, if_neg (by decide), if_neg (by rw [jbad2 (show 60 * 0 + n < 240 by omega) (by decide)]; exact id), if_neg (by decide), if_neg (by decide), if_neg (by decide), jup_s, jupd, if_pos rfl]
      | rw [if_pos (show ¬ (0 : Int32) = 0 by decide), if_pos e2, if_neg (by decide), if_neg (by rw [jbad2 (show 60 * 0 + n < 240 by omega) (by decide)]; exact id), if_neg (by decide), if_neg (by decide), if_neg (by decide), jup_s, jupd, if_pos rfl]
  · rw [if_neg c]
    have e2 : ¬ ¬ nI n = (60 : Int32) := by rw [show n = 60 by omega]; decide +kernel
    first
      | rw [if_neg (show ¬ ¬ (0 : Int32) = 0 by decide), if_neg e2]
      | rw [if_pos (show ¬ (0 : Int32) = 0 by decide), if_neg e2]
theorem A_type_0 {σ : jm_S} (h : I_tx σ) (b : Int32) (hb : ¬ (b < 0 ∨ 255 < b)) : jSame σ jTS [11, 15, 16, 17] I_tx (jc 15 [.ref 0, .int 0, .int b]) (jc 136 [.ref 61, .int 0, .int b]) := by
  have hT : T0 σ := by
    first | exact h.1 | exact h.2.1 | exact h.2.2.1 | exact h.2.2.2
  obtain ⟨n, y, q1, q2, q3, q4, q5, q6⟩ := hT
  have run : jc 15 [.ref 0, .int 0, .int b] σ = (if nI n < (60 : Int32) then jbv (jc 17 [(.ref 42), (.int b)] σ) (fun τ1 => jbv (jc 18 [(.ref 0), (.int 0)] τ1) (fun τ2 => some (some (.int (τ2 42 1)), τ2))) else some (some (.int (-4)), σ)) := by
    have r0 := P_type_in 0 b σ
    rw [P_isOutside, jbi_some, if_neg (by decide), P_isOutside, jbi_some, if_neg hb, if_pos rfl, jaa4_0, P_type_A29_42, Text_isFull_42_in, q4.1] at r0
    rw [r0]
    clear r0
    by_cases c : nI n < (60 : Int32)
    · simp only [if_pos c]
      rw [jbi_some, if_pos rfl, jaa4_0, P_type_A44_42]
      congr 1; funext τ1; congr 1; funext τ2
      rw [jaa4_0, P_type_A59_42]
    · simp only [if_neg c]
      rw [jbi_some, if_neg (by decide)]
  rw [show (60 : Int32) = nI 60 by decide +kernel] at run
  by_cases c : n < 60
  · rw [if_pos (nI_lt c (by decide)), Text_add_42_in, q4.1, nI_clamp (show n < 2 ^ 31 by omega), if_neg (by rw [jbad2 (show n < 60 by omega) (by decide)]; exact id), jbv_some, nI_1] at run
    obtain ⟨τ, e1, e2, e3, e4⟩ := und0 (n := n + 1) (y := fun j => if j = n then b else y j) (by omega) (jm_up (jm_up σ 43 n b) 42 1 (nI (n + 1))) ⟨by rw [jup_s, jupd, if_pos rfl], fun j hj => by
      rw [jup_n _ _ _ (by decide), jup_s, jupd]
      show _ = if j = n then b else y j
      by_cases hj2 : j = n
      · rw [if_pos hj2, if_pos hj2]
      · rw [if_neg hj2, if_neg hj2]; exact q4.2 j (by omega)⟩
    rw [jup_s, jupd, if_pos rfl] at e3
    rw [e1, jbv_some, e3] at run
    have fr : ∀ c, c ∉ [6, 7, 8, 9, 42] → c ≠ 43 → τ c = σ c := fun c hc hb => by
      rw [e2 c hc, jup_n _ _ _ (fun e => hc (by rw [e]; decide)), jup_n _ _ _ hb]
    have m := M_type_0 q1 b hb τ (by rw [fr 70 (by decide) (by decide)]; exact q2)
    rw [if_pos c] at m
    refine ⟨_, _, _, run, m, ?_, ?_⟩
    · refine set0 h ⟨n + 1, fun j => if j = n then b else y j, by omega, ?_, fun j hj => ?_, ⟨?_, fun j hj => ?_⟩, ?_⟩ (fun c hc h69 h70 => ?_) (fun j hj => ?_) (fun j hj => ?_)
      · rw [jup_s, jupd, if_pos rfl]
      · rw [jup_n _ _ _ (by decide), jup_s, jupd]
        show _ = if j = n then b else y j
        by_cases hj2 : j = n
        · rw [if_pos (by omega), if_pos hj2]
        · rw [if_neg (by omega), if_neg hj2, fr 69 (by decide) (by decide)]; exact q3 j (by omega)
      · rw [jup_n _ _ _ (by decide), jup_n _ _ _ (by decide), e3]
      · rw [jup_n _ _ _ (by decide), jup_n _ _ _ (by decide), e2 43 (by decide), jup_n _ _ _ (by decide), jup_s, jupd]
        show _ = if j = n then b else y j
        by_cases hj2 : j = n
        · rw [if_pos hj2, if_pos hj2]
        · rw [if_neg hj2, if_neg hj2]; exact q4.2 j (by omega)
      · refine ⟨by rw [jup_n _ _ _ (by decide), jup_n _ _ _ (by decide)]; exact e4.1, ?_⟩
        first
          | (refine ⟨by rw [jup_n _ _ _ (by decide), jup_n _ _ _ (by decide)]; exact e4.2.1, fun j hj => ?_⟩
             rw [jup_n _ _ _ (by decide), jup_n _ _ _ (by decide), jup_n _ _ _ (by decide), jup_n _ _ _ (by decide), jup_n _ _ _ (by decide), jup_n _ _ _ (by decide)]; exact e4.2.2 j hj)
          | (rw [jup_n _ _ _ (by decide), jup_n _ _ _ (by decide)]; exact e4.2)
      · rw [jup_n _ _ _ h70, jup_n _ _ _ h69]
        exact fr c (fun q => hc (by revert q; simp; omega)) (fun e => hc (by rw [e]; decide))
      · rw [jup_s, jupd, if_neg hj, jup_n _ _ _ (by decide), fr 70 (by decide) (by decide)]
      · rw [jup_n _ _ _ (by decide), jup_s, jupd, if_neg (by omega), fr 69 (by decide) (by decide)]
    · refine ⟨fun a ha h6 => ?_, fun k hk => ?_⟩
      · simp only [List.mem_cons, List.not_mem_nil, or_false, not_or] at ha
        rw [jup_n _ _ _ (by omega), jup_n _ _ _ (by omega)]
        exact fr a (by simp; omega) (by omega)
      · rw [jup_n _ _ _ (by decide), jup_n _ _ _ (by decide), fr 61 (by decide) (by decide)]
  · rw [if_neg (nI_nlt (by omega) (by omega))] at run
    have m := M_type_0 q1 b hb σ q2
    rw [if_neg c] at m
    exact jSame_bad h run m
theorem M_wipe_0 {n : Nat} (σ : jm_S) (h : σ 70 0 = nI n) : jc 138 [.ref 61, .int 0] σ = some (some (.int (nI n)), jm_up σ 70 0 0) := by
  rw [M_wipe_in, M_isText, jbi_some, if_pos (by decide), jn0, if_neg (by decide), if_neg (by decide), h]
theorem A_wipe_0 {σ : jm_S} (h : I_tx σ) : jSame σ jTS [11, 15, 16, 17] I_tx (jc 33 [.ref 0, .int 0]) (jc 138 [.ref 61, .int 0]) := by
  have hT : T0 σ := by
    first | exact h.1 | exact h.2.1 | exact h.2.2.1 | exact h.2.2.2
  obtain ⟨n, y, q1, q2, q3, q4, q5, q6⟩ := hT
  obtain ⟨τ, e1, e2, e3, e4⟩ := und0 (n := 0) (y := y) (by omega) (jm_up σ 42 1 0) ⟨by rw [jup_s, jupd, if_pos rfl, nI_0], fun j hj => by omega⟩
  rw [jup_s, jupd, if_pos rfl] at e3
  have run : jc 33 [.ref 0, .int 0] σ = some (some (.int (nI n)), τ) := by
    rw [P_wipe_in, P_isOutside, jbi_some, if_pos (by decide), jaa4_0, P_wipe_A18_42, jaa4_0, P_wipe_A28_42, e1, jbv_some, q4.1]
  have fr : ∀ c, c ∉ [6, 7, 8, 9, 42] → τ c = σ c := fun c hc => by
    rw [e2 c hc, jup_n _ _ _ (fun e => hc (by rw [e]; decide))]
  have m := M_wipe_0 (n := n) τ (by rw [fr 70 (by decide)]; exact q2)
  refine ⟨_, _, _, run, m, ?_, ?_⟩
  · refine set0 h ⟨0, y, by omega, ?_, fun j hj => by omega, ⟨?_, fun j hj => by omega⟩, ?_⟩ (fun c hc h69 h70 => ?_) (fun j hj => ?_) (fun j hj => ?_)
    · rw [jup_s, jupd, if_pos rfl, nI_0]
    · rw [jup_n _ _ _ (by decide), e3, nI_0]
    · refine ⟨by rw [jup_n _ _ _ (by decide)]; exact e4.1, ?_⟩
      first
        | (refine ⟨by rw [jup_n _ _ _ (by decide)]; exact e4.2.1, fun j hj => ?_⟩
           rw [jup_n _ _ _ (by decide), jup_n _ _ _ (by decide), jup_n _ _ _ (by decide)]; exact e4.2.2 j hj)
        | (rw [jup_n _ _ _ (by decide)]; exact e4.2)
    · rw [jup_n _ _ _ h70]
      exact fr c (fun q => hc (by revert q; simp; omega))
    · rw [jup_s, jupd, if_neg hj, fr 70 (by decide)]
    · rw [jup_n _ _ _ (by decide), fr 69 (by decide)]
  · refine ⟨fun a ha h6 => ?_, fun k hk => ?_⟩
    · simp only [List.mem_cons, List.not_mem_nil, or_false, not_or] at ha
      rw [jup_n _ _ _ (by omega)]
      exact fr a (by simp; omega)
    · rw [jup_n _ _ _ (by decide), fr 61 (by decide)]
theorem M_type_1 {n : Nat} (hn : n ≤ 30) (b : Int32) (hb : ¬ (b < 0 ∨ 255 < b)) (σ : jm_S) (h : σ 70 1 = nI n) : jc 136 [.ref 61, .int 1, .int b] σ = if n < 30 then some (some (.int (nI (n + 1))), jm_up (jm_up σ 69 (60 * 1 + n) b) 70 1 (nI (n + 1))) else some (some (.int (-4)), σ) := by
  have r0 := M_type_in 1 b σ
  rw [M_isText, jbi_some, if_neg (by decide), M_in b 0 255 0 255 (by decide +kernel) (by decide +kernel), jbi_some, if_neg hb, if_pos (by decide), jn1, if_neg (by decide), h] at r0
  rw [r0]
  clear r0
  by_cases c : n < 30
  · rw [if_pos c]
    have e1 : (60 : Int32) * 1 + nI n = nI (60 * 1 + n) := by rw [show (60 : Int32) * 1 = nI (60 * 1) by decide +kernel, nI_add]
    have e2 : ¬ nI n = (30 : Int32) := by rw [show (30 : Int32) = nI 30 by decide +kernel, nI_eq (by omega) (by omega)]; omega
    rw [e1, nI_clamp (show 60 * 1 + n < 2 ^ 31 by omega), nI_1]
    first
      | rw [if_neg (show ¬ ¬ (0 : Int32) = 0 by decide), if_pos e2, if_neg (by decide), if_neg (by rw [jbad2 (show 60 * 1 + n < 240 by omega) (by decide)]; exact id), if_neg (by decide), if_neg (by decide), if_neg (by decide), jup_s, jupd, if_pos rfl]
      | rw [if_pos (show ¬ (1 : Int32) = 0 by decide), if_pos e2, if_neg (by decide), if_neg (by rw [jbad2 (show 60 * 1 + n < 240 by omega) (by decide)]; exact id), if_neg (by decide), if_neg (by decide), if_neg (by decide), jup_s, jupd, if_pos rfl]
  · rw [if_neg c]
    have e2 : ¬ ¬ nI n = (30 : Int32) := by rw [show n = 30 by omega]; decide +kernel
    first
      | rw [if_neg (show ¬ ¬ (0 : Int32) = 0 by decide), if_neg e2]
      | rw [if_pos (show ¬ (1 : Int32) = 0 by decide), if_neg e2]
theorem A_type_1 {σ : jm_S} (h : I_tx σ) (b : Int32) (hb : ¬ (b < 0 ∨ 255 < b)) : jSame σ jTS [11, 15, 16, 17] I_tx (jc 15 [.ref 0, .int 1, .int b]) (jc 136 [.ref 61, .int 1, .int b]) := by
  have hT : T1 σ := by
    first | exact h.1 | exact h.2.1 | exact h.2.2.1 | exact h.2.2.2
  obtain ⟨n, y, q1, q2, q3, q4, q5, q6⟩ := hT
  have run : jc 15 [.ref 0, .int 1, .int b] σ = (if nI n < (30 : Int32) then jbv (jc 17 [(.ref 44), (.int b)] σ) (fun τ1 => jbv (jc 18 [(.ref 0), (.int 1)] τ1) (fun τ2 => some (some (.int (τ2 44 1)), τ2))) else some (some (.int (-4)), σ)) := by
    have r0 := P_type_in 1 b σ
    rw [P_isOutside, jbi_some, if_neg (by decide), P_isOutside, jbi_some, if_neg hb, if_pos rfl, jaa4_1, P_type_A29_44, Text_isFull_44_in, q4.1] at r0
    rw [r0]
    clear r0
    by_cases c : nI n < (30 : Int32)
    · simp only [if_pos c]
      rw [jbi_some, if_pos rfl, jaa4_1, P_type_A44_44]
      congr 1; funext τ1; congr 1; funext τ2
      rw [jaa4_1, P_type_A59_44]
    · simp only [if_neg c]
      rw [jbi_some, if_neg (by decide)]
  rw [show (30 : Int32) = nI 30 by decide +kernel] at run
  by_cases c : n < 30
  · rw [if_pos (nI_lt c (by decide)), Text_add_44_in, q4.1, nI_clamp (show n < 2 ^ 31 by omega), if_neg (by rw [jbad2 (show n < 30 by omega) (by decide)]; exact id), jbv_some, nI_1] at run
    obtain ⟨τ, e1, e2, e3, e4⟩ := und1 (n := n + 1) (y := fun j => if j = n then b else y j) (by omega) (jm_up (jm_up σ 45 n b) 44 1 (nI (n + 1))) ⟨by rw [jup_s, jupd, if_pos rfl], fun j hj => by
      rw [jup_n _ _ _ (by decide), jup_s, jupd]
      show _ = if j = n then b else y j
      by_cases hj2 : j = n
      · rw [if_pos hj2, if_pos hj2]
      · rw [if_neg hj2, if_neg hj2]; exact q4.2 j (by omega)⟩
    rw [jup_s, jupd, if_pos rfl] at e3
    rw [e1, jbv_some, e3] at run
    have fr : ∀ c, c ∉ [46, 44] → c ≠ 45 → τ c = σ c := fun c hc hb => by
      rw [e2 c hc, jup_n _ _ _ (fun e => hc (by rw [e]; decide)), jup_n _ _ _ hb]
    have m := M_type_1 q1 b hb τ (by rw [fr 70 (by decide) (by decide)]; exact q2)
    rw [if_pos c] at m
    refine ⟨_, _, _, run, m, ?_, ?_⟩
    · refine set1 h ⟨n + 1, fun j => if j = n then b else y j, by omega, ?_, fun j hj => ?_, ⟨?_, fun j hj => ?_⟩, ?_⟩ (fun c hc h69 h70 => ?_) (fun j hj => ?_) (fun j hj => ?_)
      · rw [jup_s, jupd, if_pos rfl]
      · rw [jup_n _ _ _ (by decide), jup_s, jupd]
        show _ = if j = n then b else y j
        by_cases hj2 : j = n
        · rw [if_pos (by omega), if_pos hj2]
        · rw [if_neg (by omega), if_neg hj2, fr 69 (by decide) (by decide)]; exact q3 j (by omega)
      · rw [jup_n _ _ _ (by decide), jup_n _ _ _ (by decide), e3]
      · rw [jup_n _ _ _ (by decide), jup_n _ _ _ (by decide), e2 45 (by decide), jup_n _ _ _ (by decide), jup_s, jupd]
        show _ = if j = n then b else y j
        by_cases hj2 : j = n
        · rw [if_pos hj2, if_pos hj2]
        · rw [if_neg hj2, if_neg hj2]; exact q4.2 j (by omega)
      · refine ⟨by rw [jup_n _ _ _ (by decide), jup_n _ _ _ (by decide)]; exact e4.1, ?_⟩
        first
          | (refine ⟨by rw [jup_n _ _ _ (by decide), jup_n _ _ _ (by decide)]; exact e4.2.1, fun j hj => ?_⟩
             rw [jup_n _ _ _ (by decide), jup_n _ _ _ (by decide), jup_n _ _ _ (by decide), jup_n _ _ _ (by decide), jup_n _ _ _ (by decide), jup_n _ _ _ (by decide)]; exact e4.2.2 j hj)
          | (rw [jup_n _ _ _ (by decide), jup_n _ _ _ (by decide)]; exact e4.2)
      · rw [jup_n _ _ _ h70, jup_n _ _ _ h69]
        exact fr c (fun q => hc (by revert q; simp; omega)) (fun e => hc (by rw [e]; decide))
      · rw [jup_s, jupd, if_neg hj, jup_n _ _ _ (by decide), fr 70 (by decide) (by decide)]
      · rw [jup_n _ _ _ (by decide), jup_s, jupd, if_neg (by omega), fr 69 (by decide) (by decide)]
    · refine ⟨fun a ha h6 => ?_, fun k hk => ?_⟩
      · simp only [List.mem_cons, List.not_mem_nil, or_false, not_or] at ha
        rw [jup_n _ _ _ (by omega), jup_n _ _ _ (by omega)]
        exact fr a (by simp; omega) (by omega)
      · rw [jup_n _ _ _ (by decide), jup_n _ _ _ (by decide), fr 61 (by decide) (by decide)]
  · rw [if_neg (nI_nlt (by omega) (by omega))] at run
    have m := M_type_1 q1 b hb σ q2
    rw [if_neg c] at m
    exact jSame_bad h run m
theorem M_wipe_1 {n : Nat} (σ : jm_S) (h : σ 70 1 = nI n) : jc 138 [.ref 61, .int 1] σ = some (some (.int (nI n)), jm_up σ 70 1 0) := by
  rw [M_wipe_in, M_isText, jbi_some, if_pos (by decide), jn1, if_neg (by decide), if_neg (by decide), h]
theorem A_wipe_1 {σ : jm_S} (h : I_tx σ) : jSame σ jTS [11, 15, 16, 17] I_tx (jc 33 [.ref 0, .int 1]) (jc 138 [.ref 61, .int 1]) := by
  have hT : T1 σ := by
    first | exact h.1 | exact h.2.1 | exact h.2.2.1 | exact h.2.2.2
  obtain ⟨n, y, q1, q2, q3, q4, q5, q6⟩ := hT
  obtain ⟨τ, e1, e2, e3, e4⟩ := und1 (n := 0) (y := y) (by omega) (jm_up σ 44 1 0) ⟨by rw [jup_s, jupd, if_pos rfl, nI_0], fun j hj => by omega⟩
  rw [jup_s, jupd, if_pos rfl] at e3
  have run : jc 33 [.ref 0, .int 1] σ = some (some (.int (nI n)), τ) := by
    rw [P_wipe_in, P_isOutside, jbi_some, if_pos (by decide), jaa4_1, P_wipe_A18_44, jaa4_1, P_wipe_A28_44, e1, jbv_some, q4.1]
  have fr : ∀ c, c ∉ [46, 44] → τ c = σ c := fun c hc => by
    rw [e2 c hc, jup_n _ _ _ (fun e => hc (by rw [e]; decide))]
  have m := M_wipe_1 (n := n) τ (by rw [fr 70 (by decide)]; exact q2)
  refine ⟨_, _, _, run, m, ?_, ?_⟩
  · refine set1 h ⟨0, y, by omega, ?_, fun j hj => by omega, ⟨?_, fun j hj => by omega⟩, ?_⟩ (fun c hc h69 h70 => ?_) (fun j hj => ?_) (fun j hj => ?_)
    · rw [jup_s, jupd, if_pos rfl, nI_0]
    · rw [jup_n _ _ _ (by decide), e3, nI_0]
    · refine ⟨by rw [jup_n _ _ _ (by decide)]; exact e4.1, ?_⟩
      first
        | (refine ⟨by rw [jup_n _ _ _ (by decide)]; exact e4.2.1, fun j hj => ?_⟩
           rw [jup_n _ _ _ (by decide), jup_n _ _ _ (by decide), jup_n _ _ _ (by decide)]; exact e4.2.2 j hj)
        | (rw [jup_n _ _ _ (by decide)]; exact e4.2)
    · rw [jup_n _ _ _ h70]
      exact fr c (fun q => hc (by revert q; simp; omega))
    · rw [jup_s, jupd, if_neg hj, fr 70 (by decide)]
    · rw [jup_n _ _ _ (by decide), fr 69 (by decide)]
  · refine ⟨fun a ha h6 => ?_, fun k hk => ?_⟩
    · simp only [List.mem_cons, List.not_mem_nil, or_false, not_or] at ha
      rw [jup_n _ _ _ (by omega)]
      exact fr a (by simp; omega)
    · rw [jup_n _ _ _ (by decide), fr 61 (by decide)]
theorem M_type_2 {n : Nat} (hn : n ≤ 30) (b : Int32) (hb : ¬ (b < 0 ∨ 255 < b)) (σ : jm_S) (h : σ 70 2 = nI n) : jc 136 [.ref 61, .int 2, .int b] σ = if n < 30 then some (some (.int (nI (n + 1))), jm_up (jm_up σ 69 (60 * 2 + n) b) 70 2 (nI (n + 1))) else some (some (.int (-4)), σ) := by
  have r0 := M_type_in 2 b σ
  rw [M_isText, jbi_some, if_neg (by decide), M_in b 0 255 0 255 (by decide +kernel) (by decide +kernel), jbi_some, if_neg hb, if_pos (by decide), jn2, if_neg (by decide), h] at r0
  rw [r0]
  clear r0
  by_cases c : n < 30
  · rw [if_pos c]
    have e1 : (60 : Int32) * 2 + nI n = nI (60 * 2 + n) := by rw [show (60 : Int32) * 2 = nI (60 * 2) by decide +kernel, nI_add]
    have e2 : ¬ nI n = (30 : Int32) := by rw [show (30 : Int32) = nI 30 by decide +kernel, nI_eq (by omega) (by omega)]; omega
    rw [e1, nI_clamp (show 60 * 2 + n < 2 ^ 31 by omega), nI_1]
    first
      | rw [if_neg (show ¬ ¬ (0 : Int32) = 0 by decide), if_pos e2, if_neg (by decide), if_neg (by rw [jbad2 (show 60 * 2 + n < 240 by omega) (by decide)]; exact id), if_neg (by decide), if_neg (by decide), if_neg (by decide), jup_s, jupd, if_pos rfl]
      | rw [if_pos (show ¬ (2 : Int32) = 0 by decide), if_pos e2, if_neg (by decide), if_neg (by rw [jbad2 (show 60 * 2 + n < 240 by omega) (by decide)]; exact id), if_neg (by decide), if_neg (by decide), if_neg (by decide), jup_s, jupd, if_pos rfl]
  · rw [if_neg c]
    have e2 : ¬ ¬ nI n = (30 : Int32) := by rw [show n = 30 by omega]; decide +kernel
    first
      | rw [if_neg (show ¬ ¬ (0 : Int32) = 0 by decide), if_neg e2]
      | rw [if_pos (show ¬ (2 : Int32) = 0 by decide), if_neg e2]
theorem A_type_2 {σ : jm_S} (h : I_tx σ) (b : Int32) (hb : ¬ (b < 0 ∨ 255 < b)) : jSame σ jTS [11, 15, 16, 17] I_tx (jc 15 [.ref 0, .int 2, .int b]) (jc 136 [.ref 61, .int 2, .int b]) := by
  have hT : T2 σ := by
    first | exact h.1 | exact h.2.1 | exact h.2.2.1 | exact h.2.2.2
  obtain ⟨n, y, q1, q2, q3, q4, q5, q6⟩ := hT
  have run : jc 15 [.ref 0, .int 2, .int b] σ = (if nI n < (30 : Int32) then jbv (jc 17 [(.ref 47), (.int b)] σ) (fun τ1 => jbv (jc 18 [(.ref 0), (.int 2)] τ1) (fun τ2 => some (some (.int (τ2 47 1)), τ2))) else some (some (.int (-4)), σ)) := by
    have r0 := P_type_in 2 b σ
    rw [P_isOutside, jbi_some, if_neg (by decide), P_isOutside, jbi_some, if_neg hb, if_pos rfl, jaa4_2, P_type_A29_47, Text_isFull_47_in, q4.1] at r0
    rw [r0]
    clear r0
    by_cases c : nI n < (30 : Int32)
    · simp only [if_pos c]
      rw [jbi_some, if_pos rfl, jaa4_2, P_type_A44_47]
      congr 1; funext τ1; congr 1; funext τ2
      rw [jaa4_2, P_type_A59_47]
    · simp only [if_neg c]
      rw [jbi_some, if_neg (by decide)]
  rw [show (30 : Int32) = nI 30 by decide +kernel] at run
  by_cases c : n < 30
  · rw [if_pos (nI_lt c (by decide)), Text_add_47_in, q4.1, nI_clamp (show n < 2 ^ 31 by omega), if_neg (by rw [jbad2 (show n < 30 by omega) (by decide)]; exact id), jbv_some, nI_1] at run
    obtain ⟨τ, e1, e2, e3, e4⟩ := und2 (n := n + 1) (y := fun j => if j = n then b else y j) (by omega) (jm_up (jm_up σ 48 n b) 47 1 (nI (n + 1))) ⟨by rw [jup_s, jupd, if_pos rfl], fun j hj => by
      rw [jup_n _ _ _ (by decide), jup_s, jupd]
      show _ = if j = n then b else y j
      by_cases hj2 : j = n
      · rw [if_pos hj2, if_pos hj2]
      · rw [if_neg hj2, if_neg hj2]; exact q4.2 j (by omega)⟩
    rw [jup_s, jupd, if_pos rfl] at e3
    rw [e1, jbv_some, e3] at run
    have fr : ∀ c, c ∉ [49, 47] → c ≠ 48 → τ c = σ c := fun c hc hb => by
      rw [e2 c hc, jup_n _ _ _ (fun e => hc (by rw [e]; decide)), jup_n _ _ _ hb]
    have m := M_type_2 q1 b hb τ (by rw [fr 70 (by decide) (by decide)]; exact q2)
    rw [if_pos c] at m
    refine ⟨_, _, _, run, m, ?_, ?_⟩
    · refine set2 h ⟨n + 1, fun j => if j = n then b else y j, by omega, ?_, fun j hj => ?_, ⟨?_, fun j hj => ?_⟩, ?_⟩ (fun c hc h69 h70 => ?_) (fun j hj => ?_) (fun j hj => ?_)
      · rw [jup_s, jupd, if_pos rfl]
      · rw [jup_n _ _ _ (by decide), jup_s, jupd]
        show _ = if j = n then b else y j
        by_cases hj2 : j = n
        · rw [if_pos (by omega), if_pos hj2]
        · rw [if_neg (by omega), if_neg hj2, fr 69 (by decide) (by decide)]; exact q3 j (by omega)
      · rw [jup_n _ _ _ (by decide), jup_n _ _ _ (by decide), e3]
      · rw [jup_n _ _ _ (by decide), jup_n _ _ _ (by decide), e2 48 (by decide), jup_n _ _ _ (by decide), jup_s, jupd]
        show _ = if j = n then b else y j
        by_cases hj2 : j = n
        · rw [if_pos hj2, if_pos hj2]
        · rw [if_neg hj2, if_neg hj2]; exact q4.2 j (by omega)
      · refine ⟨by rw [jup_n _ _ _ (by decide), jup_n _ _ _ (by decide)]; exact e4.1, ?_⟩
        first
          | (refine ⟨by rw [jup_n _ _ _ (by decide), jup_n _ _ _ (by decide)]; exact e4.2.1, fun j hj => ?_⟩
             rw [jup_n _ _ _ (by decide), jup_n _ _ _ (by decide), jup_n _ _ _ (by decide), jup_n _ _ _ (by decide), jup_n _ _ _ (by decide), jup_n _ _ _ (by decide)]; exact e4.2.2 j hj)
          | (rw [jup_n _ _ _ (by decide), jup_n _ _ _ (by decide)]; exact e4.2)
      · rw [jup_n _ _ _ h70, jup_n _ _ _ h69]
        exact fr c (fun q => hc (by revert q; simp; omega)) (fun e => hc (by rw [e]; decide))
      · rw [jup_s, jupd, if_neg hj, jup_n _ _ _ (by decide), fr 70 (by decide) (by decide)]
      · rw [jup_n _ _ _ (by decide), jup_s, jupd, if_neg (by omega), fr 69 (by decide) (by decide)]
    · refine ⟨fun a ha h6 => ?_, fun k hk => ?_⟩
      · simp only [List.mem_cons, List.not_mem_nil, or_false, not_or] at ha
        rw [jup_n _ _ _ (by omega), jup_n _ _ _ (by omega)]
        exact fr a (by simp; omega) (by omega)
      · rw [jup_n _ _ _ (by decide), jup_n _ _ _ (by decide), fr 61 (by decide) (by decide)]
  · rw [if_neg (nI_nlt (by omega) (by omega))] at run
    have m := M_type_2 q1 b hb σ q2
    rw [if_neg c] at m
    exact jSame_bad h run m
theorem M_wipe_2 {n : Nat} (σ : jm_S) (h : σ 70 2 = nI n) : jc 138 [.ref 61, .int 2] σ = some (some (.int (nI n)), jm_up σ 70 2 0) := by
  rw [M_wipe_in, M_isText, jbi_some, if_pos (by decide), jn2, if_neg (by decide), if_neg (by decide), h]
theorem A_wipe_2 {σ : jm_S} (h : I_tx σ) : jSame σ jTS [11, 15, 16, 17] I_tx (jc 33 [.ref 0, .int 2]) (jc 138 [.ref 61, .int 2]) := by
  have hT : T2 σ := by
    first | exact h.1 | exact h.2.1 | exact h.2.2.1 | exact h.2.2.2
  obtain ⟨n, y, q1, q2, q3, q4, q5, q6⟩ := hT
  obtain ⟨τ, e1, e2, e3, e4⟩ := und2 (n := 0) (y := y) (by omega) (jm_up σ 47 1 0) ⟨by rw [jup_s, jupd, if_pos rfl, nI_0], fun j hj => by omega⟩
  rw [jup_s, jupd, if_pos rfl] at e3
  have run : jc 33 [.ref 0, .int 2] σ = some (some (.int (nI n)), τ) := by
    rw [P_wipe_in, P_isOutside, jbi_some, if_pos (by decide), jaa4_2, P_wipe_A18_47, jaa4_2, P_wipe_A28_47, e1, jbv_some, q4.1]
  have fr : ∀ c, c ∉ [49, 47] → τ c = σ c := fun c hc => by
    rw [e2 c hc, jup_n _ _ _ (fun e => hc (by rw [e]; decide))]
  have m := M_wipe_2 (n := n) τ (by rw [fr 70 (by decide)]; exact q2)
  refine ⟨_, _, _, run, m, ?_, ?_⟩
  · refine set2 h ⟨0, y, by omega, ?_, fun j hj => by omega, ⟨?_, fun j hj => by omega⟩, ?_⟩ (fun c hc h69 h70 => ?_) (fun j hj => ?_) (fun j hj => ?_)
    · rw [jup_s, jupd, if_pos rfl, nI_0]
    · rw [jup_n _ _ _ (by decide), e3, nI_0]
    · refine ⟨by rw [jup_n _ _ _ (by decide)]; exact e4.1, ?_⟩
      first
        | (refine ⟨by rw [jup_n _ _ _ (by decide)]; exact e4.2.1, fun j hj => ?_⟩
           rw [jup_n _ _ _ (by decide), jup_n _ _ _ (by decide), jup_n _ _ _ (by decide)]; exact e4.2.2 j hj)
        | (rw [jup_n _ _ _ (by decide)]; exact e4.2)
    · rw [jup_n _ _ _ h70]
      exact fr c (fun q => hc (by revert q; simp; omega))
    · rw [jup_s, jupd, if_neg hj, fr 70 (by decide)]
    · rw [jup_n _ _ _ (by decide), fr 69 (by decide)]
  · refine ⟨fun a ha h6 => ?_, fun k hk => ?_⟩
    · simp only [List.mem_cons, List.not_mem_nil, or_false, not_or] at ha
      rw [jup_n _ _ _ (by omega)]
      exact fr a (by simp; omega)
    · rw [jup_n _ _ _ (by decide), fr 61 (by decide)]
theorem M_type_3 {n : Nat} (hn : n ≤ 30) (b : Int32) (hb : ¬ (b < 0 ∨ 255 < b)) (σ : jm_S) (h : σ 70 3 = nI n) : jc 136 [.ref 61, .int 3, .int b] σ = if n < 30 then some (some (.int (nI (n + 1))), jm_up (jm_up σ 69 (60 * 3 + n) b) 70 3 (nI (n + 1))) else some (some (.int (-4)), σ) := by
  have r0 := M_type_in 3 b σ
  rw [M_isText, jbi_some, if_neg (by decide), M_in b 0 255 0 255 (by decide +kernel) (by decide +kernel), jbi_some, if_neg hb, if_pos (by decide), jn3, if_neg (by decide), h] at r0
  rw [r0]
  clear r0
  by_cases c : n < 30
  · rw [if_pos c]
    have e1 : (60 : Int32) * 3 + nI n = nI (60 * 3 + n) := by rw [show (60 : Int32) * 3 = nI (60 * 3) by decide +kernel, nI_add]
    have e2 : ¬ nI n = (30 : Int32) := by rw [show (30 : Int32) = nI 30 by decide +kernel, nI_eq (by omega) (by omega)]; omega
    rw [e1, nI_clamp (show 60 * 3 + n < 2 ^ 31 by omega), nI_1]
    first
      | rw [if_neg (show ¬ ¬ (0 : Int32) = 0 by decide), if_pos e2, if_neg (by decide), if_neg (by rw [jbad2 (show 60 * 3 + n < 240 by omega) (by decide)]; exact id), if_neg (by decide), if_neg (by decide), if_neg (by decide), jup_s, jupd, if_pos rfl]
      | rw [if_pos (show ¬ (3 : Int32) = 0 by decide), if_pos e2, if_neg (by decide), if_neg (by rw [jbad2 (show 60 * 3 + n < 240 by omega) (by decide)]; exact id), if_neg (by decide), if_neg (by decide), if_neg (by decide), jup_s, jupd, if_pos rfl]
  · rw [if_neg c]
    have e2 : ¬ ¬ nI n = (30 : Int32) := by rw [show n = 30 by omega]; decide +kernel
    first
      | rw [if_neg (show ¬ ¬ (0 : Int32) = 0 by decide), if_neg e2]
      | rw [if_pos (show ¬ (3 : Int32) = 0 by decide), if_neg e2]
theorem A_type_3 {σ : jm_S} (h : I_tx σ) (b : Int32) (hb : ¬ (b < 0 ∨ 255 < b)) : jSame σ jTS [11, 15, 16, 17] I_tx (jc 15 [.ref 0, .int 3, .int b]) (jc 136 [.ref 61, .int 3, .int b]) := by
  have hT : T3 σ := by
    first | exact h.1 | exact h.2.1 | exact h.2.2.1 | exact h.2.2.2
  obtain ⟨n, y, q1, q2, q3, q4, q5, q6⟩ := hT
  have run : jc 15 [.ref 0, .int 3, .int b] σ = (if nI n < (30 : Int32) then jbv (jc 17 [(.ref 50), (.int b)] σ) (fun τ1 => jbv (jc 18 [(.ref 0), (.int 3)] τ1) (fun τ2 => some (some (.int (τ2 50 1)), τ2))) else some (some (.int (-4)), σ)) := by
    have r0 := P_type_in 3 b σ
    rw [P_isOutside, jbi_some, if_neg (by decide), P_isOutside, jbi_some, if_neg hb, if_pos rfl, jaa4_3, P_type_A29_50, Text_isFull_50_in, q4.1] at r0
    rw [r0]
    clear r0
    by_cases c : nI n < (30 : Int32)
    · simp only [if_pos c]
      rw [jbi_some, if_pos rfl, jaa4_3, P_type_A44_50]
      congr 1; funext τ1; congr 1; funext τ2
      rw [jaa4_3, P_type_A59_50]
    · simp only [if_neg c]
      rw [jbi_some, if_neg (by decide)]
  rw [show (30 : Int32) = nI 30 by decide +kernel] at run
  by_cases c : n < 30
  · rw [if_pos (nI_lt c (by decide)), Text_add_50_in, q4.1, nI_clamp (show n < 2 ^ 31 by omega), if_neg (by rw [jbad2 (show n < 30 by omega) (by decide)]; exact id), jbv_some, nI_1] at run
    obtain ⟨τ, e1, e2, e3, e4⟩ := und3 (n := n + 1) (y := fun j => if j = n then b else y j) (by omega) (jm_up (jm_up σ 51 n b) 50 1 (nI (n + 1))) ⟨by rw [jup_s, jupd, if_pos rfl], fun j hj => by
      rw [jup_n _ _ _ (by decide), jup_s, jupd]
      show _ = if j = n then b else y j
      by_cases hj2 : j = n
      · rw [if_pos hj2, if_pos hj2]
      · rw [if_neg hj2, if_neg hj2]; exact q4.2 j (by omega)⟩
    rw [jup_s, jupd, if_pos rfl] at e3
    rw [e1, jbv_some, e3] at run
    have fr : ∀ c, c ∉ [52, 50] → c ≠ 51 → τ c = σ c := fun c hc hb => by
      rw [e2 c hc, jup_n _ _ _ (fun e => hc (by rw [e]; decide)), jup_n _ _ _ hb]
    have m := M_type_3 q1 b hb τ (by rw [fr 70 (by decide) (by decide)]; exact q2)
    rw [if_pos c] at m
    refine ⟨_, _, _, run, m, ?_, ?_⟩
    · refine set3 h ⟨n + 1, fun j => if j = n then b else y j, by omega, ?_, fun j hj => ?_, ⟨?_, fun j hj => ?_⟩, ?_⟩ (fun c hc h69 h70 => ?_) (fun j hj => ?_) (fun j hj => ?_)
      · rw [jup_s, jupd, if_pos rfl]
      · rw [jup_n _ _ _ (by decide), jup_s, jupd]
        show _ = if j = n then b else y j
        by_cases hj2 : j = n
        · rw [if_pos (by omega), if_pos hj2]
        · rw [if_neg (by omega), if_neg hj2, fr 69 (by decide) (by decide)]; exact q3 j (by omega)
      · rw [jup_n _ _ _ (by decide), jup_n _ _ _ (by decide), e3]
      · rw [jup_n _ _ _ (by decide), jup_n _ _ _ (by decide), e2 51 (by decide), jup_n _ _ _ (by decide), jup_s, jupd]
        show _ = if j = n then b else y j
        by_cases hj2 : j = n
        · rw [if_pos hj2, if_pos hj2]
        · rw [if_neg hj2, if_neg hj2]; exact q4.2 j (by omega)
      · refine ⟨by rw [jup_n _ _ _ (by decide), jup_n _ _ _ (by decide)]; exact e4.1, ?_⟩
        first
          | (refine ⟨by rw [jup_n _ _ _ (by decide), jup_n _ _ _ (by decide)]; exact e4.2.1, fun j hj => ?_⟩
             rw [jup_n _ _ _ (by decide), jup_n _ _ _ (by decide), jup_n _ _ _ (by decide), jup_n _ _ _ (by decide), jup_n _ _ _ (by decide), jup_n _ _ _ (by decide)]; exact e4.2.2 j hj)
          | (rw [jup_n _ _ _ (by decide), jup_n _ _ _ (by decide)]; exact e4.2)
      · rw [jup_n _ _ _ h70, jup_n _ _ _ h69]
        exact fr c (fun q => hc (by revert q; simp; omega)) (fun e => hc (by rw [e]; decide))
      · rw [jup_s, jupd, if_neg hj, jup_n _ _ _ (by decide), fr 70 (by decide) (by decide)]
      · rw [jup_n _ _ _ (by decide), jup_s, jupd, if_neg (by omega), fr 69 (by decide) (by decide)]
    · refine ⟨fun a ha h6 => ?_, fun k hk => ?_⟩
      · simp only [List.mem_cons, List.not_mem_nil, or_false, not_or] at ha
        rw [jup_n _ _ _ (by omega), jup_n _ _ _ (by omega)]
        exact fr a (by simp; omega) (by omega)
      · rw [jup_n _ _ _ (by decide), jup_n _ _ _ (by decide), fr 61 (by decide) (by decide)]
  · rw [if_neg (nI_nlt (by omega) (by omega))] at run
    have m := M_type_3 q1 b hb σ q2
    rw [if_neg c] at m
    exact jSame_bad h run m
theorem M_wipe_3 {n : Nat} (σ : jm_S) (h : σ 70 3 = nI n) : jc 138 [.ref 61, .int 3] σ = some (some (.int (nI n)), jm_up σ 70 3 0) := by
  rw [M_wipe_in, M_isText, jbi_some, if_pos (by decide), jn3, if_neg (by decide), if_neg (by decide), h]
theorem A_wipe_3 {σ : jm_S} (h : I_tx σ) : jSame σ jTS [11, 15, 16, 17] I_tx (jc 33 [.ref 0, .int 3]) (jc 138 [.ref 61, .int 3]) := by
  have hT : T3 σ := by
    first | exact h.1 | exact h.2.1 | exact h.2.2.1 | exact h.2.2.2
  obtain ⟨n, y, q1, q2, q3, q4, q5, q6⟩ := hT
  obtain ⟨τ, e1, e2, e3, e4⟩ := und3 (n := 0) (y := y) (by omega) (jm_up σ 50 1 0) ⟨by rw [jup_s, jupd, if_pos rfl, nI_0], fun j hj => by omega⟩
  rw [jup_s, jupd, if_pos rfl] at e3
  have run : jc 33 [.ref 0, .int 3] σ = some (some (.int (nI n)), τ) := by
    rw [P_wipe_in, P_isOutside, jbi_some, if_pos (by decide), jaa4_3, P_wipe_A18_50, jaa4_3, P_wipe_A28_50, e1, jbv_some, q4.1]
  have fr : ∀ c, c ∉ [52, 50] → τ c = σ c := fun c hc => by
    rw [e2 c hc, jup_n _ _ _ (fun e => hc (by rw [e]; decide))]
  have m := M_wipe_3 (n := n) τ (by rw [fr 70 (by decide)]; exact q2)
  refine ⟨_, _, _, run, m, ?_, ?_⟩
  · refine set3 h ⟨0, y, by omega, ?_, fun j hj => by omega, ⟨?_, fun j hj => by omega⟩, ?_⟩ (fun c hc h69 h70 => ?_) (fun j hj => ?_) (fun j hj => ?_)
    · rw [jup_s, jupd, if_pos rfl, nI_0]
    · rw [jup_n _ _ _ (by decide), e3, nI_0]
    · refine ⟨by rw [jup_n _ _ _ (by decide)]; exact e4.1, ?_⟩
      first
        | (refine ⟨by rw [jup_n _ _ _ (by decide)]; exact e4.2.1, fun j hj => ?_⟩
           rw [jup_n _ _ _ (by decide), jup_n _ _ _ (by decide), jup_n _ _ _ (by decide)]; exact e4.2.2 j hj)
        | (rw [jup_n _ _ _ (by decide)]; exact e4.2)
    · rw [jup_n _ _ _ h70]
      exact fr c (fun q => hc (by revert q; simp; omega))
    · rw [jup_s, jupd, if_neg hj, fr 70 (by decide)]
    · rw [jup_n _ _ _ (by decide), fr 69 (by decide)]
  · refine ⟨fun a ha h6 => ?_, fun k hk => ?_⟩
    · simp only [List.mem_cons, List.not_mem_nil, or_false, not_or] at ha
      rw [jup_n _ _ _ (by omega)]
      exact fr a (by simp; omega)
    · rw [jup_n _ _ _ (by decide), fr 61 (by decide)]
theorem A_type {σ : jm_S} (h : I_tx σ) (x b : Int32) : jSame σ jTS [11, 15, 16, 17] I_tx (jc 15 [.ref 0, .int x, .int b]) (jc 136 [.ref 61, .int x, .int b]) := by
  by_cases hb : (x < 0 ∨ 3 < x) ∨ (b < 0 ∨ 255 < b)
  · exact jSame_bad h (P_type_bad x b σ hb) (M_type_bad x b σ hb)
  · rcases j4 (fun q => hb (Or.inl q)) with rfl | rfl | rfl | rfl
    · exact A_type_0 h b (fun q => hb (Or.inr q))
    · exact A_type_1 h b (fun q => hb (Or.inr q))
    · exact A_type_2 h b (fun q => hb (Or.inr q))
    · exact A_type_3 h b (fun q => hb (Or.inr q))
theorem A_wipe {σ : jm_S} (h : I_tx σ) (x : Int32) : jSame σ jTS [11, 15, 16, 17] I_tx (jc 33 [.ref 0, .int x]) (jc 138 [.ref 61, .int x]) := by
  by_cases hb : (x < 0 ∨ 3 < x)
  · refine jSame_bad h (v := .int (-2)) ?_ ?_
    · rw [P_wipe_in, P_isOutside, jbi_some, if_pos hb, if_neg (by decide)]
    · rw [M_wipe_in, M_isText, jbi_some, if_pos hb, if_neg (by decide)]
  · rcases j4 hb with rfl | rfl | rfl | rfl
    · exact A_wipe_0 h
    · exact A_wipe_1 h
    · exact A_wipe_2 h
    · exact A_wipe_3 h
theorem I_tx_fr {σ ρ : jm_S} (h : I_tx σ) (hf : ∀ c, c ∈ [6, 7, 8, 9, 42, 43, 44, 45, 46, 47, 48, 49, 50, 51, 52, 69, 70] → ρ c = σ c) : I_tx ρ :=
  ⟨T0_fr h.1 (hf _ (by decide)) (hf _ (by decide)) (hf _ (by decide)) (hf _ (by decide)) (hf _ (by decide)) (hf _ (by decide)) (by rw [hf 70 (by decide)]) (fun j _ => by rw [hf 69 (by decide)]),
   T1_fr h.2.1 (hf _ (by decide)) (hf _ (by decide)) (hf _ (by decide)) (by rw [hf 70 (by decide)]) (fun j _ => by rw [hf 69 (by decide)]),
   T2_fr h.2.2.1 (hf _ (by decide)) (hf _ (by decide)) (hf _ (by decide)) (by rw [hf 70 (by decide)]) (fun j _ => by rw [hf 69 (by decide)]),
   T3_fr h.2.2.2 (hf _ (by decide)) (hf _ (by decide)) (hf _ (by decide)) (by rw [hf 70 (by decide)]) (fun j _ => by rw [hf 69 (by decide)])⟩
theorem I_tx_jFr {σ ρ : jm_S} (h : I_tx σ) (hf : jFr [71, 72, 73, 74, 75] [11, 15, 16, 17] σ ρ) : I_tx ρ := by
  refine I_tx_fr h (fun c hc => hf.1 c ?_ ?_)
  · intro q; revert hc q; simp; omega
  · intro q; revert hc; rw [q]; decide
/-! the model's fault of a text -/
theorem M_faultOf_0 {σ : jm_S} (h : T0 σ) : ∃ ρ, jc 140 [.ref 61, .int 0] σ = some (some (.int (σ 42 3)), ρ) ∧ jFr [71, 72, 73, 74, 75] [11, 15, 16, 17] σ ρ := by
  obtain ⟨n, y, q1, q2, q3, q4, q5, q6⟩ := h
  obtain ⟨ρ, e1, e2, e3⟩ := M_readsPan q1 σ q2 q3
  exact ⟨ρ, by rw [M_faultOf_in, if_neg (by decide), e1, jbi_some, q5], e2.weak (by simp) (by simp)⟩
theorem M_faultOf_1 {σ : jm_S} (h : T1 σ) : ∃ ρ, jc 140 [.ref 61, .int 1] σ = some (some (.int (σ 44 3)), ρ) ∧ jFr [71, 72, 73, 74, 75] [11, 15, 16, 17] σ ρ := by
  obtain ⟨n, y, q1, q2, q3, q4, q5, q6⟩ := h
  obtain ⟨ρ, e1, e2, e3⟩ := M_readsRule (by omega) q1 σ q2 q3
  rw [show nI 1 = 1 by decide +kernel] at e1
  exact ⟨ρ, by rw [M_faultOf_in, if_pos (by decide), e1, jbi_some, q5], e2.weak (by simp) (by simp)⟩
theorem M_faultOf_2 {σ : jm_S} (h : T2 σ) : ∃ ρ, jc 140 [.ref 61, .int 2] σ = some (some (.int (σ 47 3)), ρ) ∧ jFr [71, 72, 73, 74, 75] [11, 15, 16, 17] σ ρ := by
  obtain ⟨n, y, q1, q2, q3, q4, q5, q6⟩ := h
  obtain ⟨ρ, e1, e2, e3⟩ := M_readsRule (by omega) q1 σ q2 q3
  rw [show nI 2 = 2 by decide +kernel] at e1
  exact ⟨ρ, by rw [M_faultOf_in, if_pos (by decide), e1, jbi_some, q5], e2.weak (by simp) (by simp)⟩
theorem M_faultOf_3 {σ : jm_S} (h : T3 σ) : ∃ ρ, jc 140 [.ref 61, .int 3] σ = some (some (.int (σ 50 3)), ρ) ∧ jFr [71, 72, 73, 74, 75] [11, 15, 16, 17] σ ρ := by
  obtain ⟨n, y, q1, q2, q3, q4, q5, q6⟩ := h
  obtain ⟨ρ, e1, e2, e3⟩ := M_readsRule (by omega) q1 σ q2 q3
  rw [show nI 3 = 3 by decide +kernel] at e1
  exact ⟨ρ, by rw [M_faultOf_in, if_pos (by decide), e1, jbi_some, q5], e2.weak (by simp) (by simp)⟩
theorem A_fault {σ : jm_S} (h : I_tx σ) (x : Int32) : jSame σ jTS [11, 15, 16, 17] I_tx (jc 34 [.ref 0, .int x]) (jc 139 [.ref 61, .int x]) := by
  by_cases hb : (x < 0 ∨ 3 < x)
  · refine jSame_bad h (v := .int (-2)) ?_ ?_
    · rw [P_fault_in, P_isOutside, jbi_some, if_pos hb, if_neg (by decide)]
    · rw [M_fault_in, M_isText, jbi_some, if_pos hb, if_pos rfl]
  · have hM : ∀ {v : Int32} {ρ : jm_S}, jc 140 [.ref 61, .int x] σ = some (some (.int v), ρ) → jc 139 [.ref 61, .int x] σ = some (some (.int v), ρ) := by
      intro v ρ e
      rw [M_fault_in, M_isText, jbi_some, if_neg hb, if_neg (by decide), e, jbi_some]
    rcases j4 hb with rfl | rfl | rfl | rfl
    · obtain ⟨ρ, e1, e2⟩ := M_faultOf_0 h.1
      exact ⟨_, _, _, by rw [P_fault_in, P_isOutside, jbi_some, if_neg hb, if_pos rfl, jaa4_0, P_fault_A18_42], hM e1, I_tx_jFr h e2, e2.weak (by simp) (by simp)⟩
    · obtain ⟨ρ, e1, e2⟩ := M_faultOf_1 h.2.1
      exact ⟨_, _, _, by rw [P_fault_in, P_isOutside, jbi_some, if_neg hb, if_pos rfl, jaa4_1, P_fault_A18_44], hM e1, I_tx_jFr h e2, e2.weak (by simp) (by simp)⟩
    · obtain ⟨ρ, e1, e2⟩ := M_faultOf_2 h.2.2.1
      exact ⟨_, _, _, by rw [P_fault_in, P_isOutside, jbi_some, if_neg hb, if_pos rfl, jaa4_2, P_fault_A18_47], hM e1, I_tx_jFr h e2, e2.weak (by simp) (by simp)⟩
    · obtain ⟨ρ, e1, e2⟩ := M_faultOf_3 h.2.2.2
      exact ⟨_, _, _, by rw [P_fault_in, P_isOutside, jbi_some, if_neg hb, if_pos rfl, jaa4_3, P_fault_A18_50], hM e1, I_tx_jFr h e2, e2.weak (by simp) (by simp)⟩
theorem A_pan {σ : jm_S} (h : I_tx σ) (x w : Int32) : jSame σ jTS [11, 15, 16, 17] I_tx (jc 35 [.ref 0, .int x, .int w]) (jc 148 [.ref 61, .int x, .int w]) := by
  by_cases hx : x < 0 ∨ 199 < x
  · refine jSame_bad h (v := .int (-2)) ?_ ?_
    · rw [P_pan_in, P_isOutside, jbi_some, if_pos hx, if_pos (by decide)]
    · rw [M_pan_in, M_in x 0 199 0 199 (by decide +kernel) (by decide +kernel), jbi_some, if_pos hx, if_pos rfl]
  · by_cases hw : w < 0 ∨ 2 < w
    · refine jSame_bad h (v := .int (-2)) ?_ ?_
      · rw [P_pan_in, P_isOutside, jbi_some, if_neg hx, if_neg (by decide), P_isOutside, jbi_some, if_pos hw, if_neg (by decide)]
      · rw [M_pan_in, M_in x 0 199 0 199 (by decide +kernel) (by decide +kernel), jbi_some, if_neg hx, if_neg (by decide), M_in w 0 2 0 2 (by decide +kernel) (by decide +kernel), jbi_some, if_pos hw, if_neg (by decide)]
    · obtain ⟨j, hj, rfl⟩ := jN (n := 199) (by decide +kernel) hx
      obtain ⟨n, y, q1, q2, q3, q4, q5, q6⟩ := h.1
      obtain ⟨ρ, e1, e2, e3⟩ := M_readsPan q1 σ q2 q3
      obtain ⟨a1, a2, a3⟩ := q6.2 j (by omega)
      obtain ⟨b1, b2, b3⟩ := e3.2 j (by omega)
      have e2' : jFr [71, 72, 73, 74, 75] [11, 15, 16, 17] σ ρ := e2.weak (by simp) (by simp)
      have r1 := P_pan_in (nI j) w σ
      rw [P_isOutside, jbi_some, if_neg hx, if_neg (by decide), P_isOutside, jbi_some, if_neg hw, if_pos rfl, nI_clamp (show j < 2 ^ 31 by omega)] at r1
      have r2 := M_pan_in (nI j) w σ
      rw [M_in _ 0 199 0 199 (by decide +kernel) (by decide +kernel), jbi_some, if_neg hx, if_neg (by decide), M_in w 0 2 0 2 (by decide +kernel) (by decide +kernel), jbi_some, if_neg hw, if_pos (by decide), e1, jbi_some, nI_clamp (show j < 2 ^ 31 by omega)] at r2
      simp only [jbad2 (show j < 200 by omega) (by decide), if_false] at r1 r2
      rcases j3 hw with rfl | rfl | rfl
      · rw [if_neg (by decide)] at r1 r2
        rw [a1] at r1; rw [b1] at r2
        exact ⟨_, _, _, r1, r2, I_tx_jFr h e2', e2'.weak (by simp) (by simp)⟩
      · rw [if_pos (by decide), if_neg (by decide)] at r1 r2
        rw [a2] at r1; rw [b2] at r2
        exact ⟨_, _, _, r1, r2, I_tx_jFr h e2', e2'.weak (by simp) (by simp)⟩
      · rw [if_pos (by decide), if_pos (by decide)] at r1 r2
        rw [a3] at r1; rw [b3] at r2
        by_cases c : (paA y n).2.L j = 0
        · rw [if_pos c] at r1 r2
          exact ⟨_, _, _, r1, r2, I_tx_jFr h e2', e2'.weak (by simp) (by simp)⟩
        · rw [if_neg c] at r1 r2
          exact ⟨_, _, _, r1, r2, I_tx_jFr h e2', e2'.weak (by simp) (by simp)⟩
