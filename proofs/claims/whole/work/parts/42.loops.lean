/-! ===== batches go on ===== -/
abbrev onZ (σ : jm_S) (Z : Pg) (t n : Nat) : Prop := ∀ j, t ≤ j → j < n → σ 7 j = Z.1 j ∧ σ 8 j = nI (Z.2.1 j) ∧ Z.2.1 j < 2 ^ 31 ∧ σ 9 j = Z.2.2 j
theorem onZ_s {σ ρ : jm_S} {Z : Pg} {t n : Nat} (h : onZ σ Z t n) (h7 : ρ 7 = σ 7) (h8 : ρ 8 = σ 8) (h9 : ρ 9 = σ 9) : onZ ρ Z (t + 1) n := fun j h1 h2 => by
  rw [h7, h8, h9]; exact h j (by omega) h2
def CS_11 (G : Nat) (I : Nat → Bool) (Y : Sm) (σ : jm_S) : Prop := σ 11 11 = nI G ∧ ∀ g, g < G → σ 18 g = (if I g = true then Y.st g else 3) ∧ (I g = true → σ 19 g = Y.en g ∧ σ 20 g = Y.lg g)
theorem CR_CS_11 {G : Nat} {T : Nat → Int32} {I : Nat → Bool} {a s : Int32} {t : Nat} {X : Sm} {σ : jm_S} (h : CR_11 G T I a s t X σ) : CS_11 G I X σ := by
  obtain ⟨h1, h2, h3, h4, h5, h6, h7⟩ := h
  refine ⟨h1, fun g hg => ?_⟩
  obtain ⟨k1, k2, k3, k4, k5, k6, k7, k8, k9⟩ := h6 g hg
  exact ⟨k7, fun _ => ⟨k8, k9⟩⟩
theorem settle_loop_11 {G : Nat} (hG : G ≤ 12) {T : Nat → Int32} {I : Nat → Bool} {a s : Int32} {pl : Nat → Nat} {Z : Pg} {n : Nat} (hn : n ≤ 200) : ∀ (k t : Nat) (σ : jm_S), t + k = n → onZ σ Z t n → CR_11 G T I a s t (run G T I a s pl Z t) σ → ∃ ρ, jv 50 5 [some (.ref 11), some (.ref 6), some (.int (nI n)), some (.int (nI t))] [] σ = some (none, ρ) ∧ CS_11 G I (run G T I a s pl Z n) ρ ∧ (∀ c, c ∉ [11, 15, 16, 17, 18, 19, 20, 21, 22] → ρ c = σ c) := by
  intro k
  induction k with
  | zero =>
    intro t σ ht hZ h
    have e : t = n := by omega
    subst e
    rw [Batch_settle_11_6_L5, if_pos (nI_le (Nat.le_refl _) (by omega))]
    exact ⟨σ, rfl, CR_CS_11 h, fun _ _ => rfl⟩
  | succ k ih =>
    intro t σ ht hZ h
    have htn : t < n := by omega
    have r0 := Batch_settle_11_6_L5 (nI n) (nI t) σ
    rw [if_neg (nI_ge htn (by omega))] at r0
    have w := h.2.2.2.1
    have wl : whN G I (run G T I a s pl Z t).st ≤ G := cntN_le _ _
    by_cases c : whN G I (run G T I a s pl Z t).st = 0
    · rw [w, c, if_pos (by decide +kernel)] at r0
      have cs := CR_CS_11 h
      refine ⟨σ, r0, ⟨cs.1, fun g hg => ?_⟩, fun _ _ => rfl⟩
      obtain ⟨k1, k2⟩ := cs.2 g hg
      by_cases ci : I g = true
      · obtain ⟨m1, m2, m3⟩ := run_set G T I a s pl Z (show t ≤ n by omega) c g hg ci
        rw [m1, m2, m3]
        exact ⟨k1, k2⟩
      · rw [if_neg ci] at k1 ⊢
        exact ⟨k1, fun q => absurd q ci⟩
    · have nt : ¬ (nI t < 0 ∨ 200 ≤ t) := by rw [jbad2 (show t < 200 by omega) (by decide)]; exact id
      obtain ⟨z1, z2, z3, z4⟩ := hZ t (Nat.le_refl t) htn
      obtain ⟨τ, e1, e2, e3⟩ := second_11 hG (Wf_run G T I a s pl Z hG t) (Z.1 t) (Z.2.2 t) z3 σ h
      rw [w, if_neg (nI_nle (by omega) (by omega)), nI_clamp (show t < 2 ^ 31 by omega), if_neg nt, if_neg nt, if_neg nt, z1, z2, z4, e1, jbv_some, nI_1] at r0
      obtain ⟨ρ, g1, g2, g3⟩ := ih (t + 1) τ (by omega) (onZ_s hZ (e3 7 (by decide)) (e3 8 (by decide)) (e3 9 (by decide))) e2
      exact ⟨ρ, by rw [r0, g1], g2, fun c hc => by rw [g3 c hc, e3 c hc]⟩
theorem settle_11 {G : Nat} (hG : G ≤ 12) {T : Nat → Int32} {I : Nat → Bool} {a s : Int32} {pl : Nat → Nat} {Z : Pg} {n t : Nat} (hn : n ≤ 200) (ht : t ≤ n) (σ : jm_S) (hZ : onZ σ Z t n) (h : CR_11 G T I a s t (run G T I a s pl Z t) σ) : ∃ ρ, jc 50 [.ref 11, .ref 6, .int (nI n)] σ = some (none, ρ) ∧ CS_11 G I (run G T I a s pl Z n) ρ ∧ (∀ c, c ∉ [11, 15, 16, 17, 18, 19, 20, 21, 22] → ρ c = σ c) := by
  rw [Batch_settle_11_6_in, h.2.2.2.2.1]
  exact settle_loop_11 hG hn (n - t) t σ (by omega) hZ h
def CS_23 (G : Nat) (I : Nat → Bool) (Y : Sm) (σ : jm_S) : Prop := σ 23 11 = nI G ∧ ∀ g, g < G → σ 30 g = (if I g = true then Y.st g else 3) ∧ (I g = true → σ 31 g = Y.en g ∧ σ 32 g = Y.lg g)
theorem CR_CS_23 {G : Nat} {T : Nat → Int32} {I : Nat → Bool} {a s : Int32} {t : Nat} {X : Sm} {σ : jm_S} (h : CR_23 G T I a s t X σ) : CS_23 G I X σ := by
  obtain ⟨h1, h2, h3, h4, h5, h6, h7⟩ := h
  refine ⟨h1, fun g hg => ?_⟩
  obtain ⟨k1, k2, k3, k4, k5, k6, k7, k8, k9⟩ := h6 g hg
  exact ⟨k7, fun _ => ⟨k8, k9⟩⟩
theorem settle_loop_23 {G : Nat} (hG : G ≤ 12) {T : Nat → Int32} {I : Nat → Bool} {a s : Int32} {pl : Nat → Nat} {Z : Pg} {n : Nat} (hn : n ≤ 200) : ∀ (k t : Nat) (σ : jm_S), t + k = n → onZ σ Z t n → CR_23 G T I a s t (run G T I a s pl Z t) σ → ∃ ρ, jv 50 5 [some (.ref 23), some (.ref 6), some (.int (nI n)), some (.int (nI t))] [] σ = some (none, ρ) ∧ CS_23 G I (run G T I a s pl Z n) ρ ∧ (∀ c, c ∉ [23, 27, 28, 29, 30, 31, 32, 33, 34] → ρ c = σ c) := by
  intro k
  induction k with
  | zero =>
    intro t σ ht hZ h
    have e : t = n := by omega
    subst e
    rw [Batch_settle_23_6_L5, if_pos (nI_le (Nat.le_refl _) (by omega))]
    exact ⟨σ, rfl, CR_CS_23 h, fun _ _ => rfl⟩
  | succ k ih =>
    intro t σ ht hZ h
    have htn : t < n := by omega
    have r0 := Batch_settle_23_6_L5 (nI n) (nI t) σ
    rw [if_neg (nI_ge htn (by omega))] at r0
    have w := h.2.2.2.1
    have wl : whN G I (run G T I a s pl Z t).st ≤ G := cntN_le _ _
    by_cases c : whN G I (run G T I a s pl Z t).st = 0
    · rw [w, c, if_pos (by decide +kernel)] at r0
      have cs := CR_CS_23 h
      refine ⟨σ, r0, ⟨cs.1, fun g hg => ?_⟩, fun _ _ => rfl⟩
      obtain ⟨k1, k2⟩ := cs.2 g hg
      by_cases ci : I g = true
      · obtain ⟨m1, m2, m3⟩ := run_set G T I a s pl Z (show t ≤ n by omega) c g hg ci
        rw [m1, m2, m3]
        exact ⟨k1, k2⟩
      · rw [if_neg ci] at k1 ⊢
        exact ⟨k1, fun q => absurd q ci⟩
    · have nt : ¬ (nI t < 0 ∨ 200 ≤ t) := by rw [jbad2 (show t < 200 by omega) (by decide)]; exact id
      obtain ⟨z1, z2, z3, z4⟩ := hZ t (Nat.le_refl t) htn
      obtain ⟨τ, e1, e2, e3⟩ := second_23 hG (Wf_run G T I a s pl Z hG t) (Z.1 t) (Z.2.2 t) z3 σ h
      rw [w, if_neg (nI_nle (by omega) (by omega)), nI_clamp (show t < 2 ^ 31 by omega), if_neg nt, if_neg nt, if_neg nt, z1, z2, z4, e1, jbv_some, nI_1] at r0
      obtain ⟨ρ, g1, g2, g3⟩ := ih (t + 1) τ (by omega) (onZ_s hZ (e3 7 (by decide)) (e3 8 (by decide)) (e3 9 (by decide))) e2
      exact ⟨ρ, by rw [r0, g1], g2, fun c hc => by rw [g3 c hc, e3 c hc]⟩
theorem settle_23 {G : Nat} (hG : G ≤ 12) {T : Nat → Int32} {I : Nat → Bool} {a s : Int32} {pl : Nat → Nat} {Z : Pg} {n t : Nat} (hn : n ≤ 200) (ht : t ≤ n) (σ : jm_S) (hZ : onZ σ Z t n) (h : CR_23 G T I a s t (run G T I a s pl Z t) σ) : ∃ ρ, jc 50 [.ref 23, .ref 6, .int (nI n)] σ = some (none, ρ) ∧ CS_23 G I (run G T I a s pl Z n) ρ ∧ (∀ c, c ∉ [23, 27, 28, 29, 30, 31, 32, 33, 34] → ρ c = σ c) := by
  rw [Batch_settle_23_6_in, h.2.2.2.2.1]
  exact settle_loop_23 hG hn (n - t) t σ (by omega) hZ h
theorem goOn_loop {G : Nat} (hG : G ≤ 12) {T : Nat → Int32} {I : Nat → Bool} {a s : Int32} {pl : Nat → Nat} {Z : Pg} {n : Nat} (hn : n ≤ 200) : ∀ (k t : Nat) (σ : jm_S), t + k = n → onZ σ Z t n → CR_11 G T I a s t (run G T I a s pl Z t) σ → ∃ ρ, jv 40 5 [some (.ref 11), some (.ref 6), some (.int (nI n)), some (.int (nI t))] [] σ = some (none, ρ) ∧ CR_11 G T I a s n (run G T I a s pl Z n) ρ ∧ (∀ c, c ∉ [11, 15, 16, 17, 18, 19, 20, 21, 22] → ρ c = σ c) := by
  intro k
  induction k with
  | zero =>
    intro t σ ht hZ h
    have e : t = n := by omega
    subst e
    rw [Batch_goOn_11_6_L5, if_pos (nI_le (Nat.le_refl _) (by omega))]
    exact ⟨σ, rfl, h, fun _ _ => rfl⟩
  | succ k ih =>
    intro t σ ht hZ h
    have htn : t < n := by omega
    have r0 := Batch_goOn_11_6_L5 (nI n) (nI t) σ
    have nt : ¬ (nI t < 0 ∨ 200 ≤ t) := by rw [jbad2 (show t < 200 by omega) (by decide)]; exact id
    obtain ⟨z1, z2, z3, z4⟩ := hZ t (Nat.le_refl t) htn
    obtain ⟨τ, e1, e2, e3⟩ := second_11 hG (Wf_run G T I a s pl Z hG t) (Z.1 t) (Z.2.2 t) z3 σ h
    rw [if_neg (nI_ge htn (by omega)), nI_clamp (show t < 2 ^ 31 by omega), if_neg nt, if_neg nt, if_neg nt, z1, z2, z4, e1, jbv_some, nI_1] at r0
    obtain ⟨ρ, g1, g2, g3⟩ := ih (t + 1) τ (by omega) (onZ_s hZ (e3 7 (by decide)) (e3 8 (by decide)) (e3 9 (by decide))) e2
    exact ⟨ρ, by rw [r0, g1], g2, fun c hc => by rw [g3 c hc, e3 c hc]⟩
theorem goOn_11 {G : Nat} (hG : G ≤ 12) {T : Nat → Int32} {I : Nat → Bool} {a s : Int32} {pl : Nat → Nat} {Z : Pg} {n t : Nat} (hn : n ≤ 200) (ht : t ≤ n) (σ : jm_S) (hZ : onZ σ Z t n) (h : CR_11 G T I a s t (run G T I a s pl Z t) σ) : ∃ ρ, jc 40 [.ref 11, .ref 6, .int (nI n)] σ = some (none, ρ) ∧ CR_11 G T I a s n (run G T I a s pl Z n) ρ ∧ (∀ c, c ∉ [11, 15, 16, 17, 18, 19, 20, 21, 22] → ρ c = σ c) := by
  rw [Batch_goOn_11_6_in, h.2.2.2.2.1]
  exact goOn_loop hG hn (n - t) t σ (by omega) hZ h
abbrev evZ (x : Int32) : Pg := (fun _ => x, fun _ => 0, fun _ => 0)
theorem evenly_loop {G : Nat} (hG : G ≤ 12) {T : Nat → Int32} {I : Nat → Bool} {a s x : Int32} {pl : Nat → Nat} {n : Nat} (hn : n ≤ 200) : ∀ (k t : Nat) (σ : jm_S), t + k = n → CR_11 G T I a s t (run G T I a s pl (evZ x) t) σ → ∃ ρ, jv 66 5 [some (.ref 11), some (.int x), some (.int (nI n)), some (.int (nI t))] [] σ = some (none, ρ) ∧ CS_11 G I (run G T I a s pl (evZ x) n) ρ ∧ (∀ c, c ∉ [11, 15, 16, 17, 18, 19, 20, 21, 22] → ρ c = σ c) := by
  intro k
  induction k with
  | zero =>
    intro t σ ht h
    have e : t = n := by omega
    subst e
    rw [Batch_settleEvenly_11_L5, if_pos (nI_le (Nat.le_refl _) (by omega))]
    exact ⟨σ, rfl, CR_CS_11 h, fun _ _ => rfl⟩
  | succ k ih =>
    intro t σ ht h
    have htn : t < n := by omega
    have r0 := Batch_settleEvenly_11_L5 x (nI n) (nI t) σ
    rw [if_neg (nI_ge htn (by omega))] at r0
    have w := h.2.2.2.1
    have wl : whN G I (run G T I a s pl (evZ x) t).st ≤ G := cntN_le _ _
    by_cases c : whN G I (run G T I a s pl (evZ x) t).st = 0
    · rw [w, c, if_pos (by decide +kernel)] at r0
      have cs := CR_CS_11 h
      refine ⟨σ, r0, ⟨cs.1, fun g hg => ?_⟩, fun _ _ => rfl⟩
      obtain ⟨k1, k2⟩ := cs.2 g hg
      by_cases ci : I g = true
      · obtain ⟨m1, m2, m3⟩ := run_set G T I a s pl (evZ x) (show t ≤ n by omega) c g hg ci
        rw [m1, m2, m3]
        exact ⟨k1, k2⟩
      · rw [if_neg ci] at k1 ⊢
        exact ⟨k1, fun q => absurd q ci⟩
    · obtain ⟨τ, e1, e2, e3⟩ := second_11 hG (Wf_run G T I a s pl (evZ x) hG t) x 0 (k := 0) (by decide) σ h
      rw [nI_0] at e1
      rw [w, if_neg (nI_nle (by omega) (by omega)), e1, jbv_some, nI_1] at r0
      obtain ⟨ρ, g1, g2, g3⟩ := ih (t + 1) τ (by omega) e2
      exact ⟨ρ, by rw [r0, g1], g2, fun c hc => by rw [g3 c hc, e3 c hc]⟩
theorem evenly_11 {G : Nat} (hG : G ≤ 12) {T : Nat → Int32} {I : Nat → Bool} {a s x : Int32} {pl : Nat → Nat} {n : Nat} (hn : n ≤ 200) (σ : jm_S) (h : CR_11 G T I a s 0 (run G T I a s pl (evZ x) 0) σ) : ∃ ρ, jc 66 [.ref 11, .int x, .int (nI n)] σ = some (none, ρ) ∧ CS_11 G I (run G T I a s pl (evZ x) n) ρ ∧ (∀ c, c ∉ [11, 15, 16, 17, 18, 19, 20, 21, 22] → ρ c = σ c) := by
  rw [Batch_settleEvenly_11_in, h.2.2.2.2.1]
  exact evenly_loop hG hn n 0 σ (by omega) h
theorem cpy0 {f g : Nat → Int32} {n j : Nat} (h : j < n) : va_cpy f g 0 0 n j = f j := by
  rw [pk_cpy_in (by omega) (by omega)]; congr 1; omega
theorem become_23 {G : Nat} (hG : G ≤ 12) {T : Nat → Int32} {I : Nat → Bool} {a s : Int32} {t : Nat} {X : Sm} (σ : jm_S) (h : CR_11 G T I a s t X σ) : ∃ ρ, jc 76 [.ref 23, .ref 11] σ = some (none, ρ) ∧ CR_23 G T I a s t X ρ ∧ (∀ c, c ∉ [23, 24, 25, 26, 27, 28, 29, 30, 31, 32, 33, 34] → ρ c = σ c) := by
  obtain ⟨h1, h2, h3, h4, h5, h6, C, h7, h8⟩ := h
  have b01 : σ 11 16 = 0 ∨ σ 11 16 = 1 := h8.elim Or.inr (fun q => Or.inl q.1)
  have r0 := Batch_become_23_11_in σ
  rw [if_pos b01] at r0
  generalize hτ : (jm_row (jm_row (jm_row (jm_row (jm_row (jm_row (jm_row (jm_row (jm_row (jm_row (jm_row (jm_up (jm_up (jm_up (jm_up (jm_up (jm_up σ 23 11 (σ 11 11)) 23 12 (σ 11 12)) 23 13 (σ 11 13)) 23 14 (σ 11 14)) 23 15 (σ 11 15)) 23 16 (σ 11 16)) 24 (va_cpy (σ 12) (σ 24) 0 0 12)) 25 (va_cpy (σ 13) (σ 25) 0 0 12)) 26 (va_cpy (σ 14) (σ 26) 0 0 12)) 27 (va_cpy (σ 15) (σ 27) 0 0 12)) 28 (va_cpy (σ 16) (σ 28) 0 0 12)) 29 (va_cpy (σ 17) (σ 29) 0 0 12)) 30 (va_cpy (σ 18) (σ 30) 0 0 12)) 31 (va_cpy (σ 19) (σ 31) 0 0 12)) 32 (va_cpy (σ 20) (σ 32) 0 0 12)) 33 (va_cpy (σ 21) (σ 33) 0 0 48)) 34 (va_cpy (σ 22) (σ 34) 0 0 4)) = ρ at r0
  have f23 : ∀ k, k ∈ [11, 12, 13, 14, 15, 16] → ρ 23 k = σ 11 k := by
    intro k hk
    rw [← hτ]
    rw [jrow_n _ _ (by decide), jrow_n _ _ (by decide), jrow_n _ _ (by decide), jrow_n _ _ (by decide), jrow_n _ _ (by decide), jrow_n _ _ (by decide), jrow_n _ _ (by decide), jrow_n _ _ (by decide), jrow_n _ _ (by decide), jrow_n _ _ (by decide), jrow_n _ _ (by decide)]
    simp only [jup_s, jupd]
    simp only [List.mem_cons, List.not_mem_nil, or_false] at hk
    rcases hk with e | e | e | e | e | e <;> subst e <;> rfl
  have fa : ρ 24 = va_cpy (σ 12) (σ 24) 0 0 12 ∧ ρ 25 = va_cpy (σ 13) (σ 25) 0 0 12 ∧ ρ 26 = va_cpy (σ 14) (σ 26) 0 0 12 ∧ ρ 27 = va_cpy (σ 15) (σ 27) 0 0 12 ∧ ρ 28 = va_cpy (σ 16) (σ 28) 0 0 12 ∧ ρ 29 = va_cpy (σ 17) (σ 29) 0 0 12 ∧ ρ 30 = va_cpy (σ 18) (σ 30) 0 0 12 ∧ ρ 31 = va_cpy (σ 19) (σ 31) 0 0 12 ∧ ρ 32 = va_cpy (σ 20) (σ 32) 0 0 12 ∧ ρ 33 = va_cpy (σ 21) (σ 33) 0 0 48 ∧ ρ 34 = va_cpy (σ 22) (σ 34) 0 0 4 := by
    rw [← hτ]
    refine ⟨?_, ?_, ?_, ?_, ?_, ?_, ?_, ?_, ?_, ?_, ?_⟩
    all_goals (repeat (first | rw [jrow_s] | rw [jrow_n _ _ (by omega)]))
  obtain ⟨a24, a25, a26, a27, a28, a29, a30, a31, a32, a33, a34⟩ := fa
  refine ⟨ρ, r0, ⟨by rw [f23 11 (by decide)]; exact h1, by rw [f23 12 (by decide)]; exact h2, by rw [f23 13 (by decide)]; exact h3, by rw [f23 14 (by decide)]; exact h4, by rw [f23 15 (by decide)]; exact h5, fun g hg => ?_, C, fun p hp => ⟨RW_fr (rc := 33) (hc := 34) (σ := fun c => if c = 33 then σ 21 else σ 22) (h7 p hp).1 ?_ (fun i hi => ?_), (h7 p hp).2⟩, by rw [f23 16 (by decide)]; exact h8⟩, fun c hc => ?_⟩
  · rw [a24, a25, a26, a27, a28, a29, a30, a31, a32, cpy0 (show g < 12 by omega), cpy0 (show g < 12 by omega), cpy0 (show g < 12 by omega), cpy0 (show g < 12 by omega), cpy0 (show g < 12 by omega), cpy0 (show g < 12 by omega), cpy0 (show g < 12 by omega), cpy0 (show g < 12 by omega), cpy0 (show g < 12 by omega)]
    exact h6 g hg
  · rw [a34, cpy0 hp]; rfl
  · rw [a33, cpy0 (show 12 * p + i < 48 by omega)]; rfl
  · simp only [List.mem_cons, List.not_mem_nil, or_false, not_or] at hc
    rw [← hτ, jrow_n _ _ (by omega), jrow_n _ _ (by omega), jrow_n _ _ (by omega), jrow_n _ _ (by omega), jrow_n _ _ (by omega), jrow_n _ _ (by omega), jrow_n _ _ (by omega), jrow_n _ _ (by omega), jrow_n _ _ (by omega), jrow_n _ _ (by omega), jrow_n _ _ (by omega), jup_n _ _ _ (by omega), jup_n _ _ _ (by omega), jup_n _ _ _ (by omega), jup_n _ _ _ (by omega), jup_n _ _ _ (by omega), jup_n _ _ _ (by omega)]
