/-! ===== a batch: one second, whole ===== -/
theorem s1W_congr {G : Nat} {I : Nat → Bool} {X : Sm} (hX : Wf G I X) (h : Int32) (k : Nat) (q : Int32) (w : Nat → Int32) (hw : ∀ g, g < G → w g = X.wm g) : ∀ g, g < G → warmL q (rotN k (X.rw 3)) h (warmL q (rotN k (X.rw 2)) h (warmL q (rotN k (X.rw 1)) h (warmL q (rotN k (X.rw 0)) h w))) g = s1W h k q X g :=
  warmL_congr q _ _ _ _ (fun g hg => (s1R_mem hX (p := 3) hg).1) (warmL_congr q _ _ _ _ (fun g hg => (s1R_mem hX (p := 2) hg).1) (warmL_congr q _ _ _ _ (fun g hg => (s1R_mem hX (p := 1) hg).1) (warmL_congr q _ _ _ _ (fun g hg => (s1R_mem hX (p := 0) hg).1) hw)))
theorem al_ok {I : Nat → Bool} {X : Sm} {g : Nat} {v : Int32} (h : X.st g = 0 ∨ X.st g = 1 ∨ X.st g = 2) (hv : v = (if I g = true then X.st g else 3)) : ((I g && decide (¬ X.st g = 1)) = true ↔ (v = 0 ∨ v = 2)) := by
  by_cases c : I g = true
  · rw [if_pos c] at hv
    rw [c, hv]
    rcases h with e | e | e <;> rw [e] <;> decide
  · rw [if_neg c] at hv
    have c' : I g = false := by cases q : I g <;> simp_all
    rw [c', hv, Bool.false_and]; decide
theorem second_11 {G : Nat} (hG : G ≤ 12) {T : Nat → Int32} {I : Nat → Bool} {a s : Int32} {t : Nat} {X : Sm} (hX : Wf G I X) (h lid : Int32) {k : Nat} (hk : k < 2 ^ 31) (σ : jm_S) (hR : CR_11 G T I a s t X σ) : ∃ ρ, jc 41 [.ref 11, .int h, .int (nI k), .int lid] σ = some (none, ρ) ∧ CR_11 G T I a s (t + 1) (stp G T I a s h k (qq lid) t X) ρ ∧ (∀ c, c ∉ [11, 15, 16, 17, 18, 19, 20, 21, 22] → ρ c = σ c) := by
  obtain ⟨h1, h2, h3, h4, h5, h6, C, h7, h8⟩ := hR
  have start : ∃ τ, jc 41 [.ref 11, .int h, .int (nI k), .int lid] σ = jv 41 14 [some (.ref 11), some (.int h), some (.int (nI k)), some (.int lid), some (.int (0 : Int32)), none] [] τ ∧ (∀ p, p < 4 → RW τ 21 22 p (X.rw p)) ∧ τ 11 16 = 0 ∧ (∀ j, j ≠ 16 → τ 11 j = σ 11 j) ∧ (∀ c, c ≠ 21 → c ≠ 22 → c ≠ 11 → τ c = σ c) := by
    rw [Batch_second_11_in]
    by_cases c : σ 11 16 = 0
    · rw [if_pos c]
      refine ⟨σ, rfl, fun p hp => ?_, c, fun _ _ => rfl, fun _ _ _ _ => rfl⟩
      have := (h7 p hp).1
      rw [(h8.resolve_left (by rw [c]; decide)).2 p hp] at this
      exact this
    · rw [if_neg c, Batch_clearRows_11_in]
      obtain ⟨τ, e1, e2, e3, e4, e5⟩ := clearRows_11 (fun g => I g && decide (¬ X.st g = 1)) C 4 0 none none none none σ (by omega) (fun j hj _ => ⟨(h7 j hj).1, fun g hg => by
        have hgG := (h7 j hj).2.1 g hg
        exact ⟨by omega, al_ok (hX.1 g) (h6 g hgG).2.2.2.2.2.2.1⟩⟩) (fun j hj => by omega)
      rw [nI_0] at e1
      rw [e1, jbv_some]
      refine ⟨τ, rfl, fun p hp => ?_, e5, e4, e3⟩
      have := e2 p hp
      rw [(h7 p hp).2.2] at this
      exact this
  obtain ⟨τ, a1, a2, a3, a4, a5⟩ := start
  obtain ⟨τ1, u, b1, b2, b3, b4⟩ := places_11 h lid hk X.rw τ a2
  have W : ∀ g, g < G → τ1 15 g = s1W h k (qq lid) X g := by
    intro g hg
    rw [b3]
    refine s1W_congr hX h k (qq lid) _ (fun j hj => ?_) g hg
    rw [a5 15 (by decide) (by decide) (by decide)]
    exact (h6 j hj).2.2.2.1
  have tb : ∀ j, j ≠ 16 → τ1 11 j = σ 11 j := fun j hj => by rw [b4 11 (by decide) (by decide), a4 j hj]
  have tc : ∀ c, c ≠ 21 → c ≠ 22 → c ≠ 11 → c ≠ 15 → τ1 c = σ c := fun c q1 q2 q3 q4 => by rw [b4 c q1 q4, a5 c q1 q2 q3]
  have sl0 : SL_11 G T I a s t (s1W h k (qq lid) X) X 0 τ1 := by
    refine ⟨by rw [tb 11 (by decide)]; exact h1, by rw [tb 12 (by decide)]; exact h2, by rw [tb 13 (by decide)]; exact h3, ?_, by rw [tb 15 (by decide)]; exact h5, fun g hg => ?_, Or.inr ⟨by rw [b4 11 (by decide) (by decide)]; exact a3, fun g hg => by omega⟩⟩
    · rw [tb 14 (by decide), h4]; rfl
    · obtain ⟨k1, k2, k3, k4, k5, k6, k7, k8, k9⟩ := h6 g hg
      have nq : ¬ (g < 0 ∧ act G I X g) := fun q => by omega
      simp only [if_neg nq]
      rw [W g hg, tc 12 (by decide) (by decide) (by decide) (by decide), tc 13 (by decide) (by decide) (by decide) (by decide), tc 14 (by decide) (by decide) (by decide) (by decide), tc 16 (by decide) (by decide) (by decide) (by decide), tc 17 (by decide) (by decide) (by decide) (by decide), tc 18 (by decide) (by decide) (by decide) (by decide), tc 19 (by decide) (by decide) (by decide) (by decide), tc 20 (by decide) (by decide) (by decide) (by decide)]
      exact ⟨k1, k2, k3, rfl, k5, k6, k7, k8, k9⟩
  obtain ⟨ρ, c1, c2, c3⟩ := SL_loop_11 hG u h (nI k) lid G 0 τ1 (by omega) sl0
  rw [nI_0] at c1
  obtain ⟨d1, d2, d3, d4, d5, d6, d7⟩ := c2
  refine ⟨jm_up ρ 11 15 (nI (t + 1)), by rw [a1, b1, c1], ⟨?_, ?_, ?_, ?_, ?_, fun g hg => ?_, s1R k X, fun p hp => ⟨?_, ?_, ?_⟩, ?_⟩, fun c hc => ?_⟩
  · rw [jup_s, jupd, if_neg (by decide)]; exact d1
  · rw [jup_s, jupd, if_neg (by decide)]; exact d2
  · rw [jup_s, jupd, if_neg (by decide)]; exact d3
  · rw [jup_s, jupd, if_neg (by decide), d4]
    unfold whN
    congr 1
    refine cntN_congr (fun j hj => ?_)
    show (I j && decide ((if j < G then stS G T I a s (s1W h k (qq lid) X) X j else X.st j) = 0)) = (I j && decide (stS G T I a s (s1W h k (qq lid) X) X j = 0))
    rw [if_pos hj]
  · rw [jup_s, jupd, if_pos rfl]
  · obtain ⟨k1, k2, k3, k4, k5, k6, k7, k8, k9⟩ := d6 g hg
    have e : (g < G ∧ act G I X g) = act G I X g := propext ⟨fun q => q.2, fun q => ⟨hg, q⟩⟩
    simp only [e] at k5 k6 k7 k8 k9
    rw [jup_n _ _ _ (by decide), jup_n _ _ _ (by decide), jup_n _ _ _ (by decide), jup_n _ _ _ (by decide), jup_n _ _ _ (by decide), jup_n _ _ _ (by decide), jup_n _ _ _ (by decide), jup_n _ _ _ (by decide), jup_n _ _ _ (by decide)]
    exact ⟨k1, k2, k3, k4, k5, k6, k7, k8, k9⟩
  · exact RW_fr (b2 p hp) (by rw [jup_n _ _ _ (by decide), c3 22 (by decide)]) (fun i _ => by rw [jup_n _ _ _ (by decide), c3 21 (by decide)])
  · exact fun g hg => (s1R_mem hX hg).1
  · refine List.filter_congr (fun g hg => ?_)
    rw [(s1R_mem hX hg).2.1, Bool.true_and]; rfl
  · rw [jup_s, jupd, if_neg (by decide)]
    refine d7.imp id (fun q => ⟨q.1, fun p hp => ?_⟩)
    refine (List.filter_eq_self.mpr (fun g hg => ?_)).symm
    obtain ⟨m1, m2, m3⟩ := s1R_mem hX hg
    refine decide_eq_true ?_
    unfold stS
    by_cases cc : act G I X g
    · rw [if_pos cc]; exact q.2 g m1 cc
    · rw [if_neg cc]; exact m3
  · simp only [List.mem_cons, List.not_mem_nil, or_false, not_or] at hc
    rw [jup_n _ _ _ (by omega), c3 c (by simp; omega), tc c (by omega) (by omega) (by omega) (by omega)]
theorem second_23 {G : Nat} (hG : G ≤ 12) {T : Nat → Int32} {I : Nat → Bool} {a s : Int32} {t : Nat} {X : Sm} (hX : Wf G I X) (h lid : Int32) {k : Nat} (hk : k < 2 ^ 31) (σ : jm_S) (hR : CR_23 G T I a s t X σ) : ∃ ρ, jc 41 [.ref 23, .int h, .int (nI k), .int lid] σ = some (none, ρ) ∧ CR_23 G T I a s (t + 1) (stp G T I a s h k (qq lid) t X) ρ ∧ (∀ c, c ∉ [23, 27, 28, 29, 30, 31, 32, 33, 34] → ρ c = σ c) := by
  obtain ⟨h1, h2, h3, h4, h5, h6, C, h7, h8⟩ := hR
  have start : ∃ τ, jc 41 [.ref 23, .int h, .int (nI k), .int lid] σ = jv 41 14 [some (.ref 23), some (.int h), some (.int (nI k)), some (.int lid), some (.int (0 : Int32)), none] [] τ ∧ (∀ p, p < 4 → RW τ 33 34 p (X.rw p)) ∧ τ 23 16 = 0 ∧ (∀ j, j ≠ 16 → τ 23 j = σ 23 j) ∧ (∀ c, c ≠ 33 → c ≠ 34 → c ≠ 23 → τ c = σ c) := by
    rw [Batch_second_23_in]
    by_cases c : σ 23 16 = 0
    · rw [if_pos c]
      refine ⟨σ, rfl, fun p hp => ?_, c, fun _ _ => rfl, fun _ _ _ _ => rfl⟩
      have := (h7 p hp).1
      rw [(h8.resolve_left (by rw [c]; decide)).2 p hp] at this
      exact this
    · rw [if_neg c, Batch_clearRows_23_in]
      obtain ⟨τ, e1, e2, e3, e4, e5⟩ := clearRows_23 (fun g => I g && decide (¬ X.st g = 1)) C 4 0 none none none none σ (by omega) (fun j hj _ => ⟨(h7 j hj).1, fun g hg => by
        have hgG := (h7 j hj).2.1 g hg
        exact ⟨by omega, al_ok (hX.1 g) (h6 g hgG).2.2.2.2.2.2.1⟩⟩) (fun j hj => by omega)
      rw [nI_0] at e1
      rw [e1, jbv_some]
      refine ⟨τ, rfl, fun p hp => ?_, e5, e4, e3⟩
      have := e2 p hp
      rw [(h7 p hp).2.2] at this
      exact this
  obtain ⟨τ, a1, a2, a3, a4, a5⟩ := start
  obtain ⟨τ1, u, b1, b2, b3, b4⟩ := places_23 h lid hk X.rw τ a2
  have W : ∀ g, g < G → τ1 27 g = s1W h k (qq lid) X g := by
    intro g hg
    rw [b3]
    refine s1W_congr hX h k (qq lid) _ (fun j hj => ?_) g hg
    rw [a5 27 (by decide) (by decide) (by decide)]
    exact (h6 j hj).2.2.2.1
  have tb : ∀ j, j ≠ 16 → τ1 23 j = σ 23 j := fun j hj => by rw [b4 23 (by decide) (by decide), a4 j hj]
  have tc : ∀ c, c ≠ 33 → c ≠ 34 → c ≠ 23 → c ≠ 27 → τ1 c = σ c := fun c q1 q2 q3 q4 => by rw [b4 c q1 q4, a5 c q1 q2 q3]
  have sl0 : SL_23 G T I a s t (s1W h k (qq lid) X) X 0 τ1 := by
    refine ⟨by rw [tb 11 (by decide)]; exact h1, by rw [tb 12 (by decide)]; exact h2, by rw [tb 13 (by decide)]; exact h3, ?_, by rw [tb 15 (by decide)]; exact h5, fun g hg => ?_, Or.inr ⟨by rw [b4 23 (by decide) (by decide)]; exact a3, fun g hg => by omega⟩⟩
    · rw [tb 14 (by decide), h4]; rfl
    · obtain ⟨k1, k2, k3, k4, k5, k6, k7, k8, k9⟩ := h6 g hg
      have nq : ¬ (g < 0 ∧ act G I X g) := fun q => by omega
      simp only [if_neg nq]
      rw [W g hg, tc 24 (by decide) (by decide) (by decide) (by decide), tc 25 (by decide) (by decide) (by decide) (by decide), tc 26 (by decide) (by decide) (by decide) (by decide), tc 28 (by decide) (by decide) (by decide) (by decide), tc 29 (by decide) (by decide) (by decide) (by decide), tc 30 (by decide) (by decide) (by decide) (by decide), tc 31 (by decide) (by decide) (by decide) (by decide), tc 32 (by decide) (by decide) (by decide) (by decide)]
      exact ⟨k1, k2, k3, rfl, k5, k6, k7, k8, k9⟩
  obtain ⟨ρ, c1, c2, c3⟩ := SL_loop_23 hG u h (nI k) lid G 0 τ1 (by omega) sl0
  rw [nI_0] at c1
  obtain ⟨d1, d2, d3, d4, d5, d6, d7⟩ := c2
  refine ⟨jm_up ρ 23 15 (nI (t + 1)), by rw [a1, b1, c1], ⟨?_, ?_, ?_, ?_, ?_, fun g hg => ?_, s1R k X, fun p hp => ⟨?_, ?_, ?_⟩, ?_⟩, fun c hc => ?_⟩
  · rw [jup_s, jupd, if_neg (by decide)]; exact d1
  · rw [jup_s, jupd, if_neg (by decide)]; exact d2
  · rw [jup_s, jupd, if_neg (by decide)]; exact d3
  · rw [jup_s, jupd, if_neg (by decide), d4]
    unfold whN
    congr 1
    refine cntN_congr (fun j hj => ?_)
    show (I j && decide ((if j < G then stS G T I a s (s1W h k (qq lid) X) X j else X.st j) = 0)) = (I j && decide (stS G T I a s (s1W h k (qq lid) X) X j = 0))
    rw [if_pos hj]
  · rw [jup_s, jupd, if_pos rfl]
  · obtain ⟨k1, k2, k3, k4, k5, k6, k7, k8, k9⟩ := d6 g hg
    have e : (g < G ∧ act G I X g) = act G I X g := propext ⟨fun q => q.2, fun q => ⟨hg, q⟩⟩
    simp only [e] at k5 k6 k7 k8 k9
    rw [jup_n _ _ _ (by decide), jup_n _ _ _ (by decide), jup_n _ _ _ (by decide), jup_n _ _ _ (by decide), jup_n _ _ _ (by decide), jup_n _ _ _ (by decide), jup_n _ _ _ (by decide), jup_n _ _ _ (by decide), jup_n _ _ _ (by decide)]
    exact ⟨k1, k2, k3, k4, k5, k6, k7, k8, k9⟩
  · exact RW_fr (b2 p hp) (by rw [jup_n _ _ _ (by decide), c3 34 (by decide)]) (fun i _ => by rw [jup_n _ _ _ (by decide), c3 33 (by decide)])
  · exact fun g hg => (s1R_mem hX hg).1
  · refine List.filter_congr (fun g hg => ?_)
    rw [(s1R_mem hX hg).2.1, Bool.true_and]; rfl
  · rw [jup_s, jupd, if_neg (by decide)]
    refine d7.imp id (fun q => ⟨q.1, fun p hp => ?_⟩)
    refine (List.filter_eq_self.mpr (fun g hg => ?_)).symm
    obtain ⟨m1, m2, m3⟩ := s1R_mem hX hg
    refine decide_eq_true ?_
    unfold stS
    by_cases cc : act G I X g
    · rw [if_pos cc]; exact q.2 g m1 cc
    · rw [if_neg cc]; exact m3
  · simp only [List.mem_cons, List.not_mem_nil, or_false, not_or] at hc
    rw [jup_n _ _ _ (by omega), c3 c (by simp; omega), tc c (by omega) (by omega) (by omega) (by omega)]
