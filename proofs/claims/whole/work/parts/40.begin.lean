/-! ===== the model begins ===== -/
theorem row_push {I : Nat → Bool} {pl : Nat → Nat} {g rc hc : Nat} (hg : g < 12) (hI : I g = true) (hp : pl g < 4) {σ ρ : jm_S} (h : ∀ p, p < 4 → RW σ rc hc p (rowOf I pl g p)) (h1 : ρ rc = upd (σ rc) (12 * pl g + (rowOf I pl g (pl g)).length) (nI g)) (h2 : ρ hc = upd (σ hc) (pl g) (nI ((rowOf I pl g (pl g)).length + 1))) : ∀ p, p < 4 → RW ρ rc hc p (rowOf I pl (g + 1) p) := by
  have hl := rowOf_len I pl g (pl g)
  intro p hp2
  rw [rowOf_s]
  by_cases c : pl g = p
  · subst c
    rw [if_pos ⟨hI, rfl⟩]
    refine RW_add (h (pl g) hp) (by omega) hg ?_ (fun i hi => ?_)
    · rw [h2, jupd, if_pos rfl]
    · rw [h1, jupd]
      by_cases ci : i = (rowOf I pl g (pl g)).length
      · rw [if_pos (by omega), if_pos ci]
      · rw [if_neg (by omega), if_neg ci]
  · rw [if_neg (fun q => c q.2)]
    refine RW_fr (h p hp2) ?_ (fun i hi => ?_)
    · rw [h2, jupd, if_neg (fun e => c e.symm)]
    · rw [h1, jupd, if_neg (by omega)]
def DM (σ : jm_S) (G : Nat) (T : Nat → Int32) (pl : Nat → Nat) : Prop := σ 61 5 = nI G ∧ (∀ g, g < G → σ 66 g = nI (pl g) ∧ pl g < 4) ∧ (∀ j, j < 4 * G → σ 67 j = T j)
def BI (T : Nat → Int32) (I : Nat → Bool) (pl : Nat → Nat) (i : Nat) (σ : jm_S) : Prop :=
  (∀ g, g < i → σ 76 g = 0 ∧ σ 77 g = T (4 * g) ∧ σ 78 g = 0 ∧ σ 79 g = 0 ∧ σ 80 g = -1 ∧ σ 81 g = 0) ∧
  (∀ p, p < 4 → RW σ 82 83 p (rowOf I pl i p))
theorem beg_l1 (σ : jm_S) : jv 152 2 [some (.ref 61), some (.int (0 : Int32)), none] [] σ = jv 152 22 [some (.ref 61), some (.int (0 : Int32)), none] [] (jm_up (jm_up (jm_up (jm_up σ 83 0 0) 83 1 0) 83 2 0) 83 3 0) := by
  rw [M_begins_L2, if_neg (by decide +kernel), if_neg (by rw [jbd0 4 (by decide)]; exact id), jn0, show (0 : Int32) + 1 = 1 by decide +kernel]
  rw [M_begins_L2, if_neg (by decide +kernel), if_neg (by rw [jbd1 4 (by decide)]; exact id), jn1, show (1 : Int32) + 1 = 2 by decide +kernel]
  rw [M_begins_L2, if_neg (by decide +kernel), if_neg (by rw [jbd2 4 (by decide)]; exact id), jn2, show (2 : Int32) + 1 = 3 by decide +kernel]
  rw [M_begins_L2, if_neg (by decide +kernel), if_neg (by rw [jbd3 4 (by decide)]; exact id), jn3, show (3 : Int32) + 1 = 4 by decide +kernel]
  rw [M_begins_L2, if_pos (by decide +kernel)]
theorem beg_loop {G : Nat} (hG : G ≤ 12) {T : Nat → Int32} {I : Nat → Bool} {pl : Nat → Nat} : ∀ (k i : Nat) (u : Option Value) (σ : jm_S), i + k = G → DM σ G T pl → (∀ g, g < G → (inB (σ 61 24) g ↔ I g = true)) → BI T I pl i σ → ∃ ρ, jv 152 22 [some (.ref 61), some (.int (nI i)), u] [] σ = some (none, ρ) ∧ BI T I pl G ρ ∧ (∀ c, c ∉ [76, 77, 78, 79, 80, 81, 82, 83] → ρ c = σ c) := by
  intro k
  induction k with
  | zero =>
    intro i u σ hi hD hI h
    have e : i = G := by omega
    subst e
    rw [M_begins_L22, hD.1, if_pos (nI_le (Nat.le_refl _) (by omega))]
    exact ⟨σ, rfl, h, fun _ _ => rfl⟩
  | succ k ih =>
    intro i u σ hi hD hI h
    have hD0 := hD
    obtain ⟨h7, h8⟩ := h
    obtain ⟨d1, d2, d3⟩ := hD
    have hiG : i < G := by omega
    obtain ⟨p1, p2⟩ := d2 i hiG
    have hl := rowOf_len I pl i (pl i)
    have ng : ¬ (nI i < 0 ∨ 12 ≤ i) := by rw [jbad2 (show i < 12 by omega) (by decide)]; exact id
    have n4 : ¬ (nI (pl i) < 0 ∨ 4 ≤ pl i) := by rw [jbad2 p2 (by decide)]; exact id
    have r0 := M_begins_L22 (nI i) u σ
    rw [d1, if_neg (nI_ge hiG (by omega)), nI_clamp (show i < 2 ^ 31 by omega), if_neg ng, j4n0, nI_clamp (show 4 * i < 2 ^ 31 by omega), if_neg (by rw [jbad2 (show 4 * i < 48 by omega) (by decide)]; exact id), if_neg ng, if_neg ng, if_neg ng, if_neg ng, if_neg ng, d3 (4 * i) (by omega)] at r0
    generalize hτ : jm_up (jm_up (jm_up (jm_up (jm_up (jm_up σ 76 i 0) 77 i (T (4 * i))) 78 i 0) 79 i 0) 80 i (-1)) 81 i 0 = τ at r0
    have fr : ∀ c, c ∉ [76, 77, 78, 79, 80, 81] → τ c = σ c := by
      intro c hc
      simp only [List.mem_cons, List.not_mem_nil, or_false, not_or] at hc
      rw [← hτ, jup_n _ _ _ (by omega), jup_n _ _ _ (by omega), jup_n _ _ _ (by omega), jup_n _ _ _ (by omega), jup_n _ _ _ (by omega), jup_n _ _ _ (by omega)]
    have new : τ 76 i = 0 ∧ τ 77 i = T (4 * i) ∧ τ 78 i = 0 ∧ τ 79 i = 0 ∧ τ 80 i = -1 ∧ τ 81 i = 0 := by
      rw [← hτ]
      refine ⟨?_, ?_, ?_, ?_, ?_, ?_⟩
      all_goals (repeat (first | rw [jup_s] | rw [jrow_s] | rw [jup_n _ _ _ (by omega)] | rw [jrow_n _ _ (by omega)]))
      all_goals rw [jupd, if_pos rfl]
    have old : ∀ g, g ≠ i → τ 76 g = σ 76 g ∧ τ 77 g = σ 77 g ∧ τ 78 g = σ 78 g ∧ τ 79 g = σ 79 g ∧ τ 80 g = σ 80 g ∧ τ 81 g = σ 81 g := by
      intro g hg
      rw [← hτ]
      refine ⟨?_, ?_, ?_, ?_, ?_, ?_⟩
      all_goals (repeat (first | rw [jup_s] | rw [jrow_s] | rw [jup_n _ _ _ (by omega)] | rw [jrow_n _ _ (by omega)]))
      all_goals rw [jupd, if_neg hg]
      all_goals (repeat (first | rw [jup_s] | rw [jrow_s] | rw [jup_n _ _ _ (by omega)] | rw [jrow_n _ _ (by omega)]))
    have bi : ∀ g, g < i + 1 → τ 76 g = 0 ∧ τ 77 g = T (4 * g) ∧ τ 78 g = 0 ∧ τ 79 g = 0 ∧ τ 80 g = -1 ∧ τ 81 g = 0 := by
      intro g hg
      by_cases cg : g = i
      · rw [cg]; exact new
      · obtain ⟨o1, o2, o3, o4, o5, o6⟩ := old g cg
        rw [o1, o2, o3, o4, o5, o6]; exact h7 g (by omega)
    rw [M_isIn, jbi_some, fr 61 (by decide)] at r0
    by_cases c : I i = true
    · rw [if_pos ((hI i hiG).mpr c), if_neg (by decide), if_neg ng, fr 66 (by decide), p1, nI_clamp (show pl i < 2 ^ 31 by omega), if_neg n4, fr 83 (by decide), (h8 (pl i) p2).1, j12b, nI_add, nI_clamp (show 12 * pl i + (rowOf I pl i (pl i)).length < 2 ^ 31 by omega), if_neg (by rw [jbad2 (show 12 * pl i + (rowOf I pl i (pl i)).length < 48 by omega) (by decide)]; exact id), if_neg n4, if_neg n4, nI_1, nI_1] at r0
      have fr2 : ∀ c, c ∉ [76, 77, 78, 79, 80, 81, 82, 83] → (jm_up (jm_up τ 82 (12 * pl i + (rowOf I pl i (pl i)).length) (nI i)) 83 (pl i) (nI ((rowOf I pl i (pl i)).length + 1))) c = σ c := by
        intro c hc
        simp only [List.mem_cons, List.not_mem_nil, or_false, not_or] at hc
        rw [jup_n _ _ _ (by omega), jup_n _ _ _ (by omega), fr c (by simp; omega)]
      obtain ⟨ρ, g1, g2, g3⟩ := ih (i + 1) (some (.int (nI (pl i)))) (jm_up (jm_up τ 82 (12 * pl i + (rowOf I pl i (pl i)).length) (nI i)) 83 (pl i) (nI ((rowOf I pl i (pl i)).length + 1))) (by omega) (by rw [DM, fr2 61 (by decide), fr2 66 (by decide), fr2 67 (by decide)]; exact hD0) (by rw [fr2 61 (by decide)]; exact hI) ⟨fun g hg => by
          have := bi g hg
          rw [jup_n _ _ _ (by decide), jup_n _ _ _ (by decide), jup_n _ _ _ (by decide), jup_n _ _ _ (by decide), jup_n _ _ _ (by decide), jup_n _ _ _ (by decide), jup_n _ _ _ (by decide), jup_n _ _ _ (by decide), jup_n _ _ _ (by decide), jup_n _ _ _ (by decide), jup_n _ _ _ (by decide), jup_n _ _ _ (by decide)]
          exact this, row_push (show i < 12 by omega) c p2 h8 (by rw [jup_n _ _ _ (by decide), jup_s, fr 82 (by decide)]) (by rw [jup_s, jup_n _ _ _ (by decide), fr 83 (by decide)])⟩
      exact ⟨ρ, by rw [r0, g1], g2, fun c hc => by rw [g3 c hc, fr2 c hc]⟩
    · rw [if_neg (fun q => c ((hI i hiG).mp q)), if_pos rfl, nI_1] at r0
      obtain ⟨ρ, g1, g2, g3⟩ := ih (i + 1) u τ (by omega) (by rw [DM, fr 61 (by decide), fr 66 (by decide), fr 67 (by decide)]; exact hD0) (by rw [fr 61 (by decide)]; exact hI) ⟨bi, fun p hp => by
          rw [rowOf_s, if_neg (fun q => c q.1)]
          exact RW_fr (h8 p hp) (by rw [fr 83 (by decide)]) (fun j _ => by rw [fr 82 (by decide)])⟩
      refine ⟨ρ, by rw [r0, g1], g2, fun c hc => ?_⟩
      rw [g3 c hc]
      simp only [List.mem_cons, List.not_mem_nil, or_false, not_or] at hc
      exact fr c (by simp; omega)
theorem M_begins {G : Nat} (hG : G ≤ 12) {T : Nat → Int32} {I : Nat → Bool} {pl : Nat → Nat} (σ : jm_S) (hD : DM σ G T pl) (hI : ∀ g, g < G → (inB (σ 61 24) g ↔ I g = true)) : ∃ ρ, jc 152 [.ref 61] σ = some (none, ρ) ∧ MR G T I (σ 61 20) (σ 61 21) (beg G T I pl) ρ ∧ (∀ c, c ∉ [76, 77, 78, 79, 80, 81, 82, 83] → ρ c = σ c) := by
  have r0 := M_begins_in σ
  rw [beg_l1] at r0
  have fr : ∀ c, c ≠ 83 → (jm_up (jm_up (jm_up (jm_up σ 83 0 0) 83 1 0) 83 2 0) 83 3 0) c = σ c := fun c hc => by rw [jup_n _ _ _ hc, jup_n _ _ _ hc, jup_n _ _ _ hc, jup_n _ _ _ hc]
  have z : ∀ p, p < 4 → (jm_up (jm_up (jm_up (jm_up σ 83 0 0) 83 1 0) 83 2 0) 83 3 0) 83 p = 0 := by
    intro p hp
    rw [jup_s, jupd]
    by_cases c3 : p = 3
    · rw [if_pos c3]
    · rw [if_neg c3, jup_s, jupd]
      by_cases c2 : p = 2
      · rw [if_pos c2]
      · rw [if_neg c2, jup_s, jupd]
        by_cases c1 : p = 1
        · rw [if_pos c1]
        · rw [if_neg c1, jup_s, jupd, if_pos (by omega)]
  obtain ⟨ρ, g1, g2, g3⟩ := beg_loop hG (T := T) (I := I) (pl := pl) G 0 none (jm_up (jm_up (jm_up (jm_up σ 83 0 0) 83 1 0) 83 2 0) 83 3 0) (by omega) (by rw [DM, fr 61 (by decide), fr 66 (by decide), fr 67 (by decide)]; exact hD) (by rw [fr 61 (by decide)]; exact hI) ⟨fun g hg => by omega, fun p hp => ⟨by rw [z p hp]; simp [rowOf]; exact nI_0.symm, by simp [rowOf], fun i hi => by simp [rowOf] at hi⟩⟩
  rw [nI_0] at g1
  have g3' : ∀ c, c ∉ [76, 77, 78, 79, 80, 81, 82, 83] → ρ c = σ c := by
    intro c hc
    rw [g3 c hc]
    simp only [List.mem_cons, List.not_mem_nil, or_false, not_or] at hc
    exact fr c (by omega)
  refine ⟨ρ, by rw [r0, g1], ⟨by rw [g3' 61 (by decide)]; exact hD.1, by rw [g3' 61 (by decide)], by rw [g3' 61 (by decide)], by rw [g3' 61 (by decide)]; exact hI, by rw [g3' 67 (by decide)]; exact hD.2.2, fun g hg => ?_, g2.2⟩, g3'⟩
  obtain ⟨k1, k2, k3, k4, k5, k6⟩ := g2.1 g hg
  refine ⟨k1, k2, k3, k4, ?_, k6⟩
  rw [k5]
  exact (if_neg (by show ¬ (0 : Int32) = 1; decide)).symm
