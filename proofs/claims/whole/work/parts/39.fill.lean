/-! ===== fill and begin ===== -/
theorem RW_add {σ ρ : jm_S} {rc hc p : Nat} {L : List Nat} {g : Nat} (h : RW σ rc hc p L) (hL : L.length < 12) (hg : g < 12) (h1 : ρ hc p = nI (L.length + 1)) (h2 : ∀ i, i < 12 → ρ rc (12 * p + i) = if i = L.length then nI g else σ rc (12 * p + i)) : RW ρ rc hc p (L ++ [g]) := by
  refine ⟨by rw [h1, List.length_append]; rfl, by rw [List.length_append]; show L.length + 1 ≤ 12; omega, fun i hi => ?_⟩
  rw [List.length_append] at hi
  have hi : i < L.length + 1 := hi
  rw [h2 i (by omega)]
  by_cases c : i = L.length
  · subst c
    rw [if_pos rfl, getD_app_e]; exact ⟨hg, rfl⟩
  · rw [if_neg c, getD_app (by omega)]; exact h.2.2 i (by omega)
def rowOf (I : Nat → Bool) (pl : Nat → Nat) (i p : Nat) : List Nat := (List.range i).filter (fun g => I g && decide (pl g = p))
theorem rowOf_len (I : Nat → Bool) (pl : Nat → Nat) (i p : Nat) : (rowOf I pl i p).length ≤ i := by
  refine Nat.le_trans (List.length_filter_le _ _) ?_
  rw [List.length_range]; exact Nat.le_refl i
theorem rowOf_s (I : Nat → Bool) (pl : Nat → Nat) (i p : Nat) : rowOf I pl (i + 1) p = if I i = true ∧ pl i = p then rowOf I pl i p ++ [i] else rowOf I pl i p := by
  unfold rowOf
  rw [List.range_succ, List.filter_append]
  by_cases c : I i = true ∧ pl i = p
  · rw [if_pos c, List.filter_cons_of_pos (by rw [c.1, c.2]; simp)]; rfl
  · rw [if_neg c, List.filter_cons_of_neg (by
      intro q
      simp only [Bool.and_eq_true] at q
      exact c ⟨q.1, of_decide_eq_true q.2⟩), List.filter_nil, List.append_nil]
theorem rowOf_mem {I : Nat → Bool} {pl : Nat → Nat} {i p g : Nat} (h : g ∈ rowOf I pl i p) : g < i := List.mem_range.mp (List.mem_filter.mp h).1
def DC (σ : jm_S) (G : Nat) (T : Nat → Int32) (pl : Nat → Nat) : Prop := σ 1 2 = nI G ∧ (∀ g, g < G → σ 2 g = nI (pl g) ∧ pl g < 4) ∧ (∀ j, j < 4 * G → σ 3 j = T j)
def FI (G : Nat) (T : Nat → Int32) (pl : Nat → Nat) (a s : Int32) (i : Nat) (σ : jm_S) : Prop :=
  σ 11 11 = nI G ∧ σ 11 12 = s ∧ σ 11 13 = a ∧ σ 11 14 = nI G ∧ σ 11 15 = 0 ∧ σ 11 16 = 0 ∧
  (∀ g, g < i → σ 12 g = T (4 * g + 1) ∧ σ 13 g = T (4 * g + 2) ∧ σ 14 g = T (4 * g + 3) ∧ σ 15 g = 0 ∧ σ 16 g = T (4 * g) ∧ σ 17 g = 0 ∧ σ 18 g = 0 ∧ σ 19 g = -1 ∧ σ 20 g = 0) ∧
  (∀ p, p < 4 → RW σ 21 22 p (rowOf (fun _ => true) pl i p))
theorem putOnTop {pl : Nat → Nat} {g : Nat} (hg : g < 12) (hp : pl g < 4) (σ : jm_S) (h : ∀ p, p < 4 → RW σ 21 22 p (rowOf (fun _ => true) pl g p)) : ∃ ρ, jc 39 [.ref 11, .int (nI g), .int (nI (pl g))] σ = some (none, ρ) ∧ (∀ p, p < 4 → RW ρ 21 22 p (rowOf (fun _ => true) pl (g + 1) p)) ∧ (∀ c, c ≠ 21 → c ≠ 22 → ρ c = σ c) := by
  have hl := rowOf_len (fun _ => true) pl g (pl g)
  rw [Batch_putOnTop_11_in, nI_clamp (show pl g < 2 ^ 31 by omega), if_neg (by rw [jbad2 hp (by decide)]; exact id), (h (pl g) hp).1, j12a, nI_add, nI_clamp (show 12 * pl g + (rowOf (fun _ => true) pl g (pl g)).length < 2 ^ 31 by omega), if_neg (by rw [jbad2 (show 12 * pl g + (rowOf (fun _ => true) pl g (pl g)).length < 48 by omega) (by decide)]; exact id), if_neg (by rw [jbad2 hp (by decide)]; exact id), if_neg (by rw [jbad2 hp (by decide)]; exact id), nI_1]
  refine ⟨_, rfl, fun p hp2 => ?_, fun c h1 h2 => by rw [jup_n _ _ _ h2, jup_n _ _ _ h1]⟩
  rw [rowOf_s]
  by_cases c : pl g = p
  · subst c
    rw [if_pos ⟨rfl, rfl⟩]
    refine RW_add (h (pl g) hp) (by omega) hg ?_ (fun i hi => ?_)
    · rw [jup_s, jupd, if_pos rfl]
    · rw [jup_n _ _ _ (by decide), jup_s, jupd]
      by_cases ci : i = (rowOf (fun _ => true) pl g (pl g)).length
      · rw [if_pos (by omega), if_pos ci]
      · rw [if_neg (by omega), if_neg ci]
  · rw [if_neg (fun q => c q.2)]
    refine RW_fr (h p hp2) ?_ (fun i hi => ?_)
    · rw [jup_s, jupd, if_neg (fun e => c e.symm), jup_n _ _ _ (by decide)]
    · rw [jup_n _ _ _ (by decide), jup_s, jupd, if_neg (by omega)]
theorem fill_loop {G : Nat} (hG : G ≤ 12) {T : Nat → Int32} {pl : Nat → Nat} {a s : Int32} : ∀ (k i : Nat) (σ : jm_S), i + k = G → DC σ G T pl → FI G T pl a s i σ → ∃ ρ, jv 38 47 [some (.ref 11), some (.ref 1), some (.int s), some (.int a), some (.int (nI i))] [] σ = some (none, ρ) ∧ FI G T pl a s G ρ ∧ (∀ c, c ∉ [12, 13, 14, 15, 16, 17, 18, 19, 20, 21, 22] → ρ c = σ c) := by
  intro k
  induction k with
  | zero =>
    intro i σ hi hD h
    have e : i = G := by omega
    subst e
    rw [Batch_fill_11_1_L47, h.1, if_pos (nI_le (Nat.le_refl _) (by omega))]
    exact ⟨σ, rfl, h, fun _ _ => rfl⟩
  | succ k ih =>
    intro i σ hi hD h
    have hD0 := hD
    obtain ⟨h1, h2, h3, h4, h5, h6, h7, h8⟩ := h
    obtain ⟨d1, d2, d3⟩ := hD
    have hiG : i < G := by omega
    obtain ⟨p1, p2⟩ := d2 i hiG
    have ng : ¬ (nI i < 0 ∨ 12 ≤ i) := by rw [jbad2 (show i < 12 by omega) (by decide)]; exact id
    have r0 := Batch_fill_11_1_L47 s a (nI i) σ
    have tr : ∀ (c : Nat) (hc : c < 4) (τ : jm_S), τ 3 = σ 3 → jc 12 [.ref 1, .int (nI i), .int (nI c)] τ = some (some (.int (T (4 * i + c))), τ) := by
      intro c hc τ e
      rw [Grains_trait_in, j4gk, nI_clamp (show 4 * i + c < 2 ^ 31 by omega), if_neg (by rw [jbad2 (show 4 * i + c < 48 by omega) (by decide)]; exact id), e, d3 (4 * i + c) (by omega)]
    have t0 := tr 0 (by omega)
    have t1 := tr 1 (by omega)
    have t2 := tr 2 (by omega)
    have t3 := tr 3 (by omega)
    rw [nI_0, Nat.add_zero] at t0
    rw [show nI 1 = 1 by decide +kernel] at t1
    rw [show nI 2 = 2 by decide +kernel] at t2
    rw [show nI 3 = 3 by decide +kernel] at t3
    rw [h1, if_neg (nI_ge hiG (by omega)), t1 σ rfl, jbi_some, nI_clamp (show i < 2 ^ 31 by omega), if_neg ng, t2 _ (by rw [jup_n _ _ _ (by decide)]), jbi_some, if_neg ng, t3 _ (by rw [jup_n _ _ _ (by decide), jup_n _ _ _ (by decide)]), jbi_some, if_neg ng, if_neg ng, t0 _ (by rw [jup_n _ _ _ (by decide), jup_n _ _ _ (by decide), jup_n _ _ _ (by decide), jup_n _ _ _ (by decide)]), jbi_some, if_neg ng, if_neg ng, if_neg ng, if_neg ng, if_neg ng, if_neg ng, nI_1] at r0
    rw [jup_n _ _ _ (show 2 ≠ 15 by decide), jup_n _ _ _ (show 2 ≠ 14 by decide), jup_n _ _ _ (show 2 ≠ 13 by decide), jup_n _ _ _ (show 2 ≠ 12 by decide), p1] at r0
    obtain ⟨τ, e1, e2, e3⟩ := putOnTop (show i < 12 by omega) p2 (jm_up (jm_up (jm_up (jm_up (jm_up (jm_up (jm_up (jm_up (jm_up σ 12 i (T (4 * i + 1))) 13 i (T (4 * i + 2))) 14 i (T (4 * i + 3))) 15 i 0) 16 i (T (4 * i))) 17 i 0) 18 i 0) 19 i (-1)) 20 i 0) (fun p hp => RW_fr (h8 p hp) (by (repeat (first | rw [jup_s] | rw [jrow_s] | rw [jup_n _ _ _ (by omega)] | rw [jrow_n _ _ (by omega)]))) (fun j _ => by (repeat (first | rw [jup_s] | rw [jrow_s] | rw [jup_n _ _ _ (by omega)] | rw [jrow_n _ _ (by omega)]))))
    rw [e1, jbv_some] at r0
    have fr : ∀ c, c ∉ [12, 13, 14, 15, 16, 17, 18, 19, 20, 21, 22] → τ c = σ c := by
      intro c hc
      simp only [List.mem_cons, List.not_mem_nil, or_false, not_or] at hc
      rw [e3 c (by omega) (by omega), jup_n _ _ _ (by omega), jup_n _ _ _ (by omega), jup_n _ _ _ (by omega), jup_n _ _ _ (by omega), jup_n _ _ _ (by omega), jup_n _ _ _ (by omega), jup_n _ _ _ (by omega), jup_n _ _ _ (by omega), jup_n _ _ _ (by omega)]
    obtain ⟨ρ, g1, g2, g3⟩ := ih (i + 1) τ (by omega) (by rw [DC, fr 1 (by decide), fr 2 (by decide), fr 3 (by decide)]; exact hD0) (by
      rw [FI, fr 11 (by decide)]
      refine ⟨h1, h2, h3, h4, h5, h6, fun g hg => ?_, e2⟩
      rw [e3 12 (by decide) (by decide), e3 13 (by decide) (by decide), e3 14 (by decide) (by decide), e3 15 (by decide) (by decide), e3 16 (by decide) (by decide), e3 17 (by decide) (by decide), e3 18 (by decide) (by decide), e3 19 (by decide) (by decide), e3 20 (by decide) (by decide)]
      by_cases cg : g = i
      · subst cg
        refine ⟨?_, ?_, ?_, ?_, ?_, ?_, ?_, ?_, ?_⟩
        all_goals (repeat (first | rw [jup_s] | rw [jrow_s] | rw [jup_n _ _ _ (by omega)] | rw [jrow_n _ _ (by omega)]))
        all_goals rw [jupd, if_pos rfl]
      · obtain ⟨k1, k2, k3, k4, k5, k6, k7, k8, k9⟩ := h7 g (by omega)
        refine ⟨?_, ?_, ?_, ?_, ?_, ?_, ?_, ?_, ?_⟩
        all_goals (repeat (first | rw [jup_s] | rw [jrow_s] | rw [jup_n _ _ _ (by omega)] | rw [jrow_n _ _ (by omega)]))
        all_goals rw [jupd, if_neg cg]
        all_goals (repeat (first | rw [jup_s] | rw [jrow_s] | rw [jup_n _ _ _ (by omega)] | rw [jrow_n _ _ (by omega)]))
        all_goals assumption)
    exact ⟨ρ, by rw [r0, g1], g2, fun c hc => by rw [g3 c hc, fr c hc]⟩
theorem cntN_all {f : Nat → Bool} {n : Nat} (h : ∀ j, j < n → f j = true) : cntN f n = n := by
  induction n with
  | zero => rfl
  | succ n ih => rw [cntN, ih (fun j hj => h j (by omega)), h n (by omega)]; rfl
theorem fill_11 {G : Nat} (hG : G ≤ 12) {T : Nat → Int32} {pl : Nat → Nat} (a s : Int32) (σ : jm_S) (hD : DC σ G T pl) : ∃ ρ, jc 38 [.ref 11, .ref 1, .int s, .int a] σ = some (none, ρ) ∧ CR_11 G T (fun _ => true) a s 0 (beg G T (fun _ => true) pl) ρ ∧ (∀ c, c ∉ [11, 12, 13, 14, 15, 16, 17, 18, 19, 20, 21, 22] → ρ c = σ c) := by
  have r0 := Batch_fill_11_1_in s a σ
  rw [hD.1, Arrays_fill_22, jbv_some, ← nI_0] at r0
  generalize hτ : (jm_row (jm_up (jm_up (jm_up (jm_up (jm_up (jm_up σ 11 11 (nI G)) 11 12 s) 11 13 a) 11 14 (nI G)) 11 15 (nI 0)) 11 16 (nI 0)) 22 (fun j => if j < 4 then nI 0 else (jm_up (jm_up (jm_up (jm_up (jm_up (jm_up σ 11 11 (nI G)) 11 12 s) 11 13 a) 11 14 (nI G)) 11 15 (nI 0)) 11 16 (nI 0)) 22 j)) = τ at r0
  have fr : ∀ c, c ≠ 11 → c ≠ 22 → τ c = σ c := by
    intro c q1 q2
    rw [← hτ, jrow_n _ _ q2, jup_n _ _ _ q1, jup_n _ _ _ q1, jup_n _ _ _ q1, jup_n _ _ _ q1, jup_n _ _ _ q1, jup_n _ _ _ q1]
  have hFI : FI G T pl a s 0 τ := by
    rw [← hτ]
    refine ⟨?_, ?_, ?_, ?_, ?_, ?_, fun g hg => by omega, fun p hp => ⟨?_, by simp [rowOf], fun i hi => by simp [rowOf] at hi⟩⟩
    · rw [jrow_n _ _ (by decide), jup_s, jupd, if_neg (by decide), jup_s, jupd, if_neg (by decide), jup_s, jupd, if_neg (by decide), jup_s, jupd, if_neg (by decide), jup_s, jupd, if_neg (by decide), jup_s, jupd, if_pos rfl]
    · rw [jrow_n _ _ (by decide), jup_s, jupd, if_neg (by decide), jup_s, jupd, if_neg (by decide), jup_s, jupd, if_neg (by decide), jup_s, jupd, if_neg (by decide), jup_s, jupd, if_pos rfl]
    · rw [jrow_n _ _ (by decide), jup_s, jupd, if_neg (by decide), jup_s, jupd, if_neg (by decide), jup_s, jupd, if_neg (by decide), jup_s, jupd, if_pos rfl]
    · rw [jrow_n _ _ (by decide), jup_s, jupd, if_neg (by decide), jup_s, jupd, if_neg (by decide), jup_s, jupd, if_pos rfl]
    · rw [jrow_n _ _ (by decide), jup_s, jupd, if_neg (by decide), jup_s, jupd, if_pos rfl, nI_0]
    · rw [jrow_n _ _ (by decide), jup_s, jupd, if_pos rfl, nI_0]
    · rw [jrow_s, if_pos hp]; simp [rowOf]
  obtain ⟨ρ, g1, g2, g3⟩ := fill_loop hG (T := T) (pl := pl) (a := a) (s := s) G 0 τ (by omega) (by rw [DC, fr 1 (by decide) (by decide), fr 2 (by decide) (by decide), fr 3 (by decide) (by decide)]; exact hD) hFI
  obtain ⟨h1, h2, h3, h4, h5, h6, h7, h8⟩ := g2
  refine ⟨ρ, by rw [r0, g1], ⟨h1, h2, h3, ?_, by rw [h5, nI_0], fun g hg => ?_, fun p => rowOf (fun _ => true) pl G p, fun p hp => ⟨h8 p hp, fun g hg => rowOf_mem hg, ?_⟩, Or.inr ⟨h6, fun p hp => rfl⟩⟩, fun c hc => ?_⟩
  · rw [h4]
    unfold whN
    exact congrArg nI (cntN_all (fun j hj => rfl)).symm
  · obtain ⟨k1, k2, k3, k4, k5, k6, k7, k8, k9⟩ := h7 g hg
    exact ⟨k1, k2, k3, k4, k5, k6, k7, k8, k9⟩
  · exact List.filter_eq_self.mpr (fun g hg => rfl)
  · simp only [List.mem_cons, List.not_mem_nil, or_false, not_or] at hc
    rw [g3 c (by simp; omega), fr c (by omega) (by omega)]
theorem takeOut_11 {G : Nat} (hG : G ≤ 12) {T : Nat → Int32} {I : Nat → Bool} {pl : Nat → Nat} {a s : Int32} {g : Nat} (hg : g < G) (hI : I g = true) (σ : jm_S) (hR : CR_11 G T I a s 0 (beg G T I pl) σ) : ∃ ρ, jc 78 [.ref 11, .int (nI g)] σ = some (none, ρ) ∧ CR_11 G T (fun j => I j && decide (¬ j = g)) a s 0 (beg G T (fun j => I j && decide (¬ j = g)) pl) ρ ∧ (∀ c, c ∉ [11, 18] → ρ c = σ c) := by
  obtain ⟨h1, h2, h3, h4, h5, h6, C, h7, h8⟩ := hR
  rw [Batch_takeOut_11_in, nI_clamp (show g < 2 ^ 31 by omega), if_neg (by rw [jbad2 (show g < 12 by omega) (by decide)]; exact id)]
  refine ⟨_, rfl, ⟨?_, ?_, ?_, ?_, ?_, fun j hj => ?_, C, fun p hp => ⟨?_, (h7 p hp).2.1, ?_⟩, Or.inl ?_⟩, fun c hc => ?_⟩
  · rw [jup_s, jupd, if_neg (by decide), jup_s, jupd, if_neg (by decide), jup_n _ _ _ (by decide)]; exact h1
  · rw [jup_s, jupd, if_neg (by decide), jup_s, jupd, if_neg (by decide), jup_n _ _ _ (by decide)]; exact h2
  · rw [jup_s, jupd, if_neg (by decide), jup_s, jupd, if_neg (by decide), jup_n _ _ _ (by decide)]; exact h3
  · rw [jup_s, jupd, if_neg (by decide), jup_s, jupd, if_pos rfl, h4]
    unfold whN
    have fl : cntN (fun j => I j && decide ((beg G T I pl).st j = 0)) G = cntN (fun j => (I j && decide (¬ j = g)) && decide ((beg G T (fun j => I j && decide (¬ j = g)) pl).st j = 0)) G + 1 := by
      refine cntN_flip hg (fun j hj hne => ?_) ?_ ?_
      · show ((I j && decide (¬ j = g)) && decide ((0 : Int32) = 0)) = (I j && decide ((0 : Int32) = 0))
        rw [decide_eq_true hne, Bool.and_true]
      · show (I g && decide ((0 : Int32) = 0)) = true
        rw [hI]; rfl
      · show ((I g && decide (¬ g = g)) && decide ((0 : Int32) = 0)) = false
        rw [decide_eq_false (not_not_intro rfl), Bool.and_false]; rfl
    rw [fl, nI_pred]
  · rw [jup_s, jupd, if_neg (by decide), jup_s, jupd, if_neg (by decide), jup_n _ _ _ (by decide)]; exact h5
  · obtain ⟨k1, k2, k3, k4, k5, k6, k7, k8, k9⟩ := h6 j hj
    refine ⟨?_, ?_, ?_, ?_, ?_, ?_, ?_, ?_, ?_⟩
    all_goals (repeat (first | rw [jup_s] | rw [jrow_s] | rw [jup_n _ _ _ (by omega)] | rw [jrow_n _ _ (by omega)]))
    · exact k1
    · exact k2
    · exact k3
    · exact k4
    · exact k5
    · exact k6
    · rw [jupd]
      show (if j = g then (3 : Int32) else σ 18 j) = (if (I j && decide (¬ j = g)) = true then (0 : Int32) else 3)
      by_cases c : j = g
      · rw [if_pos c, c, decide_eq_false (not_not_intro rfl), Bool.and_false]; rfl
      · rw [if_neg c, k7, decide_eq_true c, Bool.and_true]; rfl
    · exact k8
    · exact k9
  · exact RW_fr (h7 p hp).1 (by (repeat (first | rw [jup_s] | rw [jrow_s] | rw [jup_n _ _ _ (by omega)] | rw [jrow_n _ _ (by omega)]))) (fun i _ => by (repeat (first | rw [jup_s] | rw [jrow_s] | rw [jup_n _ _ _ (by omega)] | rw [jrow_n _ _ (by omega)])))
  · have e := (h7 p hp).2.2
    have : (C p).filter (fun j => (I j && decide (¬ j = g)) && decide (¬ (beg G T (fun j => I j && decide (¬ j = g)) pl).st j = 1)) = ((C p).filter (fun j => I j && decide (¬ (beg G T I pl).st j = 1))).filter (fun j => decide (¬ j = g)) := by
      rw [List.filter_filter]
      refine List.filter_congr (fun j _ => ?_)
      show ((I j && decide (¬ j = g)) && decide (¬ (0 : Int32) = 1)) = (decide (¬ j = g) && (I j && decide (¬ (0 : Int32) = 1)))
      cases I j <;> simp
    rw [this, e]
    show ((List.range G).filter (fun j => I j && decide (pl j = p))).filter (fun j => decide (¬ j = g)) = (List.range G).filter (fun j => (I j && decide (¬ j = g)) && decide (pl j = p))
    rw [List.filter_filter]
    refine List.filter_congr (fun j _ => ?_)
    cases I j <;> simp
  · rw [jup_s, jupd, if_pos rfl]
  · simp only [List.mem_cons, List.not_mem_nil, or_false, not_or] at hc
    rw [jup_n _ _ _ (by omega), jup_n _ _ _ (by omega), jup_n _ _ _ (by omega)]
