/-! ===== the model goes on; what it tells ===== -/
def mZ (σ : jm_S) (Z : Pg) : Prop := ∀ t, t < 200 → mH σ t = Z.1 t ∧ mK σ t = nI (Z.2.1 t) ∧ Z.2.1 t < 2 ^ 31 ∧ qq (mL σ t) = qq (Z.2.2 t)
theorem mZ_fr {σ ρ : jm_S} {Z : Pg} (h : mZ σ Z) (h1 : ρ 61 = σ 61) (h2 : ρ 71 = σ 71) (h3 : ρ 72 = σ 72) (h4 : ρ 73 = σ 73) : mZ ρ Z := by
  unfold mZ mH mK mL at *
  rw [h1, h2, h3, h4]
  exact h
theorem M_sec {G : Nat} (hG : G ≤ 12) {T : Nat → Int32} {I : Nat → Bool} {a s : Int32} {pl : Nat → Nat} {Z : Pg} {t : Nat} (ht : t < 200) (σ : jm_S) (hZ : mZ σ Z) (hR : MR G T I a s (run G T I a s pl Z t) σ) : ∃ ρ, jc 154 [.ref 61, .int (nI t)] σ = some (none, ρ) ∧ MR G T I a s (run G T I a s pl Z (t + 1)) ρ ∧ ρ 84 = upd (σ 84) t (nI (snN G I (run G T I a s pl Z t) (run G T I a s pl Z (t + 1)))) ∧ (∀ c, c ∉ [76, 77, 78, 79, 80, 81, 82, 83, 84] → ρ c = σ c) := by
  obtain ⟨z1, z2, z3, z4⟩ := hZ t ht
  obtain ⟨ρ, e1, e2, e3, e4⟩ := M_second hG ht (Wf_run G T I a s pl Z hG t) z3 σ z2 hR
  rw [z1, z4] at e2 e3
  refine ⟨ρ, e1, e2, ?_, e4⟩
  rw [e3]
  have := opN_run G T I a s pl Z t
  unfold runW at this
  rw [this]
theorem goesOn_loop {G : Nat} (hG : G ≤ 12) {T : Nat → Int32} {I : Nat → Bool} {a s : Int32} {pl : Nat → Nat} {Z : Pg} {n : Nat} (hn : n ≤ 200) : ∀ (k t : Nat) (σ : jm_S), t + k = n → mZ σ Z → MR G T I a s (run G T I a s pl Z t) σ → (∀ j, j < t → σ 84 j = nI (snN G I (run G T I a s pl Z j) (run G T I a s pl Z (j + 1)))) → ∃ ρ, jv 151 6 [some (.ref 61), some (.int (nI n)), some (.int (nI t))] [] σ = some (none, ρ) ∧ MR G T I a s (run G T I a s pl Z n) ρ ∧ (∀ j, j < n → ρ 84 j = nI (snN G I (run G T I a s pl Z j) (run G T I a s pl Z (j + 1)))) ∧ (∀ c, c ∉ [76, 77, 78, 79, 80, 81, 82, 83, 84] → ρ c = σ c) := by
  intro k
  induction k with
  | zero =>
    intro t σ ht hZ h h84
    have e : t = n := by omega
    subst e
    rw [M_goesOn_L6, if_pos (nI_le (Nat.le_refl _) (by omega))]
    exact ⟨σ, rfl, h, h84, fun _ _ => rfl⟩
  | succ k ih =>
    intro t σ ht hZ h h84
    have htn : t < n := by omega
    obtain ⟨τ, e1, e2, e3, e4⟩ := M_sec hG (show t < 200 by omega) σ hZ h
    obtain ⟨ρ, g1, g2, g3, g4⟩ := ih (t + 1) τ (by omega) (mZ_fr hZ (e4 61 (by decide)) (e4 71 (by decide)) (e4 72 (by decide)) (e4 73 (by decide))) e2 (fun j hj => by
      rw [e3, jupd]
      by_cases c : j = t
      · rw [if_pos c, c]
      · rw [if_neg c]; exact h84 j (by omega))
    refine ⟨ρ, ?_, g2, g3, fun c hc => by rw [g4 c hc, e4 c hc]⟩
    rw [M_goesOn_L6, if_neg (nI_ge htn (by omega)), e1, jbv_some, nI_1, g1]
theorem M_goesOn {G : Nat} (hG : G ≤ 12) {T : Nat → Int32} {I : Nat → Bool} {a s : Int32} {pl : Nat → Nat} {Z : Pg} {n : Nat} (hn : n ≤ 200) (σ : jm_S) (hD : DM σ G T pl) (hI : ∀ g, g < G → (inB (σ 61 24) g ↔ I g = true)) (ha : σ 61 20 = a) (hs : σ 61 21 = s) (hZ : mZ σ Z) : ∃ ρ, jc 151 [.ref 61, .int (nI n)] σ = some (none, ρ) ∧ MR G T I a s (run G T I a s pl Z n) ρ ∧ (∀ j, j < n → ρ 84 j = nI (snN G I (run G T I a s pl Z j) (run G T I a s pl Z (j + 1)))) ∧ (∀ c, c ∉ [76, 77, 78, 79, 80, 81, 82, 83, 84] → ρ c = σ c) := by
  obtain ⟨τ, e1, e2, e3⟩ := M_begins hG (I := I) σ hD hI
  rw [ha, hs] at e2
  obtain ⟨ρ, g1, g2, g3, g4⟩ := goesOn_loop hG (pl := pl) (Z := Z) hn n 0 τ (by omega) (mZ_fr hZ (e3 61 (by decide)) (e3 71 (by decide)) (e3 72 (by decide)) (e3 73 (by decide))) e2 (fun j hj => by omega)
  rw [nI_0] at g1
  refine ⟨ρ, by rw [M_goesOn_in, e1, jbv_some, g1], g2, g3, fun c hc => ?_⟩
  rw [g4 c hc]
  simp only [List.mem_cons, List.not_mem_nil, or_false, not_or] at hc
  exact e3 c (by simp; omega)
theorem M_many {G : Nat} (hG : G ≤ 12) {T : Nat → Int32} {I : Nat → Bool} {a s : Int32} {X : Sm} (v : Int32) (σ : jm_S) (h : MR G T I a s X σ) : jc 168 [.ref 61, .int v] σ = some (some (.int (nI (nmN G I v X))), σ) := by
  obtain ⟨h1, h2, h3, h4, h5, h6, h7⟩ := h
  rw [M_many_in, cnt_loop (fun x i => jv 168 4 [some (.ref 61), some (.int v), some (.int x), some (.int i)] [] σ) (f := fun g => I g && decide (X.st g = v)) (G := G)]
  · show jv 168 4 [some (.ref 61), some (.int v), some (.int (nI (nmN G I v X))), some (.int (nI G))] [] σ = _
    rw [M_many_L4, h1, if_pos (nI_le (Nat.le_refl _) (by omega))]
  · intro i c hi
    show jv 168 4 [some (.ref 61), some (.int v), some (.int (nI c)), some (.int (nI i))] [] σ = _
    have ng : ¬ (nI i < 0 ∨ 12 ≤ i) := by rw [jbad2 (show i < 12 by omega) (by decide)]; exact id
    have out : ¬ (I i = true ∧ X.st i = v) → nI (c + if (I i && decide (X.st i = v)) = true then 1 else 0) = nI c + 0 := by
      intro q
      rw [if_neg (by rw [Bool.and_eq_true, decide_eq_true_eq]; exact q), i0]; rfl
    rw [M_many_L4, h1, if_neg (nI_ge hi (by omega)), M_isIn, jbi_some, nI_clamp (show i < 2 ^ 31 by omega), if_neg ng, (h6 i hi).2.2.2.1, nI_1]
    by_cases ci : I i = true
    · have e1 : (if inB (σ 61 24) i then (1 : Int32) else 0) = 1 := if_pos ((h4 i hi).mpr ci)
      rw [e1, if_neg (by decide)]
      by_cases c1 : X.st i = v
      · rw [if_neg (not_not_intro c1), if_pos (by rw [Bool.and_eq_true, decide_eq_true_eq]; exact ⟨ci, c1⟩), nI_1]
      · rw [if_pos c1, out (fun q => c1 q.2)]
    · have e1 : (if inB (σ 61 24) i then (1 : Int32) else 0) = 0 := if_neg (fun q => ci ((h4 i hi).mp q))
      rw [e1, if_pos rfl, out (fun q => ci q.1)]
theorem M_allLarge {G : Nat} (hG : G ≤ 12) {T : Nat → Int32} {I : Nat → Bool} {a s : Int32} {X : Sm} (σ : jm_S) (h : MR G T I a s X σ) : jc 169 [.ref 61] σ = some (some (.int (lgN G I X)), σ) := by
  obtain ⟨h1, h2, h3, h4, h5, h6, h7⟩ := h
  rw [M_allLarge_in, sum_loop (fun x i => jv 169 4 [some (.ref 61), some (.int x), some (.int i)] [] σ) (v := fun g => if I g = true then X.lg g else 0) (G := G)]
  · show jv 169 4 [some (.ref 61), some (.int (lgN G I X)), some (.int (nI G))] [] σ = _
    rw [M_allLarge_L4, h1, if_pos (nI_le (Nat.le_refl _) (by omega))]
  · intro i x hi
    show jv 169 4 [some (.ref 61), some (.int x), some (.int (nI i))] [] σ = _
    have ng : ¬ (nI i < 0 ∨ 12 ≤ i) := by rw [jbad2 (show i < 12 by omega) (by decide)]; exact id
    rw [M_allLarge_L4, h1, if_neg (nI_ge hi (by omega)), M_isIn, jbi_some, nI_clamp (show i < 2 ^ 31 by omega), if_neg ng, (h6 i hi).2.2.2.2.2, nI_1]
    by_cases ci : I i = true
    · have e1 : (if inB (σ 61 24) i then (1 : Int32) else 0) = 1 := if_pos ((h4 i hi).mpr ci)
      rw [e1, if_neg (by decide), if_pos ci]
    · have e1 : (if inB (σ 61 24) i then (1 : Int32) else 0) = 0 := if_neg (fun q => ci ((h4 i hi).mp q))
      rw [e1, if_pos rfl, if_neg ci]
theorem M_browned {G : Nat} (hG : G ≤ 12) {T : Nat → Int32} {a s : Int32} {X : Sm} (x : Int32) (σ : jm_S) (h : MR G T (fun _ => true) a s X σ) : jc 170 [.ref 61, .int x] σ = some (some (.int (nI (brN G (fun _ => true) X x (σ 68 2)))), σ) := by
  obtain ⟨h1, h2, h3, h4, h5, h6, h7⟩ := h
  rw [M_browned_in, cnt_loop (fun y i => jv 170 4 [some (.ref 61), some (.int x), some (.int y), some (.int i)] [] σ) (f := fun g => true && decide (X.st g = 1 ∧ ¬ x - X.en g ≤ σ 68 2)) (G := G)]
  · show jv 170 4 [some (.ref 61), some (.int x), some (.int (nI (brN G (fun _ => true) X x (σ 68 2)))), some (.int (nI G))] [] σ = _
    rw [M_browned_L4, h1, if_pos (nI_le (Nat.le_refl _) (by omega))]
  · intro i c hi
    show jv 170 4 [some (.ref 61), some (.int x), some (.int (nI c)), some (.int (nI i))] [] σ = _
    have ng : ¬ (nI i < 0 ∨ 12 ≤ i) := by rw [jbad2 (show i < 12 by omega) (by decide)]; exact id
    have out : ¬ (X.st i = 1 ∧ ¬ x - X.en i ≤ σ 68 2) → nI (c + if (true && decide (X.st i = 1 ∧ ¬ x - X.en i ≤ σ 68 2)) = true then 1 else 0) = nI c + 0 := by
      intro q
      rw [if_neg (by rw [Bool.true_and, decide_eq_true_eq]; exact q), i0]; rfl
    rw [M_browned_L4, h1, if_neg (nI_ge hi (by omega)), nI_clamp (show i < 2 ^ 31 by omega), if_neg ng, if_neg ng, (h6 i hi).2.2.2.1, (h6 i hi).2.2.2.2.1, nI_1]
    by_cases c1 : X.st i = 1
    · rw [if_neg (not_not_intro c1), if_pos c1]
      by_cases c2 : x - X.en i ≤ σ 68 2
      · rw [if_pos c2, out (fun q => q.2 c2)]
      · rw [if_neg c2, if_pos (by rw [Bool.true_and, decide_eq_true_eq]; exact ⟨c1, c2⟩), nI_1]
    · rw [if_pos c1, out (fun q => c1 q.1)]
def wthN (G : Nat) (X : Sm) (t b w l h : Int32) : Int32 := w * lgN G (fun _ => true) X - l * nI (nmN G (fun _ => true) 0 X) - h * (nI (nmN G (fun _ => true) 2 X) + nI (brN G (fun _ => true) X t b))
theorem M_worth {G : Nat} (hG : G ≤ 12) {T : Nat → Int32} {a s : Int32} {X : Sm} (x : Int32) (σ : jm_S) (h : MR G T (fun _ => true) a s X σ) : jc 171 [.ref 61, .int x] σ = some (some (.int (wthN G X x (σ 68 2) (σ 68 3) (σ 68 4) (σ 68 5))), σ) := by
  rw [M_worth_in, M_allLarge hG σ h, jbi_some, M_many hG 0 σ h, jbi_some, M_many hG 2 σ h, jbi_some, M_browned hG x σ h, jbi_some]; rfl
theorem M_isNow {G : Nat} (hG : G ≤ 12) {T : Nat → Int32} {I : Nat → Bool} {a s : Int32} {X : Sm} {g : Nat} (hg : g < G) (σ : jm_S) (h : MR G T I a s X σ) (w : Int32) (hw : ¬ (w < 0 ∨ 5 < w)) : jc 160 [.ref 61, .int (nI g), .int w] σ = some (some (.int (if w = 0 then X.wm g else if w = 1 then X.wt g else if w = 2 then X.pr g else if w = 3 then X.st g else if w = 4 then (if X.st g = 1 then X.en g else -1) else X.lg g)), σ) := by
  obtain ⟨k1, k2, k3, k4, k5, k6⟩ := h.2.2.2.2.2.1 g hg
  have ng : ¬ (nI g < 0 ∨ 12 ≤ (nI g).toNatClampNeg) := by rw [nI_clamp (show g < 2 ^ 31 by omega), jbad2 (show g < 12 by omega) (by decide)]; exact id
  have nc : (nI g).toNatClampNeg = g := nI_clamp (show g < 2 ^ 31 by omega)
  rw [M_isNow_in]
  rcases j6 hw with e | e | e | e | e | e <;> subst e
  · rw [M_isNow_S1_0, if_neg ng, nc, k1]; rfl
  · rw [M_isNow_S1_1, if_neg ng, nc, k2]; rfl
  · rw [M_isNow_S1_2, if_neg ng, nc, k3]; rfl
  · rw [M_isNow_S1_3, if_neg ng, nc, k4]; rfl
  · rw [M_isNow_S1_4, if_neg ng, nc, k5]; rfl
  · rw [M_isNow_S1_o _ _ _ _ (by decide +kernel), if_neg ng, nc, k6]; rfl
theorem tell_11 {G : Nat} (hG : G ≤ 12) {T : Nat → Int32} {a s : Int32} {t : Nat} {X : Sm} {g : Nat} (hg : g < G) (σ : jm_S) (h : CR_11 G T (fun _ => true) a s t X σ) (w : Int32) (hw : ¬ (w < 0 ∨ 5 < w)) : jc 47 [.ref 11, .int (nI g), .int w] σ = some (some (.int (if w = 0 then X.wm g else if w = 1 then X.wt g else if w = 2 then X.pr g else if w = 3 then X.st g else if w = 4 then (if X.st g = 1 then X.en g else -1) else X.lg g)), σ) := by
  obtain ⟨k1, k2, k3, k4, k5, k6, k7, k8, k9⟩ := h.2.2.2.2.2.1 g hg
  rw [if_pos rfl] at k7
  have ng : ¬ (nI g < 0 ∨ 12 ≤ (nI g).toNatClampNeg) := by rw [nI_clamp (show g < 2 ^ 31 by omega), jbad2 (show g < 12 by omega) (by decide)]; exact id
  have nc : (nI g).toNatClampNeg = g := nI_clamp (show g < 2 ^ 31 by omega)
  rw [Batch_tell_11_in]
  rcases j6 hw with e | e | e | e | e | e <;> subst e
  · rw [Batch_tell_11_S1_0, if_neg ng, nc, k4]; rfl
  · rw [Batch_tell_11_S1_1, if_neg ng, nc, k5]; rfl
  · rw [Batch_tell_11_S1_2, if_neg ng, nc, k6]; rfl
  · rw [Batch_tell_11_S1_3, if_neg ng, nc, k7]; rfl
  · rw [Batch_tell_11_S1_4, if_neg ng, if_neg ng, nc, k7, k8, if_neg (show ¬ (4 : Int32) = 0 by decide), if_neg (show ¬ (4 : Int32) = 1 by decide), if_neg (show ¬ (4 : Int32) = 2 by decide), if_neg (show ¬ (4 : Int32) = 3 by decide), if_pos rfl]
    by_cases c : X.st g = 1
    · rw [if_neg (not_not_intro c), if_pos c]
    · rw [if_pos c, if_neg c]
  · rw [Batch_tell_11_S1_o _ _ _ _ (by decide +kernel), if_neg ng, nc, k9]; rfl
