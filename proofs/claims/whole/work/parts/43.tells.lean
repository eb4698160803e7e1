/-! ===== what a batch tells ===== -/
theorem cnt_loop {α : Type} (F : Int32 → Int32 → α) {f : Nat → Bool} {G : Nat} (h : ∀ i c, i < G → F (nI c) (nI i) = F (nI (c + if f i = true then 1 else 0)) (nI (i + 1))) : F 0 0 = F (nI (cntN f G)) (nI G) := by
  have go : ∀ i, i ≤ G → F 0 0 = F (nI (cntN f i)) (nI i) := by
    intro i
    induction i with
    | zero => intro _; show F 0 0 = F (nI 0) (nI 0); rw [nI_0]
    | succ i ih => intro hi; rw [ih (by omega), h i _ (by omega)]; rfl
  exact go G (Nat.le_refl G)
theorem sum_loop {α : Type} (F : Int32 → Int32 → α) {v : Nat → Int32} {G : Nat} (h : ∀ i x, i < G → F x (nI i) = F (x + v i) (nI (i + 1))) : F 0 0 = F (sumI v G) (nI G) := by
  have go : ∀ i, i ≤ G → F 0 0 = F (sumI v i) (nI i) := by
    intro i
    induction i with
    | zero => intro _; show F 0 0 = F 0 (nI 0); rw [nI_0]
    | succ i ih => intro hi; rw [ih (by omega), h i _ (by omega)]; rfl
  exact go G (Nat.le_refl G)
theorem nI_sub (a b : Nat) : nI (a + b) - nI a = nI b := by
  rw [Nat.add_comm, ← nI_add, Int32.add_sub_cancel]
theorem i0 (x : Int32) : x + 0 = x := by
  apply Int32.toBitVec_inj.mp
  simp
theorem isOpenAt_11 {G : Nat} (hG : G ≤ 12) {T : Nat → Int32} {I : Nat → Bool} {a s : Int32} {pl : Nat → Nat} {Z : Pg} {t u : Nat} (htu : t ≤ u) (hu : u ≤ 200) (σ : jm_S) (h : CS_11 G I (run G T I a s pl Z u) σ) {g : Nat} (hg : g < G) : jc 52 [.ref 11, .int (nI g), .int (nI t)] σ = some (some (.int (if I g = true ∧ (run G T I a s pl Z t).st g = 1 then 1 else 0)), σ) := by
  obtain ⟨k1, k2⟩ := h.2 g hg
  have ng : ¬ (nI g < 0 ∨ 12 ≤ g) := by rw [jbad2 (show g < 12 by omega) (by decide)]; exact id
  have e := run_ended G T I a s pl Z htu (show u < 2 ^ 31 by omega) (v := 1) (by decide) g
  rw [Batch_isOpenAt_11_in, nI_clamp (show g < 2 ^ 31 by omega), if_neg ng, if_neg ng, k1]
  by_cases c : I g = true
  · rw [if_pos c, (k2 c).1]
    by_cases c1 : (run G T I a s pl Z u).st g = 1
    · rw [if_neg (not_not_intro c1)]
      by_cases c2 : (run G T I a s pl Z u).en g < nI t
      · rw [if_neg (Int32.not_le.mpr c2), if_pos ⟨c, e.mp ⟨c1, c2⟩⟩]
      · rw [if_pos (Int32.not_lt.mp c2), if_neg (fun q => c2 (e.mpr q.2).2)]
    · rw [if_pos c1, if_neg (fun q => c1 (e.mpr q.2).1)]
  · rw [if_neg c, if_pos (by decide), if_neg (fun q => c q.1)]
theorem openAt_11 {G : Nat} (hG : G ≤ 12) {T : Nat → Int32} {I : Nat → Bool} {a s : Int32} {pl : Nat → Nat} {Z : Pg} {t u : Nat} (htu : t ≤ u) (hu : u ≤ 200) (σ : jm_S) (h : CS_11 G I (run G T I a s pl Z u) σ) : jc 51 [.ref 11, .int (nI t)] σ = some (some (.int (nI (nmN G I 1 (run G T I a s pl Z t)))), σ) := by
  rw [Batch_openAt_11_in, cnt_loop (fun x i => jv 51 4 [some (.ref 11), some (.int (nI t)), some (.int x), some (.int i)] [] σ) (f := fun g => I g && decide ((run G T I a s pl Z t).st g = 1)) (G := G)]
  · show jv 51 4 [some (.ref 11), some (.int (nI t)), some (.int (nI (nmN G I 1 (run G T I a s pl Z t)))), some (.int (nI G))] [] σ = _
    rw [Batch_openAt_11_L4, h.1, if_pos (nI_le (Nat.le_refl _) (by omega))]
  · intro i c hi
    show jv 51 4 [some (.ref 11), some (.int (nI t)), some (.int (nI c)), some (.int (nI i))] [] σ = _
    rw [Batch_openAt_11_L4, h.1, if_neg (nI_ge hi (by omega)), isOpenAt_11 hG htu hu σ h hi, jbi_some, nI_1]
    by_cases q : I i = true ∧ (run G T I a s pl Z t).st i = 1
    · rw [if_pos q, if_neg (by decide), if_pos (by rw [q.1, q.2]; rfl), nI_1]
    · rw [if_neg q, if_pos rfl, if_neg (by rw [Bool.and_eq_true, decide_eq_true_eq]; exact q), i0]; rfl
theorem isOpenAt_23 {G : Nat} (hG : G ≤ 12) {T : Nat → Int32} {I : Nat → Bool} {a s : Int32} {pl : Nat → Nat} {Z : Pg} {t u : Nat} (htu : t ≤ u) (hu : u ≤ 200) (σ : jm_S) (h : CS_23 G I (run G T I a s pl Z u) σ) {g : Nat} (hg : g < G) : jc 52 [.ref 23, .int (nI g), .int (nI t)] σ = some (some (.int (if I g = true ∧ (run G T I a s pl Z t).st g = 1 then 1 else 0)), σ) := by
  obtain ⟨k1, k2⟩ := h.2 g hg
  have ng : ¬ (nI g < 0 ∨ 12 ≤ g) := by rw [jbad2 (show g < 12 by omega) (by decide)]; exact id
  have e := run_ended G T I a s pl Z htu (show u < 2 ^ 31 by omega) (v := 1) (by decide) g
  rw [Batch_isOpenAt_23_in, nI_clamp (show g < 2 ^ 31 by omega), if_neg ng, if_neg ng, k1]
  by_cases c : I g = true
  · rw [if_pos c, (k2 c).1]
    by_cases c1 : (run G T I a s pl Z u).st g = 1
    · rw [if_neg (not_not_intro c1)]
      by_cases c2 : (run G T I a s pl Z u).en g < nI t
      · rw [if_neg (Int32.not_le.mpr c2), if_pos ⟨c, e.mp ⟨c1, c2⟩⟩]
      · rw [if_pos (Int32.not_lt.mp c2), if_neg (fun q => c2 (e.mpr q.2).2)]
    · rw [if_pos c1, if_neg (fun q => c1 (e.mpr q.2).1)]
  · rw [if_neg c, if_pos (by decide), if_neg (fun q => c q.1)]
theorem openAt_23 {G : Nat} (hG : G ≤ 12) {T : Nat → Int32} {I : Nat → Bool} {a s : Int32} {pl : Nat → Nat} {Z : Pg} {t u : Nat} (htu : t ≤ u) (hu : u ≤ 200) (σ : jm_S) (h : CS_23 G I (run G T I a s pl Z u) σ) : jc 51 [.ref 23, .int (nI t)] σ = some (some (.int (nI (nmN G I 1 (run G T I a s pl Z t)))), σ) := by
  rw [Batch_openAt_23_in, cnt_loop (fun x i => jv 51 4 [some (.ref 23), some (.int (nI t)), some (.int x), some (.int i)] [] σ) (f := fun g => I g && decide ((run G T I a s pl Z t).st g = 1)) (G := G)]
  · show jv 51 4 [some (.ref 23), some (.int (nI t)), some (.int (nI (nmN G I 1 (run G T I a s pl Z t)))), some (.int (nI G))] [] σ = _
    rw [Batch_openAt_23_L4, h.1, if_pos (nI_le (Nat.le_refl _) (by omega))]
  · intro i c hi
    show jv 51 4 [some (.ref 23), some (.int (nI t)), some (.int (nI c)), some (.int (nI i))] [] σ = _
    rw [Batch_openAt_23_L4, h.1, if_neg (nI_ge hi (by omega)), isOpenAt_23 hG htu hu σ h hi, jbi_some, nI_1]
    by_cases q : I i = true ∧ (run G T I a s pl Z t).st i = 1
    · rw [if_pos q, if_neg (by decide), if_pos (by rw [q.1, q.2]; rfl), nI_1]
    · rw [if_neg q, if_pos rfl, if_neg (by rw [Bool.and_eq_true, decide_eq_true_eq]; exact q), i0]; rfl
theorem burntAt_11 {G : Nat} (hG : G ≤ 12) {T : Nat → Int32} {I : Nat → Bool} {a s : Int32} {pl : Nat → Nat} {Z : Pg} {t u : Nat} (htu : t ≤ u) (hu : u ≤ 200) (σ : jm_S) (h : CS_11 G I (run G T I a s pl Z u) σ) : jc 58 [.ref 11, .int (nI t)] σ = some (some (.int (nI (nmN G I 2 (run G T I a s pl Z t)))), σ) := by
  rw [Batch_burntAt_11_in, cnt_loop (fun x i => jv 58 4 [some (.ref 11), some (.int (nI t)), some (.int x), some (.int i)] [] σ) (f := fun g => I g && decide ((run G T I a s pl Z t).st g = 2)) (G := G)]
  · show jv 58 4 [some (.ref 11), some (.int (nI t)), some (.int (nI (nmN G I 2 (run G T I a s pl Z t)))), some (.int (nI G))] [] σ = _
    rw [Batch_burntAt_11_L4, h.1, if_pos (nI_le (Nat.le_refl _) (by omega))]
  · intro i c hi
    show jv 58 4 [some (.ref 11), some (.int (nI t)), some (.int (nI c)), some (.int (nI i))] [] σ = _
    obtain ⟨k1, k2⟩ := h.2 i hi
    have ng : ¬ (nI i < 0 ∨ 12 ≤ i) := by rw [jbad2 (show i < 12 by omega) (by decide)]; exact id
    have e := run_ended G T I a s pl Z htu (show u < 2 ^ 31 by omega) (v := 2) (by decide) i
    have out : ¬ (I i = true ∧ (run G T I a s pl Z t).st i = 2) → nI (c + if (I i && decide ((run G T I a s pl Z t).st i = 2)) = true then 1 else 0) = nI c + 0 := by
      intro q
      rw [if_neg (by rw [Bool.and_eq_true, decide_eq_true_eq]; exact q), i0]; rfl
    rw [Batch_burntAt_11_L4, h.1, if_neg (nI_ge hi (by omega)), nI_clamp (show i < 2 ^ 31 by omega), if_neg ng, if_neg ng, k1, nI_1]
    by_cases ci : I i = true
    · rw [if_pos ci, (k2 ci).1]
      by_cases c1 : (run G T I a s pl Z u).st i = 2
      · rw [if_neg (not_not_intro c1)]
        by_cases c2 : (run G T I a s pl Z u).en i < nI t
        · rw [if_neg (Int32.not_le.mpr c2), if_pos (by rw [ci, e.mp ⟨c1, c2⟩]; rfl), nI_1]
        · rw [if_pos (Int32.not_lt.mp c2), out (fun q => c2 (e.mpr q.2).2)]
      · rw [if_pos c1, out (fun q => c1 (e.mpr q.2).1)]
    · rw [if_neg ci, if_pos (by decide), out (fun q => ci q.1)]
theorem wholeAt_11 {G : Nat} (hG : G ≤ 12) {T : Nat → Int32} {I : Nat → Bool} {a s : Int32} {pl : Nat → Nat} {Z : Pg} {t u : Nat} (htu : t ≤ u) (hu : u ≤ 200) (σ : jm_S) (h : CS_11 G I (run G T I a s pl Z u) σ) : jc 57 [.ref 11, .int (nI t)] σ = some (some (.int (nI (nmN G I 0 (run G T I a s pl Z t)))), σ) := by
  rw [Batch_wholeAt_11_in, cnt_loop (fun x i => jv 57 4 [some (.ref 11), some (.int (nI t)), some (.int x), some (.int i)] [] σ) (f := I) (G := G)]
  · show jv 57 4 [some (.ref 11), some (.int (nI t)), some (.int (nI (cntN I G))), some (.int (nI G))] [] σ = _
    rw [Batch_wholeAt_11_L4, h.1, if_pos (nI_le (Nat.le_refl _) (by omega)), openAt_11 hG htu hu σ h, jbi_some, burntAt_11 hG htu hu σ h, jbi_some, nm_all G T I a s pl Z t, Nat.add_assoc, nI_sub, nI_sub]
  · intro i c hi
    show jv 57 4 [some (.ref 11), some (.int (nI t)), some (.int (nI c)), some (.int (nI i))] [] σ = _
    obtain ⟨k1, k2⟩ := h.2 i hi
    have ng : ¬ (nI i < 0 ∨ 12 ≤ i) := by rw [jbad2 (show i < 12 by omega) (by decide)]; exact id
    rw [Batch_wholeAt_11_L4, h.1, if_neg (nI_ge hi (by omega)), nI_clamp (show i < 2 ^ 31 by omega), if_neg ng, k1, nI_1]
    by_cases ci : I i = true
    · rw [if_pos ci, if_neg (by rcases run_3 G T I a s pl Z u i with q | q | q <;> rw [q] <;> decide), if_pos ci, nI_1]
    · rw [if_neg ci, if_pos rfl, if_neg ci, i0]; rfl
theorem largeAt_11 {G : Nat} (hG : G ≤ 12) {T : Nat → Int32} {I : Nat → Bool} {a s : Int32} {pl : Nat → Nat} {Z : Pg} {t u : Nat} (htu : t ≤ u) (hu : u ≤ 200) (σ : jm_S) (h : CS_11 G I (run G T I a s pl Z u) σ) : jc 59 [.ref 11, .int (nI t)] σ = some (some (.int (lgN G I (run G T I a s pl Z t))), σ) := by
  rw [Batch_largeAt_11_in, sum_loop (fun x i => jv 59 4 [some (.ref 11), some (.int (nI t)), some (.int x), some (.int i)] [] σ) (v := fun g => if I g = true then (run G T I a s pl Z t).lg g else 0) (G := G)]
  · show jv 59 4 [some (.ref 11), some (.int (nI t)), some (.int (lgN G I (run G T I a s pl Z t))), some (.int (nI G))] [] σ = _
    rw [Batch_largeAt_11_L4, h.1, if_pos (nI_le (Nat.le_refl _) (by omega))]
  · intro i x hi
    show jv 59 4 [some (.ref 11), some (.int (nI t)), some (.int x), some (.int (nI i))] [] σ = _
    obtain ⟨k1, k2⟩ := h.2 i hi
    have ng : ¬ (nI i < 0 ∨ 12 ≤ i) := by rw [jbad2 (show i < 12 by omega) (by decide)]; exact id
    rw [Batch_largeAt_11_L4, h.1, if_neg (nI_ge hi (by omega)), isOpenAt_11 hG htu hu σ h hi, jbi_some, nI_clamp (show i < 2 ^ 31 by omega), if_neg ng, nI_1]
    by_cases ci : I i = true
    · rw [if_pos ci]
      by_cases q : (run G T I a s pl Z t).st i = 1
      · have e1 : (if I i = true ∧ (run G T I a s pl Z t).st i = 1 then (1 : Int32) else 0) = 1 := if_pos ⟨ci, q⟩
        rw [e1, if_neg (by decide), (k2 ci).2, (run_keep G T I a s pl Z htu (g := i) (by rw [q]; decide)).2.2]
      · have e1 : (if I i = true ∧ (run G T I a s pl Z t).st i = 1 then (1 : Int32) else 0) = 0 := if_neg (fun w => q w.2)
        rw [e1, if_pos rfl, (run_inv G T I a s pl Z t i).2.1 q]
    · have e1 : (if I i = true ∧ (run G T I a s pl Z t).st i = 1 then (1 : Int32) else 0) = 0 := if_neg (fun w => ci w.1)
      rw [e1, if_pos rfl, if_neg ci]
theorem brownedAt_11 {G : Nat} (hG : G ≤ 12) {T : Nat → Int32} {I : Nat → Bool} {a s : Int32} {pl : Nat → Nat} {Z : Pg} {t u : Nat} (htu : t ≤ u) (hu : u ≤ 200) (b : Int32) (σ : jm_S) (h : CS_11 G I (run G T I a s pl Z u) σ) : jc 60 [.ref 11, .int (nI t), .int b] σ = some (some (.int (nI (brN G I (run G T I a s pl Z t) (nI t) b))), σ) := by
  rw [Batch_brownedAt_11_in, cnt_loop (fun x i => jv 60 5 [some (.ref 11), some (.int (nI t)), some (.int b), some (.int x), some (.int i)] [] σ) (f := fun g => I g && decide ((run G T I a s pl Z t).st g = 1 ∧ ¬ nI t - (run G T I a s pl Z t).en g ≤ b)) (G := G)]
  · show jv 60 5 [some (.ref 11), some (.int (nI t)), some (.int b), some (.int (nI (brN G I (run G T I a s pl Z t) (nI t) b))), some (.int (nI G))] [] σ = _
    rw [Batch_brownedAt_11_L5, h.1, if_pos (nI_le (Nat.le_refl _) (by omega))]
  · intro i c hi
    show jv 60 5 [some (.ref 11), some (.int (nI t)), some (.int b), some (.int (nI c)), some (.int (nI i))] [] σ = _
    obtain ⟨k1, k2⟩ := h.2 i hi
    have ng : ¬ (nI i < 0 ∨ 12 ≤ i) := by rw [jbad2 (show i < 12 by omega) (by decide)]; exact id
    have out : ¬ (I i = true ∧ (run G T I a s pl Z t).st i = 1 ∧ ¬ nI t - (run G T I a s pl Z t).en i ≤ b) → nI (c + if (I i && decide ((run G T I a s pl Z t).st i = 1 ∧ ¬ nI t - (run G T I a s pl Z t).en i ≤ b)) = true then 1 else 0) = nI c + 0 := by
      intro q
      rw [if_neg (by rw [Bool.and_eq_true, decide_eq_true_eq]; exact q), i0]; rfl
    rw [Batch_brownedAt_11_L5, h.1, if_neg (nI_ge hi (by omega)), isOpenAt_11 hG htu hu σ h hi, jbi_some, nI_clamp (show i < 2 ^ 31 by omega), if_neg ng, nI_1]
    by_cases q : I i = true ∧ (run G T I a s pl Z t).st i = 1
    · rw [if_pos q, if_neg (by decide), (k2 q.1).1, (run_keep G T I a s pl Z htu (g := i) (by rw [q.2]; decide)).2.1]
      by_cases q2 : nI t - (run G T I a s pl Z t).en i ≤ b
      · rw [if_pos q2, out (fun w => w.2.2 q2)]
      · rw [if_neg q2, if_pos (by rw [Bool.and_eq_true, decide_eq_true_eq]; exact ⟨q.1, q.2, q2⟩), nI_1]
    · rw [if_neg q, if_pos rfl, out (fun w => q ⟨w.1, w.2.1⟩)]
theorem goneIn_11 {G : Nat} (hG : G ≤ 12) {T : Nat → Int32} {I : Nat → Bool} {a s : Int32} {pl : Nat → Nat} {Z : Pg} {t u : Nat} (htu : t < u) (hu : u ≤ 200) (σ : jm_S) (h : CS_11 G I (run G T I a s pl Z u) σ) : jc 53 [.ref 11, .int (nI t)] σ = some (some (.int (nI (snN G I (run G T I a s pl Z t) (run G T I a s pl Z (t + 1))))), σ) := by
  rw [Batch_goneIn_11_in, cnt_loop (fun x i => jv 53 4 [some (.ref 11), some (.int (nI t)), some (.int x), some (.int i)] [] σ) (f := fun g => I g && decide ((run G T I a s pl Z t).st g = 0 ∧ (run G T I a s pl Z (t + 1)).st g = 1)) (G := G)]
  · show jv 53 4 [some (.ref 11), some (.int (nI t)), some (.int (nI (snN G I (run G T I a s pl Z t) (run G T I a s pl Z (t + 1))))), some (.int (nI G))] [] σ = _
    rw [Batch_goneIn_11_L4, h.1, if_pos (nI_le (Nat.le_refl _) (by omega))]
  · intro i c hi
    show jv 53 4 [some (.ref 11), some (.int (nI t)), some (.int (nI c)), some (.int (nI i))] [] σ = _
    obtain ⟨k1, k2⟩ := h.2 i hi
    have ng : ¬ (nI i < 0 ∨ 12 ≤ i) := by rw [jbad2 (show i < 12 by omega) (by decide)]; exact id
    have e := run_gone G T I a s pl Z htu (show u < 2 ^ 31 by omega) i
    have out : ¬ (I i = true ∧ (run G T I a s pl Z t).st i = 0 ∧ (run G T I a s pl Z (t + 1)).st i = 1) → nI (c + if (I i && decide ((run G T I a s pl Z t).st i = 0 ∧ (run G T I a s pl Z (t + 1)).st i = 1)) = true then 1 else 0) = nI c + 0 := by
      intro q
      rw [if_neg (by rw [Bool.and_eq_true, decide_eq_true_eq]; exact q), i0]; rfl
    rw [Batch_goneIn_11_L4, h.1, if_neg (nI_ge hi (by omega)), nI_clamp (show i < 2 ^ 31 by omega), if_neg ng, if_neg ng, k1, nI_1]
    by_cases ci : I i = true
    · rw [if_pos ci, (k2 ci).1]
      by_cases c1 : (run G T I a s pl Z u).st i = 1
      · rw [if_neg (not_not_intro c1)]
        by_cases c2 : (run G T I a s pl Z u).en i = nI t
        · rw [if_neg (not_not_intro c2), if_pos (by rw [Bool.and_eq_true, decide_eq_true_eq]; exact ⟨ci, e.mp ⟨c1, c2⟩⟩), nI_1]
        · rw [if_pos c2, out (fun q => c2 (e.mpr q.2).2)]
      · rw [if_pos c1, out (fun q => c1 (e.mpr q.2).1)]
    · rw [if_neg ci, if_pos (by decide), out (fun q => ci q.1)]
theorem tell4_11 {G : Nat} (hG : G ≤ 12) {I : Nat → Bool} {Y : Sm} (σ : jm_S) (h : CS_11 G I Y σ) {g : Nat} (hg : g < G) (hI : I g = true) : jc 47 [.ref 11, .int (nI g), .int 4] σ = some (some (.int (if Y.st g = 1 then Y.en g else -1)), σ) := by
  obtain ⟨k1, k2⟩ := h.2 g hg
  have ng : ¬ (nI g < 0 ∨ 12 ≤ g) := by rw [jbad2 (show g < 12 by omega) (by decide)]; exact id
  rw [Batch_tell_11_in, Batch_tell_11_S1_4, nI_clamp (show g < 2 ^ 31 by omega), if_neg ng, if_neg ng, k1, if_pos hI, (k2 hI).1]
  by_cases c : Y.st g = 1
  · rw [if_neg (not_not_intro c), if_pos c]
  · rw [if_pos c, if_neg c]
