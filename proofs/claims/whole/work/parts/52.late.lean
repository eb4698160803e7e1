/-! ===== late, sieved ===== -/
theorem bit1 (x : Int32) : x &&& 1 = 1 ↔ x.toBitVec.toNat % 2 = 1 := by
  rw [← Int32.toBitVec_inj, ← BitVec.toNat_inj, Int32.toBitVec_and, BitVec.toNat_and]
  have e : (1 : Int32).toBitVec.toNat = 1 := by decide
  rw [e, Nat.and_one_is_mod]
theorem inB_and (v m : Int32) (g : Nat) : inB (v &&& m) g ↔ (inB v g ∧ inB m g) := by
  unfold inB
  rw [Int32.shiftRight_and, bit1, bit1, bit1, Int32.toBitVec_and, BitVec.toNat_and, Nat.and_mod_two_eq_one]
theorem inB_m1 : ∀ g, g < 12 → inB (-1) g := by decide +kernel
theorem inB_not : ∀ i, i < 12 → ∀ g, g < 12 → (inB (((1 : Int32) <<< (nI i &&& 31)) ^^^ (-1)) g ↔ ¬ g = i) := by decide +kernel
theorem inB_one : ∀ i, i < 12 → ∀ g, g < 12 → (inB ((1 : Int32) <<< (nI i &&& 31)) g ↔ g = i) := by decide +kernel
theorem if_some {p : Prop} (d : Decidable p) (x y : Int32) (ρ : jm_S) : (@ite (Option (Option Value × jm_S)) p d (some (some (Value.int x), ρ)) (some (some (Value.int y), ρ))) = some (some (Value.int (@ite Int32 p d x y)), ρ) := by
  cases d <;> rfl
def onI (g i : Nat) : Nat → Bool := fun j => decide (j = g ∨ ¬ j < i)
theorem onI_0 (g : Nat) : onI g 0 = fun _ => true := by
  funext j
  exact decide_eq_true (Or.inr (by omega))
theorem onI_s {g i : Nat} (h : ¬ i = g) : onI g (i + 1) = fun j => onI g i j && decide (¬ j = i) := by
  funext j
  unfold onI
  rw [Bool.eq_iff_iff, Bool.and_eq_true, decide_eq_true_eq, decide_eq_true_eq, decide_eq_true_eq]
  omega
theorem onI_g {g : Nat} : onI g (g + 1) = onI g g := by
  funext j
  unfold onI
  rw [Bool.eq_iff_iff, decide_eq_true_eq, decide_eq_true_eq]
  omega
theorem late_loop {G : Nat} (hG : G ≤ 12) {T : Nat → Int32} {pl : Nat → Nat} {P : Pn} (hb : bndS P 61) {se : Nat → Int32} {g : Nat} (hg : g < G) (w : Int32) : ∀ (k i : Nat) (σ : jm_S), i + k = G → KC G T pl P se σ → CR_11 G T (onI g i) (se 0) (se 1) 0 (beg G T (onI g i) pl) σ → ∃ ρ, jv 77 37 [some (.ref 0), some (.int (nI g)), some (.int w), some (.int (nI i))] [] σ = some (some (.int (if w = -1 then -100003 else if ¬ (if (run G T (onI g G) (se 0) (se 1) pl (panZ P) 200).st g = 1 then (run G T (onI g G) (se 0) (se 1) pl (panZ P) 200).en g else -1) = -1 then w - (if (run G T (onI g G) (se 0) (se 1) pl (panZ P) 200).st g = 1 then (run G T (onI g G) (se 0) (se 1) pl (panZ P) 200).en g else -1) else -100003)), ρ) ∧ cFr σ ρ := by
  intro k
  induction k with
  | zero =>
    intro i σ hi hK h
    have e : i = G := by omega
    subst e
    obtain ⟨ρ, a1, a2, a3⟩ := settle_11 hG (pl := pl) (Z := panZ P) (t := 0) (n := 200) (by omega) (by omega) σ (pP_onZ hK.2.2 hb (by omega)) h
    rw [← nI200] at a1
    refine ⟨ρ, ?_, cFr.of a3 (by decide)⟩
    rw [P_late_L37, hK.1.1, if_pos (nI_le (Nat.le_refl _) (by omega)), a1, jbv_some, tell4_11 hG ρ a2 hg (decide_eq_true (Or.inl rfl)), jbi_some]
    by_cases c1 : w = -1
    · rw [if_pos c1, if_pos c1]
    · rw [if_neg c1, if_neg c1]
      exact if_some _ _ _ _
  | succ k ih =>
    intro i σ hi hK h
    by_cases c : i = g
    · subst c
      obtain ⟨ρ, b1, b2⟩ := ih (i + 1) σ (by omega) hK (by rw [onI_g]; exact h)
      refine ⟨ρ, ?_, b2⟩
      rw [P_late_L37, hK.1.1, if_neg (nI_ge (show i < G by omega) (by omega)), if_pos rfl, nI_1, b1]
    · obtain ⟨τ, a1, a2, a3⟩ := takeOut_11 hG (show i < G by omega) (decide_eq_true (Or.inr (by omega))) σ h
      have fr : cFr σ τ := cFr.of a3 (by decide)
      obtain ⟨ρ, b1, b2⟩ := ih (i + 1) τ (by omega) (KC_fr hK fr) (by rw [onI_s c]; exact a2)
      refine ⟨ρ, ?_, fr.trans b2⟩
      rw [P_late_L37, hK.1.1, if_neg (nI_ge (show i < G by omega) (by omega)), if_neg (fun q => c ((nI_eq (by omega) (by omega)).mp q)), a1, jbv_some, nI_1, b1]
theorem A_late {σ : jm_S} (h : I_all σ) (x : Int32) : jSame σ sS mK' I_all (jc 77 [.ref 0, .int x]) (jc 182 [.ref 61, .int x]) := by
  obtain ⟨G, pl, P, hG, hb, hgr, hhe, kc, km⟩ := K_of h
  have d2 : (-100000 : Int32) + -2 = -100002 := by decide +kernel
  have d3 : (-100000 : Int32) + -3 = -100003 := by decide +kernel
  by_cases c1 : x < 0 ∨ nI G ≤ x
  · exact sim_bad h (by rw [P_late_in, Grains_has x σ hgr.1, jbi_some, ifc' _ c1, if_neg (not_not_intro rfl)]) (by rw [M_late_in, M_isGrain hG x σ hgr.2.1, jbi_some, ifc' _ c1, if_neg (not_not_intro rfl), M_dear_in, jbi_some, d2])
  · obtain ⟨g, hg, rfl⟩ := jNg (show G < 2 ^ 31 by omega) c1
    generalize hw : (if (RN G (σ 67) pl P (σ 68) 200).st g = 1 then (RN G (σ 67) pl P (σ 68) 200).en g else -1) = w
    refine sim_call h (v := some (.int (if w = -1 then -100003 else if ¬ (if (run G (σ 67) (onI g G) (σ 68 0) (σ 68 1) pl (panZ P) 200).st g = 1 then (run G (σ 67) (onI g G) (σ 68 0) (σ 68 1) pl (panZ P) 200).en g else -1) = -1 then w - (if (run G (σ 67) (onI g G) (σ 68 0) (σ 68 1) pl (panZ P) 200).st g = 1 then (run G (σ 67) (onI g G) (σ 68 0) (σ 68 1) pl (panZ P) 200).en g else -1) else -100003))) ?_ (fun τ hτ => ?_)
    · obtain ⟨τ, a1, a2, a3⟩ := cook hG hb (show 200 ≤ 200 by omega) σ kc
      rw [← nI200] at a1
      obtain ⟨τ1, b1, b2, b3⟩ := fillPan hG τ (KC_fr kc a3)
      obtain ⟨ρ, e1, e2⟩ := late_loop hG hb hg w G 0 τ1 (by omega) (KC_fr kc (a3.trans b3)) (by rw [onI_0]; exact b2)
      rw [nI_0] at e1
      have t4 := tell4_11 hG τ a2 hg rfl
      rw [hw] at t4
      refine ⟨ρ, ?_, (a3.trans b3).trans e2⟩
      rw [P_late_in, Grains_has _ σ hgr.1, jbi_some, ifn' _ c1, if_pos n10, a1, jbv_some, t4, jbi_some, b1, jbv_some, e1]
    · obtain ⟨τ1, τ2, a1, a2, a3, a4, a5, a6⟩ := M_tries_goes hG hb (show 200 ≤ 200 by omega) τ (KM_c km hτ)
      rw [← nI200] at a2
      have km2 := KM_fr (KM_c km hτ) a5
      obtain ⟨t1, t2, t3, t4, t5, t6⟩ := a6
      have k61 : ∀ j, j ≠ 24 → (jm_up τ2 61 24 ((1 : Int32) <<< (nI g &&& 31))) 61 j = τ2 61 j := fun j hj => by rw [jup_s, jupd, if_neg hj]
      have k24 : (jm_up τ2 61 24 ((1 : Int32) <<< (nI g &&& 31))) 61 24 = (1 : Int32) <<< (nI g &&& 31) := by rw [jup_s, jupd, if_pos rfl]
      have kc' : ∀ c, c ≠ 61 → (jm_up τ2 61 24 ((1 : Int32) <<< (nI g &&& 31))) c = τ2 c := fun c hc => by rw [jup_n _ _ _ hc]
      obtain ⟨ρ, b1, b2, b3, b4⟩ := M_goesOn hG (I := onI g G) (a := σ 68 0) (s := σ 68 1) (Z := panZ P) (n := 200) (by omega) (jm_up τ2 61 24 ((1 : Int32) <<< (nI g &&& 31))) (by rw [DM, k61 5 (by decide), kc' 66 (by decide), kc' 67 (by decide)]; exact km2.1) (fun j hj => by
        rw [k24, inB_one g (by omega) j (by omega), onI, decide_eq_true_eq]
        omega) (by rw [k61 20 (by decide)]; exact t1) (by rw [k61 21 (by decide)]; exact t2) (mZ_pan (by rw [pM, k61 15 (by decide), kc' 71 (by decide), kc' 72 (by decide), kc' 73 (by decide)]; exact t6) hb (by rw [k61 22 (by decide)]; exact t3) (by rw [k61 23 (by decide)]; exact t4))
      rw [← nI200] at b1
      refine ⟨ρ, ?_, (a5.trans (jFr.rf.u61 (by decide))).trans (jFr.of b4 (by decide) (by decide))⟩
      have w1 := (a3.2.2.2.2.2.1 g hg).2.2.2.2.1
      rw [hw] at w1
      have w2 := (b2.2.2.2.2.2.1 g hg).2.2.2.2.1
      have ng : ¬ (nI g < 0 ∨ 12 ≤ g) := by rw [jbad2 (show g < 12 by omega) (by decide)]; exact id
      rw [M_late_in, M_isGrain hG _ τ (KM_c km hτ).1.1, jbi_some, ifn' _ c1, if_pos n10, a1, jbv_some, a2, jbv_some, nI_clamp (show g < 2 ^ 31 by omega), if_neg ng, b1, jbv_some, w1, w2, if_neg ng, if_neg ng, M_dear_in, jbi_some, d3]
      by_cases q1 : w = -1
      · rw [if_pos q1, if_pos q1]
      · rw [if_neg q1, if_neg q1]
        exact if_some _ _ _ _
def svI (T : Nat → Int32) (z : Int32) (i : Nat) : Nat → Bool := fun j => decide (¬ (j < i ∧ ¬ z ≤ T (4 * j + 2)))
theorem svI_0 (T : Nat → Int32) (z : Int32) : svI T z 0 = fun _ => true := by
  funext j
  exact decide_eq_true (fun q => by omega)
theorem svI_k {T : Nat → Int32} {z : Int32} {i : Nat} (h : z ≤ T (4 * i + 2)) : svI T z (i + 1) = svI T z i := by
  funext j
  unfold svI
  rw [Bool.eq_iff_iff, decide_eq_true_eq, decide_eq_true_eq]
  constructor
  · rintro q ⟨q1, q2⟩; exact q ⟨by omega, q2⟩
  · rintro q ⟨q1, q2⟩
    by_cases e : j = i
    · rw [e] at q2; exact q2 h
    · exact q ⟨by omega, q2⟩
theorem svI_o {T : Nat → Int32} {z : Int32} {i : Nat} (h : ¬ z ≤ T (4 * i + 2)) : svI T z (i + 1) = fun j => svI T z i j && decide (¬ j = i) := by
  funext j
  unfold svI
  rw [Bool.eq_iff_iff, Bool.and_eq_true, decide_eq_true_eq, decide_eq_true_eq, decide_eq_true_eq]
  constructor
  · intro q
    refine ⟨fun w => q ⟨by omega, w.2⟩, fun e => ?_⟩
    rw [e] at q; exact q ⟨by omega, h⟩
  · rintro ⟨q1, q2⟩ ⟨w1, w2⟩
    exact q1 ⟨by omega, w2⟩
theorem trait2 {G : Nat} (hG : G ≤ 12) {T : Nat → Int32} {pl : Nat → Nat} {i : Nat} (hi : i < G) (σ : jm_S) (h : DC σ G T pl) : jc 12 [.ref 1, .int (nI i), .int 2] σ = some (some (.int (T (4 * i + 2))), σ) := by
  rw [Grains_trait_in, j4g2, nI_clamp (show 4 * i + 2 < 2 ^ 31 by omega), if_neg (by rw [jbad2 (show 4 * i + 2 < 48 by omega) (by decide)]; exact id), h.2.2 (4 * i + 2) (by omega)]
abbrev SV (G : Nat) (T : Nat → Int32) (pl : Nat → Nat) (P : Pn) (se : Nat → Int32) (z : Int32) (n : Nat) : Sm := run G T (svI T z G) (se 0) (se 1) pl (panZ P) n
theorem sieve_loop {G : Nat} (hG : G ≤ 12) {T : Nat → Int32} {pl : Nat → Nat} {P : Pn} (hb : bndS P 61) {se : Nat → Int32} (z : Int32) {n : Nat} (hn : n ≤ 200) : ∀ (k i : Nat) (σ : jm_S), i + k = G → KC G T pl P se σ → CR_11 G T (svI T z i) (se 0) (se 1) 0 (beg G T (svI T z i) pl) σ → ∃ ρ, jv 80 6 [some (.ref 0), some (.int z), some (.int (nI n)), some (.int (nI i))] [] σ = some (none, ρ) ∧ CS_11 G (svI T z G) (SV G T pl P se z n) ρ ∧ cFr σ ρ := by
  intro k
  induction k with
  | zero =>
    intro i σ hi hK h
    have e : i = G := by omega
    subst e
    obtain ⟨ρ, a1, a2, a3⟩ := settle_11 hG (pl := pl) (Z := panZ P) (t := 0) hn (by omega) σ (pP_onZ hK.2.2 hb hn) h
    refine ⟨ρ, ?_, a2, cFr.of a3 (by decide)⟩
    rw [P_sieve_L6, hK.1.1, if_pos (nI_le (Nat.le_refl _) (by omega)), a1, jbv_some]
  | succ k ih =>
    intro i σ hi hK h
    have r0 := P_sieve_L6 z (nI n) (nI i) σ
    rw [hK.1.1, if_neg (nI_ge (show i < G by omega) (by omega)), trait2 hG (show i < G by omega) σ hK.1, jbi_some, nI_1] at r0
    by_cases c : z ≤ T (4 * i + 2)
    · obtain ⟨ρ, b1, b2, b3⟩ := ih (i + 1) σ (by omega) hK (by rw [svI_k c]; exact h)
      rw [if_pos c, b1] at r0
      exact ⟨ρ, r0, b2, b3⟩
    · obtain ⟨τ, a1, a2, a3⟩ := takeOut_11 hG (show i < G by omega) (show svI T z i i = true from decide_eq_true (show ¬ (i < i ∧ ¬ z ≤ T (4 * i + 2)) from fun q => by omega)) σ h
      have fr : cFr σ τ := cFr.of a3 (by decide)
      obtain ⟨ρ, b1, b2, b3⟩ := ih (i + 1) τ (by omega) (KC_fr hK fr) (by rw [svI_o c]; exact a2)
      rw [if_neg c, a1, jbv_some, b1] at r0
      exact ⟨ρ, r0, b2, fr.trans b3⟩
theorem P_sieve {G : Nat} (hG : G ≤ 12) {T : Nat → Int32} {pl : Nat → Nat} {P : Pn} (hb : bndS P 61) {se : Nat → Int32} (z : Int32) {n : Nat} (hn : n ≤ 200) (σ : jm_S) (hK : KC G T pl P se σ) : ∃ ρ, jc 80 [.ref 0, .int z, .int (nI n)] σ = some (none, ρ) ∧ CS_11 G (svI T z G) (SV G T pl P se z n) ρ ∧ cFr σ ρ := by
  obtain ⟨τ, b1, b2, b3⟩ := fillPan hG σ hK
  obtain ⟨ρ, e1, e2, e3⟩ := sieve_loop hG hb z hn G 0 τ (by omega) (KC_fr hK b3) (by rw [svI_0]; exact b2)
  rw [nI_0] at e1
  exact ⟨ρ, by rw [P_sieve_in, b1, jbv_some, e1], e2, b3.trans e3⟩
def svV (G : Nat) (I : Nat → Bool) (X : Sm) (w : Int32) : Int32 := if w = 0 then nI (nmN G I 1 X) else if w = 1 then lgN G I X else if w = 2 then nI (nmN G I 0 X) else nI (nmN G I 2 X)
theorem P_tellSieved {G : Nat} (hG : G ≤ 12) {T : Nat → Int32} {pl : Nat → Nat} {P : Pn} {se : Nat → Int32} (z : Int32) {n : Nat} (hn : n ≤ 200) (w : Int32) (hw : ¬ (w < 0 ∨ 3 < w)) (σ : jm_S) (h : CS_11 G (svI T z G) (SV G T pl P se z n) σ) : jc 81 [.ref 0, .int (nI n), .int w] σ = some (some (.int (svV G (svI T z G) (SV G T pl P se z n) w)), σ) := by
  rw [P_tellSieved_in]
  rcases j4 hw with e | e | e | e <;> subst e
  · rw [P_tellSieved_S1_0, openAt_11 hG (Nat.le_refl n) hn σ h, jbi_some]; rfl
  · rw [P_tellSieved_S1_1, largeAt_11 hG (Nat.le_refl n) hn σ h, jbi_some]; rfl
  · rw [P_tellSieved_S1_2, wholeAt_11 hG (Nat.le_refl n) hn σ h, jbi_some]; rfl
  · rw [P_tellSieved_S1_o _ _ _ _ (by decide +kernel), burntAt_11 hG (Nat.le_refl n) hn σ h, jbi_some]; rfl
theorem M_sieve_loop {G : Nat} (hG : G ≤ 12) {T : Nat → Int32} {pl : Nat → Nat} {P : Pn} (hb : bndS P 61) {se : Nat → Int32} (z : Int32) {n : Nat} (hn : n ≤ 200) (w : Int32) : ∀ (k i : Nat) (σ : jm_S), i + k = G → KM G T pl P se σ → σ 61 20 = se 0 → σ 61 21 = se 1 → σ 61 22 = -1 → σ 61 23 = -1 → pM σ P → (∀ g, g < G → (inB (σ 61 24) g ↔ svI T z i g = true)) → ∃ ρ, jv 184 7 [some (.ref 61), some (.int z), some (.int (nI n)), some (.int w), some (.int (nI i))] [] σ = some (some (.int (svV G (svI T z G) (SV G T pl P se z n) w)), ρ) ∧ jFr mS mK' σ ρ := by
  intro k
  induction k with
  | zero =>
    intro i σ hi hK h20 h21 h22 h23 hp hI
    have e : i = G := by omega
    subst e
    obtain ⟨ρ, a1, a2, a3, a4⟩ := M_goesOn hG (I := svI T z i) (Z := panZ P) hn σ hK.1 hI h20 h21 (mZ_pan hp hb h22 h23)
    refine ⟨ρ, ?_, jFr.of a4 (by decide) (by decide)⟩
    rw [M_sievedOf_L7, hK.1.1, if_pos (nI_le (Nat.le_refl _) (by omega)), a1, jbv_some, M_many hG 2 ρ a2, jbi_some, M_many hG 0 ρ a2, jbi_some, M_allLarge hG ρ a2, jbi_some, M_many hG 1 ρ a2, jbi_some, svV]
    by_cases c0 : w = 0
    · rw [if_neg (not_not_intro c0), if_pos c0]
    · rw [if_pos c0, if_neg c0]
      by_cases c1 : w = 1
      · rw [if_neg (not_not_intro c1), if_pos c1]
      · rw [if_pos c1, if_neg c1]
        by_cases c2 : w = 2
        · rw [if_neg (not_not_intro c2), if_pos c2]
        · rw [if_pos c2, if_neg c2]
  | succ k ih =>
    intro i σ hi hK h20 h21 h22 h23 hp hI
    have r0 := M_sievedOf_L7 z (nI n) w (nI i) σ
    rw [hK.1.1, if_neg (nI_ge (show i < G by omega) (by omega)), j4n2, nI_clamp (show 4 * i + 2 < 2 ^ 31 by omega), if_neg (by rw [jbad2 (show 4 * i + 2 < 48 by omega) (by decide)]; exact id), hK.1.2.2 (4 * i + 2) (by omega), nI_1] at r0
    have go : ∀ m : Int32, (∀ g, g < G → (inB (σ 61 24 &&& m) g ↔ svI T z (i + 1) g = true)) → ∃ ρ, jv 184 7 [some (.ref 61), some (.int z), some (.int (nI n)), some (.int w), some (.int (nI (i + 1)))] [] (jm_up σ 61 24 (σ 61 24 &&& m)) = some (some (.int (svV G (svI T z G) (SV G T pl P se z n) w)), ρ) ∧ jFr mS mK' σ ρ := by
      intro m hm
      have k61 : ∀ j, j ≠ 24 → (jm_up σ 61 24 (σ 61 24 &&& m)) 61 j = σ 61 j := fun j hj => by rw [jup_s, jupd, if_neg hj]
      have k24 : (jm_up σ 61 24 (σ 61 24 &&& m)) 61 24 = σ 61 24 &&& m := by rw [jup_s, jupd, if_pos rfl]
      have fr : jFr mS mK' σ (jm_up σ 61 24 (σ 61 24 &&& m)) := jFr.rf.u61 (by decide)
      obtain ⟨ρ, b1, b2⟩ := ih (i + 1) (jm_up σ 61 24 (σ 61 24 &&& m)) (by omega) (KM_fr hK fr) (by rw [k61 20 (by decide)]; exact h20) (by rw [k61 21 (by decide)]; exact h21) (by rw [k61 22 (by decide)]; exact h22) (by rw [k61 23 (by decide)]; exact h23) (by rw [pM, k61 15 (by decide), jup_n _ _ _ (by decide), jup_n _ _ _ (by decide), jup_n _ _ _ (by decide)]; exact hp) (by rw [k24]; exact hm)
      exact ⟨ρ, b1, fr.trans b2⟩
    by_cases c : z ≤ T (4 * i + 2)
    · obtain ⟨ρ, b1, b2⟩ := go (-1) (fun g hg => by
        rw [inB_and, svI_k c, hI g hg]
        exact ⟨fun q => q.1, fun q => ⟨q, inB_m1 g (by omega)⟩⟩)
      rw [if_pos c, b1] at r0
      exact ⟨ρ, r0, b2⟩
    · obtain ⟨ρ, b1, b2⟩ := go (((1 : Int32) <<< (nI i &&& 31)) ^^^ (-1)) (fun g hg => by
        rw [inB_and, svI_o c, hI g hg, inB_not i (by omega) g (by omega), Bool.and_eq_true, decide_eq_true_eq])
      rw [if_neg c, b1] at r0
      exact ⟨ρ, r0, b2⟩
theorem M_sievedOf {G : Nat} (hG : G ≤ 12) {T : Nat → Int32} {pl : Nat → Nat} {P : Pn} (hb : bndS P 61) {se : Nat → Int32} (z : Int32) {n : Nat} (hn : n ≤ 200) (w : Int32) (σ : jm_S) (hK : KM G T pl P se σ) : ∃ ρ, jc 184 [.ref 61, .int z, .int (nI n), .int w] σ = some (some (.int (svV G (svI T z G) (SV G T pl P se z n) w)), ρ) ∧ jFr mS mK' σ ρ := by
  obtain ⟨τ, a1, ⟨t1, t2, t3, t4, t5, t6⟩, a3⟩ := M_tries hG σ hK
  obtain ⟨ρ, b1, b2⟩ := M_sieve_loop hG hb z hn w G 0 τ (by omega) (KM_fr hK a3) t1 t2 t3 t4 t6 (by rw [svI_0]; exact t5)
  rw [nI_0] at b1
  exact ⟨ρ, by rw [M_sievedOf_in, a1, jbv_some, b1], a3.trans b2⟩
theorem A_sieved {σ : jm_S} (h : I_all σ) (z x w : Int32) : jSame σ sS mK' I_all (jc 79 [.ref 0, .int z, .int x, .int w]) (jc 183 [.ref 61, .int z, .int x, .int w]) := by
  obtain ⟨G, pl, P, hG, hb, hgr, hhe, kc, km⟩ := K_of h
  by_cases c0 : z < 1 ∨ 9 < z
  · exact sim_bad h (by rw [P_sieved_in, P_isOutside, jbi_some, ifc _ c0, if_pos n10]) (by rw [M_sieved_in, M_isOf2, jbi_some, ifc' _ c0, if_pos rfl])
  · by_cases c1 : x < 1 ∨ 200 < x
    · exact sim_bad h (by rw [P_sieved_in, P_isOutside, jbi_some, ifn _ c0, if_neg (not_not_intro rfl), P_isOutside, jbi_some, ifc _ c1, if_pos n10]) (by rw [M_sieved_in, M_isOf2, jbi_some, ifn' _ c0, if_neg n10, M_isLong, jbi_some, ifc' _ c1, if_pos rfl])
    · by_cases c3 : w < 0 ∨ 3 < w
      · exact sim_bad h (by rw [P_sieved_in, P_isOutside, jbi_some, ifn _ c0, if_neg (not_not_intro rfl), P_isOutside, jbi_some, ifn _ c1, if_neg (not_not_intro rfl), P_isOutside, jbi_some, ifc _ c3, if_neg n10]) (by rw [M_sieved_in, M_isOf2, jbi_some, ifn' _ c0, if_neg n10, M_isLong, jbi_some, ifn' _ c1, if_neg n10, M_in w 0 3 0 3 (by decide +kernel) (by decide +kernel), jbi_some, ifc' _ c3, if_pos rfl])
      · obtain ⟨n, n1, hn, rfl⟩ := jN1200 c1
        refine sim_call h (v := some (.int (svV G (svI (σ 67) z G) (SV G (σ 67) pl P (σ 68) z n) w))) ?_ (fun τ hτ => ?_)
        · obtain ⟨ρ, a1, a2, a3⟩ := P_sieve hG hb z hn σ kc
          refine ⟨ρ, ?_, a3⟩
          rw [P_sieved_in, P_isOutside, jbi_some, ifn _ c0, if_neg (not_not_intro rfl), P_isOutside, jbi_some, ifn _ c1, if_neg (not_not_intro rfl), P_isOutside, jbi_some, ifn _ c3, if_pos rfl, a1, jbv_some, P_tellSieved hG z hn w c3 ρ a2, jbi_some]
        · obtain ⟨ρ, a1, a2⟩ := M_sievedOf hG hb z hn w τ (KM_c km hτ)
          refine ⟨ρ, ?_, a2⟩
          rw [M_sieved_in, M_isOf2, jbi_some, ifn' _ c0, if_neg n10, M_isLong, jbi_some, ifn' _ c1, if_neg n10, M_in w 0 3 0 3 (by decide +kernel) (by decide +kernel), jbi_some, ifn' _ c3, if_neg n10, a1, jbi_some]
