/-! ===== after, sounds ===== -/
abbrev RN (G : Nat) (T : Nat → Int32) (pl : Nat → Nat) (P : Pn) (se : Nat → Int32) (t : Nat) : Sm := run G T (fun _ => true) (se 0) (se 1) pl (panZ P) t
theorem fillPan {G : Nat} (hG : G ≤ 12) {T : Nat → Int32} {pl : Nat → Nat} {P : Pn} {se : Nat → Int32} (σ : jm_S) (h : KC G T pl P se σ) : ∃ ρ, jc 37 [.ref 0] σ = some (none, ρ) ∧ CR_11 G T (fun _ => true) (se 0) (se 1) 0 (beg G T (fun _ => true) pl) ρ ∧ cFr σ ρ := by
  obtain ⟨ρ, e1, e2, e3⟩ := fill_11 hG (se 0) (se 1) σ h.1
  refine ⟨ρ, ?_, e2, cFr.of e3 (by decide)⟩
  rw [P_fillPan_in, h.2.1 1 (by omega), h.2.1 0 (by omega), e1, jbv_some]
theorem cook {G : Nat} (hG : G ≤ 12) {T : Nat → Int32} {pl : Nat → Nat} {P : Pn} (hb : bndS P 61) {se : Nat → Int32} {n : Nat} (hn : n ≤ 200) (σ : jm_S) (h : KC G T pl P se σ) : ∃ ρ, jc 49 [.ref 0, .int (nI n)] σ = some (none, ρ) ∧ CS_11 G (fun _ => true) (RN G T pl P se n) ρ ∧ cFr σ ρ := by
  obtain ⟨τ, e1, e2, e3⟩ := fillPan hG σ h
  obtain ⟨ρ, g1, g2, g3⟩ := settle_11 hG (pl := pl) (Z := panZ P) (t := 0) hn (by omega) τ (pP_onZ (KC_fr h e3).2.2 hb hn) e2
  exact ⟨ρ, by rw [P_cook_in, e1, jbv_some, g1, jbv_some], g2, e3.trans (cFr.of g3 (by decide))⟩
theorem inB_all : ∀ G, G < 13 → ∀ g, g < G → inB (((1 : Int32) <<< (nI G &&& 31)) - 1) g := by decide +kernel
def TR (G : Nat) (P : Pn) (se : Nat → Int32) (σ : jm_S) : Prop := σ 61 20 = se 0 ∧ σ 61 21 = se 1 ∧ σ 61 22 = -1 ∧ σ 61 23 = -1 ∧ (∀ g, g < G → (inB (σ 61 24) g ↔ (fun _ : Nat => true) g = true)) ∧ pM σ P
theorem M_tries0 {G : Nat} (hG : G ≤ 12) {T : Nat → Int32} {pl : Nat → Nat} {P : Pn} {se : Nat → Int32} (σ : jm_S) (h : KM G T pl P se σ) : ∃ ρ, jc 150 [.ref 61] σ = some (none, ρ) ∧ TR G P se ρ ∧ jFr [71, 72, 73] [11, 15, 16, 20, 21, 22, 23, 24] σ ρ := by
  obtain ⟨d, s6, n, y, t1, t2, t3, t4⟩ := h
  have r0 := M_tries_in σ
  rw [s6 0 (by omega), s6 1 (by omega), d.1] at r0
  generalize hτ : (jm_up (jm_up (jm_up (jm_up (jm_up σ 61 20 (se 0)) 61 21 (se 1)) 61 22 (-1 : Int32)) 61 23 (-1 : Int32)) 61 24 (((1 : Int32) <<< (nI G &&& 31)) - (1 : Int32))) = τ at r0
  have fr : ∀ c, c ≠ 61 → τ c = σ c := fun c hc => by rw [← hτ, jup_n _ _ _ hc, jup_n _ _ _ hc, jup_n _ _ _ hc, jup_n _ _ _ hc, jup_n _ _ _ hc]
  have f61 : τ 61 20 = se 0 ∧ τ 61 21 = se 1 ∧ τ 61 22 = -1 ∧ τ 61 23 = -1 ∧ τ 61 24 = ((1 : Int32) <<< (nI G &&& 31)) - (1 : Int32) := by
    rw [← hτ]
    simp only [jup_s, jupd]
    exact ⟨rfl, rfl, rfl, rfl, rfl⟩
  have k61 : jFr [71, 72, 73] [11, 15, 16, 20, 21, 22, 23, 24] σ τ := by
    rw [← hτ]
    exact ((((jFr.rf.u61 (by decide)).u61 (by decide)).u61 (by decide)).u61 (by decide)).u61 (by decide)
  obtain ⟨ρ, e1, e2, e3⟩ := M_readsPan t1 τ (by rw [fr 70 (by decide)]; exact t2) (by rw [fr 69 (by decide)]; exact t3)
  rw [e1, jbi_some] at r0
  obtain ⟨f1, f2, f3, f4, f5⟩ := f61
  refine ⟨ρ, r0, ⟨by rw [e2.2 20 (by decide)]; exact f1, by rw [e2.2 21 (by decide)]; exact f2, by rw [e2.2 22 (by decide)]; exact f3, by rw [e2.2 23 (by decide)]; exact f4, fun g hg => ?_, by rw [t4]; exact e3⟩, k61.trans (e2.weak (by decide) (by decide))⟩
  rw [e2.2 24 (by decide), f5]
  exact ⟨fun _ => rfl, fun _ => inB_all G (by omega) g hg⟩
theorem M_tries {G : Nat} (hG : G ≤ 12) {T : Nat → Int32} {pl : Nat → Nat} {P : Pn} {se : Nat → Int32} (σ : jm_S) (h : KM G T pl P se σ) : ∃ ρ, jc 150 [.ref 61] σ = some (none, ρ) ∧ TR G P se ρ ∧ jFr mS mK' σ ρ := by
  obtain ⟨ρ, e1, e2, e3⟩ := M_tries0 hG σ h
  exact ⟨ρ, e1, e2, e3.weak (by decide) (by decide)⟩
theorem M_goes_told {G : Nat} (hG : G ≤ 12) {T : Nat → Int32} {pl : Nat → Nat} {P : Pn} (hb : bndS P 61) {se : Nat → Int32} {n : Nat} (hn : n ≤ 200) (σ : jm_S) (h : KM G T pl P se σ) (ht : TR G P se σ) : ∃ ρ, jc 151 [.ref 61, .int (nI n)] σ = some (none, ρ) ∧ MR G T (fun _ => true) (se 0) (se 1) (RN G T pl P se n) ρ ∧ (∀ j, j < n → ρ 84 j = nI (snN G (fun _ => true) (RN G T pl P se j) (RN G T pl P se (j + 1)))) ∧ jFr mS mK' σ ρ ∧ TR G P se ρ := by
  obtain ⟨t1, t2, t3, t4, t5, t6⟩ := ht
  obtain ⟨ρ, e1, e2, e3, e4⟩ := M_goesOn hG (I := fun _ => true) (Z := panZ P) hn σ h.1 t5 t1 t2 (mZ_pan t6 hb t3 t4)
  refine ⟨ρ, e1, e2, e3, jFr.of e4 (by decide) (by decide), ?_⟩
  unfold TR pM
  rw [e4 61 (by decide), e4 71 (by decide), e4 72 (by decide), e4 73 (by decide)]
  exact ⟨t1, t2, t3, t4, t5, t6⟩
theorem M_tries_goes {G : Nat} (hG : G ≤ 12) {T : Nat → Int32} {pl : Nat → Nat} {P : Pn} (hb : bndS P 61) {se : Nat → Int32} {n : Nat} (hn : n ≤ 200) (σ : jm_S) (h : KM G T pl P se σ) : ∃ τ ρ, jc 150 [.ref 61] σ = some (none, τ) ∧ jc 151 [.ref 61, .int (nI n)] τ = some (none, ρ) ∧ MR G T (fun _ => true) (se 0) (se 1) (RN G T pl P se n) ρ ∧ (∀ j, j < n → ρ 84 j = nI (snN G (fun _ => true) (RN G T pl P se j) (RN G T pl P se (j + 1)))) ∧ jFr mS mK' σ ρ ∧ TR G P se ρ := by
  obtain ⟨τ, a1, a2, a3⟩ := M_tries hG σ h
  obtain ⟨ρ, b1, b2, b3, b4, b5⟩ := M_goes_told hG hb hn τ (KM_fr h a3) a2
  exact ⟨τ, ρ, a1, b1, b2, b3, a3.trans b4, b5⟩
/-- both sides told: a call of each -/
theorem sim_call {σ : jm_S} (h : I_all σ) {c1 c2 : jm_S → Option (Option Value × jm_S)} {v : Option Value} (h1 : ∃ τ, c1 σ = some (v, τ) ∧ cFr σ τ) (h2 : ∀ τ, cFr σ τ → ∃ ρ, c2 τ = some (v, ρ) ∧ jFr mS mK' τ ρ) : jSame σ sS mK' I_all c1 c2 := by
  obtain ⟨τ, a1, a2⟩ := h1
  obtain ⟨ρ, b1, b2⟩ := h2 τ a2
  exact ⟨v, τ, ρ, a1, b1, I_all_sim h (sim_fr a2 b2), sim_fr a2 b2⟩
theorem sim_bad {σ : jm_S} (h : I_all σ) {c1 c2 : jm_S → Option (Option Value × jm_S)} {v : Value} (h1 : c1 σ = some (some v, σ)) (h2 : c2 σ = some (some v, σ)) : jSame σ sS mK' I_all c1 c2 := jSame_bad h h1 h2
theorem jN200 {x : Int32} (h : ¬ (x < 0 ∨ 200 < x)) : ∃ n, n ≤ 200 ∧ x = nI n := jN (by decide +kernel) h
theorem jN199 {x : Int32} (h : ¬ (x < 0 ∨ 199 < x)) : ∃ n, n ≤ 199 ∧ x = nI n := jN (by decide +kernel) h
theorem ifc {P : Prop} (d : Decidable P) (hp : P) : (@ite Int32 P d 1 0) = 1 := if_pos hp
theorem ifn {P : Prop} (d : Decidable P) (hp : ¬ P) : (@ite Int32 P d 1 0) = 0 := if_neg hp
theorem ifc' {P : Prop} (d : Decidable P) (hp : P) : (@ite Int32 P d 0 1) = 0 := if_pos hp
theorem ifn' {P : Prop} (d : Decidable P) (hp : ¬ P) : (@ite Int32 P d 0 1) = 1 := if_neg hp
theorem n10 : ¬ (1 : Int32) = 0 := by decide
theorem A_after {σ : jm_S} (h : I_all σ) (x t w : Int32) : jSame σ sS mK' I_all (jc 36 [.ref 0, .int x, .int t, .int w]) (jc 149 [.ref 61, .int x, .int t, .int w]) := by
  obtain ⟨G, pl, P, hG, hb, hgr, hhe, kc, km⟩ := K_of h
  by_cases c1 : x < 0 ∨ nI G ≤ x
  · exact sim_bad h (by rw [P_after_in, Grains_has x σ hgr.1, jbi_some, ifc' _ c1, if_pos rfl]) (by rw [M_after_in, M_isGrain hG x σ hgr.2.1, jbi_some, ifc' _ c1, if_pos rfl])
  · by_cases c2 : t < 0 ∨ 200 < t
    · exact sim_bad h (by rw [P_after_in, Grains_has x σ hgr.1, jbi_some, ifn' _ c1, if_neg n10, P_isOutside, jbi_some, ifc _ c2, if_pos n10]) (by rw [M_after_in, M_isGrain hG x σ hgr.2.1, jbi_some, ifn' _ c1, if_neg n10, M_in t 0 200 0 200 (by decide +kernel) (by decide +kernel), jbi_some, ifc' _ c2, if_pos rfl])
    · by_cases c3 : w < 0 ∨ 5 < w
      · exact sim_bad h (by rw [P_after_in, Grains_has x σ hgr.1, jbi_some, ifn' _ c1, if_neg n10, P_isOutside, jbi_some, ifn _ c2, if_neg (not_not_intro rfl), P_isOutside, jbi_some, ifc _ c3, if_neg n10]) (by rw [M_after_in, M_isGrain hG x σ hgr.2.1, jbi_some, ifn' _ c1, if_neg n10, M_in t 0 200 0 200 (by decide +kernel) (by decide +kernel), jbi_some, ifn' _ c2, if_neg n10, M_in w 0 5 0 5 (by decide +kernel) (by decide +kernel), jbi_some, ifc' _ c3, if_neg (not_not_intro rfl)])
      · obtain ⟨n, hn, rfl⟩ := jN200 c2
        obtain ⟨g, hg, rfl⟩ := jNg (show G < 2 ^ 31 by omega) c1
        refine sim_call h (v := some (.int (if w = 0 then (RN G (σ 67) pl P (σ 68) n).wm g else if w = 1 then (RN G (σ 67) pl P (σ 68) n).wt g else if w = 2 then (RN G (σ 67) pl P (σ 68) n).pr g else if w = 3 then (RN G (σ 67) pl P (σ 68) n).st g else if w = 4 then (if (RN G (σ 67) pl P (σ 68) n).st g = 1 then (RN G (σ 67) pl P (σ 68) n).en g else -1) else (RN G (σ 67) pl P (σ 68) n).lg g))) ?_ (fun τ hτ => ?_)
        · obtain ⟨τ, a1, a2, a3⟩ := fillPan hG σ kc
          obtain ⟨ρ, b1, b2, b3⟩ := goOn_11 hG (pl := pl) (Z := panZ P) (t := 0) hn (by omega) τ (pP_onZ (KC_fr kc a3).2.2 hb hn) a2
          refine ⟨ρ, ?_, a3.trans (cFr.of b3 (by decide))⟩
          rw [P_after_in, Grains_has _ σ hgr.1, jbi_some, ifn' _ c1, if_neg n10, P_isOutside, jbi_some, ifn _ c2, if_neg (not_not_intro rfl), P_isOutside, jbi_some, ifn _ c3, if_pos rfl, a1, jbv_some, b1, jbv_some, tell_11 hG hg ρ b2 w c3, jbi_some]
        · obtain ⟨τ1, ρ, a1, a2, a3, a4, a5, a6⟩ := M_tries_goes hG hb hn τ (KM_c km hτ)
          refine ⟨ρ, ?_, a5⟩
          rw [M_after_in, M_isGrain hG _ τ (KM_c km hτ).1.1, jbi_some, ifn' _ c1, if_neg n10, M_in (nI n) 0 200 0 200 (by decide +kernel) (by decide +kernel), jbi_some, ifn' _ c2, if_neg n10, M_in w 0 5 0 5 (by decide +kernel) (by decide +kernel), jbi_some, ifn' _ c3, if_pos n10, a1, jbv_some, a2, jbv_some, M_isNow hG hg ρ a3 w c3, jbi_some]
theorem M_sounds_loop {G : Nat} {T : Nat → Int32} {pl : Nat → Nat} {P : Pn} {se : Nat → Int32} {n : Nat} (hn : n ≤ 199) (w : Int32) (σ : jm_S) (h : ∀ j, j < n + 1 → σ 84 j = nI (snN G (fun _ => true) (RN G T pl P se j) (RN G T pl P se (j + 1)))) : ∀ (k i : Nat), i + k = n + 1 → jv 161 31 [some (.ref 61), some (.int (nI n)), some (.int w), some (.int (nI (nmN G (fun _ => true) 1 (RN G T pl P se i)))), some (.int (nI i))] [] σ = some (some (.int (if w = 0 then nI (snN G (fun _ => true) (RN G T pl P se n) (RN G T pl P se (n + 1))) else nI (nmN G (fun _ => true) 1 (RN G T pl P se (n + 1))))), σ) := by
  intro k
  induction k with
  | zero =>
    intro i hi
    have e : i = n + 1 := by omega
    subst e
    rw [M_sounds_L31, if_pos (nI_lt (by omega) (by omega)), nI_clamp (show n < 2 ^ 31 by omega), if_neg (show ¬ (nI n < 0 ∨ 200 ≤ n) by rw [jbad2 (show n < 200 by omega) (by decide)]; exact id), h n (by omega)]
    by_cases c : w = 0
    · rw [if_pos c, if_pos c]
    · rw [if_neg c, if_neg c]
  | succ k ih =>
    intro i hi
    rw [M_sounds_L31, if_neg (nI_nlt (by omega) (by omega)), nI_clamp (show i < 2 ^ 31 by omega), if_neg (by rw [jbad2 (show i < 200 by omega) (by decide)]; exact id), h i (by omega), nI_1, nI_add, ← nm1_s, ih (i + 1) (by omega)]
theorem A_sounds {σ : jm_S} (h : I_all σ) (x w : Int32) : jSame σ sS mK' I_all (jc 48 [.ref 0, .int x, .int w]) (jc 161 [.ref 61, .int x, .int w]) := by
  obtain ⟨G, pl, P, hG, hb, hgr, hhe, kc, km⟩ := K_of h
  by_cases c1 : x < 0 ∨ 199 < x
  · exact sim_bad h (by rw [P_sounds_in, P_isOutside, jbi_some, ifc _ c1, if_neg n10]) (by rw [M_sounds_in, M_in x 0 199 0 199 (by decide +kernel) (by decide +kernel), jbi_some, ifc' _ c1, if_neg (not_not_intro rfl)])
  · obtain ⟨n, hn, rfl⟩ := jN199 c1
    refine sim_call h (v := some (.int (if w = 0 then nI (snN G (fun _ => true) (RN G (σ 67) pl P (σ 68) n) (RN G (σ 67) pl P (σ 68) (n + 1))) else nI (nmN G (fun _ => true) 1 (RN G (σ 67) pl P (σ 68) (n + 1)))))) ?_ (fun τ hτ => ?_)
    · obtain ⟨ρ, a1, a2, a3⟩ := cook hG hb (show 200 ≤ 200 by omega) σ kc
      rw [← nI200] at a1
      refine ⟨ρ, ?_, a3⟩
      rw [P_sounds_in, P_isOutside, jbi_some, ifn _ c1, if_pos rfl, a1, jbv_some, goneIn_11 hG (show n < 200 by omega) (by omega) ρ a2, jbi_some, nI_1, openAt_11 hG (show n + 1 ≤ 200 by omega) (by omega) ρ a2, jbi_some]
      by_cases c : w = 0
      · rw [if_pos c, if_pos c]
      · rw [if_neg c, if_neg c]
    · obtain ⟨τ1, ρ, a1, a2, a3, a4, a5, a6⟩ := M_tries_goes hG hb (show n + 1 ≤ 200 by omega) τ (KM_c km hτ)
      refine ⟨ρ, ?_, a5⟩
      have l := M_sounds_loop hn w ρ a4 (n + 1) 0 (by omega)
      have e0 : nmN G (fun _ => true) 1 (RN G (σ 67) pl P (σ 68) 0) = 0 := nm1_0 G _ _ _ _ pl (panZ P)
      rw [e0, nI_0] at l
      rw [M_sounds_in, M_in (nI n) 0 199 0 199 (by decide +kernel) (by decide +kernel), jbi_some, ifn' _ c1, if_pos n10, a1, jbv_some, nI_1, a2, jbv_some, l]
