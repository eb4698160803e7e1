/-! ===== what both sides are told: one picture ===== -/
abbrev cS : List Nat := [11, 12, 13, 14, 15, 16, 17, 18, 19, 20, 21, 22, 23, 24, 25, 26, 27, 28, 29, 30, 31, 32, 33, 34, 36, 37]
abbrev mS : List Nat := [71, 72, 73, 74, 75, 76, 77, 78, 79, 80, 81, 82, 83, 84, 85, 86]
abbrev mK' : List Nat := [11, 15, 16, 17, 20, 21, 22, 23, 24]
abbrev sS : List Nat := [11, 12, 13, 14, 15, 16, 17, 18, 19, 20, 21, 22, 23, 24, 25, 26, 27, 28, 29, 30, 31, 32, 33, 34, 36, 37, 71, 72, 73, 74, 75, 76, 77, 78, 79, 80, 81, 82, 83, 84, 85, 86]
def cFr (σ ρ : jm_S) : Prop := ∀ c, c ∉ cS → ρ c = σ c
theorem cFr.rf {σ : jm_S} : cFr σ σ := fun _ _ => rfl
theorem cFr.trans {σ ρ τ : jm_S} (h : cFr σ ρ) (h2 : cFr ρ τ) : cFr σ τ := fun c hc => (h2 c hc).trans (h c hc)
theorem cFr.of {L : List Nat} {σ ρ : jm_S} (h : ∀ c, c ∉ L → ρ c = σ c) (hL : ∀ c, c ∈ L → c ∈ cS) : cFr σ ρ := fun c hc => h c (fun q => hc (hL c q))
theorem jFr.of {L S K : List Nat} {σ ρ : jm_S} (h : ∀ c, c ∉ L → ρ c = σ c) (hL : ∀ c, c ∈ L → c ∈ S) (h61 : 61 ∉ L) : jFr S K σ ρ := ⟨fun c hc _ => h c (fun q => hc (hL c q)), fun _ _ => by rw [h 61 h61]⟩
theorem sim_fr {σ τ ρ : jm_S} (h : cFr σ τ) (h2 : jFr mS mK' τ ρ) : jFr sS mK' σ ρ := by
  refine ⟨fun c hc h61 => ?_, fun k hk => ?_⟩
  · rw [h2.1 c (fun q => hc (by revert q; simp only [List.mem_cons, List.not_mem_nil, or_false]; omega)) h61, h c (fun q => hc (by revert q; simp only [List.mem_cons, List.not_mem_nil, or_false]; omega))]
  · rw [h2.2 k hk, h 61 (by decide)]
def I_all (σ : jm_S) : Prop := I_sl σ ∧ I_gh σ ∧ I_se σ ∧ I_tx σ
theorem I_se_fr {σ ρ : jm_S} (h : I_se σ) (h4 : ρ 4 = σ 4) (h68 : ρ 68 = σ 68) : I_se ρ := by
  unfold I_se at *
  rw [h4, h68]; exact h
theorem I_all_sim {σ ρ : jm_S} (h : I_all σ) (hf : jFr sS mK' σ ρ) : I_all ρ := by
  obtain ⟨h1, h2, h3, h4⟩ := h
  have fr : ∀ c, c ∉ sS → c ≠ 61 → ρ c = σ c := hf.1
  refine ⟨I_sl_c h1 (fr 0 (by decide) (by decide)) (hf.2 4 (by decide)) (fun a h53 h64 h61 => fr a (by simp only [List.mem_cons, List.not_mem_nil, or_false]; omega) h61), I_gh_c h2 (by rw [fr 1 (by decide) (by decide)]) (hf.2 5 (by decide)) (hf.2 36 (by decide)) (by rw [fr 38 (by decide) (by decide)]) (fun a ha => ?_), I_se_fr h3 (fr 4 (by decide) (by decide)) (fr 68 (by decide) (by decide)), I_tx_fr h4 (fun c hc => ?_)⟩
  · simp only [List.mem_cons, List.not_mem_nil, or_false] at ha
    rcases ha with e | e | e | e | e | e | e | e <;> subst e <;> exact fr _ (by decide) (by decide)
  · simp only [List.mem_cons, List.not_mem_nil, or_false] at hc
    exact fr c (by simp only [List.mem_cons, List.not_mem_nil, or_false]; omega) (by omega)
/-! the pan's shakes are few -/
def bndS (P : Pn) (q : Nat) : Prop := ∀ j, ∃ m, m ≤ q ∧ P.S j = nI m
theorem bnd_s {P : Pn} {q r : Nat} (h : bndS P q) (hq : q ≤ r) : bndS P r := fun j => by obtain ⟨m, h1, h2⟩ := h j; exact ⟨m, by omega, h2⟩
theorem bnd_cold (q : Nat) : bndS Pn.cold q := fun _ => ⟨0, by omega, nI_0.symm⟩
theorem bnd_paS {y : Nat → Int32} {n p q : Nat} {P : Pn} (h : bndS P q) : bndS (paS y n p P).2.2 (q + 1) := by
  have h' := bnd_s h (show q ≤ q + 1 by omega)
  unfold paS
  split
  · split
    · split
      · exact h'
      · split
        · split
          · exact h'
          · exact h'
        · exact h'
    · split
      · intro j
        obtain ⟨m, h1, h2⟩ := h j
        show ∃ m, m ≤ q + 1 ∧ (if j = P.s then P.S j + 1 else P.S j) = nI m
        by_cases c : j = P.s
        · rw [if_pos c, h2, nI_1]; exact ⟨m + 1, by omega, rfl⟩
        · rw [if_neg c]; exact ⟨m, by omega, h2⟩
      · split
        · exact h'
        · split
          · exact h'
          · exact h'
  · exact h'
theorem bnd_paF {y : Nat → Int32} {n : Nat} : ∀ (k p q : Nat) (P : Pn), bndS P q → bndS (paF y n k p P).2 (q + k) := by
  intro k
  induction k with
  | zero => intro p q P h; exact h
  | succ k ih =>
    intro p q P h
    rw [paF]
    split
    · split
      · split
        · exact bnd_s (ih _ (q + 1) _ (bnd_paS h)) (by omega)
        · exact bnd_cold _
      · exact bnd_s (bnd_paS h) (by omega)
    · exact bnd_cold _
theorem bnd_paA {y : Nat → Int32} {n : Nat} (hn : n ≤ 60) : bndS (paA y n).2 61 := by
  unfold paA
  split
  · exact bnd_cold _
  · exact bnd_s (bnd_paF (n + 1) 0 0 _ (bnd_cold 0)) (by omega)
def panZ (P : Pn) : Pg := (P.H, fun j => (P.S j).toNatClampNeg, P.L)
def shZ (P : Pn) (k : Nat) : Pg := (P.H, fun j => (P.S j).toNatClampNeg + (if j = k then 1 else 0), P.L)
theorem bnd_n {P : Pn} (h : bndS P 61) (j : Nat) : P.S j = nI (P.S j).toNatClampNeg ∧ (P.S j).toNatClampNeg ≤ 61 := by
  obtain ⟨m, h1, h2⟩ := h j
  rw [h2, nI_clamp (show m < 2 ^ 31 by omega)]
  exact ⟨rfl, h1⟩
theorem pP_onZ {σ : jm_S} {P : Pn} (h : pP σ P) (hb : bndS P 61) {t n : Nat} (hn : n ≤ 200) : onZ σ (panZ P) t n := by
  intro j h1 h2
  obtain ⟨k1, k2, k3⟩ := h.2 j (by omega)
  obtain ⟨b1, b2⟩ := bnd_n hb j
  exact ⟨k1, k2.trans b1, (show (P.S j).toNatClampNeg < 2 ^ 31 by omega), k3⟩
theorem mK_none {σ : jm_S} {t : Nat} (ht : t < 200) (h : σ 61 23 = -1) : (if σ 61 23 = nI t then (1 : Int32) else 0) = 0 := by
  rw [h, if_neg (fun q => nI_ne_m1 (show t < 2 ^ 31 by omega) q.symm)]
theorem qq_mL (x : Int32) : qq (if x = 0 then 0 else 1) = qq x := by
  by_cases c : x = 0
  · rw [if_pos c, c]
  · rw [if_neg c, qq, qq, if_neg (by decide), if_neg c]
theorem mZ_pan {σ : jm_S} {P : Pn} (h : pM σ P) (hb : bndS P 61) (h22 : σ 61 22 = -1) (h23 : σ 61 23 = -1) : mZ σ (panZ P) := by
  intro t ht
  obtain ⟨k1, k2, k3⟩ := h.2 t ht
  obtain ⟨b1, b2⟩ := bnd_n hb t
  unfold mH mK mL
  rw [mK_none ht h23, if_pos h22, if_pos h22, if_pos h22, k1, k2, k3, qq_mL, i0]
  exact ⟨rfl, b1, (show (P.S t).toNatClampNeg < 2 ^ 31 by omega), rfl⟩
theorem mZ_even {σ : jm_S} {x : Int32} (h22 : σ 61 22 = x) (hx : ¬ x = -1) (h23 : σ 61 23 = -1) : mZ σ (evZ x) := by
  intro t ht
  unfold mH mK mL
  rw [mK_none ht h23, h22, if_neg hx, if_neg hx, if_neg hx]
  exact ⟨rfl, by rw [i0]; exact nI_0.symm, (show (0 : Nat) < 2 ^ 31 by decide), rfl⟩
theorem mZ_shake {σ : jm_S} {P : Pn} (h : pM σ P) (hb : bndS P 61) (h22 : σ 61 22 = -1) {k : Nat} (hk : k < 200) (h23 : σ 61 23 = nI k) : mZ σ (shZ P k) := by
  intro t ht
  obtain ⟨k1, k2, k3⟩ := h.2 t ht
  obtain ⟨b1, b2⟩ := bnd_n hb t
  unfold mH mK mL
  rw [if_pos h22, if_pos h22, if_pos h22, k1, k2, k3, qq_mL, h23]
  refine ⟨rfl, ?_, ?_, rfl⟩
  · show P.S t + (if nI k = nI t then (1 : Int32) else 0) = nI ((P.S t).toNatClampNeg + (if t = k then 1 else 0))
    by_cases c : t = k
    · rw [if_pos (by rw [c]), if_pos c, ← nI_1, ← b1]
    · rw [if_neg (fun q => c ((nI_eq (by omega) (by omega)).mp q).symm), if_neg c, i0]; exact b1
  · show (P.S t).toNatClampNeg + (if t = k then 1 else 0) < 2 ^ 31
    split <;> omega
/-! the picture -/
def PM (σ : jm_S) (P : Pn) : Prop := ∃ n y, n ≤ 60 ∧ σ 70 0 = nI n ∧ (∀ j, j < n → σ 69 (60 * 0 + j) = y j) ∧ P = (paA y n).2
def KC (G : Nat) (T : Nat → Int32) (pl : Nat → Nat) (P : Pn) (se : Nat → Int32) (σ : jm_S) : Prop := DC σ G T pl ∧ (∀ k, k < 6 → σ 4 k = se k) ∧ pP σ P
def KM (G : Nat) (T : Nat → Int32) (pl : Nat → Nat) (P : Pn) (se : Nat → Int32) (σ : jm_S) : Prop := DM σ G T pl ∧ (∀ k, k < 6 → σ 68 k = se k) ∧ PM σ P
theorem KC_fr {G : Nat} {T : Nat → Int32} {pl : Nat → Nat} {P : Pn} {se : Nat → Int32} {σ ρ : jm_S} (h : KC G T pl P se σ) (hf : cFr σ ρ) : KC G T pl P se ρ := by
  unfold KC DC pP at *
  rw [hf 1 (by decide), hf 2 (by decide), hf 3 (by decide), hf 4 (by decide), hf 6 (by decide), hf 7 (by decide), hf 8 (by decide), hf 9 (by decide)]
  exact h
theorem KM_c {G : Nat} {T : Nat → Int32} {pl : Nat → Nat} {P : Pn} {se : Nat → Int32} {σ ρ : jm_S} (h : KM G T pl P se σ) (hf : cFr σ ρ) : KM G T pl P se ρ := by
  unfold KM DM PM at *
  rw [hf 61 (by decide), hf 66 (by decide), hf 67 (by decide), hf 68 (by decide), hf 69 (by decide), hf 70 (by decide)]
  exact h
theorem KM_fr {G : Nat} {T : Nat → Int32} {pl : Nat → Nat} {P : Pn} {se : Nat → Int32} {σ ρ : jm_S} (h : KM G T pl P se σ) (hf : jFr mS mK' σ ρ) : KM G T pl P se ρ := by
  unfold KM DM PM at *
  rw [hf.2 5 (by decide), hf.1 66 (by decide) (by decide), hf.1 67 (by decide) (by decide), hf.1 68 (by decide) (by decide), hf.1 69 (by decide) (by decide), hf.1 70 (by decide) (by decide)]
  exact h
theorem K_of {σ : jm_S} (h : I_all σ) : ∃ G pl P, G ≤ 12 ∧ bndS P 61 ∧ I_gr σ G ∧ I_he σ G ∧ KC G (σ 67) pl P (σ 68) σ ∧ KM G (σ 67) pl P (σ 68) σ := by
  obtain ⟨h1, ⟨G, h2, h2'⟩, h3, ⟨⟨n, y, t1, t2, t3, t4, t5, t6⟩, h4⟩⟩ := h
  obtain ⟨g1, g2, g3, g4, g5, g6⟩ := id h2
  have pl : ∀ g, g < G → σ 66 g = nI (σ 66 g).toNatClampNeg ∧ (σ 66 g).toNatClampNeg < 4 := by
    intro g hg
    obtain ⟨_, p, p1, p2⟩ := g4 g hg
    rw [p2, nI_clamp (show p < 2 ^ 31 by omega)]
    exact ⟨rfl, p1⟩
  refine ⟨G, fun g => (σ 66 g).toNatClampNeg, (paA y n).2, g3, bnd_paA t1, h2, h2', ⟨⟨g1, fun g hg => ?_, g5⟩, h3.1, t6⟩, ⟨⟨g2, pl, fun _ _ => rfl⟩, fun _ _ => rfl, ⟨n, y, t1, t2, t3, rfl⟩⟩⟩
  rw [(g4 g hg).1]
  exact pl g hg
