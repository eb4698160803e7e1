/-! ===== fits: the model ===== -/
theorem M_offBy {G : Nat} (hG : G ≤ 12) {T : Nat → Int32} {pl : Nat → Nat} {P : Pn} (hb : bndS P 61) {se : Nat → Int32} {who wh : Nat → Nat} {h s : Nat} (hh : h ≤ 12) (σ : jm_S) (hD : DM σ G T pl) (hH : HM G who wh h σ) (h20 : σ 61 20 = se 0) (h22 : σ 61 22 = -1) (h23 : σ 61 23 = -1) (hI : ∀ g, g < G → (inB (σ 61 24) g ↔ (fun _ : Nat => true) g = true)) (hp : pM σ P) : ∃ ρ, jc 197 [.ref 61, .int (nI s)] σ = some (some (.int (ftV G T pl P se who wh h s)), ρ) ∧ (∀ c, c ∉ [76, 77, 78, 79, 80, 81, 82, 83, 84] → c ≠ 61 → ρ c = σ c) ∧ (∀ j, j ≠ 21 → ρ 61 j = σ 61 j) := by
  have k61 : ∀ i, i ≠ 21 → (jm_up σ 61 21 (nI s)) 61 i = σ 61 i := fun i hi => by rw [jup_s, jupd, if_neg hi]
  have k21 : (jm_up σ 61 21 (nI s)) 61 21 = nI s := by rw [jup_s, jupd, if_pos rfl]
  have kc : ∀ c, c ≠ 61 → (jm_up σ 61 21 (nI s)) c = σ c := fun c hc => by rw [jup_n _ _ _ hc]
  have hp2 : pM (jm_up σ 61 21 (nI s)) P := by rw [pM, k61 15 (by decide), kc 71 (by decide), kc 72 (by decide), kc 73 (by decide)]; exact hp
  obtain ⟨τ, a1, a2, a3, a4⟩ := M_goesOn hG (I := fun _ => true) (a := se 0) (s := nI s) (Z := panZ P) (n := 200) (by omega) (jm_up σ 61 21 (nI s)) (by rw [DM, k61 5 (by decide), kc 66 (by decide), kc 67 (by decide)]; exact hD) (by rw [k61 24 (by decide)]; exact hI) (by rw [k61 20 (by decide)]; exact h20) k21 (mZ_pan hp2 hb (by rw [k61 22 (by decide)]; exact h22) (by rw [k61 23 (by decide)]; exact h23))
  rw [← nI200] at a1
  have hH2 : HM G who wh h τ := by
    unfold HM at hH ⊢
    rw [a4 61 (by decide), k61 36 (by decide), a4 87 (by decide), kc 87 (by decide), a4 88 (by decide), kc 88 (by decide)]
    exact hH
  obtain ⟨u, e⟩ := sum_loop' (fun x i (u : Option Value × Option Value) => jv 197 16 [some (.ref 61), some (.int (nI s)), some (.int x), some (.int i), u.1, u.2] [] τ) (v := fun j => ofV (wentV (FT G T pl P se s) (who j)) (nI (wh j))) (G := h) (fun i x u hi => by
    obtain ⟨w1, w2, w3, w4⟩ := hH2.2 i hi
    have ni : ¬ (nI i < 0 ∨ 12 ≤ i) := by rw [jbad2 (show i < 12 by omega) (by decide)]; exact id
    have nw : ¬ (nI (who i) < 0 ∨ 12 ≤ who i) := by rw [jbad2 (show who i < 12 by omega) (by decide)]; exact id
    have t4 : τ 80 (who i) = wentV (FT G T pl P se s) (who i) := (a2.2.2.2.2.2.1 (who i) w2).2.2.2.2.1
    show ∃ u' : Option Value × Option Value, jv 197 16 [some (.ref 61), some (.int (nI s)), some (.int x), some (.int (nI i)), u.1, u.2] [] τ = jv 197 16 [some (.ref 61), some (.int (nI s)), some (.int (x + ofV (wentV (FT G T pl P se s) (who i)) (nI (wh i)))), some (.int (nI (i + 1))), u'.1, u'.2] [] τ
    rw [M_offBy_L16, hH2.1, if_neg (nI_ge hi (by omega)), nI_clamp (show i < 2 ^ 31 by omega), if_neg ni, w1, nI_clamp (show who i < 2 ^ 31 by omega), if_neg nw, if_neg ni, if_neg ni, if_neg ni, w3, t4, nI_1]
    unfold ofV
    by_cases q : wentV (FT G T pl P se s) (who i) = -1
    · rw [if_neg (not_not_intro q), if_neg (not_not_intro q), if_pos q]
      by_cases q2 : nI (wh i) ≤ wentV (FT G T pl P se s) (who i)
      · rw [if_pos q2]
        exact ⟨(some (.int (wentV (FT G T pl P se s) (who i))), some (.int (wentV (FT G T pl P se s) (who i) - nI (wh i)))), rfl⟩
      · rw [if_neg q2]
        exact ⟨(some (.int (wentV (FT G T pl P se s) (who i))), some (.int (nI (wh i) - wentV (FT G T pl P se s) (who i)))), rfl⟩
    · rw [if_pos q, if_pos q, if_neg q]
      by_cases q2 : nI (wh i) ≤ wentV (FT G T pl P se s) (who i)
      · rw [if_pos q2, if_pos q2]
        exact ⟨(some (.int (wentV (FT G T pl P se s) (who i))), some (.int (wentV (FT G T pl P se s) (who i) - nI (wh i)))), rfl⟩
      · rw [if_neg q2, if_neg q2]
        exact ⟨(some (.int (wentV (FT G T pl P se s) (who i))), some (.int (nI (wh i) - wentV (FT G T pl P se s) (who i)))), rfl⟩) (none, none)
  have e : jv 197 16 [some (.ref 61), some (.int (nI s)), some (.int 0), some (.int 0), none, none] [] τ = jv 197 16 [some (.ref 61), some (.int (nI s)), some (.int (ftV G T pl P se who wh h s)), some (.int (nI h)), u.1, u.2] [] τ := e
  refine ⟨τ, ?_, fun c hc h61 => by rw [a4 c hc, kc c h61], fun j hj => by rw [a4 61 (by decide), k61 j hj]⟩
  rw [M_offBy_in, a1, jbv_some, e, M_offBy_L16, hH2.1, if_pos (nI_le (Nat.le_refl _) (by omega))]
theorem M_fits117 (w : Int32) (hw : ¬ (w < 0 ∨ 4 < w)) (q : Q5) (x7 : Int32) (u : Option Value) (σ : jm_S) : jv 196 117 [some (.ref 61), some (.int w), some (.int q.1), some (.int q.2.1), some (.int q.2.2.1), some (.int q.2.2.2.1), some (.int q.2.2.2.2), some (.int x7), u] [.int w] σ = some (some (.int (fq q w)), σ) := by
  rcases j5 hw with e | e | e | e | e <;> subst e
  · rw [M_fitsOf_S117_0]; rfl
  · rw [M_fitsOf_S117_1]; rfl
  · rw [M_fitsOf_S117_2]; rfl
  · rw [M_fitsOf_S117_3]; rfl
  · rw [M_fitsOf_S117_o _ _ _ _ _ _ _ _ _ _ (by decide +kernel)]; rfl
theorem M_fits_step (w : Int32) (q : Q5) (s : Nat) (hs : s < 16) (u : Option Value) (r : Int32) (σ τ : jm_S) (ho : jc 197 [.ref 61, .int (nI s)] σ = some (some (.int r), τ)) : jv 196 30 [some (.ref 61), some (.int w), some (.int q.1), some (.int q.2.1), some (.int q.2.2.1), some (.int q.2.2.2.1), some (.int q.2.2.2.2), some (.int (nI s)), u] [] σ = jv 196 30 [some (.ref 61), some (.int w), some (.int (jd1 r (nI s) q).1), some (.int (jd1 r (nI s) q).2.1), some (.int (jd1 r (nI s) q).2.2.1), some (.int (jd1 r (nI s) q).2.2.2.1), some (.int (jd1 r (nI s) q).2.2.2.2), some (.int (nI (s + 1))), some (.int r)] [] τ := by
  rw [M_fitsOf_L30, if_neg (by rw [i16]; exact nI_ge (by omega) (by omega)), ho, jbi_some, nI_1]
  unfold jd1
  by_cases c1 : r = 0
  · simp only [if_pos c1, if_neg (not_not_intro c1)]
    by_cases c2 : q.1 = -1
    · simp only [if_pos c2, if_neg (not_not_intro c2)]
      by_cases c3 : q.2.2.2.1 = -1
      · simp only [if_pos c3, if_pos (show q.2.2.2.1 = -1 ∨ ¬ q.2.2.2.2 ≤ r from Or.inl c3)]
      · simp only [if_neg c3]
        by_cases c4 : q.2.2.2.2 ≤ r
        · simp only [if_pos c4, if_neg (show ¬ (q.2.2.2.1 = -1 ∨ ¬ q.2.2.2.2 ≤ r) by rintro (w | w); exact c3 w; exact w c4)]
        · simp only [if_neg c4, if_pos (show q.2.2.2.1 = -1 ∨ ¬ q.2.2.2.2 ≤ r from Or.inr c4)]
    · simp only [if_neg c2, if_pos c2]
      by_cases c3 : q.2.2.2.1 = -1
      · simp only [if_pos c3, if_pos (show q.2.2.2.1 = -1 ∨ ¬ q.2.2.2.2 ≤ r from Or.inl c3)]
      · simp only [if_neg c3]
        by_cases c4 : q.2.2.2.2 ≤ r
        · simp only [if_pos c4, if_neg (show ¬ (q.2.2.2.1 = -1 ∨ ¬ q.2.2.2.2 ≤ r) by rintro (w | w); exact c3 w; exact w c4)]
        · simp only [if_neg c4, if_pos (show q.2.2.2.1 = -1 ∨ ¬ q.2.2.2.2 ≤ r from Or.inr c4)]
  · simp only [if_neg c1, if_pos c1, i0]
    by_cases c3 : q.2.2.2.1 = -1
    · simp only [if_pos c3, if_pos (show q.2.2.2.1 = -1 ∨ ¬ q.2.2.2.2 ≤ r from Or.inl c3)]
    · simp only [if_neg c3]
      by_cases c4 : q.2.2.2.2 ≤ r
      · simp only [if_pos c4, if_neg (show ¬ (q.2.2.2.1 = -1 ∨ ¬ q.2.2.2.2 ≤ r) by rintro (w | w); exact c3 w; exact w c4)]
      · simp only [if_neg c4, if_pos (show q.2.2.2.1 = -1 ∨ ¬ q.2.2.2.2 ≤ r from Or.inr c4)]
theorem M_fits_loop {G : Nat} (hG : G ≤ 12) {T : Nat → Int32} {pl : Nat → Nat} {P : Pn} (hb : bndS P 61) {se : Nat → Int32} {who wh : Nat → Nat} {h : Nat} (hh : h ≤ 12) (w : Int32) (hw : ¬ (w < 0 ∨ 4 < w)) : ∀ (k s : Nat) (q : Q5) (u : Option Value) (σ : jm_S), s + k = 16 → DM σ G T pl → HM G who wh h σ → σ 61 20 = se 0 → σ 61 22 = -1 → σ 61 23 = -1 → (∀ g, g < G → (inB (σ 61 24) g ↔ (fun _ : Nat => true) g = true)) → pM σ P → ∃ ρ, jv 196 30 [some (.ref 61), some (.int w), some (.int q.1), some (.int q.2.1), some (.int q.2.2.1), some (.int q.2.2.2.1), some (.int q.2.2.2.2), some (.int (nI s)), u] [] σ = some (some (.int (fq (jdF (ftV G T pl P se who wh h) k s q) w)), ρ) ∧ jFr mS mK' σ ρ := by
  intro k
  induction k with
  | zero =>
    intro s q u σ hs hD hH h20 h22 h23 hI hp
    refine ⟨σ, ?_, jFr.rf⟩
    rw [M_fitsOf_L30, if_pos (by rw [i16]; exact nI_le (by omega) (by omega)), M_fits117 w hw]; rfl
  | succ k ih =>
    intro s q u σ hs hD hH h20 h22 h23 hI hp
    obtain ⟨τ, a1, a2, a3⟩ := M_offBy hG hb (se := se) (s := s) hh σ hD hH h20 h22 h23 hI hp
    have fr : jFr mS mK' σ τ := ⟨fun c hc h61 => a2 c (fun z => hc (by revert z; simp only [List.mem_cons, List.not_mem_nil, or_false]; omega)) h61, fun j hj => a3 j (fun e => hj (by rw [e]; decide))⟩
    obtain ⟨ρ, b1, b2⟩ := ih (s + 1) (jd1 (ftV G T pl P se who wh h s) (nI s) q) (some (.int (ftV G T pl P se who wh h s))) τ (by omega) (by rw [DM, a3 5 (by decide), a2 66 (by decide) (by decide), a2 67 (by decide) (by decide)]; exact hD) (HM_fr hH fr) (by rw [a3 20 (by decide)]; exact h20) (by rw [a3 22 (by decide)]; exact h22) (by rw [a3 23 (by decide)]; exact h23) (by rw [a3 24 (by decide)]; exact hI) (by rw [pM, a3 15 (by decide), a2 71 (by decide) (by decide), a2 72 (by decide) (by decide), a2 73 (by decide) (by decide)]; exact hp)
    exact ⟨ρ, by rw [M_fits_step w q s (by omega) u _ σ τ a1, b1]; rfl, fr.trans b2⟩
theorem M_fitsOf {G : Nat} (hG : G ≤ 12) {T : Nat → Int32} {pl : Nat → Nat} {P : Pn} (hb : bndS P 61) {se : Nat → Int32} {who wh : Nat → Nat} {h : Nat} (hh : h ≤ 12) (w : Int32) (hw : ¬ (w < 0 ∨ 4 < w)) (σ : jm_S) (hK : KM G T pl P se σ) (hH : HM G who wh h σ) : ∃ ρ, jc 196 [.ref 61, .int w] σ = some (some (.int (if h = 0 then -3 else fq (ftR G T pl P se who wh h) w)), ρ) ∧ jFr mS mK' σ ρ := by
  rw [M_fitsOf_in, hH.1]
  by_cases c : h = 0
  · rw [if_neg (by rw [c]; exact not_not_intro nI_0), if_pos c]
    exact ⟨σ, rfl, jFr.rf⟩
  · obtain ⟨τ, a1, ⟨t1, t2, t3, t4, t5, t6⟩, a3⟩ := M_tries hG σ hK
    obtain ⟨ρ, b1, b2⟩ := M_fits_loop hG hb (se := se) hh w hw 11 5 (-1, -1, 0, -1, 0) none τ (by omega) (KM_fr hK a3).1 (HM_fr hH a3) t1 t3 t4 t5 t6
    rw [show nI 5 = 5 by decide +kernel] at b1
    rw [if_pos (nI_ne0 (by omega) (by omega)), if_neg c, a1, jbv_some]
    exact ⟨ρ, b1, a3.trans b2⟩
abbrev fS : List Nat := [38, 11, 12, 13, 14, 15, 16, 17, 18, 19, 20, 21, 22, 23, 24, 25, 26, 27, 28, 29, 30, 31, 32, 33, 34, 36, 37, 71, 72, 73, 74, 75, 76, 77, 78, 79, 80, 81, 82, 83, 84, 85, 86]
theorem I_all_h {σ ρ : jm_S} (h : I_all σ) (hf : jFr fS mK' σ ρ) (h38 : ρ 38 2 = σ 38 2) : I_all ρ := by
  obtain ⟨h1, h2, h3, h4⟩ := h
  have fr : ∀ c, c ∉ fS → c ≠ 61 → ρ c = σ c := hf.1
  refine ⟨I_sl_c h1 (fr 0 (by decide) (by decide)) (hf.2 4 (by decide)) (fun a h53 h64 h61 => fr a (by simp only [List.mem_cons, List.not_mem_nil, or_false]; omega) h61), I_gh_c h2 (by rw [fr 1 (by decide) (by decide)]) (hf.2 5 (by decide)) (hf.2 36 (by decide)) h38 (fun a ha => ?_), I_se_fr h3 (fr 4 (by decide) (by decide)) (fr 68 (by decide) (by decide)), I_tx_fr h4 (fun c hc => ?_)⟩
  · simp only [List.mem_cons, List.not_mem_nil, or_false] at ha
    rcases ha with e | e | e | e | e | e | e | e <;> subst e <;> exact fr _ (by decide) (by decide)
  · simp only [List.mem_cons, List.not_mem_nil, or_false] at hc
    exact fr c (by simp only [List.mem_cons, List.not_mem_nil, or_false]; omega) (by omega)
theorem simh_fr {σ τ ρ : jm_S} (h : hFr σ τ) (h2 : jFr mS mK' τ ρ) : jFr fS mK' σ ρ ∧ ρ 38 2 = σ 38 2 := by
  refine ⟨⟨fun c hc h61 => ?_, fun k hk => ?_⟩, ?_⟩
  · rw [h2.1 c (fun q => hc (by revert q; simp only [List.mem_cons, List.not_mem_nil, or_false]; omega)) h61, h.1 c (fun q => hc (by revert q; simp only [List.mem_cons, List.not_mem_nil, or_false]; omega)) (fun e => hc (by rw [e]; decide))]
  · rw [h2.2 k hk, h.1 61 (by decide) (by decide)]
  · rw [h2.1 38 (by decide) (by decide), h.2]
theorem simh_call {σ : jm_S} (h : I_all σ) {c1 c2 : jm_S → Option (Option Value × jm_S)} {v : Option Value} (h1 : ∃ τ, c1 σ = some (v, τ) ∧ hFr σ τ) (h2 : ∀ τ, hFr σ τ → ∃ ρ, c2 τ = some (v, ρ) ∧ jFr mS mK' τ ρ) : jSame σ fS mK' I_all c1 c2 := by
  obtain ⟨τ, a1, a2⟩ := h1
  obtain ⟨ρ, b1, b2⟩ := h2 τ a2
  obtain ⟨f1, f2⟩ := simh_fr a2 b2
  exact ⟨v, τ, ρ, a1, b1, I_all_h h f1 f2, f1⟩
theorem A_fits {σ : jm_S} (h : I_all σ) (w : Int32) : jSame σ fS mK' I_all (jc 96 [.ref 0, .int w]) (jc 195 [.ref 61, .int w]) := by
  obtain ⟨G, pl, P, hG, hb, hgr, hhe, kc, km⟩ := K_of h
  obtain ⟨n, who, wh, hn, hc, hm⟩ := H_of hhe hG
  by_cases c1 : w < 0 ∨ 4 < w
  · exact jSame_bad h (by rw [P_fits_in, P_isOutside, jbi_some, ifc _ c1, if_neg n10]) (by rw [M_fits_in, M_in w 0 4 0 4 (by decide +kernel) (by decide +kernel), jbi_some, ifc' _ c1, if_pos rfl])
  · refine simh_call h (v := some (.int (if n = 0 then -3 else fq (ftR G (σ 67) pl P (σ 68) who wh n) w))) ?_ (fun τ hτ => ?_)
    · rw [P_fits_in, P_isOutside, jbi_some, ifn _ c1, if_pos rfl, hc.1]
      by_cases c : n = 0
      · rw [if_neg (by rw [c]; exact not_not_intro nI_0), if_pos c]
        exact ⟨σ, rfl, hFr.rf⟩
      · obtain ⟨ρ, a1, a2, a3⟩ := tryStrengths hG hb hn σ kc hc
        rw [if_pos (nI_ne0 (by omega) (by omega)), if_neg c, a1, jbv_some, Hearing_tell w c1 ρ a2, jbi_some]
        exact ⟨ρ, rfl, a3⟩
    · obtain ⟨ρ, a1, a2⟩ := M_fitsOf hG hb hn w c1 τ (KM_h km hτ) (HM_h hm hτ)
      refine ⟨ρ, ?_, a2⟩
      rw [M_fits_in, M_in w 0 4 0 4 (by decide +kernel) (by decide +kernel), jbi_some, ifn' _ c1, if_neg n10, a1, jbi_some]
