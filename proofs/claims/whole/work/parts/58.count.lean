/-! ===== write, count: both ===== -/
theorem A_write {σ : jm_S} (h : I_all σ) (x y : Int32) : jSame σ wS wK I_all (jc 111 [.ref 0, .int x, .int y]) (jc 198 [.ref 61, .int x, .int y]) := by
  obtain ⟨G, pl, P, hG, hb, hgr, hhe, kc, km⟩ := K_of h
  by_cases c1 : x < 0 ∨ 199 < x
  · exact jSame_bad h (by rw [P_write_in, P_isOutside, jbi_some, ifc _ c1, if_pos n10]) (by rw [M_write_in, M_in x 0 199 0 199 (by decide +kernel) (by decide +kernel), jbi_some, ifc' _ c1, if_pos rfl])
  · by_cases c2 : y < 0 ∨ 3 < y
    · exact jSame_bad h (by rw [P_write_in, P_isOutside, jbi_some, ifn _ c1, if_neg (not_not_intro rfl), P_isOutside, jbi_some, ifc _ c2, if_neg n10]) (by rw [M_write_in, M_in x 0 199 0 199 (by decide +kernel) (by decide +kernel), jbi_some, ifn' _ c1, if_neg n10, M_isSheet, jbi_some, ifc' _ c2, if_neg (not_not_intro rfl)])
    · obtain ⟨n, hn, rfl⟩ := jN199 c1
      obtain ⟨k, hk, rfl⟩ := jN4 c2
      obtain ⟨z, hz⟩ := h.1.1 k hk
      obtain ⟨p1, p2, p3, p4, p5, p6⟩ := id hz
      obtain ⟨w1, w2⟩ := P_write_k hG hb hn hk σ kc p1 p4
      have nk : ¬ (nI k < 0 ∨ 4 ≤ k) := by rw [jbad2 hk (by decide)]; exact id
      by_cases lo : σ (53 + 2 * k) 1 = -1
      · rw [if_pos lo] at w1
        refine liftS (S := jSS) (K := [4]) (p := I_sl) (jSame_find h.1.1 (x := 1) w1 (fun τ t62 t63 => ?_)) (by decide) (by decide) (fun ρ a b => all_sl h a b)
        rw [M_write_in, M_in (nI n) 0 199 0 199 (by decide +kernel) (by decide +kernel), jbi_some, ifn' _ c1, if_neg n10, M_isSheet, jbi_some, ifn' _ c2, if_pos n10, nI_clamp (show k < 2 ^ 31 by omega), if_neg nk, t62, ← p2, lo, if_neg (by decide), M_met, jbi_some]
      · obtain ⟨ρ1, e1, e2, e3⟩ := w2 lo
        generalize hmm : (if 200 - n < z then 200 - n else z) = m at e1 e3
        have hm1 : m ≤ 60 := by rw [← hmm]; split <;> omega
        have hm2 : n + m ≤ 200 := by rw [← hmm]; split <;> omega
        have hmz : m ≤ z := by rw [← hmm]; split <;> omega
        have f : ∀ c, 61 ≤ c → ρ1 c = σ c := fun c hc => e2 c (by simp only [List.mem_cons, List.not_mem_nil, or_false]; omega) (by omega)
        have km1 : KM G (σ 67) pl P (σ 68) ρ1 := by
          unfold KM DM PM at km ⊢
          rw [f 61 (by omega), f 66 (by omega), f 67 (by omega), f 68 (by omega), f 69 (by omega), f 70 (by omega)]
          exact km
        obtain ⟨τ1, τ2, a1, a2, a3, a4, a5, a6⟩ := M_tries_goes hG hb (show 200 ≤ 200 by omega) ρ1 km1
        rw [← nI200] at a2
        obtain ⟨ρ, b1, b2, b3⟩ := M_write_loop (G := G) (T := σ 67) (pl := pl) (P := P) (se := σ 68) hk hm2 hm1 m 0 τ2 (by omega) a4
        rw [show some (Value.int (nI 0)) = some (Value.int 0) by rw [nI_0]] at b1
        have t63 : τ2 63 k = nI z := by rw [a5.1 63 (by decide) (by decide), f 63 (by omega)]; exact p5
        have t62 : τ2 62 k = σ 62 k := by rw [a5.1 62 (by decide) (by decide), f 62 (by omega)]
        have call : jc 198 [.ref 61, .int (nI n), .int (nI k)] ρ1 = some (some (.int (nI m)), ρ) := by
          rw [M_write_in, M_in (nI n) 0 199 0 199 (by decide +kernel) (by decide +kernel), jbi_some, ifn' _ c1, if_neg n10, M_isSheet, jbi_some, ifn' _ c2, if_pos n10, nI_clamp (show k < 2 ^ 31 by omega), if_neg nk, f 62 (by omega), if_pos (by
            rcases p3 with q | q
            · exact absurd (p2.trans q) lo
            · exact Int32.not_lt.mp q), a1, jbv_some, a2, jbv_some, if_neg nk, if_neg nk, t63, i200sub hn]
          by_cases q : 200 - n ≤ z
          · have e : m = 200 - n := by rw [← hmm]; split <;> omega
            rw [if_pos (nI_le q (by omega)), ← e, b1]
          · have e : m = z := by rw [← hmm]; split <;> omega
            rw [if_neg (nI_ge (by omega) (by omega)), ← e, b1]
        have fr : ∀ c, c ∉ cS → c ≠ 54 + 2 * k → c ∉ mS → c ≠ 64 → c ≠ 61 → ρ c = σ c := fun c q1 q2 q3 q4 q5 => by
          rw [b2 c q4, a5.1 c q3 q5, e2 c q1 q2]
        have fk : ∀ j, j ∉ mK' → ρ 61 j = σ 61 j := fun j hj => by
          rw [b2 61 (by decide), a5.2 j hj, f 61 (by omega)]
        refine ⟨_, ρ1, ρ, e1, call, ⟨⟨?_, ?_⟩, ?_, ?_, ?_⟩, ⟨fun c hc h61 => ?_, fun j hj => ?_⟩⟩
        · refine I_sh_w h.1.1 hk (wrV G (σ 67) pl P (σ 68) (σ 62 k) n) (m := m) (fun n' hn' => ?_) (fun c q1 q2 q3 => ?_) ?_ ?_ (fun j => ?_) (fun j => ?_)
          · have : nI n' = nI z := hn'.2.2.2.2.1.symm.trans p5
            have := (nI_eq (show n' < 2 ^ 31 by have := hn'.1; omega) (show z < 2 ^ 31 by omega)).mp this
            omega
          · exact fr c (by simp only [List.mem_cons, List.not_mem_nil, or_false]; omega) q3 (by simp only [List.mem_cons, List.not_mem_nil, or_false]; omega) (by omega) (by omega)
          · exact fr 62 (by decide) (by omega) (by decide) (by decide) (by decide)
          · exact fr 63 (by decide) (by omega) (by decide) (by decide) (by decide)
          · rw [b2 _ (by omega), a5.1 _ (by simp only [List.mem_cons, List.not_mem_nil, or_false]; omega) (by omega), e3, p2]
          · rw [b3, t62, a5.1 64 (by decide) (by decide), f 64 (by omega)]
            by_cases q : 60 * k ≤ j ∧ j < 60 * k + m
            · rw [if_pos (by omega), if_pos q]
            · rw [if_neg (by omega), if_neg q]
        · show ρ 0 10 = ρ 61 4
          rw [fr 0 (by decide) (by omega) (by decide) (by decide) (by decide), fk 4 (by decide)]
          exact h.1.2
        · refine I_gh_c h.2.1 (by rw [fr 1 (by decide) (by omega) (by decide) (by decide) (by decide)]) (fk 5 (by decide)) (fk 36 (by decide)) (by rw [fr 38 (by decide) (by omega) (by decide) (by decide) (by decide)]) (fun a ha => ?_)
          simp only [List.mem_cons, List.not_mem_nil, or_false] at ha
          exact fr a (by simp only [List.mem_cons, List.not_mem_nil, or_false]; omega) (by omega) (by simp only [List.mem_cons, List.not_mem_nil, or_false]; omega) (by omega) (by omega)
        · exact I_se_fr h.2.2.1 (fr 4 (by decide) (by omega) (by decide) (by decide) (by decide)) (fr 68 (by decide) (by omega) (by decide) (by decide) (by decide))
        · refine I_tx_fr h.2.2.2 (fun c hc => ?_)
          simp only [List.mem_cons, List.not_mem_nil, or_false] at hc
          exact fr c (by simp only [List.mem_cons, List.not_mem_nil, or_false]; omega) (by omega) (by simp only [List.mem_cons, List.not_mem_nil, or_false]; omega) (by omega) (by omega)
        · simp only [List.mem_cons, List.not_mem_nil, or_false, not_or] at hc
          exact fr c (by simp only [List.mem_cons, List.not_mem_nil, or_false]; omega) (by omega) (by simp only [List.mem_cons, List.not_mem_nil, or_false]; omega) (by omega) h61
        · exact fk j (fun q => hj (by revert q; simp only [List.mem_cons, List.not_mem_nil, or_false]; omega))
/-! counts -/
def ctF (G : Nat) (P : Pn) (σ : jm_S) (j : Nat) : Int32 := if j = 0 then nI G else if j = 1 then σ 70 0 else if j = 2 then σ 70 1 else if j = 3 then σ 70 2 else if j = 4 then σ 70 3 else if j = 5 then nI P.s else if j = 6 then σ 61 36 else if j = 7 then sumI (fun g => σ 67 (4 * g)) G else σ 61 4
theorem allWater {G : Nat} (hG : G ≤ 12) {T : Nat → Int32} {pl : Nat → Nat} (σ : jm_S) (h : DC σ G T pl) : jc 113 [.ref 1] σ = some (some (.int (sumI (fun g => T (4 * g)) G)), σ) := by
  rw [Grains_allWater_in, sum_loop (fun x i => jv 113 4 [some (.ref 1), some (.int x), some (.int i)] [] σ) (v := fun g => T (4 * g)) (G := G)]
  · show jv 113 4 [some (.ref 1), some (.int (sumI (fun g => T (4 * g)) G)), some (.int (nI G))] [] σ = _
    rw [Grains_allWater_L4, h.1, if_pos (nI_le (Nat.le_refl _) (by omega))]
  · intro i x hi
    show jv 113 4 [some (.ref 1), some (.int x), some (.int (nI i))] [] σ = _
    have t : jc 12 [.ref 1, .int (nI i), .int 0] σ = some (some (.int (T (4 * i))), σ) := by
      rw [Grains_trait_in, j4g0, nI_clamp (show 4 * i < 2 ^ 31 by omega), if_neg (by rw [jbad2 (show 4 * i < 48 by omega) (by decide)]; exact id), h.2.2 (4 * i) (by omega)]
    rw [Grains_allWater_L4, h.1, if_neg (nI_ge hi (by omega)), t, jbi_some, nI_1]
theorem P_count {σ : jm_S} {G : Nat} {pl : Nat → Nat} {P : Pn} (h : I_all σ) (hG : G ≤ 12) (hgr : I_gr σ G) (hhe : I_he σ G) (kc : KC G (σ 67) pl P (σ 68) σ) {j : Nat} (hj : j ≤ 8) : jc 112 [.ref 0, .int (nI j)] σ = some (some (.int (ctF G P σ j)), σ) := by
  have c1 : ¬ (nI j < 0 ∨ 8 < nI j) := by
    rintro (q | q)
    · exact nI_pos (by omega) q
    · rw [show (8 : Int32) = nI 8 by decide +kernel] at q
      exact nI_nlt hj (by omega) q
  obtain ⟨⟨n0, y0, a1, a2, a3, a4, _⟩, ⟨n1, y1, b1, b2, b3, b4, _⟩, ⟨n2, y2, d1, d2, d3, d4, _⟩, ⟨n3, y3, e1, e2, e3, e4, _⟩⟩ := h.2.2.2
  rw [P_count_in, P_isOutside, jbi_some, ifn _ c1, if_pos rfl]
  match j, hj with
  | 0, _ => rw [show nI 0 = 0 by decide +kernel, P_count_S14_0, hgr.1]; rfl
  | 1, _ => rw [show nI 1 = 1 by decide +kernel, P_count_S14_1, show (1 : Int32) - 1 = 0 by decide +kernel, jaa4_0, P_count_A109_42, a4.1, ← a2]; rfl
  | 2, _ => rw [show nI 2 = 2 by decide +kernel, P_count_S14_2, show (2 : Int32) - 1 = 1 by decide +kernel, jaa4_1, P_count_A109_44, b4.1, ← b2]; rfl
  | 3, _ => rw [show nI 3 = 3 by decide +kernel, P_count_S14_3, show (3 : Int32) - 1 = 2 by decide +kernel, jaa4_2, P_count_A109_47, d4.1, ← d2]; rfl
  | 4, _ => rw [show nI 4 = 4 by decide +kernel, P_count_S14_4, show (4 : Int32) - 1 = 3 by decide +kernel, jaa4_3, P_count_A109_50, e4.1, ← e2]; rfl
  | 5, _ => rw [show nI 5 = 5 by decide +kernel, P_count_S14_5, kc.2.2.1]; rfl
  | 6, _ =>
    obtain ⟨n, _, m1, m2, _⟩ := hhe
    rw [show nI 6 = 6 by decide +kernel, P_count_S14_6, m1, ← m2]; rfl
  | 7, _ => rw [show nI 7 = 7 by decide +kernel, P_count_S14_7, allWater hG σ kc.1, jbi_some]; rfl
  | 8, _ => rw [show nI 8 = 8 by decide +kernel, P_count_S14_8, h.1.2]; rfl
  | n + 9, q => omega
theorem M_count {σ τ : jm_S} {G : Nat} {T : Nat → Int32} {pl : Nat → Nat} {P : Pn} {se : Nat → Int32} (hG : G ≤ 12) (km : KM G T pl P se τ) (h70 : τ 70 = σ 70) (h67 : τ 67 = σ 67) (h36 : τ 61 36 = σ 61 36) (h4 : τ 61 4 = σ 61 4) {j : Nat} (hj : j ≤ 8) : ∃ ρ, jc 199 [.ref 61, .int (nI j)] τ = some (some (.int (ctF G P σ j)), ρ) ∧ jFr mS mK' τ ρ := by
  rw [M_count_in]
  match j, hj with
  | 0, _ => rw [show nI 0 = 0 by decide +kernel, M_count_S3_0, km.1.1]; exact ⟨τ, rfl, jFr.rf⟩
  | 1, _ => rw [show nI 1 = 1 by decide +kernel, M_count_S3_1, show (1 : Int32) - 1 = 0 by decide +kernel, if_neg (by rw [jbd0 4 (by decide)]; exact id), jn0, h70]; exact ⟨τ, rfl, jFr.rf⟩
  | 2, _ => rw [show nI 2 = 2 by decide +kernel, M_count_S3_2, show (2 : Int32) - 1 = 1 by decide +kernel, if_neg (by rw [jbd1 4 (by decide)]; exact id), jn1, h70]; exact ⟨τ, rfl, jFr.rf⟩
  | 3, _ => rw [show nI 3 = 3 by decide +kernel, M_count_S3_3, show (3 : Int32) - 1 = 2 by decide +kernel, if_neg (by rw [jbd2 4 (by decide)]; exact id), jn2, h70]; exact ⟨τ, rfl, jFr.rf⟩
  | 4, _ => rw [show nI 4 = 4 by decide +kernel, M_count_S3_4, show (4 : Int32) - 1 = 3 by decide +kernel, if_neg (by rw [jbd3 4 (by decide)]; exact id), jn3, h70]; exact ⟨τ, rfl, jFr.rf⟩
  | 5, _ =>
    obtain ⟨n, y, t1, t2, t3, t4⟩ := km.2.2
    obtain ⟨ρ, e1, e2, e3⟩ := M_readsPan t1 τ t2 t3
    rw [show nI 5 = 5 by decide +kernel, M_count_S3_5, e1, jbi_some, e3.1, ← t4]
    exact ⟨ρ, rfl, e2.weak (by decide) (by decide)⟩
  | 6, _ => rw [show nI 6 = 6 by decide +kernel, M_count_S3_6, h36]; exact ⟨τ, rfl, jFr.rf⟩
  | 7, _ =>
    rw [show nI 7 = 7 by decide +kernel, M_count_S3_7, sum_loop (fun x i => jv 199 83 [some (.ref 61), some (.int 7), some (.int x), some (.int i)] [] τ) (v := fun g => σ 67 (4 * g)) (G := G)]
    · refine ⟨τ, ?_, jFr.rf⟩
      show jv 199 83 [some (.ref 61), some (.int 7), some (.int (sumI (fun g => σ 67 (4 * g)) G)), some (.int (nI G))] [] τ = _
      rw [M_count_L83, km.1.1, if_pos (nI_le (Nat.le_refl _) (by omega))]; rfl
    · intro i x hi
      show jv 199 83 [some (.ref 61), some (.int 7), some (.int x), some (.int (nI i))] [] τ = _
      rw [M_count_L83, km.1.1, if_neg (nI_ge hi (by omega)), j4n0, nI_clamp (show 4 * i < 2 ^ 31 by omega), if_neg (by rw [jbad2 (show 4 * i < 48 by omega) (by decide)]; exact id), h67, nI_1]
  | 8, _ => rw [show nI 8 = 8 by decide +kernel, M_count_S3_8, h4]; exact ⟨τ, rfl, jFr.rf⟩
  | n + 9, q => omega
theorem A_count {σ : jm_S} (h : I_all σ) (x : Int32) : jSame σ sS mK' I_all (jc 112 [.ref 0, .int x]) (jc 199 [.ref 61, .int x]) := by
  obtain ⟨G, pl, P, hG, hb, hgr, hhe, kc, km⟩ := K_of h
  by_cases c1 : x < 0 ∨ 8 < x
  · refine sim_bad h (by rw [P_count_in, P_isOutside, jbi_some, ifc _ c1, if_neg n10]) ?_
    rw [M_count_in, M_count_S3_o]
    have e8 : (8 : Int32).toInt = 8 := by decide
    have e0 : (0 : Int32).toInt = 0 := by decide
    rw [Int32.lt_iff_toInt_lt, Int32.lt_iff_toInt_lt, e8, e0] at c1
    exact c1
  · obtain ⟨j, hj, rfl⟩ := jN (n := 8) (by decide +kernel) c1
    refine sim_call h (v := some (.int (ctF G P σ j))) ⟨σ, P_count h hG hgr hhe kc hj, cFr.rf⟩ (fun τ hτ => ?_)
    exact M_count hG (KM_c km hτ) (hτ 70 (by decide)) (hτ 67 (by decide)) (by rw [hτ 61 (by decide)]) (by rw [hτ 61 (by decide)]) hj
