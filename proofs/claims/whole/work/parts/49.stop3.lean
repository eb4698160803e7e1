/-! ===== the model stops by a rule ===== -/
theorem stops_loop {G : Nat} (hG : G ≤ 12) {T : Nat → Int32} {pl : Nat → Nat} {P : Pn} {se : Nat → Int32} {L : CL} (hL : L.length ≤ 10) : ∀ (k g : Nat) (σ : jm_S), g + (k + 1) = 200 → mZ σ (panZ P) → MR G T (fun _ => true) (se 0) (se 1) (RN G T pl P se g) σ → σ 61 17 = nI L.length → cnd σ 0 L → ∃ ρ, jv 166 17 [some (.ref 61), some (.int (nI g)), some (.int (nI (sumN (sN G T pl P se) g))), some (.int (nI (slM (sN G T pl P se) g))), some (.int 1)] [] σ = some (some (.int (nI (stF (pM' (sN G T pl P se) L) (k + 1) g))), ρ) ∧ MR G T (fun _ => true) (se 0) (se 1) (RN G T pl P se (stF (pM' (sN G T pl P se) L) (k + 1) g)) ρ ∧ (∀ c, c ∉ [76, 77, 78, 79, 80, 81, 82, 83, 84] → ρ c = σ c) := by
  intro k
  induction k with
  | zero =>
    intro g σ hg hZ hR h17 hc
    obtain ⟨τ, e1, e2, e3, e4⟩ := M_sec hG (show g < 200 by omega) σ hZ hR
    have st : stF (pM' (sN G T pl P se) L) (0 + 1) g = g + 1 := by
      by_cases q : pM' (sN G T pl P se) L (g + 1)
      · rw [stF_t q]
      · rw [stF_f q]; rfl
    have e5 : τ 84 g = nI (sN G T pl P se g) := by rw [e3, jupd, if_pos rfl]
    rw [st]
    refine ⟨τ, ?_, e2, e4⟩
    have ng : ¬ (nI g < 0 ∨ 200 ≤ g) := by rw [jbad2 (show g < 200 by omega) (by decide)]; exact id
    have g2 : (200 : Int32) ≤ nI (g + 1) := by rw [nI200]; exact nI_le (by omega) (by omega)
    rw [M_stops_L17, if_neg n10, e1, jbv_some, nI_clamp (show g < 2 ^ 31 by omega), if_neg ng, if_neg ng, nI_1, if_pos g2, if_pos g2, M_stops_L17, if_pos rfl, M_stops_L17, if_pos rfl]
    split <;> rfl
  | succ k ih =>
    intro g σ hg hZ hR h17 hc
    obtain ⟨τ, e1, e2, e3, e4⟩ := M_sec hG (show g < 200 by omega) σ hZ hR
    have e5 : τ 84 g = nI (sN G T pl P se g) := by rw [e3, jupd, if_pos rfl]
    have ng : ¬ (nI g < 0 ∨ 200 ≤ g) := by rw [jbad2 (show g < 200 by omega) (by decide)]; exact id
    have g2 : ¬ (200 : Int32) ≤ nI (g + 1) := by rw [nI200]; exact nI_ge (by omega) (by omega)
    have c12 := sN_1 hG T pl P se g
    have es : sumN (sN G T pl P se) g + sN G T pl P se g = sumN (sN G T pl P se) (g + 1) := rfl
    have go : ∀ sl, slM (sN G T pl P se) (g + 1) = sl → ∃ ρ, jbi (jc 167 [.ref 61, .int (nI (g + 1)), .int (nI (sumN (sN G T pl P se) (g + 1))), .int (nI sl)] τ) (fun r2 τ2 => (if ¬ r2 = 0 then jv 166 17 [some (.ref 61), some (.int (nI (g + 1))), some (.int (nI (sumN (sN G T pl P se) (g + 1)))), some (.int (nI sl)), some (.int (0 : Int32))] [] τ2 else jv 166 17 [some (.ref 61), some (.int (nI (g + 1))), some (.int (nI (sumN (sN G T pl P se) (g + 1)))), some (.int (nI sl)), some (.int (1 : Int32))] [] τ2)) = some (some (.int (nI (stF (pM' (sN G T pl P se) L) (k + 1 + 1) g))), ρ) ∧ MR G T (fun _ => true) (se 0) (se 1) (RN G T pl P se (stF (pM' (sN G T pl P se) L) (k + 1 + 1) g)) ρ ∧ (∀ c, c ∉ [76, 77, 78, 79, 80, 81, 82, 83, 84] → ρ c = σ c) := by
      intro sl hsl
      obtain ⟨v, v1, v2⟩ := M_isStopped hL (nI (g + 1)) (nI (sumN (sN G T pl P se) (g + 1))) (nI sl) τ (by rw [e4 61 (by decide)]; exact h17) (cnd_fr (e4 74 (by decide)) (e4 75 (by decide)) L 0 hc)
      rw [v1, jbi_some]
      by_cases q : v = 0
      · have nq : ¬ pM' (sN G T pl P se) L (g + 1) := by
          unfold pM'
          rw [hsl]
          exact fun w => v2.mpr w q
        rw [if_neg (not_not_intro q), stF_f nq]
        obtain ⟨ρ, i1, i2, i3⟩ := ih (g + 1) τ (by omega) (mZ_fr hZ (e4 61 (by decide)) (e4 71 (by decide)) (e4 72 (by decide)) (e4 73 (by decide))) e2 (by rw [e4 61 (by decide)]; exact h17) (cnd_fr (e4 74 (by decide)) (e4 75 (by decide)) L 0 hc)
        rw [hsl] at i1
        exact ⟨ρ, i1, i2, fun c hc => by rw [i3 c hc, e4 c hc]⟩
      · have nq : pM' (sN G T pl P se) L (g + 1) := by
          unfold pM'
          rw [hsl]
          exact v2.mp q
        rw [if_pos q, stF_t nq, M_stops_L17, if_pos rfl]
        exact ⟨τ, rfl, e2, e4⟩
    have r0 := M_stops_L17 (nI g) (nI (sumN (sN G T pl P se) g)) (nI (slM (sN G T pl P se) g)) 1 σ
    rw [if_neg n10, e1, jbv_some, nI_clamp (show g < 2 ^ 31 by omega), if_neg ng, if_neg ng, nI_1 g, if_neg g2, if_neg g2, e5, nI_add, es, nI_1] at r0
    by_cases c1 : 0 < sN G T pl P se g
    · obtain ⟨ρ, i1, i2, i3⟩ := go 0 (by rw [slM, if_pos c1])
      rw [nI_0] at i1
      rw [if_neg (nI_nle c1 (by omega)), i1] at r0
      exact ⟨ρ, r0, i2, i3⟩
    · obtain ⟨ρ, i1, i2, i3⟩ := go (slM (sN G T pl P se) g + 1) (by rw [slM, if_neg c1])
      rw [if_pos (by rw [show sN G T pl P se g = 0 by omega]; decide +kernel), i1] at r0
      exact ⟨ρ, r0, i2, i3⟩
theorem M_stops {G : Nat} (hG : G ≤ 12) {T : Nat → Int32} {pl : Nat → Nat} {P : Pn} (hb : bndS P 61) {se : Nat → Int32} {L : CL} (hL : L.length ≤ 10) (σ : jm_S) (hK : KM G T pl P se σ) (h17 : σ 61 17 = nI L.length) (hc : cnd σ 0 L) : ∃ ρ, jc 166 [.ref 61] σ = some (some (.int (nI (tlT G T pl P se L))), ρ) ∧ MR G T (fun _ => true) (se 0) (se 1) (RN G T pl P se (tlT G T pl P se L)) ρ ∧ jFr mS mK' σ ρ := by
  obtain ⟨τ, a1, a2, a3⟩ := M_tries0 hG σ hK
  obtain ⟨t1, t2, t3, t4, t5, t6⟩ := a2
  have a3' : jFr mS mK' σ τ := a3.weak (by decide) (by decide)
  obtain ⟨τ1, b1, b2, b3⟩ := M_begins hG (I := fun _ => true) τ (KM_fr hK a3').1 t5
  rw [t1, t2] at b2
  obtain ⟨ρ, c1, c2, c3⟩ := stops_loop hG (pl := pl) hL 199 0 τ1 (by omega) (mZ_fr (mZ_pan t6 hb t3 t4) (b3 61 (by decide)) (b3 71 (by decide)) (b3 72 (by decide)) (b3 73 (by decide))) b2 (by rw [b3 61 (by decide), a3.2 17 (by decide)]; exact h17) (cnd_fr (by rw [b3 74 (by decide), a3.1 74 (by decide) (by decide)]) (by rw [b3 75 (by decide), a3.1 75 (by decide) (by decide)]) L 0 hc)
  have e0 : sumN (sN G T pl P se) 0 = 0 := rfl
  have e1 : slM (sN G T pl P se) 0 = 0 := rfl
  rw [e0, e1, nI_0] at c1
  refine ⟨ρ, by rw [M_stops_in, a1, jbv_some, b1, jbv_some]; exact c1, c2, (a3'.trans (jFr.of b3 (by decide) (by decide))).trans (jFr.of c3 (by decide) (by decide))⟩
theorem M_stop23 {G : Nat} (hG : G ≤ 12) {T : Nat → Int32} {pl : Nat → Nat} {P : Pn} {se : Nat → Int32} {t : Nat} (x1 w : Int32) (hw : ¬ (w < 0 ∨ 5 < w)) (σ : jm_S) (h : MR G T (fun _ => true) (se 0) (se 1) (RN G T pl P se t) σ) (hK : KM G T pl P se σ) : jv 164 23 [some (.ref 61), some (.int x1), some (.int w), some (.int (nI t))] [.int w] σ = some (some (.int (tlV G T pl P se t w)), σ) := by
  unfold tlV
  rcases j6 hw with e | e | e | e | e | e <;> subst e
  · rw [M_stopOf_S23_0]; rfl
  · rw [M_stopOf_S23_1, M_many hG 0 σ h, jbi_some]; rfl
  · rw [M_stopOf_S23_2, M_allLarge hG σ h, jbi_some]; rfl
  · rw [M_stopOf_S23_3, M_many hG 2 σ h, jbi_some]; rfl
  · rw [M_stopOf_S23_4, M_browned hG _ σ h, jbi_some, hK.2.1 2 (by omega)]; rfl
  · rw [M_stopOf_S23_o _ _ _ _ _ (by decide +kernel), M_worth hG _ σ h, jbi_some, hK.2.1 2 (by omega), hK.2.1 3 (by omega), hK.2.1 4 (by omega), hK.2.1 5 (by omega)]; rfl
theorem M_rule {fl : Nat → Int32} {L : Nat → CL} {r : Nat} (hr : r < 3) (σ : jm_S) (h : KRm fl L σ) : ∃ ρ, jc 147 [.ref 61, .int (nI (r + 1))] σ = some (some (.int (fl r)), ρ) ∧ jFr mS mK' σ ρ ∧ (fl r = -1 → ρ 61 17 = nI (L r).length ∧ (L r).length ≤ 10 ∧ cnd ρ 0 (L r)) := by
  obtain ⟨n, y, h1, h2, h3, h4, h5⟩ := h r hr
  obtain ⟨ρ, e1, e2, e3⟩ := M_readsRule (show r + 1 < 4 by omega) h1 σ h2 h3
  rw [h4, h5]
  exact ⟨ρ, e1, e2.weak (by decide) (by decide), e3⟩
theorem M_stopOf {G : Nat} (hG : G ≤ 12) {T : Nat → Int32} {pl : Nat → Nat} {P : Pn} (hb : bndS P 61) {se : Nat → Int32} {fl : Nat → Int32} {L : Nat → CL} {r : Nat} (hr : r < 3) (w : Int32) (hw : ¬ (w < 0 ∨ 5 < w)) (σ : jm_S) (hK : KM G T pl P se σ) (hR : KRm fl L σ) : ∃ ρ, jc 164 [.ref 61, .int (nI r), .int w] σ = some (some (.int (tlR G T pl P se (fl r) (L r) w)), ρ) ∧ jFr mS mK' σ ρ := by
  obtain ⟨τ, a1, a2, a3⟩ := M_rule hr σ hR
  rw [M_stopOf_in, nI_1, a1, jbi_some, tlR]
  by_cases c : fl r = -1
  · obtain ⟨b1, b2, b3⟩ := a3 c
    obtain ⟨ρ, c1, c2, c3⟩ := M_stops hG hb b2 τ (KM_fr hK a2) b1 b3
    rw [if_pos c, if_pos c, c1, jbi_some, M_stop23 hG _ w hw ρ c2 (KM_fr hK (a2.trans c3))]
    exact ⟨ρ, rfl, a2.trans c3⟩
  · rw [if_neg c, if_neg c, M_dear_in, jbi_some, show (-100000 : Int32) + -3 = -100003 by decide +kernel]
    exact ⟨τ, rfl, a2⟩
theorem M_best_loop {G : Nat} (hG : G ≤ 12) {T : Nat → Int32} {pl : Nat → Nat} {P : Pn} (hb : bndS P 61) {se : Nat → Int32} {fl : Nat → Int32} {L : Nat → CL} : ∀ (k r : Nat) (b m : Int32) (u : Option Value) (σ : jm_S), r + k = 3 → KM G T pl P se σ → KRm fl L σ → ∃ ρ, jv 173 6 [some (.ref 61), some (.int b), some (.int m), some (.int (nI r)), u] [] σ = some (some (.int (bsF fl (wtR G T pl P se L) k r b m)), ρ) ∧ jFr mS mK' σ ρ := by
  intro k
  induction k with
  | zero =>
    intro r b m u σ hr hK hR
    rw [M_bestNow_L6, if_pos (by rw [show (3 : Int32) = nI 3 by decide +kernel]; exact nI_le (by omega) (by omega))]
    exact ⟨σ, rfl, jFr.rf⟩
  | succ k ih =>
    intro r b m u σ hr hK hR
    obtain ⟨τ, a1, a2, a3⟩ := M_rule (show r < 3 by omega) σ hR
    rw [M_bestNow_L6, if_neg (by rw [show (3 : Int32) = nI 3 by decide +kernel]; exact nI_ge (by omega) (by omega)), nI_1, a1, jbi_some, bsF]
    by_cases c : fl r = -1
    · obtain ⟨b1, b2, b3⟩ := a3 c
      obtain ⟨ρ, c1, c2, c3⟩ := M_stops hG hb b2 τ (KM_fr hK a2) b1 b3
      have hK2 := KM_fr hK (a2.trans c3)
      have hR2 := KRm_fr hR (a2.trans c3)
      rw [if_neg (not_not_intro c), if_pos c, c1, jbi_some, M_worth hG _ ρ c2, jbi_some, hK2.2.1 2 (by omega), hK2.2.1 3 (by omega), hK2.2.1 4 (by omega), hK2.2.1 5 (by omega)]
      by_cases d1 : b = -1
      · rw [if_pos d1, if_pos d1]
        obtain ⟨ν, i1, i2⟩ := ih (r + 1) (nI r) (wtR G T pl P se L r) (some (.int (wtR G T pl P se L r))) ρ (by omega) hK2 hR2
        exact ⟨ν, i1, (a2.trans c3).trans i2⟩
      · rw [if_neg d1, if_neg d1]
        by_cases d2 : wtR G T pl P se L r ≤ m
        · rw [if_pos d2, if_pos d2]
          obtain ⟨ν, i1, i2⟩ := ih (r + 1) b m (some (.int (wtR G T pl P se L r))) ρ (by omega) hK2 hR2
          exact ⟨ν, i1, (a2.trans c3).trans i2⟩
        · rw [if_neg d2, if_neg d2]
          obtain ⟨ν, i1, i2⟩ := ih (r + 1) (nI r) (wtR G T pl P se L r) (some (.int (wtR G T pl P se L r))) ρ (by omega) hK2 hR2
          exact ⟨ν, i1, (a2.trans c3).trans i2⟩
    · rw [if_pos c, if_neg c]
      obtain ⟨ν, i1, i2⟩ := ih (r + 1) b m u τ (by omega) (KM_fr hK a2) (KRm_fr hR a2)
      exact ⟨ν, i1, a2.trans i2⟩
theorem M_bestNow {G : Nat} (hG : G ≤ 12) {T : Nat → Int32} {pl : Nat → Nat} {P : Pn} (hb : bndS P 61) {se : Nat → Int32} {fl : Nat → Int32} {L : Nat → CL} (σ : jm_S) (hK : KM G T pl P se σ) (hR : KRm fl L σ) : ∃ ρ, jc 173 [.ref 61] σ = some (some (.int (bsF fl (wtR G T pl P se L) 3 0 (-1) 0)), ρ) ∧ jFr mS mK' σ ρ := by
  rw [M_bestNow_in, ← nI_0]
  have := M_best_loop hG hb (se := se) 3 0 (-1) 0 none σ (by omega) hK hR
  rw [← nI_0] at this
  exact this
theorem A_stop {σ : jm_S} (h : I_all σ) (x w : Int32) : jSame σ sS mK' I_all (jc 54 [.ref 0, .int x, .int w]) (jc 162 [.ref 61, .int x, .int w]) := by
  obtain ⟨G, pl, P, hG, hb, hgr, hhe, kc, km⟩ := K_of h
  obtain ⟨fl, L, krc, krm⟩ := KR_of h.2.2.2
  have dd : (-100000 : Int32) + -2 = -100002 := by decide +kernel
  by_cases c1 : x < 0 ∨ 2 < x
  · exact sim_bad h (by rw [P_stop_in, P_isOutside, jbi_some, ifc _ c1, if_pos n10]) (by rw [M_stop_in, M_isRule, jbi_some, ifc' _ c1, if_pos rfl, M_dear_in, jbi_some, dd])
  · by_cases c3 : w < 0 ∨ 5 < w
    · exact sim_bad h (by rw [P_stop_in, P_isOutside, jbi_some, ifn _ c1, if_neg (not_not_intro rfl), P_isOutside, jbi_some, ifc _ c3, if_neg n10]) (by rw [M_stop_in, M_isRule, jbi_some, ifn' _ c1, if_neg n10, M_in w 0 5 0 5 (by decide +kernel) (by decide +kernel), jbi_some, ifc' _ c3, if_pos rfl, M_dear_in, jbi_some, dd])
    · obtain ⟨r, hr, e⟩ : ∃ r, r < 3 ∧ x = nI r := by
        rcases j3 c1 with e | e | e
        · exact ⟨0, by omega, by rw [e]; decide +kernel⟩
        · exact ⟨1, by omega, by rw [e]; decide +kernel⟩
        · exact ⟨2, by omega, by rw [e]; decide +kernel⟩
      subst e
      refine sim_call h (v := some (.int (tlR G (σ 67) pl P (σ 68) (fl r) (L r) w))) ?_ (fun τ hτ => ?_)
      · obtain ⟨ρ, a1, a2, a3⟩ := cook hG hb (show 200 ≤ 200 by omega) σ kc
        rw [← nI200] at a1
        refine ⟨ρ, ?_, a3⟩
        have kr := KRc_fr krc a3
        have ok := KRm_ok krm hr
        have t : jc 55 [.ref 0, .int (nI r), .int w] ρ = some (some (.int (tlR G (σ 67) pl P (σ 68) (fl r) (L r) w)), ρ) := by
          match r, hr, ok with
          | 0, _, ok => rw [show nI 0 = 0 by decide +kernel]; exact P_tellRule_0 hG w c3 ρ a2 (KC_fr kc a3) kr.1 ok
          | 1, _, ok => rw [show nI 1 = 1 by decide +kernel]; exact P_tellRule_1 hG w c3 ρ a2 (KC_fr kc a3) kr.2.1 ok
          | 2, _, ok => rw [show nI 2 = 2 by decide +kernel]; exact P_tellRule_2 hG w c3 ρ a2 (KC_fr kc a3) kr.2.2 ok
          | n + 3, q, _ => omega
        rw [P_stop_in, P_isOutside, jbi_some, ifn _ c1, if_neg (not_not_intro rfl), P_isOutside, jbi_some, ifn _ c3, if_pos rfl, a1, jbv_some, t, jbi_some]
      · obtain ⟨ρ, a1, a2⟩ := M_stopOf hG hb hr w c3 τ (KM_c km hτ) (KRm_c krm hτ)
        refine ⟨ρ, ?_, a2⟩
        rw [M_stop_in, M_isRule, jbi_some, ifn' _ c1, if_neg n10, M_in w 0 5 0 5 (by decide +kernel) (by decide +kernel), jbi_some, ifn' _ c3, if_neg n10, a1, jbi_some]
theorem A_best {σ : jm_S} (h : I_all σ) : jSame σ sS mK' I_all (jc 62 [.ref 0]) (jc 172 [.ref 61]) := by
  obtain ⟨G, pl, P, hG, hb, hgr, hhe, kc, km⟩ := K_of h
  obtain ⟨fl, L, krc, krm⟩ := KR_of h.2.2.2
  refine sim_call h (v := some (.int (bsF fl (wtR G (σ 67) pl P (σ 68) L) 3 0 (-1) 0))) ?_ (fun τ hτ => ?_)
  · obtain ⟨ρ, a1, a2, a3⟩ := cook hG hb (show 200 ≤ 200 by omega) σ kc
    rw [← nI200] at a1
    refine ⟨ρ, ?_, a3⟩
    rw [P_best_in, a1, jbv_some, P_bestRule hG ρ a2 (KC_fr kc a3) (KRc_fr krc a3) (fun r hr => KRm_ok krm hr), jbi_some]
  · obtain ⟨ρ, a1, a2⟩ := M_bestNow hG hb τ (KM_c km hτ) (KRm_c krm hτ)
    exact ⟨ρ, by rw [M_best_in, a1, jbi_some], a2⟩
