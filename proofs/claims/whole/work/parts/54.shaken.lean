/-! ===== shaken ===== -/
theorem run_congr {G : Nat} {T : Nat → Int32} {I : Nat → Bool} {a s : Int32} {pl : Nat → Nat} {Z Y : Pg} : ∀ t, (∀ j, j < t → Z.1 j = Y.1 j ∧ Z.2.1 j = Y.2.1 j ∧ Z.2.2 j = Y.2.2 j) → run G T I a s pl Z t = run G T I a s pl Y t := by
  intro t
  induction t with
  | zero => intro _; rfl
  | succ t ih =>
    intro h
    obtain ⟨h1, h2, h3⟩ := h t (by omega)
    rw [run, run, ih (fun j hj => h j (by omega)), h1, h2, h3]
theorem shZ_before (P : Pn) {k t : Nat} (h : t ≤ k) : ∀ j, j < t → (panZ P).1 j = (shZ P k).1 j ∧ (panZ P).2.1 j = (shZ P k).2.1 j ∧ (panZ P).2.2 j = (shZ P k).2.2 j := by
  intro j hj
  refine ⟨rfl, ?_, rfl⟩
  show (P.S j).toNatClampNeg = (P.S j).toNatClampNeg + (if j = k then 1 else 0)
  rw [if_neg (by omega)]; rfl
theorem shZ_on {σ : jm_S} {P : Pn} (h : pP σ P) (hb : bndS P 61) {k n : Nat} (hn : n ≤ 200) : onZ σ (shZ P k) (k + 1) n := by
  intro j h1 h2
  obtain ⟨z1, z2, z3, z4⟩ := pP_onZ h hb hn j (Nat.le_refl j) h2
  have e : (shZ P k).2.1 j = (panZ P).2.1 j := by
    show (P.S j).toNatClampNeg + (if j = k then 1 else 0) = (P.S j).toNatClampNeg
    rw [if_neg (by omega)]; rfl
  rw [e]
  exact ⟨z1, z2, z3, z4⟩
abbrev SH (G : Nat) (T : Nat → Int32) (pl : Nat → Nat) (P : Pn) (se : Nat → Int32) (n k : Nat) : Sm := run G T (fun _ => true) (se 0) (se 1) pl (shZ P k) n
def shV (G : Nat) (T : Nat → Int32) (pl : Nat → Nat) (P : Pn) (se : Nat → Int32) (n k : Nat) : Int32 := nI (nmN G (fun _ => true) 1 (SH G T pl P se n k))
theorem upF_stay {v : Nat → Int32} : ∀ (k j : Nat) (b m : Int32), (∀ i, j ≤ i → i < j + k → v i ≤ m) → upF v k j b m = (b, m) := by
  intro k
  induction k with
  | zero => intro j b m _; rfl
  | succ k ih =>
    intro j b m h
    rw [upF, if_pos (h j (Nat.le_refl j) (by omega)), ih (j + 1) b m (fun i h1 h2 => h i (by omega) (by omega))]
theorem CR_fr {G : Nat} {T : Nat → Int32} {I : Nat → Bool} {a s : Int32} {t : Nat} {X : Sm} {σ ρ : jm_S} (h : CR_11 G T I a s t X σ) (hf : ∀ c, c ∈ [11, 12, 13, 14, 15, 16, 17, 18, 19, 20, 21, 22] → ρ c = σ c) : CR_11 G T I a s t X ρ := by
  unfold CR_11 RW at *
  rw [hf 11 (by decide), hf 12 (by decide), hf 13 (by decide), hf 14 (by decide), hf 15 (by decide), hf 16 (by decide), hf 17 (by decide), hf 18 (by decide), hf 19 (by decide), hf 20 (by decide), hf 21 (by decide), hf 22 (by decide)]
  exact h
theorem shV_set {G : Nat} {T : Nat → Int32} {pl : Nat → Nat} {P : Pn} {se : Nat → Int32} {n t k : Nat} (htn : t ≤ n) (htk : t ≤ k) (hw : whN G (fun _ => true) (RN G T pl P se t).st = 0) : shV G T pl P se n k = nI (nmN G (fun _ => true) 1 (RN G T pl P se n)) := by
  have e : run G T (fun _ => true) (se 0) (se 1) pl (panZ P) t = run G T (fun _ => true) (se 0) (se 1) pl (shZ P k) t := run_congr t (shZ_before P htk)
  unfold shV nmN
  congr 1
  refine cntN_congr (fun g hg => ?_)
  have a1 := (run_set G T (fun _ => true) (se 0) (se 1) pl (panZ P) htn hw g hg rfl).1
  have a2 := (run_set G T (fun _ => true) (se 0) (se 1) pl (shZ P k) htn (by rw [← e]; exact hw) g hg rfl).1
  rw [a1, a2, e]
theorem shV_le {G : Nat} (hG : G ≤ 12) (T : Nat → Int32) (pl : Nat → Nat) (P : Pn) (se : Nat → Int32) (n k : Nat) : shV G T pl P se n k ≤ nI G := nI_le (nm_le G _ _ _) (by omega)
theorem P_shaken_loop {G : Nat} (hG : G ≤ 12) {T : Nat → Int32} {pl : Nat → Nat} {P : Pn} (hb : bndS P 61) {se : Nat → Int32} {n : Nat} (hn : n ≤ 200) (w : Int32) : ∀ (k j : Nat) (b m : Int32) (σ : jm_S), j + k = n → KC G T pl P se σ → CR_11 G T (fun _ => true) (se 0) (se 1) j (RN G T pl P se j) σ → nI (nmN G (fun _ => true) 1 (RN G T pl P se n)) ≤ m → ∃ ρ, jv 75 47 [some (.ref 0), some (.int (nI n)), some (.int w), some (.int m), some (.int b), some (.int (nI j))] [] σ = some (some (.int (if w = 0 then (upF (shV G T pl P se n) k j b m).1 else (upF (shV G T pl P se n) k j b m).2)), ρ) ∧ cFr σ ρ := by
  intro k
  induction k with
  | zero =>
    intro j b m σ hj hK hR hm
    rw [P_shaken_L47, if_pos (nI_le (by omega) (by omega))]
    refine ⟨σ, ?_, cFr.rf⟩
    by_cases c : w = 0
    · rw [if_neg (not_not_intro c), if_pos c]; rfl
    · rw [if_pos c, if_neg c]; rfl
  | succ k ih =>
    intro j b m σ hj hK hR hm
    have r0 := P_shaken_L47 (nI n) w m b (nI j) σ
    rw [if_neg (nI_ge (show j < n by omega) (by omega)), hK.1.1, hR.2.2.2.1] at r0
    have stay : (∀ i, j ≤ i → i < j + (k + 1) → shV G T pl P se n i ≤ m) → (if ¬ w = 0 then some (some (Value.int m), σ) else some (some (Value.int b), σ)) = some (some (.int (if w = 0 then (upF (shV G T pl P se n) (k + 1) j b m).1 else (upF (shV G T pl P se n) (k + 1) j b m).2)), σ) := by
      intro q
      rw [upF_stay _ _ _ _ q]
      by_cases c : w = 0
      · rw [if_neg (not_not_intro c), if_pos c]
      · rw [if_pos c, if_neg c]
    by_cases d1 : nI G ≤ m
    · rw [if_pos d1, stay (fun i _ _ => Int32.le_trans (shV_le hG T pl P se n i) d1)] at r0
      exact ⟨σ, r0, cFr.rf⟩
    · rw [if_neg d1] at r0
      have wl : whN G (fun _ => true) (RN G T pl P se j).st ≤ G := cntN_le _ _
      by_cases d2 : whN G (fun _ => true) (RN G T pl P se j).st = 0
      · rw [if_pos (by rw [d2]; decide +kernel), stay (fun i h1 _ => by rw [shV_set (show j ≤ n by omega) h1 d2]; exact hm)] at r0
        exact ⟨σ, r0, cFr.rf⟩
      · rw [if_neg (nI_nle (by omega) (by omega))] at r0
        have nj : ¬ (nI j < 0 ∨ 200 ≤ j) := by rw [jbad2 (show j < 200 by omega) (by decide)]; exact id
        obtain ⟨τ1, a1, a2, a3⟩ := become_23 hG σ hR
        have fr1 : cFr σ τ1 := cFr.of a3 (by decide)
        have hK1 := KC_fr hK fr1
        obtain ⟨z1, z2, z3, z4⟩ := pP_onZ hK1.2.2 hb hn j (Nat.le_refl j) (show j < n by omega)
        have e0 : RN G T pl P se j = SH G T pl P se j j := run_congr j (shZ_before P (Nat.le_refl j))
        rw [e0] at a2
        have kk : (shZ P j).2.1 j = (panZ P).2.1 j + 1 := by
          show (P.S j).toNatClampNeg + (if j = j then 1 else 0) = (P.S j).toNatClampNeg + 1
          rw [if_pos rfl]
        have z3' : (shZ P j).2.1 j < 2 ^ 31 := by
          rw [kk]
          have := (bnd_n hb j).2
          show (P.S j).toNatClampNeg + 1 < 2 ^ 31
          omega
        obtain ⟨τ2, b1, b2, b3⟩ := second_23 hG (Wf_run G T (fun _ => true) (se 0) (se 1) pl (shZ P j) hG j) ((shZ P j).1 j) ((shZ P j).2.2 j) z3' τ1 a2
        have fr2 : cFr τ1 τ2 := cFr.of b3 (by decide)
        have hK2 := KC_fr hK1 fr2
        obtain ⟨τ3, c1, c2, c3⟩ := settle_23 hG (pl := pl) (Z := shZ P j) (t := j + 1) hn (by omega) τ2 (shZ_on hK2.2.2 hb hn) b2
        have fr3 : cFr τ2 τ3 := cFr.of c3 (by decide)
        have hK3 := KC_fr hK2 fr3
        have hR3 : CR_11 G T (fun _ => true) (se 0) (se 1) j (RN G T pl P se j) τ3 := CR_fr hR (fun c hc => by
          simp only [List.mem_cons, List.not_mem_nil, or_false] at hc
          rw [c3 c (by simp; omega), b3 c (by simp; omega), a3 c (by simp; omega)])
        have o : jc 51 [.ref 23, .int (nI n)] τ3 = some (some (.int (shV G T pl P se n j)), τ3) := openAt_23 hG (Nat.le_refl n) hn τ3 c2
        obtain ⟨y1, y2, y3, y4⟩ := pP_onZ hK3.2.2 hb hn j (Nat.le_refl j) (show j < n by omega)
        obtain ⟨τ4, d1', d2', d3'⟩ := second_11 hG (Wf_run G T (fun _ => true) (se 0) (se 1) pl (panZ P) hG j) ((panZ P).1 j) ((panZ P).2.2 j) y3 τ3 hR3
        have fr4 : cFr τ3 τ4 := cFr.of d3' (by decide)
        have hK4 := KC_fr hK3 fr4
        have b1' : jc 41 [.ref 23, .int (τ1 7 j), .int (τ1 8 j + 1), .int (τ1 9 j)] τ1 = some (none, τ2) := by
          rw [z1, z2, z4, nI_1, ← kk]; exact b1
        have d1'' : jc 41 [.ref 11, .int (τ3 7 j), .int (τ3 8 j), .int (τ3 9 j)] τ3 = some (none, τ4) := by
          rw [y1, y2, y4]; exact d1'
        have fr := ((fr1.trans fr2).trans fr3).trans fr4
        rw [a1, jbv_some, nI_clamp (show j < 2 ^ 31 by omega), if_neg nj, if_neg nj, if_neg nj, b1', jbv_some, c1, jbv_some, o, jbi_some, if_neg nj, if_neg nj, if_neg nj] at r0
        rw [r0, upF]
        by_cases q : shV G T pl P se n j ≤ m
        · obtain ⟨ρ, e1, e2⟩ := ih (j + 1) b m τ4 (by omega) hK4 d2' hm
          refine ⟨ρ, ?_, fr.trans e2⟩
          rw [if_pos q, d1'', jbv_some, nI_1, if_pos q, e1]
        · obtain ⟨ρ, e1, e2⟩ := ih (j + 1) (nI j) (shV G T pl P se n j) τ4 (by omega) hK4 d2' (Int32.le_trans hm (Int32.le_of_lt (Int32.not_le.mp q)))
          refine ⟨ρ, ?_, fr.trans e2⟩
          rw [if_neg q, o, jbi_some, if_neg nj, if_neg nj, if_neg nj, d1'', jbv_some, nI_1, if_neg q, e1]
theorem M_shaken_loop {G : Nat} (hG : G ≤ 12) {T : Nat → Int32} {pl : Nat → Nat} {P : Pn} (hb : bndS P 61) {se : Nat → Int32} {n : Nat} (hn : n ≤ 200) (w : Int32) : ∀ (k j : Nat) (b m : Int32) (σ : jm_S), j + k = n → DM σ G T pl → σ 61 20 = se 0 → σ 61 21 = se 1 → σ 61 22 = -1 → (∀ g, g < G → (inB (σ 61 24) g ↔ (fun _ : Nat => true) g = true)) → pM σ P → ∃ ρ, jv 181 38 [some (.ref 61), some (.int (nI n)), some (.int w), some (.int b), some (.int m), some (.int (nI j))] [] σ = some (some (.int (if w = 0 then (upF (shV G T pl P se n) k j b m).1 else (upF (shV G T pl P se n) k j b m).2)), ρ) ∧ jFr mS mK' σ ρ := by
  intro k
  induction k with
  | zero =>
    intro j b m σ hj hD h20 h21 h22 hI hp
    rw [M_shaken_L38, if_pos (nI_le (by omega) (by omega))]
    refine ⟨σ, ?_, jFr.rf⟩
    by_cases c : w = 0
    · rw [if_neg (not_not_intro c), if_pos c]; rfl
    · rw [if_pos c, if_neg c]; rfl
  | succ k ih =>
    intro j b m σ hj hD h20 h21 h22 hI hp
    have k61 : ∀ i, i ≠ 23 → (jm_up σ 61 23 (nI j)) 61 i = σ 61 i := fun i hi => by rw [jup_s, jupd, if_neg hi]
    have k23 : (jm_up σ 61 23 (nI j)) 61 23 = nI j := by rw [jup_s, jupd, if_pos rfl]
    have kc : ∀ c, c ≠ 61 → (jm_up σ 61 23 (nI j)) c = σ c := fun c hc => by rw [jup_n _ _ _ hc]
    have hp2 : pM (jm_up σ 61 23 (nI j)) P := by rw [pM, k61 15 (by decide), kc 71 (by decide), kc 72 (by decide), kc 73 (by decide)]; exact hp
    obtain ⟨τ, a1, a2, a3, a4⟩ := M_goesOn hG (I := fun _ => true) (a := se 0) (s := se 1) (Z := shZ P j) hn (jm_up σ 61 23 (nI j)) (by rw [DM, k61 5 (by decide), kc 66 (by decide), kc 67 (by decide)]; exact hD) (by rw [k61 24 (by decide)]; exact hI) (by rw [k61 20 (by decide)]; exact h20) (by rw [k61 21 (by decide)]; exact h21) (mZ_shake hp2 hb (by rw [k61 22 (by decide)]; exact h22) (show j < 200 by omega) k23)
    have o : jc 168 [.ref 61, .int 1] τ = some (some (.int (shV G T pl P se n j)), τ) := M_many hG 1 τ a2
    have n61 : τ 61 = (jm_up σ 61 23 (nI j)) 61 := a4 61 (by decide)
    have fr : jFr mS mK' σ τ := (jFr.rf.u61 (by decide)).trans (jFr.of a4 (by decide) (by decide))
    have nx : ∀ b' m', ∃ ρ, jv 181 38 [some (.ref 61), some (.int (nI n)), some (.int w), some (.int b'), some (.int m'), some (.int (nI (j + 1)))] [] τ = some (some (.int (if w = 0 then (upF (shV G T pl P se n) k (j + 1) b' m').1 else (upF (shV G T pl P se n) k (j + 1) b' m').2)), ρ) ∧ jFr mS mK' σ ρ := by
      intro b' m'
      obtain ⟨ρ, e1, e2⟩ := ih (j + 1) b' m' τ (by omega) (by rw [DM, n61, k61 5 (by decide), a4 66 (by decide), kc 66 (by decide), a4 67 (by decide), kc 67 (by decide)]; exact hD) (by rw [n61, k61 20 (by decide)]; exact h20) (by rw [n61, k61 21 (by decide)]; exact h21) (by rw [n61, k61 22 (by decide)]; exact h22) (by rw [n61, k61 24 (by decide)]; exact hI) (by rw [pM, n61, k61 15 (by decide), a4 71 (by decide), kc 71 (by decide), a4 72 (by decide), kc 72 (by decide), a4 73 (by decide), kc 73 (by decide)]; exact hp)
      exact ⟨ρ, e1, fr.trans e2⟩
    rw [M_shaken_L38, if_neg (nI_ge (show j < n by omega) (by omega)), a1, jbv_some, o, jbi_some, upF]
    by_cases c : shV G T pl P se n j ≤ m
    · rw [if_pos c, o, jbi_some, if_pos c, nI_1, if_pos c]
      exact nx b m
    · rw [if_neg c, o, jbi_some, if_neg c, o, jbi_some, nI_1, if_neg c]
      exact nx (nI j) (shV G T pl P se n j)
theorem A_shaken {σ : jm_S} (h : I_all σ) (x w : Int32) : jSame σ sS mK' I_all (jc 75 [.ref 0, .int x, .int w]) (jc 181 [.ref 61, .int x, .int w]) := by
  obtain ⟨G, pl, P, hG, hb, hgr, hhe, kc, km⟩ := K_of h
  by_cases c1 : x < 1 ∨ 200 < x
  · exact sim_bad h (by rw [P_shaken_in, P_isOutside, jbi_some, ifc _ c1, if_pos n10]) (by rw [M_shaken_in, M_isLong, jbi_some, ifc' _ c1, if_pos rfl])
  · by_cases c3 : w < 0 ∨ 1 < w
    · exact sim_bad h (by rw [P_shaken_in, P_isOutside, jbi_some, ifn _ c1, if_neg (not_not_intro rfl), P_isOutside, jbi_some, ifc _ c3, if_neg n10]) (by rw [M_shaken_in, M_isLong, jbi_some, ifn' _ c1, if_neg n10, M_isTwo, jbi_some, ifc' _ c3, if_neg (not_not_intro rfl)])
    · obtain ⟨n, n1, hn, rfl⟩ := jN1200 c1
      refine sim_call h (v := some (.int (if w = 0 then (upF (shV G (σ 67) pl P (σ 68) n) n 0 (-1) (nI (nmN G (fun _ => true) 1 (RN G (σ 67) pl P (σ 68) n)))).1 else (upF (shV G (σ 67) pl P (σ 68) n) n 0 (-1) (nI (nmN G (fun _ => true) 1 (RN G (σ 67) pl P (σ 68) n)))).2))) ?_ (fun τ hτ => ?_)
      · obtain ⟨τ, a1, a2, a3⟩ := cook hG hb hn σ kc
        have o := openAt_11 hG (Nat.le_refl n) hn τ a2
        obtain ⟨τ1, b1, b2, b3⟩ := fillPan hG τ (KC_fr kc a3)
        obtain ⟨ρ, e1, e2⟩ := P_shaken_loop hG hb hn w n 0 (-1) _ τ1 (by omega) (KC_fr kc (a3.trans b3)) b2 (Int32.le_refl _)
        rw [show some (Value.int (nI 0)) = some (Value.int 0) by rw [nI_0]] at e1
        refine ⟨ρ, ?_, (a3.trans b3).trans e2⟩
        rw [P_shaken_in, P_isOutside, jbi_some, ifn _ c1, if_neg (not_not_intro rfl), P_isOutside, jbi_some, ifn _ c3, if_pos rfl, a1, jbv_some, o, jbi_some, b1, jbv_some, e1]
      · obtain ⟨τ1, τ2, a1, a2, a3, a4, a5, ⟨t1, t2, t3, t4, t5, t6⟩⟩ := M_tries_goes hG hb hn τ (KM_c km hτ)
        obtain ⟨ρ, b1, b2⟩ := M_shaken_loop hG hb hn w n 0 (-1) (nI (nmN G (fun _ => true) 1 (RN G (σ 67) pl P (σ 68) n))) τ2 (by omega) (KM_fr (KM_c km hτ) a5).1 t1 t2 t3 t5 t6
        rw [show some (Value.int (nI 0)) = some (Value.int 0) by rw [nI_0]] at b1
        refine ⟨ρ, ?_, a5.trans b2⟩
        rw [M_shaken_in, M_isLong, jbi_some, ifn' _ c1, if_neg n10, M_isTwo, jbi_some, ifn' _ c3, if_pos n10, a1, jbv_some, a2, jbv_some, M_many hG 1 τ2 a3, jbi_some, b1]
