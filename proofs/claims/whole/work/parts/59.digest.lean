/-! ===== digest ===== -/
def hF (v : Nat → Int32) : Nat → Nat → Int64 → Int64
  | 0, _, h => h
  | k + 1, j, h => hF v k (j + 1) ((31 : Int64) * h + (v j).toInt64)
def hG2 (v : Nat → Nat → Int32) (m : Nat) : Nat → Nat → Int64 → Int64
  | 0, _, h => h
  | k + 1, g, h => hG2 v m k (g + 1) (hF (v g) m 0 h)
theorem h_loop {α : Type} (F : Int64 → Int32 → jm_S → α) (Inv : jm_S → Prop) {v : Nat → Int32} {n : Nat} (h : ∀ j x τ, j < n → Inv τ → ∃ ρ, F x (nI j) τ = F ((31 : Int64) * x + (v j).toInt64) (nI (j + 1)) ρ ∧ Inv ρ) : ∀ (k j : Nat) (x : Int64) (τ : jm_S), j + k = n → Inv τ → ∃ ρ, F x (nI j) τ = F (hF v k j x) (nI n) ρ ∧ Inv ρ := by
  intro k
  induction k with
  | zero =>
    intro j x τ hj hI
    have e : j = n := by omega
    subst e
    exact ⟨τ, rfl, hI⟩
  | succ k ih =>
    intro j x τ hj hI
    obtain ⟨ρ, e1, e2⟩ := h j x τ (by omega) hI
    obtain ⟨ν, g1, g2⟩ := ih (j + 1) _ ρ (by omega) e2
    exact ⟨ν, by rw [e1, g1]; rfl, g2⟩
/-- a loop that leaves the state -/
theorem h_loop1 {α : Type} (F : Int64 → Int32 → α) {v : Nat → Int32} {n : Nat} (h : ∀ j x, j < n → F x (nI j) = F ((31 : Int64) * x + (v j).toInt64) (nI (j + 1))) (x : Int64) : F x 0 = F (hF v n 0 x) (nI n) := by
  have go : ∀ (k j : Nat) (x : Int64), j + k = n → F x (nI j) = F (hF v k j x) (nI n) := by
    intro k
    induction k with
    | zero => intro j x hj; rw [show j = n by omega]; rfl
    | succ k ih => intro j x hj; rw [h j x (by omega), ih (j + 1) _ (by omega)]; rfl
  have := go n 0 x (by omega)
  rw [nI_0] at this
  exact this
def fwV (σ : jm_S) (j : Nat) : Int32 := if j = 0 then σ 42 3 else if j = 1 then σ 44 3 else if j = 2 then σ 47 3 else σ 50 3
def gnV (X : Sm) (g j : Nat) : Int32 := if nI j = 0 then X.wm g else if nI j = 1 then X.wt g else if nI j = 2 then X.pr g else if nI j = 3 then X.st g else if nI j = 4 then (if X.st g = 1 then X.en g else -1) else X.lg g
theorem out5 {j : Nat} (hj : j < 6) : ¬ (nI j < 0 ∨ 5 < nI j) := by
  rintro (q | q)
  · exact nI_pos (by omega) q
  · rw [show (5 : Int32) = nI 5 by decide +kernel] at q
    exact nI_nlt (by omega) (by omega) q
theorem i7 : (7 : Int32) = nI 7 := by decide +kernel
theorem i8 : (8 : Int32) = nI 8 := by decide +kernel
theorem i6 : (6 : Int32) = nI 6 := by decide +kernel
theorem i5 : (5 : Int32) = nI 5 := by decide +kernel
theorem i4 : (4 : Int32) = nI 4 := by decide +kernel
theorem i3 : (3 : Int32) = nI 3 := by decide +kernel
theorem i2 : (2 : Int32) = nI 2 := by decide +kernel
theorem i60 : (60 : Int32) = nI 60 := by decide +kernel
noncomputable def dgV (G : Nat) (T : Nat → Int32) (pl : Nat → Nat) (P : Pn) (se : Nat → Int32) (fl : Nat → Int32) (L : Nat → CL) (who wh : Nat → Nat) (n : Nat) (ct fw : Nat → Int32) : Int64 :=
  hF (fun j => if n = 0 then -3 else fq (ftR G T pl P se who wh n) (nI j)) 5 0
   (hF (fun j => svV G (svI T 3 G) (SV G T pl P se 3 100) (nI j)) 4 0
    (hF (fun j => evV (evO G T pl se 60) (evB G T pl se 60) (nI j)) 3 0
     ((31 : Int64) * (hG2 (fun r j => tlR G T pl P se (fl r) (L r) (nI j)) 6 3 0
      (hG2 (gnV (RN G T pl P se 100)) 6 G 0 (hF fw 4 0 (hF ct 8 0 17)))) + (bsF fl (wtR G T pl P se L) 3 0 (-1) 0).toInt64)))
/-! the class's parts -/
theorem P_dg1 {σ : jm_S} {ct : Nat → Int32} (h : ∀ j, j < 8 → jc 112 [.ref 0, .int (nI j)] σ = some (some (.int (ct j)), σ)) : jc 114 [.ref 0] σ = jv 114 33 [some (.ref 0), some (.long (hF ct 8 0 17)), none, some (.int 0)] [] σ := by
  rw [P_digest_in, h_loop1 (fun x j => jv 114 6 [some (.ref 0), some (.long x), none, some (.int j)] [] σ) (v := ct) (n := 8)]
  · show jv 114 6 [some (.ref 0), some (.long (hF ct 8 0 17)), none, some (.int (nI 8))] [] σ = _
    rw [P_digest_L6, if_pos (by decide +kernel)]
  · intro j x hj
    show jv 114 6 [some (.ref 0), some (.long x), none, some (.int (nI j))] [] σ = _
    rw [P_digest_L6, if_neg (by rw [i7]; exact nI_nlt (by omega) (by omega)), h j hj, jbi_some, nI_1]
theorem P_dg2 (x : Int64) (σ : jm_S) : jv 114 33 [some (.ref 0), some (.long x), none, some (.int 0)] [] σ = jv 114 33 [some (.ref 0), some (.long (hF (fwV σ) 4 0 x)), none, some (.int 4)] [] σ := by
  rw [P_digest_L33, if_neg (by decide +kernel), jaa4_0, P_digest_A49_42, show (0 : Int32) + 1 = 1 by decide +kernel]
  rw [P_digest_L33, if_neg (by decide +kernel), jaa4_1, P_digest_A49_44, show (1 : Int32) + 1 = 2 by decide +kernel]
  rw [P_digest_L33, if_neg (by decide +kernel), jaa4_2, P_digest_A49_47, show (2 : Int32) + 1 = 3 by decide +kernel]
  rw [P_digest_L33, if_neg (by decide +kernel), jaa4_3, P_digest_A49_50, show (3 : Int32) + 1 = 4 by decide +kernel]
  rfl
theorem P_dgG {G : Nat} (hG : G ≤ 12) {T : Nat → Int32} {pl : Nat → Nat} {P : Pn} {se : Nat → Int32} (x1 : Int64) (x3 : Int32) (σ : jm_S) (h12 : σ 1 2 = nI G) (h : CR_11 G T (fun _ => true) (se 0) (se 1) 100 (RN G T pl P se 100) σ) : ∀ (k g : Nat) (x : Int64) (u : Option Value), g + k = G → jv 115 22 [some (.ref 0), some (.long x1), none, some (.int x3), some (.long x), none, some (.int (nI g)), u] [] σ = some (some (.long (hG2 (gnV (RN G T pl P se 100)) 6 k g x)), σ) := by
  intro k
  induction k with
  | zero =>
    intro g x u hg
    rw [P_digestGrains_L22, h12, if_pos (nI_le (by omega) (by omega))]; rfl
  | succ k ih =>
    intro g x u hg
    rw [P_digestGrains_L22, h12, if_neg (nI_ge (show g < G by omega) (by omega)), h_loop1 (fun x j => jv 115 37 [some (.ref 0), some (.long x1), none, some (.int x3), some (.long x), none, some (.int (nI g)), some (.int j)] [] σ) (v := gnV (RN G T pl P se 100) g) (n := 6)]
    · show jv 115 37 [some (.ref 0), some (.long x1), none, some (.int x3), some (.long (hF (gnV (RN G T pl P se 100) g) 6 0 x)), none, some (.int (nI g)), some (.int (nI 6))] [] σ = _
      rw [P_digestGrains_L37, if_pos (by decide +kernel), nI_1, ih (g + 1) _ _ (by omega)]; rfl
    · intro j x hj
      show jv 115 37 [some (.ref 0), some (.long x1), none, some (.int x3), some (.long x), none, some (.int (nI g)), some (.int (nI j))] [] σ = _
      rw [P_digestGrains_L37, if_neg (by rw [i5]; exact nI_nlt (by omega) (by omega)), tell_11 hG (show g < G by omega) σ h (nI j) (out5 hj), jbi_some, nI_1]; rfl
theorem P_dgR {G : Nat} (hG : G ≤ 12) {T : Nat → Int32} {pl : Nat → Nat} {P : Pn} {se : Nat → Int32} {fl : Nat → Int32} {L : Nat → CL} (x1 : Int64) (σ : jm_S) (h : CS_11 G (fun _ => true) (RN G T pl P se 200) σ) (hK : KC G T pl P se σ) (hR : KRc fl L σ) (hL : ∀ r, r < 3 → ∀ q, q ∈ L r → ruL q.1 ∧ ¬ q.2 < 1) : ∀ (k r : Nat) (x : Int64) (u : Option Value), r + k = 3 → jv 116 12 [some (.ref 0), some (.long x1), none, some (.long x), none, some (.int (nI r)), u] [] σ = some (some (.long ((31 : Int64) * (hG2 (fun r j => tlR G T pl P se (fl r) (L r) (nI j)) 6 k r x) + (bsF fl (wtR G T pl P se L) 3 0 (-1) 0).toInt64)), σ) := by
  intro k
  induction k with
  | zero =>
    intro r x u hr
    rw [P_digestRules_L12, if_pos (by rw [i3]; exact nI_le (by omega) (by omega)), P_bestRule hG σ h hK hR hL, jbi_some]; rfl
  | succ k ih =>
    intro r x u hr
    rw [P_digestRules_L12, if_neg (by rw [i3]; exact nI_ge (by omega) (by omega)), h_loop1 (fun x j => jv 116 21 [some (.ref 0), some (.long x1), none, some (.long x), none, some (.int (nI r)), some (.int j)] [] σ) (v := fun j => tlR G T pl P se (fl r) (L r) (nI j)) (n := 6)]
    · show jv 116 21 [some (.ref 0), some (.long x1), none, some (.long (hF (fun j => tlR G T pl P se (fl r) (L r) (nI j)) 6 0 x)), none, some (.int (nI r)), some (.int (nI 6))] [] σ = _
      rw [P_digestRules_L21, if_pos (by decide +kernel), nI_1, ih (r + 1) _ _ (by omega)]; rfl
    · intro j x hj
      show jv 116 21 [some (.ref 0), some (.long x1), none, some (.long x), none, some (.int (nI r)), some (.int (nI j))] [] σ = _
      have t : jc 55 [.ref 0, .int (nI r), .int (nI j)] σ = some (some (.int (tlR G T pl P se (fl r) (L r) (nI j))), σ) := by
        have ok := hL r (by omega)
        match r, (show r < 3 by omega), ok with
        | 0, _, ok => rw [show nI 0 = 0 by decide +kernel]; exact P_tellRule_0 hG (nI j) (out5 hj) σ h hK hR.1 ok
        | 1, _, ok => rw [show nI 1 = 1 by decide +kernel]; exact P_tellRule_1 hG (nI j) (out5 hj) σ h hK hR.2.1 ok
        | 2, _, ok => rw [show nI 2 = 2 by decide +kernel]; exact P_tellRule_2 hG (nI j) (out5 hj) σ h hK hR.2.2 ok
        | n + 3, q, _ => omega
      rw [P_digestRules_L21, if_neg (by rw [i5]; exact nI_nlt (by omega) (by omega)), t, jbi_some, nI_1]
theorem P_digestV {σ : jm_S} {G : Nat} {pl : Nat → Nat} {P : Pn} {fl : Nat → Int32} {L : Nat → CL} {who wh : Nat → Nat} {n : Nat} (h : I_all σ) (hG : G ≤ 12) (hb : bndS P 61) (hgr : I_gr σ G) (hhe : I_he σ G) (kc : KC G (σ 67) pl P (σ 68) σ) (krc : KRc fl L σ) (hL : ∀ r, r < 3 → ∀ q, q ∈ L r → ruL q.1 ∧ ¬ q.2 < 1) (hn : n ≤ 12) (hc : HC G who wh n σ) : ∃ ρ, jc 114 [.ref 0] σ = some (some (.long (dgV G (σ 67) pl P (σ 68) fl L who wh n (ctF G P σ) (fwV σ))), ρ) ∧ hFr σ ρ := by
  obtain ⟨τ1, a1, a2, a3⟩ := fillPan hG σ kc
  obtain ⟨τ2, b1, b2, b3⟩ := goOn_11 hG (pl := pl) (Z := panZ P) (t := 0) (n := 100) (by omega) (by omega) τ1 (pP_onZ (KC_fr kc a3).2.2 hb (by omega)) a2
  rw [← i100] at b1
  have f2 : cFr σ τ2 := a3.trans (cFr.of b3 (by decide))
  have g : ∀ x, jc 115 [.ref 0, .long x, .int 100] σ = some (some (.long (hG2 (gnV (RN G (σ 67) pl P (σ 68) 100)) 6 G 0 x)), τ2) := by
    intro x
    have l := P_dgG hG x 100 τ2 (KC_fr kc f2).1.1 b2 G 0 x none (by omega)
    rw [nI_0] at l
    rw [P_digestGrains_in, a1, jbv_some, b1, jbv_some, l]
  obtain ⟨τ3, c1, c2, c3⟩ := cook hG hb (show 200 ≤ 200 by omega) τ2 (KC_fr kc f2)
  rw [← nI200] at c1
  have f3 : cFr σ τ3 := f2.trans c3
  have r : ∀ x, jc 116 [.ref 0, .long x] τ2 = some (some (.long ((31 : Int64) * (hG2 (fun r j => tlR G (σ 67) pl P (σ 68) (fl r) (L r) (nI j)) 6 3 0 x) + (bsF fl (wtR G (σ 67) pl P (σ 68) L) 3 0 (-1) 0).toInt64)), τ3) := by
    intro x
    have l := P_dgR hG x τ3 c2 (KC_fr kc f3) (KRc_fr krc f3) hL 3 0 x none (by omega)
    rw [nI_0] at l
    rw [P_digestRules_in, c1, jbv_some, l]
  obtain ⟨τ4, d1, d2, d3⟩ := tryHeats hG (show 60 ≤ 200 by omega) τ3 (KC_fr kc f3)
  rw [← i60] at d1
  have f4 : cFr σ τ4 := f3.trans d3
  obtain ⟨τ5, e1, e2, e3⟩ := P_sieve hG hb 3 (show 100 ≤ 200 by omega) τ4 (KC_fr kc f4)
  rw [← i100] at e1
  have f5 : cFr σ τ5 := f4.trans e3
  have fit : ∀ x, ∃ ρ, jc 117 [.ref 0, .long x] τ5 = some (some (.long (hF (fun j => if n = 0 then -3 else fq (ftR G (σ 67) pl P (σ 68) who wh n) (nI j)) 5 0 x)), ρ) ∧ hFr τ5 ρ := by
    intro x
    have hc5 := HC_h hc f5.h
    rw [P_digestFits_in, hc5.1]
    by_cases c : n = 0
    · rw [if_pos (by rw [c]; decide +kernel)]
      refine ⟨τ5, ?_, hFr.rf⟩
      rw [h_loop1 (fun y j => jv 117 31 [some (.ref 0), some (.long x), none, some (.long y), none, some (.int 0), some (.int j)] [] τ5) (v := fun j => if n = 0 then -3 else fq (ftR G (σ 67) pl P (σ 68) who wh n) (nI j)) (n := 5)]
      · show jv 117 31 [some (.ref 0), some (.long x), none, some (.long (hF (fun j => if n = 0 then -3 else fq (ftR G (σ 67) pl P (σ 68) who wh n) (nI j)) 5 0 x)), none, some (.int 0), some (.int (nI 5))] [] τ5 = _
        rw [P_digestFits_L31, if_pos (by decide +kernel)]
      · intro j y hj
        show jv 117 31 [some (.ref 0), some (.long x), none, some (.long y), none, some (.int 0), some (.int (nI j))] [] τ5 = _
        rw [P_digestFits_L31, if_neg (by rw [i4]; exact nI_nlt (by omega) (by omega)), if_pos rfl, if_pos c, nI_1]
    · obtain ⟨ρ, m1, m2, m3⟩ := tryStrengths hG hb hn τ5 (KC_fr kc f5) hc5
      rw [if_neg (nI_nle (by omega) (by omega)), m1, jbv_some]
      refine ⟨ρ, ?_, m3⟩
      rw [h_loop1 (fun y j => jv 117 31 [some (.ref 0), some (.long x), none, some (.long y), none, some (.int 1), some (.int j)] [] ρ) (v := fun j => if n = 0 then -3 else fq (ftR G (σ 67) pl P (σ 68) who wh n) (nI j)) (n := 5)]
      · show jv 117 31 [some (.ref 0), some (.long x), none, some (.long (hF (fun j => if n = 0 then -3 else fq (ftR G (σ 67) pl P (σ 68) who wh n) (nI j)) 5 0 x)), none, some (.int 1), some (.int (nI 5))] [] ρ = _
        rw [P_digestFits_L31, if_pos (by decide +kernel)]
      · intro j y hj
        show jv 117 31 [some (.ref 0), some (.long x), none, some (.long y), none, some (.int 1), some (.int (nI j))] [] ρ = _
        have o4 : ¬ (nI j < 0 ∨ 4 < nI j) := by
          rintro (q | q)
          · exact nI_pos (by omega) q
          · rw [i4] at q
            exact nI_nlt (by omega) (by omega) q
        rw [P_digestFits_L31, if_neg (by rw [i4]; exact nI_nlt (by omega) (by omega)), if_neg n10, Hearing_tell (nI j) o4 ρ m2, jbi_some, if_neg c, nI_1]
  generalize hx2 : hF (fwV σ) 4 0 (hF (ctF G P σ) 8 0 17) = x2
  have s1 : jc 114 [.ref 0] σ = jv 114 33 [some (.ref 0), some (.long x2), none, some (.int 4)] [] σ := by
    rw [P_dg1 (fun j hj => P_count h hG hgr hhe kc (by omega)), P_dg2, hx2]
  generalize hx4 : (31 : Int64) * (hG2 (fun r j => tlR G (σ 67) pl P (σ 68) (fl r) (L r) (nI j)) 6 3 0 (hG2 (gnV (RN G (σ 67) pl P (σ 68) 100)) 6 G 0 x2)) + (bsF fl (wtR G (σ 67) pl P (σ 68) L) 3 0 (-1) 0).toInt64 = x4
  have s2 : jv 114 33 [some (.ref 0), some (.long x2), none, some (.int 4)] [] σ = jv 114 83 [some (.ref 0), some (.long x4), none, some (.int 0)] [] τ4 := by
    rw [P_digest_L33, if_pos (by decide +kernel), g, jbl_some, r, jbl_some, hx4, d1, jbv_some]
  generalize hx5 : hF (fun j => evV (evO G (σ 67) pl (σ 68) 60) (evB G (σ 67) pl (σ 68) 60) (nI j)) 3 0 x4 = x5
  have s3 : jv 114 83 [some (.ref 0), some (.long x4), none, some (.int 0)] [] τ4 = jv 114 119 [some (.ref 0), some (.long x5), none, some (.int 0)] [] τ5 := by
    rw [h_loop1 (fun y j => jv 114 83 [some (.ref 0), some (.long y), none, some (.int j)] [] τ4) (v := fun j => evV (evO G (σ 67) pl (σ 68) 60) (evB G (σ 67) pl (σ 68) 60) (nI j)) (n := 3)]
    · show jv 114 83 [some (.ref 0), some (.long (hF (fun j => evV (evO G (σ 67) pl (σ 68) 60) (evB G (σ 67) pl (σ 68) 60) (nI j)) 3 0 x4)), none, some (.int (nI 3))] [] τ4 = _
      rw [hx5, P_digest_L83, if_pos (by decide +kernel), e1, jbv_some]
    · intro j y hj
      show jv 114 83 [some (.ref 0), some (.long y), none, some (.int (nI j))] [] τ4 = _
      rw [P_digest_L83, if_neg (by rw [i2]; exact nI_nlt (by omega) (by omega)), Evens_tell τ4 d2 (nI j), jbi_some, nI_1]
  generalize hx6 : hF (fun j => svV G (svI (σ 67) 3 G) (SV G (σ 67) pl P (σ 68) 3 100) (nI j)) 4 0 x5 = x6
  obtain ⟨ρ, q1, q2⟩ := fit x6
  have s4 : jv 114 119 [some (.ref 0), some (.long x5), none, some (.int 0)] [] τ5 = some (some (.long (hF (fun j => if n = 0 then -3 else fq (ftR G (σ 67) pl P (σ 68) who wh n) (nI j)) 5 0 x6)), ρ) := by
    rw [h_loop1 (fun y j => jv 114 119 [some (.ref 0), some (.long y), none, some (.int j)] [] τ5) (v := fun j => svV G (svI (σ 67) 3 G) (SV G (σ 67) pl P (σ 68) 3 100) (nI j)) (n := 4)]
    · show jv 114 119 [some (.ref 0), some (.long (hF (fun j => svV G (svI (σ 67) 3 G) (SV G (σ 67) pl P (σ 68) 3 100) (nI j)) 4 0 x5)), none, some (.int (nI 4))] [] τ5 = _
      rw [hx6, P_digest_L119, if_pos (by decide +kernel), q1, jbl_some]
    · intro j y hj
      show jv 114 119 [some (.ref 0), some (.long y), none, some (.int (nI j))] [] τ5 = _
      have ts := P_tellSieved hG 3 (show 100 ≤ 200 by omega) (nI j) (by rw [jout hj]; exact id) τ5 e2
      rw [← i100] at ts
      rw [P_digest_L119, if_neg (by rw [i3]; exact nI_nlt (by omega) (by omega)), ts, jbi_some, nI_1]
  refine ⟨ρ, ?_, f5.h.trans q2⟩
  rw [s1, s2, s3, s4, ← hx6, ← hx5, ← hx4, ← hx2]; rfl
