/-! ===== air ===== -/
theorem tb_sub {a b : Int32} (h1 : -2147483648 ≤ a.toInt - b.toInt) (h2 : a.toInt - b.toInt < 2147483648) : (a - b).toInt = a.toInt - b.toInt := by
  rw [Int32.toInt_sub]; exact Int.bmod_eq_of_le (by omega) (by omega)
theorem tb_add {a b : Int32} (h1 : -2147483648 ≤ a.toInt + b.toInt) (h2 : a.toInt + b.toInt < 2147483648) : (a + b).toInt = a.toInt + b.toInt := by
  rw [Int32.toInt_add]; exact Int.bmod_eq_of_le (by omega) (by omega)
theorem tb_mul {a b : Int32} (h1 : -2147483648 ≤ a.toInt * b.toInt) (h2 : a.toInt * b.toInt < 2147483648) : (a * b).toInt = a.toInt * b.toInt := by
  rw [Int32.toInt_mul]; exact Int.bmod_eq_of_le (by omega) (by omega)
theorem tdv (x : Int) {c : Int} (hc : 0 < c) : (0 ≤ x → x.tdiv c = x / c) ∧ (x < 0 → x.tdiv c = -((-x) / c)) := by
  refine ⟨fun h => Int.tdiv_eq_ediv_of_nonneg h, fun h => ?_⟩
  obtain ⟨y, rfl⟩ : ∃ y, x = -y := ⟨-x, by omega⟩
  rw [Int.neg_tdiv, Int.tdiv_eq_ediv_of_nonneg (by omega), Int.neg_neg]
theorem div40 (u : Int32) : -53687091 ≤ (u / 40).toInt ∧ (u / 40).toInt ≤ 53687091 := by
  have h1 := Int32.toInt_lt u
  have h2 := Int32.le_toInt u
  have e : (40 : Int32).toInt = 40 := by decide
  rw [Int32.toInt_div_of_ne_right u 40 (by decide), e]
  obtain ⟨t1, t2⟩ := tdv u.toInt (c := 40) (by decide)
  by_cases c : 0 ≤ u.toInt
  · rw [t1 c]; omega
  · rw [t2 (by omega)]; omega
theorem div20 (u : Int32) : -107374183 ≤ (u / 20).toInt ∧ (u / 20).toInt ≤ 107374183 := by
  have h1 := Int32.toInt_lt u
  have h2 := Int32.le_toInt u
  have e : (20 : Int32).toInt = 20 := by decide
  rw [Int32.toInt_div_of_ne_right u 20 (by decide), e]
  obtain ⟨t1, t2⟩ := tdv u.toInt (c := 20) (by decide)
  by_cases c : 0 ≤ u.toInt
  · rw [t1 c]; omega
  · rw [t2 (by omega)]; omega
theorem xP_bd (w wt : Int32) : -53687091 ≤ (xP w wt).toInt ∧ (xP w wt).toInt ≤ 53687091 := by
  unfold xP
  split
  · decide
  · exact div40 _
theorem btw {x : Int32} {l h : Int32} (hx : ¬ (x < l ∨ h < x)) : l.toInt ≤ x.toInt ∧ x.toInt ≤ h.toInt := by
  rw [not_or] at hx
  exact ⟨Int32.le_iff_toInt_le.mp (Int32.not_lt.mp hx.1), Int32.le_iff_toInt_le.mp (Int32.not_lt.mp hx.2)⟩
theorem xH_bd {sk wt : Int32} (hs : 1 ≤ sk.toInt ∧ sk.toInt ≤ 20) : 1 ≤ (xH sk wt).toInt ∧ (xH sk wt).toInt ≤ 107374203 := by
  have d := div20 wt
  have e : (sk - wt / 20).toInt = sk.toInt - (wt / 20).toInt := tb_sub (by omega) (by omega)
  have o : (1 : Int32).toInt = 1 := by decide
  unfold xH
  split
  · next c =>
    rw [Int32.lt_iff_toInt_lt, o] at c
    rw [e] at c ⊢
    omega
  · rw [o]; omega
theorem lg_bd {a s sk z w wt : Int32} (ha : 0 ≤ a.toInt ∧ a.toInt ≤ 99) (hs : 5 ≤ s.toInt ∧ s.toInt ≤ 15) (hk : 1 ≤ sk.toInt ∧ sk.toInt ≤ 20) (hz : 1 ≤ z.toInt ∧ z.toInt ≤ 9) (h : xO a s sk w wt) : 0 ≤ (z * (xP w wt - a) / 10).toInt ∧ (z * (xP w wt - a) / 10).toInt ≤ 48318390 := by
  have hP := xP_bd w wt
  have hH := xH_bd (wt := wt) hk
  have e1 : (xP w wt - a).toInt = (xP w wt).toInt - a.toInt := tb_sub (by omega) (by omega)
  have m1 : s.toInt * (xH sk wt).toInt ≤ 15 * (xH sk wt).toInt := Int.mul_le_mul_of_nonneg_right hs.2 (by omega)
  have m2 : 5 * (xH sk wt).toInt ≤ s.toInt * (xH sk wt).toInt := Int.mul_le_mul_of_nonneg_right hs.1 (by omega)
  have e2 : (s * xH sk wt).toInt = s.toInt * (xH sk wt).toInt := tb_mul (by omega) (by omega)
  have h' := Int32.le_iff_toInt_le.mp (Int32.not_lt.mp h)
  rw [e2] at h'
  have p1 : 5 ≤ (xP w wt - a).toInt := by omega
  have p2 : (xP w wt - a).toInt ≤ 53687091 := by omega
  generalize xP w wt - a = p at p1 p2
  have q1 : z.toInt * p.toInt ≤ 9 * p.toInt := Int.mul_le_mul_of_nonneg_right hz.2 (by omega)
  have q2 : 1 * p.toInt ≤ z.toInt * p.toInt := Int.mul_le_mul_of_nonneg_right hz.1 (by omega)
  have e3 : (z * p).toInt = z.toInt * p.toInt := tb_mul (by omega) (by omega)
  have e10 : (10 : Int32).toInt = 10 := by decide
  rw [Int32.toInt_div_of_ne_right _ 10 (by decide), e10, e3, (tdv _ (c := 10) (by decide)).1 (by omega)]
  omega
theorem lg_run {G : Nat} {T : Nat → Int32} {I : Nat → Bool} {a s : Int32} {pl : Nat → Nat} {Z : Pg} (ha : 0 ≤ a.toInt ∧ a.toInt ≤ 99) (hs : 5 ≤ s.toInt ∧ s.toInt ≤ 15) {g : Nat} (hk : 1 ≤ (T (4 * g + 1)).toInt ∧ (T (4 * g + 1)).toInt ≤ 20) (hz : 1 ≤ (T (4 * g + 2)).toInt ∧ (T (4 * g + 2)).toInt ≤ 9) (t : Nat) : 0 ≤ ((run G T I a s pl Z t).lg g).toInt ∧ ((run G T I a s pl Z t).lg g).toInt ≤ 48318390 := by
  induction t with
  | zero =>
    have e : (run G T I a s pl Z 0).lg g = 0 := rfl
    rw [e]; decide
  | succ t ih =>
    rw [run_lg]
    split
    · unfold nLg
      split
      · next c => exact lg_bd ha hs hk hz c
      · exact ih
    · exact ih
theorem sumI_bd {v : Nat → Int32} : ∀ n, n ≤ 12 → (∀ j, j < n → 0 ≤ (v j).toInt ∧ (v j).toInt ≤ 48318390) → 0 ≤ (sumI v n).toInt ∧ (sumI v n).toInt ≤ n * 48318390 := by
  intro n
  induction n with
  | zero => intro _ _; have e : (sumI v 0).toInt = 0 := rfl; rw [e]; decide
  | succ n ih =>
    intro hn h
    obtain ⟨i1, i2⟩ := ih (by omega) (fun j hj => h j (by omega))
    obtain ⟨k1, k2⟩ := h n (by omega)
    have e : (sumI v (n + 1)).toInt = (sumI v n).toInt + (v n).toInt := by
      rw [sumI]
      exact tb_add (by omega) (by omega)
    rw [e]
    have c : ((n + 1 : Nat) : Int) * 48318390 = (n : Int) * 48318390 + 48318390 := by omega
    rw [c]
    omega
def upF (v : Nat → Int32) : Nat → Nat → Int32 → Int32 → Int32 × Int32
  | 0, _, b, m => (b, m)
  | k + 1, j, b, m => if v j ≤ m then upF v k (j + 1) b m else upF v k (j + 1) (nI j) (v j)
abbrev AR (G : Nat) (T : Nat → Int32) (pl : Nat → Nat) (P : Pn) (se : Nat → Int32) (n j : Nat) : Sm := run G T (fun _ => true) (nI j) (se 1) pl (panZ P) n
def arV (G : Nat) (T : Nat → Int32) (pl : Nat → Nat) (P : Pn) (se : Nat → Int32) (n j : Nat) : Int32 := lgN G (fun _ => true) (AR G T pl P se n j)
theorem P_air_loop {G : Nat} (hG : G ≤ 12) {T : Nat → Int32} {pl : Nat → Nat} {P : Pn} (hb : bndS P 61) {se : Nat → Int32} {n : Nat} (hn : n ≤ 200) (w : Int32) : ∀ (k j : Nat) (b m : Int32) (u : Option Value) (σ : jm_S), j + k = 100 → KC G T pl P se σ → ∃ ρ, jv 74 31 [some (.ref 0), some (.int (nI n)), some (.int w), some (.int b), some (.int m), some (.int (nI j)), u] [] σ = some (some (.int (if w = 0 then (upF (arV G T pl P se n) k j b m).1 else (upF (arV G T pl P se n) k j b m).2)), ρ) ∧ cFr σ ρ := by
  intro k
  induction k with
  | zero =>
    intro j b m u σ hj hK
    rw [P_air_L31, if_pos (by rw [i99]; exact nI_lt (by omega) (by omega))]
    refine ⟨σ, ?_, cFr.rf⟩
    by_cases c : w = 0
    · rw [if_neg (not_not_intro c), if_pos c]; rfl
    · rw [if_pos c, if_neg c]; rfl
  | succ k ih =>
    intro j b m u σ hj hK
    obtain ⟨τ, a1, a2, a3⟩ := fill_11 hG (nI j) (se 1) σ hK.1
    have a3' : cFr σ τ := cFr.of a3 (by decide)
    obtain ⟨τ1, b1, b2, b3⟩ := settle_11 hG (pl := pl) (Z := panZ P) (t := 0) hn (by omega) τ (pP_onZ (KC_fr hK a3').2.2 hb hn) a2
    have b3' : cFr τ τ1 := cFr.of b3 (by decide)
    have o : jc 59 [.ref 11, .int (nI n)] τ1 = some (some (.int (arV G T pl P se n j)), τ1) := largeAt_11 hG (Nat.le_refl n) hn τ1 b2
    rw [P_air_L31, if_neg (by rw [i99]; exact nI_nlt (by omega) (by omega)), hK.2.1 1 (by omega), a1, jbv_some, b1, jbv_some, o, jbi_some, nI_1, upF]
    by_cases c : arV G T pl P se n j ≤ m
    · rw [if_pos c, if_pos c]
      obtain ⟨ρ, e1, e2⟩ := ih (j + 1) b m (some (.int (arV G T pl P se n j))) τ1 (by omega) (KC_fr hK (a3'.trans b3'))
      exact ⟨ρ, e1, (a3'.trans b3').trans e2⟩
    · rw [if_neg c, if_neg c]
      obtain ⟨ρ, e1, e2⟩ := ih (j + 1) (nI j) (arV G T pl P se n j) (some (.int (arV G T pl P se n j))) τ1 (by omega) (KC_fr hK (a3'.trans b3'))
      exact ⟨ρ, e1, (a3'.trans b3').trans e2⟩
theorem M_air_loop {G : Nat} (hG : G ≤ 12) {T : Nat → Int32} {pl : Nat → Nat} {P : Pn} (hb : bndS P 61) {se : Nat → Int32} {n : Nat} (hn : n ≤ 200) (w : Int32) : ∀ (k j : Nat) (b m : Int32) (σ : jm_S), j + k = 100 → DM σ G T pl → σ 61 21 = se 1 → σ 61 22 = -1 → σ 61 23 = -1 → (∀ g, g < G → (inB (σ 61 24) g ↔ (fun _ : Nat => true) g = true)) → pM σ P → ∃ ρ, jv 179 29 [some (.ref 61), some (.int (nI n)), some (.int w), some (.int b), some (.int m), some (.int (nI j))] [] σ = some (some (.int (if w = 0 then (upF (arV G T pl P se n) k j b m).1 else (upF (arV G T pl P se n) k j b m).2)), ρ) ∧ jFr mS mK' σ ρ := by
  intro k
  induction k with
  | zero =>
    intro j b m σ hj hD h21 h22 h23 hI hp
    rw [M_air_L29, if_pos (by rw [i100]; exact nI_le (by omega) (by omega))]
    refine ⟨σ, ?_, jFr.rf⟩
    by_cases c : w = 0
    · rw [if_neg (not_not_intro c), if_pos c]; rfl
    · rw [if_pos c, if_neg c]; rfl
  | succ k ih =>
    intro j b m σ hj hD h21 h22 h23 hI hp
    have k61 : ∀ i, i ≠ 20 → (jm_up σ 61 20 (nI j)) 61 i = σ 61 i := fun i hi => by rw [jup_s, jupd, if_neg hi]
    have k20 : (jm_up σ 61 20 (nI j)) 61 20 = nI j := by rw [jup_s, jupd, if_pos rfl]
    have kc : ∀ c, c ≠ 61 → (jm_up σ 61 20 (nI j)) c = σ c := fun c hc => by rw [jup_n _ _ _ hc]
    have hp2 : pM (jm_up σ 61 20 (nI j)) P := by rw [pM, k61 15 (by decide), kc 71 (by decide), kc 72 (by decide), kc 73 (by decide)]; exact hp
    obtain ⟨τ, a1, a2, a3, a4⟩ := M_goesOn hG (I := fun _ => true) (a := nI j) (s := se 1) (Z := panZ P) hn (jm_up σ 61 20 (nI j)) (by rw [DM, k61 5 (by decide), kc 66 (by decide), kc 67 (by decide)]; exact hD) (by rw [k61 24 (by decide)]; exact hI) k20 (by rw [k61 21 (by decide)]; exact h21) (mZ_pan hp2 hb (by rw [k61 22 (by decide)]; exact h22) (by rw [k61 23 (by decide)]; exact h23))
    have o : jc 169 [.ref 61] τ = some (some (.int (arV G T pl P se n j)), τ) := M_allLarge hG τ a2
    have n61 : τ 61 = (jm_up σ 61 20 (nI j)) 61 := a4 61 (by decide)
    have fr : jFr mS mK' σ τ := (jFr.rf.u61 (by decide)).trans (jFr.of a4 (by decide) (by decide))
    have nx : ∀ b' m', ∃ ρ, jv 179 29 [some (.ref 61), some (.int (nI n)), some (.int w), some (.int b'), some (.int m'), some (.int (nI (j + 1)))] [] τ = some (some (.int (if w = 0 then (upF (arV G T pl P se n) k (j + 1) b' m').1 else (upF (arV G T pl P se n) k (j + 1) b' m').2)), ρ) ∧ jFr mS mK' σ ρ := by
      intro b' m'
      obtain ⟨ρ, e1, e2⟩ := ih (j + 1) b' m' τ (by omega) (by rw [DM, n61, k61 5 (by decide), a4 66 (by decide), kc 66 (by decide), a4 67 (by decide), kc 67 (by decide)]; exact hD) (by rw [n61, k61 21 (by decide)]; exact h21) (by rw [n61, k61 22 (by decide)]; exact h22) (by rw [n61, k61 23 (by decide)]; exact h23) (by rw [n61, k61 24 (by decide)]; exact hI) (by rw [pM, n61, k61 15 (by decide), a4 71 (by decide), kc 71 (by decide), a4 72 (by decide), kc 72 (by decide), a4 73 (by decide), kc 73 (by decide)]; exact hp)
      exact ⟨ρ, e1, fr.trans e2⟩
    rw [M_air_L29, if_neg (by rw [i100]; exact nI_ge (by omega) (by omega)), a1, jbv_some, o, jbi_some, upF]
    by_cases c : arV G T pl P se n j ≤ m
    · rw [if_pos c, o, jbi_some, if_pos c, nI_1, if_pos c]
      exact nx b m
    · rw [if_neg c, o, jbi_some, if_neg c, o, jbi_some, nI_1, if_neg c]
      exact nx (nI j) (arV G T pl P se n j)
theorem A_air {σ : jm_S} (h : I_all σ) (x w : Int32) : jSame σ sS mK' I_all (jc 74 [.ref 0, .int x, .int w]) (jc 179 [.ref 61, .int x, .int w]) := by
  obtain ⟨G, pl, P, hG, hb, hgr, hhe, kc, km⟩ := K_of h
  by_cases c1 : x < 1 ∨ 200 < x
  · exact sim_bad h (by rw [P_air_in, P_isOutside, jbi_some, ifc _ c1, if_pos n10]) (by rw [M_air_in, M_isLong, jbi_some, ifc' _ c1, if_pos rfl])
  · by_cases c3 : w < 0 ∨ 1 < w
    · exact sim_bad h (by rw [P_air_in, P_isOutside, jbi_some, ifn _ c1, if_neg (not_not_intro rfl), P_isOutside, jbi_some, ifc _ c3, if_neg n10]) (by rw [M_air_in, M_isLong, jbi_some, ifn' _ c1, if_neg n10, M_isTwo, jbi_some, ifc' _ c3, if_neg (not_not_intro rfl)])
    · obtain ⟨n, n1, hn, rfl⟩ := jN1200 c1
      have pos : ¬ arV G (σ 67) pl P (σ 68) n 0 ≤ -1 := by
        obtain ⟨_, _, _, _, _, g6⟩ := hgr
        have bd : ∀ g, g < G → 0 ≤ ((AR G (σ 67) pl P (σ 68) n 0).lg g).toInt ∧ ((AR G (σ 67) pl P (σ 68) n 0).lg g).toInt ≤ 48318390 := fun g hg => lg_run (by rw [nI_0]; decide) (btw h.2.2.1.2.2) (btw (g6 g hg).2.1) (btw (g6 g hg).2.2.1) n
        have := (sumI_bd (v := fun g => if (fun _ : Nat => true) g = true then (AR G (σ 67) pl P (σ 68) n 0).lg g else 0) G hG (fun g hg => by
          show 0 ≤ (if true = true then (AR G (σ 67) pl P (σ 68) n 0).lg g else 0).toInt ∧ (if true = true then (AR G (σ 67) pl P (σ 68) n 0).lg g else 0).toInt ≤ 48318390
          rw [if_pos rfl]; exact bd g hg)).1
        intro q
        have q' := Int32.le_iff_toInt_le.mp q
        have e : (-1 : Int32).toInt = -1 := by decide
        rw [e] at q'
        have this : 0 ≤ (arV G (σ 67) pl P (σ 68) n 0).toInt := this
        omega
      have same : ∀ b, upF (arV G (σ 67) pl P (σ 68) n) 100 0 b (-1) = upF (arV G (σ 67) pl P (σ 68) n) 99 1 (nI 0) (arV G (σ 67) pl P (σ 68) n 0) := fun b => by
        rw [upF, if_neg pos]
      refine sim_call h (v := some (.int (if w = 0 then (upF (arV G (σ 67) pl P (σ 68) n) 99 1 (nI 0) (arV G (σ 67) pl P (σ 68) n 0)).1 else (upF (arV G (σ 67) pl P (σ 68) n) 99 1 (nI 0) (arV G (σ 67) pl P (σ 68) n 0)).2))) ?_ (fun τ hτ => ?_)
      · obtain ⟨ρ, a1, a2⟩ := P_air_loop hG hb hn w 100 0 (-1) (-1) none σ (by omega) kc
        rw [same, show some (Value.int (nI 0)) = some (Value.int 0) by rw [nI_0]] at a1
        refine ⟨ρ, ?_, a2⟩
        rw [P_air_in, P_isOutside, jbi_some, ifn _ c1, if_neg (not_not_intro rfl), P_isOutside, jbi_some, ifn _ c3, if_pos rfl, a1]
      · obtain ⟨τ1, a1, ⟨t1, t2, t3, t4, t5, t6⟩, a3⟩ := M_tries hG τ (KM_c km hτ)
        obtain ⟨ρ, b1, b2⟩ := M_air_loop hG hb hn w 100 0 0 (-1) τ1 (by omega) (KM_fr (KM_c km hτ) a3).1 t2 t3 t4 t5 t6
        rw [same, show some (Value.int (nI 0)) = some (Value.int 0) by rw [nI_0]] at b1
        refine ⟨ρ, ?_, a3.trans b2⟩
        rw [M_air_in, M_isLong, jbi_some, ifn' _ c1, if_neg n10, M_isTwo, jbi_some, ifn' _ c3, if_pos n10, a1, jbv_some, b1]
