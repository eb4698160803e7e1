/-! ===== the pan's text: the model's reading ===== -/
def pM (σ : jm_S) (P : Pn) : Prop := σ 61 15 = nI P.s ∧ ∀ j, j < 200 → σ 71 j = P.H j ∧ σ 72 j = P.S j ∧ σ 73 j = P.L j
theorem paS_ok {y : Nat → Int32} {n p : Nat} {P : Pn} (h : p ≤ n) (hn : n ≤ 60) (h1 : (paS y n p P).1 = -1) : p < (paS y n p P).2.1 ∧ (paS y n p P).2.1 ≤ n ∧ (paS y n p P).2.2.s ≤ P.s + 99 := by
  unfold paS at h1 ⊢
  by_cases c0 : p < n
  · simp only [if_pos c0] at h1 ⊢
    by_cases c1 : y p = 104
    · simp only [if_pos c1] at h1 ⊢
      have hin : (dgF y n 2 (p + 1) 0).2 ≤ n := dgF_in (by omega)
      have hge := (dgF_ge y n 2 (p + 1) 0).1
      by_cases c2 : nbad (p + 1) 0 99 (dgF y n 2 (p + 1) 0)
      · rw [if_pos c2] at h1; exact absurd h1 (nI_ne_m1 (by omega))
      · simp only [if_neg c2] at h1 ⊢
        by_cases c3 : (dgF y n 2 (p + 1) 0).2 < n ∧ y (dgF y n 2 (p + 1) 0).2 = 120
        · simp only [if_pos c3] at h1 ⊢
          have hin2 : (dgF y n 2 ((dgF y n 2 (p + 1) 0).2 + 1) 0).2 ≤ n := dgF_in (by omega)
          have hge2 := (dgF_ge y n 2 ((dgF y n 2 (p + 1) 0).2 + 1) 0).1
          by_cases c4 : nbad ((dgF y n 2 (p + 1) 0).2 + 1) 1 99 (dgF y n 2 ((dgF y n 2 (p + 1) 0).2 + 1) 0)
          · rw [if_pos c4] at h1; exact absurd h1 (nI_ne_m1 (by omega))
          · simp only [if_neg c4]
            obtain ⟨v, v1, v2, v3⟩ := num99 c4
            refine ⟨by omega, hin2, ?_⟩
            show P.s + _ ≤ _
            rw [v3]; omega
        · rw [if_neg c3] at h1; exact absurd h1 (nI_ne_m1 (by omega))
    · simp only [if_neg c1] at h1 ⊢
      by_cases c2 : y p = 115
      · simp only [if_pos c2]
        exact ⟨by omega, by omega, by show P.s ≤ _; omega⟩
      · simp only [if_neg c2] at h1 ⊢
        by_cases c3 : y p = 108
        · simp only [if_pos c3]
          exact ⟨by omega, by omega, by show P.s ≤ _; omega⟩
        · simp only [if_neg c3] at h1 ⊢
          by_cases c4 : y p = 111
          · simp only [if_pos c4]
            exact ⟨by omega, by omega, by show P.s ≤ _; omega⟩
          · rw [if_neg c4] at h1; exact absurd h1 (nI_ne_m1 (by omega))
  · rw [if_neg c0] at h1; exact absurd h1 (nI_ne_m1 (by omega))
theorem M_lidsFrom_loop {x : Int32} (hx : x = 0 ∨ x = 1) (x1 : Int32) : ∀ (k i : Nat) (σ : jm_S), 200 ≤ i + k → i < 2 ^ 30 → σ 61 16 = x → jv 145 2 [some (.ref 61), some (.int x1), some (.int (nI i))] [] σ = some (none, jm_row σ 73 (fun j => if i ≤ j ∧ j < 200 then x else σ 73 j)) := by
  intro k
  induction k with
  | zero =>
    intro i σ h h2 h3
    rw [M_lidsFrom_L2, nI200, if_pos (nI_le (by omega) (by omega))]
    congr 2
    funext b j
    by_cases hb : b = 73
    · subst hb; rw [jrow_s, if_neg (by omega)]
    · rw [jrow_n _ _ hb]
  | succ k ih =>
    intro i σ h h2 h3
    by_cases c : 200 ≤ i
    · exact ih i σ (by omega) h2 h3
    · rw [M_lidsFrom_L2, nI200, if_neg (nI_ge (by omega) (by omega)), nI_clamp (by omega), if_neg (by
        have := nI_pos (n := i) (by omega)
        rintro (q | q | q)
        · exact this q
        · omega
        · rw [h3] at q; exact q hx), nI_1, ih _ _ (by omega) (by omega) (by rw [jup_n _ _ _ (by decide), h3])]
      congr 2
      funext b j
      by_cases hb : b = 73
      · subst hb
        rw [jrow_s, jrow_s, jup_s, jupd, h3]
        by_cases h1 : j = i
        · subst h1; rw [if_neg (by omega), if_pos rfl, if_pos (by omega)]
        · by_cases h2 : i ≤ j ∧ j < 200
          · rw [if_pos (show i + 1 ≤ j ∧ j < 200 by omega), if_pos h2]
          · rw [if_neg (show ¬ (i + 1 ≤ j ∧ j < 200) by omega), if_neg h2, if_neg h1]
      · rw [jrow_n _ _ hb, jrow_n _ _ hb, jup_n _ _ _ hb]
theorem M_lidsFrom {x : Int32} (hx : x = 0 ∨ x = 1) {s : Nat} (hs : s < 2 ^ 30) (σ : jm_S) (h : σ 61 16 = x) : jc 145 [.ref 61, .int (nI s)] σ = some (none, jm_row σ 73 (fun j => if s ≤ j ∧ j < 200 then x else σ 73 j)) := by
  rw [M_lidsFrom_in, M_lidsFrom_loop hx _ 200 s σ (by omega) hs h]
theorem M_heat_loop {x1 x : Int32} {s v : Nat} (hsv : s + v < 2 ^ 30) : ∀ (k i : Nat) (σ : jm_S), s + v ≤ i + k → i ≤ s + v → σ 61 15 = nI s → jv 143 162 [some (.ref 61), some (.int x1), some (.int x), some (.int (nI v)), some (.int (nI i))] [] σ = some (some (.int 1), jm_up (jm_row σ 71 (fun j => if i ≤ j ∧ j < s + v ∧ j < 200 then x else σ 71 j)) 61 15 (nI (s + v))) := by
  intro k
  induction k with
  | zero =>
    intro i σ h h2 h3
    rw [M_readsPanPart_L162, h3, nI_add s v, if_pos (nI_le (by omega) (by omega))]
    congr 3
    funext b j
    by_cases hb : b = 71
    · subst hb; rw [jrow_s, if_neg (by omega)]
    · rw [jrow_n _ _ hb]
  | succ k ih =>
    intro i σ h h2 h3
    by_cases c : i < s + v
    · rw [M_readsPanPart_L162, h3, nI_add s v, if_neg (nI_ge c (by omega))]
      by_cases c2 : i < 200
      · rw [nI200, if_neg (nI_ge c2 (by omega)), nI_clamp (show i < 2 ^ 31 by omega), if_neg (by rw [jbad2 c2 (by decide)]; exact id), nI_1, ih _ _ (by omega) (by omega) (by rw [jup_n _ _ _ (by decide), h3])]
        congr 3
        funext b j
        by_cases hb : b = 71
        · subst hb
          rw [jrow_s, jrow_s, jup_s, jupd]
          by_cases h1 : j = i
          · subst h1; rw [if_neg (by omega), if_pos rfl, if_pos (by omega)]
          · by_cases h2 : i ≤ j ∧ j < s + v ∧ j < 200
            · rw [if_pos (show i + 1 ≤ j ∧ j < s + v ∧ j < 200 by omega), if_pos h2]
            · rw [if_neg (show ¬ (i + 1 ≤ j ∧ j < s + v ∧ j < 200) by omega), if_neg h2, if_neg h1]
        · rw [jrow_n _ _ hb, jrow_n _ _ hb, jup_n _ _ _ hb]
      · rw [nI200, if_pos (nI_le (by omega) (by omega))]
        congr 3
        funext b j
        by_cases hb : b = 71
        · subst hb; rw [jrow_s, if_neg (by omega)]
        · rw [jrow_n _ _ hb]
    · exact ih i σ (by omega) h2 h3
theorem M_clearsPan_loop : ∀ (k i : Nat) (σ : jm_S), i + k = 200 → (∀ j, j < i → σ 71 j = 0 ∧ σ 72 j = 0 ∧ σ 73 j = 0) → ∃ ρ, jv 142 2 [some (.ref 61), some (.int (nI i))] [] σ = some (none, ρ) ∧ jFr [71, 72, 73] [15, 16] σ ρ ∧ pM ρ Pn.cold := by
  intro k
  induction k with
  | zero =>
    intro i σ h h0
    rw [M_clearsPan_L2, nI200, if_pos (nI_le (by omega) (by omega))]
    refine ⟨_, rfl, (jFr.rf.u61 (by simp)).u61 (by simp), ?_, fun j hj => ?_⟩
    · rw [jup_s, jupd, if_neg (by decide), jup_s, jupd, if_pos rfl]; exact nI_0.symm
    · rw [jup_n _ _ _ (by decide), jup_n _ _ _ (by decide), jup_n _ _ _ (by decide), jup_n _ _ _ (by decide), jup_n _ _ _ (by decide), jup_n _ _ _ (by decide)]
      exact h0 j (by omega)
  | succ k ih =>
    intro i σ h h0
    obtain ⟨ρ, g1, g2, g3⟩ := ih (i + 1) (jm_up (jm_up (jm_up σ 71 i 0) 72 i 0) 73 i 0) (by omega) (by
      intro j hj
      rw [jup_n _ _ _ (by decide), jup_n _ _ _ (by decide), jup_s, jupd, jup_n _ _ _ (by decide), jup_s, jupd, jup_n _ _ _ (by decide), jup_s, jupd, jup_n _ _ _ (by decide), jup_n _ _ _ (by decide)]
      by_cases c : j = i
      · rw [if_pos c, if_pos c, if_pos c]; exact ⟨rfl, rfl, rfl⟩
      · rw [if_neg c, if_neg c, if_neg c]; exact h0 j (by omega))
    refine ⟨ρ, ?_, jFr.trans (((jFr.rf.up (by simp) (by decide)).up (by simp) (by decide)).up (by simp) (by decide)) g2, g3⟩
    rw [M_clearsPan_L2, nI200, if_neg (nI_ge (by omega) (by omega)), nI_clamp (show i < 2 ^ 31 by omega), if_neg (by rw [jbad2 (show i < 200 by omega) (by decide)]; exact id), if_neg (by rw [jbad2 (show i < 200 by omega) (by decide)]; exact id), if_neg (by
        have := nI_pos (n := i) (by omega)
        rintro (q | q | q)
        · exact this q
        · omega
        · exact q (Or.inl rfl)), nI_1, g1]
theorem M_clearsPan (σ : jm_S) : ∃ ρ, jc 142 [.ref 61] σ = some (none, ρ) ∧ jFr [71, 72, 73] [15, 16] σ ρ ∧ pM ρ Pn.cold := by
  rw [M_clearsPan_in, ← nI_0]
  exact M_clearsPan_loop 200 0 σ (by omega) (fun j hj => by omega)
theorem M_readsPanPart {n p : Nat} {y : Nat → Int32} {P : Pn} (hn : n ≤ 60) (σ : jm_S) (h70 : σ 70 0 = nI n) (hy : ∀ j, j < n → σ 69 (60 * 0 + j) = y j) (hp : σ 61 11 = nI p) (hpn : p ≤ n) (hP : pM σ P) (hs : P.s < 2 ^ 29) : ∀ r, paS y n p P = r → ∃ ρ, jc 143 [.ref 61] σ = some (some (.int (if r.1 = -1 then 1 else 0)), ρ) ∧ jFr [71, 72, 73] [11, 15, 16] σ ρ ∧ (r.1 = -1 → ρ 61 11 = nI r.2.1 ∧ pM ρ r.2.2) ∧ (¬ r.1 = -1 → ρ 61 11 = r.1) := by
  intro r hr
  rw [paS] at hr
  have hh := M_here (t := 0) (n := n) (p := p) (y := y) (by omega) hn σ h70 hy hp hpn
  rw [nI_0] at hh
  have fig : ∀ (q : Nat) (lo : Int32), q ≤ n → jc 146 [.ref 61, .int 0, .int 2, .int lo, .int 99] (jm_up σ 61 11 (nI q)) = if nbad q lo 99 (dgF y n 2 q 0) then some (some (.int (-1)), jm_up σ 61 11 (nI q)) else some (some (.int (dgF y n 2 q 0).1), jm_up σ 61 11 (nI (dgF y n 2 q 0).2)) := by
    intro q lo hq
    have := M_figures (t := 0) (n := n) (s := q) (K := 2) (y := y) (by omega) hn (by omega) lo 99 (jm_up σ 61 11 (nI q)) hq (by rw [jup_n _ _ _ (by decide)]; exact h70) (fun i hi => by rw [jup_n _ _ _ (by decide)]; exact hy i hi) (by rw [jup_s, jupd, if_pos rfl])
    rw [show nI 2 = 2 by decide +kernel, nI_0, jup_up, jup_up] at this
    exact this
  have her : ∀ q, q ≤ n → jc 144 [.ref 61, .int 0] (jm_up σ 61 11 (nI q)) = some (some (.int (if q < n then y q else -1)), jm_up σ 61 11 (nI q)) := by
    intro q hq
    have := M_here (t := 0) (n := n) (p := q) (y := y) (by omega) hn (jm_up σ 61 11 (nI q)) (by rw [jup_n _ _ _ (by decide)]; exact h70) (fun i hi => by rw [jup_n _ _ _ (by decide)]; exact hy i hi) (by rw [jup_s, jupd, if_pos rfl]) hq
    rw [nI_0] at this
    exact this
  have fin : ∀ (q : Nat), q ≤ 60 → jc 143 [.ref 61] σ = some (some (.int 0), jm_up σ 61 11 (nI q)) → ∃ ρ, jc 143 [.ref 61] σ = some (some (.int (if nI q = -1 then 1 else 0)), ρ) ∧ jFr [71, 72, 73] [11, 15, 16] σ ρ ∧ (nI q = -1 → ρ 61 11 = nI p ∧ pM ρ P) ∧ (¬ nI q = -1 → ρ 61 11 = nI q) := by
    intro q hq e
    refine ⟨jm_up σ 61 11 (nI q), by rw [if_neg (nI_ne_m1 (by omega))]; exact e, jFr.rf.u61 (by simp), fun q => absurd q (nI_ne_m1 (by omega)), fun _ => ?_⟩
    rw [jup_s, jupd, if_pos rfl]
  by_cases c0 : p < n
  · rw [if_pos c0] at hr hh
    by_cases c1 : y p = 104
    · rw [if_pos c1] at hr
      have hin : (dgF y n 2 (p + 1) 0).2 ≤ n := dgF_in (by omega)
      have run : jc 143 [.ref 61] σ = jbi (jc 146 [(.ref 61), (.int (0 : Int32)), (.int (2 : Int32)), (.int (0 : Int32)), (.int (99 : Int32))] (jm_up σ 61 11 (nI (p + 1)))) (fun r2 τ2 => (if r2 < 0 then some (some (.int (0 : Int32)), τ2) else jbi (jc 144 [(.ref 61), (.int (0 : Int32))] τ2) (fun r3 τ3 => (if r3 = (120 : Int32) then jbi (jc 146 [(.ref 61), (.int (0 : Int32)), (.int (2 : Int32)), (.int (1 : Int32)), (.int (99 : Int32))] (jm_up τ3 61 11 ((τ3 61 11) + (1 : Int32)))) (fun r4 τ4 => (if 0 ≤ r4 then jv 143 162 [some (.ref 61), some (.int (y p)), some (.int r2), some (.int r4), some (.int (τ4 61 15))] [] τ4 else some (some (.int (0 : Int32)), τ4))) else some (some (.int (0 : Int32)), τ3))))) := by
        rw [M_readsPanPart_in, hh, jbi_some, if_pos c1, if_pos (by rw [c1]; decide), if_pos c1, hp, nI_1]
      rw [fig (p + 1) 0 (by omega)] at run
      by_cases c2 : nbad (p + 1) 0 99 (dgF y n 2 (p + 1) 0)
      · rw [if_pos c2] at hr run
        subst hr
        refine fin _ (by omega) ?_
        rw [run, jbi_some, if_pos (by decide)]
      · rw [if_neg c2] at hr run
        rw [jbi_some, if_neg (by rw [not_or, not_or] at c2; exact c2.2.1), her _ hin, jbi_some] at run
        generalize hq : dgF y n 2 (p + 1) 0 = q at hr run hin c2
        by_cases c3 : q.2 < n ∧ y q.2 = 120
        · rw [if_pos c3] at hr
          rw [if_pos c3.1, if_pos c3.2, jup_up, show (jm_up σ 61 11 (nI q.2)) 61 11 + 1 = nI (q.2 + 1) by rw [jup_s, jupd, if_pos rfl, nI_1], fig (q.2 + 1) 1 (by omega)] at run
          have hin2 : (dgF y n 2 (q.2 + 1) 0).2 ≤ n := dgF_in (by omega)
          by_cases c4 : nbad (q.2 + 1) 1 99 (dgF y n 2 (q.2 + 1) 0)
          · rw [if_pos c4] at hr run
            subst hr
            refine fin _ (by omega) ?_
            rw [run, jbi_some, if_neg (by decide)]
          · rw [if_neg c4] at hr run
            obtain ⟨v, v1, v2, v3⟩ := num99 c4
            have e15 : ∀ z, (jm_up σ 61 11 z) 61 15 = nI P.s := fun z => by rw [jup_s, jupd, if_neg (by decide), hP.1]
            subst hr
            rw [jbi_some, if_pos (dgF_v c4), v2, e15, M_heat_loop (by omega) v P.s _ (by omega) (by omega) (e15 _)] at run
            refine ⟨_, run, ((jFr.rf.u61 (by simp)).row (by simp) (by decide)).u61 (by simp), fun _ => ⟨?_, ?_, fun j hj => ⟨?_, ?_, ?_⟩⟩, fun q => absurd rfl q⟩
            · rw [jup_s, jupd, if_neg (by decide), jrow_n _ _ (by decide), jup_s, jupd, if_pos rfl]
            · rw [jup_s, jupd, if_pos rfl]; show _ = nI (P.s + (dgF y n 2 (q.2 + 1) 0).1.toNatClampNeg); rw [v3]
            · rw [jup_n _ _ _ (by decide), jrow_s, jup_n _ _ _ (by decide), (hP.2 j hj).1]
              show _ = if P.s ≤ j ∧ j < P.s + (dgF y n 2 (q.2 + 1) 0).1.toNatClampNeg ∧ j < 200 then q.1 else P.H j
              rw [v3]
            · rw [jup_n _ _ _ (by decide), jrow_n _ _ (by decide), jup_n _ _ _ (by decide), (hP.2 j hj).2.1]; rfl
            · rw [jup_n _ _ _ (by decide), jrow_n _ _ (by decide), jup_n _ _ _ (by decide), (hP.2 j hj).2.2]; rfl
        · rw [if_neg c3] at hr
          subst hr
          refine fin _ (by omega) ?_
          rw [run]
          by_cases c5 : q.2 < n
          · rw [if_pos c5, if_neg (fun e => c3 ⟨c5, e⟩)]
          · rw [if_neg c5, if_neg (by decide)]
    · rw [if_neg c1] at hr
      by_cases c2 : y p = 115
      · rw [if_pos c2] at hr
        subst hr
        have run : jc 143 [.ref 61] σ = (if (200 : Int32) ≤ (σ 61 15) then some (some (.int (1 : Int32)), (jm_up σ 61 11 (nI (p + 1)))) else (if (σ 61 15) < 0 ∨ 200 ≤ (σ 61 15).toNatClampNeg then none else (if (σ 61 15) < 0 ∨ 200 ≤ (σ 61 15).toNatClampNeg then none else some (some (.int (1 : Int32)), (jm_up (jm_up σ 61 11 (nI (p + 1))) 72 (σ 61 15).toNatClampNeg ((σ 72 (σ 61 15).toNatClampNeg) + (1 : Int32))))))) := by
          rw [M_readsPanPart_in, hh, jbi_some, if_neg c1, if_pos c2, if_neg (by rw [c2]; decide), hp, nI_1]
        rw [hP.1, nI_clamp (show P.s < 2 ^ 31 by omega)] at run
        by_cases c3 : P.s < 200
        · rw [nI200, if_neg (nI_ge c3 (by omega)), if_neg (by rw [jbad2 c3 (by decide)]; exact id), if_neg (by rw [jbad2 c3 (by decide)]; exact id)] at run
          refine ⟨_, run, (jFr.rf.u61 (by simp)).up (by simp) (by decide), fun _ => ⟨?_, ?_, fun j hj => ⟨?_, ?_, ?_⟩⟩, fun q => absurd rfl q⟩
          · rw [jup_n _ _ _ (by decide), jup_s, jupd, if_pos rfl]
          · rw [jup_n _ _ _ (by decide), jup_s, jupd, if_neg (by decide), hP.1]; rfl
          · rw [jup_n _ _ _ (by decide), jup_n _ _ _ (by decide), (hP.2 j hj).1]; rfl
          · rw [jup_s, jupd, jup_n _ _ _ (by decide)]
            show _ = if j = P.s then P.S j + 1 else P.S j
            by_cases h : j = P.s
            · rw [if_pos h, if_pos h, ← h, (hP.2 j hj).2.1]
            · rw [if_neg h, if_neg h, (hP.2 j hj).2.1]
          · rw [jup_n _ _ _ (by decide), jup_n _ _ _ (by decide), (hP.2 j hj).2.2]; rfl
        · rw [nI200, if_pos (nI_le (by omega) (by omega))] at run
          refine ⟨_, run, jFr.rf.u61 (by simp), fun _ => ⟨?_, ?_, fun j hj => ⟨?_, ?_, ?_⟩⟩, fun q => absurd rfl q⟩
          · rw [jup_s, jupd, if_pos rfl]
          · rw [jup_s, jupd, if_neg (by decide), hP.1]; rfl
          · rw [jup_n _ _ _ (by decide), (hP.2 j hj).1]; rfl
          · rw [jup_n _ _ _ (by decide)]
            show _ = if j = P.s then P.S j + 1 else P.S j
            rw [if_neg (by omega), (hP.2 j hj).2.1]
          · rw [jup_n _ _ _ (by decide), (hP.2 j hj).2.2]; rfl
      · rw [if_neg c2] at hr
        have lidc : ∀ x : Int32, (x = 0 ∨ x = 1) → jc 143 [.ref 61] σ = jbv (jc 145 [(.ref 61), (.int (σ 61 15))] (jm_up (jm_up σ 61 11 (nI (p + 1))) 61 16 x)) (fun τ6 => some (some (.int (1 : Int32)), τ6)) → ∃ ρ, jc 143 [.ref 61] σ = some (some (.int (if (-1 : Int32) = -1 then 1 else 0)), ρ) ∧ jFr [71, 72, 73] [11, 15, 16] σ ρ ∧ ((-1 : Int32) = -1 → ρ 61 11 = nI (p + 1) ∧ pM ρ (P.lid x)) ∧ (¬ (-1 : Int32) = -1 → ρ 61 11 = -1) := by
          intro x hx run
          rw [hP.1, M_lidsFrom hx (s := P.s) (by omega) _ (by rw [jup_s, jupd, if_pos rfl]), jbv_some] at run
          refine ⟨_, run, ((jFr.rf.u61 (by simp)).u61 (by simp)).row (by simp) (by decide), fun _ => ⟨?_, ?_, fun j hj => ⟨?_, ?_, ?_⟩⟩, fun q => absurd rfl q⟩
          · rw [jrow_n _ _ (by decide), jup_s, jupd, if_neg (by decide), jup_s, jupd, if_pos rfl]
          · rw [jrow_n _ _ (by decide), jup_s, jupd, if_neg (by decide), jup_s, jupd, if_neg (by decide), hP.1]; rfl
          · rw [jrow_n _ _ (by decide), jup_n _ _ _ (by decide), jup_n _ _ _ (by decide), (hP.2 j hj).1]; rfl
          · rw [jrow_n _ _ (by decide), jup_n _ _ _ (by decide), jup_n _ _ _ (by decide), (hP.2 j hj).2.1]; rfl
          · rw [jrow_s, jup_n _ _ _ (by decide), jup_n _ _ _ (by decide), (hP.2 j hj).2.2]; rfl
        by_cases c3 : y p = 108
        · rw [if_pos c3] at hr
          subst hr
          exact lidc 1 (Or.inr rfl) (by rw [M_readsPanPart_in, hh, jbi_some, if_neg c1, if_neg c2, if_pos c3, if_pos (by rw [c3]; decide), if_neg c1, if_neg (by rw [c3]; decide), hp, nI_1])
        · rw [if_neg c3] at hr
          by_cases c4 : y p = 111
          · rw [if_pos c4] at hr
            subst hr
            exact lidc 0 (Or.inl rfl) (by rw [M_readsPanPart_in, hh, jbi_some, if_neg c1, if_neg c2, if_neg c3, if_pos c4, if_pos (by rw [c4]; decide), if_neg c1, if_pos (by rw [c4]; decide), hp, nI_1])
          · rw [if_neg c4] at hr
            subst hr
            refine fin p (by omega) ?_
            rw [M_readsPanPart_in, hh, jbi_some, if_neg c1, if_neg c2, if_neg c3, if_neg c4, jup_id hp]
  · rw [if_neg c0] at hr hh
    subst hr
    refine fin p (by omega) ?_
    rw [M_readsPanPart_in, hh, jbi_some, if_neg (by decide), if_neg (by decide), if_neg (by decide), if_neg (by decide), jup_id hp]
/-! the whole text -/
def paF (y : Nat → Int32) (n : Nat) : Nat → Nat → Pn → Int32 × Pn
  | 0, p, P => (nI p, P)
  | k + 1, p, P => if (paS y n p P).1 = -1 then
      (if (paS y n p P).2.1 < n then (if y (paS y n p P).2.1 = 59 then paF y n k ((paS y n p P).2.1 + 1) (paS y n p P).2.2 else (nI (paS y n p P).2.1, Pn.cold)) else (-1, (paS y n p P).2.2))
    else ((paS y n p P).1, Pn.cold)
def paA (y : Nat → Int32) (n : Nat) : Int32 × Pn := if n = 0 then (-1, Pn.cold) else paF y n (n + 1) 0 Pn.cold
theorem Heating_follow_loop {n : Nat} {y : Nat → Int32} (hn : n ≤ 60) : ∀ (k p j : Nat) (P : Pn) (σ : jm_S), n < p + k → j ≤ p → p ≤ n → tx σ 42 43 n y → σ 42 2 = nI p → σ 42 3 = -1 → pP σ P → P.s ≤ 100 * p → ∃ ρ, jv 19 23 [some (.ref 6), some (.ref 42), some (.int 1), some (.int (nI j))] [] σ = some (none, ρ) ∧ (∀ c, c ≠ 6 → c ≠ 7 → c ≠ 8 → c ≠ 9 → c ≠ 42 → ρ c = σ c) ∧ ρ 42 1 = σ 42 1 ∧ ρ 42 3 = (paF y n k p P).1 ∧ pP ρ (paF y n k p P).2 := by
  intro k
  induction k with
  | zero => intro p j P σ h1 h2 h3; omega
  | succ k ih =>
    intro p j P σ hk hj hpn ht hp h3 hP hs
    obtain ⟨τ, e1, e2, e3, e4, e5⟩ := Heating_addPart hn σ ht hp hpn h3 hP (by omega) _ rfl
    have hj60 : ¬ (60 : Int32) < nI j := by
      rw [show (60 : Int32) = nI 60 by decide +kernel, nI_ltI (by decide) (by omega)]; omega
    have tt : tx τ 42 43 n y := ⟨e3.trans ht.1, fun j hj => by rw [e2 43 (by decide) (by decide) (by decide) (by decide) (by decide)]; exact ht.2 j hj⟩
    have run : jv 19 23 [some (.ref 6), some (.ref 42), some (.int 1), some (.int (nI j))] [] σ = jbi (jc 30 [(.ref 42), (.int (59 : Int32))] τ) (fun r2 τ2 => jv 19 23 [some (.ref 6), some (.ref 42), some (.int r2), some (.int (nI (j + 1)))] [] τ2) := by
      rw [Heating_follow_42_L23, if_neg (by decide), if_neg hj60, e1, jbv_some, nI_1]
    have stop : ∀ τ', τ' 42 3 = -1 → jv 19 23 [some (.ref 6), some (.ref 42), some (.int 0), some (.int (nI (j + 1)))] [] τ' = some (none, τ') := by
      intro τ' q
      rw [Heating_follow_42_L23, if_pos rfl, if_pos q]
    have stopF : ∀ τ', ¬ τ' 42 3 = -1 → ∃ ρ, jv 19 23 [some (.ref 6), some (.ref 42), some (.int 0), some (.int (nI (j + 1)))] [] τ' = some (none, ρ) ∧ (∀ c, c ≠ 6 → c ≠ 7 → c ≠ 8 → c ≠ 9 → ρ c = τ' c) ∧ pP ρ Pn.cold := by
      intro τ' q
      obtain ⟨ρ, g1, g2, g3⟩ := Heating_coolDown τ'
      refine ⟨ρ, ?_, g2, g3⟩
      rw [Heating_follow_42_L23, if_pos rfl, if_neg q, g1, jbv_some]
    rw [paF]
    by_cases c : (paS y n p P).1 = -1
    · rw [if_pos c]
      obtain ⟨f1, f2⟩ := e5 c
      rw [c] at e4
      obtain ⟨k1, k2, k3⟩ := paS_ok hpn hn c
      generalize paS y n p P = r at f1 f2 k1 k2 k3 c ⊢
      have gg := Text_goes_42 59 τ tt hn f1 k2 e4
      by_cases c2 : r.2.1 < n
      · rw [if_pos c2] at gg ⊢
        by_cases c3 : y r.2.1 = 59
        · rw [if_pos c3] at gg ⊢
          obtain ⟨ρ, g1, g2, g3, g4, g5⟩ := ih (r.2.1 + 1) (j + 1) r.2.2 (jm_up τ 42 2 (nI (r.2.1 + 1))) (by omega) (by omega) (by omega) ⟨by rw [jup_s, jupd, if_neg (by decide)]; exact tt.1, fun j hj => by rw [jup_n _ _ _ (by decide)]; exact tt.2 j hj⟩ (by rw [jup_s, jupd, if_pos rfl]) (by rw [jup_s, jupd, if_neg (by decide)]; exact e4) ⟨by rw [jup_n _ _ _ (by decide)]; exact f2.1, fun j hj => by rw [jup_n _ _ _ (by decide), jup_n _ _ _ (by decide), jup_n _ _ _ (by decide)]; exact f2.2 j hj⟩ (by omega)
          refine ⟨ρ, ?_, fun c h1 h2 h3 h4 h5 => ?_, ?_, g4, g5⟩
          · rw [run, gg, jbi_some, g1]
          · rw [g2 c h1 h2 h3 h4 h5, jup_n _ _ _ h5, e2 c h1 h2 h3 h4 h5]
          · rw [g3, jup_s, jupd, if_neg (by decide), e3]
        · rw [if_neg c3] at gg ⊢
          obtain ⟨ρ, g1, g2, g3⟩ := stopF (jm_up τ 42 3 (nI r.2.1)) (by rw [jup_s, jupd, if_pos rfl]; exact nI_ne_m1 (by omega))
          refine ⟨ρ, ?_, fun c h1 h2 h3 h4 h5 => ?_, ?_, ?_, g3⟩
          · rw [run, gg, jbi_some, g1]
          · rw [g2 c h1 h2 h3 h4, jup_n _ _ _ h5, e2 c h1 h2 h3 h4 h5]
          · rw [g2 42 (by decide) (by decide) (by decide) (by decide), jup_s, jupd, if_neg (by decide), e3]
          · rw [g2 42 (by decide) (by decide) (by decide) (by decide), jup_s, jupd, if_pos rfl]
      · rw [if_neg c2] at gg ⊢
        exact ⟨τ, by rw [run, gg, jbi_some, stop τ e4], e2, e3, e4, f2⟩
    · rw [if_neg c]
      have c' : ¬ τ 42 3 = -1 := by rw [e4]; exact c
      obtain ⟨ρ, g1, g2, g3⟩ := stopF τ c'
      refine ⟨ρ, ?_, fun c h1 h2 h3 h4 h5 => ?_, ?_, ?_, g3⟩
      · rw [run, Text_goesF_42 _ τ c', jbi_some, g1]
      · rw [g2 c h1 h2 h3 h4, e2 c h1 h2 h3 h4 h5]
      · rw [g2 42 (by decide) (by decide) (by decide) (by decide), e3]
      · rw [g2 42 (by decide) (by decide) (by decide) (by decide), e4]
theorem Heating_follow {n : Nat} {y : Nat → Int32} (hn : n ≤ 60) (σ : jm_S) (ht : tx σ 42 43 n y) : ∃ ρ, jc 19 [.ref 6, .ref 42] σ = some (none, ρ) ∧ (∀ c, c ≠ 6 → c ≠ 7 → c ≠ 8 → c ≠ 9 → c ≠ 42 → ρ c = σ c) ∧ ρ 42 1 = σ 42 1 ∧ ρ 42 3 = (paA y n).1 ∧ pP ρ (paA y n).2 := by
  obtain ⟨τ, e1, e2, e3⟩ := Heating_coolDown σ
  have e42 := e2 42 (by decide) (by decide) (by decide) (by decide)
  have r0 : jc 19 [.ref 6, .ref 42] σ = (if nI n ≤ 0 then jv 19 23 [some (.ref 6), some (.ref 42), some (.int (0 : Int32)), some (.int (0 : Int32))] [] (jm_up (jm_up τ 42 2 0) 42 3 (-1)) else jv 19 23 [some (.ref 6), some (.ref 42), some (.int (1 : Int32)), some (.int (0 : Int32))] [] (jm_up (jm_up τ 42 2 0) 42 3 (-1))) := by
    rw [Heating_follow_42_in, e1, jbv_some, Text_rewind_42_in, jbv_some]
    congr 1
    rw [jup_s, jupd, if_neg (by decide), jup_s, jupd, if_neg (by decide), e42, ht.1]
  have w3 : (jm_up (jm_up τ 42 2 0) 42 3 (-1)) 42 3 = -1 := by rw [jup_s, jupd, if_pos rfl]
  have w1 : (jm_up (jm_up τ 42 2 0) 42 3 (-1)) 42 1 = σ 42 1 := by rw [jup_s, jupd, if_neg (by decide), jup_s, jupd, if_neg (by decide), e42]
  have wf : ∀ c, c ≠ 6 → c ≠ 7 → c ≠ 8 → c ≠ 9 → c ≠ 42 → (jm_up (jm_up τ 42 2 0) 42 3 (-1)) c = σ c := fun c h1 h2 h3 h4 h5 => by rw [jup_n _ _ _ h5, jup_n _ _ _ h5, e2 c h1 h2 h3 h4]
  have wP : pP (jm_up (jm_up τ 42 2 0) 42 3 (-1)) Pn.cold := by
    refine ⟨?_, fun j hj => ?_⟩
    · rw [jup_n _ _ _ (by decide), jup_n _ _ _ (by decide)]; exact e3.1
    · rw [jup_n _ _ _ (by decide), jup_n _ _ _ (by decide), jup_n _ _ _ (by decide), jup_n _ _ _ (by decide), jup_n _ _ _ (by decide), jup_n _ _ _ (by decide)]; exact e3.2 j hj
  rw [paA]
  by_cases c : n = 0
  · rw [if_pos c]
    refine ⟨_, r0.trans ((if_pos (by rw [c]; decide +kernel)).trans (by rw [Heating_follow_42_L23, if_pos rfl, if_pos w3])), wf, w1, w3, wP⟩
  · rw [if_neg c]
    obtain ⟨ρ, g1, g2, g3, g4, g5⟩ := Heating_follow_loop (y := y) hn (n + 1) 0 0 Pn.cold (jm_up (jm_up τ 42 2 0) 42 3 (-1)) (by omega) (by omega) (by omega) ⟨by rw [w1]; exact ht.1, fun j hj => by rw [wf 43 (by decide) (by decide) (by decide) (by decide) (by decide)]; exact ht.2 j hj⟩ (by rw [jup_s, jupd, if_neg (by decide), jup_s, jupd, if_pos rfl, nI_0]) w3 wP (by show 0 ≤ _; omega)
    rw [nI_0] at g1
    exact ⟨ρ, r0.trans ((if_neg (nI_nle (by omega) (by omega))).trans g1), fun c h1 h2 h3 h4 h5 => (g2 c h1 h2 h3 h4 h5).trans (wf c h1 h2 h3 h4 h5), g3.trans w1, g4, g5⟩
theorem M_readsPan_loop {n : Nat} {y : Nat → Int32} (hn : n ≤ 60) : ∀ (k p : Nat) (P : Pn) (σ : jm_S), n < p + k → p ≤ n → σ 70 0 = nI n → (∀ j, j < n → σ 69 (60 * 0 + j) = y j) → σ 61 11 = nI p → pM σ P → P.s ≤ 100 * p → ∃ ρ, jv 141 24 [some (.ref 61), some (.int 1)] [] σ = some (some (.int (paF y n k p P).1), ρ) ∧ jFr [71, 72, 73] [11, 15, 16] σ ρ ∧ pM ρ (paF y n k p P).2 := by
  intro k
  induction k with
  | zero => intro p P σ h1 h2 h3; omega
  | succ k ih =>
    intro p P σ hk hpn h70 hy hp hP hs
    obtain ⟨τ, e1, e2, e3, e4⟩ := M_readsPanPart hn σ h70 hy hp hpn hP (by omega) _ rfl
    have t70 : τ 70 = σ 70 := e2.1 70 (by decide) (by decide)
    have t69 : τ 69 = σ 69 := e2.1 69 (by decide) (by decide)
    have cl : ∀ τ', ∃ ρ, jbv (jc 142 [(.ref 61)] τ') (fun τ3 => some (some (.int (τ3 61 11)), τ3)) = some (some (.int (τ' 61 11)), ρ) ∧ jFr [71, 72, 73] [11, 15, 16] τ' ρ ∧ pM ρ Pn.cold := by
      intro τ'
      obtain ⟨ρ, g1, g2, g3⟩ := M_clearsPan τ'
      refine ⟨ρ, ?_, g2.weak (by simp) (by simp), g3⟩
      rw [g1, jbv_some, g2.2 11 (by decide)]
    rw [paF]
    by_cases c : (paS y n p P).1 = -1
    · rw [if_pos c]
      rw [if_pos c] at e1
      obtain ⟨f1, f2⟩ := e3 c
      obtain ⟨k1, k2, k3⟩ := paS_ok hpn hn c
      generalize paS y n p P = r at f1 f2 k1 k2 k3 c ⊢
      have run : jv 141 24 [some (.ref 61), some (.int 1)] [] σ = (if nI n ≤ nI r.2.1 then jv 141 24 [some (.ref 61), some (.int (0 : Int32))] [] (jm_up τ 61 11 (nI r.2.1 + (0 : Int32))) else jbi (jc 144 [(.ref 61), (.int (0 : Int32))] τ) (fun r2 τ2 => (if r2 = (59 : Int32) then jv 141 24 [some (.ref 61), some (.int (1 : Int32))] [] (jm_up τ2 61 11 ((τ2 61 11) + (1 : Int32))) else jbv (jc 142 [(.ref 61)] τ2) (fun τ3 => some (some (.int (τ3 61 11)), τ3))))) := by
        rw [M_readsPan_L24, if_neg (by decide), e1, jbi_some, if_pos (by decide), f1, t70, h70]
      by_cases c2 : r.2.1 < n
      · have hr := M_here (t := 0) (n := n) (p := r.2.1) (y := y) (by omega) hn τ (by rw [t70]; exact h70) (fun i hi => by rw [t69]; exact hy i hi) f1 (by omega)
        rw [nI_0] at hr
        rw [if_pos c2]
        rw [if_neg (nI_ge c2 (by omega)), hr, jbi_some, if_pos c2] at run
        by_cases c3 : y r.2.1 = 59
        · rw [if_pos c3]
          rw [if_pos c3, f1, nI_1] at run
          obtain ⟨ρ, g1, g2, g3⟩ := ih (r.2.1 + 1) r.2.2 (jm_up τ 61 11 (nI (r.2.1 + 1))) (by omega) (by omega) (by rw [jup_n _ _ _ (by decide), t70]; exact h70) (fun i hi => by rw [jup_n _ _ _ (by decide), t69]; exact hy i hi) (by rw [jup_s, jupd, if_pos rfl]) ⟨by rw [jup_s, jupd, if_neg (by decide)]; exact f2.1, fun j hj => by rw [jup_n _ _ _ (by decide), jup_n _ _ _ (by decide), jup_n _ _ _ (by decide)]; exact f2.2 j hj⟩ (by omega)
          exact ⟨ρ, by rw [run, g1], jFr.trans (e2.u61 (by simp)) g2, g3⟩
        · rw [if_neg c3]
          rw [if_neg c3] at run
          obtain ⟨ρ, g1, g2, g3⟩ := cl τ
          exact ⟨ρ, by rw [run, g1, f1], jFr.trans e2 g2, g3⟩
      · rw [if_neg c2]
        rw [if_pos (nI_le (by omega) (by omega)), M_readsPan_L24 0, if_pos rfl] at run
        refine ⟨_, run, e2.u61 (by simp), ?_, fun j hj => ?_⟩
        · rw [jup_s, jupd, if_neg (by decide)]; exact f2.1
        · rw [jup_n _ _ _ (by decide), jup_n _ _ _ (by decide), jup_n _ _ _ (by decide)]; exact f2.2 j hj
    · rw [if_neg c]
      rw [if_neg c] at e1
      obtain ⟨ρ, g1, g2, g3⟩ := cl τ
      refine ⟨ρ, ?_, jFr.trans e2 g2, g3⟩
      rw [M_readsPan_L24, if_neg (by decide), e1, jbi_some, if_neg (by decide), g1, e4 c]
theorem M_readsPan {n : Nat} {y : Nat → Int32} (hn : n ≤ 60) (σ : jm_S) (h70 : σ 70 0 = nI n) (hy : ∀ j, j < n → σ 69 (60 * 0 + j) = y j) : ∃ ρ, jc 141 [.ref 61] σ = some (some (.int (paA y n).1), ρ) ∧ jFr [71, 72, 73] [11, 15, 16] σ ρ ∧ pM ρ (paA y n).2 := by
  obtain ⟨τ, e1, e2, e3⟩ := M_clearsPan σ
  have t70 : τ 70 = σ 70 := e2.1 70 (by decide) (by decide)
  have t69 : τ 69 = σ 69 := e2.1 69 (by decide) (by decide)
  have e2' : jFr [71, 72, 73] [11, 15, 16] σ τ := e2.weak (by simp) (by simp)
  have wP : pM (jm_up τ 61 11 0) Pn.cold := by
    refine ⟨?_, fun j hj => ?_⟩
    · rw [jup_s, jupd, if_neg (by decide)]; exact e3.1
    · rw [jup_n _ _ _ (by decide), jup_n _ _ _ (by decide), jup_n _ _ _ (by decide)]; exact e3.2 j hj
  rw [M_readsPan_in, e1, jbv_some, t70, h70, paA]
  by_cases c : n = 0
  · rw [if_pos c, if_pos (by rw [c]; decide +kernel), M_readsPan_L24, if_pos rfl]
    exact ⟨_, rfl, e2'.u61 (by simp), wP⟩
  · rw [if_neg c, if_neg (nI_nle (by omega) (by omega))]
    obtain ⟨ρ, g1, g2, g3⟩ := M_readsPan_loop (y := y) hn (n + 1) 0 Pn.cold (jm_up τ 61 11 0) (by omega) (by omega) (by rw [jup_n _ _ _ (by decide), t70]; exact h70) (fun i hi => by rw [jup_n _ _ _ (by decide), t69]; exact hy i hi) (by rw [jup_s, jupd, if_pos rfl, nI_0]) wP (by show 0 ≤ _; omega)
    exact ⟨ρ, g1, jFr.trans (e2'.u61 (by simp)) g2, g3⟩
