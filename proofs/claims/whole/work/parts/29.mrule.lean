/-! ===== rules as texts: the model's reading ===== -/
def cnd (σ : jm_S) : Nat → List (Int32 × Int32) → Prop
  | _, [] => True
  | j, q :: r => σ 74 j = q.1 ∧ σ 75 j = q.2 ∧ cnd σ (j + 1) r
noncomputable def rrest (x1 r1 K H : Int32) (τ1 : jm_S) : Option (Option Value × jm_S) :=
  jbi (jc 146 [(.ref 61), (.int x1), (.int K), (.int (1 : Int32)), (.int H)] (jm_up τ1 61 11 ((τ1 61 11) + (1 : Int32)))) (fun r2 τ2 => (if 0 ≤ r2 then (if (τ2 61 17) < 0 ∨ 11 ≤ (τ2 61 17).toNatClampNeg then none else (if (τ2 61 17) < 0 ∨ 11 ≤ (τ2 61 17).toNatClampNeg then none else (if x1 < 0 ∨ 4 ≤ x1.toNatClampNeg then none else (if (τ2 70 x1.toNatClampNeg) ≤ (τ2 61 11) then jv 147 25 [some (.ref 61), some (.int x1), some (.int (0 : Int32)), some (.int r1), some (.int r2)] [] (jm_up (jm_up (jm_up (jm_up τ2 74 (τ2 61 17).toNatClampNeg r1) 75 (τ2 61 17).toNatClampNeg r2) 61 17 ((τ2 61 17) + (1 : Int32))) 61 11 ((τ2 61 11) + (0 : Int32))) else jbi (jc 144 [(.ref 61), (.int x1)] (jm_up (jm_up (jm_up τ2 74 (τ2 61 17).toNatClampNeg r1) 75 (τ2 61 17).toNatClampNeg r2) 61 17 ((τ2 61 17) + (1 : Int32)))) (fun r3 τ3 => (if r3 = (124 : Int32) then jv 147 25 [some (.ref 61), some (.int x1), some (.int (1 : Int32)), some (.int r1), some (.int r2)] [] (jm_up τ3 61 11 ((τ3 61 11) + (1 : Int32))) else some (some (.int (τ3 61 11)), τ3))))))) else some (some (.int (τ2 61 11)), τ2)))
theorem nI_nn {n : Nat} (h : n < 2 ^ 31) : (0 : Int32) ≤ nI n := Int32.not_lt.mp (nI_pos h)
theorem dgF_v {y : Nat → Int32} {n k p : Nat} {v : Int32} {s : Nat} {hi : Int32} (h : ¬ nbad s 1 hi (dgF y n k p v)) : (0 : Int32) ≤ (dgF y n k p v).1 := by
  rw [not_or, not_or] at h
  have h1 := Int32.not_lt.mp h.2.1
  exact Int32.le_trans (by decide +kernel) h1
theorem M_readsRule_go {t n p : Nat} {y : Nat → Int32} (ht : t < 4) (hn : n ≤ 60) (u3 u4 : Option Value) (σ : jm_S) (h1 : σ 70 t = nI n) (h2 : ∀ j, j < n → σ 69 (60 * t + j) = y j) (hp : σ 61 11 = nI p) (hpn : p ≤ n) : jv 147 25 [some (.ref 61), some (.int (nI t)), some (.int 1), u3, u4] [] σ = if p < n ∧ ruL (y p) then rrest (nI t) (y p) (nI (ruK (y p))) (ruH (y p)) σ else some (some (.int (nI p)), σ) := by
  have k2 : nI 2 = 2 := by decide +kernel
  have k3 : nI 3 = 3 := by decide +kernel
  rw [M_readsRule_L25, if_neg (by decide), M_here ht hn σ h1 h2 hp hpn, jbi_some]
  by_cases c0 : p < n
  · rw [if_pos c0]
    by_cases c : ruL (y p)
    · rw [if_pos (show p < n ∧ ruL (y p) from ⟨c0, c⟩)]
      rcases c with e | e | e
      · rw [e, if_pos rfl, if_pos (by decide), ruK, ruH, if_neg (by decide), if_neg (by decide), k2]; rfl
      · rw [e, if_neg (by decide), if_pos rfl, if_pos (by decide), ruK, ruH, if_neg (by decide), if_neg (by decide), k2]; rfl
      · rw [e, if_neg (by decide), if_neg (by decide), if_pos rfl, if_neg (by decide), ruK, ruH, if_pos rfl, if_pos rfl, k3]; rfl
    · rw [if_neg (show ¬ (p < n ∧ ruL (y p)) from fun q => c q.2)]
      rw [if_neg (fun e => c (Or.inl e)), if_neg (fun e => c (Or.inr (Or.inl e))), if_neg (fun e => c (Or.inr (Or.inr e))), hp]
  · rw [if_neg c0, if_neg (show ¬ (p < n ∧ ruL (y p)) from fun q => c0 q.1), if_neg (by decide), if_neg (by decide), if_neg (by decide), hp]
theorem ruK_le (c : Int32) : ruK c ≤ 3 := by unfold ruK; split <;> omega
theorem M_readsRule_loop {t n : Nat} {y : Nat → Int32} (ht : t < 4) (hn : n ≤ 30) : ∀ (k p j : Nat) (u3 u4 : Option Value) (σ : jm_S), n < p + k → 3 * j ≤ p → p ≤ n → σ 70 t = nI n → (∀ j, j < n → σ 69 (60 * t + j) = y j) → σ 61 11 = nI p → σ 61 17 = nI j →
    ∃ ρ, jv 147 25 [some (.ref 61), some (.int (nI t)), some (.int 1), u3, u4] [] σ = some (some (.int (ruF y n k p).1), ρ) ∧ jFr [74, 75] [11, 17] σ ρ ∧ (∀ i, i < j → ρ 74 i = σ 74 i ∧ ρ 75 i = σ 75 i) ∧ ((ruF y n k p).1 = -1 → ρ 61 17 = nI (j + (ruF y n k p).2.length) ∧ j + (ruF y n k p).2.length ≤ 10 ∧ cnd ρ j (ruF y n k p).2) := by
  intro k
  induction k with
  | zero => intro p j u3 u4 σ h1 h2 h3; omega
  | succ k ih =>
    intro p j u3 u4 σ hk hj hpn h70 hy hp hc
    rw [M_readsRule_go ht (by omega) u3 u4 σ h70 hy hp hpn, ruF]
    by_cases c : p < n ∧ ruL (y p)
    · rw [if_pos c, if_pos c]
      have fig := M_figures (t := t) (n := n) (s := p + 1) (y := y) ht (by omega) (ruK_le (y p)) 1 (ruH (y p)) (jm_up σ 61 11 (nI (p + 1))) (by omega) (by rw [jup_n _ _ _ (by decide)]; exact h70) (fun i hi => by rw [jup_n _ _ _ (by decide)]; exact hy i hi) (by rw [jup_s, jupd, if_pos rfl])
      rw [rrest, hp, nI_1, fig]
      have hin : (dgF y n (ruK (y p)) (p + 1) 0).2 ≤ n := dgF_in (by omega)
      have hge := (dgF_ge y n (ruK (y p)) (p + 1) 0).1
      by_cases c1 : nbad (p + 1) 1 (ruH (y p)) (dgF y n (ruK (y p)) (p + 1) 0)
      · rw [if_pos c1, if_pos c1, jbi_some, if_neg (by decide)]
        refine ⟨jm_up (jm_up σ 61 11 (nI (p + 1))) 61 11 (nI (p + 1)), ?_, (jFr.rf.u61 (by simp)).u61 (by simp), fun i _ => ⟨?_, ?_⟩, fun q => absurd q (nI_ne_m1 (by omega))⟩
        · rw [jup_s, jupd, if_pos rfl]
        · rw [jup_n _ _ _ (by decide), jup_n _ _ _ (by decide)]
        · rw [jup_n _ _ _ (by decide), jup_n _ _ _ (by decide)]
      · have hv := dgF_v c1
        have hgt : p + 1 < (dgF y n (ruK (y p)) (p + 1) 0).2 := by
          have : ¬ (dgF y n (ruK (y p)) (p + 1) 0).2 = p + 1 := fun e => c1 (Or.inl e)
          omega
        rw [if_neg c1, if_neg c1, jbi_some, if_pos hv, jup_up]
        generalize dgF y n (ruK (y p)) (p + 1) 0 = r at hin hge hv hgt ⊢
        have e17 : (jm_up σ 61 11 (nI r.2)) 61 17 = nI j := by rw [jup_s, jupd, if_neg (by decide), hc]
        have e11 : (jm_up σ 61 11 (nI r.2)) 61 11 = nI r.2 := by rw [jup_s, jupd, if_pos rfl]
        have e70 : (jm_up σ 61 11 (nI r.2)) 70 t = nI n := by rw [jup_n _ _ _ (by decide), h70]
        rw [e17, e11, nI_clamp (show j < 2 ^ 31 by omega), nI_clamp (show t < 2 ^ 31 by omega), e70, nI_1]
        simp only [jbad2 (show j < 11 by omega) (by decide), jbad2 (show t < 4 by omega) (by decide), if_false]
        by_cases c2 : r.2 < n
        · rw [if_neg (nI_ge c2 (by omega)), if_pos c2]
          have hr := M_here (t := t) (n := n) (p := r.2) (y := y) ht (by omega) (jm_up (jm_up (jm_up (jm_up σ 61 11 (nI r.2)) 74 j (y p)) 75 j r.1) 61 17 (nI (j + 1))) (by rw [jup_n _ _ _ (by decide), jup_n _ _ _ (by decide), jup_n _ _ _ (by decide)]; exact e70) (fun i hi => by rw [jup_n _ _ _ (by decide), jup_n _ _ _ (by decide), jup_n _ _ _ (by decide), jup_n _ _ _ (by decide)]; exact hy i hi) (by rw [jup_s, jupd, if_neg (by decide), jup_n _ _ _ (by decide), jup_n _ _ _ (by decide), e11]) (by omega)
          rw [hr, jbi_some, if_pos c2]
          have e11' : (jm_up (jm_up (jm_up (jm_up σ 61 11 (nI r.2)) 74 j (y p)) 75 j r.1) 61 17 (nI (j + 1))) 61 11 = nI r.2 := by rw [jup_s, jupd, if_neg (by decide), jup_n _ _ _ (by decide), jup_n _ _ _ (by decide), e11]
          by_cases c3 : y r.2 = 124
          · rw [if_pos c3, if_pos c3, e11', nI_1]
            obtain ⟨ρ, g1, g2, g3, g4⟩ := ih (r.2 + 1) (j + 1) (some (.int (y p))) (some (.int r.1)) (jm_up (jm_up (jm_up (jm_up (jm_up σ 61 11 (nI r.2)) 74 j (y p)) 75 j r.1) 61 17 (nI (j + 1))) 61 11 (nI (r.2 + 1))) (by omega) (by omega) (by omega) (by rw [jup_n _ _ _ (by decide), jup_n _ _ _ (by decide), jup_n _ _ _ (by decide), jup_n _ _ _ (by decide)]; exact e70) (fun i hi => by rw [jup_n _ _ _ (by decide), jup_n _ _ _ (by decide), jup_n _ _ _ (by decide), jup_n _ _ _ (by decide), jup_n _ _ _ (by decide)]; exact hy i hi) (by rw [jup_s, jupd, if_pos rfl]) (by rw [jup_s, jupd, if_neg (by decide), jup_s, jupd, if_pos rfl])
            refine ⟨ρ, g1, jFr.trans (((((jFr.rf.u61 (by simp)).up (by simp) (by decide)).up (by simp) (by decide)).u61 (by simp)).u61 (by simp)) g2, fun i hi => ?_, fun q => ?_⟩
            · obtain ⟨q1, q2⟩ := g3 i (by omega)
              rw [jup_n _ _ _ (by decide), jup_n _ _ _ (by decide), jup_n _ _ _ (by decide), jup_s, jupd, if_neg (by omega), jup_n _ _ _ (by decide)] at q1
              rw [jup_n _ _ _ (by decide), jup_n _ _ _ (by decide), jup_s, jupd, if_neg (by omega), jup_n _ _ _ (by decide), jup_n _ _ _ (by decide)] at q2
              exact ⟨q1, q2⟩
            · obtain ⟨q1, q2, q3⟩ := g4 q
              obtain ⟨r1, r2⟩ := g3 j (by omega)
              rw [jup_n _ _ _ (by decide), jup_n _ _ _ (by decide), jup_n _ _ _ (by decide), jup_s, jupd, if_pos rfl] at r1
              rw [jup_n _ _ _ (by decide), jup_n _ _ _ (by decide), jup_s, jupd, if_pos rfl] at r2
              refine ⟨?_, ?_, r1, r2, q3⟩
              · rw [q1, List.length_cons]; congr 1; omega
              · rw [List.length_cons]; omega
          · rw [if_neg c3, if_neg c3, e11']
            refine ⟨_, rfl, (((jFr.rf.u61 (by simp)).up (by simp) (by decide)).up (by simp) (by decide)).u61 (by simp), fun i hi => ⟨?_, ?_⟩, fun q => absurd q (nI_ne_m1 (by omega))⟩
            · rw [jup_n _ _ _ (by decide), jup_n _ _ _ (by decide), jup_s, jupd, if_neg (by omega), jup_n _ _ _ (by decide)]
            · rw [jup_n _ _ _ (by decide), jup_s, jupd, if_neg (by omega), jup_n _ _ _ (by decide), jup_n _ _ _ (by decide)]
        · rw [if_pos (nI_le (by omega) (by omega)), if_neg c2]
          rw [M_readsRule_L25, if_pos rfl]
          refine ⟨_, rfl, ((((jFr.rf.u61 (by simp)).up (by simp) (by decide)).up (by simp) (by decide)).u61 (by simp)).u61 (by simp), fun i hi => ⟨?_, ?_⟩, fun q => ⟨?_, ?_, ?_, ?_, trivial⟩⟩
          · rw [jup_n _ _ _ (by decide), jup_n _ _ _ (by decide), jup_n _ _ _ (by decide), jup_s, jupd, if_neg (by omega), jup_n _ _ _ (by decide)]
          · rw [jup_n _ _ _ (by decide), jup_n _ _ _ (by decide), jup_s, jupd, if_neg (by omega), jup_n _ _ _ (by decide), jup_n _ _ _ (by decide)]
          · rw [jup_s, jupd, if_neg (by decide), jup_s, jupd, if_pos rfl]; rfl
          · rw [List.length_singleton]; omega
          · rw [jup_n _ _ _ (by decide), jup_n _ _ _ (by decide), jup_n _ _ _ (by decide), jup_s, jupd, if_pos rfl]
          · rw [jup_n _ _ _ (by decide), jup_n _ _ _ (by decide), jup_s, jupd, if_pos rfl]
    · rw [if_neg c, if_neg c]
      exact ⟨σ, rfl, jFr.rf, fun _ _ => ⟨rfl, rfl⟩, fun q => absurd q (nI_ne_m1 (by omega))⟩
/-- a rule's text as a whole -/
def ruA (y : Nat → Int32) (n : Nat) : Int32 × List (Int32 × Int32) := if n = 0 then (-1, []) else ruF y n (n + 1) 0
theorem M_readsRule {t n : Nat} {y : Nat → Int32} (ht : t < 4) (hn : n ≤ 30) (σ : jm_S) (h70 : σ 70 t = nI n) (hy : ∀ j, j < n → σ 69 (60 * t + j) = y j) :
    ∃ ρ, jc 147 [.ref 61, .int (nI t)] σ = some (some (.int (ruA y n).1), ρ) ∧ jFr [74, 75] [11, 17] σ ρ ∧ ((ruA y n).1 = -1 → ρ 61 17 = nI (ruA y n).2.length ∧ (ruA y n).2.length ≤ 10 ∧ cnd ρ 0 (ruA y n).2) := by
  rw [M_readsRule_in, nI_clamp (show t < 2 ^ 31 by omega), if_neg (by rw [jbad2 (show t < 4 by omega) (by decide)]; exact id), h70, ruA]
  by_cases c : n = 0
  · subst c
    rw [if_pos (by decide +kernel), M_readsRule_L25, if_pos rfl, if_pos rfl]
    refine ⟨_, rfl, (jFr.rf.u61 (by simp)).u61 (by simp), fun _ => ⟨?_, by simp, trivial⟩⟩
    rw [jup_s, jupd, if_pos rfl]; rfl
  · rw [if_neg (nI_nle (by omega) (by omega)), if_neg c]
    obtain ⟨ρ, g1, g2, g3, g4⟩ := M_readsRule_loop (y := y) ht hn (n + 1) 0 0 none none (jm_up (jm_up σ 61 11 (0 : Int32)) 61 17 (0 : Int32)) (by omega) (by omega) (by omega) (by rw [jup_n _ _ _ (by decide), jup_n _ _ _ (by decide)]; exact h70) (fun i hi => by rw [jup_n _ _ _ (by decide), jup_n _ _ _ (by decide)]; exact hy i hi) (by rw [jup_s, jupd, if_neg (by decide), jup_s, jupd, if_pos rfl, nI_0]) (by rw [jup_s, jupd, if_pos rfl, nI_0])
    refine ⟨ρ, g1, jFr.trans ((jFr.rf.u61 (by simp)).u61 (by simp)) g2, fun q => ?_⟩
    have := g4 q
    rw [Nat.zero_add] at this
    exact this
