/-! ===== rules as texts ===== -/
abbrev ruL (c : Int32) : Prop := c = 103 ∨ c = 110 ∨ c = 116
def ruK (c : Int32) : Nat := if c = 116 then 3 else 2
def ruH (c : Int32) : Int32 := if c = 116 then 200 else 99
def ruF (y : Nat → Int32) (n : Nat) : Nat → Nat → Int32 × List (Int32 × Int32)
  | 0, p => (nI p, [])
  | k + 1, p => if p < n ∧ ruL (y p) then
      (if nbad (p + 1) 1 (ruH (y p)) (dgF y n (ruK (y p)) (p + 1) 0) then (nI (p + 1), [])
       else if (dgF y n (ruK (y p)) (p + 1) 0).2 < n then
         (if y (dgF y n (ruK (y p)) (p + 1) 0).2 = 124 then ((ruF y n k ((dgF y n (ruK (y p)) (p + 1) 0).2 + 1)).1, (y p, (dgF y n (ruK (y p)) (p + 1) 0).1) :: (ruF y n k ((dgF y n (ruK (y p)) (p + 1) 0).2 + 1)).2)
          else (nI (dgF y n (ruK (y p)) (p + 1) 0).2, [(y p, (dgF y n (ruK (y p)) (p + 1) 0).1)]))
       else (-1, [(y p, (dgF y n (ruK (y p)) (p + 1) 0).1)]))
    else (nI p, [])
def mnF (c : Int32) : List (Int32 × Int32) → Int32 → Int32
  | [], m => m
  | q :: r, m => mnF c r (if q.1 = c then (if q.2 < m then q.2 else m) else m)
theorem dgF_in {y : Nat → Int32} {n k p : Nat} {v : Int32} (h : p ≤ n) : (dgF y n k p v).2 ≤ n := by
  have := dgF_ge y n k p v
  omega
/-- one condition: from where it is read, what it is -/
theorem Rule_add_46 {n p : Nat} {y : Nat → Int32} (hn : n ≤ 30) (σ : jm_S) (ht : tx σ 44 45 n y) (hp : σ 44 2 = nI p) (hpn : p ≤ n) (h3 : σ 44 3 = -1) : ∃ ρ, jc 32 [.ref 46, .ref 44] σ = some (none, ρ) ∧ (∀ c, c ≠ 46 → c ≠ 44 → ρ c = σ c) ∧ ρ 44 1 = σ 44 1 ∧
    (if p < n ∧ ruL (y p) then ρ 44 2 = nI (dgF y n (ruK (y p)) (p + 1) 0).2 ∧ ρ 44 3 = (if nbad (p + 1) 1 (ruH (y p)) (dgF y n (ruK (y p)) (p + 1) 0) then nI (p + 1) else -1) ∧ ρ 46 0 = (if y p = 103 then (if (dgF y n (ruK (y p)) (p + 1) 0).1 < σ 46 0 then (dgF y n (ruK (y p)) (p + 1) 0).1 else σ 46 0) else σ 46 0) ∧ ρ 46 1 = (if y p = 110 then (if (dgF y n (ruK (y p)) (p + 1) 0).1 < σ 46 1 then (dgF y n (ruK (y p)) (p + 1) 0).1 else σ 46 1) else σ 46 1) ∧ ρ 46 2 = (if y p = 116 then (if (dgF y n (ruK (y p)) (p + 1) 0).1 < σ 46 2 then (dgF y n (ruK (y p)) (p + 1) 0).1 else σ 46 2) else σ 46 2)
     else ρ 44 3 = nI p) := by
  have key : ∀ (K : Nat) (H : Int32), K ≤ 3 → p < n → jc 26 [.ref 44, .int (nI K), .int 1, .int H] (jm_up σ 44 2 (nI (p + 1))) = some (some (.int (dgF y n K (p + 1) 0).1), if nbad (p + 1) 1 H (dgF y n K (p + 1) 0) then jm_up (jm_up σ 44 2 (nI (dgF y n K (p + 1) 0).2)) 44 3 (nI (p + 1)) else jm_up σ 44 2 (nI (dgF y n K (p + 1) 0).2)) := by
    intro K H hK hlt
    rw [Text_number_44 (n := n) (s := p + 1) (y := y) hn hK 1 H _ (by omega) ⟨by rw [jup_s, jupd, if_neg (by decide)]; exact ht.1, fun j hj => by rw [jup_n _ _ _ (by decide)]; exact ht.2 j hj⟩ (by rw [jup_s, jupd, if_pos rfl]) (by rw [jup_s, jupd, if_neg (by decide)]; exact h3), jup_up]
  have k2 := key 2 99 (by omega)
  have k3 := key 3 200 (by omega)
  rw [show nI 2 = 2 by decide +kernel] at k2
  rw [show nI 3 = 3 by decide +kernel] at k3
  have tk := fun x => Text_takes_44 x σ ht (show n ≤ 30 from hn) hp hpn h3
  by_cases c : p < n ∧ ruL (y p)
  · simp only [if_pos c]
    obtain ⟨c1, c2⟩ := c
    rcases c2 with e | e | e
    · have hR : jc 32 [.ref 46, .ref 44] σ = some (none, jm_up (if nbad (p + 1) 1 99 (dgF y n 2 (p + 1) 0) then jm_up (jm_up σ 44 2 (nI (dgF y n 2 (p + 1) 0).2)) 44 3 (nI (p + 1)) else jm_up σ 44 2 (nI (dgF y n 2 (p + 1) 0).2)) 46 0 (if (dgF y n 2 (p + 1) 0).1 < σ 46 0 then (dgF y n 2 (p + 1) 0).1 else σ 46 0)) := by
        rw [Rule_addCondition_46_44_in, tk, if_pos ⟨c1, e⟩, jbi_some, if_neg (by decide), k2 c1, jbi_some, jup_n _ _ _ (by decide)]
      refine ⟨_, hR, fun c h1 h2 => ?_, ?_, ?_, ?_, ?_, ?_, ?_⟩
      · rw [jup_n _ _ _ h1]; split
        · rw [jup_n _ _ _ h2, jup_n _ _ _ h2]
        · rw [jup_n _ _ _ h2]
      all_goals try simp only [e, ruK, ruH, show ¬ (103 : Int32) = 116 by decide, show ¬ (103 : Int32) = 110 by decide, if_false, if_true]
      · rw [jup_n _ _ _ (by decide)]; split
        · rw [jup_s, jupd, if_neg (by decide), jup_s, jupd, if_neg (by decide)]
        · rw [jup_s, jupd, if_neg (by decide)]
      · rw [jup_n _ _ _ (by decide)]; split
        · rw [jup_s, jupd, if_neg (by decide), jup_s, jupd, if_pos rfl]
        · rw [jup_s, jupd, if_pos rfl]
      · rw [jup_n _ _ _ (by decide)]; split
        · rw [jup_s, jupd, if_pos rfl]
        · rw [jup_s, jupd, if_neg (by decide)]; exact h3
      · rw [jup_s, jupd, if_pos rfl]
      · rw [jup_s, jupd, if_neg (by decide)]; split
        · rw [jup_n _ _ _ (by decide), jup_n _ _ _ (by decide)]
        · rw [jup_n _ _ _ (by decide)]
      · rw [jup_s, jupd, if_neg (by decide)]; split
        · rw [jup_n _ _ _ (by decide), jup_n _ _ _ (by decide)]
        · rw [jup_n _ _ _ (by decide)]
    · have hR : jc 32 [.ref 46, .ref 44] σ = some (none, jm_up (if nbad (p + 1) 1 99 (dgF y n 2 (p + 1) 0) then jm_up (jm_up σ 44 2 (nI (dgF y n 2 (p + 1) 0).2)) 44 3 (nI (p + 1)) else jm_up σ 44 2 (nI (dgF y n 2 (p + 1) 0).2)) 46 1 (if (dgF y n 2 (p + 1) 0).1 < σ 46 1 then (dgF y n 2 (p + 1) 0).1 else σ 46 1)) := by
        rw [Rule_addCondition_46_44_in, tk, if_neg (fun q => absurd (e.symm.trans q.2) (by decide)), jbi_some, if_pos rfl, tk, if_pos ⟨c1, e⟩, jbi_some, if_neg (by decide), k2 c1, jbi_some, jup_n _ _ _ (by decide)]
      refine ⟨_, hR, fun c h1 h2 => ?_, ?_, ?_, ?_, ?_, ?_, ?_⟩
      · rw [jup_n _ _ _ h1]; split
        · rw [jup_n _ _ _ h2, jup_n _ _ _ h2]
        · rw [jup_n _ _ _ h2]
      all_goals try simp only [e, ruK, ruH, show ¬ (110 : Int32) = 116 by decide, show ¬ (110 : Int32) = 103 by decide, if_false, if_true]
      · rw [jup_n _ _ _ (by decide)]; split
        · rw [jup_s, jupd, if_neg (by decide), jup_s, jupd, if_neg (by decide)]
        · rw [jup_s, jupd, if_neg (by decide)]
      · rw [jup_n _ _ _ (by decide)]; split
        · rw [jup_s, jupd, if_neg (by decide), jup_s, jupd, if_pos rfl]
        · rw [jup_s, jupd, if_pos rfl]
      · rw [jup_n _ _ _ (by decide)]; split
        · rw [jup_s, jupd, if_pos rfl]
        · rw [jup_s, jupd, if_neg (by decide)]; exact h3
      · rw [jup_s, jupd, if_neg (by decide)]; split
        · rw [jup_n _ _ _ (by decide), jup_n _ _ _ (by decide)]
        · rw [jup_n _ _ _ (by decide)]
      · rw [jup_s, jupd, if_pos rfl]
      · rw [jup_s, jupd, if_neg (by decide)]; split
        · rw [jup_n _ _ _ (by decide), jup_n _ _ _ (by decide)]
        · rw [jup_n _ _ _ (by decide)]
    · have hR : jc 32 [.ref 46, .ref 44] σ = some (none, jm_up (if nbad (p + 1) 1 200 (dgF y n 3 (p + 1) 0) then jm_up (jm_up σ 44 2 (nI (dgF y n 3 (p + 1) 0).2)) 44 3 (nI (p + 1)) else jm_up σ 44 2 (nI (dgF y n 3 (p + 1) 0).2)) 46 2 (if (dgF y n 3 (p + 1) 0).1 < σ 46 2 then (dgF y n 3 (p + 1) 0).1 else σ 46 2)) := by
        rw [Rule_addCondition_46_44_in, tk, if_neg (fun q => absurd (e.symm.trans q.2) (by decide)), jbi_some, if_pos rfl, tk, if_neg (fun q => absurd (e.symm.trans q.2) (by decide)), jbi_some, if_pos rfl, tk, if_pos ⟨c1, e⟩, jbi_some, if_neg (by decide), k3 c1, jbi_some, jup_n _ _ _ (by decide)]
      refine ⟨_, hR, fun c h1 h2 => ?_, ?_, ?_, ?_, ?_, ?_, ?_⟩
      · rw [jup_n _ _ _ h1]; split
        · rw [jup_n _ _ _ h2, jup_n _ _ _ h2]
        · rw [jup_n _ _ _ h2]
      all_goals try simp only [e, ruK, ruH, show ¬ (116 : Int32) = 110 by decide, show ¬ (116 : Int32) = 103 by decide, if_false, if_true]
      · rw [jup_n _ _ _ (by decide)]; split
        · rw [jup_s, jupd, if_neg (by decide), jup_s, jupd, if_neg (by decide)]
        · rw [jup_s, jupd, if_neg (by decide)]
      · rw [jup_n _ _ _ (by decide)]; split
        · rw [jup_s, jupd, if_neg (by decide), jup_s, jupd, if_pos rfl]
        · rw [jup_s, jupd, if_pos rfl]
      · rw [jup_n _ _ _ (by decide)]; split
        · rw [jup_s, jupd, if_pos rfl]
        · rw [jup_s, jupd, if_neg (by decide)]; exact h3
      · rw [jup_s, jupd, if_neg (by decide)]; split
        · rw [jup_n _ _ _ (by decide), jup_n _ _ _ (by decide)]
        · rw [jup_n _ _ _ (by decide)]
      · rw [jup_s, jupd, if_neg (by decide)]; split
        · rw [jup_n _ _ _ (by decide), jup_n _ _ _ (by decide)]
        · rw [jup_n _ _ _ (by decide)]
      · rw [jup_s, jupd, if_pos rfl]
  · simp only [if_neg c]
    refine ⟨jm_up σ 44 3 (nI p), ?_, fun c h1 h2 => by rw [jup_n _ _ _ h2], by rw [jup_s, jupd, if_neg (by decide)], by rw [jup_s, jupd, if_pos rfl]⟩
    rw [Rule_addCondition_46_44_in, tk, if_neg (fun q => c ⟨q.1, Or.inl q.2⟩), jbi_some, if_pos rfl, tk, if_neg (fun q => c ⟨q.1, Or.inr (Or.inl q.2)⟩), jbi_some, if_pos rfl, tk, if_neg (fun q => c ⟨q.1, Or.inr (Or.inr q.2)⟩), jbi_some, if_pos rfl, hp, Text_failAt_44 _ σ h3, jbv_some]
theorem Rule_loop_46 {n : Nat} {y : Nat → Int32} (hn : n ≤ 30) : ∀ (k p j : Nat) (σ : jm_S), n < p + k → j ≤ p → p ≤ n → tx σ 44 45 n y → σ 44 2 = nI p → σ 44 3 = -1 → ∃ ρ, jv 31 40 [some (.ref 46), some (.ref 44), some (.int 1), some (.int (nI j))] [] σ = some (none, ρ) ∧ (∀ c, c ≠ 46 → c ≠ 44 → ρ c = σ c) ∧ ρ 44 1 = σ 44 1 ∧ ρ 44 3 = (ruF y n k p).1 ∧ ((ruF y n k p).1 = -1 → ρ 46 0 = mnF 103 (ruF y n k p).2 (σ 46 0) ∧ ρ 46 1 = mnF 110 (ruF y n k p).2 (σ 46 1) ∧ ρ 46 2 = mnF 116 (ruF y n k p).2 (σ 46 2)) := by
  intro k
  induction k with
  | zero => intro p j σ h1 h2 h3; omega
  | succ k ih =>
    intro p j σ hk hj hpn ht hp h3
    obtain ⟨τ, e1, e2, e3, e4⟩ := Rule_add_46 hn σ ht hp hpn h3
    have hj30 : ¬ (30 : Int32) < nI j := by
      rw [show (30 : Int32) = nI 30 by decide +kernel, nI_ltI (by decide) (by omega)]; omega
    have tt : tx τ 44 45 n y := ⟨e3.trans ht.1, fun j hj => by rw [e2 45 (by decide) (by decide)]; exact ht.2 j hj⟩
    have run : jv 31 40 [some (.ref 46), some (.ref 44), some (.int 1), some (.int (nI j))] [] σ = jbi (jc 30 [(.ref 44), (.int (124 : Int32))] τ) (fun r2 τ2 => jv 31 40 [some (.ref 46), some (.ref 44), some (.int r2), some (.int (nI (j + 1)))] [] τ2) := by
      rw [Rule_follow_46_44_L40, if_neg (by decide), if_neg hj30, e1, jbv_some, nI_1]
    have stop : ∀ τ', jv 31 40 [some (.ref 46), some (.ref 44), some (.int 0), some (.int (nI (j + 1)))] [] τ' = some (none, τ') := by
      intro τ'
      rw [Rule_follow_46_44_L40, if_pos rfl]
    rw [ruF]
    by_cases c : p < n ∧ ruL (y p)
    · rw [if_pos c]
      rw [if_pos c] at e4
      obtain ⟨f1, f2, f3, f4, f5⟩ := e4
      have hin : (dgF y n (ruK (y p)) (p + 1) 0).2 ≤ n := dgF_in (by omega)
      have hge := (dgF_ge y n (ruK (y p)) (p + 1) 0).1
      generalize dgF y n (ruK (y p)) (p + 1) 0 = r at f1 f2 f3 f4 f5 hin hge ⊢
      by_cases c1 : nbad (p + 1) 1 (ruH (y p)) r
      · rw [if_pos c1] at f2 ⊢
        refine ⟨τ, ?_, e2, e3, f2, fun q => absurd q (nI_ne_m1 (by omega))⟩
        rw [run, Text_goesF_44 _ τ (by rw [f2]; exact nI_ne_m1 (by omega)), jbi_some, stop]
      · rw [if_neg c1] at f2 ⊢
        have gg := Text_goes_44 124 τ tt hn f1 hin f2
        by_cases c2 : r.2 < n
        · rw [if_pos c2] at gg ⊢
          by_cases c3 : y r.2 = 124
          · rw [if_pos c3] at gg ⊢
            obtain ⟨ρ, g1, g2, g3, g4, g5⟩ := ih (r.2 + 1) (j + 1) (jm_up τ 44 2 (nI (r.2 + 1))) (by omega) (by omega) (by omega) ⟨by rw [jup_s, jupd, if_neg (by decide)]; exact tt.1, fun j hj => by rw [jup_n _ _ _ (by decide)]; exact tt.2 j hj⟩ (by rw [jup_s, jupd, if_pos rfl]) (by rw [jup_s, jupd, if_neg (by decide)]; exact f2)
            refine ⟨ρ, ?_, fun c h1 h2 => ?_, ?_, g4, fun q => ?_⟩
            · rw [run, gg, jbi_some, g1]
            · rw [g2 c h1 h2, jup_n _ _ _ h2, e2 c h1 h2]
            · rw [g3, jup_s, jupd, if_neg (by decide), e3]
            · obtain ⟨q0, q1, q2⟩ := g5 q
              rw [jup_n _ _ _ (by decide)] at q0 q1 q2
              refine ⟨?_, ?_, ?_⟩
              · rw [q0, f3, mnF]
              · rw [q1, f4, mnF]
              · rw [q2, f5, mnF]
          · rw [if_neg c3] at gg ⊢
            refine ⟨jm_up τ 44 3 (nI r.2), ?_, fun c h1 h2 => ?_, ?_, ?_, fun q => absurd q (nI_ne_m1 (by omega))⟩
            · rw [run, gg, jbi_some, stop]
            · rw [jup_n _ _ _ h2, e2 c h1 h2]
            · rw [jup_s, jupd, if_neg (by decide), e3]
            · rw [jup_s, jupd, if_pos rfl]
        · rw [if_neg c2] at gg ⊢
          refine ⟨τ, ?_, e2, e3, f2, fun _ => ⟨?_, ?_, ?_⟩⟩
          · rw [run, gg, jbi_some, stop]
          · rw [f3]; rfl
          · rw [f4]; rfl
          · rw [f5]; rfl
    · rw [if_neg c]
      rw [if_neg c] at e4
      refine ⟨τ, ?_, e2, e3, e4, fun q => absurd q (nI_ne_m1 (by omega))⟩
      rw [run, Text_goesF_44 _ τ (by rw [e4]; exact nI_ne_m1 (by omega)), jbi_some, stop]
theorem Rule_follow_46 {n : Nat} {y : Nat → Int32} (hn : n ≤ 30) (σ : jm_S) (ht : tx σ 44 45 n y) : ∃ ρ, jc 31 [.ref 46, .ref 44] σ = some (none, ρ) ∧ (∀ c, c ≠ 46 → c ≠ 44 → ρ c = σ c) ∧ ρ 44 1 = σ 44 1 ∧ ρ 44 3 = (if n = 0 then -1 else (ruF y n (n + 1) 0).1) ∧ ((if n = 0 then -1 else (ruF y n (n + 1) 0).1) = -1 → ρ 46 0 = mnF 103 (if n = 0 then [] else (ruF y n (n + 1) 0).2) 1000 ∧ ρ 46 1 = mnF 110 (if n = 0 then [] else (ruF y n (n + 1) 0).2) 1000 ∧ ρ 46 2 = mnF 116 (if n = 0 then [] else (ruF y n (n + 1) 0).2) 1000) := by
  have r0 : jc 31 [.ref 46, .ref 44] σ = (if nI n ≤ 0 then jv 31 40 [some (.ref 46), some (.ref 44), some (.int (0 : Int32)), some (.int (0 : Int32))] [] (jm_up (jm_up (jm_up (jm_up (jm_up σ 46 0 1000) 46 1 1000) 46 2 1000) 44 2 0) 44 3 (-1)) else jv 31 40 [some (.ref 46), some (.ref 44), some (.int (1 : Int32)), some (.int (0 : Int32))] [] (jm_up (jm_up (jm_up (jm_up (jm_up σ 46 0 1000) 46 1 1000) 46 2 1000) 44 2 0) 44 3 (-1))) := by
    rw [Rule_follow_46_44_in, Text_rewind_44_in, jbv_some]
    congr 1
    rw [jup_s, jupd, if_neg (by decide), jup_s, jupd, if_neg (by decide), jup_n _ _ _ (by decide), jup_n _ _ _ (by decide), jup_n _ _ _ (by decide), ht.1]
  have w1 : ∀ c, c ≠ 46 → c ≠ 44 → (jm_up (jm_up (jm_up (jm_up (jm_up σ 46 0 1000) 46 1 1000) 46 2 1000) 44 2 0) 44 3 (-1)) c = σ c := by
    intro c h1 h2
    rw [jup_n _ _ _ h2, jup_n _ _ _ h2, jup_n _ _ _ h1, jup_n _ _ _ h1, jup_n _ _ _ h1]
  have wt : ∀ i, i ≠ 2 → i ≠ 3 → (jm_up (jm_up (jm_up (jm_up (jm_up σ 46 0 1000) 46 1 1000) 46 2 1000) 44 2 0) 44 3 (-1)) 44 i = σ 44 i := by
    intro i h1 h2
    rw [jup_s, jupd, if_neg h2, jup_s, jupd, if_neg h1, jup_n _ _ _ (by decide), jup_n _ _ _ (by decide), jup_n _ _ _ (by decide)]
  have wa : ∀ i, (jm_up (jm_up (jm_up (jm_up (jm_up σ 46 0 1000) 46 1 1000) 46 2 1000) 44 2 0) 44 3 (-1)) 46 i = if i = 2 then 1000 else if i = 1 then 1000 else if i = 0 then 1000 else σ 46 i := by
    intro i
    rw [jup_n _ _ _ (by decide), jup_n _ _ _ (by decide), jup_s, jupd, jup_s, jupd, jup_s, jupd]
  by_cases c : n = 0
  · simp only [if_pos c]
    refine ⟨_, r0.trans ((if_pos (by rw [c]; decide +kernel)).trans (by rw [Rule_follow_46_44_L40, if_pos rfl])), w1, wt 1 (by decide) (by decide), by rw [jup_s, jupd, if_pos rfl], fun _ => ⟨?_, ?_, ?_⟩⟩
    · rw [wa]; rfl
    · rw [wa]; rfl
    · rw [wa]; rfl
  · simp only [if_neg c]
    obtain ⟨ρ, g1, g2, g3, g4, g5⟩ := Rule_loop_46 (y := y) hn (n + 1) 0 0 _ (by omega) (by omega) (by omega) ⟨by rw [wt 1 (by decide) (by decide)]; exact ht.1, fun j hj => by rw [w1 45 (by decide) (by decide)]; exact ht.2 j hj⟩ (show (jm_up (jm_up (jm_up (jm_up (jm_up σ 46 0 1000) 46 1 1000) 46 2 1000) 44 2 0) 44 3 (-1)) 44 2 = nI 0 by rw [jup_s, jupd, if_neg (by decide), jup_s, jupd, if_pos rfl]; decide +kernel) (by rw [jup_s, jupd, if_pos rfl])
    rw [nI_0] at g1
    refine ⟨ρ, r0.trans ((if_neg (nI_nle (by omega) (by omega))).trans g1), fun c h1 h2 => (g2 c h1 h2).trans (w1 c h1 h2), g3.trans (wt 1 (by decide) (by decide)), g4, fun q => ?_⟩
    have g6 := g5 q
    rw [wa, wa, wa] at g6
    exact g6
/-- one condition: from where it is read, what it is -/
theorem Rule_add_49 {n p : Nat} {y : Nat → Int32} (hn : n ≤ 30) (σ : jm_S) (ht : tx σ 47 48 n y) (hp : σ 47 2 = nI p) (hpn : p ≤ n) (h3 : σ 47 3 = -1) : ∃ ρ, jc 32 [.ref 49, .ref 47] σ = some (none, ρ) ∧ (∀ c, c ≠ 49 → c ≠ 47 → ρ c = σ c) ∧ ρ 47 1 = σ 47 1 ∧
    (if p < n ∧ ruL (y p) then ρ 47 2 = nI (dgF y n (ruK (y p)) (p + 1) 0).2 ∧ ρ 47 3 = (if nbad (p + 1) 1 (ruH (y p)) (dgF y n (ruK (y p)) (p + 1) 0) then nI (p + 1) else -1) ∧ ρ 49 0 = (if y p = 103 then (if (dgF y n (ruK (y p)) (p + 1) 0).1 < σ 49 0 then (dgF y n (ruK (y p)) (p + 1) 0).1 else σ 49 0) else σ 49 0) ∧ ρ 49 1 = (if y p = 110 then (if (dgF y n (ruK (y p)) (p + 1) 0).1 < σ 49 1 then (dgF y n (ruK (y p)) (p + 1) 0).1 else σ 49 1) else σ 49 1) ∧ ρ 49 2 = (if y p = 116 then (if (dgF y n (ruK (y p)) (p + 1) 0).1 < σ 49 2 then (dgF y n (ruK (y p)) (p + 1) 0).1 else σ 49 2) else σ 49 2)
     else ρ 47 3 = nI p) := by
  have key : ∀ (K : Nat) (H : Int32), K ≤ 3 → p < n → jc 26 [.ref 47, .int (nI K), .int 1, .int H] (jm_up σ 47 2 (nI (p + 1))) = some (some (.int (dgF y n K (p + 1) 0).1), if nbad (p + 1) 1 H (dgF y n K (p + 1) 0) then jm_up (jm_up σ 47 2 (nI (dgF y n K (p + 1) 0).2)) 47 3 (nI (p + 1)) else jm_up σ 47 2 (nI (dgF y n K (p + 1) 0).2)) := by
    intro K H hK hlt
    rw [Text_number_47 (n := n) (s := p + 1) (y := y) hn hK 1 H _ (by omega) ⟨by rw [jup_s, jupd, if_neg (by decide)]; exact ht.1, fun j hj => by rw [jup_n _ _ _ (by decide)]; exact ht.2 j hj⟩ (by rw [jup_s, jupd, if_pos rfl]) (by rw [jup_s, jupd, if_neg (by decide)]; exact h3), jup_up]
  have k2 := key 2 99 (by omega)
  have k3 := key 3 200 (by omega)
  rw [show nI 2 = 2 by decide +kernel] at k2
  rw [show nI 3 = 3 by decide +kernel] at k3
  have tk := fun x => Text_takes_47 x σ ht (show n ≤ 30 from hn) hp hpn h3
  by_cases c : p < n ∧ ruL (y p)
  · simp only [if_pos c]
    obtain ⟨c1, c2⟩ := c
    rcases c2 with e | e | e
    · have hR : jc 32 [.ref 49, .ref 47] σ = some (none, jm_up (if nbad (p + 1) 1 99 (dgF y n 2 (p + 1) 0) then jm_up (jm_up σ 47 2 (nI (dgF y n 2 (p + 1) 0).2)) 47 3 (nI (p + 1)) else jm_up σ 47 2 (nI (dgF y n 2 (p + 1) 0).2)) 49 0 (if (dgF y n 2 (p + 1) 0).1 < σ 49 0 then (dgF y n 2 (p + 1) 0).1 else σ 49 0)) := by
        rw [Rule_addCondition_49_47_in, tk, if_pos ⟨c1, e⟩, jbi_some, if_neg (by decide), k2 c1, jbi_some, jup_n _ _ _ (by decide)]
      refine ⟨_, hR, fun c h1 h2 => ?_, ?_, ?_, ?_, ?_, ?_, ?_⟩
      · rw [jup_n _ _ _ h1]; split
        · rw [jup_n _ _ _ h2, jup_n _ _ _ h2]
        · rw [jup_n _ _ _ h2]
      all_goals try simp only [e, ruK, ruH, show ¬ (103 : Int32) = 116 by decide, show ¬ (103 : Int32) = 110 by decide, if_false, if_true]
      · rw [jup_n _ _ _ (by decide)]; split
        · rw [jup_s, jupd, if_neg (by decide), jup_s, jupd, if_neg (by decide)]
        · rw [jup_s, jupd, if_neg (by decide)]
      · rw [jup_n _ _ _ (by decide)]; split
        · rw [jup_s, jupd, if_neg (by decide), jup_s, jupd, if_pos rfl]
        · rw [jup_s, jupd, if_pos rfl]
      · rw [jup_n _ _ _ (by decide)]; split
        · rw [jup_s, jupd, if_pos rfl]
        · rw [jup_s, jupd, if_neg (by decide)]; exact h3
      · rw [jup_s, jupd, if_pos rfl]
      · rw [jup_s, jupd, if_neg (by decide)]; split
        · rw [jup_n _ _ _ (by decide), jup_n _ _ _ (by decide)]
        · rw [jup_n _ _ _ (by decide)]
      · rw [jup_s, jupd, if_neg (by decide)]; split
        · rw [jup_n _ _ _ (by decide), jup_n _ _ _ (by decide)]
        · rw [jup_n _ _ _ (by decide)]
    · have hR : jc 32 [.ref 49, .ref 47] σ = some (none, jm_up (if nbad (p + 1) 1 99 (dgF y n 2 (p + 1) 0) then jm_up (jm_up σ 47 2 (nI (dgF y n 2 (p + 1) 0).2)) 47 3 (nI (p + 1)) else jm_up σ 47 2 (nI (dgF y n 2 (p + 1) 0).2)) 49 1 (if (dgF y n 2 (p + 1) 0).1 < σ 49 1 then (dgF y n 2 (p + 1) 0).1 else σ 49 1)) := by
        rw [Rule_addCondition_49_47_in, tk, if_neg (fun q => absurd (e.symm.trans q.2) (by decide)), jbi_some, if_pos rfl, tk, if_pos ⟨c1, e⟩, jbi_some, if_neg (by decide), k2 c1, jbi_some, jup_n _ _ _ (by decide)]
      refine ⟨_, hR, fun c h1 h2 => ?_, ?_, ?_, ?_, ?_, ?_, ?_⟩
      · rw [jup_n _ _ _ h1]; split
        · rw [jup_n _ _ _ h2, jup_n _ _ _ h2]
        · rw [jup_n _ _ _ h2]
      all_goals try simp only [e, ruK, ruH, show ¬ (110 : Int32) = 116 by decide, show ¬ (110 : Int32) = 103 by decide, if_false, if_true]
      · rw [jup_n _ _ _ (by decide)]; split
        · rw [jup_s, jupd, if_neg (by decide), jup_s, jupd, if_neg (by decide)]
        · rw [jup_s, jupd, if_neg (by decide)]
      · rw [jup_n _ _ _ (by decide)]; split
        · rw [jup_s, jupd, if_neg (by decide), jup_s, jupd, if_pos rfl]
        · rw [jup_s, jupd, if_pos rfl]
      · rw [jup_n _ _ _ (by decide)]; split
        · rw [jup_s, jupd, if_pos rfl]
        · rw [jup_s, jupd, if_neg (by decide)]; exact h3
      · rw [jup_s, jupd, if_neg (by decide)]; split
        · rw [jup_n _ _ _ (by decide), jup_n _ _ _ (by decide)]
        · rw [jup_n _ _ _ (by decide)]
      · rw [jup_s, jupd, if_pos rfl]
      · rw [jup_s, jupd, if_neg (by decide)]; split
        · rw [jup_n _ _ _ (by decide), jup_n _ _ _ (by decide)]
        · rw [jup_n _ _ _ (by decide)]
    · have hR : jc 32 [.ref 49, .ref 47] σ = some (none, jm_up (if nbad (p + 1) 1 200 (dgF y n 3 (p + 1) 0) then jm_up (jm_up σ 47 2 (nI (dgF y n 3 (p + 1) 0).2)) 47 3 (nI (p + 1)) else jm_up σ 47 2 (nI (dgF y n 3 (p + 1) 0).2)) 49 2 (if (dgF y n 3 (p + 1) 0).1 < σ 49 2 then (dgF y n 3 (p + 1) 0).1 else σ 49 2)) := by
        rw [Rule_addCondition_49_47_in, tk, if_neg (fun q => absurd (e.symm.trans q.2) (by decide)), jbi_some, if_pos rfl, tk, if_neg (fun q => absurd (e.symm.trans q.2) (by decide)), jbi_some, if_pos rfl, tk, if_pos ⟨c1, e⟩, jbi_some, if_neg (by decide), k3 c1, jbi_some, jup_n _ _ _ (by decide)]
      refine ⟨_, hR, fun c h1 h2 => ?_, ?_, ?_, ?_, ?_, ?_, ?_⟩
      · rw [jup_n _ _ _ h1]; split
        · rw [jup_n _ _ _ h2, jup_n _ _ _ h2]
        · rw [jup_n _ _ _ h2]
      all_goals try simp only [e, ruK, ruH, show ¬ (116 : Int32) = 110 by decide, show ¬ (116 : Int32) = 103 by decide, if_false, if_true]
      · rw [jup_n _ _ _ (by decide)]; split
        · rw [jup_s, jupd, if_neg (by decide), jup_s, jupd, if_neg (by decide)]
        · rw [jup_s, jupd, if_neg (by decide)]
      · rw [jup_n _ _ _ (by decide)]; split
        · rw [jup_s, jupd, if_neg (by decide), jup_s, jupd, if_pos rfl]
        · rw [jup_s, jupd, if_pos rfl]
      · rw [jup_n _ _ _ (by decide)]; split
        · rw [jup_s, jupd, if_pos rfl]
        · rw [jup_s, jupd, if_neg (by decide)]; exact h3
      · rw [jup_s, jupd, if_neg (by decide)]; split
        · rw [jup_n _ _ _ (by decide), jup_n _ _ _ (by decide)]
        · rw [jup_n _ _ _ (by decide)]
      · rw [jup_s, jupd, if_neg (by decide)]; split
        · rw [jup_n _ _ _ (by decide), jup_n _ _ _ (by decide)]
        · rw [jup_n _ _ _ (by decide)]
      · rw [jup_s, jupd, if_pos rfl]
  · simp only [if_neg c]
    refine ⟨jm_up σ 47 3 (nI p), ?_, fun c h1 h2 => by rw [jup_n _ _ _ h2], by rw [jup_s, jupd, if_neg (by decide)], by rw [jup_s, jupd, if_pos rfl]⟩
    rw [Rule_addCondition_49_47_in, tk, if_neg (fun q => c ⟨q.1, Or.inl q.2⟩), jbi_some, if_pos rfl, tk, if_neg (fun q => c ⟨q.1, Or.inr (Or.inl q.2)⟩), jbi_some, if_pos rfl, tk, if_neg (fun q => c ⟨q.1, Or.inr (Or.inr q.2)⟩), jbi_some, if_pos rfl, hp, Text_failAt_47 _ σ h3, jbv_some]
theorem Rule_loop_49 {n : Nat} {y : Nat → Int32} (hn : n ≤ 30) : ∀ (k p j : Nat) (σ : jm_S), n < p + k → j ≤ p → p ≤ n → tx σ 47 48 n y → σ 47 2 = nI p → σ 47 3 = -1 → ∃ ρ, jv 31 40 [some (.ref 49), some (.ref 47), some (.int 1), some (.int (nI j))] [] σ = some (none, ρ) ∧ (∀ c, c ≠ 49 → c ≠ 47 → ρ c = σ c) ∧ ρ 47 1 = σ 47 1 ∧ ρ 47 3 = (ruF y n k p).1 ∧ ((ruF y n k p).1 = -1 → ρ 49 0 = mnF 103 (ruF y n k p).2 (σ 49 0) ∧ ρ 49 1 = mnF 110 (ruF y n k p).2 (σ 49 1) ∧ ρ 49 2 = mnF 116 (ruF y n k p).2 (σ 49 2)) := by
  intro k
  induction k with
  | zero => intro p j σ h1 h2 h3; omega
  | succ k ih =>
    intro p j σ hk hj hpn ht hp h3
    obtain ⟨τ, e1, e2, e3, e4⟩ := Rule_add_49 hn σ ht hp hpn h3
    have hj30 : ¬ (30 : Int32) < nI j := by
      rw [show (30 : Int32) = nI 30 by decide +kernel, nI_ltI (by decide) (by omega)]; omega
    have tt : tx τ 47 48 n y := ⟨e3.trans ht.1, fun j hj => by rw [e2 48 (by decide) (by decide)]; exact ht.2 j hj⟩
    have run : jv 31 40 [some (.ref 49), some (.ref 47), some (.int 1), some (.int (nI j))] [] σ = jbi (jc 30 [(.ref 47), (.int (124 : Int32))] τ) (fun r2 τ2 => jv 31 40 [some (.ref 49), some (.ref 47), some (.int r2), some (.int (nI (j + 1)))] [] τ2) := by
      rw [Rule_follow_49_47_L40, if_neg (by decide), if_neg hj30, e1, jbv_some, nI_1]
    have stop : ∀ τ', jv 31 40 [some (.ref 49), some (.ref 47), some (.int 0), some (.int (nI (j + 1)))] [] τ' = some (none, τ') := by
      intro τ'
      rw [Rule_follow_49_47_L40, if_pos rfl]
    rw [ruF]
    by_cases c : p < n ∧ ruL (y p)
    · rw [if_pos c]
      rw [if_pos c] at e4
      obtain ⟨f1, f2, f3, f4, f5⟩ := e4
      have hin : (dgF y n (ruK (y p)) (p + 1) 0).2 ≤ n := dgF_in (by omega)
      have hge := (dgF_ge y n (ruK (y p)) (p + 1) 0).1
      generalize dgF y n (ruK (y p)) (p + 1) 0 = r at f1 f2 f3 f4 f5 hin hge ⊢
      by_cases c1 : nbad (p + 1) 1 (ruH (y p)) r
      · rw [if_pos c1] at f2 ⊢
        refine ⟨τ, ?_, e2, e3, f2, fun q => absurd q (nI_ne_m1 (by omega))⟩
        rw [run, Text_goesF_47 _ τ (by rw [f2]; exact nI_ne_m1 (by omega)), jbi_some, stop]
      · rw [if_neg c1] at f2 ⊢
        have gg := Text_goes_47 124 τ tt hn f1 hin f2
        by_cases c2 : r.2 < n
        · rw [if_pos c2] at gg ⊢
          by_cases c3 : y r.2 = 124
          · rw [if_pos c3] at gg ⊢
            obtain ⟨ρ, g1, g2, g3, g4, g5⟩ := ih (r.2 + 1) (j + 1) (jm_up τ 47 2 (nI (r.2 + 1))) (by omega) (by omega) (by omega) ⟨by rw [jup_s, jupd, if_neg (by decide)]; exact tt.1, fun j hj => by rw [jup_n _ _ _ (by decide)]; exact tt.2 j hj⟩ (by rw [jup_s, jupd, if_pos rfl]) (by rw [jup_s, jupd, if_neg (by decide)]; exact f2)
            refine ⟨ρ, ?_, fun c h1 h2 => ?_, ?_, g4, fun q => ?_⟩
            · rw [run, gg, jbi_some, g1]
            · rw [g2 c h1 h2, jup_n _ _ _ h2, e2 c h1 h2]
            · rw [g3, jup_s, jupd, if_neg (by decide), e3]
            · obtain ⟨q0, q1, q2⟩ := g5 q
              rw [jup_n _ _ _ (by decide)] at q0 q1 q2
              refine ⟨?_, ?_, ?_⟩
              · rw [q0, f3, mnF]
              · rw [q1, f4, mnF]
              · rw [q2, f5, mnF]
          · rw [if_neg c3] at gg ⊢
            refine ⟨jm_up τ 47 3 (nI r.2), ?_, fun c h1 h2 => ?_, ?_, ?_, fun q => absurd q (nI_ne_m1 (by omega))⟩
            · rw [run, gg, jbi_some, stop]
            · rw [jup_n _ _ _ h2, e2 c h1 h2]
            · rw [jup_s, jupd, if_neg (by decide), e3]
            · rw [jup_s, jupd, if_pos rfl]
        · rw [if_neg c2] at gg ⊢
          refine ⟨τ, ?_, e2, e3, f2, fun _ => ⟨?_, ?_, ?_⟩⟩
          · rw [run, gg, jbi_some, stop]
          · rw [f3]; rfl
          · rw [f4]; rfl
          · rw [f5]; rfl
    · rw [if_neg c]
      rw [if_neg c] at e4
      refine ⟨τ, ?_, e2, e3, e4, fun q => absurd q (nI_ne_m1 (by omega))⟩
      rw [run, Text_goesF_47 _ τ (by rw [e4]; exact nI_ne_m1 (by omega)), jbi_some, stop]
theorem Rule_follow_49 {n : Nat} {y : Nat → Int32} (hn : n ≤ 30) (σ : jm_S) (ht : tx σ 47 48 n y) : ∃ ρ, jc 31 [.ref 49, .ref 47] σ = some (none, ρ) ∧ (∀ c, c ≠ 49 → c ≠ 47 → ρ c = σ c) ∧ ρ 47 1 = σ 47 1 ∧ ρ 47 3 = (if n = 0 then -1 else (ruF y n (n + 1) 0).1) ∧ ((if n = 0 then -1 else (ruF y n (n + 1) 0).1) = -1 → ρ 49 0 = mnF 103 (if n = 0 then [] else (ruF y n (n + 1) 0).2) 1000 ∧ ρ 49 1 = mnF 110 (if n = 0 then [] else (ruF y n (n + 1) 0).2) 1000 ∧ ρ 49 2 = mnF 116 (if n = 0 then [] else (ruF y n (n + 1) 0).2) 1000) := by
  have r0 : jc 31 [.ref 49, .ref 47] σ = (if nI n ≤ 0 then jv 31 40 [some (.ref 49), some (.ref 47), some (.int (0 : Int32)), some (.int (0 : Int32))] [] (jm_up (jm_up (jm_up (jm_up (jm_up σ 49 0 1000) 49 1 1000) 49 2 1000) 47 2 0) 47 3 (-1)) else jv 31 40 [some (.ref 49), some (.ref 47), some (.int (1 : Int32)), some (.int (0 : Int32))] [] (jm_up (jm_up (jm_up (jm_up (jm_up σ 49 0 1000) 49 1 1000) 49 2 1000) 47 2 0) 47 3 (-1))) := by
    rw [Rule_follow_49_47_in, Text_rewind_47_in, jbv_some]
    congr 1
    rw [jup_s, jupd, if_neg (by decide), jup_s, jupd, if_neg (by decide), jup_n _ _ _ (by decide), jup_n _ _ _ (by decide), jup_n _ _ _ (by decide), ht.1]
  have w1 : ∀ c, c ≠ 49 → c ≠ 47 → (jm_up (jm_up (jm_up (jm_up (jm_up σ 49 0 1000) 49 1 1000) 49 2 1000) 47 2 0) 47 3 (-1)) c = σ c := by
    intro c h1 h2
    rw [jup_n _ _ _ h2, jup_n _ _ _ h2, jup_n _ _ _ h1, jup_n _ _ _ h1, jup_n _ _ _ h1]
  have wt : ∀ i, i ≠ 2 → i ≠ 3 → (jm_up (jm_up (jm_up (jm_up (jm_up σ 49 0 1000) 49 1 1000) 49 2 1000) 47 2 0) 47 3 (-1)) 47 i = σ 47 i := by
    intro i h1 h2
    rw [jup_s, jupd, if_neg h2, jup_s, jupd, if_neg h1, jup_n _ _ _ (by decide), jup_n _ _ _ (by decide), jup_n _ _ _ (by decide)]
  have wa : ∀ i, (jm_up (jm_up (jm_up (jm_up (jm_up σ 49 0 1000) 49 1 1000) 49 2 1000) 47 2 0) 47 3 (-1)) 49 i = if i = 2 then 1000 else if i = 1 then 1000 else if i = 0 then 1000 else σ 49 i := by
    intro i
    rw [jup_n _ _ _ (by decide), jup_n _ _ _ (by decide), jup_s, jupd, jup_s, jupd, jup_s, jupd]
  by_cases c : n = 0
  · simp only [if_pos c]
    refine ⟨_, r0.trans ((if_pos (by rw [c]; decide +kernel)).trans (by rw [Rule_follow_49_47_L40, if_pos rfl])), w1, wt 1 (by decide) (by decide), by rw [jup_s, jupd, if_pos rfl], fun _ => ⟨?_, ?_, ?_⟩⟩
    · rw [wa]; rfl
    · rw [wa]; rfl
    · rw [wa]; rfl
  · simp only [if_neg c]
    obtain ⟨ρ, g1, g2, g3, g4, g5⟩ := Rule_loop_49 (y := y) hn (n + 1) 0 0 _ (by omega) (by omega) (by omega) ⟨by rw [wt 1 (by decide) (by decide)]; exact ht.1, fun j hj => by rw [w1 48 (by decide) (by decide)]; exact ht.2 j hj⟩ (show (jm_up (jm_up (jm_up (jm_up (jm_up σ 49 0 1000) 49 1 1000) 49 2 1000) 47 2 0) 47 3 (-1)) 47 2 = nI 0 by rw [jup_s, jupd, if_neg (by decide), jup_s, jupd, if_pos rfl]; decide +kernel) (by rw [jup_s, jupd, if_pos rfl])
    rw [nI_0] at g1
    refine ⟨ρ, r0.trans ((if_neg (nI_nle (by omega) (by omega))).trans g1), fun c h1 h2 => (g2 c h1 h2).trans (w1 c h1 h2), g3.trans (wt 1 (by decide) (by decide)), g4, fun q => ?_⟩
    have g6 := g5 q
    rw [wa, wa, wa] at g6
    exact g6
/-- one condition: from where it is read, what it is -/
theorem Rule_add_52 {n p : Nat} {y : Nat → Int32} (hn : n ≤ 30) (σ : jm_S) (ht : tx σ 50 51 n y) (hp : σ 50 2 = nI p) (hpn : p ≤ n) (h3 : σ 50 3 = -1) : ∃ ρ, jc 32 [.ref 52, .ref 50] σ = some (none, ρ) ∧ (∀ c, c ≠ 52 → c ≠ 50 → ρ c = σ c) ∧ ρ 50 1 = σ 50 1 ∧
    (if p < n ∧ ruL (y p) then ρ 50 2 = nI (dgF y n (ruK (y p)) (p + 1) 0).2 ∧ ρ 50 3 = (if nbad (p + 1) 1 (ruH (y p)) (dgF y n (ruK (y p)) (p + 1) 0) then nI (p + 1) else -1) ∧ ρ 52 0 = (if y p = 103 then (if (dgF y n (ruK (y p)) (p + 1) 0).1 < σ 52 0 then (dgF y n (ruK (y p)) (p + 1) 0).1 else σ 52 0) else σ 52 0) ∧ ρ 52 1 = (if y p = 110 then (if (dgF y n (ruK (y p)) (p + 1) 0).1 < σ 52 1 then (dgF y n (ruK (y p)) (p + 1) 0).1 else σ 52 1) else σ 52 1) ∧ ρ 52 2 = (if y p = 116 then (if (dgF y n (ruK (y p)) (p + 1) 0).1 < σ 52 2 then (dgF y n (ruK (y p)) (p + 1) 0).1 else σ 52 2) else σ 52 2)
     else ρ 50 3 = nI p) := by
  have key : ∀ (K : Nat) (H : Int32), K ≤ 3 → p < n → jc 26 [.ref 50, .int (nI K), .int 1, .int H] (jm_up σ 50 2 (nI (p + 1))) = some (some (.int (dgF y n K (p + 1) 0).1), if nbad (p + 1) 1 H (dgF y n K (p + 1) 0) then jm_up (jm_up σ 50 2 (nI (dgF y n K (p + 1) 0).2)) 50 3 (nI (p + 1)) else jm_up σ 50 2 (nI (dgF y n K (p + 1) 0).2)) := by
    intro K H hK hlt
    rw [Text_number_50 (n := n) (s := p + 1) (y := y) hn hK 1 H _ (by omega) ⟨by rw [jup_s, jupd, if_neg (by decide)]; exact ht.1, fun j hj => by rw [jup_n _ _ _ (by decide)]; exact ht.2 j hj⟩ (by rw [jup_s, jupd, if_pos rfl]) (by rw [jup_s, jupd, if_neg (by decide)]; exact h3), jup_up]
  have k2 := key 2 99 (by omega)
  have k3 := key 3 200 (by omega)
  rw [show nI 2 = 2 by decide +kernel] at k2
  rw [show nI 3 = 3 by decide +kernel] at k3
  have tk := fun x => Text_takes_50 x σ ht (show n ≤ 30 from hn) hp hpn h3
  by_cases c : p < n ∧ ruL (y p)
  · simp only [if_pos c]
    obtain ⟨c1, c2⟩ := c
    rcases c2 with e | e | e
    · have hR : jc 32 [.ref 52, .ref 50] σ = some (none, jm_up (if nbad (p + 1) 1 99 (dgF y n 2 (p + 1) 0) then jm_up (jm_up σ 50 2 (nI (dgF y n 2 (p + 1) 0).2)) 50 3 (nI (p + 1)) else jm_up σ 50 2 (nI (dgF y n 2 (p + 1) 0).2)) 52 0 (if (dgF y n 2 (p + 1) 0).1 < σ 52 0 then (dgF y n 2 (p + 1) 0).1 else σ 52 0)) := by
        rw [Rule_addCondition_52_50_in, tk, if_pos ⟨c1, e⟩, jbi_some, if_neg (by decide), k2 c1, jbi_some, jup_n _ _ _ (by decide)]
      refine ⟨_, hR, fun c h1 h2 => ?_, ?_, ?_, ?_, ?_, ?_, ?_⟩
      · rw [jup_n _ _ _ h1]; split
        · rw [jup_n _ _ _ h2, jup_n _ _ _ h2]
        · rw [jup_n _ _ _ h2]
      all_goals try simp only [e, ruK, ruH, show ¬ (103 : Int32) = 116 by decide, show ¬ (103 : Int32) = 110 by decide, if_false, if_true]
      · rw [jup_n _ _ _ (by decide)]; split
        · rw [jup_s, jupd, if_neg (by decide), jup_s, jupd, if_neg (by decide)]
        · rw [jup_s, jupd, if_neg (by decide)]
      · rw [jup_n _ _ _ (by decide)]; split
        · rw [jup_s, jupd, if_neg (by decide), jup_s, jupd, if_pos rfl]
        · rw [jup_s, jupd, if_pos rfl]
      · rw [jup_n _ _ _ (by decide)]; split
        · rw [jup_s, jupd, if_pos rfl]
        · rw [jup_s, jupd, if_neg (by decide)]; exact h3
      · rw [jup_s, jupd, if_pos rfl]
      · rw [jup_s, jupd, if_neg (by decide)]; split
        · rw [jup_n _ _ _ (by decide), jup_n _ _ _ (by decide)]
        · rw [jup_n _ _ _ (by decide)]
      · rw [jup_s, jupd, if_neg (by decide)]; split
        · rw [jup_n _ _ _ (by decide), jup_n _ _ _ (by decide)]
        · rw [jup_n _ _ _ (by decide)]
    · have hR : jc 32 [.ref 52, .ref 50] σ = some (none, jm_up (if nbad (p + 1) 1 99 (dgF y n 2 (p + 1) 0) then jm_up (jm_up σ 50 2 (nI (dgF y n 2 (p + 1) 0).2)) 50 3 (nI (p + 1)) else jm_up σ 50 2 (nI (dgF y n 2 (p + 1) 0).2)) 52 1 (if (dgF y n 2 (p + 1) 0).1 < σ 52 1 then (dgF y n 2 (p + 1) 0).1 else σ 52 1)) := by
        rw [Rule_addCondition_52_50_in, tk, if_neg (fun q => absurd (e.symm.trans q.2) (by decide)), jbi_some, if_pos rfl, tk, if_pos ⟨c1, e⟩, jbi_some, if_neg (by decide), k2 c1, jbi_some, jup_n _ _ _ (by decide)]
      refine ⟨_, hR, fun c h1 h2 => ?_, ?_, ?_, ?_, ?_, ?_, ?_⟩
      · rw [jup_n _ _ _ h1]; split
        · rw [jup_n _ _ _ h2, jup_n _ _ _ h2]
        · rw [jup_n _ _ _ h2]
      all_goals try simp only [e, ruK, ruH, show ¬ (110 : Int32) = 116 by decide, show ¬ (110 : Int32) = 103 by decide, if_false, if_true]
      · rw [jup_n _ _ _ (by decide)]; split
        · rw [jup_s, jupd, if_neg (by decide), jup_s, jupd, if_neg (by decide)]
        · rw [jup_s, jupd, if_neg (by decide)]
      · rw [jup_n _ _ _ (by decide)]; split
        · rw [jup_s, jupd, if_neg (by decide), jup_s, jupd, if_pos rfl]
        · rw [jup_s, jupd, if_pos rfl]
      · rw [jup_n _ _ _ (by decide)]; split
        · rw [jup_s, jupd, if_pos rfl]
        · rw [jup_s, jupd, if_neg (by decide)]; exact h3
      · rw [jup_s, jupd, if_neg (by decide)]; split
        · rw [jup_n _ _ _ (by decide), jup_n _ _ _ (by decide)]
        · rw [jup_n _ _ _ (by decide)]
      · rw [jup_s, jupd, if_pos rfl]
      · rw [jup_s, jupd, if_neg (by decide)]; split
        · rw [jup_n _ _ _ (by decide), jup_n _ _ _ (by decide)]
        · rw [jup_n _ _ _ (by decide)]
    · have hR : jc 32 [.ref 52, .ref 50] σ = some (none, jm_up (if nbad (p + 1) 1 200 (dgF y n 3 (p + 1) 0) then jm_up (jm_up σ 50 2 (nI (dgF y n 3 (p + 1) 0).2)) 50 3 (nI (p + 1)) else jm_up σ 50 2 (nI (dgF y n 3 (p + 1) 0).2)) 52 2 (if (dgF y n 3 (p + 1) 0).1 < σ 52 2 then (dgF y n 3 (p + 1) 0).1 else σ 52 2)) := by
        rw [Rule_addCondition_52_50_in, tk, if_neg (fun q => absurd (e.symm.trans q.2) (by decide)), jbi_some, if_pos rfl, tk, if_neg (fun q => absurd (e.symm.trans q.2) (by decide)), jbi_some, if_pos rfl, tk, if_pos ⟨c1, e⟩, jbi_some, if_neg (by decide), k3 c1, jbi_some, jup_n _ _ _ (by decide)]
      refine ⟨_, hR, fun c h1 h2 => ?_, ?_, ?_, ?_, ?_, ?_, ?_⟩
      · rw [jup_n _ _ _ h1]; split
        · rw [jup_n _ _ _ h2, jup_n _ _ _ h2]
        · rw [jup_n _ _ _ h2]
      all_goals try simp only [e, ruK, ruH, show ¬ (116 : Int32) = 110 by decide, show ¬ (116 : Int32) = 103 by decide, if_false, if_true]
      · rw [jup_n _ _ _ (by decide)]; split
        · rw [jup_s, jupd, if_neg (by decide), jup_s, jupd, if_neg (by decide)]
        · rw [jup_s, jupd, if_neg (by decide)]
      · rw [jup_n _ _ _ (by decide)]; split
        · rw [jup_s, jupd, if_neg (by decide), jup_s, jupd, if_pos rfl]
        · rw [jup_s, jupd, if_pos rfl]
      · rw [jup_n _ _ _ (by decide)]; split
        · rw [jup_s, jupd, if_pos rfl]
        · rw [jup_s, jupd, if_neg (by decide)]; exact h3
      · rw [jup_s, jupd, if_neg (by decide)]; split
        · rw [jup_n _ _ _ (by decide), jup_n _ _ _ (by decide)]
        · rw [jup_n _ _ _ (by decide)]
      · rw [jup_s, jupd, if_neg (by decide)]; split
        · rw [jup_n _ _ _ (by decide), jup_n _ _ _ (by decide)]
        · rw [jup_n _ _ _ (by decide)]
      · rw [jup_s, jupd, if_pos rfl]
  · simp only [if_neg c]
    refine ⟨jm_up σ 50 3 (nI p), ?_, fun c h1 h2 => by rw [jup_n _ _ _ h2], by rw [jup_s, jupd, if_neg (by decide)], by rw [jup_s, jupd, if_pos rfl]⟩
    rw [Rule_addCondition_52_50_in, tk, if_neg (fun q => c ⟨q.1, Or.inl q.2⟩), jbi_some, if_pos rfl, tk, if_neg (fun q => c ⟨q.1, Or.inr (Or.inl q.2)⟩), jbi_some, if_pos rfl, tk, if_neg (fun q => c ⟨q.1, Or.inr (Or.inr q.2)⟩), jbi_some, if_pos rfl, hp, Text_failAt_50 _ σ h3, jbv_some]
theorem Rule_loop_52 {n : Nat} {y : Nat → Int32} (hn : n ≤ 30) : ∀ (k p j : Nat) (σ : jm_S), n < p + k → j ≤ p → p ≤ n → tx σ 50 51 n y → σ 50 2 = nI p → σ 50 3 = -1 → ∃ ρ, jv 31 40 [some (.ref 52), some (.ref 50), some (.int 1), some (.int (nI j))] [] σ = some (none, ρ) ∧ (∀ c, c ≠ 52 → c ≠ 50 → ρ c = σ c) ∧ ρ 50 1 = σ 50 1 ∧ ρ 50 3 = (ruF y n k p).1 ∧ ((ruF y n k p).1 = -1 → ρ 52 0 = mnF 103 (ruF y n k p).2 (σ 52 0) ∧ ρ 52 1 = mnF 110 (ruF y n k p).2 (σ 52 1) ∧ ρ 52 2 = mnF 116 (ruF y n k p).2 (σ 52 2)) := by
  intro k
  induction k with
  | zero => intro p j σ h1 h2 h3; omega
  | succ k ih =>
    intro p j σ hk hj hpn ht hp h3
    obtain ⟨τ, e1, e2, e3, e4⟩ := Rule_add_52 hn σ ht hp hpn h3
    have hj30 : ¬ (30 : Int32) < nI j := by
      rw [show (30 : Int32) = nI 30 by decide +kernel, nI_ltI (by decide) (by omega)]; omega
    have tt : tx τ 50 51 n y := ⟨e3.trans ht.1, fun j hj => by rw [e2 51 (by decide) (by decide)]; exact ht.2 j hj⟩
    have run : jv 31 40 [some (.ref 52), some (.ref 50), some (.int 1), some (.int (nI j))] [] σ = jbi (jc 30 [(.ref 50), (.int (124 : Int32))] τ) (fun r2 τ2 => jv 31 40 [some (.ref 52), some (.ref 50), some (.int r2), some (.int (nI (j + 1)))] [] τ2) := by
      rw [Rule_follow_52_50_L40, if_neg (by decide), if_neg hj30, e1, jbv_some, nI_1]
    have stop : ∀ τ', jv 31 40 [some (.ref 52), some (.ref 50), some (.int 0), some (.int (nI (j + 1)))] [] τ' = some (none, τ') := by
      intro τ'
      rw [Rule_follow_52_50_L40, if_pos rfl]
    rw [ruF]
    by_cases c : p < n ∧ ruL (y p)
    · rw [if_pos c]
      rw [if_pos c] at e4
      obtain ⟨f1, f2, f3, f4, f5⟩ := e4
      have hin : (dgF y n (ruK (y p)) (p + 1) 0).2 ≤ n := dgF_in (by omega)
      have hge := (dgF_ge y n (ruK (y p)) (p + 1) 0).1
      generalize dgF y n (ruK (y p)) (p + 1) 0 = r at f1 f2 f3 f4 f5 hin hge ⊢
      by_cases c1 : nbad (p + 1) 1 (ruH (y p)) r
      · rw [if_pos c1] at f2 ⊢
        refine ⟨τ, ?_, e2, e3, f2, fun q => absurd q (nI_ne_m1 (by omega))⟩
        rw [run, Text_goesF_50 _ τ (by rw [f2]; exact nI_ne_m1 (by omega)), jbi_some, stop]
      · rw [if_neg c1] at f2 ⊢
        have gg := Text_goes_50 124 τ tt hn f1 hin f2
        by_cases c2 : r.2 < n
        · rw [if_pos c2] at gg ⊢
          by_cases c3 : y r.2 = 124
          · rw [if_pos c3] at gg ⊢
            obtain ⟨ρ, g1, g2, g3, g4, g5⟩ := ih (r.2 + 1) (j + 1) (jm_up τ 50 2 (nI (r.2 + 1))) (by omega) (by omega) (by omega) ⟨by rw [jup_s, jupd, if_neg (by decide)]; exact tt.1, fun j hj => by rw [jup_n _ _ _ (by decide)]; exact tt.2 j hj⟩ (by rw [jup_s, jupd, if_pos rfl]) (by rw [jup_s, jupd, if_neg (by decide)]; exact f2)
            refine ⟨ρ, ?_, fun c h1 h2 => ?_, ?_, g4, fun q => ?_⟩
            · rw [run, gg, jbi_some, g1]
            · rw [g2 c h1 h2, jup_n _ _ _ h2, e2 c h1 h2]
            · rw [g3, jup_s, jupd, if_neg (by decide), e3]
            · obtain ⟨q0, q1, q2⟩ := g5 q
              rw [jup_n _ _ _ (by decide)] at q0 q1 q2
              refine ⟨?_, ?_, ?_⟩
              · rw [q0, f3, mnF]
              · rw [q1, f4, mnF]
              · rw [q2, f5, mnF]
          · rw [if_neg c3] at gg ⊢
            refine ⟨jm_up τ 50 3 (nI r.2), ?_, fun c h1 h2 => ?_, ?_, ?_, fun q => absurd q (nI_ne_m1 (by omega))⟩
            · rw [run, gg, jbi_some, stop]
            · rw [jup_n _ _ _ h2, e2 c h1 h2]
            · rw [jup_s, jupd, if_neg (by decide), e3]
            · rw [jup_s, jupd, if_pos rfl]
        · rw [if_neg c2] at gg ⊢
          refine ⟨τ, ?_, e2, e3, f2, fun _ => ⟨?_, ?_, ?_⟩⟩
          · rw [run, gg, jbi_some, stop]
          · rw [f3]; rfl
          · rw [f4]; rfl
          · rw [f5]; rfl
    · rw [if_neg c]
      rw [if_neg c] at e4
      refine ⟨τ, ?_, e2, e3, e4, fun q => absurd q (nI_ne_m1 (by omega))⟩
      rw [run, Text_goesF_50 _ τ (by rw [e4]; exact nI_ne_m1 (by omega)), jbi_some, stop]
theorem Rule_follow_52 {n : Nat} {y : Nat → Int32} (hn : n ≤ 30) (σ : jm_S) (ht : tx σ 50 51 n y) : ∃ ρ, jc 31 [.ref 52, .ref 50] σ = some (none, ρ) ∧ (∀ c, c ≠ 52 → c ≠ 50 → ρ c = σ c) ∧ ρ 50 1 = σ 50 1 ∧ ρ 50 3 = (if n = 0 then -1 else (ruF y n (n + 1) 0).1) ∧ ((if n = 0 then -1 else (ruF y n (n + 1) 0).1) = -1 → ρ 52 0 = mnF 103 (if n = 0 then [] else (ruF y n (n + 1) 0).2) 1000 ∧ ρ 52 1 = mnF 110 (if n = 0 then [] else (ruF y n (n + 1) 0).2) 1000 ∧ ρ 52 2 = mnF 116 (if n = 0 then [] else (ruF y n (n + 1) 0).2) 1000) := by
  have r0 : jc 31 [.ref 52, .ref 50] σ = (if nI n ≤ 0 then jv 31 40 [some (.ref 52), some (.ref 50), some (.int (0 : Int32)), some (.int (0 : Int32))] [] (jm_up (jm_up (jm_up (jm_up (jm_up σ 52 0 1000) 52 1 1000) 52 2 1000) 50 2 0) 50 3 (-1)) else jv 31 40 [some (.ref 52), some (.ref 50), some (.int (1 : Int32)), some (.int (0 : Int32))] [] (jm_up (jm_up (jm_up (jm_up (jm_up σ 52 0 1000) 52 1 1000) 52 2 1000) 50 2 0) 50 3 (-1))) := by
    rw [Rule_follow_52_50_in, Text_rewind_50_in, jbv_some]
    congr 1
    rw [jup_s, jupd, if_neg (by decide), jup_s, jupd, if_neg (by decide), jup_n _ _ _ (by decide), jup_n _ _ _ (by decide), jup_n _ _ _ (by decide), ht.1]
  have w1 : ∀ c, c ≠ 52 → c ≠ 50 → (jm_up (jm_up (jm_up (jm_up (jm_up σ 52 0 1000) 52 1 1000) 52 2 1000) 50 2 0) 50 3 (-1)) c = σ c := by
    intro c h1 h2
    rw [jup_n _ _ _ h2, jup_n _ _ _ h2, jup_n _ _ _ h1, jup_n _ _ _ h1, jup_n _ _ _ h1]
  have wt : ∀ i, i ≠ 2 → i ≠ 3 → (jm_up (jm_up (jm_up (jm_up (jm_up σ 52 0 1000) 52 1 1000) 52 2 1000) 50 2 0) 50 3 (-1)) 50 i = σ 50 i := by
    intro i h1 h2
    rw [jup_s, jupd, if_neg h2, jup_s, jupd, if_neg h1, jup_n _ _ _ (by decide), jup_n _ _ _ (by decide), jup_n _ _ _ (by decide)]
  have wa : ∀ i, (jm_up (jm_up (jm_up (jm_up (jm_up σ 52 0 1000) 52 1 1000) 52 2 1000) 50 2 0) 50 3 (-1)) 52 i = if i = 2 then 1000 else if i = 1 then 1000 else if i = 0 then 1000 else σ 52 i := by
    intro i
    rw [jup_n _ _ _ (by decide), jup_n _ _ _ (by decide), jup_s, jupd, jup_s, jupd, jup_s, jupd]
  by_cases c : n = 0
  · simp only [if_pos c]
    refine ⟨_, r0.trans ((if_pos (by rw [c]; decide +kernel)).trans (by rw [Rule_follow_52_50_L40, if_pos rfl])), w1, wt 1 (by decide) (by decide), by rw [jup_s, jupd, if_pos rfl], fun _ => ⟨?_, ?_, ?_⟩⟩
    · rw [wa]; rfl
    · rw [wa]; rfl
    · rw [wa]; rfl
  · simp only [if_neg c]
    obtain ⟨ρ, g1, g2, g3, g4, g5⟩ := Rule_loop_52 (y := y) hn (n + 1) 0 0 _ (by omega) (by omega) (by omega) ⟨by rw [wt 1 (by decide) (by decide)]; exact ht.1, fun j hj => by rw [w1 51 (by decide) (by decide)]; exact ht.2 j hj⟩ (show (jm_up (jm_up (jm_up (jm_up (jm_up σ 52 0 1000) 52 1 1000) 52 2 1000) 50 2 0) 50 3 (-1)) 50 2 = nI 0 by rw [jup_s, jupd, if_neg (by decide), jup_s, jupd, if_pos rfl]; decide +kernel) (by rw [jup_s, jupd, if_pos rfl])
    rw [nI_0] at g1
    refine ⟨ρ, r0.trans ((if_neg (nI_nle (by omega) (by omega))).trans g1), fun c h1 h2 => (g2 c h1 h2).trans (w1 c h1 h2), g3.trans (wt 1 (by decide) (by decide)), g4, fun q => ?_⟩
    have g6 := g5 q
    rw [wa, wa, wa] at g6
    exact g6
