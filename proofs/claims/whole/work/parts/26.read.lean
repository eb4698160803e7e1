/-! ===== read ===== -/
def rdF (m : Nat) (it : Nat → Int32) : Nat → Nat → Nat → Nat
  | 0, _, q => q
  | k + 1, G, q => if 4 * q + 4 ≤ m ∧ G < 12 ∧ ¬ jBad (it (4 * q)) (it (4 * q + 1)) (it (4 * q + 2)) (it (4 * q + 3)) then rdF m it k (G + 1) (q + 1) else q
theorem rdF_ge (m : Nat) (it : Nat → Int32) : ∀ k G q, q ≤ rdF m it k G q := by
  intro k
  induction k with
  | zero => intro G q; exact Nat.le_refl q
  | succ k ih =>
    intro G q
    rw [rdF]
    split
    · exact Nat.le_trans (by omega) (ih (G + 1) (q + 1))
    · exact Nat.le_refl q
theorem rdF_ok (m : Nat) (it : Nat → Int32) : ∀ k G q, G ≤ 12 → G + (rdF m it k G q - q) ≤ 12 ∧ ∀ i, q ≤ i → i < rdF m it k G q → 4 * i + 4 ≤ m ∧ ¬ jBad (it (4 * i)) (it (4 * i + 1)) (it (4 * i + 2)) (it (4 * i + 3)) := by
  intro k
  induction k with
  | zero => intro G q hG; rw [rdF]; exact ⟨by omega, fun i a b => by omega⟩
  | succ k ih =>
    intro G q hG
    rw [rdF]
    split
    · next h =>
      obtain ⟨a, b⟩ := ih (G + 1) (q + 1) (by omega)
      have := rdF_ge m it k (G + 1) (q + 1)
      refine ⟨by omega, fun i h1 h2 => ?_⟩
      by_cases e : i = q
      · subst e; exact ⟨h.1, h.2.2⟩
      · exact b i (by omega) h2
    · exact ⟨by omega, fun i a b => by omega⟩
def rdP (σ ρ : jm_S) (a b c : Nat) (G n q : Nat) (p : Int32) (it : Nat → Int32) : Prop := (∀ j, ρ a j = if G ≤ j ∧ j < G + n then p else σ a j) ∧ (∀ j, ρ b j = if 4 * G ≤ j ∧ j < 4 * (G + n) then it (4 * q + (j - 4 * G)) else σ b j)
theorem rdP_0 {σ : jm_S} {a b c G q : Nat} {p : Int32} {it : Nat → Int32} : rdP σ σ a b c G 0 q p it := ⟨fun j => by rw [if_neg (by omega)], fun j => by rw [if_neg (by omega)]⟩
theorem rdP_s {σ τ ρ : jm_S} {a b c G n q : Nat} {p : Int32} {it : Nat → Int32} (ha : τ a = upd (σ a) G p) (hb : τ b = upd (upd (upd (upd (σ b) (4 * G) (it (4 * q))) (4 * G + 1) (it (4 * q + 1))) (4 * G + 2) (it (4 * q + 2))) (4 * G + 3) (it (4 * q + 3))) (h : rdP τ ρ a b c (G + 1) n (q + 1) p it) : rdP σ ρ a b c G (n + 1) q p it := by
  refine ⟨fun j => ?_, fun j => ?_⟩
  · rw [h.1 j, ha, jupd]
    by_cases e : j = G
    · subst e; rw [if_neg (by omega), if_pos rfl, if_pos (by omega)]
    · by_cases e2 : G ≤ j ∧ j < G + (n + 1)
      · rw [if_pos (by omega), if_pos e2]
      · rw [if_neg (by omega), if_neg e, if_neg e2]
  · rw [h.2 j, hb]
    simp only [jupd]
    by_cases e3 : j = 4 * G + 3
    · rw [if_neg (by omega), if_pos e3, if_pos (by omega)]; congr 1; omega
    · by_cases e2 : j = 4 * G + 2
      · rw [if_neg (by omega), if_neg e3, if_pos e2, if_pos (by omega)]; congr 1; omega
      · by_cases e1 : j = 4 * G + 1
        · rw [if_neg (by omega), if_neg e3, if_neg e2, if_pos e1, if_pos (by omega)]; congr 1; omega
        · by_cases e0 : j = 4 * G
          · rw [if_neg (by omega), if_neg e3, if_neg e2, if_neg e1, if_pos e0, if_pos (by omega)]; congr 1; omega
          · rw [if_neg e3, if_neg e2, if_neg e1, if_neg e0]
            by_cases e : 4 * G ≤ j ∧ j < 4 * (G + (n + 1))
            · rw [if_pos (by omega), if_pos e]; congr 1; omega
            · rw [if_neg (by omega), if_neg e]
theorem jadd0 (g : Nat) : nI g + 0 = nI g := by rw [show (0 : Int32) = nI 0 by decide +kernel, nI_add]; rfl
theorem jadd4 (g : Nat) : nI g + 4 = nI (g + 4) := by rw [show (4 : Int32) = nI 4 by decide +kernel, nI_add]
theorem P_read_loop0 {m : Nat} (hm : m ≤ 60) (x p : Int32) (it : Nat → Int32) : ∀ (d G q : Nat) (u : Option Value) (σ : jm_S), q + d = 15 → σ 1 2 = nI G → G ≤ 12 → σ 53 2 = nI m → (∀ j, j < m → σ 54 j = it j) → ∃ ρ, jv 7 47 [some (.ref 0), some (.int x), some (.int p), some (.ref 53), some (.int (nI q)), some (.int (nI (4 * q))), u] [] σ = some (some (.int (nI (rdF m it d G q))), ρ) ∧ ρ 1 2 = nI (G + (rdF m it d G q - q)) ∧ rdP σ ρ 2 3 0 G (rdF m it d G q - q) q p it ∧ ∀ c, c ∉ [1, 2, 3] → ρ c = σ c := by
  intro d
  induction d with
  | zero =>
    intro G q u σ hd h1 hG h2 hit
    refine ⟨σ, ?_, ?_, ?_, fun c _ => rfl⟩
    · rw [P_read_L47, h2, jadd4, if_pos (nI_lt (by omega) (by omega))]; rfl
    · rw [rdF, Nat.sub_self]; exact h1
    · rw [rdF, Nat.sub_self]; exact rdP_0
  | succ d ih =>
    intro G q u σ hd h1 hG h2 hit
    rw [rdF]
    by_cases c1 : 4 * q + 4 ≤ m
    · by_cases c2 : G < 12
      · have hP : jv 7 47 [some (.ref 0), some (.int x), some (.int p), some (.ref 53), some (.int (nI q)), some (.int (nI (4 * q))), u] [] σ = if jBad (it (4 * q)) (it (4 * q + 1)) (it (4 * q + 2)) (it (4 * q + 3)) then some (some (.int (nI q)), σ) else jv 7 47 [some (.ref 0), some (.int x), some (.int p), some (.ref 53), some (.int (nI (q + 1))), some (.int (nI (4 * q + 4))), some (.ref 54)] [] (jm_up (jm_up (jm_up (jm_up (jm_up (jm_up σ 1 2 (nI (G + 1))) 2 G p) 3 (4 * G) (it (4 * q))) 3 (4 * G + 1) (it (4 * q + 1))) 3 (4 * G + 2) (it (4 * q + 2))) 3 (4 * G + 3) (it (4 * q + 3))) := by
          rw [P_read_L47, h2, jadd4, if_neg (nI_nlt c1 (by omega)), Grains_isFull hG σ h1, jbi_some, if_pos c2, if_neg (by decide)]
          simp only [jadd0, jadd1, jadd2, jadd3, nI_clamp (show 4 * q < 2 ^ 31 by omega), nI_clamp (show 4 * q + 1 < 2 ^ 31 by omega), nI_clamp (show 4 * q + 2 < 2 ^ 31 by omega), nI_clamp (show 4 * q + 3 < 2 ^ 31 by omega), jbad2 (show 4 * q < 60 by omega) (by decide), jbad2 (show 4 * q + 1 < 60 by omega) (by decide), jbad2 (show 4 * q + 2 < 60 by omega) (by decide), jbad2 (show 4 * q + 3 < 60 by omega) (by decide), if_false, hit (4 * q) (by omega), hit (4 * q + 1) (by omega), hit (4 * q + 2) (by omega), hit (4 * q + 3) (by omega), P_mayAllBe, jbi_some]
          by_cases hb : jBad (it (4 * q)) (it (4 * q + 1)) (it (4 * q + 2)) (it (4 * q + 3))
          · rw [if_pos hb, if_neg (by decide), if_pos hb]
          · rw [if_neg hb, if_pos (by decide), if_neg hb]
            simp only [hit (4 * q) (by omega), hit (4 * q + 1) (by omega), hit (4 * q + 2) (by omega), hit (4 * q + 3) (by omega), Grains_add c2 _ _ _ _ _ σ h1, jbi_some]
        by_cases hb : jBad (it (4 * q)) (it (4 * q + 1)) (it (4 * q + 2)) (it (4 * q + 3))
        · rw [if_neg (fun z => z.2.2 hb), Nat.sub_self]
          exact ⟨σ, hP.trans (if_pos hb), h1, rdP_0, fun c _ => rfl⟩
        · rw [if_neg hb] at hP
          rw [if_pos ⟨c1, c2, hb⟩]
          obtain ⟨ρ, e1, e2, e3, e4⟩ := ih (G + 1) (q + 1) (some (.ref 54)) (jm_up (jm_up (jm_up (jm_up (jm_up (jm_up σ 1 2 (nI (G + 1))) 2 G p) 3 (4 * G) (it (4 * q))) 3 (4 * G + 1) (it (4 * q + 1))) 3 (4 * G + 2) (it (4 * q + 2))) 3 (4 * G + 3) (it (4 * q + 3))) (by omega) (by (repeat (first | rw [jup_s] | rw [jrow_s] | rw [jup_n _ _ _ (by omega)] | rw [jrow_n _ _ (by omega)])); rw [jupd, if_pos rfl]) (by omega) (by (repeat (first | rw [jup_s] | rw [jrow_s] | rw [jup_n _ _ _ (by omega)] | rw [jrow_n _ _ (by omega)])); exact h2) (fun j hj => by (repeat (first | rw [jup_s] | rw [jrow_s] | rw [jup_n _ _ _ (by omega)] | rw [jrow_n _ _ (by omega)])); exact hit j hj)
          have hge := rdF_ge m it d (G + 1) (q + 1)
          refine ⟨ρ, hP.trans e1, ?_, ?_, fun c hc => ?_⟩
          · rw [e2]; congr 1; omega
          · have := rdP_s (σ := σ) (c := 0) (p := p) (it := it) (by (repeat (first | rw [jup_s] | rw [jrow_s] | rw [jup_n _ _ _ (by omega)] | rw [jrow_n _ _ (by omega)]))) (by (repeat (first | rw [jup_s] | rw [jrow_s] | rw [jup_n _ _ _ (by omega)] | rw [jrow_n _ _ (by omega)]))) e3
            rw [show rdF m it d (G + 1) (q + 1) - (q + 1) + 1 = rdF m it d (G + 1) (q + 1) - q by omega] at this
            exact this
          · rw [e4 c hc]
            simp only [List.mem_cons, List.not_mem_nil, or_false, not_or] at hc
            (repeat (first | rw [jup_s] | rw [jrow_s] | rw [jup_n _ _ _ (by omega)] | rw [jrow_n _ _ (by omega)]))
      · rw [if_neg (fun z => c2 z.2.1), Nat.sub_self]
        refine ⟨σ, ?_, h1, rdP_0, fun c _ => rfl⟩
        rw [P_read_L47, h2, jadd4, if_neg (nI_nlt c1 (by omega)), Grains_isFull hG σ h1, jbi_some, if_neg c2, if_pos (by decide)]
    · rw [if_neg (fun z => c1 z.1), Nat.sub_self]
      refine ⟨σ, ?_, h1, rdP_0, fun c _ => rfl⟩
      rw [P_read_L47, h2, jadd4, if_pos (nI_lt (by omega) (by omega))]
theorem P_read_loop1 {m : Nat} (hm : m ≤ 60) (x p : Int32) (it : Nat → Int32) : ∀ (d G q : Nat) (u : Option Value) (σ : jm_S), q + d = 15 → σ 1 2 = nI G → G ≤ 12 → σ 55 2 = nI m → (∀ j, j < m → σ 56 j = it j) → ∃ ρ, jv 7 47 [some (.ref 0), some (.int x), some (.int p), some (.ref 55), some (.int (nI q)), some (.int (nI (4 * q))), u] [] σ = some (some (.int (nI (rdF m it d G q))), ρ) ∧ ρ 1 2 = nI (G + (rdF m it d G q - q)) ∧ rdP σ ρ 2 3 0 G (rdF m it d G q - q) q p it ∧ ∀ c, c ∉ [1, 2, 3] → ρ c = σ c := by
  intro d
  induction d with
  | zero =>
    intro G q u σ hd h1 hG h2 hit
    refine ⟨σ, ?_, ?_, ?_, fun c _ => rfl⟩
    · rw [P_read_L47_v2, h2, jadd4, if_pos (nI_lt (by omega) (by omega))]; rfl
    · rw [rdF, Nat.sub_self]; exact h1
    · rw [rdF, Nat.sub_self]; exact rdP_0
  | succ d ih =>
    intro G q u σ hd h1 hG h2 hit
    rw [rdF]
    by_cases c1 : 4 * q + 4 ≤ m
    · by_cases c2 : G < 12
      · have hP : jv 7 47 [some (.ref 0), some (.int x), some (.int p), some (.ref 55), some (.int (nI q)), some (.int (nI (4 * q))), u] [] σ = if jBad (it (4 * q)) (it (4 * q + 1)) (it (4 * q + 2)) (it (4 * q + 3)) then some (some (.int (nI q)), σ) else jv 7 47 [some (.ref 0), some (.int x), some (.int p), some (.ref 55), some (.int (nI (q + 1))), some (.int (nI (4 * q + 4))), some (.ref 56)] [] (jm_up (jm_up (jm_up (jm_up (jm_up (jm_up σ 1 2 (nI (G + 1))) 2 G p) 3 (4 * G) (it (4 * q))) 3 (4 * G + 1) (it (4 * q + 1))) 3 (4 * G + 2) (it (4 * q + 2))) 3 (4 * G + 3) (it (4 * q + 3))) := by
          rw [P_read_L47_v2, h2, jadd4, if_neg (nI_nlt c1 (by omega)), Grains_isFull hG σ h1, jbi_some, if_pos c2, if_neg (by decide)]
          simp only [jadd0, jadd1, jadd2, jadd3, nI_clamp (show 4 * q < 2 ^ 31 by omega), nI_clamp (show 4 * q + 1 < 2 ^ 31 by omega), nI_clamp (show 4 * q + 2 < 2 ^ 31 by omega), nI_clamp (show 4 * q + 3 < 2 ^ 31 by omega), jbad2 (show 4 * q < 60 by omega) (by decide), jbad2 (show 4 * q + 1 < 60 by omega) (by decide), jbad2 (show 4 * q + 2 < 60 by omega) (by decide), jbad2 (show 4 * q + 3 < 60 by omega) (by decide), if_false, hit (4 * q) (by omega), hit (4 * q + 1) (by omega), hit (4 * q + 2) (by omega), hit (4 * q + 3) (by omega), P_mayAllBe, jbi_some]
          by_cases hb : jBad (it (4 * q)) (it (4 * q + 1)) (it (4 * q + 2)) (it (4 * q + 3))
          · rw [if_pos hb, if_neg (by decide), if_pos hb]
          · rw [if_neg hb, if_pos (by decide), if_neg hb]
            simp only [hit (4 * q) (by omega), hit (4 * q + 1) (by omega), hit (4 * q + 2) (by omega), hit (4 * q + 3) (by omega), Grains_add c2 _ _ _ _ _ σ h1, jbi_some]
        by_cases hb : jBad (it (4 * q)) (it (4 * q + 1)) (it (4 * q + 2)) (it (4 * q + 3))
        · rw [if_neg (fun z => z.2.2 hb), Nat.sub_self]
          exact ⟨σ, hP.trans (if_pos hb), h1, rdP_0, fun c _ => rfl⟩
        · rw [if_neg hb] at hP
          rw [if_pos ⟨c1, c2, hb⟩]
          obtain ⟨ρ, e1, e2, e3, e4⟩ := ih (G + 1) (q + 1) (some (.ref 56)) (jm_up (jm_up (jm_up (jm_up (jm_up (jm_up σ 1 2 (nI (G + 1))) 2 G p) 3 (4 * G) (it (4 * q))) 3 (4 * G + 1) (it (4 * q + 1))) 3 (4 * G + 2) (it (4 * q + 2))) 3 (4 * G + 3) (it (4 * q + 3))) (by omega) (by (repeat (first | rw [jup_s] | rw [jrow_s] | rw [jup_n _ _ _ (by omega)] | rw [jrow_n _ _ (by omega)])); rw [jupd, if_pos rfl]) (by omega) (by (repeat (first | rw [jup_s] | rw [jrow_s] | rw [jup_n _ _ _ (by omega)] | rw [jrow_n _ _ (by omega)])); exact h2) (fun j hj => by (repeat (first | rw [jup_s] | rw [jrow_s] | rw [jup_n _ _ _ (by omega)] | rw [jrow_n _ _ (by omega)])); exact hit j hj)
          have hge := rdF_ge m it d (G + 1) (q + 1)
          refine ⟨ρ, hP.trans e1, ?_, ?_, fun c hc => ?_⟩
          · rw [e2]; congr 1; omega
          · have := rdP_s (σ := σ) (c := 0) (p := p) (it := it) (by (repeat (first | rw [jup_s] | rw [jrow_s] | rw [jup_n _ _ _ (by omega)] | rw [jrow_n _ _ (by omega)]))) (by (repeat (first | rw [jup_s] | rw [jrow_s] | rw [jup_n _ _ _ (by omega)] | rw [jrow_n _ _ (by omega)]))) e3
            rw [show rdF m it d (G + 1) (q + 1) - (q + 1) + 1 = rdF m it d (G + 1) (q + 1) - q by omega] at this
            exact this
          · rw [e4 c hc]
            simp only [List.mem_cons, List.not_mem_nil, or_false, not_or] at hc
            (repeat (first | rw [jup_s] | rw [jrow_s] | rw [jup_n _ _ _ (by omega)] | rw [jrow_n _ _ (by omega)]))
      · rw [if_neg (fun z => c2 z.2.1), Nat.sub_self]
        refine ⟨σ, ?_, h1, rdP_0, fun c _ => rfl⟩
        rw [P_read_L47_v2, h2, jadd4, if_neg (nI_nlt c1 (by omega)), Grains_isFull hG σ h1, jbi_some, if_neg c2, if_pos (by decide)]
    · rw [if_neg (fun z => c1 z.1), Nat.sub_self]
      refine ⟨σ, ?_, h1, rdP_0, fun c _ => rfl⟩
      rw [P_read_L47_v2, h2, jadd4, if_pos (nI_lt (by omega) (by omega))]
theorem P_read_loop2 {m : Nat} (hm : m ≤ 60) (x p : Int32) (it : Nat → Int32) : ∀ (d G q : Nat) (u : Option Value) (σ : jm_S), q + d = 15 → σ 1 2 = nI G → G ≤ 12 → σ 57 2 = nI m → (∀ j, j < m → σ 58 j = it j) → ∃ ρ, jv 7 47 [some (.ref 0), some (.int x), some (.int p), some (.ref 57), some (.int (nI q)), some (.int (nI (4 * q))), u] [] σ = some (some (.int (nI (rdF m it d G q))), ρ) ∧ ρ 1 2 = nI (G + (rdF m it d G q - q)) ∧ rdP σ ρ 2 3 0 G (rdF m it d G q - q) q p it ∧ ∀ c, c ∉ [1, 2, 3] → ρ c = σ c := by
  intro d
  induction d with
  | zero =>
    intro G q u σ hd h1 hG h2 hit
    refine ⟨σ, ?_, ?_, ?_, fun c _ => rfl⟩
    · rw [P_read_L47_v3, h2, jadd4, if_pos (nI_lt (by omega) (by omega))]; rfl
    · rw [rdF, Nat.sub_self]; exact h1
    · rw [rdF, Nat.sub_self]; exact rdP_0
  | succ d ih =>
    intro G q u σ hd h1 hG h2 hit
    rw [rdF]
    by_cases c1 : 4 * q + 4 ≤ m
    · by_cases c2 : G < 12
      · have hP : jv 7 47 [some (.ref 0), some (.int x), some (.int p), some (.ref 57), some (.int (nI q)), some (.int (nI (4 * q))), u] [] σ = if jBad (it (4 * q)) (it (4 * q + 1)) (it (4 * q + 2)) (it (4 * q + 3)) then some (some (.int (nI q)), σ) else jv 7 47 [some (.ref 0), some (.int x), some (.int p), some (.ref 57), some (.int (nI (q + 1))), some (.int (nI (4 * q + 4))), some (.ref 58)] [] (jm_up (jm_up (jm_up (jm_up (jm_up (jm_up σ 1 2 (nI (G + 1))) 2 G p) 3 (4 * G) (it (4 * q))) 3 (4 * G + 1) (it (4 * q + 1))) 3 (4 * G + 2) (it (4 * q + 2))) 3 (4 * G + 3) (it (4 * q + 3))) := by
          rw [P_read_L47_v3, h2, jadd4, if_neg (nI_nlt c1 (by omega)), Grains_isFull hG σ h1, jbi_some, if_pos c2, if_neg (by decide)]
          simp only [jadd0, jadd1, jadd2, jadd3, nI_clamp (show 4 * q < 2 ^ 31 by omega), nI_clamp (show 4 * q + 1 < 2 ^ 31 by omega), nI_clamp (show 4 * q + 2 < 2 ^ 31 by omega), nI_clamp (show 4 * q + 3 < 2 ^ 31 by omega), jbad2 (show 4 * q < 60 by omega) (by decide), jbad2 (show 4 * q + 1 < 60 by omega) (by decide), jbad2 (show 4 * q + 2 < 60 by omega) (by decide), jbad2 (show 4 * q + 3 < 60 by omega) (by decide), if_false, hit (4 * q) (by omega), hit (4 * q + 1) (by omega), hit (4 * q + 2) (by omega), hit (4 * q + 3) (by omega), P_mayAllBe, jbi_some]
          by_cases hb : jBad (it (4 * q)) (it (4 * q + 1)) (it (4 * q + 2)) (it (4 * q + 3))
          · rw [if_pos hb, if_neg (by decide), if_pos hb]
          · rw [if_neg hb, if_pos (by decide), if_neg hb]
            simp only [hit (4 * q) (by omega), hit (4 * q + 1) (by omega), hit (4 * q + 2) (by omega), hit (4 * q + 3) (by omega), Grains_add c2 _ _ _ _ _ σ h1, jbi_some]
        by_cases hb : jBad (it (4 * q)) (it (4 * q + 1)) (it (4 * q + 2)) (it (4 * q + 3))
        · rw [if_neg (fun z => z.2.2 hb), Nat.sub_self]
          exact ⟨σ, hP.trans (if_pos hb), h1, rdP_0, fun c _ => rfl⟩
        · rw [if_neg hb] at hP
          rw [if_pos ⟨c1, c2, hb⟩]
          obtain ⟨ρ, e1, e2, e3, e4⟩ := ih (G + 1) (q + 1) (some (.ref 58)) (jm_up (jm_up (jm_up (jm_up (jm_up (jm_up σ 1 2 (nI (G + 1))) 2 G p) 3 (4 * G) (it (4 * q))) 3 (4 * G + 1) (it (4 * q + 1))) 3 (4 * G + 2) (it (4 * q + 2))) 3 (4 * G + 3) (it (4 * q + 3))) (by omega) (by (repeat (first | rw [jup_s] | rw [jrow_s] | rw [jup_n _ _ _ (by omega)] | rw [jrow_n _ _ (by omega)])); rw [jupd, if_pos rfl]) (by omega) (by (repeat (first | rw [jup_s] | rw [jrow_s] | rw [jup_n _ _ _ (by omega)] | rw [jrow_n _ _ (by omega)])); exact h2) (fun j hj => by (repeat (first | rw [jup_s] | rw [jrow_s] | rw [jup_n _ _ _ (by omega)] | rw [jrow_n _ _ (by omega)])); exact hit j hj)
          have hge := rdF_ge m it d (G + 1) (q + 1)
          refine ⟨ρ, hP.trans e1, ?_, ?_, fun c hc => ?_⟩
          · rw [e2]; congr 1; omega
          · have := rdP_s (σ := σ) (c := 0) (p := p) (it := it) (by (repeat (first | rw [jup_s] | rw [jrow_s] | rw [jup_n _ _ _ (by omega)] | rw [jrow_n _ _ (by omega)]))) (by (repeat (first | rw [jup_s] | rw [jrow_s] | rw [jup_n _ _ _ (by omega)] | rw [jrow_n _ _ (by omega)]))) e3
            rw [show rdF m it d (G + 1) (q + 1) - (q + 1) + 1 = rdF m it d (G + 1) (q + 1) - q by omega] at this
            exact this
          · rw [e4 c hc]
            simp only [List.mem_cons, List.not_mem_nil, or_false, not_or] at hc
            (repeat (first | rw [jup_s] | rw [jrow_s] | rw [jup_n _ _ _ (by omega)] | rw [jrow_n _ _ (by omega)]))
      · rw [if_neg (fun z => c2 z.2.1), Nat.sub_self]
        refine ⟨σ, ?_, h1, rdP_0, fun c _ => rfl⟩
        rw [P_read_L47_v3, h2, jadd4, if_neg (nI_nlt c1 (by omega)), Grains_isFull hG σ h1, jbi_some, if_neg c2, if_pos (by decide)]
    · rw [if_neg (fun z => c1 z.1), Nat.sub_self]
      refine ⟨σ, ?_, h1, rdP_0, fun c _ => rfl⟩
      rw [P_read_L47_v3, h2, jadd4, if_pos (nI_lt (by omega) (by omega))]
theorem P_read_loop3 {m : Nat} (hm : m ≤ 60) (x p : Int32) (it : Nat → Int32) : ∀ (d G q : Nat) (u : Option Value) (σ : jm_S), q + d = 15 → σ 1 2 = nI G → G ≤ 12 → σ 59 2 = nI m → (∀ j, j < m → σ 60 j = it j) → ∃ ρ, jv 7 47 [some (.ref 0), some (.int x), some (.int p), some (.ref 59), some (.int (nI q)), some (.int (nI (4 * q))), u] [] σ = some (some (.int (nI (rdF m it d G q))), ρ) ∧ ρ 1 2 = nI (G + (rdF m it d G q - q)) ∧ rdP σ ρ 2 3 0 G (rdF m it d G q - q) q p it ∧ ∀ c, c ∉ [1, 2, 3] → ρ c = σ c := by
  intro d
  induction d with
  | zero =>
    intro G q u σ hd h1 hG h2 hit
    refine ⟨σ, ?_, ?_, ?_, fun c _ => rfl⟩
    · rw [P_read_L47_v4, h2, jadd4, if_pos (nI_lt (by omega) (by omega))]; rfl
    · rw [rdF, Nat.sub_self]; exact h1
    · rw [rdF, Nat.sub_self]; exact rdP_0
  | succ d ih =>
    intro G q u σ hd h1 hG h2 hit
    rw [rdF]
    by_cases c1 : 4 * q + 4 ≤ m
    · by_cases c2 : G < 12
      · have hP : jv 7 47 [some (.ref 0), some (.int x), some (.int p), some (.ref 59), some (.int (nI q)), some (.int (nI (4 * q))), u] [] σ = if jBad (it (4 * q)) (it (4 * q + 1)) (it (4 * q + 2)) (it (4 * q + 3)) then some (some (.int (nI q)), σ) else jv 7 47 [some (.ref 0), some (.int x), some (.int p), some (.ref 59), some (.int (nI (q + 1))), some (.int (nI (4 * q + 4))), some (.ref 60)] [] (jm_up (jm_up (jm_up (jm_up (jm_up (jm_up σ 1 2 (nI (G + 1))) 2 G p) 3 (4 * G) (it (4 * q))) 3 (4 * G + 1) (it (4 * q + 1))) 3 (4 * G + 2) (it (4 * q + 2))) 3 (4 * G + 3) (it (4 * q + 3))) := by
          rw [P_read_L47_v4, h2, jadd4, if_neg (nI_nlt c1 (by omega)), Grains_isFull hG σ h1, jbi_some, if_pos c2, if_neg (by decide)]
          simp only [jadd0, jadd1, jadd2, jadd3, nI_clamp (show 4 * q < 2 ^ 31 by omega), nI_clamp (show 4 * q + 1 < 2 ^ 31 by omega), nI_clamp (show 4 * q + 2 < 2 ^ 31 by omega), nI_clamp (show 4 * q + 3 < 2 ^ 31 by omega), jbad2 (show 4 * q < 60 by omega) (by decide), jbad2 (show 4 * q + 1 < 60 by omega) (by decide), jbad2 (show 4 * q + 2 < 60 by omega) (by decide), jbad2 (show 4 * q + 3 < 60 by omega) (by decide), if_false, hit (4 * q) (by omega), hit (4 * q + 1) (by omega), hit (4 * q + 2) (by omega), hit (4 * q + 3) (by omega), P_mayAllBe, jbi_some]
          by_cases hb : jBad (it (4 * q)) (it (4 * q + 1)) (it (4 * q + 2)) (it (4 * q + 3))
          · rw [if_pos hb, if_neg (by decide), if_pos hb]
          · rw [if_neg hb, if_pos (by decide), if_neg hb]
            simp only [hit (4 * q) (by omega), hit (4 * q + 1) (by omega), hit (4 * q + 2) (by omega), hit (4 * q + 3) (by omega), Grains_add c2 _ _ _ _ _ σ h1, jbi_some]
        by_cases hb : jBad (it (4 * q)) (it (4 * q + 1)) (it (4 * q + 2)) (it (4 * q + 3))
        · rw [if_neg (fun z => z.2.2 hb), Nat.sub_self]
          exact ⟨σ, hP.trans (if_pos hb), h1, rdP_0, fun c _ => rfl⟩
        · rw [if_neg hb] at hP
          rw [if_pos ⟨c1, c2, hb⟩]
          obtain ⟨ρ, e1, e2, e3, e4⟩ := ih (G + 1) (q + 1) (some (.ref 60)) (jm_up (jm_up (jm_up (jm_up (jm_up (jm_up σ 1 2 (nI (G + 1))) 2 G p) 3 (4 * G) (it (4 * q))) 3 (4 * G + 1) (it (4 * q + 1))) 3 (4 * G + 2) (it (4 * q + 2))) 3 (4 * G + 3) (it (4 * q + 3))) (by omega) (by (repeat (first | rw [jup_s] | rw [jrow_s] | rw [jup_n _ _ _ (by omega)] | rw [jrow_n _ _ (by omega)])); rw [jupd, if_pos rfl]) (by omega) (by (repeat (first | rw [jup_s] | rw [jrow_s] | rw [jup_n _ _ _ (by omega)] | rw [jrow_n _ _ (by omega)])); exact h2) (fun j hj => by (repeat (first | rw [jup_s] | rw [jrow_s] | rw [jup_n _ _ _ (by omega)] | rw [jrow_n _ _ (by omega)])); exact hit j hj)
          have hge := rdF_ge m it d (G + 1) (q + 1)
          refine ⟨ρ, hP.trans e1, ?_, ?_, fun c hc => ?_⟩
          · rw [e2]; congr 1; omega
          · have := rdP_s (σ := σ) (c := 0) (p := p) (it := it) (by (repeat (first | rw [jup_s] | rw [jrow_s] | rw [jup_n _ _ _ (by omega)] | rw [jrow_n _ _ (by omega)]))) (by (repeat (first | rw [jup_s] | rw [jrow_s] | rw [jup_n _ _ _ (by omega)] | rw [jrow_n _ _ (by omega)]))) e3
            rw [show rdF m it d (G + 1) (q + 1) - (q + 1) + 1 = rdF m it d (G + 1) (q + 1) - q by omega] at this
            exact this
          · rw [e4 c hc]
            simp only [List.mem_cons, List.not_mem_nil, or_false, not_or] at hc
            (repeat (first | rw [jup_s] | rw [jrow_s] | rw [jup_n _ _ _ (by omega)] | rw [jrow_n _ _ (by omega)]))
      · rw [if_neg (fun z => c2 z.2.1), Nat.sub_self]
        refine ⟨σ, ?_, h1, rdP_0, fun c _ => rfl⟩
        rw [P_read_L47_v4, h2, jadd4, if_neg (nI_nlt c1 (by omega)), Grains_isFull hG σ h1, jbi_some, if_neg c2, if_pos (by decide)]
    · rw [if_neg (fun z => c1 z.1), Nat.sub_self]
      refine ⟨σ, ?_, h1, rdP_0, fun c _ => rfl⟩
      rw [P_read_L47_v4, h2, jadd4, if_pos (nI_lt (by omega) (by omega))]
theorem M_read_loop {k m : Nat} (hk : k < 4) (hm : m ≤ 60) (p : Int32) (hp : ¬ (p < 0 ∨ 3 < p)) (it : Nat → Int32) : ∀ (d G q : Nat) (u : Option Value) (σ : jm_S), q + d = 15 → σ 61 5 = nI G → G ≤ 12 → σ 63 k = nI m → (∀ j, j < m → σ 64 (60 * k + j) = it j) → ∃ ρ, jv 131 37 [some (.ref 61), some (.int (nI k)), some (.int p), some (.int (nI q)), some (.int 1), u] [] σ = some (some (.int (nI (rdF m it d G q))), ρ) ∧ ρ 61 5 = nI (G + (rdF m it d G q - q)) ∧ rdP σ ρ 66 67 0 G (rdF m it d G q - q) q p it ∧ (∀ c, c ∉ [61, 66, 67] → ρ c = σ c) ∧ ∀ c, c ≠ 5 → ρ 61 c = σ 61 c := by
  have j4q : ∀ q : Nat, (4 : Int32) * nI q + 4 = nI (4 * q + 4) := fun q => by rw [j4m, jadd4]
  have j64 : ∀ q : Nat, (60 : Int32) * nI k + (4 : Int32) * nI q = nI (60 * k + 4 * q) := fun q => by rw [j4m, j60]
  intro d
  induction d with
  | zero =>
    intro G q u σ hd h1 hG h2 hit
    refine ⟨σ, ?_, ?_, ?_, fun c _ => rfl, fun c _ => rfl⟩
    · rw [M_read_L37, if_neg (by decide)]
      simp only [nI_clamp (show k < 2 ^ 31 by omega), jbad2 hk (by decide), if_false, h2, j4q]
      rw [if_pos (nI_lt (by omega) (by omega))]; rfl
    · rw [rdF, Nat.sub_self]; exact h1
    · rw [rdF, Nat.sub_self]; exact rdP_0
  | succ d ih =>
    intro G q u σ hd h1 hG h2 hit
    rw [rdF]
    by_cases c1 : 4 * q + 4 ≤ m
    · have hM : jv 131 37 [some (.ref 61), some (.int (nI k)), some (.int p), some (.int (nI q)), some (.int 1), u] [] σ = if jBad (it (4 * q)) (it (4 * q + 1)) (it (4 * q + 2)) (it (4 * q + 3)) ∨ ¬ G < 12 then some (some (.int (nI q)), σ) else jv 131 37 [some (.ref 61), some (.int (nI k)), some (.int p), some (.int (nI (q + 1))), some (.int 1), some (.int (nI (60 * k + 4 * q)))] [] (jm_up (jm_up (jm_up (jm_up (jm_up (jm_up σ 66 G p) 67 (4 * G) (it (4 * q))) 67 (4 * G + 1) (it (4 * q + 1))) 67 (4 * G + 2) (it (4 * q + 2))) 67 (4 * G + 3) (it (4 * q + 3))) 61 5 (nI (G + 1))) := by
        rw [M_read_L37, if_neg (by decide)]
        have i0 := hit (4 * q) (by omega)
        have i1 := hit (4 * q + 1) (by omega)
        have i2 := hit (4 * q + 2) (by omega)
        have i3 := hit (4 * q + 3) (by omega)
        rw [← Nat.add_assoc] at i1 i2 i3
        simp only [nI_clamp (show k < 2 ^ 31 by omega), jbad2 hk (by decide), if_false, h2, j4q, j64, jadd1, jadd2, jadd3, nI_clamp (show 60 * k + 4 * q < 2 ^ 31 by omega), nI_clamp (show 60 * k + 4 * q + 1 < 2 ^ 31 by omega), nI_clamp (show 60 * k + 4 * q + 2 < 2 ^ 31 by omega), nI_clamp (show 60 * k + 4 * q + 3 < 2 ^ 31 by omega), jbad2 (show 60 * k + 4 * q < 240 by omega) (by decide), jbad2 (show 60 * k + 4 * q + 1 < 240 by omega) (by decide), jbad2 (show 60 * k + 4 * q + 2 < 240 by omega) (by decide), jbad2 (show 60 * k + 4 * q + 3 < 240 by omega) (by decide), i0, i1, i2, i3]
        rw [if_neg (nI_nlt c1 (by omega)), M_grain hG p _ _ _ _ σ h1]
        by_cases hb : jBad (it (4 * q)) (it (4 * q + 1)) (it (4 * q + 2)) (it (4 * q + 3))
        · rw [if_pos (Or.inr hb), jbi_some, if_pos (by decide +kernel), M_read_L37, if_pos rfl, if_pos (Or.inl hb), jadd0]
        · rw [if_neg (not_or.mpr ⟨hp, hb⟩)]
          by_cases c2 : G < 12
          · rw [if_pos c2, jbi_some, if_neg (nI_pos (by omega)), if_neg (fun z => z.elim hb (fun z => z c2))]
          · rw [if_neg c2, jbi_some, if_pos (by decide +kernel), M_read_L37, if_pos rfl, if_pos (Or.inr c2), jadd0]
      by_cases hc : jBad (it (4 * q)) (it (4 * q + 1)) (it (4 * q + 2)) (it (4 * q + 3)) ∨ ¬ G < 12
      · rw [if_neg (fun z => hc.elim z.2.2 (fun w => w z.2.1)), Nat.sub_self]
        exact ⟨σ, hM.trans (if_pos hc), h1, rdP_0, fun c _ => rfl, fun c _ => rfl⟩
      · have c2 : G < 12 := Classical.byContradiction fun z => hc (Or.inr z)
        rw [if_neg hc] at hM
        rw [if_pos ⟨c1, c2, fun z => hc (Or.inl z)⟩]
        obtain ⟨ρ, e1, e2, e3, e4, e5⟩ := ih (G + 1) (q + 1) (some (.int (nI (60 * k + 4 * q)))) (jm_up (jm_up (jm_up (jm_up (jm_up (jm_up σ 66 G p) 67 (4 * G) (it (4 * q))) 67 (4 * G + 1) (it (4 * q + 1))) 67 (4 * G + 2) (it (4 * q + 2))) 67 (4 * G + 3) (it (4 * q + 3))) 61 5 (nI (G + 1))) (by omega) (by (repeat (first | rw [jup_s] | rw [jrow_s] | rw [jup_n _ _ _ (by omega)] | rw [jrow_n _ _ (by omega)])); rw [jupd, if_pos rfl]) (by omega) (by (repeat (first | rw [jup_s] | rw [jrow_s] | rw [jup_n _ _ _ (by omega)] | rw [jrow_n _ _ (by omega)])); exact h2) (fun j hj => by (repeat (first | rw [jup_s] | rw [jrow_s] | rw [jup_n _ _ _ (by omega)] | rw [jrow_n _ _ (by omega)])); exact hit j hj)
        have hge := rdF_ge m it d (G + 1) (q + 1)
        refine ⟨ρ, hM.trans e1, ?_, ?_, fun c hc => ?_, fun c hc => ?_⟩
        · rw [e2]; congr 1; omega
        · have := rdP_s (σ := σ) (c := 0) (p := p) (it := it) (by (repeat (first | rw [jup_s] | rw [jrow_s] | rw [jup_n _ _ _ (by omega)] | rw [jrow_n _ _ (by omega)]))) (by (repeat (first | rw [jup_s] | rw [jrow_s] | rw [jup_n _ _ _ (by omega)] | rw [jrow_n _ _ (by omega)]))) e3
          rw [show rdF m it d (G + 1) (q + 1) - (q + 1) + 1 = rdF m it d (G + 1) (q + 1) - q by omega] at this
          exact this
        · rw [e4 c hc]
          simp only [List.mem_cons, List.not_mem_nil, or_false, not_or] at hc
          (repeat (first | rw [jup_s] | rw [jrow_s] | rw [jup_n _ _ _ (by omega)] | rw [jrow_n _ _ (by omega)]))
        · rw [e5 c hc, jup_s, jupd, if_neg hc]
          (repeat (first | rw [jup_s] | rw [jrow_s] | rw [jup_n _ _ _ (by omega)] | rw [jrow_n _ _ (by omega)]))
    · rw [if_neg (fun z => c1 z.1), Nat.sub_self]
      refine ⟨σ, ?_, h1, rdP_0, fun c _ => rfl, fun c _ => rfl⟩
      rw [M_read_L37, if_neg (by decide)]
      simp only [nI_clamp (show k < 2 ^ 31 by omega), jbad2 hk (by decide), if_false, h2, j4q]
      rw [if_pos (nI_lt (by omega) (by omega))]
theorem P_read_loop {k m : Nat} (hk : k < 4) (hm : m ≤ 60) (x p : Int32) (it : Nat → Int32) (G : Nat) (σ : jm_S) (h1 : σ 1 2 = nI G) (hG : G ≤ 12) (h2 : σ (53 + 2 * k) 2 = nI m) (hit : ∀ j, j < m → σ (54 + 2 * k) j = it j) : ∃ ρ, jv 7 47 [some (.ref 0), some (.int x), some (.int p), some (.ref (53 + 2 * k)), some (.int 0), some (.int 0), none] [] σ = some (some (.int (nI (rdF m it 15 G 0))), ρ) ∧ ρ 1 2 = nI (G + rdF m it 15 G 0) ∧ rdP σ ρ 2 3 0 G (rdF m it 15 G 0) 0 p it ∧ ∀ c, c ∉ [1, 2, 3] → ρ c = σ c := by
  match k, hk, h2, hit with
  | 0, _, h2, hit =>
    have e := P_read_loop0 hm x p it 15 G 0 none σ (by omega) h1 hG h2 hit
    rw [show nI (4 * 0) = 0 by decide +kernel, Nat.sub_zero] at e
    exact e
  | 1, _, h2, hit =>
    have e := P_read_loop1 hm x p it 15 G 0 none σ (by omega) h1 hG h2 hit
    rw [show nI (4 * 0) = 0 by decide +kernel, Nat.sub_zero] at e
    exact e
  | 2, _, h2, hit =>
    have e := P_read_loop2 hm x p it 15 G 0 none σ (by omega) h1 hG h2 hit
    rw [show nI (4 * 0) = 0 by decide +kernel, Nat.sub_zero] at e
    exact e
  | 3, _, h2, hit =>
    have e := P_read_loop3 hm x p it 15 G 0 none σ (by omega) h1 hG h2 hit
    rw [show nI (4 * 0) = 0 by decide +kernel, Nat.sub_zero] at e
    exact e
theorem P_read {k : Nat} (hk : k < 4) (p : Int32) (hp : ¬ (p < 0 ∨ 3 < p)) (σ : jm_S) : jc 7 [.ref 0, .int (nI k), .int p] σ = if σ (53 + 2 * k) 1 = -1 then some (some (.int (-10 - 1)), jm_up σ 0 10 1) else jv 7 47 [some (.ref 0), some (.int (nI k)), some (.int p), some (.ref (53 + 2 * k)), some (.int 0), some (.int 0), none] [] σ := by
  rw [P_read_in, P_isOutside, jbi_some, P_isOutside, jbi_some]
  simp only [jout hk, if_false, if_neg hp, if_true, not_true_eq_false]
  have e := Sheet_isLost hk σ
  match k, hk, e with
  | 0, h, e =>
    simp only [jnI0, jaa4_0, P_read_A27_53]
    rw [show 53 + 2 * 0 = 53 from rfl] at e ⊢
    rw [e, jbi_some]
    by_cases h : σ 53 1 = -1
    · rw [if_pos h, if_neg (by decide), P_finding, jbi_some, if_pos h]
    · rw [if_neg h, if_pos rfl, if_neg h]
  | 1, h, e =>
    simp only [jnI1, jaa4_1, P_read_A27_55]
    rw [show 53 + 2 * 1 = 55 from rfl] at e ⊢
    rw [e, jbi_some]
    by_cases h : σ 55 1 = -1
    · rw [if_pos h, if_neg (by decide), P_finding, jbi_some, if_pos h]
    · rw [if_neg h, if_pos rfl, if_neg h]
  | 2, h, e =>
    simp only [jnI2, jaa4_2, P_read_A27_57]
    rw [show 53 + 2 * 2 = 57 from rfl] at e ⊢
    rw [e, jbi_some]
    by_cases h : σ 57 1 = -1
    · rw [if_pos h, if_neg (by decide), P_finding, jbi_some, if_pos h]
    · rw [if_neg h, if_pos rfl, if_neg h]
  | 3, h, e =>
    simp only [jnI3, jaa4_3, P_read_A27_59]
    rw [show 53 + 2 * 3 = 59 from rfl] at e ⊢
    rw [e, jbi_some]
    by_cases h : σ 59 1 = -1
    · rw [if_pos h, if_neg (by decide), P_finding, jbi_some, if_pos h]
    · rw [if_neg h, if_pos rfl, if_neg h]
def I_shg (σ : jm_S) : Prop := I_sl σ ∧ I_gh σ
theorem I_sl_c {σ ρ : jm_S} (h : I_sl σ) (h0 : ρ 0 = σ 0) (h61 : ρ 61 4 = σ 61 4) (hr : ∀ a, 53 ≤ a → a ≤ 64 → a ≠ 61 → ρ a = σ a) : I_sl ρ := by
  refine ⟨fun k hk => ?_, ?_⟩
  · obtain ⟨n, h1⟩ := h.1 k hk
    exact ⟨n, I_s1_c h1 (hr _ (by omega) (by omega) (by omega)) (hr _ (by omega) (by omega) (by omega)) (by rw [hr 62 (by omega) (by omega) (by omega)]) (by rw [hr 63 (by omega) (by omega) (by omega)]) (fun j _ => by rw [hr 64 (by omega) (by omega) (by omega)])⟩
  · unfold I_lat
    rw [h0, h61]; exact h.2
theorem I_gh_c {σ ρ : jm_S} (h : I_gh σ) (h1 : ρ 1 2 = σ 1 2) (h5 : ρ 61 5 = σ 61 5) (h36 : ρ 61 36 = σ 61 36) (h38 : ρ 38 2 = σ 38 2) (hr : ∀ a, a ∈ [2, 3, 39, 40, 66, 67, 87, 88] → ρ a = σ a) : I_gh ρ := by
  obtain ⟨G, ⟨p1, p2, p3, p4, p5, p6⟩, hh⟩ := h
  refine ⟨G, ⟨by rw [h1]; exact p1, by rw [h5]; exact p2, p3, ?_, ?_, ?_⟩, I_he_mono hh (Nat.le_refl G) h38 h36 (hr _ (by decide)) (hr _ (by decide)) (hr _ (by decide)) (hr _ (by decide))⟩
  · rw [hr 2 (by decide), hr 66 (by decide)]; exact p4
  · rw [hr 3 (by decide), hr 67 (by decide)]; exact p5
  · rw [hr 67 (by decide)]; exact p6
abbrev jSG : List Nat := [0, 53, 54, 55, 56, 57, 58, 59, 60, 62, 63, 64, 65, 1, 2, 3, 38, 39, 40, 66, 67, 87, 88]
theorem A_read {σ : jm_S} (h : I_shg σ) (x p : Int32) : jSame σ jSG [4, 5, 36] I_shg (jc 7 [.ref 0, .int x, .int p]) (jc 131 [.ref 61, .int x, .int p]) := by
  obtain ⟨hsl, G, hg, hh⟩ := id h
  have hG := hg.2.2.1
  by_cases hx : x < 0 ∨ 3 < x
  · refine jSame_v h (v := some (.int (-2))) ?_ ?_
    · rw [P_read_in, P_isOutside, jbi_some, if_pos hx, if_pos (by decide)]
    · rw [M_read_in, M_isSheet, jbi_some, if_pos hx, if_pos rfl]
  by_cases hp : p < 0 ∨ 3 < p
  · refine jSame_v h (v := some (.int (-2))) ?_ ?_
    · rw [P_read_in, P_isOutside, jbi_some, if_neg hx, if_neg (by decide), P_isOutside, jbi_some, if_pos hp, if_neg (by decide)]
    · rw [M_read_in, M_isSheet, jbi_some, if_neg hx, if_neg (by decide), M_isPlace, jbi_some, if_pos hp, if_neg (by decide)]
  obtain ⟨k, hk, rfl⟩ := jN4 hx
  obtain ⟨m, r1, r2, r3, r4, r5, r6⟩ := hsl.1 k hk
  have hM : ∀ τ : jm_S, τ 62 k = σ 62 k → jc 131 [.ref 61, .int (nI k), .int p] τ = if σ 62 k = -1 then some (some (.int (-10 - 1)), jm_up τ 61 4 1) else jv 131 37 [some (.ref 61), some (.int (nI k)), some (.int p), some (.int 0), some (.int 1), none] [] τ := by
    intro τ e
    rw [M_read_in, M_isSheet, jbi_some, if_neg hx, if_neg (by decide), M_isPlace, jbi_some, if_neg hp, if_pos (by decide)]
    simp only [nI_clamp (show k < 2 ^ 31 by omega), jbad2 hk (by decide), if_false, e, M_met, jbi_some]
    by_cases hl : σ 62 k = -1
    · rw [if_neg (by rw [hl]; decide +kernel), if_pos hl]
    · rw [if_pos (Int32.not_lt.mp (r3.resolve_left hl)), if_neg hl]
  have hP := P_read hk p hp σ
  rw [r2] at hP
  by_cases hl : σ 62 k = -1
  · refine ⟨_, _, _, hP.trans (if_pos hl), (hM _ (by rw [jup_n _ _ _ (by omega)])).trans (if_pos hl), ⟨(I_find hsl.1 1).1, I_gh_c h.2 ?_ ?_ ?_ ?_ (fun a ha => ?_)⟩, (I_find hsl.1 1).2.weak (by decide) (by decide)⟩
    · (repeat (first | rw [jup_s] | rw [jrow_s] | rw [jup_n _ _ _ (by omega)] | rw [jrow_n _ _ (by omega)]))
    · rw [jup_s, jupd, if_neg (by decide)]
      (repeat (first | rw [jup_s] | rw [jrow_s] | rw [jup_n _ _ _ (by omega)] | rw [jrow_n _ _ (by omega)]))
    · rw [jup_s, jupd, if_neg (by decide)]
      (repeat (first | rw [jup_s] | rw [jrow_s] | rw [jup_n _ _ _ (by omega)] | rw [jrow_n _ _ (by omega)]))
    · (repeat (first | rw [jup_s] | rw [jrow_s] | rw [jup_n _ _ _ (by omega)] | rw [jrow_n _ _ (by omega)]))
    · simp only [List.mem_cons, List.not_mem_nil, or_false] at ha
      (repeat (first | rw [jup_s] | rw [jrow_s] | rw [jup_n _ _ _ (by omega)] | rw [jrow_n _ _ (by omega)]))
  · rw [if_neg hl] at hP
    obtain ⟨τ, e1, e2, e3, e4⟩ := P_read_loop hk r1 (nI k) p (fun j => σ 64 (60 * k + j)) G σ hg.1 hG r4 r6
    have n1 : ∀ c, c ≠ 1 → c ≠ 2 → c ≠ 3 → τ c = σ c := fun c a b d => e4 c (by simp only [List.mem_cons, List.not_mem_nil, or_false, not_or]; exact ⟨a, b, d⟩)
    obtain ⟨ρ, f1, f2, f3, f4, f5⟩ := M_read_loop hk r1 p hp (fun j => σ 64 (60 * k + j)) 15 G 0 none τ (by omega) (by rw [n1 61 (by decide) (by decide) (by decide)]; exact hg.2.1) hG (by rw [n1 63 (by decide) (by decide) (by decide)]; exact r5) (fun j _ => by rw [n1 64 (by decide) (by decide) (by decide)])
    rw [nI_0] at f1
    rw [Nat.sub_zero] at f2 f3
    obtain ⟨g1, g2⟩ := rdF_ok m (fun j => σ 64 (60 * k + j)) 15 G 0 hG
    rw [Nat.sub_zero] at g1
    have n2 : ∀ c, c ≠ 61 → c ≠ 66 → c ≠ 67 → ρ c = τ c := fun c a b d => f4 c (by simp only [List.mem_cons, List.not_mem_nil, or_false, not_or]; exact ⟨a, b, d⟩)
    have n3 : ∀ c, c ≠ 1 → c ≠ 2 → c ≠ 3 → c ≠ 61 → c ≠ 66 → c ≠ 67 → ρ c = σ c := fun c a b d e f g => (n2 c e f g).trans (n1 c a b d)
    have n61 : ∀ c, c ≠ 5 → ρ 61 c = σ 61 c := fun c hc => (f5 c hc).trans (by rw [n1 61 (by decide) (by decide) (by decide)])
    refine ⟨_, τ, ρ, hP.trans e1, ((hM τ (by rw [n1 62 (by decide) (by decide) (by decide)])).trans (if_neg hl)).trans f1, ⟨I_sl_c hsl (n3 0 (by decide) (by decide) (by decide) (by decide) (by decide) (by decide)) (n61 4 (by decide)) (fun a b c d => n3 a (by omega) (by omega) (by omega) d (by omega) (by omega)), G + rdF m (fun j => σ 64 (60 * k + j)) 15 G 0, ⟨?_, f2, g1, fun g hg' => ?_, fun j hj => ?_, fun g hg' => ?_⟩, I_he_mono hh (by omega) ?_ (n61 36 (by decide)) ?_ ?_ ?_ ?_⟩, ?_⟩
    · rw [n2 1 (by decide) (by decide) (by decide)]; exact e2
    · obtain ⟨a, ha, e⟩ := jN4 hp
      rw [n2 2 (by decide) (by decide) (by decide), e3.1 g, f3.1 g, n1 66 (by decide) (by decide) (by decide)]
      by_cases c : G ≤ g ∧ g < G + rdF m (fun j => σ 64 (60 * k + j)) 15 G 0
      · rw [if_pos c, if_pos c]; exact ⟨rfl, a, ha, e⟩
      · rw [if_neg c, if_neg c]; exact hg.2.2.2.1 g (by omega)
    · rw [n2 3 (by decide) (by decide) (by decide), e3.2 j, f3.2 j, n1 67 (by decide) (by decide) (by decide)]
      by_cases c : 4 * G ≤ j ∧ j < 4 * (G + rdF m (fun j => σ 64 (60 * k + j)) 15 G 0)
      · rw [if_pos c, if_pos c]
      · rw [if_neg c, if_neg c]; exact hg.2.2.2.2.1 j (by omega)
    · rw [f3.2, f3.2, f3.2, f3.2, n1 67 (by decide) (by decide) (by decide)]
      by_cases c : G ≤ g
      · obtain ⟨-, b⟩ := g2 (g - G) (by omega) (by omega)
        rw [if_pos (by omega), if_pos (by omega), if_pos (by omega), if_pos (by omega)]
        rw [show 4 * 0 + (4 * g - 4 * G) = 4 * (g - G) by omega, show 4 * 0 + (4 * g + 1 - 4 * G) = 4 * (g - G) + 1 by omega, show 4 * 0 + (4 * g + 2 - 4 * G) = 4 * (g - G) + 2 by omega, show 4 * 0 + (4 * g + 3 - 4 * G) = 4 * (g - G) + 3 by omega]
        exact ⟨fun q => b (Or.inl q), fun q => b (Or.inr (Or.inl q)), fun q => b (Or.inr (Or.inr (Or.inl q))), fun q => b (Or.inr (Or.inr (Or.inr q)))⟩
      · rw [if_neg (by omega), if_neg (by omega), if_neg (by omega), if_neg (by omega)]
        exact hg.2.2.2.2.2 g (by omega)
    · rw [n3 38 (by decide) (by decide) (by decide) (by decide) (by decide) (by decide)]
    · exact n3 39 (by decide) (by decide) (by decide) (by decide) (by decide) (by decide)
    · exact n3 40 (by decide) (by decide) (by decide) (by decide) (by decide) (by decide)
    · exact n3 87 (by decide) (by decide) (by decide) (by decide) (by decide) (by decide)
    · exact n3 88 (by decide) (by decide) (by decide) (by decide) (by decide) (by decide)
    · refine ⟨fun a ha h6 => ?_, fun c hc => n61 c (fun e => hc (by rw [e]; decide))⟩
      simp only [List.mem_cons, List.not_mem_nil, or_false, not_or] at ha
      exact n3 a (by omega) (by omega) (by omega) h6 (by omega) (by omega)
