/-! ===== a batch: rows turned, warmed, cleared; strain ===== -/
theorem j12b (p : Nat) : (12 : Int32) * nI p = nI (12 * p) := by
  rw [show (12 : Int32) = nI 12 by decide +kernel, pk_mul]
theorem j12a (p : Nat) : nI p * (12 : Int32) = nI (12 * p) := by
  rw [show (12 : Int32) = nI 12 by decide +kernel, pk_mul, Nat.mul_comm]
theorem turnRow_11 {p : Nat} {L : List Nat} (hp : p < 4) (σ : jm_S) (h : RW σ 21 22 p L) : ∃ ρ, jc 43 [.ref 11, .int (nI p)] σ = some (none, ρ) ∧ RW ρ 21 22 p (rot L) ∧ (∀ c, c ≠ 21 → ρ c = σ c) ∧ (∀ j, (j < 12 * p ∨ 12 * p + 12 ≤ j) → ρ 21 j = σ 21 j) := by
  obtain ⟨h1, h2, h3⟩ := id h
  have r0 := Batch_turnRow_11_in (nI p) σ
  rw [nI_clamp (show p < 2 ^ 31 by omega), if_neg (by rw [jbad2 hp (by decide)]; exact id), h1, j12a] at r0
  by_cases c : L.length ≤ 1
  · rw [if_pos (by rw [show (1 : Int32) = nI 1 by decide +kernel]; exact nI_le c (by decide))] at r0
    exact ⟨σ, r0, by rw [rot_one c]; exact h, fun _ _ => rfl, fun _ _ => rfl⟩
  · have e1 : nI L.length - 1 = nI (L.length - 1) := by
      rw [show L.length = (L.length - 1) + 1 by omega, nI_pred]; rfl
    have e2 : nI (12 * p) + nI L.length - 1 = nI (12 * p + (L.length - 1)) := by
      rw [nI_add, show 12 * p + L.length = (12 * p + (L.length - 1)) + 1 by omega, nI_pred]
    rw [if_neg (by rw [show (1 : Int32) = nI 1 by decide +kernel]; exact nI_ge (by omega) (by omega)), nI_clamp (show 12 * p < 2 ^ 31 by omega), if_neg (by rw [jbad2 (show 12 * p < 48 by omega) (by decide)]; exact id), e1, e2, nI_1, nI_clamp (show 12 * p + 1 < 2 ^ 31 by omega), nI_clamp (show L.length - 1 < 2 ^ 31 by omega), nI_clamp (show 12 * p + (L.length - 1) < 2 ^ 31 by omega)] at r0
    rw [if_neg (by
      rintro (q | q | q | q | q)
      · exact nI_pos (by omega) q
      · exact nI_pos (by omega) q
      · exact nI_pos (by omega) q
      · omega
      · omega), if_neg (by rw [jbad2 (show 12 * p + (L.length - 1) < 48 by omega) (by decide)]; exact id)] at r0
    refine ⟨_, r0, ⟨?_, ?_, fun i hi => ?_⟩, fun c hc => by rw [jup_n _ _ _ hc, jrow_n _ _ hc], fun j hj => ?_⟩
    · rw [jup_n _ _ _ (by decide), jrow_n _ _ (by decide), h1, rot_len]
    · rw [rot_len]; exact h2
    · rw [rot_len] at hi
      rw [rot_getD hi, jup_s, jupd, jrow_s]
      by_cases c2 : i + 1 < L.length
      · rw [if_pos c2, if_neg (by omega)]
        refine ⟨(h3 _ c2).1, ?_⟩
        rw [pk_cpy_in (by omega) (by omega), ← (h3 _ c2).2]
        congr 1; omega
      · rw [if_neg c2, if_pos (by omega)]
        have := h3 0 (by omega)
        rw [Nat.add_zero] at this
        exact this
    · rw [jup_s, jupd, if_neg (by omega), jrow_s, pk_cpy_out (by omega)]
theorem warmRow_loop_11 {p : Nat} {L : List Nat} (hp : p < 4) (x2 q : Int32) (hq : ¬ q = 0) : ∀ (k i : Nat) (x : Int32) (u8 u9 : Option Value) (σ : jm_S), i + k = L.length → RW σ 21 22 p L → jv 44 24 [some (.ref 11), some (.int (nI p)), some (.int x2), some (.int q), some (.int x), some (.int (nI (12 * p))), some (.int (nI (12 * p + L.length))), some (.int (nI (12 * p + i))), u8, u9] [] σ = some (none, jm_row σ 15 (warmL q (L.drop i) x (σ 15))) := by
  intro k
  induction k with
  | zero =>
    intro i x u8 u9 σ hi h
    have h2 := h.2.1
    rw [Batch_warmRow_11_L24, if_pos (nI_le (by omega) (by omega)), List.drop_of_length_le (by omega)]
    congr 2
    funext c
    by_cases hc : c = 15
    · subst hc; rw [jrow_s]; rfl
    · rw [jrow_n _ _ hc]
  | succ k ih =>
    intro i x u8 u9 σ hi h
    have h2 := h.2.1
    obtain ⟨g1, g2⟩ := h.2.2 i (by omega)
    have b1 := jbad2 (show 12 * p + i < 48 by omega) (by decide)
    rw [Batch_warmRow_11_L24, if_neg (nI_ge (by omega) (by omega)), nI_clamp (show 12 * p + i < 2 ^ 31 by omega), if_neg (by rw [b1]; exact id), g2, nI_clamp (show L.getD i 0 < 2 ^ 31 by omega), if_neg (by rw [jbad2 g1 (by decide)]; exact id), if_neg hq, if_neg (by rw [jbad2 g1 (by decide)]; exact id), nI_1, show 12 * p + i + 1 = 12 * p + (i + 1) by omega]
    rw [ih (i + 1) _ _ _ _ (by omega) (RW_fr h (by rw [jup_n _ _ _ (by decide)]) (fun j _ => by rw [jup_n _ _ _ (by decide)]))]
    rw [drop_getD (L := L) (i := i) (by omega), warmL]
    congr 2
    funext c
    by_cases hc : c = 15
    · subst hc; rw [jrow_s, jrow_s, jup_s]
    · rw [jrow_n _ _ hc, jrow_n _ _ hc, jup_n _ _ _ hc]
theorem warmRow_11 {p : Nat} {L : List Nat} (hp : p < 4) (x q : Int32) (hq : ¬ q = 0) (σ : jm_S) (h : RW σ 21 22 p L) : jc 44 [.ref 11, .int (nI p), .int x, .int q] σ = some (none, jm_row σ 15 (warmL q L x (σ 15))) := by
  rw [Batch_warmRow_11_in, nI_clamp (show p < 2 ^ 31 by omega), if_neg (by rw [jbad2 hp (by decide)]; exact id), h.1, j12a, nI_add]
  have := warmRow_loop_11 hp x q hq L.length 0 x none none σ (by omega) h
  rw [Nat.add_zero] at this
  rw [this]; rfl
/-- one row cleared of those that are open or out -/
theorem clear_loop_11 {p : Nat} {L : List Nat} (hp : p < 4) (al : Nat → Bool) : ∀ (k i : Nat) (u5 : Option Value) (σ : jm_S), i + k = L.length → L.length ≤ 12 → σ 22 p = nI L.length → (∀ g, g ∈ L → g < 12 ∧ (al g = true ↔ (σ 18 g = 0 ∨ σ 18 g = 2))) → (∀ j, j < ((L.take i).filter al).length → σ 21 (12 * p + j) = nI (((L.take i).filter al).getD j 0)) → (∀ j, i ≤ j → j < L.length → σ 21 (12 * p + j) = nI (L.getD j 0)) →
    ∃ ρ x2 x3 x4 u5', jv 42 17 [some (.ref 11), some (.int (nI p)), some (.int (nI (12 * p))), some (.int (nI ((L.take i).filter al).length)), some (.int (nI i)), u5] [] σ = jv 42 2 [some (.ref 11), some (.int (nI (p + 1))), x2, x3, x4, u5'] [] ρ ∧ RW ρ 21 22 p (L.filter al) ∧ (∀ c, c ≠ 21 → c ≠ 22 → ρ c = σ c) ∧ (∀ j, j ≠ p → ρ 22 j = σ 22 j) ∧ (∀ j, (j < 12 * p ∨ 12 * p + 12 ≤ j) → ρ 21 j = σ 21 j) := by
  intro k
  induction k with
  | zero =>
    intro i u5 σ hi hL hh hal h1 h2
    rw [Batch_clearRows_11_L17, nI_clamp (show p < 2 ^ 31 by omega), if_neg (by rw [jbad2 hp (by decide)]; exact id), hh, if_pos (nI_le (by omega) (by omega)), if_neg (by rw [jbad2 hp (by decide)]; exact id), nI_1]
    rw [List.take_of_length_le (by omega)] at h1 ⊢
    have hl : (L.filter al).length ≤ 12 := Nat.le_trans (List.length_filter_le _ _) hL
    refine ⟨_, _, _, _, _, rfl, ⟨?_, hl, fun j hj => ⟨?_, ?_⟩⟩, fun c _ h22 => by rw [jup_n _ _ _ h22], fun j hj => ?_, fun j _ => ?_⟩
    · rw [jup_s, jupd, if_pos rfl]
    · exact (hal _ (List.mem_filter.mp (mem_getD hj)).1).1
    · rw [jup_n _ _ _ (by decide)]; exact h1 j hj
    · rw [jup_s, jupd, if_neg hj]
    · rw [jup_n _ _ _ (by decide)]
  | succ k ih =>
    intro i u5 σ hi hL hh hal h1 h2
    have hg := hal (L.getD i 0) (mem_getD (by omega))
    have hle : ((L.take i).filter al).length ≤ i := Nat.le_trans (List.length_filter_le _ _) (by rw [List.length_take]; omega)
    have ht : L.take (i + 1) = L.take i ++ [L.getD i 0] := take_getD (by omega)
    rw [Batch_clearRows_11_L17, nI_clamp (show p < 2 ^ 31 by omega), if_neg (by rw [jbad2 hp (by decide)]; exact id), hh, if_neg (nI_ge (by omega) (by omega)), nI_add (12 * p) i, nI_clamp (show 12 * p + i < 2 ^ 31 by omega), if_neg (by rw [jbad2 (show 12 * p + i < 48 by omega) (by decide)]; exact id), h2 i (Nat.le_refl i) (by omega), nI_clamp (show L.getD i 0 < 2 ^ 31 by have := hg.1; omega), nI_add (12 * p) ((L.take i).filter al).length, nI_clamp (show 12 * p + ((L.take i).filter al).length < 2 ^ 31 by omega)]
    have ng : ¬ (nI (L.getD i 0) < 0 ∨ 12 ≤ L.getD i 0) := by rw [jbad2 hg.1 (by decide)]; exact id
    simp only [if_neg ng, if_neg (show ¬ (nI (12 * p + ((L.take i).filter al).length) < 0 ∨ 48 ≤ 12 * p + ((L.take i).filter al).length) by rw [jbad2 (show 12 * p + ((L.take i).filter al).length < 48 by omega) (by decide)]; exact id), nI_1]
    by_cases c : al (L.getD i 0) = true
    · have e : (L.take (i + 1)).filter al = (L.take i).filter al ++ [L.getD i 0] := by
        rw [ht, List.filter_append]
        congr 1
        rw [List.filter_cons_of_pos c]; rfl
      have el : ((L.take (i + 1)).filter al).length = ((L.take i).filter al).length + 1 := by rw [e, List.length_append]; rfl
      obtain ⟨ρ, x2, x3, x4, u5', g1, g2, g3, g4, g5⟩ := ih (i + 1) (some (.int (nI (L.getD i 0)))) (jm_up σ 21 (12 * p + ((L.take i).filter al).length) (nI (L.getD i 0))) (by omega) hL (by rw [jup_n _ _ _ (by decide)]; exact hh) (fun g hg => by rw [jup_n _ _ _ (by decide)]; exact hal g hg) (fun j hj => by
          rw [el] at hj
          rw [jup_s, jupd, e]
          by_cases cj : j = ((L.take i).filter al).length
          · rw [if_pos (by omega), cj, getD_app_e]
          · rw [if_neg (by omega), getD_app (by omega)]; exact h1 j (by omega)) (fun j hj1 hj2 => by
          rw [jup_s, jupd, if_neg (by omega)]; exact h2 j (by omega) hj2)
      rw [el] at g1
      refine ⟨ρ, x2, x3, x4, u5', ?_, g2, fun c h21 h22 => by rw [g3 c h21 h22, jup_n _ _ _ h21], fun j hj => by rw [g4 j hj, jup_n _ _ _ (by decide)], fun j hj => by rw [g5 j hj, jup_s, jupd, if_neg (by omega)]⟩
      rw [← g1]
      rcases hg.2.mp c with q | q
      · rw [if_pos q]
      · rw [if_neg (by rw [q]; decide), if_neg (fun n => n q)]
    · have e : (L.take (i + 1)).filter al = (L.take i).filter al := by
        rw [ht, List.filter_append, List.filter_cons_of_neg c, List.filter_nil, List.append_nil]
      obtain ⟨ρ, x2, x3, x4, u5', g1, g2, g3, g4, g5⟩ := ih (i + 1) (some (.int (nI (L.getD i 0)))) σ (by omega) hL hh hal (fun j hj => by rw [e] at hj ⊢; exact h1 j hj) (fun j hj1 hj2 => h2 j (by omega) hj2)
      rw [e] at g1
      refine ⟨ρ, x2, x3, x4, u5', ?_, g2, g3, g4, g5⟩
      rw [← g1, if_neg (fun q => c (hg.2.mpr (Or.inl q))), if_pos (fun q => c (hg.2.mpr (Or.inr q)))]
theorem clearRows_11 (al : Nat → Bool) (C : Nat → List Nat) : ∀ (k p : Nat) (u2 u3 u4 u5 : Option Value) (σ : jm_S), p + k = 4 → (∀ j, j < 4 → p ≤ j → RW σ 21 22 j (C j) ∧ ∀ g, g ∈ C j → g < 12 ∧ (al g = true ↔ (σ 18 g = 0 ∨ σ 18 g = 2))) → (∀ j, j < p → RW σ 21 22 j ((C j).filter al)) → ∃ ρ, jv 42 2 [some (.ref 11), some (.int (nI p)), u2, u3, u4, u5] [] σ = some (none, ρ) ∧ (∀ j, j < 4 → RW ρ 21 22 j ((C j).filter al)) ∧ (∀ c, c ≠ 21 → c ≠ 22 → c ≠ 11 → ρ c = σ c) ∧ (∀ j, j ≠ 16 → ρ 11 j = σ 11 j) ∧ ρ 11 16 = 0 := by
  intro k
  induction k with
  | zero =>
    intro p u2 u3 u4 u5 σ hp h1 h2
    rw [Batch_clearRows_11_L2, if_pos (by rw [show (4 : Int32) = nI 4 by decide +kernel]; exact nI_le (by omega) (by omega))]
    refine ⟨_, rfl, fun j hj => RW_fr (h2 j (by omega)) (by rw [jup_n _ _ _ (by decide)]) (fun i _ => by rw [jup_n _ _ _ (by decide)]), fun c _ _ h => by rw [jup_n _ _ _ h], fun j hj => by rw [jup_s, jupd, if_neg hj], by rw [jup_s, jupd, if_pos rfl]⟩
  | succ k ih =>
    intro p u2 u3 u4 u5 σ hp h1 h2
    obtain ⟨a1, a2⟩ := h1 p (by omega) (Nat.le_refl p)
    obtain ⟨τ, x2, x3, x4, u5', e1, e2, e3, e4, e5⟩ := clear_loop_11 (L := C p) (by omega : p < 4) al (C p).length 0 u5 σ (by omega) a1.2.1 a1.1 a2 (fun j hj => by simp at hj) (fun j _ hj => (a1.2.2 j hj).2)
    obtain ⟨ρ, g1, g2, g3, g4, g5⟩ := ih (p + 1) x2 x3 x4 u5' τ (by omega) (fun j hj hpj => by
        obtain ⟨c1, c2⟩ := h1 j hj (by omega)
        refine ⟨RW_fr c1 (e4 j (by omega)) (fun i hi => e5 _ (by omega)), fun g hg => ?_⟩
        rw [e3 18 (by decide) (by decide)]; exact c2 g hg) (fun j hj => by
        by_cases c : j = p
        · rw [c]; exact e2
        · exact RW_fr (h2 j (by omega)) (e4 j c) (fun i hi => e5 _ (by omega)))
    refine ⟨ρ, ?_, g2, fun c h21 h22 hb => by rw [g3 c h21 h22 hb, e3 c h21 h22], fun j hj => by rw [g4 j hj, e3 11 (by decide) (by decide)], g5⟩
    rw [Batch_clearRows_11_L2, if_neg (by rw [show (4 : Int32) = nI 4 by decide +kernel]; exact nI_ge (by omega) (by omega)), j12a, ← g1, ← e1, List.take_zero, List.filter_nil, List.length_nil, nI_0]
theorem strain_11 {g : Nat} (hg : g < 12) (σ : jm_S) : jc 45 [.ref 11, .int (nI g)] σ = some (none,
    if xO (σ 11 13) (σ 11 12) (σ 12 g) (σ 15 g) (σ 16 g) then jm_up (jm_up (jm_up (jm_up (jm_up (jm_up σ 17 g (xP (σ 15 g) (σ 16 g))) 18 g 1) 19 g (σ 11 15)) 11 14 (σ 11 14 - 1)) 20 g (σ 13 g * (xP (σ 15 g) (σ 16 g) - σ 11 13) / 10)) 11 16 1
    else if σ 15 g ≤ 250 then jm_up (jm_up σ 17 g (xP (σ 15 g) (σ 16 g))) 16 g (xW (σ 14 g) (σ 15 g) (σ 16 g))
    else jm_up (jm_up (jm_up (jm_up σ 17 g (xP (σ 15 g) (σ 16 g))) 18 g 2) 19 g (σ 11 15)) 11 14 (σ 11 14 - 1)) := by
  have r0 := Batch_strain_11_in (nI g) σ
  have hend : ∀ (x : Int32) (τ : jm_S), jc 46 [.ref 11, .int (nI g), .int x] τ = some (none, jm_up (jm_up (jm_up τ 18 g x) 19 g (τ 11 15)) 11 14 (τ 11 14 - 1)) := by
    intro x τ
    rw [Batch_end_11_in, nI_clamp (show g < 2 ^ 31 by omega), if_neg (by rw [jbad2 hg (by decide)]; exact id), if_neg (by rw [jbad2 hg (by decide)]; exact id)]
  have ng : ¬ (nI g < 0 ∨ 12 ≤ g) := by rw [jbad2 hg (by decide)]; exact id
  simp only [nI_clamp (show g < 2 ^ 31 by omega), if_neg ng, hend, jbv_some] at r0
  rw [r0]
  clear r0
  have fold : ∀ (P : Int32), (if (((jm_up σ 17 g P) 17 g) - (σ 11 13)) < ((σ 11 12) * (if (1 : Int32) < ((σ 12 g) - ((σ 16 g) / (20 : Int32))) then ((σ 12 g) - ((σ 16 g) / (20 : Int32))) else (1 : Int32))) then (if (σ 15 g) ≤ (250 : Int32) then some (none, (jm_up (jm_up σ 17 g P) 16 g (if (0 : Int32) < ((σ 16 g) - ((((jm_up σ 17 g P) 17 g) * (σ 14 g)) / (100 : Int32))) then ((σ 16 g) - ((((jm_up σ 17 g P) 17 g) * (σ 14 g)) / (100 : Int32))) else (0 : Int32)))) else some (none, jm_up (jm_up (jm_up (jm_up σ 17 g P) 18 g 2) 19 g ((jm_up σ 17 g P) 11 15)) 11 14 ((jm_up σ 17 g P) 11 14 - 1))) else some ((none : Option Value), jm_up (jm_up (jm_up (jm_up (jm_up (jm_up σ 17 g P) 18 g 1) 19 g ((jm_up σ 17 g P) 11 15)) 11 14 ((jm_up σ 17 g P) 11 14 - 1)) 20 g ((((jm_up (jm_up (jm_up (jm_up σ 17 g P) 18 g 1) 19 g ((jm_up σ 17 g P) 11 15)) 11 14 ((jm_up σ 17 g P) 11 14 - 1)) 13 g) * (((jm_up σ 17 g P) 17 g) - (σ 11 13))) / (10 : Int32))) 11 16 (1 : Int32))) = some (none,
      if ¬ (P - σ 11 13 < σ 11 12 * xH (σ 12 g) (σ 16 g)) then jm_up (jm_up (jm_up (jm_up (jm_up (jm_up σ 17 g P) 18 g 1) 19 g (σ 11 15)) 11 14 (σ 11 14 - 1)) 20 g (σ 13 g * (P - σ 11 13) / 10)) 11 16 1
      else if σ 15 g ≤ 250 then jm_up (jm_up σ 17 g P) 16 g (if 0 < σ 16 g - P * σ 14 g / 100 then σ 16 g - P * σ 14 g / 100 else 0)
      else jm_up (jm_up (jm_up (jm_up σ 17 g P) 18 g 2) 19 g (σ 11 15)) 11 14 (σ 11 14 - 1)) := by
    intro P
    have z1 : (jm_up σ 17 g P) 17 g = P := by rw [jup_s, jupd, if_pos rfl]
    have z2 : (jm_up (jm_up (jm_up (jm_up σ 17 g P) 18 g 1) 19 g ((jm_up σ 17 g P) 11 15)) 11 14 ((jm_up σ 17 g P) 11 14 - 1)) 13 g = σ 13 g := by
      rw [jup_n _ _ _ (by decide), jup_n _ _ _ (by decide), jup_n _ _ _ (by decide), jup_n _ _ _ (by decide)]
    rw [z1, z2, jup_n σ _ P (show 11 ≠ 17 by decide), xH]
    by_cases c1 : P - σ 11 13 < σ 11 12 * (if 1 < σ 12 g - σ 16 g / 20 then σ 12 g - σ 16 g / 20 else 1)
    · rw [if_pos c1, if_neg (not_not_intro c1)]
      by_cases c2 : σ 15 g ≤ 250
      · rw [if_pos c2, if_pos c2]
      · rw [if_neg c2, if_neg c2]
    · rw [if_neg c1, if_pos c1]
  unfold xO xW
  by_cases c : σ 15 g ≤ 100
  · rw [if_pos c, fold 0, xP, if_pos c]
  · rw [if_neg c, fold ((σ 15 g - 100) * σ 16 g / 40), xP, if_neg c]
theorem turnRow_23 {p : Nat} {L : List Nat} (hp : p < 4) (σ : jm_S) (h : RW σ 33 34 p L) : ∃ ρ, jc 43 [.ref 23, .int (nI p)] σ = some (none, ρ) ∧ RW ρ 33 34 p (rot L) ∧ (∀ c, c ≠ 33 → ρ c = σ c) ∧ (∀ j, (j < 12 * p ∨ 12 * p + 12 ≤ j) → ρ 33 j = σ 33 j) := by
  obtain ⟨h1, h2, h3⟩ := id h
  have r0 := Batch_turnRow_23_in (nI p) σ
  rw [nI_clamp (show p < 2 ^ 31 by omega), if_neg (by rw [jbad2 hp (by decide)]; exact id), h1, j12a] at r0
  by_cases c : L.length ≤ 1
  · rw [if_pos (by rw [show (1 : Int32) = nI 1 by decide +kernel]; exact nI_le c (by decide))] at r0
    exact ⟨σ, r0, by rw [rot_one c]; exact h, fun _ _ => rfl, fun _ _ => rfl⟩
  · have e1 : nI L.length - 1 = nI (L.length - 1) := by
      rw [show L.length = (L.length - 1) + 1 by omega, nI_pred]; rfl
    have e2 : nI (12 * p) + nI L.length - 1 = nI (12 * p + (L.length - 1)) := by
      rw [nI_add, show 12 * p + L.length = (12 * p + (L.length - 1)) + 1 by omega, nI_pred]
    rw [if_neg (by rw [show (1 : Int32) = nI 1 by decide +kernel]; exact nI_ge (by omega) (by omega)), nI_clamp (show 12 * p < 2 ^ 31 by omega), if_neg (by rw [jbad2 (show 12 * p < 48 by omega) (by decide)]; exact id), e1, e2, nI_1, nI_clamp (show 12 * p + 1 < 2 ^ 31 by omega), nI_clamp (show L.length - 1 < 2 ^ 31 by omega), nI_clamp (show 12 * p + (L.length - 1) < 2 ^ 31 by omega)] at r0
    rw [if_neg (by
      rintro (q | q | q | q | q)
      · exact nI_pos (by omega) q
      · exact nI_pos (by omega) q
      · exact nI_pos (by omega) q
      · omega
      · omega), if_neg (by rw [jbad2 (show 12 * p + (L.length - 1) < 48 by omega) (by decide)]; exact id)] at r0
    refine ⟨_, r0, ⟨?_, ?_, fun i hi => ?_⟩, fun c hc => by rw [jup_n _ _ _ hc, jrow_n _ _ hc], fun j hj => ?_⟩
    · rw [jup_n _ _ _ (by decide), jrow_n _ _ (by decide), h1, rot_len]
    · rw [rot_len]; exact h2
    · rw [rot_len] at hi
      rw [rot_getD hi, jup_s, jupd, jrow_s]
      by_cases c2 : i + 1 < L.length
      · rw [if_pos c2, if_neg (by omega)]
        refine ⟨(h3 _ c2).1, ?_⟩
        rw [pk_cpy_in (by omega) (by omega), ← (h3 _ c2).2]
        congr 1; omega
      · rw [if_neg c2, if_pos (by omega)]
        have := h3 0 (by omega)
        rw [Nat.add_zero] at this
        exact this
    · rw [jup_s, jupd, if_neg (by omega), jrow_s, pk_cpy_out (by omega)]
theorem warmRow_loop_23 {p : Nat} {L : List Nat} (hp : p < 4) (x2 q : Int32) (hq : ¬ q = 0) : ∀ (k i : Nat) (x : Int32) (u8 u9 : Option Value) (σ : jm_S), i + k = L.length → RW σ 33 34 p L → jv 44 24 [some (.ref 23), some (.int (nI p)), some (.int x2), some (.int q), some (.int x), some (.int (nI (12 * p))), some (.int (nI (12 * p + L.length))), some (.int (nI (12 * p + i))), u8, u9] [] σ = some (none, jm_row σ 27 (warmL q (L.drop i) x (σ 27))) := by
  intro k
  induction k with
  | zero =>
    intro i x u8 u9 σ hi h
    have h2 := h.2.1
    rw [Batch_warmRow_23_L24, if_pos (nI_le (by omega) (by omega)), List.drop_of_length_le (by omega)]
    congr 2
    funext c
    by_cases hc : c = 27
    · subst hc; rw [jrow_s]; rfl
    · rw [jrow_n _ _ hc]
  | succ k ih =>
    intro i x u8 u9 σ hi h
    have h2 := h.2.1
    obtain ⟨g1, g2⟩ := h.2.2 i (by omega)
    have b1 := jbad2 (show 12 * p + i < 48 by omega) (by decide)
    rw [Batch_warmRow_23_L24, if_neg (nI_ge (by omega) (by omega)), nI_clamp (show 12 * p + i < 2 ^ 31 by omega), if_neg (by rw [b1]; exact id), g2, nI_clamp (show L.getD i 0 < 2 ^ 31 by omega), if_neg (by rw [jbad2 g1 (by decide)]; exact id), if_neg hq, if_neg (by rw [jbad2 g1 (by decide)]; exact id), nI_1, show 12 * p + i + 1 = 12 * p + (i + 1) by omega]
    rw [ih (i + 1) _ _ _ _ (by omega) (RW_fr h (by rw [jup_n _ _ _ (by decide)]) (fun j _ => by rw [jup_n _ _ _ (by decide)]))]
    rw [drop_getD (L := L) (i := i) (by omega), warmL]
    congr 2
    funext c
    by_cases hc : c = 27
    · subst hc; rw [jrow_s, jrow_s, jup_s]
    · rw [jrow_n _ _ hc, jrow_n _ _ hc, jup_n _ _ _ hc]
theorem warmRow_23 {p : Nat} {L : List Nat} (hp : p < 4) (x q : Int32) (hq : ¬ q = 0) (σ : jm_S) (h : RW σ 33 34 p L) : jc 44 [.ref 23, .int (nI p), .int x, .int q] σ = some (none, jm_row σ 27 (warmL q L x (σ 27))) := by
  rw [Batch_warmRow_23_in, nI_clamp (show p < 2 ^ 31 by omega), if_neg (by rw [jbad2 hp (by decide)]; exact id), h.1, j12a, nI_add]
  have := warmRow_loop_23 hp x q hq L.length 0 x none none σ (by omega) h
  rw [Nat.add_zero] at this
  rw [this]; rfl
/-- one row cleared of those that are open or out -/
theorem clear_loop_23 {p : Nat} {L : List Nat} (hp : p < 4) (al : Nat → Bool) : ∀ (k i : Nat) (u5 : Option Value) (σ : jm_S), i + k = L.length → L.length ≤ 12 → σ 34 p = nI L.length → (∀ g, g ∈ L → g < 12 ∧ (al g = true ↔ (σ 30 g = 0 ∨ σ 30 g = 2))) → (∀ j, j < ((L.take i).filter al).length → σ 33 (12 * p + j) = nI (((L.take i).filter al).getD j 0)) → (∀ j, i ≤ j → j < L.length → σ 33 (12 * p + j) = nI (L.getD j 0)) →
    ∃ ρ x2 x3 x4 u5', jv 42 17 [some (.ref 23), some (.int (nI p)), some (.int (nI (12 * p))), some (.int (nI ((L.take i).filter al).length)), some (.int (nI i)), u5] [] σ = jv 42 2 [some (.ref 23), some (.int (nI (p + 1))), x2, x3, x4, u5'] [] ρ ∧ RW ρ 33 34 p (L.filter al) ∧ (∀ c, c ≠ 33 → c ≠ 34 → ρ c = σ c) ∧ (∀ j, j ≠ p → ρ 34 j = σ 34 j) ∧ (∀ j, (j < 12 * p ∨ 12 * p + 12 ≤ j) → ρ 33 j = σ 33 j) := by
  intro k
  induction k with
  | zero =>
    intro i u5 σ hi hL hh hal h1 h2
    rw [Batch_clearRows_23_L17, nI_clamp (show p < 2 ^ 31 by omega), if_neg (by rw [jbad2 hp (by decide)]; exact id), hh, if_pos (nI_le (by omega) (by omega)), if_neg (by rw [jbad2 hp (by decide)]; exact id), nI_1]
    rw [List.take_of_length_le (by omega)] at h1 ⊢
    have hl : (L.filter al).length ≤ 12 := Nat.le_trans (List.length_filter_le _ _) hL
    refine ⟨_, _, _, _, _, rfl, ⟨?_, hl, fun j hj => ⟨?_, ?_⟩⟩, fun c _ h22 => by rw [jup_n _ _ _ h22], fun j hj => ?_, fun j _ => ?_⟩
    · rw [jup_s, jupd, if_pos rfl]
    · exact (hal _ (List.mem_filter.mp (mem_getD hj)).1).1
    · rw [jup_n _ _ _ (by decide)]; exact h1 j hj
    · rw [jup_s, jupd, if_neg hj]
    · rw [jup_n _ _ _ (by decide)]
  | succ k ih =>
    intro i u5 σ hi hL hh hal h1 h2
    have hg := hal (L.getD i 0) (mem_getD (by omega))
    have hle : ((L.take i).filter al).length ≤ i := Nat.le_trans (List.length_filter_le _ _) (by rw [List.length_take]; omega)
    have ht : L.take (i + 1) = L.take i ++ [L.getD i 0] := take_getD (by omega)
    rw [Batch_clearRows_23_L17, nI_clamp (show p < 2 ^ 31 by omega), if_neg (by rw [jbad2 hp (by decide)]; exact id), hh, if_neg (nI_ge (by omega) (by omega)), nI_add (12 * p) i, nI_clamp (show 12 * p + i < 2 ^ 31 by omega), if_neg (by rw [jbad2 (show 12 * p + i < 48 by omega) (by decide)]; exact id), h2 i (Nat.le_refl i) (by omega), nI_clamp (show L.getD i 0 < 2 ^ 31 by have := hg.1; omega), nI_add (12 * p) ((L.take i).filter al).length, nI_clamp (show 12 * p + ((L.take i).filter al).length < 2 ^ 31 by omega)]
    have ng : ¬ (nI (L.getD i 0) < 0 ∨ 12 ≤ L.getD i 0) := by rw [jbad2 hg.1 (by decide)]; exact id
    simp only [if_neg ng, if_neg (show ¬ (nI (12 * p + ((L.take i).filter al).length) < 0 ∨ 48 ≤ 12 * p + ((L.take i).filter al).length) by rw [jbad2 (show 12 * p + ((L.take i).filter al).length < 48 by omega) (by decide)]; exact id), nI_1]
    by_cases c : al (L.getD i 0) = true
    · have e : (L.take (i + 1)).filter al = (L.take i).filter al ++ [L.getD i 0] := by
        rw [ht, List.filter_append]
        congr 1
        rw [List.filter_cons_of_pos c]; rfl
      have el : ((L.take (i + 1)).filter al).length = ((L.take i).filter al).length + 1 := by rw [e, List.length_append]; rfl
      obtain ⟨ρ, x2, x3, x4, u5', g1, g2, g3, g4, g5⟩ := ih (i + 1) (some (.int (nI (L.getD i 0)))) (jm_up σ 33 (12 * p + ((L.take i).filter al).length) (nI (L.getD i 0))) (by omega) hL (by rw [jup_n _ _ _ (by decide)]; exact hh) (fun g hg => by rw [jup_n _ _ _ (by decide)]; exact hal g hg) (fun j hj => by
          rw [el] at hj
          rw [jup_s, jupd, e]
          by_cases cj : j = ((L.take i).filter al).length
          · rw [if_pos (by omega), cj, getD_app_e]
          · rw [if_neg (by omega), getD_app (by omega)]; exact h1 j (by omega)) (fun j hj1 hj2 => by
          rw [jup_s, jupd, if_neg (by omega)]; exact h2 j (by omega) hj2)
      rw [el] at g1
      refine ⟨ρ, x2, x3, x4, u5', ?_, g2, fun c h21 h22 => by rw [g3 c h21 h22, jup_n _ _ _ h21], fun j hj => by rw [g4 j hj, jup_n _ _ _ (by decide)], fun j hj => by rw [g5 j hj, jup_s, jupd, if_neg (by omega)]⟩
      rw [← g1]
      rcases hg.2.mp c with q | q
      · rw [if_pos q]
      · rw [if_neg (by rw [q]; decide), if_neg (fun n => n q)]
    · have e : (L.take (i + 1)).filter al = (L.take i).filter al := by
        rw [ht, List.filter_append, List.filter_cons_of_neg c, List.filter_nil, List.append_nil]
      obtain ⟨ρ, x2, x3, x4, u5', g1, g2, g3, g4, g5⟩ := ih (i + 1) (some (.int (nI (L.getD i 0)))) σ (by omega) hL hh hal (fun j hj => by rw [e] at hj ⊢; exact h1 j hj) (fun j hj1 hj2 => h2 j (by omega) hj2)
      rw [e] at g1
      refine ⟨ρ, x2, x3, x4, u5', ?_, g2, g3, g4, g5⟩
      rw [← g1, if_neg (fun q => c (hg.2.mpr (Or.inl q))), if_pos (fun q => c (hg.2.mpr (Or.inr q)))]
theorem clearRows_23 (al : Nat → Bool) (C : Nat → List Nat) : ∀ (k p : Nat) (u2 u3 u4 u5 : Option Value) (σ : jm_S), p + k = 4 → (∀ j, j < 4 → p ≤ j → RW σ 33 34 j (C j) ∧ ∀ g, g ∈ C j → g < 12 ∧ (al g = true ↔ (σ 30 g = 0 ∨ σ 30 g = 2))) → (∀ j, j < p → RW σ 33 34 j ((C j).filter al)) → ∃ ρ, jv 42 2 [some (.ref 23), some (.int (nI p)), u2, u3, u4, u5] [] σ = some (none, ρ) ∧ (∀ j, j < 4 → RW ρ 33 34 j ((C j).filter al)) ∧ (∀ c, c ≠ 33 → c ≠ 34 → c ≠ 23 → ρ c = σ c) ∧ (∀ j, j ≠ 16 → ρ 23 j = σ 23 j) ∧ ρ 23 16 = 0 := by
  intro k
  induction k with
  | zero =>
    intro p u2 u3 u4 u5 σ hp h1 h2
    rw [Batch_clearRows_23_L2, if_pos (by rw [show (4 : Int32) = nI 4 by decide +kernel]; exact nI_le (by omega) (by omega))]
    refine ⟨_, rfl, fun j hj => RW_fr (h2 j (by omega)) (by rw [jup_n _ _ _ (by decide)]) (fun i _ => by rw [jup_n _ _ _ (by decide)]), fun c _ _ h => by rw [jup_n _ _ _ h], fun j hj => by rw [jup_s, jupd, if_neg hj], by rw [jup_s, jupd, if_pos rfl]⟩
  | succ k ih =>
    intro p u2 u3 u4 u5 σ hp h1 h2
    obtain ⟨a1, a2⟩ := h1 p (by omega) (Nat.le_refl p)
    obtain ⟨τ, x2, x3, x4, u5', e1, e2, e3, e4, e5⟩ := clear_loop_23 (L := C p) (by omega : p < 4) al (C p).length 0 u5 σ (by omega) a1.2.1 a1.1 a2 (fun j hj => by simp at hj) (fun j _ hj => (a1.2.2 j hj).2)
    obtain ⟨ρ, g1, g2, g3, g4, g5⟩ := ih (p + 1) x2 x3 x4 u5' τ (by omega) (fun j hj hpj => by
        obtain ⟨c1, c2⟩ := h1 j hj (by omega)
        refine ⟨RW_fr c1 (e4 j (by omega)) (fun i hi => e5 _ (by omega)), fun g hg => ?_⟩
        rw [e3 30 (by decide) (by decide)]; exact c2 g hg) (fun j hj => by
        by_cases c : j = p
        · rw [c]; exact e2
        · exact RW_fr (h2 j (by omega)) (e4 j c) (fun i hi => e5 _ (by omega)))
    refine ⟨ρ, ?_, g2, fun c h21 h22 hb => by rw [g3 c h21 h22 hb, e3 c h21 h22], fun j hj => by rw [g4 j hj, e3 23 (by decide) (by decide)], g5⟩
    rw [Batch_clearRows_23_L2, if_neg (by rw [show (4 : Int32) = nI 4 by decide +kernel]; exact nI_ge (by omega) (by omega)), j12a, ← g1, ← e1, List.take_zero, List.filter_nil, List.length_nil, nI_0]
theorem strain_23 {g : Nat} (hg : g < 12) (σ : jm_S) : jc 45 [.ref 23, .int (nI g)] σ = some (none,
    if xO (σ 23 13) (σ 23 12) (σ 24 g) (σ 27 g) (σ 28 g) then jm_up (jm_up (jm_up (jm_up (jm_up (jm_up σ 29 g (xP (σ 27 g) (σ 28 g))) 30 g 1) 31 g (σ 23 15)) 23 14 (σ 23 14 - 1)) 32 g (σ 25 g * (xP (σ 27 g) (σ 28 g) - σ 23 13) / 10)) 23 16 1
    else if σ 27 g ≤ 250 then jm_up (jm_up σ 29 g (xP (σ 27 g) (σ 28 g))) 28 g (xW (σ 26 g) (σ 27 g) (σ 28 g))
    else jm_up (jm_up (jm_up (jm_up σ 29 g (xP (σ 27 g) (σ 28 g))) 30 g 2) 31 g (σ 23 15)) 23 14 (σ 23 14 - 1)) := by
  have r0 := Batch_strain_23_in (nI g) σ
  have hend : ∀ (x : Int32) (τ : jm_S), jc 46 [.ref 23, .int (nI g), .int x] τ = some (none, jm_up (jm_up (jm_up τ 30 g x) 31 g (τ 23 15)) 23 14 (τ 23 14 - 1)) := by
    intro x τ
    rw [Batch_end_23_in, nI_clamp (show g < 2 ^ 31 by omega), if_neg (by rw [jbad2 hg (by decide)]; exact id), if_neg (by rw [jbad2 hg (by decide)]; exact id)]
  have ng : ¬ (nI g < 0 ∨ 12 ≤ g) := by rw [jbad2 hg (by decide)]; exact id
  simp only [nI_clamp (show g < 2 ^ 31 by omega), if_neg ng, hend, jbv_some] at r0
  rw [r0]
  clear r0
  have fold : ∀ (P : Int32), (if (((jm_up σ 29 g P) 29 g) - (σ 23 13)) < ((σ 23 12) * (if (1 : Int32) < ((σ 24 g) - ((σ 28 g) / (20 : Int32))) then ((σ 24 g) - ((σ 28 g) / (20 : Int32))) else (1 : Int32))) then (if (σ 27 g) ≤ (250 : Int32) then some (none, (jm_up (jm_up σ 29 g P) 28 g (if (0 : Int32) < ((σ 28 g) - ((((jm_up σ 29 g P) 29 g) * (σ 26 g)) / (100 : Int32))) then ((σ 28 g) - ((((jm_up σ 29 g P) 29 g) * (σ 26 g)) / (100 : Int32))) else (0 : Int32)))) else some (none, jm_up (jm_up (jm_up (jm_up σ 29 g P) 30 g 2) 31 g ((jm_up σ 29 g P) 23 15)) 23 14 ((jm_up σ 29 g P) 23 14 - 1))) else some ((none : Option Value), jm_up (jm_up (jm_up (jm_up (jm_up (jm_up σ 29 g P) 30 g 1) 31 g ((jm_up σ 29 g P) 23 15)) 23 14 ((jm_up σ 29 g P) 23 14 - 1)) 32 g ((((jm_up (jm_up (jm_up (jm_up σ 29 g P) 30 g 1) 31 g ((jm_up σ 29 g P) 23 15)) 23 14 ((jm_up σ 29 g P) 23 14 - 1)) 25 g) * (((jm_up σ 29 g P) 29 g) - (σ 23 13))) / (10 : Int32))) 23 16 (1 : Int32))) = some (none,
      if ¬ (P - σ 23 13 < σ 23 12 * xH (σ 24 g) (σ 28 g)) then jm_up (jm_up (jm_up (jm_up (jm_up (jm_up σ 29 g P) 30 g 1) 31 g (σ 23 15)) 23 14 (σ 23 14 - 1)) 32 g (σ 25 g * (P - σ 23 13) / 10)) 23 16 1
      else if σ 27 g ≤ 250 then jm_up (jm_up σ 29 g P) 28 g (if 0 < σ 28 g - P * σ 26 g / 100 then σ 28 g - P * σ 26 g / 100 else 0)
      else jm_up (jm_up (jm_up (jm_up σ 29 g P) 30 g 2) 31 g (σ 23 15)) 23 14 (σ 23 14 - 1)) := by
    intro P
    have z1 : (jm_up σ 29 g P) 29 g = P := by rw [jup_s, jupd, if_pos rfl]
    have z2 : (jm_up (jm_up (jm_up (jm_up σ 29 g P) 30 g 1) 31 g ((jm_up σ 29 g P) 23 15)) 23 14 ((jm_up σ 29 g P) 23 14 - 1)) 25 g = σ 25 g := by
      rw [jup_n _ _ _ (by decide), jup_n _ _ _ (by decide), jup_n _ _ _ (by decide), jup_n _ _ _ (by decide)]
    rw [z1, z2, jup_n σ _ P (show 23 ≠ 29 by decide), xH]
    by_cases c1 : P - σ 23 13 < σ 23 12 * (if 1 < σ 24 g - σ 28 g / 20 then σ 24 g - σ 28 g / 20 else 1)
    · rw [if_pos c1, if_neg (not_not_intro c1)]
      by_cases c2 : σ 27 g ≤ 250
      · rw [if_pos c2, if_pos c2]
      · rw [if_neg c2, if_neg c2]
    · rw [if_neg c1, if_pos c1]
  unfold xO xW
  by_cases c : σ 27 g ≤ 100
  · rw [if_pos c, fold 0, xP, if_pos c]
  · rw [if_neg c, fold ((σ 27 g - 100) * σ 28 g / 40), xP, if_neg c]
