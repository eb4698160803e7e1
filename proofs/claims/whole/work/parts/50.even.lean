/-! ===== even heats ===== -/
abbrev EV (G : Nat) (T : Nat → Int32) (pl : Nat → Nat) (se : Nat → Int32) (n h : Nat) : Sm := run G T (fun _ => true) (se 0) (se 1) pl (evZ (nI h)) n
def evO (G : Nat) (T : Nat → Int32) (pl : Nat → Nat) (se : Nat → Int32) (n h : Nat) : Int32 := nI (nmN G (fun _ => true) 1 (EV G T pl se n h))
def evB (G : Nat) (T : Nat → Int32) (pl : Nat → Nat) (se : Nat → Int32) (n h : Nat) : Int32 := nI (nmN G (fun _ => true) 2 (EV G T pl se n h))
theorem CS_fr {G : Nat} {I : Nat → Bool} {Y : Sm} {σ ρ : jm_S} (h : CS_11 G I Y σ) (h1 : ρ 11 = σ 11) (h2 : ρ 18 = σ 18) (h3 : ρ 19 = σ 19) (h4 : ρ 20 = σ 20) : CS_11 G I Y ρ := by
  unfold CS_11 at *
  rw [h1, h2, h3, h4]; exact h
theorem i99 : (99 : Int32) = nI 99 := by decide +kernel
theorem i100 : (100 : Int32) = nI 100 := by decide +kernel
theorem heats_loop {G : Nat} (hG : G ≤ 12) {T : Nat → Int32} {pl : Nat → Nat} {P : Pn} {se : Nat → Int32} {n : Nat} (hn : n ≤ 200) : ∀ (k h : Nat) (σ : jm_S), h + k = 100 → KC G T pl P se σ → (∀ j, 1 ≤ j → j < h → σ 36 j = evO G T pl se n j ∧ σ 37 j = evB G T pl se n j) → ∃ ρ, jv 65 2 [some (.ref 0), some (.int (nI n)), some (.int (nI h))] [] σ = some (none, ρ) ∧ (∀ j, 1 ≤ j → j < 100 → ρ 36 j = evO G T pl se n j ∧ ρ 37 j = evB G T pl se n j) ∧ cFr σ ρ := by
  intro k
  induction k with
  | zero =>
    intro h σ hh hK ho
    have e : h = 100 := by omega
    subst e
    rw [P_tryHeats_L2, if_pos (by rw [i99]; exact nI_lt (by omega) (by omega))]
    exact ⟨σ, rfl, ho, cFr.rf⟩
  | succ k ih =>
    intro h σ hh hK ho
    obtain ⟨τ, a1, a2, a3⟩ := fillPan hG σ hK
    obtain ⟨τ1, b1, b2, b3⟩ := evenly_11 hG (x := nI h) (pl := pl) hn τ a2
    have b3' : cFr τ τ1 := cFr.of b3 (by decide)
    have nh : ¬ (nI h < 0 ∨ 100 ≤ h) := by rw [jbad2 (show h < 100 by omega) (by decide)]; exact id
    have cs2 : CS_11 G (fun _ => true) (EV G T pl se n h) (jm_up τ1 36 h (evO G T pl se n h)) := CS_fr b2 (by rw [jup_n _ _ _ (by decide)]) (by rw [jup_n _ _ _ (by decide)]) (by rw [jup_n _ _ _ (by decide)]) (by rw [jup_n _ _ _ (by decide)])
    have o1 : jc 51 [.ref 11, .int (nI n)] τ1 = some (some (.int (evO G T pl se n h)), τ1) := openAt_11 hG (Nat.le_refl n) hn τ1 b2
    have o2 : jc 58 [.ref 11, .int (nI n)] (jm_up τ1 36 h (evO G T pl se n h)) = some (some (.int (evB G T pl se n h)), jm_up τ1 36 h (evO G T pl se n h)) := burntAt_11 hG (Nat.le_refl n) hn _ cs2
    have fr : cFr σ (jm_up (jm_up τ1 36 h (evO G T pl se n h)) 37 h (evB G T pl se n h)) := by
      intro c hc
      rw [jup_n _ _ _ (fun e => hc (by rw [e]; decide)), jup_n _ _ _ (fun e => hc (by rw [e]; decide)), b3' c hc, a3 c hc]
    obtain ⟨ρ, c1, c2, c3⟩ := ih (h + 1) _ (by omega) (KC_fr hK fr) (fun j h1 h2 => by
      rw [jup_n _ _ _ (by decide), jup_s, jup_s, jupd, jupd, jup_n _ _ _ (by decide), b3 36 (by decide), b3 37 (by decide)]
      by_cases c : j = h
      · rw [if_pos c, if_pos c, c]; exact ⟨rfl, rfl⟩
      · rw [if_neg c, if_neg c]
        obtain ⟨q1, q2⟩ := ho j h1 (by omega)
        obtain ⟨τ', a1', a2', a3'⟩ := fill_11 hG (se 0) (se 1) σ hK.1
        have ee : τ = τ' := by
          rw [P_fillPan_in, hK.2.1 1 (by omega), hK.2.1 0 (by omega), a1', jbv_some] at a1
          injection a1 with a1; injection a1 with _ a1; exact a1.symm
        rw [ee, a3' 36 (by decide), a3' 37 (by decide)]
        exact ⟨q1, q2⟩)
    refine ⟨ρ, ?_, c2, fr.trans c3⟩
    rw [P_tryHeats_L2, if_neg (by rw [i99]; exact nI_nlt (by omega) (by omega)), a1, jbv_some, b1, jbv_some, o1, jbi_some, nI_clamp (show h < 2 ^ 31 by omega), if_neg nh, o2, jbi_some, if_neg nh, nI_1, c1]
theorem tryHeats {G : Nat} (hG : G ≤ 12) {T : Nat → Int32} {pl : Nat → Nat} {P : Pn} {se : Nat → Int32} {n : Nat} (hn : n ≤ 200) (σ : jm_S) (hK : KC G T pl P se σ) : ∃ ρ, jc 65 [.ref 0, .int (nI n)] σ = some (none, ρ) ∧ (∀ j, 1 ≤ j → j < 100 → ρ 36 j = evO G T pl se n j ∧ ρ 37 j = evB G T pl se n j) ∧ cFr σ ρ := by
  have := heats_loop hG hn 99 1 σ (by omega) hK (fun j h1 h2 => by omega)
  rw [show nI 1 = 1 by decide +kernel] at this
  rw [P_tryHeats_in]
  exact this
theorem find_loop {G : Nat} (hG : G ≤ 12) {T : Nat → Int32} {pl : Nat → Nat} {se : Nat → Int32} {n : Nat} (hn : n ≤ 200) : ∀ (k h : Nat) (σ : jm_S), h + k = 100 → 1 ≤ h → DM σ G T pl → σ 61 20 = se 0 → σ 61 21 = se 1 → σ 61 23 = -1 → (∀ g, g < G → (inB (σ 61 24) g ↔ (fun _ : Nat => true) g = true)) → (∀ j, 1 ≤ j → j < h → σ 85 j = evO G T pl se n j ∧ σ 86 j = evB G T pl se n j) → ∃ ρ, jv 177 6 [some (.ref 61), some (.int (nI n)), some (.int (nI h))] [] σ = some (none, ρ) ∧ (∀ j, 1 ≤ j → j < 100 → ρ 85 j = evO G T pl se n j ∧ ρ 86 j = evB G T pl se n j) ∧ jFr mS mK' σ ρ := by
  intro k
  induction k with
  | zero =>
    intro h σ hh h1 hD h20 h21 h23 hI ho
    have e : h = 100 := by omega
    subst e
    rw [M_findEven_L6, if_pos (by decide +kernel)]
    exact ⟨σ, rfl, ho, jFr.rf⟩
  | succ k ih =>
    intro h σ hh h1 hD h20 h21 h23 hI ho
    have k61 : ∀ j, j ≠ 22 → (jm_up σ 61 22 (nI h)) 61 j = σ 61 j := fun j hj => by rw [jup_s, jupd, if_neg hj]
    have k22 : (jm_up σ 61 22 (nI h)) 61 22 = nI h := by rw [jup_s, jupd, if_pos rfl]
    have kc : ∀ c, c ≠ 61 → (jm_up σ 61 22 (nI h)) c = σ c := fun c hc => by rw [jup_n _ _ _ hc]
    obtain ⟨τ, a1, a2, a3, a4⟩ := M_goesOn hG (I := fun _ => true) (a := se 0) (s := se 1) (Z := evZ (nI h)) hn (jm_up σ 61 22 (nI h)) (by rw [DM, k61 5 (by decide), kc 66 (by decide), kc 67 (by decide)]; exact hD) (by rw [k61 24 (by decide)]; exact hI) (by rw [k61 20 (by decide)]; exact h20) (by rw [k61 21 (by decide)]; exact h21) (mZ_even k22 (nI_ne_m1 (by omega)) (by rw [k61 23 (by decide)]; exact h23))
    have nh : ¬ (nI h < 0 ∨ 100 ≤ h) := by rw [jbad2 (show h < 100 by omega) (by decide)]; exact id
    have m2 : MR G T (fun _ => true) (se 0) (se 1) (EV G T pl se n h) (jm_up τ 85 h (evO G T pl se n h)) := by
      unfold MR RW at a2 ⊢
      rw [jup_n _ _ _ (by decide), jup_n _ _ _ (by decide), jup_n _ _ _ (by decide), jup_n _ _ _ (by decide), jup_n _ _ _ (by decide), jup_n _ _ _ (by decide), jup_n _ _ _ (by decide), jup_n _ _ _ (by decide), jup_n _ _ _ (by decide), jup_n _ _ _ (by decide)]
      exact a2
    have o1 : jc 168 [.ref 61, .int 1] τ = some (some (.int (evO G T pl se n h)), τ) := M_many hG 1 τ a2
    have o2 : jc 168 [.ref 61, .int 2] (jm_up τ 85 h (evO G T pl se n h)) = some (some (.int (evB G T pl se n h)), jm_up τ 85 h (evO G T pl se n h)) := M_many hG 2 _ m2
    have n61 : (jm_up (jm_up τ 85 h (evO G T pl se n h)) 86 h (evB G T pl se n h)) 61 = jm_up σ 61 22 (nI h) 61 := by
      rw [jup_n _ _ _ (by decide), jup_n _ _ _ (by decide), a4 61 (by decide)]
    have nc : ∀ c, c ∉ mS → c ≠ 61 → (jm_up (jm_up τ 85 h (evO G T pl se n h)) 86 h (evB G T pl se n h)) c = σ c := by
      intro c hc h61
      simp only [List.mem_cons, List.not_mem_nil, or_false, not_or] at hc
      rw [jup_n _ _ _ (by omega), jup_n _ _ _ (by omega), a4 c (by simp; omega), kc c h61]
    have fr : jFr mS mK' σ (jm_up (jm_up τ 85 h (evO G T pl se n h)) 86 h (evB G T pl se n h)) := by
      refine ⟨nc, fun j hj => ?_⟩
      rw [n61, k61 j (fun e => hj (by rw [e]; decide))]
    obtain ⟨ρ, c1, c2, c3⟩ := ih (h + 1) (jm_up (jm_up τ 85 h (evO G T pl se n h)) 86 h (evB G T pl se n h)) (by omega) (by omega) (by rw [DM, n61, k61 5 (by decide), nc 66 (by decide) (by decide), nc 67 (by decide) (by decide)]; exact hD) (by rw [n61, k61 20 (by decide)]; exact h20) (by rw [n61, k61 21 (by decide)]; exact h21) (by rw [n61, k61 23 (by decide)]; exact h23) (by rw [n61, k61 24 (by decide)]; exact hI) (fun j q1 q2 => by
      rw [jup_n _ _ _ (by decide), jup_s, jup_s, jupd, jupd, jup_n _ _ _ (by decide), a4 85 (by decide), a4 86 (by decide), kc 85 (by decide), kc 86 (by decide)]
      by_cases c : j = h
      · rw [if_pos c, if_pos c, c]; exact ⟨rfl, rfl⟩
      · rw [if_neg c, if_neg c]; exact ho j q1 (by omega))
    refine ⟨ρ, ?_, c2, fr.trans c3⟩
    rw [M_findEven_L6, if_neg (by rw [i100]; exact nI_ge (by omega) (by omega)), a1, jbv_some, o1, jbi_some, nI_clamp (show h < 2 ^ 31 by omega), if_neg nh, o2, jbi_some, if_neg nh, nI_1, c1]
theorem M_findEven {G : Nat} (hG : G ≤ 12) {T : Nat → Int32} {pl : Nat → Nat} {P : Pn} {se : Nat → Int32} {n : Nat} (hn : n ≤ 200) (σ : jm_S) (hK : KM G T pl P se σ) : ∃ ρ, jc 177 [.ref 61, .int (nI n)] σ = some (none, ρ) ∧ (∀ j, 1 ≤ j → j < 100 → ρ 85 j = evO G T pl se n j ∧ ρ 86 j = evB G T pl se n j) ∧ jFr mS mK' σ ρ := by
  obtain ⟨τ, a1, ⟨t1, t2, t3, t4, t5, t6⟩, a3⟩ := M_tries hG σ hK
  obtain ⟨ρ, b1, b2, b3⟩ := find_loop hG hn 99 1 τ (by omega) (by omega) (KM_fr hK a3).1 t1 t2 t4 t5 (fun j h1 h2 => by omega)
  rw [show nI 1 = 1 by decide +kernel] at b1
  exact ⟨ρ, by rw [M_findEven_in, a1, jbv_some, b1], b2, a3.trans b3⟩
/-! the best of them -/
def bhF (op bu : Nat → Int32) : Nat → Nat → Nat → Nat
  | 0, _, b => b
  | k + 1, h, b => if op b < op h ∨ (op h = op b ∧ ¬ bu b ≤ bu h) then bhF op bu k (h + 1) h else bhF op bu k (h + 1) b
theorem bhF_in (op bu : Nat → Int32) : ∀ (k h b : Nat), 1 ≤ b → b < 100 → 1 ≤ h → h + k = 100 → 1 ≤ bhF op bu k h b ∧ bhF op bu k h b < 100 := by
  intro k
  induction k with
  | zero => intro h b h1 h2 _ _; exact ⟨h1, h2⟩
  | succ k ih =>
    intro h b h1 h2 h3 h4
    rw [bhF]
    split
    · exact ih _ _ h3 (by omega) (by omega) (by omega)
    · exact ih _ _ h1 h2 (by omega) (by omega)
theorem bestHeat_loop {op bu : Nat → Int32} (σ : jm_S) (ho : ∀ j, 1 ≤ j → j < 100 → σ 36 j = op j ∧ σ 37 j = bu j) : ∀ (k h b : Nat), h + k = 100 → 1 ≤ h → 1 ≤ b → b < 100 → jv 68 4 [some (.ref 35), some (.int (nI b)), some (.int (nI h))] [] σ = some (some (.int (nI (bhF op bu k h b))), σ) := by
  intro k
  induction k with
  | zero =>
    intro h b hh h1 b1 b2
    rw [Evens_bestHeat_L4, if_pos (by rw [i99]; exact nI_lt (by omega) (by omega))]; rfl
  | succ k ih =>
    intro h b hh h1 b1 b2
    have nh : ¬ (nI h < 0 ∨ 100 ≤ h) := by rw [jbad2 (show h < 100 by omega) (by decide)]; exact id
    have nb : ¬ (nI b < 0 ∨ 100 ≤ b) := by rw [jbad2 (show b < 100 by omega) (by decide)]; exact id
    rw [Evens_bestHeat_L4, if_neg (by rw [i99]; exact nI_nlt (by omega) (by omega)), nI_clamp (show h < 2 ^ 31 by omega), nI_clamp (show b < 2 ^ 31 by omega), if_neg nh, if_neg nb, if_neg nh, if_neg nb, if_neg nh, if_neg nb, (ho h h1 (by omega)).1, (ho h h1 (by omega)).2, (ho b b1 b2).1, (ho b b1 b2).2, nI_1, ih (h + 1) h (by omega) (by omega) h1 (by omega), ih (h + 1) b (by omega) (by omega) b1 b2, bhF]
    by_cases c1 : op b < op h
    · rw [if_pos c1, if_pos (Or.inl c1)]
    · rw [if_neg c1]
      by_cases c2 : op h = op b
      · rw [if_neg (not_not_intro c2)]
        by_cases c3 : bu b ≤ bu h
        · rw [if_pos c3, if_neg (by rintro (w | w); exact c1 w; exact w.2 c3)]
        · rw [if_neg c3, if_pos (Or.inr ⟨c2, c3⟩)]
      · rw [if_pos c2, if_neg (by rintro (w | w); exact c1 w; exact c2 w.1)]
def evV (op bu : Nat → Int32) (w : Int32) : Int32 := if w = 0 then nI (bhF op bu 98 2 1) else if w = 1 then op (bhF op bu 98 2 1) else bu (bhF op bu 98 2 1)
theorem Evens_tell {op bu : Nat → Int32} (σ : jm_S) (ho : ∀ j, 1 ≤ j → j < 100 → σ 36 j = op j ∧ σ 37 j = bu j) (w : Int32) : jc 67 [.ref 35, .int w] σ = some (some (.int (evV op bu w)), σ) := by
  obtain ⟨b1, b2⟩ := bhF_in op bu 98 2 1 (by omega) (by omega) (by omega) (by omega)
  have l := bestHeat_loop σ ho 98 2 1 (by omega) (by omega) (by omega) (by omega)
  rw [show nI 1 = 1 by decide +kernel, show nI 2 = 2 by decide +kernel] at l
  have nb : ¬ (nI (bhF op bu 98 2 1) < 0 ∨ 100 ≤ bhF op bu 98 2 1) := by rw [jbad2 b2 (by decide)]; exact id
  rw [Evens_tell_in, Evens_bestHeat_in, l, jbi_some, nI_clamp (show bhF op bu 98 2 1 < 2 ^ 31 by omega), if_neg nb, if_neg nb, (ho _ b1 b2).1, (ho _ b1 b2).2, evV]
  by_cases c1 : w = 0
  · rw [if_neg (not_not_intro c1), if_pos c1]
  · rw [if_pos c1, if_neg c1]
    by_cases c2 : w = 1
    · rw [if_neg (not_not_intro c2), if_pos c2]
    · rw [if_pos c2, if_neg c2]
theorem M_even_loop {op bu : Nat → Int32} (x1 w : Int32) (σ : jm_S) (ho : ∀ j, 1 ≤ j → j < 100 → σ 85 j = op j ∧ σ 86 j = bu j) : ∀ (k h b : Nat) (u : Option Value), h + k = 100 → 1 ≤ h → 1 ≤ b → b < 100 → jv 176 10 [some (.ref 61), some (.int x1), some (.int w), some (.int (nI b)), some (.int (nI h)), u] [] σ = some (some (.int (if w = 0 then nI (bhF op bu k h b) else if w = 1 then op (bhF op bu k h b) else bu (bhF op bu k h b))), σ) := by
  intro k
  induction k with
  | zero =>
    intro h b u hh h1 b1 b2
    have nb : ¬ (nI b < 0 ∨ 100 ≤ b) := by rw [jbad2 b2 (by decide)]; exact id
    rw [M_evenOf_L10, if_pos (by rw [i100]; exact nI_le (by omega) (by omega)), nI_clamp (show b < 2 ^ 31 by omega), if_neg nb, if_neg nb, (ho _ b1 b2).1, (ho _ b1 b2).2, bhF]
    by_cases c1 : w = 0
    · rw [if_neg (not_not_intro c1), if_pos c1]
    · rw [if_pos c1, if_neg c1]
      by_cases c2 : w = 1
      · rw [if_neg (not_not_intro c2), if_pos c2]
      · rw [if_pos c2, if_neg c2]
  | succ k ih =>
    intro h b u hh h1 b1 b2
    have nh : ¬ (nI h < 0 ∨ 100 ≤ h) := by rw [jbad2 (show h < 100 by omega) (by decide)]; exact id
    have nb : ¬ (nI b < 0 ∨ 100 ≤ b) := by rw [jbad2 (show b < 100 by omega) (by decide)]; exact id
    have r0 := M_evenOf_L10 x1 w (nI b) (nI h) u σ
    rw [if_neg (by rw [i100]; exact nI_ge (by omega) (by omega)), nI_clamp (show h < 2 ^ 31 by omega), nI_clamp (show b < 2 ^ 31 by omega), if_neg nh, if_neg nb, if_neg nh, if_neg nb, if_neg nh, if_neg nb, (ho h h1 (by omega)).1, (ho h h1 (by omega)).2, (ho b b1 b2).1, (ho b b1 b2).2, nI_1, ih (h + 1) h _ (by omega) (by omega) h1 (by omega), ih (h + 1) b _ (by omega) (by omega) b1 b2] at r0
    rw [r0, bhF]
    by_cases c1 : op b < op h
    · simp only [if_pos c1, if_pos (show op b < op h ∨ (op h = op b ∧ ¬ bu b ≤ bu h) from Or.inl c1)]
    · simp only [if_neg c1]
      by_cases c2 : op h = op b
      · simp only [if_neg (not_not_intro c2)]
        by_cases c3 : bu b ≤ bu h
        · simp only [if_pos c3, if_neg (show ¬ (op b < op h ∨ (op h = op b ∧ ¬ bu b ≤ bu h)) by rintro (w | w); exact c1 w; exact w.2 c3)]
        · simp only [if_neg c3, if_pos (show op b < op h ∨ (op h = op b ∧ ¬ bu b ≤ bu h) from Or.inr ⟨c2, c3⟩)]
      · simp only [if_pos c2, if_neg (show ¬ (op b < op h ∨ (op h = op b ∧ ¬ bu b ≤ bu h)) by rintro (w | w); exact c1 w; exact c2 w.1)]
theorem M_evenOf {G : Nat} (hG : G ≤ 12) {T : Nat → Int32} {pl : Nat → Nat} {P : Pn} {se : Nat → Int32} {n : Nat} (hn : n ≤ 200) (w : Int32) (σ : jm_S) (hK : KM G T pl P se σ) : ∃ ρ, jc 176 [.ref 61, .int (nI n), .int w] σ = some (some (.int (evV (evO G T pl se n) (evB G T pl se n) w)), ρ) ∧ jFr mS mK' σ ρ := by
  obtain ⟨ρ, a1, a2, a3⟩ := M_findEven hG hn σ hK
  have l := M_even_loop (nI n) w ρ a2 98 2 1 none (by omega) (by omega) (by omega) (by omega)
  rw [show nI 1 = 1 by decide +kernel, show nI 2 = 2 by decide +kernel] at l
  exact ⟨ρ, by rw [M_evenOf_in, a1, jbv_some, l]; rfl, a3⟩
theorem jN1200 {x : Int32} (h : ¬ (x < 1 ∨ 200 < x)) : ∃ n, 1 ≤ n ∧ n ≤ 200 ∧ x = nI n := by
  obtain ⟨n, h1, h2⟩ := jN200 (x := x) (by
    rintro (q | q)
    · exact h (Or.inl (Int32.lt_trans q (by decide)))
    · exact h (Or.inr q))
  refine ⟨n, ?_, h1, h2⟩
  by_cases c : n = 0
  · exact absurd (by rw [h2, c]; decide +kernel) (fun q => h (Or.inl q))
  · omega
theorem A_even {σ : jm_S} (h : I_all σ) (x w : Int32) : jSame σ sS mK' I_all (jc 64 [.ref 0, .int x, .int w]) (jc 174 [.ref 61, .int x, .int w]) := by
  obtain ⟨G, pl, P, hG, hb, hgr, hhe, kc, km⟩ := K_of h
  by_cases c1 : x < 1 ∨ 200 < x
  · exact sim_bad h (by rw [P_even_in, P_isOutside, jbi_some, ifc _ c1, if_pos n10]) (by rw [M_even_in, M_isLong, jbi_some, ifc' _ c1, if_pos rfl])
  · by_cases c3 : w < 0 ∨ 2 < w
    · exact sim_bad h (by rw [P_even_in, P_isOutside, jbi_some, ifn _ c1, if_neg (not_not_intro rfl), P_isOutside, jbi_some, ifc _ c3, if_neg n10]) (by rw [M_even_in, M_isLong, jbi_some, ifn' _ c1, if_neg n10, M_in w 0 2 0 2 (by decide +kernel) (by decide +kernel), jbi_some, ifc' _ c3, if_pos rfl])
    · obtain ⟨n, n1, hn, rfl⟩ := jN1200 c1
      refine sim_call h (v := some (.int (evV (evO G (σ 67) pl (σ 68) n) (evB G (σ 67) pl (σ 68) n) w))) ?_ (fun τ hτ => ?_)
      · obtain ⟨ρ, a1, a2, a3⟩ := tryHeats hG hn σ kc
        refine ⟨ρ, ?_, a3⟩
        rw [P_even_in, P_isOutside, jbi_some, ifn _ c1, if_neg (not_not_intro rfl), P_isOutside, jbi_some, ifn _ c3, if_pos rfl, a1, jbv_some, Evens_tell ρ a2 w, jbi_some]
      · obtain ⟨ρ, a1, a2⟩ := M_evenOf hG hn w τ (KM_c km hτ)
        refine ⟨ρ, ?_, a2⟩
        rw [M_even_in, M_isLong, jbi_some, ifn' _ c1, if_neg n10, M_in w 0 2 0 2 (by decide +kernel) (by decide +kernel), jbi_some, ifn' _ c3, if_neg n10, a1, jbi_some]
