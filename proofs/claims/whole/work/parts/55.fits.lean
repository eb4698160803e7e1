/-! ===== fits ===== -/
def ofV (a w : Int32) : Int32 := if a = -1 then 200 else (if w ≤ a then a - w else w - a)
theorem ofV_abs {t s : Nat} (ht : t < 200) (hs : s < 200) : (if 0 ≤ nI t - nI s then nI t - nI s else 0 - (nI t - nI s)) = (if nI s ≤ nI t then nI t - nI s else nI s - nI t) := by
  have e1 := nI_toInt (n := t) (by omega)
  have e2 := nI_toInt (n := s) (by omega)
  have e : (nI t - nI s).toInt = (nI t).toInt - (nI s).toInt := tb_sub (by omega) (by omega)
  have z : (0 : Int32).toInt = 0 := by decide
  by_cases c : s ≤ t
  · rw [if_pos (by rw [Int32.le_iff_toInt_le, e, z]; omega), if_pos (nI_le c (by omega))]
  · rw [if_neg (by rw [Int32.le_iff_toInt_le, e, z]; omega), if_neg (nI_ge (by omega) (by omega)), Int32.zero_sub, Int32.neg_sub]
theorem sum_loop' {α β : Type} (F : Int32 → Int32 → β → α) {v : Nat → Int32} {G : Nat} (h : ∀ i x u, i < G → ∃ u', F x (nI i) u = F (x + v i) (nI (i + 1)) u') (u : β) : ∃ u', F 0 0 u = F (sumI v G) (nI G) u' := by
  have go : ∀ i, i ≤ G → ∃ u', F 0 0 u = F (sumI v i) (nI i) u' := by
    intro i
    induction i with
    | zero => intro _; exact ⟨u, by show F 0 0 u = F 0 (nI 0) u; rw [nI_0]⟩
    | succ i ih =>
      intro hi
      obtain ⟨u1, e1⟩ := ih (by omega)
      obtain ⟨u2, e2⟩ := h i (sumI v i) u1 (by omega)
      exact ⟨u2, by rw [e1, e2]; rfl⟩
  exact go G (Nat.le_refl G)
abbrev FT (G : Nat) (T : Nat → Int32) (pl : Nat → Nat) (P : Pn) (se : Nat → Int32) (s : Nat) : Sm := run G T (fun _ => true) (se 0) (nI s) pl (panZ P) 200
def wentV (X : Sm) (g : Nat) : Int32 := if X.st g = 1 then X.en g else -1
theorem wentV_n (G : Nat) (T : Nat → Int32) (pl : Nat → Nat) (P : Pn) (se : Nat → Int32) (s g : Nat) : wentV (FT G T pl P se s) g = -1 ∨ ∃ t, t < 200 ∧ wentV (FT G T pl P se s) g = nI t := by
  unfold wentV
  by_cases c : (FT G T pl P se s).st g = 1
  · rw [if_pos c]
    obtain ⟨j, h1, h2⟩ := (run_inv G T (fun _ => true) (se 0) (nI s) pl (panZ P) 200 g).2.2 (by rw [c]; decide)
    exact Or.inr ⟨j, h1, h2⟩
  · rw [if_neg c]; exact Or.inl rfl
def ftV (G : Nat) (T : Nat → Int32) (pl : Nat → Nat) (P : Pn) (se : Nat → Int32) (who wh : Nat → Nat) (h s : Nat) : Int32 := sumI (fun j => ofV (wentV (FT G T pl P se s) (who j)) (nI (wh j))) h
def HC (G : Nat) (who wh : Nat → Nat) (h : Nat) (σ : jm_S) : Prop := σ 38 2 = nI h ∧ ∀ j, j < h → σ 39 j = nI (who j) ∧ who j < G ∧ σ 40 j = nI (wh j) ∧ wh j < 200
def HM (G : Nat) (who wh : Nat → Nat) (h : Nat) (σ : jm_S) : Prop := σ 61 36 = nI h ∧ ∀ j, j < h → σ 87 j = nI (who j) ∧ who j < G ∧ σ 88 j = nI (wh j) ∧ wh j < 200
theorem H_of {σ : jm_S} {G : Nat} (h : I_he σ G) (hG : G ≤ 12) : ∃ n who wh, n ≤ 12 ∧ HC G who wh n σ ∧ HM G who wh n σ := by
  obtain ⟨n, h1, h2, h3, h4⟩ := h
  have w : ∀ j, j < n → σ 87 j = nI (σ 87 j).toNatClampNeg ∧ (σ 87 j).toNatClampNeg < G ∧ σ 88 j = nI (σ 88 j).toNatClampNeg ∧ (σ 88 j).toNatClampNeg < 200 := by
    intro j hj
    obtain ⟨_, _, ⟨g, g1, g2⟩, s, s1, s2⟩ := h4 j hj
    rw [g2, s2, nI_clamp (show g < 2 ^ 31 by omega), nI_clamp (show s < 2 ^ 31 by omega)]
    exact ⟨rfl, g1, rfl, s1⟩
  refine ⟨n, fun j => (σ 87 j).toNatClampNeg, fun j => (σ 88 j).toNatClampNeg, h1, ⟨h2, fun j hj => ?_⟩, ⟨h3, w⟩⟩
  rw [(h4 j hj).1, (h4 j hj).2.1]
  exact w j hj
theorem offIn {G : Nat} (hG : G ≤ 12) {T : Nat → Int32} {pl : Nat → Nat} {P : Pn} {se : Nat → Int32} {who wh : Nat → Nat} {h s : Nat} (hh : h ≤ 12) (σ : jm_S) (hc : CS_11 G (fun _ => true) (FT G T pl P se s) σ) (hH : HC G who wh h σ) : jc 100 [.ref 38, .ref 11] σ = some (some (.int (ftV G T pl P se who wh h s)), σ) := by
  obtain ⟨u, e⟩ := sum_loop' (fun x i (u : Option Value) => jv 100 4 [some (.ref 38), some (.ref 11), some (.int x), some (.int i), u] [] σ) (v := fun j => ofV (wentV (FT G T pl P se s) (who j)) (nI (wh j))) (G := h) (fun i x u hi => by
    obtain ⟨w1, w2, w3, w4⟩ := hH.2 i hi
    have ni : ¬ (nI i < 0 ∨ 12 ≤ i) := by rw [jbad2 (show i < 12 by omega) (by decide)]; exact id
    have t4 : jc 47 [.ref 11, .int (nI (who i)), .int 4] σ = some (some (.int (wentV (FT G T pl P se s) (who i))), σ) := tell4_11 hG σ hc w2 rfl
    show ∃ u', jv 100 4 [some (.ref 38), some (.ref 11), some (.int x), some (.int (nI i)), u] [] σ = jv 100 4 [some (.ref 38), some (.ref 11), some (.int (x + ofV (wentV (FT G T pl P se s) (who i)) (nI (wh i)))), some (.int (nI (i + 1))), u'] [] σ
    refine ⟨some (.int (wentV (FT G T pl P se s) (who i))), ?_⟩
    rw [Hearing_offIn_11_L4, hH.1, if_neg (nI_ge hi (by omega)), nI_clamp (show i < 2 ^ 31 by omega), if_neg ni, w1, t4, jbi_some, if_neg ni, w3, nI_1]
    rcases wentV_n G T pl P se s (who i) with q | ⟨t, t1, q⟩
    · rw [if_neg (not_not_intro q), ofV, if_pos q]
    · have nq : ¬ wentV (FT G T pl P se s) (who i) = -1 := by rw [q]; exact nI_ne_m1 (by omega)
      rw [if_pos nq, ofV, if_neg nq, q, ofV_abs t1 w4]) none
  have e : jv 100 4 [some (.ref 38), some (.ref 11), some (.int 0), some (.int 0), none] [] σ = jv 100 4 [some (.ref 38), some (.ref 11), some (.int (ftV G T pl P se who wh h s)), some (.int (nI h)), u] [] σ := e
  rw [Hearing_offIn_11_in, e, Hearing_offIn_11_L4, hH.1, if_pos (nI_le (Nat.le_refl _) (by omega))]
abbrev Q5 := Int32 × Int32 × Int32 × Int32 × Int32
def jd1 (r s : Int32) (q : Q5) : Q5 := (if r = 0 then (if q.1 = -1 then s else q.1) else q.1, if r = 0 then s else q.2.1, if r = 0 then q.2.2.1 + 1 else q.2.2.1, if q.2.2.2.1 = -1 ∨ ¬ q.2.2.2.2 ≤ r then s else q.2.2.2.1, if q.2.2.2.1 = -1 ∨ ¬ q.2.2.2.2 ≤ r then r else q.2.2.2.2)
def jdF (v : Nat → Int32) : Nat → Nat → Q5 → Q5
  | 0, _, q => q
  | k + 1, s, q => jdF v k (s + 1) (jd1 (v s) (nI s) q)
def HJ (q : Q5) (σ : jm_S) : Prop := σ 38 3 = q.1 ∧ σ 38 4 = q.2.1 ∧ σ 38 5 = q.2.2.1 ∧ σ 38 6 = q.2.2.2.1 ∧ σ 38 7 = q.2.2.2.2
theorem judge (r s : Int32) (q : Q5) (σ : jm_S) (ho : jc 100 [.ref 38, .ref 11] σ = some (some (.int r), σ)) (hq : HJ q σ) : ∃ ρ, jc 99 [.ref 38, .int s, .ref 11] σ = some (none, ρ) ∧ HJ (jd1 r s q) ρ ∧ (∀ c, c ≠ 38 → ρ c = σ c) ∧ ρ 38 2 = σ 38 2 := by
  obtain ⟨q1, q2, q3, q4, q5⟩ := hq
  rw [Hearing_judge_11_in, ho, jbi_some, q1, q3, q4, q5]
  unfold jd1 HJ
  have nr : ∀ c, c ≠ 38 → ∀ (τ : jm_S) k x, (jm_up τ 38 k x) c = τ c := fun c hc τ k x => jup_n _ _ _ hc
  by_cases c1 : r = 0
  · rw [if_neg (not_not_intro c1)]
    simp only [if_pos c1]
    by_cases c2 : q.1 = -1
    · rw [if_neg (not_not_intro c2)]
      simp only [if_pos c2]
      by_cases c3 : q.2.2.2.1 = -1
      · rw [if_pos c3]
        simp only [if_pos (show q.2.2.2.1 = -1 ∨ ¬ q.2.2.2.2 ≤ r from Or.inl c3)]
        refine ⟨_, rfl, ?_, fun c hc => by simp only [nr c hc], by simp only [jup_s, jupd]; rfl⟩
        simp only [jup_s, jupd]; exact ⟨rfl, rfl, rfl, rfl, rfl⟩
      · rw [if_neg c3]
        by_cases c4 : q.2.2.2.2 ≤ r
        · rw [if_pos c4]
          simp only [if_neg (show ¬ (q.2.2.2.1 = -1 ∨ ¬ q.2.2.2.2 ≤ r) by rintro (w | w); exact c3 w; exact w c4)]
          refine ⟨_, rfl, ?_, fun c hc => by simp only [nr c hc], by simp only [jup_s, jupd]; rfl⟩
          simp only [jup_s, jupd]; exact ⟨rfl, rfl, rfl, q4, q5⟩
        · rw [if_neg c4]
          simp only [if_pos (show q.2.2.2.1 = -1 ∨ ¬ q.2.2.2.2 ≤ r from Or.inr c4)]
          refine ⟨_, rfl, ?_, fun c hc => by simp only [nr c hc], by simp only [jup_s, jupd]; rfl⟩
          simp only [jup_s, jupd]; exact ⟨rfl, rfl, rfl, rfl, rfl⟩
    · rw [if_pos c2]
      simp only [if_neg c2]
      by_cases c3 : q.2.2.2.1 = -1
      · rw [if_pos c3]
        simp only [if_pos (show q.2.2.2.1 = -1 ∨ ¬ q.2.2.2.2 ≤ r from Or.inl c3)]
        refine ⟨_, rfl, ?_, fun c hc => by simp only [nr c hc], by simp only [jup_s, jupd]; rfl⟩
        simp only [jup_s, jupd]; exact ⟨rfl, rfl, rfl, rfl, rfl⟩
      · rw [if_neg c3]
        by_cases c4 : q.2.2.2.2 ≤ r
        · rw [if_pos c4]
          simp only [if_neg (show ¬ (q.2.2.2.1 = -1 ∨ ¬ q.2.2.2.2 ≤ r) by rintro (w | w); exact c3 w; exact w c4)]
          refine ⟨_, rfl, ?_, fun c hc => by simp only [nr c hc], by simp only [jup_s, jupd]; rfl⟩
          simp only [jup_s, jupd]; exact ⟨rfl, rfl, rfl, q4, q5⟩
        · rw [if_neg c4]
          simp only [if_pos (show q.2.2.2.1 = -1 ∨ ¬ q.2.2.2.2 ≤ r from Or.inr c4)]
          refine ⟨_, rfl, ?_, fun c hc => by simp only [nr c hc], by simp only [jup_s, jupd]; rfl⟩
          simp only [jup_s, jupd]; exact ⟨rfl, rfl, rfl, rfl, rfl⟩
  · rw [if_pos c1]
    simp only [if_neg c1]
    by_cases c3 : q.2.2.2.1 = -1
    · rw [if_pos c3]
      simp only [if_pos (show q.2.2.2.1 = -1 ∨ ¬ q.2.2.2.2 ≤ r from Or.inl c3)]
      refine ⟨_, rfl, ?_, fun c hc => by simp only [nr c hc], by simp only [jup_s, jupd]; rfl⟩
      simp only [jup_s, jupd]; exact ⟨q1, q2, q3, rfl, rfl⟩
    · rw [if_neg c3]
      by_cases c4 : q.2.2.2.2 ≤ r
      · rw [if_pos c4]
        simp only [if_neg (show ¬ (q.2.2.2.1 = -1 ∨ ¬ q.2.2.2.2 ≤ r) by rintro (w | w); exact c3 w; exact w c4)]
        exact ⟨σ, rfl, ⟨q1, q2, q3, q4, q5⟩, fun _ _ => rfl, rfl⟩
      · rw [if_neg c4]
        simp only [if_pos (show q.2.2.2.1 = -1 ∨ ¬ q.2.2.2.2 ≤ r from Or.inr c4)]
        refine ⟨_, rfl, ?_, fun c hc => by simp only [nr c hc], by simp only [jup_s, jupd]; rfl⟩
        simp only [jup_s, jupd]; exact ⟨q1, q2, q3, rfl, rfl⟩
/-! frames with what was heard -/
def hFr (σ ρ : jm_S) : Prop := (∀ c, c ∉ cS → c ≠ 38 → ρ c = σ c) ∧ ρ 38 2 = σ 38 2
theorem hFr.rf {σ : jm_S} : hFr σ σ := ⟨fun _ _ _ => rfl, rfl⟩
theorem hFr.trans {σ ρ τ : jm_S} (h : hFr σ ρ) (h2 : hFr ρ τ) : hFr σ τ := ⟨fun c hc h38 => (h2.1 c hc h38).trans (h.1 c hc h38), h2.2.trans h.2⟩
theorem cFr.h {σ ρ : jm_S} (h : cFr σ ρ) : hFr σ ρ := ⟨fun c hc _ => h c hc, by rw [h 38 (by decide)]⟩
theorem KC_h {G : Nat} {T : Nat → Int32} {pl : Nat → Nat} {P : Pn} {se : Nat → Int32} {σ ρ : jm_S} (h : KC G T pl P se σ) (hf : hFr σ ρ) : KC G T pl P se ρ := by
  unfold KC DC pP at *
  rw [hf.1 1 (by decide) (by decide), hf.1 2 (by decide) (by decide), hf.1 3 (by decide) (by decide), hf.1 4 (by decide) (by decide), hf.1 6 (by decide) (by decide), hf.1 7 (by decide) (by decide), hf.1 8 (by decide) (by decide), hf.1 9 (by decide) (by decide)]
  exact h
theorem KM_h {G : Nat} {T : Nat → Int32} {pl : Nat → Nat} {P : Pn} {se : Nat → Int32} {σ ρ : jm_S} (h : KM G T pl P se σ) (hf : hFr σ ρ) : KM G T pl P se ρ := by
  unfold KM DM PM at *
  rw [hf.1 61 (by decide) (by decide), hf.1 66 (by decide) (by decide), hf.1 67 (by decide) (by decide), hf.1 68 (by decide) (by decide), hf.1 69 (by decide) (by decide), hf.1 70 (by decide) (by decide)]
  exact h
theorem HC_h {G : Nat} {who wh : Nat → Nat} {n : Nat} {σ ρ : jm_S} (h : HC G who wh n σ) (hf : hFr σ ρ) : HC G who wh n ρ := by
  unfold HC at *
  rw [hf.2, hf.1 39 (by decide) (by decide), hf.1 40 (by decide) (by decide)]
  exact h
theorem HM_h {G : Nat} {who wh : Nat → Nat} {n : Nat} {σ ρ : jm_S} (h : HM G who wh n σ) (hf : hFr σ ρ) : HM G who wh n ρ := by
  unfold HM at *
  rw [hf.1 61 (by decide) (by decide), hf.1 87 (by decide) (by decide), hf.1 88 (by decide) (by decide)]
  exact h
theorem HM_fr {G : Nat} {who wh : Nat → Nat} {n : Nat} {σ ρ : jm_S} (h : HM G who wh n σ) (hf : jFr mS mK' σ ρ) : HM G who wh n ρ := by
  unfold HM at *
  rw [hf.2 36 (by decide), hf.1 87 (by decide) (by decide), hf.1 88 (by decide) (by decide)]
  exact h
theorem i15 : (15 : Int32) = nI 15 := by decide +kernel
theorem i16 : (16 : Int32) = nI 16 := by decide +kernel
theorem str_loop {G : Nat} (hG : G ≤ 12) {T : Nat → Int32} {pl : Nat → Nat} {P : Pn} (hb : bndS P 61) {se : Nat → Int32} {who wh : Nat → Nat} {h : Nat} (hh : h ≤ 12) : ∀ (k s : Nat) (q : Q5) (σ : jm_S), s + k = 16 → KC G T pl P se σ → HC G who wh h σ → HJ q σ → ∃ ρ, jv 97 13 [some (.ref 0), some (.int (nI s))] [] σ = some (none, ρ) ∧ HJ (jdF (ftV G T pl P se who wh h) k s q) ρ ∧ hFr σ ρ := by
  intro k
  induction k with
  | zero =>
    intro s q σ hs hK hH hq
    rw [P_tryStrengths_L13, if_pos (by rw [i15]; exact nI_lt (by omega) (by omega))]
    exact ⟨σ, rfl, hq, hFr.rf⟩
  | succ k ih =>
    intro s q σ hs hK hH hq
    obtain ⟨τ, a1, a2, a3⟩ := fill_11 hG (se 0) (nI s) σ hK.1
    have a3' : cFr σ τ := cFr.of a3 (by decide)
    obtain ⟨τ1, b1, b2, b3⟩ := settle_11 hG (pl := pl) (Z := panZ P) (t := 0) (n := 200) (by omega) (by omega) τ (pP_onZ (KC_fr hK a3').2.2 hb (by omega)) a2
    rw [← nI200] at b1
    have fr1 : cFr σ τ1 := a3'.trans (cFr.of b3 (by decide))
    obtain ⟨τ2, c1, c2, c3, c4⟩ := judge (ftV G T pl P se who wh h s) (nI s) q τ1 (offIn hG hh τ1 b2 (HC_h hH fr1.h)) (by
      unfold HJ at hq ⊢
      rw [fr1 38 (by decide)]; exact hq)
    have fr2 : hFr σ τ2 := fr1.h.trans ⟨fun c _ h38 => c3 c h38, c4⟩
    obtain ⟨ρ, d1, d2, d3⟩ := ih (s + 1) _ τ2 (by omega) (KC_h hK fr2) (HC_h hH fr2) c2
    refine ⟨ρ, ?_, d2, fr2.trans d3⟩
    rw [P_tryStrengths_L13, if_neg (by rw [i15]; exact nI_nlt (by omega) (by omega)), hK.2.1 0 (by omega), a1, jbv_some, b1, jbv_some, c1, jbv_some, nI_1, d1]
def fq (q : Q5) (w : Int32) : Int32 := if w = 0 then q.1 else if w = 1 then q.2.1 else if w = 2 then q.2.2.1 else if w = 3 then q.2.2.2.1 else q.2.2.2.2
def ftR (G : Nat) (T : Nat → Int32) (pl : Nat → Nat) (P : Pn) (se : Nat → Int32) (who wh : Nat → Nat) (h : Nat) : Q5 := jdF (ftV G T pl P se who wh h) 11 5 (-1, -1, 0, -1, 0)
theorem jdF_first (v : Nat → Int32) (o : Int32) : jdF v 11 5 (-1, -1, 0, -1, o) = jdF v 11 5 (-1, -1, 0, -1, 0) := by
  have e : jd1 (v 5) (nI 5) (-1, -1, 0, -1, o) = jd1 (v 5) (nI 5) (-1, -1, 0, -1, 0) := by
    unfold jd1
    simp only [true_or, if_true]
  show jdF v 10 6 (jd1 (v 5) (nI 5) (-1, -1, 0, -1, o)) = jdF v 10 6 (jd1 (v 5) (nI 5) (-1, -1, 0, -1, 0))
  rw [e]
theorem tryStrengths {G : Nat} (hG : G ≤ 12) {T : Nat → Int32} {pl : Nat → Nat} {P : Pn} (hb : bndS P 61) {se : Nat → Int32} {who wh : Nat → Nat} {h : Nat} (hh : h ≤ 12) (σ : jm_S) (hK : KC G T pl P se σ) (hH : HC G who wh h σ) : ∃ ρ, jc 97 [.ref 0] σ = some (none, ρ) ∧ HJ (ftR G T pl P se who wh h) ρ ∧ hFr σ ρ := by
  have r0 := P_tryStrengths_in σ
  rw [Hearing_begin_in, jbv_some] at r0
  generalize hτ : (jm_up (jm_up (jm_up (jm_up σ 38 3 (-1 : Int32)) 38 4 (-1 : Int32)) 38 5 (0 : Int32)) 38 6 (-1 : Int32)) = τ at r0
  have fr : hFr σ τ := by
    rw [← hτ]
    refine ⟨fun c _ h38 => by rw [jup_n _ _ _ h38, jup_n _ _ _ h38, jup_n _ _ _ h38, jup_n _ _ _ h38], ?_⟩
    simp only [jup_s, jupd]; rfl
  have hq : HJ (-1, -1, 0, -1, σ 38 7) τ := by
    rw [← hτ]
    unfold HJ
    simp only [jup_s, jupd]
    exact ⟨rfl, rfl, rfl, rfl, rfl⟩
  obtain ⟨ρ, d1, d2, d3⟩ := str_loop hG hb hh 11 5 _ τ (by omega) (KC_h hK fr) (HC_h hH fr) hq
  rw [jdF_first] at d2
  rw [show nI 5 = 5 by decide +kernel] at d1
  exact ⟨ρ, by rw [r0, d1], d2, fr.trans d3⟩
theorem j5 {x : Int32} (h : ¬ (x < 0 ∨ 4 < x)) : x = 0 ∨ x = 1 ∨ x = 2 ∨ x = 3 ∨ x = 4 := by
  obtain ⟨j, hj, rfl⟩ := jN (n := 4) (by decide +kernel) h
  match j, hj with
  | 0, _ => exact Or.inl (by decide +kernel)
  | 1, _ => exact Or.inr (Or.inl (by decide +kernel))
  | 2, _ => exact Or.inr (Or.inr (Or.inl (by decide +kernel)))
  | 3, _ => exact Or.inr (Or.inr (Or.inr (Or.inl (by decide +kernel))))
  | 4, _ => exact Or.inr (Or.inr (Or.inr (Or.inr (by decide +kernel))))
  | n + 5, h => omega
theorem Hearing_tell {q : Q5} (w : Int32) (hw : ¬ (w < 0 ∨ 4 < w)) (σ : jm_S) (h : HJ q σ) : jc 101 [.ref 38, .int w] σ = some (some (.int (fq q w)), σ) := by
  obtain ⟨q1, q2, q3, q4, q5⟩ := h
  rw [Hearing_tell_in]
  rcases j5 hw with e | e | e | e | e <;> subst e
  · rw [Hearing_tell_S1_0, q1]; rfl
  · rw [Hearing_tell_S1_1, q2]; rfl
  · rw [Hearing_tell_S1_2, q3]; rfl
  · rw [Hearing_tell_S1_3, q4]; rfl
  · rw [Hearing_tell_S1_o _ _ _ (by decide +kernel), q5]; rfl
