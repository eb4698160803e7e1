/-! ===== runs: seconds one behind another ===== -/
abbrev Pg := (Nat → Int32) × (Nat → Nat) × (Nat → Int32)
section
variable (G : Nat) (T : Nat → Int32) (I : Nat → Bool) (a s : Int32) (pl : Nat → Nat) (Z : Pg)
def run : Nat → Sm
  | 0 => beg G T I pl
  | t + 1 => stp G T I a s (Z.1 t) (Z.2.1 t) (qq (Z.2.2 t)) t (run t)
abbrev runW (t : Nat) : Nat → Int32 := s1W (Z.1 t) (Z.2.1 t) (qq (Z.2.2 t)) (run G T I a s pl Z t)
theorem run_st (t g : Nat) : (run G T I a s pl Z (t + 1)).st g = if act G I (run G T I a s pl Z t) g then nSt T a s (runW G T I a s pl Z t) (run G T I a s pl Z t) g else (run G T I a s pl Z t).st g := rfl
theorem run_en (t g : Nat) : (run G T I a s pl Z (t + 1)).en g = if act G I (run G T I a s pl Z t) g then nEn T a s (runW G T I a s pl Z t) t (run G T I a s pl Z t) g else (run G T I a s pl Z t).en g := rfl
theorem run_lg (t g : Nat) : (run G T I a s pl Z (t + 1)).lg g = if act G I (run G T I a s pl Z t) g then nLg T a s (runW G T I a s pl Z t) (run G T I a s pl Z t) g else (run G T I a s pl Z t).lg g := rfl
theorem Wf_run (hG : G ≤ 12) (t : Nat) : Wf G I (run G T I a s pl Z t) := by
  induction t with
  | zero => exact Wf_beg hG
  | succ t ih => exact Wf_stp ih
theorem run_3 (t g : Nat) : (run G T I a s pl Z t).st g = 0 ∨ (run G T I a s pl Z t).st g = 1 ∨ (run G T I a s pl Z t).st g = 2 := by
  induction t with
  | zero => exact Or.inl rfl
  | succ t ih =>
    rw [run_st]
    split
    · unfold nSt
      split
      · exact Or.inr (Or.inl rfl)
      · split
        · exact Or.inl rfl
        · exact Or.inr (Or.inr rfl)
    · exact ih
theorem run_inv (t g : Nat) : ((run G T I a s pl Z t).st g = 0 → (run G T I a s pl Z t).en g = -1) ∧ (¬ (run G T I a s pl Z t).st g = 1 → (run G T I a s pl Z t).lg g = 0) ∧ (¬ (run G T I a s pl Z t).st g = 0 → ∃ j, j < t ∧ (run G T I a s pl Z t).en g = nI j) := by
  induction t with
  | zero => exact ⟨fun _ => rfl, fun _ => rfl, fun h => absurd rfl h⟩
  | succ t ih =>
    obtain ⟨i1, i2, i3⟩ := ih
    rw [run_st, run_en, run_lg]
    by_cases c : act G I (run G T I a s pl Z t) g
    · rw [if_pos c, if_pos c, if_pos c]
      have l0 := i2 (by rw [c.2.2]; decide)
      have e0 := i1 c.2.2
      unfold nSt nEn nLg
      by_cases c1 : xO a s (T (4 * g + 1)) (runW G T I a s pl Z t g) ((run G T I a s pl Z t).wt g)
      · simp only [if_pos c1]
        exact ⟨fun h => absurd h (by decide), fun h => absurd trivial h, fun _ => ⟨t, by omega, rfl⟩⟩
      · simp only [if_neg c1]
        by_cases c2 : runW G T I a s pl Z t g ≤ 250
        · simp only [if_pos c2]
          exact ⟨fun _ => e0, fun _ => l0, fun h => absurd trivial h⟩
        · simp only [if_neg c2]
          exact ⟨fun h => absurd h (by decide), fun _ => l0, fun _ => ⟨t, by omega, rfl⟩⟩
    · rw [if_neg c, if_neg c, if_neg c]
      exact ⟨i1, i2, fun h => by obtain ⟨j, h1, h2⟩ := i3 h; exact ⟨j, by omega, h2⟩⟩
theorem run_keep {t u : Nat} (h : t ≤ u) {g : Nat} (hg : ¬ (run G T I a s pl Z t).st g = 0) : (run G T I a s pl Z u).st g = (run G T I a s pl Z t).st g ∧ (run G T I a s pl Z u).en g = (run G T I a s pl Z t).en g ∧ (run G T I a s pl Z u).lg g = (run G T I a s pl Z t).lg g := by
  induction h with
  | refl => exact ⟨rfl, rfl, rfl⟩
  | step _ ih =>
    obtain ⟨i1, i2, i3⟩ := ih
    have c : ¬ act G I (run G T I a s pl Z _) g := fun q => hg (i1.symm.trans q.2.2)
    rw [run_st, run_en, run_lg, if_neg c, if_neg c, if_neg c]
    exact ⟨i1, i2, i3⟩
theorem run_late {t u : Nat} (h : t ≤ u) {g : Nat} (h0 : (run G T I a s pl Z t).st g = 0) (hg : ¬ (run G T I a s pl Z u).st g = 0) : ∃ j, t ≤ j ∧ j < u ∧ (run G T I a s pl Z u).en g = nI j := by
  induction h with
  | refl => exact absurd h0 hg
  | @step u hu ih =>
    by_cases c : (run G T I a s pl Z u).st g = 0
    · refine ⟨u, hu, by omega, ?_⟩
      rw [run_st] at hg
      rw [run_en]
      by_cases ca : act G I (run G T I a s pl Z u) g
      · rw [if_pos ca] at hg
        rw [if_pos ca]
        unfold nSt at hg
        unfold nEn
        by_cases c1 : xO a s (T (4 * g + 1)) (runW G T I a s pl Z u g) ((run G T I a s pl Z u).wt g)
        · rw [if_pos c1]
        · rw [if_neg c1] at hg ⊢
          by_cases c2 : runW G T I a s pl Z u g ≤ 250
          · rw [if_pos c2] at hg; exact absurd rfl hg
          · rw [if_neg c2]
      · rw [if_neg ca] at hg; exact absurd c hg
    · obtain ⟨j, j1, j2, j3⟩ := ih c
      refine ⟨j, j1, by omega, ?_⟩
      rw [(run_keep G T I a s pl Z (show u ≤ u + 1 by omega) c).2.1]
      exact j3
theorem run_ended {t u : Nat} (h : t ≤ u) (hu : u < 2 ^ 31) {v : Int32} (hv : ¬ v = 0) (g : Nat) : ((run G T I a s pl Z u).st g = v ∧ (run G T I a s pl Z u).en g < nI t) ↔ (run G T I a s pl Z t).st g = v := by
  by_cases c : (run G T I a s pl Z t).st g = 0
  · constructor
    · rintro ⟨q1, q2⟩
      obtain ⟨j, j1, j2, j3⟩ := run_late G T I a s pl Z h c (by rw [q1]; exact hv)
      rw [j3] at q2
      exact absurd q2 (nI_nlt j1 (by omega))
    · intro q; exact absurd (q.symm.trans c) hv
  · obtain ⟨k1, k2, k3⟩ := run_keep G T I a s pl Z h c
    obtain ⟨j, j1, j2⟩ := (run_inv G T I a s pl Z t g).2.2 c
    rw [k1, k2, j2]
    exact ⟨fun q => q.1, fun q => ⟨q, nI_lt j1 (by omega)⟩⟩
theorem run_gone {t u : Nat} (h : t < u) (hu : u < 2 ^ 31) (g : Nat) : ((run G T I a s pl Z u).st g = 1 ∧ (run G T I a s pl Z u).en g = nI t) ↔ ((run G T I a s pl Z t).st g = 0 ∧ (run G T I a s pl Z (t + 1)).st g = 1) := by
  constructor
  · rintro ⟨q1, q2⟩
    have n1 : (run G T I a s pl Z (t + 1)).st g = 1 := (run_ended G T I a s pl Z (show t + 1 ≤ u by omega) hu (by decide) g).mp ⟨q1, by rw [q2]; exact nI_lt (by omega) (by omega)⟩
    have n2 : ¬ (run G T I a s pl Z t).st g = 1 := fun q => by
      have := ((run_ended G T I a s pl Z (show t ≤ u by omega) hu (by decide) g).mpr q).2
      rw [q2] at this
      exact nI_nlt (Nat.le_refl t) (by omega) this
    refine ⟨?_, n1⟩
    rcases run_3 G T I a s pl Z t g with c | c | c
    · exact c
    · exact absurd c n2
    · have := (run_keep G T I a s pl Z (show t ≤ t + 1 by omega) (g := g) (by rw [c]; decide)).1
      rw [c, n1] at this
      exact absurd this (by decide)
  · rintro ⟨q1, q2⟩
    obtain ⟨k1, k2, k3⟩ := run_keep G T I a s pl Z (show t + 1 ≤ u by omega) (g := g) (by rw [q2]; decide)
    obtain ⟨j, j1, j2, j3⟩ := run_late G T I a s pl Z (show t ≤ t + 1 by omega) q1 (by rw [q2]; decide)
    have e : j = t := by omega
    rw [k1, k2, j3, e]
    exact ⟨q2, rfl⟩
theorem run_set {t u : Nat} (h : t ≤ u) (hw : whN G I (run G T I a s pl Z t).st = 0) (g : Nat) (hg : g < G) (hI : I g = true) : (run G T I a s pl Z u).st g = (run G T I a s pl Z t).st g ∧ (run G T I a s pl Z u).en g = (run G T I a s pl Z t).en g ∧ (run G T I a s pl Z u).lg g = (run G T I a s pl Z t).lg g := by
  refine run_keep G T I a s pl Z h (fun e => ?_)
  have := cntN_0.mp hw g hg
  have this : (I g && decide ((run G T I a s pl Z t).st g = 0)) = false := this
  rw [hI, e] at this
  exact absurd this (by decide)
end
/-! what is counted -/
def nmN (G : Nat) (I : Nat → Bool) (v : Int32) (X : Sm) : Nat := cntN (fun g => I g && decide (X.st g = v)) G
def lgN (G : Nat) (I : Nat → Bool) (X : Sm) : Int32 := sumI (fun g => if I g = true then X.lg g else 0) G
def brN (G : Nat) (I : Nat → Bool) (X : Sm) (t b : Int32) : Nat := cntN (fun g => I g && decide (X.st g = 1 ∧ ¬ t - X.en g ≤ b)) G
def snN (G : Nat) (I : Nat → Bool) (X Y : Sm) : Nat := cntN (fun g => I g && decide (X.st g = 0 ∧ Y.st g = 1)) G
theorem cntN_add {f g h : Nat → Bool} {n : Nat} (e : ∀ j, j < n → (if f j = true then 1 else 0) = (if g j = true then 1 else 0) + (if h j = true then 1 else 0)) : cntN f n = cntN g n + cntN h n := by
  induction n with
  | zero => rfl
  | succ n ih => rw [cntN, cntN, cntN, ih (fun j hj => e j (by omega)), e n (by omega)]; omega
section
variable (G : Nat) (T : Nat → Int32) (I : Nat → Bool) (a s : Int32) (pl : Nat → Nat) (Z : Pg)
theorem opN_run (t : Nat) : opN G T I a s (runW G T I a s pl Z t) (run G T I a s pl Z t) G = snN G I (run G T I a s pl Z t) (run G T I a s pl Z (t + 1)) := by
  unfold opN snN
  refine cntN_congr (fun g hg => ?_)
  rw [Bool.eq_iff_iff, decide_eq_true_eq, Bool.and_eq_true, decide_eq_true_eq, run_st]
  constructor
  · rintro ⟨c, q⟩; exact ⟨c.2.1, c.2.2, by rw [if_pos c]; exact q⟩
  · rintro ⟨q1, q2, q3⟩
    have c : act G I (run G T I a s pl Z t) g := ⟨hg, q1, q2⟩
    rw [if_pos c] at q3
    exact ⟨c, q3⟩
theorem nm1_s (t : Nat) : nmN G I 1 (run G T I a s pl Z (t + 1)) = nmN G I 1 (run G T I a s pl Z t) + snN G I (run G T I a s pl Z t) (run G T I a s pl Z (t + 1)) := by
  unfold nmN snN
  refine cntN_add (fun g hg => ?_)
  cases q : I g with
  | false => rfl
  | true =>
    simp only [Bool.true_and, decide_eq_true_eq]
    rcases run_3 G T I a s pl Z t g with c | c | c
    · have n : ¬ (run G T I a s pl Z t).st g = 1 := by rw [c]; decide
      rw [if_neg n]
      by_cases c2 : (run G T I a s pl Z (t + 1)).st g = 1
      · rw [if_pos c2, if_pos ⟨c, c2⟩]
      · rw [if_neg c2, if_neg (fun w => c2 w.2)]
    · have k := (run_keep G T I a s pl Z (show t ≤ t + 1 by omega) (g := g) (by rw [c]; decide)).1
      rw [if_pos c, if_pos (k.trans c), if_neg (fun w => by rw [c] at w; exact absurd w.1 (by decide))]
    · have k := (run_keep G T I a s pl Z (show t ≤ t + 1 by omega) (g := g) (by rw [c]; decide)).1
      rw [if_neg (by rw [k, c]; decide), if_neg (by rw [c]; decide), if_neg (fun w => by rw [c] at w; exact absurd w.1 (by decide))]
theorem nm1_0 : nmN G I 1 (run G T I a s pl Z 0) = 0 := by
  refine cntN_0.mpr (fun j _ => ?_)
  show (I j && decide ((0 : Int32) = 1)) = false
  cases I j <;> rfl
theorem nm1_sum (t : Nat) : sumN (fun j => snN G I (run G T I a s pl Z j) (run G T I a s pl Z (j + 1))) t = nmN G I 1 (run G T I a s pl Z t) := by
  induction t with
  | zero => exact (nm1_0 G T I a s pl Z).symm
  | succ t ih => rw [sumN, ih, nm1_s]
theorem nm_all (t : Nat) : cntN I G = (nmN G I 1 (run G T I a s pl Z t) + nmN G I 2 (run G T I a s pl Z t)) + nmN G I 0 (run G T I a s pl Z t) := by
  have e : cntN (fun g => I g && decide (¬ (run G T I a s pl Z t).st g = 0)) G = nmN G I 1 (run G T I a s pl Z t) + nmN G I 2 (run G T I a s pl Z t) := by
    unfold nmN
    refine cntN_add (fun g hg => ?_)
    cases q : I g with
    | false => rfl
    | true =>
      simp only [Bool.true_and, decide_eq_true_eq]
      rcases run_3 G T I a s pl Z t g with c | c | c <;> rw [c] <;> decide
  rw [← e]
  unfold nmN
  refine cntN_add (fun g hg => ?_)
  cases q : I g with
  | false => rfl
  | true =>
    simp only [Bool.true_and, decide_eq_true_eq, if_true]
    rcases run_3 G T I a s pl Z t g with c | c | c <;> rw [c] <;> decide
theorem nm_le (v : Int32) (X : Sm) : nmN G I v X ≤ G := cntN_le _ _
end
