/-! ===== the going on, as numbers ===== -/
def rot : List Nat → List Nat
  | [] => []
  | a :: r => r ++ [a]
def rotN : Nat → List Nat → List Nat
  | 0, L => L
  | k + 1, L => rotN k (rot L)
def warmL (q : Int32) : List Nat → Int32 → (Nat → Int32) → (Nat → Int32)
  | [], _, w => w
  | g :: r, x, w => warmL q r (x / 2) (upd w g ((w g + x) - (w g + x) / q))
abbrev Sm := (Nat → Int32) × (Nat → Int32) × (Nat → Int32) × (Nat → Int32) × (Nat → Int32) × (Nat → Int32) × (Nat → List Nat)
def Sm.wm (X : Sm) : Nat → Int32 := X.1
def Sm.wt (X : Sm) : Nat → Int32 := X.2.1
def Sm.pr (X : Sm) : Nat → Int32 := X.2.2.1
def Sm.st (X : Sm) : Nat → Int32 := X.2.2.2.1
def Sm.en (X : Sm) : Nat → Int32 := X.2.2.2.2.1
def Sm.lg (X : Sm) : Nat → Int32 := X.2.2.2.2.2.1
def Sm.rw (X : Sm) : Nat → List Nat := X.2.2.2.2.2.2
def xP (w wt : Int32) : Int32 := if w ≤ 100 then 0 else (w - 100) * wt / 40
def xH (sk wt : Int32) : Int32 := if 1 < sk - wt / 20 then sk - wt / 20 else 1
abbrev xO (a s sk w wt : Int32) : Prop := ¬ (xP w wt - a < s * xH sk wt)
def xW (cr w wt : Int32) : Int32 := if 0 < wt - xP w wt * cr / 100 then wt - xP w wt * cr / 100 else 0
def s1R (k : Nat) (X : Sm) (p : Nat) : List Nat := rotN k (X.rw p)
def s1W (h : Int32) (k : Nat) (q : Int32) (X : Sm) : Nat → Int32 := warmL q (s1R k X 3) h (warmL q (s1R k X 2) h (warmL q (s1R k X 1) h (warmL q (s1R k X 0) h X.wm)))
abbrev act (G : Nat) (I : Nat → Bool) (X : Sm) (g : Nat) : Prop := g < G ∧ I g = true ∧ X.st g = 0
def nWt (T : Nat → Int32) (a s : Int32) (W : Nat → Int32) (X : Sm) (g : Nat) : Int32 := if xO a s (T (4 * g + 1)) (W g) (X.wt g) then X.wt g else if W g ≤ 250 then xW (T (4 * g + 3)) (W g) (X.wt g) else X.wt g
def nSt (T : Nat → Int32) (a s : Int32) (W : Nat → Int32) (X : Sm) (g : Nat) : Int32 := if xO a s (T (4 * g + 1)) (W g) (X.wt g) then 1 else if W g ≤ 250 then 0 else 2
def nEn (T : Nat → Int32) (a s : Int32) (W : Nat → Int32) (t : Nat) (X : Sm) (g : Nat) : Int32 := if xO a s (T (4 * g + 1)) (W g) (X.wt g) then nI t else if W g ≤ 250 then X.en g else nI t
def nLg (T : Nat → Int32) (a s : Int32) (W : Nat → Int32) (X : Sm) (g : Nat) : Int32 := if xO a s (T (4 * g + 1)) (W g) (X.wt g) then T (4 * g + 2) * (xP (W g) (X.wt g) - a) / 10 else X.lg g
def stS (G : Nat) (T : Nat → Int32) (I : Nat → Bool) (a s : Int32) (W : Nat → Int32) (X : Sm) (g : Nat) : Int32 := if act G I X g then nSt T a s W X g else X.st g
def stp (G : Nat) (T : Nat → Int32) (I : Nat → Bool) (a s : Int32) (h : Int32) (k : Nat) (q : Int32) (t : Nat) (X : Sm) : Sm :=
  ⟨s1W h k q X,
   fun g => if act G I X g then nWt T a s (s1W h k q X) X g else X.wt g,
   fun g => if act G I X g then xP (s1W h k q X g) (X.wt g) else X.pr g,
   stS G T I a s (s1W h k q X) X,
   fun g => if act G I X g then nEn T a s (s1W h k q X) t X g else X.en g,
   fun g => if act G I X g then nLg T a s (s1W h k q X) X g else X.lg g,
   fun p => (s1R k X p).filter (fun g => decide (¬ stS G T I a s (s1W h k q X) X g = 1))⟩
def beg (G : Nat) (T : Nat → Int32) (I : Nat → Bool) (pl : Nat → Nat) : Sm :=
  ⟨fun _ => 0, fun g => T (4 * g), fun _ => 0, fun _ => 0, fun _ => -1, fun _ => 0, fun p => (List.range G).filter (fun g => I g && decide (pl g = p))⟩
/-- what stays so -/
def Wf (G : Nat) (I : Nat → Bool) (X : Sm) : Prop := (∀ g, X.st g = 0 ∨ X.st g = 1 ∨ X.st g = 2) ∧ (∀ p, (X.rw p).length ≤ 12) ∧ (∀ p g, g ∈ X.rw p → g < G ∧ I g = true ∧ ¬ X.st g = 1)
theorem rot_len (L : List Nat) : (rot L).length = L.length := by cases L <;> simp [rot]
theorem rot_mem (L : List Nat) (g : Nat) : g ∈ rot L ↔ g ∈ L := by cases L <;> simp [rot, or_comm]
theorem rotN_len (k : Nat) : ∀ L, (rotN k L).length = L.length := by
  induction k with
  | zero => intro L; rfl
  | succ k ih => intro L; rw [rotN, ih, rot_len]
theorem rotN_mem (k : Nat) : ∀ (L : List Nat) (g : Nat), g ∈ rotN k L ↔ g ∈ L := by
  induction k with
  | zero => intro L g; exact Iff.rfl
  | succ k ih => intro L g; rw [rotN, ih, rot_mem]
theorem rotN_s (k : Nat) : ∀ L, rotN (k + 1) L = rot (rotN k L) := by
  induction k with
  | zero => intro L; rfl
  | succ k ih => intro L; rw [rotN, ih]; rfl
theorem rot_getD {L : List Nat} {i : Nat} (h : i < L.length) : (rot L).getD i 0 = if i + 1 < L.length then L.getD (i + 1) 0 else L.getD 0 0 := by
  cases L with
  | nil => simp at h
  | cons a r =>
    simp only [rot, List.length_cons] at *
    by_cases c : i < r.length
    · rw [if_pos (by omega), List.getD_cons_succ]
      simp only [List.getD_eq_getElem?_getD]
      rw [List.getElem?_append_left c]
    · have e : i = r.length := by omega
      subst e
      rw [if_neg (by omega)]
      simp
theorem rot_one {L : List Nat} (h : L.length ≤ 1) : rot L = L := by
  match L, h with
  | [], _ => rfl
  | [a], _ => rfl
  | a :: b :: r, h => simp at h
theorem drop_getD {L : List Nat} {i : Nat} (h : i < L.length) : L.drop i = L.getD i 0 :: L.drop (i + 1) := by
  rw [List.drop_eq_getElem_cons h, List.getD_eq_getElem?_getD, List.getElem?_eq_getElem h]; rfl
theorem take_getD {L : List Nat} {i : Nat} (h : i < L.length) : L.take (i + 1) = L.take i ++ [L.getD i 0] := by
  rw [List.take_succ, List.getElem?_eq_getElem h, List.getD_eq_getElem?_getD, List.getElem?_eq_getElem h]; rfl
theorem mem_getD {L : List Nat} {i : Nat} (h : i < L.length) : L.getD i 0 ∈ L := by
  rw [List.getD_eq_getElem?_getD, List.getElem?_eq_getElem h]; exact List.getElem_mem h
theorem getD_app {L : List Nat} {x i : Nat} (h : i < L.length) : (L ++ [x]).getD i 0 = L.getD i 0 := by
  simp only [List.getD_eq_getElem?_getD]
  rw [List.getElem?_append_left h]
theorem getD_app_e {L : List Nat} {x : Nat} : (L ++ [x]).getD L.length 0 = x := by
  simp [List.getD_eq_getElem?_getD]
theorem warmL_congr (q : Int32) {G : Nat} : ∀ (L : List Nat) (x : Int32) (w z : Nat → Int32), (∀ g, g ∈ L → g < G) → (∀ g, g < G → w g = z g) → ∀ g, g < G → warmL q L x w g = warmL q L x z g := by
  intro L
  induction L with
  | nil => intro x w z _ h; exact h
  | cons a r ih =>
    intro x w z h1 h2
    refine ih (x / 2) _ _ (fun g hg => h1 g (List.mem_cons_of_mem _ hg)) (fun g hg => ?_)
    rw [jupd, jupd, h2 a (h1 a (List.mem_cons_self ..)), h2 g hg]
theorem s1R_mem {G k : Nat} {I : Nat → Bool} {X : Sm} (h : Wf G I X) {p g : Nat} (hg : g ∈ s1R k X p) : g < G ∧ I g = true ∧ ¬ X.st g = 1 := h.2.2 p g ((rotN_mem k _ g).mp hg)
theorem s1R_len {G k : Nat} {I : Nat → Bool} {X : Sm} (h : Wf G I X) (p : Nat) : (s1R k X p).length ≤ 12 := by
  unfold s1R; rw [rotN_len]; exact h.2.1 p
theorem stS_3 {G : Nat} {T : Nat → Int32} {I : Nat → Bool} {a s : Int32} {W : Nat → Int32} {X : Sm} (h : Wf G I X) (g : Nat) : stS G T I a s W X g = 0 ∨ stS G T I a s W X g = 1 ∨ stS G T I a s W X g = 2 := by
  unfold stS nSt
  split
  · split
    · exact Or.inr (Or.inl rfl)
    · split
      · exact Or.inl rfl
      · exact Or.inr (Or.inr rfl)
  · exact h.1 g
theorem Wf_stp {G : Nat} {T : Nat → Int32} {I : Nat → Bool} {a s h : Int32} {k : Nat} {q : Int32} {t : Nat} {X : Sm} (hX : Wf G I X) : Wf G I (stp G T I a s h k q t X) := by
  refine ⟨fun g => stS_3 hX g, fun p => ?_, fun p g hg => ?_⟩
  · exact Nat.le_trans (List.length_filter_le _ _) (s1R_len hX p)
  · have := List.mem_filter.mp hg
    obtain ⟨h1, h2, h3⟩ := s1R_mem hX this.1
    exact ⟨h1, h2, of_decide_eq_true this.2⟩
theorem Wf_beg {G : Nat} {T : Nat → Int32} {I : Nat → Bool} {pl : Nat → Nat} (hG : G ≤ 12) : Wf G I (beg G T I pl) := by
  refine ⟨fun g => Or.inl rfl, fun p => ?_, fun p g hg => ?_⟩
  · refine Nat.le_trans (List.length_filter_le _ _) ?_
    rw [List.length_range]; exact hG
  · have := List.mem_filter.mp hg
    refine ⟨List.mem_range.mp this.1, ?_, (by decide : ¬ (0 : Int32) = 1)⟩
    have h2 := this.2
    simp only [Bool.and_eq_true] at h2
    exact h2.1
/-! rows in the cells -/
def RW (σ : jm_S) (rc hc : Nat) (p : Nat) (L : List Nat) : Prop := σ hc p = nI L.length ∧ L.length ≤ 12 ∧ ∀ i, i < L.length → L.getD i 0 < 12 ∧ σ rc (12 * p + i) = nI (L.getD i 0)
theorem RW_fr {σ ρ : jm_S} {rc hc p : Nat} {L : List Nat} (h : RW σ rc hc p L) (h1 : ρ hc p = σ hc p) (h2 : ∀ i, i < 12 → ρ rc (12 * p + i) = σ rc (12 * p + i)) : RW ρ rc hc p L :=
  ⟨h1.trans h.1, h.2.1, fun i hi => ⟨(h.2.2 i hi).1, (h2 i (by have := h.2.1; omega)).trans (h.2.2 i hi).2⟩⟩
/-! counting -/
def cntN (f : Nat → Bool) : Nat → Nat
  | 0 => 0
  | n + 1 => cntN f n + (if f n = true then 1 else 0)
theorem cntN_congr {f h : Nat → Bool} {n : Nat} (e : ∀ j, j < n → f j = h j) : cntN f n = cntN h n := by
  induction n with
  | zero => rfl
  | succ n ih => rw [cntN, cntN, ih (fun j hj => e j (by omega)), e n (by omega)]
theorem cntN_le (f : Nat → Bool) (n : Nat) : cntN f n ≤ n := by
  induction n with
  | zero => exact Nat.le_refl 0
  | succ n ih => rw [cntN]; split <;> omega
theorem cntN_flip {f h : Nat → Bool} {i n : Nat} (hi : i < n) (e : ∀ j, j < n → j ≠ i → h j = f j) (e1 : f i = true) (e2 : h i = false) : cntN f n = cntN h n + 1 := by
  induction n with
  | zero => omega
  | succ n ih =>
    rw [cntN, cntN]
    by_cases c : i = n
    · subst c
      rw [cntN_congr (f := f) (h := h) (fun j hj => (e j (by omega) (by omega)).symm), e1, e2]
      simp
    · rw [ih (by omega) (fun j hj hne => e j (by omega) hne), e n (by omega) (fun q => c q.symm)]
      omega
theorem cntN_0 {f : Nat → Bool} {n : Nat} : cntN f n = 0 ↔ ∀ j, j < n → f j = false := by
  induction n with
  | zero => simp [cntN]
  | succ n ih =>
    rw [cntN]
    constructor
    · intro h j hj
      have h1 : cntN f n = 0 := by omega
      by_cases c : j = n
      · subst c
        cases q : f j with
        | false => rfl
        | true => rw [q] at h; simp at h
      · exact ih.mp h1 j (by omega)
    · intro h
      rw [ih.mpr (fun j hj => h j (by omega)), h n (by omega)]; rfl
def whN (G : Nat) (I : Nat → Bool) (st : Nat → Int32) : Nat := cntN (fun g => I g && decide (st g = 0)) G
