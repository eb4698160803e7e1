/-! ===== stop, best ===== -/
abbrev CL := List (Int32 × Int32)
def KR0 (fl : Nat → Int32) (L : Nat → CL) (σ : jm_S) : Prop := σ 44 3 = fl 0 ∧ (fl 0 = -1 → σ 46 0 = mnF 103 (L 0) 1000 ∧ σ 46 1 = mnF 110 (L 0) 1000 ∧ σ 46 2 = mnF 116 (L 0) 1000)
def KR1 (fl : Nat → Int32) (L : Nat → CL) (σ : jm_S) : Prop := σ 47 3 = fl 1 ∧ (fl 1 = -1 → σ 49 0 = mnF 103 (L 1) 1000 ∧ σ 49 1 = mnF 110 (L 1) 1000 ∧ σ 49 2 = mnF 116 (L 1) 1000)
def KR2 (fl : Nat → Int32) (L : Nat → CL) (σ : jm_S) : Prop := σ 50 3 = fl 2 ∧ (fl 2 = -1 → σ 52 0 = mnF 103 (L 2) 1000 ∧ σ 52 1 = mnF 110 (L 2) 1000 ∧ σ 52 2 = mnF 116 (L 2) 1000)
def KRc (fl : Nat → Int32) (L : Nat → CL) (σ : jm_S) : Prop := KR0 fl L σ ∧ KR1 fl L σ ∧ KR2 fl L σ
def KRm (fl : Nat → Int32) (L : Nat → CL) (σ : jm_S) : Prop := ∀ r, r < 3 → ∃ n y, n ≤ 30 ∧ σ 70 (r + 1) = nI n ∧ (∀ j, j < n → σ 69 (60 * (r + 1) + j) = y j) ∧ fl r = (ruA y n).1 ∧ L r = (ruA y n).2
theorem KR_of {σ : jm_S} (h : I_tx σ) : ∃ fl L, KRc fl L σ ∧ KRm fl L σ := by
  obtain ⟨_, ⟨n1, y1, a1, a2, a3, a4, a5, a6⟩, ⟨n2, y2, b1, b2, b3, b4, b5, b6⟩, ⟨n3, y3, c1, c2, c3, c4, c5, c6⟩⟩ := h
  refine ⟨fun r => if r = 0 then (ruA y1 n1).1 else if r = 1 then (ruA y2 n2).1 else (ruA y3 n3).1, fun r => if r = 0 then (ruA y1 n1).2 else if r = 1 then (ruA y2 n2).2 else (ruA y3 n3).2, ⟨⟨a5, a6⟩, ⟨b5, b6⟩, ⟨c5, c6⟩⟩, fun r hr => ?_⟩
  match r, hr with
  | 0, _ => exact ⟨n1, y1, a1, a2, a3, rfl, rfl⟩
  | 1, _ => exact ⟨n2, y2, b1, b2, b3, rfl, rfl⟩
  | 2, _ => exact ⟨n3, y3, c1, c2, c3, rfl, rfl⟩
  | n + 3, h => omega
theorem KRc_fr {fl : Nat → Int32} {L : Nat → CL} {σ ρ : jm_S} (h : KRc fl L σ) (hf : cFr σ ρ) : KRc fl L ρ := by
  unfold KRc KR0 KR1 KR2 at *
  rw [hf 44 (by decide), hf 46 (by decide), hf 47 (by decide), hf 49 (by decide), hf 50 (by decide), hf 52 (by decide)]
  exact h
theorem KRm_c {fl : Nat → Int32} {L : Nat → CL} {σ ρ : jm_S} (h : KRm fl L σ) (hf : cFr σ ρ) : KRm fl L ρ := by
  unfold KRm at *
  rw [hf 69 (by decide), hf 70 (by decide)]
  exact h
theorem KRm_fr {fl : Nat → Int32} {L : Nat → CL} {σ ρ : jm_S} (h : KRm fl L σ) (hf : jFr mS mK' σ ρ) : KRm fl L ρ := by
  unfold KRm at *
  rw [hf.1 69 (by decide) (by decide), hf.1 70 (by decide) (by decide)]
  exact h
theorem KRm_ok {fl : Nat → Int32} {L : Nat → CL} {σ : jm_S} (h : KRm fl L σ) {r : Nat} (hr : r < 3) : ∀ q, q ∈ L r → ruL q.1 ∧ ¬ q.2 < 1 := by
  obtain ⟨n, y, h1, h2, h3, h4, h5⟩ := h r hr
  intro q hq
  rw [h5] at hq
  exact ruA_ok y n q hq
noncomputable def tlT (G : Nat) (T : Nat → Int32) (pl : Nat → Nat) (P : Pn) (se : Nat → Int32) (L : CL) : Nat := stF (pM' (sN G T pl P se) L) 200 0
theorem tlT_le (G : Nat) (T : Nat → Int32) (pl : Nat → Nat) (P : Pn) (se : Nat → Int32) (L : CL) : tlT G T pl P se L ≤ 200 := stF_le 200 0
def tlV (G : Nat) (T : Nat → Int32) (pl : Nat → Nat) (P : Pn) (se : Nat → Int32) (t : Nat) (w : Int32) : Int32 :=
  if w = 0 then nI t else if w = 1 then nI (nmN G (fun _ => true) 0 (RN G T pl P se t)) else if w = 2 then lgN G (fun _ => true) (RN G T pl P se t) else if w = 3 then nI (nmN G (fun _ => true) 2 (RN G T pl P se t)) else if w = 4 then nI (brN G (fun _ => true) (RN G T pl P se t) (nI t) (se 2)) else wthN G (RN G T pl P se t) (nI t) (se 2) (se 3) (se 4) (se 5)
noncomputable def tlR (G : Nat) (T : Nat → Int32) (pl : Nat → Nat) (P : Pn) (se : Nat → Int32) (fl : Int32) (L : CL) (w : Int32) : Int32 := if fl = -1 then tlV G T pl P se (tlT G T pl P se L) w else -100003
theorem P_worth {G : Nat} (hG : G ≤ 12) {T : Nat → Int32} {pl : Nat → Nat} {P : Pn} {se : Nat → Int32} {t : Nat} (ht : t ≤ 200) (σ : jm_S) (h : CS_11 G (fun _ => true) (RN G T pl P se 200) σ) (hK : KC G T pl P se σ) : jc 61 [.ref 0, .int (nI t)] σ = some (some (.int (wthN G (RN G T pl P se t) (nI t) (se 2) (se 3) (se 4) (se 5))), σ) := by
  rw [P_worth_in, burntAt_11 hG ht (by omega) σ h, jbi_some, hK.2.1 2 (by omega), brownedAt_11 hG ht (by omega) _ σ h, jbi_some, largeAt_11 hG ht (by omega) σ h, jbi_some, wholeAt_11 hG ht (by omega) σ h, jbi_some, hK.2.1 3 (by omega), hK.2.1 4 (by omega), hK.2.1 5 (by omega)]; rfl
theorem P_tellRule33 {G : Nat} (hG : G ≤ 12) {T : Nat → Int32} {pl : Nat → Nat} {P : Pn} {se : Nat → Int32} {t : Nat} (ht : t ≤ 200) (x1 w : Int32) (hw : ¬ (w < 0 ∨ 5 < w)) (σ : jm_S) (h : CS_11 G (fun _ => true) (RN G T pl P se 200) σ) (hK : KC G T pl P se σ) : jv 55 33 [some (.ref 0), some (.int x1), some (.int w), some (.int (nI t))] [.int w] σ = some (some (.int (tlV G T pl P se t w)), σ) := by
  unfold tlV
  rcases j6 hw with e | e | e | e | e | e <;> subst e
  · rw [P_tellRule_S33_0]; rfl
  · rw [P_tellRule_S33_1, wholeAt_11 hG ht (by omega) σ h, jbi_some]; rfl
  · rw [P_tellRule_S33_2, largeAt_11 hG ht (by omega) σ h, jbi_some]; rfl
  · rw [P_tellRule_S33_3, burntAt_11 hG ht (by omega) σ h, jbi_some]; rfl
  · rw [P_tellRule_S33_4, hK.2.1 2 (by omega), brownedAt_11 hG ht (by omega) _ σ h, jbi_some]; rfl
  · rw [P_tellRule_S33_o _ _ _ _ _ (by decide +kernel), P_worth hG ht σ h hK, jbi_some]; rfl
theorem P_tellRule_0 {G : Nat} (hG : G ≤ 12) {T : Nat → Int32} {pl : Nat → Nat} {P : Pn} {se : Nat → Int32} {fl : Nat → Int32} {L : Nat → CL} (w : Int32) (hw : ¬ (w < 0 ∨ 5 < w)) (σ : jm_S) (h : CS_11 G (fun _ => true) (RN G T pl P se 200) σ) (hK : KC G T pl P se σ) (hR : KR0 fl L σ) (hL : ∀ q, q ∈ L 0 → ruL q.1 ∧ ¬ q.2 < 1) : jc 55 [.ref 0, .int 0, .int w] σ = some (some (.int (tlR G T pl P se (fl 0) (L 0) w)), σ) := by
  rw [P_tellRule_in, show (0 : Int32) + 1 = 1 by decide +kernel, jaa4_1, P_tellRule_A8_44, hR.1, tlR]
  by_cases c : fl 0 = -1
  · obtain ⟨m1, m2, m3⟩ := hR.2 c
    have u := until_46 hG σ h 200 0 none (by omega)
    have e0 : sumN (sN G T pl P se) 0 = 0 := rfl
    have e1 : slC (sN G T pl P se) 0 = 0 := rfl
    rw [e0, e1, nI_0, m1, m2, m3, ← stF_congr (p := pM' (sN G T pl P se) (L 0)) 200 0 (fun j hj => p_eq hL (by omega) (sN_12 hG T pl P se j))] at u
    rw [if_pos c, if_pos c, jaa3_0, P_tellRule_A24_46, Rule_secondsUntilStop_46_11_in, u, jbi_some]
    exact P_tellRule33 hG (tlT_le G T pl P se (L 0)) _ w hw σ h hK
  · rw [if_neg c, if_neg c]
theorem P_tellRule_1 {G : Nat} (hG : G ≤ 12) {T : Nat → Int32} {pl : Nat → Nat} {P : Pn} {se : Nat → Int32} {fl : Nat → Int32} {L : Nat → CL} (w : Int32) (hw : ¬ (w < 0 ∨ 5 < w)) (σ : jm_S) (h : CS_11 G (fun _ => true) (RN G T pl P se 200) σ) (hK : KC G T pl P se σ) (hR : KR1 fl L σ) (hL : ∀ q, q ∈ L 1 → ruL q.1 ∧ ¬ q.2 < 1) : jc 55 [.ref 0, .int 1, .int w] σ = some (some (.int (tlR G T pl P se (fl 1) (L 1) w)), σ) := by
  rw [P_tellRule_in, show (1 : Int32) + 1 = 2 by decide +kernel, jaa4_2, P_tellRule_A8_47, hR.1, tlR]
  by_cases c : fl 1 = -1
  · obtain ⟨m1, m2, m3⟩ := hR.2 c
    have u := until_49 hG σ h 200 0 none (by omega)
    have e0 : sumN (sN G T pl P se) 0 = 0 := rfl
    have e1 : slC (sN G T pl P se) 0 = 0 := rfl
    rw [e0, e1, nI_0, m1, m2, m3, ← stF_congr (p := pM' (sN G T pl P se) (L 1)) 200 0 (fun j hj => p_eq hL (by omega) (sN_12 hG T pl P se j))] at u
    rw [if_pos c, if_pos c, jaa3_1, P_tellRule_A24_49, Rule_secondsUntilStop_49_11_in, u, jbi_some]
    exact P_tellRule33 hG (tlT_le G T pl P se (L 1)) _ w hw σ h hK
  · rw [if_neg c, if_neg c]
theorem P_tellRule_2 {G : Nat} (hG : G ≤ 12) {T : Nat → Int32} {pl : Nat → Nat} {P : Pn} {se : Nat → Int32} {fl : Nat → Int32} {L : Nat → CL} (w : Int32) (hw : ¬ (w < 0 ∨ 5 < w)) (σ : jm_S) (h : CS_11 G (fun _ => true) (RN G T pl P se 200) σ) (hK : KC G T pl P se σ) (hR : KR2 fl L σ) (hL : ∀ q, q ∈ L 2 → ruL q.1 ∧ ¬ q.2 < 1) : jc 55 [.ref 0, .int 2, .int w] σ = some (some (.int (tlR G T pl P se (fl 2) (L 2) w)), σ) := by
  rw [P_tellRule_in, show (2 : Int32) + 1 = 3 by decide +kernel, jaa4_3, P_tellRule_A8_50, hR.1, tlR]
  by_cases c : fl 2 = -1
  · obtain ⟨m1, m2, m3⟩ := hR.2 c
    have u := until_52 hG σ h 200 0 none (by omega)
    have e0 : sumN (sN G T pl P se) 0 = 0 := rfl
    have e1 : slC (sN G T pl P se) 0 = 0 := rfl
    rw [e0, e1, nI_0, m1, m2, m3, ← stF_congr (p := pM' (sN G T pl P se) (L 2)) 200 0 (fun j hj => p_eq hL (by omega) (sN_12 hG T pl P se j))] at u
    rw [if_pos c, if_pos c, jaa3_2, P_tellRule_A24_52, Rule_secondsUntilStop_52_11_in, u, jbi_some]
    exact P_tellRule33 hG (tlT_le G T pl P se (L 2)) _ w hw σ h hK
  · rw [if_neg c, if_neg c]
def bsF (fl wt : Nat → Int32) : Nat → Nat → Int32 → Int32 → Int32
  | 0, _, b, _ => b
  | k + 1, r, b, m => if fl r = -1 then (if b = -1 then bsF fl wt k (r + 1) (nI r) (wt r) else if wt r ≤ m then bsF fl wt k (r + 1) b m else bsF fl wt k (r + 1) (nI r) (wt r)) else bsF fl wt k (r + 1) b m
noncomputable abbrev wtR (G : Nat) (T : Nat → Int32) (pl : Nat → Nat) (P : Pn) (se : Nat → Int32) (L : Nat → CL) (r : Nat) : Int32 := wthN G (RN G T pl P se (tlT G T pl P se (L r))) (nI (tlT G T pl P se (L r))) (se 2) (se 3) (se 4) (se 5)
theorem tlV5 (G : Nat) (T : Nat → Int32) (pl : Nat → Nat) (P : Pn) (se : Nat → Int32) (t : Nat) : tlV G T pl P se t 5 = wthN G (RN G T pl P se t) (nI t) (se 2) (se 3) (se 4) (se 5) := rfl
theorem P_bestRule {G : Nat} (hG : G ≤ 12) {T : Nat → Int32} {pl : Nat → Nat} {P : Pn} {se : Nat → Int32} {fl : Nat → Int32} {L : Nat → CL} (σ : jm_S) (h : CS_11 G (fun _ => true) (RN G T pl P se 200) σ) (hK : KC G T pl P se σ) (hR : KRc fl L σ) (hL : ∀ r, r < 3 → ∀ q, q ∈ L r → ruL q.1 ∧ ¬ q.2 < 1) : jc 63 [.ref 0] σ = some (some (.int (bsF fl (wtR G T pl P se L) 3 0 (-1) 0)), σ) := by
  have s3 : ∀ b m u, jv 63 6 [some (.ref 0), some (.int b), some (.int m), some (.int 3), u] [] σ = some (some (.int b), σ) := fun b m u => by
    rw [P_bestRule_L6, if_pos (by decide +kernel)]
  have s2 : ∀ b m u, jv 63 6 [some (.ref 0), some (.int b), some (.int m), some (.int 2), u] [] σ = some (some (.int (bsF fl (wtR G T pl P se L) (0 + 1) 2 b m)), σ) := fun b m u => by
    have tr := P_tellRule_2 hG 5 (by decide) σ h hK hR.2.2 (hL 2 (by omega))
    rw [P_bestRule_L6, if_neg (by decide +kernel), show (2 : Int32) + 1 = 3 by decide +kernel, jaa4_3, P_bestRule_A19_50, (hR.2.2).1, bsF, show nI 2 = (2 : Int32) by decide +kernel, show (2 : Int32) + 1 = 3 by decide +kernel]
    by_cases c : fl 2 = -1
    · rw [tlR, if_pos c, tlV5] at tr
      rw [if_neg (not_not_intro c), if_pos c, tr, jbi_some]
      by_cases c2 : b = -1
      · rw [if_pos c2, if_pos c2]; exact s3 _ _ _
      · rw [if_neg c2, if_neg c2]
        by_cases c3 : wtR G T pl P se L 2 ≤ m
        · rw [if_pos c3, if_pos c3]; exact s3 _ _ _
        · rw [if_neg c3, if_neg c3]; exact s3 _ _ _
    · rw [if_pos c, if_neg c]; exact s3 _ _ _
  have s1 : ∀ b m u, jv 63 6 [some (.ref 0), some (.int b), some (.int m), some (.int 1), u] [] σ = some (some (.int (bsF fl (wtR G T pl P se L) (1 + 1) 1 b m)), σ) := fun b m u => by
    have tr := P_tellRule_1 hG 5 (by decide) σ h hK hR.2.1 (hL 1 (by omega))
    rw [P_bestRule_L6, if_neg (by decide +kernel), show (1 : Int32) + 1 = 2 by decide +kernel, jaa4_2, P_bestRule_A19_47, (hR.2.1).1, bsF, show nI 1 = (1 : Int32) by decide +kernel, show (1 : Int32) + 1 = 2 by decide +kernel]
    by_cases c : fl 1 = -1
    · rw [tlR, if_pos c, tlV5] at tr
      rw [if_neg (not_not_intro c), if_pos c, tr, jbi_some]
      by_cases c2 : b = -1
      · rw [if_pos c2, if_pos c2]; exact s2 _ _ _
      · rw [if_neg c2, if_neg c2]
        by_cases c3 : wtR G T pl P se L 1 ≤ m
        · rw [if_pos c3, if_pos c3]; exact s2 _ _ _
        · rw [if_neg c3, if_neg c3]; exact s2 _ _ _
    · rw [if_pos c, if_neg c]; exact s2 _ _ _
  have s0 : ∀ b m u, jv 63 6 [some (.ref 0), some (.int b), some (.int m), some (.int 0), u] [] σ = some (some (.int (bsF fl (wtR G T pl P se L) (2 + 1) 0 b m)), σ) := fun b m u => by
    have tr := P_tellRule_0 hG 5 (by decide) σ h hK hR.1 (hL 0 (by omega))
    rw [P_bestRule_L6, if_neg (by decide +kernel), show (0 : Int32) + 1 = 1 by decide +kernel, jaa4_1, P_bestRule_A19_44, (hR.1).1, bsF, show nI 0 = (0 : Int32) by decide +kernel, show (0 : Int32) + 1 = 1 by decide +kernel]
    by_cases c : fl 0 = -1
    · rw [tlR, if_pos c, tlV5] at tr
      rw [if_neg (not_not_intro c), if_pos c, tr, jbi_some]
      by_cases c2 : b = -1
      · rw [if_pos c2, if_pos c2]; exact s1 _ _ _
      · rw [if_neg c2, if_neg c2]
        by_cases c3 : wtR G T pl P se L 0 ≤ m
        · rw [if_pos c3, if_pos c3]; exact s1 _ _ _
        · rw [if_neg c3, if_neg c3]; exact s1 _ _ _
    · rw [if_pos c, if_neg c]; exact s1 _ _ _
  rw [P_bestRule_in]
  exact s0 _ _ _
/-! the model's -/
theorem stopped_1 {m : Nat} (hm : m ≤ 10) (x1 x2 x3 : Int32) (σ : jm_S) (h17 : σ 61 17 = nI m) : ∀ (k j : Nat) (u : Option Value), j + k = m → jv 167 6 [some (.ref 61), some (.int x1), some (.int x2), some (.int x3), some (.int 1), some (.int (nI j)), u] [] σ = some (some (.int 1), σ) := by
  intro k
  induction k with
  | zero =>
    intro j u hj
    have e : j = m := by omega
    subst e
    rw [M_isStopped_L6, h17, if_pos (nI_le (Nat.le_refl _) (by omega)), if_pos (Or.inr rfl)]
  | succ k ih =>
    intro j u hj
    rw [M_isStopped_L6, h17, if_neg (nI_ge (show j < m by omega) (by omega)), nI_clamp (show j < 2 ^ 31 by omega), if_neg (show ¬ (nI j < 0 ∨ 11 ≤ j) by rw [jbad2 (show j < 11 by omega) (by decide)]; exact id), if_pos n10, nI_1, ih (j + 1) _ (by omega)]
theorem stopped_0 {m : Nat} (hm : m ≤ 10) (x1 x2 x3 : Int32) (σ : jm_S) (h17 : σ 61 17 = nI m) : ∀ (r : CL) (j : Nat) (u : Option Value), j + r.length = m → cnd σ j r → ∃ v : Int32, jv 167 6 [some (.ref 61), some (.int x1), some (.int x2), some (.int x3), some (.int 0), some (.int (nI j)), u] [] σ = some (some (.int v), σ) ∧ (¬ v = 0 ↔ stB x1 x2 x3 r) := by
  intro r
  induction r with
  | nil =>
    intro j u hj _
    have e : j = m := by rw [List.length_nil] at hj; omega
    subst e
    refine ⟨0, ?_, ⟨fun q => absurd rfl q, fun q => absurd q stB_nil⟩⟩
    rw [M_isStopped_L6, h17, if_pos (nI_le (Nat.le_refl _) (by omega)), if_pos (Or.inl rfl)]
  | cons q r ih =>
    intro j u hj hc
    obtain ⟨c1, c2, c3⟩ := hc
    rw [List.length_cons] at hj
    have nj : ¬ (nI j < 0 ∨ 11 ≤ j) := by rw [jbad2 (show j < 11 by omega) (by decide)]; exact id
    have r0 := M_isStopped_L6 x1 x2 x3 0 (nI j) u σ
    rw [h17, if_neg (nI_ge (show j < m by omega) (by omega)), nI_clamp (show j < 2 ^ 31 by omega), if_neg nj, if_neg (show ¬ ¬ (0 : Int32) = 0 by decide), if_neg nj, if_neg nj, c1, c2, nI_1, stopped_1 hm x1 x2 x3 σ h17 (m - (j + 1)) (j + 1) _ (by omega)] at r0
    obtain ⟨v, i1, i2⟩ := ih (j + 1) (some (.int q.2)) (by omega) c3
    rw [i1] at r0
    by_cases s : stQ x1 x2 x3 q
    · refine ⟨1, ?_, ⟨fun _ => stB_cons.mpr (Or.inl s), fun _ => n10⟩⟩
      rw [r0]
      unfold stQ at s
      by_cases d1 : q.1 = 116
      · rw [if_pos d1] at s
        rw [if_neg (not_not_intro d1), if_neg s]
      · rw [if_neg d1] at s
        rw [if_pos d1]
        by_cases d2 : q.1 = 110
        · rw [if_pos d2] at s
          rw [if_neg (not_not_intro d2), if_neg s]
        · rw [if_neg d2] at s
          rw [if_pos d2, if_neg s.1, if_neg s.2]
    · refine ⟨v, ?_, i2.trans ⟨fun w => stB_cons.mpr (Or.inr w), fun w => (stB_cons.mp w).resolve_left s⟩⟩
      rw [r0]
      unfold stQ at s
      by_cases d1 : q.1 = 116
      · rw [if_pos d1] at s
        rw [if_neg (not_not_intro d1), if_pos (Classical.not_not.mp s)]
      · rw [if_neg d1] at s
        rw [if_pos d1]
        by_cases d2 : q.1 = 110
        · rw [if_pos d2] at s
          rw [if_neg (not_not_intro d2), if_pos (Classical.not_not.mp s)]
        · rw [if_neg d2] at s
          rw [if_pos d2]
          by_cases d3 : x2 ≤ 0
          · rw [if_pos d3]
          · rw [if_neg d3, if_pos (Classical.not_not.mp (fun w => s ⟨d3, w⟩))]
theorem M_isStopped {L : CL} (hL : L.length ≤ 10) (x1 x2 x3 : Int32) (σ : jm_S) (h17 : σ 61 17 = nI L.length) (hc : cnd σ 0 L) : ∃ v : Int32, jc 167 [.ref 61, .int x1, .int x2, .int x3] σ = some (some (.int v), σ) ∧ (¬ v = 0 ↔ stB x1 x2 x3 L) := by
  obtain ⟨v, h1, h2⟩ := stopped_0 hL x1 x2 x3 σ h17 L 0 none (by omega) hc
  rw [nI_0] at h1
  exact ⟨v, by rw [M_isStopped_in, h1], h2⟩
theorem cnd_fr {σ ρ : jm_S} (h1 : ρ 74 = σ 74) (h2 : ρ 75 = σ 75) : ∀ (L : CL) (j : Nat), cnd σ j L → cnd ρ j L := by
  intro L
  induction L with
  | nil => intro j h; exact h
  | cons q r ih => intro j h; exact ⟨by rw [h1]; exact h.1, by rw [h2]; exact h.2.1, ih _ h.2.2⟩
