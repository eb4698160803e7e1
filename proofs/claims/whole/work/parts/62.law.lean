/-! ===== the law's loop, over the pure machine ===== -/
theorem all_gh {σ ρ : jm_S} (h : I_all σ) (hp : I_gh ρ) (hf : jFr jGS [5, 36] σ ρ) : I_all ρ := by
  obtain ⟨h1, h2, h3, h4⟩ := h
  have fr : ∀ c, c ∉ jGS → c ≠ 61 → ρ c = σ c := hf.1
  refine ⟨I_sl_c h1 (fr 0 (by decide) (by decide)) (hf.2 4 (by decide)) (fun a h53 h64 h61 => fr a (by simp only [List.mem_cons, List.not_mem_nil, or_false]; omega) h61), hp, I_se_fr h3 (fr 4 (by decide) (by decide)) (fr 68 (by decide) (by decide)), I_tx_fr h4 (fun c hc => ?_)⟩
  simp only [List.mem_cons, List.not_mem_nil, or_false] at hc
  exact fr c (by simp only [List.mem_cons, List.not_mem_nil, or_false]; omega) (by omega)
theorem all_shg {σ ρ : jm_S} (h : I_all σ) (hp : I_shg ρ) (hf : jFr jSG [4, 5, 36] σ ρ) : I_all ρ := by
  obtain ⟨h1, h2, h3, h4⟩ := h
  have fr : ∀ c, c ∉ jSG → c ≠ 61 → ρ c = σ c := hf.1
  refine ⟨hp.1, hp.2, I_se_fr h3 (fr 4 (by decide) (by decide)) (fr 68 (by decide) (by decide)), I_tx_fr h4 (fun c hc => ?_)⟩
  simp only [List.mem_cons, List.not_mem_nil, or_false] at hc
  exact fr c (by simp only [List.mem_cons, List.not_mem_nil, or_false]; omega) (by omega)
theorem all_se {σ ρ : jm_S} (h : I_all σ) (hp : I_se ρ) (hf : jFr [4, 68] [] σ ρ) : I_all ρ := by
  obtain ⟨h1, h2, h3, h4⟩ := h
  have fr : ∀ c, c ∉ [4, 68] → c ≠ 61 → ρ c = σ c := hf.1
  refine ⟨I_sl_c h1 (fr 0 (by decide) (by decide)) (hf.2 4 (by decide)) (fun a h53 h64 h61 => fr a (by simp only [List.mem_cons, List.not_mem_nil, or_false]; omega) h61), I_gh_c h2 (by rw [fr 1 (by decide) (by decide)]) (hf.2 5 (by decide)) (hf.2 36 (by decide)) (by rw [fr 38 (by decide) (by decide)]) (fun a ha => ?_), hp, I_tx_fr h4 (fun c hc => ?_)⟩
  · simp only [List.mem_cons, List.not_mem_nil, or_false] at ha
    rcases ha with e | e | e | e | e | e | e | e <;> subst e <;> exact fr _ (by decide) (by decide)
  · simp only [List.mem_cons, List.not_mem_nil, or_false] at hc
    exact fr c (by simp only [List.mem_cons, List.not_mem_nil, or_false]; omega) (by omega)
theorem all_tx {σ ρ : jm_S} (h : I_all σ) (hp : I_tx ρ) (hf : jFr jTS [11, 15, 16, 17] σ ρ) : I_all ρ := by
  obtain ⟨h1, h2, h3, h4⟩ := h
  have fr : ∀ c, c ∉ jTS → c ≠ 61 → ρ c = σ c := hf.1
  refine ⟨I_sl_c h1 (fr 0 (by decide) (by decide)) (hf.2 4 (by decide)) (fun a h53 h64 h61 => fr a (by simp only [List.mem_cons, List.not_mem_nil, or_false]; omega) h61), I_gh_c h2 (by rw [fr 1 (by decide) (by decide)]) (hf.2 5 (by decide)) (hf.2 36 (by decide)) (by rw [fr 38 (by decide) (by decide)]) (fun a ha => ?_), I_se_fr h3 (fr 4 (by decide) (by decide)) (fr 68 (by decide) (by decide)), hp⟩
  simp only [List.mem_cons, List.not_mem_nil, or_false] at ha
  rcases ha with e | e | e | e | e | e | e | e <;> subst e <;> exact fr _ (by decide) (by decide)
theorem jadd5 (g : Nat) : nI g + 5 = nI (g + 5) := by rw [show (5 : Int32) = nI 5 by decide +kernel, nI_add]
theorem jadd6 (g : Nat) : nI g + 6 = nI (g + 6) := by rw [show (6 : Int32) = nI 6 by decide +kernel, nI_add]
theorem kind_i {m : Nat} {as : List Value} {σ τ : jm_S} {v : Option Value} (h : jc m as σ = some (v, τ)) (hm : (jm_mt[m]?).map (fun mt => mt.2.2.2.2.1) = some (some .int)) : ∃ r, v = some (.int r) := by
  cases q : jm_mt[m]? with
  | none => rw [q] at hm; cases hm
  | some mt =>
    rw [q] at hm
    have e : mt.2.2.2.2.1 = some .int := by injection hm
    have := jc_kind q h
    rw [e] at this
    exact this
theorem kind_l {m : Nat} {as : List Value} {σ τ : jm_S} {v : Option Value} (h : jc m as σ = some (v, τ)) (hm : (jm_mt[m]?).map (fun mt => mt.2.2.2.2.1) = some (some .long)) : ∃ r, v = some (.long r) := by
  cases q : jm_mt[m]? with
  | none => rw [q] at hm; cases hm
  | some mt =>
    rw [q] at hm
    have e : mt.2.2.2.2.1 = some .long := by injection hm
    have := jc_kind q h
    rw [e] at this
    exact this
theorem lg_self (x : Int64) : lg_cmp x x = 0 := by
  unfold lg_cmp
  simp
theorem W_grain {σ : jm_S} (h : I_all σ) (x1 x2 x3 x4 x5 : Int32) : ∃ v τ ρ, jc 0 [.ref 0, .int x1, .int x2, .int x3, .int x4, .int x5] σ = some (v, τ) ∧ jc 128 [.ref 61, .int x1, .int x2, .int x3, .int x4, .int x5] τ = some (v, ρ) ∧ I_all ρ := by
  obtain ⟨v, τ, ρ, h1, h2, hp, hf⟩ := A_grain h.2.1 x1 x2 x3 x4 x5
  exact ⟨v, τ, ρ, h1, h2, all_gh h hp hf⟩
theorem W_read {σ : jm_S} (h : I_all σ) (x1 x2 : Int32) : ∃ v τ ρ, jc 7 [.ref 0, .int x1, .int x2] σ = some (v, τ) ∧ jc 131 [.ref 61, .int x1, .int x2] τ = some (v, ρ) ∧ I_all ρ := by
  obtain ⟨v, τ, ρ, h1, h2, hp, hf⟩ := A_read ⟨h.1, h.2.1⟩ x1 x2
  exact ⟨v, τ, ρ, h1, h2, all_shg h hp hf⟩
theorem W_change {σ : jm_S} (h : I_all σ) (x1 x2 x3 : Int32) : ∃ v τ ρ, jc 10 [.ref 0, .int x1, .int x2, .int x3] σ = some (v, τ) ∧ jc 132 [.ref 61, .int x1, .int x2, .int x3] τ = some (v, ρ) ∧ I_all ρ := by
  obtain ⟨v, τ, ρ, h1, h2, hp, hf⟩ := A_change h.2.1 x1 x2 x3
  exact ⟨v, τ, ρ, h1, h2, all_gh h hp hf⟩
theorem W_empty {σ : jm_S} (h : I_all σ) : ∃ v τ ρ, jc 13 [.ref 0] σ = some (v, τ) ∧ jc 134 [.ref 61] τ = some (v, ρ) ∧ I_all ρ := by
  obtain ⟨v, τ, ρ, h1, h2, hp, hf⟩ := A_empty h.2.1 
  exact ⟨v, τ, ρ, h1, h2, all_gh h hp hf⟩
theorem W_set {σ : jm_S} (h : I_all σ) (x1 x2 : Int32) : ∃ v τ ρ, jc 14 [.ref 0, .int x1, .int x2] σ = some (v, τ) ∧ jc 135 [.ref 61, .int x1, .int x2] τ = some (v, ρ) ∧ I_all ρ := by
  obtain ⟨v, τ, ρ, h1, h2, hp, hf⟩ := A_set h.2.2.1 x1 x2
  exact ⟨v, τ, ρ, h1, h2, all_se h hp hf⟩
theorem W_type {σ : jm_S} (h : I_all σ) (x1 x2 : Int32) : ∃ v τ ρ, jc 15 [.ref 0, .int x1, .int x2] σ = some (v, τ) ∧ jc 136 [.ref 61, .int x1, .int x2] τ = some (v, ρ) ∧ I_all ρ := by
  obtain ⟨v, τ, ρ, h1, h2, hp, hf⟩ := A_type h.2.2.2 x1 x2
  exact ⟨v, τ, ρ, h1, h2, all_tx h hp hf⟩
theorem W_wipe {σ : jm_S} (h : I_all σ) (x1 : Int32) : ∃ v τ ρ, jc 33 [.ref 0, .int x1] σ = some (v, τ) ∧ jc 138 [.ref 61, .int x1] τ = some (v, ρ) ∧ I_all ρ := by
  obtain ⟨v, τ, ρ, h1, h2, hp, hf⟩ := A_wipe h.2.2.2 x1
  exact ⟨v, τ, ρ, h1, h2, all_tx h hp hf⟩
theorem W_fault {σ : jm_S} (h : I_all σ) (x1 : Int32) : ∃ v τ ρ, jc 34 [.ref 0, .int x1] σ = some (v, τ) ∧ jc 139 [.ref 61, .int x1] τ = some (v, ρ) ∧ I_all ρ := by
  obtain ⟨v, τ, ρ, h1, h2, hp, hf⟩ := A_fault h.2.2.2 x1
  exact ⟨v, τ, ρ, h1, h2, all_tx h hp hf⟩
theorem W_pan {σ : jm_S} (h : I_all σ) (x1 x2 : Int32) : ∃ v τ ρ, jc 35 [.ref 0, .int x1, .int x2] σ = some (v, τ) ∧ jc 148 [.ref 61, .int x1, .int x2] τ = some (v, ρ) ∧ I_all ρ := by
  obtain ⟨v, τ, ρ, h1, h2, hp, hf⟩ := A_pan h.2.2.2 x1 x2
  exact ⟨v, τ, ρ, h1, h2, all_tx h hp hf⟩
theorem W_after {σ : jm_S} (h : I_all σ) (x1 x2 x3 : Int32) : ∃ v τ ρ, jc 36 [.ref 0, .int x1, .int x2, .int x3] σ = some (v, τ) ∧ jc 149 [.ref 61, .int x1, .int x2, .int x3] τ = some (v, ρ) ∧ I_all ρ := by
  obtain ⟨v, τ, ρ, h1, h2, hp, hf⟩ := A_after h x1 x2 x3
  exact ⟨v, τ, ρ, h1, h2, hp⟩
theorem W_sounds {σ : jm_S} (h : I_all σ) (x1 x2 : Int32) : ∃ v τ ρ, jc 48 [.ref 0, .int x1, .int x2] σ = some (v, τ) ∧ jc 161 [.ref 61, .int x1, .int x2] τ = some (v, ρ) ∧ I_all ρ := by
  obtain ⟨v, τ, ρ, h1, h2, hp, hf⟩ := A_sounds h x1 x2
  exact ⟨v, τ, ρ, h1, h2, hp⟩
theorem W_stop {σ : jm_S} (h : I_all σ) (x1 x2 : Int32) : ∃ v τ ρ, jc 54 [.ref 0, .int x1, .int x2] σ = some (v, τ) ∧ jc 162 [.ref 61, .int x1, .int x2] τ = some (v, ρ) ∧ I_all ρ := by
  obtain ⟨v, τ, ρ, h1, h2, hp, hf⟩ := A_stop h x1 x2
  exact ⟨v, τ, ρ, h1, h2, hp⟩
theorem W_best {σ : jm_S} (h : I_all σ) : ∃ v τ ρ, jc 62 [.ref 0] σ = some (v, τ) ∧ jc 172 [.ref 61] τ = some (v, ρ) ∧ I_all ρ := by
  obtain ⟨v, τ, ρ, h1, h2, hp, hf⟩ := A_best h 
  exact ⟨v, τ, ρ, h1, h2, hp⟩
theorem W_even {σ : jm_S} (h : I_all σ) (x1 x2 : Int32) : ∃ v τ ρ, jc 64 [.ref 0, .int x1, .int x2] σ = some (v, τ) ∧ jc 174 [.ref 61, .int x1, .int x2] τ = some (v, ρ) ∧ I_all ρ := by
  obtain ⟨v, τ, ρ, h1, h2, hp, hf⟩ := A_even h x1 x2
  exact ⟨v, τ, ρ, h1, h2, hp⟩
theorem W_front {σ : jm_S} (h : I_all σ) (x1 x2 : Int32) : ∃ v τ ρ, jc 69 [.ref 0, .int x1, .int x2] σ = some (v, τ) ∧ jc 178 [.ref 61, .int x1, .int x2] τ = some (v, ρ) ∧ I_all ρ := by
  obtain ⟨v, τ, ρ, h1, h2, hp, hf⟩ := A_front h x1 x2
  exact ⟨v, τ, ρ, h1, h2, hp⟩
theorem W_air {σ : jm_S} (h : I_all σ) (x1 x2 : Int32) : ∃ v τ ρ, jc 74 [.ref 0, .int x1, .int x2] σ = some (v, τ) ∧ jc 179 [.ref 61, .int x1, .int x2] τ = some (v, ρ) ∧ I_all ρ := by
  obtain ⟨v, τ, ρ, h1, h2, hp, hf⟩ := A_air h x1 x2
  exact ⟨v, τ, ρ, h1, h2, hp⟩
theorem W_shaken {σ : jm_S} (h : I_all σ) (x1 x2 : Int32) : ∃ v τ ρ, jc 75 [.ref 0, .int x1, .int x2] σ = some (v, τ) ∧ jc 181 [.ref 61, .int x1, .int x2] τ = some (v, ρ) ∧ I_all ρ := by
  obtain ⟨v, τ, ρ, h1, h2, hp, hf⟩ := A_shaken h x1 x2
  exact ⟨v, τ, ρ, h1, h2, hp⟩
theorem W_late {σ : jm_S} (h : I_all σ) (x1 : Int32) : ∃ v τ ρ, jc 77 [.ref 0, .int x1] σ = some (v, τ) ∧ jc 182 [.ref 61, .int x1] τ = some (v, ρ) ∧ I_all ρ := by
  obtain ⟨v, τ, ρ, h1, h2, hp, hf⟩ := A_late h x1
  exact ⟨v, τ, ρ, h1, h2, hp⟩
theorem W_sieved {σ : jm_S} (h : I_all σ) (x1 x2 x3 : Int32) : ∃ v τ ρ, jc 79 [.ref 0, .int x1, .int x2, .int x3] σ = some (v, τ) ∧ jc 183 [.ref 61, .int x1, .int x2, .int x3] τ = some (v, ρ) ∧ I_all ρ := by
  obtain ⟨v, τ, ρ, h1, h2, hp, hf⟩ := A_sieved h x1 x2 x3
  exact ⟨v, τ, ρ, h1, h2, hp⟩
theorem W_jar {σ : jm_S} (h : I_all σ) (x1 x2 x3 : Int32) : ∃ v τ ρ, jc 82 [.ref 0, .int x1, .int x2, .int x3] σ = some (v, τ) ∧ jc 185 [.ref 61, .int x1, .int x2, .int x3] τ = some (v, ρ) ∧ I_all ρ := by
  obtain ⟨v, τ, ρ, h1, h2, hp, hf⟩ := A_jar (S := []) (K := []) (p := I_all) h x1 x2 x3
  exact ⟨v, τ, ρ, h1, h2, hp⟩
theorem W_length {σ : jm_S} (h : I_all σ) (x1 x2 x3 x4 : Int32) : ∃ v τ ρ, jc 85 [.ref 0, .int x1, .int x2, .int x3, .int x4] σ = some (v, τ) ∧ jc 188 [.ref 61, .int x1, .int x2, .int x3, .int x4] τ = some (v, ρ) ∧ I_all ρ := by
  obtain ⟨v, τ, ρ, h1, h2, hp, hf⟩ := A_length (S := []) (K := []) (p := I_all) h x1 x2 x3 x4
  exact ⟨v, τ, ρ, h1, h2, hp⟩
theorem W_cracked {σ : jm_S} (h : I_all σ) (x1 x2 x3 x4 x5 : Int32) : ∃ v τ ρ, jc 86 [.ref 0, .int x1, .int x2, .int x3, .int x4, .int x5] σ = some (v, τ) ∧ jc 189 [.ref 61, .int x1, .int x2, .int x3, .int x4, .int x5] τ = some (v, ρ) ∧ I_all ρ := by
  obtain ⟨v, τ, ρ, h1, h2, hp, hf⟩ := A_cracked (S := []) (K := []) (p := I_all) h x1 x2 x3 x4 x5
  exact ⟨v, τ, ρ, h1, h2, hp⟩
theorem W_span {σ : jm_S} (h : I_all σ) (x1 x2 x3 x4 x5 : Int32) : ∃ v τ ρ, jc 91 [.ref 0, .int x1, .int x2, .int x3, .int x4, .int x5] σ = some (v, τ) ∧ jc 193 [.ref 61, .int x1, .int x2, .int x3, .int x4, .int x5] τ = some (v, ρ) ∧ I_all ρ := by
  obtain ⟨v, τ, ρ, h1, h2, hp, hf⟩ := A_span (S := []) (K := []) (p := I_all) h x1 x2 x3 x4 x5
  exact ⟨v, τ, ρ, h1, h2, hp⟩
theorem W_heard {σ : jm_S} (h : I_all σ) (x1 x2 : Int32) : ∃ v τ ρ, jc 93 [.ref 0, .int x1, .int x2] σ = some (v, τ) ∧ jc 194 [.ref 61, .int x1, .int x2] τ = some (v, ρ) ∧ I_all ρ := by
  obtain ⟨v, τ, ρ, h1, h2, hp, hf⟩ := A_heard h.2.1 x1 x2
  exact ⟨v, τ, ρ, h1, h2, all_gh h hp hf⟩
theorem W_fits {σ : jm_S} (h : I_all σ) (x1 : Int32) : ∃ v τ ρ, jc 96 [.ref 0, .int x1] σ = some (v, τ) ∧ jc 195 [.ref 61, .int x1] τ = some (v, ρ) ∧ I_all ρ := by
  obtain ⟨v, τ, ρ, h1, h2, hp, hf⟩ := A_fits h x1
  exact ⟨v, τ, ρ, h1, h2, hp⟩
theorem W_sheet {σ : jm_S} (h : I_all σ) (x1 x2 x3 : Int32) : ∃ v τ ρ, jc 102 [.ref 0, .int x1, .int x2, .int x3] σ = some (v, τ) ∧ jc 118 [.ref 61, .int x1, .int x2, .int x3] τ = some (v, ρ) ∧ I_all ρ := by
  obtain ⟨v, τ, ρ, h1, h2, hp, hf⟩ := A_sheet h.1 x1 x2 x3
  exact ⟨v, τ, ρ, h1, h2, all_sl h hp hf⟩
theorem W_lose {σ : jm_S} (h : I_all σ) (x1 : Int32) : ∃ v τ ρ, jc 104 [.ref 0, .int x1] σ = some (v, τ) ∧ jc 122 [.ref 61, .int x1] τ = some (v, ρ) ∧ I_all ρ := by
  obtain ⟨v, τ, ρ, h1, h2, hp, hf⟩ := A_lose h.1 x1
  exact ⟨v, τ, ρ, h1, h2, all_sl h hp hf⟩
theorem W_lay {σ : jm_S} (h : I_all σ) (x1 x2 x3 x4 : Int32) : ∃ v τ ρ, jc 105 [.ref 0, .int x1, .int x2, .int x3, .int x4] σ = some (v, τ) ∧ jc 123 [.ref 61, .int x1, .int x2, .int x3, .int x4] τ = some (v, ρ) ∧ I_all ρ := by
  obtain ⟨v, τ, ρ, h1, h2, hp, hf⟩ := A_lay h.1 x1 x2 x3 x4
  exact ⟨v, τ, ρ, h1, h2, all_sl h hp hf⟩
theorem W_get {σ : jm_S} (h : I_all σ) (x1 x2 x3 : Int32) : ∃ v τ ρ, jc 108 [.ref 0, .int x1, .int x2, .int x3] σ = some (v, τ) ∧ jc 126 [.ref 61, .int x1, .int x2, .int x3] τ = some (v, ρ) ∧ I_all ρ := by
  obtain ⟨v, τ, ρ, h1, h2, hp, hf⟩ := A_get h.1 x1 x2 x3
  exact ⟨v, τ, ρ, h1, h2, all_sl h hp hf⟩
theorem W_copy {σ : jm_S} (h : I_all σ) (x1 x2 x3 x4 x5 : Int32) : ∃ v τ ρ, jc 109 [.ref 0, .int x1, .int x2, .int x3, .int x4, .int x5] σ = some (v, τ) ∧ jc 127 [.ref 61, .int x1, .int x2, .int x3, .int x4, .int x5] τ = some (v, ρ) ∧ I_all ρ := by
  obtain ⟨v, τ, ρ, h1, h2, hp, hf⟩ := A_copy h.1 x1 x2 x3 x4 x5
  exact ⟨v, τ, ρ, h1, h2, all_sl h hp hf⟩
theorem W_write {σ : jm_S} (h : I_all σ) (x1 x2 : Int32) : ∃ v τ ρ, jc 111 [.ref 0, .int x1, .int x2] σ = some (v, τ) ∧ jc 198 [.ref 61, .int x1, .int x2] τ = some (v, ρ) ∧ I_all ρ := by
  obtain ⟨v, τ, ρ, h1, h2, hp, hf⟩ := A_write h x1 x2
  exact ⟨v, τ, ρ, h1, h2, hp⟩
theorem W_count {σ : jm_S} (h : I_all σ) (x1 : Int32) : ∃ v τ ρ, jc 112 [.ref 0, .int x1] σ = some (v, τ) ∧ jc 199 [.ref 61, .int x1] τ = some (v, ρ) ∧ I_all ρ := by
  obtain ⟨v, τ, ρ, h1, h2, hp, hf⟩ := A_count h x1
  exact ⟨v, τ, ρ, h1, h2, hp⟩
theorem W_digest {σ : jm_S} (h : I_all σ) : ∃ v τ ρ, jc 114 [.ref 0] σ = some (v, τ) ∧ jc 200 [.ref 61] τ = some (v, ρ) ∧ I_all ρ := by
  obtain ⟨v, τ, ρ, h1, h2, hp, hf⟩ := A_digest h 
  exact ⟨v, τ, ρ, h1, h2, hp⟩
abbrev lwL (i : Nat) : jm_L := [some (.ref 1005), some (.ref 0), some (.ref 61), some (.int (nI i))]
theorem law_0 {σ : jm_S} (h : I_all σ) {N i : Nat} (hN : N < 2 ^ 30) (h6 : σ 1006 0 = nI N) (hi : i + 6 ≤ N) : ∃ ρ, jv 201 33 (lwL i) [.int 0] σ = jv 201 18 (lwL (i + 6)) [] ρ ∧ I_all ρ ∧ ρ 1006 0 = nI N := by
  have b : ∀ k, k < 6 → ¬ (nI (i + k) < 0 ∨ N ≤ i + k) := fun k hk => by rw [jbad2 (show i + k < N by omega) (by omega)]; exact id
  have c1 : (nI (i + 1)).toNatClampNeg = i + 1 := nI_clamp (by omega)
  have c2 : (nI (i + 2)).toNatClampNeg = i + 2 := nI_clamp (by omega)
  have c3 : (nI (i + 3)).toNatClampNeg = i + 3 := nI_clamp (by omega)
  have c4 : (nI (i + 4)).toNatClampNeg = i + 4 := nI_clamp (by omega)
  have c5 : (nI (i + 5)).toNatClampNeg = i + 5 := nI_clamp (by omega)
  have cN : (nI N).toNatClampNeg = N := nI_clamp (by omega)
  obtain ⟨v, τ, ρ, h1, h2, h3⟩ := W_grain h (σ 1005 (i + 1)) (σ 1005 (i + 2)) (σ 1005 (i + 3)) (σ 1005 (i + 4)) (σ 1005 (i + 5))
  obtain ⟨r, rfl⟩ : ∃ r, v = some (.int r) := kind_i h1 rfl
  have t5 := jc_im h1 1005 (by decide)
  have t6 := jc_im h1 1006 (by decide)
  have r6 := jc_im h2 1006 (by decide)
  refine ⟨ρ, ?_, h3, by rw [r6, t6]; exact h6⟩
  rw [Law_law_S33_0]
  simp only [jadd1, jadd2, jadd3, jadd4, jadd5, jadd6, c1, c2, c3, c4, c5, h6, cN, if_neg (b 1 (by omega)), if_neg (b 2 (by omega)), if_neg (b 3 (by omega)), if_neg (b 4 (by omega)), if_neg (b 5 (by omega))]
  rw [h1, jbi_some]
  simp only [t5, t6, jadd1, jadd2, jadd3, jadd4, jadd5, jadd6, c1, c2, c3, c4, c5, h6, cN, if_neg (b 1 (by omega)), if_neg (b 2 (by omega)), if_neg (b 3 (by omega)), if_neg (b 4 (by omega)), if_neg (b 5 (by omega))]
  rw [h2, jbi_some, if_pos rfl]
theorem law_1 {σ : jm_S} (h : I_all σ) {N i : Nat} (hN : N < 2 ^ 30) (h6 : σ 1006 0 = nI N) (hi : i + 6 ≤ N) : ∃ ρ, jv 201 33 (lwL i) [.int 1] σ = jv 201 18 (lwL (i + 6)) [] ρ ∧ I_all ρ ∧ ρ 1006 0 = nI N := by
  have b : ∀ k, k < 6 → ¬ (nI (i + k) < 0 ∨ N ≤ i + k) := fun k hk => by rw [jbad2 (show i + k < N by omega) (by omega)]; exact id
  have c1 : (nI (i + 1)).toNatClampNeg = i + 1 := nI_clamp (by omega)
  have c2 : (nI (i + 2)).toNatClampNeg = i + 2 := nI_clamp (by omega)
  have c3 : (nI (i + 3)).toNatClampNeg = i + 3 := nI_clamp (by omega)
  have c4 : (nI (i + 4)).toNatClampNeg = i + 4 := nI_clamp (by omega)
  have c5 : (nI (i + 5)).toNatClampNeg = i + 5 := nI_clamp (by omega)
  have cN : (nI N).toNatClampNeg = N := nI_clamp (by omega)
  obtain ⟨v, τ, ρ, h1, h2, h3⟩ := W_read h (σ 1005 (i + 1)) (σ 1005 (i + 2))
  obtain ⟨r, rfl⟩ : ∃ r, v = some (.int r) := kind_i h1 rfl
  have t5 := jc_im h1 1005 (by decide)
  have t6 := jc_im h1 1006 (by decide)
  have r6 := jc_im h2 1006 (by decide)
  refine ⟨ρ, ?_, h3, by rw [r6, t6]; exact h6⟩
  rw [Law_law_S33_1]
  simp only [jadd1, jadd2, jadd3, jadd4, jadd5, jadd6, c1, c2, c3, c4, c5, h6, cN, if_neg (b 1 (by omega)), if_neg (b 2 (by omega)), if_neg (b 3 (by omega)), if_neg (b 4 (by omega)), if_neg (b 5 (by omega))]
  rw [h1, jbi_some]
  simp only [t5, t6, jadd1, jadd2, jadd3, jadd4, jadd5, jadd6, c1, c2, c3, c4, c5, h6, cN, if_neg (b 1 (by omega)), if_neg (b 2 (by omega)), if_neg (b 3 (by omega)), if_neg (b 4 (by omega)), if_neg (b 5 (by omega))]
  rw [h2, jbi_some, if_pos rfl]
theorem law_2 {σ : jm_S} (h : I_all σ) {N i : Nat} (hN : N < 2 ^ 30) (h6 : σ 1006 0 = nI N) (hi : i + 6 ≤ N) : ∃ ρ, jv 201 33 (lwL i) [.int 2] σ = jv 201 18 (lwL (i + 6)) [] ρ ∧ I_all ρ ∧ ρ 1006 0 = nI N := by
  have b : ∀ k, k < 6 → ¬ (nI (i + k) < 0 ∨ N ≤ i + k) := fun k hk => by rw [jbad2 (show i + k < N by omega) (by omega)]; exact id
  have c1 : (nI (i + 1)).toNatClampNeg = i + 1 := nI_clamp (by omega)
  have c2 : (nI (i + 2)).toNatClampNeg = i + 2 := nI_clamp (by omega)
  have c3 : (nI (i + 3)).toNatClampNeg = i + 3 := nI_clamp (by omega)
  have c4 : (nI (i + 4)).toNatClampNeg = i + 4 := nI_clamp (by omega)
  have c5 : (nI (i + 5)).toNatClampNeg = i + 5 := nI_clamp (by omega)
  have cN : (nI N).toNatClampNeg = N := nI_clamp (by omega)
  obtain ⟨v, τ, ρ, h1, h2, h3⟩ := W_change h (σ 1005 (i + 1)) (σ 1005 (i + 2)) (σ 1005 (i + 3))
  obtain ⟨r, rfl⟩ : ∃ r, v = some (.int r) := kind_i h1 rfl
  have t5 := jc_im h1 1005 (by decide)
  have t6 := jc_im h1 1006 (by decide)
  have r6 := jc_im h2 1006 (by decide)
  refine ⟨ρ, ?_, h3, by rw [r6, t6]; exact h6⟩
  rw [Law_law_S33_2]
  simp only [jadd1, jadd2, jadd3, jadd4, jadd5, jadd6, c1, c2, c3, c4, c5, h6, cN, if_neg (b 1 (by omega)), if_neg (b 2 (by omega)), if_neg (b 3 (by omega)), if_neg (b 4 (by omega)), if_neg (b 5 (by omega))]
  rw [h1, jbi_some]
  simp only [t5, t6, jadd1, jadd2, jadd3, jadd4, jadd5, jadd6, c1, c2, c3, c4, c5, h6, cN, if_neg (b 1 (by omega)), if_neg (b 2 (by omega)), if_neg (b 3 (by omega)), if_neg (b 4 (by omega)), if_neg (b 5 (by omega))]
  rw [h2, jbi_some, if_pos rfl]
theorem law_3 {σ : jm_S} (h : I_all σ) {N i : Nat} (hN : N < 2 ^ 30) (h6 : σ 1006 0 = nI N) (hi : i + 6 ≤ N) : ∃ ρ, jv 201 33 (lwL i) [.int 3] σ = jv 201 18 (lwL (i + 6)) [] ρ ∧ I_all ρ ∧ ρ 1006 0 = nI N := by
  have b : ∀ k, k < 6 → ¬ (nI (i + k) < 0 ∨ N ≤ i + k) := fun k hk => by rw [jbad2 (show i + k < N by omega) (by omega)]; exact id
  have c1 : (nI (i + 1)).toNatClampNeg = i + 1 := nI_clamp (by omega)
  have c2 : (nI (i + 2)).toNatClampNeg = i + 2 := nI_clamp (by omega)
  have c3 : (nI (i + 3)).toNatClampNeg = i + 3 := nI_clamp (by omega)
  have c4 : (nI (i + 4)).toNatClampNeg = i + 4 := nI_clamp (by omega)
  have c5 : (nI (i + 5)).toNatClampNeg = i + 5 := nI_clamp (by omega)
  have cN : (nI N).toNatClampNeg = N := nI_clamp (by omega)
  obtain ⟨v, τ, ρ, h1, h2, h3⟩ := W_empty h
  obtain ⟨r, rfl⟩ : ∃ r, v = some (.int r) := kind_i h1 rfl
  have t5 := jc_im h1 1005 (by decide)
  have t6 := jc_im h1 1006 (by decide)
  have r6 := jc_im h2 1006 (by decide)
  refine ⟨ρ, ?_, h3, by rw [r6, t6]; exact h6⟩
  rw [Law_law_S33_3]
  rw [h1, jbi_some, h2, jbi_some, if_pos rfl, jadd6]
theorem law_4 {σ : jm_S} (h : I_all σ) {N i : Nat} (hN : N < 2 ^ 30) (h6 : σ 1006 0 = nI N) (hi : i + 6 ≤ N) : ∃ ρ, jv 201 33 (lwL i) [.int 4] σ = jv 201 18 (lwL (i + 6)) [] ρ ∧ I_all ρ ∧ ρ 1006 0 = nI N := by
  have b : ∀ k, k < 6 → ¬ (nI (i + k) < 0 ∨ N ≤ i + k) := fun k hk => by rw [jbad2 (show i + k < N by omega) (by omega)]; exact id
  have c1 : (nI (i + 1)).toNatClampNeg = i + 1 := nI_clamp (by omega)
  have c2 : (nI (i + 2)).toNatClampNeg = i + 2 := nI_clamp (by omega)
  have c3 : (nI (i + 3)).toNatClampNeg = i + 3 := nI_clamp (by omega)
  have c4 : (nI (i + 4)).toNatClampNeg = i + 4 := nI_clamp (by omega)
  have c5 : (nI (i + 5)).toNatClampNeg = i + 5 := nI_clamp (by omega)
  have cN : (nI N).toNatClampNeg = N := nI_clamp (by omega)
  obtain ⟨v, τ, ρ, h1, h2, h3⟩ := W_set h (σ 1005 (i + 1)) (σ 1005 (i + 2))
  obtain ⟨r, rfl⟩ : ∃ r, v = some (.int r) := kind_i h1 rfl
  have t5 := jc_im h1 1005 (by decide)
  have t6 := jc_im h1 1006 (by decide)
  have r6 := jc_im h2 1006 (by decide)
  refine ⟨ρ, ?_, h3, by rw [r6, t6]; exact h6⟩
  rw [Law_law_S33_4]
  simp only [jadd1, jadd2, jadd3, jadd4, jadd5, jadd6, c1, c2, c3, c4, c5, h6, cN, if_neg (b 1 (by omega)), if_neg (b 2 (by omega)), if_neg (b 3 (by omega)), if_neg (b 4 (by omega)), if_neg (b 5 (by omega))]
  rw [h1, jbi_some]
  simp only [t5, t6, jadd1, jadd2, jadd3, jadd4, jadd5, jadd6, c1, c2, c3, c4, c5, h6, cN, if_neg (b 1 (by omega)), if_neg (b 2 (by omega)), if_neg (b 3 (by omega)), if_neg (b 4 (by omega)), if_neg (b 5 (by omega))]
  rw [h2, jbi_some, if_pos rfl]
theorem law_5 {σ : jm_S} (h : I_all σ) {N i : Nat} (hN : N < 2 ^ 30) (h6 : σ 1006 0 = nI N) (hi : i + 6 ≤ N) : ∃ ρ, jv 201 33 (lwL i) [.int 5] σ = jv 201 18 (lwL (i + 6)) [] ρ ∧ I_all ρ ∧ ρ 1006 0 = nI N := by
  have b : ∀ k, k < 6 → ¬ (nI (i + k) < 0 ∨ N ≤ i + k) := fun k hk => by rw [jbad2 (show i + k < N by omega) (by omega)]; exact id
  have c1 : (nI (i + 1)).toNatClampNeg = i + 1 := nI_clamp (by omega)
  have c2 : (nI (i + 2)).toNatClampNeg = i + 2 := nI_clamp (by omega)
  have c3 : (nI (i + 3)).toNatClampNeg = i + 3 := nI_clamp (by omega)
  have c4 : (nI (i + 4)).toNatClampNeg = i + 4 := nI_clamp (by omega)
  have c5 : (nI (i + 5)).toNatClampNeg = i + 5 := nI_clamp (by omega)
  have cN : (nI N).toNatClampNeg = N := nI_clamp (by omega)
  obtain ⟨v, τ, ρ, h1, h2, h3⟩ := W_type h (σ 1005 (i + 1)) (σ 1005 (i + 2))
  obtain ⟨r, rfl⟩ : ∃ r, v = some (.int r) := kind_i h1 rfl
  have t5 := jc_im h1 1005 (by decide)
  have t6 := jc_im h1 1006 (by decide)
  have r6 := jc_im h2 1006 (by decide)
  refine ⟨ρ, ?_, h3, by rw [r6, t6]; exact h6⟩
  rw [Law_law_S33_5]
  simp only [jadd1, jadd2, jadd3, jadd4, jadd5, jadd6, c1, c2, c3, c4, c5, h6, cN, if_neg (b 1 (by omega)), if_neg (b 2 (by omega)), if_neg (b 3 (by omega)), if_neg (b 4 (by omega)), if_neg (b 5 (by omega))]
  rw [h1, jbi_some]
  simp only [t5, t6, jadd1, jadd2, jadd3, jadd4, jadd5, jadd6, c1, c2, c3, c4, c5, h6, cN, if_neg (b 1 (by omega)), if_neg (b 2 (by omega)), if_neg (b 3 (by omega)), if_neg (b 4 (by omega)), if_neg (b 5 (by omega))]
  rw [h2, jbi_some, if_pos rfl]
theorem law_6 {σ : jm_S} (h : I_all σ) {N i : Nat} (hN : N < 2 ^ 30) (h6 : σ 1006 0 = nI N) (hi : i + 6 ≤ N) : ∃ ρ, jv 201 33 (lwL i) [.int 6] σ = jv 201 18 (lwL (i + 6)) [] ρ ∧ I_all ρ ∧ ρ 1006 0 = nI N := by
  have b : ∀ k, k < 6 → ¬ (nI (i + k) < 0 ∨ N ≤ i + k) := fun k hk => by rw [jbad2 (show i + k < N by omega) (by omega)]; exact id
  have c1 : (nI (i + 1)).toNatClampNeg = i + 1 := nI_clamp (by omega)
  have c2 : (nI (i + 2)).toNatClampNeg = i + 2 := nI_clamp (by omega)
  have c3 : (nI (i + 3)).toNatClampNeg = i + 3 := nI_clamp (by omega)
  have c4 : (nI (i + 4)).toNatClampNeg = i + 4 := nI_clamp (by omega)
  have c5 : (nI (i + 5)).toNatClampNeg = i + 5 := nI_clamp (by omega)
  have cN : (nI N).toNatClampNeg = N := nI_clamp (by omega)
  obtain ⟨v, τ, ρ, h1, h2, h3⟩ := W_wipe h (σ 1005 (i + 1))
  obtain ⟨r, rfl⟩ : ∃ r, v = some (.int r) := kind_i h1 rfl
  have t5 := jc_im h1 1005 (by decide)
  have t6 := jc_im h1 1006 (by decide)
  have r6 := jc_im h2 1006 (by decide)
  refine ⟨ρ, ?_, h3, by rw [r6, t6]; exact h6⟩
  rw [Law_law_S33_6]
  simp only [jadd1, jadd2, jadd3, jadd4, jadd5, jadd6, c1, c2, c3, c4, c5, h6, cN, if_neg (b 1 (by omega)), if_neg (b 2 (by omega)), if_neg (b 3 (by omega)), if_neg (b 4 (by omega)), if_neg (b 5 (by omega))]
  rw [h1, jbi_some]
  simp only [t5, t6, jadd1, jadd2, jadd3, jadd4, jadd5, jadd6, c1, c2, c3, c4, c5, h6, cN, if_neg (b 1 (by omega)), if_neg (b 2 (by omega)), if_neg (b 3 (by omega)), if_neg (b 4 (by omega)), if_neg (b 5 (by omega))]
  rw [h2, jbi_some, if_pos rfl]
theorem law_7 {σ : jm_S} (h : I_all σ) {N i : Nat} (hN : N < 2 ^ 30) (h6 : σ 1006 0 = nI N) (hi : i + 6 ≤ N) : ∃ ρ, jv 201 33 (lwL i) [.int 7] σ = jv 201 18 (lwL (i + 6)) [] ρ ∧ I_all ρ ∧ ρ 1006 0 = nI N := by
  have b : ∀ k, k < 6 → ¬ (nI (i + k) < 0 ∨ N ≤ i + k) := fun k hk => by rw [jbad2 (show i + k < N by omega) (by omega)]; exact id
  have c1 : (nI (i + 1)).toNatClampNeg = i + 1 := nI_clamp (by omega)
  have c2 : (nI (i + 2)).toNatClampNeg = i + 2 := nI_clamp (by omega)
  have c3 : (nI (i + 3)).toNatClampNeg = i + 3 := nI_clamp (by omega)
  have c4 : (nI (i + 4)).toNatClampNeg = i + 4 := nI_clamp (by omega)
  have c5 : (nI (i + 5)).toNatClampNeg = i + 5 := nI_clamp (by omega)
  have cN : (nI N).toNatClampNeg = N := nI_clamp (by omega)
  obtain ⟨v, τ, ρ, h1, h2, h3⟩ := W_fault h (σ 1005 (i + 1))
  obtain ⟨r, rfl⟩ : ∃ r, v = some (.int r) := kind_i h1 rfl
  have t5 := jc_im h1 1005 (by decide)
  have t6 := jc_im h1 1006 (by decide)
  have r6 := jc_im h2 1006 (by decide)
  refine ⟨ρ, ?_, h3, by rw [r6, t6]; exact h6⟩
  rw [Law_law_S33_7]
  simp only [jadd1, jadd2, jadd3, jadd4, jadd5, jadd6, c1, c2, c3, c4, c5, h6, cN, if_neg (b 1 (by omega)), if_neg (b 2 (by omega)), if_neg (b 3 (by omega)), if_neg (b 4 (by omega)), if_neg (b 5 (by omega))]
  rw [h1, jbi_some]
  simp only [t5, t6, jadd1, jadd2, jadd3, jadd4, jadd5, jadd6, c1, c2, c3, c4, c5, h6, cN, if_neg (b 1 (by omega)), if_neg (b 2 (by omega)), if_neg (b 3 (by omega)), if_neg (b 4 (by omega)), if_neg (b 5 (by omega))]
  rw [h2, jbi_some, if_pos rfl]
theorem law_8 {σ : jm_S} (h : I_all σ) {N i : Nat} (hN : N < 2 ^ 30) (h6 : σ 1006 0 = nI N) (hi : i + 6 ≤ N) : ∃ ρ, jv 201 33 (lwL i) [.int 8] σ = jv 201 18 (lwL (i + 6)) [] ρ ∧ I_all ρ ∧ ρ 1006 0 = nI N := by
  have b : ∀ k, k < 6 → ¬ (nI (i + k) < 0 ∨ N ≤ i + k) := fun k hk => by rw [jbad2 (show i + k < N by omega) (by omega)]; exact id
  have c1 : (nI (i + 1)).toNatClampNeg = i + 1 := nI_clamp (by omega)
  have c2 : (nI (i + 2)).toNatClampNeg = i + 2 := nI_clamp (by omega)
  have c3 : (nI (i + 3)).toNatClampNeg = i + 3 := nI_clamp (by omega)
  have c4 : (nI (i + 4)).toNatClampNeg = i + 4 := nI_clamp (by omega)
  have c5 : (nI (i + 5)).toNatClampNeg = i + 5 := nI_clamp (by omega)
  have cN : (nI N).toNatClampNeg = N := nI_clamp (by omega)
  obtain ⟨v, τ, ρ, h1, h2, h3⟩ := W_pan h (σ 1005 (i + 1)) (σ 1005 (i + 2))
  obtain ⟨r, rfl⟩ : ∃ r, v = some (.int r) := kind_i h1 rfl
  have t5 := jc_im h1 1005 (by decide)
  have t6 := jc_im h1 1006 (by decide)
  have r6 := jc_im h2 1006 (by decide)
  refine ⟨ρ, ?_, h3, by rw [r6, t6]; exact h6⟩
  rw [Law_law_S33_8]
  simp only [jadd1, jadd2, jadd3, jadd4, jadd5, jadd6, c1, c2, c3, c4, c5, h6, cN, if_neg (b 1 (by omega)), if_neg (b 2 (by omega)), if_neg (b 3 (by omega)), if_neg (b 4 (by omega)), if_neg (b 5 (by omega))]
  rw [h1, jbi_some]
  simp only [t5, t6, jadd1, jadd2, jadd3, jadd4, jadd5, jadd6, c1, c2, c3, c4, c5, h6, cN, if_neg (b 1 (by omega)), if_neg (b 2 (by omega)), if_neg (b 3 (by omega)), if_neg (b 4 (by omega)), if_neg (b 5 (by omega))]
  rw [h2, jbi_some, if_pos rfl]
theorem law_9 {σ : jm_S} (h : I_all σ) {N i : Nat} (hN : N < 2 ^ 30) (h6 : σ 1006 0 = nI N) (hi : i + 6 ≤ N) : ∃ ρ, jv 201 33 (lwL i) [.int 9] σ = jv 201 18 (lwL (i + 6)) [] ρ ∧ I_all ρ ∧ ρ 1006 0 = nI N := by
  have b : ∀ k, k < 6 → ¬ (nI (i + k) < 0 ∨ N ≤ i + k) := fun k hk => by rw [jbad2 (show i + k < N by omega) (by omega)]; exact id
  have c1 : (nI (i + 1)).toNatClampNeg = i + 1 := nI_clamp (by omega)
  have c2 : (nI (i + 2)).toNatClampNeg = i + 2 := nI_clamp (by omega)
  have c3 : (nI (i + 3)).toNatClampNeg = i + 3 := nI_clamp (by omega)
  have c4 : (nI (i + 4)).toNatClampNeg = i + 4 := nI_clamp (by omega)
  have c5 : (nI (i + 5)).toNatClampNeg = i + 5 := nI_clamp (by omega)
  have cN : (nI N).toNatClampNeg = N := nI_clamp (by omega)
  obtain ⟨v, τ, ρ, h1, h2, h3⟩ := W_after h (σ 1005 (i + 1)) (σ 1005 (i + 2)) (σ 1005 (i + 3))
  obtain ⟨r, rfl⟩ : ∃ r, v = some (.int r) := kind_i h1 rfl
  have t5 := jc_im h1 1005 (by decide)
  have t6 := jc_im h1 1006 (by decide)
  have r6 := jc_im h2 1006 (by decide)
  refine ⟨ρ, ?_, h3, by rw [r6, t6]; exact h6⟩
  rw [Law_law_S33_9]
  simp only [jadd1, jadd2, jadd3, jadd4, jadd5, jadd6, c1, c2, c3, c4, c5, h6, cN, if_neg (b 1 (by omega)), if_neg (b 2 (by omega)), if_neg (b 3 (by omega)), if_neg (b 4 (by omega)), if_neg (b 5 (by omega))]
  rw [h1, jbi_some]
  simp only [t5, t6, jadd1, jadd2, jadd3, jadd4, jadd5, jadd6, c1, c2, c3, c4, c5, h6, cN, if_neg (b 1 (by omega)), if_neg (b 2 (by omega)), if_neg (b 3 (by omega)), if_neg (b 4 (by omega)), if_neg (b 5 (by omega))]
  rw [h2, jbi_some, if_pos rfl]
theorem law_10 {σ : jm_S} (h : I_all σ) {N i : Nat} (hN : N < 2 ^ 30) (h6 : σ 1006 0 = nI N) (hi : i + 6 ≤ N) : ∃ ρ, jv 201 33 (lwL i) [.int 10] σ = jv 201 18 (lwL (i + 6)) [] ρ ∧ I_all ρ ∧ ρ 1006 0 = nI N := by
  have b : ∀ k, k < 6 → ¬ (nI (i + k) < 0 ∨ N ≤ i + k) := fun k hk => by rw [jbad2 (show i + k < N by omega) (by omega)]; exact id
  have c1 : (nI (i + 1)).toNatClampNeg = i + 1 := nI_clamp (by omega)
  have c2 : (nI (i + 2)).toNatClampNeg = i + 2 := nI_clamp (by omega)
  have c3 : (nI (i + 3)).toNatClampNeg = i + 3 := nI_clamp (by omega)
  have c4 : (nI (i + 4)).toNatClampNeg = i + 4 := nI_clamp (by omega)
  have c5 : (nI (i + 5)).toNatClampNeg = i + 5 := nI_clamp (by omega)
  have cN : (nI N).toNatClampNeg = N := nI_clamp (by omega)
  by_cases z : σ 1005 (i + 2) = 0
  · obtain ⟨v, τ, ρ, h1, h2, h3⟩ := W_sounds h (σ 1005 (i + 1)) 0
    obtain ⟨r, rfl⟩ : ∃ r, v = some (.int r) := kind_i h1 rfl
    have t5 := jc_im h1 1005 (by decide)
    have t6 := jc_im h1 1006 (by decide)
    have r6 := jc_im h2 1006 (by decide)
    refine ⟨ρ, ?_, h3, by rw [r6, t6]; exact h6⟩
    rw [Law_law_S33_10]
    simp only [jadd1, jadd2, jadd3, jadd4, jadd5, jadd6, c1, c2, c3, c4, c5, h6, cN, if_neg (b 1 (by omega)), if_neg (b 2 (by omega)), if_neg (b 3 (by omega)), if_neg (b 4 (by omega)), if_neg (b 5 (by omega)), if_pos z]
    rw [h1, jbi_some]
    simp only [t5, t6, jadd1, jadd2, jadd3, jadd4, jadd5, jadd6, c1, c2, c3, c4, c5, h6, cN, if_neg (b 1 (by omega)), if_neg (b 2 (by omega)), if_neg (b 3 (by omega)), if_neg (b 4 (by omega)), if_neg (b 5 (by omega)), if_pos z]
    rw [h2, jbi_some, if_pos rfl]
  · obtain ⟨v, τ, ρ, h1, h2, h3⟩ := W_sounds h (σ 1005 (i + 1)) 1
    obtain ⟨r, rfl⟩ : ∃ r, v = some (.int r) := kind_i h1 rfl
    have t5 := jc_im h1 1005 (by decide)
    have t6 := jc_im h1 1006 (by decide)
    have r6 := jc_im h2 1006 (by decide)
    refine ⟨ρ, ?_, h3, by rw [r6, t6]; exact h6⟩
    rw [Law_law_S33_10]
    simp only [jadd1, jadd2, jadd3, jadd4, jadd5, jadd6, c1, c2, c3, c4, c5, h6, cN, if_neg (b 1 (by omega)), if_neg (b 2 (by omega)), if_neg (b 3 (by omega)), if_neg (b 4 (by omega)), if_neg (b 5 (by omega)), if_neg z]
    rw [h1, jbi_some]
    simp only [t5, t6, jadd1, jadd2, jadd3, jadd4, jadd5, jadd6, c1, c2, c3, c4, c5, h6, cN, if_neg (b 1 (by omega)), if_neg (b 2 (by omega)), if_neg (b 3 (by omega)), if_neg (b 4 (by omega)), if_neg (b 5 (by omega)), if_neg z]
    rw [h2, jbi_some, if_pos rfl]
theorem law_11 {σ : jm_S} (h : I_all σ) {N i : Nat} (hN : N < 2 ^ 30) (h6 : σ 1006 0 = nI N) (hi : i + 6 ≤ N) : ∃ ρ, jv 201 33 (lwL i) [.int 11] σ = jv 201 18 (lwL (i + 6)) [] ρ ∧ I_all ρ ∧ ρ 1006 0 = nI N := by
  have b : ∀ k, k < 6 → ¬ (nI (i + k) < 0 ∨ N ≤ i + k) := fun k hk => by rw [jbad2 (show i + k < N by omega) (by omega)]; exact id
  have c1 : (nI (i + 1)).toNatClampNeg = i + 1 := nI_clamp (by omega)
  have c2 : (nI (i + 2)).toNatClampNeg = i + 2 := nI_clamp (by omega)
  have c3 : (nI (i + 3)).toNatClampNeg = i + 3 := nI_clamp (by omega)
  have c4 : (nI (i + 4)).toNatClampNeg = i + 4 := nI_clamp (by omega)
  have c5 : (nI (i + 5)).toNatClampNeg = i + 5 := nI_clamp (by omega)
  have cN : (nI N).toNatClampNeg = N := nI_clamp (by omega)
  obtain ⟨v, τ, ρ, h1, h2, h3⟩ := W_stop h (σ 1005 (i + 1)) (σ 1005 (i + 2))
  obtain ⟨r, rfl⟩ : ∃ r, v = some (.int r) := kind_i h1 rfl
  have t5 := jc_im h1 1005 (by decide)
  have t6 := jc_im h1 1006 (by decide)
  have r6 := jc_im h2 1006 (by decide)
  refine ⟨ρ, ?_, h3, by rw [r6, t6]; exact h6⟩
  rw [Law_law_S33_11]
  simp only [jadd1, jadd2, jadd3, jadd4, jadd5, jadd6, c1, c2, c3, c4, c5, h6, cN, if_neg (b 1 (by omega)), if_neg (b 2 (by omega)), if_neg (b 3 (by omega)), if_neg (b 4 (by omega)), if_neg (b 5 (by omega))]
  rw [h1, jbi_some]
  simp only [t5, t6, jadd1, jadd2, jadd3, jadd4, jadd5, jadd6, c1, c2, c3, c4, c5, h6, cN, if_neg (b 1 (by omega)), if_neg (b 2 (by omega)), if_neg (b 3 (by omega)), if_neg (b 4 (by omega)), if_neg (b 5 (by omega))]
  rw [h2, jbi_some, if_pos rfl]
theorem law_12 {σ : jm_S} (h : I_all σ) {N i : Nat} (hN : N < 2 ^ 30) (h6 : σ 1006 0 = nI N) (hi : i + 6 ≤ N) : ∃ ρ, jv 201 33 (lwL i) [.int 12] σ = jv 201 18 (lwL (i + 6)) [] ρ ∧ I_all ρ ∧ ρ 1006 0 = nI N := by
  have b : ∀ k, k < 6 → ¬ (nI (i + k) < 0 ∨ N ≤ i + k) := fun k hk => by rw [jbad2 (show i + k < N by omega) (by omega)]; exact id
  have c1 : (nI (i + 1)).toNatClampNeg = i + 1 := nI_clamp (by omega)
  have c2 : (nI (i + 2)).toNatClampNeg = i + 2 := nI_clamp (by omega)
  have c3 : (nI (i + 3)).toNatClampNeg = i + 3 := nI_clamp (by omega)
  have c4 : (nI (i + 4)).toNatClampNeg = i + 4 := nI_clamp (by omega)
  have c5 : (nI (i + 5)).toNatClampNeg = i + 5 := nI_clamp (by omega)
  have cN : (nI N).toNatClampNeg = N := nI_clamp (by omega)
  obtain ⟨v, τ, ρ, h1, h2, h3⟩ := W_best h
  obtain ⟨r, rfl⟩ : ∃ r, v = some (.int r) := kind_i h1 rfl
  have t5 := jc_im h1 1005 (by decide)
  have t6 := jc_im h1 1006 (by decide)
  have r6 := jc_im h2 1006 (by decide)
  refine ⟨ρ, ?_, h3, by rw [r6, t6]; exact h6⟩
  rw [Law_law_S33_12]
  rw [h1, jbi_some, h2, jbi_some, if_pos rfl, jadd6]
theorem law_13 {σ : jm_S} (h : I_all σ) {N i : Nat} (hN : N < 2 ^ 30) (h6 : σ 1006 0 = nI N) (hi : i + 6 ≤ N) : ∃ ρ, jv 201 33 (lwL i) [.int 13] σ = jv 201 18 (lwL (i + 6)) [] ρ ∧ I_all ρ ∧ ρ 1006 0 = nI N := by
  have b : ∀ k, k < 6 → ¬ (nI (i + k) < 0 ∨ N ≤ i + k) := fun k hk => by rw [jbad2 (show i + k < N by omega) (by omega)]; exact id
  have c1 : (nI (i + 1)).toNatClampNeg = i + 1 := nI_clamp (by omega)
  have c2 : (nI (i + 2)).toNatClampNeg = i + 2 := nI_clamp (by omega)
  have c3 : (nI (i + 3)).toNatClampNeg = i + 3 := nI_clamp (by omega)
  have c4 : (nI (i + 4)).toNatClampNeg = i + 4 := nI_clamp (by omega)
  have c5 : (nI (i + 5)).toNatClampNeg = i + 5 := nI_clamp (by omega)
  have cN : (nI N).toNatClampNeg = N := nI_clamp (by omega)
  obtain ⟨v, τ, ρ, h1, h2, h3⟩ := W_even h (σ 1005 (i + 1)) (σ 1005 (i + 2))
  obtain ⟨r, rfl⟩ : ∃ r, v = some (.int r) := kind_i h1 rfl
  have t5 := jc_im h1 1005 (by decide)
  have t6 := jc_im h1 1006 (by decide)
  have r6 := jc_im h2 1006 (by decide)
  refine ⟨ρ, ?_, h3, by rw [r6, t6]; exact h6⟩
  rw [Law_law_S33_13]
  simp only [jadd1, jadd2, jadd3, jadd4, jadd5, jadd6, c1, c2, c3, c4, c5, h6, cN, if_neg (b 1 (by omega)), if_neg (b 2 (by omega)), if_neg (b 3 (by omega)), if_neg (b 4 (by omega)), if_neg (b 5 (by omega))]
  rw [h1, jbi_some]
  simp only [t5, t6, jadd1, jadd2, jadd3, jadd4, jadd5, jadd6, c1, c2, c3, c4, c5, h6, cN, if_neg (b 1 (by omega)), if_neg (b 2 (by omega)), if_neg (b 3 (by omega)), if_neg (b 4 (by omega)), if_neg (b 5 (by omega))]
  rw [h2, jbi_some, if_pos rfl]
theorem law_14 {σ : jm_S} (h : I_all σ) {N i : Nat} (hN : N < 2 ^ 30) (h6 : σ 1006 0 = nI N) (hi : i + 6 ≤ N) : ∃ ρ, jv 201 33 (lwL i) [.int 14] σ = jv 201 18 (lwL (i + 6)) [] ρ ∧ I_all ρ ∧ ρ 1006 0 = nI N := by
  have b : ∀ k, k < 6 → ¬ (nI (i + k) < 0 ∨ N ≤ i + k) := fun k hk => by rw [jbad2 (show i + k < N by omega) (by omega)]; exact id
  have c1 : (nI (i + 1)).toNatClampNeg = i + 1 := nI_clamp (by omega)
  have c2 : (nI (i + 2)).toNatClampNeg = i + 2 := nI_clamp (by omega)
  have c3 : (nI (i + 3)).toNatClampNeg = i + 3 := nI_clamp (by omega)
  have c4 : (nI (i + 4)).toNatClampNeg = i + 4 := nI_clamp (by omega)
  have c5 : (nI (i + 5)).toNatClampNeg = i + 5 := nI_clamp (by omega)
  have cN : (nI N).toNatClampNeg = N := nI_clamp (by omega)
  obtain ⟨v, τ, ρ, h1, h2, h3⟩ := W_front h (σ 1005 (i + 1)) (σ 1005 (i + 2))
  obtain ⟨r, rfl⟩ : ∃ r, v = some (.int r) := kind_i h1 rfl
  have t5 := jc_im h1 1005 (by decide)
  have t6 := jc_im h1 1006 (by decide)
  have r6 := jc_im h2 1006 (by decide)
  refine ⟨ρ, ?_, h3, by rw [r6, t6]; exact h6⟩
  rw [Law_law_S33_14]
  simp only [jadd1, jadd2, jadd3, jadd4, jadd5, jadd6, c1, c2, c3, c4, c5, h6, cN, if_neg (b 1 (by omega)), if_neg (b 2 (by omega)), if_neg (b 3 (by omega)), if_neg (b 4 (by omega)), if_neg (b 5 (by omega))]
  rw [h1, jbi_some]
  simp only [t5, t6, jadd1, jadd2, jadd3, jadd4, jadd5, jadd6, c1, c2, c3, c4, c5, h6, cN, if_neg (b 1 (by omega)), if_neg (b 2 (by omega)), if_neg (b 3 (by omega)), if_neg (b 4 (by omega)), if_neg (b 5 (by omega))]
  rw [h2, jbi_some, if_pos rfl]
theorem law_15 {σ : jm_S} (h : I_all σ) {N i : Nat} (hN : N < 2 ^ 30) (h6 : σ 1006 0 = nI N) (hi : i + 6 ≤ N) : ∃ ρ, jv 201 33 (lwL i) [.int 15] σ = jv 201 18 (lwL (i + 6)) [] ρ ∧ I_all ρ ∧ ρ 1006 0 = nI N := by
  have b : ∀ k, k < 6 → ¬ (nI (i + k) < 0 ∨ N ≤ i + k) := fun k hk => by rw [jbad2 (show i + k < N by omega) (by omega)]; exact id
  have c1 : (nI (i + 1)).toNatClampNeg = i + 1 := nI_clamp (by omega)
  have c2 : (nI (i + 2)).toNatClampNeg = i + 2 := nI_clamp (by omega)
  have c3 : (nI (i + 3)).toNatClampNeg = i + 3 := nI_clamp (by omega)
  have c4 : (nI (i + 4)).toNatClampNeg = i + 4 := nI_clamp (by omega)
  have c5 : (nI (i + 5)).toNatClampNeg = i + 5 := nI_clamp (by omega)
  have cN : (nI N).toNatClampNeg = N := nI_clamp (by omega)
  obtain ⟨v, τ, ρ, h1, h2, h3⟩ := W_air h (σ 1005 (i + 1)) (σ 1005 (i + 2))
  obtain ⟨r, rfl⟩ : ∃ r, v = some (.int r) := kind_i h1 rfl
  have t5 := jc_im h1 1005 (by decide)
  have t6 := jc_im h1 1006 (by decide)
  have r6 := jc_im h2 1006 (by decide)
  refine ⟨ρ, ?_, h3, by rw [r6, t6]; exact h6⟩
  rw [Law_law_S33_15]
  simp only [jadd1, jadd2, jadd3, jadd4, jadd5, jadd6, c1, c2, c3, c4, c5, h6, cN, if_neg (b 1 (by omega)), if_neg (b 2 (by omega)), if_neg (b 3 (by omega)), if_neg (b 4 (by omega)), if_neg (b 5 (by omega))]
  rw [h1, jbi_some]
  simp only [t5, t6, jadd1, jadd2, jadd3, jadd4, jadd5, jadd6, c1, c2, c3, c4, c5, h6, cN, if_neg (b 1 (by omega)), if_neg (b 2 (by omega)), if_neg (b 3 (by omega)), if_neg (b 4 (by omega)), if_neg (b 5 (by omega))]
  rw [h2, jbi_some, if_pos rfl]
theorem law_16 {σ : jm_S} (h : I_all σ) {N i : Nat} (hN : N < 2 ^ 30) (h6 : σ 1006 0 = nI N) (hi : i + 6 ≤ N) : ∃ ρ, jv 201 33 (lwL i) [.int 16] σ = jv 201 18 (lwL (i + 6)) [] ρ ∧ I_all ρ ∧ ρ 1006 0 = nI N := by
  have b : ∀ k, k < 6 → ¬ (nI (i + k) < 0 ∨ N ≤ i + k) := fun k hk => by rw [jbad2 (show i + k < N by omega) (by omega)]; exact id
  have c1 : (nI (i + 1)).toNatClampNeg = i + 1 := nI_clamp (by omega)
  have c2 : (nI (i + 2)).toNatClampNeg = i + 2 := nI_clamp (by omega)
  have c3 : (nI (i + 3)).toNatClampNeg = i + 3 := nI_clamp (by omega)
  have c4 : (nI (i + 4)).toNatClampNeg = i + 4 := nI_clamp (by omega)
  have c5 : (nI (i + 5)).toNatClampNeg = i + 5 := nI_clamp (by omega)
  have cN : (nI N).toNatClampNeg = N := nI_clamp (by omega)
  obtain ⟨v, τ, ρ, h1, h2, h3⟩ := W_shaken h (σ 1005 (i + 1)) (σ 1005 (i + 2))
  obtain ⟨r, rfl⟩ : ∃ r, v = some (.int r) := kind_i h1 rfl
  have t5 := jc_im h1 1005 (by decide)
  have t6 := jc_im h1 1006 (by decide)
  have r6 := jc_im h2 1006 (by decide)
  refine ⟨ρ, ?_, h3, by rw [r6, t6]; exact h6⟩
  rw [Law_law_S33_16]
  simp only [jadd1, jadd2, jadd3, jadd4, jadd5, jadd6, c1, c2, c3, c4, c5, h6, cN, if_neg (b 1 (by omega)), if_neg (b 2 (by omega)), if_neg (b 3 (by omega)), if_neg (b 4 (by omega)), if_neg (b 5 (by omega))]
  rw [h1, jbi_some]
  simp only [t5, t6, jadd1, jadd2, jadd3, jadd4, jadd5, jadd6, c1, c2, c3, c4, c5, h6, cN, if_neg (b 1 (by omega)), if_neg (b 2 (by omega)), if_neg (b 3 (by omega)), if_neg (b 4 (by omega)), if_neg (b 5 (by omega))]
  rw [h2, jbi_some, if_pos rfl]
theorem law_17 {σ : jm_S} (h : I_all σ) {N i : Nat} (hN : N < 2 ^ 30) (h6 : σ 1006 0 = nI N) (hi : i + 6 ≤ N) : ∃ ρ, jv 201 33 (lwL i) [.int 17] σ = jv 201 18 (lwL (i + 6)) [] ρ ∧ I_all ρ ∧ ρ 1006 0 = nI N := by
  have b : ∀ k, k < 6 → ¬ (nI (i + k) < 0 ∨ N ≤ i + k) := fun k hk => by rw [jbad2 (show i + k < N by omega) (by omega)]; exact id
  have c1 : (nI (i + 1)).toNatClampNeg = i + 1 := nI_clamp (by omega)
  have c2 : (nI (i + 2)).toNatClampNeg = i + 2 := nI_clamp (by omega)
  have c3 : (nI (i + 3)).toNatClampNeg = i + 3 := nI_clamp (by omega)
  have c4 : (nI (i + 4)).toNatClampNeg = i + 4 := nI_clamp (by omega)
  have c5 : (nI (i + 5)).toNatClampNeg = i + 5 := nI_clamp (by omega)
  have cN : (nI N).toNatClampNeg = N := nI_clamp (by omega)
  obtain ⟨v, τ, ρ, h1, h2, h3⟩ := W_late h (σ 1005 (i + 1))
  obtain ⟨r, rfl⟩ : ∃ r, v = some (.int r) := kind_i h1 rfl
  have t5 := jc_im h1 1005 (by decide)
  have t6 := jc_im h1 1006 (by decide)
  have r6 := jc_im h2 1006 (by decide)
  refine ⟨ρ, ?_, h3, by rw [r6, t6]; exact h6⟩
  rw [Law_law_S33_17]
  simp only [jadd1, jadd2, jadd3, jadd4, jadd5, jadd6, c1, c2, c3, c4, c5, h6, cN, if_neg (b 1 (by omega)), if_neg (b 2 (by omega)), if_neg (b 3 (by omega)), if_neg (b 4 (by omega)), if_neg (b 5 (by omega))]
  rw [h1, jbi_some]
  simp only [t5, t6, jadd1, jadd2, jadd3, jadd4, jadd5, jadd6, c1, c2, c3, c4, c5, h6, cN, if_neg (b 1 (by omega)), if_neg (b 2 (by omega)), if_neg (b 3 (by omega)), if_neg (b 4 (by omega)), if_neg (b 5 (by omega))]
  rw [h2, jbi_some, if_pos rfl]
theorem law_18 {σ : jm_S} (h : I_all σ) {N i : Nat} (hN : N < 2 ^ 30) (h6 : σ 1006 0 = nI N) (hi : i + 6 ≤ N) : ∃ ρ, jv 201 33 (lwL i) [.int 18] σ = jv 201 18 (lwL (i + 6)) [] ρ ∧ I_all ρ ∧ ρ 1006 0 = nI N := by
  have b : ∀ k, k < 6 → ¬ (nI (i + k) < 0 ∨ N ≤ i + k) := fun k hk => by rw [jbad2 (show i + k < N by omega) (by omega)]; exact id
  have c1 : (nI (i + 1)).toNatClampNeg = i + 1 := nI_clamp (by omega)
  have c2 : (nI (i + 2)).toNatClampNeg = i + 2 := nI_clamp (by omega)
  have c3 : (nI (i + 3)).toNatClampNeg = i + 3 := nI_clamp (by omega)
  have c4 : (nI (i + 4)).toNatClampNeg = i + 4 := nI_clamp (by omega)
  have c5 : (nI (i + 5)).toNatClampNeg = i + 5 := nI_clamp (by omega)
  have cN : (nI N).toNatClampNeg = N := nI_clamp (by omega)
  obtain ⟨v, τ, ρ, h1, h2, h3⟩ := W_sieved h (σ 1005 (i + 1)) (σ 1005 (i + 2)) (σ 1005 (i + 3))
  obtain ⟨r, rfl⟩ : ∃ r, v = some (.int r) := kind_i h1 rfl
  have t5 := jc_im h1 1005 (by decide)
  have t6 := jc_im h1 1006 (by decide)
  have r6 := jc_im h2 1006 (by decide)
  refine ⟨ρ, ?_, h3, by rw [r6, t6]; exact h6⟩
  rw [Law_law_S33_18]
  simp only [jadd1, jadd2, jadd3, jadd4, jadd5, jadd6, c1, c2, c3, c4, c5, h6, cN, if_neg (b 1 (by omega)), if_neg (b 2 (by omega)), if_neg (b 3 (by omega)), if_neg (b 4 (by omega)), if_neg (b 5 (by omega))]
  rw [h1, jbi_some]
  simp only [t5, t6, jadd1, jadd2, jadd3, jadd4, jadd5, jadd6, c1, c2, c3, c4, c5, h6, cN, if_neg (b 1 (by omega)), if_neg (b 2 (by omega)), if_neg (b 3 (by omega)), if_neg (b 4 (by omega)), if_neg (b 5 (by omega))]
  rw [h2, jbi_some, if_pos rfl]
theorem law_19 {σ : jm_S} (h : I_all σ) {N i : Nat} (hN : N < 2 ^ 30) (h6 : σ 1006 0 = nI N) (hi : i + 6 ≤ N) : ∃ ρ, jv 201 33 (lwL i) [.int 19] σ = jv 201 18 (lwL (i + 6)) [] ρ ∧ I_all ρ ∧ ρ 1006 0 = nI N := by
  have b : ∀ k, k < 6 → ¬ (nI (i + k) < 0 ∨ N ≤ i + k) := fun k hk => by rw [jbad2 (show i + k < N by omega) (by omega)]; exact id
  have c1 : (nI (i + 1)).toNatClampNeg = i + 1 := nI_clamp (by omega)
  have c2 : (nI (i + 2)).toNatClampNeg = i + 2 := nI_clamp (by omega)
  have c3 : (nI (i + 3)).toNatClampNeg = i + 3 := nI_clamp (by omega)
  have c4 : (nI (i + 4)).toNatClampNeg = i + 4 := nI_clamp (by omega)
  have c5 : (nI (i + 5)).toNatClampNeg = i + 5 := nI_clamp (by omega)
  have cN : (nI N).toNatClampNeg = N := nI_clamp (by omega)
  obtain ⟨v, τ, ρ, h1, h2, h3⟩ := W_jar h (σ 1005 (i + 1)) (σ 1005 (i + 2)) (σ 1005 (i + 3))
  obtain ⟨r, rfl⟩ : ∃ r, v = some (.int r) := kind_i h1 rfl
  have t5 := jc_im h1 1005 (by decide)
  have t6 := jc_im h1 1006 (by decide)
  have r6 := jc_im h2 1006 (by decide)
  refine ⟨ρ, ?_, h3, by rw [r6, t6]; exact h6⟩
  rw [Law_law_S33_19]
  simp only [jadd1, jadd2, jadd3, jadd4, jadd5, jadd6, c1, c2, c3, c4, c5, h6, cN, if_neg (b 1 (by omega)), if_neg (b 2 (by omega)), if_neg (b 3 (by omega)), if_neg (b 4 (by omega)), if_neg (b 5 (by omega))]
  rw [h1, jbi_some]
  simp only [t5, t6, jadd1, jadd2, jadd3, jadd4, jadd5, jadd6, c1, c2, c3, c4, c5, h6, cN, if_neg (b 1 (by omega)), if_neg (b 2 (by omega)), if_neg (b 3 (by omega)), if_neg (b 4 (by omega)), if_neg (b 5 (by omega))]
  rw [h2, jbi_some, if_pos rfl]
theorem law_20 {σ : jm_S} (h : I_all σ) {N i : Nat} (hN : N < 2 ^ 30) (h6 : σ 1006 0 = nI N) (hi : i + 6 ≤ N) : ∃ ρ, jv 201 33 (lwL i) [.int 20] σ = jv 201 18 (lwL (i + 6)) [] ρ ∧ I_all ρ ∧ ρ 1006 0 = nI N := by
  have b : ∀ k, k < 6 → ¬ (nI (i + k) < 0 ∨ N ≤ i + k) := fun k hk => by rw [jbad2 (show i + k < N by omega) (by omega)]; exact id
  have c1 : (nI (i + 1)).toNatClampNeg = i + 1 := nI_clamp (by omega)
  have c2 : (nI (i + 2)).toNatClampNeg = i + 2 := nI_clamp (by omega)
  have c3 : (nI (i + 3)).toNatClampNeg = i + 3 := nI_clamp (by omega)
  have c4 : (nI (i + 4)).toNatClampNeg = i + 4 := nI_clamp (by omega)
  have c5 : (nI (i + 5)).toNatClampNeg = i + 5 := nI_clamp (by omega)
  have cN : (nI N).toNatClampNeg = N := nI_clamp (by omega)
  obtain ⟨v, τ, ρ, h1, h2, h3⟩ := W_length h (σ 1005 (i + 1)) (σ 1005 (i + 2)) (σ 1005 (i + 3)) (σ 1005 (i + 4))
  obtain ⟨r, rfl⟩ : ∃ r, v = some (.int r) := kind_i h1 rfl
  have t5 := jc_im h1 1005 (by decide)
  have t6 := jc_im h1 1006 (by decide)
  have r6 := jc_im h2 1006 (by decide)
  refine ⟨ρ, ?_, h3, by rw [r6, t6]; exact h6⟩
  rw [Law_law_S33_20]
  simp only [jadd1, jadd2, jadd3, jadd4, jadd5, jadd6, c1, c2, c3, c4, c5, h6, cN, if_neg (b 1 (by omega)), if_neg (b 2 (by omega)), if_neg (b 3 (by omega)), if_neg (b 4 (by omega)), if_neg (b 5 (by omega))]
  rw [h1, jbi_some]
  simp only [t5, t6, jadd1, jadd2, jadd3, jadd4, jadd5, jadd6, c1, c2, c3, c4, c5, h6, cN, if_neg (b 1 (by omega)), if_neg (b 2 (by omega)), if_neg (b 3 (by omega)), if_neg (b 4 (by omega)), if_neg (b 5 (by omega))]
  rw [h2, jbi_some, if_pos rfl]
theorem law_21 {σ : jm_S} (h : I_all σ) {N i : Nat} (hN : N < 2 ^ 30) (h6 : σ 1006 0 = nI N) (hi : i + 6 ≤ N) : ∃ ρ, jv 201 33 (lwL i) [.int 21] σ = jv 201 18 (lwL (i + 6)) [] ρ ∧ I_all ρ ∧ ρ 1006 0 = nI N := by
  have b : ∀ k, k < 6 → ¬ (nI (i + k) < 0 ∨ N ≤ i + k) := fun k hk => by rw [jbad2 (show i + k < N by omega) (by omega)]; exact id
  have c1 : (nI (i + 1)).toNatClampNeg = i + 1 := nI_clamp (by omega)
  have c2 : (nI (i + 2)).toNatClampNeg = i + 2 := nI_clamp (by omega)
  have c3 : (nI (i + 3)).toNatClampNeg = i + 3 := nI_clamp (by omega)
  have c4 : (nI (i + 4)).toNatClampNeg = i + 4 := nI_clamp (by omega)
  have c5 : (nI (i + 5)).toNatClampNeg = i + 5 := nI_clamp (by omega)
  have cN : (nI N).toNatClampNeg = N := nI_clamp (by omega)
  obtain ⟨v, τ, ρ, h1, h2, h3⟩ := W_cracked h (σ 1005 (i + 1)) (σ 1005 (i + 2)) (σ 1005 (i + 3)) (σ 1005 (i + 4)) (σ 1005 (i + 5))
  obtain ⟨r, rfl⟩ : ∃ r, v = some (.long r) := kind_l h1 rfl
  have t5 := jc_im h1 1005 (by decide)
  have t6 := jc_im h1 1006 (by decide)
  have r6 := jc_im h2 1006 (by decide)
  refine ⟨ρ, ?_, h3, by rw [r6, t6]; exact h6⟩
  rw [Law_law_S33_21]
  simp only [jadd1, jadd2, jadd3, jadd4, jadd5, jadd6, c1, c2, c3, c4, c5, h6, cN, if_neg (b 1 (by omega)), if_neg (b 2 (by omega)), if_neg (b 3 (by omega)), if_neg (b 4 (by omega)), if_neg (b 5 (by omega))]
  rw [h1, jbl_some]
  simp only [t5, t6, jadd1, jadd2, jadd3, jadd4, jadd5, jadd6, c1, c2, c3, c4, c5, h6, cN, if_neg (b 1 (by omega)), if_neg (b 2 (by omega)), if_neg (b 3 (by omega)), if_neg (b 4 (by omega)), if_neg (b 5 (by omega))]
  rw [h2, jbl_some, lg_self, if_pos rfl]
theorem law_22 {σ : jm_S} (h : I_all σ) {N i : Nat} (hN : N < 2 ^ 30) (h6 : σ 1006 0 = nI N) (hi : i + 6 ≤ N) : ∃ ρ, jv 201 33 (lwL i) [.int 22] σ = jv 201 18 (lwL (i + 6)) [] ρ ∧ I_all ρ ∧ ρ 1006 0 = nI N := by
  have b : ∀ k, k < 6 → ¬ (nI (i + k) < 0 ∨ N ≤ i + k) := fun k hk => by rw [jbad2 (show i + k < N by omega) (by omega)]; exact id
  have c1 : (nI (i + 1)).toNatClampNeg = i + 1 := nI_clamp (by omega)
  have c2 : (nI (i + 2)).toNatClampNeg = i + 2 := nI_clamp (by omega)
  have c3 : (nI (i + 3)).toNatClampNeg = i + 3 := nI_clamp (by omega)
  have c4 : (nI (i + 4)).toNatClampNeg = i + 4 := nI_clamp (by omega)
  have c5 : (nI (i + 5)).toNatClampNeg = i + 5 := nI_clamp (by omega)
  have cN : (nI N).toNatClampNeg = N := nI_clamp (by omega)
  obtain ⟨v, τ, ρ, h1, h2, h3⟩ := W_span h (σ 1005 (i + 1)) (σ 1005 (i + 2)) (σ 1005 (i + 3)) (σ 1005 (i + 4)) (σ 1005 (i + 5))
  obtain ⟨r, rfl⟩ : ∃ r, v = some (.int r) := kind_i h1 rfl
  have t5 := jc_im h1 1005 (by decide)
  have t6 := jc_im h1 1006 (by decide)
  have r6 := jc_im h2 1006 (by decide)
  refine ⟨ρ, ?_, h3, by rw [r6, t6]; exact h6⟩
  rw [Law_law_S33_22]
  simp only [jadd1, jadd2, jadd3, jadd4, jadd5, jadd6, c1, c2, c3, c4, c5, h6, cN, if_neg (b 1 (by omega)), if_neg (b 2 (by omega)), if_neg (b 3 (by omega)), if_neg (b 4 (by omega)), if_neg (b 5 (by omega))]
  rw [h1, jbi_some]
  simp only [t5, t6, jadd1, jadd2, jadd3, jadd4, jadd5, jadd6, c1, c2, c3, c4, c5, h6, cN, if_neg (b 1 (by omega)), if_neg (b 2 (by omega)), if_neg (b 3 (by omega)), if_neg (b 4 (by omega)), if_neg (b 5 (by omega))]
  rw [h2, jbi_some, if_pos rfl]
theorem law_23 {σ : jm_S} (h : I_all σ) {N i : Nat} (hN : N < 2 ^ 30) (h6 : σ 1006 0 = nI N) (hi : i + 6 ≤ N) : ∃ ρ, jv 201 33 (lwL i) [.int 23] σ = jv 201 18 (lwL (i + 6)) [] ρ ∧ I_all ρ ∧ ρ 1006 0 = nI N := by
  have b : ∀ k, k < 6 → ¬ (nI (i + k) < 0 ∨ N ≤ i + k) := fun k hk => by rw [jbad2 (show i + k < N by omega) (by omega)]; exact id
  have c1 : (nI (i + 1)).toNatClampNeg = i + 1 := nI_clamp (by omega)
  have c2 : (nI (i + 2)).toNatClampNeg = i + 2 := nI_clamp (by omega)
  have c3 : (nI (i + 3)).toNatClampNeg = i + 3 := nI_clamp (by omega)
  have c4 : (nI (i + 4)).toNatClampNeg = i + 4 := nI_clamp (by omega)
  have c5 : (nI (i + 5)).toNatClampNeg = i + 5 := nI_clamp (by omega)
  have cN : (nI N).toNatClampNeg = N := nI_clamp (by omega)
  obtain ⟨v, τ, ρ, h1, h2, h3⟩ := W_heard h (σ 1005 (i + 1)) (σ 1005 (i + 2))
  obtain ⟨r, rfl⟩ : ∃ r, v = some (.int r) := kind_i h1 rfl
  have t5 := jc_im h1 1005 (by decide)
  have t6 := jc_im h1 1006 (by decide)
  have r6 := jc_im h2 1006 (by decide)
  refine ⟨ρ, ?_, h3, by rw [r6, t6]; exact h6⟩
  rw [Law_law_S33_23]
  simp only [jadd1, jadd2, jadd3, jadd4, jadd5, jadd6, c1, c2, c3, c4, c5, h6, cN, if_neg (b 1 (by omega)), if_neg (b 2 (by omega)), if_neg (b 3 (by omega)), if_neg (b 4 (by omega)), if_neg (b 5 (by omega))]
  rw [h1, jbi_some]
  simp only [t5, t6, jadd1, jadd2, jadd3, jadd4, jadd5, jadd6, c1, c2, c3, c4, c5, h6, cN, if_neg (b 1 (by omega)), if_neg (b 2 (by omega)), if_neg (b 3 (by omega)), if_neg (b 4 (by omega)), if_neg (b 5 (by omega))]
  rw [h2, jbi_some, if_pos rfl]
theorem law_24 {σ : jm_S} (h : I_all σ) {N i : Nat} (hN : N < 2 ^ 30) (h6 : σ 1006 0 = nI N) (hi : i + 6 ≤ N) : ∃ ρ, jv 201 33 (lwL i) [.int 24] σ = jv 201 18 (lwL (i + 6)) [] ρ ∧ I_all ρ ∧ ρ 1006 0 = nI N := by
  have b : ∀ k, k < 6 → ¬ (nI (i + k) < 0 ∨ N ≤ i + k) := fun k hk => by rw [jbad2 (show i + k < N by omega) (by omega)]; exact id
  have c1 : (nI (i + 1)).toNatClampNeg = i + 1 := nI_clamp (by omega)
  have c2 : (nI (i + 2)).toNatClampNeg = i + 2 := nI_clamp (by omega)
  have c3 : (nI (i + 3)).toNatClampNeg = i + 3 := nI_clamp (by omega)
  have c4 : (nI (i + 4)).toNatClampNeg = i + 4 := nI_clamp (by omega)
  have c5 : (nI (i + 5)).toNatClampNeg = i + 5 := nI_clamp (by omega)
  have cN : (nI N).toNatClampNeg = N := nI_clamp (by omega)
  obtain ⟨v, τ, ρ, h1, h2, h3⟩ := W_fits h (σ 1005 (i + 1))
  obtain ⟨r, rfl⟩ : ∃ r, v = some (.int r) := kind_i h1 rfl
  have t5 := jc_im h1 1005 (by decide)
  have t6 := jc_im h1 1006 (by decide)
  have r6 := jc_im h2 1006 (by decide)
  refine ⟨ρ, ?_, h3, by rw [r6, t6]; exact h6⟩
  rw [Law_law_S33_24]
  simp only [jadd1, jadd2, jadd3, jadd4, jadd5, jadd6, c1, c2, c3, c4, c5, h6, cN, if_neg (b 1 (by omega)), if_neg (b 2 (by omega)), if_neg (b 3 (by omega)), if_neg (b 4 (by omega)), if_neg (b 5 (by omega))]
  rw [h1, jbi_some]
  simp only [t5, t6, jadd1, jadd2, jadd3, jadd4, jadd5, jadd6, c1, c2, c3, c4, c5, h6, cN, if_neg (b 1 (by omega)), if_neg (b 2 (by omega)), if_neg (b 3 (by omega)), if_neg (b 4 (by omega)), if_neg (b 5 (by omega))]
  rw [h2, jbi_some, if_pos rfl]
theorem law_25 {σ : jm_S} (h : I_all σ) {N i : Nat} (hN : N < 2 ^ 30) (h6 : σ 1006 0 = nI N) (hi : i + 6 ≤ N) : ∃ ρ, jv 201 33 (lwL i) [.int 25] σ = jv 201 18 (lwL (i + 6)) [] ρ ∧ I_all ρ ∧ ρ 1006 0 = nI N := by
  have b : ∀ k, k < 6 → ¬ (nI (i + k) < 0 ∨ N ≤ i + k) := fun k hk => by rw [jbad2 (show i + k < N by omega) (by omega)]; exact id
  have c1 : (nI (i + 1)).toNatClampNeg = i + 1 := nI_clamp (by omega)
  have c2 : (nI (i + 2)).toNatClampNeg = i + 2 := nI_clamp (by omega)
  have c3 : (nI (i + 3)).toNatClampNeg = i + 3 := nI_clamp (by omega)
  have c4 : (nI (i + 4)).toNatClampNeg = i + 4 := nI_clamp (by omega)
  have c5 : (nI (i + 5)).toNatClampNeg = i + 5 := nI_clamp (by omega)
  have cN : (nI N).toNatClampNeg = N := nI_clamp (by omega)
  obtain ⟨v, τ, ρ, h1, h2, h3⟩ := W_sheet h (σ 1005 (i + 1)) (σ 1005 (i + 2)) (σ 1005 (i + 3))
  obtain ⟨r, rfl⟩ : ∃ r, v = some (.int r) := kind_i h1 rfl
  have t5 := jc_im h1 1005 (by decide)
  have t6 := jc_im h1 1006 (by decide)
  have r6 := jc_im h2 1006 (by decide)
  refine ⟨ρ, ?_, h3, by rw [r6, t6]; exact h6⟩
  rw [Law_law_S33_25]
  simp only [jadd1, jadd2, jadd3, jadd4, jadd5, jadd6, c1, c2, c3, c4, c5, h6, cN, if_neg (b 1 (by omega)), if_neg (b 2 (by omega)), if_neg (b 3 (by omega)), if_neg (b 4 (by omega)), if_neg (b 5 (by omega))]
  rw [h1, jbi_some]
  simp only [t5, t6, jadd1, jadd2, jadd3, jadd4, jadd5, jadd6, c1, c2, c3, c4, c5, h6, cN, if_neg (b 1 (by omega)), if_neg (b 2 (by omega)), if_neg (b 3 (by omega)), if_neg (b 4 (by omega)), if_neg (b 5 (by omega))]
  rw [h2, jbi_some, if_pos rfl]
theorem law_26 {σ : jm_S} (h : I_all σ) {N i : Nat} (hN : N < 2 ^ 30) (h6 : σ 1006 0 = nI N) (hi : i + 6 ≤ N) : ∃ ρ, jv 201 33 (lwL i) [.int 26] σ = jv 201 18 (lwL (i + 6)) [] ρ ∧ I_all ρ ∧ ρ 1006 0 = nI N := by
  have b : ∀ k, k < 6 → ¬ (nI (i + k) < 0 ∨ N ≤ i + k) := fun k hk => by rw [jbad2 (show i + k < N by omega) (by omega)]; exact id
  have c1 : (nI (i + 1)).toNatClampNeg = i + 1 := nI_clamp (by omega)
  have c2 : (nI (i + 2)).toNatClampNeg = i + 2 := nI_clamp (by omega)
  have c3 : (nI (i + 3)).toNatClampNeg = i + 3 := nI_clamp (by omega)
  have c4 : (nI (i + 4)).toNatClampNeg = i + 4 := nI_clamp (by omega)
  have c5 : (nI (i + 5)).toNatClampNeg = i + 5 := nI_clamp (by omega)
  have cN : (nI N).toNatClampNeg = N := nI_clamp (by omega)
  obtain ⟨v, τ, ρ, h1, h2, h3⟩ := W_lose h (σ 1005 (i + 1))
  obtain ⟨r, rfl⟩ : ∃ r, v = some (.int r) := kind_i h1 rfl
  have t5 := jc_im h1 1005 (by decide)
  have t6 := jc_im h1 1006 (by decide)
  have r6 := jc_im h2 1006 (by decide)
  refine ⟨ρ, ?_, h3, by rw [r6, t6]; exact h6⟩
  rw [Law_law_S33_26]
  simp only [jadd1, jadd2, jadd3, jadd4, jadd5, jadd6, c1, c2, c3, c4, c5, h6, cN, if_neg (b 1 (by omega)), if_neg (b 2 (by omega)), if_neg (b 3 (by omega)), if_neg (b 4 (by omega)), if_neg (b 5 (by omega))]
  rw [h1, jbi_some]
  simp only [t5, t6, jadd1, jadd2, jadd3, jadd4, jadd5, jadd6, c1, c2, c3, c4, c5, h6, cN, if_neg (b 1 (by omega)), if_neg (b 2 (by omega)), if_neg (b 3 (by omega)), if_neg (b 4 (by omega)), if_neg (b 5 (by omega))]
  rw [h2, jbi_some, if_pos rfl]
theorem law_27 {σ : jm_S} (h : I_all σ) {N i : Nat} (hN : N < 2 ^ 30) (h6 : σ 1006 0 = nI N) (hi : i + 6 ≤ N) : ∃ ρ, jv 201 33 (lwL i) [.int 27] σ = jv 201 18 (lwL (i + 6)) [] ρ ∧ I_all ρ ∧ ρ 1006 0 = nI N := by
  have b : ∀ k, k < 6 → ¬ (nI (i + k) < 0 ∨ N ≤ i + k) := fun k hk => by rw [jbad2 (show i + k < N by omega) (by omega)]; exact id
  have c1 : (nI (i + 1)).toNatClampNeg = i + 1 := nI_clamp (by omega)
  have c2 : (nI (i + 2)).toNatClampNeg = i + 2 := nI_clamp (by omega)
  have c3 : (nI (i + 3)).toNatClampNeg = i + 3 := nI_clamp (by omega)
  have c4 : (nI (i + 4)).toNatClampNeg = i + 4 := nI_clamp (by omega)
  have c5 : (nI (i + 5)).toNatClampNeg = i + 5 := nI_clamp (by omega)
  have cN : (nI N).toNatClampNeg = N := nI_clamp (by omega)
  obtain ⟨v, τ, ρ, h1, h2, h3⟩ := W_lay h (σ 1005 (i + 1)) (σ 1005 (i + 2)) (σ 1005 (i + 3)) (σ 1005 (i + 4))
  obtain ⟨r, rfl⟩ : ∃ r, v = some (.int r) := kind_i h1 rfl
  have t5 := jc_im h1 1005 (by decide)
  have t6 := jc_im h1 1006 (by decide)
  have r6 := jc_im h2 1006 (by decide)
  refine ⟨ρ, ?_, h3, by rw [r6, t6]; exact h6⟩
  rw [Law_law_S33_27]
  simp only [jadd1, jadd2, jadd3, jadd4, jadd5, jadd6, c1, c2, c3, c4, c5, h6, cN, if_neg (b 1 (by omega)), if_neg (b 2 (by omega)), if_neg (b 3 (by omega)), if_neg (b 4 (by omega)), if_neg (b 5 (by omega))]
  rw [h1, jbi_some]
  simp only [t5, t6, jadd1, jadd2, jadd3, jadd4, jadd5, jadd6, c1, c2, c3, c4, c5, h6, cN, if_neg (b 1 (by omega)), if_neg (b 2 (by omega)), if_neg (b 3 (by omega)), if_neg (b 4 (by omega)), if_neg (b 5 (by omega))]
  rw [h2, jbi_some, if_pos rfl]
theorem law_28 {σ : jm_S} (h : I_all σ) {N i : Nat} (hN : N < 2 ^ 30) (h6 : σ 1006 0 = nI N) (hi : i + 6 ≤ N) : ∃ ρ, jv 201 33 (lwL i) [.int 28] σ = jv 201 18 (lwL (i + 6)) [] ρ ∧ I_all ρ ∧ ρ 1006 0 = nI N := by
  have b : ∀ k, k < 6 → ¬ (nI (i + k) < 0 ∨ N ≤ i + k) := fun k hk => by rw [jbad2 (show i + k < N by omega) (by omega)]; exact id
  have c1 : (nI (i + 1)).toNatClampNeg = i + 1 := nI_clamp (by omega)
  have c2 : (nI (i + 2)).toNatClampNeg = i + 2 := nI_clamp (by omega)
  have c3 : (nI (i + 3)).toNatClampNeg = i + 3 := nI_clamp (by omega)
  have c4 : (nI (i + 4)).toNatClampNeg = i + 4 := nI_clamp (by omega)
  have c5 : (nI (i + 5)).toNatClampNeg = i + 5 := nI_clamp (by omega)
  have cN : (nI N).toNatClampNeg = N := nI_clamp (by omega)
  obtain ⟨v, τ, ρ, h1, h2, h3⟩ := W_get h (σ 1005 (i + 1)) (σ 1005 (i + 2)) (σ 1005 (i + 3))
  obtain ⟨r, rfl⟩ : ∃ r, v = some (.int r) := kind_i h1 rfl
  have t5 := jc_im h1 1005 (by decide)
  have t6 := jc_im h1 1006 (by decide)
  have r6 := jc_im h2 1006 (by decide)
  refine ⟨ρ, ?_, h3, by rw [r6, t6]; exact h6⟩
  rw [Law_law_S33_28]
  simp only [jadd1, jadd2, jadd3, jadd4, jadd5, jadd6, c1, c2, c3, c4, c5, h6, cN, if_neg (b 1 (by omega)), if_neg (b 2 (by omega)), if_neg (b 3 (by omega)), if_neg (b 4 (by omega)), if_neg (b 5 (by omega))]
  rw [h1, jbi_some]
  simp only [t5, t6, jadd1, jadd2, jadd3, jadd4, jadd5, jadd6, c1, c2, c3, c4, c5, h6, cN, if_neg (b 1 (by omega)), if_neg (b 2 (by omega)), if_neg (b 3 (by omega)), if_neg (b 4 (by omega)), if_neg (b 5 (by omega))]
  rw [h2, jbi_some, if_pos rfl]
theorem law_29 {σ : jm_S} (h : I_all σ) {N i : Nat} (hN : N < 2 ^ 30) (h6 : σ 1006 0 = nI N) (hi : i + 6 ≤ N) : ∃ ρ, jv 201 33 (lwL i) [.int 29] σ = jv 201 18 (lwL (i + 6)) [] ρ ∧ I_all ρ ∧ ρ 1006 0 = nI N := by
  have b : ∀ k, k < 6 → ¬ (nI (i + k) < 0 ∨ N ≤ i + k) := fun k hk => by rw [jbad2 (show i + k < N by omega) (by omega)]; exact id
  have c1 : (nI (i + 1)).toNatClampNeg = i + 1 := nI_clamp (by omega)
  have c2 : (nI (i + 2)).toNatClampNeg = i + 2 := nI_clamp (by omega)
  have c3 : (nI (i + 3)).toNatClampNeg = i + 3 := nI_clamp (by omega)
  have c4 : (nI (i + 4)).toNatClampNeg = i + 4 := nI_clamp (by omega)
  have c5 : (nI (i + 5)).toNatClampNeg = i + 5 := nI_clamp (by omega)
  have cN : (nI N).toNatClampNeg = N := nI_clamp (by omega)
  obtain ⟨v, τ, ρ, h1, h2, h3⟩ := W_copy h (σ 1005 (i + 1)) (σ 1005 (i + 2)) (σ 1005 (i + 3)) (σ 1005 (i + 4)) (σ 1005 (i + 5))
  obtain ⟨r, rfl⟩ : ∃ r, v = some (.int r) := kind_i h1 rfl
  have t5 := jc_im h1 1005 (by decide)
  have t6 := jc_im h1 1006 (by decide)
  have r6 := jc_im h2 1006 (by decide)
  refine ⟨ρ, ?_, h3, by rw [r6, t6]; exact h6⟩
  rw [Law_law_S33_29]
  simp only [jadd1, jadd2, jadd3, jadd4, jadd5, jadd6, c1, c2, c3, c4, c5, h6, cN, if_neg (b 1 (by omega)), if_neg (b 2 (by omega)), if_neg (b 3 (by omega)), if_neg (b 4 (by omega)), if_neg (b 5 (by omega))]
  rw [h1, jbi_some]
  simp only [t5, t6, jadd1, jadd2, jadd3, jadd4, jadd5, jadd6, c1, c2, c3, c4, c5, h6, cN, if_neg (b 1 (by omega)), if_neg (b 2 (by omega)), if_neg (b 3 (by omega)), if_neg (b 4 (by omega)), if_neg (b 5 (by omega))]
  rw [h2, jbi_some, if_pos rfl]
theorem law_30 {σ : jm_S} (h : I_all σ) {N i : Nat} (hN : N < 2 ^ 30) (h6 : σ 1006 0 = nI N) (hi : i + 6 ≤ N) : ∃ ρ, jv 201 33 (lwL i) [.int 30] σ = jv 201 18 (lwL (i + 6)) [] ρ ∧ I_all ρ ∧ ρ 1006 0 = nI N := by
  have b : ∀ k, k < 6 → ¬ (nI (i + k) < 0 ∨ N ≤ i + k) := fun k hk => by rw [jbad2 (show i + k < N by omega) (by omega)]; exact id
  have c1 : (nI (i + 1)).toNatClampNeg = i + 1 := nI_clamp (by omega)
  have c2 : (nI (i + 2)).toNatClampNeg = i + 2 := nI_clamp (by omega)
  have c3 : (nI (i + 3)).toNatClampNeg = i + 3 := nI_clamp (by omega)
  have c4 : (nI (i + 4)).toNatClampNeg = i + 4 := nI_clamp (by omega)
  have c5 : (nI (i + 5)).toNatClampNeg = i + 5 := nI_clamp (by omega)
  have cN : (nI N).toNatClampNeg = N := nI_clamp (by omega)
  obtain ⟨v, τ, ρ, h1, h2, h3⟩ := W_write h (σ 1005 (i + 1)) (σ 1005 (i + 2))
  obtain ⟨r, rfl⟩ : ∃ r, v = some (.int r) := kind_i h1 rfl
  have t5 := jc_im h1 1005 (by decide)
  have t6 := jc_im h1 1006 (by decide)
  have r6 := jc_im h2 1006 (by decide)
  refine ⟨ρ, ?_, h3, by rw [r6, t6]; exact h6⟩
  rw [Law_law_S33_30]
  simp only [jadd1, jadd2, jadd3, jadd4, jadd5, jadd6, c1, c2, c3, c4, c5, h6, cN, if_neg (b 1 (by omega)), if_neg (b 2 (by omega)), if_neg (b 3 (by omega)), if_neg (b 4 (by omega)), if_neg (b 5 (by omega))]
  rw [h1, jbi_some]
  simp only [t5, t6, jadd1, jadd2, jadd3, jadd4, jadd5, jadd6, c1, c2, c3, c4, c5, h6, cN, if_neg (b 1 (by omega)), if_neg (b 2 (by omega)), if_neg (b 3 (by omega)), if_neg (b 4 (by omega)), if_neg (b 5 (by omega))]
  rw [h2, jbi_some, if_pos rfl]
theorem law_31 {σ : jm_S} (h : I_all σ) {N i : Nat} (hN : N < 2 ^ 30) (h6 : σ 1006 0 = nI N) (hi : i + 6 ≤ N) : ∃ ρ, jv 201 33 (lwL i) [.int 31] σ = jv 201 18 (lwL (i + 6)) [] ρ ∧ I_all ρ ∧ ρ 1006 0 = nI N := by
  have b : ∀ k, k < 6 → ¬ (nI (i + k) < 0 ∨ N ≤ i + k) := fun k hk => by rw [jbad2 (show i + k < N by omega) (by omega)]; exact id
  have c1 : (nI (i + 1)).toNatClampNeg = i + 1 := nI_clamp (by omega)
  have c2 : (nI (i + 2)).toNatClampNeg = i + 2 := nI_clamp (by omega)
  have c3 : (nI (i + 3)).toNatClampNeg = i + 3 := nI_clamp (by omega)
  have c4 : (nI (i + 4)).toNatClampNeg = i + 4 := nI_clamp (by omega)
  have c5 : (nI (i + 5)).toNatClampNeg = i + 5 := nI_clamp (by omega)
  have cN : (nI N).toNatClampNeg = N := nI_clamp (by omega)
  obtain ⟨v, τ, ρ, h1, h2, h3⟩ := W_count h (σ 1005 (i + 1))
  obtain ⟨r, rfl⟩ : ∃ r, v = some (.int r) := kind_i h1 rfl
  have t5 := jc_im h1 1005 (by decide)
  have t6 := jc_im h1 1006 (by decide)
  have r6 := jc_im h2 1006 (by decide)
  refine ⟨ρ, ?_, h3, by rw [r6, t6]; exact h6⟩
  rw [Law_law_S33_31]
  simp only [jadd1, jadd2, jadd3, jadd4, jadd5, jadd6, c1, c2, c3, c4, c5, h6, cN, if_neg (b 1 (by omega)), if_neg (b 2 (by omega)), if_neg (b 3 (by omega)), if_neg (b 4 (by omega)), if_neg (b 5 (by omega))]
  rw [h1, jbi_some]
  simp only [t5, t6, jadd1, jadd2, jadd3, jadd4, jadd5, jadd6, c1, c2, c3, c4, c5, h6, cN, if_neg (b 1 (by omega)), if_neg (b 2 (by omega)), if_neg (b 3 (by omega)), if_neg (b 4 (by omega)), if_neg (b 5 (by omega))]
  rw [h2, jbi_some, if_pos rfl]
theorem law_32 {σ : jm_S} (h : I_all σ) {N i : Nat} (hN : N < 2 ^ 30) (h6 : σ 1006 0 = nI N) (hi : i + 6 ≤ N) : ∃ ρ, jv 201 33 (lwL i) [.int 32] σ = jv 201 18 (lwL (i + 6)) [] ρ ∧ I_all ρ ∧ ρ 1006 0 = nI N := by
  have b : ∀ k, k < 6 → ¬ (nI (i + k) < 0 ∨ N ≤ i + k) := fun k hk => by rw [jbad2 (show i + k < N by omega) (by omega)]; exact id
  have c1 : (nI (i + 1)).toNatClampNeg = i + 1 := nI_clamp (by omega)
  have c2 : (nI (i + 2)).toNatClampNeg = i + 2 := nI_clamp (by omega)
  have c3 : (nI (i + 3)).toNatClampNeg = i + 3 := nI_clamp (by omega)
  have c4 : (nI (i + 4)).toNatClampNeg = i + 4 := nI_clamp (by omega)
  have c5 : (nI (i + 5)).toNatClampNeg = i + 5 := nI_clamp (by omega)
  have cN : (nI N).toNatClampNeg = N := nI_clamp (by omega)
  obtain ⟨v, τ, ρ, h1, h2, h3⟩ := W_digest h
  obtain ⟨r, rfl⟩ : ∃ r, v = some (.long r) := kind_l h1 rfl
  have t5 := jc_im h1 1005 (by decide)
  have t6 := jc_im h1 1006 (by decide)
  have r6 := jc_im h2 1006 (by decide)
  refine ⟨ρ, ?_, h3, by rw [r6, t6]; exact h6⟩
  rw [Law_law_S33_32]
  rw [h1, jbl_some, h2, jbl_some, lg_self, if_pos rfl, jadd6]
theorem law_any {σ : jm_S} (h : I_all σ) {N i : Nat} (hN : N < 2 ^ 30) (h6 : σ 1006 0 = nI N) (hi : i + 6 ≤ N) (y : Int32) : ∃ ρ, jv 201 33 (lwL i) [.int y] σ = jv 201 18 (lwL (i + 6)) [] ρ ∧ I_all ρ ∧ ρ 1006 0 = nI N := by
  by_cases c : y < 0 ∨ 32 < y
  · refine ⟨σ, ?_, h, h6⟩
    rw [Law_law_S33_o _ _ _ (by
      have e8 : (32 : Int32).toInt = 32 := by decide
      have e0 : (0 : Int32).toInt = 0 := by decide
      rw [Int32.lt_iff_toInt_lt, Int32.lt_iff_toInt_lt, e8, e0] at c
      exact c), jadd6]
  · obtain ⟨j, hj, rfl⟩ := jN (n := 32) (by decide +kernel) c
    match j, hj with
    | 0, _ => exact law_0 h hN h6 hi
    | 1, _ => exact law_1 h hN h6 hi
    | 2, _ => exact law_2 h hN h6 hi
    | 3, _ => exact law_3 h hN h6 hi
    | 4, _ => exact law_4 h hN h6 hi
    | 5, _ => exact law_5 h hN h6 hi
    | 6, _ => exact law_6 h hN h6 hi
    | 7, _ => exact law_7 h hN h6 hi
    | 8, _ => exact law_8 h hN h6 hi
    | 9, _ => exact law_9 h hN h6 hi
    | 10, _ => exact law_10 h hN h6 hi
    | 11, _ => exact law_11 h hN h6 hi
    | 12, _ => exact law_12 h hN h6 hi
    | 13, _ => exact law_13 h hN h6 hi
    | 14, _ => exact law_14 h hN h6 hi
    | 15, _ => exact law_15 h hN h6 hi
    | 16, _ => exact law_16 h hN h6 hi
    | 17, _ => exact law_17 h hN h6 hi
    | 18, _ => exact law_18 h hN h6 hi
    | 19, _ => exact law_19 h hN h6 hi
    | 20, _ => exact law_20 h hN h6 hi
    | 21, _ => exact law_21 h hN h6 hi
    | 22, _ => exact law_22 h hN h6 hi
    | 23, _ => exact law_23 h hN h6 hi
    | 24, _ => exact law_24 h hN h6 hi
    | 25, _ => exact law_25 h hN h6 hi
    | 26, _ => exact law_26 h hN h6 hi
    | 27, _ => exact law_27 h hN h6 hi
    | 28, _ => exact law_28 h hN h6 hi
    | 29, _ => exact law_29 h hN h6 hi
    | 30, _ => exact law_30 h hN h6 hi
    | 31, _ => exact law_31 h hN h6 hi
    | 32, _ => exact law_32 h hN h6 hi
    | n + 33, q => omega
theorem law_loop {N : Nat} (hN : N < 2 ^ 30) : ∀ (k i : Nat) (σ : jm_S), N < i + 6 * k + 6 → i ≤ N → I_all σ → σ 1006 0 = nI N → ∃ ρ, jv 201 18 (lwL i) [] σ = some (some (.int 1), ρ) := by
  have e6 : (6 : Int32).toInt = 6 := by decide
  have cN : (nI N).toNatClampNeg = N := nI_clamp (by omega)
  have lt : ∀ i, i ≤ N → ((Int32.ofNat N - 6 < nI i) ↔ N < i + 6) := by
    intro i hi
    have a1 : (Int32.ofNat N).toInt = N := nI_toInt (n := N) (by omega)
    have a2 := nI_toInt (n := i) (by omega)
    have a3 : (Int32.ofNat N - 6).toInt = (Int32.ofNat N).toInt - (6 : Int32).toInt := tb_sub (by omega) (by omega)
    rw [Int32.lt_iff_toInt_lt, a3, a1, a2, e6]
    omega
  intro k
  induction k with
  | zero =>
    intro i σ hk hi h h6
    refine ⟨σ, ?_⟩
    rw [Law_law_L18, h6, cN, if_pos ((lt i hi).mpr (by omega))]
  | succ k ih =>
    intro i σ hk hi h h6
    by_cases c : N < i + 6
    · refine ⟨σ, ?_⟩
      rw [Law_law_L18, h6, cN, if_pos ((lt i hi).mpr c)]
    · obtain ⟨ρ, e1, e2, e3⟩ := law_any h hN h6 (show i + 6 ≤ N by omega) (σ 1005 i &&& 63)
      obtain ⟨ν, g1⟩ := ih (i + 6) ρ (by omega) (by omega) e2 e3
      refine ⟨ν, ?_⟩
      rw [Law_law_L18, h6, cN, if_neg (fun q => c ((lt i hi).mp q)), nI_clamp (show i < 2 ^ 31 by omega), if_neg (show ¬ (nI i < 0 ∨ N ≤ i) by rw [jbad2 (show i < N by omega) (by omega)]; exact id), e1, g1]
