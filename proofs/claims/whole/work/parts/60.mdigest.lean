/-! ===== digest: the model ===== -/
theorem M_dgG {G : Nat} (hG : G ≤ 12) {T : Nat → Int32} {pl : Nat → Nat} {P : Pn} {se : Nat → Int32} (σ : jm_S) (h : MR G T (fun _ => true) (se 0) (se 1) (RN G T pl P se 100) σ) : ∀ (k g : Nat) (x : Int64) (u : Option Value), g + k = G → ∃ u', jv 200 69 [some (.ref 61), some (.long x), none, some (.int (nI g)), u] [] σ = jv 200 116 [some (.ref 61), some (.long (hG2 (gnV (RN G T pl P se 100)) 6 k g x)), none, some (.int 0), u'] [] σ := by
  intro k
  induction k with
  | zero =>
    intro g x u hg
    refine ⟨u, ?_⟩
    rw [M_digest_L69, h.1, if_pos (nI_le (by omega) (by omega))]; rfl
  | succ k ih =>
    intro g x u hg
    obtain ⟨u', e⟩ := ih (g + 1) (hF (gnV (RN G T pl P se 100) g) 6 0 x) (some (.int (nI 6))) (by omega)
    refine ⟨u', ?_⟩
    rw [M_digest_L69, h.1, if_neg (nI_ge (show g < G by omega) (by omega)), h_loop1 (fun x j => jv 200 80 [some (.ref 61), some (.long x), none, some (.int (nI g)), some (.int j)] [] σ) (v := gnV (RN G T pl P se 100) g) (n := 6)]
    · show jv 200 80 [some (.ref 61), some (.long (hF (gnV (RN G T pl P se 100) g) 6 0 x)), none, some (.int (nI g)), some (.int (nI 6))] [] σ = _
      rw [M_digest_L80, if_pos (by decide +kernel), nI_1, e]; rfl
    · intro j x hj
      show jv 200 80 [some (.ref 61), some (.long x), none, some (.int (nI g)), some (.int (nI j))] [] σ = _
      rw [M_digest_L80, if_neg (by rw [i6]; exact nI_ge (by omega) (by omega)), M_isNow hG (show g < G by omega) σ h (nI j) (out5 hj), jbi_some, nI_1]; rfl
theorem M_dgR {G : Nat} (hG : G ≤ 12) {T : Nat → Int32} {pl : Nat → Nat} {P : Pn} (hb : bndS P 61) {se : Nat → Int32} {fl : Nat → Int32} {L : Nat → CL} (τ0 : jm_S) (km : KM G T pl P se τ0) (krm : KRm fl L τ0) : ∀ (k r : Nat) (x : Int64) (u : Option Value) (τ : jm_S), r + k = 3 → jFr mS mK' τ0 τ → ∃ u' ρ, jv 200 116 [some (.ref 61), some (.long x), none, some (.int (nI r)), u] [] τ = jv 200 116 [some (.ref 61), some (.long (hG2 (fun r j => tlR G T pl P se (fl r) (L r) (nI j)) 6 k r x)), none, some (.int (nI 3)), u'] [] ρ ∧ jFr mS mK' τ0 ρ := by
  intro k
  induction k with
  | zero =>
    intro r x u τ hr hI
    have e : r = 3 := by omega
    subst e
    exact ⟨u, τ, rfl, hI⟩
  | succ k ih =>
    intro r x u τ hr hI
    obtain ⟨τ1, e1, e2⟩ := h_loop (fun x j τ => jv 200 124 [some (.ref 61), some (.long x), none, some (.int (nI r)), some (.int j)] [] τ) (jFr mS mK' τ0) (v := fun j => tlR G T pl P se (fl r) (L r) (nI j)) (n := 6) (fun j x τ hj hI => by
      obtain ⟨ρ, m1, m2⟩ := M_stopOf hG hb (show r < 3 by omega) (nI j) (out5 hj) τ (KM_fr km hI) (KRm_fr krm hI)
      refine ⟨ρ, ?_, hI.trans m2⟩
      show jv 200 124 [some (.ref 61), some (.long x), none, some (.int (nI r)), some (.int (nI j))] [] τ = _
      rw [M_digest_L124, if_neg (by rw [i6]; exact nI_ge (by omega) (by omega)), m1, jbi_some, nI_1]) 6 0 x τ (by omega) hI
    have e1 : jv 200 124 [some (.ref 61), some (.long x), none, some (.int (nI r)), some (.int (nI 0))] [] τ = jv 200 124 [some (.ref 61), some (.long (hF (fun j => tlR G T pl P se (fl r) (L r) (nI j)) 6 0 x)), none, some (.int (nI r)), some (.int (nI 6))] [] τ1 := e1
    obtain ⟨u', ρ, g1, g2⟩ := ih (r + 1) (hF (fun j => tlR G T pl P se (fl r) (L r) (nI j)) 6 0 x) (some (.int (nI 6))) τ1 (by omega) e2
    refine ⟨u', ρ, ?_, g2⟩
    rw [M_digest_L116, if_neg (by rw [i3]; exact nI_ge (by omega) (by omega)), ← nI_0, e1, M_digest_L124, if_pos (by decide +kernel), nI_1, g1]; rfl
theorem M_digestV {σ τ0 : jm_S} {G : Nat} {pl : Nat → Nat} {P : Pn} {fl : Nat → Int32} {L : Nat → CL} {who wh : Nat → Nat} {n : Nat} (hG : G ≤ 12) (hb : bndS P 61) (km : KM G (σ 67) pl P (σ 68) τ0) (krm : KRm fl L τ0) (hn : n ≤ 12) (hm : HM G who wh n τ0) (htx : I_tx τ0) (h70 : τ0 70 = σ 70) (h67 : τ0 67 = σ 67) (h61 : τ0 61 = σ 61) (hfw : fwV τ0 = fwV σ) : ∃ ρ, jc 200 [.ref 61] τ0 = some (some (.long (dgV G (σ 67) pl P (σ 68) fl L who wh n (ctF G P σ) (fwV σ))), ρ) ∧ jFr mS mK' τ0 ρ := by
  have z0 : ∀ x : Int64, some (Value.int (nI 0)) = some (Value.int 0) := fun _ => by rw [nI_0]
  obtain ⟨τ1, a1, a2⟩ := h_loop (fun x j τ => jv 200 6 [some (.ref 61), some (.long x), none, some (.int j), none] [] τ) (jFr mS mK' τ0) (v := ctF G P σ) (n := 8) (fun j x τ hj hI => by
    obtain ⟨ρ, m1, m2⟩ := M_count (σ := σ) hG (KM_fr km hI) (by rw [hI.1 70 (by decide) (by decide), h70]) (by rw [hI.1 67 (by decide) (by decide), h67]) (by rw [hI.2 36 (by decide), h61]) (by rw [hI.2 4 (by decide), h61]) (show j ≤ 8 by omega)
    refine ⟨ρ, ?_, hI.trans m2⟩
    show jv 200 6 [some (.ref 61), some (.long x), none, some (.int (nI j)), none] [] τ = _
    rw [M_digest_L6, if_neg (by rw [i8]; exact nI_ge (by omega) (by omega)), m1, jbi_some, nI_1]) 8 0 17 τ0 (by omega) jFr.rf
  have a1 : jv 200 6 [some (.ref 61), some (.long 17), none, some (.int (nI 0)), none] [] τ0 = jv 200 6 [some (.ref 61), some (.long (hF (ctF G P σ) 8 0 17)), none, some (.int (nI 8)), none] [] τ1 := a1
  generalize hx1 : hF (ctF G P σ) 8 0 17 = x1 at a1
  have s1 : jc 200 [.ref 61] τ0 = jv 200 33 [some (.ref 61), some (.long x1), none, some (.int (nI 0)), none] [] τ1 := by
    rw [M_digest_in, ← nI_0, a1, M_digest_L6, if_pos (by decide +kernel), nI_0]
  have tx : ∀ τ, jFr mS mK' τ0 τ → I_tx τ := fun τ hI => I_tx_fr htx (fun c hc => by
    simp only [List.mem_cons, List.not_mem_nil, or_false] at hc
    exact hI.1 c (by simp only [List.mem_cons, List.not_mem_nil, or_false]; omega) (by omega))
  obtain ⟨τ2, b1, b2⟩ := h_loop (fun x j τ => jv 200 33 [some (.ref 61), some (.long x), none, some (.int j), none] [] τ) (jFr mS mK' τ0) (v := fwV σ) (n := 4) (fun j x τ hj hI => by
    have fa : ∃ ρ, jc 140 [.ref 61, .int (nI j)] τ = some (some (.int (fwV σ j)), ρ) ∧ jFr mS mK' τ ρ := by
      rw [← hfw]
      have t := tx τ hI
      match j, hj with
      | 0, _ =>
        obtain ⟨ρ, m1, m2⟩ := M_faultOf_0 t.1
        rw [hI.1 42 (by decide) (by decide)] at m1
        exact ⟨ρ, by rw [show nI 0 = 0 by decide +kernel]; exact m1, m2.weak (by decide) (by decide)⟩
      | 1, _ =>
        obtain ⟨ρ, m1, m2⟩ := M_faultOf_1 t.2.1
        rw [hI.1 44 (by decide) (by decide)] at m1
        exact ⟨ρ, by rw [show nI 1 = 1 by decide +kernel]; exact m1, m2.weak (by decide) (by decide)⟩
      | 2, _ =>
        obtain ⟨ρ, m1, m2⟩ := M_faultOf_2 t.2.2.1
        rw [hI.1 47 (by decide) (by decide)] at m1
        exact ⟨ρ, by rw [show nI 2 = 2 by decide +kernel]; exact m1, m2.weak (by decide) (by decide)⟩
      | 3, _ =>
        obtain ⟨ρ, m1, m2⟩ := M_faultOf_3 t.2.2.2
        rw [hI.1 50 (by decide) (by decide)] at m1
        exact ⟨ρ, by rw [show nI 3 = 3 by decide +kernel]; exact m1, m2.weak (by decide) (by decide)⟩
      | n + 4, q => omega
    obtain ⟨ρ, m1, m2⟩ := fa
    refine ⟨ρ, ?_, hI.trans m2⟩
    show jv 200 33 [some (.ref 61), some (.long x), none, some (.int (nI j)), none] [] τ = _
    rw [M_digest_L33, if_neg (by rw [i4]; exact nI_ge (by omega) (by omega)), m1, jbi_some, nI_1]) 4 0 x1 τ1 (by omega) a2
  have b1 : jv 200 33 [some (.ref 61), some (.long x1), none, some (.int (nI 0)), none] [] τ1 = jv 200 33 [some (.ref 61), some (.long (hF (fwV σ) 4 0 x1)), none, some (.int (nI 4)), none] [] τ2 := b1
  generalize hx2 : hF (fwV σ) 4 0 x1 = x2 at b1
  obtain ⟨τ3, τ4, c1, c2, c3, c4, c5, c6⟩ := M_tries_goes hG hb (show 100 ≤ 200 by omega) τ2 (KM_fr km b2)
  rw [← i100] at c2
  obtain ⟨u1, d1⟩ := M_dgG hG τ4 c3 G 0 x2 none (by omega)
  generalize hx3 : hG2 (gnV (RN G (σ 67) pl P (σ 68) 100)) 6 G 0 x2 = x3 at d1
  obtain ⟨u2, τ5, e1, e2⟩ := M_dgR hG hb τ0 km krm 3 0 x3 u1 τ4 (by omega) (b2.trans c5)
  generalize hx3' : hG2 (fun r j => tlR G (σ 67) pl P (σ 68) (fl r) (L r) (nI j)) 6 3 0 x3 = x3' at e1
  obtain ⟨τ6, f1, f2⟩ := M_bestNow hG hb τ5 (KM_fr km e2) (KRm_fr krm e2)
  generalize hx4 : (31 : Int64) * x3' + (bsF fl (wtR G (σ 67) pl P (σ 68) L) 3 0 (-1) 0).toInt64 = x4
  have s2 : jv 200 33 [some (.ref 61), some (.long x1), none, some (.int (nI 0)), none] [] τ1 = jv 200 172 [some (.ref 61), some (.long x4), none, some (.int (nI 0)), u2] [] τ6 := by
    rw [nI_0] at d1 e1
    rw [b1, M_digest_L33, if_pos (by decide +kernel), c1, jbv_some, c2, jbv_some, d1, e1, M_digest_L116, if_pos (by decide +kernel), f1, jbi_some, hx4, nI_0]
  obtain ⟨τ7, g1, g2⟩ := h_loop (fun x j τ => jv 200 172 [some (.ref 61), some (.long x), none, some (.int j), u2] [] τ) (jFr mS mK' τ0) (v := fun j => evV (evO G (σ 67) pl (σ 68) 60) (evB G (σ 67) pl (σ 68) 60) (nI j)) (n := 3) (fun j x τ hj hI => by
    obtain ⟨ρ, m1, m2⟩ := M_evenOf hG (show 60 ≤ 200 by omega) (nI j) τ (KM_fr km hI)
    rw [← i60] at m1
    refine ⟨ρ, ?_, hI.trans m2⟩
    show jv 200 172 [some (.ref 61), some (.long x), none, some (.int (nI j)), u2] [] τ = _
    rw [M_digest_L172, if_neg (by rw [i3]; exact nI_ge (by omega) (by omega)), m1, jbi_some, nI_1]) 3 0 x4 τ6 (by omega) (e2.trans f2)
  have g1 : jv 200 172 [some (.ref 61), some (.long x4), none, some (.int (nI 0)), u2] [] τ6 = jv 200 172 [some (.ref 61), some (.long (hF (fun j => evV (evO G (σ 67) pl (σ 68) 60) (evB G (σ 67) pl (σ 68) 60) (nI j)) 3 0 x4)), none, some (.int (nI 3)), u2] [] τ7 := g1
  generalize hx5 : hF (fun j => evV (evO G (σ 67) pl (σ 68) 60) (evB G (σ 67) pl (σ 68) 60) (nI j)) 3 0 x4 = x5 at g1
  obtain ⟨τ8, k1, k2⟩ := h_loop (fun x j τ => jv 200 200 [some (.ref 61), some (.long x), none, some (.int j), u2] [] τ) (jFr mS mK' τ0) (v := fun j => svV G (svI (σ 67) 3 G) (SV G (σ 67) pl P (σ 68) 3 100) (nI j)) (n := 4) (fun j x τ hj hI => by
    obtain ⟨ρ, m1, m2⟩ := M_sievedOf hG hb 3 (show 100 ≤ 200 by omega) (nI j) τ (KM_fr km hI)
    rw [← i100] at m1
    refine ⟨ρ, ?_, hI.trans m2⟩
    show jv 200 200 [some (.ref 61), some (.long x), none, some (.int (nI j)), u2] [] τ = _
    rw [M_digest_L200, if_neg (by rw [i4]; exact nI_ge (by omega) (by omega)), m1, jbi_some, nI_1]) 4 0 x5 τ7 (by omega) g2
  have k1 : jv 200 200 [some (.ref 61), some (.long x5), none, some (.int (nI 0)), u2] [] τ7 = jv 200 200 [some (.ref 61), some (.long (hF (fun j => svV G (svI (σ 67) 3 G) (SV G (σ 67) pl P (σ 68) 3 100) (nI j)) 4 0 x5)), none, some (.int (nI 4)), u2] [] τ8 := k1
  generalize hx6 : hF (fun j => svV G (svI (σ 67) 3 G) (SV G (σ 67) pl P (σ 68) 3 100) (nI j)) 4 0 x5 = x6 at k1
  obtain ⟨ρ, l1, l2⟩ := h_loop (fun x j τ => jv 200 229 [some (.ref 61), some (.long x), none, some (.int j), u2] [] τ) (jFr mS mK' τ0) (v := fun j => if n = 0 then -3 else fq (ftR G (σ 67) pl P (σ 68) who wh n) (nI j)) (n := 5) (fun j x τ hj hI => by
    have o4 : ¬ (nI j < 0 ∨ 4 < nI j) := by
      rintro (q | q)
      · exact nI_pos (by omega) q
      · rw [i4] at q
        exact nI_nlt (by omega) (by omega) q
    obtain ⟨ρ, m1, m2⟩ := M_fitsOf hG hb hn (nI j) o4 τ (KM_fr km hI) (HM_fr hm hI)
    refine ⟨ρ, ?_, hI.trans m2⟩
    show jv 200 229 [some (.ref 61), some (.long x), none, some (.int (nI j)), u2] [] τ = _
    rw [M_digest_L229, if_neg (by rw [i5]; exact nI_ge (by omega) (by omega)), m1, jbi_some, nI_1]) 5 0 x6 τ8 (by omega) k2
  have l1 : jv 200 229 [some (.ref 61), some (.long x6), none, some (.int (nI 0)), u2] [] τ8 = jv 200 229 [some (.ref 61), some (.long (hF (fun j => if n = 0 then -3 else fq (ftR G (σ 67) pl P (σ 68) who wh n) (nI j)) 5 0 x6)), none, some (.int (nI 5)), u2] [] ρ := l1
  refine ⟨ρ, ?_, l2⟩
  rw [s1, s2, g1, M_digest_L172, if_pos (by decide +kernel), ← nI_0, k1, M_digest_L200, if_pos (by decide +kernel), ← nI_0, l1, M_digest_L229, if_pos (by decide +kernel), ← hx6, ← hx5, ← hx4, ← hx3', ← hx3, ← hx2, ← hx1]; rfl
theorem A_digest {σ : jm_S} (h : I_all σ) : jSame σ fS mK' I_all (jc 114 [.ref 0]) (jc 200 [.ref 61]) := by
  obtain ⟨G, pl, P, hG, hb, hgr, hhe, kc, km⟩ := K_of h
  obtain ⟨fl, L, krc, krm⟩ := KR_of h.2.2.2
  obtain ⟨n, who, wh, hn, hc, hm⟩ := H_of hhe hG
  refine simh_call h (P_digestV h hG hb hgr hhe kc krc (fun r hr => KRm_ok krm hr) hn hc) (fun τ hτ => ?_)
  refine M_digestV hG hb (KM_h km hτ) (by
    unfold KRm at krm ⊢
    rw [hτ.1 69 (by decide) (by decide), hτ.1 70 (by decide) (by decide)]
    exact krm) hn (HM_h hm hτ) (I_tx_fr h.2.2.2 (fun c hc => by
      simp only [List.mem_cons, List.not_mem_nil, or_false] at hc
      exact hτ.1 c (by simp only [List.mem_cons, List.not_mem_nil, or_false]; omega) (by omega))) (hτ.1 70 (by decide) (by decide)) (hτ.1 67 (by decide) (by decide)) (hτ.1 61 (by decide) (by decide)) (by
    funext j
    unfold fwV
    rw [hτ.1 42 (by decide) (by decide), hτ.1 44 (by decide) (by decide), hτ.1 47 (by decide) (by decide), hτ.1 50 (by decide) (by decide)])
