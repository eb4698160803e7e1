set_option maxRecDepth 20000 in
set_option maxHeartbeats 4000000 in
theorem Grains_isFull_in (σ : jm_S) : jc 4 [(.ref 1)] σ = (if (σ 1 2) < (12 : Int32) then some (some (.int (0 : Int32)), σ) else some (some (.int (1 : Int32)), σ)) := by
  refine (jc_of (ls1 := [some (.ref 1)]) ((jm_ini_of jM4).trans rfl)).trans ?_
  refine (sv_aload_n jM4 c4_0 rfl rfl).trans ?_
  refine (sv_getf jM4 c4_1 rfl lf_2_18 (fg_1_2 _)).trans ?_
  refine (sv_bipush jM4 c4_4 rfl (v := 12) (by decide +kernel)).trans ?_
  refine (sv_icmp_lt jM4 c4_6 rfl (t := 13) (by decide +kernel)).trans ?_
  refine jif _ ?_ ?_
  ·
    refine (sv_iconst jM4 c4_13 rfl (v := 0) (by decide +kernel)).trans ?_
    exact sv_zret jM4 c4_14 rfl rfl (by decide +kernel)
  ·
    refine (sv_iconst jM4 c4_9 rfl (v := 1) (by decide +kernel)).trans ?_
    refine (sv_goto jM4 c4_10 rfl (t := 14) (by decide +kernel)).trans ?_
    exact sv_zret jM4 c4_14 rfl rfl (by decide +kernel)
set_option maxRecDepth 20000 in
set_option maxHeartbeats 4000000 in
theorem Grains_add_in (x1 : Int32) (x2 : Int32) (x3 : Int32) (x4 : Int32) (x5 : Int32) (σ : jm_S) : jc 5 [(.ref 1), (.int x1), (.int x2), (.int x3), (.int x4), (.int x5)] σ = (if (σ 1 2) < 0 ∨ 12 ≤ (σ 1 2).toNatClampNeg then none else jbv (jc 6 [(.ref 1), (.int (σ 1 2)), (.int (0 : Int32)), (.int x2)] (jm_up (jm_up σ 1 2 ((σ 1 2) + (1 : Int32))) 2 (σ 1 2).toNatClampNeg x1)) (fun τ1 => jbv (jc 6 [(.ref 1), (.int (σ 1 2)), (.int (1 : Int32)), (.int x3)] τ1) (fun τ2 => jbv (jc 6 [(.ref 1), (.int (σ 1 2)), (.int (2 : Int32)), (.int x4)] τ2) (fun τ3 => jbv (jc 6 [(.ref 1), (.int (σ 1 2)), (.int (3 : Int32)), (.int x5)] τ3) (fun τ4 => some (some (.int (σ 1 2)), τ4)))))) := by
  refine (jc_of (ls1 := [some (.ref 1), some (.int x1), some (.int x2), some (.int x3), some (.int x4), some (.int x5), none]) ((jm_ini_of jM5).trans rfl)).trans ?_
  refine (sv_aload_n jM5 c5_0 rfl rfl).trans ?_
  refine (sv_getf jM5 c5_1 rfl lf_2_18 (fg_1_2 _)).trans ?_
  refine (sv_istore (ls1 := [some (.ref 1), some (.int x1), some (.int x2), some (.int x3), some (.int x4), some (.int x5), some (.int (σ 1 2))]) jM5 c5_4 rfl (Nat.lt_of_lt_of_eq (by decide +kernel : 6 < 7) rfl) rfl).trans ?_
  refine (sv_aload_n jM5 c5_6 rfl rfl).trans ?_
  refine (sv_dup jM5 c5_7 rfl rfl).trans ?_
  refine (sv_getf jM5 c5_8 rfl lf_2_18 (fg_1_2 _)).trans ?_
  refine (sv_iconst jM5 c5_11 rfl (v := 1) (by decide +kernel)).trans ?_
  refine (sv_iadd jM5 c5_12 rfl).trans ?_
  refine (sv_putf jM5 c5_13 rfl lf_2_18 (pf_1_2 _ _)).trans ?_
  refine (sv_aload_n jM5 c5_16 rfl rfl).trans ?_
  refine (sv_getf jM5 c5_17 rfl lf_2_9 (fg_1_0 _)).trans ?_
  refine (sv_iload jM5 c5_20 rfl rfl).trans ?_
  refine (sv_iload_n jM5 c5_22 rfl rfl).trans ?_
  refine (sv_iast jM5 c5_23 rfl wi_2).trans ?_
  refine jif _ rfl ?_
  refine (sv_aload_n jM5 c5_24 rfl rfl).trans ?_
  refine (sv_iload jM5 c5_25 rfl rfl).trans ?_
  refine (sv_iconst jM5 c5_27 rfl (v := 0) (by decide +kernel)).trans ?_
  refine (sv_iload_n jM5 c5_28 rfl rfl).trans ?_
  refine (sv_callvv (pl := 0) jM5 c5_29 rfl (jm_call_v (a := 1) (as := [(.int (σ 1 2)), (.int (0 : Int32)), (.int x2)]) (rest := []) lm_2_22 rfl jM6 rfl rfl rfl rfl rfl) jM6 rfl rfl).trans ?_
  refine jbv_c (fun τ1 => ?_)
  refine (sv_aload_n jM5 c5_32 rfl rfl).trans ?_
  refine (sv_iload jM5 c5_33 rfl rfl).trans ?_
  refine (sv_iconst jM5 c5_35 rfl (v := 1) (by decide +kernel)).trans ?_
  refine (sv_iload_n jM5 c5_36 rfl rfl).trans ?_
  refine (sv_callvv (pl := 0) jM5 c5_37 rfl (jm_call_v (a := 1) (as := [(.int (σ 1 2)), (.int (1 : Int32)), (.int x3)]) (rest := []) lm_2_22 rfl jM6 rfl rfl rfl rfl rfl) jM6 rfl rfl).trans ?_
  refine jbv_c (fun τ2 => ?_)
  refine (sv_aload_n jM5 c5_40 rfl rfl).trans ?_
  refine (sv_iload jM5 c5_41 rfl rfl).trans ?_
  refine (sv_iconst jM5 c5_43 rfl (v := 2) (by decide +kernel)).trans ?_
  refine (sv_iload jM5 c5_44 rfl rfl).trans ?_
  refine (sv_callvv (pl := 0) jM5 c5_46 rfl (jm_call_v (a := 1) (as := [(.int (σ 1 2)), (.int (2 : Int32)), (.int x4)]) (rest := []) lm_2_22 rfl jM6 rfl rfl rfl rfl rfl) jM6 rfl rfl).trans ?_
  refine jbv_c (fun τ3 => ?_)
  refine (sv_aload_n jM5 c5_49 rfl rfl).trans ?_
  refine (sv_iload jM5 c5_50 rfl rfl).trans ?_
  refine (sv_iconst jM5 c5_52 rfl (v := 3) (by decide +kernel)).trans ?_
  refine (sv_iload jM5 c5_53 rfl rfl).trans ?_
  refine (sv_callvv (pl := 0) jM5 c5_55 rfl (jm_call_v (a := 1) (as := [(.int (σ 1 2)), (.int (3 : Int32)), (.int x5)]) (rest := []) lm_2_22 rfl jM6 rfl rfl rfl rfl rfl) jM6 rfl rfl).trans ?_
  refine jbv_c (fun τ4 => ?_)
  refine (sv_iload jM5 c5_58 rfl rfl).trans ?_
  exact sv_iret jM5 c5_60 rfl rfl
set_option maxRecDepth 20000 in
set_option maxHeartbeats 4000000 in
theorem Sheet_isLost_53_in (σ : jm_S) : jc 8 [(.ref 53)] σ = (if ¬ (σ 53 1) = (-1 : Int32) then some (some (.int (0 : Int32)), σ) else some (some (.int (1 : Int32)), σ)) := by
  refine (jc_of (ls1 := [some (.ref 53)]) ((jm_ini_of jM8).trans rfl)).trans ?_
  refine (sv_aload_n jM8 c8_0 rfl rfl).trans ?_
  refine (sv_getf jM8 c8_1 rfl lf_6_15 (fg_53_1 _)).trans ?_
  refine (sv_iconst jM8 c8_4 rfl (v := -1) (by decide +kernel)).trans ?_
  refine (sv_icmp_ne jM8 c8_5 rfl (t := 12) (by decide +kernel)).trans ?_
  refine jif _ ?_ ?_
  ·
    refine (sv_iconst jM8 c8_12 rfl (v := 0) (by decide +kernel)).trans ?_
    exact sv_zret jM8 c8_13 rfl rfl (by decide +kernel)
  ·
    refine (sv_iconst jM8 c8_8 rfl (v := 1) (by decide +kernel)).trans ?_
    refine (sv_goto jM8 c8_9 rfl (t := 13) (by decide +kernel)).trans ?_
    exact sv_zret jM8 c8_13 rfl rfl (by decide +kernel)
set_option maxRecDepth 20000 in
set_option maxHeartbeats 4000000 in
theorem Sheet_isLost_57_in (σ : jm_S) : jc 8 [(.ref 57)] σ = (if ¬ (σ 57 1) = (-1 : Int32) then some (some (.int (0 : Int32)), σ) else some (some (.int (1 : Int32)), σ)) := by
  refine (jc_of (ls1 := [some (.ref 57)]) ((jm_ini_of jM8).trans rfl)).trans ?_
  refine (sv_aload_n jM8 c8_0 rfl rfl).trans ?_
  refine (sv_getf jM8 c8_1 rfl lf_6_15 (fg_57_1 _)).trans ?_
  refine (sv_iconst jM8 c8_4 rfl (v := -1) (by decide +kernel)).trans ?_
  refine (sv_icmp_ne jM8 c8_5 rfl (t := 12) (by decide +kernel)).trans ?_
  refine jif _ ?_ ?_
  ·
    refine (sv_iconst jM8 c8_12 rfl (v := 0) (by decide +kernel)).trans ?_
    exact sv_zret jM8 c8_13 rfl rfl (by decide +kernel)
  ·
    refine (sv_iconst jM8 c8_8 rfl (v := 1) (by decide +kernel)).trans ?_
    refine (sv_goto jM8 c8_9 rfl (t := 13) (by decide +kernel)).trans ?_
    exact sv_zret jM8 c8_13 rfl rfl (by decide +kernel)
set_option maxRecDepth 20000 in
set_option maxHeartbeats 4000000 in
theorem Sheet_isLost_59_in (σ : jm_S) : jc 8 [(.ref 59)] σ = (if ¬ (σ 59 1) = (-1 : Int32) then some (some (.int (0 : Int32)), σ) else some (some (.int (1 : Int32)), σ)) := by
  refine (jc_of (ls1 := [some (.ref 59)]) ((jm_ini_of jM8).trans rfl)).trans ?_
  refine (sv_aload_n jM8 c8_0 rfl rfl).trans ?_
  refine (sv_getf jM8 c8_1 rfl lf_6_15 (fg_59_1 _)).trans ?_
  refine (sv_iconst jM8 c8_4 rfl (v := -1) (by decide +kernel)).trans ?_
  refine (sv_icmp_ne jM8 c8_5 rfl (t := 12) (by decide +kernel)).trans ?_
  refine jif _ ?_ ?_
  ·
    refine (sv_iconst jM8 c8_12 rfl (v := 0) (by decide +kernel)).trans ?_
    exact sv_zret jM8 c8_13 rfl rfl (by decide +kernel)
  ·
    refine (sv_iconst jM8 c8_8 rfl (v := 1) (by decide +kernel)).trans ?_
    refine (sv_goto jM8 c8_9 rfl (t := 13) (by decide +kernel)).trans ?_
    exact sv_zret jM8 c8_13 rfl rfl (by decide +kernel)
set_option maxRecDepth 20000 in
set_option maxHeartbeats 4000000 in
theorem Sheet_isLost_55_in (σ : jm_S) : jc 8 [(.ref 55)] σ = (if ¬ (σ 55 1) = (-1 : Int32) then some (some (.int (0 : Int32)), σ) else some (some (.int (1 : Int32)), σ)) := by
  refine (jc_of (ls1 := [some (.ref 55)]) ((jm_ini_of jM8).trans rfl)).trans ?_
  refine (sv_aload_n jM8 c8_0 rfl rfl).trans ?_
  refine (sv_getf jM8 c8_1 rfl lf_6_15 (fg_55_1 _)).trans ?_
  refine (sv_iconst jM8 c8_4 rfl (v := -1) (by decide +kernel)).trans ?_
  refine (sv_icmp_ne jM8 c8_5 rfl (t := 12) (by decide +kernel)).trans ?_
  refine jif _ ?_ ?_
  ·
    refine (sv_iconst jM8 c8_12 rfl (v := 0) (by decide +kernel)).trans ?_
    exact sv_zret jM8 c8_13 rfl rfl (by decide +kernel)
  ·
    refine (sv_iconst jM8 c8_8 rfl (v := 1) (by decide +kernel)).trans ?_
    refine (sv_goto jM8 c8_9 rfl (t := 13) (by decide +kernel)).trans ?_
    exact sv_zret jM8 c8_13 rfl rfl (by decide +kernel)
set_option maxRecDepth 20000 in
set_option maxHeartbeats 4000000 in
theorem Grains_has_in (x1 : Int32) (σ : jm_S) : jc 11 [(.ref 1), (.int x1)] σ = (if x1 < 0 then some (some (.int (0 : Int32)), σ) else (if (σ 1 2) ≤ x1 then some (some (.int (0 : Int32)), σ) else some (some (.int (1 : Int32)), σ))) := by
  refine (jc_of (ls1 := [some (.ref 1), some (.int x1)]) ((jm_ini_of jM11).trans rfl)).trans ?_
  refine (sv_iload_n jM11 c11_0 rfl rfl).trans ?_
  refine (sv_if_lt jM11 c11_1 rfl (t := 16) (by decide +kernel)).trans ?_
  refine jif _ ?_ ?_
  ·
    refine (sv_iconst jM11 c11_16 rfl (v := 0) (by decide +kernel)).trans ?_
    exact sv_zret jM11 c11_17 rfl rfl (by decide +kernel)
  ·
    refine (sv_iload_n jM11 c11_4 rfl rfl).trans ?_
    refine (sv_aload_n jM11 c11_5 rfl rfl).trans ?_
    refine (sv_getf jM11 c11_6 rfl lf_2_18 (fg_1_2 _)).trans ?_
    refine (sv_icmp_ge jM11 c11_9 rfl (t := 16) (by decide +kernel)).trans ?_
    refine jif _ ?_ ?_
    ·
      refine (sv_iconst jM11 c11_16 rfl (v := 0) (by decide +kernel)).trans ?_
      exact sv_zret jM11 c11_17 rfl rfl (by decide +kernel)
    ·
      refine (sv_iconst jM11 c11_12 rfl (v := 1) (by decide +kernel)).trans ?_
      refine (sv_goto jM11 c11_13 rfl (t := 17) (by decide +kernel)).trans ?_
      exact sv_zret jM11 c11_17 rfl rfl (by decide +kernel)
set_option maxRecDepth 20000 in
set_option maxHeartbeats 4000000 in
theorem Grains_put_in (x1 : Int32) (x2 : Int32) (x3 : Int32) (σ : jm_S) : jc 6 [(.ref 1), (.int x1), (.int x2), (.int x3)] σ = (if ((x1 * (4 : Int32)) + x2) < 0 ∨ 48 ≤ ((x1 * (4 : Int32)) + x2).toNatClampNeg then none else some (none, (jm_up σ 3 ((x1 * (4 : Int32)) + x2).toNatClampNeg x3))) := by
  refine (jc_of (ls1 := [some (.ref 1), some (.int x1), some (.int x2), some (.int x3)]) ((jm_ini_of jM6).trans rfl)).trans ?_
  refine (sv_aload_n jM6 c6_0 rfl rfl).trans ?_
  refine (sv_getf jM6 c6_1 rfl lf_2_15 (fg_1_1 _)).trans ?_
  refine (sv_iload_n jM6 c6_4 rfl rfl).trans ?_
  refine (sv_iconst jM6 c6_5 rfl (v := 4) (by decide +kernel)).trans ?_
  refine (sv_imul jM6 c6_6 rfl).trans ?_
  refine (sv_iload_n jM6 c6_7 rfl rfl).trans ?_
  refine (sv_iadd jM6 c6_8 rfl).trans ?_
  refine (sv_iload_n jM6 c6_9 rfl rfl).trans ?_
  refine (sv_iast jM6 c6_10 rfl wi_3).trans ?_
  refine jif _ rfl ?_
  exact sv_vret jM6 c6_11 rfl rfl
set_option maxRecDepth 20000 in
set_option maxHeartbeats 4000000 in
theorem Grains_trait_in (x1 : Int32) (x2 : Int32) (σ : jm_S) : jc 12 [(.ref 1), (.int x1), (.int x2)] σ = (if ((x1 * (4 : Int32)) + x2) < 0 ∨ 48 ≤ ((x1 * (4 : Int32)) + x2).toNatClampNeg then none else some (some (.int (σ 3 ((x1 * (4 : Int32)) + x2).toNatClampNeg)), σ)) := by
  refine (jc_of (ls1 := [some (.ref 1), some (.int x1), some (.int x2)]) ((jm_ini_of jM12).trans rfl)).trans ?_
  refine (sv_aload_n jM12 c12_0 rfl rfl).trans ?_
  refine (sv_getf jM12 c12_1 rfl lf_2_15 (fg_1_1 _)).trans ?_
  refine (sv_iload_n jM12 c12_4 rfl rfl).trans ?_
  refine (sv_iconst jM12 c12_5 rfl (v := 4) (by decide +kernel)).trans ?_
  refine (sv_imul jM12 c12_6 rfl).trans ?_
  refine (sv_iload_n jM12 c12_7 rfl rfl).trans ?_
  refine (sv_iadd jM12 c12_8 rfl).trans ?_
  refine (sv_iald jM12 c12_9 rfl (ia_3 _)).trans ?_
  refine jif _ rfl ?_
  exact sv_iret jM12 c12_10 rfl rfl
set_option maxRecDepth 20000 in
set_option maxHeartbeats 4000000 in
theorem Text_isFull_47_in (σ : jm_S) : jc 16 [(.ref 47)] σ = (if (σ 47 1) < (30 : Int32) then some (some (.int (0 : Int32)), σ) else some (some (.int (1 : Int32)), σ)) := by
  refine (jc_of (ls1 := [some (.ref 47)]) ((jm_ini_of jM16).trans rfl)).trans ?_
  refine (sv_aload_n jM16 c16_0 rfl rfl).trans ?_
  refine (sv_getf jM16 c16_1 rfl lf_7_9 (fg_47_1 _)).trans ?_
  refine (sv_aload_n jM16 c16_4 rfl rfl).trans ?_
  refine (sv_getf jM16 c16_5 rfl lf_7_21 (fg_47_0 _)).trans ?_
  refine (sv_alen jM16 c16_8 rfl (ln_48 _) (v := 30) (by decide +kernel)).trans ?_
  refine (sv_icmp_lt jM16 c16_9 rfl (t := 16) (by decide +kernel)).trans ?_
  refine jif _ ?_ ?_
  ·
    refine (sv_iconst jM16 c16_16 rfl (v := 0) (by decide +kernel)).trans ?_
    exact sv_zret jM16 c16_17 rfl rfl (by decide +kernel)
  ·
    refine (sv_iconst jM16 c16_12 rfl (v := 1) (by decide +kernel)).trans ?_
    refine (sv_goto jM16 c16_13 rfl (t := 17) (by decide +kernel)).trans ?_
    exact sv_zret jM16 c16_17 rfl rfl (by decide +kernel)
set_option maxRecDepth 20000 in
set_option maxHeartbeats 4000000 in
theorem Text_add_47_in (x1 : Int32) (σ : jm_S) : jc 17 [(.ref 47), (.int x1)] σ = (if (σ 47 1) < 0 ∨ 30 ≤ (σ 47 1).toNatClampNeg then none else some (none, (jm_up (jm_up σ 48 (σ 47 1).toNatClampNeg x1) 47 1 ((σ 47 1) + (1 : Int32))))) := by
  refine (jc_of (ls1 := [some (.ref 47), some (.int x1)]) ((jm_ini_of jM17).trans rfl)).trans ?_
  refine (sv_aload_n jM17 c17_0 rfl rfl).trans ?_
  refine (sv_getf jM17 c17_1 rfl lf_7_21 (fg_47_0 _)).trans ?_
  refine (sv_aload_n jM17 c17_4 rfl rfl).trans ?_
  refine (sv_getf jM17 c17_5 rfl lf_7_9 (fg_47_1 _)).trans ?_
  refine (sv_iload_n jM17 c17_8 rfl rfl).trans ?_
  refine (sv_iast jM17 c17_9 rfl wi_48).trans ?_
  refine jif _ rfl ?_
  refine (sv_aload_n jM17 c17_10 rfl rfl).trans ?_
  refine (sv_dup jM17 c17_11 rfl rfl).trans ?_
  refine (sv_getf jM17 c17_12 rfl lf_7_9 (fg_47_1 _)).trans ?_
  refine (sv_iconst jM17 c17_15 rfl (v := 1) (by decide +kernel)).trans ?_
  refine (sv_iadd jM17 c17_16 rfl).trans ?_
  refine (sv_putf jM17 c17_17 rfl lf_7_9 (pf_47_1 _ _)).trans ?_
  exact sv_vret jM17 c17_20 rfl rfl
set_option maxRecDepth 20000 in
set_option maxHeartbeats 4000000 in
theorem Text_isFull_42_in (σ : jm_S) : jc 16 [(.ref 42)] σ = (if (σ 42 1) < (60 : Int32) then some (some (.int (0 : Int32)), σ) else some (some (.int (1 : Int32)), σ)) := by
  refine (jc_of (ls1 := [some (.ref 42)]) ((jm_ini_of jM16).trans rfl)).trans ?_
  refine (sv_aload_n jM16 c16_0 rfl rfl).trans ?_
  refine (sv_getf jM16 c16_1 rfl lf_7_9 (fg_42_1 _)).trans ?_
  refine (sv_aload_n jM16 c16_4 rfl rfl).trans ?_
  refine (sv_getf jM16 c16_5 rfl lf_7_21 (fg_42_0 _)).trans ?_
  refine (sv_alen jM16 c16_8 rfl (ln_43 _) (v := 60) (by decide +kernel)).trans ?_
  refine (sv_icmp_lt jM16 c16_9 rfl (t := 16) (by decide +kernel)).trans ?_
  refine jif _ ?_ ?_
  ·
    refine (sv_iconst jM16 c16_16 rfl (v := 0) (by decide +kernel)).trans ?_
    exact sv_zret jM16 c16_17 rfl rfl (by decide +kernel)
  ·
    refine (sv_iconst jM16 c16_12 rfl (v := 1) (by decide +kernel)).trans ?_
    refine (sv_goto jM16 c16_13 rfl (t := 17) (by decide +kernel)).trans ?_
    exact sv_zret jM16 c16_17 rfl rfl (by decide +kernel)
set_option maxRecDepth 20000 in
set_option maxHeartbeats 4000000 in
theorem Text_isFull_44_in (σ : jm_S) : jc 16 [(.ref 44)] σ = (if (σ 44 1) < (30 : Int32) then some (some (.int (0 : Int32)), σ) else some (some (.int (1 : Int32)), σ)) := by
  refine (jc_of (ls1 := [some (.ref 44)]) ((jm_ini_of jM16).trans rfl)).trans ?_
  refine (sv_aload_n jM16 c16_0 rfl rfl).trans ?_
  refine (sv_getf jM16 c16_1 rfl lf_7_9 (fg_44_1 _)).trans ?_
  refine (sv_aload_n jM16 c16_4 rfl rfl).trans ?_
  refine (sv_getf jM16 c16_5 rfl lf_7_21 (fg_44_0 _)).trans ?_
  refine (sv_alen jM16 c16_8 rfl (ln_45 _) (v := 30) (by decide +kernel)).trans ?_
  refine (sv_icmp_lt jM16 c16_9 rfl (t := 16) (by decide +kernel)).trans ?_
  refine jif _ ?_ ?_
  ·
    refine (sv_iconst jM16 c16_16 rfl (v := 0) (by decide +kernel)).trans ?_
    exact sv_zret jM16 c16_17 rfl rfl (by decide +kernel)
  ·
    refine (sv_iconst jM16 c16_12 rfl (v := 1) (by decide +kernel)).trans ?_
    refine (sv_goto jM16 c16_13 rfl (t := 17) (by decide +kernel)).trans ?_
    exact sv_zret jM16 c16_17 rfl rfl (by decide +kernel)
set_option maxRecDepth 20000 in
set_option maxHeartbeats 4000000 in
theorem Text_add_42_in (x1 : Int32) (σ : jm_S) : jc 17 [(.ref 42), (.int x1)] σ = (if (σ 42 1) < 0 ∨ 60 ≤ (σ 42 1).toNatClampNeg then none else some (none, (jm_up (jm_up σ 43 (σ 42 1).toNatClampNeg x1) 42 1 ((σ 42 1) + (1 : Int32))))) := by
  refine (jc_of (ls1 := [some (.ref 42), some (.int x1)]) ((jm_ini_of jM17).trans rfl)).trans ?_
  refine (sv_aload_n jM17 c17_0 rfl rfl).trans ?_
  refine (sv_getf jM17 c17_1 rfl lf_7_21 (fg_42_0 _)).trans ?_
  refine (sv_aload_n jM17 c17_4 rfl rfl).trans ?_
  refine (sv_getf jM17 c17_5 rfl lf_7_9 (fg_42_1 _)).trans ?_
  refine (sv_iload_n jM17 c17_8 rfl rfl).trans ?_
  refine (sv_iast jM17 c17_9 rfl wi_43).trans ?_
  refine jif _ rfl ?_
  refine (sv_aload_n jM17 c17_10 rfl rfl).trans ?_
  refine (sv_dup jM17 c17_11 rfl rfl).trans ?_
  refine (sv_getf jM17 c17_12 rfl lf_7_9 (fg_42_1 _)).trans ?_
  refine (sv_iconst jM17 c17_15 rfl (v := 1) (by decide +kernel)).trans ?_
  refine (sv_iadd jM17 c17_16 rfl).trans ?_
  refine (sv_putf jM17 c17_17 rfl lf_7_9 (pf_42_1 _ _)).trans ?_
  exact sv_vret jM17 c17_20 rfl rfl
set_option maxRecDepth 20000 in
set_option maxHeartbeats 4000000 in
theorem Text_add_44_in (x1 : Int32) (σ : jm_S) : jc 17 [(.ref 44), (.int x1)] σ = (if (σ 44 1) < 0 ∨ 30 ≤ (σ 44 1).toNatClampNeg then none else some (none, (jm_up (jm_up σ 45 (σ 44 1).toNatClampNeg x1) 44 1 ((σ 44 1) + (1 : Int32))))) := by
  refine (jc_of (ls1 := [some (.ref 44), some (.int x1)]) ((jm_ini_of jM17).trans rfl)).trans ?_
  refine (sv_aload_n jM17 c17_0 rfl rfl).trans ?_
  refine (sv_getf jM17 c17_1 rfl lf_7_21 (fg_44_0 _)).trans ?_
  refine (sv_aload_n jM17 c17_4 rfl rfl).trans ?_
  refine (sv_getf jM17 c17_5 rfl lf_7_9 (fg_44_1 _)).trans ?_
  refine (sv_iload_n jM17 c17_8 rfl rfl).trans ?_
  refine (sv_iast jM17 c17_9 rfl wi_45).trans ?_
  refine jif _ rfl ?_
  refine (sv_aload_n jM17 c17_10 rfl rfl).trans ?_
  refine (sv_dup jM17 c17_11 rfl rfl).trans ?_
  refine (sv_getf jM17 c17_12 rfl lf_7_9 (fg_44_1 _)).trans ?_
  refine (sv_iconst jM17 c17_15 rfl (v := 1) (by decide +kernel)).trans ?_
  refine (sv_iadd jM17 c17_16 rfl).trans ?_
  refine (sv_putf jM17 c17_17 rfl lf_7_9 (pf_44_1 _ _)).trans ?_
  exact sv_vret jM17 c17_20 rfl rfl
set_option maxRecDepth 20000 in
set_option maxHeartbeats 4000000 in
theorem Text_isFull_50_in (σ : jm_S) : jc 16 [(.ref 50)] σ = (if (σ 50 1) < (30 : Int32) then some (some (.int (0 : Int32)), σ) else some (some (.int (1 : Int32)), σ)) := by
  refine (jc_of (ls1 := [some (.ref 50)]) ((jm_ini_of jM16).trans rfl)).trans ?_
  refine (sv_aload_n jM16 c16_0 rfl rfl).trans ?_
  refine (sv_getf jM16 c16_1 rfl lf_7_9 (fg_50_1 _)).trans ?_
  refine (sv_aload_n jM16 c16_4 rfl rfl).trans ?_
  refine (sv_getf jM16 c16_5 rfl lf_7_21 (fg_50_0 _)).trans ?_
  refine (sv_alen jM16 c16_8 rfl (ln_51 _) (v := 30) (by decide +kernel)).trans ?_
  refine (sv_icmp_lt jM16 c16_9 rfl (t := 16) (by decide +kernel)).trans ?_
  refine jif _ ?_ ?_
  ·
    refine (sv_iconst jM16 c16_16 rfl (v := 0) (by decide +kernel)).trans ?_
    exact sv_zret jM16 c16_17 rfl rfl (by decide +kernel)
  ·
    refine (sv_iconst jM16 c16_12 rfl (v := 1) (by decide +kernel)).trans ?_
    refine (sv_goto jM16 c16_13 rfl (t := 17) (by decide +kernel)).trans ?_
    exact sv_zret jM16 c16_17 rfl rfl (by decide +kernel)
set_option maxRecDepth 20000 in
set_option maxHeartbeats 4000000 in
theorem Text_add_50_in (x1 : Int32) (σ : jm_S) : jc 17 [(.ref 50), (.int x1)] σ = (if (σ 50 1) < 0 ∨ 30 ≤ (σ 50 1).toNatClampNeg then none else some (none, (jm_up (jm_up σ 51 (σ 50 1).toNatClampNeg x1) 50 1 ((σ 50 1) + (1 : Int32))))) := by
  refine (jc_of (ls1 := [some (.ref 50), some (.int x1)]) ((jm_ini_of jM17).trans rfl)).trans ?_
  refine (sv_aload_n jM17 c17_0 rfl rfl).trans ?_
  refine (sv_getf jM17 c17_1 rfl lf_7_21 (fg_50_0 _)).trans ?_
  refine (sv_aload_n jM17 c17_4 rfl rfl).trans ?_
  refine (sv_getf jM17 c17_5 rfl lf_7_9 (fg_50_1 _)).trans ?_
  refine (sv_iload_n jM17 c17_8 rfl rfl).trans ?_
  refine (sv_iast jM17 c17_9 rfl wi_51).trans ?_
  refine jif _ rfl ?_
  refine (sv_aload_n jM17 c17_10 rfl rfl).trans ?_
  refine (sv_dup jM17 c17_11 rfl rfl).trans ?_
  refine (sv_getf jM17 c17_12 rfl lf_7_9 (fg_50_1 _)).trans ?_
  refine (sv_iconst jM17 c17_15 rfl (v := 1) (by decide +kernel)).trans ?_
  refine (sv_iadd jM17 c17_16 rfl).trans ?_
  refine (sv_putf jM17 c17_17 rfl lf_7_9 (pf_50_1 _ _)).trans ?_
  exact sv_vret jM17 c17_20 rfl rfl
set_option maxRecDepth 20000 in
set_option maxHeartbeats 4000000 in
theorem Evens_tell_in (x1 : Int32) (σ : jm_S) : jc 67 [(.ref 35), (.int x1)] σ = jbi (jc 68 [(.ref 35)] σ) (fun r1 τ1 => (if ¬ x1 = 0 then (if ¬ x1 = (1 : Int32) then (if r1 < 0 ∨ 100 ≤ r1.toNatClampNeg then none else some (some (.int (τ1 37 r1.toNatClampNeg)), τ1)) else (if r1 < 0 ∨ 100 ≤ r1.toNatClampNeg then none else some (some (.int (τ1 36 r1.toNatClampNeg)), τ1))) else some (some (.int r1), τ1))) := by
  refine (jc_of (ls1 := [some (.ref 35), some (.int x1), none]) ((jm_ini_of jM67).trans rfl)).trans ?_
  refine (sv_aload_n jM67 c67_0 rfl rfl).trans ?_
  refine (sv_callvi (pl := 0) jM67 c67_1 rfl (jm_call_v (a := 35) (as := []) (rest := []) lm_1_18 rfl jM68 rfl rfl rfl rfl rfl) jM68 rfl (Or.inl rfl)).trans ?_
  refine jbi_c (fun r1 τ1 => ?_)
  refine (sv_istore_n (ls1 := [some (.ref 35), some (.int x1), some (.int r1)]) jM67 c67_4 rfl (Nat.lt_of_lt_of_eq (by decide +kernel : 2 < 3) rfl) rfl).trans ?_
  refine (sv_iload_n jM67 c67_5 rfl rfl).trans ?_
  refine (sv_if_ne jM67 c67_6 rfl (t := 11) (by decide +kernel)).trans ?_
  refine jif _ ?_ ?_
  ·
    refine (sv_iload_n jM67 c67_11 rfl rfl).trans ?_
    refine (sv_iconst jM67 c67_12 rfl (v := 1) (by decide +kernel)).trans ?_
    refine (sv_icmp_ne jM67 c67_13 rfl (t := 25) (by decide +kernel)).trans ?_
    refine jif _ ?_ ?_
    ·
      refine (sv_aload_n jM67 c67_25 rfl rfl).trans ?_
      refine (sv_getf jM67 c67_26 rfl lf_1_15 (fg_35_1 _)).trans ?_
      refine (sv_iload_n jM67 c67_29 rfl rfl).trans ?_
      refine (sv_iald jM67 c67_30 rfl (ia_37 _)).trans ?_
      refine jif _ rfl ?_
      exact sv_iret jM67 c67_31 rfl rfl
    ·
      refine (sv_aload_n jM67 c67_16 rfl rfl).trans ?_
      refine (sv_getf jM67 c67_17 rfl lf_1_9 (fg_35_0 _)).trans ?_
      refine (sv_iload_n jM67 c67_20 rfl rfl).trans ?_
      refine (sv_iald jM67 c67_21 rfl (ia_36 _)).trans ?_
      refine jif _ rfl ?_
      refine (sv_goto jM67 c67_22 rfl (t := 31) (by decide +kernel)).trans ?_
      exact sv_iret jM67 c67_31 rfl rfl
  ·
    refine (sv_iload_n jM67 c67_9 rfl rfl).trans ?_
    exact sv_iret jM67 c67_10 rfl rfl
set_option maxRecDepth 20000 in
set_option maxHeartbeats 4000000 in
theorem Evens_frontSize_in (σ : jm_S) : jc 70 [(.ref 35)] σ = jv 70 4 [some (.ref 35), some (.int (0 : Int32)), some (.int (1 : Int32))] [] σ := by
  refine (jc_of (ls1 := [some (.ref 35), none, none]) ((jm_ini_of jM70).trans rfl)).trans ?_
  refine (sv_iconst jM70 c70_0 rfl (v := 0) (by decide +kernel)).trans ?_
  refine (sv_istore_n (ls1 := [some (.ref 35), some (.int (0 : Int32)), none]) jM70 c70_1 rfl (Nat.lt_of_lt_of_eq (by decide +kernel : 1 < 3) rfl) rfl).trans ?_
  refine (sv_iconst jM70 c70_2 rfl (v := 1) (by decide +kernel)).trans ?_
  refine (sv_istore_n (ls1 := [some (.ref 35), some (.int (0 : Int32)), some (.int (1 : Int32))]) jM70 c70_3 rfl (Nat.lt_of_lt_of_eq (by decide +kernel : 2 < 3) rfl) rfl).trans ?_
  rfl
set_option maxRecDepth 20000 in
set_option maxHeartbeats 4000000 in
theorem Evens_frontSize_L4 (x1 : Int32) (x2 : Int32) (σ : jm_S) : jv 70 4 [some (.ref 35), some (.int x1), some (.int x2)] [] σ = (if (99 : Int32) < x2 then some (some (.int x1), σ) else jbi (jc 71 [(.ref 35), (.int x2)] σ) (fun r1 τ1 => (if r1 = 0 then jv 70 4 [some (.ref 35), some (.int (x1 + (0 : Int32))), some (.int (x2 + 1))] [] τ1 else jv 70 4 [some (.ref 35), some (.int (x1 + (1 : Int32))), some (.int (x2 + 1))] [] τ1))) := by
  refine (sv_iload_n jM70 c70_4 rfl rfl).trans ?_
  refine (sv_bipush jM70 c70_5 rfl (v := 99) (by decide +kernel)).trans ?_
  refine (sv_icmp_gt jM70 c70_7 rfl (t := 32) (by decide +kernel)).trans ?_
  refine jif _ ?_ ?_
  ·
    refine (sv_iload_n jM70 c70_32 rfl rfl).trans ?_
    exact sv_iret jM70 c70_33 rfl rfl
  ·
    refine (sv_iload_n jM70 c70_10 rfl rfl).trans ?_
    refine (sv_aload_n jM70 c70_11 rfl rfl).trans ?_
    refine (sv_iload_n jM70 c70_12 rfl rfl).trans ?_
    refine (sv_callvi (pl := 0) jM70 c70_13 rfl (jm_call_v (a := 35) (as := [(.int x2)]) (rest := [(.int x1)]) lm_1_26 rfl jM71 rfl rfl rfl rfl rfl) jM71 rfl (Or.inr rfl)).trans ?_
    refine jbi_c (fun r1 τ1 => ?_)
    refine (sv_if_eq jM70 c70_16 rfl (t := 23) (by decide +kernel)).trans ?_
    refine jif _ ?_ ?_
    ·
      refine (sv_iconst jM70 c70_23 rfl (v := 0) (by decide +kernel)).trans ?_
      refine (sv_iadd jM70 c70_24 rfl).trans ?_
      refine (sv_istore_n (ls1 := [some (.ref 35), some (.int (x1 + (0 : Int32))), some (.int x2)]) jM70 c70_25 rfl (Nat.lt_of_lt_of_eq (by decide +kernel : 1 < 3) rfl) rfl).trans ?_
      refine (sv_iinc (ls1 := [some (.ref 35), some (.int (x1 + (0 : Int32))), some (.int (x2 + 1))]) jM70 c70_26 rfl rfl (v := 1) (by decide +kernel) rfl).trans ?_
      refine (sv_goto jM70 c70_29 rfl (t := 4) (by decide +kernel)).trans ?_
      rfl
    ·
      refine (sv_iconst jM70 c70_19 rfl (v := 1) (by decide +kernel)).trans ?_
      refine (sv_goto jM70 c70_20 rfl (t := 24) (by decide +kernel)).trans ?_
      refine (sv_iadd jM70 c70_24 rfl).trans ?_
      refine (sv_istore_n (ls1 := [some (.ref 35), some (.int (x1 + (1 : Int32))), some (.int x2)]) jM70 c70_25 rfl (Nat.lt_of_lt_of_eq (by decide +kernel : 1 < 3) rfl) rfl).trans ?_
      refine (sv_iinc (ls1 := [some (.ref 35), some (.int (x1 + (1 : Int32))), some (.int (x2 + 1))]) jM70 c70_26 rfl rfl (v := 1) (by decide +kernel) rfl).trans ?_
      refine (sv_goto jM70 c70_29 rfl (t := 4) (by decide +kernel)).trans ?_
      rfl
set_option maxRecDepth 20000 in
set_option maxHeartbeats 4000000 in
theorem Evens_frontHeat_in (x1 : Int32) (σ : jm_S) : jc 73 [(.ref 35), (.int x1)] σ = jv 73 4 [some (.ref 35), some (.int x1), some (.int (0 : Int32)), some (.int (1 : Int32))] [] σ := by
  refine (jc_of (ls1 := [some (.ref 35), some (.int x1), none, none]) ((jm_ini_of jM73).trans rfl)).trans ?_
  refine (sv_iconst jM73 c73_0 rfl (v := 0) (by decide +kernel)).trans ?_
  refine (sv_istore_n (ls1 := [some (.ref 35), some (.int x1), some (.int (0 : Int32)), none]) jM73 c73_1 rfl (Nat.lt_of_lt_of_eq (by decide +kernel : 2 < 4) rfl) rfl).trans ?_
  refine (sv_iconst jM73 c73_2 rfl (v := 1) (by decide +kernel)).trans ?_
  refine (sv_istore_n (ls1 := [some (.ref 35), some (.int x1), some (.int (0 : Int32)), some (.int (1 : Int32))]) jM73 c73_3 rfl (Nat.lt_of_lt_of_eq (by decide +kernel : 3 < 4) rfl) rfl).trans ?_
  rfl
set_option maxRecDepth 20000 in
set_option maxHeartbeats 4000000 in
theorem Evens_frontHeat_L4 (x1 : Int32) (x2 : Int32) (x3 : Int32) (σ : jm_S) : jv 73 4 [some (.ref 35), some (.int x1), some (.int x2), some (.int x3)] [] σ = (if (99 : Int32) < x3 then some (some (.int (-1 : Int32)), σ) else jbi (jc 71 [(.ref 35), (.int x3)] σ) (fun r1 τ1 => (if r1 = 0 then jv 73 4 [some (.ref 35), some (.int x1), some (.int x2), some (.int (x3 + 1))] [] τ1 else (if ¬ x2 = x1 then jv 73 4 [some (.ref 35), some (.int x1), some (.int (x2 + 1)), some (.int (x3 + 1))] [] τ1 else some (some (.int x3), τ1))))) := by
  refine (sv_iload_n jM73 c73_4 rfl rfl).trans ?_
  refine (sv_bipush jM73 c73_5 rfl (v := 99) (by decide +kernel)).trans ?_
  refine (sv_icmp_gt jM73 c73_7 rfl (t := 34) (by decide +kernel)).trans ?_
  refine jif _ ?_ ?_
  ·
    refine (sv_iconst jM73 c73_34 rfl (v := -1) (by decide +kernel)).trans ?_
    exact sv_iret jM73 c73_35 rfl rfl
  ·
    refine (sv_aload_n jM73 c73_10 rfl rfl).trans ?_
    refine (sv_iload_n jM73 c73_11 rfl rfl).trans ?_
    refine (sv_callvi (pl := 0) jM73 c73_12 rfl (jm_call_v (a := 35) (as := [(.int x3)]) (rest := []) lm_1_26 rfl jM71 rfl rfl rfl rfl rfl) jM71 rfl (Or.inr rfl)).trans ?_
    refine jbi_c (fun r1 τ1 => ?_)
    refine (sv_if_eq jM73 c73_15 rfl (t := 28) (by decide +kernel)).trans ?_
    refine jif _ ?_ ?_
    ·
      refine (sv_iinc (ls1 := [some (.ref 35), some (.int x1), some (.int x2), some (.int (x3 + 1))]) jM73 c73_28 rfl rfl (v := 1) (by decide +kernel) rfl).trans ?_
      refine (sv_goto jM73 c73_31 rfl (t := 4) (by decide +kernel)).trans ?_
      rfl
    ·
      refine (sv_iload_n jM73 c73_18 rfl rfl).trans ?_
      refine (sv_iload_n jM73 c73_19 rfl rfl).trans ?_
      refine (sv_icmp_ne jM73 c73_20 rfl (t := 25) (by decide +kernel)).trans ?_
      refine jif _ ?_ ?_
      ·
        refine (sv_iinc (ls1 := [some (.ref 35), some (.int x1), some (.int (x2 + 1)), some (.int x3)]) jM73 c73_25 rfl rfl (v := 1) (by decide +kernel) rfl).trans ?_
        refine (sv_iinc (ls1 := [some (.ref 35), some (.int x1), some (.int (x2 + 1)), some (.int (x3 + 1))]) jM73 c73_28 rfl rfl (v := 1) (by decide +kernel) rfl).trans ?_
        refine (sv_goto jM73 c73_31 rfl (t := 4) (by decide +kernel)).trans ?_
        rfl
      ·
        refine (sv_iload_n jM73 c73_23 rfl rfl).trans ?_
        exact sv_iret jM73 c73_24 rfl rfl
set_option maxRecDepth 20000 in
set_option maxHeartbeats 4000000 in
theorem Hearing_isFull_in (σ : jm_S) : jc 94 [(.ref 38)] σ = (if (σ 38 2) < (12 : Int32) then some (some (.int (0 : Int32)), σ) else some (some (.int (1 : Int32)), σ)) := by
  refine (jc_of (ls1 := [some (.ref 38)]) ((jm_ini_of jM94).trans rfl)).trans ?_
  refine (sv_aload_n jM94 c94_0 rfl rfl).trans ?_
  refine (sv_getf jM94 c94_1 rfl lf_3_18 (fg_38_2 _)).trans ?_
  refine (sv_bipush jM94 c94_4 rfl (v := 12) (by decide +kernel)).trans ?_
  refine (sv_icmp_lt jM94 c94_6 rfl (t := 13) (by decide +kernel)).trans ?_
  refine jif _ ?_ ?_
  ·
    refine (sv_iconst jM94 c94_13 rfl (v := 0) (by decide +kernel)).trans ?_
    exact sv_zret jM94 c94_14 rfl rfl (by decide +kernel)
  ·
    refine (sv_iconst jM94 c94_9 rfl (v := 1) (by decide +kernel)).trans ?_
    refine (sv_goto jM94 c94_10 rfl (t := 14) (by decide +kernel)).trans ?_
    exact sv_zret jM94 c94_14 rfl rfl (by decide +kernel)
set_option maxRecDepth 20000 in
set_option maxHeartbeats 4000000 in
theorem Hearing_add_in (x1 : Int32) (x2 : Int32) (σ : jm_S) : jc 95 [(.ref 38), (.int x1), (.int x2)] σ = (if (σ 38 2) < 0 ∨ 12 ≤ (σ 38 2).toNatClampNeg then none else (if (σ 38 2) < 0 ∨ 12 ≤ (σ 38 2).toNatClampNeg then none else some (none, (jm_up (jm_up (jm_up σ 39 (σ 38 2).toNatClampNeg x1) 40 (σ 38 2).toNatClampNeg x2) 38 2 ((σ 38 2) + (1 : Int32)))))) := by
  refine (jc_of (ls1 := [some (.ref 38), some (.int x1), some (.int x2)]) ((jm_ini_of jM95).trans rfl)).trans ?_
  refine (sv_aload_n jM95 c95_0 rfl rfl).trans ?_
  refine (sv_getf jM95 c95_1 rfl lf_3_9 (fg_38_0 _)).trans ?_
  refine (sv_aload_n jM95 c95_4 rfl rfl).trans ?_
  refine (sv_getf jM95 c95_5 rfl lf_3_18 (fg_38_2 _)).trans ?_
  refine (sv_iload_n jM95 c95_8 rfl rfl).trans ?_
  refine (sv_iast jM95 c95_9 rfl wi_39).trans ?_
  refine jif _ rfl ?_
  refine (sv_aload_n jM95 c95_10 rfl rfl).trans ?_
  refine (sv_getf jM95 c95_11 rfl lf_3_15 (fg_38_1 _)).trans ?_
  refine (sv_aload_n jM95 c95_14 rfl rfl).trans ?_
  refine (sv_getf jM95 c95_15 rfl lf_3_18 (fg_38_2 _)).trans ?_
  refine (sv_iload_n jM95 c95_18 rfl rfl).trans ?_
  refine (sv_iast jM95 c95_19 rfl wi_40).trans ?_
  refine jif _ rfl ?_
  refine (sv_aload_n jM95 c95_20 rfl rfl).trans ?_
  refine (sv_dup jM95 c95_21 rfl rfl).trans ?_
  refine (sv_getf jM95 c95_22 rfl lf_3_18 (fg_38_2 _)).trans ?_
  refine (sv_iconst jM95 c95_25 rfl (v := 1) (by decide +kernel)).trans ?_
  refine (sv_iadd jM95 c95_26 rfl).trans ?_
  refine (sv_putf jM95 c95_27 rfl lf_3_18 (pf_38_2 _ _)).trans ?_
  exact sv_vret jM95 c95_30 rfl rfl
set_option maxRecDepth 20000 in
set_option maxHeartbeats 4000000 in
theorem Hearing_tell_in (x1 : Int32) (σ : jm_S) : jc 101 [(.ref 38), (.int x1)] σ = jv 101 1 [some (.ref 38), some (.int x1)] [(.int x1)] σ := by
  refine (jc_of (ls1 := [some (.ref 38), some (.int x1)]) ((jm_ini_of jM101).trans rfl)).trans ?_
  refine (sv_iload_n jM101 c101_0 rfl rfl).trans ?_
  rfl
set_option maxRecDepth 20000 in
set_option maxHeartbeats 4000000 in
theorem Hearing_tell_S1_0 (x1 : Int32) (σ : jm_S) : jv 101 1 [some (.ref 38), some (.int x1)] [(.int (0 : Int32))] σ = some (some (.int (σ 38 3)), σ) := by
  refine (sv_ts jM101 c101_1 rfl (by decide +kernel) (z := 31) (by decide +kernel) (t := 32) (by decide +kernel)).trans ?_
  refine (sv_aload_n jM101 c101_32 rfl rfl).trans ?_
  refine (sv_getf jM101 c101_33 rfl lf_3_22 (fg_38_3 _)).trans ?_
  exact sv_iret jM101 c101_36 rfl rfl
set_option maxRecDepth 20000 in
set_option maxHeartbeats 4000000 in
theorem Hearing_tell_S1_1 (x1 : Int32) (σ : jm_S) : jv 101 1 [some (.ref 38), some (.int x1)] [(.int (1 : Int32))] σ = some (some (.int (σ 38 4)), σ) := by
  refine (sv_ts jM101 c101_1 rfl (by decide +kernel) (z := 36) (by decide +kernel) (t := 37) (by decide +kernel)).trans ?_
  refine (sv_aload_n jM101 c101_37 rfl rfl).trans ?_
  refine (sv_getf jM101 c101_38 rfl lf_3_25 (fg_38_4 _)).trans ?_
  exact sv_iret jM101 c101_41 rfl rfl
set_option maxRecDepth 20000 in
set_option maxHeartbeats 4000000 in
theorem Hearing_tell_S1_2 (x1 : Int32) (σ : jm_S) : jv 101 1 [some (.ref 38), some (.int x1)] [(.int (2 : Int32))] σ = some (some (.int (σ 38 5)), σ) := by
  refine (sv_ts jM101 c101_1 rfl (by decide +kernel) (z := 41) (by decide +kernel) (t := 42) (by decide +kernel)).trans ?_
  refine (sv_aload_n jM101 c101_42 rfl rfl).trans ?_
  refine (sv_getf jM101 c101_43 rfl lf_3_28 (fg_38_5 _)).trans ?_
  exact sv_iret jM101 c101_46 rfl rfl
set_option maxRecDepth 20000 in
set_option maxHeartbeats 4000000 in
theorem Hearing_tell_S1_3 (x1 : Int32) (σ : jm_S) : jv 101 1 [some (.ref 38), some (.int x1)] [(.int (3 : Int32))] σ = some (some (.int (σ 38 6)), σ) := by
  refine (sv_ts jM101 c101_1 rfl (by decide +kernel) (z := 46) (by decide +kernel) (t := 47) (by decide +kernel)).trans ?_
  refine (sv_aload_n jM101 c101_47 rfl rfl).trans ?_
  refine (sv_getf jM101 c101_48 rfl lf_3_31 (fg_38_6 _)).trans ?_
  exact sv_iret jM101 c101_51 rfl rfl
set_option maxRecDepth 20000 in
set_option maxHeartbeats 4000000 in
theorem Hearing_tell_S1_o (x1 : Int32) (y0 : Int32) (σ : jm_S) (hx : y0.toInt < 0 ∨ 3 < y0.toInt) : jv 101 1 [some (.ref 38), some (.int x1)] [(.int y0)] σ = some (some (.int (σ 38 7)), σ) := by
  refine (sv_tso jM101 c101_1 rfl (t := 52) (by decide +kernel) hx).trans ?_
  refine (sv_aload_n jM101 c101_52 rfl rfl).trans ?_
  refine (sv_getf jM101 c101_53 rfl lf_3_34 (fg_38_7 _)).trans ?_
  exact sv_iret jM101 c101_56 rfl rfl
set_option maxRecDepth 20000 in
set_option maxHeartbeats 4000000 in
theorem Sheet_renew_55_in (x1 : Int32) (x2 : Int32) (σ : jm_S) : jc 103 [(.ref 55), (.int x1), (.int x2)] σ = jbv (jc 21 [(.ref 56), (.int (0 : Int32))] (jm_up (jm_up σ 55 1 x1) 55 2 x2)) (fun τ1 => some (none, τ1)) := by
  refine (jc_of (ls1 := [some (.ref 55), some (.int x1), some (.int x2)]) ((jm_ini_of jM103).trans rfl)).trans ?_
  refine (sv_aload_n jM103 c103_0 rfl rfl).trans ?_
  refine (sv_iload_n jM103 c103_1 rfl rfl).trans ?_
  refine (sv_putf jM103 c103_2 rfl lf_6_15 (pf_55_1 _ _)).trans ?_
  refine (sv_aload_n jM103 c103_5 rfl rfl).trans ?_
  refine (sv_iload_n jM103 c103_6 rfl rfl).trans ?_
  refine (sv_putf jM103 c103_7 rfl lf_6_19 (pf_55_2 _ _)).trans ?_
  refine (sv_aload_n jM103 c103_10 rfl rfl).trans ?_
  refine (sv_getf jM103 c103_11 rfl lf_6_9 (fg_55_0 _)).trans ?_
  refine (sv_iconst jM103 c103_14 rfl (v := 0) (by decide +kernel)).trans ?_
  refine (sv_callsv (pl := 0) jM103 c103_15 rfl (jm_call_s (as := [(.ref 56), (.int (0 : Int32))]) (rest := []) lm_6_22 rfl jM21 rfl rfl rfl rfl) jM21 rfl rfl).trans ?_
  refine jbv_c (fun τ1 => ?_)
  exact sv_vret jM103 c103_18 rfl rfl
set_option maxRecDepth 20000 in
set_option maxHeartbeats 4000000 in
theorem Sheet_renew_53_in (x1 : Int32) (x2 : Int32) (σ : jm_S) : jc 103 [(.ref 53), (.int x1), (.int x2)] σ = jbv (jc 21 [(.ref 54), (.int (0 : Int32))] (jm_up (jm_up σ 53 1 x1) 53 2 x2)) (fun τ1 => some (none, τ1)) := by
  refine (jc_of (ls1 := [some (.ref 53), some (.int x1), some (.int x2)]) ((jm_ini_of jM103).trans rfl)).trans ?_
  refine (sv_aload_n jM103 c103_0 rfl rfl).trans ?_
  refine (sv_iload_n jM103 c103_1 rfl rfl).trans ?_
  refine (sv_putf jM103 c103_2 rfl lf_6_15 (pf_53_1 _ _)).trans ?_
  refine (sv_aload_n jM103 c103_5 rfl rfl).trans ?_
  refine (sv_iload_n jM103 c103_6 rfl rfl).trans ?_
  refine (sv_putf jM103 c103_7 rfl lf_6_19 (pf_53_2 _ _)).trans ?_
  refine (sv_aload_n jM103 c103_10 rfl rfl).trans ?_
  refine (sv_getf jM103 c103_11 rfl lf_6_9 (fg_53_0 _)).trans ?_
  refine (sv_iconst jM103 c103_14 rfl (v := 0) (by decide +kernel)).trans ?_
  refine (sv_callsv (pl := 0) jM103 c103_15 rfl (jm_call_s (as := [(.ref 54), (.int (0 : Int32))]) (rest := []) lm_6_22 rfl jM21 rfl rfl rfl rfl) jM21 rfl rfl).trans ?_
  refine jbv_c (fun τ1 => ?_)
  exact sv_vret jM103 c103_18 rfl rfl
set_option maxRecDepth 20000 in
set_option maxHeartbeats 4000000 in
theorem Sheet_renew_59_in (x1 : Int32) (x2 : Int32) (σ : jm_S) : jc 103 [(.ref 59), (.int x1), (.int x2)] σ = jbv (jc 21 [(.ref 60), (.int (0 : Int32))] (jm_up (jm_up σ 59 1 x1) 59 2 x2)) (fun τ1 => some (none, τ1)) := by
  refine (jc_of (ls1 := [some (.ref 59), some (.int x1), some (.int x2)]) ((jm_ini_of jM103).trans rfl)).trans ?_
  refine (sv_aload_n jM103 c103_0 rfl rfl).trans ?_
  refine (sv_iload_n jM103 c103_1 rfl rfl).trans ?_
  refine (sv_putf jM103 c103_2 rfl lf_6_15 (pf_59_1 _ _)).trans ?_
  refine (sv_aload_n jM103 c103_5 rfl rfl).trans ?_
  refine (sv_iload_n jM103 c103_6 rfl rfl).trans ?_
  refine (sv_putf jM103 c103_7 rfl lf_6_19 (pf_59_2 _ _)).trans ?_
  refine (sv_aload_n jM103 c103_10 rfl rfl).trans ?_
  refine (sv_getf jM103 c103_11 rfl lf_6_9 (fg_59_0 _)).trans ?_
  refine (sv_iconst jM103 c103_14 rfl (v := 0) (by decide +kernel)).trans ?_
  refine (sv_callsv (pl := 0) jM103 c103_15 rfl (jm_call_s (as := [(.ref 60), (.int (0 : Int32))]) (rest := []) lm_6_22 rfl jM21 rfl rfl rfl rfl) jM21 rfl rfl).trans ?_
  refine jbv_c (fun τ1 => ?_)
  exact sv_vret jM103 c103_18 rfl rfl
set_option maxRecDepth 20000 in
set_option maxHeartbeats 4000000 in
theorem Sheet_renew_57_in (x1 : Int32) (x2 : Int32) (σ : jm_S) : jc 103 [(.ref 57), (.int x1), (.int x2)] σ = jbv (jc 21 [(.ref 58), (.int (0 : Int32))] (jm_up (jm_up σ 57 1 x1) 57 2 x2)) (fun τ1 => some (none, τ1)) := by
  refine (jc_of (ls1 := [some (.ref 57), some (.int x1), some (.int x2)]) ((jm_ini_of jM103).trans rfl)).trans ?_
  refine (sv_aload_n jM103 c103_0 rfl rfl).trans ?_
  refine (sv_iload_n jM103 c103_1 rfl rfl).trans ?_
  refine (sv_putf jM103 c103_2 rfl lf_6_15 (pf_57_1 _ _)).trans ?_
  refine (sv_aload_n jM103 c103_5 rfl rfl).trans ?_
  refine (sv_iload_n jM103 c103_6 rfl rfl).trans ?_
  refine (sv_putf jM103 c103_7 rfl lf_6_19 (pf_57_2 _ _)).trans ?_
  refine (sv_aload_n jM103 c103_10 rfl rfl).trans ?_
  refine (sv_getf jM103 c103_11 rfl lf_6_9 (fg_57_0 _)).trans ?_
  refine (sv_iconst jM103 c103_14 rfl (v := 0) (by decide +kernel)).trans ?_
  refine (sv_callsv (pl := 0) jM103 c103_15 rfl (jm_call_s (as := [(.ref 58), (.int (0 : Int32))]) (rest := []) lm_6_22 rfl jM21 rfl rfl rfl rfl) jM21 rfl rfl).trans ?_
  refine jbv_c (fun τ1 => ?_)
  exact sv_vret jM103 c103_18 rfl rfl
set_option maxRecDepth 20000 in
set_option maxHeartbeats 4000000 in
theorem Sheet_put_57_in (x1 : Int32) (x2 : Int32) (σ : jm_S) : jc 107 [(.ref 57), (.int x1), (.int x2)] σ = (if ¬ (σ 57 1) = 0 then (if ¬ (σ 57 1) = (1 : Int32) then (if x1 < 0 ∨ 60 ≤ x1.toNatClampNeg then none else some (none, (jm_up σ 58 x1.toNatClampNeg x2))) else (if x1 < 0 ∨ 60 ≤ x1.toNatClampNeg then none else some (none, (jm_up σ 58 x1.toNatClampNeg x2.toInt16.toInt32)))) else (if x1 < 0 ∨ 60 ≤ x1.toNatClampNeg then none else some (none, (jm_up σ 58 x1.toNatClampNeg x2.toInt8.toInt32)))) := by
  refine (jc_of (ls1 := [some (.ref 57), some (.int x1), some (.int x2)]) ((jm_ini_of jM107).trans rfl)).trans ?_
  refine (sv_aload_n jM107 c107_0 rfl rfl).trans ?_
  refine (sv_getf jM107 c107_1 rfl lf_6_9 (fg_57_0 _)).trans ?_
  refine (sv_iload_n jM107 c107_4 rfl rfl).trans ?_
  refine (sv_aload_n jM107 c107_5 rfl rfl).trans ?_
  refine (sv_getf jM107 c107_6 rfl lf_6_15 (fg_57_1 _)).trans ?_
  refine (sv_if_ne jM107 c107_9 rfl (t := 17) (by decide +kernel)).trans ?_
  refine jif _ ?_ ?_
  ·
    refine (sv_aload_n jM107 c107_17 rfl rfl).trans ?_
    refine (sv_getf jM107 c107_18 rfl lf_6_15 (fg_57_1 _)).trans ?_
    refine (sv_iconst jM107 c107_21 rfl (v := 1) (by decide +kernel)).trans ?_
    refine (sv_icmp_ne jM107 c107_22 rfl (t := 30) (by decide +kernel)).trans ?_
    refine jif _ ?_ ?_
    ·
      refine (sv_iload_n jM107 c107_30 rfl rfl).trans ?_
      refine (sv_iast jM107 c107_31 rfl wi_58).trans ?_
      refine jif _ rfl ?_
      exact sv_vret jM107 c107_32 rfl rfl
    ·
      refine (sv_iload_n jM107 c107_25 rfl rfl).trans ?_
      refine (sv_i2s jM107 c107_26 rfl).trans ?_
      refine (sv_goto jM107 c107_27 rfl (t := 31) (by decide +kernel)).trans ?_
      refine (sv_iast jM107 c107_31 rfl wi_58).trans ?_
      refine jif _ rfl ?_
      exact sv_vret jM107 c107_32 rfl rfl
  ·
    refine (sv_iload_n jM107 c107_12 rfl rfl).trans ?_
    refine (sv_i2b jM107 c107_13 rfl).trans ?_
    refine (sv_goto jM107 c107_14 rfl (t := 31) (by decide +kernel)).trans ?_
    refine (sv_iast jM107 c107_31 rfl wi_58).trans ?_
    refine jif _ rfl ?_
    exact sv_vret jM107 c107_32 rfl rfl
set_option maxRecDepth 20000 in
set_option maxHeartbeats 4000000 in
theorem Sheet_objection_53_in (x1 : Int32) (x2 : Int32) (σ : jm_S) : jc 106 [(.ref 53), (.int x1), (.int x2)] σ = jbi (jc 8 [(.ref 53)] σ) (fun r1 τ1 => (if r1 = 0 then (if (τ1 53 1) = x1 then (if x2 < 0 then some (some (.int (2 : Int32)), τ1) else (if x2 < (τ1 53 2) then some (some (.int (0 : Int32)), τ1) else some (some (.int (2 : Int32)), τ1))) else some (some (.int (3 : Int32)), τ1)) else some (some (.int (1 : Int32)), τ1))) := by
  refine (jc_of (ls1 := [some (.ref 53), some (.int x1), some (.int x2)]) ((jm_ini_of jM106).trans rfl)).trans ?_
  refine (sv_aload_n jM106 c106_0 rfl rfl).trans ?_
  refine (sv_callvi (pl := 0) jM106 c106_1 rfl (jm_call_v (a := 53) (as := []) (rest := []) lm_6_28 rfl jM8 rfl rfl rfl rfl rfl) jM8 rfl (Or.inr rfl)).trans ?_
  refine jbi_c (fun r1 τ1 => ?_)
  refine (sv_if_eq jM106 c106_4 rfl (t := 9) (by decide +kernel)).trans ?_
  refine jif _ ?_ ?_
  ·
    refine (sv_aload_n jM106 c106_9 rfl rfl).trans ?_
    refine (sv_getf jM106 c106_10 rfl lf_6_15 (fg_53_1 _)).trans ?_
    refine (sv_iload_n jM106 c106_13 rfl rfl).trans ?_
    refine (sv_icmp_eq jM106 c106_14 rfl (t := 19) (by decide +kernel)).trans ?_
    refine jif _ ?_ ?_
    ·
      refine (sv_iload_n jM106 c106_19 rfl rfl).trans ?_
      refine (sv_if_lt jM106 c106_20 rfl (t := 31) (by decide +kernel)).trans ?_
      refine jif _ ?_ ?_
      ·
        refine (sv_iconst jM106 c106_31 rfl (v := 2) (by decide +kernel)).trans ?_
        refine (sv_goto jM106 c106_32 rfl (t := 36) (by decide +kernel)).trans ?_
        exact sv_iret jM106 c106_36 rfl rfl
      ·
        refine (sv_iload_n jM106 c106_23 rfl rfl).trans ?_
        refine (sv_aload_n jM106 c106_24 rfl rfl).trans ?_
        refine (sv_getf jM106 c106_25 rfl lf_6_19 (fg_53_2 _)).trans ?_
        refine (sv_icmp_lt jM106 c106_28 rfl (t := 35) (by decide +kernel)).trans ?_
        refine jif _ ?_ ?_
        ·
          refine (sv_iconst jM106 c106_35 rfl (v := 0) (by decide +kernel)).trans ?_
          exact sv_iret jM106 c106_36 rfl rfl
        ·
          refine (sv_iconst jM106 c106_31 rfl (v := 2) (by decide +kernel)).trans ?_
          refine (sv_goto jM106 c106_32 rfl (t := 36) (by decide +kernel)).trans ?_
          exact sv_iret jM106 c106_36 rfl rfl
    ·
      refine (sv_iconst jM106 c106_17 rfl (v := 3) (by decide +kernel)).trans ?_
      exact sv_iret jM106 c106_18 rfl rfl
  ·
    refine (sv_iconst jM106 c106_7 rfl (v := 1) (by decide +kernel)).trans ?_
    exact sv_iret jM106 c106_8 rfl rfl
set_option maxRecDepth 20000 in
set_option maxHeartbeats 4000000 in
theorem Sheet_put_53_in (x1 : Int32) (x2 : Int32) (σ : jm_S) : jc 107 [(.ref 53), (.int x1), (.int x2)] σ = (if ¬ (σ 53 1) = 0 then (if ¬ (σ 53 1) = (1 : Int32) then (if x1 < 0 ∨ 60 ≤ x1.toNatClampNeg then none else some (none, (jm_up σ 54 x1.toNatClampNeg x2))) else (if x1 < 0 ∨ 60 ≤ x1.toNatClampNeg then none else some (none, (jm_up σ 54 x1.toNatClampNeg x2.toInt16.toInt32)))) else (if x1 < 0 ∨ 60 ≤ x1.toNatClampNeg then none else some (none, (jm_up σ 54 x1.toNatClampNeg x2.toInt8.toInt32)))) := by
  refine (jc_of (ls1 := [some (.ref 53), some (.int x1), some (.int x2)]) ((jm_ini_of jM107).trans rfl)).trans ?_
  refine (sv_aload_n jM107 c107_0 rfl rfl).trans ?_
  refine (sv_getf jM107 c107_1 rfl lf_6_9 (fg_53_0 _)).trans ?_
  refine (sv_iload_n jM107 c107_4 rfl rfl).trans ?_
  refine (sv_aload_n jM107 c107_5 rfl rfl).trans ?_
  refine (sv_getf jM107 c107_6 rfl lf_6_15 (fg_53_1 _)).trans ?_
  refine (sv_if_ne jM107 c107_9 rfl (t := 17) (by decide +kernel)).trans ?_
  refine jif _ ?_ ?_
  ·
    refine (sv_aload_n jM107 c107_17 rfl rfl).trans ?_
    refine (sv_getf jM107 c107_18 rfl lf_6_15 (fg_53_1 _)).trans ?_
    refine (sv_iconst jM107 c107_21 rfl (v := 1) (by decide +kernel)).trans ?_
    refine (sv_icmp_ne jM107 c107_22 rfl (t := 30) (by decide +kernel)).trans ?_
    refine jif _ ?_ ?_
    ·
      refine (sv_iload_n jM107 c107_30 rfl rfl).trans ?_
      refine (sv_iast jM107 c107_31 rfl wi_54).trans ?_
      refine jif _ rfl ?_
      exact sv_vret jM107 c107_32 rfl rfl
    ·
      refine (sv_iload_n jM107 c107_25 rfl rfl).trans ?_
      refine (sv_i2s jM107 c107_26 rfl).trans ?_
      refine (sv_goto jM107 c107_27 rfl (t := 31) (by decide +kernel)).trans ?_
      refine (sv_iast jM107 c107_31 rfl wi_54).trans ?_
      refine jif _ rfl ?_
      exact sv_vret jM107 c107_32 rfl rfl
  ·
    refine (sv_iload_n jM107 c107_12 rfl rfl).trans ?_
    refine (sv_i2b jM107 c107_13 rfl).trans ?_
    refine (sv_goto jM107 c107_14 rfl (t := 31) (by decide +kernel)).trans ?_
    refine (sv_iast jM107 c107_31 rfl wi_54).trans ?_
    refine jif _ rfl ?_
    exact sv_vret jM107 c107_32 rfl rfl
set_option maxRecDepth 20000 in
set_option maxHeartbeats 4000000 in
theorem Sheet_put_59_in (x1 : Int32) (x2 : Int32) (σ : jm_S) : jc 107 [(.ref 59), (.int x1), (.int x2)] σ = (if ¬ (σ 59 1) = 0 then (if ¬ (σ 59 1) = (1 : Int32) then (if x1 < 0 ∨ 60 ≤ x1.toNatClampNeg then none else some (none, (jm_up σ 60 x1.toNatClampNeg x2))) else (if x1 < 0 ∨ 60 ≤ x1.toNatClampNeg then none else some (none, (jm_up σ 60 x1.toNatClampNeg x2.toInt16.toInt32)))) else (if x1 < 0 ∨ 60 ≤ x1.toNatClampNeg then none else some (none, (jm_up σ 60 x1.toNatClampNeg x2.toInt8.toInt32)))) := by
  refine (jc_of (ls1 := [some (.ref 59), some (.int x1), some (.int x2)]) ((jm_ini_of jM107).trans rfl)).trans ?_
  refine (sv_aload_n jM107 c107_0 rfl rfl).trans ?_
  refine (sv_getf jM107 c107_1 rfl lf_6_9 (fg_59_0 _)).trans ?_
  refine (sv_iload_n jM107 c107_4 rfl rfl).trans ?_
  refine (sv_aload_n jM107 c107_5 rfl rfl).trans ?_
  refine (sv_getf jM107 c107_6 rfl lf_6_15 (fg_59_1 _)).trans ?_
  refine (sv_if_ne jM107 c107_9 rfl (t := 17) (by decide +kernel)).trans ?_
  refine jif _ ?_ ?_
  ·
    refine (sv_aload_n jM107 c107_17 rfl rfl).trans ?_
    refine (sv_getf jM107 c107_18 rfl lf_6_15 (fg_59_1 _)).trans ?_
    refine (sv_iconst jM107 c107_21 rfl (v := 1) (by decide +kernel)).trans ?_
    refine (sv_icmp_ne jM107 c107_22 rfl (t := 30) (by decide +kernel)).trans ?_
    refine jif _ ?_ ?_
    ·
      refine (sv_iload_n jM107 c107_30 rfl rfl).trans ?_
      refine (sv_iast jM107 c107_31 rfl wi_60).trans ?_
      refine jif _ rfl ?_
      exact sv_vret jM107 c107_32 rfl rfl
    ·
      refine (sv_iload_n jM107 c107_25 rfl rfl).trans ?_
      refine (sv_i2s jM107 c107_26 rfl).trans ?_
      refine (sv_goto jM107 c107_27 rfl (t := 31) (by decide +kernel)).trans ?_
      refine (sv_iast jM107 c107_31 rfl wi_60).trans ?_
      refine jif _ rfl ?_
      exact sv_vret jM107 c107_32 rfl rfl
  ·
    refine (sv_iload_n jM107 c107_12 rfl rfl).trans ?_
    refine (sv_i2b jM107 c107_13 rfl).trans ?_
    refine (sv_goto jM107 c107_14 rfl (t := 31) (by decide +kernel)).trans ?_
    refine (sv_iast jM107 c107_31 rfl wi_60).trans ?_
    refine jif _ rfl ?_
    exact sv_vret jM107 c107_32 rfl rfl
set_option maxRecDepth 20000 in
set_option maxHeartbeats 4000000 in
theorem Sheet_objection_57_in (x1 : Int32) (x2 : Int32) (σ : jm_S) : jc 106 [(.ref 57), (.int x1), (.int x2)] σ = jbi (jc 8 [(.ref 57)] σ) (fun r1 τ1 => (if r1 = 0 then (if (τ1 57 1) = x1 then (if x2 < 0 then some (some (.int (2 : Int32)), τ1) else (if x2 < (τ1 57 2) then some (some (.int (0 : Int32)), τ1) else some (some (.int (2 : Int32)), τ1))) else some (some (.int (3 : Int32)), τ1)) else some (some (.int (1 : Int32)), τ1))) := by
  refine (jc_of (ls1 := [some (.ref 57), some (.int x1), some (.int x2)]) ((jm_ini_of jM106).trans rfl)).trans ?_
  refine (sv_aload_n jM106 c106_0 rfl rfl).trans ?_
  refine (sv_callvi (pl := 0) jM106 c106_1 rfl (jm_call_v (a := 57) (as := []) (rest := []) lm_6_28 rfl jM8 rfl rfl rfl rfl rfl) jM8 rfl (Or.inr rfl)).trans ?_
  refine jbi_c (fun r1 τ1 => ?_)
  refine (sv_if_eq jM106 c106_4 rfl (t := 9) (by decide +kernel)).trans ?_
  refine jif _ ?_ ?_
  ·
    refine (sv_aload_n jM106 c106_9 rfl rfl).trans ?_
    refine (sv_getf jM106 c106_10 rfl lf_6_15 (fg_57_1 _)).trans ?_
    refine (sv_iload_n jM106 c106_13 rfl rfl).trans ?_
    refine (sv_icmp_eq jM106 c106_14 rfl (t := 19) (by decide +kernel)).trans ?_
    refine jif _ ?_ ?_
    ·
      refine (sv_iload_n jM106 c106_19 rfl rfl).trans ?_
      refine (sv_if_lt jM106 c106_20 rfl (t := 31) (by decide +kernel)).trans ?_
      refine jif _ ?_ ?_
      ·
        refine (sv_iconst jM106 c106_31 rfl (v := 2) (by decide +kernel)).trans ?_
        refine (sv_goto jM106 c106_32 rfl (t := 36) (by decide +kernel)).trans ?_
        exact sv_iret jM106 c106_36 rfl rfl
      ·
        refine (sv_iload_n jM106 c106_23 rfl rfl).trans ?_
        refine (sv_aload_n jM106 c106_24 rfl rfl).trans ?_
        refine (sv_getf jM106 c106_25 rfl lf_6_19 (fg_57_2 _)).trans ?_
        refine (sv_icmp_lt jM106 c106_28 rfl (t := 35) (by decide +kernel)).trans ?_
        refine jif _ ?_ ?_
        ·
          refine (sv_iconst jM106 c106_35 rfl (v := 0) (by decide +kernel)).trans ?_
          exact sv_iret jM106 c106_36 rfl rfl
        ·
          refine (sv_iconst jM106 c106_31 rfl (v := 2) (by decide +kernel)).trans ?_
          refine (sv_goto jM106 c106_32 rfl (t := 36) (by decide +kernel)).trans ?_
          exact sv_iret jM106 c106_36 rfl rfl
    ·
      refine (sv_iconst jM106 c106_17 rfl (v := 3) (by decide +kernel)).trans ?_
      exact sv_iret jM106 c106_18 rfl rfl
  ·
    refine (sv_iconst jM106 c106_7 rfl (v := 1) (by decide +kernel)).trans ?_
    exact sv_iret jM106 c106_8 rfl rfl
set_option maxRecDepth 20000 in
set_option maxHeartbeats 4000000 in
theorem Sheet_objection_59_in (x1 : Int32) (x2 : Int32) (σ : jm_S) : jc 106 [(.ref 59), (.int x1), (.int x2)] σ = jbi (jc 8 [(.ref 59)] σ) (fun r1 τ1 => (if r1 = 0 then (if (τ1 59 1) = x1 then (if x2 < 0 then some (some (.int (2 : Int32)), τ1) else (if x2 < (τ1 59 2) then some (some (.int (0 : Int32)), τ1) else some (some (.int (2 : Int32)), τ1))) else some (some (.int (3 : Int32)), τ1)) else some (some (.int (1 : Int32)), τ1))) := by
  refine (jc_of (ls1 := [some (.ref 59), some (.int x1), some (.int x2)]) ((jm_ini_of jM106).trans rfl)).trans ?_
  refine (sv_aload_n jM106 c106_0 rfl rfl).trans ?_
  refine (sv_callvi (pl := 0) jM106 c106_1 rfl (jm_call_v (a := 59) (as := []) (rest := []) lm_6_28 rfl jM8 rfl rfl rfl rfl rfl) jM8 rfl (Or.inr rfl)).trans ?_
  refine jbi_c (fun r1 τ1 => ?_)
  refine (sv_if_eq jM106 c106_4 rfl (t := 9) (by decide +kernel)).trans ?_
  refine jif _ ?_ ?_
  ·
    refine (sv_aload_n jM106 c106_9 rfl rfl).trans ?_
    refine (sv_getf jM106 c106_10 rfl lf_6_15 (fg_59_1 _)).trans ?_
    refine (sv_iload_n jM106 c106_13 rfl rfl).trans ?_
    refine (sv_icmp_eq jM106 c106_14 rfl (t := 19) (by decide +kernel)).trans ?_
    refine jif _ ?_ ?_
    ·
      refine (sv_iload_n jM106 c106_19 rfl rfl).trans ?_
      refine (sv_if_lt jM106 c106_20 rfl (t := 31) (by decide +kernel)).trans ?_
      refine jif _ ?_ ?_
      ·
        refine (sv_iconst jM106 c106_31 rfl (v := 2) (by decide +kernel)).trans ?_
        refine (sv_goto jM106 c106_32 rfl (t := 36) (by decide +kernel)).trans ?_
        exact sv_iret jM106 c106_36 rfl rfl
      ·
        refine (sv_iload_n jM106 c106_23 rfl rfl).trans ?_
        refine (sv_aload_n jM106 c106_24 rfl rfl).trans ?_
        refine (sv_getf jM106 c106_25 rfl lf_6_19 (fg_59_2 _)).trans ?_
        refine (sv_icmp_lt jM106 c106_28 rfl (t := 35) (by decide +kernel)).trans ?_
        refine jif _ ?_ ?_
        ·
          refine (sv_iconst jM106 c106_35 rfl (v := 0) (by decide +kernel)).trans ?_
          exact sv_iret jM106 c106_36 rfl rfl
        ·
          refine (sv_iconst jM106 c106_31 rfl (v := 2) (by decide +kernel)).trans ?_
          refine (sv_goto jM106 c106_32 rfl (t := 36) (by decide +kernel)).trans ?_
          exact sv_iret jM106 c106_36 rfl rfl
    ·
      refine (sv_iconst jM106 c106_17 rfl (v := 3) (by decide +kernel)).trans ?_
      exact sv_iret jM106 c106_18 rfl rfl
  ·
    refine (sv_iconst jM106 c106_7 rfl (v := 1) (by decide +kernel)).trans ?_
    exact sv_iret jM106 c106_8 rfl rfl
set_option maxRecDepth 20000 in
set_option maxHeartbeats 4000000 in
theorem Sheet_objection_55_in (x1 : Int32) (x2 : Int32) (σ : jm_S) : jc 106 [(.ref 55), (.int x1), (.int x2)] σ = jbi (jc 8 [(.ref 55)] σ) (fun r1 τ1 => (if r1 = 0 then (if (τ1 55 1) = x1 then (if x2 < 0 then some (some (.int (2 : Int32)), τ1) else (if x2 < (τ1 55 2) then some (some (.int (0 : Int32)), τ1) else some (some (.int (2 : Int32)), τ1))) else some (some (.int (3 : Int32)), τ1)) else some (some (.int (1 : Int32)), τ1))) := by
  refine (jc_of (ls1 := [some (.ref 55), some (.int x1), some (.int x2)]) ((jm_ini_of jM106).trans rfl)).trans ?_
  refine (sv_aload_n jM106 c106_0 rfl rfl).trans ?_
  refine (sv_callvi (pl := 0) jM106 c106_1 rfl (jm_call_v (a := 55) (as := []) (rest := []) lm_6_28 rfl jM8 rfl rfl rfl rfl rfl) jM8 rfl (Or.inr rfl)).trans ?_
  refine jbi_c (fun r1 τ1 => ?_)
  refine (sv_if_eq jM106 c106_4 rfl (t := 9) (by decide +kernel)).trans ?_
  refine jif _ ?_ ?_
  ·
    refine (sv_aload_n jM106 c106_9 rfl rfl).trans ?_
    refine (sv_getf jM106 c106_10 rfl lf_6_15 (fg_55_1 _)).trans ?_
    refine (sv_iload_n jM106 c106_13 rfl rfl).trans ?_
    refine (sv_icmp_eq jM106 c106_14 rfl (t := 19) (by decide +kernel)).trans ?_
    refine jif _ ?_ ?_
    ·
      refine (sv_iload_n jM106 c106_19 rfl rfl).trans ?_
      refine (sv_if_lt jM106 c106_20 rfl (t := 31) (by decide +kernel)).trans ?_
      refine jif _ ?_ ?_
      ·
        refine (sv_iconst jM106 c106_31 rfl (v := 2) (by decide +kernel)).trans ?_
        refine (sv_goto jM106 c106_32 rfl (t := 36) (by decide +kernel)).trans ?_
        exact sv_iret jM106 c106_36 rfl rfl
      ·
        refine (sv_iload_n jM106 c106_23 rfl rfl).trans ?_
        refine (sv_aload_n jM106 c106_24 rfl rfl).trans ?_
        refine (sv_getf jM106 c106_25 rfl lf_6_19 (fg_55_2 _)).trans ?_
        refine (sv_icmp_lt jM106 c106_28 rfl (t := 35) (by decide +kernel)).trans ?_
        refine jif _ ?_ ?_
        ·
          refine (sv_iconst jM106 c106_35 rfl (v := 0) (by decide +kernel)).trans ?_
          exact sv_iret jM106 c106_36 rfl rfl
        ·
          refine (sv_iconst jM106 c106_31 rfl (v := 2) (by decide +kernel)).trans ?_
          refine (sv_goto jM106 c106_32 rfl (t := 36) (by decide +kernel)).trans ?_
          exact sv_iret jM106 c106_36 rfl rfl
    ·
      refine (sv_iconst jM106 c106_17 rfl (v := 3) (by decide +kernel)).trans ?_
      exact sv_iret jM106 c106_18 rfl rfl
  ·
    refine (sv_iconst jM106 c106_7 rfl (v := 1) (by decide +kernel)).trans ?_
    exact sv_iret jM106 c106_8 rfl rfl
set_option maxRecDepth 20000 in
set_option maxHeartbeats 4000000 in
theorem Sheet_put_55_in (x1 : Int32) (x2 : Int32) (σ : jm_S) : jc 107 [(.ref 55), (.int x1), (.int x2)] σ = (if ¬ (σ 55 1) = 0 then (if ¬ (σ 55 1) = (1 : Int32) then (if x1 < 0 ∨ 60 ≤ x1.toNatClampNeg then none else some (none, (jm_up σ 56 x1.toNatClampNeg x2))) else (if x1 < 0 ∨ 60 ≤ x1.toNatClampNeg then none else some (none, (jm_up σ 56 x1.toNatClampNeg x2.toInt16.toInt32)))) else (if x1 < 0 ∨ 60 ≤ x1.toNatClampNeg then none else some (none, (jm_up σ 56 x1.toNatClampNeg x2.toInt8.toInt32)))) := by
  refine (jc_of (ls1 := [some (.ref 55), some (.int x1), some (.int x2)]) ((jm_ini_of jM107).trans rfl)).trans ?_
  refine (sv_aload_n jM107 c107_0 rfl rfl).trans ?_
  refine (sv_getf jM107 c107_1 rfl lf_6_9 (fg_55_0 _)).trans ?_
  refine (sv_iload_n jM107 c107_4 rfl rfl).trans ?_
  refine (sv_aload_n jM107 c107_5 rfl rfl).trans ?_
  refine (sv_getf jM107 c107_6 rfl lf_6_15 (fg_55_1 _)).trans ?_
  refine (sv_if_ne jM107 c107_9 rfl (t := 17) (by decide +kernel)).trans ?_
  refine jif _ ?_ ?_
  ·
    refine (sv_aload_n jM107 c107_17 rfl rfl).trans ?_
    refine (sv_getf jM107 c107_18 rfl lf_6_15 (fg_55_1 _)).trans ?_
    refine (sv_iconst jM107 c107_21 rfl (v := 1) (by decide +kernel)).trans ?_
    refine (sv_icmp_ne jM107 c107_22 rfl (t := 30) (by decide +kernel)).trans ?_
    refine jif _ ?_ ?_
    ·
      refine (sv_iload_n jM107 c107_30 rfl rfl).trans ?_
      refine (sv_iast jM107 c107_31 rfl wi_56).trans ?_
      refine jif _ rfl ?_
      exact sv_vret jM107 c107_32 rfl rfl
    ·
      refine (sv_iload_n jM107 c107_25 rfl rfl).trans ?_
      refine (sv_i2s jM107 c107_26 rfl).trans ?_
      refine (sv_goto jM107 c107_27 rfl (t := 31) (by decide +kernel)).trans ?_
      refine (sv_iast jM107 c107_31 rfl wi_56).trans ?_
      refine jif _ rfl ?_
      exact sv_vret jM107 c107_32 rfl rfl
  ·
    refine (sv_iload_n jM107 c107_12 rfl rfl).trans ?_
    refine (sv_i2b jM107 c107_13 rfl).trans ?_
    refine (sv_goto jM107 c107_14 rfl (t := 31) (by decide +kernel)).trans ?_
    refine (sv_iast jM107 c107_31 rfl wi_56).trans ?_
    refine jif _ rfl ?_
    exact sv_vret jM107 c107_32 rfl rfl
set_option maxRecDepth 20000 in
set_option maxHeartbeats 4000000 in
theorem Sheet_hasStretch_57_in (x1 : Int32) (x2 : Int32) (σ : jm_S) : jc 110 [(.ref 57), (.int x1), (.int x2)] σ = (if x1 < 0 then some (some (.int (0 : Int32)), σ) else (if x2 < 0 then some (some (.int (0 : Int32)), σ) else (if (σ 57 2) < x1 then some (some (.int (0 : Int32)), σ) else (if ((σ 57 2) - x1) < x2 then some (some (.int (0 : Int32)), σ) else some (some (.int (1 : Int32)), σ))))) := by
  refine (jc_of (ls1 := [some (.ref 57), some (.int x1), some (.int x2)]) ((jm_ini_of jM110).trans rfl)).trans ?_
  refine (sv_iload_n jM110 c110_0 rfl rfl).trans ?_
  refine (sv_if_lt jM110 c110_1 rfl (t := 30) (by decide +kernel)).trans ?_
  refine jif _ ?_ ?_
  ·
    refine (sv_iconst jM110 c110_30 rfl (v := 0) (by decide +kernel)).trans ?_
    exact sv_zret jM110 c110_31 rfl rfl (by decide +kernel)
  ·
    refine (sv_iload_n jM110 c110_4 rfl rfl).trans ?_
    refine (sv_if_lt jM110 c110_5 rfl (t := 30) (by decide +kernel)).trans ?_
    refine jif _ ?_ ?_
    ·
      refine (sv_iconst jM110 c110_30 rfl (v := 0) (by decide +kernel)).trans ?_
      exact sv_zret jM110 c110_31 rfl rfl (by decide +kernel)
    ·
      refine (sv_iload_n jM110 c110_8 rfl rfl).trans ?_
      refine (sv_aload_n jM110 c110_9 rfl rfl).trans ?_
      refine (sv_getf jM110 c110_10 rfl lf_6_19 (fg_57_2 _)).trans ?_
      refine (sv_icmp_gt jM110 c110_13 rfl (t := 30) (by decide +kernel)).trans ?_
      refine jif _ ?_ ?_
      ·
        refine (sv_iconst jM110 c110_30 rfl (v := 0) (by decide +kernel)).trans ?_
        exact sv_zret jM110 c110_31 rfl rfl (by decide +kernel)
      ·
        refine (sv_iload_n jM110 c110_16 rfl rfl).trans ?_
        refine (sv_aload_n jM110 c110_17 rfl rfl).trans ?_
        refine (sv_getf jM110 c110_18 rfl lf_6_19 (fg_57_2 _)).trans ?_
        refine (sv_iload_n jM110 c110_21 rfl rfl).trans ?_
        refine (sv_isub jM110 c110_22 rfl).trans ?_
        refine (sv_icmp_gt jM110 c110_23 rfl (t := 30) (by decide +kernel)).trans ?_
        refine jif _ ?_ ?_
        ·
          refine (sv_iconst jM110 c110_30 rfl (v := 0) (by decide +kernel)).trans ?_
          exact sv_zret jM110 c110_31 rfl rfl (by decide +kernel)
        ·
          refine (sv_iconst jM110 c110_26 rfl (v := 1) (by decide +kernel)).trans ?_
          refine (sv_goto jM110 c110_27 rfl (t := 31) (by decide +kernel)).trans ?_
          exact sv_zret jM110 c110_31 rfl rfl (by decide +kernel)
set_option maxRecDepth 20000 in
set_option maxHeartbeats 4000000 in
theorem Sheet_hasStretch_53_in (x1 : Int32) (x2 : Int32) (σ : jm_S) : jc 110 [(.ref 53), (.int x1), (.int x2)] σ = (if x1 < 0 then some (some (.int (0 : Int32)), σ) else (if x2 < 0 then some (some (.int (0 : Int32)), σ) else (if (σ 53 2) < x1 then some (some (.int (0 : Int32)), σ) else (if ((σ 53 2) - x1) < x2 then some (some (.int (0 : Int32)), σ) else some (some (.int (1 : Int32)), σ))))) := by
  refine (jc_of (ls1 := [some (.ref 53), some (.int x1), some (.int x2)]) ((jm_ini_of jM110).trans rfl)).trans ?_
  refine (sv_iload_n jM110 c110_0 rfl rfl).trans ?_
  refine (sv_if_lt jM110 c110_1 rfl (t := 30) (by decide +kernel)).trans ?_
  refine jif _ ?_ ?_
  ·
    refine (sv_iconst jM110 c110_30 rfl (v := 0) (by decide +kernel)).trans ?_
    exact sv_zret jM110 c110_31 rfl rfl (by decide +kernel)
  ·
    refine (sv_iload_n jM110 c110_4 rfl rfl).trans ?_
    refine (sv_if_lt jM110 c110_5 rfl (t := 30) (by decide +kernel)).trans ?_
    refine jif _ ?_ ?_
    ·
      refine (sv_iconst jM110 c110_30 rfl (v := 0) (by decide +kernel)).trans ?_
      exact sv_zret jM110 c110_31 rfl rfl (by decide +kernel)
    ·
      refine (sv_iload_n jM110 c110_8 rfl rfl).trans ?_
      refine (sv_aload_n jM110 c110_9 rfl rfl).trans ?_
      refine (sv_getf jM110 c110_10 rfl lf_6_19 (fg_53_2 _)).trans ?_
      refine (sv_icmp_gt jM110 c110_13 rfl (t := 30) (by decide +kernel)).trans ?_
      refine jif _ ?_ ?_
      ·
        refine (sv_iconst jM110 c110_30 rfl (v := 0) (by decide +kernel)).trans ?_
        exact sv_zret jM110 c110_31 rfl rfl (by decide +kernel)
      ·
        refine (sv_iload_n jM110 c110_16 rfl rfl).trans ?_
        refine (sv_aload_n jM110 c110_17 rfl rfl).trans ?_
        refine (sv_getf jM110 c110_18 rfl lf_6_19 (fg_53_2 _)).trans ?_
        refine (sv_iload_n jM110 c110_21 rfl rfl).trans ?_
        refine (sv_isub jM110 c110_22 rfl).trans ?_
        refine (sv_icmp_gt jM110 c110_23 rfl (t := 30) (by decide +kernel)).trans ?_
        refine jif _ ?_ ?_
        ·
          refine (sv_iconst jM110 c110_30 rfl (v := 0) (by decide +kernel)).trans ?_
          exact sv_zret jM110 c110_31 rfl rfl (by decide +kernel)
        ·
          refine (sv_iconst jM110 c110_26 rfl (v := 1) (by decide +kernel)).trans ?_
          refine (sv_goto jM110 c110_27 rfl (t := 31) (by decide +kernel)).trans ?_
          exact sv_zret jM110 c110_31 rfl rfl (by decide +kernel)
set_option maxRecDepth 20000 in
set_option maxHeartbeats 4000000 in
theorem Sheet_hasStretch_59_in (x1 : Int32) (x2 : Int32) (σ : jm_S) : jc 110 [(.ref 59), (.int x1), (.int x2)] σ = (if x1 < 0 then some (some (.int (0 : Int32)), σ) else (if x2 < 0 then some (some (.int (0 : Int32)), σ) else (if (σ 59 2) < x1 then some (some (.int (0 : Int32)), σ) else (if ((σ 59 2) - x1) < x2 then some (some (.int (0 : Int32)), σ) else some (some (.int (1 : Int32)), σ))))) := by
  refine (jc_of (ls1 := [some (.ref 59), some (.int x1), some (.int x2)]) ((jm_ini_of jM110).trans rfl)).trans ?_
  refine (sv_iload_n jM110 c110_0 rfl rfl).trans ?_
  refine (sv_if_lt jM110 c110_1 rfl (t := 30) (by decide +kernel)).trans ?_
  refine jif _ ?_ ?_
  ·
    refine (sv_iconst jM110 c110_30 rfl (v := 0) (by decide +kernel)).trans ?_
    exact sv_zret jM110 c110_31 rfl rfl (by decide +kernel)
  ·
    refine (sv_iload_n jM110 c110_4 rfl rfl).trans ?_
    refine (sv_if_lt jM110 c110_5 rfl (t := 30) (by decide +kernel)).trans ?_
    refine jif _ ?_ ?_
    ·
      refine (sv_iconst jM110 c110_30 rfl (v := 0) (by decide +kernel)).trans ?_
      exact sv_zret jM110 c110_31 rfl rfl (by decide +kernel)
    ·
      refine (sv_iload_n jM110 c110_8 rfl rfl).trans ?_
      refine (sv_aload_n jM110 c110_9 rfl rfl).trans ?_
      refine (sv_getf jM110 c110_10 rfl lf_6_19 (fg_59_2 _)).trans ?_
      refine (sv_icmp_gt jM110 c110_13 rfl (t := 30) (by decide +kernel)).trans ?_
      refine jif _ ?_ ?_
      ·
        refine (sv_iconst jM110 c110_30 rfl (v := 0) (by decide +kernel)).trans ?_
        exact sv_zret jM110 c110_31 rfl rfl (by decide +kernel)
      ·
        refine (sv_iload_n jM110 c110_16 rfl rfl).trans ?_
        refine (sv_aload_n jM110 c110_17 rfl rfl).trans ?_
        refine (sv_getf jM110 c110_18 rfl lf_6_19 (fg_59_2 _)).trans ?_
        refine (sv_iload_n jM110 c110_21 rfl rfl).trans ?_
        refine (sv_isub jM110 c110_22 rfl).trans ?_
        refine (sv_icmp_gt jM110 c110_23 rfl (t := 30) (by decide +kernel)).trans ?_
        refine jif _ ?_ ?_
        ·
          refine (sv_iconst jM110 c110_30 rfl (v := 0) (by decide +kernel)).trans ?_
          exact sv_zret jM110 c110_31 rfl rfl (by decide +kernel)
        ·
          refine (sv_iconst jM110 c110_26 rfl (v := 1) (by decide +kernel)).trans ?_
          refine (sv_goto jM110 c110_27 rfl (t := 31) (by decide +kernel)).trans ?_
          exact sv_zret jM110 c110_31 rfl rfl (by decide +kernel)
set_option maxRecDepth 20000 in
set_option maxHeartbeats 4000000 in
theorem Sheet_hasStretch_55_in (x1 : Int32) (x2 : Int32) (σ : jm_S) : jc 110 [(.ref 55), (.int x1), (.int x2)] σ = (if x1 < 0 then some (some (.int (0 : Int32)), σ) else (if x2 < 0 then some (some (.int (0 : Int32)), σ) else (if (σ 55 2) < x1 then some (some (.int (0 : Int32)), σ) else (if ((σ 55 2) - x1) < x2 then some (some (.int (0 : Int32)), σ) else some (some (.int (1 : Int32)), σ))))) := by
  refine (jc_of (ls1 := [some (.ref 55), some (.int x1), some (.int x2)]) ((jm_ini_of jM110).trans rfl)).trans ?_
  refine (sv_iload_n jM110 c110_0 rfl rfl).trans ?_
  refine (sv_if_lt jM110 c110_1 rfl (t := 30) (by decide +kernel)).trans ?_
  refine jif _ ?_ ?_
  ·
    refine (sv_iconst jM110 c110_30 rfl (v := 0) (by decide +kernel)).trans ?_
    exact sv_zret jM110 c110_31 rfl rfl (by decide +kernel)
  ·
    refine (sv_iload_n jM110 c110_4 rfl rfl).trans ?_
    refine (sv_if_lt jM110 c110_5 rfl (t := 30) (by decide +kernel)).trans ?_
    refine jif _ ?_ ?_
    ·
      refine (sv_iconst jM110 c110_30 rfl (v := 0) (by decide +kernel)).trans ?_
      exact sv_zret jM110 c110_31 rfl rfl (by decide +kernel)
    ·
      refine (sv_iload_n jM110 c110_8 rfl rfl).trans ?_
      refine (sv_aload_n jM110 c110_9 rfl rfl).trans ?_
      refine (sv_getf jM110 c110_10 rfl lf_6_19 (fg_55_2 _)).trans ?_
      refine (sv_icmp_gt jM110 c110_13 rfl (t := 30) (by decide +kernel)).trans ?_
      refine jif _ ?_ ?_
      ·
        refine (sv_iconst jM110 c110_30 rfl (v := 0) (by decide +kernel)).trans ?_
        exact sv_zret jM110 c110_31 rfl rfl (by decide +kernel)
      ·
        refine (sv_iload_n jM110 c110_16 rfl rfl).trans ?_
        refine (sv_aload_n jM110 c110_17 rfl rfl).trans ?_
        refine (sv_getf jM110 c110_18 rfl lf_6_19 (fg_55_2 _)).trans ?_
        refine (sv_iload_n jM110 c110_21 rfl rfl).trans ?_
        refine (sv_isub jM110 c110_22 rfl).trans ?_
        refine (sv_icmp_gt jM110 c110_23 rfl (t := 30) (by decide +kernel)).trans ?_
        refine jif _ ?_ ?_
        ·
          refine (sv_iconst jM110 c110_30 rfl (v := 0) (by decide +kernel)).trans ?_
          exact sv_zret jM110 c110_31 rfl rfl (by decide +kernel)
        ·
          refine (sv_iconst jM110 c110_26 rfl (v := 1) (by decide +kernel)).trans ?_
          refine (sv_goto jM110 c110_27 rfl (t := 31) (by decide +kernel)).trans ?_
          exact sv_zret jM110 c110_31 rfl rfl (by decide +kernel)
set_option maxRecDepth 20000 in
set_option maxHeartbeats 4000000 in
theorem Grains_allWater_in (σ : jm_S) : jc 113 [(.ref 1)] σ = jv 113 4 [some (.ref 1), some (.int (0 : Int32)), some (.int (0 : Int32))] [] σ := by
  refine (jc_of (ls1 := [some (.ref 1), none, none]) ((jm_ini_of jM113).trans rfl)).trans ?_
  refine (sv_iconst jM113 c113_0 rfl (v := 0) (by decide +kernel)).trans ?_
  refine (sv_istore_n (ls1 := [some (.ref 1), some (.int (0 : Int32)), none]) jM113 c113_1 rfl (Nat.lt_of_lt_of_eq (by decide +kernel : 1 < 3) rfl) rfl).trans ?_
  refine (sv_iconst jM113 c113_2 rfl (v := 0) (by decide +kernel)).trans ?_
  refine (sv_istore_n (ls1 := [some (.ref 1), some (.int (0 : Int32)), some (.int (0 : Int32))]) jM113 c113_3 rfl (Nat.lt_of_lt_of_eq (by decide +kernel : 2 < 3) rfl) rfl).trans ?_
  rfl
set_option maxRecDepth 20000 in
set_option maxHeartbeats 4000000 in
theorem Grains_allWater_L4 (x1 : Int32) (x2 : Int32) (σ : jm_S) : jv 113 4 [some (.ref 1), some (.int x1), some (.int x2)] [] σ = (if (σ 1 2) ≤ x2 then some (some (.int x1), σ) else jbi (jc 12 [(.ref 1), (.int x2), (.int (0 : Int32))] σ) (fun r1 τ1 => jv 113 4 [some (.ref 1), some (.int (x1 + r1)), some (.int (x2 + 1))] [] τ1)) := by
  refine (sv_iload_n jM113 c113_4 rfl rfl).trans ?_
  refine (sv_aload_n jM113 c113_5 rfl rfl).trans ?_
  refine (sv_getf jM113 c113_6 rfl lf_2_18 (fg_1_2 _)).trans ?_
  refine (sv_icmp_ge jM113 c113_9 rfl (t := 27) (by decide +kernel)).trans ?_
  refine jif _ ?_ ?_
  ·
    refine (sv_iload_n jM113 c113_27 rfl rfl).trans ?_
    exact sv_iret jM113 c113_28 rfl rfl
  ·
    refine (sv_iload_n jM113 c113_12 rfl rfl).trans ?_
    refine (sv_aload_n jM113 c113_13 rfl rfl).trans ?_
    refine (sv_iload_n jM113 c113_14 rfl rfl).trans ?_
    refine (sv_iconst jM113 c113_15 rfl (v := 0) (by decide +kernel)).trans ?_
    refine (sv_callvi (pl := 0) jM113 c113_16 rfl (jm_call_v (a := 1) (as := [(.int x2), (.int (0 : Int32))]) (rest := [(.int x1)]) lm_2_26 rfl jM12 rfl rfl rfl rfl rfl) jM12 rfl (Or.inl rfl)).trans ?_
    refine jbi_c (fun r1 τ1 => ?_)
    refine (sv_iadd jM113 c113_19 rfl).trans ?_
    refine (sv_istore_n (ls1 := [some (.ref 1), some (.int (x1 + r1)), some (.int x2)]) jM113 c113_20 rfl (Nat.lt_of_lt_of_eq (by decide +kernel : 1 < 3) rfl) rfl).trans ?_
    refine (sv_iinc (ls1 := [some (.ref 1), some (.int (x1 + r1)), some (.int (x2 + 1))]) jM113 c113_21 rfl rfl (v := 1) (by decide +kernel) rfl).trans ?_
    refine (sv_goto jM113 c113_24 rfl (t := 4) (by decide +kernel)).trans ?_
    rfl
set_option maxRecDepth 20000 in
set_option maxHeartbeats 4000000 in
theorem Heating_follow_47_in (σ : jm_S) : jc 19 [(.ref 6), (.ref 47)] σ = jbv (jc 20 [(.ref 6)] σ) (fun τ1 => jbv (jc 23 [(.ref 47)] τ1) (fun τ2 => (if (τ2 47 1) ≤ 0 then jv 19 23 [some (.ref 6), some (.ref 47), some (.int (0 : Int32)), some (.int (0 : Int32))] [] τ2 else jv 19 23 [some (.ref 6), some (.ref 47), some (.int (1 : Int32)), some (.int (0 : Int32))] [] τ2))) := by
  refine (jc_of (ls1 := [some (.ref 6), some (.ref 47), none, none]) ((jm_ini_of jM19).trans rfl)).trans ?_
  refine (sv_aload_n jM19 c19_0 rfl rfl).trans ?_
  refine (sv_callvv (pl := 0) jM19 c19_1 rfl (jm_call_v (a := 6) (as := []) (rest := []) lm_4_26 rfl jM20 rfl rfl rfl rfl rfl) jM20 rfl rfl).trans ?_
  refine jbv_c (fun τ1 => ?_)
  refine (sv_aload_n jM19 c19_4 rfl rfl).trans ?_
  refine (sv_callvv (pl := 0) jM19 c19_5 rfl (jm_call_v (a := 47) (as := []) (rest := []) lm_4_29 rfl jM23 rfl rfl rfl rfl rfl) jM23 rfl rfl).trans ?_
  refine jbv_c (fun τ2 => ?_)
  refine (sv_aload_n jM19 c19_8 rfl rfl).trans ?_
  refine (sv_getf jM19 c19_9 rfl lf_4_34 (fg_47_1 _)).trans ?_
  refine (sv_if_le jM19 c19_12 rfl (t := 19) (by decide +kernel)).trans ?_
  refine jif _ ?_ ?_
  ·
    refine (sv_iconst jM19 c19_19 rfl (v := 0) (by decide +kernel)).trans ?_
    refine (sv_istore_n (ls1 := [some (.ref 6), some (.ref 47), some (.int (0 : Int32)), none]) jM19 c19_20 rfl (Nat.lt_of_lt_of_eq (by decide +kernel : 2 < 4) rfl) rfl).trans ?_
    refine (sv_iconst jM19 c19_21 rfl (v := 0) (by decide +kernel)).trans ?_
    refine (sv_istore_n (ls1 := [some (.ref 6), some (.ref 47), some (.int (0 : Int32)), some (.int (0 : Int32))]) jM19 c19_22 rfl (Nat.lt_of_lt_of_eq (by decide +kernel : 3 < 4) rfl) rfl).trans ?_
    rfl
  ·
    refine (sv_iconst jM19 c19_15 rfl (v := 1) (by decide +kernel)).trans ?_
    refine (sv_goto jM19 c19_16 rfl (t := 20) (by decide +kernel)).trans ?_
    refine (sv_istore_n (ls1 := [some (.ref 6), some (.ref 47), some (.int (1 : Int32)), none]) jM19 c19_20 rfl (Nat.lt_of_lt_of_eq (by decide +kernel : 2 < 4) rfl) rfl).trans ?_
    refine (sv_iconst jM19 c19_21 rfl (v := 0) (by decide +kernel)).trans ?_
    refine (sv_istore_n (ls1 := [some (.ref 6), some (.ref 47), some (.int (1 : Int32)), some (.int (0 : Int32))]) jM19 c19_22 rfl (Nat.lt_of_lt_of_eq (by decide +kernel : 3 < 4) rfl) rfl).trans ?_
    rfl
set_option maxRecDepth 20000 in
set_option maxHeartbeats 4000000 in
theorem Heating_follow_47_L23 (x2 : Int32) (x3 : Int32) (σ : jm_S) : jv 19 23 [some (.ref 6), some (.ref 47), some (.int x2), some (.int x3)] [] σ = (if x2 = 0 then (if (σ 47 3) = (-1 : Int32) then some (none, σ) else jbv (jc 20 [(.ref 6)] σ) (fun τ1 => some (none, τ1))) else (if (60 : Int32) < x3 then (if (σ 47 3) = (-1 : Int32) then some (none, σ) else jbv (jc 20 [(.ref 6)] σ) (fun τ2 => some (none, τ2))) else jbv (jc 24 [(.ref 6), (.ref 47)] σ) (fun τ3 => jbi (jc 30 [(.ref 47), (.int (59 : Int32))] τ3) (fun r4 τ4 => jv 19 23 [some (.ref 6), some (.ref 47), some (.int r4), some (.int (x3 + 1))] [] τ4)))) := by
  refine (sv_iload_n jM19 c19_23 rfl rfl).trans ?_
  refine (sv_if_eq jM19 c19_24 rfl (t := 51) (by decide +kernel)).trans ?_
  refine jif _ ?_ ?_
  ·
    refine (sv_aload_n jM19 c19_51 rfl rfl).trans ?_
    refine (sv_getf jM19 c19_52 rfl lf_4_45 (fg_47_3 _)).trans ?_
    refine (sv_iconst jM19 c19_55 rfl (v := -1) (by decide +kernel)).trans ?_
    refine (sv_icmp_eq jM19 c19_56 rfl (t := 63) (by decide +kernel)).trans ?_
    refine jif _ ?_ ?_
    ·
      exact sv_vret jM19 c19_63 rfl rfl
    ·
      refine (sv_aload_n jM19 c19_59 rfl rfl).trans ?_
      refine (sv_callvv (pl := 0) jM19 c19_60 rfl (jm_call_v (a := 6) (as := []) (rest := []) lm_4_26 rfl jM20 rfl rfl rfl rfl rfl) jM20 rfl rfl).trans ?_
      refine jbv_c (fun τ1 => ?_)
      exact sv_vret jM19 c19_63 rfl rfl
  ·
    refine (sv_iload_n jM19 c19_27 rfl rfl).trans ?_
    refine (sv_bipush jM19 c19_28 rfl (v := 60) (by decide +kernel)).trans ?_
    refine (sv_icmp_gt jM19 c19_30 rfl (t := 51) (by decide +kernel)).trans ?_
    refine jif _ ?_ ?_
    ·
      refine (sv_aload_n jM19 c19_51 rfl rfl).trans ?_
      refine (sv_getf jM19 c19_52 rfl lf_4_45 (fg_47_3 _)).trans ?_
      refine (sv_iconst jM19 c19_55 rfl (v := -1) (by decide +kernel)).trans ?_
      refine (sv_icmp_eq jM19 c19_56 rfl (t := 63) (by decide +kernel)).trans ?_
      refine jif _ ?_ ?_
      ·
        exact sv_vret jM19 c19_63 rfl rfl
      ·
        refine (sv_aload_n jM19 c19_59 rfl rfl).trans ?_
        refine (sv_callvv (pl := 0) jM19 c19_60 rfl (jm_call_v (a := 6) (as := []) (rest := []) lm_4_26 rfl jM20 rfl rfl rfl rfl rfl) jM20 rfl rfl).trans ?_
        refine jbv_c (fun τ2 => ?_)
        exact sv_vret jM19 c19_63 rfl rfl
    ·
      refine (sv_aload_n jM19 c19_33 rfl rfl).trans ?_
      refine (sv_aload_n jM19 c19_34 rfl rfl).trans ?_
      refine (sv_callvv (pl := 0) jM19 c19_35 rfl (jm_call_v (a := 6) (as := [(.ref 47)]) (rest := []) lm_4_37 rfl jM24 rfl rfl rfl rfl rfl) jM24 rfl rfl).trans ?_
      refine jbv_c (fun τ3 => ?_)
      refine (sv_aload_n jM19 c19_38 rfl rfl).trans ?_
      refine (sv_bipush jM19 c19_39 rfl (v := 59) (by decide +kernel)).trans ?_
      refine (sv_callvi (pl := 0) jM19 c19_41 rfl (jm_call_v (a := 47) (as := [(.int (59 : Int32))]) (rest := []) lm_4_41 rfl jM30 rfl rfl rfl rfl rfl) jM30 rfl (Or.inr rfl)).trans ?_
      refine jbi_c (fun r4 τ4 => ?_)
      refine (sv_istore_n (ls1 := [some (.ref 6), some (.ref 47), some (.int r4), some (.int x3)]) jM19 c19_44 rfl (Nat.lt_of_lt_of_eq (by decide +kernel : 2 < 4) rfl) rfl).trans ?_
      refine (sv_iinc (ls1 := [some (.ref 6), some (.ref 47), some (.int r4), some (.int (x3 + 1))]) jM19 c19_45 rfl rfl (v := 1) (by decide +kernel) rfl).trans ?_
      refine (sv_goto jM19 c19_48 rfl (t := 23) (by decide +kernel)).trans ?_
      rfl
set_option maxRecDepth 20000 in
set_option maxHeartbeats 4000000 in
theorem Rule_follow_49_44_in (σ : jm_S) : jc 31 [(.ref 49), (.ref 44)] σ = jbv (jc 23 [(.ref 44)] (jm_up (jm_up (jm_up σ 49 0 (1000 : Int32)) 49 1 (1000 : Int32)) 49 2 (1000 : Int32))) (fun τ1 => (if (τ1 44 1) ≤ 0 then jv 31 40 [some (.ref 49), some (.ref 44), some (.int (0 : Int32)), some (.int (0 : Int32))] [] τ1 else jv 31 40 [some (.ref 49), some (.ref 44), some (.int (1 : Int32)), some (.int (0 : Int32))] [] τ1)) := by
  refine (jc_of (ls1 := [some (.ref 49), some (.ref 44), none, none]) ((jm_ini_of jM31).trans rfl)).trans ?_
  refine (sv_aload_n jM31 c31_0 rfl rfl).trans ?_
  refine (sv_sipush jM31 c31_1 rfl (v := 1000) (by decide +kernel)).trans ?_
  refine (sv_putf jM31 c31_4 rfl lf_5_11 (pf_49_0 _ _)).trans ?_
  refine (sv_aload_n jM31 c31_7 rfl rfl).trans ?_
  refine (sv_sipush jM31 c31_8 rfl (v := 1000) (by decide +kernel)).trans ?_
  refine (sv_putf jM31 c31_11 rfl lf_5_15 (pf_49_1 _ _)).trans ?_
  refine (sv_aload_n jM31 c31_14 rfl rfl).trans ?_
  refine (sv_sipush jM31 c31_15 rfl (v := 1000) (by decide +kernel)).trans ?_
  refine (sv_putf jM31 c31_18 rfl lf_5_18 (pf_49_2 _ _)).trans ?_
  refine (sv_aload_n jM31 c31_21 rfl rfl).trans ?_
  refine (sv_callvv (pl := 0) jM31 c31_22 rfl (jm_call_v (a := 44) (as := []) (rest := []) lm_5_21 rfl jM23 rfl rfl rfl rfl rfl) jM23 rfl rfl).trans ?_
  refine jbv_c (fun τ1 => ?_)
  refine (sv_aload_n jM31 c31_25 rfl rfl).trans ?_
  refine (sv_getf jM31 c31_26 rfl lf_5_26 (fg_44_1 _)).trans ?_
  refine (sv_if_le jM31 c31_29 rfl (t := 36) (by decide +kernel)).trans ?_
  refine jif _ ?_ ?_
  ·
    refine (sv_iconst jM31 c31_36 rfl (v := 0) (by decide +kernel)).trans ?_
    refine (sv_istore_n (ls1 := [some (.ref 49), some (.ref 44), some (.int (0 : Int32)), none]) jM31 c31_37 rfl (Nat.lt_of_lt_of_eq (by decide +kernel : 2 < 4) rfl) rfl).trans ?_
    refine (sv_iconst jM31 c31_38 rfl (v := 0) (by decide +kernel)).trans ?_
    refine (sv_istore_n (ls1 := [some (.ref 49), some (.ref 44), some (.int (0 : Int32)), some (.int (0 : Int32))]) jM31 c31_39 rfl (Nat.lt_of_lt_of_eq (by decide +kernel : 3 < 4) rfl) rfl).trans ?_
    rfl
  ·
    refine (sv_iconst jM31 c31_32 rfl (v := 1) (by decide +kernel)).trans ?_
    refine (sv_goto jM31 c31_33 rfl (t := 37) (by decide +kernel)).trans ?_
    refine (sv_istore_n (ls1 := [some (.ref 49), some (.ref 44), some (.int (1 : Int32)), none]) jM31 c31_37 rfl (Nat.lt_of_lt_of_eq (by decide +kernel : 2 < 4) rfl) rfl).trans ?_
    refine (sv_iconst jM31 c31_38 rfl (v := 0) (by decide +kernel)).trans ?_
    refine (sv_istore_n (ls1 := [some (.ref 49), some (.ref 44), some (.int (1 : Int32)), some (.int (0 : Int32))]) jM31 c31_39 rfl (Nat.lt_of_lt_of_eq (by decide +kernel : 3 < 4) rfl) rfl).trans ?_
    rfl
set_option maxRecDepth 20000 in
set_option maxHeartbeats 4000000 in
theorem Rule_follow_49_44_L40 (x2 : Int32) (x3 : Int32) (σ : jm_S) : jv 31 40 [some (.ref 49), some (.ref 44), some (.int x2), some (.int x3)] [] σ = (if x2 = 0 then some (none, σ) else (if (30 : Int32) < x3 then some (none, σ) else jbv (jc 32 [(.ref 49), (.ref 44)] σ) (fun τ1 => jbi (jc 30 [(.ref 44), (.int (124 : Int32))] τ1) (fun r2 τ2 => jv 31 40 [some (.ref 49), some (.ref 44), some (.int r2), some (.int (x3 + 1))] [] τ2)))) := by
  refine (sv_iload_n jM31 c31_40 rfl rfl).trans ?_
  refine (sv_if_eq jM31 c31_41 rfl (t := 68) (by decide +kernel)).trans ?_
  refine jif _ ?_ ?_
  ·
    exact sv_vret jM31 c31_68 rfl rfl
  ·
    refine (sv_iload_n jM31 c31_44 rfl rfl).trans ?_
    refine (sv_bipush jM31 c31_45 rfl (v := 30) (by decide +kernel)).trans ?_
    refine (sv_icmp_gt jM31 c31_47 rfl (t := 68) (by decide +kernel)).trans ?_
    refine jif _ ?_ ?_
    ·
      exact sv_vret jM31 c31_68 rfl rfl
    ·
      refine (sv_aload_n jM31 c31_50 rfl rfl).trans ?_
      refine (sv_aload_n jM31 c31_51 rfl rfl).trans ?_
      refine (sv_callvv (pl := 0) jM31 c31_52 rfl (jm_call_v (a := 49) (as := [(.ref 44)]) (rest := []) lm_5_29 rfl jM32 rfl rfl rfl rfl rfl) jM32 rfl rfl).trans ?_
      refine jbv_c (fun τ1 => ?_)
      refine (sv_aload_n jM31 c31_55 rfl rfl).trans ?_
      refine (sv_bipush jM31 c31_56 rfl (v := 124) (by decide +kernel)).trans ?_
      refine (sv_callvi (pl := 0) jM31 c31_58 rfl (jm_call_v (a := 44) (as := [(.int (124 : Int32))]) (rest := []) lm_5_33 rfl jM30 rfl rfl rfl rfl rfl) jM30 rfl (Or.inr rfl)).trans ?_
      refine jbi_c (fun r2 τ2 => ?_)
      refine (sv_istore_n (ls1 := [some (.ref 49), some (.ref 44), some (.int r2), some (.int x3)]) jM31 c31_61 rfl (Nat.lt_of_lt_of_eq (by decide +kernel : 2 < 4) rfl) rfl).trans ?_
      refine (sv_iinc (ls1 := [some (.ref 49), some (.ref 44), some (.int r2), some (.int (x3 + 1))]) jM31 c31_62 rfl rfl (v := 1) (by decide +kernel) rfl).trans ?_
      refine (sv_goto jM31 c31_65 rfl (t := 40) (by decide +kernel)).trans ?_
      rfl
set_option maxRecDepth 20000 in
set_option maxHeartbeats 4000000 in
theorem Rule_follow_46_50_in (σ : jm_S) : jc 31 [(.ref 46), (.ref 50)] σ = jbv (jc 23 [(.ref 50)] (jm_up (jm_up (jm_up σ 46 0 (1000 : Int32)) 46 1 (1000 : Int32)) 46 2 (1000 : Int32))) (fun τ1 => (if (τ1 50 1) ≤ 0 then jv 31 40 [some (.ref 46), some (.ref 50), some (.int (0 : Int32)), some (.int (0 : Int32))] [] τ1 else jv 31 40 [some (.ref 46), some (.ref 50), some (.int (1 : Int32)), some (.int (0 : Int32))] [] τ1)) := by
  refine (jc_of (ls1 := [some (.ref 46), some (.ref 50), none, none]) ((jm_ini_of jM31).trans rfl)).trans ?_
  refine (sv_aload_n jM31 c31_0 rfl rfl).trans ?_
  refine (sv_sipush jM31 c31_1 rfl (v := 1000) (by decide +kernel)).trans ?_
  refine (sv_putf jM31 c31_4 rfl lf_5_11 (pf_46_0 _ _)).trans ?_
  refine (sv_aload_n jM31 c31_7 rfl rfl).trans ?_
  refine (sv_sipush jM31 c31_8 rfl (v := 1000) (by decide +kernel)).trans ?_
  refine (sv_putf jM31 c31_11 rfl lf_5_15 (pf_46_1 _ _)).trans ?_
  refine (sv_aload_n jM31 c31_14 rfl rfl).trans ?_
  refine (sv_sipush jM31 c31_15 rfl (v := 1000) (by decide +kernel)).trans ?_
  refine (sv_putf jM31 c31_18 rfl lf_5_18 (pf_46_2 _ _)).trans ?_
  refine (sv_aload_n jM31 c31_21 rfl rfl).trans ?_
  refine (sv_callvv (pl := 0) jM31 c31_22 rfl (jm_call_v (a := 50) (as := []) (rest := []) lm_5_21 rfl jM23 rfl rfl rfl rfl rfl) jM23 rfl rfl).trans ?_
  refine jbv_c (fun τ1 => ?_)
  refine (sv_aload_n jM31 c31_25 rfl rfl).trans ?_
  refine (sv_getf jM31 c31_26 rfl lf_5_26 (fg_50_1 _)).trans ?_
  refine (sv_if_le jM31 c31_29 rfl (t := 36) (by decide +kernel)).trans ?_
  refine jif _ ?_ ?_
  ·
    refine (sv_iconst jM31 c31_36 rfl (v := 0) (by decide +kernel)).trans ?_
    refine (sv_istore_n (ls1 := [some (.ref 46), some (.ref 50), some (.int (0 : Int32)), none]) jM31 c31_37 rfl (Nat.lt_of_lt_of_eq (by decide +kernel : 2 < 4) rfl) rfl).trans ?_
    refine (sv_iconst jM31 c31_38 rfl (v := 0) (by decide +kernel)).trans ?_
    refine (sv_istore_n (ls1 := [some (.ref 46), some (.ref 50), some (.int (0 : Int32)), some (.int (0 : Int32))]) jM31 c31_39 rfl (Nat.lt_of_lt_of_eq (by decide +kernel : 3 < 4) rfl) rfl).trans ?_
    rfl
  ·
    refine (sv_iconst jM31 c31_32 rfl (v := 1) (by decide +kernel)).trans ?_
    refine (sv_goto jM31 c31_33 rfl (t := 37) (by decide +kernel)).trans ?_
    refine (sv_istore_n (ls1 := [some (.ref 46), some (.ref 50), some (.int (1 : Int32)), none]) jM31 c31_37 rfl (Nat.lt_of_lt_of_eq (by decide +kernel : 2 < 4) rfl) rfl).trans ?_
    refine (sv_iconst jM31 c31_38 rfl (v := 0) (by decide +kernel)).trans ?_
    refine (sv_istore_n (ls1 := [some (.ref 46), some (.ref 50), some (.int (1 : Int32)), some (.int (0 : Int32))]) jM31 c31_39 rfl (Nat.lt_of_lt_of_eq (by decide +kernel : 3 < 4) rfl) rfl).trans ?_
    rfl
set_option maxRecDepth 20000 in
set_option maxHeartbeats 4000000 in
theorem Rule_follow_46_50_L40 (x2 : Int32) (x3 : Int32) (σ : jm_S) : jv 31 40 [some (.ref 46), some (.ref 50), some (.int x2), some (.int x3)] [] σ = (if x2 = 0 then some (none, σ) else (if (30 : Int32) < x3 then some (none, σ) else jbv (jc 32 [(.ref 46), (.ref 50)] σ) (fun τ1 => jbi (jc 30 [(.ref 50), (.int (124 : Int32))] τ1) (fun r2 τ2 => jv 31 40 [some (.ref 46), some (.ref 50), some (.int r2), some (.int (x3 + 1))] [] τ2)))) := by
  refine (sv_iload_n jM31 c31_40 rfl rfl).trans ?_
  refine (sv_if_eq jM31 c31_41 rfl (t := 68) (by decide +kernel)).trans ?_
  refine jif _ ?_ ?_
  ·
    exact sv_vret jM31 c31_68 rfl rfl
  ·
    refine (sv_iload_n jM31 c31_44 rfl rfl).trans ?_
    refine (sv_bipush jM31 c31_45 rfl (v := 30) (by decide +kernel)).trans ?_
    refine (sv_icmp_gt jM31 c31_47 rfl (t := 68) (by decide +kernel)).trans ?_
    refine jif _ ?_ ?_
    ·
      exact sv_vret jM31 c31_68 rfl rfl
    ·
      refine (sv_aload_n jM31 c31_50 rfl rfl).trans ?_
      refine (sv_aload_n jM31 c31_51 rfl rfl).trans ?_
      refine (sv_callvv (pl := 0) jM31 c31_52 rfl (jm_call_v (a := 46) (as := [(.ref 50)]) (rest := []) lm_5_29 rfl jM32 rfl rfl rfl rfl rfl) jM32 rfl rfl).trans ?_
      refine jbv_c (fun τ1 => ?_)
      refine (sv_aload_n jM31 c31_55 rfl rfl).trans ?_
      refine (sv_bipush jM31 c31_56 rfl (v := 124) (by decide +kernel)).trans ?_
      refine (sv_callvi (pl := 0) jM31 c31_58 rfl (jm_call_v (a := 50) (as := [(.int (124 : Int32))]) (rest := []) lm_5_33 rfl jM30 rfl rfl rfl rfl rfl) jM30 rfl (Or.inr rfl)).trans ?_
      refine jbi_c (fun r2 τ2 => ?_)
      refine (sv_istore_n (ls1 := [some (.ref 46), some (.ref 50), some (.int r2), some (.int x3)]) jM31 c31_61 rfl (Nat.lt_of_lt_of_eq (by decide +kernel : 2 < 4) rfl) rfl).trans ?_
      refine (sv_iinc (ls1 := [some (.ref 46), some (.ref 50), some (.int r2), some (.int (x3 + 1))]) jM31 c31_62 rfl rfl (v := 1) (by decide +kernel) rfl).trans ?_
      refine (sv_goto jM31 c31_65 rfl (t := 40) (by decide +kernel)).trans ?_
      rfl
set_option maxRecDepth 20000 in
set_option maxHeartbeats 4000000 in
theorem Rule_follow_52_44_in (σ : jm_S) : jc 31 [(.ref 52), (.ref 44)] σ = jbv (jc 23 [(.ref 44)] (jm_up (jm_up (jm_up σ 52 0 (1000 : Int32)) 52 1 (1000 : Int32)) 52 2 (1000 : Int32))) (fun τ1 => (if (τ1 44 1) ≤ 0 then jv 31 40 [some (.ref 52), some (.ref 44), some (.int (0 : Int32)), some (.int (0 : Int32))] [] τ1 else jv 31 40 [some (.ref 52), some (.ref 44), some (.int (1 : Int32)), some (.int (0 : Int32))] [] τ1)) := by
  refine (jc_of (ls1 := [some (.ref 52), some (.ref 44), none, none]) ((jm_ini_of jM31).trans rfl)).trans ?_
  refine (sv_aload_n jM31 c31_0 rfl rfl).trans ?_
  refine (sv_sipush jM31 c31_1 rfl (v := 1000) (by decide +kernel)).trans ?_
  refine (sv_putf jM31 c31_4 rfl lf_5_11 (pf_52_0 _ _)).trans ?_
  refine (sv_aload_n jM31 c31_7 rfl rfl).trans ?_
  refine (sv_sipush jM31 c31_8 rfl (v := 1000) (by decide +kernel)).trans ?_
  refine (sv_putf jM31 c31_11 rfl lf_5_15 (pf_52_1 _ _)).trans ?_
  refine (sv_aload_n jM31 c31_14 rfl rfl).trans ?_
  refine (sv_sipush jM31 c31_15 rfl (v := 1000) (by decide +kernel)).trans ?_
  refine (sv_putf jM31 c31_18 rfl lf_5_18 (pf_52_2 _ _)).trans ?_
  refine (sv_aload_n jM31 c31_21 rfl rfl).trans ?_
  refine (sv_callvv (pl := 0) jM31 c31_22 rfl (jm_call_v (a := 44) (as := []) (rest := []) lm_5_21 rfl jM23 rfl rfl rfl rfl rfl) jM23 rfl rfl).trans ?_
  refine jbv_c (fun τ1 => ?_)
  refine (sv_aload_n jM31 c31_25 rfl rfl).trans ?_
  refine (sv_getf jM31 c31_26 rfl lf_5_26 (fg_44_1 _)).trans ?_
  refine (sv_if_le jM31 c31_29 rfl (t := 36) (by decide +kernel)).trans ?_
  refine jif _ ?_ ?_
  ·
    refine (sv_iconst jM31 c31_36 rfl (v := 0) (by decide +kernel)).trans ?_
    refine (sv_istore_n (ls1 := [some (.ref 52), some (.ref 44), some (.int (0 : Int32)), none]) jM31 c31_37 rfl (Nat.lt_of_lt_of_eq (by decide +kernel : 2 < 4) rfl) rfl).trans ?_
    refine (sv_iconst jM31 c31_38 rfl (v := 0) (by decide +kernel)).trans ?_
    refine (sv_istore_n (ls1 := [some (.ref 52), some (.ref 44), some (.int (0 : Int32)), some (.int (0 : Int32))]) jM31 c31_39 rfl (Nat.lt_of_lt_of_eq (by decide +kernel : 3 < 4) rfl) rfl).trans ?_
    rfl
  ·
    refine (sv_iconst jM31 c31_32 rfl (v := 1) (by decide +kernel)).trans ?_
    refine (sv_goto jM31 c31_33 rfl (t := 37) (by decide +kernel)).trans ?_
    refine (sv_istore_n (ls1 := [some (.ref 52), some (.ref 44), some (.int (1 : Int32)), none]) jM31 c31_37 rfl (Nat.lt_of_lt_of_eq (by decide +kernel : 2 < 4) rfl) rfl).trans ?_
    refine (sv_iconst jM31 c31_38 rfl (v := 0) (by decide +kernel)).trans ?_
    refine (sv_istore_n (ls1 := [some (.ref 52), some (.ref 44), some (.int (1 : Int32)), some (.int (0 : Int32))]) jM31 c31_39 rfl (Nat.lt_of_lt_of_eq (by decide +kernel : 3 < 4) rfl) rfl).trans ?_
    rfl
set_option maxRecDepth 20000 in
set_option maxHeartbeats 4000000 in
theorem Rule_follow_52_44_L40 (x2 : Int32) (x3 : Int32) (σ : jm_S) : jv 31 40 [some (.ref 52), some (.ref 44), some (.int x2), some (.int x3)] [] σ = (if x2 = 0 then some (none, σ) else (if (30 : Int32) < x3 then some (none, σ) else jbv (jc 32 [(.ref 52), (.ref 44)] σ) (fun τ1 => jbi (jc 30 [(.ref 44), (.int (124 : Int32))] τ1) (fun r2 τ2 => jv 31 40 [some (.ref 52), some (.ref 44), some (.int r2), some (.int (x3 + 1))] [] τ2)))) := by
  refine (sv_iload_n jM31 c31_40 rfl rfl).trans ?_
  refine (sv_if_eq jM31 c31_41 rfl (t := 68) (by decide +kernel)).trans ?_
  refine jif _ ?_ ?_
  ·
    exact sv_vret jM31 c31_68 rfl rfl
  ·
    refine (sv_iload_n jM31 c31_44 rfl rfl).trans ?_
    refine (sv_bipush jM31 c31_45 rfl (v := 30) (by decide +kernel)).trans ?_
    refine (sv_icmp_gt jM31 c31_47 rfl (t := 68) (by decide +kernel)).trans ?_
    refine jif _ ?_ ?_
    ·
      exact sv_vret jM31 c31_68 rfl rfl
    ·
      refine (sv_aload_n jM31 c31_50 rfl rfl).trans ?_
      refine (sv_aload_n jM31 c31_51 rfl rfl).trans ?_
      refine (sv_callvv (pl := 0) jM31 c31_52 rfl (jm_call_v (a := 52) (as := [(.ref 44)]) (rest := []) lm_5_29 rfl jM32 rfl rfl rfl rfl rfl) jM32 rfl rfl).trans ?_
      refine jbv_c (fun τ1 => ?_)
      refine (sv_aload_n jM31 c31_55 rfl rfl).trans ?_
      refine (sv_bipush jM31 c31_56 rfl (v := 124) (by decide +kernel)).trans ?_
      refine (sv_callvi (pl := 0) jM31 c31_58 rfl (jm_call_v (a := 44) (as := [(.int (124 : Int32))]) (rest := []) lm_5_33 rfl jM30 rfl rfl rfl rfl rfl) jM30 rfl (Or.inr rfl)).trans ?_
      refine jbi_c (fun r2 τ2 => ?_)
      refine (sv_istore_n (ls1 := [some (.ref 52), some (.ref 44), some (.int r2), some (.int x3)]) jM31 c31_61 rfl (Nat.lt_of_lt_of_eq (by decide +kernel : 2 < 4) rfl) rfl).trans ?_
      refine (sv_iinc (ls1 := [some (.ref 52), some (.ref 44), some (.int r2), some (.int (x3 + 1))]) jM31 c31_62 rfl rfl (v := 1) (by decide +kernel) rfl).trans ?_
      refine (sv_goto jM31 c31_65 rfl (t := 40) (by decide +kernel)).trans ?_
      rfl
set_option maxRecDepth 20000 in
set_option maxHeartbeats 4000000 in
theorem Rule_follow_46_47_in (σ : jm_S) : jc 31 [(.ref 46), (.ref 47)] σ = jbv (jc 23 [(.ref 47)] (jm_up (jm_up (jm_up σ 46 0 (1000 : Int32)) 46 1 (1000 : Int32)) 46 2 (1000 : Int32))) (fun τ1 => (if (τ1 47 1) ≤ 0 then jv 31 40 [some (.ref 46), some (.ref 47), some (.int (0 : Int32)), some (.int (0 : Int32))] [] τ1 else jv 31 40 [some (.ref 46), some (.ref 47), some (.int (1 : Int32)), some (.int (0 : Int32))] [] τ1)) := by
  refine (jc_of (ls1 := [some (.ref 46), some (.ref 47), none, none]) ((jm_ini_of jM31).trans rfl)).trans ?_
  refine (sv_aload_n jM31 c31_0 rfl rfl).trans ?_
  refine (sv_sipush jM31 c31_1 rfl (v := 1000) (by decide +kernel)).trans ?_
  refine (sv_putf jM31 c31_4 rfl lf_5_11 (pf_46_0 _ _)).trans ?_
  refine (sv_aload_n jM31 c31_7 rfl rfl).trans ?_
  refine (sv_sipush jM31 c31_8 rfl (v := 1000) (by decide +kernel)).trans ?_
  refine (sv_putf jM31 c31_11 rfl lf_5_15 (pf_46_1 _ _)).trans ?_
  refine (sv_aload_n jM31 c31_14 rfl rfl).trans ?_
  refine (sv_sipush jM31 c31_15 rfl (v := 1000) (by decide +kernel)).trans ?_
  refine (sv_putf jM31 c31_18 rfl lf_5_18 (pf_46_2 _ _)).trans ?_
  refine (sv_aload_n jM31 c31_21 rfl rfl).trans ?_
  refine (sv_callvv (pl := 0) jM31 c31_22 rfl (jm_call_v (a := 47) (as := []) (rest := []) lm_5_21 rfl jM23 rfl rfl rfl rfl rfl) jM23 rfl rfl).trans ?_
  refine jbv_c (fun τ1 => ?_)
  refine (sv_aload_n jM31 c31_25 rfl rfl).trans ?_
  refine (sv_getf jM31 c31_26 rfl lf_5_26 (fg_47_1 _)).trans ?_
  refine (sv_if_le jM31 c31_29 rfl (t := 36) (by decide +kernel)).trans ?_
  refine jif _ ?_ ?_
  ·
    refine (sv_iconst jM31 c31_36 rfl (v := 0) (by decide +kernel)).trans ?_
    refine (sv_istore_n (ls1 := [some (.ref 46), some (.ref 47), some (.int (0 : Int32)), none]) jM31 c31_37 rfl (Nat.lt_of_lt_of_eq (by decide +kernel : 2 < 4) rfl) rfl).trans ?_
    refine (sv_iconst jM31 c31_38 rfl (v := 0) (by decide +kernel)).trans ?_
    refine (sv_istore_n (ls1 := [some (.ref 46), some (.ref 47), some (.int (0 : Int32)), some (.int (0 : Int32))]) jM31 c31_39 rfl (Nat.lt_of_lt_of_eq (by decide +kernel : 3 < 4) rfl) rfl).trans ?_
    rfl
  ·
    refine (sv_iconst jM31 c31_32 rfl (v := 1) (by decide +kernel)).trans ?_
    refine (sv_goto jM31 c31_33 rfl (t := 37) (by decide +kernel)).trans ?_
    refine (sv_istore_n (ls1 := [some (.ref 46), some (.ref 47), some (.int (1 : Int32)), none]) jM31 c31_37 rfl (Nat.lt_of_lt_of_eq (by decide +kernel : 2 < 4) rfl) rfl).trans ?_
    refine (sv_iconst jM31 c31_38 rfl (v := 0) (by decide +kernel)).trans ?_
    refine (sv_istore_n (ls1 := [some (.ref 46), some (.ref 47), some (.int (1 : Int32)), some (.int (0 : Int32))]) jM31 c31_39 rfl (Nat.lt_of_lt_of_eq (by decide +kernel : 3 < 4) rfl) rfl).trans ?_
    rfl
set_option maxRecDepth 20000 in
set_option maxHeartbeats 4000000 in
theorem Rule_follow_46_47_L40 (x2 : Int32) (x3 : Int32) (σ : jm_S) : jv 31 40 [some (.ref 46), some (.ref 47), some (.int x2), some (.int x3)] [] σ = (if x2 = 0 then some (none, σ) else (if (30 : Int32) < x3 then some (none, σ) else jbv (jc 32 [(.ref 46), (.ref 47)] σ) (fun τ1 => jbi (jc 30 [(.ref 47), (.int (124 : Int32))] τ1) (fun r2 τ2 => jv 31 40 [some (.ref 46), some (.ref 47), some (.int r2), some (.int (x3 + 1))] [] τ2)))) := by
  refine (sv_iload_n jM31 c31_40 rfl rfl).trans ?_
  refine (sv_if_eq jM31 c31_41 rfl (t := 68) (by decide +kernel)).trans ?_
  refine jif _ ?_ ?_
  ·
    exact sv_vret jM31 c31_68 rfl rfl
  ·
    refine (sv_iload_n jM31 c31_44 rfl rfl).trans ?_
    refine (sv_bipush jM31 c31_45 rfl (v := 30) (by decide +kernel)).trans ?_
    refine (sv_icmp_gt jM31 c31_47 rfl (t := 68) (by decide +kernel)).trans ?_
    refine jif _ ?_ ?_
    ·
      exact sv_vret jM31 c31_68 rfl rfl
    ·
      refine (sv_aload_n jM31 c31_50 rfl rfl).trans ?_
      refine (sv_aload_n jM31 c31_51 rfl rfl).trans ?_
      refine (sv_callvv (pl := 0) jM31 c31_52 rfl (jm_call_v (a := 46) (as := [(.ref 47)]) (rest := []) lm_5_29 rfl jM32 rfl rfl rfl rfl rfl) jM32 rfl rfl).trans ?_
      refine jbv_c (fun τ1 => ?_)
      refine (sv_aload_n jM31 c31_55 rfl rfl).trans ?_
      refine (sv_bipush jM31 c31_56 rfl (v := 124) (by decide +kernel)).trans ?_
      refine (sv_callvi (pl := 0) jM31 c31_58 rfl (jm_call_v (a := 47) (as := [(.int (124 : Int32))]) (rest := []) lm_5_33 rfl jM30 rfl rfl rfl rfl rfl) jM30 rfl (Or.inr rfl)).trans ?_
      refine jbi_c (fun r2 τ2 => ?_)
      refine (sv_istore_n (ls1 := [some (.ref 46), some (.ref 47), some (.int r2), some (.int x3)]) jM31 c31_61 rfl (Nat.lt_of_lt_of_eq (by decide +kernel : 2 < 4) rfl) rfl).trans ?_
      refine (sv_iinc (ls1 := [some (.ref 46), some (.ref 47), some (.int r2), some (.int (x3 + 1))]) jM31 c31_62 rfl rfl (v := 1) (by decide +kernel) rfl).trans ?_
      refine (sv_goto jM31 c31_65 rfl (t := 40) (by decide +kernel)).trans ?_
      rfl
set_option maxRecDepth 20000 in
set_option maxHeartbeats 4000000 in
theorem Heating_follow_44_in (σ : jm_S) : jc 19 [(.ref 6), (.ref 44)] σ = jbv (jc 20 [(.ref 6)] σ) (fun τ1 => jbv (jc 23 [(.ref 44)] τ1) (fun τ2 => (if (τ2 44 1) ≤ 0 then jv 19 23 [some (.ref 6), some (.ref 44), some (.int (0 : Int32)), some (.int (0 : Int32))] [] τ2 else jv 19 23 [some (.ref 6), some (.ref 44), some (.int (1 : Int32)), some (.int (0 : Int32))] [] τ2))) := by
  refine (jc_of (ls1 := [some (.ref 6), some (.ref 44), none, none]) ((jm_ini_of jM19).trans rfl)).trans ?_
  refine (sv_aload_n jM19 c19_0 rfl rfl).trans ?_
  refine (sv_callvv (pl := 0) jM19 c19_1 rfl (jm_call_v (a := 6) (as := []) (rest := []) lm_4_26 rfl jM20 rfl rfl rfl rfl rfl) jM20 rfl rfl).trans ?_
  refine jbv_c (fun τ1 => ?_)
  refine (sv_aload_n jM19 c19_4 rfl rfl).trans ?_
  refine (sv_callvv (pl := 0) jM19 c19_5 rfl (jm_call_v (a := 44) (as := []) (rest := []) lm_4_29 rfl jM23 rfl rfl rfl rfl rfl) jM23 rfl rfl).trans ?_
  refine jbv_c (fun τ2 => ?_)
  refine (sv_aload_n jM19 c19_8 rfl rfl).trans ?_
  refine (sv_getf jM19 c19_9 rfl lf_4_34 (fg_44_1 _)).trans ?_
  refine (sv_if_le jM19 c19_12 rfl (t := 19) (by decide +kernel)).trans ?_
  refine jif _ ?_ ?_
  ·
    refine (sv_iconst jM19 c19_19 rfl (v := 0) (by decide +kernel)).trans ?_
    refine (sv_istore_n (ls1 := [some (.ref 6), some (.ref 44), some (.int (0 : Int32)), none]) jM19 c19_20 rfl (Nat.lt_of_lt_of_eq (by decide +kernel : 2 < 4) rfl) rfl).trans ?_
    refine (sv_iconst jM19 c19_21 rfl (v := 0) (by decide +kernel)).trans ?_
    refine (sv_istore_n (ls1 := [some (.ref 6), some (.ref 44), some (.int (0 : Int32)), some (.int (0 : Int32))]) jM19 c19_22 rfl (Nat.lt_of_lt_of_eq (by decide +kernel : 3 < 4) rfl) rfl).trans ?_
    rfl
  ·
    refine (sv_iconst jM19 c19_15 rfl (v := 1) (by decide +kernel)).trans ?_
    refine (sv_goto jM19 c19_16 rfl (t := 20) (by decide +kernel)).trans ?_
    refine (sv_istore_n (ls1 := [some (.ref 6), some (.ref 44), some (.int (1 : Int32)), none]) jM19 c19_20 rfl (Nat.lt_of_lt_of_eq (by decide +kernel : 2 < 4) rfl) rfl).trans ?_
    refine (sv_iconst jM19 c19_21 rfl (v := 0) (by decide +kernel)).trans ?_
    refine (sv_istore_n (ls1 := [some (.ref 6), some (.ref 44), some (.int (1 : Int32)), some (.int (0 : Int32))]) jM19 c19_22 rfl (Nat.lt_of_lt_of_eq (by decide +kernel : 3 < 4) rfl) rfl).trans ?_
    rfl
set_option maxRecDepth 20000 in
set_option maxHeartbeats 4000000 in
theorem Heating_follow_44_L23 (x2 : Int32) (x3 : Int32) (σ : jm_S) : jv 19 23 [some (.ref 6), some (.ref 44), some (.int x2), some (.int x3)] [] σ = (if x2 = 0 then (if (σ 44 3) = (-1 : Int32) then some (none, σ) else jbv (jc 20 [(.ref 6)] σ) (fun τ1 => some (none, τ1))) else (if (60 : Int32) < x3 then (if (σ 44 3) = (-1 : Int32) then some (none, σ) else jbv (jc 20 [(.ref 6)] σ) (fun τ2 => some (none, τ2))) else jbv (jc 24 [(.ref 6), (.ref 44)] σ) (fun τ3 => jbi (jc 30 [(.ref 44), (.int (59 : Int32))] τ3) (fun r4 τ4 => jv 19 23 [some (.ref 6), some (.ref 44), some (.int r4), some (.int (x3 + 1))] [] τ4)))) := by
  refine (sv_iload_n jM19 c19_23 rfl rfl).trans ?_
  refine (sv_if_eq jM19 c19_24 rfl (t := 51) (by decide +kernel)).trans ?_
  refine jif _ ?_ ?_
  ·
    refine (sv_aload_n jM19 c19_51 rfl rfl).trans ?_
    refine (sv_getf jM19 c19_52 rfl lf_4_45 (fg_44_3 _)).trans ?_
    refine (sv_iconst jM19 c19_55 rfl (v := -1) (by decide +kernel)).trans ?_
    refine (sv_icmp_eq jM19 c19_56 rfl (t := 63) (by decide +kernel)).trans ?_
    refine jif _ ?_ ?_
    ·
      exact sv_vret jM19 c19_63 rfl rfl
    ·
      refine (sv_aload_n jM19 c19_59 rfl rfl).trans ?_
      refine (sv_callvv (pl := 0) jM19 c19_60 rfl (jm_call_v (a := 6) (as := []) (rest := []) lm_4_26 rfl jM20 rfl rfl rfl rfl rfl) jM20 rfl rfl).trans ?_
      refine jbv_c (fun τ1 => ?_)
      exact sv_vret jM19 c19_63 rfl rfl
  ·
    refine (sv_iload_n jM19 c19_27 rfl rfl).trans ?_
    refine (sv_bipush jM19 c19_28 rfl (v := 60) (by decide +kernel)).trans ?_
    refine (sv_icmp_gt jM19 c19_30 rfl (t := 51) (by decide +kernel)).trans ?_
    refine jif _ ?_ ?_
    ·
      refine (sv_aload_n jM19 c19_51 rfl rfl).trans ?_
      refine (sv_getf jM19 c19_52 rfl lf_4_45 (fg_44_3 _)).trans ?_
      refine (sv_iconst jM19 c19_55 rfl (v := -1) (by decide +kernel)).trans ?_
      refine (sv_icmp_eq jM19 c19_56 rfl (t := 63) (by decide +kernel)).trans ?_
      refine jif _ ?_ ?_
      ·
        exact sv_vret jM19 c19_63 rfl rfl
      ·
        refine (sv_aload_n jM19 c19_59 rfl rfl).trans ?_
        refine (sv_callvv (pl := 0) jM19 c19_60 rfl (jm_call_v (a := 6) (as := []) (rest := []) lm_4_26 rfl jM20 rfl rfl rfl rfl rfl) jM20 rfl rfl).trans ?_
        refine jbv_c (fun τ2 => ?_)
        exact sv_vret jM19 c19_63 rfl rfl
    ·
      refine (sv_aload_n jM19 c19_33 rfl rfl).trans ?_
      refine (sv_aload_n jM19 c19_34 rfl rfl).trans ?_
      refine (sv_callvv (pl := 0) jM19 c19_35 rfl (jm_call_v (a := 6) (as := [(.ref 44)]) (rest := []) lm_4_37 rfl jM24 rfl rfl rfl rfl rfl) jM24 rfl rfl).trans ?_
      refine jbv_c (fun τ3 => ?_)
      refine (sv_aload_n jM19 c19_38 rfl rfl).trans ?_
      refine (sv_bipush jM19 c19_39 rfl (v := 59) (by decide +kernel)).trans ?_
      refine (sv_callvi (pl := 0) jM19 c19_41 rfl (jm_call_v (a := 44) (as := [(.int (59 : Int32))]) (rest := []) lm_4_41 rfl jM30 rfl rfl rfl rfl rfl) jM30 rfl (Or.inr rfl)).trans ?_
      refine jbi_c (fun r4 τ4 => ?_)
      refine (sv_istore_n (ls1 := [some (.ref 6), some (.ref 44), some (.int r4), some (.int x3)]) jM19 c19_44 rfl (Nat.lt_of_lt_of_eq (by decide +kernel : 2 < 4) rfl) rfl).trans ?_
      refine (sv_iinc (ls1 := [some (.ref 6), some (.ref 44), some (.int r4), some (.int (x3 + 1))]) jM19 c19_45 rfl rfl (v := 1) (by decide +kernel) rfl).trans ?_
      refine (sv_goto jM19 c19_48 rfl (t := 23) (by decide +kernel)).trans ?_
      rfl
set_option maxRecDepth 20000 in
set_option maxHeartbeats 4000000 in
theorem Rule_follow_52_42_in (σ : jm_S) : jc 31 [(.ref 52), (.ref 42)] σ = jbv (jc 23 [(.ref 42)] (jm_up (jm_up (jm_up σ 52 0 (1000 : Int32)) 52 1 (1000 : Int32)) 52 2 (1000 : Int32))) (fun τ1 => (if (τ1 42 1) ≤ 0 then jv 31 40 [some (.ref 52), some (.ref 42), some (.int (0 : Int32)), some (.int (0 : Int32))] [] τ1 else jv 31 40 [some (.ref 52), some (.ref 42), some (.int (1 : Int32)), some (.int (0 : Int32))] [] τ1)) := by
  refine (jc_of (ls1 := [some (.ref 52), some (.ref 42), none, none]) ((jm_ini_of jM31).trans rfl)).trans ?_
  refine (sv_aload_n jM31 c31_0 rfl rfl).trans ?_
  refine (sv_sipush jM31 c31_1 rfl (v := 1000) (by decide +kernel)).trans ?_
  refine (sv_putf jM31 c31_4 rfl lf_5_11 (pf_52_0 _ _)).trans ?_
  refine (sv_aload_n jM31 c31_7 rfl rfl).trans ?_
  refine (sv_sipush jM31 c31_8 rfl (v := 1000) (by decide +kernel)).trans ?_
  refine (sv_putf jM31 c31_11 rfl lf_5_15 (pf_52_1 _ _)).trans ?_
  refine (sv_aload_n jM31 c31_14 rfl rfl).trans ?_
  refine (sv_sipush jM31 c31_15 rfl (v := 1000) (by decide +kernel)).trans ?_
  refine (sv_putf jM31 c31_18 rfl lf_5_18 (pf_52_2 _ _)).trans ?_
  refine (sv_aload_n jM31 c31_21 rfl rfl).trans ?_
  refine (sv_callvv (pl := 0) jM31 c31_22 rfl (jm_call_v (a := 42) (as := []) (rest := []) lm_5_21 rfl jM23 rfl rfl rfl rfl rfl) jM23 rfl rfl).trans ?_
  refine jbv_c (fun τ1 => ?_)
  refine (sv_aload_n jM31 c31_25 rfl rfl).trans ?_
  refine (sv_getf jM31 c31_26 rfl lf_5_26 (fg_42_1 _)).trans ?_
  refine (sv_if_le jM31 c31_29 rfl (t := 36) (by decide +kernel)).trans ?_
  refine jif _ ?_ ?_
  ·
    refine (sv_iconst jM31 c31_36 rfl (v := 0) (by decide +kernel)).trans ?_
    refine (sv_istore_n (ls1 := [some (.ref 52), some (.ref 42), some (.int (0 : Int32)), none]) jM31 c31_37 rfl (Nat.lt_of_lt_of_eq (by decide +kernel : 2 < 4) rfl) rfl).trans ?_
    refine (sv_iconst jM31 c31_38 rfl (v := 0) (by decide +kernel)).trans ?_
    refine (sv_istore_n (ls1 := [some (.ref 52), some (.ref 42), some (.int (0 : Int32)), some (.int (0 : Int32))]) jM31 c31_39 rfl (Nat.lt_of_lt_of_eq (by decide +kernel : 3 < 4) rfl) rfl).trans ?_
    rfl
  ·
    refine (sv_iconst jM31 c31_32 rfl (v := 1) (by decide +kernel)).trans ?_
    refine (sv_goto jM31 c31_33 rfl (t := 37) (by decide +kernel)).trans ?_
    refine (sv_istore_n (ls1 := [some (.ref 52), some (.ref 42), some (.int (1 : Int32)), none]) jM31 c31_37 rfl (Nat.lt_of_lt_of_eq (by decide +kernel : 2 < 4) rfl) rfl).trans ?_
    refine (sv_iconst jM31 c31_38 rfl (v := 0) (by decide +kernel)).trans ?_
    refine (sv_istore_n (ls1 := [some (.ref 52), some (.ref 42), some (.int (1 : Int32)), some (.int (0 : Int32))]) jM31 c31_39 rfl (Nat.lt_of_lt_of_eq (by decide +kernel : 3 < 4) rfl) rfl).trans ?_
    rfl
set_option maxRecDepth 20000 in
set_option maxHeartbeats 4000000 in
theorem Rule_follow_52_42_L40 (x2 : Int32) (x3 : Int32) (σ : jm_S) : jv 31 40 [some (.ref 52), some (.ref 42), some (.int x2), some (.int x3)] [] σ = (if x2 = 0 then some (none, σ) else (if (30 : Int32) < x3 then some (none, σ) else jbv (jc 32 [(.ref 52), (.ref 42)] σ) (fun τ1 => jbi (jc 30 [(.ref 42), (.int (124 : Int32))] τ1) (fun r2 τ2 => jv 31 40 [some (.ref 52), some (.ref 42), some (.int r2), some (.int (x3 + 1))] [] τ2)))) := by
  refine (sv_iload_n jM31 c31_40 rfl rfl).trans ?_
  refine (sv_if_eq jM31 c31_41 rfl (t := 68) (by decide +kernel)).trans ?_
  refine jif _ ?_ ?_
  ·
    exact sv_vret jM31 c31_68 rfl rfl
  ·
    refine (sv_iload_n jM31 c31_44 rfl rfl).trans ?_
    refine (sv_bipush jM31 c31_45 rfl (v := 30) (by decide +kernel)).trans ?_
    refine (sv_icmp_gt jM31 c31_47 rfl (t := 68) (by decide +kernel)).trans ?_
    refine jif _ ?_ ?_
    ·
      exact sv_vret jM31 c31_68 rfl rfl
    ·
      refine (sv_aload_n jM31 c31_50 rfl rfl).trans ?_
      refine (sv_aload_n jM31 c31_51 rfl rfl).trans ?_
      refine (sv_callvv (pl := 0) jM31 c31_52 rfl (jm_call_v (a := 52) (as := [(.ref 42)]) (rest := []) lm_5_29 rfl jM32 rfl rfl rfl rfl rfl) jM32 rfl rfl).trans ?_
      refine jbv_c (fun τ1 => ?_)
      refine (sv_aload_n jM31 c31_55 rfl rfl).trans ?_
      refine (sv_bipush jM31 c31_56 rfl (v := 124) (by decide +kernel)).trans ?_
      refine (sv_callvi (pl := 0) jM31 c31_58 rfl (jm_call_v (a := 42) (as := [(.int (124 : Int32))]) (rest := []) lm_5_33 rfl jM30 rfl rfl rfl rfl rfl) jM30 rfl (Or.inr rfl)).trans ?_
      refine jbi_c (fun r2 τ2 => ?_)
      refine (sv_istore_n (ls1 := [some (.ref 52), some (.ref 42), some (.int r2), some (.int x3)]) jM31 c31_61 rfl (Nat.lt_of_lt_of_eq (by decide +kernel : 2 < 4) rfl) rfl).trans ?_
      refine (sv_iinc (ls1 := [some (.ref 52), some (.ref 42), some (.int r2), some (.int (x3 + 1))]) jM31 c31_62 rfl rfl (v := 1) (by decide +kernel) rfl).trans ?_
      refine (sv_goto jM31 c31_65 rfl (t := 40) (by decide +kernel)).trans ?_
      rfl
set_option maxRecDepth 20000 in
set_option maxHeartbeats 4000000 in
theorem Rule_follow_49_50_in (σ : jm_S) : jc 31 [(.ref 49), (.ref 50)] σ = jbv (jc 23 [(.ref 50)] (jm_up (jm_up (jm_up σ 49 0 (1000 : Int32)) 49 1 (1000 : Int32)) 49 2 (1000 : Int32))) (fun τ1 => (if (τ1 50 1) ≤ 0 then jv 31 40 [some (.ref 49), some (.ref 50), some (.int (0 : Int32)), some (.int (0 : Int32))] [] τ1 else jv 31 40 [some (.ref 49), some (.ref 50), some (.int (1 : Int32)), some (.int (0 : Int32))] [] τ1)) := by
  refine (jc_of (ls1 := [some (.ref 49), some (.ref 50), none, none]) ((jm_ini_of jM31).trans rfl)).trans ?_
  refine (sv_aload_n jM31 c31_0 rfl rfl).trans ?_
  refine (sv_sipush jM31 c31_1 rfl (v := 1000) (by decide +kernel)).trans ?_
  refine (sv_putf jM31 c31_4 rfl lf_5_11 (pf_49_0 _ _)).trans ?_
  refine (sv_aload_n jM31 c31_7 rfl rfl).trans ?_
  refine (sv_sipush jM31 c31_8 rfl (v := 1000) (by decide +kernel)).trans ?_
  refine (sv_putf jM31 c31_11 rfl lf_5_15 (pf_49_1 _ _)).trans ?_
  refine (sv_aload_n jM31 c31_14 rfl rfl).trans ?_
  refine (sv_sipush jM31 c31_15 rfl (v := 1000) (by decide +kernel)).trans ?_
  refine (sv_putf jM31 c31_18 rfl lf_5_18 (pf_49_2 _ _)).trans ?_
  refine (sv_aload_n jM31 c31_21 rfl rfl).trans ?_
  refine (sv_callvv (pl := 0) jM31 c31_22 rfl (jm_call_v (a := 50) (as := []) (rest := []) lm_5_21 rfl jM23 rfl rfl rfl rfl rfl) jM23 rfl rfl).trans ?_
  refine jbv_c (fun τ1 => ?_)
  refine (sv_aload_n jM31 c31_25 rfl rfl).trans ?_
  refine (sv_getf jM31 c31_26 rfl lf_5_26 (fg_50_1 _)).trans ?_
  refine (sv_if_le jM31 c31_29 rfl (t := 36) (by decide +kernel)).trans ?_
  refine jif _ ?_ ?_
  ·
    refine (sv_iconst jM31 c31_36 rfl (v := 0) (by decide +kernel)).trans ?_
    refine (sv_istore_n (ls1 := [some (.ref 49), some (.ref 50), some (.int (0 : Int32)), none]) jM31 c31_37 rfl (Nat.lt_of_lt_of_eq (by decide +kernel : 2 < 4) rfl) rfl).trans ?_
    refine (sv_iconst jM31 c31_38 rfl (v := 0) (by decide +kernel)).trans ?_
    refine (sv_istore_n (ls1 := [some (.ref 49), some (.ref 50), some (.int (0 : Int32)), some (.int (0 : Int32))]) jM31 c31_39 rfl (Nat.lt_of_lt_of_eq (by decide +kernel : 3 < 4) rfl) rfl).trans ?_
    rfl
  ·
    refine (sv_iconst jM31 c31_32 rfl (v := 1) (by decide +kernel)).trans ?_
    refine (sv_goto jM31 c31_33 rfl (t := 37) (by decide +kernel)).trans ?_
    refine (sv_istore_n (ls1 := [some (.ref 49), some (.ref 50), some (.int (1 : Int32)), none]) jM31 c31_37 rfl (Nat.lt_of_lt_of_eq (by decide +kernel : 2 < 4) rfl) rfl).trans ?_
    refine (sv_iconst jM31 c31_38 rfl (v := 0) (by decide +kernel)).trans ?_
    refine (sv_istore_n (ls1 := [some (.ref 49), some (.ref 50), some (.int (1 : Int32)), some (.int (0 : Int32))]) jM31 c31_39 rfl (Nat.lt_of_lt_of_eq (by decide +kernel : 3 < 4) rfl) rfl).trans ?_
    rfl
set_option maxRecDepth 20000 in
set_option maxHeartbeats 4000000 in
theorem Rule_follow_49_50_L40 (x2 : Int32) (x3 : Int32) (σ : jm_S) : jv 31 40 [some (.ref 49), some (.ref 50), some (.int x2), some (.int x3)] [] σ = (if x2 = 0 then some (none, σ) else (if (30 : Int32) < x3 then some (none, σ) else jbv (jc 32 [(.ref 49), (.ref 50)] σ) (fun τ1 => jbi (jc 30 [(.ref 50), (.int (124 : Int32))] τ1) (fun r2 τ2 => jv 31 40 [some (.ref 49), some (.ref 50), some (.int r2), some (.int (x3 + 1))] [] τ2)))) := by
  refine (sv_iload_n jM31 c31_40 rfl rfl).trans ?_
  refine (sv_if_eq jM31 c31_41 rfl (t := 68) (by decide +kernel)).trans ?_
  refine jif _ ?_ ?_
  ·
    exact sv_vret jM31 c31_68 rfl rfl
  ·
    refine (sv_iload_n jM31 c31_44 rfl rfl).trans ?_
    refine (sv_bipush jM31 c31_45 rfl (v := 30) (by decide +kernel)).trans ?_
    refine (sv_icmp_gt jM31 c31_47 rfl (t := 68) (by decide +kernel)).trans ?_
    refine jif _ ?_ ?_
    ·
      exact sv_vret jM31 c31_68 rfl rfl
    ·
      refine (sv_aload_n jM31 c31_50 rfl rfl).trans ?_
      refine (sv_aload_n jM31 c31_51 rfl rfl).trans ?_
      refine (sv_callvv (pl := 0) jM31 c31_52 rfl (jm_call_v (a := 49) (as := [(.ref 50)]) (rest := []) lm_5_29 rfl jM32 rfl rfl rfl rfl rfl) jM32 rfl rfl).trans ?_
      refine jbv_c (fun τ1 => ?_)
      refine (sv_aload_n jM31 c31_55 rfl rfl).trans ?_
      refine (sv_bipush jM31 c31_56 rfl (v := 124) (by decide +kernel)).trans ?_
      refine (sv_callvi (pl := 0) jM31 c31_58 rfl (jm_call_v (a := 50) (as := [(.int (124 : Int32))]) (rest := []) lm_5_33 rfl jM30 rfl rfl rfl rfl rfl) jM30 rfl (Or.inr rfl)).trans ?_
      refine jbi_c (fun r2 τ2 => ?_)
      refine (sv_istore_n (ls1 := [some (.ref 49), some (.ref 50), some (.int r2), some (.int x3)]) jM31 c31_61 rfl (Nat.lt_of_lt_of_eq (by decide +kernel : 2 < 4) rfl) rfl).trans ?_
      refine (sv_iinc (ls1 := [some (.ref 49), some (.ref 50), some (.int r2), some (.int (x3 + 1))]) jM31 c31_62 rfl rfl (v := 1) (by decide +kernel) rfl).trans ?_
      refine (sv_goto jM31 c31_65 rfl (t := 40) (by decide +kernel)).trans ?_
      rfl
set_option maxRecDepth 20000 in
set_option maxHeartbeats 4000000 in
theorem Heating_follow_42_in (σ : jm_S) : jc 19 [(.ref 6), (.ref 42)] σ = jbv (jc 20 [(.ref 6)] σ) (fun τ1 => jbv (jc 23 [(.ref 42)] τ1) (fun τ2 => (if (τ2 42 1) ≤ 0 then jv 19 23 [some (.ref 6), some (.ref 42), some (.int (0 : Int32)), some (.int (0 : Int32))] [] τ2 else jv 19 23 [some (.ref 6), some (.ref 42), some (.int (1 : Int32)), some (.int (0 : Int32))] [] τ2))) := by
  refine (jc_of (ls1 := [some (.ref 6), some (.ref 42), none, none]) ((jm_ini_of jM19).trans rfl)).trans ?_
  refine (sv_aload_n jM19 c19_0 rfl rfl).trans ?_
  refine (sv_callvv (pl := 0) jM19 c19_1 rfl (jm_call_v (a := 6) (as := []) (rest := []) lm_4_26 rfl jM20 rfl rfl rfl rfl rfl) jM20 rfl rfl).trans ?_
  refine jbv_c (fun τ1 => ?_)
  refine (sv_aload_n jM19 c19_4 rfl rfl).trans ?_
  refine (sv_callvv (pl := 0) jM19 c19_5 rfl (jm_call_v (a := 42) (as := []) (rest := []) lm_4_29 rfl jM23 rfl rfl rfl rfl rfl) jM23 rfl rfl).trans ?_
  refine jbv_c (fun τ2 => ?_)
  refine (sv_aload_n jM19 c19_8 rfl rfl).trans ?_
  refine (sv_getf jM19 c19_9 rfl lf_4_34 (fg_42_1 _)).trans ?_
  refine (sv_if_le jM19 c19_12 rfl (t := 19) (by decide +kernel)).trans ?_
  refine jif _ ?_ ?_
  ·
    refine (sv_iconst jM19 c19_19 rfl (v := 0) (by decide +kernel)).trans ?_
    refine (sv_istore_n (ls1 := [some (.ref 6), some (.ref 42), some (.int (0 : Int32)), none]) jM19 c19_20 rfl (Nat.lt_of_lt_of_eq (by decide +kernel : 2 < 4) rfl) rfl).trans ?_
    refine (sv_iconst jM19 c19_21 rfl (v := 0) (by decide +kernel)).trans ?_
    refine (sv_istore_n (ls1 := [some (.ref 6), some (.ref 42), some (.int (0 : Int32)), some (.int (0 : Int32))]) jM19 c19_22 rfl (Nat.lt_of_lt_of_eq (by decide +kernel : 3 < 4) rfl) rfl).trans ?_
    rfl
  ·
    refine (sv_iconst jM19 c19_15 rfl (v := 1) (by decide +kernel)).trans ?_
    refine (sv_goto jM19 c19_16 rfl (t := 20) (by decide +kernel)).trans ?_
    refine (sv_istore_n (ls1 := [some (.ref 6), some (.ref 42), some (.int (1 : Int32)), none]) jM19 c19_20 rfl (Nat.lt_of_lt_of_eq (by decide +kernel : 2 < 4) rfl) rfl).trans ?_
    refine (sv_iconst jM19 c19_21 rfl (v := 0) (by decide +kernel)).trans ?_
    refine (sv_istore_n (ls1 := [some (.ref 6), some (.ref 42), some (.int (1 : Int32)), some (.int (0 : Int32))]) jM19 c19_22 rfl (Nat.lt_of_lt_of_eq (by decide +kernel : 3 < 4) rfl) rfl).trans ?_
    rfl
set_option maxRecDepth 20000 in
set_option maxHeartbeats 4000000 in
theorem Heating_follow_42_L23 (x2 : Int32) (x3 : Int32) (σ : jm_S) : jv 19 23 [some (.ref 6), some (.ref 42), some (.int x2), some (.int x3)] [] σ = (if x2 = 0 then (if (σ 42 3) = (-1 : Int32) then some (none, σ) else jbv (jc 20 [(.ref 6)] σ) (fun τ1 => some (none, τ1))) else (if (60 : Int32) < x3 then (if (σ 42 3) = (-1 : Int32) then some (none, σ) else jbv (jc 20 [(.ref 6)] σ) (fun τ2 => some (none, τ2))) else jbv (jc 24 [(.ref 6), (.ref 42)] σ) (fun τ3 => jbi (jc 30 [(.ref 42), (.int (59 : Int32))] τ3) (fun r4 τ4 => jv 19 23 [some (.ref 6), some (.ref 42), some (.int r4), some (.int (x3 + 1))] [] τ4)))) := by
  refine (sv_iload_n jM19 c19_23 rfl rfl).trans ?_
  refine (sv_if_eq jM19 c19_24 rfl (t := 51) (by decide +kernel)).trans ?_
  refine jif _ ?_ ?_
  ·
    refine (sv_aload_n jM19 c19_51 rfl rfl).trans ?_
    refine (sv_getf jM19 c19_52 rfl lf_4_45 (fg_42_3 _)).trans ?_
    refine (sv_iconst jM19 c19_55 rfl (v := -1) (by decide +kernel)).trans ?_
    refine (sv_icmp_eq jM19 c19_56 rfl (t := 63) (by decide +kernel)).trans ?_
    refine jif _ ?_ ?_
    ·
      exact sv_vret jM19 c19_63 rfl rfl
    ·
      refine (sv_aload_n jM19 c19_59 rfl rfl).trans ?_
      refine (sv_callvv (pl := 0) jM19 c19_60 rfl (jm_call_v (a := 6) (as := []) (rest := []) lm_4_26 rfl jM20 rfl rfl rfl rfl rfl) jM20 rfl rfl).trans ?_
      refine jbv_c (fun τ1 => ?_)
      exact sv_vret jM19 c19_63 rfl rfl
  ·
    refine (sv_iload_n jM19 c19_27 rfl rfl).trans ?_
    refine (sv_bipush jM19 c19_28 rfl (v := 60) (by decide +kernel)).trans ?_
    refine (sv_icmp_gt jM19 c19_30 rfl (t := 51) (by decide +kernel)).trans ?_
    refine jif _ ?_ ?_
    ·
      refine (sv_aload_n jM19 c19_51 rfl rfl).trans ?_
      refine (sv_getf jM19 c19_52 rfl lf_4_45 (fg_42_3 _)).trans ?_
      refine (sv_iconst jM19 c19_55 rfl (v := -1) (by decide +kernel)).trans ?_
      refine (sv_icmp_eq jM19 c19_56 rfl (t := 63) (by decide +kernel)).trans ?_
      refine jif _ ?_ ?_
      ·
        exact sv_vret jM19 c19_63 rfl rfl
      ·
        refine (sv_aload_n jM19 c19_59 rfl rfl).trans ?_
        refine (sv_callvv (pl := 0) jM19 c19_60 rfl (jm_call_v (a := 6) (as := []) (rest := []) lm_4_26 rfl jM20 rfl rfl rfl rfl rfl) jM20 rfl rfl).trans ?_
        refine jbv_c (fun τ2 => ?_)
        exact sv_vret jM19 c19_63 rfl rfl
    ·
      refine (sv_aload_n jM19 c19_33 rfl rfl).trans ?_
      refine (sv_aload_n jM19 c19_34 rfl rfl).trans ?_
      refine (sv_callvv (pl := 0) jM19 c19_35 rfl (jm_call_v (a := 6) (as := [(.ref 42)]) (rest := []) lm_4_37 rfl jM24 rfl rfl rfl rfl rfl) jM24 rfl rfl).trans ?_
      refine jbv_c (fun τ3 => ?_)
      refine (sv_aload_n jM19 c19_38 rfl rfl).trans ?_
      refine (sv_bipush jM19 c19_39 rfl (v := 59) (by decide +kernel)).trans ?_
      refine (sv_callvi (pl := 0) jM19 c19_41 rfl (jm_call_v (a := 42) (as := [(.int (59 : Int32))]) (rest := []) lm_4_41 rfl jM30 rfl rfl rfl rfl rfl) jM30 rfl (Or.inr rfl)).trans ?_
      refine jbi_c (fun r4 τ4 => ?_)
      refine (sv_istore_n (ls1 := [some (.ref 6), some (.ref 42), some (.int r4), some (.int x3)]) jM19 c19_44 rfl (Nat.lt_of_lt_of_eq (by decide +kernel : 2 < 4) rfl) rfl).trans ?_
      refine (sv_iinc (ls1 := [some (.ref 6), some (.ref 42), some (.int r4), some (.int (x3 + 1))]) jM19 c19_45 rfl rfl (v := 1) (by decide +kernel) rfl).trans ?_
      refine (sv_goto jM19 c19_48 rfl (t := 23) (by decide +kernel)).trans ?_
      rfl
set_option maxRecDepth 20000 in
set_option maxHeartbeats 4000000 in
theorem Rule_follow_52_50_in (σ : jm_S) : jc 31 [(.ref 52), (.ref 50)] σ = jbv (jc 23 [(.ref 50)] (jm_up (jm_up (jm_up σ 52 0 (1000 : Int32)) 52 1 (1000 : Int32)) 52 2 (1000 : Int32))) (fun τ1 => (if (τ1 50 1) ≤ 0 then jv 31 40 [some (.ref 52), some (.ref 50), some (.int (0 : Int32)), some (.int (0 : Int32))] [] τ1 else jv 31 40 [some (.ref 52), some (.ref 50), some (.int (1 : Int32)), some (.int (0 : Int32))] [] τ1)) := by
  refine (jc_of (ls1 := [some (.ref 52), some (.ref 50), none, none]) ((jm_ini_of jM31).trans rfl)).trans ?_
  refine (sv_aload_n jM31 c31_0 rfl rfl).trans ?_
  refine (sv_sipush jM31 c31_1 rfl (v := 1000) (by decide +kernel)).trans ?_
  refine (sv_putf jM31 c31_4 rfl lf_5_11 (pf_52_0 _ _)).trans ?_
  refine (sv_aload_n jM31 c31_7 rfl rfl).trans ?_
  refine (sv_sipush jM31 c31_8 rfl (v := 1000) (by decide +kernel)).trans ?_
  refine (sv_putf jM31 c31_11 rfl lf_5_15 (pf_52_1 _ _)).trans ?_
  refine (sv_aload_n jM31 c31_14 rfl rfl).trans ?_
  refine (sv_sipush jM31 c31_15 rfl (v := 1000) (by decide +kernel)).trans ?_
  refine (sv_putf jM31 c31_18 rfl lf_5_18 (pf_52_2 _ _)).trans ?_
  refine (sv_aload_n jM31 c31_21 rfl rfl).trans ?_
  refine (sv_callvv (pl := 0) jM31 c31_22 rfl (jm_call_v (a := 50) (as := []) (rest := []) lm_5_21 rfl jM23 rfl rfl rfl rfl rfl) jM23 rfl rfl).trans ?_
  refine jbv_c (fun τ1 => ?_)
  refine (sv_aload_n jM31 c31_25 rfl rfl).trans ?_
  refine (sv_getf jM31 c31_26 rfl lf_5_26 (fg_50_1 _)).trans ?_
  refine (sv_if_le jM31 c31_29 rfl (t := 36) (by decide +kernel)).trans ?_
  refine jif _ ?_ ?_
  ·
    refine (sv_iconst jM31 c31_36 rfl (v := 0) (by decide +kernel)).trans ?_
    refine (sv_istore_n (ls1 := [some (.ref 52), some (.ref 50), some (.int (0 : Int32)), none]) jM31 c31_37 rfl (Nat.lt_of_lt_of_eq (by decide +kernel : 2 < 4) rfl) rfl).trans ?_
    refine (sv_iconst jM31 c31_38 rfl (v := 0) (by decide +kernel)).trans ?_
    refine (sv_istore_n (ls1 := [some (.ref 52), some (.ref 50), some (.int (0 : Int32)), some (.int (0 : Int32))]) jM31 c31_39 rfl (Nat.lt_of_lt_of_eq (by decide +kernel : 3 < 4) rfl) rfl).trans ?_
    rfl
  ·
    refine (sv_iconst jM31 c31_32 rfl (v := 1) (by decide +kernel)).trans ?_
    refine (sv_goto jM31 c31_33 rfl (t := 37) (by decide +kernel)).trans ?_
    refine (sv_istore_n (ls1 := [some (.ref 52), some (.ref 50), some (.int (1 : Int32)), none]) jM31 c31_37 rfl (Nat.lt_of_lt_of_eq (by decide +kernel : 2 < 4) rfl) rfl).trans ?_
    refine (sv_iconst jM31 c31_38 rfl (v := 0) (by decide +kernel)).trans ?_
    refine (sv_istore_n (ls1 := [some (.ref 52), some (.ref 50), some (.int (1 : Int32)), some (.int (0 : Int32))]) jM31 c31_39 rfl (Nat.lt_of_lt_of_eq (by decide +kernel : 3 < 4) rfl) rfl).trans ?_
    rfl
set_option maxRecDepth 20000 in
set_option maxHeartbeats 4000000 in
theorem Rule_follow_52_50_L40 (x2 : Int32) (x3 : Int32) (σ : jm_S) : jv 31 40 [some (.ref 52), some (.ref 50), some (.int x2), some (.int x3)] [] σ = (if x2 = 0 then some (none, σ) else (if (30 : Int32) < x3 then some (none, σ) else jbv (jc 32 [(.ref 52), (.ref 50)] σ) (fun τ1 => jbi (jc 30 [(.ref 50), (.int (124 : Int32))] τ1) (fun r2 τ2 => jv 31 40 [some (.ref 52), some (.ref 50), some (.int r2), some (.int (x3 + 1))] [] τ2)))) := by
  refine (sv_iload_n jM31 c31_40 rfl rfl).trans ?_
  refine (sv_if_eq jM31 c31_41 rfl (t := 68) (by decide +kernel)).trans ?_
  refine jif _ ?_ ?_
  ·
    exact sv_vret jM31 c31_68 rfl rfl
  ·
    refine (sv_iload_n jM31 c31_44 rfl rfl).trans ?_
    refine (sv_bipush jM31 c31_45 rfl (v := 30) (by decide +kernel)).trans ?_
    refine (sv_icmp_gt jM31 c31_47 rfl (t := 68) (by decide +kernel)).trans ?_
    refine jif _ ?_ ?_
    ·
      exact sv_vret jM31 c31_68 rfl rfl
    ·
      refine (sv_aload_n jM31 c31_50 rfl rfl).trans ?_
      refine (sv_aload_n jM31 c31_51 rfl rfl).trans ?_
      refine (sv_callvv (pl := 0) jM31 c31_52 rfl (jm_call_v (a := 52) (as := [(.ref 50)]) (rest := []) lm_5_29 rfl jM32 rfl rfl rfl rfl rfl) jM32 rfl rfl).trans ?_
      refine jbv_c (fun τ1 => ?_)
      refine (sv_aload_n jM31 c31_55 rfl rfl).trans ?_
      refine (sv_bipush jM31 c31_56 rfl (v := 124) (by decide +kernel)).trans ?_
      refine (sv_callvi (pl := 0) jM31 c31_58 rfl (jm_call_v (a := 50) (as := [(.int (124 : Int32))]) (rest := []) lm_5_33 rfl jM30 rfl rfl rfl rfl rfl) jM30 rfl (Or.inr rfl)).trans ?_
      refine jbi_c (fun r2 τ2 => ?_)
      refine (sv_istore_n (ls1 := [some (.ref 52), some (.ref 50), some (.int r2), some (.int x3)]) jM31 c31_61 rfl (Nat.lt_of_lt_of_eq (by decide +kernel : 2 < 4) rfl) rfl).trans ?_
      refine (sv_iinc (ls1 := [some (.ref 52), some (.ref 50), some (.int r2), some (.int (x3 + 1))]) jM31 c31_62 rfl rfl (v := 1) (by decide +kernel) rfl).trans ?_
      refine (sv_goto jM31 c31_65 rfl (t := 40) (by decide +kernel)).trans ?_
      rfl
set_option maxRecDepth 20000 in
set_option maxHeartbeats 4000000 in
theorem Rule_follow_49_47_in (σ : jm_S) : jc 31 [(.ref 49), (.ref 47)] σ = jbv (jc 23 [(.ref 47)] (jm_up (jm_up (jm_up σ 49 0 (1000 : Int32)) 49 1 (1000 : Int32)) 49 2 (1000 : Int32))) (fun τ1 => (if (τ1 47 1) ≤ 0 then jv 31 40 [some (.ref 49), some (.ref 47), some (.int (0 : Int32)), some (.int (0 : Int32))] [] τ1 else jv 31 40 [some (.ref 49), some (.ref 47), some (.int (1 : Int32)), some (.int (0 : Int32))] [] τ1)) := by
  refine (jc_of (ls1 := [some (.ref 49), some (.ref 47), none, none]) ((jm_ini_of jM31).trans rfl)).trans ?_
  refine (sv_aload_n jM31 c31_0 rfl rfl).trans ?_
  refine (sv_sipush jM31 c31_1 rfl (v := 1000) (by decide +kernel)).trans ?_
  refine (sv_putf jM31 c31_4 rfl lf_5_11 (pf_49_0 _ _)).trans ?_
  refine (sv_aload_n jM31 c31_7 rfl rfl).trans ?_
  refine (sv_sipush jM31 c31_8 rfl (v := 1000) (by decide +kernel)).trans ?_
  refine (sv_putf jM31 c31_11 rfl lf_5_15 (pf_49_1 _ _)).trans ?_
  refine (sv_aload_n jM31 c31_14 rfl rfl).trans ?_
  refine (sv_sipush jM31 c31_15 rfl (v := 1000) (by decide +kernel)).trans ?_
  refine (sv_putf jM31 c31_18 rfl lf_5_18 (pf_49_2 _ _)).trans ?_
  refine (sv_aload_n jM31 c31_21 rfl rfl).trans ?_
  refine (sv_callvv (pl := 0) jM31 c31_22 rfl (jm_call_v (a := 47) (as := []) (rest := []) lm_5_21 rfl jM23 rfl rfl rfl rfl rfl) jM23 rfl rfl).trans ?_
  refine jbv_c (fun τ1 => ?_)
  refine (sv_aload_n jM31 c31_25 rfl rfl).trans ?_
  refine (sv_getf jM31 c31_26 rfl lf_5_26 (fg_47_1 _)).trans ?_
  refine (sv_if_le jM31 c31_29 rfl (t := 36) (by decide +kernel)).trans ?_
  refine jif _ ?_ ?_
  ·
    refine (sv_iconst jM31 c31_36 rfl (v := 0) (by decide +kernel)).trans ?_
    refine (sv_istore_n (ls1 := [some (.ref 49), some (.ref 47), some (.int (0 : Int32)), none]) jM31 c31_37 rfl (Nat.lt_of_lt_of_eq (by decide +kernel : 2 < 4) rfl) rfl).trans ?_
    refine (sv_iconst jM31 c31_38 rfl (v := 0) (by decide +kernel)).trans ?_
    refine (sv_istore_n (ls1 := [some (.ref 49), some (.ref 47), some (.int (0 : Int32)), some (.int (0 : Int32))]) jM31 c31_39 rfl (Nat.lt_of_lt_of_eq (by decide +kernel : 3 < 4) rfl) rfl).trans ?_
    rfl
  ·
    refine (sv_iconst jM31 c31_32 rfl (v := 1) (by decide +kernel)).trans ?_
    refine (sv_goto jM31 c31_33 rfl (t := 37) (by decide +kernel)).trans ?_
    refine (sv_istore_n (ls1 := [some (.ref 49), some (.ref 47), some (.int (1 : Int32)), none]) jM31 c31_37 rfl (Nat.lt_of_lt_of_eq (by decide +kernel : 2 < 4) rfl) rfl).trans ?_
    refine (sv_iconst jM31 c31_38 rfl (v := 0) (by decide +kernel)).trans ?_
    refine (sv_istore_n (ls1 := [some (.ref 49), some (.ref 47), some (.int (1 : Int32)), some (.int (0 : Int32))]) jM31 c31_39 rfl (Nat.lt_of_lt_of_eq (by decide +kernel : 3 < 4) rfl) rfl).trans ?_
    rfl
set_option maxRecDepth 20000 in
set_option maxHeartbeats 4000000 in
theorem Rule_follow_49_47_L40 (x2 : Int32) (x3 : Int32) (σ : jm_S) : jv 31 40 [some (.ref 49), some (.ref 47), some (.int x2), some (.int x3)] [] σ = (if x2 = 0 then some (none, σ) else (if (30 : Int32) < x3 then some (none, σ) else jbv (jc 32 [(.ref 49), (.ref 47)] σ) (fun τ1 => jbi (jc 30 [(.ref 47), (.int (124 : Int32))] τ1) (fun r2 τ2 => jv 31 40 [some (.ref 49), some (.ref 47), some (.int r2), some (.int (x3 + 1))] [] τ2)))) := by
  refine (sv_iload_n jM31 c31_40 rfl rfl).trans ?_
  refine (sv_if_eq jM31 c31_41 rfl (t := 68) (by decide +kernel)).trans ?_
  refine jif _ ?_ ?_
  ·
    exact sv_vret jM31 c31_68 rfl rfl
  ·
    refine (sv_iload_n jM31 c31_44 rfl rfl).trans ?_
    refine (sv_bipush jM31 c31_45 rfl (v := 30) (by decide +kernel)).trans ?_
    refine (sv_icmp_gt jM31 c31_47 rfl (t := 68) (by decide +kernel)).trans ?_
    refine jif _ ?_ ?_
    ·
      exact sv_vret jM31 c31_68 rfl rfl
    ·
      refine (sv_aload_n jM31 c31_50 rfl rfl).trans ?_
      refine (sv_aload_n jM31 c31_51 rfl rfl).trans ?_
      refine (sv_callvv (pl := 0) jM31 c31_52 rfl (jm_call_v (a := 49) (as := [(.ref 47)]) (rest := []) lm_5_29 rfl jM32 rfl rfl rfl rfl rfl) jM32 rfl rfl).trans ?_
      refine jbv_c (fun τ1 => ?_)
      refine (sv_aload_n jM31 c31_55 rfl rfl).trans ?_
      refine (sv_bipush jM31 c31_56 rfl (v := 124) (by decide +kernel)).trans ?_
      refine (sv_callvi (pl := 0) jM31 c31_58 rfl (jm_call_v (a := 47) (as := [(.int (124 : Int32))]) (rest := []) lm_5_33 rfl jM30 rfl rfl rfl rfl rfl) jM30 rfl (Or.inr rfl)).trans ?_
      refine jbi_c (fun r2 τ2 => ?_)
      refine (sv_istore_n (ls1 := [some (.ref 49), some (.ref 47), some (.int r2), some (.int x3)]) jM31 c31_61 rfl (Nat.lt_of_lt_of_eq (by decide +kernel : 2 < 4) rfl) rfl).trans ?_
      refine (sv_iinc (ls1 := [some (.ref 49), some (.ref 47), some (.int r2), some (.int (x3 + 1))]) jM31 c31_62 rfl rfl (v := 1) (by decide +kernel) rfl).trans ?_
      refine (sv_goto jM31 c31_65 rfl (t := 40) (by decide +kernel)).trans ?_
      rfl
set_option maxRecDepth 20000 in
set_option maxHeartbeats 4000000 in
theorem Heating_follow_50_in (σ : jm_S) : jc 19 [(.ref 6), (.ref 50)] σ = jbv (jc 20 [(.ref 6)] σ) (fun τ1 => jbv (jc 23 [(.ref 50)] τ1) (fun τ2 => (if (τ2 50 1) ≤ 0 then jv 19 23 [some (.ref 6), some (.ref 50), some (.int (0 : Int32)), some (.int (0 : Int32))] [] τ2 else jv 19 23 [some (.ref 6), some (.ref 50), some (.int (1 : Int32)), some (.int (0 : Int32))] [] τ2))) := by
  refine (jc_of (ls1 := [some (.ref 6), some (.ref 50), none, none]) ((jm_ini_of jM19).trans rfl)).trans ?_
  refine (sv_aload_n jM19 c19_0 rfl rfl).trans ?_
  refine (sv_callvv (pl := 0) jM19 c19_1 rfl (jm_call_v (a := 6) (as := []) (rest := []) lm_4_26 rfl jM20 rfl rfl rfl rfl rfl) jM20 rfl rfl).trans ?_
  refine jbv_c (fun τ1 => ?_)
  refine (sv_aload_n jM19 c19_4 rfl rfl).trans ?_
  refine (sv_callvv (pl := 0) jM19 c19_5 rfl (jm_call_v (a := 50) (as := []) (rest := []) lm_4_29 rfl jM23 rfl rfl rfl rfl rfl) jM23 rfl rfl).trans ?_
  refine jbv_c (fun τ2 => ?_)
  refine (sv_aload_n jM19 c19_8 rfl rfl).trans ?_
  refine (sv_getf jM19 c19_9 rfl lf_4_34 (fg_50_1 _)).trans ?_
  refine (sv_if_le jM19 c19_12 rfl (t := 19) (by decide +kernel)).trans ?_
  refine jif _ ?_ ?_
  ·
    refine (sv_iconst jM19 c19_19 rfl (v := 0) (by decide +kernel)).trans ?_
    refine (sv_istore_n (ls1 := [some (.ref 6), some (.ref 50), some (.int (0 : Int32)), none]) jM19 c19_20 rfl (Nat.lt_of_lt_of_eq (by decide +kernel : 2 < 4) rfl) rfl).trans ?_
    refine (sv_iconst jM19 c19_21 rfl (v := 0) (by decide +kernel)).trans ?_
    refine (sv_istore_n (ls1 := [some (.ref 6), some (.ref 50), some (.int (0 : Int32)), some (.int (0 : Int32))]) jM19 c19_22 rfl (Nat.lt_of_lt_of_eq (by decide +kernel : 3 < 4) rfl) rfl).trans ?_
    rfl
  ·
    refine (sv_iconst jM19 c19_15 rfl (v := 1) (by decide +kernel)).trans ?_
    refine (sv_goto jM19 c19_16 rfl (t := 20) (by decide +kernel)).trans ?_
    refine (sv_istore_n (ls1 := [some (.ref 6), some (.ref 50), some (.int (1 : Int32)), none]) jM19 c19_20 rfl (Nat.lt_of_lt_of_eq (by decide +kernel : 2 < 4) rfl) rfl).trans ?_
    refine (sv_iconst jM19 c19_21 rfl (v := 0) (by decide +kernel)).trans ?_
    refine (sv_istore_n (ls1 := [some (.ref 6), some (.ref 50), some (.int (1 : Int32)), some (.int (0 : Int32))]) jM19 c19_22 rfl (Nat.lt_of_lt_of_eq (by decide +kernel : 3 < 4) rfl) rfl).trans ?_
    rfl
set_option maxRecDepth 20000 in
set_option maxHeartbeats 4000000 in
theorem Heating_follow_50_L23 (x2 : Int32) (x3 : Int32) (σ : jm_S) : jv 19 23 [some (.ref 6), some (.ref 50), some (.int x2), some (.int x3)] [] σ = (if x2 = 0 then (if (σ 50 3) = (-1 : Int32) then some (none, σ) else jbv (jc 20 [(.ref 6)] σ) (fun τ1 => some (none, τ1))) else (if (60 : Int32) < x3 then (if (σ 50 3) = (-1 : Int32) then some (none, σ) else jbv (jc 20 [(.ref 6)] σ) (fun τ2 => some (none, τ2))) else jbv (jc 24 [(.ref 6), (.ref 50)] σ) (fun τ3 => jbi (jc 30 [(.ref 50), (.int (59 : Int32))] τ3) (fun r4 τ4 => jv 19 23 [some (.ref 6), some (.ref 50), some (.int r4), some (.int (x3 + 1))] [] τ4)))) := by
  refine (sv_iload_n jM19 c19_23 rfl rfl).trans ?_
  refine (sv_if_eq jM19 c19_24 rfl (t := 51) (by decide +kernel)).trans ?_
  refine jif _ ?_ ?_
  ·
    refine (sv_aload_n jM19 c19_51 rfl rfl).trans ?_
    refine (sv_getf jM19 c19_52 rfl lf_4_45 (fg_50_3 _)).trans ?_
    refine (sv_iconst jM19 c19_55 rfl (v := -1) (by decide +kernel)).trans ?_
    refine (sv_icmp_eq jM19 c19_56 rfl (t := 63) (by decide +kernel)).trans ?_
    refine jif _ ?_ ?_
    ·
      exact sv_vret jM19 c19_63 rfl rfl
    ·
      refine (sv_aload_n jM19 c19_59 rfl rfl).trans ?_
      refine (sv_callvv (pl := 0) jM19 c19_60 rfl (jm_call_v (a := 6) (as := []) (rest := []) lm_4_26 rfl jM20 rfl rfl rfl rfl rfl) jM20 rfl rfl).trans ?_
      refine jbv_c (fun τ1 => ?_)
      exact sv_vret jM19 c19_63 rfl rfl
  ·
    refine (sv_iload_n jM19 c19_27 rfl rfl).trans ?_
    refine (sv_bipush jM19 c19_28 rfl (v := 60) (by decide +kernel)).trans ?_
    refine (sv_icmp_gt jM19 c19_30 rfl (t := 51) (by decide +kernel)).trans ?_
    refine jif _ ?_ ?_
    ·
      refine (sv_aload_n jM19 c19_51 rfl rfl).trans ?_
      refine (sv_getf jM19 c19_52 rfl lf_4_45 (fg_50_3 _)).trans ?_
      refine (sv_iconst jM19 c19_55 rfl (v := -1) (by decide +kernel)).trans ?_
      refine (sv_icmp_eq jM19 c19_56 rfl (t := 63) (by decide +kernel)).trans ?_
      refine jif _ ?_ ?_
      ·
        exact sv_vret jM19 c19_63 rfl rfl
      ·
        refine (sv_aload_n jM19 c19_59 rfl rfl).trans ?_
        refine (sv_callvv (pl := 0) jM19 c19_60 rfl (jm_call_v (a := 6) (as := []) (rest := []) lm_4_26 rfl jM20 rfl rfl rfl rfl rfl) jM20 rfl rfl).trans ?_
        refine jbv_c (fun τ2 => ?_)
        exact sv_vret jM19 c19_63 rfl rfl
    ·
      refine (sv_aload_n jM19 c19_33 rfl rfl).trans ?_
      refine (sv_aload_n jM19 c19_34 rfl rfl).trans ?_
      refine (sv_callvv (pl := 0) jM19 c19_35 rfl (jm_call_v (a := 6) (as := [(.ref 50)]) (rest := []) lm_4_37 rfl jM24 rfl rfl rfl rfl rfl) jM24 rfl rfl).trans ?_
      refine jbv_c (fun τ3 => ?_)
      refine (sv_aload_n jM19 c19_38 rfl rfl).trans ?_
      refine (sv_bipush jM19 c19_39 rfl (v := 59) (by decide +kernel)).trans ?_
      refine (sv_callvi (pl := 0) jM19 c19_41 rfl (jm_call_v (a := 50) (as := [(.int (59 : Int32))]) (rest := []) lm_4_41 rfl jM30 rfl rfl rfl rfl rfl) jM30 rfl (Or.inr rfl)).trans ?_
      refine jbi_c (fun r4 τ4 => ?_)
      refine (sv_istore_n (ls1 := [some (.ref 6), some (.ref 50), some (.int r4), some (.int x3)]) jM19 c19_44 rfl (Nat.lt_of_lt_of_eq (by decide +kernel : 2 < 4) rfl) rfl).trans ?_
      refine (sv_iinc (ls1 := [some (.ref 6), some (.ref 50), some (.int r4), some (.int (x3 + 1))]) jM19 c19_45 rfl rfl (v := 1) (by decide +kernel) rfl).trans ?_
      refine (sv_goto jM19 c19_48 rfl (t := 23) (by decide +kernel)).trans ?_
      rfl
set_option maxRecDepth 20000 in
set_option maxHeartbeats 4000000 in
theorem Rule_follow_46_42_in (σ : jm_S) : jc 31 [(.ref 46), (.ref 42)] σ = jbv (jc 23 [(.ref 42)] (jm_up (jm_up (jm_up σ 46 0 (1000 : Int32)) 46 1 (1000 : Int32)) 46 2 (1000 : Int32))) (fun τ1 => (if (τ1 42 1) ≤ 0 then jv 31 40 [some (.ref 46), some (.ref 42), some (.int (0 : Int32)), some (.int (0 : Int32))] [] τ1 else jv 31 40 [some (.ref 46), some (.ref 42), some (.int (1 : Int32)), some (.int (0 : Int32))] [] τ1)) := by
  refine (jc_of (ls1 := [some (.ref 46), some (.ref 42), none, none]) ((jm_ini_of jM31).trans rfl)).trans ?_
  refine (sv_aload_n jM31 c31_0 rfl rfl).trans ?_
  refine (sv_sipush jM31 c31_1 rfl (v := 1000) (by decide +kernel)).trans ?_
  refine (sv_putf jM31 c31_4 rfl lf_5_11 (pf_46_0 _ _)).trans ?_
  refine (sv_aload_n jM31 c31_7 rfl rfl).trans ?_
  refine (sv_sipush jM31 c31_8 rfl (v := 1000) (by decide +kernel)).trans ?_
  refine (sv_putf jM31 c31_11 rfl lf_5_15 (pf_46_1 _ _)).trans ?_
  refine (sv_aload_n jM31 c31_14 rfl rfl).trans ?_
  refine (sv_sipush jM31 c31_15 rfl (v := 1000) (by decide +kernel)).trans ?_
  refine (sv_putf jM31 c31_18 rfl lf_5_18 (pf_46_2 _ _)).trans ?_
  refine (sv_aload_n jM31 c31_21 rfl rfl).trans ?_
  refine (sv_callvv (pl := 0) jM31 c31_22 rfl (jm_call_v (a := 42) (as := []) (rest := []) lm_5_21 rfl jM23 rfl rfl rfl rfl rfl) jM23 rfl rfl).trans ?_
  refine jbv_c (fun τ1 => ?_)
  refine (sv_aload_n jM31 c31_25 rfl rfl).trans ?_
  refine (sv_getf jM31 c31_26 rfl lf_5_26 (fg_42_1 _)).trans ?_
  refine (sv_if_le jM31 c31_29 rfl (t := 36) (by decide +kernel)).trans ?_
  refine jif _ ?_ ?_
  ·
    refine (sv_iconst jM31 c31_36 rfl (v := 0) (by decide +kernel)).trans ?_
    refine (sv_istore_n (ls1 := [some (.ref 46), some (.ref 42), some (.int (0 : Int32)), none]) jM31 c31_37 rfl (Nat.lt_of_lt_of_eq (by decide +kernel : 2 < 4) rfl) rfl).trans ?_
    refine (sv_iconst jM31 c31_38 rfl (v := 0) (by decide +kernel)).trans ?_
    refine (sv_istore_n (ls1 := [some (.ref 46), some (.ref 42), some (.int (0 : Int32)), some (.int (0 : Int32))]) jM31 c31_39 rfl (Nat.lt_of_lt_of_eq (by decide +kernel : 3 < 4) rfl) rfl).trans ?_
    rfl
  ·
    refine (sv_iconst jM31 c31_32 rfl (v := 1) (by decide +kernel)).trans ?_
    refine (sv_goto jM31 c31_33 rfl (t := 37) (by decide +kernel)).trans ?_
    refine (sv_istore_n (ls1 := [some (.ref 46), some (.ref 42), some (.int (1 : Int32)), none]) jM31 c31_37 rfl (Nat.lt_of_lt_of_eq (by decide +kernel : 2 < 4) rfl) rfl).trans ?_
    refine (sv_iconst jM31 c31_38 rfl (v := 0) (by decide +kernel)).trans ?_
    refine (sv_istore_n (ls1 := [some (.ref 46), some (.ref 42), some (.int (1 : Int32)), some (.int (0 : Int32))]) jM31 c31_39 rfl (Nat.lt_of_lt_of_eq (by decide +kernel : 3 < 4) rfl) rfl).trans ?_
    rfl
set_option maxRecDepth 20000 in
set_option maxHeartbeats 4000000 in
theorem Rule_follow_46_42_L40 (x2 : Int32) (x3 : Int32) (σ : jm_S) : jv 31 40 [some (.ref 46), some (.ref 42), some (.int x2), some (.int x3)] [] σ = (if x2 = 0 then some (none, σ) else (if (30 : Int32) < x3 then some (none, σ) else jbv (jc 32 [(.ref 46), (.ref 42)] σ) (fun τ1 => jbi (jc 30 [(.ref 42), (.int (124 : Int32))] τ1) (fun r2 τ2 => jv 31 40 [some (.ref 46), some (.ref 42), some (.int r2), some (.int (x3 + 1))] [] τ2)))) := by
  refine (sv_iload_n jM31 c31_40 rfl rfl).trans ?_
  refine (sv_if_eq jM31 c31_41 rfl (t := 68) (by decide +kernel)).trans ?_
  refine jif _ ?_ ?_
  ·
    exact sv_vret jM31 c31_68 rfl rfl
  ·
    refine (sv_iload_n jM31 c31_44 rfl rfl).trans ?_
    refine (sv_bipush jM31 c31_45 rfl (v := 30) (by decide +kernel)).trans ?_
    refine (sv_icmp_gt jM31 c31_47 rfl (t := 68) (by decide +kernel)).trans ?_
    refine jif _ ?_ ?_
    ·
      exact sv_vret jM31 c31_68 rfl rfl
    ·
      refine (sv_aload_n jM31 c31_50 rfl rfl).trans ?_
      refine (sv_aload_n jM31 c31_51 rfl rfl).trans ?_
      refine (sv_callvv (pl := 0) jM31 c31_52 rfl (jm_call_v (a := 46) (as := [(.ref 42)]) (rest := []) lm_5_29 rfl jM32 rfl rfl rfl rfl rfl) jM32 rfl rfl).trans ?_
      refine jbv_c (fun τ1 => ?_)
      refine (sv_aload_n jM31 c31_55 rfl rfl).trans ?_
      refine (sv_bipush jM31 c31_56 rfl (v := 124) (by decide +kernel)).trans ?_
      refine (sv_callvi (pl := 0) jM31 c31_58 rfl (jm_call_v (a := 42) (as := [(.int (124 : Int32))]) (rest := []) lm_5_33 rfl jM30 rfl rfl rfl rfl rfl) jM30 rfl (Or.inr rfl)).trans ?_
      refine jbi_c (fun r2 τ2 => ?_)
      refine (sv_istore_n (ls1 := [some (.ref 46), some (.ref 42), some (.int r2), some (.int x3)]) jM31 c31_61 rfl (Nat.lt_of_lt_of_eq (by decide +kernel : 2 < 4) rfl) rfl).trans ?_
      refine (sv_iinc (ls1 := [some (.ref 46), some (.ref 42), some (.int r2), some (.int (x3 + 1))]) jM31 c31_62 rfl rfl (v := 1) (by decide +kernel) rfl).trans ?_
      refine (sv_goto jM31 c31_65 rfl (t := 40) (by decide +kernel)).trans ?_
      rfl
set_option maxRecDepth 20000 in
set_option maxHeartbeats 4000000 in
theorem Rule_follow_46_44_in (σ : jm_S) : jc 31 [(.ref 46), (.ref 44)] σ = jbv (jc 23 [(.ref 44)] (jm_up (jm_up (jm_up σ 46 0 (1000 : Int32)) 46 1 (1000 : Int32)) 46 2 (1000 : Int32))) (fun τ1 => (if (τ1 44 1) ≤ 0 then jv 31 40 [some (.ref 46), some (.ref 44), some (.int (0 : Int32)), some (.int (0 : Int32))] [] τ1 else jv 31 40 [some (.ref 46), some (.ref 44), some (.int (1 : Int32)), some (.int (0 : Int32))] [] τ1)) := by
  refine (jc_of (ls1 := [some (.ref 46), some (.ref 44), none, none]) ((jm_ini_of jM31).trans rfl)).trans ?_
  refine (sv_aload_n jM31 c31_0 rfl rfl).trans ?_
  refine (sv_sipush jM31 c31_1 rfl (v := 1000) (by decide +kernel)).trans ?_
  refine (sv_putf jM31 c31_4 rfl lf_5_11 (pf_46_0 _ _)).trans ?_
  refine (sv_aload_n jM31 c31_7 rfl rfl).trans ?_
  refine (sv_sipush jM31 c31_8 rfl (v := 1000) (by decide +kernel)).trans ?_
  refine (sv_putf jM31 c31_11 rfl lf_5_15 (pf_46_1 _ _)).trans ?_
  refine (sv_aload_n jM31 c31_14 rfl rfl).trans ?_
  refine (sv_sipush jM31 c31_15 rfl (v := 1000) (by decide +kernel)).trans ?_
  refine (sv_putf jM31 c31_18 rfl lf_5_18 (pf_46_2 _ _)).trans ?_
  refine (sv_aload_n jM31 c31_21 rfl rfl).trans ?_
  refine (sv_callvv (pl := 0) jM31 c31_22 rfl (jm_call_v (a := 44) (as := []) (rest := []) lm_5_21 rfl jM23 rfl rfl rfl rfl rfl) jM23 rfl rfl).trans ?_
  refine jbv_c (fun τ1 => ?_)
  refine (sv_aload_n jM31 c31_25 rfl rfl).trans ?_
  refine (sv_getf jM31 c31_26 rfl lf_5_26 (fg_44_1 _)).trans ?_
  refine (sv_if_le jM31 c31_29 rfl (t := 36) (by decide +kernel)).trans ?_
  refine jif _ ?_ ?_
  ·
    refine (sv_iconst jM31 c31_36 rfl (v := 0) (by decide +kernel)).trans ?_
    refine (sv_istore_n (ls1 := [some (.ref 46), some (.ref 44), some (.int (0 : Int32)), none]) jM31 c31_37 rfl (Nat.lt_of_lt_of_eq (by decide +kernel : 2 < 4) rfl) rfl).trans ?_
    refine (sv_iconst jM31 c31_38 rfl (v := 0) (by decide +kernel)).trans ?_
    refine (sv_istore_n (ls1 := [some (.ref 46), some (.ref 44), some (.int (0 : Int32)), some (.int (0 : Int32))]) jM31 c31_39 rfl (Nat.lt_of_lt_of_eq (by decide +kernel : 3 < 4) rfl) rfl).trans ?_
    rfl
  ·
    refine (sv_iconst jM31 c31_32 rfl (v := 1) (by decide +kernel)).trans ?_
    refine (sv_goto jM31 c31_33 rfl (t := 37) (by decide +kernel)).trans ?_
    refine (sv_istore_n (ls1 := [some (.ref 46), some (.ref 44), some (.int (1 : Int32)), none]) jM31 c31_37 rfl (Nat.lt_of_lt_of_eq (by decide +kernel : 2 < 4) rfl) rfl).trans ?_
    refine (sv_iconst jM31 c31_38 rfl (v := 0) (by decide +kernel)).trans ?_
    refine (sv_istore_n (ls1 := [some (.ref 46), some (.ref 44), some (.int (1 : Int32)), some (.int (0 : Int32))]) jM31 c31_39 rfl (Nat.lt_of_lt_of_eq (by decide +kernel : 3 < 4) rfl) rfl).trans ?_
    rfl
set_option maxRecDepth 20000 in
set_option maxHeartbeats 4000000 in
theorem Rule_follow_46_44_L40 (x2 : Int32) (x3 : Int32) (σ : jm_S) : jv 31 40 [some (.ref 46), some (.ref 44), some (.int x2), some (.int x3)] [] σ = (if x2 = 0 then some (none, σ) else (if (30 : Int32) < x3 then some (none, σ) else jbv (jc 32 [(.ref 46), (.ref 44)] σ) (fun τ1 => jbi (jc 30 [(.ref 44), (.int (124 : Int32))] τ1) (fun r2 τ2 => jv 31 40 [some (.ref 46), some (.ref 44), some (.int r2), some (.int (x3 + 1))] [] τ2)))) := by
  refine (sv_iload_n jM31 c31_40 rfl rfl).trans ?_
  refine (sv_if_eq jM31 c31_41 rfl (t := 68) (by decide +kernel)).trans ?_
  refine jif _ ?_ ?_
  ·
    exact sv_vret jM31 c31_68 rfl rfl
  ·
    refine (sv_iload_n jM31 c31_44 rfl rfl).trans ?_
    refine (sv_bipush jM31 c31_45 rfl (v := 30) (by decide +kernel)).trans ?_
    refine (sv_icmp_gt jM31 c31_47 rfl (t := 68) (by decide +kernel)).trans ?_
    refine jif _ ?_ ?_
    ·
      exact sv_vret jM31 c31_68 rfl rfl
    ·
      refine (sv_aload_n jM31 c31_50 rfl rfl).trans ?_
      refine (sv_aload_n jM31 c31_51 rfl rfl).trans ?_
      refine (sv_callvv (pl := 0) jM31 c31_52 rfl (jm_call_v (a := 46) (as := [(.ref 44)]) (rest := []) lm_5_29 rfl jM32 rfl rfl rfl rfl rfl) jM32 rfl rfl).trans ?_
      refine jbv_c (fun τ1 => ?_)
      refine (sv_aload_n jM31 c31_55 rfl rfl).trans ?_
      refine (sv_bipush jM31 c31_56 rfl (v := 124) (by decide +kernel)).trans ?_
      refine (sv_callvi (pl := 0) jM31 c31_58 rfl (jm_call_v (a := 44) (as := [(.int (124 : Int32))]) (rest := []) lm_5_33 rfl jM30 rfl rfl rfl rfl rfl) jM30 rfl (Or.inr rfl)).trans ?_
      refine jbi_c (fun r2 τ2 => ?_)
      refine (sv_istore_n (ls1 := [some (.ref 46), some (.ref 44), some (.int r2), some (.int x3)]) jM31 c31_61 rfl (Nat.lt_of_lt_of_eq (by decide +kernel : 2 < 4) rfl) rfl).trans ?_
      refine (sv_iinc (ls1 := [some (.ref 46), some (.ref 44), some (.int r2), some (.int (x3 + 1))]) jM31 c31_62 rfl rfl (v := 1) (by decide +kernel) rfl).trans ?_
      refine (sv_goto jM31 c31_65 rfl (t := 40) (by decide +kernel)).trans ?_
      rfl
set_option maxRecDepth 20000 in
set_option maxHeartbeats 4000000 in
theorem Rule_follow_49_42_in (σ : jm_S) : jc 31 [(.ref 49), (.ref 42)] σ = jbv (jc 23 [(.ref 42)] (jm_up (jm_up (jm_up σ 49 0 (1000 : Int32)) 49 1 (1000 : Int32)) 49 2 (1000 : Int32))) (fun τ1 => (if (τ1 42 1) ≤ 0 then jv 31 40 [some (.ref 49), some (.ref 42), some (.int (0 : Int32)), some (.int (0 : Int32))] [] τ1 else jv 31 40 [some (.ref 49), some (.ref 42), some (.int (1 : Int32)), some (.int (0 : Int32))] [] τ1)) := by
  refine (jc_of (ls1 := [some (.ref 49), some (.ref 42), none, none]) ((jm_ini_of jM31).trans rfl)).trans ?_
  refine (sv_aload_n jM31 c31_0 rfl rfl).trans ?_
  refine (sv_sipush jM31 c31_1 rfl (v := 1000) (by decide +kernel)).trans ?_
  refine (sv_putf jM31 c31_4 rfl lf_5_11 (pf_49_0 _ _)).trans ?_
  refine (sv_aload_n jM31 c31_7 rfl rfl).trans ?_
  refine (sv_sipush jM31 c31_8 rfl (v := 1000) (by decide +kernel)).trans ?_
  refine (sv_putf jM31 c31_11 rfl lf_5_15 (pf_49_1 _ _)).trans ?_
  refine (sv_aload_n jM31 c31_14 rfl rfl).trans ?_
  refine (sv_sipush jM31 c31_15 rfl (v := 1000) (by decide +kernel)).trans ?_
  refine (sv_putf jM31 c31_18 rfl lf_5_18 (pf_49_2 _ _)).trans ?_
  refine (sv_aload_n jM31 c31_21 rfl rfl).trans ?_
  refine (sv_callvv (pl := 0) jM31 c31_22 rfl (jm_call_v (a := 42) (as := []) (rest := []) lm_5_21 rfl jM23 rfl rfl rfl rfl rfl) jM23 rfl rfl).trans ?_
  refine jbv_c (fun τ1 => ?_)
  refine (sv_aload_n jM31 c31_25 rfl rfl).trans ?_
  refine (sv_getf jM31 c31_26 rfl lf_5_26 (fg_42_1 _)).trans ?_
  refine (sv_if_le jM31 c31_29 rfl (t := 36) (by decide +kernel)).trans ?_
  refine jif _ ?_ ?_
  ·
    refine (sv_iconst jM31 c31_36 rfl (v := 0) (by decide +kernel)).trans ?_
    refine (sv_istore_n (ls1 := [some (.ref 49), some (.ref 42), some (.int (0 : Int32)), none]) jM31 c31_37 rfl (Nat.lt_of_lt_of_eq (by decide +kernel : 2 < 4) rfl) rfl).trans ?_
    refine (sv_iconst jM31 c31_38 rfl (v := 0) (by decide +kernel)).trans ?_
    refine (sv_istore_n (ls1 := [some (.ref 49), some (.ref 42), some (.int (0 : Int32)), some (.int (0 : Int32))]) jM31 c31_39 rfl (Nat.lt_of_lt_of_eq (by decide +kernel : 3 < 4) rfl) rfl).trans ?_
    rfl
  ·
    refine (sv_iconst jM31 c31_32 rfl (v := 1) (by decide +kernel)).trans ?_
    refine (sv_goto jM31 c31_33 rfl (t := 37) (by decide +kernel)).trans ?_
    refine (sv_istore_n (ls1 := [some (.ref 49), some (.ref 42), some (.int (1 : Int32)), none]) jM31 c31_37 rfl (Nat.lt_of_lt_of_eq (by decide +kernel : 2 < 4) rfl) rfl).trans ?_
    refine (sv_iconst jM31 c31_38 rfl (v := 0) (by decide +kernel)).trans ?_
    refine (sv_istore_n (ls1 := [some (.ref 49), some (.ref 42), some (.int (1 : Int32)), some (.int (0 : Int32))]) jM31 c31_39 rfl (Nat.lt_of_lt_of_eq (by decide +kernel : 3 < 4) rfl) rfl).trans ?_
    rfl
set_option maxRecDepth 20000 in
set_option maxHeartbeats 4000000 in
theorem Rule_follow_49_42_L40 (x2 : Int32) (x3 : Int32) (σ : jm_S) : jv 31 40 [some (.ref 49), some (.ref 42), some (.int x2), some (.int x3)] [] σ = (if x2 = 0 then some (none, σ) else (if (30 : Int32) < x3 then some (none, σ) else jbv (jc 32 [(.ref 49), (.ref 42)] σ) (fun τ1 => jbi (jc 30 [(.ref 42), (.int (124 : Int32))] τ1) (fun r2 τ2 => jv 31 40 [some (.ref 49), some (.ref 42), some (.int r2), some (.int (x3 + 1))] [] τ2)))) := by
  refine (sv_iload_n jM31 c31_40 rfl rfl).trans ?_
  refine (sv_if_eq jM31 c31_41 rfl (t := 68) (by decide +kernel)).trans ?_
  refine jif _ ?_ ?_
  ·
    exact sv_vret jM31 c31_68 rfl rfl
  ·
    refine (sv_iload_n jM31 c31_44 rfl rfl).trans ?_
    refine (sv_bipush jM31 c31_45 rfl (v := 30) (by decide +kernel)).trans ?_
    refine (sv_icmp_gt jM31 c31_47 rfl (t := 68) (by decide +kernel)).trans ?_
    refine jif _ ?_ ?_
    ·
      exact sv_vret jM31 c31_68 rfl rfl
    ·
      refine (sv_aload_n jM31 c31_50 rfl rfl).trans ?_
      refine (sv_aload_n jM31 c31_51 rfl rfl).trans ?_
      refine (sv_callvv (pl := 0) jM31 c31_52 rfl (jm_call_v (a := 49) (as := [(.ref 42)]) (rest := []) lm_5_29 rfl jM32 rfl rfl rfl rfl rfl) jM32 rfl rfl).trans ?_
      refine jbv_c (fun τ1 => ?_)
      refine (sv_aload_n jM31 c31_55 rfl rfl).trans ?_
      refine (sv_bipush jM31 c31_56 rfl (v := 124) (by decide +kernel)).trans ?_
      refine (sv_callvi (pl := 0) jM31 c31_58 rfl (jm_call_v (a := 42) (as := [(.int (124 : Int32))]) (rest := []) lm_5_33 rfl jM30 rfl rfl rfl rfl rfl) jM30 rfl (Or.inr rfl)).trans ?_
      refine jbi_c (fun r2 τ2 => ?_)
      refine (sv_istore_n (ls1 := [some (.ref 49), some (.ref 42), some (.int r2), some (.int x3)]) jM31 c31_61 rfl (Nat.lt_of_lt_of_eq (by decide +kernel : 2 < 4) rfl) rfl).trans ?_
      refine (sv_iinc (ls1 := [some (.ref 49), some (.ref 42), some (.int r2), some (.int (x3 + 1))]) jM31 c31_62 rfl rfl (v := 1) (by decide +kernel) rfl).trans ?_
      refine (sv_goto jM31 c31_65 rfl (t := 40) (by decide +kernel)).trans ?_
      rfl
set_option maxRecDepth 20000 in
set_option maxHeartbeats 4000000 in
theorem Rule_follow_52_47_in (σ : jm_S) : jc 31 [(.ref 52), (.ref 47)] σ = jbv (jc 23 [(.ref 47)] (jm_up (jm_up (jm_up σ 52 0 (1000 : Int32)) 52 1 (1000 : Int32)) 52 2 (1000 : Int32))) (fun τ1 => (if (τ1 47 1) ≤ 0 then jv 31 40 [some (.ref 52), some (.ref 47), some (.int (0 : Int32)), some (.int (0 : Int32))] [] τ1 else jv 31 40 [some (.ref 52), some (.ref 47), some (.int (1 : Int32)), some (.int (0 : Int32))] [] τ1)) := by
  refine (jc_of (ls1 := [some (.ref 52), some (.ref 47), none, none]) ((jm_ini_of jM31).trans rfl)).trans ?_
  refine (sv_aload_n jM31 c31_0 rfl rfl).trans ?_
  refine (sv_sipush jM31 c31_1 rfl (v := 1000) (by decide +kernel)).trans ?_
  refine (sv_putf jM31 c31_4 rfl lf_5_11 (pf_52_0 _ _)).trans ?_
  refine (sv_aload_n jM31 c31_7 rfl rfl).trans ?_
  refine (sv_sipush jM31 c31_8 rfl (v := 1000) (by decide +kernel)).trans ?_
  refine (sv_putf jM31 c31_11 rfl lf_5_15 (pf_52_1 _ _)).trans ?_
  refine (sv_aload_n jM31 c31_14 rfl rfl).trans ?_
  refine (sv_sipush jM31 c31_15 rfl (v := 1000) (by decide +kernel)).trans ?_
  refine (sv_putf jM31 c31_18 rfl lf_5_18 (pf_52_2 _ _)).trans ?_
  refine (sv_aload_n jM31 c31_21 rfl rfl).trans ?_
  refine (sv_callvv (pl := 0) jM31 c31_22 rfl (jm_call_v (a := 47) (as := []) (rest := []) lm_5_21 rfl jM23 rfl rfl rfl rfl rfl) jM23 rfl rfl).trans ?_
  refine jbv_c (fun τ1 => ?_)
  refine (sv_aload_n jM31 c31_25 rfl rfl).trans ?_
  refine (sv_getf jM31 c31_26 rfl lf_5_26 (fg_47_1 _)).trans ?_
  refine (sv_if_le jM31 c31_29 rfl (t := 36) (by decide +kernel)).trans ?_
  refine jif _ ?_ ?_
  ·
    refine (sv_iconst jM31 c31_36 rfl (v := 0) (by decide +kernel)).trans ?_
    refine (sv_istore_n (ls1 := [some (.ref 52), some (.ref 47), some (.int (0 : Int32)), none]) jM31 c31_37 rfl (Nat.lt_of_lt_of_eq (by decide +kernel : 2 < 4) rfl) rfl).trans ?_
    refine (sv_iconst jM31 c31_38 rfl (v := 0) (by decide +kernel)).trans ?_
    refine (sv_istore_n (ls1 := [some (.ref 52), some (.ref 47), some (.int (0 : Int32)), some (.int (0 : Int32))]) jM31 c31_39 rfl (Nat.lt_of_lt_of_eq (by decide +kernel : 3 < 4) rfl) rfl).trans ?_
    rfl
  ·
    refine (sv_iconst jM31 c31_32 rfl (v := 1) (by decide +kernel)).trans ?_
    refine (sv_goto jM31 c31_33 rfl (t := 37) (by decide +kernel)).trans ?_
    refine (sv_istore_n (ls1 := [some (.ref 52), some (.ref 47), some (.int (1 : Int32)), none]) jM31 c31_37 rfl (Nat.lt_of_lt_of_eq (by decide +kernel : 2 < 4) rfl) rfl).trans ?_
    refine (sv_iconst jM31 c31_38 rfl (v := 0) (by decide +kernel)).trans ?_
    refine (sv_istore_n (ls1 := [some (.ref 52), some (.ref 47), some (.int (1 : Int32)), some (.int (0 : Int32))]) jM31 c31_39 rfl (Nat.lt_of_lt_of_eq (by decide +kernel : 3 < 4) rfl) rfl).trans ?_
    rfl
set_option maxRecDepth 20000 in
set_option maxHeartbeats 4000000 in
theorem Rule_follow_52_47_L40 (x2 : Int32) (x3 : Int32) (σ : jm_S) : jv 31 40 [some (.ref 52), some (.ref 47), some (.int x2), some (.int x3)] [] σ = (if x2 = 0 then some (none, σ) else (if (30 : Int32) < x3 then some (none, σ) else jbv (jc 32 [(.ref 52), (.ref 47)] σ) (fun τ1 => jbi (jc 30 [(.ref 47), (.int (124 : Int32))] τ1) (fun r2 τ2 => jv 31 40 [some (.ref 52), some (.ref 47), some (.int r2), some (.int (x3 + 1))] [] τ2)))) := by
  refine (sv_iload_n jM31 c31_40 rfl rfl).trans ?_
  refine (sv_if_eq jM31 c31_41 rfl (t := 68) (by decide +kernel)).trans ?_
  refine jif _ ?_ ?_
  ·
    exact sv_vret jM31 c31_68 rfl rfl
  ·
    refine (sv_iload_n jM31 c31_44 rfl rfl).trans ?_
    refine (sv_bipush jM31 c31_45 rfl (v := 30) (by decide +kernel)).trans ?_
    refine (sv_icmp_gt jM31 c31_47 rfl (t := 68) (by decide +kernel)).trans ?_
    refine jif _ ?_ ?_
    ·
      exact sv_vret jM31 c31_68 rfl rfl
    ·
      refine (sv_aload_n jM31 c31_50 rfl rfl).trans ?_
      refine (sv_aload_n jM31 c31_51 rfl rfl).trans ?_
      refine (sv_callvv (pl := 0) jM31 c31_52 rfl (jm_call_v (a := 52) (as := [(.ref 47)]) (rest := []) lm_5_29 rfl jM32 rfl rfl rfl rfl rfl) jM32 rfl rfl).trans ?_
      refine jbv_c (fun τ1 => ?_)
      refine (sv_aload_n jM31 c31_55 rfl rfl).trans ?_
      refine (sv_bipush jM31 c31_56 rfl (v := 124) (by decide +kernel)).trans ?_
      refine (sv_callvi (pl := 0) jM31 c31_58 rfl (jm_call_v (a := 47) (as := [(.int (124 : Int32))]) (rest := []) lm_5_33 rfl jM30 rfl rfl rfl rfl rfl) jM30 rfl (Or.inr rfl)).trans ?_
      refine jbi_c (fun r2 τ2 => ?_)
      refine (sv_istore_n (ls1 := [some (.ref 52), some (.ref 47), some (.int r2), some (.int x3)]) jM31 c31_61 rfl (Nat.lt_of_lt_of_eq (by decide +kernel : 2 < 4) rfl) rfl).trans ?_
      refine (sv_iinc (ls1 := [some (.ref 52), some (.ref 47), some (.int r2), some (.int (x3 + 1))]) jM31 c31_62 rfl rfl (v := 1) (by decide +kernel) rfl).trans ?_
      refine (sv_goto jM31 c31_65 rfl (t := 40) (by decide +kernel)).trans ?_
      rfl
set_option maxRecDepth 20000 in
set_option maxHeartbeats 4000000 in
theorem Rule_secondsUntilStop_49_11_in (σ : jm_S) : jc 56 [(.ref 49), (.ref 11)] σ = jv 56 7 [some (.ref 49), some (.ref 11), some (.int (0 : Int32)), some (.int (0 : Int32)), some (.int (0 : Int32)), none] [] σ := by
  refine (jc_of (ls1 := [some (.ref 49), some (.ref 11), none, none, none, none]) ((jm_ini_of jM56).trans rfl)).trans ?_
  refine (sv_iconst jM56 c56_0 rfl (v := 0) (by decide +kernel)).trans ?_
  refine (sv_istore_n (ls1 := [some (.ref 49), some (.ref 11), some (.int (0 : Int32)), none, none, none]) jM56 c56_1 rfl (Nat.lt_of_lt_of_eq (by decide +kernel : 2 < 6) rfl) rfl).trans ?_
  refine (sv_iconst jM56 c56_2 rfl (v := 0) (by decide +kernel)).trans ?_
  refine (sv_istore_n (ls1 := [some (.ref 49), some (.ref 11), some (.int (0 : Int32)), some (.int (0 : Int32)), none, none]) jM56 c56_3 rfl (Nat.lt_of_lt_of_eq (by decide +kernel : 3 < 6) rfl) rfl).trans ?_
  refine (sv_iconst jM56 c56_4 rfl (v := 0) (by decide +kernel)).trans ?_
  refine (sv_istore (ls1 := [some (.ref 49), some (.ref 11), some (.int (0 : Int32)), some (.int (0 : Int32)), some (.int (0 : Int32)), none]) jM56 c56_5 rfl (Nat.lt_of_lt_of_eq (by decide +kernel : 4 < 6) rfl) rfl).trans ?_
  rfl
set_option maxRecDepth 20000 in
set_option maxHeartbeats 4000000 in
theorem Rule_secondsUntilStop_49_11_L7 (x2 : Int32) (x3 : Int32) (x4 : Int32) (u5 : Option Value) (σ : jm_S) : jv 56 7 [some (.ref 49), some (.ref 11), some (.int x2), some (.int x3), some (.int x4), u5] [] σ = (if (200 : Int32) ≤ x4 then some (some (.int (200 : Int32)), σ) else jbi (jc 53 [(.ref 11), (.int x4)] σ) (fun r1 τ1 => (if 0 < r1 then (if (τ1 49 0) ≤ (0 : Int32) then some (some (.int (x4 + (1 : Int32))), τ1) else (if (τ1 49 1) ≤ (x2 + r1) then some (some (.int (x4 + (1 : Int32))), τ1) else (if (x4 + (1 : Int32)) < (τ1 49 2) then jv 56 7 [some (.ref 49), some (.ref 11), some (.int (x2 + r1)), some (.int (0 : Int32)), some (.int (x4 + 1)), some (.int r1)] [] τ1 else some (some (.int (x4 + (1 : Int32))), τ1)))) else (if ¬ (x2 + r1) = 0 then (if (τ1 49 0) ≤ (x3 + (1 : Int32)) then some (some (.int (x4 + (1 : Int32))), τ1) else (if (τ1 49 1) ≤ (x2 + r1) then some (some (.int (x4 + (1 : Int32))), τ1) else (if (x4 + (1 : Int32)) < (τ1 49 2) then jv 56 7 [some (.ref 49), some (.ref 11), some (.int (x2 + r1)), some (.int (x3 + (1 : Int32))), some (.int (x4 + 1)), some (.int r1)] [] τ1 else some (some (.int (x4 + (1 : Int32))), τ1)))) else (if (τ1 49 0) ≤ (0 : Int32) then some (some (.int (x4 + (1 : Int32))), τ1) else (if (τ1 49 1) ≤ (x2 + r1) then some (some (.int (x4 + (1 : Int32))), τ1) else (if (x4 + (1 : Int32)) < (τ1 49 2) then jv 56 7 [some (.ref 49), some (.ref 11), some (.int (x2 + r1)), some (.int (0 : Int32)), some (.int (x4 + 1)), some (.int r1)] [] τ1 else some (some (.int (x4 + (1 : Int32))), τ1)))))))) := by
  refine (sv_iload jM56 c56_7 rfl rfl).trans ?_
  refine (sv_sipush jM56 c56_9 rfl (v := 200) (by decide +kernel)).trans ?_
  refine (sv_icmp_ge jM56 c56_12 rfl (t := 83) (by decide +kernel)).trans ?_
  refine jif _ ?_ ?_
  ·
    refine (sv_sipush jM56 c56_83 rfl (v := 200) (by decide +kernel)).trans ?_
    exact sv_iret jM56 c56_86 rfl rfl
  ·
    refine (sv_aload_n jM56 c56_15 rfl rfl).trans ?_
    refine (sv_iload jM56 c56_16 rfl rfl).trans ?_
    refine (sv_callvi (pl := 0) jM56 c56_18 rfl (jm_call_v (a := 11) (as := [(.int x4)]) (rest := []) lm_5_57 rfl jM53 rfl rfl rfl rfl rfl) jM53 rfl (Or.inl rfl)).trans ?_
    refine jbi_c (fun r1 τ1 => ?_)
    refine (sv_istore (ls1 := [some (.ref 49), some (.ref 11), some (.int x2), some (.int x3), some (.int x4), some (.int r1)]) jM56 c56_21 rfl (Nat.lt_of_lt_of_eq (by decide +kernel : 5 < 6) rfl) rfl).trans ?_
    refine (sv_iload_n jM56 c56_23 rfl rfl).trans ?_
    refine (sv_iload jM56 c56_24 rfl rfl).trans ?_
    refine (sv_iadd jM56 c56_26 rfl).trans ?_
    refine (sv_istore_n (ls1 := [some (.ref 49), some (.ref 11), some (.int (x2 + r1)), some (.int x3), some (.int x4), some (.int r1)]) jM56 c56_27 rfl (Nat.lt_of_lt_of_eq (by decide +kernel : 2 < 6) rfl) rfl).trans ?_
    refine (sv_iload jM56 c56_28 rfl rfl).trans ?_
    refine (sv_if_gt jM56 c56_30 rfl (t := 37) (by decide +kernel)).trans ?_
    refine jif _ ?_ ?_
    ·
      refine (sv_iconst jM56 c56_37 rfl (v := 0) (by decide +kernel)).trans ?_
      refine (sv_goto jM56 c56_38 rfl (t := 44) (by decide +kernel)).trans ?_
      refine (sv_istore_n (ls1 := [some (.ref 49), some (.ref 11), some (.int (x2 + r1)), some (.int (0 : Int32)), some (.int x4), some (.int r1)]) jM56 c56_44 rfl (Nat.lt_of_lt_of_eq (by decide +kernel : 3 < 6) rfl) rfl).trans ?_
      refine (sv_iload_n jM56 c56_45 rfl rfl).trans ?_
      refine (sv_aload_n jM56 c56_46 rfl rfl).trans ?_
      refine (sv_getf jM56 c56_47 rfl lf_5_11 (fg_49_0 _)).trans ?_
      refine (sv_icmp_ge jM56 c56_50 rfl (t := 72) (by decide +kernel)).trans ?_
      refine jif _ ?_ ?_
      ·
        refine (sv_iload jM56 c56_72 rfl rfl).trans ?_
        refine (sv_iconst jM56 c56_74 rfl (v := 1) (by decide +kernel)).trans ?_
        refine (sv_iadd jM56 c56_75 rfl).trans ?_
        exact sv_iret jM56 c56_76 rfl rfl
      ·
        refine (sv_iload_n jM56 c56_53 rfl rfl).trans ?_
        refine (sv_aload_n jM56 c56_54 rfl rfl).trans ?_
        refine (sv_getf jM56 c56_55 rfl lf_5_15 (fg_49_1 _)).trans ?_
        refine (sv_icmp_ge jM56 c56_58 rfl (t := 72) (by decide +kernel)).trans ?_
        refine jif _ ?_ ?_
        ·
          refine (sv_iload jM56 c56_72 rfl rfl).trans ?_
          refine (sv_iconst jM56 c56_74 rfl (v := 1) (by decide +kernel)).trans ?_
          refine (sv_iadd jM56 c56_75 rfl).trans ?_
          exact sv_iret jM56 c56_76 rfl rfl
        ·
          refine (sv_iload jM56 c56_61 rfl rfl).trans ?_
          refine (sv_iconst jM56 c56_63 rfl (v := 1) (by decide +kernel)).trans ?_
          refine (sv_iadd jM56 c56_64 rfl).trans ?_
          refine (sv_aload_n jM56 c56_65 rfl rfl).trans ?_
          refine (sv_getf jM56 c56_66 rfl lf_5_18 (fg_49_2 _)).trans ?_
          refine (sv_icmp_lt jM56 c56_69 rfl (t := 77) (by decide +kernel)).trans ?_
          refine jif _ ?_ ?_
          ·
            refine (sv_iinc (ls1 := [some (.ref 49), some (.ref 11), some (.int (x2 + r1)), some (.int (0 : Int32)), some (.int (x4 + 1)), some (.int r1)]) jM56 c56_77 rfl rfl (v := 1) (by decide +kernel) rfl).trans ?_
            refine (sv_goto jM56 c56_80 rfl (t := 7) (by decide +kernel)).trans ?_
            rfl
          ·
            refine (sv_iload jM56 c56_72 rfl rfl).trans ?_
            refine (sv_iconst jM56 c56_74 rfl (v := 1) (by decide +kernel)).trans ?_
            refine (sv_iadd jM56 c56_75 rfl).trans ?_
            exact sv_iret jM56 c56_76 rfl rfl
    ·
      refine (sv_iload_n jM56 c56_33 rfl rfl).trans ?_
      refine (sv_if_ne jM56 c56_34 rfl (t := 41) (by decide +kernel)).trans ?_
      refine jif _ ?_ ?_
      ·
        refine (sv_iload_n jM56 c56_41 rfl rfl).trans ?_
        refine (sv_iconst jM56 c56_42 rfl (v := 1) (by decide +kernel)).trans ?_
        refine (sv_iadd jM56 c56_43 rfl).trans ?_
        refine (sv_istore_n (ls1 := [some (.ref 49), some (.ref 11), some (.int (x2 + r1)), some (.int (x3 + (1 : Int32))), some (.int x4), some (.int r1)]) jM56 c56_44 rfl (Nat.lt_of_lt_of_eq (by decide +kernel : 3 < 6) rfl) rfl).trans ?_
        refine (sv_iload_n jM56 c56_45 rfl rfl).trans ?_
        refine (sv_aload_n jM56 c56_46 rfl rfl).trans ?_
        refine (sv_getf jM56 c56_47 rfl lf_5_11 (fg_49_0 _)).trans ?_
        refine (sv_icmp_ge jM56 c56_50 rfl (t := 72) (by decide +kernel)).trans ?_
        refine jif _ ?_ ?_
        ·
          refine (sv_iload jM56 c56_72 rfl rfl).trans ?_
          refine (sv_iconst jM56 c56_74 rfl (v := 1) (by decide +kernel)).trans ?_
          refine (sv_iadd jM56 c56_75 rfl).trans ?_
          exact sv_iret jM56 c56_76 rfl rfl
        ·
          refine (sv_iload_n jM56 c56_53 rfl rfl).trans ?_
          refine (sv_aload_n jM56 c56_54 rfl rfl).trans ?_
          refine (sv_getf jM56 c56_55 rfl lf_5_15 (fg_49_1 _)).trans ?_
          refine (sv_icmp_ge jM56 c56_58 rfl (t := 72) (by decide +kernel)).trans ?_
          refine jif _ ?_ ?_
          ·
            refine (sv_iload jM56 c56_72 rfl rfl).trans ?_
            refine (sv_iconst jM56 c56_74 rfl (v := 1) (by decide +kernel)).trans ?_
            refine (sv_iadd jM56 c56_75 rfl).trans ?_
            exact sv_iret jM56 c56_76 rfl rfl
          ·
            refine (sv_iload jM56 c56_61 rfl rfl).trans ?_
            refine (sv_iconst jM56 c56_63 rfl (v := 1) (by decide +kernel)).trans ?_
            refine (sv_iadd jM56 c56_64 rfl).trans ?_
            refine (sv_aload_n jM56 c56_65 rfl rfl).trans ?_
            refine (sv_getf jM56 c56_66 rfl lf_5_18 (fg_49_2 _)).trans ?_
            refine (sv_icmp_lt jM56 c56_69 rfl (t := 77) (by decide +kernel)).trans ?_
            refine jif _ ?_ ?_
            ·
              refine (sv_iinc (ls1 := [some (.ref 49), some (.ref 11), some (.int (x2 + r1)), some (.int (x3 + (1 : Int32))), some (.int (x4 + 1)), some (.int r1)]) jM56 c56_77 rfl rfl (v := 1) (by decide +kernel) rfl).trans ?_
              refine (sv_goto jM56 c56_80 rfl (t := 7) (by decide +kernel)).trans ?_
              rfl
            ·
              refine (sv_iload jM56 c56_72 rfl rfl).trans ?_
              refine (sv_iconst jM56 c56_74 rfl (v := 1) (by decide +kernel)).trans ?_
              refine (sv_iadd jM56 c56_75 rfl).trans ?_
              exact sv_iret jM56 c56_76 rfl rfl
      ·
        refine (sv_iconst jM56 c56_37 rfl (v := 0) (by decide +kernel)).trans ?_
        refine (sv_goto jM56 c56_38 rfl (t := 44) (by decide +kernel)).trans ?_
        refine (sv_istore_n (ls1 := [some (.ref 49), some (.ref 11), some (.int (x2 + r1)), some (.int (0 : Int32)), some (.int x4), some (.int r1)]) jM56 c56_44 rfl (Nat.lt_of_lt_of_eq (by decide +kernel : 3 < 6) rfl) rfl).trans ?_
        refine (sv_iload_n jM56 c56_45 rfl rfl).trans ?_
        refine (sv_aload_n jM56 c56_46 rfl rfl).trans ?_
        refine (sv_getf jM56 c56_47 rfl lf_5_11 (fg_49_0 _)).trans ?_
        refine (sv_icmp_ge jM56 c56_50 rfl (t := 72) (by decide +kernel)).trans ?_
        refine jif _ ?_ ?_
        ·
          refine (sv_iload jM56 c56_72 rfl rfl).trans ?_
          refine (sv_iconst jM56 c56_74 rfl (v := 1) (by decide +kernel)).trans ?_
          refine (sv_iadd jM56 c56_75 rfl).trans ?_
          exact sv_iret jM56 c56_76 rfl rfl
        ·
          refine (sv_iload_n jM56 c56_53 rfl rfl).trans ?_
          refine (sv_aload_n jM56 c56_54 rfl rfl).trans ?_
          refine (sv_getf jM56 c56_55 rfl lf_5_15 (fg_49_1 _)).trans ?_
          refine (sv_icmp_ge jM56 c56_58 rfl (t := 72) (by decide +kernel)).trans ?_
          refine jif _ ?_ ?_
          ·
            refine (sv_iload jM56 c56_72 rfl rfl).trans ?_
            refine (sv_iconst jM56 c56_74 rfl (v := 1) (by decide +kernel)).trans ?_
            refine (sv_iadd jM56 c56_75 rfl).trans ?_
            exact sv_iret jM56 c56_76 rfl rfl
          ·
            refine (sv_iload jM56 c56_61 rfl rfl).trans ?_
            refine (sv_iconst jM56 c56_63 rfl (v := 1) (by decide +kernel)).trans ?_
            refine (sv_iadd jM56 c56_64 rfl).trans ?_
            refine (sv_aload_n jM56 c56_65 rfl rfl).trans ?_
            refine (sv_getf jM56 c56_66 rfl lf_5_18 (fg_49_2 _)).trans ?_
            refine (sv_icmp_lt jM56 c56_69 rfl (t := 77) (by decide +kernel)).trans ?_
            refine jif _ ?_ ?_
            ·
              refine (sv_iinc (ls1 := [some (.ref 49), some (.ref 11), some (.int (x2 + r1)), some (.int (0 : Int32)), some (.int (x4 + 1)), some (.int r1)]) jM56 c56_77 rfl rfl (v := 1) (by decide +kernel) rfl).trans ?_
              refine (sv_goto jM56 c56_80 rfl (t := 7) (by decide +kernel)).trans ?_
              rfl
            ·
              refine (sv_iload jM56 c56_72 rfl rfl).trans ?_
              refine (sv_iconst jM56 c56_74 rfl (v := 1) (by decide +kernel)).trans ?_
              refine (sv_iadd jM56 c56_75 rfl).trans ?_
              exact sv_iret jM56 c56_76 rfl rfl
set_option maxRecDepth 20000 in
set_option maxHeartbeats 4000000 in
theorem Rule_secondsUntilStop_46_11_in (σ : jm_S) : jc 56 [(.ref 46), (.ref 11)] σ = jv 56 7 [some (.ref 46), some (.ref 11), some (.int (0 : Int32)), some (.int (0 : Int32)), some (.int (0 : Int32)), none] [] σ := by
  refine (jc_of (ls1 := [some (.ref 46), some (.ref 11), none, none, none, none]) ((jm_ini_of jM56).trans rfl)).trans ?_
  refine (sv_iconst jM56 c56_0 rfl (v := 0) (by decide +kernel)).trans ?_
  refine (sv_istore_n (ls1 := [some (.ref 46), some (.ref 11), some (.int (0 : Int32)), none, none, none]) jM56 c56_1 rfl (Nat.lt_of_lt_of_eq (by decide +kernel : 2 < 6) rfl) rfl).trans ?_
  refine (sv_iconst jM56 c56_2 rfl (v := 0) (by decide +kernel)).trans ?_
  refine (sv_istore_n (ls1 := [some (.ref 46), some (.ref 11), some (.int (0 : Int32)), some (.int (0 : Int32)), none, none]) jM56 c56_3 rfl (Nat.lt_of_lt_of_eq (by decide +kernel : 3 < 6) rfl) rfl).trans ?_
  refine (sv_iconst jM56 c56_4 rfl (v := 0) (by decide +kernel)).trans ?_
  refine (sv_istore (ls1 := [some (.ref 46), some (.ref 11), some (.int (0 : Int32)), some (.int (0 : Int32)), some (.int (0 : Int32)), none]) jM56 c56_5 rfl (Nat.lt_of_lt_of_eq (by decide +kernel : 4 < 6) rfl) rfl).trans ?_
  rfl
set_option maxRecDepth 20000 in
set_option maxHeartbeats 4000000 in
theorem Rule_secondsUntilStop_46_11_L7 (x2 : Int32) (x3 : Int32) (x4 : Int32) (u5 : Option Value) (σ : jm_S) : jv 56 7 [some (.ref 46), some (.ref 11), some (.int x2), some (.int x3), some (.int x4), u5] [] σ = (if (200 : Int32) ≤ x4 then some (some (.int (200 : Int32)), σ) else jbi (jc 53 [(.ref 11), (.int x4)] σ) (fun r1 τ1 => (if 0 < r1 then (if (τ1 46 0) ≤ (0 : Int32) then some (some (.int (x4 + (1 : Int32))), τ1) else (if (τ1 46 1) ≤ (x2 + r1) then some (some (.int (x4 + (1 : Int32))), τ1) else (if (x4 + (1 : Int32)) < (τ1 46 2) then jv 56 7 [some (.ref 46), some (.ref 11), some (.int (x2 + r1)), some (.int (0 : Int32)), some (.int (x4 + 1)), some (.int r1)] [] τ1 else some (some (.int (x4 + (1 : Int32))), τ1)))) else (if ¬ (x2 + r1) = 0 then (if (τ1 46 0) ≤ (x3 + (1 : Int32)) then some (some (.int (x4 + (1 : Int32))), τ1) else (if (τ1 46 1) ≤ (x2 + r1) then some (some (.int (x4 + (1 : Int32))), τ1) else (if (x4 + (1 : Int32)) < (τ1 46 2) then jv 56 7 [some (.ref 46), some (.ref 11), some (.int (x2 + r1)), some (.int (x3 + (1 : Int32))), some (.int (x4 + 1)), some (.int r1)] [] τ1 else some (some (.int (x4 + (1 : Int32))), τ1)))) else (if (τ1 46 0) ≤ (0 : Int32) then some (some (.int (x4 + (1 : Int32))), τ1) else (if (τ1 46 1) ≤ (x2 + r1) then some (some (.int (x4 + (1 : Int32))), τ1) else (if (x4 + (1 : Int32)) < (τ1 46 2) then jv 56 7 [some (.ref 46), some (.ref 11), some (.int (x2 + r1)), some (.int (0 : Int32)), some (.int (x4 + 1)), some (.int r1)] [] τ1 else some (some (.int (x4 + (1 : Int32))), τ1)))))))) := by
  refine (sv_iload jM56 c56_7 rfl rfl).trans ?_
  refine (sv_sipush jM56 c56_9 rfl (v := 200) (by decide +kernel)).trans ?_
  refine (sv_icmp_ge jM56 c56_12 rfl (t := 83) (by decide +kernel)).trans ?_
  refine jif _ ?_ ?_
  ·
    refine (sv_sipush jM56 c56_83 rfl (v := 200) (by decide +kernel)).trans ?_
    exact sv_iret jM56 c56_86 rfl rfl
  ·
    refine (sv_aload_n jM56 c56_15 rfl rfl).trans ?_
    refine (sv_iload jM56 c56_16 rfl rfl).trans ?_
    refine (sv_callvi (pl := 0) jM56 c56_18 rfl (jm_call_v (a := 11) (as := [(.int x4)]) (rest := []) lm_5_57 rfl jM53 rfl rfl rfl rfl rfl) jM53 rfl (Or.inl rfl)).trans ?_
    refine jbi_c (fun r1 τ1 => ?_)
    refine (sv_istore (ls1 := [some (.ref 46), some (.ref 11), some (.int x2), some (.int x3), some (.int x4), some (.int r1)]) jM56 c56_21 rfl (Nat.lt_of_lt_of_eq (by decide +kernel : 5 < 6) rfl) rfl).trans ?_
    refine (sv_iload_n jM56 c56_23 rfl rfl).trans ?_
    refine (sv_iload jM56 c56_24 rfl rfl).trans ?_
    refine (sv_iadd jM56 c56_26 rfl).trans ?_
    refine (sv_istore_n (ls1 := [some (.ref 46), some (.ref 11), some (.int (x2 + r1)), some (.int x3), some (.int x4), some (.int r1)]) jM56 c56_27 rfl (Nat.lt_of_lt_of_eq (by decide +kernel : 2 < 6) rfl) rfl).trans ?_
    refine (sv_iload jM56 c56_28 rfl rfl).trans ?_
    refine (sv_if_gt jM56 c56_30 rfl (t := 37) (by decide +kernel)).trans ?_
    refine jif _ ?_ ?_
    ·
      refine (sv_iconst jM56 c56_37 rfl (v := 0) (by decide +kernel)).trans ?_
      refine (sv_goto jM56 c56_38 rfl (t := 44) (by decide +kernel)).trans ?_
      refine (sv_istore_n (ls1 := [some (.ref 46), some (.ref 11), some (.int (x2 + r1)), some (.int (0 : Int32)), some (.int x4), some (.int r1)]) jM56 c56_44 rfl (Nat.lt_of_lt_of_eq (by decide +kernel : 3 < 6) rfl) rfl).trans ?_
      refine (sv_iload_n jM56 c56_45 rfl rfl).trans ?_
      refine (sv_aload_n jM56 c56_46 rfl rfl).trans ?_
      refine (sv_getf jM56 c56_47 rfl lf_5_11 (fg_46_0 _)).trans ?_
      refine (sv_icmp_ge jM56 c56_50 rfl (t := 72) (by decide +kernel)).trans ?_
      refine jif _ ?_ ?_
      ·
        refine (sv_iload jM56 c56_72 rfl rfl).trans ?_
        refine (sv_iconst jM56 c56_74 rfl (v := 1) (by decide +kernel)).trans ?_
        refine (sv_iadd jM56 c56_75 rfl).trans ?_
        exact sv_iret jM56 c56_76 rfl rfl
      ·
        refine (sv_iload_n jM56 c56_53 rfl rfl).trans ?_
        refine (sv_aload_n jM56 c56_54 rfl rfl).trans ?_
        refine (sv_getf jM56 c56_55 rfl lf_5_15 (fg_46_1 _)).trans ?_
        refine (sv_icmp_ge jM56 c56_58 rfl (t := 72) (by decide +kernel)).trans ?_
        refine jif _ ?_ ?_
        ·
          refine (sv_iload jM56 c56_72 rfl rfl).trans ?_
          refine (sv_iconst jM56 c56_74 rfl (v := 1) (by decide +kernel)).trans ?_
          refine (sv_iadd jM56 c56_75 rfl).trans ?_
          exact sv_iret jM56 c56_76 rfl rfl
        ·
          refine (sv_iload jM56 c56_61 rfl rfl).trans ?_
          refine (sv_iconst jM56 c56_63 rfl (v := 1) (by decide +kernel)).trans ?_
          refine (sv_iadd jM56 c56_64 rfl).trans ?_
          refine (sv_aload_n jM56 c56_65 rfl rfl).trans ?_
          refine (sv_getf jM56 c56_66 rfl lf_5_18 (fg_46_2 _)).trans ?_
          refine (sv_icmp_lt jM56 c56_69 rfl (t := 77) (by decide +kernel)).trans ?_
          refine jif _ ?_ ?_
          ·
            refine (sv_iinc (ls1 := [some (.ref 46), some (.ref 11), some (.int (x2 + r1)), some (.int (0 : Int32)), some (.int (x4 + 1)), some (.int r1)]) jM56 c56_77 rfl rfl (v := 1) (by decide +kernel) rfl).trans ?_
            refine (sv_goto jM56 c56_80 rfl (t := 7) (by decide +kernel)).trans ?_
            rfl
          ·
            refine (sv_iload jM56 c56_72 rfl rfl).trans ?_
            refine (sv_iconst jM56 c56_74 rfl (v := 1) (by decide +kernel)).trans ?_
            refine (sv_iadd jM56 c56_75 rfl).trans ?_
            exact sv_iret jM56 c56_76 rfl rfl
    ·
      refine (sv_iload_n jM56 c56_33 rfl rfl).trans ?_
      refine (sv_if_ne jM56 c56_34 rfl (t := 41) (by decide +kernel)).trans ?_
      refine jif _ ?_ ?_
      ·
        refine (sv_iload_n jM56 c56_41 rfl rfl).trans ?_
        refine (sv_iconst jM56 c56_42 rfl (v := 1) (by decide +kernel)).trans ?_
        refine (sv_iadd jM56 c56_43 rfl).trans ?_
        refine (sv_istore_n (ls1 := [some (.ref 46), some (.ref 11), some (.int (x2 + r1)), some (.int (x3 + (1 : Int32))), some (.int x4), some (.int r1)]) jM56 c56_44 rfl (Nat.lt_of_lt_of_eq (by decide +kernel : 3 < 6) rfl) rfl).trans ?_
        refine (sv_iload_n jM56 c56_45 rfl rfl).trans ?_
        refine (sv_aload_n jM56 c56_46 rfl rfl).trans ?_
        refine (sv_getf jM56 c56_47 rfl lf_5_11 (fg_46_0 _)).trans ?_
        refine (sv_icmp_ge jM56 c56_50 rfl (t := 72) (by decide +kernel)).trans ?_
        refine jif _ ?_ ?_
        ·
          refine (sv_iload jM56 c56_72 rfl rfl).trans ?_
          refine (sv_iconst jM56 c56_74 rfl (v := 1) (by decide +kernel)).trans ?_
          refine (sv_iadd jM56 c56_75 rfl).trans ?_
          exact sv_iret jM56 c56_76 rfl rfl
        ·
          refine (sv_iload_n jM56 c56_53 rfl rfl).trans ?_
          refine (sv_aload_n jM56 c56_54 rfl rfl).trans ?_
          refine (sv_getf jM56 c56_55 rfl lf_5_15 (fg_46_1 _)).trans ?_
          refine (sv_icmp_ge jM56 c56_58 rfl (t := 72) (by decide +kernel)).trans ?_
          refine jif _ ?_ ?_
          ·
            refine (sv_iload jM56 c56_72 rfl rfl).trans ?_
            refine (sv_iconst jM56 c56_74 rfl (v := 1) (by decide +kernel)).trans ?_
            refine (sv_iadd jM56 c56_75 rfl).trans ?_
            exact sv_iret jM56 c56_76 rfl rfl
          ·
            refine (sv_iload jM56 c56_61 rfl rfl).trans ?_
            refine (sv_iconst jM56 c56_63 rfl (v := 1) (by decide +kernel)).trans ?_
            refine (sv_iadd jM56 c56_64 rfl).trans ?_
            refine (sv_aload_n jM56 c56_65 rfl rfl).trans ?_
            refine (sv_getf jM56 c56_66 rfl lf_5_18 (fg_46_2 _)).trans ?_
            refine (sv_icmp_lt jM56 c56_69 rfl (t := 77) (by decide +kernel)).trans ?_
            refine jif _ ?_ ?_
            ·
              refine (sv_iinc (ls1 := [some (.ref 46), some (.ref 11), some (.int (x2 + r1)), some (.int (x3 + (1 : Int32))), some (.int (x4 + 1)), some (.int r1)]) jM56 c56_77 rfl rfl (v := 1) (by decide +kernel) rfl).trans ?_
              refine (sv_goto jM56 c56_80 rfl (t := 7) (by decide +kernel)).trans ?_
              rfl
            ·
              refine (sv_iload jM56 c56_72 rfl rfl).trans ?_
              refine (sv_iconst jM56 c56_74 rfl (v := 1) (by decide +kernel)).trans ?_
              refine (sv_iadd jM56 c56_75 rfl).trans ?_
              exact sv_iret jM56 c56_76 rfl rfl
      ·
        refine (sv_iconst jM56 c56_37 rfl (v := 0) (by decide +kernel)).trans ?_
        refine (sv_goto jM56 c56_38 rfl (t := 44) (by decide +kernel)).trans ?_
        refine (sv_istore_n (ls1 := [some (.ref 46), some (.ref 11), some (.int (x2 + r1)), some (.int (0 : Int32)), some (.int x4), some (.int r1)]) jM56 c56_44 rfl (Nat.lt_of_lt_of_eq (by decide +kernel : 3 < 6) rfl) rfl).trans ?_
        refine (sv_iload_n jM56 c56_45 rfl rfl).trans ?_
        refine (sv_aload_n jM56 c56_46 rfl rfl).trans ?_
        refine (sv_getf jM56 c56_47 rfl lf_5_11 (fg_46_0 _)).trans ?_
        refine (sv_icmp_ge jM56 c56_50 rfl (t := 72) (by decide +kernel)).trans ?_
        refine jif _ ?_ ?_
        ·
          refine (sv_iload jM56 c56_72 rfl rfl).trans ?_
          refine (sv_iconst jM56 c56_74 rfl (v := 1) (by decide +kernel)).trans ?_
          refine (sv_iadd jM56 c56_75 rfl).trans ?_
          exact sv_iret jM56 c56_76 rfl rfl
        ·
          refine (sv_iload_n jM56 c56_53 rfl rfl).trans ?_
          refine (sv_aload_n jM56 c56_54 rfl rfl).trans ?_
          refine (sv_getf jM56 c56_55 rfl lf_5_15 (fg_46_1 _)).trans ?_
          refine (sv_icmp_ge jM56 c56_58 rfl (t := 72) (by decide +kernel)).trans ?_
          refine jif _ ?_ ?_
          ·
            refine (sv_iload jM56 c56_72 rfl rfl).trans ?_
            refine (sv_iconst jM56 c56_74 rfl (v := 1) (by decide +kernel)).trans ?_
            refine (sv_iadd jM56 c56_75 rfl).trans ?_
            exact sv_iret jM56 c56_76 rfl rfl
          ·
            refine (sv_iload jM56 c56_61 rfl rfl).trans ?_
            refine (sv_iconst jM56 c56_63 rfl (v := 1) (by decide +kernel)).trans ?_
            refine (sv_iadd jM56 c56_64 rfl).trans ?_
            refine (sv_aload_n jM56 c56_65 rfl rfl).trans ?_
            refine (sv_getf jM56 c56_66 rfl lf_5_18 (fg_46_2 _)).trans ?_
            refine (sv_icmp_lt jM56 c56_69 rfl (t := 77) (by decide +kernel)).trans ?_
            refine jif _ ?_ ?_
            ·
              refine (sv_iinc (ls1 := [some (.ref 46), some (.ref 11), some (.int (x2 + r1)), some (.int (0 : Int32)), some (.int (x4 + 1)), some (.int r1)]) jM56 c56_77 rfl rfl (v := 1) (by decide +kernel) rfl).trans ?_
              refine (sv_goto jM56 c56_80 rfl (t := 7) (by decide +kernel)).trans ?_
              rfl
            ·
              refine (sv_iload jM56 c56_72 rfl rfl).trans ?_
              refine (sv_iconst jM56 c56_74 rfl (v := 1) (by decide +kernel)).trans ?_
              refine (sv_iadd jM56 c56_75 rfl).trans ?_
              exact sv_iret jM56 c56_76 rfl rfl
set_option maxRecDepth 20000 in
set_option maxHeartbeats 4000000 in
theorem Rule_secondsUntilStop_52_11_in (σ : jm_S) : jc 56 [(.ref 52), (.ref 11)] σ = jv 56 7 [some (.ref 52), some (.ref 11), some (.int (0 : Int32)), some (.int (0 : Int32)), some (.int (0 : Int32)), none] [] σ := by
  refine (jc_of (ls1 := [some (.ref 52), some (.ref 11), none, none, none, none]) ((jm_ini_of jM56).trans rfl)).trans ?_
  refine (sv_iconst jM56 c56_0 rfl (v := 0) (by decide +kernel)).trans ?_
  refine (sv_istore_n (ls1 := [some (.ref 52), some (.ref 11), some (.int (0 : Int32)), none, none, none]) jM56 c56_1 rfl (Nat.lt_of_lt_of_eq (by decide +kernel : 2 < 6) rfl) rfl).trans ?_
  refine (sv_iconst jM56 c56_2 rfl (v := 0) (by decide +kernel)).trans ?_
  refine (sv_istore_n (ls1 := [some (.ref 52), some (.ref 11), some (.int (0 : Int32)), some (.int (0 : Int32)), none, none]) jM56 c56_3 rfl (Nat.lt_of_lt_of_eq (by decide +kernel : 3 < 6) rfl) rfl).trans ?_
  refine (sv_iconst jM56 c56_4 rfl (v := 0) (by decide +kernel)).trans ?_
  refine (sv_istore (ls1 := [some (.ref 52), some (.ref 11), some (.int (0 : Int32)), some (.int (0 : Int32)), some (.int (0 : Int32)), none]) jM56 c56_5 rfl (Nat.lt_of_lt_of_eq (by decide +kernel : 4 < 6) rfl) rfl).trans ?_
  rfl
set_option maxRecDepth 20000 in
set_option maxHeartbeats 4000000 in
theorem Rule_secondsUntilStop_52_11_L7 (x2 : Int32) (x3 : Int32) (x4 : Int32) (u5 : Option Value) (σ : jm_S) : jv 56 7 [some (.ref 52), some (.ref 11), some (.int x2), some (.int x3), some (.int x4), u5] [] σ = (if (200 : Int32) ≤ x4 then some (some (.int (200 : Int32)), σ) else jbi (jc 53 [(.ref 11), (.int x4)] σ) (fun r1 τ1 => (if 0 < r1 then (if (τ1 52 0) ≤ (0 : Int32) then some (some (.int (x4 + (1 : Int32))), τ1) else (if (τ1 52 1) ≤ (x2 + r1) then some (some (.int (x4 + (1 : Int32))), τ1) else (if (x4 + (1 : Int32)) < (τ1 52 2) then jv 56 7 [some (.ref 52), some (.ref 11), some (.int (x2 + r1)), some (.int (0 : Int32)), some (.int (x4 + 1)), some (.int r1)] [] τ1 else some (some (.int (x4 + (1 : Int32))), τ1)))) else (if ¬ (x2 + r1) = 0 then (if (τ1 52 0) ≤ (x3 + (1 : Int32)) then some (some (.int (x4 + (1 : Int32))), τ1) else (if (τ1 52 1) ≤ (x2 + r1) then some (some (.int (x4 + (1 : Int32))), τ1) else (if (x4 + (1 : Int32)) < (τ1 52 2) then jv 56 7 [some (.ref 52), some (.ref 11), some (.int (x2 + r1)), some (.int (x3 + (1 : Int32))), some (.int (x4 + 1)), some (.int r1)] [] τ1 else some (some (.int (x4 + (1 : Int32))), τ1)))) else (if (τ1 52 0) ≤ (0 : Int32) then some (some (.int (x4 + (1 : Int32))), τ1) else (if (τ1 52 1) ≤ (x2 + r1) then some (some (.int (x4 + (1 : Int32))), τ1) else (if (x4 + (1 : Int32)) < (τ1 52 2) then jv 56 7 [some (.ref 52), some (.ref 11), some (.int (x2 + r1)), some (.int (0 : Int32)), some (.int (x4 + 1)), some (.int r1)] [] τ1 else some (some (.int (x4 + (1 : Int32))), τ1)))))))) := by
  refine (sv_iload jM56 c56_7 rfl rfl).trans ?_
  refine (sv_sipush jM56 c56_9 rfl (v := 200) (by decide +kernel)).trans ?_
  refine (sv_icmp_ge jM56 c56_12 rfl (t := 83) (by decide +kernel)).trans ?_
  refine jif _ ?_ ?_
  ·
    refine (sv_sipush jM56 c56_83 rfl (v := 200) (by decide +kernel)).trans ?_
    exact sv_iret jM56 c56_86 rfl rfl
  ·
    refine (sv_aload_n jM56 c56_15 rfl rfl).trans ?_
    refine (sv_iload jM56 c56_16 rfl rfl).trans ?_
    refine (sv_callvi (pl := 0) jM56 c56_18 rfl (jm_call_v (a := 11) (as := [(.int x4)]) (rest := []) lm_5_57 rfl jM53 rfl rfl rfl rfl rfl) jM53 rfl (Or.inl rfl)).trans ?_
    refine jbi_c (fun r1 τ1 => ?_)
    refine (sv_istore (ls1 := [some (.ref 52), some (.ref 11), some (.int x2), some (.int x3), some (.int x4), some (.int r1)]) jM56 c56_21 rfl (Nat.lt_of_lt_of_eq (by decide +kernel : 5 < 6) rfl) rfl).trans ?_
    refine (sv_iload_n jM56 c56_23 rfl rfl).trans ?_
    refine (sv_iload jM56 c56_24 rfl rfl).trans ?_
    refine (sv_iadd jM56 c56_26 rfl).trans ?_
    refine (sv_istore_n (ls1 := [some (.ref 52), some (.ref 11), some (.int (x2 + r1)), some (.int x3), some (.int x4), some (.int r1)]) jM56 c56_27 rfl (Nat.lt_of_lt_of_eq (by decide +kernel : 2 < 6) rfl) rfl).trans ?_
    refine (sv_iload jM56 c56_28 rfl rfl).trans ?_
    refine (sv_if_gt jM56 c56_30 rfl (t := 37) (by decide +kernel)).trans ?_
    refine jif _ ?_ ?_
    ·
      refine (sv_iconst jM56 c56_37 rfl (v := 0) (by decide +kernel)).trans ?_
      refine (sv_goto jM56 c56_38 rfl (t := 44) (by decide +kernel)).trans ?_
      refine (sv_istore_n (ls1 := [some (.ref 52), some (.ref 11), some (.int (x2 + r1)), some (.int (0 : Int32)), some (.int x4), some (.int r1)]) jM56 c56_44 rfl (Nat.lt_of_lt_of_eq (by decide +kernel : 3 < 6) rfl) rfl).trans ?_
      refine (sv_iload_n jM56 c56_45 rfl rfl).trans ?_
      refine (sv_aload_n jM56 c56_46 rfl rfl).trans ?_
      refine (sv_getf jM56 c56_47 rfl lf_5_11 (fg_52_0 _)).trans ?_
      refine (sv_icmp_ge jM56 c56_50 rfl (t := 72) (by decide +kernel)).trans ?_
      refine jif _ ?_ ?_
      ·
        refine (sv_iload jM56 c56_72 rfl rfl).trans ?_
        refine (sv_iconst jM56 c56_74 rfl (v := 1) (by decide +kernel)).trans ?_
        refine (sv_iadd jM56 c56_75 rfl).trans ?_
        exact sv_iret jM56 c56_76 rfl rfl
      ·
        refine (sv_iload_n jM56 c56_53 rfl rfl).trans ?_
        refine (sv_aload_n jM56 c56_54 rfl rfl).trans ?_
        refine (sv_getf jM56 c56_55 rfl lf_5_15 (fg_52_1 _)).trans ?_
        refine (sv_icmp_ge jM56 c56_58 rfl (t := 72) (by decide +kernel)).trans ?_
        refine jif _ ?_ ?_
        ·
          refine (sv_iload jM56 c56_72 rfl rfl).trans ?_
          refine (sv_iconst jM56 c56_74 rfl (v := 1) (by decide +kernel)).trans ?_
          refine (sv_iadd jM56 c56_75 rfl).trans ?_
          exact sv_iret jM56 c56_76 rfl rfl
        ·
          refine (sv_iload jM56 c56_61 rfl rfl).trans ?_
          refine (sv_iconst jM56 c56_63 rfl (v := 1) (by decide +kernel)).trans ?_
          refine (sv_iadd jM56 c56_64 rfl).trans ?_
          refine (sv_aload_n jM56 c56_65 rfl rfl).trans ?_
          refine (sv_getf jM56 c56_66 rfl lf_5_18 (fg_52_2 _)).trans ?_
          refine (sv_icmp_lt jM56 c56_69 rfl (t := 77) (by decide +kernel)).trans ?_
          refine jif _ ?_ ?_
          ·
            refine (sv_iinc (ls1 := [some (.ref 52), some (.ref 11), some (.int (x2 + r1)), some (.int (0 : Int32)), some (.int (x4 + 1)), some (.int r1)]) jM56 c56_77 rfl rfl (v := 1) (by decide +kernel) rfl).trans ?_
            refine (sv_goto jM56 c56_80 rfl (t := 7) (by decide +kernel)).trans ?_
            rfl
          ·
            refine (sv_iload jM56 c56_72 rfl rfl).trans ?_
            refine (sv_iconst jM56 c56_74 rfl (v := 1) (by decide +kernel)).trans ?_
            refine (sv_iadd jM56 c56_75 rfl).trans ?_
            exact sv_iret jM56 c56_76 rfl rfl
    ·
      refine (sv_iload_n jM56 c56_33 rfl rfl).trans ?_
      refine (sv_if_ne jM56 c56_34 rfl (t := 41) (by decide +kernel)).trans ?_
      refine jif _ ?_ ?_
      ·
        refine (sv_iload_n jM56 c56_41 rfl rfl).trans ?_
        refine (sv_iconst jM56 c56_42 rfl (v := 1) (by decide +kernel)).trans ?_
        refine (sv_iadd jM56 c56_43 rfl).trans ?_
        refine (sv_istore_n (ls1 := [some (.ref 52), some (.ref 11), some (.int (x2 + r1)), some (.int (x3 + (1 : Int32))), some (.int x4), some (.int r1)]) jM56 c56_44 rfl (Nat.lt_of_lt_of_eq (by decide +kernel : 3 < 6) rfl) rfl).trans ?_
        refine (sv_iload_n jM56 c56_45 rfl rfl).trans ?_
        refine (sv_aload_n jM56 c56_46 rfl rfl).trans ?_
        refine (sv_getf jM56 c56_47 rfl lf_5_11 (fg_52_0 _)).trans ?_
        refine (sv_icmp_ge jM56 c56_50 rfl (t := 72) (by decide +kernel)).trans ?_
        refine jif _ ?_ ?_
        ·
          refine (sv_iload jM56 c56_72 rfl rfl).trans ?_
          refine (sv_iconst jM56 c56_74 rfl (v := 1) (by decide +kernel)).trans ?_
          refine (sv_iadd jM56 c56_75 rfl).trans ?_
          exact sv_iret jM56 c56_76 rfl rfl
        ·
          refine (sv_iload_n jM56 c56_53 rfl rfl).trans ?_
          refine (sv_aload_n jM56 c56_54 rfl rfl).trans ?_
          refine (sv_getf jM56 c56_55 rfl lf_5_15 (fg_52_1 _)).trans ?_
          refine (sv_icmp_ge jM56 c56_58 rfl (t := 72) (by decide +kernel)).trans ?_
          refine jif _ ?_ ?_
          ·
            refine (sv_iload jM56 c56_72 rfl rfl).trans ?_
            refine (sv_iconst jM56 c56_74 rfl (v := 1) (by decide +kernel)).trans ?_
            refine (sv_iadd jM56 c56_75 rfl).trans ?_
            exact sv_iret jM56 c56_76 rfl rfl
          ·
            refine (sv_iload jM56 c56_61 rfl rfl).trans ?_
            refine (sv_iconst jM56 c56_63 rfl (v := 1) (by decide +kernel)).trans ?_
            refine (sv_iadd jM56 c56_64 rfl).trans ?_
            refine (sv_aload_n jM56 c56_65 rfl rfl).trans ?_
            refine (sv_getf jM56 c56_66 rfl lf_5_18 (fg_52_2 _)).trans ?_
            refine (sv_icmp_lt jM56 c56_69 rfl (t := 77) (by decide +kernel)).trans ?_
            refine jif _ ?_ ?_
            ·
              refine (sv_iinc (ls1 := [some (.ref 52), some (.ref 11), some (.int (x2 + r1)), some (.int (x3 + (1 : Int32))), some (.int (x4 + 1)), some (.int r1)]) jM56 c56_77 rfl rfl (v := 1) (by decide +kernel) rfl).trans ?_
              refine (sv_goto jM56 c56_80 rfl (t := 7) (by decide +kernel)).trans ?_
              rfl
            ·
              refine (sv_iload jM56 c56_72 rfl rfl).trans ?_
              refine (sv_iconst jM56 c56_74 rfl (v := 1) (by decide +kernel)).trans ?_
              refine (sv_iadd jM56 c56_75 rfl).trans ?_
              exact sv_iret jM56 c56_76 rfl rfl
      ·
        refine (sv_iconst jM56 c56_37 rfl (v := 0) (by decide +kernel)).trans ?_
        refine (sv_goto jM56 c56_38 rfl (t := 44) (by decide +kernel)).trans ?_
        refine (sv_istore_n (ls1 := [some (.ref 52), some (.ref 11), some (.int (x2 + r1)), some (.int (0 : Int32)), some (.int x4), some (.int r1)]) jM56 c56_44 rfl (Nat.lt_of_lt_of_eq (by decide +kernel : 3 < 6) rfl) rfl).trans ?_
        refine (sv_iload_n jM56 c56_45 rfl rfl).trans ?_
        refine (sv_aload_n jM56 c56_46 rfl rfl).trans ?_
        refine (sv_getf jM56 c56_47 rfl lf_5_11 (fg_52_0 _)).trans ?_
        refine (sv_icmp_ge jM56 c56_50 rfl (t := 72) (by decide +kernel)).trans ?_
        refine jif _ ?_ ?_
        ·
          refine (sv_iload jM56 c56_72 rfl rfl).trans ?_
          refine (sv_iconst jM56 c56_74 rfl (v := 1) (by decide +kernel)).trans ?_
          refine (sv_iadd jM56 c56_75 rfl).trans ?_
          exact sv_iret jM56 c56_76 rfl rfl
        ·
          refine (sv_iload_n jM56 c56_53 rfl rfl).trans ?_
          refine (sv_aload_n jM56 c56_54 rfl rfl).trans ?_
          refine (sv_getf jM56 c56_55 rfl lf_5_15 (fg_52_1 _)).trans ?_
          refine (sv_icmp_ge jM56 c56_58 rfl (t := 72) (by decide +kernel)).trans ?_
          refine jif _ ?_ ?_
          ·
            refine (sv_iload jM56 c56_72 rfl rfl).trans ?_
            refine (sv_iconst jM56 c56_74 rfl (v := 1) (by decide +kernel)).trans ?_
            refine (sv_iadd jM56 c56_75 rfl).trans ?_
            exact sv_iret jM56 c56_76 rfl rfl
          ·
            refine (sv_iload jM56 c56_61 rfl rfl).trans ?_
            refine (sv_iconst jM56 c56_63 rfl (v := 1) (by decide +kernel)).trans ?_
            refine (sv_iadd jM56 c56_64 rfl).trans ?_
            refine (sv_aload_n jM56 c56_65 rfl rfl).trans ?_
            refine (sv_getf jM56 c56_66 rfl lf_5_18 (fg_52_2 _)).trans ?_
            refine (sv_icmp_lt jM56 c56_69 rfl (t := 77) (by decide +kernel)).trans ?_
            refine jif _ ?_ ?_
            ·
              refine (sv_iinc (ls1 := [some (.ref 52), some (.ref 11), some (.int (x2 + r1)), some (.int (0 : Int32)), some (.int (x4 + 1)), some (.int r1)]) jM56 c56_77 rfl rfl (v := 1) (by decide +kernel) rfl).trans ?_
              refine (sv_goto jM56 c56_80 rfl (t := 7) (by decide +kernel)).trans ?_
              rfl
            ·
              refine (sv_iload jM56 c56_72 rfl rfl).trans ?_
              refine (sv_iconst jM56 c56_74 rfl (v := 1) (by decide +kernel)).trans ?_
              refine (sv_iadd jM56 c56_75 rfl).trans ?_
              exact sv_iret jM56 c56_76 rfl rfl
set_option maxRecDepth 20000 in
set_option maxHeartbeats 4000000 in
theorem Evens_bestHeat_in (σ : jm_S) : jc 68 [(.ref 35)] σ = jv 68 4 [some (.ref 35), some (.int (1 : Int32)), some (.int (2 : Int32))] [] σ := by
  refine (jc_of (ls1 := [some (.ref 35), none, none]) ((jm_ini_of jM68).trans rfl)).trans ?_
  refine (sv_iconst jM68 c68_0 rfl (v := 1) (by decide +kernel)).trans ?_
  refine (sv_istore_n (ls1 := [some (.ref 35), some (.int (1 : Int32)), none]) jM68 c68_1 rfl (Nat.lt_of_lt_of_eq (by decide +kernel : 1 < 3) rfl) rfl).trans ?_
  refine (sv_iconst jM68 c68_2 rfl (v := 2) (by decide +kernel)).trans ?_
  refine (sv_istore_n (ls1 := [some (.ref 35), some (.int (1 : Int32)), some (.int (2 : Int32))]) jM68 c68_3 rfl (Nat.lt_of_lt_of_eq (by decide +kernel : 2 < 3) rfl) rfl).trans ?_
  rfl
set_option maxRecDepth 20000 in
set_option maxHeartbeats 4000000 in
theorem Evens_bestHeat_L4 (x1 : Int32) (x2 : Int32) (σ : jm_S) : jv 68 4 [some (.ref 35), some (.int x1), some (.int x2)] [] σ = (if (99 : Int32) < x2 then some (some (.int x1), σ) else (if x2 < 0 ∨ 100 ≤ x2.toNatClampNeg then none else (if x1 < 0 ∨ 100 ≤ x1.toNatClampNeg then none else (if (σ 36 x1.toNatClampNeg) < (σ 36 x2.toNatClampNeg) then jv 68 4 [some (.ref 35), some (.int x2), some (.int (x2 + 1))] [] σ else (if x2 < 0 ∨ 100 ≤ x2.toNatClampNeg then none else (if x1 < 0 ∨ 100 ≤ x1.toNatClampNeg then none else (if ¬ (σ 36 x2.toNatClampNeg) = (σ 36 x1.toNatClampNeg) then jv 68 4 [some (.ref 35), some (.int x1), some (.int (x2 + 1))] [] σ else (if x2 < 0 ∨ 100 ≤ x2.toNatClampNeg then none else (if x1 < 0 ∨ 100 ≤ x1.toNatClampNeg then none else (if (σ 37 x1.toNatClampNeg) ≤ (σ 37 x2.toNatClampNeg) then jv 68 4 [some (.ref 35), some (.int x1), some (.int (x2 + 1))] [] σ else jv 68 4 [some (.ref 35), some (.int x2), some (.int (x2 + 1))] [] σ)))))))))) := by
  refine (sv_iload_n jM68 c68_4 rfl rfl).trans ?_
  refine (sv_bipush jM68 c68_5 rfl (v := 99) (by decide +kernel)).trans ?_
  refine (sv_icmp_gt jM68 c68_7 rfl (t := 63) (by decide +kernel)).trans ?_
  refine jif _ ?_ ?_
  ·
    refine (sv_iload_n jM68 c68_63 rfl rfl).trans ?_
    exact sv_iret jM68 c68_64 rfl rfl
  ·
    refine (sv_aload_n jM68 c68_10 rfl rfl).trans ?_
    refine (sv_getf jM68 c68_11 rfl lf_1_9 (fg_35_0 _)).trans ?_
    refine (sv_iload_n jM68 c68_14 rfl rfl).trans ?_
    refine (sv_iald jM68 c68_15 rfl (ia_36 _)).trans ?_
    refine jif _ rfl ?_
    refine (sv_aload_n jM68 c68_16 rfl rfl).trans ?_
    refine (sv_getf jM68 c68_17 rfl lf_1_9 (fg_35_0 _)).trans ?_
    refine (sv_iload_n jM68 c68_20 rfl rfl).trans ?_
    refine (sv_iald jM68 c68_21 rfl (ia_36 _)).trans ?_
    refine jif _ rfl ?_
    refine (sv_icmp_gt jM68 c68_22 rfl (t := 55) (by decide +kernel)).trans ?_
    refine jif _ ?_ ?_
    ·
      refine (sv_iload_n jM68 c68_55 rfl rfl).trans ?_
      refine (sv_istore_n (ls1 := [some (.ref 35), some (.int x2), some (.int x2)]) jM68 c68_56 rfl (Nat.lt_of_lt_of_eq (by decide +kernel : 1 < 3) rfl) rfl).trans ?_
      refine (sv_iinc (ls1 := [some (.ref 35), some (.int x2), some (.int (x2 + 1))]) jM68 c68_57 rfl rfl (v := 1) (by decide +kernel) rfl).trans ?_
      refine (sv_goto jM68 c68_60 rfl (t := 4) (by decide +kernel)).trans ?_
      rfl
    ·
      refine (sv_aload_n jM68 c68_25 rfl rfl).trans ?_
      refine (sv_getf jM68 c68_26 rfl lf_1_9 (fg_35_0 _)).trans ?_
      refine (sv_iload_n jM68 c68_29 rfl rfl).trans ?_
      refine (sv_iald jM68 c68_30 rfl (ia_36 _)).trans ?_
      refine jif _ rfl ?_
      refine (sv_aload_n jM68 c68_31 rfl rfl).trans ?_
      refine (sv_getf jM68 c68_32 rfl lf_1_9 (fg_35_0 _)).trans ?_
      refine (sv_iload_n jM68 c68_35 rfl rfl).trans ?_
      refine (sv_iald jM68 c68_36 rfl (ia_36 _)).trans ?_
      refine jif _ rfl ?_
      refine (sv_icmp_ne jM68 c68_37 rfl (t := 57) (by decide +kernel)).trans ?_
      refine jif _ ?_ ?_
      ·
        refine (sv_iinc (ls1 := [some (.ref 35), some (.int x1), some (.int (x2 + 1))]) jM68 c68_57 rfl rfl (v := 1) (by decide +kernel) rfl).trans ?_
        refine (sv_goto jM68 c68_60 rfl (t := 4) (by decide +kernel)).trans ?_
        rfl
      ·
        refine (sv_aload_n jM68 c68_40 rfl rfl).trans ?_
        refine (sv_getf jM68 c68_41 rfl lf_1_15 (fg_35_1 _)).trans ?_
        refine (sv_iload_n jM68 c68_44 rfl rfl).trans ?_
        refine (sv_iald jM68 c68_45 rfl (ia_37 _)).trans ?_
        refine jif _ rfl ?_
        refine (sv_aload_n jM68 c68_46 rfl rfl).trans ?_
        refine (sv_getf jM68 c68_47 rfl lf_1_15 (fg_35_1 _)).trans ?_
        refine (sv_iload_n jM68 c68_50 rfl rfl).trans ?_
        refine (sv_iald jM68 c68_51 rfl (ia_37 _)).trans ?_
        refine jif _ rfl ?_
        refine (sv_icmp_ge jM68 c68_52 rfl (t := 57) (by decide +kernel)).trans ?_
        refine jif _ ?_ ?_
        ·
          refine (sv_iinc (ls1 := [some (.ref 35), some (.int x1), some (.int (x2 + 1))]) jM68 c68_57 rfl rfl (v := 1) (by decide +kernel) rfl).trans ?_
          refine (sv_goto jM68 c68_60 rfl (t := 4) (by decide +kernel)).trans ?_
          rfl
        ·
          refine (sv_iload_n jM68 c68_55 rfl rfl).trans ?_
          refine (sv_istore_n (ls1 := [some (.ref 35), some (.int x2), some (.int x2)]) jM68 c68_56 rfl (Nat.lt_of_lt_of_eq (by decide +kernel : 1 < 3) rfl) rfl).trans ?_
          refine (sv_iinc (ls1 := [some (.ref 35), some (.int x2), some (.int (x2 + 1))]) jM68 c68_57 rfl rfl (v := 1) (by decide +kernel) rfl).trans ?_
          refine (sv_goto jM68 c68_60 rfl (t := 4) (by decide +kernel)).trans ?_
          rfl
set_option maxRecDepth 20000 in
set_option maxHeartbeats 4000000 in
theorem Evens_isInFront_in (x1 : Int32) (σ : jm_S) : jc 71 [(.ref 35), (.int x1)] σ = jv 71 2 [some (.ref 35), some (.int x1), some (.int (1 : Int32))] [] σ := by
  refine (jc_of (ls1 := [some (.ref 35), some (.int x1), none]) ((jm_ini_of jM71).trans rfl)).trans ?_
  refine (sv_iconst jM71 c71_0 rfl (v := 1) (by decide +kernel)).trans ?_
  refine (sv_istore_n (ls1 := [some (.ref 35), some (.int x1), some (.int (1 : Int32))]) jM71 c71_1 rfl (Nat.lt_of_lt_of_eq (by decide +kernel : 2 < 3) rfl) rfl).trans ?_
  rfl
set_option maxRecDepth 20000 in
set_option maxHeartbeats 4000000 in
theorem Evens_isInFront_L2 (x1 : Int32) (x2 : Int32) (σ : jm_S) : jv 71 2 [some (.ref 35), some (.int x1), some (.int x2)] [] σ = (if (99 : Int32) < x2 then some (some (.int (1 : Int32)), σ) else jbi (jc 72 [(.ref 35), (.int x2), (.int x1)] σ) (fun r1 τ1 => (if r1 = 0 then jv 71 2 [some (.ref 35), some (.int x1), some (.int (x2 + 1))] [] τ1 else some (some (.int (0 : Int32)), τ1)))) := by
  refine (sv_iload_n jM71 c71_2 rfl rfl).trans ?_
  refine (sv_bipush jM71 c71_3 rfl (v := 99) (by decide +kernel)).trans ?_
  refine (sv_icmp_gt jM71 c71_5 rfl (t := 25) (by decide +kernel)).trans ?_
  refine jif _ ?_ ?_
  ·
    refine (sv_iconst jM71 c71_25 rfl (v := 1) (by decide +kernel)).trans ?_
    exact sv_zret jM71 c71_26 rfl rfl (by decide +kernel)
  ·
    refine (sv_aload_n jM71 c71_8 rfl rfl).trans ?_
    refine (sv_iload_n jM71 c71_9 rfl rfl).trans ?_
    refine (sv_iload_n jM71 c71_10 rfl rfl).trans ?_
    refine (sv_callvi (pl := 0) jM71 c71_11 rfl (jm_call_v (a := 35) (as := [(.int x2), (.int x1)]) (rest := []) lm_1_22 rfl jM72 rfl rfl rfl rfl rfl) jM72 rfl (Or.inr rfl)).trans ?_
    refine jbi_c (fun r1 τ1 => ?_)
    refine (sv_if_eq jM71 c71_14 rfl (t := 19) (by decide +kernel)).trans ?_
    refine jif _ ?_ ?_
    ·
      refine (sv_iinc (ls1 := [some (.ref 35), some (.int x1), some (.int (x2 + 1))]) jM71 c71_19 rfl rfl (v := 1) (by decide +kernel) rfl).trans ?_
      refine (sv_goto jM71 c71_22 rfl (t := 2) (by decide +kernel)).trans ?_
      rfl
    ·
      refine (sv_iconst jM71 c71_17 rfl (v := 0) (by decide +kernel)).trans ?_
      exact sv_zret jM71 c71_18 rfl rfl (by decide +kernel)
set_option maxRecDepth 20000 in
set_option maxHeartbeats 4000000 in
theorem Arrays_fill_22_in (x1 : Int32) (σ : jm_S) : jc 21 [(.ref 22), (.int x1)] σ = jv 21 5 [some (.ref 22), some (.int x1), some (.int (0 : Int32)), some (.int (4 : Int32))] [] σ := by
  refine (jc_of (ls1 := [some (.ref 22), some (.int x1), none, none]) ((jm_ini_of jM21).trans rfl)).trans ?_
  refine (sv_iconst jM21 c21_0 rfl (v := 0) (by decide +kernel)).trans ?_
  refine (sv_istore_n (ls1 := [some (.ref 22), some (.int x1), some (.int (0 : Int32)), none]) jM21 c21_1 rfl (Nat.lt_of_lt_of_eq (by decide +kernel : 2 < 4) rfl) rfl).trans ?_
  refine (sv_aload_n jM21 c21_2 rfl rfl).trans ?_
  refine (sv_alen jM21 c21_3 rfl (ln_22 _) (v := 4) (by decide +kernel)).trans ?_
  refine (sv_istore_n (ls1 := [some (.ref 22), some (.int x1), some (.int (0 : Int32)), some (.int (4 : Int32))]) jM21 c21_4 rfl (Nat.lt_of_lt_of_eq (by decide +kernel : 3 < 4) rfl) rfl).trans ?_
  rfl
set_option maxRecDepth 20000 in
set_option maxHeartbeats 4000000 in
theorem Arrays_fill_22_L5 (x1 : Int32) (x2 : Int32) (x3 : Int32) (σ : jm_S) : jv 21 5 [some (.ref 22), some (.int x1), some (.int x2), some (.int x3)] [] σ = (if x3 ≤ x2 then some (none, σ) else (if x2 < 0 ∨ 4 ≤ x2.toNatClampNeg then none else jv 21 5 [some (.ref 22), some (.int x1), some (.int (x2 + 1)), some (.int x3)] [] (jm_up σ 22 x2.toNatClampNeg x1))) := by
  refine (sv_iload_n jM21 c21_5 rfl rfl).trans ?_
  refine (sv_iload_n jM21 c21_6 rfl rfl).trans ?_
  refine (sv_icmp_ge jM21 c21_7 rfl (t := 20) (by decide +kernel)).trans ?_
  refine jif _ ?_ ?_
  ·
    exact sv_vret jM21 c21_20 rfl rfl
  ·
    refine (sv_aload_n jM21 c21_10 rfl rfl).trans ?_
    refine (sv_iload_n jM21 c21_11 rfl rfl).trans ?_
    refine (sv_iload_n jM21 c21_12 rfl rfl).trans ?_
    refine (sv_iast jM21 c21_13 rfl wi_22).trans ?_
    refine jif _ rfl ?_
    refine (sv_iinc (ls1 := [some (.ref 22), some (.int x1), some (.int (x2 + 1)), some (.int x3)]) jM21 c21_14 rfl rfl (v := 1) (by decide +kernel) rfl).trans ?_
    refine (sv_goto jM21 c21_17 rfl (t := 5) (by decide +kernel)).trans ?_
    rfl
set_option maxRecDepth 20000 in
set_option maxHeartbeats 4000000 in
theorem Hearing_begin_in (σ : jm_S) : jc 98 [(.ref 38)] σ = some (none, (jm_up (jm_up (jm_up (jm_up σ 38 3 (-1 : Int32)) 38 4 (-1 : Int32)) 38 5 (0 : Int32)) 38 6 (-1 : Int32))) := by
  refine (jc_of (ls1 := [some (.ref 38)]) ((jm_ini_of jM98).trans rfl)).trans ?_
  refine (sv_aload_n jM98 c98_0 rfl rfl).trans ?_
  refine (sv_iconst jM98 c98_1 rfl (v := -1) (by decide +kernel)).trans ?_
  refine (sv_putf jM98 c98_2 rfl lf_3_22 (pf_38_3 _ _)).trans ?_
  refine (sv_aload_n jM98 c98_5 rfl rfl).trans ?_
  refine (sv_iconst jM98 c98_6 rfl (v := -1) (by decide +kernel)).trans ?_
  refine (sv_putf jM98 c98_7 rfl lf_3_25 (pf_38_4 _ _)).trans ?_
  refine (sv_aload_n jM98 c98_10 rfl rfl).trans ?_
  refine (sv_iconst jM98 c98_11 rfl (v := 0) (by decide +kernel)).trans ?_
  refine (sv_putf jM98 c98_12 rfl lf_3_28 (pf_38_5 _ _)).trans ?_
  refine (sv_aload_n jM98 c98_15 rfl rfl).trans ?_
  refine (sv_iconst jM98 c98_16 rfl (v := -1) (by decide +kernel)).trans ?_
  refine (sv_putf jM98 c98_17 rfl lf_3_31 (pf_38_6 _ _)).trans ?_
  exact sv_vret jM98 c98_20 rfl rfl
set_option maxRecDepth 20000 in
set_option maxHeartbeats 4000000 in
theorem Hearing_judge_11_in (x1 : Int32) (σ : jm_S) : jc 99 [(.ref 38), (.int x1), (.ref 11)] σ = jbi (jc 100 [(.ref 38), (.ref 11)] σ) (fun r1 τ1 => (if ¬ r1 = 0 then (if (τ1 38 6) = (-1 : Int32) then some (none, (jm_up (jm_up τ1 38 6 x1) 38 7 r1)) else (if (τ1 38 7) ≤ r1 then some (none, τ1) else some (none, (jm_up (jm_up τ1 38 6 x1) 38 7 r1)))) else (if ¬ (τ1 38 3) = (-1 : Int32) then (if (τ1 38 6) = (-1 : Int32) then some (none, (jm_up (jm_up (jm_up (jm_up (jm_up τ1 38 3 (τ1 38 3)) 38 4 x1) 38 5 ((τ1 38 5) + (1 : Int32))) 38 6 x1) 38 7 r1)) else (if (τ1 38 7) ≤ r1 then some (none, (jm_up (jm_up (jm_up τ1 38 3 (τ1 38 3)) 38 4 x1) 38 5 ((τ1 38 5) + (1 : Int32)))) else some (none, (jm_up (jm_up (jm_up (jm_up (jm_up τ1 38 3 (τ1 38 3)) 38 4 x1) 38 5 ((τ1 38 5) + (1 : Int32))) 38 6 x1) 38 7 r1)))) else (if (τ1 38 6) = (-1 : Int32) then some (none, (jm_up (jm_up (jm_up (jm_up (jm_up τ1 38 3 x1) 38 4 x1) 38 5 ((τ1 38 5) + (1 : Int32))) 38 6 x1) 38 7 r1)) else (if (τ1 38 7) ≤ r1 then some (none, (jm_up (jm_up (jm_up τ1 38 3 x1) 38 4 x1) 38 5 ((τ1 38 5) + (1 : Int32)))) else some (none, (jm_up (jm_up (jm_up (jm_up (jm_up τ1 38 3 x1) 38 4 x1) 38 5 ((τ1 38 5) + (1 : Int32))) 38 6 x1) 38 7 r1))))))) := by
  refine (jc_of (ls1 := [some (.ref 38), some (.int x1), some (.ref 11), none]) ((jm_ini_of jM99).trans rfl)).trans ?_
  refine (sv_aload_n jM99 c99_0 rfl rfl).trans ?_
  refine (sv_aload_n jM99 c99_1 rfl rfl).trans ?_
  refine (sv_callvi (pl := 0) jM99 c99_2 rfl (jm_call_v (a := 38) (as := [(.ref 11)]) (rest := []) lm_3_37 rfl jM100 rfl rfl rfl rfl rfl) jM100 rfl (Or.inl rfl)).trans ?_
  refine jbi_c (fun r1 τ1 => ?_)
  refine (sv_istore_n (ls1 := [some (.ref 38), some (.int x1), some (.ref 11), some (.int r1)]) jM99 c99_5 rfl (Nat.lt_of_lt_of_eq (by decide +kernel : 3 < 4) rfl) rfl).trans ?_
  refine (sv_iload_n jM99 c99_6 rfl rfl).trans ?_
  refine (sv_if_ne jM99 c99_7 rfl (t := 45) (by decide +kernel)).trans ?_
  refine jif _ ?_ ?_
  ·
    refine (sv_aload_n jM99 c99_45 rfl rfl).trans ?_
    refine (sv_getf jM99 c99_46 rfl lf_3_31 (fg_38_6 _)).trans ?_
    refine (sv_iconst jM99 c99_49 rfl (v := -1) (by decide +kernel)).trans ?_
    refine (sv_icmp_eq jM99 c99_50 rfl (t := 61) (by decide +kernel)).trans ?_
    refine jif _ ?_ ?_
    ·
      refine (sv_aload_n jM99 c99_61 rfl rfl).trans ?_
      refine (sv_iload_n jM99 c99_62 rfl rfl).trans ?_
      refine (sv_putf jM99 c99_63 rfl lf_3_31 (pf_38_6 _ _)).trans ?_
      refine (sv_aload_n jM99 c99_66 rfl rfl).trans ?_
      refine (sv_iload_n jM99 c99_67 rfl rfl).trans ?_
      refine (sv_putf jM99 c99_68 rfl lf_3_34 (pf_38_7 _ _)).trans ?_
      exact sv_vret jM99 c99_71 rfl rfl
    ·
      refine (sv_iload_n jM99 c99_53 rfl rfl).trans ?_
      refine (sv_aload_n jM99 c99_54 rfl rfl).trans ?_
      refine (sv_getf jM99 c99_55 rfl lf_3_34 (fg_38_7 _)).trans ?_
      refine (sv_icmp_ge jM99 c99_58 rfl (t := 71) (by decide +kernel)).trans ?_
      refine jif _ ?_ ?_
      ·
        exact sv_vret jM99 c99_71 rfl rfl
      ·
        refine (sv_aload_n jM99 c99_61 rfl rfl).trans ?_
        refine (sv_iload_n jM99 c99_62 rfl rfl).trans ?_
        refine (sv_putf jM99 c99_63 rfl lf_3_31 (pf_38_6 _ _)).trans ?_
        refine (sv_aload_n jM99 c99_66 rfl rfl).trans ?_
        refine (sv_iload_n jM99 c99_67 rfl rfl).trans ?_
        refine (sv_putf jM99 c99_68 rfl lf_3_34 (pf_38_7 _ _)).trans ?_
        exact sv_vret jM99 c99_71 rfl rfl
  ·
    refine (sv_aload_n jM99 c99_10 rfl rfl).trans ?_
    refine (sv_aload_n jM99 c99_11 rfl rfl).trans ?_
    refine (sv_getf jM99 c99_12 rfl lf_3_22 (fg_38_3 _)).trans ?_
    refine (sv_iconst jM99 c99_15 rfl (v := -1) (by decide +kernel)).trans ?_
    refine (sv_icmp_ne jM99 c99_16 rfl (t := 23) (by decide +kernel)).trans ?_
    refine jif _ ?_ ?_
    ·
      refine (sv_aload_n jM99 c99_23 rfl rfl).trans ?_
      refine (sv_getf jM99 c99_24 rfl lf_3_22 (fg_38_3 _)).trans ?_
      refine (sv_putf jM99 c99_27 rfl lf_3_22 (pf_38_3 _ _)).trans ?_
      refine (sv_aload_n jM99 c99_30 rfl rfl).trans ?_
      refine (sv_iload_n jM99 c99_31 rfl rfl).trans ?_
      refine (sv_putf jM99 c99_32 rfl lf_3_25 (pf_38_4 _ _)).trans ?_
      refine (sv_aload_n jM99 c99_35 rfl rfl).trans ?_
      refine (sv_dup jM99 c99_36 rfl rfl).trans ?_
      refine (sv_getf jM99 c99_37 rfl lf_3_28 (fg_38_5 _)).trans ?_
      refine (sv_iconst jM99 c99_40 rfl (v := 1) (by decide +kernel)).trans ?_
      refine (sv_iadd jM99 c99_41 rfl).trans ?_
      refine (sv_putf jM99 c99_42 rfl lf_3_28 (pf_38_5 _ _)).trans ?_
      refine (sv_aload_n jM99 c99_45 rfl rfl).trans ?_
      refine (sv_getf jM99 c99_46 rfl lf_3_31 (fg_38_6 _)).trans ?_
      refine (sv_iconst jM99 c99_49 rfl (v := -1) (by decide +kernel)).trans ?_
      refine (sv_icmp_eq jM99 c99_50 rfl (t := 61) (by decide +kernel)).trans ?_
      refine jif _ ?_ ?_
      ·
        refine (sv_aload_n jM99 c99_61 rfl rfl).trans ?_
        refine (sv_iload_n jM99 c99_62 rfl rfl).trans ?_
        refine (sv_putf jM99 c99_63 rfl lf_3_31 (pf_38_6 _ _)).trans ?_
        refine (sv_aload_n jM99 c99_66 rfl rfl).trans ?_
        refine (sv_iload_n jM99 c99_67 rfl rfl).trans ?_
        refine (sv_putf jM99 c99_68 rfl lf_3_34 (pf_38_7 _ _)).trans ?_
        exact sv_vret jM99 c99_71 rfl rfl
      ·
        refine (sv_iload_n jM99 c99_53 rfl rfl).trans ?_
        refine (sv_aload_n jM99 c99_54 rfl rfl).trans ?_
        refine (sv_getf jM99 c99_55 rfl lf_3_34 (fg_38_7 _)).trans ?_
        refine (sv_icmp_ge jM99 c99_58 rfl (t := 71) (by decide +kernel)).trans ?_
        refine jif _ ?_ ?_
        ·
          exact sv_vret jM99 c99_71 rfl rfl
        ·
          refine (sv_aload_n jM99 c99_61 rfl rfl).trans ?_
          refine (sv_iload_n jM99 c99_62 rfl rfl).trans ?_
          refine (sv_putf jM99 c99_63 rfl lf_3_31 (pf_38_6 _ _)).trans ?_
          refine (sv_aload_n jM99 c99_66 rfl rfl).trans ?_
          refine (sv_iload_n jM99 c99_67 rfl rfl).trans ?_
          refine (sv_putf jM99 c99_68 rfl lf_3_34 (pf_38_7 _ _)).trans ?_
          exact sv_vret jM99 c99_71 rfl rfl
    ·
      refine (sv_iload_n jM99 c99_19 rfl rfl).trans ?_
      refine (sv_goto jM99 c99_20 rfl (t := 27) (by decide +kernel)).trans ?_
      refine (sv_putf jM99 c99_27 rfl lf_3_22 (pf_38_3 _ _)).trans ?_
      refine (sv_aload_n jM99 c99_30 rfl rfl).trans ?_
      refine (sv_iload_n jM99 c99_31 rfl rfl).trans ?_
      refine (sv_putf jM99 c99_32 rfl lf_3_25 (pf_38_4 _ _)).trans ?_
      refine (sv_aload_n jM99 c99_35 rfl rfl).trans ?_
      refine (sv_dup jM99 c99_36 rfl rfl).trans ?_
      refine (sv_getf jM99 c99_37 rfl lf_3_28 (fg_38_5 _)).trans ?_
      refine (sv_iconst jM99 c99_40 rfl (v := 1) (by decide +kernel)).trans ?_
      refine (sv_iadd jM99 c99_41 rfl).trans ?_
      refine (sv_putf jM99 c99_42 rfl lf_3_28 (pf_38_5 _ _)).trans ?_
      refine (sv_aload_n jM99 c99_45 rfl rfl).trans ?_
      refine (sv_getf jM99 c99_46 rfl lf_3_31 (fg_38_6 _)).trans ?_
      refine (sv_iconst jM99 c99_49 rfl (v := -1) (by decide +kernel)).trans ?_
      refine (sv_icmp_eq jM99 c99_50 rfl (t := 61) (by decide +kernel)).trans ?_
      refine jif _ ?_ ?_
      ·
        refine (sv_aload_n jM99 c99_61 rfl rfl).trans ?_
        refine (sv_iload_n jM99 c99_62 rfl rfl).trans ?_
        refine (sv_putf jM99 c99_63 rfl lf_3_31 (pf_38_6 _ _)).trans ?_
        refine (sv_aload_n jM99 c99_66 rfl rfl).trans ?_
        refine (sv_iload_n jM99 c99_67 rfl rfl).trans ?_
        refine (sv_putf jM99 c99_68 rfl lf_3_34 (pf_38_7 _ _)).trans ?_
        exact sv_vret jM99 c99_71 rfl rfl
      ·
        refine (sv_iload_n jM99 c99_53 rfl rfl).trans ?_
        refine (sv_aload_n jM99 c99_54 rfl rfl).trans ?_
        refine (sv_getf jM99 c99_55 rfl lf_3_34 (fg_38_7 _)).trans ?_
        refine (sv_icmp_ge jM99 c99_58 rfl (t := 71) (by decide +kernel)).trans ?_
        refine jif _ ?_ ?_
        ·
          exact sv_vret jM99 c99_71 rfl rfl
        ·
          refine (sv_aload_n jM99 c99_61 rfl rfl).trans ?_
          refine (sv_iload_n jM99 c99_62 rfl rfl).trans ?_
          refine (sv_putf jM99 c99_63 rfl lf_3_31 (pf_38_6 _ _)).trans ?_
          refine (sv_aload_n jM99 c99_66 rfl rfl).trans ?_
          refine (sv_iload_n jM99 c99_67 rfl rfl).trans ?_
          refine (sv_putf jM99 c99_68 rfl lf_3_34 (pf_38_7 _ _)).trans ?_
          exact sv_vret jM99 c99_71 rfl rfl
set_option maxRecDepth 20000 in
set_option maxHeartbeats 4000000 in
theorem Arrays_fill_56_in (x1 : Int32) (σ : jm_S) : jc 21 [(.ref 56), (.int x1)] σ = jv 21 5 [some (.ref 56), some (.int x1), some (.int (0 : Int32)), some (.int (60 : Int32))] [] σ := by
  refine (jc_of (ls1 := [some (.ref 56), some (.int x1), none, none]) ((jm_ini_of jM21).trans rfl)).trans ?_
  refine (sv_iconst jM21 c21_0 rfl (v := 0) (by decide +kernel)).trans ?_
  refine (sv_istore_n (ls1 := [some (.ref 56), some (.int x1), some (.int (0 : Int32)), none]) jM21 c21_1 rfl (Nat.lt_of_lt_of_eq (by decide +kernel : 2 < 4) rfl) rfl).trans ?_
  refine (sv_aload_n jM21 c21_2 rfl rfl).trans ?_
  refine (sv_alen jM21 c21_3 rfl (ln_56 _) (v := 60) (by decide +kernel)).trans ?_
  refine (sv_istore_n (ls1 := [some (.ref 56), some (.int x1), some (.int (0 : Int32)), some (.int (60 : Int32))]) jM21 c21_4 rfl (Nat.lt_of_lt_of_eq (by decide +kernel : 3 < 4) rfl) rfl).trans ?_
  rfl
set_option maxRecDepth 20000 in
set_option maxHeartbeats 4000000 in
theorem Arrays_fill_56_L5 (x1 : Int32) (x2 : Int32) (x3 : Int32) (σ : jm_S) : jv 21 5 [some (.ref 56), some (.int x1), some (.int x2), some (.int x3)] [] σ = (if x3 ≤ x2 then some (none, σ) else (if x2 < 0 ∨ 60 ≤ x2.toNatClampNeg then none else jv 21 5 [some (.ref 56), some (.int x1), some (.int (x2 + 1)), some (.int x3)] [] (jm_up σ 56 x2.toNatClampNeg x1))) := by
  refine (sv_iload_n jM21 c21_5 rfl rfl).trans ?_
  refine (sv_iload_n jM21 c21_6 rfl rfl).trans ?_
  refine (sv_icmp_ge jM21 c21_7 rfl (t := 20) (by decide +kernel)).trans ?_
  refine jif _ ?_ ?_
  ·
    exact sv_vret jM21 c21_20 rfl rfl
  ·
    refine (sv_aload_n jM21 c21_10 rfl rfl).trans ?_
    refine (sv_iload_n jM21 c21_11 rfl rfl).trans ?_
    refine (sv_iload_n jM21 c21_12 rfl rfl).trans ?_
    refine (sv_iast jM21 c21_13 rfl wi_56).trans ?_
    refine jif _ rfl ?_
    refine (sv_iinc (ls1 := [some (.ref 56), some (.int x1), some (.int (x2 + 1)), some (.int x3)]) jM21 c21_14 rfl rfl (v := 1) (by decide +kernel) rfl).trans ?_
    refine (sv_goto jM21 c21_17 rfl (t := 5) (by decide +kernel)).trans ?_
    rfl
set_option maxRecDepth 20000 in
set_option maxHeartbeats 4000000 in
theorem Arrays_fill_54_in (x1 : Int32) (σ : jm_S) : jc 21 [(.ref 54), (.int x1)] σ = jv 21 5 [some (.ref 54), some (.int x1), some (.int (0 : Int32)), some (.int (60 : Int32))] [] σ := by
  refine (jc_of (ls1 := [some (.ref 54), some (.int x1), none, none]) ((jm_ini_of jM21).trans rfl)).trans ?_
  refine (sv_iconst jM21 c21_0 rfl (v := 0) (by decide +kernel)).trans ?_
  refine (sv_istore_n (ls1 := [some (.ref 54), some (.int x1), some (.int (0 : Int32)), none]) jM21 c21_1 rfl (Nat.lt_of_lt_of_eq (by decide +kernel : 2 < 4) rfl) rfl).trans ?_
  refine (sv_aload_n jM21 c21_2 rfl rfl).trans ?_
  refine (sv_alen jM21 c21_3 rfl (ln_54 _) (v := 60) (by decide +kernel)).trans ?_
  refine (sv_istore_n (ls1 := [some (.ref 54), some (.int x1), some (.int (0 : Int32)), some (.int (60 : Int32))]) jM21 c21_4 rfl (Nat.lt_of_lt_of_eq (by decide +kernel : 3 < 4) rfl) rfl).trans ?_
  rfl
set_option maxRecDepth 20000 in
set_option maxHeartbeats 4000000 in
theorem Arrays_fill_54_L5 (x1 : Int32) (x2 : Int32) (x3 : Int32) (σ : jm_S) : jv 21 5 [some (.ref 54), some (.int x1), some (.int x2), some (.int x3)] [] σ = (if x3 ≤ x2 then some (none, σ) else (if x2 < 0 ∨ 60 ≤ x2.toNatClampNeg then none else jv 21 5 [some (.ref 54), some (.int x1), some (.int (x2 + 1)), some (.int x3)] [] (jm_up σ 54 x2.toNatClampNeg x1))) := by
  refine (sv_iload_n jM21 c21_5 rfl rfl).trans ?_
  refine (sv_iload_n jM21 c21_6 rfl rfl).trans ?_
  refine (sv_icmp_ge jM21 c21_7 rfl (t := 20) (by decide +kernel)).trans ?_
  refine jif _ ?_ ?_
  ·
    exact sv_vret jM21 c21_20 rfl rfl
  ·
    refine (sv_aload_n jM21 c21_10 rfl rfl).trans ?_
    refine (sv_iload_n jM21 c21_11 rfl rfl).trans ?_
    refine (sv_iload_n jM21 c21_12 rfl rfl).trans ?_
    refine (sv_iast jM21 c21_13 rfl wi_54).trans ?_
    refine jif _ rfl ?_
    refine (sv_iinc (ls1 := [some (.ref 54), some (.int x1), some (.int (x2 + 1)), some (.int x3)]) jM21 c21_14 rfl rfl (v := 1) (by decide +kernel) rfl).trans ?_
    refine (sv_goto jM21 c21_17 rfl (t := 5) (by decide +kernel)).trans ?_
    rfl
set_option maxRecDepth 20000 in
set_option maxHeartbeats 4000000 in
theorem Arrays_fill_60_in (x1 : Int32) (σ : jm_S) : jc 21 [(.ref 60), (.int x1)] σ = jv 21 5 [some (.ref 60), some (.int x1), some (.int (0 : Int32)), some (.int (60 : Int32))] [] σ := by
  refine (jc_of (ls1 := [some (.ref 60), some (.int x1), none, none]) ((jm_ini_of jM21).trans rfl)).trans ?_
  refine (sv_iconst jM21 c21_0 rfl (v := 0) (by decide +kernel)).trans ?_
  refine (sv_istore_n (ls1 := [some (.ref 60), some (.int x1), some (.int (0 : Int32)), none]) jM21 c21_1 rfl (Nat.lt_of_lt_of_eq (by decide +kernel : 2 < 4) rfl) rfl).trans ?_
  refine (sv_aload_n jM21 c21_2 rfl rfl).trans ?_
  refine (sv_alen jM21 c21_3 rfl (ln_60 _) (v := 60) (by decide +kernel)).trans ?_
  refine (sv_istore_n (ls1 := [some (.ref 60), some (.int x1), some (.int (0 : Int32)), some (.int (60 : Int32))]) jM21 c21_4 rfl (Nat.lt_of_lt_of_eq (by decide +kernel : 3 < 4) rfl) rfl).trans ?_
  rfl
set_option maxRecDepth 20000 in
set_option maxHeartbeats 4000000 in
theorem Arrays_fill_60_L5 (x1 : Int32) (x2 : Int32) (x3 : Int32) (σ : jm_S) : jv 21 5 [some (.ref 60), some (.int x1), some (.int x2), some (.int x3)] [] σ = (if x3 ≤ x2 then some (none, σ) else (if x2 < 0 ∨ 60 ≤ x2.toNatClampNeg then none else jv 21 5 [some (.ref 60), some (.int x1), some (.int (x2 + 1)), some (.int x3)] [] (jm_up σ 60 x2.toNatClampNeg x1))) := by
  refine (sv_iload_n jM21 c21_5 rfl rfl).trans ?_
  refine (sv_iload_n jM21 c21_6 rfl rfl).trans ?_
  refine (sv_icmp_ge jM21 c21_7 rfl (t := 20) (by decide +kernel)).trans ?_
  refine jif _ ?_ ?_
  ·
    exact sv_vret jM21 c21_20 rfl rfl
  ·
    refine (sv_aload_n jM21 c21_10 rfl rfl).trans ?_
    refine (sv_iload_n jM21 c21_11 rfl rfl).trans ?_
    refine (sv_iload_n jM21 c21_12 rfl rfl).trans ?_
    refine (sv_iast jM21 c21_13 rfl wi_60).trans ?_
    refine jif _ rfl ?_
    refine (sv_iinc (ls1 := [some (.ref 60), some (.int x1), some (.int (x2 + 1)), some (.int x3)]) jM21 c21_14 rfl rfl (v := 1) (by decide +kernel) rfl).trans ?_
    refine (sv_goto jM21 c21_17 rfl (t := 5) (by decide +kernel)).trans ?_
    rfl
set_option maxRecDepth 20000 in
set_option maxHeartbeats 4000000 in
theorem Arrays_fill_58_in (x1 : Int32) (σ : jm_S) : jc 21 [(.ref 58), (.int x1)] σ = jv 21 5 [some (.ref 58), some (.int x1), some (.int (0 : Int32)), some (.int (60 : Int32))] [] σ := by
  refine (jc_of (ls1 := [some (.ref 58), some (.int x1), none, none]) ((jm_ini_of jM21).trans rfl)).trans ?_
  refine (sv_iconst jM21 c21_0 rfl (v := 0) (by decide +kernel)).trans ?_
  refine (sv_istore_n (ls1 := [some (.ref 58), some (.int x1), some (.int (0 : Int32)), none]) jM21 c21_1 rfl (Nat.lt_of_lt_of_eq (by decide +kernel : 2 < 4) rfl) rfl).trans ?_
  refine (sv_aload_n jM21 c21_2 rfl rfl).trans ?_
  refine (sv_alen jM21 c21_3 rfl (ln_58 _) (v := 60) (by decide +kernel)).trans ?_
  refine (sv_istore_n (ls1 := [some (.ref 58), some (.int x1), some (.int (0 : Int32)), some (.int (60 : Int32))]) jM21 c21_4 rfl (Nat.lt_of_lt_of_eq (by decide +kernel : 3 < 4) rfl) rfl).trans ?_
  rfl
set_option maxRecDepth 20000 in
set_option maxHeartbeats 4000000 in
theorem Arrays_fill_58_L5 (x1 : Int32) (x2 : Int32) (x3 : Int32) (σ : jm_S) : jv 21 5 [some (.ref 58), some (.int x1), some (.int x2), some (.int x3)] [] σ = (if x3 ≤ x2 then some (none, σ) else (if x2 < 0 ∨ 60 ≤ x2.toNatClampNeg then none else jv 21 5 [some (.ref 58), some (.int x1), some (.int (x2 + 1)), some (.int x3)] [] (jm_up σ 58 x2.toNatClampNeg x1))) := by
  refine (sv_iload_n jM21 c21_5 rfl rfl).trans ?_
  refine (sv_iload_n jM21 c21_6 rfl rfl).trans ?_
  refine (sv_icmp_ge jM21 c21_7 rfl (t := 20) (by decide +kernel)).trans ?_
  refine jif _ ?_ ?_
  ·
    exact sv_vret jM21 c21_20 rfl rfl
  ·
    refine (sv_aload_n jM21 c21_10 rfl rfl).trans ?_
    refine (sv_iload_n jM21 c21_11 rfl rfl).trans ?_
    refine (sv_iload_n jM21 c21_12 rfl rfl).trans ?_
    refine (sv_iast jM21 c21_13 rfl wi_58).trans ?_
    refine jif _ rfl ?_
    refine (sv_iinc (ls1 := [some (.ref 58), some (.int x1), some (.int (x2 + 1)), some (.int x3)]) jM21 c21_14 rfl rfl (v := 1) (by decide +kernel) rfl).trans ?_
    refine (sv_goto jM21 c21_17 rfl (t := 5) (by decide +kernel)).trans ?_
    rfl
set_option maxRecDepth 20000 in
set_option maxHeartbeats 4000000 in
theorem Text_rewind_47_in (σ : jm_S) : jc 23 [(.ref 47)] σ = some (none, (jm_up (jm_up σ 47 2 (0 : Int32)) 47 3 (-1 : Int32))) := by
  refine (jc_of (ls1 := [some (.ref 47)]) ((jm_ini_of jM23).trans rfl)).trans ?_
  refine (sv_aload_n jM23 c23_0 rfl rfl).trans ?_
  refine (sv_iconst jM23 c23_1 rfl (v := 0) (by decide +kernel)).trans ?_
  refine (sv_putf jM23 c23_2 rfl lf_7_15 (pf_47_2 _ _)).trans ?_
  refine (sv_aload_n jM23 c23_5 rfl rfl).trans ?_
  refine (sv_iconst jM23 c23_6 rfl (v := -1) (by decide +kernel)).trans ?_
  refine (sv_putf jM23 c23_7 rfl lf_7_18 (pf_47_3 _ _)).trans ?_
  exact sv_vret jM23 c23_10 rfl rfl
set_option maxRecDepth 20000 in
set_option maxHeartbeats 4000000 in
theorem Text_goesOnBehind_47_in (x1 : Int32) (σ : jm_S) : jc 30 [(.ref 47), (.int x1)] σ = (if ¬ (σ 47 3) = (-1 : Int32) then some (some (.int (0 : Int32)), σ) else (if (σ 47 2) < (σ 47 1) then jbv (jc 28 [(.ref 47), (.int x1)] σ) (fun τ1 => (if ¬ (τ1 47 3) = (-1 : Int32) then some (some (.int (0 : Int32)), τ1) else some (some (.int (1 : Int32)), τ1))) else some (some (.int (0 : Int32)), σ))) := by
  refine (jc_of (ls1 := [some (.ref 47), some (.int x1)]) ((jm_ini_of jM30).trans rfl)).trans ?_
  refine (sv_aload_n jM30 c30_0 rfl rfl).trans ?_
  refine (sv_getf jM30 c30_1 rfl lf_7_18 (fg_47_3 _)).trans ?_
  refine (sv_iconst jM30 c30_4 rfl (v := -1) (by decide +kernel)).trans ?_
  refine (sv_icmp_ne jM30 c30_5 rfl (t := 19) (by decide +kernel)).trans ?_
  refine jif _ ?_ ?_
  ·
    refine (sv_iconst jM30 c30_19 rfl (v := 0) (by decide +kernel)).trans ?_
    exact sv_zret jM30 c30_20 rfl rfl (by decide +kernel)
  ·
    refine (sv_aload_n jM30 c30_8 rfl rfl).trans ?_
    refine (sv_getf jM30 c30_9 rfl lf_7_15 (fg_47_2 _)).trans ?_
    refine (sv_aload_n jM30 c30_12 rfl rfl).trans ?_
    refine (sv_getf jM30 c30_13 rfl lf_7_9 (fg_47_1 _)).trans ?_
    refine (sv_icmp_lt jM30 c30_16 rfl (t := 21) (by decide +kernel)).trans ?_
    refine jif _ ?_ ?_
    ·
      refine (sv_aload_n jM30 c30_21 rfl rfl).trans ?_
      refine (sv_iload_n jM30 c30_22 rfl rfl).trans ?_
      refine (sv_callvv (pl := 0) jM30 c30_23 rfl (jm_call_v (a := 47) (as := [(.int x1)]) (rest := []) lm_7_33 rfl jM28 rfl rfl rfl rfl rfl) jM28 rfl rfl).trans ?_
      refine jbv_c (fun τ1 => ?_)
      refine (sv_aload_n jM30 c30_26 rfl rfl).trans ?_
      refine (sv_getf jM30 c30_27 rfl lf_7_18 (fg_47_3 _)).trans ?_
      refine (sv_iconst jM30 c30_30 rfl (v := -1) (by decide +kernel)).trans ?_
      refine (sv_icmp_ne jM30 c30_31 rfl (t := 38) (by decide +kernel)).trans ?_
      refine jif _ ?_ ?_
      ·
        refine (sv_iconst jM30 c30_38 rfl (v := 0) (by decide +kernel)).trans ?_
        exact sv_zret jM30 c30_39 rfl rfl (by decide +kernel)
      ·
        refine (sv_iconst jM30 c30_34 rfl (v := 1) (by decide +kernel)).trans ?_
        refine (sv_goto jM30 c30_35 rfl (t := 39) (by decide +kernel)).trans ?_
        exact sv_zret jM30 c30_39 rfl rfl (by decide +kernel)
    ·
      refine (sv_iconst jM30 c30_19 rfl (v := 0) (by decide +kernel)).trans ?_
      exact sv_zret jM30 c30_20 rfl rfl (by decide +kernel)
set_option maxRecDepth 20000 in
set_option maxHeartbeats 4000000 in
theorem Heating_coolDown_in (σ : jm_S) : jc 20 [(.ref 6)] σ = jbv (jc 21 [(.ref 7), (.int (0 : Int32))] (jm_up σ 6 3 (0 : Int32))) (fun τ1 => jbv (jc 21 [(.ref 8), (.int (0 : Int32))] τ1) (fun τ2 => jbv (jc 22 [(.ref 6), (.int (0 : Int32))] τ2) (fun τ3 => some (none, τ3)))) := by
  refine (jc_of (ls1 := [some (.ref 6)]) ((jm_ini_of jM20).trans rfl)).trans ?_
  refine (sv_aload_n jM20 c20_0 rfl rfl).trans ?_
  refine (sv_iconst jM20 c20_1 rfl (v := 0) (by decide +kernel)).trans ?_
  refine (sv_putf jM20 c20_2 rfl lf_4_22 (pf_6_3 _ _)).trans ?_
  refine (sv_aload_n jM20 c20_5 rfl rfl).trans ?_
  refine (sv_getf jM20 c20_6 rfl lf_4_9 (fg_6_0 _)).trans ?_
  refine (sv_iconst jM20 c20_9 rfl (v := 0) (by decide +kernel)).trans ?_
  refine (sv_callsv (pl := 0) jM20 c20_10 rfl (jm_call_s (as := [(.ref 7), (.int (0 : Int32))]) (rest := []) lm_4_48 rfl jM21 rfl rfl rfl rfl) jM21 rfl rfl).trans ?_
  refine jbv_c (fun τ1 => ?_)
  refine (sv_aload_n jM20 c20_13 rfl rfl).trans ?_
  refine (sv_getf jM20 c20_14 rfl lf_4_15 (fg_6_1 _)).trans ?_
  refine (sv_iconst jM20 c20_17 rfl (v := 0) (by decide +kernel)).trans ?_
  refine (sv_callsv (pl := 0) jM20 c20_18 rfl (jm_call_s (as := [(.ref 8), (.int (0 : Int32))]) (rest := []) lm_4_48 rfl jM21 rfl rfl rfl rfl) jM21 rfl rfl).trans ?_
  refine jbv_c (fun τ2 => ?_)
  refine (sv_aload_n jM20 c20_21 rfl rfl).trans ?_
  refine (sv_iconst jM20 c20_22 rfl (v := 0) (by decide +kernel)).trans ?_
  refine (sv_callvv (pl := 0) jM20 c20_23 rfl (jm_call_v (a := 6) (as := [(.int (0 : Int32))]) (rest := []) lm_4_54 rfl jM22 rfl rfl rfl rfl rfl) jM22 rfl rfl).trans ?_
  refine jbv_c (fun τ3 => ?_)
  exact sv_vret jM20 c20_26 rfl rfl
set_option maxRecDepth 20000 in
set_option maxHeartbeats 4000000 in
theorem Heating_addPart_47_in (σ : jm_S) : jc 24 [(.ref 6), (.ref 47)] σ = jbi (jc 25 [(.ref 47), (.int (104 : Int32))] σ) (fun r1 τ1 => (if r1 = 0 then jbi (jc 25 [(.ref 47), (.int (115 : Int32))] τ1) (fun r2 τ2 => (if r2 = 0 then jbi (jc 25 [(.ref 47), (.int (108 : Int32))] τ2) (fun r3 τ3 => (if r3 = 0 then jbi (jc 25 [(.ref 47), (.int (111 : Int32))] τ3) (fun r4 τ4 => (if r4 = 0 then jbv (jc 27 [(.ref 47), (.int (τ4 47 2))] τ4) (fun τ5 => some (none, τ5)) else jbv (jc 22 [(.ref 6), (.int (0 : Int32))] τ4) (fun τ6 => some (none, τ6)))) else jbv (jc 22 [(.ref 6), (.int (1 : Int32))] τ3) (fun τ7 => some (none, τ7)))) else (if (200 : Int32) ≤ (τ2 6 3) then some (none, τ2) else (if (τ2 6 3) < 0 ∨ 200 ≤ (τ2 6 3).toNatClampNeg then none else (if (τ2 6 3) < 0 ∨ 200 ≤ (τ2 6 3).toNatClampNeg then none else some (none, (jm_up τ2 8 (τ2 6 3).toNatClampNeg ((τ2 8 (τ2 6 3).toNatClampNeg) + (1 : Int32))))))))) else jbi (jc 26 [(.ref 47), (.int (2 : Int32)), (.int (0 : Int32)), (.int (99 : Int32))] τ1) (fun r8 τ8 => jbv (jc 28 [(.ref 47), (.int (120 : Int32))] τ8) (fun τ9 => jbi (jc 26 [(.ref 47), (.int (2 : Int32)), (.int (1 : Int32)), (.int (99 : Int32))] τ9) (fun r10 τ10 => (if ¬ (τ10 47 3) = (-1 : Int32) then jbv (jc 29 [(.ref 6), (.int r8), (.int (0 : Int32))] τ10) (fun τ11 => some (none, τ11)) else jbv (jc 29 [(.ref 6), (.int r8), (.int r10)] τ10) (fun τ12 => some (none, τ12)))))))) := by
  refine (jc_of (ls1 := [some (.ref 6), some (.ref 47), none, none]) ((jm_ini_of jM24).trans rfl)).trans ?_
  refine (sv_aload_n jM24 c24_0 rfl rfl).trans ?_
  refine (sv_bipush jM24 c24_1 rfl (v := 104) (by decide +kernel)).trans ?_
  refine (sv_callvi (pl := 0) jM24 c24_3 rfl (jm_call_v (a := 47) (as := [(.int (104 : Int32))]) (rest := []) lm_4_58 rfl jM25 rfl rfl rfl rfl rfl) jM25 rfl (Or.inr rfl)).trans ?_
  refine jbi_c (fun r1 τ1 => ?_)
  refine (sv_if_eq jM24 c24_6 rfl (t := 54) (by decide +kernel)).trans ?_
  refine jif _ ?_ ?_
  ·
    refine (sv_aload_n jM24 c24_54 rfl rfl).trans ?_
    refine (sv_bipush jM24 c24_55 rfl (v := 115) (by decide +kernel)).trans ?_
    refine (sv_callvi (pl := 0) jM24 c24_57 rfl (jm_call_v (a := 47) (as := [(.int (115 : Int32))]) (rest := []) lm_4_58 rfl jM25 rfl rfl rfl rfl rfl) jM25 rfl (Or.inr rfl)).trans ?_
    refine jbi_c (fun r2 τ2 => ?_)
    refine (sv_if_eq jM24 c24_60 rfl (t := 89) (by decide +kernel)).trans ?_
    refine jif _ ?_ ?_
    ·
      refine (sv_aload_n jM24 c24_89 rfl rfl).trans ?_
      refine (sv_bipush jM24 c24_90 rfl (v := 108) (by decide +kernel)).trans ?_
      refine (sv_callvi (pl := 0) jM24 c24_92 rfl (jm_call_v (a := 47) (as := [(.int (108 : Int32))]) (rest := []) lm_4_58 rfl jM25 rfl rfl rfl rfl rfl) jM25 rfl (Or.inr rfl)).trans ?_
      refine jbi_c (fun r3 τ3 => ?_)
      refine (sv_if_eq jM24 c24_95 rfl (t := 106) (by decide +kernel)).trans ?_
      refine jif _ ?_ ?_
      ·
        refine (sv_aload_n jM24 c24_106 rfl rfl).trans ?_
        refine (sv_bipush jM24 c24_107 rfl (v := 111) (by decide +kernel)).trans ?_
        refine (sv_callvi (pl := 0) jM24 c24_109 rfl (jm_call_v (a := 47) (as := [(.int (111 : Int32))]) (rest := []) lm_4_58 rfl jM25 rfl rfl rfl rfl rfl) jM25 rfl (Or.inr rfl)).trans ?_
        refine jbi_c (fun r4 τ4 => ?_)
        refine (sv_if_eq jM24 c24_112 rfl (t := 123) (by decide +kernel)).trans ?_
        refine jif _ ?_ ?_
        ·
          refine (sv_aload_n jM24 c24_123 rfl rfl).trans ?_
          refine (sv_aload_n jM24 c24_124 rfl rfl).trans ?_
          refine (sv_getf jM24 c24_125 rfl lf_4_73 (fg_47_2 _)).trans ?_
          refine (sv_callvv (pl := 0) jM24 c24_128 rfl (jm_call_v (a := 47) (as := [(.int (τ4 47 2))]) (rest := []) lm_4_76 rfl jM27 rfl rfl rfl rfl rfl) jM27 rfl rfl).trans ?_
          refine jbv_c (fun τ5 => ?_)
          exact sv_vret jM24 c24_131 rfl rfl
        ·
          refine (sv_aload_n jM24 c24_115 rfl rfl).trans ?_
          refine (sv_iconst jM24 c24_116 rfl (v := 0) (by decide +kernel)).trans ?_
          refine (sv_callvv (pl := 0) jM24 c24_117 rfl (jm_call_v (a := 6) (as := [(.int (0 : Int32))]) (rest := []) lm_4_54 rfl jM22 rfl rfl rfl rfl rfl) jM22 rfl rfl).trans ?_
          refine jbv_c (fun τ6 => ?_)
          refine (sv_goto jM24 c24_120 rfl (t := 131) (by decide +kernel)).trans ?_
          exact sv_vret jM24 c24_131 rfl rfl
      ·
        refine (sv_aload_n jM24 c24_98 rfl rfl).trans ?_
        refine (sv_iconst jM24 c24_99 rfl (v := 1) (by decide +kernel)).trans ?_
        refine (sv_callvv (pl := 0) jM24 c24_100 rfl (jm_call_v (a := 6) (as := [(.int (1 : Int32))]) (rest := []) lm_4_54 rfl jM22 rfl rfl rfl rfl rfl) jM22 rfl rfl).trans ?_
        refine jbv_c (fun τ7 => ?_)
        refine (sv_goto jM24 c24_103 rfl (t := 131) (by decide +kernel)).trans ?_
        exact sv_vret jM24 c24_131 rfl rfl
    ·
      refine (sv_aload_n jM24 c24_63 rfl rfl).trans ?_
      refine (sv_getf jM24 c24_64 rfl lf_4_22 (fg_6_3 _)).trans ?_
      refine (sv_sipush jM24 c24_67 rfl (v := 200) (by decide +kernel)).trans ?_
      refine (sv_icmp_ge jM24 c24_70 rfl (t := 131) (by decide +kernel)).trans ?_
      refine jif _ ?_ ?_
      ·
        exact sv_vret jM24 c24_131 rfl rfl
      ·
        refine (sv_aload_n jM24 c24_73 rfl rfl).trans ?_
        refine (sv_getf jM24 c24_74 rfl lf_4_15 (fg_6_1 _)).trans ?_
        refine (sv_aload_n jM24 c24_77 rfl rfl).trans ?_
        refine (sv_getf jM24 c24_78 rfl lf_4_22 (fg_6_3 _)).trans ?_
        refine (sv_dup2 jM24 c24_81 rfl ⟨rfl, rfl⟩).trans ?_
        refine (sv_iald jM24 c24_82 rfl (ia_8 _)).trans ?_
        refine jif _ rfl ?_
        refine (sv_iconst jM24 c24_83 rfl (v := 1) (by decide +kernel)).trans ?_
        refine (sv_iadd jM24 c24_84 rfl).trans ?_
        refine (sv_iast jM24 c24_85 rfl wi_8).trans ?_
        refine jif _ rfl ?_
        refine (sv_goto jM24 c24_86 rfl (t := 131) (by decide +kernel)).trans ?_
        exact sv_vret jM24 c24_131 rfl rfl
  ·
    refine (sv_aload_n jM24 c24_9 rfl rfl).trans ?_
    refine (sv_iconst jM24 c24_10 rfl (v := 2) (by decide +kernel)).trans ?_
    refine (sv_iconst jM24 c24_11 rfl (v := 0) (by decide +kernel)).trans ?_
    refine (sv_bipush jM24 c24_12 rfl (v := 99) (by decide +kernel)).trans ?_
    refine (sv_callvi (pl := 0) jM24 c24_14 rfl (jm_call_v (a := 47) (as := [(.int (2 : Int32)), (.int (0 : Int32)), (.int (99 : Int32))]) (rest := []) lm_4_61 rfl jM26 rfl rfl rfl rfl rfl) jM26 rfl (Or.inl rfl)).trans ?_
    refine jbi_c (fun r8 τ8 => ?_)
    refine (sv_istore_n (ls1 := [some (.ref 6), some (.ref 47), some (.int r8), none]) jM24 c24_17 rfl (Nat.lt_of_lt_of_eq (by decide +kernel : 2 < 4) rfl) rfl).trans ?_
    refine (sv_aload_n jM24 c24_18 rfl rfl).trans ?_
    refine (sv_bipush jM24 c24_19 rfl (v := 120) (by decide +kernel)).trans ?_
    refine (sv_callvv (pl := 0) jM24 c24_21 rfl (jm_call_v (a := 47) (as := [(.int (120 : Int32))]) (rest := []) lm_4_65 rfl jM28 rfl rfl rfl rfl rfl) jM28 rfl rfl).trans ?_
    refine jbv_c (fun τ9 => ?_)
    refine (sv_aload_n jM24 c24_24 rfl rfl).trans ?_
    refine (sv_iconst jM24 c24_25 rfl (v := 2) (by decide +kernel)).trans ?_
    refine (sv_iconst jM24 c24_26 rfl (v := 1) (by decide +kernel)).trans ?_
    refine (sv_bipush jM24 c24_27 rfl (v := 99) (by decide +kernel)).trans ?_
    refine (sv_callvi (pl := 0) jM24 c24_29 rfl (jm_call_v (a := 47) (as := [(.int (2 : Int32)), (.int (1 : Int32)), (.int (99 : Int32))]) (rest := []) lm_4_61 rfl jM26 rfl rfl rfl rfl rfl) jM26 rfl (Or.inl rfl)).trans ?_
    refine jbi_c (fun r10 τ10 => ?_)
    refine (sv_istore_n (ls1 := [some (.ref 6), some (.ref 47), some (.int r8), some (.int r10)]) jM24 c24_32 rfl (Nat.lt_of_lt_of_eq (by decide +kernel : 3 < 4) rfl) rfl).trans ?_
    refine (sv_aload_n jM24 c24_33 rfl rfl).trans ?_
    refine (sv_iload_n jM24 c24_34 rfl rfl).trans ?_
    refine (sv_aload_n jM24 c24_35 rfl rfl).trans ?_
    refine (sv_getf jM24 c24_36 rfl lf_4_45 (fg_47_3 _)).trans ?_
    refine (sv_iconst jM24 c24_39 rfl (v := -1) (by decide +kernel)).trans ?_
    refine (sv_icmp_ne jM24 c24_40 rfl (t := 47) (by decide +kernel)).trans ?_
    refine jif _ ?_ ?_
    ·
      refine (sv_iconst jM24 c24_47 rfl (v := 0) (by decide +kernel)).trans ?_
      refine (sv_callvv (pl := 0) jM24 c24_48 rfl (jm_call_v (a := 6) (as := [(.int r8), (.int (0 : Int32))]) (rest := []) lm_4_69 rfl jM29 rfl rfl rfl rfl rfl) jM29 rfl rfl).trans ?_
      refine jbv_c (fun τ11 => ?_)
      refine (sv_goto jM24 c24_51 rfl (t := 131) (by decide +kernel)).trans ?_
      exact sv_vret jM24 c24_131 rfl rfl
    ·
      refine (sv_iload_n jM24 c24_43 rfl rfl).trans ?_
      refine (sv_goto jM24 c24_44 rfl (t := 48) (by decide +kernel)).trans ?_
      refine (sv_callvv (pl := 0) jM24 c24_48 rfl (jm_call_v (a := 6) (as := [(.int r8), (.int r10)]) (rest := []) lm_4_69 rfl jM29 rfl rfl rfl rfl rfl) jM29 rfl rfl).trans ?_
      refine jbv_c (fun τ12 => ?_)
      refine (sv_goto jM24 c24_51 rfl (t := 131) (by decide +kernel)).trans ?_
      exact sv_vret jM24 c24_131 rfl rfl
set_option maxRecDepth 20000 in
set_option maxHeartbeats 4000000 in
theorem Rule_addCondition_49_44_in (σ : jm_S) : jc 32 [(.ref 49), (.ref 44)] σ = jbi (jc 25 [(.ref 44), (.int (103 : Int32))] σ) (fun r1 τ1 => (if r1 = 0 then jbi (jc 25 [(.ref 44), (.int (110 : Int32))] τ1) (fun r2 τ2 => (if r2 = 0 then jbi (jc 25 [(.ref 44), (.int (116 : Int32))] τ2) (fun r3 τ3 => (if r3 = 0 then jbv (jc 27 [(.ref 44), (.int (τ3 44 2))] τ3) (fun τ4 => some (none, τ4)) else jbi (jc 26 [(.ref 44), (.int (3 : Int32)), (.int (1 : Int32)), (.int (200 : Int32))] τ3) (fun r5 τ5 => some (none, (jm_up τ5 49 2 (if r5 < (τ3 49 2) then r5 else (τ3 49 2))))))) else jbi (jc 26 [(.ref 44), (.int (2 : Int32)), (.int (1 : Int32)), (.int (99 : Int32))] τ2) (fun r6 τ6 => some (none, (jm_up τ6 49 1 (if r6 < (τ2 49 1) then r6 else (τ2 49 1))))))) else jbi (jc 26 [(.ref 44), (.int (2 : Int32)), (.int (1 : Int32)), (.int (99 : Int32))] τ1) (fun r7 τ7 => some (none, (jm_up τ7 49 0 (if r7 < (τ1 49 0) then r7 else (τ1 49 0))))))) := by
  refine (jc_of (ls1 := [some (.ref 49), some (.ref 44)]) ((jm_ini_of jM32).trans rfl)).trans ?_
  refine (sv_aload_n jM32 c32_0 rfl rfl).trans ?_
  refine (sv_bipush jM32 c32_1 rfl (v := 103) (by decide +kernel)).trans ?_
  refine (sv_callvi (pl := 0) jM32 c32_3 rfl (jm_call_v (a := 44) (as := [(.int (103 : Int32))]) (rest := []) lm_5_37 rfl jM25 rfl rfl rfl rfl rfl) jM25 rfl (Or.inr rfl)).trans ?_
  refine jbi_c (fun r1 τ1 => ?_)
  refine (sv_if_eq jM32 c32_6 rfl (t := 31) (by decide +kernel)).trans ?_
  refine jif _ ?_ ?_
  ·
    refine (sv_aload_n jM32 c32_31 rfl rfl).trans ?_
    refine (sv_bipush jM32 c32_32 rfl (v := 110) (by decide +kernel)).trans ?_
    refine (sv_callvi (pl := 0) jM32 c32_34 rfl (jm_call_v (a := 44) (as := [(.int (110 : Int32))]) (rest := []) lm_5_37 rfl jM25 rfl rfl rfl rfl rfl) jM25 rfl (Or.inr rfl)).trans ?_
    refine jbi_c (fun r2 τ2 => ?_)
    refine (sv_if_eq jM32 c32_37 rfl (t := 62) (by decide +kernel)).trans ?_
    refine jif _ ?_ ?_
    ·
      refine (sv_aload_n jM32 c32_62 rfl rfl).trans ?_
      refine (sv_bipush jM32 c32_63 rfl (v := 116) (by decide +kernel)).trans ?_
      refine (sv_callvi (pl := 0) jM32 c32_65 rfl (jm_call_v (a := 44) (as := [(.int (116 : Int32))]) (rest := []) lm_5_37 rfl jM25 rfl rfl rfl rfl rfl) jM25 rfl (Or.inr rfl)).trans ?_
      refine jbi_c (fun r3 τ3 => ?_)
      refine (sv_if_eq jM32 c32_68 rfl (t := 94) (by decide +kernel)).trans ?_
      refine jif _ ?_ ?_
      ·
        refine (sv_aload_n jM32 c32_94 rfl rfl).trans ?_
        refine (sv_aload_n jM32 c32_95 rfl rfl).trans ?_
        refine (sv_getf jM32 c32_96 rfl lf_5_50 (fg_44_2 _)).trans ?_
        refine (sv_callvv (pl := 0) jM32 c32_99 rfl (jm_call_v (a := 44) (as := [(.int (τ3 44 2))]) (rest := []) lm_5_53 rfl jM27 rfl rfl rfl rfl rfl) jM27 rfl rfl).trans ?_
        refine jbv_c (fun τ4 => ?_)
        exact sv_vret jM32 c32_102 rfl rfl
      ·
        refine (sv_aload_n jM32 c32_71 rfl rfl).trans ?_
        refine (sv_aload_n jM32 c32_72 rfl rfl).trans ?_
        refine (sv_getf jM32 c32_73 rfl lf_5_18 (fg_49_2 _)).trans ?_
        refine (sv_aload_n jM32 c32_76 rfl rfl).trans ?_
        refine (sv_iconst jM32 c32_77 rfl (v := 3) (by decide +kernel)).trans ?_
        refine (sv_iconst jM32 c32_78 rfl (v := 1) (by decide +kernel)).trans ?_
        refine (sv_sipush jM32 c32_79 rfl (v := 200) (by decide +kernel)).trans ?_
        refine (sv_callvi (pl := 0) jM32 c32_82 rfl (jm_call_v (a := 44) (as := [(.int (3 : Int32)), (.int (1 : Int32)), (.int (200 : Int32))]) (rest := [(.int (τ3 49 2)), (.ref 49)]) lm_5_40 rfl jM26 rfl rfl rfl rfl rfl) jM26 rfl (Or.inl rfl)).trans ?_
        refine jbi_c (fun r5 τ5 => ?_)
        refine (sv_min jM32 c32_85 rfl lm_5_44 (Nat.not_lt.mpr (Nat.le_of_ble_eq_true rfl))).trans ?_
        refine (sv_putf jM32 c32_88 rfl lf_5_18 (pf_49_2 _ _)).trans ?_
        refine (sv_goto jM32 c32_91 rfl (t := 102) (by decide +kernel)).trans ?_
        exact sv_vret jM32 c32_102 rfl rfl
    ·
      refine (sv_aload_n jM32 c32_40 rfl rfl).trans ?_
      refine (sv_aload_n jM32 c32_41 rfl rfl).trans ?_
      refine (sv_getf jM32 c32_42 rfl lf_5_15 (fg_49_1 _)).trans ?_
      refine (sv_aload_n jM32 c32_45 rfl rfl).trans ?_
      refine (sv_iconst jM32 c32_46 rfl (v := 2) (by decide +kernel)).trans ?_
      refine (sv_iconst jM32 c32_47 rfl (v := 1) (by decide +kernel)).trans ?_
      refine (sv_bipush jM32 c32_48 rfl (v := 99) (by decide +kernel)).trans ?_
      refine (sv_callvi (pl := 0) jM32 c32_50 rfl (jm_call_v (a := 44) (as := [(.int (2 : Int32)), (.int (1 : Int32)), (.int (99 : Int32))]) (rest := [(.int (τ2 49 1)), (.ref 49)]) lm_5_40 rfl jM26 rfl rfl rfl rfl rfl) jM26 rfl (Or.inl rfl)).trans ?_
      refine jbi_c (fun r6 τ6 => ?_)
      refine (sv_min jM32 c32_53 rfl lm_5_44 (Nat.not_lt.mpr (Nat.le_of_ble_eq_true rfl))).trans ?_
      refine (sv_putf jM32 c32_56 rfl lf_5_15 (pf_49_1 _ _)).trans ?_
      refine (sv_goto jM32 c32_59 rfl (t := 102) (by decide +kernel)).trans ?_
      exact sv_vret jM32 c32_102 rfl rfl
  ·
    refine (sv_aload_n jM32 c32_9 rfl rfl).trans ?_
    refine (sv_aload_n jM32 c32_10 rfl rfl).trans ?_
    refine (sv_getf jM32 c32_11 rfl lf_5_11 (fg_49_0 _)).trans ?_
    refine (sv_aload_n jM32 c32_14 rfl rfl).trans ?_
    refine (sv_iconst jM32 c32_15 rfl (v := 2) (by decide +kernel)).trans ?_
    refine (sv_iconst jM32 c32_16 rfl (v := 1) (by decide +kernel)).trans ?_
    refine (sv_bipush jM32 c32_17 rfl (v := 99) (by decide +kernel)).trans ?_
    refine (sv_callvi (pl := 0) jM32 c32_19 rfl (jm_call_v (a := 44) (as := [(.int (2 : Int32)), (.int (1 : Int32)), (.int (99 : Int32))]) (rest := [(.int (τ1 49 0)), (.ref 49)]) lm_5_40 rfl jM26 rfl rfl rfl rfl rfl) jM26 rfl (Or.inl rfl)).trans ?_
    refine jbi_c (fun r7 τ7 => ?_)
    refine (sv_min jM32 c32_22 rfl lm_5_44 (Nat.not_lt.mpr (Nat.le_of_ble_eq_true rfl))).trans ?_
    refine (sv_putf jM32 c32_25 rfl lf_5_11 (pf_49_0 _ _)).trans ?_
    refine (sv_goto jM32 c32_28 rfl (t := 102) (by decide +kernel)).trans ?_
    exact sv_vret jM32 c32_102 rfl rfl
set_option maxRecDepth 20000 in
set_option maxHeartbeats 4000000 in
theorem Text_goesOnBehind_44_in (x1 : Int32) (σ : jm_S) : jc 30 [(.ref 44), (.int x1)] σ = (if ¬ (σ 44 3) = (-1 : Int32) then some (some (.int (0 : Int32)), σ) else (if (σ 44 2) < (σ 44 1) then jbv (jc 28 [(.ref 44), (.int x1)] σ) (fun τ1 => (if ¬ (τ1 44 3) = (-1 : Int32) then some (some (.int (0 : Int32)), τ1) else some (some (.int (1 : Int32)), τ1))) else some (some (.int (0 : Int32)), σ))) := by
  refine (jc_of (ls1 := [some (.ref 44), some (.int x1)]) ((jm_ini_of jM30).trans rfl)).trans ?_
  refine (sv_aload_n jM30 c30_0 rfl rfl).trans ?_
  refine (sv_getf jM30 c30_1 rfl lf_7_18 (fg_44_3 _)).trans ?_
  refine (sv_iconst jM30 c30_4 rfl (v := -1) (by decide +kernel)).trans ?_
  refine (sv_icmp_ne jM30 c30_5 rfl (t := 19) (by decide +kernel)).trans ?_
  refine jif _ ?_ ?_
  ·
    refine (sv_iconst jM30 c30_19 rfl (v := 0) (by decide +kernel)).trans ?_
    exact sv_zret jM30 c30_20 rfl rfl (by decide +kernel)
  ·
    refine (sv_aload_n jM30 c30_8 rfl rfl).trans ?_
    refine (sv_getf jM30 c30_9 rfl lf_7_15 (fg_44_2 _)).trans ?_
    refine (sv_aload_n jM30 c30_12 rfl rfl).trans ?_
    refine (sv_getf jM30 c30_13 rfl lf_7_9 (fg_44_1 _)).trans ?_
    refine (sv_icmp_lt jM30 c30_16 rfl (t := 21) (by decide +kernel)).trans ?_
    refine jif _ ?_ ?_
    ·
      refine (sv_aload_n jM30 c30_21 rfl rfl).trans ?_
      refine (sv_iload_n jM30 c30_22 rfl rfl).trans ?_
      refine (sv_callvv (pl := 0) jM30 c30_23 rfl (jm_call_v (a := 44) (as := [(.int x1)]) (rest := []) lm_7_33 rfl jM28 rfl rfl rfl rfl rfl) jM28 rfl rfl).trans ?_
      refine jbv_c (fun τ1 => ?_)
      refine (sv_aload_n jM30 c30_26 rfl rfl).trans ?_
      refine (sv_getf jM30 c30_27 rfl lf_7_18 (fg_44_3 _)).trans ?_
      refine (sv_iconst jM30 c30_30 rfl (v := -1) (by decide +kernel)).trans ?_
      refine (sv_icmp_ne jM30 c30_31 rfl (t := 38) (by decide +kernel)).trans ?_
      refine jif _ ?_ ?_
      ·
        refine (sv_iconst jM30 c30_38 rfl (v := 0) (by decide +kernel)).trans ?_
        exact sv_zret jM30 c30_39 rfl rfl (by decide +kernel)
      ·
        refine (sv_iconst jM30 c30_34 rfl (v := 1) (by decide +kernel)).trans ?_
        refine (sv_goto jM30 c30_35 rfl (t := 39) (by decide +kernel)).trans ?_
        exact sv_zret jM30 c30_39 rfl rfl (by decide +kernel)
    ·
      refine (sv_iconst jM30 c30_19 rfl (v := 0) (by decide +kernel)).trans ?_
      exact sv_zret jM30 c30_20 rfl rfl (by decide +kernel)
set_option maxRecDepth 20000 in
set_option maxHeartbeats 4000000 in
theorem Text_rewind_44_in (σ : jm_S) : jc 23 [(.ref 44)] σ = some (none, (jm_up (jm_up σ 44 2 (0 : Int32)) 44 3 (-1 : Int32))) := by
  refine (jc_of (ls1 := [some (.ref 44)]) ((jm_ini_of jM23).trans rfl)).trans ?_
  refine (sv_aload_n jM23 c23_0 rfl rfl).trans ?_
  refine (sv_iconst jM23 c23_1 rfl (v := 0) (by decide +kernel)).trans ?_
  refine (sv_putf jM23 c23_2 rfl lf_7_15 (pf_44_2 _ _)).trans ?_
  refine (sv_aload_n jM23 c23_5 rfl rfl).trans ?_
  refine (sv_iconst jM23 c23_6 rfl (v := -1) (by decide +kernel)).trans ?_
  refine (sv_putf jM23 c23_7 rfl lf_7_18 (pf_44_3 _ _)).trans ?_
  exact sv_vret jM23 c23_10 rfl rfl
set_option maxRecDepth 20000 in
set_option maxHeartbeats 4000000 in
theorem Text_goesOnBehind_50_in (x1 : Int32) (σ : jm_S) : jc 30 [(.ref 50), (.int x1)] σ = (if ¬ (σ 50 3) = (-1 : Int32) then some (some (.int (0 : Int32)), σ) else (if (σ 50 2) < (σ 50 1) then jbv (jc 28 [(.ref 50), (.int x1)] σ) (fun τ1 => (if ¬ (τ1 50 3) = (-1 : Int32) then some (some (.int (0 : Int32)), τ1) else some (some (.int (1 : Int32)), τ1))) else some (some (.int (0 : Int32)), σ))) := by
  refine (jc_of (ls1 := [some (.ref 50), some (.int x1)]) ((jm_ini_of jM30).trans rfl)).trans ?_
  refine (sv_aload_n jM30 c30_0 rfl rfl).trans ?_
  refine (sv_getf jM30 c30_1 rfl lf_7_18 (fg_50_3 _)).trans ?_
  refine (sv_iconst jM30 c30_4 rfl (v := -1) (by decide +kernel)).trans ?_
  refine (sv_icmp_ne jM30 c30_5 rfl (t := 19) (by decide +kernel)).trans ?_
  refine jif _ ?_ ?_
  ·
    refine (sv_iconst jM30 c30_19 rfl (v := 0) (by decide +kernel)).trans ?_
    exact sv_zret jM30 c30_20 rfl rfl (by decide +kernel)
  ·
    refine (sv_aload_n jM30 c30_8 rfl rfl).trans ?_
    refine (sv_getf jM30 c30_9 rfl lf_7_15 (fg_50_2 _)).trans ?_
    refine (sv_aload_n jM30 c30_12 rfl rfl).trans ?_
    refine (sv_getf jM30 c30_13 rfl lf_7_9 (fg_50_1 _)).trans ?_
    refine (sv_icmp_lt jM30 c30_16 rfl (t := 21) (by decide +kernel)).trans ?_
    refine jif _ ?_ ?_
    ·
      refine (sv_aload_n jM30 c30_21 rfl rfl).trans ?_
      refine (sv_iload_n jM30 c30_22 rfl rfl).trans ?_
      refine (sv_callvv (pl := 0) jM30 c30_23 rfl (jm_call_v (a := 50) (as := [(.int x1)]) (rest := []) lm_7_33 rfl jM28 rfl rfl rfl rfl rfl) jM28 rfl rfl).trans ?_
      refine jbv_c (fun τ1 => ?_)
      refine (sv_aload_n jM30 c30_26 rfl rfl).trans ?_
      refine (sv_getf jM30 c30_27 rfl lf_7_18 (fg_50_3 _)).trans ?_
      refine (sv_iconst jM30 c30_30 rfl (v := -1) (by decide +kernel)).trans ?_
      refine (sv_icmp_ne jM30 c30_31 rfl (t := 38) (by decide +kernel)).trans ?_
      refine jif _ ?_ ?_
      ·
        refine (sv_iconst jM30 c30_38 rfl (v := 0) (by decide +kernel)).trans ?_
        exact sv_zret jM30 c30_39 rfl rfl (by decide +kernel)
      ·
        refine (sv_iconst jM30 c30_34 rfl (v := 1) (by decide +kernel)).trans ?_
        refine (sv_goto jM30 c30_35 rfl (t := 39) (by decide +kernel)).trans ?_
        exact sv_zret jM30 c30_39 rfl rfl (by decide +kernel)
    ·
      refine (sv_iconst jM30 c30_19 rfl (v := 0) (by decide +kernel)).trans ?_
      exact sv_zret jM30 c30_20 rfl rfl (by decide +kernel)
set_option maxRecDepth 20000 in
set_option maxHeartbeats 4000000 in
theorem Rule_addCondition_46_50_in (σ : jm_S) : jc 32 [(.ref 46), (.ref 50)] σ = jbi (jc 25 [(.ref 50), (.int (103 : Int32))] σ) (fun r1 τ1 => (if r1 = 0 then jbi (jc 25 [(.ref 50), (.int (110 : Int32))] τ1) (fun r2 τ2 => (if r2 = 0 then jbi (jc 25 [(.ref 50), (.int (116 : Int32))] τ2) (fun r3 τ3 => (if r3 = 0 then jbv (jc 27 [(.ref 50), (.int (τ3 50 2))] τ3) (fun τ4 => some (none, τ4)) else jbi (jc 26 [(.ref 50), (.int (3 : Int32)), (.int (1 : Int32)), (.int (200 : Int32))] τ3) (fun r5 τ5 => some (none, (jm_up τ5 46 2 (if r5 < (τ3 46 2) then r5 else (τ3 46 2))))))) else jbi (jc 26 [(.ref 50), (.int (2 : Int32)), (.int (1 : Int32)), (.int (99 : Int32))] τ2) (fun r6 τ6 => some (none, (jm_up τ6 46 1 (if r6 < (τ2 46 1) then r6 else (τ2 46 1))))))) else jbi (jc 26 [(.ref 50), (.int (2 : Int32)), (.int (1 : Int32)), (.int (99 : Int32))] τ1) (fun r7 τ7 => some (none, (jm_up τ7 46 0 (if r7 < (τ1 46 0) then r7 else (τ1 46 0))))))) := by
  refine (jc_of (ls1 := [some (.ref 46), some (.ref 50)]) ((jm_ini_of jM32).trans rfl)).trans ?_
  refine (sv_aload_n jM32 c32_0 rfl rfl).trans ?_
  refine (sv_bipush jM32 c32_1 rfl (v := 103) (by decide +kernel)).trans ?_
  refine (sv_callvi (pl := 0) jM32 c32_3 rfl (jm_call_v (a := 50) (as := [(.int (103 : Int32))]) (rest := []) lm_5_37 rfl jM25 rfl rfl rfl rfl rfl) jM25 rfl (Or.inr rfl)).trans ?_
  refine jbi_c (fun r1 τ1 => ?_)
  refine (sv_if_eq jM32 c32_6 rfl (t := 31) (by decide +kernel)).trans ?_
  refine jif _ ?_ ?_
  ·
    refine (sv_aload_n jM32 c32_31 rfl rfl).trans ?_
    refine (sv_bipush jM32 c32_32 rfl (v := 110) (by decide +kernel)).trans ?_
    refine (sv_callvi (pl := 0) jM32 c32_34 rfl (jm_call_v (a := 50) (as := [(.int (110 : Int32))]) (rest := []) lm_5_37 rfl jM25 rfl rfl rfl rfl rfl) jM25 rfl (Or.inr rfl)).trans ?_
    refine jbi_c (fun r2 τ2 => ?_)
    refine (sv_if_eq jM32 c32_37 rfl (t := 62) (by decide +kernel)).trans ?_
    refine jif _ ?_ ?_
    ·
      refine (sv_aload_n jM32 c32_62 rfl rfl).trans ?_
      refine (sv_bipush jM32 c32_63 rfl (v := 116) (by decide +kernel)).trans ?_
      refine (sv_callvi (pl := 0) jM32 c32_65 rfl (jm_call_v (a := 50) (as := [(.int (116 : Int32))]) (rest := []) lm_5_37 rfl jM25 rfl rfl rfl rfl rfl) jM25 rfl (Or.inr rfl)).trans ?_
      refine jbi_c (fun r3 τ3 => ?_)
      refine (sv_if_eq jM32 c32_68 rfl (t := 94) (by decide +kernel)).trans ?_
      refine jif _ ?_ ?_
      ·
        refine (sv_aload_n jM32 c32_94 rfl rfl).trans ?_
        refine (sv_aload_n jM32 c32_95 rfl rfl).trans ?_
        refine (sv_getf jM32 c32_96 rfl lf_5_50 (fg_50_2 _)).trans ?_
        refine (sv_callvv (pl := 0) jM32 c32_99 rfl (jm_call_v (a := 50) (as := [(.int (τ3 50 2))]) (rest := []) lm_5_53 rfl jM27 rfl rfl rfl rfl rfl) jM27 rfl rfl).trans ?_
        refine jbv_c (fun τ4 => ?_)
        exact sv_vret jM32 c32_102 rfl rfl
      ·
        refine (sv_aload_n jM32 c32_71 rfl rfl).trans ?_
        refine (sv_aload_n jM32 c32_72 rfl rfl).trans ?_
        refine (sv_getf jM32 c32_73 rfl lf_5_18 (fg_46_2 _)).trans ?_
        refine (sv_aload_n jM32 c32_76 rfl rfl).trans ?_
        refine (sv_iconst jM32 c32_77 rfl (v := 3) (by decide +kernel)).trans ?_
        refine (sv_iconst jM32 c32_78 rfl (v := 1) (by decide +kernel)).trans ?_
        refine (sv_sipush jM32 c32_79 rfl (v := 200) (by decide +kernel)).trans ?_
        refine (sv_callvi (pl := 0) jM32 c32_82 rfl (jm_call_v (a := 50) (as := [(.int (3 : Int32)), (.int (1 : Int32)), (.int (200 : Int32))]) (rest := [(.int (τ3 46 2)), (.ref 46)]) lm_5_40 rfl jM26 rfl rfl rfl rfl rfl) jM26 rfl (Or.inl rfl)).trans ?_
        refine jbi_c (fun r5 τ5 => ?_)
        refine (sv_min jM32 c32_85 rfl lm_5_44 (Nat.not_lt.mpr (Nat.le_of_ble_eq_true rfl))).trans ?_
        refine (sv_putf jM32 c32_88 rfl lf_5_18 (pf_46_2 _ _)).trans ?_
        refine (sv_goto jM32 c32_91 rfl (t := 102) (by decide +kernel)).trans ?_
        exact sv_vret jM32 c32_102 rfl rfl
    ·
      refine (sv_aload_n jM32 c32_40 rfl rfl).trans ?_
      refine (sv_aload_n jM32 c32_41 rfl rfl).trans ?_
      refine (sv_getf jM32 c32_42 rfl lf_5_15 (fg_46_1 _)).trans ?_
      refine (sv_aload_n jM32 c32_45 rfl rfl).trans ?_
      refine (sv_iconst jM32 c32_46 rfl (v := 2) (by decide +kernel)).trans ?_
      refine (sv_iconst jM32 c32_47 rfl (v := 1) (by decide +kernel)).trans ?_
      refine (sv_bipush jM32 c32_48 rfl (v := 99) (by decide +kernel)).trans ?_
      refine (sv_callvi (pl := 0) jM32 c32_50 rfl (jm_call_v (a := 50) (as := [(.int (2 : Int32)), (.int (1 : Int32)), (.int (99 : Int32))]) (rest := [(.int (τ2 46 1)), (.ref 46)]) lm_5_40 rfl jM26 rfl rfl rfl rfl rfl) jM26 rfl (Or.inl rfl)).trans ?_
      refine jbi_c (fun r6 τ6 => ?_)
      refine (sv_min jM32 c32_53 rfl lm_5_44 (Nat.not_lt.mpr (Nat.le_of_ble_eq_true rfl))).trans ?_
      refine (sv_putf jM32 c32_56 rfl lf_5_15 (pf_46_1 _ _)).trans ?_
      refine (sv_goto jM32 c32_59 rfl (t := 102) (by decide +kernel)).trans ?_
      exact sv_vret jM32 c32_102 rfl rfl
  ·
    refine (sv_aload_n jM32 c32_9 rfl rfl).trans ?_
    refine (sv_aload_n jM32 c32_10 rfl rfl).trans ?_
    refine (sv_getf jM32 c32_11 rfl lf_5_11 (fg_46_0 _)).trans ?_
    refine (sv_aload_n jM32 c32_14 rfl rfl).trans ?_
    refine (sv_iconst jM32 c32_15 rfl (v := 2) (by decide +kernel)).trans ?_
    refine (sv_iconst jM32 c32_16 rfl (v := 1) (by decide +kernel)).trans ?_
    refine (sv_bipush jM32 c32_17 rfl (v := 99) (by decide +kernel)).trans ?_
    refine (sv_callvi (pl := 0) jM32 c32_19 rfl (jm_call_v (a := 50) (as := [(.int (2 : Int32)), (.int (1 : Int32)), (.int (99 : Int32))]) (rest := [(.int (τ1 46 0)), (.ref 46)]) lm_5_40 rfl jM26 rfl rfl rfl rfl rfl) jM26 rfl (Or.inl rfl)).trans ?_
    refine jbi_c (fun r7 τ7 => ?_)
    refine (sv_min jM32 c32_22 rfl lm_5_44 (Nat.not_lt.mpr (Nat.le_of_ble_eq_true rfl))).trans ?_
    refine (sv_putf jM32 c32_25 rfl lf_5_11 (pf_46_0 _ _)).trans ?_
    refine (sv_goto jM32 c32_28 rfl (t := 102) (by decide +kernel)).trans ?_
    exact sv_vret jM32 c32_102 rfl rfl
set_option maxRecDepth 20000 in
set_option maxHeartbeats 4000000 in
theorem Text_rewind_50_in (σ : jm_S) : jc 23 [(.ref 50)] σ = some (none, (jm_up (jm_up σ 50 2 (0 : Int32)) 50 3 (-1 : Int32))) := by
  refine (jc_of (ls1 := [some (.ref 50)]) ((jm_ini_of jM23).trans rfl)).trans ?_
  refine (sv_aload_n jM23 c23_0 rfl rfl).trans ?_
  refine (sv_iconst jM23 c23_1 rfl (v := 0) (by decide +kernel)).trans ?_
  refine (sv_putf jM23 c23_2 rfl lf_7_15 (pf_50_2 _ _)).trans ?_
  refine (sv_aload_n jM23 c23_5 rfl rfl).trans ?_
  refine (sv_iconst jM23 c23_6 rfl (v := -1) (by decide +kernel)).trans ?_
  refine (sv_putf jM23 c23_7 rfl lf_7_18 (pf_50_3 _ _)).trans ?_
  exact sv_vret jM23 c23_10 rfl rfl
set_option maxRecDepth 20000 in
set_option maxHeartbeats 4000000 in
theorem Rule_addCondition_52_44_in (σ : jm_S) : jc 32 [(.ref 52), (.ref 44)] σ = jbi (jc 25 [(.ref 44), (.int (103 : Int32))] σ) (fun r1 τ1 => (if r1 = 0 then jbi (jc 25 [(.ref 44), (.int (110 : Int32))] τ1) (fun r2 τ2 => (if r2 = 0 then jbi (jc 25 [(.ref 44), (.int (116 : Int32))] τ2) (fun r3 τ3 => (if r3 = 0 then jbv (jc 27 [(.ref 44), (.int (τ3 44 2))] τ3) (fun τ4 => some (none, τ4)) else jbi (jc 26 [(.ref 44), (.int (3 : Int32)), (.int (1 : Int32)), (.int (200 : Int32))] τ3) (fun r5 τ5 => some (none, (jm_up τ5 52 2 (if r5 < (τ3 52 2) then r5 else (τ3 52 2))))))) else jbi (jc 26 [(.ref 44), (.int (2 : Int32)), (.int (1 : Int32)), (.int (99 : Int32))] τ2) (fun r6 τ6 => some (none, (jm_up τ6 52 1 (if r6 < (τ2 52 1) then r6 else (τ2 52 1))))))) else jbi (jc 26 [(.ref 44), (.int (2 : Int32)), (.int (1 : Int32)), (.int (99 : Int32))] τ1) (fun r7 τ7 => some (none, (jm_up τ7 52 0 (if r7 < (τ1 52 0) then r7 else (τ1 52 0))))))) := by
  refine (jc_of (ls1 := [some (.ref 52), some (.ref 44)]) ((jm_ini_of jM32).trans rfl)).trans ?_
  refine (sv_aload_n jM32 c32_0 rfl rfl).trans ?_
  refine (sv_bipush jM32 c32_1 rfl (v := 103) (by decide +kernel)).trans ?_
  refine (sv_callvi (pl := 0) jM32 c32_3 rfl (jm_call_v (a := 44) (as := [(.int (103 : Int32))]) (rest := []) lm_5_37 rfl jM25 rfl rfl rfl rfl rfl) jM25 rfl (Or.inr rfl)).trans ?_
  refine jbi_c (fun r1 τ1 => ?_)
  refine (sv_if_eq jM32 c32_6 rfl (t := 31) (by decide +kernel)).trans ?_
  refine jif _ ?_ ?_
  ·
    refine (sv_aload_n jM32 c32_31 rfl rfl).trans ?_
    refine (sv_bipush jM32 c32_32 rfl (v := 110) (by decide +kernel)).trans ?_
    refine (sv_callvi (pl := 0) jM32 c32_34 rfl (jm_call_v (a := 44) (as := [(.int (110 : Int32))]) (rest := []) lm_5_37 rfl jM25 rfl rfl rfl rfl rfl) jM25 rfl (Or.inr rfl)).trans ?_
    refine jbi_c (fun r2 τ2 => ?_)
    refine (sv_if_eq jM32 c32_37 rfl (t := 62) (by decide +kernel)).trans ?_
    refine jif _ ?_ ?_
    ·
      refine (sv_aload_n jM32 c32_62 rfl rfl).trans ?_
      refine (sv_bipush jM32 c32_63 rfl (v := 116) (by decide +kernel)).trans ?_
      refine (sv_callvi (pl := 0) jM32 c32_65 rfl (jm_call_v (a := 44) (as := [(.int (116 : Int32))]) (rest := []) lm_5_37 rfl jM25 rfl rfl rfl rfl rfl) jM25 rfl (Or.inr rfl)).trans ?_
      refine jbi_c (fun r3 τ3 => ?_)
      refine (sv_if_eq jM32 c32_68 rfl (t := 94) (by decide +kernel)).trans ?_
      refine jif _ ?_ ?_
      ·
        refine (sv_aload_n jM32 c32_94 rfl rfl).trans ?_
        refine (sv_aload_n jM32 c32_95 rfl rfl).trans ?_
        refine (sv_getf jM32 c32_96 rfl lf_5_50 (fg_44_2 _)).trans ?_
        refine (sv_callvv (pl := 0) jM32 c32_99 rfl (jm_call_v (a := 44) (as := [(.int (τ3 44 2))]) (rest := []) lm_5_53 rfl jM27 rfl rfl rfl rfl rfl) jM27 rfl rfl).trans ?_
        refine jbv_c (fun τ4 => ?_)
        exact sv_vret jM32 c32_102 rfl rfl
      ·
        refine (sv_aload_n jM32 c32_71 rfl rfl).trans ?_
        refine (sv_aload_n jM32 c32_72 rfl rfl).trans ?_
        refine (sv_getf jM32 c32_73 rfl lf_5_18 (fg_52_2 _)).trans ?_
        refine (sv_aload_n jM32 c32_76 rfl rfl).trans ?_
        refine (sv_iconst jM32 c32_77 rfl (v := 3) (by decide +kernel)).trans ?_
        refine (sv_iconst jM32 c32_78 rfl (v := 1) (by decide +kernel)).trans ?_
        refine (sv_sipush jM32 c32_79 rfl (v := 200) (by decide +kernel)).trans ?_
        refine (sv_callvi (pl := 0) jM32 c32_82 rfl (jm_call_v (a := 44) (as := [(.int (3 : Int32)), (.int (1 : Int32)), (.int (200 : Int32))]) (rest := [(.int (τ3 52 2)), (.ref 52)]) lm_5_40 rfl jM26 rfl rfl rfl rfl rfl) jM26 rfl (Or.inl rfl)).trans ?_
        refine jbi_c (fun r5 τ5 => ?_)
        refine (sv_min jM32 c32_85 rfl lm_5_44 (Nat.not_lt.mpr (Nat.le_of_ble_eq_true rfl))).trans ?_
        refine (sv_putf jM32 c32_88 rfl lf_5_18 (pf_52_2 _ _)).trans ?_
        refine (sv_goto jM32 c32_91 rfl (t := 102) (by decide +kernel)).trans ?_
        exact sv_vret jM32 c32_102 rfl rfl
    ·
      refine (sv_aload_n jM32 c32_40 rfl rfl).trans ?_
      refine (sv_aload_n jM32 c32_41 rfl rfl).trans ?_
      refine (sv_getf jM32 c32_42 rfl lf_5_15 (fg_52_1 _)).trans ?_
      refine (sv_aload_n jM32 c32_45 rfl rfl).trans ?_
      refine (sv_iconst jM32 c32_46 rfl (v := 2) (by decide +kernel)).trans ?_
      refine (sv_iconst jM32 c32_47 rfl (v := 1) (by decide +kernel)).trans ?_
      refine (sv_bipush jM32 c32_48 rfl (v := 99) (by decide +kernel)).trans ?_
      refine (sv_callvi (pl := 0) jM32 c32_50 rfl (jm_call_v (a := 44) (as := [(.int (2 : Int32)), (.int (1 : Int32)), (.int (99 : Int32))]) (rest := [(.int (τ2 52 1)), (.ref 52)]) lm_5_40 rfl jM26 rfl rfl rfl rfl rfl) jM26 rfl (Or.inl rfl)).trans ?_
      refine jbi_c (fun r6 τ6 => ?_)
      refine (sv_min jM32 c32_53 rfl lm_5_44 (Nat.not_lt.mpr (Nat.le_of_ble_eq_true rfl))).trans ?_
      refine (sv_putf jM32 c32_56 rfl lf_5_15 (pf_52_1 _ _)).trans ?_
      refine (sv_goto jM32 c32_59 rfl (t := 102) (by decide +kernel)).trans ?_
      exact sv_vret jM32 c32_102 rfl rfl
  ·
    refine (sv_aload_n jM32 c32_9 rfl rfl).trans ?_
    refine (sv_aload_n jM32 c32_10 rfl rfl).trans ?_
    refine (sv_getf jM32 c32_11 rfl lf_5_11 (fg_52_0 _)).trans ?_
    refine (sv_aload_n jM32 c32_14 rfl rfl).trans ?_
    refine (sv_iconst jM32 c32_15 rfl (v := 2) (by decide +kernel)).trans ?_
    refine (sv_iconst jM32 c32_16 rfl (v := 1) (by decide +kernel)).trans ?_
    refine (sv_bipush jM32 c32_17 rfl (v := 99) (by decide +kernel)).trans ?_
    refine (sv_callvi (pl := 0) jM32 c32_19 rfl (jm_call_v (a := 44) (as := [(.int (2 : Int32)), (.int (1 : Int32)), (.int (99 : Int32))]) (rest := [(.int (τ1 52 0)), (.ref 52)]) lm_5_40 rfl jM26 rfl rfl rfl rfl rfl) jM26 rfl (Or.inl rfl)).trans ?_
    refine jbi_c (fun r7 τ7 => ?_)
    refine (sv_min jM32 c32_22 rfl lm_5_44 (Nat.not_lt.mpr (Nat.le_of_ble_eq_true rfl))).trans ?_
    refine (sv_putf jM32 c32_25 rfl lf_5_11 (pf_52_0 _ _)).trans ?_
    refine (sv_goto jM32 c32_28 rfl (t := 102) (by decide +kernel)).trans ?_
    exact sv_vret jM32 c32_102 rfl rfl
set_option maxRecDepth 20000 in
set_option maxHeartbeats 4000000 in
theorem Rule_addCondition_46_47_in (σ : jm_S) : jc 32 [(.ref 46), (.ref 47)] σ = jbi (jc 25 [(.ref 47), (.int (103 : Int32))] σ) (fun r1 τ1 => (if r1 = 0 then jbi (jc 25 [(.ref 47), (.int (110 : Int32))] τ1) (fun r2 τ2 => (if r2 = 0 then jbi (jc 25 [(.ref 47), (.int (116 : Int32))] τ2) (fun r3 τ3 => (if r3 = 0 then jbv (jc 27 [(.ref 47), (.int (τ3 47 2))] τ3) (fun τ4 => some (none, τ4)) else jbi (jc 26 [(.ref 47), (.int (3 : Int32)), (.int (1 : Int32)), (.int (200 : Int32))] τ3) (fun r5 τ5 => some (none, (jm_up τ5 46 2 (if r5 < (τ3 46 2) then r5 else (τ3 46 2))))))) else jbi (jc 26 [(.ref 47), (.int (2 : Int32)), (.int (1 : Int32)), (.int (99 : Int32))] τ2) (fun r6 τ6 => some (none, (jm_up τ6 46 1 (if r6 < (τ2 46 1) then r6 else (τ2 46 1))))))) else jbi (jc 26 [(.ref 47), (.int (2 : Int32)), (.int (1 : Int32)), (.int (99 : Int32))] τ1) (fun r7 τ7 => some (none, (jm_up τ7 46 0 (if r7 < (τ1 46 0) then r7 else (τ1 46 0))))))) := by
  refine (jc_of (ls1 := [some (.ref 46), some (.ref 47)]) ((jm_ini_of jM32).trans rfl)).trans ?_
  refine (sv_aload_n jM32 c32_0 rfl rfl).trans ?_
  refine (sv_bipush jM32 c32_1 rfl (v := 103) (by decide +kernel)).trans ?_
  refine (sv_callvi (pl := 0) jM32 c32_3 rfl (jm_call_v (a := 47) (as := [(.int (103 : Int32))]) (rest := []) lm_5_37 rfl jM25 rfl rfl rfl rfl rfl) jM25 rfl (Or.inr rfl)).trans ?_
  refine jbi_c (fun r1 τ1 => ?_)
  refine (sv_if_eq jM32 c32_6 rfl (t := 31) (by decide +kernel)).trans ?_
  refine jif _ ?_ ?_
  ·
    refine (sv_aload_n jM32 c32_31 rfl rfl).trans ?_
    refine (sv_bipush jM32 c32_32 rfl (v := 110) (by decide +kernel)).trans ?_
    refine (sv_callvi (pl := 0) jM32 c32_34 rfl (jm_call_v (a := 47) (as := [(.int (110 : Int32))]) (rest := []) lm_5_37 rfl jM25 rfl rfl rfl rfl rfl) jM25 rfl (Or.inr rfl)).trans ?_
    refine jbi_c (fun r2 τ2 => ?_)
    refine (sv_if_eq jM32 c32_37 rfl (t := 62) (by decide +kernel)).trans ?_
    refine jif _ ?_ ?_
    ·
      refine (sv_aload_n jM32 c32_62 rfl rfl).trans ?_
      refine (sv_bipush jM32 c32_63 rfl (v := 116) (by decide +kernel)).trans ?_
      refine (sv_callvi (pl := 0) jM32 c32_65 rfl (jm_call_v (a := 47) (as := [(.int (116 : Int32))]) (rest := []) lm_5_37 rfl jM25 rfl rfl rfl rfl rfl) jM25 rfl (Or.inr rfl)).trans ?_
      refine jbi_c (fun r3 τ3 => ?_)
      refine (sv_if_eq jM32 c32_68 rfl (t := 94) (by decide +kernel)).trans ?_
      refine jif _ ?_ ?_
      ·
        refine (sv_aload_n jM32 c32_94 rfl rfl).trans ?_
        refine (sv_aload_n jM32 c32_95 rfl rfl).trans ?_
        refine (sv_getf jM32 c32_96 rfl lf_5_50 (fg_47_2 _)).trans ?_
        refine (sv_callvv (pl := 0) jM32 c32_99 rfl (jm_call_v (a := 47) (as := [(.int (τ3 47 2))]) (rest := []) lm_5_53 rfl jM27 rfl rfl rfl rfl rfl) jM27 rfl rfl).trans ?_
        refine jbv_c (fun τ4 => ?_)
        exact sv_vret jM32 c32_102 rfl rfl
      ·
        refine (sv_aload_n jM32 c32_71 rfl rfl).trans ?_
        refine (sv_aload_n jM32 c32_72 rfl rfl).trans ?_
        refine (sv_getf jM32 c32_73 rfl lf_5_18 (fg_46_2 _)).trans ?_
        refine (sv_aload_n jM32 c32_76 rfl rfl).trans ?_
        refine (sv_iconst jM32 c32_77 rfl (v := 3) (by decide +kernel)).trans ?_
        refine (sv_iconst jM32 c32_78 rfl (v := 1) (by decide +kernel)).trans ?_
        refine (sv_sipush jM32 c32_79 rfl (v := 200) (by decide +kernel)).trans ?_
        refine (sv_callvi (pl := 0) jM32 c32_82 rfl (jm_call_v (a := 47) (as := [(.int (3 : Int32)), (.int (1 : Int32)), (.int (200 : Int32))]) (rest := [(.int (τ3 46 2)), (.ref 46)]) lm_5_40 rfl jM26 rfl rfl rfl rfl rfl) jM26 rfl (Or.inl rfl)).trans ?_
        refine jbi_c (fun r5 τ5 => ?_)
        refine (sv_min jM32 c32_85 rfl lm_5_44 (Nat.not_lt.mpr (Nat.le_of_ble_eq_true rfl))).trans ?_
        refine (sv_putf jM32 c32_88 rfl lf_5_18 (pf_46_2 _ _)).trans ?_
        refine (sv_goto jM32 c32_91 rfl (t := 102) (by decide +kernel)).trans ?_
        exact sv_vret jM32 c32_102 rfl rfl
    ·
      refine (sv_aload_n jM32 c32_40 rfl rfl).trans ?_
      refine (sv_aload_n jM32 c32_41 rfl rfl).trans ?_
      refine (sv_getf jM32 c32_42 rfl lf_5_15 (fg_46_1 _)).trans ?_
      refine (sv_aload_n jM32 c32_45 rfl rfl).trans ?_
      refine (sv_iconst jM32 c32_46 rfl (v := 2) (by decide +kernel)).trans ?_
      refine (sv_iconst jM32 c32_47 rfl (v := 1) (by decide +kernel)).trans ?_
      refine (sv_bipush jM32 c32_48 rfl (v := 99) (by decide +kernel)).trans ?_
      refine (sv_callvi (pl := 0) jM32 c32_50 rfl (jm_call_v (a := 47) (as := [(.int (2 : Int32)), (.int (1 : Int32)), (.int (99 : Int32))]) (rest := [(.int (τ2 46 1)), (.ref 46)]) lm_5_40 rfl jM26 rfl rfl rfl rfl rfl) jM26 rfl (Or.inl rfl)).trans ?_
      refine jbi_c (fun r6 τ6 => ?_)
      refine (sv_min jM32 c32_53 rfl lm_5_44 (Nat.not_lt.mpr (Nat.le_of_ble_eq_true rfl))).trans ?_
      refine (sv_putf jM32 c32_56 rfl lf_5_15 (pf_46_1 _ _)).trans ?_
      refine (sv_goto jM32 c32_59 rfl (t := 102) (by decide +kernel)).trans ?_
      exact sv_vret jM32 c32_102 rfl rfl
  ·
    refine (sv_aload_n jM32 c32_9 rfl rfl).trans ?_
    refine (sv_aload_n jM32 c32_10 rfl rfl).trans ?_
    refine (sv_getf jM32 c32_11 rfl lf_5_11 (fg_46_0 _)).trans ?_
    refine (sv_aload_n jM32 c32_14 rfl rfl).trans ?_
    refine (sv_iconst jM32 c32_15 rfl (v := 2) (by decide +kernel)).trans ?_
    refine (sv_iconst jM32 c32_16 rfl (v := 1) (by decide +kernel)).trans ?_
    refine (sv_bipush jM32 c32_17 rfl (v := 99) (by decide +kernel)).trans ?_
    refine (sv_callvi (pl := 0) jM32 c32_19 rfl (jm_call_v (a := 47) (as := [(.int (2 : Int32)), (.int (1 : Int32)), (.int (99 : Int32))]) (rest := [(.int (τ1 46 0)), (.ref 46)]) lm_5_40 rfl jM26 rfl rfl rfl rfl rfl) jM26 rfl (Or.inl rfl)).trans ?_
    refine jbi_c (fun r7 τ7 => ?_)
    refine (sv_min jM32 c32_22 rfl lm_5_44 (Nat.not_lt.mpr (Nat.le_of_ble_eq_true rfl))).trans ?_
    refine (sv_putf jM32 c32_25 rfl lf_5_11 (pf_46_0 _ _)).trans ?_
    refine (sv_goto jM32 c32_28 rfl (t := 102) (by decide +kernel)).trans ?_
    exact sv_vret jM32 c32_102 rfl rfl
set_option maxRecDepth 20000 in
set_option maxHeartbeats 4000000 in
theorem Heating_addPart_44_in (σ : jm_S) : jc 24 [(.ref 6), (.ref 44)] σ = jbi (jc 25 [(.ref 44), (.int (104 : Int32))] σ) (fun r1 τ1 => (if r1 = 0 then jbi (jc 25 [(.ref 44), (.int (115 : Int32))] τ1) (fun r2 τ2 => (if r2 = 0 then jbi (jc 25 [(.ref 44), (.int (108 : Int32))] τ2) (fun r3 τ3 => (if r3 = 0 then jbi (jc 25 [(.ref 44), (.int (111 : Int32))] τ3) (fun r4 τ4 => (if r4 = 0 then jbv (jc 27 [(.ref 44), (.int (τ4 44 2))] τ4) (fun τ5 => some (none, τ5)) else jbv (jc 22 [(.ref 6), (.int (0 : Int32))] τ4) (fun τ6 => some (none, τ6)))) else jbv (jc 22 [(.ref 6), (.int (1 : Int32))] τ3) (fun τ7 => some (none, τ7)))) else (if (200 : Int32) ≤ (τ2 6 3) then some (none, τ2) else (if (τ2 6 3) < 0 ∨ 200 ≤ (τ2 6 3).toNatClampNeg then none else (if (τ2 6 3) < 0 ∨ 200 ≤ (τ2 6 3).toNatClampNeg then none else some (none, (jm_up τ2 8 (τ2 6 3).toNatClampNeg ((τ2 8 (τ2 6 3).toNatClampNeg) + (1 : Int32))))))))) else jbi (jc 26 [(.ref 44), (.int (2 : Int32)), (.int (0 : Int32)), (.int (99 : Int32))] τ1) (fun r8 τ8 => jbv (jc 28 [(.ref 44), (.int (120 : Int32))] τ8) (fun τ9 => jbi (jc 26 [(.ref 44), (.int (2 : Int32)), (.int (1 : Int32)), (.int (99 : Int32))] τ9) (fun r10 τ10 => (if ¬ (τ10 44 3) = (-1 : Int32) then jbv (jc 29 [(.ref 6), (.int r8), (.int (0 : Int32))] τ10) (fun τ11 => some (none, τ11)) else jbv (jc 29 [(.ref 6), (.int r8), (.int r10)] τ10) (fun τ12 => some (none, τ12)))))))) := by
  refine (jc_of (ls1 := [some (.ref 6), some (.ref 44), none, none]) ((jm_ini_of jM24).trans rfl)).trans ?_
  refine (sv_aload_n jM24 c24_0 rfl rfl).trans ?_
  refine (sv_bipush jM24 c24_1 rfl (v := 104) (by decide +kernel)).trans ?_
  refine (sv_callvi (pl := 0) jM24 c24_3 rfl (jm_call_v (a := 44) (as := [(.int (104 : Int32))]) (rest := []) lm_4_58 rfl jM25 rfl rfl rfl rfl rfl) jM25 rfl (Or.inr rfl)).trans ?_
  refine jbi_c (fun r1 τ1 => ?_)
  refine (sv_if_eq jM24 c24_6 rfl (t := 54) (by decide +kernel)).trans ?_
  refine jif _ ?_ ?_
  ·
    refine (sv_aload_n jM24 c24_54 rfl rfl).trans ?_
    refine (sv_bipush jM24 c24_55 rfl (v := 115) (by decide +kernel)).trans ?_
    refine (sv_callvi (pl := 0) jM24 c24_57 rfl (jm_call_v (a := 44) (as := [(.int (115 : Int32))]) (rest := []) lm_4_58 rfl jM25 rfl rfl rfl rfl rfl) jM25 rfl (Or.inr rfl)).trans ?_
    refine jbi_c (fun r2 τ2 => ?_)
    refine (sv_if_eq jM24 c24_60 rfl (t := 89) (by decide +kernel)).trans ?_
    refine jif _ ?_ ?_
    ·
      refine (sv_aload_n jM24 c24_89 rfl rfl).trans ?_
      refine (sv_bipush jM24 c24_90 rfl (v := 108) (by decide +kernel)).trans ?_
      refine (sv_callvi (pl := 0) jM24 c24_92 rfl (jm_call_v (a := 44) (as := [(.int (108 : Int32))]) (rest := []) lm_4_58 rfl jM25 rfl rfl rfl rfl rfl) jM25 rfl (Or.inr rfl)).trans ?_
      refine jbi_c (fun r3 τ3 => ?_)
      refine (sv_if_eq jM24 c24_95 rfl (t := 106) (by decide +kernel)).trans ?_
      refine jif _ ?_ ?_
      ·
        refine (sv_aload_n jM24 c24_106 rfl rfl).trans ?_
        refine (sv_bipush jM24 c24_107 rfl (v := 111) (by decide +kernel)).trans ?_
        refine (sv_callvi (pl := 0) jM24 c24_109 rfl (jm_call_v (a := 44) (as := [(.int (111 : Int32))]) (rest := []) lm_4_58 rfl jM25 rfl rfl rfl rfl rfl) jM25 rfl (Or.inr rfl)).trans ?_
        refine jbi_c (fun r4 τ4 => ?_)
        refine (sv_if_eq jM24 c24_112 rfl (t := 123) (by decide +kernel)).trans ?_
        refine jif _ ?_ ?_
        ·
          refine (sv_aload_n jM24 c24_123 rfl rfl).trans ?_
          refine (sv_aload_n jM24 c24_124 rfl rfl).trans ?_
          refine (sv_getf jM24 c24_125 rfl lf_4_73 (fg_44_2 _)).trans ?_
          refine (sv_callvv (pl := 0) jM24 c24_128 rfl (jm_call_v (a := 44) (as := [(.int (τ4 44 2))]) (rest := []) lm_4_76 rfl jM27 rfl rfl rfl rfl rfl) jM27 rfl rfl).trans ?_
          refine jbv_c (fun τ5 => ?_)
          exact sv_vret jM24 c24_131 rfl rfl
        ·
          refine (sv_aload_n jM24 c24_115 rfl rfl).trans ?_
          refine (sv_iconst jM24 c24_116 rfl (v := 0) (by decide +kernel)).trans ?_
          refine (sv_callvv (pl := 0) jM24 c24_117 rfl (jm_call_v (a := 6) (as := [(.int (0 : Int32))]) (rest := []) lm_4_54 rfl jM22 rfl rfl rfl rfl rfl) jM22 rfl rfl).trans ?_
          refine jbv_c (fun τ6 => ?_)
          refine (sv_goto jM24 c24_120 rfl (t := 131) (by decide +kernel)).trans ?_
          exact sv_vret jM24 c24_131 rfl rfl
      ·
        refine (sv_aload_n jM24 c24_98 rfl rfl).trans ?_
        refine (sv_iconst jM24 c24_99 rfl (v := 1) (by decide +kernel)).trans ?_
        refine (sv_callvv (pl := 0) jM24 c24_100 rfl (jm_call_v (a := 6) (as := [(.int (1 : Int32))]) (rest := []) lm_4_54 rfl jM22 rfl rfl rfl rfl rfl) jM22 rfl rfl).trans ?_
        refine jbv_c (fun τ7 => ?_)
        refine (sv_goto jM24 c24_103 rfl (t := 131) (by decide +kernel)).trans ?_
        exact sv_vret jM24 c24_131 rfl rfl
    ·
      refine (sv_aload_n jM24 c24_63 rfl rfl).trans ?_
      refine (sv_getf jM24 c24_64 rfl lf_4_22 (fg_6_3 _)).trans ?_
      refine (sv_sipush jM24 c24_67 rfl (v := 200) (by decide +kernel)).trans ?_
      refine (sv_icmp_ge jM24 c24_70 rfl (t := 131) (by decide +kernel)).trans ?_
      refine jif _ ?_ ?_
      ·
        exact sv_vret jM24 c24_131 rfl rfl
      ·
        refine (sv_aload_n jM24 c24_73 rfl rfl).trans ?_
        refine (sv_getf jM24 c24_74 rfl lf_4_15 (fg_6_1 _)).trans ?_
        refine (sv_aload_n jM24 c24_77 rfl rfl).trans ?_
        refine (sv_getf jM24 c24_78 rfl lf_4_22 (fg_6_3 _)).trans ?_
        refine (sv_dup2 jM24 c24_81 rfl ⟨rfl, rfl⟩).trans ?_
        refine (sv_iald jM24 c24_82 rfl (ia_8 _)).trans ?_
        refine jif _ rfl ?_
        refine (sv_iconst jM24 c24_83 rfl (v := 1) (by decide +kernel)).trans ?_
        refine (sv_iadd jM24 c24_84 rfl).trans ?_
        refine (sv_iast jM24 c24_85 rfl wi_8).trans ?_
        refine jif _ rfl ?_
        refine (sv_goto jM24 c24_86 rfl (t := 131) (by decide +kernel)).trans ?_
        exact sv_vret jM24 c24_131 rfl rfl
  ·
    refine (sv_aload_n jM24 c24_9 rfl rfl).trans ?_
    refine (sv_iconst jM24 c24_10 rfl (v := 2) (by decide +kernel)).trans ?_
    refine (sv_iconst jM24 c24_11 rfl (v := 0) (by decide +kernel)).trans ?_
    refine (sv_bipush jM24 c24_12 rfl (v := 99) (by decide +kernel)).trans ?_
    refine (sv_callvi (pl := 0) jM24 c24_14 rfl (jm_call_v (a := 44) (as := [(.int (2 : Int32)), (.int (0 : Int32)), (.int (99 : Int32))]) (rest := []) lm_4_61 rfl jM26 rfl rfl rfl rfl rfl) jM26 rfl (Or.inl rfl)).trans ?_
    refine jbi_c (fun r8 τ8 => ?_)
    refine (sv_istore_n (ls1 := [some (.ref 6), some (.ref 44), some (.int r8), none]) jM24 c24_17 rfl (Nat.lt_of_lt_of_eq (by decide +kernel : 2 < 4) rfl) rfl).trans ?_
    refine (sv_aload_n jM24 c24_18 rfl rfl).trans ?_
    refine (sv_bipush jM24 c24_19 rfl (v := 120) (by decide +kernel)).trans ?_
    refine (sv_callvv (pl := 0) jM24 c24_21 rfl (jm_call_v (a := 44) (as := [(.int (120 : Int32))]) (rest := []) lm_4_65 rfl jM28 rfl rfl rfl rfl rfl) jM28 rfl rfl).trans ?_
    refine jbv_c (fun τ9 => ?_)
    refine (sv_aload_n jM24 c24_24 rfl rfl).trans ?_
    refine (sv_iconst jM24 c24_25 rfl (v := 2) (by decide +kernel)).trans ?_
    refine (sv_iconst jM24 c24_26 rfl (v := 1) (by decide +kernel)).trans ?_
    refine (sv_bipush jM24 c24_27 rfl (v := 99) (by decide +kernel)).trans ?_
    refine (sv_callvi (pl := 0) jM24 c24_29 rfl (jm_call_v (a := 44) (as := [(.int (2 : Int32)), (.int (1 : Int32)), (.int (99 : Int32))]) (rest := []) lm_4_61 rfl jM26 rfl rfl rfl rfl rfl) jM26 rfl (Or.inl rfl)).trans ?_
    refine jbi_c (fun r10 τ10 => ?_)
    refine (sv_istore_n (ls1 := [some (.ref 6), some (.ref 44), some (.int r8), some (.int r10)]) jM24 c24_32 rfl (Nat.lt_of_lt_of_eq (by decide +kernel : 3 < 4) rfl) rfl).trans ?_
    refine (sv_aload_n jM24 c24_33 rfl rfl).trans ?_
    refine (sv_iload_n jM24 c24_34 rfl rfl).trans ?_
    refine (sv_aload_n jM24 c24_35 rfl rfl).trans ?_
    refine (sv_getf jM24 c24_36 rfl lf_4_45 (fg_44_3 _)).trans ?_
    refine (sv_iconst jM24 c24_39 rfl (v := -1) (by decide +kernel)).trans ?_
    refine (sv_icmp_ne jM24 c24_40 rfl (t := 47) (by decide +kernel)).trans ?_
    refine jif _ ?_ ?_
    ·
      refine (sv_iconst jM24 c24_47 rfl (v := 0) (by decide +kernel)).trans ?_
      refine (sv_callvv (pl := 0) jM24 c24_48 rfl (jm_call_v (a := 6) (as := [(.int r8), (.int (0 : Int32))]) (rest := []) lm_4_69 rfl jM29 rfl rfl rfl rfl rfl) jM29 rfl rfl).trans ?_
      refine jbv_c (fun τ11 => ?_)
      refine (sv_goto jM24 c24_51 rfl (t := 131) (by decide +kernel)).trans ?_
      exact sv_vret jM24 c24_131 rfl rfl
    ·
      refine (sv_iload_n jM24 c24_43 rfl rfl).trans ?_
      refine (sv_goto jM24 c24_44 rfl (t := 48) (by decide +kernel)).trans ?_
      refine (sv_callvv (pl := 0) jM24 c24_48 rfl (jm_call_v (a := 6) (as := [(.int r8), (.int r10)]) (rest := []) lm_4_69 rfl jM29 rfl rfl rfl rfl rfl) jM29 rfl rfl).trans ?_
      refine jbv_c (fun τ12 => ?_)
      refine (sv_goto jM24 c24_51 rfl (t := 131) (by decide +kernel)).trans ?_
      exact sv_vret jM24 c24_131 rfl rfl
set_option maxRecDepth 20000 in
set_option maxHeartbeats 4000000 in
theorem Text_goesOnBehind_42_in (x1 : Int32) (σ : jm_S) : jc 30 [(.ref 42), (.int x1)] σ = (if ¬ (σ 42 3) = (-1 : Int32) then some (some (.int (0 : Int32)), σ) else (if (σ 42 2) < (σ 42 1) then jbv (jc 28 [(.ref 42), (.int x1)] σ) (fun τ1 => (if ¬ (τ1 42 3) = (-1 : Int32) then some (some (.int (0 : Int32)), τ1) else some (some (.int (1 : Int32)), τ1))) else some (some (.int (0 : Int32)), σ))) := by
  refine (jc_of (ls1 := [some (.ref 42), some (.int x1)]) ((jm_ini_of jM30).trans rfl)).trans ?_
  refine (sv_aload_n jM30 c30_0 rfl rfl).trans ?_
  refine (sv_getf jM30 c30_1 rfl lf_7_18 (fg_42_3 _)).trans ?_
  refine (sv_iconst jM30 c30_4 rfl (v := -1) (by decide +kernel)).trans ?_
  refine (sv_icmp_ne jM30 c30_5 rfl (t := 19) (by decide +kernel)).trans ?_
  refine jif _ ?_ ?_
  ·
    refine (sv_iconst jM30 c30_19 rfl (v := 0) (by decide +kernel)).trans ?_
    exact sv_zret jM30 c30_20 rfl rfl (by decide +kernel)
  ·
    refine (sv_aload_n jM30 c30_8 rfl rfl).trans ?_
    refine (sv_getf jM30 c30_9 rfl lf_7_15 (fg_42_2 _)).trans ?_
    refine (sv_aload_n jM30 c30_12 rfl rfl).trans ?_
    refine (sv_getf jM30 c30_13 rfl lf_7_9 (fg_42_1 _)).trans ?_
    refine (sv_icmp_lt jM30 c30_16 rfl (t := 21) (by decide +kernel)).trans ?_
    refine jif _ ?_ ?_
    ·
      refine (sv_aload_n jM30 c30_21 rfl rfl).trans ?_
      refine (sv_iload_n jM30 c30_22 rfl rfl).trans ?_
      refine (sv_callvv (pl := 0) jM30 c30_23 rfl (jm_call_v (a := 42) (as := [(.int x1)]) (rest := []) lm_7_33 rfl jM28 rfl rfl rfl rfl rfl) jM28 rfl rfl).trans ?_
      refine jbv_c (fun τ1 => ?_)
      refine (sv_aload_n jM30 c30_26 rfl rfl).trans ?_
      refine (sv_getf jM30 c30_27 rfl lf_7_18 (fg_42_3 _)).trans ?_
      refine (sv_iconst jM30 c30_30 rfl (v := -1) (by decide +kernel)).trans ?_
      refine (sv_icmp_ne jM30 c30_31 rfl (t := 38) (by decide +kernel)).trans ?_
      refine jif _ ?_ ?_
      ·
        refine (sv_iconst jM30 c30_38 rfl (v := 0) (by decide +kernel)).trans ?_
        exact sv_zret jM30 c30_39 rfl rfl (by decide +kernel)
      ·
        refine (sv_iconst jM30 c30_34 rfl (v := 1) (by decide +kernel)).trans ?_
        refine (sv_goto jM30 c30_35 rfl (t := 39) (by decide +kernel)).trans ?_
        exact sv_zret jM30 c30_39 rfl rfl (by decide +kernel)
    ·
      refine (sv_iconst jM30 c30_19 rfl (v := 0) (by decide +kernel)).trans ?_
      exact sv_zret jM30 c30_20 rfl rfl (by decide +kernel)
set_option maxRecDepth 20000 in
set_option maxHeartbeats 4000000 in
theorem Text_rewind_42_in (σ : jm_S) : jc 23 [(.ref 42)] σ = some (none, (jm_up (jm_up σ 42 2 (0 : Int32)) 42 3 (-1 : Int32))) := by
  refine (jc_of (ls1 := [some (.ref 42)]) ((jm_ini_of jM23).trans rfl)).trans ?_
  refine (sv_aload_n jM23 c23_0 rfl rfl).trans ?_
  refine (sv_iconst jM23 c23_1 rfl (v := 0) (by decide +kernel)).trans ?_
  refine (sv_putf jM23 c23_2 rfl lf_7_15 (pf_42_2 _ _)).trans ?_
  refine (sv_aload_n jM23 c23_5 rfl rfl).trans ?_
  refine (sv_iconst jM23 c23_6 rfl (v := -1) (by decide +kernel)).trans ?_
  refine (sv_putf jM23 c23_7 rfl lf_7_18 (pf_42_3 _ _)).trans ?_
  exact sv_vret jM23 c23_10 rfl rfl
set_option maxRecDepth 20000 in
set_option maxHeartbeats 4000000 in
theorem Rule_addCondition_52_42_in (σ : jm_S) : jc 32 [(.ref 52), (.ref 42)] σ = jbi (jc 25 [(.ref 42), (.int (103 : Int32))] σ) (fun r1 τ1 => (if r1 = 0 then jbi (jc 25 [(.ref 42), (.int (110 : Int32))] τ1) (fun r2 τ2 => (if r2 = 0 then jbi (jc 25 [(.ref 42), (.int (116 : Int32))] τ2) (fun r3 τ3 => (if r3 = 0 then jbv (jc 27 [(.ref 42), (.int (τ3 42 2))] τ3) (fun τ4 => some (none, τ4)) else jbi (jc 26 [(.ref 42), (.int (3 : Int32)), (.int (1 : Int32)), (.int (200 : Int32))] τ3) (fun r5 τ5 => some (none, (jm_up τ5 52 2 (if r5 < (τ3 52 2) then r5 else (τ3 52 2))))))) else jbi (jc 26 [(.ref 42), (.int (2 : Int32)), (.int (1 : Int32)), (.int (99 : Int32))] τ2) (fun r6 τ6 => some (none, (jm_up τ6 52 1 (if r6 < (τ2 52 1) then r6 else (τ2 52 1))))))) else jbi (jc 26 [(.ref 42), (.int (2 : Int32)), (.int (1 : Int32)), (.int (99 : Int32))] τ1) (fun r7 τ7 => some (none, (jm_up τ7 52 0 (if r7 < (τ1 52 0) then r7 else (τ1 52 0))))))) := by
  refine (jc_of (ls1 := [some (.ref 52), some (.ref 42)]) ((jm_ini_of jM32).trans rfl)).trans ?_
  refine (sv_aload_n jM32 c32_0 rfl rfl).trans ?_
  refine (sv_bipush jM32 c32_1 rfl (v := 103) (by decide +kernel)).trans ?_
  refine (sv_callvi (pl := 0) jM32 c32_3 rfl (jm_call_v (a := 42) (as := [(.int (103 : Int32))]) (rest := []) lm_5_37 rfl jM25 rfl rfl rfl rfl rfl) jM25 rfl (Or.inr rfl)).trans ?_
  refine jbi_c (fun r1 τ1 => ?_)
  refine (sv_if_eq jM32 c32_6 rfl (t := 31) (by decide +kernel)).trans ?_
  refine jif _ ?_ ?_
  ·
    refine (sv_aload_n jM32 c32_31 rfl rfl).trans ?_
    refine (sv_bipush jM32 c32_32 rfl (v := 110) (by decide +kernel)).trans ?_
    refine (sv_callvi (pl := 0) jM32 c32_34 rfl (jm_call_v (a := 42) (as := [(.int (110 : Int32))]) (rest := []) lm_5_37 rfl jM25 rfl rfl rfl rfl rfl) jM25 rfl (Or.inr rfl)).trans ?_
    refine jbi_c (fun r2 τ2 => ?_)
    refine (sv_if_eq jM32 c32_37 rfl (t := 62) (by decide +kernel)).trans ?_
    refine jif _ ?_ ?_
    ·
      refine (sv_aload_n jM32 c32_62 rfl rfl).trans ?_
      refine (sv_bipush jM32 c32_63 rfl (v := 116) (by decide +kernel)).trans ?_
      refine (sv_callvi (pl := 0) jM32 c32_65 rfl (jm_call_v (a := 42) (as := [(.int (116 : Int32))]) (rest := []) lm_5_37 rfl jM25 rfl rfl rfl rfl rfl) jM25 rfl (Or.inr rfl)).trans ?_
      refine jbi_c (fun r3 τ3 => ?_)
      refine (sv_if_eq jM32 c32_68 rfl (t := 94) (by decide +kernel)).trans ?_
      refine jif _ ?_ ?_
      ·
        refine (sv_aload_n jM32 c32_94 rfl rfl).trans ?_
        refine (sv_aload_n jM32 c32_95 rfl rfl).trans ?_
        refine (sv_getf jM32 c32_96 rfl lf_5_50 (fg_42_2 _)).trans ?_
        refine (sv_callvv (pl := 0) jM32 c32_99 rfl (jm_call_v (a := 42) (as := [(.int (τ3 42 2))]) (rest := []) lm_5_53 rfl jM27 rfl rfl rfl rfl rfl) jM27 rfl rfl).trans ?_
        refine jbv_c (fun τ4 => ?_)
        exact sv_vret jM32 c32_102 rfl rfl
      ·
        refine (sv_aload_n jM32 c32_71 rfl rfl).trans ?_
        refine (sv_aload_n jM32 c32_72 rfl rfl).trans ?_
        refine (sv_getf jM32 c32_73 rfl lf_5_18 (fg_52_2 _)).trans ?_
        refine (sv_aload_n jM32 c32_76 rfl rfl).trans ?_
        refine (sv_iconst jM32 c32_77 rfl (v := 3) (by decide +kernel)).trans ?_
        refine (sv_iconst jM32 c32_78 rfl (v := 1) (by decide +kernel)).trans ?_
        refine (sv_sipush jM32 c32_79 rfl (v := 200) (by decide +kernel)).trans ?_
        refine (sv_callvi (pl := 0) jM32 c32_82 rfl (jm_call_v (a := 42) (as := [(.int (3 : Int32)), (.int (1 : Int32)), (.int (200 : Int32))]) (rest := [(.int (τ3 52 2)), (.ref 52)]) lm_5_40 rfl jM26 rfl rfl rfl rfl rfl) jM26 rfl (Or.inl rfl)).trans ?_
        refine jbi_c (fun r5 τ5 => ?_)
        refine (sv_min jM32 c32_85 rfl lm_5_44 (Nat.not_lt.mpr (Nat.le_of_ble_eq_true rfl))).trans ?_
        refine (sv_putf jM32 c32_88 rfl lf_5_18 (pf_52_2 _ _)).trans ?_
        refine (sv_goto jM32 c32_91 rfl (t := 102) (by decide +kernel)).trans ?_
        exact sv_vret jM32 c32_102 rfl rfl
    ·
      refine (sv_aload_n jM32 c32_40 rfl rfl).trans ?_
      refine (sv_aload_n jM32 c32_41 rfl rfl).trans ?_
      refine (sv_getf jM32 c32_42 rfl lf_5_15 (fg_52_1 _)).trans ?_
      refine (sv_aload_n jM32 c32_45 rfl rfl).trans ?_
      refine (sv_iconst jM32 c32_46 rfl (v := 2) (by decide +kernel)).trans ?_
      refine (sv_iconst jM32 c32_47 rfl (v := 1) (by decide +kernel)).trans ?_
      refine (sv_bipush jM32 c32_48 rfl (v := 99) (by decide +kernel)).trans ?_
      refine (sv_callvi (pl := 0) jM32 c32_50 rfl (jm_call_v (a := 42) (as := [(.int (2 : Int32)), (.int (1 : Int32)), (.int (99 : Int32))]) (rest := [(.int (τ2 52 1)), (.ref 52)]) lm_5_40 rfl jM26 rfl rfl rfl rfl rfl) jM26 rfl (Or.inl rfl)).trans ?_
      refine jbi_c (fun r6 τ6 => ?_)
      refine (sv_min jM32 c32_53 rfl lm_5_44 (Nat.not_lt.mpr (Nat.le_of_ble_eq_true rfl))).trans ?_
      refine (sv_putf jM32 c32_56 rfl lf_5_15 (pf_52_1 _ _)).trans ?_
      refine (sv_goto jM32 c32_59 rfl (t := 102) (by decide +kernel)).trans ?_
      exact sv_vret jM32 c32_102 rfl rfl
  ·
    refine (sv_aload_n jM32 c32_9 rfl rfl).trans ?_
    refine (sv_aload_n jM32 c32_10 rfl rfl).trans ?_
    refine (sv_getf jM32 c32_11 rfl lf_5_11 (fg_52_0 _)).trans ?_
    refine (sv_aload_n jM32 c32_14 rfl rfl).trans ?_
    refine (sv_iconst jM32 c32_15 rfl (v := 2) (by decide +kernel)).trans ?_
    refine (sv_iconst jM32 c32_16 rfl (v := 1) (by decide +kernel)).trans ?_
    refine (sv_bipush jM32 c32_17 rfl (v := 99) (by decide +kernel)).trans ?_
    refine (sv_callvi (pl := 0) jM32 c32_19 rfl (jm_call_v (a := 42) (as := [(.int (2 : Int32)), (.int (1 : Int32)), (.int (99 : Int32))]) (rest := [(.int (τ1 52 0)), (.ref 52)]) lm_5_40 rfl jM26 rfl rfl rfl rfl rfl) jM26 rfl (Or.inl rfl)).trans ?_
    refine jbi_c (fun r7 τ7 => ?_)
    refine (sv_min jM32 c32_22 rfl lm_5_44 (Nat.not_lt.mpr (Nat.le_of_ble_eq_true rfl))).trans ?_
    refine (sv_putf jM32 c32_25 rfl lf_5_11 (pf_52_0 _ _)).trans ?_
    refine (sv_goto jM32 c32_28 rfl (t := 102) (by decide +kernel)).trans ?_
    exact sv_vret jM32 c32_102 rfl rfl
set_option maxRecDepth 20000 in
set_option maxHeartbeats 4000000 in
theorem Rule_addCondition_49_50_in (σ : jm_S) : jc 32 [(.ref 49), (.ref 50)] σ = jbi (jc 25 [(.ref 50), (.int (103 : Int32))] σ) (fun r1 τ1 => (if r1 = 0 then jbi (jc 25 [(.ref 50), (.int (110 : Int32))] τ1) (fun r2 τ2 => (if r2 = 0 then jbi (jc 25 [(.ref 50), (.int (116 : Int32))] τ2) (fun r3 τ3 => (if r3 = 0 then jbv (jc 27 [(.ref 50), (.int (τ3 50 2))] τ3) (fun τ4 => some (none, τ4)) else jbi (jc 26 [(.ref 50), (.int (3 : Int32)), (.int (1 : Int32)), (.int (200 : Int32))] τ3) (fun r5 τ5 => some (none, (jm_up τ5 49 2 (if r5 < (τ3 49 2) then r5 else (τ3 49 2))))))) else jbi (jc 26 [(.ref 50), (.int (2 : Int32)), (.int (1 : Int32)), (.int (99 : Int32))] τ2) (fun r6 τ6 => some (none, (jm_up τ6 49 1 (if r6 < (τ2 49 1) then r6 else (τ2 49 1))))))) else jbi (jc 26 [(.ref 50), (.int (2 : Int32)), (.int (1 : Int32)), (.int (99 : Int32))] τ1) (fun r7 τ7 => some (none, (jm_up τ7 49 0 (if r7 < (τ1 49 0) then r7 else (τ1 49 0))))))) := by
  refine (jc_of (ls1 := [some (.ref 49), some (.ref 50)]) ((jm_ini_of jM32).trans rfl)).trans ?_
  refine (sv_aload_n jM32 c32_0 rfl rfl).trans ?_
  refine (sv_bipush jM32 c32_1 rfl (v := 103) (by decide +kernel)).trans ?_
  refine (sv_callvi (pl := 0) jM32 c32_3 rfl (jm_call_v (a := 50) (as := [(.int (103 : Int32))]) (rest := []) lm_5_37 rfl jM25 rfl rfl rfl rfl rfl) jM25 rfl (Or.inr rfl)).trans ?_
  refine jbi_c (fun r1 τ1 => ?_)
  refine (sv_if_eq jM32 c32_6 rfl (t := 31) (by decide +kernel)).trans ?_
  refine jif _ ?_ ?_
  ·
    refine (sv_aload_n jM32 c32_31 rfl rfl).trans ?_
    refine (sv_bipush jM32 c32_32 rfl (v := 110) (by decide +kernel)).trans ?_
    refine (sv_callvi (pl := 0) jM32 c32_34 rfl (jm_call_v (a := 50) (as := [(.int (110 : Int32))]) (rest := []) lm_5_37 rfl jM25 rfl rfl rfl rfl rfl) jM25 rfl (Or.inr rfl)).trans ?_
    refine jbi_c (fun r2 τ2 => ?_)
    refine (sv_if_eq jM32 c32_37 rfl (t := 62) (by decide +kernel)).trans ?_
    refine jif _ ?_ ?_
    ·
      refine (sv_aload_n jM32 c32_62 rfl rfl).trans ?_
      refine (sv_bipush jM32 c32_63 rfl (v := 116) (by decide +kernel)).trans ?_
      refine (sv_callvi (pl := 0) jM32 c32_65 rfl (jm_call_v (a := 50) (as := [(.int (116 : Int32))]) (rest := []) lm_5_37 rfl jM25 rfl rfl rfl rfl rfl) jM25 rfl (Or.inr rfl)).trans ?_
      refine jbi_c (fun r3 τ3 => ?_)
      refine (sv_if_eq jM32 c32_68 rfl (t := 94) (by decide +kernel)).trans ?_
      refine jif _ ?_ ?_
      ·
        refine (sv_aload_n jM32 c32_94 rfl rfl).trans ?_
        refine (sv_aload_n jM32 c32_95 rfl rfl).trans ?_
        refine (sv_getf jM32 c32_96 rfl lf_5_50 (fg_50_2 _)).trans ?_
        refine (sv_callvv (pl := 0) jM32 c32_99 rfl (jm_call_v (a := 50) (as := [(.int (τ3 50 2))]) (rest := []) lm_5_53 rfl jM27 rfl rfl rfl rfl rfl) jM27 rfl rfl).trans ?_
        refine jbv_c (fun τ4 => ?_)
        exact sv_vret jM32 c32_102 rfl rfl
      ·
        refine (sv_aload_n jM32 c32_71 rfl rfl).trans ?_
        refine (sv_aload_n jM32 c32_72 rfl rfl).trans ?_
        refine (sv_getf jM32 c32_73 rfl lf_5_18 (fg_49_2 _)).trans ?_
        refine (sv_aload_n jM32 c32_76 rfl rfl).trans ?_
        refine (sv_iconst jM32 c32_77 rfl (v := 3) (by decide +kernel)).trans ?_
        refine (sv_iconst jM32 c32_78 rfl (v := 1) (by decide +kernel)).trans ?_
        refine (sv_sipush jM32 c32_79 rfl (v := 200) (by decide +kernel)).trans ?_
        refine (sv_callvi (pl := 0) jM32 c32_82 rfl (jm_call_v (a := 50) (as := [(.int (3 : Int32)), (.int (1 : Int32)), (.int (200 : Int32))]) (rest := [(.int (τ3 49 2)), (.ref 49)]) lm_5_40 rfl jM26 rfl rfl rfl rfl rfl) jM26 rfl (Or.inl rfl)).trans ?_
        refine jbi_c (fun r5 τ5 => ?_)
        refine (sv_min jM32 c32_85 rfl lm_5_44 (Nat.not_lt.mpr (Nat.le_of_ble_eq_true rfl))).trans ?_
        refine (sv_putf jM32 c32_88 rfl lf_5_18 (pf_49_2 _ _)).trans ?_
        refine (sv_goto jM32 c32_91 rfl (t := 102) (by decide +kernel)).trans ?_
        exact sv_vret jM32 c32_102 rfl rfl
    ·
      refine (sv_aload_n jM32 c32_40 rfl rfl).trans ?_
      refine (sv_aload_n jM32 c32_41 rfl rfl).trans ?_
      refine (sv_getf jM32 c32_42 rfl lf_5_15 (fg_49_1 _)).trans ?_
      refine (sv_aload_n jM32 c32_45 rfl rfl).trans ?_
      refine (sv_iconst jM32 c32_46 rfl (v := 2) (by decide +kernel)).trans ?_
      refine (sv_iconst jM32 c32_47 rfl (v := 1) (by decide +kernel)).trans ?_
      refine (sv_bipush jM32 c32_48 rfl (v := 99) (by decide +kernel)).trans ?_
      refine (sv_callvi (pl := 0) jM32 c32_50 rfl (jm_call_v (a := 50) (as := [(.int (2 : Int32)), (.int (1 : Int32)), (.int (99 : Int32))]) (rest := [(.int (τ2 49 1)), (.ref 49)]) lm_5_40 rfl jM26 rfl rfl rfl rfl rfl) jM26 rfl (Or.inl rfl)).trans ?_
      refine jbi_c (fun r6 τ6 => ?_)
      refine (sv_min jM32 c32_53 rfl lm_5_44 (Nat.not_lt.mpr (Nat.le_of_ble_eq_true rfl))).trans ?_
      refine (sv_putf jM32 c32_56 rfl lf_5_15 (pf_49_1 _ _)).trans ?_
      refine (sv_goto jM32 c32_59 rfl (t := 102) (by decide +kernel)).trans ?_
      exact sv_vret jM32 c32_102 rfl rfl
  ·
    refine (sv_aload_n jM32 c32_9 rfl rfl).trans ?_
    refine (sv_aload_n jM32 c32_10 rfl rfl).trans ?_
    refine (sv_getf jM32 c32_11 rfl lf_5_11 (fg_49_0 _)).trans ?_
    refine (sv_aload_n jM32 c32_14 rfl rfl).trans ?_
    refine (sv_iconst jM32 c32_15 rfl (v := 2) (by decide +kernel)).trans ?_
    refine (sv_iconst jM32 c32_16 rfl (v := 1) (by decide +kernel)).trans ?_
    refine (sv_bipush jM32 c32_17 rfl (v := 99) (by decide +kernel)).trans ?_
    refine (sv_callvi (pl := 0) jM32 c32_19 rfl (jm_call_v (a := 50) (as := [(.int (2 : Int32)), (.int (1 : Int32)), (.int (99 : Int32))]) (rest := [(.int (τ1 49 0)), (.ref 49)]) lm_5_40 rfl jM26 rfl rfl rfl rfl rfl) jM26 rfl (Or.inl rfl)).trans ?_
    refine jbi_c (fun r7 τ7 => ?_)
    refine (sv_min jM32 c32_22 rfl lm_5_44 (Nat.not_lt.mpr (Nat.le_of_ble_eq_true rfl))).trans ?_
    refine (sv_putf jM32 c32_25 rfl lf_5_11 (pf_49_0 _ _)).trans ?_
    refine (sv_goto jM32 c32_28 rfl (t := 102) (by decide +kernel)).trans ?_
    exact sv_vret jM32 c32_102 rfl rfl
set_option maxRecDepth 20000 in
set_option maxHeartbeats 4000000 in
theorem Heating_addPart_42_in (σ : jm_S) : jc 24 [(.ref 6), (.ref 42)] σ = jbi (jc 25 [(.ref 42), (.int (104 : Int32))] σ) (fun r1 τ1 => (if r1 = 0 then jbi (jc 25 [(.ref 42), (.int (115 : Int32))] τ1) (fun r2 τ2 => (if r2 = 0 then jbi (jc 25 [(.ref 42), (.int (108 : Int32))] τ2) (fun r3 τ3 => (if r3 = 0 then jbi (jc 25 [(.ref 42), (.int (111 : Int32))] τ3) (fun r4 τ4 => (if r4 = 0 then jbv (jc 27 [(.ref 42), (.int (τ4 42 2))] τ4) (fun τ5 => some (none, τ5)) else jbv (jc 22 [(.ref 6), (.int (0 : Int32))] τ4) (fun τ6 => some (none, τ6)))) else jbv (jc 22 [(.ref 6), (.int (1 : Int32))] τ3) (fun τ7 => some (none, τ7)))) else (if (200 : Int32) ≤ (τ2 6 3) then some (none, τ2) else (if (τ2 6 3) < 0 ∨ 200 ≤ (τ2 6 3).toNatClampNeg then none else (if (τ2 6 3) < 0 ∨ 200 ≤ (τ2 6 3).toNatClampNeg then none else some (none, (jm_up τ2 8 (τ2 6 3).toNatClampNeg ((τ2 8 (τ2 6 3).toNatClampNeg) + (1 : Int32))))))))) else jbi (jc 26 [(.ref 42), (.int (2 : Int32)), (.int (0 : Int32)), (.int (99 : Int32))] τ1) (fun r8 τ8 => jbv (jc 28 [(.ref 42), (.int (120 : Int32))] τ8) (fun τ9 => jbi (jc 26 [(.ref 42), (.int (2 : Int32)), (.int (1 : Int32)), (.int (99 : Int32))] τ9) (fun r10 τ10 => (if ¬ (τ10 42 3) = (-1 : Int32) then jbv (jc 29 [(.ref 6), (.int r8), (.int (0 : Int32))] τ10) (fun τ11 => some (none, τ11)) else jbv (jc 29 [(.ref 6), (.int r8), (.int r10)] τ10) (fun τ12 => some (none, τ12)))))))) := by
  refine (jc_of (ls1 := [some (.ref 6), some (.ref 42), none, none]) ((jm_ini_of jM24).trans rfl)).trans ?_
  refine (sv_aload_n jM24 c24_0 rfl rfl).trans ?_
  refine (sv_bipush jM24 c24_1 rfl (v := 104) (by decide +kernel)).trans ?_
  refine (sv_callvi (pl := 0) jM24 c24_3 rfl (jm_call_v (a := 42) (as := [(.int (104 : Int32))]) (rest := []) lm_4_58 rfl jM25 rfl rfl rfl rfl rfl) jM25 rfl (Or.inr rfl)).trans ?_
  refine jbi_c (fun r1 τ1 => ?_)
  refine (sv_if_eq jM24 c24_6 rfl (t := 54) (by decide +kernel)).trans ?_
  refine jif _ ?_ ?_
  ·
    refine (sv_aload_n jM24 c24_54 rfl rfl).trans ?_
    refine (sv_bipush jM24 c24_55 rfl (v := 115) (by decide +kernel)).trans ?_
    refine (sv_callvi (pl := 0) jM24 c24_57 rfl (jm_call_v (a := 42) (as := [(.int (115 : Int32))]) (rest := []) lm_4_58 rfl jM25 rfl rfl rfl rfl rfl) jM25 rfl (Or.inr rfl)).trans ?_
    refine jbi_c (fun r2 τ2 => ?_)
    refine (sv_if_eq jM24 c24_60 rfl (t := 89) (by decide +kernel)).trans ?_
    refine jif _ ?_ ?_
    ·
      refine (sv_aload_n jM24 c24_89 rfl rfl).trans ?_
      refine (sv_bipush jM24 c24_90 rfl (v := 108) (by decide +kernel)).trans ?_
      refine (sv_callvi (pl := 0) jM24 c24_92 rfl (jm_call_v (a := 42) (as := [(.int (108 : Int32))]) (rest := []) lm_4_58 rfl jM25 rfl rfl rfl rfl rfl) jM25 rfl (Or.inr rfl)).trans ?_
      refine jbi_c (fun r3 τ3 => ?_)
      refine (sv_if_eq jM24 c24_95 rfl (t := 106) (by decide +kernel)).trans ?_
      refine jif _ ?_ ?_
      ·
        refine (sv_aload_n jM24 c24_106 rfl rfl).trans ?_
        refine (sv_bipush jM24 c24_107 rfl (v := 111) (by decide +kernel)).trans ?_
        refine (sv_callvi (pl := 0) jM24 c24_109 rfl (jm_call_v (a := 42) (as := [(.int (111 : Int32))]) (rest := []) lm_4_58 rfl jM25 rfl rfl rfl rfl rfl) jM25 rfl (Or.inr rfl)).trans ?_
        refine jbi_c (fun r4 τ4 => ?_)
        refine (sv_if_eq jM24 c24_112 rfl (t := 123) (by decide +kernel)).trans ?_
        refine jif _ ?_ ?_
        ·
          refine (sv_aload_n jM24 c24_123 rfl rfl).trans ?_
          refine (sv_aload_n jM24 c24_124 rfl rfl).trans ?_
          refine (sv_getf jM24 c24_125 rfl lf_4_73 (fg_42_2 _)).trans ?_
          refine (sv_callvv (pl := 0) jM24 c24_128 rfl (jm_call_v (a := 42) (as := [(.int (τ4 42 2))]) (rest := []) lm_4_76 rfl jM27 rfl rfl rfl rfl rfl) jM27 rfl rfl).trans ?_
          refine jbv_c (fun τ5 => ?_)
          exact sv_vret jM24 c24_131 rfl rfl
        ·
          refine (sv_aload_n jM24 c24_115 rfl rfl).trans ?_
          refine (sv_iconst jM24 c24_116 rfl (v := 0) (by decide +kernel)).trans ?_
          refine (sv_callvv (pl := 0) jM24 c24_117 rfl (jm_call_v (a := 6) (as := [(.int (0 : Int32))]) (rest := []) lm_4_54 rfl jM22 rfl rfl rfl rfl rfl) jM22 rfl rfl).trans ?_
          refine jbv_c (fun τ6 => ?_)
          refine (sv_goto jM24 c24_120 rfl (t := 131) (by decide +kernel)).trans ?_
          exact sv_vret jM24 c24_131 rfl rfl
      ·
        refine (sv_aload_n jM24 c24_98 rfl rfl).trans ?_
        refine (sv_iconst jM24 c24_99 rfl (v := 1) (by decide +kernel)).trans ?_
        refine (sv_callvv (pl := 0) jM24 c24_100 rfl (jm_call_v (a := 6) (as := [(.int (1 : Int32))]) (rest := []) lm_4_54 rfl jM22 rfl rfl rfl rfl rfl) jM22 rfl rfl).trans ?_
        refine jbv_c (fun τ7 => ?_)
        refine (sv_goto jM24 c24_103 rfl (t := 131) (by decide +kernel)).trans ?_
        exact sv_vret jM24 c24_131 rfl rfl
    ·
      refine (sv_aload_n jM24 c24_63 rfl rfl).trans ?_
      refine (sv_getf jM24 c24_64 rfl lf_4_22 (fg_6_3 _)).trans ?_
      refine (sv_sipush jM24 c24_67 rfl (v := 200) (by decide +kernel)).trans ?_
      refine (sv_icmp_ge jM24 c24_70 rfl (t := 131) (by decide +kernel)).trans ?_
      refine jif _ ?_ ?_
      ·
        exact sv_vret jM24 c24_131 rfl rfl
      ·
        refine (sv_aload_n jM24 c24_73 rfl rfl).trans ?_
        refine (sv_getf jM24 c24_74 rfl lf_4_15 (fg_6_1 _)).trans ?_
        refine (sv_aload_n jM24 c24_77 rfl rfl).trans ?_
        refine (sv_getf jM24 c24_78 rfl lf_4_22 (fg_6_3 _)).trans ?_
        refine (sv_dup2 jM24 c24_81 rfl ⟨rfl, rfl⟩).trans ?_
        refine (sv_iald jM24 c24_82 rfl (ia_8 _)).trans ?_
        refine jif _ rfl ?_
        refine (sv_iconst jM24 c24_83 rfl (v := 1) (by decide +kernel)).trans ?_
        refine (sv_iadd jM24 c24_84 rfl).trans ?_
        refine (sv_iast jM24 c24_85 rfl wi_8).trans ?_
        refine jif _ rfl ?_
        refine (sv_goto jM24 c24_86 rfl (t := 131) (by decide +kernel)).trans ?_
        exact sv_vret jM24 c24_131 rfl rfl
  ·
    refine (sv_aload_n jM24 c24_9 rfl rfl).trans ?_
    refine (sv_iconst jM24 c24_10 rfl (v := 2) (by decide +kernel)).trans ?_
    refine (sv_iconst jM24 c24_11 rfl (v := 0) (by decide +kernel)).trans ?_
    refine (sv_bipush jM24 c24_12 rfl (v := 99) (by decide +kernel)).trans ?_
    refine (sv_callvi (pl := 0) jM24 c24_14 rfl (jm_call_v (a := 42) (as := [(.int (2 : Int32)), (.int (0 : Int32)), (.int (99 : Int32))]) (rest := []) lm_4_61 rfl jM26 rfl rfl rfl rfl rfl) jM26 rfl (Or.inl rfl)).trans ?_
    refine jbi_c (fun r8 τ8 => ?_)
    refine (sv_istore_n (ls1 := [some (.ref 6), some (.ref 42), some (.int r8), none]) jM24 c24_17 rfl (Nat.lt_of_lt_of_eq (by decide +kernel : 2 < 4) rfl) rfl).trans ?_
    refine (sv_aload_n jM24 c24_18 rfl rfl).trans ?_
    refine (sv_bipush jM24 c24_19 rfl (v := 120) (by decide +kernel)).trans ?_
    refine (sv_callvv (pl := 0) jM24 c24_21 rfl (jm_call_v (a := 42) (as := [(.int (120 : Int32))]) (rest := []) lm_4_65 rfl jM28 rfl rfl rfl rfl rfl) jM28 rfl rfl).trans ?_
    refine jbv_c (fun τ9 => ?_)
    refine (sv_aload_n jM24 c24_24 rfl rfl).trans ?_
    refine (sv_iconst jM24 c24_25 rfl (v := 2) (by decide +kernel)).trans ?_
    refine (sv_iconst jM24 c24_26 rfl (v := 1) (by decide +kernel)).trans ?_
    refine (sv_bipush jM24 c24_27 rfl (v := 99) (by decide +kernel)).trans ?_
    refine (sv_callvi (pl := 0) jM24 c24_29 rfl (jm_call_v (a := 42) (as := [(.int (2 : Int32)), (.int (1 : Int32)), (.int (99 : Int32))]) (rest := []) lm_4_61 rfl jM26 rfl rfl rfl rfl rfl) jM26 rfl (Or.inl rfl)).trans ?_
    refine jbi_c (fun r10 τ10 => ?_)
    refine (sv_istore_n (ls1 := [some (.ref 6), some (.ref 42), some (.int r8), some (.int r10)]) jM24 c24_32 rfl (Nat.lt_of_lt_of_eq (by decide +kernel : 3 < 4) rfl) rfl).trans ?_
    refine (sv_aload_n jM24 c24_33 rfl rfl).trans ?_
    refine (sv_iload_n jM24 c24_34 rfl rfl).trans ?_
    refine (sv_aload_n jM24 c24_35 rfl rfl).trans ?_
    refine (sv_getf jM24 c24_36 rfl lf_4_45 (fg_42_3 _)).trans ?_
    refine (sv_iconst jM24 c24_39 rfl (v := -1) (by decide +kernel)).trans ?_
    refine (sv_icmp_ne jM24 c24_40 rfl (t := 47) (by decide +kernel)).trans ?_
    refine jif _ ?_ ?_
    ·
      refine (sv_iconst jM24 c24_47 rfl (v := 0) (by decide +kernel)).trans ?_
      refine (sv_callvv (pl := 0) jM24 c24_48 rfl (jm_call_v (a := 6) (as := [(.int r8), (.int (0 : Int32))]) (rest := []) lm_4_69 rfl jM29 rfl rfl rfl rfl rfl) jM29 rfl rfl).trans ?_
      refine jbv_c (fun τ11 => ?_)
      refine (sv_goto jM24 c24_51 rfl (t := 131) (by decide +kernel)).trans ?_
      exact sv_vret jM24 c24_131 rfl rfl
    ·
      refine (sv_iload_n jM24 c24_43 rfl rfl).trans ?_
      refine (sv_goto jM24 c24_44 rfl (t := 48) (by decide +kernel)).trans ?_
      refine (sv_callvv (pl := 0) jM24 c24_48 rfl (jm_call_v (a := 6) (as := [(.int r8), (.int r10)]) (rest := []) lm_4_69 rfl jM29 rfl rfl rfl rfl rfl) jM29 rfl rfl).trans ?_
      refine jbv_c (fun τ12 => ?_)
      refine (sv_goto jM24 c24_51 rfl (t := 131) (by decide +kernel)).trans ?_
      exact sv_vret jM24 c24_131 rfl rfl
set_option maxRecDepth 20000 in
set_option maxHeartbeats 4000000 in
theorem Rule_addCondition_52_50_in (σ : jm_S) : jc 32 [(.ref 52), (.ref 50)] σ = jbi (jc 25 [(.ref 50), (.int (103 : Int32))] σ) (fun r1 τ1 => (if r1 = 0 then jbi (jc 25 [(.ref 50), (.int (110 : Int32))] τ1) (fun r2 τ2 => (if r2 = 0 then jbi (jc 25 [(.ref 50), (.int (116 : Int32))] τ2) (fun r3 τ3 => (if r3 = 0 then jbv (jc 27 [(.ref 50), (.int (τ3 50 2))] τ3) (fun τ4 => some (none, τ4)) else jbi (jc 26 [(.ref 50), (.int (3 : Int32)), (.int (1 : Int32)), (.int (200 : Int32))] τ3) (fun r5 τ5 => some (none, (jm_up τ5 52 2 (if r5 < (τ3 52 2) then r5 else (τ3 52 2))))))) else jbi (jc 26 [(.ref 50), (.int (2 : Int32)), (.int (1 : Int32)), (.int (99 : Int32))] τ2) (fun r6 τ6 => some (none, (jm_up τ6 52 1 (if r6 < (τ2 52 1) then r6 else (τ2 52 1))))))) else jbi (jc 26 [(.ref 50), (.int (2 : Int32)), (.int (1 : Int32)), (.int (99 : Int32))] τ1) (fun r7 τ7 => some (none, (jm_up τ7 52 0 (if r7 < (τ1 52 0) then r7 else (τ1 52 0))))))) := by
  refine (jc_of (ls1 := [some (.ref 52), some (.ref 50)]) ((jm_ini_of jM32).trans rfl)).trans ?_
  refine (sv_aload_n jM32 c32_0 rfl rfl).trans ?_
  refine (sv_bipush jM32 c32_1 rfl (v := 103) (by decide +kernel)).trans ?_
  refine (sv_callvi (pl := 0) jM32 c32_3 rfl (jm_call_v (a := 50) (as := [(.int (103 : Int32))]) (rest := []) lm_5_37 rfl jM25 rfl rfl rfl rfl rfl) jM25 rfl (Or.inr rfl)).trans ?_
  refine jbi_c (fun r1 τ1 => ?_)
  refine (sv_if_eq jM32 c32_6 rfl (t := 31) (by decide +kernel)).trans ?_
  refine jif _ ?_ ?_
  ·
    refine (sv_aload_n jM32 c32_31 rfl rfl).trans ?_
    refine (sv_bipush jM32 c32_32 rfl (v := 110) (by decide +kernel)).trans ?_
    refine (sv_callvi (pl := 0) jM32 c32_34 rfl (jm_call_v (a := 50) (as := [(.int (110 : Int32))]) (rest := []) lm_5_37 rfl jM25 rfl rfl rfl rfl rfl) jM25 rfl (Or.inr rfl)).trans ?_
    refine jbi_c (fun r2 τ2 => ?_)
    refine (sv_if_eq jM32 c32_37 rfl (t := 62) (by decide +kernel)).trans ?_
    refine jif _ ?_ ?_
    ·
      refine (sv_aload_n jM32 c32_62 rfl rfl).trans ?_
      refine (sv_bipush jM32 c32_63 rfl (v := 116) (by decide +kernel)).trans ?_
      refine (sv_callvi (pl := 0) jM32 c32_65 rfl (jm_call_v (a := 50) (as := [(.int (116 : Int32))]) (rest := []) lm_5_37 rfl jM25 rfl rfl rfl rfl rfl) jM25 rfl (Or.inr rfl)).trans ?_
      refine jbi_c (fun r3 τ3 => ?_)
      refine (sv_if_eq jM32 c32_68 rfl (t := 94) (by decide +kernel)).trans ?_
      refine jif _ ?_ ?_
      ·
        refine (sv_aload_n jM32 c32_94 rfl rfl).trans ?_
        refine (sv_aload_n jM32 c32_95 rfl rfl).trans ?_
        refine (sv_getf jM32 c32_96 rfl lf_5_50 (fg_50_2 _)).trans ?_
        refine (sv_callvv (pl := 0) jM32 c32_99 rfl (jm_call_v (a := 50) (as := [(.int (τ3 50 2))]) (rest := []) lm_5_53 rfl jM27 rfl rfl rfl rfl rfl) jM27 rfl rfl).trans ?_
        refine jbv_c (fun τ4 => ?_)
        exact sv_vret jM32 c32_102 rfl rfl
      ·
        refine (sv_aload_n jM32 c32_71 rfl rfl).trans ?_
        refine (sv_aload_n jM32 c32_72 rfl rfl).trans ?_
        refine (sv_getf jM32 c32_73 rfl lf_5_18 (fg_52_2 _)).trans ?_
        refine (sv_aload_n jM32 c32_76 rfl rfl).trans ?_
        refine (sv_iconst jM32 c32_77 rfl (v := 3) (by decide +kernel)).trans ?_
        refine (sv_iconst jM32 c32_78 rfl (v := 1) (by decide +kernel)).trans ?_
        refine (sv_sipush jM32 c32_79 rfl (v := 200) (by decide +kernel)).trans ?_
        refine (sv_callvi (pl := 0) jM32 c32_82 rfl (jm_call_v (a := 50) (as := [(.int (3 : Int32)), (.int (1 : Int32)), (.int (200 : Int32))]) (rest := [(.int (τ3 52 2)), (.ref 52)]) lm_5_40 rfl jM26 rfl rfl rfl rfl rfl) jM26 rfl (Or.inl rfl)).trans ?_
        refine jbi_c (fun r5 τ5 => ?_)
        refine (sv_min jM32 c32_85 rfl lm_5_44 (Nat.not_lt.mpr (Nat.le_of_ble_eq_true rfl))).trans ?_
        refine (sv_putf jM32 c32_88 rfl lf_5_18 (pf_52_2 _ _)).trans ?_
        refine (sv_goto jM32 c32_91 rfl (t := 102) (by decide +kernel)).trans ?_
        exact sv_vret jM32 c32_102 rfl rfl
    ·
      refine (sv_aload_n jM32 c32_40 rfl rfl).trans ?_
      refine (sv_aload_n jM32 c32_41 rfl rfl).trans ?_
      refine (sv_getf jM32 c32_42 rfl lf_5_15 (fg_52_1 _)).trans ?_
      refine (sv_aload_n jM32 c32_45 rfl rfl).trans ?_
      refine (sv_iconst jM32 c32_46 rfl (v := 2) (by decide +kernel)).trans ?_
      refine (sv_iconst jM32 c32_47 rfl (v := 1) (by decide +kernel)).trans ?_
      refine (sv_bipush jM32 c32_48 rfl (v := 99) (by decide +kernel)).trans ?_
      refine (sv_callvi (pl := 0) jM32 c32_50 rfl (jm_call_v (a := 50) (as := [(.int (2 : Int32)), (.int (1 : Int32)), (.int (99 : Int32))]) (rest := [(.int (τ2 52 1)), (.ref 52)]) lm_5_40 rfl jM26 rfl rfl rfl rfl rfl) jM26 rfl (Or.inl rfl)).trans ?_
      refine jbi_c (fun r6 τ6 => ?_)
      refine (sv_min jM32 c32_53 rfl lm_5_44 (Nat.not_lt.mpr (Nat.le_of_ble_eq_true rfl))).trans ?_
      refine (sv_putf jM32 c32_56 rfl lf_5_15 (pf_52_1 _ _)).trans ?_
      refine (sv_goto jM32 c32_59 rfl (t := 102) (by decide +kernel)).trans ?_
      exact sv_vret jM32 c32_102 rfl rfl
  ·
    refine (sv_aload_n jM32 c32_9 rfl rfl).trans ?_
    refine (sv_aload_n jM32 c32_10 rfl rfl).trans ?_
    refine (sv_getf jM32 c32_11 rfl lf_5_11 (fg_52_0 _)).trans ?_
    refine (sv_aload_n jM32 c32_14 rfl rfl).trans ?_
    refine (sv_iconst jM32 c32_15 rfl (v := 2) (by decide +kernel)).trans ?_
    refine (sv_iconst jM32 c32_16 rfl (v := 1) (by decide +kernel)).trans ?_
    refine (sv_bipush jM32 c32_17 rfl (v := 99) (by decide +kernel)).trans ?_
    refine (sv_callvi (pl := 0) jM32 c32_19 rfl (jm_call_v (a := 50) (as := [(.int (2 : Int32)), (.int (1 : Int32)), (.int (99 : Int32))]) (rest := [(.int (τ1 52 0)), (.ref 52)]) lm_5_40 rfl jM26 rfl rfl rfl rfl rfl) jM26 rfl (Or.inl rfl)).trans ?_
    refine jbi_c (fun r7 τ7 => ?_)
    refine (sv_min jM32 c32_22 rfl lm_5_44 (Nat.not_lt.mpr (Nat.le_of_ble_eq_true rfl))).trans ?_
    refine (sv_putf jM32 c32_25 rfl lf_5_11 (pf_52_0 _ _)).trans ?_
    refine (sv_goto jM32 c32_28 rfl (t := 102) (by decide +kernel)).trans ?_
    exact sv_vret jM32 c32_102 rfl rfl
set_option maxRecDepth 20000 in
set_option maxHeartbeats 4000000 in
theorem Rule_addCondition_49_47_in (σ : jm_S) : jc 32 [(.ref 49), (.ref 47)] σ = jbi (jc 25 [(.ref 47), (.int (103 : Int32))] σ) (fun r1 τ1 => (if r1 = 0 then jbi (jc 25 [(.ref 47), (.int (110 : Int32))] τ1) (fun r2 τ2 => (if r2 = 0 then jbi (jc 25 [(.ref 47), (.int (116 : Int32))] τ2) (fun r3 τ3 => (if r3 = 0 then jbv (jc 27 [(.ref 47), (.int (τ3 47 2))] τ3) (fun τ4 => some (none, τ4)) else jbi (jc 26 [(.ref 47), (.int (3 : Int32)), (.int (1 : Int32)), (.int (200 : Int32))] τ3) (fun r5 τ5 => some (none, (jm_up τ5 49 2 (if r5 < (τ3 49 2) then r5 else (τ3 49 2))))))) else jbi (jc 26 [(.ref 47), (.int (2 : Int32)), (.int (1 : Int32)), (.int (99 : Int32))] τ2) (fun r6 τ6 => some (none, (jm_up τ6 49 1 (if r6 < (τ2 49 1) then r6 else (τ2 49 1))))))) else jbi (jc 26 [(.ref 47), (.int (2 : Int32)), (.int (1 : Int32)), (.int (99 : Int32))] τ1) (fun r7 τ7 => some (none, (jm_up τ7 49 0 (if r7 < (τ1 49 0) then r7 else (τ1 49 0))))))) := by
  refine (jc_of (ls1 := [some (.ref 49), some (.ref 47)]) ((jm_ini_of jM32).trans rfl)).trans ?_
  refine (sv_aload_n jM32 c32_0 rfl rfl).trans ?_
  refine (sv_bipush jM32 c32_1 rfl (v := 103) (by decide +kernel)).trans ?_
  refine (sv_callvi (pl := 0) jM32 c32_3 rfl (jm_call_v (a := 47) (as := [(.int (103 : Int32))]) (rest := []) lm_5_37 rfl jM25 rfl rfl rfl rfl rfl) jM25 rfl (Or.inr rfl)).trans ?_
  refine jbi_c (fun r1 τ1 => ?_)
  refine (sv_if_eq jM32 c32_6 rfl (t := 31) (by decide +kernel)).trans ?_
  refine jif _ ?_ ?_
  ·
    refine (sv_aload_n jM32 c32_31 rfl rfl).trans ?_
    refine (sv_bipush jM32 c32_32 rfl (v := 110) (by decide +kernel)).trans ?_
    refine (sv_callvi (pl := 0) jM32 c32_34 rfl (jm_call_v (a := 47) (as := [(.int (110 : Int32))]) (rest := []) lm_5_37 rfl jM25 rfl rfl rfl rfl rfl) jM25 rfl (Or.inr rfl)).trans ?_
    refine jbi_c (fun r2 τ2 => ?_)
    refine (sv_if_eq jM32 c32_37 rfl (t := 62) (by decide +kernel)).trans ?_
    refine jif _ ?_ ?_
    ·
      refine (sv_aload_n jM32 c32_62 rfl rfl).trans ?_
      refine (sv_bipush jM32 c32_63 rfl (v := 116) (by decide +kernel)).trans ?_
      refine (sv_callvi (pl := 0) jM32 c32_65 rfl (jm_call_v (a := 47) (as := [(.int (116 : Int32))]) (rest := []) lm_5_37 rfl jM25 rfl rfl rfl rfl rfl) jM25 rfl (Or.inr rfl)).trans ?_
      refine jbi_c (fun r3 τ3 => ?_)
      refine (sv_if_eq jM32 c32_68 rfl (t := 94) (by decide +kernel)).trans ?_
      refine jif _ ?_ ?_
      ·
        refine (sv_aload_n jM32 c32_94 rfl rfl).trans ?_
        refine (sv_aload_n jM32 c32_95 rfl rfl).trans ?_
        refine (sv_getf jM32 c32_96 rfl lf_5_50 (fg_47_2 _)).trans ?_
        refine (sv_callvv (pl := 0) jM32 c32_99 rfl (jm_call_v (a := 47) (as := [(.int (τ3 47 2))]) (rest := []) lm_5_53 rfl jM27 rfl rfl rfl rfl rfl) jM27 rfl rfl).trans ?_
        refine jbv_c (fun τ4 => ?_)
        exact sv_vret jM32 c32_102 rfl rfl
      ·
        refine (sv_aload_n jM32 c32_71 rfl rfl).trans ?_
        refine (sv_aload_n jM32 c32_72 rfl rfl).trans ?_
        refine (sv_getf jM32 c32_73 rfl lf_5_18 (fg_49_2 _)).trans ?_
        refine (sv_aload_n jM32 c32_76 rfl rfl).trans ?_
        refine (sv_iconst jM32 c32_77 rfl (v := 3) (by decide +kernel)).trans ?_
        refine (sv_iconst jM32 c32_78 rfl (v := 1) (by decide +kernel)).trans ?_
        refine (sv_sipush jM32 c32_79 rfl (v := 200) (by decide +kernel)).trans ?_
        refine (sv_callvi (pl := 0) jM32 c32_82 rfl (jm_call_v (a := 47) (as := [(.int (3 : Int32)), (.int (1 : Int32)), (.int (200 : Int32))]) (rest := [(.int (τ3 49 2)), (.ref 49)]) lm_5_40 rfl jM26 rfl rfl rfl rfl rfl) jM26 rfl (Or.inl rfl)).trans ?_
        refine jbi_c (fun r5 τ5 => ?_)
        refine (sv_min jM32 c32_85 rfl lm_5_44 (Nat.not_lt.mpr (Nat.le_of_ble_eq_true rfl))).trans ?_
        refine (sv_putf jM32 c32_88 rfl lf_5_18 (pf_49_2 _ _)).trans ?_
        refine (sv_goto jM32 c32_91 rfl (t := 102) (by decide +kernel)).trans ?_
        exact sv_vret jM32 c32_102 rfl rfl
    ·
      refine (sv_aload_n jM32 c32_40 rfl rfl).trans ?_
      refine (sv_aload_n jM32 c32_41 rfl rfl).trans ?_
      refine (sv_getf jM32 c32_42 rfl lf_5_15 (fg_49_1 _)).trans ?_
      refine (sv_aload_n jM32 c32_45 rfl rfl).trans ?_
      refine (sv_iconst jM32 c32_46 rfl (v := 2) (by decide +kernel)).trans ?_
      refine (sv_iconst jM32 c32_47 rfl (v := 1) (by decide +kernel)).trans ?_
      refine (sv_bipush jM32 c32_48 rfl (v := 99) (by decide +kernel)).trans ?_
      refine (sv_callvi (pl := 0) jM32 c32_50 rfl (jm_call_v (a := 47) (as := [(.int (2 : Int32)), (.int (1 : Int32)), (.int (99 : Int32))]) (rest := [(.int (τ2 49 1)), (.ref 49)]) lm_5_40 rfl jM26 rfl rfl rfl rfl rfl) jM26 rfl (Or.inl rfl)).trans ?_
      refine jbi_c (fun r6 τ6 => ?_)
      refine (sv_min jM32 c32_53 rfl lm_5_44 (Nat.not_lt.mpr (Nat.le_of_ble_eq_true rfl))).trans ?_
      refine (sv_putf jM32 c32_56 rfl lf_5_15 (pf_49_1 _ _)).trans ?_
      refine (sv_goto jM32 c32_59 rfl (t := 102) (by decide +kernel)).trans ?_
      exact sv_vret jM32 c32_102 rfl rfl
  ·
    refine (sv_aload_n jM32 c32_9 rfl rfl).trans ?_
    refine (sv_aload_n jM32 c32_10 rfl rfl).trans ?_
    refine (sv_getf jM32 c32_11 rfl lf_5_11 (fg_49_0 _)).trans ?_
    refine (sv_aload_n jM32 c32_14 rfl rfl).trans ?_
    refine (sv_iconst jM32 c32_15 rfl (v := 2) (by decide +kernel)).trans ?_
    refine (sv_iconst jM32 c32_16 rfl (v := 1) (by decide +kernel)).trans ?_
    refine (sv_bipush jM32 c32_17 rfl (v := 99) (by decide +kernel)).trans ?_
    refine (sv_callvi (pl := 0) jM32 c32_19 rfl (jm_call_v (a := 47) (as := [(.int (2 : Int32)), (.int (1 : Int32)), (.int (99 : Int32))]) (rest := [(.int (τ1 49 0)), (.ref 49)]) lm_5_40 rfl jM26 rfl rfl rfl rfl rfl) jM26 rfl (Or.inl rfl)).trans ?_
    refine jbi_c (fun r7 τ7 => ?_)
    refine (sv_min jM32 c32_22 rfl lm_5_44 (Nat.not_lt.mpr (Nat.le_of_ble_eq_true rfl))).trans ?_
    refine (sv_putf jM32 c32_25 rfl lf_5_11 (pf_49_0 _ _)).trans ?_
    refine (sv_goto jM32 c32_28 rfl (t := 102) (by decide +kernel)).trans ?_
    exact sv_vret jM32 c32_102 rfl rfl
set_option maxRecDepth 20000 in
set_option maxHeartbeats 4000000 in
theorem Heating_addPart_50_in (σ : jm_S) : jc 24 [(.ref 6), (.ref 50)] σ = jbi (jc 25 [(.ref 50), (.int (104 : Int32))] σ) (fun r1 τ1 => (if r1 = 0 then jbi (jc 25 [(.ref 50), (.int (115 : Int32))] τ1) (fun r2 τ2 => (if r2 = 0 then jbi (jc 25 [(.ref 50), (.int (108 : Int32))] τ2) (fun r3 τ3 => (if r3 = 0 then jbi (jc 25 [(.ref 50), (.int (111 : Int32))] τ3) (fun r4 τ4 => (if r4 = 0 then jbv (jc 27 [(.ref 50), (.int (τ4 50 2))] τ4) (fun τ5 => some (none, τ5)) else jbv (jc 22 [(.ref 6), (.int (0 : Int32))] τ4) (fun τ6 => some (none, τ6)))) else jbv (jc 22 [(.ref 6), (.int (1 : Int32))] τ3) (fun τ7 => some (none, τ7)))) else (if (200 : Int32) ≤ (τ2 6 3) then some (none, τ2) else (if (τ2 6 3) < 0 ∨ 200 ≤ (τ2 6 3).toNatClampNeg then none else (if (τ2 6 3) < 0 ∨ 200 ≤ (τ2 6 3).toNatClampNeg then none else some (none, (jm_up τ2 8 (τ2 6 3).toNatClampNeg ((τ2 8 (τ2 6 3).toNatClampNeg) + (1 : Int32))))))))) else jbi (jc 26 [(.ref 50), (.int (2 : Int32)), (.int (0 : Int32)), (.int (99 : Int32))] τ1) (fun r8 τ8 => jbv (jc 28 [(.ref 50), (.int (120 : Int32))] τ8) (fun τ9 => jbi (jc 26 [(.ref 50), (.int (2 : Int32)), (.int (1 : Int32)), (.int (99 : Int32))] τ9) (fun r10 τ10 => (if ¬ (τ10 50 3) = (-1 : Int32) then jbv (jc 29 [(.ref 6), (.int r8), (.int (0 : Int32))] τ10) (fun τ11 => some (none, τ11)) else jbv (jc 29 [(.ref 6), (.int r8), (.int r10)] τ10) (fun τ12 => some (none, τ12)))))))) := by
  refine (jc_of (ls1 := [some (.ref 6), some (.ref 50), none, none]) ((jm_ini_of jM24).trans rfl)).trans ?_
  refine (sv_aload_n jM24 c24_0 rfl rfl).trans ?_
  refine (sv_bipush jM24 c24_1 rfl (v := 104) (by decide +kernel)).trans ?_
  refine (sv_callvi (pl := 0) jM24 c24_3 rfl (jm_call_v (a := 50) (as := [(.int (104 : Int32))]) (rest := []) lm_4_58 rfl jM25 rfl rfl rfl rfl rfl) jM25 rfl (Or.inr rfl)).trans ?_
  refine jbi_c (fun r1 τ1 => ?_)
  refine (sv_if_eq jM24 c24_6 rfl (t := 54) (by decide +kernel)).trans ?_
  refine jif _ ?_ ?_
  ·
    refine (sv_aload_n jM24 c24_54 rfl rfl).trans ?_
    refine (sv_bipush jM24 c24_55 rfl (v := 115) (by decide +kernel)).trans ?_
    refine (sv_callvi (pl := 0) jM24 c24_57 rfl (jm_call_v (a := 50) (as := [(.int (115 : Int32))]) (rest := []) lm_4_58 rfl jM25 rfl rfl rfl rfl rfl) jM25 rfl (Or.inr rfl)).trans ?_
    refine jbi_c (fun r2 τ2 => ?_)
    refine (sv_if_eq jM24 c24_60 rfl (t := 89) (by decide +kernel)).trans ?_
    refine jif _ ?_ ?_
    ·
      refine (sv_aload_n jM24 c24_89 rfl rfl).trans ?_
      refine (sv_bipush jM24 c24_90 rfl (v := 108) (by decide +kernel)).trans ?_
      refine (sv_callvi (pl := 0) jM24 c24_92 rfl (jm_call_v (a := 50) (as := [(.int (108 : Int32))]) (rest := []) lm_4_58 rfl jM25 rfl rfl rfl rfl rfl) jM25 rfl (Or.inr rfl)).trans ?_
      refine jbi_c (fun r3 τ3 => ?_)
      refine (sv_if_eq jM24 c24_95 rfl (t := 106) (by decide +kernel)).trans ?_
      refine jif _ ?_ ?_
      ·
        refine (sv_aload_n jM24 c24_106 rfl rfl).trans ?_
        refine (sv_bipush jM24 c24_107 rfl (v := 111) (by decide +kernel)).trans ?_
        refine (sv_callvi (pl := 0) jM24 c24_109 rfl (jm_call_v (a := 50) (as := [(.int (111 : Int32))]) (rest := []) lm_4_58 rfl jM25 rfl rfl rfl rfl rfl) jM25 rfl (Or.inr rfl)).trans ?_
        refine jbi_c (fun r4 τ4 => ?_)
        refine (sv_if_eq jM24 c24_112 rfl (t := 123) (by decide +kernel)).trans ?_
        refine jif _ ?_ ?_
        ·
          refine (sv_aload_n jM24 c24_123 rfl rfl).trans ?_
          refine (sv_aload_n jM24 c24_124 rfl rfl).trans ?_
          refine (sv_getf jM24 c24_125 rfl lf_4_73 (fg_50_2 _)).trans ?_
          refine (sv_callvv (pl := 0) jM24 c24_128 rfl (jm_call_v (a := 50) (as := [(.int (τ4 50 2))]) (rest := []) lm_4_76 rfl jM27 rfl rfl rfl rfl rfl) jM27 rfl rfl).trans ?_
          refine jbv_c (fun τ5 => ?_)
          exact sv_vret jM24 c24_131 rfl rfl
        ·
          refine (sv_aload_n jM24 c24_115 rfl rfl).trans ?_
          refine (sv_iconst jM24 c24_116 rfl (v := 0) (by decide +kernel)).trans ?_
          refine (sv_callvv (pl := 0) jM24 c24_117 rfl (jm_call_v (a := 6) (as := [(.int (0 : Int32))]) (rest := []) lm_4_54 rfl jM22 rfl rfl rfl rfl rfl) jM22 rfl rfl).trans ?_
          refine jbv_c (fun τ6 => ?_)
          refine (sv_goto jM24 c24_120 rfl (t := 131) (by decide +kernel)).trans ?_
          exact sv_vret jM24 c24_131 rfl rfl
      ·
        refine (sv_aload_n jM24 c24_98 rfl rfl).trans ?_
        refine (sv_iconst jM24 c24_99 rfl (v := 1) (by decide +kernel)).trans ?_
        refine (sv_callvv (pl := 0) jM24 c24_100 rfl (jm_call_v (a := 6) (as := [(.int (1 : Int32))]) (rest := []) lm_4_54 rfl jM22 rfl rfl rfl rfl rfl) jM22 rfl rfl).trans ?_
        refine jbv_c (fun τ7 => ?_)
        refine (sv_goto jM24 c24_103 rfl (t := 131) (by decide +kernel)).trans ?_
        exact sv_vret jM24 c24_131 rfl rfl
    ·
      refine (sv_aload_n jM24 c24_63 rfl rfl).trans ?_
      refine (sv_getf jM24 c24_64 rfl lf_4_22 (fg_6_3 _)).trans ?_
      refine (sv_sipush jM24 c24_67 rfl (v := 200) (by decide +kernel)).trans ?_
      refine (sv_icmp_ge jM24 c24_70 rfl (t := 131) (by decide +kernel)).trans ?_
      refine jif _ ?_ ?_
      ·
        exact sv_vret jM24 c24_131 rfl rfl
      ·
        refine (sv_aload_n jM24 c24_73 rfl rfl).trans ?_
        refine (sv_getf jM24 c24_74 rfl lf_4_15 (fg_6_1 _)).trans ?_
        refine (sv_aload_n jM24 c24_77 rfl rfl).trans ?_
        refine (sv_getf jM24 c24_78 rfl lf_4_22 (fg_6_3 _)).trans ?_
        refine (sv_dup2 jM24 c24_81 rfl ⟨rfl, rfl⟩).trans ?_
        refine (sv_iald jM24 c24_82 rfl (ia_8 _)).trans ?_
        refine jif _ rfl ?_
        refine (sv_iconst jM24 c24_83 rfl (v := 1) (by decide +kernel)).trans ?_
        refine (sv_iadd jM24 c24_84 rfl).trans ?_
        refine (sv_iast jM24 c24_85 rfl wi_8).trans ?_
        refine jif _ rfl ?_
        refine (sv_goto jM24 c24_86 rfl (t := 131) (by decide +kernel)).trans ?_
        exact sv_vret jM24 c24_131 rfl rfl
  ·
    refine (sv_aload_n jM24 c24_9 rfl rfl).trans ?_
    refine (sv_iconst jM24 c24_10 rfl (v := 2) (by decide +kernel)).trans ?_
    refine (sv_iconst jM24 c24_11 rfl (v := 0) (by decide +kernel)).trans ?_
    refine (sv_bipush jM24 c24_12 rfl (v := 99) (by decide +kernel)).trans ?_
    refine (sv_callvi (pl := 0) jM24 c24_14 rfl (jm_call_v (a := 50) (as := [(.int (2 : Int32)), (.int (0 : Int32)), (.int (99 : Int32))]) (rest := []) lm_4_61 rfl jM26 rfl rfl rfl rfl rfl) jM26 rfl (Or.inl rfl)).trans ?_
    refine jbi_c (fun r8 τ8 => ?_)
    refine (sv_istore_n (ls1 := [some (.ref 6), some (.ref 50), some (.int r8), none]) jM24 c24_17 rfl (Nat.lt_of_lt_of_eq (by decide +kernel : 2 < 4) rfl) rfl).trans ?_
    refine (sv_aload_n jM24 c24_18 rfl rfl).trans ?_
    refine (sv_bipush jM24 c24_19 rfl (v := 120) (by decide +kernel)).trans ?_
    refine (sv_callvv (pl := 0) jM24 c24_21 rfl (jm_call_v (a := 50) (as := [(.int (120 : Int32))]) (rest := []) lm_4_65 rfl jM28 rfl rfl rfl rfl rfl) jM28 rfl rfl).trans ?_
    refine jbv_c (fun τ9 => ?_)
    refine (sv_aload_n jM24 c24_24 rfl rfl).trans ?_
    refine (sv_iconst jM24 c24_25 rfl (v := 2) (by decide +kernel)).trans ?_
    refine (sv_iconst jM24 c24_26 rfl (v := 1) (by decide +kernel)).trans ?_
    refine (sv_bipush jM24 c24_27 rfl (v := 99) (by decide +kernel)).trans ?_
    refine (sv_callvi (pl := 0) jM24 c24_29 rfl (jm_call_v (a := 50) (as := [(.int (2 : Int32)), (.int (1 : Int32)), (.int (99 : Int32))]) (rest := []) lm_4_61 rfl jM26 rfl rfl rfl rfl rfl) jM26 rfl (Or.inl rfl)).trans ?_
    refine jbi_c (fun r10 τ10 => ?_)
    refine (sv_istore_n (ls1 := [some (.ref 6), some (.ref 50), some (.int r8), some (.int r10)]) jM24 c24_32 rfl (Nat.lt_of_lt_of_eq (by decide +kernel : 3 < 4) rfl) rfl).trans ?_
    refine (sv_aload_n jM24 c24_33 rfl rfl).trans ?_
    refine (sv_iload_n jM24 c24_34 rfl rfl).trans ?_
    refine (sv_aload_n jM24 c24_35 rfl rfl).trans ?_
    refine (sv_getf jM24 c24_36 rfl lf_4_45 (fg_50_3 _)).trans ?_
    refine (sv_iconst jM24 c24_39 rfl (v := -1) (by decide +kernel)).trans ?_
    refine (sv_icmp_ne jM24 c24_40 rfl (t := 47) (by decide +kernel)).trans ?_
    refine jif _ ?_ ?_
    ·
      refine (sv_iconst jM24 c24_47 rfl (v := 0) (by decide +kernel)).trans ?_
      refine (sv_callvv (pl := 0) jM24 c24_48 rfl (jm_call_v (a := 6) (as := [(.int r8), (.int (0 : Int32))]) (rest := []) lm_4_69 rfl jM29 rfl rfl rfl rfl rfl) jM29 rfl rfl).trans ?_
      refine jbv_c (fun τ11 => ?_)
      refine (sv_goto jM24 c24_51 rfl (t := 131) (by decide +kernel)).trans ?_
      exact sv_vret jM24 c24_131 rfl rfl
    ·
      refine (sv_iload_n jM24 c24_43 rfl rfl).trans ?_
      refine (sv_goto jM24 c24_44 rfl (t := 48) (by decide +kernel)).trans ?_
      refine (sv_callvv (pl := 0) jM24 c24_48 rfl (jm_call_v (a := 6) (as := [(.int r8), (.int r10)]) (rest := []) lm_4_69 rfl jM29 rfl rfl rfl rfl rfl) jM29 rfl rfl).trans ?_
      refine jbv_c (fun τ12 => ?_)
      refine (sv_goto jM24 c24_51 rfl (t := 131) (by decide +kernel)).trans ?_
      exact sv_vret jM24 c24_131 rfl rfl
set_option maxRecDepth 20000 in
set_option maxHeartbeats 4000000 in
theorem Rule_addCondition_46_42_in (σ : jm_S) : jc 32 [(.ref 46), (.ref 42)] σ = jbi (jc 25 [(.ref 42), (.int (103 : Int32))] σ) (fun r1 τ1 => (if r1 = 0 then jbi (jc 25 [(.ref 42), (.int (110 : Int32))] τ1) (fun r2 τ2 => (if r2 = 0 then jbi (jc 25 [(.ref 42), (.int (116 : Int32))] τ2) (fun r3 τ3 => (if r3 = 0 then jbv (jc 27 [(.ref 42), (.int (τ3 42 2))] τ3) (fun τ4 => some (none, τ4)) else jbi (jc 26 [(.ref 42), (.int (3 : Int32)), (.int (1 : Int32)), (.int (200 : Int32))] τ3) (fun r5 τ5 => some (none, (jm_up τ5 46 2 (if r5 < (τ3 46 2) then r5 else (τ3 46 2))))))) else jbi (jc 26 [(.ref 42), (.int (2 : Int32)), (.int (1 : Int32)), (.int (99 : Int32))] τ2) (fun r6 τ6 => some (none, (jm_up τ6 46 1 (if r6 < (τ2 46 1) then r6 else (τ2 46 1))))))) else jbi (jc 26 [(.ref 42), (.int (2 : Int32)), (.int (1 : Int32)), (.int (99 : Int32))] τ1) (fun r7 τ7 => some (none, (jm_up τ7 46 0 (if r7 < (τ1 46 0) then r7 else (τ1 46 0))))))) := by
  refine (jc_of (ls1 := [some (.ref 46), some (.ref 42)]) ((jm_ini_of jM32).trans rfl)).trans ?_
  refine (sv_aload_n jM32 c32_0 rfl rfl).trans ?_
  refine (sv_bipush jM32 c32_1 rfl (v := 103) (by decide +kernel)).trans ?_
  refine (sv_callvi (pl := 0) jM32 c32_3 rfl (jm_call_v (a := 42) (as := [(.int (103 : Int32))]) (rest := []) lm_5_37 rfl jM25 rfl rfl rfl rfl rfl) jM25 rfl (Or.inr rfl)).trans ?_
  refine jbi_c (fun r1 τ1 => ?_)
  refine (sv_if_eq jM32 c32_6 rfl (t := 31) (by decide +kernel)).trans ?_
  refine jif _ ?_ ?_
  ·
    refine (sv_aload_n jM32 c32_31 rfl rfl).trans ?_
    refine (sv_bipush jM32 c32_32 rfl (v := 110) (by decide +kernel)).trans ?_
    refine (sv_callvi (pl := 0) jM32 c32_34 rfl (jm_call_v (a := 42) (as := [(.int (110 : Int32))]) (rest := []) lm_5_37 rfl jM25 rfl rfl rfl rfl rfl) jM25 rfl (Or.inr rfl)).trans ?_
    refine jbi_c (fun r2 τ2 => ?_)
    refine (sv_if_eq jM32 c32_37 rfl (t := 62) (by decide +kernel)).trans ?_
    refine jif _ ?_ ?_
    ·
      refine (sv_aload_n jM32 c32_62 rfl rfl).trans ?_
      refine (sv_bipush jM32 c32_63 rfl (v := 116) (by decide +kernel)).trans ?_
      refine (sv_callvi (pl := 0) jM32 c32_65 rfl (jm_call_v (a := 42) (as := [(.int (116 : Int32))]) (rest := []) lm_5_37 rfl jM25 rfl rfl rfl rfl rfl) jM25 rfl (Or.inr rfl)).trans ?_
      refine jbi_c (fun r3 τ3 => ?_)
      refine (sv_if_eq jM32 c32_68 rfl (t := 94) (by decide +kernel)).trans ?_
      refine jif _ ?_ ?_
      ·
        refine (sv_aload_n jM32 c32_94 rfl rfl).trans ?_
        refine (sv_aload_n jM32 c32_95 rfl rfl).trans ?_
        refine (sv_getf jM32 c32_96 rfl lf_5_50 (fg_42_2 _)).trans ?_
        refine (sv_callvv (pl := 0) jM32 c32_99 rfl (jm_call_v (a := 42) (as := [(.int (τ3 42 2))]) (rest := []) lm_5_53 rfl jM27 rfl rfl rfl rfl rfl) jM27 rfl rfl).trans ?_
        refine jbv_c (fun τ4 => ?_)
        exact sv_vret jM32 c32_102 rfl rfl
      ·
        refine (sv_aload_n jM32 c32_71 rfl rfl).trans ?_
        refine (sv_aload_n jM32 c32_72 rfl rfl).trans ?_
        refine (sv_getf jM32 c32_73 rfl lf_5_18 (fg_46_2 _)).trans ?_
        refine (sv_aload_n jM32 c32_76 rfl rfl).trans ?_
        refine (sv_iconst jM32 c32_77 rfl (v := 3) (by decide +kernel)).trans ?_
        refine (sv_iconst jM32 c32_78 rfl (v := 1) (by decide +kernel)).trans ?_
        refine (sv_sipush jM32 c32_79 rfl (v := 200) (by decide +kernel)).trans ?_
        refine (sv_callvi (pl := 0) jM32 c32_82 rfl (jm_call_v (a := 42) (as := [(.int (3 : Int32)), (.int (1 : Int32)), (.int (200 : Int32))]) (rest := [(.int (τ3 46 2)), (.ref 46)]) lm_5_40 rfl jM26 rfl rfl rfl rfl rfl) jM26 rfl (Or.inl rfl)).trans ?_
        refine jbi_c (fun r5 τ5 => ?_)
        refine (sv_min jM32 c32_85 rfl lm_5_44 (Nat.not_lt.mpr (Nat.le_of_ble_eq_true rfl))).trans ?_
        refine (sv_putf jM32 c32_88 rfl lf_5_18 (pf_46_2 _ _)).trans ?_
        refine (sv_goto jM32 c32_91 rfl (t := 102) (by decide +kernel)).trans ?_
        exact sv_vret jM32 c32_102 rfl rfl
    ·
      refine (sv_aload_n jM32 c32_40 rfl rfl).trans ?_
      refine (sv_aload_n jM32 c32_41 rfl rfl).trans ?_
      refine (sv_getf jM32 c32_42 rfl lf_5_15 (fg_46_1 _)).trans ?_
      refine (sv_aload_n jM32 c32_45 rfl rfl).trans ?_
      refine (sv_iconst jM32 c32_46 rfl (v := 2) (by decide +kernel)).trans ?_
      refine (sv_iconst jM32 c32_47 rfl (v := 1) (by decide +kernel)).trans ?_
      refine (sv_bipush jM32 c32_48 rfl (v := 99) (by decide +kernel)).trans ?_
      refine (sv_callvi (pl := 0) jM32 c32_50 rfl (jm_call_v (a := 42) (as := [(.int (2 : Int32)), (.int (1 : Int32)), (.int (99 : Int32))]) (rest := [(.int (τ2 46 1)), (.ref 46)]) lm_5_40 rfl jM26 rfl rfl rfl rfl rfl) jM26 rfl (Or.inl rfl)).trans ?_
      refine jbi_c (fun r6 τ6 => ?_)
      refine (sv_min jM32 c32_53 rfl lm_5_44 (Nat.not_lt.mpr (Nat.le_of_ble_eq_true rfl))).trans ?_
      refine (sv_putf jM32 c32_56 rfl lf_5_15 (pf_46_1 _ _)).trans ?_
      refine (sv_goto jM32 c32_59 rfl (t := 102) (by decide +kernel)).trans ?_
      exact sv_vret jM32 c32_102 rfl rfl
  ·
    refine (sv_aload_n jM32 c32_9 rfl rfl).trans ?_
    refine (sv_aload_n jM32 c32_10 rfl rfl).trans ?_
    refine (sv_getf jM32 c32_11 rfl lf_5_11 (fg_46_0 _)).trans ?_
    refine (sv_aload_n jM32 c32_14 rfl rfl).trans ?_
    refine (sv_iconst jM32 c32_15 rfl (v := 2) (by decide +kernel)).trans ?_
    refine (sv_iconst jM32 c32_16 rfl (v := 1) (by decide +kernel)).trans ?_
    refine (sv_bipush jM32 c32_17 rfl (v := 99) (by decide +kernel)).trans ?_
    refine (sv_callvi (pl := 0) jM32 c32_19 rfl (jm_call_v (a := 42) (as := [(.int (2 : Int32)), (.int (1 : Int32)), (.int (99 : Int32))]) (rest := [(.int (τ1 46 0)), (.ref 46)]) lm_5_40 rfl jM26 rfl rfl rfl rfl rfl) jM26 rfl (Or.inl rfl)).trans ?_
    refine jbi_c (fun r7 τ7 => ?_)
    refine (sv_min jM32 c32_22 rfl lm_5_44 (Nat.not_lt.mpr (Nat.le_of_ble_eq_true rfl))).trans ?_
    refine (sv_putf jM32 c32_25 rfl lf_5_11 (pf_46_0 _ _)).trans ?_
    refine (sv_goto jM32 c32_28 rfl (t := 102) (by decide +kernel)).trans ?_
    exact sv_vret jM32 c32_102 rfl rfl
set_option maxRecDepth 20000 in
set_option maxHeartbeats 4000000 in
theorem Rule_addCondition_46_44_in (σ : jm_S) : jc 32 [(.ref 46), (.ref 44)] σ = jbi (jc 25 [(.ref 44), (.int (103 : Int32))] σ) (fun r1 τ1 => (if r1 = 0 then jbi (jc 25 [(.ref 44), (.int (110 : Int32))] τ1) (fun r2 τ2 => (if r2 = 0 then jbi (jc 25 [(.ref 44), (.int (116 : Int32))] τ2) (fun r3 τ3 => (if r3 = 0 then jbv (jc 27 [(.ref 44), (.int (τ3 44 2))] τ3) (fun τ4 => some (none, τ4)) else jbi (jc 26 [(.ref 44), (.int (3 : Int32)), (.int (1 : Int32)), (.int (200 : Int32))] τ3) (fun r5 τ5 => some (none, (jm_up τ5 46 2 (if r5 < (τ3 46 2) then r5 else (τ3 46 2))))))) else jbi (jc 26 [(.ref 44), (.int (2 : Int32)), (.int (1 : Int32)), (.int (99 : Int32))] τ2) (fun r6 τ6 => some (none, (jm_up τ6 46 1 (if r6 < (τ2 46 1) then r6 else (τ2 46 1))))))) else jbi (jc 26 [(.ref 44), (.int (2 : Int32)), (.int (1 : Int32)), (.int (99 : Int32))] τ1) (fun r7 τ7 => some (none, (jm_up τ7 46 0 (if r7 < (τ1 46 0) then r7 else (τ1 46 0))))))) := by
  refine (jc_of (ls1 := [some (.ref 46), some (.ref 44)]) ((jm_ini_of jM32).trans rfl)).trans ?_
  refine (sv_aload_n jM32 c32_0 rfl rfl).trans ?_
  refine (sv_bipush jM32 c32_1 rfl (v := 103) (by decide +kernel)).trans ?_
  refine (sv_callvi (pl := 0) jM32 c32_3 rfl (jm_call_v (a := 44) (as := [(.int (103 : Int32))]) (rest := []) lm_5_37 rfl jM25 rfl rfl rfl rfl rfl) jM25 rfl (Or.inr rfl)).trans ?_
  refine jbi_c (fun r1 τ1 => ?_)
  refine (sv_if_eq jM32 c32_6 rfl (t := 31) (by decide +kernel)).trans ?_
  refine jif _ ?_ ?_
  ·
    refine (sv_aload_n jM32 c32_31 rfl rfl).trans ?_
    refine (sv_bipush jM32 c32_32 rfl (v := 110) (by decide +kernel)).trans ?_
    refine (sv_callvi (pl := 0) jM32 c32_34 rfl (jm_call_v (a := 44) (as := [(.int (110 : Int32))]) (rest := []) lm_5_37 rfl jM25 rfl rfl rfl rfl rfl) jM25 rfl (Or.inr rfl)).trans ?_
    refine jbi_c (fun r2 τ2 => ?_)
    refine (sv_if_eq jM32 c32_37 rfl (t := 62) (by decide +kernel)).trans ?_
    refine jif _ ?_ ?_
    ·
      refine (sv_aload_n jM32 c32_62 rfl rfl).trans ?_
      refine (sv_bipush jM32 c32_63 rfl (v := 116) (by decide +kernel)).trans ?_
      refine (sv_callvi (pl := 0) jM32 c32_65 rfl (jm_call_v (a := 44) (as := [(.int (116 : Int32))]) (rest := []) lm_5_37 rfl jM25 rfl rfl rfl rfl rfl) jM25 rfl (Or.inr rfl)).trans ?_
      refine jbi_c (fun r3 τ3 => ?_)
      refine (sv_if_eq jM32 c32_68 rfl (t := 94) (by decide +kernel)).trans ?_
      refine jif _ ?_ ?_
      ·
        refine (sv_aload_n jM32 c32_94 rfl rfl).trans ?_
        refine (sv_aload_n jM32 c32_95 rfl rfl).trans ?_
        refine (sv_getf jM32 c32_96 rfl lf_5_50 (fg_44_2 _)).trans ?_
        refine (sv_callvv (pl := 0) jM32 c32_99 rfl (jm_call_v (a := 44) (as := [(.int (τ3 44 2))]) (rest := []) lm_5_53 rfl jM27 rfl rfl rfl rfl rfl) jM27 rfl rfl).trans ?_
        refine jbv_c (fun τ4 => ?_)
        exact sv_vret jM32 c32_102 rfl rfl
      ·
        refine (sv_aload_n jM32 c32_71 rfl rfl).trans ?_
        refine (sv_aload_n jM32 c32_72 rfl rfl).trans ?_
        refine (sv_getf jM32 c32_73 rfl lf_5_18 (fg_46_2 _)).trans ?_
        refine (sv_aload_n jM32 c32_76 rfl rfl).trans ?_
        refine (sv_iconst jM32 c32_77 rfl (v := 3) (by decide +kernel)).trans ?_
        refine (sv_iconst jM32 c32_78 rfl (v := 1) (by decide +kernel)).trans ?_
        refine (sv_sipush jM32 c32_79 rfl (v := 200) (by decide +kernel)).trans ?_
        refine (sv_callvi (pl := 0) jM32 c32_82 rfl (jm_call_v (a := 44) (as := [(.int (3 : Int32)), (.int (1 : Int32)), (.int (200 : Int32))]) (rest := [(.int (τ3 46 2)), (.ref 46)]) lm_5_40 rfl jM26 rfl rfl rfl rfl rfl) jM26 rfl (Or.inl rfl)).trans ?_
        refine jbi_c (fun r5 τ5 => ?_)
        refine (sv_min jM32 c32_85 rfl lm_5_44 (Nat.not_lt.mpr (Nat.le_of_ble_eq_true rfl))).trans ?_
        refine (sv_putf jM32 c32_88 rfl lf_5_18 (pf_46_2 _ _)).trans ?_
        refine (sv_goto jM32 c32_91 rfl (t := 102) (by decide +kernel)).trans ?_
        exact sv_vret jM32 c32_102 rfl rfl
    ·
      refine (sv_aload_n jM32 c32_40 rfl rfl).trans ?_
      refine (sv_aload_n jM32 c32_41 rfl rfl).trans ?_
      refine (sv_getf jM32 c32_42 rfl lf_5_15 (fg_46_1 _)).trans ?_
      refine (sv_aload_n jM32 c32_45 rfl rfl).trans ?_
      refine (sv_iconst jM32 c32_46 rfl (v := 2) (by decide +kernel)).trans ?_
      refine (sv_iconst jM32 c32_47 rfl (v := 1) (by decide +kernel)).trans ?_
      refine (sv_bipush jM32 c32_48 rfl (v := 99) (by decide +kernel)).trans ?_
      refine (sv_callvi (pl := 0) jM32 c32_50 rfl (jm_call_v (a := 44) (as := [(.int (2 : Int32)), (.int (1 : Int32)), (.int (99 : Int32))]) (rest := [(.int (τ2 46 1)), (.ref 46)]) lm_5_40 rfl jM26 rfl rfl rfl rfl rfl) jM26 rfl (Or.inl rfl)).trans ?_
      refine jbi_c (fun r6 τ6 => ?_)
      refine (sv_min jM32 c32_53 rfl lm_5_44 (Nat.not_lt.mpr (Nat.le_of_ble_eq_true rfl))).trans ?_
      refine (sv_putf jM32 c32_56 rfl lf_5_15 (pf_46_1 _ _)).trans ?_
      refine (sv_goto jM32 c32_59 rfl (t := 102) (by decide +kernel)).trans ?_
      exact sv_vret jM32 c32_102 rfl rfl
  ·
    refine (sv_aload_n jM32 c32_9 rfl rfl).trans ?_
    refine (sv_aload_n jM32 c32_10 rfl rfl).trans ?_
    refine (sv_getf jM32 c32_11 rfl lf_5_11 (fg_46_0 _)).trans ?_
    refine (sv_aload_n jM32 c32_14 rfl rfl).trans ?_
    refine (sv_iconst jM32 c32_15 rfl (v := 2) (by decide +kernel)).trans ?_
    refine (sv_iconst jM32 c32_16 rfl (v := 1) (by decide +kernel)).trans ?_
    refine (sv_bipush jM32 c32_17 rfl (v := 99) (by decide +kernel)).trans ?_
    refine (sv_callvi (pl := 0) jM32 c32_19 rfl (jm_call_v (a := 44) (as := [(.int (2 : Int32)), (.int (1 : Int32)), (.int (99 : Int32))]) (rest := [(.int (τ1 46 0)), (.ref 46)]) lm_5_40 rfl jM26 rfl rfl rfl rfl rfl) jM26 rfl (Or.inl rfl)).trans ?_
    refine jbi_c (fun r7 τ7 => ?_)
    refine (sv_min jM32 c32_22 rfl lm_5_44 (Nat.not_lt.mpr (Nat.le_of_ble_eq_true rfl))).trans ?_
    refine (sv_putf jM32 c32_25 rfl lf_5_11 (pf_46_0 _ _)).trans ?_
    refine (sv_goto jM32 c32_28 rfl (t := 102) (by decide +kernel)).trans ?_
    exact sv_vret jM32 c32_102 rfl rfl
set_option maxRecDepth 20000 in
set_option maxHeartbeats 4000000 in
theorem Rule_addCondition_49_42_in (σ : jm_S) : jc 32 [(.ref 49), (.ref 42)] σ = jbi (jc 25 [(.ref 42), (.int (103 : Int32))] σ) (fun r1 τ1 => (if r1 = 0 then jbi (jc 25 [(.ref 42), (.int (110 : Int32))] τ1) (fun r2 τ2 => (if r2 = 0 then jbi (jc 25 [(.ref 42), (.int (116 : Int32))] τ2) (fun r3 τ3 => (if r3 = 0 then jbv (jc 27 [(.ref 42), (.int (τ3 42 2))] τ3) (fun τ4 => some (none, τ4)) else jbi (jc 26 [(.ref 42), (.int (3 : Int32)), (.int (1 : Int32)), (.int (200 : Int32))] τ3) (fun r5 τ5 => some (none, (jm_up τ5 49 2 (if r5 < (τ3 49 2) then r5 else (τ3 49 2))))))) else jbi (jc 26 [(.ref 42), (.int (2 : Int32)), (.int (1 : Int32)), (.int (99 : Int32))] τ2) (fun r6 τ6 => some (none, (jm_up τ6 49 1 (if r6 < (τ2 49 1) then r6 else (τ2 49 1))))))) else jbi (jc 26 [(.ref 42), (.int (2 : Int32)), (.int (1 : Int32)), (.int (99 : Int32))] τ1) (fun r7 τ7 => some (none, (jm_up τ7 49 0 (if r7 < (τ1 49 0) then r7 else (τ1 49 0))))))) := by
  refine (jc_of (ls1 := [some (.ref 49), some (.ref 42)]) ((jm_ini_of jM32).trans rfl)).trans ?_
  refine (sv_aload_n jM32 c32_0 rfl rfl).trans ?_
  refine (sv_bipush jM32 c32_1 rfl (v := 103) (by decide +kernel)).trans ?_
  refine (sv_callvi (pl := 0) jM32 c32_3 rfl (jm_call_v (a := 42) (as := [(.int (103 : Int32))]) (rest := []) lm_5_37 rfl jM25 rfl rfl rfl rfl rfl) jM25 rfl (Or.inr rfl)).trans ?_
  refine jbi_c (fun r1 τ1 => ?_)
  refine (sv_if_eq jM32 c32_6 rfl (t := 31) (by decide +kernel)).trans ?_
  refine jif _ ?_ ?_
  ·
    refine (sv_aload_n jM32 c32_31 rfl rfl).trans ?_
    refine (sv_bipush jM32 c32_32 rfl (v := 110) (by decide +kernel)).trans ?_
    refine (sv_callvi (pl := 0) jM32 c32_34 rfl (jm_call_v (a := 42) (as := [(.int (110 : Int32))]) (rest := []) lm_5_37 rfl jM25 rfl rfl rfl rfl rfl) jM25 rfl (Or.inr rfl)).trans ?_
    refine jbi_c (fun r2 τ2 => ?_)
    refine (sv_if_eq jM32 c32_37 rfl (t := 62) (by decide +kernel)).trans ?_
    refine jif _ ?_ ?_
    ·
      refine (sv_aload_n jM32 c32_62 rfl rfl).trans ?_
      refine (sv_bipush jM32 c32_63 rfl (v := 116) (by decide +kernel)).trans ?_
      refine (sv_callvi (pl := 0) jM32 c32_65 rfl (jm_call_v (a := 42) (as := [(.int (116 : Int32))]) (rest := []) lm_5_37 rfl jM25 rfl rfl rfl rfl rfl) jM25 rfl (Or.inr rfl)).trans ?_
      refine jbi_c (fun r3 τ3 => ?_)
      refine (sv_if_eq jM32 c32_68 rfl (t := 94) (by decide +kernel)).trans ?_
      refine jif _ ?_ ?_
      ·
        refine (sv_aload_n jM32 c32_94 rfl rfl).trans ?_
        refine (sv_aload_n jM32 c32_95 rfl rfl).trans ?_
        refine (sv_getf jM32 c32_96 rfl lf_5_50 (fg_42_2 _)).trans ?_
        refine (sv_callvv (pl := 0) jM32 c32_99 rfl (jm_call_v (a := 42) (as := [(.int (τ3 42 2))]) (rest := []) lm_5_53 rfl jM27 rfl rfl rfl rfl rfl) jM27 rfl rfl).trans ?_
        refine jbv_c (fun τ4 => ?_)
        exact sv_vret jM32 c32_102 rfl rfl
      ·
        refine (sv_aload_n jM32 c32_71 rfl rfl).trans ?_
        refine (sv_aload_n jM32 c32_72 rfl rfl).trans ?_
        refine (sv_getf jM32 c32_73 rfl lf_5_18 (fg_49_2 _)).trans ?_
        refine (sv_aload_n jM32 c32_76 rfl rfl).trans ?_
        refine (sv_iconst jM32 c32_77 rfl (v := 3) (by decide +kernel)).trans ?_
        refine (sv_iconst jM32 c32_78 rfl (v := 1) (by decide +kernel)).trans ?_
        refine (sv_sipush jM32 c32_79 rfl (v := 200) (by decide +kernel)).trans ?_
        refine (sv_callvi (pl := 0) jM32 c32_82 rfl (jm_call_v (a := 42) (as := [(.int (3 : Int32)), (.int (1 : Int32)), (.int (200 : Int32))]) (rest := [(.int (τ3 49 2)), (.ref 49)]) lm_5_40 rfl jM26 rfl rfl rfl rfl rfl) jM26 rfl (Or.inl rfl)).trans ?_
        refine jbi_c (fun r5 τ5 => ?_)
        refine (sv_min jM32 c32_85 rfl lm_5_44 (Nat.not_lt.mpr (Nat.le_of_ble_eq_true rfl))).trans ?_
        refine (sv_putf jM32 c32_88 rfl lf_5_18 (pf_49_2 _ _)).trans ?_
        refine (sv_goto jM32 c32_91 rfl (t := 102) (by decide +kernel)).trans ?_
        exact sv_vret jM32 c32_102 rfl rfl
    ·
      refine (sv_aload_n jM32 c32_40 rfl rfl).trans ?_
      refine (sv_aload_n jM32 c32_41 rfl rfl).trans ?_
      refine (sv_getf jM32 c32_42 rfl lf_5_15 (fg_49_1 _)).trans ?_
      refine (sv_aload_n jM32 c32_45 rfl rfl).trans ?_
      refine (sv_iconst jM32 c32_46 rfl (v := 2) (by decide +kernel)).trans ?_
      refine (sv_iconst jM32 c32_47 rfl (v := 1) (by decide +kernel)).trans ?_
      refine (sv_bipush jM32 c32_48 rfl (v := 99) (by decide +kernel)).trans ?_
      refine (sv_callvi (pl := 0) jM32 c32_50 rfl (jm_call_v (a := 42) (as := [(.int (2 : Int32)), (.int (1 : Int32)), (.int (99 : Int32))]) (rest := [(.int (τ2 49 1)), (.ref 49)]) lm_5_40 rfl jM26 rfl rfl rfl rfl rfl) jM26 rfl (Or.inl rfl)).trans ?_
      refine jbi_c (fun r6 τ6 => ?_)
      refine (sv_min jM32 c32_53 rfl lm_5_44 (Nat.not_lt.mpr (Nat.le_of_ble_eq_true rfl))).trans ?_
      refine (sv_putf jM32 c32_56 rfl lf_5_15 (pf_49_1 _ _)).trans ?_
      refine (sv_goto jM32 c32_59 rfl (t := 102) (by decide +kernel)).trans ?_
      exact sv_vret jM32 c32_102 rfl rfl
  ·
    refine (sv_aload_n jM32 c32_9 rfl rfl).trans ?_
    refine (sv_aload_n jM32 c32_10 rfl rfl).trans ?_
    refine (sv_getf jM32 c32_11 rfl lf_5_11 (fg_49_0 _)).trans ?_
    refine (sv_aload_n jM32 c32_14 rfl rfl).trans ?_
    refine (sv_iconst jM32 c32_15 rfl (v := 2) (by decide +kernel)).trans ?_
    refine (sv_iconst jM32 c32_16 rfl (v := 1) (by decide +kernel)).trans ?_
    refine (sv_bipush jM32 c32_17 rfl (v := 99) (by decide +kernel)).trans ?_
    refine (sv_callvi (pl := 0) jM32 c32_19 rfl (jm_call_v (a := 42) (as := [(.int (2 : Int32)), (.int (1 : Int32)), (.int (99 : Int32))]) (rest := [(.int (τ1 49 0)), (.ref 49)]) lm_5_40 rfl jM26 rfl rfl rfl rfl rfl) jM26 rfl (Or.inl rfl)).trans ?_
    refine jbi_c (fun r7 τ7 => ?_)
    refine (sv_min jM32 c32_22 rfl lm_5_44 (Nat.not_lt.mpr (Nat.le_of_ble_eq_true rfl))).trans ?_
    refine (sv_putf jM32 c32_25 rfl lf_5_11 (pf_49_0 _ _)).trans ?_
    refine (sv_goto jM32 c32_28 rfl (t := 102) (by decide +kernel)).trans ?_
    exact sv_vret jM32 c32_102 rfl rfl
set_option maxRecDepth 20000 in
set_option maxHeartbeats 4000000 in
theorem Rule_addCondition_52_47_in (σ : jm_S) : jc 32 [(.ref 52), (.ref 47)] σ = jbi (jc 25 [(.ref 47), (.int (103 : Int32))] σ) (fun r1 τ1 => (if r1 = 0 then jbi (jc 25 [(.ref 47), (.int (110 : Int32))] τ1) (fun r2 τ2 => (if r2 = 0 then jbi (jc 25 [(.ref 47), (.int (116 : Int32))] τ2) (fun r3 τ3 => (if r3 = 0 then jbv (jc 27 [(.ref 47), (.int (τ3 47 2))] τ3) (fun τ4 => some (none, τ4)) else jbi (jc 26 [(.ref 47), (.int (3 : Int32)), (.int (1 : Int32)), (.int (200 : Int32))] τ3) (fun r5 τ5 => some (none, (jm_up τ5 52 2 (if r5 < (τ3 52 2) then r5 else (τ3 52 2))))))) else jbi (jc 26 [(.ref 47), (.int (2 : Int32)), (.int (1 : Int32)), (.int (99 : Int32))] τ2) (fun r6 τ6 => some (none, (jm_up τ6 52 1 (if r6 < (τ2 52 1) then r6 else (τ2 52 1))))))) else jbi (jc 26 [(.ref 47), (.int (2 : Int32)), (.int (1 : Int32)), (.int (99 : Int32))] τ1) (fun r7 τ7 => some (none, (jm_up τ7 52 0 (if r7 < (τ1 52 0) then r7 else (τ1 52 0))))))) := by
  refine (jc_of (ls1 := [some (.ref 52), some (.ref 47)]) ((jm_ini_of jM32).trans rfl)).trans ?_
  refine (sv_aload_n jM32 c32_0 rfl rfl).trans ?_
  refine (sv_bipush jM32 c32_1 rfl (v := 103) (by decide +kernel)).trans ?_
  refine (sv_callvi (pl := 0) jM32 c32_3 rfl (jm_call_v (a := 47) (as := [(.int (103 : Int32))]) (rest := []) lm_5_37 rfl jM25 rfl rfl rfl rfl rfl) jM25 rfl (Or.inr rfl)).trans ?_
  refine jbi_c (fun r1 τ1 => ?_)
  refine (sv_if_eq jM32 c32_6 rfl (t := 31) (by decide +kernel)).trans ?_
  refine jif _ ?_ ?_
  ·
    refine (sv_aload_n jM32 c32_31 rfl rfl).trans ?_
    refine (sv_bipush jM32 c32_32 rfl (v := 110) (by decide +kernel)).trans ?_
    refine (sv_callvi (pl := 0) jM32 c32_34 rfl (jm_call_v (a := 47) (as := [(.int (110 : Int32))]) (rest := []) lm_5_37 rfl jM25 rfl rfl rfl rfl rfl) jM25 rfl (Or.inr rfl)).trans ?_
    refine jbi_c (fun r2 τ2 => ?_)
    refine (sv_if_eq jM32 c32_37 rfl (t := 62) (by decide +kernel)).trans ?_
    refine jif _ ?_ ?_
    ·
      refine (sv_aload_n jM32 c32_62 rfl rfl).trans ?_
      refine (sv_bipush jM32 c32_63 rfl (v := 116) (by decide +kernel)).trans ?_
      refine (sv_callvi (pl := 0) jM32 c32_65 rfl (jm_call_v (a := 47) (as := [(.int (116 : Int32))]) (rest := []) lm_5_37 rfl jM25 rfl rfl rfl rfl rfl) jM25 rfl (Or.inr rfl)).trans ?_
      refine jbi_c (fun r3 τ3 => ?_)
      refine (sv_if_eq jM32 c32_68 rfl (t := 94) (by decide +kernel)).trans ?_
      refine jif _ ?_ ?_
      ·
        refine (sv_aload_n jM32 c32_94 rfl rfl).trans ?_
        refine (sv_aload_n jM32 c32_95 rfl rfl).trans ?_
        refine (sv_getf jM32 c32_96 rfl lf_5_50 (fg_47_2 _)).trans ?_
        refine (sv_callvv (pl := 0) jM32 c32_99 rfl (jm_call_v (a := 47) (as := [(.int (τ3 47 2))]) (rest := []) lm_5_53 rfl jM27 rfl rfl rfl rfl rfl) jM27 rfl rfl).trans ?_
        refine jbv_c (fun τ4 => ?_)
        exact sv_vret jM32 c32_102 rfl rfl
      ·
        refine (sv_aload_n jM32 c32_71 rfl rfl).trans ?_
        refine (sv_aload_n jM32 c32_72 rfl rfl).trans ?_
        refine (sv_getf jM32 c32_73 rfl lf_5_18 (fg_52_2 _)).trans ?_
        refine (sv_aload_n jM32 c32_76 rfl rfl).trans ?_
        refine (sv_iconst jM32 c32_77 rfl (v := 3) (by decide +kernel)).trans ?_
        refine (sv_iconst jM32 c32_78 rfl (v := 1) (by decide +kernel)).trans ?_
        refine (sv_sipush jM32 c32_79 rfl (v := 200) (by decide +kernel)).trans ?_
        refine (sv_callvi (pl := 0) jM32 c32_82 rfl (jm_call_v (a := 47) (as := [(.int (3 : Int32)), (.int (1 : Int32)), (.int (200 : Int32))]) (rest := [(.int (τ3 52 2)), (.ref 52)]) lm_5_40 rfl jM26 rfl rfl rfl rfl rfl) jM26 rfl (Or.inl rfl)).trans ?_
        refine jbi_c (fun r5 τ5 => ?_)
        refine (sv_min jM32 c32_85 rfl lm_5_44 (Nat.not_lt.mpr (Nat.le_of_ble_eq_true rfl))).trans ?_
        refine (sv_putf jM32 c32_88 rfl lf_5_18 (pf_52_2 _ _)).trans ?_
        refine (sv_goto jM32 c32_91 rfl (t := 102) (by decide +kernel)).trans ?_
        exact sv_vret jM32 c32_102 rfl rfl
    ·
      refine (sv_aload_n jM32 c32_40 rfl rfl).trans ?_
      refine (sv_aload_n jM32 c32_41 rfl rfl).trans ?_
      refine (sv_getf jM32 c32_42 rfl lf_5_15 (fg_52_1 _)).trans ?_
      refine (sv_aload_n jM32 c32_45 rfl rfl).trans ?_
      refine (sv_iconst jM32 c32_46 rfl (v := 2) (by decide +kernel)).trans ?_
      refine (sv_iconst jM32 c32_47 rfl (v := 1) (by decide +kernel)).trans ?_
      refine (sv_bipush jM32 c32_48 rfl (v := 99) (by decide +kernel)).trans ?_
      refine (sv_callvi (pl := 0) jM32 c32_50 rfl (jm_call_v (a := 47) (as := [(.int (2 : Int32)), (.int (1 : Int32)), (.int (99 : Int32))]) (rest := [(.int (τ2 52 1)), (.ref 52)]) lm_5_40 rfl jM26 rfl rfl rfl rfl rfl) jM26 rfl (Or.inl rfl)).trans ?_
      refine jbi_c (fun r6 τ6 => ?_)
      refine (sv_min jM32 c32_53 rfl lm_5_44 (Nat.not_lt.mpr (Nat.le_of_ble_eq_true rfl))).trans ?_
      refine (sv_putf jM32 c32_56 rfl lf_5_15 (pf_52_1 _ _)).trans ?_
      refine (sv_goto jM32 c32_59 rfl (t := 102) (by decide +kernel)).trans ?_
      exact sv_vret jM32 c32_102 rfl rfl
  ·
    refine (sv_aload_n jM32 c32_9 rfl rfl).trans ?_
    refine (sv_aload_n jM32 c32_10 rfl rfl).trans ?_
    refine (sv_getf jM32 c32_11 rfl lf_5_11 (fg_52_0 _)).trans ?_
    refine (sv_aload_n jM32 c32_14 rfl rfl).trans ?_
    refine (sv_iconst jM32 c32_15 rfl (v := 2) (by decide +kernel)).trans ?_
    refine (sv_iconst jM32 c32_16 rfl (v := 1) (by decide +kernel)).trans ?_
    refine (sv_bipush jM32 c32_17 rfl (v := 99) (by decide +kernel)).trans ?_
    refine (sv_callvi (pl := 0) jM32 c32_19 rfl (jm_call_v (a := 47) (as := [(.int (2 : Int32)), (.int (1 : Int32)), (.int (99 : Int32))]) (rest := [(.int (τ1 52 0)), (.ref 52)]) lm_5_40 rfl jM26 rfl rfl rfl rfl rfl) jM26 rfl (Or.inl rfl)).trans ?_
    refine jbi_c (fun r7 τ7 => ?_)
    refine (sv_min jM32 c32_22 rfl lm_5_44 (Nat.not_lt.mpr (Nat.le_of_ble_eq_true rfl))).trans ?_
    refine (sv_putf jM32 c32_25 rfl lf_5_11 (pf_52_0 _ _)).trans ?_
    refine (sv_goto jM32 c32_28 rfl (t := 102) (by decide +kernel)).trans ?_
    exact sv_vret jM32 c32_102 rfl rfl
set_option maxRecDepth 20000 in
set_option maxHeartbeats 4000000 in
theorem Evens_isBetter_in (x1 : Int32) (x2 : Int32) (σ : jm_S) : jc 72 [(.ref 35), (.int x1), (.int x2)] σ = (if x1 < 0 ∨ 100 ≤ x1.toNatClampNeg then none else (if x2 < 0 ∨ 100 ≤ x2.toNatClampNeg then none else (if (σ 36 x1.toNatClampNeg) ≤ (σ 36 x2.toNatClampNeg) then (if x1 < 0 ∨ 100 ≤ x1.toNatClampNeg then none else (if x2 < 0 ∨ 100 ≤ x2.toNatClampNeg then none else (if ¬ (σ 36 x1.toNatClampNeg) = (σ 36 x2.toNatClampNeg) then some (some (.int (0 : Int32)), σ) else (if x1 < 0 ∨ 100 ≤ x1.toNatClampNeg then none else (if x2 < 0 ∨ 100 ≤ x2.toNatClampNeg then none else (if (σ 37 x2.toNatClampNeg) ≤ (σ 37 x1.toNatClampNeg) then some (some (.int (0 : Int32)), σ) else some (some (.int (1 : Int32)), σ))))))) else (if x1 < 0 ∨ 100 ≤ x1.toNatClampNeg then none else (if x2 < 0 ∨ 100 ≤ x2.toNatClampNeg then none else (if (σ 37 x1.toNatClampNeg) ≤ (σ 37 x2.toNatClampNeg) then some (some (.int (1 : Int32)), σ) else (if x1 < 0 ∨ 100 ≤ x1.toNatClampNeg then none else (if x2 < 0 ∨ 100 ≤ x2.toNatClampNeg then none else (if ¬ (σ 36 x1.toNatClampNeg) = (σ 36 x2.toNatClampNeg) then some (some (.int (0 : Int32)), σ) else (if x1 < 0 ∨ 100 ≤ x1.toNatClampNeg then none else (if x2 < 0 ∨ 100 ≤ x2.toNatClampNeg then none else (if (σ 37 x2.toNatClampNeg) ≤ (σ 37 x1.toNatClampNeg) then some (some (.int (0 : Int32)), σ) else some (some (.int (1 : Int32)), σ))))))))))))) := by
  refine (jc_of (ls1 := [some (.ref 35), some (.int x1), some (.int x2)]) ((jm_ini_of jM72).trans rfl)).trans ?_
  refine (sv_aload_n jM72 c72_0 rfl rfl).trans ?_
  refine (sv_getf jM72 c72_1 rfl lf_1_9 (fg_35_0 _)).trans ?_
  refine (sv_iload_n jM72 c72_4 rfl rfl).trans ?_
  refine (sv_iald jM72 c72_5 rfl (ia_36 _)).trans ?_
  refine jif _ rfl ?_
  refine (sv_aload_n jM72 c72_6 rfl rfl).trans ?_
  refine (sv_getf jM72 c72_7 rfl lf_1_9 (fg_35_0 _)).trans ?_
  refine (sv_iload_n jM72 c72_10 rfl rfl).trans ?_
  refine (sv_iald jM72 c72_11 rfl (ia_36 _)).trans ?_
  refine jif _ rfl ?_
  refine (sv_icmp_le jM72 c72_12 rfl (t := 30) (by decide +kernel)).trans ?_
  refine jif _ ?_ ?_
  ·
    refine (sv_aload_n jM72 c72_30 rfl rfl).trans ?_
    refine (sv_getf jM72 c72_31 rfl lf_1_9 (fg_35_0 _)).trans ?_
    refine (sv_iload_n jM72 c72_34 rfl rfl).trans ?_
    refine (sv_iald jM72 c72_35 rfl (ia_36 _)).trans ?_
    refine jif _ rfl ?_
    refine (sv_aload_n jM72 c72_36 rfl rfl).trans ?_
    refine (sv_getf jM72 c72_37 rfl lf_1_9 (fg_35_0 _)).trans ?_
    refine (sv_iload_n jM72 c72_40 rfl rfl).trans ?_
    refine (sv_iald jM72 c72_41 rfl (ia_36 _)).trans ?_
    refine jif _ rfl ?_
    refine (sv_icmp_ne jM72 c72_42 rfl (t := 64) (by decide +kernel)).trans ?_
    refine jif _ ?_ ?_
    ·
      refine (sv_iconst jM72 c72_64 rfl (v := 0) (by decide +kernel)).trans ?_
      exact sv_zret jM72 c72_65 rfl rfl (by decide +kernel)
    ·
      refine (sv_aload_n jM72 c72_45 rfl rfl).trans ?_
      refine (sv_getf jM72 c72_46 rfl lf_1_15 (fg_35_1 _)).trans ?_
      refine (sv_iload_n jM72 c72_49 rfl rfl).trans ?_
      refine (sv_iald jM72 c72_50 rfl (ia_37 _)).trans ?_
      refine jif _ rfl ?_
      refine (sv_aload_n jM72 c72_51 rfl rfl).trans ?_
      refine (sv_getf jM72 c72_52 rfl lf_1_15 (fg_35_1 _)).trans ?_
      refine (sv_iload_n jM72 c72_55 rfl rfl).trans ?_
      refine (sv_iald jM72 c72_56 rfl (ia_37 _)).trans ?_
      refine jif _ rfl ?_
      refine (sv_icmp_ge jM72 c72_57 rfl (t := 64) (by decide +kernel)).trans ?_
      refine jif _ ?_ ?_
      ·
        refine (sv_iconst jM72 c72_64 rfl (v := 0) (by decide +kernel)).trans ?_
        exact sv_zret jM72 c72_65 rfl rfl (by decide +kernel)
      ·
        refine (sv_iconst jM72 c72_60 rfl (v := 1) (by decide +kernel)).trans ?_
        refine (sv_goto jM72 c72_61 rfl (t := 65) (by decide +kernel)).trans ?_
        exact sv_zret jM72 c72_65 rfl rfl (by decide +kernel)
  ·
    refine (sv_aload_n jM72 c72_15 rfl rfl).trans ?_
    refine (sv_getf jM72 c72_16 rfl lf_1_15 (fg_35_1 _)).trans ?_
    refine (sv_iload_n jM72 c72_19 rfl rfl).trans ?_
    refine (sv_iald jM72 c72_20 rfl (ia_37 _)).trans ?_
    refine jif _ rfl ?_
    refine (sv_aload_n jM72 c72_21 rfl rfl).trans ?_
    refine (sv_getf jM72 c72_22 rfl lf_1_15 (fg_35_1 _)).trans ?_
    refine (sv_iload_n jM72 c72_25 rfl rfl).trans ?_
    refine (sv_iald jM72 c72_26 rfl (ia_37 _)).trans ?_
    refine jif _ rfl ?_
    refine (sv_icmp_le jM72 c72_27 rfl (t := 60) (by decide +kernel)).trans ?_
    refine jif _ ?_ ?_
    ·
      refine (sv_iconst jM72 c72_60 rfl (v := 1) (by decide +kernel)).trans ?_
      refine (sv_goto jM72 c72_61 rfl (t := 65) (by decide +kernel)).trans ?_
      exact sv_zret jM72 c72_65 rfl rfl (by decide +kernel)
    ·
      refine (sv_aload_n jM72 c72_30 rfl rfl).trans ?_
      refine (sv_getf jM72 c72_31 rfl lf_1_9 (fg_35_0 _)).trans ?_
      refine (sv_iload_n jM72 c72_34 rfl rfl).trans ?_
      refine (sv_iald jM72 c72_35 rfl (ia_36 _)).trans ?_
      refine jif _ rfl ?_
      refine (sv_aload_n jM72 c72_36 rfl rfl).trans ?_
      refine (sv_getf jM72 c72_37 rfl lf_1_9 (fg_35_0 _)).trans ?_
      refine (sv_iload_n jM72 c72_40 rfl rfl).trans ?_
      refine (sv_iald jM72 c72_41 rfl (ia_36 _)).trans ?_
      refine jif _ rfl ?_
      refine (sv_icmp_ne jM72 c72_42 rfl (t := 64) (by decide +kernel)).trans ?_
      refine jif _ ?_ ?_
      ·
        refine (sv_iconst jM72 c72_64 rfl (v := 0) (by decide +kernel)).trans ?_
        exact sv_zret jM72 c72_65 rfl rfl (by decide +kernel)
      ·
        refine (sv_aload_n jM72 c72_45 rfl rfl).trans ?_
        refine (sv_getf jM72 c72_46 rfl lf_1_15 (fg_35_1 _)).trans ?_
        refine (sv_iload_n jM72 c72_49 rfl rfl).trans ?_
        refine (sv_iald jM72 c72_50 rfl (ia_37 _)).trans ?_
        refine jif _ rfl ?_
        refine (sv_aload_n jM72 c72_51 rfl rfl).trans ?_
        refine (sv_getf jM72 c72_52 rfl lf_1_15 (fg_35_1 _)).trans ?_
        refine (sv_iload_n jM72 c72_55 rfl rfl).trans ?_
        refine (sv_iald jM72 c72_56 rfl (ia_37 _)).trans ?_
        refine jif _ rfl ?_
        refine (sv_icmp_ge jM72 c72_57 rfl (t := 64) (by decide +kernel)).trans ?_
        refine jif _ ?_ ?_
        ·
          refine (sv_iconst jM72 c72_64 rfl (v := 0) (by decide +kernel)).trans ?_
          exact sv_zret jM72 c72_65 rfl rfl (by decide +kernel)
        ·
          refine (sv_iconst jM72 c72_60 rfl (v := 1) (by decide +kernel)).trans ?_
          refine (sv_goto jM72 c72_61 rfl (t := 65) (by decide +kernel)).trans ?_
          exact sv_zret jM72 c72_65 rfl rfl (by decide +kernel)
set_option maxRecDepth 20000 in
set_option maxHeartbeats 4000000 in
theorem Hearing_offIn_11_in (σ : jm_S) : jc 100 [(.ref 38), (.ref 11)] σ = jv 100 4 [some (.ref 38), some (.ref 11), some (.int (0 : Int32)), some (.int (0 : Int32)), none] [] σ := by
  refine (jc_of (ls1 := [some (.ref 38), some (.ref 11), none, none, none]) ((jm_ini_of jM100).trans rfl)).trans ?_
  refine (sv_iconst jM100 c100_0 rfl (v := 0) (by decide +kernel)).trans ?_
  refine (sv_istore_n (ls1 := [some (.ref 38), some (.ref 11), some (.int (0 : Int32)), none, none]) jM100 c100_1 rfl (Nat.lt_of_lt_of_eq (by decide +kernel : 2 < 5) rfl) rfl).trans ?_
  refine (sv_iconst jM100 c100_2 rfl (v := 0) (by decide +kernel)).trans ?_
  refine (sv_istore_n (ls1 := [some (.ref 38), some (.ref 11), some (.int (0 : Int32)), some (.int (0 : Int32)), none]) jM100 c100_3 rfl (Nat.lt_of_lt_of_eq (by decide +kernel : 3 < 5) rfl) rfl).trans ?_
  rfl
set_option maxRecDepth 20000 in
set_option maxHeartbeats 4000000 in
theorem Hearing_offIn_11_L4 (x2 : Int32) (x3 : Int32) (u4 : Option Value) (σ : jm_S) : jv 100 4 [some (.ref 38), some (.ref 11), some (.int x2), some (.int x3), u4] [] σ = (if (σ 38 2) ≤ x3 then some (some (.int x2), σ) else (if x3 < 0 ∨ 12 ≤ x3.toNatClampNeg then none else jbi (jc 47 [(.ref 11), (.int (σ 39 x3.toNatClampNeg)), (.int (4 : Int32))] σ) (fun r1 τ1 => (if ¬ r1 = (-1 : Int32) then (if x3 < 0 ∨ 12 ≤ x3.toNatClampNeg then none else jv 100 4 [some (.ref 38), some (.ref 11), some (.int (x2 + (if 0 ≤ (r1 - (τ1 40 x3.toNatClampNeg)) then (r1 - (τ1 40 x3.toNatClampNeg)) else 0 - (r1 - (τ1 40 x3.toNatClampNeg))))), some (.int (x3 + 1)), some (.int r1)] [] τ1) else jv 100 4 [some (.ref 38), some (.ref 11), some (.int (x2 + (200 : Int32))), some (.int (x3 + 1)), some (.int r1)] [] τ1)))) := by
  refine (sv_iload_n jM100 c100_4 rfl rfl).trans ?_
  refine (sv_aload_n jM100 c100_5 rfl rfl).trans ?_
  refine (sv_getf jM100 c100_6 rfl lf_3_18 (fg_38_2 _)).trans ?_
  refine (sv_icmp_ge jM100 c100_9 rfl (t := 58) (by decide +kernel)).trans ?_
  refine jif _ ?_ ?_
  ·
    refine (sv_iload_n jM100 c100_58 rfl rfl).trans ?_
    exact sv_iret jM100 c100_59 rfl rfl
  ·
    refine (sv_aload_n jM100 c100_12 rfl rfl).trans ?_
    refine (sv_aload_n jM100 c100_13 rfl rfl).trans ?_
    refine (sv_getf jM100 c100_14 rfl lf_3_9 (fg_38_0 _)).trans ?_
    refine (sv_iload_n jM100 c100_17 rfl rfl).trans ?_
    refine (sv_iald jM100 c100_18 rfl (ia_39 _)).trans ?_
    refine jif _ rfl ?_
    refine (sv_iconst jM100 c100_19 rfl (v := 4) (by decide +kernel)).trans ?_
    refine (sv_callvi (pl := 0) jM100 c100_20 rfl (jm_call_v (a := 11) (as := [(.int (σ 39 x3.toNatClampNeg)), (.int (4 : Int32))]) (rest := []) lm_3_41 rfl jM47 rfl rfl rfl rfl rfl) jM47 rfl (Or.inl rfl)).trans ?_
    refine jbi_c (fun r1 τ1 => ?_)
    refine (sv_istore (ls1 := [some (.ref 38), some (.ref 11), some (.int x2), some (.int x3), some (.int r1)]) jM100 c100_23 rfl (Nat.lt_of_lt_of_eq (by decide +kernel : 4 < 5) rfl) rfl).trans ?_
    refine (sv_iload_n jM100 c100_25 rfl rfl).trans ?_
    refine (sv_iload jM100 c100_26 rfl rfl).trans ?_
    refine (sv_iconst jM100 c100_28 rfl (v := -1) (by decide +kernel)).trans ?_
    refine (sv_icmp_ne jM100 c100_29 rfl (t := 38) (by decide +kernel)).trans ?_
    refine jif _ ?_ ?_
    ·
      refine (sv_iload jM100 c100_38 rfl rfl).trans ?_
      refine (sv_aload_n jM100 c100_40 rfl rfl).trans ?_
      refine (sv_getf jM100 c100_41 rfl lf_3_15 (fg_38_1 _)).trans ?_
      refine (sv_iload_n jM100 c100_44 rfl rfl).trans ?_
      refine (sv_iald jM100 c100_45 rfl (ia_40 _)).trans ?_
      refine jif _ rfl ?_
      refine (sv_isub jM100 c100_46 rfl).trans ?_
      refine (sv_abs jM100 c100_47 rfl lm_3_47 (Nat.not_lt.mpr (Nat.le_of_ble_eq_true rfl))).trans ?_
      refine (sv_iadd jM100 c100_50 rfl).trans ?_
      refine (sv_istore_n (ls1 := [some (.ref 38), some (.ref 11), some (.int (x2 + (if 0 ≤ (r1 - (τ1 40 x3.toNatClampNeg)) then (r1 - (τ1 40 x3.toNatClampNeg)) else 0 - (r1 - (τ1 40 x3.toNatClampNeg))))), some (.int x3), some (.int r1)]) jM100 c100_51 rfl (Nat.lt_of_lt_of_eq (by decide +kernel : 2 < 5) rfl) rfl).trans ?_
      refine (sv_iinc (ls1 := [some (.ref 38), some (.ref 11), some (.int (x2 + (if 0 ≤ (r1 - (τ1 40 x3.toNatClampNeg)) then (r1 - (τ1 40 x3.toNatClampNeg)) else 0 - (r1 - (τ1 40 x3.toNatClampNeg))))), some (.int (x3 + 1)), some (.int r1)]) jM100 c100_52 rfl rfl (v := 1) (by decide +kernel) rfl).trans ?_
      refine (sv_goto jM100 c100_55 rfl (t := 4) (by decide +kernel)).trans ?_
      rfl
    ·
      refine (sv_sipush jM100 c100_32 rfl (v := 200) (by decide +kernel)).trans ?_
      refine (sv_goto jM100 c100_35 rfl (t := 50) (by decide +kernel)).trans ?_
      refine (sv_iadd jM100 c100_50 rfl).trans ?_
      refine (sv_istore_n (ls1 := [some (.ref 38), some (.ref 11), some (.int (x2 + (200 : Int32))), some (.int x3), some (.int r1)]) jM100 c100_51 rfl (Nat.lt_of_lt_of_eq (by decide +kernel : 2 < 5) rfl) rfl).trans ?_
      refine (sv_iinc (ls1 := [some (.ref 38), some (.ref 11), some (.int (x2 + (200 : Int32))), some (.int (x3 + 1)), some (.int r1)]) jM100 c100_52 rfl rfl (v := 1) (by decide +kernel) rfl).trans ?_
      refine (sv_goto jM100 c100_55 rfl (t := 4) (by decide +kernel)).trans ?_
      rfl
set_option maxRecDepth 20000 in
set_option maxHeartbeats 4000000 in
theorem Text_needs_47_in (x1 : Int32) (σ : jm_S) : jc 28 [(.ref 47), (.int x1)] σ = jbi (jc 25 [(.ref 47), (.int x1)] σ) (fun r1 τ1 => (if ¬ r1 = 0 then some (none, τ1) else jbv (jc 27 [(.ref 47), (.int (τ1 47 2))] τ1) (fun τ2 => some (none, τ2)))) := by
  refine (jc_of (ls1 := [some (.ref 47), some (.int x1)]) ((jm_ini_of jM28).trans rfl)).trans ?_
  refine (sv_aload_n jM28 c28_0 rfl rfl).trans ?_
  refine (sv_iload_n jM28 c28_1 rfl rfl).trans ?_
  refine (sv_callvi (pl := 0) jM28 c28_2 rfl (jm_call_v (a := 47) (as := [(.int x1)]) (rest := []) lm_7_25 rfl jM25 rfl rfl rfl rfl rfl) jM25 rfl (Or.inr rfl)).trans ?_
  refine jbi_c (fun r1 τ1 => ?_)
  refine (sv_if_ne jM28 c28_5 rfl (t := 16) (by decide +kernel)).trans ?_
  refine jif _ ?_ ?_
  ·
    exact sv_vret jM28 c28_16 rfl rfl
  ·
    refine (sv_aload_n jM28 c28_8 rfl rfl).trans ?_
    refine (sv_aload_n jM28 c28_9 rfl rfl).trans ?_
    refine (sv_getf jM28 c28_10 rfl lf_7_15 (fg_47_2 _)).trans ?_
    refine (sv_callvv (pl := 0) jM28 c28_13 rfl (jm_call_v (a := 47) (as := [(.int (τ1 47 2))]) (rest := []) lm_7_29 rfl jM27 rfl rfl rfl rfl rfl) jM27 rfl rfl).trans ?_
    refine jbv_c (fun τ2 => ?_)
    exact sv_vret jM28 c28_16 rfl rfl
set_option maxRecDepth 20000 in
set_option maxHeartbeats 4000000 in
theorem Arrays_fill_7_in (x1 : Int32) (σ : jm_S) : jc 21 [(.ref 7), (.int x1)] σ = jv 21 5 [some (.ref 7), some (.int x1), some (.int (0 : Int32)), some (.int (200 : Int32))] [] σ := by
  refine (jc_of (ls1 := [some (.ref 7), some (.int x1), none, none]) ((jm_ini_of jM21).trans rfl)).trans ?_
  refine (sv_iconst jM21 c21_0 rfl (v := 0) (by decide +kernel)).trans ?_
  refine (sv_istore_n (ls1 := [some (.ref 7), some (.int x1), some (.int (0 : Int32)), none]) jM21 c21_1 rfl (Nat.lt_of_lt_of_eq (by decide +kernel : 2 < 4) rfl) rfl).trans ?_
  refine (sv_aload_n jM21 c21_2 rfl rfl).trans ?_
  refine (sv_alen jM21 c21_3 rfl (ln_7 _) (v := 200) (by decide +kernel)).trans ?_
  refine (sv_istore_n (ls1 := [some (.ref 7), some (.int x1), some (.int (0 : Int32)), some (.int (200 : Int32))]) jM21 c21_4 rfl (Nat.lt_of_lt_of_eq (by decide +kernel : 3 < 4) rfl) rfl).trans ?_
  rfl
set_option maxRecDepth 20000 in
set_option maxHeartbeats 4000000 in
theorem Arrays_fill_7_L5 (x1 : Int32) (x2 : Int32) (x3 : Int32) (σ : jm_S) : jv 21 5 [some (.ref 7), some (.int x1), some (.int x2), some (.int x3)] [] σ = (if x3 ≤ x2 then some (none, σ) else (if x2 < 0 ∨ 200 ≤ x2.toNatClampNeg then none else jv 21 5 [some (.ref 7), some (.int x1), some (.int (x2 + 1)), some (.int x3)] [] (jm_up σ 7 x2.toNatClampNeg x1))) := by
  refine (sv_iload_n jM21 c21_5 rfl rfl).trans ?_
  refine (sv_iload_n jM21 c21_6 rfl rfl).trans ?_
  refine (sv_icmp_ge jM21 c21_7 rfl (t := 20) (by decide +kernel)).trans ?_
  refine jif _ ?_ ?_
  ·
    exact sv_vret jM21 c21_20 rfl rfl
  ·
    refine (sv_aload_n jM21 c21_10 rfl rfl).trans ?_
    refine (sv_iload_n jM21 c21_11 rfl rfl).trans ?_
    refine (sv_iload_n jM21 c21_12 rfl rfl).trans ?_
    refine (sv_iast jM21 c21_13 rfl wi_7).trans ?_
    refine jif _ rfl ?_
    refine (sv_iinc (ls1 := [some (.ref 7), some (.int x1), some (.int (x2 + 1)), some (.int x3)]) jM21 c21_14 rfl rfl (v := 1) (by decide +kernel) rfl).trans ?_
    refine (sv_goto jM21 c21_17 rfl (t := 5) (by decide +kernel)).trans ?_
    rfl
set_option maxRecDepth 20000 in
set_option maxHeartbeats 4000000 in
theorem Heating_putLid_in (x1 : Int32) (σ : jm_S) : jc 22 [(.ref 6), (.int x1)] σ = jv 22 5 [some (.ref 6), some (.int x1), some (.int (σ 6 3))] [] σ := by
  refine (jc_of (ls1 := [some (.ref 6), some (.int x1), none]) ((jm_ini_of jM22).trans rfl)).trans ?_
  refine (sv_aload_n jM22 c22_0 rfl rfl).trans ?_
  refine (sv_getf jM22 c22_1 rfl lf_4_22 (fg_6_3 _)).trans ?_
  refine (sv_istore_n (ls1 := [some (.ref 6), some (.int x1), some (.int (σ 6 3))]) jM22 c22_4 rfl (Nat.lt_of_lt_of_eq (by decide +kernel : 2 < 3) rfl) rfl).trans ?_
  rfl
set_option maxRecDepth 20000 in
set_option maxHeartbeats 4000000 in
theorem Heating_putLid_L5 (x1 : Int32) (x2 : Int32) (σ : jm_S) : jv 22 5 [some (.ref 6), some (.int x1), some (.int x2)] [] σ = (if (200 : Int32) ≤ x2 then some (none, σ) else (if x2 < 0 ∨ 200 ≤ x2.toNatClampNeg ∨ ¬ (x1 = 0 ∨ x1 = 1) then none else jv 22 5 [some (.ref 6), some (.int x1), some (.int (x2 + 1))] [] (jm_up σ 9 x2.toNatClampNeg x1))) := by
  refine (sv_iload_n jM22 c22_5 rfl rfl).trans ?_
  refine (sv_sipush jM22 c22_6 rfl (v := 200) (by decide +kernel)).trans ?_
  refine (sv_icmp_ge jM22 c22_9 rfl (t := 25) (by decide +kernel)).trans ?_
  refine jif _ ?_ ?_
  ·
    exact sv_vret jM22 c22_25 rfl rfl
  ·
    refine (sv_aload_n jM22 c22_12 rfl rfl).trans ?_
    refine (sv_getf jM22 c22_13 rfl lf_4_18 (fg_6_2 _)).trans ?_
    refine (sv_iload_n jM22 c22_16 rfl rfl).trans ?_
    refine (sv_iload_n jM22 c22_17 rfl rfl).trans ?_
    refine (sv_bast jM22 c22_18 rfl wi_9).trans ?_
    refine jif _ rfl ?_
    refine (sv_iinc (ls1 := [some (.ref 6), some (.int x1), some (.int (x2 + 1))]) jM22 c22_19 rfl rfl (v := 1) (by decide +kernel) rfl).trans ?_
    refine (sv_goto jM22 c22_22 rfl (t := 5) (by decide +kernel)).trans ?_
    rfl
set_option maxRecDepth 20000 in
set_option maxHeartbeats 4000000 in
theorem Arrays_fill_8_in (x1 : Int32) (σ : jm_S) : jc 21 [(.ref 8), (.int x1)] σ = jv 21 5 [some (.ref 8), some (.int x1), some (.int (0 : Int32)), some (.int (200 : Int32))] [] σ := by
  refine (jc_of (ls1 := [some (.ref 8), some (.int x1), none, none]) ((jm_ini_of jM21).trans rfl)).trans ?_
  refine (sv_iconst jM21 c21_0 rfl (v := 0) (by decide +kernel)).trans ?_
  refine (sv_istore_n (ls1 := [some (.ref 8), some (.int x1), some (.int (0 : Int32)), none]) jM21 c21_1 rfl (Nat.lt_of_lt_of_eq (by decide +kernel : 2 < 4) rfl) rfl).trans ?_
  refine (sv_aload_n jM21 c21_2 rfl rfl).trans ?_
  refine (sv_alen jM21 c21_3 rfl (ln_8 _) (v := 200) (by decide +kernel)).trans ?_
  refine (sv_istore_n (ls1 := [some (.ref 8), some (.int x1), some (.int (0 : Int32)), some (.int (200 : Int32))]) jM21 c21_4 rfl (Nat.lt_of_lt_of_eq (by decide +kernel : 3 < 4) rfl) rfl).trans ?_
  rfl
set_option maxRecDepth 20000 in
set_option maxHeartbeats 4000000 in
theorem Arrays_fill_8_L5 (x1 : Int32) (x2 : Int32) (x3 : Int32) (σ : jm_S) : jv 21 5 [some (.ref 8), some (.int x1), some (.int x2), some (.int x3)] [] σ = (if x3 ≤ x2 then some (none, σ) else (if x2 < 0 ∨ 200 ≤ x2.toNatClampNeg then none else jv 21 5 [some (.ref 8), some (.int x1), some (.int (x2 + 1)), some (.int x3)] [] (jm_up σ 8 x2.toNatClampNeg x1))) := by
  refine (sv_iload_n jM21 c21_5 rfl rfl).trans ?_
  refine (sv_iload_n jM21 c21_6 rfl rfl).trans ?_
  refine (sv_icmp_ge jM21 c21_7 rfl (t := 20) (by decide +kernel)).trans ?_
  refine jif _ ?_ ?_
  ·
    exact sv_vret jM21 c21_20 rfl rfl
  ·
    refine (sv_aload_n jM21 c21_10 rfl rfl).trans ?_
    refine (sv_iload_n jM21 c21_11 rfl rfl).trans ?_
    refine (sv_iload_n jM21 c21_12 rfl rfl).trans ?_
    refine (sv_iast jM21 c21_13 rfl wi_8).trans ?_
    refine jif _ rfl ?_
    refine (sv_iinc (ls1 := [some (.ref 8), some (.int x1), some (.int (x2 + 1)), some (.int x3)]) jM21 c21_14 rfl rfl (v := 1) (by decide +kernel) rfl).trans ?_
    refine (sv_goto jM21 c21_17 rfl (t := 5) (by decide +kernel)).trans ?_
    rfl
set_option maxRecDepth 20000 in
set_option maxHeartbeats 4000000 in
theorem Text_failAt_47_in (x1 : Int32) (σ : jm_S) : jc 27 [(.ref 47), (.int x1)] σ = (if ¬ (σ 47 3) = (-1 : Int32) then some (none, σ) else some (none, (jm_up σ 47 3 x1))) := by
  refine (jc_of (ls1 := [some (.ref 47), some (.int x1)]) ((jm_ini_of jM27).trans rfl)).trans ?_
  refine (sv_aload_n jM27 c27_0 rfl rfl).trans ?_
  refine (sv_getf jM27 c27_1 rfl lf_7_18 (fg_47_3 _)).trans ?_
  refine (sv_iconst jM27 c27_4 rfl (v := -1) (by decide +kernel)).trans ?_
  refine (sv_icmp_ne jM27 c27_5 rfl (t := 13) (by decide +kernel)).trans ?_
  refine jif _ ?_ ?_
  ·
    exact sv_vret jM27 c27_13 rfl rfl
  ·
    refine (sv_aload_n jM27 c27_8 rfl rfl).trans ?_
    refine (sv_iload_n jM27 c27_9 rfl rfl).trans ?_
    refine (sv_putf jM27 c27_10 rfl lf_7_18 (pf_47_3 _ _)).trans ?_
    exact sv_vret jM27 c27_13 rfl rfl
set_option maxRecDepth 20000 in
set_option maxHeartbeats 4000000 in
theorem Heating_addHeat_in (x1 : Int32) (x2 : Int32) (σ : jm_S) : jc 29 [(.ref 6), (.int x1), (.int x2)] σ = jv 29 5 [some (.ref 6), some (.int x1), some (.int x2), some (.int (σ 6 3))] [] σ := by
  refine (jc_of (ls1 := [some (.ref 6), some (.int x1), some (.int x2), none]) ((jm_ini_of jM29).trans rfl)).trans ?_
  refine (sv_aload_n jM29 c29_0 rfl rfl).trans ?_
  refine (sv_getf jM29 c29_1 rfl lf_4_22 (fg_6_3 _)).trans ?_
  refine (sv_istore_n (ls1 := [some (.ref 6), some (.int x1), some (.int x2), some (.int (σ 6 3))]) jM29 c29_4 rfl (Nat.lt_of_lt_of_eq (by decide +kernel : 3 < 4) rfl) rfl).trans ?_
  rfl
set_option maxRecDepth 20000 in
set_option maxHeartbeats 4000000 in
theorem Heating_addHeat_L5 (x1 : Int32) (x2 : Int32) (x3 : Int32) (σ : jm_S) : jv 29 5 [some (.ref 6), some (.int x1), some (.int x2), some (.int x3)] [] σ = (if ((σ 6 3) + x2) ≤ x3 then some (none, (jm_up σ 6 3 ((σ 6 3) + x2))) else (if (200 : Int32) ≤ x3 then some (none, (jm_up σ 6 3 ((σ 6 3) + x2))) else (if x3 < 0 ∨ 200 ≤ x3.toNatClampNeg then none else jv 29 5 [some (.ref 6), some (.int x1), some (.int x2), some (.int (x3 + 1))] [] (jm_up σ 7 x3.toNatClampNeg x1)))) := by
  refine (sv_iload_n jM29 c29_5 rfl rfl).trans ?_
  refine (sv_aload_n jM29 c29_6 rfl rfl).trans ?_
  refine (sv_getf jM29 c29_7 rfl lf_4_22 (fg_6_3 _)).trans ?_
  refine (sv_iload_n jM29 c29_10 rfl rfl).trans ?_
  refine (sv_iadd jM29 c29_11 rfl).trans ?_
  refine (sv_icmp_ge jM29 c29_12 rfl (t := 35) (by decide +kernel)).trans ?_
  refine jif _ ?_ ?_
  ·
    refine (sv_aload_n jM29 c29_35 rfl rfl).trans ?_
    refine (sv_dup jM29 c29_36 rfl rfl).trans ?_
    refine (sv_getf jM29 c29_37 rfl lf_4_22 (fg_6_3 _)).trans ?_
    refine (sv_iload_n jM29 c29_40 rfl rfl).trans ?_
    refine (sv_iadd jM29 c29_41 rfl).trans ?_
    refine (sv_putf jM29 c29_42 rfl lf_4_22 (pf_6_3 _ _)).trans ?_
    exact sv_vret jM29 c29_45 rfl rfl
  ·
    refine (sv_iload_n jM29 c29_15 rfl rfl).trans ?_
    refine (sv_sipush jM29 c29_16 rfl (v := 200) (by decide +kernel)).trans ?_
    refine (sv_icmp_ge jM29 c29_19 rfl (t := 35) (by decide +kernel)).trans ?_
    refine jif _ ?_ ?_
    ·
      refine (sv_aload_n jM29 c29_35 rfl rfl).trans ?_
      refine (sv_dup jM29 c29_36 rfl rfl).trans ?_
      refine (sv_getf jM29 c29_37 rfl lf_4_22 (fg_6_3 _)).trans ?_
      refine (sv_iload_n jM29 c29_40 rfl rfl).trans ?_
      refine (sv_iadd jM29 c29_41 rfl).trans ?_
      refine (sv_putf jM29 c29_42 rfl lf_4_22 (pf_6_3 _ _)).trans ?_
      exact sv_vret jM29 c29_45 rfl rfl
    ·
      refine (sv_aload_n jM29 c29_22 rfl rfl).trans ?_
      refine (sv_getf jM29 c29_23 rfl lf_4_9 (fg_6_0 _)).trans ?_
      refine (sv_iload_n jM29 c29_26 rfl rfl).trans ?_
      refine (sv_iload_n jM29 c29_27 rfl rfl).trans ?_
      refine (sv_iast jM29 c29_28 rfl wi_7).trans ?_
      refine jif _ rfl ?_
      refine (sv_iinc (ls1 := [some (.ref 6), some (.int x1), some (.int x2), some (.int (x3 + 1))]) jM29 c29_29 rfl rfl (v := 1) (by decide +kernel) rfl).trans ?_
      refine (sv_goto jM29 c29_32 rfl (t := 5) (by decide +kernel)).trans ?_
      rfl
set_option maxRecDepth 20000 in
set_option maxHeartbeats 4000000 in
theorem Text_takes_47_in (x1 : Int32) (σ : jm_S) : jc 25 [(.ref 47), (.int x1)] σ = (if ¬ (σ 47 3) = (-1 : Int32) then some (some (.int (0 : Int32)), σ) else (if (σ 47 1) ≤ (σ 47 2) then some (some (.int (0 : Int32)), σ) else (if (σ 47 2) < 0 ∨ 30 ≤ (σ 47 2).toNatClampNeg then none else (if (σ 48 (σ 47 2).toNatClampNeg) = x1 then some (some (.int (1 : Int32)), (jm_up σ 47 2 ((σ 47 2) + (1 : Int32)))) else some (some (.int (0 : Int32)), σ))))) := by
  refine (jc_of (ls1 := [some (.ref 47), some (.int x1)]) ((jm_ini_of jM25).trans rfl)).trans ?_
  refine (sv_aload_n jM25 c25_0 rfl rfl).trans ?_
  refine (sv_getf jM25 c25_1 rfl lf_7_18 (fg_47_3 _)).trans ?_
  refine (sv_iconst jM25 c25_4 rfl (v := -1) (by decide +kernel)).trans ?_
  refine (sv_icmp_ne jM25 c25_5 rfl (t := 32) (by decide +kernel)).trans ?_
  refine jif _ ?_ ?_
  ·
    refine (sv_iconst jM25 c25_32 rfl (v := 0) (by decide +kernel)).trans ?_
    exact sv_zret jM25 c25_33 rfl rfl (by decide +kernel)
  ·
    refine (sv_aload_n jM25 c25_8 rfl rfl).trans ?_
    refine (sv_getf jM25 c25_9 rfl lf_7_15 (fg_47_2 _)).trans ?_
    refine (sv_aload_n jM25 c25_12 rfl rfl).trans ?_
    refine (sv_getf jM25 c25_13 rfl lf_7_9 (fg_47_1 _)).trans ?_
    refine (sv_icmp_ge jM25 c25_16 rfl (t := 32) (by decide +kernel)).trans ?_
    refine jif _ ?_ ?_
    ·
      refine (sv_iconst jM25 c25_32 rfl (v := 0) (by decide +kernel)).trans ?_
      exact sv_zret jM25 c25_33 rfl rfl (by decide +kernel)
    ·
      refine (sv_aload_n jM25 c25_19 rfl rfl).trans ?_
      refine (sv_getf jM25 c25_20 rfl lf_7_21 (fg_47_0 _)).trans ?_
      refine (sv_aload_n jM25 c25_23 rfl rfl).trans ?_
      refine (sv_getf jM25 c25_24 rfl lf_7_15 (fg_47_2 _)).trans ?_
      refine (sv_iald jM25 c25_27 rfl (ia_48 _)).trans ?_
      refine jif _ rfl ?_
      refine (sv_iload_n jM25 c25_28 rfl rfl).trans ?_
      refine (sv_icmp_eq jM25 c25_29 rfl (t := 34) (by decide +kernel)).trans ?_
      refine jif _ ?_ ?_
      ·
        refine (sv_aload_n jM25 c25_34 rfl rfl).trans ?_
        refine (sv_dup jM25 c25_35 rfl rfl).trans ?_
        refine (sv_getf jM25 c25_36 rfl lf_7_15 (fg_47_2 _)).trans ?_
        refine (sv_iconst jM25 c25_39 rfl (v := 1) (by decide +kernel)).trans ?_
        refine (sv_iadd jM25 c25_40 rfl).trans ?_
        refine (sv_putf jM25 c25_41 rfl lf_7_15 (pf_47_2 _ _)).trans ?_
        refine (sv_iconst jM25 c25_44 rfl (v := 1) (by decide +kernel)).trans ?_
        exact sv_zret jM25 c25_45 rfl rfl (by decide +kernel)
      ·
        refine (sv_iconst jM25 c25_32 rfl (v := 0) (by decide +kernel)).trans ?_
        exact sv_zret jM25 c25_33 rfl rfl (by decide +kernel)
set_option maxRecDepth 20000 in
set_option maxHeartbeats 4000000 in
theorem Text_number_47_in (x1 : Int32) (x2 : Int32) (x3 : Int32) (σ : jm_S) : jc 26 [(.ref 47), (.int x1), (.int x2), (.int x3)] σ = (if (σ 47 3) = (-1 : Int32) then jv 26 19 [some (.ref 47), some (.int x1), some (.int x2), some (.int x3), some (.int (σ 47 2)), some (.int (0 : Int32))] [] σ else some (some (.int x2), σ)) := by
  refine (jc_of (ls1 := [some (.ref 47), some (.int x1), some (.int x2), some (.int x3), none, none]) ((jm_ini_of jM26).trans rfl)).trans ?_
  refine (sv_aload_n jM26 c26_0 rfl rfl).trans ?_
  refine (sv_getf jM26 c26_1 rfl lf_7_18 (fg_47_3 _)).trans ?_
  refine (sv_iconst jM26 c26_4 rfl (v := -1) (by decide +kernel)).trans ?_
  refine (sv_icmp_eq jM26 c26_5 rfl (t := 10) (by decide +kernel)).trans ?_
  refine jif _ ?_ ?_
  ·
    refine (sv_aload_n jM26 c26_10 rfl rfl).trans ?_
    refine (sv_getf jM26 c26_11 rfl lf_7_15 (fg_47_2 _)).trans ?_
    refine (sv_istore (ls1 := [some (.ref 47), some (.int x1), some (.int x2), some (.int x3), some (.int (σ 47 2)), none]) jM26 c26_14 rfl (Nat.lt_of_lt_of_eq (by decide +kernel : 4 < 6) rfl) rfl).trans ?_
    refine (sv_iconst jM26 c26_16 rfl (v := 0) (by decide +kernel)).trans ?_
    refine (sv_istore (ls1 := [some (.ref 47), some (.int x1), some (.int x2), some (.int x3), some (.int (σ 47 2)), some (.int (0 : Int32))]) jM26 c26_17 rfl (Nat.lt_of_lt_of_eq (by decide +kernel : 5 < 6) rfl) rfl).trans ?_
    rfl
  ·
    refine (sv_iload_n jM26 c26_8 rfl rfl).trans ?_
    exact sv_iret jM26 c26_9 rfl rfl
set_option maxRecDepth 20000 in
set_option maxHeartbeats 4000000 in
theorem Text_number_47_L19 (x1 : Int32) (x2 : Int32) (x3 : Int32) (x4 : Int32) (x5 : Int32) (σ : jm_S) : jv 26 19 [some (.ref 47), some (.int x1), some (.int x2), some (.int x3), some (.int x4), some (.int x5)] [] σ = (if (σ 47 1) ≤ (σ 47 2) then (if (σ 47 2) = x4 then jbv (jc 27 [(.ref 47), (.int x4)] σ) (fun τ1 => some (some (.int x5), τ1)) else (if x5 < x2 then jbv (jc 27 [(.ref 47), (.int x4)] σ) (fun τ2 => some (some (.int x5), τ2)) else (if x5 ≤ x3 then some (some (.int x5), σ) else jbv (jc 27 [(.ref 47), (.int x4)] σ) (fun τ3 => some (some (.int x5), τ3))))) else (if x1 ≤ ((σ 47 2) - x4) then (if (σ 47 2) = x4 then jbv (jc 27 [(.ref 47), (.int x4)] σ) (fun τ4 => some (some (.int x5), τ4)) else (if x5 < x2 then jbv (jc 27 [(.ref 47), (.int x4)] σ) (fun τ5 => some (some (.int x5), τ5)) else (if x5 ≤ x3 then some (some (.int x5), σ) else jbv (jc 27 [(.ref 47), (.int x4)] σ) (fun τ6 => some (some (.int x5), τ6))))) else (if (σ 47 2) < 0 ∨ 30 ≤ (σ 47 2).toNatClampNeg then none else (if (σ 48 (σ 47 2).toNatClampNeg) < (48 : Int32) then (if (σ 47 2) = x4 then jbv (jc 27 [(.ref 47), (.int x4)] σ) (fun τ7 => some (some (.int x5), τ7)) else (if x5 < x2 then jbv (jc 27 [(.ref 47), (.int x4)] σ) (fun τ8 => some (some (.int x5), τ8)) else (if x5 ≤ x3 then some (some (.int x5), σ) else jbv (jc 27 [(.ref 47), (.int x4)] σ) (fun τ9 => some (some (.int x5), τ9))))) else (if (σ 47 2) < 0 ∨ 30 ≤ (σ 47 2).toNatClampNeg then none else (if (57 : Int32) < (σ 48 (σ 47 2).toNatClampNeg) then (if (σ 47 2) = x4 then jbv (jc 27 [(.ref 47), (.int x4)] σ) (fun τ10 => some (some (.int x5), τ10)) else (if x5 < x2 then jbv (jc 27 [(.ref 47), (.int x4)] σ) (fun τ11 => some (some (.int x5), τ11)) else (if x5 ≤ x3 then some (some (.int x5), σ) else jbv (jc 27 [(.ref 47), (.int x4)] σ) (fun τ12 => some (some (.int x5), τ12))))) else (if (σ 47 2) < 0 ∨ 30 ≤ (σ 47 2).toNatClampNeg then none else jv 26 19 [some (.ref 47), some (.int x1), some (.int x2), some (.int x3), some (.int x4), some (.int ((((10 : Int32) * x5) + (σ 48 (σ 47 2).toNatClampNeg)) - (48 : Int32)))] [] (jm_up σ 47 2 ((σ 47 2) + (1 : Int32)))))))))) := by
  refine (sv_aload_n jM26 c26_19 rfl rfl).trans ?_
  refine (sv_getf jM26 c26_20 rfl lf_7_15 (fg_47_2 _)).trans ?_
  refine (sv_aload_n jM26 c26_23 rfl rfl).trans ?_
  refine (sv_getf jM26 c26_24 rfl lf_7_9 (fg_47_1 _)).trans ?_
  refine (sv_icmp_ge jM26 c26_27 rfl (t := 102) (by decide +kernel)).trans ?_
  refine jif _ ?_ ?_
  ·
    refine (sv_aload_n jM26 c26_102 rfl rfl).trans ?_
    refine (sv_getf jM26 c26_103 rfl lf_7_15 (fg_47_2 _)).trans ?_
    refine (sv_iload jM26 c26_106 rfl rfl).trans ?_
    refine (sv_icmp_eq jM26 c26_108 rfl (t := 123) (by decide +kernel)).trans ?_
    refine jif _ ?_ ?_
    ·
      refine (sv_aload_n jM26 c26_123 rfl rfl).trans ?_
      refine (sv_iload jM26 c26_124 rfl rfl).trans ?_
      refine (sv_callvv (pl := 0) jM26 c26_126 rfl (jm_call_v (a := 47) (as := [(.int x4)]) (rest := []) lm_7_29 rfl jM27 rfl rfl rfl rfl rfl) jM27 rfl rfl).trans ?_
      refine jbv_c (fun τ1 => ?_)
      refine (sv_iload jM26 c26_129 rfl rfl).trans ?_
      exact sv_iret jM26 c26_131 rfl rfl
    ·
      refine (sv_iload jM26 c26_111 rfl rfl).trans ?_
      refine (sv_iload_n jM26 c26_113 rfl rfl).trans ?_
      refine (sv_icmp_lt jM26 c26_114 rfl (t := 123) (by decide +kernel)).trans ?_
      refine jif _ ?_ ?_
      ·
        refine (sv_aload_n jM26 c26_123 rfl rfl).trans ?_
        refine (sv_iload jM26 c26_124 rfl rfl).trans ?_
        refine (sv_callvv (pl := 0) jM26 c26_126 rfl (jm_call_v (a := 47) (as := [(.int x4)]) (rest := []) lm_7_29 rfl jM27 rfl rfl rfl rfl rfl) jM27 rfl rfl).trans ?_
        refine jbv_c (fun τ2 => ?_)
        refine (sv_iload jM26 c26_129 rfl rfl).trans ?_
        exact sv_iret jM26 c26_131 rfl rfl
      ·
        refine (sv_iload jM26 c26_117 rfl rfl).trans ?_
        refine (sv_iload_n jM26 c26_119 rfl rfl).trans ?_
        refine (sv_icmp_le jM26 c26_120 rfl (t := 129) (by decide +kernel)).trans ?_
        refine jif _ ?_ ?_
        ·
          refine (sv_iload jM26 c26_129 rfl rfl).trans ?_
          exact sv_iret jM26 c26_131 rfl rfl
        ·
          refine (sv_aload_n jM26 c26_123 rfl rfl).trans ?_
          refine (sv_iload jM26 c26_124 rfl rfl).trans ?_
          refine (sv_callvv (pl := 0) jM26 c26_126 rfl (jm_call_v (a := 47) (as := [(.int x4)]) (rest := []) lm_7_29 rfl jM27 rfl rfl rfl rfl rfl) jM27 rfl rfl).trans ?_
          refine jbv_c (fun τ3 => ?_)
          refine (sv_iload jM26 c26_129 rfl rfl).trans ?_
          exact sv_iret jM26 c26_131 rfl rfl
  ·
    refine (sv_aload_n jM26 c26_30 rfl rfl).trans ?_
    refine (sv_getf jM26 c26_31 rfl lf_7_15 (fg_47_2 _)).trans ?_
    refine (sv_iload jM26 c26_34 rfl rfl).trans ?_
    refine (sv_isub jM26 c26_36 rfl).trans ?_
    refine (sv_iload_n jM26 c26_37 rfl rfl).trans ?_
    refine (sv_icmp_ge jM26 c26_38 rfl (t := 102) (by decide +kernel)).trans ?_
    refine jif _ ?_ ?_
    ·
      refine (sv_aload_n jM26 c26_102 rfl rfl).trans ?_
      refine (sv_getf jM26 c26_103 rfl lf_7_15 (fg_47_2 _)).trans ?_
      refine (sv_iload jM26 c26_106 rfl rfl).trans ?_
      refine (sv_icmp_eq jM26 c26_108 rfl (t := 123) (by decide +kernel)).trans ?_
      refine jif _ ?_ ?_
      ·
        refine (sv_aload_n jM26 c26_123 rfl rfl).trans ?_
        refine (sv_iload jM26 c26_124 rfl rfl).trans ?_
        refine (sv_callvv (pl := 0) jM26 c26_126 rfl (jm_call_v (a := 47) (as := [(.int x4)]) (rest := []) lm_7_29 rfl jM27 rfl rfl rfl rfl rfl) jM27 rfl rfl).trans ?_
        refine jbv_c (fun τ4 => ?_)
        refine (sv_iload jM26 c26_129 rfl rfl).trans ?_
        exact sv_iret jM26 c26_131 rfl rfl
      ·
        refine (sv_iload jM26 c26_111 rfl rfl).trans ?_
        refine (sv_iload_n jM26 c26_113 rfl rfl).trans ?_
        refine (sv_icmp_lt jM26 c26_114 rfl (t := 123) (by decide +kernel)).trans ?_
        refine jif _ ?_ ?_
        ·
          refine (sv_aload_n jM26 c26_123 rfl rfl).trans ?_
          refine (sv_iload jM26 c26_124 rfl rfl).trans ?_
          refine (sv_callvv (pl := 0) jM26 c26_126 rfl (jm_call_v (a := 47) (as := [(.int x4)]) (rest := []) lm_7_29 rfl jM27 rfl rfl rfl rfl rfl) jM27 rfl rfl).trans ?_
          refine jbv_c (fun τ5 => ?_)
          refine (sv_iload jM26 c26_129 rfl rfl).trans ?_
          exact sv_iret jM26 c26_131 rfl rfl
        ·
          refine (sv_iload jM26 c26_117 rfl rfl).trans ?_
          refine (sv_iload_n jM26 c26_119 rfl rfl).trans ?_
          refine (sv_icmp_le jM26 c26_120 rfl (t := 129) (by decide +kernel)).trans ?_
          refine jif _ ?_ ?_
          ·
            refine (sv_iload jM26 c26_129 rfl rfl).trans ?_
            exact sv_iret jM26 c26_131 rfl rfl
          ·
            refine (sv_aload_n jM26 c26_123 rfl rfl).trans ?_
            refine (sv_iload jM26 c26_124 rfl rfl).trans ?_
            refine (sv_callvv (pl := 0) jM26 c26_126 rfl (jm_call_v (a := 47) (as := [(.int x4)]) (rest := []) lm_7_29 rfl jM27 rfl rfl rfl rfl rfl) jM27 rfl rfl).trans ?_
            refine jbv_c (fun τ6 => ?_)
            refine (sv_iload jM26 c26_129 rfl rfl).trans ?_
            exact sv_iret jM26 c26_131 rfl rfl
    ·
      refine (sv_aload_n jM26 c26_41 rfl rfl).trans ?_
      refine (sv_getf jM26 c26_42 rfl lf_7_21 (fg_47_0 _)).trans ?_
      refine (sv_aload_n jM26 c26_45 rfl rfl).trans ?_
      refine (sv_getf jM26 c26_46 rfl lf_7_15 (fg_47_2 _)).trans ?_
      refine (sv_iald jM26 c26_49 rfl (ia_48 _)).trans ?_
      refine jif _ rfl ?_
      refine (sv_bipush jM26 c26_50 rfl (v := 48) (by decide +kernel)).trans ?_
      refine (sv_icmp_lt jM26 c26_52 rfl (t := 102) (by decide +kernel)).trans ?_
      refine jif _ ?_ ?_
      ·
        refine (sv_aload_n jM26 c26_102 rfl rfl).trans ?_
        refine (sv_getf jM26 c26_103 rfl lf_7_15 (fg_47_2 _)).trans ?_
        refine (sv_iload jM26 c26_106 rfl rfl).trans ?_
        refine (sv_icmp_eq jM26 c26_108 rfl (t := 123) (by decide +kernel)).trans ?_
        refine jif _ ?_ ?_
        ·
          refine (sv_aload_n jM26 c26_123 rfl rfl).trans ?_
          refine (sv_iload jM26 c26_124 rfl rfl).trans ?_
          refine (sv_callvv (pl := 0) jM26 c26_126 rfl (jm_call_v (a := 47) (as := [(.int x4)]) (rest := []) lm_7_29 rfl jM27 rfl rfl rfl rfl rfl) jM27 rfl rfl).trans ?_
          refine jbv_c (fun τ7 => ?_)
          refine (sv_iload jM26 c26_129 rfl rfl).trans ?_
          exact sv_iret jM26 c26_131 rfl rfl
        ·
          refine (sv_iload jM26 c26_111 rfl rfl).trans ?_
          refine (sv_iload_n jM26 c26_113 rfl rfl).trans ?_
          refine (sv_icmp_lt jM26 c26_114 rfl (t := 123) (by decide +kernel)).trans ?_
          refine jif _ ?_ ?_
          ·
            refine (sv_aload_n jM26 c26_123 rfl rfl).trans ?_
            refine (sv_iload jM26 c26_124 rfl rfl).trans ?_
            refine (sv_callvv (pl := 0) jM26 c26_126 rfl (jm_call_v (a := 47) (as := [(.int x4)]) (rest := []) lm_7_29 rfl jM27 rfl rfl rfl rfl rfl) jM27 rfl rfl).trans ?_
            refine jbv_c (fun τ8 => ?_)
            refine (sv_iload jM26 c26_129 rfl rfl).trans ?_
            exact sv_iret jM26 c26_131 rfl rfl
          ·
            refine (sv_iload jM26 c26_117 rfl rfl).trans ?_
            refine (sv_iload_n jM26 c26_119 rfl rfl).trans ?_
            refine (sv_icmp_le jM26 c26_120 rfl (t := 129) (by decide +kernel)).trans ?_
            refine jif _ ?_ ?_
            ·
              refine (sv_iload jM26 c26_129 rfl rfl).trans ?_
              exact sv_iret jM26 c26_131 rfl rfl
            ·
              refine (sv_aload_n jM26 c26_123 rfl rfl).trans ?_
              refine (sv_iload jM26 c26_124 rfl rfl).trans ?_
              refine (sv_callvv (pl := 0) jM26 c26_126 rfl (jm_call_v (a := 47) (as := [(.int x4)]) (rest := []) lm_7_29 rfl jM27 rfl rfl rfl rfl rfl) jM27 rfl rfl).trans ?_
              refine jbv_c (fun τ9 => ?_)
              refine (sv_iload jM26 c26_129 rfl rfl).trans ?_
              exact sv_iret jM26 c26_131 rfl rfl
      ·
        refine (sv_aload_n jM26 c26_55 rfl rfl).trans ?_
        refine (sv_getf jM26 c26_56 rfl lf_7_21 (fg_47_0 _)).trans ?_
        refine (sv_aload_n jM26 c26_59 rfl rfl).trans ?_
        refine (sv_getf jM26 c26_60 rfl lf_7_15 (fg_47_2 _)).trans ?_
        refine (sv_iald jM26 c26_63 rfl (ia_48 _)).trans ?_
        refine jif _ rfl ?_
        refine (sv_bipush jM26 c26_64 rfl (v := 57) (by decide +kernel)).trans ?_
        refine (sv_icmp_gt jM26 c26_66 rfl (t := 102) (by decide +kernel)).trans ?_
        refine jif _ ?_ ?_
        ·
          refine (sv_aload_n jM26 c26_102 rfl rfl).trans ?_
          refine (sv_getf jM26 c26_103 rfl lf_7_15 (fg_47_2 _)).trans ?_
          refine (sv_iload jM26 c26_106 rfl rfl).trans ?_
          refine (sv_icmp_eq jM26 c26_108 rfl (t := 123) (by decide +kernel)).trans ?_
          refine jif _ ?_ ?_
          ·
            refine (sv_aload_n jM26 c26_123 rfl rfl).trans ?_
            refine (sv_iload jM26 c26_124 rfl rfl).trans ?_
            refine (sv_callvv (pl := 0) jM26 c26_126 rfl (jm_call_v (a := 47) (as := [(.int x4)]) (rest := []) lm_7_29 rfl jM27 rfl rfl rfl rfl rfl) jM27 rfl rfl).trans ?_
            refine jbv_c (fun τ10 => ?_)
            refine (sv_iload jM26 c26_129 rfl rfl).trans ?_
            exact sv_iret jM26 c26_131 rfl rfl
          ·
            refine (sv_iload jM26 c26_111 rfl rfl).trans ?_
            refine (sv_iload_n jM26 c26_113 rfl rfl).trans ?_
            refine (sv_icmp_lt jM26 c26_114 rfl (t := 123) (by decide +kernel)).trans ?_
            refine jif _ ?_ ?_
            ·
              refine (sv_aload_n jM26 c26_123 rfl rfl).trans ?_
              refine (sv_iload jM26 c26_124 rfl rfl).trans ?_
              refine (sv_callvv (pl := 0) jM26 c26_126 rfl (jm_call_v (a := 47) (as := [(.int x4)]) (rest := []) lm_7_29 rfl jM27 rfl rfl rfl rfl rfl) jM27 rfl rfl).trans ?_
              refine jbv_c (fun τ11 => ?_)
              refine (sv_iload jM26 c26_129 rfl rfl).trans ?_
              exact sv_iret jM26 c26_131 rfl rfl
            ·
              refine (sv_iload jM26 c26_117 rfl rfl).trans ?_
              refine (sv_iload_n jM26 c26_119 rfl rfl).trans ?_
              refine (sv_icmp_le jM26 c26_120 rfl (t := 129) (by decide +kernel)).trans ?_
              refine jif _ ?_ ?_
              ·
                refine (sv_iload jM26 c26_129 rfl rfl).trans ?_
                exact sv_iret jM26 c26_131 rfl rfl
              ·
                refine (sv_aload_n jM26 c26_123 rfl rfl).trans ?_
                refine (sv_iload jM26 c26_124 rfl rfl).trans ?_
                refine (sv_callvv (pl := 0) jM26 c26_126 rfl (jm_call_v (a := 47) (as := [(.int x4)]) (rest := []) lm_7_29 rfl jM27 rfl rfl rfl rfl rfl) jM27 rfl rfl).trans ?_
                refine jbv_c (fun τ12 => ?_)
                refine (sv_iload jM26 c26_129 rfl rfl).trans ?_
                exact sv_iret jM26 c26_131 rfl rfl
        ·
          refine (sv_bipush jM26 c26_69 rfl (v := 10) (by decide +kernel)).trans ?_
          refine (sv_iload jM26 c26_71 rfl rfl).trans ?_
          refine (sv_imul jM26 c26_73 rfl).trans ?_
          refine (sv_aload_n jM26 c26_74 rfl rfl).trans ?_
          refine (sv_getf jM26 c26_75 rfl lf_7_21 (fg_47_0 _)).trans ?_
          refine (sv_aload_n jM26 c26_78 rfl rfl).trans ?_
          refine (sv_getf jM26 c26_79 rfl lf_7_15 (fg_47_2 _)).trans ?_
          refine (sv_iald jM26 c26_82 rfl (ia_48 _)).trans ?_
          refine jif _ rfl ?_
          refine (sv_iadd jM26 c26_83 rfl).trans ?_
          refine (sv_bipush jM26 c26_84 rfl (v := 48) (by decide +kernel)).trans ?_
          refine (sv_isub jM26 c26_86 rfl).trans ?_
          refine (sv_istore (ls1 := [some (.ref 47), some (.int x1), some (.int x2), some (.int x3), some (.int x4), some (.int ((((10 : Int32) * x5) + (σ 48 (σ 47 2).toNatClampNeg)) - (48 : Int32)))]) jM26 c26_87 rfl (Nat.lt_of_lt_of_eq (by decide +kernel : 5 < 6) rfl) rfl).trans ?_
          refine (sv_aload_n jM26 c26_89 rfl rfl).trans ?_
          refine (sv_dup jM26 c26_90 rfl rfl).trans ?_
          refine (sv_getf jM26 c26_91 rfl lf_7_15 (fg_47_2 _)).trans ?_
          refine (sv_iconst jM26 c26_94 rfl (v := 1) (by decide +kernel)).trans ?_
          refine (sv_iadd jM26 c26_95 rfl).trans ?_
          refine (sv_putf jM26 c26_96 rfl lf_7_15 (pf_47_2 _ _)).trans ?_
          refine (sv_goto jM26 c26_99 rfl (t := 19) (by decide +kernel)).trans ?_
          rfl
set_option maxRecDepth 20000 in
set_option maxHeartbeats 4000000 in
theorem Text_failAt_44_in (x1 : Int32) (σ : jm_S) : jc 27 [(.ref 44), (.int x1)] σ = (if ¬ (σ 44 3) = (-1 : Int32) then some (none, σ) else some (none, (jm_up σ 44 3 x1))) := by
  refine (jc_of (ls1 := [some (.ref 44), some (.int x1)]) ((jm_ini_of jM27).trans rfl)).trans ?_
  refine (sv_aload_n jM27 c27_0 rfl rfl).trans ?_
  refine (sv_getf jM27 c27_1 rfl lf_7_18 (fg_44_3 _)).trans ?_
  refine (sv_iconst jM27 c27_4 rfl (v := -1) (by decide +kernel)).trans ?_
  refine (sv_icmp_ne jM27 c27_5 rfl (t := 13) (by decide +kernel)).trans ?_
  refine jif _ ?_ ?_
  ·
    exact sv_vret jM27 c27_13 rfl rfl
  ·
    refine (sv_aload_n jM27 c27_8 rfl rfl).trans ?_
    refine (sv_iload_n jM27 c27_9 rfl rfl).trans ?_
    refine (sv_putf jM27 c27_10 rfl lf_7_18 (pf_44_3 _ _)).trans ?_
    exact sv_vret jM27 c27_13 rfl rfl
set_option maxRecDepth 20000 in
set_option maxHeartbeats 4000000 in
theorem Text_takes_44_in (x1 : Int32) (σ : jm_S) : jc 25 [(.ref 44), (.int x1)] σ = (if ¬ (σ 44 3) = (-1 : Int32) then some (some (.int (0 : Int32)), σ) else (if (σ 44 1) ≤ (σ 44 2) then some (some (.int (0 : Int32)), σ) else (if (σ 44 2) < 0 ∨ 30 ≤ (σ 44 2).toNatClampNeg then none else (if (σ 45 (σ 44 2).toNatClampNeg) = x1 then some (some (.int (1 : Int32)), (jm_up σ 44 2 ((σ 44 2) + (1 : Int32)))) else some (some (.int (0 : Int32)), σ))))) := by
  refine (jc_of (ls1 := [some (.ref 44), some (.int x1)]) ((jm_ini_of jM25).trans rfl)).trans ?_
  refine (sv_aload_n jM25 c25_0 rfl rfl).trans ?_
  refine (sv_getf jM25 c25_1 rfl lf_7_18 (fg_44_3 _)).trans ?_
  refine (sv_iconst jM25 c25_4 rfl (v := -1) (by decide +kernel)).trans ?_
  refine (sv_icmp_ne jM25 c25_5 rfl (t := 32) (by decide +kernel)).trans ?_
  refine jif _ ?_ ?_
  ·
    refine (sv_iconst jM25 c25_32 rfl (v := 0) (by decide +kernel)).trans ?_
    exact sv_zret jM25 c25_33 rfl rfl (by decide +kernel)
  ·
    refine (sv_aload_n jM25 c25_8 rfl rfl).trans ?_
    refine (sv_getf jM25 c25_9 rfl lf_7_15 (fg_44_2 _)).trans ?_
    refine (sv_aload_n jM25 c25_12 rfl rfl).trans ?_
    refine (sv_getf jM25 c25_13 rfl lf_7_9 (fg_44_1 _)).trans ?_
    refine (sv_icmp_ge jM25 c25_16 rfl (t := 32) (by decide +kernel)).trans ?_
    refine jif _ ?_ ?_
    ·
      refine (sv_iconst jM25 c25_32 rfl (v := 0) (by decide +kernel)).trans ?_
      exact sv_zret jM25 c25_33 rfl rfl (by decide +kernel)
    ·
      refine (sv_aload_n jM25 c25_19 rfl rfl).trans ?_
      refine (sv_getf jM25 c25_20 rfl lf_7_21 (fg_44_0 _)).trans ?_
      refine (sv_aload_n jM25 c25_23 rfl rfl).trans ?_
      refine (sv_getf jM25 c25_24 rfl lf_7_15 (fg_44_2 _)).trans ?_
      refine (sv_iald jM25 c25_27 rfl (ia_45 _)).trans ?_
      refine jif _ rfl ?_
      refine (sv_iload_n jM25 c25_28 rfl rfl).trans ?_
      refine (sv_icmp_eq jM25 c25_29 rfl (t := 34) (by decide +kernel)).trans ?_
      refine jif _ ?_ ?_
      ·
        refine (sv_aload_n jM25 c25_34 rfl rfl).trans ?_
        refine (sv_dup jM25 c25_35 rfl rfl).trans ?_
        refine (sv_getf jM25 c25_36 rfl lf_7_15 (fg_44_2 _)).trans ?_
        refine (sv_iconst jM25 c25_39 rfl (v := 1) (by decide +kernel)).trans ?_
        refine (sv_iadd jM25 c25_40 rfl).trans ?_
        refine (sv_putf jM25 c25_41 rfl lf_7_15 (pf_44_2 _ _)).trans ?_
        refine (sv_iconst jM25 c25_44 rfl (v := 1) (by decide +kernel)).trans ?_
        exact sv_zret jM25 c25_45 rfl rfl (by decide +kernel)
      ·
        refine (sv_iconst jM25 c25_32 rfl (v := 0) (by decide +kernel)).trans ?_
        exact sv_zret jM25 c25_33 rfl rfl (by decide +kernel)
set_option maxRecDepth 20000 in
set_option maxHeartbeats 4000000 in
theorem Text_number_44_in (x1 : Int32) (x2 : Int32) (x3 : Int32) (σ : jm_S) : jc 26 [(.ref 44), (.int x1), (.int x2), (.int x3)] σ = (if (σ 44 3) = (-1 : Int32) then jv 26 19 [some (.ref 44), some (.int x1), some (.int x2), some (.int x3), some (.int (σ 44 2)), some (.int (0 : Int32))] [] σ else some (some (.int x2), σ)) := by
  refine (jc_of (ls1 := [some (.ref 44), some (.int x1), some (.int x2), some (.int x3), none, none]) ((jm_ini_of jM26).trans rfl)).trans ?_
  refine (sv_aload_n jM26 c26_0 rfl rfl).trans ?_
  refine (sv_getf jM26 c26_1 rfl lf_7_18 (fg_44_3 _)).trans ?_
  refine (sv_iconst jM26 c26_4 rfl (v := -1) (by decide +kernel)).trans ?_
  refine (sv_icmp_eq jM26 c26_5 rfl (t := 10) (by decide +kernel)).trans ?_
  refine jif _ ?_ ?_
  ·
    refine (sv_aload_n jM26 c26_10 rfl rfl).trans ?_
    refine (sv_getf jM26 c26_11 rfl lf_7_15 (fg_44_2 _)).trans ?_
    refine (sv_istore (ls1 := [some (.ref 44), some (.int x1), some (.int x2), some (.int x3), some (.int (σ 44 2)), none]) jM26 c26_14 rfl (Nat.lt_of_lt_of_eq (by decide +kernel : 4 < 6) rfl) rfl).trans ?_
    refine (sv_iconst jM26 c26_16 rfl (v := 0) (by decide +kernel)).trans ?_
    refine (sv_istore (ls1 := [some (.ref 44), some (.int x1), some (.int x2), some (.int x3), some (.int (σ 44 2)), some (.int (0 : Int32))]) jM26 c26_17 rfl (Nat.lt_of_lt_of_eq (by decide +kernel : 5 < 6) rfl) rfl).trans ?_
    rfl
  ·
    refine (sv_iload_n jM26 c26_8 rfl rfl).trans ?_
    exact sv_iret jM26 c26_9 rfl rfl
set_option maxRecDepth 20000 in
set_option maxHeartbeats 4000000 in
theorem Text_number_44_L19 (x1 : Int32) (x2 : Int32) (x3 : Int32) (x4 : Int32) (x5 : Int32) (σ : jm_S) : jv 26 19 [some (.ref 44), some (.int x1), some (.int x2), some (.int x3), some (.int x4), some (.int x5)] [] σ = (if (σ 44 1) ≤ (σ 44 2) then (if (σ 44 2) = x4 then jbv (jc 27 [(.ref 44), (.int x4)] σ) (fun τ1 => some (some (.int x5), τ1)) else (if x5 < x2 then jbv (jc 27 [(.ref 44), (.int x4)] σ) (fun τ2 => some (some (.int x5), τ2)) else (if x5 ≤ x3 then some (some (.int x5), σ) else jbv (jc 27 [(.ref 44), (.int x4)] σ) (fun τ3 => some (some (.int x5), τ3))))) else (if x1 ≤ ((σ 44 2) - x4) then (if (σ 44 2) = x4 then jbv (jc 27 [(.ref 44), (.int x4)] σ) (fun τ4 => some (some (.int x5), τ4)) else (if x5 < x2 then jbv (jc 27 [(.ref 44), (.int x4)] σ) (fun τ5 => some (some (.int x5), τ5)) else (if x5 ≤ x3 then some (some (.int x5), σ) else jbv (jc 27 [(.ref 44), (.int x4)] σ) (fun τ6 => some (some (.int x5), τ6))))) else (if (σ 44 2) < 0 ∨ 30 ≤ (σ 44 2).toNatClampNeg then none else (if (σ 45 (σ 44 2).toNatClampNeg) < (48 : Int32) then (if (σ 44 2) = x4 then jbv (jc 27 [(.ref 44), (.int x4)] σ) (fun τ7 => some (some (.int x5), τ7)) else (if x5 < x2 then jbv (jc 27 [(.ref 44), (.int x4)] σ) (fun τ8 => some (some (.int x5), τ8)) else (if x5 ≤ x3 then some (some (.int x5), σ) else jbv (jc 27 [(.ref 44), (.int x4)] σ) (fun τ9 => some (some (.int x5), τ9))))) else (if (σ 44 2) < 0 ∨ 30 ≤ (σ 44 2).toNatClampNeg then none else (if (57 : Int32) < (σ 45 (σ 44 2).toNatClampNeg) then (if (σ 44 2) = x4 then jbv (jc 27 [(.ref 44), (.int x4)] σ) (fun τ10 => some (some (.int x5), τ10)) else (if x5 < x2 then jbv (jc 27 [(.ref 44), (.int x4)] σ) (fun τ11 => some (some (.int x5), τ11)) else (if x5 ≤ x3 then some (some (.int x5), σ) else jbv (jc 27 [(.ref 44), (.int x4)] σ) (fun τ12 => some (some (.int x5), τ12))))) else (if (σ 44 2) < 0 ∨ 30 ≤ (σ 44 2).toNatClampNeg then none else jv 26 19 [some (.ref 44), some (.int x1), some (.int x2), some (.int x3), some (.int x4), some (.int ((((10 : Int32) * x5) + (σ 45 (σ 44 2).toNatClampNeg)) - (48 : Int32)))] [] (jm_up σ 44 2 ((σ 44 2) + (1 : Int32)))))))))) := by
  refine (sv_aload_n jM26 c26_19 rfl rfl).trans ?_
  refine (sv_getf jM26 c26_20 rfl lf_7_15 (fg_44_2 _)).trans ?_
  refine (sv_aload_n jM26 c26_23 rfl rfl).trans ?_
  refine (sv_getf jM26 c26_24 rfl lf_7_9 (fg_44_1 _)).trans ?_
  refine (sv_icmp_ge jM26 c26_27 rfl (t := 102) (by decide +kernel)).trans ?_
  refine jif _ ?_ ?_
  ·
    refine (sv_aload_n jM26 c26_102 rfl rfl).trans ?_
    refine (sv_getf jM26 c26_103 rfl lf_7_15 (fg_44_2 _)).trans ?_
    refine (sv_iload jM26 c26_106 rfl rfl).trans ?_
    refine (sv_icmp_eq jM26 c26_108 rfl (t := 123) (by decide +kernel)).trans ?_
    refine jif _ ?_ ?_
    ·
      refine (sv_aload_n jM26 c26_123 rfl rfl).trans ?_
      refine (sv_iload jM26 c26_124 rfl rfl).trans ?_
      refine (sv_callvv (pl := 0) jM26 c26_126 rfl (jm_call_v (a := 44) (as := [(.int x4)]) (rest := []) lm_7_29 rfl jM27 rfl rfl rfl rfl rfl) jM27 rfl rfl).trans ?_
      refine jbv_c (fun τ1 => ?_)
      refine (sv_iload jM26 c26_129 rfl rfl).trans ?_
      exact sv_iret jM26 c26_131 rfl rfl
    ·
      refine (sv_iload jM26 c26_111 rfl rfl).trans ?_
      refine (sv_iload_n jM26 c26_113 rfl rfl).trans ?_
      refine (sv_icmp_lt jM26 c26_114 rfl (t := 123) (by decide +kernel)).trans ?_
      refine jif _ ?_ ?_
      ·
        refine (sv_aload_n jM26 c26_123 rfl rfl).trans ?_
        refine (sv_iload jM26 c26_124 rfl rfl).trans ?_
        refine (sv_callvv (pl := 0) jM26 c26_126 rfl (jm_call_v (a := 44) (as := [(.int x4)]) (rest := []) lm_7_29 rfl jM27 rfl rfl rfl rfl rfl) jM27 rfl rfl).trans ?_
        refine jbv_c (fun τ2 => ?_)
        refine (sv_iload jM26 c26_129 rfl rfl).trans ?_
        exact sv_iret jM26 c26_131 rfl rfl
      ·
        refine (sv_iload jM26 c26_117 rfl rfl).trans ?_
        refine (sv_iload_n jM26 c26_119 rfl rfl).trans ?_
        refine (sv_icmp_le jM26 c26_120 rfl (t := 129) (by decide +kernel)).trans ?_
        refine jif _ ?_ ?_
        ·
          refine (sv_iload jM26 c26_129 rfl rfl).trans ?_
          exact sv_iret jM26 c26_131 rfl rfl
        ·
          refine (sv_aload_n jM26 c26_123 rfl rfl).trans ?_
          refine (sv_iload jM26 c26_124 rfl rfl).trans ?_
          refine (sv_callvv (pl := 0) jM26 c26_126 rfl (jm_call_v (a := 44) (as := [(.int x4)]) (rest := []) lm_7_29 rfl jM27 rfl rfl rfl rfl rfl) jM27 rfl rfl).trans ?_
          refine jbv_c (fun τ3 => ?_)
          refine (sv_iload jM26 c26_129 rfl rfl).trans ?_
          exact sv_iret jM26 c26_131 rfl rfl
  ·
    refine (sv_aload_n jM26 c26_30 rfl rfl).trans ?_
    refine (sv_getf jM26 c26_31 rfl lf_7_15 (fg_44_2 _)).trans ?_
    refine (sv_iload jM26 c26_34 rfl rfl).trans ?_
    refine (sv_isub jM26 c26_36 rfl).trans ?_
    refine (sv_iload_n jM26 c26_37 rfl rfl).trans ?_
    refine (sv_icmp_ge jM26 c26_38 rfl (t := 102) (by decide +kernel)).trans ?_
    refine jif _ ?_ ?_
    ·
      refine (sv_aload_n jM26 c26_102 rfl rfl).trans ?_
      refine (sv_getf jM26 c26_103 rfl lf_7_15 (fg_44_2 _)).trans ?_
      refine (sv_iload jM26 c26_106 rfl rfl).trans ?_
      refine (sv_icmp_eq jM26 c26_108 rfl (t := 123) (by decide +kernel)).trans ?_
      refine jif _ ?_ ?_
      ·
        refine (sv_aload_n jM26 c26_123 rfl rfl).trans ?_
        refine (sv_iload jM26 c26_124 rfl rfl).trans ?_
        refine (sv_callvv (pl := 0) jM26 c26_126 rfl (jm_call_v (a := 44) (as := [(.int x4)]) (rest := []) lm_7_29 rfl jM27 rfl rfl rfl rfl rfl) jM27 rfl rfl).trans ?_
        refine jbv_c (fun τ4 => ?_)
        refine (sv_iload jM26 c26_129 rfl rfl).trans ?_
        exact sv_iret jM26 c26_131 rfl rfl
      ·
        refine (sv_iload jM26 c26_111 rfl rfl).trans ?_
        refine (sv_iload_n jM26 c26_113 rfl rfl).trans ?_
        refine (sv_icmp_lt jM26 c26_114 rfl (t := 123) (by decide +kernel)).trans ?_
        refine jif _ ?_ ?_
        ·
          refine (sv_aload_n jM26 c26_123 rfl rfl).trans ?_
          refine (sv_iload jM26 c26_124 rfl rfl).trans ?_
          refine (sv_callvv (pl := 0) jM26 c26_126 rfl (jm_call_v (a := 44) (as := [(.int x4)]) (rest := []) lm_7_29 rfl jM27 rfl rfl rfl rfl rfl) jM27 rfl rfl).trans ?_
          refine jbv_c (fun τ5 => ?_)
          refine (sv_iload jM26 c26_129 rfl rfl).trans ?_
          exact sv_iret jM26 c26_131 rfl rfl
        ·
          refine (sv_iload jM26 c26_117 rfl rfl).trans ?_
          refine (sv_iload_n jM26 c26_119 rfl rfl).trans ?_
          refine (sv_icmp_le jM26 c26_120 rfl (t := 129) (by decide +kernel)).trans ?_
          refine jif _ ?_ ?_
          ·
            refine (sv_iload jM26 c26_129 rfl rfl).trans ?_
            exact sv_iret jM26 c26_131 rfl rfl
          ·
            refine (sv_aload_n jM26 c26_123 rfl rfl).trans ?_
            refine (sv_iload jM26 c26_124 rfl rfl).trans ?_
            refine (sv_callvv (pl := 0) jM26 c26_126 rfl (jm_call_v (a := 44) (as := [(.int x4)]) (rest := []) lm_7_29 rfl jM27 rfl rfl rfl rfl rfl) jM27 rfl rfl).trans ?_
            refine jbv_c (fun τ6 => ?_)
            refine (sv_iload jM26 c26_129 rfl rfl).trans ?_
            exact sv_iret jM26 c26_131 rfl rfl
    ·
      refine (sv_aload_n jM26 c26_41 rfl rfl).trans ?_
      refine (sv_getf jM26 c26_42 rfl lf_7_21 (fg_44_0 _)).trans ?_
      refine (sv_aload_n jM26 c26_45 rfl rfl).trans ?_
      refine (sv_getf jM26 c26_46 rfl lf_7_15 (fg_44_2 _)).trans ?_
      refine (sv_iald jM26 c26_49 rfl (ia_45 _)).trans ?_
      refine jif _ rfl ?_
      refine (sv_bipush jM26 c26_50 rfl (v := 48) (by decide +kernel)).trans ?_
      refine (sv_icmp_lt jM26 c26_52 rfl (t := 102) (by decide +kernel)).trans ?_
      refine jif _ ?_ ?_
      ·
        refine (sv_aload_n jM26 c26_102 rfl rfl).trans ?_
        refine (sv_getf jM26 c26_103 rfl lf_7_15 (fg_44_2 _)).trans ?_
        refine (sv_iload jM26 c26_106 rfl rfl).trans ?_
        refine (sv_icmp_eq jM26 c26_108 rfl (t := 123) (by decide +kernel)).trans ?_
        refine jif _ ?_ ?_
        ·
          refine (sv_aload_n jM26 c26_123 rfl rfl).trans ?_
          refine (sv_iload jM26 c26_124 rfl rfl).trans ?_
          refine (sv_callvv (pl := 0) jM26 c26_126 rfl (jm_call_v (a := 44) (as := [(.int x4)]) (rest := []) lm_7_29 rfl jM27 rfl rfl rfl rfl rfl) jM27 rfl rfl).trans ?_
          refine jbv_c (fun τ7 => ?_)
          refine (sv_iload jM26 c26_129 rfl rfl).trans ?_
          exact sv_iret jM26 c26_131 rfl rfl
        ·
          refine (sv_iload jM26 c26_111 rfl rfl).trans ?_
          refine (sv_iload_n jM26 c26_113 rfl rfl).trans ?_
          refine (sv_icmp_lt jM26 c26_114 rfl (t := 123) (by decide +kernel)).trans ?_
          refine jif _ ?_ ?_
          ·
            refine (sv_aload_n jM26 c26_123 rfl rfl).trans ?_
            refine (sv_iload jM26 c26_124 rfl rfl).trans ?_
            refine (sv_callvv (pl := 0) jM26 c26_126 rfl (jm_call_v (a := 44) (as := [(.int x4)]) (rest := []) lm_7_29 rfl jM27 rfl rfl rfl rfl rfl) jM27 rfl rfl).trans ?_
            refine jbv_c (fun τ8 => ?_)
            refine (sv_iload jM26 c26_129 rfl rfl).trans ?_
            exact sv_iret jM26 c26_131 rfl rfl
          ·
            refine (sv_iload jM26 c26_117 rfl rfl).trans ?_
            refine (sv_iload_n jM26 c26_119 rfl rfl).trans ?_
            refine (sv_icmp_le jM26 c26_120 rfl (t := 129) (by decide +kernel)).trans ?_
            refine jif _ ?_ ?_
            ·
              refine (sv_iload jM26 c26_129 rfl rfl).trans ?_
              exact sv_iret jM26 c26_131 rfl rfl
            ·
              refine (sv_aload_n jM26 c26_123 rfl rfl).trans ?_
              refine (sv_iload jM26 c26_124 rfl rfl).trans ?_
              refine (sv_callvv (pl := 0) jM26 c26_126 rfl (jm_call_v (a := 44) (as := [(.int x4)]) (rest := []) lm_7_29 rfl jM27 rfl rfl rfl rfl rfl) jM27 rfl rfl).trans ?_
              refine jbv_c (fun τ9 => ?_)
              refine (sv_iload jM26 c26_129 rfl rfl).trans ?_
              exact sv_iret jM26 c26_131 rfl rfl
      ·
        refine (sv_aload_n jM26 c26_55 rfl rfl).trans ?_
        refine (sv_getf jM26 c26_56 rfl lf_7_21 (fg_44_0 _)).trans ?_
        refine (sv_aload_n jM26 c26_59 rfl rfl).trans ?_
        refine (sv_getf jM26 c26_60 rfl lf_7_15 (fg_44_2 _)).trans ?_
        refine (sv_iald jM26 c26_63 rfl (ia_45 _)).trans ?_
        refine jif _ rfl ?_
        refine (sv_bipush jM26 c26_64 rfl (v := 57) (by decide +kernel)).trans ?_
        refine (sv_icmp_gt jM26 c26_66 rfl (t := 102) (by decide +kernel)).trans ?_
        refine jif _ ?_ ?_
        ·
          refine (sv_aload_n jM26 c26_102 rfl rfl).trans ?_
          refine (sv_getf jM26 c26_103 rfl lf_7_15 (fg_44_2 _)).trans ?_
          refine (sv_iload jM26 c26_106 rfl rfl).trans ?_
          refine (sv_icmp_eq jM26 c26_108 rfl (t := 123) (by decide +kernel)).trans ?_
          refine jif _ ?_ ?_
          ·
            refine (sv_aload_n jM26 c26_123 rfl rfl).trans ?_
            refine (sv_iload jM26 c26_124 rfl rfl).trans ?_
            refine (sv_callvv (pl := 0) jM26 c26_126 rfl (jm_call_v (a := 44) (as := [(.int x4)]) (rest := []) lm_7_29 rfl jM27 rfl rfl rfl rfl rfl) jM27 rfl rfl).trans ?_
            refine jbv_c (fun τ10 => ?_)
            refine (sv_iload jM26 c26_129 rfl rfl).trans ?_
            exact sv_iret jM26 c26_131 rfl rfl
          ·
            refine (sv_iload jM26 c26_111 rfl rfl).trans ?_
            refine (sv_iload_n jM26 c26_113 rfl rfl).trans ?_
            refine (sv_icmp_lt jM26 c26_114 rfl (t := 123) (by decide +kernel)).trans ?_
            refine jif _ ?_ ?_
            ·
              refine (sv_aload_n jM26 c26_123 rfl rfl).trans ?_
              refine (sv_iload jM26 c26_124 rfl rfl).trans ?_
              refine (sv_callvv (pl := 0) jM26 c26_126 rfl (jm_call_v (a := 44) (as := [(.int x4)]) (rest := []) lm_7_29 rfl jM27 rfl rfl rfl rfl rfl) jM27 rfl rfl).trans ?_
              refine jbv_c (fun τ11 => ?_)
              refine (sv_iload jM26 c26_129 rfl rfl).trans ?_
              exact sv_iret jM26 c26_131 rfl rfl
            ·
              refine (sv_iload jM26 c26_117 rfl rfl).trans ?_
              refine (sv_iload_n jM26 c26_119 rfl rfl).trans ?_
              refine (sv_icmp_le jM26 c26_120 rfl (t := 129) (by decide +kernel)).trans ?_
              refine jif _ ?_ ?_
              ·
                refine (sv_iload jM26 c26_129 rfl rfl).trans ?_
                exact sv_iret jM26 c26_131 rfl rfl
              ·
                refine (sv_aload_n jM26 c26_123 rfl rfl).trans ?_
                refine (sv_iload jM26 c26_124 rfl rfl).trans ?_
                refine (sv_callvv (pl := 0) jM26 c26_126 rfl (jm_call_v (a := 44) (as := [(.int x4)]) (rest := []) lm_7_29 rfl jM27 rfl rfl rfl rfl rfl) jM27 rfl rfl).trans ?_
                refine jbv_c (fun τ12 => ?_)
                refine (sv_iload jM26 c26_129 rfl rfl).trans ?_
                exact sv_iret jM26 c26_131 rfl rfl
        ·
          refine (sv_bipush jM26 c26_69 rfl (v := 10) (by decide +kernel)).trans ?_
          refine (sv_iload jM26 c26_71 rfl rfl).trans ?_
          refine (sv_imul jM26 c26_73 rfl).trans ?_
          refine (sv_aload_n jM26 c26_74 rfl rfl).trans ?_
          refine (sv_getf jM26 c26_75 rfl lf_7_21 (fg_44_0 _)).trans ?_
          refine (sv_aload_n jM26 c26_78 rfl rfl).trans ?_
          refine (sv_getf jM26 c26_79 rfl lf_7_15 (fg_44_2 _)).trans ?_
          refine (sv_iald jM26 c26_82 rfl (ia_45 _)).trans ?_
          refine jif _ rfl ?_
          refine (sv_iadd jM26 c26_83 rfl).trans ?_
          refine (sv_bipush jM26 c26_84 rfl (v := 48) (by decide +kernel)).trans ?_
          refine (sv_isub jM26 c26_86 rfl).trans ?_
          refine (sv_istore (ls1 := [some (.ref 44), some (.int x1), some (.int x2), some (.int x3), some (.int x4), some (.int ((((10 : Int32) * x5) + (σ 45 (σ 44 2).toNatClampNeg)) - (48 : Int32)))]) jM26 c26_87 rfl (Nat.lt_of_lt_of_eq (by decide +kernel : 5 < 6) rfl) rfl).trans ?_
          refine (sv_aload_n jM26 c26_89 rfl rfl).trans ?_
          refine (sv_dup jM26 c26_90 rfl rfl).trans ?_
          refine (sv_getf jM26 c26_91 rfl lf_7_15 (fg_44_2 _)).trans ?_
          refine (sv_iconst jM26 c26_94 rfl (v := 1) (by decide +kernel)).trans ?_
          refine (sv_iadd jM26 c26_95 rfl).trans ?_
          refine (sv_putf jM26 c26_96 rfl lf_7_15 (pf_44_2 _ _)).trans ?_
          refine (sv_goto jM26 c26_99 rfl (t := 19) (by decide +kernel)).trans ?_
          rfl
set_option maxRecDepth 20000 in
set_option maxHeartbeats 4000000 in
theorem Text_needs_44_in (x1 : Int32) (σ : jm_S) : jc 28 [(.ref 44), (.int x1)] σ = jbi (jc 25 [(.ref 44), (.int x1)] σ) (fun r1 τ1 => (if ¬ r1 = 0 then some (none, τ1) else jbv (jc 27 [(.ref 44), (.int (τ1 44 2))] τ1) (fun τ2 => some (none, τ2)))) := by
  refine (jc_of (ls1 := [some (.ref 44), some (.int x1)]) ((jm_ini_of jM28).trans rfl)).trans ?_
  refine (sv_aload_n jM28 c28_0 rfl rfl).trans ?_
  refine (sv_iload_n jM28 c28_1 rfl rfl).trans ?_
  refine (sv_callvi (pl := 0) jM28 c28_2 rfl (jm_call_v (a := 44) (as := [(.int x1)]) (rest := []) lm_7_25 rfl jM25 rfl rfl rfl rfl rfl) jM25 rfl (Or.inr rfl)).trans ?_
  refine jbi_c (fun r1 τ1 => ?_)
  refine (sv_if_ne jM28 c28_5 rfl (t := 16) (by decide +kernel)).trans ?_
  refine jif _ ?_ ?_
  ·
    exact sv_vret jM28 c28_16 rfl rfl
  ·
    refine (sv_aload_n jM28 c28_8 rfl rfl).trans ?_
    refine (sv_aload_n jM28 c28_9 rfl rfl).trans ?_
    refine (sv_getf jM28 c28_10 rfl lf_7_15 (fg_44_2 _)).trans ?_
    refine (sv_callvv (pl := 0) jM28 c28_13 rfl (jm_call_v (a := 44) (as := [(.int (τ1 44 2))]) (rest := []) lm_7_29 rfl jM27 rfl rfl rfl rfl rfl) jM27 rfl rfl).trans ?_
    refine jbv_c (fun τ2 => ?_)
    exact sv_vret jM28 c28_16 rfl rfl
set_option maxRecDepth 20000 in
set_option maxHeartbeats 4000000 in
theorem Text_needs_50_in (x1 : Int32) (σ : jm_S) : jc 28 [(.ref 50), (.int x1)] σ = jbi (jc 25 [(.ref 50), (.int x1)] σ) (fun r1 τ1 => (if ¬ r1 = 0 then some (none, τ1) else jbv (jc 27 [(.ref 50), (.int (τ1 50 2))] τ1) (fun τ2 => some (none, τ2)))) := by
  refine (jc_of (ls1 := [some (.ref 50), some (.int x1)]) ((jm_ini_of jM28).trans rfl)).trans ?_
  refine (sv_aload_n jM28 c28_0 rfl rfl).trans ?_
  refine (sv_iload_n jM28 c28_1 rfl rfl).trans ?_
  refine (sv_callvi (pl := 0) jM28 c28_2 rfl (jm_call_v (a := 50) (as := [(.int x1)]) (rest := []) lm_7_25 rfl jM25 rfl rfl rfl rfl rfl) jM25 rfl (Or.inr rfl)).trans ?_
  refine jbi_c (fun r1 τ1 => ?_)
  refine (sv_if_ne jM28 c28_5 rfl (t := 16) (by decide +kernel)).trans ?_
  refine jif _ ?_ ?_
  ·
    exact sv_vret jM28 c28_16 rfl rfl
  ·
    refine (sv_aload_n jM28 c28_8 rfl rfl).trans ?_
    refine (sv_aload_n jM28 c28_9 rfl rfl).trans ?_
    refine (sv_getf jM28 c28_10 rfl lf_7_15 (fg_50_2 _)).trans ?_
    refine (sv_callvv (pl := 0) jM28 c28_13 rfl (jm_call_v (a := 50) (as := [(.int (τ1 50 2))]) (rest := []) lm_7_29 rfl jM27 rfl rfl rfl rfl rfl) jM27 rfl rfl).trans ?_
    refine jbv_c (fun τ2 => ?_)
    exact sv_vret jM28 c28_16 rfl rfl
set_option maxRecDepth 20000 in
set_option maxHeartbeats 4000000 in
theorem Text_failAt_50_in (x1 : Int32) (σ : jm_S) : jc 27 [(.ref 50), (.int x1)] σ = (if ¬ (σ 50 3) = (-1 : Int32) then some (none, σ) else some (none, (jm_up σ 50 3 x1))) := by
  refine (jc_of (ls1 := [some (.ref 50), some (.int x1)]) ((jm_ini_of jM27).trans rfl)).trans ?_
  refine (sv_aload_n jM27 c27_0 rfl rfl).trans ?_
  refine (sv_getf jM27 c27_1 rfl lf_7_18 (fg_50_3 _)).trans ?_
  refine (sv_iconst jM27 c27_4 rfl (v := -1) (by decide +kernel)).trans ?_
  refine (sv_icmp_ne jM27 c27_5 rfl (t := 13) (by decide +kernel)).trans ?_
  refine jif _ ?_ ?_
  ·
    exact sv_vret jM27 c27_13 rfl rfl
  ·
    refine (sv_aload_n jM27 c27_8 rfl rfl).trans ?_
    refine (sv_iload_n jM27 c27_9 rfl rfl).trans ?_
    refine (sv_putf jM27 c27_10 rfl lf_7_18 (pf_50_3 _ _)).trans ?_
    exact sv_vret jM27 c27_13 rfl rfl
set_option maxRecDepth 20000 in
set_option maxHeartbeats 4000000 in
theorem Text_takes_50_in (x1 : Int32) (σ : jm_S) : jc 25 [(.ref 50), (.int x1)] σ = (if ¬ (σ 50 3) = (-1 : Int32) then some (some (.int (0 : Int32)), σ) else (if (σ 50 1) ≤ (σ 50 2) then some (some (.int (0 : Int32)), σ) else (if (σ 50 2) < 0 ∨ 30 ≤ (σ 50 2).toNatClampNeg then none else (if (σ 51 (σ 50 2).toNatClampNeg) = x1 then some (some (.int (1 : Int32)), (jm_up σ 50 2 ((σ 50 2) + (1 : Int32)))) else some (some (.int (0 : Int32)), σ))))) := by
  refine (jc_of (ls1 := [some (.ref 50), some (.int x1)]) ((jm_ini_of jM25).trans rfl)).trans ?_
  refine (sv_aload_n jM25 c25_0 rfl rfl).trans ?_
  refine (sv_getf jM25 c25_1 rfl lf_7_18 (fg_50_3 _)).trans ?_
  refine (sv_iconst jM25 c25_4 rfl (v := -1) (by decide +kernel)).trans ?_
  refine (sv_icmp_ne jM25 c25_5 rfl (t := 32) (by decide +kernel)).trans ?_
  refine jif _ ?_ ?_
  ·
    refine (sv_iconst jM25 c25_32 rfl (v := 0) (by decide +kernel)).trans ?_
    exact sv_zret jM25 c25_33 rfl rfl (by decide +kernel)
  ·
    refine (sv_aload_n jM25 c25_8 rfl rfl).trans ?_
    refine (sv_getf jM25 c25_9 rfl lf_7_15 (fg_50_2 _)).trans ?_
    refine (sv_aload_n jM25 c25_12 rfl rfl).trans ?_
    refine (sv_getf jM25 c25_13 rfl lf_7_9 (fg_50_1 _)).trans ?_
    refine (sv_icmp_ge jM25 c25_16 rfl (t := 32) (by decide +kernel)).trans ?_
    refine jif _ ?_ ?_
    ·
      refine (sv_iconst jM25 c25_32 rfl (v := 0) (by decide +kernel)).trans ?_
      exact sv_zret jM25 c25_33 rfl rfl (by decide +kernel)
    ·
      refine (sv_aload_n jM25 c25_19 rfl rfl).trans ?_
      refine (sv_getf jM25 c25_20 rfl lf_7_21 (fg_50_0 _)).trans ?_
      refine (sv_aload_n jM25 c25_23 rfl rfl).trans ?_
      refine (sv_getf jM25 c25_24 rfl lf_7_15 (fg_50_2 _)).trans ?_
      refine (sv_iald jM25 c25_27 rfl (ia_51 _)).trans ?_
      refine jif _ rfl ?_
      refine (sv_iload_n jM25 c25_28 rfl rfl).trans ?_
      refine (sv_icmp_eq jM25 c25_29 rfl (t := 34) (by decide +kernel)).trans ?_
      refine jif _ ?_ ?_
      ·
        refine (sv_aload_n jM25 c25_34 rfl rfl).trans ?_
        refine (sv_dup jM25 c25_35 rfl rfl).trans ?_
        refine (sv_getf jM25 c25_36 rfl lf_7_15 (fg_50_2 _)).trans ?_
        refine (sv_iconst jM25 c25_39 rfl (v := 1) (by decide +kernel)).trans ?_
        refine (sv_iadd jM25 c25_40 rfl).trans ?_
        refine (sv_putf jM25 c25_41 rfl lf_7_15 (pf_50_2 _ _)).trans ?_
        refine (sv_iconst jM25 c25_44 rfl (v := 1) (by decide +kernel)).trans ?_
        exact sv_zret jM25 c25_45 rfl rfl (by decide +kernel)
      ·
        refine (sv_iconst jM25 c25_32 rfl (v := 0) (by decide +kernel)).trans ?_
        exact sv_zret jM25 c25_33 rfl rfl (by decide +kernel)
set_option maxRecDepth 20000 in
set_option maxHeartbeats 4000000 in
theorem Text_number_50_in (x1 : Int32) (x2 : Int32) (x3 : Int32) (σ : jm_S) : jc 26 [(.ref 50), (.int x1), (.int x2), (.int x3)] σ = (if (σ 50 3) = (-1 : Int32) then jv 26 19 [some (.ref 50), some (.int x1), some (.int x2), some (.int x3), some (.int (σ 50 2)), some (.int (0 : Int32))] [] σ else some (some (.int x2), σ)) := by
  refine (jc_of (ls1 := [some (.ref 50), some (.int x1), some (.int x2), some (.int x3), none, none]) ((jm_ini_of jM26).trans rfl)).trans ?_
  refine (sv_aload_n jM26 c26_0 rfl rfl).trans ?_
  refine (sv_getf jM26 c26_1 rfl lf_7_18 (fg_50_3 _)).trans ?_
  refine (sv_iconst jM26 c26_4 rfl (v := -1) (by decide +kernel)).trans ?_
  refine (sv_icmp_eq jM26 c26_5 rfl (t := 10) (by decide +kernel)).trans ?_
  refine jif _ ?_ ?_
  ·
    refine (sv_aload_n jM26 c26_10 rfl rfl).trans ?_
    refine (sv_getf jM26 c26_11 rfl lf_7_15 (fg_50_2 _)).trans ?_
    refine (sv_istore (ls1 := [some (.ref 50), some (.int x1), some (.int x2), some (.int x3), some (.int (σ 50 2)), none]) jM26 c26_14 rfl (Nat.lt_of_lt_of_eq (by decide +kernel : 4 < 6) rfl) rfl).trans ?_
    refine (sv_iconst jM26 c26_16 rfl (v := 0) (by decide +kernel)).trans ?_
    refine (sv_istore (ls1 := [some (.ref 50), some (.int x1), some (.int x2), some (.int x3), some (.int (σ 50 2)), some (.int (0 : Int32))]) jM26 c26_17 rfl (Nat.lt_of_lt_of_eq (by decide +kernel : 5 < 6) rfl) rfl).trans ?_
    rfl
  ·
    refine (sv_iload_n jM26 c26_8 rfl rfl).trans ?_
    exact sv_iret jM26 c26_9 rfl rfl
set_option maxRecDepth 20000 in
set_option maxHeartbeats 4000000 in
theorem Text_number_50_L19 (x1 : Int32) (x2 : Int32) (x3 : Int32) (x4 : Int32) (x5 : Int32) (σ : jm_S) : jv 26 19 [some (.ref 50), some (.int x1), some (.int x2), some (.int x3), some (.int x4), some (.int x5)] [] σ = (if (σ 50 1) ≤ (σ 50 2) then (if (σ 50 2) = x4 then jbv (jc 27 [(.ref 50), (.int x4)] σ) (fun τ1 => some (some (.int x5), τ1)) else (if x5 < x2 then jbv (jc 27 [(.ref 50), (.int x4)] σ) (fun τ2 => some (some (.int x5), τ2)) else (if x5 ≤ x3 then some (some (.int x5), σ) else jbv (jc 27 [(.ref 50), (.int x4)] σ) (fun τ3 => some (some (.int x5), τ3))))) else (if x1 ≤ ((σ 50 2) - x4) then (if (σ 50 2) = x4 then jbv (jc 27 [(.ref 50), (.int x4)] σ) (fun τ4 => some (some (.int x5), τ4)) else (if x5 < x2 then jbv (jc 27 [(.ref 50), (.int x4)] σ) (fun τ5 => some (some (.int x5), τ5)) else (if x5 ≤ x3 then some (some (.int x5), σ) else jbv (jc 27 [(.ref 50), (.int x4)] σ) (fun τ6 => some (some (.int x5), τ6))))) else (if (σ 50 2) < 0 ∨ 30 ≤ (σ 50 2).toNatClampNeg then none else (if (σ 51 (σ 50 2).toNatClampNeg) < (48 : Int32) then (if (σ 50 2) = x4 then jbv (jc 27 [(.ref 50), (.int x4)] σ) (fun τ7 => some (some (.int x5), τ7)) else (if x5 < x2 then jbv (jc 27 [(.ref 50), (.int x4)] σ) (fun τ8 => some (some (.int x5), τ8)) else (if x5 ≤ x3 then some (some (.int x5), σ) else jbv (jc 27 [(.ref 50), (.int x4)] σ) (fun τ9 => some (some (.int x5), τ9))))) else (if (σ 50 2) < 0 ∨ 30 ≤ (σ 50 2).toNatClampNeg then none else (if (57 : Int32) < (σ 51 (σ 50 2).toNatClampNeg) then (if (σ 50 2) = x4 then jbv (jc 27 [(.ref 50), (.int x4)] σ) (fun τ10 => some (some (.int x5), τ10)) else (if x5 < x2 then jbv (jc 27 [(.ref 50), (.int x4)] σ) (fun τ11 => some (some (.int x5), τ11)) else (if x5 ≤ x3 then some (some (.int x5), σ) else jbv (jc 27 [(.ref 50), (.int x4)] σ) (fun τ12 => some (some (.int x5), τ12))))) else (if (σ 50 2) < 0 ∨ 30 ≤ (σ 50 2).toNatClampNeg then none else jv 26 19 [some (.ref 50), some (.int x1), some (.int x2), some (.int x3), some (.int x4), some (.int ((((10 : Int32) * x5) + (σ 51 (σ 50 2).toNatClampNeg)) - (48 : Int32)))] [] (jm_up σ 50 2 ((σ 50 2) + (1 : Int32)))))))))) := by
  refine (sv_aload_n jM26 c26_19 rfl rfl).trans ?_
  refine (sv_getf jM26 c26_20 rfl lf_7_15 (fg_50_2 _)).trans ?_
  refine (sv_aload_n jM26 c26_23 rfl rfl).trans ?_
  refine (sv_getf jM26 c26_24 rfl lf_7_9 (fg_50_1 _)).trans ?_
  refine (sv_icmp_ge jM26 c26_27 rfl (t := 102) (by decide +kernel)).trans ?_
  refine jif _ ?_ ?_
  ·
    refine (sv_aload_n jM26 c26_102 rfl rfl).trans ?_
    refine (sv_getf jM26 c26_103 rfl lf_7_15 (fg_50_2 _)).trans ?_
    refine (sv_iload jM26 c26_106 rfl rfl).trans ?_
    refine (sv_icmp_eq jM26 c26_108 rfl (t := 123) (by decide +kernel)).trans ?_
    refine jif _ ?_ ?_
    ·
      refine (sv_aload_n jM26 c26_123 rfl rfl).trans ?_
      refine (sv_iload jM26 c26_124 rfl rfl).trans ?_
      refine (sv_callvv (pl := 0) jM26 c26_126 rfl (jm_call_v (a := 50) (as := [(.int x4)]) (rest := []) lm_7_29 rfl jM27 rfl rfl rfl rfl rfl) jM27 rfl rfl).trans ?_
      refine jbv_c (fun τ1 => ?_)
      refine (sv_iload jM26 c26_129 rfl rfl).trans ?_
      exact sv_iret jM26 c26_131 rfl rfl
    ·
      refine (sv_iload jM26 c26_111 rfl rfl).trans ?_
      refine (sv_iload_n jM26 c26_113 rfl rfl).trans ?_
      refine (sv_icmp_lt jM26 c26_114 rfl (t := 123) (by decide +kernel)).trans ?_
      refine jif _ ?_ ?_
      ·
        refine (sv_aload_n jM26 c26_123 rfl rfl).trans ?_
        refine (sv_iload jM26 c26_124 rfl rfl).trans ?_
        refine (sv_callvv (pl := 0) jM26 c26_126 rfl (jm_call_v (a := 50) (as := [(.int x4)]) (rest := []) lm_7_29 rfl jM27 rfl rfl rfl rfl rfl) jM27 rfl rfl).trans ?_
        refine jbv_c (fun τ2 => ?_)
        refine (sv_iload jM26 c26_129 rfl rfl).trans ?_
        exact sv_iret jM26 c26_131 rfl rfl
      ·
        refine (sv_iload jM26 c26_117 rfl rfl).trans ?_
        refine (sv_iload_n jM26 c26_119 rfl rfl).trans ?_
        refine (sv_icmp_le jM26 c26_120 rfl (t := 129) (by decide +kernel)).trans ?_
        refine jif _ ?_ ?_
        ·
          refine (sv_iload jM26 c26_129 rfl rfl).trans ?_
          exact sv_iret jM26 c26_131 rfl rfl
        ·
          refine (sv_aload_n jM26 c26_123 rfl rfl).trans ?_
          refine (sv_iload jM26 c26_124 rfl rfl).trans ?_
          refine (sv_callvv (pl := 0) jM26 c26_126 rfl (jm_call_v (a := 50) (as := [(.int x4)]) (rest := []) lm_7_29 rfl jM27 rfl rfl rfl rfl rfl) jM27 rfl rfl).trans ?_
          refine jbv_c (fun τ3 => ?_)
          refine (sv_iload jM26 c26_129 rfl rfl).trans ?_
          exact sv_iret jM26 c26_131 rfl rfl
  ·
    refine (sv_aload_n jM26 c26_30 rfl rfl).trans ?_
    refine (sv_getf jM26 c26_31 rfl lf_7_15 (fg_50_2 _)).trans ?_
    refine (sv_iload jM26 c26_34 rfl rfl).trans ?_
    refine (sv_isub jM26 c26_36 rfl).trans ?_
    refine (sv_iload_n jM26 c26_37 rfl rfl).trans ?_
    refine (sv_icmp_ge jM26 c26_38 rfl (t := 102) (by decide +kernel)).trans ?_
    refine jif _ ?_ ?_
    ·
      refine (sv_aload_n jM26 c26_102 rfl rfl).trans ?_
      refine (sv_getf jM26 c26_103 rfl lf_7_15 (fg_50_2 _)).trans ?_
      refine (sv_iload jM26 c26_106 rfl rfl).trans ?_
      refine (sv_icmp_eq jM26 c26_108 rfl (t := 123) (by decide +kernel)).trans ?_
      refine jif _ ?_ ?_
      ·
        refine (sv_aload_n jM26 c26_123 rfl rfl).trans ?_
        refine (sv_iload jM26 c26_124 rfl rfl).trans ?_
        refine (sv_callvv (pl := 0) jM26 c26_126 rfl (jm_call_v (a := 50) (as := [(.int x4)]) (rest := []) lm_7_29 rfl jM27 rfl rfl rfl rfl rfl) jM27 rfl rfl).trans ?_
        refine jbv_c (fun τ4 => ?_)
        refine (sv_iload jM26 c26_129 rfl rfl).trans ?_
        exact sv_iret jM26 c26_131 rfl rfl
      ·
        refine (sv_iload jM26 c26_111 rfl rfl).trans ?_
        refine (sv_iload_n jM26 c26_113 rfl rfl).trans ?_
        refine (sv_icmp_lt jM26 c26_114 rfl (t := 123) (by decide +kernel)).trans ?_
        refine jif _ ?_ ?_
        ·
          refine (sv_aload_n jM26 c26_123 rfl rfl).trans ?_
          refine (sv_iload jM26 c26_124 rfl rfl).trans ?_
          refine (sv_callvv (pl := 0) jM26 c26_126 rfl (jm_call_v (a := 50) (as := [(.int x4)]) (rest := []) lm_7_29 rfl jM27 rfl rfl rfl rfl rfl) jM27 rfl rfl).trans ?_
          refine jbv_c (fun τ5 => ?_)
          refine (sv_iload jM26 c26_129 rfl rfl).trans ?_
          exact sv_iret jM26 c26_131 rfl rfl
        ·
          refine (sv_iload jM26 c26_117 rfl rfl).trans ?_
          refine (sv_iload_n jM26 c26_119 rfl rfl).trans ?_
          refine (sv_icmp_le jM26 c26_120 rfl (t := 129) (by decide +kernel)).trans ?_
          refine jif _ ?_ ?_
          ·
            refine (sv_iload jM26 c26_129 rfl rfl).trans ?_
            exact sv_iret jM26 c26_131 rfl rfl
          ·
            refine (sv_aload_n jM26 c26_123 rfl rfl).trans ?_
            refine (sv_iload jM26 c26_124 rfl rfl).trans ?_
            refine (sv_callvv (pl := 0) jM26 c26_126 rfl (jm_call_v (a := 50) (as := [(.int x4)]) (rest := []) lm_7_29 rfl jM27 rfl rfl rfl rfl rfl) jM27 rfl rfl).trans ?_
            refine jbv_c (fun τ6 => ?_)
            refine (sv_iload jM26 c26_129 rfl rfl).trans ?_
            exact sv_iret jM26 c26_131 rfl rfl
    ·
      refine (sv_aload_n jM26 c26_41 rfl rfl).trans ?_
      refine (sv_getf jM26 c26_42 rfl lf_7_21 (fg_50_0 _)).trans ?_
      refine (sv_aload_n jM26 c26_45 rfl rfl).trans ?_
      refine (sv_getf jM26 c26_46 rfl lf_7_15 (fg_50_2 _)).trans ?_
      refine (sv_iald jM26 c26_49 rfl (ia_51 _)).trans ?_
      refine jif _ rfl ?_
      refine (sv_bipush jM26 c26_50 rfl (v := 48) (by decide +kernel)).trans ?_
      refine (sv_icmp_lt jM26 c26_52 rfl (t := 102) (by decide +kernel)).trans ?_
      refine jif _ ?_ ?_
      ·
        refine (sv_aload_n jM26 c26_102 rfl rfl).trans ?_
        refine (sv_getf jM26 c26_103 rfl lf_7_15 (fg_50_2 _)).trans ?_
        refine (sv_iload jM26 c26_106 rfl rfl).trans ?_
        refine (sv_icmp_eq jM26 c26_108 rfl (t := 123) (by decide +kernel)).trans ?_
        refine jif _ ?_ ?_
        ·
          refine (sv_aload_n jM26 c26_123 rfl rfl).trans ?_
          refine (sv_iload jM26 c26_124 rfl rfl).trans ?_
          refine (sv_callvv (pl := 0) jM26 c26_126 rfl (jm_call_v (a := 50) (as := [(.int x4)]) (rest := []) lm_7_29 rfl jM27 rfl rfl rfl rfl rfl) jM27 rfl rfl).trans ?_
          refine jbv_c (fun τ7 => ?_)
          refine (sv_iload jM26 c26_129 rfl rfl).trans ?_
          exact sv_iret jM26 c26_131 rfl rfl
        ·
          refine (sv_iload jM26 c26_111 rfl rfl).trans ?_
          refine (sv_iload_n jM26 c26_113 rfl rfl).trans ?_
          refine (sv_icmp_lt jM26 c26_114 rfl (t := 123) (by decide +kernel)).trans ?_
          refine jif _ ?_ ?_
          ·
            refine (sv_aload_n jM26 c26_123 rfl rfl).trans ?_
            refine (sv_iload jM26 c26_124 rfl rfl).trans ?_
            refine (sv_callvv (pl := 0) jM26 c26_126 rfl (jm_call_v (a := 50) (as := [(.int x4)]) (rest := []) lm_7_29 rfl jM27 rfl rfl rfl rfl rfl) jM27 rfl rfl).trans ?_
            refine jbv_c (fun τ8 => ?_)
            refine (sv_iload jM26 c26_129 rfl rfl).trans ?_
            exact sv_iret jM26 c26_131 rfl rfl
          ·
            refine (sv_iload jM26 c26_117 rfl rfl).trans ?_
            refine (sv_iload_n jM26 c26_119 rfl rfl).trans ?_
            refine (sv_icmp_le jM26 c26_120 rfl (t := 129) (by decide +kernel)).trans ?_
            refine jif _ ?_ ?_
            ·
              refine (sv_iload jM26 c26_129 rfl rfl).trans ?_
              exact sv_iret jM26 c26_131 rfl rfl
            ·
              refine (sv_aload_n jM26 c26_123 rfl rfl).trans ?_
              refine (sv_iload jM26 c26_124 rfl rfl).trans ?_
              refine (sv_callvv (pl := 0) jM26 c26_126 rfl (jm_call_v (a := 50) (as := [(.int x4)]) (rest := []) lm_7_29 rfl jM27 rfl rfl rfl rfl rfl) jM27 rfl rfl).trans ?_
              refine jbv_c (fun τ9 => ?_)
              refine (sv_iload jM26 c26_129 rfl rfl).trans ?_
              exact sv_iret jM26 c26_131 rfl rfl
      ·
        refine (sv_aload_n jM26 c26_55 rfl rfl).trans ?_
        refine (sv_getf jM26 c26_56 rfl lf_7_21 (fg_50_0 _)).trans ?_
        refine (sv_aload_n jM26 c26_59 rfl rfl).trans ?_
        refine (sv_getf jM26 c26_60 rfl lf_7_15 (fg_50_2 _)).trans ?_
        refine (sv_iald jM26 c26_63 rfl (ia_51 _)).trans ?_
        refine jif _ rfl ?_
        refine (sv_bipush jM26 c26_64 rfl (v := 57) (by decide +kernel)).trans ?_
        refine (sv_icmp_gt jM26 c26_66 rfl (t := 102) (by decide +kernel)).trans ?_
        refine jif _ ?_ ?_
        ·
          refine (sv_aload_n jM26 c26_102 rfl rfl).trans ?_
          refine (sv_getf jM26 c26_103 rfl lf_7_15 (fg_50_2 _)).trans ?_
          refine (sv_iload jM26 c26_106 rfl rfl).trans ?_
          refine (sv_icmp_eq jM26 c26_108 rfl (t := 123) (by decide +kernel)).trans ?_
          refine jif _ ?_ ?_
          ·
            refine (sv_aload_n jM26 c26_123 rfl rfl).trans ?_
            refine (sv_iload jM26 c26_124 rfl rfl).trans ?_
            refine (sv_callvv (pl := 0) jM26 c26_126 rfl (jm_call_v (a := 50) (as := [(.int x4)]) (rest := []) lm_7_29 rfl jM27 rfl rfl rfl rfl rfl) jM27 rfl rfl).trans ?_
            refine jbv_c (fun τ10 => ?_)
            refine (sv_iload jM26 c26_129 rfl rfl).trans ?_
            exact sv_iret jM26 c26_131 rfl rfl
          ·
            refine (sv_iload jM26 c26_111 rfl rfl).trans ?_
            refine (sv_iload_n jM26 c26_113 rfl rfl).trans ?_
            refine (sv_icmp_lt jM26 c26_114 rfl (t := 123) (by decide +kernel)).trans ?_
            refine jif _ ?_ ?_
            ·
              refine (sv_aload_n jM26 c26_123 rfl rfl).trans ?_
              refine (sv_iload jM26 c26_124 rfl rfl).trans ?_
              refine (sv_callvv (pl := 0) jM26 c26_126 rfl (jm_call_v (a := 50) (as := [(.int x4)]) (rest := []) lm_7_29 rfl jM27 rfl rfl rfl rfl rfl) jM27 rfl rfl).trans ?_
              refine jbv_c (fun τ11 => ?_)
              refine (sv_iload jM26 c26_129 rfl rfl).trans ?_
              exact sv_iret jM26 c26_131 rfl rfl
            ·
              refine (sv_iload jM26 c26_117 rfl rfl).trans ?_
              refine (sv_iload_n jM26 c26_119 rfl rfl).trans ?_
              refine (sv_icmp_le jM26 c26_120 rfl (t := 129) (by decide +kernel)).trans ?_
              refine jif _ ?_ ?_
              ·
                refine (sv_iload jM26 c26_129 rfl rfl).trans ?_
                exact sv_iret jM26 c26_131 rfl rfl
              ·
                refine (sv_aload_n jM26 c26_123 rfl rfl).trans ?_
                refine (sv_iload jM26 c26_124 rfl rfl).trans ?_
                refine (sv_callvv (pl := 0) jM26 c26_126 rfl (jm_call_v (a := 50) (as := [(.int x4)]) (rest := []) lm_7_29 rfl jM27 rfl rfl rfl rfl rfl) jM27 rfl rfl).trans ?_
                refine jbv_c (fun τ12 => ?_)
                refine (sv_iload jM26 c26_129 rfl rfl).trans ?_
                exact sv_iret jM26 c26_131 rfl rfl
        ·
          refine (sv_bipush jM26 c26_69 rfl (v := 10) (by decide +kernel)).trans ?_
          refine (sv_iload jM26 c26_71 rfl rfl).trans ?_
          refine (sv_imul jM26 c26_73 rfl).trans ?_
          refine (sv_aload_n jM26 c26_74 rfl rfl).trans ?_
          refine (sv_getf jM26 c26_75 rfl lf_7_21 (fg_50_0 _)).trans ?_
          refine (sv_aload_n jM26 c26_78 rfl rfl).trans ?_
          refine (sv_getf jM26 c26_79 rfl lf_7_15 (fg_50_2 _)).trans ?_
          refine (sv_iald jM26 c26_82 rfl (ia_51 _)).trans ?_
          refine jif _ rfl ?_
          refine (sv_iadd jM26 c26_83 rfl).trans ?_
          refine (sv_bipush jM26 c26_84 rfl (v := 48) (by decide +kernel)).trans ?_
          refine (sv_isub jM26 c26_86 rfl).trans ?_
          refine (sv_istore (ls1 := [some (.ref 50), some (.int x1), some (.int x2), some (.int x3), some (.int x4), some (.int ((((10 : Int32) * x5) + (σ 51 (σ 50 2).toNatClampNeg)) - (48 : Int32)))]) jM26 c26_87 rfl (Nat.lt_of_lt_of_eq (by decide +kernel : 5 < 6) rfl) rfl).trans ?_
          refine (sv_aload_n jM26 c26_89 rfl rfl).trans ?_
          refine (sv_dup jM26 c26_90 rfl rfl).trans ?_
          refine (sv_getf jM26 c26_91 rfl lf_7_15 (fg_50_2 _)).trans ?_
          refine (sv_iconst jM26 c26_94 rfl (v := 1) (by decide +kernel)).trans ?_
          refine (sv_iadd jM26 c26_95 rfl).trans ?_
          refine (sv_putf jM26 c26_96 rfl lf_7_15 (pf_50_2 _ _)).trans ?_
          refine (sv_goto jM26 c26_99 rfl (t := 19) (by decide +kernel)).trans ?_
          rfl
set_option maxRecDepth 20000 in
set_option maxHeartbeats 4000000 in
theorem Text_needs_42_in (x1 : Int32) (σ : jm_S) : jc 28 [(.ref 42), (.int x1)] σ = jbi (jc 25 [(.ref 42), (.int x1)] σ) (fun r1 τ1 => (if ¬ r1 = 0 then some (none, τ1) else jbv (jc 27 [(.ref 42), (.int (τ1 42 2))] τ1) (fun τ2 => some (none, τ2)))) := by
  refine (jc_of (ls1 := [some (.ref 42), some (.int x1)]) ((jm_ini_of jM28).trans rfl)).trans ?_
  refine (sv_aload_n jM28 c28_0 rfl rfl).trans ?_
  refine (sv_iload_n jM28 c28_1 rfl rfl).trans ?_
  refine (sv_callvi (pl := 0) jM28 c28_2 rfl (jm_call_v (a := 42) (as := [(.int x1)]) (rest := []) lm_7_25 rfl jM25 rfl rfl rfl rfl rfl) jM25 rfl (Or.inr rfl)).trans ?_
  refine jbi_c (fun r1 τ1 => ?_)
  refine (sv_if_ne jM28 c28_5 rfl (t := 16) (by decide +kernel)).trans ?_
  refine jif _ ?_ ?_
  ·
    exact sv_vret jM28 c28_16 rfl rfl
  ·
    refine (sv_aload_n jM28 c28_8 rfl rfl).trans ?_
    refine (sv_aload_n jM28 c28_9 rfl rfl).trans ?_
    refine (sv_getf jM28 c28_10 rfl lf_7_15 (fg_42_2 _)).trans ?_
    refine (sv_callvv (pl := 0) jM28 c28_13 rfl (jm_call_v (a := 42) (as := [(.int (τ1 42 2))]) (rest := []) lm_7_29 rfl jM27 rfl rfl rfl rfl rfl) jM27 rfl rfl).trans ?_
    refine jbv_c (fun τ2 => ?_)
    exact sv_vret jM28 c28_16 rfl rfl
set_option maxRecDepth 20000 in
set_option maxHeartbeats 4000000 in
theorem Text_failAt_42_in (x1 : Int32) (σ : jm_S) : jc 27 [(.ref 42), (.int x1)] σ = (if ¬ (σ 42 3) = (-1 : Int32) then some (none, σ) else some (none, (jm_up σ 42 3 x1))) := by
  refine (jc_of (ls1 := [some (.ref 42), some (.int x1)]) ((jm_ini_of jM27).trans rfl)).trans ?_
  refine (sv_aload_n jM27 c27_0 rfl rfl).trans ?_
  refine (sv_getf jM27 c27_1 rfl lf_7_18 (fg_42_3 _)).trans ?_
  refine (sv_iconst jM27 c27_4 rfl (v := -1) (by decide +kernel)).trans ?_
  refine (sv_icmp_ne jM27 c27_5 rfl (t := 13) (by decide +kernel)).trans ?_
  refine jif _ ?_ ?_
  ·
    exact sv_vret jM27 c27_13 rfl rfl
  ·
    refine (sv_aload_n jM27 c27_8 rfl rfl).trans ?_
    refine (sv_iload_n jM27 c27_9 rfl rfl).trans ?_
    refine (sv_putf jM27 c27_10 rfl lf_7_18 (pf_42_3 _ _)).trans ?_
    exact sv_vret jM27 c27_13 rfl rfl
set_option maxRecDepth 20000 in
set_option maxHeartbeats 4000000 in
theorem Text_takes_42_in (x1 : Int32) (σ : jm_S) : jc 25 [(.ref 42), (.int x1)] σ = (if ¬ (σ 42 3) = (-1 : Int32) then some (some (.int (0 : Int32)), σ) else (if (σ 42 1) ≤ (σ 42 2) then some (some (.int (0 : Int32)), σ) else (if (σ 42 2) < 0 ∨ 60 ≤ (σ 42 2).toNatClampNeg then none else (if (σ 43 (σ 42 2).toNatClampNeg) = x1 then some (some (.int (1 : Int32)), (jm_up σ 42 2 ((σ 42 2) + (1 : Int32)))) else some (some (.int (0 : Int32)), σ))))) := by
  refine (jc_of (ls1 := [some (.ref 42), some (.int x1)]) ((jm_ini_of jM25).trans rfl)).trans ?_
  refine (sv_aload_n jM25 c25_0 rfl rfl).trans ?_
  refine (sv_getf jM25 c25_1 rfl lf_7_18 (fg_42_3 _)).trans ?_
  refine (sv_iconst jM25 c25_4 rfl (v := -1) (by decide +kernel)).trans ?_
  refine (sv_icmp_ne jM25 c25_5 rfl (t := 32) (by decide +kernel)).trans ?_
  refine jif _ ?_ ?_
  ·
    refine (sv_iconst jM25 c25_32 rfl (v := 0) (by decide +kernel)).trans ?_
    exact sv_zret jM25 c25_33 rfl rfl (by decide +kernel)
  ·
    refine (sv_aload_n jM25 c25_8 rfl rfl).trans ?_
    refine (sv_getf jM25 c25_9 rfl lf_7_15 (fg_42_2 _)).trans ?_
    refine (sv_aload_n jM25 c25_12 rfl rfl).trans ?_
    refine (sv_getf jM25 c25_13 rfl lf_7_9 (fg_42_1 _)).trans ?_
    refine (sv_icmp_ge jM25 c25_16 rfl (t := 32) (by decide +kernel)).trans ?_
    refine jif _ ?_ ?_
    ·
      refine (sv_iconst jM25 c25_32 rfl (v := 0) (by decide +kernel)).trans ?_
      exact sv_zret jM25 c25_33 rfl rfl (by decide +kernel)
    ·
      refine (sv_aload_n jM25 c25_19 rfl rfl).trans ?_
      refine (sv_getf jM25 c25_20 rfl lf_7_21 (fg_42_0 _)).trans ?_
      refine (sv_aload_n jM25 c25_23 rfl rfl).trans ?_
      refine (sv_getf jM25 c25_24 rfl lf_7_15 (fg_42_2 _)).trans ?_
      refine (sv_iald jM25 c25_27 rfl (ia_43 _)).trans ?_
      refine jif _ rfl ?_
      refine (sv_iload_n jM25 c25_28 rfl rfl).trans ?_
      refine (sv_icmp_eq jM25 c25_29 rfl (t := 34) (by decide +kernel)).trans ?_
      refine jif _ ?_ ?_
      ·
        refine (sv_aload_n jM25 c25_34 rfl rfl).trans ?_
        refine (sv_dup jM25 c25_35 rfl rfl).trans ?_
        refine (sv_getf jM25 c25_36 rfl lf_7_15 (fg_42_2 _)).trans ?_
        refine (sv_iconst jM25 c25_39 rfl (v := 1) (by decide +kernel)).trans ?_
        refine (sv_iadd jM25 c25_40 rfl).trans ?_
        refine (sv_putf jM25 c25_41 rfl lf_7_15 (pf_42_2 _ _)).trans ?_
        refine (sv_iconst jM25 c25_44 rfl (v := 1) (by decide +kernel)).trans ?_
        exact sv_zret jM25 c25_45 rfl rfl (by decide +kernel)
      ·
        refine (sv_iconst jM25 c25_32 rfl (v := 0) (by decide +kernel)).trans ?_
        exact sv_zret jM25 c25_33 rfl rfl (by decide +kernel)
set_option maxRecDepth 20000 in
set_option maxHeartbeats 4000000 in
theorem Text_number_42_in (x1 : Int32) (x2 : Int32) (x3 : Int32) (σ : jm_S) : jc 26 [(.ref 42), (.int x1), (.int x2), (.int x3)] σ = (if (σ 42 3) = (-1 : Int32) then jv 26 19 [some (.ref 42), some (.int x1), some (.int x2), some (.int x3), some (.int (σ 42 2)), some (.int (0 : Int32))] [] σ else some (some (.int x2), σ)) := by
  refine (jc_of (ls1 := [some (.ref 42), some (.int x1), some (.int x2), some (.int x3), none, none]) ((jm_ini_of jM26).trans rfl)).trans ?_
  refine (sv_aload_n jM26 c26_0 rfl rfl).trans ?_
  refine (sv_getf jM26 c26_1 rfl lf_7_18 (fg_42_3 _)).trans ?_
  refine (sv_iconst jM26 c26_4 rfl (v := -1) (by decide +kernel)).trans ?_
  refine (sv_icmp_eq jM26 c26_5 rfl (t := 10) (by decide +kernel)).trans ?_
  refine jif _ ?_ ?_
  ·
    refine (sv_aload_n jM26 c26_10 rfl rfl).trans ?_
    refine (sv_getf jM26 c26_11 rfl lf_7_15 (fg_42_2 _)).trans ?_
    refine (sv_istore (ls1 := [some (.ref 42), some (.int x1), some (.int x2), some (.int x3), some (.int (σ 42 2)), none]) jM26 c26_14 rfl (Nat.lt_of_lt_of_eq (by decide +kernel : 4 < 6) rfl) rfl).trans ?_
    refine (sv_iconst jM26 c26_16 rfl (v := 0) (by decide +kernel)).trans ?_
    refine (sv_istore (ls1 := [some (.ref 42), some (.int x1), some (.int x2), some (.int x3), some (.int (σ 42 2)), some (.int (0 : Int32))]) jM26 c26_17 rfl (Nat.lt_of_lt_of_eq (by decide +kernel : 5 < 6) rfl) rfl).trans ?_
    rfl
  ·
    refine (sv_iload_n jM26 c26_8 rfl rfl).trans ?_
    exact sv_iret jM26 c26_9 rfl rfl
set_option maxRecDepth 20000 in
set_option maxHeartbeats 4000000 in
theorem Text_number_42_L19 (x1 : Int32) (x2 : Int32) (x3 : Int32) (x4 : Int32) (x5 : Int32) (σ : jm_S) : jv 26 19 [some (.ref 42), some (.int x1), some (.int x2), some (.int x3), some (.int x4), some (.int x5)] [] σ = (if (σ 42 1) ≤ (σ 42 2) then (if (σ 42 2) = x4 then jbv (jc 27 [(.ref 42), (.int x4)] σ) (fun τ1 => some (some (.int x5), τ1)) else (if x5 < x2 then jbv (jc 27 [(.ref 42), (.int x4)] σ) (fun τ2 => some (some (.int x5), τ2)) else (if x5 ≤ x3 then some (some (.int x5), σ) else jbv (jc 27 [(.ref 42), (.int x4)] σ) (fun τ3 => some (some (.int x5), τ3))))) else (if x1 ≤ ((σ 42 2) - x4) then (if (σ 42 2) = x4 then jbv (jc 27 [(.ref 42), (.int x4)] σ) (fun τ4 => some (some (.int x5), τ4)) else (if x5 < x2 then jbv (jc 27 [(.ref 42), (.int x4)] σ) (fun τ5 => some (some (.int x5), τ5)) else (if x5 ≤ x3 then some (some (.int x5), σ) else jbv (jc 27 [(.ref 42), (.int x4)] σ) (fun τ6 => some (some (.int x5), τ6))))) else (if (σ 42 2) < 0 ∨ 60 ≤ (σ 42 2).toNatClampNeg then none else (if (σ 43 (σ 42 2).toNatClampNeg) < (48 : Int32) then (if (σ 42 2) = x4 then jbv (jc 27 [(.ref 42), (.int x4)] σ) (fun τ7 => some (some (.int x5), τ7)) else (if x5 < x2 then jbv (jc 27 [(.ref 42), (.int x4)] σ) (fun τ8 => some (some (.int x5), τ8)) else (if x5 ≤ x3 then some (some (.int x5), σ) else jbv (jc 27 [(.ref 42), (.int x4)] σ) (fun τ9 => some (some (.int x5), τ9))))) else (if (σ 42 2) < 0 ∨ 60 ≤ (σ 42 2).toNatClampNeg then none else (if (57 : Int32) < (σ 43 (σ 42 2).toNatClampNeg) then (if (σ 42 2) = x4 then jbv (jc 27 [(.ref 42), (.int x4)] σ) (fun τ10 => some (some (.int x5), τ10)) else (if x5 < x2 then jbv (jc 27 [(.ref 42), (.int x4)] σ) (fun τ11 => some (some (.int x5), τ11)) else (if x5 ≤ x3 then some (some (.int x5), σ) else jbv (jc 27 [(.ref 42), (.int x4)] σ) (fun τ12 => some (some (.int x5), τ12))))) else (if (σ 42 2) < 0 ∨ 60 ≤ (σ 42 2).toNatClampNeg then none else jv 26 19 [some (.ref 42), some (.int x1), some (.int x2), some (.int x3), some (.int x4), some (.int ((((10 : Int32) * x5) + (σ 43 (σ 42 2).toNatClampNeg)) - (48 : Int32)))] [] (jm_up σ 42 2 ((σ 42 2) + (1 : Int32)))))))))) := by
  refine (sv_aload_n jM26 c26_19 rfl rfl).trans ?_
  refine (sv_getf jM26 c26_20 rfl lf_7_15 (fg_42_2 _)).trans ?_
  refine (sv_aload_n jM26 c26_23 rfl rfl).trans ?_
  refine (sv_getf jM26 c26_24 rfl lf_7_9 (fg_42_1 _)).trans ?_
  refine (sv_icmp_ge jM26 c26_27 rfl (t := 102) (by decide +kernel)).trans ?_
  refine jif _ ?_ ?_
  ·
    refine (sv_aload_n jM26 c26_102 rfl rfl).trans ?_
    refine (sv_getf jM26 c26_103 rfl lf_7_15 (fg_42_2 _)).trans ?_
    refine (sv_iload jM26 c26_106 rfl rfl).trans ?_
    refine (sv_icmp_eq jM26 c26_108 rfl (t := 123) (by decide +kernel)).trans ?_
    refine jif _ ?_ ?_
    ·
      refine (sv_aload_n jM26 c26_123 rfl rfl).trans ?_
      refine (sv_iload jM26 c26_124 rfl rfl).trans ?_
      refine (sv_callvv (pl := 0) jM26 c26_126 rfl (jm_call_v (a := 42) (as := [(.int x4)]) (rest := []) lm_7_29 rfl jM27 rfl rfl rfl rfl rfl) jM27 rfl rfl).trans ?_
      refine jbv_c (fun τ1 => ?_)
      refine (sv_iload jM26 c26_129 rfl rfl).trans ?_
      exact sv_iret jM26 c26_131 rfl rfl
    ·
      refine (sv_iload jM26 c26_111 rfl rfl).trans ?_
      refine (sv_iload_n jM26 c26_113 rfl rfl).trans ?_
      refine (sv_icmp_lt jM26 c26_114 rfl (t := 123) (by decide +kernel)).trans ?_
      refine jif _ ?_ ?_
      ·
        refine (sv_aload_n jM26 c26_123 rfl rfl).trans ?_
        refine (sv_iload jM26 c26_124 rfl rfl).trans ?_
        refine (sv_callvv (pl := 0) jM26 c26_126 rfl (jm_call_v (a := 42) (as := [(.int x4)]) (rest := []) lm_7_29 rfl jM27 rfl rfl rfl rfl rfl) jM27 rfl rfl).trans ?_
        refine jbv_c (fun τ2 => ?_)
        refine (sv_iload jM26 c26_129 rfl rfl).trans ?_
        exact sv_iret jM26 c26_131 rfl rfl
      ·
        refine (sv_iload jM26 c26_117 rfl rfl).trans ?_
        refine (sv_iload_n jM26 c26_119 rfl rfl).trans ?_
        refine (sv_icmp_le jM26 c26_120 rfl (t := 129) (by decide +kernel)).trans ?_
        refine jif _ ?_ ?_
        ·
          refine (sv_iload jM26 c26_129 rfl rfl).trans ?_
          exact sv_iret jM26 c26_131 rfl rfl
        ·
          refine (sv_aload_n jM26 c26_123 rfl rfl).trans ?_
          refine (sv_iload jM26 c26_124 rfl rfl).trans ?_
          refine (sv_callvv (pl := 0) jM26 c26_126 rfl (jm_call_v (a := 42) (as := [(.int x4)]) (rest := []) lm_7_29 rfl jM27 rfl rfl rfl rfl rfl) jM27 rfl rfl).trans ?_
          refine jbv_c (fun τ3 => ?_)
          refine (sv_iload jM26 c26_129 rfl rfl).trans ?_
          exact sv_iret jM26 c26_131 rfl rfl
  ·
    refine (sv_aload_n jM26 c26_30 rfl rfl).trans ?_
    refine (sv_getf jM26 c26_31 rfl lf_7_15 (fg_42_2 _)).trans ?_
    refine (sv_iload jM26 c26_34 rfl rfl).trans ?_
    refine (sv_isub jM26 c26_36 rfl).trans ?_
    refine (sv_iload_n jM26 c26_37 rfl rfl).trans ?_
    refine (sv_icmp_ge jM26 c26_38 rfl (t := 102) (by decide +kernel)).trans ?_
    refine jif _ ?_ ?_
    ·
      refine (sv_aload_n jM26 c26_102 rfl rfl).trans ?_
      refine (sv_getf jM26 c26_103 rfl lf_7_15 (fg_42_2 _)).trans ?_
      refine (sv_iload jM26 c26_106 rfl rfl).trans ?_
      refine (sv_icmp_eq jM26 c26_108 rfl (t := 123) (by decide +kernel)).trans ?_
      refine jif _ ?_ ?_
      ·
        refine (sv_aload_n jM26 c26_123 rfl rfl).trans ?_
        refine (sv_iload jM26 c26_124 rfl rfl).trans ?_
        refine (sv_callvv (pl := 0) jM26 c26_126 rfl (jm_call_v (a := 42) (as := [(.int x4)]) (rest := []) lm_7_29 rfl jM27 rfl rfl rfl rfl rfl) jM27 rfl rfl).trans ?_
        refine jbv_c (fun τ4 => ?_)
        refine (sv_iload jM26 c26_129 rfl rfl).trans ?_
        exact sv_iret jM26 c26_131 rfl rfl
      ·
        refine (sv_iload jM26 c26_111 rfl rfl).trans ?_
        refine (sv_iload_n jM26 c26_113 rfl rfl).trans ?_
        refine (sv_icmp_lt jM26 c26_114 rfl (t := 123) (by decide +kernel)).trans ?_
        refine jif _ ?_ ?_
        ·
          refine (sv_aload_n jM26 c26_123 rfl rfl).trans ?_
          refine (sv_iload jM26 c26_124 rfl rfl).trans ?_
          refine (sv_callvv (pl := 0) jM26 c26_126 rfl (jm_call_v (a := 42) (as := [(.int x4)]) (rest := []) lm_7_29 rfl jM27 rfl rfl rfl rfl rfl) jM27 rfl rfl).trans ?_
          refine jbv_c (fun τ5 => ?_)
          refine (sv_iload jM26 c26_129 rfl rfl).trans ?_
          exact sv_iret jM26 c26_131 rfl rfl
        ·
          refine (sv_iload jM26 c26_117 rfl rfl).trans ?_
          refine (sv_iload_n jM26 c26_119 rfl rfl).trans ?_
          refine (sv_icmp_le jM26 c26_120 rfl (t := 129) (by decide +kernel)).trans ?_
          refine jif _ ?_ ?_
          ·
            refine (sv_iload jM26 c26_129 rfl rfl).trans ?_
            exact sv_iret jM26 c26_131 rfl rfl
          ·
            refine (sv_aload_n jM26 c26_123 rfl rfl).trans ?_
            refine (sv_iload jM26 c26_124 rfl rfl).trans ?_
            refine (sv_callvv (pl := 0) jM26 c26_126 rfl (jm_call_v (a := 42) (as := [(.int x4)]) (rest := []) lm_7_29 rfl jM27 rfl rfl rfl rfl rfl) jM27 rfl rfl).trans ?_
            refine jbv_c (fun τ6 => ?_)
            refine (sv_iload jM26 c26_129 rfl rfl).trans ?_
            exact sv_iret jM26 c26_131 rfl rfl
    ·
      refine (sv_aload_n jM26 c26_41 rfl rfl).trans ?_
      refine (sv_getf jM26 c26_42 rfl lf_7_21 (fg_42_0 _)).trans ?_
      refine (sv_aload_n jM26 c26_45 rfl rfl).trans ?_
      refine (sv_getf jM26 c26_46 rfl lf_7_15 (fg_42_2 _)).trans ?_
      refine (sv_iald jM26 c26_49 rfl (ia_43 _)).trans ?_
      refine jif _ rfl ?_
      refine (sv_bipush jM26 c26_50 rfl (v := 48) (by decide +kernel)).trans ?_
      refine (sv_icmp_lt jM26 c26_52 rfl (t := 102) (by decide +kernel)).trans ?_
      refine jif _ ?_ ?_
      ·
        refine (sv_aload_n jM26 c26_102 rfl rfl).trans ?_
        refine (sv_getf jM26 c26_103 rfl lf_7_15 (fg_42_2 _)).trans ?_
        refine (sv_iload jM26 c26_106 rfl rfl).trans ?_
        refine (sv_icmp_eq jM26 c26_108 rfl (t := 123) (by decide +kernel)).trans ?_
        refine jif _ ?_ ?_
        ·
          refine (sv_aload_n jM26 c26_123 rfl rfl).trans ?_
          refine (sv_iload jM26 c26_124 rfl rfl).trans ?_
          refine (sv_callvv (pl := 0) jM26 c26_126 rfl (jm_call_v (a := 42) (as := [(.int x4)]) (rest := []) lm_7_29 rfl jM27 rfl rfl rfl rfl rfl) jM27 rfl rfl).trans ?_
          refine jbv_c (fun τ7 => ?_)
          refine (sv_iload jM26 c26_129 rfl rfl).trans ?_
          exact sv_iret jM26 c26_131 rfl rfl
        ·
          refine (sv_iload jM26 c26_111 rfl rfl).trans ?_
          refine (sv_iload_n jM26 c26_113 rfl rfl).trans ?_
          refine (sv_icmp_lt jM26 c26_114 rfl (t := 123) (by decide +kernel)).trans ?_
          refine jif _ ?_ ?_
          ·
            refine (sv_aload_n jM26 c26_123 rfl rfl).trans ?_
            refine (sv_iload jM26 c26_124 rfl rfl).trans ?_
            refine (sv_callvv (pl := 0) jM26 c26_126 rfl (jm_call_v (a := 42) (as := [(.int x4)]) (rest := []) lm_7_29 rfl jM27 rfl rfl rfl rfl rfl) jM27 rfl rfl).trans ?_
            refine jbv_c (fun τ8 => ?_)
            refine (sv_iload jM26 c26_129 rfl rfl).trans ?_
            exact sv_iret jM26 c26_131 rfl rfl
          ·
            refine (sv_iload jM26 c26_117 rfl rfl).trans ?_
            refine (sv_iload_n jM26 c26_119 rfl rfl).trans ?_
            refine (sv_icmp_le jM26 c26_120 rfl (t := 129) (by decide +kernel)).trans ?_
            refine jif _ ?_ ?_
            ·
              refine (sv_iload jM26 c26_129 rfl rfl).trans ?_
              exact sv_iret jM26 c26_131 rfl rfl
            ·
              refine (sv_aload_n jM26 c26_123 rfl rfl).trans ?_
              refine (sv_iload jM26 c26_124 rfl rfl).trans ?_
              refine (sv_callvv (pl := 0) jM26 c26_126 rfl (jm_call_v (a := 42) (as := [(.int x4)]) (rest := []) lm_7_29 rfl jM27 rfl rfl rfl rfl rfl) jM27 rfl rfl).trans ?_
              refine jbv_c (fun τ9 => ?_)
              refine (sv_iload jM26 c26_129 rfl rfl).trans ?_
              exact sv_iret jM26 c26_131 rfl rfl
      ·
        refine (sv_aload_n jM26 c26_55 rfl rfl).trans ?_
        refine (sv_getf jM26 c26_56 rfl lf_7_21 (fg_42_0 _)).trans ?_
        refine (sv_aload_n jM26 c26_59 rfl rfl).trans ?_
        refine (sv_getf jM26 c26_60 rfl lf_7_15 (fg_42_2 _)).trans ?_
        refine (sv_iald jM26 c26_63 rfl (ia_43 _)).trans ?_
        refine jif _ rfl ?_
        refine (sv_bipush jM26 c26_64 rfl (v := 57) (by decide +kernel)).trans ?_
        refine (sv_icmp_gt jM26 c26_66 rfl (t := 102) (by decide +kernel)).trans ?_
        refine jif _ ?_ ?_
        ·
          refine (sv_aload_n jM26 c26_102 rfl rfl).trans ?_
          refine (sv_getf jM26 c26_103 rfl lf_7_15 (fg_42_2 _)).trans ?_
          refine (sv_iload jM26 c26_106 rfl rfl).trans ?_
          refine (sv_icmp_eq jM26 c26_108 rfl (t := 123) (by decide +kernel)).trans ?_
          refine jif _ ?_ ?_
          ·
            refine (sv_aload_n jM26 c26_123 rfl rfl).trans ?_
            refine (sv_iload jM26 c26_124 rfl rfl).trans ?_
            refine (sv_callvv (pl := 0) jM26 c26_126 rfl (jm_call_v (a := 42) (as := [(.int x4)]) (rest := []) lm_7_29 rfl jM27 rfl rfl rfl rfl rfl) jM27 rfl rfl).trans ?_
            refine jbv_c (fun τ10 => ?_)
            refine (sv_iload jM26 c26_129 rfl rfl).trans ?_
            exact sv_iret jM26 c26_131 rfl rfl
          ·
            refine (sv_iload jM26 c26_111 rfl rfl).trans ?_
            refine (sv_iload_n jM26 c26_113 rfl rfl).trans ?_
            refine (sv_icmp_lt jM26 c26_114 rfl (t := 123) (by decide +kernel)).trans ?_
            refine jif _ ?_ ?_
            ·
              refine (sv_aload_n jM26 c26_123 rfl rfl).trans ?_
              refine (sv_iload jM26 c26_124 rfl rfl).trans ?_
              refine (sv_callvv (pl := 0) jM26 c26_126 rfl (jm_call_v (a := 42) (as := [(.int x4)]) (rest := []) lm_7_29 rfl jM27 rfl rfl rfl rfl rfl) jM27 rfl rfl).trans ?_
              refine jbv_c (fun τ11 => ?_)
              refine (sv_iload jM26 c26_129 rfl rfl).trans ?_
              exact sv_iret jM26 c26_131 rfl rfl
            ·
              refine (sv_iload jM26 c26_117 rfl rfl).trans ?_
              refine (sv_iload_n jM26 c26_119 rfl rfl).trans ?_
              refine (sv_icmp_le jM26 c26_120 rfl (t := 129) (by decide +kernel)).trans ?_
              refine jif _ ?_ ?_
              ·
                refine (sv_iload jM26 c26_129 rfl rfl).trans ?_
                exact sv_iret jM26 c26_131 rfl rfl
              ·
                refine (sv_aload_n jM26 c26_123 rfl rfl).trans ?_
                refine (sv_iload jM26 c26_124 rfl rfl).trans ?_
                refine (sv_callvv (pl := 0) jM26 c26_126 rfl (jm_call_v (a := 42) (as := [(.int x4)]) (rest := []) lm_7_29 rfl jM27 rfl rfl rfl rfl rfl) jM27 rfl rfl).trans ?_
                refine jbv_c (fun τ12 => ?_)
                refine (sv_iload jM26 c26_129 rfl rfl).trans ?_
                exact sv_iret jM26 c26_131 rfl rfl
        ·
          refine (sv_bipush jM26 c26_69 rfl (v := 10) (by decide +kernel)).trans ?_
          refine (sv_iload jM26 c26_71 rfl rfl).trans ?_
          refine (sv_imul jM26 c26_73 rfl).trans ?_
          refine (sv_aload_n jM26 c26_74 rfl rfl).trans ?_
          refine (sv_getf jM26 c26_75 rfl lf_7_21 (fg_42_0 _)).trans ?_
          refine (sv_aload_n jM26 c26_78 rfl rfl).trans ?_
          refine (sv_getf jM26 c26_79 rfl lf_7_15 (fg_42_2 _)).trans ?_
          refine (sv_iald jM26 c26_82 rfl (ia_43 _)).trans ?_
          refine jif _ rfl ?_
          refine (sv_iadd jM26 c26_83 rfl).trans ?_
          refine (sv_bipush jM26 c26_84 rfl (v := 48) (by decide +kernel)).trans ?_
          refine (sv_isub jM26 c26_86 rfl).trans ?_
          refine (sv_istore (ls1 := [some (.ref 42), some (.int x1), some (.int x2), some (.int x3), some (.int x4), some (.int ((((10 : Int32) * x5) + (σ 43 (σ 42 2).toNatClampNeg)) - (48 : Int32)))]) jM26 c26_87 rfl (Nat.lt_of_lt_of_eq (by decide +kernel : 5 < 6) rfl) rfl).trans ?_
          refine (sv_aload_n jM26 c26_89 rfl rfl).trans ?_
          refine (sv_dup jM26 c26_90 rfl rfl).trans ?_
          refine (sv_getf jM26 c26_91 rfl lf_7_15 (fg_42_2 _)).trans ?_
          refine (sv_iconst jM26 c26_94 rfl (v := 1) (by decide +kernel)).trans ?_
          refine (sv_iadd jM26 c26_95 rfl).trans ?_
          refine (sv_putf jM26 c26_96 rfl lf_7_15 (pf_42_2 _ _)).trans ?_
          refine (sv_goto jM26 c26_99 rfl (t := 19) (by decide +kernel)).trans ?_
          rfl
