set_option maxRecDepth 20000 in
set_option maxHeartbeats 4000000 in
theorem Batch_tell_11_in (x1 : Int32) (x2 : Int32) (σ : jm_S) : jc 47 [(.ref 11), (.int x1), (.int x2)] σ = jv 47 1 [some (.ref 11), some (.int x1), some (.int x2)] [(.int x2)] σ := by
  refine (jc_of (ls1 := [some (.ref 11), some (.int x1), some (.int x2)]) ((jm_ini_of jM47).trans rfl)).trans ?_
  refine (sv_iload_n jM47 c47_0 rfl rfl).trans ?_
  rfl
set_option maxRecDepth 20000 in
set_option maxHeartbeats 4000000 in
theorem Batch_tell_11_S1_0 (x1 : Int32) (x2 : Int32) (σ : jm_S) : jv 47 1 [some (.ref 11), some (.int x1), some (.int x2)] [(.int (0 : Int32))] σ = (if x1 < 0 ∨ 12 ≤ x1.toNatClampNeg then none else some (some (.int (σ 15 x1.toNatClampNeg)), σ)) := by
  refine (sv_ts jM47 c47_1 rfl (by decide +kernel) (z := 35) (by decide +kernel) (t := 36) (by decide +kernel)).trans ?_
  refine (sv_aload_n jM47 c47_36 rfl rfl).trans ?_
  refine (sv_getf jM47 c47_37 rfl lf_0_21 (fg_11_3 _)).trans ?_
  refine (sv_iload_n jM47 c47_40 rfl rfl).trans ?_
  refine (sv_iald jM47 c47_41 rfl (ia_15 _)).trans ?_
  refine jif _ rfl ?_
  exact sv_iret jM47 c47_42 rfl rfl
set_option maxRecDepth 20000 in
set_option maxHeartbeats 4000000 in
theorem Batch_tell_11_S1_1 (x1 : Int32) (x2 : Int32) (σ : jm_S) : jv 47 1 [some (.ref 11), some (.int x1), some (.int x2)] [(.int (1 : Int32))] σ = (if x1 < 0 ∨ 12 ≤ x1.toNatClampNeg then none else some (some (.int (σ 16 x1.toNatClampNeg)), σ)) := by
  refine (sv_ts jM47 c47_1 rfl (by decide +kernel) (z := 42) (by decide +kernel) (t := 43) (by decide +kernel)).trans ?_
  refine (sv_aload_n jM47 c47_43 rfl rfl).trans ?_
  refine (sv_getf jM47 c47_44 rfl lf_0_24 (fg_11_4 _)).trans ?_
  refine (sv_iload_n jM47 c47_47 rfl rfl).trans ?_
  refine (sv_iald jM47 c47_48 rfl (ia_16 _)).trans ?_
  refine jif _ rfl ?_
  exact sv_iret jM47 c47_49 rfl rfl
set_option maxRecDepth 20000 in
set_option maxHeartbeats 4000000 in
theorem Batch_tell_11_S1_2 (x1 : Int32) (x2 : Int32) (σ : jm_S) : jv 47 1 [some (.ref 11), some (.int x1), some (.int x2)] [(.int (2 : Int32))] σ = (if x1 < 0 ∨ 12 ≤ x1.toNatClampNeg then none else some (some (.int (σ 17 x1.toNatClampNeg)), σ)) := by
  refine (sv_ts jM47 c47_1 rfl (by decide +kernel) (z := 49) (by decide +kernel) (t := 50) (by decide +kernel)).trans ?_
  refine (sv_aload_n jM47 c47_50 rfl rfl).trans ?_
  refine (sv_getf jM47 c47_51 rfl lf_0_27 (fg_11_5 _)).trans ?_
  refine (sv_iload_n jM47 c47_54 rfl rfl).trans ?_
  refine (sv_iald jM47 c47_55 rfl (ia_17 _)).trans ?_
  refine jif _ rfl ?_
  exact sv_iret jM47 c47_56 rfl rfl
set_option maxRecDepth 20000 in
set_option maxHeartbeats 4000000 in
theorem Batch_tell_11_S1_3 (x1 : Int32) (x2 : Int32) (σ : jm_S) : jv 47 1 [some (.ref 11), some (.int x1), some (.int x2)] [(.int (3 : Int32))] σ = (if x1 < 0 ∨ 12 ≤ x1.toNatClampNeg then none else some (some (.int (σ 18 x1.toNatClampNeg)), σ)) := by
  refine (sv_ts jM47 c47_1 rfl (by decide +kernel) (z := 56) (by decide +kernel) (t := 57) (by decide +kernel)).trans ?_
  refine (sv_aload_n jM47 c47_57 rfl rfl).trans ?_
  refine (sv_getf jM47 c47_58 rfl lf_0_30 (fg_11_6 _)).trans ?_
  refine (sv_iload_n jM47 c47_61 rfl rfl).trans ?_
  refine (sv_iald jM47 c47_62 rfl (ia_18 _)).trans ?_
  refine jif _ rfl ?_
  exact sv_iret jM47 c47_63 rfl rfl
set_option maxRecDepth 20000 in
set_option maxHeartbeats 4000000 in
theorem Batch_tell_11_S1_4 (x1 : Int32) (x2 : Int32) (σ : jm_S) : jv 47 1 [some (.ref 11), some (.int x1), some (.int x2)] [(.int (4 : Int32))] σ = (if x1 < 0 ∨ 12 ≤ x1.toNatClampNeg then none else (if ¬ (σ 18 x1.toNatClampNeg) = (1 : Int32) then some (some (.int (-1 : Int32)), σ) else (if x1 < 0 ∨ 12 ≤ x1.toNatClampNeg then none else some (some (.int (σ 19 x1.toNatClampNeg)), σ)))) := by
  refine (sv_ts jM47 c47_1 rfl (by decide +kernel) (z := 63) (by decide +kernel) (t := 64) (by decide +kernel)).trans ?_
  refine (sv_aload_n jM47 c47_64 rfl rfl).trans ?_
  refine (sv_getf jM47 c47_65 rfl lf_0_30 (fg_11_6 _)).trans ?_
  refine (sv_iload_n jM47 c47_68 rfl rfl).trans ?_
  refine (sv_iald jM47 c47_69 rfl (ia_18 _)).trans ?_
  refine jif _ rfl ?_
  refine (sv_iconst jM47 c47_70 rfl (v := 1) (by decide +kernel)).trans ?_
  refine (sv_icmp_ne jM47 c47_71 rfl (t := 83) (by decide +kernel)).trans ?_
  refine jif _ ?_ ?_
  ·
    refine (sv_iconst jM47 c47_83 rfl (v := -1) (by decide +kernel)).trans ?_
    exact sv_iret jM47 c47_84 rfl rfl
  ·
    refine (sv_aload_n jM47 c47_74 rfl rfl).trans ?_
    refine (sv_getf jM47 c47_75 rfl lf_0_33 (fg_11_7 _)).trans ?_
    refine (sv_iload_n jM47 c47_78 rfl rfl).trans ?_
    refine (sv_iald jM47 c47_79 rfl (ia_19 _)).trans ?_
    refine jif _ rfl ?_
    refine (sv_goto jM47 c47_80 rfl (t := 84) (by decide +kernel)).trans ?_
    exact sv_iret jM47 c47_84 rfl rfl
set_option maxRecDepth 20000 in
set_option maxHeartbeats 4000000 in
theorem Batch_tell_11_S1_o (x1 : Int32) (x2 : Int32) (y0 : Int32) (σ : jm_S) (hx : y0.toInt < 0 ∨ 4 < y0.toInt) : jv 47 1 [some (.ref 11), some (.int x1), some (.int x2)] [(.int y0)] σ = (if x1 < 0 ∨ 12 ≤ x1.toNatClampNeg then none else some (some (.int (σ 20 x1.toNatClampNeg)), σ)) := by
  refine (sv_tso jM47 c47_1 rfl (t := 85) (by decide +kernel) hx).trans ?_
  refine (sv_aload_n jM47 c47_85 rfl rfl).trans ?_
  refine (sv_getf jM47 c47_86 rfl lf_0_36 (fg_11_8 _)).trans ?_
  refine (sv_iload_n jM47 c47_89 rfl rfl).trans ?_
  refine (sv_iald jM47 c47_90 rfl (ia_20 _)).trans ?_
  refine jif _ rfl ?_
  exact sv_iret jM47 c47_91 rfl rfl
set_option maxRecDepth 20000 in
set_option maxHeartbeats 4000000 in
theorem Batch_goOn_11_6_in (x2 : Int32) (σ : jm_S) : jc 40 [(.ref 11), (.ref 6), (.int x2)] σ = jv 40 5 [some (.ref 11), some (.ref 6), some (.int x2), some (.int (σ 11 15))] [] σ := by
  refine (jc_of (ls1 := [some (.ref 11), some (.ref 6), some (.int x2), none]) ((jm_ini_of jM40).trans rfl)).trans ?_
  refine (sv_aload_n jM40 c40_0 rfl rfl).trans ?_
  refine (sv_getf jM40 c40_1 rfl lf_0_58 (fg_11_15 _)).trans ?_
  refine (sv_istore_n (ls1 := [some (.ref 11), some (.ref 6), some (.int x2), some (.int (σ 11 15))]) jM40 c40_4 rfl (Nat.lt_of_lt_of_eq (by decide +kernel : 3 < 4) rfl) rfl).trans ?_
  rfl
set_option maxRecDepth 20000 in
set_option maxHeartbeats 4000000 in
theorem Batch_goOn_11_6_L5 (x2 : Int32) (x3 : Int32) (σ : jm_S) : jv 40 5 [some (.ref 11), some (.ref 6), some (.int x2), some (.int x3)] [] σ = (if x2 ≤ x3 then some (none, σ) else (if x3 < 0 ∨ 200 ≤ x3.toNatClampNeg then none else (if x3 < 0 ∨ 200 ≤ x3.toNatClampNeg then none else (if x3 < 0 ∨ 200 ≤ x3.toNatClampNeg then none else jbv (jc 41 [(.ref 11), (.int (σ 7 x3.toNatClampNeg)), (.int (σ 8 x3.toNatClampNeg)), (.int (σ 9 x3.toNatClampNeg))] σ) (fun τ1 => jv 40 5 [some (.ref 11), some (.ref 6), some (.int x2), some (.int (x3 + 1))] [] τ1))))) := by
  refine (sv_iload_n jM40 c40_5 rfl rfl).trans ?_
  refine (sv_iload_n jM40 c40_6 rfl rfl).trans ?_
  refine (sv_icmp_ge jM40 c40_7 rfl (t := 38) (by decide +kernel)).trans ?_
  refine jif _ ?_ ?_
  ·
    exact sv_vret jM40 c40_38 rfl rfl
  ·
    refine (sv_aload_n jM40 c40_10 rfl rfl).trans ?_
    refine (sv_aload_n jM40 c40_11 rfl rfl).trans ?_
    refine (sv_getf jM40 c40_12 rfl lf_0_91 (fg_6_0 _)).trans ?_
    refine (sv_iload_n jM40 c40_15 rfl rfl).trans ?_
    refine (sv_iald jM40 c40_16 rfl (ia_7 _)).trans ?_
    refine jif _ rfl ?_
    refine (sv_aload_n jM40 c40_17 rfl rfl).trans ?_
    refine (sv_getf jM40 c40_18 rfl lf_0_96 (fg_6_1 _)).trans ?_
    refine (sv_iload_n jM40 c40_21 rfl rfl).trans ?_
    refine (sv_iald jM40 c40_22 rfl (ia_8 _)).trans ?_
    refine jif _ rfl ?_
    refine (sv_aload_n jM40 c40_23 rfl rfl).trans ?_
    refine (sv_getf jM40 c40_24 rfl lf_0_99 (fg_6_2 _)).trans ?_
    refine (sv_iload_n jM40 c40_27 rfl rfl).trans ?_
    refine (sv_bald jM40 c40_28 rfl wi_9).trans ?_
    refine jif _ rfl ?_
    refine (sv_callvv (pl := 0) jM40 c40_29 rfl (jm_call_v (a := 11) (as := [(.int (σ 7 x3.toNatClampNeg)), (.int (σ 8 x3.toNatClampNeg)), (.int (σ 9 x3.toNatClampNeg))]) (rest := []) lm_0_103 rfl jM41 rfl rfl rfl rfl rfl) jM41 rfl rfl).trans ?_
    refine jbv_c (fun τ1 => ?_)
    refine (sv_iinc (ls1 := [some (.ref 11), some (.ref 6), some (.int x2), some (.int (x3 + 1))]) jM40 c40_32 rfl rfl (v := 1) (by decide +kernel) rfl).trans ?_
    refine (sv_goto jM40 c40_35 rfl (t := 5) (by decide +kernel)).trans ?_
    rfl
set_option maxRecDepth 20000 in
set_option maxHeartbeats 4000000 in
theorem Batch_goneIn_11_in (x1 : Int32) (σ : jm_S) : jc 53 [(.ref 11), (.int x1)] σ = jv 53 4 [some (.ref 11), some (.int x1), some (.int (0 : Int32)), some (.int (0 : Int32))] [] σ := by
  refine (jc_of (ls1 := [some (.ref 11), some (.int x1), none, none]) ((jm_ini_of jM53).trans rfl)).trans ?_
  refine (sv_iconst jM53 c53_0 rfl (v := 0) (by decide +kernel)).trans ?_
  refine (sv_istore_n (ls1 := [some (.ref 11), some (.int x1), some (.int (0 : Int32)), none]) jM53 c53_1 rfl (Nat.lt_of_lt_of_eq (by decide +kernel : 2 < 4) rfl) rfl).trans ?_
  refine (sv_iconst jM53 c53_2 rfl (v := 0) (by decide +kernel)).trans ?_
  refine (sv_istore_n (ls1 := [some (.ref 11), some (.int x1), some (.int (0 : Int32)), some (.int (0 : Int32))]) jM53 c53_3 rfl (Nat.lt_of_lt_of_eq (by decide +kernel : 3 < 4) rfl) rfl).trans ?_
  rfl
set_option maxRecDepth 20000 in
set_option maxHeartbeats 4000000 in
theorem Batch_goneIn_11_L4 (x1 : Int32) (x2 : Int32) (x3 : Int32) (σ : jm_S) : jv 53 4 [some (.ref 11), some (.int x1), some (.int x2), some (.int x3)] [] σ = (if (σ 11 11) ≤ x3 then some (some (.int x2), σ) else (if x3 < 0 ∨ 12 ≤ x3.toNatClampNeg then none else (if ¬ (σ 18 x3.toNatClampNeg) = (1 : Int32) then jv 53 4 [some (.ref 11), some (.int x1), some (.int (x2 + (0 : Int32))), some (.int (x3 + 1))] [] σ else (if x3 < 0 ∨ 12 ≤ x3.toNatClampNeg then none else (if ¬ (σ 19 x3.toNatClampNeg) = x1 then jv 53 4 [some (.ref 11), some (.int x1), some (.int (x2 + (0 : Int32))), some (.int (x3 + 1))] [] σ else jv 53 4 [some (.ref 11), some (.int x1), some (.int (x2 + (1 : Int32))), some (.int (x3 + 1))] [] σ))))) := by
  refine (sv_iload_n jM53 c53_4 rfl rfl).trans ?_
  refine (sv_aload_n jM53 c53_5 rfl rfl).trans ?_
  refine (sv_getf jM53 c53_6 rfl lf_0_45 (fg_11_11 _)).trans ?_
  refine (sv_icmp_ge jM53 c53_9 rfl (t := 46) (by decide +kernel)).trans ?_
  refine jif _ ?_ ?_
  ·
    refine (sv_iload_n jM53 c53_46 rfl rfl).trans ?_
    exact sv_iret jM53 c53_47 rfl rfl
  ·
    refine (sv_iload_n jM53 c53_12 rfl rfl).trans ?_
    refine (sv_aload_n jM53 c53_13 rfl rfl).trans ?_
    refine (sv_getf jM53 c53_14 rfl lf_0_30 (fg_11_6 _)).trans ?_
    refine (sv_iload_n jM53 c53_17 rfl rfl).trans ?_
    refine (sv_iald jM53 c53_18 rfl (ia_18 _)).trans ?_
    refine jif _ rfl ?_
    refine (sv_iconst jM53 c53_19 rfl (v := 1) (by decide +kernel)).trans ?_
    refine (sv_icmp_ne jM53 c53_20 rfl (t := 37) (by decide +kernel)).trans ?_
    refine jif _ ?_ ?_
    ·
      refine (sv_iconst jM53 c53_37 rfl (v := 0) (by decide +kernel)).trans ?_
      refine (sv_iadd jM53 c53_38 rfl).trans ?_
      refine (sv_istore_n (ls1 := [some (.ref 11), some (.int x1), some (.int (x2 + (0 : Int32))), some (.int x3)]) jM53 c53_39 rfl (Nat.lt_of_lt_of_eq (by decide +kernel : 2 < 4) rfl) rfl).trans ?_
      refine (sv_iinc (ls1 := [some (.ref 11), some (.int x1), some (.int (x2 + (0 : Int32))), some (.int (x3 + 1))]) jM53 c53_40 rfl rfl (v := 1) (by decide +kernel) rfl).trans ?_
      refine (sv_goto jM53 c53_43 rfl (t := 4) (by decide +kernel)).trans ?_
      rfl
    ·
      refine (sv_aload_n jM53 c53_23 rfl rfl).trans ?_
      refine (sv_getf jM53 c53_24 rfl lf_0_33 (fg_11_7 _)).trans ?_
      refine (sv_iload_n jM53 c53_27 rfl rfl).trans ?_
      refine (sv_iald jM53 c53_28 rfl (ia_19 _)).trans ?_
      refine jif _ rfl ?_
      refine (sv_iload_n jM53 c53_29 rfl rfl).trans ?_
      refine (sv_icmp_ne jM53 c53_30 rfl (t := 37) (by decide +kernel)).trans ?_
      refine jif _ ?_ ?_
      ·
        refine (sv_iconst jM53 c53_37 rfl (v := 0) (by decide +kernel)).trans ?_
        refine (sv_iadd jM53 c53_38 rfl).trans ?_
        refine (sv_istore_n (ls1 := [some (.ref 11), some (.int x1), some (.int (x2 + (0 : Int32))), some (.int x3)]) jM53 c53_39 rfl (Nat.lt_of_lt_of_eq (by decide +kernel : 2 < 4) rfl) rfl).trans ?_
        refine (sv_iinc (ls1 := [some (.ref 11), some (.int x1), some (.int (x2 + (0 : Int32))), some (.int (x3 + 1))]) jM53 c53_40 rfl rfl (v := 1) (by decide +kernel) rfl).trans ?_
        refine (sv_goto jM53 c53_43 rfl (t := 4) (by decide +kernel)).trans ?_
        rfl
      ·
        refine (sv_iconst jM53 c53_33 rfl (v := 1) (by decide +kernel)).trans ?_
        refine (sv_goto jM53 c53_34 rfl (t := 38) (by decide +kernel)).trans ?_
        refine (sv_iadd jM53 c53_38 rfl).trans ?_
        refine (sv_istore_n (ls1 := [some (.ref 11), some (.int x1), some (.int (x2 + (1 : Int32))), some (.int x3)]) jM53 c53_39 rfl (Nat.lt_of_lt_of_eq (by decide +kernel : 2 < 4) rfl) rfl).trans ?_
        refine (sv_iinc (ls1 := [some (.ref 11), some (.int x1), some (.int (x2 + (1 : Int32))), some (.int (x3 + 1))]) jM53 c53_40 rfl rfl (v := 1) (by decide +kernel) rfl).trans ?_
        refine (sv_goto jM53 c53_43 rfl (t := 4) (by decide +kernel)).trans ?_
        rfl
set_option maxRecDepth 20000 in
set_option maxHeartbeats 4000000 in
theorem Batch_openAt_11_in (x1 : Int32) (σ : jm_S) : jc 51 [(.ref 11), (.int x1)] σ = jv 51 4 [some (.ref 11), some (.int x1), some (.int (0 : Int32)), some (.int (0 : Int32))] [] σ := by
  refine (jc_of (ls1 := [some (.ref 11), some (.int x1), none, none]) ((jm_ini_of jM51).trans rfl)).trans ?_
  refine (sv_iconst jM51 c51_0 rfl (v := 0) (by decide +kernel)).trans ?_
  refine (sv_istore_n (ls1 := [some (.ref 11), some (.int x1), some (.int (0 : Int32)), none]) jM51 c51_1 rfl (Nat.lt_of_lt_of_eq (by decide +kernel : 2 < 4) rfl) rfl).trans ?_
  refine (sv_iconst jM51 c51_2 rfl (v := 0) (by decide +kernel)).trans ?_
  refine (sv_istore_n (ls1 := [some (.ref 11), some (.int x1), some (.int (0 : Int32)), some (.int (0 : Int32))]) jM51 c51_3 rfl (Nat.lt_of_lt_of_eq (by decide +kernel : 3 < 4) rfl) rfl).trans ?_
  rfl
set_option maxRecDepth 20000 in
set_option maxHeartbeats 4000000 in
theorem Batch_openAt_11_L4 (x1 : Int32) (x2 : Int32) (x3 : Int32) (σ : jm_S) : jv 51 4 [some (.ref 11), some (.int x1), some (.int x2), some (.int x3)] [] σ = (if (σ 11 11) ≤ x3 then some (some (.int x2), σ) else jbi (jc 52 [(.ref 11), (.int x3), (.int x1)] σ) (fun r1 τ1 => (if r1 = 0 then jv 51 4 [some (.ref 11), some (.int x1), some (.int (x2 + (0 : Int32))), some (.int (x3 + 1))] [] τ1 else jv 51 4 [some (.ref 11), some (.int x1), some (.int (x2 + (1 : Int32))), some (.int (x3 + 1))] [] τ1))) := by
  refine (sv_iload_n jM51 c51_4 rfl rfl).trans ?_
  refine (sv_aload_n jM51 c51_5 rfl rfl).trans ?_
  refine (sv_getf jM51 c51_6 rfl lf_0_45 (fg_11_11 _)).trans ?_
  refine (sv_icmp_ge jM51 c51_9 rfl (t := 35) (by decide +kernel)).trans ?_
  refine jif _ ?_ ?_
  ·
    refine (sv_iload_n jM51 c51_35 rfl rfl).trans ?_
    exact sv_iret jM51 c51_36 rfl rfl
  ·
    refine (sv_iload_n jM51 c51_12 rfl rfl).trans ?_
    refine (sv_aload_n jM51 c51_13 rfl rfl).trans ?_
    refine (sv_iload_n jM51 c51_14 rfl rfl).trans ?_
    refine (sv_iload_n jM51 c51_15 rfl rfl).trans ?_
    refine (sv_callvi (pl := 0) jM51 c51_16 rfl (jm_call_v (a := 11) (as := [(.int x3), (.int x1)]) (rest := [(.int x2)]) lm_0_129 rfl jM52 rfl rfl rfl rfl rfl) jM52 rfl (Or.inr rfl)).trans ?_
    refine jbi_c (fun r1 τ1 => ?_)
    refine (sv_if_eq jM51 c51_19 rfl (t := 26) (by decide +kernel)).trans ?_
    refine jif _ ?_ ?_
    ·
      refine (sv_iconst jM51 c51_26 rfl (v := 0) (by decide +kernel)).trans ?_
      refine (sv_iadd jM51 c51_27 rfl).trans ?_
      refine (sv_istore_n (ls1 := [some (.ref 11), some (.int x1), some (.int (x2 + (0 : Int32))), some (.int x3)]) jM51 c51_28 rfl (Nat.lt_of_lt_of_eq (by decide +kernel : 2 < 4) rfl) rfl).trans ?_
      refine (sv_iinc (ls1 := [some (.ref 11), some (.int x1), some (.int (x2 + (0 : Int32))), some (.int (x3 + 1))]) jM51 c51_29 rfl rfl (v := 1) (by decide +kernel) rfl).trans ?_
      refine (sv_goto jM51 c51_32 rfl (t := 4) (by decide +kernel)).trans ?_
      rfl
    ·
      refine (sv_iconst jM51 c51_22 rfl (v := 1) (by decide +kernel)).trans ?_
      refine (sv_goto jM51 c51_23 rfl (t := 27) (by decide +kernel)).trans ?_
      refine (sv_iadd jM51 c51_27 rfl).trans ?_
      refine (sv_istore_n (ls1 := [some (.ref 11), some (.int x1), some (.int (x2 + (1 : Int32))), some (.int x3)]) jM51 c51_28 rfl (Nat.lt_of_lt_of_eq (by decide +kernel : 2 < 4) rfl) rfl).trans ?_
      refine (sv_iinc (ls1 := [some (.ref 11), some (.int x1), some (.int (x2 + (1 : Int32))), some (.int (x3 + 1))]) jM51 c51_29 rfl rfl (v := 1) (by decide +kernel) rfl).trans ?_
      refine (sv_goto jM51 c51_32 rfl (t := 4) (by decide +kernel)).trans ?_
      rfl
set_option maxRecDepth 20000 in
set_option maxHeartbeats 4000000 in
theorem Batch_settle_11_6_in (x2 : Int32) (σ : jm_S) : jc 50 [(.ref 11), (.ref 6), (.int x2)] σ = jv 50 5 [some (.ref 11), some (.ref 6), some (.int x2), some (.int (σ 11 15))] [] σ := by
  refine (jc_of (ls1 := [some (.ref 11), some (.ref 6), some (.int x2), none]) ((jm_ini_of jM50).trans rfl)).trans ?_
  refine (sv_aload_n jM50 c50_0 rfl rfl).trans ?_
  refine (sv_getf jM50 c50_1 rfl lf_0_58 (fg_11_15 _)).trans ?_
  refine (sv_istore_n (ls1 := [some (.ref 11), some (.ref 6), some (.int x2), some (.int (σ 11 15))]) jM50 c50_4 rfl (Nat.lt_of_lt_of_eq (by decide +kernel : 3 < 4) rfl) rfl).trans ?_
  rfl
set_option maxRecDepth 20000 in
set_option maxHeartbeats 4000000 in
theorem Batch_settle_11_6_L5 (x2 : Int32) (x3 : Int32) (σ : jm_S) : jv 50 5 [some (.ref 11), some (.ref 6), some (.int x2), some (.int x3)] [] σ = (if x2 ≤ x3 then some (none, σ) else (if (σ 11 14) ≤ 0 then some (none, σ) else (if x3 < 0 ∨ 200 ≤ x3.toNatClampNeg then none else (if x3 < 0 ∨ 200 ≤ x3.toNatClampNeg then none else (if x3 < 0 ∨ 200 ≤ x3.toNatClampNeg then none else jbv (jc 41 [(.ref 11), (.int (σ 7 x3.toNatClampNeg)), (.int (σ 8 x3.toNatClampNeg)), (.int (σ 9 x3.toNatClampNeg))] σ) (fun τ1 => jv 50 5 [some (.ref 11), some (.ref 6), some (.int x2), some (.int (x3 + 1))] [] τ1)))))) := by
  refine (sv_iload_n jM50 c50_5 rfl rfl).trans ?_
  refine (sv_iload_n jM50 c50_6 rfl rfl).trans ?_
  refine (sv_icmp_ge jM50 c50_7 rfl (t := 45) (by decide +kernel)).trans ?_
  refine jif _ ?_ ?_
  ·
    exact sv_vret jM50 c50_45 rfl rfl
  ·
    refine (sv_aload_n jM50 c50_10 rfl rfl).trans ?_
    refine (sv_getf jM50 c50_11 rfl lf_0_55 (fg_11_14 _)).trans ?_
    refine (sv_if_le jM50 c50_14 rfl (t := 45) (by decide +kernel)).trans ?_
    refine jif _ ?_ ?_
    ·
      exact sv_vret jM50 c50_45 rfl rfl
    ·
      refine (sv_aload_n jM50 c50_17 rfl rfl).trans ?_
      refine (sv_aload_n jM50 c50_18 rfl rfl).trans ?_
      refine (sv_getf jM50 c50_19 rfl lf_0_91 (fg_6_0 _)).trans ?_
      refine (sv_iload_n jM50 c50_22 rfl rfl).trans ?_
      refine (sv_iald jM50 c50_23 rfl (ia_7 _)).trans ?_
      refine jif _ rfl ?_
      refine (sv_aload_n jM50 c50_24 rfl rfl).trans ?_
      refine (sv_getf jM50 c50_25 rfl lf_0_96 (fg_6_1 _)).trans ?_
      refine (sv_iload_n jM50 c50_28 rfl rfl).trans ?_
      refine (sv_iald jM50 c50_29 rfl (ia_8 _)).trans ?_
      refine jif _ rfl ?_
      refine (sv_aload_n jM50 c50_30 rfl rfl).trans ?_
      refine (sv_getf jM50 c50_31 rfl lf_0_99 (fg_6_2 _)).trans ?_
      refine (sv_iload_n jM50 c50_34 rfl rfl).trans ?_
      refine (sv_bald jM50 c50_35 rfl wi_9).trans ?_
      refine jif _ rfl ?_
      refine (sv_callvv (pl := 0) jM50 c50_36 rfl (jm_call_v (a := 11) (as := [(.int (σ 7 x3.toNatClampNeg)), (.int (σ 8 x3.toNatClampNeg)), (.int (σ 9 x3.toNatClampNeg))]) (rest := []) lm_0_103 rfl jM41 rfl rfl rfl rfl rfl) jM41 rfl rfl).trans ?_
      refine jbv_c (fun τ1 => ?_)
      refine (sv_iinc (ls1 := [some (.ref 11), some (.ref 6), some (.int x2), some (.int (x3 + 1))]) jM50 c50_39 rfl rfl (v := 1) (by decide +kernel) rfl).trans ?_
      refine (sv_goto jM50 c50_42 rfl (t := 5) (by decide +kernel)).trans ?_
      rfl
set_option maxRecDepth 20000 in
set_option maxHeartbeats 4000000 in
theorem Batch_largeAt_11_in (x1 : Int32) (σ : jm_S) : jc 59 [(.ref 11), (.int x1)] σ = jv 59 4 [some (.ref 11), some (.int x1), some (.int (0 : Int32)), some (.int (0 : Int32))] [] σ := by
  refine (jc_of (ls1 := [some (.ref 11), some (.int x1), none, none]) ((jm_ini_of jM59).trans rfl)).trans ?_
  refine (sv_iconst jM59 c59_0 rfl (v := 0) (by decide +kernel)).trans ?_
  refine (sv_istore_n (ls1 := [some (.ref 11), some (.int x1), some (.int (0 : Int32)), none]) jM59 c59_1 rfl (Nat.lt_of_lt_of_eq (by decide +kernel : 2 < 4) rfl) rfl).trans ?_
  refine (sv_iconst jM59 c59_2 rfl (v := 0) (by decide +kernel)).trans ?_
  refine (sv_istore_n (ls1 := [some (.ref 11), some (.int x1), some (.int (0 : Int32)), some (.int (0 : Int32))]) jM59 c59_3 rfl (Nat.lt_of_lt_of_eq (by decide +kernel : 3 < 4) rfl) rfl).trans ?_
  rfl
set_option maxRecDepth 20000 in
set_option maxHeartbeats 4000000 in
theorem Batch_largeAt_11_L4 (x1 : Int32) (x2 : Int32) (x3 : Int32) (σ : jm_S) : jv 59 4 [some (.ref 11), some (.int x1), some (.int x2), some (.int x3)] [] σ = (if (σ 11 11) ≤ x3 then some (some (.int x2), σ) else jbi (jc 52 [(.ref 11), (.int x3), (.int x1)] σ) (fun r1 τ1 => (if r1 = 0 then jv 59 4 [some (.ref 11), some (.int x1), some (.int (x2 + (0 : Int32))), some (.int (x3 + 1))] [] τ1 else (if x3 < 0 ∨ 12 ≤ x3.toNatClampNeg then none else jv 59 4 [some (.ref 11), some (.int x1), some (.int (x2 + (τ1 20 x3.toNatClampNeg))), some (.int (x3 + 1))] [] τ1)))) := by
  refine (sv_iload_n jM59 c59_4 rfl rfl).trans ?_
  refine (sv_aload_n jM59 c59_5 rfl rfl).trans ?_
  refine (sv_getf jM59 c59_6 rfl lf_0_45 (fg_11_11 _)).trans ?_
  refine (sv_icmp_ge jM59 c59_9 rfl (t := 40) (by decide +kernel)).trans ?_
  refine jif _ ?_ ?_
  ·
    refine (sv_iload_n jM59 c59_40 rfl rfl).trans ?_
    exact sv_iret jM59 c59_41 rfl rfl
  ·
    refine (sv_iload_n jM59 c59_12 rfl rfl).trans ?_
    refine (sv_aload_n jM59 c59_13 rfl rfl).trans ?_
    refine (sv_iload_n jM59 c59_14 rfl rfl).trans ?_
    refine (sv_iload_n jM59 c59_15 rfl rfl).trans ?_
    refine (sv_callvi (pl := 0) jM59 c59_16 rfl (jm_call_v (a := 11) (as := [(.int x3), (.int x1)]) (rest := [(.int x2)]) lm_0_129 rfl jM52 rfl rfl rfl rfl rfl) jM52 rfl (Or.inr rfl)).trans ?_
    refine jbi_c (fun r1 τ1 => ?_)
    refine (sv_if_eq jM59 c59_19 rfl (t := 31) (by decide +kernel)).trans ?_
    refine jif _ ?_ ?_
    ·
      refine (sv_iconst jM59 c59_31 rfl (v := 0) (by decide +kernel)).trans ?_
      refine (sv_iadd jM59 c59_32 rfl).trans ?_
      refine (sv_istore_n (ls1 := [some (.ref 11), some (.int x1), some (.int (x2 + (0 : Int32))), some (.int x3)]) jM59 c59_33 rfl (Nat.lt_of_lt_of_eq (by decide +kernel : 2 < 4) rfl) rfl).trans ?_
      refine (sv_iinc (ls1 := [some (.ref 11), some (.int x1), some (.int (x2 + (0 : Int32))), some (.int (x3 + 1))]) jM59 c59_34 rfl rfl (v := 1) (by decide +kernel) rfl).trans ?_
      refine (sv_goto jM59 c59_37 rfl (t := 4) (by decide +kernel)).trans ?_
      rfl
    ·
      refine (sv_aload_n jM59 c59_22 rfl rfl).trans ?_
      refine (sv_getf jM59 c59_23 rfl lf_0_36 (fg_11_8 _)).trans ?_
      refine (sv_iload_n jM59 c59_26 rfl rfl).trans ?_
      refine (sv_iald jM59 c59_27 rfl (ia_20 _)).trans ?_
      refine jif _ rfl ?_
      refine (sv_goto jM59 c59_28 rfl (t := 32) (by decide +kernel)).trans ?_
      refine (sv_iadd jM59 c59_32 rfl).trans ?_
      refine (sv_istore_n (ls1 := [some (.ref 11), some (.int x1), some (.int (x2 + (τ1 20 x3.toNatClampNeg))), some (.int x3)]) jM59 c59_33 rfl (Nat.lt_of_lt_of_eq (by decide +kernel : 2 < 4) rfl) rfl).trans ?_
      refine (sv_iinc (ls1 := [some (.ref 11), some (.int x1), some (.int (x2 + (τ1 20 x3.toNatClampNeg))), some (.int (x3 + 1))]) jM59 c59_34 rfl rfl (v := 1) (by decide +kernel) rfl).trans ?_
      refine (sv_goto jM59 c59_37 rfl (t := 4) (by decide +kernel)).trans ?_
      rfl
set_option maxRecDepth 20000 in
set_option maxHeartbeats 4000000 in
theorem Batch_fill_11_1_in (x2 : Int32) (x3 : Int32) (σ : jm_S) : jc 38 [(.ref 11), (.ref 1), (.int x2), (.int x3)] σ = jbv (jc 21 [(.ref 22), (.int (0 : Int32))] (jm_up (jm_up (jm_up (jm_up (jm_up (jm_up σ 11 11 (σ 1 2)) 11 12 x2) 11 13 x3) 11 14 (σ 1 2)) 11 15 (0 : Int32)) 11 16 (0 : Int32))) (fun τ1 => jv 38 47 [some (.ref 11), some (.ref 1), some (.int x2), some (.int x3), some (.int (0 : Int32))] [] τ1) := by
  refine (jc_of (ls1 := [some (.ref 11), some (.ref 1), some (.int x2), some (.int x3), none]) ((jm_ini_of jM38).trans rfl)).trans ?_
  refine (sv_aload_n jM38 c38_0 rfl rfl).trans ?_
  refine (sv_aload_n jM38 c38_1 rfl rfl).trans ?_
  refine (sv_getf jM38 c38_2 rfl lf_0_65 (fg_1_2 _)).trans ?_
  refine (sv_putf jM38 c38_5 rfl lf_0_45 (pf_11_11 _ _)).trans ?_
  refine (sv_aload_n jM38 c38_8 rfl rfl).trans ?_
  refine (sv_iload_n jM38 c38_9 rfl rfl).trans ?_
  refine (sv_putf jM38 c38_10 rfl lf_0_49 (pf_11_12 _ _)).trans ?_
  refine (sv_aload_n jM38 c38_13 rfl rfl).trans ?_
  refine (sv_iload_n jM38 c38_14 rfl rfl).trans ?_
  refine (sv_putf jM38 c38_15 rfl lf_0_52 (pf_11_13 _ _)).trans ?_
  refine (sv_aload_n jM38 c38_18 rfl rfl).trans ?_
  refine (sv_aload_n jM38 c38_19 rfl rfl).trans ?_
  refine (sv_getf jM38 c38_20 rfl lf_0_45 (fg_11_11 _)).trans ?_
  refine (sv_putf jM38 c38_23 rfl lf_0_55 (pf_11_14 _ _)).trans ?_
  refine (sv_aload_n jM38 c38_26 rfl rfl).trans ?_
  refine (sv_iconst jM38 c38_27 rfl (v := 0) (by decide +kernel)).trans ?_
  refine (sv_putf jM38 c38_28 rfl lf_0_58 (pf_11_15 _ _)).trans ?_
  refine (sv_aload_n jM38 c38_31 rfl rfl).trans ?_
  refine (sv_iconst jM38 c38_32 rfl (v := 0) (by decide +kernel)).trans ?_
  refine (sv_putf jM38 c38_33 rfl lf_0_61 (pf_11_16 _ _ (by decide +kernel))).trans ?_
  refine (sv_aload_n jM38 c38_36 rfl rfl).trans ?_
  refine (sv_getf jM38 c38_37 rfl lf_0_42 (fg_11_10 _)).trans ?_
  refine (sv_iconst jM38 c38_40 rfl (v := 0) (by decide +kernel)).trans ?_
  refine (sv_callsv (pl := 0) jM38 c38_41 rfl (jm_call_s (as := [(.ref 22), (.int (0 : Int32))]) (rest := []) lm_0_68 rfl jM21 rfl rfl rfl rfl) jM21 rfl rfl).trans ?_
  refine jbv_c (fun τ1 => ?_)
  refine (sv_iconst jM38 c38_44 rfl (v := 0) (by decide +kernel)).trans ?_
  refine (sv_istore (ls1 := [some (.ref 11), some (.ref 1), some (.int x2), some (.int x3), some (.int (0 : Int32))]) jM38 c38_45 rfl (Nat.lt_of_lt_of_eq (by decide +kernel : 4 < 5) rfl) rfl).trans ?_
  rfl
set_option maxRecDepth 20000 in
set_option maxHeartbeats 4000000 in
theorem Batch_fill_11_1_L47 (x2 : Int32) (x3 : Int32) (x4 : Int32) (σ : jm_S) : jv 38 47 [some (.ref 11), some (.ref 1), some (.int x2), some (.int x3), some (.int x4)] [] σ = (if (σ 11 11) ≤ x4 then some (none, σ) else jbi (jc 12 [(.ref 1), (.int x4), (.int (1 : Int32))] σ) (fun r1 τ1 => (if x4 < 0 ∨ 12 ≤ x4.toNatClampNeg then none else jbi (jc 12 [(.ref 1), (.int x4), (.int (2 : Int32))] (jm_up τ1 12 x4.toNatClampNeg r1)) (fun r2 τ2 => (if x4 < 0 ∨ 12 ≤ x4.toNatClampNeg then none else jbi (jc 12 [(.ref 1), (.int x4), (.int (3 : Int32))] (jm_up τ2 13 x4.toNatClampNeg r2)) (fun r3 τ3 => (if x4 < 0 ∨ 12 ≤ x4.toNatClampNeg then none else (if x4 < 0 ∨ 12 ≤ x4.toNatClampNeg then none else jbi (jc 12 [(.ref 1), (.int x4), (.int (0 : Int32))] (jm_up (jm_up τ3 14 x4.toNatClampNeg r3) 15 x4.toNatClampNeg (0 : Int32))) (fun r4 τ4 => (if x4 < 0 ∨ 12 ≤ x4.toNatClampNeg then none else (if x4 < 0 ∨ 12 ≤ x4.toNatClampNeg then none else (if x4 < 0 ∨ 12 ≤ x4.toNatClampNeg then none else (if x4 < 0 ∨ 12 ≤ x4.toNatClampNeg then none else (if x4 < 0 ∨ 12 ≤ x4.toNatClampNeg then none else (if x4 < 0 ∨ 12 ≤ x4.toNatClampNeg then none else jbv (jc 39 [(.ref 11), (.int x4), (.int (τ4 2 x4.toNatClampNeg))] (jm_up (jm_up (jm_up (jm_up (jm_up τ4 16 x4.toNatClampNeg r4) 17 x4.toNatClampNeg (0 : Int32)) 18 x4.toNatClampNeg (0 : Int32)) 19 x4.toNatClampNeg (-1 : Int32)) 20 x4.toNatClampNeg (0 : Int32))) (fun τ5 => jv 38 47 [some (.ref 11), some (.ref 1), some (.int x2), some (.int x3), some (.int (x4 + 1))] [] τ5)))))))))))))))) := by
  refine (sv_iload jM38 c38_47 rfl rfl).trans ?_
  refine (sv_aload_n jM38 c38_49 rfl rfl).trans ?_
  refine (sv_getf jM38 c38_50 rfl lf_0_45 (fg_11_11 _)).trans ?_
  refine (sv_icmp_ge jM38 c38_53 rfl (t := 171) (by decide +kernel)).trans ?_
  refine jif _ ?_ ?_
  ·
    exact sv_vret jM38 c38_171 rfl rfl
  ·
    refine (sv_aload_n jM38 c38_56 rfl rfl).trans ?_
    refine (sv_getf jM38 c38_57 rfl lf_0_9 (fg_11_0 _)).trans ?_
    refine (sv_iload jM38 c38_60 rfl rfl).trans ?_
    refine (sv_aload_n jM38 c38_62 rfl rfl).trans ?_
    refine (sv_iload jM38 c38_63 rfl rfl).trans ?_
    refine (sv_iconst jM38 c38_65 rfl (v := 1) (by decide +kernel)).trans ?_
    refine (sv_callvi (pl := 0) jM38 c38_66 rfl (jm_call_v (a := 1) (as := [(.int x4), (.int (1 : Int32))]) (rest := [(.int x4), (.ref 12)]) lm_0_74 rfl jM12 rfl rfl rfl rfl rfl) jM12 rfl (Or.inl rfl)).trans ?_
    refine jbi_c (fun r1 τ1 => ?_)
    refine (sv_iast jM38 c38_69 rfl wi_12).trans ?_
    refine jif _ rfl ?_
    refine (sv_aload_n jM38 c38_70 rfl rfl).trans ?_
    refine (sv_getf jM38 c38_71 rfl lf_0_15 (fg_11_1 _)).trans ?_
    refine (sv_iload jM38 c38_74 rfl rfl).trans ?_
    refine (sv_aload_n jM38 c38_76 rfl rfl).trans ?_
    refine (sv_iload jM38 c38_77 rfl rfl).trans ?_
    refine (sv_iconst jM38 c38_79 rfl (v := 2) (by decide +kernel)).trans ?_
    refine (sv_callvi (pl := 0) jM38 c38_80 rfl (jm_call_v (a := 1) (as := [(.int x4), (.int (2 : Int32))]) (rest := [(.int x4), (.ref 13)]) lm_0_74 rfl jM12 rfl rfl rfl rfl rfl) jM12 rfl (Or.inl rfl)).trans ?_
    refine jbi_c (fun r2 τ2 => ?_)
    refine (sv_iast jM38 c38_83 rfl wi_13).trans ?_
    refine jif _ rfl ?_
    refine (sv_aload_n jM38 c38_84 rfl rfl).trans ?_
    refine (sv_getf jM38 c38_85 rfl lf_0_18 (fg_11_2 _)).trans ?_
    refine (sv_iload jM38 c38_88 rfl rfl).trans ?_
    refine (sv_aload_n jM38 c38_90 rfl rfl).trans ?_
    refine (sv_iload jM38 c38_91 rfl rfl).trans ?_
    refine (sv_iconst jM38 c38_93 rfl (v := 3) (by decide +kernel)).trans ?_
    refine (sv_callvi (pl := 0) jM38 c38_94 rfl (jm_call_v (a := 1) (as := [(.int x4), (.int (3 : Int32))]) (rest := [(.int x4), (.ref 14)]) lm_0_74 rfl jM12 rfl rfl rfl rfl rfl) jM12 rfl (Or.inl rfl)).trans ?_
    refine jbi_c (fun r3 τ3 => ?_)
    refine (sv_iast jM38 c38_97 rfl wi_14).trans ?_
    refine jif _ rfl ?_
    refine (sv_aload_n jM38 c38_98 rfl rfl).trans ?_
    refine (sv_getf jM38 c38_99 rfl lf_0_21 (fg_11_3 _)).trans ?_
    refine (sv_iload jM38 c38_102 rfl rfl).trans ?_
    refine (sv_iconst jM38 c38_104 rfl (v := 0) (by decide +kernel)).trans ?_
    refine (sv_iast jM38 c38_105 rfl wi_15).trans ?_
    refine jif _ rfl ?_
    refine (sv_aload_n jM38 c38_106 rfl rfl).trans ?_
    refine (sv_getf jM38 c38_107 rfl lf_0_24 (fg_11_4 _)).trans ?_
    refine (sv_iload jM38 c38_110 rfl rfl).trans ?_
    refine (sv_aload_n jM38 c38_112 rfl rfl).trans ?_
    refine (sv_iload jM38 c38_113 rfl rfl).trans ?_
    refine (sv_iconst jM38 c38_115 rfl (v := 0) (by decide +kernel)).trans ?_
    refine (sv_callvi (pl := 0) jM38 c38_116 rfl (jm_call_v (a := 1) (as := [(.int x4), (.int (0 : Int32))]) (rest := [(.int x4), (.ref 16)]) lm_0_74 rfl jM12 rfl rfl rfl rfl rfl) jM12 rfl (Or.inl rfl)).trans ?_
    refine jbi_c (fun r4 τ4 => ?_)
    refine (sv_iast jM38 c38_119 rfl wi_16).trans ?_
    refine jif _ rfl ?_
    refine (sv_aload_n jM38 c38_120 rfl rfl).trans ?_
    refine (sv_getf jM38 c38_121 rfl lf_0_27 (fg_11_5 _)).trans ?_
    refine (sv_iload jM38 c38_124 rfl rfl).trans ?_
    refine (sv_iconst jM38 c38_126 rfl (v := 0) (by decide +kernel)).trans ?_
    refine (sv_iast jM38 c38_127 rfl wi_17).trans ?_
    refine jif _ rfl ?_
    refine (sv_aload_n jM38 c38_128 rfl rfl).trans ?_
    refine (sv_getf jM38 c38_129 rfl lf_0_30 (fg_11_6 _)).trans ?_
    refine (sv_iload jM38 c38_132 rfl rfl).trans ?_
    refine (sv_iconst jM38 c38_134 rfl (v := 0) (by decide +kernel)).trans ?_
    refine (sv_iast jM38 c38_135 rfl wi_18).trans ?_
    refine jif _ rfl ?_
    refine (sv_aload_n jM38 c38_136 rfl rfl).trans ?_
    refine (sv_getf jM38 c38_137 rfl lf_0_33 (fg_11_7 _)).trans ?_
    refine (sv_iload jM38 c38_140 rfl rfl).trans ?_
    refine (sv_iconst jM38 c38_142 rfl (v := -1) (by decide +kernel)).trans ?_
    refine (sv_iast jM38 c38_143 rfl wi_19).trans ?_
    refine jif _ rfl ?_
    refine (sv_aload_n jM38 c38_144 rfl rfl).trans ?_
    refine (sv_getf jM38 c38_145 rfl lf_0_36 (fg_11_8 _)).trans ?_
    refine (sv_iload jM38 c38_148 rfl rfl).trans ?_
    refine (sv_iconst jM38 c38_150 rfl (v := 0) (by decide +kernel)).trans ?_
    refine (sv_iast jM38 c38_151 rfl wi_20).trans ?_
    refine jif _ rfl ?_
    refine (sv_aload_n jM38 c38_152 rfl rfl).trans ?_
    refine (sv_iload jM38 c38_153 rfl rfl).trans ?_
    refine (sv_aload_n jM38 c38_155 rfl rfl).trans ?_
    refine (sv_getf jM38 c38_156 rfl lf_0_78 (fg_1_0 _)).trans ?_
    refine (sv_iload jM38 c38_159 rfl rfl).trans ?_
    refine (sv_iald jM38 c38_161 rfl (ia_2 _)).trans ?_
    refine jif _ rfl ?_
    refine (sv_callvv (pl := 0) jM38 c38_162 rfl (jm_call_v (a := 11) (as := [(.int x4), (.int (τ4 2 x4.toNatClampNeg))]) (rest := []) lm_0_81 rfl jM39 rfl rfl rfl rfl rfl) jM39 rfl rfl).trans ?_
    refine jbv_c (fun τ5 => ?_)
    refine (sv_iinc (ls1 := [some (.ref 11), some (.ref 1), some (.int x2), some (.int x3), some (.int (x4 + 1))]) jM38 c38_165 rfl rfl (v := 1) (by decide +kernel) rfl).trans ?_
    refine (sv_goto jM38 c38_168 rfl (t := 47) (by decide +kernel)).trans ?_
    rfl
set_option maxRecDepth 20000 in
set_option maxHeartbeats 4000000 in
theorem Batch_second_23_in (x1 : Int32) (x2 : Int32) (x3 : Int32) (σ : jm_S) : jc 41 [(.ref 23), (.int x1), (.int x2), (.int x3)] σ = (if (σ 23 16) = 0 then jv 41 14 [some (.ref 23), some (.int x1), some (.int x2), some (.int x3), some (.int (0 : Int32)), none] [] σ else jbv (jc 42 [(.ref 23)] σ) (fun τ1 => jv 41 14 [some (.ref 23), some (.int x1), some (.int x2), some (.int x3), some (.int (0 : Int32)), none] [] τ1)) := by
  refine (jc_of (ls1 := [some (.ref 23), some (.int x1), some (.int x2), some (.int x3), none, none]) ((jm_ini_of jM41).trans rfl)).trans ?_
  refine (sv_aload_n jM41 c41_0 rfl rfl).trans ?_
  refine (sv_getf jM41 c41_1 rfl lf_0_61 (fg_23_16 _)).trans ?_
  refine (sv_if_eq jM41 c41_4 rfl (t := 11) (by decide +kernel)).trans ?_
  refine jif _ ?_ ?_
  ·
    refine (sv_iconst jM41 c41_11 rfl (v := 0) (by decide +kernel)).trans ?_
    refine (sv_istore (ls1 := [some (.ref 23), some (.int x1), some (.int x2), some (.int x3), some (.int (0 : Int32)), none]) jM41 c41_12 rfl (Nat.lt_of_lt_of_eq (by decide +kernel : 4 < 6) rfl) rfl).trans ?_
    rfl
  ·
    refine (sv_aload_n jM41 c41_7 rfl rfl).trans ?_
    refine (sv_callvv (pl := 0) jM41 c41_8 rfl (jm_call_v (a := 23) (as := []) (rest := []) lm_0_107 rfl jM42 rfl rfl rfl rfl rfl) jM42 rfl rfl).trans ?_
    refine jbv_c (fun τ1 => ?_)
    refine (sv_iconst jM41 c41_11 rfl (v := 0) (by decide +kernel)).trans ?_
    refine (sv_istore (ls1 := [some (.ref 23), some (.int x1), some (.int x2), some (.int x3), some (.int (0 : Int32)), none]) jM41 c41_12 rfl (Nat.lt_of_lt_of_eq (by decide +kernel : 4 < 6) rfl) rfl).trans ?_
    rfl
set_option maxRecDepth 20000 in
set_option maxHeartbeats 4000000 in
theorem Batch_second_23_L14 (x1 : Int32) (x2 : Int32) (x3 : Int32) (x4 : Int32) (u5 : Option Value) (σ : jm_S) : jv 41 14 [some (.ref 23), some (.int x1), some (.int x2), some (.int x3), some (.int x4), u5] [] σ = (if (4 : Int32) ≤ x4 then jv 41 68 [some (.ref 23), some (.int x1), some (.int x2), some (.int x3), some (.int (0 : Int32)), u5] [] σ else jv 41 23 [some (.ref 23), some (.int x1), some (.int x2), some (.int x3), some (.int x4), some (.int (0 : Int32))] [] σ) := by
  refine (sv_iload jM41 c41_14 rfl rfl).trans ?_
  refine (sv_iconst jM41 c41_16 rfl (v := 4) (by decide +kernel)).trans ?_
  refine (sv_icmp_ge jM41 c41_17 rfl (t := 65) (by decide +kernel)).trans ?_
  refine jif _ ?_ ?_
  ·
    refine (sv_iconst jM41 c41_65 rfl (v := 0) (by decide +kernel)).trans ?_
    refine (sv_istore (ls1 := [some (.ref 23), some (.int x1), some (.int x2), some (.int x3), some (.int (0 : Int32)), u5]) jM41 c41_66 rfl (Nat.lt_of_lt_of_eq (by decide +kernel : 4 < 6) rfl) rfl).trans ?_
    rfl
  ·
    refine (sv_iconst jM41 c41_20 rfl (v := 0) (by decide +kernel)).trans ?_
    refine (sv_istore (ls1 := [some (.ref 23), some (.int x1), some (.int x2), some (.int x3), some (.int x4), some (.int (0 : Int32))]) jM41 c41_21 rfl (Nat.lt_of_lt_of_eq (by decide +kernel : 5 < 6) rfl) rfl).trans ?_
    rfl
set_option maxRecDepth 20000 in
set_option maxHeartbeats 4000000 in
theorem Batch_second_23_L23 (x1 : Int32) (x2 : Int32) (x3 : Int32) (x4 : Int32) (x5 : Int32) (σ : jm_S) : jv 41 23 [some (.ref 23), some (.int x1), some (.int x2), some (.int x3), some (.int x4), some (.int x5)] [] σ = (if x2 ≤ x5 then (if x3 = 0 then jbv (jc 44 [(.ref 23), (.int x4), (.int x1), (.int (32 : Int32))] σ) (fun τ1 => jv 41 14 [some (.ref 23), some (.int x1), some (.int x2), some (.int x3), some (.int (x4 + 1)), some (.int x5)] [] τ1) else jbv (jc 44 [(.ref 23), (.int x4), (.int x1), (.int (64 : Int32))] σ) (fun τ2 => jv 41 14 [some (.ref 23), some (.int x1), some (.int x2), some (.int x3), some (.int (x4 + 1)), some (.int x5)] [] τ2)) else jbv (jc 43 [(.ref 23), (.int x4)] σ) (fun τ3 => jv 41 23 [some (.ref 23), some (.int x1), some (.int x2), some (.int x3), some (.int x4), some (.int (x5 + 1))] [] τ3)) := by
  refine (sv_iload jM41 c41_23 rfl rfl).trans ?_
  refine (sv_iload_n jM41 c41_25 rfl rfl).trans ?_
  refine (sv_icmp_ge jM41 c41_26 rfl (t := 41) (by decide +kernel)).trans ?_
  refine jif _ ?_ ?_
  ·
    refine (sv_aload_n jM41 c41_41 rfl rfl).trans ?_
    refine (sv_iload jM41 c41_42 rfl rfl).trans ?_
    refine (sv_iload_n jM41 c41_44 rfl rfl).trans ?_
    refine (sv_iload_n jM41 c41_45 rfl rfl).trans ?_
    refine (sv_if_eq jM41 c41_46 rfl (t := 54) (by decide +kernel)).trans ?_
    refine jif _ ?_ ?_
    ·
      refine (sv_bipush jM41 c41_54 rfl (v := 32) (by decide +kernel)).trans ?_
      refine (sv_callvv (pl := 0) jM41 c41_56 rfl (jm_call_v (a := 23) (as := [(.int x4), (.int x1), (.int (32 : Int32))]) (rest := []) lm_0_114 rfl jM44 rfl rfl rfl rfl rfl) jM44 rfl rfl).trans ?_
      refine jbv_c (fun τ1 => ?_)
      refine (sv_iinc (ls1 := [some (.ref 23), some (.int x1), some (.int x2), some (.int x3), some (.int (x4 + 1)), some (.int x5)]) jM41 c41_59 rfl rfl (v := 1) (by decide +kernel) rfl).trans ?_
      refine (sv_goto jM41 c41_62 rfl (t := 14) (by decide +kernel)).trans ?_
      rfl
    ·
      refine (sv_bipush jM41 c41_49 rfl (v := 64) (by decide +kernel)).trans ?_
      refine (sv_goto jM41 c41_51 rfl (t := 56) (by decide +kernel)).trans ?_
      refine (sv_callvv (pl := 0) jM41 c41_56 rfl (jm_call_v (a := 23) (as := [(.int x4), (.int x1), (.int (64 : Int32))]) (rest := []) lm_0_114 rfl jM44 rfl rfl rfl rfl rfl) jM44 rfl rfl).trans ?_
      refine jbv_c (fun τ2 => ?_)
      refine (sv_iinc (ls1 := [some (.ref 23), some (.int x1), some (.int x2), some (.int x3), some (.int (x4 + 1)), some (.int x5)]) jM41 c41_59 rfl rfl (v := 1) (by decide +kernel) rfl).trans ?_
      refine (sv_goto jM41 c41_62 rfl (t := 14) (by decide +kernel)).trans ?_
      rfl
  ·
    refine (sv_aload_n jM41 c41_29 rfl rfl).trans ?_
    refine (sv_iload jM41 c41_30 rfl rfl).trans ?_
    refine (sv_callvv (pl := 0) jM41 c41_32 rfl (jm_call_v (a := 23) (as := [(.int x4)]) (rest := []) lm_0_110 rfl jM43 rfl rfl rfl rfl rfl) jM43 rfl rfl).trans ?_
    refine jbv_c (fun τ3 => ?_)
    refine (sv_iinc (ls1 := [some (.ref 23), some (.int x1), some (.int x2), some (.int x3), some (.int x4), some (.int (x5 + 1))]) jM41 c41_35 rfl rfl (v := 1) (by decide +kernel) rfl).trans ?_
    refine (sv_goto jM41 c41_38 rfl (t := 23) (by decide +kernel)).trans ?_
    rfl
set_option maxRecDepth 20000 in
set_option maxHeartbeats 4000000 in
theorem Batch_second_23_L68 (x1 : Int32) (x2 : Int32) (x3 : Int32) (x4 : Int32) (u5 : Option Value) (σ : jm_S) : jv 41 68 [some (.ref 23), some (.int x1), some (.int x2), some (.int x3), some (.int x4), u5] [] σ = (if (σ 23 11) ≤ x4 then some (none, (jm_up σ 23 15 ((σ 23 15) + (1 : Int32)))) else (if x4 < 0 ∨ 12 ≤ x4.toNatClampNeg then none else (if ¬ (σ 30 x4.toNatClampNeg) = 0 then jv 41 68 [some (.ref 23), some (.int x1), some (.int x2), some (.int x3), some (.int (x4 + 1)), u5] [] σ else jbv (jc 45 [(.ref 23), (.int x4)] σ) (fun τ1 => jv 41 68 [some (.ref 23), some (.int x1), some (.int x2), some (.int x3), some (.int (x4 + 1)), u5] [] τ1)))) := by
  refine (sv_iload jM41 c41_68 rfl rfl).trans ?_
  refine (sv_aload_n jM41 c41_70 rfl rfl).trans ?_
  refine (sv_getf jM41 c41_71 rfl lf_0_45 (fg_23_11 _)).trans ?_
  refine (sv_icmp_ge jM41 c41_74 rfl (t := 99) (by decide +kernel)).trans ?_
  refine jif _ ?_ ?_
  ·
    refine (sv_aload_n jM41 c41_99 rfl rfl).trans ?_
    refine (sv_dup jM41 c41_100 rfl rfl).trans ?_
    refine (sv_getf jM41 c41_101 rfl lf_0_58 (fg_23_15 _)).trans ?_
    refine (sv_iconst jM41 c41_104 rfl (v := 1) (by decide +kernel)).trans ?_
    refine (sv_iadd jM41 c41_105 rfl).trans ?_
    refine (sv_putf jM41 c41_106 rfl lf_0_58 (pf_23_15 _ _)).trans ?_
    exact sv_vret jM41 c41_109 rfl rfl
  ·
    refine (sv_aload_n jM41 c41_77 rfl rfl).trans ?_
    refine (sv_getf jM41 c41_78 rfl lf_0_30 (fg_23_6 _)).trans ?_
    refine (sv_iload jM41 c41_81 rfl rfl).trans ?_
    refine (sv_iald jM41 c41_83 rfl (ia_30 _)).trans ?_
    refine jif _ rfl ?_
    refine (sv_if_ne jM41 c41_84 rfl (t := 93) (by decide +kernel)).trans ?_
    refine jif _ ?_ ?_
    ·
      refine (sv_iinc (ls1 := [some (.ref 23), some (.int x1), some (.int x2), some (.int x3), some (.int (x4 + 1)), u5]) jM41 c41_93 rfl rfl (v := 1) (by decide +kernel) rfl).trans ?_
      refine (sv_goto jM41 c41_96 rfl (t := 68) (by decide +kernel)).trans ?_
      rfl
    ·
      refine (sv_aload_n jM41 c41_87 rfl rfl).trans ?_
      refine (sv_iload jM41 c41_88 rfl rfl).trans ?_
      refine (sv_callvv (pl := 0) jM41 c41_90 rfl (jm_call_v (a := 23) (as := [(.int x4)]) (rest := []) lm_0_118 rfl jM45 rfl rfl rfl rfl rfl) jM45 rfl rfl).trans ?_
      refine jbv_c (fun τ1 => ?_)
      refine (sv_iinc (ls1 := [some (.ref 23), some (.int x1), some (.int x2), some (.int x3), some (.int (x4 + 1)), u5]) jM41 c41_93 rfl rfl (v := 1) (by decide +kernel) rfl).trans ?_
      refine (sv_goto jM41 c41_96 rfl (t := 68) (by decide +kernel)).trans ?_
      rfl
set_option maxRecDepth 20000 in
set_option maxHeartbeats 4000000 in
theorem Batch_openAt_23_in (x1 : Int32) (σ : jm_S) : jc 51 [(.ref 23), (.int x1)] σ = jv 51 4 [some (.ref 23), some (.int x1), some (.int (0 : Int32)), some (.int (0 : Int32))] [] σ := by
  refine (jc_of (ls1 := [some (.ref 23), some (.int x1), none, none]) ((jm_ini_of jM51).trans rfl)).trans ?_
  refine (sv_iconst jM51 c51_0 rfl (v := 0) (by decide +kernel)).trans ?_
  refine (sv_istore_n (ls1 := [some (.ref 23), some (.int x1), some (.int (0 : Int32)), none]) jM51 c51_1 rfl (Nat.lt_of_lt_of_eq (by decide +kernel : 2 < 4) rfl) rfl).trans ?_
  refine (sv_iconst jM51 c51_2 rfl (v := 0) (by decide +kernel)).trans ?_
  refine (sv_istore_n (ls1 := [some (.ref 23), some (.int x1), some (.int (0 : Int32)), some (.int (0 : Int32))]) jM51 c51_3 rfl (Nat.lt_of_lt_of_eq (by decide +kernel : 3 < 4) rfl) rfl).trans ?_
  rfl
set_option maxRecDepth 20000 in
set_option maxHeartbeats 4000000 in
theorem Batch_openAt_23_L4 (x1 : Int32) (x2 : Int32) (x3 : Int32) (σ : jm_S) : jv 51 4 [some (.ref 23), some (.int x1), some (.int x2), some (.int x3)] [] σ = (if (σ 23 11) ≤ x3 then some (some (.int x2), σ) else jbi (jc 52 [(.ref 23), (.int x3), (.int x1)] σ) (fun r1 τ1 => (if r1 = 0 then jv 51 4 [some (.ref 23), some (.int x1), some (.int (x2 + (0 : Int32))), some (.int (x3 + 1))] [] τ1 else jv 51 4 [some (.ref 23), some (.int x1), some (.int (x2 + (1 : Int32))), some (.int (x3 + 1))] [] τ1))) := by
  refine (sv_iload_n jM51 c51_4 rfl rfl).trans ?_
  refine (sv_aload_n jM51 c51_5 rfl rfl).trans ?_
  refine (sv_getf jM51 c51_6 rfl lf_0_45 (fg_23_11 _)).trans ?_
  refine (sv_icmp_ge jM51 c51_9 rfl (t := 35) (by decide +kernel)).trans ?_
  refine jif _ ?_ ?_
  ·
    refine (sv_iload_n jM51 c51_35 rfl rfl).trans ?_
    exact sv_iret jM51 c51_36 rfl rfl
  ·
    refine (sv_iload_n jM51 c51_12 rfl rfl).trans ?_
    refine (sv_aload_n jM51 c51_13 rfl rfl).trans ?_
    refine (sv_iload_n jM51 c51_14 rfl rfl).trans ?_
    refine (sv_iload_n jM51 c51_15 rfl rfl).trans ?_
    refine (sv_callvi (pl := 0) jM51 c51_16 rfl (jm_call_v (a := 23) (as := [(.int x3), (.int x1)]) (rest := [(.int x2)]) lm_0_129 rfl jM52 rfl rfl rfl rfl rfl) jM52 rfl (Or.inr rfl)).trans ?_
    refine jbi_c (fun r1 τ1 => ?_)
    refine (sv_if_eq jM51 c51_19 rfl (t := 26) (by decide +kernel)).trans ?_
    refine jif _ ?_ ?_
    ·
      refine (sv_iconst jM51 c51_26 rfl (v := 0) (by decide +kernel)).trans ?_
      refine (sv_iadd jM51 c51_27 rfl).trans ?_
      refine (sv_istore_n (ls1 := [some (.ref 23), some (.int x1), some (.int (x2 + (0 : Int32))), some (.int x3)]) jM51 c51_28 rfl (Nat.lt_of_lt_of_eq (by decide +kernel : 2 < 4) rfl) rfl).trans ?_
      refine (sv_iinc (ls1 := [some (.ref 23), some (.int x1), some (.int (x2 + (0 : Int32))), some (.int (x3 + 1))]) jM51 c51_29 rfl rfl (v := 1) (by decide +kernel) rfl).trans ?_
      refine (sv_goto jM51 c51_32 rfl (t := 4) (by decide +kernel)).trans ?_
      rfl
    ·
      refine (sv_iconst jM51 c51_22 rfl (v := 1) (by decide +kernel)).trans ?_
      refine (sv_goto jM51 c51_23 rfl (t := 27) (by decide +kernel)).trans ?_
      refine (sv_iadd jM51 c51_27 rfl).trans ?_
      refine (sv_istore_n (ls1 := [some (.ref 23), some (.int x1), some (.int (x2 + (1 : Int32))), some (.int x3)]) jM51 c51_28 rfl (Nat.lt_of_lt_of_eq (by decide +kernel : 2 < 4) rfl) rfl).trans ?_
      refine (sv_iinc (ls1 := [some (.ref 23), some (.int x1), some (.int (x2 + (1 : Int32))), some (.int (x3 + 1))]) jM51 c51_29 rfl rfl (v := 1) (by decide +kernel) rfl).trans ?_
      refine (sv_goto jM51 c51_32 rfl (t := 4) (by decide +kernel)).trans ?_
      rfl
set_option maxRecDepth 20000 in
set_option maxHeartbeats 4000000 in
theorem Batch_second_11_in (x1 : Int32) (x2 : Int32) (x3 : Int32) (σ : jm_S) : jc 41 [(.ref 11), (.int x1), (.int x2), (.int x3)] σ = (if (σ 11 16) = 0 then jv 41 14 [some (.ref 11), some (.int x1), some (.int x2), some (.int x3), some (.int (0 : Int32)), none] [] σ else jbv (jc 42 [(.ref 11)] σ) (fun τ1 => jv 41 14 [some (.ref 11), some (.int x1), some (.int x2), some (.int x3), some (.int (0 : Int32)), none] [] τ1)) := by
  refine (jc_of (ls1 := [some (.ref 11), some (.int x1), some (.int x2), some (.int x3), none, none]) ((jm_ini_of jM41).trans rfl)).trans ?_
  refine (sv_aload_n jM41 c41_0 rfl rfl).trans ?_
  refine (sv_getf jM41 c41_1 rfl lf_0_61 (fg_11_16 _)).trans ?_
  refine (sv_if_eq jM41 c41_4 rfl (t := 11) (by decide +kernel)).trans ?_
  refine jif _ ?_ ?_
  ·
    refine (sv_iconst jM41 c41_11 rfl (v := 0) (by decide +kernel)).trans ?_
    refine (sv_istore (ls1 := [some (.ref 11), some (.int x1), some (.int x2), some (.int x3), some (.int (0 : Int32)), none]) jM41 c41_12 rfl (Nat.lt_of_lt_of_eq (by decide +kernel : 4 < 6) rfl) rfl).trans ?_
    rfl
  ·
    refine (sv_aload_n jM41 c41_7 rfl rfl).trans ?_
    refine (sv_callvv (pl := 0) jM41 c41_8 rfl (jm_call_v (a := 11) (as := []) (rest := []) lm_0_107 rfl jM42 rfl rfl rfl rfl rfl) jM42 rfl rfl).trans ?_
    refine jbv_c (fun τ1 => ?_)
    refine (sv_iconst jM41 c41_11 rfl (v := 0) (by decide +kernel)).trans ?_
    refine (sv_istore (ls1 := [some (.ref 11), some (.int x1), some (.int x2), some (.int x3), some (.int (0 : Int32)), none]) jM41 c41_12 rfl (Nat.lt_of_lt_of_eq (by decide +kernel : 4 < 6) rfl) rfl).trans ?_
    rfl
set_option maxRecDepth 20000 in
set_option maxHeartbeats 4000000 in
theorem Batch_second_11_L14 (x1 : Int32) (x2 : Int32) (x3 : Int32) (x4 : Int32) (u5 : Option Value) (σ : jm_S) : jv 41 14 [some (.ref 11), some (.int x1), some (.int x2), some (.int x3), some (.int x4), u5] [] σ = (if (4 : Int32) ≤ x4 then jv 41 68 [some (.ref 11), some (.int x1), some (.int x2), some (.int x3), some (.int (0 : Int32)), u5] [] σ else jv 41 23 [some (.ref 11), some (.int x1), some (.int x2), some (.int x3), some (.int x4), some (.int (0 : Int32))] [] σ) := by
  refine (sv_iload jM41 c41_14 rfl rfl).trans ?_
  refine (sv_iconst jM41 c41_16 rfl (v := 4) (by decide +kernel)).trans ?_
  refine (sv_icmp_ge jM41 c41_17 rfl (t := 65) (by decide +kernel)).trans ?_
  refine jif _ ?_ ?_
  ·
    refine (sv_iconst jM41 c41_65 rfl (v := 0) (by decide +kernel)).trans ?_
    refine (sv_istore (ls1 := [some (.ref 11), some (.int x1), some (.int x2), some (.int x3), some (.int (0 : Int32)), u5]) jM41 c41_66 rfl (Nat.lt_of_lt_of_eq (by decide +kernel : 4 < 6) rfl) rfl).trans ?_
    rfl
  ·
    refine (sv_iconst jM41 c41_20 rfl (v := 0) (by decide +kernel)).trans ?_
    refine (sv_istore (ls1 := [some (.ref 11), some (.int x1), some (.int x2), some (.int x3), some (.int x4), some (.int (0 : Int32))]) jM41 c41_21 rfl (Nat.lt_of_lt_of_eq (by decide +kernel : 5 < 6) rfl) rfl).trans ?_
    rfl
set_option maxRecDepth 20000 in
set_option maxHeartbeats 4000000 in
theorem Batch_second_11_L23 (x1 : Int32) (x2 : Int32) (x3 : Int32) (x4 : Int32) (x5 : Int32) (σ : jm_S) : jv 41 23 [some (.ref 11), some (.int x1), some (.int x2), some (.int x3), some (.int x4), some (.int x5)] [] σ = (if x2 ≤ x5 then (if x3 = 0 then jbv (jc 44 [(.ref 11), (.int x4), (.int x1), (.int (32 : Int32))] σ) (fun τ1 => jv 41 14 [some (.ref 11), some (.int x1), some (.int x2), some (.int x3), some (.int (x4 + 1)), some (.int x5)] [] τ1) else jbv (jc 44 [(.ref 11), (.int x4), (.int x1), (.int (64 : Int32))] σ) (fun τ2 => jv 41 14 [some (.ref 11), some (.int x1), some (.int x2), some (.int x3), some (.int (x4 + 1)), some (.int x5)] [] τ2)) else jbv (jc 43 [(.ref 11), (.int x4)] σ) (fun τ3 => jv 41 23 [some (.ref 11), some (.int x1), some (.int x2), some (.int x3), some (.int x4), some (.int (x5 + 1))] [] τ3)) := by
  refine (sv_iload jM41 c41_23 rfl rfl).trans ?_
  refine (sv_iload_n jM41 c41_25 rfl rfl).trans ?_
  refine (sv_icmp_ge jM41 c41_26 rfl (t := 41) (by decide +kernel)).trans ?_
  refine jif _ ?_ ?_
  ·
    refine (sv_aload_n jM41 c41_41 rfl rfl).trans ?_
    refine (sv_iload jM41 c41_42 rfl rfl).trans ?_
    refine (sv_iload_n jM41 c41_44 rfl rfl).trans ?_
    refine (sv_iload_n jM41 c41_45 rfl rfl).trans ?_
    refine (sv_if_eq jM41 c41_46 rfl (t := 54) (by decide +kernel)).trans ?_
    refine jif _ ?_ ?_
    ·
      refine (sv_bipush jM41 c41_54 rfl (v := 32) (by decide +kernel)).trans ?_
      refine (sv_callvv (pl := 0) jM41 c41_56 rfl (jm_call_v (a := 11) (as := [(.int x4), (.int x1), (.int (32 : Int32))]) (rest := []) lm_0_114 rfl jM44 rfl rfl rfl rfl rfl) jM44 rfl rfl).trans ?_
      refine jbv_c (fun τ1 => ?_)
      refine (sv_iinc (ls1 := [some (.ref 11), some (.int x1), some (.int x2), some (.int x3), some (.int (x4 + 1)), some (.int x5)]) jM41 c41_59 rfl rfl (v := 1) (by decide +kernel) rfl).trans ?_
      refine (sv_goto jM41 c41_62 rfl (t := 14) (by decide +kernel)).trans ?_
      rfl
    ·
      refine (sv_bipush jM41 c41_49 rfl (v := 64) (by decide +kernel)).trans ?_
      refine (sv_goto jM41 c41_51 rfl (t := 56) (by decide +kernel)).trans ?_
      refine (sv_callvv (pl := 0) jM41 c41_56 rfl (jm_call_v (a := 11) (as := [(.int x4), (.int x1), (.int (64 : Int32))]) (rest := []) lm_0_114 rfl jM44 rfl rfl rfl rfl rfl) jM44 rfl rfl).trans ?_
      refine jbv_c (fun τ2 => ?_)
      refine (sv_iinc (ls1 := [some (.ref 11), some (.int x1), some (.int x2), some (.int x3), some (.int (x4 + 1)), some (.int x5)]) jM41 c41_59 rfl rfl (v := 1) (by decide +kernel) rfl).trans ?_
      refine (sv_goto jM41 c41_62 rfl (t := 14) (by decide +kernel)).trans ?_
      rfl
  ·
    refine (sv_aload_n jM41 c41_29 rfl rfl).trans ?_
    refine (sv_iload jM41 c41_30 rfl rfl).trans ?_
    refine (sv_callvv (pl := 0) jM41 c41_32 rfl (jm_call_v (a := 11) (as := [(.int x4)]) (rest := []) lm_0_110 rfl jM43 rfl rfl rfl rfl rfl) jM43 rfl rfl).trans ?_
    refine jbv_c (fun τ3 => ?_)
    refine (sv_iinc (ls1 := [some (.ref 11), some (.int x1), some (.int x2), some (.int x3), some (.int x4), some (.int (x5 + 1))]) jM41 c41_35 rfl rfl (v := 1) (by decide +kernel) rfl).trans ?_
    refine (sv_goto jM41 c41_38 rfl (t := 23) (by decide +kernel)).trans ?_
    rfl
set_option maxRecDepth 20000 in
set_option maxHeartbeats 4000000 in
theorem Batch_second_11_L68 (x1 : Int32) (x2 : Int32) (x3 : Int32) (x4 : Int32) (u5 : Option Value) (σ : jm_S) : jv 41 68 [some (.ref 11), some (.int x1), some (.int x2), some (.int x3), some (.int x4), u5] [] σ = (if (σ 11 11) ≤ x4 then some (none, (jm_up σ 11 15 ((σ 11 15) + (1 : Int32)))) else (if x4 < 0 ∨ 12 ≤ x4.toNatClampNeg then none else (if ¬ (σ 18 x4.toNatClampNeg) = 0 then jv 41 68 [some (.ref 11), some (.int x1), some (.int x2), some (.int x3), some (.int (x4 + 1)), u5] [] σ else jbv (jc 45 [(.ref 11), (.int x4)] σ) (fun τ1 => jv 41 68 [some (.ref 11), some (.int x1), some (.int x2), some (.int x3), some (.int (x4 + 1)), u5] [] τ1)))) := by
  refine (sv_iload jM41 c41_68 rfl rfl).trans ?_
  refine (sv_aload_n jM41 c41_70 rfl rfl).trans ?_
  refine (sv_getf jM41 c41_71 rfl lf_0_45 (fg_11_11 _)).trans ?_
  refine (sv_icmp_ge jM41 c41_74 rfl (t := 99) (by decide +kernel)).trans ?_
  refine jif _ ?_ ?_
  ·
    refine (sv_aload_n jM41 c41_99 rfl rfl).trans ?_
    refine (sv_dup jM41 c41_100 rfl rfl).trans ?_
    refine (sv_getf jM41 c41_101 rfl lf_0_58 (fg_11_15 _)).trans ?_
    refine (sv_iconst jM41 c41_104 rfl (v := 1) (by decide +kernel)).trans ?_
    refine (sv_iadd jM41 c41_105 rfl).trans ?_
    refine (sv_putf jM41 c41_106 rfl lf_0_58 (pf_11_15 _ _)).trans ?_
    exact sv_vret jM41 c41_109 rfl rfl
  ·
    refine (sv_aload_n jM41 c41_77 rfl rfl).trans ?_
    refine (sv_getf jM41 c41_78 rfl lf_0_30 (fg_11_6 _)).trans ?_
    refine (sv_iload jM41 c41_81 rfl rfl).trans ?_
    refine (sv_iald jM41 c41_83 rfl (ia_18 _)).trans ?_
    refine jif _ rfl ?_
    refine (sv_if_ne jM41 c41_84 rfl (t := 93) (by decide +kernel)).trans ?_
    refine jif _ ?_ ?_
    ·
      refine (sv_iinc (ls1 := [some (.ref 11), some (.int x1), some (.int x2), some (.int x3), some (.int (x4 + 1)), u5]) jM41 c41_93 rfl rfl (v := 1) (by decide +kernel) rfl).trans ?_
      refine (sv_goto jM41 c41_96 rfl (t := 68) (by decide +kernel)).trans ?_
      rfl
    ·
      refine (sv_aload_n jM41 c41_87 rfl rfl).trans ?_
      refine (sv_iload jM41 c41_88 rfl rfl).trans ?_
      refine (sv_callvv (pl := 0) jM41 c41_90 rfl (jm_call_v (a := 11) (as := [(.int x4)]) (rest := []) lm_0_118 rfl jM45 rfl rfl rfl rfl rfl) jM45 rfl rfl).trans ?_
      refine jbv_c (fun τ1 => ?_)
      refine (sv_iinc (ls1 := [some (.ref 11), some (.int x1), some (.int x2), some (.int x3), some (.int (x4 + 1)), u5]) jM41 c41_93 rfl rfl (v := 1) (by decide +kernel) rfl).trans ?_
      refine (sv_goto jM41 c41_96 rfl (t := 68) (by decide +kernel)).trans ?_
      rfl
set_option maxRecDepth 20000 in
set_option maxHeartbeats 4000000 in
theorem Batch_become_23_11_in (σ : jm_S) : jc 76 [(.ref 23), (.ref 11)] σ = (if (σ 11 16) = 0 ∨ (σ 11 16) = 1 then some (none, (jm_row (jm_row (jm_row (jm_row (jm_row (jm_row (jm_row (jm_row (jm_row (jm_row (jm_row (jm_up (jm_up (jm_up (jm_up (jm_up (jm_up σ 23 11 (σ 11 11)) 23 12 (σ 11 12)) 23 13 (σ 11 13)) 23 14 (σ 11 14)) 23 15 (σ 11 15)) 23 16 (σ 11 16)) 24 (va_cpy (σ 12) (σ 24) 0 0 12)) 25 (va_cpy (σ 13) (σ 25) 0 0 12)) 26 (va_cpy (σ 14) (σ 26) 0 0 12)) 27 (va_cpy (σ 15) (σ 27) 0 0 12)) 28 (va_cpy (σ 16) (σ 28) 0 0 12)) 29 (va_cpy (σ 17) (σ 29) 0 0 12)) 30 (va_cpy (σ 18) (σ 30) 0 0 12)) 31 (va_cpy (σ 19) (σ 31) 0 0 12)) 32 (va_cpy (σ 20) (σ 32) 0 0 12)) 33 (va_cpy (σ 21) (σ 33) 0 0 48)) 34 (va_cpy (σ 22) (σ 34) 0 0 4))) else none) := by
  refine (jc_of (ls1 := [some (.ref 23), some (.ref 11)]) ((jm_ini_of jM76).trans rfl)).trans ?_
  refine (sv_aload_n jM76 c76_0 rfl rfl).trans ?_
  refine (sv_aload_n jM76 c76_1 rfl rfl).trans ?_
  refine (sv_getf jM76 c76_2 rfl lf_0_45 (fg_11_11 _)).trans ?_
  refine (sv_putf jM76 c76_5 rfl lf_0_45 (pf_23_11 _ _)).trans ?_
  refine (sv_aload_n jM76 c76_8 rfl rfl).trans ?_
  refine (sv_aload_n jM76 c76_9 rfl rfl).trans ?_
  refine (sv_getf jM76 c76_10 rfl lf_0_49 (fg_11_12 _)).trans ?_
  refine (sv_putf jM76 c76_13 rfl lf_0_49 (pf_23_12 _ _)).trans ?_
  refine (sv_aload_n jM76 c76_16 rfl rfl).trans ?_
  refine (sv_aload_n jM76 c76_17 rfl rfl).trans ?_
  refine (sv_getf jM76 c76_18 rfl lf_0_52 (fg_11_13 _)).trans ?_
  refine (sv_putf jM76 c76_21 rfl lf_0_52 (pf_23_13 _ _)).trans ?_
  refine (sv_aload_n jM76 c76_24 rfl rfl).trans ?_
  refine (sv_aload_n jM76 c76_25 rfl rfl).trans ?_
  refine (sv_getf jM76 c76_26 rfl lf_0_55 (fg_11_14 _)).trans ?_
  refine (sv_putf jM76 c76_29 rfl lf_0_55 (pf_23_14 _ _)).trans ?_
  refine (sv_aload_n jM76 c76_32 rfl rfl).trans ?_
  refine (sv_aload_n jM76 c76_33 rfl rfl).trans ?_
  refine (sv_getf jM76 c76_34 rfl lf_0_58 (fg_11_15 _)).trans ?_
  refine (sv_putf jM76 c76_37 rfl lf_0_58 (pf_23_15 _ _)).trans ?_
  refine (sv_aload_n jM76 c76_40 rfl rfl).trans ?_
  refine (sv_aload_n jM76 c76_41 rfl rfl).trans ?_
  refine (sv_getf jM76 c76_42 rfl lf_0_61 (fg_11_16 _)).trans ?_
  refine (sv_putfz jM76 c76_45 rfl lf_0_61 (pf_23_16 _ _) (pn_23_16 _ _)).trans ?_
  refine jif _ ?_ rfl
  refine (sv_aload_n jM76 c76_48 rfl rfl).trans ?_
  refine (sv_getf jM76 c76_49 rfl lf_0_9 (fg_11_0 _)).trans ?_
  refine (sv_iconst jM76 c76_52 rfl (v := 0) (by decide +kernel)).trans ?_
  refine (sv_aload_n jM76 c76_53 rfl rfl).trans ?_
  refine (sv_getf jM76 c76_54 rfl lf_0_9 (fg_23_0 _)).trans ?_
  refine (sv_iconst jM76 c76_57 rfl (v := 0) (by decide +kernel)).trans ?_
  refine (sv_bipush jM76 c76_58 rfl (v := 12) (by decide +kernel)).trans ?_
  refine (sv_cpy jM76 c76_60 rfl lm_0_85 (Nat.not_lt.mpr (Nat.le_of_ble_eq_true rfl)) wi_12 wi_24).trans ?_
  refine (if_neg (by decide +kernel)).trans ?_
  refine (sv_aload_n jM76 c76_63 rfl rfl).trans ?_
  refine (sv_getf jM76 c76_64 rfl lf_0_15 (fg_11_1 _)).trans ?_
  refine (sv_iconst jM76 c76_67 rfl (v := 0) (by decide +kernel)).trans ?_
  refine (sv_aload_n jM76 c76_68 rfl rfl).trans ?_
  refine (sv_getf jM76 c76_69 rfl lf_0_15 (fg_23_1 _)).trans ?_
  refine (sv_iconst jM76 c76_72 rfl (v := 0) (by decide +kernel)).trans ?_
  refine (sv_bipush jM76 c76_73 rfl (v := 12) (by decide +kernel)).trans ?_
  refine (sv_cpy jM76 c76_75 rfl lm_0_85 (Nat.not_lt.mpr (Nat.le_of_ble_eq_true rfl)) wi_13 wi_25).trans ?_
  refine (if_neg (by decide +kernel)).trans ?_
  refine (sv_aload_n jM76 c76_78 rfl rfl).trans ?_
  refine (sv_getf jM76 c76_79 rfl lf_0_18 (fg_11_2 _)).trans ?_
  refine (sv_iconst jM76 c76_82 rfl (v := 0) (by decide +kernel)).trans ?_
  refine (sv_aload_n jM76 c76_83 rfl rfl).trans ?_
  refine (sv_getf jM76 c76_84 rfl lf_0_18 (fg_23_2 _)).trans ?_
  refine (sv_iconst jM76 c76_87 rfl (v := 0) (by decide +kernel)).trans ?_
  refine (sv_bipush jM76 c76_88 rfl (v := 12) (by decide +kernel)).trans ?_
  refine (sv_cpy jM76 c76_90 rfl lm_0_85 (Nat.not_lt.mpr (Nat.le_of_ble_eq_true rfl)) wi_14 wi_26).trans ?_
  refine (if_neg (by decide +kernel)).trans ?_
  refine (sv_aload_n jM76 c76_93 rfl rfl).trans ?_
  refine (sv_getf jM76 c76_94 rfl lf_0_21 (fg_11_3 _)).trans ?_
  refine (sv_iconst jM76 c76_97 rfl (v := 0) (by decide +kernel)).trans ?_
  refine (sv_aload_n jM76 c76_98 rfl rfl).trans ?_
  refine (sv_getf jM76 c76_99 rfl lf_0_21 (fg_23_3 _)).trans ?_
  refine (sv_iconst jM76 c76_102 rfl (v := 0) (by decide +kernel)).trans ?_
  refine (sv_bipush jM76 c76_103 rfl (v := 12) (by decide +kernel)).trans ?_
  refine (sv_cpy jM76 c76_105 rfl lm_0_85 (Nat.not_lt.mpr (Nat.le_of_ble_eq_true rfl)) wi_15 wi_27).trans ?_
  refine (if_neg (by decide +kernel)).trans ?_
  refine (sv_aload_n jM76 c76_108 rfl rfl).trans ?_
  refine (sv_getf jM76 c76_109 rfl lf_0_24 (fg_11_4 _)).trans ?_
  refine (sv_iconst jM76 c76_112 rfl (v := 0) (by decide +kernel)).trans ?_
  refine (sv_aload_n jM76 c76_113 rfl rfl).trans ?_
  refine (sv_getf jM76 c76_114 rfl lf_0_24 (fg_23_4 _)).trans ?_
  refine (sv_iconst jM76 c76_117 rfl (v := 0) (by decide +kernel)).trans ?_
  refine (sv_bipush jM76 c76_118 rfl (v := 12) (by decide +kernel)).trans ?_
  refine (sv_cpy jM76 c76_120 rfl lm_0_85 (Nat.not_lt.mpr (Nat.le_of_ble_eq_true rfl)) wi_16 wi_28).trans ?_
  refine (if_neg (by decide +kernel)).trans ?_
  refine (sv_aload_n jM76 c76_123 rfl rfl).trans ?_
  refine (sv_getf jM76 c76_124 rfl lf_0_27 (fg_11_5 _)).trans ?_
  refine (sv_iconst jM76 c76_127 rfl (v := 0) (by decide +kernel)).trans ?_
  refine (sv_aload_n jM76 c76_128 rfl rfl).trans ?_
  refine (sv_getf jM76 c76_129 rfl lf_0_27 (fg_23_5 _)).trans ?_
  refine (sv_iconst jM76 c76_132 rfl (v := 0) (by decide +kernel)).trans ?_
  refine (sv_bipush jM76 c76_133 rfl (v := 12) (by decide +kernel)).trans ?_
  refine (sv_cpy jM76 c76_135 rfl lm_0_85 (Nat.not_lt.mpr (Nat.le_of_ble_eq_true rfl)) wi_17 wi_29).trans ?_
  refine (if_neg (by decide +kernel)).trans ?_
  refine (sv_aload_n jM76 c76_138 rfl rfl).trans ?_
  refine (sv_getf jM76 c76_139 rfl lf_0_30 (fg_11_6 _)).trans ?_
  refine (sv_iconst jM76 c76_142 rfl (v := 0) (by decide +kernel)).trans ?_
  refine (sv_aload_n jM76 c76_143 rfl rfl).trans ?_
  refine (sv_getf jM76 c76_144 rfl lf_0_30 (fg_23_6 _)).trans ?_
  refine (sv_iconst jM76 c76_147 rfl (v := 0) (by decide +kernel)).trans ?_
  refine (sv_bipush jM76 c76_148 rfl (v := 12) (by decide +kernel)).trans ?_
  refine (sv_cpy jM76 c76_150 rfl lm_0_85 (Nat.not_lt.mpr (Nat.le_of_ble_eq_true rfl)) wi_18 wi_30).trans ?_
  refine (if_neg (by decide +kernel)).trans ?_
  refine (sv_aload_n jM76 c76_153 rfl rfl).trans ?_
  refine (sv_getf jM76 c76_154 rfl lf_0_33 (fg_11_7 _)).trans ?_
  refine (sv_iconst jM76 c76_157 rfl (v := 0) (by decide +kernel)).trans ?_
  refine (sv_aload_n jM76 c76_158 rfl rfl).trans ?_
  refine (sv_getf jM76 c76_159 rfl lf_0_33 (fg_23_7 _)).trans ?_
  refine (sv_iconst jM76 c76_162 rfl (v := 0) (by decide +kernel)).trans ?_
  refine (sv_bipush jM76 c76_163 rfl (v := 12) (by decide +kernel)).trans ?_
  refine (sv_cpy jM76 c76_165 rfl lm_0_85 (Nat.not_lt.mpr (Nat.le_of_ble_eq_true rfl)) wi_19 wi_31).trans ?_
  refine (if_neg (by decide +kernel)).trans ?_
  refine (sv_aload_n jM76 c76_168 rfl rfl).trans ?_
  refine (sv_getf jM76 c76_169 rfl lf_0_36 (fg_11_8 _)).trans ?_
  refine (sv_iconst jM76 c76_172 rfl (v := 0) (by decide +kernel)).trans ?_
  refine (sv_aload_n jM76 c76_173 rfl rfl).trans ?_
  refine (sv_getf jM76 c76_174 rfl lf_0_36 (fg_23_8 _)).trans ?_
  refine (sv_iconst jM76 c76_177 rfl (v := 0) (by decide +kernel)).trans ?_
  refine (sv_bipush jM76 c76_178 rfl (v := 12) (by decide +kernel)).trans ?_
  refine (sv_cpy jM76 c76_180 rfl lm_0_85 (Nat.not_lt.mpr (Nat.le_of_ble_eq_true rfl)) wi_20 wi_32).trans ?_
  refine (if_neg (by decide +kernel)).trans ?_
  refine (sv_aload_n jM76 c76_183 rfl rfl).trans ?_
  refine (sv_getf jM76 c76_184 rfl lf_0_39 (fg_11_9 _)).trans ?_
  refine (sv_iconst jM76 c76_187 rfl (v := 0) (by decide +kernel)).trans ?_
  refine (sv_aload_n jM76 c76_188 rfl rfl).trans ?_
  refine (sv_getf jM76 c76_189 rfl lf_0_39 (fg_23_9 _)).trans ?_
  refine (sv_iconst jM76 c76_192 rfl (v := 0) (by decide +kernel)).trans ?_
  refine (sv_bipush jM76 c76_193 rfl (v := 48) (by decide +kernel)).trans ?_
  refine (sv_cpy jM76 c76_195 rfl lm_0_85 (Nat.not_lt.mpr (Nat.le_of_ble_eq_true rfl)) wi_21 wi_33).trans ?_
  refine (if_neg (by decide +kernel)).trans ?_
  refine (sv_aload_n jM76 c76_198 rfl rfl).trans ?_
  refine (sv_getf jM76 c76_199 rfl lf_0_42 (fg_11_10 _)).trans ?_
  refine (sv_iconst jM76 c76_202 rfl (v := 0) (by decide +kernel)).trans ?_
  refine (sv_aload_n jM76 c76_203 rfl rfl).trans ?_
  refine (sv_getf jM76 c76_204 rfl lf_0_42 (fg_23_10 _)).trans ?_
  refine (sv_iconst jM76 c76_207 rfl (v := 0) (by decide +kernel)).trans ?_
  refine (sv_iconst jM76 c76_208 rfl (v := 4) (by decide +kernel)).trans ?_
  refine (sv_cpy jM76 c76_209 rfl lm_0_85 (Nat.not_lt.mpr (Nat.le_of_ble_eq_true rfl)) wi_22 wi_34).trans ?_
  refine (if_neg (by decide +kernel)).trans ?_
  exact sv_vret jM76 c76_212 rfl rfl
set_option maxRecDepth 20000 in
set_option maxHeartbeats 4000000 in
theorem Batch_settle_23_6_in (x2 : Int32) (σ : jm_S) : jc 50 [(.ref 23), (.ref 6), (.int x2)] σ = jv 50 5 [some (.ref 23), some (.ref 6), some (.int x2), some (.int (σ 23 15))] [] σ := by
  refine (jc_of (ls1 := [some (.ref 23), some (.ref 6), some (.int x2), none]) ((jm_ini_of jM50).trans rfl)).trans ?_
  refine (sv_aload_n jM50 c50_0 rfl rfl).trans ?_
  refine (sv_getf jM50 c50_1 rfl lf_0_58 (fg_23_15 _)).trans ?_
  refine (sv_istore_n (ls1 := [some (.ref 23), some (.ref 6), some (.int x2), some (.int (σ 23 15))]) jM50 c50_4 rfl (Nat.lt_of_lt_of_eq (by decide +kernel : 3 < 4) rfl) rfl).trans ?_
  rfl
set_option maxRecDepth 20000 in
set_option maxHeartbeats 4000000 in
theorem Batch_settle_23_6_L5 (x2 : Int32) (x3 : Int32) (σ : jm_S) : jv 50 5 [some (.ref 23), some (.ref 6), some (.int x2), some (.int x3)] [] σ = (if x2 ≤ x3 then some (none, σ) else (if (σ 23 14) ≤ 0 then some (none, σ) else (if x3 < 0 ∨ 200 ≤ x3.toNatClampNeg then none else (if x3 < 0 ∨ 200 ≤ x3.toNatClampNeg then none else (if x3 < 0 ∨ 200 ≤ x3.toNatClampNeg then none else jbv (jc 41 [(.ref 23), (.int (σ 7 x3.toNatClampNeg)), (.int (σ 8 x3.toNatClampNeg)), (.int (σ 9 x3.toNatClampNeg))] σ) (fun τ1 => jv 50 5 [some (.ref 23), some (.ref 6), some (.int x2), some (.int (x3 + 1))] [] τ1)))))) := by
  refine (sv_iload_n jM50 c50_5 rfl rfl).trans ?_
  refine (sv_iload_n jM50 c50_6 rfl rfl).trans ?_
  refine (sv_icmp_ge jM50 c50_7 rfl (t := 45) (by decide +kernel)).trans ?_
  refine jif _ ?_ ?_
  ·
    exact sv_vret jM50 c50_45 rfl rfl
  ·
    refine (sv_aload_n jM50 c50_10 rfl rfl).trans ?_
    refine (sv_getf jM50 c50_11 rfl lf_0_55 (fg_23_14 _)).trans ?_
    refine (sv_if_le jM50 c50_14 rfl (t := 45) (by decide +kernel)).trans ?_
    refine jif _ ?_ ?_
    ·
      exact sv_vret jM50 c50_45 rfl rfl
    ·
      refine (sv_aload_n jM50 c50_17 rfl rfl).trans ?_
      refine (sv_aload_n jM50 c50_18 rfl rfl).trans ?_
      refine (sv_getf jM50 c50_19 rfl lf_0_91 (fg_6_0 _)).trans ?_
      refine (sv_iload_n jM50 c50_22 rfl rfl).trans ?_
      refine (sv_iald jM50 c50_23 rfl (ia_7 _)).trans ?_
      refine jif _ rfl ?_
      refine (sv_aload_n jM50 c50_24 rfl rfl).trans ?_
      refine (sv_getf jM50 c50_25 rfl lf_0_96 (fg_6_1 _)).trans ?_
      refine (sv_iload_n jM50 c50_28 rfl rfl).trans ?_
      refine (sv_iald jM50 c50_29 rfl (ia_8 _)).trans ?_
      refine jif _ rfl ?_
      refine (sv_aload_n jM50 c50_30 rfl rfl).trans ?_
      refine (sv_getf jM50 c50_31 rfl lf_0_99 (fg_6_2 _)).trans ?_
      refine (sv_iload_n jM50 c50_34 rfl rfl).trans ?_
      refine (sv_bald jM50 c50_35 rfl wi_9).trans ?_
      refine jif _ rfl ?_
      refine (sv_callvv (pl := 0) jM50 c50_36 rfl (jm_call_v (a := 23) (as := [(.int (σ 7 x3.toNatClampNeg)), (.int (σ 8 x3.toNatClampNeg)), (.int (σ 9 x3.toNatClampNeg))]) (rest := []) lm_0_103 rfl jM41 rfl rfl rfl rfl rfl) jM41 rfl rfl).trans ?_
      refine jbv_c (fun τ1 => ?_)
      refine (sv_iinc (ls1 := [some (.ref 23), some (.ref 6), some (.int x2), some (.int (x3 + 1))]) jM50 c50_39 rfl rfl (v := 1) (by decide +kernel) rfl).trans ?_
      refine (sv_goto jM50 c50_42 rfl (t := 5) (by decide +kernel)).trans ?_
      rfl
set_option maxRecDepth 20000 in
set_option maxHeartbeats 4000000 in
theorem Batch_takeOut_11_in (x1 : Int32) (σ : jm_S) : jc 78 [(.ref 11), (.int x1)] σ = (if x1 < 0 ∨ 12 ≤ x1.toNatClampNeg then none else some (none, (jm_up (jm_up (jm_up σ 18 x1.toNatClampNeg (3 : Int32)) 11 14 ((σ 11 14) - (1 : Int32))) 11 16 (1 : Int32)))) := by
  refine (jc_of (ls1 := [some (.ref 11), some (.int x1)]) ((jm_ini_of jM78).trans rfl)).trans ?_
  refine (sv_aload_n jM78 c78_0 rfl rfl).trans ?_
  refine (sv_getf jM78 c78_1 rfl lf_0_30 (fg_11_6 _)).trans ?_
  refine (sv_iload_n jM78 c78_4 rfl rfl).trans ?_
  refine (sv_iconst jM78 c78_5 rfl (v := 3) (by decide +kernel)).trans ?_
  refine (sv_iast jM78 c78_6 rfl wi_18).trans ?_
  refine jif _ rfl ?_
  refine (sv_aload_n jM78 c78_7 rfl rfl).trans ?_
  refine (sv_dup jM78 c78_8 rfl rfl).trans ?_
  refine (sv_getf jM78 c78_9 rfl lf_0_55 (fg_11_14 _)).trans ?_
  refine (sv_iconst jM78 c78_12 rfl (v := 1) (by decide +kernel)).trans ?_
  refine (sv_isub jM78 c78_13 rfl).trans ?_
  refine (sv_putf jM78 c78_14 rfl lf_0_55 (pf_11_14 _ _)).trans ?_
  refine (sv_aload_n jM78 c78_17 rfl rfl).trans ?_
  refine (sv_iconst jM78 c78_18 rfl (v := 1) (by decide +kernel)).trans ?_
  refine (sv_putf jM78 c78_19 rfl lf_0_61 (pf_11_16 _ _ (by decide +kernel))).trans ?_
  exact sv_vret jM78 c78_22 rfl rfl
set_option maxRecDepth 20000 in
set_option maxHeartbeats 4000000 in
theorem Batch_isOpenAt_11_in (x1 : Int32) (x2 : Int32) (σ : jm_S) : jc 52 [(.ref 11), (.int x1), (.int x2)] σ = (if x1 < 0 ∨ 12 ≤ x1.toNatClampNeg then none else (if ¬ (σ 18 x1.toNatClampNeg) = (1 : Int32) then some (some (.int (0 : Int32)), σ) else (if x1 < 0 ∨ 12 ≤ x1.toNatClampNeg then none else (if x2 ≤ (σ 19 x1.toNatClampNeg) then some (some (.int (0 : Int32)), σ) else some (some (.int (1 : Int32)), σ))))) := by
  refine (jc_of (ls1 := [some (.ref 11), some (.int x1), some (.int x2)]) ((jm_ini_of jM52).trans rfl)).trans ?_
  refine (sv_aload_n jM52 c52_0 rfl rfl).trans ?_
  refine (sv_getf jM52 c52_1 rfl lf_0_30 (fg_11_6 _)).trans ?_
  refine (sv_iload_n jM52 c52_4 rfl rfl).trans ?_
  refine (sv_iald jM52 c52_5 rfl (ia_18 _)).trans ?_
  refine jif _ rfl ?_
  refine (sv_iconst jM52 c52_6 rfl (v := 1) (by decide +kernel)).trans ?_
  refine (sv_icmp_ne jM52 c52_7 rfl (t := 24) (by decide +kernel)).trans ?_
  refine jif _ ?_ ?_
  ·
    refine (sv_iconst jM52 c52_24 rfl (v := 0) (by decide +kernel)).trans ?_
    exact sv_zret jM52 c52_25 rfl rfl (by decide +kernel)
  ·
    refine (sv_aload_n jM52 c52_10 rfl rfl).trans ?_
    refine (sv_getf jM52 c52_11 rfl lf_0_33 (fg_11_7 _)).trans ?_
    refine (sv_iload_n jM52 c52_14 rfl rfl).trans ?_
    refine (sv_iald jM52 c52_15 rfl (ia_19 _)).trans ?_
    refine jif _ rfl ?_
    refine (sv_iload_n jM52 c52_16 rfl rfl).trans ?_
    refine (sv_icmp_ge jM52 c52_17 rfl (t := 24) (by decide +kernel)).trans ?_
    refine jif _ ?_ ?_
    ·
      refine (sv_iconst jM52 c52_24 rfl (v := 0) (by decide +kernel)).trans ?_
      exact sv_zret jM52 c52_25 rfl rfl (by decide +kernel)
    ·
      refine (sv_iconst jM52 c52_20 rfl (v := 1) (by decide +kernel)).trans ?_
      refine (sv_goto jM52 c52_21 rfl (t := 25) (by decide +kernel)).trans ?_
      exact sv_zret jM52 c52_25 rfl rfl (by decide +kernel)
set_option maxRecDepth 20000 in
set_option maxHeartbeats 4000000 in
theorem Batch_wholeAt_11_in (x1 : Int32) (σ : jm_S) : jc 57 [(.ref 11), (.int x1)] σ = jv 57 4 [some (.ref 11), some (.int x1), some (.int (0 : Int32)), some (.int (0 : Int32))] [] σ := by
  refine (jc_of (ls1 := [some (.ref 11), some (.int x1), none, none]) ((jm_ini_of jM57).trans rfl)).trans ?_
  refine (sv_iconst jM57 c57_0 rfl (v := 0) (by decide +kernel)).trans ?_
  refine (sv_istore_n (ls1 := [some (.ref 11), some (.int x1), some (.int (0 : Int32)), none]) jM57 c57_1 rfl (Nat.lt_of_lt_of_eq (by decide +kernel : 2 < 4) rfl) rfl).trans ?_
  refine (sv_iconst jM57 c57_2 rfl (v := 0) (by decide +kernel)).trans ?_
  refine (sv_istore_n (ls1 := [some (.ref 11), some (.int x1), some (.int (0 : Int32)), some (.int (0 : Int32))]) jM57 c57_3 rfl (Nat.lt_of_lt_of_eq (by decide +kernel : 3 < 4) rfl) rfl).trans ?_
  rfl
set_option maxRecDepth 20000 in
set_option maxHeartbeats 4000000 in
theorem Batch_wholeAt_11_L4 (x1 : Int32) (x2 : Int32) (x3 : Int32) (σ : jm_S) : jv 57 4 [some (.ref 11), some (.int x1), some (.int x2), some (.int x3)] [] σ = (if (σ 11 11) ≤ x3 then jbi (jc 51 [(.ref 11), (.int x1)] σ) (fun r1 τ1 => jbi (jc 58 [(.ref 11), (.int x1)] τ1) (fun r2 τ2 => some (some (.int ((x2 - r1) - r2)), τ2))) else (if x3 < 0 ∨ 12 ≤ x3.toNatClampNeg then none else (if (σ 18 x3.toNatClampNeg) = (3 : Int32) then jv 57 4 [some (.ref 11), some (.int x1), some (.int (x2 + (0 : Int32))), some (.int (x3 + 1))] [] σ else jv 57 4 [some (.ref 11), some (.int x1), some (.int (x2 + (1 : Int32))), some (.int (x3 + 1))] [] σ))) := by
  refine (sv_iload_n jM57 c57_4 rfl rfl).trans ?_
  refine (sv_aload_n jM57 c57_5 rfl rfl).trans ?_
  refine (sv_getf jM57 c57_6 rfl lf_0_45 (fg_11_11 _)).trans ?_
  refine (sv_icmp_ge jM57 c57_9 rfl (t := 36) (by decide +kernel)).trans ?_
  refine jif _ ?_ ?_
  ·
    refine (sv_iload_n jM57 c57_36 rfl rfl).trans ?_
    refine (sv_aload_n jM57 c57_37 rfl rfl).trans ?_
    refine (sv_iload_n jM57 c57_38 rfl rfl).trans ?_
    refine (sv_callvi (pl := 0) jM57 c57_39 rfl (jm_call_v (a := 11) (as := [(.int x1)]) (rest := [(.int x2)]) lm_0_133 rfl jM51 rfl rfl rfl rfl rfl) jM51 rfl (Or.inl rfl)).trans ?_
    refine jbi_c (fun r1 τ1 => ?_)
    refine (sv_isub jM57 c57_42 rfl).trans ?_
    refine (sv_aload_n jM57 c57_43 rfl rfl).trans ?_
    refine (sv_iload_n jM57 c57_44 rfl rfl).trans ?_
    refine (sv_callvi (pl := 0) jM57 c57_45 rfl (jm_call_v (a := 11) (as := [(.int x1)]) (rest := [(.int (x2 - r1))]) lm_0_137 rfl jM58 rfl rfl rfl rfl rfl) jM58 rfl (Or.inl rfl)).trans ?_
    refine jbi_c (fun r2 τ2 => ?_)
    refine (sv_isub jM57 c57_48 rfl).trans ?_
    exact sv_iret jM57 c57_49 rfl rfl
  ·
    refine (sv_iload_n jM57 c57_12 rfl rfl).trans ?_
    refine (sv_aload_n jM57 c57_13 rfl rfl).trans ?_
    refine (sv_getf jM57 c57_14 rfl lf_0_30 (fg_11_6 _)).trans ?_
    refine (sv_iload_n jM57 c57_17 rfl rfl).trans ?_
    refine (sv_iald jM57 c57_18 rfl (ia_18 _)).trans ?_
    refine jif _ rfl ?_
    refine (sv_iconst jM57 c57_19 rfl (v := 3) (by decide +kernel)).trans ?_
    refine (sv_icmp_eq jM57 c57_20 rfl (t := 27) (by decide +kernel)).trans ?_
    refine jif _ ?_ ?_
    ·
      refine (sv_iconst jM57 c57_27 rfl (v := 0) (by decide +kernel)).trans ?_
      refine (sv_iadd jM57 c57_28 rfl).trans ?_
      refine (sv_istore_n (ls1 := [some (.ref 11), some (.int x1), some (.int (x2 + (0 : Int32))), some (.int x3)]) jM57 c57_29 rfl (Nat.lt_of_lt_of_eq (by decide +kernel : 2 < 4) rfl) rfl).trans ?_
      refine (sv_iinc (ls1 := [some (.ref 11), some (.int x1), some (.int (x2 + (0 : Int32))), some (.int (x3 + 1))]) jM57 c57_30 rfl rfl (v := 1) (by decide +kernel) rfl).trans ?_
      refine (sv_goto jM57 c57_33 rfl (t := 4) (by decide +kernel)).trans ?_
      rfl
    ·
      refine (sv_iconst jM57 c57_23 rfl (v := 1) (by decide +kernel)).trans ?_
      refine (sv_goto jM57 c57_24 rfl (t := 28) (by decide +kernel)).trans ?_
      refine (sv_iadd jM57 c57_28 rfl).trans ?_
      refine (sv_istore_n (ls1 := [some (.ref 11), some (.int x1), some (.int (x2 + (1 : Int32))), some (.int x3)]) jM57 c57_29 rfl (Nat.lt_of_lt_of_eq (by decide +kernel : 2 < 4) rfl) rfl).trans ?_
      refine (sv_iinc (ls1 := [some (.ref 11), some (.int x1), some (.int (x2 + (1 : Int32))), some (.int (x3 + 1))]) jM57 c57_30 rfl rfl (v := 1) (by decide +kernel) rfl).trans ?_
      refine (sv_goto jM57 c57_33 rfl (t := 4) (by decide +kernel)).trans ?_
      rfl
set_option maxRecDepth 20000 in
set_option maxHeartbeats 4000000 in
theorem Batch_burntAt_11_in (x1 : Int32) (σ : jm_S) : jc 58 [(.ref 11), (.int x1)] σ = jv 58 4 [some (.ref 11), some (.int x1), some (.int (0 : Int32)), some (.int (0 : Int32))] [] σ := by
  refine (jc_of (ls1 := [some (.ref 11), some (.int x1), none, none]) ((jm_ini_of jM58).trans rfl)).trans ?_
  refine (sv_iconst jM58 c58_0 rfl (v := 0) (by decide +kernel)).trans ?_
  refine (sv_istore_n (ls1 := [some (.ref 11), some (.int x1), some (.int (0 : Int32)), none]) jM58 c58_1 rfl (Nat.lt_of_lt_of_eq (by decide +kernel : 2 < 4) rfl) rfl).trans ?_
  refine (sv_iconst jM58 c58_2 rfl (v := 0) (by decide +kernel)).trans ?_
  refine (sv_istore_n (ls1 := [some (.ref 11), some (.int x1), some (.int (0 : Int32)), some (.int (0 : Int32))]) jM58 c58_3 rfl (Nat.lt_of_lt_of_eq (by decide +kernel : 3 < 4) rfl) rfl).trans ?_
  rfl
set_option maxRecDepth 20000 in
set_option maxHeartbeats 4000000 in
theorem Batch_burntAt_11_L4 (x1 : Int32) (x2 : Int32) (x3 : Int32) (σ : jm_S) : jv 58 4 [some (.ref 11), some (.int x1), some (.int x2), some (.int x3)] [] σ = (if (σ 11 11) ≤ x3 then some (some (.int x2), σ) else (if x3 < 0 ∨ 12 ≤ x3.toNatClampNeg then none else (if ¬ (σ 18 x3.toNatClampNeg) = (2 : Int32) then jv 58 4 [some (.ref 11), some (.int x1), some (.int (x2 + (0 : Int32))), some (.int (x3 + 1))] [] σ else (if x3 < 0 ∨ 12 ≤ x3.toNatClampNeg then none else (if x1 ≤ (σ 19 x3.toNatClampNeg) then jv 58 4 [some (.ref 11), some (.int x1), some (.int (x2 + (0 : Int32))), some (.int (x3 + 1))] [] σ else jv 58 4 [some (.ref 11), some (.int x1), some (.int (x2 + (1 : Int32))), some (.int (x3 + 1))] [] σ))))) := by
  refine (sv_iload_n jM58 c58_4 rfl rfl).trans ?_
  refine (sv_aload_n jM58 c58_5 rfl rfl).trans ?_
  refine (sv_getf jM58 c58_6 rfl lf_0_45 (fg_11_11 _)).trans ?_
  refine (sv_icmp_ge jM58 c58_9 rfl (t := 46) (by decide +kernel)).trans ?_
  refine jif _ ?_ ?_
  ·
    refine (sv_iload_n jM58 c58_46 rfl rfl).trans ?_
    exact sv_iret jM58 c58_47 rfl rfl
  ·
    refine (sv_iload_n jM58 c58_12 rfl rfl).trans ?_
    refine (sv_aload_n jM58 c58_13 rfl rfl).trans ?_
    refine (sv_getf jM58 c58_14 rfl lf_0_30 (fg_11_6 _)).trans ?_
    refine (sv_iload_n jM58 c58_17 rfl rfl).trans ?_
    refine (sv_iald jM58 c58_18 rfl (ia_18 _)).trans ?_
    refine jif _ rfl ?_
    refine (sv_iconst jM58 c58_19 rfl (v := 2) (by decide +kernel)).trans ?_
    refine (sv_icmp_ne jM58 c58_20 rfl (t := 37) (by decide +kernel)).trans ?_
    refine jif _ ?_ ?_
    ·
      refine (sv_iconst jM58 c58_37 rfl (v := 0) (by decide +kernel)).trans ?_
      refine (sv_iadd jM58 c58_38 rfl).trans ?_
      refine (sv_istore_n (ls1 := [some (.ref 11), some (.int x1), some (.int (x2 + (0 : Int32))), some (.int x3)]) jM58 c58_39 rfl (Nat.lt_of_lt_of_eq (by decide +kernel : 2 < 4) rfl) rfl).trans ?_
      refine (sv_iinc (ls1 := [some (.ref 11), some (.int x1), some (.int (x2 + (0 : Int32))), some (.int (x3 + 1))]) jM58 c58_40 rfl rfl (v := 1) (by decide +kernel) rfl).trans ?_
      refine (sv_goto jM58 c58_43 rfl (t := 4) (by decide +kernel)).trans ?_
      rfl
    ·
      refine (sv_aload_n jM58 c58_23 rfl rfl).trans ?_
      refine (sv_getf jM58 c58_24 rfl lf_0_33 (fg_11_7 _)).trans ?_
      refine (sv_iload_n jM58 c58_27 rfl rfl).trans ?_
      refine (sv_iald jM58 c58_28 rfl (ia_19 _)).trans ?_
      refine jif _ rfl ?_
      refine (sv_iload_n jM58 c58_29 rfl rfl).trans ?_
      refine (sv_icmp_ge jM58 c58_30 rfl (t := 37) (by decide +kernel)).trans ?_
      refine jif _ ?_ ?_
      ·
        refine (sv_iconst jM58 c58_37 rfl (v := 0) (by decide +kernel)).trans ?_
        refine (sv_iadd jM58 c58_38 rfl).trans ?_
        refine (sv_istore_n (ls1 := [some (.ref 11), some (.int x1), some (.int (x2 + (0 : Int32))), some (.int x3)]) jM58 c58_39 rfl (Nat.lt_of_lt_of_eq (by decide +kernel : 2 < 4) rfl) rfl).trans ?_
        refine (sv_iinc (ls1 := [some (.ref 11), some (.int x1), some (.int (x2 + (0 : Int32))), some (.int (x3 + 1))]) jM58 c58_40 rfl rfl (v := 1) (by decide +kernel) rfl).trans ?_
        refine (sv_goto jM58 c58_43 rfl (t := 4) (by decide +kernel)).trans ?_
        rfl
      ·
        refine (sv_iconst jM58 c58_33 rfl (v := 1) (by decide +kernel)).trans ?_
        refine (sv_goto jM58 c58_34 rfl (t := 38) (by decide +kernel)).trans ?_
        refine (sv_iadd jM58 c58_38 rfl).trans ?_
        refine (sv_istore_n (ls1 := [some (.ref 11), some (.int x1), some (.int (x2 + (1 : Int32))), some (.int x3)]) jM58 c58_39 rfl (Nat.lt_of_lt_of_eq (by decide +kernel : 2 < 4) rfl) rfl).trans ?_
        refine (sv_iinc (ls1 := [some (.ref 11), some (.int x1), some (.int (x2 + (1 : Int32))), some (.int (x3 + 1))]) jM58 c58_40 rfl rfl (v := 1) (by decide +kernel) rfl).trans ?_
        refine (sv_goto jM58 c58_43 rfl (t := 4) (by decide +kernel)).trans ?_
        rfl
set_option maxRecDepth 20000 in
set_option maxHeartbeats 4000000 in
theorem Batch_brownedAt_11_in (x1 : Int32) (x2 : Int32) (σ : jm_S) : jc 60 [(.ref 11), (.int x1), (.int x2)] σ = jv 60 5 [some (.ref 11), some (.int x1), some (.int x2), some (.int (0 : Int32)), some (.int (0 : Int32))] [] σ := by
  refine (jc_of (ls1 := [some (.ref 11), some (.int x1), some (.int x2), none, none]) ((jm_ini_of jM60).trans rfl)).trans ?_
  refine (sv_iconst jM60 c60_0 rfl (v := 0) (by decide +kernel)).trans ?_
  refine (sv_istore_n (ls1 := [some (.ref 11), some (.int x1), some (.int x2), some (.int (0 : Int32)), none]) jM60 c60_1 rfl (Nat.lt_of_lt_of_eq (by decide +kernel : 3 < 5) rfl) rfl).trans ?_
  refine (sv_iconst jM60 c60_2 rfl (v := 0) (by decide +kernel)).trans ?_
  refine (sv_istore (ls1 := [some (.ref 11), some (.int x1), some (.int x2), some (.int (0 : Int32)), some (.int (0 : Int32))]) jM60 c60_3 rfl (Nat.lt_of_lt_of_eq (by decide +kernel : 4 < 5) rfl) rfl).trans ?_
  rfl
set_option maxRecDepth 20000 in
set_option maxHeartbeats 4000000 in
theorem Batch_brownedAt_11_L5 (x1 : Int32) (x2 : Int32) (x3 : Int32) (x4 : Int32) (σ : jm_S) : jv 60 5 [some (.ref 11), some (.int x1), some (.int x2), some (.int x3), some (.int x4)] [] σ = (if (σ 11 11) ≤ x4 then some (some (.int x3), σ) else jbi (jc 52 [(.ref 11), (.int x4), (.int x1)] σ) (fun r1 τ1 => (if r1 = 0 then jv 60 5 [some (.ref 11), some (.int x1), some (.int x2), some (.int (x3 + (0 : Int32))), some (.int (x4 + 1))] [] τ1 else (if x4 < 0 ∨ 12 ≤ x4.toNatClampNeg then none else (if (x1 - (τ1 19 x4.toNatClampNeg)) ≤ x2 then jv 60 5 [some (.ref 11), some (.int x1), some (.int x2), some (.int (x3 + (0 : Int32))), some (.int (x4 + 1))] [] τ1 else jv 60 5 [some (.ref 11), some (.int x1), some (.int x2), some (.int (x3 + (1 : Int32))), some (.int (x4 + 1))] [] τ1))))) := by
  refine (sv_iload jM60 c60_5 rfl rfl).trans ?_
  refine (sv_aload_n jM60 c60_7 rfl rfl).trans ?_
  refine (sv_getf jM60 c60_8 rfl lf_0_45 (fg_11_11 _)).trans ?_
  refine (sv_icmp_ge jM60 c60_11 rfl (t := 51) (by decide +kernel)).trans ?_
  refine jif _ ?_ ?_
  ·
    refine (sv_iload_n jM60 c60_51 rfl rfl).trans ?_
    exact sv_iret jM60 c60_52 rfl rfl
  ·
    refine (sv_iload_n jM60 c60_14 rfl rfl).trans ?_
    refine (sv_aload_n jM60 c60_15 rfl rfl).trans ?_
    refine (sv_iload jM60 c60_16 rfl rfl).trans ?_
    refine (sv_iload_n jM60 c60_18 rfl rfl).trans ?_
    refine (sv_callvi (pl := 0) jM60 c60_19 rfl (jm_call_v (a := 11) (as := [(.int x4), (.int x1)]) (rest := [(.int x3)]) lm_0_129 rfl jM52 rfl rfl rfl rfl rfl) jM52 rfl (Or.inr rfl)).trans ?_
    refine jbi_c (fun r1 τ1 => ?_)
    refine (sv_if_eq jM60 c60_22 rfl (t := 42) (by decide +kernel)).trans ?_
    refine jif _ ?_ ?_
    ·
      refine (sv_iconst jM60 c60_42 rfl (v := 0) (by decide +kernel)).trans ?_
      refine (sv_iadd jM60 c60_43 rfl).trans ?_
      refine (sv_istore_n (ls1 := [some (.ref 11), some (.int x1), some (.int x2), some (.int (x3 + (0 : Int32))), some (.int x4)]) jM60 c60_44 rfl (Nat.lt_of_lt_of_eq (by decide +kernel : 3 < 5) rfl) rfl).trans ?_
      refine (sv_iinc (ls1 := [some (.ref 11), some (.int x1), some (.int x2), some (.int (x3 + (0 : Int32))), some (.int (x4 + 1))]) jM60 c60_45 rfl rfl (v := 1) (by decide +kernel) rfl).trans ?_
      refine (sv_goto jM60 c60_48 rfl (t := 5) (by decide +kernel)).trans ?_
      rfl
    ·
      refine (sv_iload_n jM60 c60_25 rfl rfl).trans ?_
      refine (sv_aload_n jM60 c60_26 rfl rfl).trans ?_
      refine (sv_getf jM60 c60_27 rfl lf_0_33 (fg_11_7 _)).trans ?_
      refine (sv_iload jM60 c60_30 rfl rfl).trans ?_
      refine (sv_iald jM60 c60_32 rfl (ia_19 _)).trans ?_
      refine jif _ rfl ?_
      refine (sv_isub jM60 c60_33 rfl).trans ?_
      refine (sv_iload_n jM60 c60_34 rfl rfl).trans ?_
      refine (sv_icmp_le jM60 c60_35 rfl (t := 42) (by decide +kernel)).trans ?_
      refine jif _ ?_ ?_
      ·
        refine (sv_iconst jM60 c60_42 rfl (v := 0) (by decide +kernel)).trans ?_
        refine (sv_iadd jM60 c60_43 rfl).trans ?_
        refine (sv_istore_n (ls1 := [some (.ref 11), some (.int x1), some (.int x2), some (.int (x3 + (0 : Int32))), some (.int x4)]) jM60 c60_44 rfl (Nat.lt_of_lt_of_eq (by decide +kernel : 3 < 5) rfl) rfl).trans ?_
        refine (sv_iinc (ls1 := [some (.ref 11), some (.int x1), some (.int x2), some (.int (x3 + (0 : Int32))), some (.int (x4 + 1))]) jM60 c60_45 rfl rfl (v := 1) (by decide +kernel) rfl).trans ?_
        refine (sv_goto jM60 c60_48 rfl (t := 5) (by decide +kernel)).trans ?_
        rfl
      ·
        refine (sv_iconst jM60 c60_38 rfl (v := 1) (by decide +kernel)).trans ?_
        refine (sv_goto jM60 c60_39 rfl (t := 43) (by decide +kernel)).trans ?_
        refine (sv_iadd jM60 c60_43 rfl).trans ?_
        refine (sv_istore_n (ls1 := [some (.ref 11), some (.int x1), some (.int x2), some (.int (x3 + (1 : Int32))), some (.int x4)]) jM60 c60_44 rfl (Nat.lt_of_lt_of_eq (by decide +kernel : 3 < 5) rfl) rfl).trans ?_
        refine (sv_iinc (ls1 := [some (.ref 11), some (.int x1), some (.int x2), some (.int (x3 + (1 : Int32))), some (.int (x4 + 1))]) jM60 c60_45 rfl rfl (v := 1) (by decide +kernel) rfl).trans ?_
        refine (sv_goto jM60 c60_48 rfl (t := 5) (by decide +kernel)).trans ?_
        rfl
set_option maxRecDepth 20000 in
set_option maxHeartbeats 4000000 in
theorem Batch_settleEvenly_11_in (x1 : Int32) (x2 : Int32) (σ : jm_S) : jc 66 [(.ref 11), (.int x1), (.int x2)] σ = jv 66 5 [some (.ref 11), some (.int x1), some (.int x2), some (.int (σ 11 15))] [] σ := by
  refine (jc_of (ls1 := [some (.ref 11), some (.int x1), some (.int x2), none]) ((jm_ini_of jM66).trans rfl)).trans ?_
  refine (sv_aload_n jM66 c66_0 rfl rfl).trans ?_
  refine (sv_getf jM66 c66_1 rfl lf_0_58 (fg_11_15 _)).trans ?_
  refine (sv_istore_n (ls1 := [some (.ref 11), some (.int x1), some (.int x2), some (.int (σ 11 15))]) jM66 c66_4 rfl (Nat.lt_of_lt_of_eq (by decide +kernel : 3 < 4) rfl) rfl).trans ?_
  rfl
set_option maxRecDepth 20000 in
set_option maxHeartbeats 4000000 in
theorem Batch_settleEvenly_11_L5 (x1 : Int32) (x2 : Int32) (x3 : Int32) (σ : jm_S) : jv 66 5 [some (.ref 11), some (.int x1), some (.int x2), some (.int x3)] [] σ = (if x2 ≤ x3 then some (none, σ) else (if (σ 11 14) ≤ 0 then some (none, σ) else jbv (jc 41 [(.ref 11), (.int x1), (.int (0 : Int32)), (.int (0 : Int32))] σ) (fun τ1 => jv 66 5 [some (.ref 11), some (.int x1), some (.int x2), some (.int (x3 + 1))] [] τ1))) := by
  refine (sv_iload_n jM66 c66_5 rfl rfl).trans ?_
  refine (sv_iload_n jM66 c66_6 rfl rfl).trans ?_
  refine (sv_icmp_ge jM66 c66_7 rfl (t := 30) (by decide +kernel)).trans ?_
  refine jif _ ?_ ?_
  ·
    exact sv_vret jM66 c66_30 rfl rfl
  ·
    refine (sv_aload_n jM66 c66_10 rfl rfl).trans ?_
    refine (sv_getf jM66 c66_11 rfl lf_0_55 (fg_11_14 _)).trans ?_
    refine (sv_if_le jM66 c66_14 rfl (t := 30) (by decide +kernel)).trans ?_
    refine jif _ ?_ ?_
    ·
      exact sv_vret jM66 c66_30 rfl rfl
    ·
      refine (sv_aload_n jM66 c66_17 rfl rfl).trans ?_
      refine (sv_iload_n jM66 c66_18 rfl rfl).trans ?_
      refine (sv_iconst jM66 c66_19 rfl (v := 0) (by decide +kernel)).trans ?_
      refine (sv_iconst jM66 c66_20 rfl (v := 0) (by decide +kernel)).trans ?_
      refine (sv_callvv (pl := 0) jM66 c66_21 rfl (jm_call_v (a := 11) (as := [(.int x1), (.int (0 : Int32)), (.int (0 : Int32))]) (rest := []) lm_0_103 rfl jM41 rfl rfl rfl rfl rfl) jM41 rfl rfl).trans ?_
      refine jbv_c (fun τ1 => ?_)
      refine (sv_iinc (ls1 := [some (.ref 11), some (.int x1), some (.int x2), some (.int (x3 + 1))]) jM66 c66_24 rfl rfl (v := 1) (by decide +kernel) rfl).trans ?_
      refine (sv_goto jM66 c66_27 rfl (t := 5) (by decide +kernel)).trans ?_
      rfl
set_option maxRecDepth 20000 in
set_option maxHeartbeats 4000000 in
theorem Batch_putOnTop_11_in (x1 : Int32) (x2 : Int32) (σ : jm_S) : jc 39 [(.ref 11), (.int x1), (.int x2)] σ = (if x2 < 0 ∨ 4 ≤ x2.toNatClampNeg then none else (if ((x2 * (12 : Int32)) + (σ 22 x2.toNatClampNeg)) < 0 ∨ 48 ≤ ((x2 * (12 : Int32)) + (σ 22 x2.toNatClampNeg)).toNatClampNeg then none else (if x2 < 0 ∨ 4 ≤ x2.toNatClampNeg then none else (if x2 < 0 ∨ 4 ≤ x2.toNatClampNeg then none else some (none, (jm_up (jm_up σ 21 ((x2 * (12 : Int32)) + (σ 22 x2.toNatClampNeg)).toNatClampNeg x1) 22 x2.toNatClampNeg ((σ 22 x2.toNatClampNeg) + (1 : Int32)))))))) := by
  refine (jc_of (ls1 := [some (.ref 11), some (.int x1), some (.int x2)]) ((jm_ini_of jM39).trans rfl)).trans ?_
  refine (sv_aload_n jM39 c39_0 rfl rfl).trans ?_
  refine (sv_getf jM39 c39_1 rfl lf_0_39 (fg_11_9 _)).trans ?_
  refine (sv_iload_n jM39 c39_4 rfl rfl).trans ?_
  refine (sv_bipush jM39 c39_5 rfl (v := 12) (by decide +kernel)).trans ?_
  refine (sv_imul jM39 c39_7 rfl).trans ?_
  refine (sv_aload_n jM39 c39_8 rfl rfl).trans ?_
  refine (sv_getf jM39 c39_9 rfl lf_0_42 (fg_11_10 _)).trans ?_
  refine (sv_iload_n jM39 c39_12 rfl rfl).trans ?_
  refine (sv_iald jM39 c39_13 rfl (ia_22 _)).trans ?_
  refine jif _ rfl ?_
  refine (sv_iadd jM39 c39_14 rfl).trans ?_
  refine (sv_iload_n jM39 c39_15 rfl rfl).trans ?_
  refine (sv_iast jM39 c39_16 rfl wi_21).trans ?_
  refine jif _ rfl ?_
  refine (sv_aload_n jM39 c39_17 rfl rfl).trans ?_
  refine (sv_getf jM39 c39_18 rfl lf_0_42 (fg_11_10 _)).trans ?_
  refine (sv_iload_n jM39 c39_21 rfl rfl).trans ?_
  refine (sv_dup2 jM39 c39_22 rfl ⟨rfl, rfl⟩).trans ?_
  refine (sv_iald jM39 c39_23 rfl (ia_22 _)).trans ?_
  refine jif _ rfl ?_
  refine (sv_iconst jM39 c39_24 rfl (v := 1) (by decide +kernel)).trans ?_
  refine (sv_iadd jM39 c39_25 rfl).trans ?_
  refine (sv_iast jM39 c39_26 rfl wi_22).trans ?_
  refine jif _ rfl ?_
  exact sv_vret jM39 c39_27 rfl rfl
set_option maxRecDepth 20000 in
set_option maxHeartbeats 4000000 in
theorem Batch_strain_23_in (x1 : Int32) (σ : jm_S) : jc 45 [(.ref 23), (.int x1)] σ = (if x1 < 0 ∨ 12 ≤ x1.toNatClampNeg then none else (if x1 < 0 ∨ 12 ≤ x1.toNatClampNeg then none else (if (σ 27 x1.toNatClampNeg) ≤ (100 : Int32) then (if x1 < 0 ∨ 12 ≤ x1.toNatClampNeg then none else (if x1 < 0 ∨ 12 ≤ x1.toNatClampNeg then none else (if x1 < 0 ∨ 12 ≤ x1.toNatClampNeg then none else (if (((jm_up σ 29 x1.toNatClampNeg (0 : Int32)) 29 x1.toNatClampNeg) - (σ 23 13)) < ((σ 23 12) * (if (1 : Int32) < ((σ 24 x1.toNatClampNeg) - ((σ 28 x1.toNatClampNeg) / (20 : Int32))) then ((σ 24 x1.toNatClampNeg) - ((σ 28 x1.toNatClampNeg) / (20 : Int32))) else (1 : Int32))) then (if x1 < 0 ∨ 12 ≤ x1.toNatClampNeg then none else (if (σ 27 x1.toNatClampNeg) ≤ (250 : Int32) then (if x1 < 0 ∨ 12 ≤ x1.toNatClampNeg then none else (if x1 < 0 ∨ 12 ≤ x1.toNatClampNeg then none else (if x1 < 0 ∨ 12 ≤ x1.toNatClampNeg then none else some (none, (jm_up (jm_up σ 29 x1.toNatClampNeg (0 : Int32)) 28 x1.toNatClampNeg (if (0 : Int32) < ((σ 28 x1.toNatClampNeg) - ((((jm_up σ 29 x1.toNatClampNeg (0 : Int32)) 29 x1.toNatClampNeg) * (σ 26 x1.toNatClampNeg)) / (100 : Int32))) then ((σ 28 x1.toNatClampNeg) - ((((jm_up σ 29 x1.toNatClampNeg (0 : Int32)) 29 x1.toNatClampNeg) * (σ 26 x1.toNatClampNeg)) / (100 : Int32))) else (0 : Int32))))))) else jbv (jc 46 [(.ref 23), (.int x1), (.int (2 : Int32))] (jm_up σ 29 x1.toNatClampNeg (0 : Int32))) (fun τ1 => some (none, τ1)))) else jbv (jc 46 [(.ref 23), (.int x1), (.int (1 : Int32))] (jm_up σ 29 x1.toNatClampNeg (0 : Int32))) (fun τ2 => (if x1 < 0 ∨ 12 ≤ x1.toNatClampNeg then none else (if x1 < 0 ∨ 12 ≤ x1.toNatClampNeg then none else some (none, (jm_up (jm_up τ2 32 x1.toNatClampNeg (((τ2 25 x1.toNatClampNeg) * (((jm_up σ 29 x1.toNatClampNeg (0 : Int32)) 29 x1.toNatClampNeg) - (σ 23 13))) / (10 : Int32))) 23 16 (1 : Int32)))))))))) else (if x1 < 0 ∨ 12 ≤ x1.toNatClampNeg then none else (if x1 < 0 ∨ 12 ≤ x1.toNatClampNeg then none else (if x1 < 0 ∨ 12 ≤ x1.toNatClampNeg then none else (if x1 < 0 ∨ 12 ≤ x1.toNatClampNeg then none else (if (((jm_up σ 29 x1.toNatClampNeg ((((σ 27 x1.toNatClampNeg) - (100 : Int32)) * (σ 28 x1.toNatClampNeg)) / (40 : Int32))) 29 x1.toNatClampNeg) - (σ 23 13)) < ((σ 23 12) * (if (1 : Int32) < ((σ 24 x1.toNatClampNeg) - ((σ 28 x1.toNatClampNeg) / (20 : Int32))) then ((σ 24 x1.toNatClampNeg) - ((σ 28 x1.toNatClampNeg) / (20 : Int32))) else (1 : Int32))) then (if x1 < 0 ∨ 12 ≤ x1.toNatClampNeg then none else (if (σ 27 x1.toNatClampNeg) ≤ (250 : Int32) then (if x1 < 0 ∨ 12 ≤ x1.toNatClampNeg then none else (if x1 < 0 ∨ 12 ≤ x1.toNatClampNeg then none else (if x1 < 0 ∨ 12 ≤ x1.toNatClampNeg then none else some (none, (jm_up (jm_up σ 29 x1.toNatClampNeg ((((σ 27 x1.toNatClampNeg) - (100 : Int32)) * (σ 28 x1.toNatClampNeg)) / (40 : Int32))) 28 x1.toNatClampNeg (if (0 : Int32) < ((σ 28 x1.toNatClampNeg) - ((((jm_up σ 29 x1.toNatClampNeg ((((σ 27 x1.toNatClampNeg) - (100 : Int32)) * (σ 28 x1.toNatClampNeg)) / (40 : Int32))) 29 x1.toNatClampNeg) * (σ 26 x1.toNatClampNeg)) / (100 : Int32))) then ((σ 28 x1.toNatClampNeg) - ((((jm_up σ 29 x1.toNatClampNeg ((((σ 27 x1.toNatClampNeg) - (100 : Int32)) * (σ 28 x1.toNatClampNeg)) / (40 : Int32))) 29 x1.toNatClampNeg) * (σ 26 x1.toNatClampNeg)) / (100 : Int32))) else (0 : Int32))))))) else jbv (jc 46 [(.ref 23), (.int x1), (.int (2 : Int32))] (jm_up σ 29 x1.toNatClampNeg ((((σ 27 x1.toNatClampNeg) - (100 : Int32)) * (σ 28 x1.toNatClampNeg)) / (40 : Int32)))) (fun τ3 => some (none, τ3)))) else jbv (jc 46 [(.ref 23), (.int x1), (.int (1 : Int32))] (jm_up σ 29 x1.toNatClampNeg ((((σ 27 x1.toNatClampNeg) - (100 : Int32)) * (σ 28 x1.toNatClampNeg)) / (40 : Int32)))) (fun τ4 => (if x1 < 0 ∨ 12 ≤ x1.toNatClampNeg then none else (if x1 < 0 ∨ 12 ≤ x1.toNatClampNeg then none else some (none, (jm_up (jm_up τ4 32 x1.toNatClampNeg (((τ4 25 x1.toNatClampNeg) * (((jm_up σ 29 x1.toNatClampNeg ((((σ 27 x1.toNatClampNeg) - (100 : Int32)) * (σ 28 x1.toNatClampNeg)) / (40 : Int32))) 29 x1.toNatClampNeg) - (σ 23 13))) / (10 : Int32))) 23 16 (1 : Int32)))))))))))))) := by
  refine (jc_of (ls1 := [some (.ref 23), some (.int x1), none, none, none]) ((jm_ini_of jM45).trans rfl)).trans ?_
  refine (sv_aload_n jM45 c45_0 rfl rfl).trans ?_
  refine (sv_getf jM45 c45_1 rfl lf_0_24 (fg_23_4 _)).trans ?_
  refine (sv_iload_n jM45 c45_4 rfl rfl).trans ?_
  refine (sv_iald jM45 c45_5 rfl (ia_28 _)).trans ?_
  refine jif _ rfl ?_
  refine (sv_istore_n (ls1 := [some (.ref 23), some (.int x1), some (.int (σ 28 x1.toNatClampNeg)), none, none]) jM45 c45_6 rfl (Nat.lt_of_lt_of_eq (by decide +kernel : 2 < 5) rfl) rfl).trans ?_
  refine (sv_aload_n jM45 c45_7 rfl rfl).trans ?_
  refine (sv_getf jM45 c45_8 rfl lf_0_27 (fg_23_5 _)).trans ?_
  refine (sv_iload_n jM45 c45_11 rfl rfl).trans ?_
  refine (sv_aload_n jM45 c45_12 rfl rfl).trans ?_
  refine (sv_getf jM45 c45_13 rfl lf_0_21 (fg_23_3 _)).trans ?_
  refine (sv_iload_n jM45 c45_16 rfl rfl).trans ?_
  refine (sv_iald jM45 c45_17 rfl (ia_27 _)).trans ?_
  refine jif _ rfl ?_
  refine (sv_bipush jM45 c45_18 rfl (v := 100) (by decide +kernel)).trans ?_
  refine (sv_icmp_le jM45 c45_20 rfl (t := 40) (by decide +kernel)).trans ?_
  refine jif _ ?_ ?_
  ·
    refine (sv_iconst jM45 c45_40 rfl (v := 0) (by decide +kernel)).trans ?_
    refine (sv_iast jM45 c45_41 rfl wi_29).trans ?_
    refine jif _ rfl ?_
    refine (sv_iconst jM45 c45_42 rfl (v := 1) (by decide +kernel)).trans ?_
    refine (sv_aload_n jM45 c45_43 rfl rfl).trans ?_
    refine (sv_getf jM45 c45_44 rfl lf_0_9 (fg_23_0 _)).trans ?_
    refine (sv_iload_n jM45 c45_47 rfl rfl).trans ?_
    refine (sv_iald jM45 c45_48 rfl (ia_24 _)).trans ?_
    refine jif _ rfl ?_
    refine (sv_iload_n jM45 c45_49 rfl rfl).trans ?_
    refine (sv_bipush jM45 c45_50 rfl (v := 20) (by decide +kernel)).trans ?_
    refine (sv_idiv jM45 c45_52 rfl (by decide +kernel)).trans ?_
    refine (sv_isub jM45 c45_53 rfl).trans ?_
    refine (sv_max jM45 c45_54 rfl lm_0_121 (Nat.not_lt.mpr (Nat.le_of_ble_eq_true rfl))).trans ?_
    refine (sv_istore_n (ls1 := [some (.ref 23), some (.int x1), some (.int (σ 28 x1.toNatClampNeg)), some (.int (if (1 : Int32) < ((σ 24 x1.toNatClampNeg) - ((σ 28 x1.toNatClampNeg) / (20 : Int32))) then ((σ 24 x1.toNatClampNeg) - ((σ 28 x1.toNatClampNeg) / (20 : Int32))) else (1 : Int32))), none]) jM45 c45_57 rfl (Nat.lt_of_lt_of_eq (by decide +kernel : 3 < 5) rfl) rfl).trans ?_
    refine (sv_aload_n jM45 c45_58 rfl rfl).trans ?_
    refine (sv_getf jM45 c45_59 rfl lf_0_27 (fg_23_5 _)).trans ?_
    refine (sv_iload_n jM45 c45_62 rfl rfl).trans ?_
    refine (sv_iald jM45 c45_63 rfl (ia_29 _)).trans ?_
    refine jif _ rfl ?_
    refine (sv_aload_n jM45 c45_64 rfl rfl).trans ?_
    refine (sv_getf jM45 c45_65 rfl lf_0_52 (fg_23_13 _)).trans ?_
    refine (sv_isub jM45 c45_68 rfl).trans ?_
    refine (sv_istore (ls1 := [some (.ref 23), some (.int x1), some (.int (σ 28 x1.toNatClampNeg)), some (.int (if (1 : Int32) < ((σ 24 x1.toNatClampNeg) - ((σ 28 x1.toNatClampNeg) / (20 : Int32))) then ((σ 24 x1.toNatClampNeg) - ((σ 28 x1.toNatClampNeg) / (20 : Int32))) else (1 : Int32))), some (.int (((jm_up σ 29 x1.toNatClampNeg (0 : Int32)) 29 x1.toNatClampNeg) - (σ 23 13)))]) jM45 c45_69 rfl (Nat.lt_of_lt_of_eq (by decide +kernel : 4 < 5) rfl) rfl).trans ?_
    refine (sv_iload jM45 c45_71 rfl rfl).trans ?_
    refine (sv_aload_n jM45 c45_73 rfl rfl).trans ?_
    refine (sv_getf jM45 c45_74 rfl lf_0_49 (fg_23_12 _)).trans ?_
    refine (sv_iload_n jM45 c45_77 rfl rfl).trans ?_
    refine (sv_imul jM45 c45_78 rfl).trans ?_
    refine (sv_icmp_lt jM45 c45_79 rfl (t := 114) (by decide +kernel)).trans ?_
    refine jif _ ?_ ?_
    ·
      refine (sv_aload_n jM45 c45_114 rfl rfl).trans ?_
      refine (sv_getf jM45 c45_115 rfl lf_0_21 (fg_23_3 _)).trans ?_
      refine (sv_iload_n jM45 c45_118 rfl rfl).trans ?_
      refine (sv_iald jM45 c45_119 rfl (ia_27 _)).trans ?_
      refine jif _ rfl ?_
      refine (sv_sipush jM45 c45_120 rfl (v := 250) (by decide +kernel)).trans ?_
      refine (sv_icmp_le jM45 c45_123 rfl (t := 135) (by decide +kernel)).trans ?_
      refine jif _ ?_ ?_
      ·
        refine (sv_aload_n jM45 c45_135 rfl rfl).trans ?_
        refine (sv_getf jM45 c45_136 rfl lf_0_24 (fg_23_4 _)).trans ?_
        refine (sv_iload_n jM45 c45_139 rfl rfl).trans ?_
        refine (sv_iconst jM45 c45_140 rfl (v := 0) (by decide +kernel)).trans ?_
        refine (sv_iload_n jM45 c45_141 rfl rfl).trans ?_
        refine (sv_aload_n jM45 c45_142 rfl rfl).trans ?_
        refine (sv_getf jM45 c45_143 rfl lf_0_27 (fg_23_5 _)).trans ?_
        refine (sv_iload_n jM45 c45_146 rfl rfl).trans ?_
        refine (sv_iald jM45 c45_147 rfl (ia_29 _)).trans ?_
        refine jif _ rfl ?_
        refine (sv_aload_n jM45 c45_148 rfl rfl).trans ?_
        refine (sv_getf jM45 c45_149 rfl lf_0_18 (fg_23_2 _)).trans ?_
        refine (sv_iload_n jM45 c45_152 rfl rfl).trans ?_
        refine (sv_iald jM45 c45_153 rfl (ia_26 _)).trans ?_
        refine jif _ rfl ?_
        refine (sv_imul jM45 c45_154 rfl).trans ?_
        refine (sv_bipush jM45 c45_155 rfl (v := 100) (by decide +kernel)).trans ?_
        refine (sv_idiv jM45 c45_157 rfl (by decide +kernel)).trans ?_
        refine (sv_isub jM45 c45_158 rfl).trans ?_
        refine (sv_max jM45 c45_159 rfl lm_0_121 (Nat.not_lt.mpr (Nat.le_of_ble_eq_true rfl))).trans ?_
        refine (sv_iast jM45 c45_162 rfl wi_28).trans ?_
        refine jif _ rfl ?_
        exact sv_vret jM45 c45_163 rfl rfl
      ·
        refine (sv_aload_n jM45 c45_126 rfl rfl).trans ?_
        refine (sv_iload_n jM45 c45_127 rfl rfl).trans ?_
        refine (sv_iconst jM45 c45_128 rfl (v := 2) (by decide +kernel)).trans ?_
        refine (sv_callvv (pl := 0) jM45 c45_129 rfl (jm_call_v (a := 23) (as := [(.int x1), (.int (2 : Int32))]) (rest := []) lm_0_126 rfl jM46 rfl rfl rfl rfl rfl) jM46 rfl rfl).trans ?_
        refine jbv_c (fun τ1 => ?_)
        refine (sv_goto jM45 c45_132 rfl (t := 163) (by decide +kernel)).trans ?_
        exact sv_vret jM45 c45_163 rfl rfl
    ·
      refine (sv_aload_n jM45 c45_82 rfl rfl).trans ?_
      refine (sv_iload_n jM45 c45_83 rfl rfl).trans ?_
      refine (sv_iconst jM45 c45_84 rfl (v := 1) (by decide +kernel)).trans ?_
      refine (sv_callvv (pl := 0) jM45 c45_85 rfl (jm_call_v (a := 23) (as := [(.int x1), (.int (1 : Int32))]) (rest := []) lm_0_126 rfl jM46 rfl rfl rfl rfl rfl) jM46 rfl rfl).trans ?_
      refine jbv_c (fun τ2 => ?_)
      refine (sv_aload_n jM45 c45_88 rfl rfl).trans ?_
      refine (sv_getf jM45 c45_89 rfl lf_0_36 (fg_23_8 _)).trans ?_
      refine (sv_iload_n jM45 c45_92 rfl rfl).trans ?_
      refine (sv_aload_n jM45 c45_93 rfl rfl).trans ?_
      refine (sv_getf jM45 c45_94 rfl lf_0_15 (fg_23_1 _)).trans ?_
      refine (sv_iload_n jM45 c45_97 rfl rfl).trans ?_
      refine (sv_iald jM45 c45_98 rfl (ia_25 _)).trans ?_
      refine jif _ rfl ?_
      refine (sv_iload jM45 c45_99 rfl rfl).trans ?_
      refine (sv_imul jM45 c45_101 rfl).trans ?_
      refine (sv_bipush jM45 c45_102 rfl (v := 10) (by decide +kernel)).trans ?_
      refine (sv_idiv jM45 c45_104 rfl (by decide +kernel)).trans ?_
      refine (sv_iast jM45 c45_105 rfl wi_32).trans ?_
      refine jif _ rfl ?_
      refine (sv_aload_n jM45 c45_106 rfl rfl).trans ?_
      refine (sv_iconst jM45 c45_107 rfl (v := 1) (by decide +kernel)).trans ?_
      refine (sv_putf jM45 c45_108 rfl lf_0_61 (pf_23_16 _ _ (by decide +kernel))).trans ?_
      refine (sv_goto jM45 c45_111 rfl (t := 163) (by decide +kernel)).trans ?_
      exact sv_vret jM45 c45_163 rfl rfl
  ·
    refine (sv_aload_n jM45 c45_23 rfl rfl).trans ?_
    refine (sv_getf jM45 c45_24 rfl lf_0_21 (fg_23_3 _)).trans ?_
    refine (sv_iload_n jM45 c45_27 rfl rfl).trans ?_
    refine (sv_iald jM45 c45_28 rfl (ia_27 _)).trans ?_
    refine jif _ rfl ?_
    refine (sv_bipush jM45 c45_29 rfl (v := 100) (by decide +kernel)).trans ?_
    refine (sv_isub jM45 c45_31 rfl).trans ?_
    refine (sv_iload_n jM45 c45_32 rfl rfl).trans ?_
    refine (sv_imul jM45 c45_33 rfl).trans ?_
    refine (sv_bipush jM45 c45_34 rfl (v := 40) (by decide +kernel)).trans ?_
    refine (sv_idiv jM45 c45_36 rfl (by decide +kernel)).trans ?_
    refine (sv_goto jM45 c45_37 rfl (t := 41) (by decide +kernel)).trans ?_
    refine (sv_iast jM45 c45_41 rfl wi_29).trans ?_
    refine jif _ rfl ?_
    refine (sv_iconst jM45 c45_42 rfl (v := 1) (by decide +kernel)).trans ?_
    refine (sv_aload_n jM45 c45_43 rfl rfl).trans ?_
    refine (sv_getf jM45 c45_44 rfl lf_0_9 (fg_23_0 _)).trans ?_
    refine (sv_iload_n jM45 c45_47 rfl rfl).trans ?_
    refine (sv_iald jM45 c45_48 rfl (ia_24 _)).trans ?_
    refine jif _ rfl ?_
    refine (sv_iload_n jM45 c45_49 rfl rfl).trans ?_
    refine (sv_bipush jM45 c45_50 rfl (v := 20) (by decide +kernel)).trans ?_
    refine (sv_idiv jM45 c45_52 rfl (by decide +kernel)).trans ?_
    refine (sv_isub jM45 c45_53 rfl).trans ?_
    refine (sv_max jM45 c45_54 rfl lm_0_121 (Nat.not_lt.mpr (Nat.le_of_ble_eq_true rfl))).trans ?_
    refine (sv_istore_n (ls1 := [some (.ref 23), some (.int x1), some (.int (σ 28 x1.toNatClampNeg)), some (.int (if (1 : Int32) < ((σ 24 x1.toNatClampNeg) - ((σ 28 x1.toNatClampNeg) / (20 : Int32))) then ((σ 24 x1.toNatClampNeg) - ((σ 28 x1.toNatClampNeg) / (20 : Int32))) else (1 : Int32))), none]) jM45 c45_57 rfl (Nat.lt_of_lt_of_eq (by decide +kernel : 3 < 5) rfl) rfl).trans ?_
    refine (sv_aload_n jM45 c45_58 rfl rfl).trans ?_
    refine (sv_getf jM45 c45_59 rfl lf_0_27 (fg_23_5 _)).trans ?_
    refine (sv_iload_n jM45 c45_62 rfl rfl).trans ?_
    refine (sv_iald jM45 c45_63 rfl (ia_29 _)).trans ?_
    refine jif _ rfl ?_
    refine (sv_aload_n jM45 c45_64 rfl rfl).trans ?_
    refine (sv_getf jM45 c45_65 rfl lf_0_52 (fg_23_13 _)).trans ?_
    refine (sv_isub jM45 c45_68 rfl).trans ?_
    refine (sv_istore (ls1 := [some (.ref 23), some (.int x1), some (.int (σ 28 x1.toNatClampNeg)), some (.int (if (1 : Int32) < ((σ 24 x1.toNatClampNeg) - ((σ 28 x1.toNatClampNeg) / (20 : Int32))) then ((σ 24 x1.toNatClampNeg) - ((σ 28 x1.toNatClampNeg) / (20 : Int32))) else (1 : Int32))), some (.int (((jm_up σ 29 x1.toNatClampNeg ((((σ 27 x1.toNatClampNeg) - (100 : Int32)) * (σ 28 x1.toNatClampNeg)) / (40 : Int32))) 29 x1.toNatClampNeg) - (σ 23 13)))]) jM45 c45_69 rfl (Nat.lt_of_lt_of_eq (by decide +kernel : 4 < 5) rfl) rfl).trans ?_
    refine (sv_iload jM45 c45_71 rfl rfl).trans ?_
    refine (sv_aload_n jM45 c45_73 rfl rfl).trans ?_
    refine (sv_getf jM45 c45_74 rfl lf_0_49 (fg_23_12 _)).trans ?_
    refine (sv_iload_n jM45 c45_77 rfl rfl).trans ?_
    refine (sv_imul jM45 c45_78 rfl).trans ?_
    refine (sv_icmp_lt jM45 c45_79 rfl (t := 114) (by decide +kernel)).trans ?_
    refine jif _ ?_ ?_
    ·
      refine (sv_aload_n jM45 c45_114 rfl rfl).trans ?_
      refine (sv_getf jM45 c45_115 rfl lf_0_21 (fg_23_3 _)).trans ?_
      refine (sv_iload_n jM45 c45_118 rfl rfl).trans ?_
      refine (sv_iald jM45 c45_119 rfl (ia_27 _)).trans ?_
      refine jif _ rfl ?_
      refine (sv_sipush jM45 c45_120 rfl (v := 250) (by decide +kernel)).trans ?_
      refine (sv_icmp_le jM45 c45_123 rfl (t := 135) (by decide +kernel)).trans ?_
      refine jif _ ?_ ?_
      ·
        refine (sv_aload_n jM45 c45_135 rfl rfl).trans ?_
        refine (sv_getf jM45 c45_136 rfl lf_0_24 (fg_23_4 _)).trans ?_
        refine (sv_iload_n jM45 c45_139 rfl rfl).trans ?_
        refine (sv_iconst jM45 c45_140 rfl (v := 0) (by decide +kernel)).trans ?_
        refine (sv_iload_n jM45 c45_141 rfl rfl).trans ?_
        refine (sv_aload_n jM45 c45_142 rfl rfl).trans ?_
        refine (sv_getf jM45 c45_143 rfl lf_0_27 (fg_23_5 _)).trans ?_
        refine (sv_iload_n jM45 c45_146 rfl rfl).trans ?_
        refine (sv_iald jM45 c45_147 rfl (ia_29 _)).trans ?_
        refine jif _ rfl ?_
        refine (sv_aload_n jM45 c45_148 rfl rfl).trans ?_
        refine (sv_getf jM45 c45_149 rfl lf_0_18 (fg_23_2 _)).trans ?_
        refine (sv_iload_n jM45 c45_152 rfl rfl).trans ?_
        refine (sv_iald jM45 c45_153 rfl (ia_26 _)).trans ?_
        refine jif _ rfl ?_
        refine (sv_imul jM45 c45_154 rfl).trans ?_
        refine (sv_bipush jM45 c45_155 rfl (v := 100) (by decide +kernel)).trans ?_
        refine (sv_idiv jM45 c45_157 rfl (by decide +kernel)).trans ?_
        refine (sv_isub jM45 c45_158 rfl).trans ?_
        refine (sv_max jM45 c45_159 rfl lm_0_121 (Nat.not_lt.mpr (Nat.le_of_ble_eq_true rfl))).trans ?_
        refine (sv_iast jM45 c45_162 rfl wi_28).trans ?_
        refine jif _ rfl ?_
        exact sv_vret jM45 c45_163 rfl rfl
      ·
        refine (sv_aload_n jM45 c45_126 rfl rfl).trans ?_
        refine (sv_iload_n jM45 c45_127 rfl rfl).trans ?_
        refine (sv_iconst jM45 c45_128 rfl (v := 2) (by decide +kernel)).trans ?_
        refine (sv_callvv (pl := 0) jM45 c45_129 rfl (jm_call_v (a := 23) (as := [(.int x1), (.int (2 : Int32))]) (rest := []) lm_0_126 rfl jM46 rfl rfl rfl rfl rfl) jM46 rfl rfl).trans ?_
        refine jbv_c (fun τ3 => ?_)
        refine (sv_goto jM45 c45_132 rfl (t := 163) (by decide +kernel)).trans ?_
        exact sv_vret jM45 c45_163 rfl rfl
    ·
      refine (sv_aload_n jM45 c45_82 rfl rfl).trans ?_
      refine (sv_iload_n jM45 c45_83 rfl rfl).trans ?_
      refine (sv_iconst jM45 c45_84 rfl (v := 1) (by decide +kernel)).trans ?_
      refine (sv_callvv (pl := 0) jM45 c45_85 rfl (jm_call_v (a := 23) (as := [(.int x1), (.int (1 : Int32))]) (rest := []) lm_0_126 rfl jM46 rfl rfl rfl rfl rfl) jM46 rfl rfl).trans ?_
      refine jbv_c (fun τ4 => ?_)
      refine (sv_aload_n jM45 c45_88 rfl rfl).trans ?_
      refine (sv_getf jM45 c45_89 rfl lf_0_36 (fg_23_8 _)).trans ?_
      refine (sv_iload_n jM45 c45_92 rfl rfl).trans ?_
      refine (sv_aload_n jM45 c45_93 rfl rfl).trans ?_
      refine (sv_getf jM45 c45_94 rfl lf_0_15 (fg_23_1 _)).trans ?_
      refine (sv_iload_n jM45 c45_97 rfl rfl).trans ?_
      refine (sv_iald jM45 c45_98 rfl (ia_25 _)).trans ?_
      refine jif _ rfl ?_
      refine (sv_iload jM45 c45_99 rfl rfl).trans ?_
      refine (sv_imul jM45 c45_101 rfl).trans ?_
      refine (sv_bipush jM45 c45_102 rfl (v := 10) (by decide +kernel)).trans ?_
      refine (sv_idiv jM45 c45_104 rfl (by decide +kernel)).trans ?_
      refine (sv_iast jM45 c45_105 rfl wi_32).trans ?_
      refine jif _ rfl ?_
      refine (sv_aload_n jM45 c45_106 rfl rfl).trans ?_
      refine (sv_iconst jM45 c45_107 rfl (v := 1) (by decide +kernel)).trans ?_
      refine (sv_putf jM45 c45_108 rfl lf_0_61 (pf_23_16 _ _ (by decide +kernel))).trans ?_
      refine (sv_goto jM45 c45_111 rfl (t := 163) (by decide +kernel)).trans ?_
      exact sv_vret jM45 c45_163 rfl rfl
set_option maxRecDepth 20000 in
set_option maxHeartbeats 4000000 in
theorem Batch_turnRow_23_in (x1 : Int32) (σ : jm_S) : jc 43 [(.ref 23), (.int x1)] σ = (if x1 < 0 ∨ 4 ≤ x1.toNatClampNeg then none else (if (σ 34 x1.toNatClampNeg) ≤ (1 : Int32) then some (none, σ) else (if (x1 * (12 : Int32)) < 0 ∨ 48 ≤ (x1 * (12 : Int32)).toNatClampNeg then none else (if ((x1 * (12 : Int32)) + (1 : Int32)) < 0 ∨ (x1 * (12 : Int32)) < 0 ∨ ((σ 34 x1.toNatClampNeg) - (1 : Int32)) < 0 ∨ 48 < ((x1 * (12 : Int32)) + (1 : Int32)).toNatClampNeg + ((σ 34 x1.toNatClampNeg) - (1 : Int32)).toNatClampNeg ∨ 48 < (x1 * (12 : Int32)).toNatClampNeg + ((σ 34 x1.toNatClampNeg) - (1 : Int32)).toNatClampNeg then none else (if (((x1 * (12 : Int32)) + (σ 34 x1.toNatClampNeg)) - (1 : Int32)) < 0 ∨ 48 ≤ (((x1 * (12 : Int32)) + (σ 34 x1.toNatClampNeg)) - (1 : Int32)).toNatClampNeg then none else some (none, (jm_up (jm_row σ 33 (va_cpy (σ 33) (σ 33) ((x1 * (12 : Int32)) + (1 : Int32)).toNatClampNeg (x1 * (12 : Int32)).toNatClampNeg ((σ 34 x1.toNatClampNeg) - (1 : Int32)).toNatClampNeg)) 33 (((x1 * (12 : Int32)) + (σ 34 x1.toNatClampNeg)) - (1 : Int32)).toNatClampNeg (σ 33 (x1 * (12 : Int32)).toNatClampNeg)))))))) := by
  refine (jc_of (ls1 := [some (.ref 23), some (.int x1), none, none, none]) ((jm_ini_of jM43).trans rfl)).trans ?_
  refine (sv_aload_n jM43 c43_0 rfl rfl).trans ?_
  refine (sv_getf jM43 c43_1 rfl lf_0_42 (fg_23_10 _)).trans ?_
  refine (sv_iload_n jM43 c43_4 rfl rfl).trans ?_
  refine (sv_iald jM43 c43_5 rfl (ia_34 _)).trans ?_
  refine jif _ rfl ?_
  refine (sv_istore_n (ls1 := [some (.ref 23), some (.int x1), some (.int (σ 34 x1.toNatClampNeg)), none, none]) jM43 c43_6 rfl (Nat.lt_of_lt_of_eq (by decide +kernel : 2 < 5) rfl) rfl).trans ?_
  refine (sv_iload_n jM43 c43_7 rfl rfl).trans ?_
  refine (sv_iconst jM43 c43_8 rfl (v := 1) (by decide +kernel)).trans ?_
  refine (sv_icmp_le jM43 c43_9 rfl (t := 55) (by decide +kernel)).trans ?_
  refine jif _ ?_ ?_
  ·
    exact sv_vret jM43 c43_55 rfl rfl
  ·
    refine (sv_iload_n jM43 c43_12 rfl rfl).trans ?_
    refine (sv_bipush jM43 c43_13 rfl (v := 12) (by decide +kernel)).trans ?_
    refine (sv_imul jM43 c43_15 rfl).trans ?_
    refine (sv_istore_n (ls1 := [some (.ref 23), some (.int x1), some (.int (σ 34 x1.toNatClampNeg)), some (.int (x1 * (12 : Int32))), none]) jM43 c43_16 rfl (Nat.lt_of_lt_of_eq (by decide +kernel : 3 < 5) rfl) rfl).trans ?_
    refine (sv_aload_n jM43 c43_17 rfl rfl).trans ?_
    refine (sv_getf jM43 c43_18 rfl lf_0_39 (fg_23_9 _)).trans ?_
    refine (sv_iload_n jM43 c43_21 rfl rfl).trans ?_
    refine (sv_iald jM43 c43_22 rfl (ia_33 _)).trans ?_
    refine jif _ rfl ?_
    refine (sv_istore (ls1 := [some (.ref 23), some (.int x1), some (.int (σ 34 x1.toNatClampNeg)), some (.int (x1 * (12 : Int32))), some (.int (σ 33 (x1 * (12 : Int32)).toNatClampNeg))]) jM43 c43_23 rfl (Nat.lt_of_lt_of_eq (by decide +kernel : 4 < 5) rfl) rfl).trans ?_
    refine (sv_aload_n jM43 c43_25 rfl rfl).trans ?_
    refine (sv_getf jM43 c43_26 rfl lf_0_39 (fg_23_9 _)).trans ?_
    refine (sv_iload_n jM43 c43_29 rfl rfl).trans ?_
    refine (sv_iconst jM43 c43_30 rfl (v := 1) (by decide +kernel)).trans ?_
    refine (sv_iadd jM43 c43_31 rfl).trans ?_
    refine (sv_aload_n jM43 c43_32 rfl rfl).trans ?_
    refine (sv_getf jM43 c43_33 rfl lf_0_39 (fg_23_9 _)).trans ?_
    refine (sv_iload_n jM43 c43_36 rfl rfl).trans ?_
    refine (sv_iload_n jM43 c43_37 rfl rfl).trans ?_
    refine (sv_iconst jM43 c43_38 rfl (v := 1) (by decide +kernel)).trans ?_
    refine (sv_isub jM43 c43_39 rfl).trans ?_
    refine (sv_cpy jM43 c43_40 rfl lm_0_85 (Nat.not_lt.mpr (Nat.le_of_ble_eq_true rfl)) wi_33 wi_33).trans ?_
    refine jif _ rfl ?_
    refine (sv_aload_n jM43 c43_43 rfl rfl).trans ?_
    refine (sv_getf jM43 c43_44 rfl lf_0_39 (fg_23_9 _)).trans ?_
    refine (sv_iload_n jM43 c43_47 rfl rfl).trans ?_
    refine (sv_iload_n jM43 c43_48 rfl rfl).trans ?_
    refine (sv_iadd jM43 c43_49 rfl).trans ?_
    refine (sv_iconst jM43 c43_50 rfl (v := 1) (by decide +kernel)).trans ?_
    refine (sv_isub jM43 c43_51 rfl).trans ?_
    refine (sv_iload jM43 c43_52 rfl rfl).trans ?_
    refine (sv_iast jM43 c43_54 rfl wi_33).trans ?_
    refine jif _ rfl ?_
    exact sv_vret jM43 c43_55 rfl rfl
set_option maxRecDepth 20000 in
set_option maxHeartbeats 4000000 in
theorem Batch_clearRows_23_in (σ : jm_S) : jc 42 [(.ref 23)] σ = jv 42 2 [some (.ref 23), some (.int (0 : Int32)), none, none, none, none] [] σ := by
  refine (jc_of (ls1 := [some (.ref 23), none, none, none, none, none]) ((jm_ini_of jM42).trans rfl)).trans ?_
  refine (sv_iconst jM42 c42_0 rfl (v := 0) (by decide +kernel)).trans ?_
  refine (sv_istore_n (ls1 := [some (.ref 23), some (.int (0 : Int32)), none, none, none, none]) jM42 c42_1 rfl (Nat.lt_of_lt_of_eq (by decide +kernel : 1 < 6) rfl) rfl).trans ?_
  rfl
set_option maxRecDepth 20000 in
set_option maxHeartbeats 4000000 in
theorem Batch_clearRows_23_L2 (x1 : Int32) (u2 : Option Value) (u3 : Option Value) (u4 : Option Value) (u5 : Option Value) (σ : jm_S) : jv 42 2 [some (.ref 23), some (.int x1), u2, u3, u4, u5] [] σ = (if (4 : Int32) ≤ x1 then some (none, (jm_up σ 23 16 (0 : Int32))) else jv 42 17 [some (.ref 23), some (.int x1), some (.int (x1 * (12 : Int32))), some (.int (0 : Int32)), some (.int (0 : Int32)), u5] [] σ) := by
  refine (sv_iload_n jM42 c42_2 rfl rfl).trans ?_
  refine (sv_iconst jM42 c42_3 rfl (v := 4) (by decide +kernel)).trans ?_
  refine (sv_icmp_ge jM42 c42_4 rfl (t := 92) (by decide +kernel)).trans ?_
  refine jif _ ?_ ?_
  ·
    refine (sv_aload_n jM42 c42_92 rfl rfl).trans ?_
    refine (sv_iconst jM42 c42_93 rfl (v := 0) (by decide +kernel)).trans ?_
    refine (sv_putf jM42 c42_94 rfl lf_0_61 (pf_23_16 _ _ (by decide +kernel))).trans ?_
    exact sv_vret jM42 c42_97 rfl rfl
  ·
    refine (sv_iload_n jM42 c42_7 rfl rfl).trans ?_
    refine (sv_bipush jM42 c42_8 rfl (v := 12) (by decide +kernel)).trans ?_
    refine (sv_imul jM42 c42_10 rfl).trans ?_
    refine (sv_istore_n (ls1 := [some (.ref 23), some (.int x1), some (.int (x1 * (12 : Int32))), u3, u4, u5]) jM42 c42_11 rfl (Nat.lt_of_lt_of_eq (by decide +kernel : 2 < 6) rfl) rfl).trans ?_
    refine (sv_iconst jM42 c42_12 rfl (v := 0) (by decide +kernel)).trans ?_
    refine (sv_istore_n (ls1 := [some (.ref 23), some (.int x1), some (.int (x1 * (12 : Int32))), some (.int (0 : Int32)), u4, u5]) jM42 c42_13 rfl (Nat.lt_of_lt_of_eq (by decide +kernel : 3 < 6) rfl) rfl).trans ?_
    refine (sv_iconst jM42 c42_14 rfl (v := 0) (by decide +kernel)).trans ?_
    refine (sv_istore (ls1 := [some (.ref 23), some (.int x1), some (.int (x1 * (12 : Int32))), some (.int (0 : Int32)), some (.int (0 : Int32)), u5]) jM42 c42_15 rfl (Nat.lt_of_lt_of_eq (by decide +kernel : 4 < 6) rfl) rfl).trans ?_
    rfl
set_option maxRecDepth 20000 in
set_option maxHeartbeats 4000000 in
theorem Batch_clearRows_23_L17 (x1 : Int32) (x2 : Int32) (x3 : Int32) (x4 : Int32) (u5 : Option Value) (σ : jm_S) : jv 42 17 [some (.ref 23), some (.int x1), some (.int x2), some (.int x3), some (.int x4), u5] [] σ = (if x1 < 0 ∨ 4 ≤ x1.toNatClampNeg then none else (if (σ 34 x1.toNatClampNeg) ≤ x4 then (if x1 < 0 ∨ 4 ≤ x1.toNatClampNeg then none else jv 42 2 [some (.ref 23), some (.int (x1 + 1)), some (.int x2), some (.int x3), some (.int x4), u5] [] (jm_up σ 34 x1.toNatClampNeg x3)) else (if (x2 + x4) < 0 ∨ 48 ≤ (x2 + x4).toNatClampNeg then none else (if (σ 33 (x2 + x4).toNatClampNeg) < 0 ∨ 12 ≤ (σ 33 (x2 + x4).toNatClampNeg).toNatClampNeg then none else (if (σ 30 (σ 33 (x2 + x4).toNatClampNeg).toNatClampNeg) = 0 then (if (x2 + x3) < 0 ∨ 48 ≤ (x2 + x3).toNatClampNeg then none else jv 42 17 [some (.ref 23), some (.int x1), some (.int x2), some (.int (x3 + 1)), some (.int (x4 + 1)), some (.int (σ 33 (x2 + x4).toNatClampNeg))] [] (jm_up σ 33 (x2 + x3).toNatClampNeg (σ 33 (x2 + x4).toNatClampNeg))) else (if (σ 33 (x2 + x4).toNatClampNeg) < 0 ∨ 12 ≤ (σ 33 (x2 + x4).toNatClampNeg).toNatClampNeg then none else (if ¬ (σ 30 (σ 33 (x2 + x4).toNatClampNeg).toNatClampNeg) = (2 : Int32) then jv 42 17 [some (.ref 23), some (.int x1), some (.int x2), some (.int x3), some (.int (x4 + 1)), some (.int (σ 33 (x2 + x4).toNatClampNeg))] [] σ else (if (x2 + x3) < 0 ∨ 48 ≤ (x2 + x3).toNatClampNeg then none else jv 42 17 [some (.ref 23), some (.int x1), some (.int x2), some (.int (x3 + 1)), some (.int (x4 + 1)), some (.int (σ 33 (x2 + x4).toNatClampNeg))] [] (jm_up σ 33 (x2 + x3).toNatClampNeg (σ 33 (x2 + x4).toNatClampNeg)))))))))) := by
  refine (sv_iload jM42 c42_17 rfl rfl).trans ?_
  refine (sv_aload_n jM42 c42_19 rfl rfl).trans ?_
  refine (sv_getf jM42 c42_20 rfl lf_0_42 (fg_23_10 _)).trans ?_
  refine (sv_iload_n jM42 c42_23 rfl rfl).trans ?_
  refine (sv_iald jM42 c42_24 rfl (ia_34 _)).trans ?_
  refine jif _ rfl ?_
  refine (sv_icmp_ge jM42 c42_25 rfl (t := 79) (by decide +kernel)).trans ?_
  refine jif _ ?_ ?_
  ·
    refine (sv_aload_n jM42 c42_79 rfl rfl).trans ?_
    refine (sv_getf jM42 c42_80 rfl lf_0_42 (fg_23_10 _)).trans ?_
    refine (sv_iload_n jM42 c42_83 rfl rfl).trans ?_
    refine (sv_iload_n jM42 c42_84 rfl rfl).trans ?_
    refine (sv_iast jM42 c42_85 rfl wi_34).trans ?_
    refine jif _ rfl ?_
    refine (sv_iinc (ls1 := [some (.ref 23), some (.int (x1 + 1)), some (.int x2), some (.int x3), some (.int x4), u5]) jM42 c42_86 rfl rfl (v := 1) (by decide +kernel) rfl).trans ?_
    refine (sv_goto jM42 c42_89 rfl (t := 2) (by decide +kernel)).trans ?_
    rfl
  ·
    refine (sv_aload_n jM42 c42_28 rfl rfl).trans ?_
    refine (sv_getf jM42 c42_29 rfl lf_0_39 (fg_23_9 _)).trans ?_
    refine (sv_iload_n jM42 c42_32 rfl rfl).trans ?_
    refine (sv_iload jM42 c42_33 rfl rfl).trans ?_
    refine (sv_iadd jM42 c42_35 rfl).trans ?_
    refine (sv_iald jM42 c42_36 rfl (ia_33 _)).trans ?_
    refine jif _ rfl ?_
    refine (sv_istore (ls1 := [some (.ref 23), some (.int x1), some (.int x2), some (.int x3), some (.int x4), some (.int (σ 33 (x2 + x4).toNatClampNeg))]) jM42 c42_37 rfl (Nat.lt_of_lt_of_eq (by decide +kernel : 5 < 6) rfl) rfl).trans ?_
    refine (sv_aload_n jM42 c42_39 rfl rfl).trans ?_
    refine (sv_getf jM42 c42_40 rfl lf_0_30 (fg_23_6 _)).trans ?_
    refine (sv_iload jM42 c42_43 rfl rfl).trans ?_
    refine (sv_iald jM42 c42_45 rfl (ia_30 _)).trans ?_
    refine jif _ rfl ?_
    refine (sv_if_eq jM42 c42_46 rfl (t := 60) (by decide +kernel)).trans ?_
    refine jif _ ?_ ?_
    ·
      refine (sv_aload_n jM42 c42_60 rfl rfl).trans ?_
      refine (sv_getf jM42 c42_61 rfl lf_0_39 (fg_23_9 _)).trans ?_
      refine (sv_iload_n jM42 c42_64 rfl rfl).trans ?_
      refine (sv_iload_n jM42 c42_65 rfl rfl).trans ?_
      refine (sv_iadd jM42 c42_66 rfl).trans ?_
      refine (sv_iload jM42 c42_67 rfl rfl).trans ?_
      refine (sv_iast jM42 c42_69 rfl wi_33).trans ?_
      refine jif _ rfl ?_
      refine (sv_iinc (ls1 := [some (.ref 23), some (.int x1), some (.int x2), some (.int (x3 + 1)), some (.int x4), some (.int (σ 33 (x2 + x4).toNatClampNeg))]) jM42 c42_70 rfl rfl (v := 1) (by decide +kernel) rfl).trans ?_
      refine (sv_iinc (ls1 := [some (.ref 23), some (.int x1), some (.int x2), some (.int (x3 + 1)), some (.int (x4 + 1)), some (.int (σ 33 (x2 + x4).toNatClampNeg))]) jM42 c42_73 rfl rfl (v := 1) (by decide +kernel) rfl).trans ?_
      refine (sv_goto jM42 c42_76 rfl (t := 17) (by decide +kernel)).trans ?_
      rfl
    ·
      refine (sv_aload_n jM42 c42_49 rfl rfl).trans ?_
      refine (sv_getf jM42 c42_50 rfl lf_0_30 (fg_23_6 _)).trans ?_
      refine (sv_iload jM42 c42_53 rfl rfl).trans ?_
      refine (sv_iald jM42 c42_55 rfl (ia_30 _)).trans ?_
      refine jif _ rfl ?_
      refine (sv_iconst jM42 c42_56 rfl (v := 2) (by decide +kernel)).trans ?_
      refine (sv_icmp_ne jM42 c42_57 rfl (t := 73) (by decide +kernel)).trans ?_
      refine jif _ ?_ ?_
      ·
        refine (sv_iinc (ls1 := [some (.ref 23), some (.int x1), some (.int x2), some (.int x3), some (.int (x4 + 1)), some (.int (σ 33 (x2 + x4).toNatClampNeg))]) jM42 c42_73 rfl rfl (v := 1) (by decide +kernel) rfl).trans ?_
        refine (sv_goto jM42 c42_76 rfl (t := 17) (by decide +kernel)).trans ?_
        rfl
      ·
        refine (sv_aload_n jM42 c42_60 rfl rfl).trans ?_
        refine (sv_getf jM42 c42_61 rfl lf_0_39 (fg_23_9 _)).trans ?_
        refine (sv_iload_n jM42 c42_64 rfl rfl).trans ?_
        refine (sv_iload_n jM42 c42_65 rfl rfl).trans ?_
        refine (sv_iadd jM42 c42_66 rfl).trans ?_
        refine (sv_iload jM42 c42_67 rfl rfl).trans ?_
        refine (sv_iast jM42 c42_69 rfl wi_33).trans ?_
        refine jif _ rfl ?_
        refine (sv_iinc (ls1 := [some (.ref 23), some (.int x1), some (.int x2), some (.int (x3 + 1)), some (.int x4), some (.int (σ 33 (x2 + x4).toNatClampNeg))]) jM42 c42_70 rfl rfl (v := 1) (by decide +kernel) rfl).trans ?_
        refine (sv_iinc (ls1 := [some (.ref 23), some (.int x1), some (.int x2), some (.int (x3 + 1)), some (.int (x4 + 1)), some (.int (σ 33 (x2 + x4).toNatClampNeg))]) jM42 c42_73 rfl rfl (v := 1) (by decide +kernel) rfl).trans ?_
        refine (sv_goto jM42 c42_76 rfl (t := 17) (by decide +kernel)).trans ?_
        rfl
set_option maxRecDepth 20000 in
set_option maxHeartbeats 4000000 in
theorem Batch_warmRow_23_in (x1 : Int32) (x2 : Int32) (x3 : Int32) (σ : jm_S) : jc 44 [(.ref 23), (.int x1), (.int x2), (.int x3)] σ = (if x1 < 0 ∨ 4 ≤ x1.toNatClampNeg then none else jv 44 24 [some (.ref 23), some (.int x1), some (.int x2), some (.int x3), some (.int x2), some (.int (x1 * (12 : Int32))), some (.int ((x1 * (12 : Int32)) + (σ 34 x1.toNatClampNeg))), some (.int (x1 * (12 : Int32))), none, none] [] σ) := by
  refine (jc_of (ls1 := [some (.ref 23), some (.int x1), some (.int x2), some (.int x3), none, none, none, none, none, none]) ((jm_ini_of jM44).trans rfl)).trans ?_
  refine (sv_iload_n jM44 c44_0 rfl rfl).trans ?_
  refine (sv_istore (ls1 := [some (.ref 23), some (.int x1), some (.int x2), some (.int x3), some (.int x2), none, none, none, none, none]) jM44 c44_1 rfl (Nat.lt_of_lt_of_eq (by decide +kernel : 4 < 10) rfl) rfl).trans ?_
  refine (sv_iload_n jM44 c44_3 rfl rfl).trans ?_
  refine (sv_bipush jM44 c44_4 rfl (v := 12) (by decide +kernel)).trans ?_
  refine (sv_imul jM44 c44_6 rfl).trans ?_
  refine (sv_istore (ls1 := [some (.ref 23), some (.int x1), some (.int x2), some (.int x3), some (.int x2), some (.int (x1 * (12 : Int32))), none, none, none, none]) jM44 c44_7 rfl (Nat.lt_of_lt_of_eq (by decide +kernel : 5 < 10) rfl) rfl).trans ?_
  refine (sv_iload jM44 c44_9 rfl rfl).trans ?_
  refine (sv_aload_n jM44 c44_11 rfl rfl).trans ?_
  refine (sv_getf jM44 c44_12 rfl lf_0_42 (fg_23_10 _)).trans ?_
  refine (sv_iload_n jM44 c44_15 rfl rfl).trans ?_
  refine (sv_iald jM44 c44_16 rfl (ia_34 _)).trans ?_
  refine jif _ rfl ?_
  refine (sv_iadd jM44 c44_17 rfl).trans ?_
  refine (sv_istore (ls1 := [some (.ref 23), some (.int x1), some (.int x2), some (.int x3), some (.int x2), some (.int (x1 * (12 : Int32))), some (.int ((x1 * (12 : Int32)) + (σ 34 x1.toNatClampNeg))), none, none, none]) jM44 c44_18 rfl (Nat.lt_of_lt_of_eq (by decide +kernel : 6 < 10) rfl) rfl).trans ?_
  refine (sv_iload jM44 c44_20 rfl rfl).trans ?_
  refine (sv_istore (ls1 := [some (.ref 23), some (.int x1), some (.int x2), some (.int x3), some (.int x2), some (.int (x1 * (12 : Int32))), some (.int ((x1 * (12 : Int32)) + (σ 34 x1.toNatClampNeg))), some (.int (x1 * (12 : Int32))), none, none]) jM44 c44_22 rfl (Nat.lt_of_lt_of_eq (by decide +kernel : 7 < 10) rfl) rfl).trans ?_
  rfl
set_option maxRecDepth 20000 in
set_option maxHeartbeats 4000000 in
theorem Batch_warmRow_23_L24 (x1 : Int32) (x2 : Int32) (x3 : Int32) (x4 : Int32) (x5 : Int32) (x6 : Int32) (x7 : Int32) (u8 : Option Value) (u9 : Option Value) (σ : jm_S) : jv 44 24 [some (.ref 23), some (.int x1), some (.int x2), some (.int x3), some (.int x4), some (.int x5), some (.int x6), some (.int x7), u8, u9] [] σ = (if x6 ≤ x7 then some (none, σ) else (if x7 < 0 ∨ 48 ≤ x7.toNatClampNeg then none else (if (σ 33 x7.toNatClampNeg) < 0 ∨ 12 ≤ (σ 33 x7.toNatClampNeg).toNatClampNeg then none else (if x3 = 0 then none else (if (σ 33 x7.toNatClampNeg) < 0 ∨ 12 ≤ (σ 33 x7.toNatClampNeg).toNatClampNeg then none else jv 44 24 [some (.ref 23), some (.int x1), some (.int x2), some (.int x3), some (.int (x4 / (2 : Int32))), some (.int x5), some (.int x6), some (.int (x7 + 1)), some (.int (σ 33 x7.toNatClampNeg)), some (.int ((σ 27 (σ 33 x7.toNatClampNeg).toNatClampNeg) + x4))] [] (jm_up σ 27 (σ 33 x7.toNatClampNeg).toNatClampNeg (((σ 27 (σ 33 x7.toNatClampNeg).toNatClampNeg) + x4) - (((σ 27 (σ 33 x7.toNatClampNeg).toNatClampNeg) + x4) / x3)))))))) := by
  refine (sv_iload jM44 c44_24 rfl rfl).trans ?_
  refine (sv_iload jM44 c44_26 rfl rfl).trans ?_
  refine (sv_icmp_ge jM44 c44_28 rfl (t := 78) (by decide +kernel)).trans ?_
  refine jif _ ?_ ?_
  ·
    exact sv_vret jM44 c44_78 rfl rfl
  ·
    refine (sv_aload_n jM44 c44_31 rfl rfl).trans ?_
    refine (sv_getf jM44 c44_32 rfl lf_0_39 (fg_23_9 _)).trans ?_
    refine (sv_iload jM44 c44_35 rfl rfl).trans ?_
    refine (sv_iald jM44 c44_37 rfl (ia_33 _)).trans ?_
    refine jif _ rfl ?_
    refine (sv_istore (ls1 := [some (.ref 23), some (.int x1), some (.int x2), some (.int x3), some (.int x4), some (.int x5), some (.int x6), some (.int x7), some (.int (σ 33 x7.toNatClampNeg)), u9]) jM44 c44_38 rfl (Nat.lt_of_lt_of_eq (by decide +kernel : 8 < 10) rfl) rfl).trans ?_
    refine (sv_aload_n jM44 c44_40 rfl rfl).trans ?_
    refine (sv_getf jM44 c44_41 rfl lf_0_21 (fg_23_3 _)).trans ?_
    refine (sv_iload jM44 c44_44 rfl rfl).trans ?_
    refine (sv_iald jM44 c44_46 rfl (ia_27 _)).trans ?_
    refine jif _ rfl ?_
    refine (sv_iload jM44 c44_47 rfl rfl).trans ?_
    refine (sv_iadd jM44 c44_49 rfl).trans ?_
    refine (sv_istore (ls1 := [some (.ref 23), some (.int x1), some (.int x2), some (.int x3), some (.int x4), some (.int x5), some (.int x6), some (.int x7), some (.int (σ 33 x7.toNatClampNeg)), some (.int ((σ 27 (σ 33 x7.toNatClampNeg).toNatClampNeg) + x4))]) jM44 c44_50 rfl (Nat.lt_of_lt_of_eq (by decide +kernel : 9 < 10) rfl) rfl).trans ?_
    refine (sv_aload_n jM44 c44_52 rfl rfl).trans ?_
    refine (sv_getf jM44 c44_53 rfl lf_0_21 (fg_23_3 _)).trans ?_
    refine (sv_iload jM44 c44_56 rfl rfl).trans ?_
    refine (sv_iload jM44 c44_58 rfl rfl).trans ?_
    refine (sv_iload jM44 c44_60 rfl rfl).trans ?_
    refine (sv_iload_n jM44 c44_62 rfl rfl).trans ?_
    refine (sv_idivx jM44 c44_63 rfl).trans ?_
    refine jif _ rfl ?_
    refine (sv_isub jM44 c44_64 rfl).trans ?_
    refine (sv_iast jM44 c44_65 rfl wi_27).trans ?_
    refine jif _ rfl ?_
    refine (sv_iload jM44 c44_66 rfl rfl).trans ?_
    refine (sv_iconst jM44 c44_68 rfl (v := 2) (by decide +kernel)).trans ?_
    refine (sv_idiv jM44 c44_69 rfl (by decide +kernel)).trans ?_
    refine (sv_istore (ls1 := [some (.ref 23), some (.int x1), some (.int x2), some (.int x3), some (.int (x4 / (2 : Int32))), some (.int x5), some (.int x6), some (.int x7), some (.int (σ 33 x7.toNatClampNeg)), some (.int ((σ 27 (σ 33 x7.toNatClampNeg).toNatClampNeg) + x4))]) jM44 c44_70 rfl (Nat.lt_of_lt_of_eq (by decide +kernel : 4 < 10) rfl) rfl).trans ?_
    refine (sv_iinc (ls1 := [some (.ref 23), some (.int x1), some (.int x2), some (.int x3), some (.int (x4 / (2 : Int32))), some (.int x5), some (.int x6), some (.int (x7 + 1)), some (.int (σ 33 x7.toNatClampNeg)), some (.int ((σ 27 (σ 33 x7.toNatClampNeg).toNatClampNeg) + x4))]) jM44 c44_72 rfl rfl (v := 1) (by decide +kernel) rfl).trans ?_
    refine (sv_goto jM44 c44_75 rfl (t := 24) (by decide +kernel)).trans ?_
    rfl
set_option maxRecDepth 20000 in
set_option maxHeartbeats 4000000 in
theorem Batch_isOpenAt_23_in (x1 : Int32) (x2 : Int32) (σ : jm_S) : jc 52 [(.ref 23), (.int x1), (.int x2)] σ = (if x1 < 0 ∨ 12 ≤ x1.toNatClampNeg then none else (if ¬ (σ 30 x1.toNatClampNeg) = (1 : Int32) then some (some (.int (0 : Int32)), σ) else (if x1 < 0 ∨ 12 ≤ x1.toNatClampNeg then none else (if x2 ≤ (σ 31 x1.toNatClampNeg) then some (some (.int (0 : Int32)), σ) else some (some (.int (1 : Int32)), σ))))) := by
  refine (jc_of (ls1 := [some (.ref 23), some (.int x1), some (.int x2)]) ((jm_ini_of jM52).trans rfl)).trans ?_
  refine (sv_aload_n jM52 c52_0 rfl rfl).trans ?_
  refine (sv_getf jM52 c52_1 rfl lf_0_30 (fg_23_6 _)).trans ?_
  refine (sv_iload_n jM52 c52_4 rfl rfl).trans ?_
  refine (sv_iald jM52 c52_5 rfl (ia_30 _)).trans ?_
  refine jif _ rfl ?_
  refine (sv_iconst jM52 c52_6 rfl (v := 1) (by decide +kernel)).trans ?_
  refine (sv_icmp_ne jM52 c52_7 rfl (t := 24) (by decide +kernel)).trans ?_
  refine jif _ ?_ ?_
  ·
    refine (sv_iconst jM52 c52_24 rfl (v := 0) (by decide +kernel)).trans ?_
    exact sv_zret jM52 c52_25 rfl rfl (by decide +kernel)
  ·
    refine (sv_aload_n jM52 c52_10 rfl rfl).trans ?_
    refine (sv_getf jM52 c52_11 rfl lf_0_33 (fg_23_7 _)).trans ?_
    refine (sv_iload_n jM52 c52_14 rfl rfl).trans ?_
    refine (sv_iald jM52 c52_15 rfl (ia_31 _)).trans ?_
    refine jif _ rfl ?_
    refine (sv_iload_n jM52 c52_16 rfl rfl).trans ?_
    refine (sv_icmp_ge jM52 c52_17 rfl (t := 24) (by decide +kernel)).trans ?_
    refine jif _ ?_ ?_
    ·
      refine (sv_iconst jM52 c52_24 rfl (v := 0) (by decide +kernel)).trans ?_
      exact sv_zret jM52 c52_25 rfl rfl (by decide +kernel)
    ·
      refine (sv_iconst jM52 c52_20 rfl (v := 1) (by decide +kernel)).trans ?_
      refine (sv_goto jM52 c52_21 rfl (t := 25) (by decide +kernel)).trans ?_
      exact sv_zret jM52 c52_25 rfl rfl (by decide +kernel)
set_option maxRecDepth 20000 in
set_option maxHeartbeats 4000000 in
theorem Batch_clearRows_11_in (σ : jm_S) : jc 42 [(.ref 11)] σ = jv 42 2 [some (.ref 11), some (.int (0 : Int32)), none, none, none, none] [] σ := by
  refine (jc_of (ls1 := [some (.ref 11), none, none, none, none, none]) ((jm_ini_of jM42).trans rfl)).trans ?_
  refine (sv_iconst jM42 c42_0 rfl (v := 0) (by decide +kernel)).trans ?_
  refine (sv_istore_n (ls1 := [some (.ref 11), some (.int (0 : Int32)), none, none, none, none]) jM42 c42_1 rfl (Nat.lt_of_lt_of_eq (by decide +kernel : 1 < 6) rfl) rfl).trans ?_
  rfl
set_option maxRecDepth 20000 in
set_option maxHeartbeats 4000000 in
theorem Batch_clearRows_11_L2 (x1 : Int32) (u2 : Option Value) (u3 : Option Value) (u4 : Option Value) (u5 : Option Value) (σ : jm_S) : jv 42 2 [some (.ref 11), some (.int x1), u2, u3, u4, u5] [] σ = (if (4 : Int32) ≤ x1 then some (none, (jm_up σ 11 16 (0 : Int32))) else jv 42 17 [some (.ref 11), some (.int x1), some (.int (x1 * (12 : Int32))), some (.int (0 : Int32)), some (.int (0 : Int32)), u5] [] σ) := by
  refine (sv_iload_n jM42 c42_2 rfl rfl).trans ?_
  refine (sv_iconst jM42 c42_3 rfl (v := 4) (by decide +kernel)).trans ?_
  refine (sv_icmp_ge jM42 c42_4 rfl (t := 92) (by decide +kernel)).trans ?_
  refine jif _ ?_ ?_
  ·
    refine (sv_aload_n jM42 c42_92 rfl rfl).trans ?_
    refine (sv_iconst jM42 c42_93 rfl (v := 0) (by decide +kernel)).trans ?_
    refine (sv_putf jM42 c42_94 rfl lf_0_61 (pf_11_16 _ _ (by decide +kernel))).trans ?_
    exact sv_vret jM42 c42_97 rfl rfl
  ·
    refine (sv_iload_n jM42 c42_7 rfl rfl).trans ?_
    refine (sv_bipush jM42 c42_8 rfl (v := 12) (by decide +kernel)).trans ?_
    refine (sv_imul jM42 c42_10 rfl).trans ?_
    refine (sv_istore_n (ls1 := [some (.ref 11), some (.int x1), some (.int (x1 * (12 : Int32))), u3, u4, u5]) jM42 c42_11 rfl (Nat.lt_of_lt_of_eq (by decide +kernel : 2 < 6) rfl) rfl).trans ?_
    refine (sv_iconst jM42 c42_12 rfl (v := 0) (by decide +kernel)).trans ?_
    refine (sv_istore_n (ls1 := [some (.ref 11), some (.int x1), some (.int (x1 * (12 : Int32))), some (.int (0 : Int32)), u4, u5]) jM42 c42_13 rfl (Nat.lt_of_lt_of_eq (by decide +kernel : 3 < 6) rfl) rfl).trans ?_
    refine (sv_iconst jM42 c42_14 rfl (v := 0) (by decide +kernel)).trans ?_
    refine (sv_istore (ls1 := [some (.ref 11), some (.int x1), some (.int (x1 * (12 : Int32))), some (.int (0 : Int32)), some (.int (0 : Int32)), u5]) jM42 c42_15 rfl (Nat.lt_of_lt_of_eq (by decide +kernel : 4 < 6) rfl) rfl).trans ?_
    rfl
set_option maxRecDepth 20000 in
set_option maxHeartbeats 4000000 in
theorem Batch_clearRows_11_L17 (x1 : Int32) (x2 : Int32) (x3 : Int32) (x4 : Int32) (u5 : Option Value) (σ : jm_S) : jv 42 17 [some (.ref 11), some (.int x1), some (.int x2), some (.int x3), some (.int x4), u5] [] σ = (if x1 < 0 ∨ 4 ≤ x1.toNatClampNeg then none else (if (σ 22 x1.toNatClampNeg) ≤ x4 then (if x1 < 0 ∨ 4 ≤ x1.toNatClampNeg then none else jv 42 2 [some (.ref 11), some (.int (x1 + 1)), some (.int x2), some (.int x3), some (.int x4), u5] [] (jm_up σ 22 x1.toNatClampNeg x3)) else (if (x2 + x4) < 0 ∨ 48 ≤ (x2 + x4).toNatClampNeg then none else (if (σ 21 (x2 + x4).toNatClampNeg) < 0 ∨ 12 ≤ (σ 21 (x2 + x4).toNatClampNeg).toNatClampNeg then none else (if (σ 18 (σ 21 (x2 + x4).toNatClampNeg).toNatClampNeg) = 0 then (if (x2 + x3) < 0 ∨ 48 ≤ (x2 + x3).toNatClampNeg then none else jv 42 17 [some (.ref 11), some (.int x1), some (.int x2), some (.int (x3 + 1)), some (.int (x4 + 1)), some (.int (σ 21 (x2 + x4).toNatClampNeg))] [] (jm_up σ 21 (x2 + x3).toNatClampNeg (σ 21 (x2 + x4).toNatClampNeg))) else (if (σ 21 (x2 + x4).toNatClampNeg) < 0 ∨ 12 ≤ (σ 21 (x2 + x4).toNatClampNeg).toNatClampNeg then none else (if ¬ (σ 18 (σ 21 (x2 + x4).toNatClampNeg).toNatClampNeg) = (2 : Int32) then jv 42 17 [some (.ref 11), some (.int x1), some (.int x2), some (.int x3), some (.int (x4 + 1)), some (.int (σ 21 (x2 + x4).toNatClampNeg))] [] σ else (if (x2 + x3) < 0 ∨ 48 ≤ (x2 + x3).toNatClampNeg then none else jv 42 17 [some (.ref 11), some (.int x1), some (.int x2), some (.int (x3 + 1)), some (.int (x4 + 1)), some (.int (σ 21 (x2 + x4).toNatClampNeg))] [] (jm_up σ 21 (x2 + x3).toNatClampNeg (σ 21 (x2 + x4).toNatClampNeg)))))))))) := by
  refine (sv_iload jM42 c42_17 rfl rfl).trans ?_
  refine (sv_aload_n jM42 c42_19 rfl rfl).trans ?_
  refine (sv_getf jM42 c42_20 rfl lf_0_42 (fg_11_10 _)).trans ?_
  refine (sv_iload_n jM42 c42_23 rfl rfl).trans ?_
  refine (sv_iald jM42 c42_24 rfl (ia_22 _)).trans ?_
  refine jif _ rfl ?_
  refine (sv_icmp_ge jM42 c42_25 rfl (t := 79) (by decide +kernel)).trans ?_
  refine jif _ ?_ ?_
  ·
    refine (sv_aload_n jM42 c42_79 rfl rfl).trans ?_
    refine (sv_getf jM42 c42_80 rfl lf_0_42 (fg_11_10 _)).trans ?_
    refine (sv_iload_n jM42 c42_83 rfl rfl).trans ?_
    refine (sv_iload_n jM42 c42_84 rfl rfl).trans ?_
    refine (sv_iast jM42 c42_85 rfl wi_22).trans ?_
    refine jif _ rfl ?_
    refine (sv_iinc (ls1 := [some (.ref 11), some (.int (x1 + 1)), some (.int x2), some (.int x3), some (.int x4), u5]) jM42 c42_86 rfl rfl (v := 1) (by decide +kernel) rfl).trans ?_
    refine (sv_goto jM42 c42_89 rfl (t := 2) (by decide +kernel)).trans ?_
    rfl
  ·
    refine (sv_aload_n jM42 c42_28 rfl rfl).trans ?_
    refine (sv_getf jM42 c42_29 rfl lf_0_39 (fg_11_9 _)).trans ?_
    refine (sv_iload_n jM42 c42_32 rfl rfl).trans ?_
    refine (sv_iload jM42 c42_33 rfl rfl).trans ?_
    refine (sv_iadd jM42 c42_35 rfl).trans ?_
    refine (sv_iald jM42 c42_36 rfl (ia_21 _)).trans ?_
    refine jif _ rfl ?_
    refine (sv_istore (ls1 := [some (.ref 11), some (.int x1), some (.int x2), some (.int x3), some (.int x4), some (.int (σ 21 (x2 + x4).toNatClampNeg))]) jM42 c42_37 rfl (Nat.lt_of_lt_of_eq (by decide +kernel : 5 < 6) rfl) rfl).trans ?_
    refine (sv_aload_n jM42 c42_39 rfl rfl).trans ?_
    refine (sv_getf jM42 c42_40 rfl lf_0_30 (fg_11_6 _)).trans ?_
    refine (sv_iload jM42 c42_43 rfl rfl).trans ?_
    refine (sv_iald jM42 c42_45 rfl (ia_18 _)).trans ?_
    refine jif _ rfl ?_
    refine (sv_if_eq jM42 c42_46 rfl (t := 60) (by decide +kernel)).trans ?_
    refine jif _ ?_ ?_
    ·
      refine (sv_aload_n jM42 c42_60 rfl rfl).trans ?_
      refine (sv_getf jM42 c42_61 rfl lf_0_39 (fg_11_9 _)).trans ?_
      refine (sv_iload_n jM42 c42_64 rfl rfl).trans ?_
      refine (sv_iload_n jM42 c42_65 rfl rfl).trans ?_
      refine (sv_iadd jM42 c42_66 rfl).trans ?_
      refine (sv_iload jM42 c42_67 rfl rfl).trans ?_
      refine (sv_iast jM42 c42_69 rfl wi_21).trans ?_
      refine jif _ rfl ?_
      refine (sv_iinc (ls1 := [some (.ref 11), some (.int x1), some (.int x2), some (.int (x3 + 1)), some (.int x4), some (.int (σ 21 (x2 + x4).toNatClampNeg))]) jM42 c42_70 rfl rfl (v := 1) (by decide +kernel) rfl).trans ?_
      refine (sv_iinc (ls1 := [some (.ref 11), some (.int x1), some (.int x2), some (.int (x3 + 1)), some (.int (x4 + 1)), some (.int (σ 21 (x2 + x4).toNatClampNeg))]) jM42 c42_73 rfl rfl (v := 1) (by decide +kernel) rfl).trans ?_
      refine (sv_goto jM42 c42_76 rfl (t := 17) (by decide +kernel)).trans ?_
      rfl
    ·
      refine (sv_aload_n jM42 c42_49 rfl rfl).trans ?_
      refine (sv_getf jM42 c42_50 rfl lf_0_30 (fg_11_6 _)).trans ?_
      refine (sv_iload jM42 c42_53 rfl rfl).trans ?_
      refine (sv_iald jM42 c42_55 rfl (ia_18 _)).trans ?_
      refine jif _ rfl ?_
      refine (sv_iconst jM42 c42_56 rfl (v := 2) (by decide +kernel)).trans ?_
      refine (sv_icmp_ne jM42 c42_57 rfl (t := 73) (by decide +kernel)).trans ?_
      refine jif _ ?_ ?_
      ·
        refine (sv_iinc (ls1 := [some (.ref 11), some (.int x1), some (.int x2), some (.int x3), some (.int (x4 + 1)), some (.int (σ 21 (x2 + x4).toNatClampNeg))]) jM42 c42_73 rfl rfl (v := 1) (by decide +kernel) rfl).trans ?_
        refine (sv_goto jM42 c42_76 rfl (t := 17) (by decide +kernel)).trans ?_
        rfl
      ·
        refine (sv_aload_n jM42 c42_60 rfl rfl).trans ?_
        refine (sv_getf jM42 c42_61 rfl lf_0_39 (fg_11_9 _)).trans ?_
        refine (sv_iload_n jM42 c42_64 rfl rfl).trans ?_
        refine (sv_iload_n jM42 c42_65 rfl rfl).trans ?_
        refine (sv_iadd jM42 c42_66 rfl).trans ?_
        refine (sv_iload jM42 c42_67 rfl rfl).trans ?_
        refine (sv_iast jM42 c42_69 rfl wi_21).trans ?_
        refine jif _ rfl ?_
        refine (sv_iinc (ls1 := [some (.ref 11), some (.int x1), some (.int x2), some (.int (x3 + 1)), some (.int x4), some (.int (σ 21 (x2 + x4).toNatClampNeg))]) jM42 c42_70 rfl rfl (v := 1) (by decide +kernel) rfl).trans ?_
        refine (sv_iinc (ls1 := [some (.ref 11), some (.int x1), some (.int x2), some (.int (x3 + 1)), some (.int (x4 + 1)), some (.int (σ 21 (x2 + x4).toNatClampNeg))]) jM42 c42_73 rfl rfl (v := 1) (by decide +kernel) rfl).trans ?_
        refine (sv_goto jM42 c42_76 rfl (t := 17) (by decide +kernel)).trans ?_
        rfl
set_option maxRecDepth 20000 in
set_option maxHeartbeats 4000000 in
theorem Batch_turnRow_11_in (x1 : Int32) (σ : jm_S) : jc 43 [(.ref 11), (.int x1)] σ = (if x1 < 0 ∨ 4 ≤ x1.toNatClampNeg then none else (if (σ 22 x1.toNatClampNeg) ≤ (1 : Int32) then some (none, σ) else (if (x1 * (12 : Int32)) < 0 ∨ 48 ≤ (x1 * (12 : Int32)).toNatClampNeg then none else (if ((x1 * (12 : Int32)) + (1 : Int32)) < 0 ∨ (x1 * (12 : Int32)) < 0 ∨ ((σ 22 x1.toNatClampNeg) - (1 : Int32)) < 0 ∨ 48 < ((x1 * (12 : Int32)) + (1 : Int32)).toNatClampNeg + ((σ 22 x1.toNatClampNeg) - (1 : Int32)).toNatClampNeg ∨ 48 < (x1 * (12 : Int32)).toNatClampNeg + ((σ 22 x1.toNatClampNeg) - (1 : Int32)).toNatClampNeg then none else (if (((x1 * (12 : Int32)) + (σ 22 x1.toNatClampNeg)) - (1 : Int32)) < 0 ∨ 48 ≤ (((x1 * (12 : Int32)) + (σ 22 x1.toNatClampNeg)) - (1 : Int32)).toNatClampNeg then none else some (none, (jm_up (jm_row σ 21 (va_cpy (σ 21) (σ 21) ((x1 * (12 : Int32)) + (1 : Int32)).toNatClampNeg (x1 * (12 : Int32)).toNatClampNeg ((σ 22 x1.toNatClampNeg) - (1 : Int32)).toNatClampNeg)) 21 (((x1 * (12 : Int32)) + (σ 22 x1.toNatClampNeg)) - (1 : Int32)).toNatClampNeg (σ 21 (x1 * (12 : Int32)).toNatClampNeg)))))))) := by
  refine (jc_of (ls1 := [some (.ref 11), some (.int x1), none, none, none]) ((jm_ini_of jM43).trans rfl)).trans ?_
  refine (sv_aload_n jM43 c43_0 rfl rfl).trans ?_
  refine (sv_getf jM43 c43_1 rfl lf_0_42 (fg_11_10 _)).trans ?_
  refine (sv_iload_n jM43 c43_4 rfl rfl).trans ?_
  refine (sv_iald jM43 c43_5 rfl (ia_22 _)).trans ?_
  refine jif _ rfl ?_
  refine (sv_istore_n (ls1 := [some (.ref 11), some (.int x1), some (.int (σ 22 x1.toNatClampNeg)), none, none]) jM43 c43_6 rfl (Nat.lt_of_lt_of_eq (by decide +kernel : 2 < 5) rfl) rfl).trans ?_
  refine (sv_iload_n jM43 c43_7 rfl rfl).trans ?_
  refine (sv_iconst jM43 c43_8 rfl (v := 1) (by decide +kernel)).trans ?_
  refine (sv_icmp_le jM43 c43_9 rfl (t := 55) (by decide +kernel)).trans ?_
  refine jif _ ?_ ?_
  ·
    exact sv_vret jM43 c43_55 rfl rfl
  ·
    refine (sv_iload_n jM43 c43_12 rfl rfl).trans ?_
    refine (sv_bipush jM43 c43_13 rfl (v := 12) (by decide +kernel)).trans ?_
    refine (sv_imul jM43 c43_15 rfl).trans ?_
    refine (sv_istore_n (ls1 := [some (.ref 11), some (.int x1), some (.int (σ 22 x1.toNatClampNeg)), some (.int (x1 * (12 : Int32))), none]) jM43 c43_16 rfl (Nat.lt_of_lt_of_eq (by decide +kernel : 3 < 5) rfl) rfl).trans ?_
    refine (sv_aload_n jM43 c43_17 rfl rfl).trans ?_
    refine (sv_getf jM43 c43_18 rfl lf_0_39 (fg_11_9 _)).trans ?_
    refine (sv_iload_n jM43 c43_21 rfl rfl).trans ?_
    refine (sv_iald jM43 c43_22 rfl (ia_21 _)).trans ?_
    refine jif _ rfl ?_
    refine (sv_istore (ls1 := [some (.ref 11), some (.int x1), some (.int (σ 22 x1.toNatClampNeg)), some (.int (x1 * (12 : Int32))), some (.int (σ 21 (x1 * (12 : Int32)).toNatClampNeg))]) jM43 c43_23 rfl (Nat.lt_of_lt_of_eq (by decide +kernel : 4 < 5) rfl) rfl).trans ?_
    refine (sv_aload_n jM43 c43_25 rfl rfl).trans ?_
    refine (sv_getf jM43 c43_26 rfl lf_0_39 (fg_11_9 _)).trans ?_
    refine (sv_iload_n jM43 c43_29 rfl rfl).trans ?_
    refine (sv_iconst jM43 c43_30 rfl (v := 1) (by decide +kernel)).trans ?_
    refine (sv_iadd jM43 c43_31 rfl).trans ?_
    refine (sv_aload_n jM43 c43_32 rfl rfl).trans ?_
    refine (sv_getf jM43 c43_33 rfl lf_0_39 (fg_11_9 _)).trans ?_
    refine (sv_iload_n jM43 c43_36 rfl rfl).trans ?_
    refine (sv_iload_n jM43 c43_37 rfl rfl).trans ?_
    refine (sv_iconst jM43 c43_38 rfl (v := 1) (by decide +kernel)).trans ?_
    refine (sv_isub jM43 c43_39 rfl).trans ?_
    refine (sv_cpy jM43 c43_40 rfl lm_0_85 (Nat.not_lt.mpr (Nat.le_of_ble_eq_true rfl)) wi_21 wi_21).trans ?_
    refine jif _ rfl ?_
    refine (sv_aload_n jM43 c43_43 rfl rfl).trans ?_
    refine (sv_getf jM43 c43_44 rfl lf_0_39 (fg_11_9 _)).trans ?_
    refine (sv_iload_n jM43 c43_47 rfl rfl).trans ?_
    refine (sv_iload_n jM43 c43_48 rfl rfl).trans ?_
    refine (sv_iadd jM43 c43_49 rfl).trans ?_
    refine (sv_iconst jM43 c43_50 rfl (v := 1) (by decide +kernel)).trans ?_
    refine (sv_isub jM43 c43_51 rfl).trans ?_
    refine (sv_iload jM43 c43_52 rfl rfl).trans ?_
    refine (sv_iast jM43 c43_54 rfl wi_21).trans ?_
    refine jif _ rfl ?_
    exact sv_vret jM43 c43_55 rfl rfl
set_option maxRecDepth 20000 in
set_option maxHeartbeats 4000000 in
theorem Batch_warmRow_11_in (x1 : Int32) (x2 : Int32) (x3 : Int32) (σ : jm_S) : jc 44 [(.ref 11), (.int x1), (.int x2), (.int x3)] σ = (if x1 < 0 ∨ 4 ≤ x1.toNatClampNeg then none else jv 44 24 [some (.ref 11), some (.int x1), some (.int x2), some (.int x3), some (.int x2), some (.int (x1 * (12 : Int32))), some (.int ((x1 * (12 : Int32)) + (σ 22 x1.toNatClampNeg))), some (.int (x1 * (12 : Int32))), none, none] [] σ) := by
  refine (jc_of (ls1 := [some (.ref 11), some (.int x1), some (.int x2), some (.int x3), none, none, none, none, none, none]) ((jm_ini_of jM44).trans rfl)).trans ?_
  refine (sv_iload_n jM44 c44_0 rfl rfl).trans ?_
  refine (sv_istore (ls1 := [some (.ref 11), some (.int x1), some (.int x2), some (.int x3), some (.int x2), none, none, none, none, none]) jM44 c44_1 rfl (Nat.lt_of_lt_of_eq (by decide +kernel : 4 < 10) rfl) rfl).trans ?_
  refine (sv_iload_n jM44 c44_3 rfl rfl).trans ?_
  refine (sv_bipush jM44 c44_4 rfl (v := 12) (by decide +kernel)).trans ?_
  refine (sv_imul jM44 c44_6 rfl).trans ?_
  refine (sv_istore (ls1 := [some (.ref 11), some (.int x1), some (.int x2), some (.int x3), some (.int x2), some (.int (x1 * (12 : Int32))), none, none, none, none]) jM44 c44_7 rfl (Nat.lt_of_lt_of_eq (by decide +kernel : 5 < 10) rfl) rfl).trans ?_
  refine (sv_iload jM44 c44_9 rfl rfl).trans ?_
  refine (sv_aload_n jM44 c44_11 rfl rfl).trans ?_
  refine (sv_getf jM44 c44_12 rfl lf_0_42 (fg_11_10 _)).trans ?_
  refine (sv_iload_n jM44 c44_15 rfl rfl).trans ?_
  refine (sv_iald jM44 c44_16 rfl (ia_22 _)).trans ?_
  refine jif _ rfl ?_
  refine (sv_iadd jM44 c44_17 rfl).trans ?_
  refine (sv_istore (ls1 := [some (.ref 11), some (.int x1), some (.int x2), some (.int x3), some (.int x2), some (.int (x1 * (12 : Int32))), some (.int ((x1 * (12 : Int32)) + (σ 22 x1.toNatClampNeg))), none, none, none]) jM44 c44_18 rfl (Nat.lt_of_lt_of_eq (by decide +kernel : 6 < 10) rfl) rfl).trans ?_
  refine (sv_iload jM44 c44_20 rfl rfl).trans ?_
  refine (sv_istore (ls1 := [some (.ref 11), some (.int x1), some (.int x2), some (.int x3), some (.int x2), some (.int (x1 * (12 : Int32))), some (.int ((x1 * (12 : Int32)) + (σ 22 x1.toNatClampNeg))), some (.int (x1 * (12 : Int32))), none, none]) jM44 c44_22 rfl (Nat.lt_of_lt_of_eq (by decide +kernel : 7 < 10) rfl) rfl).trans ?_
  rfl
set_option maxRecDepth 20000 in
set_option maxHeartbeats 4000000 in
theorem Batch_warmRow_11_L24 (x1 : Int32) (x2 : Int32) (x3 : Int32) (x4 : Int32) (x5 : Int32) (x6 : Int32) (x7 : Int32) (u8 : Option Value) (u9 : Option Value) (σ : jm_S) : jv 44 24 [some (.ref 11), some (.int x1), some (.int x2), some (.int x3), some (.int x4), some (.int x5), some (.int x6), some (.int x7), u8, u9] [] σ = (if x6 ≤ x7 then some (none, σ) else (if x7 < 0 ∨ 48 ≤ x7.toNatClampNeg then none else (if (σ 21 x7.toNatClampNeg) < 0 ∨ 12 ≤ (σ 21 x7.toNatClampNeg).toNatClampNeg then none else (if x3 = 0 then none else (if (σ 21 x7.toNatClampNeg) < 0 ∨ 12 ≤ (σ 21 x7.toNatClampNeg).toNatClampNeg then none else jv 44 24 [some (.ref 11), some (.int x1), some (.int x2), some (.int x3), some (.int (x4 / (2 : Int32))), some (.int x5), some (.int x6), some (.int (x7 + 1)), some (.int (σ 21 x7.toNatClampNeg)), some (.int ((σ 15 (σ 21 x7.toNatClampNeg).toNatClampNeg) + x4))] [] (jm_up σ 15 (σ 21 x7.toNatClampNeg).toNatClampNeg (((σ 15 (σ 21 x7.toNatClampNeg).toNatClampNeg) + x4) - (((σ 15 (σ 21 x7.toNatClampNeg).toNatClampNeg) + x4) / x3)))))))) := by
  refine (sv_iload jM44 c44_24 rfl rfl).trans ?_
  refine (sv_iload jM44 c44_26 rfl rfl).trans ?_
  refine (sv_icmp_ge jM44 c44_28 rfl (t := 78) (by decide +kernel)).trans ?_
  refine jif _ ?_ ?_
  ·
    exact sv_vret jM44 c44_78 rfl rfl
  ·
    refine (sv_aload_n jM44 c44_31 rfl rfl).trans ?_
    refine (sv_getf jM44 c44_32 rfl lf_0_39 (fg_11_9 _)).trans ?_
    refine (sv_iload jM44 c44_35 rfl rfl).trans ?_
    refine (sv_iald jM44 c44_37 rfl (ia_21 _)).trans ?_
    refine jif _ rfl ?_
    refine (sv_istore (ls1 := [some (.ref 11), some (.int x1), some (.int x2), some (.int x3), some (.int x4), some (.int x5), some (.int x6), some (.int x7), some (.int (σ 21 x7.toNatClampNeg)), u9]) jM44 c44_38 rfl (Nat.lt_of_lt_of_eq (by decide +kernel : 8 < 10) rfl) rfl).trans ?_
    refine (sv_aload_n jM44 c44_40 rfl rfl).trans ?_
    refine (sv_getf jM44 c44_41 rfl lf_0_21 (fg_11_3 _)).trans ?_
    refine (sv_iload jM44 c44_44 rfl rfl).trans ?_
    refine (sv_iald jM44 c44_46 rfl (ia_15 _)).trans ?_
    refine jif _ rfl ?_
    refine (sv_iload jM44 c44_47 rfl rfl).trans ?_
    refine (sv_iadd jM44 c44_49 rfl).trans ?_
    refine (sv_istore (ls1 := [some (.ref 11), some (.int x1), some (.int x2), some (.int x3), some (.int x4), some (.int x5), some (.int x6), some (.int x7), some (.int (σ 21 x7.toNatClampNeg)), some (.int ((σ 15 (σ 21 x7.toNatClampNeg).toNatClampNeg) + x4))]) jM44 c44_50 rfl (Nat.lt_of_lt_of_eq (by decide +kernel : 9 < 10) rfl) rfl).trans ?_
    refine (sv_aload_n jM44 c44_52 rfl rfl).trans ?_
    refine (sv_getf jM44 c44_53 rfl lf_0_21 (fg_11_3 _)).trans ?_
    refine (sv_iload jM44 c44_56 rfl rfl).trans ?_
    refine (sv_iload jM44 c44_58 rfl rfl).trans ?_
    refine (sv_iload jM44 c44_60 rfl rfl).trans ?_
    refine (sv_iload_n jM44 c44_62 rfl rfl).trans ?_
    refine (sv_idivx jM44 c44_63 rfl).trans ?_
    refine jif _ rfl ?_
    refine (sv_isub jM44 c44_64 rfl).trans ?_
    refine (sv_iast jM44 c44_65 rfl wi_15).trans ?_
    refine jif _ rfl ?_
    refine (sv_iload jM44 c44_66 rfl rfl).trans ?_
    refine (sv_iconst jM44 c44_68 rfl (v := 2) (by decide +kernel)).trans ?_
    refine (sv_idiv jM44 c44_69 rfl (by decide +kernel)).trans ?_
    refine (sv_istore (ls1 := [some (.ref 11), some (.int x1), some (.int x2), some (.int x3), some (.int (x4 / (2 : Int32))), some (.int x5), some (.int x6), some (.int x7), some (.int (σ 21 x7.toNatClampNeg)), some (.int ((σ 15 (σ 21 x7.toNatClampNeg).toNatClampNeg) + x4))]) jM44 c44_70 rfl (Nat.lt_of_lt_of_eq (by decide +kernel : 4 < 10) rfl) rfl).trans ?_
    refine (sv_iinc (ls1 := [some (.ref 11), some (.int x1), some (.int x2), some (.int x3), some (.int (x4 / (2 : Int32))), some (.int x5), some (.int x6), some (.int (x7 + 1)), some (.int (σ 21 x7.toNatClampNeg)), some (.int ((σ 15 (σ 21 x7.toNatClampNeg).toNatClampNeg) + x4))]) jM44 c44_72 rfl rfl (v := 1) (by decide +kernel) rfl).trans ?_
    refine (sv_goto jM44 c44_75 rfl (t := 24) (by decide +kernel)).trans ?_
    rfl
set_option maxRecDepth 20000 in
set_option maxHeartbeats 4000000 in
theorem Batch_strain_11_in (x1 : Int32) (σ : jm_S) : jc 45 [(.ref 11), (.int x1)] σ = (if x1 < 0 ∨ 12 ≤ x1.toNatClampNeg then none else (if x1 < 0 ∨ 12 ≤ x1.toNatClampNeg then none else (if (σ 15 x1.toNatClampNeg) ≤ (100 : Int32) then (if x1 < 0 ∨ 12 ≤ x1.toNatClampNeg then none else (if x1 < 0 ∨ 12 ≤ x1.toNatClampNeg then none else (if x1 < 0 ∨ 12 ≤ x1.toNatClampNeg then none else (if (((jm_up σ 17 x1.toNatClampNeg (0 : Int32)) 17 x1.toNatClampNeg) - (σ 11 13)) < ((σ 11 12) * (if (1 : Int32) < ((σ 12 x1.toNatClampNeg) - ((σ 16 x1.toNatClampNeg) / (20 : Int32))) then ((σ 12 x1.toNatClampNeg) - ((σ 16 x1.toNatClampNeg) / (20 : Int32))) else (1 : Int32))) then (if x1 < 0 ∨ 12 ≤ x1.toNatClampNeg then none else (if (σ 15 x1.toNatClampNeg) ≤ (250 : Int32) then (if x1 < 0 ∨ 12 ≤ x1.toNatClampNeg then none else (if x1 < 0 ∨ 12 ≤ x1.toNatClampNeg then none else (if x1 < 0 ∨ 12 ≤ x1.toNatClampNeg then none else some (none, (jm_up (jm_up σ 17 x1.toNatClampNeg (0 : Int32)) 16 x1.toNatClampNeg (if (0 : Int32) < ((σ 16 x1.toNatClampNeg) - ((((jm_up σ 17 x1.toNatClampNeg (0 : Int32)) 17 x1.toNatClampNeg) * (σ 14 x1.toNatClampNeg)) / (100 : Int32))) then ((σ 16 x1.toNatClampNeg) - ((((jm_up σ 17 x1.toNatClampNeg (0 : Int32)) 17 x1.toNatClampNeg) * (σ 14 x1.toNatClampNeg)) / (100 : Int32))) else (0 : Int32))))))) else jbv (jc 46 [(.ref 11), (.int x1), (.int (2 : Int32))] (jm_up σ 17 x1.toNatClampNeg (0 : Int32))) (fun τ1 => some (none, τ1)))) else jbv (jc 46 [(.ref 11), (.int x1), (.int (1 : Int32))] (jm_up σ 17 x1.toNatClampNeg (0 : Int32))) (fun τ2 => (if x1 < 0 ∨ 12 ≤ x1.toNatClampNeg then none else (if x1 < 0 ∨ 12 ≤ x1.toNatClampNeg then none else some (none, (jm_up (jm_up τ2 20 x1.toNatClampNeg (((τ2 13 x1.toNatClampNeg) * (((jm_up σ 17 x1.toNatClampNeg (0 : Int32)) 17 x1.toNatClampNeg) - (σ 11 13))) / (10 : Int32))) 11 16 (1 : Int32)))))))))) else (if x1 < 0 ∨ 12 ≤ x1.toNatClampNeg then none else (if x1 < 0 ∨ 12 ≤ x1.toNatClampNeg then none else (if x1 < 0 ∨ 12 ≤ x1.toNatClampNeg then none else (if x1 < 0 ∨ 12 ≤ x1.toNatClampNeg then none else (if (((jm_up σ 17 x1.toNatClampNeg ((((σ 15 x1.toNatClampNeg) - (100 : Int32)) * (σ 16 x1.toNatClampNeg)) / (40 : Int32))) 17 x1.toNatClampNeg) - (σ 11 13)) < ((σ 11 12) * (if (1 : Int32) < ((σ 12 x1.toNatClampNeg) - ((σ 16 x1.toNatClampNeg) / (20 : Int32))) then ((σ 12 x1.toNatClampNeg) - ((σ 16 x1.toNatClampNeg) / (20 : Int32))) else (1 : Int32))) then (if x1 < 0 ∨ 12 ≤ x1.toNatClampNeg then none else (if (σ 15 x1.toNatClampNeg) ≤ (250 : Int32) then (if x1 < 0 ∨ 12 ≤ x1.toNatClampNeg then none else (if x1 < 0 ∨ 12 ≤ x1.toNatClampNeg then none else (if x1 < 0 ∨ 12 ≤ x1.toNatClampNeg then none else some (none, (jm_up (jm_up σ 17 x1.toNatClampNeg ((((σ 15 x1.toNatClampNeg) - (100 : Int32)) * (σ 16 x1.toNatClampNeg)) / (40 : Int32))) 16 x1.toNatClampNeg (if (0 : Int32) < ((σ 16 x1.toNatClampNeg) - ((((jm_up σ 17 x1.toNatClampNeg ((((σ 15 x1.toNatClampNeg) - (100 : Int32)) * (σ 16 x1.toNatClampNeg)) / (40 : Int32))) 17 x1.toNatClampNeg) * (σ 14 x1.toNatClampNeg)) / (100 : Int32))) then ((σ 16 x1.toNatClampNeg) - ((((jm_up σ 17 x1.toNatClampNeg ((((σ 15 x1.toNatClampNeg) - (100 : Int32)) * (σ 16 x1.toNatClampNeg)) / (40 : Int32))) 17 x1.toNatClampNeg) * (σ 14 x1.toNatClampNeg)) / (100 : Int32))) else (0 : Int32))))))) else jbv (jc 46 [(.ref 11), (.int x1), (.int (2 : Int32))] (jm_up σ 17 x1.toNatClampNeg ((((σ 15 x1.toNatClampNeg) - (100 : Int32)) * (σ 16 x1.toNatClampNeg)) / (40 : Int32)))) (fun τ3 => some (none, τ3)))) else jbv (jc 46 [(.ref 11), (.int x1), (.int (1 : Int32))] (jm_up σ 17 x1.toNatClampNeg ((((σ 15 x1.toNatClampNeg) - (100 : Int32)) * (σ 16 x1.toNatClampNeg)) / (40 : Int32)))) (fun τ4 => (if x1 < 0 ∨ 12 ≤ x1.toNatClampNeg then none else (if x1 < 0 ∨ 12 ≤ x1.toNatClampNeg then none else some (none, (jm_up (jm_up τ4 20 x1.toNatClampNeg (((τ4 13 x1.toNatClampNeg) * (((jm_up σ 17 x1.toNatClampNeg ((((σ 15 x1.toNatClampNeg) - (100 : Int32)) * (σ 16 x1.toNatClampNeg)) / (40 : Int32))) 17 x1.toNatClampNeg) - (σ 11 13))) / (10 : Int32))) 11 16 (1 : Int32)))))))))))))) := by
  refine (jc_of (ls1 := [some (.ref 11), some (.int x1), none, none, none]) ((jm_ini_of jM45).trans rfl)).trans ?_
  refine (sv_aload_n jM45 c45_0 rfl rfl).trans ?_
  refine (sv_getf jM45 c45_1 rfl lf_0_24 (fg_11_4 _)).trans ?_
  refine (sv_iload_n jM45 c45_4 rfl rfl).trans ?_
  refine (sv_iald jM45 c45_5 rfl (ia_16 _)).trans ?_
  refine jif _ rfl ?_
  refine (sv_istore_n (ls1 := [some (.ref 11), some (.int x1), some (.int (σ 16 x1.toNatClampNeg)), none, none]) jM45 c45_6 rfl (Nat.lt_of_lt_of_eq (by decide +kernel : 2 < 5) rfl) rfl).trans ?_
  refine (sv_aload_n jM45 c45_7 rfl rfl).trans ?_
  refine (sv_getf jM45 c45_8 rfl lf_0_27 (fg_11_5 _)).trans ?_
  refine (sv_iload_n jM45 c45_11 rfl rfl).trans ?_
  refine (sv_aload_n jM45 c45_12 rfl rfl).trans ?_
  refine (sv_getf jM45 c45_13 rfl lf_0_21 (fg_11_3 _)).trans ?_
  refine (sv_iload_n jM45 c45_16 rfl rfl).trans ?_
  refine (sv_iald jM45 c45_17 rfl (ia_15 _)).trans ?_
  refine jif _ rfl ?_
  refine (sv_bipush jM45 c45_18 rfl (v := 100) (by decide +kernel)).trans ?_
  refine (sv_icmp_le jM45 c45_20 rfl (t := 40) (by decide +kernel)).trans ?_
  refine jif _ ?_ ?_
  ·
    refine (sv_iconst jM45 c45_40 rfl (v := 0) (by decide +kernel)).trans ?_
    refine (sv_iast jM45 c45_41 rfl wi_17).trans ?_
    refine jif _ rfl ?_
    refine (sv_iconst jM45 c45_42 rfl (v := 1) (by decide +kernel)).trans ?_
    refine (sv_aload_n jM45 c45_43 rfl rfl).trans ?_
    refine (sv_getf jM45 c45_44 rfl lf_0_9 (fg_11_0 _)).trans ?_
    refine (sv_iload_n jM45 c45_47 rfl rfl).trans ?_
    refine (sv_iald jM45 c45_48 rfl (ia_12 _)).trans ?_
    refine jif _ rfl ?_
    refine (sv_iload_n jM45 c45_49 rfl rfl).trans ?_
    refine (sv_bipush jM45 c45_50 rfl (v := 20) (by decide +kernel)).trans ?_
    refine (sv_idiv jM45 c45_52 rfl (by decide +kernel)).trans ?_
    refine (sv_isub jM45 c45_53 rfl).trans ?_
    refine (sv_max jM45 c45_54 rfl lm_0_121 (Nat.not_lt.mpr (Nat.le_of_ble_eq_true rfl))).trans ?_
    refine (sv_istore_n (ls1 := [some (.ref 11), some (.int x1), some (.int (σ 16 x1.toNatClampNeg)), some (.int (if (1 : Int32) < ((σ 12 x1.toNatClampNeg) - ((σ 16 x1.toNatClampNeg) / (20 : Int32))) then ((σ 12 x1.toNatClampNeg) - ((σ 16 x1.toNatClampNeg) / (20 : Int32))) else (1 : Int32))), none]) jM45 c45_57 rfl (Nat.lt_of_lt_of_eq (by decide +kernel : 3 < 5) rfl) rfl).trans ?_
    refine (sv_aload_n jM45 c45_58 rfl rfl).trans ?_
    refine (sv_getf jM45 c45_59 rfl lf_0_27 (fg_11_5 _)).trans ?_
    refine (sv_iload_n jM45 c45_62 rfl rfl).trans ?_
    refine (sv_iald jM45 c45_63 rfl (ia_17 _)).trans ?_
    refine jif _ rfl ?_
    refine (sv_aload_n jM45 c45_64 rfl rfl).trans ?_
    refine (sv_getf jM45 c45_65 rfl lf_0_52 (fg_11_13 _)).trans ?_
    refine (sv_isub jM45 c45_68 rfl).trans ?_
    refine (sv_istore (ls1 := [some (.ref 11), some (.int x1), some (.int (σ 16 x1.toNatClampNeg)), some (.int (if (1 : Int32) < ((σ 12 x1.toNatClampNeg) - ((σ 16 x1.toNatClampNeg) / (20 : Int32))) then ((σ 12 x1.toNatClampNeg) - ((σ 16 x1.toNatClampNeg) / (20 : Int32))) else (1 : Int32))), some (.int (((jm_up σ 17 x1.toNatClampNeg (0 : Int32)) 17 x1.toNatClampNeg) - (σ 11 13)))]) jM45 c45_69 rfl (Nat.lt_of_lt_of_eq (by decide +kernel : 4 < 5) rfl) rfl).trans ?_
    refine (sv_iload jM45 c45_71 rfl rfl).trans ?_
    refine (sv_aload_n jM45 c45_73 rfl rfl).trans ?_
    refine (sv_getf jM45 c45_74 rfl lf_0_49 (fg_11_12 _)).trans ?_
    refine (sv_iload_n jM45 c45_77 rfl rfl).trans ?_
    refine (sv_imul jM45 c45_78 rfl).trans ?_
    refine (sv_icmp_lt jM45 c45_79 rfl (t := 114) (by decide +kernel)).trans ?_
    refine jif _ ?_ ?_
    ·
      refine (sv_aload_n jM45 c45_114 rfl rfl).trans ?_
      refine (sv_getf jM45 c45_115 rfl lf_0_21 (fg_11_3 _)).trans ?_
      refine (sv_iload_n jM45 c45_118 rfl rfl).trans ?_
      refine (sv_iald jM45 c45_119 rfl (ia_15 _)).trans ?_
      refine jif _ rfl ?_
      refine (sv_sipush jM45 c45_120 rfl (v := 250) (by decide +kernel)).trans ?_
      refine (sv_icmp_le jM45 c45_123 rfl (t := 135) (by decide +kernel)).trans ?_
      refine jif _ ?_ ?_
      ·
        refine (sv_aload_n jM45 c45_135 rfl rfl).trans ?_
        refine (sv_getf jM45 c45_136 rfl lf_0_24 (fg_11_4 _)).trans ?_
        refine (sv_iload_n jM45 c45_139 rfl rfl).trans ?_
        refine (sv_iconst jM45 c45_140 rfl (v := 0) (by decide +kernel)).trans ?_
        refine (sv_iload_n jM45 c45_141 rfl rfl).trans ?_
        refine (sv_aload_n jM45 c45_142 rfl rfl).trans ?_
        refine (sv_getf jM45 c45_143 rfl lf_0_27 (fg_11_5 _)).trans ?_
        refine (sv_iload_n jM45 c45_146 rfl rfl).trans ?_
        refine (sv_iald jM45 c45_147 rfl (ia_17 _)).trans ?_
        refine jif _ rfl ?_
        refine (sv_aload_n jM45 c45_148 rfl rfl).trans ?_
        refine (sv_getf jM45 c45_149 rfl lf_0_18 (fg_11_2 _)).trans ?_
        refine (sv_iload_n jM45 c45_152 rfl rfl).trans ?_
        refine (sv_iald jM45 c45_153 rfl (ia_14 _)).trans ?_
        refine jif _ rfl ?_
        refine (sv_imul jM45 c45_154 rfl).trans ?_
        refine (sv_bipush jM45 c45_155 rfl (v := 100) (by decide +kernel)).trans ?_
        refine (sv_idiv jM45 c45_157 rfl (by decide +kernel)).trans ?_
        refine (sv_isub jM45 c45_158 rfl).trans ?_
        refine (sv_max jM45 c45_159 rfl lm_0_121 (Nat.not_lt.mpr (Nat.le_of_ble_eq_true rfl))).trans ?_
        refine (sv_iast jM45 c45_162 rfl wi_16).trans ?_
        refine jif _ rfl ?_
        exact sv_vret jM45 c45_163 rfl rfl
      ·
        refine (sv_aload_n jM45 c45_126 rfl rfl).trans ?_
        refine (sv_iload_n jM45 c45_127 rfl rfl).trans ?_
        refine (sv_iconst jM45 c45_128 rfl (v := 2) (by decide +kernel)).trans ?_
        refine (sv_callvv (pl := 0) jM45 c45_129 rfl (jm_call_v (a := 11) (as := [(.int x1), (.int (2 : Int32))]) (rest := []) lm_0_126 rfl jM46 rfl rfl rfl rfl rfl) jM46 rfl rfl).trans ?_
        refine jbv_c (fun τ1 => ?_)
        refine (sv_goto jM45 c45_132 rfl (t := 163) (by decide +kernel)).trans ?_
        exact sv_vret jM45 c45_163 rfl rfl
    ·
      refine (sv_aload_n jM45 c45_82 rfl rfl).trans ?_
      refine (sv_iload_n jM45 c45_83 rfl rfl).trans ?_
      refine (sv_iconst jM45 c45_84 rfl (v := 1) (by decide +kernel)).trans ?_
      refine (sv_callvv (pl := 0) jM45 c45_85 rfl (jm_call_v (a := 11) (as := [(.int x1), (.int (1 : Int32))]) (rest := []) lm_0_126 rfl jM46 rfl rfl rfl rfl rfl) jM46 rfl rfl).trans ?_
      refine jbv_c (fun τ2 => ?_)
      refine (sv_aload_n jM45 c45_88 rfl rfl).trans ?_
      refine (sv_getf jM45 c45_89 rfl lf_0_36 (fg_11_8 _)).trans ?_
      refine (sv_iload_n jM45 c45_92 rfl rfl).trans ?_
      refine (sv_aload_n jM45 c45_93 rfl rfl).trans ?_
      refine (sv_getf jM45 c45_94 rfl lf_0_15 (fg_11_1 _)).trans ?_
      refine (sv_iload_n jM45 c45_97 rfl rfl).trans ?_
      refine (sv_iald jM45 c45_98 rfl (ia_13 _)).trans ?_
      refine jif _ rfl ?_
      refine (sv_iload jM45 c45_99 rfl rfl).trans ?_
      refine (sv_imul jM45 c45_101 rfl).trans ?_
      refine (sv_bipush jM45 c45_102 rfl (v := 10) (by decide +kernel)).trans ?_
      refine (sv_idiv jM45 c45_104 rfl (by decide +kernel)).trans ?_
      refine (sv_iast jM45 c45_105 rfl wi_20).trans ?_
      refine jif _ rfl ?_
      refine (sv_aload_n jM45 c45_106 rfl rfl).trans ?_
      refine (sv_iconst jM45 c45_107 rfl (v := 1) (by decide +kernel)).trans ?_
      refine (sv_putf jM45 c45_108 rfl lf_0_61 (pf_11_16 _ _ (by decide +kernel))).trans ?_
      refine (sv_goto jM45 c45_111 rfl (t := 163) (by decide +kernel)).trans ?_
      exact sv_vret jM45 c45_163 rfl rfl
  ·
    refine (sv_aload_n jM45 c45_23 rfl rfl).trans ?_
    refine (sv_getf jM45 c45_24 rfl lf_0_21 (fg_11_3 _)).trans ?_
    refine (sv_iload_n jM45 c45_27 rfl rfl).trans ?_
    refine (sv_iald jM45 c45_28 rfl (ia_15 _)).trans ?_
    refine jif _ rfl ?_
    refine (sv_bipush jM45 c45_29 rfl (v := 100) (by decide +kernel)).trans ?_
    refine (sv_isub jM45 c45_31 rfl).trans ?_
    refine (sv_iload_n jM45 c45_32 rfl rfl).trans ?_
    refine (sv_imul jM45 c45_33 rfl).trans ?_
    refine (sv_bipush jM45 c45_34 rfl (v := 40) (by decide +kernel)).trans ?_
    refine (sv_idiv jM45 c45_36 rfl (by decide +kernel)).trans ?_
    refine (sv_goto jM45 c45_37 rfl (t := 41) (by decide +kernel)).trans ?_
    refine (sv_iast jM45 c45_41 rfl wi_17).trans ?_
    refine jif _ rfl ?_
    refine (sv_iconst jM45 c45_42 rfl (v := 1) (by decide +kernel)).trans ?_
    refine (sv_aload_n jM45 c45_43 rfl rfl).trans ?_
    refine (sv_getf jM45 c45_44 rfl lf_0_9 (fg_11_0 _)).trans ?_
    refine (sv_iload_n jM45 c45_47 rfl rfl).trans ?_
    refine (sv_iald jM45 c45_48 rfl (ia_12 _)).trans ?_
    refine jif _ rfl ?_
    refine (sv_iload_n jM45 c45_49 rfl rfl).trans ?_
    refine (sv_bipush jM45 c45_50 rfl (v := 20) (by decide +kernel)).trans ?_
    refine (sv_idiv jM45 c45_52 rfl (by decide +kernel)).trans ?_
    refine (sv_isub jM45 c45_53 rfl).trans ?_
    refine (sv_max jM45 c45_54 rfl lm_0_121 (Nat.not_lt.mpr (Nat.le_of_ble_eq_true rfl))).trans ?_
    refine (sv_istore_n (ls1 := [some (.ref 11), some (.int x1), some (.int (σ 16 x1.toNatClampNeg)), some (.int (if (1 : Int32) < ((σ 12 x1.toNatClampNeg) - ((σ 16 x1.toNatClampNeg) / (20 : Int32))) then ((σ 12 x1.toNatClampNeg) - ((σ 16 x1.toNatClampNeg) / (20 : Int32))) else (1 : Int32))), none]) jM45 c45_57 rfl (Nat.lt_of_lt_of_eq (by decide +kernel : 3 < 5) rfl) rfl).trans ?_
    refine (sv_aload_n jM45 c45_58 rfl rfl).trans ?_
    refine (sv_getf jM45 c45_59 rfl lf_0_27 (fg_11_5 _)).trans ?_
    refine (sv_iload_n jM45 c45_62 rfl rfl).trans ?_
    refine (sv_iald jM45 c45_63 rfl (ia_17 _)).trans ?_
    refine jif _ rfl ?_
    refine (sv_aload_n jM45 c45_64 rfl rfl).trans ?_
    refine (sv_getf jM45 c45_65 rfl lf_0_52 (fg_11_13 _)).trans ?_
    refine (sv_isub jM45 c45_68 rfl).trans ?_
    refine (sv_istore (ls1 := [some (.ref 11), some (.int x1), some (.int (σ 16 x1.toNatClampNeg)), some (.int (if (1 : Int32) < ((σ 12 x1.toNatClampNeg) - ((σ 16 x1.toNatClampNeg) / (20 : Int32))) then ((σ 12 x1.toNatClampNeg) - ((σ 16 x1.toNatClampNeg) / (20 : Int32))) else (1 : Int32))), some (.int (((jm_up σ 17 x1.toNatClampNeg ((((σ 15 x1.toNatClampNeg) - (100 : Int32)) * (σ 16 x1.toNatClampNeg)) / (40 : Int32))) 17 x1.toNatClampNeg) - (σ 11 13)))]) jM45 c45_69 rfl (Nat.lt_of_lt_of_eq (by decide +kernel : 4 < 5) rfl) rfl).trans ?_
    refine (sv_iload jM45 c45_71 rfl rfl).trans ?_
    refine (sv_aload_n jM45 c45_73 rfl rfl).trans ?_
    refine (sv_getf jM45 c45_74 rfl lf_0_49 (fg_11_12 _)).trans ?_
    refine (sv_iload_n jM45 c45_77 rfl rfl).trans ?_
    refine (sv_imul jM45 c45_78 rfl).trans ?_
    refine (sv_icmp_lt jM45 c45_79 rfl (t := 114) (by decide +kernel)).trans ?_
    refine jif _ ?_ ?_
    ·
      refine (sv_aload_n jM45 c45_114 rfl rfl).trans ?_
      refine (sv_getf jM45 c45_115 rfl lf_0_21 (fg_11_3 _)).trans ?_
      refine (sv_iload_n jM45 c45_118 rfl rfl).trans ?_
      refine (sv_iald jM45 c45_119 rfl (ia_15 _)).trans ?_
      refine jif _ rfl ?_
      refine (sv_sipush jM45 c45_120 rfl (v := 250) (by decide +kernel)).trans ?_
      refine (sv_icmp_le jM45 c45_123 rfl (t := 135) (by decide +kernel)).trans ?_
      refine jif _ ?_ ?_
      ·
        refine (sv_aload_n jM45 c45_135 rfl rfl).trans ?_
        refine (sv_getf jM45 c45_136 rfl lf_0_24 (fg_11_4 _)).trans ?_
        refine (sv_iload_n jM45 c45_139 rfl rfl).trans ?_
        refine (sv_iconst jM45 c45_140 rfl (v := 0) (by decide +kernel)).trans ?_
        refine (sv_iload_n jM45 c45_141 rfl rfl).trans ?_
        refine (sv_aload_n jM45 c45_142 rfl rfl).trans ?_
        refine (sv_getf jM45 c45_143 rfl lf_0_27 (fg_11_5 _)).trans ?_
        refine (sv_iload_n jM45 c45_146 rfl rfl).trans ?_
        refine (sv_iald jM45 c45_147 rfl (ia_17 _)).trans ?_
        refine jif _ rfl ?_
        refine (sv_aload_n jM45 c45_148 rfl rfl).trans ?_
        refine (sv_getf jM45 c45_149 rfl lf_0_18 (fg_11_2 _)).trans ?_
        refine (sv_iload_n jM45 c45_152 rfl rfl).trans ?_
        refine (sv_iald jM45 c45_153 rfl (ia_14 _)).trans ?_
        refine jif _ rfl ?_
        refine (sv_imul jM45 c45_154 rfl).trans ?_
        refine (sv_bipush jM45 c45_155 rfl (v := 100) (by decide +kernel)).trans ?_
        refine (sv_idiv jM45 c45_157 rfl (by decide +kernel)).trans ?_
        refine (sv_isub jM45 c45_158 rfl).trans ?_
        refine (sv_max jM45 c45_159 rfl lm_0_121 (Nat.not_lt.mpr (Nat.le_of_ble_eq_true rfl))).trans ?_
        refine (sv_iast jM45 c45_162 rfl wi_16).trans ?_
        refine jif _ rfl ?_
        exact sv_vret jM45 c45_163 rfl rfl
      ·
        refine (sv_aload_n jM45 c45_126 rfl rfl).trans ?_
        refine (sv_iload_n jM45 c45_127 rfl rfl).trans ?_
        refine (sv_iconst jM45 c45_128 rfl (v := 2) (by decide +kernel)).trans ?_
        refine (sv_callvv (pl := 0) jM45 c45_129 rfl (jm_call_v (a := 11) (as := [(.int x1), (.int (2 : Int32))]) (rest := []) lm_0_126 rfl jM46 rfl rfl rfl rfl rfl) jM46 rfl rfl).trans ?_
        refine jbv_c (fun τ3 => ?_)
        refine (sv_goto jM45 c45_132 rfl (t := 163) (by decide +kernel)).trans ?_
        exact sv_vret jM45 c45_163 rfl rfl
    ·
      refine (sv_aload_n jM45 c45_82 rfl rfl).trans ?_
      refine (sv_iload_n jM45 c45_83 rfl rfl).trans ?_
      refine (sv_iconst jM45 c45_84 rfl (v := 1) (by decide +kernel)).trans ?_
      refine (sv_callvv (pl := 0) jM45 c45_85 rfl (jm_call_v (a := 11) (as := [(.int x1), (.int (1 : Int32))]) (rest := []) lm_0_126 rfl jM46 rfl rfl rfl rfl rfl) jM46 rfl rfl).trans ?_
      refine jbv_c (fun τ4 => ?_)
      refine (sv_aload_n jM45 c45_88 rfl rfl).trans ?_
      refine (sv_getf jM45 c45_89 rfl lf_0_36 (fg_11_8 _)).trans ?_
      refine (sv_iload_n jM45 c45_92 rfl rfl).trans ?_
      refine (sv_aload_n jM45 c45_93 rfl rfl).trans ?_
      refine (sv_getf jM45 c45_94 rfl lf_0_15 (fg_11_1 _)).trans ?_
      refine (sv_iload_n jM45 c45_97 rfl rfl).trans ?_
      refine (sv_iald jM45 c45_98 rfl (ia_13 _)).trans ?_
      refine jif _ rfl ?_
      refine (sv_iload jM45 c45_99 rfl rfl).trans ?_
      refine (sv_imul jM45 c45_101 rfl).trans ?_
      refine (sv_bipush jM45 c45_102 rfl (v := 10) (by decide +kernel)).trans ?_
      refine (sv_idiv jM45 c45_104 rfl (by decide +kernel)).trans ?_
      refine (sv_iast jM45 c45_105 rfl wi_20).trans ?_
      refine jif _ rfl ?_
      refine (sv_aload_n jM45 c45_106 rfl rfl).trans ?_
      refine (sv_iconst jM45 c45_107 rfl (v := 1) (by decide +kernel)).trans ?_
      refine (sv_putf jM45 c45_108 rfl lf_0_61 (pf_11_16 _ _ (by decide +kernel))).trans ?_
      refine (sv_goto jM45 c45_111 rfl (t := 163) (by decide +kernel)).trans ?_
      exact sv_vret jM45 c45_163 rfl rfl
set_option maxRecDepth 20000 in
set_option maxHeartbeats 4000000 in
theorem Batch_end_23_in (x1 : Int32) (x2 : Int32) (σ : jm_S) : jc 46 [(.ref 23), (.int x1), (.int x2)] σ = (if x1 < 0 ∨ 12 ≤ x1.toNatClampNeg then none else (if x1 < 0 ∨ 12 ≤ x1.toNatClampNeg then none else some (none, (jm_up (jm_up (jm_up σ 30 x1.toNatClampNeg x2) 31 x1.toNatClampNeg (σ 23 15)) 23 14 ((σ 23 14) - (1 : Int32)))))) := by
  refine (jc_of (ls1 := [some (.ref 23), some (.int x1), some (.int x2)]) ((jm_ini_of jM46).trans rfl)).trans ?_
  refine (sv_aload_n jM46 c46_0 rfl rfl).trans ?_
  refine (sv_getf jM46 c46_1 rfl lf_0_30 (fg_23_6 _)).trans ?_
  refine (sv_iload_n jM46 c46_4 rfl rfl).trans ?_
  refine (sv_iload_n jM46 c46_5 rfl rfl).trans ?_
  refine (sv_iast jM46 c46_6 rfl wi_30).trans ?_
  refine jif _ rfl ?_
  refine (sv_aload_n jM46 c46_7 rfl rfl).trans ?_
  refine (sv_getf jM46 c46_8 rfl lf_0_33 (fg_23_7 _)).trans ?_
  refine (sv_iload_n jM46 c46_11 rfl rfl).trans ?_
  refine (sv_aload_n jM46 c46_12 rfl rfl).trans ?_
  refine (sv_getf jM46 c46_13 rfl lf_0_58 (fg_23_15 _)).trans ?_
  refine (sv_iast jM46 c46_16 rfl wi_31).trans ?_
  refine jif _ rfl ?_
  refine (sv_aload_n jM46 c46_17 rfl rfl).trans ?_
  refine (sv_dup jM46 c46_18 rfl rfl).trans ?_
  refine (sv_getf jM46 c46_19 rfl lf_0_55 (fg_23_14 _)).trans ?_
  refine (sv_iconst jM46 c46_22 rfl (v := 1) (by decide +kernel)).trans ?_
  refine (sv_isub jM46 c46_23 rfl).trans ?_
  refine (sv_putf jM46 c46_24 rfl lf_0_55 (pf_23_14 _ _)).trans ?_
  exact sv_vret jM46 c46_27 rfl rfl
set_option maxRecDepth 20000 in
set_option maxHeartbeats 4000000 in
theorem Batch_end_11_in (x1 : Int32) (x2 : Int32) (σ : jm_S) : jc 46 [(.ref 11), (.int x1), (.int x2)] σ = (if x1 < 0 ∨ 12 ≤ x1.toNatClampNeg then none else (if x1 < 0 ∨ 12 ≤ x1.toNatClampNeg then none else some (none, (jm_up (jm_up (jm_up σ 18 x1.toNatClampNeg x2) 19 x1.toNatClampNeg (σ 11 15)) 11 14 ((σ 11 14) - (1 : Int32)))))) := by
  refine (jc_of (ls1 := [some (.ref 11), some (.int x1), some (.int x2)]) ((jm_ini_of jM46).trans rfl)).trans ?_
  refine (sv_aload_n jM46 c46_0 rfl rfl).trans ?_
  refine (sv_getf jM46 c46_1 rfl lf_0_30 (fg_11_6 _)).trans ?_
  refine (sv_iload_n jM46 c46_4 rfl rfl).trans ?_
  refine (sv_iload_n jM46 c46_5 rfl rfl).trans ?_
  refine (sv_iast jM46 c46_6 rfl wi_18).trans ?_
  refine jif _ rfl ?_
  refine (sv_aload_n jM46 c46_7 rfl rfl).trans ?_
  refine (sv_getf jM46 c46_8 rfl lf_0_33 (fg_11_7 _)).trans ?_
  refine (sv_iload_n jM46 c46_11 rfl rfl).trans ?_
  refine (sv_aload_n jM46 c46_12 rfl rfl).trans ?_
  refine (sv_getf jM46 c46_13 rfl lf_0_58 (fg_11_15 _)).trans ?_
  refine (sv_iast jM46 c46_16 rfl wi_19).trans ?_
  refine jif _ rfl ?_
  refine (sv_aload_n jM46 c46_17 rfl rfl).trans ?_
  refine (sv_dup jM46 c46_18 rfl rfl).trans ?_
  refine (sv_getf jM46 c46_19 rfl lf_0_55 (fg_11_14 _)).trans ?_
  refine (sv_iconst jM46 c46_22 rfl (v := 1) (by decide +kernel)).trans ?_
  refine (sv_isub jM46 c46_23 rfl).trans ?_
  refine (sv_putf jM46 c46_24 rfl lf_0_55 (pf_11_14 _ _)).trans ?_
  exact sv_vret jM46 c46_27 rfl rfl
