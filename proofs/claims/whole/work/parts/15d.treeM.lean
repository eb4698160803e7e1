set_option maxRecDepth 20000 in
set_option maxHeartbeats 4000000 in
theorem M_sheet_in (x1 : Int32) (x2 : Int32) (x3 : Int32) (σ : jm_S) : jc 118 [(.ref 61), (.int x1), (.int x2), (.int x3)] σ = jbi (jc 119 [(.int x1)] σ) (fun r1 τ1 => (if r1 = 0 then some (some (.int (-2 : Int32)), τ1) else jbi (jc 120 [(.long x2.toInt64), (.long (0 : Int64)), (.long (2 : Int64))] τ1) (fun r2 τ2 => (if r2 = 0 then some (some (.int (-2 : Int32)), τ2) else (if x3 ≤ (60 : Int32) then (if 0 ≤ x3 then (if x1 < 0 ∨ 4 ≤ x1.toNatClampNeg then none else (if x1 < 0 ∨ 4 ≤ x1.toNatClampNeg then none else jv 118 55 [some (.ref 61), some (.int x1), some (.int x2), some (.int x3), some (.int (0 : Int32))] [] (jm_up (jm_up τ2 62 x1.toNatClampNeg x2) 63 x1.toNatClampNeg x3))) else jbi (jc 121 [(.ref 61), (.int (5 : Int32))] τ2) (fun r3 τ3 => some (some (.int r3), τ3))) else some (some (.int (-2 : Int32)), τ2)))))) := by
  refine (jc_of (ls1 := [some (.ref 61), some (.int x1), some (.int x2), some (.int x3), none]) ((jm_ini_of jM118).trans rfl)).trans ?_
  refine (sv_iload_n jM118 c118_0 rfl rfl).trans ?_
  refine (sv_callsi (pl := 0) jM118 c118_1 rfl (jm_call_s (as := [(.int x1)]) (rest := []) lm_9_105 rfl jM119 rfl rfl rfl rfl) jM119 rfl (Or.inr rfl)).trans ?_
  refine jbi_c (fun r1 τ1 => ?_)
  refine (sv_if_eq jM118 c118_4 rfl (t := 25) (by decide +kernel)).trans ?_
  refine jif _ ?_ ?_
  ·
    refine (sv_bipush jM118 c118_25 rfl (v := -2) (by decide +kernel)).trans ?_
    exact sv_iret jM118 c118_27 rfl rfl
  ·
    refine (sv_iload_n jM118 c118_7 rfl rfl).trans ?_
    refine (sv_i2l jM118 c118_8 rfl).trans ?_
    refine (sv_lconst jM118 c118_9 rfl (v := 0) (by decide +kernel)).trans ?_
    refine (sv_ldc2 jM118 c118_10 rfl ll_9_109).trans ?_
    refine (sv_callsi (pl := 0) jM118 c118_13 rfl (jm_call_s (as := [(.long x2.toInt64), (.long (0 : Int64)), (.long (2 : Int64))]) (rest := []) lm_9_95 rfl jM120 rfl rfl rfl rfl) jM120 rfl (Or.inr rfl)).trans ?_
    refine jbi_c (fun r2 τ2 => ?_)
    refine (sv_if_eq jM118 c118_16 rfl (t := 25) (by decide +kernel)).trans ?_
    refine jif _ ?_ ?_
    ·
      refine (sv_bipush jM118 c118_25 rfl (v := -2) (by decide +kernel)).trans ?_
      exact sv_iret jM118 c118_27 rfl rfl
    ·
      refine (sv_iload_n jM118 c118_19 rfl rfl).trans ?_
      refine (sv_bipush jM118 c118_20 rfl (v := 60) (by decide +kernel)).trans ?_
      refine (sv_icmp_le jM118 c118_22 rfl (t := 28) (by decide +kernel)).trans ?_
      refine jif _ ?_ ?_
      ·
        refine (sv_iload_n jM118 c118_28 rfl rfl).trans ?_
        refine (sv_if_ge jM118 c118_29 rfl (t := 38) (by decide +kernel)).trans ?_
        refine jif _ ?_ ?_
        ·
          refine (sv_aload_n jM118 c118_38 rfl rfl).trans ?_
          refine (sv_getf jM118 c118_39 rfl lf_9_7 (fg_61_0 _)).trans ?_
          refine (sv_iload_n jM118 c118_42 rfl rfl).trans ?_
          refine (sv_iload_n jM118 c118_43 rfl rfl).trans ?_
          refine (sv_iast jM118 c118_44 rfl wi_62).trans ?_
          refine jif _ rfl ?_
          refine (sv_aload_n jM118 c118_45 rfl rfl).trans ?_
          refine (sv_getf jM118 c118_46 rfl lf_9_13 (fg_61_1 _)).trans ?_
          refine (sv_iload_n jM118 c118_49 rfl rfl).trans ?_
          refine (sv_iload_n jM118 c118_50 rfl rfl).trans ?_
          refine (sv_iast jM118 c118_51 rfl wi_63).trans ?_
          refine jif _ rfl ?_
          refine (sv_iconst jM118 c118_52 rfl (v := 0) (by decide +kernel)).trans ?_
          refine (sv_istore (ls1 := [some (.ref 61), some (.int x1), some (.int x2), some (.int x3), some (.int (0 : Int32))]) jM118 c118_53 rfl (Nat.lt_of_lt_of_eq (by decide +kernel : 4 < 5) rfl) rfl).trans ?_
          rfl
        ·
          refine (sv_aload_n jM118 c118_32 rfl rfl).trans ?_
          refine (sv_iconst jM118 c118_33 rfl (v := 5) (by decide +kernel)).trans ?_
          refine (sv_callvi (pl := 0) jM118 c118_34 rfl (jm_call_v (a := 61) (as := [(.int (5 : Int32))]) (rest := []) lm_9_111 rfl jM121 rfl rfl rfl rfl rfl) jM121 rfl (Or.inl rfl)).trans ?_
          refine jbi_c (fun r3 τ3 => ?_)
          exact sv_iret jM118 c118_37 rfl rfl
      ·
        refine (sv_bipush jM118 c118_25 rfl (v := -2) (by decide +kernel)).trans ?_
        exact sv_iret jM118 c118_27 rfl rfl
set_option maxRecDepth 20000 in
set_option maxHeartbeats 4000000 in
theorem M_sheet_L55 (x1 : Int32) (x2 : Int32) (x3 : Int32) (x4 : Int32) (σ : jm_S) : jv 118 55 [some (.ref 61), some (.int x1), some (.int x2), some (.int x3), some (.int x4)] [] σ = (if x3 ≤ x4 then some (some (.int x3), σ) else (if (((60 : Int32) * x1) + x4) < 0 ∨ 240 ≤ (((60 : Int32) * x1) + x4).toNatClampNeg then none else jv 118 55 [some (.ref 61), some (.int x1), some (.int x2), some (.int x3), some (.int (x4 + 1))] [] (jm_up σ 64 (((60 : Int32) * x1) + x4).toNatClampNeg (0 : Int32)))) := by
  refine (sv_iload jM118 c118_55 rfl rfl).trans ?_
  refine (sv_iload_n jM118 c118_57 rfl rfl).trans ?_
  refine (sv_icmp_ge jM118 c118_58 rfl (t := 80) (by decide +kernel)).trans ?_
  refine jif _ ?_ ?_
  ·
    refine (sv_iload_n jM118 c118_80 rfl rfl).trans ?_
    exact sv_iret jM118 c118_81 rfl rfl
  ·
    refine (sv_aload_n jM118 c118_61 rfl rfl).trans ?_
    refine (sv_getf jM118 c118_62 rfl lf_9_16 (fg_61_2 _)).trans ?_
    refine (sv_bipush jM118 c118_65 rfl (v := 60) (by decide +kernel)).trans ?_
    refine (sv_iload_n jM118 c118_67 rfl rfl).trans ?_
    refine (sv_imul jM118 c118_68 rfl).trans ?_
    refine (sv_iload jM118 c118_69 rfl rfl).trans ?_
    refine (sv_iadd jM118 c118_71 rfl).trans ?_
    refine (sv_iconst jM118 c118_72 rfl (v := 0) (by decide +kernel)).trans ?_
    refine (sv_iast jM118 c118_73 rfl wi_64).trans ?_
    refine jif _ rfl ?_
    refine (sv_iinc (ls1 := [some (.ref 61), some (.int x1), some (.int x2), some (.int x3), some (.int (x4 + 1))]) jM118 c118_74 rfl rfl (v := 1) (by decide +kernel) rfl).trans ?_
    refine (sv_goto jM118 c118_77 rfl (t := 55) (by decide +kernel)).trans ?_
    rfl
set_option maxRecDepth 20000 in
set_option maxHeartbeats 4000000 in
theorem M_lose_in (x1 : Int32) (σ : jm_S) : jc 122 [(.ref 61), (.int x1)] σ = jbi (jc 119 [(.int x1)] σ) (fun r1 τ1 => (if ¬ r1 = 0 then (if x1 < 0 ∨ 4 ≤ x1.toNatClampNeg then none else (if 0 ≤ (τ1 62 x1.toNatClampNeg) then (if x1 < 0 ∨ 4 ≤ x1.toNatClampNeg then none else (if x1 < 0 ∨ 4 ≤ x1.toNatClampNeg then none else some (some (.int (τ1 63 x1.toNatClampNeg)), (jm_up τ1 62 x1.toNatClampNeg (-1 : Int32))))) else jbi (jc 121 [(.ref 61), (.int (1 : Int32))] τ1) (fun r2 τ2 => some (some (.int r2), τ2)))) else some (some (.int (-2 : Int32)), τ1))) := by
  refine (jc_of (ls1 := [some (.ref 61), some (.int x1)]) ((jm_ini_of jM122).trans rfl)).trans ?_
  refine (sv_iload_n jM122 c122_0 rfl rfl).trans ?_
  refine (sv_callsi (pl := 0) jM122 c122_1 rfl (jm_call_s (as := [(.int x1)]) (rest := []) lm_9_105 rfl jM119 rfl rfl rfl rfl) jM119 rfl (Or.inr rfl)).trans ?_
  refine jbi_c (fun r1 τ1 => ?_)
  refine (sv_if_ne jM122 c122_4 rfl (t := 10) (by decide +kernel)).trans ?_
  refine jif _ ?_ ?_
  ·
    refine (sv_aload_n jM122 c122_10 rfl rfl).trans ?_
    refine (sv_getf jM122 c122_11 rfl lf_9_7 (fg_61_0 _)).trans ?_
    refine (sv_iload_n jM122 c122_14 rfl rfl).trans ?_
    refine (sv_iald jM122 c122_15 rfl (ia_62 _)).trans ?_
    refine jif _ rfl ?_
    refine (sv_if_ge jM122 c122_16 rfl (t := 25) (by decide +kernel)).trans ?_
    refine jif _ ?_ ?_
    ·
      refine (sv_aload_n jM122 c122_25 rfl rfl).trans ?_
      refine (sv_getf jM122 c122_26 rfl lf_9_7 (fg_61_0 _)).trans ?_
      refine (sv_iload_n jM122 c122_29 rfl rfl).trans ?_
      refine (sv_iconst jM122 c122_30 rfl (v := -1) (by decide +kernel)).trans ?_
      refine (sv_iast jM122 c122_31 rfl wi_62).trans ?_
      refine jif _ rfl ?_
      refine (sv_aload_n jM122 c122_32 rfl rfl).trans ?_
      refine (sv_getf jM122 c122_33 rfl lf_9_13 (fg_61_1 _)).trans ?_
      refine (sv_iload_n jM122 c122_36 rfl rfl).trans ?_
      refine (sv_iald jM122 c122_37 rfl (ia_63 _)).trans ?_
      refine jif _ rfl ?_
      exact sv_iret jM122 c122_38 rfl rfl
    ·
      refine (sv_aload_n jM122 c122_19 rfl rfl).trans ?_
      refine (sv_iconst jM122 c122_20 rfl (v := 1) (by decide +kernel)).trans ?_
      refine (sv_callvi (pl := 0) jM122 c122_21 rfl (jm_call_v (a := 61) (as := [(.int (1 : Int32))]) (rest := []) lm_9_111 rfl jM121 rfl rfl rfl rfl rfl) jM121 rfl (Or.inl rfl)).trans ?_
      refine jbi_c (fun r2 τ2 => ?_)
      exact sv_iret jM122 c122_24 rfl rfl
  ·
    refine (sv_bipush jM122 c122_7 rfl (v := -2) (by decide +kernel)).trans ?_
    exact sv_iret jM122 c122_9 rfl rfl
set_option maxRecDepth 20000 in
set_option maxHeartbeats 4000000 in
theorem M_lay_in (x1 : Int32) (x2 : Int32) (x3 : Int32) (x4 : Int32) (σ : jm_S) : jc 123 [(.ref 61), (.int x1), (.int x2), (.int x3), (.int x4)] σ = jbi (jc 119 [(.int x1)] σ) (fun r1 τ1 => (if r1 = 0 then some (some (.int (-2 : Int32)), τ1) else jbi (jc 120 [(.long x2.toInt64), (.long (0 : Int64)), (.long (2 : Int64))] τ1) (fun r2 τ2 => (if ¬ r2 = 0 then jbi (jc 124 [(.ref 61), (.int x1), (.int x2), (.int x3)] τ2) (fun r3 τ3 => (if r3 = 0 then jbi (jc 125 [(.int x2), (.int x4)] τ3) (fun r4 τ4 => (if (((60 : Int32) * x1) + x3) < 0 ∨ 240 ≤ (((60 : Int32) * x1) + x3).toNatClampNeg then none else some (some (.int (1 : Int32)), (jm_up τ4 64 (((60 : Int32) * x1) + x3).toNatClampNeg r4)))) else some (some (.int r3), τ3))) else some (some (.int (-2 : Int32)), τ2))))) := by
  refine (jc_of (ls1 := [some (.ref 61), some (.int x1), some (.int x2), some (.int x3), some (.int x4), none]) ((jm_ini_of jM123).trans rfl)).trans ?_
  refine (sv_iload_n jM123 c123_0 rfl rfl).trans ?_
  refine (sv_callsi (pl := 0) jM123 c123_1 rfl (jm_call_s (as := [(.int x1)]) (rest := []) lm_9_105 rfl jM119 rfl rfl rfl rfl) jM119 rfl (Or.inr rfl)).trans ?_
  refine jbi_c (fun r1 τ1 => ?_)
  refine (sv_if_eq jM123 c123_4 rfl (t := 19) (by decide +kernel)).trans ?_
  refine jif _ ?_ ?_
  ·
    refine (sv_bipush jM123 c123_19 rfl (v := -2) (by decide +kernel)).trans ?_
    exact sv_iret jM123 c123_21 rfl rfl
  ·
    refine (sv_iload_n jM123 c123_7 rfl rfl).trans ?_
    refine (sv_i2l jM123 c123_8 rfl).trans ?_
    refine (sv_lconst jM123 c123_9 rfl (v := 0) (by decide +kernel)).trans ?_
    refine (sv_ldc2 jM123 c123_10 rfl ll_9_109).trans ?_
    refine (sv_callsi (pl := 0) jM123 c123_13 rfl (jm_call_s (as := [(.long x2.toInt64), (.long (0 : Int64)), (.long (2 : Int64))]) (rest := []) lm_9_95 rfl jM120 rfl rfl rfl rfl) jM120 rfl (Or.inr rfl)).trans ?_
    refine jbi_c (fun r2 τ2 => ?_)
    refine (sv_if_ne jM123 c123_16 rfl (t := 22) (by decide +kernel)).trans ?_
    refine jif _ ?_ ?_
    ·
      refine (sv_aload_n jM123 c123_22 rfl rfl).trans ?_
      refine (sv_iload_n jM123 c123_23 rfl rfl).trans ?_
      refine (sv_iload_n jM123 c123_24 rfl rfl).trans ?_
      refine (sv_iload_n jM123 c123_25 rfl rfl).trans ?_
      refine (sv_callvi (pl := 0) jM123 c123_26 rfl (jm_call_v (a := 61) (as := [(.int x1), (.int x2), (.int x3)]) (rest := []) lm_9_115 rfl jM124 rfl rfl rfl rfl rfl) jM124 rfl (Or.inl rfl)).trans ?_
      refine jbi_c (fun r3 τ3 => ?_)
      refine (sv_istore (ls1 := [some (.ref 61), some (.int x1), some (.int x2), some (.int x3), some (.int x4), some (.int r3)]) jM123 c123_29 rfl (Nat.lt_of_lt_of_eq (by decide +kernel : 5 < 6) rfl) rfl).trans ?_
      refine (sv_iload jM123 c123_31 rfl rfl).trans ?_
      refine (sv_if_eq jM123 c123_33 rfl (t := 39) (by decide +kernel)).trans ?_
      refine jif _ ?_ ?_
      ·
        refine (sv_aload_n jM123 c123_39 rfl rfl).trans ?_
        refine (sv_getf jM123 c123_40 rfl lf_9_16 (fg_61_2 _)).trans ?_
        refine (sv_bipush jM123 c123_43 rfl (v := 60) (by decide +kernel)).trans ?_
        refine (sv_iload_n jM123 c123_45 rfl rfl).trans ?_
        refine (sv_imul jM123 c123_46 rfl).trans ?_
        refine (sv_iload_n jM123 c123_47 rfl rfl).trans ?_
        refine (sv_iadd jM123 c123_48 rfl).trans ?_
        refine (sv_iload_n jM123 c123_49 rfl rfl).trans ?_
        refine (sv_iload jM123 c123_50 rfl rfl).trans ?_
        refine (sv_callsi (pl := 0) jM123 c123_52 rfl (jm_call_s (as := [(.int x2), (.int x4)]) (rest := [(.int (((60 : Int32) * x1) + x3)), (.ref 64)]) lm_9_119 rfl jM125 rfl rfl rfl rfl) jM125 rfl (Or.inl rfl)).trans ?_
        refine jbi_c (fun r4 τ4 => ?_)
        refine (sv_iast jM123 c123_55 rfl wi_64).trans ?_
        refine jif _ rfl ?_
        refine (sv_iconst jM123 c123_56 rfl (v := 1) (by decide +kernel)).trans ?_
        exact sv_iret jM123 c123_57 rfl rfl
      ·
        refine (sv_iload jM123 c123_36 rfl rfl).trans ?_
        exact sv_iret jM123 c123_38 rfl rfl
    ·
      refine (sv_bipush jM123 c123_19 rfl (v := -2) (by decide +kernel)).trans ?_
      exact sv_iret jM123 c123_21 rfl rfl
set_option maxRecDepth 20000 in
set_option maxHeartbeats 4000000 in
theorem M_get_in (x1 : Int32) (x2 : Int32) (x3 : Int32) (σ : jm_S) : jc 126 [(.ref 61), (.int x1), (.int x2), (.int x3)] σ = jbi (jc 119 [(.int x1)] σ) (fun r1 τ1 => (if r1 = 0 then some (some (.int (-2147483648 : Int32)), τ1) else jbi (jc 120 [(.long x2.toInt64), (.long (0 : Int64)), (.long (2 : Int64))] τ1) (fun r2 τ2 => (if r2 = 0 then some (some (.int (-2147483648 : Int32)), τ2) else jbi (jc 124 [(.ref 61), (.int x1), (.int x2), (.int x3)] τ2) (fun r3 τ3 => (if r3 = 0 then (if (((60 : Int32) * x1) + x3) < 0 ∨ 240 ≤ (((60 : Int32) * x1) + x3).toNatClampNeg then none else some (some (.int (τ3 64 (((60 : Int32) * x1) + x3).toNatClampNeg)), τ3)) else some (some (.int (-2147483648 : Int32)), τ3))))))) := by
  refine (jc_of (ls1 := [some (.ref 61), some (.int x1), some (.int x2), some (.int x3)]) ((jm_ini_of jM126).trans rfl)).trans ?_
  refine (sv_iload_n jM126 c126_0 rfl rfl).trans ?_
  refine (sv_callsi (pl := 0) jM126 c126_1 rfl (jm_call_s (as := [(.int x1)]) (rest := []) lm_9_105 rfl jM119 rfl rfl rfl rfl) jM119 rfl (Or.inr rfl)).trans ?_
  refine jbi_c (fun r1 τ1 => ?_)
  refine (sv_if_eq jM126 c126_4 rfl (t := 29) (by decide +kernel)).trans ?_
  refine jif _ ?_ ?_
  ·
    refine (sv_ldc jM126 c126_29 rfl lc_9_123).trans ?_
    exact sv_iret jM126 c126_31 rfl rfl
  ·
    refine (sv_iload_n jM126 c126_7 rfl rfl).trans ?_
    refine (sv_i2l jM126 c126_8 rfl).trans ?_
    refine (sv_lconst jM126 c126_9 rfl (v := 0) (by decide +kernel)).trans ?_
    refine (sv_ldc2 jM126 c126_10 rfl ll_9_109).trans ?_
    refine (sv_callsi (pl := 0) jM126 c126_13 rfl (jm_call_s (as := [(.long x2.toInt64), (.long (0 : Int64)), (.long (2 : Int64))]) (rest := []) lm_9_95 rfl jM120 rfl rfl rfl rfl) jM120 rfl (Or.inr rfl)).trans ?_
    refine jbi_c (fun r2 τ2 => ?_)
    refine (sv_if_eq jM126 c126_16 rfl (t := 29) (by decide +kernel)).trans ?_
    refine jif _ ?_ ?_
    ·
      refine (sv_ldc jM126 c126_29 rfl lc_9_123).trans ?_
      exact sv_iret jM126 c126_31 rfl rfl
    ·
      refine (sv_aload_n jM126 c126_19 rfl rfl).trans ?_
      refine (sv_iload_n jM126 c126_20 rfl rfl).trans ?_
      refine (sv_iload_n jM126 c126_21 rfl rfl).trans ?_
      refine (sv_iload_n jM126 c126_22 rfl rfl).trans ?_
      refine (sv_callvi (pl := 0) jM126 c126_23 rfl (jm_call_v (a := 61) (as := [(.int x1), (.int x2), (.int x3)]) (rest := []) lm_9_115 rfl jM124 rfl rfl rfl rfl rfl) jM124 rfl (Or.inl rfl)).trans ?_
      refine jbi_c (fun r3 τ3 => ?_)
      refine (sv_if_eq jM126 c126_26 rfl (t := 32) (by decide +kernel)).trans ?_
      refine jif _ ?_ ?_
      ·
        refine (sv_aload_n jM126 c126_32 rfl rfl).trans ?_
        refine (sv_getf jM126 c126_33 rfl lf_9_16 (fg_61_2 _)).trans ?_
        refine (sv_bipush jM126 c126_36 rfl (v := 60) (by decide +kernel)).trans ?_
        refine (sv_iload_n jM126 c126_38 rfl rfl).trans ?_
        refine (sv_imul jM126 c126_39 rfl).trans ?_
        refine (sv_iload_n jM126 c126_40 rfl rfl).trans ?_
        refine (sv_iadd jM126 c126_41 rfl).trans ?_
        refine (sv_iald jM126 c126_42 rfl (ia_64 _)).trans ?_
        refine jif _ rfl ?_
        exact sv_iret jM126 c126_43 rfl rfl
      ·
        refine (sv_ldc jM126 c126_29 rfl lc_9_123).trans ?_
        exact sv_iret jM126 c126_31 rfl rfl
set_option maxRecDepth 20000 in
set_option maxHeartbeats 4000000 in
theorem M_copy_in (x1 : Int32) (x2 : Int32) (x3 : Int32) (x4 : Int32) (x5 : Int32) (σ : jm_S) : jc 127 [(.ref 61), (.int x1), (.int x2), (.int x3), (.int x4), (.int x5)] σ = jbi (jc 119 [(.int x1)] σ) (fun r1 τ1 => (if r1 = 0 then some (some (.int (-2 : Int32)), τ1) else jbi (jc 119 [(.int x3)] τ1) (fun r2 τ2 => (if ¬ r2 = 0 then (if x1 < 0 ∨ 4 ≤ x1.toNatClampNeg then none else (if (τ2 62 x1.toNatClampNeg) < 0 then jbi (jc 121 [(.ref 61), (.int (1 : Int32))] τ2) (fun r3 τ3 => some (some (.int r3), τ3)) else (if x3 < 0 ∨ 4 ≤ x3.toNatClampNeg then none else (if 0 ≤ (τ2 62 x3.toNatClampNeg) then (if x1 < 0 ∨ 4 ≤ x1.toNatClampNeg then none else (if x3 < 0 ∨ 4 ≤ x3.toNatClampNeg then none else (if (τ2 62 x1.toNatClampNeg) = (τ2 62 x3.toNatClampNeg) then (if x2 < 0 then jbi (jc 121 [(.ref 61), (.int (2 : Int32))] τ2) (fun r4 τ4 => some (some (.int r4), τ4)) else (if x4 < 0 then jbi (jc 121 [(.ref 61), (.int (2 : Int32))] τ2) (fun r5 τ5 => some (some (.int r5), τ5)) else (if x5 < 0 then jbi (jc 121 [(.ref 61), (.int (2 : Int32))] τ2) (fun r6 τ6 => some (some (.int r6), τ6)) else (if x1 < 0 ∨ 4 ≤ x1.toNatClampNeg then none else (if 0 < (lg_cmp (x2.toInt64 + x5.toInt64) (τ2 63 x1.toNatClampNeg).toInt64) then jbi (jc 121 [(.ref 61), (.int (2 : Int32))] τ2) (fun r7 τ7 => some (some (.int r7), τ7)) else (if x3 < 0 ∨ 4 ≤ x3.toNatClampNeg then none else (if (lg_cmp (x4.toInt64 + x5.toInt64) (τ2 63 x3.toNatClampNeg).toInt64) ≤ 0 then jv 127 120 [some (.ref 61), some (.int x1), some (.int x2), some (.int x3), some (.int x4), some (.int x5), some (.int (0 : Int32))] [] τ2 else jbi (jc 121 [(.ref 61), (.int (2 : Int32))] τ2) (fun r8 τ8 => some (some (.int r8), τ8))))))))) else jbi (jc 121 [(.ref 61), (.int (4 : Int32))] τ2) (fun r9 τ9 => some (some (.int r9), τ9))))) else jbi (jc 121 [(.ref 61), (.int (1 : Int32))] τ2) (fun r10 τ10 => some (some (.int r10), τ10)))))) else some (some (.int (-2 : Int32)), τ2))))) := by
  refine (jc_of (ls1 := [some (.ref 61), some (.int x1), some (.int x2), some (.int x3), some (.int x4), some (.int x5), none]) ((jm_ini_of jM127).trans rfl)).trans ?_
  refine (sv_iload_n jM127 c127_0 rfl rfl).trans ?_
  refine (sv_callsi (pl := 0) jM127 c127_1 rfl (jm_call_s (as := [(.int x1)]) (rest := []) lm_9_105 rfl jM119 rfl rfl rfl rfl) jM119 rfl (Or.inr rfl)).trans ?_
  refine jbi_c (fun r1 τ1 => ?_)
  refine (sv_if_eq jM127 c127_4 rfl (t := 14) (by decide +kernel)).trans ?_
  refine jif _ ?_ ?_
  ·
    refine (sv_bipush jM127 c127_14 rfl (v := -2) (by decide +kernel)).trans ?_
    exact sv_iret jM127 c127_16 rfl rfl
  ·
    refine (sv_iload_n jM127 c127_7 rfl rfl).trans ?_
    refine (sv_callsi (pl := 0) jM127 c127_8 rfl (jm_call_s (as := [(.int x3)]) (rest := []) lm_9_105 rfl jM119 rfl rfl rfl rfl) jM119 rfl (Or.inr rfl)).trans ?_
    refine jbi_c (fun r2 τ2 => ?_)
    refine (sv_if_ne jM127 c127_11 rfl (t := 17) (by decide +kernel)).trans ?_
    refine jif _ ?_ ?_
    ·
      refine (sv_aload_n jM127 c127_17 rfl rfl).trans ?_
      refine (sv_getf jM127 c127_18 rfl lf_9_7 (fg_61_0 _)).trans ?_
      refine (sv_iload_n jM127 c127_21 rfl rfl).trans ?_
      refine (sv_iald jM127 c127_22 rfl (ia_62 _)).trans ?_
      refine jif _ rfl ?_
      refine (sv_if_lt jM127 c127_23 rfl (t := 35) (by decide +kernel)).trans ?_
      refine jif _ ?_ ?_
      ·
        refine (sv_aload_n jM127 c127_35 rfl rfl).trans ?_
        refine (sv_iconst jM127 c127_36 rfl (v := 1) (by decide +kernel)).trans ?_
        refine (sv_callvi (pl := 0) jM127 c127_37 rfl (jm_call_v (a := 61) (as := [(.int (1 : Int32))]) (rest := []) lm_9_111 rfl jM121 rfl rfl rfl rfl rfl) jM121 rfl (Or.inl rfl)).trans ?_
        refine jbi_c (fun r3 τ3 => ?_)
        exact sv_iret jM127 c127_40 rfl rfl
      ·
        refine (sv_aload_n jM127 c127_26 rfl rfl).trans ?_
        refine (sv_getf jM127 c127_27 rfl lf_9_7 (fg_61_0 _)).trans ?_
        refine (sv_iload_n jM127 c127_30 rfl rfl).trans ?_
        refine (sv_iald jM127 c127_31 rfl (ia_62 _)).trans ?_
        refine jif _ rfl ?_
        refine (sv_if_ge jM127 c127_32 rfl (t := 41) (by decide +kernel)).trans ?_
        refine jif _ ?_ ?_
        ·
          refine (sv_aload_n jM127 c127_41 rfl rfl).trans ?_
          refine (sv_getf jM127 c127_42 rfl lf_9_7 (fg_61_0 _)).trans ?_
          refine (sv_iload_n jM127 c127_45 rfl rfl).trans ?_
          refine (sv_iald jM127 c127_46 rfl (ia_62 _)).trans ?_
          refine jif _ rfl ?_
          refine (sv_aload_n jM127 c127_47 rfl rfl).trans ?_
          refine (sv_getf jM127 c127_48 rfl lf_9_7 (fg_61_0 _)).trans ?_
          refine (sv_iload_n jM127 c127_51 rfl rfl).trans ?_
          refine (sv_iald jM127 c127_52 rfl (ia_62 _)).trans ?_
          refine jif _ rfl ?_
          refine (sv_icmp_eq jM127 c127_53 rfl (t := 62) (by decide +kernel)).trans ?_
          refine jif _ ?_ ?_
          ·
            refine (sv_iload_n jM127 c127_62 rfl rfl).trans ?_
            refine (sv_if_lt jM127 c127_63 rfl (t := 111) (by decide +kernel)).trans ?_
            refine jif _ ?_ ?_
            ·
              refine (sv_aload_n jM127 c127_111 rfl rfl).trans ?_
              refine (sv_iconst jM127 c127_112 rfl (v := 2) (by decide +kernel)).trans ?_
              refine (sv_callvi (pl := 0) jM127 c127_113 rfl (jm_call_v (a := 61) (as := [(.int (2 : Int32))]) (rest := []) lm_9_111 rfl jM121 rfl rfl rfl rfl rfl) jM121 rfl (Or.inl rfl)).trans ?_
              refine jbi_c (fun r4 τ4 => ?_)
              exact sv_iret jM127 c127_116 rfl rfl
            ·
              refine (sv_iload jM127 c127_66 rfl rfl).trans ?_
              refine (sv_if_lt jM127 c127_68 rfl (t := 111) (by decide +kernel)).trans ?_
              refine jif _ ?_ ?_
              ·
                refine (sv_aload_n jM127 c127_111 rfl rfl).trans ?_
                refine (sv_iconst jM127 c127_112 rfl (v := 2) (by decide +kernel)).trans ?_
                refine (sv_callvi (pl := 0) jM127 c127_113 rfl (jm_call_v (a := 61) (as := [(.int (2 : Int32))]) (rest := []) lm_9_111 rfl jM121 rfl rfl rfl rfl rfl) jM121 rfl (Or.inl rfl)).trans ?_
                refine jbi_c (fun r5 τ5 => ?_)
                exact sv_iret jM127 c127_116 rfl rfl
              ·
                refine (sv_iload jM127 c127_71 rfl rfl).trans ?_
                refine (sv_if_lt jM127 c127_73 rfl (t := 111) (by decide +kernel)).trans ?_
                refine jif _ ?_ ?_
                ·
                  refine (sv_aload_n jM127 c127_111 rfl rfl).trans ?_
                  refine (sv_iconst jM127 c127_112 rfl (v := 2) (by decide +kernel)).trans ?_
                  refine (sv_callvi (pl := 0) jM127 c127_113 rfl (jm_call_v (a := 61) (as := [(.int (2 : Int32))]) (rest := []) lm_9_111 rfl jM121 rfl rfl rfl rfl rfl) jM121 rfl (Or.inl rfl)).trans ?_
                  refine jbi_c (fun r6 τ6 => ?_)
                  exact sv_iret jM127 c127_116 rfl rfl
                ·
                  refine (sv_iload_n jM127 c127_76 rfl rfl).trans ?_
                  refine (sv_i2l jM127 c127_77 rfl).trans ?_
                  refine (sv_iload jM127 c127_78 rfl rfl).trans ?_
                  refine (sv_i2l jM127 c127_80 rfl).trans ?_
                  refine (sv_ladd jM127 c127_81 rfl).trans ?_
                  refine (sv_aload_n jM127 c127_82 rfl rfl).trans ?_
                  refine (sv_getf jM127 c127_83 rfl lf_9_13 (fg_61_1 _)).trans ?_
                  refine (sv_iload_n jM127 c127_86 rfl rfl).trans ?_
                  refine (sv_iald jM127 c127_87 rfl (ia_63 _)).trans ?_
                  refine jif _ rfl ?_
                  refine (sv_i2l jM127 c127_88 rfl).trans ?_
                  refine (sv_lcmp jM127 c127_89 rfl).trans ?_
                  refine (sv_if_gt jM127 c127_90 rfl (t := 111) (by decide +kernel)).trans ?_
                  refine jif _ ?_ ?_
                  ·
                    refine (sv_aload_n jM127 c127_111 rfl rfl).trans ?_
                    refine (sv_iconst jM127 c127_112 rfl (v := 2) (by decide +kernel)).trans ?_
                    refine (sv_callvi (pl := 0) jM127 c127_113 rfl (jm_call_v (a := 61) (as := [(.int (2 : Int32))]) (rest := []) lm_9_111 rfl jM121 rfl rfl rfl rfl rfl) jM121 rfl (Or.inl rfl)).trans ?_
                    refine jbi_c (fun r7 τ7 => ?_)
                    exact sv_iret jM127 c127_116 rfl rfl
                  ·
                    refine (sv_iload jM127 c127_93 rfl rfl).trans ?_
                    refine (sv_i2l jM127 c127_95 rfl).trans ?_
                    refine (sv_iload jM127 c127_96 rfl rfl).trans ?_
                    refine (sv_i2l jM127 c127_98 rfl).trans ?_
                    refine (sv_ladd jM127 c127_99 rfl).trans ?_
                    refine (sv_aload_n jM127 c127_100 rfl rfl).trans ?_
                    refine (sv_getf jM127 c127_101 rfl lf_9_13 (fg_61_1 _)).trans ?_
                    refine (sv_iload_n jM127 c127_104 rfl rfl).trans ?_
                    refine (sv_iald jM127 c127_105 rfl (ia_63 _)).trans ?_
                    refine jif _ rfl ?_
                    refine (sv_i2l jM127 c127_106 rfl).trans ?_
                    refine (sv_lcmp jM127 c127_107 rfl).trans ?_
                    refine (sv_if_le jM127 c127_108 rfl (t := 117) (by decide +kernel)).trans ?_
                    refine jif _ ?_ ?_
                    ·
                      refine (sv_iconst jM127 c127_117 rfl (v := 0) (by decide +kernel)).trans ?_
                      refine (sv_istore (ls1 := [some (.ref 61), some (.int x1), some (.int x2), some (.int x3), some (.int x4), some (.int x5), some (.int (0 : Int32))]) jM127 c127_118 rfl (Nat.lt_of_lt_of_eq (by decide +kernel : 6 < 7) rfl) rfl).trans ?_
                      rfl
                    ·
                      refine (sv_aload_n jM127 c127_111 rfl rfl).trans ?_
                      refine (sv_iconst jM127 c127_112 rfl (v := 2) (by decide +kernel)).trans ?_
                      refine (sv_callvi (pl := 0) jM127 c127_113 rfl (jm_call_v (a := 61) (as := [(.int (2 : Int32))]) (rest := []) lm_9_111 rfl jM121 rfl rfl rfl rfl rfl) jM121 rfl (Or.inl rfl)).trans ?_
                      refine jbi_c (fun r8 τ8 => ?_)
                      exact sv_iret jM127 c127_116 rfl rfl
          ·
            refine (sv_aload_n jM127 c127_56 rfl rfl).trans ?_
            refine (sv_iconst jM127 c127_57 rfl (v := 4) (by decide +kernel)).trans ?_
            refine (sv_callvi (pl := 0) jM127 c127_58 rfl (jm_call_v (a := 61) (as := [(.int (4 : Int32))]) (rest := []) lm_9_111 rfl jM121 rfl rfl rfl rfl rfl) jM121 rfl (Or.inl rfl)).trans ?_
            refine jbi_c (fun r9 τ9 => ?_)
            exact sv_iret jM127 c127_61 rfl rfl
        ·
          refine (sv_aload_n jM127 c127_35 rfl rfl).trans ?_
          refine (sv_iconst jM127 c127_36 rfl (v := 1) (by decide +kernel)).trans ?_
          refine (sv_callvi (pl := 0) jM127 c127_37 rfl (jm_call_v (a := 61) (as := [(.int (1 : Int32))]) (rest := []) lm_9_111 rfl jM121 rfl rfl rfl rfl rfl) jM121 rfl (Or.inl rfl)).trans ?_
          refine jbi_c (fun r10 τ10 => ?_)
          exact sv_iret jM127 c127_40 rfl rfl
    ·
      refine (sv_bipush jM127 c127_14 rfl (v := -2) (by decide +kernel)).trans ?_
      exact sv_iret jM127 c127_16 rfl rfl
set_option maxRecDepth 20000 in
set_option maxHeartbeats 4000000 in
theorem M_copy_L120 (x1 : Int32) (x2 : Int32) (x3 : Int32) (x4 : Int32) (x5 : Int32) (x6 : Int32) (σ : jm_S) : jv 127 120 [some (.ref 61), some (.int x1), some (.int x2), some (.int x3), some (.int x4), some (.int x5), some (.int x6)] [] σ = (if x5 ≤ x6 then jv 127 157 [some (.ref 61), some (.int x1), some (.int x2), some (.int x3), some (.int x4), some (.int x5), some (.int (0 : Int32))] [] σ else (if ((((60 : Int32) * x1) + x2) + x6) < 0 ∨ 240 ≤ ((((60 : Int32) * x1) + x2) + x6).toNatClampNeg then none else (if x6 < 0 ∨ 60 ≤ x6.toNatClampNeg then none else jv 127 120 [some (.ref 61), some (.int x1), some (.int x2), some (.int x3), some (.int x4), some (.int x5), some (.int (x6 + 1))] [] (jm_up σ 65 x6.toNatClampNeg (σ 64 ((((60 : Int32) * x1) + x2) + x6).toNatClampNeg))))) := by
  refine (sv_iload jM127 c127_120 rfl rfl).trans ?_
  refine (sv_iload jM127 c127_122 rfl rfl).trans ?_
  refine (sv_icmp_ge jM127 c127_124 rfl (t := 154) (by decide +kernel)).trans ?_
  refine jif _ ?_ ?_
  ·
    refine (sv_iconst jM127 c127_154 rfl (v := 0) (by decide +kernel)).trans ?_
    refine (sv_istore (ls1 := [some (.ref 61), some (.int x1), some (.int x2), some (.int x3), some (.int x4), some (.int x5), some (.int (0 : Int32))]) jM127 c127_155 rfl (Nat.lt_of_lt_of_eq (by decide +kernel : 6 < 7) rfl) rfl).trans ?_
    rfl
  ·
    refine (sv_aload_n jM127 c127_127 rfl rfl).trans ?_
    refine (sv_getf jM127 c127_128 rfl lf_9_19 (fg_61_3 _)).trans ?_
    refine (sv_iload jM127 c127_131 rfl rfl).trans ?_
    refine (sv_aload_n jM127 c127_133 rfl rfl).trans ?_
    refine (sv_getf jM127 c127_134 rfl lf_9_16 (fg_61_2 _)).trans ?_
    refine (sv_bipush jM127 c127_137 rfl (v := 60) (by decide +kernel)).trans ?_
    refine (sv_iload_n jM127 c127_139 rfl rfl).trans ?_
    refine (sv_imul jM127 c127_140 rfl).trans ?_
    refine (sv_iload_n jM127 c127_141 rfl rfl).trans ?_
    refine (sv_iadd jM127 c127_142 rfl).trans ?_
    refine (sv_iload jM127 c127_143 rfl rfl).trans ?_
    refine (sv_iadd jM127 c127_145 rfl).trans ?_
    refine (sv_iald jM127 c127_146 rfl (ia_64 _)).trans ?_
    refine jif _ rfl ?_
    refine (sv_iast jM127 c127_147 rfl wi_65).trans ?_
    refine jif _ rfl ?_
    refine (sv_iinc (ls1 := [some (.ref 61), some (.int x1), some (.int x2), some (.int x3), some (.int x4), some (.int x5), some (.int (x6 + 1))]) jM127 c127_148 rfl rfl (v := 1) (by decide +kernel) rfl).trans ?_
    refine (sv_goto jM127 c127_151 rfl (t := 120) (by decide +kernel)).trans ?_
    rfl
set_option maxRecDepth 20000 in
set_option maxHeartbeats 4000000 in
theorem M_copy_L157 (x1 : Int32) (x2 : Int32) (x3 : Int32) (x4 : Int32) (x5 : Int32) (x6 : Int32) (σ : jm_S) : jv 127 157 [some (.ref 61), some (.int x1), some (.int x2), some (.int x3), some (.int x4), some (.int x5), some (.int x6)] [] σ = (if x5 ≤ x6 then some (some (.int (1 : Int32)), σ) else (if x6 < 0 ∨ 60 ≤ x6.toNatClampNeg then none else (if ((((60 : Int32) * x3) + x4) + x6) < 0 ∨ 240 ≤ ((((60 : Int32) * x3) + x4) + x6).toNatClampNeg then none else jv 127 157 [some (.ref 61), some (.int x1), some (.int x2), some (.int x3), some (.int x4), some (.int x5), some (.int (x6 + 1))] [] (jm_up σ 64 ((((60 : Int32) * x3) + x4) + x6).toNatClampNeg (σ 65 x6.toNatClampNeg))))) := by
  refine (sv_iload jM127 c127_157 rfl rfl).trans ?_
  refine (sv_iload jM127 c127_159 rfl rfl).trans ?_
  refine (sv_icmp_ge jM127 c127_161 rfl (t := 192) (by decide +kernel)).trans ?_
  refine jif _ ?_ ?_
  ·
    refine (sv_iconst jM127 c127_192 rfl (v := 1) (by decide +kernel)).trans ?_
    exact sv_iret jM127 c127_193 rfl rfl
  ·
    refine (sv_aload_n jM127 c127_164 rfl rfl).trans ?_
    refine (sv_getf jM127 c127_165 rfl lf_9_16 (fg_61_2 _)).trans ?_
    refine (sv_bipush jM127 c127_168 rfl (v := 60) (by decide +kernel)).trans ?_
    refine (sv_iload_n jM127 c127_170 rfl rfl).trans ?_
    refine (sv_imul jM127 c127_171 rfl).trans ?_
    refine (sv_iload jM127 c127_172 rfl rfl).trans ?_
    refine (sv_iadd jM127 c127_174 rfl).trans ?_
    refine (sv_iload jM127 c127_175 rfl rfl).trans ?_
    refine (sv_iadd jM127 c127_177 rfl).trans ?_
    refine (sv_aload_n jM127 c127_178 rfl rfl).trans ?_
    refine (sv_getf jM127 c127_179 rfl lf_9_19 (fg_61_3 _)).trans ?_
    refine (sv_iload jM127 c127_182 rfl rfl).trans ?_
    refine (sv_iald jM127 c127_184 rfl (ia_65 _)).trans ?_
    refine jif _ rfl ?_
    refine (sv_iast jM127 c127_185 rfl wi_64).trans ?_
    refine jif _ rfl ?_
    refine (sv_iinc (ls1 := [some (.ref 61), some (.int x1), some (.int x2), some (.int x3), some (.int x4), some (.int x5), some (.int (x6 + 1))]) jM127 c127_186 rfl rfl (v := 1) (by decide +kernel) rfl).trans ?_
    refine (sv_goto jM127 c127_189 rfl (t := 157) (by decide +kernel)).trans ?_
    rfl
set_option maxRecDepth 20000 in
set_option maxHeartbeats 4000000 in
theorem M_grain_in (x1 : Int32) (x2 : Int32) (x3 : Int32) (x4 : Int32) (x5 : Int32) (σ : jm_S) : jc 128 [(.ref 61), (.int x1), (.int x2), (.int x3), (.int x4), (.int x5)] σ = jbi (jc 129 [(.int x1)] σ) (fun r1 τ1 => (if r1 = 0 then some (some (.int (-2 : Int32)), τ1) else jbi (jc 130 [(.int (0 : Int32)), (.int x2)] τ1) (fun r2 τ2 => (if r2 = 0 then some (some (.int (-2 : Int32)), τ2) else jbi (jc 130 [(.int (1 : Int32)), (.int x3)] τ2) (fun r3 τ3 => (if r3 = 0 then some (some (.int (-2 : Int32)), τ3) else jbi (jc 130 [(.int (2 : Int32)), (.int x4)] τ3) (fun r4 τ4 => (if r4 = 0 then some (some (.int (-2 : Int32)), τ4) else jbi (jc 130 [(.int (3 : Int32)), (.int x5)] τ4) (fun r5 τ5 => (if ¬ r5 = 0 then (if ¬ (τ5 61 5) = (12 : Int32) then (if (τ5 61 5) < 0 ∨ 12 ≤ (τ5 61 5).toNatClampNeg then none else (if ((4 : Int32) * (τ5 61 5)) < 0 ∨ 48 ≤ ((4 : Int32) * (τ5 61 5)).toNatClampNeg then none else (if (((4 : Int32) * (τ5 61 5)) + (1 : Int32)) < 0 ∨ 48 ≤ (((4 : Int32) * (τ5 61 5)) + (1 : Int32)).toNatClampNeg then none else (if (((4 : Int32) * (τ5 61 5)) + (2 : Int32)) < 0 ∨ 48 ≤ (((4 : Int32) * (τ5 61 5)) + (2 : Int32)).toNatClampNeg then none else (if (((4 : Int32) * (τ5 61 5)) + (3 : Int32)) < 0 ∨ 48 ≤ (((4 : Int32) * (τ5 61 5)) + (3 : Int32)).toNatClampNeg then none else some (some (.int (((τ5 61 5) + (1 : Int32)) - (1 : Int32))), (jm_up (jm_up (jm_up (jm_up (jm_up (jm_up τ5 66 (τ5 61 5).toNatClampNeg x1) 67 ((4 : Int32) * (τ5 61 5)).toNatClampNeg x2) 67 (((4 : Int32) * (τ5 61 5)) + (1 : Int32)).toNatClampNeg x3) 67 (((4 : Int32) * (τ5 61 5)) + (2 : Int32)).toNatClampNeg x4) 67 (((4 : Int32) * (τ5 61 5)) + (3 : Int32)).toNatClampNeg x5) 61 5 ((τ5 61 5) + (1 : Int32))))))))) else some (some (.int (-4 : Int32)), τ5)) else some (some (.int (-2 : Int32)), τ5))))))))))) := by
  refine (jc_of (ls1 := [some (.ref 61), some (.int x1), some (.int x2), some (.int x3), some (.int x4), some (.int x5)]) ((jm_ini_of jM128).trans rfl)).trans ?_
  refine (sv_iload_n jM128 c128_0 rfl rfl).trans ?_
  refine (sv_callsi (pl := 0) jM128 c128_1 rfl (jm_call_s (as := [(.int x1)]) (rest := []) lm_9_133 rfl jM129 rfl rfl rfl rfl) jM129 rfl (Or.inr rfl)).trans ?_
  refine jbi_c (fun r1 τ1 => ?_)
  refine (sv_if_eq jM128 c128_4 rfl (t := 41) (by decide +kernel)).trans ?_
  refine jif _ ?_ ?_
  ·
    refine (sv_bipush jM128 c128_41 rfl (v := -2) (by decide +kernel)).trans ?_
    exact sv_iret jM128 c128_43 rfl rfl
  ·
    refine (sv_iconst jM128 c128_7 rfl (v := 0) (by decide +kernel)).trans ?_
    refine (sv_iload_n jM128 c128_8 rfl rfl).trans ?_
    refine (sv_callsi (pl := 0) jM128 c128_9 rfl (jm_call_s (as := [(.int (0 : Int32)), (.int x2)]) (rest := []) lm_9_136 rfl jM130 rfl rfl rfl rfl) jM130 rfl (Or.inr rfl)).trans ?_
    refine jbi_c (fun r2 τ2 => ?_)
    refine (sv_if_eq jM128 c128_12 rfl (t := 41) (by decide +kernel)).trans ?_
    refine jif _ ?_ ?_
    ·
      refine (sv_bipush jM128 c128_41 rfl (v := -2) (by decide +kernel)).trans ?_
      exact sv_iret jM128 c128_43 rfl rfl
    ·
      refine (sv_iconst jM128 c128_15 rfl (v := 1) (by decide +kernel)).trans ?_
      refine (sv_iload_n jM128 c128_16 rfl rfl).trans ?_
      refine (sv_callsi (pl := 0) jM128 c128_17 rfl (jm_call_s (as := [(.int (1 : Int32)), (.int x3)]) (rest := []) lm_9_136 rfl jM130 rfl rfl rfl rfl) jM130 rfl (Or.inr rfl)).trans ?_
      refine jbi_c (fun r3 τ3 => ?_)
      refine (sv_if_eq jM128 c128_20 rfl (t := 41) (by decide +kernel)).trans ?_
      refine jif _ ?_ ?_
      ·
        refine (sv_bipush jM128 c128_41 rfl (v := -2) (by decide +kernel)).trans ?_
        exact sv_iret jM128 c128_43 rfl rfl
      ·
        refine (sv_iconst jM128 c128_23 rfl (v := 2) (by decide +kernel)).trans ?_
        refine (sv_iload jM128 c128_24 rfl rfl).trans ?_
        refine (sv_callsi (pl := 0) jM128 c128_26 rfl (jm_call_s (as := [(.int (2 : Int32)), (.int x4)]) (rest := []) lm_9_136 rfl jM130 rfl rfl rfl rfl) jM130 rfl (Or.inr rfl)).trans ?_
        refine jbi_c (fun r4 τ4 => ?_)
        refine (sv_if_eq jM128 c128_29 rfl (t := 41) (by decide +kernel)).trans ?_
        refine jif _ ?_ ?_
        ·
          refine (sv_bipush jM128 c128_41 rfl (v := -2) (by decide +kernel)).trans ?_
          exact sv_iret jM128 c128_43 rfl rfl
        ·
          refine (sv_iconst jM128 c128_32 rfl (v := 3) (by decide +kernel)).trans ?_
          refine (sv_iload jM128 c128_33 rfl rfl).trans ?_
          refine (sv_callsi (pl := 0) jM128 c128_35 rfl (jm_call_s (as := [(.int (3 : Int32)), (.int x5)]) (rest := []) lm_9_136 rfl jM130 rfl rfl rfl rfl) jM130 rfl (Or.inr rfl)).trans ?_
          refine jbi_c (fun r5 τ5 => ?_)
          refine (sv_if_ne jM128 c128_38 rfl (t := 44) (by decide +kernel)).trans ?_
          refine jif _ ?_ ?_
          ·
            refine (sv_aload_n jM128 c128_44 rfl rfl).trans ?_
            refine (sv_getf jM128 c128_45 rfl lf_9_124 (fg_61_5 _)).trans ?_
            refine (sv_bipush jM128 c128_48 rfl (v := 12) (by decide +kernel)).trans ?_
            refine (sv_icmp_ne jM128 c128_50 rfl (t := 56) (by decide +kernel)).trans ?_
            refine jif _ ?_ ?_
            ·
              refine (sv_aload_n jM128 c128_56 rfl rfl).trans ?_
              refine (sv_getf jM128 c128_57 rfl lf_9_22 (fg_61_6 _)).trans ?_
              refine (sv_aload_n jM128 c128_60 rfl rfl).trans ?_
              refine (sv_getf jM128 c128_61 rfl lf_9_124 (fg_61_5 _)).trans ?_
              refine (sv_iload_n jM128 c128_64 rfl rfl).trans ?_
              refine (sv_iast jM128 c128_65 rfl wi_66).trans ?_
              refine jif _ rfl ?_
              refine (sv_aload_n jM128 c128_66 rfl rfl).trans ?_
              refine (sv_getf jM128 c128_67 rfl lf_9_25 (fg_61_7 _)).trans ?_
              refine (sv_iconst jM128 c128_70 rfl (v := 4) (by decide +kernel)).trans ?_
              refine (sv_aload_n jM128 c128_71 rfl rfl).trans ?_
              refine (sv_getf jM128 c128_72 rfl lf_9_124 (fg_61_5 _)).trans ?_
              refine (sv_imul jM128 c128_75 rfl).trans ?_
              refine (sv_iload_n jM128 c128_76 rfl rfl).trans ?_
              refine (sv_iast jM128 c128_77 rfl wi_67).trans ?_
              refine jif _ rfl ?_
              refine (sv_aload_n jM128 c128_78 rfl rfl).trans ?_
              refine (sv_getf jM128 c128_79 rfl lf_9_25 (fg_61_7 _)).trans ?_
              refine (sv_iconst jM128 c128_82 rfl (v := 4) (by decide +kernel)).trans ?_
              refine (sv_aload_n jM128 c128_83 rfl rfl).trans ?_
              refine (sv_getf jM128 c128_84 rfl lf_9_124 (fg_61_5 _)).trans ?_
              refine (sv_imul jM128 c128_87 rfl).trans ?_
              refine (sv_iconst jM128 c128_88 rfl (v := 1) (by decide +kernel)).trans ?_
              refine (sv_iadd jM128 c128_89 rfl).trans ?_
              refine (sv_iload_n jM128 c128_90 rfl rfl).trans ?_
              refine (sv_iast jM128 c128_91 rfl wi_67).trans ?_
              refine jif _ rfl ?_
              refine (sv_aload_n jM128 c128_92 rfl rfl).trans ?_
              refine (sv_getf jM128 c128_93 rfl lf_9_25 (fg_61_7 _)).trans ?_
              refine (sv_iconst jM128 c128_96 rfl (v := 4) (by decide +kernel)).trans ?_
              refine (sv_aload_n jM128 c128_97 rfl rfl).trans ?_
              refine (sv_getf jM128 c128_98 rfl lf_9_124 (fg_61_5 _)).trans ?_
              refine (sv_imul jM128 c128_101 rfl).trans ?_
              refine (sv_iconst jM128 c128_102 rfl (v := 2) (by decide +kernel)).trans ?_
              refine (sv_iadd jM128 c128_103 rfl).trans ?_
              refine (sv_iload jM128 c128_104 rfl rfl).trans ?_
              refine (sv_iast jM128 c128_106 rfl wi_67).trans ?_
              refine jif _ rfl ?_
              refine (sv_aload_n jM128 c128_107 rfl rfl).trans ?_
              refine (sv_getf jM128 c128_108 rfl lf_9_25 (fg_61_7 _)).trans ?_
              refine (sv_iconst jM128 c128_111 rfl (v := 4) (by decide +kernel)).trans ?_
              refine (sv_aload_n jM128 c128_112 rfl rfl).trans ?_
              refine (sv_getf jM128 c128_113 rfl lf_9_124 (fg_61_5 _)).trans ?_
              refine (sv_imul jM128 c128_116 rfl).trans ?_
              refine (sv_iconst jM128 c128_117 rfl (v := 3) (by decide +kernel)).trans ?_
              refine (sv_iadd jM128 c128_118 rfl).trans ?_
              refine (sv_iload jM128 c128_119 rfl rfl).trans ?_
              refine (sv_iast jM128 c128_121 rfl wi_67).trans ?_
              refine jif _ rfl ?_
              refine (sv_aload_n jM128 c128_122 rfl rfl).trans ?_
              refine (sv_dup jM128 c128_123 rfl rfl).trans ?_
              refine (sv_getf jM128 c128_124 rfl lf_9_124 (fg_61_5 _)).trans ?_
              refine (sv_iconst jM128 c128_127 rfl (v := 1) (by decide +kernel)).trans ?_
              refine (sv_iadd jM128 c128_128 rfl).trans ?_
              refine (sv_putf jM128 c128_129 rfl lf_9_124 (pf_61_5 _ _)).trans ?_
              refine (sv_aload_n jM128 c128_132 rfl rfl).trans ?_
              refine (sv_getf jM128 c128_133 rfl lf_9_124 (fg_61_5 _)).trans ?_
              refine (sv_iconst jM128 c128_136 rfl (v := 1) (by decide +kernel)).trans ?_
              refine (sv_isub jM128 c128_137 rfl).trans ?_
              exact sv_iret jM128 c128_138 rfl rfl
            ·
              refine (sv_bipush jM128 c128_53 rfl (v := -4) (by decide +kernel)).trans ?_
              exact sv_iret jM128 c128_55 rfl rfl
          ·
            refine (sv_bipush jM128 c128_41 rfl (v := -2) (by decide +kernel)).trans ?_
            exact sv_iret jM128 c128_43 rfl rfl
set_option maxRecDepth 20000 in
set_option maxHeartbeats 4000000 in
theorem M_read_in (x1 : Int32) (x2 : Int32) (σ : jm_S) : jc 131 [(.ref 61), (.int x1), (.int x2)] σ = jbi (jc 119 [(.int x1)] σ) (fun r1 τ1 => (if r1 = 0 then some (some (.int (-2 : Int32)), τ1) else jbi (jc 129 [(.int x2)] τ1) (fun r2 τ2 => (if ¬ r2 = 0 then (if x1 < 0 ∨ 4 ≤ x1.toNatClampNeg then none else (if 0 ≤ (τ2 62 x1.toNatClampNeg) then jv 131 37 [some (.ref 61), some (.int x1), some (.int x2), some (.int (0 : Int32)), some (.int (1 : Int32)), none] [] τ2 else jbi (jc 121 [(.ref 61), (.int (1 : Int32))] τ2) (fun r3 τ3 => some (some (.int r3), τ3)))) else some (some (.int (-2 : Int32)), τ2))))) := by
  refine (jc_of (ls1 := [some (.ref 61), some (.int x1), some (.int x2), none, none, none]) ((jm_ini_of jM131).trans rfl)).trans ?_
  refine (sv_iload_n jM131 c131_0 rfl rfl).trans ?_
  refine (sv_callsi (pl := 0) jM131 c131_1 rfl (jm_call_s (as := [(.int x1)]) (rest := []) lm_9_105 rfl jM119 rfl rfl rfl rfl) jM119 rfl (Or.inr rfl)).trans ?_
  refine jbi_c (fun r1 τ1 => ?_)
  refine (sv_if_eq jM131 c131_4 rfl (t := 14) (by decide +kernel)).trans ?_
  refine jif _ ?_ ?_
  ·
    refine (sv_bipush jM131 c131_14 rfl (v := -2) (by decide +kernel)).trans ?_
    exact sv_iret jM131 c131_16 rfl rfl
  ·
    refine (sv_iload_n jM131 c131_7 rfl rfl).trans ?_
    refine (sv_callsi (pl := 0) jM131 c131_8 rfl (jm_call_s (as := [(.int x2)]) (rest := []) lm_9_133 rfl jM129 rfl rfl rfl rfl) jM129 rfl (Or.inr rfl)).trans ?_
    refine jbi_c (fun r2 τ2 => ?_)
    refine (sv_if_ne jM131 c131_11 rfl (t := 17) (by decide +kernel)).trans ?_
    refine jif _ ?_ ?_
    ·
      refine (sv_aload_n jM131 c131_17 rfl rfl).trans ?_
      refine (sv_getf jM131 c131_18 rfl lf_9_7 (fg_61_0 _)).trans ?_
      refine (sv_iload_n jM131 c131_21 rfl rfl).trans ?_
      refine (sv_iald jM131 c131_22 rfl (ia_62 _)).trans ?_
      refine jif _ rfl ?_
      refine (sv_if_ge jM131 c131_23 rfl (t := 32) (by decide +kernel)).trans ?_
      refine jif _ ?_ ?_
      ·
        refine (sv_iconst jM131 c131_32 rfl (v := 0) (by decide +kernel)).trans ?_
        refine (sv_istore_n (ls1 := [some (.ref 61), some (.int x1), some (.int x2), some (.int (0 : Int32)), none, none]) jM131 c131_33 rfl (Nat.lt_of_lt_of_eq (by decide +kernel : 3 < 6) rfl) rfl).trans ?_
        refine (sv_iconst jM131 c131_34 rfl (v := 1) (by decide +kernel)).trans ?_
        refine (sv_istore (ls1 := [some (.ref 61), some (.int x1), some (.int x2), some (.int (0 : Int32)), some (.int (1 : Int32)), none]) jM131 c131_35 rfl (Nat.lt_of_lt_of_eq (by decide +kernel : 4 < 6) rfl) rfl).trans ?_
        rfl
      ·
        refine (sv_aload_n jM131 c131_26 rfl rfl).trans ?_
        refine (sv_iconst jM131 c131_27 rfl (v := 1) (by decide +kernel)).trans ?_
        refine (sv_callvi (pl := 0) jM131 c131_28 rfl (jm_call_v (a := 61) (as := [(.int (1 : Int32))]) (rest := []) lm_9_111 rfl jM121 rfl rfl rfl rfl rfl) jM121 rfl (Or.inl rfl)).trans ?_
        refine jbi_c (fun r3 τ3 => ?_)
        exact sv_iret jM131 c131_31 rfl rfl
    ·
      refine (sv_bipush jM131 c131_14 rfl (v := -2) (by decide +kernel)).trans ?_
      exact sv_iret jM131 c131_16 rfl rfl
set_option maxRecDepth 20000 in
set_option maxHeartbeats 4000000 in
theorem M_read_L37 (x1 : Int32) (x2 : Int32) (x3 : Int32) (x4 : Int32) (u5 : Option Value) (σ : jm_S) : jv 131 37 [some (.ref 61), some (.int x1), some (.int x2), some (.int x3), some (.int x4), u5] [] σ = (if x4 = 0 then some (some (.int x3), σ) else (if x1 < 0 ∨ 4 ≤ x1.toNatClampNeg then none else (if (σ 63 x1.toNatClampNeg) < (((4 : Int32) * x3) + (4 : Int32)) then some (some (.int x3), σ) else (if (((60 : Int32) * x1) + ((4 : Int32) * x3)) < 0 ∨ 240 ≤ (((60 : Int32) * x1) + ((4 : Int32) * x3)).toNatClampNeg then none else (if ((((60 : Int32) * x1) + ((4 : Int32) * x3)) + (1 : Int32)) < 0 ∨ 240 ≤ ((((60 : Int32) * x1) + ((4 : Int32) * x3)) + (1 : Int32)).toNatClampNeg then none else (if ((((60 : Int32) * x1) + ((4 : Int32) * x3)) + (2 : Int32)) < 0 ∨ 240 ≤ ((((60 : Int32) * x1) + ((4 : Int32) * x3)) + (2 : Int32)).toNatClampNeg then none else (if ((((60 : Int32) * x1) + ((4 : Int32) * x3)) + (3 : Int32)) < 0 ∨ 240 ≤ ((((60 : Int32) * x1) + ((4 : Int32) * x3)) + (3 : Int32)).toNatClampNeg then none else jbi (jc 128 [(.ref 61), (.int x2), (.int (σ 64 (((60 : Int32) * x1) + ((4 : Int32) * x3)).toNatClampNeg)), (.int (σ 64 ((((60 : Int32) * x1) + ((4 : Int32) * x3)) + (1 : Int32)).toNatClampNeg)), (.int (σ 64 ((((60 : Int32) * x1) + ((4 : Int32) * x3)) + (2 : Int32)).toNatClampNeg)), (.int (σ 64 ((((60 : Int32) * x1) + ((4 : Int32) * x3)) + (3 : Int32)).toNatClampNeg))] σ) (fun r1 τ1 => (if r1 < 0 then jv 131 37 [some (.ref 61), some (.int x1), some (.int x2), some (.int (x3 + (0 : Int32))), some (.int (0 : Int32)), some (.int (((60 : Int32) * x1) + ((4 : Int32) * x3)))] [] τ1 else jv 131 37 [some (.ref 61), some (.int x1), some (.int x2), some (.int (x3 + (1 : Int32))), some (.int (1 : Int32)), some (.int (((60 : Int32) * x1) + ((4 : Int32) * x3)))] [] τ1))))))))) := by
  refine (sv_iload jM131 c131_37 rfl rfl).trans ?_
  refine (sv_if_eq jM131 c131_39 rfl (t := 131) (by decide +kernel)).trans ?_
  refine jif _ ?_ ?_
  ·
    refine (sv_iload_n jM131 c131_131 rfl rfl).trans ?_
    exact sv_iret jM131 c131_132 rfl rfl
  ·
    refine (sv_iconst jM131 c131_42 rfl (v := 4) (by decide +kernel)).trans ?_
    refine (sv_iload_n jM131 c131_43 rfl rfl).trans ?_
    refine (sv_imul jM131 c131_44 rfl).trans ?_
    refine (sv_iconst jM131 c131_45 rfl (v := 4) (by decide +kernel)).trans ?_
    refine (sv_iadd jM131 c131_46 rfl).trans ?_
    refine (sv_aload_n jM131 c131_47 rfl rfl).trans ?_
    refine (sv_getf jM131 c131_48 rfl lf_9_13 (fg_61_1 _)).trans ?_
    refine (sv_iload_n jM131 c131_51 rfl rfl).trans ?_
    refine (sv_iald jM131 c131_52 rfl (ia_63 _)).trans ?_
    refine jif _ rfl ?_
    refine (sv_icmp_gt jM131 c131_53 rfl (t := 131) (by decide +kernel)).trans ?_
    refine jif _ ?_ ?_
    ·
      refine (sv_iload_n jM131 c131_131 rfl rfl).trans ?_
      exact sv_iret jM131 c131_132 rfl rfl
    ·
      refine (sv_bipush jM131 c131_56 rfl (v := 60) (by decide +kernel)).trans ?_
      refine (sv_iload_n jM131 c131_58 rfl rfl).trans ?_
      refine (sv_imul jM131 c131_59 rfl).trans ?_
      refine (sv_iconst jM131 c131_60 rfl (v := 4) (by decide +kernel)).trans ?_
      refine (sv_iload_n jM131 c131_61 rfl rfl).trans ?_
      refine (sv_imul jM131 c131_62 rfl).trans ?_
      refine (sv_iadd jM131 c131_63 rfl).trans ?_
      refine (sv_istore (ls1 := [some (.ref 61), some (.int x1), some (.int x2), some (.int x3), some (.int x4), some (.int (((60 : Int32) * x1) + ((4 : Int32) * x3)))]) jM131 c131_64 rfl (Nat.lt_of_lt_of_eq (by decide +kernel : 5 < 6) rfl) rfl).trans ?_
      refine (sv_aload_n jM131 c131_66 rfl rfl).trans ?_
      refine (sv_iload_n jM131 c131_67 rfl rfl).trans ?_
      refine (sv_aload_n jM131 c131_68 rfl rfl).trans ?_
      refine (sv_getf jM131 c131_69 rfl lf_9_16 (fg_61_2 _)).trans ?_
      refine (sv_iload jM131 c131_72 rfl rfl).trans ?_
      refine (sv_iald jM131 c131_74 rfl (ia_64 _)).trans ?_
      refine jif _ rfl ?_
      refine (sv_aload_n jM131 c131_75 rfl rfl).trans ?_
      refine (sv_getf jM131 c131_76 rfl lf_9_16 (fg_61_2 _)).trans ?_
      refine (sv_iload jM131 c131_79 rfl rfl).trans ?_
      refine (sv_iconst jM131 c131_81 rfl (v := 1) (by decide +kernel)).trans ?_
      refine (sv_iadd jM131 c131_82 rfl).trans ?_
      refine (sv_iald jM131 c131_83 rfl (ia_64 _)).trans ?_
      refine jif _ rfl ?_
      refine (sv_aload_n jM131 c131_84 rfl rfl).trans ?_
      refine (sv_getf jM131 c131_85 rfl lf_9_16 (fg_61_2 _)).trans ?_
      refine (sv_iload jM131 c131_88 rfl rfl).trans ?_
      refine (sv_iconst jM131 c131_90 rfl (v := 2) (by decide +kernel)).trans ?_
      refine (sv_iadd jM131 c131_91 rfl).trans ?_
      refine (sv_iald jM131 c131_92 rfl (ia_64 _)).trans ?_
      refine jif _ rfl ?_
      refine (sv_aload_n jM131 c131_93 rfl rfl).trans ?_
      refine (sv_getf jM131 c131_94 rfl lf_9_16 (fg_61_2 _)).trans ?_
      refine (sv_iload jM131 c131_97 rfl rfl).trans ?_
      refine (sv_iconst jM131 c131_99 rfl (v := 3) (by decide +kernel)).trans ?_
      refine (sv_iadd jM131 c131_100 rfl).trans ?_
      refine (sv_iald jM131 c131_101 rfl (ia_64 _)).trans ?_
      refine jif _ rfl ?_
      refine (sv_callvi (pl := 0) jM131 c131_102 rfl (jm_call_v (a := 61) (as := [(.int x2), (.int (σ 64 (((60 : Int32) * x1) + ((4 : Int32) * x3)).toNatClampNeg)), (.int (σ 64 ((((60 : Int32) * x1) + ((4 : Int32) * x3)) + (1 : Int32)).toNatClampNeg)), (.int (σ 64 ((((60 : Int32) * x1) + ((4 : Int32) * x3)) + (2 : Int32)).toNatClampNeg)), (.int (σ 64 ((((60 : Int32) * x1) + ((4 : Int32) * x3)) + (3 : Int32)).toNatClampNeg))]) (rest := []) lm_9_140 rfl jM128 rfl rfl rfl rfl rfl) jM128 rfl (Or.inl rfl)).trans ?_
      refine jbi_c (fun r1 τ1 => ?_)
      refine (sv_if_lt jM131 c131_105 rfl (t := 112) (by decide +kernel)).trans ?_
      refine jif _ ?_ ?_
      ·
        refine (sv_iconst jM131 c131_112 rfl (v := 0) (by decide +kernel)).trans ?_
        refine (sv_istore (ls1 := [some (.ref 61), some (.int x1), some (.int x2), some (.int x3), some (.int (0 : Int32)), some (.int (((60 : Int32) * x1) + ((4 : Int32) * x3)))]) jM131 c131_113 rfl (Nat.lt_of_lt_of_eq (by decide +kernel : 4 < 6) rfl) rfl).trans ?_
        refine (sv_iload_n jM131 c131_115 rfl rfl).trans ?_
        refine (sv_iload jM131 c131_116 rfl rfl).trans ?_
        refine (sv_if_eq jM131 c131_118 rfl (t := 125) (by decide +kernel)).trans ?_
        refine (if_pos (by decide +kernel)).trans ?_
        refine (sv_iconst jM131 c131_125 rfl (v := 0) (by decide +kernel)).trans ?_
        refine (sv_iadd jM131 c131_126 rfl).trans ?_
        refine (sv_istore_n (ls1 := [some (.ref 61), some (.int x1), some (.int x2), some (.int (x3 + (0 : Int32))), some (.int (0 : Int32)), some (.int (((60 : Int32) * x1) + ((4 : Int32) * x3)))]) jM131 c131_127 rfl (Nat.lt_of_lt_of_eq (by decide +kernel : 3 < 6) rfl) rfl).trans ?_
        refine (sv_goto jM131 c131_128 rfl (t := 37) (by decide +kernel)).trans ?_
        rfl
      ·
        refine (sv_iconst jM131 c131_108 rfl (v := 1) (by decide +kernel)).trans ?_
        refine (sv_goto jM131 c131_109 rfl (t := 113) (by decide +kernel)).trans ?_
        refine (sv_istore (ls1 := [some (.ref 61), some (.int x1), some (.int x2), some (.int x3), some (.int (1 : Int32)), some (.int (((60 : Int32) * x1) + ((4 : Int32) * x3)))]) jM131 c131_113 rfl (Nat.lt_of_lt_of_eq (by decide +kernel : 4 < 6) rfl) rfl).trans ?_
        refine (sv_iload_n jM131 c131_115 rfl rfl).trans ?_
        refine (sv_iload jM131 c131_116 rfl rfl).trans ?_
        refine (sv_if_eq jM131 c131_118 rfl (t := 125) (by decide +kernel)).trans ?_
        refine (if_neg (by decide +kernel)).trans ?_
        refine (sv_iconst jM131 c131_121 rfl (v := 1) (by decide +kernel)).trans ?_
        refine (sv_goto jM131 c131_122 rfl (t := 126) (by decide +kernel)).trans ?_
        refine (sv_iadd jM131 c131_126 rfl).trans ?_
        refine (sv_istore_n (ls1 := [some (.ref 61), some (.int x1), some (.int x2), some (.int (x3 + (1 : Int32))), some (.int (1 : Int32)), some (.int (((60 : Int32) * x1) + ((4 : Int32) * x3)))]) jM131 c131_127 rfl (Nat.lt_of_lt_of_eq (by decide +kernel : 3 < 6) rfl) rfl).trans ?_
        refine (sv_goto jM131 c131_128 rfl (t := 37) (by decide +kernel)).trans ?_
        rfl
set_option maxRecDepth 20000 in
set_option maxHeartbeats 4000000 in
theorem M_change_in (x1 : Int32) (x2 : Int32) (x3 : Int32) (σ : jm_S) : jc 132 [(.ref 61), (.int x1), (.int x2), (.int x3)] σ = jbi (jc 133 [(.ref 61), (.int x1)] σ) (fun r1 τ1 => (if r1 = 0 then some (some (.int (-2 : Int32)), τ1) else jbi (jc 120 [(.long x2.toInt64), (.long (0 : Int64)), (.long (3 : Int64))] τ1) (fun r2 τ2 => (if r2 = 0 then some (some (.int (-2 : Int32)), τ2) else jbi (jc 130 [(.int x2), (.int x3)] τ2) (fun r3 τ3 => (if ¬ r3 = 0 then (if (((4 : Int32) * x1) + x2) < 0 ∨ 48 ≤ (((4 : Int32) * x1) + x2).toNatClampNeg then none else (if (((4 : Int32) * x1) + x2) < 0 ∨ 48 ≤ (((4 : Int32) * x1) + x2).toNatClampNeg then none else some (some (.int (τ3 67 (((4 : Int32) * x1) + x2).toNatClampNeg)), (jm_up τ3 67 (((4 : Int32) * x1) + x2).toNatClampNeg x3)))) else some (some (.int (-2 : Int32)), τ3))))))) := by
  refine (jc_of (ls1 := [some (.ref 61), some (.int x1), some (.int x2), some (.int x3), none]) ((jm_ini_of jM132).trans rfl)).trans ?_
  refine (sv_aload_n jM132 c132_0 rfl rfl).trans ?_
  refine (sv_iload_n jM132 c132_1 rfl rfl).trans ?_
  refine (sv_callvi (pl := 0) jM132 c132_2 rfl (jm_call_v (a := 61) (as := [(.int x1)]) (rest := []) lm_9_144 rfl jM133 rfl rfl rfl rfl rfl) jM133 rfl (Or.inr rfl)).trans ?_
  refine jbi_c (fun r1 τ1 => ?_)
  refine (sv_if_eq jM132 c132_5 rfl (t := 28) (by decide +kernel)).trans ?_
  refine jif _ ?_ ?_
  ·
    refine (sv_bipush jM132 c132_28 rfl (v := -2) (by decide +kernel)).trans ?_
    exact sv_iret jM132 c132_30 rfl rfl
  ·
    refine (sv_iload_n jM132 c132_8 rfl rfl).trans ?_
    refine (sv_i2l jM132 c132_9 rfl).trans ?_
    refine (sv_lconst jM132 c132_10 rfl (v := 0) (by decide +kernel)).trans ?_
    refine (sv_ldc2 jM132 c132_11 rfl ll_9_103).trans ?_
    refine (sv_callsi (pl := 0) jM132 c132_14 rfl (jm_call_s (as := [(.long x2.toInt64), (.long (0 : Int64)), (.long (3 : Int64))]) (rest := []) lm_9_95 rfl jM120 rfl rfl rfl rfl) jM120 rfl (Or.inr rfl)).trans ?_
    refine jbi_c (fun r2 τ2 => ?_)
    refine (sv_if_eq jM132 c132_17 rfl (t := 28) (by decide +kernel)).trans ?_
    refine jif _ ?_ ?_
    ·
      refine (sv_bipush jM132 c132_28 rfl (v := -2) (by decide +kernel)).trans ?_
      exact sv_iret jM132 c132_30 rfl rfl
    ·
      refine (sv_iload_n jM132 c132_20 rfl rfl).trans ?_
      refine (sv_iload_n jM132 c132_21 rfl rfl).trans ?_
      refine (sv_callsi (pl := 0) jM132 c132_22 rfl (jm_call_s (as := [(.int x2), (.int x3)]) (rest := []) lm_9_136 rfl jM130 rfl rfl rfl rfl) jM130 rfl (Or.inr rfl)).trans ?_
      refine jbi_c (fun r3 τ3 => ?_)
      refine (sv_if_ne jM132 c132_25 rfl (t := 31) (by decide +kernel)).trans ?_
      refine jif _ ?_ ?_
      ·
        refine (sv_aload_n jM132 c132_31 rfl rfl).trans ?_
        refine (sv_getf jM132 c132_32 rfl lf_9_25 (fg_61_7 _)).trans ?_
        refine (sv_iconst jM132 c132_35 rfl (v := 4) (by decide +kernel)).trans ?_
        refine (sv_iload_n jM132 c132_36 rfl rfl).trans ?_
        refine (sv_imul jM132 c132_37 rfl).trans ?_
        refine (sv_iload_n jM132 c132_38 rfl rfl).trans ?_
        refine (sv_iadd jM132 c132_39 rfl).trans ?_
        refine (sv_iald jM132 c132_40 rfl (ia_67 _)).trans ?_
        refine jif _ rfl ?_
        refine (sv_istore (ls1 := [some (.ref 61), some (.int x1), some (.int x2), some (.int x3), some (.int (τ3 67 (((4 : Int32) * x1) + x2).toNatClampNeg))]) jM132 c132_41 rfl (Nat.lt_of_lt_of_eq (by decide +kernel : 4 < 5) rfl) rfl).trans ?_
        refine (sv_aload_n jM132 c132_43 rfl rfl).trans ?_
        refine (sv_getf jM132 c132_44 rfl lf_9_25 (fg_61_7 _)).trans ?_
        refine (sv_iconst jM132 c132_47 rfl (v := 4) (by decide +kernel)).trans ?_
        refine (sv_iload_n jM132 c132_48 rfl rfl).trans ?_
        refine (sv_imul jM132 c132_49 rfl).trans ?_
        refine (sv_iload_n jM132 c132_50 rfl rfl).trans ?_
        refine (sv_iadd jM132 c132_51 rfl).trans ?_
        refine (sv_iload_n jM132 c132_52 rfl rfl).trans ?_
        refine (sv_iast jM132 c132_53 rfl wi_67).trans ?_
        refine jif _ rfl ?_
        refine (sv_iload jM132 c132_54 rfl rfl).trans ?_
        exact sv_iret jM132 c132_56 rfl rfl
      ·
        refine (sv_bipush jM132 c132_28 rfl (v := -2) (by decide +kernel)).trans ?_
        exact sv_iret jM132 c132_30 rfl rfl
set_option maxRecDepth 20000 in
set_option maxHeartbeats 4000000 in
theorem M_empty_in (σ : jm_S) : jc 134 [(.ref 61)] σ = some (some (.int (σ 61 5)), (jm_up (jm_up σ 61 5 (0 : Int32)) 61 36 (0 : Int32))) := by
  refine (jc_of (ls1 := [some (.ref 61), none]) ((jm_ini_of jM134).trans rfl)).trans ?_
  refine (sv_aload_n jM134 c134_0 rfl rfl).trans ?_
  refine (sv_getf jM134 c134_1 rfl lf_9_124 (fg_61_5 _)).trans ?_
  refine (sv_istore_n (ls1 := [some (.ref 61), some (.int (σ 61 5))]) jM134 c134_4 rfl (Nat.lt_of_lt_of_eq (by decide +kernel : 1 < 2) rfl) rfl).trans ?_
  refine (sv_aload_n jM134 c134_5 rfl rfl).trans ?_
  refine (sv_iconst jM134 c134_6 rfl (v := 0) (by decide +kernel)).trans ?_
  refine (sv_putf jM134 c134_7 rfl lf_9_124 (pf_61_5 _ _)).trans ?_
  refine (sv_aload_n jM134 c134_10 rfl rfl).trans ?_
  refine (sv_iconst jM134 c134_11 rfl (v := 0) (by decide +kernel)).trans ?_
  refine (sv_putf jM134 c134_12 rfl lf_9_147 (pf_61_36 _ _)).trans ?_
  refine (sv_iload_n jM134 c134_15 rfl rfl).trans ?_
  exact sv_iret jM134 c134_16 rfl rfl
set_option maxRecDepth 20000 in
set_option maxHeartbeats 4000000 in
theorem M_set_in (x1 : Int32) (x2 : Int32) (σ : jm_S) : jc 135 [(.ref 61), (.int x1), (.int x2)] σ = (if ¬ x1 = (1 : Int32) then jbi (jc 120 [(.long x1.toInt64), (.long (0 : Int64)), (.long (5 : Int64))] σ) (fun r1 τ1 => (if r1 = 0 then some (some (.int (-2 : Int32)), τ1) else (if ¬ x1 = (2 : Int32) then jbi (jc 120 [(.long x2.toInt64), (.long (0 : Int64)), (.long (99 : Int64))] τ1) (fun r2 τ2 => (if r2 = 0 then some (some (.int (-2 : Int32)), τ2) else (if x1 < 0 ∨ 6 ≤ x1.toNatClampNeg then none else (if x1 < 0 ∨ 6 ≤ x1.toNatClampNeg then none else some (some (.int (τ2 68 x1.toNatClampNeg)), (jm_up τ2 68 x1.toNatClampNeg x2)))))) else jbi (jc 120 [(.long x2.toInt64), (.long (1 : Int64)), (.long (99 : Int64))] τ1) (fun r3 τ3 => (if r3 = 0 then some (some (.int (-2 : Int32)), τ3) else (if x1 < 0 ∨ 6 ≤ x1.toNatClampNeg then none else (if x1 < 0 ∨ 6 ≤ x1.toNatClampNeg then none else some (some (.int (τ3 68 x1.toNatClampNeg)), (jm_up τ3 68 x1.toNatClampNeg x2))))))))) else jbi (jc 120 [(.long x2.toInt64), (.long (5 : Int64)), (.long (15 : Int64))] σ) (fun r4 τ4 => (if ¬ r4 = 0 then (if x1 < 0 ∨ 6 ≤ x1.toNatClampNeg then none else (if x1 < 0 ∨ 6 ≤ x1.toNatClampNeg then none else some (some (.int (τ4 68 x1.toNatClampNeg)), (jm_up τ4 68 x1.toNatClampNeg x2)))) else some (some (.int (-2 : Int32)), τ4)))) := by
  refine (jc_of (ls1 := [some (.ref 61), some (.int x1), some (.int x2), none, none]) ((jm_ini_of jM135).trans rfl)).trans ?_
  refine (sv_iload_n jM135 c135_0 rfl rfl).trans ?_
  refine (sv_iconst jM135 c135_1 rfl (v := 1) (by decide +kernel)).trans ?_
  refine (sv_icmp_ne jM135 c135_2 rfl (t := 19) (by decide +kernel)).trans ?_
  refine jif _ ?_ ?_
  ·
    refine (sv_iload_n jM135 c135_19 rfl rfl).trans ?_
    refine (sv_i2l jM135 c135_20 rfl).trans ?_
    refine (sv_lconst jM135 c135_21 rfl (v := 0) (by decide +kernel)).trans ?_
    refine (sv_ldc2 jM135 c135_22 rfl ll_9_150).trans ?_
    refine (sv_callsi (pl := 0) jM135 c135_25 rfl (jm_call_s (as := [(.long x1.toInt64), (.long (0 : Int64)), (.long (5 : Int64))]) (rest := []) lm_9_95 rfl jM120 rfl rfl rfl rfl) jM120 rfl (Or.inr rfl)).trans ?_
    refine jbi_c (fun r1 τ1 => ?_)
    refine (sv_if_eq jM135 c135_28 rfl (t := 56) (by decide +kernel)).trans ?_
    refine jif _ ?_ ?_
    ·
      refine (sv_iconst jM135 c135_56 rfl (v := 0) (by decide +kernel)).trans ?_
      refine (sv_istore_n (ls1 := [some (.ref 61), some (.int x1), some (.int x2), some (.int (0 : Int32)), none]) jM135 c135_57 rfl (Nat.lt_of_lt_of_eq (by decide +kernel : 3 < 5) rfl) rfl).trans ?_
      refine (sv_iload_n jM135 c135_58 rfl rfl).trans ?_
      refine (sv_if_ne jM135 c135_59 rfl (t := 65) (by decide +kernel)).trans ?_
      refine (if_neg (by decide +kernel)).trans ?_
      refine (sv_bipush jM135 c135_62 rfl (v := -2) (by decide +kernel)).trans ?_
      exact sv_iret jM135 c135_64 rfl rfl
    ·
      refine (sv_iload_n jM135 c135_31 rfl rfl).trans ?_
      refine (sv_i2l jM135 c135_32 rfl).trans ?_
      refine (sv_iload_n jM135 c135_33 rfl rfl).trans ?_
      refine (sv_iconst jM135 c135_34 rfl (v := 2) (by decide +kernel)).trans ?_
      refine (sv_icmp_ne jM135 c135_35 rfl (t := 42) (by decide +kernel)).trans ?_
      refine jif _ ?_ ?_
      ·
        refine (sv_lconst jM135 c135_42 rfl (v := 0) (by decide +kernel)).trans ?_
        refine (sv_ldc2 jM135 c135_43 rfl ll_9_127).trans ?_
        refine (sv_callsi (pl := 0) jM135 c135_46 rfl (jm_call_s (as := [(.long x2.toInt64), (.long (0 : Int64)), (.long (99 : Int64))]) (rest := []) lm_9_95 rfl jM120 rfl rfl rfl rfl) jM120 rfl (Or.inr rfl)).trans ?_
        refine jbi_c (fun r2 τ2 => ?_)
        refine (sv_if_eq jM135 c135_49 rfl (t := 56) (by decide +kernel)).trans ?_
        refine jif _ ?_ ?_
        ·
          refine (sv_iconst jM135 c135_56 rfl (v := 0) (by decide +kernel)).trans ?_
          refine (sv_istore_n (ls1 := [some (.ref 61), some (.int x1), some (.int x2), some (.int (0 : Int32)), none]) jM135 c135_57 rfl (Nat.lt_of_lt_of_eq (by decide +kernel : 3 < 5) rfl) rfl).trans ?_
          refine (sv_iload_n jM135 c135_58 rfl rfl).trans ?_
          refine (sv_if_ne jM135 c135_59 rfl (t := 65) (by decide +kernel)).trans ?_
          refine (if_neg (by decide +kernel)).trans ?_
          refine (sv_bipush jM135 c135_62 rfl (v := -2) (by decide +kernel)).trans ?_
          exact sv_iret jM135 c135_64 rfl rfl
        ·
          refine (sv_iconst jM135 c135_52 rfl (v := 1) (by decide +kernel)).trans ?_
          refine (sv_goto jM135 c135_53 rfl (t := 57) (by decide +kernel)).trans ?_
          refine (sv_istore_n (ls1 := [some (.ref 61), some (.int x1), some (.int x2), some (.int (1 : Int32)), none]) jM135 c135_57 rfl (Nat.lt_of_lt_of_eq (by decide +kernel : 3 < 5) rfl) rfl).trans ?_
          refine (sv_iload_n jM135 c135_58 rfl rfl).trans ?_
          refine (sv_if_ne jM135 c135_59 rfl (t := 65) (by decide +kernel)).trans ?_
          refine (if_pos (by decide +kernel)).trans ?_
          refine (sv_aload_n jM135 c135_65 rfl rfl).trans ?_
          refine (sv_getf jM135 c135_66 rfl lf_9_28 (fg_61_8 _)).trans ?_
          refine (sv_iload_n jM135 c135_69 rfl rfl).trans ?_
          refine (sv_iald jM135 c135_70 rfl (ia_68 _)).trans ?_
          refine jif _ rfl ?_
          refine (sv_istore (ls1 := [some (.ref 61), some (.int x1), some (.int x2), some (.int (1 : Int32)), some (.int (τ2 68 x1.toNatClampNeg))]) jM135 c135_71 rfl (Nat.lt_of_lt_of_eq (by decide +kernel : 4 < 5) rfl) rfl).trans ?_
          refine (sv_aload_n jM135 c135_73 rfl rfl).trans ?_
          refine (sv_getf jM135 c135_74 rfl lf_9_28 (fg_61_8 _)).trans ?_
          refine (sv_iload_n jM135 c135_77 rfl rfl).trans ?_
          refine (sv_iload_n jM135 c135_78 rfl rfl).trans ?_
          refine (sv_iast jM135 c135_79 rfl wi_68).trans ?_
          refine jif _ rfl ?_
          refine (sv_iload jM135 c135_80 rfl rfl).trans ?_
          exact sv_iret jM135 c135_82 rfl rfl
      ·
        refine (sv_lconst jM135 c135_38 rfl (v := 1) (by decide +kernel)).trans ?_
        refine (sv_goto jM135 c135_39 rfl (t := 43) (by decide +kernel)).trans ?_
        refine (sv_ldc2 jM135 c135_43 rfl ll_9_127).trans ?_
        refine (sv_callsi (pl := 0) jM135 c135_46 rfl (jm_call_s (as := [(.long x2.toInt64), (.long (1 : Int64)), (.long (99 : Int64))]) (rest := []) lm_9_95 rfl jM120 rfl rfl rfl rfl) jM120 rfl (Or.inr rfl)).trans ?_
        refine jbi_c (fun r3 τ3 => ?_)
        refine (sv_if_eq jM135 c135_49 rfl (t := 56) (by decide +kernel)).trans ?_
        refine jif _ ?_ ?_
        ·
          refine (sv_iconst jM135 c135_56 rfl (v := 0) (by decide +kernel)).trans ?_
          refine (sv_istore_n (ls1 := [some (.ref 61), some (.int x1), some (.int x2), some (.int (0 : Int32)), none]) jM135 c135_57 rfl (Nat.lt_of_lt_of_eq (by decide +kernel : 3 < 5) rfl) rfl).trans ?_
          refine (sv_iload_n jM135 c135_58 rfl rfl).trans ?_
          refine (sv_if_ne jM135 c135_59 rfl (t := 65) (by decide +kernel)).trans ?_
          refine (if_neg (by decide +kernel)).trans ?_
          refine (sv_bipush jM135 c135_62 rfl (v := -2) (by decide +kernel)).trans ?_
          exact sv_iret jM135 c135_64 rfl rfl
        ·
          refine (sv_iconst jM135 c135_52 rfl (v := 1) (by decide +kernel)).trans ?_
          refine (sv_goto jM135 c135_53 rfl (t := 57) (by decide +kernel)).trans ?_
          refine (sv_istore_n (ls1 := [some (.ref 61), some (.int x1), some (.int x2), some (.int (1 : Int32)), none]) jM135 c135_57 rfl (Nat.lt_of_lt_of_eq (by decide +kernel : 3 < 5) rfl) rfl).trans ?_
          refine (sv_iload_n jM135 c135_58 rfl rfl).trans ?_
          refine (sv_if_ne jM135 c135_59 rfl (t := 65) (by decide +kernel)).trans ?_
          refine (if_pos (by decide +kernel)).trans ?_
          refine (sv_aload_n jM135 c135_65 rfl rfl).trans ?_
          refine (sv_getf jM135 c135_66 rfl lf_9_28 (fg_61_8 _)).trans ?_
          refine (sv_iload_n jM135 c135_69 rfl rfl).trans ?_
          refine (sv_iald jM135 c135_70 rfl (ia_68 _)).trans ?_
          refine jif _ rfl ?_
          refine (sv_istore (ls1 := [some (.ref 61), some (.int x1), some (.int x2), some (.int (1 : Int32)), some (.int (τ3 68 x1.toNatClampNeg))]) jM135 c135_71 rfl (Nat.lt_of_lt_of_eq (by decide +kernel : 4 < 5) rfl) rfl).trans ?_
          refine (sv_aload_n jM135 c135_73 rfl rfl).trans ?_
          refine (sv_getf jM135 c135_74 rfl lf_9_28 (fg_61_8 _)).trans ?_
          refine (sv_iload_n jM135 c135_77 rfl rfl).trans ?_
          refine (sv_iload_n jM135 c135_78 rfl rfl).trans ?_
          refine (sv_iast jM135 c135_79 rfl wi_68).trans ?_
          refine jif _ rfl ?_
          refine (sv_iload jM135 c135_80 rfl rfl).trans ?_
          exact sv_iret jM135 c135_82 rfl rfl
  ·
    refine (sv_iload_n jM135 c135_5 rfl rfl).trans ?_
    refine (sv_i2l jM135 c135_6 rfl).trans ?_
    refine (sv_ldc2 jM135 c135_7 rfl ll_9_150).trans ?_
    refine (sv_ldc2 jM135 c135_10 rfl ll_9_152).trans ?_
    refine (sv_callsi (pl := 0) jM135 c135_13 rfl (jm_call_s (as := [(.long x2.toInt64), (.long (5 : Int64)), (.long (15 : Int64))]) (rest := []) lm_9_95 rfl jM120 rfl rfl rfl rfl) jM120 rfl (Or.inr rfl)).trans ?_
    refine jbi_c (fun r4 τ4 => ?_)
    refine (sv_goto jM135 c135_16 rfl (t := 57) (by decide +kernel)).trans ?_
    refine (sv_istore_n (ls1 := [some (.ref 61), some (.int x1), some (.int x2), some (.int r4), none]) jM135 c135_57 rfl (Nat.lt_of_lt_of_eq (by decide +kernel : 3 < 5) rfl) rfl).trans ?_
    refine (sv_iload_n jM135 c135_58 rfl rfl).trans ?_
    refine (sv_if_ne jM135 c135_59 rfl (t := 65) (by decide +kernel)).trans ?_
    refine jif _ ?_ ?_
    ·
      refine (sv_aload_n jM135 c135_65 rfl rfl).trans ?_
      refine (sv_getf jM135 c135_66 rfl lf_9_28 (fg_61_8 _)).trans ?_
      refine (sv_iload_n jM135 c135_69 rfl rfl).trans ?_
      refine (sv_iald jM135 c135_70 rfl (ia_68 _)).trans ?_
      refine jif _ rfl ?_
      refine (sv_istore (ls1 := [some (.ref 61), some (.int x1), some (.int x2), some (.int r4), some (.int (τ4 68 x1.toNatClampNeg))]) jM135 c135_71 rfl (Nat.lt_of_lt_of_eq (by decide +kernel : 4 < 5) rfl) rfl).trans ?_
      refine (sv_aload_n jM135 c135_73 rfl rfl).trans ?_
      refine (sv_getf jM135 c135_74 rfl lf_9_28 (fg_61_8 _)).trans ?_
      refine (sv_iload_n jM135 c135_77 rfl rfl).trans ?_
      refine (sv_iload_n jM135 c135_78 rfl rfl).trans ?_
      refine (sv_iast jM135 c135_79 rfl wi_68).trans ?_
      refine jif _ rfl ?_
      refine (sv_iload jM135 c135_80 rfl rfl).trans ?_
      exact sv_iret jM135 c135_82 rfl rfl
    ·
      refine (sv_bipush jM135 c135_62 rfl (v := -2) (by decide +kernel)).trans ?_
      exact sv_iret jM135 c135_64 rfl rfl
set_option maxRecDepth 20000 in
set_option maxHeartbeats 4000000 in
theorem M_type_in (x1 : Int32) (x2 : Int32) (σ : jm_S) : jc 136 [(.ref 61), (.int x1), (.int x2)] σ = jbi (jc 137 [(.int x1)] σ) (fun r1 τ1 => (if r1 = 0 then some (some (.int (-2 : Int32)), τ1) else jbi (jc 120 [(.long x2.toInt64), (.long (0 : Int64)), (.long (255 : Int64))] τ1) (fun r2 τ2 => (if ¬ r2 = 0 then (if x1 < 0 ∨ 4 ≤ x1.toNatClampNeg then none else (if ¬ x1 = 0 then (if ¬ (τ2 70 x1.toNatClampNeg) = (30 : Int32) then (if x1 < 0 ∨ 4 ≤ x1.toNatClampNeg then none else (if (((60 : Int32) * x1) + (τ2 70 x1.toNatClampNeg)) < 0 ∨ 240 ≤ (((60 : Int32) * x1) + (τ2 70 x1.toNatClampNeg)).toNatClampNeg then none else (if x1 < 0 ∨ 4 ≤ x1.toNatClampNeg then none else (if x1 < 0 ∨ 4 ≤ x1.toNatClampNeg then none else (if x1 < 0 ∨ 4 ≤ x1.toNatClampNeg then none else some (some (.int ((jm_up (jm_up τ2 69 (((60 : Int32) * x1) + (τ2 70 x1.toNatClampNeg)).toNatClampNeg x2) 70 x1.toNatClampNeg ((τ2 70 x1.toNatClampNeg) + (1 : Int32))) 70 x1.toNatClampNeg)), (jm_up (jm_up τ2 69 (((60 : Int32) * x1) + (τ2 70 x1.toNatClampNeg)).toNatClampNeg x2) 70 x1.toNatClampNeg ((τ2 70 x1.toNatClampNeg) + (1 : Int32))))))))) else some (some (.int (-4 : Int32)), τ2)) else (if ¬ (τ2 70 x1.toNatClampNeg) = (60 : Int32) then (if x1 < 0 ∨ 4 ≤ x1.toNatClampNeg then none else (if (((60 : Int32) * x1) + (τ2 70 x1.toNatClampNeg)) < 0 ∨ 240 ≤ (((60 : Int32) * x1) + (τ2 70 x1.toNatClampNeg)).toNatClampNeg then none else (if x1 < 0 ∨ 4 ≤ x1.toNatClampNeg then none else (if x1 < 0 ∨ 4 ≤ x1.toNatClampNeg then none else (if x1 < 0 ∨ 4 ≤ x1.toNatClampNeg then none else some (some (.int ((jm_up (jm_up τ2 69 (((60 : Int32) * x1) + (τ2 70 x1.toNatClampNeg)).toNatClampNeg x2) 70 x1.toNatClampNeg ((τ2 70 x1.toNatClampNeg) + (1 : Int32))) 70 x1.toNatClampNeg)), (jm_up (jm_up τ2 69 (((60 : Int32) * x1) + (τ2 70 x1.toNatClampNeg)).toNatClampNeg x2) 70 x1.toNatClampNeg ((τ2 70 x1.toNatClampNeg) + (1 : Int32))))))))) else some (some (.int (-4 : Int32)), τ2)))) else some (some (.int (-2 : Int32)), τ2))))) := by
  refine (jc_of (ls1 := [some (.ref 61), some (.int x1), some (.int x2)]) ((jm_ini_of jM136).trans rfl)).trans ?_
  refine (sv_iload_n jM136 c136_0 rfl rfl).trans ?_
  refine (sv_callsi (pl := 0) jM136 c136_1 rfl (jm_call_s (as := [(.int x1)]) (rest := []) lm_9_154 rfl jM137 rfl rfl rfl rfl) jM137 rfl (Or.inr rfl)).trans ?_
  refine jbi_c (fun r1 τ1 => ?_)
  refine (sv_if_eq jM136 c136_4 rfl (t := 19) (by decide +kernel)).trans ?_
  refine jif _ ?_ ?_
  ·
    refine (sv_bipush jM136 c136_19 rfl (v := -2) (by decide +kernel)).trans ?_
    exact sv_iret jM136 c136_21 rfl rfl
  ·
    refine (sv_iload_n jM136 c136_7 rfl rfl).trans ?_
    refine (sv_i2l jM136 c136_8 rfl).trans ?_
    refine (sv_lconst jM136 c136_9 rfl (v := 0) (by decide +kernel)).trans ?_
    refine (sv_ldc2 jM136 c136_10 rfl ll_9_157).trans ?_
    refine (sv_callsi (pl := 0) jM136 c136_13 rfl (jm_call_s (as := [(.long x2.toInt64), (.long (0 : Int64)), (.long (255 : Int64))]) (rest := []) lm_9_95 rfl jM120 rfl rfl rfl rfl) jM120 rfl (Or.inr rfl)).trans ?_
    refine jbi_c (fun r2 τ2 => ?_)
    refine (sv_if_ne jM136 c136_16 rfl (t := 22) (by decide +kernel)).trans ?_
    refine jif _ ?_ ?_
    ·
      refine (sv_aload_n jM136 c136_22 rfl rfl).trans ?_
      refine (sv_getf jM136 c136_23 rfl lf_9_34 (fg_61_10 _)).trans ?_
      refine (sv_iload_n jM136 c136_26 rfl rfl).trans ?_
      refine (sv_iald jM136 c136_27 rfl (ia_70 _)).trans ?_
      refine jif _ rfl ?_
      refine (sv_iload_n jM136 c136_28 rfl rfl).trans ?_
      refine (sv_if_ne jM136 c136_29 rfl (t := 37) (by decide +kernel)).trans ?_
      refine jif _ ?_ ?_
      ·
        refine (sv_bipush jM136 c136_37 rfl (v := 30) (by decide +kernel)).trans ?_
        refine (sv_icmp_ne jM136 c136_39 rfl (t := 45) (by decide +kernel)).trans ?_
        refine jif _ ?_ ?_
        ·
          refine (sv_aload_n jM136 c136_45 rfl rfl).trans ?_
          refine (sv_getf jM136 c136_46 rfl lf_9_31 (fg_61_9 _)).trans ?_
          refine (sv_bipush jM136 c136_49 rfl (v := 60) (by decide +kernel)).trans ?_
          refine (sv_iload_n jM136 c136_51 rfl rfl).trans ?_
          refine (sv_imul jM136 c136_52 rfl).trans ?_
          refine (sv_aload_n jM136 c136_53 rfl rfl).trans ?_
          refine (sv_getf jM136 c136_54 rfl lf_9_34 (fg_61_10 _)).trans ?_
          refine (sv_iload_n jM136 c136_57 rfl rfl).trans ?_
          refine (sv_iald jM136 c136_58 rfl (ia_70 _)).trans ?_
          refine jif _ rfl ?_
          refine (sv_iadd jM136 c136_59 rfl).trans ?_
          refine (sv_iload_n jM136 c136_60 rfl rfl).trans ?_
          refine (sv_iast jM136 c136_61 rfl wi_69).trans ?_
          refine jif _ rfl ?_
          refine (sv_aload_n jM136 c136_62 rfl rfl).trans ?_
          refine (sv_getf jM136 c136_63 rfl lf_9_34 (fg_61_10 _)).trans ?_
          refine (sv_iload_n jM136 c136_66 rfl rfl).trans ?_
          refine (sv_dup2 jM136 c136_67 rfl ⟨rfl, rfl⟩).trans ?_
          refine (sv_iald jM136 c136_68 rfl (ia_70 _)).trans ?_
          refine jif _ rfl ?_
          refine (sv_iconst jM136 c136_69 rfl (v := 1) (by decide +kernel)).trans ?_
          refine (sv_iadd jM136 c136_70 rfl).trans ?_
          refine (sv_iast jM136 c136_71 rfl wi_70).trans ?_
          refine jif _ rfl ?_
          refine (sv_aload_n jM136 c136_72 rfl rfl).trans ?_
          refine (sv_getf jM136 c136_73 rfl lf_9_34 (fg_61_10 _)).trans ?_
          refine (sv_iload_n jM136 c136_76 rfl rfl).trans ?_
          refine (sv_iald jM136 c136_77 rfl (ia_70 _)).trans ?_
          refine jif _ rfl ?_
          exact sv_iret jM136 c136_78 rfl rfl
        ·
          refine (sv_bipush jM136 c136_42 rfl (v := -4) (by decide +kernel)).trans ?_
          exact sv_iret jM136 c136_44 rfl rfl
      ·
        refine (sv_bipush jM136 c136_32 rfl (v := 60) (by decide +kernel)).trans ?_
        refine (sv_goto jM136 c136_34 rfl (t := 39) (by decide +kernel)).trans ?_
        refine (sv_icmp_ne jM136 c136_39 rfl (t := 45) (by decide +kernel)).trans ?_
        refine jif _ ?_ ?_
        ·
          refine (sv_aload_n jM136 c136_45 rfl rfl).trans ?_
          refine (sv_getf jM136 c136_46 rfl lf_9_31 (fg_61_9 _)).trans ?_
          refine (sv_bipush jM136 c136_49 rfl (v := 60) (by decide +kernel)).trans ?_
          refine (sv_iload_n jM136 c136_51 rfl rfl).trans ?_
          refine (sv_imul jM136 c136_52 rfl).trans ?_
          refine (sv_aload_n jM136 c136_53 rfl rfl).trans ?_
          refine (sv_getf jM136 c136_54 rfl lf_9_34 (fg_61_10 _)).trans ?_
          refine (sv_iload_n jM136 c136_57 rfl rfl).trans ?_
          refine (sv_iald jM136 c136_58 rfl (ia_70 _)).trans ?_
          refine jif _ rfl ?_
          refine (sv_iadd jM136 c136_59 rfl).trans ?_
          refine (sv_iload_n jM136 c136_60 rfl rfl).trans ?_
          refine (sv_iast jM136 c136_61 rfl wi_69).trans ?_
          refine jif _ rfl ?_
          refine (sv_aload_n jM136 c136_62 rfl rfl).trans ?_
          refine (sv_getf jM136 c136_63 rfl lf_9_34 (fg_61_10 _)).trans ?_
          refine (sv_iload_n jM136 c136_66 rfl rfl).trans ?_
          refine (sv_dup2 jM136 c136_67 rfl ⟨rfl, rfl⟩).trans ?_
          refine (sv_iald jM136 c136_68 rfl (ia_70 _)).trans ?_
          refine jif _ rfl ?_
          refine (sv_iconst jM136 c136_69 rfl (v := 1) (by decide +kernel)).trans ?_
          refine (sv_iadd jM136 c136_70 rfl).trans ?_
          refine (sv_iast jM136 c136_71 rfl wi_70).trans ?_
          refine jif _ rfl ?_
          refine (sv_aload_n jM136 c136_72 rfl rfl).trans ?_
          refine (sv_getf jM136 c136_73 rfl lf_9_34 (fg_61_10 _)).trans ?_
          refine (sv_iload_n jM136 c136_76 rfl rfl).trans ?_
          refine (sv_iald jM136 c136_77 rfl (ia_70 _)).trans ?_
          refine jif _ rfl ?_
          exact sv_iret jM136 c136_78 rfl rfl
        ·
          refine (sv_bipush jM136 c136_42 rfl (v := -4) (by decide +kernel)).trans ?_
          exact sv_iret jM136 c136_44 rfl rfl
    ·
      refine (sv_bipush jM136 c136_19 rfl (v := -2) (by decide +kernel)).trans ?_
      exact sv_iret jM136 c136_21 rfl rfl
set_option maxRecDepth 20000 in
set_option maxHeartbeats 4000000 in
theorem M_wipe_in (x1 : Int32) (σ : jm_S) : jc 138 [(.ref 61), (.int x1)] σ = jbi (jc 137 [(.int x1)] σ) (fun r1 τ1 => (if ¬ r1 = 0 then (if x1 < 0 ∨ 4 ≤ x1.toNatClampNeg then none else (if x1 < 0 ∨ 4 ≤ x1.toNatClampNeg then none else some (some (.int (τ1 70 x1.toNatClampNeg)), (jm_up τ1 70 x1.toNatClampNeg (0 : Int32))))) else some (some (.int (-2 : Int32)), τ1))) := by
  refine (jc_of (ls1 := [some (.ref 61), some (.int x1), none]) ((jm_ini_of jM138).trans rfl)).trans ?_
  refine (sv_iload_n jM138 c138_0 rfl rfl).trans ?_
  refine (sv_callsi (pl := 0) jM138 c138_1 rfl (jm_call_s (as := [(.int x1)]) (rest := []) lm_9_154 rfl jM137 rfl rfl rfl rfl) jM137 rfl (Or.inr rfl)).trans ?_
  refine jbi_c (fun r1 τ1 => ?_)
  refine (sv_if_ne jM138 c138_4 rfl (t := 10) (by decide +kernel)).trans ?_
  refine jif _ ?_ ?_
  ·
    refine (sv_aload_n jM138 c138_10 rfl rfl).trans ?_
    refine (sv_getf jM138 c138_11 rfl lf_9_34 (fg_61_10 _)).trans ?_
    refine (sv_iload_n jM138 c138_14 rfl rfl).trans ?_
    refine (sv_iald jM138 c138_15 rfl (ia_70 _)).trans ?_
    refine jif _ rfl ?_
    refine (sv_istore_n (ls1 := [some (.ref 61), some (.int x1), some (.int (τ1 70 x1.toNatClampNeg))]) jM138 c138_16 rfl (Nat.lt_of_lt_of_eq (by decide +kernel : 2 < 3) rfl) rfl).trans ?_
    refine (sv_aload_n jM138 c138_17 rfl rfl).trans ?_
    refine (sv_getf jM138 c138_18 rfl lf_9_34 (fg_61_10 _)).trans ?_
    refine (sv_iload_n jM138 c138_21 rfl rfl).trans ?_
    refine (sv_iconst jM138 c138_22 rfl (v := 0) (by decide +kernel)).trans ?_
    refine (sv_iast jM138 c138_23 rfl wi_70).trans ?_
    refine jif _ rfl ?_
    refine (sv_iload_n jM138 c138_24 rfl rfl).trans ?_
    exact sv_iret jM138 c138_25 rfl rfl
  ·
    refine (sv_bipush jM138 c138_7 rfl (v := -2) (by decide +kernel)).trans ?_
    exact sv_iret jM138 c138_9 rfl rfl
set_option maxRecDepth 20000 in
set_option maxHeartbeats 4000000 in
theorem M_fault_in (x1 : Int32) (σ : jm_S) : jc 139 [(.ref 61), (.int x1)] σ = jbi (jc 137 [(.int x1)] σ) (fun r1 τ1 => (if r1 = 0 then some (some (.int (-2 : Int32)), τ1) else jbi (jc 140 [(.ref 61), (.int x1)] τ1) (fun r2 τ2 => some (some (.int r2), τ2)))) := by
  refine (jc_of (ls1 := [some (.ref 61), some (.int x1)]) ((jm_ini_of jM139).trans rfl)).trans ?_
  refine (sv_iload_n jM139 c139_0 rfl rfl).trans ?_
  refine (sv_callsi (pl := 0) jM139 c139_1 rfl (jm_call_s (as := [(.int x1)]) (rest := []) lm_9_154 rfl jM137 rfl rfl rfl rfl) jM137 rfl (Or.inr rfl)).trans ?_
  refine jbi_c (fun r1 τ1 => ?_)
  refine (sv_if_eq jM139 c139_4 rfl (t := 15) (by decide +kernel)).trans ?_
  refine jif _ ?_ ?_
  ·
    refine (sv_bipush jM139 c139_15 rfl (v := -2) (by decide +kernel)).trans ?_
    exact sv_iret jM139 c139_17 rfl rfl
  ·
    refine (sv_aload_n jM139 c139_7 rfl rfl).trans ?_
    refine (sv_iload_n jM139 c139_8 rfl rfl).trans ?_
    refine (sv_callvi (pl := 0) jM139 c139_9 rfl (jm_call_v (a := 61) (as := [(.int x1)]) (rest := []) lm_9_201 rfl jM140 rfl rfl rfl rfl rfl) jM140 rfl (Or.inl rfl)).trans ?_
    refine jbi_c (fun r2 τ2 => ?_)
    refine (sv_goto jM139 c139_12 rfl (t := 17) (by decide +kernel)).trans ?_
    exact sv_iret jM139 c139_17 rfl rfl
set_option maxRecDepth 20000 in
set_option maxHeartbeats 4000000 in
theorem M_pan_in (x1 : Int32) (x2 : Int32) (σ : jm_S) : jc 148 [(.ref 61), (.int x1), (.int x2)] σ = jbi (jc 120 [(.long x1.toInt64), (.long (0 : Int64)), (.long (199 : Int64))] σ) (fun r1 τ1 => (if r1 = 0 then some (some (.int (-2 : Int32)), τ1) else jbi (jc 120 [(.long x2.toInt64), (.long (0 : Int64)), (.long (2 : Int64))] τ1) (fun r2 τ2 => (if ¬ r2 = 0 then jbi (jc 141 [(.ref 61)] τ2) (fun r3 τ3 => (if ¬ x2 = 0 then (if ¬ x2 = (1 : Int32) then (if x1 < 0 ∨ 200 ≤ x1.toNatClampNeg then none else (if (τ3 73 x1.toNatClampNeg) = 0 then some (some (.int (0 : Int32)), τ3) else some (some (.int (1 : Int32)), τ3))) else (if x1 < 0 ∨ 200 ≤ x1.toNatClampNeg then none else some (some (.int (τ3 72 x1.toNatClampNeg)), τ3))) else (if x1 < 0 ∨ 200 ≤ x1.toNatClampNeg then none else some (some (.int (τ3 71 x1.toNatClampNeg)), τ3)))) else some (some (.int (-2 : Int32)), τ2))))) := by
  refine (jc_of (ls1 := [some (.ref 61), some (.int x1), some (.int x2)]) ((jm_ini_of jM148).trans rfl)).trans ?_
  refine (sv_iload_n jM148 c148_0 rfl rfl).trans ?_
  refine (sv_i2l jM148 c148_1 rfl).trans ?_
  refine (sv_lconst jM148 c148_2 rfl (v := 0) (by decide +kernel)).trans ?_
  refine (sv_ldc2 jM148 c148_3 rfl ll_9_204).trans ?_
  refine (sv_callsi (pl := 0) jM148 c148_6 rfl (jm_call_s (as := [(.long x1.toInt64), (.long (0 : Int64)), (.long (199 : Int64))]) (rest := []) lm_9_95 rfl jM120 rfl rfl rfl rfl) jM120 rfl (Or.inr rfl)).trans ?_
  refine jbi_c (fun r1 τ1 => ?_)
  refine (sv_if_eq jM148 c148_9 rfl (t := 24) (by decide +kernel)).trans ?_
  refine jif _ ?_ ?_
  ·
    refine (sv_bipush jM148 c148_24 rfl (v := -2) (by decide +kernel)).trans ?_
    exact sv_iret jM148 c148_26 rfl rfl
  ·
    refine (sv_iload_n jM148 c148_12 rfl rfl).trans ?_
    refine (sv_i2l jM148 c148_13 rfl).trans ?_
    refine (sv_lconst jM148 c148_14 rfl (v := 0) (by decide +kernel)).trans ?_
    refine (sv_ldc2 jM148 c148_15 rfl ll_9_109).trans ?_
    refine (sv_callsi (pl := 0) jM148 c148_18 rfl (jm_call_s (as := [(.long x2.toInt64), (.long (0 : Int64)), (.long (2 : Int64))]) (rest := []) lm_9_95 rfl jM120 rfl rfl rfl rfl) jM120 rfl (Or.inr rfl)).trans ?_
    refine jbi_c (fun r2 τ2 => ?_)
    refine (sv_if_ne jM148 c148_21 rfl (t := 27) (by decide +kernel)).trans ?_
    refine jif _ ?_ ?_
    ·
      refine (sv_aload_n jM148 c148_27 rfl rfl).trans ?_
      refine (sv_callvi (pl := 0) jM148 c148_28 rfl (jm_call_v (a := 61) (as := []) (rest := []) lm_9_194 rfl jM141 rfl rfl rfl rfl rfl) jM141 rfl (Or.inl rfl)).trans ?_
      refine jbi_c (fun r3 τ3 => ?_)
      refine (sv_pop jM148 c148_31 rfl rfl).trans ?_
      refine (sv_iload_n jM148 c148_32 rfl rfl).trans ?_
      refine (sv_if_ne jM148 c148_33 rfl (t := 45) (by decide +kernel)).trans ?_
      refine jif _ ?_ ?_
      ·
        refine (sv_iload_n jM148 c148_45 rfl rfl).trans ?_
        refine (sv_iconst jM148 c148_46 rfl (v := 1) (by decide +kernel)).trans ?_
        refine (sv_icmp_ne jM148 c148_47 rfl (t := 59) (by decide +kernel)).trans ?_
        refine jif _ ?_ ?_
        ·
          refine (sv_aload_n jM148 c148_59 rfl rfl).trans ?_
          refine (sv_getf jM148 c148_60 rfl lf_9_43 (fg_61_14 _)).trans ?_
          refine (sv_iload_n jM148 c148_63 rfl rfl).trans ?_
          refine (sv_bald jM148 c148_64 rfl wi_73).trans ?_
          refine jif _ rfl ?_
          refine (sv_if_eq jM148 c148_65 rfl (t := 72) (by decide +kernel)).trans ?_
          refine jif _ ?_ ?_
          ·
            refine (sv_iconst jM148 c148_72 rfl (v := 0) (by decide +kernel)).trans ?_
            exact sv_iret jM148 c148_73 rfl rfl
          ·
            refine (sv_iconst jM148 c148_68 rfl (v := 1) (by decide +kernel)).trans ?_
            refine (sv_goto jM148 c148_69 rfl (t := 73) (by decide +kernel)).trans ?_
            exact sv_iret jM148 c148_73 rfl rfl
        ·
          refine (sv_aload_n jM148 c148_50 rfl rfl).trans ?_
          refine (sv_getf jM148 c148_51 rfl lf_9_40 (fg_61_13 _)).trans ?_
          refine (sv_iload_n jM148 c148_54 rfl rfl).trans ?_
          refine (sv_iald jM148 c148_55 rfl (ia_72 _)).trans ?_
          refine jif _ rfl ?_
          refine (sv_goto jM148 c148_56 rfl (t := 73) (by decide +kernel)).trans ?_
          exact sv_iret jM148 c148_73 rfl rfl
      ·
        refine (sv_aload_n jM148 c148_36 rfl rfl).trans ?_
        refine (sv_getf jM148 c148_37 rfl lf_9_37 (fg_61_12 _)).trans ?_
        refine (sv_iload_n jM148 c148_40 rfl rfl).trans ?_
        refine (sv_iald jM148 c148_41 rfl (ia_71 _)).trans ?_
        refine jif _ rfl ?_
        refine (sv_goto jM148 c148_42 rfl (t := 73) (by decide +kernel)).trans ?_
        exact sv_iret jM148 c148_73 rfl rfl
    ·
      refine (sv_bipush jM148 c148_24 rfl (v := -2) (by decide +kernel)).trans ?_
      exact sv_iret jM148 c148_26 rfl rfl
set_option maxRecDepth 20000 in
set_option maxHeartbeats 4000000 in
theorem M_after_in (x1 : Int32) (x2 : Int32) (x3 : Int32) (σ : jm_S) : jc 149 [(.ref 61), (.int x1), (.int x2), (.int x3)] σ = jbi (jc 133 [(.ref 61), (.int x1)] σ) (fun r1 τ1 => (if r1 = 0 then some (some (.int (-2 : Int32)), τ1) else jbi (jc 120 [(.long x2.toInt64), (.long (0 : Int64)), (.long (200 : Int64))] τ1) (fun r2 τ2 => (if r2 = 0 then some (some (.int (-2 : Int32)), τ2) else jbi (jc 120 [(.long x3.toInt64), (.long (0 : Int64)), (.long (5 : Int64))] τ2) (fun r3 τ3 => (if ¬ r3 = 0 then jbv (jc 150 [(.ref 61)] τ3) (fun τ4 => jbv (jc 151 [(.ref 61), (.int x2)] τ4) (fun τ5 => jbi (jc 160 [(.ref 61), (.int x1), (.int x3)] τ5) (fun r6 τ6 => some (some (.int r6), τ6)))) else some (some (.int (-2 : Int32)), τ3))))))) := by
  refine (jc_of (ls1 := [some (.ref 61), some (.int x1), some (.int x2), some (.int x3)]) ((jm_ini_of jM149).trans rfl)).trans ?_
  refine (sv_aload_n jM149 c149_0 rfl rfl).trans ?_
  refine (sv_iload_n jM149 c149_1 rfl rfl).trans ?_
  refine (sv_callvi (pl := 0) jM149 c149_2 rfl (jm_call_v (a := 61) (as := [(.int x1)]) (rest := []) lm_9_144 rfl jM133 rfl rfl rfl rfl rfl) jM133 rfl (Or.inr rfl)).trans ?_
  refine jbi_c (fun r1 τ1 => ?_)
  refine (sv_if_eq jM149 c149_5 rfl (t := 32) (by decide +kernel)).trans ?_
  refine jif _ ?_ ?_
  ·
    refine (sv_bipush jM149 c149_32 rfl (v := -2) (by decide +kernel)).trans ?_
    exact sv_iret jM149 c149_34 rfl rfl
  ·
    refine (sv_iload_n jM149 c149_8 rfl rfl).trans ?_
    refine (sv_i2l jM149 c149_9 rfl).trans ?_
    refine (sv_lconst jM149 c149_10 rfl (v := 0) (by decide +kernel)).trans ?_
    refine (sv_ldc2 jM149 c149_11 rfl ll_9_246).trans ?_
    refine (sv_callsi (pl := 0) jM149 c149_14 rfl (jm_call_s (as := [(.long x2.toInt64), (.long (0 : Int64)), (.long (200 : Int64))]) (rest := []) lm_9_95 rfl jM120 rfl rfl rfl rfl) jM120 rfl (Or.inr rfl)).trans ?_
    refine jbi_c (fun r2 τ2 => ?_)
    refine (sv_if_eq jM149 c149_17 rfl (t := 32) (by decide +kernel)).trans ?_
    refine jif _ ?_ ?_
    ·
      refine (sv_bipush jM149 c149_32 rfl (v := -2) (by decide +kernel)).trans ?_
      exact sv_iret jM149 c149_34 rfl rfl
    ·
      refine (sv_iload_n jM149 c149_20 rfl rfl).trans ?_
      refine (sv_i2l jM149 c149_21 rfl).trans ?_
      refine (sv_lconst jM149 c149_22 rfl (v := 0) (by decide +kernel)).trans ?_
      refine (sv_ldc2 jM149 c149_23 rfl ll_9_150).trans ?_
      refine (sv_callsi (pl := 0) jM149 c149_26 rfl (jm_call_s (as := [(.long x3.toInt64), (.long (0 : Int64)), (.long (5 : Int64))]) (rest := []) lm_9_95 rfl jM120 rfl rfl rfl rfl) jM120 rfl (Or.inr rfl)).trans ?_
      refine jbi_c (fun r3 τ3 => ?_)
      refine (sv_if_ne jM149 c149_29 rfl (t := 35) (by decide +kernel)).trans ?_
      refine jif _ ?_ ?_
      ·
        refine (sv_aload_n jM149 c149_35 rfl rfl).trans ?_
        refine (sv_callvv (pl := 0) jM149 c149_36 rfl (jm_call_v (a := 61) (as := []) (rest := []) lm_9_248 rfl jM150 rfl rfl rfl rfl rfl) jM150 rfl rfl).trans ?_
        refine jbv_c (fun τ4 => ?_)
        refine (sv_aload_n jM149 c149_39 rfl rfl).trans ?_
        refine (sv_iload_n jM149 c149_40 rfl rfl).trans ?_
        refine (sv_callvv (pl := 0) jM149 c149_41 rfl (jm_call_v (a := 61) (as := [(.int x2)]) (rest := []) lm_9_251 rfl jM151 rfl rfl rfl rfl rfl) jM151 rfl rfl).trans ?_
        refine jbv_c (fun τ5 => ?_)
        refine (sv_aload_n jM149 c149_44 rfl rfl).trans ?_
        refine (sv_iload_n jM149 c149_45 rfl rfl).trans ?_
        refine (sv_iload_n jM149 c149_46 rfl rfl).trans ?_
        refine (sv_callvi (pl := 0) jM149 c149_47 rfl (jm_call_v (a := 61) (as := [(.int x1), (.int x3)]) (rest := []) lm_9_254 rfl jM160 rfl rfl rfl rfl rfl) jM160 rfl (Or.inl rfl)).trans ?_
        refine jbi_c (fun r6 τ6 => ?_)
        exact sv_iret jM149 c149_50 rfl rfl
      ·
        refine (sv_bipush jM149 c149_32 rfl (v := -2) (by decide +kernel)).trans ?_
        exact sv_iret jM149 c149_34 rfl rfl
set_option maxRecDepth 20000 in
set_option maxHeartbeats 4000000 in
theorem M_sounds_in (x1 : Int32) (x2 : Int32) (σ : jm_S) : jc 161 [(.ref 61), (.int x1), (.int x2)] σ = jbi (jc 120 [(.long x1.toInt64), (.long (0 : Int64)), (.long (199 : Int64))] σ) (fun r1 τ1 => (if ¬ r1 = 0 then jbv (jc 150 [(.ref 61)] τ1) (fun τ2 => jbv (jc 151 [(.ref 61), (.int (x1 + (1 : Int32)))] τ2) (fun τ3 => jv 161 31 [some (.ref 61), some (.int x1), some (.int x2), some (.int (0 : Int32)), some (.int (0 : Int32))] [] τ3)) else some (some (.int (-2 : Int32)), τ1))) := by
  refine (jc_of (ls1 := [some (.ref 61), some (.int x1), some (.int x2), none, none]) ((jm_ini_of jM161).trans rfl)).trans ?_
  refine (sv_iload_n jM161 c161_0 rfl rfl).trans ?_
  refine (sv_i2l jM161 c161_1 rfl).trans ?_
  refine (sv_lconst jM161 c161_2 rfl (v := 0) (by decide +kernel)).trans ?_
  refine (sv_ldc2 jM161 c161_3 rfl ll_9_204).trans ?_
  refine (sv_callsi (pl := 0) jM161 c161_6 rfl (jm_call_s (as := [(.long x1.toInt64), (.long (0 : Int64)), (.long (199 : Int64))]) (rest := []) lm_9_95 rfl jM120 rfl rfl rfl rfl) jM120 rfl (Or.inr rfl)).trans ?_
  refine jbi_c (fun r1 τ1 => ?_)
  refine (sv_if_ne jM161 c161_9 rfl (t := 15) (by decide +kernel)).trans ?_
  refine jif _ ?_ ?_
  ·
    refine (sv_aload_n jM161 c161_15 rfl rfl).trans ?_
    refine (sv_callvv (pl := 0) jM161 c161_16 rfl (jm_call_v (a := 61) (as := []) (rest := []) lm_9_248 rfl jM150 rfl rfl rfl rfl rfl) jM150 rfl rfl).trans ?_
    refine jbv_c (fun τ2 => ?_)
    refine (sv_aload_n jM161 c161_19 rfl rfl).trans ?_
    refine (sv_iload_n jM161 c161_20 rfl rfl).trans ?_
    refine (sv_iconst jM161 c161_21 rfl (v := 1) (by decide +kernel)).trans ?_
    refine (sv_iadd jM161 c161_22 rfl).trans ?_
    refine (sv_callvv (pl := 0) jM161 c161_23 rfl (jm_call_v (a := 61) (as := [(.int (x1 + (1 : Int32)))]) (rest := []) lm_9_251 rfl jM151 rfl rfl rfl rfl rfl) jM151 rfl rfl).trans ?_
    refine jbv_c (fun τ3 => ?_)
    refine (sv_iconst jM161 c161_26 rfl (v := 0) (by decide +kernel)).trans ?_
    refine (sv_istore_n (ls1 := [some (.ref 61), some (.int x1), some (.int x2), some (.int (0 : Int32)), none]) jM161 c161_27 rfl (Nat.lt_of_lt_of_eq (by decide +kernel : 3 < 5) rfl) rfl).trans ?_
    refine (sv_iconst jM161 c161_28 rfl (v := 0) (by decide +kernel)).trans ?_
    refine (sv_istore (ls1 := [some (.ref 61), some (.int x1), some (.int x2), some (.int (0 : Int32)), some (.int (0 : Int32))]) jM161 c161_29 rfl (Nat.lt_of_lt_of_eq (by decide +kernel : 4 < 5) rfl) rfl).trans ?_
    rfl
  ·
    refine (sv_bipush jM161 c161_12 rfl (v := -2) (by decide +kernel)).trans ?_
    exact sv_iret jM161 c161_14 rfl rfl
set_option maxRecDepth 20000 in
set_option maxHeartbeats 4000000 in
theorem M_sounds_L31 (x1 : Int32) (x2 : Int32) (x3 : Int32) (x4 : Int32) (σ : jm_S) : jv 161 31 [some (.ref 61), some (.int x1), some (.int x2), some (.int x3), some (.int x4)] [] σ = (if x1 < x4 then (if x2 = 0 then (if x1 < 0 ∨ 200 ≤ x1.toNatClampNeg then none else some (some (.int (σ 84 x1.toNatClampNeg)), σ)) else some (some (.int x3), σ)) else (if x4 < 0 ∨ 200 ≤ x4.toNatClampNeg then none else jv 161 31 [some (.ref 61), some (.int x1), some (.int x2), some (.int (x3 + (σ 84 x4.toNatClampNeg))), some (.int (x4 + 1))] [] σ)) := by
  refine (sv_iload jM161 c161_31 rfl rfl).trans ?_
  refine (sv_iload_n jM161 c161_33 rfl rfl).trans ?_
  refine (sv_icmp_gt jM161 c161_34 rfl (t := 53) (by decide +kernel)).trans ?_
  refine jif _ ?_ ?_
  ·
    refine (sv_iload_n jM161 c161_53 rfl rfl).trans ?_
    refine (sv_if_eq jM161 c161_54 rfl (t := 61) (by decide +kernel)).trans ?_
    refine jif _ ?_ ?_
    ·
      refine (sv_aload_n jM161 c161_61 rfl rfl).trans ?_
      refine (sv_getf jM161 c161_62 rfl lf_9_77 (fg_61_33 _)).trans ?_
      refine (sv_iload_n jM161 c161_65 rfl rfl).trans ?_
      refine (sv_iald jM161 c161_66 rfl (ia_84 _)).trans ?_
      refine jif _ rfl ?_
      exact sv_iret jM161 c161_67 rfl rfl
    ·
      refine (sv_iload_n jM161 c161_57 rfl rfl).trans ?_
      refine (sv_goto jM161 c161_58 rfl (t := 67) (by decide +kernel)).trans ?_
      exact sv_iret jM161 c161_67 rfl rfl
  ·
    refine (sv_iload_n jM161 c161_37 rfl rfl).trans ?_
    refine (sv_aload_n jM161 c161_38 rfl rfl).trans ?_
    refine (sv_getf jM161 c161_39 rfl lf_9_77 (fg_61_33 _)).trans ?_
    refine (sv_iload jM161 c161_42 rfl rfl).trans ?_
    refine (sv_iald jM161 c161_44 rfl (ia_84 _)).trans ?_
    refine jif _ rfl ?_
    refine (sv_iadd jM161 c161_45 rfl).trans ?_
    refine (sv_istore_n (ls1 := [some (.ref 61), some (.int x1), some (.int x2), some (.int (x3 + (σ 84 x4.toNatClampNeg))), some (.int x4)]) jM161 c161_46 rfl (Nat.lt_of_lt_of_eq (by decide +kernel : 3 < 5) rfl) rfl).trans ?_
    refine (sv_iinc (ls1 := [some (.ref 61), some (.int x1), some (.int x2), some (.int (x3 + (σ 84 x4.toNatClampNeg))), some (.int (x4 + 1))]) jM161 c161_47 rfl rfl (v := 1) (by decide +kernel) rfl).trans ?_
    refine (sv_goto jM161 c161_50 rfl (t := 31) (by decide +kernel)).trans ?_
    rfl
set_option maxRecDepth 20000 in
set_option maxHeartbeats 4000000 in
theorem M_stop_in (x1 : Int32) (x2 : Int32) (σ : jm_S) : jc 162 [(.ref 61), (.int x1), (.int x2)] σ = jbi (jc 163 [(.int x1)] σ) (fun r1 τ1 => (if r1 = 0 then jbi (jc 165 [(.int (-2 : Int32))] τ1) (fun r2 τ2 => some (some (.int r2), τ2)) else jbi (jc 120 [(.long x2.toInt64), (.long (0 : Int64)), (.long (5 : Int64))] τ1) (fun r3 τ3 => (if r3 = 0 then jbi (jc 165 [(.int (-2 : Int32))] τ3) (fun r4 τ4 => some (some (.int r4), τ4)) else jbi (jc 164 [(.ref 61), (.int x1), (.int x2)] τ3) (fun r5 τ5 => some (some (.int r5), τ5)))))) := by
  refine (jc_of (ls1 := [some (.ref 61), some (.int x1), some (.int x2)]) ((jm_ini_of jM162).trans rfl)).trans ?_
  refine (sv_iload_n jM162 c162_0 rfl rfl).trans ?_
  refine (sv_callsi (pl := 0) jM162 c162_1 rfl (jm_call_s (as := [(.int x1)]) (rest := []) lm_9_279 rfl jM163 rfl rfl rfl rfl) jM163 rfl (Or.inr rfl)).trans ?_
  refine jbi_c (fun r1 τ1 => ?_)
  refine (sv_if_eq jM162 c162_4 rfl (t := 28) (by decide +kernel)).trans ?_
  refine jif _ ?_ ?_
  ·
    refine (sv_bipush jM162 c162_28 rfl (v := -2) (by decide +kernel)).trans ?_
    refine (sv_callsi (pl := 0) jM162 c162_30 rfl (jm_call_s (as := [(.int (-2 : Int32))]) (rest := []) lm_9_270 rfl jM165 rfl rfl rfl rfl) jM165 rfl (Or.inl rfl)).trans ?_
    refine jbi_c (fun r2 τ2 => ?_)
    exact sv_iret jM162 c162_33 rfl rfl
  ·
    refine (sv_iload_n jM162 c162_7 rfl rfl).trans ?_
    refine (sv_i2l jM162 c162_8 rfl).trans ?_
    refine (sv_lconst jM162 c162_9 rfl (v := 0) (by decide +kernel)).trans ?_
    refine (sv_ldc2 jM162 c162_10 rfl ll_9_150).trans ?_
    refine (sv_callsi (pl := 0) jM162 c162_13 rfl (jm_call_s (as := [(.long x2.toInt64), (.long (0 : Int64)), (.long (5 : Int64))]) (rest := []) lm_9_95 rfl jM120 rfl rfl rfl rfl) jM120 rfl (Or.inr rfl)).trans ?_
    refine jbi_c (fun r3 τ3 => ?_)
    refine (sv_if_eq jM162 c162_16 rfl (t := 28) (by decide +kernel)).trans ?_
    refine jif _ ?_ ?_
    ·
      refine (sv_bipush jM162 c162_28 rfl (v := -2) (by decide +kernel)).trans ?_
      refine (sv_callsi (pl := 0) jM162 c162_30 rfl (jm_call_s (as := [(.int (-2 : Int32))]) (rest := []) lm_9_270 rfl jM165 rfl rfl rfl rfl) jM165 rfl (Or.inl rfl)).trans ?_
      refine jbi_c (fun r4 τ4 => ?_)
      exact sv_iret jM162 c162_33 rfl rfl
    ·
      refine (sv_aload_n jM162 c162_19 rfl rfl).trans ?_
      refine (sv_iload_n jM162 c162_20 rfl rfl).trans ?_
      refine (sv_iload_n jM162 c162_21 rfl rfl).trans ?_
      refine (sv_callvi (pl := 0) jM162 c162_22 rfl (jm_call_v (a := 61) (as := [(.int x1), (.int x2)]) (rest := []) lm_9_282 rfl jM164 rfl rfl rfl rfl rfl) jM164 rfl (Or.inl rfl)).trans ?_
      refine jbi_c (fun r5 τ5 => ?_)
      refine (sv_goto jM162 c162_25 rfl (t := 33) (by decide +kernel)).trans ?_
      exact sv_iret jM162 c162_33 rfl rfl
set_option maxRecDepth 20000 in
set_option maxHeartbeats 4000000 in
theorem M_best_in (σ : jm_S) : jc 172 [(.ref 61)] σ = jbi (jc 173 [(.ref 61)] σ) (fun r1 τ1 => some (some (.int r1), τ1)) := by
  refine (jc_of (ls1 := [some (.ref 61)]) ((jm_ini_of jM172).trans rfl)).trans ?_
  refine (sv_aload_n jM172 c172_0 rfl rfl).trans ?_
  refine (sv_callvi (pl := 0) jM172 c172_1 rfl (jm_call_v (a := 61) (as := []) (rest := []) lm_9_285 rfl jM173 rfl rfl rfl rfl rfl) jM173 rfl (Or.inl rfl)).trans ?_
  refine jbi_c (fun r1 τ1 => ?_)
  exact sv_iret jM172 c172_4 rfl rfl
set_option maxRecDepth 20000 in
set_option maxHeartbeats 4000000 in
theorem M_even_in (x1 : Int32) (x2 : Int32) (σ : jm_S) : jc 174 [(.ref 61), (.int x1), (.int x2)] σ = jbi (jc 175 [(.int x1)] σ) (fun r1 τ1 => (if r1 = 0 then some (some (.int (-2 : Int32)), τ1) else jbi (jc 120 [(.long x2.toInt64), (.long (0 : Int64)), (.long (2 : Int64))] τ1) (fun r2 τ2 => (if r2 = 0 then some (some (.int (-2 : Int32)), τ2) else jbi (jc 176 [(.ref 61), (.int x1), (.int x2)] τ2) (fun r3 τ3 => some (some (.int r3), τ3)))))) := by
  refine (jc_of (ls1 := [some (.ref 61), some (.int x1), some (.int x2)]) ((jm_ini_of jM174).trans rfl)).trans ?_
  refine (sv_iload_n jM174 c174_0 rfl rfl).trans ?_
  refine (sv_callsi (pl := 0) jM174 c174_1 rfl (jm_call_s (as := [(.int x1)]) (rest := []) lm_9_291 rfl jM175 rfl rfl rfl rfl) jM175 rfl (Or.inr rfl)).trans ?_
  refine jbi_c (fun r1 τ1 => ?_)
  refine (sv_if_eq jM174 c174_4 rfl (t := 28) (by decide +kernel)).trans ?_
  refine jif _ ?_ ?_
  ·
    refine (sv_bipush jM174 c174_28 rfl (v := -2) (by decide +kernel)).trans ?_
    exact sv_iret jM174 c174_30 rfl rfl
  ·
    refine (sv_iload_n jM174 c174_7 rfl rfl).trans ?_
    refine (sv_i2l jM174 c174_8 rfl).trans ?_
    refine (sv_lconst jM174 c174_9 rfl (v := 0) (by decide +kernel)).trans ?_
    refine (sv_ldc2 jM174 c174_10 rfl ll_9_109).trans ?_
    refine (sv_callsi (pl := 0) jM174 c174_13 rfl (jm_call_s (as := [(.long x2.toInt64), (.long (0 : Int64)), (.long (2 : Int64))]) (rest := []) lm_9_95 rfl jM120 rfl rfl rfl rfl) jM120 rfl (Or.inr rfl)).trans ?_
    refine jbi_c (fun r2 τ2 => ?_)
    refine (sv_if_eq jM174 c174_16 rfl (t := 28) (by decide +kernel)).trans ?_
    refine jif _ ?_ ?_
    ·
      refine (sv_bipush jM174 c174_28 rfl (v := -2) (by decide +kernel)).trans ?_
      exact sv_iret jM174 c174_30 rfl rfl
    ·
      refine (sv_aload_n jM174 c174_19 rfl rfl).trans ?_
      refine (sv_iload_n jM174 c174_20 rfl rfl).trans ?_
      refine (sv_iload_n jM174 c174_21 rfl rfl).trans ?_
      refine (sv_callvi (pl := 0) jM174 c174_22 rfl (jm_call_v (a := 61) (as := [(.int x1), (.int x2)]) (rest := []) lm_9_294 rfl jM176 rfl rfl rfl rfl rfl) jM176 rfl (Or.inl rfl)).trans ?_
      refine jbi_c (fun r3 τ3 => ?_)
      refine (sv_goto jM174 c174_25 rfl (t := 30) (by decide +kernel)).trans ?_
      exact sv_iret jM174 c174_30 rfl rfl
set_option maxRecDepth 20000 in
set_option maxHeartbeats 4000000 in
theorem M_front_in (x1 : Int32) (x2 : Int32) (σ : jm_S) : jc 178 [(.ref 61), (.int x1), (.int x2)] σ = jbi (jc 175 [(.int x1)] σ) (fun r1 τ1 => (if r1 = 0 then some (some (.int (-2 : Int32)), τ1) else (if (-1 : Int32) ≤ x2 then jbv (jc 177 [(.ref 61), (.int x1)] τ1) (fun τ2 => jv 178 25 [some (.ref 61), some (.int x1), some (.int x2), some (.int (0 : Int32)), some (.int (1 : Int32)), none, none, none] [] τ2) else some (some (.int (-2 : Int32)), τ1)))) := by
  refine (jc_of (ls1 := [some (.ref 61), some (.int x1), some (.int x2), none, none, none, none, none]) ((jm_ini_of jM178).trans rfl)).trans ?_
  refine (sv_iload_n jM178 c178_0 rfl rfl).trans ?_
  refine (sv_callsi (pl := 0) jM178 c178_1 rfl (jm_call_s (as := [(.int x1)]) (rest := []) lm_9_291 rfl jM175 rfl rfl rfl rfl) jM175 rfl (Or.inr rfl)).trans ?_
  refine jbi_c (fun r1 τ1 => ?_)
  refine (sv_if_eq jM178 c178_4 rfl (t := 12) (by decide +kernel)).trans ?_
  refine jif _ ?_ ?_
  ·
    refine (sv_bipush jM178 c178_12 rfl (v := -2) (by decide +kernel)).trans ?_
    exact sv_iret jM178 c178_14 rfl rfl
  ·
    refine (sv_iload_n jM178 c178_7 rfl rfl).trans ?_
    refine (sv_iconst jM178 c178_8 rfl (v := -1) (by decide +kernel)).trans ?_
    refine (sv_icmp_ge jM178 c178_9 rfl (t := 15) (by decide +kernel)).trans ?_
    refine jif _ ?_ ?_
    ·
      refine (sv_aload_n jM178 c178_15 rfl rfl).trans ?_
      refine (sv_iload_n jM178 c178_16 rfl rfl).trans ?_
      refine (sv_callvv (pl := 0) jM178 c178_17 rfl (jm_call_v (a := 61) (as := [(.int x1)]) (rest := []) lm_9_288 rfl jM177 rfl rfl rfl rfl rfl) jM177 rfl rfl).trans ?_
      refine jbv_c (fun τ2 => ?_)
      refine (sv_iconst jM178 c178_20 rfl (v := 0) (by decide +kernel)).trans ?_
      refine (sv_istore_n (ls1 := [some (.ref 61), some (.int x1), some (.int x2), some (.int (0 : Int32)), none, none, none, none]) jM178 c178_21 rfl (Nat.lt_of_lt_of_eq (by decide +kernel : 3 < 8) rfl) rfl).trans ?_
      refine (sv_iconst jM178 c178_22 rfl (v := 1) (by decide +kernel)).trans ?_
      refine (sv_istore (ls1 := [some (.ref 61), some (.int x1), some (.int x2), some (.int (0 : Int32)), some (.int (1 : Int32)), none, none, none]) jM178 c178_23 rfl (Nat.lt_of_lt_of_eq (by decide +kernel : 4 < 8) rfl) rfl).trans ?_
      rfl
    ·
      refine (sv_bipush jM178 c178_12 rfl (v := -2) (by decide +kernel)).trans ?_
      exact sv_iret jM178 c178_14 rfl rfl
set_option maxRecDepth 20000 in
set_option maxHeartbeats 4000000 in
theorem M_front_L25 (x1 : Int32) (x2 : Int32) (x3 : Int32) (x4 : Int32) (u5 : Option Value) (u6 : Option Value) (u7 : Option Value) (σ : jm_S) : jv 178 25 [some (.ref 61), some (.int x1), some (.int x2), some (.int x3), some (.int x4), u5, u6, u7] [] σ = (if (100 : Int32) ≤ x4 then (if ¬ x2 = (-1 : Int32) then some (some (.int (-1 : Int32)), σ) else some (some (.int x3), σ)) else jv 178 38 [some (.ref 61), some (.int x1), some (.int x2), some (.int x3), some (.int x4), some (.int (1 : Int32)), some (.int (1 : Int32)), u7] [] σ) := by
  refine (sv_iload jM178 c178_25 rfl rfl).trans ?_
  refine (sv_bipush jM178 c178_27 rfl (v := 100) (by decide +kernel)).trans ?_
  refine (sv_icmp_ge jM178 c178_29 rfl (t := 165) (by decide +kernel)).trans ?_
  refine jif _ ?_ ?_
  ·
    refine (sv_iload_n jM178 c178_165 rfl rfl).trans ?_
    refine (sv_iconst jM178 c178_166 rfl (v := -1) (by decide +kernel)).trans ?_
    refine (sv_icmp_ne jM178 c178_167 rfl (t := 174) (by decide +kernel)).trans ?_
    refine jif _ ?_ ?_
    ·
      refine (sv_iconst jM178 c178_174 rfl (v := -1) (by decide +kernel)).trans ?_
      exact sv_iret jM178 c178_175 rfl rfl
    ·
      refine (sv_iload_n jM178 c178_170 rfl rfl).trans ?_
      refine (sv_goto jM178 c178_171 rfl (t := 175) (by decide +kernel)).trans ?_
      exact sv_iret jM178 c178_175 rfl rfl
  ·
    refine (sv_iconst jM178 c178_32 rfl (v := 1) (by decide +kernel)).trans ?_
    refine (sv_istore (ls1 := [some (.ref 61), some (.int x1), some (.int x2), some (.int x3), some (.int x4), some (.int (1 : Int32)), u6, u7]) jM178 c178_33 rfl (Nat.lt_of_lt_of_eq (by decide +kernel : 5 < 8) rfl) rfl).trans ?_
    refine (sv_iconst jM178 c178_35 rfl (v := 1) (by decide +kernel)).trans ?_
    refine (sv_istore (ls1 := [some (.ref 61), some (.int x1), some (.int x2), some (.int x3), some (.int x4), some (.int (1 : Int32)), some (.int (1 : Int32)), u7]) jM178 c178_36 rfl (Nat.lt_of_lt_of_eq (by decide +kernel : 6 < 8) rfl) rfl).trans ?_
    rfl
set_option maxRecDepth 20000 in
set_option maxHeartbeats 4000000 in
theorem M_front_L38 (x1 : Int32) (x2 : Int32) (x3 : Int32) (x4 : Int32) (x5 : Int32) (x6 : Int32) (u7 : Option Value) (σ : jm_S) : jv 178 38 [some (.ref 61), some (.int x1), some (.int x2), some (.int x3), some (.int x4), some (.int x5), some (.int x6), u7] [] σ = (if (100 : Int32) ≤ x6 then (if x5 = 0 then jv 178 25 [some (.ref 61), some (.int x1), some (.int x2), some (.int x3), some (.int (x4 + 1)), some (.int x5), some (.int x6), u7] [] σ else (if ¬ x3 = x2 then jv 178 25 [some (.ref 61), some (.int x1), some (.int x2), some (.int (x3 + 1)), some (.int (x4 + 1)), some (.int x5), some (.int x6), u7] [] σ else some (some (.int x4), σ))) else (if x5 = 0 then (if x5 = 0 then jv 178 25 [some (.ref 61), some (.int x1), some (.int x2), some (.int x3), some (.int (x4 + 1)), some (.int x5), some (.int x6), u7] [] σ else (if ¬ x3 = x2 then jv 178 25 [some (.ref 61), some (.int x1), some (.int x2), some (.int (x3 + 1)), some (.int (x4 + 1)), some (.int x5), some (.int x6), u7] [] σ else some (some (.int x4), σ))) else (if x6 < 0 ∨ 100 ≤ x6.toNatClampNeg then none else (if x4 < 0 ∨ 100 ≤ x4.toNatClampNeg then none else (if (σ 85 x6.toNatClampNeg) ≤ (σ 85 x4.toNatClampNeg) then (if x6 < 0 ∨ 100 ≤ x6.toNatClampNeg then none else (if x4 < 0 ∨ 100 ≤ x4.toNatClampNeg then none else (if ¬ (σ 85 x6.toNatClampNeg) = (σ 85 x4.toNatClampNeg) then jv 178 38 [some (.ref 61), some (.int x1), some (.int x2), some (.int x3), some (.int x4), some (.int (1 : Int32)), some (.int (x6 + 1)), some (.int (0 : Int32))] [] σ else (if x6 < 0 ∨ 100 ≤ x6.toNatClampNeg then none else (if x4 < 0 ∨ 100 ≤ x4.toNatClampNeg then none else (if (σ 86 x6.toNatClampNeg) < (σ 86 x4.toNatClampNeg) then jv 178 38 [some (.ref 61), some (.int x1), some (.int x2), some (.int x3), some (.int x4), some (.int (0 : Int32)), some (.int (x6 + 1)), some (.int (0 : Int32))] [] σ else jv 178 38 [some (.ref 61), some (.int x1), some (.int x2), some (.int x3), some (.int x4), some (.int (1 : Int32)), some (.int (x6 + 1)), some (.int (0 : Int32))] [] σ)))))) else (if x6 < 0 ∨ 100 ≤ x6.toNatClampNeg then none else (if x4 < 0 ∨ 100 ≤ x4.toNatClampNeg then none else (if (σ 86 x4.toNatClampNeg) < (σ 86 x6.toNatClampNeg) then (if x6 < 0 ∨ 100 ≤ x6.toNatClampNeg then none else (if x4 < 0 ∨ 100 ≤ x4.toNatClampNeg then none else (if ¬ (σ 85 x6.toNatClampNeg) = (σ 85 x4.toNatClampNeg) then jv 178 38 [some (.ref 61), some (.int x1), some (.int x2), some (.int x3), some (.int x4), some (.int (1 : Int32)), some (.int (x6 + 1)), some (.int (0 : Int32))] [] σ else (if x6 < 0 ∨ 100 ≤ x6.toNatClampNeg then none else (if x4 < 0 ∨ 100 ≤ x4.toNatClampNeg then none else (if (σ 86 x6.toNatClampNeg) < (σ 86 x4.toNatClampNeg) then jv 178 38 [some (.ref 61), some (.int x1), some (.int x2), some (.int x3), some (.int x4), some (.int (0 : Int32)), some (.int (x6 + 1)), some (.int (0 : Int32))] [] σ else jv 178 38 [some (.ref 61), some (.int x1), some (.int x2), some (.int x3), some (.int x4), some (.int (1 : Int32)), some (.int (x6 + 1)), some (.int (0 : Int32))] [] σ)))))) else jv 178 38 [some (.ref 61), some (.int x1), some (.int x2), some (.int x3), some (.int x4), some (.int (0 : Int32)), some (.int (x6 + 1)), some (.int (1 : Int32))] [] σ)))))))) := by
  refine (sv_iload jM178 c178_38 rfl rfl).trans ?_
  refine (sv_bipush jM178 c178_40 rfl (v := 100) (by decide +kernel)).trans ?_
  refine (sv_icmp_ge jM178 c178_42 rfl (t := 143) (by decide +kernel)).trans ?_
  refine jif _ ?_ ?_
  ·
    refine (sv_iload jM178 c178_143 rfl rfl).trans ?_
    refine (sv_if_eq jM178 c178_145 rfl (t := 159) (by decide +kernel)).trans ?_
    refine jif _ ?_ ?_
    ·
      refine (sv_iinc (ls1 := [some (.ref 61), some (.int x1), some (.int x2), some (.int x3), some (.int (x4 + 1)), some (.int x5), some (.int x6), u7]) jM178 c178_159 rfl rfl (v := 1) (by decide +kernel) rfl).trans ?_
      refine (sv_goto jM178 c178_162 rfl (t := 25) (by decide +kernel)).trans ?_
      rfl
    ·
      refine (sv_iload_n jM178 c178_148 rfl rfl).trans ?_
      refine (sv_iload_n jM178 c178_149 rfl rfl).trans ?_
      refine (sv_icmp_ne jM178 c178_150 rfl (t := 156) (by decide +kernel)).trans ?_
      refine jif _ ?_ ?_
      ·
        refine (sv_iinc (ls1 := [some (.ref 61), some (.int x1), some (.int x2), some (.int (x3 + 1)), some (.int x4), some (.int x5), some (.int x6), u7]) jM178 c178_156 rfl rfl (v := 1) (by decide +kernel) rfl).trans ?_
        refine (sv_iinc (ls1 := [some (.ref 61), some (.int x1), some (.int x2), some (.int (x3 + 1)), some (.int (x4 + 1)), some (.int x5), some (.int x6), u7]) jM178 c178_159 rfl rfl (v := 1) (by decide +kernel) rfl).trans ?_
        refine (sv_goto jM178 c178_162 rfl (t := 25) (by decide +kernel)).trans ?_
        rfl
      ·
        refine (sv_iload jM178 c178_153 rfl rfl).trans ?_
        exact sv_iret jM178 c178_155 rfl rfl
  ·
    refine (sv_iload jM178 c178_45 rfl rfl).trans ?_
    refine (sv_if_eq jM178 c178_47 rfl (t := 143) (by decide +kernel)).trans ?_
    refine jif _ ?_ ?_
    ·
      refine (sv_iload jM178 c178_143 rfl rfl).trans ?_
      refine (sv_if_eq jM178 c178_145 rfl (t := 159) (by decide +kernel)).trans ?_
      refine jif _ ?_ ?_
      ·
        refine (sv_iinc (ls1 := [some (.ref 61), some (.int x1), some (.int x2), some (.int x3), some (.int (x4 + 1)), some (.int x5), some (.int x6), u7]) jM178 c178_159 rfl rfl (v := 1) (by decide +kernel) rfl).trans ?_
        refine (sv_goto jM178 c178_162 rfl (t := 25) (by decide +kernel)).trans ?_
        rfl
      ·
        refine (sv_iload_n jM178 c178_148 rfl rfl).trans ?_
        refine (sv_iload_n jM178 c178_149 rfl rfl).trans ?_
        refine (sv_icmp_ne jM178 c178_150 rfl (t := 156) (by decide +kernel)).trans ?_
        refine jif _ ?_ ?_
        ·
          refine (sv_iinc (ls1 := [some (.ref 61), some (.int x1), some (.int x2), some (.int (x3 + 1)), some (.int x4), some (.int x5), some (.int x6), u7]) jM178 c178_156 rfl rfl (v := 1) (by decide +kernel) rfl).trans ?_
          refine (sv_iinc (ls1 := [some (.ref 61), some (.int x1), some (.int x2), some (.int (x3 + 1)), some (.int (x4 + 1)), some (.int x5), some (.int x6), u7]) jM178 c178_159 rfl rfl (v := 1) (by decide +kernel) rfl).trans ?_
          refine (sv_goto jM178 c178_162 rfl (t := 25) (by decide +kernel)).trans ?_
          rfl
        ·
          refine (sv_iload jM178 c178_153 rfl rfl).trans ?_
          exact sv_iret jM178 c178_155 rfl rfl
    ·
      refine (sv_aload_n jM178 c178_50 rfl rfl).trans ?_
      refine (sv_getf jM178 c178_51 rfl lf_9_80 (fg_61_34 _)).trans ?_
      refine (sv_iload jM178 c178_54 rfl rfl).trans ?_
      refine (sv_iald jM178 c178_56 rfl (ia_85 _)).trans ?_
      refine jif _ rfl ?_
      refine (sv_aload_n jM178 c178_57 rfl rfl).trans ?_
      refine (sv_getf jM178 c178_58 rfl lf_9_80 (fg_61_34 _)).trans ?_
      refine (sv_iload jM178 c178_61 rfl rfl).trans ?_
      refine (sv_iald jM178 c178_63 rfl (ia_85 _)).trans ?_
      refine jif _ rfl ?_
      refine (sv_icmp_le jM178 c178_64 rfl (t := 88) (by decide +kernel)).trans ?_
      refine jif _ ?_ ?_
      ·
        refine (sv_iconst jM178 c178_88 rfl (v := 0) (by decide +kernel)).trans ?_
        refine (sv_istore (ls1 := [some (.ref 61), some (.int x1), some (.int x2), some (.int x3), some (.int x4), some (.int x5), some (.int x6), some (.int (0 : Int32))]) jM178 c178_89 rfl (Nat.lt_of_lt_of_eq (by decide +kernel : 7 < 8) rfl) rfl).trans ?_
        refine (sv_iload jM178 c178_91 rfl rfl).trans ?_
        refine (sv_if_ne jM178 c178_93 rfl (t := 134) (by decide +kernel)).trans ?_
        refine (if_neg (by decide +kernel)).trans ?_
        refine (sv_aload_n jM178 c178_96 rfl rfl).trans ?_
        refine (sv_getf jM178 c178_97 rfl lf_9_80 (fg_61_34 _)).trans ?_
        refine (sv_iload jM178 c178_100 rfl rfl).trans ?_
        refine (sv_iald jM178 c178_102 rfl (ia_85 _)).trans ?_
        refine jif _ rfl ?_
        refine (sv_aload_n jM178 c178_103 rfl rfl).trans ?_
        refine (sv_getf jM178 c178_104 rfl lf_9_80 (fg_61_34 _)).trans ?_
        refine (sv_iload jM178 c178_107 rfl rfl).trans ?_
        refine (sv_iald jM178 c178_109 rfl (ia_85 _)).trans ?_
        refine jif _ rfl ?_
        refine (sv_icmp_ne jM178 c178_110 rfl (t := 130) (by decide +kernel)).trans ?_
        refine jif _ ?_ ?_
        ·
          refine (sv_iconst jM178 c178_130 rfl (v := 1) (by decide +kernel)).trans ?_
          refine (sv_goto jM178 c178_131 rfl (t := 135) (by decide +kernel)).trans ?_
          refine (sv_istore (ls1 := [some (.ref 61), some (.int x1), some (.int x2), some (.int x3), some (.int x4), some (.int (1 : Int32)), some (.int x6), some (.int (0 : Int32))]) jM178 c178_135 rfl (Nat.lt_of_lt_of_eq (by decide +kernel : 5 < 8) rfl) rfl).trans ?_
          refine (sv_iinc (ls1 := [some (.ref 61), some (.int x1), some (.int x2), some (.int x3), some (.int x4), some (.int (1 : Int32)), some (.int (x6 + 1)), some (.int (0 : Int32))]) jM178 c178_137 rfl rfl (v := 1) (by decide +kernel) rfl).trans ?_
          refine (sv_goto jM178 c178_140 rfl (t := 38) (by decide +kernel)).trans ?_
          rfl
        ·
          refine (sv_aload_n jM178 c178_113 rfl rfl).trans ?_
          refine (sv_getf jM178 c178_114 rfl lf_9_83 (fg_61_35 _)).trans ?_
          refine (sv_iload jM178 c178_117 rfl rfl).trans ?_
          refine (sv_iald jM178 c178_119 rfl (ia_86 _)).trans ?_
          refine jif _ rfl ?_
          refine (sv_aload_n jM178 c178_120 rfl rfl).trans ?_
          refine (sv_getf jM178 c178_121 rfl lf_9_83 (fg_61_35 _)).trans ?_
          refine (sv_iload jM178 c178_124 rfl rfl).trans ?_
          refine (sv_iald jM178 c178_126 rfl (ia_86 _)).trans ?_
          refine jif _ rfl ?_
          refine (sv_icmp_lt jM178 c178_127 rfl (t := 134) (by decide +kernel)).trans ?_
          refine jif _ ?_ ?_
          ·
            refine (sv_iconst jM178 c178_134 rfl (v := 0) (by decide +kernel)).trans ?_
            refine (sv_istore (ls1 := [some (.ref 61), some (.int x1), some (.int x2), some (.int x3), some (.int x4), some (.int (0 : Int32)), some (.int x6), some (.int (0 : Int32))]) jM178 c178_135 rfl (Nat.lt_of_lt_of_eq (by decide +kernel : 5 < 8) rfl) rfl).trans ?_
            refine (sv_iinc (ls1 := [some (.ref 61), some (.int x1), some (.int x2), some (.int x3), some (.int x4), some (.int (0 : Int32)), some (.int (x6 + 1)), some (.int (0 : Int32))]) jM178 c178_137 rfl rfl (v := 1) (by decide +kernel) rfl).trans ?_
            refine (sv_goto jM178 c178_140 rfl (t := 38) (by decide +kernel)).trans ?_
            rfl
          ·
            refine (sv_iconst jM178 c178_130 rfl (v := 1) (by decide +kernel)).trans ?_
            refine (sv_goto jM178 c178_131 rfl (t := 135) (by decide +kernel)).trans ?_
            refine (sv_istore (ls1 := [some (.ref 61), some (.int x1), some (.int x2), some (.int x3), some (.int x4), some (.int (1 : Int32)), some (.int x6), some (.int (0 : Int32))]) jM178 c178_135 rfl (Nat.lt_of_lt_of_eq (by decide +kernel : 5 < 8) rfl) rfl).trans ?_
            refine (sv_iinc (ls1 := [some (.ref 61), some (.int x1), some (.int x2), some (.int x3), some (.int x4), some (.int (1 : Int32)), some (.int (x6 + 1)), some (.int (0 : Int32))]) jM178 c178_137 rfl rfl (v := 1) (by decide +kernel) rfl).trans ?_
            refine (sv_goto jM178 c178_140 rfl (t := 38) (by decide +kernel)).trans ?_
            rfl
      ·
        refine (sv_aload_n jM178 c178_67 rfl rfl).trans ?_
        refine (sv_getf jM178 c178_68 rfl lf_9_83 (fg_61_35 _)).trans ?_
        refine (sv_iload jM178 c178_71 rfl rfl).trans ?_
        refine (sv_iald jM178 c178_73 rfl (ia_86 _)).trans ?_
        refine jif _ rfl ?_
        refine (sv_aload_n jM178 c178_74 rfl rfl).trans ?_
        refine (sv_getf jM178 c178_75 rfl lf_9_83 (fg_61_35 _)).trans ?_
        refine (sv_iload jM178 c178_78 rfl rfl).trans ?_
        refine (sv_iald jM178 c178_80 rfl (ia_86 _)).trans ?_
        refine jif _ rfl ?_
        refine (sv_icmp_gt jM178 c178_81 rfl (t := 88) (by decide +kernel)).trans ?_
        refine jif _ ?_ ?_
        ·
          refine (sv_iconst jM178 c178_88 rfl (v := 0) (by decide +kernel)).trans ?_
          refine (sv_istore (ls1 := [some (.ref 61), some (.int x1), some (.int x2), some (.int x3), some (.int x4), some (.int x5), some (.int x6), some (.int (0 : Int32))]) jM178 c178_89 rfl (Nat.lt_of_lt_of_eq (by decide +kernel : 7 < 8) rfl) rfl).trans ?_
          refine (sv_iload jM178 c178_91 rfl rfl).trans ?_
          refine (sv_if_ne jM178 c178_93 rfl (t := 134) (by decide +kernel)).trans ?_
          refine (if_neg (by decide +kernel)).trans ?_
          refine (sv_aload_n jM178 c178_96 rfl rfl).trans ?_
          refine (sv_getf jM178 c178_97 rfl lf_9_80 (fg_61_34 _)).trans ?_
          refine (sv_iload jM178 c178_100 rfl rfl).trans ?_
          refine (sv_iald jM178 c178_102 rfl (ia_85 _)).trans ?_
          refine jif _ rfl ?_
          refine (sv_aload_n jM178 c178_103 rfl rfl).trans ?_
          refine (sv_getf jM178 c178_104 rfl lf_9_80 (fg_61_34 _)).trans ?_
          refine (sv_iload jM178 c178_107 rfl rfl).trans ?_
          refine (sv_iald jM178 c178_109 rfl (ia_85 _)).trans ?_
          refine jif _ rfl ?_
          refine (sv_icmp_ne jM178 c178_110 rfl (t := 130) (by decide +kernel)).trans ?_
          refine jif _ ?_ ?_
          ·
            refine (sv_iconst jM178 c178_130 rfl (v := 1) (by decide +kernel)).trans ?_
            refine (sv_goto jM178 c178_131 rfl (t := 135) (by decide +kernel)).trans ?_
            refine (sv_istore (ls1 := [some (.ref 61), some (.int x1), some (.int x2), some (.int x3), some (.int x4), some (.int (1 : Int32)), some (.int x6), some (.int (0 : Int32))]) jM178 c178_135 rfl (Nat.lt_of_lt_of_eq (by decide +kernel : 5 < 8) rfl) rfl).trans ?_
            refine (sv_iinc (ls1 := [some (.ref 61), some (.int x1), some (.int x2), some (.int x3), some (.int x4), some (.int (1 : Int32)), some (.int (x6 + 1)), some (.int (0 : Int32))]) jM178 c178_137 rfl rfl (v := 1) (by decide +kernel) rfl).trans ?_
            refine (sv_goto jM178 c178_140 rfl (t := 38) (by decide +kernel)).trans ?_
            rfl
          ·
            refine (sv_aload_n jM178 c178_113 rfl rfl).trans ?_
            refine (sv_getf jM178 c178_114 rfl lf_9_83 (fg_61_35 _)).trans ?_
            refine (sv_iload jM178 c178_117 rfl rfl).trans ?_
            refine (sv_iald jM178 c178_119 rfl (ia_86 _)).trans ?_
            refine jif _ rfl ?_
            refine (sv_aload_n jM178 c178_120 rfl rfl).trans ?_
            refine (sv_getf jM178 c178_121 rfl lf_9_83 (fg_61_35 _)).trans ?_
            refine (sv_iload jM178 c178_124 rfl rfl).trans ?_
            refine (sv_iald jM178 c178_126 rfl (ia_86 _)).trans ?_
            refine jif _ rfl ?_
            refine (sv_icmp_lt jM178 c178_127 rfl (t := 134) (by decide +kernel)).trans ?_
            refine jif _ ?_ ?_
            ·
              refine (sv_iconst jM178 c178_134 rfl (v := 0) (by decide +kernel)).trans ?_
              refine (sv_istore (ls1 := [some (.ref 61), some (.int x1), some (.int x2), some (.int x3), some (.int x4), some (.int (0 : Int32)), some (.int x6), some (.int (0 : Int32))]) jM178 c178_135 rfl (Nat.lt_of_lt_of_eq (by decide +kernel : 5 < 8) rfl) rfl).trans ?_
              refine (sv_iinc (ls1 := [some (.ref 61), some (.int x1), some (.int x2), some (.int x3), some (.int x4), some (.int (0 : Int32)), some (.int (x6 + 1)), some (.int (0 : Int32))]) jM178 c178_137 rfl rfl (v := 1) (by decide +kernel) rfl).trans ?_
              refine (sv_goto jM178 c178_140 rfl (t := 38) (by decide +kernel)).trans ?_
              rfl
            ·
              refine (sv_iconst jM178 c178_130 rfl (v := 1) (by decide +kernel)).trans ?_
              refine (sv_goto jM178 c178_131 rfl (t := 135) (by decide +kernel)).trans ?_
              refine (sv_istore (ls1 := [some (.ref 61), some (.int x1), some (.int x2), some (.int x3), some (.int x4), some (.int (1 : Int32)), some (.int x6), some (.int (0 : Int32))]) jM178 c178_135 rfl (Nat.lt_of_lt_of_eq (by decide +kernel : 5 < 8) rfl) rfl).trans ?_
              refine (sv_iinc (ls1 := [some (.ref 61), some (.int x1), some (.int x2), some (.int x3), some (.int x4), some (.int (1 : Int32)), some (.int (x6 + 1)), some (.int (0 : Int32))]) jM178 c178_137 rfl rfl (v := 1) (by decide +kernel) rfl).trans ?_
              refine (sv_goto jM178 c178_140 rfl (t := 38) (by decide +kernel)).trans ?_
              rfl
        ·
          refine (sv_iconst jM178 c178_84 rfl (v := 1) (by decide +kernel)).trans ?_
          refine (sv_goto jM178 c178_85 rfl (t := 89) (by decide +kernel)).trans ?_
          refine (sv_istore (ls1 := [some (.ref 61), some (.int x1), some (.int x2), some (.int x3), some (.int x4), some (.int x5), some (.int x6), some (.int (1 : Int32))]) jM178 c178_89 rfl (Nat.lt_of_lt_of_eq (by decide +kernel : 7 < 8) rfl) rfl).trans ?_
          refine (sv_iload jM178 c178_91 rfl rfl).trans ?_
          refine (sv_if_ne jM178 c178_93 rfl (t := 134) (by decide +kernel)).trans ?_
          refine (if_pos (by decide +kernel)).trans ?_
          refine (sv_iconst jM178 c178_134 rfl (v := 0) (by decide +kernel)).trans ?_
          refine (sv_istore (ls1 := [some (.ref 61), some (.int x1), some (.int x2), some (.int x3), some (.int x4), some (.int (0 : Int32)), some (.int x6), some (.int (1 : Int32))]) jM178 c178_135 rfl (Nat.lt_of_lt_of_eq (by decide +kernel : 5 < 8) rfl) rfl).trans ?_
          refine (sv_iinc (ls1 := [some (.ref 61), some (.int x1), some (.int x2), some (.int x3), some (.int x4), some (.int (0 : Int32)), some (.int (x6 + 1)), some (.int (1 : Int32))]) jM178 c178_137 rfl rfl (v := 1) (by decide +kernel) rfl).trans ?_
          refine (sv_goto jM178 c178_140 rfl (t := 38) (by decide +kernel)).trans ?_
          rfl
set_option maxRecDepth 20000 in
set_option maxHeartbeats 4000000 in
theorem M_air_in (x1 : Int32) (x2 : Int32) (σ : jm_S) : jc 179 [(.ref 61), (.int x1), (.int x2)] σ = jbi (jc 175 [(.int x1)] σ) (fun r1 τ1 => (if r1 = 0 then some (some (.int (-2 : Int32)), τ1) else jbi (jc 180 [(.int x2)] τ1) (fun r2 τ2 => (if ¬ r2 = 0 then jbv (jc 150 [(.ref 61)] τ2) (fun τ3 => jv 179 29 [some (.ref 61), some (.int x1), some (.int x2), some (.int (0 : Int32)), some (.int (-1 : Int32)), some (.int (0 : Int32))] [] τ3) else some (some (.int (-2 : Int32)), τ2))))) := by
  refine (jc_of (ls1 := [some (.ref 61), some (.int x1), some (.int x2), none, none, none]) ((jm_ini_of jM179).trans rfl)).trans ?_
  refine (sv_iload_n jM179 c179_0 rfl rfl).trans ?_
  refine (sv_callsi (pl := 0) jM179 c179_1 rfl (jm_call_s (as := [(.int x1)]) (rest := []) lm_9_291 rfl jM175 rfl rfl rfl rfl) jM175 rfl (Or.inr rfl)).trans ?_
  refine jbi_c (fun r1 τ1 => ?_)
  refine (sv_if_eq jM179 c179_4 rfl (t := 14) (by decide +kernel)).trans ?_
  refine jif _ ?_ ?_
  ·
    refine (sv_bipush jM179 c179_14 rfl (v := -2) (by decide +kernel)).trans ?_
    exact sv_iret jM179 c179_16 rfl rfl
  ·
    refine (sv_iload_n jM179 c179_7 rfl rfl).trans ?_
    refine (sv_callsi (pl := 0) jM179 c179_8 rfl (jm_call_s (as := [(.int x2)]) (rest := []) lm_9_297 rfl jM180 rfl rfl rfl rfl) jM180 rfl (Or.inr rfl)).trans ?_
    refine jbi_c (fun r2 τ2 => ?_)
    refine (sv_if_ne jM179 c179_11 rfl (t := 17) (by decide +kernel)).trans ?_
    refine jif _ ?_ ?_
    ·
      refine (sv_aload_n jM179 c179_17 rfl rfl).trans ?_
      refine (sv_callvv (pl := 0) jM179 c179_18 rfl (jm_call_v (a := 61) (as := []) (rest := []) lm_9_248 rfl jM150 rfl rfl rfl rfl rfl) jM150 rfl rfl).trans ?_
      refine jbv_c (fun τ3 => ?_)
      refine (sv_iconst jM179 c179_21 rfl (v := 0) (by decide +kernel)).trans ?_
      refine (sv_istore_n (ls1 := [some (.ref 61), some (.int x1), some (.int x2), some (.int (0 : Int32)), none, none]) jM179 c179_22 rfl (Nat.lt_of_lt_of_eq (by decide +kernel : 3 < 6) rfl) rfl).trans ?_
      refine (sv_iconst jM179 c179_23 rfl (v := -1) (by decide +kernel)).trans ?_
      refine (sv_istore (ls1 := [some (.ref 61), some (.int x1), some (.int x2), some (.int (0 : Int32)), some (.int (-1 : Int32)), none]) jM179 c179_24 rfl (Nat.lt_of_lt_of_eq (by decide +kernel : 4 < 6) rfl) rfl).trans ?_
      refine (sv_iconst jM179 c179_26 rfl (v := 0) (by decide +kernel)).trans ?_
      refine (sv_istore (ls1 := [some (.ref 61), some (.int x1), some (.int x2), some (.int (0 : Int32)), some (.int (-1 : Int32)), some (.int (0 : Int32))]) jM179 c179_27 rfl (Nat.lt_of_lt_of_eq (by decide +kernel : 5 < 6) rfl) rfl).trans ?_
      rfl
    ·
      refine (sv_bipush jM179 c179_14 rfl (v := -2) (by decide +kernel)).trans ?_
      exact sv_iret jM179 c179_16 rfl rfl
set_option maxRecDepth 20000 in
set_option maxHeartbeats 4000000 in
theorem M_air_L29 (x1 : Int32) (x2 : Int32) (x3 : Int32) (x4 : Int32) (x5 : Int32) (σ : jm_S) : jv 179 29 [some (.ref 61), some (.int x1), some (.int x2), some (.int x3), some (.int x4), some (.int x5)] [] σ = (if (100 : Int32) ≤ x5 then (if ¬ x2 = 0 then some (some (.int x4), σ) else some (some (.int x3), σ)) else jbv (jc 151 [(.ref 61), (.int x1)] (jm_up σ 61 20 x5)) (fun τ1 => jbi (jc 169 [(.ref 61)] τ1) (fun r2 τ2 => (if r2 ≤ x4 then jbi (jc 169 [(.ref 61)] τ2) (fun r3 τ3 => (if r3 ≤ x4 then jv 179 29 [some (.ref 61), some (.int x1), some (.int x2), some (.int x3), some (.int x4), some (.int (x5 + 1))] [] τ3 else jbi (jc 169 [(.ref 61)] τ3) (fun r4 τ4 => jv 179 29 [some (.ref 61), some (.int x1), some (.int x2), some (.int x3), some (.int r4), some (.int (x5 + 1))] [] τ4))) else jbi (jc 169 [(.ref 61)] τ2) (fun r5 τ5 => (if r5 ≤ x4 then jv 179 29 [some (.ref 61), some (.int x1), some (.int x2), some (.int x5), some (.int x4), some (.int (x5 + 1))] [] τ5 else jbi (jc 169 [(.ref 61)] τ5) (fun r6 τ6 => jv 179 29 [some (.ref 61), some (.int x1), some (.int x2), some (.int x5), some (.int r6), some (.int (x5 + 1))] [] τ6))))))) := by
  refine (sv_iload jM179 c179_29 rfl rfl).trans ?_
  refine (sv_bipush jM179 c179_31 rfl (v := 100) (by decide +kernel)).trans ?_
  refine (sv_icmp_ge jM179 c179_33 rfl (t := 89) (by decide +kernel)).trans ?_
  refine jif _ ?_ ?_
  ·
    refine (sv_iload_n jM179 c179_89 rfl rfl).trans ?_
    refine (sv_if_ne jM179 c179_90 rfl (t := 97) (by decide +kernel)).trans ?_
    refine jif _ ?_ ?_
    ·
      refine (sv_iload jM179 c179_97 rfl rfl).trans ?_
      exact sv_iret jM179 c179_99 rfl rfl
    ·
      refine (sv_iload_n jM179 c179_93 rfl rfl).trans ?_
      refine (sv_goto jM179 c179_94 rfl (t := 99) (by decide +kernel)).trans ?_
      exact sv_iret jM179 c179_99 rfl rfl
  ·
    refine (sv_aload_n jM179 c179_36 rfl rfl).trans ?_
    refine (sv_iload jM179 c179_37 rfl rfl).trans ?_
    refine (sv_putf jM179 c179_39 rfl lf_9_206 (pf_61_20 _ _)).trans ?_
    refine (sv_aload_n jM179 c179_42 rfl rfl).trans ?_
    refine (sv_iload_n jM179 c179_43 rfl rfl).trans ?_
    refine (sv_callvv (pl := 0) jM179 c179_44 rfl (jm_call_v (a := 61) (as := [(.int x1)]) (rest := []) lm_9_251 rfl jM151 rfl rfl rfl rfl rfl) jM151 rfl rfl).trans ?_
    refine jbv_c (fun τ1 => ?_)
    refine (sv_aload_n jM179 c179_47 rfl rfl).trans ?_
    refine (sv_callvi (pl := 0) jM179 c179_48 rfl (jm_call_v (a := 61) (as := []) (rest := []) lm_9_261 rfl jM169 rfl rfl rfl rfl rfl) jM169 rfl (Or.inl rfl)).trans ?_
    refine jbi_c (fun r2 τ2 => ?_)
    refine (sv_iload jM179 c179_51 rfl rfl).trans ?_
    refine (sv_icmp_le jM179 c179_53 rfl (t := 61) (by decide +kernel)).trans ?_
    refine jif _ ?_ ?_
    ·
      refine (sv_iload_n jM179 c179_61 rfl rfl).trans ?_
      refine (sv_istore_n (ls1 := [some (.ref 61), some (.int x1), some (.int x2), some (.int x3), some (.int x4), some (.int x5)]) jM179 c179_62 rfl (Nat.lt_of_lt_of_eq (by decide +kernel : 3 < 6) rfl) rfl).trans ?_
      refine (sv_aload_n jM179 c179_63 rfl rfl).trans ?_
      refine (sv_callvi (pl := 0) jM179 c179_64 rfl (jm_call_v (a := 61) (as := []) (rest := []) lm_9_261 rfl jM169 rfl rfl rfl rfl rfl) jM169 rfl (Or.inl rfl)).trans ?_
      refine jbi_c (fun r3 τ3 => ?_)
      refine (sv_iload jM179 c179_67 rfl rfl).trans ?_
      refine (sv_icmp_le jM179 c179_69 rfl (t := 79) (by decide +kernel)).trans ?_
      refine jif _ ?_ ?_
      ·
        refine (sv_iload jM179 c179_79 rfl rfl).trans ?_
        refine (sv_istore (ls1 := [some (.ref 61), some (.int x1), some (.int x2), some (.int x3), some (.int x4), some (.int x5)]) jM179 c179_81 rfl (Nat.lt_of_lt_of_eq (by decide +kernel : 4 < 6) rfl) rfl).trans ?_
        refine (sv_iinc (ls1 := [some (.ref 61), some (.int x1), some (.int x2), some (.int x3), some (.int x4), some (.int (x5 + 1))]) jM179 c179_83 rfl rfl (v := 1) (by decide +kernel) rfl).trans ?_
        refine (sv_goto jM179 c179_86 rfl (t := 29) (by decide +kernel)).trans ?_
        rfl
      ·
        refine (sv_aload_n jM179 c179_72 rfl rfl).trans ?_
        refine (sv_callvi (pl := 0) jM179 c179_73 rfl (jm_call_v (a := 61) (as := []) (rest := []) lm_9_261 rfl jM169 rfl rfl rfl rfl rfl) jM169 rfl (Or.inl rfl)).trans ?_
        refine jbi_c (fun r4 τ4 => ?_)
        refine (sv_goto jM179 c179_76 rfl (t := 81) (by decide +kernel)).trans ?_
        refine (sv_istore (ls1 := [some (.ref 61), some (.int x1), some (.int x2), some (.int x3), some (.int r4), some (.int x5)]) jM179 c179_81 rfl (Nat.lt_of_lt_of_eq (by decide +kernel : 4 < 6) rfl) rfl).trans ?_
        refine (sv_iinc (ls1 := [some (.ref 61), some (.int x1), some (.int x2), some (.int x3), some (.int r4), some (.int (x5 + 1))]) jM179 c179_83 rfl rfl (v := 1) (by decide +kernel) rfl).trans ?_
        refine (sv_goto jM179 c179_86 rfl (t := 29) (by decide +kernel)).trans ?_
        rfl
    ·
      refine (sv_iload jM179 c179_56 rfl rfl).trans ?_
      refine (sv_goto jM179 c179_58 rfl (t := 62) (by decide +kernel)).trans ?_
      refine (sv_istore_n (ls1 := [some (.ref 61), some (.int x1), some (.int x2), some (.int x5), some (.int x4), some (.int x5)]) jM179 c179_62 rfl (Nat.lt_of_lt_of_eq (by decide +kernel : 3 < 6) rfl) rfl).trans ?_
      refine (sv_aload_n jM179 c179_63 rfl rfl).trans ?_
      refine (sv_callvi (pl := 0) jM179 c179_64 rfl (jm_call_v (a := 61) (as := []) (rest := []) lm_9_261 rfl jM169 rfl rfl rfl rfl rfl) jM169 rfl (Or.inl rfl)).trans ?_
      refine jbi_c (fun r5 τ5 => ?_)
      refine (sv_iload jM179 c179_67 rfl rfl).trans ?_
      refine (sv_icmp_le jM179 c179_69 rfl (t := 79) (by decide +kernel)).trans ?_
      refine jif _ ?_ ?_
      ·
        refine (sv_iload jM179 c179_79 rfl rfl).trans ?_
        refine (sv_istore (ls1 := [some (.ref 61), some (.int x1), some (.int x2), some (.int x5), some (.int x4), some (.int x5)]) jM179 c179_81 rfl (Nat.lt_of_lt_of_eq (by decide +kernel : 4 < 6) rfl) rfl).trans ?_
        refine (sv_iinc (ls1 := [some (.ref 61), some (.int x1), some (.int x2), some (.int x5), some (.int x4), some (.int (x5 + 1))]) jM179 c179_83 rfl rfl (v := 1) (by decide +kernel) rfl).trans ?_
        refine (sv_goto jM179 c179_86 rfl (t := 29) (by decide +kernel)).trans ?_
        rfl
      ·
        refine (sv_aload_n jM179 c179_72 rfl rfl).trans ?_
        refine (sv_callvi (pl := 0) jM179 c179_73 rfl (jm_call_v (a := 61) (as := []) (rest := []) lm_9_261 rfl jM169 rfl rfl rfl rfl rfl) jM169 rfl (Or.inl rfl)).trans ?_
        refine jbi_c (fun r6 τ6 => ?_)
        refine (sv_goto jM179 c179_76 rfl (t := 81) (by decide +kernel)).trans ?_
        refine (sv_istore (ls1 := [some (.ref 61), some (.int x1), some (.int x2), some (.int x5), some (.int r6), some (.int x5)]) jM179 c179_81 rfl (Nat.lt_of_lt_of_eq (by decide +kernel : 4 < 6) rfl) rfl).trans ?_
        refine (sv_iinc (ls1 := [some (.ref 61), some (.int x1), some (.int x2), some (.int x5), some (.int r6), some (.int (x5 + 1))]) jM179 c179_83 rfl rfl (v := 1) (by decide +kernel) rfl).trans ?_
        refine (sv_goto jM179 c179_86 rfl (t := 29) (by decide +kernel)).trans ?_
        rfl
set_option maxRecDepth 20000 in
set_option maxHeartbeats 4000000 in
theorem M_shaken_in (x1 : Int32) (x2 : Int32) (σ : jm_S) : jc 181 [(.ref 61), (.int x1), (.int x2)] σ = jbi (jc 175 [(.int x1)] σ) (fun r1 τ1 => (if r1 = 0 then some (some (.int (-2 : Int32)), τ1) else jbi (jc 180 [(.int x2)] τ1) (fun r2 τ2 => (if ¬ r2 = 0 then jbv (jc 150 [(.ref 61)] τ2) (fun τ3 => jbv (jc 151 [(.ref 61), (.int x1)] τ3) (fun τ4 => jbi (jc 168 [(.ref 61), (.int (1 : Int32))] τ4) (fun r5 τ5 => jv 181 38 [some (.ref 61), some (.int x1), some (.int x2), some (.int (-1 : Int32)), some (.int r5), some (.int (0 : Int32))] [] τ5))) else some (some (.int (-2 : Int32)), τ2))))) := by
  refine (jc_of (ls1 := [some (.ref 61), some (.int x1), some (.int x2), none, none, none]) ((jm_ini_of jM181).trans rfl)).trans ?_
  refine (sv_iload_n jM181 c181_0 rfl rfl).trans ?_
  refine (sv_callsi (pl := 0) jM181 c181_1 rfl (jm_call_s (as := [(.int x1)]) (rest := []) lm_9_291 rfl jM175 rfl rfl rfl rfl) jM175 rfl (Or.inr rfl)).trans ?_
  refine jbi_c (fun r1 τ1 => ?_)
  refine (sv_if_eq jM181 c181_4 rfl (t := 14) (by decide +kernel)).trans ?_
  refine jif _ ?_ ?_
  ·
    refine (sv_bipush jM181 c181_14 rfl (v := -2) (by decide +kernel)).trans ?_
    exact sv_iret jM181 c181_16 rfl rfl
  ·
    refine (sv_iload_n jM181 c181_7 rfl rfl).trans ?_
    refine (sv_callsi (pl := 0) jM181 c181_8 rfl (jm_call_s (as := [(.int x2)]) (rest := []) lm_9_297 rfl jM180 rfl rfl rfl rfl) jM180 rfl (Or.inr rfl)).trans ?_
    refine jbi_c (fun r2 τ2 => ?_)
    refine (sv_if_ne jM181 c181_11 rfl (t := 17) (by decide +kernel)).trans ?_
    refine jif _ ?_ ?_
    ·
      refine (sv_aload_n jM181 c181_17 rfl rfl).trans ?_
      refine (sv_callvv (pl := 0) jM181 c181_18 rfl (jm_call_v (a := 61) (as := []) (rest := []) lm_9_248 rfl jM150 rfl rfl rfl rfl rfl) jM150 rfl rfl).trans ?_
      refine jbv_c (fun τ3 => ?_)
      refine (sv_aload_n jM181 c181_21 rfl rfl).trans ?_
      refine (sv_iload_n jM181 c181_22 rfl rfl).trans ?_
      refine (sv_callvv (pl := 0) jM181 c181_23 rfl (jm_call_v (a := 61) (as := [(.int x1)]) (rest := []) lm_9_251 rfl jM151 rfl rfl rfl rfl rfl) jM151 rfl rfl).trans ?_
      refine jbv_c (fun τ4 => ?_)
      refine (sv_iconst jM181 c181_26 rfl (v := -1) (by decide +kernel)).trans ?_
      refine (sv_istore_n (ls1 := [some (.ref 61), some (.int x1), some (.int x2), some (.int (-1 : Int32)), none, none]) jM181 c181_27 rfl (Nat.lt_of_lt_of_eq (by decide +kernel : 3 < 6) rfl) rfl).trans ?_
      refine (sv_aload_n jM181 c181_28 rfl rfl).trans ?_
      refine (sv_iconst jM181 c181_29 rfl (v := 1) (by decide +kernel)).trans ?_
      refine (sv_callvi (pl := 0) jM181 c181_30 rfl (jm_call_v (a := 61) (as := [(.int (1 : Int32))]) (rest := []) lm_9_264 rfl jM168 rfl rfl rfl rfl rfl) jM168 rfl (Or.inl rfl)).trans ?_
      refine jbi_c (fun r5 τ5 => ?_)
      refine (sv_istore (ls1 := [some (.ref 61), some (.int x1), some (.int x2), some (.int (-1 : Int32)), some (.int r5), none]) jM181 c181_33 rfl (Nat.lt_of_lt_of_eq (by decide +kernel : 4 < 6) rfl) rfl).trans ?_
      refine (sv_iconst jM181 c181_35 rfl (v := 0) (by decide +kernel)).trans ?_
      refine (sv_istore (ls1 := [some (.ref 61), some (.int x1), some (.int x2), some (.int (-1 : Int32)), some (.int r5), some (.int (0 : Int32))]) jM181 c181_36 rfl (Nat.lt_of_lt_of_eq (by decide +kernel : 5 < 6) rfl) rfl).trans ?_
      rfl
    ·
      refine (sv_bipush jM181 c181_14 rfl (v := -2) (by decide +kernel)).trans ?_
      exact sv_iret jM181 c181_16 rfl rfl
set_option maxRecDepth 20000 in
set_option maxHeartbeats 4000000 in
theorem M_shaken_L38 (x1 : Int32) (x2 : Int32) (x3 : Int32) (x4 : Int32) (x5 : Int32) (σ : jm_S) : jv 181 38 [some (.ref 61), some (.int x1), some (.int x2), some (.int x3), some (.int x4), some (.int x5)] [] σ = (if x1 ≤ x5 then (if ¬ x2 = 0 then some (some (.int x4), σ) else some (some (.int x3), σ)) else jbv (jc 151 [(.ref 61), (.int x1)] (jm_up σ 61 23 x5)) (fun τ1 => jbi (jc 168 [(.ref 61), (.int (1 : Int32))] τ1) (fun r2 τ2 => (if r2 ≤ x4 then jbi (jc 168 [(.ref 61), (.int (1 : Int32))] τ2) (fun r3 τ3 => (if r3 ≤ x4 then jv 181 38 [some (.ref 61), some (.int x1), some (.int x2), some (.int x3), some (.int x4), some (.int (x5 + 1))] [] τ3 else jbi (jc 168 [(.ref 61), (.int (1 : Int32))] τ3) (fun r4 τ4 => jv 181 38 [some (.ref 61), some (.int x1), some (.int x2), some (.int x3), some (.int r4), some (.int (x5 + 1))] [] τ4))) else jbi (jc 168 [(.ref 61), (.int (1 : Int32))] τ2) (fun r5 τ5 => (if r5 ≤ x4 then jv 181 38 [some (.ref 61), some (.int x1), some (.int x2), some (.int x5), some (.int x4), some (.int (x5 + 1))] [] τ5 else jbi (jc 168 [(.ref 61), (.int (1 : Int32))] τ5) (fun r6 τ6 => jv 181 38 [some (.ref 61), some (.int x1), some (.int x2), some (.int x5), some (.int r6), some (.int (x5 + 1))] [] τ6))))))) := by
  refine (sv_iload jM181 c181_38 rfl rfl).trans ?_
  refine (sv_iload_n jM181 c181_40 rfl rfl).trans ?_
  refine (sv_icmp_ge jM181 c181_41 rfl (t := 100) (by decide +kernel)).trans ?_
  refine jif _ ?_ ?_
  ·
    refine (sv_iload_n jM181 c181_100 rfl rfl).trans ?_
    refine (sv_if_ne jM181 c181_101 rfl (t := 108) (by decide +kernel)).trans ?_
    refine jif _ ?_ ?_
    ·
      refine (sv_iload jM181 c181_108 rfl rfl).trans ?_
      exact sv_iret jM181 c181_110 rfl rfl
    ·
      refine (sv_iload_n jM181 c181_104 rfl rfl).trans ?_
      refine (sv_goto jM181 c181_105 rfl (t := 110) (by decide +kernel)).trans ?_
      exact sv_iret jM181 c181_110 rfl rfl
  ·
    refine (sv_aload_n jM181 c181_44 rfl rfl).trans ?_
    refine (sv_iload jM181 c181_45 rfl rfl).trans ?_
    refine (sv_putf jM181 c181_47 rfl lf_9_215 (pf_61_23 _ _)).trans ?_
    refine (sv_aload_n jM181 c181_50 rfl rfl).trans ?_
    refine (sv_iload_n jM181 c181_51 rfl rfl).trans ?_
    refine (sv_callvv (pl := 0) jM181 c181_52 rfl (jm_call_v (a := 61) (as := [(.int x1)]) (rest := []) lm_9_251 rfl jM151 rfl rfl rfl rfl rfl) jM151 rfl rfl).trans ?_
    refine jbv_c (fun τ1 => ?_)
    refine (sv_aload_n jM181 c181_55 rfl rfl).trans ?_
    refine (sv_iconst jM181 c181_56 rfl (v := 1) (by decide +kernel)).trans ?_
    refine (sv_callvi (pl := 0) jM181 c181_57 rfl (jm_call_v (a := 61) (as := [(.int (1 : Int32))]) (rest := []) lm_9_264 rfl jM168 rfl rfl rfl rfl rfl) jM168 rfl (Or.inl rfl)).trans ?_
    refine jbi_c (fun r2 τ2 => ?_)
    refine (sv_iload jM181 c181_60 rfl rfl).trans ?_
    refine (sv_icmp_le jM181 c181_62 rfl (t := 70) (by decide +kernel)).trans ?_
    refine jif _ ?_ ?_
    ·
      refine (sv_iload_n jM181 c181_70 rfl rfl).trans ?_
      refine (sv_istore_n (ls1 := [some (.ref 61), some (.int x1), some (.int x2), some (.int x3), some (.int x4), some (.int x5)]) jM181 c181_71 rfl (Nat.lt_of_lt_of_eq (by decide +kernel : 3 < 6) rfl) rfl).trans ?_
      refine (sv_aload_n jM181 c181_72 rfl rfl).trans ?_
      refine (sv_iconst jM181 c181_73 rfl (v := 1) (by decide +kernel)).trans ?_
      refine (sv_callvi (pl := 0) jM181 c181_74 rfl (jm_call_v (a := 61) (as := [(.int (1 : Int32))]) (rest := []) lm_9_264 rfl jM168 rfl rfl rfl rfl rfl) jM168 rfl (Or.inl rfl)).trans ?_
      refine jbi_c (fun r3 τ3 => ?_)
      refine (sv_iload jM181 c181_77 rfl rfl).trans ?_
      refine (sv_icmp_le jM181 c181_79 rfl (t := 90) (by decide +kernel)).trans ?_
      refine jif _ ?_ ?_
      ·
        refine (sv_iload jM181 c181_90 rfl rfl).trans ?_
        refine (sv_istore (ls1 := [some (.ref 61), some (.int x1), some (.int x2), some (.int x3), some (.int x4), some (.int x5)]) jM181 c181_92 rfl (Nat.lt_of_lt_of_eq (by decide +kernel : 4 < 6) rfl) rfl).trans ?_
        refine (sv_iinc (ls1 := [some (.ref 61), some (.int x1), some (.int x2), some (.int x3), some (.int x4), some (.int (x5 + 1))]) jM181 c181_94 rfl rfl (v := 1) (by decide +kernel) rfl).trans ?_
        refine (sv_goto jM181 c181_97 rfl (t := 38) (by decide +kernel)).trans ?_
        rfl
      ·
        refine (sv_aload_n jM181 c181_82 rfl rfl).trans ?_
        refine (sv_iconst jM181 c181_83 rfl (v := 1) (by decide +kernel)).trans ?_
        refine (sv_callvi (pl := 0) jM181 c181_84 rfl (jm_call_v (a := 61) (as := [(.int (1 : Int32))]) (rest := []) lm_9_264 rfl jM168 rfl rfl rfl rfl rfl) jM168 rfl (Or.inl rfl)).trans ?_
        refine jbi_c (fun r4 τ4 => ?_)
        refine (sv_goto jM181 c181_87 rfl (t := 92) (by decide +kernel)).trans ?_
        refine (sv_istore (ls1 := [some (.ref 61), some (.int x1), some (.int x2), some (.int x3), some (.int r4), some (.int x5)]) jM181 c181_92 rfl (Nat.lt_of_lt_of_eq (by decide +kernel : 4 < 6) rfl) rfl).trans ?_
        refine (sv_iinc (ls1 := [some (.ref 61), some (.int x1), some (.int x2), some (.int x3), some (.int r4), some (.int (x5 + 1))]) jM181 c181_94 rfl rfl (v := 1) (by decide +kernel) rfl).trans ?_
        refine (sv_goto jM181 c181_97 rfl (t := 38) (by decide +kernel)).trans ?_
        rfl
    ·
      refine (sv_iload jM181 c181_65 rfl rfl).trans ?_
      refine (sv_goto jM181 c181_67 rfl (t := 71) (by decide +kernel)).trans ?_
      refine (sv_istore_n (ls1 := [some (.ref 61), some (.int x1), some (.int x2), some (.int x5), some (.int x4), some (.int x5)]) jM181 c181_71 rfl (Nat.lt_of_lt_of_eq (by decide +kernel : 3 < 6) rfl) rfl).trans ?_
      refine (sv_aload_n jM181 c181_72 rfl rfl).trans ?_
      refine (sv_iconst jM181 c181_73 rfl (v := 1) (by decide +kernel)).trans ?_
      refine (sv_callvi (pl := 0) jM181 c181_74 rfl (jm_call_v (a := 61) (as := [(.int (1 : Int32))]) (rest := []) lm_9_264 rfl jM168 rfl rfl rfl rfl rfl) jM168 rfl (Or.inl rfl)).trans ?_
      refine jbi_c (fun r5 τ5 => ?_)
      refine (sv_iload jM181 c181_77 rfl rfl).trans ?_
      refine (sv_icmp_le jM181 c181_79 rfl (t := 90) (by decide +kernel)).trans ?_
      refine jif _ ?_ ?_
      ·
        refine (sv_iload jM181 c181_90 rfl rfl).trans ?_
        refine (sv_istore (ls1 := [some (.ref 61), some (.int x1), some (.int x2), some (.int x5), some (.int x4), some (.int x5)]) jM181 c181_92 rfl (Nat.lt_of_lt_of_eq (by decide +kernel : 4 < 6) rfl) rfl).trans ?_
        refine (sv_iinc (ls1 := [some (.ref 61), some (.int x1), some (.int x2), some (.int x5), some (.int x4), some (.int (x5 + 1))]) jM181 c181_94 rfl rfl (v := 1) (by decide +kernel) rfl).trans ?_
        refine (sv_goto jM181 c181_97 rfl (t := 38) (by decide +kernel)).trans ?_
        rfl
      ·
        refine (sv_aload_n jM181 c181_82 rfl rfl).trans ?_
        refine (sv_iconst jM181 c181_83 rfl (v := 1) (by decide +kernel)).trans ?_
        refine (sv_callvi (pl := 0) jM181 c181_84 rfl (jm_call_v (a := 61) (as := [(.int (1 : Int32))]) (rest := []) lm_9_264 rfl jM168 rfl rfl rfl rfl rfl) jM168 rfl (Or.inl rfl)).trans ?_
        refine jbi_c (fun r6 τ6 => ?_)
        refine (sv_goto jM181 c181_87 rfl (t := 92) (by decide +kernel)).trans ?_
        refine (sv_istore (ls1 := [some (.ref 61), some (.int x1), some (.int x2), some (.int x5), some (.int r6), some (.int x5)]) jM181 c181_92 rfl (Nat.lt_of_lt_of_eq (by decide +kernel : 4 < 6) rfl) rfl).trans ?_
        refine (sv_iinc (ls1 := [some (.ref 61), some (.int x1), some (.int x2), some (.int x5), some (.int r6), some (.int (x5 + 1))]) jM181 c181_94 rfl rfl (v := 1) (by decide +kernel) rfl).trans ?_
        refine (sv_goto jM181 c181_97 rfl (t := 38) (by decide +kernel)).trans ?_
        rfl
set_option maxRecDepth 20000 in
set_option maxHeartbeats 4000000 in
theorem M_late_in (x1 : Int32) (σ : jm_S) : jc 182 [(.ref 61), (.int x1)] σ = jbi (jc 133 [(.ref 61), (.int x1)] σ) (fun r1 τ1 => (if ¬ r1 = 0 then jbv (jc 150 [(.ref 61)] τ1) (fun τ2 => jbv (jc 151 [(.ref 61), (.int (200 : Int32))] τ2) (fun τ3 => (if x1 < 0 ∨ 12 ≤ x1.toNatClampNeg then none else jbv (jc 151 [(.ref 61), (.int (200 : Int32))] (jm_up τ3 61 24 ((1 : Int32) <<< (x1 &&& 31)))) (fun τ4 => (if (τ3 80 x1.toNatClampNeg) = (-1 : Int32) then jbi (jc 165 [(.int (-3 : Int32))] τ4) (fun r5 τ5 => some (some (.int r5), τ5)) else (if x1 < 0 ∨ 12 ≤ x1.toNatClampNeg then none else (if ¬ (τ4 80 x1.toNatClampNeg) = (-1 : Int32) then (if x1 < 0 ∨ 12 ≤ x1.toNatClampNeg then none else some (some (.int ((τ3 80 x1.toNatClampNeg) - (τ4 80 x1.toNatClampNeg))), τ4)) else jbi (jc 165 [(.int (-3 : Int32))] τ4) (fun r6 τ6 => some (some (.int r6), τ6))))))))) else jbi (jc 165 [(.int (-2 : Int32))] τ1) (fun r7 τ7 => some (some (.int r7), τ7)))) := by
  refine (jc_of (ls1 := [some (.ref 61), some (.int x1), none]) ((jm_ini_of jM182).trans rfl)).trans ?_
  refine (sv_aload_n jM182 c182_0 rfl rfl).trans ?_
  refine (sv_iload_n jM182 c182_1 rfl rfl).trans ?_
  refine (sv_callvi (pl := 0) jM182 c182_2 rfl (jm_call_v (a := 61) (as := [(.int x1)]) (rest := []) lm_9_144 rfl jM133 rfl rfl rfl rfl rfl) jM133 rfl (Or.inr rfl)).trans ?_
  refine jbi_c (fun r1 τ1 => ?_)
  refine (sv_if_ne jM182 c182_5 rfl (t := 14) (by decide +kernel)).trans ?_
  refine jif _ ?_ ?_
  ·
    refine (sv_aload_n jM182 c182_14 rfl rfl).trans ?_
    refine (sv_callvv (pl := 0) jM182 c182_15 rfl (jm_call_v (a := 61) (as := []) (rest := []) lm_9_248 rfl jM150 rfl rfl rfl rfl rfl) jM150 rfl rfl).trans ?_
    refine jbv_c (fun τ2 => ?_)
    refine (sv_aload_n jM182 c182_18 rfl rfl).trans ?_
    refine (sv_sipush jM182 c182_19 rfl (v := 200) (by decide +kernel)).trans ?_
    refine (sv_callvv (pl := 0) jM182 c182_22 rfl (jm_call_v (a := 61) (as := [(.int (200 : Int32))]) (rest := []) lm_9_251 rfl jM151 rfl rfl rfl rfl rfl) jM151 rfl rfl).trans ?_
    refine jbv_c (fun τ3 => ?_)
    refine (sv_aload_n jM182 c182_25 rfl rfl).trans ?_
    refine (sv_getf jM182 c182_26 rfl lf_9_65 (fg_61_29 _)).trans ?_
    refine (sv_iload_n jM182 c182_29 rfl rfl).trans ?_
    refine (sv_iald jM182 c182_30 rfl (ia_80 _)).trans ?_
    refine jif _ rfl ?_
    refine (sv_istore_n (ls1 := [some (.ref 61), some (.int x1), some (.int (τ3 80 x1.toNatClampNeg))]) jM182 c182_31 rfl (Nat.lt_of_lt_of_eq (by decide +kernel : 2 < 3) rfl) rfl).trans ?_
    refine (sv_aload_n jM182 c182_32 rfl rfl).trans ?_
    refine (sv_iconst jM182 c182_33 rfl (v := 1) (by decide +kernel)).trans ?_
    refine (sv_iload_n jM182 c182_34 rfl rfl).trans ?_
    refine (sv_ishl jM182 c182_35 rfl).trans ?_
    refine (sv_putf jM182 c182_36 rfl lf_9_218 (pf_61_24 _ _)).trans ?_
    refine (sv_aload_n jM182 c182_39 rfl rfl).trans ?_
    refine (sv_sipush jM182 c182_40 rfl (v := 200) (by decide +kernel)).trans ?_
    refine (sv_callvv (pl := 0) jM182 c182_43 rfl (jm_call_v (a := 61) (as := [(.int (200 : Int32))]) (rest := []) lm_9_251 rfl jM151 rfl rfl rfl rfl rfl) jM151 rfl rfl).trans ?_
    refine jbv_c (fun τ4 => ?_)
    refine (sv_iload_n jM182 c182_46 rfl rfl).trans ?_
    refine (sv_iconst jM182 c182_47 rfl (v := -1) (by decide +kernel)).trans ?_
    refine (sv_icmp_eq jM182 c182_48 rfl (t := 61) (by decide +kernel)).trans ?_
    refine jif _ ?_ ?_
    ·
      refine (sv_bipush jM182 c182_61 rfl (v := -3) (by decide +kernel)).trans ?_
      refine (sv_callsi (pl := 0) jM182 c182_63 rfl (jm_call_s (as := [(.int (-3 : Int32))]) (rest := []) lm_9_270 rfl jM165 rfl rfl rfl rfl) jM165 rfl (Or.inl rfl)).trans ?_
      refine jbi_c (fun r5 τ5 => ?_)
      refine (sv_goto jM182 c182_66 rfl (t := 77) (by decide +kernel)).trans ?_
      exact sv_iret jM182 c182_77 rfl rfl
    ·
      refine (sv_aload_n jM182 c182_51 rfl rfl).trans ?_
      refine (sv_getf jM182 c182_52 rfl lf_9_65 (fg_61_29 _)).trans ?_
      refine (sv_iload_n jM182 c182_55 rfl rfl).trans ?_
      refine (sv_iald jM182 c182_56 rfl (ia_80 _)).trans ?_
      refine jif _ rfl ?_
      refine (sv_iconst jM182 c182_57 rfl (v := -1) (by decide +kernel)).trans ?_
      refine (sv_icmp_ne jM182 c182_58 rfl (t := 69) (by decide +kernel)).trans ?_
      refine jif _ ?_ ?_
      ·
        refine (sv_iload_n jM182 c182_69 rfl rfl).trans ?_
        refine (sv_aload_n jM182 c182_70 rfl rfl).trans ?_
        refine (sv_getf jM182 c182_71 rfl lf_9_65 (fg_61_29 _)).trans ?_
        refine (sv_iload_n jM182 c182_74 rfl rfl).trans ?_
        refine (sv_iald jM182 c182_75 rfl (ia_80 _)).trans ?_
        refine jif _ rfl ?_
        refine (sv_isub jM182 c182_76 rfl).trans ?_
        exact sv_iret jM182 c182_77 rfl rfl
      ·
        refine (sv_bipush jM182 c182_61 rfl (v := -3) (by decide +kernel)).trans ?_
        refine (sv_callsi (pl := 0) jM182 c182_63 rfl (jm_call_s (as := [(.int (-3 : Int32))]) (rest := []) lm_9_270 rfl jM165 rfl rfl rfl rfl) jM165 rfl (Or.inl rfl)).trans ?_
        refine jbi_c (fun r6 τ6 => ?_)
        refine (sv_goto jM182 c182_66 rfl (t := 77) (by decide +kernel)).trans ?_
        exact sv_iret jM182 c182_77 rfl rfl
  ·
    refine (sv_bipush jM182 c182_8 rfl (v := -2) (by decide +kernel)).trans ?_
    refine (sv_callsi (pl := 0) jM182 c182_10 rfl (jm_call_s (as := [(.int (-2 : Int32))]) (rest := []) lm_9_270 rfl jM165 rfl rfl rfl rfl) jM165 rfl (Or.inl rfl)).trans ?_
    refine jbi_c (fun r7 τ7 => ?_)
    exact sv_iret jM182 c182_13 rfl rfl
set_option maxRecDepth 20000 in
set_option maxHeartbeats 4000000 in
theorem M_sieved_in (x1 : Int32) (x2 : Int32) (x3 : Int32) (σ : jm_S) : jc 183 [(.ref 61), (.int x1), (.int x2), (.int x3)] σ = jbi (jc 130 [(.int (2 : Int32)), (.int x1)] σ) (fun r1 τ1 => (if r1 = 0 then some (some (.int (-2 : Int32)), τ1) else jbi (jc 175 [(.int x2)] τ1) (fun r2 τ2 => (if r2 = 0 then some (some (.int (-2 : Int32)), τ2) else jbi (jc 120 [(.long x3.toInt64), (.long (0 : Int64)), (.long (3 : Int64))] τ2) (fun r3 τ3 => (if r3 = 0 then some (some (.int (-2 : Int32)), τ3) else jbi (jc 184 [(.ref 61), (.int x1), (.int x2), (.int x3)] τ3) (fun r4 τ4 => some (some (.int r4), τ4)))))))) := by
  refine (jc_of (ls1 := [some (.ref 61), some (.int x1), some (.int x2), some (.int x3)]) ((jm_ini_of jM183).trans rfl)).trans ?_
  refine (sv_iconst jM183 c183_0 rfl (v := 2) (by decide +kernel)).trans ?_
  refine (sv_iload_n jM183 c183_1 rfl rfl).trans ?_
  refine (sv_callsi (pl := 0) jM183 c183_2 rfl (jm_call_s (as := [(.int (2 : Int32)), (.int x1)]) (rest := []) lm_9_136 rfl jM130 rfl rfl rfl rfl) jM130 rfl (Or.inr rfl)).trans ?_
  refine jbi_c (fun r1 τ1 => ?_)
  refine (sv_if_eq jM183 c183_5 rfl (t := 37) (by decide +kernel)).trans ?_
  refine jif _ ?_ ?_
  ·
    refine (sv_bipush jM183 c183_37 rfl (v := -2) (by decide +kernel)).trans ?_
    exact sv_iret jM183 c183_39 rfl rfl
  ·
    refine (sv_iload_n jM183 c183_8 rfl rfl).trans ?_
    refine (sv_callsi (pl := 0) jM183 c183_9 rfl (jm_call_s (as := [(.int x2)]) (rest := []) lm_9_291 rfl jM175 rfl rfl rfl rfl) jM175 rfl (Or.inr rfl)).trans ?_
    refine jbi_c (fun r2 τ2 => ?_)
    refine (sv_if_eq jM183 c183_12 rfl (t := 37) (by decide +kernel)).trans ?_
    refine jif _ ?_ ?_
    ·
      refine (sv_bipush jM183 c183_37 rfl (v := -2) (by decide +kernel)).trans ?_
      exact sv_iret jM183 c183_39 rfl rfl
    ·
      refine (sv_iload_n jM183 c183_15 rfl rfl).trans ?_
      refine (sv_i2l jM183 c183_16 rfl).trans ?_
      refine (sv_lconst jM183 c183_17 rfl (v := 0) (by decide +kernel)).trans ?_
      refine (sv_ldc2 jM183 c183_18 rfl ll_9_103).trans ?_
      refine (sv_callsi (pl := 0) jM183 c183_21 rfl (jm_call_s (as := [(.long x3.toInt64), (.long (0 : Int64)), (.long (3 : Int64))]) (rest := []) lm_9_95 rfl jM120 rfl rfl rfl rfl) jM120 rfl (Or.inr rfl)).trans ?_
      refine jbi_c (fun r3 τ3 => ?_)
      refine (sv_if_eq jM183 c183_24 rfl (t := 37) (by decide +kernel)).trans ?_
      refine jif _ ?_ ?_
      ·
        refine (sv_bipush jM183 c183_37 rfl (v := -2) (by decide +kernel)).trans ?_
        exact sv_iret jM183 c183_39 rfl rfl
      ·
        refine (sv_aload_n jM183 c183_27 rfl rfl).trans ?_
        refine (sv_iload_n jM183 c183_28 rfl rfl).trans ?_
        refine (sv_iload_n jM183 c183_29 rfl rfl).trans ?_
        refine (sv_iload_n jM183 c183_30 rfl rfl).trans ?_
        refine (sv_callvi (pl := 0) jM183 c183_31 rfl (jm_call_v (a := 61) (as := [(.int x1), (.int x2), (.int x3)]) (rest := []) lm_9_300 rfl jM184 rfl rfl rfl rfl rfl) jM184 rfl (Or.inl rfl)).trans ?_
        refine jbi_c (fun r4 τ4 => ?_)
        refine (sv_goto jM183 c183_34 rfl (t := 39) (by decide +kernel)).trans ?_
        exact sv_iret jM183 c183_39 rfl rfl
set_option maxRecDepth 20000 in
set_option maxHeartbeats 4000000 in
theorem M_jar_in (x1 : Int32) (x2 : Int32) (x3 : Int32) (σ : jm_S) : jc 185 [(.ref 61), (.int x1), (.int x2), (.int x3)] σ = jbi (jc 186 [(.int x1)] σ) (fun r1 τ1 => (if r1 = 0 then some (some (.int (-2 : Int32)), τ1) else jbi (jc 186 [(.int x2)] τ1) (fun r2 τ2 => (if r2 = 0 then some (some (.int (-2 : Int32)), τ2) else jbi (jc 120 [(.long x3.toInt64), (.long (0 : Int64)), (.long (60 : Int64))] τ2) (fun r3 τ3 => (if ¬ r3 = 0 then jv 185 35 [some (.ref 61), some (.int x1), some (.int x2), some (.int x3), some (.int x1), some (.int (0 : Int32))] [] τ3 else some (some (.int (-2 : Int32)), τ3))))))) := by
  refine (jc_of (ls1 := [some (.ref 61), some (.int x1), some (.int x2), some (.int x3), none, none]) ((jm_ini_of jM185).trans rfl)).trans ?_
  refine (sv_iload_n jM185 c185_0 rfl rfl).trans ?_
  refine (sv_callsi (pl := 0) jM185 c185_1 rfl (jm_call_s (as := [(.int x1)]) (rest := []) lm_9_303 rfl jM186 rfl rfl rfl rfl) jM186 rfl (Or.inr rfl)).trans ?_
  refine jbi_c (fun r1 τ1 => ?_)
  refine (sv_if_eq jM185 c185_4 rfl (t := 26) (by decide +kernel)).trans ?_
  refine jif _ ?_ ?_
  ·
    refine (sv_bipush jM185 c185_26 rfl (v := -2) (by decide +kernel)).trans ?_
    exact sv_iret jM185 c185_28 rfl rfl
  ·
    refine (sv_iload_n jM185 c185_7 rfl rfl).trans ?_
    refine (sv_callsi (pl := 0) jM185 c185_8 rfl (jm_call_s (as := [(.int x2)]) (rest := []) lm_9_303 rfl jM186 rfl rfl rfl rfl) jM186 rfl (Or.inr rfl)).trans ?_
    refine jbi_c (fun r2 τ2 => ?_)
    refine (sv_if_eq jM185 c185_11 rfl (t := 26) (by decide +kernel)).trans ?_
    refine jif _ ?_ ?_
    ·
      refine (sv_bipush jM185 c185_26 rfl (v := -2) (by decide +kernel)).trans ?_
      exact sv_iret jM185 c185_28 rfl rfl
    ·
      refine (sv_iload_n jM185 c185_14 rfl rfl).trans ?_
      refine (sv_i2l jM185 c185_15 rfl).trans ?_
      refine (sv_lconst jM185 c185_16 rfl (v := 0) (by decide +kernel)).trans ?_
      refine (sv_ldc2 jM185 c185_17 rfl ll_9_306).trans ?_
      refine (sv_callsi (pl := 0) jM185 c185_20 rfl (jm_call_s (as := [(.long x3.toInt64), (.long (0 : Int64)), (.long (60 : Int64))]) (rest := []) lm_9_95 rfl jM120 rfl rfl rfl rfl) jM120 rfl (Or.inr rfl)).trans ?_
      refine jbi_c (fun r3 τ3 => ?_)
      refine (sv_if_ne jM185 c185_23 rfl (t := 29) (by decide +kernel)).trans ?_
      refine jif _ ?_ ?_
      ·
        refine (sv_iload_n jM185 c185_29 rfl rfl).trans ?_
        refine (sv_istore (ls1 := [some (.ref 61), some (.int x1), some (.int x2), some (.int x3), some (.int x1), none]) jM185 c185_30 rfl (Nat.lt_of_lt_of_eq (by decide +kernel : 4 < 6) rfl) rfl).trans ?_
        refine (sv_iconst jM185 c185_32 rfl (v := 0) (by decide +kernel)).trans ?_
        refine (sv_istore (ls1 := [some (.ref 61), some (.int x1), some (.int x2), some (.int x3), some (.int x1), some (.int (0 : Int32))]) jM185 c185_33 rfl (Nat.lt_of_lt_of_eq (by decide +kernel : 5 < 6) rfl) rfl).trans ?_
        rfl
      ·
        refine (sv_bipush jM185 c185_26 rfl (v := -2) (by decide +kernel)).trans ?_
        exact sv_iret jM185 c185_28 rfl rfl
set_option maxRecDepth 20000 in
set_option maxHeartbeats 4000000 in
theorem M_jar_L35 (x1 : Int32) (x2 : Int32) (x3 : Int32) (x4 : Int32) (x5 : Int32) (σ : jm_S) : jv 185 35 [some (.ref 61), some (.int x1), some (.int x2), some (.int x3), some (.int x4), some (.int x5)] [] σ = (if x3 ≤ x5 then some (some (.int x4), σ) else jbi (jc 187 [(.int x4), (.int x2)] σ) (fun r1 τ1 => jv 185 35 [some (.ref 61), some (.int x1), some (.int x2), some (.int x3), some (.int r1), some (.int (x5 + 1))] [] τ1)) := by
  refine (sv_iload jM185 c185_35 rfl rfl).trans ?_
  refine (sv_iload_n jM185 c185_37 rfl rfl).trans ?_
  refine (sv_icmp_ge jM185 c185_38 rfl (t := 55) (by decide +kernel)).trans ?_
  refine jif _ ?_ ?_
  ·
    refine (sv_iload jM185 c185_55 rfl rfl).trans ?_
    exact sv_iret jM185 c185_57 rfl rfl
  ·
    refine (sv_iload jM185 c185_41 rfl rfl).trans ?_
    refine (sv_iload_n jM185 c185_43 rfl rfl).trans ?_
    refine (sv_callsi (pl := 0) jM185 c185_44 rfl (jm_call_s (as := [(.int x4), (.int x2)]) (rest := []) lm_9_308 rfl jM187 rfl rfl rfl rfl) jM187 rfl (Or.inl rfl)).trans ?_
    refine jbi_c (fun r1 τ1 => ?_)
    refine (sv_istore (ls1 := [some (.ref 61), some (.int x1), some (.int x2), some (.int x3), some (.int r1), some (.int x5)]) jM185 c185_47 rfl (Nat.lt_of_lt_of_eq (by decide +kernel : 4 < 6) rfl) rfl).trans ?_
    refine (sv_iinc (ls1 := [some (.ref 61), some (.int x1), some (.int x2), some (.int x3), some (.int r1), some (.int (x5 + 1))]) jM185 c185_49 rfl rfl (v := 1) (by decide +kernel) rfl).trans ?_
    refine (sv_goto jM185 c185_52 rfl (t := 35) (by decide +kernel)).trans ?_
    rfl
set_option maxRecDepth 20000 in
set_option maxHeartbeats 4000000 in
theorem M_length_in (x1 : Int32) (x2 : Int32) (x3 : Int32) (x4 : Int32) (σ : jm_S) : jc 188 [(.ref 61), (.int x1), (.int x2), (.int x3), (.int x4)] σ = jbi (jc 186 [(.int x1)] σ) (fun r1 τ1 => (if r1 = 0 then some (some (.int (-2 : Int32)), τ1) else jbi (jc 186 [(.int x2)] τ1) (fun r2 τ2 => (if r2 = 0 then some (some (.int (-2 : Int32)), τ2) else jbi (jc 186 [(.int x4)] τ2) (fun r3 τ3 => (if r3 = 0 then some (some (.int (-2 : Int32)), τ3) else jbi (jc 120 [(.long x3.toInt64), (.long (0 : Int64)), (.long x4.toInt64)] τ3) (fun r4 τ4 => (if ¬ r4 = 0 then jv 188 43 [some (.ref 61), some (.int x1), some (.int x2), some (.int x3), some (.int x4), some (.int x1), some (.int (0 : Int32))] [] τ4 else some (some (.int (-2 : Int32)), τ4))))))))) := by
  refine (jc_of (ls1 := [some (.ref 61), some (.int x1), some (.int x2), some (.int x3), some (.int x4), none, none]) ((jm_ini_of jM188).trans rfl)).trans ?_
  refine (sv_iload_n jM188 c188_0 rfl rfl).trans ?_
  refine (sv_callsi (pl := 0) jM188 c188_1 rfl (jm_call_s (as := [(.int x1)]) (rest := []) lm_9_303 rfl jM186 rfl rfl rfl rfl) jM186 rfl (Or.inr rfl)).trans ?_
  refine jbi_c (fun r1 τ1 => ?_)
  refine (sv_if_eq jM188 c188_4 rfl (t := 34) (by decide +kernel)).trans ?_
  refine jif _ ?_ ?_
  ·
    refine (sv_bipush jM188 c188_34 rfl (v := -2) (by decide +kernel)).trans ?_
    exact sv_iret jM188 c188_36 rfl rfl
  ·
    refine (sv_iload_n jM188 c188_7 rfl rfl).trans ?_
    refine (sv_callsi (pl := 0) jM188 c188_8 rfl (jm_call_s (as := [(.int x2)]) (rest := []) lm_9_303 rfl jM186 rfl rfl rfl rfl) jM186 rfl (Or.inr rfl)).trans ?_
    refine jbi_c (fun r2 τ2 => ?_)
    refine (sv_if_eq jM188 c188_11 rfl (t := 34) (by decide +kernel)).trans ?_
    refine jif _ ?_ ?_
    ·
      refine (sv_bipush jM188 c188_34 rfl (v := -2) (by decide +kernel)).trans ?_
      exact sv_iret jM188 c188_36 rfl rfl
    ·
      refine (sv_iload jM188 c188_14 rfl rfl).trans ?_
      refine (sv_callsi (pl := 0) jM188 c188_16 rfl (jm_call_s (as := [(.int x4)]) (rest := []) lm_9_303 rfl jM186 rfl rfl rfl rfl) jM186 rfl (Or.inr rfl)).trans ?_
      refine jbi_c (fun r3 τ3 => ?_)
      refine (sv_if_eq jM188 c188_19 rfl (t := 34) (by decide +kernel)).trans ?_
      refine jif _ ?_ ?_
      ·
        refine (sv_bipush jM188 c188_34 rfl (v := -2) (by decide +kernel)).trans ?_
        exact sv_iret jM188 c188_36 rfl rfl
      ·
        refine (sv_iload_n jM188 c188_22 rfl rfl).trans ?_
        refine (sv_i2l jM188 c188_23 rfl).trans ?_
        refine (sv_lconst jM188 c188_24 rfl (v := 0) (by decide +kernel)).trans ?_
        refine (sv_iload jM188 c188_25 rfl rfl).trans ?_
        refine (sv_i2l jM188 c188_27 rfl).trans ?_
        refine (sv_callsi (pl := 0) jM188 c188_28 rfl (jm_call_s (as := [(.long x3.toInt64), (.long (0 : Int64)), (.long x4.toInt64)]) (rest := []) lm_9_95 rfl jM120 rfl rfl rfl rfl) jM120 rfl (Or.inr rfl)).trans ?_
        refine jbi_c (fun r4 τ4 => ?_)
        refine (sv_if_ne jM188 c188_31 rfl (t := 37) (by decide +kernel)).trans ?_
        refine jif _ ?_ ?_
        ·
          refine (sv_iload_n jM188 c188_37 rfl rfl).trans ?_
          refine (sv_istore (ls1 := [some (.ref 61), some (.int x1), some (.int x2), some (.int x3), some (.int x4), some (.int x1), none]) jM188 c188_38 rfl (Nat.lt_of_lt_of_eq (by decide +kernel : 5 < 7) rfl) rfl).trans ?_
          refine (sv_iconst jM188 c188_40 rfl (v := 0) (by decide +kernel)).trans ?_
          refine (sv_istore (ls1 := [some (.ref 61), some (.int x1), some (.int x2), some (.int x3), some (.int x4), some (.int x1), some (.int (0 : Int32))]) jM188 c188_41 rfl (Nat.lt_of_lt_of_eq (by decide +kernel : 6 < 7) rfl) rfl).trans ?_
          rfl
        ·
          refine (sv_bipush jM188 c188_34 rfl (v := -2) (by decide +kernel)).trans ?_
          exact sv_iret jM188 c188_36 rfl rfl
set_option maxRecDepth 20000 in
set_option maxHeartbeats 4000000 in
theorem M_length_L43 (x1 : Int32) (x2 : Int32) (x3 : Int32) (x4 : Int32) (x5 : Int32) (x6 : Int32) (σ : jm_S) : jv 188 43 [some (.ref 61), some (.int x1), some (.int x2), some (.int x3), some (.int x4), some (.int x5), some (.int x6)] [] σ = (if (60 : Int32) < x6 then some (some (.int (-1 : Int32)), σ) else jbi (jc 120 [(.long x5.toInt64), (.long x3.toInt64), (.long x4.toInt64)] σ) (fun r1 τ1 => (if r1 = 0 then jbi (jc 187 [(.int x5), (.int x2)] τ1) (fun r2 τ2 => jv 188 43 [some (.ref 61), some (.int x1), some (.int x2), some (.int x3), some (.int x4), some (.int r2), some (.int (x6 + 1))] [] τ2) else some (some (.int x6), τ1)))) := by
  refine (sv_iload jM188 c188_43 rfl rfl).trans ?_
  refine (sv_bipush jM188 c188_45 rfl (v := 60) (by decide +kernel)).trans ?_
  refine (sv_icmp_gt jM188 c188_47 rfl (t := 81) (by decide +kernel)).trans ?_
  refine jif _ ?_ ?_
  ·
    refine (sv_iconst jM188 c188_81 rfl (v := -1) (by decide +kernel)).trans ?_
    exact sv_iret jM188 c188_82 rfl rfl
  ·
    refine (sv_iload jM188 c188_50 rfl rfl).trans ?_
    refine (sv_i2l jM188 c188_52 rfl).trans ?_
    refine (sv_iload_n jM188 c188_53 rfl rfl).trans ?_
    refine (sv_i2l jM188 c188_54 rfl).trans ?_
    refine (sv_iload jM188 c188_55 rfl rfl).trans ?_
    refine (sv_i2l jM188 c188_57 rfl).trans ?_
    refine (sv_callsi (pl := 0) jM188 c188_58 rfl (jm_call_s (as := [(.long x5.toInt64), (.long x3.toInt64), (.long x4.toInt64)]) (rest := []) lm_9_95 rfl jM120 rfl rfl rfl rfl) jM120 rfl (Or.inr rfl)).trans ?_
    refine jbi_c (fun r1 τ1 => ?_)
    refine (sv_if_eq jM188 c188_61 rfl (t := 67) (by decide +kernel)).trans ?_
    refine jif _ ?_ ?_
    ·
      refine (sv_iload jM188 c188_67 rfl rfl).trans ?_
      refine (sv_iload_n jM188 c188_69 rfl rfl).trans ?_
      refine (sv_callsi (pl := 0) jM188 c188_70 rfl (jm_call_s (as := [(.int x5), (.int x2)]) (rest := []) lm_9_308 rfl jM187 rfl rfl rfl rfl) jM187 rfl (Or.inl rfl)).trans ?_
      refine jbi_c (fun r2 τ2 => ?_)
      refine (sv_istore (ls1 := [some (.ref 61), some (.int x1), some (.int x2), some (.int x3), some (.int x4), some (.int r2), some (.int x6)]) jM188 c188_73 rfl (Nat.lt_of_lt_of_eq (by decide +kernel : 5 < 7) rfl) rfl).trans ?_
      refine (sv_iinc (ls1 := [some (.ref 61), some (.int x1), some (.int x2), some (.int x3), some (.int x4), some (.int r2), some (.int (x6 + 1))]) jM188 c188_75 rfl rfl (v := 1) (by decide +kernel) rfl).trans ?_
      refine (sv_goto jM188 c188_78 rfl (t := 43) (by decide +kernel)).trans ?_
      rfl
    ·
      refine (sv_iload jM188 c188_64 rfl rfl).trans ?_
      exact sv_iret jM188 c188_66 rfl rfl
set_option maxRecDepth 20000 in
set_option maxHeartbeats 4000000 in
theorem M_cracked_in (x1 : Int32) (x2 : Int32) (x3 : Int32) (x4 : Int32) (x5 : Int32) (σ : jm_S) : jc 189 [(.ref 61), (.int x1), (.int x2), (.int x3), (.int x4), (.int x5)] σ = jbi (jc 120 [(.long x1.toInt64), (.long (1 : Int64)), (.long (30 : Int64))] σ) (fun r1 τ1 => (if r1 = 0 then jbl (jc 190 [(.int (-2 : Int32))] τ1) (fun r2 τ2 => some (some (.long r2), τ2)) else jbi (jc 120 [(.long x2.toInt64), (.long (0 : Int64)), (.long x1.toInt64)] τ1) (fun r3 τ3 => (if r3 = 0 then jbl (jc 190 [(.int (-2 : Int32))] τ3) (fun r4 τ4 => some (some (.long r4), τ4)) else jbi (jc 120 [(.long x3.toInt64), (.long (0 : Int64)), (.long x1.toInt64)] τ3) (fun r5 τ5 => (if r5 = 0 then jbl (jc 190 [(.int (-2 : Int32))] τ5) (fun r6 τ6 => some (some (.long r6), τ6)) else jbi (jc 120 [(.long x4.toInt64), (.long (0 : Int64)), (.long x3.toInt64)] τ5) (fun r7 τ7 => (if r7 = 0 then jbl (jc 190 [(.int (-2 : Int32))] τ7) (fun r8 τ8 => some (some (.long r8), τ8)) else jbi (jc 180 [(.int x5)] τ7) (fun r9 τ9 => (if ¬ r9 = 0 then jbl (jc 191 [(.int x1), (.int x2), (.int x3), (.int x4)] τ9) (fun r10 τ10 => jbl (jc 192 [(.int x1), (.int x3)] τ10) (fun r11 τ11 => jv 189 85 [some (.ref 61), some (.int x1), some (.int x2), some (.int x3), some (.int x4), some (.int x5), some (.long r10), none, some (.long r11), none, some (.long r10), none, some (.long r11), none, none, none] [] τ11)) else jbl (jc 190 [(.int (-2 : Int32))] τ9) (fun r12 τ12 => some (some (.long r12), τ12)))))))))))) := by
  refine (jc_of (ls1 := [some (.ref 61), some (.int x1), some (.int x2), some (.int x3), some (.int x4), some (.int x5), none, none, none, none, none, none, none, none, none, none]) ((jm_ini_of jM189).trans rfl)).trans ?_
  refine (sv_iload_n jM189 c189_0 rfl rfl).trans ?_
  refine (sv_i2l jM189 c189_1 rfl).trans ?_
  refine (sv_lconst jM189 c189_2 rfl (v := 1) (by decide +kernel)).trans ?_
  refine (sv_ldc2 jM189 c189_3 rfl ll_9_315).trans ?_
  refine (sv_callsi (pl := 0) jM189 c189_6 rfl (jm_call_s (as := [(.long x1.toInt64), (.long (1 : Int64)), (.long (30 : Int64))]) (rest := []) lm_9_95 rfl jM120 rfl rfl rfl rfl) jM120 rfl (Or.inr rfl)).trans ?_
  refine jbi_c (fun r1 τ1 => ?_)
  refine (sv_if_eq jM189 c189_9 rfl (t := 54) (by decide +kernel)).trans ?_
  refine jif _ ?_ ?_
  ·
    refine (sv_bipush jM189 c189_54 rfl (v := -2) (by decide +kernel)).trans ?_
    refine (sv_callsl (pl := 0) jM189 c189_56 rfl (jm_call_s (as := [(.int (-2 : Int32))]) (rest := []) lm_9_317 rfl jM190 rfl rfl rfl rfl) jM190 rfl rfl).trans ?_
    refine jbl_c (fun r2 τ2 => ?_)
    exact sv_lret jM189 c189_59 rfl rfl
  ·
    refine (sv_iload_n jM189 c189_12 rfl rfl).trans ?_
    refine (sv_i2l jM189 c189_13 rfl).trans ?_
    refine (sv_lconst jM189 c189_14 rfl (v := 0) (by decide +kernel)).trans ?_
    refine (sv_iload_n jM189 c189_15 rfl rfl).trans ?_
    refine (sv_i2l jM189 c189_16 rfl).trans ?_
    refine (sv_callsi (pl := 0) jM189 c189_17 rfl (jm_call_s (as := [(.long x2.toInt64), (.long (0 : Int64)), (.long x1.toInt64)]) (rest := []) lm_9_95 rfl jM120 rfl rfl rfl rfl) jM120 rfl (Or.inr rfl)).trans ?_
    refine jbi_c (fun r3 τ3 => ?_)
    refine (sv_if_eq jM189 c189_20 rfl (t := 54) (by decide +kernel)).trans ?_
    refine jif _ ?_ ?_
    ·
      refine (sv_bipush jM189 c189_54 rfl (v := -2) (by decide +kernel)).trans ?_
      refine (sv_callsl (pl := 0) jM189 c189_56 rfl (jm_call_s (as := [(.int (-2 : Int32))]) (rest := []) lm_9_317 rfl jM190 rfl rfl rfl rfl) jM190 rfl rfl).trans ?_
      refine jbl_c (fun r4 τ4 => ?_)
      exact sv_lret jM189 c189_59 rfl rfl
    ·
      refine (sv_iload_n jM189 c189_23 rfl rfl).trans ?_
      refine (sv_i2l jM189 c189_24 rfl).trans ?_
      refine (sv_lconst jM189 c189_25 rfl (v := 0) (by decide +kernel)).trans ?_
      refine (sv_iload_n jM189 c189_26 rfl rfl).trans ?_
      refine (sv_i2l jM189 c189_27 rfl).trans ?_
      refine (sv_callsi (pl := 0) jM189 c189_28 rfl (jm_call_s (as := [(.long x3.toInt64), (.long (0 : Int64)), (.long x1.toInt64)]) (rest := []) lm_9_95 rfl jM120 rfl rfl rfl rfl) jM120 rfl (Or.inr rfl)).trans ?_
      refine jbi_c (fun r5 τ5 => ?_)
      refine (sv_if_eq jM189 c189_31 rfl (t := 54) (by decide +kernel)).trans ?_
      refine jif _ ?_ ?_
      ·
        refine (sv_bipush jM189 c189_54 rfl (v := -2) (by decide +kernel)).trans ?_
        refine (sv_callsl (pl := 0) jM189 c189_56 rfl (jm_call_s (as := [(.int (-2 : Int32))]) (rest := []) lm_9_317 rfl jM190 rfl rfl rfl rfl) jM190 rfl rfl).trans ?_
        refine jbl_c (fun r6 τ6 => ?_)
        exact sv_lret jM189 c189_59 rfl rfl
      ·
        refine (sv_iload jM189 c189_34 rfl rfl).trans ?_
        refine (sv_i2l jM189 c189_36 rfl).trans ?_
        refine (sv_lconst jM189 c189_37 rfl (v := 0) (by decide +kernel)).trans ?_
        refine (sv_iload_n jM189 c189_38 rfl rfl).trans ?_
        refine (sv_i2l jM189 c189_39 rfl).trans ?_
        refine (sv_callsi (pl := 0) jM189 c189_40 rfl (jm_call_s (as := [(.long x4.toInt64), (.long (0 : Int64)), (.long x3.toInt64)]) (rest := []) lm_9_95 rfl jM120 rfl rfl rfl rfl) jM120 rfl (Or.inr rfl)).trans ?_
        refine jbi_c (fun r7 τ7 => ?_)
        refine (sv_if_eq jM189 c189_43 rfl (t := 54) (by decide +kernel)).trans ?_
        refine jif _ ?_ ?_
        ·
          refine (sv_bipush jM189 c189_54 rfl (v := -2) (by decide +kernel)).trans ?_
          refine (sv_callsl (pl := 0) jM189 c189_56 rfl (jm_call_s (as := [(.int (-2 : Int32))]) (rest := []) lm_9_317 rfl jM190 rfl rfl rfl rfl) jM190 rfl rfl).trans ?_
          refine jbl_c (fun r8 τ8 => ?_)
          exact sv_lret jM189 c189_59 rfl rfl
        ·
          refine (sv_iload jM189 c189_46 rfl rfl).trans ?_
          refine (sv_callsi (pl := 0) jM189 c189_48 rfl (jm_call_s (as := [(.int x5)]) (rest := []) lm_9_297 rfl jM180 rfl rfl rfl rfl) jM180 rfl (Or.inr rfl)).trans ?_
          refine jbi_c (fun r9 τ9 => ?_)
          refine (sv_if_ne jM189 c189_51 rfl (t := 60) (by decide +kernel)).trans ?_
          refine jif _ ?_ ?_
          ·
            refine (sv_iload_n jM189 c189_60 rfl rfl).trans ?_
            refine (sv_iload_n jM189 c189_61 rfl rfl).trans ?_
            refine (sv_iload_n jM189 c189_62 rfl rfl).trans ?_
            refine (sv_iload jM189 c189_63 rfl rfl).trans ?_
            refine (sv_callsl (pl := 0) jM189 c189_65 rfl (jm_call_s (as := [(.int x1), (.int x2), (.int x3), (.int x4)]) (rest := []) lm_9_321 rfl jM191 rfl rfl rfl rfl) jM191 rfl rfl).trans ?_
            refine jbl_c (fun r10 τ10 => ?_)
            refine (sv_lstore (ls1 := [some (.ref 61), some (.int x1), some (.int x2), some (.int x3), some (.int x4), some (.int x5), some (.long r10), none, none, none, none, none, none, none, none, none]) jM189 c189_68 rfl (Nat.lt_of_lt_of_eq (by decide +kernel : 6 + 1 < 16) rfl) rfl).trans ?_
            refine (sv_iload_n jM189 c189_70 rfl rfl).trans ?_
            refine (sv_iload_n jM189 c189_71 rfl rfl).trans ?_
            refine (sv_callsl (pl := 0) jM189 c189_72 rfl (jm_call_s (as := [(.int x1), (.int x3)]) (rest := []) lm_9_311 rfl jM192 rfl rfl rfl rfl) jM192 rfl rfl).trans ?_
            refine jbl_c (fun r11 τ11 => ?_)
            refine (sv_lstore (ls1 := [some (.ref 61), some (.int x1), some (.int x2), some (.int x3), some (.int x4), some (.int x5), some (.long r10), none, some (.long r11), none, none, none, none, none, none, none]) jM189 c189_75 rfl (Nat.lt_of_lt_of_eq (by decide +kernel : 8 + 1 < 16) rfl) rfl).trans ?_
            refine (sv_lload jM189 c189_77 rfl rfl).trans ?_
            refine (sv_lstore (ls1 := [some (.ref 61), some (.int x1), some (.int x2), some (.int x3), some (.int x4), some (.int x5), some (.long r10), none, some (.long r11), none, some (.long r10), none, none, none, none, none]) jM189 c189_79 rfl (Nat.lt_of_lt_of_eq (by decide +kernel : 10 + 1 < 16) rfl) rfl).trans ?_
            refine (sv_lload jM189 c189_81 rfl rfl).trans ?_
            refine (sv_lstore (ls1 := [some (.ref 61), some (.int x1), some (.int x2), some (.int x3), some (.int x4), some (.int x5), some (.long r10), none, some (.long r11), none, some (.long r10), none, some (.long r11), none, none, none]) jM189 c189_83 rfl (Nat.lt_of_lt_of_eq (by decide +kernel : 12 + 1 < 16) rfl) rfl).trans ?_
            rfl
          ·
            refine (sv_bipush jM189 c189_54 rfl (v := -2) (by decide +kernel)).trans ?_
            refine (sv_callsl (pl := 0) jM189 c189_56 rfl (jm_call_s (as := [(.int (-2 : Int32))]) (rest := []) lm_9_317 rfl jM190 rfl rfl rfl rfl) jM190 rfl rfl).trans ?_
            refine jbl_c (fun r12 τ12 => ?_)
            exact sv_lret jM189 c189_59 rfl rfl
set_option maxRecDepth 20000 in
set_option maxHeartbeats 4000000 in
theorem M_cracked_L85 (x1 : Int32) (x2 : Int32) (x3 : Int32) (x4 : Int32) (x5 : Int32) (x6 : Int64) (x8 : Int64) (x10 : Int64) (x12 : Int64) (u14 : Option Value) (σ : jm_S) : jv 189 85 [some (.ref 61), some (.int x1), some (.int x2), some (.int x3), some (.int x4), some (.int x5), some (.long x6), none, some (.long x8), none, some (.long x10), none, some (.long x12), none, u14, none] [] σ = (if (lg_cmp x12 (0 : Int64)) = 0 then (if ¬ x5 = 0 then (if x10 = 0 then none else some (some (.long (x8 / x10)), σ)) else (if x10 = 0 then none else some (some (.long (x6 / x10)), σ))) else (if x12 = 0 then none else jv 189 85 [some (.ref 61), some (.int x1), some (.int x2), some (.int x3), some (.int x4), some (.int x5), some (.long x6), none, some (.long x8), none, some (.long x12), none, some (.long (x10 - x10 / x12 * x12)), none, some (.long (x10 - x10 / x12 * x12)), none] [] σ)) := by
  refine (sv_lload jM189 c189_85 rfl rfl).trans ?_
  refine (sv_lconst jM189 c189_87 rfl (v := 0) (by decide +kernel)).trans ?_
  refine (sv_lcmp jM189 c189_88 rfl).trans ?_
  refine (sv_if_eq jM189 c189_89 rfl (t := 110) (by decide +kernel)).trans ?_
  refine jif _ ?_ ?_
  ·
    refine (sv_iload jM189 c189_110 rfl rfl).trans ?_
    refine (sv_if_ne jM189 c189_112 rfl (t := 120) (by decide +kernel)).trans ?_
    refine jif _ ?_ ?_
    ·
      refine (sv_lload jM189 c189_120 rfl rfl).trans ?_
      refine (sv_lload jM189 c189_122 rfl rfl).trans ?_
      refine (sv_ldiv jM189 c189_124 rfl).trans ?_
      refine jif _ rfl ?_
      exact sv_lret jM189 c189_125 rfl rfl
    ·
      refine (sv_lload jM189 c189_115 rfl rfl).trans ?_
      refine (sv_goto jM189 c189_117 rfl (t := 122) (by decide +kernel)).trans ?_
      refine (sv_lload jM189 c189_122 rfl rfl).trans ?_
      refine (sv_ldiv jM189 c189_124 rfl).trans ?_
      refine jif _ rfl ?_
      exact sv_lret jM189 c189_125 rfl rfl
  ·
    refine (sv_lload jM189 c189_92 rfl rfl).trans ?_
    refine (sv_lload jM189 c189_94 rfl rfl).trans ?_
    refine (sv_lrem jM189 c189_96 rfl).trans ?_
    refine jif _ rfl ?_
    refine (sv_lstore (ls1 := [some (.ref 61), some (.int x1), some (.int x2), some (.int x3), some (.int x4), some (.int x5), some (.long x6), none, some (.long x8), none, some (.long x10), none, some (.long x12), none, some (.long (x10 - x10 / x12 * x12)), none]) jM189 c189_97 rfl (Nat.lt_of_lt_of_eq (by decide +kernel : 14 + 1 < 16) rfl) rfl).trans ?_
    refine (sv_lload jM189 c189_99 rfl rfl).trans ?_
    refine (sv_lstore (ls1 := [some (.ref 61), some (.int x1), some (.int x2), some (.int x3), some (.int x4), some (.int x5), some (.long x6), none, some (.long x8), none, some (.long x12), none, some (.long x12), none, some (.long (x10 - x10 / x12 * x12)), none]) jM189 c189_101 rfl (Nat.lt_of_lt_of_eq (by decide +kernel : 10 + 1 < 16) rfl) rfl).trans ?_
    refine (sv_lload jM189 c189_103 rfl rfl).trans ?_
    refine (sv_lstore (ls1 := [some (.ref 61), some (.int x1), some (.int x2), some (.int x3), some (.int x4), some (.int x5), some (.long x6), none, some (.long x8), none, some (.long x12), none, some (.long (x10 - x10 / x12 * x12)), none, some (.long (x10 - x10 / x12 * x12)), none]) jM189 c189_105 rfl (Nat.lt_of_lt_of_eq (by decide +kernel : 12 + 1 < 16) rfl) rfl).trans ?_
    refine (sv_goto jM189 c189_107 rfl (t := 85) (by decide +kernel)).trans ?_
    rfl
set_option maxRecDepth 20000 in
set_option maxHeartbeats 4000000 in
theorem M_span_in (x1 : Int32) (x2 : Int32) (x3 : Int32) (x4 : Int32) (x5 : Int32) (σ : jm_S) : jc 193 [(.ref 61), (.int x1), (.int x2), (.int x3), (.int x4), (.int x5)] σ = jbi (jc 120 [(.long x1.toInt64), (.long (1 : Int64)), (.long (30 : Int64))] σ) (fun r1 τ1 => (if r1 = 0 then some (some (.int (-2 : Int32)), τ1) else jbi (jc 120 [(.long x2.toInt64), (.long (0 : Int64)), (.long x1.toInt64)] τ1) (fun r2 τ2 => (if r2 = 0 then some (some (.int (-2 : Int32)), τ2) else jbi (jc 120 [(.long x3.toInt64), (.long (0 : Int64)), (.long x2.toInt64)] τ2) (fun r3 τ3 => (if r3 = 0 then some (some (.int (-2 : Int32)), τ3) else jbi (jc 120 [(.long x4.toInt64), (.long (0 : Int64)), (.long (255 : Int64))] τ3) (fun r4 τ4 => (if r4 = 0 then some (some (.int (-2 : Int32)), τ4) else jbi (jc 180 [(.int x5)] τ4) (fun r5 τ5 => (if ¬ r5 = 0 then jbl (jc 192 [(.int x1), (.int x2)] τ5) (fun r6 τ6 => jv 193 71 [some (.ref 61), some (.int x1), some (.int x2), some (.int x3), some (.int x4), some (.int x5), some (.long r6), none, some (.int (-1 : Int32)), some (.int (0 : Int32)), none, none, none] [] τ6) else some (some (.int (-2 : Int32)), τ5))))))))))) := by
  refine (jc_of (ls1 := [some (.ref 61), some (.int x1), some (.int x2), some (.int x3), some (.int x4), some (.int x5), none, none, none, none, none, none, none]) ((jm_ini_of jM193).trans rfl)).trans ?_
  refine (sv_iload_n jM193 c193_0 rfl rfl).trans ?_
  refine (sv_i2l jM193 c193_1 rfl).trans ?_
  refine (sv_lconst jM193 c193_2 rfl (v := 1) (by decide +kernel)).trans ?_
  refine (sv_ldc2 jM193 c193_3 rfl ll_9_315).trans ?_
  refine (sv_callsi (pl := 0) jM193 c193_6 rfl (jm_call_s (as := [(.long x1.toInt64), (.long (1 : Int64)), (.long (30 : Int64))]) (rest := []) lm_9_95 rfl jM120 rfl rfl rfl rfl) jM120 rfl (Or.inr rfl)).trans ?_
  refine jbi_c (fun r1 τ1 => ?_)
  refine (sv_if_eq jM193 c193_9 rfl (t := 55) (by decide +kernel)).trans ?_
  refine jif _ ?_ ?_
  ·
    refine (sv_bipush jM193 c193_55 rfl (v := -2) (by decide +kernel)).trans ?_
    exact sv_iret jM193 c193_57 rfl rfl
  ·
    refine (sv_iload_n jM193 c193_12 rfl rfl).trans ?_
    refine (sv_i2l jM193 c193_13 rfl).trans ?_
    refine (sv_lconst jM193 c193_14 rfl (v := 0) (by decide +kernel)).trans ?_
    refine (sv_iload_n jM193 c193_15 rfl rfl).trans ?_
    refine (sv_i2l jM193 c193_16 rfl).trans ?_
    refine (sv_callsi (pl := 0) jM193 c193_17 rfl (jm_call_s (as := [(.long x2.toInt64), (.long (0 : Int64)), (.long x1.toInt64)]) (rest := []) lm_9_95 rfl jM120 rfl rfl rfl rfl) jM120 rfl (Or.inr rfl)).trans ?_
    refine jbi_c (fun r2 τ2 => ?_)
    refine (sv_if_eq jM193 c193_20 rfl (t := 55) (by decide +kernel)).trans ?_
    refine jif _ ?_ ?_
    ·
      refine (sv_bipush jM193 c193_55 rfl (v := -2) (by decide +kernel)).trans ?_
      exact sv_iret jM193 c193_57 rfl rfl
    ·
      refine (sv_iload_n jM193 c193_23 rfl rfl).trans ?_
      refine (sv_i2l jM193 c193_24 rfl).trans ?_
      refine (sv_lconst jM193 c193_25 rfl (v := 0) (by decide +kernel)).trans ?_
      refine (sv_iload_n jM193 c193_26 rfl rfl).trans ?_
      refine (sv_i2l jM193 c193_27 rfl).trans ?_
      refine (sv_callsi (pl := 0) jM193 c193_28 rfl (jm_call_s (as := [(.long x3.toInt64), (.long (0 : Int64)), (.long x2.toInt64)]) (rest := []) lm_9_95 rfl jM120 rfl rfl rfl rfl) jM120 rfl (Or.inr rfl)).trans ?_
      refine jbi_c (fun r3 τ3 => ?_)
      refine (sv_if_eq jM193 c193_31 rfl (t := 55) (by decide +kernel)).trans ?_
      refine jif _ ?_ ?_
      ·
        refine (sv_bipush jM193 c193_55 rfl (v := -2) (by decide +kernel)).trans ?_
        exact sv_iret jM193 c193_57 rfl rfl
      ·
        refine (sv_iload jM193 c193_34 rfl rfl).trans ?_
        refine (sv_i2l jM193 c193_36 rfl).trans ?_
        refine (sv_lconst jM193 c193_37 rfl (v := 0) (by decide +kernel)).trans ?_
        refine (sv_ldc2 jM193 c193_38 rfl ll_9_157).trans ?_
        refine (sv_callsi (pl := 0) jM193 c193_41 rfl (jm_call_s (as := [(.long x4.toInt64), (.long (0 : Int64)), (.long (255 : Int64))]) (rest := []) lm_9_95 rfl jM120 rfl rfl rfl rfl) jM120 rfl (Or.inr rfl)).trans ?_
        refine jbi_c (fun r4 τ4 => ?_)
        refine (sv_if_eq jM193 c193_44 rfl (t := 55) (by decide +kernel)).trans ?_
        refine jif _ ?_ ?_
        ·
          refine (sv_bipush jM193 c193_55 rfl (v := -2) (by decide +kernel)).trans ?_
          exact sv_iret jM193 c193_57 rfl rfl
        ·
          refine (sv_iload jM193 c193_47 rfl rfl).trans ?_
          refine (sv_callsi (pl := 0) jM193 c193_49 rfl (jm_call_s (as := [(.int x5)]) (rest := []) lm_9_297 rfl jM180 rfl rfl rfl rfl) jM180 rfl (Or.inr rfl)).trans ?_
          refine jbi_c (fun r5 τ5 => ?_)
          refine (sv_if_ne jM193 c193_52 rfl (t := 58) (by decide +kernel)).trans ?_
          refine jif _ ?_ ?_
          ·
            refine (sv_iload_n jM193 c193_58 rfl rfl).trans ?_
            refine (sv_iload_n jM193 c193_59 rfl rfl).trans ?_
            refine (sv_callsl (pl := 0) jM193 c193_60 rfl (jm_call_s (as := [(.int x1), (.int x2)]) (rest := []) lm_9_311 rfl jM192 rfl rfl rfl rfl) jM192 rfl rfl).trans ?_
            refine jbl_c (fun r6 τ6 => ?_)
            refine (sv_lstore (ls1 := [some (.ref 61), some (.int x1), some (.int x2), some (.int x3), some (.int x4), some (.int x5), some (.long r6), none, none, none, none, none, none]) jM193 c193_63 rfl (Nat.lt_of_lt_of_eq (by decide +kernel : 6 + 1 < 13) rfl) rfl).trans ?_
            refine (sv_iconst jM193 c193_65 rfl (v := -1) (by decide +kernel)).trans ?_
            refine (sv_istore (ls1 := [some (.ref 61), some (.int x1), some (.int x2), some (.int x3), some (.int x4), some (.int x5), some (.long r6), none, some (.int (-1 : Int32)), none, none, none, none]) jM193 c193_66 rfl (Nat.lt_of_lt_of_eq (by decide +kernel : 8 < 13) rfl) rfl).trans ?_
            refine (sv_iconst jM193 c193_68 rfl (v := 0) (by decide +kernel)).trans ?_
            refine (sv_istore (ls1 := [some (.ref 61), some (.int x1), some (.int x2), some (.int x3), some (.int x4), some (.int x5), some (.long r6), none, some (.int (-1 : Int32)), some (.int (0 : Int32)), none, none, none]) jM193 c193_69 rfl (Nat.lt_of_lt_of_eq (by decide +kernel : 9 < 13) rfl) rfl).trans ?_
            rfl
          ·
            refine (sv_bipush jM193 c193_55 rfl (v := -2) (by decide +kernel)).trans ?_
            exact sv_iret jM193 c193_57 rfl rfl
set_option maxRecDepth 20000 in
set_option maxHeartbeats 4000000 in
theorem M_span_L71 (x1 : Int32) (x2 : Int32) (x3 : Int32) (x4 : Int32) (x5 : Int32) (x6 : Int64) (x8 : Int32) (x9 : Int32) (u10 : Option Value) (u12 : Option Value) (σ : jm_S) : jv 193 71 [some (.ref 61), some (.int x1), some (.int x2), some (.int x3), some (.int x4), some (.int x5), some (.long x6), none, some (.int x8), some (.int x9), u10, none, u12] [] σ = (if x1 < x9 then some (some (.int x8), σ) else jv 193 83 [some (.ref 61), some (.int x1), some (.int x2), some (.int x3), some (.int x4), some (.int x5), some (.long x6), none, some (.int x8), some (.int x9), some (.long (0 : Int64)), none, some (.int (0 : Int32))] [] σ) := by
  refine (sv_iload jM193 c193_71 rfl rfl).trans ?_
  refine (sv_iload_n jM193 c193_73 rfl rfl).trans ?_
  refine (sv_icmp_gt jM193 c193_74 rfl (t := 188) (by decide +kernel)).trans ?_
  refine jif _ ?_ ?_
  ·
    refine (sv_iload jM193 c193_188 rfl rfl).trans ?_
    exact sv_iret jM193 c193_190 rfl rfl
  ·
    refine (sv_lconst jM193 c193_77 rfl (v := 0) (by decide +kernel)).trans ?_
    refine (sv_lstore (ls1 := [some (.ref 61), some (.int x1), some (.int x2), some (.int x3), some (.int x4), some (.int x5), some (.long x6), none, some (.int x8), some (.int x9), some (.long (0 : Int64)), none, u12]) jM193 c193_78 rfl (Nat.lt_of_lt_of_eq (by decide +kernel : 10 + 1 < 13) rfl) rfl).trans ?_
    refine (sv_iconst jM193 c193_80 rfl (v := 0) (by decide +kernel)).trans ?_
    refine (sv_istore (ls1 := [some (.ref 61), some (.int x1), some (.int x2), some (.int x3), some (.int x4), some (.int x5), some (.long x6), none, some (.int x8), some (.int x9), some (.long (0 : Int64)), none, some (.int (0 : Int32))]) jM193 c193_81 rfl (Nat.lt_of_lt_of_eq (by decide +kernel : 12 < 13) rfl) rfl).trans ?_
    rfl
set_option maxRecDepth 20000 in
set_option maxHeartbeats 4000000 in
theorem M_span_L83 (x1 : Int32) (x2 : Int32) (x3 : Int32) (x4 : Int32) (x5 : Int32) (x6 : Int64) (x8 : Int32) (x9 : Int32) (x10 : Int64) (x12 : Int32) (σ : jm_S) : jv 193 83 [some (.ref 61), some (.int x1), some (.int x2), some (.int x3), some (.int x4), some (.int x5), some (.long x6), none, some (.int x8), some (.int x9), some (.long x10), none, some (.int x12)] [] σ = (if x2 < x12 then (if (lg_cmp (x10 * (256 : Int64)) (x4.toInt64 * x6)) ≤ 0 then jv 193 71 [some (.ref 61), some (.int x1), some (.int x2), some (.int x3), some (.int x4), some (.int x5), some (.long x6), none, some (.int x8), some (.int (x9 + 1)), some (.long x10), none, some (.int (0 : Int32))] [] σ else (if x5 = (1 : Int32) then jv 193 71 [some (.ref 61), some (.int x1), some (.int x2), some (.int x3), some (.int x4), some (.int x5), some (.long x6), none, some (.int x9), some (.int (x9 + 1)), some (.long x10), none, some (.int (1 : Int32))] [] σ else (if ¬ x8 = (-1 : Int32) then jv 193 71 [some (.ref 61), some (.int x1), some (.int x2), some (.int x3), some (.int x4), some (.int x5), some (.long x6), none, some (.int x8), some (.int (x9 + 1)), some (.long x10), none, some (.int (1 : Int32))] [] σ else jv 193 71 [some (.ref 61), some (.int x1), some (.int x2), some (.int x3), some (.int x4), some (.int x5), some (.long x6), none, some (.int x9), some (.int (x9 + 1)), some (.long x10), none, some (.int (1 : Int32))] [] σ))) else (if ¬ x5 = 0 then (if x3 < x12 then jv 193 83 [some (.ref 61), some (.int x1), some (.int x2), some (.int x3), some (.int x4), some (.int x5), some (.long x6), none, some (.int x8), some (.int x9), some (.long (x10 + (0 : Int64))), none, some (.int (x12 + 1))] [] σ else jbl (jc 191 [(.int x1), (.int x9), (.int x2), (.int x12)] σ) (fun r1 τ1 => jv 193 83 [some (.ref 61), some (.int x1), some (.int x2), some (.int x3), some (.int x4), some (.int x5), some (.long x6), none, some (.int x8), some (.int x9), some (.long (x10 + r1)), none, some (.int (x12 + 1))] [] τ1)) else (if x12 < x3 then jv 193 83 [some (.ref 61), some (.int x1), some (.int x2), some (.int x3), some (.int x4), some (.int x5), some (.long x6), none, some (.int x8), some (.int x9), some (.long (x10 + (0 : Int64))), none, some (.int (x12 + 1))] [] σ else jbl (jc 191 [(.int x1), (.int x9), (.int x2), (.int x12)] σ) (fun r2 τ2 => jv 193 83 [some (.ref 61), some (.int x1), some (.int x2), some (.int x3), some (.int x4), some (.int x5), some (.long x6), none, some (.int x8), some (.int x9), some (.long (x10 + r2)), none, some (.int (x12 + 1))] [] τ2)))) := by
  refine (sv_iload jM193 c193_83 rfl rfl).trans ?_
  refine (sv_iload_n jM193 c193_85 rfl rfl).trans ?_
  refine (sv_icmp_gt jM193 c193_86 rfl (t := 133) (by decide +kernel)).trans ?_
  refine jif _ ?_ ?_
  ·
    refine (sv_lload jM193 c193_133 rfl rfl).trans ?_
    refine (sv_ldc2 jM193 c193_135 rfl ll_9_325).trans ?_
    refine (sv_lmul jM193 c193_138 rfl).trans ?_
    refine (sv_iload jM193 c193_139 rfl rfl).trans ?_
    refine (sv_i2l jM193 c193_141 rfl).trans ?_
    refine (sv_lload jM193 c193_142 rfl rfl).trans ?_
    refine (sv_lmul jM193 c193_144 rfl).trans ?_
    refine (sv_lcmp jM193 c193_145 rfl).trans ?_
    refine (sv_if_le jM193 c193_146 rfl (t := 153) (by decide +kernel)).trans ?_
    refine jif _ ?_ ?_
    ·
      refine (sv_iconst jM193 c193_153 rfl (v := 0) (by decide +kernel)).trans ?_
      refine (sv_istore (ls1 := [some (.ref 61), some (.int x1), some (.int x2), some (.int x3), some (.int x4), some (.int x5), some (.long x6), none, some (.int x8), some (.int x9), some (.long x10), none, some (.int (0 : Int32))]) jM193 c193_154 rfl (Nat.lt_of_lt_of_eq (by decide +kernel : 12 < 13) rfl) rfl).trans ?_
      refine (sv_iload jM193 c193_156 rfl rfl).trans ?_
      refine (sv_if_eq jM193 c193_158 rfl (t := 178) (by decide +kernel)).trans ?_
      refine (if_pos (by decide +kernel)).trans ?_
      refine (sv_iload jM193 c193_178 rfl rfl).trans ?_
      refine (sv_istore (ls1 := [some (.ref 61), some (.int x1), some (.int x2), some (.int x3), some (.int x4), some (.int x5), some (.long x6), none, some (.int x8), some (.int x9), some (.long x10), none, some (.int (0 : Int32))]) jM193 c193_180 rfl (Nat.lt_of_lt_of_eq (by decide +kernel : 8 < 13) rfl) rfl).trans ?_
      refine (sv_iinc (ls1 := [some (.ref 61), some (.int x1), some (.int x2), some (.int x3), some (.int x4), some (.int x5), some (.long x6), none, some (.int x8), some (.int (x9 + 1)), some (.long x10), none, some (.int (0 : Int32))]) jM193 c193_182 rfl rfl (v := 1) (by decide +kernel) rfl).trans ?_
      refine (sv_goto jM193 c193_185 rfl (t := 71) (by decide +kernel)).trans ?_
      rfl
    ·
      refine (sv_iconst jM193 c193_149 rfl (v := 1) (by decide +kernel)).trans ?_
      refine (sv_goto jM193 c193_150 rfl (t := 154) (by decide +kernel)).trans ?_
      refine (sv_istore (ls1 := [some (.ref 61), some (.int x1), some (.int x2), some (.int x3), some (.int x4), some (.int x5), some (.long x6), none, some (.int x8), some (.int x9), some (.long x10), none, some (.int (1 : Int32))]) jM193 c193_154 rfl (Nat.lt_of_lt_of_eq (by decide +kernel : 12 < 13) rfl) rfl).trans ?_
      refine (sv_iload jM193 c193_156 rfl rfl).trans ?_
      refine (sv_if_eq jM193 c193_158 rfl (t := 178) (by decide +kernel)).trans ?_
      refine (if_neg (by decide +kernel)).trans ?_
      refine (sv_iload jM193 c193_161 rfl rfl).trans ?_
      refine (sv_iconst jM193 c193_163 rfl (v := 1) (by decide +kernel)).trans ?_
      refine (sv_icmp_eq jM193 c193_164 rfl (t := 173) (by decide +kernel)).trans ?_
      refine jif _ ?_ ?_
      ·
        refine (sv_iload jM193 c193_173 rfl rfl).trans ?_
        refine (sv_goto jM193 c193_175 rfl (t := 180) (by decide +kernel)).trans ?_
        refine (sv_istore (ls1 := [some (.ref 61), some (.int x1), some (.int x2), some (.int x3), some (.int x4), some (.int x5), some (.long x6), none, some (.int x9), some (.int x9), some (.long x10), none, some (.int (1 : Int32))]) jM193 c193_180 rfl (Nat.lt_of_lt_of_eq (by decide +kernel : 8 < 13) rfl) rfl).trans ?_
        refine (sv_iinc (ls1 := [some (.ref 61), some (.int x1), some (.int x2), some (.int x3), some (.int x4), some (.int x5), some (.long x6), none, some (.int x9), some (.int (x9 + 1)), some (.long x10), none, some (.int (1 : Int32))]) jM193 c193_182 rfl rfl (v := 1) (by decide +kernel) rfl).trans ?_
        refine (sv_goto jM193 c193_185 rfl (t := 71) (by decide +kernel)).trans ?_
        rfl
      ·
        refine (sv_iload jM193 c193_167 rfl rfl).trans ?_
        refine (sv_iconst jM193 c193_169 rfl (v := -1) (by decide +kernel)).trans ?_
        refine (sv_icmp_ne jM193 c193_170 rfl (t := 178) (by decide +kernel)).trans ?_
        refine jif _ ?_ ?_
        ·
          refine (sv_iload jM193 c193_178 rfl rfl).trans ?_
          refine (sv_istore (ls1 := [some (.ref 61), some (.int x1), some (.int x2), some (.int x3), some (.int x4), some (.int x5), some (.long x6), none, some (.int x8), some (.int x9), some (.long x10), none, some (.int (1 : Int32))]) jM193 c193_180 rfl (Nat.lt_of_lt_of_eq (by decide +kernel : 8 < 13) rfl) rfl).trans ?_
          refine (sv_iinc (ls1 := [some (.ref 61), some (.int x1), some (.int x2), some (.int x3), some (.int x4), some (.int x5), some (.long x6), none, some (.int x8), some (.int (x9 + 1)), some (.long x10), none, some (.int (1 : Int32))]) jM193 c193_182 rfl rfl (v := 1) (by decide +kernel) rfl).trans ?_
          refine (sv_goto jM193 c193_185 rfl (t := 71) (by decide +kernel)).trans ?_
          rfl
        ·
          refine (sv_iload jM193 c193_173 rfl rfl).trans ?_
          refine (sv_goto jM193 c193_175 rfl (t := 180) (by decide +kernel)).trans ?_
          refine (sv_istore (ls1 := [some (.ref 61), some (.int x1), some (.int x2), some (.int x3), some (.int x4), some (.int x5), some (.long x6), none, some (.int x9), some (.int x9), some (.long x10), none, some (.int (1 : Int32))]) jM193 c193_180 rfl (Nat.lt_of_lt_of_eq (by decide +kernel : 8 < 13) rfl) rfl).trans ?_
          refine (sv_iinc (ls1 := [some (.ref 61), some (.int x1), some (.int x2), some (.int x3), some (.int x4), some (.int x5), some (.long x6), none, some (.int x9), some (.int (x9 + 1)), some (.long x10), none, some (.int (1 : Int32))]) jM193 c193_182 rfl rfl (v := 1) (by decide +kernel) rfl).trans ?_
          refine (sv_goto jM193 c193_185 rfl (t := 71) (by decide +kernel)).trans ?_
          rfl
  ·
    refine (sv_lload jM193 c193_89 rfl rfl).trans ?_
    refine (sv_iload jM193 c193_91 rfl rfl).trans ?_
    refine (sv_if_ne jM193 c193_93 rfl (t := 105) (by decide +kernel)).trans ?_
    refine jif _ ?_ ?_
    ·
      refine (sv_iload jM193 c193_105 rfl rfl).trans ?_
      refine (sv_iload_n jM193 c193_107 rfl rfl).trans ?_
      refine (sv_icmp_gt jM193 c193_108 rfl (t := 123) (by decide +kernel)).trans ?_
      refine jif _ ?_ ?_
      ·
        refine (sv_lconst jM193 c193_123 rfl (v := 0) (by decide +kernel)).trans ?_
        refine (sv_ladd jM193 c193_124 rfl).trans ?_
        refine (sv_lstore (ls1 := [some (.ref 61), some (.int x1), some (.int x2), some (.int x3), some (.int x4), some (.int x5), some (.long x6), none, some (.int x8), some (.int x9), some (.long (x10 + (0 : Int64))), none, some (.int x12)]) jM193 c193_125 rfl (Nat.lt_of_lt_of_eq (by decide +kernel : 10 + 1 < 13) rfl) rfl).trans ?_
        refine (sv_iinc (ls1 := [some (.ref 61), some (.int x1), some (.int x2), some (.int x3), some (.int x4), some (.int x5), some (.long x6), none, some (.int x8), some (.int x9), some (.long (x10 + (0 : Int64))), none, some (.int (x12 + 1))]) jM193 c193_127 rfl rfl (v := 1) (by decide +kernel) rfl).trans ?_
        refine (sv_goto jM193 c193_130 rfl (t := 83) (by decide +kernel)).trans ?_
        rfl
      ·
        refine (sv_iload_n jM193 c193_111 rfl rfl).trans ?_
        refine (sv_iload jM193 c193_112 rfl rfl).trans ?_
        refine (sv_iload_n jM193 c193_114 rfl rfl).trans ?_
        refine (sv_iload jM193 c193_115 rfl rfl).trans ?_
        refine (sv_callsl (pl := 0) jM193 c193_117 rfl (jm_call_s (as := [(.int x1), (.int x9), (.int x2), (.int x12)]) (rest := [(.long x10)]) lm_9_321 rfl jM191 rfl rfl rfl rfl) jM191 rfl rfl).trans ?_
        refine jbl_c (fun r1 τ1 => ?_)
        refine (sv_goto jM193 c193_120 rfl (t := 124) (by decide +kernel)).trans ?_
        refine (sv_ladd jM193 c193_124 rfl).trans ?_
        refine (sv_lstore (ls1 := [some (.ref 61), some (.int x1), some (.int x2), some (.int x3), some (.int x4), some (.int x5), some (.long x6), none, some (.int x8), some (.int x9), some (.long (x10 + r1)), none, some (.int x12)]) jM193 c193_125 rfl (Nat.lt_of_lt_of_eq (by decide +kernel : 10 + 1 < 13) rfl) rfl).trans ?_
        refine (sv_iinc (ls1 := [some (.ref 61), some (.int x1), some (.int x2), some (.int x3), some (.int x4), some (.int x5), some (.long x6), none, some (.int x8), some (.int x9), some (.long (x10 + r1)), none, some (.int (x12 + 1))]) jM193 c193_127 rfl rfl (v := 1) (by decide +kernel) rfl).trans ?_
        refine (sv_goto jM193 c193_130 rfl (t := 83) (by decide +kernel)).trans ?_
        rfl
    ·
      refine (sv_iload jM193 c193_96 rfl rfl).trans ?_
      refine (sv_iload_n jM193 c193_98 rfl rfl).trans ?_
      refine (sv_icmp_lt jM193 c193_99 rfl (t := 123) (by decide +kernel)).trans ?_
      refine jif _ ?_ ?_
      ·
        refine (sv_lconst jM193 c193_123 rfl (v := 0) (by decide +kernel)).trans ?_
        refine (sv_ladd jM193 c193_124 rfl).trans ?_
        refine (sv_lstore (ls1 := [some (.ref 61), some (.int x1), some (.int x2), some (.int x3), some (.int x4), some (.int x5), some (.long x6), none, some (.int x8), some (.int x9), some (.long (x10 + (0 : Int64))), none, some (.int x12)]) jM193 c193_125 rfl (Nat.lt_of_lt_of_eq (by decide +kernel : 10 + 1 < 13) rfl) rfl).trans ?_
        refine (sv_iinc (ls1 := [some (.ref 61), some (.int x1), some (.int x2), some (.int x3), some (.int x4), some (.int x5), some (.long x6), none, some (.int x8), some (.int x9), some (.long (x10 + (0 : Int64))), none, some (.int (x12 + 1))]) jM193 c193_127 rfl rfl (v := 1) (by decide +kernel) rfl).trans ?_
        refine (sv_goto jM193 c193_130 rfl (t := 83) (by decide +kernel)).trans ?_
        rfl
      ·
        refine (sv_goto jM193 c193_102 rfl (t := 111) (by decide +kernel)).trans ?_
        refine (sv_iload_n jM193 c193_111 rfl rfl).trans ?_
        refine (sv_iload jM193 c193_112 rfl rfl).trans ?_
        refine (sv_iload_n jM193 c193_114 rfl rfl).trans ?_
        refine (sv_iload jM193 c193_115 rfl rfl).trans ?_
        refine (sv_callsl (pl := 0) jM193 c193_117 rfl (jm_call_s (as := [(.int x1), (.int x9), (.int x2), (.int x12)]) (rest := [(.long x10)]) lm_9_321 rfl jM191 rfl rfl rfl rfl) jM191 rfl rfl).trans ?_
        refine jbl_c (fun r2 τ2 => ?_)
        refine (sv_goto jM193 c193_120 rfl (t := 124) (by decide +kernel)).trans ?_
        refine (sv_ladd jM193 c193_124 rfl).trans ?_
        refine (sv_lstore (ls1 := [some (.ref 61), some (.int x1), some (.int x2), some (.int x3), some (.int x4), some (.int x5), some (.long x6), none, some (.int x8), some (.int x9), some (.long (x10 + r2)), none, some (.int x12)]) jM193 c193_125 rfl (Nat.lt_of_lt_of_eq (by decide +kernel : 10 + 1 < 13) rfl) rfl).trans ?_
        refine (sv_iinc (ls1 := [some (.ref 61), some (.int x1), some (.int x2), some (.int x3), some (.int x4), some (.int x5), some (.long x6), none, some (.int x8), some (.int x9), some (.long (x10 + r2)), none, some (.int (x12 + 1))]) jM193 c193_127 rfl rfl (v := 1) (by decide +kernel) rfl).trans ?_
        refine (sv_goto jM193 c193_130 rfl (t := 83) (by decide +kernel)).trans ?_
        rfl
set_option maxRecDepth 20000 in
set_option maxHeartbeats 4000000 in
theorem M_heard_in (x1 : Int32) (x2 : Int32) (σ : jm_S) : jc 194 [(.ref 61), (.int x1), (.int x2)] σ = jbi (jc 133 [(.ref 61), (.int x1)] σ) (fun r1 τ1 => (if r1 = 0 then some (some (.int (-2 : Int32)), τ1) else jbi (jc 120 [(.long x2.toInt64), (.long (0 : Int64)), (.long (199 : Int64))] τ1) (fun r2 τ2 => (if ¬ r2 = 0 then (if ¬ (τ2 61 36) = (12 : Int32) then (if (τ2 61 36) < 0 ∨ 12 ≤ (τ2 61 36).toNatClampNeg then none else (if (τ2 61 36) < 0 ∨ 12 ≤ (τ2 61 36).toNatClampNeg then none else some (some (.int ((τ2 61 36) + (1 : Int32))), (jm_up (jm_up (jm_up τ2 87 (τ2 61 36).toNatClampNeg x1) 88 (τ2 61 36).toNatClampNeg x2) 61 36 ((τ2 61 36) + (1 : Int32)))))) else some (some (.int (-4 : Int32)), τ2)) else some (some (.int (-2 : Int32)), τ2))))) := by
  refine (jc_of (ls1 := [some (.ref 61), some (.int x1), some (.int x2)]) ((jm_ini_of jM194).trans rfl)).trans ?_
  refine (sv_aload_n jM194 c194_0 rfl rfl).trans ?_
  refine (sv_iload_n jM194 c194_1 rfl rfl).trans ?_
  refine (sv_callvi (pl := 0) jM194 c194_2 rfl (jm_call_v (a := 61) (as := [(.int x1)]) (rest := []) lm_9_144 rfl jM133 rfl rfl rfl rfl rfl) jM133 rfl (Or.inr rfl)).trans ?_
  refine jbi_c (fun r1 τ1 => ?_)
  refine (sv_if_eq jM194 c194_5 rfl (t := 20) (by decide +kernel)).trans ?_
  refine jif _ ?_ ?_
  ·
    refine (sv_bipush jM194 c194_20 rfl (v := -2) (by decide +kernel)).trans ?_
    exact sv_iret jM194 c194_22 rfl rfl
  ·
    refine (sv_iload_n jM194 c194_8 rfl rfl).trans ?_
    refine (sv_i2l jM194 c194_9 rfl).trans ?_
    refine (sv_lconst jM194 c194_10 rfl (v := 0) (by decide +kernel)).trans ?_
    refine (sv_ldc2 jM194 c194_11 rfl ll_9_204).trans ?_
    refine (sv_callsi (pl := 0) jM194 c194_14 rfl (jm_call_s (as := [(.long x2.toInt64), (.long (0 : Int64)), (.long (199 : Int64))]) (rest := []) lm_9_95 rfl jM120 rfl rfl rfl rfl) jM120 rfl (Or.inr rfl)).trans ?_
    refine jbi_c (fun r2 τ2 => ?_)
    refine (sv_if_ne jM194 c194_17 rfl (t := 23) (by decide +kernel)).trans ?_
    refine jif _ ?_ ?_
    ·
      refine (sv_aload_n jM194 c194_23 rfl rfl).trans ?_
      refine (sv_getf jM194 c194_24 rfl lf_9_147 (fg_61_36 _)).trans ?_
      refine (sv_bipush jM194 c194_27 rfl (v := 12) (by decide +kernel)).trans ?_
      refine (sv_icmp_ne jM194 c194_29 rfl (t := 35) (by decide +kernel)).trans ?_
      refine jif _ ?_ ?_
      ·
        refine (sv_aload_n jM194 c194_35 rfl rfl).trans ?_
        refine (sv_getf jM194 c194_36 rfl lf_9_86 (fg_61_37 _)).trans ?_
        refine (sv_aload_n jM194 c194_39 rfl rfl).trans ?_
        refine (sv_getf jM194 c194_40 rfl lf_9_147 (fg_61_36 _)).trans ?_
        refine (sv_iload_n jM194 c194_43 rfl rfl).trans ?_
        refine (sv_iast jM194 c194_44 rfl wi_87).trans ?_
        refine jif _ rfl ?_
        refine (sv_aload_n jM194 c194_45 rfl rfl).trans ?_
        refine (sv_getf jM194 c194_46 rfl lf_9_89 (fg_61_38 _)).trans ?_
        refine (sv_aload_n jM194 c194_49 rfl rfl).trans ?_
        refine (sv_getf jM194 c194_50 rfl lf_9_147 (fg_61_36 _)).trans ?_
        refine (sv_iload_n jM194 c194_53 rfl rfl).trans ?_
        refine (sv_iast jM194 c194_54 rfl wi_88).trans ?_
        refine jif _ rfl ?_
        refine (sv_aload_n jM194 c194_55 rfl rfl).trans ?_
        refine (sv_dup jM194 c194_56 rfl rfl).trans ?_
        refine (sv_getf jM194 c194_57 rfl lf_9_147 (fg_61_36 _)).trans ?_
        refine (sv_iconst jM194 c194_60 rfl (v := 1) (by decide +kernel)).trans ?_
        refine (sv_iadd jM194 c194_61 rfl).trans ?_
        refine (sv_putf jM194 c194_62 rfl lf_9_147 (pf_61_36 _ _)).trans ?_
        refine (sv_aload_n jM194 c194_65 rfl rfl).trans ?_
        refine (sv_getf jM194 c194_66 rfl lf_9_147 (fg_61_36 _)).trans ?_
        exact sv_iret jM194 c194_69 rfl rfl
      ·
        refine (sv_bipush jM194 c194_32 rfl (v := -4) (by decide +kernel)).trans ?_
        exact sv_iret jM194 c194_34 rfl rfl
    ·
      refine (sv_bipush jM194 c194_20 rfl (v := -2) (by decide +kernel)).trans ?_
      exact sv_iret jM194 c194_22 rfl rfl
set_option maxRecDepth 20000 in
set_option maxHeartbeats 4000000 in
theorem M_fits_in (x1 : Int32) (σ : jm_S) : jc 195 [(.ref 61), (.int x1)] σ = jbi (jc 120 [(.long x1.toInt64), (.long (0 : Int64)), (.long (4 : Int64))] σ) (fun r1 τ1 => (if r1 = 0 then some (some (.int (-2 : Int32)), τ1) else jbi (jc 196 [(.ref 61), (.int x1)] τ1) (fun r2 τ2 => some (some (.int r2), τ2)))) := by
  refine (jc_of (ls1 := [some (.ref 61), some (.int x1)]) ((jm_ini_of jM195).trans rfl)).trans ?_
  refine (sv_iload_n jM195 c195_0 rfl rfl).trans ?_
  refine (sv_i2l jM195 c195_1 rfl).trans ?_
  refine (sv_lconst jM195 c195_2 rfl (v := 0) (by decide +kernel)).trans ?_
  refine (sv_ldc2 jM195 c195_3 rfl ll_9_330).trans ?_
  refine (sv_callsi (pl := 0) jM195 c195_6 rfl (jm_call_s (as := [(.long x1.toInt64), (.long (0 : Int64)), (.long (4 : Int64))]) (rest := []) lm_9_95 rfl jM120 rfl rfl rfl rfl) jM120 rfl (Or.inr rfl)).trans ?_
  refine jbi_c (fun r1 τ1 => ?_)
  refine (sv_if_eq jM195 c195_9 rfl (t := 20) (by decide +kernel)).trans ?_
  refine jif _ ?_ ?_
  ·
    refine (sv_bipush jM195 c195_20 rfl (v := -2) (by decide +kernel)).trans ?_
    exact sv_iret jM195 c195_22 rfl rfl
  ·
    refine (sv_aload_n jM195 c195_12 rfl rfl).trans ?_
    refine (sv_iload_n jM195 c195_13 rfl rfl).trans ?_
    refine (sv_callvi (pl := 0) jM195 c195_14 rfl (jm_call_v (a := 61) (as := [(.int x1)]) (rest := []) lm_9_332 rfl jM196 rfl rfl rfl rfl rfl) jM196 rfl (Or.inl rfl)).trans ?_
    refine jbi_c (fun r2 τ2 => ?_)
    refine (sv_goto jM195 c195_17 rfl (t := 22) (by decide +kernel)).trans ?_
    exact sv_iret jM195 c195_22 rfl rfl
set_option maxRecDepth 20000 in
set_option maxHeartbeats 4000000 in
theorem M_write_in (x1 : Int32) (x2 : Int32) (σ : jm_S) : jc 198 [(.ref 61), (.int x1), (.int x2)] σ = jbi (jc 120 [(.long x1.toInt64), (.long (0 : Int64)), (.long (199 : Int64))] σ) (fun r1 τ1 => (if r1 = 0 then some (some (.int (-2 : Int32)), τ1) else jbi (jc 119 [(.int x2)] τ1) (fun r2 τ2 => (if ¬ r2 = 0 then (if x2 < 0 ∨ 4 ≤ x2.toNatClampNeg then none else (if 0 ≤ (τ2 62 x2.toNatClampNeg) then jbv (jc 150 [(.ref 61)] τ2) (fun τ3 => jbv (jc 151 [(.ref 61), (.int (200 : Int32))] τ3) (fun τ4 => (if x2 < 0 ∨ 4 ≤ x2.toNatClampNeg then none else (if ((200 : Int32) - x1) ≤ (τ4 63 x2.toNatClampNeg) then jv 198 80 [some (.ref 61), some (.int x1), some (.int x2), some (.int ((200 : Int32) - x1)), some (.int (0 : Int32))] [] τ4 else (if x2 < 0 ∨ 4 ≤ x2.toNatClampNeg then none else jv 198 80 [some (.ref 61), some (.int x1), some (.int x2), some (.int (τ4 63 x2.toNatClampNeg)), some (.int (0 : Int32))] [] τ4))))) else jbi (jc 121 [(.ref 61), (.int (1 : Int32))] τ2) (fun r5 τ5 => some (some (.int r5), τ5)))) else some (some (.int (-2 : Int32)), τ2))))) := by
  refine (jc_of (ls1 := [some (.ref 61), some (.int x1), some (.int x2), none, none]) ((jm_ini_of jM198).trans rfl)).trans ?_
  refine (sv_iload_n jM198 c198_0 rfl rfl).trans ?_
  refine (sv_i2l jM198 c198_1 rfl).trans ?_
  refine (sv_lconst jM198 c198_2 rfl (v := 0) (by decide +kernel)).trans ?_
  refine (sv_ldc2 jM198 c198_3 rfl ll_9_204).trans ?_
  refine (sv_callsi (pl := 0) jM198 c198_6 rfl (jm_call_s (as := [(.long x1.toInt64), (.long (0 : Int64)), (.long (199 : Int64))]) (rest := []) lm_9_95 rfl jM120 rfl rfl rfl rfl) jM120 rfl (Or.inr rfl)).trans ?_
  refine jbi_c (fun r1 τ1 => ?_)
  refine (sv_if_eq jM198 c198_9 rfl (t := 19) (by decide +kernel)).trans ?_
  refine jif _ ?_ ?_
  ·
    refine (sv_bipush jM198 c198_19 rfl (v := -2) (by decide +kernel)).trans ?_
    exact sv_iret jM198 c198_21 rfl rfl
  ·
    refine (sv_iload_n jM198 c198_12 rfl rfl).trans ?_
    refine (sv_callsi (pl := 0) jM198 c198_13 rfl (jm_call_s (as := [(.int x2)]) (rest := []) lm_9_105 rfl jM119 rfl rfl rfl rfl) jM119 rfl (Or.inr rfl)).trans ?_
    refine jbi_c (fun r2 τ2 => ?_)
    refine (sv_if_ne jM198 c198_16 rfl (t := 22) (by decide +kernel)).trans ?_
    refine jif _ ?_ ?_
    ·
      refine (sv_aload_n jM198 c198_22 rfl rfl).trans ?_
      refine (sv_getf jM198 c198_23 rfl lf_9_7 (fg_61_0 _)).trans ?_
      refine (sv_iload_n jM198 c198_26 rfl rfl).trans ?_
      refine (sv_iald jM198 c198_27 rfl (ia_62 _)).trans ?_
      refine jif _ rfl ?_
      refine (sv_if_ge jM198 c198_28 rfl (t := 37) (by decide +kernel)).trans ?_
      refine jif _ ?_ ?_
      ·
        refine (sv_aload_n jM198 c198_37 rfl rfl).trans ?_
        refine (sv_callvv (pl := 0) jM198 c198_38 rfl (jm_call_v (a := 61) (as := []) (rest := []) lm_9_248 rfl jM150 rfl rfl rfl rfl rfl) jM150 rfl rfl).trans ?_
        refine jbv_c (fun τ3 => ?_)
        refine (sv_aload_n jM198 c198_41 rfl rfl).trans ?_
        refine (sv_sipush jM198 c198_42 rfl (v := 200) (by decide +kernel)).trans ?_
        refine (sv_callvv (pl := 0) jM198 c198_45 rfl (jm_call_v (a := 61) (as := [(.int (200 : Int32))]) (rest := []) lm_9_251 rfl jM151 rfl rfl rfl rfl rfl) jM151 rfl rfl).trans ?_
        refine jbv_c (fun τ4 => ?_)
        refine (sv_aload_n jM198 c198_48 rfl rfl).trans ?_
        refine (sv_getf jM198 c198_49 rfl lf_9_13 (fg_61_1 _)).trans ?_
        refine (sv_iload_n jM198 c198_52 rfl rfl).trans ?_
        refine (sv_iald jM198 c198_53 rfl (ia_63 _)).trans ?_
        refine jif _ rfl ?_
        refine (sv_sipush jM198 c198_54 rfl (v := 200) (by decide +kernel)).trans ?_
        refine (sv_iload_n jM198 c198_57 rfl rfl).trans ?_
        refine (sv_isub jM198 c198_58 rfl).trans ?_
        refine (sv_icmp_ge jM198 c198_59 rfl (t := 71) (by decide +kernel)).trans ?_
        refine jif _ ?_ ?_
        ·
          refine (sv_sipush jM198 c198_71 rfl (v := 200) (by decide +kernel)).trans ?_
          refine (sv_iload_n jM198 c198_74 rfl rfl).trans ?_
          refine (sv_isub jM198 c198_75 rfl).trans ?_
          refine (sv_istore_n (ls1 := [some (.ref 61), some (.int x1), some (.int x2), some (.int ((200 : Int32) - x1)), none]) jM198 c198_76 rfl (Nat.lt_of_lt_of_eq (by decide +kernel : 3 < 5) rfl) rfl).trans ?_
          refine (sv_iconst jM198 c198_77 rfl (v := 0) (by decide +kernel)).trans ?_
          refine (sv_istore (ls1 := [some (.ref 61), some (.int x1), some (.int x2), some (.int ((200 : Int32) - x1)), some (.int (0 : Int32))]) jM198 c198_78 rfl (Nat.lt_of_lt_of_eq (by decide +kernel : 4 < 5) rfl) rfl).trans ?_
          rfl
        ·
          refine (sv_aload_n jM198 c198_62 rfl rfl).trans ?_
          refine (sv_getf jM198 c198_63 rfl lf_9_13 (fg_61_1 _)).trans ?_
          refine (sv_iload_n jM198 c198_66 rfl rfl).trans ?_
          refine (sv_iald jM198 c198_67 rfl (ia_63 _)).trans ?_
          refine jif _ rfl ?_
          refine (sv_goto jM198 c198_68 rfl (t := 76) (by decide +kernel)).trans ?_
          refine (sv_istore_n (ls1 := [some (.ref 61), some (.int x1), some (.int x2), some (.int (τ4 63 x2.toNatClampNeg)), none]) jM198 c198_76 rfl (Nat.lt_of_lt_of_eq (by decide +kernel : 3 < 5) rfl) rfl).trans ?_
          refine (sv_iconst jM198 c198_77 rfl (v := 0) (by decide +kernel)).trans ?_
          refine (sv_istore (ls1 := [some (.ref 61), some (.int x1), some (.int x2), some (.int (τ4 63 x2.toNatClampNeg)), some (.int (0 : Int32))]) jM198 c198_78 rfl (Nat.lt_of_lt_of_eq (by decide +kernel : 4 < 5) rfl) rfl).trans ?_
          rfl
      ·
        refine (sv_aload_n jM198 c198_31 rfl rfl).trans ?_
        refine (sv_iconst jM198 c198_32 rfl (v := 1) (by decide +kernel)).trans ?_
        refine (sv_callvi (pl := 0) jM198 c198_33 rfl (jm_call_v (a := 61) (as := [(.int (1 : Int32))]) (rest := []) lm_9_111 rfl jM121 rfl rfl rfl rfl rfl) jM121 rfl (Or.inl rfl)).trans ?_
        refine jbi_c (fun r5 τ5 => ?_)
        exact sv_iret jM198 c198_36 rfl rfl
    ·
      refine (sv_bipush jM198 c198_19 rfl (v := -2) (by decide +kernel)).trans ?_
      exact sv_iret jM198 c198_21 rfl rfl
set_option maxRecDepth 20000 in
set_option maxHeartbeats 4000000 in
theorem M_write_L80 (x1 : Int32) (x2 : Int32) (x3 : Int32) (x4 : Int32) (σ : jm_S) : jv 198 80 [some (.ref 61), some (.int x1), some (.int x2), some (.int x3), some (.int x4)] [] σ = (if x3 ≤ x4 then some (some (.int x3), σ) else (if x2 < 0 ∨ 4 ≤ x2.toNatClampNeg then none else (if (x1 + x4) < 0 ∨ 200 ≤ (x1 + x4).toNatClampNeg then none else jbi (jc 125 [(.int (σ 62 x2.toNatClampNeg)), (.int (σ 84 (x1 + x4).toNatClampNeg))] σ) (fun r1 τ1 => (if (((60 : Int32) * x2) + x4) < 0 ∨ 240 ≤ (((60 : Int32) * x2) + x4).toNatClampNeg then none else jv 198 80 [some (.ref 61), some (.int x1), some (.int x2), some (.int x3), some (.int (x4 + 1))] [] (jm_up τ1 64 (((60 : Int32) * x2) + x4).toNatClampNeg r1)))))) := by
  refine (sv_iload jM198 c198_80 rfl rfl).trans ?_
  refine (sv_iload_n jM198 c198_82 rfl rfl).trans ?_
  refine (sv_icmp_ge jM198 c198_83 rfl (t := 122) (by decide +kernel)).trans ?_
  refine jif _ ?_ ?_
  ·
    refine (sv_iload_n jM198 c198_122 rfl rfl).trans ?_
    exact sv_iret jM198 c198_123 rfl rfl
  ·
    refine (sv_aload_n jM198 c198_86 rfl rfl).trans ?_
    refine (sv_getf jM198 c198_87 rfl lf_9_16 (fg_61_2 _)).trans ?_
    refine (sv_bipush jM198 c198_90 rfl (v := 60) (by decide +kernel)).trans ?_
    refine (sv_iload_n jM198 c198_92 rfl rfl).trans ?_
    refine (sv_imul jM198 c198_93 rfl).trans ?_
    refine (sv_iload jM198 c198_94 rfl rfl).trans ?_
    refine (sv_iadd jM198 c198_96 rfl).trans ?_
    refine (sv_aload_n jM198 c198_97 rfl rfl).trans ?_
    refine (sv_getf jM198 c198_98 rfl lf_9_7 (fg_61_0 _)).trans ?_
    refine (sv_iload_n jM198 c198_101 rfl rfl).trans ?_
    refine (sv_iald jM198 c198_102 rfl (ia_62 _)).trans ?_
    refine jif _ rfl ?_
    refine (sv_aload_n jM198 c198_103 rfl rfl).trans ?_
    refine (sv_getf jM198 c198_104 rfl lf_9_77 (fg_61_33 _)).trans ?_
    refine (sv_iload_n jM198 c198_107 rfl rfl).trans ?_
    refine (sv_iload jM198 c198_108 rfl rfl).trans ?_
    refine (sv_iadd jM198 c198_110 rfl).trans ?_
    refine (sv_iald jM198 c198_111 rfl (ia_84 _)).trans ?_
    refine jif _ rfl ?_
    refine (sv_callsi (pl := 0) jM198 c198_112 rfl (jm_call_s (as := [(.int (σ 62 x2.toNatClampNeg)), (.int (σ 84 (x1 + x4).toNatClampNeg))]) (rest := [(.int (((60 : Int32) * x2) + x4)), (.ref 64)]) lm_9_119 rfl jM125 rfl rfl rfl rfl) jM125 rfl (Or.inl rfl)).trans ?_
    refine jbi_c (fun r1 τ1 => ?_)
    refine (sv_iast jM198 c198_115 rfl wi_64).trans ?_
    refine jif _ rfl ?_
    refine (sv_iinc (ls1 := [some (.ref 61), some (.int x1), some (.int x2), some (.int x3), some (.int (x4 + 1))]) jM198 c198_116 rfl rfl (v := 1) (by decide +kernel) rfl).trans ?_
    refine (sv_goto jM198 c198_119 rfl (t := 80) (by decide +kernel)).trans ?_
    rfl
set_option maxRecDepth 20000 in
set_option maxHeartbeats 4000000 in
theorem M_count_in (x1 : Int32) (σ : jm_S) : jc 199 [(.ref 61), (.int x1)] σ = jv 199 3 [some (.ref 61), some (.int x1), some (.int (0 : Int32)), none] [(.int x1)] σ := by
  refine (jc_of (ls1 := [some (.ref 61), some (.int x1), none, none]) ((jm_ini_of jM199).trans rfl)).trans ?_
  refine (sv_iconst jM199 c199_0 rfl (v := 0) (by decide +kernel)).trans ?_
  refine (sv_istore_n (ls1 := [some (.ref 61), some (.int x1), some (.int (0 : Int32)), none]) jM199 c199_1 rfl (Nat.lt_of_lt_of_eq (by decide +kernel : 2 < 4) rfl) rfl).trans ?_
  refine (sv_iload_n jM199 c199_2 rfl rfl).trans ?_
  rfl
set_option maxRecDepth 20000 in
set_option maxHeartbeats 4000000 in
theorem M_count_S3_0 (x1 : Int32) (x2 : Int32) (σ : jm_S) : jv 199 3 [some (.ref 61), some (.int x1), some (.int x2), none] [(.int (0 : Int32))] σ = some (some (.int (σ 61 5)), σ) := by
  refine (sv_ts jM199 c199_3 rfl (by decide +kernel) (z := 49) (by decide +kernel) (t := 52) (by decide +kernel)).trans ?_
  refine (sv_aload_n jM199 c199_52 rfl rfl).trans ?_
  refine (sv_getf jM199 c199_53 rfl lf_9_124 (fg_61_5 _)).trans ?_
  exact sv_iret jM199 c199_56 rfl rfl
set_option maxRecDepth 20000 in
set_option maxHeartbeats 4000000 in
theorem M_count_S3_1 (x1 : Int32) (x2 : Int32) (σ : jm_S) : jv 199 3 [some (.ref 61), some (.int x1), some (.int x2), none] [(.int (1 : Int32))] σ = (if (x1 - (1 : Int32)) < 0 ∨ 4 ≤ (x1 - (1 : Int32)).toNatClampNeg then none else some (some (.int (σ 70 (x1 - (1 : Int32)).toNatClampNeg)), σ)) := by
  refine (sv_ts jM199 c199_3 rfl (by decide +kernel) (z := 54) (by decide +kernel) (t := 57) (by decide +kernel)).trans ?_
  refine (sv_aload_n jM199 c199_57 rfl rfl).trans ?_
  refine (sv_getf jM199 c199_58 rfl lf_9_34 (fg_61_10 _)).trans ?_
  refine (sv_iload_n jM199 c199_61 rfl rfl).trans ?_
  refine (sv_iconst jM199 c199_62 rfl (v := 1) (by decide +kernel)).trans ?_
  refine (sv_isub jM199 c199_63 rfl).trans ?_
  refine (sv_iald jM199 c199_64 rfl (ia_70 _)).trans ?_
  refine jif _ rfl ?_
  exact sv_iret jM199 c199_65 rfl rfl
set_option maxRecDepth 20000 in
set_option maxHeartbeats 4000000 in
theorem M_count_S3_2 (x1 : Int32) (x2 : Int32) (σ : jm_S) : jv 199 3 [some (.ref 61), some (.int x1), some (.int x2), none] [(.int (2 : Int32))] σ = (if (x1 - (1 : Int32)) < 0 ∨ 4 ≤ (x1 - (1 : Int32)).toNatClampNeg then none else some (some (.int (σ 70 (x1 - (1 : Int32)).toNatClampNeg)), σ)) := by
  refine (sv_ts jM199 c199_3 rfl (by decide +kernel) (z := 54) (by decide +kernel) (t := 57) (by decide +kernel)).trans ?_
  refine (sv_aload_n jM199 c199_57 rfl rfl).trans ?_
  refine (sv_getf jM199 c199_58 rfl lf_9_34 (fg_61_10 _)).trans ?_
  refine (sv_iload_n jM199 c199_61 rfl rfl).trans ?_
  refine (sv_iconst jM199 c199_62 rfl (v := 1) (by decide +kernel)).trans ?_
  refine (sv_isub jM199 c199_63 rfl).trans ?_
  refine (sv_iald jM199 c199_64 rfl (ia_70 _)).trans ?_
  refine jif _ rfl ?_
  exact sv_iret jM199 c199_65 rfl rfl
set_option maxRecDepth 20000 in
set_option maxHeartbeats 4000000 in
theorem M_count_S3_3 (x1 : Int32) (x2 : Int32) (σ : jm_S) : jv 199 3 [some (.ref 61), some (.int x1), some (.int x2), none] [(.int (3 : Int32))] σ = (if (x1 - (1 : Int32)) < 0 ∨ 4 ≤ (x1 - (1 : Int32)).toNatClampNeg then none else some (some (.int (σ 70 (x1 - (1 : Int32)).toNatClampNeg)), σ)) := by
  refine (sv_ts jM199 c199_3 rfl (by decide +kernel) (z := 54) (by decide +kernel) (t := 57) (by decide +kernel)).trans ?_
  refine (sv_aload_n jM199 c199_57 rfl rfl).trans ?_
  refine (sv_getf jM199 c199_58 rfl lf_9_34 (fg_61_10 _)).trans ?_
  refine (sv_iload_n jM199 c199_61 rfl rfl).trans ?_
  refine (sv_iconst jM199 c199_62 rfl (v := 1) (by decide +kernel)).trans ?_
  refine (sv_isub jM199 c199_63 rfl).trans ?_
  refine (sv_iald jM199 c199_64 rfl (ia_70 _)).trans ?_
  refine jif _ rfl ?_
  exact sv_iret jM199 c199_65 rfl rfl
set_option maxRecDepth 20000 in
set_option maxHeartbeats 4000000 in
theorem M_count_S3_4 (x1 : Int32) (x2 : Int32) (σ : jm_S) : jv 199 3 [some (.ref 61), some (.int x1), some (.int x2), none] [(.int (4 : Int32))] σ = (if (x1 - (1 : Int32)) < 0 ∨ 4 ≤ (x1 - (1 : Int32)).toNatClampNeg then none else some (some (.int (σ 70 (x1 - (1 : Int32)).toNatClampNeg)), σ)) := by
  refine (sv_ts jM199 c199_3 rfl (by decide +kernel) (z := 54) (by decide +kernel) (t := 57) (by decide +kernel)).trans ?_
  refine (sv_aload_n jM199 c199_57 rfl rfl).trans ?_
  refine (sv_getf jM199 c199_58 rfl lf_9_34 (fg_61_10 _)).trans ?_
  refine (sv_iload_n jM199 c199_61 rfl rfl).trans ?_
  refine (sv_iconst jM199 c199_62 rfl (v := 1) (by decide +kernel)).trans ?_
  refine (sv_isub jM199 c199_63 rfl).trans ?_
  refine (sv_iald jM199 c199_64 rfl (ia_70 _)).trans ?_
  refine jif _ rfl ?_
  exact sv_iret jM199 c199_65 rfl rfl
set_option maxRecDepth 20000 in
set_option maxHeartbeats 4000000 in
theorem M_count_S3_5 (x1 : Int32) (x2 : Int32) (σ : jm_S) : jv 199 3 [some (.ref 61), some (.int x1), some (.int x2), none] [(.int (5 : Int32))] σ = jbi (jc 141 [(.ref 61)] σ) (fun r1 τ1 => some (some (.int (τ1 61 15)), τ1)) := by
  refine (sv_ts jM199 c199_3 rfl (by decide +kernel) (z := 63) (by decide +kernel) (t := 66) (by decide +kernel)).trans ?_
  refine (sv_aload_n jM199 c199_66 rfl rfl).trans ?_
  refine (sv_callvi (pl := 0) jM199 c199_67 rfl (jm_call_v (a := 61) (as := []) (rest := []) lm_9_194 rfl jM141 rfl rfl rfl rfl rfl) jM141 rfl (Or.inl rfl)).trans ?_
  refine jbi_c (fun r1 τ1 => ?_)
  refine (sv_pop jM199 c199_70 rfl rfl).trans ?_
  refine (sv_aload_n jM199 c199_71 rfl rfl).trans ?_
  refine (sv_getf jM199 c199_72 rfl lf_9_169 (fg_61_15 _)).trans ?_
  exact sv_iret jM199 c199_75 rfl rfl
set_option maxRecDepth 20000 in
set_option maxHeartbeats 4000000 in
theorem M_count_S3_6 (x1 : Int32) (x2 : Int32) (σ : jm_S) : jv 199 3 [some (.ref 61), some (.int x1), some (.int x2), none] [(.int (6 : Int32))] σ = some (some (.int (σ 61 36)), σ) := by
  refine (sv_ts jM199 c199_3 rfl (by decide +kernel) (z := 73) (by decide +kernel) (t := 76) (by decide +kernel)).trans ?_
  refine (sv_aload_n jM199 c199_76 rfl rfl).trans ?_
  refine (sv_getf jM199 c199_77 rfl lf_9_147 (fg_61_36 _)).trans ?_
  exact sv_iret jM199 c199_80 rfl rfl
set_option maxRecDepth 20000 in
set_option maxHeartbeats 4000000 in
theorem M_count_S3_7 (x1 : Int32) (x2 : Int32) (σ : jm_S) : jv 199 3 [some (.ref 61), some (.int x1), some (.int x2), none] [(.int (7 : Int32))] σ = jv 199 83 [some (.ref 61), some (.int x1), some (.int x2), some (.int (0 : Int32))] [] σ := by
  refine (sv_ts jM199 c199_3 rfl (by decide +kernel) (z := 78) (by decide +kernel) (t := 81) (by decide +kernel)).trans ?_
  refine (sv_iconst jM199 c199_81 rfl (v := 0) (by decide +kernel)).trans ?_
  refine (sv_istore_n (ls1 := [some (.ref 61), some (.int x1), some (.int x2), some (.int (0 : Int32))]) jM199 c199_82 rfl (Nat.lt_of_lt_of_eq (by decide +kernel : 3 < 4) rfl) rfl).trans ?_
  rfl
set_option maxRecDepth 20000 in
set_option maxHeartbeats 4000000 in
theorem M_count_S3_8 (x1 : Int32) (x2 : Int32) (σ : jm_S) : jv 199 3 [some (.ref 61), some (.int x1), some (.int x2), none] [(.int (8 : Int32))] σ = some (some (.int (σ 61 4)), σ) := by
  refine (sv_ts jM199 c199_3 rfl (by decide +kernel) (z := 107) (by decide +kernel) (t := 110) (by decide +kernel)).trans ?_
  refine (sv_aload_n jM199 c199_110 rfl rfl).trans ?_
  refine (sv_getf jM199 c199_111 rfl lf_9_99 (fg_61_4 _)).trans ?_
  exact sv_iret jM199 c199_114 rfl rfl
set_option maxRecDepth 20000 in
set_option maxHeartbeats 4000000 in
theorem M_count_S3_o (x1 : Int32) (x2 : Int32) (y0 : Int32) (σ : jm_S) (hx : y0.toInt < 0 ∨ 8 < y0.toInt) : jv 199 3 [some (.ref 61), some (.int x1), some (.int x2), none] [(.int y0)] σ = some (some (.int (-2 : Int32)), σ) := by
  refine (sv_tso jM199 c199_3 rfl (t := 115) (by decide +kernel) hx).trans ?_
  refine (sv_bipush jM199 c199_115 rfl (v := -2) (by decide +kernel)).trans ?_
  exact sv_iret jM199 c199_117 rfl rfl
set_option maxRecDepth 20000 in
set_option maxHeartbeats 4000000 in
theorem M_count_L83 (x1 : Int32) (x2 : Int32) (x3 : Int32) (σ : jm_S) : jv 199 83 [some (.ref 61), some (.int x1), some (.int x2), some (.int x3)] [] σ = (if (σ 61 5) ≤ x3 then some (some (.int x2), σ) else (if ((4 : Int32) * x3) < 0 ∨ 48 ≤ ((4 : Int32) * x3).toNatClampNeg then none else jv 199 83 [some (.ref 61), some (.int x1), some (.int (x2 + (σ 67 ((4 : Int32) * x3).toNatClampNeg))), some (.int (x3 + 1))] [] σ)) := by
  refine (sv_iload_n jM199 c199_83 rfl rfl).trans ?_
  refine (sv_aload_n jM199 c199_84 rfl rfl).trans ?_
  refine (sv_getf jM199 c199_85 rfl lf_9_124 (fg_61_5 _)).trans ?_
  refine (sv_icmp_ge jM199 c199_88 rfl (t := 108) (by decide +kernel)).trans ?_
  refine jif _ ?_ ?_
  ·
    refine (sv_iload_n jM199 c199_108 rfl rfl).trans ?_
    exact sv_iret jM199 c199_109 rfl rfl
  ·
    refine (sv_iload_n jM199 c199_91 rfl rfl).trans ?_
    refine (sv_aload_n jM199 c199_92 rfl rfl).trans ?_
    refine (sv_getf jM199 c199_93 rfl lf_9_25 (fg_61_7 _)).trans ?_
    refine (sv_iconst jM199 c199_96 rfl (v := 4) (by decide +kernel)).trans ?_
    refine (sv_iload_n jM199 c199_97 rfl rfl).trans ?_
    refine (sv_imul jM199 c199_98 rfl).trans ?_
    refine (sv_iald jM199 c199_99 rfl (ia_67 _)).trans ?_
    refine jif _ rfl ?_
    refine (sv_iadd jM199 c199_100 rfl).trans ?_
    refine (sv_istore_n (ls1 := [some (.ref 61), some (.int x1), some (.int (x2 + (σ 67 ((4 : Int32) * x3).toNatClampNeg))), some (.int x3)]) jM199 c199_101 rfl (Nat.lt_of_lt_of_eq (by decide +kernel : 2 < 4) rfl) rfl).trans ?_
    refine (sv_iinc (ls1 := [some (.ref 61), some (.int x1), some (.int (x2 + (σ 67 ((4 : Int32) * x3).toNatClampNeg))), some (.int (x3 + 1))]) jM199 c199_102 rfl rfl (v := 1) (by decide +kernel) rfl).trans ?_
    refine (sv_goto jM199 c199_105 rfl (t := 83) (by decide +kernel)).trans ?_
    rfl
set_option maxRecDepth 20000 in
set_option maxHeartbeats 4000000 in
theorem M_digest_in (σ : jm_S) : jc 200 [(.ref 61)] σ = jv 200 6 [some (.ref 61), some (.long (17 : Int64)), none, some (.int (0 : Int32)), none] [] σ := by
  refine (jc_of (ls1 := [some (.ref 61), none, none, none, none]) ((jm_ini_of jM200).trans rfl)).trans ?_
  refine (sv_ldc2 jM200 c200_0 rfl ll_9_335).trans ?_
  refine (sv_lstore_n (ls1 := [some (.ref 61), some (.long (17 : Int64)), none, none, none]) jM200 c200_3 rfl (Nat.lt_of_lt_of_eq (by decide +kernel : 1 + 1 < 5) rfl) rfl).trans ?_
  refine (sv_iconst jM200 c200_4 rfl (v := 0) (by decide +kernel)).trans ?_
  refine (sv_istore_n (ls1 := [some (.ref 61), some (.long (17 : Int64)), none, some (.int (0 : Int32)), none]) jM200 c200_5 rfl (Nat.lt_of_lt_of_eq (by decide +kernel : 3 < 5) rfl) rfl).trans ?_
  rfl
set_option maxRecDepth 20000 in
set_option maxHeartbeats 4000000 in
theorem M_digest_L6 (x1 : Int64) (x3 : Int32) (σ : jm_S) : jv 200 6 [some (.ref 61), some (.long x1), none, some (.int x3), none] [] σ = (if (8 : Int32) ≤ x3 then jv 200 33 [some (.ref 61), some (.long x1), none, some (.int (0 : Int32)), none] [] σ else jbi (jc 199 [(.ref 61), (.int x3)] σ) (fun r1 τ1 => jv 200 6 [some (.ref 61), some (.long (((31 : Int64) * x1) + r1.toInt64)), none, some (.int (x3 + 1)), none] [] τ1)) := by
  refine (sv_iload_n jM200 c200_6 rfl rfl).trans ?_
  refine (sv_bipush jM200 c200_7 rfl (v := 8) (by decide +kernel)).trans ?_
  refine (sv_icmp_ge jM200 c200_9 rfl (t := 31) (by decide +kernel)).trans ?_
  refine jif _ ?_ ?_
  ·
    refine (sv_iconst jM200 c200_31 rfl (v := 0) (by decide +kernel)).trans ?_
    refine (sv_istore_n (ls1 := [some (.ref 61), some (.long x1), none, some (.int (0 : Int32)), none]) jM200 c200_32 rfl (Nat.lt_of_lt_of_eq (by decide +kernel : 3 < 5) rfl) rfl).trans ?_
    rfl
  ·
    refine (sv_ldc2 jM200 c200_12 rfl ll_9_337).trans ?_
    refine (sv_lload_n jM200 c200_15 rfl rfl).trans ?_
    refine (sv_lmul jM200 c200_16 rfl).trans ?_
    refine (sv_aload_n jM200 c200_17 rfl rfl).trans ?_
    refine (sv_iload_n jM200 c200_18 rfl rfl).trans ?_
    refine (sv_callvi (pl := 0) jM200 c200_19 rfl (jm_call_v (a := 61) (as := [(.int x3)]) (rest := [(.long ((31 : Int64) * x1))]) lm_9_339 rfl jM199 rfl rfl rfl rfl rfl) jM199 rfl (Or.inl rfl)).trans ?_
    refine jbi_c (fun r1 τ1 => ?_)
    refine (sv_i2l jM200 c200_22 rfl).trans ?_
    refine (sv_ladd jM200 c200_23 rfl).trans ?_
    refine (sv_lstore_n (ls1 := [some (.ref 61), some (.long (((31 : Int64) * x1) + r1.toInt64)), none, some (.int x3), none]) jM200 c200_24 rfl (Nat.lt_of_lt_of_eq (by decide +kernel : 1 + 1 < 5) rfl) rfl).trans ?_
    refine (sv_iinc (ls1 := [some (.ref 61), some (.long (((31 : Int64) * x1) + r1.toInt64)), none, some (.int (x3 + 1)), none]) jM200 c200_25 rfl rfl (v := 1) (by decide +kernel) rfl).trans ?_
    refine (sv_goto jM200 c200_28 rfl (t := 6) (by decide +kernel)).trans ?_
    rfl
set_option maxRecDepth 20000 in
set_option maxHeartbeats 4000000 in
theorem M_digest_L33 (x1 : Int64) (x3 : Int32) (σ : jm_S) : jv 200 33 [some (.ref 61), some (.long x1), none, some (.int x3), none] [] σ = (if (4 : Int32) ≤ x3 then jbv (jc 150 [(.ref 61)] σ) (fun τ1 => jbv (jc 151 [(.ref 61), (.int (100 : Int32))] τ1) (fun τ2 => jv 200 69 [some (.ref 61), some (.long x1), none, some (.int (0 : Int32)), none] [] τ2)) else jbi (jc 140 [(.ref 61), (.int x3)] σ) (fun r3 τ3 => jv 200 33 [some (.ref 61), some (.long (((31 : Int64) * x1) + r3.toInt64)), none, some (.int (x3 + 1)), none] [] τ3)) := by
  refine (sv_iload_n jM200 c200_33 rfl rfl).trans ?_
  refine (sv_iconst jM200 c200_34 rfl (v := 4) (by decide +kernel)).trans ?_
  refine (sv_icmp_ge jM200 c200_35 rfl (t := 57) (by decide +kernel)).trans ?_
  refine jif _ ?_ ?_
  ·
    refine (sv_aload_n jM200 c200_57 rfl rfl).trans ?_
    refine (sv_callvv (pl := 0) jM200 c200_58 rfl (jm_call_v (a := 61) (as := []) (rest := []) lm_9_248 rfl jM150 rfl rfl rfl rfl rfl) jM150 rfl rfl).trans ?_
    refine jbv_c (fun τ1 => ?_)
    refine (sv_aload_n jM200 c200_61 rfl rfl).trans ?_
    refine (sv_bipush jM200 c200_62 rfl (v := 100) (by decide +kernel)).trans ?_
    refine (sv_callvv (pl := 0) jM200 c200_64 rfl (jm_call_v (a := 61) (as := [(.int (100 : Int32))]) (rest := []) lm_9_251 rfl jM151 rfl rfl rfl rfl rfl) jM151 rfl rfl).trans ?_
    refine jbv_c (fun τ2 => ?_)
    refine (sv_iconst jM200 c200_67 rfl (v := 0) (by decide +kernel)).trans ?_
    refine (sv_istore_n (ls1 := [some (.ref 61), some (.long x1), none, some (.int (0 : Int32)), none]) jM200 c200_68 rfl (Nat.lt_of_lt_of_eq (by decide +kernel : 3 < 5) rfl) rfl).trans ?_
    rfl
  ·
    refine (sv_ldc2 jM200 c200_38 rfl ll_9_337).trans ?_
    refine (sv_lload_n jM200 c200_41 rfl rfl).trans ?_
    refine (sv_lmul jM200 c200_42 rfl).trans ?_
    refine (sv_aload_n jM200 c200_43 rfl rfl).trans ?_
    refine (sv_iload_n jM200 c200_44 rfl rfl).trans ?_
    refine (sv_callvi (pl := 0) jM200 c200_45 rfl (jm_call_v (a := 61) (as := [(.int x3)]) (rest := [(.long ((31 : Int64) * x1))]) lm_9_201 rfl jM140 rfl rfl rfl rfl rfl) jM140 rfl (Or.inl rfl)).trans ?_
    refine jbi_c (fun r3 τ3 => ?_)
    refine (sv_i2l jM200 c200_48 rfl).trans ?_
    refine (sv_ladd jM200 c200_49 rfl).trans ?_
    refine (sv_lstore_n (ls1 := [some (.ref 61), some (.long (((31 : Int64) * x1) + r3.toInt64)), none, some (.int x3), none]) jM200 c200_50 rfl (Nat.lt_of_lt_of_eq (by decide +kernel : 1 + 1 < 5) rfl) rfl).trans ?_
    refine (sv_iinc (ls1 := [some (.ref 61), some (.long (((31 : Int64) * x1) + r3.toInt64)), none, some (.int (x3 + 1)), none]) jM200 c200_51 rfl rfl (v := 1) (by decide +kernel) rfl).trans ?_
    refine (sv_goto jM200 c200_54 rfl (t := 33) (by decide +kernel)).trans ?_
    rfl
set_option maxRecDepth 20000 in
set_option maxHeartbeats 4000000 in
theorem M_digest_L69 (x1 : Int64) (x3 : Int32) (u4 : Option Value) (σ : jm_S) : jv 200 69 [some (.ref 61), some (.long x1), none, some (.int x3), u4] [] σ = (if (σ 61 5) ≤ x3 then jv 200 116 [some (.ref 61), some (.long x1), none, some (.int (0 : Int32)), u4] [] σ else jv 200 80 [some (.ref 61), some (.long x1), none, some (.int x3), some (.int (0 : Int32))] [] σ) := by
  refine (sv_iload_n jM200 c200_69 rfl rfl).trans ?_
  refine (sv_aload_n jM200 c200_70 rfl rfl).trans ?_
  refine (sv_getf jM200 c200_71 rfl lf_9_124 (fg_61_5 _)).trans ?_
  refine (sv_icmp_ge jM200 c200_74 rfl (t := 114) (by decide +kernel)).trans ?_
  refine jif _ ?_ ?_
  ·
    refine (sv_iconst jM200 c200_114 rfl (v := 0) (by decide +kernel)).trans ?_
    refine (sv_istore_n (ls1 := [some (.ref 61), some (.long x1), none, some (.int (0 : Int32)), u4]) jM200 c200_115 rfl (Nat.lt_of_lt_of_eq (by decide +kernel : 3 < 5) rfl) rfl).trans ?_
    rfl
  ·
    refine (sv_iconst jM200 c200_77 rfl (v := 0) (by decide +kernel)).trans ?_
    refine (sv_istore (ls1 := [some (.ref 61), some (.long x1), none, some (.int x3), some (.int (0 : Int32))]) jM200 c200_78 rfl (Nat.lt_of_lt_of_eq (by decide +kernel : 4 < 5) rfl) rfl).trans ?_
    rfl
set_option maxRecDepth 20000 in
set_option maxHeartbeats 4000000 in
theorem M_digest_L80 (x1 : Int64) (x3 : Int32) (x4 : Int32) (σ : jm_S) : jv 200 80 [some (.ref 61), some (.long x1), none, some (.int x3), some (.int x4)] [] σ = (if (6 : Int32) ≤ x4 then jv 200 69 [some (.ref 61), some (.long x1), none, some (.int (x3 + 1)), some (.int x4)] [] σ else jbi (jc 160 [(.ref 61), (.int x3), (.int x4)] σ) (fun r1 τ1 => jv 200 80 [some (.ref 61), some (.long (((31 : Int64) * x1) + r1.toInt64)), none, some (.int x3), some (.int (x4 + 1))] [] τ1)) := by
  refine (sv_iload jM200 c200_80 rfl rfl).trans ?_
  refine (sv_bipush jM200 c200_82 rfl (v := 6) (by decide +kernel)).trans ?_
  refine (sv_icmp_ge jM200 c200_84 rfl (t := 108) (by decide +kernel)).trans ?_
  refine jif _ ?_ ?_
  ·
    refine (sv_iinc (ls1 := [some (.ref 61), some (.long x1), none, some (.int (x3 + 1)), some (.int x4)]) jM200 c200_108 rfl rfl (v := 1) (by decide +kernel) rfl).trans ?_
    refine (sv_goto jM200 c200_111 rfl (t := 69) (by decide +kernel)).trans ?_
    rfl
  ·
    refine (sv_ldc2 jM200 c200_87 rfl ll_9_337).trans ?_
    refine (sv_lload_n jM200 c200_90 rfl rfl).trans ?_
    refine (sv_lmul jM200 c200_91 rfl).trans ?_
    refine (sv_aload_n jM200 c200_92 rfl rfl).trans ?_
    refine (sv_iload_n jM200 c200_93 rfl rfl).trans ?_
    refine (sv_iload jM200 c200_94 rfl rfl).trans ?_
    refine (sv_callvi (pl := 0) jM200 c200_96 rfl (jm_call_v (a := 61) (as := [(.int x3), (.int x4)]) (rest := [(.long ((31 : Int64) * x1))]) lm_9_254 rfl jM160 rfl rfl rfl rfl rfl) jM160 rfl (Or.inl rfl)).trans ?_
    refine jbi_c (fun r1 τ1 => ?_)
    refine (sv_i2l jM200 c200_99 rfl).trans ?_
    refine (sv_ladd jM200 c200_100 rfl).trans ?_
    refine (sv_lstore_n (ls1 := [some (.ref 61), some (.long (((31 : Int64) * x1) + r1.toInt64)), none, some (.int x3), some (.int x4)]) jM200 c200_101 rfl (Nat.lt_of_lt_of_eq (by decide +kernel : 1 + 1 < 5) rfl) rfl).trans ?_
    refine (sv_iinc (ls1 := [some (.ref 61), some (.long (((31 : Int64) * x1) + r1.toInt64)), none, some (.int x3), some (.int (x4 + 1))]) jM200 c200_102 rfl rfl (v := 1) (by decide +kernel) rfl).trans ?_
    refine (sv_goto jM200 c200_105 rfl (t := 80) (by decide +kernel)).trans ?_
    rfl
set_option maxRecDepth 20000 in
set_option maxHeartbeats 4000000 in
theorem M_digest_L116 (x1 : Int64) (x3 : Int32) (u4 : Option Value) (σ : jm_S) : jv 200 116 [some (.ref 61), some (.long x1), none, some (.int x3), u4] [] σ = (if (3 : Int32) ≤ x3 then jbi (jc 173 [(.ref 61)] σ) (fun r1 τ1 => jv 200 172 [some (.ref 61), some (.long (((31 : Int64) * x1) + r1.toInt64)), none, some (.int (0 : Int32)), u4] [] τ1) else jv 200 124 [some (.ref 61), some (.long x1), none, some (.int x3), some (.int (0 : Int32))] [] σ) := by
  refine (sv_iload_n jM200 c200_116 rfl rfl).trans ?_
  refine (sv_iconst jM200 c200_117 rfl (v := 3) (by decide +kernel)).trans ?_
  refine (sv_icmp_ge jM200 c200_118 rfl (t := 158) (by decide +kernel)).trans ?_
  refine jif _ ?_ ?_
  ·
    refine (sv_ldc2 jM200 c200_158 rfl ll_9_337).trans ?_
    refine (sv_lload_n jM200 c200_161 rfl rfl).trans ?_
    refine (sv_lmul jM200 c200_162 rfl).trans ?_
    refine (sv_aload_n jM200 c200_163 rfl rfl).trans ?_
    refine (sv_callvi (pl := 0) jM200 c200_164 rfl (jm_call_v (a := 61) (as := []) (rest := [(.long ((31 : Int64) * x1))]) lm_9_285 rfl jM173 rfl rfl rfl rfl rfl) jM173 rfl (Or.inl rfl)).trans ?_
    refine jbi_c (fun r1 τ1 => ?_)
    refine (sv_i2l jM200 c200_167 rfl).trans ?_
    refine (sv_ladd jM200 c200_168 rfl).trans ?_
    refine (sv_lstore_n (ls1 := [some (.ref 61), some (.long (((31 : Int64) * x1) + r1.toInt64)), none, some (.int x3), u4]) jM200 c200_169 rfl (Nat.lt_of_lt_of_eq (by decide +kernel : 1 + 1 < 5) rfl) rfl).trans ?_
    refine (sv_iconst jM200 c200_170 rfl (v := 0) (by decide +kernel)).trans ?_
    refine (sv_istore_n (ls1 := [some (.ref 61), some (.long (((31 : Int64) * x1) + r1.toInt64)), none, some (.int (0 : Int32)), u4]) jM200 c200_171 rfl (Nat.lt_of_lt_of_eq (by decide +kernel : 3 < 5) rfl) rfl).trans ?_
    rfl
  ·
    refine (sv_iconst jM200 c200_121 rfl (v := 0) (by decide +kernel)).trans ?_
    refine (sv_istore (ls1 := [some (.ref 61), some (.long x1), none, some (.int x3), some (.int (0 : Int32))]) jM200 c200_122 rfl (Nat.lt_of_lt_of_eq (by decide +kernel : 4 < 5) rfl) rfl).trans ?_
    rfl
set_option maxRecDepth 20000 in
set_option maxHeartbeats 4000000 in
theorem M_digest_L124 (x1 : Int64) (x3 : Int32) (x4 : Int32) (σ : jm_S) : jv 200 124 [some (.ref 61), some (.long x1), none, some (.int x3), some (.int x4)] [] σ = (if (6 : Int32) ≤ x4 then jv 200 116 [some (.ref 61), some (.long x1), none, some (.int (x3 + 1)), some (.int x4)] [] σ else jbi (jc 164 [(.ref 61), (.int x3), (.int x4)] σ) (fun r1 τ1 => jv 200 124 [some (.ref 61), some (.long (((31 : Int64) * x1) + r1.toInt64)), none, some (.int x3), some (.int (x4 + 1))] [] τ1)) := by
  refine (sv_iload jM200 c200_124 rfl rfl).trans ?_
  refine (sv_bipush jM200 c200_126 rfl (v := 6) (by decide +kernel)).trans ?_
  refine (sv_icmp_ge jM200 c200_128 rfl (t := 152) (by decide +kernel)).trans ?_
  refine jif _ ?_ ?_
  ·
    refine (sv_iinc (ls1 := [some (.ref 61), some (.long x1), none, some (.int (x3 + 1)), some (.int x4)]) jM200 c200_152 rfl rfl (v := 1) (by decide +kernel) rfl).trans ?_
    refine (sv_goto jM200 c200_155 rfl (t := 116) (by decide +kernel)).trans ?_
    rfl
  ·
    refine (sv_ldc2 jM200 c200_131 rfl ll_9_337).trans ?_
    refine (sv_lload_n jM200 c200_134 rfl rfl).trans ?_
    refine (sv_lmul jM200 c200_135 rfl).trans ?_
    refine (sv_aload_n jM200 c200_136 rfl rfl).trans ?_
    refine (sv_iload_n jM200 c200_137 rfl rfl).trans ?_
    refine (sv_iload jM200 c200_138 rfl rfl).trans ?_
    refine (sv_callvi (pl := 0) jM200 c200_140 rfl (jm_call_v (a := 61) (as := [(.int x3), (.int x4)]) (rest := [(.long ((31 : Int64) * x1))]) lm_9_282 rfl jM164 rfl rfl rfl rfl rfl) jM164 rfl (Or.inl rfl)).trans ?_
    refine jbi_c (fun r1 τ1 => ?_)
    refine (sv_i2l jM200 c200_143 rfl).trans ?_
    refine (sv_ladd jM200 c200_144 rfl).trans ?_
    refine (sv_lstore_n (ls1 := [some (.ref 61), some (.long (((31 : Int64) * x1) + r1.toInt64)), none, some (.int x3), some (.int x4)]) jM200 c200_145 rfl (Nat.lt_of_lt_of_eq (by decide +kernel : 1 + 1 < 5) rfl) rfl).trans ?_
    refine (sv_iinc (ls1 := [some (.ref 61), some (.long (((31 : Int64) * x1) + r1.toInt64)), none, some (.int x3), some (.int (x4 + 1))]) jM200 c200_146 rfl rfl (v := 1) (by decide +kernel) rfl).trans ?_
    refine (sv_goto jM200 c200_149 rfl (t := 124) (by decide +kernel)).trans ?_
    rfl
set_option maxRecDepth 20000 in
set_option maxHeartbeats 4000000 in
theorem M_digest_L172 (x1 : Int64) (x3 : Int32) (u4 : Option Value) (σ : jm_S) : jv 200 172 [some (.ref 61), some (.long x1), none, some (.int x3), u4] [] σ = (if (3 : Int32) ≤ x3 then jv 200 200 [some (.ref 61), some (.long x1), none, some (.int (0 : Int32)), u4] [] σ else jbi (jc 176 [(.ref 61), (.int (60 : Int32)), (.int x3)] σ) (fun r1 τ1 => jv 200 172 [some (.ref 61), some (.long (((31 : Int64) * x1) + r1.toInt64)), none, some (.int (x3 + 1)), u4] [] τ1)) := by
  refine (sv_iload_n jM200 c200_172 rfl rfl).trans ?_
  refine (sv_iconst jM200 c200_173 rfl (v := 3) (by decide +kernel)).trans ?_
  refine (sv_icmp_ge jM200 c200_174 rfl (t := 198) (by decide +kernel)).trans ?_
  refine jif _ ?_ ?_
  ·
    refine (sv_iconst jM200 c200_198 rfl (v := 0) (by decide +kernel)).trans ?_
    refine (sv_istore_n (ls1 := [some (.ref 61), some (.long x1), none, some (.int (0 : Int32)), u4]) jM200 c200_199 rfl (Nat.lt_of_lt_of_eq (by decide +kernel : 3 < 5) rfl) rfl).trans ?_
    rfl
  ·
    refine (sv_ldc2 jM200 c200_177 rfl ll_9_337).trans ?_
    refine (sv_lload_n jM200 c200_180 rfl rfl).trans ?_
    refine (sv_lmul jM200 c200_181 rfl).trans ?_
    refine (sv_aload_n jM200 c200_182 rfl rfl).trans ?_
    refine (sv_bipush jM200 c200_183 rfl (v := 60) (by decide +kernel)).trans ?_
    refine (sv_iload_n jM200 c200_185 rfl rfl).trans ?_
    refine (sv_callvi (pl := 0) jM200 c200_186 rfl (jm_call_v (a := 61) (as := [(.int (60 : Int32)), (.int x3)]) (rest := [(.long ((31 : Int64) * x1))]) lm_9_294 rfl jM176 rfl rfl rfl rfl rfl) jM176 rfl (Or.inl rfl)).trans ?_
    refine jbi_c (fun r1 τ1 => ?_)
    refine (sv_i2l jM200 c200_189 rfl).trans ?_
    refine (sv_ladd jM200 c200_190 rfl).trans ?_
    refine (sv_lstore_n (ls1 := [some (.ref 61), some (.long (((31 : Int64) * x1) + r1.toInt64)), none, some (.int x3), u4]) jM200 c200_191 rfl (Nat.lt_of_lt_of_eq (by decide +kernel : 1 + 1 < 5) rfl) rfl).trans ?_
    refine (sv_iinc (ls1 := [some (.ref 61), some (.long (((31 : Int64) * x1) + r1.toInt64)), none, some (.int (x3 + 1)), u4]) jM200 c200_192 rfl rfl (v := 1) (by decide +kernel) rfl).trans ?_
    refine (sv_goto jM200 c200_195 rfl (t := 172) (by decide +kernel)).trans ?_
    rfl
set_option maxRecDepth 20000 in
set_option maxHeartbeats 4000000 in
theorem M_digest_L200 (x1 : Int64) (x3 : Int32) (u4 : Option Value) (σ : jm_S) : jv 200 200 [some (.ref 61), some (.long x1), none, some (.int x3), u4] [] σ = (if (4 : Int32) ≤ x3 then jv 200 229 [some (.ref 61), some (.long x1), none, some (.int (0 : Int32)), u4] [] σ else jbi (jc 184 [(.ref 61), (.int (3 : Int32)), (.int (100 : Int32)), (.int x3)] σ) (fun r1 τ1 => jv 200 200 [some (.ref 61), some (.long (((31 : Int64) * x1) + r1.toInt64)), none, some (.int (x3 + 1)), u4] [] τ1)) := by
  refine (sv_iload_n jM200 c200_200 rfl rfl).trans ?_
  refine (sv_iconst jM200 c200_201 rfl (v := 4) (by decide +kernel)).trans ?_
  refine (sv_icmp_ge jM200 c200_202 rfl (t := 227) (by decide +kernel)).trans ?_
  refine jif _ ?_ ?_
  ·
    refine (sv_iconst jM200 c200_227 rfl (v := 0) (by decide +kernel)).trans ?_
    refine (sv_istore_n (ls1 := [some (.ref 61), some (.long x1), none, some (.int (0 : Int32)), u4]) jM200 c200_228 rfl (Nat.lt_of_lt_of_eq (by decide +kernel : 3 < 5) rfl) rfl).trans ?_
    rfl
  ·
    refine (sv_ldc2 jM200 c200_205 rfl ll_9_337).trans ?_
    refine (sv_lload_n jM200 c200_208 rfl rfl).trans ?_
    refine (sv_lmul jM200 c200_209 rfl).trans ?_
    refine (sv_aload_n jM200 c200_210 rfl rfl).trans ?_
    refine (sv_iconst jM200 c200_211 rfl (v := 3) (by decide +kernel)).trans ?_
    refine (sv_bipush jM200 c200_212 rfl (v := 100) (by decide +kernel)).trans ?_
    refine (sv_iload_n jM200 c200_214 rfl rfl).trans ?_
    refine (sv_callvi (pl := 0) jM200 c200_215 rfl (jm_call_v (a := 61) (as := [(.int (3 : Int32)), (.int (100 : Int32)), (.int x3)]) (rest := [(.long ((31 : Int64) * x1))]) lm_9_300 rfl jM184 rfl rfl rfl rfl rfl) jM184 rfl (Or.inl rfl)).trans ?_
    refine jbi_c (fun r1 τ1 => ?_)
    refine (sv_i2l jM200 c200_218 rfl).trans ?_
    refine (sv_ladd jM200 c200_219 rfl).trans ?_
    refine (sv_lstore_n (ls1 := [some (.ref 61), some (.long (((31 : Int64) * x1) + r1.toInt64)), none, some (.int x3), u4]) jM200 c200_220 rfl (Nat.lt_of_lt_of_eq (by decide +kernel : 1 + 1 < 5) rfl) rfl).trans ?_
    refine (sv_iinc (ls1 := [some (.ref 61), some (.long (((31 : Int64) * x1) + r1.toInt64)), none, some (.int (x3 + 1)), u4]) jM200 c200_221 rfl rfl (v := 1) (by decide +kernel) rfl).trans ?_
    refine (sv_goto jM200 c200_224 rfl (t := 200) (by decide +kernel)).trans ?_
    rfl
set_option maxRecDepth 20000 in
set_option maxHeartbeats 4000000 in
theorem M_digest_L229 (x1 : Int64) (x3 : Int32) (u4 : Option Value) (σ : jm_S) : jv 200 229 [some (.ref 61), some (.long x1), none, some (.int x3), u4] [] σ = (if (5 : Int32) ≤ x3 then some (some (.long x1), σ) else jbi (jc 196 [(.ref 61), (.int x3)] σ) (fun r1 τ1 => jv 200 229 [some (.ref 61), some (.long (((31 : Int64) * x1) + r1.toInt64)), none, some (.int (x3 + 1)), u4] [] τ1)) := by
  refine (sv_iload_n jM200 c200_229 rfl rfl).trans ?_
  refine (sv_iconst jM200 c200_230 rfl (v := 5) (by decide +kernel)).trans ?_
  refine (sv_icmp_ge jM200 c200_231 rfl (t := 253) (by decide +kernel)).trans ?_
  refine jif _ ?_ ?_
  ·
    refine (sv_lload_n jM200 c200_253 rfl rfl).trans ?_
    exact sv_lret jM200 c200_254 rfl rfl
  ·
    refine (sv_ldc2 jM200 c200_234 rfl ll_9_337).trans ?_
    refine (sv_lload_n jM200 c200_237 rfl rfl).trans ?_
    refine (sv_lmul jM200 c200_238 rfl).trans ?_
    refine (sv_aload_n jM200 c200_239 rfl rfl).trans ?_
    refine (sv_iload_n jM200 c200_240 rfl rfl).trans ?_
    refine (sv_callvi (pl := 0) jM200 c200_241 rfl (jm_call_v (a := 61) (as := [(.int x3)]) (rest := [(.long ((31 : Int64) * x1))]) lm_9_332 rfl jM196 rfl rfl rfl rfl rfl) jM196 rfl (Or.inl rfl)).trans ?_
    refine jbi_c (fun r1 τ1 => ?_)
    refine (sv_i2l jM200 c200_244 rfl).trans ?_
    refine (sv_ladd jM200 c200_245 rfl).trans ?_
    refine (sv_lstore_n (ls1 := [some (.ref 61), some (.long (((31 : Int64) * x1) + r1.toInt64)), none, some (.int x3), u4]) jM200 c200_246 rfl (Nat.lt_of_lt_of_eq (by decide +kernel : 1 + 1 < 5) rfl) rfl).trans ?_
    refine (sv_iinc (ls1 := [some (.ref 61), some (.long (((31 : Int64) * x1) + r1.toInt64)), none, some (.int (x3 + 1)), u4]) jM200 c200_247 rfl rfl (v := 1) (by decide +kernel) rfl).trans ?_
    refine (sv_goto jM200 c200_250 rfl (t := 229) (by decide +kernel)).trans ?_
    rfl
set_option maxRecDepth 20000 in
set_option maxHeartbeats 4000000 in
theorem M_met_in (x1 : Int32) (σ : jm_S) : jc 121 [(.ref 61), (.int x1)] σ = some (some (.int ((-10 : Int32) - x1)), (jm_up σ 61 4 x1)) := by
  refine (jc_of (ls1 := [some (.ref 61), some (.int x1)]) ((jm_ini_of jM121).trans rfl)).trans ?_
  refine (sv_aload_n jM121 c121_0 rfl rfl).trans ?_
  refine (sv_iload_n jM121 c121_1 rfl rfl).trans ?_
  refine (sv_putf jM121 c121_2 rfl lf_9_99 (pf_61_4 _ _)).trans ?_
  refine (sv_bipush jM121 c121_5 rfl (v := -10) (by decide +kernel)).trans ?_
  refine (sv_iload_n jM121 c121_7 rfl rfl).trans ?_
  refine (sv_isub jM121 c121_8 rfl).trans ?_
  exact sv_iret jM121 c121_9 rfl rfl
set_option maxRecDepth 20000 in
set_option maxHeartbeats 4000000 in
theorem M_isSheet_in (x0 : Int32) (σ : jm_S) : jc 119 [(.int x0)] σ = jbi (jc 120 [(.long x0.toInt64), (.long (0 : Int64)), (.long (3 : Int64))] σ) (fun r1 τ1 => (if r1 = 0 ∨ r1 = 1 then some (some (.int r1), τ1) else none)) := by
  refine (jc_of (ls1 := [some (.int x0)]) ((jm_ini_of jM119).trans rfl)).trans ?_
  refine (sv_iload_n jM119 c119_0 rfl rfl).trans ?_
  refine (sv_i2l jM119 c119_1 rfl).trans ?_
  refine (sv_lconst jM119 c119_2 rfl (v := 0) (by decide +kernel)).trans ?_
  refine (sv_ldc2 jM119 c119_3 rfl ll_9_103).trans ?_
  refine (sv_callsi (pl := 0) jM119 c119_6 rfl (jm_call_s (as := [(.long x0.toInt64), (.long (0 : Int64)), (.long (3 : Int64))]) (rest := []) lm_9_95 rfl jM120 rfl rfl rfl rfl) jM120 rfl (Or.inr rfl)).trans ?_
  refine jbi_c (fun r1 τ1 => ?_)
  exact sv_zretx jM119 c119_9 rfl rfl
set_option maxRecDepth 20000 in
set_option maxHeartbeats 4000000 in
theorem M_in_in (x0 : Int64) (x1 : Int64) (x2 : Int64) (σ : jm_S) : jc 120 [(.long x0), (.long x1), (.long x2)] σ = (if (lg_cmp x0 x1) < 0 then some (some (.int (0 : Int32)), σ) else (if 0 < (lg_cmp x0 x2) then some (some (.int (0 : Int32)), σ) else some (some (.int (1 : Int32)), σ))) := by
  refine (jc_of (ls1 := [some (.long x0), none, some (.long x1), none, some (.long x2), none]) ((jm_ini_of jM120).trans rfl)).trans ?_
  refine (sv_lload_n jM120 c120_0 rfl rfl).trans ?_
  refine (sv_lload_n jM120 c120_1 rfl rfl).trans ?_
  refine (sv_lcmp jM120 c120_2 rfl).trans ?_
  refine (sv_if_lt jM120 c120_3 rfl (t := 17) (by decide +kernel)).trans ?_
  refine jif _ ?_ ?_
  ·
    refine (sv_iconst jM120 c120_17 rfl (v := 0) (by decide +kernel)).trans ?_
    exact sv_zret jM120 c120_18 rfl rfl (by decide +kernel)
  ·
    refine (sv_lload_n jM120 c120_6 rfl rfl).trans ?_
    refine (sv_lload jM120 c120_7 rfl rfl).trans ?_
    refine (sv_lcmp jM120 c120_9 rfl).trans ?_
    refine (sv_if_gt jM120 c120_10 rfl (t := 17) (by decide +kernel)).trans ?_
    refine jif _ ?_ ?_
    ·
      refine (sv_iconst jM120 c120_17 rfl (v := 0) (by decide +kernel)).trans ?_
      exact sv_zret jM120 c120_18 rfl rfl (by decide +kernel)
    ·
      refine (sv_iconst jM120 c120_13 rfl (v := 1) (by decide +kernel)).trans ?_
      refine (sv_goto jM120 c120_14 rfl (t := 18) (by decide +kernel)).trans ?_
      exact sv_zret jM120 c120_18 rfl rfl (by decide +kernel)
set_option maxRecDepth 20000 in
set_option maxHeartbeats 4000000 in
theorem M_lacks_in (x1 : Int32) (x2 : Int32) (x3 : Int32) (σ : jm_S) : jc 124 [(.ref 61), (.int x1), (.int x2), (.int x3)] σ = (if x1 < 0 ∨ 4 ≤ x1.toNatClampNeg then none else (if 0 ≤ (σ 62 x1.toNatClampNeg) then (if x1 < 0 ∨ 4 ≤ x1.toNatClampNeg then none else (if (σ 62 x1.toNatClampNeg) = x2 then (if x1 < 0 ∨ 4 ≤ x1.toNatClampNeg then none else jbi (jc 120 [(.long x3.toInt64), (.long (0 : Int64)), (.long ((σ 63 x1.toNatClampNeg) - (1 : Int32)).toInt64)] σ) (fun r1 τ1 => (if r1 = 0 then jbi (jc 121 [(.ref 61), (.int (2 : Int32))] τ1) (fun r2 τ2 => some (some (.int r2), τ2)) else some (some (.int (0 : Int32)), τ1)))) else jbi (jc 121 [(.ref 61), (.int (3 : Int32))] σ) (fun r3 τ3 => some (some (.int r3), τ3)))) else jbi (jc 121 [(.ref 61), (.int (1 : Int32))] σ) (fun r4 τ4 => some (some (.int r4), τ4)))) := by
  refine (jc_of (ls1 := [some (.ref 61), some (.int x1), some (.int x2), some (.int x3)]) ((jm_ini_of jM124).trans rfl)).trans ?_
  refine (sv_aload_n jM124 c124_0 rfl rfl).trans ?_
  refine (sv_getf jM124 c124_1 rfl lf_9_7 (fg_61_0 _)).trans ?_
  refine (sv_iload_n jM124 c124_4 rfl rfl).trans ?_
  refine (sv_iald jM124 c124_5 rfl (ia_62 _)).trans ?_
  refine jif _ rfl ?_
  refine (sv_if_ge jM124 c124_6 rfl (t := 15) (by decide +kernel)).trans ?_
  refine jif _ ?_ ?_
  ·
    refine (sv_aload_n jM124 c124_15 rfl rfl).trans ?_
    refine (sv_getf jM124 c124_16 rfl lf_9_7 (fg_61_0 _)).trans ?_
    refine (sv_iload_n jM124 c124_19 rfl rfl).trans ?_
    refine (sv_iald jM124 c124_20 rfl (ia_62 _)).trans ?_
    refine jif _ rfl ?_
    refine (sv_iload_n jM124 c124_21 rfl rfl).trans ?_
    refine (sv_icmp_eq jM124 c124_22 rfl (t := 31) (by decide +kernel)).trans ?_
    refine jif _ ?_ ?_
    ·
      refine (sv_iload_n jM124 c124_31 rfl rfl).trans ?_
      refine (sv_i2l jM124 c124_32 rfl).trans ?_
      refine (sv_lconst jM124 c124_33 rfl (v := 0) (by decide +kernel)).trans ?_
      refine (sv_aload_n jM124 c124_34 rfl rfl).trans ?_
      refine (sv_getf jM124 c124_35 rfl lf_9_13 (fg_61_1 _)).trans ?_
      refine (sv_iload_n jM124 c124_38 rfl rfl).trans ?_
      refine (sv_iald jM124 c124_39 rfl (ia_63 _)).trans ?_
      refine jif _ rfl ?_
      refine (sv_iconst jM124 c124_40 rfl (v := 1) (by decide +kernel)).trans ?_
      refine (sv_isub jM124 c124_41 rfl).trans ?_
      refine (sv_i2l jM124 c124_42 rfl).trans ?_
      refine (sv_callsi (pl := 0) jM124 c124_43 rfl (jm_call_s (as := [(.long x3.toInt64), (.long (0 : Int64)), (.long ((σ 63 x1.toNatClampNeg) - (1 : Int32)).toInt64)]) (rest := []) lm_9_95 rfl jM120 rfl rfl rfl rfl) jM120 rfl (Or.inr rfl)).trans ?_
      refine jbi_c (fun r1 τ1 => ?_)
      refine (sv_if_eq jM124 c124_46 rfl (t := 53) (by decide +kernel)).trans ?_
      refine jif _ ?_ ?_
      ·
        refine (sv_aload_n jM124 c124_53 rfl rfl).trans ?_
        refine (sv_iconst jM124 c124_54 rfl (v := 2) (by decide +kernel)).trans ?_
        refine (sv_callvi (pl := 0) jM124 c124_55 rfl (jm_call_v (a := 61) (as := [(.int (2 : Int32))]) (rest := []) lm_9_111 rfl jM121 rfl rfl rfl rfl rfl) jM121 rfl (Or.inl rfl)).trans ?_
        refine jbi_c (fun r2 τ2 => ?_)
        exact sv_iret jM124 c124_58 rfl rfl
      ·
        refine (sv_iconst jM124 c124_49 rfl (v := 0) (by decide +kernel)).trans ?_
        refine (sv_goto jM124 c124_50 rfl (t := 58) (by decide +kernel)).trans ?_
        exact sv_iret jM124 c124_58 rfl rfl
    ·
      refine (sv_aload_n jM124 c124_25 rfl rfl).trans ?_
      refine (sv_iconst jM124 c124_26 rfl (v := 3) (by decide +kernel)).trans ?_
      refine (sv_callvi (pl := 0) jM124 c124_27 rfl (jm_call_v (a := 61) (as := [(.int (3 : Int32))]) (rest := []) lm_9_111 rfl jM121 rfl rfl rfl rfl rfl) jM121 rfl (Or.inl rfl)).trans ?_
      refine jbi_c (fun r3 τ3 => ?_)
      exact sv_iret jM124 c124_30 rfl rfl
  ·
    refine (sv_aload_n jM124 c124_9 rfl rfl).trans ?_
    refine (sv_iconst jM124 c124_10 rfl (v := 1) (by decide +kernel)).trans ?_
    refine (sv_callvi (pl := 0) jM124 c124_11 rfl (jm_call_v (a := 61) (as := [(.int (1 : Int32))]) (rest := []) lm_9_111 rfl jM121 rfl rfl rfl rfl rfl) jM121 rfl (Or.inl rfl)).trans ?_
    refine jbi_c (fun r4 τ4 => ?_)
    exact sv_iret jM124 c124_14 rfl rfl
set_option maxRecDepth 20000 in
set_option maxHeartbeats 4000000 in
theorem M_cut_in (x0 : Int32) (x1 : Int32) (σ : jm_S) : jc 125 [(.int x0), (.int x1)] σ = (if ¬ x0 = 0 then (if ¬ x0 = (1 : Int32) then some (some (.int x1), σ) else some (some (.int x1.toInt16.toInt32), σ)) else some (some (.int x1.toInt8.toInt32), σ)) := by
  refine (jc_of (ls1 := [some (.int x0), some (.int x1)]) ((jm_ini_of jM125).trans rfl)).trans ?_
  refine (sv_iload_n jM125 c125_0 rfl rfl).trans ?_
  refine (sv_if_ne jM125 c125_1 rfl (t := 9) (by decide +kernel)).trans ?_
  refine jif _ ?_ ?_
  ·
    refine (sv_iload_n jM125 c125_9 rfl rfl).trans ?_
    refine (sv_iconst jM125 c125_10 rfl (v := 1) (by decide +kernel)).trans ?_
    refine (sv_icmp_ne jM125 c125_11 rfl (t := 19) (by decide +kernel)).trans ?_
    refine jif _ ?_ ?_
    ·
      refine (sv_iload_n jM125 c125_19 rfl rfl).trans ?_
      exact sv_iret jM125 c125_20 rfl rfl
    ·
      refine (sv_iload_n jM125 c125_14 rfl rfl).trans ?_
      refine (sv_i2s jM125 c125_15 rfl).trans ?_
      refine (sv_goto jM125 c125_16 rfl (t := 20) (by decide +kernel)).trans ?_
      exact sv_iret jM125 c125_20 rfl rfl
  ·
    refine (sv_iload_n jM125 c125_4 rfl rfl).trans ?_
    refine (sv_i2b jM125 c125_5 rfl).trans ?_
    refine (sv_goto jM125 c125_6 rfl (t := 20) (by decide +kernel)).trans ?_
    exact sv_iret jM125 c125_20 rfl rfl
set_option maxRecDepth 20000 in
set_option maxHeartbeats 4000000 in
theorem M_isPlace_in (x0 : Int32) (σ : jm_S) : jc 129 [(.int x0)] σ = jbi (jc 120 [(.long x0.toInt64), (.long (0 : Int64)), (.long (3 : Int64))] σ) (fun r1 τ1 => (if r1 = 0 ∨ r1 = 1 then some (some (.int r1), τ1) else none)) := by
  refine (jc_of (ls1 := [some (.int x0)]) ((jm_ini_of jM129).trans rfl)).trans ?_
  refine (sv_iload_n jM129 c129_0 rfl rfl).trans ?_
  refine (sv_i2l jM129 c129_1 rfl).trans ?_
  refine (sv_lconst jM129 c129_2 rfl (v := 0) (by decide +kernel)).trans ?_
  refine (sv_ldc2 jM129 c129_3 rfl ll_9_103).trans ?_
  refine (sv_callsi (pl := 0) jM129 c129_6 rfl (jm_call_s (as := [(.long x0.toInt64), (.long (0 : Int64)), (.long (3 : Int64))]) (rest := []) lm_9_95 rfl jM120 rfl rfl rfl rfl) jM120 rfl (Or.inr rfl)).trans ?_
  refine jbi_c (fun r1 τ1 => ?_)
  exact sv_zretx jM129 c129_9 rfl rfl
set_option maxRecDepth 20000 in
set_option maxHeartbeats 4000000 in
theorem M_isOf_in (x0 : Int32) (x1 : Int32) (σ : jm_S) : jc 130 [(.int x0), (.int x1)] σ = (if ¬ x0 = 0 then (if ¬ x0 = (1 : Int32) then (if ¬ x0 = (2 : Int32) then jbi (jc 120 [(.long x1.toInt64), (.long (0 : Int64)), (.long (9 : Int64))] σ) (fun r1 τ1 => (if r1 = 0 ∨ r1 = 1 then some (some (.int r1), τ1) else none)) else jbi (jc 120 [(.long x1.toInt64), (.long (1 : Int64)), (.long (9 : Int64))] σ) (fun r2 τ2 => (if r2 = 0 ∨ r2 = 1 then some (some (.int r2), τ2) else none))) else jbi (jc 120 [(.long x1.toInt64), (.long (1 : Int64)), (.long (20 : Int64))] σ) (fun r3 τ3 => (if r3 = 0 ∨ r3 = 1 then some (some (.int r3), τ3) else none))) else jbi (jc 120 [(.long x1.toInt64), (.long (0 : Int64)), (.long (99 : Int64))] σ) (fun r4 τ4 => (if r4 = 0 ∨ r4 = 1 then some (some (.int r4), τ4) else none))) := by
  refine (jc_of (ls1 := [some (.int x0), some (.int x1)]) ((jm_ini_of jM130).trans rfl)).trans ?_
  refine (sv_iload_n jM130 c130_0 rfl rfl).trans ?_
  refine (sv_if_ne jM130 c130_1 rfl (t := 16) (by decide +kernel)).trans ?_
  refine jif _ ?_ ?_
  ·
    refine (sv_iload_n jM130 c130_16 rfl rfl).trans ?_
    refine (sv_iconst jM130 c130_17 rfl (v := 1) (by decide +kernel)).trans ?_
    refine (sv_icmp_ne jM130 c130_18 rfl (t := 33) (by decide +kernel)).trans ?_
    refine jif _ ?_ ?_
    ·
      refine (sv_iload_n jM130 c130_33 rfl rfl).trans ?_
      refine (sv_iconst jM130 c130_34 rfl (v := 2) (by decide +kernel)).trans ?_
      refine (sv_icmp_ne jM130 c130_35 rfl (t := 50) (by decide +kernel)).trans ?_
      refine jif _ ?_ ?_
      ·
        refine (sv_iload_n jM130 c130_50 rfl rfl).trans ?_
        refine (sv_i2l jM130 c130_51 rfl).trans ?_
        refine (sv_lconst jM130 c130_52 rfl (v := 0) (by decide +kernel)).trans ?_
        refine (sv_ldc2 jM130 c130_53 rfl ll_9_131).trans ?_
        refine (sv_callsi (pl := 0) jM130 c130_56 rfl (jm_call_s (as := [(.long x1.toInt64), (.long (0 : Int64)), (.long (9 : Int64))]) (rest := []) lm_9_95 rfl jM120 rfl rfl rfl rfl) jM120 rfl (Or.inr rfl)).trans ?_
        refine jbi_c (fun r1 τ1 => ?_)
        exact sv_zretx jM130 c130_59 rfl rfl
      ·
        refine (sv_iload_n jM130 c130_38 rfl rfl).trans ?_
        refine (sv_i2l jM130 c130_39 rfl).trans ?_
        refine (sv_lconst jM130 c130_40 rfl (v := 1) (by decide +kernel)).trans ?_
        refine (sv_ldc2 jM130 c130_41 rfl ll_9_131).trans ?_
        refine (sv_callsi (pl := 0) jM130 c130_44 rfl (jm_call_s (as := [(.long x1.toInt64), (.long (1 : Int64)), (.long (9 : Int64))]) (rest := []) lm_9_95 rfl jM120 rfl rfl rfl rfl) jM120 rfl (Or.inr rfl)).trans ?_
        refine jbi_c (fun r2 τ2 => ?_)
        refine (sv_goto jM130 c130_47 rfl (t := 59) (by decide +kernel)).trans ?_
        exact sv_zretx jM130 c130_59 rfl rfl
    ·
      refine (sv_iload_n jM130 c130_21 rfl rfl).trans ?_
      refine (sv_i2l jM130 c130_22 rfl).trans ?_
      refine (sv_lconst jM130 c130_23 rfl (v := 1) (by decide +kernel)).trans ?_
      refine (sv_ldc2 jM130 c130_24 rfl ll_9_129).trans ?_
      refine (sv_callsi (pl := 0) jM130 c130_27 rfl (jm_call_s (as := [(.long x1.toInt64), (.long (1 : Int64)), (.long (20 : Int64))]) (rest := []) lm_9_95 rfl jM120 rfl rfl rfl rfl) jM120 rfl (Or.inr rfl)).trans ?_
      refine jbi_c (fun r3 τ3 => ?_)
      refine (sv_goto jM130 c130_30 rfl (t := 59) (by decide +kernel)).trans ?_
      exact sv_zretx jM130 c130_59 rfl rfl
  ·
    refine (sv_iload_n jM130 c130_4 rfl rfl).trans ?_
    refine (sv_i2l jM130 c130_5 rfl).trans ?_
    refine (sv_lconst jM130 c130_6 rfl (v := 0) (by decide +kernel)).trans ?_
    refine (sv_ldc2 jM130 c130_7 rfl ll_9_127).trans ?_
    refine (sv_callsi (pl := 0) jM130 c130_10 rfl (jm_call_s (as := [(.long x1.toInt64), (.long (0 : Int64)), (.long (99 : Int64))]) (rest := []) lm_9_95 rfl jM120 rfl rfl rfl rfl) jM120 rfl (Or.inr rfl)).trans ?_
    refine jbi_c (fun r4 τ4 => ?_)
    refine (sv_goto jM130 c130_13 rfl (t := 59) (by decide +kernel)).trans ?_
    exact sv_zretx jM130 c130_59 rfl rfl
set_option maxRecDepth 20000 in
set_option maxHeartbeats 4000000 in
theorem M_isGrain_in (x1 : Int32) (σ : jm_S) : jc 133 [(.ref 61), (.int x1)] σ = jbi (jc 120 [(.long x1.toInt64), (.long (0 : Int64)), (.long ((σ 61 5) - (1 : Int32)).toInt64)] σ) (fun r1 τ1 => (if r1 = 0 ∨ r1 = 1 then some (some (.int r1), τ1) else none)) := by
  refine (jc_of (ls1 := [some (.ref 61), some (.int x1)]) ((jm_ini_of jM133).trans rfl)).trans ?_
  refine (sv_iload_n jM133 c133_0 rfl rfl).trans ?_
  refine (sv_i2l jM133 c133_1 rfl).trans ?_
  refine (sv_lconst jM133 c133_2 rfl (v := 0) (by decide +kernel)).trans ?_
  refine (sv_aload_n jM133 c133_3 rfl rfl).trans ?_
  refine (sv_getf jM133 c133_4 rfl lf_9_124 (fg_61_5 _)).trans ?_
  refine (sv_iconst jM133 c133_7 rfl (v := 1) (by decide +kernel)).trans ?_
  refine (sv_isub jM133 c133_8 rfl).trans ?_
  refine (sv_i2l jM133 c133_9 rfl).trans ?_
  refine (sv_callsi (pl := 0) jM133 c133_10 rfl (jm_call_s (as := [(.long x1.toInt64), (.long (0 : Int64)), (.long ((σ 61 5) - (1 : Int32)).toInt64)]) (rest := []) lm_9_95 rfl jM120 rfl rfl rfl rfl) jM120 rfl (Or.inr rfl)).trans ?_
  refine jbi_c (fun r1 τ1 => ?_)
  exact sv_zretx jM133 c133_13 rfl rfl
set_option maxRecDepth 20000 in
set_option maxHeartbeats 4000000 in
theorem M_isText_in (x0 : Int32) (σ : jm_S) : jc 137 [(.int x0)] σ = jbi (jc 120 [(.long x0.toInt64), (.long (0 : Int64)), (.long (3 : Int64))] σ) (fun r1 τ1 => (if r1 = 0 ∨ r1 = 1 then some (some (.int r1), τ1) else none)) := by
  refine (jc_of (ls1 := [some (.int x0)]) ((jm_ini_of jM137).trans rfl)).trans ?_
  refine (sv_iload_n jM137 c137_0 rfl rfl).trans ?_
  refine (sv_i2l jM137 c137_1 rfl).trans ?_
  refine (sv_lconst jM137 c137_2 rfl (v := 0) (by decide +kernel)).trans ?_
  refine (sv_ldc2 jM137 c137_3 rfl ll_9_103).trans ?_
  refine (sv_callsi (pl := 0) jM137 c137_6 rfl (jm_call_s (as := [(.long x0.toInt64), (.long (0 : Int64)), (.long (3 : Int64))]) (rest := []) lm_9_95 rfl jM120 rfl rfl rfl rfl) jM120 rfl (Or.inr rfl)).trans ?_
  refine jbi_c (fun r1 τ1 => ?_)
  exact sv_zretx jM137 c137_9 rfl rfl
set_option maxRecDepth 20000 in
set_option maxHeartbeats 4000000 in
theorem M_faultOf_in (x1 : Int32) (σ : jm_S) : jc 140 [(.ref 61), (.int x1)] σ = (if ¬ x1 = 0 then jbi (jc 147 [(.ref 61), (.int x1)] σ) (fun r1 τ1 => some (some (.int r1), τ1)) else jbi (jc 141 [(.ref 61)] σ) (fun r2 τ2 => some (some (.int r2), τ2))) := by
  refine (jc_of (ls1 := [some (.ref 61), some (.int x1)]) ((jm_ini_of jM140).trans rfl)).trans ?_
  refine (sv_iload_n jM140 c140_0 rfl rfl).trans ?_
  refine (sv_if_ne jM140 c140_1 rfl (t := 11) (by decide +kernel)).trans ?_
  refine jif _ ?_ ?_
  ·
    refine (sv_aload_n jM140 c140_11 rfl rfl).trans ?_
    refine (sv_iload_n jM140 c140_12 rfl rfl).trans ?_
    refine (sv_callvi (pl := 0) jM140 c140_13 rfl (jm_call_v (a := 61) (as := [(.int x1)]) (rest := []) lm_9_198 rfl jM147 rfl rfl rfl rfl rfl) jM147 rfl (Or.inl rfl)).trans ?_
    refine jbi_c (fun r1 τ1 => ?_)
    exact sv_iret jM140 c140_16 rfl rfl
  ·
    refine (sv_aload_n jM140 c140_4 rfl rfl).trans ?_
    refine (sv_callvi (pl := 0) jM140 c140_5 rfl (jm_call_v (a := 61) (as := []) (rest := []) lm_9_194 rfl jM141 rfl rfl rfl rfl rfl) jM141 rfl (Or.inl rfl)).trans ?_
    refine jbi_c (fun r2 τ2 => ?_)
    refine (sv_goto jM140 c140_8 rfl (t := 16) (by decide +kernel)).trans ?_
    exact sv_iret jM140 c140_16 rfl rfl
set_option maxRecDepth 20000 in
set_option maxHeartbeats 4000000 in
theorem M_readsPan_in (σ : jm_S) : jc 141 [(.ref 61)] σ = jbv (jc 142 [(.ref 61)] σ) (fun τ1 => (if (τ1 70 0) ≤ 0 then jv 141 24 [some (.ref 61), some (.int (0 : Int32))] [] (jm_up τ1 61 11 (0 : Int32)) else jv 141 24 [some (.ref 61), some (.int (1 : Int32))] [] (jm_up τ1 61 11 (0 : Int32)))) := by
  refine (jc_of (ls1 := [some (.ref 61), none]) ((jm_ini_of jM141).trans rfl)).trans ?_
  refine (sv_aload_n jM141 c141_0 rfl rfl).trans ?_
  refine (sv_callvv (pl := 0) jM141 c141_1 rfl (jm_call_v (a := 61) (as := []) (rest := []) lm_9_184 rfl jM142 rfl rfl rfl rfl rfl) jM142 rfl rfl).trans ?_
  refine jbv_c (fun τ1 => ?_)
  refine (sv_aload_n jM141 c141_4 rfl rfl).trans ?_
  refine (sv_iconst jM141 c141_5 rfl (v := 0) (by decide +kernel)).trans ?_
  refine (sv_putf jM141 c141_6 rfl lf_9_159 (pf_61_11 _ _)).trans ?_
  refine (sv_aload_n jM141 c141_9 rfl rfl).trans ?_
  refine (sv_getf jM141 c141_10 rfl lf_9_34 (fg_61_10 _)).trans ?_
  refine (sv_iconst jM141 c141_13 rfl (v := 0) (by decide +kernel)).trans ?_
  refine (sv_iald1 jM141 c141_14 rfl (ia_70 _) (by decide +kernel) (i := 0) (by decide +kernel)).trans ?_
  refine (sv_if_le jM141 c141_15 rfl (t := 22) (by decide +kernel)).trans ?_
  refine jif _ ?_ ?_
  ·
    refine (sv_iconst jM141 c141_22 rfl (v := 0) (by decide +kernel)).trans ?_
    refine (sv_istore_n (ls1 := [some (.ref 61), some (.int (0 : Int32))]) jM141 c141_23 rfl (Nat.lt_of_lt_of_eq (by decide +kernel : 1 < 2) rfl) rfl).trans ?_
    rfl
  ·
    refine (sv_iconst jM141 c141_18 rfl (v := 1) (by decide +kernel)).trans ?_
    refine (sv_goto jM141 c141_19 rfl (t := 23) (by decide +kernel)).trans ?_
    refine (sv_istore_n (ls1 := [some (.ref 61), some (.int (1 : Int32))]) jM141 c141_23 rfl (Nat.lt_of_lt_of_eq (by decide +kernel : 1 < 2) rfl) rfl).trans ?_
    rfl
set_option maxRecDepth 20000 in
set_option maxHeartbeats 4000000 in
theorem M_readsPan_L24 (x1 : Int32) (σ : jm_S) : jv 141 24 [some (.ref 61), some (.int x1)] [] σ = (if x1 = 0 then some (some (.int (-1 : Int32)), σ) else jbi (jc 143 [(.ref 61)] σ) (fun r1 τ1 => (if ¬ r1 = 0 then (if (τ1 70 0) ≤ (τ1 61 11) then jv 141 24 [some (.ref 61), some (.int (0 : Int32))] [] (jm_up τ1 61 11 ((τ1 61 11) + (0 : Int32))) else jbi (jc 144 [(.ref 61), (.int (0 : Int32))] τ1) (fun r2 τ2 => (if r2 = (59 : Int32) then jv 141 24 [some (.ref 61), some (.int (1 : Int32))] [] (jm_up τ2 61 11 ((τ2 61 11) + (1 : Int32))) else jbv (jc 142 [(.ref 61)] τ2) (fun τ3 => some (some (.int (τ3 61 11)), τ3))))) else jbv (jc 142 [(.ref 61)] τ1) (fun τ4 => some (some (.int (τ4 61 11)), τ4))))) := by
  refine (sv_iload_n jM141 c141_24 rfl rfl).trans ?_
  refine (sv_if_eq jM141 c141_25 rfl (t := 107) (by decide +kernel)).trans ?_
  refine jif _ ?_ ?_
  ·
    refine (sv_iconst jM141 c141_107 rfl (v := -1) (by decide +kernel)).trans ?_
    exact sv_iret jM141 c141_108 rfl rfl
  ·
    refine (sv_aload_n jM141 c141_28 rfl rfl).trans ?_
    refine (sv_callvi (pl := 0) jM141 c141_29 rfl (jm_call_v (a := 61) (as := []) (rest := []) lm_9_187 rfl jM143 rfl rfl rfl rfl rfl) jM143 rfl (Or.inr rfl)).trans ?_
    refine jbi_c (fun r1 τ1 => ?_)
    refine (sv_if_ne jM141 c141_32 rfl (t := 44) (by decide +kernel)).trans ?_
    refine jif _ ?_ ?_
    ·
      refine (sv_aload_n jM141 c141_44 rfl rfl).trans ?_
      refine (sv_getf jM141 c141_45 rfl lf_9_159 (fg_61_11 _)).trans ?_
      refine (sv_aload_n jM141 c141_48 rfl rfl).trans ?_
      refine (sv_getf jM141 c141_49 rfl lf_9_34 (fg_61_10 _)).trans ?_
      refine (sv_iconst jM141 c141_52 rfl (v := 0) (by decide +kernel)).trans ?_
      refine (sv_iald1 jM141 c141_53 rfl (ia_70 _) (by decide +kernel) (i := 0) (by decide +kernel)).trans ?_
      refine (sv_icmp_ge jM141 c141_54 rfl (t := 61) (by decide +kernel)).trans ?_
      refine jif _ ?_ ?_
      ·
        refine (sv_iconst jM141 c141_61 rfl (v := 0) (by decide +kernel)).trans ?_
        refine (sv_istore_n (ls1 := [some (.ref 61), some (.int (0 : Int32))]) jM141 c141_62 rfl (Nat.lt_of_lt_of_eq (by decide +kernel : 1 < 2) rfl) rfl).trans ?_
        refine (sv_iload_n jM141 c141_63 rfl rfl).trans ?_
        refine (sv_if_eq jM141 c141_64 rfl (t := 86) (by decide +kernel)).trans ?_
        refine (if_pos (by decide +kernel)).trans ?_
        refine (sv_aload_n jM141 c141_86 rfl rfl).trans ?_
        refine (sv_dup jM141 c141_87 rfl rfl).trans ?_
        refine (sv_getf jM141 c141_88 rfl lf_9_159 (fg_61_11 _)).trans ?_
        refine (sv_iload_n jM141 c141_91 rfl rfl).trans ?_
        refine (sv_if_eq jM141 c141_92 rfl (t := 99) (by decide +kernel)).trans ?_
        refine (if_pos (by decide +kernel)).trans ?_
        refine (sv_iconst jM141 c141_99 rfl (v := 0) (by decide +kernel)).trans ?_
        refine (sv_iadd jM141 c141_100 rfl).trans ?_
        refine (sv_putf jM141 c141_101 rfl lf_9_159 (pf_61_11 _ _)).trans ?_
        refine (sv_goto jM141 c141_104 rfl (t := 24) (by decide +kernel)).trans ?_
        rfl
      ·
        refine (sv_iconst jM141 c141_57 rfl (v := 1) (by decide +kernel)).trans ?_
        refine (sv_goto jM141 c141_58 rfl (t := 62) (by decide +kernel)).trans ?_
        refine (sv_istore_n (ls1 := [some (.ref 61), some (.int (1 : Int32))]) jM141 c141_62 rfl (Nat.lt_of_lt_of_eq (by decide +kernel : 1 < 2) rfl) rfl).trans ?_
        refine (sv_iload_n jM141 c141_63 rfl rfl).trans ?_
        refine (sv_if_eq jM141 c141_64 rfl (t := 86) (by decide +kernel)).trans ?_
        refine (if_neg (by decide +kernel)).trans ?_
        refine (sv_aload_n jM141 c141_67 rfl rfl).trans ?_
        refine (sv_iconst jM141 c141_68 rfl (v := 0) (by decide +kernel)).trans ?_
        refine (sv_callvi (pl := 0) jM141 c141_69 rfl (jm_call_v (a := 61) (as := [(.int (0 : Int32))]) (rest := []) lm_9_162 rfl jM144 rfl rfl rfl rfl rfl) jM144 rfl (Or.inl rfl)).trans ?_
        refine jbi_c (fun r2 τ2 => ?_)
        refine (sv_bipush jM141 c141_72 rfl (v := 59) (by decide +kernel)).trans ?_
        refine (sv_icmp_eq jM141 c141_74 rfl (t := 86) (by decide +kernel)).trans ?_
        refine jif _ ?_ ?_
        ·
          refine (sv_aload_n jM141 c141_86 rfl rfl).trans ?_
          refine (sv_dup jM141 c141_87 rfl rfl).trans ?_
          refine (sv_getf jM141 c141_88 rfl lf_9_159 (fg_61_11 _)).trans ?_
          refine (sv_iload_n jM141 c141_91 rfl rfl).trans ?_
          refine (sv_if_eq jM141 c141_92 rfl (t := 99) (by decide +kernel)).trans ?_
          refine (if_neg (by decide +kernel)).trans ?_
          refine (sv_iconst jM141 c141_95 rfl (v := 1) (by decide +kernel)).trans ?_
          refine (sv_goto jM141 c141_96 rfl (t := 100) (by decide +kernel)).trans ?_
          refine (sv_iadd jM141 c141_100 rfl).trans ?_
          refine (sv_putf jM141 c141_101 rfl lf_9_159 (pf_61_11 _ _)).trans ?_
          refine (sv_goto jM141 c141_104 rfl (t := 24) (by decide +kernel)).trans ?_
          rfl
        ·
          refine (sv_aload_n jM141 c141_77 rfl rfl).trans ?_
          refine (sv_callvv (pl := 0) jM141 c141_78 rfl (jm_call_v (a := 61) (as := []) (rest := []) lm_9_184 rfl jM142 rfl rfl rfl rfl rfl) jM142 rfl rfl).trans ?_
          refine jbv_c (fun τ3 => ?_)
          refine (sv_aload_n jM141 c141_81 rfl rfl).trans ?_
          refine (sv_getf jM141 c141_82 rfl lf_9_159 (fg_61_11 _)).trans ?_
          exact sv_iret jM141 c141_85 rfl rfl
    ·
      refine (sv_aload_n jM141 c141_35 rfl rfl).trans ?_
      refine (sv_callvv (pl := 0) jM141 c141_36 rfl (jm_call_v (a := 61) (as := []) (rest := []) lm_9_184 rfl jM142 rfl rfl rfl rfl rfl) jM142 rfl rfl).trans ?_
      refine jbv_c (fun τ4 => ?_)
      refine (sv_aload_n jM141 c141_39 rfl rfl).trans ?_
      refine (sv_getf jM141 c141_40 rfl lf_9_159 (fg_61_11 _)).trans ?_
      exact sv_iret jM141 c141_43 rfl rfl
set_option maxRecDepth 20000 in
set_option maxHeartbeats 4000000 in
theorem M_isNow_in (x1 : Int32) (x2 : Int32) (σ : jm_S) : jc 160 [(.ref 61), (.int x1), (.int x2)] σ = jv 160 1 [some (.ref 61), some (.int x1), some (.int x2)] [(.int x2)] σ := by
  refine (jc_of (ls1 := [some (.ref 61), some (.int x1), some (.int x2)]) ((jm_ini_of jM160).trans rfl)).trans ?_
  refine (sv_iload_n jM160 c160_0 rfl rfl).trans ?_
  rfl
set_option maxRecDepth 20000 in
set_option maxHeartbeats 4000000 in
theorem M_isNow_S1_0 (x1 : Int32) (x2 : Int32) (σ : jm_S) : jv 160 1 [some (.ref 61), some (.int x1), some (.int x2)] [(.int (0 : Int32))] σ = (if x1 < 0 ∨ 12 ≤ x1.toNatClampNeg then none else some (some (.int (σ 76 x1.toNatClampNeg)), σ)) := by
  refine (sv_ts jM160 c160_1 rfl (by decide +kernel) (z := 35) (by decide +kernel) (t := 36) (by decide +kernel)).trans ?_
  refine (sv_aload_n jM160 c160_36 rfl rfl).trans ?_
  refine (sv_getf jM160 c160_37 rfl lf_9_53 (fg_61_25 _)).trans ?_
  refine (sv_iload_n jM160 c160_40 rfl rfl).trans ?_
  refine (sv_iald jM160 c160_41 rfl (ia_76 _)).trans ?_
  refine jif _ rfl ?_
  exact sv_iret jM160 c160_42 rfl rfl
