set_option maxRecDepth 20000 in
set_option maxHeartbeats 4000000 in
theorem M_isNow_S1_1 (x1 : Int32) (x2 : Int32) (σ : jm_S) : jv 160 1 [some (.ref 61), some (.int x1), some (.int x2)] [(.int (1 : Int32))] σ = (if x1 < 0 ∨ 12 ≤ x1.toNatClampNeg then none else some (some (.int (σ 77 x1.toNatClampNeg)), σ)) := by
  refine (sv_ts jM160 c160_1 rfl (by decide +kernel) (z := 42) (by decide +kernel) (t := 43) (by decide +kernel)).trans ?_
  refine (sv_aload_n jM160 c160_43 rfl rfl).trans ?_
  refine (sv_getf jM160 c160_44 rfl lf_9_56 (fg_61_26 _)).trans ?_
  refine (sv_iload_n jM160 c160_47 rfl rfl).trans ?_
  refine (sv_iald jM160 c160_48 rfl (ia_77 _)).trans ?_
  refine jif _ rfl ?_
  exact sv_iret jM160 c160_49 rfl rfl
set_option maxRecDepth 20000 in
set_option maxHeartbeats 4000000 in
theorem M_isNow_S1_2 (x1 : Int32) (x2 : Int32) (σ : jm_S) : jv 160 1 [some (.ref 61), some (.int x1), some (.int x2)] [(.int (2 : Int32))] σ = (if x1 < 0 ∨ 12 ≤ x1.toNatClampNeg then none else some (some (.int (σ 78 x1.toNatClampNeg)), σ)) := by
  refine (sv_ts jM160 c160_1 rfl (by decide +kernel) (z := 49) (by decide +kernel) (t := 50) (by decide +kernel)).trans ?_
  refine (sv_aload_n jM160 c160_50 rfl rfl).trans ?_
  refine (sv_getf jM160 c160_51 rfl lf_9_59 (fg_61_27 _)).trans ?_
  refine (sv_iload_n jM160 c160_54 rfl rfl).trans ?_
  refine (sv_iald jM160 c160_55 rfl (ia_78 _)).trans ?_
  refine jif _ rfl ?_
  exact sv_iret jM160 c160_56 rfl rfl
set_option maxRecDepth 20000 in
set_option maxHeartbeats 4000000 in
theorem M_isNow_S1_3 (x1 : Int32) (x2 : Int32) (σ : jm_S) : jv 160 1 [some (.ref 61), some (.int x1), some (.int x2)] [(.int (3 : Int32))] σ = (if x1 < 0 ∨ 12 ≤ x1.toNatClampNeg then none else some (some (.int (σ 79 x1.toNatClampNeg)), σ)) := by
  refine (sv_ts jM160 c160_1 rfl (by decide +kernel) (z := 56) (by decide +kernel) (t := 57) (by decide +kernel)).trans ?_
  refine (sv_aload_n jM160 c160_57 rfl rfl).trans ?_
  refine (sv_getf jM160 c160_58 rfl lf_9_62 (fg_61_28 _)).trans ?_
  refine (sv_iload_n jM160 c160_61 rfl rfl).trans ?_
  refine (sv_iald jM160 c160_62 rfl (ia_79 _)).trans ?_
  refine jif _ rfl ?_
  exact sv_iret jM160 c160_63 rfl rfl
set_option maxRecDepth 20000 in
set_option maxHeartbeats 4000000 in
theorem M_isNow_S1_4 (x1 : Int32) (x2 : Int32) (σ : jm_S) : jv 160 1 [some (.ref 61), some (.int x1), some (.int x2)] [(.int (4 : Int32))] σ = (if x1 < 0 ∨ 12 ≤ x1.toNatClampNeg then none else some (some (.int (σ 80 x1.toNatClampNeg)), σ)) := by
  refine (sv_ts jM160 c160_1 rfl (by decide +kernel) (z := 63) (by decide +kernel) (t := 64) (by decide +kernel)).trans ?_
  refine (sv_aload_n jM160 c160_64 rfl rfl).trans ?_
  refine (sv_getf jM160 c160_65 rfl lf_9_65 (fg_61_29 _)).trans ?_
  refine (sv_iload_n jM160 c160_68 rfl rfl).trans ?_
  refine (sv_iald jM160 c160_69 rfl (ia_80 _)).trans ?_
  refine jif _ rfl ?_
  exact sv_iret jM160 c160_70 rfl rfl
set_option maxRecDepth 20000 in
set_option maxHeartbeats 4000000 in
theorem M_isNow_S1_o (x1 : Int32) (x2 : Int32) (y0 : Int32) (σ : jm_S) (hx : y0.toInt < 0 ∨ 4 < y0.toInt) : jv 160 1 [some (.ref 61), some (.int x1), some (.int x2)] [(.int y0)] σ = (if x1 < 0 ∨ 12 ≤ x1.toNatClampNeg then none else some (some (.int (σ 81 x1.toNatClampNeg)), σ)) := by
  refine (sv_tso jM160 c160_1 rfl (t := 71) (by decide +kernel) hx).trans ?_
  refine (sv_aload_n jM160 c160_71 rfl rfl).trans ?_
  refine (sv_getf jM160 c160_72 rfl lf_9_68 (fg_61_30 _)).trans ?_
  refine (sv_iload_n jM160 c160_75 rfl rfl).trans ?_
  refine (sv_iald jM160 c160_76 rfl (ia_81 _)).trans ?_
  refine jif _ rfl ?_
  exact sv_iret jM160 c160_77 rfl rfl
set_option maxRecDepth 20000 in
set_option maxHeartbeats 4000000 in
theorem M_tries_in (σ : jm_S) : jc 150 [(.ref 61)] σ = jbi (jc 141 [(.ref 61)] (jm_up (jm_up (jm_up (jm_up (jm_up σ 61 20 (σ 68 0)) 61 21 (σ 68 1)) 61 22 (-1 : Int32)) 61 23 (-1 : Int32)) 61 24 (((1 : Int32) <<< ((σ 61 5) &&& 31)) - (1 : Int32)))) (fun r1 τ1 => some (none, τ1)) := by
  refine (jc_of (ls1 := [some (.ref 61)]) ((jm_ini_of jM150).trans rfl)).trans ?_
  refine (sv_aload_n jM150 c150_0 rfl rfl).trans ?_
  refine (sv_aload_n jM150 c150_1 rfl rfl).trans ?_
  refine (sv_getf jM150 c150_2 rfl lf_9_28 (fg_61_8 _)).trans ?_
  refine (sv_iconst jM150 c150_5 rfl (v := 0) (by decide +kernel)).trans ?_
  refine (sv_iald1 jM150 c150_6 rfl (ia_68 _) (by decide +kernel) (i := 0) (by decide +kernel)).trans ?_
  refine (sv_putf jM150 c150_7 rfl lf_9_206 (pf_61_20 _ _)).trans ?_
  refine (sv_aload_n jM150 c150_10 rfl rfl).trans ?_
  refine (sv_aload_n jM150 c150_11 rfl rfl).trans ?_
  refine (sv_getf jM150 c150_12 rfl lf_9_28 (fg_61_8 _)).trans ?_
  refine (sv_iconst jM150 c150_15 rfl (v := 1) (by decide +kernel)).trans ?_
  refine (sv_iald1 jM150 c150_16 rfl (ia_68 _) (by decide +kernel) (i := 1) (by decide +kernel)).trans ?_
  refine (sv_putf jM150 c150_17 rfl lf_9_209 (pf_61_21 _ _)).trans ?_
  refine (sv_aload_n jM150 c150_20 rfl rfl).trans ?_
  refine (sv_iconst jM150 c150_21 rfl (v := -1) (by decide +kernel)).trans ?_
  refine (sv_putf jM150 c150_22 rfl lf_9_212 (pf_61_22 _ _)).trans ?_
  refine (sv_aload_n jM150 c150_25 rfl rfl).trans ?_
  refine (sv_iconst jM150 c150_26 rfl (v := -1) (by decide +kernel)).trans ?_
  refine (sv_putf jM150 c150_27 rfl lf_9_215 (pf_61_23 _ _)).trans ?_
  refine (sv_aload_n jM150 c150_30 rfl rfl).trans ?_
  refine (sv_iconst jM150 c150_31 rfl (v := 1) (by decide +kernel)).trans ?_
  refine (sv_aload_n jM150 c150_32 rfl rfl).trans ?_
  refine (sv_getf jM150 c150_33 rfl lf_9_124 (fg_61_5 _)).trans ?_
  refine (sv_ishl jM150 c150_36 rfl).trans ?_
  refine (sv_iconst jM150 c150_37 rfl (v := 1) (by decide +kernel)).trans ?_
  refine (sv_isub jM150 c150_38 rfl).trans ?_
  refine (sv_putf jM150 c150_39 rfl lf_9_218 (pf_61_24 _ _)).trans ?_
  refine (sv_aload_n jM150 c150_42 rfl rfl).trans ?_
  refine (sv_callvi (pl := 0) jM150 c150_43 rfl (jm_call_v (a := 61) (as := []) (rest := []) lm_9_194 rfl jM141 rfl rfl rfl rfl rfl) jM141 rfl (Or.inl rfl)).trans ?_
  refine jbi_c (fun r1 τ1 => ?_)
  refine (sv_pop jM150 c150_46 rfl rfl).trans ?_
  exact sv_vret jM150 c150_47 rfl rfl
set_option maxRecDepth 20000 in
set_option maxHeartbeats 4000000 in
theorem M_goesOn_in (x1 : Int32) (σ : jm_S) : jc 151 [(.ref 61), (.int x1)] σ = jbv (jc 152 [(.ref 61)] σ) (fun τ1 => jv 151 6 [some (.ref 61), some (.int x1), some (.int (0 : Int32))] [] τ1) := by
  refine (jc_of (ls1 := [some (.ref 61), some (.int x1), none]) ((jm_ini_of jM151).trans rfl)).trans ?_
  refine (sv_aload_n jM151 c151_0 rfl rfl).trans ?_
  refine (sv_callvv (pl := 0) jM151 c151_1 rfl (jm_call_v (a := 61) (as := []) (rest := []) lm_9_240 rfl jM152 rfl rfl rfl rfl rfl) jM152 rfl rfl).trans ?_
  refine jbv_c (fun τ1 => ?_)
  refine (sv_iconst jM151 c151_4 rfl (v := 0) (by decide +kernel)).trans ?_
  refine (sv_istore_n (ls1 := [some (.ref 61), some (.int x1), some (.int (0 : Int32))]) jM151 c151_5 rfl (Nat.lt_of_lt_of_eq (by decide +kernel : 2 < 3) rfl) rfl).trans ?_
  rfl
set_option maxRecDepth 20000 in
set_option maxHeartbeats 4000000 in
theorem M_goesOn_L6 (x1 : Int32) (x2 : Int32) (σ : jm_S) : jv 151 6 [some (.ref 61), some (.int x1), some (.int x2)] [] σ = (if x1 ≤ x2 then some (none, σ) else jbv (jc 154 [(.ref 61), (.int x2)] σ) (fun τ1 => jv 151 6 [some (.ref 61), some (.int x1), some (.int (x2 + 1))] [] τ1)) := by
  refine (sv_iload_n jM151 c151_6 rfl rfl).trans ?_
  refine (sv_iload_n jM151 c151_7 rfl rfl).trans ?_
  refine (sv_icmp_ge jM151 c151_8 rfl (t := 22) (by decide +kernel)).trans ?_
  refine jif _ ?_ ?_
  ·
    exact sv_vret jM151 c151_22 rfl rfl
  ·
    refine (sv_aload_n jM151 c151_11 rfl rfl).trans ?_
    refine (sv_iload_n jM151 c151_12 rfl rfl).trans ?_
    refine (sv_callvv (pl := 0) jM151 c151_13 rfl (jm_call_v (a := 61) (as := [(.int x2)]) (rest := []) lm_9_243 rfl jM154 rfl rfl rfl rfl rfl) jM154 rfl rfl).trans ?_
    refine jbv_c (fun τ1 => ?_)
    refine (sv_iinc (ls1 := [some (.ref 61), some (.int x1), some (.int (x2 + 1))]) jM151 c151_16 rfl rfl (v := 1) (by decide +kernel) rfl).trans ?_
    refine (sv_goto jM151 c151_19 rfl (t := 6) (by decide +kernel)).trans ?_
    rfl
set_option maxRecDepth 20000 in
set_option maxHeartbeats 4000000 in
theorem M_dear_in (x0 : Int32) (σ : jm_S) : jc 165 [(.int x0)] σ = some (some (.int ((-100000 : Int32) + x0)), σ) := by
  refine (jc_of (ls1 := [some (.int x0)]) ((jm_ini_of jM165).trans rfl)).trans ?_
  refine (sv_ldc jM165 c165_0 rfl lc_9_94).trans ?_
  refine (sv_iload_n jM165 c165_2 rfl rfl).trans ?_
  refine (sv_iadd jM165 c165_3 rfl).trans ?_
  exact sv_iret jM165 c165_4 rfl rfl
set_option maxRecDepth 20000 in
set_option maxHeartbeats 4000000 in
theorem M_stopOf_in (x1 : Int32) (x2 : Int32) (σ : jm_S) : jc 164 [(.ref 61), (.int x1), (.int x2)] σ = jbi (jc 147 [(.ref 61), (.int (x1 + (1 : Int32)))] σ) (fun r1 τ1 => (if r1 = (-1 : Int32) then jbi (jc 166 [(.ref 61)] τ1) (fun r2 τ2 => jv 164 23 [some (.ref 61), some (.int x1), some (.int x2), some (.int r2)] [(.int x2)] τ2) else jbi (jc 165 [(.int (-3 : Int32))] τ1) (fun r3 τ3 => some (some (.int r3), τ3)))) := by
  refine (jc_of (ls1 := [some (.ref 61), some (.int x1), some (.int x2), none]) ((jm_ini_of jM164).trans rfl)).trans ?_
  refine (sv_aload_n jM164 c164_0 rfl rfl).trans ?_
  refine (sv_iload_n jM164 c164_1 rfl rfl).trans ?_
  refine (sv_iconst jM164 c164_2 rfl (v := 1) (by decide +kernel)).trans ?_
  refine (sv_iadd jM164 c164_3 rfl).trans ?_
  refine (sv_callvi (pl := 0) jM164 c164_4 rfl (jm_call_v (a := 61) (as := [(.int (x1 + (1 : Int32)))]) (rest := []) lm_9_198 rfl jM147 rfl rfl rfl rfl rfl) jM147 rfl (Or.inl rfl)).trans ?_
  refine jbi_c (fun r1 τ1 => ?_)
  refine (sv_iconst jM164 c164_7 rfl (v := -1) (by decide +kernel)).trans ?_
  refine (sv_icmp_eq jM164 c164_8 rfl (t := 17) (by decide +kernel)).trans ?_
  refine jif _ ?_ ?_
  ·
    refine (sv_aload_n jM164 c164_17 rfl rfl).trans ?_
    refine (sv_callvi (pl := 0) jM164 c164_18 rfl (jm_call_v (a := 61) (as := []) (rest := []) lm_9_273 rfl jM166 rfl rfl rfl rfl rfl) jM166 rfl (Or.inl rfl)).trans ?_
    refine jbi_c (fun r2 τ2 => ?_)
    refine (sv_istore_n (ls1 := [some (.ref 61), some (.int x1), some (.int x2), some (.int r2)]) jM164 c164_21 rfl (Nat.lt_of_lt_of_eq (by decide +kernel : 3 < 4) rfl) rfl).trans ?_
    refine (sv_iload_n jM164 c164_22 rfl rfl).trans ?_
    rfl
  ·
    refine (sv_bipush jM164 c164_11 rfl (v := -3) (by decide +kernel)).trans ?_
    refine (sv_callsi (pl := 0) jM164 c164_13 rfl (jm_call_s (as := [(.int (-3 : Int32))]) (rest := []) lm_9_270 rfl jM165 rfl rfl rfl rfl) jM165 rfl (Or.inl rfl)).trans ?_
    refine jbi_c (fun r3 τ3 => ?_)
    exact sv_iret jM164 c164_16 rfl rfl
set_option maxRecDepth 20000 in
set_option maxHeartbeats 4000000 in
theorem M_stopOf_S23_0 (x1 : Int32) (x2 : Int32) (x3 : Int32) (σ : jm_S) : jv 164 23 [some (.ref 61), some (.int x1), some (.int x2), some (.int x3)] [(.int (0 : Int32))] σ = some (some (.int x3), σ) := by
  refine (sv_ts jM164 c164_23 rfl (by decide +kernel) (z := 33) (by decide +kernel) (t := 56) (by decide +kernel)).trans ?_
  refine (sv_iload_n jM164 c164_56 rfl rfl).trans ?_
  exact sv_iret jM164 c164_57 rfl rfl
set_option maxRecDepth 20000 in
set_option maxHeartbeats 4000000 in
theorem M_stopOf_S23_1 (x1 : Int32) (x2 : Int32) (x3 : Int32) (σ : jm_S) : jv 164 23 [some (.ref 61), some (.int x1), some (.int x2), some (.int x3)] [(.int (1 : Int32))] σ = jbi (jc 168 [(.ref 61), (.int (0 : Int32))] σ) (fun r1 τ1 => some (some (.int r1), τ1)) := by
  refine (sv_ts jM164 c164_23 rfl (by decide +kernel) (z := 35) (by decide +kernel) (t := 58) (by decide +kernel)).trans ?_
  refine (sv_aload_n jM164 c164_58 rfl rfl).trans ?_
  refine (sv_iconst jM164 c164_59 rfl (v := 0) (by decide +kernel)).trans ?_
  refine (sv_callvi (pl := 0) jM164 c164_60 rfl (jm_call_v (a := 61) (as := [(.int (0 : Int32))]) (rest := []) lm_9_264 rfl jM168 rfl rfl rfl rfl rfl) jM168 rfl (Or.inl rfl)).trans ?_
  refine jbi_c (fun r1 τ1 => ?_)
  exact sv_iret jM164 c164_63 rfl rfl
set_option maxRecDepth 20000 in
set_option maxHeartbeats 4000000 in
theorem M_stopOf_S23_2 (x1 : Int32) (x2 : Int32) (x3 : Int32) (σ : jm_S) : jv 164 23 [some (.ref 61), some (.int x1), some (.int x2), some (.int x3)] [(.int (2 : Int32))] σ = jbi (jc 169 [(.ref 61)] σ) (fun r1 τ1 => some (some (.int r1), τ1)) := by
  refine (sv_ts jM164 c164_23 rfl (by decide +kernel) (z := 41) (by decide +kernel) (t := 64) (by decide +kernel)).trans ?_
  refine (sv_aload_n jM164 c164_64 rfl rfl).trans ?_
  refine (sv_callvi (pl := 0) jM164 c164_65 rfl (jm_call_v (a := 61) (as := []) (rest := []) lm_9_261 rfl jM169 rfl rfl rfl rfl rfl) jM169 rfl (Or.inl rfl)).trans ?_
  refine jbi_c (fun r1 τ1 => ?_)
  exact sv_iret jM164 c164_68 rfl rfl
set_option maxRecDepth 20000 in
set_option maxHeartbeats 4000000 in
theorem M_stopOf_S23_3 (x1 : Int32) (x2 : Int32) (x3 : Int32) (σ : jm_S) : jv 164 23 [some (.ref 61), some (.int x1), some (.int x2), some (.int x3)] [(.int (3 : Int32))] σ = jbi (jc 168 [(.ref 61), (.int (2 : Int32))] σ) (fun r1 τ1 => some (some (.int r1), τ1)) := by
  refine (sv_ts jM164 c164_23 rfl (by decide +kernel) (z := 46) (by decide +kernel) (t := 69) (by decide +kernel)).trans ?_
  refine (sv_aload_n jM164 c164_69 rfl rfl).trans ?_
  refine (sv_iconst jM164 c164_70 rfl (v := 2) (by decide +kernel)).trans ?_
  refine (sv_callvi (pl := 0) jM164 c164_71 rfl (jm_call_v (a := 61) (as := [(.int (2 : Int32))]) (rest := []) lm_9_264 rfl jM168 rfl rfl rfl rfl rfl) jM168 rfl (Or.inl rfl)).trans ?_
  refine jbi_c (fun r1 τ1 => ?_)
  exact sv_iret jM164 c164_74 rfl rfl
set_option maxRecDepth 20000 in
set_option maxHeartbeats 4000000 in
theorem M_stopOf_S23_4 (x1 : Int32) (x2 : Int32) (x3 : Int32) (σ : jm_S) : jv 164 23 [some (.ref 61), some (.int x1), some (.int x2), some (.int x3)] [(.int (4 : Int32))] σ = jbi (jc 170 [(.ref 61), (.int x3)] σ) (fun r1 τ1 => some (some (.int r1), τ1)) := by
  refine (sv_ts jM164 c164_23 rfl (by decide +kernel) (z := 52) (by decide +kernel) (t := 75) (by decide +kernel)).trans ?_
  refine (sv_aload_n jM164 c164_75 rfl rfl).trans ?_
  refine (sv_iload_n jM164 c164_76 rfl rfl).trans ?_
  refine (sv_callvi (pl := 0) jM164 c164_77 rfl (jm_call_v (a := 61) (as := [(.int x3)]) (rest := []) lm_9_267 rfl jM170 rfl rfl rfl rfl rfl) jM170 rfl (Or.inl rfl)).trans ?_
  refine jbi_c (fun r1 τ1 => ?_)
  exact sv_iret jM164 c164_80 rfl rfl
set_option maxRecDepth 20000 in
set_option maxHeartbeats 4000000 in
theorem M_stopOf_S23_o (x1 : Int32) (x2 : Int32) (x3 : Int32) (y0 : Int32) (σ : jm_S) (hx : y0.toInt < 0 ∨ 4 < y0.toInt) : jv 164 23 [some (.ref 61), some (.int x1), some (.int x2), some (.int x3)] [(.int y0)] σ = jbi (jc 171 [(.ref 61), (.int x3)] σ) (fun r1 τ1 => some (some (.int r1), τ1)) := by
  refine (sv_tso jM164 c164_23 rfl (t := 81) (by decide +kernel) hx).trans ?_
  refine (sv_aload_n jM164 c164_81 rfl rfl).trans ?_
  refine (sv_iload_n jM164 c164_82 rfl rfl).trans ?_
  refine (sv_callvi (pl := 0) jM164 c164_83 rfl (jm_call_v (a := 61) (as := [(.int x3)]) (rest := []) lm_9_276 rfl jM171 rfl rfl rfl rfl rfl) jM171 rfl (Or.inl rfl)).trans ?_
  refine jbi_c (fun r1 τ1 => ?_)
  exact sv_iret jM164 c164_86 rfl rfl
set_option maxRecDepth 20000 in
set_option maxHeartbeats 4000000 in
theorem M_isRule_in (x0 : Int32) (σ : jm_S) : jc 163 [(.int x0)] σ = jbi (jc 120 [(.long x0.toInt64), (.long (0 : Int64)), (.long (2 : Int64))] σ) (fun r1 τ1 => (if r1 = 0 ∨ r1 = 1 then some (some (.int r1), τ1) else none)) := by
  refine (jc_of (ls1 := [some (.int x0)]) ((jm_ini_of jM163).trans rfl)).trans ?_
  refine (sv_iload_n jM163 c163_0 rfl rfl).trans ?_
  refine (sv_i2l jM163 c163_1 rfl).trans ?_
  refine (sv_lconst jM163 c163_2 rfl (v := 0) (by decide +kernel)).trans ?_
  refine (sv_ldc2 jM163 c163_3 rfl ll_9_109).trans ?_
  refine (sv_callsi (pl := 0) jM163 c163_6 rfl (jm_call_s (as := [(.long x0.toInt64), (.long (0 : Int64)), (.long (2 : Int64))]) (rest := []) lm_9_95 rfl jM120 rfl rfl rfl rfl) jM120 rfl (Or.inr rfl)).trans ?_
  refine jbi_c (fun r1 τ1 => ?_)
  exact sv_zretx jM163 c163_9 rfl rfl
set_option maxRecDepth 20000 in
set_option maxHeartbeats 4000000 in
theorem M_bestNow_in (σ : jm_S) : jc 173 [(.ref 61)] σ = jv 173 6 [some (.ref 61), some (.int (-1 : Int32)), some (.int (0 : Int32)), some (.int (0 : Int32)), none] [] σ := by
  refine (jc_of (ls1 := [some (.ref 61), none, none, none, none]) ((jm_ini_of jM173).trans rfl)).trans ?_
  refine (sv_iconst jM173 c173_0 rfl (v := -1) (by decide +kernel)).trans ?_
  refine (sv_istore_n (ls1 := [some (.ref 61), some (.int (-1 : Int32)), none, none, none]) jM173 c173_1 rfl (Nat.lt_of_lt_of_eq (by decide +kernel : 1 < 5) rfl) rfl).trans ?_
  refine (sv_iconst jM173 c173_2 rfl (v := 0) (by decide +kernel)).trans ?_
  refine (sv_istore_n (ls1 := [some (.ref 61), some (.int (-1 : Int32)), some (.int (0 : Int32)), none, none]) jM173 c173_3 rfl (Nat.lt_of_lt_of_eq (by decide +kernel : 2 < 5) rfl) rfl).trans ?_
  refine (sv_iconst jM173 c173_4 rfl (v := 0) (by decide +kernel)).trans ?_
  refine (sv_istore_n (ls1 := [some (.ref 61), some (.int (-1 : Int32)), some (.int (0 : Int32)), some (.int (0 : Int32)), none]) jM173 c173_5 rfl (Nat.lt_of_lt_of_eq (by decide +kernel : 3 < 5) rfl) rfl).trans ?_
  rfl
set_option maxRecDepth 20000 in
set_option maxHeartbeats 4000000 in
theorem M_bestNow_L6 (x1 : Int32) (x2 : Int32) (x3 : Int32) (u4 : Option Value) (σ : jm_S) : jv 173 6 [some (.ref 61), some (.int x1), some (.int x2), some (.int x3), u4] [] σ = (if (3 : Int32) ≤ x3 then some (some (.int x1), σ) else jbi (jc 147 [(.ref 61), (.int (x3 + (1 : Int32)))] σ) (fun r1 τ1 => (if ¬ r1 = (-1 : Int32) then jv 173 6 [some (.ref 61), some (.int x1), some (.int x2), some (.int (x3 + 1)), u4] [] τ1 else jbi (jc 166 [(.ref 61)] τ1) (fun r2 τ2 => jbi (jc 171 [(.ref 61), (.int r2)] τ2) (fun r3 τ3 => (if x1 = (-1 : Int32) then jv 173 6 [some (.ref 61), some (.int x3), some (.int r3), some (.int (x3 + 1)), some (.int r3)] [] τ3 else (if r3 ≤ x2 then jv 173 6 [some (.ref 61), some (.int x1), some (.int x2), some (.int (x3 + 1)), some (.int r3)] [] τ3 else jv 173 6 [some (.ref 61), some (.int x3), some (.int r3), some (.int (x3 + 1)), some (.int r3)] [] τ3))))))) := by
  refine (sv_iload_n jM173 c173_6 rfl rfl).trans ?_
  refine (sv_iconst jM173 c173_7 rfl (v := 3) (by decide +kernel)).trans ?_
  refine (sv_icmp_ge jM173 c173_8 rfl (t := 54) (by decide +kernel)).trans ?_
  refine jif _ ?_ ?_
  ·
    refine (sv_iload_n jM173 c173_54 rfl rfl).trans ?_
    exact sv_iret jM173 c173_55 rfl rfl
  ·
    refine (sv_aload_n jM173 c173_11 rfl rfl).trans ?_
    refine (sv_iload_n jM173 c173_12 rfl rfl).trans ?_
    refine (sv_iconst jM173 c173_13 rfl (v := 1) (by decide +kernel)).trans ?_
    refine (sv_iadd jM173 c173_14 rfl).trans ?_
    refine (sv_callvi (pl := 0) jM173 c173_15 rfl (jm_call_v (a := 61) (as := [(.int (x3 + (1 : Int32)))]) (rest := []) lm_9_198 rfl jM147 rfl rfl rfl rfl rfl) jM147 rfl (Or.inl rfl)).trans ?_
    refine jbi_c (fun r1 τ1 => ?_)
    refine (sv_iconst jM173 c173_18 rfl (v := -1) (by decide +kernel)).trans ?_
    refine (sv_icmp_ne jM173 c173_19 rfl (t := 48) (by decide +kernel)).trans ?_
    refine jif _ ?_ ?_
    ·
      refine (sv_iinc (ls1 := [some (.ref 61), some (.int x1), some (.int x2), some (.int (x3 + 1)), u4]) jM173 c173_48 rfl rfl (v := 1) (by decide +kernel) rfl).trans ?_
      refine (sv_goto jM173 c173_51 rfl (t := 6) (by decide +kernel)).trans ?_
      rfl
    ·
      refine (sv_aload_n jM173 c173_22 rfl rfl).trans ?_
      refine (sv_aload_n jM173 c173_23 rfl rfl).trans ?_
      refine (sv_callvi (pl := 0) jM173 c173_24 rfl (jm_call_v (a := 61) (as := []) (rest := [(.ref 61)]) lm_9_273 rfl jM166 rfl rfl rfl rfl rfl) jM166 rfl (Or.inl rfl)).trans ?_
      refine jbi_c (fun r2 τ2 => ?_)
      refine (sv_callvi (pl := 0) jM173 c173_27 rfl (jm_call_v (a := 61) (as := [(.int r2)]) (rest := []) lm_9_276 rfl jM171 rfl rfl rfl rfl rfl) jM171 rfl (Or.inl rfl)).trans ?_
      refine jbi_c (fun r3 τ3 => ?_)
      refine (sv_istore (ls1 := [some (.ref 61), some (.int x1), some (.int x2), some (.int x3), some (.int r3)]) jM173 c173_30 rfl (Nat.lt_of_lt_of_eq (by decide +kernel : 4 < 5) rfl) rfl).trans ?_
      refine (sv_iload_n jM173 c173_32 rfl rfl).trans ?_
      refine (sv_iconst jM173 c173_33 rfl (v := -1) (by decide +kernel)).trans ?_
      refine (sv_icmp_eq jM173 c173_34 rfl (t := 43) (by decide +kernel)).trans ?_
      refine jif _ ?_ ?_
      ·
        refine (sv_iload_n jM173 c173_43 rfl rfl).trans ?_
        refine (sv_istore_n (ls1 := [some (.ref 61), some (.int x3), some (.int x2), some (.int x3), some (.int r3)]) jM173 c173_44 rfl (Nat.lt_of_lt_of_eq (by decide +kernel : 1 < 5) rfl) rfl).trans ?_
        refine (sv_iload jM173 c173_45 rfl rfl).trans ?_
        refine (sv_istore_n (ls1 := [some (.ref 61), some (.int x3), some (.int r3), some (.int x3), some (.int r3)]) jM173 c173_47 rfl (Nat.lt_of_lt_of_eq (by decide +kernel : 2 < 5) rfl) rfl).trans ?_
        refine (sv_iinc (ls1 := [some (.ref 61), some (.int x3), some (.int r3), some (.int (x3 + 1)), some (.int r3)]) jM173 c173_48 rfl rfl (v := 1) (by decide +kernel) rfl).trans ?_
        refine (sv_goto jM173 c173_51 rfl (t := 6) (by decide +kernel)).trans ?_
        rfl
      ·
        refine (sv_iload jM173 c173_37 rfl rfl).trans ?_
        refine (sv_iload_n jM173 c173_39 rfl rfl).trans ?_
        refine (sv_icmp_le jM173 c173_40 rfl (t := 48) (by decide +kernel)).trans ?_
        refine jif _ ?_ ?_
        ·
          refine (sv_iinc (ls1 := [some (.ref 61), some (.int x1), some (.int x2), some (.int (x3 + 1)), some (.int r3)]) jM173 c173_48 rfl rfl (v := 1) (by decide +kernel) rfl).trans ?_
          refine (sv_goto jM173 c173_51 rfl (t := 6) (by decide +kernel)).trans ?_
          rfl
        ·
          refine (sv_iload_n jM173 c173_43 rfl rfl).trans ?_
          refine (sv_istore_n (ls1 := [some (.ref 61), some (.int x3), some (.int x2), some (.int x3), some (.int r3)]) jM173 c173_44 rfl (Nat.lt_of_lt_of_eq (by decide +kernel : 1 < 5) rfl) rfl).trans ?_
          refine (sv_iload jM173 c173_45 rfl rfl).trans ?_
          refine (sv_istore_n (ls1 := [some (.ref 61), some (.int x3), some (.int r3), some (.int x3), some (.int r3)]) jM173 c173_47 rfl (Nat.lt_of_lt_of_eq (by decide +kernel : 2 < 5) rfl) rfl).trans ?_
          refine (sv_iinc (ls1 := [some (.ref 61), some (.int x3), some (.int r3), some (.int (x3 + 1)), some (.int r3)]) jM173 c173_48 rfl rfl (v := 1) (by decide +kernel) rfl).trans ?_
          refine (sv_goto jM173 c173_51 rfl (t := 6) (by decide +kernel)).trans ?_
          rfl
set_option maxRecDepth 20000 in
set_option maxHeartbeats 4000000 in
theorem M_isLong_in (x0 : Int32) (σ : jm_S) : jc 175 [(.int x0)] σ = jbi (jc 120 [(.long x0.toInt64), (.long (1 : Int64)), (.long (200 : Int64))] σ) (fun r1 τ1 => (if r1 = 0 ∨ r1 = 1 then some (some (.int r1), τ1) else none)) := by
  refine (jc_of (ls1 := [some (.int x0)]) ((jm_ini_of jM175).trans rfl)).trans ?_
  refine (sv_iload_n jM175 c175_0 rfl rfl).trans ?_
  refine (sv_i2l jM175 c175_1 rfl).trans ?_
  refine (sv_lconst jM175 c175_2 rfl (v := 1) (by decide +kernel)).trans ?_
  refine (sv_ldc2 jM175 c175_3 rfl ll_9_246).trans ?_
  refine (sv_callsi (pl := 0) jM175 c175_6 rfl (jm_call_s (as := [(.long x0.toInt64), (.long (1 : Int64)), (.long (200 : Int64))]) (rest := []) lm_9_95 rfl jM120 rfl rfl rfl rfl) jM120 rfl (Or.inr rfl)).trans ?_
  refine jbi_c (fun r1 τ1 => ?_)
  exact sv_zretx jM175 c175_9 rfl rfl
set_option maxRecDepth 20000 in
set_option maxHeartbeats 4000000 in
theorem M_evenOf_in (x1 : Int32) (x2 : Int32) (σ : jm_S) : jc 176 [(.ref 61), (.int x1), (.int x2)] σ = jbv (jc 177 [(.ref 61), (.int x1)] σ) (fun τ1 => jv 176 10 [some (.ref 61), some (.int x1), some (.int x2), some (.int (1 : Int32)), some (.int (2 : Int32)), none] [] τ1) := by
  refine (jc_of (ls1 := [some (.ref 61), some (.int x1), some (.int x2), none, none, none]) ((jm_ini_of jM176).trans rfl)).trans ?_
  refine (sv_aload_n jM176 c176_0 rfl rfl).trans ?_
  refine (sv_iload_n jM176 c176_1 rfl rfl).trans ?_
  refine (sv_callvv (pl := 0) jM176 c176_2 rfl (jm_call_v (a := 61) (as := [(.int x1)]) (rest := []) lm_9_288 rfl jM177 rfl rfl rfl rfl rfl) jM177 rfl rfl).trans ?_
  refine jbv_c (fun τ1 => ?_)
  refine (sv_iconst jM176 c176_5 rfl (v := 1) (by decide +kernel)).trans ?_
  refine (sv_istore_n (ls1 := [some (.ref 61), some (.int x1), some (.int x2), some (.int (1 : Int32)), none, none]) jM176 c176_6 rfl (Nat.lt_of_lt_of_eq (by decide +kernel : 3 < 6) rfl) rfl).trans ?_
  refine (sv_iconst jM176 c176_7 rfl (v := 2) (by decide +kernel)).trans ?_
  refine (sv_istore (ls1 := [some (.ref 61), some (.int x1), some (.int x2), some (.int (1 : Int32)), some (.int (2 : Int32)), none]) jM176 c176_8 rfl (Nat.lt_of_lt_of_eq (by decide +kernel : 4 < 6) rfl) rfl).trans ?_
  rfl
set_option maxRecDepth 20000 in
set_option maxHeartbeats 4000000 in
theorem M_evenOf_L10 (x1 : Int32) (x2 : Int32) (x3 : Int32) (x4 : Int32) (u5 : Option Value) (σ : jm_S) : jv 176 10 [some (.ref 61), some (.int x1), some (.int x2), some (.int x3), some (.int x4), u5] [] σ = (if (100 : Int32) ≤ x4 then (if ¬ x2 = 0 then (if ¬ x2 = (1 : Int32) then (if x3 < 0 ∨ 100 ≤ x3.toNatClampNeg then none else some (some (.int (σ 86 x3.toNatClampNeg)), σ)) else (if x3 < 0 ∨ 100 ≤ x3.toNatClampNeg then none else some (some (.int (σ 85 x3.toNatClampNeg)), σ))) else some (some (.int x3), σ)) else (if x4 < 0 ∨ 100 ≤ x4.toNatClampNeg then none else (if x3 < 0 ∨ 100 ≤ x3.toNatClampNeg then none else (if (σ 85 x3.toNatClampNeg) < (σ 85 x4.toNatClampNeg) then jv 176 10 [some (.ref 61), some (.int x1), some (.int x2), some (.int x4), some (.int (x4 + 1)), some (.int (1 : Int32))] [] σ else (if x4 < 0 ∨ 100 ≤ x4.toNatClampNeg then none else (if x3 < 0 ∨ 100 ≤ x3.toNatClampNeg then none else (if ¬ (σ 85 x4.toNatClampNeg) = (σ 85 x3.toNatClampNeg) then jv 176 10 [some (.ref 61), some (.int x1), some (.int x2), some (.int x3), some (.int (x4 + 1)), some (.int (0 : Int32))] [] σ else (if x4 < 0 ∨ 100 ≤ x4.toNatClampNeg then none else (if x3 < 0 ∨ 100 ≤ x3.toNatClampNeg then none else (if (σ 86 x3.toNatClampNeg) ≤ (σ 86 x4.toNatClampNeg) then jv 176 10 [some (.ref 61), some (.int x1), some (.int x2), some (.int x3), some (.int (x4 + 1)), some (.int (0 : Int32))] [] σ else jv 176 10 [some (.ref 61), some (.int x1), some (.int x2), some (.int x4), some (.int (x4 + 1)), some (.int (1 : Int32))] [] σ)))))))))) := by
  refine (sv_iload jM176 c176_10 rfl rfl).trans ?_
  refine (sv_bipush jM176 c176_12 rfl (v := 100) (by decide +kernel)).trans ?_
  refine (sv_icmp_ge jM176 c176_14 rfl (t := 90) (by decide +kernel)).trans ?_
  refine jif _ ?_ ?_
  ·
    refine (sv_iload_n jM176 c176_90 rfl rfl).trans ?_
    refine (sv_if_ne jM176 c176_91 rfl (t := 98) (by decide +kernel)).trans ?_
    refine jif _ ?_ ?_
    ·
      refine (sv_iload_n jM176 c176_98 rfl rfl).trans ?_
      refine (sv_iconst jM176 c176_99 rfl (v := 1) (by decide +kernel)).trans ?_
      refine (sv_icmp_ne jM176 c176_100 rfl (t := 112) (by decide +kernel)).trans ?_
      refine jif _ ?_ ?_
      ·
        refine (sv_aload_n jM176 c176_112 rfl rfl).trans ?_
        refine (sv_getf jM176 c176_113 rfl lf_9_83 (fg_61_35 _)).trans ?_
        refine (sv_iload_n jM176 c176_116 rfl rfl).trans ?_
        refine (sv_iald jM176 c176_117 rfl (ia_86 _)).trans ?_
        refine jif _ rfl ?_
        exact sv_iret jM176 c176_118 rfl rfl
      ·
        refine (sv_aload_n jM176 c176_103 rfl rfl).trans ?_
        refine (sv_getf jM176 c176_104 rfl lf_9_80 (fg_61_34 _)).trans ?_
        refine (sv_iload_n jM176 c176_107 rfl rfl).trans ?_
        refine (sv_iald jM176 c176_108 rfl (ia_85 _)).trans ?_
        refine jif _ rfl ?_
        refine (sv_goto jM176 c176_109 rfl (t := 118) (by decide +kernel)).trans ?_
        exact sv_iret jM176 c176_118 rfl rfl
    ·
      refine (sv_iload_n jM176 c176_94 rfl rfl).trans ?_
      refine (sv_goto jM176 c176_95 rfl (t := 118) (by decide +kernel)).trans ?_
      exact sv_iret jM176 c176_118 rfl rfl
  ·
    refine (sv_aload_n jM176 c176_17 rfl rfl).trans ?_
    refine (sv_getf jM176 c176_18 rfl lf_9_80 (fg_61_34 _)).trans ?_
    refine (sv_iload jM176 c176_21 rfl rfl).trans ?_
    refine (sv_iald jM176 c176_23 rfl (ia_85 _)).trans ?_
    refine jif _ rfl ?_
    refine (sv_aload_n jM176 c176_24 rfl rfl).trans ?_
    refine (sv_getf jM176 c176_25 rfl lf_9_80 (fg_61_34 _)).trans ?_
    refine (sv_iload_n jM176 c176_28 rfl rfl).trans ?_
    refine (sv_iald jM176 c176_29 rfl (ia_85 _)).trans ?_
    refine jif _ rfl ?_
    refine (sv_icmp_gt jM176 c176_30 rfl (t := 65) (by decide +kernel)).trans ?_
    refine jif _ ?_ ?_
    ·
      refine (sv_iconst jM176 c176_65 rfl (v := 1) (by decide +kernel)).trans ?_
      refine (sv_goto jM176 c176_66 rfl (t := 70) (by decide +kernel)).trans ?_
      refine (sv_istore (ls1 := [some (.ref 61), some (.int x1), some (.int x2), some (.int x3), some (.int x4), some (.int (1 : Int32))]) jM176 c176_70 rfl (Nat.lt_of_lt_of_eq (by decide +kernel : 5 < 6) rfl) rfl).trans ?_
      refine (sv_iload jM176 c176_72 rfl rfl).trans ?_
      refine (sv_if_eq jM176 c176_74 rfl (t := 82) (by decide +kernel)).trans ?_
      refine (if_neg (by decide +kernel)).trans ?_
      refine (sv_iload jM176 c176_77 rfl rfl).trans ?_
      refine (sv_goto jM176 c176_79 rfl (t := 83) (by decide +kernel)).trans ?_
      refine (sv_istore_n (ls1 := [some (.ref 61), some (.int x1), some (.int x2), some (.int x4), some (.int x4), some (.int (1 : Int32))]) jM176 c176_83 rfl (Nat.lt_of_lt_of_eq (by decide +kernel : 3 < 6) rfl) rfl).trans ?_
      refine (sv_iinc (ls1 := [some (.ref 61), some (.int x1), some (.int x2), some (.int x4), some (.int (x4 + 1)), some (.int (1 : Int32))]) jM176 c176_84 rfl rfl (v := 1) (by decide +kernel) rfl).trans ?_
      refine (sv_goto jM176 c176_87 rfl (t := 10) (by decide +kernel)).trans ?_
      rfl
    ·
      refine (sv_aload_n jM176 c176_33 rfl rfl).trans ?_
      refine (sv_getf jM176 c176_34 rfl lf_9_80 (fg_61_34 _)).trans ?_
      refine (sv_iload jM176 c176_37 rfl rfl).trans ?_
      refine (sv_iald jM176 c176_39 rfl (ia_85 _)).trans ?_
      refine jif _ rfl ?_
      refine (sv_aload_n jM176 c176_40 rfl rfl).trans ?_
      refine (sv_getf jM176 c176_41 rfl lf_9_80 (fg_61_34 _)).trans ?_
      refine (sv_iload_n jM176 c176_44 rfl rfl).trans ?_
      refine (sv_iald jM176 c176_45 rfl (ia_85 _)).trans ?_
      refine jif _ rfl ?_
      refine (sv_icmp_ne jM176 c176_46 rfl (t := 69) (by decide +kernel)).trans ?_
      refine jif _ ?_ ?_
      ·
        refine (sv_iconst jM176 c176_69 rfl (v := 0) (by decide +kernel)).trans ?_
        refine (sv_istore (ls1 := [some (.ref 61), some (.int x1), some (.int x2), some (.int x3), some (.int x4), some (.int (0 : Int32))]) jM176 c176_70 rfl (Nat.lt_of_lt_of_eq (by decide +kernel : 5 < 6) rfl) rfl).trans ?_
        refine (sv_iload jM176 c176_72 rfl rfl).trans ?_
        refine (sv_if_eq jM176 c176_74 rfl (t := 82) (by decide +kernel)).trans ?_
        refine (if_pos (by decide +kernel)).trans ?_
        refine (sv_iload_n jM176 c176_82 rfl rfl).trans ?_
        refine (sv_istore_n (ls1 := [some (.ref 61), some (.int x1), some (.int x2), some (.int x3), some (.int x4), some (.int (0 : Int32))]) jM176 c176_83 rfl (Nat.lt_of_lt_of_eq (by decide +kernel : 3 < 6) rfl) rfl).trans ?_
        refine (sv_iinc (ls1 := [some (.ref 61), some (.int x1), some (.int x2), some (.int x3), some (.int (x4 + 1)), some (.int (0 : Int32))]) jM176 c176_84 rfl rfl (v := 1) (by decide +kernel) rfl).trans ?_
        refine (sv_goto jM176 c176_87 rfl (t := 10) (by decide +kernel)).trans ?_
        rfl
      ·
        refine (sv_aload_n jM176 c176_49 rfl rfl).trans ?_
        refine (sv_getf jM176 c176_50 rfl lf_9_83 (fg_61_35 _)).trans ?_
        refine (sv_iload jM176 c176_53 rfl rfl).trans ?_
        refine (sv_iald jM176 c176_55 rfl (ia_86 _)).trans ?_
        refine jif _ rfl ?_
        refine (sv_aload_n jM176 c176_56 rfl rfl).trans ?_
        refine (sv_getf jM176 c176_57 rfl lf_9_83 (fg_61_35 _)).trans ?_
        refine (sv_iload_n jM176 c176_60 rfl rfl).trans ?_
        refine (sv_iald jM176 c176_61 rfl (ia_86 _)).trans ?_
        refine jif _ rfl ?_
        refine (sv_icmp_ge jM176 c176_62 rfl (t := 69) (by decide +kernel)).trans ?_
        refine jif _ ?_ ?_
        ·
          refine (sv_iconst jM176 c176_69 rfl (v := 0) (by decide +kernel)).trans ?_
          refine (sv_istore (ls1 := [some (.ref 61), some (.int x1), some (.int x2), some (.int x3), some (.int x4), some (.int (0 : Int32))]) jM176 c176_70 rfl (Nat.lt_of_lt_of_eq (by decide +kernel : 5 < 6) rfl) rfl).trans ?_
          refine (sv_iload jM176 c176_72 rfl rfl).trans ?_
          refine (sv_if_eq jM176 c176_74 rfl (t := 82) (by decide +kernel)).trans ?_
          refine (if_pos (by decide +kernel)).trans ?_
          refine (sv_iload_n jM176 c176_82 rfl rfl).trans ?_
          refine (sv_istore_n (ls1 := [some (.ref 61), some (.int x1), some (.int x2), some (.int x3), some (.int x4), some (.int (0 : Int32))]) jM176 c176_83 rfl (Nat.lt_of_lt_of_eq (by decide +kernel : 3 < 6) rfl) rfl).trans ?_
          refine (sv_iinc (ls1 := [some (.ref 61), some (.int x1), some (.int x2), some (.int x3), some (.int (x4 + 1)), some (.int (0 : Int32))]) jM176 c176_84 rfl rfl (v := 1) (by decide +kernel) rfl).trans ?_
          refine (sv_goto jM176 c176_87 rfl (t := 10) (by decide +kernel)).trans ?_
          rfl
        ·
          refine (sv_iconst jM176 c176_65 rfl (v := 1) (by decide +kernel)).trans ?_
          refine (sv_goto jM176 c176_66 rfl (t := 70) (by decide +kernel)).trans ?_
          refine (sv_istore (ls1 := [some (.ref 61), some (.int x1), some (.int x2), some (.int x3), some (.int x4), some (.int (1 : Int32))]) jM176 c176_70 rfl (Nat.lt_of_lt_of_eq (by decide +kernel : 5 < 6) rfl) rfl).trans ?_
          refine (sv_iload jM176 c176_72 rfl rfl).trans ?_
          refine (sv_if_eq jM176 c176_74 rfl (t := 82) (by decide +kernel)).trans ?_
          refine (if_neg (by decide +kernel)).trans ?_
          refine (sv_iload jM176 c176_77 rfl rfl).trans ?_
          refine (sv_goto jM176 c176_79 rfl (t := 83) (by decide +kernel)).trans ?_
          refine (sv_istore_n (ls1 := [some (.ref 61), some (.int x1), some (.int x2), some (.int x4), some (.int x4), some (.int (1 : Int32))]) jM176 c176_83 rfl (Nat.lt_of_lt_of_eq (by decide +kernel : 3 < 6) rfl) rfl).trans ?_
          refine (sv_iinc (ls1 := [some (.ref 61), some (.int x1), some (.int x2), some (.int x4), some (.int (x4 + 1)), some (.int (1 : Int32))]) jM176 c176_84 rfl rfl (v := 1) (by decide +kernel) rfl).trans ?_
          refine (sv_goto jM176 c176_87 rfl (t := 10) (by decide +kernel)).trans ?_
          rfl
set_option maxRecDepth 20000 in
set_option maxHeartbeats 4000000 in
theorem M_findEven_in (x1 : Int32) (σ : jm_S) : jc 177 [(.ref 61), (.int x1)] σ = jbv (jc 150 [(.ref 61)] σ) (fun τ1 => jv 177 6 [some (.ref 61), some (.int x1), some (.int (1 : Int32))] [] τ1) := by
  refine (jc_of (ls1 := [some (.ref 61), some (.int x1), none]) ((jm_ini_of jM177).trans rfl)).trans ?_
  refine (sv_aload_n jM177 c177_0 rfl rfl).trans ?_
  refine (sv_callvv (pl := 0) jM177 c177_1 rfl (jm_call_v (a := 61) (as := []) (rest := []) lm_9_248 rfl jM150 rfl rfl rfl rfl rfl) jM150 rfl rfl).trans ?_
  refine jbv_c (fun τ1 => ?_)
  refine (sv_iconst jM177 c177_4 rfl (v := 1) (by decide +kernel)).trans ?_
  refine (sv_istore_n (ls1 := [some (.ref 61), some (.int x1), some (.int (1 : Int32))]) jM177 c177_5 rfl (Nat.lt_of_lt_of_eq (by decide +kernel : 2 < 3) rfl) rfl).trans ?_
  rfl
set_option maxRecDepth 20000 in
set_option maxHeartbeats 4000000 in
theorem M_findEven_L6 (x1 : Int32) (x2 : Int32) (σ : jm_S) : jv 177 6 [some (.ref 61), some (.int x1), some (.int x2)] [] σ = (if (100 : Int32) ≤ x2 then some (none, σ) else jbv (jc 151 [(.ref 61), (.int x1)] (jm_up σ 61 22 x2)) (fun τ1 => jbi (jc 168 [(.ref 61), (.int (1 : Int32))] τ1) (fun r2 τ2 => (if x2 < 0 ∨ 100 ≤ x2.toNatClampNeg then none else jbi (jc 168 [(.ref 61), (.int (2 : Int32))] (jm_up τ2 85 x2.toNatClampNeg r2)) (fun r3 τ3 => (if x2 < 0 ∨ 100 ≤ x2.toNatClampNeg then none else jv 177 6 [some (.ref 61), some (.int x1), some (.int (x2 + 1))] [] (jm_up τ3 86 x2.toNatClampNeg r3))))))) := by
  refine (sv_iload_n jM177 c177_6 rfl rfl).trans ?_
  refine (sv_bipush jM177 c177_7 rfl (v := 100) (by decide +kernel)).trans ?_
  refine (sv_icmp_ge jM177 c177_9 rfl (t := 50) (by decide +kernel)).trans ?_
  refine jif _ ?_ ?_
  ·
    exact sv_vret jM177 c177_50 rfl rfl
  ·
    refine (sv_aload_n jM177 c177_12 rfl rfl).trans ?_
    refine (sv_iload_n jM177 c177_13 rfl rfl).trans ?_
    refine (sv_putf jM177 c177_14 rfl lf_9_212 (pf_61_22 _ _)).trans ?_
    refine (sv_aload_n jM177 c177_17 rfl rfl).trans ?_
    refine (sv_iload_n jM177 c177_18 rfl rfl).trans ?_
    refine (sv_callvv (pl := 0) jM177 c177_19 rfl (jm_call_v (a := 61) (as := [(.int x1)]) (rest := []) lm_9_251 rfl jM151 rfl rfl rfl rfl rfl) jM151 rfl rfl).trans ?_
    refine jbv_c (fun τ1 => ?_)
    refine (sv_aload_n jM177 c177_22 rfl rfl).trans ?_
    refine (sv_getf jM177 c177_23 rfl lf_9_80 (fg_61_34 _)).trans ?_
    refine (sv_iload_n jM177 c177_26 rfl rfl).trans ?_
    refine (sv_aload_n jM177 c177_27 rfl rfl).trans ?_
    refine (sv_iconst jM177 c177_28 rfl (v := 1) (by decide +kernel)).trans ?_
    refine (sv_callvi (pl := 0) jM177 c177_29 rfl (jm_call_v (a := 61) (as := [(.int (1 : Int32))]) (rest := [(.int x2), (.ref 85)]) lm_9_264 rfl jM168 rfl rfl rfl rfl rfl) jM168 rfl (Or.inl rfl)).trans ?_
    refine jbi_c (fun r2 τ2 => ?_)
    refine (sv_iast jM177 c177_32 rfl wi_85).trans ?_
    refine jif _ rfl ?_
    refine (sv_aload_n jM177 c177_33 rfl rfl).trans ?_
    refine (sv_getf jM177 c177_34 rfl lf_9_83 (fg_61_35 _)).trans ?_
    refine (sv_iload_n jM177 c177_37 rfl rfl).trans ?_
    refine (sv_aload_n jM177 c177_38 rfl rfl).trans ?_
    refine (sv_iconst jM177 c177_39 rfl (v := 2) (by decide +kernel)).trans ?_
    refine (sv_callvi (pl := 0) jM177 c177_40 rfl (jm_call_v (a := 61) (as := [(.int (2 : Int32))]) (rest := [(.int x2), (.ref 86)]) lm_9_264 rfl jM168 rfl rfl rfl rfl rfl) jM168 rfl (Or.inl rfl)).trans ?_
    refine jbi_c (fun r3 τ3 => ?_)
    refine (sv_iast jM177 c177_43 rfl wi_86).trans ?_
    refine jif _ rfl ?_
    refine (sv_iinc (ls1 := [some (.ref 61), some (.int x1), some (.int (x2 + 1))]) jM177 c177_44 rfl rfl (v := 1) (by decide +kernel) rfl).trans ?_
    refine (sv_goto jM177 c177_47 rfl (t := 6) (by decide +kernel)).trans ?_
    rfl
set_option maxRecDepth 20000 in
set_option maxHeartbeats 4000000 in
theorem M_allLarge_in (σ : jm_S) : jc 169 [(.ref 61)] σ = jv 169 4 [some (.ref 61), some (.int (0 : Int32)), some (.int (0 : Int32))] [] σ := by
  refine (jc_of (ls1 := [some (.ref 61), none, none]) ((jm_ini_of jM169).trans rfl)).trans ?_
  refine (sv_iconst jM169 c169_0 rfl (v := 0) (by decide +kernel)).trans ?_
  refine (sv_istore_n (ls1 := [some (.ref 61), some (.int (0 : Int32)), none]) jM169 c169_1 rfl (Nat.lt_of_lt_of_eq (by decide +kernel : 1 < 3) rfl) rfl).trans ?_
  refine (sv_iconst jM169 c169_2 rfl (v := 0) (by decide +kernel)).trans ?_
  refine (sv_istore_n (ls1 := [some (.ref 61), some (.int (0 : Int32)), some (.int (0 : Int32))]) jM169 c169_3 rfl (Nat.lt_of_lt_of_eq (by decide +kernel : 2 < 3) rfl) rfl).trans ?_
  rfl
set_option maxRecDepth 20000 in
set_option maxHeartbeats 4000000 in
theorem M_allLarge_L4 (x1 : Int32) (x2 : Int32) (σ : jm_S) : jv 169 4 [some (.ref 61), some (.int x1), some (.int x2)] [] σ = (if (σ 61 5) ≤ x2 then some (some (.int x1), σ) else jbi (jc 153 [(.ref 61), (.int x2)] σ) (fun r1 τ1 => (if r1 = 0 then jv 169 4 [some (.ref 61), some (.int (x1 + (0 : Int32))), some (.int (x2 + 1))] [] τ1 else (if x2 < 0 ∨ 12 ≤ x2.toNatClampNeg then none else jv 169 4 [some (.ref 61), some (.int (x1 + (τ1 81 x2.toNatClampNeg))), some (.int (x2 + 1))] [] τ1)))) := by
  refine (sv_iload_n jM169 c169_4 rfl rfl).trans ?_
  refine (sv_aload_n jM169 c169_5 rfl rfl).trans ?_
  refine (sv_getf jM169 c169_6 rfl lf_9_124 (fg_61_5 _)).trans ?_
  refine (sv_icmp_ge jM169 c169_9 rfl (t := 39) (by decide +kernel)).trans ?_
  refine jif _ ?_ ?_
  ·
    refine (sv_iload_n jM169 c169_39 rfl rfl).trans ?_
    exact sv_iret jM169 c169_40 rfl rfl
  ·
    refine (sv_iload_n jM169 c169_12 rfl rfl).trans ?_
    refine (sv_aload_n jM169 c169_13 rfl rfl).trans ?_
    refine (sv_iload_n jM169 c169_14 rfl rfl).trans ?_
    refine (sv_callvi (pl := 0) jM169 c169_15 rfl (jm_call_v (a := 61) (as := [(.int x2)]) (rest := [(.int x1)]) lm_9_221 rfl jM153 rfl rfl rfl rfl rfl) jM153 rfl (Or.inr rfl)).trans ?_
    refine jbi_c (fun r1 τ1 => ?_)
    refine (sv_if_eq jM169 c169_18 rfl (t := 30) (by decide +kernel)).trans ?_
    refine jif _ ?_ ?_
    ·
      refine (sv_iconst jM169 c169_30 rfl (v := 0) (by decide +kernel)).trans ?_
      refine (sv_iadd jM169 c169_31 rfl).trans ?_
      refine (sv_istore_n (ls1 := [some (.ref 61), some (.int (x1 + (0 : Int32))), some (.int x2)]) jM169 c169_32 rfl (Nat.lt_of_lt_of_eq (by decide +kernel : 1 < 3) rfl) rfl).trans ?_
      refine (sv_iinc (ls1 := [some (.ref 61), some (.int (x1 + (0 : Int32))), some (.int (x2 + 1))]) jM169 c169_33 rfl rfl (v := 1) (by decide +kernel) rfl).trans ?_
      refine (sv_goto jM169 c169_36 rfl (t := 4) (by decide +kernel)).trans ?_
      rfl
    ·
      refine (sv_aload_n jM169 c169_21 rfl rfl).trans ?_
      refine (sv_getf jM169 c169_22 rfl lf_9_68 (fg_61_30 _)).trans ?_
      refine (sv_iload_n jM169 c169_25 rfl rfl).trans ?_
      refine (sv_iald jM169 c169_26 rfl (ia_81 _)).trans ?_
      refine jif _ rfl ?_
      refine (sv_goto jM169 c169_27 rfl (t := 31) (by decide +kernel)).trans ?_
      refine (sv_iadd jM169 c169_31 rfl).trans ?_
      refine (sv_istore_n (ls1 := [some (.ref 61), some (.int (x1 + (τ1 81 x2.toNatClampNeg))), some (.int x2)]) jM169 c169_32 rfl (Nat.lt_of_lt_of_eq (by decide +kernel : 1 < 3) rfl) rfl).trans ?_
      refine (sv_iinc (ls1 := [some (.ref 61), some (.int (x1 + (τ1 81 x2.toNatClampNeg))), some (.int (x2 + 1))]) jM169 c169_33 rfl rfl (v := 1) (by decide +kernel) rfl).trans ?_
      refine (sv_goto jM169 c169_36 rfl (t := 4) (by decide +kernel)).trans ?_
      rfl
set_option maxRecDepth 20000 in
set_option maxHeartbeats 4000000 in
theorem M_isTwo_in (x0 : Int32) (σ : jm_S) : jc 180 [(.int x0)] σ = jbi (jc 120 [(.long x0.toInt64), (.long (0 : Int64)), (.long (1 : Int64))] σ) (fun r1 τ1 => (if r1 = 0 ∨ r1 = 1 then some (some (.int r1), τ1) else none)) := by
  refine (jc_of (ls1 := [some (.int x0)]) ((jm_ini_of jM180).trans rfl)).trans ?_
  refine (sv_iload_n jM180 c180_0 rfl rfl).trans ?_
  refine (sv_i2l jM180 c180_1 rfl).trans ?_
  refine (sv_lconst jM180 c180_2 rfl (v := 0) (by decide +kernel)).trans ?_
  refine (sv_lconst jM180 c180_3 rfl (v := 1) (by decide +kernel)).trans ?_
  refine (sv_callsi (pl := 0) jM180 c180_4 rfl (jm_call_s (as := [(.long x0.toInt64), (.long (0 : Int64)), (.long (1 : Int64))]) (rest := []) lm_9_95 rfl jM120 rfl rfl rfl rfl) jM120 rfl (Or.inr rfl)).trans ?_
  refine jbi_c (fun r1 τ1 => ?_)
  exact sv_zretx jM180 c180_7 rfl rfl
set_option maxRecDepth 20000 in
set_option maxHeartbeats 4000000 in
theorem M_many_in (x1 : Int32) (σ : jm_S) : jc 168 [(.ref 61), (.int x1)] σ = jv 168 4 [some (.ref 61), some (.int x1), some (.int (0 : Int32)), some (.int (0 : Int32))] [] σ := by
  refine (jc_of (ls1 := [some (.ref 61), some (.int x1), none, none]) ((jm_ini_of jM168).trans rfl)).trans ?_
  refine (sv_iconst jM168 c168_0 rfl (v := 0) (by decide +kernel)).trans ?_
  refine (sv_istore_n (ls1 := [some (.ref 61), some (.int x1), some (.int (0 : Int32)), none]) jM168 c168_1 rfl (Nat.lt_of_lt_of_eq (by decide +kernel : 2 < 4) rfl) rfl).trans ?_
  refine (sv_iconst jM168 c168_2 rfl (v := 0) (by decide +kernel)).trans ?_
  refine (sv_istore_n (ls1 := [some (.ref 61), some (.int x1), some (.int (0 : Int32)), some (.int (0 : Int32))]) jM168 c168_3 rfl (Nat.lt_of_lt_of_eq (by decide +kernel : 3 < 4) rfl) rfl).trans ?_
  rfl
set_option maxRecDepth 20000 in
set_option maxHeartbeats 4000000 in
theorem M_many_L4 (x1 : Int32) (x2 : Int32) (x3 : Int32) (σ : jm_S) : jv 168 4 [some (.ref 61), some (.int x1), some (.int x2), some (.int x3)] [] σ = (if (σ 61 5) ≤ x3 then some (some (.int x2), σ) else jbi (jc 153 [(.ref 61), (.int x3)] σ) (fun r1 τ1 => (if r1 = 0 then jv 168 4 [some (.ref 61), some (.int x1), some (.int (x2 + (0 : Int32))), some (.int (x3 + 1))] [] τ1 else (if x3 < 0 ∨ 12 ≤ x3.toNatClampNeg then none else (if ¬ (τ1 79 x3.toNatClampNeg) = x1 then jv 168 4 [some (.ref 61), some (.int x1), some (.int (x2 + (0 : Int32))), some (.int (x3 + 1))] [] τ1 else jv 168 4 [some (.ref 61), some (.int x1), some (.int (x2 + (1 : Int32))), some (.int (x3 + 1))] [] τ1))))) := by
  refine (sv_iload_n jM168 c168_4 rfl rfl).trans ?_
  refine (sv_aload_n jM168 c168_5 rfl rfl).trans ?_
  refine (sv_getf jM168 c168_6 rfl lf_9_124 (fg_61_5 _)).trans ?_
  refine (sv_icmp_ge jM168 c168_9 rfl (t := 44) (by decide +kernel)).trans ?_
  refine jif _ ?_ ?_
  ·
    refine (sv_iload_n jM168 c168_44 rfl rfl).trans ?_
    exact sv_iret jM168 c168_45 rfl rfl
  ·
    refine (sv_iload_n jM168 c168_12 rfl rfl).trans ?_
    refine (sv_aload_n jM168 c168_13 rfl rfl).trans ?_
    refine (sv_iload_n jM168 c168_14 rfl rfl).trans ?_
    refine (sv_callvi (pl := 0) jM168 c168_15 rfl (jm_call_v (a := 61) (as := [(.int x3)]) (rest := [(.int x2)]) lm_9_221 rfl jM153 rfl rfl rfl rfl rfl) jM153 rfl (Or.inr rfl)).trans ?_
    refine jbi_c (fun r1 τ1 => ?_)
    refine (sv_if_eq jM168 c168_18 rfl (t := 35) (by decide +kernel)).trans ?_
    refine jif _ ?_ ?_
    ·
      refine (sv_iconst jM168 c168_35 rfl (v := 0) (by decide +kernel)).trans ?_
      refine (sv_iadd jM168 c168_36 rfl).trans ?_
      refine (sv_istore_n (ls1 := [some (.ref 61), some (.int x1), some (.int (x2 + (0 : Int32))), some (.int x3)]) jM168 c168_37 rfl (Nat.lt_of_lt_of_eq (by decide +kernel : 2 < 4) rfl) rfl).trans ?_
      refine (sv_iinc (ls1 := [some (.ref 61), some (.int x1), some (.int (x2 + (0 : Int32))), some (.int (x3 + 1))]) jM168 c168_38 rfl rfl (v := 1) (by decide +kernel) rfl).trans ?_
      refine (sv_goto jM168 c168_41 rfl (t := 4) (by decide +kernel)).trans ?_
      rfl
    ·
      refine (sv_aload_n jM168 c168_21 rfl rfl).trans ?_
      refine (sv_getf jM168 c168_22 rfl lf_9_62 (fg_61_28 _)).trans ?_
      refine (sv_iload_n jM168 c168_25 rfl rfl).trans ?_
      refine (sv_iald jM168 c168_26 rfl (ia_79 _)).trans ?_
      refine jif _ rfl ?_
      refine (sv_iload_n jM168 c168_27 rfl rfl).trans ?_
      refine (sv_icmp_ne jM168 c168_28 rfl (t := 35) (by decide +kernel)).trans ?_
      refine jif _ ?_ ?_
      ·
        refine (sv_iconst jM168 c168_35 rfl (v := 0) (by decide +kernel)).trans ?_
        refine (sv_iadd jM168 c168_36 rfl).trans ?_
        refine (sv_istore_n (ls1 := [some (.ref 61), some (.int x1), some (.int (x2 + (0 : Int32))), some (.int x3)]) jM168 c168_37 rfl (Nat.lt_of_lt_of_eq (by decide +kernel : 2 < 4) rfl) rfl).trans ?_
        refine (sv_iinc (ls1 := [some (.ref 61), some (.int x1), some (.int (x2 + (0 : Int32))), some (.int (x3 + 1))]) jM168 c168_38 rfl rfl (v := 1) (by decide +kernel) rfl).trans ?_
        refine (sv_goto jM168 c168_41 rfl (t := 4) (by decide +kernel)).trans ?_
        rfl
      ·
        refine (sv_iconst jM168 c168_31 rfl (v := 1) (by decide +kernel)).trans ?_
        refine (sv_goto jM168 c168_32 rfl (t := 36) (by decide +kernel)).trans ?_
        refine (sv_iadd jM168 c168_36 rfl).trans ?_
        refine (sv_istore_n (ls1 := [some (.ref 61), some (.int x1), some (.int (x2 + (1 : Int32))), some (.int x3)]) jM168 c168_37 rfl (Nat.lt_of_lt_of_eq (by decide +kernel : 2 < 4) rfl) rfl).trans ?_
        refine (sv_iinc (ls1 := [some (.ref 61), some (.int x1), some (.int (x2 + (1 : Int32))), some (.int (x3 + 1))]) jM168 c168_38 rfl rfl (v := 1) (by decide +kernel) rfl).trans ?_
        refine (sv_goto jM168 c168_41 rfl (t := 4) (by decide +kernel)).trans ?_
        rfl
set_option maxRecDepth 20000 in
set_option maxHeartbeats 4000000 in
theorem M_sievedOf_in (x1 : Int32) (x2 : Int32) (x3 : Int32) (σ : jm_S) : jc 184 [(.ref 61), (.int x1), (.int x2), (.int x3)] σ = jbv (jc 150 [(.ref 61)] σ) (fun τ1 => jv 184 7 [some (.ref 61), some (.int x1), some (.int x2), some (.int x3), some (.int (0 : Int32))] [] τ1) := by
  refine (jc_of (ls1 := [some (.ref 61), some (.int x1), some (.int x2), some (.int x3), none]) ((jm_ini_of jM184).trans rfl)).trans ?_
  refine (sv_aload_n jM184 c184_0 rfl rfl).trans ?_
  refine (sv_callvv (pl := 0) jM184 c184_1 rfl (jm_call_v (a := 61) (as := []) (rest := []) lm_9_248 rfl jM150 rfl rfl rfl rfl rfl) jM150 rfl rfl).trans ?_
  refine jbv_c (fun τ1 => ?_)
  refine (sv_iconst jM184 c184_4 rfl (v := 0) (by decide +kernel)).trans ?_
  refine (sv_istore (ls1 := [some (.ref 61), some (.int x1), some (.int x2), some (.int x3), some (.int (0 : Int32))]) jM184 c184_5 rfl (Nat.lt_of_lt_of_eq (by decide +kernel : 4 < 5) rfl) rfl).trans ?_
  rfl
set_option maxRecDepth 20000 in
set_option maxHeartbeats 4000000 in
theorem M_sievedOf_L7 (x1 : Int32) (x2 : Int32) (x3 : Int32) (x4 : Int32) (σ : jm_S) : jv 184 7 [some (.ref 61), some (.int x1), some (.int x2), some (.int x3), some (.int x4)] [] σ = (if (σ 61 5) ≤ x4 then jbv (jc 151 [(.ref 61), (.int x2)] σ) (fun τ1 => (if ¬ x3 = 0 then (if ¬ x3 = (1 : Int32) then (if ¬ x3 = (2 : Int32) then jbi (jc 168 [(.ref 61), (.int (2 : Int32))] τ1) (fun r2 τ2 => some (some (.int r2), τ2)) else jbi (jc 168 [(.ref 61), (.int (0 : Int32))] τ1) (fun r3 τ3 => some (some (.int r3), τ3))) else jbi (jc 169 [(.ref 61)] τ1) (fun r4 τ4 => some (some (.int r4), τ4))) else jbi (jc 168 [(.ref 61), (.int (1 : Int32))] τ1) (fun r5 τ5 => some (some (.int r5), τ5)))) else (if (((4 : Int32) * x4) + (2 : Int32)) < 0 ∨ 48 ≤ (((4 : Int32) * x4) + (2 : Int32)).toNatClampNeg then none else (if x1 ≤ (σ 67 (((4 : Int32) * x4) + (2 : Int32)).toNatClampNeg) then jv 184 7 [some (.ref 61), some (.int x1), some (.int x2), some (.int x3), some (.int (x4 + 1))] [] (jm_up σ 61 24 ((σ 61 24) &&& (-1 : Int32))) else jv 184 7 [some (.ref 61), some (.int x1), some (.int x2), some (.int x3), some (.int (x4 + 1))] [] (jm_up σ 61 24 ((σ 61 24) &&& (((1 : Int32) <<< (x4 &&& 31)) ^^^ (-1 : Int32))))))) := by
  refine (sv_iload jM184 c184_7 rfl rfl).trans ?_
  refine (sv_aload_n jM184 c184_9 rfl rfl).trans ?_
  refine (sv_getf jM184 c184_10 rfl lf_9_124 (fg_61_5 _)).trans ?_
  refine (sv_icmp_ge jM184 c184_13 rfl (t := 56) (by decide +kernel)).trans ?_
  refine jif _ ?_ ?_
  ·
    refine (sv_aload_n jM184 c184_56 rfl rfl).trans ?_
    refine (sv_iload_n jM184 c184_57 rfl rfl).trans ?_
    refine (sv_callvv (pl := 0) jM184 c184_58 rfl (jm_call_v (a := 61) (as := [(.int x2)]) (rest := []) lm_9_251 rfl jM151 rfl rfl rfl rfl rfl) jM151 rfl rfl).trans ?_
    refine jbv_c (fun τ1 => ?_)
    refine (sv_iload_n jM184 c184_61 rfl rfl).trans ?_
    refine (sv_if_ne jM184 c184_62 rfl (t := 73) (by decide +kernel)).trans ?_
    refine jif _ ?_ ?_
    ·
      refine (sv_iload_n jM184 c184_73 rfl rfl).trans ?_
      refine (sv_iconst jM184 c184_74 rfl (v := 1) (by decide +kernel)).trans ?_
      refine (sv_icmp_ne jM184 c184_75 rfl (t := 85) (by decide +kernel)).trans ?_
      refine jif _ ?_ ?_
      ·
        refine (sv_iload_n jM184 c184_85 rfl rfl).trans ?_
        refine (sv_iconst jM184 c184_86 rfl (v := 2) (by decide +kernel)).trans ?_
        refine (sv_icmp_ne jM184 c184_87 rfl (t := 98) (by decide +kernel)).trans ?_
        refine jif _ ?_ ?_
        ·
          refine (sv_aload_n jM184 c184_98 rfl rfl).trans ?_
          refine (sv_iconst jM184 c184_99 rfl (v := 2) (by decide +kernel)).trans ?_
          refine (sv_callvi (pl := 0) jM184 c184_100 rfl (jm_call_v (a := 61) (as := [(.int (2 : Int32))]) (rest := []) lm_9_264 rfl jM168 rfl rfl rfl rfl rfl) jM168 rfl (Or.inl rfl)).trans ?_
          refine jbi_c (fun r2 τ2 => ?_)
          exact sv_iret jM184 c184_103 rfl rfl
        ·
          refine (sv_aload_n jM184 c184_90 rfl rfl).trans ?_
          refine (sv_iconst jM184 c184_91 rfl (v := 0) (by decide +kernel)).trans ?_
          refine (sv_callvi (pl := 0) jM184 c184_92 rfl (jm_call_v (a := 61) (as := [(.int (0 : Int32))]) (rest := []) lm_9_264 rfl jM168 rfl rfl rfl rfl rfl) jM168 rfl (Or.inl rfl)).trans ?_
          refine jbi_c (fun r3 τ3 => ?_)
          refine (sv_goto jM184 c184_95 rfl (t := 103) (by decide +kernel)).trans ?_
          exact sv_iret jM184 c184_103 rfl rfl
      ·
        refine (sv_aload_n jM184 c184_78 rfl rfl).trans ?_
        refine (sv_callvi (pl := 0) jM184 c184_79 rfl (jm_call_v (a := 61) (as := []) (rest := []) lm_9_261 rfl jM169 rfl rfl rfl rfl rfl) jM169 rfl (Or.inl rfl)).trans ?_
        refine jbi_c (fun r4 τ4 => ?_)
        refine (sv_goto jM184 c184_82 rfl (t := 103) (by decide +kernel)).trans ?_
        exact sv_iret jM184 c184_103 rfl rfl
    ·
      refine (sv_aload_n jM184 c184_65 rfl rfl).trans ?_
      refine (sv_iconst jM184 c184_66 rfl (v := 1) (by decide +kernel)).trans ?_
      refine (sv_callvi (pl := 0) jM184 c184_67 rfl (jm_call_v (a := 61) (as := [(.int (1 : Int32))]) (rest := []) lm_9_264 rfl jM168 rfl rfl rfl rfl rfl) jM168 rfl (Or.inl rfl)).trans ?_
      refine jbi_c (fun r5 τ5 => ?_)
      refine (sv_goto jM184 c184_70 rfl (t := 103) (by decide +kernel)).trans ?_
      exact sv_iret jM184 c184_103 rfl rfl
  ·
    refine (sv_aload_n jM184 c184_16 rfl rfl).trans ?_
    refine (sv_dup jM184 c184_17 rfl rfl).trans ?_
    refine (sv_getf jM184 c184_18 rfl lf_9_218 (fg_61_24 _)).trans ?_
    refine (sv_aload_n jM184 c184_21 rfl rfl).trans ?_
    refine (sv_getf jM184 c184_22 rfl lf_9_25 (fg_61_7 _)).trans ?_
    refine (sv_iconst jM184 c184_25 rfl (v := 4) (by decide +kernel)).trans ?_
    refine (sv_iload jM184 c184_26 rfl rfl).trans ?_
    refine (sv_imul jM184 c184_28 rfl).trans ?_
    refine (sv_iconst jM184 c184_29 rfl (v := 2) (by decide +kernel)).trans ?_
    refine (sv_iadd jM184 c184_30 rfl).trans ?_
    refine (sv_iald jM184 c184_31 rfl (ia_67 _)).trans ?_
    refine jif _ rfl ?_
    refine (sv_iload_n jM184 c184_32 rfl rfl).trans ?_
    refine (sv_icmp_ge jM184 c184_33 rfl (t := 45) (by decide +kernel)).trans ?_
    refine jif _ ?_ ?_
    ·
      refine (sv_iconst jM184 c184_45 rfl (v := -1) (by decide +kernel)).trans ?_
      refine (sv_iand jM184 c184_46 rfl).trans ?_
      refine (sv_putf jM184 c184_47 rfl lf_9_218 (pf_61_24 _ _)).trans ?_
      refine (sv_iinc (ls1 := [some (.ref 61), some (.int x1), some (.int x2), some (.int x3), some (.int (x4 + 1))]) jM184 c184_50 rfl rfl (v := 1) (by decide +kernel) rfl).trans ?_
      refine (sv_goto jM184 c184_53 rfl (t := 7) (by decide +kernel)).trans ?_
      rfl
    ·
      refine (sv_iconst jM184 c184_36 rfl (v := 1) (by decide +kernel)).trans ?_
      refine (sv_iload jM184 c184_37 rfl rfl).trans ?_
      refine (sv_ishl jM184 c184_39 rfl).trans ?_
      refine (sv_iconst jM184 c184_40 rfl (v := -1) (by decide +kernel)).trans ?_
      refine (sv_ixor jM184 c184_41 rfl).trans ?_
      refine (sv_goto jM184 c184_42 rfl (t := 46) (by decide +kernel)).trans ?_
      refine (sv_iand jM184 c184_46 rfl).trans ?_
      refine (sv_putf jM184 c184_47 rfl lf_9_218 (pf_61_24 _ _)).trans ?_
      refine (sv_iinc (ls1 := [some (.ref 61), some (.int x1), some (.int x2), some (.int x3), some (.int (x4 + 1))]) jM184 c184_50 rfl rfl (v := 1) (by decide +kernel) rfl).trans ?_
      refine (sv_goto jM184 c184_53 rfl (t := 7) (by decide +kernel)).trans ?_
      rfl
set_option maxRecDepth 20000 in
set_option maxHeartbeats 4000000 in
theorem M_isDamp_in (x0 : Int32) (σ : jm_S) : jc 186 [(.int x0)] σ = jbi (jc 120 [(.long x0.toInt64), (.long (0 : Int64)), (.long (99 : Int64))] σ) (fun r1 τ1 => (if r1 = 0 ∨ r1 = 1 then some (some (.int r1), τ1) else none)) := by
  refine (jc_of (ls1 := [some (.int x0)]) ((jm_ini_of jM186).trans rfl)).trans ?_
  refine (sv_iload_n jM186 c186_0 rfl rfl).trans ?_
  refine (sv_i2l jM186 c186_1 rfl).trans ?_
  refine (sv_lconst jM186 c186_2 rfl (v := 0) (by decide +kernel)).trans ?_
  refine (sv_ldc2 jM186 c186_3 rfl ll_9_127).trans ?_
  refine (sv_callsi (pl := 0) jM186 c186_6 rfl (jm_call_s (as := [(.long x0.toInt64), (.long (0 : Int64)), (.long (99 : Int64))]) (rest := []) lm_9_95 rfl jM120 rfl rfl rfl rfl) jM120 rfl (Or.inr rfl)).trans ?_
  refine jbi_c (fun r1 τ1 => ?_)
  exact sv_zretx jM186 c186_9 rfl rfl
set_option maxRecDepth 20000 in
set_option maxHeartbeats 4000000 in
theorem M_nextDay_in (x0 : Int32) (x1 : Int32) (σ : jm_S) : jc 187 [(.int x0), (.int x1)] σ = (if x1 ≤ x0 then (if x1 ≤ x0 then some (some (.int (x0 - (((x0 - x1) + (3 : Int32)) / (4 : Int32)))), σ) else some (some (.int (x0 + (((x0 - x1) + (3 : Int32)) / (4 : Int32)))), σ)) else (if x1 ≤ x0 then some (some (.int (x0 - (((x1 - x0) + (3 : Int32)) / (4 : Int32)))), σ) else some (some (.int (x0 + (((x1 - x0) + (3 : Int32)) / (4 : Int32)))), σ))) := by
  refine (jc_of (ls1 := [some (.int x0), some (.int x1), none, none]) ((jm_ini_of jM187).trans rfl)).trans ?_
  refine (sv_iload_n jM187 c187_0 rfl rfl).trans ?_
  refine (sv_iload_n jM187 c187_1 rfl rfl).trans ?_
  refine (sv_icmp_ge jM187 c187_2 rfl (t := 11) (by decide +kernel)).trans ?_
  refine jif _ ?_ ?_
  ·
    refine (sv_iload_n jM187 c187_11 rfl rfl).trans ?_
    refine (sv_iload_n jM187 c187_12 rfl rfl).trans ?_
    refine (sv_isub jM187 c187_13 rfl).trans ?_
    refine (sv_istore_n (ls1 := [some (.int x0), some (.int x1), some (.int (x0 - x1)), none]) jM187 c187_14 rfl (Nat.lt_of_lt_of_eq (by decide +kernel : 2 < 4) rfl) rfl).trans ?_
    refine (sv_iload_n jM187 c187_15 rfl rfl).trans ?_
    refine (sv_iconst jM187 c187_16 rfl (v := 3) (by decide +kernel)).trans ?_
    refine (sv_iadd jM187 c187_17 rfl).trans ?_
    refine (sv_iconst jM187 c187_18 rfl (v := 4) (by decide +kernel)).trans ?_
    refine (sv_idiv jM187 c187_19 rfl (by decide +kernel)).trans ?_
    refine (sv_istore_n (ls1 := [some (.int x0), some (.int x1), some (.int (x0 - x1)), some (.int (((x0 - x1) + (3 : Int32)) / (4 : Int32)))]) jM187 c187_20 rfl (Nat.lt_of_lt_of_eq (by decide +kernel : 3 < 4) rfl) rfl).trans ?_
    refine (sv_iload_n jM187 c187_21 rfl rfl).trans ?_
    refine (sv_iload_n jM187 c187_22 rfl rfl).trans ?_
    refine (sv_icmp_ge jM187 c187_23 rfl (t := 32) (by decide +kernel)).trans ?_
    refine jif _ ?_ ?_
    ·
      refine (sv_iload_n jM187 c187_32 rfl rfl).trans ?_
      refine (sv_iload_n jM187 c187_33 rfl rfl).trans ?_
      refine (sv_isub jM187 c187_34 rfl).trans ?_
      exact sv_iret jM187 c187_35 rfl rfl
    ·
      refine (sv_iload_n jM187 c187_26 rfl rfl).trans ?_
      refine (sv_iload_n jM187 c187_27 rfl rfl).trans ?_
      refine (sv_iadd jM187 c187_28 rfl).trans ?_
      refine (sv_goto jM187 c187_29 rfl (t := 35) (by decide +kernel)).trans ?_
      exact sv_iret jM187 c187_35 rfl rfl
  ·
    refine (sv_iload_n jM187 c187_5 rfl rfl).trans ?_
    refine (sv_iload_n jM187 c187_6 rfl rfl).trans ?_
    refine (sv_isub jM187 c187_7 rfl).trans ?_
    refine (sv_goto jM187 c187_8 rfl (t := 14) (by decide +kernel)).trans ?_
    refine (sv_istore_n (ls1 := [some (.int x0), some (.int x1), some (.int (x1 - x0)), none]) jM187 c187_14 rfl (Nat.lt_of_lt_of_eq (by decide +kernel : 2 < 4) rfl) rfl).trans ?_
    refine (sv_iload_n jM187 c187_15 rfl rfl).trans ?_
    refine (sv_iconst jM187 c187_16 rfl (v := 3) (by decide +kernel)).trans ?_
    refine (sv_iadd jM187 c187_17 rfl).trans ?_
    refine (sv_iconst jM187 c187_18 rfl (v := 4) (by decide +kernel)).trans ?_
    refine (sv_idiv jM187 c187_19 rfl (by decide +kernel)).trans ?_
    refine (sv_istore_n (ls1 := [some (.int x0), some (.int x1), some (.int (x1 - x0)), some (.int (((x1 - x0) + (3 : Int32)) / (4 : Int32)))]) jM187 c187_20 rfl (Nat.lt_of_lt_of_eq (by decide +kernel : 3 < 4) rfl) rfl).trans ?_
    refine (sv_iload_n jM187 c187_21 rfl rfl).trans ?_
    refine (sv_iload_n jM187 c187_22 rfl rfl).trans ?_
    refine (sv_icmp_ge jM187 c187_23 rfl (t := 32) (by decide +kernel)).trans ?_
    refine jif _ ?_ ?_
    ·
      refine (sv_iload_n jM187 c187_32 rfl rfl).trans ?_
      refine (sv_iload_n jM187 c187_33 rfl rfl).trans ?_
      refine (sv_isub jM187 c187_34 rfl).trans ?_
      exact sv_iret jM187 c187_35 rfl rfl
    ·
      refine (sv_iload_n jM187 c187_26 rfl rfl).trans ?_
      refine (sv_iload_n jM187 c187_27 rfl rfl).trans ?_
      refine (sv_iadd jM187 c187_28 rfl).trans ?_
      refine (sv_goto jM187 c187_29 rfl (t := 35) (by decide +kernel)).trans ?_
      exact sv_iret jM187 c187_35 rfl rfl
set_option maxRecDepth 20000 in
set_option maxHeartbeats 4000000 in
theorem M_over_in (x0 : Int32) (x1 : Int32) (σ : jm_S) : jc 192 [(.int x0), (.int x1)] σ = (if x1 < 0 then some (some (.long (0 : Int64)), σ) else (if x1 ≤ x0 then jv 192 16 [some (.int x0), some (.int x1), some (.long (1 : Int64)), none, some (.int (0 : Int32))] [] σ else some (some (.long (0 : Int64)), σ))) := by
  refine (jc_of (ls1 := [some (.int x0), some (.int x1), none, none, none]) ((jm_ini_of jM192).trans rfl)).trans ?_
  refine (sv_iload_n jM192 c192_0 rfl rfl).trans ?_
  refine (sv_if_lt jM192 c192_1 rfl (t := 9) (by decide +kernel)).trans ?_
  refine jif _ ?_ ?_
  ·
    refine (sv_lconst jM192 c192_9 rfl (v := 0) (by decide +kernel)).trans ?_
    exact sv_lret jM192 c192_10 rfl rfl
  ·
    refine (sv_iload_n jM192 c192_4 rfl rfl).trans ?_
    refine (sv_iload_n jM192 c192_5 rfl rfl).trans ?_
    refine (sv_icmp_le jM192 c192_6 rfl (t := 11) (by decide +kernel)).trans ?_
    refine jif _ ?_ ?_
    ·
      refine (sv_lconst jM192 c192_11 rfl (v := 1) (by decide +kernel)).trans ?_
      refine (sv_lstore_n (ls1 := [some (.int x0), some (.int x1), some (.long (1 : Int64)), none, none]) jM192 c192_12 rfl (Nat.lt_of_lt_of_eq (by decide +kernel : 2 + 1 < 5) rfl) rfl).trans ?_
      refine (sv_iconst jM192 c192_13 rfl (v := 0) (by decide +kernel)).trans ?_
      refine (sv_istore (ls1 := [some (.int x0), some (.int x1), some (.long (1 : Int64)), none, some (.int (0 : Int32))]) jM192 c192_14 rfl (Nat.lt_of_lt_of_eq (by decide +kernel : 4 < 5) rfl) rfl).trans ?_
      rfl
    ·
      refine (sv_lconst jM192 c192_9 rfl (v := 0) (by decide +kernel)).trans ?_
      exact sv_lret jM192 c192_10 rfl rfl
set_option maxRecDepth 20000 in
set_option maxHeartbeats 4000000 in
theorem M_over_L16 (x0 : Int32) (x1 : Int32) (x2 : Int64) (x4 : Int32) (σ : jm_S) : jv 192 16 [some (.int x0), some (.int x1), some (.long x2), none, some (.int x4)] [] σ = (if x1 ≤ x4 then some (some (.long x2), σ) else (if (x4 + (1 : Int32)).toInt64 = 0 then none else jv 192 16 [some (.int x0), some (.int x1), some (.long ((x2 * (x0 - x4).toInt64) / (x4 + (1 : Int32)).toInt64)), none, some (.int (x4 + 1))] [] σ)) := by
  refine (sv_iload jM192 c192_16 rfl rfl).trans ?_
  refine (sv_iload_n jM192 c192_18 rfl rfl).trans ?_
  refine (sv_icmp_ge jM192 c192_19 rfl (t := 42) (by decide +kernel)).trans ?_
  refine jif _ ?_ ?_
  ·
    refine (sv_lload_n jM192 c192_42 rfl rfl).trans ?_
    exact sv_lret jM192 c192_43 rfl rfl
  ·
    refine (sv_lload_n jM192 c192_22 rfl rfl).trans ?_
    refine (sv_iload_n jM192 c192_23 rfl rfl).trans ?_
    refine (sv_iload jM192 c192_24 rfl rfl).trans ?_
    refine (sv_isub jM192 c192_26 rfl).trans ?_
    refine (sv_i2l jM192 c192_27 rfl).trans ?_
    refine (sv_lmul jM192 c192_28 rfl).trans ?_
    refine (sv_iload jM192 c192_29 rfl rfl).trans ?_
    refine (sv_iconst jM192 c192_31 rfl (v := 1) (by decide +kernel)).trans ?_
    refine (sv_iadd jM192 c192_32 rfl).trans ?_
    refine (sv_i2l jM192 c192_33 rfl).trans ?_
    refine (sv_ldiv jM192 c192_34 rfl).trans ?_
    refine jif _ rfl ?_
    refine (sv_lstore_n (ls1 := [some (.int x0), some (.int x1), some (.long ((x2 * (x0 - x4).toInt64) / (x4 + (1 : Int32)).toInt64)), none, some (.int x4)]) jM192 c192_35 rfl (Nat.lt_of_lt_of_eq (by decide +kernel : 2 + 1 < 5) rfl) rfl).trans ?_
    refine (sv_iinc (ls1 := [some (.int x0), some (.int x1), some (.long ((x2 * (x0 - x4).toInt64) / (x4 + (1 : Int32)).toInt64)), none, some (.int (x4 + 1))]) jM192 c192_36 rfl rfl (v := 1) (by decide +kernel) rfl).trans ?_
    refine (sv_goto jM192 c192_39 rfl (t := 16) (by decide +kernel)).trans ?_
    rfl
set_option maxRecDepth 20000 in
set_option maxHeartbeats 4000000 in
theorem M_justly_in (x0 : Int32) (x1 : Int32) (x2 : Int32) (x3 : Int32) (σ : jm_S) : jc 191 [(.int x0), (.int x1), (.int x2), (.int x3)] σ = jbl (jc 192 [(.int x1), (.int x3)] σ) (fun r1 τ1 => jbl (jc 192 [(.int (x0 - x1)), (.int (x2 - x3))] τ1) (fun r2 τ2 => some (some (.long (r1 * r2)), τ2))) := by
  refine (jc_of (ls1 := [some (.int x0), some (.int x1), some (.int x2), some (.int x3)]) ((jm_ini_of jM191).trans rfl)).trans ?_
  refine (sv_iload_n jM191 c191_0 rfl rfl).trans ?_
  refine (sv_iload_n jM191 c191_1 rfl rfl).trans ?_
  refine (sv_callsl (pl := 0) jM191 c191_2 rfl (jm_call_s (as := [(.int x1), (.int x3)]) (rest := []) lm_9_311 rfl jM192 rfl rfl rfl rfl) jM192 rfl rfl).trans ?_
  refine jbl_c (fun r1 τ1 => ?_)
  refine (sv_iload_n jM191 c191_5 rfl rfl).trans ?_
  refine (sv_iload_n jM191 c191_6 rfl rfl).trans ?_
  refine (sv_isub jM191 c191_7 rfl).trans ?_
  refine (sv_iload_n jM191 c191_8 rfl rfl).trans ?_
  refine (sv_iload_n jM191 c191_9 rfl rfl).trans ?_
  refine (sv_isub jM191 c191_10 rfl).trans ?_
  refine (sv_callsl (pl := 0) jM191 c191_11 rfl (jm_call_s (as := [(.int (x0 - x1)), (.int (x2 - x3))]) (rest := [(.long r1)]) lm_9_311 rfl jM192 rfl rfl rfl rfl) jM192 rfl rfl).trans ?_
  refine jbl_c (fun r2 τ2 => ?_)
  refine (sv_lmul jM191 c191_14 rfl).trans ?_
  exact sv_lret jM191 c191_15 rfl rfl
set_option maxRecDepth 20000 in
set_option maxHeartbeats 4000000 in
theorem M_no_in (x0 : Int32) (σ : jm_S) : jc 190 [(.int x0)] σ = some (some (.long ((-9223372036854775808 : Int64) - x0.toInt64)), σ) := by
  refine (jc_of (ls1 := [some (.int x0)]) ((jm_ini_of jM190).trans rfl)).trans ?_
  refine (sv_ldc2 jM190 c190_0 rfl ll_9_92).trans ?_
  refine (sv_iload_n jM190 c190_3 rfl rfl).trans ?_
  refine (sv_i2l jM190 c190_4 rfl).trans ?_
  refine (sv_lsub jM190 c190_5 rfl).trans ?_
  exact sv_lret jM190 c190_6 rfl rfl
set_option maxRecDepth 20000 in
set_option maxHeartbeats 4000000 in
theorem M_fitsOf_in (x1 : Int32) (σ : jm_S) : jc 196 [(.ref 61), (.int x1)] σ = (if ¬ (σ 61 36) = 0 then jbv (jc 150 [(.ref 61)] σ) (fun τ1 => jv 196 30 [some (.ref 61), some (.int x1), some (.int (-1 : Int32)), some (.int (-1 : Int32)), some (.int (0 : Int32)), some (.int (-1 : Int32)), some (.int (0 : Int32)), some (.int (5 : Int32)), none] [] τ1) else some (some (.int (-3 : Int32)), σ)) := by
  refine (jc_of (ls1 := [some (.ref 61), some (.int x1), none, none, none, none, none, none, none]) ((jm_ini_of jM196).trans rfl)).trans ?_
  refine (sv_aload_n jM196 c196_0 rfl rfl).trans ?_
  refine (sv_getf jM196 c196_1 rfl lf_9_147 (fg_61_36 _)).trans ?_
  refine (sv_if_ne jM196 c196_4 rfl (t := 10) (by decide +kernel)).trans ?_
  refine jif _ ?_ ?_
  ·
    refine (sv_aload_n jM196 c196_10 rfl rfl).trans ?_
    refine (sv_callvv (pl := 0) jM196 c196_11 rfl (jm_call_v (a := 61) (as := []) (rest := []) lm_9_248 rfl jM150 rfl rfl rfl rfl rfl) jM150 rfl rfl).trans ?_
    refine jbv_c (fun τ1 => ?_)
    refine (sv_iconst jM196 c196_14 rfl (v := -1) (by decide +kernel)).trans ?_
    refine (sv_istore_n (ls1 := [some (.ref 61), some (.int x1), some (.int (-1 : Int32)), none, none, none, none, none, none]) jM196 c196_15 rfl (Nat.lt_of_lt_of_eq (by decide +kernel : 2 < 9) rfl) rfl).trans ?_
    refine (sv_iconst jM196 c196_16 rfl (v := -1) (by decide +kernel)).trans ?_
    refine (sv_istore_n (ls1 := [some (.ref 61), some (.int x1), some (.int (-1 : Int32)), some (.int (-1 : Int32)), none, none, none, none, none]) jM196 c196_17 rfl (Nat.lt_of_lt_of_eq (by decide +kernel : 3 < 9) rfl) rfl).trans ?_
    refine (sv_iconst jM196 c196_18 rfl (v := 0) (by decide +kernel)).trans ?_
    refine (sv_istore (ls1 := [some (.ref 61), some (.int x1), some (.int (-1 : Int32)), some (.int (-1 : Int32)), some (.int (0 : Int32)), none, none, none, none]) jM196 c196_19 rfl (Nat.lt_of_lt_of_eq (by decide +kernel : 4 < 9) rfl) rfl).trans ?_
    refine (sv_iconst jM196 c196_21 rfl (v := -1) (by decide +kernel)).trans ?_
    refine (sv_istore (ls1 := [some (.ref 61), some (.int x1), some (.int (-1 : Int32)), some (.int (-1 : Int32)), some (.int (0 : Int32)), some (.int (-1 : Int32)), none, none, none]) jM196 c196_22 rfl (Nat.lt_of_lt_of_eq (by decide +kernel : 5 < 9) rfl) rfl).trans ?_
    refine (sv_iconst jM196 c196_24 rfl (v := 0) (by decide +kernel)).trans ?_
    refine (sv_istore (ls1 := [some (.ref 61), some (.int x1), some (.int (-1 : Int32)), some (.int (-1 : Int32)), some (.int (0 : Int32)), some (.int (-1 : Int32)), some (.int (0 : Int32)), none, none]) jM196 c196_25 rfl (Nat.lt_of_lt_of_eq (by decide +kernel : 6 < 9) rfl) rfl).trans ?_
    refine (sv_iconst jM196 c196_27 rfl (v := 5) (by decide +kernel)).trans ?_
    refine (sv_istore (ls1 := [some (.ref 61), some (.int x1), some (.int (-1 : Int32)), some (.int (-1 : Int32)), some (.int (0 : Int32)), some (.int (-1 : Int32)), some (.int (0 : Int32)), some (.int (5 : Int32)), none]) jM196 c196_28 rfl (Nat.lt_of_lt_of_eq (by decide +kernel : 7 < 9) rfl) rfl).trans ?_
    rfl
  ·
    refine (sv_bipush jM196 c196_7 rfl (v := -3) (by decide +kernel)).trans ?_
    exact sv_iret jM196 c196_9 rfl rfl
set_option maxRecDepth 20000 in
set_option maxHeartbeats 4000000 in
theorem M_fitsOf_L30 (x1 : Int32) (x2 : Int32) (x3 : Int32) (x4 : Int32) (x5 : Int32) (x6 : Int32) (x7 : Int32) (u8 : Option Value) (σ : jm_S) : jv 196 30 [some (.ref 61), some (.int x1), some (.int x2), some (.int x3), some (.int x4), some (.int x5), some (.int x6), some (.int x7), u8] [] σ = (if (16 : Int32) ≤ x7 then jv 196 117 [some (.ref 61), some (.int x1), some (.int x2), some (.int x3), some (.int x4), some (.int x5), some (.int x6), some (.int x7), u8] [(.int x1)] σ else jbi (jc 197 [(.ref 61), (.int x7)] σ) (fun r1 τ1 => (if ¬ r1 = 0 then (if ¬ r1 = 0 then (if ¬ r1 = 0 then (if x5 = (-1 : Int32) then jv 196 30 [some (.ref 61), some (.int x1), some (.int x2), some (.int x3), some (.int (x4 + (0 : Int32))), some (.int x7), some (.int r1), some (.int (x7 + 1)), some (.int r1)] [] τ1 else (if x6 ≤ r1 then jv 196 30 [some (.ref 61), some (.int x1), some (.int x2), some (.int x3), some (.int (x4 + (0 : Int32))), some (.int x5), some (.int x6), some (.int (x7 + 1)), some (.int r1)] [] τ1 else jv 196 30 [some (.ref 61), some (.int x1), some (.int x2), some (.int x3), some (.int (x4 + (0 : Int32))), some (.int x7), some (.int r1), some (.int (x7 + 1)), some (.int r1)] [] τ1)) else (if x5 = (-1 : Int32) then jv 196 30 [some (.ref 61), some (.int x1), some (.int x2), some (.int x3), some (.int (x4 + (1 : Int32))), some (.int x7), some (.int r1), some (.int (x7 + 1)), some (.int r1)] [] τ1 else (if x6 ≤ r1 then jv 196 30 [some (.ref 61), some (.int x1), some (.int x2), some (.int x3), some (.int (x4 + (1 : Int32))), some (.int x5), some (.int x6), some (.int (x7 + 1)), some (.int r1)] [] τ1 else jv 196 30 [some (.ref 61), some (.int x1), some (.int x2), some (.int x3), some (.int (x4 + (1 : Int32))), some (.int x7), some (.int r1), some (.int (x7 + 1)), some (.int r1)] [] τ1))) else (if ¬ r1 = 0 then (if x5 = (-1 : Int32) then jv 196 30 [some (.ref 61), some (.int x1), some (.int x2), some (.int x7), some (.int (x4 + (0 : Int32))), some (.int x7), some (.int r1), some (.int (x7 + 1)), some (.int r1)] [] τ1 else (if x6 ≤ r1 then jv 196 30 [some (.ref 61), some (.int x1), some (.int x2), some (.int x7), some (.int (x4 + (0 : Int32))), some (.int x5), some (.int x6), some (.int (x7 + 1)), some (.int r1)] [] τ1 else jv 196 30 [some (.ref 61), some (.int x1), some (.int x2), some (.int x7), some (.int (x4 + (0 : Int32))), some (.int x7), some (.int r1), some (.int (x7 + 1)), some (.int r1)] [] τ1)) else (if x5 = (-1 : Int32) then jv 196 30 [some (.ref 61), some (.int x1), some (.int x2), some (.int x7), some (.int (x4 + (1 : Int32))), some (.int x7), some (.int r1), some (.int (x7 + 1)), some (.int r1)] [] τ1 else (if x6 ≤ r1 then jv 196 30 [some (.ref 61), some (.int x1), some (.int x2), some (.int x7), some (.int (x4 + (1 : Int32))), some (.int x5), some (.int x6), some (.int (x7 + 1)), some (.int r1)] [] τ1 else jv 196 30 [some (.ref 61), some (.int x1), some (.int x2), some (.int x7), some (.int (x4 + (1 : Int32))), some (.int x7), some (.int r1), some (.int (x7 + 1)), some (.int r1)] [] τ1)))) else (if ¬ x2 = (-1 : Int32) then (if ¬ r1 = 0 then (if ¬ r1 = 0 then (if x5 = (-1 : Int32) then jv 196 30 [some (.ref 61), some (.int x1), some (.int x2), some (.int x3), some (.int (x4 + (0 : Int32))), some (.int x7), some (.int r1), some (.int (x7 + 1)), some (.int r1)] [] τ1 else (if x6 ≤ r1 then jv 196 30 [some (.ref 61), some (.int x1), some (.int x2), some (.int x3), some (.int (x4 + (0 : Int32))), some (.int x5), some (.int x6), some (.int (x7 + 1)), some (.int r1)] [] τ1 else jv 196 30 [some (.ref 61), some (.int x1), some (.int x2), some (.int x3), some (.int (x4 + (0 : Int32))), some (.int x7), some (.int r1), some (.int (x7 + 1)), some (.int r1)] [] τ1)) else (if x5 = (-1 : Int32) then jv 196 30 [some (.ref 61), some (.int x1), some (.int x2), some (.int x3), some (.int (x4 + (1 : Int32))), some (.int x7), some (.int r1), some (.int (x7 + 1)), some (.int r1)] [] τ1 else (if x6 ≤ r1 then jv 196 30 [some (.ref 61), some (.int x1), some (.int x2), some (.int x3), some (.int (x4 + (1 : Int32))), some (.int x5), some (.int x6), some (.int (x7 + 1)), some (.int r1)] [] τ1 else jv 196 30 [some (.ref 61), some (.int x1), some (.int x2), some (.int x3), some (.int (x4 + (1 : Int32))), some (.int x7), some (.int r1), some (.int (x7 + 1)), some (.int r1)] [] τ1))) else (if ¬ r1 = 0 then (if x5 = (-1 : Int32) then jv 196 30 [some (.ref 61), some (.int x1), some (.int x2), some (.int x7), some (.int (x4 + (0 : Int32))), some (.int x7), some (.int r1), some (.int (x7 + 1)), some (.int r1)] [] τ1 else (if x6 ≤ r1 then jv 196 30 [some (.ref 61), some (.int x1), some (.int x2), some (.int x7), some (.int (x4 + (0 : Int32))), some (.int x5), some (.int x6), some (.int (x7 + 1)), some (.int r1)] [] τ1 else jv 196 30 [some (.ref 61), some (.int x1), some (.int x2), some (.int x7), some (.int (x4 + (0 : Int32))), some (.int x7), some (.int r1), some (.int (x7 + 1)), some (.int r1)] [] τ1)) else (if x5 = (-1 : Int32) then jv 196 30 [some (.ref 61), some (.int x1), some (.int x2), some (.int x7), some (.int (x4 + (1 : Int32))), some (.int x7), some (.int r1), some (.int (x7 + 1)), some (.int r1)] [] τ1 else (if x6 ≤ r1 then jv 196 30 [some (.ref 61), some (.int x1), some (.int x2), some (.int x7), some (.int (x4 + (1 : Int32))), some (.int x5), some (.int x6), some (.int (x7 + 1)), some (.int r1)] [] τ1 else jv 196 30 [some (.ref 61), some (.int x1), some (.int x2), some (.int x7), some (.int (x4 + (1 : Int32))), some (.int x7), some (.int r1), some (.int (x7 + 1)), some (.int r1)] [] τ1)))) else (if ¬ r1 = 0 then (if ¬ r1 = 0 then (if x5 = (-1 : Int32) then jv 196 30 [some (.ref 61), some (.int x1), some (.int x7), some (.int x3), some (.int (x4 + (0 : Int32))), some (.int x7), some (.int r1), some (.int (x7 + 1)), some (.int r1)] [] τ1 else (if x6 ≤ r1 then jv 196 30 [some (.ref 61), some (.int x1), some (.int x7), some (.int x3), some (.int (x4 + (0 : Int32))), some (.int x5), some (.int x6), some (.int (x7 + 1)), some (.int r1)] [] τ1 else jv 196 30 [some (.ref 61), some (.int x1), some (.int x7), some (.int x3), some (.int (x4 + (0 : Int32))), some (.int x7), some (.int r1), some (.int (x7 + 1)), some (.int r1)] [] τ1)) else (if x5 = (-1 : Int32) then jv 196 30 [some (.ref 61), some (.int x1), some (.int x7), some (.int x3), some (.int (x4 + (1 : Int32))), some (.int x7), some (.int r1), some (.int (x7 + 1)), some (.int r1)] [] τ1 else (if x6 ≤ r1 then jv 196 30 [some (.ref 61), some (.int x1), some (.int x7), some (.int x3), some (.int (x4 + (1 : Int32))), some (.int x5), some (.int x6), some (.int (x7 + 1)), some (.int r1)] [] τ1 else jv 196 30 [some (.ref 61), some (.int x1), some (.int x7), some (.int x3), some (.int (x4 + (1 : Int32))), some (.int x7), some (.int r1), some (.int (x7 + 1)), some (.int r1)] [] τ1))) else (if ¬ r1 = 0 then (if x5 = (-1 : Int32) then jv 196 30 [some (.ref 61), some (.int x1), some (.int x7), some (.int x7), some (.int (x4 + (0 : Int32))), some (.int x7), some (.int r1), some (.int (x7 + 1)), some (.int r1)] [] τ1 else (if x6 ≤ r1 then jv 196 30 [some (.ref 61), some (.int x1), some (.int x7), some (.int x7), some (.int (x4 + (0 : Int32))), some (.int x5), some (.int x6), some (.int (x7 + 1)), some (.int r1)] [] τ1 else jv 196 30 [some (.ref 61), some (.int x1), some (.int x7), some (.int x7), some (.int (x4 + (0 : Int32))), some (.int x7), some (.int r1), some (.int (x7 + 1)), some (.int r1)] [] τ1)) else (if x5 = (-1 : Int32) then jv 196 30 [some (.ref 61), some (.int x1), some (.int x7), some (.int x7), some (.int (x4 + (1 : Int32))), some (.int x7), some (.int r1), some (.int (x7 + 1)), some (.int r1)] [] τ1 else (if x6 ≤ r1 then jv 196 30 [some (.ref 61), some (.int x1), some (.int x7), some (.int x7), some (.int (x4 + (1 : Int32))), some (.int x5), some (.int x6), some (.int (x7 + 1)), some (.int r1)] [] τ1 else jv 196 30 [some (.ref 61), some (.int x1), some (.int x7), some (.int x7), some (.int (x4 + (1 : Int32))), some (.int x7), some (.int r1), some (.int (x7 + 1)), some (.int r1)] [] τ1)))))))) := by
  refine (sv_iload jM196 c196_30 rfl rfl).trans ?_
  refine (sv_bipush jM196 c196_32 rfl (v := 16) (by decide +kernel)).trans ?_
  refine (sv_icmp_ge jM196 c196_34 rfl (t := 116) (by decide +kernel)).trans ?_
  refine jif _ ?_ ?_
  ·
    refine (sv_iload_n jM196 c196_116 rfl rfl).trans ?_
    rfl
  ·
    refine (sv_aload_n jM196 c196_37 rfl rfl).trans ?_
    refine (sv_iload jM196 c196_38 rfl rfl).trans ?_
    refine (sv_callvi (pl := 0) jM196 c196_40 rfl (jm_call_v (a := 61) (as := [(.int x7)]) (rest := []) lm_9_327 rfl jM197 rfl rfl rfl rfl rfl) jM197 rfl (Or.inl rfl)).trans ?_
    refine jbi_c (fun r1 τ1 => ?_)
    refine (sv_istore (ls1 := [some (.ref 61), some (.int x1), some (.int x2), some (.int x3), some (.int x4), some (.int x5), some (.int x6), some (.int x7), some (.int r1)]) jM196 c196_43 rfl (Nat.lt_of_lt_of_eq (by decide +kernel : 8 < 9) rfl) rfl).trans ?_
    refine (sv_iload jM196 c196_45 rfl rfl).trans ?_
    refine (sv_if_ne jM196 c196_47 rfl (t := 60) (by decide +kernel)).trans ?_
    refine jif _ ?_ ?_
    ·
      refine (sv_iload_n jM196 c196_60 rfl rfl).trans ?_
      refine (sv_istore_n (ls1 := [some (.ref 61), some (.int x1), some (.int x2), some (.int x3), some (.int x4), some (.int x5), some (.int x6), some (.int x7), some (.int r1)]) jM196 c196_61 rfl (Nat.lt_of_lt_of_eq (by decide +kernel : 2 < 9) rfl) rfl).trans ?_
      refine (sv_iload jM196 c196_62 rfl rfl).trans ?_
      refine (sv_if_ne jM196 c196_64 rfl (t := 72) (by decide +kernel)).trans ?_
      refine jif _ ?_ ?_
      ·
        refine (sv_iload_n jM196 c196_72 rfl rfl).trans ?_
        refine (sv_istore_n (ls1 := [some (.ref 61), some (.int x1), some (.int x2), some (.int x3), some (.int x4), some (.int x5), some (.int x6), some (.int x7), some (.int r1)]) jM196 c196_73 rfl (Nat.lt_of_lt_of_eq (by decide +kernel : 3 < 9) rfl) rfl).trans ?_
        refine (sv_iload jM196 c196_74 rfl rfl).trans ?_
        refine (sv_iload jM196 c196_76 rfl rfl).trans ?_
        refine (sv_if_ne jM196 c196_78 rfl (t := 85) (by decide +kernel)).trans ?_
        refine jif _ ?_ ?_
        ·
          refine (sv_iconst jM196 c196_85 rfl (v := 0) (by decide +kernel)).trans ?_
          refine (sv_iadd jM196 c196_86 rfl).trans ?_
          refine (sv_istore (ls1 := [some (.ref 61), some (.int x1), some (.int x2), some (.int x3), some (.int (x4 + (0 : Int32))), some (.int x5), some (.int x6), some (.int x7), some (.int r1)]) jM196 c196_87 rfl (Nat.lt_of_lt_of_eq (by decide +kernel : 4 < 9) rfl) rfl).trans ?_
          refine (sv_iload jM196 c196_89 rfl rfl).trans ?_
          refine (sv_iconst jM196 c196_91 rfl (v := -1) (by decide +kernel)).trans ?_
          refine (sv_icmp_eq jM196 c196_92 rfl (t := 102) (by decide +kernel)).trans ?_
          refine jif _ ?_ ?_
          ·
            refine (sv_iload jM196 c196_102 rfl rfl).trans ?_
            refine (sv_istore (ls1 := [some (.ref 61), some (.int x1), some (.int x2), some (.int x3), some (.int (x4 + (0 : Int32))), some (.int x7), some (.int x6), some (.int x7), some (.int r1)]) jM196 c196_104 rfl (Nat.lt_of_lt_of_eq (by decide +kernel : 5 < 9) rfl) rfl).trans ?_
            refine (sv_iload jM196 c196_106 rfl rfl).trans ?_
            refine (sv_istore (ls1 := [some (.ref 61), some (.int x1), some (.int x2), some (.int x3), some (.int (x4 + (0 : Int32))), some (.int x7), some (.int r1), some (.int x7), some (.int r1)]) jM196 c196_108 rfl (Nat.lt_of_lt_of_eq (by decide +kernel : 6 < 9) rfl) rfl).trans ?_
            refine (sv_iinc (ls1 := [some (.ref 61), some (.int x1), some (.int x2), some (.int x3), some (.int (x4 + (0 : Int32))), some (.int x7), some (.int r1), some (.int (x7 + 1)), some (.int r1)]) jM196 c196_110 rfl rfl (v := 1) (by decide +kernel) rfl).trans ?_
            refine (sv_goto jM196 c196_113 rfl (t := 30) (by decide +kernel)).trans ?_
            rfl
          ·
            refine (sv_iload jM196 c196_95 rfl rfl).trans ?_
            refine (sv_iload jM196 c196_97 rfl rfl).trans ?_
            refine (sv_icmp_ge jM196 c196_99 rfl (t := 110) (by decide +kernel)).trans ?_
            refine jif _ ?_ ?_
            ·
              refine (sv_iinc (ls1 := [some (.ref 61), some (.int x1), some (.int x2), some (.int x3), some (.int (x4 + (0 : Int32))), some (.int x5), some (.int x6), some (.int (x7 + 1)), some (.int r1)]) jM196 c196_110 rfl rfl (v := 1) (by decide +kernel) rfl).trans ?_
              refine (sv_goto jM196 c196_113 rfl (t := 30) (by decide +kernel)).trans ?_
              rfl
            ·
              refine (sv_iload jM196 c196_102 rfl rfl).trans ?_
              refine (sv_istore (ls1 := [some (.ref 61), some (.int x1), some (.int x2), some (.int x3), some (.int (x4 + (0 : Int32))), some (.int x7), some (.int x6), some (.int x7), some (.int r1)]) jM196 c196_104 rfl (Nat.lt_of_lt_of_eq (by decide +kernel : 5 < 9) rfl) rfl).trans ?_
              refine (sv_iload jM196 c196_106 rfl rfl).trans ?_
              refine (sv_istore (ls1 := [some (.ref 61), some (.int x1), some (.int x2), some (.int x3), some (.int (x4 + (0 : Int32))), some (.int x7), some (.int r1), some (.int x7), some (.int r1)]) jM196 c196_108 rfl (Nat.lt_of_lt_of_eq (by decide +kernel : 6 < 9) rfl) rfl).trans ?_
              refine (sv_iinc (ls1 := [some (.ref 61), some (.int x1), some (.int x2), some (.int x3), some (.int (x4 + (0 : Int32))), some (.int x7), some (.int r1), some (.int (x7 + 1)), some (.int r1)]) jM196 c196_110 rfl rfl (v := 1) (by decide +kernel) rfl).trans ?_
              refine (sv_goto jM196 c196_113 rfl (t := 30) (by decide +kernel)).trans ?_
              rfl
        ·
          refine (sv_iconst jM196 c196_81 rfl (v := 1) (by decide +kernel)).trans ?_
          refine (sv_goto jM196 c196_82 rfl (t := 86) (by decide +kernel)).trans ?_
          refine (sv_iadd jM196 c196_86 rfl).trans ?_
          refine (sv_istore (ls1 := [some (.ref 61), some (.int x1), some (.int x2), some (.int x3), some (.int (x4 + (1 : Int32))), some (.int x5), some (.int x6), some (.int x7), some (.int r1)]) jM196 c196_87 rfl (Nat.lt_of_lt_of_eq (by decide +kernel : 4 < 9) rfl) rfl).trans ?_
          refine (sv_iload jM196 c196_89 rfl rfl).trans ?_
          refine (sv_iconst jM196 c196_91 rfl (v := -1) (by decide +kernel)).trans ?_
          refine (sv_icmp_eq jM196 c196_92 rfl (t := 102) (by decide +kernel)).trans ?_
          refine jif _ ?_ ?_
          ·
            refine (sv_iload jM196 c196_102 rfl rfl).trans ?_
            refine (sv_istore (ls1 := [some (.ref 61), some (.int x1), some (.int x2), some (.int x3), some (.int (x4 + (1 : Int32))), some (.int x7), some (.int x6), some (.int x7), some (.int r1)]) jM196 c196_104 rfl (Nat.lt_of_lt_of_eq (by decide +kernel : 5 < 9) rfl) rfl).trans ?_
            refine (sv_iload jM196 c196_106 rfl rfl).trans ?_
            refine (sv_istore (ls1 := [some (.ref 61), some (.int x1), some (.int x2), some (.int x3), some (.int (x4 + (1 : Int32))), some (.int x7), some (.int r1), some (.int x7), some (.int r1)]) jM196 c196_108 rfl (Nat.lt_of_lt_of_eq (by decide +kernel : 6 < 9) rfl) rfl).trans ?_
            refine (sv_iinc (ls1 := [some (.ref 61), some (.int x1), some (.int x2), some (.int x3), some (.int (x4 + (1 : Int32))), some (.int x7), some (.int r1), some (.int (x7 + 1)), some (.int r1)]) jM196 c196_110 rfl rfl (v := 1) (by decide +kernel) rfl).trans ?_
            refine (sv_goto jM196 c196_113 rfl (t := 30) (by decide +kernel)).trans ?_
            rfl
          ·
            refine (sv_iload jM196 c196_95 rfl rfl).trans ?_
            refine (sv_iload jM196 c196_97 rfl rfl).trans ?_
            refine (sv_icmp_ge jM196 c196_99 rfl (t := 110) (by decide +kernel)).trans ?_
            refine jif _ ?_ ?_
            ·
              refine (sv_iinc (ls1 := [some (.ref 61), some (.int x1), some (.int x2), some (.int x3), some (.int (x4 + (1 : Int32))), some (.int x5), some (.int x6), some (.int (x7 + 1)), some (.int r1)]) jM196 c196_110 rfl rfl (v := 1) (by decide +kernel) rfl).trans ?_
              refine (sv_goto jM196 c196_113 rfl (t := 30) (by decide +kernel)).trans ?_
              rfl
            ·
              refine (sv_iload jM196 c196_102 rfl rfl).trans ?_
              refine (sv_istore (ls1 := [some (.ref 61), some (.int x1), some (.int x2), some (.int x3), some (.int (x4 + (1 : Int32))), some (.int x7), some (.int x6), some (.int x7), some (.int r1)]) jM196 c196_104 rfl (Nat.lt_of_lt_of_eq (by decide +kernel : 5 < 9) rfl) rfl).trans ?_
              refine (sv_iload jM196 c196_106 rfl rfl).trans ?_
              refine (sv_istore (ls1 := [some (.ref 61), some (.int x1), some (.int x2), some (.int x3), some (.int (x4 + (1 : Int32))), some (.int x7), some (.int r1), some (.int x7), some (.int r1)]) jM196 c196_108 rfl (Nat.lt_of_lt_of_eq (by decide +kernel : 6 < 9) rfl) rfl).trans ?_
              refine (sv_iinc (ls1 := [some (.ref 61), some (.int x1), some (.int x2), some (.int x3), some (.int (x4 + (1 : Int32))), some (.int x7), some (.int r1), some (.int (x7 + 1)), some (.int r1)]) jM196 c196_110 rfl rfl (v := 1) (by decide +kernel) rfl).trans ?_
              refine (sv_goto jM196 c196_113 rfl (t := 30) (by decide +kernel)).trans ?_
              rfl
      ·
        refine (sv_iload jM196 c196_67 rfl rfl).trans ?_
        refine (sv_goto jM196 c196_69 rfl (t := 73) (by decide +kernel)).trans ?_
        refine (sv_istore_n (ls1 := [some (.ref 61), some (.int x1), some (.int x2), some (.int x7), some (.int x4), some (.int x5), some (.int x6), some (.int x7), some (.int r1)]) jM196 c196_73 rfl (Nat.lt_of_lt_of_eq (by decide +kernel : 3 < 9) rfl) rfl).trans ?_
        refine (sv_iload jM196 c196_74 rfl rfl).trans ?_
        refine (sv_iload jM196 c196_76 rfl rfl).trans ?_
        refine (sv_if_ne jM196 c196_78 rfl (t := 85) (by decide +kernel)).trans ?_
        refine jif _ ?_ ?_
        ·
          refine (sv_iconst jM196 c196_85 rfl (v := 0) (by decide +kernel)).trans ?_
          refine (sv_iadd jM196 c196_86 rfl).trans ?_
          refine (sv_istore (ls1 := [some (.ref 61), some (.int x1), some (.int x2), some (.int x7), some (.int (x4 + (0 : Int32))), some (.int x5), some (.int x6), some (.int x7), some (.int r1)]) jM196 c196_87 rfl (Nat.lt_of_lt_of_eq (by decide +kernel : 4 < 9) rfl) rfl).trans ?_
          refine (sv_iload jM196 c196_89 rfl rfl).trans ?_
          refine (sv_iconst jM196 c196_91 rfl (v := -1) (by decide +kernel)).trans ?_
          refine (sv_icmp_eq jM196 c196_92 rfl (t := 102) (by decide +kernel)).trans ?_
          refine jif _ ?_ ?_
          ·
            refine (sv_iload jM196 c196_102 rfl rfl).trans ?_
            refine (sv_istore (ls1 := [some (.ref 61), some (.int x1), some (.int x2), some (.int x7), some (.int (x4 + (0 : Int32))), some (.int x7), some (.int x6), some (.int x7), some (.int r1)]) jM196 c196_104 rfl (Nat.lt_of_lt_of_eq (by decide +kernel : 5 < 9) rfl) rfl).trans ?_
            refine (sv_iload jM196 c196_106 rfl rfl).trans ?_
            refine (sv_istore (ls1 := [some (.ref 61), some (.int x1), some (.int x2), some (.int x7), some (.int (x4 + (0 : Int32))), some (.int x7), some (.int r1), some (.int x7), some (.int r1)]) jM196 c196_108 rfl (Nat.lt_of_lt_of_eq (by decide +kernel : 6 < 9) rfl) rfl).trans ?_
            refine (sv_iinc (ls1 := [some (.ref 61), some (.int x1), some (.int x2), some (.int x7), some (.int (x4 + (0 : Int32))), some (.int x7), some (.int r1), some (.int (x7 + 1)), some (.int r1)]) jM196 c196_110 rfl rfl (v := 1) (by decide +kernel) rfl).trans ?_
            refine (sv_goto jM196 c196_113 rfl (t := 30) (by decide +kernel)).trans ?_
            rfl
          ·
            refine (sv_iload jM196 c196_95 rfl rfl).trans ?_
            refine (sv_iload jM196 c196_97 rfl rfl).trans ?_
            refine (sv_icmp_ge jM196 c196_99 rfl (t := 110) (by decide +kernel)).trans ?_
            refine jif _ ?_ ?_
            ·
              refine (sv_iinc (ls1 := [some (.ref 61), some (.int x1), some (.int x2), some (.int x7), some (.int (x4 + (0 : Int32))), some (.int x5), some (.int x6), some (.int (x7 + 1)), some (.int r1)]) jM196 c196_110 rfl rfl (v := 1) (by decide +kernel) rfl).trans ?_
              refine (sv_goto jM196 c196_113 rfl (t := 30) (by decide +kernel)).trans ?_
              rfl
            ·
              refine (sv_iload jM196 c196_102 rfl rfl).trans ?_
              refine (sv_istore (ls1 := [some (.ref 61), some (.int x1), some (.int x2), some (.int x7), some (.int (x4 + (0 : Int32))), some (.int x7), some (.int x6), some (.int x7), some (.int r1)]) jM196 c196_104 rfl (Nat.lt_of_lt_of_eq (by decide +kernel : 5 < 9) rfl) rfl).trans ?_
              refine (sv_iload jM196 c196_106 rfl rfl).trans ?_
              refine (sv_istore (ls1 := [some (.ref 61), some (.int x1), some (.int x2), some (.int x7), some (.int (x4 + (0 : Int32))), some (.int x7), some (.int r1), some (.int x7), some (.int r1)]) jM196 c196_108 rfl (Nat.lt_of_lt_of_eq (by decide +kernel : 6 < 9) rfl) rfl).trans ?_
              refine (sv_iinc (ls1 := [some (.ref 61), some (.int x1), some (.int x2), some (.int x7), some (.int (x4 + (0 : Int32))), some (.int x7), some (.int r1), some (.int (x7 + 1)), some (.int r1)]) jM196 c196_110 rfl rfl (v := 1) (by decide +kernel) rfl).trans ?_
              refine (sv_goto jM196 c196_113 rfl (t := 30) (by decide +kernel)).trans ?_
              rfl
        ·
          refine (sv_iconst jM196 c196_81 rfl (v := 1) (by decide +kernel)).trans ?_
          refine (sv_goto jM196 c196_82 rfl (t := 86) (by decide +kernel)).trans ?_
          refine (sv_iadd jM196 c196_86 rfl).trans ?_
          refine (sv_istore (ls1 := [some (.ref 61), some (.int x1), some (.int x2), some (.int x7), some (.int (x4 + (1 : Int32))), some (.int x5), some (.int x6), some (.int x7), some (.int r1)]) jM196 c196_87 rfl (Nat.lt_of_lt_of_eq (by decide +kernel : 4 < 9) rfl) rfl).trans ?_
          refine (sv_iload jM196 c196_89 rfl rfl).trans ?_
          refine (sv_iconst jM196 c196_91 rfl (v := -1) (by decide +kernel)).trans ?_
          refine (sv_icmp_eq jM196 c196_92 rfl (t := 102) (by decide +kernel)).trans ?_
          refine jif _ ?_ ?_
          ·
            refine (sv_iload jM196 c196_102 rfl rfl).trans ?_
            refine (sv_istore (ls1 := [some (.ref 61), some (.int x1), some (.int x2), some (.int x7), some (.int (x4 + (1 : Int32))), some (.int x7), some (.int x6), some (.int x7), some (.int r1)]) jM196 c196_104 rfl (Nat.lt_of_lt_of_eq (by decide +kernel : 5 < 9) rfl) rfl).trans ?_
            refine (sv_iload jM196 c196_106 rfl rfl).trans ?_
            refine (sv_istore (ls1 := [some (.ref 61), some (.int x1), some (.int x2), some (.int x7), some (.int (x4 + (1 : Int32))), some (.int x7), some (.int r1), some (.int x7), some (.int r1)]) jM196 c196_108 rfl (Nat.lt_of_lt_of_eq (by decide +kernel : 6 < 9) rfl) rfl).trans ?_
            refine (sv_iinc (ls1 := [some (.ref 61), some (.int x1), some (.int x2), some (.int x7), some (.int (x4 + (1 : Int32))), some (.int x7), some (.int r1), some (.int (x7 + 1)), some (.int r1)]) jM196 c196_110 rfl rfl (v := 1) (by decide +kernel) rfl).trans ?_
            refine (sv_goto jM196 c196_113 rfl (t := 30) (by decide +kernel)).trans ?_
            rfl
          ·
            refine (sv_iload jM196 c196_95 rfl rfl).trans ?_
            refine (sv_iload jM196 c196_97 rfl rfl).trans ?_
            refine (sv_icmp_ge jM196 c196_99 rfl (t := 110) (by decide +kernel)).trans ?_
            refine jif _ ?_ ?_
            ·
              refine (sv_iinc (ls1 := [some (.ref 61), some (.int x1), some (.int x2), some (.int x7), some (.int (x4 + (1 : Int32))), some (.int x5), some (.int x6), some (.int (x7 + 1)), some (.int r1)]) jM196 c196_110 rfl rfl (v := 1) (by decide +kernel) rfl).trans ?_
              refine (sv_goto jM196 c196_113 rfl (t := 30) (by decide +kernel)).trans ?_
              rfl
            ·
              refine (sv_iload jM196 c196_102 rfl rfl).trans ?_
              refine (sv_istore (ls1 := [some (.ref 61), some (.int x1), some (.int x2), some (.int x7), some (.int (x4 + (1 : Int32))), some (.int x7), some (.int x6), some (.int x7), some (.int r1)]) jM196 c196_104 rfl (Nat.lt_of_lt_of_eq (by decide +kernel : 5 < 9) rfl) rfl).trans ?_
              refine (sv_iload jM196 c196_106 rfl rfl).trans ?_
              refine (sv_istore (ls1 := [some (.ref 61), some (.int x1), some (.int x2), some (.int x7), some (.int (x4 + (1 : Int32))), some (.int x7), some (.int r1), some (.int x7), some (.int r1)]) jM196 c196_108 rfl (Nat.lt_of_lt_of_eq (by decide +kernel : 6 < 9) rfl) rfl).trans ?_
              refine (sv_iinc (ls1 := [some (.ref 61), some (.int x1), some (.int x2), some (.int x7), some (.int (x4 + (1 : Int32))), some (.int x7), some (.int r1), some (.int (x7 + 1)), some (.int r1)]) jM196 c196_110 rfl rfl (v := 1) (by decide +kernel) rfl).trans ?_
              refine (sv_goto jM196 c196_113 rfl (t := 30) (by decide +kernel)).trans ?_
              rfl
    ·
      refine (sv_iload_n jM196 c196_50 rfl rfl).trans ?_
      refine (sv_iconst jM196 c196_51 rfl (v := -1) (by decide +kernel)).trans ?_
      refine (sv_icmp_ne jM196 c196_52 rfl (t := 60) (by decide +kernel)).trans ?_
      refine jif _ ?_ ?_
      ·
        refine (sv_iload_n jM196 c196_60 rfl rfl).trans ?_
        refine (sv_istore_n (ls1 := [some (.ref 61), some (.int x1), some (.int x2), some (.int x3), some (.int x4), some (.int x5), some (.int x6), some (.int x7), some (.int r1)]) jM196 c196_61 rfl (Nat.lt_of_lt_of_eq (by decide +kernel : 2 < 9) rfl) rfl).trans ?_
        refine (sv_iload jM196 c196_62 rfl rfl).trans ?_
        refine (sv_if_ne jM196 c196_64 rfl (t := 72) (by decide +kernel)).trans ?_
        refine jif _ ?_ ?_
        ·
          refine (sv_iload_n jM196 c196_72 rfl rfl).trans ?_
          refine (sv_istore_n (ls1 := [some (.ref 61), some (.int x1), some (.int x2), some (.int x3), some (.int x4), some (.int x5), some (.int x6), some (.int x7), some (.int r1)]) jM196 c196_73 rfl (Nat.lt_of_lt_of_eq (by decide +kernel : 3 < 9) rfl) rfl).trans ?_
          refine (sv_iload jM196 c196_74 rfl rfl).trans ?_
          refine (sv_iload jM196 c196_76 rfl rfl).trans ?_
          refine (sv_if_ne jM196 c196_78 rfl (t := 85) (by decide +kernel)).trans ?_
          refine jif _ ?_ ?_
          ·
            refine (sv_iconst jM196 c196_85 rfl (v := 0) (by decide +kernel)).trans ?_
            refine (sv_iadd jM196 c196_86 rfl).trans ?_
            refine (sv_istore (ls1 := [some (.ref 61), some (.int x1), some (.int x2), some (.int x3), some (.int (x4 + (0 : Int32))), some (.int x5), some (.int x6), some (.int x7), some (.int r1)]) jM196 c196_87 rfl (Nat.lt_of_lt_of_eq (by decide +kernel : 4 < 9) rfl) rfl).trans ?_
            refine (sv_iload jM196 c196_89 rfl rfl).trans ?_
            refine (sv_iconst jM196 c196_91 rfl (v := -1) (by decide +kernel)).trans ?_
            refine (sv_icmp_eq jM196 c196_92 rfl (t := 102) (by decide +kernel)).trans ?_
            refine jif _ ?_ ?_
            ·
              refine (sv_iload jM196 c196_102 rfl rfl).trans ?_
              refine (sv_istore (ls1 := [some (.ref 61), some (.int x1), some (.int x2), some (.int x3), some (.int (x4 + (0 : Int32))), some (.int x7), some (.int x6), some (.int x7), some (.int r1)]) jM196 c196_104 rfl (Nat.lt_of_lt_of_eq (by decide +kernel : 5 < 9) rfl) rfl).trans ?_
              refine (sv_iload jM196 c196_106 rfl rfl).trans ?_
              refine (sv_istore (ls1 := [some (.ref 61), some (.int x1), some (.int x2), some (.int x3), some (.int (x4 + (0 : Int32))), some (.int x7), some (.int r1), some (.int x7), some (.int r1)]) jM196 c196_108 rfl (Nat.lt_of_lt_of_eq (by decide +kernel : 6 < 9) rfl) rfl).trans ?_
              refine (sv_iinc (ls1 := [some (.ref 61), some (.int x1), some (.int x2), some (.int x3), some (.int (x4 + (0 : Int32))), some (.int x7), some (.int r1), some (.int (x7 + 1)), some (.int r1)]) jM196 c196_110 rfl rfl (v := 1) (by decide +kernel) rfl).trans ?_
              refine (sv_goto jM196 c196_113 rfl (t := 30) (by decide +kernel)).trans ?_
              rfl
            ·
              refine (sv_iload jM196 c196_95 rfl rfl).trans ?_
              refine (sv_iload jM196 c196_97 rfl rfl).trans ?_
              refine (sv_icmp_ge jM196 c196_99 rfl (t := 110) (by decide +kernel)).trans ?_
              refine jif _ ?_ ?_
              ·
                refine (sv_iinc (ls1 := [some (.ref 61), some (.int x1), some (.int x2), some (.int x3), some (.int (x4 + (0 : Int32))), some (.int x5), some (.int x6), some (.int (x7 + 1)), some (.int r1)]) jM196 c196_110 rfl rfl (v := 1) (by decide +kernel) rfl).trans ?_
                refine (sv_goto jM196 c196_113 rfl (t := 30) (by decide +kernel)).trans ?_
                rfl
              ·
                refine (sv_iload jM196 c196_102 rfl rfl).trans ?_
                refine (sv_istore (ls1 := [some (.ref 61), some (.int x1), some (.int x2), some (.int x3), some (.int (x4 + (0 : Int32))), some (.int x7), some (.int x6), some (.int x7), some (.int r1)]) jM196 c196_104 rfl (Nat.lt_of_lt_of_eq (by decide +kernel : 5 < 9) rfl) rfl).trans ?_
                refine (sv_iload jM196 c196_106 rfl rfl).trans ?_
                refine (sv_istore (ls1 := [some (.ref 61), some (.int x1), some (.int x2), some (.int x3), some (.int (x4 + (0 : Int32))), some (.int x7), some (.int r1), some (.int x7), some (.int r1)]) jM196 c196_108 rfl (Nat.lt_of_lt_of_eq (by decide +kernel : 6 < 9) rfl) rfl).trans ?_
                refine (sv_iinc (ls1 := [some (.ref 61), some (.int x1), some (.int x2), some (.int x3), some (.int (x4 + (0 : Int32))), some (.int x7), some (.int r1), some (.int (x7 + 1)), some (.int r1)]) jM196 c196_110 rfl rfl (v := 1) (by decide +kernel) rfl).trans ?_
                refine (sv_goto jM196 c196_113 rfl (t := 30) (by decide +kernel)).trans ?_
                rfl
          ·
            refine (sv_iconst jM196 c196_81 rfl (v := 1) (by decide +kernel)).trans ?_
            refine (sv_goto jM196 c196_82 rfl (t := 86) (by decide +kernel)).trans ?_
            refine (sv_iadd jM196 c196_86 rfl).trans ?_
            refine (sv_istore (ls1 := [some (.ref 61), some (.int x1), some (.int x2), some (.int x3), some (.int (x4 + (1 : Int32))), some (.int x5), some (.int x6), some (.int x7), some (.int r1)]) jM196 c196_87 rfl (Nat.lt_of_lt_of_eq (by decide +kernel : 4 < 9) rfl) rfl).trans ?_
            refine (sv_iload jM196 c196_89 rfl rfl).trans ?_
            refine (sv_iconst jM196 c196_91 rfl (v := -1) (by decide +kernel)).trans ?_
            refine (sv_icmp_eq jM196 c196_92 rfl (t := 102) (by decide +kernel)).trans ?_
            refine jif _ ?_ ?_
            ·
              refine (sv_iload jM196 c196_102 rfl rfl).trans ?_
              refine (sv_istore (ls1 := [some (.ref 61), some (.int x1), some (.int x2), some (.int x3), some (.int (x4 + (1 : Int32))), some (.int x7), some (.int x6), some (.int x7), some (.int r1)]) jM196 c196_104 rfl (Nat.lt_of_lt_of_eq (by decide +kernel : 5 < 9) rfl) rfl).trans ?_
              refine (sv_iload jM196 c196_106 rfl rfl).trans ?_
              refine (sv_istore (ls1 := [some (.ref 61), some (.int x1), some (.int x2), some (.int x3), some (.int (x4 + (1 : Int32))), some (.int x7), some (.int r1), some (.int x7), some (.int r1)]) jM196 c196_108 rfl (Nat.lt_of_lt_of_eq (by decide +kernel : 6 < 9) rfl) rfl).trans ?_
              refine (sv_iinc (ls1 := [some (.ref 61), some (.int x1), some (.int x2), some (.int x3), some (.int (x4 + (1 : Int32))), some (.int x7), some (.int r1), some (.int (x7 + 1)), some (.int r1)]) jM196 c196_110 rfl rfl (v := 1) (by decide +kernel) rfl).trans ?_
              refine (sv_goto jM196 c196_113 rfl (t := 30) (by decide +kernel)).trans ?_
              rfl
            ·
              refine (sv_iload jM196 c196_95 rfl rfl).trans ?_
              refine (sv_iload jM196 c196_97 rfl rfl).trans ?_
              refine (sv_icmp_ge jM196 c196_99 rfl (t := 110) (by decide +kernel)).trans ?_
              refine jif _ ?_ ?_
              ·
                refine (sv_iinc (ls1 := [some (.ref 61), some (.int x1), some (.int x2), some (.int x3), some (.int (x4 + (1 : Int32))), some (.int x5), some (.int x6), some (.int (x7 + 1)), some (.int r1)]) jM196 c196_110 rfl rfl (v := 1) (by decide +kernel) rfl).trans ?_
                refine (sv_goto jM196 c196_113 rfl (t := 30) (by decide +kernel)).trans ?_
                rfl
              ·
                refine (sv_iload jM196 c196_102 rfl rfl).trans ?_
                refine (sv_istore (ls1 := [some (.ref 61), some (.int x1), some (.int x2), some (.int x3), some (.int (x4 + (1 : Int32))), some (.int x7), some (.int x6), some (.int x7), some (.int r1)]) jM196 c196_104 rfl (Nat.lt_of_lt_of_eq (by decide +kernel : 5 < 9) rfl) rfl).trans ?_
                refine (sv_iload jM196 c196_106 rfl rfl).trans ?_
                refine (sv_istore (ls1 := [some (.ref 61), some (.int x1), some (.int x2), some (.int x3), some (.int (x4 + (1 : Int32))), some (.int x7), some (.int r1), some (.int x7), some (.int r1)]) jM196 c196_108 rfl (Nat.lt_of_lt_of_eq (by decide +kernel : 6 < 9) rfl) rfl).trans ?_
                refine (sv_iinc (ls1 := [some (.ref 61), some (.int x1), some (.int x2), some (.int x3), some (.int (x4 + (1 : Int32))), some (.int x7), some (.int r1), some (.int (x7 + 1)), some (.int r1)]) jM196 c196_110 rfl rfl (v := 1) (by decide +kernel) rfl).trans ?_
                refine (sv_goto jM196 c196_113 rfl (t := 30) (by decide +kernel)).trans ?_
                rfl
        ·
          refine (sv_iload jM196 c196_67 rfl rfl).trans ?_
          refine (sv_goto jM196 c196_69 rfl (t := 73) (by decide +kernel)).trans ?_
          refine (sv_istore_n (ls1 := [some (.ref 61), some (.int x1), some (.int x2), some (.int x7), some (.int x4), some (.int x5), some (.int x6), some (.int x7), some (.int r1)]) jM196 c196_73 rfl (Nat.lt_of_lt_of_eq (by decide +kernel : 3 < 9) rfl) rfl).trans ?_
          refine (sv_iload jM196 c196_74 rfl rfl).trans ?_
          refine (sv_iload jM196 c196_76 rfl rfl).trans ?_
          refine (sv_if_ne jM196 c196_78 rfl (t := 85) (by decide +kernel)).trans ?_
          refine jif _ ?_ ?_
          ·
            refine (sv_iconst jM196 c196_85 rfl (v := 0) (by decide +kernel)).trans ?_
            refine (sv_iadd jM196 c196_86 rfl).trans ?_
            refine (sv_istore (ls1 := [some (.ref 61), some (.int x1), some (.int x2), some (.int x7), some (.int (x4 + (0 : Int32))), some (.int x5), some (.int x6), some (.int x7), some (.int r1)]) jM196 c196_87 rfl (Nat.lt_of_lt_of_eq (by decide +kernel : 4 < 9) rfl) rfl).trans ?_
            refine (sv_iload jM196 c196_89 rfl rfl).trans ?_
            refine (sv_iconst jM196 c196_91 rfl (v := -1) (by decide +kernel)).trans ?_
            refine (sv_icmp_eq jM196 c196_92 rfl (t := 102) (by decide +kernel)).trans ?_
            refine jif _ ?_ ?_
            ·
              refine (sv_iload jM196 c196_102 rfl rfl).trans ?_
              refine (sv_istore (ls1 := [some (.ref 61), some (.int x1), some (.int x2), some (.int x7), some (.int (x4 + (0 : Int32))), some (.int x7), some (.int x6), some (.int x7), some (.int r1)]) jM196 c196_104 rfl (Nat.lt_of_lt_of_eq (by decide +kernel : 5 < 9) rfl) rfl).trans ?_
              refine (sv_iload jM196 c196_106 rfl rfl).trans ?_
              refine (sv_istore (ls1 := [some (.ref 61), some (.int x1), some (.int x2), some (.int x7), some (.int (x4 + (0 : Int32))), some (.int x7), some (.int r1), some (.int x7), some (.int r1)]) jM196 c196_108 rfl (Nat.lt_of_lt_of_eq (by decide +kernel : 6 < 9) rfl) rfl).trans ?_
              refine (sv_iinc (ls1 := [some (.ref 61), some (.int x1), some (.int x2), some (.int x7), some (.int (x4 + (0 : Int32))), some (.int x7), some (.int r1), some (.int (x7 + 1)), some (.int r1)]) jM196 c196_110 rfl rfl (v := 1) (by decide +kernel) rfl).trans ?_
              refine (sv_goto jM196 c196_113 rfl (t := 30) (by decide +kernel)).trans ?_
              rfl
            ·
              refine (sv_iload jM196 c196_95 rfl rfl).trans ?_
              refine (sv_iload jM196 c196_97 rfl rfl).trans ?_
              refine (sv_icmp_ge jM196 c196_99 rfl (t := 110) (by decide +kernel)).trans ?_
              refine jif _ ?_ ?_
              ·
                refine (sv_iinc (ls1 := [some (.ref 61), some (.int x1), some (.int x2), some (.int x7), some (.int (x4 + (0 : Int32))), some (.int x5), some (.int x6), some (.int (x7 + 1)), some (.int r1)]) jM196 c196_110 rfl rfl (v := 1) (by decide +kernel) rfl).trans ?_
                refine (sv_goto jM196 c196_113 rfl (t := 30) (by decide +kernel)).trans ?_
                rfl
              ·
                refine (sv_iload jM196 c196_102 rfl rfl).trans ?_
                refine (sv_istore (ls1 := [some (.ref 61), some (.int x1), some (.int x2), some (.int x7), some (.int (x4 + (0 : Int32))), some (.int x7), some (.int x6), some (.int x7), some (.int r1)]) jM196 c196_104 rfl (Nat.lt_of_lt_of_eq (by decide +kernel : 5 < 9) rfl) rfl).trans ?_
                refine (sv_iload jM196 c196_106 rfl rfl).trans ?_
                refine (sv_istore (ls1 := [some (.ref 61), some (.int x1), some (.int x2), some (.int x7), some (.int (x4 + (0 : Int32))), some (.int x7), some (.int r1), some (.int x7), some (.int r1)]) jM196 c196_108 rfl (Nat.lt_of_lt_of_eq (by decide +kernel : 6 < 9) rfl) rfl).trans ?_
                refine (sv_iinc (ls1 := [some (.ref 61), some (.int x1), some (.int x2), some (.int x7), some (.int (x4 + (0 : Int32))), some (.int x7), some (.int r1), some (.int (x7 + 1)), some (.int r1)]) jM196 c196_110 rfl rfl (v := 1) (by decide +kernel) rfl).trans ?_
                refine (sv_goto jM196 c196_113 rfl (t := 30) (by decide +kernel)).trans ?_
                rfl
          ·
            refine (sv_iconst jM196 c196_81 rfl (v := 1) (by decide +kernel)).trans ?_
            refine (sv_goto jM196 c196_82 rfl (t := 86) (by decide +kernel)).trans ?_
            refine (sv_iadd jM196 c196_86 rfl).trans ?_
            refine (sv_istore (ls1 := [some (.ref 61), some (.int x1), some (.int x2), some (.int x7), some (.int (x4 + (1 : Int32))), some (.int x5), some (.int x6), some (.int x7), some (.int r1)]) jM196 c196_87 rfl (Nat.lt_of_lt_of_eq (by decide +kernel : 4 < 9) rfl) rfl).trans ?_
            refine (sv_iload jM196 c196_89 rfl rfl).trans ?_
            refine (sv_iconst jM196 c196_91 rfl (v := -1) (by decide +kernel)).trans ?_
            refine (sv_icmp_eq jM196 c196_92 rfl (t := 102) (by decide +kernel)).trans ?_
            refine jif _ ?_ ?_
            ·
              refine (sv_iload jM196 c196_102 rfl rfl).trans ?_
              refine (sv_istore (ls1 := [some (.ref 61), some (.int x1), some (.int x2), some (.int x7), some (.int (x4 + (1 : Int32))), some (.int x7), some (.int x6), some (.int x7), some (.int r1)]) jM196 c196_104 rfl (Nat.lt_of_lt_of_eq (by decide +kernel : 5 < 9) rfl) rfl).trans ?_
              refine (sv_iload jM196 c196_106 rfl rfl).trans ?_
              refine (sv_istore (ls1 := [some (.ref 61), some (.int x1), some (.int x2), some (.int x7), some (.int (x4 + (1 : Int32))), some (.int x7), some (.int r1), some (.int x7), some (.int r1)]) jM196 c196_108 rfl (Nat.lt_of_lt_of_eq (by decide +kernel : 6 < 9) rfl) rfl).trans ?_
              refine (sv_iinc (ls1 := [some (.ref 61), some (.int x1), some (.int x2), some (.int x7), some (.int (x4 + (1 : Int32))), some (.int x7), some (.int r1), some (.int (x7 + 1)), some (.int r1)]) jM196 c196_110 rfl rfl (v := 1) (by decide +kernel) rfl).trans ?_
              refine (sv_goto jM196 c196_113 rfl (t := 30) (by decide +kernel)).trans ?_
              rfl
            ·
              refine (sv_iload jM196 c196_95 rfl rfl).trans ?_
              refine (sv_iload jM196 c196_97 rfl rfl).trans ?_
              refine (sv_icmp_ge jM196 c196_99 rfl (t := 110) (by decide +kernel)).trans ?_
              refine jif _ ?_ ?_
              ·
                refine (sv_iinc (ls1 := [some (.ref 61), some (.int x1), some (.int x2), some (.int x7), some (.int (x4 + (1 : Int32))), some (.int x5), some (.int x6), some (.int (x7 + 1)), some (.int r1)]) jM196 c196_110 rfl rfl (v := 1) (by decide +kernel) rfl).trans ?_
                refine (sv_goto jM196 c196_113 rfl (t := 30) (by decide +kernel)).trans ?_
                rfl
              ·
                refine (sv_iload jM196 c196_102 rfl rfl).trans ?_
                refine (sv_istore (ls1 := [some (.ref 61), some (.int x1), some (.int x2), some (.int x7), some (.int (x4 + (1 : Int32))), some (.int x7), some (.int x6), some (.int x7), some (.int r1)]) jM196 c196_104 rfl (Nat.lt_of_lt_of_eq (by decide +kernel : 5 < 9) rfl) rfl).trans ?_
                refine (sv_iload jM196 c196_106 rfl rfl).trans ?_
                refine (sv_istore (ls1 := [some (.ref 61), some (.int x1), some (.int x2), some (.int x7), some (.int (x4 + (1 : Int32))), some (.int x7), some (.int r1), some (.int x7), some (.int r1)]) jM196 c196_108 rfl (Nat.lt_of_lt_of_eq (by decide +kernel : 6 < 9) rfl) rfl).trans ?_
                refine (sv_iinc (ls1 := [some (.ref 61), some (.int x1), some (.int x2), some (.int x7), some (.int (x4 + (1 : Int32))), some (.int x7), some (.int r1), some (.int (x7 + 1)), some (.int r1)]) jM196 c196_110 rfl rfl (v := 1) (by decide +kernel) rfl).trans ?_
                refine (sv_goto jM196 c196_113 rfl (t := 30) (by decide +kernel)).trans ?_
                rfl
      ·
        refine (sv_iload jM196 c196_55 rfl rfl).trans ?_
        refine (sv_goto jM196 c196_57 rfl (t := 61) (by decide +kernel)).trans ?_
        refine (sv_istore_n (ls1 := [some (.ref 61), some (.int x1), some (.int x7), some (.int x3), some (.int x4), some (.int x5), some (.int x6), some (.int x7), some (.int r1)]) jM196 c196_61 rfl (Nat.lt_of_lt_of_eq (by decide +kernel : 2 < 9) rfl) rfl).trans ?_
        refine (sv_iload jM196 c196_62 rfl rfl).trans ?_
        refine (sv_if_ne jM196 c196_64 rfl (t := 72) (by decide +kernel)).trans ?_
        refine jif _ ?_ ?_
        ·
          refine (sv_iload_n jM196 c196_72 rfl rfl).trans ?_
          refine (sv_istore_n (ls1 := [some (.ref 61), some (.int x1), some (.int x7), some (.int x3), some (.int x4), some (.int x5), some (.int x6), some (.int x7), some (.int r1)]) jM196 c196_73 rfl (Nat.lt_of_lt_of_eq (by decide +kernel : 3 < 9) rfl) rfl).trans ?_
          refine (sv_iload jM196 c196_74 rfl rfl).trans ?_
          refine (sv_iload jM196 c196_76 rfl rfl).trans ?_
          refine (sv_if_ne jM196 c196_78 rfl (t := 85) (by decide +kernel)).trans ?_
          refine jif _ ?_ ?_
          ·
            refine (sv_iconst jM196 c196_85 rfl (v := 0) (by decide +kernel)).trans ?_
            refine (sv_iadd jM196 c196_86 rfl).trans ?_
            refine (sv_istore (ls1 := [some (.ref 61), some (.int x1), some (.int x7), some (.int x3), some (.int (x4 + (0 : Int32))), some (.int x5), some (.int x6), some (.int x7), some (.int r1)]) jM196 c196_87 rfl (Nat.lt_of_lt_of_eq (by decide +kernel : 4 < 9) rfl) rfl).trans ?_
            refine (sv_iload jM196 c196_89 rfl rfl).trans ?_
            refine (sv_iconst jM196 c196_91 rfl (v := -1) (by decide +kernel)).trans ?_
            refine (sv_icmp_eq jM196 c196_92 rfl (t := 102) (by decide +kernel)).trans ?_
            refine jif _ ?_ ?_
            ·
              refine (sv_iload jM196 c196_102 rfl rfl).trans ?_
              refine (sv_istore (ls1 := [some (.ref 61), some (.int x1), some (.int x7), some (.int x3), some (.int (x4 + (0 : Int32))), some (.int x7), some (.int x6), some (.int x7), some (.int r1)]) jM196 c196_104 rfl (Nat.lt_of_lt_of_eq (by decide +kernel : 5 < 9) rfl) rfl).trans ?_
              refine (sv_iload jM196 c196_106 rfl rfl).trans ?_
              refine (sv_istore (ls1 := [some (.ref 61), some (.int x1), some (.int x7), some (.int x3), some (.int (x4 + (0 : Int32))), some (.int x7), some (.int r1), some (.int x7), some (.int r1)]) jM196 c196_108 rfl (Nat.lt_of_lt_of_eq (by decide +kernel : 6 < 9) rfl) rfl).trans ?_
              refine (sv_iinc (ls1 := [some (.ref 61), some (.int x1), some (.int x7), some (.int x3), some (.int (x4 + (0 : Int32))), some (.int x7), some (.int r1), some (.int (x7 + 1)), some (.int r1)]) jM196 c196_110 rfl rfl (v := 1) (by decide +kernel) rfl).trans ?_
              refine (sv_goto jM196 c196_113 rfl (t := 30) (by decide +kernel)).trans ?_
              rfl
            ·
              refine (sv_iload jM196 c196_95 rfl rfl).trans ?_
              refine (sv_iload jM196 c196_97 rfl rfl).trans ?_
              refine (sv_icmp_ge jM196 c196_99 rfl (t := 110) (by decide +kernel)).trans ?_
              refine jif _ ?_ ?_
              ·
                refine (sv_iinc (ls1 := [some (.ref 61), some (.int x1), some (.int x7), some (.int x3), some (.int (x4 + (0 : Int32))), some (.int x5), some (.int x6), some (.int (x7 + 1)), some (.int r1)]) jM196 c196_110 rfl rfl (v := 1) (by decide +kernel) rfl).trans ?_
                refine (sv_goto jM196 c196_113 rfl (t := 30) (by decide +kernel)).trans ?_
                rfl
              ·
                refine (sv_iload jM196 c196_102 rfl rfl).trans ?_
                refine (sv_istore (ls1 := [some (.ref 61), some (.int x1), some (.int x7), some (.int x3), some (.int (x4 + (0 : Int32))), some (.int x7), some (.int x6), some (.int x7), some (.int r1)]) jM196 c196_104 rfl (Nat.lt_of_lt_of_eq (by decide +kernel : 5 < 9) rfl) rfl).trans ?_
                refine (sv_iload jM196 c196_106 rfl rfl).trans ?_
                refine (sv_istore (ls1 := [some (.ref 61), some (.int x1), some (.int x7), some (.int x3), some (.int (x4 + (0 : Int32))), some (.int x7), some (.int r1), some (.int x7), some (.int r1)]) jM196 c196_108 rfl (Nat.lt_of_lt_of_eq (by decide +kernel : 6 < 9) rfl) rfl).trans ?_
                refine (sv_iinc (ls1 := [some (.ref 61), some (.int x1), some (.int x7), some (.int x3), some (.int (x4 + (0 : Int32))), some (.int x7), some (.int r1), some (.int (x7 + 1)), some (.int r1)]) jM196 c196_110 rfl rfl (v := 1) (by decide +kernel) rfl).trans ?_
                refine (sv_goto jM196 c196_113 rfl (t := 30) (by decide +kernel)).trans ?_
                rfl
          ·
            refine (sv_iconst jM196 c196_81 rfl (v := 1) (by decide +kernel)).trans ?_
            refine (sv_goto jM196 c196_82 rfl (t := 86) (by decide +kernel)).trans ?_
            refine (sv_iadd jM196 c196_86 rfl).trans ?_
            refine (sv_istore (ls1 := [some (.ref 61), some (.int x1), some (.int x7), some (.int x3), some (.int (x4 + (1 : Int32))), some (.int x5), some (.int x6), some (.int x7), some (.int r1)]) jM196 c196_87 rfl (Nat.lt_of_lt_of_eq (by decide +kernel : 4 < 9) rfl) rfl).trans ?_
            refine (sv_iload jM196 c196_89 rfl rfl).trans ?_
            refine (sv_iconst jM196 c196_91 rfl (v := -1) (by decide +kernel)).trans ?_
            refine (sv_icmp_eq jM196 c196_92 rfl (t := 102) (by decide +kernel)).trans ?_
            refine jif _ ?_ ?_
            ·
              refine (sv_iload jM196 c196_102 rfl rfl).trans ?_
              refine (sv_istore (ls1 := [some (.ref 61), some (.int x1), some (.int x7), some (.int x3), some (.int (x4 + (1 : Int32))), some (.int x7), some (.int x6), some (.int x7), some (.int r1)]) jM196 c196_104 rfl (Nat.lt_of_lt_of_eq (by decide +kernel : 5 < 9) rfl) rfl).trans ?_
              refine (sv_iload jM196 c196_106 rfl rfl).trans ?_
              refine (sv_istore (ls1 := [some (.ref 61), some (.int x1), some (.int x7), some (.int x3), some (.int (x4 + (1 : Int32))), some (.int x7), some (.int r1), some (.int x7), some (.int r1)]) jM196 c196_108 rfl (Nat.lt_of_lt_of_eq (by decide +kernel : 6 < 9) rfl) rfl).trans ?_
              refine (sv_iinc (ls1 := [some (.ref 61), some (.int x1), some (.int x7), some (.int x3), some (.int (x4 + (1 : Int32))), some (.int x7), some (.int r1), some (.int (x7 + 1)), some (.int r1)]) jM196 c196_110 rfl rfl (v := 1) (by decide +kernel) rfl).trans ?_
              refine (sv_goto jM196 c196_113 rfl (t := 30) (by decide +kernel)).trans ?_
              rfl
            ·
              refine (sv_iload jM196 c196_95 rfl rfl).trans ?_
              refine (sv_iload jM196 c196_97 rfl rfl).trans ?_
              refine (sv_icmp_ge jM196 c196_99 rfl (t := 110) (by decide +kernel)).trans ?_
              refine jif _ ?_ ?_
              ·
                refine (sv_iinc (ls1 := [some (.ref 61), some (.int x1), some (.int x7), some (.int x3), some (.int (x4 + (1 : Int32))), some (.int x5), some (.int x6), some (.int (x7 + 1)), some (.int r1)]) jM196 c196_110 rfl rfl (v := 1) (by decide +kernel) rfl).trans ?_
                refine (sv_goto jM196 c196_113 rfl (t := 30) (by decide +kernel)).trans ?_
                rfl
              ·
                refine (sv_iload jM196 c196_102 rfl rfl).trans ?_
                refine (sv_istore (ls1 := [some (.ref 61), some (.int x1), some (.int x7), some (.int x3), some (.int (x4 + (1 : Int32))), some (.int x7), some (.int x6), some (.int x7), some (.int r1)]) jM196 c196_104 rfl (Nat.lt_of_lt_of_eq (by decide +kernel : 5 < 9) rfl) rfl).trans ?_
                refine (sv_iload jM196 c196_106 rfl rfl).trans ?_
                refine (sv_istore (ls1 := [some (.ref 61), some (.int x1), some (.int x7), some (.int x3), some (.int (x4 + (1 : Int32))), some (.int x7), some (.int r1), some (.int x7), some (.int r1)]) jM196 c196_108 rfl (Nat.lt_of_lt_of_eq (by decide +kernel : 6 < 9) rfl) rfl).trans ?_
                refine (sv_iinc (ls1 := [some (.ref 61), some (.int x1), some (.int x7), some (.int x3), some (.int (x4 + (1 : Int32))), some (.int x7), some (.int r1), some (.int (x7 + 1)), some (.int r1)]) jM196 c196_110 rfl rfl (v := 1) (by decide +kernel) rfl).trans ?_
                refine (sv_goto jM196 c196_113 rfl (t := 30) (by decide +kernel)).trans ?_
                rfl
        ·
          refine (sv_iload jM196 c196_67 rfl rfl).trans ?_
          refine (sv_goto jM196 c196_69 rfl (t := 73) (by decide +kernel)).trans ?_
          refine (sv_istore_n (ls1 := [some (.ref 61), some (.int x1), some (.int x7), some (.int x7), some (.int x4), some (.int x5), some (.int x6), some (.int x7), some (.int r1)]) jM196 c196_73 rfl (Nat.lt_of_lt_of_eq (by decide +kernel : 3 < 9) rfl) rfl).trans ?_
          refine (sv_iload jM196 c196_74 rfl rfl).trans ?_
          refine (sv_iload jM196 c196_76 rfl rfl).trans ?_
          refine (sv_if_ne jM196 c196_78 rfl (t := 85) (by decide +kernel)).trans ?_
          refine jif _ ?_ ?_
          ·
            refine (sv_iconst jM196 c196_85 rfl (v := 0) (by decide +kernel)).trans ?_
            refine (sv_iadd jM196 c196_86 rfl).trans ?_
            refine (sv_istore (ls1 := [some (.ref 61), some (.int x1), some (.int x7), some (.int x7), some (.int (x4 + (0 : Int32))), some (.int x5), some (.int x6), some (.int x7), some (.int r1)]) jM196 c196_87 rfl (Nat.lt_of_lt_of_eq (by decide +kernel : 4 < 9) rfl) rfl).trans ?_
            refine (sv_iload jM196 c196_89 rfl rfl).trans ?_
            refine (sv_iconst jM196 c196_91 rfl (v := -1) (by decide +kernel)).trans ?_
            refine (sv_icmp_eq jM196 c196_92 rfl (t := 102) (by decide +kernel)).trans ?_
            refine jif _ ?_ ?_
            ·
              refine (sv_iload jM196 c196_102 rfl rfl).trans ?_
              refine (sv_istore (ls1 := [some (.ref 61), some (.int x1), some (.int x7), some (.int x7), some (.int (x4 + (0 : Int32))), some (.int x7), some (.int x6), some (.int x7), some (.int r1)]) jM196 c196_104 rfl (Nat.lt_of_lt_of_eq (by decide +kernel : 5 < 9) rfl) rfl).trans ?_
              refine (sv_iload jM196 c196_106 rfl rfl).trans ?_
              refine (sv_istore (ls1 := [some (.ref 61), some (.int x1), some (.int x7), some (.int x7), some (.int (x4 + (0 : Int32))), some (.int x7), some (.int r1), some (.int x7), some (.int r1)]) jM196 c196_108 rfl (Nat.lt_of_lt_of_eq (by decide +kernel : 6 < 9) rfl) rfl).trans ?_
              refine (sv_iinc (ls1 := [some (.ref 61), some (.int x1), some (.int x7), some (.int x7), some (.int (x4 + (0 : Int32))), some (.int x7), some (.int r1), some (.int (x7 + 1)), some (.int r1)]) jM196 c196_110 rfl rfl (v := 1) (by decide +kernel) rfl).trans ?_
              refine (sv_goto jM196 c196_113 rfl (t := 30) (by decide +kernel)).trans ?_
              rfl
            ·
              refine (sv_iload jM196 c196_95 rfl rfl).trans ?_
              refine (sv_iload jM196 c196_97 rfl rfl).trans ?_
              refine (sv_icmp_ge jM196 c196_99 rfl (t := 110) (by decide +kernel)).trans ?_
              refine jif _ ?_ ?_
              ·
                refine (sv_iinc (ls1 := [some (.ref 61), some (.int x1), some (.int x7), some (.int x7), some (.int (x4 + (0 : Int32))), some (.int x5), some (.int x6), some (.int (x7 + 1)), some (.int r1)]) jM196 c196_110 rfl rfl (v := 1) (by decide +kernel) rfl).trans ?_
                refine (sv_goto jM196 c196_113 rfl (t := 30) (by decide +kernel)).trans ?_
                rfl
              ·
                refine (sv_iload jM196 c196_102 rfl rfl).trans ?_
                refine (sv_istore (ls1 := [some (.ref 61), some (.int x1), some (.int x7), some (.int x7), some (.int (x4 + (0 : Int32))), some (.int x7), some (.int x6), some (.int x7), some (.int r1)]) jM196 c196_104 rfl (Nat.lt_of_lt_of_eq (by decide +kernel : 5 < 9) rfl) rfl).trans ?_
                refine (sv_iload jM196 c196_106 rfl rfl).trans ?_
                refine (sv_istore (ls1 := [some (.ref 61), some (.int x1), some (.int x7), some (.int x7), some (.int (x4 + (0 : Int32))), some (.int x7), some (.int r1), some (.int x7), some (.int r1)]) jM196 c196_108 rfl (Nat.lt_of_lt_of_eq (by decide +kernel : 6 < 9) rfl) rfl).trans ?_
                refine (sv_iinc (ls1 := [some (.ref 61), some (.int x1), some (.int x7), some (.int x7), some (.int (x4 + (0 : Int32))), some (.int x7), some (.int r1), some (.int (x7 + 1)), some (.int r1)]) jM196 c196_110 rfl rfl (v := 1) (by decide +kernel) rfl).trans ?_
                refine (sv_goto jM196 c196_113 rfl (t := 30) (by decide +kernel)).trans ?_
                rfl
          ·
            refine (sv_iconst jM196 c196_81 rfl (v := 1) (by decide +kernel)).trans ?_
            refine (sv_goto jM196 c196_82 rfl (t := 86) (by decide +kernel)).trans ?_
            refine (sv_iadd jM196 c196_86 rfl).trans ?_
            refine (sv_istore (ls1 := [some (.ref 61), some (.int x1), some (.int x7), some (.int x7), some (.int (x4 + (1 : Int32))), some (.int x5), some (.int x6), some (.int x7), some (.int r1)]) jM196 c196_87 rfl (Nat.lt_of_lt_of_eq (by decide +kernel : 4 < 9) rfl) rfl).trans ?_
            refine (sv_iload jM196 c196_89 rfl rfl).trans ?_
            refine (sv_iconst jM196 c196_91 rfl (v := -1) (by decide +kernel)).trans ?_
            refine (sv_icmp_eq jM196 c196_92 rfl (t := 102) (by decide +kernel)).trans ?_
            refine jif _ ?_ ?_
            ·
              refine (sv_iload jM196 c196_102 rfl rfl).trans ?_
              refine (sv_istore (ls1 := [some (.ref 61), some (.int x1), some (.int x7), some (.int x7), some (.int (x4 + (1 : Int32))), some (.int x7), some (.int x6), some (.int x7), some (.int r1)]) jM196 c196_104 rfl (Nat.lt_of_lt_of_eq (by decide +kernel : 5 < 9) rfl) rfl).trans ?_
              refine (sv_iload jM196 c196_106 rfl rfl).trans ?_
              refine (sv_istore (ls1 := [some (.ref 61), some (.int x1), some (.int x7), some (.int x7), some (.int (x4 + (1 : Int32))), some (.int x7), some (.int r1), some (.int x7), some (.int r1)]) jM196 c196_108 rfl (Nat.lt_of_lt_of_eq (by decide +kernel : 6 < 9) rfl) rfl).trans ?_
              refine (sv_iinc (ls1 := [some (.ref 61), some (.int x1), some (.int x7), some (.int x7), some (.int (x4 + (1 : Int32))), some (.int x7), some (.int r1), some (.int (x7 + 1)), some (.int r1)]) jM196 c196_110 rfl rfl (v := 1) (by decide +kernel) rfl).trans ?_
              refine (sv_goto jM196 c196_113 rfl (t := 30) (by decide +kernel)).trans ?_
              rfl
            ·
              refine (sv_iload jM196 c196_95 rfl rfl).trans ?_
              refine (sv_iload jM196 c196_97 rfl rfl).trans ?_
              refine (sv_icmp_ge jM196 c196_99 rfl (t := 110) (by decide +kernel)).trans ?_
              refine jif _ ?_ ?_
              ·
                refine (sv_iinc (ls1 := [some (.ref 61), some (.int x1), some (.int x7), some (.int x7), some (.int (x4 + (1 : Int32))), some (.int x5), some (.int x6), some (.int (x7 + 1)), some (.int r1)]) jM196 c196_110 rfl rfl (v := 1) (by decide +kernel) rfl).trans ?_
                refine (sv_goto jM196 c196_113 rfl (t := 30) (by decide +kernel)).trans ?_
                rfl
              ·
                refine (sv_iload jM196 c196_102 rfl rfl).trans ?_
                refine (sv_istore (ls1 := [some (.ref 61), some (.int x1), some (.int x7), some (.int x7), some (.int (x4 + (1 : Int32))), some (.int x7), some (.int x6), some (.int x7), some (.int r1)]) jM196 c196_104 rfl (Nat.lt_of_lt_of_eq (by decide +kernel : 5 < 9) rfl) rfl).trans ?_
                refine (sv_iload jM196 c196_106 rfl rfl).trans ?_
                refine (sv_istore (ls1 := [some (.ref 61), some (.int x1), some (.int x7), some (.int x7), some (.int (x4 + (1 : Int32))), some (.int x7), some (.int r1), some (.int x7), some (.int r1)]) jM196 c196_108 rfl (Nat.lt_of_lt_of_eq (by decide +kernel : 6 < 9) rfl) rfl).trans ?_
                refine (sv_iinc (ls1 := [some (.ref 61), some (.int x1), some (.int x7), some (.int x7), some (.int (x4 + (1 : Int32))), some (.int x7), some (.int r1), some (.int (x7 + 1)), some (.int r1)]) jM196 c196_110 rfl rfl (v := 1) (by decide +kernel) rfl).trans ?_
                refine (sv_goto jM196 c196_113 rfl (t := 30) (by decide +kernel)).trans ?_
                rfl
set_option maxRecDepth 20000 in
set_option maxHeartbeats 4000000 in
theorem M_fitsOf_S117_0 (x1 : Int32) (x2 : Int32) (x3 : Int32) (x4 : Int32) (x5 : Int32) (x6 : Int32) (x7 : Int32) (u8 : Option Value) (σ : jm_S) : jv 196 117 [some (.ref 61), some (.int x1), some (.int x2), some (.int x3), some (.int x4), some (.int x5), some (.int x6), some (.int x7), u8] [(.int (0 : Int32))] σ = some (some (.int x2), σ) := by
  refine (sv_ts jM196 c196_117 rfl (by decide +kernel) (z := 31) (by decide +kernel) (t := 148) (by decide +kernel)).trans ?_
  refine (sv_iload_n jM196 c196_148 rfl rfl).trans ?_
  exact sv_iret jM196 c196_149 rfl rfl
set_option maxRecDepth 20000 in
set_option maxHeartbeats 4000000 in
theorem M_fitsOf_S117_1 (x1 : Int32) (x2 : Int32) (x3 : Int32) (x4 : Int32) (x5 : Int32) (x6 : Int32) (x7 : Int32) (u8 : Option Value) (σ : jm_S) : jv 196 117 [some (.ref 61), some (.int x1), some (.int x2), some (.int x3), some (.int x4), some (.int x5), some (.int x6), some (.int x7), u8] [(.int (1 : Int32))] σ = some (some (.int x3), σ) := by
  refine (sv_ts jM196 c196_117 rfl (by decide +kernel) (z := 33) (by decide +kernel) (t := 150) (by decide +kernel)).trans ?_
  refine (sv_iload_n jM196 c196_150 rfl rfl).trans ?_
  exact sv_iret jM196 c196_151 rfl rfl
set_option maxRecDepth 20000 in
set_option maxHeartbeats 4000000 in
theorem M_fitsOf_S117_2 (x1 : Int32) (x2 : Int32) (x3 : Int32) (x4 : Int32) (x5 : Int32) (x6 : Int32) (x7 : Int32) (u8 : Option Value) (σ : jm_S) : jv 196 117 [some (.ref 61), some (.int x1), some (.int x2), some (.int x3), some (.int x4), some (.int x5), some (.int x6), some (.int x7), u8] [(.int (2 : Int32))] σ = some (some (.int x4), σ) := by
  refine (sv_ts jM196 c196_117 rfl (by decide +kernel) (z := 35) (by decide +kernel) (t := 152) (by decide +kernel)).trans ?_
  refine (sv_iload jM196 c196_152 rfl rfl).trans ?_
  exact sv_iret jM196 c196_154 rfl rfl
set_option maxRecDepth 20000 in
set_option maxHeartbeats 4000000 in
theorem M_fitsOf_S117_3 (x1 : Int32) (x2 : Int32) (x3 : Int32) (x4 : Int32) (x5 : Int32) (x6 : Int32) (x7 : Int32) (u8 : Option Value) (σ : jm_S) : jv 196 117 [some (.ref 61), some (.int x1), some (.int x2), some (.int x3), some (.int x4), some (.int x5), some (.int x6), some (.int x7), u8] [(.int (3 : Int32))] σ = some (some (.int x5), σ) := by
  refine (sv_ts jM196 c196_117 rfl (by decide +kernel) (z := 38) (by decide +kernel) (t := 155) (by decide +kernel)).trans ?_
  refine (sv_iload jM196 c196_155 rfl rfl).trans ?_
  exact sv_iret jM196 c196_157 rfl rfl
set_option maxRecDepth 20000 in
set_option maxHeartbeats 4000000 in
theorem M_fitsOf_S117_o (x1 : Int32) (x2 : Int32) (x3 : Int32) (x4 : Int32) (x5 : Int32) (x6 : Int32) (x7 : Int32) (u8 : Option Value) (y0 : Int32) (σ : jm_S) (hx : y0.toInt < 0 ∨ 3 < y0.toInt) : jv 196 117 [some (.ref 61), some (.int x1), some (.int x2), some (.int x3), some (.int x4), some (.int x5), some (.int x6), some (.int x7), u8] [(.int y0)] σ = some (some (.int x6), σ) := by
  refine (sv_tso jM196 c196_117 rfl (t := 158) (by decide +kernel) hx).trans ?_
  refine (sv_iload jM196 c196_158 rfl rfl).trans ?_
  exact sv_iret jM196 c196_160 rfl rfl
set_option maxRecDepth 20000 in
set_option maxHeartbeats 4000000 in
theorem M_readsRule_in (x1 : Int32) (σ : jm_S) : jc 147 [(.ref 61), (.int x1)] σ = (if x1 < 0 ∨ 4 ≤ x1.toNatClampNeg then none else (if (σ 70 x1.toNatClampNeg) ≤ 0 then jv 147 25 [some (.ref 61), some (.int x1), some (.int (0 : Int32)), none, none] [] (jm_up (jm_up σ 61 11 (0 : Int32)) 61 17 (0 : Int32)) else jv 147 25 [some (.ref 61), some (.int x1), some (.int (1 : Int32)), none, none] [] (jm_up (jm_up σ 61 11 (0 : Int32)) 61 17 (0 : Int32)))) := by
  refine (jc_of (ls1 := [some (.ref 61), some (.int x1), none, none, none]) ((jm_ini_of jM147).trans rfl)).trans ?_
  refine (sv_aload_n jM147 c147_0 rfl rfl).trans ?_
  refine (sv_iconst jM147 c147_1 rfl (v := 0) (by decide +kernel)).trans ?_
  refine (sv_putf jM147 c147_2 rfl lf_9_159 (pf_61_11 _ _)).trans ?_
  refine (sv_aload_n jM147 c147_5 rfl rfl).trans ?_
  refine (sv_iconst jM147 c147_6 rfl (v := 0) (by decide +kernel)).trans ?_
  refine (sv_putf jM147 c147_7 rfl lf_9_191 (pf_61_17 _ _)).trans ?_
  refine (sv_aload_n jM147 c147_10 rfl rfl).trans ?_
  refine (sv_getf jM147 c147_11 rfl lf_9_34 (fg_61_10 _)).trans ?_
  refine (sv_iload_n jM147 c147_14 rfl rfl).trans ?_
  refine (sv_iald jM147 c147_15 rfl (ia_70 _)).trans ?_
  refine jif _ rfl ?_
  refine (sv_if_le jM147 c147_16 rfl (t := 23) (by decide +kernel)).trans ?_
  refine jif _ ?_ ?_
  ·
    refine (sv_iconst jM147 c147_23 rfl (v := 0) (by decide +kernel)).trans ?_
    refine (sv_istore_n (ls1 := [some (.ref 61), some (.int x1), some (.int (0 : Int32)), none, none]) jM147 c147_24 rfl (Nat.lt_of_lt_of_eq (by decide +kernel : 2 < 5) rfl) rfl).trans ?_
    rfl
  ·
    refine (sv_iconst jM147 c147_19 rfl (v := 1) (by decide +kernel)).trans ?_
    refine (sv_goto jM147 c147_20 rfl (t := 24) (by decide +kernel)).trans ?_
    refine (sv_istore_n (ls1 := [some (.ref 61), some (.int x1), some (.int (1 : Int32)), none, none]) jM147 c147_24 rfl (Nat.lt_of_lt_of_eq (by decide +kernel : 2 < 5) rfl) rfl).trans ?_
    rfl
set_option maxRecDepth 20000 in
set_option maxHeartbeats 4000000 in
theorem M_readsRule_L25 (x1 : Int32) (x2 : Int32) (u3 : Option Value) (u4 : Option Value) (σ : jm_S) : jv 147 25 [some (.ref 61), some (.int x1), some (.int x2), u3, u4] [] σ = (if x2 = 0 then some (some (.int (-1 : Int32)), σ) else jbi (jc 144 [(.ref 61), (.int x1)] σ) (fun r1 τ1 => (if r1 = (103 : Int32) then (if ¬ r1 = (116 : Int32) then jbi (jc 146 [(.ref 61), (.int x1), (.int (2 : Int32)), (.int (1 : Int32)), (.int (99 : Int32))] (jm_up τ1 61 11 ((τ1 61 11) + (1 : Int32)))) (fun r2 τ2 => (if 0 ≤ r2 then (if (τ2 61 17) < 0 ∨ 11 ≤ (τ2 61 17).toNatClampNeg then none else (if (τ2 61 17) < 0 ∨ 11 ≤ (τ2 61 17).toNatClampNeg then none else (if x1 < 0 ∨ 4 ≤ x1.toNatClampNeg then none else (if (τ2 70 x1.toNatClampNeg) ≤ (τ2 61 11) then jv 147 25 [some (.ref 61), some (.int x1), some (.int (0 : Int32)), some (.int r1), some (.int r2)] [] (jm_up (jm_up (jm_up (jm_up τ2 74 (τ2 61 17).toNatClampNeg r1) 75 (τ2 61 17).toNatClampNeg r2) 61 17 ((τ2 61 17) + (1 : Int32))) 61 11 ((τ2 61 11) + (0 : Int32))) else jbi (jc 144 [(.ref 61), (.int x1)] (jm_up (jm_up (jm_up τ2 74 (τ2 61 17).toNatClampNeg r1) 75 (τ2 61 17).toNatClampNeg r2) 61 17 ((τ2 61 17) + (1 : Int32)))) (fun r3 τ3 => (if r3 = (124 : Int32) then jv 147 25 [some (.ref 61), some (.int x1), some (.int (1 : Int32)), some (.int r1), some (.int r2)] [] (jm_up τ3 61 11 ((τ3 61 11) + (1 : Int32))) else some (some (.int (τ3 61 11)), τ3))))))) else some (some (.int (τ2 61 11)), τ2))) else jbi (jc 146 [(.ref 61), (.int x1), (.int (3 : Int32)), (.int (1 : Int32)), (.int (200 : Int32))] (jm_up τ1 61 11 ((τ1 61 11) + (1 : Int32)))) (fun r4 τ4 => (if 0 ≤ r4 then (if (τ4 61 17) < 0 ∨ 11 ≤ (τ4 61 17).toNatClampNeg then none else (if (τ4 61 17) < 0 ∨ 11 ≤ (τ4 61 17).toNatClampNeg then none else (if x1 < 0 ∨ 4 ≤ x1.toNatClampNeg then none else (if (τ4 70 x1.toNatClampNeg) ≤ (τ4 61 11) then jv 147 25 [some (.ref 61), some (.int x1), some (.int (0 : Int32)), some (.int r1), some (.int r4)] [] (jm_up (jm_up (jm_up (jm_up τ4 74 (τ4 61 17).toNatClampNeg r1) 75 (τ4 61 17).toNatClampNeg r4) 61 17 ((τ4 61 17) + (1 : Int32))) 61 11 ((τ4 61 11) + (0 : Int32))) else jbi (jc 144 [(.ref 61), (.int x1)] (jm_up (jm_up (jm_up τ4 74 (τ4 61 17).toNatClampNeg r1) 75 (τ4 61 17).toNatClampNeg r4) 61 17 ((τ4 61 17) + (1 : Int32)))) (fun r5 τ5 => (if r5 = (124 : Int32) then jv 147 25 [some (.ref 61), some (.int x1), some (.int (1 : Int32)), some (.int r1), some (.int r4)] [] (jm_up τ5 61 11 ((τ5 61 11) + (1 : Int32))) else some (some (.int (τ5 61 11)), τ5))))))) else some (some (.int (τ4 61 11)), τ4)))) else (if r1 = (110 : Int32) then (if ¬ r1 = (116 : Int32) then jbi (jc 146 [(.ref 61), (.int x1), (.int (2 : Int32)), (.int (1 : Int32)), (.int (99 : Int32))] (jm_up τ1 61 11 ((τ1 61 11) + (1 : Int32)))) (fun r6 τ6 => (if 0 ≤ r6 then (if (τ6 61 17) < 0 ∨ 11 ≤ (τ6 61 17).toNatClampNeg then none else (if (τ6 61 17) < 0 ∨ 11 ≤ (τ6 61 17).toNatClampNeg then none else (if x1 < 0 ∨ 4 ≤ x1.toNatClampNeg then none else (if (τ6 70 x1.toNatClampNeg) ≤ (τ6 61 11) then jv 147 25 [some (.ref 61), some (.int x1), some (.int (0 : Int32)), some (.int r1), some (.int r6)] [] (jm_up (jm_up (jm_up (jm_up τ6 74 (τ6 61 17).toNatClampNeg r1) 75 (τ6 61 17).toNatClampNeg r6) 61 17 ((τ6 61 17) + (1 : Int32))) 61 11 ((τ6 61 11) + (0 : Int32))) else jbi (jc 144 [(.ref 61), (.int x1)] (jm_up (jm_up (jm_up τ6 74 (τ6 61 17).toNatClampNeg r1) 75 (τ6 61 17).toNatClampNeg r6) 61 17 ((τ6 61 17) + (1 : Int32)))) (fun r7 τ7 => (if r7 = (124 : Int32) then jv 147 25 [some (.ref 61), some (.int x1), some (.int (1 : Int32)), some (.int r1), some (.int r6)] [] (jm_up τ7 61 11 ((τ7 61 11) + (1 : Int32))) else some (some (.int (τ7 61 11)), τ7))))))) else some (some (.int (τ6 61 11)), τ6))) else jbi (jc 146 [(.ref 61), (.int x1), (.int (3 : Int32)), (.int (1 : Int32)), (.int (200 : Int32))] (jm_up τ1 61 11 ((τ1 61 11) + (1 : Int32)))) (fun r8 τ8 => (if 0 ≤ r8 then (if (τ8 61 17) < 0 ∨ 11 ≤ (τ8 61 17).toNatClampNeg then none else (if (τ8 61 17) < 0 ∨ 11 ≤ (τ8 61 17).toNatClampNeg then none else (if x1 < 0 ∨ 4 ≤ x1.toNatClampNeg then none else (if (τ8 70 x1.toNatClampNeg) ≤ (τ8 61 11) then jv 147 25 [some (.ref 61), some (.int x1), some (.int (0 : Int32)), some (.int r1), some (.int r8)] [] (jm_up (jm_up (jm_up (jm_up τ8 74 (τ8 61 17).toNatClampNeg r1) 75 (τ8 61 17).toNatClampNeg r8) 61 17 ((τ8 61 17) + (1 : Int32))) 61 11 ((τ8 61 11) + (0 : Int32))) else jbi (jc 144 [(.ref 61), (.int x1)] (jm_up (jm_up (jm_up τ8 74 (τ8 61 17).toNatClampNeg r1) 75 (τ8 61 17).toNatClampNeg r8) 61 17 ((τ8 61 17) + (1 : Int32)))) (fun r9 τ9 => (if r9 = (124 : Int32) then jv 147 25 [some (.ref 61), some (.int x1), some (.int (1 : Int32)), some (.int r1), some (.int r8)] [] (jm_up τ9 61 11 ((τ9 61 11) + (1 : Int32))) else some (some (.int (τ9 61 11)), τ9))))))) else some (some (.int (τ8 61 11)), τ8)))) else (if r1 = (116 : Int32) then (if ¬ r1 = (116 : Int32) then jbi (jc 146 [(.ref 61), (.int x1), (.int (2 : Int32)), (.int (1 : Int32)), (.int (99 : Int32))] (jm_up τ1 61 11 ((τ1 61 11) + (1 : Int32)))) (fun r10 τ10 => (if 0 ≤ r10 then (if (τ10 61 17) < 0 ∨ 11 ≤ (τ10 61 17).toNatClampNeg then none else (if (τ10 61 17) < 0 ∨ 11 ≤ (τ10 61 17).toNatClampNeg then none else (if x1 < 0 ∨ 4 ≤ x1.toNatClampNeg then none else (if (τ10 70 x1.toNatClampNeg) ≤ (τ10 61 11) then jv 147 25 [some (.ref 61), some (.int x1), some (.int (0 : Int32)), some (.int r1), some (.int r10)] [] (jm_up (jm_up (jm_up (jm_up τ10 74 (τ10 61 17).toNatClampNeg r1) 75 (τ10 61 17).toNatClampNeg r10) 61 17 ((τ10 61 17) + (1 : Int32))) 61 11 ((τ10 61 11) + (0 : Int32))) else jbi (jc 144 [(.ref 61), (.int x1)] (jm_up (jm_up (jm_up τ10 74 (τ10 61 17).toNatClampNeg r1) 75 (τ10 61 17).toNatClampNeg r10) 61 17 ((τ10 61 17) + (1 : Int32)))) (fun r11 τ11 => (if r11 = (124 : Int32) then jv 147 25 [some (.ref 61), some (.int x1), some (.int (1 : Int32)), some (.int r1), some (.int r10)] [] (jm_up τ11 61 11 ((τ11 61 11) + (1 : Int32))) else some (some (.int (τ11 61 11)), τ11))))))) else some (some (.int (τ10 61 11)), τ10))) else jbi (jc 146 [(.ref 61), (.int x1), (.int (3 : Int32)), (.int (1 : Int32)), (.int (200 : Int32))] (jm_up τ1 61 11 ((τ1 61 11) + (1 : Int32)))) (fun r12 τ12 => (if 0 ≤ r12 then (if (τ12 61 17) < 0 ∨ 11 ≤ (τ12 61 17).toNatClampNeg then none else (if (τ12 61 17) < 0 ∨ 11 ≤ (τ12 61 17).toNatClampNeg then none else (if x1 < 0 ∨ 4 ≤ x1.toNatClampNeg then none else (if (τ12 70 x1.toNatClampNeg) ≤ (τ12 61 11) then jv 147 25 [some (.ref 61), some (.int x1), some (.int (0 : Int32)), some (.int r1), some (.int r12)] [] (jm_up (jm_up (jm_up (jm_up τ12 74 (τ12 61 17).toNatClampNeg r1) 75 (τ12 61 17).toNatClampNeg r12) 61 17 ((τ12 61 17) + (1 : Int32))) 61 11 ((τ12 61 11) + (0 : Int32))) else jbi (jc 144 [(.ref 61), (.int x1)] (jm_up (jm_up (jm_up τ12 74 (τ12 61 17).toNatClampNeg r1) 75 (τ12 61 17).toNatClampNeg r12) 61 17 ((τ12 61 17) + (1 : Int32)))) (fun r13 τ13 => (if r13 = (124 : Int32) then jv 147 25 [some (.ref 61), some (.int x1), some (.int (1 : Int32)), some (.int r1), some (.int r12)] [] (jm_up τ13 61 11 ((τ13 61 11) + (1 : Int32))) else some (some (.int (τ13 61 11)), τ13))))))) else some (some (.int (τ12 61 11)), τ12)))) else some (some (.int (τ1 61 11)), τ1)))))) := by
  refine (sv_iload_n jM147 c147_25 rfl rfl).trans ?_
  refine (sv_if_eq jM147 c147_26 rfl (t := 198) (by decide +kernel)).trans ?_
  refine jif _ ?_ ?_
  ·
    refine (sv_iconst jM147 c147_198 rfl (v := -1) (by decide +kernel)).trans ?_
    exact sv_iret jM147 c147_199 rfl rfl
  ·
    refine (sv_aload_n jM147 c147_29 rfl rfl).trans ?_
    refine (sv_iload_n jM147 c147_30 rfl rfl).trans ?_
    refine (sv_callvi (pl := 0) jM147 c147_31 rfl (jm_call_v (a := 61) (as := [(.int x1)]) (rest := []) lm_9_162 rfl jM144 rfl rfl rfl rfl rfl) jM144 rfl (Or.inl rfl)).trans ?_
    refine jbi_c (fun r1 τ1 => ?_)
    refine (sv_istore_n (ls1 := [some (.ref 61), some (.int x1), some (.int x2), some (.int r1), u4]) jM147 c147_34 rfl (Nat.lt_of_lt_of_eq (by decide +kernel : 3 < 5) rfl) rfl).trans ?_
    refine (sv_iload_n jM147 c147_35 rfl rfl).trans ?_
    refine (sv_bipush jM147 c147_36 rfl (v := 103) (by decide +kernel)).trans ?_
    refine (sv_icmp_eq jM147 c147_38 rfl (t := 58) (by decide +kernel)).trans ?_
    refine jif _ ?_ ?_
    ·
      refine (sv_aload_n jM147 c147_58 rfl rfl).trans ?_
      refine (sv_dup jM147 c147_59 rfl rfl).trans ?_
      refine (sv_getf jM147 c147_60 rfl lf_9_159 (fg_61_11 _)).trans ?_
      refine (sv_iconst jM147 c147_63 rfl (v := 1) (by decide +kernel)).trans ?_
      refine (sv_iadd jM147 c147_64 rfl).trans ?_
      refine (sv_putf jM147 c147_65 rfl lf_9_159 (pf_61_11 _ _)).trans ?_
      refine (sv_iload_n jM147 c147_68 rfl rfl).trans ?_
      refine (sv_bipush jM147 c147_69 rfl (v := 116) (by decide +kernel)).trans ?_
      refine (sv_icmp_ne jM147 c147_71 rfl (t := 87) (by decide +kernel)).trans ?_
      refine jif _ ?_ ?_
      ·
        refine (sv_aload_n jM147 c147_87 rfl rfl).trans ?_
        refine (sv_iload_n jM147 c147_88 rfl rfl).trans ?_
        refine (sv_iconst jM147 c147_89 rfl (v := 2) (by decide +kernel)).trans ?_
        refine (sv_iconst jM147 c147_90 rfl (v := 1) (by decide +kernel)).trans ?_
        refine (sv_bipush jM147 c147_91 rfl (v := 99) (by decide +kernel)).trans ?_
        refine (sv_callvi (pl := 0) jM147 c147_93 rfl (jm_call_v (a := 61) (as := [(.int x1), (.int (2 : Int32)), (.int (1 : Int32)), (.int (99 : Int32))]) (rest := []) lm_9_180 rfl jM146 rfl rfl rfl rfl rfl) jM146 rfl (Or.inl rfl)).trans ?_
        refine jbi_c (fun r2 τ2 => ?_)
        refine (sv_istore (ls1 := [some (.ref 61), some (.int x1), some (.int x2), some (.int r1), some (.int r2)]) jM147 c147_96 rfl (Nat.lt_of_lt_of_eq (by decide +kernel : 4 < 5) rfl) rfl).trans ?_
        refine (sv_iload jM147 c147_98 rfl rfl).trans ?_
        refine (sv_if_ge jM147 c147_100 rfl (t := 108) (by decide +kernel)).trans ?_
        refine jif _ ?_ ?_
        ·
          refine (sv_aload_n jM147 c147_108 rfl rfl).trans ?_
          refine (sv_getf jM147 c147_109 rfl lf_9_47 (fg_61_18 _)).trans ?_
          refine (sv_aload_n jM147 c147_112 rfl rfl).trans ?_
          refine (sv_getf jM147 c147_113 rfl lf_9_191 (fg_61_17 _)).trans ?_
          refine (sv_iload_n jM147 c147_116 rfl rfl).trans ?_
          refine (sv_iast jM147 c147_117 rfl wi_74).trans ?_
          refine jif _ rfl ?_
          refine (sv_aload_n jM147 c147_118 rfl rfl).trans ?_
          refine (sv_getf jM147 c147_119 rfl lf_9_50 (fg_61_19 _)).trans ?_
          refine (sv_aload_n jM147 c147_122 rfl rfl).trans ?_
          refine (sv_getf jM147 c147_123 rfl lf_9_191 (fg_61_17 _)).trans ?_
          refine (sv_iload jM147 c147_126 rfl rfl).trans ?_
          refine (sv_iast jM147 c147_128 rfl wi_75).trans ?_
          refine jif _ rfl ?_
          refine (sv_aload_n jM147 c147_129 rfl rfl).trans ?_
          refine (sv_dup jM147 c147_130 rfl rfl).trans ?_
          refine (sv_getf jM147 c147_131 rfl lf_9_191 (fg_61_17 _)).trans ?_
          refine (sv_iconst jM147 c147_134 rfl (v := 1) (by decide +kernel)).trans ?_
          refine (sv_iadd jM147 c147_135 rfl).trans ?_
          refine (sv_putf jM147 c147_136 rfl lf_9_191 (pf_61_17 _ _)).trans ?_
          refine (sv_aload_n jM147 c147_139 rfl rfl).trans ?_
          refine (sv_getf jM147 c147_140 rfl lf_9_159 (fg_61_11 _)).trans ?_
          refine (sv_aload_n jM147 c147_143 rfl rfl).trans ?_
          refine (sv_getf jM147 c147_144 rfl lf_9_34 (fg_61_10 _)).trans ?_
          refine (sv_iload_n jM147 c147_147 rfl rfl).trans ?_
          refine (sv_iald jM147 c147_148 rfl (ia_70 _)).trans ?_
          refine jif _ rfl ?_
          refine (sv_icmp_ge jM147 c147_149 rfl (t := 156) (by decide +kernel)).trans ?_
          refine jif _ ?_ ?_
          ·
            refine (sv_iconst jM147 c147_156 rfl (v := 0) (by decide +kernel)).trans ?_
            refine (sv_istore_n (ls1 := [some (.ref 61), some (.int x1), some (.int (0 : Int32)), some (.int r1), some (.int r2)]) jM147 c147_157 rfl (Nat.lt_of_lt_of_eq (by decide +kernel : 2 < 5) rfl) rfl).trans ?_
            refine (sv_iload_n jM147 c147_158 rfl rfl).trans ?_
            refine (sv_if_eq jM147 c147_159 rfl (t := 177) (by decide +kernel)).trans ?_
            refine (if_pos (by decide +kernel)).trans ?_
            refine (sv_aload_n jM147 c147_177 rfl rfl).trans ?_
            refine (sv_dup jM147 c147_178 rfl rfl).trans ?_
            refine (sv_getf jM147 c147_179 rfl lf_9_159 (fg_61_11 _)).trans ?_
            refine (sv_iload_n jM147 c147_182 rfl rfl).trans ?_
            refine (sv_if_eq jM147 c147_183 rfl (t := 190) (by decide +kernel)).trans ?_
            refine (if_pos (by decide +kernel)).trans ?_
            refine (sv_iconst jM147 c147_190 rfl (v := 0) (by decide +kernel)).trans ?_
            refine (sv_iadd jM147 c147_191 rfl).trans ?_
            refine (sv_putf jM147 c147_192 rfl lf_9_159 (pf_61_11 _ _)).trans ?_
            refine (sv_goto jM147 c147_195 rfl (t := 25) (by decide +kernel)).trans ?_
            rfl
          ·
            refine (sv_iconst jM147 c147_152 rfl (v := 1) (by decide +kernel)).trans ?_
            refine (sv_goto jM147 c147_153 rfl (t := 157) (by decide +kernel)).trans ?_
            refine (sv_istore_n (ls1 := [some (.ref 61), some (.int x1), some (.int (1 : Int32)), some (.int r1), some (.int r2)]) jM147 c147_157 rfl (Nat.lt_of_lt_of_eq (by decide +kernel : 2 < 5) rfl) rfl).trans ?_
            refine (sv_iload_n jM147 c147_158 rfl rfl).trans ?_
            refine (sv_if_eq jM147 c147_159 rfl (t := 177) (by decide +kernel)).trans ?_
            refine (if_neg (by decide +kernel)).trans ?_
            refine (sv_aload_n jM147 c147_162 rfl rfl).trans ?_
            refine (sv_iload_n jM147 c147_163 rfl rfl).trans ?_
            refine (sv_callvi (pl := 0) jM147 c147_164 rfl (jm_call_v (a := 61) (as := [(.int x1)]) (rest := []) lm_9_162 rfl jM144 rfl rfl rfl rfl rfl) jM144 rfl (Or.inl rfl)).trans ?_
            refine jbi_c (fun r3 τ3 => ?_)
            refine (sv_bipush jM147 c147_167 rfl (v := 124) (by decide +kernel)).trans ?_
            refine (sv_icmp_eq jM147 c147_169 rfl (t := 177) (by decide +kernel)).trans ?_
            refine jif _ ?_ ?_
            ·
              refine (sv_aload_n jM147 c147_177 rfl rfl).trans ?_
              refine (sv_dup jM147 c147_178 rfl rfl).trans ?_
              refine (sv_getf jM147 c147_179 rfl lf_9_159 (fg_61_11 _)).trans ?_
              refine (sv_iload_n jM147 c147_182 rfl rfl).trans ?_
              refine (sv_if_eq jM147 c147_183 rfl (t := 190) (by decide +kernel)).trans ?_
              refine (if_neg (by decide +kernel)).trans ?_
              refine (sv_iconst jM147 c147_186 rfl (v := 1) (by decide +kernel)).trans ?_
              refine (sv_goto jM147 c147_187 rfl (t := 191) (by decide +kernel)).trans ?_
              refine (sv_iadd jM147 c147_191 rfl).trans ?_
              refine (sv_putf jM147 c147_192 rfl lf_9_159 (pf_61_11 _ _)).trans ?_
              refine (sv_goto jM147 c147_195 rfl (t := 25) (by decide +kernel)).trans ?_
              rfl
            ·
              refine (sv_aload_n jM147 c147_172 rfl rfl).trans ?_
              refine (sv_getf jM147 c147_173 rfl lf_9_159 (fg_61_11 _)).trans ?_
              exact sv_iret jM147 c147_176 rfl rfl
        ·
          refine (sv_aload_n jM147 c147_103 rfl rfl).trans ?_
          refine (sv_getf jM147 c147_104 rfl lf_9_159 (fg_61_11 _)).trans ?_
          exact sv_iret jM147 c147_107 rfl rfl
      ·
        refine (sv_aload_n jM147 c147_74 rfl rfl).trans ?_
        refine (sv_iload_n jM147 c147_75 rfl rfl).trans ?_
        refine (sv_iconst jM147 c147_76 rfl (v := 3) (by decide +kernel)).trans ?_
        refine (sv_iconst jM147 c147_77 rfl (v := 1) (by decide +kernel)).trans ?_
        refine (sv_sipush jM147 c147_78 rfl (v := 200) (by decide +kernel)).trans ?_
        refine (sv_callvi (pl := 0) jM147 c147_81 rfl (jm_call_v (a := 61) (as := [(.int x1), (.int (3 : Int32)), (.int (1 : Int32)), (.int (200 : Int32))]) (rest := []) lm_9_180 rfl jM146 rfl rfl rfl rfl rfl) jM146 rfl (Or.inl rfl)).trans ?_
        refine jbi_c (fun r4 τ4 => ?_)
        refine (sv_goto jM147 c147_84 rfl (t := 96) (by decide +kernel)).trans ?_
        refine (sv_istore (ls1 := [some (.ref 61), some (.int x1), some (.int x2), some (.int r1), some (.int r4)]) jM147 c147_96 rfl (Nat.lt_of_lt_of_eq (by decide +kernel : 4 < 5) rfl) rfl).trans ?_
        refine (sv_iload jM147 c147_98 rfl rfl).trans ?_
        refine (sv_if_ge jM147 c147_100 rfl (t := 108) (by decide +kernel)).trans ?_
        refine jif _ ?_ ?_
        ·
          refine (sv_aload_n jM147 c147_108 rfl rfl).trans ?_
          refine (sv_getf jM147 c147_109 rfl lf_9_47 (fg_61_18 _)).trans ?_
          refine (sv_aload_n jM147 c147_112 rfl rfl).trans ?_
          refine (sv_getf jM147 c147_113 rfl lf_9_191 (fg_61_17 _)).trans ?_
          refine (sv_iload_n jM147 c147_116 rfl rfl).trans ?_
          refine (sv_iast jM147 c147_117 rfl wi_74).trans ?_
          refine jif _ rfl ?_
          refine (sv_aload_n jM147 c147_118 rfl rfl).trans ?_
          refine (sv_getf jM147 c147_119 rfl lf_9_50 (fg_61_19 _)).trans ?_
          refine (sv_aload_n jM147 c147_122 rfl rfl).trans ?_
          refine (sv_getf jM147 c147_123 rfl lf_9_191 (fg_61_17 _)).trans ?_
          refine (sv_iload jM147 c147_126 rfl rfl).trans ?_
          refine (sv_iast jM147 c147_128 rfl wi_75).trans ?_
          refine jif _ rfl ?_
          refine (sv_aload_n jM147 c147_129 rfl rfl).trans ?_
          refine (sv_dup jM147 c147_130 rfl rfl).trans ?_
          refine (sv_getf jM147 c147_131 rfl lf_9_191 (fg_61_17 _)).trans ?_
          refine (sv_iconst jM147 c147_134 rfl (v := 1) (by decide +kernel)).trans ?_
          refine (sv_iadd jM147 c147_135 rfl).trans ?_
          refine (sv_putf jM147 c147_136 rfl lf_9_191 (pf_61_17 _ _)).trans ?_
          refine (sv_aload_n jM147 c147_139 rfl rfl).trans ?_
          refine (sv_getf jM147 c147_140 rfl lf_9_159 (fg_61_11 _)).trans ?_
          refine (sv_aload_n jM147 c147_143 rfl rfl).trans ?_
          refine (sv_getf jM147 c147_144 rfl lf_9_34 (fg_61_10 _)).trans ?_
          refine (sv_iload_n jM147 c147_147 rfl rfl).trans ?_
          refine (sv_iald jM147 c147_148 rfl (ia_70 _)).trans ?_
          refine jif _ rfl ?_
          refine (sv_icmp_ge jM147 c147_149 rfl (t := 156) (by decide +kernel)).trans ?_
          refine jif _ ?_ ?_
          ·
            refine (sv_iconst jM147 c147_156 rfl (v := 0) (by decide +kernel)).trans ?_
            refine (sv_istore_n (ls1 := [some (.ref 61), some (.int x1), some (.int (0 : Int32)), some (.int r1), some (.int r4)]) jM147 c147_157 rfl (Nat.lt_of_lt_of_eq (by decide +kernel : 2 < 5) rfl) rfl).trans ?_
            refine (sv_iload_n jM147 c147_158 rfl rfl).trans ?_
            refine (sv_if_eq jM147 c147_159 rfl (t := 177) (by decide +kernel)).trans ?_
            refine (if_pos (by decide +kernel)).trans ?_
            refine (sv_aload_n jM147 c147_177 rfl rfl).trans ?_
            refine (sv_dup jM147 c147_178 rfl rfl).trans ?_
            refine (sv_getf jM147 c147_179 rfl lf_9_159 (fg_61_11 _)).trans ?_
            refine (sv_iload_n jM147 c147_182 rfl rfl).trans ?_
            refine (sv_if_eq jM147 c147_183 rfl (t := 190) (by decide +kernel)).trans ?_
            refine (if_pos (by decide +kernel)).trans ?_
            refine (sv_iconst jM147 c147_190 rfl (v := 0) (by decide +kernel)).trans ?_
            refine (sv_iadd jM147 c147_191 rfl).trans ?_
            refine (sv_putf jM147 c147_192 rfl lf_9_159 (pf_61_11 _ _)).trans ?_
            refine (sv_goto jM147 c147_195 rfl (t := 25) (by decide +kernel)).trans ?_
            rfl
          ·
            refine (sv_iconst jM147 c147_152 rfl (v := 1) (by decide +kernel)).trans ?_
            refine (sv_goto jM147 c147_153 rfl (t := 157) (by decide +kernel)).trans ?_
            refine (sv_istore_n (ls1 := [some (.ref 61), some (.int x1), some (.int (1 : Int32)), some (.int r1), some (.int r4)]) jM147 c147_157 rfl (Nat.lt_of_lt_of_eq (by decide +kernel : 2 < 5) rfl) rfl).trans ?_
            refine (sv_iload_n jM147 c147_158 rfl rfl).trans ?_
            refine (sv_if_eq jM147 c147_159 rfl (t := 177) (by decide +kernel)).trans ?_
            refine (if_neg (by decide +kernel)).trans ?_
            refine (sv_aload_n jM147 c147_162 rfl rfl).trans ?_
            refine (sv_iload_n jM147 c147_163 rfl rfl).trans ?_
            refine (sv_callvi (pl := 0) jM147 c147_164 rfl (jm_call_v (a := 61) (as := [(.int x1)]) (rest := []) lm_9_162 rfl jM144 rfl rfl rfl rfl rfl) jM144 rfl (Or.inl rfl)).trans ?_
            refine jbi_c (fun r5 τ5 => ?_)
            refine (sv_bipush jM147 c147_167 rfl (v := 124) (by decide +kernel)).trans ?_
            refine (sv_icmp_eq jM147 c147_169 rfl (t := 177) (by decide +kernel)).trans ?_
            refine jif _ ?_ ?_
            ·
              refine (sv_aload_n jM147 c147_177 rfl rfl).trans ?_
              refine (sv_dup jM147 c147_178 rfl rfl).trans ?_
              refine (sv_getf jM147 c147_179 rfl lf_9_159 (fg_61_11 _)).trans ?_
              refine (sv_iload_n jM147 c147_182 rfl rfl).trans ?_
              refine (sv_if_eq jM147 c147_183 rfl (t := 190) (by decide +kernel)).trans ?_
              refine (if_neg (by decide +kernel)).trans ?_
              refine (sv_iconst jM147 c147_186 rfl (v := 1) (by decide +kernel)).trans ?_
              refine (sv_goto jM147 c147_187 rfl (t := 191) (by decide +kernel)).trans ?_
              refine (sv_iadd jM147 c147_191 rfl).trans ?_
              refine (sv_putf jM147 c147_192 rfl lf_9_159 (pf_61_11 _ _)).trans ?_
              refine (sv_goto jM147 c147_195 rfl (t := 25) (by decide +kernel)).trans ?_
              rfl
            ·
              refine (sv_aload_n jM147 c147_172 rfl rfl).trans ?_
              refine (sv_getf jM147 c147_173 rfl lf_9_159 (fg_61_11 _)).trans ?_
              exact sv_iret jM147 c147_176 rfl rfl
        ·
          refine (sv_aload_n jM147 c147_103 rfl rfl).trans ?_
          refine (sv_getf jM147 c147_104 rfl lf_9_159 (fg_61_11 _)).trans ?_
          exact sv_iret jM147 c147_107 rfl rfl
    ·
      refine (sv_iload_n jM147 c147_41 rfl rfl).trans ?_
      refine (sv_bipush jM147 c147_42 rfl (v := 110) (by decide +kernel)).trans ?_
      refine (sv_icmp_eq jM147 c147_44 rfl (t := 58) (by decide +kernel)).trans ?_
      refine jif _ ?_ ?_
      ·
        refine (sv_aload_n jM147 c147_58 rfl rfl).trans ?_
        refine (sv_dup jM147 c147_59 rfl rfl).trans ?_
        refine (sv_getf jM147 c147_60 rfl lf_9_159 (fg_61_11 _)).trans ?_
        refine (sv_iconst jM147 c147_63 rfl (v := 1) (by decide +kernel)).trans ?_
        refine (sv_iadd jM147 c147_64 rfl).trans ?_
        refine (sv_putf jM147 c147_65 rfl lf_9_159 (pf_61_11 _ _)).trans ?_
        refine (sv_iload_n jM147 c147_68 rfl rfl).trans ?_
        refine (sv_bipush jM147 c147_69 rfl (v := 116) (by decide +kernel)).trans ?_
        refine (sv_icmp_ne jM147 c147_71 rfl (t := 87) (by decide +kernel)).trans ?_
        refine jif _ ?_ ?_
        ·
          refine (sv_aload_n jM147 c147_87 rfl rfl).trans ?_
          refine (sv_iload_n jM147 c147_88 rfl rfl).trans ?_
          refine (sv_iconst jM147 c147_89 rfl (v := 2) (by decide +kernel)).trans ?_
          refine (sv_iconst jM147 c147_90 rfl (v := 1) (by decide +kernel)).trans ?_
          refine (sv_bipush jM147 c147_91 rfl (v := 99) (by decide +kernel)).trans ?_
          refine (sv_callvi (pl := 0) jM147 c147_93 rfl (jm_call_v (a := 61) (as := [(.int x1), (.int (2 : Int32)), (.int (1 : Int32)), (.int (99 : Int32))]) (rest := []) lm_9_180 rfl jM146 rfl rfl rfl rfl rfl) jM146 rfl (Or.inl rfl)).trans ?_
          refine jbi_c (fun r6 τ6 => ?_)
          refine (sv_istore (ls1 := [some (.ref 61), some (.int x1), some (.int x2), some (.int r1), some (.int r6)]) jM147 c147_96 rfl (Nat.lt_of_lt_of_eq (by decide +kernel : 4 < 5) rfl) rfl).trans ?_
          refine (sv_iload jM147 c147_98 rfl rfl).trans ?_
          refine (sv_if_ge jM147 c147_100 rfl (t := 108) (by decide +kernel)).trans ?_
          refine jif _ ?_ ?_
          ·
            refine (sv_aload_n jM147 c147_108 rfl rfl).trans ?_
            refine (sv_getf jM147 c147_109 rfl lf_9_47 (fg_61_18 _)).trans ?_
            refine (sv_aload_n jM147 c147_112 rfl rfl).trans ?_
            refine (sv_getf jM147 c147_113 rfl lf_9_191 (fg_61_17 _)).trans ?_
            refine (sv_iload_n jM147 c147_116 rfl rfl).trans ?_
            refine (sv_iast jM147 c147_117 rfl wi_74).trans ?_
            refine jif _ rfl ?_
            refine (sv_aload_n jM147 c147_118 rfl rfl).trans ?_
            refine (sv_getf jM147 c147_119 rfl lf_9_50 (fg_61_19 _)).trans ?_
            refine (sv_aload_n jM147 c147_122 rfl rfl).trans ?_
            refine (sv_getf jM147 c147_123 rfl lf_9_191 (fg_61_17 _)).trans ?_
            refine (sv_iload jM147 c147_126 rfl rfl).trans ?_
            refine (sv_iast jM147 c147_128 rfl wi_75).trans ?_
            refine jif _ rfl ?_
            refine (sv_aload_n jM147 c147_129 rfl rfl).trans ?_
            refine (sv_dup jM147 c147_130 rfl rfl).trans ?_
            refine (sv_getf jM147 c147_131 rfl lf_9_191 (fg_61_17 _)).trans ?_
            refine (sv_iconst jM147 c147_134 rfl (v := 1) (by decide +kernel)).trans ?_
            refine (sv_iadd jM147 c147_135 rfl).trans ?_
            refine (sv_putf jM147 c147_136 rfl lf_9_191 (pf_61_17 _ _)).trans ?_
            refine (sv_aload_n jM147 c147_139 rfl rfl).trans ?_
            refine (sv_getf jM147 c147_140 rfl lf_9_159 (fg_61_11 _)).trans ?_
            refine (sv_aload_n jM147 c147_143 rfl rfl).trans ?_
            refine (sv_getf jM147 c147_144 rfl lf_9_34 (fg_61_10 _)).trans ?_
            refine (sv_iload_n jM147 c147_147 rfl rfl).trans ?_
            refine (sv_iald jM147 c147_148 rfl (ia_70 _)).trans ?_
            refine jif _ rfl ?_
            refine (sv_icmp_ge jM147 c147_149 rfl (t := 156) (by decide +kernel)).trans ?_
            refine jif _ ?_ ?_
            ·
              refine (sv_iconst jM147 c147_156 rfl (v := 0) (by decide +kernel)).trans ?_
              refine (sv_istore_n (ls1 := [some (.ref 61), some (.int x1), some (.int (0 : Int32)), some (.int r1), some (.int r6)]) jM147 c147_157 rfl (Nat.lt_of_lt_of_eq (by decide +kernel : 2 < 5) rfl) rfl).trans ?_
              refine (sv_iload_n jM147 c147_158 rfl rfl).trans ?_
              refine (sv_if_eq jM147 c147_159 rfl (t := 177) (by decide +kernel)).trans ?_
              refine (if_pos (by decide +kernel)).trans ?_
              refine (sv_aload_n jM147 c147_177 rfl rfl).trans ?_
              refine (sv_dup jM147 c147_178 rfl rfl).trans ?_
              refine (sv_getf jM147 c147_179 rfl lf_9_159 (fg_61_11 _)).trans ?_
              refine (sv_iload_n jM147 c147_182 rfl rfl).trans ?_
              refine (sv_if_eq jM147 c147_183 rfl (t := 190) (by decide +kernel)).trans ?_
              refine (if_pos (by decide +kernel)).trans ?_
              refine (sv_iconst jM147 c147_190 rfl (v := 0) (by decide +kernel)).trans ?_
              refine (sv_iadd jM147 c147_191 rfl).trans ?_
              refine (sv_putf jM147 c147_192 rfl lf_9_159 (pf_61_11 _ _)).trans ?_
              refine (sv_goto jM147 c147_195 rfl (t := 25) (by decide +kernel)).trans ?_
              rfl
            ·
              refine (sv_iconst jM147 c147_152 rfl (v := 1) (by decide +kernel)).trans ?_
              refine (sv_goto jM147 c147_153 rfl (t := 157) (by decide +kernel)).trans ?_
              refine (sv_istore_n (ls1 := [some (.ref 61), some (.int x1), some (.int (1 : Int32)), some (.int r1), some (.int r6)]) jM147 c147_157 rfl (Nat.lt_of_lt_of_eq (by decide +kernel : 2 < 5) rfl) rfl).trans ?_
              refine (sv_iload_n jM147 c147_158 rfl rfl).trans ?_
              refine (sv_if_eq jM147 c147_159 rfl (t := 177) (by decide +kernel)).trans ?_
              refine (if_neg (by decide +kernel)).trans ?_
              refine (sv_aload_n jM147 c147_162 rfl rfl).trans ?_
              refine (sv_iload_n jM147 c147_163 rfl rfl).trans ?_
              refine (sv_callvi (pl := 0) jM147 c147_164 rfl (jm_call_v (a := 61) (as := [(.int x1)]) (rest := []) lm_9_162 rfl jM144 rfl rfl rfl rfl rfl) jM144 rfl (Or.inl rfl)).trans ?_
              refine jbi_c (fun r7 τ7 => ?_)
              refine (sv_bipush jM147 c147_167 rfl (v := 124) (by decide +kernel)).trans ?_
              refine (sv_icmp_eq jM147 c147_169 rfl (t := 177) (by decide +kernel)).trans ?_
              refine jif _ ?_ ?_
              ·
                refine (sv_aload_n jM147 c147_177 rfl rfl).trans ?_
                refine (sv_dup jM147 c147_178 rfl rfl).trans ?_
                refine (sv_getf jM147 c147_179 rfl lf_9_159 (fg_61_11 _)).trans ?_
                refine (sv_iload_n jM147 c147_182 rfl rfl).trans ?_
                refine (sv_if_eq jM147 c147_183 rfl (t := 190) (by decide +kernel)).trans ?_
                refine (if_neg (by decide +kernel)).trans ?_
                refine (sv_iconst jM147 c147_186 rfl (v := 1) (by decide +kernel)).trans ?_
                refine (sv_goto jM147 c147_187 rfl (t := 191) (by decide +kernel)).trans ?_
                refine (sv_iadd jM147 c147_191 rfl).trans ?_
                refine (sv_putf jM147 c147_192 rfl lf_9_159 (pf_61_11 _ _)).trans ?_
                refine (sv_goto jM147 c147_195 rfl (t := 25) (by decide +kernel)).trans ?_
                rfl
              ·
                refine (sv_aload_n jM147 c147_172 rfl rfl).trans ?_
                refine (sv_getf jM147 c147_173 rfl lf_9_159 (fg_61_11 _)).trans ?_
                exact sv_iret jM147 c147_176 rfl rfl
          ·
            refine (sv_aload_n jM147 c147_103 rfl rfl).trans ?_
            refine (sv_getf jM147 c147_104 rfl lf_9_159 (fg_61_11 _)).trans ?_
            exact sv_iret jM147 c147_107 rfl rfl
        ·
          refine (sv_aload_n jM147 c147_74 rfl rfl).trans ?_
          refine (sv_iload_n jM147 c147_75 rfl rfl).trans ?_
          refine (sv_iconst jM147 c147_76 rfl (v := 3) (by decide +kernel)).trans ?_
          refine (sv_iconst jM147 c147_77 rfl (v := 1) (by decide +kernel)).trans ?_
          refine (sv_sipush jM147 c147_78 rfl (v := 200) (by decide +kernel)).trans ?_
          refine (sv_callvi (pl := 0) jM147 c147_81 rfl (jm_call_v (a := 61) (as := [(.int x1), (.int (3 : Int32)), (.int (1 : Int32)), (.int (200 : Int32))]) (rest := []) lm_9_180 rfl jM146 rfl rfl rfl rfl rfl) jM146 rfl (Or.inl rfl)).trans ?_
          refine jbi_c (fun r8 τ8 => ?_)
          refine (sv_goto jM147 c147_84 rfl (t := 96) (by decide +kernel)).trans ?_
          refine (sv_istore (ls1 := [some (.ref 61), some (.int x1), some (.int x2), some (.int r1), some (.int r8)]) jM147 c147_96 rfl (Nat.lt_of_lt_of_eq (by decide +kernel : 4 < 5) rfl) rfl).trans ?_
          refine (sv_iload jM147 c147_98 rfl rfl).trans ?_
          refine (sv_if_ge jM147 c147_100 rfl (t := 108) (by decide +kernel)).trans ?_
          refine jif _ ?_ ?_
          ·
            refine (sv_aload_n jM147 c147_108 rfl rfl).trans ?_
            refine (sv_getf jM147 c147_109 rfl lf_9_47 (fg_61_18 _)).trans ?_
            refine (sv_aload_n jM147 c147_112 rfl rfl).trans ?_
            refine (sv_getf jM147 c147_113 rfl lf_9_191 (fg_61_17 _)).trans ?_
            refine (sv_iload_n jM147 c147_116 rfl rfl).trans ?_
            refine (sv_iast jM147 c147_117 rfl wi_74).trans ?_
            refine jif _ rfl ?_
            refine (sv_aload_n jM147 c147_118 rfl rfl).trans ?_
            refine (sv_getf jM147 c147_119 rfl lf_9_50 (fg_61_19 _)).trans ?_
            refine (sv_aload_n jM147 c147_122 rfl rfl).trans ?_
            refine (sv_getf jM147 c147_123 rfl lf_9_191 (fg_61_17 _)).trans ?_
            refine (sv_iload jM147 c147_126 rfl rfl).trans ?_
            refine (sv_iast jM147 c147_128 rfl wi_75).trans ?_
            refine jif _ rfl ?_
            refine (sv_aload_n jM147 c147_129 rfl rfl).trans ?_
            refine (sv_dup jM147 c147_130 rfl rfl).trans ?_
            refine (sv_getf jM147 c147_131 rfl lf_9_191 (fg_61_17 _)).trans ?_
            refine (sv_iconst jM147 c147_134 rfl (v := 1) (by decide +kernel)).trans ?_
            refine (sv_iadd jM147 c147_135 rfl).trans ?_
            refine (sv_putf jM147 c147_136 rfl lf_9_191 (pf_61_17 _ _)).trans ?_
            refine (sv_aload_n jM147 c147_139 rfl rfl).trans ?_
            refine (sv_getf jM147 c147_140 rfl lf_9_159 (fg_61_11 _)).trans ?_
            refine (sv_aload_n jM147 c147_143 rfl rfl).trans ?_
            refine (sv_getf jM147 c147_144 rfl lf_9_34 (fg_61_10 _)).trans ?_
            refine (sv_iload_n jM147 c147_147 rfl rfl).trans ?_
            refine (sv_iald jM147 c147_148 rfl (ia_70 _)).trans ?_
            refine jif _ rfl ?_
            refine (sv_icmp_ge jM147 c147_149 rfl (t := 156) (by decide +kernel)).trans ?_
            refine jif _ ?_ ?_
            ·
              refine (sv_iconst jM147 c147_156 rfl (v := 0) (by decide +kernel)).trans ?_
              refine (sv_istore_n (ls1 := [some (.ref 61), some (.int x1), some (.int (0 : Int32)), some (.int r1), some (.int r8)]) jM147 c147_157 rfl (Nat.lt_of_lt_of_eq (by decide +kernel : 2 < 5) rfl) rfl).trans ?_
              refine (sv_iload_n jM147 c147_158 rfl rfl).trans ?_
              refine (sv_if_eq jM147 c147_159 rfl (t := 177) (by decide +kernel)).trans ?_
              refine (if_pos (by decide +kernel)).trans ?_
              refine (sv_aload_n jM147 c147_177 rfl rfl).trans ?_
              refine (sv_dup jM147 c147_178 rfl rfl).trans ?_
              refine (sv_getf jM147 c147_179 rfl lf_9_159 (fg_61_11 _)).trans ?_
              refine (sv_iload_n jM147 c147_182 rfl rfl).trans ?_
              refine (sv_if_eq jM147 c147_183 rfl (t := 190) (by decide +kernel)).trans ?_
              refine (if_pos (by decide +kernel)).trans ?_
              refine (sv_iconst jM147 c147_190 rfl (v := 0) (by decide +kernel)).trans ?_
              refine (sv_iadd jM147 c147_191 rfl).trans ?_
              refine (sv_putf jM147 c147_192 rfl lf_9_159 (pf_61_11 _ _)).trans ?_
              refine (sv_goto jM147 c147_195 rfl (t := 25) (by decide +kernel)).trans ?_
              rfl
            ·
              refine (sv_iconst jM147 c147_152 rfl (v := 1) (by decide +kernel)).trans ?_
              refine (sv_goto jM147 c147_153 rfl (t := 157) (by decide +kernel)).trans ?_
              refine (sv_istore_n (ls1 := [some (.ref 61), some (.int x1), some (.int (1 : Int32)), some (.int r1), some (.int r8)]) jM147 c147_157 rfl (Nat.lt_of_lt_of_eq (by decide +kernel : 2 < 5) rfl) rfl).trans ?_
              refine (sv_iload_n jM147 c147_158 rfl rfl).trans ?_
              refine (sv_if_eq jM147 c147_159 rfl (t := 177) (by decide +kernel)).trans ?_
              refine (if_neg (by decide +kernel)).trans ?_
              refine (sv_aload_n jM147 c147_162 rfl rfl).trans ?_
              refine (sv_iload_n jM147 c147_163 rfl rfl).trans ?_
              refine (sv_callvi (pl := 0) jM147 c147_164 rfl (jm_call_v (a := 61) (as := [(.int x1)]) (rest := []) lm_9_162 rfl jM144 rfl rfl rfl rfl rfl) jM144 rfl (Or.inl rfl)).trans ?_
              refine jbi_c (fun r9 τ9 => ?_)
              refine (sv_bipush jM147 c147_167 rfl (v := 124) (by decide +kernel)).trans ?_
              refine (sv_icmp_eq jM147 c147_169 rfl (t := 177) (by decide +kernel)).trans ?_
              refine jif _ ?_ ?_
              ·
                refine (sv_aload_n jM147 c147_177 rfl rfl).trans ?_
                refine (sv_dup jM147 c147_178 rfl rfl).trans ?_
                refine (sv_getf jM147 c147_179 rfl lf_9_159 (fg_61_11 _)).trans ?_
                refine (sv_iload_n jM147 c147_182 rfl rfl).trans ?_
                refine (sv_if_eq jM147 c147_183 rfl (t := 190) (by decide +kernel)).trans ?_
                refine (if_neg (by decide +kernel)).trans ?_
                refine (sv_iconst jM147 c147_186 rfl (v := 1) (by decide +kernel)).trans ?_
                refine (sv_goto jM147 c147_187 rfl (t := 191) (by decide +kernel)).trans ?_
                refine (sv_iadd jM147 c147_191 rfl).trans ?_
                refine (sv_putf jM147 c147_192 rfl lf_9_159 (pf_61_11 _ _)).trans ?_
                refine (sv_goto jM147 c147_195 rfl (t := 25) (by decide +kernel)).trans ?_
                rfl
              ·
                refine (sv_aload_n jM147 c147_172 rfl rfl).trans ?_
                refine (sv_getf jM147 c147_173 rfl lf_9_159 (fg_61_11 _)).trans ?_
                exact sv_iret jM147 c147_176 rfl rfl
          ·
            refine (sv_aload_n jM147 c147_103 rfl rfl).trans ?_
            refine (sv_getf jM147 c147_104 rfl lf_9_159 (fg_61_11 _)).trans ?_
            exact sv_iret jM147 c147_107 rfl rfl
      ·
        refine (sv_iload_n jM147 c147_47 rfl rfl).trans ?_
        refine (sv_bipush jM147 c147_48 rfl (v := 116) (by decide +kernel)).trans ?_
        refine (sv_icmp_eq jM147 c147_50 rfl (t := 58) (by decide +kernel)).trans ?_
        refine jif _ ?_ ?_
        ·
          refine (sv_aload_n jM147 c147_58 rfl rfl).trans ?_
          refine (sv_dup jM147 c147_59 rfl rfl).trans ?_
          refine (sv_getf jM147 c147_60 rfl lf_9_159 (fg_61_11 _)).trans ?_
          refine (sv_iconst jM147 c147_63 rfl (v := 1) (by decide +kernel)).trans ?_
          refine (sv_iadd jM147 c147_64 rfl).trans ?_
          refine (sv_putf jM147 c147_65 rfl lf_9_159 (pf_61_11 _ _)).trans ?_
          refine (sv_iload_n jM147 c147_68 rfl rfl).trans ?_
          refine (sv_bipush jM147 c147_69 rfl (v := 116) (by decide +kernel)).trans ?_
          refine (sv_icmp_ne jM147 c147_71 rfl (t := 87) (by decide +kernel)).trans ?_
          refine jif _ ?_ ?_
          ·
            refine (sv_aload_n jM147 c147_87 rfl rfl).trans ?_
            refine (sv_iload_n jM147 c147_88 rfl rfl).trans ?_
            refine (sv_iconst jM147 c147_89 rfl (v := 2) (by decide +kernel)).trans ?_
            refine (sv_iconst jM147 c147_90 rfl (v := 1) (by decide +kernel)).trans ?_
            refine (sv_bipush jM147 c147_91 rfl (v := 99) (by decide +kernel)).trans ?_
            refine (sv_callvi (pl := 0) jM147 c147_93 rfl (jm_call_v (a := 61) (as := [(.int x1), (.int (2 : Int32)), (.int (1 : Int32)), (.int (99 : Int32))]) (rest := []) lm_9_180 rfl jM146 rfl rfl rfl rfl rfl) jM146 rfl (Or.inl rfl)).trans ?_
            refine jbi_c (fun r10 τ10 => ?_)
            refine (sv_istore (ls1 := [some (.ref 61), some (.int x1), some (.int x2), some (.int r1), some (.int r10)]) jM147 c147_96 rfl (Nat.lt_of_lt_of_eq (by decide +kernel : 4 < 5) rfl) rfl).trans ?_
            refine (sv_iload jM147 c147_98 rfl rfl).trans ?_
            refine (sv_if_ge jM147 c147_100 rfl (t := 108) (by decide +kernel)).trans ?_
            refine jif _ ?_ ?_
            ·
              refine (sv_aload_n jM147 c147_108 rfl rfl).trans ?_
              refine (sv_getf jM147 c147_109 rfl lf_9_47 (fg_61_18 _)).trans ?_
              refine (sv_aload_n jM147 c147_112 rfl rfl).trans ?_
              refine (sv_getf jM147 c147_113 rfl lf_9_191 (fg_61_17 _)).trans ?_
              refine (sv_iload_n jM147 c147_116 rfl rfl).trans ?_
              refine (sv_iast jM147 c147_117 rfl wi_74).trans ?_
              refine jif _ rfl ?_
              refine (sv_aload_n jM147 c147_118 rfl rfl).trans ?_
              refine (sv_getf jM147 c147_119 rfl lf_9_50 (fg_61_19 _)).trans ?_
              refine (sv_aload_n jM147 c147_122 rfl rfl).trans ?_
              refine (sv_getf jM147 c147_123 rfl lf_9_191 (fg_61_17 _)).trans ?_
              refine (sv_iload jM147 c147_126 rfl rfl).trans ?_
              refine (sv_iast jM147 c147_128 rfl wi_75).trans ?_
              refine jif _ rfl ?_
              refine (sv_aload_n jM147 c147_129 rfl rfl).trans ?_
              refine (sv_dup jM147 c147_130 rfl rfl).trans ?_
              refine (sv_getf jM147 c147_131 rfl lf_9_191 (fg_61_17 _)).trans ?_
              refine (sv_iconst jM147 c147_134 rfl (v := 1) (by decide +kernel)).trans ?_
              refine (sv_iadd jM147 c147_135 rfl).trans ?_
              refine (sv_putf jM147 c147_136 rfl lf_9_191 (pf_61_17 _ _)).trans ?_
              refine (sv_aload_n jM147 c147_139 rfl rfl).trans ?_
              refine (sv_getf jM147 c147_140 rfl lf_9_159 (fg_61_11 _)).trans ?_
              refine (sv_aload_n jM147 c147_143 rfl rfl).trans ?_
              refine (sv_getf jM147 c147_144 rfl lf_9_34 (fg_61_10 _)).trans ?_
              refine (sv_iload_n jM147 c147_147 rfl rfl).trans ?_
              refine (sv_iald jM147 c147_148 rfl (ia_70 _)).trans ?_
              refine jif _ rfl ?_
              refine (sv_icmp_ge jM147 c147_149 rfl (t := 156) (by decide +kernel)).trans ?_
              refine jif _ ?_ ?_
              ·
                refine (sv_iconst jM147 c147_156 rfl (v := 0) (by decide +kernel)).trans ?_
                refine (sv_istore_n (ls1 := [some (.ref 61), some (.int x1), some (.int (0 : Int32)), some (.int r1), some (.int r10)]) jM147 c147_157 rfl (Nat.lt_of_lt_of_eq (by decide +kernel : 2 < 5) rfl) rfl).trans ?_
                refine (sv_iload_n jM147 c147_158 rfl rfl).trans ?_
                refine (sv_if_eq jM147 c147_159 rfl (t := 177) (by decide +kernel)).trans ?_
                refine (if_pos (by decide +kernel)).trans ?_
                refine (sv_aload_n jM147 c147_177 rfl rfl).trans ?_
                refine (sv_dup jM147 c147_178 rfl rfl).trans ?_
                refine (sv_getf jM147 c147_179 rfl lf_9_159 (fg_61_11 _)).trans ?_
                refine (sv_iload_n jM147 c147_182 rfl rfl).trans ?_
                refine (sv_if_eq jM147 c147_183 rfl (t := 190) (by decide +kernel)).trans ?_
                refine (if_pos (by decide +kernel)).trans ?_
                refine (sv_iconst jM147 c147_190 rfl (v := 0) (by decide +kernel)).trans ?_
                refine (sv_iadd jM147 c147_191 rfl).trans ?_
                refine (sv_putf jM147 c147_192 rfl lf_9_159 (pf_61_11 _ _)).trans ?_
                refine (sv_goto jM147 c147_195 rfl (t := 25) (by decide +kernel)).trans ?_
                rfl
              ·
                refine (sv_iconst jM147 c147_152 rfl (v := 1) (by decide +kernel)).trans ?_
                refine (sv_goto jM147 c147_153 rfl (t := 157) (by decide +kernel)).trans ?_
                refine (sv_istore_n (ls1 := [some (.ref 61), some (.int x1), some (.int (1 : Int32)), some (.int r1), some (.int r10)]) jM147 c147_157 rfl (Nat.lt_of_lt_of_eq (by decide +kernel : 2 < 5) rfl) rfl).trans ?_
                refine (sv_iload_n jM147 c147_158 rfl rfl).trans ?_
                refine (sv_if_eq jM147 c147_159 rfl (t := 177) (by decide +kernel)).trans ?_
                refine (if_neg (by decide +kernel)).trans ?_
                refine (sv_aload_n jM147 c147_162 rfl rfl).trans ?_
                refine (sv_iload_n jM147 c147_163 rfl rfl).trans ?_
                refine (sv_callvi (pl := 0) jM147 c147_164 rfl (jm_call_v (a := 61) (as := [(.int x1)]) (rest := []) lm_9_162 rfl jM144 rfl rfl rfl rfl rfl) jM144 rfl (Or.inl rfl)).trans ?_
                refine jbi_c (fun r11 τ11 => ?_)
                refine (sv_bipush jM147 c147_167 rfl (v := 124) (by decide +kernel)).trans ?_
                refine (sv_icmp_eq jM147 c147_169 rfl (t := 177) (by decide +kernel)).trans ?_
                refine jif _ ?_ ?_
                ·
                  refine (sv_aload_n jM147 c147_177 rfl rfl).trans ?_
                  refine (sv_dup jM147 c147_178 rfl rfl).trans ?_
                  refine (sv_getf jM147 c147_179 rfl lf_9_159 (fg_61_11 _)).trans ?_
                  refine (sv_iload_n jM147 c147_182 rfl rfl).trans ?_
                  refine (sv_if_eq jM147 c147_183 rfl (t := 190) (by decide +kernel)).trans ?_
                  refine (if_neg (by decide +kernel)).trans ?_
                  refine (sv_iconst jM147 c147_186 rfl (v := 1) (by decide +kernel)).trans ?_
                  refine (sv_goto jM147 c147_187 rfl (t := 191) (by decide +kernel)).trans ?_
                  refine (sv_iadd jM147 c147_191 rfl).trans ?_
                  refine (sv_putf jM147 c147_192 rfl lf_9_159 (pf_61_11 _ _)).trans ?_
                  refine (sv_goto jM147 c147_195 rfl (t := 25) (by decide +kernel)).trans ?_
                  rfl
                ·
                  refine (sv_aload_n jM147 c147_172 rfl rfl).trans ?_
                  refine (sv_getf jM147 c147_173 rfl lf_9_159 (fg_61_11 _)).trans ?_
                  exact sv_iret jM147 c147_176 rfl rfl
            ·
              refine (sv_aload_n jM147 c147_103 rfl rfl).trans ?_
              refine (sv_getf jM147 c147_104 rfl lf_9_159 (fg_61_11 _)).trans ?_
              exact sv_iret jM147 c147_107 rfl rfl
          ·
            refine (sv_aload_n jM147 c147_74 rfl rfl).trans ?_
            refine (sv_iload_n jM147 c147_75 rfl rfl).trans ?_
            refine (sv_iconst jM147 c147_76 rfl (v := 3) (by decide +kernel)).trans ?_
            refine (sv_iconst jM147 c147_77 rfl (v := 1) (by decide +kernel)).trans ?_
            refine (sv_sipush jM147 c147_78 rfl (v := 200) (by decide +kernel)).trans ?_
            refine (sv_callvi (pl := 0) jM147 c147_81 rfl (jm_call_v (a := 61) (as := [(.int x1), (.int (3 : Int32)), (.int (1 : Int32)), (.int (200 : Int32))]) (rest := []) lm_9_180 rfl jM146 rfl rfl rfl rfl rfl) jM146 rfl (Or.inl rfl)).trans ?_
            refine jbi_c (fun r12 τ12 => ?_)
            refine (sv_goto jM147 c147_84 rfl (t := 96) (by decide +kernel)).trans ?_
            refine (sv_istore (ls1 := [some (.ref 61), some (.int x1), some (.int x2), some (.int r1), some (.int r12)]) jM147 c147_96 rfl (Nat.lt_of_lt_of_eq (by decide +kernel : 4 < 5) rfl) rfl).trans ?_
            refine (sv_iload jM147 c147_98 rfl rfl).trans ?_
            refine (sv_if_ge jM147 c147_100 rfl (t := 108) (by decide +kernel)).trans ?_
            refine jif _ ?_ ?_
            ·
              refine (sv_aload_n jM147 c147_108 rfl rfl).trans ?_
              refine (sv_getf jM147 c147_109 rfl lf_9_47 (fg_61_18 _)).trans ?_
              refine (sv_aload_n jM147 c147_112 rfl rfl).trans ?_
              refine (sv_getf jM147 c147_113 rfl lf_9_191 (fg_61_17 _)).trans ?_
              refine (sv_iload_n jM147 c147_116 rfl rfl).trans ?_
              refine (sv_iast jM147 c147_117 rfl wi_74).trans ?_
              refine jif _ rfl ?_
              refine (sv_aload_n jM147 c147_118 rfl rfl).trans ?_
              refine (sv_getf jM147 c147_119 rfl lf_9_50 (fg_61_19 _)).trans ?_
              refine (sv_aload_n jM147 c147_122 rfl rfl).trans ?_
              refine (sv_getf jM147 c147_123 rfl lf_9_191 (fg_61_17 _)).trans ?_
              refine (sv_iload jM147 c147_126 rfl rfl).trans ?_
              refine (sv_iast jM147 c147_128 rfl wi_75).trans ?_
              refine jif _ rfl ?_
              refine (sv_aload_n jM147 c147_129 rfl rfl).trans ?_
              refine (sv_dup jM147 c147_130 rfl rfl).trans ?_
              refine (sv_getf jM147 c147_131 rfl lf_9_191 (fg_61_17 _)).trans ?_
              refine (sv_iconst jM147 c147_134 rfl (v := 1) (by decide +kernel)).trans ?_
              refine (sv_iadd jM147 c147_135 rfl).trans ?_
              refine (sv_putf jM147 c147_136 rfl lf_9_191 (pf_61_17 _ _)).trans ?_
              refine (sv_aload_n jM147 c147_139 rfl rfl).trans ?_
              refine (sv_getf jM147 c147_140 rfl lf_9_159 (fg_61_11 _)).trans ?_
              refine (sv_aload_n jM147 c147_143 rfl rfl).trans ?_
              refine (sv_getf jM147 c147_144 rfl lf_9_34 (fg_61_10 _)).trans ?_
              refine (sv_iload_n jM147 c147_147 rfl rfl).trans ?_
              refine (sv_iald jM147 c147_148 rfl (ia_70 _)).trans ?_
              refine jif _ rfl ?_
              refine (sv_icmp_ge jM147 c147_149 rfl (t := 156) (by decide +kernel)).trans ?_
              refine jif _ ?_ ?_
              ·
                refine (sv_iconst jM147 c147_156 rfl (v := 0) (by decide +kernel)).trans ?_
                refine (sv_istore_n (ls1 := [some (.ref 61), some (.int x1), some (.int (0 : Int32)), some (.int r1), some (.int r12)]) jM147 c147_157 rfl (Nat.lt_of_lt_of_eq (by decide +kernel : 2 < 5) rfl) rfl).trans ?_
                refine (sv_iload_n jM147 c147_158 rfl rfl).trans ?_
                refine (sv_if_eq jM147 c147_159 rfl (t := 177) (by decide +kernel)).trans ?_
                refine (if_pos (by decide +kernel)).trans ?_
                refine (sv_aload_n jM147 c147_177 rfl rfl).trans ?_
                refine (sv_dup jM147 c147_178 rfl rfl).trans ?_
                refine (sv_getf jM147 c147_179 rfl lf_9_159 (fg_61_11 _)).trans ?_
                refine (sv_iload_n jM147 c147_182 rfl rfl).trans ?_
                refine (sv_if_eq jM147 c147_183 rfl (t := 190) (by decide +kernel)).trans ?_
                refine (if_pos (by decide +kernel)).trans ?_
                refine (sv_iconst jM147 c147_190 rfl (v := 0) (by decide +kernel)).trans ?_
                refine (sv_iadd jM147 c147_191 rfl).trans ?_
                refine (sv_putf jM147 c147_192 rfl lf_9_159 (pf_61_11 _ _)).trans ?_
                refine (sv_goto jM147 c147_195 rfl (t := 25) (by decide +kernel)).trans ?_
                rfl
              ·
                refine (sv_iconst jM147 c147_152 rfl (v := 1) (by decide +kernel)).trans ?_
                refine (sv_goto jM147 c147_153 rfl (t := 157) (by decide +kernel)).trans ?_
                refine (sv_istore_n (ls1 := [some (.ref 61), some (.int x1), some (.int (1 : Int32)), some (.int r1), some (.int r12)]) jM147 c147_157 rfl (Nat.lt_of_lt_of_eq (by decide +kernel : 2 < 5) rfl) rfl).trans ?_
                refine (sv_iload_n jM147 c147_158 rfl rfl).trans ?_
                refine (sv_if_eq jM147 c147_159 rfl (t := 177) (by decide +kernel)).trans ?_
                refine (if_neg (by decide +kernel)).trans ?_
                refine (sv_aload_n jM147 c147_162 rfl rfl).trans ?_
                refine (sv_iload_n jM147 c147_163 rfl rfl).trans ?_
                refine (sv_callvi (pl := 0) jM147 c147_164 rfl (jm_call_v (a := 61) (as := [(.int x1)]) (rest := []) lm_9_162 rfl jM144 rfl rfl rfl rfl rfl) jM144 rfl (Or.inl rfl)).trans ?_
                refine jbi_c (fun r13 τ13 => ?_)
                refine (sv_bipush jM147 c147_167 rfl (v := 124) (by decide +kernel)).trans ?_
                refine (sv_icmp_eq jM147 c147_169 rfl (t := 177) (by decide +kernel)).trans ?_
                refine jif _ ?_ ?_
                ·
                  refine (sv_aload_n jM147 c147_177 rfl rfl).trans ?_
                  refine (sv_dup jM147 c147_178 rfl rfl).trans ?_
                  refine (sv_getf jM147 c147_179 rfl lf_9_159 (fg_61_11 _)).trans ?_
                  refine (sv_iload_n jM147 c147_182 rfl rfl).trans ?_
                  refine (sv_if_eq jM147 c147_183 rfl (t := 190) (by decide +kernel)).trans ?_
                  refine (if_neg (by decide +kernel)).trans ?_
                  refine (sv_iconst jM147 c147_186 rfl (v := 1) (by decide +kernel)).trans ?_
                  refine (sv_goto jM147 c147_187 rfl (t := 191) (by decide +kernel)).trans ?_
                  refine (sv_iadd jM147 c147_191 rfl).trans ?_
                  refine (sv_putf jM147 c147_192 rfl lf_9_159 (pf_61_11 _ _)).trans ?_
                  refine (sv_goto jM147 c147_195 rfl (t := 25) (by decide +kernel)).trans ?_
                  rfl
                ·
                  refine (sv_aload_n jM147 c147_172 rfl rfl).trans ?_
                  refine (sv_getf jM147 c147_173 rfl lf_9_159 (fg_61_11 _)).trans ?_
                  exact sv_iret jM147 c147_176 rfl rfl
            ·
              refine (sv_aload_n jM147 c147_103 rfl rfl).trans ?_
              refine (sv_getf jM147 c147_104 rfl lf_9_159 (fg_61_11 _)).trans ?_
              exact sv_iret jM147 c147_107 rfl rfl
        ·
          refine (sv_aload_n jM147 c147_53 rfl rfl).trans ?_
          refine (sv_getf jM147 c147_54 rfl lf_9_159 (fg_61_11 _)).trans ?_
          exact sv_iret jM147 c147_57 rfl rfl
set_option maxRecDepth 20000 in
set_option maxHeartbeats 4000000 in
theorem M_here_in (x1 : Int32) (σ : jm_S) : jc 144 [(.ref 61), (.int x1)] σ = (if x1 < 0 ∨ 4 ≤ x1.toNatClampNeg then none else (if (σ 70 x1.toNatClampNeg) ≤ (σ 61 11) then some (some (.int (-1 : Int32)), σ) else (if (((60 : Int32) * x1) + (σ 61 11)) < 0 ∨ 240 ≤ (((60 : Int32) * x1) + (σ 61 11)).toNatClampNeg then none else some (some (.int (σ 69 (((60 : Int32) * x1) + (σ 61 11)).toNatClampNeg)), σ)))) := by
  refine (jc_of (ls1 := [some (.ref 61), some (.int x1)]) ((jm_ini_of jM144).trans rfl)).trans ?_
  refine (sv_aload_n jM144 c144_0 rfl rfl).trans ?_
  refine (sv_getf jM144 c144_1 rfl lf_9_159 (fg_61_11 _)).trans ?_
  refine (sv_aload_n jM144 c144_4 rfl rfl).trans ?_
  refine (sv_getf jM144 c144_5 rfl lf_9_34 (fg_61_10 _)).trans ?_
  refine (sv_iload_n jM144 c144_8 rfl rfl).trans ?_
  refine (sv_iald jM144 c144_9 rfl (ia_70 _)).trans ?_
  refine jif _ rfl ?_
  refine (sv_icmp_ge jM144 c144_10 rfl (t := 30) (by decide +kernel)).trans ?_
  refine jif _ ?_ ?_
  ·
    refine (sv_iconst jM144 c144_30 rfl (v := -1) (by decide +kernel)).trans ?_
    exact sv_iret jM144 c144_31 rfl rfl
  ·
    refine (sv_aload_n jM144 c144_13 rfl rfl).trans ?_
    refine (sv_getf jM144 c144_14 rfl lf_9_31 (fg_61_9 _)).trans ?_
    refine (sv_bipush jM144 c144_17 rfl (v := 60) (by decide +kernel)).trans ?_
    refine (sv_iload_n jM144 c144_19 rfl rfl).trans ?_
    refine (sv_imul jM144 c144_20 rfl).trans ?_
    refine (sv_aload_n jM144 c144_21 rfl rfl).trans ?_
    refine (sv_getf jM144 c144_22 rfl lf_9_159 (fg_61_11 _)).trans ?_
    refine (sv_iadd jM144 c144_25 rfl).trans ?_
    refine (sv_iald jM144 c144_26 rfl (ia_69 _)).trans ?_
    refine jif _ rfl ?_
    refine (sv_goto jM144 c144_27 rfl (t := 31) (by decide +kernel)).trans ?_
    exact sv_iret jM144 c144_31 rfl rfl
set_option maxRecDepth 20000 in
set_option maxHeartbeats 4000000 in
theorem M_clearsPan_in (σ : jm_S) : jc 142 [(.ref 61)] σ = jv 142 2 [some (.ref 61), some (.int (0 : Int32))] [] σ := by
  refine (jc_of (ls1 := [some (.ref 61), none]) ((jm_ini_of jM142).trans rfl)).trans ?_
  refine (sv_iconst jM142 c142_0 rfl (v := 0) (by decide +kernel)).trans ?_
  refine (sv_istore_n (ls1 := [some (.ref 61), some (.int (0 : Int32))]) jM142 c142_1 rfl (Nat.lt_of_lt_of_eq (by decide +kernel : 1 < 2) rfl) rfl).trans ?_
  rfl
set_option maxRecDepth 20000 in
set_option maxHeartbeats 4000000 in
theorem M_clearsPan_L2 (x1 : Int32) (σ : jm_S) : jv 142 2 [some (.ref 61), some (.int x1)] [] σ = (if (200 : Int32) ≤ x1 then some (none, (jm_up (jm_up σ 61 15 (0 : Int32)) 61 16 (0 : Int32))) else (if x1 < 0 ∨ 200 ≤ x1.toNatClampNeg then none else (if x1 < 0 ∨ 200 ≤ x1.toNatClampNeg then none else (if x1 < 0 ∨ 200 ≤ x1.toNatClampNeg ∨ ¬ ((0 : Int32) = 0 ∨ (0 : Int32) = 1) then none else jv 142 2 [some (.ref 61), some (.int (x1 + 1))] [] (jm_up (jm_up (jm_up σ 71 x1.toNatClampNeg (0 : Int32)) 72 x1.toNatClampNeg (0 : Int32)) 73 x1.toNatClampNeg (0 : Int32)))))) := by
  refine (sv_iload_n jM142 c142_2 rfl rfl).trans ?_
  refine (sv_sipush jM142 c142_3 rfl (v := 200) (by decide +kernel)).trans ?_
  refine (sv_icmp_ge jM142 c142_6 rfl (t := 36) (by decide +kernel)).trans ?_
  refine jif _ ?_ ?_
  ·
    refine (sv_aload_n jM142 c142_36 rfl rfl).trans ?_
    refine (sv_iconst jM142 c142_37 rfl (v := 0) (by decide +kernel)).trans ?_
    refine (sv_putf jM142 c142_38 rfl lf_9_169 (pf_61_15 _ _)).trans ?_
    refine (sv_aload_n jM142 c142_41 rfl rfl).trans ?_
    refine (sv_iconst jM142 c142_42 rfl (v := 0) (by decide +kernel)).trans ?_
    refine (sv_putf jM142 c142_43 rfl lf_9_172 (pf_61_16 _ _ (by decide +kernel))).trans ?_
    exact sv_vret jM142 c142_46 rfl rfl
  ·
    refine (sv_aload_n jM142 c142_9 rfl rfl).trans ?_
    refine (sv_getf jM142 c142_10 rfl lf_9_37 (fg_61_12 _)).trans ?_
    refine (sv_iload_n jM142 c142_13 rfl rfl).trans ?_
    refine (sv_iconst jM142 c142_14 rfl (v := 0) (by decide +kernel)).trans ?_
    refine (sv_iast jM142 c142_15 rfl wi_71).trans ?_
    refine jif _ rfl ?_
    refine (sv_aload_n jM142 c142_16 rfl rfl).trans ?_
    refine (sv_getf jM142 c142_17 rfl lf_9_40 (fg_61_13 _)).trans ?_
    refine (sv_iload_n jM142 c142_20 rfl rfl).trans ?_
    refine (sv_iconst jM142 c142_21 rfl (v := 0) (by decide +kernel)).trans ?_
    refine (sv_iast jM142 c142_22 rfl wi_72).trans ?_
    refine jif _ rfl ?_
    refine (sv_aload_n jM142 c142_23 rfl rfl).trans ?_
    refine (sv_getf jM142 c142_24 rfl lf_9_43 (fg_61_14 _)).trans ?_
    refine (sv_iload_n jM142 c142_27 rfl rfl).trans ?_
    refine (sv_iconst jM142 c142_28 rfl (v := 0) (by decide +kernel)).trans ?_
    refine (sv_bast jM142 c142_29 rfl wi_73).trans ?_
    refine jif _ rfl ?_
    refine (sv_iinc (ls1 := [some (.ref 61), some (.int (x1 + 1))]) jM142 c142_30 rfl rfl (v := 1) (by decide +kernel) rfl).trans ?_
    refine (sv_goto jM142 c142_33 rfl (t := 2) (by decide +kernel)).trans ?_
    rfl
set_option maxRecDepth 20000 in
set_option maxHeartbeats 4000000 in
theorem M_readsPanPart_in (σ : jm_S) : jc 143 [(.ref 61)] σ = jbi (jc 144 [(.ref 61), (.int (0 : Int32))] σ) (fun r1 τ1 => (if r1 = (104 : Int32) then (if ¬ r1 = (115 : Int32) then (if r1 = (104 : Int32) then jbi (jc 146 [(.ref 61), (.int (0 : Int32)), (.int (2 : Int32)), (.int (0 : Int32)), (.int (99 : Int32))] (jm_up τ1 61 11 ((τ1 61 11) + (1 : Int32)))) (fun r2 τ2 => (if r2 < 0 then some (some (.int (0 : Int32)), τ2) else jbi (jc 144 [(.ref 61), (.int (0 : Int32))] τ2) (fun r3 τ3 => (if r3 = (120 : Int32) then jbi (jc 146 [(.ref 61), (.int (0 : Int32)), (.int (2 : Int32)), (.int (1 : Int32)), (.int (99 : Int32))] (jm_up τ3 61 11 ((τ3 61 11) + (1 : Int32)))) (fun r4 τ4 => (if 0 ≤ r4 then jv 143 162 [some (.ref 61), some (.int r1), some (.int r2), some (.int r4), some (.int (τ4 61 15))] [] τ4 else some (some (.int (0 : Int32)), τ4))) else some (some (.int (0 : Int32)), τ3))))) else (if ¬ r1 = (108 : Int32) then jbv (jc 145 [(.ref 61), (.int (τ1 61 15))] (jm_up (jm_up τ1 61 11 ((τ1 61 11) + (1 : Int32))) 61 16 (0 : Int32))) (fun τ5 => some (some (.int (1 : Int32)), τ5)) else jbv (jc 145 [(.ref 61), (.int (τ1 61 15))] (jm_up (jm_up τ1 61 11 ((τ1 61 11) + (1 : Int32))) 61 16 (1 : Int32))) (fun τ6 => some (some (.int (1 : Int32)), τ6)))) else (if (200 : Int32) ≤ (τ1 61 15) then some (some (.int (1 : Int32)), (jm_up τ1 61 11 ((τ1 61 11) + (1 : Int32)))) else (if (τ1 61 15) < 0 ∨ 200 ≤ (τ1 61 15).toNatClampNeg then none else (if (τ1 61 15) < 0 ∨ 200 ≤ (τ1 61 15).toNatClampNeg then none else some (some (.int (1 : Int32)), (jm_up (jm_up τ1 61 11 ((τ1 61 11) + (1 : Int32))) 72 (τ1 61 15).toNatClampNeg ((τ1 72 (τ1 61 15).toNatClampNeg) + (1 : Int32)))))))) else (if r1 = (115 : Int32) then (if ¬ r1 = (115 : Int32) then (if r1 = (104 : Int32) then jbi (jc 146 [(.ref 61), (.int (0 : Int32)), (.int (2 : Int32)), (.int (0 : Int32)), (.int (99 : Int32))] (jm_up τ1 61 11 ((τ1 61 11) + (1 : Int32)))) (fun r7 τ7 => (if r7 < 0 then some (some (.int (0 : Int32)), τ7) else jbi (jc 144 [(.ref 61), (.int (0 : Int32))] τ7) (fun r8 τ8 => (if r8 = (120 : Int32) then jbi (jc 146 [(.ref 61), (.int (0 : Int32)), (.int (2 : Int32)), (.int (1 : Int32)), (.int (99 : Int32))] (jm_up τ8 61 11 ((τ8 61 11) + (1 : Int32)))) (fun r9 τ9 => (if 0 ≤ r9 then jv 143 162 [some (.ref 61), some (.int r1), some (.int r7), some (.int r9), some (.int (τ9 61 15))] [] τ9 else some (some (.int (0 : Int32)), τ9))) else some (some (.int (0 : Int32)), τ8))))) else (if ¬ r1 = (108 : Int32) then jbv (jc 145 [(.ref 61), (.int (τ1 61 15))] (jm_up (jm_up τ1 61 11 ((τ1 61 11) + (1 : Int32))) 61 16 (0 : Int32))) (fun τ10 => some (some (.int (1 : Int32)), τ10)) else jbv (jc 145 [(.ref 61), (.int (τ1 61 15))] (jm_up (jm_up τ1 61 11 ((τ1 61 11) + (1 : Int32))) 61 16 (1 : Int32))) (fun τ11 => some (some (.int (1 : Int32)), τ11)))) else (if (200 : Int32) ≤ (τ1 61 15) then some (some (.int (1 : Int32)), (jm_up τ1 61 11 ((τ1 61 11) + (1 : Int32)))) else (if (τ1 61 15) < 0 ∨ 200 ≤ (τ1 61 15).toNatClampNeg then none else (if (τ1 61 15) < 0 ∨ 200 ≤ (τ1 61 15).toNatClampNeg then none else some (some (.int (1 : Int32)), (jm_up (jm_up τ1 61 11 ((τ1 61 11) + (1 : Int32))) 72 (τ1 61 15).toNatClampNeg ((τ1 72 (τ1 61 15).toNatClampNeg) + (1 : Int32)))))))) else (if r1 = (108 : Int32) then (if ¬ r1 = (115 : Int32) then (if r1 = (104 : Int32) then jbi (jc 146 [(.ref 61), (.int (0 : Int32)), (.int (2 : Int32)), (.int (0 : Int32)), (.int (99 : Int32))] (jm_up τ1 61 11 ((τ1 61 11) + (1 : Int32)))) (fun r12 τ12 => (if r12 < 0 then some (some (.int (0 : Int32)), τ12) else jbi (jc 144 [(.ref 61), (.int (0 : Int32))] τ12) (fun r13 τ13 => (if r13 = (120 : Int32) then jbi (jc 146 [(.ref 61), (.int (0 : Int32)), (.int (2 : Int32)), (.int (1 : Int32)), (.int (99 : Int32))] (jm_up τ13 61 11 ((τ13 61 11) + (1 : Int32)))) (fun r14 τ14 => (if 0 ≤ r14 then jv 143 162 [some (.ref 61), some (.int r1), some (.int r12), some (.int r14), some (.int (τ14 61 15))] [] τ14 else some (some (.int (0 : Int32)), τ14))) else some (some (.int (0 : Int32)), τ13))))) else (if ¬ r1 = (108 : Int32) then jbv (jc 145 [(.ref 61), (.int (τ1 61 15))] (jm_up (jm_up τ1 61 11 ((τ1 61 11) + (1 : Int32))) 61 16 (0 : Int32))) (fun τ15 => some (some (.int (1 : Int32)), τ15)) else jbv (jc 145 [(.ref 61), (.int (τ1 61 15))] (jm_up (jm_up τ1 61 11 ((τ1 61 11) + (1 : Int32))) 61 16 (1 : Int32))) (fun τ16 => some (some (.int (1 : Int32)), τ16)))) else (if (200 : Int32) ≤ (τ1 61 15) then some (some (.int (1 : Int32)), (jm_up τ1 61 11 ((τ1 61 11) + (1 : Int32)))) else (if (τ1 61 15) < 0 ∨ 200 ≤ (τ1 61 15).toNatClampNeg then none else (if (τ1 61 15) < 0 ∨ 200 ≤ (τ1 61 15).toNatClampNeg then none else some (some (.int (1 : Int32)), (jm_up (jm_up τ1 61 11 ((τ1 61 11) + (1 : Int32))) 72 (τ1 61 15).toNatClampNeg ((τ1 72 (τ1 61 15).toNatClampNeg) + (1 : Int32)))))))) else (if r1 = (111 : Int32) then (if ¬ r1 = (115 : Int32) then (if r1 = (104 : Int32) then jbi (jc 146 [(.ref 61), (.int (0 : Int32)), (.int (2 : Int32)), (.int (0 : Int32)), (.int (99 : Int32))] (jm_up τ1 61 11 ((τ1 61 11) + (1 : Int32)))) (fun r17 τ17 => (if r17 < 0 then some (some (.int (0 : Int32)), τ17) else jbi (jc 144 [(.ref 61), (.int (0 : Int32))] τ17) (fun r18 τ18 => (if r18 = (120 : Int32) then jbi (jc 146 [(.ref 61), (.int (0 : Int32)), (.int (2 : Int32)), (.int (1 : Int32)), (.int (99 : Int32))] (jm_up τ18 61 11 ((τ18 61 11) + (1 : Int32)))) (fun r19 τ19 => (if 0 ≤ r19 then jv 143 162 [some (.ref 61), some (.int r1), some (.int r17), some (.int r19), some (.int (τ19 61 15))] [] τ19 else some (some (.int (0 : Int32)), τ19))) else some (some (.int (0 : Int32)), τ18))))) else (if ¬ r1 = (108 : Int32) then jbv (jc 145 [(.ref 61), (.int (τ1 61 15))] (jm_up (jm_up τ1 61 11 ((τ1 61 11) + (1 : Int32))) 61 16 (0 : Int32))) (fun τ20 => some (some (.int (1 : Int32)), τ20)) else jbv (jc 145 [(.ref 61), (.int (τ1 61 15))] (jm_up (jm_up τ1 61 11 ((τ1 61 11) + (1 : Int32))) 61 16 (1 : Int32))) (fun τ21 => some (some (.int (1 : Int32)), τ21)))) else (if (200 : Int32) ≤ (τ1 61 15) then some (some (.int (1 : Int32)), (jm_up τ1 61 11 ((τ1 61 11) + (1 : Int32)))) else (if (τ1 61 15) < 0 ∨ 200 ≤ (τ1 61 15).toNatClampNeg then none else (if (τ1 61 15) < 0 ∨ 200 ≤ (τ1 61 15).toNatClampNeg then none else some (some (.int (1 : Int32)), (jm_up (jm_up τ1 61 11 ((τ1 61 11) + (1 : Int32))) 72 (τ1 61 15).toNatClampNeg ((τ1 72 (τ1 61 15).toNatClampNeg) + (1 : Int32)))))))) else some (some (.int (0 : Int32)), τ1)))))) := by
  refine (jc_of (ls1 := [some (.ref 61), none, none, none, none]) ((jm_ini_of jM143).trans rfl)).trans ?_
  refine (sv_aload_n jM143 c143_0 rfl rfl).trans ?_
  refine (sv_iconst jM143 c143_1 rfl (v := 0) (by decide +kernel)).trans ?_
  refine (sv_callvi (pl := 0) jM143 c143_2 rfl (jm_call_v (a := 61) (as := [(.int (0 : Int32))]) (rest := []) lm_9_162 rfl jM144 rfl rfl rfl rfl rfl) jM144 rfl (Or.inl rfl)).trans ?_
  refine jbi_c (fun r1 τ1 => ?_)
  refine (sv_istore_n (ls1 := [some (.ref 61), some (.int r1), none, none, none]) jM143 c143_5 rfl (Nat.lt_of_lt_of_eq (by decide +kernel : 1 < 5) rfl) rfl).trans ?_
  refine (sv_iload_n jM143 c143_6 rfl rfl).trans ?_
  refine (sv_bipush jM143 c143_7 rfl (v := 104) (by decide +kernel)).trans ?_
  refine (sv_icmp_eq jM143 c143_9 rfl (t := 32) (by decide +kernel)).trans ?_
  refine jif _ ?_ ?_
  ·
    refine (sv_aload_n jM143 c143_32 rfl rfl).trans ?_
    refine (sv_dup jM143 c143_33 rfl rfl).trans ?_
    refine (sv_getf jM143 c143_34 rfl lf_9_159 (fg_61_11 _)).trans ?_
    refine (sv_iconst jM143 c143_37 rfl (v := 1) (by decide +kernel)).trans ?_
    refine (sv_iadd jM143 c143_38 rfl).trans ?_
    refine (sv_putf jM143 c143_39 rfl lf_9_159 (pf_61_11 _ _)).trans ?_
    refine (sv_iload_n jM143 c143_42 rfl rfl).trans ?_
    refine (sv_bipush jM143 c143_43 rfl (v := 115) (by decide +kernel)).trans ?_
    refine (sv_icmp_ne jM143 c143_45 rfl (t := 73) (by decide +kernel)).trans ?_
    refine jif _ ?_ ?_
    ·
      refine (sv_iload_n jM143 c143_73 rfl rfl).trans ?_
      refine (sv_bipush jM143 c143_74 rfl (v := 104) (by decide +kernel)).trans ?_
      refine (sv_icmp_eq jM143 c143_76 rfl (t := 104) (by decide +kernel)).trans ?_
      refine jif _ ?_ ?_
      ·
        refine (sv_aload_n jM143 c143_104 rfl rfl).trans ?_
        refine (sv_iconst jM143 c143_105 rfl (v := 0) (by decide +kernel)).trans ?_
        refine (sv_iconst jM143 c143_106 rfl (v := 2) (by decide +kernel)).trans ?_
        refine (sv_iconst jM143 c143_107 rfl (v := 0) (by decide +kernel)).trans ?_
        refine (sv_bipush jM143 c143_108 rfl (v := 99) (by decide +kernel)).trans ?_
        refine (sv_callvi (pl := 0) jM143 c143_110 rfl (jm_call_v (a := 61) (as := [(.int (0 : Int32)), (.int (2 : Int32)), (.int (0 : Int32)), (.int (99 : Int32))]) (rest := []) lm_9_180 rfl jM146 rfl rfl rfl rfl rfl) jM146 rfl (Or.inl rfl)).trans ?_
        refine jbi_c (fun r2 τ2 => ?_)
        refine (sv_istore_n (ls1 := [some (.ref 61), some (.int r1), some (.int r2), none, none]) jM143 c143_113 rfl (Nat.lt_of_lt_of_eq (by decide +kernel : 2 < 5) rfl) rfl).trans ?_
        refine (sv_iload_n jM143 c143_114 rfl rfl).trans ?_
        refine (sv_if_lt jM143 c143_115 rfl (t := 128) (by decide +kernel)).trans ?_
        refine jif _ ?_ ?_
        ·
          refine (sv_iconst jM143 c143_128 rfl (v := 0) (by decide +kernel)).trans ?_
          exact sv_zret jM143 c143_129 rfl rfl (by decide +kernel)
        ·
          refine (sv_aload_n jM143 c143_118 rfl rfl).trans ?_
          refine (sv_iconst jM143 c143_119 rfl (v := 0) (by decide +kernel)).trans ?_
          refine (sv_callvi (pl := 0) jM143 c143_120 rfl (jm_call_v (a := 61) (as := [(.int (0 : Int32))]) (rest := []) lm_9_162 rfl jM144 rfl rfl rfl rfl rfl) jM144 rfl (Or.inl rfl)).trans ?_
          refine jbi_c (fun r3 τ3 => ?_)
          refine (sv_bipush jM143 c143_123 rfl (v := 120) (by decide +kernel)).trans ?_
          refine (sv_icmp_eq jM143 c143_125 rfl (t := 130) (by decide +kernel)).trans ?_
          refine jif _ ?_ ?_
          ·
            refine (sv_aload_n jM143 c143_130 rfl rfl).trans ?_
            refine (sv_dup jM143 c143_131 rfl rfl).trans ?_
            refine (sv_getf jM143 c143_132 rfl lf_9_159 (fg_61_11 _)).trans ?_
            refine (sv_iconst jM143 c143_135 rfl (v := 1) (by decide +kernel)).trans ?_
            refine (sv_iadd jM143 c143_136 rfl).trans ?_
            refine (sv_putf jM143 c143_137 rfl lf_9_159 (pf_61_11 _ _)).trans ?_
            refine (sv_aload_n jM143 c143_140 rfl rfl).trans ?_
            refine (sv_iconst jM143 c143_141 rfl (v := 0) (by decide +kernel)).trans ?_
            refine (sv_iconst jM143 c143_142 rfl (v := 2) (by decide +kernel)).trans ?_
            refine (sv_iconst jM143 c143_143 rfl (v := 1) (by decide +kernel)).trans ?_
            refine (sv_bipush jM143 c143_144 rfl (v := 99) (by decide +kernel)).trans ?_
            refine (sv_callvi (pl := 0) jM143 c143_146 rfl (jm_call_v (a := 61) (as := [(.int (0 : Int32)), (.int (2 : Int32)), (.int (1 : Int32)), (.int (99 : Int32))]) (rest := []) lm_9_180 rfl jM146 rfl rfl rfl rfl rfl) jM146 rfl (Or.inl rfl)).trans ?_
            refine jbi_c (fun r4 τ4 => ?_)
            refine (sv_istore_n (ls1 := [some (.ref 61), some (.int r1), some (.int r2), some (.int r4), none]) jM143 c143_149 rfl (Nat.lt_of_lt_of_eq (by decide +kernel : 3 < 5) rfl) rfl).trans ?_
            refine (sv_iload_n jM143 c143_150 rfl rfl).trans ?_
            refine (sv_if_ge jM143 c143_151 rfl (t := 156) (by decide +kernel)).trans ?_
            refine jif _ ?_ ?_
            ·
              refine (sv_aload_n jM143 c143_156 rfl rfl).trans ?_
              refine (sv_getf jM143 c143_157 rfl lf_9_169 (fg_61_15 _)).trans ?_
              refine (sv_istore (ls1 := [some (.ref 61), some (.int r1), some (.int r2), some (.int r4), some (.int (τ4 61 15))]) jM143 c143_160 rfl (Nat.lt_of_lt_of_eq (by decide +kernel : 4 < 5) rfl) rfl).trans ?_
              rfl
            ·
              refine (sv_iconst jM143 c143_154 rfl (v := 0) (by decide +kernel)).trans ?_
              exact sv_zret jM143 c143_155 rfl rfl (by decide +kernel)
          ·
            refine (sv_iconst jM143 c143_128 rfl (v := 0) (by decide +kernel)).trans ?_
            exact sv_zret jM143 c143_129 rfl rfl (by decide +kernel)
      ·
        refine (sv_aload_n jM143 c143_79 rfl rfl).trans ?_
        refine (sv_iload_n jM143 c143_80 rfl rfl).trans ?_
        refine (sv_bipush jM143 c143_81 rfl (v := 108) (by decide +kernel)).trans ?_
        refine (sv_icmp_ne jM143 c143_83 rfl (t := 90) (by decide +kernel)).trans ?_
        refine jif _ ?_ ?_
        ·
          refine (sv_iconst jM143 c143_90 rfl (v := 0) (by decide +kernel)).trans ?_
          refine (sv_putf jM143 c143_91 rfl lf_9_172 (pf_61_16 _ _ (by decide +kernel))).trans ?_
          refine (sv_aload_n jM143 c143_94 rfl rfl).trans ?_
          refine (sv_aload_n jM143 c143_95 rfl rfl).trans ?_
          refine (sv_getf jM143 c143_96 rfl lf_9_169 (fg_61_15 _)).trans ?_
          refine (sv_callvv (pl := 0) jM143 c143_99 rfl (jm_call_v (a := 61) (as := [(.int (τ1 61 15))]) (rest := []) lm_9_176 rfl jM145 rfl rfl rfl rfl rfl) jM145 rfl rfl).trans ?_
          refine jbv_c (fun τ5 => ?_)
          refine (sv_iconst jM143 c143_102 rfl (v := 1) (by decide +kernel)).trans ?_
          exact sv_zret jM143 c143_103 rfl rfl (by decide +kernel)
        ·
          refine (sv_iconst jM143 c143_86 rfl (v := 1) (by decide +kernel)).trans ?_
          refine (sv_goto jM143 c143_87 rfl (t := 91) (by decide +kernel)).trans ?_
          refine (sv_putf jM143 c143_91 rfl lf_9_172 (pf_61_16 _ _ (by decide +kernel))).trans ?_
          refine (sv_aload_n jM143 c143_94 rfl rfl).trans ?_
          refine (sv_aload_n jM143 c143_95 rfl rfl).trans ?_
          refine (sv_getf jM143 c143_96 rfl lf_9_169 (fg_61_15 _)).trans ?_
          refine (sv_callvv (pl := 0) jM143 c143_99 rfl (jm_call_v (a := 61) (as := [(.int (τ1 61 15))]) (rest := []) lm_9_176 rfl jM145 rfl rfl rfl rfl rfl) jM145 rfl rfl).trans ?_
          refine jbv_c (fun τ6 => ?_)
          refine (sv_iconst jM143 c143_102 rfl (v := 1) (by decide +kernel)).trans ?_
          exact sv_zret jM143 c143_103 rfl rfl (by decide +kernel)
    ·
      refine (sv_aload_n jM143 c143_48 rfl rfl).trans ?_
      refine (sv_getf jM143 c143_49 rfl lf_9_169 (fg_61_15 _)).trans ?_
      refine (sv_sipush jM143 c143_52 rfl (v := 200) (by decide +kernel)).trans ?_
      refine (sv_icmp_ge jM143 c143_55 rfl (t := 71) (by decide +kernel)).trans ?_
      refine jif _ ?_ ?_
      ·
        refine (sv_iconst jM143 c143_71 rfl (v := 1) (by decide +kernel)).trans ?_
        exact sv_zret jM143 c143_72 rfl rfl (by decide +kernel)
      ·
        refine (sv_aload_n jM143 c143_58 rfl rfl).trans ?_
        refine (sv_getf jM143 c143_59 rfl lf_9_40 (fg_61_13 _)).trans ?_
        refine (sv_aload_n jM143 c143_62 rfl rfl).trans ?_
        refine (sv_getf jM143 c143_63 rfl lf_9_169 (fg_61_15 _)).trans ?_
        refine (sv_dup2 jM143 c143_66 rfl ⟨rfl, rfl⟩).trans ?_
        refine (sv_iald jM143 c143_67 rfl (ia_72 _)).trans ?_
        refine jif _ rfl ?_
        refine (sv_iconst jM143 c143_68 rfl (v := 1) (by decide +kernel)).trans ?_
        refine (sv_iadd jM143 c143_69 rfl).trans ?_
        refine (sv_iast jM143 c143_70 rfl wi_72).trans ?_
        refine jif _ rfl ?_
        refine (sv_iconst jM143 c143_71 rfl (v := 1) (by decide +kernel)).trans ?_
        exact sv_zret jM143 c143_72 rfl rfl (by decide +kernel)
  ·
    refine (sv_iload_n jM143 c143_12 rfl rfl).trans ?_
    refine (sv_bipush jM143 c143_13 rfl (v := 115) (by decide +kernel)).trans ?_
    refine (sv_icmp_eq jM143 c143_15 rfl (t := 32) (by decide +kernel)).trans ?_
    refine jif _ ?_ ?_
    ·
      refine (sv_aload_n jM143 c143_32 rfl rfl).trans ?_
      refine (sv_dup jM143 c143_33 rfl rfl).trans ?_
      refine (sv_getf jM143 c143_34 rfl lf_9_159 (fg_61_11 _)).trans ?_
      refine (sv_iconst jM143 c143_37 rfl (v := 1) (by decide +kernel)).trans ?_
      refine (sv_iadd jM143 c143_38 rfl).trans ?_
      refine (sv_putf jM143 c143_39 rfl lf_9_159 (pf_61_11 _ _)).trans ?_
      refine (sv_iload_n jM143 c143_42 rfl rfl).trans ?_
      refine (sv_bipush jM143 c143_43 rfl (v := 115) (by decide +kernel)).trans ?_
      refine (sv_icmp_ne jM143 c143_45 rfl (t := 73) (by decide +kernel)).trans ?_
      refine jif _ ?_ ?_
      ·
        refine (sv_iload_n jM143 c143_73 rfl rfl).trans ?_
        refine (sv_bipush jM143 c143_74 rfl (v := 104) (by decide +kernel)).trans ?_
        refine (sv_icmp_eq jM143 c143_76 rfl (t := 104) (by decide +kernel)).trans ?_
        refine jif _ ?_ ?_
        ·
          refine (sv_aload_n jM143 c143_104 rfl rfl).trans ?_
          refine (sv_iconst jM143 c143_105 rfl (v := 0) (by decide +kernel)).trans ?_
          refine (sv_iconst jM143 c143_106 rfl (v := 2) (by decide +kernel)).trans ?_
          refine (sv_iconst jM143 c143_107 rfl (v := 0) (by decide +kernel)).trans ?_
          refine (sv_bipush jM143 c143_108 rfl (v := 99) (by decide +kernel)).trans ?_
          refine (sv_callvi (pl := 0) jM143 c143_110 rfl (jm_call_v (a := 61) (as := [(.int (0 : Int32)), (.int (2 : Int32)), (.int (0 : Int32)), (.int (99 : Int32))]) (rest := []) lm_9_180 rfl jM146 rfl rfl rfl rfl rfl) jM146 rfl (Or.inl rfl)).trans ?_
          refine jbi_c (fun r7 τ7 => ?_)
          refine (sv_istore_n (ls1 := [some (.ref 61), some (.int r1), some (.int r7), none, none]) jM143 c143_113 rfl (Nat.lt_of_lt_of_eq (by decide +kernel : 2 < 5) rfl) rfl).trans ?_
          refine (sv_iload_n jM143 c143_114 rfl rfl).trans ?_
          refine (sv_if_lt jM143 c143_115 rfl (t := 128) (by decide +kernel)).trans ?_
          refine jif _ ?_ ?_
          ·
            refine (sv_iconst jM143 c143_128 rfl (v := 0) (by decide +kernel)).trans ?_
            exact sv_zret jM143 c143_129 rfl rfl (by decide +kernel)
          ·
            refine (sv_aload_n jM143 c143_118 rfl rfl).trans ?_
            refine (sv_iconst jM143 c143_119 rfl (v := 0) (by decide +kernel)).trans ?_
            refine (sv_callvi (pl := 0) jM143 c143_120 rfl (jm_call_v (a := 61) (as := [(.int (0 : Int32))]) (rest := []) lm_9_162 rfl jM144 rfl rfl rfl rfl rfl) jM144 rfl (Or.inl rfl)).trans ?_
            refine jbi_c (fun r8 τ8 => ?_)
            refine (sv_bipush jM143 c143_123 rfl (v := 120) (by decide +kernel)).trans ?_
            refine (sv_icmp_eq jM143 c143_125 rfl (t := 130) (by decide +kernel)).trans ?_
            refine jif _ ?_ ?_
            ·
              refine (sv_aload_n jM143 c143_130 rfl rfl).trans ?_
              refine (sv_dup jM143 c143_131 rfl rfl).trans ?_
              refine (sv_getf jM143 c143_132 rfl lf_9_159 (fg_61_11 _)).trans ?_
              refine (sv_iconst jM143 c143_135 rfl (v := 1) (by decide +kernel)).trans ?_
              refine (sv_iadd jM143 c143_136 rfl).trans ?_
              refine (sv_putf jM143 c143_137 rfl lf_9_159 (pf_61_11 _ _)).trans ?_
              refine (sv_aload_n jM143 c143_140 rfl rfl).trans ?_
              refine (sv_iconst jM143 c143_141 rfl (v := 0) (by decide +kernel)).trans ?_
              refine (sv_iconst jM143 c143_142 rfl (v := 2) (by decide +kernel)).trans ?_
              refine (sv_iconst jM143 c143_143 rfl (v := 1) (by decide +kernel)).trans ?_
              refine (sv_bipush jM143 c143_144 rfl (v := 99) (by decide +kernel)).trans ?_
              refine (sv_callvi (pl := 0) jM143 c143_146 rfl (jm_call_v (a := 61) (as := [(.int (0 : Int32)), (.int (2 : Int32)), (.int (1 : Int32)), (.int (99 : Int32))]) (rest := []) lm_9_180 rfl jM146 rfl rfl rfl rfl rfl) jM146 rfl (Or.inl rfl)).trans ?_
              refine jbi_c (fun r9 τ9 => ?_)
              refine (sv_istore_n (ls1 := [some (.ref 61), some (.int r1), some (.int r7), some (.int r9), none]) jM143 c143_149 rfl (Nat.lt_of_lt_of_eq (by decide +kernel : 3 < 5) rfl) rfl).trans ?_
              refine (sv_iload_n jM143 c143_150 rfl rfl).trans ?_
              refine (sv_if_ge jM143 c143_151 rfl (t := 156) (by decide +kernel)).trans ?_
              refine jif _ ?_ ?_
              ·
                refine (sv_aload_n jM143 c143_156 rfl rfl).trans ?_
                refine (sv_getf jM143 c143_157 rfl lf_9_169 (fg_61_15 _)).trans ?_
                refine (sv_istore (ls1 := [some (.ref 61), some (.int r1), some (.int r7), some (.int r9), some (.int (τ9 61 15))]) jM143 c143_160 rfl (Nat.lt_of_lt_of_eq (by decide +kernel : 4 < 5) rfl) rfl).trans ?_
                rfl
              ·
                refine (sv_iconst jM143 c143_154 rfl (v := 0) (by decide +kernel)).trans ?_
                exact sv_zret jM143 c143_155 rfl rfl (by decide +kernel)
            ·
              refine (sv_iconst jM143 c143_128 rfl (v := 0) (by decide +kernel)).trans ?_
              exact sv_zret jM143 c143_129 rfl rfl (by decide +kernel)
        ·
          refine (sv_aload_n jM143 c143_79 rfl rfl).trans ?_
          refine (sv_iload_n jM143 c143_80 rfl rfl).trans ?_
          refine (sv_bipush jM143 c143_81 rfl (v := 108) (by decide +kernel)).trans ?_
          refine (sv_icmp_ne jM143 c143_83 rfl (t := 90) (by decide +kernel)).trans ?_
          refine jif _ ?_ ?_
          ·
            refine (sv_iconst jM143 c143_90 rfl (v := 0) (by decide +kernel)).trans ?_
            refine (sv_putf jM143 c143_91 rfl lf_9_172 (pf_61_16 _ _ (by decide +kernel))).trans ?_
            refine (sv_aload_n jM143 c143_94 rfl rfl).trans ?_
            refine (sv_aload_n jM143 c143_95 rfl rfl).trans ?_
            refine (sv_getf jM143 c143_96 rfl lf_9_169 (fg_61_15 _)).trans ?_
            refine (sv_callvv (pl := 0) jM143 c143_99 rfl (jm_call_v (a := 61) (as := [(.int (τ1 61 15))]) (rest := []) lm_9_176 rfl jM145 rfl rfl rfl rfl rfl) jM145 rfl rfl).trans ?_
            refine jbv_c (fun τ10 => ?_)
            refine (sv_iconst jM143 c143_102 rfl (v := 1) (by decide +kernel)).trans ?_
            exact sv_zret jM143 c143_103 rfl rfl (by decide +kernel)
          ·
            refine (sv_iconst jM143 c143_86 rfl (v := 1) (by decide +kernel)).trans ?_
            refine (sv_goto jM143 c143_87 rfl (t := 91) (by decide +kernel)).trans ?_
            refine (sv_putf jM143 c143_91 rfl lf_9_172 (pf_61_16 _ _ (by decide +kernel))).trans ?_
            refine (sv_aload_n jM143 c143_94 rfl rfl).trans ?_
            refine (sv_aload_n jM143 c143_95 rfl rfl).trans ?_
            refine (sv_getf jM143 c143_96 rfl lf_9_169 (fg_61_15 _)).trans ?_
            refine (sv_callvv (pl := 0) jM143 c143_99 rfl (jm_call_v (a := 61) (as := [(.int (τ1 61 15))]) (rest := []) lm_9_176 rfl jM145 rfl rfl rfl rfl rfl) jM145 rfl rfl).trans ?_
            refine jbv_c (fun τ11 => ?_)
            refine (sv_iconst jM143 c143_102 rfl (v := 1) (by decide +kernel)).trans ?_
            exact sv_zret jM143 c143_103 rfl rfl (by decide +kernel)
      ·
        refine (sv_aload_n jM143 c143_48 rfl rfl).trans ?_
        refine (sv_getf jM143 c143_49 rfl lf_9_169 (fg_61_15 _)).trans ?_
        refine (sv_sipush jM143 c143_52 rfl (v := 200) (by decide +kernel)).trans ?_
        refine (sv_icmp_ge jM143 c143_55 rfl (t := 71) (by decide +kernel)).trans ?_
        refine jif _ ?_ ?_
        ·
          refine (sv_iconst jM143 c143_71 rfl (v := 1) (by decide +kernel)).trans ?_
          exact sv_zret jM143 c143_72 rfl rfl (by decide +kernel)
        ·
          refine (sv_aload_n jM143 c143_58 rfl rfl).trans ?_
          refine (sv_getf jM143 c143_59 rfl lf_9_40 (fg_61_13 _)).trans ?_
          refine (sv_aload_n jM143 c143_62 rfl rfl).trans ?_
          refine (sv_getf jM143 c143_63 rfl lf_9_169 (fg_61_15 _)).trans ?_
          refine (sv_dup2 jM143 c143_66 rfl ⟨rfl, rfl⟩).trans ?_
          refine (sv_iald jM143 c143_67 rfl (ia_72 _)).trans ?_
          refine jif _ rfl ?_
          refine (sv_iconst jM143 c143_68 rfl (v := 1) (by decide +kernel)).trans ?_
          refine (sv_iadd jM143 c143_69 rfl).trans ?_
          refine (sv_iast jM143 c143_70 rfl wi_72).trans ?_
          refine jif _ rfl ?_
          refine (sv_iconst jM143 c143_71 rfl (v := 1) (by decide +kernel)).trans ?_
          exact sv_zret jM143 c143_72 rfl rfl (by decide +kernel)
    ·
      refine (sv_iload_n jM143 c143_18 rfl rfl).trans ?_
      refine (sv_bipush jM143 c143_19 rfl (v := 108) (by decide +kernel)).trans ?_
      refine (sv_icmp_eq jM143 c143_21 rfl (t := 32) (by decide +kernel)).trans ?_
      refine jif _ ?_ ?_
      ·
        refine (sv_aload_n jM143 c143_32 rfl rfl).trans ?_
        refine (sv_dup jM143 c143_33 rfl rfl).trans ?_
        refine (sv_getf jM143 c143_34 rfl lf_9_159 (fg_61_11 _)).trans ?_
        refine (sv_iconst jM143 c143_37 rfl (v := 1) (by decide +kernel)).trans ?_
        refine (sv_iadd jM143 c143_38 rfl).trans ?_
        refine (sv_putf jM143 c143_39 rfl lf_9_159 (pf_61_11 _ _)).trans ?_
        refine (sv_iload_n jM143 c143_42 rfl rfl).trans ?_
        refine (sv_bipush jM143 c143_43 rfl (v := 115) (by decide +kernel)).trans ?_
        refine (sv_icmp_ne jM143 c143_45 rfl (t := 73) (by decide +kernel)).trans ?_
        refine jif _ ?_ ?_
        ·
          refine (sv_iload_n jM143 c143_73 rfl rfl).trans ?_
          refine (sv_bipush jM143 c143_74 rfl (v := 104) (by decide +kernel)).trans ?_
          refine (sv_icmp_eq jM143 c143_76 rfl (t := 104) (by decide +kernel)).trans ?_
          refine jif _ ?_ ?_
          ·
            refine (sv_aload_n jM143 c143_104 rfl rfl).trans ?_
            refine (sv_iconst jM143 c143_105 rfl (v := 0) (by decide +kernel)).trans ?_
            refine (sv_iconst jM143 c143_106 rfl (v := 2) (by decide +kernel)).trans ?_
            refine (sv_iconst jM143 c143_107 rfl (v := 0) (by decide +kernel)).trans ?_
            refine (sv_bipush jM143 c143_108 rfl (v := 99) (by decide +kernel)).trans ?_
            refine (sv_callvi (pl := 0) jM143 c143_110 rfl (jm_call_v (a := 61) (as := [(.int (0 : Int32)), (.int (2 : Int32)), (.int (0 : Int32)), (.int (99 : Int32))]) (rest := []) lm_9_180 rfl jM146 rfl rfl rfl rfl rfl) jM146 rfl (Or.inl rfl)).trans ?_
            refine jbi_c (fun r12 τ12 => ?_)
            refine (sv_istore_n (ls1 := [some (.ref 61), some (.int r1), some (.int r12), none, none]) jM143 c143_113 rfl (Nat.lt_of_lt_of_eq (by decide +kernel : 2 < 5) rfl) rfl).trans ?_
            refine (sv_iload_n jM143 c143_114 rfl rfl).trans ?_
            refine (sv_if_lt jM143 c143_115 rfl (t := 128) (by decide +kernel)).trans ?_
            refine jif _ ?_ ?_
            ·
              refine (sv_iconst jM143 c143_128 rfl (v := 0) (by decide +kernel)).trans ?_
              exact sv_zret jM143 c143_129 rfl rfl (by decide +kernel)
            ·
              refine (sv_aload_n jM143 c143_118 rfl rfl).trans ?_
              refine (sv_iconst jM143 c143_119 rfl (v := 0) (by decide +kernel)).trans ?_
              refine (sv_callvi (pl := 0) jM143 c143_120 rfl (jm_call_v (a := 61) (as := [(.int (0 : Int32))]) (rest := []) lm_9_162 rfl jM144 rfl rfl rfl rfl rfl) jM144 rfl (Or.inl rfl)).trans ?_
              refine jbi_c (fun r13 τ13 => ?_)
              refine (sv_bipush jM143 c143_123 rfl (v := 120) (by decide +kernel)).trans ?_
              refine (sv_icmp_eq jM143 c143_125 rfl (t := 130) (by decide +kernel)).trans ?_
              refine jif _ ?_ ?_
              ·
                refine (sv_aload_n jM143 c143_130 rfl rfl).trans ?_
                refine (sv_dup jM143 c143_131 rfl rfl).trans ?_
                refine (sv_getf jM143 c143_132 rfl lf_9_159 (fg_61_11 _)).trans ?_
                refine (sv_iconst jM143 c143_135 rfl (v := 1) (by decide +kernel)).trans ?_
                refine (sv_iadd jM143 c143_136 rfl).trans ?_
                refine (sv_putf jM143 c143_137 rfl lf_9_159 (pf_61_11 _ _)).trans ?_
                refine (sv_aload_n jM143 c143_140 rfl rfl).trans ?_
                refine (sv_iconst jM143 c143_141 rfl (v := 0) (by decide +kernel)).trans ?_
                refine (sv_iconst jM143 c143_142 rfl (v := 2) (by decide +kernel)).trans ?_
                refine (sv_iconst jM143 c143_143 rfl (v := 1) (by decide +kernel)).trans ?_
                refine (sv_bipush jM143 c143_144 rfl (v := 99) (by decide +kernel)).trans ?_
                refine (sv_callvi (pl := 0) jM143 c143_146 rfl (jm_call_v (a := 61) (as := [(.int (0 : Int32)), (.int (2 : Int32)), (.int (1 : Int32)), (.int (99 : Int32))]) (rest := []) lm_9_180 rfl jM146 rfl rfl rfl rfl rfl) jM146 rfl (Or.inl rfl)).trans ?_
                refine jbi_c (fun r14 τ14 => ?_)
                refine (sv_istore_n (ls1 := [some (.ref 61), some (.int r1), some (.int r12), some (.int r14), none]) jM143 c143_149 rfl (Nat.lt_of_lt_of_eq (by decide +kernel : 3 < 5) rfl) rfl).trans ?_
                refine (sv_iload_n jM143 c143_150 rfl rfl).trans ?_
                refine (sv_if_ge jM143 c143_151 rfl (t := 156) (by decide +kernel)).trans ?_
                refine jif _ ?_ ?_
                ·
                  refine (sv_aload_n jM143 c143_156 rfl rfl).trans ?_
                  refine (sv_getf jM143 c143_157 rfl lf_9_169 (fg_61_15 _)).trans ?_
                  refine (sv_istore (ls1 := [some (.ref 61), some (.int r1), some (.int r12), some (.int r14), some (.int (τ14 61 15))]) jM143 c143_160 rfl (Nat.lt_of_lt_of_eq (by decide +kernel : 4 < 5) rfl) rfl).trans ?_
                  rfl
                ·
                  refine (sv_iconst jM143 c143_154 rfl (v := 0) (by decide +kernel)).trans ?_
                  exact sv_zret jM143 c143_155 rfl rfl (by decide +kernel)
              ·
                refine (sv_iconst jM143 c143_128 rfl (v := 0) (by decide +kernel)).trans ?_
                exact sv_zret jM143 c143_129 rfl rfl (by decide +kernel)
          ·
            refine (sv_aload_n jM143 c143_79 rfl rfl).trans ?_
            refine (sv_iload_n jM143 c143_80 rfl rfl).trans ?_
            refine (sv_bipush jM143 c143_81 rfl (v := 108) (by decide +kernel)).trans ?_
            refine (sv_icmp_ne jM143 c143_83 rfl (t := 90) (by decide +kernel)).trans ?_
            refine jif _ ?_ ?_
            ·
              refine (sv_iconst jM143 c143_90 rfl (v := 0) (by decide +kernel)).trans ?_
              refine (sv_putf jM143 c143_91 rfl lf_9_172 (pf_61_16 _ _ (by decide +kernel))).trans ?_
              refine (sv_aload_n jM143 c143_94 rfl rfl).trans ?_
              refine (sv_aload_n jM143 c143_95 rfl rfl).trans ?_
              refine (sv_getf jM143 c143_96 rfl lf_9_169 (fg_61_15 _)).trans ?_
              refine (sv_callvv (pl := 0) jM143 c143_99 rfl (jm_call_v (a := 61) (as := [(.int (τ1 61 15))]) (rest := []) lm_9_176 rfl jM145 rfl rfl rfl rfl rfl) jM145 rfl rfl).trans ?_
              refine jbv_c (fun τ15 => ?_)
              refine (sv_iconst jM143 c143_102 rfl (v := 1) (by decide +kernel)).trans ?_
              exact sv_zret jM143 c143_103 rfl rfl (by decide +kernel)
            ·
              refine (sv_iconst jM143 c143_86 rfl (v := 1) (by decide +kernel)).trans ?_
              refine (sv_goto jM143 c143_87 rfl (t := 91) (by decide +kernel)).trans ?_
              refine (sv_putf jM143 c143_91 rfl lf_9_172 (pf_61_16 _ _ (by decide +kernel))).trans ?_
              refine (sv_aload_n jM143 c143_94 rfl rfl).trans ?_
              refine (sv_aload_n jM143 c143_95 rfl rfl).trans ?_
              refine (sv_getf jM143 c143_96 rfl lf_9_169 (fg_61_15 _)).trans ?_
              refine (sv_callvv (pl := 0) jM143 c143_99 rfl (jm_call_v (a := 61) (as := [(.int (τ1 61 15))]) (rest := []) lm_9_176 rfl jM145 rfl rfl rfl rfl rfl) jM145 rfl rfl).trans ?_
              refine jbv_c (fun τ16 => ?_)
              refine (sv_iconst jM143 c143_102 rfl (v := 1) (by decide +kernel)).trans ?_
              exact sv_zret jM143 c143_103 rfl rfl (by decide +kernel)
        ·
          refine (sv_aload_n jM143 c143_48 rfl rfl).trans ?_
          refine (sv_getf jM143 c143_49 rfl lf_9_169 (fg_61_15 _)).trans ?_
          refine (sv_sipush jM143 c143_52 rfl (v := 200) (by decide +kernel)).trans ?_
          refine (sv_icmp_ge jM143 c143_55 rfl (t := 71) (by decide +kernel)).trans ?_
          refine jif _ ?_ ?_
          ·
            refine (sv_iconst jM143 c143_71 rfl (v := 1) (by decide +kernel)).trans ?_
            exact sv_zret jM143 c143_72 rfl rfl (by decide +kernel)
          ·
            refine (sv_aload_n jM143 c143_58 rfl rfl).trans ?_
            refine (sv_getf jM143 c143_59 rfl lf_9_40 (fg_61_13 _)).trans ?_
            refine (sv_aload_n jM143 c143_62 rfl rfl).trans ?_
            refine (sv_getf jM143 c143_63 rfl lf_9_169 (fg_61_15 _)).trans ?_
            refine (sv_dup2 jM143 c143_66 rfl ⟨rfl, rfl⟩).trans ?_
            refine (sv_iald jM143 c143_67 rfl (ia_72 _)).trans ?_
            refine jif _ rfl ?_
            refine (sv_iconst jM143 c143_68 rfl (v := 1) (by decide +kernel)).trans ?_
            refine (sv_iadd jM143 c143_69 rfl).trans ?_
            refine (sv_iast jM143 c143_70 rfl wi_72).trans ?_
            refine jif _ rfl ?_
            refine (sv_iconst jM143 c143_71 rfl (v := 1) (by decide +kernel)).trans ?_
            exact sv_zret jM143 c143_72 rfl rfl (by decide +kernel)
      ·
        refine (sv_iload_n jM143 c143_24 rfl rfl).trans ?_
        refine (sv_bipush jM143 c143_25 rfl (v := 111) (by decide +kernel)).trans ?_
        refine (sv_icmp_eq jM143 c143_27 rfl (t := 32) (by decide +kernel)).trans ?_
        refine jif _ ?_ ?_
        ·
          refine (sv_aload_n jM143 c143_32 rfl rfl).trans ?_
          refine (sv_dup jM143 c143_33 rfl rfl).trans ?_
          refine (sv_getf jM143 c143_34 rfl lf_9_159 (fg_61_11 _)).trans ?_
          refine (sv_iconst jM143 c143_37 rfl (v := 1) (by decide +kernel)).trans ?_
          refine (sv_iadd jM143 c143_38 rfl).trans ?_
          refine (sv_putf jM143 c143_39 rfl lf_9_159 (pf_61_11 _ _)).trans ?_
          refine (sv_iload_n jM143 c143_42 rfl rfl).trans ?_
          refine (sv_bipush jM143 c143_43 rfl (v := 115) (by decide +kernel)).trans ?_
          refine (sv_icmp_ne jM143 c143_45 rfl (t := 73) (by decide +kernel)).trans ?_
          refine jif _ ?_ ?_
          ·
            refine (sv_iload_n jM143 c143_73 rfl rfl).trans ?_
            refine (sv_bipush jM143 c143_74 rfl (v := 104) (by decide +kernel)).trans ?_
            refine (sv_icmp_eq jM143 c143_76 rfl (t := 104) (by decide +kernel)).trans ?_
            refine jif _ ?_ ?_
            ·
              refine (sv_aload_n jM143 c143_104 rfl rfl).trans ?_
              refine (sv_iconst jM143 c143_105 rfl (v := 0) (by decide +kernel)).trans ?_
              refine (sv_iconst jM143 c143_106 rfl (v := 2) (by decide +kernel)).trans ?_
              refine (sv_iconst jM143 c143_107 rfl (v := 0) (by decide +kernel)).trans ?_
              refine (sv_bipush jM143 c143_108 rfl (v := 99) (by decide +kernel)).trans ?_
              refine (sv_callvi (pl := 0) jM143 c143_110 rfl (jm_call_v (a := 61) (as := [(.int (0 : Int32)), (.int (2 : Int32)), (.int (0 : Int32)), (.int (99 : Int32))]) (rest := []) lm_9_180 rfl jM146 rfl rfl rfl rfl rfl) jM146 rfl (Or.inl rfl)).trans ?_
              refine jbi_c (fun r17 τ17 => ?_)
              refine (sv_istore_n (ls1 := [some (.ref 61), some (.int r1), some (.int r17), none, none]) jM143 c143_113 rfl (Nat.lt_of_lt_of_eq (by decide +kernel : 2 < 5) rfl) rfl).trans ?_
              refine (sv_iload_n jM143 c143_114 rfl rfl).trans ?_
              refine (sv_if_lt jM143 c143_115 rfl (t := 128) (by decide +kernel)).trans ?_
              refine jif _ ?_ ?_
              ·
                refine (sv_iconst jM143 c143_128 rfl (v := 0) (by decide +kernel)).trans ?_
                exact sv_zret jM143 c143_129 rfl rfl (by decide +kernel)
              ·
                refine (sv_aload_n jM143 c143_118 rfl rfl).trans ?_
                refine (sv_iconst jM143 c143_119 rfl (v := 0) (by decide +kernel)).trans ?_
                refine (sv_callvi (pl := 0) jM143 c143_120 rfl (jm_call_v (a := 61) (as := [(.int (0 : Int32))]) (rest := []) lm_9_162 rfl jM144 rfl rfl rfl rfl rfl) jM144 rfl (Or.inl rfl)).trans ?_
                refine jbi_c (fun r18 τ18 => ?_)
                refine (sv_bipush jM143 c143_123 rfl (v := 120) (by decide +kernel)).trans ?_
                refine (sv_icmp_eq jM143 c143_125 rfl (t := 130) (by decide +kernel)).trans ?_
                refine jif _ ?_ ?_
                ·
                  refine (sv_aload_n jM143 c143_130 rfl rfl).trans ?_
                  refine (sv_dup jM143 c143_131 rfl rfl).trans ?_
                  refine (sv_getf jM143 c143_132 rfl lf_9_159 (fg_61_11 _)).trans ?_
                  refine (sv_iconst jM143 c143_135 rfl (v := 1) (by decide +kernel)).trans ?_
                  refine (sv_iadd jM143 c143_136 rfl).trans ?_
                  refine (sv_putf jM143 c143_137 rfl lf_9_159 (pf_61_11 _ _)).trans ?_
                  refine (sv_aload_n jM143 c143_140 rfl rfl).trans ?_
                  refine (sv_iconst jM143 c143_141 rfl (v := 0) (by decide +kernel)).trans ?_
                  refine (sv_iconst jM143 c143_142 rfl (v := 2) (by decide +kernel)).trans ?_
                  refine (sv_iconst jM143 c143_143 rfl (v := 1) (by decide +kernel)).trans ?_
                  refine (sv_bipush jM143 c143_144 rfl (v := 99) (by decide +kernel)).trans ?_
                  refine (sv_callvi (pl := 0) jM143 c143_146 rfl (jm_call_v (a := 61) (as := [(.int (0 : Int32)), (.int (2 : Int32)), (.int (1 : Int32)), (.int (99 : Int32))]) (rest := []) lm_9_180 rfl jM146 rfl rfl rfl rfl rfl) jM146 rfl (Or.inl rfl)).trans ?_
                  refine jbi_c (fun r19 τ19 => ?_)
                  refine (sv_istore_n (ls1 := [some (.ref 61), some (.int r1), some (.int r17), some (.int r19), none]) jM143 c143_149 rfl (Nat.lt_of_lt_of_eq (by decide +kernel : 3 < 5) rfl) rfl).trans ?_
                  refine (sv_iload_n jM143 c143_150 rfl rfl).trans ?_
                  refine (sv_if_ge jM143 c143_151 rfl (t := 156) (by decide +kernel)).trans ?_
                  refine jif _ ?_ ?_
                  ·
                    refine (sv_aload_n jM143 c143_156 rfl rfl).trans ?_
                    refine (sv_getf jM143 c143_157 rfl lf_9_169 (fg_61_15 _)).trans ?_
                    refine (sv_istore (ls1 := [some (.ref 61), some (.int r1), some (.int r17), some (.int r19), some (.int (τ19 61 15))]) jM143 c143_160 rfl (Nat.lt_of_lt_of_eq (by decide +kernel : 4 < 5) rfl) rfl).trans ?_
                    rfl
                  ·
                    refine (sv_iconst jM143 c143_154 rfl (v := 0) (by decide +kernel)).trans ?_
                    exact sv_zret jM143 c143_155 rfl rfl (by decide +kernel)
                ·
                  refine (sv_iconst jM143 c143_128 rfl (v := 0) (by decide +kernel)).trans ?_
                  exact sv_zret jM143 c143_129 rfl rfl (by decide +kernel)
            ·
              refine (sv_aload_n jM143 c143_79 rfl rfl).trans ?_
              refine (sv_iload_n jM143 c143_80 rfl rfl).trans ?_
              refine (sv_bipush jM143 c143_81 rfl (v := 108) (by decide +kernel)).trans ?_
              refine (sv_icmp_ne jM143 c143_83 rfl (t := 90) (by decide +kernel)).trans ?_
              refine jif _ ?_ ?_
              ·
                refine (sv_iconst jM143 c143_90 rfl (v := 0) (by decide +kernel)).trans ?_
                refine (sv_putf jM143 c143_91 rfl lf_9_172 (pf_61_16 _ _ (by decide +kernel))).trans ?_
                refine (sv_aload_n jM143 c143_94 rfl rfl).trans ?_
                refine (sv_aload_n jM143 c143_95 rfl rfl).trans ?_
                refine (sv_getf jM143 c143_96 rfl lf_9_169 (fg_61_15 _)).trans ?_
                refine (sv_callvv (pl := 0) jM143 c143_99 rfl (jm_call_v (a := 61) (as := [(.int (τ1 61 15))]) (rest := []) lm_9_176 rfl jM145 rfl rfl rfl rfl rfl) jM145 rfl rfl).trans ?_
                refine jbv_c (fun τ20 => ?_)
                refine (sv_iconst jM143 c143_102 rfl (v := 1) (by decide +kernel)).trans ?_
                exact sv_zret jM143 c143_103 rfl rfl (by decide +kernel)
              ·
                refine (sv_iconst jM143 c143_86 rfl (v := 1) (by decide +kernel)).trans ?_
                refine (sv_goto jM143 c143_87 rfl (t := 91) (by decide +kernel)).trans ?_
                refine (sv_putf jM143 c143_91 rfl lf_9_172 (pf_61_16 _ _ (by decide +kernel))).trans ?_
                refine (sv_aload_n jM143 c143_94 rfl rfl).trans ?_
                refine (sv_aload_n jM143 c143_95 rfl rfl).trans ?_
                refine (sv_getf jM143 c143_96 rfl lf_9_169 (fg_61_15 _)).trans ?_
                refine (sv_callvv (pl := 0) jM143 c143_99 rfl (jm_call_v (a := 61) (as := [(.int (τ1 61 15))]) (rest := []) lm_9_176 rfl jM145 rfl rfl rfl rfl rfl) jM145 rfl rfl).trans ?_
                refine jbv_c (fun τ21 => ?_)
                refine (sv_iconst jM143 c143_102 rfl (v := 1) (by decide +kernel)).trans ?_
                exact sv_zret jM143 c143_103 rfl rfl (by decide +kernel)
          ·
            refine (sv_aload_n jM143 c143_48 rfl rfl).trans ?_
            refine (sv_getf jM143 c143_49 rfl lf_9_169 (fg_61_15 _)).trans ?_
            refine (sv_sipush jM143 c143_52 rfl (v := 200) (by decide +kernel)).trans ?_
            refine (sv_icmp_ge jM143 c143_55 rfl (t := 71) (by decide +kernel)).trans ?_
            refine jif _ ?_ ?_
            ·
              refine (sv_iconst jM143 c143_71 rfl (v := 1) (by decide +kernel)).trans ?_
              exact sv_zret jM143 c143_72 rfl rfl (by decide +kernel)
            ·
              refine (sv_aload_n jM143 c143_58 rfl rfl).trans ?_
              refine (sv_getf jM143 c143_59 rfl lf_9_40 (fg_61_13 _)).trans ?_
              refine (sv_aload_n jM143 c143_62 rfl rfl).trans ?_
              refine (sv_getf jM143 c143_63 rfl lf_9_169 (fg_61_15 _)).trans ?_
              refine (sv_dup2 jM143 c143_66 rfl ⟨rfl, rfl⟩).trans ?_
              refine (sv_iald jM143 c143_67 rfl (ia_72 _)).trans ?_
              refine jif _ rfl ?_
              refine (sv_iconst jM143 c143_68 rfl (v := 1) (by decide +kernel)).trans ?_
              refine (sv_iadd jM143 c143_69 rfl).trans ?_
              refine (sv_iast jM143 c143_70 rfl wi_72).trans ?_
              refine jif _ rfl ?_
              refine (sv_iconst jM143 c143_71 rfl (v := 1) (by decide +kernel)).trans ?_
              exact sv_zret jM143 c143_72 rfl rfl (by decide +kernel)
        ·
          refine (sv_iconst jM143 c143_30 rfl (v := 0) (by decide +kernel)).trans ?_
          exact sv_zret jM143 c143_31 rfl rfl (by decide +kernel)
set_option maxRecDepth 20000 in
set_option maxHeartbeats 4000000 in
theorem M_readsPanPart_L162 (x1 : Int32) (x2 : Int32) (x3 : Int32) (x4 : Int32) (σ : jm_S) : jv 143 162 [some (.ref 61), some (.int x1), some (.int x2), some (.int x3), some (.int x4)] [] σ = (if ((σ 61 15) + x3) ≤ x4 then some (some (.int (1 : Int32)), (jm_up σ 61 15 ((σ 61 15) + x3))) else (if (200 : Int32) ≤ x4 then some (some (.int (1 : Int32)), (jm_up σ 61 15 ((σ 61 15) + x3))) else (if x4 < 0 ∨ 200 ≤ x4.toNatClampNeg then none else jv 143 162 [some (.ref 61), some (.int x1), some (.int x2), some (.int x3), some (.int (x4 + 1))] [] (jm_up σ 71 x4.toNatClampNeg x2)))) := by
  refine (sv_iload jM143 c143_162 rfl rfl).trans ?_
  refine (sv_aload_n jM143 c143_164 rfl rfl).trans ?_
  refine (sv_getf jM143 c143_165 rfl lf_9_169 (fg_61_15 _)).trans ?_
  refine (sv_iload_n jM143 c143_168 rfl rfl).trans ?_
  refine (sv_iadd jM143 c143_169 rfl).trans ?_
  refine (sv_icmp_ge jM143 c143_170 rfl (t := 195) (by decide +kernel)).trans ?_
  refine jif _ ?_ ?_
  ·
    refine (sv_aload_n jM143 c143_195 rfl rfl).trans ?_
    refine (sv_dup jM143 c143_196 rfl rfl).trans ?_
    refine (sv_getf jM143 c143_197 rfl lf_9_169 (fg_61_15 _)).trans ?_
    refine (sv_iload_n jM143 c143_200 rfl rfl).trans ?_
    refine (sv_iadd jM143 c143_201 rfl).trans ?_
    refine (sv_putf jM143 c143_202 rfl lf_9_169 (pf_61_15 _ _)).trans ?_
    refine (sv_iconst jM143 c143_205 rfl (v := 1) (by decide +kernel)).trans ?_
    exact sv_zret jM143 c143_206 rfl rfl (by decide +kernel)
  ·
    refine (sv_iload jM143 c143_173 rfl rfl).trans ?_
    refine (sv_sipush jM143 c143_175 rfl (v := 200) (by decide +kernel)).trans ?_
    refine (sv_icmp_ge jM143 c143_178 rfl (t := 195) (by decide +kernel)).trans ?_
    refine jif _ ?_ ?_
    ·
      refine (sv_aload_n jM143 c143_195 rfl rfl).trans ?_
      refine (sv_dup jM143 c143_196 rfl rfl).trans ?_
      refine (sv_getf jM143 c143_197 rfl lf_9_169 (fg_61_15 _)).trans ?_
      refine (sv_iload_n jM143 c143_200 rfl rfl).trans ?_
      refine (sv_iadd jM143 c143_201 rfl).trans ?_
      refine (sv_putf jM143 c143_202 rfl lf_9_169 (pf_61_15 _ _)).trans ?_
      refine (sv_iconst jM143 c143_205 rfl (v := 1) (by decide +kernel)).trans ?_
      exact sv_zret jM143 c143_206 rfl rfl (by decide +kernel)
    ·
      refine (sv_aload_n jM143 c143_181 rfl rfl).trans ?_
      refine (sv_getf jM143 c143_182 rfl lf_9_37 (fg_61_12 _)).trans ?_
      refine (sv_iload jM143 c143_185 rfl rfl).trans ?_
      refine (sv_iload_n jM143 c143_187 rfl rfl).trans ?_
      refine (sv_iast jM143 c143_188 rfl wi_71).trans ?_
      refine jif _ rfl ?_
      refine (sv_iinc (ls1 := [some (.ref 61), some (.int x1), some (.int x2), some (.int x3), some (.int (x4 + 1))]) jM143 c143_189 rfl rfl (v := 1) (by decide +kernel) rfl).trans ?_
      refine (sv_goto jM143 c143_192 rfl (t := 162) (by decide +kernel)).trans ?_
      rfl
set_option maxRecDepth 20000 in
set_option maxHeartbeats 4000000 in
theorem M_second_in (x1 : Int32) (σ : jm_S) : jc 154 [(.ref 61), (.int x1)] σ = (if ¬ (σ 61 22) = (-1 : Int32) then (if ¬ (σ 61 23) = x1 then jv 154 35 [some (.ref 61), some (.int x1), some (.int ((0 : Int32) + (0 : Int32))), some (.int (0 : Int32)), none] [] σ else jv 154 35 [some (.ref 61), some (.int x1), some (.int ((0 : Int32) + (1 : Int32))), some (.int (0 : Int32)), none] [] σ) else (if x1 < 0 ∨ 200 ≤ x1.toNatClampNeg then none else (if ¬ (σ 61 23) = x1 then jv 154 35 [some (.ref 61), some (.int x1), some (.int ((σ 72 x1.toNatClampNeg) + (0 : Int32))), some (.int (0 : Int32)), none] [] σ else jv 154 35 [some (.ref 61), some (.int x1), some (.int ((σ 72 x1.toNatClampNeg) + (1 : Int32))), some (.int (0 : Int32)), none] [] σ))) := by
  refine (jc_of (ls1 := [some (.ref 61), some (.int x1), none, none, none]) ((jm_ini_of jM154).trans rfl)).trans ?_
  refine (sv_aload_n jM154 c154_0 rfl rfl).trans ?_
  refine (sv_getf jM154 c154_1 rfl lf_9_212 (fg_61_22 _)).trans ?_
  refine (sv_iconst jM154 c154_4 rfl (v := -1) (by decide +kernel)).trans ?_
  refine (sv_icmp_ne jM154 c154_5 rfl (t := 17) (by decide +kernel)).trans ?_
  refine jif _ ?_ ?_
  ·
    refine (sv_iconst jM154 c154_17 rfl (v := 0) (by decide +kernel)).trans ?_
    refine (sv_aload_n jM154 c154_18 rfl rfl).trans ?_
    refine (sv_getf jM154 c154_19 rfl lf_9_215 (fg_61_23 _)).trans ?_
    refine (sv_iload_n jM154 c154_22 rfl rfl).trans ?_
    refine (sv_icmp_ne jM154 c154_23 rfl (t := 30) (by decide +kernel)).trans ?_
    refine jif _ ?_ ?_
    ·
      refine (sv_iconst jM154 c154_30 rfl (v := 0) (by decide +kernel)).trans ?_
      refine (sv_iadd jM154 c154_31 rfl).trans ?_
      refine (sv_istore_n (ls1 := [some (.ref 61), some (.int x1), some (.int ((0 : Int32) + (0 : Int32))), none, none]) jM154 c154_32 rfl (Nat.lt_of_lt_of_eq (by decide +kernel : 2 < 5) rfl) rfl).trans ?_
      refine (sv_iconst jM154 c154_33 rfl (v := 0) (by decide +kernel)).trans ?_
      refine (sv_istore_n (ls1 := [some (.ref 61), some (.int x1), some (.int ((0 : Int32) + (0 : Int32))), some (.int (0 : Int32)), none]) jM154 c154_34 rfl (Nat.lt_of_lt_of_eq (by decide +kernel : 3 < 5) rfl) rfl).trans ?_
      rfl
    ·
      refine (sv_iconst jM154 c154_26 rfl (v := 1) (by decide +kernel)).trans ?_
      refine (sv_goto jM154 c154_27 rfl (t := 31) (by decide +kernel)).trans ?_
      refine (sv_iadd jM154 c154_31 rfl).trans ?_
      refine (sv_istore_n (ls1 := [some (.ref 61), some (.int x1), some (.int ((0 : Int32) + (1 : Int32))), none, none]) jM154 c154_32 rfl (Nat.lt_of_lt_of_eq (by decide +kernel : 2 < 5) rfl) rfl).trans ?_
      refine (sv_iconst jM154 c154_33 rfl (v := 0) (by decide +kernel)).trans ?_
      refine (sv_istore_n (ls1 := [some (.ref 61), some (.int x1), some (.int ((0 : Int32) + (1 : Int32))), some (.int (0 : Int32)), none]) jM154 c154_34 rfl (Nat.lt_of_lt_of_eq (by decide +kernel : 3 < 5) rfl) rfl).trans ?_
      rfl
  ·
    refine (sv_aload_n jM154 c154_8 rfl rfl).trans ?_
    refine (sv_getf jM154 c154_9 rfl lf_9_40 (fg_61_13 _)).trans ?_
    refine (sv_iload_n jM154 c154_12 rfl rfl).trans ?_
    refine (sv_iald jM154 c154_13 rfl (ia_72 _)).trans ?_
    refine jif _ rfl ?_
    refine (sv_goto jM154 c154_14 rfl (t := 18) (by decide +kernel)).trans ?_
    refine (sv_aload_n jM154 c154_18 rfl rfl).trans ?_
    refine (sv_getf jM154 c154_19 rfl lf_9_215 (fg_61_23 _)).trans ?_
    refine (sv_iload_n jM154 c154_22 rfl rfl).trans ?_
    refine (sv_icmp_ne jM154 c154_23 rfl (t := 30) (by decide +kernel)).trans ?_
    refine jif _ ?_ ?_
    ·
      refine (sv_iconst jM154 c154_30 rfl (v := 0) (by decide +kernel)).trans ?_
      refine (sv_iadd jM154 c154_31 rfl).trans ?_
      refine (sv_istore_n (ls1 := [some (.ref 61), some (.int x1), some (.int ((σ 72 x1.toNatClampNeg) + (0 : Int32))), none, none]) jM154 c154_32 rfl (Nat.lt_of_lt_of_eq (by decide +kernel : 2 < 5) rfl) rfl).trans ?_
      refine (sv_iconst jM154 c154_33 rfl (v := 0) (by decide +kernel)).trans ?_
      refine (sv_istore_n (ls1 := [some (.ref 61), some (.int x1), some (.int ((σ 72 x1.toNatClampNeg) + (0 : Int32))), some (.int (0 : Int32)), none]) jM154 c154_34 rfl (Nat.lt_of_lt_of_eq (by decide +kernel : 3 < 5) rfl) rfl).trans ?_
      rfl
    ·
      refine (sv_iconst jM154 c154_26 rfl (v := 1) (by decide +kernel)).trans ?_
      refine (sv_goto jM154 c154_27 rfl (t := 31) (by decide +kernel)).trans ?_
      refine (sv_iadd jM154 c154_31 rfl).trans ?_
      refine (sv_istore_n (ls1 := [some (.ref 61), some (.int x1), some (.int ((σ 72 x1.toNatClampNeg) + (1 : Int32))), none, none]) jM154 c154_32 rfl (Nat.lt_of_lt_of_eq (by decide +kernel : 2 < 5) rfl) rfl).trans ?_
      refine (sv_iconst jM154 c154_33 rfl (v := 0) (by decide +kernel)).trans ?_
      refine (sv_istore_n (ls1 := [some (.ref 61), some (.int x1), some (.int ((σ 72 x1.toNatClampNeg) + (1 : Int32))), some (.int (0 : Int32)), none]) jM154 c154_34 rfl (Nat.lt_of_lt_of_eq (by decide +kernel : 3 < 5) rfl) rfl).trans ?_
      rfl
set_option maxRecDepth 20000 in
set_option maxHeartbeats 4000000 in
theorem M_second_L35 (x1 : Int32) (x2 : Int32) (x3 : Int32) (σ : jm_S) : jv 154 35 [some (.ref 61), some (.int x1), some (.int x2), some (.int x3), none] [] σ = (if x2 ≤ x3 then (if ¬ (σ 61 22) = (-1 : Int32) then (if ¬ (σ 61 22) = (-1 : Int32) then jbv (jc 156 [(.ref 61), (.int (σ 61 22)), (.int (0 : Int32))] σ) (fun τ1 => jv 154 102 [some (.ref 61), some (.int x1), some (.int x2), some (.int (0 : Int32)), some (.int (0 : Int32))] [] τ1) else (if x1 < 0 ∨ 200 ≤ x1.toNatClampNeg then none else (if (σ 73 x1.toNatClampNeg) = 0 then jbv (jc 156 [(.ref 61), (.int (σ 61 22)), (.int (0 : Int32))] σ) (fun τ2 => jv 154 102 [some (.ref 61), some (.int x1), some (.int x2), some (.int (0 : Int32)), some (.int (0 : Int32))] [] τ2) else jbv (jc 156 [(.ref 61), (.int (σ 61 22)), (.int (1 : Int32))] σ) (fun τ3 => jv 154 102 [some (.ref 61), some (.int x1), some (.int x2), some (.int (0 : Int32)), some (.int (0 : Int32))] [] τ3)))) else (if x1 < 0 ∨ 200 ≤ x1.toNatClampNeg then none else (if ¬ (σ 61 22) = (-1 : Int32) then jbv (jc 156 [(.ref 61), (.int (σ 71 x1.toNatClampNeg)), (.int (0 : Int32))] σ) (fun τ4 => jv 154 102 [some (.ref 61), some (.int x1), some (.int x2), some (.int (0 : Int32)), some (.int (0 : Int32))] [] τ4) else (if x1 < 0 ∨ 200 ≤ x1.toNatClampNeg then none else (if (σ 73 x1.toNatClampNeg) = 0 then jbv (jc 156 [(.ref 61), (.int (σ 71 x1.toNatClampNeg)), (.int (0 : Int32))] σ) (fun τ5 => jv 154 102 [some (.ref 61), some (.int x1), some (.int x2), some (.int (0 : Int32)), some (.int (0 : Int32))] [] τ5) else jbv (jc 156 [(.ref 61), (.int (σ 71 x1.toNatClampNeg)), (.int (1 : Int32))] σ) (fun τ6 => jv 154 102 [some (.ref 61), some (.int x1), some (.int x2), some (.int (0 : Int32)), some (.int (0 : Int32))] [] τ6)))))) else jbv (jc 155 [(.ref 61)] σ) (fun τ7 => jv 154 35 [some (.ref 61), some (.int x1), some (.int x2), some (.int (x3 + 1)), none] [] τ7)) := by
  refine (sv_iload_n jM154 c154_35 rfl rfl).trans ?_
  refine (sv_iload_n jM154 c154_36 rfl rfl).trans ?_
  refine (sv_icmp_ge jM154 c154_37 rfl (t := 50) (by decide +kernel)).trans ?_
  refine jif _ ?_ ?_
  ·
    refine (sv_aload_n jM154 c154_50 rfl rfl).trans ?_
    refine (sv_aload_n jM154 c154_51 rfl rfl).trans ?_
    refine (sv_getf jM154 c154_52 rfl lf_9_212 (fg_61_22 _)).trans ?_
    refine (sv_iconst jM154 c154_55 rfl (v := -1) (by decide +kernel)).trans ?_
    refine (sv_icmp_ne jM154 c154_56 rfl (t := 68) (by decide +kernel)).trans ?_
    refine jif _ ?_ ?_
    ·
      refine (sv_aload_n jM154 c154_68 rfl rfl).trans ?_
      refine (sv_getf jM154 c154_69 rfl lf_9_212 (fg_61_22 _)).trans ?_
      refine (sv_aload_n jM154 c154_72 rfl rfl).trans ?_
      refine (sv_getf jM154 c154_73 rfl lf_9_212 (fg_61_22 _)).trans ?_
      refine (sv_iconst jM154 c154_76 rfl (v := -1) (by decide +kernel)).trans ?_
      refine (sv_icmp_ne jM154 c154_77 rfl (t := 93) (by decide +kernel)).trans ?_
      refine jif _ ?_ ?_
      ·
        refine (sv_iconst jM154 c154_93 rfl (v := 0) (by decide +kernel)).trans ?_
        refine (sv_callvv (pl := 0) jM154 c154_94 rfl (jm_call_v (a := 61) (as := [(.int (σ 61 22)), (.int (0 : Int32))]) (rest := []) lm_9_230 rfl jM156 rfl rfl rfl rfl rfl) jM156 rfl rfl).trans ?_
        refine jbv_c (fun τ1 => ?_)
        refine (sv_iconst jM154 c154_97 rfl (v := 0) (by decide +kernel)).trans ?_
        refine (sv_istore_n (ls1 := [some (.ref 61), some (.int x1), some (.int x2), some (.int (0 : Int32)), none]) jM154 c154_98 rfl (Nat.lt_of_lt_of_eq (by decide +kernel : 3 < 5) rfl) rfl).trans ?_
        refine (sv_iconst jM154 c154_99 rfl (v := 0) (by decide +kernel)).trans ?_
        refine (sv_istore (ls1 := [some (.ref 61), some (.int x1), some (.int x2), some (.int (0 : Int32)), some (.int (0 : Int32))]) jM154 c154_100 rfl (Nat.lt_of_lt_of_eq (by decide +kernel : 4 < 5) rfl) rfl).trans ?_
        rfl
      ·
        refine (sv_aload_n jM154 c154_80 rfl rfl).trans ?_
        refine (sv_getf jM154 c154_81 rfl lf_9_43 (fg_61_14 _)).trans ?_
        refine (sv_iload_n jM154 c154_84 rfl rfl).trans ?_
        refine (sv_bald jM154 c154_85 rfl wi_73).trans ?_
        refine jif _ rfl ?_
        refine (sv_if_eq jM154 c154_86 rfl (t := 93) (by decide +kernel)).trans ?_
        refine jif _ ?_ ?_
        ·
          refine (sv_iconst jM154 c154_93 rfl (v := 0) (by decide +kernel)).trans ?_
          refine (sv_callvv (pl := 0) jM154 c154_94 rfl (jm_call_v (a := 61) (as := [(.int (σ 61 22)), (.int (0 : Int32))]) (rest := []) lm_9_230 rfl jM156 rfl rfl rfl rfl rfl) jM156 rfl rfl).trans ?_
          refine jbv_c (fun τ2 => ?_)
          refine (sv_iconst jM154 c154_97 rfl (v := 0) (by decide +kernel)).trans ?_
          refine (sv_istore_n (ls1 := [some (.ref 61), some (.int x1), some (.int x2), some (.int (0 : Int32)), none]) jM154 c154_98 rfl (Nat.lt_of_lt_of_eq (by decide +kernel : 3 < 5) rfl) rfl).trans ?_
          refine (sv_iconst jM154 c154_99 rfl (v := 0) (by decide +kernel)).trans ?_
          refine (sv_istore (ls1 := [some (.ref 61), some (.int x1), some (.int x2), some (.int (0 : Int32)), some (.int (0 : Int32))]) jM154 c154_100 rfl (Nat.lt_of_lt_of_eq (by decide +kernel : 4 < 5) rfl) rfl).trans ?_
          rfl
        ·
          refine (sv_iconst jM154 c154_89 rfl (v := 1) (by decide +kernel)).trans ?_
          refine (sv_goto jM154 c154_90 rfl (t := 94) (by decide +kernel)).trans ?_
          refine (sv_callvv (pl := 0) jM154 c154_94 rfl (jm_call_v (a := 61) (as := [(.int (σ 61 22)), (.int (1 : Int32))]) (rest := []) lm_9_230 rfl jM156 rfl rfl rfl rfl rfl) jM156 rfl rfl).trans ?_
          refine jbv_c (fun τ3 => ?_)
          refine (sv_iconst jM154 c154_97 rfl (v := 0) (by decide +kernel)).trans ?_
          refine (sv_istore_n (ls1 := [some (.ref 61), some (.int x1), some (.int x2), some (.int (0 : Int32)), none]) jM154 c154_98 rfl (Nat.lt_of_lt_of_eq (by decide +kernel : 3 < 5) rfl) rfl).trans ?_
          refine (sv_iconst jM154 c154_99 rfl (v := 0) (by decide +kernel)).trans ?_
          refine (sv_istore (ls1 := [some (.ref 61), some (.int x1), some (.int x2), some (.int (0 : Int32)), some (.int (0 : Int32))]) jM154 c154_100 rfl (Nat.lt_of_lt_of_eq (by decide +kernel : 4 < 5) rfl) rfl).trans ?_
          rfl
    ·
      refine (sv_aload_n jM154 c154_59 rfl rfl).trans ?_
      refine (sv_getf jM154 c154_60 rfl lf_9_37 (fg_61_12 _)).trans ?_
      refine (sv_iload_n jM154 c154_63 rfl rfl).trans ?_
      refine (sv_iald jM154 c154_64 rfl (ia_71 _)).trans ?_
      refine jif _ rfl ?_
      refine (sv_goto jM154 c154_65 rfl (t := 72) (by decide +kernel)).trans ?_
      refine (sv_aload_n jM154 c154_72 rfl rfl).trans ?_
      refine (sv_getf jM154 c154_73 rfl lf_9_212 (fg_61_22 _)).trans ?_
      refine (sv_iconst jM154 c154_76 rfl (v := -1) (by decide +kernel)).trans ?_
      refine (sv_icmp_ne jM154 c154_77 rfl (t := 93) (by decide +kernel)).trans ?_
      refine jif _ ?_ ?_
      ·
        refine (sv_iconst jM154 c154_93 rfl (v := 0) (by decide +kernel)).trans ?_
        refine (sv_callvv (pl := 0) jM154 c154_94 rfl (jm_call_v (a := 61) (as := [(.int (σ 71 x1.toNatClampNeg)), (.int (0 : Int32))]) (rest := []) lm_9_230 rfl jM156 rfl rfl rfl rfl rfl) jM156 rfl rfl).trans ?_
        refine jbv_c (fun τ4 => ?_)
        refine (sv_iconst jM154 c154_97 rfl (v := 0) (by decide +kernel)).trans ?_
        refine (sv_istore_n (ls1 := [some (.ref 61), some (.int x1), some (.int x2), some (.int (0 : Int32)), none]) jM154 c154_98 rfl (Nat.lt_of_lt_of_eq (by decide +kernel : 3 < 5) rfl) rfl).trans ?_
        refine (sv_iconst jM154 c154_99 rfl (v := 0) (by decide +kernel)).trans ?_
        refine (sv_istore (ls1 := [some (.ref 61), some (.int x1), some (.int x2), some (.int (0 : Int32)), some (.int (0 : Int32))]) jM154 c154_100 rfl (Nat.lt_of_lt_of_eq (by decide +kernel : 4 < 5) rfl) rfl).trans ?_
        rfl
      ·
        refine (sv_aload_n jM154 c154_80 rfl rfl).trans ?_
        refine (sv_getf jM154 c154_81 rfl lf_9_43 (fg_61_14 _)).trans ?_
        refine (sv_iload_n jM154 c154_84 rfl rfl).trans ?_
        refine (sv_bald jM154 c154_85 rfl wi_73).trans ?_
        refine jif _ rfl ?_
        refine (sv_if_eq jM154 c154_86 rfl (t := 93) (by decide +kernel)).trans ?_
        refine jif _ ?_ ?_
        ·
          refine (sv_iconst jM154 c154_93 rfl (v := 0) (by decide +kernel)).trans ?_
          refine (sv_callvv (pl := 0) jM154 c154_94 rfl (jm_call_v (a := 61) (as := [(.int (σ 71 x1.toNatClampNeg)), (.int (0 : Int32))]) (rest := []) lm_9_230 rfl jM156 rfl rfl rfl rfl rfl) jM156 rfl rfl).trans ?_
          refine jbv_c (fun τ5 => ?_)
          refine (sv_iconst jM154 c154_97 rfl (v := 0) (by decide +kernel)).trans ?_
          refine (sv_istore_n (ls1 := [some (.ref 61), some (.int x1), some (.int x2), some (.int (0 : Int32)), none]) jM154 c154_98 rfl (Nat.lt_of_lt_of_eq (by decide +kernel : 3 < 5) rfl) rfl).trans ?_
          refine (sv_iconst jM154 c154_99 rfl (v := 0) (by decide +kernel)).trans ?_
          refine (sv_istore (ls1 := [some (.ref 61), some (.int x1), some (.int x2), some (.int (0 : Int32)), some (.int (0 : Int32))]) jM154 c154_100 rfl (Nat.lt_of_lt_of_eq (by decide +kernel : 4 < 5) rfl) rfl).trans ?_
          rfl
        ·
          refine (sv_iconst jM154 c154_89 rfl (v := 1) (by decide +kernel)).trans ?_
          refine (sv_goto jM154 c154_90 rfl (t := 94) (by decide +kernel)).trans ?_
          refine (sv_callvv (pl := 0) jM154 c154_94 rfl (jm_call_v (a := 61) (as := [(.int (σ 71 x1.toNatClampNeg)), (.int (1 : Int32))]) (rest := []) lm_9_230 rfl jM156 rfl rfl rfl rfl rfl) jM156 rfl rfl).trans ?_
          refine jbv_c (fun τ6 => ?_)
          refine (sv_iconst jM154 c154_97 rfl (v := 0) (by decide +kernel)).trans ?_
          refine (sv_istore_n (ls1 := [some (.ref 61), some (.int x1), some (.int x2), some (.int (0 : Int32)), none]) jM154 c154_98 rfl (Nat.lt_of_lt_of_eq (by decide +kernel : 3 < 5) rfl) rfl).trans ?_
          refine (sv_iconst jM154 c154_99 rfl (v := 0) (by decide +kernel)).trans ?_
          refine (sv_istore (ls1 := [some (.ref 61), some (.int x1), some (.int x2), some (.int (0 : Int32)), some (.int (0 : Int32))]) jM154 c154_100 rfl (Nat.lt_of_lt_of_eq (by decide +kernel : 4 < 5) rfl) rfl).trans ?_
          rfl
  ·
    refine (sv_aload_n jM154 c154_40 rfl rfl).trans ?_
    refine (sv_callvv (pl := 0) jM154 c154_41 rfl (jm_call_v (a := 61) (as := []) (rest := []) lm_9_227 rfl jM155 rfl rfl rfl rfl rfl) jM155 rfl rfl).trans ?_
    refine jbv_c (fun τ7 => ?_)
    refine (sv_iinc (ls1 := [some (.ref 61), some (.int x1), some (.int x2), some (.int (x3 + 1)), none]) jM154 c154_44 rfl rfl (v := 1) (by decide +kernel) rfl).trans ?_
    refine (sv_goto jM154 c154_47 rfl (t := 35) (by decide +kernel)).trans ?_
    rfl
set_option maxRecDepth 20000 in
set_option maxHeartbeats 4000000 in
theorem M_second_L102 (x1 : Int32) (x2 : Int32) (x3 : Int32) (x4 : Int32) (σ : jm_S) : jv 154 102 [some (.ref 61), some (.int x1), some (.int x2), some (.int x3), some (.int x4)] [] σ = (if (σ 61 5) ≤ x4 then (if x1 < 0 ∨ 200 ≤ x1.toNatClampNeg then none else jbv (jc 159 [(.ref 61)] (jm_up σ 84 x1.toNatClampNeg x3)) (fun τ1 => some (none, τ1))) else jbi (jc 153 [(.ref 61), (.int x4)] σ) (fun r2 τ2 => (if r2 = 0 then jv 154 102 [some (.ref 61), some (.int x1), some (.int x2), some (.int x3), some (.int (x4 + 1))] [] τ2 else (if x4 < 0 ∨ 12 ≤ x4.toNatClampNeg then none else (if ¬ (τ2 79 x4.toNatClampNeg) = 0 then jv 154 102 [some (.ref 61), some (.int x1), some (.int x2), some (.int x3), some (.int (x4 + 1))] [] τ2 else jbi (jc 157 [(.ref 61), (.int x4), (.int x1)] τ2) (fun r3 τ3 => (if r3 = 0 then jv 154 102 [some (.ref 61), some (.int x1), some (.int x2), some (.int x3), some (.int (x4 + 1))] [] τ3 else jv 154 102 [some (.ref 61), some (.int x1), some (.int x2), some (.int (x3 + 1)), some (.int (x4 + 1))] [] τ3))))))) := by
  refine (sv_iload jM154 c154_102 rfl rfl).trans ?_
  refine (sv_aload_n jM154 c154_104 rfl rfl).trans ?_
  refine (sv_getf jM154 c154_105 rfl lf_9_124 (fg_61_5 _)).trans ?_
  refine (sv_icmp_ge jM154 c154_108 rfl (t := 149) (by decide +kernel)).trans ?_
  refine jif _ ?_ ?_
  ·
    refine (sv_aload_n jM154 c154_149 rfl rfl).trans ?_
    refine (sv_getf jM154 c154_150 rfl lf_9_77 (fg_61_33 _)).trans ?_
    refine (sv_iload_n jM154 c154_153 rfl rfl).trans ?_
    refine (sv_iload_n jM154 c154_154 rfl rfl).trans ?_
    refine (sv_iast jM154 c154_155 rfl wi_84).trans ?_
    refine jif _ rfl ?_
    refine (sv_aload_n jM154 c154_156 rfl rfl).trans ?_
    refine (sv_callvv (pl := 0) jM154 c154_157 rfl (jm_call_v (a := 61) (as := []) (rest := []) lm_9_237 rfl jM159 rfl rfl rfl rfl rfl) jM159 rfl rfl).trans ?_
    refine jbv_c (fun τ1 => ?_)
    exact sv_vret jM154 c154_160 rfl rfl
  ·
    refine (sv_aload_n jM154 c154_111 rfl rfl).trans ?_
    refine (sv_iload jM154 c154_112 rfl rfl).trans ?_
    refine (sv_callvi (pl := 0) jM154 c154_114 rfl (jm_call_v (a := 61) (as := [(.int x4)]) (rest := []) lm_9_221 rfl jM153 rfl rfl rfl rfl rfl) jM153 rfl (Or.inr rfl)).trans ?_
    refine jbi_c (fun r2 τ2 => ?_)
    refine (sv_if_eq jM154 c154_117 rfl (t := 143) (by decide +kernel)).trans ?_
    refine jif _ ?_ ?_
    ·
      refine (sv_iinc (ls1 := [some (.ref 61), some (.int x1), some (.int x2), some (.int x3), some (.int (x4 + 1))]) jM154 c154_143 rfl rfl (v := 1) (by decide +kernel) rfl).trans ?_
      refine (sv_goto jM154 c154_146 rfl (t := 102) (by decide +kernel)).trans ?_
      rfl
    ·
      refine (sv_aload_n jM154 c154_120 rfl rfl).trans ?_
      refine (sv_getf jM154 c154_121 rfl lf_9_62 (fg_61_28 _)).trans ?_
      refine (sv_iload jM154 c154_124 rfl rfl).trans ?_
      refine (sv_iald jM154 c154_126 rfl (ia_79 _)).trans ?_
      refine jif _ rfl ?_
      refine (sv_if_ne jM154 c154_127 rfl (t := 143) (by decide +kernel)).trans ?_
      refine jif _ ?_ ?_
      ·
        refine (sv_iinc (ls1 := [some (.ref 61), some (.int x1), some (.int x2), some (.int x3), some (.int (x4 + 1))]) jM154 c154_143 rfl rfl (v := 1) (by decide +kernel) rfl).trans ?_
        refine (sv_goto jM154 c154_146 rfl (t := 102) (by decide +kernel)).trans ?_
        rfl
      ·
        refine (sv_aload_n jM154 c154_130 rfl rfl).trans ?_
        refine (sv_iload jM154 c154_131 rfl rfl).trans ?_
        refine (sv_iload_n jM154 c154_133 rfl rfl).trans ?_
        refine (sv_callvi (pl := 0) jM154 c154_134 rfl (jm_call_v (a := 61) (as := [(.int x4), (.int x1)]) (rest := []) lm_9_234 rfl jM157 rfl rfl rfl rfl rfl) jM157 rfl (Or.inr rfl)).trans ?_
        refine jbi_c (fun r3 τ3 => ?_)
        refine (sv_if_eq jM154 c154_137 rfl (t := 143) (by decide +kernel)).trans ?_
        refine jif _ ?_ ?_
        ·
          refine (sv_iinc (ls1 := [some (.ref 61), some (.int x1), some (.int x2), some (.int x3), some (.int (x4 + 1))]) jM154 c154_143 rfl rfl (v := 1) (by decide +kernel) rfl).trans ?_
          refine (sv_goto jM154 c154_146 rfl (t := 102) (by decide +kernel)).trans ?_
          rfl
        ·
          refine (sv_iinc (ls1 := [some (.ref 61), some (.int x1), some (.int x2), some (.int (x3 + 1)), some (.int x4)]) jM154 c154_140 rfl rfl (v := 1) (by decide +kernel) rfl).trans ?_
          refine (sv_iinc (ls1 := [some (.ref 61), some (.int x1), some (.int x2), some (.int (x3 + 1)), some (.int (x4 + 1))]) jM154 c154_143 rfl rfl (v := 1) (by decide +kernel) rfl).trans ?_
          refine (sv_goto jM154 c154_146 rfl (t := 102) (by decide +kernel)).trans ?_
          rfl
set_option maxRecDepth 20000 in
set_option maxHeartbeats 4000000 in
theorem M_begins_in (σ : jm_S) : jc 152 [(.ref 61)] σ = jv 152 2 [some (.ref 61), some (.int (0 : Int32)), none] [] σ := by
  refine (jc_of (ls1 := [some (.ref 61), none, none]) ((jm_ini_of jM152).trans rfl)).trans ?_
  refine (sv_iconst jM152 c152_0 rfl (v := 0) (by decide +kernel)).trans ?_
  refine (sv_istore_n (ls1 := [some (.ref 61), some (.int (0 : Int32)), none]) jM152 c152_1 rfl (Nat.lt_of_lt_of_eq (by decide +kernel : 1 < 3) rfl) rfl).trans ?_
  rfl
set_option maxRecDepth 20000 in
set_option maxHeartbeats 4000000 in
theorem M_begins_L2 (x1 : Int32) (σ : jm_S) : jv 152 2 [some (.ref 61), some (.int x1), none] [] σ = (if (4 : Int32) ≤ x1 then jv 152 22 [some (.ref 61), some (.int (0 : Int32)), none] [] σ else (if x1 < 0 ∨ 4 ≤ x1.toNatClampNeg then none else jv 152 2 [some (.ref 61), some (.int (x1 + 1)), none] [] (jm_up σ 83 x1.toNatClampNeg (0 : Int32)))) := by
  refine (sv_iload_n jM152 c152_2 rfl rfl).trans ?_
  refine (sv_iconst jM152 c152_3 rfl (v := 4) (by decide +kernel)).trans ?_
  refine (sv_icmp_ge jM152 c152_4 rfl (t := 20) (by decide +kernel)).trans ?_
  refine jif _ ?_ ?_
  ·
    refine (sv_iconst jM152 c152_20 rfl (v := 0) (by decide +kernel)).trans ?_
    refine (sv_istore_n (ls1 := [some (.ref 61), some (.int (0 : Int32)), none]) jM152 c152_21 rfl (Nat.lt_of_lt_of_eq (by decide +kernel : 1 < 3) rfl) rfl).trans ?_
    rfl
  ·
    refine (sv_aload_n jM152 c152_7 rfl rfl).trans ?_
    refine (sv_getf jM152 c152_8 rfl lf_9_74 (fg_61_32 _)).trans ?_
    refine (sv_iload_n jM152 c152_11 rfl rfl).trans ?_
    refine (sv_iconst jM152 c152_12 rfl (v := 0) (by decide +kernel)).trans ?_
    refine (sv_iast jM152 c152_13 rfl wi_83).trans ?_
    refine jif _ rfl ?_
    refine (sv_iinc (ls1 := [some (.ref 61), some (.int (x1 + 1)), none]) jM152 c152_14 rfl rfl (v := 1) (by decide +kernel) rfl).trans ?_
    refine (sv_goto jM152 c152_17 rfl (t := 2) (by decide +kernel)).trans ?_
    rfl
set_option maxRecDepth 20000 in
set_option maxHeartbeats 4000000 in
theorem M_begins_L22 (x1 : Int32) (u2 : Option Value) (σ : jm_S) : jv 152 22 [some (.ref 61), some (.int x1), u2] [] σ = (if (σ 61 5) ≤ x1 then some (none, σ) else (if x1 < 0 ∨ 12 ≤ x1.toNatClampNeg then none else (if ((4 : Int32) * x1) < 0 ∨ 48 ≤ ((4 : Int32) * x1).toNatClampNeg then none else (if x1 < 0 ∨ 12 ≤ x1.toNatClampNeg then none else (if x1 < 0 ∨ 12 ≤ x1.toNatClampNeg then none else (if x1 < 0 ∨ 12 ≤ x1.toNatClampNeg then none else (if x1 < 0 ∨ 12 ≤ x1.toNatClampNeg then none else (if x1 < 0 ∨ 12 ≤ x1.toNatClampNeg then none else jbi (jc 153 [(.ref 61), (.int x1)] (jm_up (jm_up (jm_up (jm_up (jm_up (jm_up σ 76 x1.toNatClampNeg (0 : Int32)) 77 x1.toNatClampNeg (σ 67 ((4 : Int32) * x1).toNatClampNeg)) 78 x1.toNatClampNeg (0 : Int32)) 79 x1.toNatClampNeg (0 : Int32)) 80 x1.toNatClampNeg (-1 : Int32)) 81 x1.toNatClampNeg (0 : Int32))) (fun r1 τ1 => (if r1 = 0 then jv 152 22 [some (.ref 61), some (.int (x1 + 1)), u2] [] τ1 else (if x1 < 0 ∨ 12 ≤ x1.toNatClampNeg then none else (if (τ1 66 x1.toNatClampNeg) < 0 ∨ 4 ≤ (τ1 66 x1.toNatClampNeg).toNatClampNeg then none else (if (((12 : Int32) * (τ1 66 x1.toNatClampNeg)) + (τ1 83 (τ1 66 x1.toNatClampNeg).toNatClampNeg)) < 0 ∨ 48 ≤ (((12 : Int32) * (τ1 66 x1.toNatClampNeg)) + (τ1 83 (τ1 66 x1.toNatClampNeg).toNatClampNeg)).toNatClampNeg then none else (if (τ1 66 x1.toNatClampNeg) < 0 ∨ 4 ≤ (τ1 66 x1.toNatClampNeg).toNatClampNeg then none else (if (τ1 66 x1.toNatClampNeg) < 0 ∨ 4 ≤ (τ1 66 x1.toNatClampNeg).toNatClampNeg then none else jv 152 22 [some (.ref 61), some (.int (x1 + 1)), some (.int (τ1 66 x1.toNatClampNeg))] [] (jm_up (jm_up τ1 82 (((12 : Int32) * (τ1 66 x1.toNatClampNeg)) + (τ1 83 (τ1 66 x1.toNatClampNeg).toNatClampNeg)).toNatClampNeg x1) 83 (τ1 66 x1.toNatClampNeg).toNatClampNeg ((τ1 83 (τ1 66 x1.toNatClampNeg).toNatClampNeg) + (1 : Int32)))))))))))))))))) := by
  refine (sv_iload_n jM152 c152_22 rfl rfl).trans ?_
  refine (sv_aload_n jM152 c152_23 rfl rfl).trans ?_
  refine (sv_getf jM152 c152_24 rfl lf_9_124 (fg_61_5 _)).trans ?_
  refine (sv_icmp_ge jM152 c152_27 rfl (t := 127) (by decide +kernel)).trans ?_
  refine jif _ ?_ ?_
  ·
    exact sv_vret jM152 c152_127 rfl rfl
  ·
    refine (sv_aload_n jM152 c152_30 rfl rfl).trans ?_
    refine (sv_getf jM152 c152_31 rfl lf_9_53 (fg_61_25 _)).trans ?_
    refine (sv_iload_n jM152 c152_34 rfl rfl).trans ?_
    refine (sv_iconst jM152 c152_35 rfl (v := 0) (by decide +kernel)).trans ?_
    refine (sv_iast jM152 c152_36 rfl wi_76).trans ?_
    refine jif _ rfl ?_
    refine (sv_aload_n jM152 c152_37 rfl rfl).trans ?_
    refine (sv_getf jM152 c152_38 rfl lf_9_56 (fg_61_26 _)).trans ?_
    refine (sv_iload_n jM152 c152_41 rfl rfl).trans ?_
    refine (sv_aload_n jM152 c152_42 rfl rfl).trans ?_
    refine (sv_getf jM152 c152_43 rfl lf_9_25 (fg_61_7 _)).trans ?_
    refine (sv_iconst jM152 c152_46 rfl (v := 4) (by decide +kernel)).trans ?_
    refine (sv_iload_n jM152 c152_47 rfl rfl).trans ?_
    refine (sv_imul jM152 c152_48 rfl).trans ?_
    refine (sv_iald jM152 c152_49 rfl (ia_67 _)).trans ?_
    refine jif _ rfl ?_
    refine (sv_iast jM152 c152_50 rfl wi_77).trans ?_
    refine jif _ rfl ?_
    refine (sv_aload_n jM152 c152_51 rfl rfl).trans ?_
    refine (sv_getf jM152 c152_52 rfl lf_9_59 (fg_61_27 _)).trans ?_
    refine (sv_iload_n jM152 c152_55 rfl rfl).trans ?_
    refine (sv_iconst jM152 c152_56 rfl (v := 0) (by decide +kernel)).trans ?_
    refine (sv_iast jM152 c152_57 rfl wi_78).trans ?_
    refine jif _ rfl ?_
    refine (sv_aload_n jM152 c152_58 rfl rfl).trans ?_
    refine (sv_getf jM152 c152_59 rfl lf_9_62 (fg_61_28 _)).trans ?_
    refine (sv_iload_n jM152 c152_62 rfl rfl).trans ?_
    refine (sv_iconst jM152 c152_63 rfl (v := 0) (by decide +kernel)).trans ?_
    refine (sv_iast jM152 c152_64 rfl wi_79).trans ?_
    refine jif _ rfl ?_
    refine (sv_aload_n jM152 c152_65 rfl rfl).trans ?_
    refine (sv_getf jM152 c152_66 rfl lf_9_65 (fg_61_29 _)).trans ?_
    refine (sv_iload_n jM152 c152_69 rfl rfl).trans ?_
    refine (sv_iconst jM152 c152_70 rfl (v := -1) (by decide +kernel)).trans ?_
    refine (sv_iast jM152 c152_71 rfl wi_80).trans ?_
    refine jif _ rfl ?_
    refine (sv_aload_n jM152 c152_72 rfl rfl).trans ?_
    refine (sv_getf jM152 c152_73 rfl lf_9_68 (fg_61_30 _)).trans ?_
    refine (sv_iload_n jM152 c152_76 rfl rfl).trans ?_
    refine (sv_iconst jM152 c152_77 rfl (v := 0) (by decide +kernel)).trans ?_
    refine (sv_iast jM152 c152_78 rfl wi_81).trans ?_
    refine jif _ rfl ?_
    refine (sv_aload_n jM152 c152_79 rfl rfl).trans ?_
    refine (sv_iload_n jM152 c152_80 rfl rfl).trans ?_
    refine (sv_callvi (pl := 0) jM152 c152_81 rfl (jm_call_v (a := 61) (as := [(.int x1)]) (rest := []) lm_9_221 rfl jM153 rfl rfl rfl rfl rfl) jM153 rfl (Or.inr rfl)).trans ?_
    refine jbi_c (fun r1 τ1 => ?_)
    refine (sv_if_eq jM152 c152_84 rfl (t := 121) (by decide +kernel)).trans ?_
    refine jif _ ?_ ?_
    ·
      refine (sv_iinc (ls1 := [some (.ref 61), some (.int (x1 + 1)), u2]) jM152 c152_121 rfl rfl (v := 1) (by decide +kernel) rfl).trans ?_
      refine (sv_goto jM152 c152_124 rfl (t := 22) (by decide +kernel)).trans ?_
      rfl
    ·
      refine (sv_aload_n jM152 c152_87 rfl rfl).trans ?_
      refine (sv_getf jM152 c152_88 rfl lf_9_22 (fg_61_6 _)).trans ?_
      refine (sv_iload_n jM152 c152_91 rfl rfl).trans ?_
      refine (sv_iald jM152 c152_92 rfl (ia_66 _)).trans ?_
      refine jif _ rfl ?_
      refine (sv_istore_n (ls1 := [some (.ref 61), some (.int x1), some (.int (τ1 66 x1.toNatClampNeg))]) jM152 c152_93 rfl (Nat.lt_of_lt_of_eq (by decide +kernel : 2 < 3) rfl) rfl).trans ?_
      refine (sv_aload_n jM152 c152_94 rfl rfl).trans ?_
      refine (sv_getf jM152 c152_95 rfl lf_9_71 (fg_61_31 _)).trans ?_
      refine (sv_bipush jM152 c152_98 rfl (v := 12) (by decide +kernel)).trans ?_
      refine (sv_iload_n jM152 c152_100 rfl rfl).trans ?_
      refine (sv_imul jM152 c152_101 rfl).trans ?_
      refine (sv_aload_n jM152 c152_102 rfl rfl).trans ?_
      refine (sv_getf jM152 c152_103 rfl lf_9_74 (fg_61_32 _)).trans ?_
      refine (sv_iload_n jM152 c152_106 rfl rfl).trans ?_
      refine (sv_iald jM152 c152_107 rfl (ia_83 _)).trans ?_
      refine jif _ rfl ?_
      refine (sv_iadd jM152 c152_108 rfl).trans ?_
      refine (sv_iload_n jM152 c152_109 rfl rfl).trans ?_
      refine (sv_iast jM152 c152_110 rfl wi_82).trans ?_
      refine jif _ rfl ?_
      refine (sv_aload_n jM152 c152_111 rfl rfl).trans ?_
      refine (sv_getf jM152 c152_112 rfl lf_9_74 (fg_61_32 _)).trans ?_
      refine (sv_iload_n jM152 c152_115 rfl rfl).trans ?_
      refine (sv_dup2 jM152 c152_116 rfl ⟨rfl, rfl⟩).trans ?_
      refine (sv_iald jM152 c152_117 rfl (ia_83 _)).trans ?_
      refine jif _ rfl ?_
      refine (sv_iconst jM152 c152_118 rfl (v := 1) (by decide +kernel)).trans ?_
      refine (sv_iadd jM152 c152_119 rfl).trans ?_
      refine (sv_iast jM152 c152_120 rfl wi_83).trans ?_
      refine jif _ rfl ?_
      refine (sv_iinc (ls1 := [some (.ref 61), some (.int (x1 + 1)), some (.int (τ1 66 x1.toNatClampNeg))]) jM152 c152_121 rfl rfl (v := 1) (by decide +kernel) rfl).trans ?_
      refine (sv_goto jM152 c152_124 rfl (t := 22) (by decide +kernel)).trans ?_
      rfl
set_option maxRecDepth 20000 in
set_option maxHeartbeats 4000000 in
theorem M_browned_in (x1 : Int32) (σ : jm_S) : jc 170 [(.ref 61), (.int x1)] σ = jv 170 4 [some (.ref 61), some (.int x1), some (.int (0 : Int32)), some (.int (0 : Int32))] [] σ := by
  refine (jc_of (ls1 := [some (.ref 61), some (.int x1), none, none]) ((jm_ini_of jM170).trans rfl)).trans ?_
  refine (sv_iconst jM170 c170_0 rfl (v := 0) (by decide +kernel)).trans ?_
  refine (sv_istore_n (ls1 := [some (.ref 61), some (.int x1), some (.int (0 : Int32)), none]) jM170 c170_1 rfl (Nat.lt_of_lt_of_eq (by decide +kernel : 2 < 4) rfl) rfl).trans ?_
  refine (sv_iconst jM170 c170_2 rfl (v := 0) (by decide +kernel)).trans ?_
  refine (sv_istore_n (ls1 := [some (.ref 61), some (.int x1), some (.int (0 : Int32)), some (.int (0 : Int32))]) jM170 c170_3 rfl (Nat.lt_of_lt_of_eq (by decide +kernel : 3 < 4) rfl) rfl).trans ?_
  rfl
set_option maxRecDepth 20000 in
set_option maxHeartbeats 4000000 in
theorem M_browned_L4 (x1 : Int32) (x2 : Int32) (x3 : Int32) (σ : jm_S) : jv 170 4 [some (.ref 61), some (.int x1), some (.int x2), some (.int x3)] [] σ = (if (σ 61 5) ≤ x3 then some (some (.int x2), σ) else (if x3 < 0 ∨ 12 ≤ x3.toNatClampNeg then none else (if ¬ (σ 79 x3.toNatClampNeg) = (1 : Int32) then jv 170 4 [some (.ref 61), some (.int x1), some (.int (x2 + (0 : Int32))), some (.int (x3 + 1))] [] σ else (if x3 < 0 ∨ 12 ≤ x3.toNatClampNeg then none else (if (x1 - (σ 80 x3.toNatClampNeg)) ≤ (σ 68 2) then jv 170 4 [some (.ref 61), some (.int x1), some (.int (x2 + (0 : Int32))), some (.int (x3 + 1))] [] σ else jv 170 4 [some (.ref 61), some (.int x1), some (.int (x2 + (1 : Int32))), some (.int (x3 + 1))] [] σ))))) := by
  refine (sv_iload_n jM170 c170_4 rfl rfl).trans ?_
  refine (sv_aload_n jM170 c170_5 rfl rfl).trans ?_
  refine (sv_getf jM170 c170_6 rfl lf_9_124 (fg_61_5 _)).trans ?_
  refine (sv_icmp_ge jM170 c170_9 rfl (t := 53) (by decide +kernel)).trans ?_
  refine jif _ ?_ ?_
  ·
    refine (sv_iload_n jM170 c170_53 rfl rfl).trans ?_
    exact sv_iret jM170 c170_54 rfl rfl
  ·
    refine (sv_iload_n jM170 c170_12 rfl rfl).trans ?_
    refine (sv_aload_n jM170 c170_13 rfl rfl).trans ?_
    refine (sv_getf jM170 c170_14 rfl lf_9_62 (fg_61_28 _)).trans ?_
    refine (sv_iload_n jM170 c170_17 rfl rfl).trans ?_
    refine (sv_iald jM170 c170_18 rfl (ia_79 _)).trans ?_
    refine jif _ rfl ?_
    refine (sv_iconst jM170 c170_19 rfl (v := 1) (by decide +kernel)).trans ?_
    refine (sv_icmp_ne jM170 c170_20 rfl (t := 44) (by decide +kernel)).trans ?_
    refine jif _ ?_ ?_
    ·
      refine (sv_iconst jM170 c170_44 rfl (v := 0) (by decide +kernel)).trans ?_
      refine (sv_iadd jM170 c170_45 rfl).trans ?_
      refine (sv_istore_n (ls1 := [some (.ref 61), some (.int x1), some (.int (x2 + (0 : Int32))), some (.int x3)]) jM170 c170_46 rfl (Nat.lt_of_lt_of_eq (by decide +kernel : 2 < 4) rfl) rfl).trans ?_
      refine (sv_iinc (ls1 := [some (.ref 61), some (.int x1), some (.int (x2 + (0 : Int32))), some (.int (x3 + 1))]) jM170 c170_47 rfl rfl (v := 1) (by decide +kernel) rfl).trans ?_
      refine (sv_goto jM170 c170_50 rfl (t := 4) (by decide +kernel)).trans ?_
      rfl
    ·
      refine (sv_iload_n jM170 c170_23 rfl rfl).trans ?_
      refine (sv_aload_n jM170 c170_24 rfl rfl).trans ?_
      refine (sv_getf jM170 c170_25 rfl lf_9_65 (fg_61_29 _)).trans ?_
      refine (sv_iload_n jM170 c170_28 rfl rfl).trans ?_
      refine (sv_iald jM170 c170_29 rfl (ia_80 _)).trans ?_
      refine jif _ rfl ?_
      refine (sv_isub jM170 c170_30 rfl).trans ?_
      refine (sv_aload_n jM170 c170_31 rfl rfl).trans ?_
      refine (sv_getf jM170 c170_32 rfl lf_9_28 (fg_61_8 _)).trans ?_
      refine (sv_iconst jM170 c170_35 rfl (v := 2) (by decide +kernel)).trans ?_
      refine (sv_iald1 jM170 c170_36 rfl (ia_68 _) (by decide +kernel) (i := 2) (by decide +kernel)).trans ?_
      refine (sv_icmp_le jM170 c170_37 rfl (t := 44) (by decide +kernel)).trans ?_
      refine jif _ ?_ ?_
      ·
        refine (sv_iconst jM170 c170_44 rfl (v := 0) (by decide +kernel)).trans ?_
        refine (sv_iadd jM170 c170_45 rfl).trans ?_
        refine (sv_istore_n (ls1 := [some (.ref 61), some (.int x1), some (.int (x2 + (0 : Int32))), some (.int x3)]) jM170 c170_46 rfl (Nat.lt_of_lt_of_eq (by decide +kernel : 2 < 4) rfl) rfl).trans ?_
        refine (sv_iinc (ls1 := [some (.ref 61), some (.int x1), some (.int (x2 + (0 : Int32))), some (.int (x3 + 1))]) jM170 c170_47 rfl rfl (v := 1) (by decide +kernel) rfl).trans ?_
        refine (sv_goto jM170 c170_50 rfl (t := 4) (by decide +kernel)).trans ?_
        rfl
      ·
        refine (sv_iconst jM170 c170_40 rfl (v := 1) (by decide +kernel)).trans ?_
        refine (sv_goto jM170 c170_41 rfl (t := 45) (by decide +kernel)).trans ?_
        refine (sv_iadd jM170 c170_45 rfl).trans ?_
        refine (sv_istore_n (ls1 := [some (.ref 61), some (.int x1), some (.int (x2 + (1 : Int32))), some (.int x3)]) jM170 c170_46 rfl (Nat.lt_of_lt_of_eq (by decide +kernel : 2 < 4) rfl) rfl).trans ?_
        refine (sv_iinc (ls1 := [some (.ref 61), some (.int x1), some (.int (x2 + (1 : Int32))), some (.int (x3 + 1))]) jM170 c170_47 rfl rfl (v := 1) (by decide +kernel) rfl).trans ?_
        refine (sv_goto jM170 c170_50 rfl (t := 4) (by decide +kernel)).trans ?_
        rfl
set_option maxRecDepth 20000 in
set_option maxHeartbeats 4000000 in
theorem M_worth_in (x1 : Int32) (σ : jm_S) : jc 171 [(.ref 61), (.int x1)] σ = jbi (jc 169 [(.ref 61)] σ) (fun r1 τ1 => jbi (jc 168 [(.ref 61), (.int (0 : Int32))] τ1) (fun r2 τ2 => jbi (jc 168 [(.ref 61), (.int (2 : Int32))] τ2) (fun r3 τ3 => jbi (jc 170 [(.ref 61), (.int x1)] τ3) (fun r4 τ4 => some (some (.int ((((σ 68 3) * r1) - ((τ1 68 4) * r2)) - ((τ2 68 5) * (r3 + r4)))), τ4))))) := by
  refine (jc_of (ls1 := [some (.ref 61), some (.int x1)]) ((jm_ini_of jM171).trans rfl)).trans ?_
  refine (sv_aload_n jM171 c171_0 rfl rfl).trans ?_
  refine (sv_getf jM171 c171_1 rfl lf_9_28 (fg_61_8 _)).trans ?_
  refine (sv_iconst jM171 c171_4 rfl (v := 3) (by decide +kernel)).trans ?_
  refine (sv_iald1 jM171 c171_5 rfl (ia_68 _) (by decide +kernel) (i := 3) (by decide +kernel)).trans ?_
  refine (sv_aload_n jM171 c171_6 rfl rfl).trans ?_
  refine (sv_callvi (pl := 0) jM171 c171_7 rfl (jm_call_v (a := 61) (as := []) (rest := [(.int (σ 68 3))]) lm_9_261 rfl jM169 rfl rfl rfl rfl rfl) jM169 rfl (Or.inl rfl)).trans ?_
  refine jbi_c (fun r1 τ1 => ?_)
  refine (sv_imul jM171 c171_10 rfl).trans ?_
  refine (sv_aload_n jM171 c171_11 rfl rfl).trans ?_
  refine (sv_getf jM171 c171_12 rfl lf_9_28 (fg_61_8 _)).trans ?_
  refine (sv_iconst jM171 c171_15 rfl (v := 4) (by decide +kernel)).trans ?_
  refine (sv_iald1 jM171 c171_16 rfl (ia_68 _) (by decide +kernel) (i := 4) (by decide +kernel)).trans ?_
  refine (sv_aload_n jM171 c171_17 rfl rfl).trans ?_
  refine (sv_iconst jM171 c171_18 rfl (v := 0) (by decide +kernel)).trans ?_
  refine (sv_callvi (pl := 0) jM171 c171_19 rfl (jm_call_v (a := 61) (as := [(.int (0 : Int32))]) (rest := [(.int (τ1 68 4)), (.int ((σ 68 3) * r1))]) lm_9_264 rfl jM168 rfl rfl rfl rfl rfl) jM168 rfl (Or.inl rfl)).trans ?_
  refine jbi_c (fun r2 τ2 => ?_)
  refine (sv_imul jM171 c171_22 rfl).trans ?_
  refine (sv_isub jM171 c171_23 rfl).trans ?_
  refine (sv_aload_n jM171 c171_24 rfl rfl).trans ?_
  refine (sv_getf jM171 c171_25 rfl lf_9_28 (fg_61_8 _)).trans ?_
  refine (sv_iconst jM171 c171_28 rfl (v := 5) (by decide +kernel)).trans ?_
  refine (sv_iald1 jM171 c171_29 rfl (ia_68 _) (by decide +kernel) (i := 5) (by decide +kernel)).trans ?_
  refine (sv_aload_n jM171 c171_30 rfl rfl).trans ?_
  refine (sv_iconst jM171 c171_31 rfl (v := 2) (by decide +kernel)).trans ?_
  refine (sv_callvi (pl := 0) jM171 c171_32 rfl (jm_call_v (a := 61) (as := [(.int (2 : Int32))]) (rest := [(.int (τ2 68 5)), (.int (((σ 68 3) * r1) - ((τ1 68 4) * r2)))]) lm_9_264 rfl jM168 rfl rfl rfl rfl rfl) jM168 rfl (Or.inl rfl)).trans ?_
  refine jbi_c (fun r3 τ3 => ?_)
  refine (sv_aload_n jM171 c171_35 rfl rfl).trans ?_
  refine (sv_iload_n jM171 c171_36 rfl rfl).trans ?_
  refine (sv_callvi (pl := 0) jM171 c171_37 rfl (jm_call_v (a := 61) (as := [(.int x1)]) (rest := [(.int r3), (.int (τ2 68 5)), (.int (((σ 68 3) * r1) - ((τ1 68 4) * r2)))]) lm_9_267 rfl jM170 rfl rfl rfl rfl rfl) jM170 rfl (Or.inl rfl)).trans ?_
  refine jbi_c (fun r4 τ4 => ?_)
  refine (sv_iadd jM171 c171_40 rfl).trans ?_
  refine (sv_imul jM171 c171_41 rfl).trans ?_
  refine (sv_isub jM171 c171_42 rfl).trans ?_
  exact sv_iret jM171 c171_43 rfl rfl
set_option maxRecDepth 20000 in
set_option maxHeartbeats 4000000 in
theorem M_stops_in (σ : jm_S) : jc 166 [(.ref 61)] σ = jbv (jc 150 [(.ref 61)] σ) (fun τ1 => jbv (jc 152 [(.ref 61)] τ1) (fun τ2 => jv 166 17 [some (.ref 61), some (.int (0 : Int32)), some (.int (0 : Int32)), some (.int (0 : Int32)), some (.int (1 : Int32))] [] τ2)) := by
  refine (jc_of (ls1 := [some (.ref 61), none, none, none, none]) ((jm_ini_of jM166).trans rfl)).trans ?_
  refine (sv_aload_n jM166 c166_0 rfl rfl).trans ?_
  refine (sv_callvv (pl := 0) jM166 c166_1 rfl (jm_call_v (a := 61) (as := []) (rest := []) lm_9_248 rfl jM150 rfl rfl rfl rfl rfl) jM150 rfl rfl).trans ?_
  refine jbv_c (fun τ1 => ?_)
  refine (sv_aload_n jM166 c166_4 rfl rfl).trans ?_
  refine (sv_callvv (pl := 0) jM166 c166_5 rfl (jm_call_v (a := 61) (as := []) (rest := []) lm_9_240 rfl jM152 rfl rfl rfl rfl rfl) jM152 rfl rfl).trans ?_
  refine jbv_c (fun τ2 => ?_)
  refine (sv_iconst jM166 c166_8 rfl (v := 0) (by decide +kernel)).trans ?_
  refine (sv_istore_n (ls1 := [some (.ref 61), some (.int (0 : Int32)), none, none, none]) jM166 c166_9 rfl (Nat.lt_of_lt_of_eq (by decide +kernel : 1 < 5) rfl) rfl).trans ?_
  refine (sv_iconst jM166 c166_10 rfl (v := 0) (by decide +kernel)).trans ?_
  refine (sv_istore_n (ls1 := [some (.ref 61), some (.int (0 : Int32)), some (.int (0 : Int32)), none, none]) jM166 c166_11 rfl (Nat.lt_of_lt_of_eq (by decide +kernel : 2 < 5) rfl) rfl).trans ?_
  refine (sv_iconst jM166 c166_12 rfl (v := 0) (by decide +kernel)).trans ?_
  refine (sv_istore_n (ls1 := [some (.ref 61), some (.int (0 : Int32)), some (.int (0 : Int32)), some (.int (0 : Int32)), none]) jM166 c166_13 rfl (Nat.lt_of_lt_of_eq (by decide +kernel : 3 < 5) rfl) rfl).trans ?_
  refine (sv_iconst jM166 c166_14 rfl (v := 1) (by decide +kernel)).trans ?_
  refine (sv_istore (ls1 := [some (.ref 61), some (.int (0 : Int32)), some (.int (0 : Int32)), some (.int (0 : Int32)), some (.int (1 : Int32))]) jM166 c166_15 rfl (Nat.lt_of_lt_of_eq (by decide +kernel : 4 < 5) rfl) rfl).trans ?_
  rfl
set_option maxRecDepth 20000 in
set_option maxHeartbeats 4000000 in
theorem M_stops_L17 (x1 : Int32) (x2 : Int32) (x3 : Int32) (x4 : Int32) (σ : jm_S) : jv 166 17 [some (.ref 61), some (.int x1), some (.int x2), some (.int x3), some (.int x4)] [] σ = (if x4 = 0 then some (some (.int x1), σ) else jbv (jc 154 [(.ref 61), (.int x1)] σ) (fun τ1 => (if x1 < 0 ∨ 200 ≤ x1.toNatClampNeg then none else (if x1 < 0 ∨ 200 ≤ x1.toNatClampNeg then none else (if (τ1 84 x1.toNatClampNeg) ≤ 0 then (if (200 : Int32) ≤ (x1 + 1) then jv 166 17 [some (.ref 61), some (.int (x1 + 1)), some (.int (x2 + (τ1 84 x1.toNatClampNeg))), some (.int (x3 + (1 : Int32))), some (.int (0 : Int32))] [] τ1 else jbi (jc 167 [(.ref 61), (.int (x1 + 1)), (.int (x2 + (τ1 84 x1.toNatClampNeg))), (.int (x3 + (1 : Int32)))] τ1) (fun r2 τ2 => (if ¬ r2 = 0 then jv 166 17 [some (.ref 61), some (.int (x1 + 1)), some (.int (x2 + (τ1 84 x1.toNatClampNeg))), some (.int (x3 + (1 : Int32))), some (.int (0 : Int32))] [] τ2 else jv 166 17 [some (.ref 61), some (.int (x1 + 1)), some (.int (x2 + (τ1 84 x1.toNatClampNeg))), some (.int (x3 + (1 : Int32))), some (.int (1 : Int32))] [] τ2))) else (if (200 : Int32) ≤ (x1 + 1) then jv 166 17 [some (.ref 61), some (.int (x1 + 1)), some (.int (x2 + (τ1 84 x1.toNatClampNeg))), some (.int (0 : Int32)), some (.int (0 : Int32))] [] τ1 else jbi (jc 167 [(.ref 61), (.int (x1 + 1)), (.int (x2 + (τ1 84 x1.toNatClampNeg))), (.int (0 : Int32))] τ1) (fun r3 τ3 => (if ¬ r3 = 0 then jv 166 17 [some (.ref 61), some (.int (x1 + 1)), some (.int (x2 + (τ1 84 x1.toNatClampNeg))), some (.int (0 : Int32)), some (.int (0 : Int32))] [] τ3 else jv 166 17 [some (.ref 61), some (.int (x1 + 1)), some (.int (x2 + (τ1 84 x1.toNatClampNeg))), some (.int (0 : Int32)), some (.int (1 : Int32))] [] τ3)))))))) := by
  refine (sv_iload jM166 c166_17 rfl rfl).trans ?_
  refine (sv_if_eq jM166 c166_19 rfl (t := 83) (by decide +kernel)).trans ?_
  refine jif _ ?_ ?_
  ·
    refine (sv_iload_n jM166 c166_83 rfl rfl).trans ?_
    exact sv_iret jM166 c166_84 rfl rfl
  ·
    refine (sv_aload_n jM166 c166_22 rfl rfl).trans ?_
    refine (sv_iload_n jM166 c166_23 rfl rfl).trans ?_
    refine (sv_callvv (pl := 0) jM166 c166_24 rfl (jm_call_v (a := 61) (as := [(.int x1)]) (rest := []) lm_9_243 rfl jM154 rfl rfl rfl rfl rfl) jM154 rfl rfl).trans ?_
    refine jbv_c (fun τ1 => ?_)
    refine (sv_iload_n jM166 c166_27 rfl rfl).trans ?_
    refine (sv_aload_n jM166 c166_28 rfl rfl).trans ?_
    refine (sv_getf jM166 c166_29 rfl lf_9_77 (fg_61_33 _)).trans ?_
    refine (sv_iload_n jM166 c166_32 rfl rfl).trans ?_
    refine (sv_iald jM166 c166_33 rfl (ia_84 _)).trans ?_
    refine jif _ rfl ?_
    refine (sv_iadd jM166 c166_34 rfl).trans ?_
    refine (sv_istore_n (ls1 := [some (.ref 61), some (.int x1), some (.int (x2 + (τ1 84 x1.toNatClampNeg))), some (.int x3), some (.int x4)]) jM166 c166_35 rfl (Nat.lt_of_lt_of_eq (by decide +kernel : 2 < 5) rfl) rfl).trans ?_
    refine (sv_aload_n jM166 c166_36 rfl rfl).trans ?_
    refine (sv_getf jM166 c166_37 rfl lf_9_77 (fg_61_33 _)).trans ?_
    refine (sv_iload_n jM166 c166_40 rfl rfl).trans ?_
    refine (sv_iald jM166 c166_41 rfl (ia_84 _)).trans ?_
    refine jif _ rfl ?_
    refine (sv_if_le jM166 c166_42 rfl (t := 49) (by decide +kernel)).trans ?_
    refine jif _ ?_ ?_
    ·
      refine (sv_iload_n jM166 c166_49 rfl rfl).trans ?_
      refine (sv_iconst jM166 c166_50 rfl (v := 1) (by decide +kernel)).trans ?_
      refine (sv_iadd jM166 c166_51 rfl).trans ?_
      refine (sv_istore_n (ls1 := [some (.ref 61), some (.int x1), some (.int (x2 + (τ1 84 x1.toNatClampNeg))), some (.int (x3 + (1 : Int32))), some (.int x4)]) jM166 c166_52 rfl (Nat.lt_of_lt_of_eq (by decide +kernel : 3 < 5) rfl) rfl).trans ?_
      refine (sv_iinc (ls1 := [some (.ref 61), some (.int (x1 + 1)), some (.int (x2 + (τ1 84 x1.toNatClampNeg))), some (.int (x3 + (1 : Int32))), some (.int x4)]) jM166 c166_53 rfl rfl (v := 1) (by decide +kernel) rfl).trans ?_
      refine (sv_iload_n jM166 c166_56 rfl rfl).trans ?_
      refine (sv_sipush jM166 c166_57 rfl (v := 200) (by decide +kernel)).trans ?_
      refine (sv_icmp_ge jM166 c166_60 rfl (t := 77) (by decide +kernel)).trans ?_
      refine jif _ ?_ ?_
      ·
        refine (sv_iconst jM166 c166_77 rfl (v := 0) (by decide +kernel)).trans ?_
        refine (sv_istore (ls1 := [some (.ref 61), some (.int (x1 + 1)), some (.int (x2 + (τ1 84 x1.toNatClampNeg))), some (.int (x3 + (1 : Int32))), some (.int (0 : Int32))]) jM166 c166_78 rfl (Nat.lt_of_lt_of_eq (by decide +kernel : 4 < 5) rfl) rfl).trans ?_
        refine (sv_goto jM166 c166_80 rfl (t := 17) (by decide +kernel)).trans ?_
        rfl
      ·
        refine (sv_aload_n jM166 c166_63 rfl rfl).trans ?_
        refine (sv_iload_n jM166 c166_64 rfl rfl).trans ?_
        refine (sv_iload_n jM166 c166_65 rfl rfl).trans ?_
        refine (sv_iload_n jM166 c166_66 rfl rfl).trans ?_
        refine (sv_callvi (pl := 0) jM166 c166_67 rfl (jm_call_v (a := 61) (as := [(.int (x1 + 1)), (.int (x2 + (τ1 84 x1.toNatClampNeg))), (.int (x3 + (1 : Int32)))]) (rest := []) lm_9_257 rfl jM167 rfl rfl rfl rfl rfl) jM167 rfl (Or.inr rfl)).trans ?_
        refine jbi_c (fun r2 τ2 => ?_)
        refine (sv_if_ne jM166 c166_70 rfl (t := 77) (by decide +kernel)).trans ?_
        refine jif _ ?_ ?_
        ·
          refine (sv_iconst jM166 c166_77 rfl (v := 0) (by decide +kernel)).trans ?_
          refine (sv_istore (ls1 := [some (.ref 61), some (.int (x1 + 1)), some (.int (x2 + (τ1 84 x1.toNatClampNeg))), some (.int (x3 + (1 : Int32))), some (.int (0 : Int32))]) jM166 c166_78 rfl (Nat.lt_of_lt_of_eq (by decide +kernel : 4 < 5) rfl) rfl).trans ?_
          refine (sv_goto jM166 c166_80 rfl (t := 17) (by decide +kernel)).trans ?_
          rfl
        ·
          refine (sv_iconst jM166 c166_73 rfl (v := 1) (by decide +kernel)).trans ?_
          refine (sv_goto jM166 c166_74 rfl (t := 78) (by decide +kernel)).trans ?_
          refine (sv_istore (ls1 := [some (.ref 61), some (.int (x1 + 1)), some (.int (x2 + (τ1 84 x1.toNatClampNeg))), some (.int (x3 + (1 : Int32))), some (.int (1 : Int32))]) jM166 c166_78 rfl (Nat.lt_of_lt_of_eq (by decide +kernel : 4 < 5) rfl) rfl).trans ?_
          refine (sv_goto jM166 c166_80 rfl (t := 17) (by decide +kernel)).trans ?_
          rfl
    ·
      refine (sv_iconst jM166 c166_45 rfl (v := 0) (by decide +kernel)).trans ?_
      refine (sv_goto jM166 c166_46 rfl (t := 52) (by decide +kernel)).trans ?_
      refine (sv_istore_n (ls1 := [some (.ref 61), some (.int x1), some (.int (x2 + (τ1 84 x1.toNatClampNeg))), some (.int (0 : Int32)), some (.int x4)]) jM166 c166_52 rfl (Nat.lt_of_lt_of_eq (by decide +kernel : 3 < 5) rfl) rfl).trans ?_
      refine (sv_iinc (ls1 := [some (.ref 61), some (.int (x1 + 1)), some (.int (x2 + (τ1 84 x1.toNatClampNeg))), some (.int (0 : Int32)), some (.int x4)]) jM166 c166_53 rfl rfl (v := 1) (by decide +kernel) rfl).trans ?_
      refine (sv_iload_n jM166 c166_56 rfl rfl).trans ?_
      refine (sv_sipush jM166 c166_57 rfl (v := 200) (by decide +kernel)).trans ?_
      refine (sv_icmp_ge jM166 c166_60 rfl (t := 77) (by decide +kernel)).trans ?_
      refine jif _ ?_ ?_
      ·
        refine (sv_iconst jM166 c166_77 rfl (v := 0) (by decide +kernel)).trans ?_
        refine (sv_istore (ls1 := [some (.ref 61), some (.int (x1 + 1)), some (.int (x2 + (τ1 84 x1.toNatClampNeg))), some (.int (0 : Int32)), some (.int (0 : Int32))]) jM166 c166_78 rfl (Nat.lt_of_lt_of_eq (by decide +kernel : 4 < 5) rfl) rfl).trans ?_
        refine (sv_goto jM166 c166_80 rfl (t := 17) (by decide +kernel)).trans ?_
        rfl
      ·
        refine (sv_aload_n jM166 c166_63 rfl rfl).trans ?_
        refine (sv_iload_n jM166 c166_64 rfl rfl).trans ?_
        refine (sv_iload_n jM166 c166_65 rfl rfl).trans ?_
        refine (sv_iload_n jM166 c166_66 rfl rfl).trans ?_
        refine (sv_callvi (pl := 0) jM166 c166_67 rfl (jm_call_v (a := 61) (as := [(.int (x1 + 1)), (.int (x2 + (τ1 84 x1.toNatClampNeg))), (.int (0 : Int32))]) (rest := []) lm_9_257 rfl jM167 rfl rfl rfl rfl rfl) jM167 rfl (Or.inr rfl)).trans ?_
        refine jbi_c (fun r3 τ3 => ?_)
        refine (sv_if_ne jM166 c166_70 rfl (t := 77) (by decide +kernel)).trans ?_
        refine jif _ ?_ ?_
        ·
          refine (sv_iconst jM166 c166_77 rfl (v := 0) (by decide +kernel)).trans ?_
          refine (sv_istore (ls1 := [some (.ref 61), some (.int (x1 + 1)), some (.int (x2 + (τ1 84 x1.toNatClampNeg))), some (.int (0 : Int32)), some (.int (0 : Int32))]) jM166 c166_78 rfl (Nat.lt_of_lt_of_eq (by decide +kernel : 4 < 5) rfl) rfl).trans ?_
          refine (sv_goto jM166 c166_80 rfl (t := 17) (by decide +kernel)).trans ?_
          rfl
        ·
          refine (sv_iconst jM166 c166_73 rfl (v := 1) (by decide +kernel)).trans ?_
          refine (sv_goto jM166 c166_74 rfl (t := 78) (by decide +kernel)).trans ?_
          refine (sv_istore (ls1 := [some (.ref 61), some (.int (x1 + 1)), some (.int (x2 + (τ1 84 x1.toNatClampNeg))), some (.int (0 : Int32)), some (.int (1 : Int32))]) jM166 c166_78 rfl (Nat.lt_of_lt_of_eq (by decide +kernel : 4 < 5) rfl) rfl).trans ?_
          refine (sv_goto jM166 c166_80 rfl (t := 17) (by decide +kernel)).trans ?_
          rfl
set_option maxRecDepth 20000 in
set_option maxHeartbeats 4000000 in
theorem M_isIn_in (x1 : Int32) (σ : jm_S) : jc 153 [(.ref 61), (.int x1)] σ = (if ¬ (((σ 61 24) >>> (x1 &&& 31)) &&& (1 : Int32)) = (1 : Int32) then some (some (.int (0 : Int32)), σ) else some (some (.int (1 : Int32)), σ)) := by
  refine (jc_of (ls1 := [some (.ref 61), some (.int x1)]) ((jm_ini_of jM153).trans rfl)).trans ?_
  refine (sv_aload_n jM153 c153_0 rfl rfl).trans ?_
  refine (sv_getf jM153 c153_1 rfl lf_9_218 (fg_61_24 _)).trans ?_
  refine (sv_iload_n jM153 c153_4 rfl rfl).trans ?_
  refine (sv_ishr jM153 c153_5 rfl).trans ?_
  refine (sv_iconst jM153 c153_6 rfl (v := 1) (by decide +kernel)).trans ?_
  refine (sv_iand jM153 c153_7 rfl).trans ?_
  refine (sv_iconst jM153 c153_8 rfl (v := 1) (by decide +kernel)).trans ?_
  refine (sv_icmp_ne jM153 c153_9 rfl (t := 16) (by decide +kernel)).trans ?_
  refine jif _ ?_ ?_
  ·
    refine (sv_iconst jM153 c153_16 rfl (v := 0) (by decide +kernel)).trans ?_
    exact sv_zret jM153 c153_17 rfl rfl (by decide +kernel)
  ·
    refine (sv_iconst jM153 c153_12 rfl (v := 1) (by decide +kernel)).trans ?_
    refine (sv_goto jM153 c153_13 rfl (t := 17) (by decide +kernel)).trans ?_
    exact sv_zret jM153 c153_17 rfl rfl (by decide +kernel)
set_option maxRecDepth 20000 in
set_option maxHeartbeats 4000000 in
theorem M_offBy_in (x1 : Int32) (σ : jm_S) : jc 197 [(.ref 61), (.int x1)] σ = jbv (jc 151 [(.ref 61), (.int (200 : Int32))] (jm_up σ 61 21 x1)) (fun τ1 => jv 197 16 [some (.ref 61), some (.int x1), some (.int (0 : Int32)), some (.int (0 : Int32)), none, none] [] τ1) := by
  refine (jc_of (ls1 := [some (.ref 61), some (.int x1), none, none, none, none]) ((jm_ini_of jM197).trans rfl)).trans ?_
  refine (sv_aload_n jM197 c197_0 rfl rfl).trans ?_
  refine (sv_iload_n jM197 c197_1 rfl rfl).trans ?_
  refine (sv_putf jM197 c197_2 rfl lf_9_209 (pf_61_21 _ _)).trans ?_
  refine (sv_aload_n jM197 c197_5 rfl rfl).trans ?_
  refine (sv_sipush jM197 c197_6 rfl (v := 200) (by decide +kernel)).trans ?_
  refine (sv_callvv (pl := 0) jM197 c197_9 rfl (jm_call_v (a := 61) (as := [(.int (200 : Int32))]) (rest := []) lm_9_251 rfl jM151 rfl rfl rfl rfl rfl) jM151 rfl rfl).trans ?_
  refine jbv_c (fun τ1 => ?_)
  refine (sv_iconst jM197 c197_12 rfl (v := 0) (by decide +kernel)).trans ?_
  refine (sv_istore_n (ls1 := [some (.ref 61), some (.int x1), some (.int (0 : Int32)), none, none, none]) jM197 c197_13 rfl (Nat.lt_of_lt_of_eq (by decide +kernel : 2 < 6) rfl) rfl).trans ?_
  refine (sv_iconst jM197 c197_14 rfl (v := 0) (by decide +kernel)).trans ?_
  refine (sv_istore_n (ls1 := [some (.ref 61), some (.int x1), some (.int (0 : Int32)), some (.int (0 : Int32)), none, none]) jM197 c197_15 rfl (Nat.lt_of_lt_of_eq (by decide +kernel : 3 < 6) rfl) rfl).trans ?_
  rfl
set_option maxRecDepth 20000 in
set_option maxHeartbeats 4000000 in
theorem M_offBy_L16 (x1 : Int32) (x2 : Int32) (x3 : Int32) (u4 : Option Value) (u5 : Option Value) (σ : jm_S) : jv 197 16 [some (.ref 61), some (.int x1), some (.int x2), some (.int x3), u4, u5] [] σ = (if (σ 61 36) ≤ x3 then some (some (.int x2), σ) else (if x3 < 0 ∨ 12 ≤ x3.toNatClampNeg then none else (if (σ 87 x3.toNatClampNeg) < 0 ∨ 12 ≤ (σ 87 x3.toNatClampNeg).toNatClampNeg then none else (if x3 < 0 ∨ 12 ≤ x3.toNatClampNeg then none else (if (σ 88 x3.toNatClampNeg) ≤ (σ 80 (σ 87 x3.toNatClampNeg).toNatClampNeg) then (if x3 < 0 ∨ 12 ≤ x3.toNatClampNeg then none else (if ¬ (σ 80 (σ 87 x3.toNatClampNeg).toNatClampNeg) = (-1 : Int32) then jv 197 16 [some (.ref 61), some (.int x1), some (.int (x2 + ((σ 80 (σ 87 x3.toNatClampNeg).toNatClampNeg) - (σ 88 x3.toNatClampNeg)))), some (.int (x3 + 1)), some (.int (σ 80 (σ 87 x3.toNatClampNeg).toNatClampNeg)), some (.int ((σ 80 (σ 87 x3.toNatClampNeg).toNatClampNeg) - (σ 88 x3.toNatClampNeg)))] [] σ else jv 197 16 [some (.ref 61), some (.int x1), some (.int (x2 + (200 : Int32))), some (.int (x3 + 1)), some (.int (σ 80 (σ 87 x3.toNatClampNeg).toNatClampNeg)), some (.int ((σ 80 (σ 87 x3.toNatClampNeg).toNatClampNeg) - (σ 88 x3.toNatClampNeg)))] [] σ)) else (if x3 < 0 ∨ 12 ≤ x3.toNatClampNeg then none else (if ¬ (σ 80 (σ 87 x3.toNatClampNeg).toNatClampNeg) = (-1 : Int32) then jv 197 16 [some (.ref 61), some (.int x1), some (.int (x2 + ((σ 88 x3.toNatClampNeg) - (σ 80 (σ 87 x3.toNatClampNeg).toNatClampNeg)))), some (.int (x3 + 1)), some (.int (σ 80 (σ 87 x3.toNatClampNeg).toNatClampNeg)), some (.int ((σ 88 x3.toNatClampNeg) - (σ 80 (σ 87 x3.toNatClampNeg).toNatClampNeg)))] [] σ else jv 197 16 [some (.ref 61), some (.int x1), some (.int (x2 + (200 : Int32))), some (.int (x3 + 1)), some (.int (σ 80 (σ 87 x3.toNatClampNeg).toNatClampNeg)), some (.int ((σ 88 x3.toNatClampNeg) - (σ 80 (σ 87 x3.toNatClampNeg).toNatClampNeg)))] [] σ))))))) := by
  refine (sv_iload_n jM197 c197_16 rfl rfl).trans ?_
  refine (sv_aload_n jM197 c197_17 rfl rfl).trans ?_
  refine (sv_getf jM197 c197_18 rfl lf_9_147 (fg_61_36 _)).trans ?_
  refine (sv_icmp_ge jM197 c197_21 rfl (t := 94) (by decide +kernel)).trans ?_
  refine jif _ ?_ ?_
  ·
    refine (sv_iload_n jM197 c197_94 rfl rfl).trans ?_
    exact sv_iret jM197 c197_95 rfl rfl
  ·
    refine (sv_aload_n jM197 c197_24 rfl rfl).trans ?_
    refine (sv_getf jM197 c197_25 rfl lf_9_65 (fg_61_29 _)).trans ?_
    refine (sv_aload_n jM197 c197_28 rfl rfl).trans ?_
    refine (sv_getf jM197 c197_29 rfl lf_9_86 (fg_61_37 _)).trans ?_
    refine (sv_iload_n jM197 c197_32 rfl rfl).trans ?_
    refine (sv_iald jM197 c197_33 rfl (ia_87 _)).trans ?_
    refine jif _ rfl ?_
    refine (sv_iald jM197 c197_34 rfl (ia_80 _)).trans ?_
    refine jif _ rfl ?_
    refine (sv_istore (ls1 := [some (.ref 61), some (.int x1), some (.int x2), some (.int x3), some (.int (σ 80 (σ 87 x3.toNatClampNeg).toNatClampNeg)), u5]) jM197 c197_35 rfl (Nat.lt_of_lt_of_eq (by decide +kernel : 4 < 6) rfl) rfl).trans ?_
    refine (sv_iload jM197 c197_37 rfl rfl).trans ?_
    refine (sv_aload_n jM197 c197_39 rfl rfl).trans ?_
    refine (sv_getf jM197 c197_40 rfl lf_9_89 (fg_61_38 _)).trans ?_
    refine (sv_iload_n jM197 c197_43 rfl rfl).trans ?_
    refine (sv_iald jM197 c197_44 rfl (ia_88 _)).trans ?_
    refine jif _ rfl ?_
    refine (sv_icmp_ge jM197 c197_45 rfl (t := 60) (by decide +kernel)).trans ?_
    refine jif _ ?_ ?_
    ·
      refine (sv_iload jM197 c197_60 rfl rfl).trans ?_
      refine (sv_aload_n jM197 c197_62 rfl rfl).trans ?_
      refine (sv_getf jM197 c197_63 rfl lf_9_89 (fg_61_38 _)).trans ?_
      refine (sv_iload_n jM197 c197_66 rfl rfl).trans ?_
      refine (sv_iald jM197 c197_67 rfl (ia_88 _)).trans ?_
      refine jif _ rfl ?_
      refine (sv_isub jM197 c197_68 rfl).trans ?_
      refine (sv_istore (ls1 := [some (.ref 61), some (.int x1), some (.int x2), some (.int x3), some (.int (σ 80 (σ 87 x3.toNatClampNeg).toNatClampNeg)), some (.int ((σ 80 (σ 87 x3.toNatClampNeg).toNatClampNeg) - (σ 88 x3.toNatClampNeg)))]) jM197 c197_69 rfl (Nat.lt_of_lt_of_eq (by decide +kernel : 5 < 6) rfl) rfl).trans ?_
      refine (sv_iload_n jM197 c197_71 rfl rfl).trans ?_
      refine (sv_iload jM197 c197_72 rfl rfl).trans ?_
      refine (sv_iconst jM197 c197_74 rfl (v := -1) (by decide +kernel)).trans ?_
      refine (sv_icmp_ne jM197 c197_75 rfl (t := 84) (by decide +kernel)).trans ?_
      refine jif _ ?_ ?_
      ·
        refine (sv_iload jM197 c197_84 rfl rfl).trans ?_
        refine (sv_iadd jM197 c197_86 rfl).trans ?_
        refine (sv_istore_n (ls1 := [some (.ref 61), some (.int x1), some (.int (x2 + ((σ 80 (σ 87 x3.toNatClampNeg).toNatClampNeg) - (σ 88 x3.toNatClampNeg)))), some (.int x3), some (.int (σ 80 (σ 87 x3.toNatClampNeg).toNatClampNeg)), some (.int ((σ 80 (σ 87 x3.toNatClampNeg).toNatClampNeg) - (σ 88 x3.toNatClampNeg)))]) jM197 c197_87 rfl (Nat.lt_of_lt_of_eq (by decide +kernel : 2 < 6) rfl) rfl).trans ?_
        refine (sv_iinc (ls1 := [some (.ref 61), some (.int x1), some (.int (x2 + ((σ 80 (σ 87 x3.toNatClampNeg).toNatClampNeg) - (σ 88 x3.toNatClampNeg)))), some (.int (x3 + 1)), some (.int (σ 80 (σ 87 x3.toNatClampNeg).toNatClampNeg)), some (.int ((σ 80 (σ 87 x3.toNatClampNeg).toNatClampNeg) - (σ 88 x3.toNatClampNeg)))]) jM197 c197_88 rfl rfl (v := 1) (by decide +kernel) rfl).trans ?_
        refine (sv_goto jM197 c197_91 rfl (t := 16) (by decide +kernel)).trans ?_
        rfl
      ·
        refine (sv_sipush jM197 c197_78 rfl (v := 200) (by decide +kernel)).trans ?_
        refine (sv_goto jM197 c197_81 rfl (t := 86) (by decide +kernel)).trans ?_
        refine (sv_iadd jM197 c197_86 rfl).trans ?_
        refine (sv_istore_n (ls1 := [some (.ref 61), some (.int x1), some (.int (x2 + (200 : Int32))), some (.int x3), some (.int (σ 80 (σ 87 x3.toNatClampNeg).toNatClampNeg)), some (.int ((σ 80 (σ 87 x3.toNatClampNeg).toNatClampNeg) - (σ 88 x3.toNatClampNeg)))]) jM197 c197_87 rfl (Nat.lt_of_lt_of_eq (by decide +kernel : 2 < 6) rfl) rfl).trans ?_
        refine (sv_iinc (ls1 := [some (.ref 61), some (.int x1), some (.int (x2 + (200 : Int32))), some (.int (x3 + 1)), some (.int (σ 80 (σ 87 x3.toNatClampNeg).toNatClampNeg)), some (.int ((σ 80 (σ 87 x3.toNatClampNeg).toNatClampNeg) - (σ 88 x3.toNatClampNeg)))]) jM197 c197_88 rfl rfl (v := 1) (by decide +kernel) rfl).trans ?_
        refine (sv_goto jM197 c197_91 rfl (t := 16) (by decide +kernel)).trans ?_
        rfl
    ·
      refine (sv_aload_n jM197 c197_48 rfl rfl).trans ?_
      refine (sv_getf jM197 c197_49 rfl lf_9_89 (fg_61_38 _)).trans ?_
      refine (sv_iload_n jM197 c197_52 rfl rfl).trans ?_
      refine (sv_iald jM197 c197_53 rfl (ia_88 _)).trans ?_
      refine jif _ rfl ?_
      refine (sv_iload jM197 c197_54 rfl rfl).trans ?_
      refine (sv_isub jM197 c197_56 rfl).trans ?_
      refine (sv_goto jM197 c197_57 rfl (t := 69) (by decide +kernel)).trans ?_
      refine (sv_istore (ls1 := [some (.ref 61), some (.int x1), some (.int x2), some (.int x3), some (.int (σ 80 (σ 87 x3.toNatClampNeg).toNatClampNeg)), some (.int ((σ 88 x3.toNatClampNeg) - (σ 80 (σ 87 x3.toNatClampNeg).toNatClampNeg)))]) jM197 c197_69 rfl (Nat.lt_of_lt_of_eq (by decide +kernel : 5 < 6) rfl) rfl).trans ?_
      refine (sv_iload_n jM197 c197_71 rfl rfl).trans ?_
      refine (sv_iload jM197 c197_72 rfl rfl).trans ?_
      refine (sv_iconst jM197 c197_74 rfl (v := -1) (by decide +kernel)).trans ?_
      refine (sv_icmp_ne jM197 c197_75 rfl (t := 84) (by decide +kernel)).trans ?_
      refine jif _ ?_ ?_
      ·
        refine (sv_iload jM197 c197_84 rfl rfl).trans ?_
        refine (sv_iadd jM197 c197_86 rfl).trans ?_
        refine (sv_istore_n (ls1 := [some (.ref 61), some (.int x1), some (.int (x2 + ((σ 88 x3.toNatClampNeg) - (σ 80 (σ 87 x3.toNatClampNeg).toNatClampNeg)))), some (.int x3), some (.int (σ 80 (σ 87 x3.toNatClampNeg).toNatClampNeg)), some (.int ((σ 88 x3.toNatClampNeg) - (σ 80 (σ 87 x3.toNatClampNeg).toNatClampNeg)))]) jM197 c197_87 rfl (Nat.lt_of_lt_of_eq (by decide +kernel : 2 < 6) rfl) rfl).trans ?_
        refine (sv_iinc (ls1 := [some (.ref 61), some (.int x1), some (.int (x2 + ((σ 88 x3.toNatClampNeg) - (σ 80 (σ 87 x3.toNatClampNeg).toNatClampNeg)))), some (.int (x3 + 1)), some (.int (σ 80 (σ 87 x3.toNatClampNeg).toNatClampNeg)), some (.int ((σ 88 x3.toNatClampNeg) - (σ 80 (σ 87 x3.toNatClampNeg).toNatClampNeg)))]) jM197 c197_88 rfl rfl (v := 1) (by decide +kernel) rfl).trans ?_
        refine (sv_goto jM197 c197_91 rfl (t := 16) (by decide +kernel)).trans ?_
        rfl
      ·
        refine (sv_sipush jM197 c197_78 rfl (v := 200) (by decide +kernel)).trans ?_
        refine (sv_goto jM197 c197_81 rfl (t := 86) (by decide +kernel)).trans ?_
        refine (sv_iadd jM197 c197_86 rfl).trans ?_
        refine (sv_istore_n (ls1 := [some (.ref 61), some (.int x1), some (.int (x2 + (200 : Int32))), some (.int x3), some (.int (σ 80 (σ 87 x3.toNatClampNeg).toNatClampNeg)), some (.int ((σ 88 x3.toNatClampNeg) - (σ 80 (σ 87 x3.toNatClampNeg).toNatClampNeg)))]) jM197 c197_87 rfl (Nat.lt_of_lt_of_eq (by decide +kernel : 2 < 6) rfl) rfl).trans ?_
        refine (sv_iinc (ls1 := [some (.ref 61), some (.int x1), some (.int (x2 + (200 : Int32))), some (.int (x3 + 1)), some (.int (σ 80 (σ 87 x3.toNatClampNeg).toNatClampNeg)), some (.int ((σ 88 x3.toNatClampNeg) - (σ 80 (σ 87 x3.toNatClampNeg).toNatClampNeg)))]) jM197 c197_88 rfl rfl (v := 1) (by decide +kernel) rfl).trans ?_
        refine (sv_goto jM197 c197_91 rfl (t := 16) (by decide +kernel)).trans ?_
        rfl
set_option maxRecDepth 20000 in
set_option maxHeartbeats 4000000 in
theorem M_figures_in (x1 : Int32) (x2 : Int32) (x3 : Int32) (x4 : Int32) (σ : jm_S) : jc 146 [(.ref 61), (.int x1), (.int x2), (.int x3), (.int x4)] σ = jv 146 9 [some (.ref 61), some (.int x1), some (.int x2), some (.int x3), some (.int x4), some (.int (σ 61 11)), some (.int (0 : Int32))] [] σ := by
  refine (jc_of (ls1 := [some (.ref 61), some (.int x1), some (.int x2), some (.int x3), some (.int x4), none, none]) ((jm_ini_of jM146).trans rfl)).trans ?_
  refine (sv_aload_n jM146 c146_0 rfl rfl).trans ?_
  refine (sv_getf jM146 c146_1 rfl lf_9_159 (fg_61_11 _)).trans ?_
  refine (sv_istore (ls1 := [some (.ref 61), some (.int x1), some (.int x2), some (.int x3), some (.int x4), some (.int (σ 61 11)), none]) jM146 c146_4 rfl (Nat.lt_of_lt_of_eq (by decide +kernel : 5 < 7) rfl) rfl).trans ?_
  refine (sv_iconst jM146 c146_6 rfl (v := 0) (by decide +kernel)).trans ?_
  refine (sv_istore (ls1 := [some (.ref 61), some (.int x1), some (.int x2), some (.int x3), some (.int x4), some (.int (σ 61 11)), some (.int (0 : Int32))]) jM146 c146_7 rfl (Nat.lt_of_lt_of_eq (by decide +kernel : 6 < 7) rfl) rfl).trans ?_
  rfl
set_option maxRecDepth 20000 in
set_option maxHeartbeats 4000000 in
theorem M_figures_L9 (x1 : Int32) (x2 : Int32) (x3 : Int32) (x4 : Int32) (x5 : Int32) (x6 : Int32) (σ : jm_S) : jv 146 9 [some (.ref 61), some (.int x1), some (.int x2), some (.int x3), some (.int x4), some (.int x5), some (.int x6)] [] σ = (if (x5 + x2) ≤ (σ 61 11) then (if (σ 61 11) ≤ x5 then some (some (.int (-1 : Int32)), (jm_up σ 61 11 x5)) else jbi (jc 120 [(.long x6.toInt64), (.long x3.toInt64), (.long x4.toInt64)] σ) (fun r1 τ1 => (if r1 = 0 then some (some (.int (-1 : Int32)), (jm_up τ1 61 11 x5)) else some (some (.int x6), τ1)))) else jbi (jc 144 [(.ref 61), (.int x1)] σ) (fun r2 τ2 => jbi (jc 120 [(.long r2.toInt64), (.long (48 : Int64)), (.long (57 : Int64))] τ2) (fun r3 τ3 => (if r3 = 0 then (if (τ3 61 11) ≤ x5 then some (some (.int (-1 : Int32)), (jm_up τ3 61 11 x5)) else jbi (jc 120 [(.long x6.toInt64), (.long x3.toInt64), (.long x4.toInt64)] τ3) (fun r4 τ4 => (if r4 = 0 then some (some (.int (-1 : Int32)), (jm_up τ4 61 11 x5)) else some (some (.int x6), τ4)))) else jbi (jc 144 [(.ref 61), (.int x1)] τ3) (fun r5 τ5 => jv 146 9 [some (.ref 61), some (.int x1), some (.int x2), some (.int x3), some (.int x4), some (.int x5), some (.int ((((10 : Int32) * x6) + r5) - (48 : Int32)))] [] (jm_up τ5 61 11 ((τ5 61 11) + (1 : Int32)))))))) := by
  refine (sv_aload_n jM146 c146_9 rfl rfl).trans ?_
  refine (sv_getf jM146 c146_10 rfl lf_9_159 (fg_61_11 _)).trans ?_
  refine (sv_iload jM146 c146_13 rfl rfl).trans ?_
  refine (sv_iload_n jM146 c146_15 rfl rfl).trans ?_
  refine (sv_iadd jM146 c146_16 rfl).trans ?_
  refine (sv_icmp_ge jM146 c146_17 rfl (t := 67) (by decide +kernel)).trans ?_
  refine jif _ ?_ ?_
  ·
    refine (sv_aload_n jM146 c146_67 rfl rfl).trans ?_
    refine (sv_getf jM146 c146_68 rfl lf_9_159 (fg_61_11 _)).trans ?_
    refine (sv_iload jM146 c146_71 rfl rfl).trans ?_
    refine (sv_icmp_le jM146 c146_73 rfl (t := 93) (by decide +kernel)).trans ?_
    refine jif _ ?_ ?_
    ·
      refine (sv_aload_n jM146 c146_93 rfl rfl).trans ?_
      refine (sv_iload jM146 c146_94 rfl rfl).trans ?_
      refine (sv_putf jM146 c146_96 rfl lf_9_159 (pf_61_11 _ _)).trans ?_
      refine (sv_iconst jM146 c146_99 rfl (v := -1) (by decide +kernel)).trans ?_
      exact sv_iret jM146 c146_100 rfl rfl
    ·
      refine (sv_iload jM146 c146_76 rfl rfl).trans ?_
      refine (sv_i2l jM146 c146_78 rfl).trans ?_
      refine (sv_iload_n jM146 c146_79 rfl rfl).trans ?_
      refine (sv_i2l jM146 c146_80 rfl).trans ?_
      refine (sv_iload jM146 c146_81 rfl rfl).trans ?_
      refine (sv_i2l jM146 c146_83 rfl).trans ?_
      refine (sv_callsi (pl := 0) jM146 c146_84 rfl (jm_call_s (as := [(.long x6.toInt64), (.long x3.toInt64), (.long x4.toInt64)]) (rest := []) lm_9_95 rfl jM120 rfl rfl rfl rfl) jM120 rfl (Or.inr rfl)).trans ?_
      refine jbi_c (fun r1 τ1 => ?_)
      refine (sv_if_eq jM146 c146_87 rfl (t := 93) (by decide +kernel)).trans ?_
      refine jif _ ?_ ?_
      ·
        refine (sv_aload_n jM146 c146_93 rfl rfl).trans ?_
        refine (sv_iload jM146 c146_94 rfl rfl).trans ?_
        refine (sv_putf jM146 c146_96 rfl lf_9_159 (pf_61_11 _ _)).trans ?_
        refine (sv_iconst jM146 c146_99 rfl (v := -1) (by decide +kernel)).trans ?_
        exact sv_iret jM146 c146_100 rfl rfl
      ·
        refine (sv_iload jM146 c146_90 rfl rfl).trans ?_
        exact sv_iret jM146 c146_92 rfl rfl
  ·
    refine (sv_aload_n jM146 c146_20 rfl rfl).trans ?_
    refine (sv_iload_n jM146 c146_21 rfl rfl).trans ?_
    refine (sv_callvi (pl := 0) jM146 c146_22 rfl (jm_call_v (a := 61) (as := [(.int x1)]) (rest := []) lm_9_162 rfl jM144 rfl rfl rfl rfl rfl) jM144 rfl (Or.inl rfl)).trans ?_
    refine jbi_c (fun r2 τ2 => ?_)
    refine (sv_i2l jM146 c146_25 rfl).trans ?_
    refine (sv_ldc2 jM146 c146_26 rfl ll_9_165).trans ?_
    refine (sv_ldc2 jM146 c146_29 rfl ll_9_167).trans ?_
    refine (sv_callsi (pl := 0) jM146 c146_32 rfl (jm_call_s (as := [(.long r2.toInt64), (.long (48 : Int64)), (.long (57 : Int64))]) (rest := []) lm_9_95 rfl jM120 rfl rfl rfl rfl) jM120 rfl (Or.inr rfl)).trans ?_
    refine jbi_c (fun r3 τ3 => ?_)
    refine (sv_if_eq jM146 c146_35 rfl (t := 67) (by decide +kernel)).trans ?_
    refine jif _ ?_ ?_
    ·
      refine (sv_aload_n jM146 c146_67 rfl rfl).trans ?_
      refine (sv_getf jM146 c146_68 rfl lf_9_159 (fg_61_11 _)).trans ?_
      refine (sv_iload jM146 c146_71 rfl rfl).trans ?_
      refine (sv_icmp_le jM146 c146_73 rfl (t := 93) (by decide +kernel)).trans ?_
      refine jif _ ?_ ?_
      ·
        refine (sv_aload_n jM146 c146_93 rfl rfl).trans ?_
        refine (sv_iload jM146 c146_94 rfl rfl).trans ?_
        refine (sv_putf jM146 c146_96 rfl lf_9_159 (pf_61_11 _ _)).trans ?_
        refine (sv_iconst jM146 c146_99 rfl (v := -1) (by decide +kernel)).trans ?_
        exact sv_iret jM146 c146_100 rfl rfl
      ·
        refine (sv_iload jM146 c146_76 rfl rfl).trans ?_
        refine (sv_i2l jM146 c146_78 rfl).trans ?_
        refine (sv_iload_n jM146 c146_79 rfl rfl).trans ?_
        refine (sv_i2l jM146 c146_80 rfl).trans ?_
        refine (sv_iload jM146 c146_81 rfl rfl).trans ?_
        refine (sv_i2l jM146 c146_83 rfl).trans ?_
        refine (sv_callsi (pl := 0) jM146 c146_84 rfl (jm_call_s (as := [(.long x6.toInt64), (.long x3.toInt64), (.long x4.toInt64)]) (rest := []) lm_9_95 rfl jM120 rfl rfl rfl rfl) jM120 rfl (Or.inr rfl)).trans ?_
        refine jbi_c (fun r4 τ4 => ?_)
        refine (sv_if_eq jM146 c146_87 rfl (t := 93) (by decide +kernel)).trans ?_
        refine jif _ ?_ ?_
        ·
          refine (sv_aload_n jM146 c146_93 rfl rfl).trans ?_
          refine (sv_iload jM146 c146_94 rfl rfl).trans ?_
          refine (sv_putf jM146 c146_96 rfl lf_9_159 (pf_61_11 _ _)).trans ?_
          refine (sv_iconst jM146 c146_99 rfl (v := -1) (by decide +kernel)).trans ?_
          exact sv_iret jM146 c146_100 rfl rfl
        ·
          refine (sv_iload jM146 c146_90 rfl rfl).trans ?_
          exact sv_iret jM146 c146_92 rfl rfl
    ·
      refine (sv_bipush jM146 c146_38 rfl (v := 10) (by decide +kernel)).trans ?_
      refine (sv_iload jM146 c146_40 rfl rfl).trans ?_
      refine (sv_imul jM146 c146_42 rfl).trans ?_
      refine (sv_aload_n jM146 c146_43 rfl rfl).trans ?_
      refine (sv_iload_n jM146 c146_44 rfl rfl).trans ?_
      refine (sv_callvi (pl := 0) jM146 c146_45 rfl (jm_call_v (a := 61) (as := [(.int x1)]) (rest := [(.int ((10 : Int32) * x6))]) lm_9_162 rfl jM144 rfl rfl rfl rfl rfl) jM144 rfl (Or.inl rfl)).trans ?_
      refine jbi_c (fun r5 τ5 => ?_)
      refine (sv_iadd jM146 c146_48 rfl).trans ?_
      refine (sv_bipush jM146 c146_49 rfl (v := 48) (by decide +kernel)).trans ?_
      refine (sv_isub jM146 c146_51 rfl).trans ?_
      refine (sv_istore (ls1 := [some (.ref 61), some (.int x1), some (.int x2), some (.int x3), some (.int x4), some (.int x5), some (.int ((((10 : Int32) * x6) + r5) - (48 : Int32)))]) jM146 c146_52 rfl (Nat.lt_of_lt_of_eq (by decide +kernel : 6 < 7) rfl) rfl).trans ?_
      refine (sv_aload_n jM146 c146_54 rfl rfl).trans ?_
      refine (sv_dup jM146 c146_55 rfl rfl).trans ?_
      refine (sv_getf jM146 c146_56 rfl lf_9_159 (fg_61_11 _)).trans ?_
      refine (sv_iconst jM146 c146_59 rfl (v := 1) (by decide +kernel)).trans ?_
      refine (sv_iadd jM146 c146_60 rfl).trans ?_
      refine (sv_putf jM146 c146_61 rfl lf_9_159 (pf_61_11 _ _)).trans ?_
      refine (sv_goto jM146 c146_64 rfl (t := 9) (by decide +kernel)).trans ?_
      rfl
set_option maxRecDepth 20000 in
set_option maxHeartbeats 4000000 in
theorem M_lidsFrom_in (x1 : Int32) (σ : jm_S) : jc 145 [(.ref 61), (.int x1)] σ = jv 145 2 [some (.ref 61), some (.int x1), some (.int x1)] [] σ := by
  refine (jc_of (ls1 := [some (.ref 61), some (.int x1), none]) ((jm_ini_of jM145).trans rfl)).trans ?_
  refine (sv_iload_n jM145 c145_0 rfl rfl).trans ?_
  refine (sv_istore_n (ls1 := [some (.ref 61), some (.int x1), some (.int x1)]) jM145 c145_1 rfl (Nat.lt_of_lt_of_eq (by decide +kernel : 2 < 3) rfl) rfl).trans ?_
  rfl
set_option maxRecDepth 20000 in
set_option maxHeartbeats 4000000 in
theorem M_lidsFrom_L2 (x1 : Int32) (x2 : Int32) (σ : jm_S) : jv 145 2 [some (.ref 61), some (.int x1), some (.int x2)] [] σ = (if (200 : Int32) ≤ x2 then some (none, σ) else (if x2 < 0 ∨ 200 ≤ x2.toNatClampNeg ∨ ¬ ((σ 61 16) = 0 ∨ (σ 61 16) = 1) then none else jv 145 2 [some (.ref 61), some (.int x1), some (.int (x2 + 1))] [] (jm_up σ 73 x2.toNatClampNeg (σ 61 16)))) := by
  refine (sv_iload_n jM145 c145_2 rfl rfl).trans ?_
  refine (sv_sipush jM145 c145_3 rfl (v := 200) (by decide +kernel)).trans ?_
  refine (sv_icmp_ge jM145 c145_6 rfl (t := 25) (by decide +kernel)).trans ?_
  refine jif _ ?_ ?_
  ·
    exact sv_vret jM145 c145_25 rfl rfl
  ·
    refine (sv_aload_n jM145 c145_9 rfl rfl).trans ?_
    refine (sv_getf jM145 c145_10 rfl lf_9_43 (fg_61_14 _)).trans ?_
    refine (sv_iload_n jM145 c145_13 rfl rfl).trans ?_
    refine (sv_aload_n jM145 c145_14 rfl rfl).trans ?_
    refine (sv_getf jM145 c145_15 rfl lf_9_172 (fg_61_16 _)).trans ?_
    refine (sv_bast jM145 c145_18 rfl wi_73).trans ?_
    refine jif _ rfl ?_
    refine (sv_iinc (ls1 := [some (.ref 61), some (.int x1), some (.int (x2 + 1))]) jM145 c145_19 rfl rfl (v := 1) (by decide +kernel) rfl).trans ?_
    refine (sv_goto jM145 c145_22 rfl (t := 2) (by decide +kernel)).trans ?_
    rfl
set_option maxRecDepth 20000 in
set_option maxHeartbeats 4000000 in
theorem M_goes_in (x1 : Int32) (x2 : Int32) (σ : jm_S) : jc 157 [(.ref 61), (.int x1), (.int x2)] σ = (if x1 < 0 ∨ 12 ≤ x1.toNatClampNeg then none else (if (100 : Int32) < (σ 76 x1.toNatClampNeg) then (if x1 < 0 ∨ 12 ≤ x1.toNatClampNeg then none else (if x1 < 0 ∨ 12 ≤ x1.toNatClampNeg then none else (if x1 < 0 ∨ 12 ≤ x1.toNatClampNeg then none else (if x1 < 0 ∨ 12 ≤ x1.toNatClampNeg then none else jbi (jc 158 [(.ref 61), (.int x1)] (jm_up σ 78 x1.toNatClampNeg ((((σ 76 x1.toNatClampNeg) - (100 : Int32)) * (σ 77 x1.toNatClampNeg)) / (40 : Int32)))) (fun r1 τ1 => (if (((jm_up σ 78 x1.toNatClampNeg ((((σ 76 x1.toNatClampNeg) - (100 : Int32)) * (σ 77 x1.toNatClampNeg)) / (40 : Int32))) 78 x1.toNatClampNeg) - (σ 61 20)) < ((σ 61 21) * r1) then (if x1 < 0 ∨ 12 ≤ x1.toNatClampNeg then none else (if (τ1 76 x1.toNatClampNeg) ≤ (250 : Int32) then (if x1 < 0 ∨ 12 ≤ x1.toNatClampNeg then none else (if x1 < 0 ∨ 12 ≤ x1.toNatClampNeg then none else (if (((4 : Int32) * x1) + (3 : Int32)) < 0 ∨ 48 ≤ (((4 : Int32) * x1) + (3 : Int32)).toNatClampNeg then none else (if 0 ≤ ((τ1 77 x1.toNatClampNeg) - (((τ1 78 x1.toNatClampNeg) * (τ1 67 (((4 : Int32) * x1) + (3 : Int32)).toNatClampNeg)) / (100 : Int32))) then (if x1 < 0 ∨ 12 ≤ x1.toNatClampNeg then none else some (some (.int (0 : Int32)), (jm_up τ1 77 x1.toNatClampNeg ((τ1 77 x1.toNatClampNeg) - (((τ1 78 x1.toNatClampNeg) * (τ1 67 (((4 : Int32) * x1) + (3 : Int32)).toNatClampNeg)) / (100 : Int32)))))) else (if x1 < 0 ∨ 12 ≤ x1.toNatClampNeg then none else some (some (.int (0 : Int32)), (jm_up τ1 77 x1.toNatClampNeg (0 : Int32)))))))) else (if x1 < 0 ∨ 12 ≤ x1.toNatClampNeg then none else some (some (.int (0 : Int32)), (jm_up τ1 79 x1.toNatClampNeg (2 : Int32)))))) else (if x1 < 0 ∨ 12 ≤ x1.toNatClampNeg then none else (if x1 < 0 ∨ 12 ≤ x1.toNatClampNeg then none else (if (((4 : Int32) * x1) + (2 : Int32)) < 0 ∨ 48 ≤ (((4 : Int32) * x1) + (2 : Int32)).toNatClampNeg then none else (if x1 < 0 ∨ 12 ≤ x1.toNatClampNeg then none else some (some (.int (1 : Int32)), (jm_up (jm_up (jm_up τ1 79 x1.toNatClampNeg (1 : Int32)) 80 x1.toNatClampNeg x2) 81 x1.toNatClampNeg (((τ1 67 (((4 : Int32) * x1) + (2 : Int32)).toNatClampNeg) * (((jm_up σ 78 x1.toNatClampNeg ((((σ 76 x1.toNatClampNeg) - (100 : Int32)) * (σ 77 x1.toNatClampNeg)) / (40 : Int32))) 78 x1.toNatClampNeg) - (σ 61 20))) / (10 : Int32)))))))))))))) else (if x1 < 0 ∨ 12 ≤ x1.toNatClampNeg then none else (if x1 < 0 ∨ 12 ≤ x1.toNatClampNeg then none else jbi (jc 158 [(.ref 61), (.int x1)] (jm_up σ 78 x1.toNatClampNeg (0 : Int32))) (fun r2 τ2 => (if (((jm_up σ 78 x1.toNatClampNeg (0 : Int32)) 78 x1.toNatClampNeg) - (σ 61 20)) < ((σ 61 21) * r2) then (if x1 < 0 ∨ 12 ≤ x1.toNatClampNeg then none else (if (τ2 76 x1.toNatClampNeg) ≤ (250 : Int32) then (if x1 < 0 ∨ 12 ≤ x1.toNatClampNeg then none else (if x1 < 0 ∨ 12 ≤ x1.toNatClampNeg then none else (if (((4 : Int32) * x1) + (3 : Int32)) < 0 ∨ 48 ≤ (((4 : Int32) * x1) + (3 : Int32)).toNatClampNeg then none else (if 0 ≤ ((τ2 77 x1.toNatClampNeg) - (((τ2 78 x1.toNatClampNeg) * (τ2 67 (((4 : Int32) * x1) + (3 : Int32)).toNatClampNeg)) / (100 : Int32))) then (if x1 < 0 ∨ 12 ≤ x1.toNatClampNeg then none else some (some (.int (0 : Int32)), (jm_up τ2 77 x1.toNatClampNeg ((τ2 77 x1.toNatClampNeg) - (((τ2 78 x1.toNatClampNeg) * (τ2 67 (((4 : Int32) * x1) + (3 : Int32)).toNatClampNeg)) / (100 : Int32)))))) else (if x1 < 0 ∨ 12 ≤ x1.toNatClampNeg then none else some (some (.int (0 : Int32)), (jm_up τ2 77 x1.toNatClampNeg (0 : Int32)))))))) else (if x1 < 0 ∨ 12 ≤ x1.toNatClampNeg then none else some (some (.int (0 : Int32)), (jm_up τ2 79 x1.toNatClampNeg (2 : Int32)))))) else (if x1 < 0 ∨ 12 ≤ x1.toNatClampNeg then none else (if x1 < 0 ∨ 12 ≤ x1.toNatClampNeg then none else (if (((4 : Int32) * x1) + (2 : Int32)) < 0 ∨ 48 ≤ (((4 : Int32) * x1) + (2 : Int32)).toNatClampNeg then none else (if x1 < 0 ∨ 12 ≤ x1.toNatClampNeg then none else some (some (.int (1 : Int32)), (jm_up (jm_up (jm_up τ2 79 x1.toNatClampNeg (1 : Int32)) 80 x1.toNatClampNeg x2) 81 x1.toNatClampNeg (((τ2 67 (((4 : Int32) * x1) + (2 : Int32)).toNatClampNeg) * (((jm_up σ 78 x1.toNatClampNeg (0 : Int32)) 78 x1.toNatClampNeg) - (σ 61 20))) / (10 : Int32)))))))))))))) := by
  refine (jc_of (ls1 := [some (.ref 61), some (.int x1), some (.int x2), none, none]) ((jm_ini_of jM157).trans rfl)).trans ?_
  refine (sv_aload_n jM157 c157_0 rfl rfl).trans ?_
  refine (sv_getf jM157 c157_1 rfl lf_9_59 (fg_61_27 _)).trans ?_
  refine (sv_iload_n jM157 c157_4 rfl rfl).trans ?_
  refine (sv_aload_n jM157 c157_5 rfl rfl).trans ?_
  refine (sv_getf jM157 c157_6 rfl lf_9_53 (fg_61_25 _)).trans ?_
  refine (sv_iload_n jM157 c157_9 rfl rfl).trans ?_
  refine (sv_iald jM157 c157_10 rfl (ia_76 _)).trans ?_
  refine jif _ rfl ?_
  refine (sv_bipush jM157 c157_11 rfl (v := 100) (by decide +kernel)).trans ?_
  refine (sv_icmp_gt jM157 c157_13 rfl (t := 20) (by decide +kernel)).trans ?_
  refine jif _ ?_ ?_
  ·
    refine (sv_aload_n jM157 c157_20 rfl rfl).trans ?_
    refine (sv_getf jM157 c157_21 rfl lf_9_53 (fg_61_25 _)).trans ?_
    refine (sv_iload_n jM157 c157_24 rfl rfl).trans ?_
    refine (sv_iald jM157 c157_25 rfl (ia_76 _)).trans ?_
    refine jif _ rfl ?_
    refine (sv_bipush jM157 c157_26 rfl (v := 100) (by decide +kernel)).trans ?_
    refine (sv_isub jM157 c157_28 rfl).trans ?_
    refine (sv_aload_n jM157 c157_29 rfl rfl).trans ?_
    refine (sv_getf jM157 c157_30 rfl lf_9_56 (fg_61_26 _)).trans ?_
    refine (sv_iload_n jM157 c157_33 rfl rfl).trans ?_
    refine (sv_iald jM157 c157_34 rfl (ia_77 _)).trans ?_
    refine jif _ rfl ?_
    refine (sv_imul jM157 c157_35 rfl).trans ?_
    refine (sv_bipush jM157 c157_36 rfl (v := 40) (by decide +kernel)).trans ?_
    refine (sv_idiv jM157 c157_38 rfl (by decide +kernel)).trans ?_
    refine (sv_iast jM157 c157_39 rfl wi_78).trans ?_
    refine jif _ rfl ?_
    refine (sv_aload_n jM157 c157_40 rfl rfl).trans ?_
    refine (sv_getf jM157 c157_41 rfl lf_9_59 (fg_61_27 _)).trans ?_
    refine (sv_iload_n jM157 c157_44 rfl rfl).trans ?_
    refine (sv_iald jM157 c157_45 rfl (ia_78 _)).trans ?_
    refine jif _ rfl ?_
    refine (sv_aload_n jM157 c157_46 rfl rfl).trans ?_
    refine (sv_getf jM157 c157_47 rfl lf_9_206 (fg_61_20 _)).trans ?_
    refine (sv_isub jM157 c157_50 rfl).trans ?_
    refine (sv_istore_n (ls1 := [some (.ref 61), some (.int x1), some (.int x2), some (.int (((jm_up σ 78 x1.toNatClampNeg ((((σ 76 x1.toNatClampNeg) - (100 : Int32)) * (σ 77 x1.toNatClampNeg)) / (40 : Int32))) 78 x1.toNatClampNeg) - (σ 61 20))), none]) jM157 c157_51 rfl (Nat.lt_of_lt_of_eq (by decide +kernel : 3 < 5) rfl) rfl).trans ?_
    refine (sv_iload_n jM157 c157_52 rfl rfl).trans ?_
    refine (sv_aload_n jM157 c157_53 rfl rfl).trans ?_
    refine (sv_getf jM157 c157_54 rfl lf_9_209 (fg_61_21 _)).trans ?_
    refine (sv_aload_n jM157 c157_57 rfl rfl).trans ?_
    refine (sv_iload_n jM157 c157_58 rfl rfl).trans ?_
    refine (sv_callvi (pl := 0) jM157 c157_59 rfl (jm_call_v (a := 61) (as := [(.int x1)]) (rest := [(.int (σ 61 21)), (.int (((jm_up σ 78 x1.toNatClampNeg ((((σ 76 x1.toNatClampNeg) - (100 : Int32)) * (σ 77 x1.toNatClampNeg)) / (40 : Int32))) 78 x1.toNatClampNeg) - (σ 61 20)))]) lm_9_224 rfl jM158 rfl rfl rfl rfl rfl) jM158 rfl (Or.inl rfl)).trans ?_
    refine jbi_c (fun r1 τ1 => ?_)
    refine (sv_imul jM157 c157_62 rfl).trans ?_
    refine (sv_icmp_lt jM157 c157_63 rfl (t := 103) (by decide +kernel)).trans ?_
    refine jif _ ?_ ?_
    ·
      refine (sv_aload_n jM157 c157_103 rfl rfl).trans ?_
      refine (sv_getf jM157 c157_104 rfl lf_9_53 (fg_61_25 _)).trans ?_
      refine (sv_iload_n jM157 c157_107 rfl rfl).trans ?_
      refine (sv_iald jM157 c157_108 rfl (ia_76 _)).trans ?_
      refine jif _ rfl ?_
      refine (sv_sipush jM157 c157_109 rfl (v := 250) (by decide +kernel)).trans ?_
      refine (sv_icmp_le jM157 c157_112 rfl (t := 125) (by decide +kernel)).trans ?_
      refine jif _ ?_ ?_
      ·
        refine (sv_aload_n jM157 c157_125 rfl rfl).trans ?_
        refine (sv_getf jM157 c157_126 rfl lf_9_56 (fg_61_26 _)).trans ?_
        refine (sv_iload_n jM157 c157_129 rfl rfl).trans ?_
        refine (sv_iald jM157 c157_130 rfl (ia_77 _)).trans ?_
        refine jif _ rfl ?_
        refine (sv_aload_n jM157 c157_131 rfl rfl).trans ?_
        refine (sv_getf jM157 c157_132 rfl lf_9_59 (fg_61_27 _)).trans ?_
        refine (sv_iload_n jM157 c157_135 rfl rfl).trans ?_
        refine (sv_iald jM157 c157_136 rfl (ia_78 _)).trans ?_
        refine jif _ rfl ?_
        refine (sv_aload_n jM157 c157_137 rfl rfl).trans ?_
        refine (sv_getf jM157 c157_138 rfl lf_9_25 (fg_61_7 _)).trans ?_
        refine (sv_iconst jM157 c157_141 rfl (v := 4) (by decide +kernel)).trans ?_
        refine (sv_iload_n jM157 c157_142 rfl rfl).trans ?_
        refine (sv_imul jM157 c157_143 rfl).trans ?_
        refine (sv_iconst jM157 c157_144 rfl (v := 3) (by decide +kernel)).trans ?_
        refine (sv_iadd jM157 c157_145 rfl).trans ?_
        refine (sv_iald jM157 c157_146 rfl (ia_67 _)).trans ?_
        refine jif _ rfl ?_
        refine (sv_imul jM157 c157_147 rfl).trans ?_
        refine (sv_bipush jM157 c157_148 rfl (v := 100) (by decide +kernel)).trans ?_
        refine (sv_idiv jM157 c157_150 rfl (by decide +kernel)).trans ?_
        refine (sv_isub jM157 c157_151 rfl).trans ?_
        refine (sv_istore (ls1 := [some (.ref 61), some (.int x1), some (.int x2), some (.int (((jm_up σ 78 x1.toNatClampNeg ((((σ 76 x1.toNatClampNeg) - (100 : Int32)) * (σ 77 x1.toNatClampNeg)) / (40 : Int32))) 78 x1.toNatClampNeg) - (σ 61 20))), some (.int ((τ1 77 x1.toNatClampNeg) - (((τ1 78 x1.toNatClampNeg) * (τ1 67 (((4 : Int32) * x1) + (3 : Int32)).toNatClampNeg)) / (100 : Int32))))]) jM157 c157_152 rfl (Nat.lt_of_lt_of_eq (by decide +kernel : 4 < 5) rfl) rfl).trans ?_
        refine (sv_aload_n jM157 c157_154 rfl rfl).trans ?_
        refine (sv_getf jM157 c157_155 rfl lf_9_56 (fg_61_26 _)).trans ?_
        refine (sv_iload_n jM157 c157_158 rfl rfl).trans ?_
        refine (sv_iload jM157 c157_159 rfl rfl).trans ?_
        refine (sv_if_ge jM157 c157_161 rfl (t := 168) (by decide +kernel)).trans ?_
        refine jif _ ?_ ?_
        ·
          refine (sv_iload jM157 c157_168 rfl rfl).trans ?_
          refine (sv_iast jM157 c157_170 rfl wi_77).trans ?_
          refine jif _ rfl ?_
          refine (sv_iconst jM157 c157_171 rfl (v := 0) (by decide +kernel)).trans ?_
          exact sv_zret jM157 c157_172 rfl rfl (by decide +kernel)
        ·
          refine (sv_iconst jM157 c157_164 rfl (v := 0) (by decide +kernel)).trans ?_
          refine (sv_goto jM157 c157_165 rfl (t := 170) (by decide +kernel)).trans ?_
          refine (sv_iast jM157 c157_170 rfl wi_77).trans ?_
          refine jif _ rfl ?_
          refine (sv_iconst jM157 c157_171 rfl (v := 0) (by decide +kernel)).trans ?_
          exact sv_zret jM157 c157_172 rfl rfl (by decide +kernel)
      ·
        refine (sv_aload_n jM157 c157_115 rfl rfl).trans ?_
        refine (sv_getf jM157 c157_116 rfl lf_9_62 (fg_61_28 _)).trans ?_
        refine (sv_iload_n jM157 c157_119 rfl rfl).trans ?_
        refine (sv_iconst jM157 c157_120 rfl (v := 2) (by decide +kernel)).trans ?_
        refine (sv_iast jM157 c157_121 rfl wi_79).trans ?_
        refine jif _ rfl ?_
        refine (sv_goto jM157 c157_122 rfl (t := 171) (by decide +kernel)).trans ?_
        refine (sv_iconst jM157 c157_171 rfl (v := 0) (by decide +kernel)).trans ?_
        exact sv_zret jM157 c157_172 rfl rfl (by decide +kernel)
    ·
      refine (sv_aload_n jM157 c157_66 rfl rfl).trans ?_
      refine (sv_getf jM157 c157_67 rfl lf_9_62 (fg_61_28 _)).trans ?_
      refine (sv_iload_n jM157 c157_70 rfl rfl).trans ?_
      refine (sv_iconst jM157 c157_71 rfl (v := 1) (by decide +kernel)).trans ?_
      refine (sv_iast jM157 c157_72 rfl wi_79).trans ?_
      refine jif _ rfl ?_
      refine (sv_aload_n jM157 c157_73 rfl rfl).trans ?_
      refine (sv_getf jM157 c157_74 rfl lf_9_65 (fg_61_29 _)).trans ?_
      refine (sv_iload_n jM157 c157_77 rfl rfl).trans ?_
      refine (sv_iload_n jM157 c157_78 rfl rfl).trans ?_
      refine (sv_iast jM157 c157_79 rfl wi_80).trans ?_
      refine jif _ rfl ?_
      refine (sv_aload_n jM157 c157_80 rfl rfl).trans ?_
      refine (sv_getf jM157 c157_81 rfl lf_9_68 (fg_61_30 _)).trans ?_
      refine (sv_iload_n jM157 c157_84 rfl rfl).trans ?_
      refine (sv_aload_n jM157 c157_85 rfl rfl).trans ?_
      refine (sv_getf jM157 c157_86 rfl lf_9_25 (fg_61_7 _)).trans ?_
      refine (sv_iconst jM157 c157_89 rfl (v := 4) (by decide +kernel)).trans ?_
      refine (sv_iload_n jM157 c157_90 rfl rfl).trans ?_
      refine (sv_imul jM157 c157_91 rfl).trans ?_
      refine (sv_iconst jM157 c157_92 rfl (v := 2) (by decide +kernel)).trans ?_
      refine (sv_iadd jM157 c157_93 rfl).trans ?_
      refine (sv_iald jM157 c157_94 rfl (ia_67 _)).trans ?_
      refine jif _ rfl ?_
      refine (sv_iload_n jM157 c157_95 rfl rfl).trans ?_
      refine (sv_imul jM157 c157_96 rfl).trans ?_
      refine (sv_bipush jM157 c157_97 rfl (v := 10) (by decide +kernel)).trans ?_
      refine (sv_idiv jM157 c157_99 rfl (by decide +kernel)).trans ?_
      refine (sv_iast jM157 c157_100 rfl wi_81).trans ?_
      refine jif _ rfl ?_
      refine (sv_iconst jM157 c157_101 rfl (v := 1) (by decide +kernel)).trans ?_
      exact sv_zret jM157 c157_102 rfl rfl (by decide +kernel)
  ·
    refine (sv_iconst jM157 c157_16 rfl (v := 0) (by decide +kernel)).trans ?_
    refine (sv_goto jM157 c157_17 rfl (t := 39) (by decide +kernel)).trans ?_
    refine (sv_iast jM157 c157_39 rfl wi_78).trans ?_
    refine jif _ rfl ?_
    refine (sv_aload_n jM157 c157_40 rfl rfl).trans ?_
    refine (sv_getf jM157 c157_41 rfl lf_9_59 (fg_61_27 _)).trans ?_
    refine (sv_iload_n jM157 c157_44 rfl rfl).trans ?_
    refine (sv_iald jM157 c157_45 rfl (ia_78 _)).trans ?_
    refine jif _ rfl ?_
    refine (sv_aload_n jM157 c157_46 rfl rfl).trans ?_
    refine (sv_getf jM157 c157_47 rfl lf_9_206 (fg_61_20 _)).trans ?_
    refine (sv_isub jM157 c157_50 rfl).trans ?_
    refine (sv_istore_n (ls1 := [some (.ref 61), some (.int x1), some (.int x2), some (.int (((jm_up σ 78 x1.toNatClampNeg (0 : Int32)) 78 x1.toNatClampNeg) - (σ 61 20))), none]) jM157 c157_51 rfl (Nat.lt_of_lt_of_eq (by decide +kernel : 3 < 5) rfl) rfl).trans ?_
    refine (sv_iload_n jM157 c157_52 rfl rfl).trans ?_
    refine (sv_aload_n jM157 c157_53 rfl rfl).trans ?_
    refine (sv_getf jM157 c157_54 rfl lf_9_209 (fg_61_21 _)).trans ?_
    refine (sv_aload_n jM157 c157_57 rfl rfl).trans ?_
    refine (sv_iload_n jM157 c157_58 rfl rfl).trans ?_
    refine (sv_callvi (pl := 0) jM157 c157_59 rfl (jm_call_v (a := 61) (as := [(.int x1)]) (rest := [(.int (σ 61 21)), (.int (((jm_up σ 78 x1.toNatClampNeg (0 : Int32)) 78 x1.toNatClampNeg) - (σ 61 20)))]) lm_9_224 rfl jM158 rfl rfl rfl rfl rfl) jM158 rfl (Or.inl rfl)).trans ?_
    refine jbi_c (fun r2 τ2 => ?_)
    refine (sv_imul jM157 c157_62 rfl).trans ?_
    refine (sv_icmp_lt jM157 c157_63 rfl (t := 103) (by decide +kernel)).trans ?_
    refine jif _ ?_ ?_
    ·
      refine (sv_aload_n jM157 c157_103 rfl rfl).trans ?_
      refine (sv_getf jM157 c157_104 rfl lf_9_53 (fg_61_25 _)).trans ?_
      refine (sv_iload_n jM157 c157_107 rfl rfl).trans ?_
      refine (sv_iald jM157 c157_108 rfl (ia_76 _)).trans ?_
      refine jif _ rfl ?_
      refine (sv_sipush jM157 c157_109 rfl (v := 250) (by decide +kernel)).trans ?_
      refine (sv_icmp_le jM157 c157_112 rfl (t := 125) (by decide +kernel)).trans ?_
      refine jif _ ?_ ?_
      ·
        refine (sv_aload_n jM157 c157_125 rfl rfl).trans ?_
        refine (sv_getf jM157 c157_126 rfl lf_9_56 (fg_61_26 _)).trans ?_
        refine (sv_iload_n jM157 c157_129 rfl rfl).trans ?_
        refine (sv_iald jM157 c157_130 rfl (ia_77 _)).trans ?_
        refine jif _ rfl ?_
        refine (sv_aload_n jM157 c157_131 rfl rfl).trans ?_
        refine (sv_getf jM157 c157_132 rfl lf_9_59 (fg_61_27 _)).trans ?_
        refine (sv_iload_n jM157 c157_135 rfl rfl).trans ?_
        refine (sv_iald jM157 c157_136 rfl (ia_78 _)).trans ?_
        refine jif _ rfl ?_
        refine (sv_aload_n jM157 c157_137 rfl rfl).trans ?_
        refine (sv_getf jM157 c157_138 rfl lf_9_25 (fg_61_7 _)).trans ?_
        refine (sv_iconst jM157 c157_141 rfl (v := 4) (by decide +kernel)).trans ?_
        refine (sv_iload_n jM157 c157_142 rfl rfl).trans ?_
        refine (sv_imul jM157 c157_143 rfl).trans ?_
        refine (sv_iconst jM157 c157_144 rfl (v := 3) (by decide +kernel)).trans ?_
        refine (sv_iadd jM157 c157_145 rfl).trans ?_
        refine (sv_iald jM157 c157_146 rfl (ia_67 _)).trans ?_
        refine jif _ rfl ?_
        refine (sv_imul jM157 c157_147 rfl).trans ?_
        refine (sv_bipush jM157 c157_148 rfl (v := 100) (by decide +kernel)).trans ?_
        refine (sv_idiv jM157 c157_150 rfl (by decide +kernel)).trans ?_
        refine (sv_isub jM157 c157_151 rfl).trans ?_
        refine (sv_istore (ls1 := [some (.ref 61), some (.int x1), some (.int x2), some (.int (((jm_up σ 78 x1.toNatClampNeg (0 : Int32)) 78 x1.toNatClampNeg) - (σ 61 20))), some (.int ((τ2 77 x1.toNatClampNeg) - (((τ2 78 x1.toNatClampNeg) * (τ2 67 (((4 : Int32) * x1) + (3 : Int32)).toNatClampNeg)) / (100 : Int32))))]) jM157 c157_152 rfl (Nat.lt_of_lt_of_eq (by decide +kernel : 4 < 5) rfl) rfl).trans ?_
        refine (sv_aload_n jM157 c157_154 rfl rfl).trans ?_
        refine (sv_getf jM157 c157_155 rfl lf_9_56 (fg_61_26 _)).trans ?_
        refine (sv_iload_n jM157 c157_158 rfl rfl).trans ?_
        refine (sv_iload jM157 c157_159 rfl rfl).trans ?_
        refine (sv_if_ge jM157 c157_161 rfl (t := 168) (by decide +kernel)).trans ?_
        refine jif _ ?_ ?_
        ·
          refine (sv_iload jM157 c157_168 rfl rfl).trans ?_
          refine (sv_iast jM157 c157_170 rfl wi_77).trans ?_
          refine jif _ rfl ?_
          refine (sv_iconst jM157 c157_171 rfl (v := 0) (by decide +kernel)).trans ?_
          exact sv_zret jM157 c157_172 rfl rfl (by decide +kernel)
        ·
          refine (sv_iconst jM157 c157_164 rfl (v := 0) (by decide +kernel)).trans ?_
          refine (sv_goto jM157 c157_165 rfl (t := 170) (by decide +kernel)).trans ?_
          refine (sv_iast jM157 c157_170 rfl wi_77).trans ?_
          refine jif _ rfl ?_
          refine (sv_iconst jM157 c157_171 rfl (v := 0) (by decide +kernel)).trans ?_
          exact sv_zret jM157 c157_172 rfl rfl (by decide +kernel)
      ·
        refine (sv_aload_n jM157 c157_115 rfl rfl).trans ?_
        refine (sv_getf jM157 c157_116 rfl lf_9_62 (fg_61_28 _)).trans ?_
        refine (sv_iload_n jM157 c157_119 rfl rfl).trans ?_
        refine (sv_iconst jM157 c157_120 rfl (v := 2) (by decide +kernel)).trans ?_
        refine (sv_iast jM157 c157_121 rfl wi_79).trans ?_
        refine jif _ rfl ?_
        refine (sv_goto jM157 c157_122 rfl (t := 171) (by decide +kernel)).trans ?_
        refine (sv_iconst jM157 c157_171 rfl (v := 0) (by decide +kernel)).trans ?_
        exact sv_zret jM157 c157_172 rfl rfl (by decide +kernel)
    ·
      refine (sv_aload_n jM157 c157_66 rfl rfl).trans ?_
      refine (sv_getf jM157 c157_67 rfl lf_9_62 (fg_61_28 _)).trans ?_
      refine (sv_iload_n jM157 c157_70 rfl rfl).trans ?_
      refine (sv_iconst jM157 c157_71 rfl (v := 1) (by decide +kernel)).trans ?_
      refine (sv_iast jM157 c157_72 rfl wi_79).trans ?_
      refine jif _ rfl ?_
      refine (sv_aload_n jM157 c157_73 rfl rfl).trans ?_
      refine (sv_getf jM157 c157_74 rfl lf_9_65 (fg_61_29 _)).trans ?_
      refine (sv_iload_n jM157 c157_77 rfl rfl).trans ?_
      refine (sv_iload_n jM157 c157_78 rfl rfl).trans ?_
      refine (sv_iast jM157 c157_79 rfl wi_80).trans ?_
      refine jif _ rfl ?_
      refine (sv_aload_n jM157 c157_80 rfl rfl).trans ?_
      refine (sv_getf jM157 c157_81 rfl lf_9_68 (fg_61_30 _)).trans ?_
      refine (sv_iload_n jM157 c157_84 rfl rfl).trans ?_
      refine (sv_aload_n jM157 c157_85 rfl rfl).trans ?_
      refine (sv_getf jM157 c157_86 rfl lf_9_25 (fg_61_7 _)).trans ?_
      refine (sv_iconst jM157 c157_89 rfl (v := 4) (by decide +kernel)).trans ?_
      refine (sv_iload_n jM157 c157_90 rfl rfl).trans ?_
      refine (sv_imul jM157 c157_91 rfl).trans ?_
      refine (sv_iconst jM157 c157_92 rfl (v := 2) (by decide +kernel)).trans ?_
      refine (sv_iadd jM157 c157_93 rfl).trans ?_
      refine (sv_iald jM157 c157_94 rfl (ia_67 _)).trans ?_
      refine jif _ rfl ?_
      refine (sv_iload_n jM157 c157_95 rfl rfl).trans ?_
      refine (sv_imul jM157 c157_96 rfl).trans ?_
      refine (sv_bipush jM157 c157_97 rfl (v := 10) (by decide +kernel)).trans ?_
      refine (sv_idiv jM157 c157_99 rfl (by decide +kernel)).trans ?_
      refine (sv_iast jM157 c157_100 rfl wi_81).trans ?_
      refine jif _ rfl ?_
      refine (sv_iconst jM157 c157_101 rfl (v := 1) (by decide +kernel)).trans ?_
      exact sv_zret jM157 c157_102 rfl rfl (by decide +kernel)
set_option maxRecDepth 20000 in
set_option maxHeartbeats 4000000 in
theorem M_rises_in (σ : jm_S) : jc 159 [(.ref 61)] σ = jv 159 2 [some (.ref 61), some (.int (0 : Int32)), none, none, none] [] σ := by
  refine (jc_of (ls1 := [some (.ref 61), none, none, none, none]) ((jm_ini_of jM159).trans rfl)).trans ?_
  refine (sv_iconst jM159 c159_0 rfl (v := 0) (by decide +kernel)).trans ?_
  refine (sv_istore_n (ls1 := [some (.ref 61), some (.int (0 : Int32)), none, none, none]) jM159 c159_1 rfl (Nat.lt_of_lt_of_eq (by decide +kernel : 1 < 5) rfl) rfl).trans ?_
  rfl
set_option maxRecDepth 20000 in
set_option maxHeartbeats 4000000 in
theorem M_rises_L2 (x1 : Int32) (u2 : Option Value) (u3 : Option Value) (u4 : Option Value) (σ : jm_S) : jv 159 2 [some (.ref 61), some (.int x1), u2, u3, u4] [] σ = (if (4 : Int32) ≤ x1 then some (none, σ) else jv 159 11 [some (.ref 61), some (.int x1), some (.int (0 : Int32)), some (.int (0 : Int32)), u4] [] σ) := by
  refine (sv_iload_n jM159 c159_2 rfl rfl).trans ?_
  refine (sv_iconst jM159 c159_3 rfl (v := 4) (by decide +kernel)).trans ?_
  refine (sv_icmp_ge jM159 c159_4 rfl (t := 80) (by decide +kernel)).trans ?_
  refine jif _ ?_ ?_
  ·
    exact sv_vret jM159 c159_80 rfl rfl
  ·
    refine (sv_iconst jM159 c159_7 rfl (v := 0) (by decide +kernel)).trans ?_
    refine (sv_istore_n (ls1 := [some (.ref 61), some (.int x1), some (.int (0 : Int32)), u3, u4]) jM159 c159_8 rfl (Nat.lt_of_lt_of_eq (by decide +kernel : 2 < 5) rfl) rfl).trans ?_
    refine (sv_iconst jM159 c159_9 rfl (v := 0) (by decide +kernel)).trans ?_
    refine (sv_istore_n (ls1 := [some (.ref 61), some (.int x1), some (.int (0 : Int32)), some (.int (0 : Int32)), u4]) jM159 c159_10 rfl (Nat.lt_of_lt_of_eq (by decide +kernel : 3 < 5) rfl) rfl).trans ?_
    rfl
set_option maxRecDepth 20000 in
set_option maxHeartbeats 4000000 in
theorem M_rises_L11 (x1 : Int32) (x2 : Int32) (x3 : Int32) (u4 : Option Value) (σ : jm_S) : jv 159 11 [some (.ref 61), some (.int x1), some (.int x2), some (.int x3), u4] [] σ = (if x1 < 0 ∨ 4 ≤ x1.toNatClampNeg then none else (if (σ 83 x1.toNatClampNeg) ≤ x3 then (if x1 < 0 ∨ 4 ≤ x1.toNatClampNeg then none else jv 159 2 [some (.ref 61), some (.int (x1 + 1)), some (.int x2), some (.int x3), u4] [] (jm_up σ 83 x1.toNatClampNeg x2)) else (if (((12 : Int32) * x1) + x3) < 0 ∨ 48 ≤ (((12 : Int32) * x1) + x3).toNatClampNeg then none else (if (σ 82 (((12 : Int32) * x1) + x3).toNatClampNeg) < 0 ∨ 12 ≤ (σ 82 (((12 : Int32) * x1) + x3).toNatClampNeg).toNatClampNeg then none else (if (σ 79 (σ 82 (((12 : Int32) * x1) + x3).toNatClampNeg).toNatClampNeg) = (1 : Int32) then jv 159 11 [some (.ref 61), some (.int x1), some (.int x2), some (.int (x3 + 1)), some (.int (σ 82 (((12 : Int32) * x1) + x3).toNatClampNeg))] [] σ else (if (((12 : Int32) * x1) + x2) < 0 ∨ 48 ≤ (((12 : Int32) * x1) + x2).toNatClampNeg then none else jv 159 11 [some (.ref 61), some (.int x1), some (.int (x2 + 1)), some (.int (x3 + 1)), some (.int (σ 82 (((12 : Int32) * x1) + x3).toNatClampNeg))] [] (jm_up σ 82 (((12 : Int32) * x1) + x2).toNatClampNeg (σ 82 (((12 : Int32) * x1) + x3).toNatClampNeg)))))))) := by
  refine (sv_iload_n jM159 c159_11 rfl rfl).trans ?_
  refine (sv_aload_n jM159 c159_12 rfl rfl).trans ?_
  refine (sv_getf jM159 c159_13 rfl lf_9_74 (fg_61_32 _)).trans ?_
  refine (sv_iload_n jM159 c159_16 rfl rfl).trans ?_
  refine (sv_iald jM159 c159_17 rfl (ia_83 _)).trans ?_
  refine jif _ rfl ?_
  refine (sv_icmp_ge jM159 c159_18 rfl (t := 67) (by decide +kernel)).trans ?_
  refine jif _ ?_ ?_
  ·
    refine (sv_aload_n jM159 c159_67 rfl rfl).trans ?_
    refine (sv_getf jM159 c159_68 rfl lf_9_74 (fg_61_32 _)).trans ?_
    refine (sv_iload_n jM159 c159_71 rfl rfl).trans ?_
    refine (sv_iload_n jM159 c159_72 rfl rfl).trans ?_
    refine (sv_iast jM159 c159_73 rfl wi_83).trans ?_
    refine jif _ rfl ?_
    refine (sv_iinc (ls1 := [some (.ref 61), some (.int (x1 + 1)), some (.int x2), some (.int x3), u4]) jM159 c159_74 rfl rfl (v := 1) (by decide +kernel) rfl).trans ?_
    refine (sv_goto jM159 c159_77 rfl (t := 2) (by decide +kernel)).trans ?_
    rfl
  ·
    refine (sv_aload_n jM159 c159_21 rfl rfl).trans ?_
    refine (sv_getf jM159 c159_22 rfl lf_9_71 (fg_61_31 _)).trans ?_
    refine (sv_bipush jM159 c159_25 rfl (v := 12) (by decide +kernel)).trans ?_
    refine (sv_iload_n jM159 c159_27 rfl rfl).trans ?_
    refine (sv_imul jM159 c159_28 rfl).trans ?_
    refine (sv_iload_n jM159 c159_29 rfl rfl).trans ?_
    refine (sv_iadd jM159 c159_30 rfl).trans ?_
    refine (sv_iald jM159 c159_31 rfl (ia_82 _)).trans ?_
    refine jif _ rfl ?_
    refine (sv_istore (ls1 := [some (.ref 61), some (.int x1), some (.int x2), some (.int x3), some (.int (σ 82 (((12 : Int32) * x1) + x3).toNatClampNeg))]) jM159 c159_32 rfl (Nat.lt_of_lt_of_eq (by decide +kernel : 4 < 5) rfl) rfl).trans ?_
    refine (sv_aload_n jM159 c159_34 rfl rfl).trans ?_
    refine (sv_getf jM159 c159_35 rfl lf_9_62 (fg_61_28 _)).trans ?_
    refine (sv_iload jM159 c159_38 rfl rfl).trans ?_
    refine (sv_iald jM159 c159_40 rfl (ia_79 _)).trans ?_
    refine jif _ rfl ?_
    refine (sv_iconst jM159 c159_41 rfl (v := 1) (by decide +kernel)).trans ?_
    refine (sv_icmp_eq jM159 c159_42 rfl (t := 61) (by decide +kernel)).trans ?_
    refine jif _ ?_ ?_
    ·
      refine (sv_iinc (ls1 := [some (.ref 61), some (.int x1), some (.int x2), some (.int (x3 + 1)), some (.int (σ 82 (((12 : Int32) * x1) + x3).toNatClampNeg))]) jM159 c159_61 rfl rfl (v := 1) (by decide +kernel) rfl).trans ?_
      refine (sv_goto jM159 c159_64 rfl (t := 11) (by decide +kernel)).trans ?_
      rfl
    ·
      refine (sv_aload_n jM159 c159_45 rfl rfl).trans ?_
      refine (sv_getf jM159 c159_46 rfl lf_9_71 (fg_61_31 _)).trans ?_
      refine (sv_bipush jM159 c159_49 rfl (v := 12) (by decide +kernel)).trans ?_
      refine (sv_iload_n jM159 c159_51 rfl rfl).trans ?_
      refine (sv_imul jM159 c159_52 rfl).trans ?_
      refine (sv_iload_n jM159 c159_53 rfl rfl).trans ?_
      refine (sv_iadd jM159 c159_54 rfl).trans ?_
      refine (sv_iload jM159 c159_55 rfl rfl).trans ?_
      refine (sv_iast jM159 c159_57 rfl wi_82).trans ?_
      refine jif _ rfl ?_
      refine (sv_iinc (ls1 := [some (.ref 61), some (.int x1), some (.int (x2 + 1)), some (.int x3), some (.int (σ 82 (((12 : Int32) * x1) + x3).toNatClampNeg))]) jM159 c159_58 rfl rfl (v := 1) (by decide +kernel) rfl).trans ?_
      refine (sv_iinc (ls1 := [some (.ref 61), some (.int x1), some (.int (x2 + 1)), some (.int (x3 + 1)), some (.int (σ 82 (((12 : Int32) * x1) + x3).toNatClampNeg))]) jM159 c159_61 rfl rfl (v := 1) (by decide +kernel) rfl).trans ?_
      refine (sv_goto jM159 c159_64 rfl (t := 11) (by decide +kernel)).trans ?_
      rfl
set_option maxRecDepth 20000 in
set_option maxHeartbeats 4000000 in
theorem M_shakesAll_in (σ : jm_S) : jc 155 [(.ref 61)] σ = jv 155 2 [some (.ref 61), some (.int (0 : Int32)), none, none] [] σ := by
  refine (jc_of (ls1 := [some (.ref 61), none, none, none]) ((jm_ini_of jM155).trans rfl)).trans ?_
  refine (sv_iconst jM155 c155_0 rfl (v := 0) (by decide +kernel)).trans ?_
  refine (sv_istore_n (ls1 := [some (.ref 61), some (.int (0 : Int32)), none, none]) jM155 c155_1 rfl (Nat.lt_of_lt_of_eq (by decide +kernel : 1 < 4) rfl) rfl).trans ?_
  rfl
set_option maxRecDepth 20000 in
set_option maxHeartbeats 4000000 in
theorem M_shakesAll_L2 (x1 : Int32) (u2 : Option Value) (u3 : Option Value) (σ : jm_S) : jv 155 2 [some (.ref 61), some (.int x1), u2, u3] [] σ = (if (4 : Int32) ≤ x1 then some (none, σ) else (if x1 < 0 ∨ 4 ≤ x1.toNatClampNeg then none else (if (σ 83 x1.toNatClampNeg) ≤ 0 then jv 155 2 [some (.ref 61), some (.int (x1 + 1)), u2, u3] [] σ else (if ((12 : Int32) * x1) < 0 ∨ 48 ≤ ((12 : Int32) * x1).toNatClampNeg then none else jv 155 28 [some (.ref 61), some (.int x1), some (.int (σ 82 ((12 : Int32) * x1).toNatClampNeg)), some (.int (1 : Int32))] [] σ)))) := by
  refine (sv_iload_n jM155 c155_2 rfl rfl).trans ?_
  refine (sv_iconst jM155 c155_3 rfl (v := 4) (by decide +kernel)).trans ?_
  refine (sv_icmp_ge jM155 c155_4 rfl (t := 93) (by decide +kernel)).trans ?_
  refine jif _ ?_ ?_
  ·
    exact sv_vret jM155 c155_93 rfl rfl
  ·
    refine (sv_aload_n jM155 c155_7 rfl rfl).trans ?_
    refine (sv_getf jM155 c155_8 rfl lf_9_74 (fg_61_32 _)).trans ?_
    refine (sv_iload_n jM155 c155_11 rfl rfl).trans ?_
    refine (sv_iald jM155 c155_12 rfl (ia_83 _)).trans ?_
    refine jif _ rfl ?_
    refine (sv_if_le jM155 c155_13 rfl (t := 87) (by decide +kernel)).trans ?_
    refine jif _ ?_ ?_
    ·
      refine (sv_iinc (ls1 := [some (.ref 61), some (.int (x1 + 1)), u2, u3]) jM155 c155_87 rfl rfl (v := 1) (by decide +kernel) rfl).trans ?_
      refine (sv_goto jM155 c155_90 rfl (t := 2) (by decide +kernel)).trans ?_
      rfl
    ·
      refine (sv_aload_n jM155 c155_16 rfl rfl).trans ?_
      refine (sv_getf jM155 c155_17 rfl lf_9_71 (fg_61_31 _)).trans ?_
      refine (sv_bipush jM155 c155_20 rfl (v := 12) (by decide +kernel)).trans ?_
      refine (sv_iload_n jM155 c155_22 rfl rfl).trans ?_
      refine (sv_imul jM155 c155_23 rfl).trans ?_
      refine (sv_iald jM155 c155_24 rfl (ia_82 _)).trans ?_
      refine jif _ rfl ?_
      refine (sv_istore_n (ls1 := [some (.ref 61), some (.int x1), some (.int (σ 82 ((12 : Int32) * x1).toNatClampNeg)), u3]) jM155 c155_25 rfl (Nat.lt_of_lt_of_eq (by decide +kernel : 2 < 4) rfl) rfl).trans ?_
      refine (sv_iconst jM155 c155_26 rfl (v := 1) (by decide +kernel)).trans ?_
      refine (sv_istore_n (ls1 := [some (.ref 61), some (.int x1), some (.int (σ 82 ((12 : Int32) * x1).toNatClampNeg)), some (.int (1 : Int32))]) jM155 c155_27 rfl (Nat.lt_of_lt_of_eq (by decide +kernel : 3 < 4) rfl) rfl).trans ?_
      rfl
set_option maxRecDepth 20000 in
set_option maxHeartbeats 4000000 in
theorem M_shakesAll_L28 (x1 : Int32) (x2 : Int32) (x3 : Int32) (σ : jm_S) : jv 155 28 [some (.ref 61), some (.int x1), some (.int x2), some (.int x3)] [] σ = (if x1 < 0 ∨ 4 ≤ x1.toNatClampNeg then none else (if (σ 83 x1.toNatClampNeg) ≤ x3 then (if x1 < 0 ∨ 4 ≤ x1.toNatClampNeg then none else (if ((((12 : Int32) * x1) + (σ 83 x1.toNatClampNeg)) - (1 : Int32)) < 0 ∨ 48 ≤ ((((12 : Int32) * x1) + (σ 83 x1.toNatClampNeg)) - (1 : Int32)).toNatClampNeg then none else jv 155 2 [some (.ref 61), some (.int (x1 + 1)), some (.int x2), some (.int x3)] [] (jm_up σ 82 ((((12 : Int32) * x1) + (σ 83 x1.toNatClampNeg)) - (1 : Int32)).toNatClampNeg x2))) else (if (((12 : Int32) * x1) + x3) < 0 ∨ 48 ≤ (((12 : Int32) * x1) + x3).toNatClampNeg then none else (if ((((12 : Int32) * x1) + x3) - (1 : Int32)) < 0 ∨ 48 ≤ ((((12 : Int32) * x1) + x3) - (1 : Int32)).toNatClampNeg then none else jv 155 28 [some (.ref 61), some (.int x1), some (.int x2), some (.int (x3 + 1))] [] (jm_up σ 82 ((((12 : Int32) * x1) + x3) - (1 : Int32)).toNatClampNeg (σ 82 (((12 : Int32) * x1) + x3).toNatClampNeg)))))) := by
  refine (sv_iload_n jM155 c155_28 rfl rfl).trans ?_
  refine (sv_aload_n jM155 c155_29 rfl rfl).trans ?_
  refine (sv_getf jM155 c155_30 rfl lf_9_74 (fg_61_32 _)).trans ?_
  refine (sv_iload_n jM155 c155_33 rfl rfl).trans ?_
  refine (sv_iald jM155 c155_34 rfl (ia_83 _)).trans ?_
  refine jif _ rfl ?_
  refine (sv_icmp_ge jM155 c155_35 rfl (t := 68) (by decide +kernel)).trans ?_
  refine jif _ ?_ ?_
  ·
    refine (sv_aload_n jM155 c155_68 rfl rfl).trans ?_
    refine (sv_getf jM155 c155_69 rfl lf_9_71 (fg_61_31 _)).trans ?_
    refine (sv_bipush jM155 c155_72 rfl (v := 12) (by decide +kernel)).trans ?_
    refine (sv_iload_n jM155 c155_74 rfl rfl).trans ?_
    refine (sv_imul jM155 c155_75 rfl).trans ?_
    refine (sv_aload_n jM155 c155_76 rfl rfl).trans ?_
    refine (sv_getf jM155 c155_77 rfl lf_9_74 (fg_61_32 _)).trans ?_
    refine (sv_iload_n jM155 c155_80 rfl rfl).trans ?_
    refine (sv_iald jM155 c155_81 rfl (ia_83 _)).trans ?_
    refine jif _ rfl ?_
    refine (sv_iadd jM155 c155_82 rfl).trans ?_
    refine (sv_iconst jM155 c155_83 rfl (v := 1) (by decide +kernel)).trans ?_
    refine (sv_isub jM155 c155_84 rfl).trans ?_
    refine (sv_iload_n jM155 c155_85 rfl rfl).trans ?_
    refine (sv_iast jM155 c155_86 rfl wi_82).trans ?_
    refine jif _ rfl ?_
    refine (sv_iinc (ls1 := [some (.ref 61), some (.int (x1 + 1)), some (.int x2), some (.int x3)]) jM155 c155_87 rfl rfl (v := 1) (by decide +kernel) rfl).trans ?_
    refine (sv_goto jM155 c155_90 rfl (t := 2) (by decide +kernel)).trans ?_
    rfl
  ·
    refine (sv_aload_n jM155 c155_38 rfl rfl).trans ?_
    refine (sv_getf jM155 c155_39 rfl lf_9_71 (fg_61_31 _)).trans ?_
    refine (sv_bipush jM155 c155_42 rfl (v := 12) (by decide +kernel)).trans ?_
    refine (sv_iload_n jM155 c155_44 rfl rfl).trans ?_
    refine (sv_imul jM155 c155_45 rfl).trans ?_
    refine (sv_iload_n jM155 c155_46 rfl rfl).trans ?_
    refine (sv_iadd jM155 c155_47 rfl).trans ?_
    refine (sv_iconst jM155 c155_48 rfl (v := 1) (by decide +kernel)).trans ?_
    refine (sv_isub jM155 c155_49 rfl).trans ?_
    refine (sv_aload_n jM155 c155_50 rfl rfl).trans ?_
    refine (sv_getf jM155 c155_51 rfl lf_9_71 (fg_61_31 _)).trans ?_
    refine (sv_bipush jM155 c155_54 rfl (v := 12) (by decide +kernel)).trans ?_
    refine (sv_iload_n jM155 c155_56 rfl rfl).trans ?_
    refine (sv_imul jM155 c155_57 rfl).trans ?_
    refine (sv_iload_n jM155 c155_58 rfl rfl).trans ?_
    refine (sv_iadd jM155 c155_59 rfl).trans ?_
    refine (sv_iald jM155 c155_60 rfl (ia_82 _)).trans ?_
    refine jif _ rfl ?_
    refine (sv_iast jM155 c155_61 rfl wi_82).trans ?_
    refine jif _ rfl ?_
    refine (sv_iinc (ls1 := [some (.ref 61), some (.int x1), some (.int x2), some (.int (x3 + 1))]) jM155 c155_62 rfl rfl (v := 1) (by decide +kernel) rfl).trans ?_
    refine (sv_goto jM155 c155_65 rfl (t := 28) (by decide +kernel)).trans ?_
    rfl
set_option maxRecDepth 20000 in
set_option maxHeartbeats 4000000 in
theorem M_warms_in (x1 : Int32) (x2 : Int32) (σ : jm_S) : jc 156 [(.ref 61), (.int x1), (.int x2)] σ = jv 156 2 [some (.ref 61), some (.int x1), some (.int x2), some (.int (0 : Int32)), none, none, none] [] σ := by
  refine (jc_of (ls1 := [some (.ref 61), some (.int x1), some (.int x2), none, none, none, none]) ((jm_ini_of jM156).trans rfl)).trans ?_
  refine (sv_iconst jM156 c156_0 rfl (v := 0) (by decide +kernel)).trans ?_
  refine (sv_istore_n (ls1 := [some (.ref 61), some (.int x1), some (.int x2), some (.int (0 : Int32)), none, none, none]) jM156 c156_1 rfl (Nat.lt_of_lt_of_eq (by decide +kernel : 3 < 7) rfl) rfl).trans ?_
  rfl
set_option maxRecDepth 20000 in
set_option maxHeartbeats 4000000 in
theorem M_warms_L2 (x1 : Int32) (x2 : Int32) (x3 : Int32) (u4 : Option Value) (u5 : Option Value) (u6 : Option Value) (σ : jm_S) : jv 156 2 [some (.ref 61), some (.int x1), some (.int x2), some (.int x3), u4, u5, u6] [] σ = (if (4 : Int32) ≤ x3 then some (none, σ) else jv 156 13 [some (.ref 61), some (.int x1), some (.int x2), some (.int x3), some (.int x1), some (.int (0 : Int32)), u6] [] σ) := by
  refine (sv_iload_n jM156 c156_2 rfl rfl).trans ?_
  refine (sv_iconst jM156 c156_3 rfl (v := 4) (by decide +kernel)).trans ?_
  refine (sv_icmp_ge jM156 c156_4 rfl (t := 97) (by decide +kernel)).trans ?_
  refine jif _ ?_ ?_
  ·
    exact sv_vret jM156 c156_97 rfl rfl
  ·
    refine (sv_iload_n jM156 c156_7 rfl rfl).trans ?_
    refine (sv_istore (ls1 := [some (.ref 61), some (.int x1), some (.int x2), some (.int x3), some (.int x1), u5, u6]) jM156 c156_8 rfl (Nat.lt_of_lt_of_eq (by decide +kernel : 4 < 7) rfl) rfl).trans ?_
    refine (sv_iconst jM156 c156_10 rfl (v := 0) (by decide +kernel)).trans ?_
    refine (sv_istore (ls1 := [some (.ref 61), some (.int x1), some (.int x2), some (.int x3), some (.int x1), some (.int (0 : Int32)), u6]) jM156 c156_11 rfl (Nat.lt_of_lt_of_eq (by decide +kernel : 5 < 7) rfl) rfl).trans ?_
    rfl
set_option maxRecDepth 20000 in
set_option maxHeartbeats 4000000 in
theorem M_warms_L13 (x1 : Int32) (x2 : Int32) (x3 : Int32) (x4 : Int32) (x5 : Int32) (u6 : Option Value) (σ : jm_S) : jv 156 13 [some (.ref 61), some (.int x1), some (.int x2), some (.int x3), some (.int x4), some (.int x5), u6] [] σ = (if x3 < 0 ∨ 4 ≤ x3.toNatClampNeg then none else (if (σ 83 x3.toNatClampNeg) ≤ x5 then jv 156 2 [some (.ref 61), some (.int x1), some (.int x2), some (.int (x3 + 1)), some (.int x4), some (.int x5), u6] [] σ else (if (((12 : Int32) * x3) + x5) < 0 ∨ 48 ≤ (((12 : Int32) * x3) + x5).toNatClampNeg then none else (if (σ 82 (((12 : Int32) * x3) + x5).toNatClampNeg) < 0 ∨ 12 ≤ (σ 82 (((12 : Int32) * x3) + x5).toNatClampNeg).toNatClampNeg then none else (if (σ 82 (((12 : Int32) * x3) + x5).toNatClampNeg) < 0 ∨ 12 ≤ (σ 82 (((12 : Int32) * x3) + x5).toNatClampNeg).toNatClampNeg then none else (if (σ 82 (((12 : Int32) * x3) + x5).toNatClampNeg) < 0 ∨ 12 ≤ (σ 82 (((12 : Int32) * x3) + x5).toNatClampNeg).toNatClampNeg then none else (if (σ 82 (((12 : Int32) * x3) + x5).toNatClampNeg) < 0 ∨ 12 ≤ (σ 82 (((12 : Int32) * x3) + x5).toNatClampNeg).toNatClampNeg then none else (if x2 = 0 then (if (σ 82 (((12 : Int32) * x3) + x5).toNatClampNeg) < 0 ∨ 12 ≤ (σ 82 (((12 : Int32) * x3) + x5).toNatClampNeg).toNatClampNeg then none else jv 156 13 [some (.ref 61), some (.int x1), some (.int x2), some (.int x3), some (.int (x4 / (2 : Int32))), some (.int (x5 + 1)), some (.int (σ 82 (((12 : Int32) * x3) + x5).toNatClampNeg))] [] (jm_up (jm_up σ 76 (σ 82 (((12 : Int32) * x3) + x5).toNatClampNeg).toNatClampNeg ((σ 76 (σ 82 (((12 : Int32) * x3) + x5).toNatClampNeg).toNatClampNeg) + x4)) 76 (σ 82 (((12 : Int32) * x3) + x5).toNatClampNeg).toNatClampNeg (((jm_up σ 76 (σ 82 (((12 : Int32) * x3) + x5).toNatClampNeg).toNatClampNeg ((σ 76 (σ 82 (((12 : Int32) * x3) + x5).toNatClampNeg).toNatClampNeg) + x4)) 76 (σ 82 (((12 : Int32) * x3) + x5).toNatClampNeg).toNatClampNeg) - (((jm_up σ 76 (σ 82 (((12 : Int32) * x3) + x5).toNatClampNeg).toNatClampNeg ((σ 76 (σ 82 (((12 : Int32) * x3) + x5).toNatClampNeg).toNatClampNeg) + x4)) 76 (σ 82 (((12 : Int32) * x3) + x5).toNatClampNeg).toNatClampNeg) / (32 : Int32))))) else (if (σ 82 (((12 : Int32) * x3) + x5).toNatClampNeg) < 0 ∨ 12 ≤ (σ 82 (((12 : Int32) * x3) + x5).toNatClampNeg).toNatClampNeg then none else jv 156 13 [some (.ref 61), some (.int x1), some (.int x2), some (.int x3), some (.int (x4 / (2 : Int32))), some (.int (x5 + 1)), some (.int (σ 82 (((12 : Int32) * x3) + x5).toNatClampNeg))] [] (jm_up (jm_up σ 76 (σ 82 (((12 : Int32) * x3) + x5).toNatClampNeg).toNatClampNeg ((σ 76 (σ 82 (((12 : Int32) * x3) + x5).toNatClampNeg).toNatClampNeg) + x4)) 76 (σ 82 (((12 : Int32) * x3) + x5).toNatClampNeg).toNatClampNeg (((jm_up σ 76 (σ 82 (((12 : Int32) * x3) + x5).toNatClampNeg).toNatClampNeg ((σ 76 (σ 82 (((12 : Int32) * x3) + x5).toNatClampNeg).toNatClampNeg) + x4)) 76 (σ 82 (((12 : Int32) * x3) + x5).toNatClampNeg).toNatClampNeg) - (((jm_up σ 76 (σ 82 (((12 : Int32) * x3) + x5).toNatClampNeg).toNatClampNeg ((σ 76 (σ 82 (((12 : Int32) * x3) + x5).toNatClampNeg).toNatClampNeg) + x4)) 76 (σ 82 (((12 : Int32) * x3) + x5).toNatClampNeg).toNatClampNeg) / (64 : Int32))))))))))))) := by
  refine (sv_iload jM156 c156_13 rfl rfl).trans ?_
  refine (sv_aload_n jM156 c156_15 rfl rfl).trans ?_
  refine (sv_getf jM156 c156_16 rfl lf_9_74 (fg_61_32 _)).trans ?_
  refine (sv_iload_n jM156 c156_19 rfl rfl).trans ?_
  refine (sv_iald jM156 c156_20 rfl (ia_83 _)).trans ?_
  refine jif _ rfl ?_
  refine (sv_icmp_ge jM156 c156_21 rfl (t := 91) (by decide +kernel)).trans ?_
  refine jif _ ?_ ?_
  ·
    refine (sv_iinc (ls1 := [some (.ref 61), some (.int x1), some (.int x2), some (.int (x3 + 1)), some (.int x4), some (.int x5), u6]) jM156 c156_91 rfl rfl (v := 1) (by decide +kernel) rfl).trans ?_
    refine (sv_goto jM156 c156_94 rfl (t := 2) (by decide +kernel)).trans ?_
    rfl
  ·
    refine (sv_aload_n jM156 c156_24 rfl rfl).trans ?_
    refine (sv_getf jM156 c156_25 rfl lf_9_71 (fg_61_31 _)).trans ?_
    refine (sv_bipush jM156 c156_28 rfl (v := 12) (by decide +kernel)).trans ?_
    refine (sv_iload_n jM156 c156_30 rfl rfl).trans ?_
    refine (sv_imul jM156 c156_31 rfl).trans ?_
    refine (sv_iload jM156 c156_32 rfl rfl).trans ?_
    refine (sv_iadd jM156 c156_34 rfl).trans ?_
    refine (sv_iald jM156 c156_35 rfl (ia_82 _)).trans ?_
    refine jif _ rfl ?_
    refine (sv_istore (ls1 := [some (.ref 61), some (.int x1), some (.int x2), some (.int x3), some (.int x4), some (.int x5), some (.int (σ 82 (((12 : Int32) * x3) + x5).toNatClampNeg))]) jM156 c156_36 rfl (Nat.lt_of_lt_of_eq (by decide +kernel : 6 < 7) rfl) rfl).trans ?_
    refine (sv_aload_n jM156 c156_38 rfl rfl).trans ?_
    refine (sv_getf jM156 c156_39 rfl lf_9_53 (fg_61_25 _)).trans ?_
    refine (sv_iload jM156 c156_42 rfl rfl).trans ?_
    refine (sv_dup2 jM156 c156_44 rfl ⟨rfl, rfl⟩).trans ?_
    refine (sv_iald jM156 c156_45 rfl (ia_76 _)).trans ?_
    refine jif _ rfl ?_
    refine (sv_iload jM156 c156_46 rfl rfl).trans ?_
    refine (sv_iadd jM156 c156_48 rfl).trans ?_
    refine (sv_iast jM156 c156_49 rfl wi_76).trans ?_
    refine jif _ rfl ?_
    refine (sv_aload_n jM156 c156_50 rfl rfl).trans ?_
    refine (sv_getf jM156 c156_51 rfl lf_9_53 (fg_61_25 _)).trans ?_
    refine (sv_iload jM156 c156_54 rfl rfl).trans ?_
    refine (sv_dup2 jM156 c156_56 rfl ⟨rfl, rfl⟩).trans ?_
    refine (sv_iald jM156 c156_57 rfl (ia_76 _)).trans ?_
    refine jif _ rfl ?_
    refine (sv_aload_n jM156 c156_58 rfl rfl).trans ?_
    refine (sv_getf jM156 c156_59 rfl lf_9_53 (fg_61_25 _)).trans ?_
    refine (sv_iload jM156 c156_62 rfl rfl).trans ?_
    refine (sv_iald jM156 c156_64 rfl (ia_76 _)).trans ?_
    refine jif _ rfl ?_
    refine (sv_iload_n jM156 c156_65 rfl rfl).trans ?_
    refine (sv_if_eq jM156 c156_66 rfl (t := 74) (by decide +kernel)).trans ?_
    refine jif _ ?_ ?_
    ·
      refine (sv_bipush jM156 c156_74 rfl (v := 32) (by decide +kernel)).trans ?_
      refine (sv_idiv jM156 c156_76 rfl (by decide +kernel)).trans ?_
      refine (sv_isub jM156 c156_77 rfl).trans ?_
      refine (sv_iast jM156 c156_78 rfl wi_76).trans ?_
      refine jif _ rfl ?_
      refine (sv_iload jM156 c156_79 rfl rfl).trans ?_
      refine (sv_iconst jM156 c156_81 rfl (v := 2) (by decide +kernel)).trans ?_
      refine (sv_idiv jM156 c156_82 rfl (by decide +kernel)).trans ?_
      refine (sv_istore (ls1 := [some (.ref 61), some (.int x1), some (.int x2), some (.int x3), some (.int (x4 / (2 : Int32))), some (.int x5), some (.int (σ 82 (((12 : Int32) * x3) + x5).toNatClampNeg))]) jM156 c156_83 rfl (Nat.lt_of_lt_of_eq (by decide +kernel : 4 < 7) rfl) rfl).trans ?_
      refine (sv_iinc (ls1 := [some (.ref 61), some (.int x1), some (.int x2), some (.int x3), some (.int (x4 / (2 : Int32))), some (.int (x5 + 1)), some (.int (σ 82 (((12 : Int32) * x3) + x5).toNatClampNeg))]) jM156 c156_85 rfl rfl (v := 1) (by decide +kernel) rfl).trans ?_
      refine (sv_goto jM156 c156_88 rfl (t := 13) (by decide +kernel)).trans ?_
      rfl
    ·
      refine (sv_bipush jM156 c156_69 rfl (v := 64) (by decide +kernel)).trans ?_
      refine (sv_goto jM156 c156_71 rfl (t := 76) (by decide +kernel)).trans ?_
      refine (sv_idiv jM156 c156_76 rfl (by decide +kernel)).trans ?_
      refine (sv_isub jM156 c156_77 rfl).trans ?_
      refine (sv_iast jM156 c156_78 rfl wi_76).trans ?_
      refine jif _ rfl ?_
      refine (sv_iload jM156 c156_79 rfl rfl).trans ?_
      refine (sv_iconst jM156 c156_81 rfl (v := 2) (by decide +kernel)).trans ?_
      refine (sv_idiv jM156 c156_82 rfl (by decide +kernel)).trans ?_
      refine (sv_istore (ls1 := [some (.ref 61), some (.int x1), some (.int x2), some (.int x3), some (.int (x4 / (2 : Int32))), some (.int x5), some (.int (σ 82 (((12 : Int32) * x3) + x5).toNatClampNeg))]) jM156 c156_83 rfl (Nat.lt_of_lt_of_eq (by decide +kernel : 4 < 7) rfl) rfl).trans ?_
      refine (sv_iinc (ls1 := [some (.ref 61), some (.int x1), some (.int x2), some (.int x3), some (.int (x4 / (2 : Int32))), some (.int (x5 + 1)), some (.int (σ 82 (((12 : Int32) * x3) + x5).toNatClampNeg))]) jM156 c156_85 rfl rfl (v := 1) (by decide +kernel) rfl).trans ?_
      refine (sv_goto jM156 c156_88 rfl (t := 13) (by decide +kernel)).trans ?_
      rfl
set_option maxRecDepth 20000 in
set_option maxHeartbeats 4000000 in
theorem M_isStopped_in (x1 : Int32) (x2 : Int32) (x3 : Int32) (σ : jm_S) : jc 167 [(.ref 61), (.int x1), (.int x2), (.int x3)] σ = jv 167 6 [some (.ref 61), some (.int x1), some (.int x2), some (.int x3), some (.int (0 : Int32)), some (.int (0 : Int32)), none] [] σ := by
  refine (jc_of (ls1 := [some (.ref 61), some (.int x1), some (.int x2), some (.int x3), none, none, none]) ((jm_ini_of jM167).trans rfl)).trans ?_
  refine (sv_iconst jM167 c167_0 rfl (v := 0) (by decide +kernel)).trans ?_
  refine (sv_istore (ls1 := [some (.ref 61), some (.int x1), some (.int x2), some (.int x3), some (.int (0 : Int32)), none, none]) jM167 c167_1 rfl (Nat.lt_of_lt_of_eq (by decide +kernel : 4 < 7) rfl) rfl).trans ?_
  refine (sv_iconst jM167 c167_3 rfl (v := 0) (by decide +kernel)).trans ?_
  refine (sv_istore (ls1 := [some (.ref 61), some (.int x1), some (.int x2), some (.int x3), some (.int (0 : Int32)), some (.int (0 : Int32)), none]) jM167 c167_4 rfl (Nat.lt_of_lt_of_eq (by decide +kernel : 5 < 7) rfl) rfl).trans ?_
  rfl
set_option maxRecDepth 20000 in
set_option maxHeartbeats 4000000 in
theorem M_isStopped_L6 (x1 : Int32) (x2 : Int32) (x3 : Int32) (x4 : Int32) (x5 : Int32) (u6 : Option Value) (σ : jm_S) : jv 167 6 [some (.ref 61), some (.int x1), some (.int x2), some (.int x3), some (.int x4), some (.int x5), u6] [] σ = (if (σ 61 17) ≤ x5 then (if x4 = 0 ∨ x4 = 1 then some (some (.int x4), σ) else none) else (if x5 < 0 ∨ 11 ≤ x5.toNatClampNeg then none else (if ¬ x4 = 0 then jv 167 6 [some (.ref 61), some (.int x1), some (.int x2), some (.int x3), some (.int (1 : Int32)), some (.int (x5 + 1)), some (.int (σ 75 x5.toNatClampNeg))] [] σ else (if x5 < 0 ∨ 11 ≤ x5.toNatClampNeg then none else (if ¬ (σ 74 x5.toNatClampNeg) = (116 : Int32) then (if x5 < 0 ∨ 11 ≤ x5.toNatClampNeg then none else (if ¬ (σ 74 x5.toNatClampNeg) = (110 : Int32) then (if x2 ≤ 0 then jv 167 6 [some (.ref 61), some (.int x1), some (.int x2), some (.int x3), some (.int (0 : Int32)), some (.int (x5 + 1)), some (.int (σ 75 x5.toNatClampNeg))] [] σ else (if x3 < (σ 75 x5.toNatClampNeg) then jv 167 6 [some (.ref 61), some (.int x1), some (.int x2), some (.int x3), some (.int (0 : Int32)), some (.int (x5 + 1)), some (.int (σ 75 x5.toNatClampNeg))] [] σ else jv 167 6 [some (.ref 61), some (.int x1), some (.int x2), some (.int x3), some (.int (1 : Int32)), some (.int (x5 + 1)), some (.int (σ 75 x5.toNatClampNeg))] [] σ)) else (if x2 < (σ 75 x5.toNatClampNeg) then jv 167 6 [some (.ref 61), some (.int x1), some (.int x2), some (.int x3), some (.int (0 : Int32)), some (.int (x5 + 1)), some (.int (σ 75 x5.toNatClampNeg))] [] σ else jv 167 6 [some (.ref 61), some (.int x1), some (.int x2), some (.int x3), some (.int (1 : Int32)), some (.int (x5 + 1)), some (.int (σ 75 x5.toNatClampNeg))] [] σ))) else (if x1 < (σ 75 x5.toNatClampNeg) then jv 167 6 [some (.ref 61), some (.int x1), some (.int x2), some (.int x3), some (.int (0 : Int32)), some (.int (x5 + 1)), some (.int (σ 75 x5.toNatClampNeg))] [] σ else jv 167 6 [some (.ref 61), some (.int x1), some (.int x2), some (.int x3), some (.int (1 : Int32)), some (.int (x5 + 1)), some (.int (σ 75 x5.toNatClampNeg))] [] σ)))))) := by
  refine (sv_iload jM167 c167_6 rfl rfl).trans ?_
  refine (sv_aload_n jM167 c167_8 rfl rfl).trans ?_
  refine (sv_getf jM167 c167_9 rfl lf_9_191 (fg_61_17 _)).trans ?_
  refine (sv_icmp_ge jM167 c167_12 rfl (t := 94) (by decide +kernel)).trans ?_
  refine jif _ ?_ ?_
  ·
    refine (sv_iload jM167 c167_94 rfl rfl).trans ?_
    exact sv_zretx jM167 c167_96 rfl rfl
  ·
    refine (sv_aload_n jM167 c167_15 rfl rfl).trans ?_
    refine (sv_getf jM167 c167_16 rfl lf_9_50 (fg_61_19 _)).trans ?_
    refine (sv_iload jM167 c167_19 rfl rfl).trans ?_
    refine (sv_iald jM167 c167_21 rfl (ia_75 _)).trans ?_
    refine jif _ rfl ?_
    refine (sv_istore (ls1 := [some (.ref 61), some (.int x1), some (.int x2), some (.int x3), some (.int x4), some (.int x5), some (.int (σ 75 x5.toNatClampNeg))]) jM167 c167_22 rfl (Nat.lt_of_lt_of_eq (by decide +kernel : 6 < 7) rfl) rfl).trans ?_
    refine (sv_iload jM167 c167_24 rfl rfl).trans ?_
    refine (sv_if_ne jM167 c167_26 rfl (t := 81) (by decide +kernel)).trans ?_
    refine jif _ ?_ ?_
    ·
      refine (sv_iconst jM167 c167_81 rfl (v := 1) (by decide +kernel)).trans ?_
      refine (sv_goto jM167 c167_82 rfl (t := 86) (by decide +kernel)).trans ?_
      refine (sv_istore (ls1 := [some (.ref 61), some (.int x1), some (.int x2), some (.int x3), some (.int (1 : Int32)), some (.int x5), some (.int (σ 75 x5.toNatClampNeg))]) jM167 c167_86 rfl (Nat.lt_of_lt_of_eq (by decide +kernel : 4 < 7) rfl) rfl).trans ?_
      refine (sv_iinc (ls1 := [some (.ref 61), some (.int x1), some (.int x2), some (.int x3), some (.int (1 : Int32)), some (.int (x5 + 1)), some (.int (σ 75 x5.toNatClampNeg))]) jM167 c167_88 rfl rfl (v := 1) (by decide +kernel) rfl).trans ?_
      refine (sv_goto jM167 c167_91 rfl (t := 6) (by decide +kernel)).trans ?_
      rfl
    ·
      refine (sv_aload_n jM167 c167_29 rfl rfl).trans ?_
      refine (sv_getf jM167 c167_30 rfl lf_9_47 (fg_61_18 _)).trans ?_
      refine (sv_iload jM167 c167_33 rfl rfl).trans ?_
      refine (sv_iald jM167 c167_35 rfl (ia_74 _)).trans ?_
      refine jif _ rfl ?_
      refine (sv_bipush jM167 c167_36 rfl (v := 116) (by decide +kernel)).trans ?_
      refine (sv_icmp_ne jM167 c167_38 rfl (t := 50) (by decide +kernel)).trans ?_
      refine jif _ ?_ ?_
      ·
        refine (sv_aload_n jM167 c167_50 rfl rfl).trans ?_
        refine (sv_getf jM167 c167_51 rfl lf_9_47 (fg_61_18 _)).trans ?_
        refine (sv_iload jM167 c167_54 rfl rfl).trans ?_
        refine (sv_iald jM167 c167_56 rfl (ia_74 _)).trans ?_
        refine jif _ rfl ?_
        refine (sv_bipush jM167 c167_57 rfl (v := 110) (by decide +kernel)).trans ?_
        refine (sv_icmp_ne jM167 c167_59 rfl (t := 71) (by decide +kernel)).trans ?_
        refine jif _ ?_ ?_
        ·
          refine (sv_iload_n jM167 c167_71 rfl rfl).trans ?_
          refine (sv_if_le jM167 c167_72 rfl (t := 85) (by decide +kernel)).trans ?_
          refine jif _ ?_ ?_
          ·
            refine (sv_iconst jM167 c167_85 rfl (v := 0) (by decide +kernel)).trans ?_
            refine (sv_istore (ls1 := [some (.ref 61), some (.int x1), some (.int x2), some (.int x3), some (.int (0 : Int32)), some (.int x5), some (.int (σ 75 x5.toNatClampNeg))]) jM167 c167_86 rfl (Nat.lt_of_lt_of_eq (by decide +kernel : 4 < 7) rfl) rfl).trans ?_
            refine (sv_iinc (ls1 := [some (.ref 61), some (.int x1), some (.int x2), some (.int x3), some (.int (0 : Int32)), some (.int (x5 + 1)), some (.int (σ 75 x5.toNatClampNeg))]) jM167 c167_88 rfl rfl (v := 1) (by decide +kernel) rfl).trans ?_
            refine (sv_goto jM167 c167_91 rfl (t := 6) (by decide +kernel)).trans ?_
            rfl
          ·
            refine (sv_iload_n jM167 c167_75 rfl rfl).trans ?_
            refine (sv_iload jM167 c167_76 rfl rfl).trans ?_
            refine (sv_icmp_lt jM167 c167_78 rfl (t := 85) (by decide +kernel)).trans ?_
            refine jif _ ?_ ?_
            ·
              refine (sv_iconst jM167 c167_85 rfl (v := 0) (by decide +kernel)).trans ?_
              refine (sv_istore (ls1 := [some (.ref 61), some (.int x1), some (.int x2), some (.int x3), some (.int (0 : Int32)), some (.int x5), some (.int (σ 75 x5.toNatClampNeg))]) jM167 c167_86 rfl (Nat.lt_of_lt_of_eq (by decide +kernel : 4 < 7) rfl) rfl).trans ?_
              refine (sv_iinc (ls1 := [some (.ref 61), some (.int x1), some (.int x2), some (.int x3), some (.int (0 : Int32)), some (.int (x5 + 1)), some (.int (σ 75 x5.toNatClampNeg))]) jM167 c167_88 rfl rfl (v := 1) (by decide +kernel) rfl).trans ?_
              refine (sv_goto jM167 c167_91 rfl (t := 6) (by decide +kernel)).trans ?_
              rfl
            ·
              refine (sv_iconst jM167 c167_81 rfl (v := 1) (by decide +kernel)).trans ?_
              refine (sv_goto jM167 c167_82 rfl (t := 86) (by decide +kernel)).trans ?_
              refine (sv_istore (ls1 := [some (.ref 61), some (.int x1), some (.int x2), some (.int x3), some (.int (1 : Int32)), some (.int x5), some (.int (σ 75 x5.toNatClampNeg))]) jM167 c167_86 rfl (Nat.lt_of_lt_of_eq (by decide +kernel : 4 < 7) rfl) rfl).trans ?_
              refine (sv_iinc (ls1 := [some (.ref 61), some (.int x1), some (.int x2), some (.int x3), some (.int (1 : Int32)), some (.int (x5 + 1)), some (.int (σ 75 x5.toNatClampNeg))]) jM167 c167_88 rfl rfl (v := 1) (by decide +kernel) rfl).trans ?_
              refine (sv_goto jM167 c167_91 rfl (t := 6) (by decide +kernel)).trans ?_
              rfl
        ·
          refine (sv_iload_n jM167 c167_62 rfl rfl).trans ?_
          refine (sv_iload jM167 c167_63 rfl rfl).trans ?_
          refine (sv_icmp_lt jM167 c167_65 rfl (t := 85) (by decide +kernel)).trans ?_
          refine jif _ ?_ ?_
          ·
            refine (sv_iconst jM167 c167_85 rfl (v := 0) (by decide +kernel)).trans ?_
            refine (sv_istore (ls1 := [some (.ref 61), some (.int x1), some (.int x2), some (.int x3), some (.int (0 : Int32)), some (.int x5), some (.int (σ 75 x5.toNatClampNeg))]) jM167 c167_86 rfl (Nat.lt_of_lt_of_eq (by decide +kernel : 4 < 7) rfl) rfl).trans ?_
            refine (sv_iinc (ls1 := [some (.ref 61), some (.int x1), some (.int x2), some (.int x3), some (.int (0 : Int32)), some (.int (x5 + 1)), some (.int (σ 75 x5.toNatClampNeg))]) jM167 c167_88 rfl rfl (v := 1) (by decide +kernel) rfl).trans ?_
            refine (sv_goto jM167 c167_91 rfl (t := 6) (by decide +kernel)).trans ?_
            rfl
          ·
            refine (sv_goto jM167 c167_68 rfl (t := 81) (by decide +kernel)).trans ?_
            refine (sv_iconst jM167 c167_81 rfl (v := 1) (by decide +kernel)).trans ?_
            refine (sv_goto jM167 c167_82 rfl (t := 86) (by decide +kernel)).trans ?_
            refine (sv_istore (ls1 := [some (.ref 61), some (.int x1), some (.int x2), some (.int x3), some (.int (1 : Int32)), some (.int x5), some (.int (σ 75 x5.toNatClampNeg))]) jM167 c167_86 rfl (Nat.lt_of_lt_of_eq (by decide +kernel : 4 < 7) rfl) rfl).trans ?_
            refine (sv_iinc (ls1 := [some (.ref 61), some (.int x1), some (.int x2), some (.int x3), some (.int (1 : Int32)), some (.int (x5 + 1)), some (.int (σ 75 x5.toNatClampNeg))]) jM167 c167_88 rfl rfl (v := 1) (by decide +kernel) rfl).trans ?_
            refine (sv_goto jM167 c167_91 rfl (t := 6) (by decide +kernel)).trans ?_
            rfl
      ·
        refine (sv_iload_n jM167 c167_41 rfl rfl).trans ?_
        refine (sv_iload jM167 c167_42 rfl rfl).trans ?_
        refine (sv_icmp_lt jM167 c167_44 rfl (t := 85) (by decide +kernel)).trans ?_
        refine jif _ ?_ ?_
        ·
          refine (sv_iconst jM167 c167_85 rfl (v := 0) (by decide +kernel)).trans ?_
          refine (sv_istore (ls1 := [some (.ref 61), some (.int x1), some (.int x2), some (.int x3), some (.int (0 : Int32)), some (.int x5), some (.int (σ 75 x5.toNatClampNeg))]) jM167 c167_86 rfl (Nat.lt_of_lt_of_eq (by decide +kernel : 4 < 7) rfl) rfl).trans ?_
          refine (sv_iinc (ls1 := [some (.ref 61), some (.int x1), some (.int x2), some (.int x3), some (.int (0 : Int32)), some (.int (x5 + 1)), some (.int (σ 75 x5.toNatClampNeg))]) jM167 c167_88 rfl rfl (v := 1) (by decide +kernel) rfl).trans ?_
          refine (sv_goto jM167 c167_91 rfl (t := 6) (by decide +kernel)).trans ?_
          rfl
        ·
          refine (sv_goto jM167 c167_47 rfl (t := 81) (by decide +kernel)).trans ?_
          refine (sv_iconst jM167 c167_81 rfl (v := 1) (by decide +kernel)).trans ?_
          refine (sv_goto jM167 c167_82 rfl (t := 86) (by decide +kernel)).trans ?_
          refine (sv_istore (ls1 := [some (.ref 61), some (.int x1), some (.int x2), some (.int x3), some (.int (1 : Int32)), some (.int x5), some (.int (σ 75 x5.toNatClampNeg))]) jM167 c167_86 rfl (Nat.lt_of_lt_of_eq (by decide +kernel : 4 < 7) rfl) rfl).trans ?_
          refine (sv_iinc (ls1 := [some (.ref 61), some (.int x1), some (.int x2), some (.int x3), some (.int (1 : Int32)), some (.int (x5 + 1)), some (.int (σ 75 x5.toNatClampNeg))]) jM167 c167_88 rfl rfl (v := 1) (by decide +kernel) rfl).trans ?_
          refine (sv_goto jM167 c167_91 rfl (t := 6) (by decide +kernel)).trans ?_
          rfl
set_option maxRecDepth 20000 in
set_option maxHeartbeats 4000000 in
theorem M_hold_in (x1 : Int32) (σ : jm_S) : jc 158 [(.ref 61), (.int x1)] σ = (if (((4 : Int32) * x1) + (1 : Int32)) < 0 ∨ 48 ≤ (((4 : Int32) * x1) + (1 : Int32)).toNatClampNeg then none else (if x1 < 0 ∨ 12 ≤ x1.toNatClampNeg then none else (if (1 : Int32) ≤ ((σ 67 (((4 : Int32) * x1) + (1 : Int32)).toNatClampNeg) - ((σ 77 x1.toNatClampNeg) / (20 : Int32))) then some (some (.int ((σ 67 (((4 : Int32) * x1) + (1 : Int32)).toNatClampNeg) - ((σ 77 x1.toNatClampNeg) / (20 : Int32)))), σ) else some (some (.int (1 : Int32)), σ)))) := by
  refine (jc_of (ls1 := [some (.ref 61), some (.int x1), none]) ((jm_ini_of jM158).trans rfl)).trans ?_
  refine (sv_aload_n jM158 c158_0 rfl rfl).trans ?_
  refine (sv_getf jM158 c158_1 rfl lf_9_25 (fg_61_7 _)).trans ?_
  refine (sv_iconst jM158 c158_4 rfl (v := 4) (by decide +kernel)).trans ?_
  refine (sv_iload_n jM158 c158_5 rfl rfl).trans ?_
  refine (sv_imul jM158 c158_6 rfl).trans ?_
  refine (sv_iconst jM158 c158_7 rfl (v := 1) (by decide +kernel)).trans ?_
  refine (sv_iadd jM158 c158_8 rfl).trans ?_
  refine (sv_iald jM158 c158_9 rfl (ia_67 _)).trans ?_
  refine jif _ rfl ?_
  refine (sv_aload_n jM158 c158_10 rfl rfl).trans ?_
  refine (sv_getf jM158 c158_11 rfl lf_9_56 (fg_61_26 _)).trans ?_
  refine (sv_iload_n jM158 c158_14 rfl rfl).trans ?_
  refine (sv_iald jM158 c158_15 rfl (ia_77 _)).trans ?_
  refine jif _ rfl ?_
  refine (sv_bipush jM158 c158_16 rfl (v := 20) (by decide +kernel)).trans ?_
  refine (sv_idiv jM158 c158_18 rfl (by decide +kernel)).trans ?_
  refine (sv_isub jM158 c158_19 rfl).trans ?_
  refine (sv_istore_n (ls1 := [some (.ref 61), some (.int x1), some (.int ((σ 67 (((4 : Int32) * x1) + (1 : Int32)).toNatClampNeg) - ((σ 77 x1.toNatClampNeg) / (20 : Int32))))]) jM158 c158_20 rfl (Nat.lt_of_lt_of_eq (by decide +kernel : 2 < 3) rfl) rfl).trans ?_
  refine (sv_iload_n jM158 c158_21 rfl rfl).trans ?_
  refine (sv_iconst jM158 c158_22 rfl (v := 1) (by decide +kernel)).trans ?_
  refine (sv_icmp_ge jM158 c158_23 rfl (t := 30) (by decide +kernel)).trans ?_
  refine jif _ ?_ ?_
  ·
    refine (sv_iload_n jM158 c158_30 rfl rfl).trans ?_
    exact sv_iret jM158 c158_31 rfl rfl
  ·
    refine (sv_iconst jM158 c158_26 rfl (v := 1) (by decide +kernel)).trans ?_
    refine (sv_goto jM158 c158_27 rfl (t := 31) (by decide +kernel)).trans ?_
    exact sv_iret jM158 c158_31 rfl rfl
