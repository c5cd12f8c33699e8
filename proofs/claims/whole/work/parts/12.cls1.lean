theorem hd_X0_has : yX0_has.cls ≠ "java/lang/invoke/MethodHandle" ∧ yX0_has.cls ≠ "java/lang/invoke/VarHandle" ∧ (parseMethodDescriptor yX0_has.desc).map (fun d => d.parameters.length) = some 1 := by decide +kernel
def f_Co_has (s : Sto) (i0 : Nat) (x1 : Int32) : Option (Int32) :=
  jn (some 0) (fun j1 => if (x1 : Int32) < 0 then j1 else if (s 1 i0 5 : Int32) ≤ x1 then j1 else some 1)
set_option maxRecDepth 100000 in
set_option maxHeartbeats 4000000 in
theorem c_Co_has {G : Gb} {l : Launch} {o : Sto} {L : Lng} (hG : GA G) (s : Sto) (i0 : Nat) (x1 : Int32) (h0 : V 1 i0) : CT G l (EC o L) pvP (psP s) yX0_has cX0_has 2 (some .boolean) 0 0 [.ref (ad G 1 i0), .int x1] s (f_Co_has s i0 x1) := by
  refine CT.of hG (by decide) (Nat.le_of_ble_eq_true rfl) (fun X hX => ?_)
  have hX : OX G X l cX0_has 2 "CrownTwo$Court" (some .boolean) 0 0 := hX
  show ZR G X (EC o L) pvP (psP s) 2 s [(0, .ref (ad G 1 i0)), (1, .int x1)] [] 0 _
  unfold f_Co_has
  refine z_iload_n (pc := 0) hX dX0_has_0 rfl 1 rfl ?_
  refine z_jn (P := fun j1 => ZR G X (EC o L) pvP (psP s) 2 s [] [] 16 (j1)) ?_ ?_
  · skip
    refine z_iconst (pc := 16) hX dX0_has_16 ic_0 ?_
    exact z_retPc (pc := 17) hX dX0_has_17 (by decide)
  · intro j1 hj1
    refine z_if_lt (pc := 1) (tgt := 16) hX dX0_has_1 rfl ?_ ?_
    · exact z_ls [] rfl (hj1)
    · refine z_iload_n (pc := 4) hX dX0_has_4 rfl 1 rfl ?_
      refine z_aload_n (pc := 5) hX dX0_has_5 rfl 0 rfl ?_
      refine gf_1_5C (pc := 6) hX h0 q_210 dX0_has_6 ?_
      refine z_icmp_ge (pc := 9) (tgt := 16) hX dX0_has_9 rfl ?_ ?_
      · exact z_ls [] rfl (hj1)
      · refine z_iconst (pc := 12) hX dX0_has_12 ic_1 ?_
        refine z_goto (pc := 13) (tgt := 17) hX dX0_has_13 rfl ?_
        exact z_retPc (pc := 17) hX dX0_has_17 (by decide)
theorem hd_X0_hasTwo : yX0_hasTwo.cls ≠ "java/lang/invoke/MethodHandle" ∧ yX0_hasTwo.cls ≠ "java/lang/invoke/VarHandle" ∧ (parseMethodDescriptor yX0_hasTwo.desc).map (fun d => d.parameters.length) = some 2 := by decide +kernel
def f_Co_hasTwo (s : Sto) (i0 : Nat) (x1 : Int32) (x2 : Int32) : Option (Int32) :=
  bP (f_Co_has s i0 x1) (fun r1 => jn (some 0) (fun j2 => if (r1 : Int32) = 0 then j2 else bP (f_Co_has s i0 x2) (fun r3 => if (r3 : Int32) = 0 then j2 else if (x1 : Int32) = x2 then j2 else some 1)))
set_option maxRecDepth 100000 in
set_option maxHeartbeats 4000000 in
theorem c_Co_hasTwo {G : Gb} {l : Launch} {o : Sto} {L : Lng} (hG : GA G) (s : Sto) (i0 : Nat) (x1 : Int32) (x2 : Int32) (h0 : V 1 i0) : CT G l (EC o L) pvP (psP s) yX0_hasTwo cX0_hasTwo 3 (some .boolean) 1 21 [.ref (ad G 1 i0), .int x1, .int x2] s (f_Co_hasTwo s i0 x1 x2) := by
  refine CT.of hG (by decide) (Nat.le_of_ble_eq_true rfl) (fun X hX => ?_)
  have hX : OX G X l cX0_hasTwo 3 "CrownTwo$Court" (some .boolean) 1 21 := hX
  show ZR G X (EC o L) pvP (psP s) 3 s [(0, .ref (ad G 1 i0)), (1, .int x1), (2, .int x2)] [] 0 _
  unfold f_Co_hasTwo
  refine z_aload_n (pc := 0) hX dX0_hasTwo_0 rfl 0 rfl ?_
  refine z_iload_n (pc := 1) hX dX0_hasTwo_1 rfl 1 rfl ?_
  refine z_rP (run_V (pc := 2) (As := [.int x1]) hX (rc_1 h0) ⟨q_465, q_468, q_10⟩ q_466 q_467 hd_X0_has ⟨Nat.le_of_ble_eq_true rfl, Nat.le_of_ble_eq_true rfl⟩ (c_Co_has hG s i0 x1 h0) rfl rfl (Nat.le_of_ble_eq_true rfl) dX0_hasTwo_2) (fun r1 => ?_)
  refine z_jn (P := fun j2 => ZR G X (EC o L) pvP (psP s) 3 s [] [] 25 (j2)) ?_ ?_
  · skip
    refine z_iconst (pc := 25) hX dX0_hasTwo_25 ic_0 ?_
    exact z_retPc (pc := 26) hX dX0_hasTwo_26 (by decide)
  · intro j2 hj2
    refine z_if_eq (pc := 5) (tgt := 25) hX dX0_hasTwo_5 rfl ?_ ?_
    · exact z_ls [] rfl (hj2)
    · refine z_aload_n (pc := 8) hX dX0_hasTwo_8 rfl 0 rfl ?_
      refine z_iload_n (pc := 9) hX dX0_hasTwo_9 rfl 2 rfl ?_
      refine z_rP (run_V (pc := 10) (As := [.int x2]) hX (rc_1 h0) ⟨q_465, q_468, q_10⟩ q_466 q_467 hd_X0_has ⟨Nat.le_of_ble_eq_true rfl, Nat.le_of_ble_eq_true rfl⟩ (c_Co_has hG s i0 x2 h0) rfl rfl (Nat.le_of_ble_eq_true rfl) dX0_hasTwo_10) (fun r3 => ?_)
      refine z_if_eq (pc := 13) (tgt := 25) hX dX0_hasTwo_13 rfl ?_ ?_
      · exact z_ls [] rfl (hj2)
      · refine z_iload_n (pc := 16) hX dX0_hasTwo_16 rfl 1 rfl ?_
        refine z_iload_n (pc := 17) hX dX0_hasTwo_17 rfl 2 rfl ?_
        refine z_icmp_eq (pc := 18) (tgt := 25) hX dX0_hasTwo_18 rfl ?_ ?_
        · exact z_ls [] rfl (hj2)
        · refine z_iconst (pc := 21) hX dX0_hasTwo_21 ic_1 ?_
          refine z_goto (pc := 22) (tgt := 26) hX dX0_hasTwo_22 rfl ?_
          exact z_retPc (pc := 26) hX dX0_hasTwo_26 (by decide)
theorem hd_X1_append : yX1_append.cls ≠ "java/lang/invoke/MethodHandle" ∧ yX1_append.cls ≠ "java/lang/invoke/VarHandle" ∧ (parseMethodDescriptor yX1_append.desc).map (fun d => d.parameters.length) = some 1 := by decide +kernel
def f_Tx_append (s : Sto) (x1 : Int32) : Option (Sto) :=
  if (s 5 0 1 : Int32) < 150 then if inb (s 5 0 1) 150 then lt (st s 16 0 (ix (s 5 0 1)) x1) (fun s1 => lt (st s1 5 0 1 ((s1 5 0 1) + 1)) (fun s2 => some s2)) else none else some s
set_option maxRecDepth 100000 in
set_option maxHeartbeats 4000000 in
theorem c_Tx_append {G : Gb} {l : Launch} {o : Sto} {L : Lng} (hG : GA G) (s : Sto) (x1 : Int32)  : CT G l (EC o L) pvV psV yX1_append cX1_append 2 none 0 0 [.ref (ad G 5 0), .int x1] s (f_Tx_append s x1) := by
  refine CT.of hG (by decide) (Nat.le_of_ble_eq_true rfl) (fun X hX => ?_)
  have hX : OX G X l cX1_append 2 "CrownTwo$CourtText" none 0 0 := hX
  show ZR G X (EC o L) pvV psV 2 s [(0, .ref (ad G 5 0)), (1, .int x1)] [] 0 _
  unfold f_Tx_append
  refine z_aload_n (pc := 0) hX dX1_append_0 rfl 0 rfl ?_
  refine gf_5_1C (pc := 1) hX q_36 dX1_append_1 ?_
  refine z_sipush (pc := 4) hX dX1_append_4 sp_150 ?_
  refine z_icmp_lt (pc := 7) (tgt := 11) hX dX1_append_7 rfl ?_ ?_
  · refine z_aload_n (pc := 11) hX dX1_append_11 rfl 0 rfl ?_
    refine gr_5_0C (pc := 12) hX q_35 dX1_append_12 ?_
    refine z_aload_n (pc := 15) hX dX1_append_15 rfl 0 rfl ?_
    refine gf_5_1C (pc := 16) hX q_36 dX1_append_16 ?_
    refine z_iload_n (pc := 19) hX dX1_append_19 rfl 1 rfl ?_
    refine is_16C (pc := 20) hX dX1_append_20 ?_
    refine z_lts (fun s1 => ?_)
    refine z_aload_n (pc := 21) hX dX1_append_21 rfl 0 rfl ?_
    refine z_dup (pc := 22) hX dX1_append_22 rfl ?_
    refine gf_5_1C (pc := 23) hX q_36 dX1_append_23 ?_
    refine z_iconst (pc := 26) hX dX1_append_26 ic_1 ?_
    refine z_iadd (pc := 27) hX dX1_append_27 ?_
    refine pf_5_1C (pc := 28) hX q_36 dX1_append_28 ?_
    refine z_lts (fun s2 => ?_)
    exact z_retV (pc := 31) hX dX1_append_31
  · exact z_retV (pc := 10) hX dX1_append_10
theorem hd_X1_sortAt : yX1_sortAt.cls ≠ "java/lang/invoke/MethodHandle" ∧ yX1_sortAt.cls ≠ "java/lang/invoke/VarHandle" ∧ (parseMethodDescriptor yX1_sortAt.desc).map (fun d => d.parameters.length) = some 1 := by decide +kernel
def f_Tx_sortAt (s : Sto) (x1 : Int32) : Option (Int32) :=
  if (x1 : Int32) < (s 5 0 1) then if inb x1 150 then lt ((s 16 0 (ix x1) : Int32)) (fun v2_1 => jn (jn (if (v2_1 : Int32) = 59 then some 3 else some 4) (fun j3 => if (v2_1 : Int32) < 48 then j3 else if (57 : Int32) < v2_1 then j3 else some 2)) (fun j2 => if (v2_1 : Int32) < 97 then j2 else if (122 : Int32) < v2_1 then j2 else some 1)) else none else some 0
set_option maxRecDepth 100000 in
set_option maxHeartbeats 4000000 in
theorem c_Tx_sortAt {G : Gb} {l : Launch} {o : Sto} {L : Lng} (hG : GA G) (s : Sto) (x1 : Int32)  : CT G l (EC o L) pvP (psP s) yX1_sortAt cX1_sortAt 3 (some .int) 0 0 [.ref (ad G 5 0), .int x1] s (f_Tx_sortAt s x1) := by
  refine CT.of hG (by decide) (Nat.le_of_ble_eq_true rfl) (fun X hX => ?_)
  have hX : OX G X l cX1_sortAt 3 "CrownTwo$CourtText" (some .int) 0 0 := hX
  show ZR G X (EC o L) pvP (psP s) 3 s [(0, .ref (ad G 5 0)), (1, .int x1)] [] 0 _
  unfold f_Tx_sortAt
  refine z_iload_n (pc := 0) hX dX1_sortAt_0 rfl 1 rfl ?_
  refine z_aload_n (pc := 1) hX dX1_sortAt_1 rfl 0 rfl ?_
  refine gf_5_1C (pc := 2) hX q_36 dX1_sortAt_2 ?_
  refine z_icmp_lt (pc := 5) (tgt := 10) hX dX1_sortAt_5 rfl ?_ ?_
  · refine z_aload_n (pc := 10) hX dX1_sortAt_10 rfl 0 rfl ?_
    refine gr_5_0C (pc := 11) hX q_35 dX1_sortAt_11 ?_
    refine z_iload_n (pc := 14) hX dX1_sortAt_14 rfl 1 rfl ?_
    refine ia_16C (pc := 15) hX dX1_sortAt_15 ?_
    refine z_lti (pc := 16) (fun v2_1 => ?_)
    refine z_istore_n (pc := 16) (ls' := [(2, .int v2_1), (0, .ref (ad G 5 0)), (1, .int x1)]) hX dX1_sortAt_16 rfl (by decide) rfl ?_
    refine z_iload_n (pc := 17) hX dX1_sortAt_17 rfl 0 rfl ?_
    refine z_bipush (pc := 18) hX dX1_sortAt_18 bp_97 ?_
    refine z_jn (P := fun j2 => ZR G X (EC o L) pvP (psP s) 3 s [(2, .int v2_1)] [] 31 (j2)) ?_ ?_
    · skip
      refine z_iload_n (pc := 31) hX dX1_sortAt_31 rfl 0 rfl ?_
      refine z_bipush (pc := 32) hX dX1_sortAt_32 bp_48 ?_
      refine z_jn (P := fun j3 => ZR G X (EC o L) pvP (psP s) 3 s [(2, .int v2_1)] [] 45 (j3)) ?_ ?_
      · skip
        refine z_iload_n (pc := 45) hX dX1_sortAt_45 rfl 0 rfl ?_
        refine z_bipush (pc := 46) hX dX1_sortAt_46 bp_59 ?_
        refine z_icmp_ne (pc := 48) (tgt := 55) hX dX1_sortAt_48 rfl ?_ ?_
        · refine z_iconst (pc := 55) hX dX1_sortAt_55 ic_4 ?_
          exact z_retP (pc := 56) hX dX1_sortAt_56
        · refine z_iconst (pc := 51) hX dX1_sortAt_51 ic_3 ?_
          refine z_goto (pc := 52) (tgt := 56) hX dX1_sortAt_52 rfl ?_
          exact z_retP (pc := 56) hX dX1_sortAt_56
      · intro j3 hj3
        refine z_icmp_lt (pc := 34) (tgt := 45) hX dX1_sortAt_34 rfl ?_ ?_
        · exact z_ls [0] rfl (hj3)
        · refine z_iload_n (pc := 37) hX dX1_sortAt_37 rfl 0 rfl ?_
          refine z_bipush (pc := 38) hX dX1_sortAt_38 bp_57 ?_
          refine z_icmp_gt (pc := 40) (tgt := 45) hX dX1_sortAt_40 rfl ?_ ?_
          · exact z_ls [0] rfl (hj3)
          · refine z_iconst (pc := 43) hX dX1_sortAt_43 ic_2 ?_
            exact z_retP (pc := 44) hX dX1_sortAt_44
    · intro j2 hj2
      refine z_icmp_lt (pc := 20) (tgt := 31) hX dX1_sortAt_20 rfl ?_ ?_
      · exact z_ls [0] rfl (hj2)
      · refine z_iload_n (pc := 23) hX dX1_sortAt_23 rfl 0 rfl ?_
        refine z_bipush (pc := 24) hX dX1_sortAt_24 bp_122 ?_
        refine z_icmp_gt (pc := 26) (tgt := 31) hX dX1_sortAt_26 rfl ?_ ?_
        · exact z_ls [0] rfl (hj2)
        · refine z_iconst (pc := 29) hX dX1_sortAt_29 ic_1 ?_
          exact z_retP (pc := 30) hX dX1_sortAt_30
  · refine z_iconst (pc := 8) hX dX1_sortAt_8 ic_0 ?_
    exact z_retP (pc := 9) hX dX1_sortAt_9
theorem hd_X3_put : yX3_put.cls ≠ "java/lang/invoke/MethodHandle" ∧ yX3_put.cls ≠ "java/lang/invoke/VarHandle" ∧ (parseMethodDescriptor yX3_put.desc).map (fun d => d.parameters.length) = some 4 := by decide +kernel
def f_He_put (s : Sto) (i0 : Nat) (x1 : Int32) (x2 : Int32) (x3 : Int32) (x4 : Int32) : Option (Sto) :=
  lt (st s 2 i0 0 x1) (fun s1 => lt (st s1 2 i0 1 x2) (fun s2 => lt (st s2 2 i0 2 x3) (fun s3 => lt (st s3 2 i0 3 x4) (fun s4 => some s4))))
set_option maxRecDepth 100000 in
set_option maxHeartbeats 4000000 in
theorem c_He_put {G : Gb} {l : Launch} {o : Sto} {L : Lng} (hG : GA G) (s : Sto) (i0 : Nat) (x1 : Int32) (x2 : Int32) (x3 : Int32) (x4 : Int32) (h0 : V 2 i0) : CT G l (EC o L) pvV psV yX3_put cX3_put 5 none 0 0 [.ref (ad G 2 i0), .int x1, .int x2, .int x3, .int x4] s (f_He_put s i0 x1 x2 x3 x4) := by
  refine CT.of hG (by decide) (Nat.le_of_ble_eq_true rfl) (fun X hX => ?_)
  have hX : OX G X l cX3_put 5 "CrownTwo$Heir" none 0 0 := hX
  show ZR G X (EC o L) pvV psV 5 s [(0, .ref (ad G 2 i0)), (1, .int x1), (2, .int x2), (3, .int x3), (4, .int x4)] [] 0 _
  unfold f_He_put
  refine z_aload_n (pc := 0) hX dX3_put_0 rfl 0 rfl ?_
  refine z_iload_n (pc := 1) hX dX3_put_1 rfl 1 rfl ?_
  refine pf_2_0C (pc := 2) hX h0 q_153 dX3_put_2 ?_
  refine z_lts (fun s1 => ?_)
  refine z_aload_n (pc := 5) hX dX3_put_5 rfl 0 rfl ?_
  refine z_iload_n (pc := 6) hX dX3_put_6 rfl 2 rfl ?_
  refine pf_2_1C (pc := 7) hX h0 q_156 dX3_put_7 ?_
  refine z_lts (fun s2 => ?_)
  refine z_aload_n (pc := 10) hX dX3_put_10 rfl 0 rfl ?_
  refine z_iload_n (pc := 11) hX dX3_put_11 rfl 3 rfl ?_
  refine pf_2_2C (pc := 12) hX h0 q_159 dX3_put_12 ?_
  refine z_lts (fun s3 => ?_)
  refine z_aload_n (pc := 15) hX dX3_put_15 rfl 0 rfl ?_
  refine z_iload (pc := 16) hX dX3_put_16 4 rfl ?_
  refine pf_2_3C (pc := 18) hX h0 q_162 dX3_put_18 ?_
  refine z_lts (fun s4 => ?_)
  exact z_retV (pc := 21) hX dX3_put_21
theorem hd_X3_feel : yX3_feel.cls ≠ "java/lang/invoke/MethodHandle" ∧ yX3_feel.cls ≠ "java/lang/invoke/VarHandle" ∧ (parseMethodDescriptor yX3_feel.desc).map (fun d => d.parameters.length) = some 2 := by decide +kernel
def f_He_feel (s : Sto) (i0 : Nat) (x1 : Int32) (x2 : Int32) : Option (Sto) :=
  lt (st s 2 i0 1 x1) (fun s1 => lt (st s1 2 i0 2 x2) (fun s2 => some s2))
set_option maxRecDepth 100000 in
set_option maxHeartbeats 4000000 in
theorem c_He_feel {G : Gb} {l : Launch} {o : Sto} {L : Lng} (hG : GA G) (s : Sto) (i0 : Nat) (x1 : Int32) (x2 : Int32) (h0 : V 2 i0) : CT G l (EC o L) pvV psV yX3_feel cX3_feel 3 none 0 0 [.ref (ad G 2 i0), .int x1, .int x2] s (f_He_feel s i0 x1 x2) := by
  refine CT.of hG (by decide) (Nat.le_of_ble_eq_true rfl) (fun X hX => ?_)
  have hX : OX G X l cX3_feel 3 "CrownTwo$Heir" none 0 0 := hX
  show ZR G X (EC o L) pvV psV 3 s [(0, .ref (ad G 2 i0)), (1, .int x1), (2, .int x2)] [] 0 _
  unfold f_He_feel
  refine z_aload_n (pc := 0) hX dX3_feel_0 rfl 0 rfl ?_
  refine z_iload_n (pc := 1) hX dX3_feel_1 rfl 1 rfl ?_
  refine pf_2_1C (pc := 2) hX h0 q_156 dX3_feel_2 ?_
  refine z_lts (fun s1 => ?_)
  refine z_aload_n (pc := 5) hX dX3_feel_5 rfl 0 rfl ?_
  refine z_iload_n (pc := 6) hX dX3_feel_6 rfl 2 rfl ?_
  refine pf_2_2C (pc := 7) hX h0 q_159 dX3_feel_7 ?_
  refine z_lts (fun s2 => ?_)
  exact z_retV (pc := 10) hX dX3_feel_10
theorem hd_X3_become : yX3_become.cls ≠ "java/lang/invoke/MethodHandle" ∧ yX3_become.cls ≠ "java/lang/invoke/VarHandle" ∧ (parseMethodDescriptor yX3_become.desc).map (fun d => d.parameters.length) = some 1 := by decide +kernel
def f_He_become (s : Sto) (i0 : Nat) (i1 : Nat) : Option (Sto) :=
  bV (f_He_put s i0 (s 2 i1 0) (s 2 i1 1) (s 2 i1 2) (s 2 i1 3)) (fun s1 => some s1)
set_option maxRecDepth 100000 in
set_option maxHeartbeats 4000000 in
theorem c_He_become {G : Gb} {l : Launch} {o : Sto} {L : Lng} (hG : GA G) (s : Sto) (i0 : Nat) (i1 : Nat) (h0 : V 2 i0) (h1 : V 2 i1) : CT G l (EC o L) pvV psV yX3_become cX3_become 2 none 1 24 [.ref (ad G 2 i0), .ref (ad G 2 i1)] s (f_He_become s i0 i1) := by
  refine CT.of hG (by decide) (Nat.le_of_ble_eq_true rfl) (fun X hX => ?_)
  have hX : OX G X l cX3_become 2 "CrownTwo$Heir" none 1 24 := hX
  show ZR G X (EC o L) pvV psV 2 s [(0, .ref (ad G 2 i0)), (1, .ref (ad G 2 i1))] [] 0 _
  unfold f_He_become
  refine z_aload_n (pc := 0) hX dX3_become_0 rfl 0 rfl ?_
  refine z_aload_n (pc := 1) hX dX3_become_1 rfl 1 rfl ?_
  refine gf_2_0C (pc := 2) hX h1 q_153 dX3_become_2 ?_
  refine z_aload_n (pc := 5) hX dX3_become_5 rfl 1 rfl ?_
  refine gf_2_1C (pc := 6) hX h1 q_156 dX3_become_6 ?_
  refine z_aload_n (pc := 9) hX dX3_become_9 rfl 1 rfl ?_
  refine gf_2_2C (pc := 10) hX h1 q_159 dX3_become_10 ?_
  refine z_aload_n (pc := 13) hX dX3_become_13 rfl 1 rfl ?_
  refine gf_2_3C (pc := 14) hX h1 q_162 dX3_become_14 ?_
  refine z_rV (run_V (pc := 17) (As := [.int (s 2 i1 0), .int (s 2 i1 1), .int (s 2 i1 2), .int (s 2 i1 3)]) hX (rc_2 h0) ⟨q_447, q_315, q_11⟩ q_313 q_314 hd_X3_put ⟨Nat.le_of_ble_eq_true rfl, Nat.le_of_ble_eq_true rfl⟩ (c_He_put hG s i0 (s 2 i1 0) (s 2 i1 1) (s 2 i1 2) (s 2 i1 3) h0) rfl rfl (Nat.le_of_ble_eq_true rfl) dX3_become_17) (fun s1 => ?_)
  exact z_retV (pc := 20) hX dX3_become_20
theorem hd_X3_likesAlone : yX3_likesAlone.cls ≠ "java/lang/invoke/MethodHandle" ∧ yX3_likesAlone.cls ≠ "java/lang/invoke/VarHandle" ∧ (parseMethodDescriptor yX3_likesAlone.desc).map (fun d => d.parameters.length) = some 1 := by decide +kernel
def f_He_likesAlone (s : Sto) (i0 : Nat) (x1 : Int32) : Option (Int32) :=
  if (((s 2 i0 1) &&& ((s 2 i0 2) ^^^ ((-1)))) &&& (1 <<< (x1 &&& 31)) : Int32) = 0 then some 0 else some 1
set_option maxRecDepth 100000 in
set_option maxHeartbeats 4000000 in
theorem c_He_likesAlone {G : Gb} {l : Launch} {o : Sto} {L : Lng} (hG : GA G) (s : Sto) (i0 : Nat) (x1 : Int32) (h0 : V 2 i0) : CT G l (EC o L) pvP (psP s) yX3_likesAlone cX3_likesAlone 2 (some .boolean) 0 0 [.ref (ad G 2 i0), .int x1] s (f_He_likesAlone s i0 x1) := by
  refine CT.of hG (by decide) (Nat.le_of_ble_eq_true rfl) (fun X hX => ?_)
  have hX : OX G X l cX3_likesAlone 2 "CrownTwo$Heir" (some .boolean) 0 0 := hX
  show ZR G X (EC o L) pvP (psP s) 2 s [(0, .ref (ad G 2 i0)), (1, .int x1)] [] 0 _
  unfold f_He_likesAlone
  refine z_aload_n (pc := 0) hX dX3_likesAlone_0 rfl 0 rfl ?_
  refine gf_2_1C (pc := 1) hX h0 q_156 dX3_likesAlone_1 ?_
  refine z_aload_n (pc := 4) hX dX3_likesAlone_4 rfl 0 rfl ?_
  refine gf_2_2C (pc := 5) hX h0 q_159 dX3_likesAlone_5 ?_
  refine z_iconst (pc := 8) hX dX3_likesAlone_8 ic_m1 ?_
  refine z_ixor (pc := 9) hX dX3_likesAlone_9 ?_
  refine z_iand (pc := 10) hX dX3_likesAlone_10 ?_
  refine z_iconst (pc := 11) hX dX3_likesAlone_11 ic_1 ?_
  refine z_iload_n (pc := 12) hX dX3_likesAlone_12 rfl 1 rfl ?_
  refine z_ishl (pc := 13) hX dX3_likesAlone_13 ?_
  refine z_iand (pc := 14) hX dX3_likesAlone_14 ?_
  refine z_if_eq (pc := 15) (tgt := 22) hX dX3_likesAlone_15 rfl ?_ ?_
  · refine z_iconst (pc := 22) hX dX3_likesAlone_22 ic_0 ?_
    exact z_retPc (pc := 23) hX dX3_likesAlone_23 (by decide)
  · refine z_iconst (pc := 18) hX dX3_likesAlone_18 ic_1 ?_
    refine z_goto (pc := 19) (tgt := 23) hX dX3_likesAlone_19 rfl ?_
    exact z_retPc (pc := 23) hX dX3_likesAlone_23 (by decide)
theorem hd_X3_hatesAlone : yX3_hatesAlone.cls ≠ "java/lang/invoke/MethodHandle" ∧ yX3_hatesAlone.cls ≠ "java/lang/invoke/VarHandle" ∧ (parseMethodDescriptor yX3_hatesAlone.desc).map (fun d => d.parameters.length) = some 1 := by decide +kernel
def f_He_hatesAlone (s : Sto) (i0 : Nat) (x1 : Int32) : Option (Int32) :=
  if (((s 2 i0 2) &&& ((s 2 i0 1) ^^^ ((-1)))) &&& (1 <<< (x1 &&& 31)) : Int32) = 0 then some 0 else some 1
set_option maxRecDepth 100000 in
set_option maxHeartbeats 4000000 in
theorem c_He_hatesAlone {G : Gb} {l : Launch} {o : Sto} {L : Lng} (hG : GA G) (s : Sto) (i0 : Nat) (x1 : Int32) (h0 : V 2 i0) : CT G l (EC o L) pvP (psP s) yX3_hatesAlone cX3_hatesAlone 2 (some .boolean) 0 0 [.ref (ad G 2 i0), .int x1] s (f_He_hatesAlone s i0 x1) := by
  refine CT.of hG (by decide) (Nat.le_of_ble_eq_true rfl) (fun X hX => ?_)
  have hX : OX G X l cX3_hatesAlone 2 "CrownTwo$Heir" (some .boolean) 0 0 := hX
  show ZR G X (EC o L) pvP (psP s) 2 s [(0, .ref (ad G 2 i0)), (1, .int x1)] [] 0 _
  unfold f_He_hatesAlone
  refine z_aload_n (pc := 0) hX dX3_hatesAlone_0 rfl 0 rfl ?_
  refine gf_2_2C (pc := 1) hX h0 q_159 dX3_hatesAlone_1 ?_
  refine z_aload_n (pc := 4) hX dX3_hatesAlone_4 rfl 0 rfl ?_
  refine gf_2_1C (pc := 5) hX h0 q_156 dX3_hatesAlone_5 ?_
  refine z_iconst (pc := 8) hX dX3_hatesAlone_8 ic_m1 ?_
  refine z_ixor (pc := 9) hX dX3_hatesAlone_9 ?_
  refine z_iand (pc := 10) hX dX3_hatesAlone_10 ?_
  refine z_iconst (pc := 11) hX dX3_hatesAlone_11 ic_1 ?_
  refine z_iload_n (pc := 12) hX dX3_hatesAlone_12 rfl 1 rfl ?_
  refine z_ishl (pc := 13) hX dX3_hatesAlone_13 ?_
  refine z_iand (pc := 14) hX dX3_hatesAlone_14 ?_
  refine z_if_eq (pc := 15) (tgt := 22) hX dX3_hatesAlone_15 rfl ?_ ?_
  · refine z_iconst (pc := 22) hX dX3_hatesAlone_22 ic_0 ?_
    exact z_retPc (pc := 23) hX dX3_hatesAlone_23 (by decide)
  · refine z_iconst (pc := 18) hX dX3_hatesAlone_18 ic_1 ?_
    refine z_goto (pc := 19) (tgt := 23) hX dX3_hatesAlone_19 rfl ?_
    exact z_retPc (pc := 23) hX dX3_hatesAlone_23 (by decide)
theorem hd_X3_addTo : yX3_addTo.cls ≠ "java/lang/invoke/MethodHandle" ∧ yX3_addTo.cls ≠ "java/lang/invoke/VarHandle" ∧ (parseMethodDescriptor yX3_addTo.desc).map (fun d => d.parameters.length) = some 1 := by decide +kernel
def f_He_addTo (s : Sto) (i0 : Nat) (x1 : Int64) : Option (Int64) :=
  lt (((31 * x1) + (Int32.toInt64 (s 2 i0 0)) : Int64)) (fun v3_1 => lt (((31 * v3_1) + (Int32.toInt64 (s 2 i0 1)) : Int64)) (fun v3_2 => lt (((31 * v3_2) + (Int32.toInt64 (s 2 i0 2)) : Int64)) (fun v3_3 => some ((31 * v3_3) + (Int32.toInt64 (s 2 i0 3))))))
set_option maxRecDepth 100000 in
set_option maxHeartbeats 4000000 in
theorem c_He_addTo {G : Gb} {l : Launch} {o : Sto} {L : Lng} (hG : GA G) (s : Sto) (i0 : Nat) (x1 : Int64) (h0 : V 2 i0) : CT G l (EC o L) pvL (psP s) yX3_addTo cX3_addTo 5 (some .long) 0 0 [.ref (ad G 2 i0), .long x1] s (f_He_addTo s i0 x1) := by
  refine CT.of hG (by decide) (Nat.le_of_ble_eq_true rfl) (fun X hX => ?_)
  have hX : OX G X l cX3_addTo 5 "CrownTwo$Heir" (some .long) 0 0 := hX
  show ZR G X (EC o L) pvL (psP s) 5 s [(0, .ref (ad G 2 i0)), (1, .long x1)] [] 0 _
  unfold f_He_addTo
  refine z_ldc2 (pc := 0) hX q_789 dX3_addTo_0 ?_
  refine z_lload_n (pc := 3) hX dX3_addTo_3 rfl 1 rfl ?_
  refine z_lmul (pc := 4) hX dX3_addTo_4 ?_
  refine z_aload_n (pc := 5) hX dX3_addTo_5 rfl 0 rfl ?_
  refine gf_2_0C (pc := 6) hX h0 q_153 dX3_addTo_6 ?_
  refine z_i2l (pc := 9) hX dX3_addTo_9 ?_
  refine z_ladd (pc := 10) hX dX3_addTo_10 ?_
  refine z_ltl (pc := 11) (fun v3_1 => ?_)
  refine z_lstore_n (pc := 11) (ls' := [(3, .long v3_1), (0, .ref (ad G 2 i0)), (1, .long x1)]) hX dX3_addTo_11 rfl (by decide) rfl ?_
  refine z_ldc2 (pc := 12) hX q_789 dX3_addTo_12 ?_
  refine z_lload_n (pc := 15) hX dX3_addTo_15 rfl 0 rfl ?_
  refine z_lmul (pc := 16) hX dX3_addTo_16 ?_
  refine z_aload_n (pc := 17) hX dX3_addTo_17 rfl 1 rfl ?_
  refine gf_2_1C (pc := 18) hX h0 q_156 dX3_addTo_18 ?_
  refine z_i2l (pc := 21) hX dX3_addTo_21 ?_
  refine z_ladd (pc := 22) hX dX3_addTo_22 ?_
  refine z_ltl (pc := 23) (fun v3_2 => ?_)
  refine z_lstore_n (pc := 23) (ls' := [(3, .long v3_2), (0, .ref (ad G 2 i0)), (1, .long x1)]) hX dX3_addTo_23 rfl (by decide) rfl ?_
  refine z_ldc2 (pc := 24) hX q_789 dX3_addTo_24 ?_
  refine z_lload_n (pc := 27) hX dX3_addTo_27 rfl 0 rfl ?_
  refine z_lmul (pc := 28) hX dX3_addTo_28 ?_
  refine z_aload_n (pc := 29) hX dX3_addTo_29 rfl 1 rfl ?_
  refine gf_2_2C (pc := 30) hX h0 q_159 dX3_addTo_30 ?_
  refine z_i2l (pc := 33) hX dX3_addTo_33 ?_
  refine z_ladd (pc := 34) hX dX3_addTo_34 ?_
  refine z_ltl (pc := 35) (fun v3_3 => ?_)
  refine z_lstore_n (pc := 35) (ls' := [(3, .long v3_3), (0, .ref (ad G 2 i0)), (1, .long x1)]) hX dX3_addTo_35 rfl (by decide) rfl ?_
  refine z_ldc2 (pc := 36) hX q_789 dX3_addTo_36 ?_
  refine z_lload_n (pc := 39) hX dX3_addTo_39 rfl 0 rfl ?_
  refine z_lmul (pc := 40) hX dX3_addTo_40 ?_
  refine z_aload_n (pc := 41) hX dX3_addTo_41 rfl 1 rfl ?_
  refine gf_2_3C (pc := 42) hX h0 q_162 dX3_addTo_42 ?_
  refine z_i2l (pc := 45) hX dX3_addTo_45 ?_
  refine z_ladd (pc := 46) hX dX3_addTo_46 ?_
  exact z_retL (pc := 47) hX dX3_addTo_47
theorem hd_X5_begin : yX5_begin.cls ≠ "java/lang/invoke/MethodHandle" ∧ yX5_begin.cls ≠ "java/lang/invoke/VarHandle" ∧ (parseMethodDescriptor yX5_begin.desc).map (fun d => d.parameters.length) = some 1 := by decide +kernel
def f_Mo_begin (s : Sto) (i0 : Nat) (x1 : Int32) : Option (Sto) :=
  lt (st s 4 i0 0 x1) (fun s1 => lt (st s1 4 i0 1 0) (fun s2 => lt (st s2 4 i0 2 0) (fun s3 => lt (st s3 4 i0 3 ((-1))) (fun s4 => lt (st s4 4 i0 4 ((-1))) (fun s5 => some s5)))))
set_option maxRecDepth 100000 in
set_option maxHeartbeats 4000000 in
theorem c_Mo_begin {G : Gb} {l : Launch} {o : Sto} {L : Lng} (hG : GA G) (s : Sto) (i0 : Nat) (x1 : Int32) (h0 : V 4 i0) : CT G l (EC o L) pvV psV yX5_begin cX5_begin 2 none 0 0 [.ref (ad G 4 i0), .int x1] s (f_Mo_begin s i0 x1) := by
  refine CT.of hG (by decide) (Nat.le_of_ble_eq_true rfl) (fun X hX => ?_)
  have hX : OX G X l cX5_begin 2 "CrownTwo$Moment" none 0 0 := hX
  show ZR G X (EC o L) pvV psV 2 s [(0, .ref (ad G 4 i0)), (1, .int x1)] [] 0 _
  unfold f_Mo_begin
  refine z_aload_n (pc := 0) hX dX5_begin_0 rfl 0 rfl ?_
  refine z_iload_n (pc := 1) hX dX5_begin_1 rfl 1 rfl ?_
  refine pf_4_0C (pc := 2) hX h0 q_64 dX5_begin_2 ?_
  refine z_lts (fun s1 => ?_)
  refine z_aload_n (pc := 5) hX dX5_begin_5 rfl 0 rfl ?_
  refine z_iconst (pc := 6) hX dX5_begin_6 ic_0 ?_
  refine pf_4_1C (pc := 7) hX h0 q_67 dX5_begin_7 ?_
  refine z_lts (fun s2 => ?_)
  refine z_aload_n (pc := 10) hX dX5_begin_10 rfl 0 rfl ?_
  refine z_iconst (pc := 11) hX dX5_begin_11 ic_0 ?_
  refine pf_4_2C (pc := 12) hX h0 q_70 dX5_begin_12 ?_
  refine z_lts (fun s3 => ?_)
  refine z_aload_n (pc := 15) hX dX5_begin_15 rfl 0 rfl ?_
  refine z_iconst (pc := 16) hX dX5_begin_16 ic_m1 ?_
  refine pf_4_3C (pc := 17) hX h0 q_73 dX5_begin_17 ?_
  refine z_lts (fun s4 => ?_)
  refine z_aload_n (pc := 20) hX dX5_begin_20 rfl 0 rfl ?_
  refine z_iconst (pc := 21) hX dX5_begin_21 ic_m1 ?_
  refine pf_4_4C (pc := 22) hX h0 q_77 dX5_begin_22 ?_
  refine z_lts (fun s5 => ?_)
  exact z_retV (pc := 25) hX dX5_begin_25
theorem hd_X5_become : yX5_become.cls ≠ "java/lang/invoke/MethodHandle" ∧ yX5_become.cls ≠ "java/lang/invoke/VarHandle" ∧ (parseMethodDescriptor yX5_become.desc).map (fun d => d.parameters.length) = some 1 := by decide +kernel
def f_Mo_become (s : Sto) (i0 : Nat) (i1 : Nat) : Option (Sto) :=
  lt (st s 4 i0 0 (s 4 i1 0)) (fun s1 => lt (st s1 4 i0 1 (s1 4 i1 1)) (fun s2 => lt (st s2 4 i0 2 (s2 4 i1 2)) (fun s3 => lt (st s3 4 i0 3 (s3 4 i1 3)) (fun s4 => lt (st s4 4 i0 4 (s4 4 i1 4)) (fun s5 => some s5)))))
set_option maxRecDepth 100000 in
set_option maxHeartbeats 4000000 in
theorem c_Mo_become {G : Gb} {l : Launch} {o : Sto} {L : Lng} (hG : GA G) (s : Sto) (i0 : Nat) (i1 : Nat) (h0 : V 4 i0) (h1 : V 4 i1) : CT G l (EC o L) pvV psV yX5_become cX5_become 2 none 0 0 [.ref (ad G 4 i0), .ref (ad G 4 i1)] s (f_Mo_become s i0 i1) := by
  refine CT.of hG (by decide) (Nat.le_of_ble_eq_true rfl) (fun X hX => ?_)
  have hX : OX G X l cX5_become 2 "CrownTwo$Moment" none 0 0 := hX
  show ZR G X (EC o L) pvV psV 2 s [(0, .ref (ad G 4 i0)), (1, .ref (ad G 4 i1))] [] 0 _
  unfold f_Mo_become
  refine z_aload_n (pc := 0) hX dX5_become_0 rfl 0 rfl ?_
  refine z_aload_n (pc := 1) hX dX5_become_1 rfl 1 rfl ?_
  refine gf_4_0C (pc := 2) hX h1 q_64 dX5_become_2 ?_
  refine pf_4_0C (pc := 5) hX h0 q_64 dX5_become_5 ?_
  refine z_lts (fun s1 => ?_)
  refine z_aload_n (pc := 8) hX dX5_become_8 rfl 0 rfl ?_
  refine z_aload_n (pc := 9) hX dX5_become_9 rfl 1 rfl ?_
  refine gf_4_1C (pc := 10) hX h1 q_67 dX5_become_10 ?_
  refine pf_4_1C (pc := 13) hX h0 q_67 dX5_become_13 ?_
  refine z_lts (fun s2 => ?_)
  refine z_aload_n (pc := 16) hX dX5_become_16 rfl 0 rfl ?_
  refine z_aload_n (pc := 17) hX dX5_become_17 rfl 1 rfl ?_
  refine gf_4_2C (pc := 18) hX h1 q_70 dX5_become_18 ?_
  refine pf_4_2C (pc := 21) hX h0 q_70 dX5_become_21 ?_
  refine z_lts (fun s3 => ?_)
  refine z_aload_n (pc := 24) hX dX5_become_24 rfl 0 rfl ?_
  refine z_aload_n (pc := 25) hX dX5_become_25 rfl 1 rfl ?_
  refine gf_4_3C (pc := 26) hX h1 q_73 dX5_become_26 ?_
  refine pf_4_3C (pc := 29) hX h0 q_73 dX5_become_29 ?_
  refine z_lts (fun s4 => ?_)
  refine z_aload_n (pc := 32) hX dX5_become_32 rfl 0 rfl ?_
  refine z_aload_n (pc := 33) hX dX5_become_33 rfl 1 rfl ?_
  refine gf_4_4C (pc := 34) hX h1 q_77 dX5_become_34 ?_
  refine pf_4_4C (pc := 37) hX h0 q_77 dX5_become_37 ?_
  refine z_lts (fun s5 => ?_)
  exact z_retV (pc := 40) hX dX5_become_40
theorem hd_X5_warm : yX5_warm.cls ≠ "java/lang/invoke/MethodHandle" ∧ yX5_warm.cls ≠ "java/lang/invoke/VarHandle" ∧ (parseMethodDescriptor yX5_warm.desc).map (fun d => d.parameters.length) = some 1 := by decide +kernel
def f_Mo_warm (s : Sto) (i0 : Nat) (x1 : Int32) : Option (Sto) :=
  lt (st s 4 i0 0 (imx 0 (imn 99 ((s 4 i0 0) + x1)))) (fun s1 => some s1)
set_option maxRecDepth 100000 in
set_option maxHeartbeats 4000000 in
theorem c_Mo_warm {G : Gb} {l : Launch} {o : Sto} {L : Lng} (hG : GA G) (s : Sto) (i0 : Nat) (x1 : Int32) (h0 : V 4 i0) : CT G l (EC o L) pvV psV yX5_warm cX5_warm 2 none 1 30 [.ref (ad G 4 i0), .int x1] s (f_Mo_warm s i0 x1) := by
  refine CT.of hG (by decide) (Nat.le_of_ble_eq_true rfl) (fun X hX => ?_)
  have hX : OX G X l cX5_warm 2 "CrownTwo$Moment" none 1 30 := hX
  show ZR G X (EC o L) pvV psV 2 s [(0, .ref (ad G 4 i0)), (1, .int x1)] [] 0 _
  unfold f_Mo_warm
  refine z_aload_n (pc := 0) hX dX5_warm_0 rfl 0 rfl ?_
  refine z_iconst (pc := 1) hX dX5_warm_1 ic_0 ?_
  refine z_bipush (pc := 2) hX dX5_warm_2 bp_99 ?_
  refine z_aload_n (pc := 4) hX dX5_warm_4 rfl 0 rfl ?_
  refine gf_4_0C (pc := 5) hX h0 q_64 dX5_warm_5 ?_
  refine z_iload_n (pc := 8) hX dX5_warm_8 rfl 1 rfl ?_
  refine z_iadd (pc := 9) hX dX5_warm_9 ?_
  refine z_min (pc := 10) hX q_540 q_541 q_18 q_542 (Nat.le_of_ble_eq_true rfl) (Nat.le_of_ble_eq_true rfl) dX5_warm_10 ?_
  refine z_max (pc := 13) hX q_543 q_544 q_18 q_545 (Nat.le_of_ble_eq_true rfl) (Nat.le_of_ble_eq_true rfl) dX5_warm_13 ?_
  refine pf_4_0C (pc := 16) hX h0 q_64 dX5_warm_16 ?_
  refine z_lts (fun s1 => ?_)
  exact z_retV (pc := 19) hX dX5_warm_19
theorem hd_X5_friendly : yX5_friendly.cls ≠ "java/lang/invoke/MethodHandle" ∧ yX5_friendly.cls ≠ "java/lang/invoke/VarHandle" ∧ (parseMethodDescriptor yX5_friendly.desc).map (fun d => d.parameters.length) = some 0 := by decide +kernel
def f_Mo_friendly (s : Sto) (i0 : Nat) : Option (Int32) :=
  if (10 : Int32) ≤ (s 4 i0 0) then some 0 else some 1
set_option maxRecDepth 100000 in
set_option maxHeartbeats 4000000 in
theorem c_Mo_friendly {G : Gb} {l : Launch} {o : Sto} {L : Lng} (hG : GA G) (s : Sto) (i0 : Nat) (h0 : V 4 i0) : CT G l (EC o L) pvP (psP s) yX5_friendly cX5_friendly 1 (some .boolean) 0 0 [.ref (ad G 4 i0)] s (f_Mo_friendly s i0) := by
  refine CT.of hG (by decide) (Nat.le_of_ble_eq_true rfl) (fun X hX => ?_)
  have hX : OX G X l cX5_friendly 1 "CrownTwo$Moment" (some .boolean) 0 0 := hX
  show ZR G X (EC o L) pvP (psP s) 1 s [(0, .ref (ad G 4 i0))] [] 0 _
  unfold f_Mo_friendly
  refine z_aload_n (pc := 0) hX dX5_friendly_0 rfl 0 rfl ?_
  refine gf_4_0C (pc := 1) hX h0 q_64 dX5_friendly_1 ?_
  refine z_bipush (pc := 4) hX dX5_friendly_4 bp_10 ?_
  refine z_icmp_ge (pc := 6) (tgt := 13) hX dX5_friendly_6 rfl ?_ ?_
  · refine z_iconst (pc := 13) hX dX5_friendly_13 ic_0 ?_
    exact z_retPc (pc := 14) hX dX5_friendly_14 (by decide)
  · refine z_iconst (pc := 9) hX dX5_friendly_9 ic_1 ?_
    refine z_goto (pc := 10) (tgt := 14) hX dX5_friendly_10 rfl ?_
    exact z_retPc (pc := 14) hX dX5_friendly_14 (by decide)
theorem hd_X5_paired : yX5_paired.cls ≠ "java/lang/invoke/MethodHandle" ∧ yX5_paired.cls ≠ "java/lang/invoke/VarHandle" ∧ (parseMethodDescriptor yX5_paired.desc).map (fun d => d.parameters.length) = some 0 := by decide +kernel
def f_Mo_paired (s : Sto) (i0 : Nat) : Option (Int32) :=
  if (s 4 i0 3 : Int32) = ((-1)) then some 0 else some 1
set_option maxRecDepth 100000 in
set_option maxHeartbeats 4000000 in
theorem c_Mo_paired {G : Gb} {l : Launch} {o : Sto} {L : Lng} (hG : GA G) (s : Sto) (i0 : Nat) (h0 : V 4 i0) : CT G l (EC o L) pvP (psP s) yX5_paired cX5_paired 1 (some .boolean) 0 0 [.ref (ad G 4 i0)] s (f_Mo_paired s i0) := by
  refine CT.of hG (by decide) (Nat.le_of_ble_eq_true rfl) (fun X hX => ?_)
  have hX : OX G X l cX5_paired 1 "CrownTwo$Moment" (some .boolean) 0 0 := hX
  show ZR G X (EC o L) pvP (psP s) 1 s [(0, .ref (ad G 4 i0))] [] 0 _
  unfold f_Mo_paired
  refine z_aload_n (pc := 0) hX dX5_paired_0 rfl 0 rfl ?_
  refine gf_4_3C (pc := 1) hX h0 q_73 dX5_paired_1 ?_
  refine z_iconst (pc := 4) hX dX5_paired_4 ic_m1 ?_
  refine z_icmp_eq (pc := 5) (tgt := 12) hX dX5_paired_5 rfl ?_ ?_
  · refine z_iconst (pc := 12) hX dX5_paired_12 ic_0 ?_
    exact z_retPc (pc := 13) hX dX5_paired_13 (by decide)
  · refine z_iconst (pc := 8) hX dX5_paired_8 ic_1 ?_
    refine z_goto (pc := 9) (tgt := 13) hX dX5_paired_9 rfl ?_
    exact z_retPc (pc := 13) hX dX5_paired_13 (by decide)
theorem hd_X5_isDone : yX5_isDone.cls ≠ "java/lang/invoke/MethodHandle" ∧ yX5_isDone.cls ≠ "java/lang/invoke/VarHandle" ∧ (parseMethodDescriptor yX5_isDone.desc).map (fun d => d.parameters.length) = some 1 := by decide +kernel
def f_Mo_isDone (s : Sto) (i0 : Nat) (x1 : Int32) : Option (Int32) :=
  if ((s 4 i0 2) &&& (1 <<< (x1 &&& 31)) : Int32) = 0 then some 0 else some 1
set_option maxRecDepth 100000 in
set_option maxHeartbeats 4000000 in
theorem c_Mo_isDone {G : Gb} {l : Launch} {o : Sto} {L : Lng} (hG : GA G) (s : Sto) (i0 : Nat) (x1 : Int32) (h0 : V 4 i0) : CT G l (EC o L) pvP (psP s) yX5_isDone cX5_isDone 2 (some .boolean) 0 0 [.ref (ad G 4 i0), .int x1] s (f_Mo_isDone s i0 x1) := by
  refine CT.of hG (by decide) (Nat.le_of_ble_eq_true rfl) (fun X hX => ?_)
  have hX : OX G X l cX5_isDone 2 "CrownTwo$Moment" (some .boolean) 0 0 := hX
  show ZR G X (EC o L) pvP (psP s) 2 s [(0, .ref (ad G 4 i0)), (1, .int x1)] [] 0 _
  unfold f_Mo_isDone
  refine z_aload_n (pc := 0) hX dX5_isDone_0 rfl 0 rfl ?_
  refine gf_4_2C (pc := 1) hX h0 q_70 dX5_isDone_1 ?_
  refine z_iconst (pc := 4) hX dX5_isDone_4 ic_1 ?_
  refine z_iload_n (pc := 5) hX dX5_isDone_5 rfl 1 rfl ?_
  refine z_ishl (pc := 6) hX dX5_isDone_6 ?_
  refine z_iand (pc := 7) hX dX5_isDone_7 ?_
  refine z_if_eq (pc := 8) (tgt := 15) hX dX5_isDone_8 rfl ?_ ?_
  · refine z_iconst (pc := 15) hX dX5_isDone_15 ic_0 ?_
    exact z_retPc (pc := 16) hX dX5_isDone_16 (by decide)
  · refine z_iconst (pc := 11) hX dX5_isDone_11 ic_1 ?_
    refine z_goto (pc := 12) (tgt := 16) hX dX5_isDone_12 rfl ?_
    exact z_retPc (pc := 16) hX dX5_isDone_16 (by decide)
theorem hd_X5_sideOf : yX5_sideOf.cls ≠ "java/lang/invoke/MethodHandle" ∧ yX5_sideOf.cls ≠ "java/lang/invoke/VarHandle" ∧ (parseMethodDescriptor yX5_sideOf.desc).map (fun d => d.parameters.length) = some 1 := by decide +kernel
def f_Mo_sideOf (s : Sto) (i0 : Nat) (x1 : Int32) : Option (Int32) :=
  if (x1 : Int32) = (s 4 i0 3) then some 1 else if (x1 : Int32) = (s 4 i0 4) then some 2 else some 0
set_option maxRecDepth 100000 in
set_option maxHeartbeats 4000000 in
theorem c_Mo_sideOf {G : Gb} {l : Launch} {o : Sto} {L : Lng} (hG : GA G) (s : Sto) (i0 : Nat) (x1 : Int32) (h0 : V 4 i0) : CT G l (EC o L) pvP (psP s) yX5_sideOf cX5_sideOf 2 (some .int) 0 0 [.ref (ad G 4 i0), .int x1] s (f_Mo_sideOf s i0 x1) := by
  refine CT.of hG (by decide) (Nat.le_of_ble_eq_true rfl) (fun X hX => ?_)
  have hX : OX G X l cX5_sideOf 2 "CrownTwo$Moment" (some .int) 0 0 := hX
  show ZR G X (EC o L) pvP (psP s) 2 s [(0, .ref (ad G 4 i0)), (1, .int x1)] [] 0 _
  unfold f_Mo_sideOf
  refine z_iload_n (pc := 0) hX dX5_sideOf_0 rfl 1 rfl ?_
  refine z_aload_n (pc := 1) hX dX5_sideOf_1 rfl 0 rfl ?_
  refine gf_4_3C (pc := 2) hX h0 q_73 dX5_sideOf_2 ?_
  refine z_icmp_ne (pc := 5) (tgt := 10) hX dX5_sideOf_5 rfl ?_ ?_
  · refine z_iload_n (pc := 10) hX dX5_sideOf_10 rfl 1 rfl ?_
    refine z_aload_n (pc := 11) hX dX5_sideOf_11 rfl 0 rfl ?_
    refine gf_4_4C (pc := 12) hX h0 q_77 dX5_sideOf_12 ?_
    refine z_icmp_ne (pc := 15) (tgt := 22) hX dX5_sideOf_15 rfl ?_ ?_
    · refine z_iconst (pc := 22) hX dX5_sideOf_22 ic_0 ?_
      exact z_retP (pc := 23) hX dX5_sideOf_23
    · refine z_iconst (pc := 18) hX dX5_sideOf_18 ic_2 ?_
      refine z_goto (pc := 19) (tgt := 23) hX dX5_sideOf_19 rfl ?_
      exact z_retP (pc := 23) hX dX5_sideOf_23
  · refine z_iconst (pc := 8) hX dX5_sideOf_8 ic_1 ?_
    exact z_retP (pc := 9) hX dX5_sideOf_9
theorem hd_X6_put : yX6_put.cls ≠ "java/lang/invoke/MethodHandle" ∧ yX6_put.cls ≠ "java/lang/invoke/VarHandle" ∧ (parseMethodDescriptor yX6_put.desc).map (fun d => d.parameters.length) = some 5 := by decide +kernel
def f_No_put (s : Sto) (i0 : Nat) (x1 : Int32) (x2 : Int32) (x3 : Int32) (x4 : Int32) (x5 : Int32) : Option (Sto) :=
  lt (st s 3 i0 0 x1) (fun s1 => lt (st s1 3 i0 1 x2) (fun s2 => lt (st s2 3 i0 2 x3) (fun s3 => lt (st s3 3 i0 3 x4) (fun s4 => lt (st s4 3 i0 4 x5) (fun s5 => some s5)))))
set_option maxRecDepth 100000 in
set_option maxHeartbeats 4000000 in
theorem c_No_put {G : Gb} {l : Launch} {o : Sto} {L : Lng} (hG : GA G) (s : Sto) (i0 : Nat) (x1 : Int32) (x2 : Int32) (x3 : Int32) (x4 : Int32) (x5 : Int32) (h0 : V 3 i0) : CT G l (EC o L) pvV psV yX6_put cX6_put 6 none 0 0 [.ref (ad G 3 i0), .int x1, .int x2, .int x3, .int x4, .int x5] s (f_No_put s i0 x1 x2 x3 x4 x5) := by
  refine CT.of hG (by decide) (Nat.le_of_ble_eq_true rfl) (fun X hX => ?_)
  have hX : OX G X l cX6_put 6 "CrownTwo$Note" none 0 0 := hX
  show ZR G X (EC o L) pvV psV 6 s [(0, .ref (ad G 3 i0)), (1, .int x1), (2, .int x2), (3, .int x3), (4, .int x4), (5, .int x5)] [] 0 _
  unfold f_No_put
  refine z_aload_n (pc := 0) hX dX6_put_0 rfl 0 rfl ?_
  refine z_iload_n (pc := 1) hX dX6_put_1 rfl 1 rfl ?_
  refine pf_3_0C (pc := 2) hX h0 q_179 dX6_put_2 ?_
  refine z_lts (fun s1 => ?_)
  refine z_aload_n (pc := 5) hX dX6_put_5 rfl 0 rfl ?_
  refine z_iload_n (pc := 6) hX dX6_put_6 rfl 2 rfl ?_
  refine pf_3_1C (pc := 7) hX h0 q_181 dX6_put_7 ?_
  refine z_lts (fun s2 => ?_)
  refine z_aload_n (pc := 10) hX dX6_put_10 rfl 0 rfl ?_
  refine z_iload_n (pc := 11) hX dX6_put_11 rfl 3 rfl ?_
  refine pf_3_2C (pc := 12) hX h0 q_183 dX6_put_12 ?_
  refine z_lts (fun s3 => ?_)
  refine z_aload_n (pc := 15) hX dX6_put_15 rfl 0 rfl ?_
  refine z_iload (pc := 16) hX dX6_put_16 4 rfl ?_
  refine pf_3_3C (pc := 18) hX h0 q_185 dX6_put_18 ?_
  refine z_lts (fun s4 => ?_)
  refine z_aload_n (pc := 21) hX dX6_put_21 rfl 0 rfl ?_
  refine z_iload (pc := 22) hX dX6_put_22 5 rfl ?_
  refine pf_3_4C (pc := 24) hX h0 q_187 dX6_put_24 ?_
  refine z_lts (fun s5 => ?_)
  exact z_retV (pc := 27) hX dX6_put_27
theorem hd_X6_become : yX6_become.cls ≠ "java/lang/invoke/MethodHandle" ∧ yX6_become.cls ≠ "java/lang/invoke/VarHandle" ∧ (parseMethodDescriptor yX6_become.desc).map (fun d => d.parameters.length) = some 1 := by decide +kernel
def f_No_become (s : Sto) (i0 : Nat) (i1 : Nat) : Option (Sto) :=
  bV (f_No_put s i0 (s 3 i1 0) (s 3 i1 1) (s 3 i1 2) (s 3 i1 3) (s 3 i1 4)) (fun s1 => some s1)
set_option maxRecDepth 100000 in
set_option maxHeartbeats 4000000 in
theorem c_No_become {G : Gb} {l : Launch} {o : Sto} {L : Lng} (hG : GA G) (s : Sto) (i0 : Nat) (i1 : Nat) (h0 : V 3 i0) (h1 : V 3 i1) : CT G l (EC o L) pvV psV yX6_become cX6_become 2 none 1 25 [.ref (ad G 3 i0), .ref (ad G 3 i1)] s (f_No_become s i0 i1) := by
  refine CT.of hG (by decide) (Nat.le_of_ble_eq_true rfl) (fun X hX => ?_)
  have hX : OX G X l cX6_become 2 "CrownTwo$Note" none 1 25 := hX
  show ZR G X (EC o L) pvV psV 2 s [(0, .ref (ad G 3 i0)), (1, .ref (ad G 3 i1))] [] 0 _
  unfold f_No_become
  refine z_aload_n (pc := 0) hX dX6_become_0 rfl 0 rfl ?_
  refine z_aload_n (pc := 1) hX dX6_become_1 rfl 1 rfl ?_
  refine gf_3_0C (pc := 2) hX h1 q_179 dX6_become_2 ?_
  refine z_aload_n (pc := 5) hX dX6_become_5 rfl 1 rfl ?_
  refine gf_3_1C (pc := 6) hX h1 q_181 dX6_become_6 ?_
  refine z_aload_n (pc := 9) hX dX6_become_9 rfl 1 rfl ?_
  refine gf_3_2C (pc := 10) hX h1 q_183 dX6_become_10 ?_
  refine z_aload_n (pc := 13) hX dX6_become_13 rfl 1 rfl ?_
  refine gf_3_3C (pc := 14) hX h1 q_185 dX6_become_14 ?_
  refine z_aload_n (pc := 17) hX dX6_become_17 rfl 1 rfl ?_
  refine gf_3_4C (pc := 18) hX h1 q_187 dX6_become_18 ?_
  refine z_rV (run_V (pc := 21) (As := [.int (s 3 i1 0), .int (s 3 i1 1), .int (s 3 i1 2), .int (s 3 i1 3), .int (s 3 i1 4)]) hX (rc_3 h0) ⟨q_452, q_455, q_12⟩ q_453 q_454 hd_X6_put ⟨Nat.le_of_ble_eq_true rfl, Nat.le_of_ble_eq_true rfl⟩ (c_No_put hG s i0 (s 3 i1 0) (s 3 i1 1) (s 3 i1 2) (s 3 i1 3) (s 3 i1 4) h0) rfl rfl (Nat.le_of_ble_eq_true rfl) dX6_become_21) (fun s1 => ?_)
  exact z_retV (pc := 24) hX dX6_become_24
theorem hd_X6_addTo : yX6_addTo.cls ≠ "java/lang/invoke/MethodHandle" ∧ yX6_addTo.cls ≠ "java/lang/invoke/VarHandle" ∧ (parseMethodDescriptor yX6_addTo.desc).map (fun d => d.parameters.length) = some 1 := by decide +kernel
def f_No_addTo (s : Sto) (i0 : Nat) (x1 : Int64) : Option (Int64) :=
  lt (((31 * x1) + (Int32.toInt64 (s 3 i0 0)) : Int64)) (fun v3_1 => lt (((31 * v3_1) + (Int32.toInt64 (s 3 i0 1)) : Int64)) (fun v3_2 => lt (((31 * v3_2) + (Int32.toInt64 (s 3 i0 2)) : Int64)) (fun v3_3 => lt (((31 * v3_3) + (Int32.toInt64 (s 3 i0 3)) : Int64)) (fun v3_4 => some ((31 * v3_4) + (Int32.toInt64 (s 3 i0 4)))))))
set_option maxRecDepth 100000 in
set_option maxHeartbeats 4000000 in
theorem c_No_addTo {G : Gb} {l : Launch} {o : Sto} {L : Lng} (hG : GA G) (s : Sto) (i0 : Nat) (x1 : Int64) (h0 : V 3 i0) : CT G l (EC o L) pvL (psP s) yX6_addTo cX6_addTo 5 (some .long) 0 0 [.ref (ad G 3 i0), .long x1] s (f_No_addTo s i0 x1) := by
  refine CT.of hG (by decide) (Nat.le_of_ble_eq_true rfl) (fun X hX => ?_)
  have hX : OX G X l cX6_addTo 5 "CrownTwo$Note" (some .long) 0 0 := hX
  show ZR G X (EC o L) pvL (psP s) 5 s [(0, .ref (ad G 3 i0)), (1, .long x1)] [] 0 _
  unfold f_No_addTo
  refine z_ldc2 (pc := 0) hX q_794 dX6_addTo_0 ?_
  refine z_lload_n (pc := 3) hX dX6_addTo_3 rfl 1 rfl ?_
  refine z_lmul (pc := 4) hX dX6_addTo_4 ?_
  refine z_aload_n (pc := 5) hX dX6_addTo_5 rfl 0 rfl ?_
  refine gf_3_0C (pc := 6) hX h0 q_179 dX6_addTo_6 ?_
  refine z_i2l (pc := 9) hX dX6_addTo_9 ?_
  refine z_ladd (pc := 10) hX dX6_addTo_10 ?_
  refine z_ltl (pc := 11) (fun v3_1 => ?_)
  refine z_lstore_n (pc := 11) (ls' := [(3, .long v3_1), (0, .ref (ad G 3 i0)), (1, .long x1)]) hX dX6_addTo_11 rfl (by decide) rfl ?_
  refine z_ldc2 (pc := 12) hX q_794 dX6_addTo_12 ?_
  refine z_lload_n (pc := 15) hX dX6_addTo_15 rfl 0 rfl ?_
  refine z_lmul (pc := 16) hX dX6_addTo_16 ?_
  refine z_aload_n (pc := 17) hX dX6_addTo_17 rfl 1 rfl ?_
  refine gf_3_1C (pc := 18) hX h0 q_181 dX6_addTo_18 ?_
  refine z_i2l (pc := 21) hX dX6_addTo_21 ?_
  refine z_ladd (pc := 22) hX dX6_addTo_22 ?_
  refine z_ltl (pc := 23) (fun v3_2 => ?_)
  refine z_lstore_n (pc := 23) (ls' := [(3, .long v3_2), (0, .ref (ad G 3 i0)), (1, .long x1)]) hX dX6_addTo_23 rfl (by decide) rfl ?_
  refine z_ldc2 (pc := 24) hX q_794 dX6_addTo_24 ?_
  refine z_lload_n (pc := 27) hX dX6_addTo_27 rfl 0 rfl ?_
  refine z_lmul (pc := 28) hX dX6_addTo_28 ?_
  refine z_aload_n (pc := 29) hX dX6_addTo_29 rfl 1 rfl ?_
  refine gf_3_2C (pc := 30) hX h0 q_183 dX6_addTo_30 ?_
  refine z_i2l (pc := 33) hX dX6_addTo_33 ?_
  refine z_ladd (pc := 34) hX dX6_addTo_34 ?_
  refine z_ltl (pc := 35) (fun v3_3 => ?_)
  refine z_lstore_n (pc := 35) (ls' := [(3, .long v3_3), (0, .ref (ad G 3 i0)), (1, .long x1)]) hX dX6_addTo_35 rfl (by decide) rfl ?_
  refine z_ldc2 (pc := 36) hX q_794 dX6_addTo_36 ?_
  refine z_lload_n (pc := 39) hX dX6_addTo_39 rfl 0 rfl ?_
  refine z_lmul (pc := 40) hX dX6_addTo_40 ?_
  refine z_aload_n (pc := 41) hX dX6_addTo_41 rfl 1 rfl ?_
  refine gf_3_3C (pc := 42) hX h0 q_185 dX6_addTo_42 ?_
  refine z_i2l (pc := 45) hX dX6_addTo_45 ?_
  refine z_ladd (pc := 46) hX dX6_addTo_46 ?_
  refine z_ltl (pc := 47) (fun v3_4 => ?_)
  refine z_lstore_n (pc := 47) (ls' := [(3, .long v3_4), (0, .ref (ad G 3 i0)), (1, .long x1)]) hX dX6_addTo_47 rfl (by decide) rfl ?_
  refine z_ldc2 (pc := 48) hX q_794 dX6_addTo_48 ?_
  refine z_lload_n (pc := 51) hX dX6_addTo_51 rfl 0 rfl ?_
  refine z_lmul (pc := 52) hX dX6_addTo_52 ?_
  refine z_aload_n (pc := 53) hX dX6_addTo_53 rfl 1 rfl ?_
  refine gf_3_4C (pc := 54) hX h0 q_187 dX6_addTo_54 ?_
  refine z_i2l (pc := 57) hX dX6_addTo_57 ?_
  refine z_ladd (pc := 58) hX dX6_addTo_58 ?_
  exact z_retL (pc := 59) hX dX6_addTo_59
theorem hd_X7_lifts : yX7_lifts.cls ≠ "java/lang/invoke/MethodHandle" ∧ yX7_lifts.cls ≠ "java/lang/invoke/VarHandle" ∧ (parseMethodDescriptor yX7_lifts.desc).map (fun d => d.parameters.length) = some 4 := by decide +kernel
def f_Pl_lifts (x1 : Int32) (x2 : Int32) (x3 : Int32) (x4 : Int32) : Option (Int32) :=
  jn (some 1) (fun j1 => if (x1 : Int32) = 0 then jn (some 0) (fun j2 => if (x2 : Int32) = 0 then if (60 : Int32) ≤ x3 then j2 else j1 else j2) else j1)
set_option maxRecDepth 100000 in
set_option maxHeartbeats 4000000 in
theorem c_Pl_lifts {G : Gb} {l : Launch} {o : Sto} {L : Lng} (hG : GA G) (s : Sto) (i0 : Nat) (x1 : Int32) (x2 : Int32) (x3 : Int32) (x4 : Int32) (h0 : V 6 i0) : CT G l (EC o L) pvP (psP s) yX7_lifts cX7_lifts 5 (some .boolean) 0 0 [.ref (ad G 6 i0), .int x1, .int x2, .int x3, .int x4] s (f_Pl_lifts x1 x2 x3 x4) := by
  refine CT.of hG (by decide) (Nat.le_of_ble_eq_true rfl) (fun X hX => ?_)
  have hX : OX G X l cX7_lifts 5 "CrownTwo$Plain" (some .boolean) 0 0 := hX
  show ZR G X (EC o L) pvP (psP s) 5 s [(0, .ref (ad G 6 i0)), (1, .int x1), (2, .int x2), (3, .int x3), (4, .int x4)] [] 0 _
  unfold f_Pl_lifts
  refine z_iload_n (pc := 0) hX dX7_lifts_0 rfl 1 rfl ?_
  refine z_jn (P := fun j1 => ZR G X (EC o L) pvP (psP s) 5 s [] [] 14 (j1)) ?_ ?_
  · skip
    refine z_iconst (pc := 14) hX dX7_lifts_14 ic_1 ?_
    refine z_goto (pc := 15) (tgt := 19) hX dX7_lifts_15 rfl ?_
    exact z_retPc (pc := 19) hX dX7_lifts_19 (by decide)
  · intro j1 hj1
    refine z_if_ne (pc := 1) (tgt := 14) hX dX7_lifts_1 rfl ?_ ?_
    · exact z_ls [] rfl (hj1)
    · refine z_iload_n (pc := 4) hX dX7_lifts_4 rfl 2 rfl ?_
      refine z_jn (P := fun j2 => ZR G X (EC o L) pvP (psP s) 5 s [] [] 18 (j2)) ?_ ?_
      · skip
        refine z_iconst (pc := 18) hX dX7_lifts_18 ic_0 ?_
        exact z_retPc (pc := 19) hX dX7_lifts_19 (by decide)
      · intro j2 hj2
        refine z_if_ne (pc := 5) (tgt := 18) hX dX7_lifts_5 rfl ?_ ?_
        · exact z_ls [] rfl (hj2)
        · refine z_iload_n (pc := 8) hX dX7_lifts_8 rfl 3 rfl ?_
          refine z_bipush (pc := 9) hX dX7_lifts_9 bp_60 ?_
          refine z_icmp_ge (pc := 11) (tgt := 18) hX dX7_lifts_11 rfl ?_ ?_
          · exact z_ls [] rfl (hj2)
          · exact z_ls [] rfl (hj1)
theorem hd_X7_adds : yX7_adds.cls ≠ "java/lang/invoke/MethodHandle" ∧ yX7_adds.cls ≠ "java/lang/invoke/VarHandle" ∧ (parseMethodDescriptor yX7_adds.desc).map (fun d => d.parameters.length) = some 1 := by decide +kernel
def f_Pl_adds (x1 : Int32) : Option (Int32) :=
  some (x1 / 5)
set_option maxRecDepth 100000 in
set_option maxHeartbeats 4000000 in
theorem c_Pl_adds {G : Gb} {l : Launch} {o : Sto} {L : Lng} (hG : GA G) (s : Sto) (i0 : Nat) (x1 : Int32) (h0 : V 6 i0) : CT G l (EC o L) pvP (psP s) yX7_adds cX7_adds 2 (some .int) 0 0 [.ref (ad G 6 i0), .int x1] s (f_Pl_adds x1) := by
  refine CT.of hG (by decide) (Nat.le_of_ble_eq_true rfl) (fun X hX => ?_)
  have hX : OX G X l cX7_adds 2 "CrownTwo$Plain" (some .int) 0 0 := hX
  show ZR G X (EC o L) pvP (psP s) 2 s [(0, .ref (ad G 6 i0)), (1, .int x1)] [] 0 _
  unfold f_Pl_adds
  refine z_iload_n (pc := 0) hX dX7_adds_0 rfl 1 rfl ?_
  refine z_iconst (pc := 1) hX dX7_adds_1 ic_5 ?_
  refine z_idivc (pc := 2) hX dX7_adds_2 (by decide +kernel) ?_
  exact z_retP (pc := 3) hX dX7_adds_3
theorem hd_X8_lifts : yX8_lifts.cls ≠ "java/lang/invoke/MethodHandle" ∧ yX8_lifts.cls ≠ "java/lang/invoke/VarHandle" ∧ (parseMethodDescriptor yX8_lifts.desc).map (fun d => d.parameters.length) = some 4 := by decide +kernel
def f_Pr_lifts (x1 : Int32) (x2 : Int32) (x3 : Int32) (x4 : Int32) : Option (Int32) :=
  if (x1 : Int32) = 0 ∨ (x1 : Int32) = 1 then some x1 else none
set_option maxRecDepth 100000 in
set_option maxHeartbeats 4000000 in
theorem c_Pr_lifts {G : Gb} {l : Launch} {o : Sto} {L : Lng} (hG : GA G) (s : Sto) (i0 : Nat) (x1 : Int32) (x2 : Int32) (x3 : Int32) (x4 : Int32) (h0 : V 6 i0) : CT G l (EC o L) pvP (psP s) yX8_lifts cX8_lifts 5 (some .boolean) 0 0 [.ref (ad G 6 i0), .int x1, .int x2, .int x3, .int x4] s (f_Pr_lifts x1 x2 x3 x4) := by
  refine CT.of hG (by decide) (Nat.le_of_ble_eq_true rfl) (fun X hX => ?_)
  have hX : OX G X l cX8_lifts 5 "CrownTwo$Proud" (some .boolean) 0 0 := hX
  show ZR G X (EC o L) pvP (psP s) 5 s [(0, .ref (ad G 6 i0)), (1, .int x1), (2, .int x2), (3, .int x3), (4, .int x4)] [] 0 _
  unfold f_Pr_lifts
  refine z_iload_n (pc := 0) hX dX8_lifts_0 rfl 1 rfl ?_
  exact z_retPz (pc := 1) hX dX8_lifts_1
theorem hd_X11_clear : yX11_clear.cls ≠ "java/lang/invoke/MethodHandle" ∧ yX11_clear.cls ≠ "java/lang/invoke/VarHandle" ∧ (parseMethodDescriptor yX11_clear.desc).map (fun d => d.parameters.length) = some 0 := by decide +kernel
def f_T_clear (s : Sto)  : Option (Int32 × Sto) :=
  lt ((s 5 0 1 : Int32)) (fun v1_1 => lt (st s 5 0 1 0) (fun s2 => some (v1_1, s2)))
set_option maxRecDepth 100000 in
set_option maxHeartbeats 4000000 in
theorem c_T_clear {G : Gb} {l : Launch} {o : Sto} {L : Lng} (hG : GA G) (s : Sto)   : CT G l (EC o L) pvI psI yX11_clear cX11_clear 2 (some .int) 0 0 [.ref (ad G 0 0)] s (f_T_clear s) := by
  refine CT.of hG (by decide) (Nat.le_of_ble_eq_true rfl) (fun X hX => ?_)
  have hX : OX G X l cX11_clear 2 "CrownTwo" (some .int) 0 0 := hX
  show ZR G X (EC o L) pvI psI 2 s [(0, .ref (ad G 0 0))] [] 0 _
  unfold f_T_clear
  refine z_aload_n (pc := 0) hX dX11_clear_0 rfl 0 rfl ?_
  refine gr_0_4C (pc := 1) hX q_239 dX11_clear_1 ?_
  refine gf_5_1C (pc := 4) hX q_37 dX11_clear_4 ?_
  refine z_lti (pc := 7) (fun v1_1 => ?_)
  refine z_istore_n (pc := 7) (ls' := [(1, .int v1_1), (0, .ref (ad G 0 0))]) hX dX11_clear_7 rfl (by decide) rfl ?_
  refine z_aload_n (pc := 8) hX dX11_clear_8 rfl 1 rfl ?_
  refine gr_0_4C (pc := 9) hX q_239 dX11_clear_9 ?_
  refine z_iconst (pc := 12) hX dX11_clear_12 ic_0 ?_
  refine pf_5_1C (pc := 13) hX q_37 dX11_clear_13 ?_
  refine z_lts (fun s2 => ?_)
  refine z_iload_n (pc := 16) hX dX11_clear_16 rfl 0 rfl ?_
  exact z_retI (pc := 17) hX dX11_clear_17
theorem hd_X11_forget : yX11_forget.cls ≠ "java/lang/invoke/MethodHandle" ∧ yX11_forget.cls ≠ "java/lang/invoke/VarHandle" ∧ (parseMethodDescriptor yX11_forget.desc).map (fun d => d.parameters.length) = some 0 := by decide +kernel
def f_T_forget (s : Sto)  : Option (Int32 × Sto) :=
  lt ((s 1 0 6 : Int32)) (fun v1_1 => lt (st s 1 0 6 0) (fun s2 => some (v1_1, s2)))
set_option maxRecDepth 100000 in
set_option maxHeartbeats 4000000 in
theorem c_T_forget {G : Gb} {l : Launch} {o : Sto} {L : Lng} (hG : GA G) (s : Sto)   : CT G l (EC o L) pvI psI yX11_forget cX11_forget 2 (some .int) 0 0 [.ref (ad G 0 0)] s (f_T_forget s) := by
  refine CT.of hG (by decide) (Nat.le_of_ble_eq_true rfl) (fun X hX => ?_)
  have hX : OX G X l cX11_forget 2 "CrownTwo" (some .int) 0 0 := hX
  show ZR G X (EC o L) pvI psI 2 s [(0, .ref (ad G 0 0))] [] 0 _
  unfold f_T_forget
  refine z_aload_n (pc := 0) hX dX11_forget_0 rfl 0 rfl ?_
  refine gr_0_0C (pc := 1) hX q_235 dX11_forget_1 ?_
  refine gf_1_6C (pc := 4) hX v_1_0 q_214 dX11_forget_4 ?_
  refine z_lti (pc := 7) (fun v1_1 => ?_)
  refine z_istore_n (pc := 7) (ls' := [(1, .int v1_1), (0, .ref (ad G 0 0))]) hX dX11_forget_7 rfl (by decide) rfl ?_
  refine z_aload_n (pc := 8) hX dX11_forget_8 rfl 1 rfl ?_
  refine gr_0_0C (pc := 9) hX q_235 dX11_forget_9 ?_
  refine z_iconst (pc := 12) hX dX11_forget_12 ic_0 ?_
  refine pf_1_6C (pc := 13) hX v_1_0 q_214 dX11_forget_13 ?_
  refine z_lts (fun s2 => ?_)
  refine z_iload_n (pc := 16) hX dX11_forget_16 rfl 0 rfl ?_
  exact z_retI (pc := 17) hX dX11_forget_17
theorem hd_X11_bad : yX11_bad.cls ≠ "java/lang/invoke/MethodHandle" ∧ yX11_bad.cls ≠ "java/lang/invoke/VarHandle" ∧ (parseMethodDescriptor yX11_bad.desc).map (fun d => d.parameters.length) = some 0 := by decide +kernel
def f_T_bad (s : Sto)  : Option (Int32 × Sto) :=
  lt (st s 0 0 12 ((s 0 0 12) + 1)) (fun s1 => some ((-2), s1))
set_option maxRecDepth 100000 in
set_option maxHeartbeats 4000000 in
theorem c_T_bad {G : Gb} {l : Launch} {o : Sto} {L : Lng} (hG : GA G) (s : Sto)   : CT G l (EC o L) pvI psI yX11_bad cX11_bad 1 (some .int) 0 0 [.ref (ad G 0 0)] s (f_T_bad s) := by
  refine CT.of hG (by decide) (Nat.le_of_ble_eq_true rfl) (fun X hX => ?_)
  have hX : OX G X l cX11_bad 1 "CrownTwo" (some .int) 0 0 := hX
  show ZR G X (EC o L) pvI psI 1 s [(0, .ref (ad G 0 0))] [] 0 _
  unfold f_T_bad
  refine z_aload_n (pc := 0) hX dX11_bad_0 rfl 0 rfl ?_
  refine z_dup (pc := 1) hX dX11_bad_1 rfl ?_
  refine gf_0_12C (pc := 2) hX q_247 dX11_bad_2 ?_
  refine z_iconst (pc := 5) hX dX11_bad_5 ic_1 ?_
  refine z_iadd (pc := 6) hX dX11_bad_6 ?_
  refine pf_0_12C (pc := 7) hX q_247 dX11_bad_7 ?_
  refine z_lts (fun s1 => ?_)
  refine z_bipush (pc := 10) hX dX11_bad_10 bp_m2 ?_
  exact z_retI (pc := 12) hX dX11_bad_12
theorem hd_X11_no : yX11_no.cls ≠ "java/lang/invoke/MethodHandle" ∧ yX11_no.cls ≠ "java/lang/invoke/VarHandle" ∧ (parseMethodDescriptor yX11_no.desc).map (fun d => d.parameters.length) = some 0 := by decide +kernel
def f_T_no (s : Sto)  : Option (Int32 × Sto) :=
  lt (st s 0 0 13 ((s 0 0 13) + 1)) (fun s1 => some ((-3), s1))
set_option maxRecDepth 100000 in
set_option maxHeartbeats 4000000 in
theorem c_T_no {G : Gb} {l : Launch} {o : Sto} {L : Lng} (hG : GA G) (s : Sto)   : CT G l (EC o L) pvI psI yX11_no cX11_no 1 (some .int) 0 0 [.ref (ad G 0 0)] s (f_T_no s) := by
  refine CT.of hG (by decide) (Nat.le_of_ble_eq_true rfl) (fun X hX => ?_)
  have hX : OX G X l cX11_no 1 "CrownTwo" (some .int) 0 0 := hX
  show ZR G X (EC o L) pvI psI 1 s [(0, .ref (ad G 0 0))] [] 0 _
  unfold f_T_no
  refine z_aload_n (pc := 0) hX dX11_no_0 rfl 0 rfl ?_
  refine z_dup (pc := 1) hX dX11_no_1 rfl ?_
  refine gf_0_13C (pc := 2) hX q_248 dX11_no_2 ?_
  refine z_iconst (pc := 5) hX dX11_no_5 ic_1 ?_
  refine z_iadd (pc := 6) hX dX11_no_6 ?_
  refine pf_0_13C (pc := 7) hX q_248 dX11_no_7 ?_
  refine z_lts (fun s1 => ?_)
  refine z_bipush (pc := 10) hX dX11_no_10 bp_m3 ?_
  exact z_retI (pc := 12) hX dX11_no_12
theorem hd_X11_full : yX11_full.cls ≠ "java/lang/invoke/MethodHandle" ∧ yX11_full.cls ≠ "java/lang/invoke/VarHandle" ∧ (parseMethodDescriptor yX11_full.desc).map (fun d => d.parameters.length) = some 0 := by decide +kernel
def f_T_full (s : Sto)  : Option (Int32 × Sto) :=
  lt (st s 0 0 14 ((s 0 0 14) + 1)) (fun s1 => some ((-4), s1))
set_option maxRecDepth 100000 in
set_option maxHeartbeats 4000000 in
theorem c_T_full {G : Gb} {l : Launch} {o : Sto} {L : Lng} (hG : GA G) (s : Sto)   : CT G l (EC o L) pvI psI yX11_full cX11_full 1 (some .int) 0 0 [.ref (ad G 0 0)] s (f_T_full s) := by
  refine CT.of hG (by decide) (Nat.le_of_ble_eq_true rfl) (fun X hX => ?_)
  have hX : OX G X l cX11_full 1 "CrownTwo" (some .int) 0 0 := hX
  show ZR G X (EC o L) pvI psI 1 s [(0, .ref (ad G 0 0))] [] 0 _
  unfold f_T_full
  refine z_aload_n (pc := 0) hX dX11_full_0 rfl 0 rfl ?_
  refine z_dup (pc := 1) hX dX11_full_1 rfl ?_
  refine gf_0_14C (pc := 2) hX q_249 dX11_full_2 ?_
  refine z_iconst (pc := 5) hX dX11_full_5 ic_1 ?_
  refine z_iadd (pc := 6) hX dX11_full_6 ?_
  refine pf_0_14C (pc := 7) hX q_249 dX11_full_7 ?_
  refine z_lts (fun s1 => ?_)
  refine z_bipush (pc := 10) hX dX11_full_10 bp_m4 ?_
  exact z_retI (pc := 12) hX dX11_full_12
theorem hd_X11_outside : yX11_outside.cls ≠ "java/lang/invoke/MethodHandle" ∧ yX11_outside.cls ≠ "java/lang/invoke/VarHandle" ∧ (parseMethodDescriptor yX11_outside.desc).map (fun d => d.parameters.length) = some 3 := by decide +kernel
def f_T_outside (x0 : Int32) (x1 : Int32) (x2 : Int32) : Option (Int32) :=
  jn (some 1) (fun j1 => if (x0 : Int32) < x1 then j1 else if (x0 : Int32) ≤ x2 then some 0 else j1)
set_option maxRecDepth 100000 in
set_option maxHeartbeats 4000000 in
theorem c_T_outside {G : Gb} {l : Launch} {o : Sto} {L : Lng} (hG : GA G) (s : Sto) (x0 : Int32) (x1 : Int32) (x2 : Int32)  : CT G l (EC o L) pvP (psP s) yX11_outside cX11_outside 3 (some .boolean) 0 0 [.int x0, .int x1, .int x2] s (f_T_outside x0 x1 x2) := by
  refine CT.of hG (by decide) (Nat.le_of_ble_eq_true rfl) (fun X hX => ?_)
  have hX : OX G X l cX11_outside 3 "CrownTwo" (some .boolean) 0 0 := hX
  show ZR G X (EC o L) pvP (psP s) 3 s [(0, .int x0), (1, .int x1), (2, .int x2)] [] 0 _
  unfold f_T_outside
  refine z_iload_n (pc := 0) hX dX11_outside_0 rfl 0 rfl ?_
  refine z_iload_n (pc := 1) hX dX11_outside_1 rfl 1 rfl ?_
  refine z_jn (P := fun j1 => ZR G X (EC o L) pvP (psP s) 3 s [] [] 10 (j1)) ?_ ?_
  · skip
    refine z_iconst (pc := 10) hX dX11_outside_10 ic_1 ?_
    refine z_goto (pc := 11) (tgt := 15) hX dX11_outside_11 rfl ?_
    exact z_retPc (pc := 15) hX dX11_outside_15 (by decide)
  · intro j1 hj1
    refine z_icmp_lt (pc := 2) (tgt := 10) hX dX11_outside_2 rfl ?_ ?_
    · exact z_ls [] rfl (hj1)
    · refine z_iload_n (pc := 5) hX dX11_outside_5 rfl 0 rfl ?_
      refine z_iload_n (pc := 6) hX dX11_outside_6 rfl 2 rfl ?_
      refine z_icmp_le (pc := 7) (tgt := 14) hX dX11_outside_7 rfl ?_ ?_
      · refine z_iconst (pc := 14) hX dX11_outside_14 ic_0 ?_
        exact z_retPc (pc := 15) hX dX11_outside_15 (by decide)
      · exact z_ls [] rfl (hj1)
theorem hd_X11_daysToFriends : yX11_daysToFriends.cls ≠ "java/lang/invoke/MethodHandle" ∧ yX11_daysToFriends.cls ≠ "java/lang/invoke/VarHandle" ∧ (parseMethodDescriptor yX11_daysToFriends.desc).map (fun d => d.parameters.length) = some 1 := by decide +kernel
def l_T_daysToFriends_16 (x1 : Int32) (rc4 : Sto → Int32 → Option (Int32 × Sto)) (s2 : Sto) (v2_3 : Int32) : Option (Int32 × Sto) :=
  if (90 : Int32) < v2_3 then some ((-1), s2) else bP (f_Mo_friendly s2 36) (fun r5 => if (r5 : Int32) = 0 then bV (f_Mo_warm s2 36 x1) (fun s6 => rc4 s6 (v2_3 + 1)) else some (v2_3, s2))
def f_T_daysToFriends (s : Sto) (x1 : Int32) : Option (Int32 × Sto) :=
  bV (f_Mo_become s 36 0) (fun s1 => fx 1000 (l_T_daysToFriends_16 x1) (fun _ _ => none) s1 0)
set_option maxRecDepth 100000 in
set_option maxHeartbeats 4000000 in
theorem c_T_daysToFriends {G : Gb} {l : Launch} {o : Sto} {L : Lng} (hG : GA G) (s : Sto) (x1 : Int32)  : CT G l (EC o L) pvI psI yX11_daysToFriends cX11_daysToFriends 3 (some .int) 2 51 [.ref (ad G 0 0), .int x1] s (f_T_daysToFriends s x1) := by
  refine CT.of hG (by decide) (Nat.le_of_ble_eq_true rfl) (fun X hX => ?_)
  have hX : OX G X l cX11_daysToFriends 3 "CrownTwo" (some .int) 2 51 := hX
  show ZR G X (EC o L) pvI psI 3 s [(0, .ref (ad G 0 0)), (1, .int x1)] [] 0 _
  unfold f_T_daysToFriends
  refine z_aload_n (pc := 0) hX dX11_daysToFriends_0 rfl 0 rfl ?_
  refine gr_0_5C (pc := 1) hX q_240 dX11_daysToFriends_1 ?_
  refine z_aload_n (pc := 4) hX dX11_daysToFriends_4 rfl 0 rfl ?_
  refine gr_0_0C (pc := 5) hX q_235 dX11_daysToFriends_5 ?_
  refine gr_1_4C (pc := 8) hX v_1_0 q_208 dX11_daysToFriends_8 ?_
  refine z_rV (run_V (pc := 11) (As := [.ref (ad G 4 0)]) hX (rc_4 v_4_36) ⟨q_625, q_442, q_3⟩ q_440 q_441 hd_X5_become ⟨Nat.le_of_ble_eq_true rfl, Nat.le_of_ble_eq_true rfl⟩ (c_Mo_become hG s 36 0 v_4_36 v_4_0) rfl rfl (Nat.le_of_ble_eq_true rfl) dX11_daysToFriends_11) (fun s1 => ?_)
  refine z_iconst (pc := 14) hX dX11_daysToFriends_14 ic_0 ?_
  refine z_istore_n (pc := 15) (ls' := [(2, .int 0), (0, .ref (ad G 0 0)), (1, .int x1)]) hX dX11_daysToFriends_15 rfl (by decide) rfl ?_
  refine z_ls [1, 2, 0] rfl ?_
  refine (fx_P (F := l_T_daysToFriends_16 x1) (b := (fun _ _ => none)) (fun rc4 => ∀ (s2 : Sto) (v2_3 : Int32), ZR G X (EC o L) pvI psI 3 s2 [(0, .ref (ad G 0 0)), (1, .int x1), (2, .int v2_3)] [] 16 (rc4 s2 v2_3)) ?_ ?_ 1000) s1 0
  · intro s2 v2_3; exact z_none
  · intro rc4 hrc4 s2 v2_3
    unfold l_T_daysToFriends_16
    refine z_iload_n (pc := 16) hX dX11_daysToFriends_16 rfl 2 rfl ?_
    refine z_bipush (pc := 17) hX dX11_daysToFriends_17 bp_90 ?_
    refine z_icmp_gt (pc := 19) (tgt := 48) hX dX11_daysToFriends_19 rfl ?_ ?_
    · refine z_iconst (pc := 48) hX dX11_daysToFriends_48 ic_m1 ?_
      exact z_retI (pc := 49) hX dX11_daysToFriends_49
    · refine z_aload_n (pc := 22) hX dX11_daysToFriends_22 rfl 0 rfl ?_
      refine gr_0_5C (pc := 23) hX q_240 dX11_daysToFriends_23 ?_
      refine z_rP (run_V (pc := 26) (As := []) hX (rc_4 v_4_36) ⟨q_639, q_642, q_3⟩ q_640 q_641 hd_X5_friendly ⟨Nat.le_of_ble_eq_true rfl, Nat.le_of_ble_eq_true rfl⟩ (c_Mo_friendly hG s2 36 v_4_36) rfl rfl (Nat.le_of_ble_eq_true rfl) dX11_daysToFriends_26) (fun r5 => ?_)
      refine z_if_eq (pc := 29) (tgt := 34) hX dX11_daysToFriends_29 rfl ?_ ?_
      · refine z_aload_n (pc := 34) hX dX11_daysToFriends_34 rfl 0 rfl ?_
        refine gr_0_5C (pc := 35) hX q_240 dX11_daysToFriends_35 ?_
        refine z_iload_n (pc := 38) hX dX11_daysToFriends_38 rfl 1 rfl ?_
        refine z_rV (run_V (pc := 39) (As := [.int x1]) hX (rc_4 v_4_36) ⟨q_593, q_539, q_3⟩ q_537 q_538 hd_X5_warm ⟨Nat.le_of_ble_eq_true rfl, Nat.le_of_ble_eq_true rfl⟩ (c_Mo_warm hG s2 36 x1 v_4_36) rfl rfl (Nat.le_of_ble_eq_true rfl) dX11_daysToFriends_39) (fun s6 => ?_)
        refine z_iinc (pc := 42) (n := 2) (v := v2_3 + 1) (ls' := [(2, .int (v2_3 + 1)), (0, .ref (ad G 0 0)), (1, .int x1)]) hX dX11_daysToFriends_42 rfl (by rw [show Int32.ofInt (1) = 1 by decide +kernel]) (by decide) rfl ?_
        refine z_goto (pc := 45) (tgt := 16) hX dX11_daysToFriends_45 rfl ?_
        exact z_ls [1, 2, 0] rfl (hrc4 s6 (v2_3 + 1))
      · refine z_iload_n (pc := 32) hX dX11_daysToFriends_32 rfl 2 rfl ?_
        exact z_retI (pc := 33) hX dX11_daysToFriends_33
theorem hd_X11_staysQuarrelled : yX11_staysQuarrelled.cls ≠ "java/lang/invoke/MethodHandle" ∧ yX11_staysQuarrelled.cls ≠ "java/lang/invoke/VarHandle" ∧ (parseMethodDescriptor yX11_staysQuarrelled.desc).map (fun d => d.parameters.length) = some 3 := by decide +kernel
def l_T_staysQuarrelled_25 (x2 : Int32) (x3 : Int32) (K4 : Sto → Option (Int32 × Sto)) (rc8 : Sto → Int32 → Option (Int32 × Sto)) (s6 : Sto) (v4_7 : Int32) : Option (Int32 × Sto) :=
  if (x3 : Int32) ≤ v4_7 then K4 s6 else bP (f_Mo_friendly s6 36) (fun r9 => if (r9 : Int32) = 0 then bV (f_Mo_warm s6 36 x2) (fun s10 => rc8 s10 (v4_7 + 1)) else some (0, s6))
def f_T_staysQuarrelled (s : Sto) (x1 : Int32) (x2 : Int32) (x3 : Int32) : Option (Int32 × Sto) :=
  bV (f_Mo_become s 36 0) (fun s1 => bV (f_Mo_warm s1 36 x1) (fun s2 => jn (fun s3 => bP (f_Mo_friendly s3 36) (fun r5 => if (r5 : Int32) = 0 then some (1, s3) else some (0, s3))) (fun K4 => fx 1000 (l_T_staysQuarrelled_25 x2 x3 K4) (fun _ _ => none) s2 0)))
set_option maxRecDepth 100000 in
set_option maxHeartbeats 4000000 in
theorem c_T_staysQuarrelled {G : Gb} {l : Launch} {o : Sto} {L : Lng} (hG : GA G) (s : Sto) (x1 : Int32) (x2 : Int32) (x3 : Int32)  : CT G l (EC o L) pvI psI yX11_staysQuarrelled cX11_staysQuarrelled 5 (some .boolean) 2 51 [.ref (ad G 0 0), .int x1, .int x2, .int x3] s (f_T_staysQuarrelled s x1 x2 x3) := by
  refine CT.of hG (by decide) (Nat.le_of_ble_eq_true rfl) (fun X hX => ?_)
  have hX : OX G X l cX11_staysQuarrelled 5 "CrownTwo" (some .boolean) 2 51 := hX
  show ZR G X (EC o L) pvI psI 5 s [(0, .ref (ad G 0 0)), (1, .int x1), (2, .int x2), (3, .int x3)] [] 0 _
  unfold f_T_staysQuarrelled
  refine z_aload_n (pc := 0) hX dX11_staysQuarrelled_0 rfl 0 rfl ?_
  refine gr_0_5C (pc := 1) hX q_240 dX11_staysQuarrelled_1 ?_
  refine z_aload_n (pc := 4) hX dX11_staysQuarrelled_4 rfl 0 rfl ?_
  refine gr_0_0C (pc := 5) hX q_235 dX11_staysQuarrelled_5 ?_
  refine gr_1_4C (pc := 8) hX v_1_0 q_208 dX11_staysQuarrelled_8 ?_
  refine z_rV (run_V (pc := 11) (As := [.ref (ad G 4 0)]) hX (rc_4 v_4_36) ⟨q_625, q_442, q_3⟩ q_440 q_441 hd_X5_become ⟨Nat.le_of_ble_eq_true rfl, Nat.le_of_ble_eq_true rfl⟩ (c_Mo_become hG s 36 0 v_4_36 v_4_0) rfl rfl (Nat.le_of_ble_eq_true rfl) dX11_staysQuarrelled_11) (fun s1 => ?_)
  refine z_aload_n (pc := 14) hX dX11_staysQuarrelled_14 rfl 0 rfl ?_
  refine gr_0_5C (pc := 15) hX q_240 dX11_staysQuarrelled_15 ?_
  refine z_iload_n (pc := 18) hX dX11_staysQuarrelled_18 rfl 1 rfl ?_
  refine z_rV (run_V (pc := 19) (As := [.int x1]) hX (rc_4 v_4_36) ⟨q_593, q_539, q_3⟩ q_537 q_538 hd_X5_warm ⟨Nat.le_of_ble_eq_true rfl, Nat.le_of_ble_eq_true rfl⟩ (c_Mo_warm hG s1 36 x1 v_4_36) rfl rfl (Nat.le_of_ble_eq_true rfl) dX11_staysQuarrelled_19) (fun s2 => ?_)
  refine z_iconst (pc := 22) hX dX11_staysQuarrelled_22 ic_0 ?_
  refine z_istore (pc := 23) (ls' := [(4, .int 0), (0, .ref (ad G 0 0)), (1, .int x1), (2, .int x2), (3, .int x3)]) hX dX11_staysQuarrelled_23 (by decide) rfl ?_
  refine z_jn (P := fun K4 => ∀ (s3 : Sto), ZR G X (EC o L) pvI psI 5 s3 [(0, .ref (ad G 0 0))] [] 57 (K4 s3)) ?_ ?_
  · intro s3
    refine z_aload_n (pc := 57) hX dX11_staysQuarrelled_57 rfl 0 rfl ?_
    refine gr_0_5C (pc := 58) hX q_240 dX11_staysQuarrelled_58 ?_
    refine z_rP (run_V (pc := 61) (As := []) hX (rc_4 v_4_36) ⟨q_639, q_642, q_3⟩ q_640 q_641 hd_X5_friendly ⟨Nat.le_of_ble_eq_true rfl, Nat.le_of_ble_eq_true rfl⟩ (c_Mo_friendly hG s3 36 v_4_36) rfl rfl (Nat.le_of_ble_eq_true rfl) dX11_staysQuarrelled_61) (fun r5 => ?_)
    refine z_if_ne (pc := 64) (tgt := 71) hX dX11_staysQuarrelled_64 rfl ?_ ?_
    · refine z_iconst (pc := 71) hX dX11_staysQuarrelled_71 ic_0 ?_
      exact z_retIc (pc := 72) hX dX11_staysQuarrelled_72 (by decide)
    · refine z_iconst (pc := 67) hX dX11_staysQuarrelled_67 ic_1 ?_
      refine z_goto (pc := 68) (tgt := 72) hX dX11_staysQuarrelled_68 rfl ?_
      exact z_retIc (pc := 72) hX dX11_staysQuarrelled_72 (by decide)
  · intro K4 hK4
    refine z_ls [1, 3, 4, 0] rfl ?_
    refine (fx_P (F := l_T_staysQuarrelled_25 x2 x3 K4) (b := (fun _ _ => none)) (fun rc8 => ∀ (s6 : Sto) (v4_7 : Int32), ZR G X (EC o L) pvI psI 5 s6 [(0, .ref (ad G 0 0)), (2, .int x2), (3, .int x3), (4, .int v4_7)] [] 25 (rc8 s6 v4_7)) ?_ ?_ 1000) s2 0
    · intro s6 v4_7; exact z_none
    · intro rc8 hrc8 s6 v4_7
      unfold l_T_staysQuarrelled_25
      refine z_iload (pc := 25) hX dX11_staysQuarrelled_25 3 rfl ?_
      refine z_iload_n (pc := 27) hX dX11_staysQuarrelled_27 rfl 2 rfl ?_
      refine z_icmp_ge (pc := 28) (tgt := 57) hX dX11_staysQuarrelled_28 rfl ?_ ?_
      · exact z_ls [0] rfl (hK4 s6)
      · refine z_aload_n (pc := 31) hX dX11_staysQuarrelled_31 rfl 0 rfl ?_
        refine gr_0_5C (pc := 32) hX q_240 dX11_staysQuarrelled_32 ?_
        refine z_rP (run_V (pc := 35) (As := []) hX (rc_4 v_4_36) ⟨q_639, q_642, q_3⟩ q_640 q_641 hd_X5_friendly ⟨Nat.le_of_ble_eq_true rfl, Nat.le_of_ble_eq_true rfl⟩ (c_Mo_friendly hG s6 36 v_4_36) rfl rfl (Nat.le_of_ble_eq_true rfl) dX11_staysQuarrelled_35) (fun r9 => ?_)
        refine z_if_eq (pc := 38) (tgt := 43) hX dX11_staysQuarrelled_38 rfl ?_ ?_
        · refine z_aload_n (pc := 43) hX dX11_staysQuarrelled_43 rfl 0 rfl ?_
          refine gr_0_5C (pc := 44) hX q_240 dX11_staysQuarrelled_44 ?_
          refine z_iload_n (pc := 47) hX dX11_staysQuarrelled_47 rfl 1 rfl ?_
          refine z_rV (run_V (pc := 48) (As := [.int x2]) hX (rc_4 v_4_36) ⟨q_593, q_539, q_3⟩ q_537 q_538 hd_X5_warm ⟨Nat.le_of_ble_eq_true rfl, Nat.le_of_ble_eq_true rfl⟩ (c_Mo_warm hG s6 36 x2 v_4_36) rfl rfl (Nat.le_of_ble_eq_true rfl) dX11_staysQuarrelled_48) (fun s10 => ?_)
          refine z_iinc (pc := 51) (n := 3) (v := v4_7 + 1) (ls' := [(4, .int (v4_7 + 1)), (0, .ref (ad G 0 0)), (2, .int x2), (3, .int x3)]) hX dX11_staysQuarrelled_51 rfl (by rw [show Int32.ofInt (1) = 1 by decide +kernel]) (by decide) rfl ?_
          refine z_goto (pc := 54) (tgt := 25) hX dX11_staysQuarrelled_54 rfl ?_
          exact z_ls [1, 2, 3, 0] rfl (hrc8 s10 (v4_7 + 1))
        · refine z_iconst (pc := 41) hX dX11_staysQuarrelled_41 ic_0 ?_
          exact z_retIc (pc := 42) hX dX11_staysQuarrelled_42 (by decide)
theorem hd_X11_gain : yX11_gain.cls ≠ "java/lang/invoke/MethodHandle" ∧ yX11_gain.cls ≠ "java/lang/invoke/VarHandle" ∧ (parseMethodDescriptor yX11_gain.desc).map (fun d => d.parameters.length) = some 4 := by decide +kernel
def f_T_gain (s : Sto) (i0 : Nat) (x1 : Int32) (x2 : Int32) (x3 : Int32) : Option (Int32) :=
  jn (if (x2 : Int32) = 0 then if (x3 : Int32) = 0 then some 0 else some 1 else some ((-1))) (fun j1 => if (x2 : Int32) = 0 then j1 else if (x3 : Int32) = 0 then j1 else bP (f_He_likesAlone s i0 x1) (fun r2 => if (r2 : Int32) = 0 then bP (f_He_hatesAlone s i0 x1) (fun r3 => if (r3 : Int32) = 0 then some 0 else some ((-2))) else some 2))
set_option maxRecDepth 100000 in
set_option maxHeartbeats 4000000 in
theorem c_T_gain {G : Gb} {l : Launch} {o : Sto} {L : Lng} (hG : GA G) (s : Sto) (i0 : Nat) (x1 : Int32) (x2 : Int32) (x3 : Int32) (h0 : V 2 i0) : CT G l (EC o L) pvP (psP s) yX11_gain cX11_gain 4 (some .int) 1 21 [.ref (ad G 2 i0), .int x1, .int x2, .int x3] s (f_T_gain s i0 x1 x2 x3) := by
  refine CT.of hG (by decide) (Nat.le_of_ble_eq_true rfl) (fun X hX => ?_)
  have hX : OX G X l cX11_gain 4 "CrownTwo" (some .int) 1 21 := hX
  show ZR G X (EC o L) pvP (psP s) 4 s [(0, .ref (ad G 2 i0)), (1, .int x1), (2, .int x2), (3, .int x3)] [] 0 _
  unfold f_T_gain
  refine z_iload_n (pc := 0) hX dX11_gain_0 rfl 2 rfl ?_
  refine z_jn (P := fun j1 => ZR G X (EC o L) pvP (psP s) 4 s [(2, .int x2), (3, .int x3)] [] 33 (j1)) ?_ ?_
  · skip
    refine z_iload_n (pc := 33) hX dX11_gain_33 rfl 0 rfl ?_
    refine z_if_eq (pc := 34) (tgt := 39) hX dX11_gain_34 rfl ?_ ?_
    · refine z_iload_n (pc := 39) hX dX11_gain_39 rfl 1 rfl ?_
      refine z_if_eq (pc := 40) (tgt := 47) hX dX11_gain_40 rfl ?_ ?_
      · refine z_iconst (pc := 47) hX dX11_gain_47 ic_0 ?_
        exact z_retP (pc := 48) hX dX11_gain_48
      · refine z_iconst (pc := 43) hX dX11_gain_43 ic_1 ?_
        refine z_goto (pc := 44) (tgt := 48) hX dX11_gain_44 rfl ?_
        exact z_retP (pc := 48) hX dX11_gain_48
    · refine z_iconst (pc := 37) hX dX11_gain_37 ic_m1 ?_
      exact z_retP (pc := 38) hX dX11_gain_38
  · intro j1 hj1
    refine z_if_eq (pc := 1) (tgt := 33) hX dX11_gain_1 rfl ?_ ?_
    · exact z_ls [2, 3] rfl (hj1)
    · refine z_iload_n (pc := 4) hX dX11_gain_4 rfl 3 rfl ?_
      refine z_if_eq (pc := 5) (tgt := 33) hX dX11_gain_5 rfl ?_ ?_
      · exact z_ls [2, 3] rfl (hj1)
      · refine z_aload_n (pc := 8) hX dX11_gain_8 rfl 0 rfl ?_
        refine z_iload_n (pc := 9) hX dX11_gain_9 rfl 1 rfl ?_
        refine z_rP (run_V (pc := 10) (As := [.int x1]) hX (rc_2 h0) ⟨q_735, q_508, q_11⟩ q_506 q_507 hd_X3_likesAlone ⟨Nat.le_of_ble_eq_true rfl, Nat.le_of_ble_eq_true rfl⟩ (c_He_likesAlone hG s i0 x1 h0) rfl rfl (Nat.le_of_ble_eq_true rfl) dX11_gain_10) (fun r2 => ?_)
        refine z_if_eq (pc := 13) (tgt := 18) hX dX11_gain_13 rfl ?_ ?_
        · refine z_aload_n (pc := 18) hX dX11_gain_18 rfl 0 rfl ?_
          refine z_iload_n (pc := 19) hX dX11_gain_19 rfl 1 rfl ?_
          refine z_rP (run_V (pc := 20) (As := [.int x1]) hX (rc_2 h0) ⟨q_736, q_512, q_11⟩ q_510 q_511 hd_X3_hatesAlone ⟨Nat.le_of_ble_eq_true rfl, Nat.le_of_ble_eq_true rfl⟩ (c_He_hatesAlone hG s i0 x1 h0) rfl rfl (Nat.le_of_ble_eq_true rfl) dX11_gain_20) (fun r3 => ?_)
          refine z_if_eq (pc := 23) (tgt := 31) hX dX11_gain_23 rfl ?_ ?_
          · refine z_iconst (pc := 31) hX dX11_gain_31 ic_0 ?_
            exact z_retP (pc := 32) hX dX11_gain_32
          · refine z_bipush (pc := 26) hX dX11_gain_26 bp_m2 ?_
            refine z_goto (pc := 28) (tgt := 32) hX dX11_gain_28 rfl ?_
            exact z_retP (pc := 32) hX dX11_gain_32
        · refine z_iconst (pc := 16) hX dX11_gain_16 ic_2 ?_
          exact z_retP (pc := 17) hX dX11_gain_17
theorem hd_X11_setFraction : yX11_setFraction.cls ≠ "java/lang/invoke/MethodHandle" ∧ yX11_setFraction.cls ≠ "java/lang/invoke/VarHandle" ∧ (parseMethodDescriptor yX11_setFraction.desc).map (fun d => d.parameters.length) = some 2 := by decide +kernel
def l_T_setFraction_8 (K2 : Int32 → Option (Sto)) (rc8 : Int32 → Int32 → Int32 → Option (Sto)) (v3_5 : Int32) (v4_6 : Int32) (v5_7 : Int32) : Option (Sto) :=
  if (100 : Int32) ≤ v5_7 then K2 v3_5 else if (v4_6 : Int32) ≤ 0 then K2 v3_5 else if ¬ (v4_6 : Int32) = 0 then lt ((v3_5 - v3_5 / v4_6 * v4_6 : Int32)) (fun v6_9 => rc8 v4_6 v6_9 (v5_7 + 1)) else none
def f_T_setFraction (s : Sto) (x1 : Int32) (x2 : Int32) : Option (Sto) :=
  jn (fun v3_1 => if (0 : Int32) < v3_1 then if ¬ (v3_1 : Int32) = 0 then lt (st s 0 0 10 (x1 / v3_1)) (fun s3 => if ¬ (v3_1 : Int32) = 0 then lt (st s3 0 0 11 (x2 / v3_1)) (fun s4 => some s4) else none) else none else some s) (fun K2 => fx 1000 (l_T_setFraction_8 K2) (fun _ _ _ => none) x2 x1 0)
set_option maxRecDepth 100000 in
set_option maxHeartbeats 4000000 in
theorem c_T_setFraction {G : Gb} {l : Launch} {o : Sto} {L : Lng} (hG : GA G) (s : Sto) (x1 : Int32) (x2 : Int32)  : CT G l (EC o L) pvV psV yX11_setFraction cX11_setFraction 7 none 0 0 [.ref (ad G 0 0), .int x1, .int x2] s (f_T_setFraction s x1 x2) := by
  refine CT.of hG (by decide) (Nat.le_of_ble_eq_true rfl) (fun X hX => ?_)
  have hX : OX G X l cX11_setFraction 7 "CrownTwo" none 0 0 := hX
  show ZR G X (EC o L) pvV psV 7 s [(0, .ref (ad G 0 0)), (1, .int x1), (2, .int x2)] [] 0 _
  unfold f_T_setFraction
  refine z_iload_n (pc := 0) hX dX11_setFraction_0 rfl 2 rfl ?_
  refine z_istore_n (pc := 1) (ls' := [(3, .int x2), (0, .ref (ad G 0 0)), (1, .int x1), (2, .int x2)]) hX dX11_setFraction_1 rfl (by decide) rfl ?_
  refine z_iload_n (pc := 2) hX dX11_setFraction_2 rfl 2 rfl ?_
  refine z_istore (pc := 3) (ls' := [(4, .int x1), (3, .int x2), (0, .ref (ad G 0 0)), (1, .int x1), (2, .int x2)]) hX dX11_setFraction_3 (by decide) rfl ?_
  refine z_iconst (pc := 5) hX dX11_setFraction_5 ic_0 ?_
  refine z_istore (pc := 6) (ls' := [(5, .int 0), (4, .int x1), (3, .int x2), (0, .ref (ad G 0 0)), (1, .int x1), (2, .int x2)]) hX dX11_setFraction_6 (by decide) rfl ?_
  refine z_jn (P := fun K2 => ∀ (v3_1 : Int32), ZR G X (EC o L) pvV psV 7 s [(0, .ref (ad G 0 0)), (1, .int x1), (2, .int x2), (3, .int v3_1)] [] 39 (K2 v3_1)) ?_ ?_
  · intro v3_1
    refine z_iload_n (pc := 39) hX dX11_setFraction_39 rfl 3 rfl ?_
    refine z_if_gt (pc := 40) (tgt := 44) hX dX11_setFraction_40 rfl ?_ ?_
    · refine z_aload_n (pc := 44) hX dX11_setFraction_44 rfl 0 rfl ?_
      refine z_iload_n (pc := 45) hX dX11_setFraction_45 rfl 1 rfl ?_
      refine z_iload_n (pc := 46) hX dX11_setFraction_46 rfl 3 rfl ?_
      refine z_idiv (pc := 47) hX dX11_setFraction_47 ?_
      refine pf_0_10C (pc := 48) hX q_245 dX11_setFraction_48 ?_
      refine z_lts (fun s3 => ?_)
      refine z_aload_n (pc := 51) hX dX11_setFraction_51 rfl 0 rfl ?_
      refine z_iload_n (pc := 52) hX dX11_setFraction_52 rfl 2 rfl ?_
      refine z_iload_n (pc := 53) hX dX11_setFraction_53 rfl 3 rfl ?_
      refine z_idiv (pc := 54) hX dX11_setFraction_54 ?_
      refine pf_0_11C (pc := 55) hX q_246 dX11_setFraction_55 ?_
      refine z_lts (fun s4 => ?_)
      exact z_retV (pc := 58) hX dX11_setFraction_58
    · exact z_retV (pc := 43) hX dX11_setFraction_43
  · intro K2 hK2
    refine z_ls [3, 4, 5, 2, 1, 0] rfl ?_
    refine (fx_P (F := l_T_setFraction_8 K2) (b := (fun _ _ _ => none)) (fun rc8 => ∀ (v3_5 : Int32) (v4_6 : Int32) (v5_7 : Int32), ZR G X (EC o L) pvV psV 7 s [(0, .ref (ad G 0 0)), (1, .int x1), (2, .int x2), (3, .int v3_5), (4, .int v4_6), (5, .int v5_7)] [] 8 (rc8 v3_5 v4_6 v5_7)) ?_ ?_ 1000) x2 x1 0
    · intro v3_5 v4_6 v5_7; exact z_none
    · intro rc8 hrc8 v3_5 v4_6 v5_7
      unfold l_T_setFraction_8
      refine z_iload (pc := 8) hX dX11_setFraction_8 5 rfl ?_
      refine z_bipush (pc := 10) hX dX11_setFraction_10 bp_100 ?_
      refine z_icmp_ge (pc := 12) (tgt := 39) hX dX11_setFraction_12 rfl ?_ ?_
      · exact z_ls [0, 1, 2, 3] rfl (hK2 v3_5)
      · refine z_iload (pc := 15) hX dX11_setFraction_15 4 rfl ?_
        refine z_if_le (pc := 17) (tgt := 39) hX dX11_setFraction_17 rfl ?_ ?_
        · exact z_ls [0, 1, 2, 3] rfl (hK2 v3_5)
        · refine z_iload_n (pc := 20) hX dX11_setFraction_20 rfl 3 rfl ?_
          refine z_iload (pc := 21) hX dX11_setFraction_21 4 rfl ?_
          refine z_irem (pc := 23) hX dX11_setFraction_23 ?_
          refine z_lti (pc := 24) (fun v6_9 => ?_)
          refine z_istore (pc := 24) (ls' := [(6, .int v6_9), (0, .ref (ad G 0 0)), (1, .int x1), (2, .int x2), (3, .int v3_5), (4, .int v4_6), (5, .int v5_7)]) hX dX11_setFraction_24 (by decide) rfl ?_
          refine z_iload (pc := 26) hX dX11_setFraction_26 5 rfl ?_
          refine z_istore_n (pc := 28) (ls' := [(3, .int v4_6), (6, .int v6_9), (0, .ref (ad G 0 0)), (1, .int x1), (2, .int x2), (4, .int v4_6), (5, .int v5_7)]) hX dX11_setFraction_28 rfl (by decide) rfl ?_
          refine z_iload (pc := 29) hX dX11_setFraction_29 1 rfl ?_
          refine z_istore (pc := 31) (ls' := [(4, .int v6_9), (3, .int v4_6), (6, .int v6_9), (0, .ref (ad G 0 0)), (1, .int x1), (2, .int x2), (5, .int v5_7)]) hX dX11_setFraction_31 (by decide) rfl ?_
          refine z_iinc (pc := 33) (n := 6) (v := v5_7 + 1) (ls' := [(5, .int (v5_7 + 1)), (4, .int v6_9), (3, .int v4_6), (6, .int v6_9), (0, .ref (ad G 0 0)), (1, .int x1), (2, .int x2)]) hX dX11_setFraction_33 rfl (by rw [show Int32.ofInt (1) = 1 by decide +kernel]) (by decide) rfl ?_
          refine z_goto (pc := 36) (tgt := 8) hX dX11_setFraction_36 rfl ?_
          exact z_ls [4, 5, 6, 2, 1, 0] rfl (hrc8 v4_6 v6_9 (v5_7 + 1))
theorem hd_J6_bitCount_0f7a4 : yJ6_bitCount_0f7a4.cls ≠ "java/lang/invoke/MethodHandle" ∧ yJ6_bitCount_0f7a4.cls ≠ "java/lang/invoke/VarHandle" ∧ (parseMethodDescriptor yJ6_bitCount_0f7a4.desc).map (fun d => d.parameters.length) = some 1 := by decide +kernel
def f_J_bitCount (x0 : Int32) : Option (Int32) :=
  lt ((x0 - (((Int32.toUInt32 x0 >>> (Int32.toUInt32 1 &&& Int32.toUInt32 31)).toInt32) &&& 1431655765) : Int32)) (fun v0_1 => lt (((v0_1 &&& 858993459) + (((Int32.toUInt32 v0_1 >>> (Int32.toUInt32 2 &&& Int32.toUInt32 31)).toInt32) &&& 858993459) : Int32)) (fun v0_2 => lt (((v0_2 + ((Int32.toUInt32 v0_2 >>> (Int32.toUInt32 4 &&& Int32.toUInt32 31)).toInt32)) &&& 252645135 : Int32)) (fun v0_3 => lt ((v0_3 + ((Int32.toUInt32 v0_3 >>> (Int32.toUInt32 8 &&& Int32.toUInt32 31)).toInt32) : Int32)) (fun v0_4 => lt ((v0_4 + ((Int32.toUInt32 v0_4 >>> (Int32.toUInt32 16 &&& Int32.toUInt32 31)).toInt32) : Int32)) (fun v0_5 => some (v0_5 &&& 63))))))
set_option maxRecDepth 100000 in
set_option maxHeartbeats 4000000 in
theorem c_J_bitCount {G : Gb} {l : Launch} {o : Sto} {L : Lng} (hG : GA G) (s : Sto) (x0 : Int32)  : CT G l (EC o L) pvP (psP s) yJ6_bitCount_0f7a4 cJ6_bitCount_0f7a4 1 (some .int) 0 0 [.int x0] s (f_J_bitCount x0) := by
  refine CT.of hG (by decide) (Nat.le_of_ble_eq_true rfl) (fun X hX => ?_)
  have hX : OX G X l cJ6_bitCount_0f7a4 1 "java/lang/Integer" (some .int) 0 0 := hX
  show ZR G X (EC o L) pvP (psP s) 1 s [(0, .int x0)] [] 0 _
  unfold f_J_bitCount
  refine z_iload_n (pc := 0) hX dJ6_bitCount_0f7a4_0 rfl 0 rfl ?_
  refine z_iload_n (pc := 1) hX dJ6_bitCount_0f7a4_1 rfl 0 rfl ?_
  refine z_iconst (pc := 2) hX dJ6_bitCount_0f7a4_2 ic_1 ?_
  refine z_iushr (pc := 3) hX dJ6_bitCount_0f7a4_3 ?_
  refine z_ldcw (pc := 4) hX q_720 dJ6_bitCount_0f7a4_4 ?_
  refine z_iand (pc := 7) hX dJ6_bitCount_0f7a4_7 ?_
  refine z_isub (pc := 8) hX dJ6_bitCount_0f7a4_8 ?_
  refine z_lti (pc := 9) (fun v0_1 => ?_)
  refine z_istore_n (pc := 9) (ls' := [(0, .int v0_1)]) hX dJ6_bitCount_0f7a4_9 rfl (by decide) rfl ?_
  refine z_iload_n (pc := 10) hX dJ6_bitCount_0f7a4_10 rfl 0 rfl ?_
  refine z_ldcw (pc := 11) hX q_721 dJ6_bitCount_0f7a4_11 ?_
  refine z_iand (pc := 14) hX dJ6_bitCount_0f7a4_14 ?_
  refine z_iload_n (pc := 15) hX dJ6_bitCount_0f7a4_15 rfl 0 rfl ?_
  refine z_iconst (pc := 16) hX dJ6_bitCount_0f7a4_16 ic_2 ?_
  refine z_iushr (pc := 17) hX dJ6_bitCount_0f7a4_17 ?_
  refine z_ldcw (pc := 18) hX q_721 dJ6_bitCount_0f7a4_18 ?_
  refine z_iand (pc := 21) hX dJ6_bitCount_0f7a4_21 ?_
  refine z_iadd (pc := 22) hX dJ6_bitCount_0f7a4_22 ?_
  refine z_lti (pc := 23) (fun v0_2 => ?_)
  refine z_istore_n (pc := 23) (ls' := [(0, .int v0_2)]) hX dJ6_bitCount_0f7a4_23 rfl (by decide) rfl ?_
  refine z_iload_n (pc := 24) hX dJ6_bitCount_0f7a4_24 rfl 0 rfl ?_
  refine z_iload_n (pc := 25) hX dJ6_bitCount_0f7a4_25 rfl 0 rfl ?_
  refine z_iconst (pc := 26) hX dJ6_bitCount_0f7a4_26 ic_4 ?_
  refine z_iushr (pc := 27) hX dJ6_bitCount_0f7a4_27 ?_
  refine z_iadd (pc := 28) hX dJ6_bitCount_0f7a4_28 ?_
  refine z_ldcw (pc := 29) hX q_722 dJ6_bitCount_0f7a4_29 ?_
  refine z_iand (pc := 32) hX dJ6_bitCount_0f7a4_32 ?_
  refine z_lti (pc := 33) (fun v0_3 => ?_)
  refine z_istore_n (pc := 33) (ls' := [(0, .int v0_3)]) hX dJ6_bitCount_0f7a4_33 rfl (by decide) rfl ?_
  refine z_iload_n (pc := 34) hX dJ6_bitCount_0f7a4_34 rfl 0 rfl ?_
  refine z_iload_n (pc := 35) hX dJ6_bitCount_0f7a4_35 rfl 0 rfl ?_
  refine z_bipush (pc := 36) hX dJ6_bitCount_0f7a4_36 bp_8 ?_
  refine z_iushr (pc := 38) hX dJ6_bitCount_0f7a4_38 ?_
  refine z_iadd (pc := 39) hX dJ6_bitCount_0f7a4_39 ?_
  refine z_lti (pc := 40) (fun v0_4 => ?_)
  refine z_istore_n (pc := 40) (ls' := [(0, .int v0_4)]) hX dJ6_bitCount_0f7a4_40 rfl (by decide) rfl ?_
  refine z_iload_n (pc := 41) hX dJ6_bitCount_0f7a4_41 rfl 0 rfl ?_
  refine z_iload_n (pc := 42) hX dJ6_bitCount_0f7a4_42 rfl 0 rfl ?_
  refine z_bipush (pc := 43) hX dJ6_bitCount_0f7a4_43 bp_16 ?_
  refine z_iushr (pc := 45) hX dJ6_bitCount_0f7a4_45 ?_
  refine z_iadd (pc := 46) hX dJ6_bitCount_0f7a4_46 ?_
  refine z_lti (pc := 47) (fun v0_5 => ?_)
  refine z_istore_n (pc := 47) (ls' := [(0, .int v0_5)]) hX dJ6_bitCount_0f7a4_47 rfl (by decide) rfl ?_
  refine z_iload_n (pc := 48) hX dJ6_bitCount_0f7a4_48 rfl 0 rfl ?_
  refine z_bipush (pc := 49) hX dJ6_bitCount_0f7a4_49 bp_63 ?_
  refine z_iand (pc := 51) hX dJ6_bitCount_0f7a4_51 ?_
  exact z_retP (pc := 52) hX dJ6_bitCount_0f7a4_52
theorem hd_X0_begin : yX0_begin.cls ≠ "java/lang/invoke/MethodHandle" ∧ yX0_begin.cls ≠ "java/lang/invoke/VarHandle" ∧ (parseMethodDescriptor yX0_begin.desc).map (fun d => d.parameters.length) = some 1 := by decide +kernel
def f_Co_begin (s : Sto) (i0 : Nat) (x1 : Int32) : Option (Sto) :=
  bV (f_Mo_begin s i0 x1) (fun s1 => lt (st s1 1 i0 5 0) (fun s2 => lt (st s2 1 i0 6 0) (fun s3 => lt (st s3 1 i0 7 0) (fun s4 => some s4))))
set_option maxRecDepth 100000 in
set_option maxHeartbeats 4000000 in
theorem c_Co_begin {G : Gb} {l : Launch} {o : Sto} {L : Lng} (hG : GA G) (s : Sto) (i0 : Nat) (x1 : Int32) (h0 : V 1 i0) : CT G l (EC o L) pvV psV yX0_begin cX0_begin 2 none 1 21 [.ref (ad G 1 i0), .int x1] s (f_Co_begin s i0 x1) := by
  refine CT.of hG (by decide) (Nat.le_of_ble_eq_true rfl) (fun X hX => ?_)
  have hX : OX G X l cX0_begin 2 "CrownTwo$Court" none 1 21 := hX
  show ZR G X (EC o L) pvV psV 2 s [(0, .ref (ad G 1 i0)), (1, .int x1)] [] 0 _
  unfold f_Co_begin
  refine z_aload_n (pc := 0) hX dX0_begin_0 rfl 0 rfl ?_
  refine gr_1_4C (pc := 1) hX h0 q_207 dX0_begin_1 ?_
  refine z_iload_n (pc := 4) hX dX0_begin_4 rfl 1 rfl ?_
  refine z_rV (run_V (pc := 5) (As := [.int x1]) hX (rc_4 (vr_1_4 h0)) ⟨q_296, q_299, q_3⟩ q_297 q_298 hd_X5_begin ⟨Nat.le_of_ble_eq_true rfl, Nat.le_of_ble_eq_true rfl⟩ (c_Mo_begin hG s i0 x1 (vr_1_4 h0)) rfl rfl (Nat.le_of_ble_eq_true rfl) dX0_begin_5) (fun s1 => ?_)
  refine z_aload_n (pc := 8) hX dX0_begin_8 rfl 0 rfl ?_
  refine z_iconst (pc := 9) hX dX0_begin_9 ic_0 ?_
  refine pf_1_5C (pc := 10) hX h0 q_210 dX0_begin_10 ?_
  refine z_lts (fun s2 => ?_)
  refine z_aload_n (pc := 13) hX dX0_begin_13 rfl 0 rfl ?_
  refine z_iconst (pc := 14) hX dX0_begin_14 ic_0 ?_
  refine pf_1_6C (pc := 15) hX h0 q_213 dX0_begin_15 ?_
  refine z_lts (fun s3 => ?_)
  refine z_aload_n (pc := 18) hX dX0_begin_18 rfl 0 rfl ?_
  refine z_iconst (pc := 19) hX dX0_begin_19 ic_0 ?_
  refine pf_1_7C (pc := 20) hX h0 q_215 dX0_begin_20 ?_
  refine z_lts (fun s4 => ?_)
  exact z_retV (pc := 23) hX dX0_begin_23
theorem hd_X0_become : yX0_become.cls ≠ "java/lang/invoke/MethodHandle" ∧ yX0_become.cls ≠ "java/lang/invoke/VarHandle" ∧ (parseMethodDescriptor yX0_become.desc).map (fun d => d.parameters.length) = some 1 := by decide +kernel
def l_Co_become_99 (i0 : Nat) (i1 : Nat) (rc11 : Sto → Int32 → Option (Sto)) (s9 : Sto) (v2_10 : Int32) : Option (Sto) :=
  if (s9 1 i0 7 : Int32) ≤ v2_10 then some s9 else if inb v2_10 8 then if inb v2_10 8 then bV (f_Mo_become s9 (4 + 8 * i0 + ix v2_10) (4 + 8 * i1 + ix v2_10)) (fun s14 => rc11 s14 (v2_10 + 1)) else none else none
def l_Co_become_68 (i0 : Nat) (i1 : Nat) (K8 : Sto → Option (Sto)) (rc17 : Sto → Int32 → Option (Sto)) (s15 : Sto) (v2_16 : Int32) : Option (Sto) :=
  if (s15 1 i0 6 : Int32) ≤ v2_16 then K8 s15 else if inb v2_16 6 then if inb v2_16 6 then bV (f_No_become s15 (6 * i0 + ix v2_16) (6 * i1 + ix v2_16)) (fun s20 => rc17 s20 (v2_16 + 1)) else none else none
def l_Co_become_37 (i0 : Nat) (i1 : Nat) (K6 : Sto → Option (Sto)) (rc23 : Sto → Int32 → Option (Sto)) (s21 : Sto) (v2_22 : Int32) : Option (Sto) :=
  if (s21 1 i0 5 : Int32) ≤ v2_22 then K6 s21 else if inb v2_22 6 then if inb v2_22 6 then bV (f_He_become s21 (6 * i0 + ix v2_22) (6 * i1 + ix v2_22)) (fun s26 => rc23 s26 (v2_22 + 1)) else none else none
def f_Co_become (s : Sto) (i0 : Nat) (i1 : Nat) : Option (Sto) :=
  bV (f_Mo_become s i0 i1) (fun s1 => lt (st s1 1 i0 5 (s1 1 i1 5)) (fun s2 => lt (st s2 1 i0 6 (s2 1 i1 6)) (fun s3 => lt (st s3 1 i0 7 (s3 1 i1 7)) (fun s4 => jn (fun s5 => jn (fun s7 => fx 1000 (l_Co_become_99 i0 i1) (fun _ _ => none) s7 0) (fun K8 => fx 1000 (l_Co_become_68 i0 i1 K8) (fun _ _ => none) s5 0)) (fun K6 => fx 1000 (l_Co_become_37 i0 i1 K6) (fun _ _ => none) s4 0)))))
set_option maxRecDepth 100000 in
set_option maxHeartbeats 4000000 in
theorem c_Co_become {G : Gb} {l : Launch} {o : Sto} {L : Lng} (hG : GA G) (s : Sto) (i0 : Nat) (i1 : Nat) (h0 : V 1 i0) (h1 : V 1 i1) : CT G l (EC o L) pvV psV yX0_become cX0_become 3 none 2 46 [.ref (ad G 1 i0), .ref (ad G 1 i1)] s (f_Co_become s i0 i1) := by
  refine CT.of hG (by decide) (Nat.le_of_ble_eq_true rfl) (fun X hX => ?_)
  have hX : OX G X l cX0_become 3 "CrownTwo$Court" none 2 46 := hX
  show ZR G X (EC o L) pvV psV 3 s [(0, .ref (ad G 1 i0)), (1, .ref (ad G 1 i1))] [] 0 _
  unfold f_Co_become
  refine z_aload_n (pc := 0) hX dX0_become_0 rfl 0 rfl ?_
  refine gr_1_4C (pc := 1) hX h0 q_207 dX0_become_1 ?_
  refine z_aload_n (pc := 4) hX dX0_become_4 rfl 1 rfl ?_
  refine gr_1_4C (pc := 5) hX h1 q_207 dX0_become_5 ?_
  refine z_rV (run_V (pc := 8) (As := [.ref (ad G 4 i1)]) hX (rc_4 (vr_1_4 h0)) ⟨q_439, q_442, q_3⟩ q_440 q_441 hd_X5_become ⟨Nat.le_of_ble_eq_true rfl, Nat.le_of_ble_eq_true rfl⟩ (c_Mo_become hG s i0 i1 (vr_1_4 h0) (vr_1_4 h1)) rfl rfl (Nat.le_of_ble_eq_true rfl) dX0_become_8) (fun s1 => ?_)
  refine z_aload_n (pc := 11) hX dX0_become_11 rfl 0 rfl ?_
  refine z_aload_n (pc := 12) hX dX0_become_12 rfl 1 rfl ?_
  refine gf_1_5C (pc := 13) hX h1 q_210 dX0_become_13 ?_
  refine pf_1_5C (pc := 16) hX h0 q_210 dX0_become_16 ?_
  refine z_lts (fun s2 => ?_)
  refine z_aload_n (pc := 19) hX dX0_become_19 rfl 0 rfl ?_
  refine z_aload_n (pc := 20) hX dX0_become_20 rfl 1 rfl ?_
  refine gf_1_6C (pc := 21) hX h1 q_213 dX0_become_21 ?_
  refine pf_1_6C (pc := 24) hX h0 q_213 dX0_become_24 ?_
  refine z_lts (fun s3 => ?_)
  refine z_aload_n (pc := 27) hX dX0_become_27 rfl 0 rfl ?_
  refine z_aload_n (pc := 28) hX dX0_become_28 rfl 1 rfl ?_
  refine gf_1_7C (pc := 29) hX h1 q_215 dX0_become_29 ?_
  refine pf_1_7C (pc := 32) hX h0 q_215 dX0_become_32 ?_
  refine z_lts (fun s4 => ?_)
  refine z_iconst (pc := 35) hX dX0_become_35 ic_0 ?_
  refine z_istore_n (pc := 36) (ls' := [(2, .int 0), (0, .ref (ad G 1 i0)), (1, .ref (ad G 1 i1))]) hX dX0_become_36 rfl (by decide) rfl ?_
  refine z_jn (P := fun K6 => ∀ (s5 : Sto), ZR G X (EC o L) pvV psV 3 s5 [(0, .ref (ad G 1 i0)), (1, .ref (ad G 1 i1))] [] 66 (K6 s5)) ?_ ?_
  · intro s5
    refine z_iconst (pc := 66) hX dX0_become_66 ic_0 ?_
    refine z_istore_n (pc := 67) (ls' := [(2, .int 0), (0, .ref (ad G 1 i0)), (1, .ref (ad G 1 i1))]) hX dX0_become_67 rfl (by decide) rfl ?_
    refine z_jn (P := fun K8 => ∀ (s7 : Sto), ZR G X (EC o L) pvV psV 3 s7 [(0, .ref (ad G 1 i0)), (1, .ref (ad G 1 i1))] [] 97 (K8 s7)) ?_ ?_
    · intro s7
      refine z_iconst (pc := 97) hX dX0_become_97 ic_0 ?_
      refine z_istore_n (pc := 98) (ls' := [(2, .int 0), (0, .ref (ad G 1 i0)), (1, .ref (ad G 1 i1))]) hX dX0_become_98 rfl (by decide) rfl ?_
      refine z_ls [1, 2, 0] rfl ?_
      refine (fx_P (F := l_Co_become_99 i0 i1) (b := (fun _ _ => none)) (fun rc11 => ∀ (s9 : Sto) (v2_10 : Int32), ZR G X (EC o L) pvV psV 3 s9 [(0, .ref (ad G 1 i0)), (1, .ref (ad G 1 i1)), (2, .int v2_10)] [] 99 (rc11 s9 v2_10)) ?_ ?_ 1000) s7 0
      · intro s9 v2_10; exact z_none
      · intro rc11 hrc11 s9 v2_10
        unfold l_Co_become_99
        refine z_iload_n (pc := 99) hX dX0_become_99 rfl 2 rfl ?_
        refine z_aload_n (pc := 100) hX dX0_become_100 rfl 0 rfl ?_
        refine gf_1_7C (pc := 101) hX h0 q_215 dX0_become_101 ?_
        refine z_icmp_ge (pc := 104) (tgt := 128) hX dX0_become_104 rfl ?_ ?_
        · exact z_retV (pc := 128) hX dX0_become_128
        · refine z_aload_n (pc := 107) hX dX0_become_107 rfl 0 rfl ?_
          refine gr_1_3C (pc := 108) hX h0 q_206 dX0_become_108 ?_
          refine z_iload_n (pc := 111) hX dX0_become_111 rfl 2 rfl ?_
          refine aa_10C (pc := 112) hX (vr_1_10 h0) dX0_become_112 (fun hv12 => ?_)
          refine z_aload_n (pc := 113) hX dX0_become_113 rfl 1 rfl ?_
          refine gr_1_3C (pc := 114) hX h1 q_206 dX0_become_114 ?_
          refine z_iload_n (pc := 117) hX dX0_become_117 rfl 2 rfl ?_
          refine aa_10C (pc := 118) hX (vr_1_10 h1) dX0_become_118 (fun hv13 => ?_)
          refine z_rV (run_V (pc := 119) (As := [.ref (ad G 4 (4 + 8 * i1 + ix v2_10))]) hX (rc_4 hv12) ⟨q_439, q_442, q_3⟩ q_440 q_441 hd_X5_become ⟨Nat.le_of_ble_eq_true rfl, Nat.le_of_ble_eq_true rfl⟩ (c_Mo_become hG s9 (4 + 8 * i0 + ix v2_10) (4 + 8 * i1 + ix v2_10) hv12 hv13) rfl rfl (Nat.le_of_ble_eq_true rfl) dX0_become_119) (fun s14 => ?_)
          refine z_iinc (pc := 122) (n := 2) (v := v2_10 + 1) (ls' := [(2, .int (v2_10 + 1)), (0, .ref (ad G 1 i0)), (1, .ref (ad G 1 i1))]) hX dX0_become_122 rfl (by rw [show Int32.ofInt (1) = 1 by decide +kernel]) (by decide) rfl ?_
          refine z_goto (pc := 125) (tgt := 99) hX dX0_become_125 rfl ?_
          exact z_ls [1, 2, 0] rfl (hrc11 s14 (v2_10 + 1))
    · intro K8 hK8
      refine z_ls [1, 2, 0] rfl ?_
      refine (fx_P (F := l_Co_become_68 i0 i1 K8) (b := (fun _ _ => none)) (fun rc17 => ∀ (s15 : Sto) (v2_16 : Int32), ZR G X (EC o L) pvV psV 3 s15 [(0, .ref (ad G 1 i0)), (1, .ref (ad G 1 i1)), (2, .int v2_16)] [] 68 (rc17 s15 v2_16)) ?_ ?_ 1000) s5 0
      · intro s15 v2_16; exact z_none
      · intro rc17 hrc17 s15 v2_16
        unfold l_Co_become_68
        refine z_iload_n (pc := 68) hX dX0_become_68 rfl 2 rfl ?_
        refine z_aload_n (pc := 69) hX dX0_become_69 rfl 0 rfl ?_
        refine gf_1_6C (pc := 70) hX h0 q_213 dX0_become_70 ?_
        refine z_icmp_ge (pc := 73) (tgt := 97) hX dX0_become_73 rfl ?_ ?_
        · exact z_ls [0, 1] rfl (hK8 s15)
        · refine z_aload_n (pc := 76) hX dX0_become_76 rfl 0 rfl ?_
          refine gr_1_2C (pc := 77) hX h0 q_204 dX0_become_77 ?_
          refine z_iload_n (pc := 80) hX dX0_become_80 rfl 2 rfl ?_
          refine aa_9C (pc := 81) hX (vr_1_9 h0) dX0_become_81 (fun hv18 => ?_)
          refine z_aload_n (pc := 82) hX dX0_become_82 rfl 1 rfl ?_
          refine gr_1_2C (pc := 83) hX h1 q_204 dX0_become_83 ?_
          refine z_iload_n (pc := 86) hX dX0_become_86 rfl 2 rfl ?_
          refine aa_9C (pc := 87) hX (vr_1_9 h1) dX0_become_87 (fun hv19 => ?_)
          refine z_rV (run_V (pc := 88) (As := [.ref (ad G 3 (6 * i1 + ix v2_16))]) hX (rc_3 hv18) ⟨q_448, q_451, q_12⟩ q_449 q_450 hd_X6_become ⟨Nat.le_of_ble_eq_true rfl, Nat.le_of_ble_eq_true rfl⟩ (c_No_become hG s15 (6 * i0 + ix v2_16) (6 * i1 + ix v2_16) hv18 hv19) rfl rfl (Nat.le_of_ble_eq_true rfl) dX0_become_88) (fun s20 => ?_)
          refine z_iinc (pc := 91) (n := 2) (v := v2_16 + 1) (ls' := [(2, .int (v2_16 + 1)), (0, .ref (ad G 1 i0)), (1, .ref (ad G 1 i1))]) hX dX0_become_91 rfl (by rw [show Int32.ofInt (1) = 1 by decide +kernel]) (by decide) rfl ?_
          refine z_goto (pc := 94) (tgt := 68) hX dX0_become_94 rfl ?_
          exact z_ls [1, 2, 0] rfl (hrc17 s20 (v2_16 + 1))
  · intro K6 hK6
    refine z_ls [1, 2, 0] rfl ?_
    refine (fx_P (F := l_Co_become_37 i0 i1 K6) (b := (fun _ _ => none)) (fun rc23 => ∀ (s21 : Sto) (v2_22 : Int32), ZR G X (EC o L) pvV psV 3 s21 [(0, .ref (ad G 1 i0)), (1, .ref (ad G 1 i1)), (2, .int v2_22)] [] 37 (rc23 s21 v2_22)) ?_ ?_ 1000) s4 0
    · intro s21 v2_22; exact z_none
    · intro rc23 hrc23 s21 v2_22
      unfold l_Co_become_37
      refine z_iload_n (pc := 37) hX dX0_become_37 rfl 2 rfl ?_
      refine z_aload_n (pc := 38) hX dX0_become_38 rfl 0 rfl ?_
      refine gf_1_5C (pc := 39) hX h0 q_210 dX0_become_39 ?_
      refine z_icmp_ge (pc := 42) (tgt := 66) hX dX0_become_42 rfl ?_ ?_
      · exact z_ls [0, 1] rfl (hK6 s21)
      · refine z_aload_n (pc := 45) hX dX0_become_45 rfl 0 rfl ?_
        refine gr_1_1C (pc := 46) hX h0 q_201 dX0_become_46 ?_
        refine z_iload_n (pc := 49) hX dX0_become_49 rfl 2 rfl ?_
        refine aa_8C (pc := 50) hX (vr_1_8 h0) dX0_become_50 (fun hv24 => ?_)
        refine z_aload_n (pc := 51) hX dX0_become_51 rfl 1 rfl ?_
        refine gr_1_1C (pc := 52) hX h1 q_201 dX0_become_52 ?_
        refine z_iload_n (pc := 55) hX dX0_become_55 rfl 2 rfl ?_
        refine aa_8C (pc := 56) hX (vr_1_8 h1) dX0_become_56 (fun hv25 => ?_)
        refine z_rV (run_V (pc := 57) (As := [.ref (ad G 2 (6 * i1 + ix v2_22))]) hX (rc_2 hv24) ⟨q_443, q_446, q_11⟩ q_444 q_445 hd_X3_become ⟨Nat.le_of_ble_eq_true rfl, Nat.le_of_ble_eq_true rfl⟩ (c_He_become hG s21 (6 * i0 + ix v2_22) (6 * i1 + ix v2_22) hv24 hv25) rfl rfl (Nat.le_of_ble_eq_true rfl) dX0_become_57) (fun s26 => ?_)
        refine z_iinc (pc := 60) (n := 2) (v := v2_22 + 1) (ls' := [(2, .int (v2_22 + 1)), (0, .ref (ad G 1 i0)), (1, .ref (ad G 1 i1))]) hX dX0_become_60 rfl (by rw [show Int32.ofInt (1) = 1 by decide +kernel]) (by decide) rfl ?_
        refine z_goto (pc := 63) (tgt := 37) hX dX0_become_63 rfl ?_
        exact z_ls [1, 2, 0] rfl (hrc23 s26 (v2_22 + 1))
theorem hd_X0_admit : yX0_admit.cls ≠ "java/lang/invoke/MethodHandle" ∧ yX0_admit.cls ≠ "java/lang/invoke/VarHandle" ∧ (parseMethodDescriptor yX0_admit.desc).map (fun d => d.parameters.length) = some 4 := by decide +kernel
def f_Co_admit (s : Sto) (i0 : Nat) (x1 : Int32) (x2 : Int32) (x3 : Int32) (x4 : Int32) : Option (Int32 × Sto) :=
  if (s 1 i0 5 : Int32) < 6 then if inb (s 1 i0 5) 6 then bV (f_He_put s (6 * i0 + ix (s 1 i0 5)) x1 x2 x3 x4) (fun s2 => lt (st s2 1 i0 7 0) (fun s3 => lt (st s3 1 i0 5 ((s3 1 i0 5) + 1)) (fun s4 => some ((s4 1 i0 5) - 1, s4)))) else none else some ((-4), s)
set_option maxRecDepth 100000 in
set_option maxHeartbeats 4000000 in
theorem c_Co_admit {G : Gb} {l : Launch} {o : Sto} {L : Lng} (hG : GA G) (s : Sto) (i0 : Nat) (x1 : Int32) (x2 : Int32) (x3 : Int32) (x4 : Int32) (h0 : V 1 i0) : CT G l (EC o L) pvI psI yX0_admit cX0_admit 5 (some .int) 1 24 [.ref (ad G 1 i0), .int x1, .int x2, .int x3, .int x4] s (f_Co_admit s i0 x1 x2 x3 x4) := by
  refine CT.of hG (by decide) (Nat.le_of_ble_eq_true rfl) (fun X hX => ?_)
  have hX : OX G X l cX0_admit 5 "CrownTwo$Court" (some .int) 1 24 := hX
  show ZR G X (EC o L) pvI psI 5 s [(0, .ref (ad G 1 i0)), (1, .int x1), (2, .int x2), (3, .int x3), (4, .int x4)] [] 0 _
  unfold f_Co_admit
  refine z_aload_n (pc := 0) hX dX0_admit_0 rfl 0 rfl ?_
  refine gf_1_5C (pc := 1) hX h0 q_210 dX0_admit_1 ?_
  refine z_bipush (pc := 4) hX dX0_admit_4 bp_6 ?_
  refine z_icmp_lt (pc := 6) (tgt := 12) hX dX0_admit_6 rfl ?_ ?_
  · refine z_aload_n (pc := 12) hX dX0_admit_12 rfl 0 rfl ?_
    refine gr_1_1C (pc := 13) hX h0 q_201 dX0_admit_13 ?_
    refine z_aload_n (pc := 16) hX dX0_admit_16 rfl 0 rfl ?_
    refine gf_1_5C (pc := 17) hX h0 q_210 dX0_admit_17 ?_
    refine aa_8C (pc := 20) hX (vr_1_8 h0) dX0_admit_20 (fun hv1 => ?_)
    refine z_iload_n (pc := 21) hX dX0_admit_21 rfl 1 rfl ?_
    refine z_iload_n (pc := 22) hX dX0_admit_22 rfl 2 rfl ?_
    refine z_iload_n (pc := 23) hX dX0_admit_23 rfl 3 rfl ?_
    refine z_iload (pc := 24) hX dX0_admit_24 4 rfl ?_
    refine z_rV (run_V (pc := 26) (As := [.int x1, .int x2, .int x3, .int x4]) hX (rc_2 hv1) ⟨q_312, q_315, q_11⟩ q_313 q_314 hd_X3_put ⟨Nat.le_of_ble_eq_true rfl, Nat.le_of_ble_eq_true rfl⟩ (c_He_put hG s (6 * i0 + ix (s 1 i0 5)) x1 x2 x3 x4 hv1) rfl rfl (Nat.le_of_ble_eq_true rfl) dX0_admit_26) (fun s2 => ?_)
    refine z_aload_n (pc := 29) hX dX0_admit_29 rfl 0 rfl ?_
    refine z_iconst (pc := 30) hX dX0_admit_30 ic_0 ?_
    refine pf_1_7C (pc := 31) hX h0 q_215 dX0_admit_31 ?_
    refine z_lts (fun s3 => ?_)
    refine z_aload_n (pc := 34) hX dX0_admit_34 rfl 0 rfl ?_
    refine z_dup (pc := 35) hX dX0_admit_35 rfl ?_
    refine gf_1_5C (pc := 36) hX h0 q_210 dX0_admit_36 ?_
    refine z_iconst (pc := 39) hX dX0_admit_39 ic_1 ?_
    refine z_iadd (pc := 40) hX dX0_admit_40 ?_
    refine pf_1_5C (pc := 41) hX h0 q_210 dX0_admit_41 ?_
    refine z_lts (fun s4 => ?_)
    refine z_aload_n (pc := 44) hX dX0_admit_44 rfl 0 rfl ?_
    refine gf_1_5C (pc := 45) hX h0 q_210 dX0_admit_45 ?_
    refine z_iconst (pc := 48) hX dX0_admit_48 ic_1 ?_
    refine z_isub (pc := 49) hX dX0_admit_49 ?_
    exact z_retI (pc := 50) hX dX0_admit_50
  · refine z_bipush (pc := 9) hX dX0_admit_9 bp_m4 ?_
    exact z_retI (pc := 11) hX dX0_admit_11
theorem hd_X0_forgetOldest : yX0_forgetOldest.cls ≠ "java/lang/invoke/MethodHandle" ∧ yX0_forgetOldest.cls ≠ "java/lang/invoke/VarHandle" ∧ (parseMethodDescriptor yX0_forgetOldest.desc).map (fun d => d.parameters.length) = some 0 := by decide +kernel
def l_Co_forgetOldest_2 (i0 : Nat) (rc3 : Sto → Int32 → Option (Sto)) (s1 : Sto) (v1_2 : Int32) : Option (Sto) :=
  if (8 : Int32) ≤ v1_2 then lt (st s1 1 i0 7 7) (fun s4 => some s4) else if inb (v1_2 - 1) 8 then if inb v1_2 8 then bV (f_Mo_become s1 (4 + 8 * i0 + ix (v1_2 - 1)) (4 + 8 * i0 + ix v1_2)) (fun s7 => rc3 s7 (v1_2 + 1)) else none else none
def f_Co_forgetOldest (s : Sto) (i0 : Nat) : Option (Sto) :=
  fx 1000 (l_Co_forgetOldest_2 i0) (fun _ _ => none) s 1
set_option maxRecDepth 100000 in
set_option maxHeartbeats 4000000 in
theorem c_Co_forgetOldest {G : Gb} {l : Launch} {o : Sto} {L : Lng} (hG : GA G) (s : Sto) (i0 : Nat) (h0 : V 1 i0) : CT G l (EC o L) pvV psV yX0_forgetOldest cX0_forgetOldest 2 none 1 21 [.ref (ad G 1 i0)] s (f_Co_forgetOldest s i0) := by
  refine CT.of hG (by decide) (Nat.le_of_ble_eq_true rfl) (fun X hX => ?_)
  have hX : OX G X l cX0_forgetOldest 2 "CrownTwo$Court" none 1 21 := hX
  show ZR G X (EC o L) pvV psV 2 s [(0, .ref (ad G 1 i0))] [] 0 _
  unfold f_Co_forgetOldest
  refine z_iconst (pc := 0) hX dX0_forgetOldest_0 ic_1 ?_
  refine z_istore_n (pc := 1) (ls' := [(1, .int 1), (0, .ref (ad G 1 i0))]) hX dX0_forgetOldest_1 rfl (by decide) rfl ?_
  refine z_ls [1, 0] rfl ?_
  refine (fx_P (F := l_Co_forgetOldest_2 i0) (b := (fun _ _ => none)) (fun rc3 => ∀ (s1 : Sto) (v1_2 : Int32), ZR G X (EC o L) pvV psV 2 s1 [(0, .ref (ad G 1 i0)), (1, .int v1_2)] [] 2 (rc3 s1 v1_2)) ?_ ?_ 1000) s 1
  · intro s1 v1_2; exact z_none
  · intro rc3 hrc3 s1 v1_2
    unfold l_Co_forgetOldest_2
    refine z_iload_n (pc := 2) hX dX0_forgetOldest_2 rfl 1 rfl ?_
    refine z_bipush (pc := 3) hX dX0_forgetOldest_3 bp_8 ?_
    refine z_icmp_ge (pc := 5) (tgt := 31) hX dX0_forgetOldest_5 rfl ?_ ?_
    · refine z_aload_n (pc := 31) hX dX0_forgetOldest_31 rfl 0 rfl ?_
      refine z_bipush (pc := 32) hX dX0_forgetOldest_32 bp_7 ?_
      refine pf_1_7C (pc := 34) hX h0 q_215 dX0_forgetOldest_34 ?_
      refine z_lts (fun s4 => ?_)
      exact z_retV (pc := 37) hX dX0_forgetOldest_37
    · refine z_aload_n (pc := 8) hX dX0_forgetOldest_8 rfl 0 rfl ?_
      refine gr_1_3C (pc := 9) hX h0 q_206 dX0_forgetOldest_9 ?_
      refine z_iload_n (pc := 12) hX dX0_forgetOldest_12 rfl 1 rfl ?_
      refine z_iconst (pc := 13) hX dX0_forgetOldest_13 ic_1 ?_
      refine z_isub (pc := 14) hX dX0_forgetOldest_14 ?_
      refine aa_10C (pc := 15) hX (vr_1_10 h0) dX0_forgetOldest_15 (fun hv5 => ?_)
      refine z_aload_n (pc := 16) hX dX0_forgetOldest_16 rfl 0 rfl ?_
      refine gr_1_3C (pc := 17) hX h0 q_206 dX0_forgetOldest_17 ?_
      refine z_iload_n (pc := 20) hX dX0_forgetOldest_20 rfl 1 rfl ?_
      refine aa_10C (pc := 21) hX (vr_1_10 h0) dX0_forgetOldest_21 (fun hv6 => ?_)
      refine z_rV (run_V (pc := 22) (As := [.ref (ad G 4 (4 + 8 * i0 + ix v1_2))]) hX (rc_4 hv5) ⟨q_439, q_442, q_3⟩ q_440 q_441 hd_X5_become ⟨Nat.le_of_ble_eq_true rfl, Nat.le_of_ble_eq_true rfl⟩ (c_Mo_become hG s1 (4 + 8 * i0 + ix (v1_2 - 1)) (4 + 8 * i0 + ix v1_2) hv5 hv6) rfl rfl (Nat.le_of_ble_eq_true rfl) dX0_forgetOldest_22) (fun s7 => ?_)
      refine z_iinc (pc := 25) (n := 1) (v := v1_2 + 1) (ls' := [(1, .int (v1_2 + 1)), (0, .ref (ad G 1 i0))]) hX dX0_forgetOldest_25 rfl (by rw [show Int32.ofInt (1) = 1 by decide +kernel]) (by decide) rfl ?_
      refine z_goto (pc := 28) (tgt := 2) hX dX0_forgetOldest_28 rfl ?_
      exact z_ls [1, 0] rfl (hrc3 s7 (v1_2 + 1))
theorem hd_X0_goBack : yX0_goBack.cls ≠ "java/lang/invoke/MethodHandle" ∧ yX0_goBack.cls ≠ "java/lang/invoke/VarHandle" ∧ (parseMethodDescriptor yX0_goBack.desc).map (fun d => d.parameters.length) = some 0 := by decide +kernel
def f_Co_goBack (s : Sto) (i0 : Nat) : Option (Sto) :=
  if (0 : Int32) < (s 1 i0 7) then lt (st s 1 i0 7 ((s 1 i0 7) - 1)) (fun s1 => if inb (s1 1 i0 7) 8 then bV (f_Mo_become s1 i0 (4 + 8 * i0 + ix (s1 1 i0 7))) (fun s3 => some s3) else none) else some s
set_option maxRecDepth 100000 in
set_option maxHeartbeats 4000000 in
theorem c_Co_goBack {G : Gb} {l : Launch} {o : Sto} {L : Lng} (hG : GA G) (s : Sto) (i0 : Nat) (h0 : V 1 i0) : CT G l (EC o L) pvV psV yX0_goBack cX0_goBack 1 none 1 21 [.ref (ad G 1 i0)] s (f_Co_goBack s i0) := by
  refine CT.of hG (by decide) (Nat.le_of_ble_eq_true rfl) (fun X hX => ?_)
  have hX : OX G X l cX0_goBack 1 "CrownTwo$Court" none 1 21 := hX
  show ZR G X (EC o L) pvV psV 1 s [(0, .ref (ad G 1 i0))] [] 0 _
  unfold f_Co_goBack
  refine z_aload_n (pc := 0) hX dX0_goBack_0 rfl 0 rfl ?_
  refine gf_1_7C (pc := 1) hX h0 q_215 dX0_goBack_1 ?_
  refine z_if_gt (pc := 4) (tgt := 8) hX dX0_goBack_4 rfl ?_ ?_
  · refine z_aload_n (pc := 8) hX dX0_goBack_8 rfl 0 rfl ?_
    refine z_dup (pc := 9) hX dX0_goBack_9 rfl ?_
    refine gf_1_7C (pc := 10) hX h0 q_215 dX0_goBack_10 ?_
    refine z_iconst (pc := 13) hX dX0_goBack_13 ic_1 ?_
    refine z_isub (pc := 14) hX dX0_goBack_14 ?_
    refine pf_1_7C (pc := 15) hX h0 q_215 dX0_goBack_15 ?_
    refine z_lts (fun s1 => ?_)
    refine z_aload_n (pc := 18) hX dX0_goBack_18 rfl 0 rfl ?_
    refine gr_1_4C (pc := 19) hX h0 q_207 dX0_goBack_19 ?_
    refine z_aload_n (pc := 22) hX dX0_goBack_22 rfl 0 rfl ?_
    refine gr_1_3C (pc := 23) hX h0 q_206 dX0_goBack_23 ?_
    refine z_aload_n (pc := 26) hX dX0_goBack_26 rfl 0 rfl ?_
    refine gf_1_7C (pc := 27) hX h0 q_215 dX0_goBack_27 ?_
    refine aa_10C (pc := 30) hX (vr_1_10 h0) dX0_goBack_30 (fun hv2 => ?_)
    refine z_rV (run_V (pc := 31) (As := [.ref (ad G 4 (4 + 8 * i0 + ix (s1 1 i0 7)))]) hX (rc_4 (vr_1_4 h0)) ⟨q_439, q_442, q_3⟩ q_440 q_441 hd_X5_become ⟨Nat.le_of_ble_eq_true rfl, Nat.le_of_ble_eq_true rfl⟩ (c_Mo_become hG s1 i0 (4 + 8 * i0 + ix (s1 1 i0 7)) (vr_1_4 h0) hv2) rfl rfl (Nat.le_of_ble_eq_true rfl) dX0_goBack_31) (fun s3 => ?_)
    exact z_retV (pc := 34) hX dX0_goBack_34
  · exact z_retV (pc := 7) hX dX0_goBack_7
theorem hd_X1_advance : yX1_advance.cls ≠ "java/lang/invoke/MethodHandle" ∧ yX1_advance.cls ≠ "java/lang/invoke/VarHandle" ∧ (parseMethodDescriptor yX1_advance.desc).map (fun d => d.parameters.length) = some 0 := by decide +kernel
def l_Tx_advance_115 (K8 : Sto → Option (Sto)) (rc11 : Sto → Option (Sto)) (s10 : Sto) : Option (Sto) :=
  if (s10 5 0 1 : Int32) ≤ (s10 5 0 3) then K8 s10 else bP (f_Tx_sortAt s10 (s10 5 0 3)) (fun r12 => if (r12 : Int32) = 2 then if inb (s10 5 0 3) 150 then lt (st s10 5 0 5 (((10 * (s10 5 0 5)) + (s10 16 0 (ix (s10 5 0 3)))) - 48)) (fun s13 => lt (st s13 5 0 3 ((s13 5 0 3) + 1)) (fun s14 => rc11 s14)) else none else K8 s10)
def l_Tx_advance_71  (rc16 : Sto → Option (Sto)) (s15 : Sto) : Option (Sto) :=
  if (s15 5 0 1 : Int32) ≤ (s15 5 0 3) then some s15 else bP (f_Tx_sortAt s15 (s15 5 0 3)) (fun r17 => if (r17 : Int32) = 1 then lt (st s15 5 0 3 ((s15 5 0 3) + 1)) (fun s18 => rc16 s18) else some s15)
def l_Tx_advance_0 (j1 : Option (Sto)) (rc21 : Sto → Option (Sto)) (s20 : Sto) : Option (Sto) :=
  if (s20 5 0 1 : Int32) ≤ (s20 5 0 3) then j1 else if inb (s20 5 0 3) 150 then if (s20 16 0 (ix (s20 5 0 3)) : Int32) = 32 then lt (st s20 5 0 3 ((s20 5 0 3) + 1)) (fun s22 => rc21 s22) else j1 else none
def f_Tx_advance (s : Sto)  : Option (Sto) :=
  jn (lt (st s 5 0 2 (s 5 0 3)) (fun s2 => bP (f_Tx_sortAt s2 (s2 5 0 2)) (fun r3 => lt (st s2 5 0 4 r3) (fun s4 => lt (st s4 5 0 5 0) (fun s5 => if (s5 5 0 4 : Int32) = 1 then fx 1000 (l_Tx_advance_71) (fun _ => none) s5 else if (s5 5 0 4 : Int32) = 2 then jn (fun s7 => if ((s7 5 0 3) - (s7 5 0 2) : Int32) ≤ 2 then some s7 else lt (st s7 5 0 4 4) (fun s9 => some s9)) (fun K8 => fx 1000 (l_Tx_advance_115 K8) (fun _ => none) s5) else if (s5 5 0 4 : Int32) = 0 then some s5 else lt (st s5 5 0 3 ((s5 5 0 3) + 1)) (fun s6 => some s6)))))) (fun j1 => if (s 5 0 1 : Int32) ≤ (s 5 0 3) then j1 else if inb (s 5 0 3) 150 then if (s 16 0 (ix (s 5 0 3)) : Int32) = 32 then lt (st s 5 0 3 ((s 5 0 3) + 1)) (fun s19 => fx 1000 (l_Tx_advance_0 j1) (fun _ => none) s19) else j1 else none)
set_option maxRecDepth 100000 in
set_option maxHeartbeats 4000000 in
theorem c_Tx_advance {G : Gb} {l : Launch} {o : Sto} {L : Lng} (hG : GA G) (s : Sto)   : CT G l (EC o L) pvV psV yX1_advance cX1_advance 1 none 1 22 [.ref (ad G 5 0)] s (f_Tx_advance s) := by
  refine CT.of hG (by decide) (Nat.le_of_ble_eq_true rfl) (fun X hX => ?_)
  have hX : OX G X l cX1_advance 1 "CrownTwo$CourtText" none 1 22 := hX
  show ZR G X (EC o L) pvV psV 1 s [(0, .ref (ad G 5 0))] [] 0 _
  unfold f_Tx_advance
  refine z_aload_n (pc := 0) hX dX1_advance_0 rfl 0 rfl ?_
  refine gf_5_3C (pc := 1) hX q_40 dX1_advance_1 ?_
  refine z_aload_n (pc := 4) hX dX1_advance_4 rfl 0 rfl ?_
  refine gf_5_1C (pc := 5) hX q_36 dX1_advance_5 ?_
  refine z_jn (P := fun j1 => ZR G X (EC o L) pvV psV 1 s [(0, .ref (ad G 5 0))] [] 38 (j1)) ?_ ?_
  · skip
    refine z_aload_n (pc := 38) hX dX1_advance_38 rfl 0 rfl ?_
    refine z_aload_n (pc := 39) hX dX1_advance_39 rfl 0 rfl ?_
    refine gf_5_3C (pc := 40) hX q_40 dX1_advance_40 ?_
    refine pf_5_2C (pc := 43) hX q_38 dX1_advance_43 ?_
    refine z_lts (fun s2 => ?_)
    refine z_aload_n (pc := 46) hX dX1_advance_46 rfl 0 rfl ?_
    refine z_aload_n (pc := 47) hX dX1_advance_47 rfl 0 rfl ?_
    refine z_aload_n (pc := 48) hX dX1_advance_48 rfl 0 rfl ?_
    refine gf_5_2C (pc := 49) hX q_38 dX1_advance_49 ?_
    refine z_rP (run_V (pc := 52) (As := [.int (s2 5 0 2)]) hX rc_5 ⟨q_341, q_344, q_2⟩ q_343 qs_3 hd_X1_sortAt ⟨Nat.le_of_ble_eq_true rfl, Nat.le_of_ble_eq_true rfl⟩ (c_Tx_sortAt hG s2 (s2 5 0 2)) rfl rfl (Nat.le_of_ble_eq_true rfl) dX1_advance_52) (fun r3 => ?_)
    refine pf_5_4C (pc := 55) hX q_41 dX1_advance_55 ?_
    refine z_lts (fun s4 => ?_)
    refine z_aload_n (pc := 58) hX dX1_advance_58 rfl 0 rfl ?_
    refine z_iconst (pc := 59) hX dX1_advance_59 ic_0 ?_
    refine pf_5_5C (pc := 60) hX q_42 dX1_advance_60 ?_
    refine z_lts (fun s5 => ?_)
    refine z_aload_n (pc := 63) hX dX1_advance_63 rfl 0 rfl ?_
    refine gf_5_4C (pc := 64) hX q_41 dX1_advance_64 ?_
    refine z_iconst (pc := 67) hX dX1_advance_67 ic_1 ?_
    refine z_icmp_ne (pc := 68) (tgt := 107) hX dX1_advance_68 rfl ?_ ?_
    · refine z_aload_n (pc := 107) hX dX1_advance_107 rfl 0 rfl ?_
      refine gf_5_4C (pc := 108) hX q_41 dX1_advance_108 ?_
      refine z_iconst (pc := 111) hX dX1_advance_111 ic_2 ?_
      refine z_icmp_ne (pc := 112) (tgt := 196) hX dX1_advance_112 rfl ?_ ?_
      · refine z_aload_n (pc := 196) hX dX1_advance_196 rfl 0 rfl ?_
        refine gf_5_4C (pc := 197) hX q_41 dX1_advance_197 ?_
        refine z_if_eq (pc := 200) (tgt := 213) hX dX1_advance_200 rfl ?_ ?_
        · exact z_retV (pc := 213) hX dX1_advance_213
        · refine z_aload_n (pc := 203) hX dX1_advance_203 rfl 0 rfl ?_
          refine z_dup (pc := 204) hX dX1_advance_204 rfl ?_
          refine gf_5_3C (pc := 205) hX q_40 dX1_advance_205 ?_
          refine z_iconst (pc := 208) hX dX1_advance_208 ic_1 ?_
          refine z_iadd (pc := 209) hX dX1_advance_209 ?_
          refine pf_5_3C (pc := 210) hX q_40 dX1_advance_210 ?_
          refine z_lts (fun s6 => ?_)
          exact z_retV (pc := 213) hX dX1_advance_213
      · refine z_jn (P := fun K8 => ∀ (s7 : Sto), ZR G X (EC o L) pvV psV 1 s7 [(0, .ref (ad G 5 0))] [] 175 (K8 s7)) ?_ ?_
        · intro s7
          refine z_aload_n (pc := 175) hX dX1_advance_175 rfl 0 rfl ?_
          refine gf_5_3C (pc := 176) hX q_40 dX1_advance_176 ?_
          refine z_aload_n (pc := 179) hX dX1_advance_179 rfl 0 rfl ?_
          refine gf_5_2C (pc := 180) hX q_38 dX1_advance_180 ?_
          refine z_isub (pc := 183) hX dX1_advance_183 ?_
          refine z_iconst (pc := 184) hX dX1_advance_184 ic_2 ?_
          refine z_icmp_le (pc := 185) (tgt := 213) hX dX1_advance_185 rfl ?_ ?_
          · exact z_retV (pc := 213) hX dX1_advance_213
          · refine z_aload_n (pc := 188) hX dX1_advance_188 rfl 0 rfl ?_
            refine z_iconst (pc := 189) hX dX1_advance_189 ic_4 ?_
            refine pf_5_4C (pc := 190) hX q_41 dX1_advance_190 ?_
            refine z_lts (fun s9 => ?_)
            refine z_goto (pc := 193) (tgt := 213) hX dX1_advance_193 rfl ?_
            exact z_retV (pc := 213) hX dX1_advance_213
        · intro K8 hK8
          refine z_ls [0] rfl ?_
          refine (fx_P (F := l_Tx_advance_115 K8) (b := (fun _ => none)) (fun rc11 => ∀ (s10 : Sto), ZR G X (EC o L) pvV psV 1 s10 [(0, .ref (ad G 5 0))] [] 115 (rc11 s10)) ?_ ?_ 1000) s5
          · intro s10; exact z_none
          · intro rc11 hrc11 s10
            unfold l_Tx_advance_115
            refine z_aload_n (pc := 115) hX dX1_advance_115 rfl 0 rfl ?_
            refine gf_5_3C (pc := 116) hX q_40 dX1_advance_116 ?_
            refine z_aload_n (pc := 119) hX dX1_advance_119 rfl 0 rfl ?_
            refine gf_5_1C (pc := 120) hX q_36 dX1_advance_120 ?_
            refine z_icmp_ge (pc := 123) (tgt := 175) hX dX1_advance_123 rfl ?_ ?_
            · exact z_ls [0] rfl (hK8 s10)
            · refine z_aload_n (pc := 126) hX dX1_advance_126 rfl 0 rfl ?_
              refine z_aload_n (pc := 127) hX dX1_advance_127 rfl 0 rfl ?_
              refine gf_5_3C (pc := 128) hX q_40 dX1_advance_128 ?_
              refine z_rP (run_V (pc := 131) (As := [.int (s10 5 0 3)]) hX rc_5 ⟨q_341, q_344, q_2⟩ q_343 qs_3 hd_X1_sortAt ⟨Nat.le_of_ble_eq_true rfl, Nat.le_of_ble_eq_true rfl⟩ (c_Tx_sortAt hG s10 (s10 5 0 3)) rfl rfl (Nat.le_of_ble_eq_true rfl) dX1_advance_131) (fun r12 => ?_)
              refine z_iconst (pc := 134) hX dX1_advance_134 ic_2 ?_
              refine z_icmp_ne (pc := 135) (tgt := 175) hX dX1_advance_135 rfl ?_ ?_
              · exact z_ls [0] rfl (hK8 s10)
              · refine z_aload_n (pc := 138) hX dX1_advance_138 rfl 0 rfl ?_
                refine z_bipush (pc := 139) hX dX1_advance_139 bp_10 ?_
                refine z_aload_n (pc := 141) hX dX1_advance_141 rfl 0 rfl ?_
                refine gf_5_5C (pc := 142) hX q_42 dX1_advance_142 ?_
                refine z_imul (pc := 145) hX dX1_advance_145 ?_
                refine z_aload_n (pc := 146) hX dX1_advance_146 rfl 0 rfl ?_
                refine gr_5_0C (pc := 147) hX q_35 dX1_advance_147 ?_
                refine z_aload_n (pc := 150) hX dX1_advance_150 rfl 0 rfl ?_
                refine gf_5_3C (pc := 151) hX q_40 dX1_advance_151 ?_
                refine ia_16C (pc := 154) hX dX1_advance_154 ?_
                refine z_iadd (pc := 155) hX dX1_advance_155 ?_
                refine z_bipush (pc := 156) hX dX1_advance_156 bp_48 ?_
                refine z_isub (pc := 158) hX dX1_advance_158 ?_
                refine pf_5_5C (pc := 159) hX q_42 dX1_advance_159 ?_
                refine z_lts (fun s13 => ?_)
                refine z_aload_n (pc := 162) hX dX1_advance_162 rfl 0 rfl ?_
                refine z_dup (pc := 163) hX dX1_advance_163 rfl ?_
                refine gf_5_3C (pc := 164) hX q_40 dX1_advance_164 ?_
                refine z_iconst (pc := 167) hX dX1_advance_167 ic_1 ?_
                refine z_iadd (pc := 168) hX dX1_advance_168 ?_
                refine pf_5_3C (pc := 169) hX q_40 dX1_advance_169 ?_
                refine z_lts (fun s14 => ?_)
                refine z_goto (pc := 172) (tgt := 115) hX dX1_advance_172 rfl ?_
                exact z_ls [0] rfl (hrc11 s14)
    · refine z_ls [0] rfl ?_
      refine (fx_P (F := l_Tx_advance_71) (b := (fun _ => none)) (fun rc16 => ∀ (s15 : Sto), ZR G X (EC o L) pvV psV 1 s15 [(0, .ref (ad G 5 0))] [] 71 (rc16 s15)) ?_ ?_ 1000) s5
      · intro s15; exact z_none
      · intro rc16 hrc16 s15
        unfold l_Tx_advance_71
        refine z_aload_n (pc := 71) hX dX1_advance_71 rfl 0 rfl ?_
        refine gf_5_3C (pc := 72) hX q_40 dX1_advance_72 ?_
        refine z_aload_n (pc := 75) hX dX1_advance_75 rfl 0 rfl ?_
        refine gf_5_1C (pc := 76) hX q_36 dX1_advance_76 ?_
        refine z_icmp_ge (pc := 79) (tgt := 213) hX dX1_advance_79 rfl ?_ ?_
        · exact z_retV (pc := 213) hX dX1_advance_213
        · refine z_aload_n (pc := 82) hX dX1_advance_82 rfl 0 rfl ?_
          refine z_aload_n (pc := 83) hX dX1_advance_83 rfl 0 rfl ?_
          refine gf_5_3C (pc := 84) hX q_40 dX1_advance_84 ?_
          refine z_rP (run_V (pc := 87) (As := [.int (s15 5 0 3)]) hX rc_5 ⟨q_341, q_344, q_2⟩ q_343 qs_3 hd_X1_sortAt ⟨Nat.le_of_ble_eq_true rfl, Nat.le_of_ble_eq_true rfl⟩ (c_Tx_sortAt hG s15 (s15 5 0 3)) rfl rfl (Nat.le_of_ble_eq_true rfl) dX1_advance_87) (fun r17 => ?_)
          refine z_iconst (pc := 90) hX dX1_advance_90 ic_1 ?_
          refine z_icmp_ne (pc := 91) (tgt := 213) hX dX1_advance_91 rfl ?_ ?_
          · exact z_retV (pc := 213) hX dX1_advance_213
          · refine z_aload_n (pc := 94) hX dX1_advance_94 rfl 0 rfl ?_
            refine z_dup (pc := 95) hX dX1_advance_95 rfl ?_
            refine gf_5_3C (pc := 96) hX q_40 dX1_advance_96 ?_
            refine z_iconst (pc := 99) hX dX1_advance_99 ic_1 ?_
            refine z_iadd (pc := 100) hX dX1_advance_100 ?_
            refine pf_5_3C (pc := 101) hX q_40 dX1_advance_101 ?_
            refine z_lts (fun s18 => ?_)
            refine z_goto (pc := 104) (tgt := 71) hX dX1_advance_104 rfl ?_
            exact z_ls [0] rfl (hrc16 s18)
  · intro j1 hj1
    refine z_icmp_ge (pc := 8) (tgt := 38) hX dX1_advance_8 rfl ?_ ?_
    · exact z_ls [0] rfl (hj1)
    · refine z_aload_n (pc := 11) hX dX1_advance_11 rfl 0 rfl ?_
      refine gr_5_0C (pc := 12) hX q_35 dX1_advance_12 ?_
      refine z_aload_n (pc := 15) hX dX1_advance_15 rfl 0 rfl ?_
      refine gf_5_3C (pc := 16) hX q_40 dX1_advance_16 ?_
      refine ia_16C (pc := 19) hX dX1_advance_19 ?_
      refine z_bipush (pc := 20) hX dX1_advance_20 bp_32 ?_
      refine z_icmp_ne (pc := 22) (tgt := 38) hX dX1_advance_22 rfl ?_ ?_
      · exact z_ls [0] rfl (hj1)
      · refine z_aload_n (pc := 25) hX dX1_advance_25 rfl 0 rfl ?_
        refine z_dup (pc := 26) hX dX1_advance_26 rfl ?_
        refine gf_5_3C (pc := 27) hX q_40 dX1_advance_27 ?_
        refine z_iconst (pc := 30) hX dX1_advance_30 ic_1 ?_
        refine z_iadd (pc := 31) hX dX1_advance_31 ?_
        refine pf_5_3C (pc := 32) hX q_40 dX1_advance_32 ?_
        refine z_lts (fun s19 => ?_)
        refine z_goto (pc := 35) (tgt := 0) hX dX1_advance_35 rfl ?_
        refine z_ls [0] rfl ?_
        refine (fx_P (F := l_Tx_advance_0 j1) (b := (fun _ => none)) (fun rc21 => ∀ (s20 : Sto), ZR G X (EC o L) pvV psV 1 s20 [(0, .ref (ad G 5 0))] [] 0 (rc21 s20)) ?_ ?_ 1000) s19
        · intro s20; exact z_none
        · intro rc21 hrc21 s20
          unfold l_Tx_advance_0
          refine z_aload_n (pc := 0) hX dX1_advance_0 rfl 0 rfl ?_
          refine gf_5_3C (pc := 1) hX q_40 dX1_advance_1 ?_
          refine z_aload_n (pc := 4) hX dX1_advance_4 rfl 0 rfl ?_
          refine gf_5_1C (pc := 5) hX q_36 dX1_advance_5 ?_
          refine z_icmp_ge (pc := 8) (tgt := 38) hX dX1_advance_8 rfl ?_ ?_
          · exact z_ls [0] rfl (hj1)
          · refine z_aload_n (pc := 11) hX dX1_advance_11 rfl 0 rfl ?_
            refine gr_5_0C (pc := 12) hX q_35 dX1_advance_12 ?_
            refine z_aload_n (pc := 15) hX dX1_advance_15 rfl 0 rfl ?_
            refine gf_5_3C (pc := 16) hX q_40 dX1_advance_16 ?_
            refine ia_16C (pc := 19) hX dX1_advance_19 ?_
            refine z_bipush (pc := 20) hX dX1_advance_20 bp_32 ?_
            refine z_icmp_ne (pc := 22) (tgt := 38) hX dX1_advance_22 rfl ?_ ?_
            · exact z_ls [0] rfl (hj1)
            · refine z_aload_n (pc := 25) hX dX1_advance_25 rfl 0 rfl ?_
              refine z_dup (pc := 26) hX dX1_advance_26 rfl ?_
              refine gf_5_3C (pc := 27) hX q_40 dX1_advance_27 ?_
              refine z_iconst (pc := 30) hX dX1_advance_30 ic_1 ?_
              refine z_iadd (pc := 31) hX dX1_advance_31 ?_
              refine pf_5_3C (pc := 32) hX q_40 dX1_advance_32 ?_
              refine z_lts (fun s22 => ?_)
              refine z_goto (pc := 35) (tgt := 0) hX dX1_advance_35 rfl ?_
              exact z_ls [0] rfl (hrc21 s22)
theorem hd_X11_court : yX11_court.cls ≠ "java/lang/invoke/MethodHandle" ∧ yX11_court.cls ≠ "java/lang/invoke/VarHandle" ∧ (parseMethodDescriptor yX11_court.desc).map (fun d => d.parameters.length) = some 1 := by decide +kernel
def f_T_court (s : Sto) (x1 : Int32) : Option (Int32 × Sto) :=
  bP (f_T_outside x1 0 99) (fun r1 => if (r1 : Int32) = 0 then lt ((s 1 0 5 : Int32)) (fun v2_2 => bV (f_Co_begin s 0 x1) (fun s3 => some (v2_2, s3))) else bI (f_T_bad s) (fun r4 s5 => some (r4, s5)))
set_option maxRecDepth 100000 in
set_option maxHeartbeats 4000000 in
theorem c_T_court {G : Gb} {l : Launch} {o : Sto} {L : Lng} (hG : GA G) (s : Sto) (x1 : Int32)  : CT G l (EC o L) pvI psI yX11_court cX11_court 3 (some .int) 2 42 [.ref (ad G 0 0), .int x1] s (f_T_court s x1) := by
  refine CT.of hG (by decide) (Nat.le_of_ble_eq_true rfl) (fun X hX => ?_)
  have hX : OX G X l cX11_court 3 "CrownTwo" (some .int) 2 42 := hX
  show ZR G X (EC o L) pvI psI 3 s [(0, .ref (ad G 0 0)), (1, .int x1)] [] 0 _
  unfold f_T_court
  refine z_iload_n (pc := 0) hX dX11_court_0 rfl 1 rfl ?_
  refine z_iconst (pc := 1) hX dX11_court_1 ic_0 ?_
  refine z_bipush (pc := 2) hX dX11_court_2 bp_99 ?_
  refine z_rP (run_S (pc := 4) (As := [.int x1, .int 0, .int 99]) hX ⟨q_285, q_287, q_1⟩ q_286 hd_X11_outside ⟨Nat.le_of_ble_eq_true rfl, Nat.le_of_ble_eq_true rfl⟩ (c_T_outside hG s x1 0 99) rfl rfl (Nat.le_of_ble_eq_true rfl) dX11_court_4) (fun r1 => ?_)
  refine z_if_eq (pc := 7) (tgt := 15) hX dX11_court_7 rfl ?_ ?_
  · refine z_aload_n (pc := 15) hX dX11_court_15 rfl 0 rfl ?_
    refine gr_0_0C (pc := 16) hX q_235 dX11_court_16 ?_
    refine gf_1_5C (pc := 19) hX v_1_0 q_211 dX11_court_19 ?_
    refine z_lti (pc := 22) (fun v2_2 => ?_)
    refine z_istore_n (pc := 22) (ls' := [(2, .int v2_2), (0, .ref (ad G 0 0)), (1, .int x1)]) hX dX11_court_22 rfl (by decide) rfl ?_
    refine z_aload_n (pc := 23) hX dX11_court_23 rfl 1 rfl ?_
    refine gr_0_0C (pc := 24) hX q_235 dX11_court_24 ?_
    refine z_iload_n (pc := 27) hX dX11_court_27 rfl 2 rfl ?_
    refine z_rV (run_V (pc := 28) (As := [.int x1]) hX (rc_1 v_1_0) ⟨q_292, q_295, q_10⟩ q_293 q_294 hd_X0_begin ⟨Nat.le_of_ble_eq_true rfl, Nat.le_of_ble_eq_true rfl⟩ (c_Co_begin hG s 0 x1 v_1_0) rfl rfl (Nat.le_of_ble_eq_true rfl) dX11_court_28) (fun s3 => ?_)
    refine z_iload_n (pc := 31) hX dX11_court_31 rfl 0 rfl ?_
    exact z_retI (pc := 32) hX dX11_court_32
  · refine z_aload_n (pc := 10) hX dX11_court_10 rfl 0 rfl ?_
    refine z_rI (run_V (pc := 11) (As := []) hX rc_0 ⟨q_288, q_291, q_1⟩ q_290 qs_0 hd_X11_bad ⟨Nat.le_of_ble_eq_true rfl, Nat.le_of_ble_eq_true rfl⟩ (c_T_bad hG s) rfl rfl (Nat.le_of_ble_eq_true rfl) dX11_court_11) (fun r4 s5 => ?_)
    exact z_retI (pc := 14) hX dX11_court_14
theorem hd_X11_heir : yX11_heir.cls ≠ "java/lang/invoke/MethodHandle" ∧ yX11_heir.cls ≠ "java/lang/invoke/VarHandle" ∧ (parseMethodDescriptor yX11_heir.desc).map (fun d => d.parameters.length) = some 4 := by decide +kernel
def f_T_heir (s : Sto) (x1 : Int32) (x2 : Int32) (x3 : Int32) (x4 : Int32) : Option (Int32 × Sto) :=
  bP (f_T_outside x1 0 5) (fun r1 => if (r1 : Int32) = 0 then bP (f_T_outside x4 0 20) (fun r4 => if (r4 : Int32) = 0 then bP (f_T_outside x2 0 255) (fun r5 => if (r5 : Int32) = 0 then bP (f_T_outside x3 0 255) (fun r8 => if (r8 : Int32) = 0 then if (s 1 0 5 : Int32) < 6 then bI (f_Co_admit s 0 x1 x2 x3 x4) (fun r9 s10 => some (r9, s10)) else bI (f_T_full s) (fun r11 s12 => some (r11, s12)) else bI (f_T_bad s) (fun r13 s14 => some (r13, s14))) else bI (f_T_bad s) (fun r6 s7 => some (r6, s7))) else bI (f_T_bad s) (fun r15 s16 => some (r15, s16))) else bI (f_T_bad s) (fun r2 s3 => some (r2, s3)))
set_option maxRecDepth 100000 in
set_option maxHeartbeats 4000000 in
theorem c_T_heir {G : Gb} {l : Launch} {o : Sto} {L : Lng} (hG : GA G) (s : Sto) (x1 : Int32) (x2 : Int32) (x3 : Int32) (x4 : Int32)  : CT G l (EC o L) pvI psI yX11_heir cX11_heir 5 (some .int) 2 48 [.ref (ad G 0 0), .int x1, .int x2, .int x3, .int x4] s (f_T_heir s x1 x2 x3 x4) := by
  refine CT.of hG (by decide) (Nat.le_of_ble_eq_true rfl) (fun X hX => ?_)
  have hX : OX G X l cX11_heir 5 "CrownTwo" (some .int) 2 48 := hX
  show ZR G X (EC o L) pvI psI 5 s [(0, .ref (ad G 0 0)), (1, .int x1), (2, .int x2), (3, .int x3), (4, .int x4)] [] 0 _
  unfold f_T_heir
  refine z_iload_n (pc := 0) hX dX11_heir_0 rfl 1 rfl ?_
  refine z_iconst (pc := 1) hX dX11_heir_1 ic_0 ?_
  refine z_iconst (pc := 2) hX dX11_heir_2 ic_5 ?_
  refine z_rP (run_S (pc := 3) (As := [.int x1, .int 0, .int 5]) hX ⟨q_285, q_287, q_1⟩ q_286 hd_X11_outside ⟨Nat.le_of_ble_eq_true rfl, Nat.le_of_ble_eq_true rfl⟩ (c_T_outside hG s x1 0 5) rfl rfl (Nat.le_of_ble_eq_true rfl) dX11_heir_3) (fun r1 => ?_)
  refine z_if_ne (pc := 6) (tgt := 20) hX dX11_heir_6 rfl ?_ ?_
  · refine z_aload_n (pc := 20) hX dX11_heir_20 rfl 0 rfl ?_
    refine z_rI (run_V (pc := 21) (As := []) hX rc_0 ⟨q_288, q_291, q_1⟩ q_290 qs_0 hd_X11_bad ⟨Nat.le_of_ble_eq_true rfl, Nat.le_of_ble_eq_true rfl⟩ (c_T_bad hG s) rfl rfl (Nat.le_of_ble_eq_true rfl) dX11_heir_21) (fun r2 s3 => ?_)
    exact z_retI (pc := 24) hX dX11_heir_24
  · refine z_iload (pc := 9) hX dX11_heir_9 4 rfl ?_
    refine z_iconst (pc := 11) hX dX11_heir_11 ic_0 ?_
    refine z_bipush (pc := 12) hX dX11_heir_12 bp_20 ?_
    refine z_rP (run_S (pc := 14) (As := [.int x4, .int 0, .int 20]) hX ⟨q_285, q_287, q_1⟩ q_286 hd_X11_outside ⟨Nat.le_of_ble_eq_true rfl, Nat.le_of_ble_eq_true rfl⟩ (c_T_outside hG s x4 0 20) rfl rfl (Nat.le_of_ble_eq_true rfl) dX11_heir_14) (fun r4 => ?_)
    refine z_if_eq (pc := 17) (tgt := 25) hX dX11_heir_17 rfl ?_ ?_
    · refine z_iload_n (pc := 25) hX dX11_heir_25 rfl 2 rfl ?_
      refine z_iconst (pc := 26) hX dX11_heir_26 ic_0 ?_
      refine z_sipush (pc := 27) hX dX11_heir_27 sp_255 ?_
      refine z_rP (run_S (pc := 30) (As := [.int x2, .int 0, .int 255]) hX ⟨q_285, q_287, q_1⟩ q_286 hd_X11_outside ⟨Nat.le_of_ble_eq_true rfl, Nat.le_of_ble_eq_true rfl⟩ (c_T_outside hG s x2 0 255) rfl rfl (Nat.le_of_ble_eq_true rfl) dX11_heir_30) (fun r5 => ?_)
      refine z_if_ne (pc := 33) (tgt := 47) hX dX11_heir_33 rfl ?_ ?_
      · refine z_aload_n (pc := 47) hX dX11_heir_47 rfl 0 rfl ?_
        refine z_rI (run_V (pc := 48) (As := []) hX rc_0 ⟨q_288, q_291, q_1⟩ q_290 qs_0 hd_X11_bad ⟨Nat.le_of_ble_eq_true rfl, Nat.le_of_ble_eq_true rfl⟩ (c_T_bad hG s) rfl rfl (Nat.le_of_ble_eq_true rfl) dX11_heir_48) (fun r6 s7 => ?_)
        exact z_retI (pc := 51) hX dX11_heir_51
      · refine z_iload_n (pc := 36) hX dX11_heir_36 rfl 3 rfl ?_
        refine z_iconst (pc := 37) hX dX11_heir_37 ic_0 ?_
        refine z_sipush (pc := 38) hX dX11_heir_38 sp_255 ?_
        refine z_rP (run_S (pc := 41) (As := [.int x3, .int 0, .int 255]) hX ⟨q_285, q_287, q_1⟩ q_286 hd_X11_outside ⟨Nat.le_of_ble_eq_true rfl, Nat.le_of_ble_eq_true rfl⟩ (c_T_outside hG s x3 0 255) rfl rfl (Nat.le_of_ble_eq_true rfl) dX11_heir_41) (fun r8 => ?_)
        refine z_if_eq (pc := 44) (tgt := 52) hX dX11_heir_44 rfl ?_ ?_
        · refine z_aload_n (pc := 52) hX dX11_heir_52 rfl 0 rfl ?_
          refine gr_0_0C (pc := 53) hX q_235 dX11_heir_53 ?_
          refine gf_1_5C (pc := 56) hX v_1_0 q_211 dX11_heir_56 ?_
          refine z_bipush (pc := 59) hX dX11_heir_59 bp_6 ?_
          refine z_icmp_lt (pc := 61) (tgt := 69) hX dX11_heir_61 rfl ?_ ?_
          · refine z_aload_n (pc := 69) hX dX11_heir_69 rfl 0 rfl ?_
            refine gr_0_0C (pc := 70) hX q_235 dX11_heir_70 ?_
            refine z_iload_n (pc := 73) hX dX11_heir_73 rfl 1 rfl ?_
            refine z_iload_n (pc := 74) hX dX11_heir_74 rfl 2 rfl ?_
            refine z_iload_n (pc := 75) hX dX11_heir_75 rfl 3 rfl ?_
            refine z_iload (pc := 76) hX dX11_heir_76 4 rfl ?_
            refine z_rI (run_V (pc := 78) (As := [.int x1, .int x2, .int x3, .int x4]) hX (rc_1 v_1_0) ⟨q_308, q_311, q_10⟩ q_309 q_310 hd_X0_admit ⟨Nat.le_of_ble_eq_true rfl, Nat.le_of_ble_eq_true rfl⟩ (c_Co_admit hG s 0 x1 x2 x3 x4 v_1_0) rfl rfl (Nat.le_of_ble_eq_true rfl) dX11_heir_78) (fun r9 s10 => ?_)
            exact z_retI (pc := 81) hX dX11_heir_81
          · refine z_aload_n (pc := 64) hX dX11_heir_64 rfl 0 rfl ?_
            refine z_rI (run_V (pc := 65) (As := []) hX rc_0 ⟨q_304, q_307, q_1⟩ q_306 qs_1 hd_X11_full ⟨Nat.le_of_ble_eq_true rfl, Nat.le_of_ble_eq_true rfl⟩ (c_T_full hG s) rfl rfl (Nat.le_of_ble_eq_true rfl) dX11_heir_65) (fun r11 s12 => ?_)
            exact z_retI (pc := 68) hX dX11_heir_68
        · refine z_aload_n (pc := 47) hX dX11_heir_47 rfl 0 rfl ?_
          refine z_rI (run_V (pc := 48) (As := []) hX rc_0 ⟨q_288, q_291, q_1⟩ q_290 qs_0 hd_X11_bad ⟨Nat.le_of_ble_eq_true rfl, Nat.le_of_ble_eq_true rfl⟩ (c_T_bad hG s) rfl rfl (Nat.le_of_ble_eq_true rfl) dX11_heir_48) (fun r13 s14 => ?_)
          exact z_retI (pc := 51) hX dX11_heir_51
    · refine z_aload_n (pc := 20) hX dX11_heir_20 rfl 0 rfl ?_
      refine z_rI (run_V (pc := 21) (As := []) hX rc_0 ⟨q_288, q_291, q_1⟩ q_290 qs_0 hd_X11_bad ⟨Nat.le_of_ble_eq_true rfl, Nat.le_of_ble_eq_true rfl⟩ (c_T_bad hG s) rfl rfl (Nat.le_of_ble_eq_true rfl) dX11_heir_21) (fun r15 s16 => ?_)
      exact z_retI (pc := 24) hX dX11_heir_24
theorem hd_X11_type : yX11_type.cls ≠ "java/lang/invoke/MethodHandle" ∧ yX11_type.cls ≠ "java/lang/invoke/VarHandle" ∧ (parseMethodDescriptor yX11_type.desc).map (fun d => d.parameters.length) = some 1 := by decide +kernel
def f_T_type (s : Sto) (x1 : Int32) : Option (Int32 × Sto) :=
  bP (f_T_outside x1 0 127) (fun r1 => if (r1 : Int32) = 0 then if (s 5 0 1 : Int32) < 150 then bV (f_Tx_append s x1) (fun s2 => some (s2 5 0 1, s2)) else bI (f_T_full s) (fun r3 s4 => some (r3, s4)) else bI (f_T_bad s) (fun r5 s6 => some (r5, s6)))
set_option maxRecDepth 100000 in
set_option maxHeartbeats 4000000 in
theorem c_T_type {G : Gb} {l : Launch} {o : Sto} {L : Lng} (hG : GA G) (s : Sto) (x1 : Int32)  : CT G l (EC o L) pvI psI yX11_type cX11_type 2 (some .int) 1 22 [.ref (ad G 0 0), .int x1] s (f_T_type s x1) := by
  refine CT.of hG (by decide) (Nat.le_of_ble_eq_true rfl) (fun X hX => ?_)
  have hX : OX G X l cX11_type 2 "CrownTwo" (some .int) 1 22 := hX
  show ZR G X (EC o L) pvI psI 2 s [(0, .ref (ad G 0 0)), (1, .int x1)] [] 0 _
  unfold f_T_type
  refine z_iload_n (pc := 0) hX dX11_type_0 rfl 1 rfl ?_
  refine z_iconst (pc := 1) hX dX11_type_1 ic_0 ?_
  refine z_bipush (pc := 2) hX dX11_type_2 bp_127 ?_
  refine z_rP (run_S (pc := 4) (As := [.int x1, .int 0, .int 127]) hX ⟨q_285, q_287, q_1⟩ q_286 hd_X11_outside ⟨Nat.le_of_ble_eq_true rfl, Nat.le_of_ble_eq_true rfl⟩ (c_T_outside hG s x1 0 127) rfl rfl (Nat.le_of_ble_eq_true rfl) dX11_type_4) (fun r1 => ?_)
  refine z_if_eq (pc := 7) (tgt := 15) hX dX11_type_7 rfl ?_ ?_
  · refine z_aload_n (pc := 15) hX dX11_type_15 rfl 0 rfl ?_
    refine gr_0_4C (pc := 16) hX q_239 dX11_type_16 ?_
    refine gf_5_1C (pc := 19) hX q_37 dX11_type_19 ?_
    refine z_sipush (pc := 22) hX dX11_type_22 sp_150 ?_
    refine z_icmp_lt (pc := 25) (tgt := 33) hX dX11_type_25 rfl ?_ ?_
    · refine z_aload_n (pc := 33) hX dX11_type_33 rfl 0 rfl ?_
      refine gr_0_4C (pc := 34) hX q_239 dX11_type_34 ?_
      refine z_iload_n (pc := 37) hX dX11_type_37 rfl 1 rfl ?_
      refine z_rV (run_V (pc := 38) (As := [.int x1]) hX rc_5 ⟨q_320, q_323, q_2⟩ q_321 q_322 hd_X1_append ⟨Nat.le_of_ble_eq_true rfl, Nat.le_of_ble_eq_true rfl⟩ (c_Tx_append hG s x1) rfl rfl (Nat.le_of_ble_eq_true rfl) dX11_type_38) (fun s2 => ?_)
      refine z_aload_n (pc := 41) hX dX11_type_41 rfl 0 rfl ?_
      refine gr_0_4C (pc := 42) hX q_239 dX11_type_42 ?_
      refine gf_5_1C (pc := 45) hX q_37 dX11_type_45 ?_
      exact z_retI (pc := 48) hX dX11_type_48
    · refine z_aload_n (pc := 28) hX dX11_type_28 rfl 0 rfl ?_
      refine z_rI (run_V (pc := 29) (As := []) hX rc_0 ⟨q_304, q_307, q_1⟩ q_306 qs_1 hd_X11_full ⟨Nat.le_of_ble_eq_true rfl, Nat.le_of_ble_eq_true rfl⟩ (c_T_full hG s) rfl rfl (Nat.le_of_ble_eq_true rfl) dX11_type_29) (fun r3 s4 => ?_)
      exact z_retI (pc := 32) hX dX11_type_32
  · refine z_aload_n (pc := 10) hX dX11_type_10 rfl 0 rfl ?_
    refine z_rI (run_V (pc := 11) (As := []) hX rc_0 ⟨q_288, q_291, q_1⟩ q_290 qs_0 hd_X11_bad ⟨Nat.le_of_ble_eq_true rfl, Nat.le_of_ble_eq_true rfl⟩ (c_T_bad hG s) rfl rfl (Nat.le_of_ble_eq_true rfl) dX11_type_11) (fun r5 s6 => ?_)
    exact z_retI (pc := 14) hX dX11_type_14
theorem hd_X11_undo : yX11_undo.cls ≠ "java/lang/invoke/MethodHandle" ∧ yX11_undo.cls ≠ "java/lang/invoke/VarHandle" ∧ (parseMethodDescriptor yX11_undo.desc).map (fun d => d.parameters.length) = some 0 := by decide +kernel
def f_T_undo (s : Sto)  : Option (Int32 × Sto) :=
  if (0 : Int32) < (s 1 0 7) then bV (f_Co_goBack s 0) (fun s1 => some (s1 4 0 1, s1)) else bI (f_T_no s) (fun r2 s3 => some (r2, s3))
set_option maxRecDepth 100000 in
set_option maxHeartbeats 4000000 in
theorem c_T_undo {G : Gb} {l : Launch} {o : Sto} {L : Lng} (hG : GA G) (s : Sto)   : CT G l (EC o L) pvI psI yX11_undo cX11_undo 1 (some .int) 2 41 [.ref (ad G 0 0)] s (f_T_undo s) := by
  refine CT.of hG (by decide) (Nat.le_of_ble_eq_true rfl) (fun X hX => ?_)
  have hX : OX G X l cX11_undo 1 "CrownTwo" (some .int) 2 41 := hX
  show ZR G X (EC o L) pvI psI 1 s [(0, .ref (ad G 0 0))] [] 0 _
  unfold f_T_undo
  refine z_aload_n (pc := 0) hX dX11_undo_0 rfl 0 rfl ?_
  refine gr_0_0C (pc := 1) hX q_235 dX11_undo_1 ?_
  refine gf_1_7C (pc := 4) hX v_1_0 q_216 dX11_undo_4 ?_
  refine z_if_gt (pc := 7) (tgt := 15) hX dX11_undo_7 rfl ?_ ?_
  · refine z_aload_n (pc := 15) hX dX11_undo_15 rfl 0 rfl ?_
    refine gr_0_0C (pc := 16) hX q_235 dX11_undo_16 ?_
    refine z_rV (run_V (pc := 19) (As := []) hX (rc_1 v_1_0) ⟨q_598, q_601, q_10⟩ q_599 q_600 hd_X0_goBack ⟨Nat.le_of_ble_eq_true rfl, Nat.le_of_ble_eq_true rfl⟩ (c_Co_goBack hG s 0 v_1_0) rfl rfl (Nat.le_of_ble_eq_true rfl) dX11_undo_19) (fun s1 => ?_)
    refine z_aload_n (pc := 22) hX dX11_undo_22 rfl 0 rfl ?_
    refine gr_0_0C (pc := 23) hX q_235 dX11_undo_23 ?_
    refine gr_1_4C (pc := 26) hX v_1_0 q_208 dX11_undo_26 ?_
    refine gf_4_1C (pc := 29) hX v_4_0 q_68 dX11_undo_29 ?_
    exact z_retI (pc := 32) hX dX11_undo_32
  · refine z_aload_n (pc := 10) hX dX11_undo_10 rfl 0 rfl ?_
    refine z_rI (run_V (pc := 11) (As := []) hX rc_0 ⟨q_489, q_492, q_1⟩ q_491 qs_13 hd_X11_no ⟨Nat.le_of_ble_eq_true rfl, Nat.le_of_ble_eq_true rfl⟩ (c_T_no hG s) rfl rfl (Nat.le_of_ble_eq_true rfl) dX11_undo_11) (fun r2 s3 => ?_)
    exact z_retI (pc := 14) hX dX11_undo_14
theorem hd_X11_of : yX11_of.cls ≠ "java/lang/invoke/MethodHandle" ∧ yX11_of.cls ≠ "java/lang/invoke/VarHandle" ∧ (parseMethodDescriptor yX11_of.desc).map (fun d => d.parameters.length) = some 2 := by decide +kernel
def f_T_of (s : Sto) (x1 : Int32) (x2 : Int32) : Option (Int32 × Sto) :=
  bP (f_Co_has s 0 x1) (fun r1 => if (r1 : Int32) = 0 then bI (f_T_bad s) (fun r2 s3 => some (r2, s3)) else bP (f_T_outside x2 0 4) (fun r4 => if (r4 : Int32) = 0 then if inb x1 6 then if (x2 : Int32) = 0 then some (s 2 (6 * 0 + ix x1) 0, s) else if (x2 : Int32) = 1 then some (s 2 (6 * 0 + ix x1) 1, s) else if (x2 : Int32) = 2 then some (s 2 (6 * 0 + ix x1) 2, s) else if (x2 : Int32) = 3 then some (s 2 (6 * 0 + ix x1) 3, s) else bP (f_Mo_sideOf s 0 x1) (fun r6 => some (r6, s)) else none else bI (f_T_bad s) (fun r7 s8 => some (r7, s8))))
set_option maxRecDepth 100000 in
set_option maxHeartbeats 4000000 in
theorem c_T_of {G : Gb} {l : Launch} {o : Sto} {L : Lng} (hG : GA G) (s : Sto) (x1 : Int32) (x2 : Int32)  : CT G l (EC o L) pvI psI yX11_of cX11_of 4 (some .int) 1 22 [.ref (ad G 0 0), .int x1, .int x2] s (f_T_of s x1 x2) := by
  refine CT.of hG (by decide) (Nat.le_of_ble_eq_true rfl) (fun X hX => ?_)
  have hX : OX G X l cX11_of 4 "CrownTwo" (some .int) 1 22 := hX
  show ZR G X (EC o L) pvI psI 4 s [(0, .ref (ad G 0 0)), (1, .int x1), (2, .int x2)] [] 0 _
  unfold f_T_of
  refine z_aload_n (pc := 0) hX dX11_of_0 rfl 0 rfl ?_
  refine gr_0_0C (pc := 1) hX q_235 dX11_of_1 ?_
  refine z_iload_n (pc := 4) hX dX11_of_4 rfl 1 rfl ?_
  refine z_rP (run_V (pc := 5) (As := [.int x1]) hX (rc_1 v_1_0) ⟨q_606, q_468, q_10⟩ q_466 q_467 hd_X0_has ⟨Nat.le_of_ble_eq_true rfl, Nat.le_of_ble_eq_true rfl⟩ (c_Co_has hG s 0 x1 v_1_0) rfl rfl (Nat.le_of_ble_eq_true rfl) dX11_of_5) (fun r1 => ?_)
  refine z_if_eq (pc := 8) (tgt := 20) hX dX11_of_8 rfl ?_ ?_
  · refine z_aload_n (pc := 20) hX dX11_of_20 rfl 0 rfl ?_
    refine z_rI (run_V (pc := 21) (As := []) hX rc_0 ⟨q_288, q_291, q_1⟩ q_290 qs_0 hd_X11_bad ⟨Nat.le_of_ble_eq_true rfl, Nat.le_of_ble_eq_true rfl⟩ (c_T_bad hG s) rfl rfl (Nat.le_of_ble_eq_true rfl) dX11_of_21) (fun r2 s3 => ?_)
    exact z_retI (pc := 24) hX dX11_of_24
  · refine z_iload_n (pc := 11) hX dX11_of_11 rfl 2 rfl ?_
    refine z_iconst (pc := 12) hX dX11_of_12 ic_0 ?_
    refine z_iconst (pc := 13) hX dX11_of_13 ic_4 ?_
    refine z_rP (run_S (pc := 14) (As := [.int x2, .int 0, .int 4]) hX ⟨q_285, q_287, q_1⟩ q_286 hd_X11_outside ⟨Nat.le_of_ble_eq_true rfl, Nat.le_of_ble_eq_true rfl⟩ (c_T_outside hG s x2 0 4) rfl rfl (Nat.le_of_ble_eq_true rfl) dX11_of_14) (fun r4 => ?_)
    refine z_if_eq (pc := 17) (tgt := 25) hX dX11_of_17 rfl ?_ ?_
    · refine z_aload_n (pc := 25) hX dX11_of_25 rfl 0 rfl ?_
      refine gr_0_0C (pc := 26) hX q_235 dX11_of_26 ?_
      refine gr_1_1C (pc := 29) hX v_1_0 q_203 dX11_of_29 ?_
      refine z_iload_n (pc := 32) hX dX11_of_32 rfl 1 rfl ?_
      refine aa_8C (pc := 33) hX v_8_0 dX11_of_33 (fun hv5 => ?_)
      refine z_astore_n (pc := 34) (ls' := [(3, .ref (ad G 2 (6 * 0 + ix x1))), (0, .ref (ad G 0 0)), (1, .int x1), (2, .int x2)]) hX dX11_of_34 rfl (by decide) rfl ?_
      refine z_iload_n (pc := 35) hX dX11_of_35 rfl 3 rfl ?_
      refine z_tab1 (pc := 36) (tgt := 68) (v := 0) (off := 32) hX dX11_of_36 (by decide +kernel) (by decide +kernel) (by decide +kernel) rfl ?_ (fun hn0 => ?_)
      · refine z_aload_n (pc := 68) hX dX11_of_68 rfl 0 rfl ?_
        refine gf_2_0C (pc := 69) hX hv5 q_155 dX11_of_69 ?_
        exact z_retI (pc := 72) hX dX11_of_72
      · refine z_tab1 (pc := 36) (tgt := 73) (v := 1) (off := 37) hX dX11_of_36 (by decide +kernel) (by decide +kernel) (by decide +kernel) rfl ?_ (fun hn1 => ?_)
        · refine z_aload_n (pc := 73) hX dX11_of_73 rfl 0 rfl ?_
          refine gf_2_1C (pc := 74) hX hv5 q_158 dX11_of_74 ?_
          exact z_retI (pc := 77) hX dX11_of_77
        · refine z_tab1 (pc := 36) (tgt := 78) (v := 2) (off := 42) hX dX11_of_36 (by decide +kernel) (by decide +kernel) (by decide +kernel) rfl ?_ (fun hn2 => ?_)
          · refine z_aload_n (pc := 78) hX dX11_of_78 rfl 0 rfl ?_
            refine gf_2_2C (pc := 79) hX hv5 q_161 dX11_of_79 ?_
            exact z_retI (pc := 82) hX dX11_of_82
          · refine z_tab1 (pc := 36) (tgt := 83) (v := 3) (off := 47) hX dX11_of_36 (by decide +kernel) (by decide +kernel) (by decide +kernel) rfl ?_ (fun hn3 => ?_)
            · refine z_aload_n (pc := 83) hX dX11_of_83 rfl 0 rfl ?_
              refine gf_2_3C (pc := 84) hX hv5 q_164 dX11_of_84 ?_
              exact z_retI (pc := 87) hX dX11_of_87
            · refine z_tab0 (pc := 36) (tgt := 88) hX dX11_of_36 (sw_out [0, 1, 2, 3] (List.forall_mem_cons.mpr ⟨hn0, List.forall_mem_cons.mpr ⟨hn1, List.forall_mem_cons.mpr ⟨hn2, List.forall_mem_cons.mpr ⟨hn3, fun _ h => absurd h List.not_mem_nil⟩⟩⟩⟩) (by decide +kernel)) rfl ?_
              refine z_aload_n (pc := 88) hX dX11_of_88 rfl 1 rfl ?_
              refine gr_0_0C (pc := 89) hX q_235 dX11_of_89 ?_
              refine gr_1_4C (pc := 92) hX v_1_0 q_208 dX11_of_92 ?_
              refine z_iload_n (pc := 95) hX dX11_of_95 rfl 2 rfl ?_
              refine z_rP (run_V (pc := 96) (As := [.int x1]) hX (rc_4 v_4_0) ⟨q_607, q_610, q_3⟩ q_608 q_609 hd_X5_sideOf ⟨Nat.le_of_ble_eq_true rfl, Nat.le_of_ble_eq_true rfl⟩ (c_Mo_sideOf hG s 0 x1 v_4_0) rfl rfl (Nat.le_of_ble_eq_true rfl) dX11_of_96) (fun r6 => ?_)
              exact z_retI (pc := 99) hX dX11_of_99
    · refine z_aload_n (pc := 20) hX dX11_of_20 rfl 0 rfl ?_
      refine z_rI (run_V (pc := 21) (As := []) hX rc_0 ⟨q_288, q_291, q_1⟩ q_290 qs_0 hd_X11_bad ⟨Nat.le_of_ble_eq_true rfl, Nat.le_of_ble_eq_true rfl⟩ (c_T_bad hG s) rfl rfl (Nat.le_of_ble_eq_true rfl) dX11_of_21) (fun r7 s8 => ?_)
      exact z_retI (pc := 24) hX dX11_of_24
theorem hd_X11_note : yX11_note.cls ≠ "java/lang/invoke/MethodHandle" ∧ yX11_note.cls ≠ "java/lang/invoke/VarHandle" ∧ (parseMethodDescriptor yX11_note.desc).map (fun d => d.parameters.length) = some 5 := by decide +kernel
def f_T_note (s : Sto) (x1 : Int32) (x2 : Int32) (x3 : Int32) (x4 : Int32) (x5 : Int32) : Option (Int32 × Sto) :=
  bP (f_Co_has s 0 x1) (fun r1 => if (r1 : Int32) = 0 then bI (f_T_bad s) (fun r2 s3 => some (r2, s3)) else bP (f_T_outside x2 0 7) (fun r4 => if (r4 : Int32) = 0 then bP (f_T_outside x3 0 99) (fun r7 => if (r7 : Int32) = 0 then bP (f_T_outside x4 0 99) (fun r8 => if (r8 : Int32) = 0 then bP (f_T_outside x5 0 1) (fun r11 => if (r11 : Int32) = 0 then if (s 1 0 6 : Int32) < 6 then if inb (s 1 0 6) 6 then bV (f_No_put s (6 * 0 + ix (s 1 0 6)) x1 x2 x3 x4 x5) (fun s13 => lt (st s13 1 0 6 ((s13 1 0 6) + 1)) (fun s14 => some (s14 1 0 6, s14))) else none else bI (f_T_full s) (fun r15 s16 => some (r15, s16)) else bI (f_T_bad s) (fun r17 s18 => some (r17, s18))) else bI (f_T_bad s) (fun r9 s10 => some (r9, s10))) else bI (f_T_bad s) (fun r19 s20 => some (r19, s20))) else bI (f_T_bad s) (fun r5 s6 => some (r5, s6))))
set_option maxRecDepth 100000 in
set_option maxHeartbeats 4000000 in
theorem c_T_note {G : Gb} {l : Launch} {o : Sto} {L : Lng} (hG : GA G) (s : Sto) (x1 : Int32) (x2 : Int32) (x3 : Int32) (x4 : Int32) (x5 : Int32)  : CT G l (EC o L) pvI psI yX11_note cX11_note 6 (some .int) 1 25 [.ref (ad G 0 0), .int x1, .int x2, .int x3, .int x4, .int x5] s (f_T_note s x1 x2 x3 x4 x5) := by
  refine CT.of hG (by decide) (Nat.le_of_ble_eq_true rfl) (fun X hX => ?_)
  have hX : OX G X l cX11_note 6 "CrownTwo" (some .int) 1 25 := hX
  show ZR G X (EC o L) pvI psI 6 s [(0, .ref (ad G 0 0)), (1, .int x1), (2, .int x2), (3, .int x3), (4, .int x4), (5, .int x5)] [] 0 _
  unfold f_T_note
  refine z_aload_n (pc := 0) hX dX11_note_0 rfl 0 rfl ?_
  refine gr_0_0C (pc := 1) hX q_235 dX11_note_1 ?_
  refine z_iload_n (pc := 4) hX dX11_note_4 rfl 1 rfl ?_
  refine z_rP (run_V (pc := 5) (As := [.int x1]) hX (rc_1 v_1_0) ⟨q_606, q_468, q_10⟩ q_466 q_467 hd_X0_has ⟨Nat.le_of_ble_eq_true rfl, Nat.le_of_ble_eq_true rfl⟩ (c_Co_has hG s 0 x1 v_1_0) rfl rfl (Nat.le_of_ble_eq_true rfl) dX11_note_5) (fun r1 => ?_)
  refine z_if_eq (pc := 8) (tgt := 31) hX dX11_note_8 rfl ?_ ?_
  · refine z_aload_n (pc := 31) hX dX11_note_31 rfl 0 rfl ?_
    refine z_rI (run_V (pc := 32) (As := []) hX rc_0 ⟨q_288, q_291, q_1⟩ q_290 qs_0 hd_X11_bad ⟨Nat.le_of_ble_eq_true rfl, Nat.le_of_ble_eq_true rfl⟩ (c_T_bad hG s) rfl rfl (Nat.le_of_ble_eq_true rfl) dX11_note_32) (fun r2 s3 => ?_)
    exact z_retI (pc := 35) hX dX11_note_35
  · refine z_iload_n (pc := 11) hX dX11_note_11 rfl 2 rfl ?_
    refine z_iconst (pc := 12) hX dX11_note_12 ic_0 ?_
    refine z_bipush (pc := 13) hX dX11_note_13 bp_7 ?_
    refine z_rP (run_S (pc := 15) (As := [.int x2, .int 0, .int 7]) hX ⟨q_285, q_287, q_1⟩ q_286 hd_X11_outside ⟨Nat.le_of_ble_eq_true rfl, Nat.le_of_ble_eq_true rfl⟩ (c_T_outside hG s x2 0 7) rfl rfl (Nat.le_of_ble_eq_true rfl) dX11_note_15) (fun r4 => ?_)
    refine z_if_ne (pc := 18) (tgt := 31) hX dX11_note_18 rfl ?_ ?_
    · refine z_aload_n (pc := 31) hX dX11_note_31 rfl 0 rfl ?_
      refine z_rI (run_V (pc := 32) (As := []) hX rc_0 ⟨q_288, q_291, q_1⟩ q_290 qs_0 hd_X11_bad ⟨Nat.le_of_ble_eq_true rfl, Nat.le_of_ble_eq_true rfl⟩ (c_T_bad hG s) rfl rfl (Nat.le_of_ble_eq_true rfl) dX11_note_32) (fun r5 s6 => ?_)
      exact z_retI (pc := 35) hX dX11_note_35
    · refine z_iload_n (pc := 21) hX dX11_note_21 rfl 3 rfl ?_
      refine z_iconst (pc := 22) hX dX11_note_22 ic_0 ?_
      refine z_bipush (pc := 23) hX dX11_note_23 bp_99 ?_
      refine z_rP (run_S (pc := 25) (As := [.int x3, .int 0, .int 99]) hX ⟨q_285, q_287, q_1⟩ q_286 hd_X11_outside ⟨Nat.le_of_ble_eq_true rfl, Nat.le_of_ble_eq_true rfl⟩ (c_T_outside hG s x3 0 99) rfl rfl (Nat.le_of_ble_eq_true rfl) dX11_note_25) (fun r7 => ?_)
      refine z_if_eq (pc := 28) (tgt := 36) hX dX11_note_28 rfl ?_ ?_
      · refine z_iload (pc := 36) hX dX11_note_36 4 rfl ?_
        refine z_iconst (pc := 38) hX dX11_note_38 ic_0 ?_
        refine z_bipush (pc := 39) hX dX11_note_39 bp_99 ?_
        refine z_rP (run_S (pc := 41) (As := [.int x4, .int 0, .int 99]) hX ⟨q_285, q_287, q_1⟩ q_286 hd_X11_outside ⟨Nat.le_of_ble_eq_true rfl, Nat.le_of_ble_eq_true rfl⟩ (c_T_outside hG s x4 0 99) rfl rfl (Nat.le_of_ble_eq_true rfl) dX11_note_41) (fun r8 => ?_)
        refine z_if_ne (pc := 44) (tgt := 57) hX dX11_note_44 rfl ?_ ?_
        · refine z_aload_n (pc := 57) hX dX11_note_57 rfl 0 rfl ?_
          refine z_rI (run_V (pc := 58) (As := []) hX rc_0 ⟨q_288, q_291, q_1⟩ q_290 qs_0 hd_X11_bad ⟨Nat.le_of_ble_eq_true rfl, Nat.le_of_ble_eq_true rfl⟩ (c_T_bad hG s) rfl rfl (Nat.le_of_ble_eq_true rfl) dX11_note_58) (fun r9 s10 => ?_)
          exact z_retI (pc := 61) hX dX11_note_61
        · refine z_iload (pc := 47) hX dX11_note_47 5 rfl ?_
          refine z_iconst (pc := 49) hX dX11_note_49 ic_0 ?_
          refine z_iconst (pc := 50) hX dX11_note_50 ic_1 ?_
          refine z_rP (run_S (pc := 51) (As := [.int x5, .int 0, .int 1]) hX ⟨q_285, q_287, q_1⟩ q_286 hd_X11_outside ⟨Nat.le_of_ble_eq_true rfl, Nat.le_of_ble_eq_true rfl⟩ (c_T_outside hG s x5 0 1) rfl rfl (Nat.le_of_ble_eq_true rfl) dX11_note_51) (fun r11 => ?_)
          refine z_if_eq (pc := 54) (tgt := 62) hX dX11_note_54 rfl ?_ ?_
          · refine z_aload_n (pc := 62) hX dX11_note_62 rfl 0 rfl ?_
            refine gr_0_0C (pc := 63) hX q_235 dX11_note_63 ?_
            refine gf_1_6C (pc := 66) hX v_1_0 q_214 dX11_note_66 ?_
            refine z_bipush (pc := 69) hX dX11_note_69 bp_6 ?_
            refine z_icmp_lt (pc := 71) (tgt := 79) hX dX11_note_71 rfl ?_ ?_
            · refine z_aload_n (pc := 79) hX dX11_note_79 rfl 0 rfl ?_
              refine gr_0_0C (pc := 80) hX q_235 dX11_note_80 ?_
              refine gr_1_2C (pc := 83) hX v_1_0 q_205 dX11_note_83 ?_
              refine z_aload_n (pc := 86) hX dX11_note_86 rfl 0 rfl ?_
              refine gr_0_0C (pc := 87) hX q_235 dX11_note_87 ?_
              refine gf_1_6C (pc := 90) hX v_1_0 q_214 dX11_note_90 ?_
              refine aa_9C (pc := 93) hX v_9_0 dX11_note_93 (fun hv12 => ?_)
              refine z_iload_n (pc := 94) hX dX11_note_94 rfl 1 rfl ?_
              refine z_iload_n (pc := 95) hX dX11_note_95 rfl 2 rfl ?_
              refine z_iload_n (pc := 96) hX dX11_note_96 rfl 3 rfl ?_
              refine z_iload (pc := 97) hX dX11_note_97 4 rfl ?_
              refine z_iload (pc := 99) hX dX11_note_99 5 rfl ?_
              refine z_rV (run_V (pc := 101) (As := [.int x1, .int x2, .int x3, .int x4, .int x5]) hX (rc_3 hv12) ⟨q_691, q_455, q_12⟩ q_453 q_454 hd_X6_put ⟨Nat.le_of_ble_eq_true rfl, Nat.le_of_ble_eq_true rfl⟩ (c_No_put hG s (6 * 0 + ix (s 1 0 6)) x1 x2 x3 x4 x5 hv12) rfl rfl (Nat.le_of_ble_eq_true rfl) dX11_note_101) (fun s13 => ?_)
              refine z_aload_n (pc := 104) hX dX11_note_104 rfl 0 rfl ?_
              refine gr_0_0C (pc := 105) hX q_235 dX11_note_105 ?_
              refine z_dup (pc := 108) hX dX11_note_108 rfl ?_
              refine gf_1_6C (pc := 109) hX v_1_0 q_214 dX11_note_109 ?_
              refine z_iconst (pc := 112) hX dX11_note_112 ic_1 ?_
              refine z_iadd (pc := 113) hX dX11_note_113 ?_
              refine pf_1_6C (pc := 114) hX v_1_0 q_214 dX11_note_114 ?_
              refine z_lts (fun s14 => ?_)
              refine z_aload_n (pc := 117) hX dX11_note_117 rfl 0 rfl ?_
              refine gr_0_0C (pc := 118) hX q_235 dX11_note_118 ?_
              refine gf_1_6C (pc := 121) hX v_1_0 q_214 dX11_note_121 ?_
              exact z_retI (pc := 124) hX dX11_note_124
            · refine z_aload_n (pc := 74) hX dX11_note_74 rfl 0 rfl ?_
              refine z_rI (run_V (pc := 75) (As := []) hX rc_0 ⟨q_304, q_307, q_1⟩ q_306 qs_1 hd_X11_full ⟨Nat.le_of_ble_eq_true rfl, Nat.le_of_ble_eq_true rfl⟩ (c_T_full hG s) rfl rfl (Nat.le_of_ble_eq_true rfl) dX11_note_75) (fun r15 s16 => ?_)
              exact z_retI (pc := 78) hX dX11_note_78
          · refine z_aload_n (pc := 57) hX dX11_note_57 rfl 0 rfl ?_
            refine z_rI (run_V (pc := 58) (As := []) hX rc_0 ⟨q_288, q_291, q_1⟩ q_290 qs_0 hd_X11_bad ⟨Nat.le_of_ble_eq_true rfl, Nat.le_of_ble_eq_true rfl⟩ (c_T_bad hG s) rfl rfl (Nat.le_of_ble_eq_true rfl) dX11_note_58) (fun r17 s18 => ?_)
            exact z_retI (pc := 61) hX dX11_note_61
      · refine z_aload_n (pc := 31) hX dX11_note_31 rfl 0 rfl ?_
        refine z_rI (run_V (pc := 32) (As := []) hX rc_0 ⟨q_288, q_291, q_1⟩ q_290 qs_0 hd_X11_bad ⟨Nat.le_of_ble_eq_true rfl, Nat.le_of_ble_eq_true rfl⟩ (c_T_bad hG s) rfl rfl (Nat.le_of_ble_eq_true rfl) dX11_note_32) (fun r19 s20 => ?_)
        exact z_retI (pc := 35) hX dX11_note_35
theorem hd_X11_spite : yX11_spite.cls ≠ "java/lang/invoke/MethodHandle" ∧ yX11_spite.cls ≠ "java/lang/invoke/VarHandle" ∧ (parseMethodDescriptor yX11_spite.desc).map (fun d => d.parameters.length) = some 1 := by decide +kernel
def l_T_spite_77 (s : Sto) (x1 : Int32) (rc7 : Int32 → Int32 → Option (Int32 × Sto)) (v4_5 : Int32) (v5_6 : Int32) : Option (Int32 × Sto) :=
  if (3 : Int32) < v5_6 then some (v4_5, s) else jn (fun t8 => jn (fun t10 => bP (f_T_gain s (6 * 0 + ix (s 4 0 3)) x1 t8 t10) (fun r12 => jn (fun t13 => bP (f_T_gain s (6 * 0 + ix (s 4 0 3)) x1 t13 t10) (fun r15 => jn (fun t16 => bP (f_T_gain s (6 * 0 + ix (s 4 0 4)) x1 t10 t8) (fun r18 => jn (fun t19 => bP (f_T_gain s (6 * 0 + ix (s 4 0 4)) x1 t19 t8) (fun r21 => jn (fun t22 => jn (fun v4_24 => rc7 v4_24 (v5_6 + 1)) (fun j25 => if (t16 : Int32) = 0 then j25 v4_5 else if (t22 : Int32) = 0 then j25 v4_5 else lt ((v4_5 ||| (1 <<< (v5_6 &&& 31)) : Int32)) (fun v4_26 => j25 v4_26))) (fun j23 => if (r18 : Int32) < r21 then j23 0 else j23 1))) (fun j20 => if (t10 : Int32) = 0 then j20 1 else j20 0))) (fun j17 => if (r12 : Int32) < r15 then j17 0 else j17 1))) (fun j14 => if (t8 : Int32) = 0 then j14 1 else j14 0))) (fun j11 => if (v5_6 &&& 2 : Int32) = 0 then j11 0 else j11 1)) (fun j9 => if (v5_6 &&& 1 : Int32) = 0 then j9 0 else j9 1)
def f_T_spite (s : Sto) (x1 : Int32) : Option (Int32 × Sto) :=
  bP (f_T_outside x1 0 7) (fun r1 => if (r1 : Int32) = 0 then bP (f_Mo_paired s 0) (fun r2 => if (r2 : Int32) = 0 then bI (f_T_no s) (fun r27 s28 => some (r27, s28)) else if inb (s 4 0 3) 6 then if inb (s 4 0 4) 6 then fx 1000 (l_T_spite_77 s x1) (fun _ _ => none) 0 0 else none else none) else bI (f_T_bad s) (fun r29 s30 => some (r29, s30)))
set_option maxRecDepth 100000 in
set_option maxHeartbeats 4000000 in
theorem c_T_spite {G : Gb} {l : Launch} {o : Sto} {L : Lng} (hG : GA G) (s : Sto) (x1 : Int32)  : CT G l (EC o L) pvI psI yX11_spite cX11_spite 10 (some .int) 2 44 [.ref (ad G 0 0), .int x1] s (f_T_spite s x1) := by
  refine CT.of hG (by decide) (Nat.le_of_ble_eq_true rfl) (fun X hX => ?_)
  have hX : OX G X l cX11_spite 10 "CrownTwo" (some .int) 2 44 := hX
  show ZR G X (EC o L) pvI psI 10 s [(0, .ref (ad G 0 0)), (1, .int x1)] [] 0 _
  unfold f_T_spite
  refine z_iload_n (pc := 0) hX dX11_spite_0 rfl 1 rfl ?_
  refine z_iconst (pc := 1) hX dX11_spite_1 ic_0 ?_
  refine z_bipush (pc := 2) hX dX11_spite_2 bp_7 ?_
  refine z_rP (run_S (pc := 4) (As := [.int x1, .int 0, .int 7]) hX ⟨q_285, q_287, q_1⟩ q_286 hd_X11_outside ⟨Nat.le_of_ble_eq_true rfl, Nat.le_of_ble_eq_true rfl⟩ (c_T_outside hG s x1 0 7) rfl rfl (Nat.le_of_ble_eq_true rfl) dX11_spite_4) (fun r1 => ?_)
  refine z_if_eq (pc := 7) (tgt := 15) hX dX11_spite_7 rfl ?_ ?_
  · refine z_aload_n (pc := 15) hX dX11_spite_15 rfl 0 rfl ?_
    refine gr_0_0C (pc := 16) hX q_235 dX11_spite_16 ?_
    refine gr_1_4C (pc := 19) hX v_1_0 q_208 dX11_spite_19 ?_
    refine z_rP (run_V (pc := 22) (As := []) hX (rc_4 v_4_0) ⟨q_481, q_484, q_3⟩ q_482 q_483 hd_X5_paired ⟨Nat.le_of_ble_eq_true rfl, Nat.le_of_ble_eq_true rfl⟩ (c_Mo_paired hG s 0 v_4_0) rfl rfl (Nat.le_of_ble_eq_true rfl) dX11_spite_22) (fun r2 => ?_)
    refine z_if_ne (pc := 25) (tgt := 33) hX dX11_spite_25 rfl ?_ ?_
    · refine z_aload_n (pc := 33) hX dX11_spite_33 rfl 0 rfl ?_
      refine gr_0_0C (pc := 34) hX q_235 dX11_spite_34 ?_
      refine gr_1_1C (pc := 37) hX v_1_0 q_203 dX11_spite_37 ?_
      refine z_aload_n (pc := 40) hX dX11_spite_40 rfl 0 rfl ?_
      refine gr_0_0C (pc := 41) hX q_235 dX11_spite_41 ?_
      refine gr_1_4C (pc := 44) hX v_1_0 q_208 dX11_spite_44 ?_
      refine gf_4_3C (pc := 47) hX v_4_0 q_74 dX11_spite_47 ?_
      refine aa_8C (pc := 50) hX v_8_0 dX11_spite_50 (fun hv3 => ?_)
      refine z_astore_n (pc := 51) (ls' := [(2, .ref (ad G 2 (6 * 0 + ix (s 4 0 3)))), (0, .ref (ad G 0 0)), (1, .int x1)]) hX dX11_spite_51 rfl (by decide) rfl ?_
      refine z_aload_n (pc := 52) hX dX11_spite_52 rfl 1 rfl ?_
      refine gr_0_0C (pc := 53) hX q_235 dX11_spite_53 ?_
      refine gr_1_1C (pc := 56) hX v_1_0 q_203 dX11_spite_56 ?_
      refine z_aload_n (pc := 59) hX dX11_spite_59 rfl 1 rfl ?_
      refine gr_0_0C (pc := 60) hX q_235 dX11_spite_60 ?_
      refine gr_1_4C (pc := 63) hX v_1_0 q_208 dX11_spite_63 ?_
      refine gf_4_4C (pc := 66) hX v_4_0 q_78 dX11_spite_66 ?_
      refine aa_8C (pc := 69) hX v_8_0 dX11_spite_69 (fun hv4 => ?_)
      refine z_astore_n (pc := 70) (ls' := [(3, .ref (ad G 2 (6 * 0 + ix (s 4 0 4)))), (2, .ref (ad G 2 (6 * 0 + ix (s 4 0 3)))), (0, .ref (ad G 0 0)), (1, .int x1)]) hX dX11_spite_70 rfl (by decide) rfl ?_
      refine z_iconst (pc := 71) hX dX11_spite_71 ic_0 ?_
      refine z_istore (pc := 72) (ls' := [(4, .int 0), (3, .ref (ad G 2 (6 * 0 + ix (s 4 0 4)))), (2, .ref (ad G 2 (6 * 0 + ix (s 4 0 3)))), (0, .ref (ad G 0 0)), (1, .int x1)]) hX dX11_spite_72 (by decide) rfl ?_
      refine z_iconst (pc := 74) hX dX11_spite_74 ic_0 ?_
      refine z_istore (pc := 75) (ls' := [(5, .int 0), (4, .int 0), (3, .ref (ad G 2 (6 * 0 + ix (s 4 0 4)))), (2, .ref (ad G 2 (6 * 0 + ix (s 4 0 3)))), (0, .ref (ad G 0 0)), (1, .int x1)]) hX dX11_spite_75 (by decide) rfl ?_
      refine z_ls [5, 3, 2, 1, 0] rfl ?_
      refine (fx_P (F := l_T_spite_77 s x1) (b := (fun _ _ => none)) (fun rc7 => ∀ (v4_5 : Int32) (v5_6 : Int32), ZR G X (EC o L) pvI psI 10 s [(1, .int x1), (2, .ref (ad G 2 (6 * 0 + ix (s 4 0 3)))), (3, .ref (ad G 2 (6 * 0 + ix (s 4 0 4)))), (4, .int v4_5), (5, .int v5_6)] [] 77 (rc7 v4_5 v5_6)) ?_ ?_ 1000) 0 0
      · intro v4_5 v5_6; exact z_none
      · intro rc7 hrc7 v4_5 v5_6
        unfold l_T_spite_77
        refine z_iload (pc := 77) hX dX11_spite_77 4 rfl ?_
        refine z_iconst (pc := 79) hX dX11_spite_79 ic_3 ?_
        refine z_icmp_gt (pc := 80) (tgt := 208) hX dX11_spite_80 rfl ?_ ?_
        · refine z_iload (pc := 208) hX dX11_spite_208 3 rfl ?_
          exact z_retI (pc := 210) hX dX11_spite_210
        · refine z_iload (pc := 83) hX dX11_spite_83 4 rfl ?_
          refine z_iconst (pc := 85) hX dX11_spite_85 ic_1 ?_
          refine z_iand (pc := 86) hX dX11_spite_86 ?_
          refine z_jn (P := fun j9 => ∀ (t8 : Int32), ZR G X (EC o L) pvI psI 10 s [(1, .int x1), (2, .ref (ad G 2 (6 * 0 + ix (s 4 0 3)))), (3, .ref (ad G 2 (6 * 0 + ix (s 4 0 4)))), (4, .int v4_5), (5, .int v5_6)] [.int t8] 95 (j9 t8)) ?_ ?_
          · intro t8
            refine z_istore (pc := 95) (ls' := [(6, .int t8), (1, .int x1), (2, .ref (ad G 2 (6 * 0 + ix (s 4 0 3)))), (3, .ref (ad G 2 (6 * 0 + ix (s 4 0 4)))), (4, .int v4_5), (5, .int v5_6)]) hX dX11_spite_95 (by decide) rfl ?_
            refine z_iload (pc := 97) hX dX11_spite_97 5 rfl ?_
            refine z_iconst (pc := 99) hX dX11_spite_99 ic_2 ?_
            refine z_iand (pc := 100) hX dX11_spite_100 ?_
            refine z_jn (P := fun j11 => ∀ (t10 : Int32), ZR G X (EC o L) pvI psI 10 s [(1, .int x1), (2, .ref (ad G 2 (6 * 0 + ix (s 4 0 3)))), (3, .ref (ad G 2 (6 * 0 + ix (s 4 0 4)))), (4, .int v4_5), (5, .int v5_6), (6, .int t8)] [.int t10] 109 (j11 t10)) ?_ ?_
            · intro t10
              refine z_istore (pc := 109) (ls' := [(7, .int t10), (1, .int x1), (2, .ref (ad G 2 (6 * 0 + ix (s 4 0 3)))), (3, .ref (ad G 2 (6 * 0 + ix (s 4 0 4)))), (4, .int v4_5), (5, .int v5_6), (6, .int t8)]) hX dX11_spite_109 (by decide) rfl ?_
              refine z_aload_n (pc := 111) hX dX11_spite_111 rfl 2 rfl ?_
              refine z_iload_n (pc := 112) hX dX11_spite_112 rfl 1 rfl ?_
              refine z_iload (pc := 113) hX dX11_spite_113 6 rfl ?_
              refine z_iload (pc := 115) hX dX11_spite_115 0 rfl ?_
              refine z_rP (run_S (pc := 117) (As := [.ref (ad G 2 (6 * 0 + ix (s 4 0 3))), .int x1, .int t8, .int t10]) hX ⟨q_732, q_734, q_1⟩ q_733 hd_X11_gain ⟨Nat.le_of_ble_eq_true rfl, Nat.le_of_ble_eq_true rfl⟩ (c_T_gain hG s (6 * 0 + ix (s 4 0 3)) x1 t8 t10 hv3) rfl rfl (Nat.le_of_ble_eq_true rfl) dX11_spite_117) (fun r12 => ?_)
              refine z_aload_n (pc := 120) hX dX11_spite_120 rfl 2 rfl ?_
              refine z_iload_n (pc := 121) hX dX11_spite_121 rfl 1 rfl ?_
              refine z_iload (pc := 122) hX dX11_spite_122 6 rfl ?_
              refine z_jn (P := fun j14 => ∀ (t13 : Int32), ZR G X (EC o L) pvI psI 10 s [(1, .int x1), (2, .ref (ad G 2 (6 * 0 + ix (s 4 0 3)))), (3, .ref (ad G 2 (6 * 0 + ix (s 4 0 4)))), (4, .int v4_5), (5, .int v5_6), (6, .int t8), (7, .int t10)] [.int t13, .int x1, .ref (ad G 2 (6 * 0 + ix (s 4 0 3))), .int r12] 132 (j14 t13)) ?_ ?_
              · intro t13
                refine z_iload (pc := 132) hX dX11_spite_132 6 rfl ?_
                refine z_rP (run_S (pc := 134) (As := [.ref (ad G 2 (6 * 0 + ix (s 4 0 3))), .int x1, .int t13, .int t10]) hX ⟨q_732, q_734, q_1⟩ q_733 hd_X11_gain ⟨Nat.le_of_ble_eq_true rfl, Nat.le_of_ble_eq_true rfl⟩ (c_T_gain hG s (6 * 0 + ix (s 4 0 3)) x1 t13 t10 hv3) rfl rfl (Nat.le_of_ble_eq_true rfl) dX11_spite_134) (fun r15 => ?_)
                refine z_jn (P := fun j17 => ∀ (t16 : Int32), ZR G X (EC o L) pvI psI 10 s [(1, .int x1), (2, .ref (ad G 2 (6 * 0 + ix (s 4 0 3)))), (3, .ref (ad G 2 (6 * 0 + ix (s 4 0 4)))), (4, .int v4_5), (5, .int v5_6), (6, .int t8), (7, .int t10)] [.int t16] 145 (j17 t16)) ?_ ?_
                · intro t16
                  refine z_istore (pc := 145) (ls' := [(8, .int t16), (1, .int x1), (2, .ref (ad G 2 (6 * 0 + ix (s 4 0 3)))), (3, .ref (ad G 2 (6 * 0 + ix (s 4 0 4)))), (4, .int v4_5), (5, .int v5_6), (6, .int t8), (7, .int t10)]) hX dX11_spite_145 (by decide) rfl ?_
                  refine z_aload_n (pc := 147) hX dX11_spite_147 rfl 3 rfl ?_
                  refine z_iload_n (pc := 148) hX dX11_spite_148 rfl 1 rfl ?_
                  refine z_iload (pc := 149) hX dX11_spite_149 7 rfl ?_
                  refine z_iload (pc := 151) hX dX11_spite_151 6 rfl ?_
                  refine z_rP (run_S (pc := 153) (As := [.ref (ad G 2 (6 * 0 + ix (s 4 0 4))), .int x1, .int t10, .int t8]) hX ⟨q_732, q_734, q_1⟩ q_733 hd_X11_gain ⟨Nat.le_of_ble_eq_true rfl, Nat.le_of_ble_eq_true rfl⟩ (c_T_gain hG s (6 * 0 + ix (s 4 0 4)) x1 t10 t8 hv4) rfl rfl (Nat.le_of_ble_eq_true rfl) dX11_spite_153) (fun r18 => ?_)
                  refine z_aload_n (pc := 156) hX dX11_spite_156 rfl 3 rfl ?_
                  refine z_iload_n (pc := 157) hX dX11_spite_157 rfl 1 rfl ?_
                  refine z_iload (pc := 158) hX dX11_spite_158 7 rfl ?_
                  refine z_jn (P := fun j20 => ∀ (t19 : Int32), ZR G X (EC o L) pvI psI 10 s [(1, .int x1), (2, .ref (ad G 2 (6 * 0 + ix (s 4 0 3)))), (3, .ref (ad G 2 (6 * 0 + ix (s 4 0 4)))), (4, .int v4_5), (5, .int v5_6), (6, .int t8), (8, .int t16)] [.int t19, .int x1, .ref (ad G 2 (6 * 0 + ix (s 4 0 4))), .int r18] 168 (j20 t19)) ?_ ?_
                  · intro t19
                    refine z_iload (pc := 168) hX dX11_spite_168 5 rfl ?_
                    refine z_rP (run_S (pc := 170) (As := [.ref (ad G 2 (6 * 0 + ix (s 4 0 4))), .int x1, .int t19, .int t8]) hX ⟨q_732, q_734, q_1⟩ q_733 hd_X11_gain ⟨Nat.le_of_ble_eq_true rfl, Nat.le_of_ble_eq_true rfl⟩ (c_T_gain hG s (6 * 0 + ix (s 4 0 4)) x1 t19 t8 hv4) rfl rfl (Nat.le_of_ble_eq_true rfl) dX11_spite_170) (fun r21 => ?_)
                    refine z_jn (P := fun j23 => ∀ (t22 : Int32), ZR G X (EC o L) pvI psI 10 s [(1, .int x1), (2, .ref (ad G 2 (6 * 0 + ix (s 4 0 3)))), (3, .ref (ad G 2 (6 * 0 + ix (s 4 0 4)))), (4, .int v4_5), (5, .int v5_6), (8, .int t16)] [.int t22] 181 (j23 t22)) ?_ ?_
                    · intro t22
                      refine z_istore (pc := 181) (ls' := [(9, .int t22), (1, .int x1), (2, .ref (ad G 2 (6 * 0 + ix (s 4 0 3)))), (3, .ref (ad G 2 (6 * 0 + ix (s 4 0 4)))), (4, .int v4_5), (5, .int v5_6), (8, .int t16)]) hX dX11_spite_181 (by decide) rfl ?_
                      refine z_iload (pc := 183) hX dX11_spite_183 6 rfl ?_
                      refine z_jn (P := fun j25 => ∀ (v4_24 : Int32), ZR G X (EC o L) pvI psI 10 s [(1, .int x1), (2, .ref (ad G 2 (6 * 0 + ix (s 4 0 3)))), (3, .ref (ad G 2 (6 * 0 + ix (s 4 0 4)))), (4, .int v4_24), (5, .int v5_6)] [] 202 (j25 v4_24)) ?_ ?_
                      · intro v4_24
                        refine z_iinc (pc := 202) (n := 4) (v := v5_6 + 1) (ls' := [(5, .int (v5_6 + 1)), (1, .int x1), (2, .ref (ad G 2 (6 * 0 + ix (s 4 0 3)))), (3, .ref (ad G 2 (6 * 0 + ix (s 4 0 4)))), (4, .int v4_24)]) hX dX11_spite_202 rfl (by rw [show Int32.ofInt (1) = 1 by decide +kernel]) (by decide) rfl ?_
                        refine z_goto (pc := 205) (tgt := 77) hX dX11_spite_205 rfl ?_
                        exact z_ls [1, 2, 3, 4, 0] rfl (hrc7 v4_24 (v5_6 + 1))
                      · intro j25 hj25
                        refine z_if_eq (pc := 185) (tgt := 202) hX dX11_spite_185 rfl ?_ ?_
                        · exact z_ls [1, 2, 3, 4, 5] rfl (hj25 v4_5)
                        · refine z_iload (pc := 188) hX dX11_spite_188 0 rfl ?_
                          refine z_if_eq (pc := 190) (tgt := 202) hX dX11_spite_190 rfl ?_ ?_
                          · exact z_ls [1, 2, 3, 4, 5] rfl (hj25 v4_5)
                          · refine z_iload (pc := 193) hX dX11_spite_193 4 rfl ?_
                            refine z_iconst (pc := 195) hX dX11_spite_195 ic_1 ?_
                            refine z_iload (pc := 196) hX dX11_spite_196 5 rfl ?_
                            refine z_ishl (pc := 198) hX dX11_spite_198 ?_
                            refine z_ior (pc := 199) hX dX11_spite_199 ?_
                            refine z_lti (pc := 200) (fun v4_26 => ?_)
                            refine z_istore (pc := 200) (ls' := [(4, .int v4_26), (9, .int t22), (1, .int x1), (2, .ref (ad G 2 (6 * 0 + ix (s 4 0 3)))), (3, .ref (ad G 2 (6 * 0 + ix (s 4 0 4)))), (5, .int v5_6), (8, .int t16)]) hX dX11_spite_200 (by decide) rfl ?_
                            exact z_ls [2, 3, 4, 0, 5] rfl (hj25 v4_26)
                    · intro j23 hj23
                      refine z_icmp_lt (pc := 173) (tgt := 180) hX dX11_spite_173 rfl ?_ ?_
                      · refine z_iconst (pc := 180) hX dX11_spite_180 ic_0 ?_
                        exact z_ls [0, 1, 2, 3, 4, 6] rfl (hj23 0)
                      · refine z_iconst (pc := 176) hX dX11_spite_176 ic_1 ?_
                        refine z_goto (pc := 177) (tgt := 181) hX dX11_spite_177 rfl ?_
                        exact z_ls [0, 1, 2, 3, 4, 6] rfl (hj23 1)
                  · intro j20 hj20
                    refine z_if_ne (pc := 160) (tgt := 167) hX dX11_spite_160 rfl ?_ ?_
                    · refine z_iconst (pc := 167) hX dX11_spite_167 ic_0 ?_
                      exact z_ls [1, 2, 3, 4, 5, 6, 0] rfl (hj20 0)
                    · refine z_iconst (pc := 163) hX dX11_spite_163 ic_1 ?_
                      refine z_goto (pc := 164) (tgt := 168) hX dX11_spite_164 rfl ?_
                      exact z_ls [1, 2, 3, 4, 5, 6, 0] rfl (hj20 1)
                · intro j17 hj17
                  refine z_icmp_lt (pc := 137) (tgt := 144) hX dX11_spite_137 rfl ?_ ?_
                  · refine z_iconst (pc := 144) hX dX11_spite_144 ic_0 ?_
                    exact z_ls [0, 1, 2, 3, 4, 5, 6] rfl (hj17 0)
                  · refine z_iconst (pc := 140) hX dX11_spite_140 ic_1 ?_
                    refine z_goto (pc := 141) (tgt := 145) hX dX11_spite_141 rfl ?_
                    exact z_ls [0, 1, 2, 3, 4, 5, 6] rfl (hj17 1)
              · intro j14 hj14
                refine z_if_ne (pc := 124) (tgt := 131) hX dX11_spite_124 rfl ?_ ?_
                · refine z_iconst (pc := 131) hX dX11_spite_131 ic_0 ?_
                  exact z_ls [1, 2, 3, 4, 5, 6, 0] rfl (hj14 0)
                · refine z_iconst (pc := 127) hX dX11_spite_127 ic_1 ?_
                  refine z_goto (pc := 128) (tgt := 132) hX dX11_spite_128 rfl ?_
                  exact z_ls [1, 2, 3, 4, 5, 6, 0] rfl (hj14 1)
            · intro j11 hj11
              refine z_if_eq (pc := 101) (tgt := 108) hX dX11_spite_101 rfl ?_ ?_
              · refine z_iconst (pc := 108) hX dX11_spite_108 ic_0 ?_
                exact z_ls [1, 2, 3, 4, 5, 0] rfl (hj11 0)
              · refine z_iconst (pc := 104) hX dX11_spite_104 ic_1 ?_
                refine z_goto (pc := 105) (tgt := 109) hX dX11_spite_105 rfl ?_
                exact z_ls [1, 2, 3, 4, 5, 0] rfl (hj11 1)
          · intro j9 hj9
            refine z_if_eq (pc := 87) (tgt := 94) hX dX11_spite_87 rfl ?_ ?_
            · refine z_iconst (pc := 94) hX dX11_spite_94 ic_0 ?_
              exact z_ls [0, 1, 2, 3, 4] rfl (hj9 0)
            · refine z_iconst (pc := 90) hX dX11_spite_90 ic_1 ?_
              refine z_goto (pc := 91) (tgt := 95) hX dX11_spite_91 rfl ?_
              exact z_ls [0, 1, 2, 3, 4] rfl (hj9 1)
    · refine z_aload_n (pc := 28) hX dX11_spite_28 rfl 0 rfl ?_
      refine z_rI (run_V (pc := 29) (As := []) hX rc_0 ⟨q_489, q_492, q_1⟩ q_491 qs_13 hd_X11_no ⟨Nat.le_of_ble_eq_true rfl, Nat.le_of_ble_eq_true rfl⟩ (c_T_no hG s) rfl rfl (Nat.le_of_ble_eq_true rfl) dX11_spite_29) (fun r27 s28 => ?_)
      exact z_retI (pc := 32) hX dX11_spite_32
  · refine z_aload_n (pc := 10) hX dX11_spite_10 rfl 0 rfl ?_
    refine z_rI (run_V (pc := 11) (As := []) hX rc_0 ⟨q_288, q_291, q_1⟩ q_290 qs_0 hd_X11_bad ⟨Nat.le_of_ble_eq_true rfl, Nat.le_of_ble_eq_true rfl⟩ (c_T_bad hG s) rfl rfl (Nat.le_of_ble_eq_true rfl) dX11_spite_11) (fun r29 s30 => ?_)
    exact z_retI (pc := 14) hX dX11_spite_14
theorem hd_X11_part : yX11_part.cls ≠ "java/lang/invoke/MethodHandle" ∧ yX11_part.cls ≠ "java/lang/invoke/VarHandle" ∧ (parseMethodDescriptor yX11_part.desc).map (fun d => d.parameters.length) = some 1 := by decide +kernel
def f_T_part (s : Sto) (x1 : Int32) : Option (Int64 × Sto) :=
  bP (f_T_outside x1 0 1) (fun r1 => if (r1 : Int32) = 0 then if (x1 : Int32) = 0 then some (Int32.toInt64 (s 0 0 10), s) else some (Int32.toInt64 (s 0 0 11), s) else bI (f_T_bad s) (fun r2 s3 => some (Int32.toInt64 r2, s3)))
set_option maxRecDepth 100000 in
set_option maxHeartbeats 4000000 in
theorem c_T_part {G : Gb} {l : Launch} {o : Sto} {L : Lng} (hG : GA G) (s : Sto) (x1 : Int32)  : CT G l (EC o L) pvM psM yX11_part cX11_part 2 (some .long) 1 22 [.ref (ad G 0 0), .int x1] s (f_T_part s x1) := by
  refine CT.of hG (by decide) (Nat.le_of_ble_eq_true rfl) (fun X hX => ?_)
  have hX : OX G X l cX11_part 2 "CrownTwo" (some .long) 1 22 := hX
  show ZR G X (EC o L) pvM psM 2 s [(0, .ref (ad G 0 0)), (1, .int x1)] [] 0 _
  unfold f_T_part
  refine z_iload_n (pc := 0) hX dX11_part_0 rfl 1 rfl ?_
  refine z_iconst (pc := 1) hX dX11_part_1 ic_0 ?_
  refine z_iconst (pc := 2) hX dX11_part_2 ic_1 ?_
  refine z_rP (run_S (pc := 3) (As := [.int x1, .int 0, .int 1]) hX ⟨q_285, q_287, q_1⟩ q_286 hd_X11_outside ⟨Nat.le_of_ble_eq_true rfl, Nat.le_of_ble_eq_true rfl⟩ (c_T_outside hG s x1 0 1) rfl rfl (Nat.le_of_ble_eq_true rfl) dX11_part_3) (fun r1 => ?_)
  refine z_if_eq (pc := 6) (tgt := 15) hX dX11_part_6 rfl ?_ ?_
  · refine z_iload_n (pc := 15) hX dX11_part_15 rfl 1 rfl ?_
    refine z_if_ne (pc := 16) (tgt := 27) hX dX11_part_16 rfl ?_ ?_
    · refine z_aload_n (pc := 27) hX dX11_part_27 rfl 0 rfl ?_
      refine gf_0_11C (pc := 28) hX q_246 dX11_part_28 ?_
      refine z_i2l (pc := 31) hX dX11_part_31 ?_
      exact z_retM (pc := 32) hX dX11_part_32
    · refine z_aload_n (pc := 19) hX dX11_part_19 rfl 0 rfl ?_
      refine gf_0_10C (pc := 20) hX q_245 dX11_part_20 ?_
      refine z_i2l (pc := 23) hX dX11_part_23 ?_
      refine z_goto (pc := 24) (tgt := 32) hX dX11_part_24 rfl ?_
      exact z_retM (pc := 32) hX dX11_part_32
  · refine z_aload_n (pc := 9) hX dX11_part_9 rfl 0 rfl ?_
    refine z_rI (run_V (pc := 10) (As := []) hX rc_0 ⟨q_288, q_291, q_1⟩ q_290 qs_0 hd_X11_bad ⟨Nat.le_of_ble_eq_true rfl, Nat.le_of_ble_eq_true rfl⟩ (c_T_bad hG s) rfl rfl (Nat.le_of_ble_eq_true rfl) dX11_part_10) (fun r2 s3 => ?_)
    refine z_i2l (pc := 13) hX dX11_part_13 ?_
    exact z_retM (pc := 14) hX dX11_part_14
theorem hd_X11_image : yX11_image.cls ≠ "java/lang/invoke/MethodHandle" ∧ yX11_image.cls ≠ "java/lang/invoke/VarHandle" ∧ (parseMethodDescriptor yX11_image.desc).map (fun d => d.parameters.length) = some 1 := by decide +kernel
def f_T_image (s : Sto) (x1 : Int32) : Option (Int32 × Sto) :=
  bP (f_T_outside x1 0 1) (fun r1 => if (r1 : Int32) = 0 then if inb x1 2 then bV (f_Co_become s (2 + ix x1) 0) (fun s3 => if inb x1 2 then lt (st s3 12 0 (ix x1) 1) (fun s4 => some (1, s4)) else none) else none else bI (f_T_bad s) (fun r5 s6 => some (r5, s6)))
set_option maxRecDepth 100000 in
set_option maxHeartbeats 4000000 in
theorem c_T_image {G : Gb} {l : Launch} {o : Sto} {L : Lng} (hG : GA G) (s : Sto) (x1 : Int32)  : CT G l (EC o L) pvI psI yX11_image cX11_image 2 (some .int) 3 68 [.ref (ad G 0 0), .int x1] s (f_T_image s x1) := by
  refine CT.of hG (by decide) (Nat.le_of_ble_eq_true rfl) (fun X hX => ?_)
  have hX : OX G X l cX11_image 2 "CrownTwo" (some .int) 3 68 := hX
  show ZR G X (EC o L) pvI psI 2 s [(0, .ref (ad G 0 0)), (1, .int x1)] [] 0 _
  unfold f_T_image
  refine z_iload_n (pc := 0) hX dX11_image_0 rfl 1 rfl ?_
  refine z_iconst (pc := 1) hX dX11_image_1 ic_0 ?_
  refine z_iconst (pc := 2) hX dX11_image_2 ic_1 ?_
  refine z_rP (run_S (pc := 3) (As := [.int x1, .int 0, .int 1]) hX ⟨q_285, q_287, q_1⟩ q_286 hd_X11_outside ⟨Nat.le_of_ble_eq_true rfl, Nat.le_of_ble_eq_true rfl⟩ (c_T_outside hG s x1 0 1) rfl rfl (Nat.le_of_ble_eq_true rfl) dX11_image_3) (fun r1 => ?_)
  refine z_if_eq (pc := 6) (tgt := 14) hX dX11_image_6 rfl ?_ ?_
  · refine z_aload_n (pc := 14) hX dX11_image_14 rfl 0 rfl ?_
    refine gr_0_2C (pc := 15) hX q_237 dX11_image_15 ?_
    refine z_iload_n (pc := 18) hX dX11_image_18 rfl 1 rfl ?_
    refine aa_11C (pc := 19) hX dX11_image_19 (fun hv2 => ?_)
    refine z_aload_n (pc := 20) hX dX11_image_20 rfl 0 rfl ?_
    refine gr_0_0C (pc := 21) hX q_235 dX11_image_21 ?_
    refine z_rV (run_V (pc := 24) (As := [.ref (ad G 1 0)]) hX (rc_1 hv2) ⟨q_435, q_438, q_10⟩ q_436 q_437 hd_X0_become ⟨Nat.le_of_ble_eq_true rfl, Nat.le_of_ble_eq_true rfl⟩ (c_Co_become hG s (2 + ix x1) 0 hv2 v_1_0) rfl rfl (Nat.le_of_ble_eq_true rfl) dX11_image_24) (fun s3 => ?_)
    refine z_aload_n (pc := 27) hX dX11_image_27 rfl 0 rfl ?_
    refine gr_0_3C (pc := 28) hX q_238 dX11_image_28 ?_
    refine z_iload_n (pc := 31) hX dX11_image_31 rfl 1 rfl ?_
    refine z_iconst (pc := 32) hX dX11_image_32 ic_1 ?_
    refine is_12C (pc := 33) hX dX11_image_33 ?_
    refine z_lts (fun s4 => ?_)
    refine z_iconst (pc := 34) hX dX11_image_34 ic_1 ?_
    exact z_retI (pc := 35) hX dX11_image_35
  · refine z_aload_n (pc := 9) hX dX11_image_9 rfl 0 rfl ?_
    refine z_rI (run_V (pc := 10) (As := []) hX rc_0 ⟨q_288, q_291, q_1⟩ q_290 qs_0 hd_X11_bad ⟨Nat.le_of_ble_eq_true rfl, Nat.le_of_ble_eq_true rfl⟩ (c_T_bad hG s) rfl rfl (Nat.le_of_ble_eq_true rfl) dX11_image_10) (fun r5 s6 => ?_)
    exact z_retI (pc := 13) hX dX11_image_13
theorem hd_X11_from : yX11_from.cls ≠ "java/lang/invoke/MethodHandle" ∧ yX11_from.cls ≠ "java/lang/invoke/VarHandle" ∧ (parseMethodDescriptor yX11_from.desc).map (fun d => d.parameters.length) = some 1 := by decide +kernel
def f_T_from (s : Sto) (x1 : Int32) : Option (Int32 × Sto) :=
  bP (f_T_outside x1 0 1) (fun r1 => if (r1 : Int32) = 0 then if inb x1 2 then if (s 12 0 (ix x1) : Int32) = 0 then bI (f_T_no s) (fun r4 s5 => some (r4, s5)) else if inb x1 2 then bV (f_Co_become s 0 (2 + ix x1)) (fun s3 => some (1, s3)) else none else none else bI (f_T_bad s) (fun r6 s7 => some (r6, s7)))
set_option maxRecDepth 100000 in
set_option maxHeartbeats 4000000 in
theorem c_T_from {G : Gb} {l : Launch} {o : Sto} {L : Lng} (hG : GA G) (s : Sto) (x1 : Int32)  : CT G l (EC o L) pvI psI yX11_from cX11_from 2 (some .int) 3 68 [.ref (ad G 0 0), .int x1] s (f_T_from s x1) := by
  refine CT.of hG (by decide) (Nat.le_of_ble_eq_true rfl) (fun X hX => ?_)
  have hX : OX G X l cX11_from 2 "CrownTwo" (some .int) 3 68 := hX
  show ZR G X (EC o L) pvI psI 2 s [(0, .ref (ad G 0 0)), (1, .int x1)] [] 0 _
  unfold f_T_from
  refine z_iload_n (pc := 0) hX dX11_from_0 rfl 1 rfl ?_
  refine z_iconst (pc := 1) hX dX11_from_1 ic_0 ?_
  refine z_iconst (pc := 2) hX dX11_from_2 ic_1 ?_
  refine z_rP (run_S (pc := 3) (As := [.int x1, .int 0, .int 1]) hX ⟨q_285, q_287, q_1⟩ q_286 hd_X11_outside ⟨Nat.le_of_ble_eq_true rfl, Nat.le_of_ble_eq_true rfl⟩ (c_T_outside hG s x1 0 1) rfl rfl (Nat.le_of_ble_eq_true rfl) dX11_from_3) (fun r1 => ?_)
  refine z_if_eq (pc := 6) (tgt := 14) hX dX11_from_6 rfl ?_ ?_
  · refine z_aload_n (pc := 14) hX dX11_from_14 rfl 0 rfl ?_
    refine gr_0_3C (pc := 15) hX q_238 dX11_from_15 ?_
    refine z_iload_n (pc := 18) hX dX11_from_18 rfl 1 rfl ?_
    refine ia_12C (pc := 19) hX dX11_from_19 ?_
    refine z_if_ne (pc := 20) (tgt := 28) hX dX11_from_20 rfl ?_ ?_
    · refine z_aload_n (pc := 28) hX dX11_from_28 rfl 0 rfl ?_
      refine gr_0_0C (pc := 29) hX q_235 dX11_from_29 ?_
      refine z_aload_n (pc := 32) hX dX11_from_32 rfl 0 rfl ?_
      refine gr_0_2C (pc := 33) hX q_237 dX11_from_33 ?_
      refine z_iload_n (pc := 36) hX dX11_from_36 rfl 1 rfl ?_
      refine aa_11C (pc := 37) hX dX11_from_37 (fun hv2 => ?_)
      refine z_rV (run_V (pc := 38) (As := [.ref (ad G 1 (2 + ix x1))]) hX (rc_1 v_1_0) ⟨q_435, q_438, q_10⟩ q_436 q_437 hd_X0_become ⟨Nat.le_of_ble_eq_true rfl, Nat.le_of_ble_eq_true rfl⟩ (c_Co_become hG s 0 (2 + ix x1) v_1_0 hv2) rfl rfl (Nat.le_of_ble_eq_true rfl) dX11_from_38) (fun s3 => ?_)
      refine z_iconst (pc := 41) hX dX11_from_41 ic_1 ?_
      exact z_retI (pc := 42) hX dX11_from_42
    · refine z_aload_n (pc := 23) hX dX11_from_23 rfl 0 rfl ?_
      refine z_rI (run_V (pc := 24) (As := []) hX rc_0 ⟨q_489, q_492, q_1⟩ q_491 qs_13 hd_X11_no ⟨Nat.le_of_ble_eq_true rfl, Nat.le_of_ble_eq_true rfl⟩ (c_T_no hG s) rfl rfl (Nat.le_of_ble_eq_true rfl) dX11_from_24) (fun r4 s5 => ?_)
      exact z_retI (pc := 27) hX dX11_from_27
  · refine z_aload_n (pc := 9) hX dX11_from_9 rfl 0 rfl ?_
    refine z_rI (run_V (pc := 10) (As := []) hX rc_0 ⟨q_288, q_291, q_1⟩ q_290 qs_0 hd_X11_bad ⟨Nat.le_of_ble_eq_true rfl, Nat.le_of_ble_eq_true rfl⟩ (c_T_bad hG s) rfl rfl (Nat.le_of_ble_eq_true rfl) dX11_from_10) (fun r6 s7 => ?_)
    exact z_retI (pc := 13) hX dX11_from_13
theorem hd_X11_status : yX11_status.cls ≠ "java/lang/invoke/MethodHandle" ∧ yX11_status.cls ≠ "java/lang/invoke/VarHandle" ∧ (parseMethodDescriptor yX11_status.desc).map (fun d => d.parameters.length) = some 1 := by decide +kernel
def f_T_status (s : Sto) (x1 : Int32) : Option (Int32 × Sto) :=
  if (x1 : Int32) = 0 then some (s 0 0 12, s) else if (x1 : Int32) = 1 then some (s 0 0 13, s) else if (x1 : Int32) = 2 then some (s 0 0 14, s) else bI (f_T_bad s) (fun r1 s2 => some ((-1), s2))
set_option maxRecDepth 100000 in
set_option maxHeartbeats 4000000 in
theorem c_T_status {G : Gb} {l : Launch} {o : Sto} {L : Lng} (hG : GA G) (s : Sto) (x1 : Int32)  : CT G l (EC o L) pvI psI yX11_status cX11_status 2 (some .int) 1 20 [.ref (ad G 0 0), .int x1] s (f_T_status s x1) := by
  refine CT.of hG (by decide) (Nat.le_of_ble_eq_true rfl) (fun X hX => ?_)
  have hX : OX G X l cX11_status 2 "CrownTwo" (some .int) 1 20 := hX
  show ZR G X (EC o L) pvI psI 2 s [(0, .ref (ad G 0 0)), (1, .int x1)] [] 0 _
  unfold f_T_status
  refine z_iload_n (pc := 0) hX dX11_status_0 rfl 1 rfl ?_
  refine z_tab1 (pc := 1) (tgt := 28) (v := 0) (off := 27) hX dX11_status_1 (by decide +kernel) (by decide +kernel) (by decide +kernel) rfl ?_ (fun hn0 => ?_)
  · refine z_aload_n (pc := 28) hX dX11_status_28 rfl 0 rfl ?_
    refine gf_0_12C (pc := 29) hX q_247 dX11_status_29 ?_
    exact z_retI (pc := 32) hX dX11_status_32
  · refine z_tab1 (pc := 1) (tgt := 33) (v := 1) (off := 32) hX dX11_status_1 (by decide +kernel) (by decide +kernel) (by decide +kernel) rfl ?_ (fun hn1 => ?_)
    · refine z_aload_n (pc := 33) hX dX11_status_33 rfl 0 rfl ?_
      refine gf_0_13C (pc := 34) hX q_248 dX11_status_34 ?_
      exact z_retI (pc := 37) hX dX11_status_37
    · refine z_tab1 (pc := 1) (tgt := 38) (v := 2) (off := 37) hX dX11_status_1 (by decide +kernel) (by decide +kernel) (by decide +kernel) rfl ?_ (fun hn2 => ?_)
      · refine z_aload_n (pc := 38) hX dX11_status_38 rfl 0 rfl ?_
        refine gf_0_14C (pc := 39) hX q_249 dX11_status_39 ?_
        exact z_retI (pc := 42) hX dX11_status_42
      · refine z_tab0 (pc := 1) (tgt := 43) hX dX11_status_1 (sw_out [0, 1, 2] (List.forall_mem_cons.mpr ⟨hn0, List.forall_mem_cons.mpr ⟨hn1, List.forall_mem_cons.mpr ⟨hn2, fun _ h => absurd h List.not_mem_nil⟩⟩⟩) (by decide +kernel)) rfl ?_
        refine z_aload_n (pc := 43) hX dX11_status_43 rfl 0 rfl ?_
        refine z_rI (run_V (pc := 44) (As := []) hX rc_0 ⟨q_288, q_291, q_1⟩ q_290 qs_0 hd_X11_bad ⟨Nat.le_of_ble_eq_true rfl, Nat.le_of_ble_eq_true rfl⟩ (c_T_bad hG s) rfl rfl (Nat.le_of_ble_eq_true rfl) dX11_status_44) (fun r1 s2 => ?_)
        refine z_pop (pc := 47) hX dX11_status_47 rfl ?_
        refine z_iconst (pc := 48) hX dX11_status_48 ic_m1 ?_
        exact z_retI (pc := 49) hX dX11_status_49
theorem hd_X11_howMany : yX11_howMany.cls ≠ "java/lang/invoke/MethodHandle" ∧ yX11_howMany.cls ≠ "java/lang/invoke/VarHandle" ∧ (parseMethodDescriptor yX11_howMany.desc).map (fun d => d.parameters.length) = some 1 := by decide +kernel
def f_T_howMany (s : Sto) (x1 : Int32) : Option (Int32) :=
  if (x1 : Int32) = 0 then some (s 1 0 5) else if (x1 : Int32) = 1 then some (s 4 0 1) else if (x1 : Int32) = 2 then some (s 4 0 0) else if (x1 : Int32) = 3 then bP (f_J_bitCount (s 4 0 2)) (fun r1 => some r1) else if (x1 : Int32) = 4 then some (s 1 0 6) else if (x1 : Int32) = 5 then some (s 1 0 7) else some (s 5 0 1)
set_option maxRecDepth 100000 in
set_option maxHeartbeats 4000000 in
theorem c_T_howMany {G : Gb} {l : Launch} {o : Sto} {L : Lng} (hG : GA G) (s : Sto) (x1 : Int32)  : CT G l (EC o L) pvP (psP s) yX11_howMany cX11_howMany 2 (some .int) 1 20 [.ref (ad G 0 0), .int x1] s (f_T_howMany s x1) := by
  refine CT.of hG (by decide) (Nat.le_of_ble_eq_true rfl) (fun X hX => ?_)
  have hX : OX G X l cX11_howMany 2 "CrownTwo" (some .int) 1 20 := hX
  show ZR G X (EC o L) pvP (psP s) 2 s [(0, .ref (ad G 0 0)), (1, .int x1)] [] 0 _
  unfold f_T_howMany
  refine z_iload_n (pc := 0) hX dX11_howMany_0 rfl 1 rfl ?_
  refine z_tab1 (pc := 1) (tgt := 40) (v := 0) (off := 39) hX dX11_howMany_1 (by decide +kernel) (by decide +kernel) (by decide +kernel) rfl ?_ (fun hn0 => ?_)
  · refine z_aload_n (pc := 40) hX dX11_howMany_40 rfl 0 rfl ?_
    refine gr_0_0C (pc := 41) hX q_235 dX11_howMany_41 ?_
    refine gf_1_5C (pc := 44) hX v_1_0 q_211 dX11_howMany_44 ?_
    exact z_retP (pc := 47) hX dX11_howMany_47
  · refine z_tab1 (pc := 1) (tgt := 48) (v := 1) (off := 47) hX dX11_howMany_1 (by decide +kernel) (by decide +kernel) (by decide +kernel) rfl ?_ (fun hn1 => ?_)
    · refine z_aload_n (pc := 48) hX dX11_howMany_48 rfl 0 rfl ?_
      refine gr_0_0C (pc := 49) hX q_235 dX11_howMany_49 ?_
      refine gr_1_4C (pc := 52) hX v_1_0 q_208 dX11_howMany_52 ?_
      refine gf_4_1C (pc := 55) hX v_4_0 q_68 dX11_howMany_55 ?_
      exact z_retP (pc := 58) hX dX11_howMany_58
    · refine z_tab1 (pc := 1) (tgt := 59) (v := 2) (off := 58) hX dX11_howMany_1 (by decide +kernel) (by decide +kernel) (by decide +kernel) rfl ?_ (fun hn2 => ?_)
      · refine z_aload_n (pc := 59) hX dX11_howMany_59 rfl 0 rfl ?_
        refine gr_0_0C (pc := 60) hX q_235 dX11_howMany_60 ?_
        refine gr_1_4C (pc := 63) hX v_1_0 q_208 dX11_howMany_63 ?_
        refine gf_4_0C (pc := 66) hX v_4_0 q_65 dX11_howMany_66 ?_
        exact z_retP (pc := 69) hX dX11_howMany_69
      · refine z_tab1 (pc := 1) (tgt := 70) (v := 3) (off := 69) hX dX11_howMany_1 (by decide +kernel) (by decide +kernel) (by decide +kernel) rfl ?_ (fun hn3 => ?_)
        · refine z_aload_n (pc := 70) hX dX11_howMany_70 rfl 0 rfl ?_
          refine gr_0_0C (pc := 71) hX q_235 dX11_howMany_71 ?_
          refine gr_1_4C (pc := 74) hX v_1_0 q_208 dX11_howMany_74 ?_
          refine gf_4_2C (pc := 77) hX v_4_0 q_72 dX11_howMany_77 ?_
          refine z_rP (run_S (pc := 80) (As := [.int (s 4 0 2)]) hX ⟨q_717, q_719, q_20⟩ q_718 hd_J6_bitCount_0f7a4 ⟨Nat.le_of_ble_eq_true rfl, Nat.le_of_ble_eq_true rfl⟩ (c_J_bitCount hG s (s 4 0 2)) rfl rfl (Nat.le_of_ble_eq_true rfl) dX11_howMany_80) (fun r1 => ?_)
          exact z_retP (pc := 83) hX dX11_howMany_83
        · refine z_tab1 (pc := 1) (tgt := 84) (v := 4) (off := 83) hX dX11_howMany_1 (by decide +kernel) (by decide +kernel) (by decide +kernel) rfl ?_ (fun hn4 => ?_)
          · refine z_aload_n (pc := 84) hX dX11_howMany_84 rfl 0 rfl ?_
            refine gr_0_0C (pc := 85) hX q_235 dX11_howMany_85 ?_
            refine gf_1_6C (pc := 88) hX v_1_0 q_214 dX11_howMany_88 ?_
            exact z_retP (pc := 91) hX dX11_howMany_91
          · refine z_tab1 (pc := 1) (tgt := 92) (v := 5) (off := 91) hX dX11_howMany_1 (by decide +kernel) (by decide +kernel) (by decide +kernel) rfl ?_ (fun hn5 => ?_)
            · refine z_aload_n (pc := 92) hX dX11_howMany_92 rfl 0 rfl ?_
              refine gr_0_0C (pc := 93) hX q_235 dX11_howMany_93 ?_
              refine gf_1_7C (pc := 96) hX v_1_0 q_216 dX11_howMany_96 ?_
              exact z_retP (pc := 99) hX dX11_howMany_99
            · refine z_tab0 (pc := 1) (tgt := 100) hX dX11_howMany_1 (sw_out [0, 1, 2, 3, 4, 5] (List.forall_mem_cons.mpr ⟨hn0, List.forall_mem_cons.mpr ⟨hn1, List.forall_mem_cons.mpr ⟨hn2, List.forall_mem_cons.mpr ⟨hn3, List.forall_mem_cons.mpr ⟨hn4, List.forall_mem_cons.mpr ⟨hn5, fun _ h => absurd h List.not_mem_nil⟩⟩⟩⟩⟩⟩) (by decide +kernel)) rfl ?_
              refine z_aload_n (pc := 100) hX dX11_howMany_100 rfl 0 rfl ?_
              refine gr_0_4C (pc := 101) hX q_239 dX11_howMany_101 ?_
              refine gf_5_1C (pc := 104) hX q_37 dX11_howMany_104 ?_
              exact z_retP (pc := 107) hX dX11_howMany_107
theorem hd_X0_remember : yX0_remember.cls ≠ "java/lang/invoke/MethodHandle" ∧ yX0_remember.cls ≠ "java/lang/invoke/VarHandle" ∧ (parseMethodDescriptor yX0_remember.desc).map (fun d => d.parameters.length) = some 0 := by decide +kernel
def f_Co_remember (s : Sto) (i0 : Nat) : Option (Sto) :=
  jn (fun s1 => if inb (s1 1 i0 7) 8 then bV (f_Mo_become s1 (4 + 8 * i0 + ix (s1 1 i0 7)) i0) (fun s4 => lt (st s4 1 i0 7 ((s4 1 i0 7) + 1)) (fun s5 => some s5)) else none) (fun j2 => if (s 1 i0 7 : Int32) < 8 then j2 s else bV (f_Co_forgetOldest s i0) (fun s6 => j2 s6))
set_option maxRecDepth 100000 in
set_option maxHeartbeats 4000000 in
theorem c_Co_remember {G : Gb} {l : Launch} {o : Sto} {L : Lng} (hG : GA G) (s : Sto) (i0 : Nat) (h0 : V 1 i0) : CT G l (EC o L) pvV psV yX0_remember cX0_remember 1 none 2 42 [.ref (ad G 1 i0)] s (f_Co_remember s i0) := by
  refine CT.of hG (by decide) (Nat.le_of_ble_eq_true rfl) (fun X hX => ?_)
  have hX : OX G X l cX0_remember 1 "CrownTwo$Court" none 2 42 := hX
  show ZR G X (EC o L) pvV psV 1 s [(0, .ref (ad G 1 i0))] [] 0 _
  unfold f_Co_remember
  refine z_aload_n (pc := 0) hX dX0_remember_0 rfl 0 rfl ?_
  refine gf_1_7C (pc := 1) hX h0 q_215 dX0_remember_1 ?_
  refine z_bipush (pc := 4) hX dX0_remember_4 bp_8 ?_
  refine z_jn (P := fun j2 => ∀ (s1 : Sto), ZR G X (EC o L) pvV psV 1 s1 [(0, .ref (ad G 1 i0))] [] 13 (j2 s1)) ?_ ?_
  · intro s1
    refine z_aload_n (pc := 13) hX dX0_remember_13 rfl 0 rfl ?_
    refine gr_1_3C (pc := 14) hX h0 q_206 dX0_remember_14 ?_
    refine z_aload_n (pc := 17) hX dX0_remember_17 rfl 0 rfl ?_
    refine gf_1_7C (pc := 18) hX h0 q_215 dX0_remember_18 ?_
    refine aa_10C (pc := 21) hX (vr_1_10 h0) dX0_remember_21 (fun hv3 => ?_)
    refine z_aload_n (pc := 22) hX dX0_remember_22 rfl 0 rfl ?_
    refine gr_1_4C (pc := 23) hX h0 q_207 dX0_remember_23 ?_
    refine z_rV (run_V (pc := 26) (As := [.ref (ad G 4 i0)]) hX (rc_4 hv3) ⟨q_439, q_442, q_3⟩ q_440 q_441 hd_X5_become ⟨Nat.le_of_ble_eq_true rfl, Nat.le_of_ble_eq_true rfl⟩ (c_Mo_become hG s1 (4 + 8 * i0 + ix (s1 1 i0 7)) i0 hv3 (vr_1_4 h0)) rfl rfl (Nat.le_of_ble_eq_true rfl) dX0_remember_26) (fun s4 => ?_)
    refine z_aload_n (pc := 29) hX dX0_remember_29 rfl 0 rfl ?_
    refine z_dup (pc := 30) hX dX0_remember_30 rfl ?_
    refine gf_1_7C (pc := 31) hX h0 q_215 dX0_remember_31 ?_
    refine z_iconst (pc := 34) hX dX0_remember_34 ic_1 ?_
    refine z_iadd (pc := 35) hX dX0_remember_35 ?_
    refine pf_1_7C (pc := 36) hX h0 q_215 dX0_remember_36 ?_
    refine z_lts (fun s5 => ?_)
    exact z_retV (pc := 39) hX dX0_remember_39
  · intro j2 hj2
    refine z_icmp_lt (pc := 6) (tgt := 13) hX dX0_remember_6 rfl ?_ ?_
    · exact z_ls [0] rfl (hj2 s)
    · refine z_aload_n (pc := 9) hX dX0_remember_9 rfl 0 rfl ?_
      refine z_rV (run_V (pc := 10) (As := []) hX (rc_1 h0) ⟨q_473, q_476, q_10⟩ q_475 qs_12 hd_X0_forgetOldest ⟨Nat.le_of_ble_eq_true rfl, Nat.le_of_ble_eq_true rfl⟩ (c_Co_forgetOldest hG s i0 h0) rfl rfl (Nat.le_of_ble_eq_true rfl) dX0_remember_10) (fun s6 => ?_)
      exact z_ls [0] rfl (hj2 s6)
theorem hd_X1_takeNumber : yX1_takeNumber.cls ≠ "java/lang/invoke/MethodHandle" ∧ yX1_takeNumber.cls ≠ "java/lang/invoke/VarHandle" ∧ (parseMethodDescriptor yX1_takeNumber.desc).map (fun d => d.parameters.length) = some 2 := by decide +kernel
def f_Tx_takeNumber (s : Sto) (x1 : Int32) (x2 : Int32) : Option (Int32 × Sto) :=
  if (s 5 0 4 : Int32) = 2 then if (x1 : Int32) < (s 5 0 5) then some ((-1), s) else if (s 5 0 5 : Int32) = x2 then some ((-1), s) else lt ((s 5 0 5 : Int32)) (fun v3_1 => bV (f_Tx_advance s) (fun s2 => some (v3_1, s2))) else some ((-1), s)
set_option maxRecDepth 100000 in
set_option maxHeartbeats 4000000 in
theorem c_Tx_takeNumber {G : Gb} {l : Launch} {o : Sto} {L : Lng} (hG : GA G) (s : Sto) (x1 : Int32) (x2 : Int32)  : CT G l (EC o L) pvI psI yX1_takeNumber cX1_takeNumber 4 (some .int) 2 42 [.ref (ad G 5 0), .int x1, .int x2] s (f_Tx_takeNumber s x1 x2) := by
  refine CT.of hG (by decide) (Nat.le_of_ble_eq_true rfl) (fun X hX => ?_)
  have hX : OX G X l cX1_takeNumber 4 "CrownTwo$CourtText" (some .int) 2 42 := hX
  show ZR G X (EC o L) pvI psI 4 s [(0, .ref (ad G 5 0)), (1, .int x1), (2, .int x2)] [] 0 _
  unfold f_Tx_takeNumber
  refine z_aload_n (pc := 0) hX dX1_takeNumber_0 rfl 0 rfl ?_
  refine gf_5_4C (pc := 1) hX q_41 dX1_takeNumber_1 ?_
  refine z_iconst (pc := 4) hX dX1_takeNumber_4 ic_2 ?_
  refine z_icmp_ne (pc := 5) (tgt := 24) hX dX1_takeNumber_5 rfl ?_ ?_
  · refine z_iconst (pc := 24) hX dX1_takeNumber_24 ic_m1 ?_
    exact z_retI (pc := 25) hX dX1_takeNumber_25
  · refine z_aload_n (pc := 8) hX dX1_takeNumber_8 rfl 0 rfl ?_
    refine gf_5_5C (pc := 9) hX q_42 dX1_takeNumber_9 ?_
    refine z_iload_n (pc := 12) hX dX1_takeNumber_12 rfl 1 rfl ?_
    refine z_icmp_gt (pc := 13) (tgt := 24) hX dX1_takeNumber_13 rfl ?_ ?_
    · refine z_iconst (pc := 24) hX dX1_takeNumber_24 ic_m1 ?_
      exact z_retI (pc := 25) hX dX1_takeNumber_25
    · refine z_aload_n (pc := 16) hX dX1_takeNumber_16 rfl 0 rfl ?_
      refine gf_5_5C (pc := 17) hX q_42 dX1_takeNumber_17 ?_
      refine z_iload_n (pc := 20) hX dX1_takeNumber_20 rfl 2 rfl ?_
      refine z_icmp_ne (pc := 21) (tgt := 26) hX dX1_takeNumber_21 rfl ?_ ?_
      · refine z_aload_n (pc := 26) hX dX1_takeNumber_26 rfl 0 rfl ?_
        refine gf_5_5C (pc := 27) hX q_42 dX1_takeNumber_27 ?_
        refine z_lti (pc := 30) (fun v3_1 => ?_)
        refine z_istore_n (pc := 30) (ls' := [(3, .int v3_1), (0, .ref (ad G 5 0)), (1, .int x1), (2, .int x2)]) hX dX1_takeNumber_30 rfl (by decide) rfl ?_
        refine z_aload_n (pc := 31) hX dX1_takeNumber_31 rfl 1 rfl ?_
        refine z_rV (run_V (pc := 32) (As := []) hX rc_5 ⟨q_337, q_340, q_2⟩ q_339 qs_2 hd_X1_advance ⟨Nat.le_of_ble_eq_true rfl, Nat.le_of_ble_eq_true rfl⟩ (c_Tx_advance hG s) rfl rfl (Nat.le_of_ble_eq_true rfl) dX1_takeNumber_32) (fun s2 => ?_)
        refine z_iload_n (pc := 35) hX dX1_takeNumber_35 rfl 0 rfl ?_
        exact z_retI (pc := 36) hX dX1_takeNumber_36
      · refine z_iconst (pc := 24) hX dX1_takeNumber_24 ic_m1 ?_
        exact z_retI (pc := 25) hX dX1_takeNumber_25
theorem hd_X1_takeEnding : yX1_takeEnding.cls ≠ "java/lang/invoke/MethodHandle" ∧ yX1_takeEnding.cls ≠ "java/lang/invoke/VarHandle" ∧ (parseMethodDescriptor yX1_takeEnding.desc).map (fun d => d.parameters.length) = some 0 := by decide +kernel
def f_Tx_takeEnding (s : Sto)  : Option (Int32 × Sto) :=
  if (s 5 0 4 : Int32) = 3 then bV (f_Tx_advance s) (fun s1 => some (1, s1)) else some (0, s)
set_option maxRecDepth 100000 in
set_option maxHeartbeats 4000000 in
theorem c_Tx_takeEnding {G : Gb} {l : Launch} {o : Sto} {L : Lng} (hG : GA G) (s : Sto)   : CT G l (EC o L) pvI psI yX1_takeEnding cX1_takeEnding 1 (some .boolean) 2 42 [.ref (ad G 5 0)] s (f_Tx_takeEnding s) := by
  refine CT.of hG (by decide) (Nat.le_of_ble_eq_true rfl) (fun X hX => ?_)
  have hX : OX G X l cX1_takeEnding 1 "CrownTwo$CourtText" (some .boolean) 2 42 := hX
  show ZR G X (EC o L) pvI psI 1 s [(0, .ref (ad G 5 0))] [] 0 _
  unfold f_Tx_takeEnding
  refine z_aload_n (pc := 0) hX dX1_takeEnding_0 rfl 0 rfl ?_
  refine gf_5_4C (pc := 1) hX q_41 dX1_takeEnding_1 ?_
  refine z_iconst (pc := 4) hX dX1_takeEnding_4 ic_3 ?_
  refine z_icmp_eq (pc := 5) (tgt := 10) hX dX1_takeEnding_5 rfl ?_ ?_
  · refine z_aload_n (pc := 10) hX dX1_takeEnding_10 rfl 0 rfl ?_
    refine z_rV (run_V (pc := 11) (As := []) hX rc_5 ⟨q_337, q_340, q_2⟩ q_339 qs_2 hd_X1_advance ⟨Nat.le_of_ble_eq_true rfl, Nat.le_of_ble_eq_true rfl⟩ (c_Tx_advance hG s) rfl rfl (Nat.le_of_ble_eq_true rfl) dX1_takeEnding_11) (fun s1 => ?_)
    refine z_iconst (pc := 14) hX dX1_takeEnding_14 ic_1 ?_
    exact z_retIc (pc := 15) hX dX1_takeEnding_15 (by decide)
  · refine z_iconst (pc := 8) hX dX1_takeEnding_8 ic_0 ?_
    exact z_retIc (pc := 9) hX dX1_takeEnding_9 (by decide)
theorem hd_X11_pair : yX11_pair.cls ≠ "java/lang/invoke/MethodHandle" ∧ yX11_pair.cls ≠ "java/lang/invoke/VarHandle" ∧ (parseMethodDescriptor yX11_pair.desc).map (fun d => d.parameters.length) = some 2 := by decide +kernel
def f_T_pair (s : Sto) (x1 : Int32) (x2 : Int32) : Option (Int32 × Sto) :=
  bP (f_Co_hasTwo s 0 x1 x2) (fun r1 => if (r1 : Int32) = 0 then bI (f_T_bad s) (fun r5 s6 => some (r5, s6)) else bV (f_Co_remember s 0) (fun s2 => lt (st s2 4 0 3 x1) (fun s3 => lt (st s3 4 0 4 x2) (fun s4 => some (1, s4)))))
set_option maxRecDepth 100000 in
set_option maxHeartbeats 4000000 in
theorem c_T_pair {G : Gb} {l : Launch} {o : Sto} {L : Lng} (hG : GA G) (s : Sto) (x1 : Int32) (x2 : Int32)  : CT G l (EC o L) pvI psI yX11_pair cX11_pair 3 (some .int) 3 62 [.ref (ad G 0 0), .int x1, .int x2] s (f_T_pair s x1 x2) := by
  refine CT.of hG (by decide) (Nat.le_of_ble_eq_true rfl) (fun X hX => ?_)
  have hX : OX G X l cX11_pair 3 "CrownTwo" (some .int) 3 62 := hX
  show ZR G X (EC o L) pvI psI 3 s [(0, .ref (ad G 0 0)), (1, .int x1), (2, .int x2)] [] 0 _
  unfold f_T_pair
  refine z_aload_n (pc := 0) hX dX11_pair_0 rfl 0 rfl ?_
  refine gr_0_0C (pc := 1) hX q_235 dX11_pair_1 ?_
  refine z_iload_n (pc := 4) hX dX11_pair_4 rfl 1 rfl ?_
  refine z_iload_n (pc := 5) hX dX11_pair_5 rfl 2 rfl ?_
  refine z_rP (run_V (pc := 6) (As := [.int x1, .int x2]) hX (rc_1 v_1_0) ⟨q_461, q_464, q_10⟩ q_462 q_463 hd_X0_hasTwo ⟨Nat.le_of_ble_eq_true rfl, Nat.le_of_ble_eq_true rfl⟩ (c_Co_hasTwo hG s 0 x1 x2 v_1_0) rfl rfl (Nat.le_of_ble_eq_true rfl) dX11_pair_6) (fun r1 => ?_)
  refine z_if_ne (pc := 9) (tgt := 17) hX dX11_pair_9 rfl ?_ ?_
  · refine z_aload_n (pc := 17) hX dX11_pair_17 rfl 0 rfl ?_
    refine gr_0_0C (pc := 18) hX q_235 dX11_pair_18 ?_
    refine z_rV (run_V (pc := 21) (As := []) hX (rc_1 v_1_0) ⟨q_469, q_472, q_10⟩ q_470 q_471 hd_X0_remember ⟨Nat.le_of_ble_eq_true rfl, Nat.le_of_ble_eq_true rfl⟩ (c_Co_remember hG s 0 v_1_0) rfl rfl (Nat.le_of_ble_eq_true rfl) dX11_pair_21) (fun s2 => ?_)
    refine z_aload_n (pc := 24) hX dX11_pair_24 rfl 0 rfl ?_
    refine gr_0_0C (pc := 25) hX q_235 dX11_pair_25 ?_
    refine gr_1_4C (pc := 28) hX v_1_0 q_208 dX11_pair_28 ?_
    refine z_iload_n (pc := 31) hX dX11_pair_31 rfl 1 rfl ?_
    refine pf_4_3C (pc := 32) hX v_4_0 q_74 dX11_pair_32 ?_
    refine z_lts (fun s3 => ?_)
    refine z_aload_n (pc := 35) hX dX11_pair_35 rfl 0 rfl ?_
    refine gr_0_0C (pc := 36) hX q_235 dX11_pair_36 ?_
    refine gr_1_4C (pc := 39) hX v_1_0 q_208 dX11_pair_39 ?_
    refine z_iload_n (pc := 42) hX dX11_pair_42 rfl 2 rfl ?_
    refine pf_4_4C (pc := 43) hX v_4_0 q_78 dX11_pair_43 ?_
    refine z_lts (fun s4 => ?_)
    refine z_iconst (pc := 46) hX dX11_pair_46 ic_1 ?_
    exact z_retI (pc := 47) hX dX11_pair_47
  · refine z_aload_n (pc := 12) hX dX11_pair_12 rfl 0 rfl ?_
    refine z_rI (run_V (pc := 13) (As := []) hX rc_0 ⟨q_288, q_291, q_1⟩ q_290 qs_0 hd_X11_bad ⟨Nat.le_of_ble_eq_true rfl, Nat.le_of_ble_eq_true rfl⟩ (c_T_bad hG s) rfl rfl (Nat.le_of_ble_eq_true rfl) dX11_pair_13) (fun r5 s6 => ?_)
    exact z_retI (pc := 16) hX dX11_pair_16
theorem hd_X11_feed : yX11_feed.cls ≠ "java/lang/invoke/MethodHandle" ∧ yX11_feed.cls ≠ "java/lang/invoke/VarHandle" ∧ (parseMethodDescriptor yX11_feed.desc).map (fun d => d.parameters.length) = some 1 := by decide +kernel
def f_T_feed (s : Sto) (x1 : Int32) : Option (Int32 × Sto) :=
  bP (f_T_outside x1 1 20) (fun r1 => if (r1 : Int32) = 0 then bV (f_Co_remember s 0) (fun s2 => bV (f_Mo_warm s2 0 x1) (fun s3 => some (s3 4 0 0, s3))) else bI (f_T_bad s) (fun r4 s5 => some (r4, s5)))
set_option maxRecDepth 100000 in
set_option maxHeartbeats 4000000 in
theorem c_T_feed {G : Gb} {l : Launch} {o : Sto} {L : Lng} (hG : GA G) (s : Sto) (x1 : Int32)  : CT G l (EC o L) pvI psI yX11_feed cX11_feed 2 (some .int) 3 62 [.ref (ad G 0 0), .int x1] s (f_T_feed s x1) := by
  refine CT.of hG (by decide) (Nat.le_of_ble_eq_true rfl) (fun X hX => ?_)
  have hX : OX G X l cX11_feed 2 "CrownTwo" (some .int) 3 62 := hX
  show ZR G X (EC o L) pvI psI 2 s [(0, .ref (ad G 0 0)), (1, .int x1)] [] 0 _
  unfold f_T_feed
  refine z_iload_n (pc := 0) hX dX11_feed_0 rfl 1 rfl ?_
  refine z_iconst (pc := 1) hX dX11_feed_1 ic_1 ?_
  refine z_bipush (pc := 2) hX dX11_feed_2 bp_20 ?_
  refine z_rP (run_S (pc := 4) (As := [.int x1, .int 1, .int 20]) hX ⟨q_285, q_287, q_1⟩ q_286 hd_X11_outside ⟨Nat.le_of_ble_eq_true rfl, Nat.le_of_ble_eq_true rfl⟩ (c_T_outside hG s x1 1 20) rfl rfl (Nat.le_of_ble_eq_true rfl) dX11_feed_4) (fun r1 => ?_)
  refine z_if_eq (pc := 7) (tgt := 15) hX dX11_feed_7 rfl ?_ ?_
  · refine z_aload_n (pc := 15) hX dX11_feed_15 rfl 0 rfl ?_
    refine gr_0_0C (pc := 16) hX q_235 dX11_feed_16 ?_
    refine z_rV (run_V (pc := 19) (As := []) hX (rc_1 v_1_0) ⟨q_469, q_472, q_10⟩ q_470 q_471 hd_X0_remember ⟨Nat.le_of_ble_eq_true rfl, Nat.le_of_ble_eq_true rfl⟩ (c_Co_remember hG s 0 v_1_0) rfl rfl (Nat.le_of_ble_eq_true rfl) dX11_feed_19) (fun s2 => ?_)
    refine z_aload_n (pc := 22) hX dX11_feed_22 rfl 0 rfl ?_
    refine gr_0_0C (pc := 23) hX q_235 dX11_feed_23 ?_
    refine gr_1_4C (pc := 26) hX v_1_0 q_208 dX11_feed_26 ?_
    refine z_iload_n (pc := 29) hX dX11_feed_29 rfl 1 rfl ?_
    refine z_rV (run_V (pc := 30) (As := [.int x1]) hX (rc_4 v_4_0) ⟨q_593, q_539, q_3⟩ q_537 q_538 hd_X5_warm ⟨Nat.le_of_ble_eq_true rfl, Nat.le_of_ble_eq_true rfl⟩ (c_Mo_warm hG s2 0 x1 v_4_0) rfl rfl (Nat.le_of_ble_eq_true rfl) dX11_feed_30) (fun s3 => ?_)
    refine z_aload_n (pc := 33) hX dX11_feed_33 rfl 0 rfl ?_
    refine gr_0_0C (pc := 34) hX q_235 dX11_feed_34 ?_
    refine gr_1_4C (pc := 37) hX v_1_0 q_208 dX11_feed_37 ?_
    refine gf_4_0C (pc := 40) hX v_4_0 q_65 dX11_feed_40 ?_
    exact z_retI (pc := 43) hX dX11_feed_43
  · refine z_aload_n (pc := 10) hX dX11_feed_10 rfl 0 rfl ?_
    refine z_rI (run_V (pc := 11) (As := []) hX rc_0 ⟨q_288, q_291, q_1⟩ q_290 qs_0 hd_X11_bad ⟨Nat.le_of_ble_eq_true rfl, Nat.le_of_ble_eq_true rfl⟩ (c_T_bad hG s) rfl rfl (Nat.le_of_ble_eq_true rfl) dX11_feed_11) (fun r4 s5 => ?_)
    exact z_retI (pc := 14) hX dX11_feed_14
theorem hd_X11_count : yX11_count.cls ≠ "java/lang/invoke/MethodHandle" ∧ yX11_count.cls ≠ "java/lang/invoke/VarHandle" ∧ (parseMethodDescriptor yX11_count.desc).map (fun d => d.parameters.length) = some 1 := by decide +kernel
def f_T_count (s : Sto) (x1 : Int32) : Option (Int32 × Sto) :=
  bP (f_T_outside x1 0 6) (fun r1 => if (r1 : Int32) = 0 then bP (f_T_howMany s x1) (fun r2 => some (r2, s)) else bI (f_T_bad s) (fun r3 s4 => some (r3, s4)))
set_option maxRecDepth 100000 in
set_option maxHeartbeats 4000000 in
theorem c_T_count {G : Gb} {l : Launch} {o : Sto} {L : Lng} (hG : GA G) (s : Sto) (x1 : Int32)  : CT G l (EC o L) pvI psI yX11_count cX11_count 2 (some .int) 2 41 [.ref (ad G 0 0), .int x1] s (f_T_count s x1) := by
  refine CT.of hG (by decide) (Nat.le_of_ble_eq_true rfl) (fun X hX => ?_)
  have hX : OX G X l cX11_count 2 "CrownTwo" (some .int) 2 41 := hX
  show ZR G X (EC o L) pvI psI 2 s [(0, .ref (ad G 0 0)), (1, .int x1)] [] 0 _
  unfold f_T_count
  refine z_iload_n (pc := 0) hX dX11_count_0 rfl 1 rfl ?_
  refine z_iconst (pc := 1) hX dX11_count_1 ic_0 ?_
  refine z_bipush (pc := 2) hX dX11_count_2 bp_6 ?_
  refine z_rP (run_S (pc := 4) (As := [.int x1, .int 0, .int 6]) hX ⟨q_285, q_287, q_1⟩ q_286 hd_X11_outside ⟨Nat.le_of_ble_eq_true rfl, Nat.le_of_ble_eq_true rfl⟩ (c_T_outside hG s x1 0 6) rfl rfl (Nat.le_of_ble_eq_true rfl) dX11_count_4) (fun r1 => ?_)
  refine z_if_eq (pc := 7) (tgt := 15) hX dX11_count_7 rfl ?_ ?_
  · refine z_aload_n (pc := 15) hX dX11_count_15 rfl 0 rfl ?_
    refine z_iload_n (pc := 16) hX dX11_count_16 rfl 1 rfl ?_
    refine z_rP (run_V (pc := 17) (As := [.int x1]) hX rc_0 ⟨q_775, q_778, q_1⟩ q_777 qs_22 hd_X11_howMany ⟨Nat.le_of_ble_eq_true rfl, Nat.le_of_ble_eq_true rfl⟩ (c_T_howMany hG s x1) rfl rfl (Nat.le_of_ble_eq_true rfl) dX11_count_17) (fun r2 => ?_)
    exact z_retI (pc := 20) hX dX11_count_20
  · refine z_aload_n (pc := 10) hX dX11_count_10 rfl 0 rfl ?_
    refine z_rI (run_V (pc := 11) (As := []) hX rc_0 ⟨q_288, q_291, q_1⟩ q_290 qs_0 hd_X11_bad ⟨Nat.le_of_ble_eq_true rfl, Nat.le_of_ble_eq_true rfl⟩ (c_T_bad hG s) rfl rfl (Nat.le_of_ble_eq_true rfl) dX11_count_11) (fun r3 s4 => ?_)
    exact z_retI (pc := 14) hX dX11_count_14
theorem hd_X11_digest : yX11_digest.cls ≠ "java/lang/invoke/MethodHandle" ∧ yX11_digest.cls ≠ "java/lang/invoke/VarHandle" ∧ (parseMethodDescriptor yX11_digest.desc).map (fun d => d.parameters.length) = some 0 := by decide +kernel
def l_T_digest_120 (s : Sto) (K9 : Int64 → Option (Int64)) (rc13 : Int64 → Int32 → Option (Int64)) (v1_11 : Int64) (v3_12 : Int32) : Option (Int64) :=
  if (s 1 0 6 : Int32) ≤ v3_12 then K9 v1_11 else if inb v3_12 6 then bL (f_No_addTo s (6 * 0 + ix v3_12) v1_11) (fun r15 => rc13 r15 (v3_12 + 1)) else none
def l_T_digest_87 (s : Sto) (K7 : Int64 → Option (Int64)) (rc18 : Int64 → Int32 → Option (Int64)) (v1_16 : Int64) (v3_17 : Int32) : Option (Int64) :=
  if (s 1 0 5 : Int32) ≤ v3_17 then K7 v1_16 else if inb v3_17 6 then bL (f_He_addTo s (6 * 0 + ix v3_17) v1_16) (fun r20 => rc18 r20 (v3_17 + 1)) else none
def l_T_digest_6 (s : Sto) (K2 : Int64 → Option (Int64)) (rc23 : Int64 → Int32 → Option (Int64)) (v1_21 : Int64) (v3_22 : Int32) : Option (Int64) :=
  if (6 : Int32) < v3_22 then K2 v1_21 else bP (f_T_howMany s v3_22) (fun r24 => lt (((31 * v1_21) + (Int32.toInt64 r24) : Int64)) (fun v1_25 => rc23 v1_25 (v3_22 + 1)))
def f_T_digest (s : Sto)  : Option (Int64) :=
  jn (fun v1_1 => lt (((31 * v1_1) + (Int32.toInt64 (s 4 0 2)) : Int64)) (fun v1_3 => lt (((31 * v1_3) + (Int32.toInt64 (s 4 0 3)) : Int64)) (fun v1_4 => lt (((31 * v1_4) + (Int32.toInt64 (s 4 0 4)) : Int64)) (fun v1_5 => jn (fun v1_6 => jn (fun v1_8 => lt (((31 * v1_8) + (Int32.toInt64 (s 0 0 10)) : Int64)) (fun v1_10 => some ((31 * v1_10) + (Int32.toInt64 (s 0 0 11))))) (fun K9 => fx 1000 (l_T_digest_120 s K9) (fun _ _ => none) v1_6 0)) (fun K7 => fx 1000 (l_T_digest_87 s K7) (fun _ _ => none) v1_5 0))))) (fun K2 => fx 1000 (l_T_digest_6 s K2) (fun _ _ => none) 1249 0)
set_option maxRecDepth 100000 in
set_option maxHeartbeats 4000000 in
theorem c_T_digest {G : Gb} {l : Launch} {o : Sto} {L : Lng} (hG : GA G) (s : Sto)   : CT G l (EC o L) pvL (psP s) yX11_digest cX11_digest 4 (some .long) 2 41 [.ref (ad G 0 0)] s (f_T_digest s) := by
  refine CT.of hG (by decide) (Nat.le_of_ble_eq_true rfl) (fun X hX => ?_)
  have hX : OX G X l cX11_digest 4 "CrownTwo" (some .long) 2 41 := hX
  show ZR G X (EC o L) pvL (psP s) 4 s [(0, .ref (ad G 0 0))] [] 0 _
  unfold f_T_digest
  refine z_ldc2 (pc := 0) hX q_783 dX11_digest_0 ?_
  refine z_lstore_n (pc := 3) (ls' := [(1, .long 1249), (0, .ref (ad G 0 0))]) hX dX11_digest_3 rfl (by decide) rfl ?_
  refine z_iconst (pc := 4) hX dX11_digest_4 ic_0 ?_
  refine z_istore_n (pc := 5) (ls' := [(3, .int 0), (1, .long 1249), (0, .ref (ad G 0 0))]) hX dX11_digest_5 rfl (by decide) rfl ?_
  refine z_jn (P := fun K2 => ∀ (v1_1 : Int64), ZR G X (EC o L) pvL (psP s) 4 s [(0, .ref (ad G 0 0)), (1, .long v1_1)] [] 31 (K2 v1_1)) ?_ ?_
  · intro v1_1
    refine z_ldc2 (pc := 31) hX q_784 dX11_digest_31 ?_
    refine z_lload_n (pc := 34) hX dX11_digest_34 rfl 1 rfl ?_
    refine z_lmul (pc := 35) hX dX11_digest_35 ?_
    refine z_aload_n (pc := 36) hX dX11_digest_36 rfl 0 rfl ?_
    refine gr_0_0C (pc := 37) hX q_235 dX11_digest_37 ?_
    refine gr_1_4C (pc := 40) hX v_1_0 q_208 dX11_digest_40 ?_
    refine gf_4_2C (pc := 43) hX v_4_0 q_72 dX11_digest_43 ?_
    refine z_i2l (pc := 46) hX dX11_digest_46 ?_
    refine z_ladd (pc := 47) hX dX11_digest_47 ?_
    refine z_ltl (pc := 48) (fun v1_3 => ?_)
    refine z_lstore_n (pc := 48) (ls' := [(1, .long v1_3), (0, .ref (ad G 0 0))]) hX dX11_digest_48 rfl (by decide) rfl ?_
    refine z_ldc2 (pc := 49) hX q_784 dX11_digest_49 ?_
    refine z_lload_n (pc := 52) hX dX11_digest_52 rfl 0 rfl ?_
    refine z_lmul (pc := 53) hX dX11_digest_53 ?_
    refine z_aload_n (pc := 54) hX dX11_digest_54 rfl 1 rfl ?_
    refine gr_0_0C (pc := 55) hX q_235 dX11_digest_55 ?_
    refine gr_1_4C (pc := 58) hX v_1_0 q_208 dX11_digest_58 ?_
    refine gf_4_3C (pc := 61) hX v_4_0 q_74 dX11_digest_61 ?_
    refine z_i2l (pc := 64) hX dX11_digest_64 ?_
    refine z_ladd (pc := 65) hX dX11_digest_65 ?_
    refine z_ltl (pc := 66) (fun v1_4 => ?_)
    refine z_lstore_n (pc := 66) (ls' := [(1, .long v1_4), (0, .ref (ad G 0 0))]) hX dX11_digest_66 rfl (by decide) rfl ?_
    refine z_ldc2 (pc := 67) hX q_784 dX11_digest_67 ?_
    refine z_lload_n (pc := 70) hX dX11_digest_70 rfl 0 rfl ?_
    refine z_lmul (pc := 71) hX dX11_digest_71 ?_
    refine z_aload_n (pc := 72) hX dX11_digest_72 rfl 1 rfl ?_
    refine gr_0_0C (pc := 73) hX q_235 dX11_digest_73 ?_
    refine gr_1_4C (pc := 76) hX v_1_0 q_208 dX11_digest_76 ?_
    refine gf_4_4C (pc := 79) hX v_4_0 q_78 dX11_digest_79 ?_
    refine z_i2l (pc := 82) hX dX11_digest_82 ?_
    refine z_ladd (pc := 83) hX dX11_digest_83 ?_
    refine z_ltl (pc := 84) (fun v1_5 => ?_)
    refine z_lstore_n (pc := 84) (ls' := [(1, .long v1_5), (0, .ref (ad G 0 0))]) hX dX11_digest_84 rfl (by decide) rfl ?_
    refine z_iconst (pc := 85) hX dX11_digest_85 ic_0 ?_
    refine z_istore_n (pc := 86) (ls' := [(3, .int 0), (1, .long v1_5), (0, .ref (ad G 0 0))]) hX dX11_digest_86 rfl (by decide) rfl ?_
    refine z_jn (P := fun K7 => ∀ (v1_6 : Int64), ZR G X (EC o L) pvL (psP s) 4 s [(0, .ref (ad G 0 0)), (1, .long v1_6)] [] 118 (K7 v1_6)) ?_ ?_
    · intro v1_6
      refine z_iconst (pc := 118) hX dX11_digest_118 ic_0 ?_
      refine z_istore_n (pc := 119) (ls' := [(3, .int 0), (0, .ref (ad G 0 0)), (1, .long v1_6)]) hX dX11_digest_119 rfl (by decide) rfl ?_
      refine z_jn (P := fun K9 => ∀ (v1_8 : Int64), ZR G X (EC o L) pvL (psP s) 4 s [(0, .ref (ad G 0 0)), (1, .long v1_8)] [] 151 (K9 v1_8)) ?_ ?_
      · intro v1_8
        refine z_ldc2 (pc := 151) hX q_784 dX11_digest_151 ?_
        refine z_lload_n (pc := 154) hX dX11_digest_154 rfl 1 rfl ?_
        refine z_lmul (pc := 155) hX dX11_digest_155 ?_
        refine z_aload_n (pc := 156) hX dX11_digest_156 rfl 0 rfl ?_
        refine gf_0_10C (pc := 157) hX q_245 dX11_digest_157 ?_
        refine z_i2l (pc := 160) hX dX11_digest_160 ?_
        refine z_ladd (pc := 161) hX dX11_digest_161 ?_
        refine z_ltl (pc := 162) (fun v1_10 => ?_)
        refine z_lstore_n (pc := 162) (ls' := [(1, .long v1_10), (0, .ref (ad G 0 0))]) hX dX11_digest_162 rfl (by decide) rfl ?_
        refine z_ldc2 (pc := 163) hX q_784 dX11_digest_163 ?_
        refine z_lload_n (pc := 166) hX dX11_digest_166 rfl 0 rfl ?_
        refine z_lmul (pc := 167) hX dX11_digest_167 ?_
        refine z_aload_n (pc := 168) hX dX11_digest_168 rfl 1 rfl ?_
        refine gf_0_11C (pc := 169) hX q_246 dX11_digest_169 ?_
        refine z_i2l (pc := 172) hX dX11_digest_172 ?_
        refine z_ladd (pc := 173) hX dX11_digest_173 ?_
        exact z_retL (pc := 174) hX dX11_digest_174
      · intro K9 hK9
        refine z_ls [1, 2, 0] rfl ?_
        refine (fx_P (F := l_T_digest_120 s K9) (b := (fun _ _ => none)) (fun rc13 => ∀ (v1_11 : Int64) (v3_12 : Int32), ZR G X (EC o L) pvL (psP s) 4 s [(0, .ref (ad G 0 0)), (1, .long v1_11), (3, .int v3_12)] [] 120 (rc13 v1_11 v3_12)) ?_ ?_ 1000) v1_6 0
        · intro v1_11 v3_12; exact z_none
        · intro rc13 hrc13 v1_11 v3_12
          unfold l_T_digest_120
          refine z_iload_n (pc := 120) hX dX11_digest_120 rfl 2 rfl ?_
          refine z_aload_n (pc := 121) hX dX11_digest_121 rfl 0 rfl ?_
          refine gr_0_0C (pc := 122) hX q_235 dX11_digest_122 ?_
          refine gf_1_6C (pc := 125) hX v_1_0 q_214 dX11_digest_125 ?_
          refine z_icmp_ge (pc := 128) (tgt := 151) hX dX11_digest_128 rfl ?_ ?_
          · exact z_ls [0, 1] rfl (hK9 v1_11)
          · refine z_aload_n (pc := 131) hX dX11_digest_131 rfl 0 rfl ?_
            refine gr_0_0C (pc := 132) hX q_235 dX11_digest_132 ?_
            refine gr_1_2C (pc := 135) hX v_1_0 q_205 dX11_digest_135 ?_
            refine z_iload_n (pc := 138) hX dX11_digest_138 rfl 2 rfl ?_
            refine aa_9C (pc := 139) hX v_9_0 dX11_digest_139 (fun hv14 => ?_)
            refine z_lload_n (pc := 140) hX dX11_digest_140 rfl 1 rfl ?_
            refine z_rL (run_V (pc := 141) (As := [.long v1_11]) hX (rc_3 hv14) ⟨q_790, q_793, q_12⟩ q_791 q_792 hd_X6_addTo ⟨Nat.le_of_ble_eq_true rfl, Nat.le_of_ble_eq_true rfl⟩ (c_No_addTo hG s (6 * 0 + ix v3_12) v1_11 hv14) rfl rfl (Nat.le_of_ble_eq_true rfl) dX11_digest_141) (fun r15 => ?_)
            refine z_lstore_n (pc := 144) (ls' := [(1, .long r15), (0, .ref (ad G 0 0)), (3, .int v3_12)]) hX dX11_digest_144 rfl (by decide) rfl ?_
            refine z_iinc (pc := 145) (n := 2) (v := v3_12 + 1) (ls' := [(3, .int (v3_12 + 1)), (1, .long r15), (0, .ref (ad G 0 0))]) hX dX11_digest_145 rfl (by rw [show Int32.ofInt (1) = 1 by decide +kernel]) (by decide) rfl ?_
            refine z_goto (pc := 148) (tgt := 120) hX dX11_digest_148 rfl ?_
            exact z_ls [2, 1, 0] rfl (hrc13 r15 (v3_12 + 1))
    · intro K7 hK7
      refine z_ls [2, 1, 0] rfl ?_
      refine (fx_P (F := l_T_digest_87 s K7) (b := (fun _ _ => none)) (fun rc18 => ∀ (v1_16 : Int64) (v3_17 : Int32), ZR G X (EC o L) pvL (psP s) 4 s [(0, .ref (ad G 0 0)), (1, .long v1_16), (3, .int v3_17)] [] 87 (rc18 v1_16 v3_17)) ?_ ?_ 1000) v1_5 0
      · intro v1_16 v3_17; exact z_none
      · intro rc18 hrc18 v1_16 v3_17
        unfold l_T_digest_87
        refine z_iload_n (pc := 87) hX dX11_digest_87 rfl 2 rfl ?_
        refine z_aload_n (pc := 88) hX dX11_digest_88 rfl 0 rfl ?_
        refine gr_0_0C (pc := 89) hX q_235 dX11_digest_89 ?_
        refine gf_1_5C (pc := 92) hX v_1_0 q_211 dX11_digest_92 ?_
        refine z_icmp_ge (pc := 95) (tgt := 118) hX dX11_digest_95 rfl ?_ ?_
        · exact z_ls [0, 1] rfl (hK7 v1_16)
        · refine z_aload_n (pc := 98) hX dX11_digest_98 rfl 0 rfl ?_
          refine gr_0_0C (pc := 99) hX q_235 dX11_digest_99 ?_
          refine gr_1_1C (pc := 102) hX v_1_0 q_203 dX11_digest_102 ?_
          refine z_iload_n (pc := 105) hX dX11_digest_105 rfl 2 rfl ?_
          refine aa_8C (pc := 106) hX v_8_0 dX11_digest_106 (fun hv19 => ?_)
          refine z_lload_n (pc := 107) hX dX11_digest_107 rfl 1 rfl ?_
          refine z_rL (run_V (pc := 108) (As := [.long v1_16]) hX (rc_2 hv19) ⟨q_785, q_788, q_11⟩ q_786 q_787 hd_X3_addTo ⟨Nat.le_of_ble_eq_true rfl, Nat.le_of_ble_eq_true rfl⟩ (c_He_addTo hG s (6 * 0 + ix v3_17) v1_16 hv19) rfl rfl (Nat.le_of_ble_eq_true rfl) dX11_digest_108) (fun r20 => ?_)
          refine z_lstore_n (pc := 111) (ls' := [(1, .long r20), (0, .ref (ad G 0 0)), (3, .int v3_17)]) hX dX11_digest_111 rfl (by decide) rfl ?_
          refine z_iinc (pc := 112) (n := 2) (v := v3_17 + 1) (ls' := [(3, .int (v3_17 + 1)), (1, .long r20), (0, .ref (ad G 0 0))]) hX dX11_digest_112 rfl (by rw [show Int32.ofInt (1) = 1 by decide +kernel]) (by decide) rfl ?_
          refine z_goto (pc := 115) (tgt := 87) hX dX11_digest_115 rfl ?_
          exact z_ls [2, 1, 0] rfl (hrc18 r20 (v3_17 + 1))
  · intro K2 hK2
    refine z_ls [2, 1, 0] rfl ?_
    refine (fx_P (F := l_T_digest_6 s K2) (b := (fun _ _ => none)) (fun rc23 => ∀ (v1_21 : Int64) (v3_22 : Int32), ZR G X (EC o L) pvL (psP s) 4 s [(0, .ref (ad G 0 0)), (1, .long v1_21), (3, .int v3_22)] [] 6 (rc23 v1_21 v3_22)) ?_ ?_ 1000) 1249 0
    · intro v1_21 v3_22; exact z_none
    · intro rc23 hrc23 v1_21 v3_22
      unfold l_T_digest_6
      refine z_iload_n (pc := 6) hX dX11_digest_6 rfl 2 rfl ?_
      refine z_bipush (pc := 7) hX dX11_digest_7 bp_6 ?_
      refine z_icmp_gt (pc := 9) (tgt := 31) hX dX11_digest_9 rfl ?_ ?_
      · exact z_ls [0, 1] rfl (hK2 v1_21)
      · refine z_ldc2 (pc := 12) hX q_784 dX11_digest_12 ?_
        refine z_lload_n (pc := 15) hX dX11_digest_15 rfl 1 rfl ?_
        refine z_lmul (pc := 16) hX dX11_digest_16 ?_
        refine z_aload_n (pc := 17) hX dX11_digest_17 rfl 0 rfl ?_
        refine z_iload_n (pc := 18) hX dX11_digest_18 rfl 2 rfl ?_
        refine z_rP (run_V (pc := 19) (As := [.int v3_22]) hX rc_0 ⟨q_775, q_778, q_1⟩ q_777 qs_22 hd_X11_howMany ⟨Nat.le_of_ble_eq_true rfl, Nat.le_of_ble_eq_true rfl⟩ (c_T_howMany hG s v3_22) rfl rfl (Nat.le_of_ble_eq_true rfl) dX11_digest_19) (fun r24 => ?_)
        refine z_i2l (pc := 22) hX dX11_digest_22 ?_
        refine z_ladd (pc := 23) hX dX11_digest_23 ?_
        refine z_ltl (pc := 24) (fun v1_25 => ?_)
        refine z_lstore_n (pc := 24) (ls' := [(1, .long v1_25), (0, .ref (ad G 0 0)), (3, .int v3_22)]) hX dX11_digest_24 rfl (by decide) rfl ?_
        refine z_iinc (pc := 25) (n := 2) (v := v3_22 + 1) (ls' := [(3, .int (v3_22 + 1)), (1, .long v1_25), (0, .ref (ad G 0 0))]) hX dX11_digest_25 rfl (by rw [show Int32.ofInt (1) = 1 by decide +kernel]) (by decide) rfl ?_
        refine z_goto (pc := 28) (tgt := 6) hX dX11_digest_28 rfl ?_
        exact z_ls [2, 1, 0] rfl (hrc23 v1_25 (v3_22 + 1))
theorem hd_X1_heirItem : yX1_heirItem.cls ≠ "java/lang/invoke/MethodHandle" ∧ yX1_heirItem.cls ≠ "java/lang/invoke/VarHandle" ∧ (parseMethodDescriptor yX1_heirItem.desc).map (fun d => d.parameters.length) = some 1 := by decide +kernel
def f_Tx_heirItem (s : Sto) (i1 : Nat) : Option (Int32 × Sto) :=
  if (s 1 i1 5 : Int32) < 6 then bV (f_Tx_advance s) (fun s1 => bI (f_Tx_takeNumber s1 5 ((-1))) (fun r2 s3 => if (r2 : Int32) = ((-1)) then some (0, s3) else bI (f_Tx_takeNumber s3 20 ((-1))) (fun r4 s5 => if (r4 : Int32) = ((-1)) then some (0, s5) else bI (f_Co_admit s5 i1 r2 0 0 r4) (fun r6 s7 => bI (f_Tx_takeEnding s7) (fun r8 s9 => if (r8 : Int32) = 0 ∨ (r8 : Int32) = 1 then some (r8, s9) else none))))) else some (0, s)
set_option maxRecDepth 100000 in
set_option maxHeartbeats 4000000 in
theorem c_Tx_heirItem {G : Gb} {l : Launch} {o : Sto} {L : Lng} (hG : GA G) (s : Sto) (i1 : Nat) (h1 : V 1 i1) : CT G l (EC o L) pvI psI yX1_heirItem cX1_heirItem 4 (some .boolean) 3 65 [.ref (ad G 5 0), .ref (ad G 1 i1)] s (f_Tx_heirItem s i1) := by
  refine CT.of hG (by decide) (Nat.le_of_ble_eq_true rfl) (fun X hX => ?_)
  have hX : OX G X l cX1_heirItem 4 "CrownTwo$CourtText" (some .boolean) 3 65 := hX
  show ZR G X (EC o L) pvI psI 4 s [(0, .ref (ad G 5 0)), (1, .ref (ad G 1 i1))] [] 0 _
  unfold f_Tx_heirItem
  refine z_aload_n (pc := 0) hX dX1_heirItem_0 rfl 1 rfl ?_
  refine gf_1_5C (pc := 1) hX h1 q_212 dX1_heirItem_1 ?_
  refine z_bipush (pc := 4) hX dX1_heirItem_4 bp_6 ?_
  refine z_icmp_lt (pc := 6) (tgt := 11) hX dX1_heirItem_6 rfl ?_ ?_
  · refine z_aload_n (pc := 11) hX dX1_heirItem_11 rfl 0 rfl ?_
    refine z_rV (run_V (pc := 12) (As := []) hX rc_5 ⟨q_337, q_340, q_2⟩ q_339 qs_2 hd_X1_advance ⟨Nat.le_of_ble_eq_true rfl, Nat.le_of_ble_eq_true rfl⟩ (c_Tx_advance hG s) rfl rfl (Nat.le_of_ble_eq_true rfl) dX1_heirItem_12) (fun s1 => ?_)
    refine z_aload_n (pc := 15) hX dX1_heirItem_15 rfl 0 rfl ?_
    refine z_iconst (pc := 16) hX dX1_heirItem_16 ic_5 ?_
    refine z_iconst (pc := 17) hX dX1_heirItem_17 ic_m1 ?_
    refine z_rI (run_V (pc := 18) (As := [.int 5, .int ((-1))]) hX rc_5 ⟨q_402, q_405, q_2⟩ q_404 qs_6 hd_X1_takeNumber ⟨Nat.le_of_ble_eq_true rfl, Nat.le_of_ble_eq_true rfl⟩ (c_Tx_takeNumber hG s1 5 ((-1))) rfl rfl (Nat.le_of_ble_eq_true rfl) dX1_heirItem_18) (fun r2 s3 => ?_)
    refine z_istore_n (pc := 21) (ls' := [(2, .int r2), (0, .ref (ad G 5 0)), (1, .ref (ad G 1 i1))]) hX dX1_heirItem_21 rfl (by decide) rfl ?_
    refine z_iload_n (pc := 22) hX dX1_heirItem_22 rfl 0 rfl ?_
    refine z_iconst (pc := 23) hX dX1_heirItem_23 ic_m1 ?_
    refine z_icmp_ne (pc := 24) (tgt := 29) hX dX1_heirItem_24 rfl ?_ ?_
    · refine z_aload_n (pc := 29) hX dX1_heirItem_29 rfl 1 rfl ?_
      refine z_bipush (pc := 30) hX dX1_heirItem_30 bp_20 ?_
      refine z_iconst (pc := 32) hX dX1_heirItem_32 ic_m1 ?_
      refine z_rI (run_V (pc := 33) (As := [.int 20, .int ((-1))]) hX rc_5 ⟨q_402, q_405, q_2⟩ q_404 qs_6 hd_X1_takeNumber ⟨Nat.le_of_ble_eq_true rfl, Nat.le_of_ble_eq_true rfl⟩ (c_Tx_takeNumber hG s3 20 ((-1))) rfl rfl (Nat.le_of_ble_eq_true rfl) dX1_heirItem_33) (fun r4 s5 => ?_)
      refine z_istore_n (pc := 36) (ls' := [(3, .int r4), (2, .int r2), (0, .ref (ad G 5 0)), (1, .ref (ad G 1 i1))]) hX dX1_heirItem_36 rfl (by decide) rfl ?_
      refine z_iload_n (pc := 37) hX dX1_heirItem_37 rfl 0 rfl ?_
      refine z_iconst (pc := 38) hX dX1_heirItem_38 ic_m1 ?_
      refine z_icmp_ne (pc := 39) (tgt := 44) hX dX1_heirItem_39 rfl ?_ ?_
      · refine z_aload_n (pc := 44) hX dX1_heirItem_44 rfl 3 rfl ?_
        refine z_iload_n (pc := 45) hX dX1_heirItem_45 rfl 1 rfl ?_
        refine z_iconst (pc := 46) hX dX1_heirItem_46 ic_0 ?_
        refine z_iconst (pc := 47) hX dX1_heirItem_47 ic_0 ?_
        refine z_iload_n (pc := 48) hX dX1_heirItem_48 rfl 0 rfl ?_
        refine z_rI (run_V (pc := 49) (As := [.int r2, .int 0, .int 0, .int r4]) hX (rc_1 h1) ⟨q_419, q_311, q_10⟩ q_309 q_310 hd_X0_admit ⟨Nat.le_of_ble_eq_true rfl, Nat.le_of_ble_eq_true rfl⟩ (c_Co_admit hG s5 i1 r2 0 0 r4 h1) rfl rfl (Nat.le_of_ble_eq_true rfl) dX1_heirItem_49) (fun r6 s7 => ?_)
        refine z_pop (pc := 52) hX dX1_heirItem_52 rfl ?_
        refine z_aload_n (pc := 53) hX dX1_heirItem_53 rfl 2 rfl ?_
        refine z_rI (run_V (pc := 54) (As := []) hX rc_5 ⟨q_406, q_409, q_2⟩ q_408 qs_7 hd_X1_takeEnding ⟨Nat.le_of_ble_eq_true rfl, Nat.le_of_ble_eq_true rfl⟩ (c_Tx_takeEnding hG s7) rfl rfl (Nat.le_of_ble_eq_true rfl) dX1_heirItem_54) (fun r8 s9 => ?_)
        exact z_retIz (pc := 57) hX dX1_heirItem_57
      · refine z_iconst (pc := 42) hX dX1_heirItem_42 ic_0 ?_
        exact z_retIc (pc := 43) hX dX1_heirItem_43 (by decide)
    · refine z_iconst (pc := 27) hX dX1_heirItem_27 ic_0 ?_
      exact z_retIc (pc := 28) hX dX1_heirItem_28 (by decide)
  · refine z_iconst (pc := 9) hX dX1_heirItem_9 ic_0 ?_
    exact z_retIc (pc := 10) hX dX1_heirItem_10 (by decide)
theorem hd_X1_heartItem : yX1_heartItem.cls ≠ "java/lang/invoke/MethodHandle" ∧ yX1_heartItem.cls ≠ "java/lang/invoke/VarHandle" ∧ (parseMethodDescriptor yX1_heartItem.desc).map (fun d => d.parameters.length) = some 2 := by decide +kernel
def l_Tx_heartItem_29 (K6 : Sto → Int32 → Option (Int32 × Sto)) (rc19 : Sto → Int32 → Int32 → Option (Int32 × Sto)) (s16 : Sto) (v4_17 : Int32) (v5_18 : Int32) : Option (Int32 × Sto) :=
  if (150 : Int32) ≤ v5_18 then K6 s16 v4_17 else if (s16 5 0 4 : Int32) = 2 then bI (f_Tx_takeNumber s16 7 ((-1))) (fun r20 s21 => if (r20 : Int32) = ((-1)) then some (0, s21) else lt ((v4_17 ||| (1 <<< (r20 &&& 31)) : Int32)) (fun v4_22 => rc19 s21 v4_22 (v5_18 + 1))) else K6 s16 v4_17
def f_Tx_heartItem (s : Sto) (i1 : Nat) (x2 : Int32) : Option (Int32 × Sto) :=
  bV (f_Tx_advance s) (fun s1 => bI (f_Tx_takeNumber s1 ((s1 1 i1 5) - 1) ((-1))) (fun r2 s3 => if (r2 : Int32) = ((-1)) then some (0, s3) else jn (fun s4 v4_5 => if inb r2 6 then jn (fun t8 => if (x2 : Int32) = 0 then bV (f_He_feel s4 (6 * i1 + ix r2) t8 v4_5) (fun s10 => bI (f_Tx_takeEnding s10) (fun r11 s12 => if (r11 : Int32) = 0 ∨ (r11 : Int32) = 1 then some (r11, s12) else none)) else bV (f_He_feel s4 (6 * i1 + ix r2) t8 (s4 2 (6 * i1 + ix r2) 2)) (fun s13 => bI (f_Tx_takeEnding s13) (fun r14 s15 => if (r14 : Int32) = 0 ∨ (r14 : Int32) = 1 then some (r14, s15) else none))) (fun j9 => if (x2 : Int32) = 0 then j9 (s4 2 (6 * i1 + ix r2) 1) else j9 v4_5) else none) (fun K6 => fx 1000 (l_Tx_heartItem_29 K6) (fun _ _ _ => none) s3 0 0)))
set_option maxRecDepth 100000 in
set_option maxHeartbeats 4000000 in
theorem c_Tx_heartItem {G : Gb} {l : Launch} {o : Sto} {L : Lng} (hG : GA G) (s : Sto) (i1 : Nat) (x2 : Int32) (h1 : V 1 i1) : CT G l (EC o L) pvI psI yX1_heartItem cX1_heartItem 7 (some .boolean) 3 65 [.ref (ad G 5 0), .ref (ad G 1 i1), .int x2] s (f_Tx_heartItem s i1 x2) := by
  refine CT.of hG (by decide) (Nat.le_of_ble_eq_true rfl) (fun X hX => ?_)
  have hX : OX G X l cX1_heartItem 7 "CrownTwo$CourtText" (some .boolean) 3 65 := hX
  show ZR G X (EC o L) pvI psI 7 s [(0, .ref (ad G 5 0)), (1, .ref (ad G 1 i1)), (2, .int x2)] [] 0 _
  unfold f_Tx_heartItem
  refine z_aload_n (pc := 0) hX dX1_heartItem_0 rfl 0 rfl ?_
  refine z_rV (run_V (pc := 1) (As := []) hX rc_5 ⟨q_337, q_340, q_2⟩ q_339 qs_2 hd_X1_advance ⟨Nat.le_of_ble_eq_true rfl, Nat.le_of_ble_eq_true rfl⟩ (c_Tx_advance hG s) rfl rfl (Nat.le_of_ble_eq_true rfl) dX1_heartItem_1) (fun s1 => ?_)
  refine z_aload_n (pc := 4) hX dX1_heartItem_4 rfl 0 rfl ?_
  refine z_aload_n (pc := 5) hX dX1_heartItem_5 rfl 1 rfl ?_
  refine gf_1_5C (pc := 6) hX h1 q_212 dX1_heartItem_6 ?_
  refine z_iconst (pc := 9) hX dX1_heartItem_9 ic_1 ?_
  refine z_isub (pc := 10) hX dX1_heartItem_10 ?_
  refine z_iconst (pc := 11) hX dX1_heartItem_11 ic_m1 ?_
  refine z_rI (run_V (pc := 12) (As := [.int ((s1 1 i1 5) - 1), .int ((-1))]) hX rc_5 ⟨q_402, q_405, q_2⟩ q_404 qs_6 hd_X1_takeNumber ⟨Nat.le_of_ble_eq_true rfl, Nat.le_of_ble_eq_true rfl⟩ (c_Tx_takeNumber hG s1 ((s1 1 i1 5) - 1) ((-1))) rfl rfl (Nat.le_of_ble_eq_true rfl) dX1_heartItem_12) (fun r2 s3 => ?_)
  refine z_istore_n (pc := 15) (ls' := [(3, .int r2), (0, .ref (ad G 5 0)), (1, .ref (ad G 1 i1)), (2, .int x2)]) hX dX1_heartItem_15 rfl (by decide) rfl ?_
  refine z_iload_n (pc := 16) hX dX1_heartItem_16 rfl 0 rfl ?_
  refine z_iconst (pc := 17) hX dX1_heartItem_17 ic_m1 ?_
  refine z_icmp_ne (pc := 18) (tgt := 23) hX dX1_heartItem_18 rfl ?_ ?_
  · refine z_iconst (pc := 23) hX dX1_heartItem_23 ic_0 ?_
    refine z_istore (pc := 24) (ls' := [(4, .int 0), (3, .int r2), (0, .ref (ad G 5 0)), (1, .ref (ad G 1 i1)), (2, .int x2)]) hX dX1_heartItem_24 (by decide) rfl ?_
    refine z_iconst (pc := 26) hX dX1_heartItem_26 ic_0 ?_
    refine z_istore (pc := 27) (ls' := [(5, .int 0), (4, .int 0), (3, .int r2), (0, .ref (ad G 5 0)), (1, .ref (ad G 1 i1)), (2, .int x2)]) hX dX1_heartItem_27 (by decide) rfl ?_
    refine z_jn (P := fun K6 => ∀ (s4 : Sto) (v4_5 : Int32), ZR G X (EC o L) pvI psI 7 s4 [(0, .ref (ad G 5 0)), (1, .ref (ad G 1 i1)), (2, .int x2), (3, .int r2), (4, .int v4_5)] [] 77 (K6 s4 v4_5)) ?_ ?_
    · intro s4 v4_5
      refine z_aload_n (pc := 77) hX dX1_heartItem_77 rfl 1 rfl ?_
      refine gr_1_1C (pc := 78) hX h1 q_202 dX1_heartItem_78 ?_
      refine z_iload_n (pc := 81) hX dX1_heartItem_81 rfl 3 rfl ?_
      refine aa_8C (pc := 82) hX (vr_1_8 h1) dX1_heartItem_82 (fun hv7 => ?_)
      refine z_astore (pc := 83) (ls' := [(5, .ref (ad G 2 (6 * i1 + ix r2))), (0, .ref (ad G 5 0)), (1, .ref (ad G 1 i1)), (2, .int x2), (3, .int r2), (4, .int v4_5)]) hX dX1_heartItem_83 (by decide) rfl ?_
      refine z_aload (pc := 85) hX dX1_heartItem_85 0 rfl ?_
      refine z_iload_n (pc := 87) hX dX1_heartItem_87 rfl 3 rfl ?_
      refine z_jn (P := fun j9 => ∀ (t8 : Int32), ZR G X (EC o L) pvI psI 7 s4 [(0, .ref (ad G 5 0)), (2, .int x2), (4, .int v4_5), (5, .ref (ad G 2 (6 * i1 + ix r2)))] [.int t8, .ref (ad G 2 (6 * i1 + ix r2))] 101 (j9 t8)) ?_ ?_
      · intro t8
        refine z_iload_n (pc := 101) hX dX1_heartItem_101 rfl 1 rfl ?_
        refine z_if_eq (pc := 102) (tgt := 113) hX dX1_heartItem_102 rfl ?_ ?_
        · refine z_iload (pc := 113) hX dX1_heartItem_113 2 rfl ?_
          refine z_rV (run_V (pc := 115) (As := [.int t8, .int v4_5]) hX (rc_2 hv7) ⟨q_425, q_428, q_11⟩ q_426 q_427 hd_X3_feel ⟨Nat.le_of_ble_eq_true rfl, Nat.le_of_ble_eq_true rfl⟩ (c_He_feel hG s4 (6 * i1 + ix r2) t8 v4_5 hv7) rfl rfl (Nat.le_of_ble_eq_true rfl) dX1_heartItem_115) (fun s10 => ?_)
          refine z_aload_n (pc := 118) hX dX1_heartItem_118 rfl 0 rfl ?_
          refine z_rI (run_V (pc := 119) (As := []) hX rc_5 ⟨q_406, q_409, q_2⟩ q_408 qs_7 hd_X1_takeEnding ⟨Nat.le_of_ble_eq_true rfl, Nat.le_of_ble_eq_true rfl⟩ (c_Tx_takeEnding hG s10) rfl rfl (Nat.le_of_ble_eq_true rfl) dX1_heartItem_119) (fun r11 s12 => ?_)
          exact z_retIz (pc := 122) hX dX1_heartItem_122
        · refine z_aload (pc := 105) hX dX1_heartItem_105 3 rfl ?_
          refine gf_2_2C (pc := 107) hX hv7 q_160 dX1_heartItem_107 ?_
          refine z_goto (pc := 110) (tgt := 115) hX dX1_heartItem_110 rfl ?_
          refine z_rV (run_V (pc := 115) (As := [.int t8, .int (s4 2 (6 * i1 + ix r2) 2)]) hX (rc_2 hv7) ⟨q_425, q_428, q_11⟩ q_426 q_427 hd_X3_feel ⟨Nat.le_of_ble_eq_true rfl, Nat.le_of_ble_eq_true rfl⟩ (c_He_feel hG s4 (6 * i1 + ix r2) t8 (s4 2 (6 * i1 + ix r2) 2) hv7) rfl rfl (Nat.le_of_ble_eq_true rfl) dX1_heartItem_115) (fun s13 => ?_)
          refine z_aload_n (pc := 118) hX dX1_heartItem_118 rfl 0 rfl ?_
          refine z_rI (run_V (pc := 119) (As := []) hX rc_5 ⟨q_406, q_409, q_2⟩ q_408 qs_7 hd_X1_takeEnding ⟨Nat.le_of_ble_eq_true rfl, Nat.le_of_ble_eq_true rfl⟩ (c_Tx_takeEnding hG s13) rfl rfl (Nat.le_of_ble_eq_true rfl) dX1_heartItem_119) (fun r14 s15 => ?_)
          exact z_retIz (pc := 122) hX dX1_heartItem_122
      · intro j9 hj9
        refine z_if_eq (pc := 88) (tgt := 96) hX dX1_heartItem_88 rfl ?_ ?_
        · refine z_aload (pc := 96) hX dX1_heartItem_96 0 rfl ?_
          refine gf_2_1C (pc := 98) hX hv7 q_157 dX1_heartItem_98 ?_
          exact z_ls [1, 3, 5, 0] rfl (hj9 (s4 2 (6 * i1 + ix r2) 1))
        · refine z_iload (pc := 91) hX dX1_heartItem_91 5 rfl ?_
          refine z_goto (pc := 93) (tgt := 101) hX dX1_heartItem_93 rfl ?_
          exact z_ls [1, 3, 5, 0] rfl (hj9 v4_5)
    · intro K6 hK6
      refine z_ls [3, 4, 5, 2, 1, 0] rfl ?_
      refine (fx_P (F := l_Tx_heartItem_29 K6) (b := (fun _ _ _ => none)) (fun rc19 => ∀ (s16 : Sto) (v4_17 : Int32) (v5_18 : Int32), ZR G X (EC o L) pvI psI 7 s16 [(0, .ref (ad G 5 0)), (1, .ref (ad G 1 i1)), (2, .int x2), (3, .int r2), (4, .int v4_17), (5, .int v5_18)] [] 29 (rc19 s16 v4_17 v5_18)) ?_ ?_ 1000) s3 0 0
      · intro s16 v4_17 v5_18; exact z_none
      · intro rc19 hrc19 s16 v4_17 v5_18
        unfold l_Tx_heartItem_29
        refine z_iload (pc := 29) hX dX1_heartItem_29 5 rfl ?_
        refine z_sipush (pc := 31) hX dX1_heartItem_31 sp_150 ?_
        refine z_icmp_ge (pc := 34) (tgt := 77) hX dX1_heartItem_34 rfl ?_ ?_
        · exact z_ls [0, 1, 2, 3, 4] rfl (hK6 s16 v4_17)
        · refine z_aload_n (pc := 37) hX dX1_heartItem_37 rfl 0 rfl ?_
          refine gf_5_4C (pc := 38) hX q_41 dX1_heartItem_38 ?_
          refine z_iconst (pc := 41) hX dX1_heartItem_41 ic_2 ?_
          refine z_icmp_ne (pc := 42) (tgt := 77) hX dX1_heartItem_42 rfl ?_ ?_
          · exact z_ls [0, 1, 2, 3, 4] rfl (hK6 s16 v4_17)
          · refine z_aload_n (pc := 45) hX dX1_heartItem_45 rfl 0 rfl ?_
            refine z_bipush (pc := 46) hX dX1_heartItem_46 bp_7 ?_
            refine z_iconst (pc := 48) hX dX1_heartItem_48 ic_m1 ?_
            refine z_rI (run_V (pc := 49) (As := [.int 7, .int ((-1))]) hX rc_5 ⟨q_402, q_405, q_2⟩ q_404 qs_6 hd_X1_takeNumber ⟨Nat.le_of_ble_eq_true rfl, Nat.le_of_ble_eq_true rfl⟩ (c_Tx_takeNumber hG s16 7 ((-1))) rfl rfl (Nat.le_of_ble_eq_true rfl) dX1_heartItem_49) (fun r20 s21 => ?_)
            refine z_istore (pc := 52) (ls' := [(6, .int r20), (0, .ref (ad G 5 0)), (1, .ref (ad G 1 i1)), (2, .int x2), (3, .int r2), (4, .int v4_17), (5, .int v5_18)]) hX dX1_heartItem_52 (by decide) rfl ?_
            refine z_iload (pc := 54) hX dX1_heartItem_54 0 rfl ?_
            refine z_iconst (pc := 56) hX dX1_heartItem_56 ic_m1 ?_
            refine z_icmp_ne (pc := 57) (tgt := 62) hX dX1_heartItem_57 rfl ?_ ?_
            · refine z_iload (pc := 62) hX dX1_heartItem_62 5 rfl ?_
              refine z_iconst (pc := 64) hX dX1_heartItem_64 ic_1 ?_
              refine z_iload (pc := 65) hX dX1_heartItem_65 0 rfl ?_
              refine z_ishl (pc := 67) hX dX1_heartItem_67 ?_
              refine z_ior (pc := 68) hX dX1_heartItem_68 ?_
              refine z_lti (pc := 69) (fun v4_22 => ?_)
              refine z_istore (pc := 69) (ls' := [(4, .int v4_22), (6, .int r20), (0, .ref (ad G 5 0)), (1, .ref (ad G 1 i1)), (2, .int x2), (3, .int r2), (5, .int v5_18)]) hX dX1_heartItem_69 (by decide) rfl ?_
              refine z_iinc (pc := 71) (n := 6) (v := v5_18 + 1) (ls' := [(5, .int (v5_18 + 1)), (4, .int v4_22), (6, .int r20), (0, .ref (ad G 5 0)), (1, .ref (ad G 1 i1)), (2, .int x2), (3, .int r2)]) hX dX1_heartItem_71 rfl (by rw [show Int32.ofInt (1) = 1 by decide +kernel]) (by decide) rfl ?_
              refine z_goto (pc := 74) (tgt := 29) hX dX1_heartItem_74 rfl ?_
              exact z_ls [3, 4, 5, 6, 1, 0] rfl (hrc19 s21 v4_22 (v5_18 + 1))
            · refine z_iconst (pc := 60) hX dX1_heartItem_60 ic_0 ?_
              exact z_retIc (pc := 61) hX dX1_heartItem_61 (by decide)
  · refine z_iconst (pc := 21) hX dX1_heartItem_21 ic_0 ?_
    exact z_retIc (pc := 22) hX dX1_heartItem_22 (by decide)
theorem hd_X1_pairItem : yX1_pairItem.cls ≠ "java/lang/invoke/MethodHandle" ∧ yX1_pairItem.cls ≠ "java/lang/invoke/VarHandle" ∧ (parseMethodDescriptor yX1_pairItem.desc).map (fun d => d.parameters.length) = some 1 := by decide +kernel
def f_Tx_pairItem (s : Sto) (i1 : Nat) : Option (Int32 × Sto) :=
  bV (f_Tx_advance s) (fun s1 => bI (f_Tx_takeNumber s1 ((s1 1 i1 5) - 1) ((-1))) (fun r2 s3 => if (r2 : Int32) = ((-1)) then some (0, s3) else bI (f_Tx_takeNumber s3 ((s3 1 i1 5) - 1) r2) (fun r4 s5 => if (r4 : Int32) = ((-1)) then some (0, s5) else lt (st s5 4 i1 3 r2) (fun s6 => lt (st s6 4 i1 4 r4) (fun s7 => bI (f_Tx_takeEnding s7) (fun r8 s9 => if (r8 : Int32) = 0 ∨ (r8 : Int32) = 1 then some (r8, s9) else none))))))
set_option maxRecDepth 100000 in
set_option maxHeartbeats 4000000 in
theorem c_Tx_pairItem {G : Gb} {l : Launch} {o : Sto} {L : Lng} (hG : GA G) (s : Sto) (i1 : Nat) (h1 : V 1 i1) : CT G l (EC o L) pvI psI yX1_pairItem cX1_pairItem 4 (some .boolean) 3 65 [.ref (ad G 5 0), .ref (ad G 1 i1)] s (f_Tx_pairItem s i1) := by
  refine CT.of hG (by decide) (Nat.le_of_ble_eq_true rfl) (fun X hX => ?_)
  have hX : OX G X l cX1_pairItem 4 "CrownTwo$CourtText" (some .boolean) 3 65 := hX
  show ZR G X (EC o L) pvI psI 4 s [(0, .ref (ad G 5 0)), (1, .ref (ad G 1 i1))] [] 0 _
  unfold f_Tx_pairItem
  refine z_aload_n (pc := 0) hX dX1_pairItem_0 rfl 0 rfl ?_
  refine z_rV (run_V (pc := 1) (As := []) hX rc_5 ⟨q_337, q_340, q_2⟩ q_339 qs_2 hd_X1_advance ⟨Nat.le_of_ble_eq_true rfl, Nat.le_of_ble_eq_true rfl⟩ (c_Tx_advance hG s) rfl rfl (Nat.le_of_ble_eq_true rfl) dX1_pairItem_1) (fun s1 => ?_)
  refine z_aload_n (pc := 4) hX dX1_pairItem_4 rfl 0 rfl ?_
  refine z_aload_n (pc := 5) hX dX1_pairItem_5 rfl 1 rfl ?_
  refine gf_1_5C (pc := 6) hX h1 q_212 dX1_pairItem_6 ?_
  refine z_iconst (pc := 9) hX dX1_pairItem_9 ic_1 ?_
  refine z_isub (pc := 10) hX dX1_pairItem_10 ?_
  refine z_iconst (pc := 11) hX dX1_pairItem_11 ic_m1 ?_
  refine z_rI (run_V (pc := 12) (As := [.int ((s1 1 i1 5) - 1), .int ((-1))]) hX rc_5 ⟨q_402, q_405, q_2⟩ q_404 qs_6 hd_X1_takeNumber ⟨Nat.le_of_ble_eq_true rfl, Nat.le_of_ble_eq_true rfl⟩ (c_Tx_takeNumber hG s1 ((s1 1 i1 5) - 1) ((-1))) rfl rfl (Nat.le_of_ble_eq_true rfl) dX1_pairItem_12) (fun r2 s3 => ?_)
  refine z_istore_n (pc := 15) (ls' := [(2, .int r2), (0, .ref (ad G 5 0)), (1, .ref (ad G 1 i1))]) hX dX1_pairItem_15 rfl (by decide) rfl ?_
  refine z_iload_n (pc := 16) hX dX1_pairItem_16 rfl 0 rfl ?_
  refine z_iconst (pc := 17) hX dX1_pairItem_17 ic_m1 ?_
  refine z_icmp_ne (pc := 18) (tgt := 23) hX dX1_pairItem_18 rfl ?_ ?_
  · refine z_aload_n (pc := 23) hX dX1_pairItem_23 rfl 1 rfl ?_
    refine z_aload_n (pc := 24) hX dX1_pairItem_24 rfl 2 rfl ?_
    refine gf_1_5C (pc := 25) hX h1 q_212 dX1_pairItem_25 ?_
    refine z_iconst (pc := 28) hX dX1_pairItem_28 ic_1 ?_
    refine z_isub (pc := 29) hX dX1_pairItem_29 ?_
    refine z_iload_n (pc := 30) hX dX1_pairItem_30 rfl 0 rfl ?_
    refine z_rI (run_V (pc := 31) (As := [.int ((s3 1 i1 5) - 1), .int r2]) hX rc_5 ⟨q_402, q_405, q_2⟩ q_404 qs_6 hd_X1_takeNumber ⟨Nat.le_of_ble_eq_true rfl, Nat.le_of_ble_eq_true rfl⟩ (c_Tx_takeNumber hG s3 ((s3 1 i1 5) - 1) r2) rfl rfl (Nat.le_of_ble_eq_true rfl) dX1_pairItem_31) (fun r4 s5 => ?_)
    refine z_istore_n (pc := 34) (ls' := [(3, .int r4), (2, .int r2), (0, .ref (ad G 5 0)), (1, .ref (ad G 1 i1))]) hX dX1_pairItem_34 rfl (by decide) rfl ?_
    refine z_iload_n (pc := 35) hX dX1_pairItem_35 rfl 0 rfl ?_
    refine z_iconst (pc := 36) hX dX1_pairItem_36 ic_m1 ?_
    refine z_icmp_ne (pc := 37) (tgt := 42) hX dX1_pairItem_37 rfl ?_ ?_
    · refine z_aload_n (pc := 42) hX dX1_pairItem_42 rfl 3 rfl ?_
      refine gr_1_4C (pc := 43) hX h1 q_209 dX1_pairItem_43 ?_
      refine z_iload_n (pc := 46) hX dX1_pairItem_46 rfl 1 rfl ?_
      refine pf_4_3C (pc := 47) hX (vr_1_4 h1) q_75 dX1_pairItem_47 ?_
      refine z_lts (fun s6 => ?_)
      refine z_aload_n (pc := 50) hX dX1_pairItem_50 rfl 3 rfl ?_
      refine gr_1_4C (pc := 51) hX h1 q_209 dX1_pairItem_51 ?_
      refine z_iload_n (pc := 54) hX dX1_pairItem_54 rfl 0 rfl ?_
      refine pf_4_4C (pc := 55) hX (vr_1_4 h1) q_79 dX1_pairItem_55 ?_
      refine z_lts (fun s7 => ?_)
      refine z_aload_n (pc := 58) hX dX1_pairItem_58 rfl 2 rfl ?_
      refine z_rI (run_V (pc := 59) (As := []) hX rc_5 ⟨q_406, q_409, q_2⟩ q_408 qs_7 hd_X1_takeEnding ⟨Nat.le_of_ble_eq_true rfl, Nat.le_of_ble_eq_true rfl⟩ (c_Tx_takeEnding hG s7) rfl rfl (Nat.le_of_ble_eq_true rfl) dX1_pairItem_59) (fun r8 s9 => ?_)
      exact z_retIz (pc := 62) hX dX1_pairItem_62
    · refine z_iconst (pc := 40) hX dX1_pairItem_40 ic_0 ?_
      exact z_retIc (pc := 41) hX dX1_pairItem_41 (by decide)
  · refine z_iconst (pc := 21) hX dX1_pairItem_21 ic_0 ?_
    exact z_retIc (pc := 22) hX dX1_pairItem_22 (by decide)
