theorem hd_X3_put : yX3_put.cls ≠ "java/lang/invoke/MethodHandle" ∧ yX3_put.cls ≠ "java/lang/invoke/VarHandle" ∧ (parseMethodDescriptor yX3_put.desc).map (fun d => d.parameters.length) = some 4 := by decide +kernel
def f_He_put (s : Sto) (i0 : Nat) (x1 : Int32) (x2 : Int32) (x3 : Int32) (x4 : Int32) : Option (Sto) :=
  lt (st s 2 i0 0 x1) (fun s1 => lt (st s1 2 i0 1 x2) (fun s2 => lt (st s2 2 i0 2 x3) (fun s3 => lt (st s3 2 i0 3 x4) (fun s4 => some s4))))
set_option maxRecDepth 100000 in
set_option maxHeartbeats 4000000 in
theorem c_He_put {G : Gb} {l : Launch} {o : Sto} {L : Lng} (hG : GA G) (s : Sto) (i0 : Nat) (x1 : Int32) (x2 : Int32) (x3 : Int32) (x4 : Int32) (h0 : V 2 i0) : CT G l (EC o L) pvV psV yX3_put cX3_put 5 none 0 0 [.ref (ad G 2 i0), .int x1, .int x2, .int x3, .int x4] s (f_He_put s i0 x1 x2 x3 x4) := by
  refine CT.of hG (by decide) (Nat.le_of_ble_eq_true rfl) (fun X hX => ?_)
  have hX : OX G X l cX3_put 5 "CrownTwo$Heir" none 0 0 := hX
  show ZR G X (EC o L) pvV psV 5 s [(0, .ref (ad G 2 i0)), (1, .int x1), (2, .int x2), (3, .int x3), (4, .int x4)] [] 0 _
  unfold f_He_put
  refine z_aload_n (pc := 0) hX dX3_put_0 rfl 0 rfl ?_
  refine z_iload_n (pc := 1) hX dX3_put_1 rfl 1 rfl ?_
  refine pf_2_0C (pc := 2) hX h0 q_153 dX3_put_2 ?_
  refine z_lts (fun s1 => ?_)
  refine z_aload_n (pc := 5) hX dX3_put_5 rfl 0 rfl ?_
  refine z_iload_n (pc := 6) hX dX3_put_6 rfl 2 rfl ?_
  refine pf_2_1C (pc := 7) hX h0 q_156 dX3_put_7 ?_
  refine z_lts (fun s2 => ?_)
  refine z_aload_n (pc := 10) hX dX3_put_10 rfl 0 rfl ?_
  refine z_iload_n (pc := 11) hX dX3_put_11 rfl 3 rfl ?_
  refine pf_2_2C (pc := 12) hX h0 q_159 dX3_put_12 ?_
  refine z_lts (fun s3 => ?_)
  refine z_aload_n (pc := 15) hX dX3_put_15 rfl 0 rfl ?_
  refine z_iload (pc := 16) hX dX3_put_16 4 rfl ?_
  refine pf_2_3C (pc := 18) hX h0 q_162 dX3_put_18 ?_
  refine z_lts (fun s4 => ?_)
  exact z_retV (pc := 21) hX dX3_put_21
theorem hd_X3_feel : yX3_feel.cls ≠ "java/lang/invoke/MethodHandle" ∧ yX3_feel.cls ≠ "java/lang/invoke/VarHandle" ∧ (parseMethodDescriptor yX3_feel.desc).map (fun d => d.parameters.length) = some 2 := by decide +kernel
def f_He_feel (s : Sto) (i0 : Nat) (x1 : Int32) (x2 : Int32) : Option (Sto) :=
  lt (st s 2 i0 1 x1) (fun s1 => lt (st s1 2 i0 2 x2) (fun s2 => some s2))
set_option maxRecDepth 100000 in
set_option maxHeartbeats 4000000 in
theorem c_He_feel {G : Gb} {l : Launch} {o : Sto} {L : Lng} (hG : GA G) (s : Sto) (i0 : Nat) (x1 : Int32) (x2 : Int32) (h0 : V 2 i0) : CT G l (EC o L) pvV psV yX3_feel cX3_feel 3 none 0 0 [.ref (ad G 2 i0), .int x1, .int x2] s (f_He_feel s i0 x1 x2) := by
  refine CT.of hG (by decide) (Nat.le_of_ble_eq_true rfl) (fun X hX => ?_)
  have hX : OX G X l cX3_feel 3 "CrownTwo$Heir" none 0 0 := hX
  show ZR G X (EC o L) pvV psV 3 s [(0, .ref (ad G 2 i0)), (1, .int x1), (2, .int x2)] [] 0 _
  unfold f_He_feel
  refine z_aload_n (pc := 0) hX dX3_feel_0 rfl 0 rfl ?_
  refine z_iload_n (pc := 1) hX dX3_feel_1 rfl 1 rfl ?_
  refine pf_2_1C (pc := 2) hX h0 q_156 dX3_feel_2 ?_
  refine z_lts (fun s1 => ?_)
  refine z_aload_n (pc := 5) hX dX3_feel_5 rfl 0 rfl ?_
  refine z_iload_n (pc := 6) hX dX3_feel_6 rfl 2 rfl ?_
  refine pf_2_2C (pc := 7) hX h0 q_159 dX3_feel_7 ?_
  refine z_lts (fun s2 => ?_)
  exact z_retV (pc := 10) hX dX3_feel_10
theorem hd_X3_become : yX3_become.cls ≠ "java/lang/invoke/MethodHandle" ∧ yX3_become.cls ≠ "java/lang/invoke/VarHandle" ∧ (parseMethodDescriptor yX3_become.desc).map (fun d => d.parameters.length) = some 1 := by decide +kernel
def f_He_become (s : Sto) (i0 : Nat) (i1 : Nat) : Option (Sto) :=
  bV (f_He_put s i0 (s 2 i1 0) (s 2 i1 1) (s 2 i1 2) (s 2 i1 3)) (fun s1 => some s1)
set_option maxRecDepth 100000 in
set_option maxHeartbeats 4000000 in
theorem c_He_become {G : Gb} {l : Launch} {o : Sto} {L : Lng} (hG : GA G) (s : Sto) (i0 : Nat) (i1 : Nat) (h0 : V 2 i0) (h1 : V 2 i1) : CT G l (EC o L) pvV psV yX3_become cX3_become 2 none 1 24 [.ref (ad G 2 i0), .ref (ad G 2 i1)] s (f_He_become s i0 i1) := by
  refine CT.of hG (by decide) (Nat.le_of_ble_eq_true rfl) (fun X hX => ?_)
  have hX : OX G X l cX3_become 2 "CrownTwo$Heir" none 1 24 := hX
  show ZR G X (EC o L) pvV psV 2 s [(0, .ref (ad G 2 i0)), (1, .ref (ad G 2 i1))] [] 0 _
  unfold f_He_become
  refine z_aload_n (pc := 0) hX dX3_become_0 rfl 0 rfl ?_
  refine z_aload_n (pc := 1) hX dX3_become_1 rfl 1 rfl ?_
  refine gf_2_0C (pc := 2) hX h1 q_153 dX3_become_2 ?_
  refine z_aload_n (pc := 5) hX dX3_become_5 rfl 1 rfl ?_
  refine gf_2_1C (pc := 6) hX h1 q_156 dX3_become_6 ?_
  refine z_aload_n (pc := 9) hX dX3_become_9 rfl 1 rfl ?_
  refine gf_2_2C (pc := 10) hX h1 q_159 dX3_become_10 ?_
  refine z_aload_n (pc := 13) hX dX3_become_13 rfl 1 rfl ?_
  refine gf_2_3C (pc := 14) hX h1 q_162 dX3_become_14 ?_
  refine z_rV (run_V (pc := 17) (As := [.int (s 2 i1 0), .int (s 2 i1 1), .int (s 2 i1 2), .int (s 2 i1 3)]) hX (rc_2 h0) ⟨q_447, q_315, q_11⟩ q_313 q_314 hd_X3_put ⟨Nat.le_of_ble_eq_true rfl, Nat.le_of_ble_eq_true rfl⟩ (c_He_put hG s i0 (s 2 i1 0) (s 2 i1 1) (s 2 i1 2) (s 2 i1 3) h0) rfl rfl (Nat.le_of_ble_eq_true rfl) dX3_become_17) (fun s1 => ?_)
  exact z_retV (pc := 20) hX dX3_become_20
theorem hd_X3_likesAlone : yX3_likesAlone.cls ≠ "java/lang/invoke/MethodHandle" ∧ yX3_likesAlone.cls ≠ "java/lang/invoke/VarHandle" ∧ (parseMethodDescriptor yX3_likesAlone.desc).map (fun d => d.parameters.length) = some 1 := by decide +kernel
def f_He_likesAlone (s : Sto) (i0 : Nat) (x1 : Int32) : Option (Int32) :=
  if (((s 2 i0 1) &&& ((s 2 i0 2) ^^^ (-1 : Int32))) &&& ((1 : Int32) <<< (x1 &&& 31))) = (0 : Int32) then some (0 : Int32) else some (1 : Int32)
set_option maxRecDepth 100000 in
set_option maxHeartbeats 4000000 in
theorem c_He_likesAlone {G : Gb} {l : Launch} {o : Sto} {L : Lng} (hG : GA G) (s : Sto) (i0 : Nat) (x1 : Int32) (h0 : V 2 i0) : CT G l (EC o L) pvP (psP s) yX3_likesAlone cX3_likesAlone 2 (some .boolean) 0 0 [.ref (ad G 2 i0), .int x1] s (f_He_likesAlone s i0 x1) := by
  refine CT.of hG (by decide) (Nat.le_of_ble_eq_true rfl) (fun X hX => ?_)
  have hX : OX G X l cX3_likesAlone 2 "CrownTwo$Heir" (some .boolean) 0 0 := hX
  show ZR G X (EC o L) pvP (psP s) 2 s [(0, .ref (ad G 2 i0)), (1, .int x1)] [] 0 _
  unfold f_He_likesAlone
  refine z_aload_n (pc := 0) hX dX3_likesAlone_0 rfl 0 rfl ?_
  refine gf_2_1C (pc := 1) hX h0 q_156 dX3_likesAlone_1 ?_
  refine z_aload_n (pc := 4) hX dX3_likesAlone_4 rfl 0 rfl ?_
  refine gf_2_2C (pc := 5) hX h0 q_159 dX3_likesAlone_5 ?_
  refine z_iconst (pc := 8) hX dX3_likesAlone_8 ic_m1 ?_
  refine z_ixor (pc := 9) hX dX3_likesAlone_9 ?_
  refine z_iand (pc := 10) hX dX3_likesAlone_10 ?_
  refine z_iconst (pc := 11) hX dX3_likesAlone_11 ic_1 ?_
  refine z_iload_n (pc := 12) hX dX3_likesAlone_12 rfl 1 rfl ?_
  refine z_ishl (pc := 13) hX dX3_likesAlone_13 ?_
  refine z_iand (pc := 14) hX dX3_likesAlone_14 ?_
  refine z_if_eq (pc := 15) (tgt := 22) hX dX3_likesAlone_15 rfl ?_ ?_
  · refine z_iconst (pc := 22) hX dX3_likesAlone_22 ic_0 ?_
    exact z_retPc (pc := 23) hX dX3_likesAlone_23 (by decide)
  · refine z_iconst (pc := 18) hX dX3_likesAlone_18 ic_1 ?_
    refine z_goto (pc := 19) (tgt := 23) hX dX3_likesAlone_19 rfl ?_
    exact z_retPc (pc := 23) hX dX3_likesAlone_23 (by decide)
theorem hd_X3_hatesAlone : yX3_hatesAlone.cls ≠ "java/lang/invoke/MethodHandle" ∧ yX3_hatesAlone.cls ≠ "java/lang/invoke/VarHandle" ∧ (parseMethodDescriptor yX3_hatesAlone.desc).map (fun d => d.parameters.length) = some 1 := by decide +kernel
def f_He_hatesAlone (s : Sto) (i0 : Nat) (x1 : Int32) : Option (Int32) :=
  if (((s 2 i0 2) &&& ((s 2 i0 1) ^^^ (-1 : Int32))) &&& ((1 : Int32) <<< (x1 &&& 31))) = (0 : Int32) then some (0 : Int32) else some (1 : Int32)
set_option maxRecDepth 100000 in
set_option maxHeartbeats 4000000 in
theorem c_He_hatesAlone {G : Gb} {l : Launch} {o : Sto} {L : Lng} (hG : GA G) (s : Sto) (i0 : Nat) (x1 : Int32) (h0 : V 2 i0) : CT G l (EC o L) pvP (psP s) yX3_hatesAlone cX3_hatesAlone 2 (some .boolean) 0 0 [.ref (ad G 2 i0), .int x1] s (f_He_hatesAlone s i0 x1) := by
  refine CT.of hG (by decide) (Nat.le_of_ble_eq_true rfl) (fun X hX => ?_)
  have hX : OX G X l cX3_hatesAlone 2 "CrownTwo$Heir" (some .boolean) 0 0 := hX
  show ZR G X (EC o L) pvP (psP s) 2 s [(0, .ref (ad G 2 i0)), (1, .int x1)] [] 0 _
  unfold f_He_hatesAlone
  refine z_aload_n (pc := 0) hX dX3_hatesAlone_0 rfl 0 rfl ?_
  refine gf_2_2C (pc := 1) hX h0 q_159 dX3_hatesAlone_1 ?_
  refine z_aload_n (pc := 4) hX dX3_hatesAlone_4 rfl 0 rfl ?_
  refine gf_2_1C (pc := 5) hX h0 q_156 dX3_hatesAlone_5 ?_
  refine z_iconst (pc := 8) hX dX3_hatesAlone_8 ic_m1 ?_
  refine z_ixor (pc := 9) hX dX3_hatesAlone_9 ?_
  refine z_iand (pc := 10) hX dX3_hatesAlone_10 ?_
  refine z_iconst (pc := 11) hX dX3_hatesAlone_11 ic_1 ?_
  refine z_iload_n (pc := 12) hX dX3_hatesAlone_12 rfl 1 rfl ?_
  refine z_ishl (pc := 13) hX dX3_hatesAlone_13 ?_
  refine z_iand (pc := 14) hX dX3_hatesAlone_14 ?_
  refine z_if_eq (pc := 15) (tgt := 22) hX dX3_hatesAlone_15 rfl ?_ ?_
  · refine z_iconst (pc := 22) hX dX3_hatesAlone_22 ic_0 ?_
    exact z_retPc (pc := 23) hX dX3_hatesAlone_23 (by decide)
  · refine z_iconst (pc := 18) hX dX3_hatesAlone_18 ic_1 ?_
    refine z_goto (pc := 19) (tgt := 23) hX dX3_hatesAlone_19 rfl ?_
    exact z_retPc (pc := 23) hX dX3_hatesAlone_23 (by decide)
theorem hd_X3_addTo : yX3_addTo.cls ≠ "java/lang/invoke/MethodHandle" ∧ yX3_addTo.cls ≠ "java/lang/invoke/VarHandle" ∧ (parseMethodDescriptor yX3_addTo.desc).map (fun d => d.parameters.length) = some 1 := by decide +kernel
def f_He_addTo (s : Sto) (i0 : Nat) (x1 : Int64) : Option (Int64) :=
  lt (((31 : Int64) * x1) + (Int32.toInt64 (s 2 i0 0))) (fun v3_1 => lt (((31 : Int64) * v3_1) + (Int32.toInt64 (s 2 i0 1))) (fun v3_2 => lt (((31 : Int64) * v3_2) + (Int32.toInt64 (s 2 i0 2))) (fun v3_3 => some (((31 : Int64) * v3_3) + (Int32.toInt64 (s 2 i0 3))))))
set_option maxRecDepth 100000 in
set_option maxHeartbeats 4000000 in
theorem c_He_addTo {G : Gb} {l : Launch} {o : Sto} {L : Lng} (hG : GA G) (s : Sto) (i0 : Nat) (x1 : Int64) (h0 : V 2 i0) : CT G l (EC o L) pvL (psP s) yX3_addTo cX3_addTo 5 (some .long) 0 0 [.ref (ad G 2 i0), .long x1] s (f_He_addTo s i0 x1) := by
  refine CT.of hG (by decide) (Nat.le_of_ble_eq_true rfl) (fun X hX => ?_)
  have hX : OX G X l cX3_addTo 5 "CrownTwo$Heir" (some .long) 0 0 := hX
  show ZR G X (EC o L) pvL (psP s) 5 s [(0, .ref (ad G 2 i0)), (1, .long x1)] [] 0 _
  unfold f_He_addTo
  refine z_ldc2 (pc := 0) hX q_796 dX3_addTo_0 ?_
  refine z_lload_n (pc := 3) hX dX3_addTo_3 rfl 1 rfl ?_
  refine z_lmul (pc := 4) hX dX3_addTo_4 ?_
  refine z_aload_n (pc := 5) hX dX3_addTo_5 rfl 0 rfl ?_
  refine gf_2_0C (pc := 6) hX h0 q_153 dX3_addTo_6 ?_
  refine z_i2l (pc := 9) hX dX3_addTo_9 ?_
  refine z_ladd (pc := 10) hX dX3_addTo_10 ?_
  refine z_ltl (pc := 11) (fun v3_1 => ?_)
  refine z_lstore_n (pc := 11) (ls' := [(3, .long v3_1), (0, .ref (ad G 2 i0)), (1, .long x1)]) hX dX3_addTo_11 rfl (by decide) rfl ?_
  refine z_ldc2 (pc := 12) hX q_796 dX3_addTo_12 ?_
  refine z_lload_n (pc := 15) hX dX3_addTo_15 rfl 0 rfl ?_
  refine z_lmul (pc := 16) hX dX3_addTo_16 ?_
  refine z_aload_n (pc := 17) hX dX3_addTo_17 rfl 1 rfl ?_
  refine gf_2_1C (pc := 18) hX h0 q_156 dX3_addTo_18 ?_
  refine z_i2l (pc := 21) hX dX3_addTo_21 ?_
  refine z_ladd (pc := 22) hX dX3_addTo_22 ?_
  refine z_ltl (pc := 23) (fun v3_2 => ?_)
  refine z_lstore_n (pc := 23) (ls' := [(3, .long v3_2), (0, .ref (ad G 2 i0)), (1, .long x1)]) hX dX3_addTo_23 rfl (by decide) rfl ?_
  refine z_ldc2 (pc := 24) hX q_796 dX3_addTo_24 ?_
  refine z_lload_n (pc := 27) hX dX3_addTo_27 rfl 0 rfl ?_
  refine z_lmul (pc := 28) hX dX3_addTo_28 ?_
  refine z_aload_n (pc := 29) hX dX3_addTo_29 rfl 1 rfl ?_
  refine gf_2_2C (pc := 30) hX h0 q_159 dX3_addTo_30 ?_
  refine z_i2l (pc := 33) hX dX3_addTo_33 ?_
  refine z_ladd (pc := 34) hX dX3_addTo_34 ?_
  refine z_ltl (pc := 35) (fun v3_3 => ?_)
  refine z_lstore_n (pc := 35) (ls' := [(3, .long v3_3), (0, .ref (ad G 2 i0)), (1, .long x1)]) hX dX3_addTo_35 rfl (by decide) rfl ?_
  refine z_ldc2 (pc := 36) hX q_796 dX3_addTo_36 ?_
  refine z_lload_n (pc := 39) hX dX3_addTo_39 rfl 0 rfl ?_
  refine z_lmul (pc := 40) hX dX3_addTo_40 ?_
  refine z_aload_n (pc := 41) hX dX3_addTo_41 rfl 1 rfl ?_
  refine gf_2_3C (pc := 42) hX h0 q_162 dX3_addTo_42 ?_
  refine z_i2l (pc := 45) hX dX3_addTo_45 ?_
  refine z_ladd (pc := 46) hX dX3_addTo_46 ?_
  exact z_retL (pc := 47) hX dX3_addTo_47
theorem hd_X5_begin : yX5_begin.cls ≠ "java/lang/invoke/MethodHandle" ∧ yX5_begin.cls ≠ "java/lang/invoke/VarHandle" ∧ (parseMethodDescriptor yX5_begin.desc).map (fun d => d.parameters.length) = some 1 := by decide +kernel
def f_Mo_begin (s : Sto) (i0 : Nat) (x1 : Int32) : Option (Sto) :=
  lt (st s 4 i0 0 x1) (fun s1 => lt (st s1 4 i0 1 (0 : Int32)) (fun s2 => lt (st s2 4 i0 2 (0 : Int32)) (fun s3 => lt (st s3 4 i0 3 (-1 : Int32)) (fun s4 => lt (st s4 4 i0 4 (-1 : Int32)) (fun s5 => some s5)))))
set_option maxRecDepth 100000 in
set_option maxHeartbeats 4000000 in
theorem c_Mo_begin {G : Gb} {l : Launch} {o : Sto} {L : Lng} (hG : GA G) (s : Sto) (i0 : Nat) (x1 : Int32) (h0 : V 4 i0) : CT G l (EC o L) pvV psV yX5_begin cX5_begin 2 none 0 0 [.ref (ad G 4 i0), .int x1] s (f_Mo_begin s i0 x1) := by
  refine CT.of hG (by decide) (Nat.le_of_ble_eq_true rfl) (fun X hX => ?_)
  have hX : OX G X l cX5_begin 2 "CrownTwo$Moment" none 0 0 := hX
  show ZR G X (EC o L) pvV psV 2 s [(0, .ref (ad G 4 i0)), (1, .int x1)] [] 0 _
  unfold f_Mo_begin
  refine z_aload_n (pc := 0) hX dX5_begin_0 rfl 0 rfl ?_
  refine z_iload_n (pc := 1) hX dX5_begin_1 rfl 1 rfl ?_
  refine pf_4_0C (pc := 2) hX h0 q_64 dX5_begin_2 ?_
  refine z_lts (fun s1 => ?_)
  refine z_aload_n (pc := 5) hX dX5_begin_5 rfl 0 rfl ?_
  refine z_iconst (pc := 6) hX dX5_begin_6 ic_0 ?_
  refine pf_4_1C (pc := 7) hX h0 q_67 dX5_begin_7 ?_
  refine z_lts (fun s2 => ?_)
  refine z_aload_n (pc := 10) hX dX5_begin_10 rfl 0 rfl ?_
  refine z_iconst (pc := 11) hX dX5_begin_11 ic_0 ?_
  refine pf_4_2C (pc := 12) hX h0 q_70 dX5_begin_12 ?_
  refine z_lts (fun s3 => ?_)
  refine z_aload_n (pc := 15) hX dX5_begin_15 rfl 0 rfl ?_
  refine z_iconst (pc := 16) hX dX5_begin_16 ic_m1 ?_
  refine pf_4_3C (pc := 17) hX h0 q_73 dX5_begin_17 ?_
  refine z_lts (fun s4 => ?_)
  refine z_aload_n (pc := 20) hX dX5_begin_20 rfl 0 rfl ?_
  refine z_iconst (pc := 21) hX dX5_begin_21 ic_m1 ?_
  refine pf_4_4C (pc := 22) hX h0 q_77 dX5_begin_22 ?_
  refine z_lts (fun s5 => ?_)
  exact z_retV (pc := 25) hX dX5_begin_25
theorem hd_X5_become : yX5_become.cls ≠ "java/lang/invoke/MethodHandle" ∧ yX5_become.cls ≠ "java/lang/invoke/VarHandle" ∧ (parseMethodDescriptor yX5_become.desc).map (fun d => d.parameters.length) = some 1 := by decide +kernel
def f_Mo_become (s : Sto) (i0 : Nat) (i1 : Nat) : Option (Sto) :=
  lt (st s 4 i0 0 (s 4 i1 0)) (fun s1 => lt (st s1 4 i0 1 (s1 4 i1 1)) (fun s2 => lt (st s2 4 i0 2 (s2 4 i1 2)) (fun s3 => lt (st s3 4 i0 3 (s3 4 i1 3)) (fun s4 => lt (st s4 4 i0 4 (s4 4 i1 4)) (fun s5 => some s5)))))
set_option maxRecDepth 100000 in
set_option maxHeartbeats 4000000 in
theorem c_Mo_become {G : Gb} {l : Launch} {o : Sto} {L : Lng} (hG : GA G) (s : Sto) (i0 : Nat) (i1 : Nat) (h0 : V 4 i0) (h1 : V 4 i1) : CT G l (EC o L) pvV psV yX5_become cX5_become 2 none 0 0 [.ref (ad G 4 i0), .ref (ad G 4 i1)] s (f_Mo_become s i0 i1) := by
  refine CT.of hG (by decide) (Nat.le_of_ble_eq_true rfl) (fun X hX => ?_)
  have hX : OX G X l cX5_become 2 "CrownTwo$Moment" none 0 0 := hX
  show ZR G X (EC o L) pvV psV 2 s [(0, .ref (ad G 4 i0)), (1, .ref (ad G 4 i1))] [] 0 _
  unfold f_Mo_become
  refine z_aload_n (pc := 0) hX dX5_become_0 rfl 0 rfl ?_
  refine z_aload_n (pc := 1) hX dX5_become_1 rfl 1 rfl ?_
  refine gf_4_0C (pc := 2) hX h1 q_64 dX5_become_2 ?_
  refine pf_4_0C (pc := 5) hX h0 q_64 dX5_become_5 ?_
  refine z_lts (fun s1 => ?_)
  refine z_aload_n (pc := 8) hX dX5_become_8 rfl 0 rfl ?_
  refine z_aload_n (pc := 9) hX dX5_become_9 rfl 1 rfl ?_
  refine gf_4_1C (pc := 10) hX h1 q_67 dX5_become_10 ?_
  refine pf_4_1C (pc := 13) hX h0 q_67 dX5_become_13 ?_
  refine z_lts (fun s2 => ?_)
  refine z_aload_n (pc := 16) hX dX5_become_16 rfl 0 rfl ?_
  refine z_aload_n (pc := 17) hX dX5_become_17 rfl 1 rfl ?_
  refine gf_4_2C (pc := 18) hX h1 q_70 dX5_become_18 ?_
  refine pf_4_2C (pc := 21) hX h0 q_70 dX5_become_21 ?_
  refine z_lts (fun s3 => ?_)
  refine z_aload_n (pc := 24) hX dX5_become_24 rfl 0 rfl ?_
  refine z_aload_n (pc := 25) hX dX5_become_25 rfl 1 rfl ?_
  refine gf_4_3C (pc := 26) hX h1 q_73 dX5_become_26 ?_
  refine pf_4_3C (pc := 29) hX h0 q_73 dX5_become_29 ?_
  refine z_lts (fun s4 => ?_)
  refine z_aload_n (pc := 32) hX dX5_become_32 rfl 0 rfl ?_
  refine z_aload_n (pc := 33) hX dX5_become_33 rfl 1 rfl ?_
  refine gf_4_4C (pc := 34) hX h1 q_77 dX5_become_34 ?_
  refine pf_4_4C (pc := 37) hX h0 q_77 dX5_become_37 ?_
  refine z_lts (fun s5 => ?_)
  exact z_retV (pc := 40) hX dX5_become_40
theorem hd_X5_warm : yX5_warm.cls ≠ "java/lang/invoke/MethodHandle" ∧ yX5_warm.cls ≠ "java/lang/invoke/VarHandle" ∧ (parseMethodDescriptor yX5_warm.desc).map (fun d => d.parameters.length) = some 1 := by decide +kernel
def f_Mo_warm (s : Sto) (i0 : Nat) (x1 : Int32) : Option (Sto) :=
  lt (st s 4 i0 0 (imx (0 : Int32) (imn (99 : Int32) ((s 4 i0 0) + x1)))) (fun s1 => some s1)
set_option maxRecDepth 100000 in
set_option maxHeartbeats 4000000 in
theorem c_Mo_warm {G : Gb} {l : Launch} {o : Sto} {L : Lng} (hG : GA G) (s : Sto) (i0 : Nat) (x1 : Int32) (h0 : V 4 i0) : CT G l (EC o L) pvV psV yX5_warm cX5_warm 2 none 1 30 [.ref (ad G 4 i0), .int x1] s (f_Mo_warm s i0 x1) := by
  refine CT.of hG (by decide) (Nat.le_of_ble_eq_true rfl) (fun X hX => ?_)
  have hX : OX G X l cX5_warm 2 "CrownTwo$Moment" none 1 30 := hX
  show ZR G X (EC o L) pvV psV 2 s [(0, .ref (ad G 4 i0)), (1, .int x1)] [] 0 _
  unfold f_Mo_warm
  refine z_aload_n (pc := 0) hX dX5_warm_0 rfl 0 rfl ?_
  refine z_iconst (pc := 1) hX dX5_warm_1 ic_0 ?_
  refine z_bipush (pc := 2) hX dX5_warm_2 bp_99 ?_
  refine z_aload_n (pc := 4) hX dX5_warm_4 rfl 0 rfl ?_
  refine gf_4_0C (pc := 5) hX h0 q_64 dX5_warm_5 ?_
  refine z_iload_n (pc := 8) hX dX5_warm_8 rfl 1 rfl ?_
  refine z_iadd (pc := 9) hX dX5_warm_9 ?_
  refine z_min (pc := 10) hX q_541 q_542 q_18 q_543 (Nat.le_of_ble_eq_true rfl) (Nat.le_of_ble_eq_true rfl) dX5_warm_10 ?_
  refine z_max (pc := 13) hX q_544 q_545 q_18 q_546 (Nat.le_of_ble_eq_true rfl) (Nat.le_of_ble_eq_true rfl) dX5_warm_13 ?_
  refine pf_4_0C (pc := 16) hX h0 q_64 dX5_warm_16 ?_
  refine z_lts (fun s1 => ?_)
  exact z_retV (pc := 19) hX dX5_warm_19
theorem hd_X5_pass : yX5_pass.cls ≠ "java/lang/invoke/MethodHandle" ∧ yX5_pass.cls ≠ "java/lang/invoke/VarHandle" ∧ (parseMethodDescriptor yX5_pass.desc).map (fun d => d.parameters.length) = some 2 := by decide +kernel
def l_Mo_pass_2 (i0 : Nat) (x1 : Int32) (x2 : Int32) (K2 : Sto → Option (Sto)) (rc6 : Sto → Int32 → Option (Sto)) (s4 : Sto) (v3_5 : Int32) : Option (Sto) :=
  if x1 ≤ v3_5 then K2 s4 else bV (f_Mo_warm s4 i0 x2) (fun s7 => rc6 s7 (v3_5 + (1 : Int32)))
def f_Mo_pass (s : Sto) (i0 : Nat) (x1 : Int32) (x2 : Int32) : Option (Sto) :=
  jn (fun s1 => lt (st s1 4 i0 1 ((s1 4 i0 1) + x1)) (fun s3 => some s3)) (fun K2 => fx 1000 (l_Mo_pass_2 i0 x1 x2 K2) (fun _ _ => none) s (0 : Int32))
set_option maxRecDepth 100000 in
set_option maxHeartbeats 4000000 in
theorem c_Mo_pass {G : Gb} {l : Launch} {o : Sto} {L : Lng} (hG : GA G) (s : Sto) (i0 : Nat) (x1 : Int32) (x2 : Int32) (h0 : V 4 i0) : CT G l (EC o L) pvV psV yX5_pass cX5_pass 4 none 2 51 [.ref (ad G 4 i0), .int x1, .int x2] s (f_Mo_pass s i0 x1 x2) := by
  refine CT.of hG (by decide) (Nat.le_of_ble_eq_true rfl) (fun X hX => ?_)
  have hX : OX G X l cX5_pass 4 "CrownTwo$Moment" none 2 51 := hX
  show ZR G X (EC o L) pvV psV 4 s [(0, .ref (ad G 4 i0)), (1, .int x1), (2, .int x2)] [] 0 _
  unfold f_Mo_pass
  refine z_iconst (pc := 0) hX dX5_pass_0 ic_0 ?_
  refine z_istore_n (pc := 1) (ls' := [(3, .int (0 : Int32)), (0, .ref (ad G 4 i0)), (1, .int x1), (2, .int x2)]) hX dX5_pass_1 rfl (by decide) rfl ?_
  refine z_jn (P := fun K2 => ∀ (s1 : Sto), ZR G X (EC o L) pvV psV 4 s1 [(0, .ref (ad G 4 i0)), (1, .int x1)] [] 18 (K2 s1)) ?_ ?_
  · intro s1
    refine z_aload_n (pc := 18) hX dX5_pass_18 rfl 0 rfl ?_
    refine z_dup (pc := 19) hX dX5_pass_19 rfl ?_
    refine gf_4_1C (pc := 20) hX h0 q_67 dX5_pass_20 ?_
    refine z_iload_n (pc := 23) hX dX5_pass_23 rfl 1 rfl ?_
    refine z_iadd (pc := 24) hX dX5_pass_24 ?_
    refine pf_4_1C (pc := 25) hX h0 q_67 dX5_pass_25 ?_
    refine z_lts (fun s3 => ?_)
    exact z_retV (pc := 28) hX dX5_pass_28
  · intro K2 hK2
    refine z_ls [1, 2, 3, 0] rfl ?_
    refine (fx_P (F := l_Mo_pass_2 i0 x1 x2 K2) (b := (fun _ _ => none)) (fun rc6 => ∀ (s4 : Sto) (v3_5 : Int32), ZR G X (EC o L) pvV psV 4 s4 [(0, .ref (ad G 4 i0)), (1, .int x1), (2, .int x2), (3, .int v3_5)] [] 2 (rc6 s4 v3_5)) ?_ ?_ 1000) s (0 : Int32)
    · intro s4 v3_5; exact z_none
    · intro rc6 hrc6 s4 v3_5
      unfold l_Mo_pass_2
      refine z_iload_n (pc := 2) hX dX5_pass_2 rfl 3 rfl ?_
      refine z_iload_n (pc := 3) hX dX5_pass_3 rfl 1 rfl ?_
      refine z_icmp_ge (pc := 4) (tgt := 18) hX dX5_pass_4 rfl ?_ ?_
      · exact z_ls [0, 1] rfl (hK2 s4)
      · refine z_aload_n (pc := 7) hX dX5_pass_7 rfl 0 rfl ?_
        refine z_iload_n (pc := 8) hX dX5_pass_8 rfl 2 rfl ?_
        refine z_rV (run_V (pc := 9) (As := [.int x2]) hX (rc_4 h0) ⟨q_594, q_540, q_3⟩ q_538 q_539 hd_X5_warm ⟨Nat.le_of_ble_eq_true rfl, Nat.le_of_ble_eq_true rfl⟩ (c_Mo_warm hG s4 i0 x2 h0) rfl rfl (Nat.le_of_ble_eq_true rfl) dX5_pass_9) (fun s7 => ?_)
        refine z_iinc (pc := 12) (n := 3) (v := v3_5 + (1 : Int32)) (ls' := [(3, .int (v3_5 + (1 : Int32))), (0, .ref (ad G 4 i0)), (1, .int x1), (2, .int x2)]) hX dX5_pass_12 rfl (by rw [show Int32.ofInt (1) = 1 by decide +kernel]) (by decide) rfl ?_
        refine z_goto (pc := 15) (tgt := 2) hX dX5_pass_15 rfl ?_
        exact z_ls [1, 2, 3, 0] rfl (hrc6 s7 (v3_5 + (1 : Int32)))
theorem hd_X5_friendly : yX5_friendly.cls ≠ "java/lang/invoke/MethodHandle" ∧ yX5_friendly.cls ≠ "java/lang/invoke/VarHandle" ∧ (parseMethodDescriptor yX5_friendly.desc).map (fun d => d.parameters.length) = some 0 := by decide +kernel
def f_Mo_friendly (s : Sto) (i0 : Nat) : Option (Int32) :=
  if (10 : Int32) ≤ (s 4 i0 0) then some (0 : Int32) else some (1 : Int32)
set_option maxRecDepth 100000 in
set_option maxHeartbeats 4000000 in
theorem c_Mo_friendly {G : Gb} {l : Launch} {o : Sto} {L : Lng} (hG : GA G) (s : Sto) (i0 : Nat) (h0 : V 4 i0) : CT G l (EC o L) pvP (psP s) yX5_friendly cX5_friendly 1 (some .boolean) 0 0 [.ref (ad G 4 i0)] s (f_Mo_friendly s i0) := by
  refine CT.of hG (by decide) (Nat.le_of_ble_eq_true rfl) (fun X hX => ?_)
  have hX : OX G X l cX5_friendly 1 "CrownTwo$Moment" (some .boolean) 0 0 := hX
  show ZR G X (EC o L) pvP (psP s) 1 s [(0, .ref (ad G 4 i0))] [] 0 _
  unfold f_Mo_friendly
  refine z_aload_n (pc := 0) hX dX5_friendly_0 rfl 0 rfl ?_
  refine gf_4_0C (pc := 1) hX h0 q_64 dX5_friendly_1 ?_
  refine z_bipush (pc := 4) hX dX5_friendly_4 bp_10 ?_
  refine z_icmp_ge (pc := 6) (tgt := 13) hX dX5_friendly_6 rfl ?_ ?_
  · refine z_iconst (pc := 13) hX dX5_friendly_13 ic_0 ?_
    exact z_retPc (pc := 14) hX dX5_friendly_14 (by decide)
  · refine z_iconst (pc := 9) hX dX5_friendly_9 ic_1 ?_
    refine z_goto (pc := 10) (tgt := 14) hX dX5_friendly_10 rfl ?_
    exact z_retPc (pc := 14) hX dX5_friendly_14 (by decide)
theorem hd_X5_isDone : yX5_isDone.cls ≠ "java/lang/invoke/MethodHandle" ∧ yX5_isDone.cls ≠ "java/lang/invoke/VarHandle" ∧ (parseMethodDescriptor yX5_isDone.desc).map (fun d => d.parameters.length) = some 1 := by decide +kernel
def f_Mo_isDone (s : Sto) (i0 : Nat) (x1 : Int32) : Option (Int32) :=
  if ((s 4 i0 2) &&& ((1 : Int32) <<< (x1 &&& 31))) = (0 : Int32) then some (0 : Int32) else some (1 : Int32)
set_option maxRecDepth 100000 in
set_option maxHeartbeats 4000000 in
theorem c_Mo_isDone {G : Gb} {l : Launch} {o : Sto} {L : Lng} (hG : GA G) (s : Sto) (i0 : Nat) (x1 : Int32) (h0 : V 4 i0) : CT G l (EC o L) pvP (psP s) yX5_isDone cX5_isDone 2 (some .boolean) 0 0 [.ref (ad G 4 i0), .int x1] s (f_Mo_isDone s i0 x1) := by
  refine CT.of hG (by decide) (Nat.le_of_ble_eq_true rfl) (fun X hX => ?_)
  have hX : OX G X l cX5_isDone 2 "CrownTwo$Moment" (some .boolean) 0 0 := hX
  show ZR G X (EC o L) pvP (psP s) 2 s [(0, .ref (ad G 4 i0)), (1, .int x1)] [] 0 _
  unfold f_Mo_isDone
  refine z_aload_n (pc := 0) hX dX5_isDone_0 rfl 0 rfl ?_
  refine gf_4_2C (pc := 1) hX h0 q_70 dX5_isDone_1 ?_
  refine z_iconst (pc := 4) hX dX5_isDone_4 ic_1 ?_
  refine z_iload_n (pc := 5) hX dX5_isDone_5 rfl 1 rfl ?_
  refine z_ishl (pc := 6) hX dX5_isDone_6 ?_
  refine z_iand (pc := 7) hX dX5_isDone_7 ?_
  refine z_if_eq (pc := 8) (tgt := 15) hX dX5_isDone_8 rfl ?_ ?_
  · refine z_iconst (pc := 15) hX dX5_isDone_15 ic_0 ?_
    exact z_retPc (pc := 16) hX dX5_isDone_16 (by decide)
  · refine z_iconst (pc := 11) hX dX5_isDone_11 ic_1 ?_
    refine z_goto (pc := 12) (tgt := 16) hX dX5_isDone_12 rfl ?_
    exact z_retPc (pc := 16) hX dX5_isDone_16 (by decide)
theorem hd_X5_sideOf : yX5_sideOf.cls ≠ "java/lang/invoke/MethodHandle" ∧ yX5_sideOf.cls ≠ "java/lang/invoke/VarHandle" ∧ (parseMethodDescriptor yX5_sideOf.desc).map (fun d => d.parameters.length) = some 1 := by decide +kernel
def f_Mo_sideOf (s : Sto) (i0 : Nat) (x1 : Int32) : Option (Int32) :=
  if x1 = (s 4 i0 3) then some (1 : Int32) else if x1 = (s 4 i0 4) then some (2 : Int32) else some (0 : Int32)
set_option maxRecDepth 100000 in
set_option maxHeartbeats 4000000 in
theorem c_Mo_sideOf {G : Gb} {l : Launch} {o : Sto} {L : Lng} (hG : GA G) (s : Sto) (i0 : Nat) (x1 : Int32) (h0 : V 4 i0) : CT G l (EC o L) pvP (psP s) yX5_sideOf cX5_sideOf 2 (some .int) 0 0 [.ref (ad G 4 i0), .int x1] s (f_Mo_sideOf s i0 x1) := by
  refine CT.of hG (by decide) (Nat.le_of_ble_eq_true rfl) (fun X hX => ?_)
  have hX : OX G X l cX5_sideOf 2 "CrownTwo$Moment" (some .int) 0 0 := hX
  show ZR G X (EC o L) pvP (psP s) 2 s [(0, .ref (ad G 4 i0)), (1, .int x1)] [] 0 _
  unfold f_Mo_sideOf
  refine z_iload_n (pc := 0) hX dX5_sideOf_0 rfl 1 rfl ?_
  refine z_aload_n (pc := 1) hX dX5_sideOf_1 rfl 0 rfl ?_
  refine gf_4_3C (pc := 2) hX h0 q_73 dX5_sideOf_2 ?_
  refine z_icmp_ne (pc := 5) (tgt := 10) hX dX5_sideOf_5 rfl ?_ ?_
  · refine z_iload_n (pc := 10) hX dX5_sideOf_10 rfl 1 rfl ?_
    refine z_aload_n (pc := 11) hX dX5_sideOf_11 rfl 0 rfl ?_
    refine gf_4_4C (pc := 12) hX h0 q_77 dX5_sideOf_12 ?_
    refine z_icmp_ne (pc := 15) (tgt := 22) hX dX5_sideOf_15 rfl ?_ ?_
    · refine z_iconst (pc := 22) hX dX5_sideOf_22 ic_0 ?_
      exact z_retP (pc := 23) hX dX5_sideOf_23
    · refine z_iconst (pc := 18) hX dX5_sideOf_18 ic_2 ?_
      refine z_goto (pc := 19) (tgt := 23) hX dX5_sideOf_19 rfl ?_
      exact z_retP (pc := 23) hX dX5_sideOf_23
  · refine z_iconst (pc := 8) hX dX5_sideOf_8 ic_1 ?_
    exact z_retP (pc := 9) hX dX5_sideOf_9
theorem hd_X6_put : yX6_put.cls ≠ "java/lang/invoke/MethodHandle" ∧ yX6_put.cls ≠ "java/lang/invoke/VarHandle" ∧ (parseMethodDescriptor yX6_put.desc).map (fun d => d.parameters.length) = some 5 := by decide +kernel
def f_No_put (s : Sto) (i0 : Nat) (x1 : Int32) (x2 : Int32) (x3 : Int32) (x4 : Int32) (x5 : Int32) : Option (Sto) :=
  lt (st s 3 i0 0 x1) (fun s1 => lt (st s1 3 i0 1 x2) (fun s2 => lt (st s2 3 i0 2 x3) (fun s3 => lt (st s3 3 i0 3 x4) (fun s4 => lt (st s4 3 i0 4 x5) (fun s5 => some s5)))))
set_option maxRecDepth 100000 in
set_option maxHeartbeats 4000000 in
theorem c_No_put {G : Gb} {l : Launch} {o : Sto} {L : Lng} (hG : GA G) (s : Sto) (i0 : Nat) (x1 : Int32) (x2 : Int32) (x3 : Int32) (x4 : Int32) (x5 : Int32) (h0 : V 3 i0) : CT G l (EC o L) pvV psV yX6_put cX6_put 6 none 0 0 [.ref (ad G 3 i0), .int x1, .int x2, .int x3, .int x4, .int x5] s (f_No_put s i0 x1 x2 x3 x4 x5) := by
  refine CT.of hG (by decide) (Nat.le_of_ble_eq_true rfl) (fun X hX => ?_)
  have hX : OX G X l cX6_put 6 "CrownTwo$Note" none 0 0 := hX
  show ZR G X (EC o L) pvV psV 6 s [(0, .ref (ad G 3 i0)), (1, .int x1), (2, .int x2), (3, .int x3), (4, .int x4), (5, .int x5)] [] 0 _
  unfold f_No_put
  refine z_aload_n (pc := 0) hX dX6_put_0 rfl 0 rfl ?_
  refine z_iload_n (pc := 1) hX dX6_put_1 rfl 1 rfl ?_
  refine pf_3_0C (pc := 2) hX h0 q_179 dX6_put_2 ?_
  refine z_lts (fun s1 => ?_)
  refine z_aload_n (pc := 5) hX dX6_put_5 rfl 0 rfl ?_
  refine z_iload_n (pc := 6) hX dX6_put_6 rfl 2 rfl ?_
  refine pf_3_1C (pc := 7) hX h0 q_181 dX6_put_7 ?_
  refine z_lts (fun s2 => ?_)
  refine z_aload_n (pc := 10) hX dX6_put_10 rfl 0 rfl ?_
  refine z_iload_n (pc := 11) hX dX6_put_11 rfl 3 rfl ?_
  refine pf_3_2C (pc := 12) hX h0 q_183 dX6_put_12 ?_
  refine z_lts (fun s3 => ?_)
  refine z_aload_n (pc := 15) hX dX6_put_15 rfl 0 rfl ?_
  refine z_iload (pc := 16) hX dX6_put_16 4 rfl ?_
  refine pf_3_3C (pc := 18) hX h0 q_185 dX6_put_18 ?_
  refine z_lts (fun s4 => ?_)
  refine z_aload_n (pc := 21) hX dX6_put_21 rfl 0 rfl ?_
  refine z_iload (pc := 22) hX dX6_put_22 5 rfl ?_
  refine pf_3_4C (pc := 24) hX h0 q_187 dX6_put_24 ?_
  refine z_lts (fun s5 => ?_)
  exact z_retV (pc := 27) hX dX6_put_27
theorem hd_X6_become : yX6_become.cls ≠ "java/lang/invoke/MethodHandle" ∧ yX6_become.cls ≠ "java/lang/invoke/VarHandle" ∧ (parseMethodDescriptor yX6_become.desc).map (fun d => d.parameters.length) = some 1 := by decide +kernel
def f_No_become (s : Sto) (i0 : Nat) (i1 : Nat) : Option (Sto) :=
  bV (f_No_put s i0 (s 3 i1 0) (s 3 i1 1) (s 3 i1 2) (s 3 i1 3) (s 3 i1 4)) (fun s1 => some s1)
set_option maxRecDepth 100000 in
set_option maxHeartbeats 4000000 in
theorem c_No_become {G : Gb} {l : Launch} {o : Sto} {L : Lng} (hG : GA G) (s : Sto) (i0 : Nat) (i1 : Nat) (h0 : V 3 i0) (h1 : V 3 i1) : CT G l (EC o L) pvV psV yX6_become cX6_become 2 none 1 25 [.ref (ad G 3 i0), .ref (ad G 3 i1)] s (f_No_become s i0 i1) := by
  refine CT.of hG (by decide) (Nat.le_of_ble_eq_true rfl) (fun X hX => ?_)
  have hX : OX G X l cX6_become 2 "CrownTwo$Note" none 1 25 := hX
  show ZR G X (EC o L) pvV psV 2 s [(0, .ref (ad G 3 i0)), (1, .ref (ad G 3 i1))] [] 0 _
  unfold f_No_become
  refine z_aload_n (pc := 0) hX dX6_become_0 rfl 0 rfl ?_
  refine z_aload_n (pc := 1) hX dX6_become_1 rfl 1 rfl ?_
  refine gf_3_0C (pc := 2) hX h1 q_179 dX6_become_2 ?_
  refine z_aload_n (pc := 5) hX dX6_become_5 rfl 1 rfl ?_
  refine gf_3_1C (pc := 6) hX h1 q_181 dX6_become_6 ?_
  refine z_aload_n (pc := 9) hX dX6_become_9 rfl 1 rfl ?_
  refine gf_3_2C (pc := 10) hX h1 q_183 dX6_become_10 ?_
  refine z_aload_n (pc := 13) hX dX6_become_13 rfl 1 rfl ?_
  refine gf_3_3C (pc := 14) hX h1 q_185 dX6_become_14 ?_
  refine z_aload_n (pc := 17) hX dX6_become_17 rfl 1 rfl ?_
  refine gf_3_4C (pc := 18) hX h1 q_187 dX6_become_18 ?_
  refine z_rV (run_V (pc := 21) (As := [.int (s 3 i1 0), .int (s 3 i1 1), .int (s 3 i1 2), .int (s 3 i1 3), .int (s 3 i1 4)]) hX (rc_3 h0) ⟨q_452, q_455, q_12⟩ q_453 q_454 hd_X6_put ⟨Nat.le_of_ble_eq_true rfl, Nat.le_of_ble_eq_true rfl⟩ (c_No_put hG s i0 (s 3 i1 0) (s 3 i1 1) (s 3 i1 2) (s 3 i1 3) (s 3 i1 4) h0) rfl rfl (Nat.le_of_ble_eq_true rfl) dX6_become_21) (fun s1 => ?_)
  exact z_retV (pc := 24) hX dX6_become_24
theorem hd_X6_addTo : yX6_addTo.cls ≠ "java/lang/invoke/MethodHandle" ∧ yX6_addTo.cls ≠ "java/lang/invoke/VarHandle" ∧ (parseMethodDescriptor yX6_addTo.desc).map (fun d => d.parameters.length) = some 1 := by decide +kernel
def f_No_addTo (s : Sto) (i0 : Nat) (x1 : Int64) : Option (Int64) :=
  lt (((31 : Int64) * x1) + (Int32.toInt64 (s 3 i0 0))) (fun v3_1 => lt (((31 : Int64) * v3_1) + (Int32.toInt64 (s 3 i0 1))) (fun v3_2 => lt (((31 : Int64) * v3_2) + (Int32.toInt64 (s 3 i0 2))) (fun v3_3 => lt (((31 : Int64) * v3_3) + (Int32.toInt64 (s 3 i0 3))) (fun v3_4 => some (((31 : Int64) * v3_4) + (Int32.toInt64 (s 3 i0 4)))))))
set_option maxRecDepth 100000 in
set_option maxHeartbeats 4000000 in
theorem c_No_addTo {G : Gb} {l : Launch} {o : Sto} {L : Lng} (hG : GA G) (s : Sto) (i0 : Nat) (x1 : Int64) (h0 : V 3 i0) : CT G l (EC o L) pvL (psP s) yX6_addTo cX6_addTo 5 (some .long) 0 0 [.ref (ad G 3 i0), .long x1] s (f_No_addTo s i0 x1) := by
  refine CT.of hG (by decide) (Nat.le_of_ble_eq_true rfl) (fun X hX => ?_)
  have hX : OX G X l cX6_addTo 5 "CrownTwo$Note" (some .long) 0 0 := hX
  show ZR G X (EC o L) pvL (psP s) 5 s [(0, .ref (ad G 3 i0)), (1, .long x1)] [] 0 _
  unfold f_No_addTo
  refine z_ldc2 (pc := 0) hX q_801 dX6_addTo_0 ?_
  refine z_lload_n (pc := 3) hX dX6_addTo_3 rfl 1 rfl ?_
  refine z_lmul (pc := 4) hX dX6_addTo_4 ?_
  refine z_aload_n (pc := 5) hX dX6_addTo_5 rfl 0 rfl ?_
  refine gf_3_0C (pc := 6) hX h0 q_179 dX6_addTo_6 ?_
  refine z_i2l (pc := 9) hX dX6_addTo_9 ?_
  refine z_ladd (pc := 10) hX dX6_addTo_10 ?_
  refine z_ltl (pc := 11) (fun v3_1 => ?_)
  refine z_lstore_n (pc := 11) (ls' := [(3, .long v3_1), (0, .ref (ad G 3 i0)), (1, .long x1)]) hX dX6_addTo_11 rfl (by decide) rfl ?_
  refine z_ldc2 (pc := 12) hX q_801 dX6_addTo_12 ?_
  refine z_lload_n (pc := 15) hX dX6_addTo_15 rfl 0 rfl ?_
  refine z_lmul (pc := 16) hX dX6_addTo_16 ?_
  refine z_aload_n (pc := 17) hX dX6_addTo_17 rfl 1 rfl ?_
  refine gf_3_1C (pc := 18) hX h0 q_181 dX6_addTo_18 ?_
  refine z_i2l (pc := 21) hX dX6_addTo_21 ?_
  refine z_ladd (pc := 22) hX dX6_addTo_22 ?_
  refine z_ltl (pc := 23) (fun v3_2 => ?_)
  refine z_lstore_n (pc := 23) (ls' := [(3, .long v3_2), (0, .ref (ad G 3 i0)), (1, .long x1)]) hX dX6_addTo_23 rfl (by decide) rfl ?_
  refine z_ldc2 (pc := 24) hX q_801 dX6_addTo_24 ?_
  refine z_lload_n (pc := 27) hX dX6_addTo_27 rfl 0 rfl ?_
  refine z_lmul (pc := 28) hX dX6_addTo_28 ?_
  refine z_aload_n (pc := 29) hX dX6_addTo_29 rfl 1 rfl ?_
  refine gf_3_2C (pc := 30) hX h0 q_183 dX6_addTo_30 ?_
  refine z_i2l (pc := 33) hX dX6_addTo_33 ?_
  refine z_ladd (pc := 34) hX dX6_addTo_34 ?_
  refine z_ltl (pc := 35) (fun v3_3 => ?_)
  refine z_lstore_n (pc := 35) (ls' := [(3, .long v3_3), (0, .ref (ad G 3 i0)), (1, .long x1)]) hX dX6_addTo_35 rfl (by decide) rfl ?_
  refine z_ldc2 (pc := 36) hX q_801 dX6_addTo_36 ?_
  refine z_lload_n (pc := 39) hX dX6_addTo_39 rfl 0 rfl ?_
  refine z_lmul (pc := 40) hX dX6_addTo_40 ?_
  refine z_aload_n (pc := 41) hX dX6_addTo_41 rfl 1 rfl ?_
  refine gf_3_3C (pc := 42) hX h0 q_185 dX6_addTo_42 ?_
  refine z_i2l (pc := 45) hX dX6_addTo_45 ?_
  refine z_ladd (pc := 46) hX dX6_addTo_46 ?_
  refine z_ltl (pc := 47) (fun v3_4 => ?_)
  refine z_lstore_n (pc := 47) (ls' := [(3, .long v3_4), (0, .ref (ad G 3 i0)), (1, .long x1)]) hX dX6_addTo_47 rfl (by decide) rfl ?_
  refine z_ldc2 (pc := 48) hX q_801 dX6_addTo_48 ?_
  refine z_lload_n (pc := 51) hX dX6_addTo_51 rfl 0 rfl ?_
  refine z_lmul (pc := 52) hX dX6_addTo_52 ?_
  refine z_aload_n (pc := 53) hX dX6_addTo_53 rfl 1 rfl ?_
  refine gf_3_4C (pc := 54) hX h0 q_187 dX6_addTo_54 ?_
  refine z_i2l (pc := 57) hX dX6_addTo_57 ?_
  refine z_ladd (pc := 58) hX dX6_addTo_58 ?_
  exact z_retL (pc := 59) hX dX6_addTo_59
theorem hd_X7_lifts : yX7_lifts.cls ≠ "java/lang/invoke/MethodHandle" ∧ yX7_lifts.cls ≠ "java/lang/invoke/VarHandle" ∧ (parseMethodDescriptor yX7_lifts.desc).map (fun d => d.parameters.length) = some 4 := by decide +kernel
def f_Pl_lifts (x1 : Int32) (x2 : Int32) (x3 : Int32) (x4 : Int32) : Option (Int32) :=
  jn (some (1 : Int32)) (fun j1 => if x1 = (0 : Int32) then jn (some (0 : Int32)) (fun j2 => if x2 = (0 : Int32) then if (60 : Int32) ≤ x3 then j2 else j1 else j2) else j1)
set_option maxRecDepth 100000 in
set_option maxHeartbeats 4000000 in
theorem c_Pl_lifts {G : Gb} {l : Launch} {o : Sto} {L : Lng} (hG : GA G) (s : Sto) (i0 : Nat) (x1 : Int32) (x2 : Int32) (x3 : Int32) (x4 : Int32) (h0 : V 6 i0) : CT G l (EC o L) pvP (psP s) yX7_lifts cX7_lifts 5 (some .boolean) 0 0 [.ref (ad G 6 i0), .int x1, .int x2, .int x3, .int x4] s (f_Pl_lifts x1 x2 x3 x4) := by
  refine CT.of hG (by decide) (Nat.le_of_ble_eq_true rfl) (fun X hX => ?_)
  have hX : OX G X l cX7_lifts 5 "CrownTwo$Plain" (some .boolean) 0 0 := hX
  show ZR G X (EC o L) pvP (psP s) 5 s [(0, .ref (ad G 6 i0)), (1, .int x1), (2, .int x2), (3, .int x3), (4, .int x4)] [] 0 _
  unfold f_Pl_lifts
  refine z_iload_n (pc := 0) hX dX7_lifts_0 rfl 1 rfl ?_
  refine z_jn (P := fun j1 => ZR G X (EC o L) pvP (psP s) 5 s [] [] 14 (j1)) ?_ ?_
  · skip
    refine z_iconst (pc := 14) hX dX7_lifts_14 ic_1 ?_
    refine z_goto (pc := 15) (tgt := 19) hX dX7_lifts_15 rfl ?_
    exact z_retPc (pc := 19) hX dX7_lifts_19 (by decide)
  · intro j1 hj1
    refine z_if_ne (pc := 1) (tgt := 14) hX dX7_lifts_1 rfl ?_ ?_
    · exact z_ls [] rfl (hj1)
    · refine z_iload_n (pc := 4) hX dX7_lifts_4 rfl 2 rfl ?_
      refine z_jn (P := fun j2 => ZR G X (EC o L) pvP (psP s) 5 s [] [] 18 (j2)) ?_ ?_
      · skip
        refine z_iconst (pc := 18) hX dX7_lifts_18 ic_0 ?_
        exact z_retPc (pc := 19) hX dX7_lifts_19 (by decide)
      · intro j2 hj2
        refine z_if_ne (pc := 5) (tgt := 18) hX dX7_lifts_5 rfl ?_ ?_
        · exact z_ls [] rfl (hj2)
        · refine z_iload_n (pc := 8) hX dX7_lifts_8 rfl 3 rfl ?_
          refine z_bipush (pc := 9) hX dX7_lifts_9 bp_60 ?_
          refine z_icmp_ge (pc := 11) (tgt := 18) hX dX7_lifts_11 rfl ?_ ?_
          · exact z_ls [] rfl (hj2)
          · exact z_ls [] rfl (hj1)
theorem hd_X7_adds : yX7_adds.cls ≠ "java/lang/invoke/MethodHandle" ∧ yX7_adds.cls ≠ "java/lang/invoke/VarHandle" ∧ (parseMethodDescriptor yX7_adds.desc).map (fun d => d.parameters.length) = some 1 := by decide +kernel
def f_Pl_adds (x1 : Int32) : Option (Int32) :=
  some (x1 / (5 : Int32))
set_option maxRecDepth 100000 in
set_option maxHeartbeats 4000000 in
theorem c_Pl_adds {G : Gb} {l : Launch} {o : Sto} {L : Lng} (hG : GA G) (s : Sto) (i0 : Nat) (x1 : Int32) (h0 : V 6 i0) : CT G l (EC o L) pvP (psP s) yX7_adds cX7_adds 2 (some .int) 0 0 [.ref (ad G 6 i0), .int x1] s (f_Pl_adds x1) := by
  refine CT.of hG (by decide) (Nat.le_of_ble_eq_true rfl) (fun X hX => ?_)
  have hX : OX G X l cX7_adds 2 "CrownTwo$Plain" (some .int) 0 0 := hX
  show ZR G X (EC o L) pvP (psP s) 2 s [(0, .ref (ad G 6 i0)), (1, .int x1)] [] 0 _
  unfold f_Pl_adds
  refine z_iload_n (pc := 0) hX dX7_adds_0 rfl 1 rfl ?_
  refine z_iconst (pc := 1) hX dX7_adds_1 ic_5 ?_
  refine z_idivc (pc := 2) hX dX7_adds_2 (by decide +kernel) ?_
  exact z_retP (pc := 3) hX dX7_adds_3
theorem hd_X8_lifts : yX8_lifts.cls ≠ "java/lang/invoke/MethodHandle" ∧ yX8_lifts.cls ≠ "java/lang/invoke/VarHandle" ∧ (parseMethodDescriptor yX8_lifts.desc).map (fun d => d.parameters.length) = some 4 := by decide +kernel
def f_Pr_lifts (x1 : Int32) (x2 : Int32) (x3 : Int32) (x4 : Int32) : Option (Int32) :=
  if x1 = (0 : Int32) ∨ x1 = (1 : Int32) then some x1 else none
set_option maxRecDepth 100000 in
set_option maxHeartbeats 4000000 in
theorem c_Pr_lifts {G : Gb} {l : Launch} {o : Sto} {L : Lng} (hG : GA G) (s : Sto) (i0 : Nat) (x1 : Int32) (x2 : Int32) (x3 : Int32) (x4 : Int32) (h0 : V 6 i0) : CT G l (EC o L) pvP (psP s) yX8_lifts cX8_lifts 5 (some .boolean) 0 0 [.ref (ad G 6 i0), .int x1, .int x2, .int x3, .int x4] s (f_Pr_lifts x1 x2 x3 x4) := by
  refine CT.of hG (by decide) (Nat.le_of_ble_eq_true rfl) (fun X hX => ?_)
  have hX : OX G X l cX8_lifts 5 "CrownTwo$Proud" (some .boolean) 0 0 := hX
  show ZR G X (EC o L) pvP (psP s) 5 s [(0, .ref (ad G 6 i0)), (1, .int x1), (2, .int x2), (3, .int x3), (4, .int x4)] [] 0 _
  unfold f_Pr_lifts
  refine z_iload_n (pc := 0) hX dX8_lifts_0 rfl 1 rfl ?_
  exact z_retPz (pc := 1) hX dX8_lifts_1
theorem hd_X9_lifts : yX9_lifts.cls ≠ "java/lang/invoke/MethodHandle" ∧ yX9_lifts.cls ≠ "java/lang/invoke/VarHandle" ∧ (parseMethodDescriptor yX9_lifts.desc).map (fun d => d.parameters.length) = some 4 := by decide +kernel
def f_Su_lifts (x1 : Int32) (x2 : Int32) (x3 : Int32) (x4 : Int32) : Option (Int32) :=
  bP (f_Pl_lifts x1 x2 x3 x4) (fun r1 => jn (some (0 : Int32)) (fun j2 => if r1 = (0 : Int32) then j2 else if (80 : Int32) ≤ x3 then j2 else some (1 : Int32)))
set_option maxRecDepth 100000 in
set_option maxHeartbeats 4000000 in
theorem c_Su_lifts {G : Gb} {l : Launch} {o : Sto} {L : Lng} (hG : GA G) (s : Sto) (i0 : Nat) (x1 : Int32) (x2 : Int32) (x3 : Int32) (x4 : Int32) (h0 : V 6 i0) : CT G l (EC o L) pvP (psP s) yX9_lifts cX9_lifts 5 (some .boolean) 1 24 [.ref (ad G 6 i0), .int x1, .int x2, .int x3, .int x4] s (f_Su_lifts x1 x2 x3 x4) := by
  refine CT.of hG (by decide) (Nat.le_of_ble_eq_true rfl) (fun X hX => ?_)
  have hX : OX G X l cX9_lifts 5 "CrownTwo$Sulky" (some .boolean) 1 24 := hX
  show ZR G X (EC o L) pvP (psP s) 5 s [(0, .ref (ad G 6 i0)), (1, .int x1), (2, .int x2), (3, .int x3), (4, .int x4)] [] 0 _
  unfold f_Su_lifts
  refine z_aload_n (pc := 0) hX dX9_lifts_0 rfl 0 rfl ?_
  refine z_iload_n (pc := 1) hX dX9_lifts_1 rfl 1 rfl ?_
  refine z_iload_n (pc := 2) hX dX9_lifts_2 rfl 2 rfl ?_
  refine z_iload_n (pc := 3) hX dX9_lifts_3 rfl 3 rfl ?_
  refine z_iload (pc := 4) hX dX9_lifts_4 4 rfl ?_
  refine z_rP (run_SU (pc := 6) (As := [.int x1, .int x2, .int x3, .int x4]) hX (rc_6 h0) ⟨q_531, q_536, q_4⟩ q_515 q_517 q_107 (by decide) hd_X7_lifts ⟨Nat.le_of_ble_eq_true rfl, Nat.le_of_ble_eq_true rfl⟩ (c_Pl_lifts hG s i0 x1 x2 x3 x4 h0) rfl rfl (Nat.le_of_ble_eq_true rfl) dX9_lifts_6) (fun r1 => ?_)
  refine z_jn (P := fun j2 => ZR G X (EC o L) pvP (psP s) 5 s [] [] 22 (j2)) ?_ ?_
  · skip
    refine z_iconst (pc := 22) hX dX9_lifts_22 ic_0 ?_
    exact z_retPc (pc := 23) hX dX9_lifts_23 (by decide)
  · intro j2 hj2
    refine z_if_eq (pc := 9) (tgt := 22) hX dX9_lifts_9 rfl ?_ ?_
    · exact z_ls [] rfl (hj2)
    · refine z_iload_n (pc := 12) hX dX9_lifts_12 rfl 3 rfl ?_
      refine z_bipush (pc := 13) hX dX9_lifts_13 bp_80 ?_
      refine z_icmp_ge (pc := 15) (tgt := 22) hX dX9_lifts_15 rfl ?_ ?_
      · exact z_ls [] rfl (hj2)
      · refine z_iconst (pc := 18) hX dX9_lifts_18 ic_1 ?_
        refine z_goto (pc := 19) (tgt := 23) hX dX9_lifts_19 rfl ?_
        exact z_retPc (pc := 23) hX dX9_lifts_23 (by decide)
theorem hd_X9_adds : yX9_adds.cls ≠ "java/lang/invoke/MethodHandle" ∧ yX9_adds.cls ≠ "java/lang/invoke/VarHandle" ∧ (parseMethodDescriptor yX9_adds.desc).map (fun d => d.parameters.length) = some 1 := by decide +kernel
def f_Su_adds (x1 : Int32) : Option (Int32) :=
  bP (f_Pl_adds x1) (fun r1 => some (r1 + (1 : Int32)))
set_option maxRecDepth 100000 in
set_option maxHeartbeats 4000000 in
theorem c_Su_adds {G : Gb} {l : Launch} {o : Sto} {L : Lng} (hG : GA G) (s : Sto) (i0 : Nat) (x1 : Int32) (h0 : V 6 i0) : CT G l (EC o L) pvP (psP s) yX9_adds cX9_adds 2 (some .int) 1 21 [.ref (ad G 6 i0), .int x1] s (f_Su_adds x1) := by
  refine CT.of hG (by decide) (Nat.le_of_ble_eq_true rfl) (fun X hX => ?_)
  have hX : OX G X l cX9_adds 2 "CrownTwo$Sulky" (some .int) 1 21 := hX
  show ZR G X (EC o L) pvP (psP s) 2 s [(0, .ref (ad G 6 i0)), (1, .int x1)] [] 0 _
  unfold f_Su_adds
  refine z_aload_n (pc := 0) hX dX9_adds_0 rfl 0 rfl ?_
  refine z_iload_n (pc := 1) hX dX9_adds_1 rfl 1 rfl ?_
  refine z_rP (run_SU (pc := 2) (As := [.int x1]) hX (rc_6 h0) ⟨q_584, q_589, q_4⟩ q_569 q_571 q_107 (by decide) hd_X7_adds ⟨Nat.le_of_ble_eq_true rfl, Nat.le_of_ble_eq_true rfl⟩ (c_Pl_adds hG s i0 x1 h0) rfl rfl (Nat.le_of_ble_eq_true rfl) dX9_adds_2) (fun r1 => ?_)
  refine z_iconst (pc := 5) hX dX9_adds_5 ic_1 ?_
  refine z_iadd (pc := 6) hX dX9_adds_6 ?_
  exact z_retP (pc := 7) hX dX9_adds_7
theorem hd_X10_lifts : yX10_lifts.cls ≠ "java/lang/invoke/MethodHandle" ∧ yX10_lifts.cls ≠ "java/lang/invoke/VarHandle" ∧ (parseMethodDescriptor yX10_lifts.desc).map (fun d => d.parameters.length) = some 4 := by decide +kernel
def f_Ti_lifts (x1 : Int32) (x2 : Int32) (x3 : Int32) (x4 : Int32) : Option (Int32) :=
  bP (f_Su_lifts x1 x2 x3 x4) (fun r1 => jn (some (1 : Int32)) (fun j2 => if r1 = (0 : Int32) then if (x4 - x4 / (7 : Int32) * (7 : Int32)) = (0 : Int32) then j2 else some (0 : Int32) else j2))
set_option maxRecDepth 100000 in
set_option maxHeartbeats 4000000 in
theorem c_Ti_lifts {G : Gb} {l : Launch} {o : Sto} {L : Lng} (hG : GA G) (s : Sto) (i0 : Nat) (x1 : Int32) (x2 : Int32) (x3 : Int32) (x4 : Int32) (h0 : V 6 i0) : CT G l (EC o L) pvP (psP s) yX10_lifts cX10_lifts 5 (some .boolean) 2 48 [.ref (ad G 6 i0), .int x1, .int x2, .int x3, .int x4] s (f_Ti_lifts x1 x2 x3 x4) := by
  refine CT.of hG (by decide) (Nat.le_of_ble_eq_true rfl) (fun X hX => ?_)
  have hX : OX G X l cX10_lifts 5 "CrownTwo$Tired" (some .boolean) 2 48 := hX
  show ZR G X (EC o L) pvP (psP s) 5 s [(0, .ref (ad G 6 i0)), (1, .int x1), (2, .int x2), (3, .int x3), (4, .int x4)] [] 0 _
  unfold f_Ti_lifts
  refine z_aload_n (pc := 0) hX dX10_lifts_0 rfl 0 rfl ?_
  refine z_iload_n (pc := 1) hX dX10_lifts_1 rfl 1 rfl ?_
  refine z_iload_n (pc := 2) hX dX10_lifts_2 rfl 2 rfl ?_
  refine z_iload_n (pc := 3) hX dX10_lifts_3 rfl 3 rfl ?_
  refine z_iload (pc := 4) hX dX10_lifts_4 4 rfl ?_
  refine z_rP (run_SU (pc := 6) (As := [.int x1, .int x2, .int x3, .int x4]) hX (rc_6 h0) ⟨q_535, q_530, q_5⟩ q_529 q_1270 q_128 (by decide) hd_X9_lifts ⟨Nat.le_of_ble_eq_true rfl, Nat.le_of_ble_eq_true rfl⟩ (c_Su_lifts hG s i0 x1 x2 x3 x4 h0) rfl rfl (Nat.le_of_ble_eq_true rfl) dX10_lifts_6) (fun r1 => ?_)
  refine z_jn (P := fun j2 => ZR G X (EC o L) pvP (psP s) 5 s [] [] 20 (j2)) ?_ ?_
  · skip
    refine z_iconst (pc := 20) hX dX10_lifts_20 ic_1 ?_
    refine z_goto (pc := 21) (tgt := 25) hX dX10_lifts_21 rfl ?_
    exact z_retPc (pc := 25) hX dX10_lifts_25 (by decide)
  · intro j2 hj2
    refine z_if_ne (pc := 9) (tgt := 20) hX dX10_lifts_9 rfl ?_ ?_
    · exact z_ls [] rfl (hj2)
    · refine z_iload (pc := 12) hX dX10_lifts_12 4 rfl ?_
      refine z_bipush (pc := 14) hX dX10_lifts_14 bp_7 ?_
      refine z_iremc (pc := 16) hX dX10_lifts_16 (by decide +kernel) ?_
      refine z_if_ne (pc := 17) (tgt := 24) hX dX10_lifts_17 rfl ?_ ?_
      · refine z_iconst (pc := 24) hX dX10_lifts_24 ic_0 ?_
        exact z_retPc (pc := 25) hX dX10_lifts_25 (by decide)
      · exact z_ls [] rfl (hj2)
theorem hd_X10_adds : yX10_adds.cls ≠ "java/lang/invoke/MethodHandle" ∧ yX10_adds.cls ≠ "java/lang/invoke/VarHandle" ∧ (parseMethodDescriptor yX10_adds.desc).map (fun d => d.parameters.length) = some 1 := by decide +kernel
def f_Ti_adds (x1 : Int32) : Option (Int32) :=
  bP (f_Su_adds x1) (fun r1 => some (r1 / (2 : Int32)))
set_option maxRecDepth 100000 in
set_option maxHeartbeats 4000000 in
theorem c_Ti_adds {G : Gb} {l : Launch} {o : Sto} {L : Lng} (hG : GA G) (s : Sto) (i0 : Nat) (x1 : Int32) (h0 : V 6 i0) : CT G l (EC o L) pvP (psP s) yX10_adds cX10_adds 2 (some .int) 2 42 [.ref (ad G 6 i0), .int x1] s (f_Ti_adds x1) := by
  refine CT.of hG (by decide) (Nat.le_of_ble_eq_true rfl) (fun X hX => ?_)
  have hX : OX G X l cX10_adds 2 "CrownTwo$Tired" (some .int) 2 42 := hX
  show ZR G X (EC o L) pvP (psP s) 2 s [(0, .ref (ad G 6 i0)), (1, .int x1)] [] 0 _
  unfold f_Ti_adds
  refine z_aload_n (pc := 0) hX dX10_adds_0 rfl 0 rfl ?_
  refine z_iload_n (pc := 1) hX dX10_adds_1 rfl 1 rfl ?_
  refine z_rP (run_SU (pc := 2) (As := [.int x1]) hX (rc_6 h0) ⟨q_588, q_583, q_5⟩ q_582 q_1272 q_128 (by decide) hd_X9_adds ⟨Nat.le_of_ble_eq_true rfl, Nat.le_of_ble_eq_true rfl⟩ (c_Su_adds hG s i0 x1 h0) rfl rfl (Nat.le_of_ble_eq_true rfl) dX10_adds_2) (fun r1 => ?_)
  refine z_iconst (pc := 5) hX dX10_adds_5 ic_2 ?_
  refine z_idivc (pc := 6) hX dX10_adds_6 (by decide +kernel) ?_
  exact z_retP (pc := 7) hX dX10_adds_7
theorem hd_J6_bitCount_0f7a4 : yJ6_bitCount_0f7a4.cls ≠ "java/lang/invoke/MethodHandle" ∧ yJ6_bitCount_0f7a4.cls ≠ "java/lang/invoke/VarHandle" ∧ (parseMethodDescriptor yJ6_bitCount_0f7a4.desc).map (fun d => d.parameters.length) = some 1 := by decide +kernel
def f_J_bitCount (x0 : Int32) : Option (Int32) :=
  lt (x0 - (((Int32.toUInt32 x0 >>> (Int32.toUInt32 (1 : Int32) &&& Int32.toUInt32 31)).toInt32) &&& (1431655765 : Int32))) (fun v0_1 => lt ((v0_1 &&& (858993459 : Int32)) + (((Int32.toUInt32 v0_1 >>> (Int32.toUInt32 (2 : Int32) &&& Int32.toUInt32 31)).toInt32) &&& (858993459 : Int32))) (fun v0_2 => lt ((v0_2 + ((Int32.toUInt32 v0_2 >>> (Int32.toUInt32 (4 : Int32) &&& Int32.toUInt32 31)).toInt32)) &&& (252645135 : Int32)) (fun v0_3 => lt (v0_3 + ((Int32.toUInt32 v0_3 >>> (Int32.toUInt32 (8 : Int32) &&& Int32.toUInt32 31)).toInt32)) (fun v0_4 => lt (v0_4 + ((Int32.toUInt32 v0_4 >>> (Int32.toUInt32 (16 : Int32) &&& Int32.toUInt32 31)).toInt32)) (fun v0_5 => some (v0_5 &&& (63 : Int32)))))))
set_option maxRecDepth 100000 in
set_option maxHeartbeats 4000000 in
theorem c_J_bitCount {G : Gb} {l : Launch} {o : Sto} {L : Lng} (hG : GA G) (s : Sto) (x0 : Int32)  : CT G l (EC o L) pvP (psP s) yJ6_bitCount_0f7a4 cJ6_bitCount_0f7a4 1 (some .int) 0 0 [.int x0] s (f_J_bitCount x0) := by
  refine CT.of hG (by decide) (Nat.le_of_ble_eq_true rfl) (fun X hX => ?_)
  have hX : OX G X l cJ6_bitCount_0f7a4 1 "java/lang/Integer" (some .int) 0 0 := hX
  show ZR G X (EC o L) pvP (psP s) 1 s [(0, .int x0)] [] 0 _
  unfold f_J_bitCount
  refine z_iload_n (pc := 0) hX dJ6_bitCount_0f7a4_0 rfl 0 rfl ?_
  refine z_iload_n (pc := 1) hX dJ6_bitCount_0f7a4_1 rfl 0 rfl ?_
  refine z_iconst (pc := 2) hX dJ6_bitCount_0f7a4_2 ic_1 ?_
  refine z_iushr (pc := 3) hX dJ6_bitCount_0f7a4_3 ?_
  refine z_ldcw (pc := 4) hX q_727 dJ6_bitCount_0f7a4_4 ?_
  refine z_iand (pc := 7) hX dJ6_bitCount_0f7a4_7 ?_
  refine z_isub (pc := 8) hX dJ6_bitCount_0f7a4_8 ?_
  refine z_lti (pc := 9) (fun v0_1 => ?_)
  refine z_istore_n (pc := 9) (ls' := [(0, .int v0_1)]) hX dJ6_bitCount_0f7a4_9 rfl (by decide) rfl ?_
  refine z_iload_n (pc := 10) hX dJ6_bitCount_0f7a4_10 rfl 0 rfl ?_
  refine z_ldcw (pc := 11) hX q_728 dJ6_bitCount_0f7a4_11 ?_
  refine z_iand (pc := 14) hX dJ6_bitCount_0f7a4_14 ?_
  refine z_iload_n (pc := 15) hX dJ6_bitCount_0f7a4_15 rfl 0 rfl ?_
  refine z_iconst (pc := 16) hX dJ6_bitCount_0f7a4_16 ic_2 ?_
  refine z_iushr (pc := 17) hX dJ6_bitCount_0f7a4_17 ?_
  refine z_ldcw (pc := 18) hX q_728 dJ6_bitCount_0f7a4_18 ?_
  refine z_iand (pc := 21) hX dJ6_bitCount_0f7a4_21 ?_
  refine z_iadd (pc := 22) hX dJ6_bitCount_0f7a4_22 ?_
  refine z_lti (pc := 23) (fun v0_2 => ?_)
  refine z_istore_n (pc := 23) (ls' := [(0, .int v0_2)]) hX dJ6_bitCount_0f7a4_23 rfl (by decide) rfl ?_
  refine z_iload_n (pc := 24) hX dJ6_bitCount_0f7a4_24 rfl 0 rfl ?_
  refine z_iload_n (pc := 25) hX dJ6_bitCount_0f7a4_25 rfl 0 rfl ?_
  refine z_iconst (pc := 26) hX dJ6_bitCount_0f7a4_26 ic_4 ?_
  refine z_iushr (pc := 27) hX dJ6_bitCount_0f7a4_27 ?_
  refine z_iadd (pc := 28) hX dJ6_bitCount_0f7a4_28 ?_
  refine z_ldcw (pc := 29) hX q_729 dJ6_bitCount_0f7a4_29 ?_
  refine z_iand (pc := 32) hX dJ6_bitCount_0f7a4_32 ?_
  refine z_lti (pc := 33) (fun v0_3 => ?_)
  refine z_istore_n (pc := 33) (ls' := [(0, .int v0_3)]) hX dJ6_bitCount_0f7a4_33 rfl (by decide) rfl ?_
  refine z_iload_n (pc := 34) hX dJ6_bitCount_0f7a4_34 rfl 0 rfl ?_
  refine z_iload_n (pc := 35) hX dJ6_bitCount_0f7a4_35 rfl 0 rfl ?_
  refine z_bipush (pc := 36) hX dJ6_bitCount_0f7a4_36 bp_8 ?_
  refine z_iushr (pc := 38) hX dJ6_bitCount_0f7a4_38 ?_
  refine z_iadd (pc := 39) hX dJ6_bitCount_0f7a4_39 ?_
  refine z_lti (pc := 40) (fun v0_4 => ?_)
  refine z_istore_n (pc := 40) (ls' := [(0, .int v0_4)]) hX dJ6_bitCount_0f7a4_40 rfl (by decide) rfl ?_
  refine z_iload_n (pc := 41) hX dJ6_bitCount_0f7a4_41 rfl 0 rfl ?_
  refine z_iload_n (pc := 42) hX dJ6_bitCount_0f7a4_42 rfl 0 rfl ?_
  refine z_bipush (pc := 43) hX dJ6_bitCount_0f7a4_43 bp_16 ?_
  refine z_iushr (pc := 45) hX dJ6_bitCount_0f7a4_45 ?_
  refine z_iadd (pc := 46) hX dJ6_bitCount_0f7a4_46 ?_
  refine z_lti (pc := 47) (fun v0_5 => ?_)
  refine z_istore_n (pc := 47) (ls' := [(0, .int v0_5)]) hX dJ6_bitCount_0f7a4_47 rfl (by decide) rfl ?_
  refine z_iload_n (pc := 48) hX dJ6_bitCount_0f7a4_48 rfl 0 rfl ?_
  refine z_bipush (pc := 49) hX dJ6_bitCount_0f7a4_49 bp_63 ?_
  refine z_iand (pc := 51) hX dJ6_bitCount_0f7a4_51 ?_
  exact z_retP (pc := 52) hX dJ6_bitCount_0f7a4_52
theorem hd_J0_coder_7d493 : yJ0_coder_7d493.cls ≠ "java/lang/invoke/MethodHandle" ∧ yJ0_coder_7d493.cls ≠ "java/lang/invoke/VarHandle" ∧ (parseMethodDescriptor yJ0_coder_7d493.desc).map (fun d => d.parameters.length) = some 0 := by decide +kernel
def f_S_coder (w0 : Nat) : Option (Int32) :=
  if (1 : Int32) = (0 : Int32) then some (1 : Int32) else some (0 : Int32)
set_option maxRecDepth 100000 in
set_option maxHeartbeats 4000000 in
theorem c_S_coder {G : Gb} {l : Launch} {o : Sto} {L : Lng} (hG : GA G) (s : Sto) (w0 : Nat) (h0 : w0 < 5) : CT G l (EC o L) pvP (psP s) yJ0_coder_7d493 cJ0_coder_7d493 1 (some .byte) 0 0 [.ref (G.2.2.2.2.1 w0)] s (f_S_coder w0) := by
  refine CT.of hG (by decide) (Nat.le_of_ble_eq_true rfl) (fun X hX => ?_)
  have hX : OX G X l cJ0_coder_7d493 1 "java/lang/String" (some .byte) 0 0 := hX
  show ZR G X (EC o L) pvP (psP s) 1 s [(0, .ref (G.2.2.2.2.1 w0))] [] 0 _
  unfold f_S_coder
  refine z_gsC (pc := 0) hX q_361 dJ0_coder_7d493_0 ?_
  refine z_if_eq (pc := 3) (tgt := 13) hX dJ0_coder_7d493_3 rfl ?_ ?_
  · refine z_iconst (pc := 13) hX dJ0_coder_7d493_13 ic_1 ?_
    exact z_retPB (pc := 14) hX dJ0_coder_7d493_14 (by decide +kernel)
  · refine z_aload_n (pc := 6) hX dJ0_coder_7d493_6 rfl 0 rfl ?_
    refine z_scoder (pc := 7) hX h0 q_1279 dJ0_coder_7d493_7 ?_
    refine z_goto (pc := 10) (tgt := 14) hX dJ0_coder_7d493_10 rfl ?_
    exact z_retPB (pc := 14) hX dJ0_coder_7d493_14 (by decide +kernel)
theorem hd_J0_isLatin1_aae02 : yJ0_isLatin1_aae02.cls ≠ "java/lang/invoke/MethodHandle" ∧ yJ0_isLatin1_aae02.cls ≠ "java/lang/invoke/VarHandle" ∧ (parseMethodDescriptor yJ0_isLatin1_aae02.desc).map (fun d => d.parameters.length) = some 0 := by decide +kernel
def f_S_isLatin1 (w0 : Nat) : Option (Int32) :=
  jn (some (0 : Int32)) (fun j1 => if (1 : Int32) = (0 : Int32) then j1 else if (0 : Int32) = (0 : Int32) then some (1 : Int32) else j1)
set_option maxRecDepth 100000 in
set_option maxHeartbeats 4000000 in
theorem c_S_isLatin1 {G : Gb} {l : Launch} {o : Sto} {L : Lng} (hG : GA G) (s : Sto) (w0 : Nat) (h0 : w0 < 5) : CT G l (EC o L) pvP (psP s) yJ0_isLatin1_aae02 cJ0_isLatin1_aae02 1 (some .boolean) 0 0 [.ref (G.2.2.2.2.1 w0)] s (f_S_isLatin1 w0) := by
  refine CT.of hG (by decide) (Nat.le_of_ble_eq_true rfl) (fun X hX => ?_)
  have hX : OX G X l cJ0_isLatin1_aae02 1 "java/lang/String" (some .boolean) 0 0 := hX
  show ZR G X (EC o L) pvP (psP s) 1 s [(0, .ref (G.2.2.2.2.1 w0))] [] 0 _
  unfold f_S_isLatin1
  refine z_gsC (pc := 0) hX q_361 dJ0_isLatin1_aae02_0 ?_
  refine z_jn (P := fun j1 => ZR G X (EC o L) pvP (psP s) 1 s [] [] 17 (j1)) ?_ ?_
  · skip
    refine z_iconst (pc := 17) hX dJ0_isLatin1_aae02_17 ic_0 ?_
    exact z_retPc (pc := 18) hX dJ0_isLatin1_aae02_18 (by decide)
  · intro j1 hj1
    refine z_if_eq (pc := 3) (tgt := 17) hX dJ0_isLatin1_aae02_3 rfl ?_ ?_
    · exact z_ls [] rfl (hj1)
    · refine z_aload_n (pc := 6) hX dJ0_isLatin1_aae02_6 rfl 0 rfl ?_
      refine z_scoder (pc := 7) hX h0 q_1279 dJ0_isLatin1_aae02_7 ?_
      refine z_if_ne (pc := 10) (tgt := 17) hX dJ0_isLatin1_aae02_10 rfl ?_ ?_
      · exact z_ls [] rfl (hj1)
      · refine z_iconst (pc := 13) hX dJ0_isLatin1_aae02_13 ic_1 ?_
        refine z_goto (pc := 14) (tgt := 18) hX dJ0_isLatin1_aae02_14 rfl ?_
        exact z_retPc (pc := 18) hX dJ0_isLatin1_aae02_18 (by decide)
theorem hd_J3_checkIndex_8e157 : yJ3_checkIndex_8e157.cls ≠ "java/lang/invoke/MethodHandle" ∧ yJ3_checkIndex_8e157.cls ≠ "java/lang/invoke/VarHandle" ∧ (parseMethodDescriptor yJ3_checkIndex_8e157.desc).map (fun d => d.parameters.length) = some 3 := by decide +kernel
def f_P_checkIndex (x0 : Int32) (x1 : Int32) : Option (Int32) :=
  if x0 < (0 : Int32) then none else if x0 < x1 then some x0 else none
set_option maxRecDepth 100000 in
set_option maxHeartbeats 4000000 in
theorem c_P_checkIndex {G : Gb} {l : Launch} {o : Sto} {L : Lng} (hG : GA G) (s : Sto) (x0 : Int32) (x1 : Int32) (q2 : Option Nat)  : CT G l (EC o L) pvP (psP s) yJ3_checkIndex_8e157 cJ3_checkIndex_8e157 3 (some .int) 0 0 [.int x0, .int x1, va_rf q2] s (f_P_checkIndex x0 x1) := by
  refine CT.of hG (by decide) (by cases q2 <;> exact Nat.le_of_ble_eq_true rfl) (fun X hX => ?_)
  have hX : OX G X l cJ3_checkIndex_8e157 3 "jdk/internal/util/Preconditions" (some .int) 0 0 := hX
  show ZR G X (EC o L) pvP (psP s) 3 s [(0, .int x0), (1, .int x1), (2, va_rf q2)] [] 0 _
  unfold f_P_checkIndex
  refine z_iload_n (pc := 0) hX dJ3_checkIndex_8e157_0 rfl 0 rfl ?_
  refine z_if_lt (pc := 1) (tgt := 9) hX dJ3_checkIndex_8e157_1 rfl ?_ ?_
  · exact z_none
  · refine z_iload_n (pc := 4) hX dJ3_checkIndex_8e157_4 rfl 0 rfl ?_
    refine z_iload_n (pc := 5) hX dJ3_checkIndex_8e157_5 rfl 1 rfl ?_
    refine z_icmp_lt (pc := 6) (tgt := 16) hX dJ3_checkIndex_8e157_6 rfl ?_ ?_
    · refine z_iload_n (pc := 16) hX dJ3_checkIndex_8e157_16 rfl 0 rfl ?_
      exact z_retP (pc := 17) hX dJ3_checkIndex_8e157_17
    · exact z_none
theorem hd_X2_lifts : yX2_lifts.cls ≠ "java/lang/invoke/MethodHandle" ∧ yX2_lifts.cls ≠ "java/lang/invoke/VarHandle" ∧ (parseMethodDescriptor yX2_lifts.desc).map (fun d => d.parameters.length) = some 4 := by decide +kernel
def f_Fo_lifts (x1 : Int32) (x2 : Int32) (x3 : Int32) (x4 : Int32) : Option (Int32) :=
  bP (f_Pl_lifts x1 x2 x3 x4) (fun r1 => jn (some (1 : Int32)) (fun j2 => if r1 = (0 : Int32) then if (30 : Int32) ≤ x3 then some (0 : Int32) else j2 else j2))
set_option maxRecDepth 100000 in
set_option maxHeartbeats 4000000 in
theorem c_Fo_lifts {G : Gb} {l : Launch} {o : Sto} {L : Lng} (hG : GA G) (s : Sto) (i0 : Nat) (x1 : Int32) (x2 : Int32) (x3 : Int32) (x4 : Int32) (h0 : V 6 i0) : CT G l (EC o L) pvP (psP s) yX2_lifts cX2_lifts 5 (some .boolean) 1 24 [.ref (ad G 6 i0), .int x1, .int x2, .int x3, .int x4] s (f_Fo_lifts x1 x2 x3 x4) := by
  refine CT.of hG (by decide) (Nat.le_of_ble_eq_true rfl) (fun X hX => ?_)
  have hX : OX G X l cX2_lifts 5 "CrownTwo$Forgiver" (some .boolean) 1 24 := hX
  show ZR G X (EC o L) pvP (psP s) 5 s [(0, .ref (ad G 6 i0)), (1, .int x1), (2, .int x2), (3, .int x3), (4, .int x4)] [] 0 _
  unfold f_Fo_lifts
  refine z_aload_n (pc := 0) hX dX2_lifts_0 rfl 0 rfl ?_
  refine z_iload_n (pc := 1) hX dX2_lifts_1 rfl 1 rfl ?_
  refine z_iload_n (pc := 2) hX dX2_lifts_2 rfl 2 rfl ?_
  refine z_iload_n (pc := 3) hX dX2_lifts_3 rfl 3 rfl ?_
  refine z_iload (pc := 4) hX dX2_lifts_4 4 rfl ?_
  refine z_rP (run_SO (pc := 6) (As := [.int x1, .int x2, .int x3, .int x4]) hX (rc_6 h0) q_521 q_536 q_4 q_515 q_522 q_135 q_114 rfl (by decide) hd_X7_lifts.2.2 ⟨Nat.le_of_ble_eq_true rfl, Nat.le_of_ble_eq_true rfl⟩ (c_Pl_lifts hG s i0 x1 x2 x3 x4 h0) rfl rfl (Nat.le_of_ble_eq_true rfl) dX2_lifts_6) (fun r1 => ?_)
  refine z_jn (P := fun j2 => ZR G X (EC o L) pvP (psP s) 5 s [] [] 18 (j2)) ?_ ?_
  · skip
    refine z_iconst (pc := 18) hX dX2_lifts_18 ic_1 ?_
    refine z_goto (pc := 19) (tgt := 23) hX dX2_lifts_19 rfl ?_
    exact z_retPc (pc := 23) hX dX2_lifts_23 (by decide)
  · intro j2 hj2
    refine z_if_ne (pc := 9) (tgt := 18) hX dX2_lifts_9 rfl ?_ ?_
    · exact z_ls [] rfl (hj2)
    · refine z_iload_n (pc := 12) hX dX2_lifts_12 rfl 3 rfl ?_
      refine z_bipush (pc := 13) hX dX2_lifts_13 bp_30 ?_
      refine z_icmp_ge (pc := 15) (tgt := 22) hX dX2_lifts_15 rfl ?_ ?_
      · refine z_iconst (pc := 22) hX dX2_lifts_22 ic_0 ?_
        exact z_retPc (pc := 23) hX dX2_lifts_23 (by decide)
      · exact z_ls [] rfl (hj2)
theorem hd_X4_adds : yX4_adds.cls ≠ "java/lang/invoke/MethodHandle" ∧ yX4_adds.cls ≠ "java/lang/invoke/VarHandle" ∧ (parseMethodDescriptor yX4_adds.desc).map (fun d => d.parameters.length) = some 1 := by decide +kernel
def f_Jo_adds (x1 : Int32) : Option (Int32) :=
  bP (f_Pl_adds x1) (fun r1 => some (r1 - (3 : Int32)))
set_option maxRecDepth 100000 in
set_option maxHeartbeats 4000000 in
theorem c_Jo_adds {G : Gb} {l : Launch} {o : Sto} {L : Lng} (hG : GA G) (s : Sto) (i0 : Nat) (x1 : Int32) (h0 : V 6 i0) : CT G l (EC o L) pvP (psP s) yX4_adds cX4_adds 2 (some .int) 1 21 [.ref (ad G 6 i0), .int x1] s (f_Jo_adds x1) := by
  refine CT.of hG (by decide) (Nat.le_of_ble_eq_true rfl) (fun X hX => ?_)
  have hX : OX G X l cX4_adds 2 "CrownTwo$Joker" (some .int) 1 21 := hX
  show ZR G X (EC o L) pvP (psP s) 2 s [(0, .ref (ad G 6 i0)), (1, .int x1)] [] 0 _
  unfold f_Jo_adds
  refine z_aload_n (pc := 0) hX dX4_adds_0 rfl 0 rfl ?_
  refine z_iload_n (pc := 1) hX dX4_adds_1 rfl 1 rfl ?_
  refine z_rP (run_SU (pc := 2) (As := [.int x1]) hX (rc_6 h0) ⟨q_578, q_589, q_4⟩ q_569 q_571 q_114 (by decide) hd_X7_adds ⟨Nat.le_of_ble_eq_true rfl, Nat.le_of_ble_eq_true rfl⟩ (c_Pl_adds hG s i0 x1 h0) rfl rfl (Nat.le_of_ble_eq_true rfl) dX4_adds_2) (fun r1 => ?_)
  refine z_iconst (pc := 5) hX dX4_adds_5 ic_3 ?_
  refine z_isub (pc := 6) hX dX4_adds_6 ?_
  exact z_retP (pc := 7) hX dX4_adds_7
theorem hd_J0_length_8abf5 : yJ0_length_8abf5.cls ≠ "java/lang/invoke/MethodHandle" ∧ yJ0_length_8abf5.cls ≠ "java/lang/invoke/VarHandle" ∧ (parseMethodDescriptor yJ0_length_8abf5.desc).map (fun d => d.parameters.length) = some 0 := by decide +kernel
def f_S_length (w0 : Nat) : Option (Int32) :=
  bP (f_S_coder w0) (fun r1 => some ((nI (sLen.getD w0 0)) >>> (r1 &&& 31)))
set_option maxRecDepth 100000 in
set_option maxHeartbeats 4000000 in
theorem c_S_length {G : Gb} {l : Launch} {o : Sto} {L : Lng} (hG : GA G) (s : Sto) (w0 : Nat) (h0 : w0 < 5) : CT G l (EC o L) pvP (psP s) yJ0_length_8abf5 cJ0_length_8abf5 1 (some .int) 1 20 [.ref (G.2.2.2.2.1 w0)] s (f_S_length w0) := by
  refine CT.of hG (by decide) (Nat.le_of_ble_eq_true rfl) (fun X hX => ?_)
  have hX : OX G X l cJ0_length_8abf5 1 "java/lang/String" (some .int) 1 20 := hX
  show ZR G X (EC o L) pvP (psP s) 1 s [(0, .ref (G.2.2.2.2.1 w0))] [] 0 _
  unfold f_S_length
  refine z_aload_n (pc := 0) hX dJ0_length_8abf5_0 rfl 0 rfl ?_
  refine z_sval (pc := 1) hX h0 q_1278 dJ0_length_8abf5_1 ?_
  refine z_salen (pc := 4) hX h0 dJ0_length_8abf5_4 ?_
  refine z_aload_n (pc := 5) hX dJ0_length_8abf5_5 rfl 0 rfl ?_
  refine z_rP (run_VS (pc := 6) (As := []) hX h0 ⟨q_357, q_360, q_14⟩ q_358 q_359 hd_J0_coder_7d493 ⟨Nat.le_of_ble_eq_true rfl, Nat.le_of_ble_eq_true rfl⟩ (c_S_coder hG s w0 h0) rfl rfl (Nat.le_of_ble_eq_true rfl) dJ0_length_8abf5_6) (fun r1 => ?_)
  refine z_ishr (pc := 9) hX dJ0_length_8abf5_9 ?_
  exact z_retP (pc := 10) hX dJ0_length_8abf5_10
theorem hd_J0_checkIndex_df160 : yJ0_checkIndex_df160.cls ≠ "java/lang/invoke/MethodHandle" ∧ yJ0_checkIndex_df160.cls ≠ "java/lang/invoke/VarHandle" ∧ (parseMethodDescriptor yJ0_checkIndex_df160.desc).map (fun d => d.parameters.length) = some 2 := by decide +kernel
def f_S_checkIndex (x0 : Int32) (x1 : Int32) : Option (Unit) :=
  bP (f_P_checkIndex x0 x1) (fun r2 => some ())
set_option maxRecDepth 100000 in
set_option maxHeartbeats 4000000 in
theorem c_S_checkIndex {G : Gb} {l : Launch} {o : Sto} {L : Lng} (hG : GA G) (s : Sto) (x0 : Int32) (x1 : Int32)  : CT G l (EC o L) (fun _ : Unit => none) (psP s) yJ0_checkIndex_df160 cJ0_checkIndex_df160 2 none 1 22 [.int x0, .int x1] s (f_S_checkIndex x0 x1) := by
  refine CT.of hG (by decide) (Nat.le_of_ble_eq_true rfl) (fun X hX => ?_)
  have hX : OX G X l cJ0_checkIndex_df160 2 "java/lang/String" none 1 22 := hX
  show ZR G X (EC o L) (fun _ : Unit => none) (psP s) 2 s [(0, .int x0), (1, .int x1)] [] 0 _
  unfold f_S_checkIndex
  refine z_iload_n (pc := 0) hX dJ0_checkIndex_df160_0 rfl 0 rfl ?_
  refine z_iload_n (pc := 1) hX dJ0_checkIndex_df160_1 rfl 1 rfl ?_
  refine z_gsF (pc := 2) hX q_377 dJ0_checkIndex_df160_2 (fun q1 => ?_)
  refine z_rP (run_S (pc := 5) (As := [.int x0, .int x1, va_rf q1]) hX ⟨q_379, q_381, q_16⟩ q_380 hd_J3_checkIndex_8e157 ⟨Nat.le_of_ble_eq_true rfl, Nat.le_of_ble_eq_true rfl⟩ (c_P_checkIndex hG s x0 x1 q1) rfl rfl (Nat.le_of_ble_eq_true rfl) dJ0_checkIndex_df160_5) (fun r2 => ?_)
  refine z_pop (pc := 8) hX dJ0_checkIndex_df160_8 rfl ?_
  exact z_retN (pc := 9) hX dJ0_checkIndex_df160_9
theorem hd_J1_charAt_3b067 : yJ1_charAt_3b067.cls ≠ "java/lang/invoke/MethodHandle" ∧ yJ1_charAt_3b067.cls ≠ "java/lang/invoke/VarHandle" ∧ (parseMethodDescriptor yJ1_charAt_3b067.desc).map (fun d => d.parameters.length) = some 2 := by decide +kernel
def f_SL_charAt (w0 : Nat) (x1 : Int32) : Option (Int32) :=
  bN (f_S_checkIndex x1 (nI (sLen.getD w0 0))) (if inb x1 (sLen.getD w0 0) then if isC ((Int32.toUInt32 (((sByt.getD w0 []).getD (ix x1) 0) &&& (255 : Int32)) % 65536).toInt32) then some ((Int32.toUInt32 (((sByt.getD w0 []).getD (ix x1) 0) &&& (255 : Int32)) % 65536).toInt32) else none else none)
set_option maxRecDepth 100000 in
set_option maxHeartbeats 4000000 in
theorem c_SL_charAt {G : Gb} {l : Launch} {o : Sto} {L : Lng} (hG : GA G) (s : Sto) (w0 : Nat) (x1 : Int32) (h0 : w0 < 5) : CT G l (EC o L) pvP (psP s) yJ1_charAt_3b067 cJ1_charAt_3b067 2 (some .char) 2 43 [.ref (G.2.2.2.2.2 w0), .int x1] s (f_SL_charAt w0 x1) := by
  refine CT.of hG (by decide) (Nat.le_of_ble_eq_true rfl) (fun X hX => ?_)
  have hX : OX G X l cJ1_charAt_3b067 2 "java/lang/StringLatin1" (some .char) 2 43 := hX
  show ZR G X (EC o L) pvP (psP s) 2 s [(0, .ref (G.2.2.2.2.2 w0)), (1, .int x1)] [] 0 _
  unfold f_SL_charAt
  refine z_iload_n (pc := 0) hX dJ1_charAt_3b067_0 rfl 1 rfl ?_
  refine z_aload_n (pc := 1) hX dJ1_charAt_3b067_1 rfl 0 rfl ?_
  refine z_salen (pc := 2) hX h0 dJ1_charAt_3b067_2 ?_
  refine z_rN (run_S (pc := 3) (As := [.int x1, .int (nI (sLen.getD w0 0))]) hX ⟨q_374, q_376, q_14⟩ q_375 hd_J0_checkIndex_df160 ⟨Nat.le_of_ble_eq_true rfl, Nat.le_of_ble_eq_true rfl⟩ (c_S_checkIndex hG s x1 (nI (sLen.getD w0 0))) rfl rfl (Nat.le_of_ble_eq_true rfl) dJ1_charAt_3b067_3) ?_
  refine z_aload_n (pc := 6) hX dJ1_charAt_3b067_6 rfl 0 rfl ?_
  refine z_iload_n (pc := 7) hX dJ1_charAt_3b067_7 rfl 1 rfl ?_
  refine z_sbald (pc := 8) hX h0 dJ1_charAt_3b067_8 ?_
  refine z_sipush (pc := 9) hX dJ1_charAt_3b067_9 sp_255 ?_
  refine z_iand (pc := 12) hX dJ1_charAt_3b067_12 ?_
  refine z_i2c (pc := 13) hX dJ1_charAt_3b067_13 ?_
  exact z_retPC (pc := 14) hX dJ1_charAt_3b067_14
theorem hd_X2_adds : yX2_adds.cls ≠ "java/lang/invoke/MethodHandle" ∧ yX2_adds.cls ≠ "java/lang/invoke/VarHandle" ∧ (parseMethodDescriptor yX2_adds.desc).map (fun d => d.parameters.length) = some 1 := by decide +kernel
def f_Fo_adds (x1 : Int32) : Option (Int32) :=
  bP (f_Jo_adds x1) (fun r1 => some ((2 : Int32) * r1))
set_option maxRecDepth 100000 in
set_option maxHeartbeats 4000000 in
theorem c_Fo_adds {G : Gb} {l : Launch} {o : Sto} {L : Lng} (hG : GA G) (s : Sto) (i0 : Nat) (x1 : Int32) (h0 : V 6 i0) : CT G l (EC o L) pvP (psP s) yX2_adds cX2_adds 2 (some .int) 2 42 [.ref (ad G 6 i0), .int x1] s (f_Fo_adds x1) := by
  refine CT.of hG (by decide) (Nat.le_of_ble_eq_true rfl) (fun X hX => ?_)
  have hX : OX G X l cX2_adds 2 "CrownTwo$Forgiver" (some .int) 2 42 := hX
  show ZR G X (EC o L) pvP (psP s) 2 s [(0, .ref (ad G 6 i0)), (1, .int x1)] [] 0 _
  unfold f_Fo_adds
  refine z_iconst (pc := 0) hX dX2_adds_0 ic_2 ?_
  refine z_aload_n (pc := 1) hX dX2_adds_1 rfl 0 rfl ?_
  refine z_iload_n (pc := 2) hX dX2_adds_2 rfl 1 rfl ?_
  refine z_rP (run_SU (pc := 3) (As := [.int x1]) hX (rc_6 h0) ⟨q_575, q_577, q_6⟩ q_576 q_1271 q_135 (by decide) hd_X4_adds ⟨Nat.le_of_ble_eq_true rfl, Nat.le_of_ble_eq_true rfl⟩ (c_Jo_adds hG s i0 x1 h0) rfl rfl (Nat.le_of_ble_eq_true rfl) dX2_adds_3) (fun r1 => ?_)
  refine z_imul (pc := 6) hX dX2_adds_6 ?_
  exact z_retP (pc := 7) hX dX2_adds_7
theorem hd_J0_charAt_5068e : yJ0_charAt_5068e.cls ≠ "java/lang/invoke/MethodHandle" ∧ yJ0_charAt_5068e.cls ≠ "java/lang/invoke/VarHandle" ∧ (parseMethodDescriptor yJ0_charAt_5068e.desc).map (fun d => d.parameters.length) = some 1 := by decide +kernel
def f_S_charAt (w0 : Nat) (x1 : Int32) : Option (Int32) :=
  bP (f_S_isLatin1 w0) (fun r1 => if r1 = (0 : Int32) then none else bP (f_SL_charAt w0 x1) (fun r2 => if isC r2 then some r2 else none))
set_option maxRecDepth 100000 in
set_option maxHeartbeats 4000000 in
theorem c_S_charAt {G : Gb} {l : Launch} {o : Sto} {L : Lng} (hG : GA G) (s : Sto) (w0 : Nat) (x1 : Int32) (h0 : w0 < 5) : CT G l (EC o L) pvP (psP s) yJ0_charAt_5068e cJ0_charAt_5068e 2 (some .char) 3 64 [.ref (G.2.2.2.2.1 w0), .int x1] s (f_S_charAt w0 x1) := by
  refine CT.of hG (by decide) (Nat.le_of_ble_eq_true rfl) (fun X hX => ?_)
  have hX : OX G X l cJ0_charAt_5068e 2 "java/lang/String" (some .char) 3 64 := hX
  show ZR G X (EC o L) pvP (psP s) 2 s [(0, .ref (G.2.2.2.2.1 w0)), (1, .int x1)] [] 0 _
  unfold f_S_charAt
  refine z_aload_n (pc := 0) hX dJ0_charAt_5068e_0 rfl 0 rfl ?_
  refine z_rP (run_VS (pc := 1) (As := []) hX h0 ⟨q_367, q_370, q_14⟩ q_368 q_369 hd_J0_isLatin1_aae02 ⟨Nat.le_of_ble_eq_true rfl, Nat.le_of_ble_eq_true rfl⟩ (c_S_isLatin1 hG s w0 h0) rfl rfl (Nat.le_of_ble_eq_true rfl) dJ0_charAt_5068e_1) (fun r1 => ?_)
  refine z_if_eq (pc := 4) (tgt := 16) hX dJ0_charAt_5068e_4 rfl ?_ ?_
  · exact z_none
  · refine z_aload_n (pc := 7) hX dJ0_charAt_5068e_7 rfl 0 rfl ?_
    refine z_sval (pc := 8) hX h0 q_1278 dJ0_charAt_5068e_8 ?_
    refine z_iload_n (pc := 11) hX dJ0_charAt_5068e_11 rfl 1 rfl ?_
    refine z_rP (run_S (pc := 12) (As := [.ref (G.2.2.2.2.2 w0), .int x1]) hX ⟨q_371, q_373, q_15⟩ q_372 hd_J1_charAt_3b067 ⟨Nat.le_of_ble_eq_true rfl, Nat.le_of_ble_eq_true rfl⟩ (c_SL_charAt hG s w0 x1 h0) rfl rfl (Nat.le_of_ble_eq_true rfl) dJ0_charAt_5068e_12) (fun r2 => ?_)
    exact z_retPC (pc := 15) hX dJ0_charAt_5068e_15
