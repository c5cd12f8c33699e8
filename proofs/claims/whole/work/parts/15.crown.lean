theorem hd_X11_clear : yX11_clear.cls ≠ "java/lang/invoke/MethodHandle" ∧ yX11_clear.cls ≠ "java/lang/invoke/VarHandle" ∧ (parseMethodDescriptor yX11_clear.desc).map (fun d => d.parameters.length) = some 0 := by decide +kernel
def f_T_clear (s : Sto)  : Option (Int32 × Sto) :=
  lt (s 5 0 1) (fun v1_1 => lt (st s 5 0 1 (0 : Int32)) (fun s2 => some (v1_1, s2)))
set_option maxRecDepth 100000 in
set_option maxHeartbeats 4000000 in
theorem c_T_clear {G : Gb} {l : Launch} {o : Sto} {L : Lng} (hG : GA G) (s : Sto)   : CT G l (EC o L) pvI psI yX11_clear cX11_clear 2 (some .int) 0 0 [.ref (ad G 0 0)] s (f_T_clear s) := by
  refine CT.of hG (by decide) (Nat.le_of_ble_eq_true rfl) (fun X hX => ?_)
  have hX : OX G X l cX11_clear 2 "CrownTwo" (some .int) 0 0 := hX
  show ZR G X (EC o L) pvI psI 2 s [(0, .ref (ad G 0 0))] [] 0 _
  unfold f_T_clear
  refine z_aload_n (pc := 0) hX dX11_clear_0 rfl 0 rfl ?_
  refine gr_0_4C (pc := 1) hX q_239 dX11_clear_1 ?_
  refine gf_5_1C (pc := 4) hX q_37 dX11_clear_4 ?_
  refine z_lti (pc := 7) (fun v1_1 => ?_)
  refine z_istore_n (pc := 7) (ls' := [(1, .int v1_1), (0, .ref (ad G 0 0))]) hX dX11_clear_7 rfl (by decide) rfl ?_
  refine z_aload_n (pc := 8) hX dX11_clear_8 rfl 1 rfl ?_
  refine gr_0_4C (pc := 9) hX q_239 dX11_clear_9 ?_
  refine z_iconst (pc := 12) hX dX11_clear_12 ic_0 ?_
  refine pf_5_1C (pc := 13) hX q_37 dX11_clear_13 ?_
  refine z_lts (fun s2 => ?_)
  refine z_iload_n (pc := 16) hX dX11_clear_16 rfl 0 rfl ?_
  exact z_retI (pc := 17) hX dX11_clear_17
theorem hd_X11_forget : yX11_forget.cls ≠ "java/lang/invoke/MethodHandle" ∧ yX11_forget.cls ≠ "java/lang/invoke/VarHandle" ∧ (parseMethodDescriptor yX11_forget.desc).map (fun d => d.parameters.length) = some 0 := by decide +kernel
def f_T_forget (s : Sto)  : Option (Int32 × Sto) :=
  lt (s 1 0 6) (fun v1_1 => lt (st s 1 0 6 (0 : Int32)) (fun s2 => some (v1_1, s2)))
set_option maxRecDepth 100000 in
set_option maxHeartbeats 4000000 in
theorem c_T_forget {G : Gb} {l : Launch} {o : Sto} {L : Lng} (hG : GA G) (s : Sto)   : CT G l (EC o L) pvI psI yX11_forget cX11_forget 2 (some .int) 0 0 [.ref (ad G 0 0)] s (f_T_forget s) := by
  refine CT.of hG (by decide) (Nat.le_of_ble_eq_true rfl) (fun X hX => ?_)
  have hX : OX G X l cX11_forget 2 "CrownTwo" (some .int) 0 0 := hX
  show ZR G X (EC o L) pvI psI 2 s [(0, .ref (ad G 0 0))] [] 0 _
  unfold f_T_forget
  refine z_aload_n (pc := 0) hX dX11_forget_0 rfl 0 rfl ?_
  refine gr_0_0C (pc := 1) hX q_235 dX11_forget_1 ?_
  refine gf_1_6C (pc := 4) hX v_1_0 q_214 dX11_forget_4 ?_
  refine z_lti (pc := 7) (fun v1_1 => ?_)
  refine z_istore_n (pc := 7) (ls' := [(1, .int v1_1), (0, .ref (ad G 0 0))]) hX dX11_forget_7 rfl (by decide) rfl ?_
  refine z_aload_n (pc := 8) hX dX11_forget_8 rfl 1 rfl ?_
  refine gr_0_0C (pc := 9) hX q_235 dX11_forget_9 ?_
  refine z_iconst (pc := 12) hX dX11_forget_12 ic_0 ?_
  refine pf_1_6C (pc := 13) hX v_1_0 q_214 dX11_forget_13 ?_
  refine z_lts (fun s2 => ?_)
  refine z_iload_n (pc := 16) hX dX11_forget_16 rfl 0 rfl ?_
  exact z_retI (pc := 17) hX dX11_forget_17
theorem hd_X11_bad : yX11_bad.cls ≠ "java/lang/invoke/MethodHandle" ∧ yX11_bad.cls ≠ "java/lang/invoke/VarHandle" ∧ (parseMethodDescriptor yX11_bad.desc).map (fun d => d.parameters.length) = some 0 := by decide +kernel
def f_T_bad (s : Sto)  : Option (Int32 × Sto) :=
  lt (st s 0 0 12 ((s 0 0 12) + (1 : Int32))) (fun s1 => some ((-2 : Int32), s1))
set_option maxRecDepth 100000 in
set_option maxHeartbeats 4000000 in
theorem c_T_bad {G : Gb} {l : Launch} {o : Sto} {L : Lng} (hG : GA G) (s : Sto)   : CT G l (EC o L) pvI psI yX11_bad cX11_bad 1 (some .int) 0 0 [.ref (ad G 0 0)] s (f_T_bad s) := by
  refine CT.of hG (by decide) (Nat.le_of_ble_eq_true rfl) (fun X hX => ?_)
  have hX : OX G X l cX11_bad 1 "CrownTwo" (some .int) 0 0 := hX
  show ZR G X (EC o L) pvI psI 1 s [(0, .ref (ad G 0 0))] [] 0 _
  unfold f_T_bad
  refine z_aload_n (pc := 0) hX dX11_bad_0 rfl 0 rfl ?_
  refine z_dup (pc := 1) hX dX11_bad_1 rfl ?_
  refine gf_0_12C (pc := 2) hX q_247 dX11_bad_2 ?_
  refine z_iconst (pc := 5) hX dX11_bad_5 ic_1 ?_
  refine z_iadd (pc := 6) hX dX11_bad_6 ?_
  refine pf_0_12C (pc := 7) hX q_247 dX11_bad_7 ?_
  refine z_lts (fun s1 => ?_)
  refine z_bipush (pc := 10) hX dX11_bad_10 bp_m2 ?_
  exact z_retI (pc := 12) hX dX11_bad_12
theorem hd_X11_no : yX11_no.cls ≠ "java/lang/invoke/MethodHandle" ∧ yX11_no.cls ≠ "java/lang/invoke/VarHandle" ∧ (parseMethodDescriptor yX11_no.desc).map (fun d => d.parameters.length) = some 0 := by decide +kernel
def f_T_no (s : Sto)  : Option (Int32 × Sto) :=
  lt (st s 0 0 13 ((s 0 0 13) + (1 : Int32))) (fun s1 => some ((-3 : Int32), s1))
set_option maxRecDepth 100000 in
set_option maxHeartbeats 4000000 in
theorem c_T_no {G : Gb} {l : Launch} {o : Sto} {L : Lng} (hG : GA G) (s : Sto)   : CT G l (EC o L) pvI psI yX11_no cX11_no 1 (some .int) 0 0 [.ref (ad G 0 0)] s (f_T_no s) := by
  refine CT.of hG (by decide) (Nat.le_of_ble_eq_true rfl) (fun X hX => ?_)
  have hX : OX G X l cX11_no 1 "CrownTwo" (some .int) 0 0 := hX
  show ZR G X (EC o L) pvI psI 1 s [(0, .ref (ad G 0 0))] [] 0 _
  unfold f_T_no
  refine z_aload_n (pc := 0) hX dX11_no_0 rfl 0 rfl ?_
  refine z_dup (pc := 1) hX dX11_no_1 rfl ?_
  refine gf_0_13C (pc := 2) hX q_248 dX11_no_2 ?_
  refine z_iconst (pc := 5) hX dX11_no_5 ic_1 ?_
  refine z_iadd (pc := 6) hX dX11_no_6 ?_
  refine pf_0_13C (pc := 7) hX q_248 dX11_no_7 ?_
  refine z_lts (fun s1 => ?_)
  refine z_bipush (pc := 10) hX dX11_no_10 bp_m3 ?_
  exact z_retI (pc := 12) hX dX11_no_12
theorem hd_X11_full : yX11_full.cls ≠ "java/lang/invoke/MethodHandle" ∧ yX11_full.cls ≠ "java/lang/invoke/VarHandle" ∧ (parseMethodDescriptor yX11_full.desc).map (fun d => d.parameters.length) = some 0 := by decide +kernel
def f_T_full (s : Sto)  : Option (Int32 × Sto) :=
  lt (st s 0 0 14 ((s 0 0 14) + (1 : Int32))) (fun s1 => some ((-4 : Int32), s1))
set_option maxRecDepth 100000 in
set_option maxHeartbeats 4000000 in
theorem c_T_full {G : Gb} {l : Launch} {o : Sto} {L : Lng} (hG : GA G) (s : Sto)   : CT G l (EC o L) pvI psI yX11_full cX11_full 1 (some .int) 0 0 [.ref (ad G 0 0)] s (f_T_full s) := by
  refine CT.of hG (by decide) (Nat.le_of_ble_eq_true rfl) (fun X hX => ?_)
  have hX : OX G X l cX11_full 1 "CrownTwo" (some .int) 0 0 := hX
  show ZR G X (EC o L) pvI psI 1 s [(0, .ref (ad G 0 0))] [] 0 _
  unfold f_T_full
  refine z_aload_n (pc := 0) hX dX11_full_0 rfl 0 rfl ?_
  refine z_dup (pc := 1) hX dX11_full_1 rfl ?_
  refine gf_0_14C (pc := 2) hX q_249 dX11_full_2 ?_
  refine z_iconst (pc := 5) hX dX11_full_5 ic_1 ?_
  refine z_iadd (pc := 6) hX dX11_full_6 ?_
  refine pf_0_14C (pc := 7) hX q_249 dX11_full_7 ?_
  refine z_lts (fun s1 => ?_)
  refine z_bipush (pc := 10) hX dX11_full_10 bp_m4 ?_
  exact z_retI (pc := 12) hX dX11_full_12
theorem hd_X11_outside : yX11_outside.cls ≠ "java/lang/invoke/MethodHandle" ∧ yX11_outside.cls ≠ "java/lang/invoke/VarHandle" ∧ (parseMethodDescriptor yX11_outside.desc).map (fun d => d.parameters.length) = some 3 := by decide +kernel
def f_T_outside (x0 : Int32) (x1 : Int32) (x2 : Int32) : Option (Int32) :=
  jn (some (1 : Int32)) (fun j1 => if x0 < x1 then j1 else if x0 ≤ x2 then some (0 : Int32) else j1)
set_option maxRecDepth 100000 in
set_option maxHeartbeats 4000000 in
theorem c_T_outside {G : Gb} {l : Launch} {o : Sto} {L : Lng} (hG : GA G) (s : Sto) (x0 : Int32) (x1 : Int32) (x2 : Int32)  : CT G l (EC o L) pvP (psP s) yX11_outside cX11_outside 3 (some .boolean) 0 0 [.int x0, .int x1, .int x2] s (f_T_outside x0 x1 x2) := by
  refine CT.of hG (by decide) (Nat.le_of_ble_eq_true rfl) (fun X hX => ?_)
  have hX : OX G X l cX11_outside 3 "CrownTwo" (some .boolean) 0 0 := hX
  show ZR G X (EC o L) pvP (psP s) 3 s [(0, .int x0), (1, .int x1), (2, .int x2)] [] 0 _
  unfold f_T_outside
  refine z_iload_n (pc := 0) hX dX11_outside_0 rfl 0 rfl ?_
  refine z_iload_n (pc := 1) hX dX11_outside_1 rfl 1 rfl ?_
  refine z_jn (P := fun j1 => ZR G X (EC o L) pvP (psP s) 3 s [] [] 10 (j1)) ?_ ?_
  · skip
    refine z_iconst (pc := 10) hX dX11_outside_10 ic_1 ?_
    refine z_goto (pc := 11) (tgt := 15) hX dX11_outside_11 rfl ?_
    exact z_retPc (pc := 15) hX dX11_outside_15 (by decide)
  · intro j1 hj1
    refine z_icmp_lt (pc := 2) (tgt := 10) hX dX11_outside_2 rfl ?_ ?_
    · exact z_ls [] rfl (hj1)
    · refine z_iload_n (pc := 5) hX dX11_outside_5 rfl 0 rfl ?_
      refine z_iload_n (pc := 6) hX dX11_outside_6 rfl 2 rfl ?_
      refine z_icmp_le (pc := 7) (tgt := 14) hX dX11_outside_7 rfl ?_ ?_
      · refine z_iconst (pc := 14) hX dX11_outside_14 ic_0 ?_
        exact z_retPc (pc := 15) hX dX11_outside_15 (by decide)
      · exact z_ls [] rfl (hj1)
theorem hd_X11_daysToFriends : yX11_daysToFriends.cls ≠ "java/lang/invoke/MethodHandle" ∧ yX11_daysToFriends.cls ≠ "java/lang/invoke/VarHandle" ∧ (parseMethodDescriptor yX11_daysToFriends.desc).map (fun d => d.parameters.length) = some 1 := by decide +kernel
def l_T_daysToFriends_16 (x1 : Int32) (rc4 : Sto → Int32 → Option (Int32 × Sto)) (s2 : Sto) (v2_3 : Int32) : Option (Int32 × Sto) :=
  if (90 : Int32) < v2_3 then some ((-1 : Int32), s2) else bP (f_Mo_friendly s2 36) (fun r5 => if r5 = (0 : Int32) then bV (f_Mo_warm s2 36 x1) (fun s6 => rc4 s6 (v2_3 + (1 : Int32))) else some (v2_3, s2))
def f_T_daysToFriends (s : Sto) (x1 : Int32) : Option (Int32 × Sto) :=
  bV (f_Mo_become s 36 0) (fun s1 => fx 1000 (l_T_daysToFriends_16 x1) (fun _ _ => none) s1 (0 : Int32))
set_option maxRecDepth 100000 in
set_option maxHeartbeats 4000000 in
theorem c_T_daysToFriends {G : Gb} {l : Launch} {o : Sto} {L : Lng} (hG : GA G) (s : Sto) (x1 : Int32)  : CT G l (EC o L) pvI psI yX11_daysToFriends cX11_daysToFriends 3 (some .int) 2 51 [.ref (ad G 0 0), .int x1] s (f_T_daysToFriends s x1) := by
  refine CT.of hG (by decide) (Nat.le_of_ble_eq_true rfl) (fun X hX => ?_)
  have hX : OX G X l cX11_daysToFriends 3 "CrownTwo" (some .int) 2 51 := hX
  show ZR G X (EC o L) pvI psI 3 s [(0, .ref (ad G 0 0)), (1, .int x1)] [] 0 _
  unfold f_T_daysToFriends
  refine z_aload_n (pc := 0) hX dX11_daysToFriends_0 rfl 0 rfl ?_
  refine gr_0_5C (pc := 1) hX q_240 dX11_daysToFriends_1 ?_
  refine z_aload_n (pc := 4) hX dX11_daysToFriends_4 rfl 0 rfl ?_
  refine gr_0_0C (pc := 5) hX q_235 dX11_daysToFriends_5 ?_
  refine gr_1_4C (pc := 8) hX v_1_0 q_208 dX11_daysToFriends_8 ?_
  refine z_rV (run_V (pc := 11) (As := [.ref (ad G 4 0)]) hX (rc_4 v_4_36) ⟨q_631, q_442, q_3⟩ q_440 q_441 hd_X5_become ⟨Nat.le_of_ble_eq_true rfl, Nat.le_of_ble_eq_true rfl⟩ (c_Mo_become hG s 36 0 v_4_36 v_4_0) rfl rfl (Nat.le_of_ble_eq_true rfl) dX11_daysToFriends_11) (fun s1 => ?_)
  refine z_iconst (pc := 14) hX dX11_daysToFriends_14 ic_0 ?_
  refine z_istore_n (pc := 15) (ls' := [(2, .int (0 : Int32)), (0, .ref (ad G 0 0)), (1, .int x1)]) hX dX11_daysToFriends_15 rfl (by decide) rfl ?_
  refine z_ls [1, 2, 0] rfl ?_
  refine (fx_P (F := l_T_daysToFriends_16 x1) (b := (fun _ _ => none)) (fun rc4 => ∀ (s2 : Sto) (v2_3 : Int32), ZR G X (EC o L) pvI psI 3 s2 [(0, .ref (ad G 0 0)), (1, .int x1), (2, .int v2_3)] [] 16 (rc4 s2 v2_3)) ?_ ?_ 1000) s1 (0 : Int32)
  · intro s2 v2_3; exact z_none
  · intro rc4 hrc4 s2 v2_3
    unfold l_T_daysToFriends_16
    refine z_iload_n (pc := 16) hX dX11_daysToFriends_16 rfl 2 rfl ?_
    refine z_bipush (pc := 17) hX dX11_daysToFriends_17 bp_90 ?_
    refine z_icmp_gt (pc := 19) (tgt := 48) hX dX11_daysToFriends_19 rfl ?_ ?_
    · refine z_iconst (pc := 48) hX dX11_daysToFriends_48 ic_m1 ?_
      exact z_retI (pc := 49) hX dX11_daysToFriends_49
    · refine z_aload_n (pc := 22) hX dX11_daysToFriends_22 rfl 0 rfl ?_
      refine gr_0_5C (pc := 23) hX q_240 dX11_daysToFriends_23 ?_
      refine z_rP (run_V (pc := 26) (As := []) hX (rc_4 v_4_36) ⟨q_645, q_648, q_3⟩ q_646 q_647 hd_X5_friendly ⟨Nat.le_of_ble_eq_true rfl, Nat.le_of_ble_eq_true rfl⟩ (c_Mo_friendly hG s2 36 v_4_36) rfl rfl (Nat.le_of_ble_eq_true rfl) dX11_daysToFriends_26) (fun r5 => ?_)
      refine z_if_eq (pc := 29) (tgt := 34) hX dX11_daysToFriends_29 rfl ?_ ?_
      · refine z_aload_n (pc := 34) hX dX11_daysToFriends_34 rfl 0 rfl ?_
        refine gr_0_5C (pc := 35) hX q_240 dX11_daysToFriends_35 ?_
        refine z_iload_n (pc := 38) hX dX11_daysToFriends_38 rfl 1 rfl ?_
        refine z_rV (run_V (pc := 39) (As := [.int x1]) hX (rc_4 v_4_36) ⟨q_599, q_540, q_3⟩ q_538 q_539 hd_X5_warm ⟨Nat.le_of_ble_eq_true rfl, Nat.le_of_ble_eq_true rfl⟩ (c_Mo_warm hG s2 36 x1 v_4_36) rfl rfl (Nat.le_of_ble_eq_true rfl) dX11_daysToFriends_39) (fun s6 => ?_)
        refine z_iinc (pc := 42) (n := 2) (v := v2_3 + (1 : Int32)) (ls' := [(2, .int (v2_3 + (1 : Int32))), (0, .ref (ad G 0 0)), (1, .int x1)]) hX dX11_daysToFriends_42 rfl (by rw [show Int32.ofInt (1) = 1 by decide +kernel]) (by decide) rfl ?_
        refine z_goto (pc := 45) (tgt := 16) hX dX11_daysToFriends_45 rfl ?_
        exact z_ls [1, 2, 0] rfl (hrc4 s6 (v2_3 + (1 : Int32)))
      · refine z_iload_n (pc := 32) hX dX11_daysToFriends_32 rfl 2 rfl ?_
        exact z_retI (pc := 33) hX dX11_daysToFriends_33
theorem hd_X11_staysQuarrelled : yX11_staysQuarrelled.cls ≠ "java/lang/invoke/MethodHandle" ∧ yX11_staysQuarrelled.cls ≠ "java/lang/invoke/VarHandle" ∧ (parseMethodDescriptor yX11_staysQuarrelled.desc).map (fun d => d.parameters.length) = some 3 := by decide +kernel
def l_T_staysQuarrelled_25 (x2 : Int32) (x3 : Int32) (K4 : Sto → Option (Int32 × Sto)) (rc8 : Sto → Int32 → Option (Int32 × Sto)) (s6 : Sto) (v4_7 : Int32) : Option (Int32 × Sto) :=
  if x3 ≤ v4_7 then K4 s6 else bP (f_Mo_friendly s6 36) (fun r9 => if r9 = (0 : Int32) then bV (f_Mo_warm s6 36 x2) (fun s10 => rc8 s10 (v4_7 + (1 : Int32))) else some ((0 : Int32), s6))
def f_T_staysQuarrelled (s : Sto) (x1 : Int32) (x2 : Int32) (x3 : Int32) : Option (Int32 × Sto) :=
  bV (f_Mo_become s 36 0) (fun s1 => bV (f_Mo_warm s1 36 x1) (fun s2 => jn (fun s3 => bP (f_Mo_friendly s3 36) (fun r5 => if r5 = (0 : Int32) then some ((1 : Int32), s3) else some ((0 : Int32), s3))) (fun K4 => fx 1000 (l_T_staysQuarrelled_25 x2 x3 K4) (fun _ _ => none) s2 (0 : Int32))))
set_option maxRecDepth 100000 in
set_option maxHeartbeats 4000000 in
theorem c_T_staysQuarrelled {G : Gb} {l : Launch} {o : Sto} {L : Lng} (hG : GA G) (s : Sto) (x1 : Int32) (x2 : Int32) (x3 : Int32)  : CT G l (EC o L) pvI psI yX11_staysQuarrelled cX11_staysQuarrelled 5 (some .boolean) 2 51 [.ref (ad G 0 0), .int x1, .int x2, .int x3] s (f_T_staysQuarrelled s x1 x2 x3) := by
  refine CT.of hG (by decide) (Nat.le_of_ble_eq_true rfl) (fun X hX => ?_)
  have hX : OX G X l cX11_staysQuarrelled 5 "CrownTwo" (some .boolean) 2 51 := hX
  show ZR G X (EC o L) pvI psI 5 s [(0, .ref (ad G 0 0)), (1, .int x1), (2, .int x2), (3, .int x3)] [] 0 _
  unfold f_T_staysQuarrelled
  refine z_aload_n (pc := 0) hX dX11_staysQuarrelled_0 rfl 0 rfl ?_
  refine gr_0_5C (pc := 1) hX q_240 dX11_staysQuarrelled_1 ?_
  refine z_aload_n (pc := 4) hX dX11_staysQuarrelled_4 rfl 0 rfl ?_
  refine gr_0_0C (pc := 5) hX q_235 dX11_staysQuarrelled_5 ?_
  refine gr_1_4C (pc := 8) hX v_1_0 q_208 dX11_staysQuarrelled_8 ?_
  refine z_rV (run_V (pc := 11) (As := [.ref (ad G 4 0)]) hX (rc_4 v_4_36) ⟨q_631, q_442, q_3⟩ q_440 q_441 hd_X5_become ⟨Nat.le_of_ble_eq_true rfl, Nat.le_of_ble_eq_true rfl⟩ (c_Mo_become hG s 36 0 v_4_36 v_4_0) rfl rfl (Nat.le_of_ble_eq_true rfl) dX11_staysQuarrelled_11) (fun s1 => ?_)
  refine z_aload_n (pc := 14) hX dX11_staysQuarrelled_14 rfl 0 rfl ?_
  refine gr_0_5C (pc := 15) hX q_240 dX11_staysQuarrelled_15 ?_
  refine z_iload_n (pc := 18) hX dX11_staysQuarrelled_18 rfl 1 rfl ?_
  refine z_rV (run_V (pc := 19) (As := [.int x1]) hX (rc_4 v_4_36) ⟨q_599, q_540, q_3⟩ q_538 q_539 hd_X5_warm ⟨Nat.le_of_ble_eq_true rfl, Nat.le_of_ble_eq_true rfl⟩ (c_Mo_warm hG s1 36 x1 v_4_36) rfl rfl (Nat.le_of_ble_eq_true rfl) dX11_staysQuarrelled_19) (fun s2 => ?_)
  refine z_iconst (pc := 22) hX dX11_staysQuarrelled_22 ic_0 ?_
  refine z_istore (pc := 23) (ls' := [(4, .int (0 : Int32)), (0, .ref (ad G 0 0)), (1, .int x1), (2, .int x2), (3, .int x3)]) hX dX11_staysQuarrelled_23 (by decide) rfl ?_
  refine z_jn (P := fun K4 => ∀ (s3 : Sto), ZR G X (EC o L) pvI psI 5 s3 [(0, .ref (ad G 0 0))] [] 57 (K4 s3)) ?_ ?_
  · intro s3
    refine z_aload_n (pc := 57) hX dX11_staysQuarrelled_57 rfl 0 rfl ?_
    refine gr_0_5C (pc := 58) hX q_240 dX11_staysQuarrelled_58 ?_
    refine z_rP (run_V (pc := 61) (As := []) hX (rc_4 v_4_36) ⟨q_645, q_648, q_3⟩ q_646 q_647 hd_X5_friendly ⟨Nat.le_of_ble_eq_true rfl, Nat.le_of_ble_eq_true rfl⟩ (c_Mo_friendly hG s3 36 v_4_36) rfl rfl (Nat.le_of_ble_eq_true rfl) dX11_staysQuarrelled_61) (fun r5 => ?_)
    refine z_if_ne (pc := 64) (tgt := 71) hX dX11_staysQuarrelled_64 rfl ?_ ?_
    · refine z_iconst (pc := 71) hX dX11_staysQuarrelled_71 ic_0 ?_
      exact z_retIc (pc := 72) hX dX11_staysQuarrelled_72 (by decide)
    · refine z_iconst (pc := 67) hX dX11_staysQuarrelled_67 ic_1 ?_
      refine z_goto (pc := 68) (tgt := 72) hX dX11_staysQuarrelled_68 rfl ?_
      exact z_retIc (pc := 72) hX dX11_staysQuarrelled_72 (by decide)
  · intro K4 hK4
    refine z_ls [1, 3, 4, 0] rfl ?_
    refine (fx_P (F := l_T_staysQuarrelled_25 x2 x3 K4) (b := (fun _ _ => none)) (fun rc8 => ∀ (s6 : Sto) (v4_7 : Int32), ZR G X (EC o L) pvI psI 5 s6 [(0, .ref (ad G 0 0)), (2, .int x2), (3, .int x3), (4, .int v4_7)] [] 25 (rc8 s6 v4_7)) ?_ ?_ 1000) s2 (0 : Int32)
    · intro s6 v4_7; exact z_none
    · intro rc8 hrc8 s6 v4_7
      unfold l_T_staysQuarrelled_25
      refine z_iload (pc := 25) hX dX11_staysQuarrelled_25 3 rfl ?_
      refine z_iload_n (pc := 27) hX dX11_staysQuarrelled_27 rfl 2 rfl ?_
      refine z_icmp_ge (pc := 28) (tgt := 57) hX dX11_staysQuarrelled_28 rfl ?_ ?_
      · exact z_ls [0] rfl (hK4 s6)
      · refine z_aload_n (pc := 31) hX dX11_staysQuarrelled_31 rfl 0 rfl ?_
        refine gr_0_5C (pc := 32) hX q_240 dX11_staysQuarrelled_32 ?_
        refine z_rP (run_V (pc := 35) (As := []) hX (rc_4 v_4_36) ⟨q_645, q_648, q_3⟩ q_646 q_647 hd_X5_friendly ⟨Nat.le_of_ble_eq_true rfl, Nat.le_of_ble_eq_true rfl⟩ (c_Mo_friendly hG s6 36 v_4_36) rfl rfl (Nat.le_of_ble_eq_true rfl) dX11_staysQuarrelled_35) (fun r9 => ?_)
        refine z_if_eq (pc := 38) (tgt := 43) hX dX11_staysQuarrelled_38 rfl ?_ ?_
        · refine z_aload_n (pc := 43) hX dX11_staysQuarrelled_43 rfl 0 rfl ?_
          refine gr_0_5C (pc := 44) hX q_240 dX11_staysQuarrelled_44 ?_
          refine z_iload_n (pc := 47) hX dX11_staysQuarrelled_47 rfl 1 rfl ?_
          refine z_rV (run_V (pc := 48) (As := [.int x2]) hX (rc_4 v_4_36) ⟨q_599, q_540, q_3⟩ q_538 q_539 hd_X5_warm ⟨Nat.le_of_ble_eq_true rfl, Nat.le_of_ble_eq_true rfl⟩ (c_Mo_warm hG s6 36 x2 v_4_36) rfl rfl (Nat.le_of_ble_eq_true rfl) dX11_staysQuarrelled_48) (fun s10 => ?_)
          refine z_iinc (pc := 51) (n := 3) (v := v4_7 + (1 : Int32)) (ls' := [(4, .int (v4_7 + (1 : Int32))), (0, .ref (ad G 0 0)), (2, .int x2), (3, .int x3)]) hX dX11_staysQuarrelled_51 rfl (by rw [show Int32.ofInt (1) = 1 by decide +kernel]) (by decide) rfl ?_
          refine z_goto (pc := 54) (tgt := 25) hX dX11_staysQuarrelled_54 rfl ?_
          exact z_ls [1, 2, 3, 0] rfl (hrc8 s10 (v4_7 + (1 : Int32)))
        · refine z_iconst (pc := 41) hX dX11_staysQuarrelled_41 ic_0 ?_
          exact z_retIc (pc := 42) hX dX11_staysQuarrelled_42 (by decide)
theorem hd_X11_gain : yX11_gain.cls ≠ "java/lang/invoke/MethodHandle" ∧ yX11_gain.cls ≠ "java/lang/invoke/VarHandle" ∧ (parseMethodDescriptor yX11_gain.desc).map (fun d => d.parameters.length) = some 4 := by decide +kernel
def f_T_gain (s : Sto) (i0 : Nat) (x1 : Int32) (x2 : Int32) (x3 : Int32) : Option (Int32) :=
  jn (if x2 = (0 : Int32) then if x3 = (0 : Int32) then some (0 : Int32) else some (1 : Int32) else some (-1 : Int32)) (fun j1 => if x2 = (0 : Int32) then j1 else if x3 = (0 : Int32) then j1 else bP (f_He_likesAlone s i0 x1) (fun r2 => if r2 = (0 : Int32) then bP (f_He_hatesAlone s i0 x1) (fun r3 => if r3 = (0 : Int32) then some (0 : Int32) else some (-2 : Int32)) else some (2 : Int32)))
set_option maxRecDepth 100000 in
set_option maxHeartbeats 4000000 in
theorem c_T_gain {G : Gb} {l : Launch} {o : Sto} {L : Lng} (hG : GA G) (s : Sto) (i0 : Nat) (x1 : Int32) (x2 : Int32) (x3 : Int32) (h0 : V 2 i0) : CT G l (EC o L) pvP (psP s) yX11_gain cX11_gain 4 (some .int) 1 21 [.ref (ad G 2 i0), .int x1, .int x2, .int x3] s (f_T_gain s i0 x1 x2 x3) := by
  refine CT.of hG (by decide) (Nat.le_of_ble_eq_true rfl) (fun X hX => ?_)
  have hX : OX G X l cX11_gain 4 "CrownTwo" (some .int) 1 21 := hX
  show ZR G X (EC o L) pvP (psP s) 4 s [(0, .ref (ad G 2 i0)), (1, .int x1), (2, .int x2), (3, .int x3)] [] 0 _
  unfold f_T_gain
  refine z_iload_n (pc := 0) hX dX11_gain_0 rfl 2 rfl ?_
  refine z_jn (P := fun j1 => ZR G X (EC o L) pvP (psP s) 4 s [(2, .int x2), (3, .int x3)] [] 33 (j1)) ?_ ?_
  · skip
    refine z_iload_n (pc := 33) hX dX11_gain_33 rfl 0 rfl ?_
    refine z_if_eq (pc := 34) (tgt := 39) hX dX11_gain_34 rfl ?_ ?_
    · refine z_iload_n (pc := 39) hX dX11_gain_39 rfl 1 rfl ?_
      refine z_if_eq (pc := 40) (tgt := 47) hX dX11_gain_40 rfl ?_ ?_
      · refine z_iconst (pc := 47) hX dX11_gain_47 ic_0 ?_
        exact z_retP (pc := 48) hX dX11_gain_48
      · refine z_iconst (pc := 43) hX dX11_gain_43 ic_1 ?_
        refine z_goto (pc := 44) (tgt := 48) hX dX11_gain_44 rfl ?_
        exact z_retP (pc := 48) hX dX11_gain_48
    · refine z_iconst (pc := 37) hX dX11_gain_37 ic_m1 ?_
      exact z_retP (pc := 38) hX dX11_gain_38
  · intro j1 hj1
    refine z_if_eq (pc := 1) (tgt := 33) hX dX11_gain_1 rfl ?_ ?_
    · exact z_ls [2, 3] rfl (hj1)
    · refine z_iload_n (pc := 4) hX dX11_gain_4 rfl 3 rfl ?_
      refine z_if_eq (pc := 5) (tgt := 33) hX dX11_gain_5 rfl ?_ ?_
      · exact z_ls [2, 3] rfl (hj1)
      · refine z_aload_n (pc := 8) hX dX11_gain_8 rfl 0 rfl ?_
        refine z_iload_n (pc := 9) hX dX11_gain_9 rfl 1 rfl ?_
        refine z_rP (run_V (pc := 10) (As := [.int x1]) hX (rc_2 h0) ⟨q_742, q_509, q_11⟩ q_507 q_508 hd_X3_likesAlone ⟨Nat.le_of_ble_eq_true rfl, Nat.le_of_ble_eq_true rfl⟩ (c_He_likesAlone hG s i0 x1 h0) rfl rfl (Nat.le_of_ble_eq_true rfl) dX11_gain_10) (fun r2 => ?_)
        refine z_if_eq (pc := 13) (tgt := 18) hX dX11_gain_13 rfl ?_ ?_
        · refine z_aload_n (pc := 18) hX dX11_gain_18 rfl 0 rfl ?_
          refine z_iload_n (pc := 19) hX dX11_gain_19 rfl 1 rfl ?_
          refine z_rP (run_V (pc := 20) (As := [.int x1]) hX (rc_2 h0) ⟨q_743, q_513, q_11⟩ q_511 q_512 hd_X3_hatesAlone ⟨Nat.le_of_ble_eq_true rfl, Nat.le_of_ble_eq_true rfl⟩ (c_He_hatesAlone hG s i0 x1 h0) rfl rfl (Nat.le_of_ble_eq_true rfl) dX11_gain_20) (fun r3 => ?_)
          refine z_if_eq (pc := 23) (tgt := 31) hX dX11_gain_23 rfl ?_ ?_
          · refine z_iconst (pc := 31) hX dX11_gain_31 ic_0 ?_
            exact z_retP (pc := 32) hX dX11_gain_32
          · refine z_bipush (pc := 26) hX dX11_gain_26 bp_m2 ?_
            refine z_goto (pc := 28) (tgt := 32) hX dX11_gain_28 rfl ?_
            exact z_retP (pc := 32) hX dX11_gain_32
        · refine z_iconst (pc := 16) hX dX11_gain_16 ic_2 ?_
          exact z_retP (pc := 17) hX dX11_gain_17
theorem hd_X11_setFraction : yX11_setFraction.cls ≠ "java/lang/invoke/MethodHandle" ∧ yX11_setFraction.cls ≠ "java/lang/invoke/VarHandle" ∧ (parseMethodDescriptor yX11_setFraction.desc).map (fun d => d.parameters.length) = some 2 := by decide +kernel
def l_T_setFraction_8 (K2 : Int32 → Option (Sto)) (rc8 : Int32 → Int32 → Int32 → Option (Sto)) (v3_5 : Int32) (v4_6 : Int32) (v5_7 : Int32) : Option (Sto) :=
  if (100 : Int32) ≤ v5_7 then K2 v3_5 else if v4_6 ≤ (0 : Int32) then K2 v3_5 else if ¬ v4_6 = (0 : Int32) then lt (v3_5 - v3_5 / v4_6 * v4_6) (fun v6_9 => rc8 v4_6 v6_9 (v5_7 + (1 : Int32))) else none
def f_T_setFraction (s : Sto) (x1 : Int32) (x2 : Int32) : Option (Sto) :=
  jn (fun v3_1 => if (0 : Int32) < v3_1 then if ¬ v3_1 = (0 : Int32) then lt (st s 0 0 10 (x1 / v3_1)) (fun s3 => if ¬ v3_1 = (0 : Int32) then lt (st s3 0 0 11 (x2 / v3_1)) (fun s4 => some s4) else none) else none else some s) (fun K2 => fx 1000 (l_T_setFraction_8 K2) (fun _ _ _ => none) x2 x1 (0 : Int32))
set_option maxRecDepth 100000 in
set_option maxHeartbeats 4000000 in
theorem c_T_setFraction {G : Gb} {l : Launch} {o : Sto} {L : Lng} (hG : GA G) (s : Sto) (x1 : Int32) (x2 : Int32)  : CT G l (EC o L) pvV psV yX11_setFraction cX11_setFraction 7 none 0 0 [.ref (ad G 0 0), .int x1, .int x2] s (f_T_setFraction s x1 x2) := by
  refine CT.of hG (by decide) (Nat.le_of_ble_eq_true rfl) (fun X hX => ?_)
  have hX : OX G X l cX11_setFraction 7 "CrownTwo" none 0 0 := hX
  show ZR G X (EC o L) pvV psV 7 s [(0, .ref (ad G 0 0)), (1, .int x1), (2, .int x2)] [] 0 _
  unfold f_T_setFraction
  refine z_iload_n (pc := 0) hX dX11_setFraction_0 rfl 2 rfl ?_
  refine z_istore_n (pc := 1) (ls' := [(3, .int x2), (0, .ref (ad G 0 0)), (1, .int x1), (2, .int x2)]) hX dX11_setFraction_1 rfl (by decide) rfl ?_
  refine z_iload_n (pc := 2) hX dX11_setFraction_2 rfl 2 rfl ?_
  refine z_istore (pc := 3) (ls' := [(4, .int x1), (3, .int x2), (0, .ref (ad G 0 0)), (1, .int x1), (2, .int x2)]) hX dX11_setFraction_3 (by decide) rfl ?_
  refine z_iconst (pc := 5) hX dX11_setFraction_5 ic_0 ?_
  refine z_istore (pc := 6) (ls' := [(5, .int (0 : Int32)), (4, .int x1), (3, .int x2), (0, .ref (ad G 0 0)), (1, .int x1), (2, .int x2)]) hX dX11_setFraction_6 (by decide) rfl ?_
  refine z_jn (P := fun K2 => ∀ (v3_1 : Int32), ZR G X (EC o L) pvV psV 7 s [(0, .ref (ad G 0 0)), (1, .int x1), (2, .int x2), (3, .int v3_1)] [] 39 (K2 v3_1)) ?_ ?_
  · intro v3_1
    refine z_iload_n (pc := 39) hX dX11_setFraction_39 rfl 3 rfl ?_
    refine z_if_gt (pc := 40) (tgt := 44) hX dX11_setFraction_40 rfl ?_ ?_
    · refine z_aload_n (pc := 44) hX dX11_setFraction_44 rfl 0 rfl ?_
      refine z_iload_n (pc := 45) hX dX11_setFraction_45 rfl 1 rfl ?_
      refine z_iload_n (pc := 46) hX dX11_setFraction_46 rfl 3 rfl ?_
      refine z_idiv (pc := 47) hX dX11_setFraction_47 ?_
      refine pf_0_10C (pc := 48) hX q_245 dX11_setFraction_48 ?_
      refine z_lts (fun s3 => ?_)
      refine z_aload_n (pc := 51) hX dX11_setFraction_51 rfl 0 rfl ?_
      refine z_iload_n (pc := 52) hX dX11_setFraction_52 rfl 2 rfl ?_
      refine z_iload_n (pc := 53) hX dX11_setFraction_53 rfl 3 rfl ?_
      refine z_idiv (pc := 54) hX dX11_setFraction_54 ?_
      refine pf_0_11C (pc := 55) hX q_246 dX11_setFraction_55 ?_
      refine z_lts (fun s4 => ?_)
      exact z_retV (pc := 58) hX dX11_setFraction_58
    · exact z_retV (pc := 43) hX dX11_setFraction_43
  · intro K2 hK2
    refine z_ls [3, 4, 5, 2, 1, 0] rfl ?_
    refine (fx_P (F := l_T_setFraction_8 K2) (b := (fun _ _ _ => none)) (fun rc8 => ∀ (v3_5 : Int32) (v4_6 : Int32) (v5_7 : Int32), ZR G X (EC o L) pvV psV 7 s [(0, .ref (ad G 0 0)), (1, .int x1), (2, .int x2), (3, .int v3_5), (4, .int v4_6), (5, .int v5_7)] [] 8 (rc8 v3_5 v4_6 v5_7)) ?_ ?_ 1000) x2 x1 (0 : Int32)
    · intro v3_5 v4_6 v5_7; exact z_none
    · intro rc8 hrc8 v3_5 v4_6 v5_7
      unfold l_T_setFraction_8
      refine z_iload (pc := 8) hX dX11_setFraction_8 5 rfl ?_
      refine z_bipush (pc := 10) hX dX11_setFraction_10 bp_100 ?_
      refine z_icmp_ge (pc := 12) (tgt := 39) hX dX11_setFraction_12 rfl ?_ ?_
      · exact z_ls [0, 1, 2, 3] rfl (hK2 v3_5)
      · refine z_iload (pc := 15) hX dX11_setFraction_15 4 rfl ?_
        refine z_if_le (pc := 17) (tgt := 39) hX dX11_setFraction_17 rfl ?_ ?_
        · exact z_ls [0, 1, 2, 3] rfl (hK2 v3_5)
        · refine z_iload_n (pc := 20) hX dX11_setFraction_20 rfl 3 rfl ?_
          refine z_iload (pc := 21) hX dX11_setFraction_21 4 rfl ?_
          refine z_irem (pc := 23) hX dX11_setFraction_23 ?_
          refine z_lti (pc := 24) (fun v6_9 => ?_)
          refine z_istore (pc := 24) (ls' := [(6, .int v6_9), (0, .ref (ad G 0 0)), (1, .int x1), (2, .int x2), (3, .int v3_5), (4, .int v4_6), (5, .int v5_7)]) hX dX11_setFraction_24 (by decide) rfl ?_
          refine z_iload (pc := 26) hX dX11_setFraction_26 5 rfl ?_
          refine z_istore_n (pc := 28) (ls' := [(3, .int v4_6), (6, .int v6_9), (0, .ref (ad G 0 0)), (1, .int x1), (2, .int x2), (4, .int v4_6), (5, .int v5_7)]) hX dX11_setFraction_28 rfl (by decide) rfl ?_
          refine z_iload (pc := 29) hX dX11_setFraction_29 1 rfl ?_
          refine z_istore (pc := 31) (ls' := [(4, .int v6_9), (3, .int v4_6), (6, .int v6_9), (0, .ref (ad G 0 0)), (1, .int x1), (2, .int x2), (5, .int v5_7)]) hX dX11_setFraction_31 (by decide) rfl ?_
          refine z_iinc (pc := 33) (n := 6) (v := v5_7 + (1 : Int32)) (ls' := [(5, .int (v5_7 + (1 : Int32))), (4, .int v6_9), (3, .int v4_6), (6, .int v6_9), (0, .ref (ad G 0 0)), (1, .int x1), (2, .int x2)]) hX dX11_setFraction_33 rfl (by rw [show Int32.ofInt (1) = 1 by decide +kernel]) (by decide) rfl ?_
          refine z_goto (pc := 36) (tgt := 8) hX dX11_setFraction_36 rfl ?_
          exact z_ls [4, 5, 6, 2, 1, 0] rfl (hrc8 v4_6 v6_9 (v5_7 + (1 : Int32)))
theorem hd_X11_court : yX11_court.cls ≠ "java/lang/invoke/MethodHandle" ∧ yX11_court.cls ≠ "java/lang/invoke/VarHandle" ∧ (parseMethodDescriptor yX11_court.desc).map (fun d => d.parameters.length) = some 1 := by decide +kernel
def f_T_court (s : Sto) (x1 : Int32) : Option (Int32 × Sto) :=
  bP (f_T_outside x1 (0 : Int32) (99 : Int32)) (fun r1 => if r1 = (0 : Int32) then lt (s 1 0 5) (fun v2_2 => bV (f_Co_begin s 0 x1) (fun s3 => some (v2_2, s3))) else bI (f_T_bad s) (fun r4 s5 => some (r4, s5)))
set_option maxRecDepth 100000 in
set_option maxHeartbeats 4000000 in
theorem c_T_court {G : Gb} {l : Launch} {o : Sto} {L : Lng} (hG : GA G) (s : Sto) (x1 : Int32)  : CT G l (EC o L) pvI psI yX11_court cX11_court 3 (some .int) 2 42 [.ref (ad G 0 0), .int x1] s (f_T_court s x1) := by
  refine CT.of hG (by decide) (Nat.le_of_ble_eq_true rfl) (fun X hX => ?_)
  have hX : OX G X l cX11_court 3 "CrownTwo" (some .int) 2 42 := hX
  show ZR G X (EC o L) pvI psI 3 s [(0, .ref (ad G 0 0)), (1, .int x1)] [] 0 _
  unfold f_T_court
  refine z_iload_n (pc := 0) hX dX11_court_0 rfl 1 rfl ?_
  refine z_iconst (pc := 1) hX dX11_court_1 ic_0 ?_
  refine z_bipush (pc := 2) hX dX11_court_2 bp_99 ?_
  refine z_rP (run_S (pc := 4) (As := [.int x1, .int (0 : Int32), .int (99 : Int32)]) hX ⟨q_285, q_287, q_1⟩ q_286 hd_X11_outside ⟨Nat.le_of_ble_eq_true rfl, Nat.le_of_ble_eq_true rfl⟩ (c_T_outside hG s x1 (0 : Int32) (99 : Int32)) rfl rfl (Nat.le_of_ble_eq_true rfl) dX11_court_4) (fun r1 => ?_)
  refine z_if_eq (pc := 7) (tgt := 15) hX dX11_court_7 rfl ?_ ?_
  · refine z_aload_n (pc := 15) hX dX11_court_15 rfl 0 rfl ?_
    refine gr_0_0C (pc := 16) hX q_235 dX11_court_16 ?_
    refine gf_1_5C (pc := 19) hX v_1_0 q_211 dX11_court_19 ?_
    refine z_lti (pc := 22) (fun v2_2 => ?_)
    refine z_istore_n (pc := 22) (ls' := [(2, .int v2_2), (0, .ref (ad G 0 0)), (1, .int x1)]) hX dX11_court_22 rfl (by decide) rfl ?_
    refine z_aload_n (pc := 23) hX dX11_court_23 rfl 1 rfl ?_
    refine gr_0_0C (pc := 24) hX q_235 dX11_court_24 ?_
    refine z_iload_n (pc := 27) hX dX11_court_27 rfl 2 rfl ?_
    refine z_rV (run_V (pc := 28) (As := [.int x1]) hX (rc_1 v_1_0) ⟨q_292, q_295, q_10⟩ q_293 q_294 hd_X0_begin ⟨Nat.le_of_ble_eq_true rfl, Nat.le_of_ble_eq_true rfl⟩ (c_Co_begin hG s 0 x1 v_1_0) rfl rfl (Nat.le_of_ble_eq_true rfl) dX11_court_28) (fun s3 => ?_)
    refine z_iload_n (pc := 31) hX dX11_court_31 rfl 0 rfl ?_
    exact z_retI (pc := 32) hX dX11_court_32
  · refine z_aload_n (pc := 10) hX dX11_court_10 rfl 0 rfl ?_
    refine z_rI (run_V (pc := 11) (As := []) hX rc_0 ⟨q_288, q_291, q_1⟩ q_290 qs_0 hd_X11_bad ⟨Nat.le_of_ble_eq_true rfl, Nat.le_of_ble_eq_true rfl⟩ (c_T_bad hG s) rfl rfl (Nat.le_of_ble_eq_true rfl) dX11_court_11) (fun r4 s5 => ?_)
    exact z_retI (pc := 14) hX dX11_court_14
theorem hd_X11_heir : yX11_heir.cls ≠ "java/lang/invoke/MethodHandle" ∧ yX11_heir.cls ≠ "java/lang/invoke/VarHandle" ∧ (parseMethodDescriptor yX11_heir.desc).map (fun d => d.parameters.length) = some 4 := by decide +kernel
def f_T_heir (s : Sto) (x1 : Int32) (x2 : Int32) (x3 : Int32) (x4 : Int32) : Option (Int32 × Sto) :=
  bP (f_T_outside x1 (0 : Int32) (5 : Int32)) (fun r1 => if r1 = (0 : Int32) then bP (f_T_outside x4 (0 : Int32) (20 : Int32)) (fun r4 => if r4 = (0 : Int32) then bP (f_T_outside x2 (0 : Int32) (255 : Int32)) (fun r5 => if r5 = (0 : Int32) then bP (f_T_outside x3 (0 : Int32) (255 : Int32)) (fun r8 => if r8 = (0 : Int32) then if (s 1 0 5) < (6 : Int32) then bI (f_Co_admit s 0 x1 x2 x3 x4) (fun r9 s10 => some (r9, s10)) else bI (f_T_full s) (fun r11 s12 => some (r11, s12)) else bI (f_T_bad s) (fun r13 s14 => some (r13, s14))) else bI (f_T_bad s) (fun r6 s7 => some (r6, s7))) else bI (f_T_bad s) (fun r15 s16 => some (r15, s16))) else bI (f_T_bad s) (fun r2 s3 => some (r2, s3)))
set_option maxRecDepth 100000 in
set_option maxHeartbeats 4000000 in
theorem c_T_heir {G : Gb} {l : Launch} {o : Sto} {L : Lng} (hG : GA G) (s : Sto) (x1 : Int32) (x2 : Int32) (x3 : Int32) (x4 : Int32)  : CT G l (EC o L) pvI psI yX11_heir cX11_heir 5 (some .int) 2 48 [.ref (ad G 0 0), .int x1, .int x2, .int x3, .int x4] s (f_T_heir s x1 x2 x3 x4) := by
  refine CT.of hG (by decide) (Nat.le_of_ble_eq_true rfl) (fun X hX => ?_)
  have hX : OX G X l cX11_heir 5 "CrownTwo" (some .int) 2 48 := hX
  show ZR G X (EC o L) pvI psI 5 s [(0, .ref (ad G 0 0)), (1, .int x1), (2, .int x2), (3, .int x3), (4, .int x4)] [] 0 _
  unfold f_T_heir
  refine z_iload_n (pc := 0) hX dX11_heir_0 rfl 1 rfl ?_
  refine z_iconst (pc := 1) hX dX11_heir_1 ic_0 ?_
  refine z_iconst (pc := 2) hX dX11_heir_2 ic_5 ?_
  refine z_rP (run_S (pc := 3) (As := [.int x1, .int (0 : Int32), .int (5 : Int32)]) hX ⟨q_285, q_287, q_1⟩ q_286 hd_X11_outside ⟨Nat.le_of_ble_eq_true rfl, Nat.le_of_ble_eq_true rfl⟩ (c_T_outside hG s x1 (0 : Int32) (5 : Int32)) rfl rfl (Nat.le_of_ble_eq_true rfl) dX11_heir_3) (fun r1 => ?_)
  refine z_if_ne (pc := 6) (tgt := 20) hX dX11_heir_6 rfl ?_ ?_
  · refine z_aload_n (pc := 20) hX dX11_heir_20 rfl 0 rfl ?_
    refine z_rI (run_V (pc := 21) (As := []) hX rc_0 ⟨q_288, q_291, q_1⟩ q_290 qs_0 hd_X11_bad ⟨Nat.le_of_ble_eq_true rfl, Nat.le_of_ble_eq_true rfl⟩ (c_T_bad hG s) rfl rfl (Nat.le_of_ble_eq_true rfl) dX11_heir_21) (fun r2 s3 => ?_)
    exact z_retI (pc := 24) hX dX11_heir_24
  · refine z_iload (pc := 9) hX dX11_heir_9 4 rfl ?_
    refine z_iconst (pc := 11) hX dX11_heir_11 ic_0 ?_
    refine z_bipush (pc := 12) hX dX11_heir_12 bp_20 ?_
    refine z_rP (run_S (pc := 14) (As := [.int x4, .int (0 : Int32), .int (20 : Int32)]) hX ⟨q_285, q_287, q_1⟩ q_286 hd_X11_outside ⟨Nat.le_of_ble_eq_true rfl, Nat.le_of_ble_eq_true rfl⟩ (c_T_outside hG s x4 (0 : Int32) (20 : Int32)) rfl rfl (Nat.le_of_ble_eq_true rfl) dX11_heir_14) (fun r4 => ?_)
    refine z_if_eq (pc := 17) (tgt := 25) hX dX11_heir_17 rfl ?_ ?_
    · refine z_iload_n (pc := 25) hX dX11_heir_25 rfl 2 rfl ?_
      refine z_iconst (pc := 26) hX dX11_heir_26 ic_0 ?_
      refine z_sipush (pc := 27) hX dX11_heir_27 sp_255 ?_
      refine z_rP (run_S (pc := 30) (As := [.int x2, .int (0 : Int32), .int (255 : Int32)]) hX ⟨q_285, q_287, q_1⟩ q_286 hd_X11_outside ⟨Nat.le_of_ble_eq_true rfl, Nat.le_of_ble_eq_true rfl⟩ (c_T_outside hG s x2 (0 : Int32) (255 : Int32)) rfl rfl (Nat.le_of_ble_eq_true rfl) dX11_heir_30) (fun r5 => ?_)
      refine z_if_ne (pc := 33) (tgt := 47) hX dX11_heir_33 rfl ?_ ?_
      · refine z_aload_n (pc := 47) hX dX11_heir_47 rfl 0 rfl ?_
        refine z_rI (run_V (pc := 48) (As := []) hX rc_0 ⟨q_288, q_291, q_1⟩ q_290 qs_0 hd_X11_bad ⟨Nat.le_of_ble_eq_true rfl, Nat.le_of_ble_eq_true rfl⟩ (c_T_bad hG s) rfl rfl (Nat.le_of_ble_eq_true rfl) dX11_heir_48) (fun r6 s7 => ?_)
        exact z_retI (pc := 51) hX dX11_heir_51
      · refine z_iload_n (pc := 36) hX dX11_heir_36 rfl 3 rfl ?_
        refine z_iconst (pc := 37) hX dX11_heir_37 ic_0 ?_
        refine z_sipush (pc := 38) hX dX11_heir_38 sp_255 ?_
        refine z_rP (run_S (pc := 41) (As := [.int x3, .int (0 : Int32), .int (255 : Int32)]) hX ⟨q_285, q_287, q_1⟩ q_286 hd_X11_outside ⟨Nat.le_of_ble_eq_true rfl, Nat.le_of_ble_eq_true rfl⟩ (c_T_outside hG s x3 (0 : Int32) (255 : Int32)) rfl rfl (Nat.le_of_ble_eq_true rfl) dX11_heir_41) (fun r8 => ?_)
        refine z_if_eq (pc := 44) (tgt := 52) hX dX11_heir_44 rfl ?_ ?_
        · refine z_aload_n (pc := 52) hX dX11_heir_52 rfl 0 rfl ?_
          refine gr_0_0C (pc := 53) hX q_235 dX11_heir_53 ?_
          refine gf_1_5C (pc := 56) hX v_1_0 q_211 dX11_heir_56 ?_
          refine z_bipush (pc := 59) hX dX11_heir_59 bp_6 ?_
          refine z_icmp_lt (pc := 61) (tgt := 69) hX dX11_heir_61 rfl ?_ ?_
          · refine z_aload_n (pc := 69) hX dX11_heir_69 rfl 0 rfl ?_
            refine gr_0_0C (pc := 70) hX q_235 dX11_heir_70 ?_
            refine z_iload_n (pc := 73) hX dX11_heir_73 rfl 1 rfl ?_
            refine z_iload_n (pc := 74) hX dX11_heir_74 rfl 2 rfl ?_
            refine z_iload_n (pc := 75) hX dX11_heir_75 rfl 3 rfl ?_
            refine z_iload (pc := 76) hX dX11_heir_76 4 rfl ?_
            refine z_rI (run_V (pc := 78) (As := [.int x1, .int x2, .int x3, .int x4]) hX (rc_1 v_1_0) ⟨q_308, q_311, q_10⟩ q_309 q_310 hd_X0_admit ⟨Nat.le_of_ble_eq_true rfl, Nat.le_of_ble_eq_true rfl⟩ (c_Co_admit hG s 0 x1 x2 x3 x4 v_1_0) rfl rfl (Nat.le_of_ble_eq_true rfl) dX11_heir_78) (fun r9 s10 => ?_)
            exact z_retI (pc := 81) hX dX11_heir_81
          · refine z_aload_n (pc := 64) hX dX11_heir_64 rfl 0 rfl ?_
            refine z_rI (run_V (pc := 65) (As := []) hX rc_0 ⟨q_304, q_307, q_1⟩ q_306 qs_1 hd_X11_full ⟨Nat.le_of_ble_eq_true rfl, Nat.le_of_ble_eq_true rfl⟩ (c_T_full hG s) rfl rfl (Nat.le_of_ble_eq_true rfl) dX11_heir_65) (fun r11 s12 => ?_)
            exact z_retI (pc := 68) hX dX11_heir_68
        · refine z_aload_n (pc := 47) hX dX11_heir_47 rfl 0 rfl ?_
          refine z_rI (run_V (pc := 48) (As := []) hX rc_0 ⟨q_288, q_291, q_1⟩ q_290 qs_0 hd_X11_bad ⟨Nat.le_of_ble_eq_true rfl, Nat.le_of_ble_eq_true rfl⟩ (c_T_bad hG s) rfl rfl (Nat.le_of_ble_eq_true rfl) dX11_heir_48) (fun r13 s14 => ?_)
          exact z_retI (pc := 51) hX dX11_heir_51
    · refine z_aload_n (pc := 20) hX dX11_heir_20 rfl 0 rfl ?_
      refine z_rI (run_V (pc := 21) (As := []) hX rc_0 ⟨q_288, q_291, q_1⟩ q_290 qs_0 hd_X11_bad ⟨Nat.le_of_ble_eq_true rfl, Nat.le_of_ble_eq_true rfl⟩ (c_T_bad hG s) rfl rfl (Nat.le_of_ble_eq_true rfl) dX11_heir_21) (fun r15 s16 => ?_)
      exact z_retI (pc := 24) hX dX11_heir_24
theorem hd_X11_type : yX11_type.cls ≠ "java/lang/invoke/MethodHandle" ∧ yX11_type.cls ≠ "java/lang/invoke/VarHandle" ∧ (parseMethodDescriptor yX11_type.desc).map (fun d => d.parameters.length) = some 1 := by decide +kernel
def f_T_type (s : Sto) (x1 : Int32) : Option (Int32 × Sto) :=
  bP (f_T_outside x1 (0 : Int32) (127 : Int32)) (fun r1 => if r1 = (0 : Int32) then if (s 5 0 1) < (150 : Int32) then bV (f_Tx_append s x1) (fun s2 => some (s2 5 0 1, s2)) else bI (f_T_full s) (fun r3 s4 => some (r3, s4)) else bI (f_T_bad s) (fun r5 s6 => some (r5, s6)))
set_option maxRecDepth 100000 in
set_option maxHeartbeats 4000000 in
theorem c_T_type {G : Gb} {l : Launch} {o : Sto} {L : Lng} (hG : GA G) (s : Sto) (x1 : Int32)  : CT G l (EC o L) pvI psI yX11_type cX11_type 2 (some .int) 1 22 [.ref (ad G 0 0), .int x1] s (f_T_type s x1) := by
  refine CT.of hG (by decide) (Nat.le_of_ble_eq_true rfl) (fun X hX => ?_)
  have hX : OX G X l cX11_type 2 "CrownTwo" (some .int) 1 22 := hX
  show ZR G X (EC o L) pvI psI 2 s [(0, .ref (ad G 0 0)), (1, .int x1)] [] 0 _
  unfold f_T_type
  refine z_iload_n (pc := 0) hX dX11_type_0 rfl 1 rfl ?_
  refine z_iconst (pc := 1) hX dX11_type_1 ic_0 ?_
  refine z_bipush (pc := 2) hX dX11_type_2 bp_127 ?_
  refine z_rP (run_S (pc := 4) (As := [.int x1, .int (0 : Int32), .int (127 : Int32)]) hX ⟨q_285, q_287, q_1⟩ q_286 hd_X11_outside ⟨Nat.le_of_ble_eq_true rfl, Nat.le_of_ble_eq_true rfl⟩ (c_T_outside hG s x1 (0 : Int32) (127 : Int32)) rfl rfl (Nat.le_of_ble_eq_true rfl) dX11_type_4) (fun r1 => ?_)
  refine z_if_eq (pc := 7) (tgt := 15) hX dX11_type_7 rfl ?_ ?_
  · refine z_aload_n (pc := 15) hX dX11_type_15 rfl 0 rfl ?_
    refine gr_0_4C (pc := 16) hX q_239 dX11_type_16 ?_
    refine gf_5_1C (pc := 19) hX q_37 dX11_type_19 ?_
    refine z_sipush (pc := 22) hX dX11_type_22 sp_150 ?_
    refine z_icmp_lt (pc := 25) (tgt := 33) hX dX11_type_25 rfl ?_ ?_
    · refine z_aload_n (pc := 33) hX dX11_type_33 rfl 0 rfl ?_
      refine gr_0_4C (pc := 34) hX q_239 dX11_type_34 ?_
      refine z_iload_n (pc := 37) hX dX11_type_37 rfl 1 rfl ?_
      refine z_rV (run_V (pc := 38) (As := [.int x1]) hX rc_5 ⟨q_320, q_323, q_2⟩ q_321 q_322 hd_X1_append ⟨Nat.le_of_ble_eq_true rfl, Nat.le_of_ble_eq_true rfl⟩ (c_Tx_append hG s x1) rfl rfl (Nat.le_of_ble_eq_true rfl) dX11_type_38) (fun s2 => ?_)
      refine z_aload_n (pc := 41) hX dX11_type_41 rfl 0 rfl ?_
      refine gr_0_4C (pc := 42) hX q_239 dX11_type_42 ?_
      refine gf_5_1C (pc := 45) hX q_37 dX11_type_45 ?_
      exact z_retI (pc := 48) hX dX11_type_48
    · refine z_aload_n (pc := 28) hX dX11_type_28 rfl 0 rfl ?_
      refine z_rI (run_V (pc := 29) (As := []) hX rc_0 ⟨q_304, q_307, q_1⟩ q_306 qs_1 hd_X11_full ⟨Nat.le_of_ble_eq_true rfl, Nat.le_of_ble_eq_true rfl⟩ (c_T_full hG s) rfl rfl (Nat.le_of_ble_eq_true rfl) dX11_type_29) (fun r3 s4 => ?_)
      exact z_retI (pc := 32) hX dX11_type_32
  · refine z_aload_n (pc := 10) hX dX11_type_10 rfl 0 rfl ?_
    refine z_rI (run_V (pc := 11) (As := []) hX rc_0 ⟨q_288, q_291, q_1⟩ q_290 qs_0 hd_X11_bad ⟨Nat.le_of_ble_eq_true rfl, Nat.le_of_ble_eq_true rfl⟩ (c_T_bad hG s) rfl rfl (Nat.le_of_ble_eq_true rfl) dX11_type_11) (fun r5 s6 => ?_)
    exact z_retI (pc := 14) hX dX11_type_14
theorem hd_X11_undo : yX11_undo.cls ≠ "java/lang/invoke/MethodHandle" ∧ yX11_undo.cls ≠ "java/lang/invoke/VarHandle" ∧ (parseMethodDescriptor yX11_undo.desc).map (fun d => d.parameters.length) = some 0 := by decide +kernel
def f_T_undo (s : Sto)  : Option (Int32 × Sto) :=
  if (0 : Int32) < (s 1 0 7) then bV (f_Co_goBack s 0) (fun s1 => some (s1 4 0 1, s1)) else bI (f_T_no s) (fun r2 s3 => some (r2, s3))
set_option maxRecDepth 100000 in
set_option maxHeartbeats 4000000 in
theorem c_T_undo {G : Gb} {l : Launch} {o : Sto} {L : Lng} (hG : GA G) (s : Sto)   : CT G l (EC o L) pvI psI yX11_undo cX11_undo 1 (some .int) 2 41 [.ref (ad G 0 0)] s (f_T_undo s) := by
  refine CT.of hG (by decide) (Nat.le_of_ble_eq_true rfl) (fun X hX => ?_)
  have hX : OX G X l cX11_undo 1 "CrownTwo" (some .int) 2 41 := hX
  show ZR G X (EC o L) pvI psI 1 s [(0, .ref (ad G 0 0))] [] 0 _
  unfold f_T_undo
  refine z_aload_n (pc := 0) hX dX11_undo_0 rfl 0 rfl ?_
  refine gr_0_0C (pc := 1) hX q_235 dX11_undo_1 ?_
  refine gf_1_7C (pc := 4) hX v_1_0 q_216 dX11_undo_4 ?_
  refine z_if_gt (pc := 7) (tgt := 15) hX dX11_undo_7 rfl ?_ ?_
  · refine z_aload_n (pc := 15) hX dX11_undo_15 rfl 0 rfl ?_
    refine gr_0_0C (pc := 16) hX q_235 dX11_undo_16 ?_
    refine z_rV (run_V (pc := 19) (As := []) hX (rc_1 v_1_0) ⟨q_604, q_607, q_10⟩ q_605 q_606 hd_X0_goBack ⟨Nat.le_of_ble_eq_true rfl, Nat.le_of_ble_eq_true rfl⟩ (c_Co_goBack hG s 0 v_1_0) rfl rfl (Nat.le_of_ble_eq_true rfl) dX11_undo_19) (fun s1 => ?_)
    refine z_aload_n (pc := 22) hX dX11_undo_22 rfl 0 rfl ?_
    refine gr_0_0C (pc := 23) hX q_235 dX11_undo_23 ?_
    refine gr_1_4C (pc := 26) hX v_1_0 q_208 dX11_undo_26 ?_
    refine gf_4_1C (pc := 29) hX v_4_0 q_68 dX11_undo_29 ?_
    exact z_retI (pc := 32) hX dX11_undo_32
  · refine z_aload_n (pc := 10) hX dX11_undo_10 rfl 0 rfl ?_
    refine z_rI (run_V (pc := 11) (As := []) hX rc_0 ⟨q_490, q_493, q_1⟩ q_492 qs_13 hd_X11_no ⟨Nat.le_of_ble_eq_true rfl, Nat.le_of_ble_eq_true rfl⟩ (c_T_no hG s) rfl rfl (Nat.le_of_ble_eq_true rfl) dX11_undo_11) (fun r2 s3 => ?_)
    exact z_retI (pc := 14) hX dX11_undo_14
theorem hd_X11_of : yX11_of.cls ≠ "java/lang/invoke/MethodHandle" ∧ yX11_of.cls ≠ "java/lang/invoke/VarHandle" ∧ (parseMethodDescriptor yX11_of.desc).map (fun d => d.parameters.length) = some 2 := by decide +kernel
def f_T_of (s : Sto) (x1 : Int32) (x2 : Int32) : Option (Int32 × Sto) :=
  bP (f_Co_has s 0 x1) (fun r1 => if r1 = (0 : Int32) then bI (f_T_bad s) (fun r2 s3 => some (r2, s3)) else bP (f_T_outside x2 (0 : Int32) (4 : Int32)) (fun r4 => if r4 = (0 : Int32) then if inb x1 6 then if x2 = (0 : Int32) then some (s 2 (6 * 0 + ix x1) 0, s) else if x2 = (1 : Int32) then some (s 2 (6 * 0 + ix x1) 1, s) else if x2 = (2 : Int32) then some (s 2 (6 * 0 + ix x1) 2, s) else if x2 = (3 : Int32) then some (s 2 (6 * 0 + ix x1) 3, s) else bP (f_Mo_sideOf s 0 x1) (fun r6 => some (r6, s)) else none else bI (f_T_bad s) (fun r7 s8 => some (r7, s8))))
set_option maxRecDepth 100000 in
set_option maxHeartbeats 4000000 in
theorem c_T_of {G : Gb} {l : Launch} {o : Sto} {L : Lng} (hG : GA G) (s : Sto) (x1 : Int32) (x2 : Int32)  : CT G l (EC o L) pvI psI yX11_of cX11_of 4 (some .int) 1 22 [.ref (ad G 0 0), .int x1, .int x2] s (f_T_of s x1 x2) := by
  refine CT.of hG (by decide) (Nat.le_of_ble_eq_true rfl) (fun X hX => ?_)
  have hX : OX G X l cX11_of 4 "CrownTwo" (some .int) 1 22 := hX
  show ZR G X (EC o L) pvI psI 4 s [(0, .ref (ad G 0 0)), (1, .int x1), (2, .int x2)] [] 0 _
  unfold f_T_of
  refine z_aload_n (pc := 0) hX dX11_of_0 rfl 0 rfl ?_
  refine gr_0_0C (pc := 1) hX q_235 dX11_of_1 ?_
  refine z_iload_n (pc := 4) hX dX11_of_4 rfl 1 rfl ?_
  refine z_rP (run_V (pc := 5) (As := [.int x1]) hX (rc_1 v_1_0) ⟨q_612, q_468, q_10⟩ q_466 q_467 hd_X0_has ⟨Nat.le_of_ble_eq_true rfl, Nat.le_of_ble_eq_true rfl⟩ (c_Co_has hG s 0 x1 v_1_0) rfl rfl (Nat.le_of_ble_eq_true rfl) dX11_of_5) (fun r1 => ?_)
  refine z_if_eq (pc := 8) (tgt := 20) hX dX11_of_8 rfl ?_ ?_
  · refine z_aload_n (pc := 20) hX dX11_of_20 rfl 0 rfl ?_
    refine z_rI (run_V (pc := 21) (As := []) hX rc_0 ⟨q_288, q_291, q_1⟩ q_290 qs_0 hd_X11_bad ⟨Nat.le_of_ble_eq_true rfl, Nat.le_of_ble_eq_true rfl⟩ (c_T_bad hG s) rfl rfl (Nat.le_of_ble_eq_true rfl) dX11_of_21) (fun r2 s3 => ?_)
    exact z_retI (pc := 24) hX dX11_of_24
  · refine z_iload_n (pc := 11) hX dX11_of_11 rfl 2 rfl ?_
    refine z_iconst (pc := 12) hX dX11_of_12 ic_0 ?_
    refine z_iconst (pc := 13) hX dX11_of_13 ic_4 ?_
    refine z_rP (run_S (pc := 14) (As := [.int x2, .int (0 : Int32), .int (4 : Int32)]) hX ⟨q_285, q_287, q_1⟩ q_286 hd_X11_outside ⟨Nat.le_of_ble_eq_true rfl, Nat.le_of_ble_eq_true rfl⟩ (c_T_outside hG s x2 (0 : Int32) (4 : Int32)) rfl rfl (Nat.le_of_ble_eq_true rfl) dX11_of_14) (fun r4 => ?_)
    refine z_if_eq (pc := 17) (tgt := 25) hX dX11_of_17 rfl ?_ ?_
    · refine z_aload_n (pc := 25) hX dX11_of_25 rfl 0 rfl ?_
      refine gr_0_0C (pc := 26) hX q_235 dX11_of_26 ?_
      refine gr_1_1C (pc := 29) hX v_1_0 q_203 dX11_of_29 ?_
      refine z_iload_n (pc := 32) hX dX11_of_32 rfl 1 rfl ?_
      refine aa_8C (pc := 33) hX v_8_0 dX11_of_33 (fun hv5 => ?_)
      refine z_astore_n (pc := 34) (ls' := [(3, .ref (ad G 2 (6 * 0 + ix x1))), (0, .ref (ad G 0 0)), (1, .int x1), (2, .int x2)]) hX dX11_of_34 rfl (by decide) rfl ?_
      refine z_iload_n (pc := 35) hX dX11_of_35 rfl 3 rfl ?_
      refine z_tab1 (pc := 36) (tgt := 68) (v := 0) (off := 32) hX dX11_of_36 (by decide +kernel) (by decide +kernel) (by decide +kernel) rfl ?_ (fun hn0 => ?_)
      · refine z_aload_n (pc := 68) hX dX11_of_68 rfl 0 rfl ?_
        refine gf_2_0C (pc := 69) hX hv5 q_155 dX11_of_69 ?_
        exact z_retI (pc := 72) hX dX11_of_72
      · refine z_tab1 (pc := 36) (tgt := 73) (v := 1) (off := 37) hX dX11_of_36 (by decide +kernel) (by decide +kernel) (by decide +kernel) rfl ?_ (fun hn1 => ?_)
        · refine z_aload_n (pc := 73) hX dX11_of_73 rfl 0 rfl ?_
          refine gf_2_1C (pc := 74) hX hv5 q_158 dX11_of_74 ?_
          exact z_retI (pc := 77) hX dX11_of_77
        · refine z_tab1 (pc := 36) (tgt := 78) (v := 2) (off := 42) hX dX11_of_36 (by decide +kernel) (by decide +kernel) (by decide +kernel) rfl ?_ (fun hn2 => ?_)
          · refine z_aload_n (pc := 78) hX dX11_of_78 rfl 0 rfl ?_
            refine gf_2_2C (pc := 79) hX hv5 q_161 dX11_of_79 ?_
            exact z_retI (pc := 82) hX dX11_of_82
          · refine z_tab1 (pc := 36) (tgt := 83) (v := 3) (off := 47) hX dX11_of_36 (by decide +kernel) (by decide +kernel) (by decide +kernel) rfl ?_ (fun hn3 => ?_)
            · refine z_aload_n (pc := 83) hX dX11_of_83 rfl 0 rfl ?_
              refine gf_2_3C (pc := 84) hX hv5 q_164 dX11_of_84 ?_
              exact z_retI (pc := 87) hX dX11_of_87
            · refine z_tab0 (pc := 36) (tgt := 88) hX dX11_of_36 (sw_out [0, 1, 2, 3] (List.forall_mem_cons.mpr ⟨hn0, List.forall_mem_cons.mpr ⟨hn1, List.forall_mem_cons.mpr ⟨hn2, List.forall_mem_cons.mpr ⟨hn3, fun _ h => absurd h List.not_mem_nil⟩⟩⟩⟩) (by decide +kernel)) rfl ?_
              refine z_aload_n (pc := 88) hX dX11_of_88 rfl 1 rfl ?_
              refine gr_0_0C (pc := 89) hX q_235 dX11_of_89 ?_
              refine gr_1_4C (pc := 92) hX v_1_0 q_208 dX11_of_92 ?_
              refine z_iload_n (pc := 95) hX dX11_of_95 rfl 2 rfl ?_
              refine z_rP (run_V (pc := 96) (As := [.int x1]) hX (rc_4 v_4_0) ⟨q_613, q_616, q_3⟩ q_614 q_615 hd_X5_sideOf ⟨Nat.le_of_ble_eq_true rfl, Nat.le_of_ble_eq_true rfl⟩ (c_Mo_sideOf hG s 0 x1 v_4_0) rfl rfl (Nat.le_of_ble_eq_true rfl) dX11_of_96) (fun r6 => ?_)
              exact z_retI (pc := 99) hX dX11_of_99
    · refine z_aload_n (pc := 20) hX dX11_of_20 rfl 0 rfl ?_
      refine z_rI (run_V (pc := 21) (As := []) hX rc_0 ⟨q_288, q_291, q_1⟩ q_290 qs_0 hd_X11_bad ⟨Nat.le_of_ble_eq_true rfl, Nat.le_of_ble_eq_true rfl⟩ (c_T_bad hG s) rfl rfl (Nat.le_of_ble_eq_true rfl) dX11_of_21) (fun r7 s8 => ?_)
      exact z_retI (pc := 24) hX dX11_of_24
theorem hd_X11_note : yX11_note.cls ≠ "java/lang/invoke/MethodHandle" ∧ yX11_note.cls ≠ "java/lang/invoke/VarHandle" ∧ (parseMethodDescriptor yX11_note.desc).map (fun d => d.parameters.length) = some 5 := by decide +kernel
def f_T_note (s : Sto) (x1 : Int32) (x2 : Int32) (x3 : Int32) (x4 : Int32) (x5 : Int32) : Option (Int32 × Sto) :=
  bP (f_Co_has s 0 x1) (fun r1 => if r1 = (0 : Int32) then bI (f_T_bad s) (fun r2 s3 => some (r2, s3)) else bP (f_T_outside x2 (0 : Int32) (7 : Int32)) (fun r4 => if r4 = (0 : Int32) then bP (f_T_outside x3 (0 : Int32) (99 : Int32)) (fun r7 => if r7 = (0 : Int32) then bP (f_T_outside x4 (0 : Int32) (99 : Int32)) (fun r8 => if r8 = (0 : Int32) then bP (f_T_outside x5 (0 : Int32) (1 : Int32)) (fun r11 => if r11 = (0 : Int32) then if (s 1 0 6) < (6 : Int32) then if inb (s 1 0 6) 6 then bV (f_No_put s (6 * 0 + ix (s 1 0 6)) x1 x2 x3 x4 x5) (fun s13 => lt (st s13 1 0 6 ((s13 1 0 6) + (1 : Int32))) (fun s14 => some (s14 1 0 6, s14))) else none else bI (f_T_full s) (fun r15 s16 => some (r15, s16)) else bI (f_T_bad s) (fun r17 s18 => some (r17, s18))) else bI (f_T_bad s) (fun r9 s10 => some (r9, s10))) else bI (f_T_bad s) (fun r19 s20 => some (r19, s20))) else bI (f_T_bad s) (fun r5 s6 => some (r5, s6))))
set_option maxRecDepth 100000 in
set_option maxHeartbeats 4000000 in
theorem c_T_note {G : Gb} {l : Launch} {o : Sto} {L : Lng} (hG : GA G) (s : Sto) (x1 : Int32) (x2 : Int32) (x3 : Int32) (x4 : Int32) (x5 : Int32)  : CT G l (EC o L) pvI psI yX11_note cX11_note 6 (some .int) 1 25 [.ref (ad G 0 0), .int x1, .int x2, .int x3, .int x4, .int x5] s (f_T_note s x1 x2 x3 x4 x5) := by
  refine CT.of hG (by decide) (Nat.le_of_ble_eq_true rfl) (fun X hX => ?_)
  have hX : OX G X l cX11_note 6 "CrownTwo" (some .int) 1 25 := hX
  show ZR G X (EC o L) pvI psI 6 s [(0, .ref (ad G 0 0)), (1, .int x1), (2, .int x2), (3, .int x3), (4, .int x4), (5, .int x5)] [] 0 _
  unfold f_T_note
  refine z_aload_n (pc := 0) hX dX11_note_0 rfl 0 rfl ?_
  refine gr_0_0C (pc := 1) hX q_235 dX11_note_1 ?_
  refine z_iload_n (pc := 4) hX dX11_note_4 rfl 1 rfl ?_
  refine z_rP (run_V (pc := 5) (As := [.int x1]) hX (rc_1 v_1_0) ⟨q_612, q_468, q_10⟩ q_466 q_467 hd_X0_has ⟨Nat.le_of_ble_eq_true rfl, Nat.le_of_ble_eq_true rfl⟩ (c_Co_has hG s 0 x1 v_1_0) rfl rfl (Nat.le_of_ble_eq_true rfl) dX11_note_5) (fun r1 => ?_)
  refine z_if_eq (pc := 8) (tgt := 31) hX dX11_note_8 rfl ?_ ?_
  · refine z_aload_n (pc := 31) hX dX11_note_31 rfl 0 rfl ?_
    refine z_rI (run_V (pc := 32) (As := []) hX rc_0 ⟨q_288, q_291, q_1⟩ q_290 qs_0 hd_X11_bad ⟨Nat.le_of_ble_eq_true rfl, Nat.le_of_ble_eq_true rfl⟩ (c_T_bad hG s) rfl rfl (Nat.le_of_ble_eq_true rfl) dX11_note_32) (fun r2 s3 => ?_)
    exact z_retI (pc := 35) hX dX11_note_35
  · refine z_iload_n (pc := 11) hX dX11_note_11 rfl 2 rfl ?_
    refine z_iconst (pc := 12) hX dX11_note_12 ic_0 ?_
    refine z_bipush (pc := 13) hX dX11_note_13 bp_7 ?_
    refine z_rP (run_S (pc := 15) (As := [.int x2, .int (0 : Int32), .int (7 : Int32)]) hX ⟨q_285, q_287, q_1⟩ q_286 hd_X11_outside ⟨Nat.le_of_ble_eq_true rfl, Nat.le_of_ble_eq_true rfl⟩ (c_T_outside hG s x2 (0 : Int32) (7 : Int32)) rfl rfl (Nat.le_of_ble_eq_true rfl) dX11_note_15) (fun r4 => ?_)
    refine z_if_ne (pc := 18) (tgt := 31) hX dX11_note_18 rfl ?_ ?_
    · refine z_aload_n (pc := 31) hX dX11_note_31 rfl 0 rfl ?_
      refine z_rI (run_V (pc := 32) (As := []) hX rc_0 ⟨q_288, q_291, q_1⟩ q_290 qs_0 hd_X11_bad ⟨Nat.le_of_ble_eq_true rfl, Nat.le_of_ble_eq_true rfl⟩ (c_T_bad hG s) rfl rfl (Nat.le_of_ble_eq_true rfl) dX11_note_32) (fun r5 s6 => ?_)
      exact z_retI (pc := 35) hX dX11_note_35
    · refine z_iload_n (pc := 21) hX dX11_note_21 rfl 3 rfl ?_
      refine z_iconst (pc := 22) hX dX11_note_22 ic_0 ?_
      refine z_bipush (pc := 23) hX dX11_note_23 bp_99 ?_
      refine z_rP (run_S (pc := 25) (As := [.int x3, .int (0 : Int32), .int (99 : Int32)]) hX ⟨q_285, q_287, q_1⟩ q_286 hd_X11_outside ⟨Nat.le_of_ble_eq_true rfl, Nat.le_of_ble_eq_true rfl⟩ (c_T_outside hG s x3 (0 : Int32) (99 : Int32)) rfl rfl (Nat.le_of_ble_eq_true rfl) dX11_note_25) (fun r7 => ?_)
      refine z_if_eq (pc := 28) (tgt := 36) hX dX11_note_28 rfl ?_ ?_
      · refine z_iload (pc := 36) hX dX11_note_36 4 rfl ?_
        refine z_iconst (pc := 38) hX dX11_note_38 ic_0 ?_
        refine z_bipush (pc := 39) hX dX11_note_39 bp_99 ?_
        refine z_rP (run_S (pc := 41) (As := [.int x4, .int (0 : Int32), .int (99 : Int32)]) hX ⟨q_285, q_287, q_1⟩ q_286 hd_X11_outside ⟨Nat.le_of_ble_eq_true rfl, Nat.le_of_ble_eq_true rfl⟩ (c_T_outside hG s x4 (0 : Int32) (99 : Int32)) rfl rfl (Nat.le_of_ble_eq_true rfl) dX11_note_41) (fun r8 => ?_)
        refine z_if_ne (pc := 44) (tgt := 57) hX dX11_note_44 rfl ?_ ?_
        · refine z_aload_n (pc := 57) hX dX11_note_57 rfl 0 rfl ?_
          refine z_rI (run_V (pc := 58) (As := []) hX rc_0 ⟨q_288, q_291, q_1⟩ q_290 qs_0 hd_X11_bad ⟨Nat.le_of_ble_eq_true rfl, Nat.le_of_ble_eq_true rfl⟩ (c_T_bad hG s) rfl rfl (Nat.le_of_ble_eq_true rfl) dX11_note_58) (fun r9 s10 => ?_)
          exact z_retI (pc := 61) hX dX11_note_61
        · refine z_iload (pc := 47) hX dX11_note_47 5 rfl ?_
          refine z_iconst (pc := 49) hX dX11_note_49 ic_0 ?_
          refine z_iconst (pc := 50) hX dX11_note_50 ic_1 ?_
          refine z_rP (run_S (pc := 51) (As := [.int x5, .int (0 : Int32), .int (1 : Int32)]) hX ⟨q_285, q_287, q_1⟩ q_286 hd_X11_outside ⟨Nat.le_of_ble_eq_true rfl, Nat.le_of_ble_eq_true rfl⟩ (c_T_outside hG s x5 (0 : Int32) (1 : Int32)) rfl rfl (Nat.le_of_ble_eq_true rfl) dX11_note_51) (fun r11 => ?_)
          refine z_if_eq (pc := 54) (tgt := 62) hX dX11_note_54 rfl ?_ ?_
          · refine z_aload_n (pc := 62) hX dX11_note_62 rfl 0 rfl ?_
            refine gr_0_0C (pc := 63) hX q_235 dX11_note_63 ?_
            refine gf_1_6C (pc := 66) hX v_1_0 q_214 dX11_note_66 ?_
            refine z_bipush (pc := 69) hX dX11_note_69 bp_6 ?_
            refine z_icmp_lt (pc := 71) (tgt := 79) hX dX11_note_71 rfl ?_ ?_
            · refine z_aload_n (pc := 79) hX dX11_note_79 rfl 0 rfl ?_
              refine gr_0_0C (pc := 80) hX q_235 dX11_note_80 ?_
              refine gr_1_2C (pc := 83) hX v_1_0 q_205 dX11_note_83 ?_
              refine z_aload_n (pc := 86) hX dX11_note_86 rfl 0 rfl ?_
              refine gr_0_0C (pc := 87) hX q_235 dX11_note_87 ?_
              refine gf_1_6C (pc := 90) hX v_1_0 q_214 dX11_note_90 ?_
              refine aa_9C (pc := 93) hX v_9_0 dX11_note_93 (fun hv12 => ?_)
              refine z_iload_n (pc := 94) hX dX11_note_94 rfl 1 rfl ?_
              refine z_iload_n (pc := 95) hX dX11_note_95 rfl 2 rfl ?_
              refine z_iload_n (pc := 96) hX dX11_note_96 rfl 3 rfl ?_
              refine z_iload (pc := 97) hX dX11_note_97 4 rfl ?_
              refine z_iload (pc := 99) hX dX11_note_99 5 rfl ?_
              refine z_rV (run_V (pc := 101) (As := [.int x1, .int x2, .int x3, .int x4, .int x5]) hX (rc_3 hv12) ⟨q_698, q_455, q_12⟩ q_453 q_454 hd_X6_put ⟨Nat.le_of_ble_eq_true rfl, Nat.le_of_ble_eq_true rfl⟩ (c_No_put hG s (6 * 0 + ix (s 1 0 6)) x1 x2 x3 x4 x5 hv12) rfl rfl (Nat.le_of_ble_eq_true rfl) dX11_note_101) (fun s13 => ?_)
              refine z_aload_n (pc := 104) hX dX11_note_104 rfl 0 rfl ?_
              refine gr_0_0C (pc := 105) hX q_235 dX11_note_105 ?_
              refine z_dup (pc := 108) hX dX11_note_108 rfl ?_
              refine gf_1_6C (pc := 109) hX v_1_0 q_214 dX11_note_109 ?_
              refine z_iconst (pc := 112) hX dX11_note_112 ic_1 ?_
              refine z_iadd (pc := 113) hX dX11_note_113 ?_
              refine pf_1_6C (pc := 114) hX v_1_0 q_214 dX11_note_114 ?_
              refine z_lts (fun s14 => ?_)
              refine z_aload_n (pc := 117) hX dX11_note_117 rfl 0 rfl ?_
              refine gr_0_0C (pc := 118) hX q_235 dX11_note_118 ?_
              refine gf_1_6C (pc := 121) hX v_1_0 q_214 dX11_note_121 ?_
              exact z_retI (pc := 124) hX dX11_note_124
            · refine z_aload_n (pc := 74) hX dX11_note_74 rfl 0 rfl ?_
              refine z_rI (run_V (pc := 75) (As := []) hX rc_0 ⟨q_304, q_307, q_1⟩ q_306 qs_1 hd_X11_full ⟨Nat.le_of_ble_eq_true rfl, Nat.le_of_ble_eq_true rfl⟩ (c_T_full hG s) rfl rfl (Nat.le_of_ble_eq_true rfl) dX11_note_75) (fun r15 s16 => ?_)
              exact z_retI (pc := 78) hX dX11_note_78
          · refine z_aload_n (pc := 57) hX dX11_note_57 rfl 0 rfl ?_
            refine z_rI (run_V (pc := 58) (As := []) hX rc_0 ⟨q_288, q_291, q_1⟩ q_290 qs_0 hd_X11_bad ⟨Nat.le_of_ble_eq_true rfl, Nat.le_of_ble_eq_true rfl⟩ (c_T_bad hG s) rfl rfl (Nat.le_of_ble_eq_true rfl) dX11_note_58) (fun r17 s18 => ?_)
            exact z_retI (pc := 61) hX dX11_note_61
      · refine z_aload_n (pc := 31) hX dX11_note_31 rfl 0 rfl ?_
        refine z_rI (run_V (pc := 32) (As := []) hX rc_0 ⟨q_288, q_291, q_1⟩ q_290 qs_0 hd_X11_bad ⟨Nat.le_of_ble_eq_true rfl, Nat.le_of_ble_eq_true rfl⟩ (c_T_bad hG s) rfl rfl (Nat.le_of_ble_eq_true rfl) dX11_note_32) (fun r19 s20 => ?_)
        exact z_retI (pc := 35) hX dX11_note_35
theorem hd_X11_spite : yX11_spite.cls ≠ "java/lang/invoke/MethodHandle" ∧ yX11_spite.cls ≠ "java/lang/invoke/VarHandle" ∧ (parseMethodDescriptor yX11_spite.desc).map (fun d => d.parameters.length) = some 1 := by decide +kernel
def l_T_spite_81 (s : Sto) (x1 : Int32) (rc7 : Int32 → Int32 → Option (Int32 × Sto)) (v4_5 : Int32) (v5_6 : Int32) : Option (Int32 × Sto) :=
  if (3 : Int32) < v5_6 then some (v4_5, s) else jn (fun t8 => jn (fun t10 => bP (f_T_gain s (6 * 0 + ix (s 4 0 3)) x1 t8 t10) (fun r12 => jn (fun t13 => bP (f_T_gain s (6 * 0 + ix (s 4 0 3)) x1 t13 t10) (fun r15 => jn (fun t16 => bP (f_T_gain s (6 * 0 + ix (s 4 0 4)) x1 t10 t8) (fun r18 => jn (fun t19 => bP (f_T_gain s (6 * 0 + ix (s 4 0 4)) x1 t19 t8) (fun r21 => jn (fun t22 => jn (fun v4_24 => rc7 v4_24 (v5_6 + (1 : Int32))) (fun j25 => if t16 = (0 : Int32) then j25 v4_5 else if t22 = (0 : Int32) then j25 v4_5 else lt (v4_5 ||| ((1 : Int32) <<< (v5_6 &&& 31))) (fun v4_26 => j25 v4_26))) (fun j23 => if r18 < r21 then j23 (0 : Int32) else j23 (1 : Int32)))) (fun j20 => if t10 = (0 : Int32) then j20 (1 : Int32) else j20 (0 : Int32)))) (fun j17 => if r12 < r15 then j17 (0 : Int32) else j17 (1 : Int32)))) (fun j14 => if t8 = (0 : Int32) then j14 (1 : Int32) else j14 (0 : Int32)))) (fun j11 => if (v5_6 &&& (2 : Int32)) = (0 : Int32) then j11 (0 : Int32) else j11 (1 : Int32))) (fun j9 => if (v5_6 &&& (1 : Int32)) = (0 : Int32) then j9 (0 : Int32) else j9 (1 : Int32))
def f_T_spite (s : Sto) (x1 : Int32) : Option (Int32 × Sto) :=
  bP (f_T_outside x1 (0 : Int32) (7 : Int32)) (fun r1 => if r1 = (0 : Int32) then bP (f_Co_paired s 0 0) (fun r2 => if r2 = (0 : Int32) then bI (f_T_no s) (fun r27 s28 => some (r27, s28)) else if inb (s 4 0 3) 6 then if inb (s 4 0 4) 6 then fx 1000 (l_T_spite_81 s x1) (fun _ _ => none) (0 : Int32) (0 : Int32) else none else none) else bI (f_T_bad s) (fun r29 s30 => some (r29, s30)))
set_option maxRecDepth 100000 in
set_option maxHeartbeats 4000000 in
theorem c_T_spite {G : Gb} {l : Launch} {o : Sto} {L : Lng} (hG : GA G) (s : Sto) (x1 : Int32)  : CT G l (EC o L) pvI psI yX11_spite cX11_spite 10 (some .int) 3 64 [.ref (ad G 0 0), .int x1] s (f_T_spite s x1) := by
  refine CT.of hG (by decide) (Nat.le_of_ble_eq_true rfl) (fun X hX => ?_)
  have hX : OX G X l cX11_spite 10 "CrownTwo" (some .int) 3 64 := hX
  show ZR G X (EC o L) pvI psI 10 s [(0, .ref (ad G 0 0)), (1, .int x1)] [] 0 _
  unfold f_T_spite
  refine z_iload_n (pc := 0) hX dX11_spite_0 rfl 1 rfl ?_
  refine z_iconst (pc := 1) hX dX11_spite_1 ic_0 ?_
  refine z_bipush (pc := 2) hX dX11_spite_2 bp_7 ?_
  refine z_rP (run_S (pc := 4) (As := [.int x1, .int (0 : Int32), .int (7 : Int32)]) hX ⟨q_285, q_287, q_1⟩ q_286 hd_X11_outside ⟨Nat.le_of_ble_eq_true rfl, Nat.le_of_ble_eq_true rfl⟩ (c_T_outside hG s x1 (0 : Int32) (7 : Int32)) rfl rfl (Nat.le_of_ble_eq_true rfl) dX11_spite_4) (fun r1 => ?_)
  refine z_if_eq (pc := 7) (tgt := 15) hX dX11_spite_7 rfl ?_ ?_
  · refine z_aload_n (pc := 15) hX dX11_spite_15 rfl 0 rfl ?_
    refine gr_0_0C (pc := 16) hX q_235 dX11_spite_16 ?_
    refine z_aload_n (pc := 19) hX dX11_spite_19 rfl 0 rfl ?_
    refine gr_0_0C (pc := 20) hX q_235 dX11_spite_20 ?_
    refine gr_1_4C (pc := 23) hX v_1_0 q_208 dX11_spite_23 ?_
    refine z_rP (run_V (pc := 26) (As := [.ref (ad G 4 0)]) hX (rc_1 v_1_0) ⟨q_481, q_484, q_10⟩ q_482 q_483 hd_X0_paired ⟨Nat.le_of_ble_eq_true rfl, Nat.le_of_ble_eq_true rfl⟩ (c_Co_paired hG s 0 0 v_1_0 v_4_0) rfl rfl (Nat.le_of_ble_eq_true rfl) dX11_spite_26) (fun r2 => ?_)
    refine z_if_ne (pc := 29) (tgt := 37) hX dX11_spite_29 rfl ?_ ?_
    · refine z_aload_n (pc := 37) hX dX11_spite_37 rfl 0 rfl ?_
      refine gr_0_0C (pc := 38) hX q_235 dX11_spite_38 ?_
      refine gr_1_1C (pc := 41) hX v_1_0 q_203 dX11_spite_41 ?_
      refine z_aload_n (pc := 44) hX dX11_spite_44 rfl 0 rfl ?_
      refine gr_0_0C (pc := 45) hX q_235 dX11_spite_45 ?_
      refine gr_1_4C (pc := 48) hX v_1_0 q_208 dX11_spite_48 ?_
      refine gf_4_3C (pc := 51) hX v_4_0 q_75 dX11_spite_51 ?_
      refine aa_8C (pc := 54) hX v_8_0 dX11_spite_54 (fun hv3 => ?_)
      refine z_astore_n (pc := 55) (ls' := [(2, .ref (ad G 2 (6 * 0 + ix (s 4 0 3)))), (0, .ref (ad G 0 0)), (1, .int x1)]) hX dX11_spite_55 rfl (by decide) rfl ?_
      refine z_aload_n (pc := 56) hX dX11_spite_56 rfl 1 rfl ?_
      refine gr_0_0C (pc := 57) hX q_235 dX11_spite_57 ?_
      refine gr_1_1C (pc := 60) hX v_1_0 q_203 dX11_spite_60 ?_
      refine z_aload_n (pc := 63) hX dX11_spite_63 rfl 1 rfl ?_
      refine gr_0_0C (pc := 64) hX q_235 dX11_spite_64 ?_
      refine gr_1_4C (pc := 67) hX v_1_0 q_208 dX11_spite_67 ?_
      refine gf_4_4C (pc := 70) hX v_4_0 q_79 dX11_spite_70 ?_
      refine aa_8C (pc := 73) hX v_8_0 dX11_spite_73 (fun hv4 => ?_)
      refine z_astore_n (pc := 74) (ls' := [(3, .ref (ad G 2 (6 * 0 + ix (s 4 0 4)))), (2, .ref (ad G 2 (6 * 0 + ix (s 4 0 3)))), (0, .ref (ad G 0 0)), (1, .int x1)]) hX dX11_spite_74 rfl (by decide) rfl ?_
      refine z_iconst (pc := 75) hX dX11_spite_75 ic_0 ?_
      refine z_istore (pc := 76) (ls' := [(4, .int (0 : Int32)), (3, .ref (ad G 2 (6 * 0 + ix (s 4 0 4)))), (2, .ref (ad G 2 (6 * 0 + ix (s 4 0 3)))), (0, .ref (ad G 0 0)), (1, .int x1)]) hX dX11_spite_76 (by decide) rfl ?_
      refine z_iconst (pc := 78) hX dX11_spite_78 ic_0 ?_
      refine z_istore (pc := 79) (ls' := [(5, .int (0 : Int32)), (4, .int (0 : Int32)), (3, .ref (ad G 2 (6 * 0 + ix (s 4 0 4)))), (2, .ref (ad G 2 (6 * 0 + ix (s 4 0 3)))), (0, .ref (ad G 0 0)), (1, .int x1)]) hX dX11_spite_79 (by decide) rfl ?_
      refine z_ls [5, 3, 2, 1, 0] rfl ?_
      refine (fx_P (F := l_T_spite_81 s x1) (b := (fun _ _ => none)) (fun rc7 => ∀ (v4_5 : Int32) (v5_6 : Int32), ZR G X (EC o L) pvI psI 10 s [(1, .int x1), (2, .ref (ad G 2 (6 * 0 + ix (s 4 0 3)))), (3, .ref (ad G 2 (6 * 0 + ix (s 4 0 4)))), (4, .int v4_5), (5, .int v5_6)] [] 81 (rc7 v4_5 v5_6)) ?_ ?_ 1000) (0 : Int32) (0 : Int32)
      · intro v4_5 v5_6; exact z_none
      · intro rc7 hrc7 v4_5 v5_6
        unfold l_T_spite_81
        refine z_iload (pc := 81) hX dX11_spite_81 4 rfl ?_
        refine z_iconst (pc := 83) hX dX11_spite_83 ic_3 ?_
        refine z_icmp_gt (pc := 84) (tgt := 212) hX dX11_spite_84 rfl ?_ ?_
        · refine z_iload (pc := 212) hX dX11_spite_212 3 rfl ?_
          exact z_retI (pc := 214) hX dX11_spite_214
        · refine z_iload (pc := 87) hX dX11_spite_87 4 rfl ?_
          refine z_iconst (pc := 89) hX dX11_spite_89 ic_1 ?_
          refine z_iand (pc := 90) hX dX11_spite_90 ?_
          refine z_jn (P := fun j9 => ∀ (t8 : Int32), ZR G X (EC o L) pvI psI 10 s [(1, .int x1), (2, .ref (ad G 2 (6 * 0 + ix (s 4 0 3)))), (3, .ref (ad G 2 (6 * 0 + ix (s 4 0 4)))), (4, .int v4_5), (5, .int v5_6)] [.int t8] 99 (j9 t8)) ?_ ?_
          · intro t8
            refine z_istore (pc := 99) (ls' := [(6, .int t8), (1, .int x1), (2, .ref (ad G 2 (6 * 0 + ix (s 4 0 3)))), (3, .ref (ad G 2 (6 * 0 + ix (s 4 0 4)))), (4, .int v4_5), (5, .int v5_6)]) hX dX11_spite_99 (by decide) rfl ?_
            refine z_iload (pc := 101) hX dX11_spite_101 5 rfl ?_
            refine z_iconst (pc := 103) hX dX11_spite_103 ic_2 ?_
            refine z_iand (pc := 104) hX dX11_spite_104 ?_
            refine z_jn (P := fun j11 => ∀ (t10 : Int32), ZR G X (EC o L) pvI psI 10 s [(1, .int x1), (2, .ref (ad G 2 (6 * 0 + ix (s 4 0 3)))), (3, .ref (ad G 2 (6 * 0 + ix (s 4 0 4)))), (4, .int v4_5), (5, .int v5_6), (6, .int t8)] [.int t10] 113 (j11 t10)) ?_ ?_
            · intro t10
              refine z_istore (pc := 113) (ls' := [(7, .int t10), (1, .int x1), (2, .ref (ad G 2 (6 * 0 + ix (s 4 0 3)))), (3, .ref (ad G 2 (6 * 0 + ix (s 4 0 4)))), (4, .int v4_5), (5, .int v5_6), (6, .int t8)]) hX dX11_spite_113 (by decide) rfl ?_
              refine z_aload_n (pc := 115) hX dX11_spite_115 rfl 2 rfl ?_
              refine z_iload_n (pc := 116) hX dX11_spite_116 rfl 1 rfl ?_
              refine z_iload (pc := 117) hX dX11_spite_117 6 rfl ?_
              refine z_iload (pc := 119) hX dX11_spite_119 0 rfl ?_
              refine z_rP (run_S (pc := 121) (As := [.ref (ad G 2 (6 * 0 + ix (s 4 0 3))), .int x1, .int t8, .int t10]) hX ⟨q_739, q_741, q_1⟩ q_740 hd_X11_gain ⟨Nat.le_of_ble_eq_true rfl, Nat.le_of_ble_eq_true rfl⟩ (c_T_gain hG s (6 * 0 + ix (s 4 0 3)) x1 t8 t10 hv3) rfl rfl (Nat.le_of_ble_eq_true rfl) dX11_spite_121) (fun r12 => ?_)
              refine z_aload_n (pc := 124) hX dX11_spite_124 rfl 2 rfl ?_
              refine z_iload_n (pc := 125) hX dX11_spite_125 rfl 1 rfl ?_
              refine z_iload (pc := 126) hX dX11_spite_126 6 rfl ?_
              refine z_jn (P := fun j14 => ∀ (t13 : Int32), ZR G X (EC o L) pvI psI 10 s [(1, .int x1), (2, .ref (ad G 2 (6 * 0 + ix (s 4 0 3)))), (3, .ref (ad G 2 (6 * 0 + ix (s 4 0 4)))), (4, .int v4_5), (5, .int v5_6), (6, .int t8), (7, .int t10)] [.int t13, .int x1, .ref (ad G 2 (6 * 0 + ix (s 4 0 3))), .int r12] 136 (j14 t13)) ?_ ?_
              · intro t13
                refine z_iload (pc := 136) hX dX11_spite_136 6 rfl ?_
                refine z_rP (run_S (pc := 138) (As := [.ref (ad G 2 (6 * 0 + ix (s 4 0 3))), .int x1, .int t13, .int t10]) hX ⟨q_739, q_741, q_1⟩ q_740 hd_X11_gain ⟨Nat.le_of_ble_eq_true rfl, Nat.le_of_ble_eq_true rfl⟩ (c_T_gain hG s (6 * 0 + ix (s 4 0 3)) x1 t13 t10 hv3) rfl rfl (Nat.le_of_ble_eq_true rfl) dX11_spite_138) (fun r15 => ?_)
                refine z_jn (P := fun j17 => ∀ (t16 : Int32), ZR G X (EC o L) pvI psI 10 s [(1, .int x1), (2, .ref (ad G 2 (6 * 0 + ix (s 4 0 3)))), (3, .ref (ad G 2 (6 * 0 + ix (s 4 0 4)))), (4, .int v4_5), (5, .int v5_6), (6, .int t8), (7, .int t10)] [.int t16] 149 (j17 t16)) ?_ ?_
                · intro t16
                  refine z_istore (pc := 149) (ls' := [(8, .int t16), (1, .int x1), (2, .ref (ad G 2 (6 * 0 + ix (s 4 0 3)))), (3, .ref (ad G 2 (6 * 0 + ix (s 4 0 4)))), (4, .int v4_5), (5, .int v5_6), (6, .int t8), (7, .int t10)]) hX dX11_spite_149 (by decide) rfl ?_
                  refine z_aload_n (pc := 151) hX dX11_spite_151 rfl 3 rfl ?_
                  refine z_iload_n (pc := 152) hX dX11_spite_152 rfl 1 rfl ?_
                  refine z_iload (pc := 153) hX dX11_spite_153 7 rfl ?_
                  refine z_iload (pc := 155) hX dX11_spite_155 6 rfl ?_
                  refine z_rP (run_S (pc := 157) (As := [.ref (ad G 2 (6 * 0 + ix (s 4 0 4))), .int x1, .int t10, .int t8]) hX ⟨q_739, q_741, q_1⟩ q_740 hd_X11_gain ⟨Nat.le_of_ble_eq_true rfl, Nat.le_of_ble_eq_true rfl⟩ (c_T_gain hG s (6 * 0 + ix (s 4 0 4)) x1 t10 t8 hv4) rfl rfl (Nat.le_of_ble_eq_true rfl) dX11_spite_157) (fun r18 => ?_)
                  refine z_aload_n (pc := 160) hX dX11_spite_160 rfl 3 rfl ?_
                  refine z_iload_n (pc := 161) hX dX11_spite_161 rfl 1 rfl ?_
                  refine z_iload (pc := 162) hX dX11_spite_162 7 rfl ?_
                  refine z_jn (P := fun j20 => ∀ (t19 : Int32), ZR G X (EC o L) pvI psI 10 s [(1, .int x1), (2, .ref (ad G 2 (6 * 0 + ix (s 4 0 3)))), (3, .ref (ad G 2 (6 * 0 + ix (s 4 0 4)))), (4, .int v4_5), (5, .int v5_6), (6, .int t8), (8, .int t16)] [.int t19, .int x1, .ref (ad G 2 (6 * 0 + ix (s 4 0 4))), .int r18] 172 (j20 t19)) ?_ ?_
                  · intro t19
                    refine z_iload (pc := 172) hX dX11_spite_172 5 rfl ?_
                    refine z_rP (run_S (pc := 174) (As := [.ref (ad G 2 (6 * 0 + ix (s 4 0 4))), .int x1, .int t19, .int t8]) hX ⟨q_739, q_741, q_1⟩ q_740 hd_X11_gain ⟨Nat.le_of_ble_eq_true rfl, Nat.le_of_ble_eq_true rfl⟩ (c_T_gain hG s (6 * 0 + ix (s 4 0 4)) x1 t19 t8 hv4) rfl rfl (Nat.le_of_ble_eq_true rfl) dX11_spite_174) (fun r21 => ?_)
                    refine z_jn (P := fun j23 => ∀ (t22 : Int32), ZR G X (EC o L) pvI psI 10 s [(1, .int x1), (2, .ref (ad G 2 (6 * 0 + ix (s 4 0 3)))), (3, .ref (ad G 2 (6 * 0 + ix (s 4 0 4)))), (4, .int v4_5), (5, .int v5_6), (8, .int t16)] [.int t22] 185 (j23 t22)) ?_ ?_
                    · intro t22
                      refine z_istore (pc := 185) (ls' := [(9, .int t22), (1, .int x1), (2, .ref (ad G 2 (6 * 0 + ix (s 4 0 3)))), (3, .ref (ad G 2 (6 * 0 + ix (s 4 0 4)))), (4, .int v4_5), (5, .int v5_6), (8, .int t16)]) hX dX11_spite_185 (by decide) rfl ?_
                      refine z_iload (pc := 187) hX dX11_spite_187 6 rfl ?_
                      refine z_jn (P := fun j25 => ∀ (v4_24 : Int32), ZR G X (EC o L) pvI psI 10 s [(1, .int x1), (2, .ref (ad G 2 (6 * 0 + ix (s 4 0 3)))), (3, .ref (ad G 2 (6 * 0 + ix (s 4 0 4)))), (4, .int v4_24), (5, .int v5_6)] [] 206 (j25 v4_24)) ?_ ?_
                      · intro v4_24
                        refine z_iinc (pc := 206) (n := 4) (v := v5_6 + (1 : Int32)) (ls' := [(5, .int (v5_6 + (1 : Int32))), (1, .int x1), (2, .ref (ad G 2 (6 * 0 + ix (s 4 0 3)))), (3, .ref (ad G 2 (6 * 0 + ix (s 4 0 4)))), (4, .int v4_24)]) hX dX11_spite_206 rfl (by rw [show Int32.ofInt (1) = 1 by decide +kernel]) (by decide) rfl ?_
                        refine z_goto (pc := 209) (tgt := 81) hX dX11_spite_209 rfl ?_
                        exact z_ls [1, 2, 3, 4, 0] rfl (hrc7 v4_24 (v5_6 + (1 : Int32)))
                      · intro j25 hj25
                        refine z_if_eq (pc := 189) (tgt := 206) hX dX11_spite_189 rfl ?_ ?_
                        · exact z_ls [1, 2, 3, 4, 5] rfl (hj25 v4_5)
                        · refine z_iload (pc := 192) hX dX11_spite_192 0 rfl ?_
                          refine z_if_eq (pc := 194) (tgt := 206) hX dX11_spite_194 rfl ?_ ?_
                          · exact z_ls [1, 2, 3, 4, 5] rfl (hj25 v4_5)
                          · refine z_iload (pc := 197) hX dX11_spite_197 4 rfl ?_
                            refine z_iconst (pc := 199) hX dX11_spite_199 ic_1 ?_
                            refine z_iload (pc := 200) hX dX11_spite_200 5 rfl ?_
                            refine z_ishl (pc := 202) hX dX11_spite_202 ?_
                            refine z_ior (pc := 203) hX dX11_spite_203 ?_
                            refine z_lti (pc := 204) (fun v4_26 => ?_)
                            refine z_istore (pc := 204) (ls' := [(4, .int v4_26), (9, .int t22), (1, .int x1), (2, .ref (ad G 2 (6 * 0 + ix (s 4 0 3)))), (3, .ref (ad G 2 (6 * 0 + ix (s 4 0 4)))), (5, .int v5_6), (8, .int t16)]) hX dX11_spite_204 (by decide) rfl ?_
                            exact z_ls [2, 3, 4, 0, 5] rfl (hj25 v4_26)
                    · intro j23 hj23
                      refine z_icmp_lt (pc := 177) (tgt := 184) hX dX11_spite_177 rfl ?_ ?_
                      · refine z_iconst (pc := 184) hX dX11_spite_184 ic_0 ?_
                        exact z_ls [0, 1, 2, 3, 4, 6] rfl (hj23 (0 : Int32))
                      · refine z_iconst (pc := 180) hX dX11_spite_180 ic_1 ?_
                        refine z_goto (pc := 181) (tgt := 185) hX dX11_spite_181 rfl ?_
                        exact z_ls [0, 1, 2, 3, 4, 6] rfl (hj23 (1 : Int32))
                  · intro j20 hj20
                    refine z_if_ne (pc := 164) (tgt := 171) hX dX11_spite_164 rfl ?_ ?_
                    · refine z_iconst (pc := 171) hX dX11_spite_171 ic_0 ?_
                      exact z_ls [1, 2, 3, 4, 5, 6, 0] rfl (hj20 (0 : Int32))
                    · refine z_iconst (pc := 167) hX dX11_spite_167 ic_1 ?_
                      refine z_goto (pc := 168) (tgt := 172) hX dX11_spite_168 rfl ?_
                      exact z_ls [1, 2, 3, 4, 5, 6, 0] rfl (hj20 (1 : Int32))
                · intro j17 hj17
                  refine z_icmp_lt (pc := 141) (tgt := 148) hX dX11_spite_141 rfl ?_ ?_
                  · refine z_iconst (pc := 148) hX dX11_spite_148 ic_0 ?_
                    exact z_ls [0, 1, 2, 3, 4, 5, 6] rfl (hj17 (0 : Int32))
                  · refine z_iconst (pc := 144) hX dX11_spite_144 ic_1 ?_
                    refine z_goto (pc := 145) (tgt := 149) hX dX11_spite_145 rfl ?_
                    exact z_ls [0, 1, 2, 3, 4, 5, 6] rfl (hj17 (1 : Int32))
              · intro j14 hj14
                refine z_if_ne (pc := 128) (tgt := 135) hX dX11_spite_128 rfl ?_ ?_
                · refine z_iconst (pc := 135) hX dX11_spite_135 ic_0 ?_
                  exact z_ls [1, 2, 3, 4, 5, 6, 0] rfl (hj14 (0 : Int32))
                · refine z_iconst (pc := 131) hX dX11_spite_131 ic_1 ?_
                  refine z_goto (pc := 132) (tgt := 136) hX dX11_spite_132 rfl ?_
                  exact z_ls [1, 2, 3, 4, 5, 6, 0] rfl (hj14 (1 : Int32))
            · intro j11 hj11
              refine z_if_eq (pc := 105) (tgt := 112) hX dX11_spite_105 rfl ?_ ?_
              · refine z_iconst (pc := 112) hX dX11_spite_112 ic_0 ?_
                exact z_ls [1, 2, 3, 4, 5, 0] rfl (hj11 (0 : Int32))
              · refine z_iconst (pc := 108) hX dX11_spite_108 ic_1 ?_
                refine z_goto (pc := 109) (tgt := 113) hX dX11_spite_109 rfl ?_
                exact z_ls [1, 2, 3, 4, 5, 0] rfl (hj11 (1 : Int32))
          · intro j9 hj9
            refine z_if_eq (pc := 91) (tgt := 98) hX dX11_spite_91 rfl ?_ ?_
            · refine z_iconst (pc := 98) hX dX11_spite_98 ic_0 ?_
              exact z_ls [0, 1, 2, 3, 4] rfl (hj9 (0 : Int32))
            · refine z_iconst (pc := 94) hX dX11_spite_94 ic_1 ?_
              refine z_goto (pc := 95) (tgt := 99) hX dX11_spite_95 rfl ?_
              exact z_ls [0, 1, 2, 3, 4] rfl (hj9 (1 : Int32))
    · refine z_aload_n (pc := 32) hX dX11_spite_32 rfl 0 rfl ?_
      refine z_rI (run_V (pc := 33) (As := []) hX rc_0 ⟨q_490, q_493, q_1⟩ q_492 qs_13 hd_X11_no ⟨Nat.le_of_ble_eq_true rfl, Nat.le_of_ble_eq_true rfl⟩ (c_T_no hG s) rfl rfl (Nat.le_of_ble_eq_true rfl) dX11_spite_33) (fun r27 s28 => ?_)
      exact z_retI (pc := 36) hX dX11_spite_36
  · refine z_aload_n (pc := 10) hX dX11_spite_10 rfl 0 rfl ?_
    refine z_rI (run_V (pc := 11) (As := []) hX rc_0 ⟨q_288, q_291, q_1⟩ q_290 qs_0 hd_X11_bad ⟨Nat.le_of_ble_eq_true rfl, Nat.le_of_ble_eq_true rfl⟩ (c_T_bad hG s) rfl rfl (Nat.le_of_ble_eq_true rfl) dX11_spite_11) (fun r29 s30 => ?_)
    exact z_retI (pc := 14) hX dX11_spite_14
theorem hd_X11_part : yX11_part.cls ≠ "java/lang/invoke/MethodHandle" ∧ yX11_part.cls ≠ "java/lang/invoke/VarHandle" ∧ (parseMethodDescriptor yX11_part.desc).map (fun d => d.parameters.length) = some 1 := by decide +kernel
def f_T_part (s : Sto) (x1 : Int32) : Option (Int64 × Sto) :=
  bP (f_T_outside x1 (0 : Int32) (1 : Int32)) (fun r1 => if r1 = (0 : Int32) then if x1 = (0 : Int32) then some (Int32.toInt64 (s 0 0 10), s) else some (Int32.toInt64 (s 0 0 11), s) else bI (f_T_bad s) (fun r2 s3 => some (Int32.toInt64 r2, s3)))
set_option maxRecDepth 100000 in
set_option maxHeartbeats 4000000 in
theorem c_T_part {G : Gb} {l : Launch} {o : Sto} {L : Lng} (hG : GA G) (s : Sto) (x1 : Int32)  : CT G l (EC o L) pvM psM yX11_part cX11_part 2 (some .long) 1 22 [.ref (ad G 0 0), .int x1] s (f_T_part s x1) := by
  refine CT.of hG (by decide) (Nat.le_of_ble_eq_true rfl) (fun X hX => ?_)
  have hX : OX G X l cX11_part 2 "CrownTwo" (some .long) 1 22 := hX
  show ZR G X (EC o L) pvM psM 2 s [(0, .ref (ad G 0 0)), (1, .int x1)] [] 0 _
  unfold f_T_part
  refine z_iload_n (pc := 0) hX dX11_part_0 rfl 1 rfl ?_
  refine z_iconst (pc := 1) hX dX11_part_1 ic_0 ?_
  refine z_iconst (pc := 2) hX dX11_part_2 ic_1 ?_
  refine z_rP (run_S (pc := 3) (As := [.int x1, .int (0 : Int32), .int (1 : Int32)]) hX ⟨q_285, q_287, q_1⟩ q_286 hd_X11_outside ⟨Nat.le_of_ble_eq_true rfl, Nat.le_of_ble_eq_true rfl⟩ (c_T_outside hG s x1 (0 : Int32) (1 : Int32)) rfl rfl (Nat.le_of_ble_eq_true rfl) dX11_part_3) (fun r1 => ?_)
  refine z_if_eq (pc := 6) (tgt := 15) hX dX11_part_6 rfl ?_ ?_
  · refine z_iload_n (pc := 15) hX dX11_part_15 rfl 1 rfl ?_
    refine z_if_ne (pc := 16) (tgt := 27) hX dX11_part_16 rfl ?_ ?_
    · refine z_aload_n (pc := 27) hX dX11_part_27 rfl 0 rfl ?_
      refine gf_0_11C (pc := 28) hX q_246 dX11_part_28 ?_
      refine z_i2l (pc := 31) hX dX11_part_31 ?_
      exact z_retM (pc := 32) hX dX11_part_32
    · refine z_aload_n (pc := 19) hX dX11_part_19 rfl 0 rfl ?_
      refine gf_0_10C (pc := 20) hX q_245 dX11_part_20 ?_
      refine z_i2l (pc := 23) hX dX11_part_23 ?_
      refine z_goto (pc := 24) (tgt := 32) hX dX11_part_24 rfl ?_
      exact z_retM (pc := 32) hX dX11_part_32
  · refine z_aload_n (pc := 9) hX dX11_part_9 rfl 0 rfl ?_
    refine z_rI (run_V (pc := 10) (As := []) hX rc_0 ⟨q_288, q_291, q_1⟩ q_290 qs_0 hd_X11_bad ⟨Nat.le_of_ble_eq_true rfl, Nat.le_of_ble_eq_true rfl⟩ (c_T_bad hG s) rfl rfl (Nat.le_of_ble_eq_true rfl) dX11_part_10) (fun r2 s3 => ?_)
    refine z_i2l (pc := 13) hX dX11_part_13 ?_
    exact z_retM (pc := 14) hX dX11_part_14
theorem hd_X11_image : yX11_image.cls ≠ "java/lang/invoke/MethodHandle" ∧ yX11_image.cls ≠ "java/lang/invoke/VarHandle" ∧ (parseMethodDescriptor yX11_image.desc).map (fun d => d.parameters.length) = some 1 := by decide +kernel
def f_T_image (s : Sto) (x1 : Int32) : Option (Int32 × Sto) :=
  bP (f_T_outside x1 (0 : Int32) (1 : Int32)) (fun r1 => if r1 = (0 : Int32) then if inb x1 2 then bV (f_Co_become s (2 + ix x1) 0) (fun s3 => if inb x1 2 then lt (st s3 12 0 (ix x1) (1 : Int32)) (fun s4 => some ((1 : Int32), s4)) else none) else none else bI (f_T_bad s) (fun r5 s6 => some (r5, s6)))
set_option maxRecDepth 100000 in
set_option maxHeartbeats 4000000 in
theorem c_T_image {G : Gb} {l : Launch} {o : Sto} {L : Lng} (hG : GA G) (s : Sto) (x1 : Int32)  : CT G l (EC o L) pvI psI yX11_image cX11_image 2 (some .int) 3 68 [.ref (ad G 0 0), .int x1] s (f_T_image s x1) := by
  refine CT.of hG (by decide) (Nat.le_of_ble_eq_true rfl) (fun X hX => ?_)
  have hX : OX G X l cX11_image 2 "CrownTwo" (some .int) 3 68 := hX
  show ZR G X (EC o L) pvI psI 2 s [(0, .ref (ad G 0 0)), (1, .int x1)] [] 0 _
  unfold f_T_image
  refine z_iload_n (pc := 0) hX dX11_image_0 rfl 1 rfl ?_
  refine z_iconst (pc := 1) hX dX11_image_1 ic_0 ?_
  refine z_iconst (pc := 2) hX dX11_image_2 ic_1 ?_
  refine z_rP (run_S (pc := 3) (As := [.int x1, .int (0 : Int32), .int (1 : Int32)]) hX ⟨q_285, q_287, q_1⟩ q_286 hd_X11_outside ⟨Nat.le_of_ble_eq_true rfl, Nat.le_of_ble_eq_true rfl⟩ (c_T_outside hG s x1 (0 : Int32) (1 : Int32)) rfl rfl (Nat.le_of_ble_eq_true rfl) dX11_image_3) (fun r1 => ?_)
  refine z_if_eq (pc := 6) (tgt := 14) hX dX11_image_6 rfl ?_ ?_
  · refine z_aload_n (pc := 14) hX dX11_image_14 rfl 0 rfl ?_
    refine gr_0_2C (pc := 15) hX q_237 dX11_image_15 ?_
    refine z_iload_n (pc := 18) hX dX11_image_18 rfl 1 rfl ?_
    refine aa_11C (pc := 19) hX dX11_image_19 (fun hv2 => ?_)
    refine z_aload_n (pc := 20) hX dX11_image_20 rfl 0 rfl ?_
    refine gr_0_0C (pc := 21) hX q_235 dX11_image_21 ?_
    refine z_rV (run_V (pc := 24) (As := [.ref (ad G 1 0)]) hX (rc_1 hv2) ⟨q_435, q_438, q_10⟩ q_436 q_437 hd_X0_become ⟨Nat.le_of_ble_eq_true rfl, Nat.le_of_ble_eq_true rfl⟩ (c_Co_become hG s (2 + ix x1) 0 hv2 v_1_0) rfl rfl (Nat.le_of_ble_eq_true rfl) dX11_image_24) (fun s3 => ?_)
    refine z_aload_n (pc := 27) hX dX11_image_27 rfl 0 rfl ?_
    refine gr_0_3C (pc := 28) hX q_238 dX11_image_28 ?_
    refine z_iload_n (pc := 31) hX dX11_image_31 rfl 1 rfl ?_
    refine z_iconst (pc := 32) hX dX11_image_32 ic_1 ?_
    refine is_12C (pc := 33) hX dX11_image_33 ?_
    refine z_lts (fun s4 => ?_)
    refine z_iconst (pc := 34) hX dX11_image_34 ic_1 ?_
    exact z_retI (pc := 35) hX dX11_image_35
  · refine z_aload_n (pc := 9) hX dX11_image_9 rfl 0 rfl ?_
    refine z_rI (run_V (pc := 10) (As := []) hX rc_0 ⟨q_288, q_291, q_1⟩ q_290 qs_0 hd_X11_bad ⟨Nat.le_of_ble_eq_true rfl, Nat.le_of_ble_eq_true rfl⟩ (c_T_bad hG s) rfl rfl (Nat.le_of_ble_eq_true rfl) dX11_image_10) (fun r5 s6 => ?_)
    exact z_retI (pc := 13) hX dX11_image_13
theorem hd_X11_from : yX11_from.cls ≠ "java/lang/invoke/MethodHandle" ∧ yX11_from.cls ≠ "java/lang/invoke/VarHandle" ∧ (parseMethodDescriptor yX11_from.desc).map (fun d => d.parameters.length) = some 1 := by decide +kernel
def f_T_from (s : Sto) (x1 : Int32) : Option (Int32 × Sto) :=
  bP (f_T_outside x1 (0 : Int32) (1 : Int32)) (fun r1 => if r1 = (0 : Int32) then if inb x1 2 then if (s 12 0 (ix x1)) = (0 : Int32) then bI (f_T_no s) (fun r4 s5 => some (r4, s5)) else if inb x1 2 then bV (f_Co_become s 0 (2 + ix x1)) (fun s3 => some ((1 : Int32), s3)) else none else none else bI (f_T_bad s) (fun r6 s7 => some (r6, s7)))
set_option maxRecDepth 100000 in
set_option maxHeartbeats 4000000 in
theorem c_T_from {G : Gb} {l : Launch} {o : Sto} {L : Lng} (hG : GA G) (s : Sto) (x1 : Int32)  : CT G l (EC o L) pvI psI yX11_from cX11_from 2 (some .int) 3 68 [.ref (ad G 0 0), .int x1] s (f_T_from s x1) := by
  refine CT.of hG (by decide) (Nat.le_of_ble_eq_true rfl) (fun X hX => ?_)
  have hX : OX G X l cX11_from 2 "CrownTwo" (some .int) 3 68 := hX
  show ZR G X (EC o L) pvI psI 2 s [(0, .ref (ad G 0 0)), (1, .int x1)] [] 0 _
  unfold f_T_from
  refine z_iload_n (pc := 0) hX dX11_from_0 rfl 1 rfl ?_
  refine z_iconst (pc := 1) hX dX11_from_1 ic_0 ?_
  refine z_iconst (pc := 2) hX dX11_from_2 ic_1 ?_
  refine z_rP (run_S (pc := 3) (As := [.int x1, .int (0 : Int32), .int (1 : Int32)]) hX ⟨q_285, q_287, q_1⟩ q_286 hd_X11_outside ⟨Nat.le_of_ble_eq_true rfl, Nat.le_of_ble_eq_true rfl⟩ (c_T_outside hG s x1 (0 : Int32) (1 : Int32)) rfl rfl (Nat.le_of_ble_eq_true rfl) dX11_from_3) (fun r1 => ?_)
  refine z_if_eq (pc := 6) (tgt := 14) hX dX11_from_6 rfl ?_ ?_
  · refine z_aload_n (pc := 14) hX dX11_from_14 rfl 0 rfl ?_
    refine gr_0_3C (pc := 15) hX q_238 dX11_from_15 ?_
    refine z_iload_n (pc := 18) hX dX11_from_18 rfl 1 rfl ?_
    refine ia_12C (pc := 19) hX dX11_from_19 ?_
    refine z_if_ne (pc := 20) (tgt := 28) hX dX11_from_20 rfl ?_ ?_
    · refine z_aload_n (pc := 28) hX dX11_from_28 rfl 0 rfl ?_
      refine gr_0_0C (pc := 29) hX q_235 dX11_from_29 ?_
      refine z_aload_n (pc := 32) hX dX11_from_32 rfl 0 rfl ?_
      refine gr_0_2C (pc := 33) hX q_237 dX11_from_33 ?_
      refine z_iload_n (pc := 36) hX dX11_from_36 rfl 1 rfl ?_
      refine aa_11C (pc := 37) hX dX11_from_37 (fun hv2 => ?_)
      refine z_rV (run_V (pc := 38) (As := [.ref (ad G 1 (2 + ix x1))]) hX (rc_1 v_1_0) ⟨q_435, q_438, q_10⟩ q_436 q_437 hd_X0_become ⟨Nat.le_of_ble_eq_true rfl, Nat.le_of_ble_eq_true rfl⟩ (c_Co_become hG s 0 (2 + ix x1) v_1_0 hv2) rfl rfl (Nat.le_of_ble_eq_true rfl) dX11_from_38) (fun s3 => ?_)
      refine z_iconst (pc := 41) hX dX11_from_41 ic_1 ?_
      exact z_retI (pc := 42) hX dX11_from_42
    · refine z_aload_n (pc := 23) hX dX11_from_23 rfl 0 rfl ?_
      refine z_rI (run_V (pc := 24) (As := []) hX rc_0 ⟨q_490, q_493, q_1⟩ q_492 qs_13 hd_X11_no ⟨Nat.le_of_ble_eq_true rfl, Nat.le_of_ble_eq_true rfl⟩ (c_T_no hG s) rfl rfl (Nat.le_of_ble_eq_true rfl) dX11_from_24) (fun r4 s5 => ?_)
      exact z_retI (pc := 27) hX dX11_from_27
  · refine z_aload_n (pc := 9) hX dX11_from_9 rfl 0 rfl ?_
    refine z_rI (run_V (pc := 10) (As := []) hX rc_0 ⟨q_288, q_291, q_1⟩ q_290 qs_0 hd_X11_bad ⟨Nat.le_of_ble_eq_true rfl, Nat.le_of_ble_eq_true rfl⟩ (c_T_bad hG s) rfl rfl (Nat.le_of_ble_eq_true rfl) dX11_from_10) (fun r6 s7 => ?_)
    exact z_retI (pc := 13) hX dX11_from_13
theorem hd_X11_status : yX11_status.cls ≠ "java/lang/invoke/MethodHandle" ∧ yX11_status.cls ≠ "java/lang/invoke/VarHandle" ∧ (parseMethodDescriptor yX11_status.desc).map (fun d => d.parameters.length) = some 1 := by decide +kernel
def f_T_status (s : Sto) (x1 : Int32) : Option (Int32 × Sto) :=
  if x1 = (0 : Int32) then some (s 0 0 12, s) else if x1 = (1 : Int32) then some (s 0 0 13, s) else if x1 = (2 : Int32) then some (s 0 0 14, s) else bI (f_T_bad s) (fun r1 s2 => some ((-1 : Int32), s2))
set_option maxRecDepth 100000 in
set_option maxHeartbeats 4000000 in
theorem c_T_status {G : Gb} {l : Launch} {o : Sto} {L : Lng} (hG : GA G) (s : Sto) (x1 : Int32)  : CT G l (EC o L) pvI psI yX11_status cX11_status 2 (some .int) 1 20 [.ref (ad G 0 0), .int x1] s (f_T_status s x1) := by
  refine CT.of hG (by decide) (Nat.le_of_ble_eq_true rfl) (fun X hX => ?_)
  have hX : OX G X l cX11_status 2 "CrownTwo" (some .int) 1 20 := hX
  show ZR G X (EC o L) pvI psI 2 s [(0, .ref (ad G 0 0)), (1, .int x1)] [] 0 _
  unfold f_T_status
  refine z_iload_n (pc := 0) hX dX11_status_0 rfl 1 rfl ?_
  refine z_tab1 (pc := 1) (tgt := 28) (v := 0) (off := 27) hX dX11_status_1 (by decide +kernel) (by decide +kernel) (by decide +kernel) rfl ?_ (fun hn0 => ?_)
  · refine z_aload_n (pc := 28) hX dX11_status_28 rfl 0 rfl ?_
    refine gf_0_12C (pc := 29) hX q_247 dX11_status_29 ?_
    exact z_retI (pc := 32) hX dX11_status_32
  · refine z_tab1 (pc := 1) (tgt := 33) (v := 1) (off := 32) hX dX11_status_1 (by decide +kernel) (by decide +kernel) (by decide +kernel) rfl ?_ (fun hn1 => ?_)
    · refine z_aload_n (pc := 33) hX dX11_status_33 rfl 0 rfl ?_
      refine gf_0_13C (pc := 34) hX q_248 dX11_status_34 ?_
      exact z_retI (pc := 37) hX dX11_status_37
    · refine z_tab1 (pc := 1) (tgt := 38) (v := 2) (off := 37) hX dX11_status_1 (by decide +kernel) (by decide +kernel) (by decide +kernel) rfl ?_ (fun hn2 => ?_)
      · refine z_aload_n (pc := 38) hX dX11_status_38 rfl 0 rfl ?_
        refine gf_0_14C (pc := 39) hX q_249 dX11_status_39 ?_
        exact z_retI (pc := 42) hX dX11_status_42
      · refine z_tab0 (pc := 1) (tgt := 43) hX dX11_status_1 (sw_out [0, 1, 2] (List.forall_mem_cons.mpr ⟨hn0, List.forall_mem_cons.mpr ⟨hn1, List.forall_mem_cons.mpr ⟨hn2, fun _ h => absurd h List.not_mem_nil⟩⟩⟩) (by decide +kernel)) rfl ?_
        refine z_aload_n (pc := 43) hX dX11_status_43 rfl 0 rfl ?_
        refine z_rI (run_V (pc := 44) (As := []) hX rc_0 ⟨q_288, q_291, q_1⟩ q_290 qs_0 hd_X11_bad ⟨Nat.le_of_ble_eq_true rfl, Nat.le_of_ble_eq_true rfl⟩ (c_T_bad hG s) rfl rfl (Nat.le_of_ble_eq_true rfl) dX11_status_44) (fun r1 s2 => ?_)
        refine z_pop (pc := 47) hX dX11_status_47 rfl ?_
        refine z_iconst (pc := 48) hX dX11_status_48 ic_m1 ?_
        exact z_retI (pc := 49) hX dX11_status_49
theorem hd_X11_howMany : yX11_howMany.cls ≠ "java/lang/invoke/MethodHandle" ∧ yX11_howMany.cls ≠ "java/lang/invoke/VarHandle" ∧ (parseMethodDescriptor yX11_howMany.desc).map (fun d => d.parameters.length) = some 1 := by decide +kernel
def f_T_howMany (s : Sto) (x1 : Int32) : Option (Int32) :=
  if x1 = (0 : Int32) then some (s 1 0 5) else if x1 = (1 : Int32) then some (s 4 0 1) else if x1 = (2 : Int32) then some (s 4 0 0) else if x1 = (3 : Int32) then bP (f_J_bitCount (s 4 0 2)) (fun r1 => some r1) else if x1 = (4 : Int32) then some (s 1 0 6) else if x1 = (5 : Int32) then some (s 1 0 7) else some (s 5 0 1)
set_option maxRecDepth 100000 in
set_option maxHeartbeats 4000000 in
theorem c_T_howMany {G : Gb} {l : Launch} {o : Sto} {L : Lng} (hG : GA G) (s : Sto) (x1 : Int32)  : CT G l (EC o L) pvP (psP s) yX11_howMany cX11_howMany 2 (some .int) 1 20 [.ref (ad G 0 0), .int x1] s (f_T_howMany s x1) := by
  refine CT.of hG (by decide) (Nat.le_of_ble_eq_true rfl) (fun X hX => ?_)
  have hX : OX G X l cX11_howMany 2 "CrownTwo" (some .int) 1 20 := hX
  show ZR G X (EC o L) pvP (psP s) 2 s [(0, .ref (ad G 0 0)), (1, .int x1)] [] 0 _
  unfold f_T_howMany
  refine z_iload_n (pc := 0) hX dX11_howMany_0 rfl 1 rfl ?_
  refine z_tab1 (pc := 1) (tgt := 40) (v := 0) (off := 39) hX dX11_howMany_1 (by decide +kernel) (by decide +kernel) (by decide +kernel) rfl ?_ (fun hn0 => ?_)
  · refine z_aload_n (pc := 40) hX dX11_howMany_40 rfl 0 rfl ?_
    refine gr_0_0C (pc := 41) hX q_235 dX11_howMany_41 ?_
    refine gf_1_5C (pc := 44) hX v_1_0 q_211 dX11_howMany_44 ?_
    exact z_retP (pc := 47) hX dX11_howMany_47
  · refine z_tab1 (pc := 1) (tgt := 48) (v := 1) (off := 47) hX dX11_howMany_1 (by decide +kernel) (by decide +kernel) (by decide +kernel) rfl ?_ (fun hn1 => ?_)
    · refine z_aload_n (pc := 48) hX dX11_howMany_48 rfl 0 rfl ?_
      refine gr_0_0C (pc := 49) hX q_235 dX11_howMany_49 ?_
      refine gr_1_4C (pc := 52) hX v_1_0 q_208 dX11_howMany_52 ?_
      refine gf_4_1C (pc := 55) hX v_4_0 q_68 dX11_howMany_55 ?_
      exact z_retP (pc := 58) hX dX11_howMany_58
    · refine z_tab1 (pc := 1) (tgt := 59) (v := 2) (off := 58) hX dX11_howMany_1 (by decide +kernel) (by decide +kernel) (by decide +kernel) rfl ?_ (fun hn2 => ?_)
      · refine z_aload_n (pc := 59) hX dX11_howMany_59 rfl 0 rfl ?_
        refine gr_0_0C (pc := 60) hX q_235 dX11_howMany_60 ?_
        refine gr_1_4C (pc := 63) hX v_1_0 q_208 dX11_howMany_63 ?_
        refine gf_4_0C (pc := 66) hX v_4_0 q_65 dX11_howMany_66 ?_
        exact z_retP (pc := 69) hX dX11_howMany_69
      · refine z_tab1 (pc := 1) (tgt := 70) (v := 3) (off := 69) hX dX11_howMany_1 (by decide +kernel) (by decide +kernel) (by decide +kernel) rfl ?_ (fun hn3 => ?_)
        · refine z_aload_n (pc := 70) hX dX11_howMany_70 rfl 0 rfl ?_
          refine gr_0_0C (pc := 71) hX q_235 dX11_howMany_71 ?_
          refine gr_1_4C (pc := 74) hX v_1_0 q_208 dX11_howMany_74 ?_
          refine gf_4_2C (pc := 77) hX v_4_0 q_72 dX11_howMany_77 ?_
          refine z_rP (run_S (pc := 80) (As := [.int (s 4 0 2)]) hX ⟨q_724, q_726, q_20⟩ q_725 hd_J6_bitCount_0f7a4 ⟨Nat.le_of_ble_eq_true rfl, Nat.le_of_ble_eq_true rfl⟩ (c_J_bitCount hG s (s 4 0 2)) rfl rfl (Nat.le_of_ble_eq_true rfl) dX11_howMany_80) (fun r1 => ?_)
          exact z_retP (pc := 83) hX dX11_howMany_83
        · refine z_tab1 (pc := 1) (tgt := 84) (v := 4) (off := 83) hX dX11_howMany_1 (by decide +kernel) (by decide +kernel) (by decide +kernel) rfl ?_ (fun hn4 => ?_)
          · refine z_aload_n (pc := 84) hX dX11_howMany_84 rfl 0 rfl ?_
            refine gr_0_0C (pc := 85) hX q_235 dX11_howMany_85 ?_
            refine gf_1_6C (pc := 88) hX v_1_0 q_214 dX11_howMany_88 ?_
            exact z_retP (pc := 91) hX dX11_howMany_91
          · refine z_tab1 (pc := 1) (tgt := 92) (v := 5) (off := 91) hX dX11_howMany_1 (by decide +kernel) (by decide +kernel) (by decide +kernel) rfl ?_ (fun hn5 => ?_)
            · refine z_aload_n (pc := 92) hX dX11_howMany_92 rfl 0 rfl ?_
              refine gr_0_0C (pc := 93) hX q_235 dX11_howMany_93 ?_
              refine gf_1_7C (pc := 96) hX v_1_0 q_216 dX11_howMany_96 ?_
              exact z_retP (pc := 99) hX dX11_howMany_99
            · refine z_tab0 (pc := 1) (tgt := 100) hX dX11_howMany_1 (sw_out [0, 1, 2, 3, 4, 5] (List.forall_mem_cons.mpr ⟨hn0, List.forall_mem_cons.mpr ⟨hn1, List.forall_mem_cons.mpr ⟨hn2, List.forall_mem_cons.mpr ⟨hn3, List.forall_mem_cons.mpr ⟨hn4, List.forall_mem_cons.mpr ⟨hn5, fun _ h => absurd h List.not_mem_nil⟩⟩⟩⟩⟩⟩) (by decide +kernel)) rfl ?_
              refine z_aload_n (pc := 100) hX dX11_howMany_100 rfl 0 rfl ?_
              refine gr_0_4C (pc := 101) hX q_239 dX11_howMany_101 ?_
              refine gf_5_1C (pc := 104) hX q_37 dX11_howMany_104 ?_
              exact z_retP (pc := 107) hX dX11_howMany_107
theorem hd_X11_pair : yX11_pair.cls ≠ "java/lang/invoke/MethodHandle" ∧ yX11_pair.cls ≠ "java/lang/invoke/VarHandle" ∧ (parseMethodDescriptor yX11_pair.desc).map (fun d => d.parameters.length) = some 2 := by decide +kernel
def f_T_pair (s : Sto) (x1 : Int32) (x2 : Int32) : Option (Int32 × Sto) :=
  bP (f_Co_hasTwo s 0 x1 x2) (fun r1 => if r1 = (0 : Int32) then bI (f_T_bad s) (fun r5 s6 => some (r5, s6)) else bV (f_Co_remember s 0) (fun s2 => lt (st s2 4 0 3 x1) (fun s3 => lt (st s3 4 0 4 x2) (fun s4 => some ((1 : Int32), s4)))))
set_option maxRecDepth 100000 in
set_option maxHeartbeats 4000000 in
theorem c_T_pair {G : Gb} {l : Launch} {o : Sto} {L : Lng} (hG : GA G) (s : Sto) (x1 : Int32) (x2 : Int32)  : CT G l (EC o L) pvI psI yX11_pair cX11_pair 3 (some .int) 3 62 [.ref (ad G 0 0), .int x1, .int x2] s (f_T_pair s x1 x2) := by
  refine CT.of hG (by decide) (Nat.le_of_ble_eq_true rfl) (fun X hX => ?_)
  have hX : OX G X l cX11_pair 3 "CrownTwo" (some .int) 3 62 := hX
  show ZR G X (EC o L) pvI psI 3 s [(0, .ref (ad G 0 0)), (1, .int x1), (2, .int x2)] [] 0 _
  unfold f_T_pair
  refine z_aload_n (pc := 0) hX dX11_pair_0 rfl 0 rfl ?_
  refine gr_0_0C (pc := 1) hX q_235 dX11_pair_1 ?_
  refine z_iload_n (pc := 4) hX dX11_pair_4 rfl 1 rfl ?_
  refine z_iload_n (pc := 5) hX dX11_pair_5 rfl 2 rfl ?_
  refine z_rP (run_V (pc := 6) (As := [.int x1, .int x2]) hX (rc_1 v_1_0) ⟨q_461, q_464, q_10⟩ q_462 q_463 hd_X0_hasTwo ⟨Nat.le_of_ble_eq_true rfl, Nat.le_of_ble_eq_true rfl⟩ (c_Co_hasTwo hG s 0 x1 x2 v_1_0) rfl rfl (Nat.le_of_ble_eq_true rfl) dX11_pair_6) (fun r1 => ?_)
  refine z_if_ne (pc := 9) (tgt := 17) hX dX11_pair_9 rfl ?_ ?_
  · refine z_aload_n (pc := 17) hX dX11_pair_17 rfl 0 rfl ?_
    refine gr_0_0C (pc := 18) hX q_235 dX11_pair_18 ?_
    refine z_rV (run_V (pc := 21) (As := []) hX (rc_1 v_1_0) ⟨q_469, q_472, q_10⟩ q_470 q_471 hd_X0_remember ⟨Nat.le_of_ble_eq_true rfl, Nat.le_of_ble_eq_true rfl⟩ (c_Co_remember hG s 0 v_1_0) rfl rfl (Nat.le_of_ble_eq_true rfl) dX11_pair_21) (fun s2 => ?_)
    refine z_aload_n (pc := 24) hX dX11_pair_24 rfl 0 rfl ?_
    refine gr_0_0C (pc := 25) hX q_235 dX11_pair_25 ?_
    refine gr_1_4C (pc := 28) hX v_1_0 q_208 dX11_pair_28 ?_
    refine z_iload_n (pc := 31) hX dX11_pair_31 rfl 1 rfl ?_
    refine pf_4_3C (pc := 32) hX v_4_0 q_75 dX11_pair_32 ?_
    refine z_lts (fun s3 => ?_)
    refine z_aload_n (pc := 35) hX dX11_pair_35 rfl 0 rfl ?_
    refine gr_0_0C (pc := 36) hX q_235 dX11_pair_36 ?_
    refine gr_1_4C (pc := 39) hX v_1_0 q_208 dX11_pair_39 ?_
    refine z_iload_n (pc := 42) hX dX11_pair_42 rfl 2 rfl ?_
    refine pf_4_4C (pc := 43) hX v_4_0 q_79 dX11_pair_43 ?_
    refine z_lts (fun s4 => ?_)
    refine z_iconst (pc := 46) hX dX11_pair_46 ic_1 ?_
    exact z_retI (pc := 47) hX dX11_pair_47
  · refine z_aload_n (pc := 12) hX dX11_pair_12 rfl 0 rfl ?_
    refine z_rI (run_V (pc := 13) (As := []) hX rc_0 ⟨q_288, q_291, q_1⟩ q_290 qs_0 hd_X11_bad ⟨Nat.le_of_ble_eq_true rfl, Nat.le_of_ble_eq_true rfl⟩ (c_T_bad hG s) rfl rfl (Nat.le_of_ble_eq_true rfl) dX11_pair_13) (fun r5 s6 => ?_)
    exact z_retI (pc := 16) hX dX11_pair_16
theorem hd_X11_ask : yX11_ask.cls ≠ "java/lang/invoke/MethodHandle" ∧ yX11_ask.cls ≠ "java/lang/invoke/VarHandle" ∧ (parseMethodDescriptor yX11_ask.desc).map (fun d => d.parameters.length) = some 1 := by decide +kernel
def f_T_ask (s : Sto) (x1 : Int32) : Option (Int32 × Sto) :=
  bP (f_T_outside x1 (0 : Int32) (7 : Int32)) (fun r1 => if r1 = (0 : Int32) then bP (f_Co_paired s 0 0) (fun r2 => if r2 = (0 : Int32) then bI (f_T_no s) (fun r3 s4 => some (r3, s4)) else bP (f_Mo_isDone s 0 x1) (fun r5 => if r5 = (0 : Int32) then bV (f_Co_remember s 0) (fun s6 => bI (f_Co_askIn s6 0 0 x1) (fun r7 s8 => some (r7, s8))) else bI (f_T_no s) (fun r9 s10 => some (r9, s10)))) else bI (f_T_bad s) (fun r11 s12 => some (r11, s12)))
set_option maxRecDepth 100000 in
set_option maxHeartbeats 4000000 in
theorem c_T_ask {G : Gb} {l : Launch} {o : Sto} {L : Lng} (hG : GA G) (s : Sto) (x1 : Int32)  : CT G l (EC o L) pvI psI yX11_ask cX11_ask 2 (some .int) 6 146 [.ref (ad G 0 0), .int x1] s (f_T_ask s x1) := by
  refine CT.of hG (by decide) (Nat.le_of_ble_eq_true rfl) (fun X hX => ?_)
  have hX : OX G X l cX11_ask 2 "CrownTwo" (some .int) 6 146 := hX
  show ZR G X (EC o L) pvI psI 2 s [(0, .ref (ad G 0 0)), (1, .int x1)] [] 0 _
  unfold f_T_ask
  refine z_iload_n (pc := 0) hX dX11_ask_0 rfl 1 rfl ?_
  refine z_iconst (pc := 1) hX dX11_ask_1 ic_0 ?_
  refine z_bipush (pc := 2) hX dX11_ask_2 bp_7 ?_
  refine z_rP (run_S (pc := 4) (As := [.int x1, .int (0 : Int32), .int (7 : Int32)]) hX ⟨q_285, q_287, q_1⟩ q_286 hd_X11_outside ⟨Nat.le_of_ble_eq_true rfl, Nat.le_of_ble_eq_true rfl⟩ (c_T_outside hG s x1 (0 : Int32) (7 : Int32)) rfl rfl (Nat.le_of_ble_eq_true rfl) dX11_ask_4) (fun r1 => ?_)
  refine z_if_eq (pc := 7) (tgt := 15) hX dX11_ask_7 rfl ?_ ?_
  · refine z_aload_n (pc := 15) hX dX11_ask_15 rfl 0 rfl ?_
    refine gr_0_0C (pc := 16) hX q_235 dX11_ask_16 ?_
    refine z_aload_n (pc := 19) hX dX11_ask_19 rfl 0 rfl ?_
    refine gr_0_0C (pc := 20) hX q_235 dX11_ask_20 ?_
    refine gr_1_4C (pc := 23) hX v_1_0 q_208 dX11_ask_23 ?_
    refine z_rP (run_V (pc := 26) (As := [.ref (ad G 4 0)]) hX (rc_1 v_1_0) ⟨q_481, q_484, q_10⟩ q_482 q_483 hd_X0_paired ⟨Nat.le_of_ble_eq_true rfl, Nat.le_of_ble_eq_true rfl⟩ (c_Co_paired hG s 0 0 v_1_0 v_4_0) rfl rfl (Nat.le_of_ble_eq_true rfl) dX11_ask_26) (fun r2 => ?_)
    refine z_if_eq (pc := 29) (tgt := 46) hX dX11_ask_29 rfl ?_ ?_
    · refine z_aload_n (pc := 46) hX dX11_ask_46 rfl 0 rfl ?_
      refine z_rI (run_V (pc := 47) (As := []) hX rc_0 ⟨q_490, q_493, q_1⟩ q_492 qs_13 hd_X11_no ⟨Nat.le_of_ble_eq_true rfl, Nat.le_of_ble_eq_true rfl⟩ (c_T_no hG s) rfl rfl (Nat.le_of_ble_eq_true rfl) dX11_ask_47) (fun r3 s4 => ?_)
      exact z_retI (pc := 50) hX dX11_ask_50
    · refine z_aload_n (pc := 32) hX dX11_ask_32 rfl 0 rfl ?_
      refine gr_0_0C (pc := 33) hX q_235 dX11_ask_33 ?_
      refine gr_1_4C (pc := 36) hX v_1_0 q_208 dX11_ask_36 ?_
      refine z_iload_n (pc := 39) hX dX11_ask_39 rfl 1 rfl ?_
      refine z_rP (run_V (pc := 40) (As := [.int x1]) hX (rc_4 v_4_0) ⟨q_486, q_489, q_3⟩ q_487 q_488 hd_X5_isDone ⟨Nat.le_of_ble_eq_true rfl, Nat.le_of_ble_eq_true rfl⟩ (c_Mo_isDone hG s 0 x1 v_4_0) rfl rfl (Nat.le_of_ble_eq_true rfl) dX11_ask_40) (fun r5 => ?_)
      refine z_if_eq (pc := 43) (tgt := 51) hX dX11_ask_43 rfl ?_ ?_
      · refine z_aload_n (pc := 51) hX dX11_ask_51 rfl 0 rfl ?_
        refine gr_0_0C (pc := 52) hX q_235 dX11_ask_52 ?_
        refine z_rV (run_V (pc := 55) (As := []) hX (rc_1 v_1_0) ⟨q_469, q_472, q_10⟩ q_470 q_471 hd_X0_remember ⟨Nat.le_of_ble_eq_true rfl, Nat.le_of_ble_eq_true rfl⟩ (c_Co_remember hG s 0 v_1_0) rfl rfl (Nat.le_of_ble_eq_true rfl) dX11_ask_55) (fun s6 => ?_)
        refine z_aload_n (pc := 58) hX dX11_ask_58 rfl 0 rfl ?_
        refine gr_0_0C (pc := 59) hX q_235 dX11_ask_59 ?_
        refine z_aload_n (pc := 62) hX dX11_ask_62 rfl 0 rfl ?_
        refine gr_0_0C (pc := 63) hX q_235 dX11_ask_63 ?_
        refine gr_1_4C (pc := 66) hX v_1_0 q_208 dX11_ask_66 ?_
        refine z_iload_n (pc := 69) hX dX11_ask_69 rfl 1 rfl ?_
        refine z_rI (run_V (pc := 70) (As := [.ref (ad G 4 0), .int x1]) hX (rc_1 v_1_0) ⟨q_494, q_497, q_10⟩ q_495 q_496 hd_X0_askIn ⟨Nat.le_of_ble_eq_true rfl, Nat.le_of_ble_eq_true rfl⟩ (c_Co_askIn hG s6 0 0 x1 v_1_0 v_4_0) rfl rfl (Nat.le_of_ble_eq_true rfl) dX11_ask_70) (fun r7 s8 => ?_)
        exact z_retI (pc := 73) hX dX11_ask_73
      · refine z_aload_n (pc := 46) hX dX11_ask_46 rfl 0 rfl ?_
        refine z_rI (run_V (pc := 47) (As := []) hX rc_0 ⟨q_490, q_493, q_1⟩ q_492 qs_13 hd_X11_no ⟨Nat.le_of_ble_eq_true rfl, Nat.le_of_ble_eq_true rfl⟩ (c_T_no hG s) rfl rfl (Nat.le_of_ble_eq_true rfl) dX11_ask_47) (fun r9 s10 => ?_)
        exact z_retI (pc := 50) hX dX11_ask_50
  · refine z_aload_n (pc := 10) hX dX11_ask_10 rfl 0 rfl ?_
    refine z_rI (run_V (pc := 11) (As := []) hX rc_0 ⟨q_288, q_291, q_1⟩ q_290 qs_0 hd_X11_bad ⟨Nat.le_of_ble_eq_true rfl, Nat.le_of_ble_eq_true rfl⟩ (c_T_bad hG s) rfl rfl (Nat.le_of_ble_eq_true rfl) dX11_ask_11) (fun r11 s12 => ?_)
    exact z_retI (pc := 14) hX dX11_ask_14
theorem hd_X11_feed : yX11_feed.cls ≠ "java/lang/invoke/MethodHandle" ∧ yX11_feed.cls ≠ "java/lang/invoke/VarHandle" ∧ (parseMethodDescriptor yX11_feed.desc).map (fun d => d.parameters.length) = some 1 := by decide +kernel
def f_T_feed (s : Sto) (x1 : Int32) : Option (Int32 × Sto) :=
  bP (f_T_outside x1 (1 : Int32) (20 : Int32)) (fun r1 => if r1 = (0 : Int32) then bV (f_Co_remember s 0) (fun s2 => bV (f_Mo_warm s2 0 x1) (fun s3 => some (s3 4 0 0, s3))) else bI (f_T_bad s) (fun r4 s5 => some (r4, s5)))
set_option maxRecDepth 100000 in
set_option maxHeartbeats 4000000 in
theorem c_T_feed {G : Gb} {l : Launch} {o : Sto} {L : Lng} (hG : GA G) (s : Sto) (x1 : Int32)  : CT G l (EC o L) pvI psI yX11_feed cX11_feed 2 (some .int) 3 62 [.ref (ad G 0 0), .int x1] s (f_T_feed s x1) := by
  refine CT.of hG (by decide) (Nat.le_of_ble_eq_true rfl) (fun X hX => ?_)
  have hX : OX G X l cX11_feed 2 "CrownTwo" (some .int) 3 62 := hX
  show ZR G X (EC o L) pvI psI 2 s [(0, .ref (ad G 0 0)), (1, .int x1)] [] 0 _
  unfold f_T_feed
  refine z_iload_n (pc := 0) hX dX11_feed_0 rfl 1 rfl ?_
  refine z_iconst (pc := 1) hX dX11_feed_1 ic_1 ?_
  refine z_bipush (pc := 2) hX dX11_feed_2 bp_20 ?_
  refine z_rP (run_S (pc := 4) (As := [.int x1, .int (1 : Int32), .int (20 : Int32)]) hX ⟨q_285, q_287, q_1⟩ q_286 hd_X11_outside ⟨Nat.le_of_ble_eq_true rfl, Nat.le_of_ble_eq_true rfl⟩ (c_T_outside hG s x1 (1 : Int32) (20 : Int32)) rfl rfl (Nat.le_of_ble_eq_true rfl) dX11_feed_4) (fun r1 => ?_)
  refine z_if_eq (pc := 7) (tgt := 15) hX dX11_feed_7 rfl ?_ ?_
  · refine z_aload_n (pc := 15) hX dX11_feed_15 rfl 0 rfl ?_
    refine gr_0_0C (pc := 16) hX q_235 dX11_feed_16 ?_
    refine z_rV (run_V (pc := 19) (As := []) hX (rc_1 v_1_0) ⟨q_469, q_472, q_10⟩ q_470 q_471 hd_X0_remember ⟨Nat.le_of_ble_eq_true rfl, Nat.le_of_ble_eq_true rfl⟩ (c_Co_remember hG s 0 v_1_0) rfl rfl (Nat.le_of_ble_eq_true rfl) dX11_feed_19) (fun s2 => ?_)
    refine z_aload_n (pc := 22) hX dX11_feed_22 rfl 0 rfl ?_
    refine gr_0_0C (pc := 23) hX q_235 dX11_feed_23 ?_
    refine gr_1_4C (pc := 26) hX v_1_0 q_208 dX11_feed_26 ?_
    refine z_iload_n (pc := 29) hX dX11_feed_29 rfl 1 rfl ?_
    refine z_rV (run_V (pc := 30) (As := [.int x1]) hX (rc_4 v_4_0) ⟨q_599, q_540, q_3⟩ q_538 q_539 hd_X5_warm ⟨Nat.le_of_ble_eq_true rfl, Nat.le_of_ble_eq_true rfl⟩ (c_Mo_warm hG s2 0 x1 v_4_0) rfl rfl (Nat.le_of_ble_eq_true rfl) dX11_feed_30) (fun s3 => ?_)
    refine z_aload_n (pc := 33) hX dX11_feed_33 rfl 0 rfl ?_
    refine gr_0_0C (pc := 34) hX q_235 dX11_feed_34 ?_
    refine gr_1_4C (pc := 37) hX v_1_0 q_208 dX11_feed_37 ?_
    refine gf_4_0C (pc := 40) hX v_4_0 q_65 dX11_feed_40 ?_
    exact z_retI (pc := 43) hX dX11_feed_43
  · refine z_aload_n (pc := 10) hX dX11_feed_10 rfl 0 rfl ?_
    refine z_rI (run_V (pc := 11) (As := []) hX rc_0 ⟨q_288, q_291, q_1⟩ q_290 qs_0 hd_X11_bad ⟨Nat.le_of_ble_eq_true rfl, Nat.le_of_ble_eq_true rfl⟩ (c_T_bad hG s) rfl rfl (Nat.le_of_ble_eq_true rfl) dX11_feed_11) (fun r4 s5 => ?_)
    exact z_retI (pc := 14) hX dX11_feed_14
theorem hd_X11_lift : yX11_lift.cls ≠ "java/lang/invoke/MethodHandle" ∧ yX11_lift.cls ≠ "java/lang/invoke/VarHandle" ∧ (parseMethodDescriptor yX11_lift.desc).map (fun d => d.parameters.length) = some 1 := by decide +kernel
def f_T_lift (s : Sto) (x1 : Int32) : Option (Int32 × Sto) :=
  bP (f_T_outside x1 (0 : Int32) (7 : Int32)) (fun r1 => if r1 = (0 : Int32) then bP (f_Co_paired s 0 0) (fun r2 => if r2 = (0 : Int32) then bI (f_T_no s) (fun r4 s5 => some (r4, s5)) else bP (f_Co_liftersIn s 0 0 x1) (fun r3 => some (r3, s))) else bI (f_T_bad s) (fun r6 s7 => some (r6, s7)))
set_option maxRecDepth 100000 in
set_option maxHeartbeats 4000000 in
theorem c_T_lift {G : Gb} {l : Launch} {o : Sto} {L : Lng} (hG : GA G) (s : Sto) (x1 : Int32)  : CT G l (EC o L) pvI psI yX11_lift cX11_lift 2 (some .int) 5 123 [.ref (ad G 0 0), .int x1] s (f_T_lift s x1) := by
  refine CT.of hG (by decide) (Nat.le_of_ble_eq_true rfl) (fun X hX => ?_)
  have hX : OX G X l cX11_lift 2 "CrownTwo" (some .int) 5 123 := hX
  show ZR G X (EC o L) pvI psI 2 s [(0, .ref (ad G 0 0)), (1, .int x1)] [] 0 _
  unfold f_T_lift
  refine z_iload_n (pc := 0) hX dX11_lift_0 rfl 1 rfl ?_
  refine z_iconst (pc := 1) hX dX11_lift_1 ic_0 ?_
  refine z_bipush (pc := 2) hX dX11_lift_2 bp_7 ?_
  refine z_rP (run_S (pc := 4) (As := [.int x1, .int (0 : Int32), .int (7 : Int32)]) hX ⟨q_285, q_287, q_1⟩ q_286 hd_X11_outside ⟨Nat.le_of_ble_eq_true rfl, Nat.le_of_ble_eq_true rfl⟩ (c_T_outside hG s x1 (0 : Int32) (7 : Int32)) rfl rfl (Nat.le_of_ble_eq_true rfl) dX11_lift_4) (fun r1 => ?_)
  refine z_if_eq (pc := 7) (tgt := 15) hX dX11_lift_7 rfl ?_ ?_
  · refine z_aload_n (pc := 15) hX dX11_lift_15 rfl 0 rfl ?_
    refine gr_0_0C (pc := 16) hX q_235 dX11_lift_16 ?_
    refine z_aload_n (pc := 19) hX dX11_lift_19 rfl 0 rfl ?_
    refine gr_0_0C (pc := 20) hX q_235 dX11_lift_20 ?_
    refine gr_1_4C (pc := 23) hX v_1_0 q_208 dX11_lift_23 ?_
    refine z_rP (run_V (pc := 26) (As := [.ref (ad G 4 0)]) hX (rc_1 v_1_0) ⟨q_481, q_484, q_10⟩ q_482 q_483 hd_X0_paired ⟨Nat.le_of_ble_eq_true rfl, Nat.le_of_ble_eq_true rfl⟩ (c_Co_paired hG s 0 0 v_1_0 v_4_0) rfl rfl (Nat.le_of_ble_eq_true rfl) dX11_lift_26) (fun r2 => ?_)
    refine z_if_ne (pc := 29) (tgt := 37) hX dX11_lift_29 rfl ?_ ?_
    · refine z_aload_n (pc := 37) hX dX11_lift_37 rfl 0 rfl ?_
      refine gr_0_0C (pc := 38) hX q_235 dX11_lift_38 ?_
      refine z_aload_n (pc := 41) hX dX11_lift_41 rfl 0 rfl ?_
      refine gr_0_0C (pc := 42) hX q_235 dX11_lift_42 ?_
      refine gr_1_4C (pc := 45) hX v_1_0 q_208 dX11_lift_45 ?_
      refine z_iload_n (pc := 48) hX dX11_lift_48 rfl 1 rfl ?_
      refine z_rP (run_V (pc := 49) (As := [.ref (ad G 4 0), .int x1]) hX (rc_1 v_1_0) ⟨q_626, q_501, q_10⟩ q_499 q_500 hd_X0_liftersIn ⟨Nat.le_of_ble_eq_true rfl, Nat.le_of_ble_eq_true rfl⟩ (c_Co_liftersIn hG s 0 0 x1 v_1_0 v_4_0) rfl rfl (Nat.le_of_ble_eq_true rfl) dX11_lift_49) (fun r3 => ?_)
      exact z_retI (pc := 52) hX dX11_lift_52
    · refine z_aload_n (pc := 32) hX dX11_lift_32 rfl 0 rfl ?_
      refine z_rI (run_V (pc := 33) (As := []) hX rc_0 ⟨q_490, q_493, q_1⟩ q_492 qs_13 hd_X11_no ⟨Nat.le_of_ble_eq_true rfl, Nat.le_of_ble_eq_true rfl⟩ (c_T_no hG s) rfl rfl (Nat.le_of_ble_eq_true rfl) dX11_lift_33) (fun r4 s5 => ?_)
      exact z_retI (pc := 36) hX dX11_lift_36
  · refine z_aload_n (pc := 10) hX dX11_lift_10 rfl 0 rfl ?_
    refine z_rI (run_V (pc := 11) (As := []) hX rc_0 ⟨q_288, q_291, q_1⟩ q_290 qs_0 hd_X11_bad ⟨Nat.le_of_ble_eq_true rfl, Nat.le_of_ble_eq_true rfl⟩ (c_T_bad hG s) rfl rfl (Nat.le_of_ble_eq_true rfl) dX11_lift_11) (fun r6 s7 => ?_)
    exact z_retI (pc := 14) hX dX11_lift_14
theorem hd_X11_heart : yX11_heart.cls ≠ "java/lang/invoke/MethodHandle" ∧ yX11_heart.cls ≠ "java/lang/invoke/VarHandle" ∧ (parseMethodDescriptor yX11_heart.desc).map (fun d => d.parameters.length) = some 2 := by decide +kernel
def f_T_heart (s : Sto) (x1 : Int32) (x2 : Int32) : Option (Int32 × Sto) :=
  bP (f_Co_has s 0 x1) (fun r1 => if r1 = (0 : Int32) then bI (f_T_bad s) (fun r2 s3 => some (r2, s3)) else bP (f_T_outside x2 (0 : Int32) (7 : Int32)) (fun r4 => if r4 = (0 : Int32) then if inb x1 6 then lt (s 2 (6 * 0 + ix x1) 1) (fun v4_6 => lt (s 2 (6 * 0 + ix x1) 2) (fun v5_7 => lt ((1 : Int32) <<< (x2 &&& 31)) (fun v6_8 => bV (f_He_feel s (6 * 0 + ix x1) (v4_6 ||| v6_8) (v5_7 &&& (v6_8 ^^^ (-1 : Int32)))) (fun s9 => bP (f_Co_fits s9 0 x1 (s9 2 (6 * 0 + ix x1) 0)) (fun r10 => jn (fun v7_11 => bV (f_He_feel s9 (6 * 0 + ix x1) (v4_6 &&& (v6_8 ^^^ (-1 : Int32))) (v5_7 ||| v6_8)) (fun s13 => bP (f_Co_fits s13 0 x1 (s13 2 (6 * 0 + ix x1) 0)) (fun r14 => jn (fun v7_15 => bV (f_He_feel s13 (6 * 0 + ix x1) (v4_6 &&& (v6_8 ^^^ (-1 : Int32))) (v5_7 &&& (v6_8 ^^^ (-1 : Int32)))) (fun s17 => bP (f_Co_fits s17 0 x1 (s17 2 (6 * 0 + ix x1) 0)) (fun r18 => if r18 = (0 : Int32) then bV (f_He_feel s17 (6 * 0 + ix x1) v4_6 v5_7) (fun s19 => some (v7_15, s19)) else lt (v7_15 ||| (4 : Int32)) (fun v7_20 => bV (f_He_feel s17 (6 * 0 + ix x1) v4_6 v5_7) (fun s21 => some (v7_20, s21)))))) (fun j16 => if r14 = (0 : Int32) then j16 v7_11 else lt (v7_11 ||| (2 : Int32)) (fun v7_22 => j16 v7_22))))) (fun j12 => if r10 = (0 : Int32) then j12 (0 : Int32) else lt ((0 : Int32) ||| (1 : Int32)) (fun v7_23 => j12 v7_23))))))) else none else bI (f_T_bad s) (fun r24 s25 => some (r24, s25))))
set_option maxRecDepth 100000 in
set_option maxHeartbeats 4000000 in
theorem c_T_heart {G : Gb} {l : Launch} {o : Sto} {L : Lng} (hG : GA G) (s : Sto) (x1 : Int32) (x2 : Int32)  : CT G l (EC o L) pvI psI yX11_heart cX11_heart 8 (some .int) 5 123 [.ref (ad G 0 0), .int x1, .int x2] s (f_T_heart s x1 x2) := by
  refine CT.of hG (by decide) (Nat.le_of_ble_eq_true rfl) (fun X hX => ?_)
  have hX : OX G X l cX11_heart 8 "CrownTwo" (some .int) 5 123 := hX
  show ZR G X (EC o L) pvI psI 8 s [(0, .ref (ad G 0 0)), (1, .int x1), (2, .int x2)] [] 0 _
  unfold f_T_heart
  refine z_aload_n (pc := 0) hX dX11_heart_0 rfl 0 rfl ?_
  refine gr_0_0C (pc := 1) hX q_235 dX11_heart_1 ?_
  refine z_iload_n (pc := 4) hX dX11_heart_4 rfl 1 rfl ?_
  refine z_rP (run_V (pc := 5) (As := [.int x1]) hX (rc_1 v_1_0) ⟨q_612, q_468, q_10⟩ q_466 q_467 hd_X0_has ⟨Nat.le_of_ble_eq_true rfl, Nat.le_of_ble_eq_true rfl⟩ (c_Co_has hG s 0 x1 v_1_0) rfl rfl (Nat.le_of_ble_eq_true rfl) dX11_heart_5) (fun r1 => ?_)
  refine z_if_eq (pc := 8) (tgt := 21) hX dX11_heart_8 rfl ?_ ?_
  · refine z_aload_n (pc := 21) hX dX11_heart_21 rfl 0 rfl ?_
    refine z_rI (run_V (pc := 22) (As := []) hX rc_0 ⟨q_288, q_291, q_1⟩ q_290 qs_0 hd_X11_bad ⟨Nat.le_of_ble_eq_true rfl, Nat.le_of_ble_eq_true rfl⟩ (c_T_bad hG s) rfl rfl (Nat.le_of_ble_eq_true rfl) dX11_heart_22) (fun r2 s3 => ?_)
    exact z_retI (pc := 25) hX dX11_heart_25
  · refine z_iload_n (pc := 11) hX dX11_heart_11 rfl 2 rfl ?_
    refine z_iconst (pc := 12) hX dX11_heart_12 ic_0 ?_
    refine z_bipush (pc := 13) hX dX11_heart_13 bp_7 ?_
    refine z_rP (run_S (pc := 15) (As := [.int x2, .int (0 : Int32), .int (7 : Int32)]) hX ⟨q_285, q_287, q_1⟩ q_286 hd_X11_outside ⟨Nat.le_of_ble_eq_true rfl, Nat.le_of_ble_eq_true rfl⟩ (c_T_outside hG s x2 (0 : Int32) (7 : Int32)) rfl rfl (Nat.le_of_ble_eq_true rfl) dX11_heart_15) (fun r4 => ?_)
    refine z_if_eq (pc := 18) (tgt := 26) hX dX11_heart_18 rfl ?_ ?_
    · refine z_aload_n (pc := 26) hX dX11_heart_26 rfl 0 rfl ?_
      refine gr_0_0C (pc := 27) hX q_235 dX11_heart_27 ?_
      refine gr_1_1C (pc := 30) hX v_1_0 q_203 dX11_heart_30 ?_
      refine z_iload_n (pc := 33) hX dX11_heart_33 rfl 1 rfl ?_
      refine aa_8C (pc := 34) hX v_8_0 dX11_heart_34 (fun hv5 => ?_)
      refine z_astore_n (pc := 35) (ls' := [(3, .ref (ad G 2 (6 * 0 + ix x1))), (0, .ref (ad G 0 0)), (1, .int x1), (2, .int x2)]) hX dX11_heart_35 rfl (by decide) rfl ?_
      refine z_aload_n (pc := 36) hX dX11_heart_36 rfl 0 rfl ?_
      refine gf_2_1C (pc := 37) hX hv5 q_158 dX11_heart_37 ?_
      refine z_lti (pc := 40) (fun v4_6 => ?_)
      refine z_istore (pc := 40) (ls' := [(4, .int v4_6), (3, .ref (ad G 2 (6 * 0 + ix x1))), (0, .ref (ad G 0 0)), (1, .int x1), (2, .int x2)]) hX dX11_heart_40 (by decide) rfl ?_
      refine z_aload_n (pc := 42) hX dX11_heart_42 rfl 1 rfl ?_
      refine gf_2_2C (pc := 43) hX hv5 q_161 dX11_heart_43 ?_
      refine z_lti (pc := 46) (fun v5_7 => ?_)
      refine z_istore (pc := 46) (ls' := [(5, .int v5_7), (4, .int v4_6), (3, .ref (ad G 2 (6 * 0 + ix x1))), (0, .ref (ad G 0 0)), (1, .int x1), (2, .int x2)]) hX dX11_heart_46 (by decide) rfl ?_
      refine z_iconst (pc := 48) hX dX11_heart_48 ic_1 ?_
      refine z_iload_n (pc := 49) hX dX11_heart_49 rfl 5 rfl ?_
      refine z_ishl (pc := 50) hX dX11_heart_50 ?_
      refine z_lti (pc := 51) (fun v6_8 => ?_)
      refine z_istore (pc := 51) (ls' := [(6, .int v6_8), (5, .int v5_7), (4, .int v4_6), (3, .ref (ad G 2 (6 * 0 + ix x1))), (0, .ref (ad G 0 0)), (1, .int x1), (2, .int x2)]) hX dX11_heart_51 (by decide) rfl ?_
      refine z_iconst (pc := 53) hX dX11_heart_53 ic_0 ?_
      refine z_istore (pc := 54) (ls' := [(7, .int (0 : Int32)), (6, .int v6_8), (5, .int v5_7), (4, .int v4_6), (3, .ref (ad G 2 (6 * 0 + ix x1))), (0, .ref (ad G 0 0)), (1, .int x1), (2, .int x2)]) hX dX11_heart_54 (by decide) rfl ?_
      refine z_aload_n (pc := 56) hX dX11_heart_56 rfl 4 rfl ?_
      refine z_iload (pc := 57) hX dX11_heart_57 3 rfl ?_
      refine z_iload (pc := 59) hX dX11_heart_59 1 rfl ?_
      refine z_ior (pc := 61) hX dX11_heart_61 ?_
      refine z_iload (pc := 62) hX dX11_heart_62 2 rfl ?_
      refine z_iload (pc := 64) hX dX11_heart_64 1 rfl ?_
      refine z_iconst (pc := 66) hX dX11_heart_66 ic_m1 ?_
      refine z_ixor (pc := 67) hX dX11_heart_67 ?_
      refine z_iand (pc := 68) hX dX11_heart_68 ?_
      refine z_rV (run_V (pc := 69) (As := [.int (v4_6 ||| v6_8), .int (v5_7 &&& (v6_8 ^^^ (-1 : Int32)))]) hX (rc_2 hv5) ⟨q_719, q_428, q_11⟩ q_426 q_427 hd_X3_feel ⟨Nat.le_of_ble_eq_true rfl, Nat.le_of_ble_eq_true rfl⟩ (c_He_feel hG s (6 * 0 + ix x1) (v4_6 ||| v6_8) (v5_7 &&& (v6_8 ^^^ (-1 : Int32))) hv5) rfl rfl (Nat.le_of_ble_eq_true rfl) dX11_heart_69) (fun s9 => ?_)
      refine z_aload_n (pc := 72) hX dX11_heart_72 rfl 5 rfl ?_
      refine gr_0_0C (pc := 73) hX q_235 dX11_heart_73 ?_
      refine z_iload_n (pc := 76) hX dX11_heart_76 rfl 6 rfl ?_
      refine z_aload_n (pc := 77) hX dX11_heart_77 rfl 4 rfl ?_
      refine gf_2_0C (pc := 78) hX hv5 q_155 dX11_heart_78 ?_
      refine z_rP (run_V (pc := 81) (As := [.int x1, .int (s9 2 (6 * 0 + ix x1) 0)]) hX (rc_1 v_1_0) ⟨q_711, q_714, q_10⟩ q_712 q_713 hd_X0_fits ⟨Nat.le_of_ble_eq_true rfl, Nat.le_of_ble_eq_true rfl⟩ (c_Co_fits hG s9 0 x1 (s9 2 (6 * 0 + ix x1) 0) v_1_0) rfl rfl (Nat.le_of_ble_eq_true rfl) dX11_heart_81) (fun r10 => ?_)
      refine z_jn (P := fun j12 => ∀ (v7_11 : Int32), ZR G X (EC o L) pvI psI 8 s9 [(0, .ref (ad G 0 0)), (1, .int x1), (3, .ref (ad G 2 (6 * 0 + ix x1))), (4, .int v4_6), (5, .int v5_7), (6, .int v6_8), (7, .int v7_11)] [] 93 (j12 v7_11)) ?_ ?_
      · intro v7_11
        refine z_aload_n (pc := 93) hX dX11_heart_93 rfl 2 rfl ?_
        refine z_iload (pc := 94) hX dX11_heart_94 3 rfl ?_
        refine z_iload (pc := 96) hX dX11_heart_96 5 rfl ?_
        refine z_iconst (pc := 98) hX dX11_heart_98 ic_m1 ?_
        refine z_ixor (pc := 99) hX dX11_heart_99 ?_
        refine z_iand (pc := 100) hX dX11_heart_100 ?_
        refine z_iload (pc := 101) hX dX11_heart_101 4 rfl ?_
        refine z_iload (pc := 103) hX dX11_heart_103 5 rfl ?_
        refine z_ior (pc := 105) hX dX11_heart_105 ?_
        refine z_rV (run_V (pc := 106) (As := [.int (v4_6 &&& (v6_8 ^^^ (-1 : Int32))), .int (v5_7 ||| v6_8)]) hX (rc_2 hv5) ⟨q_719, q_428, q_11⟩ q_426 q_427 hd_X3_feel ⟨Nat.le_of_ble_eq_true rfl, Nat.le_of_ble_eq_true rfl⟩ (c_He_feel hG s9 (6 * 0 + ix x1) (v4_6 &&& (v6_8 ^^^ (-1 : Int32))) (v5_7 ||| v6_8) hv5) rfl rfl (Nat.le_of_ble_eq_true rfl) dX11_heart_106) (fun s13 => ?_)
        refine z_aload_n (pc := 109) hX dX11_heart_109 rfl 0 rfl ?_
        refine gr_0_0C (pc := 110) hX q_235 dX11_heart_110 ?_
        refine z_iload_n (pc := 113) hX dX11_heart_113 rfl 1 rfl ?_
        refine z_aload_n (pc := 114) hX dX11_heart_114 rfl 2 rfl ?_
        refine gf_2_0C (pc := 115) hX hv5 q_155 dX11_heart_115 ?_
        refine z_rP (run_V (pc := 118) (As := [.int x1, .int (s13 2 (6 * 0 + ix x1) 0)]) hX (rc_1 v_1_0) ⟨q_711, q_714, q_10⟩ q_712 q_713 hd_X0_fits ⟨Nat.le_of_ble_eq_true rfl, Nat.le_of_ble_eq_true rfl⟩ (c_Co_fits hG s13 0 x1 (s13 2 (6 * 0 + ix x1) 0) v_1_0) rfl rfl (Nat.le_of_ble_eq_true rfl) dX11_heart_118) (fun r14 => ?_)
        refine z_jn (P := fun j16 => ∀ (v7_15 : Int32), ZR G X (EC o L) pvI psI 8 s13 [(0, .ref (ad G 0 0)), (1, .int x1), (3, .ref (ad G 2 (6 * 0 + ix x1))), (4, .int v4_6), (5, .int v5_7), (6, .int v6_8), (7, .int v7_15)] [] 130 (j16 v7_15)) ?_ ?_
        · intro v7_15
          refine z_aload_n (pc := 130) hX dX11_heart_130 rfl 2 rfl ?_
          refine z_iload (pc := 131) hX dX11_heart_131 3 rfl ?_
          refine z_iload (pc := 133) hX dX11_heart_133 5 rfl ?_
          refine z_iconst (pc := 135) hX dX11_heart_135 ic_m1 ?_
          refine z_ixor (pc := 136) hX dX11_heart_136 ?_
          refine z_iand (pc := 137) hX dX11_heart_137 ?_
          refine z_iload (pc := 138) hX dX11_heart_138 4 rfl ?_
          refine z_iload (pc := 140) hX dX11_heart_140 5 rfl ?_
          refine z_iconst (pc := 142) hX dX11_heart_142 ic_m1 ?_
          refine z_ixor (pc := 143) hX dX11_heart_143 ?_
          refine z_iand (pc := 144) hX dX11_heart_144 ?_
          refine z_rV (run_V (pc := 145) (As := [.int (v4_6 &&& (v6_8 ^^^ (-1 : Int32))), .int (v5_7 &&& (v6_8 ^^^ (-1 : Int32)))]) hX (rc_2 hv5) ⟨q_719, q_428, q_11⟩ q_426 q_427 hd_X3_feel ⟨Nat.le_of_ble_eq_true rfl, Nat.le_of_ble_eq_true rfl⟩ (c_He_feel hG s13 (6 * 0 + ix x1) (v4_6 &&& (v6_8 ^^^ (-1 : Int32))) (v5_7 &&& (v6_8 ^^^ (-1 : Int32))) hv5) rfl rfl (Nat.le_of_ble_eq_true rfl) dX11_heart_145) (fun s17 => ?_)
          refine z_aload_n (pc := 148) hX dX11_heart_148 rfl 0 rfl ?_
          refine gr_0_0C (pc := 149) hX q_235 dX11_heart_149 ?_
          refine z_iload_n (pc := 152) hX dX11_heart_152 rfl 1 rfl ?_
          refine z_aload_n (pc := 153) hX dX11_heart_153 rfl 2 rfl ?_
          refine gf_2_0C (pc := 154) hX hv5 q_155 dX11_heart_154 ?_
          refine z_rP (run_V (pc := 157) (As := [.int x1, .int (s17 2 (6 * 0 + ix x1) 0)]) hX (rc_1 v_1_0) ⟨q_711, q_714, q_10⟩ q_712 q_713 hd_X0_fits ⟨Nat.le_of_ble_eq_true rfl, Nat.le_of_ble_eq_true rfl⟩ (c_Co_fits hG s17 0 x1 (s17 2 (6 * 0 + ix x1) 0) v_1_0) rfl rfl (Nat.le_of_ble_eq_true rfl) dX11_heart_157) (fun r18 => ?_)
          refine z_if_eq (pc := 160) (tgt := 169) hX dX11_heart_160 rfl ?_ ?_
          · refine z_aload_n (pc := 169) hX dX11_heart_169 rfl 2 rfl ?_
            refine z_iload (pc := 170) hX dX11_heart_170 3 rfl ?_
            refine z_iload (pc := 172) hX dX11_heart_172 4 rfl ?_
            refine z_rV (run_V (pc := 174) (As := [.int v4_6, .int v5_7]) hX (rc_2 hv5) ⟨q_719, q_428, q_11⟩ q_426 q_427 hd_X3_feel ⟨Nat.le_of_ble_eq_true rfl, Nat.le_of_ble_eq_true rfl⟩ (c_He_feel hG s17 (6 * 0 + ix x1) v4_6 v5_7 hv5) rfl rfl (Nat.le_of_ble_eq_true rfl) dX11_heart_174) (fun s19 => ?_)
            refine z_iload (pc := 177) hX dX11_heart_177 6 rfl ?_
            exact z_retI (pc := 179) hX dX11_heart_179
          · refine z_iload (pc := 163) hX dX11_heart_163 6 rfl ?_
            refine z_iconst (pc := 165) hX dX11_heart_165 ic_4 ?_
            refine z_ior (pc := 166) hX dX11_heart_166 ?_
            refine z_lti (pc := 167) (fun v7_20 => ?_)
            refine z_istore (pc := 167) (ls' := [(7, .int v7_20), (0, .ref (ad G 0 0)), (1, .int x1), (3, .ref (ad G 2 (6 * 0 + ix x1))), (4, .int v4_6), (5, .int v5_7), (6, .int v6_8)]) hX dX11_heart_167 (by decide) rfl ?_
            refine z_aload_n (pc := 169) hX dX11_heart_169 rfl 3 rfl ?_
            refine z_iload (pc := 170) hX dX11_heart_170 4 rfl ?_
            refine z_iload (pc := 172) hX dX11_heart_172 5 rfl ?_
            refine z_rV (run_V (pc := 174) (As := [.int v4_6, .int v5_7]) hX (rc_2 hv5) ⟨q_719, q_428, q_11⟩ q_426 q_427 hd_X3_feel ⟨Nat.le_of_ble_eq_true rfl, Nat.le_of_ble_eq_true rfl⟩ (c_He_feel hG s17 (6 * 0 + ix x1) v4_6 v5_7 hv5) rfl rfl (Nat.le_of_ble_eq_true rfl) dX11_heart_174) (fun s21 => ?_)
            refine z_iload (pc := 177) hX dX11_heart_177 0 rfl ?_
            exact z_retI (pc := 179) hX dX11_heart_179
        · intro j16 hj16
          refine z_if_eq (pc := 121) (tgt := 130) hX dX11_heart_121 rfl ?_ ?_
          · exact z_ls [0, 1, 2, 3, 4, 5, 6] rfl (hj16 v7_11)
          · refine z_iload (pc := 124) hX dX11_heart_124 6 rfl ?_
            refine z_iconst (pc := 126) hX dX11_heart_126 ic_2 ?_
            refine z_ior (pc := 127) hX dX11_heart_127 ?_
            refine z_lti (pc := 128) (fun v7_22 => ?_)
            refine z_istore (pc := 128) (ls' := [(7, .int v7_22), (0, .ref (ad G 0 0)), (1, .int x1), (3, .ref (ad G 2 (6 * 0 + ix x1))), (4, .int v4_6), (5, .int v5_7), (6, .int v6_8)]) hX dX11_heart_128 (by decide) rfl ?_
            exact z_ls [1, 2, 3, 4, 5, 6, 0] rfl (hj16 v7_22)
      · intro j12 hj12
        refine z_if_eq (pc := 84) (tgt := 93) hX dX11_heart_84 rfl ?_ ?_
        · exact z_ls [5, 6, 4, 3, 2, 1, 0] rfl (hj12 (0 : Int32))
        · refine z_iload (pc := 87) hX dX11_heart_87 0 rfl ?_
          refine z_iconst (pc := 89) hX dX11_heart_89 ic_1 ?_
          refine z_ior (pc := 90) hX dX11_heart_90 ?_
          refine z_lti (pc := 91) (fun v7_23 => ?_)
          refine z_istore (pc := 91) (ls' := [(7, .int v7_23), (6, .int v6_8), (5, .int v5_7), (4, .int v4_6), (3, .ref (ad G 2 (6 * 0 + ix x1))), (0, .ref (ad G 0 0)), (1, .int x1), (2, .int x2)]) hX dX11_heart_91 (by decide) rfl ?_
          exact z_ls [5, 6, 4, 3, 2, 1, 0] rfl (hj12 v7_23)
    · refine z_aload_n (pc := 21) hX dX11_heart_21 rfl 0 rfl ?_
      refine z_rI (run_V (pc := 22) (As := []) hX rc_0 ⟨q_288, q_291, q_1⟩ q_290 qs_0 hd_X11_bad ⟨Nat.le_of_ble_eq_true rfl, Nat.le_of_ble_eq_true rfl⟩ (c_T_bad hG s) rfl rfl (Nat.le_of_ble_eq_true rfl) dX11_heart_22) (fun r24 s25 => ?_)
      exact z_retI (pc := 25) hX dX11_heart_25
theorem hd_X11_slips : yX11_slips.cls ≠ "java/lang/invoke/MethodHandle" ∧ yX11_slips.cls ≠ "java/lang/invoke/VarHandle" ∧ (parseMethodDescriptor yX11_slips.desc).map (fun d => d.parameters.length) = some 2 := by decide +kernel
def f_T_slips (s : Sto) (x1 : Int32) (x2 : Int32) : Option (Int32 × Sto) :=
  bP (f_T_outside x1 (0 : Int32) (7 : Int32)) (fun r1 => if r1 = (0 : Int32) then bP (f_T_outside x2 (0 : Int32) (10 : Int32)) (fun r4 => if r4 = (0 : Int32) then bP (f_Co_paired s 0 0) (fun r5 => if r5 = (0 : Int32) then bI (f_T_no s) (fun r12 s13 => some (r12, s13)) else bP (f_Co_liftersIn s 0 0 x1) (fun r6 => jn (fun t7 => jn (fun t9 => bV (f_T_setFraction s (t7 * t9) (100 : Int32)) (fun s11 => some ((1 : Int32), s11))) (fun j10 => if (r6 &&& (2 : Int32)) = (0 : Int32) then j10 x2 else j10 ((10 : Int32) - x2))) (fun j8 => if (r6 &&& (1 : Int32)) = (0 : Int32) then j8 x2 else j8 ((10 : Int32) - x2)))) else bI (f_T_bad s) (fun r14 s15 => some (r14, s15))) else bI (f_T_bad s) (fun r2 s3 => some (r2, s3)))
set_option maxRecDepth 100000 in
set_option maxHeartbeats 4000000 in
theorem c_T_slips {G : Gb} {l : Launch} {o : Sto} {L : Lng} (hG : GA G) (s : Sto) (x1 : Int32) (x2 : Int32)  : CT G l (EC o L) pvI psI yX11_slips cX11_slips 6 (some .int) 5 123 [.ref (ad G 0 0), .int x1, .int x2] s (f_T_slips s x1 x2) := by
  refine CT.of hG (by decide) (Nat.le_of_ble_eq_true rfl) (fun X hX => ?_)
  have hX : OX G X l cX11_slips 6 "CrownTwo" (some .int) 5 123 := hX
  show ZR G X (EC o L) pvI psI 6 s [(0, .ref (ad G 0 0)), (1, .int x1), (2, .int x2)] [] 0 _
  unfold f_T_slips
  refine z_iload_n (pc := 0) hX dX11_slips_0 rfl 1 rfl ?_
  refine z_iconst (pc := 1) hX dX11_slips_1 ic_0 ?_
  refine z_bipush (pc := 2) hX dX11_slips_2 bp_7 ?_
  refine z_rP (run_S (pc := 4) (As := [.int x1, .int (0 : Int32), .int (7 : Int32)]) hX ⟨q_285, q_287, q_1⟩ q_286 hd_X11_outside ⟨Nat.le_of_ble_eq_true rfl, Nat.le_of_ble_eq_true rfl⟩ (c_T_outside hG s x1 (0 : Int32) (7 : Int32)) rfl rfl (Nat.le_of_ble_eq_true rfl) dX11_slips_4) (fun r1 => ?_)
  refine z_if_ne (pc := 7) (tgt := 20) hX dX11_slips_7 rfl ?_ ?_
  · refine z_aload_n (pc := 20) hX dX11_slips_20 rfl 0 rfl ?_
    refine z_rI (run_V (pc := 21) (As := []) hX rc_0 ⟨q_288, q_291, q_1⟩ q_290 qs_0 hd_X11_bad ⟨Nat.le_of_ble_eq_true rfl, Nat.le_of_ble_eq_true rfl⟩ (c_T_bad hG s) rfl rfl (Nat.le_of_ble_eq_true rfl) dX11_slips_21) (fun r2 s3 => ?_)
    exact z_retI (pc := 24) hX dX11_slips_24
  · refine z_iload_n (pc := 10) hX dX11_slips_10 rfl 2 rfl ?_
    refine z_iconst (pc := 11) hX dX11_slips_11 ic_0 ?_
    refine z_bipush (pc := 12) hX dX11_slips_12 bp_10 ?_
    refine z_rP (run_S (pc := 14) (As := [.int x2, .int (0 : Int32), .int (10 : Int32)]) hX ⟨q_285, q_287, q_1⟩ q_286 hd_X11_outside ⟨Nat.le_of_ble_eq_true rfl, Nat.le_of_ble_eq_true rfl⟩ (c_T_outside hG s x2 (0 : Int32) (10 : Int32)) rfl rfl (Nat.le_of_ble_eq_true rfl) dX11_slips_14) (fun r4 => ?_)
    refine z_if_eq (pc := 17) (tgt := 25) hX dX11_slips_17 rfl ?_ ?_
    · refine z_aload_n (pc := 25) hX dX11_slips_25 rfl 0 rfl ?_
      refine gr_0_0C (pc := 26) hX q_235 dX11_slips_26 ?_
      refine z_aload_n (pc := 29) hX dX11_slips_29 rfl 0 rfl ?_
      refine gr_0_0C (pc := 30) hX q_235 dX11_slips_30 ?_
      refine gr_1_4C (pc := 33) hX v_1_0 q_208 dX11_slips_33 ?_
      refine z_rP (run_V (pc := 36) (As := [.ref (ad G 4 0)]) hX (rc_1 v_1_0) ⟨q_481, q_484, q_10⟩ q_482 q_483 hd_X0_paired ⟨Nat.le_of_ble_eq_true rfl, Nat.le_of_ble_eq_true rfl⟩ (c_Co_paired hG s 0 0 v_1_0 v_4_0) rfl rfl (Nat.le_of_ble_eq_true rfl) dX11_slips_36) (fun r5 => ?_)
      refine z_if_ne (pc := 39) (tgt := 47) hX dX11_slips_39 rfl ?_ ?_
      · refine z_aload_n (pc := 47) hX dX11_slips_47 rfl 0 rfl ?_
        refine gr_0_0C (pc := 48) hX q_235 dX11_slips_48 ?_
        refine z_aload_n (pc := 51) hX dX11_slips_51 rfl 0 rfl ?_
        refine gr_0_0C (pc := 52) hX q_235 dX11_slips_52 ?_
        refine gr_1_4C (pc := 55) hX v_1_0 q_208 dX11_slips_55 ?_
        refine z_iload_n (pc := 58) hX dX11_slips_58 rfl 1 rfl ?_
        refine z_rP (run_V (pc := 59) (As := [.ref (ad G 4 0), .int x1]) hX (rc_1 v_1_0) ⟨q_626, q_501, q_10⟩ q_499 q_500 hd_X0_liftersIn ⟨Nat.le_of_ble_eq_true rfl, Nat.le_of_ble_eq_true rfl⟩ (c_Co_liftersIn hG s 0 0 x1 v_1_0 v_4_0) rfl rfl (Nat.le_of_ble_eq_true rfl) dX11_slips_59) (fun r6 => ?_)
        refine z_istore_n (pc := 62) (ls' := [(3, .int r6), (0, .ref (ad G 0 0)), (1, .int x1), (2, .int x2)]) hX dX11_slips_62 rfl (by decide) rfl ?_
        refine z_iload_n (pc := 63) hX dX11_slips_63 rfl 0 rfl ?_
        refine z_iconst (pc := 64) hX dX11_slips_64 ic_1 ?_
        refine z_iand (pc := 65) hX dX11_slips_65 ?_
        refine z_jn (P := fun j8 => ∀ (t7 : Int32), ZR G X (EC o L) pvI psI 6 s [(0, .ref (ad G 0 0)), (2, .int x2), (3, .int r6)] [.int t7] 77 (j8 t7)) ?_ ?_
        · intro t7
          refine z_istore (pc := 77) (ls' := [(4, .int t7), (0, .ref (ad G 0 0)), (2, .int x2), (3, .int r6)]) hX dX11_slips_77 (by decide) rfl ?_
          refine z_iload_n (pc := 79) hX dX11_slips_79 rfl 3 rfl ?_
          refine z_iconst (pc := 80) hX dX11_slips_80 ic_2 ?_
          refine z_iand (pc := 81) hX dX11_slips_81 ?_
          refine z_jn (P := fun j10 => ∀ (t9 : Int32), ZR G X (EC o L) pvI psI 6 s [(0, .ref (ad G 0 0)), (4, .int t7)] [.int t9] 93 (j10 t9)) ?_ ?_
          · intro t9
            refine z_istore (pc := 93) (ls' := [(5, .int t9), (0, .ref (ad G 0 0)), (4, .int t7)]) hX dX11_slips_93 (by decide) rfl ?_
            refine z_aload_n (pc := 95) hX dX11_slips_95 rfl 1 rfl ?_
            refine z_iload (pc := 96) hX dX11_slips_96 2 rfl ?_
            refine z_iload (pc := 98) hX dX11_slips_98 0 rfl ?_
            refine z_imul (pc := 100) hX dX11_slips_100 ?_
            refine z_bipush (pc := 101) hX dX11_slips_101 bp_100 ?_
            refine z_rV (run_V (pc := 103) (As := [.int (t7 * t9), .int (100 : Int32)]) hX rc_0 ⟨q_748, q_751, q_1⟩ q_750 qs_21 hd_X11_setFraction ⟨Nat.le_of_ble_eq_true rfl, Nat.le_of_ble_eq_true rfl⟩ (c_T_setFraction hG s (t7 * t9) (100 : Int32)) rfl rfl (Nat.le_of_ble_eq_true rfl) dX11_slips_103) (fun s11 => ?_)
            refine z_iconst (pc := 106) hX dX11_slips_106 ic_1 ?_
            exact z_retI (pc := 107) hX dX11_slips_107
          · intro j10 hj10
            refine z_if_eq (pc := 82) (tgt := 92) hX dX11_slips_82 rfl ?_ ?_
            · refine z_iload_n (pc := 92) hX dX11_slips_92 rfl 2 rfl ?_
              exact z_ls [1, 0] rfl (hj10 x2)
            · refine z_bipush (pc := 85) hX dX11_slips_85 bp_10 ?_
              refine z_iload_n (pc := 87) hX dX11_slips_87 rfl 2 rfl ?_
              refine z_isub (pc := 88) hX dX11_slips_88 ?_
              refine z_goto (pc := 89) (tgt := 93) hX dX11_slips_89 rfl ?_
              exact z_ls [1, 0] rfl (hj10 ((10 : Int32) - x2))
        · intro j8 hj8
          refine z_if_eq (pc := 66) (tgt := 76) hX dX11_slips_66 rfl ?_ ?_
          · refine z_iload_n (pc := 76) hX dX11_slips_76 rfl 3 rfl ?_
            exact z_ls [1, 3, 0] rfl (hj8 x2)
          · refine z_bipush (pc := 69) hX dX11_slips_69 bp_10 ?_
            refine z_iload_n (pc := 71) hX dX11_slips_71 rfl 3 rfl ?_
            refine z_isub (pc := 72) hX dX11_slips_72 ?_
            refine z_goto (pc := 73) (tgt := 77) hX dX11_slips_73 rfl ?_
            exact z_ls [1, 3, 0] rfl (hj8 ((10 : Int32) - x2))
      · refine z_aload_n (pc := 42) hX dX11_slips_42 rfl 0 rfl ?_
        refine z_rI (run_V (pc := 43) (As := []) hX rc_0 ⟨q_490, q_493, q_1⟩ q_492 qs_13 hd_X11_no ⟨Nat.le_of_ble_eq_true rfl, Nat.le_of_ble_eq_true rfl⟩ (c_T_no hG s) rfl rfl (Nat.le_of_ble_eq_true rfl) dX11_slips_43) (fun r12 s13 => ?_)
        exact z_retI (pc := 46) hX dX11_slips_46
    · refine z_aload_n (pc := 20) hX dX11_slips_20 rfl 0 rfl ?_
      refine z_rI (run_V (pc := 21) (As := []) hX rc_0 ⟨q_288, q_291, q_1⟩ q_290 qs_0 hd_X11_bad ⟨Nat.le_of_ble_eq_true rfl, Nat.le_of_ble_eq_true rfl⟩ (c_T_bad hG s) rfl rfl (Nat.le_of_ble_eq_true rfl) dX11_slips_21) (fun r14 s15 => ?_)
      exact z_retI (pc := 24) hX dX11_slips_24
theorem hd_X11_count : yX11_count.cls ≠ "java/lang/invoke/MethodHandle" ∧ yX11_count.cls ≠ "java/lang/invoke/VarHandle" ∧ (parseMethodDescriptor yX11_count.desc).map (fun d => d.parameters.length) = some 1 := by decide +kernel
def f_T_count (s : Sto) (x1 : Int32) : Option (Int32 × Sto) :=
  bP (f_T_outside x1 (0 : Int32) (6 : Int32)) (fun r1 => if r1 = (0 : Int32) then bP (f_T_howMany s x1) (fun r2 => some (r2, s)) else bI (f_T_bad s) (fun r3 s4 => some (r3, s4)))
set_option maxRecDepth 100000 in
set_option maxHeartbeats 4000000 in
theorem c_T_count {G : Gb} {l : Launch} {o : Sto} {L : Lng} (hG : GA G) (s : Sto) (x1 : Int32)  : CT G l (EC o L) pvI psI yX11_count cX11_count 2 (some .int) 2 41 [.ref (ad G 0 0), .int x1] s (f_T_count s x1) := by
  refine CT.of hG (by decide) (Nat.le_of_ble_eq_true rfl) (fun X hX => ?_)
  have hX : OX G X l cX11_count 2 "CrownTwo" (some .int) 2 41 := hX
  show ZR G X (EC o L) pvI psI 2 s [(0, .ref (ad G 0 0)), (1, .int x1)] [] 0 _
  unfold f_T_count
  refine z_iload_n (pc := 0) hX dX11_count_0 rfl 1 rfl ?_
  refine z_iconst (pc := 1) hX dX11_count_1 ic_0 ?_
  refine z_bipush (pc := 2) hX dX11_count_2 bp_6 ?_
  refine z_rP (run_S (pc := 4) (As := [.int x1, .int (0 : Int32), .int (6 : Int32)]) hX ⟨q_285, q_287, q_1⟩ q_286 hd_X11_outside ⟨Nat.le_of_ble_eq_true rfl, Nat.le_of_ble_eq_true rfl⟩ (c_T_outside hG s x1 (0 : Int32) (6 : Int32)) rfl rfl (Nat.le_of_ble_eq_true rfl) dX11_count_4) (fun r1 => ?_)
  refine z_if_eq (pc := 7) (tgt := 15) hX dX11_count_7 rfl ?_ ?_
  · refine z_aload_n (pc := 15) hX dX11_count_15 rfl 0 rfl ?_
    refine z_iload_n (pc := 16) hX dX11_count_16 rfl 1 rfl ?_
    refine z_rP (run_V (pc := 17) (As := [.int x1]) hX rc_0 ⟨q_782, q_785, q_1⟩ q_784 qs_22 hd_X11_howMany ⟨Nat.le_of_ble_eq_true rfl, Nat.le_of_ble_eq_true rfl⟩ (c_T_howMany hG s x1) rfl rfl (Nat.le_of_ble_eq_true rfl) dX11_count_17) (fun r2 => ?_)
    exact z_retI (pc := 20) hX dX11_count_20
  · refine z_aload_n (pc := 10) hX dX11_count_10 rfl 0 rfl ?_
    refine z_rI (run_V (pc := 11) (As := []) hX rc_0 ⟨q_288, q_291, q_1⟩ q_290 qs_0 hd_X11_bad ⟨Nat.le_of_ble_eq_true rfl, Nat.le_of_ble_eq_true rfl⟩ (c_T_bad hG s) rfl rfl (Nat.le_of_ble_eq_true rfl) dX11_count_11) (fun r3 s4 => ?_)
    exact z_retI (pc := 14) hX dX11_count_14
theorem hd_X11_digest : yX11_digest.cls ≠ "java/lang/invoke/MethodHandle" ∧ yX11_digest.cls ≠ "java/lang/invoke/VarHandle" ∧ (parseMethodDescriptor yX11_digest.desc).map (fun d => d.parameters.length) = some 0 := by decide +kernel
def l_T_digest_120 (s : Sto) (K9 : Int64 → Option (Int64)) (rc13 : Int64 → Int32 → Option (Int64)) (v1_11 : Int64) (v3_12 : Int32) : Option (Int64) :=
  if (s 1 0 6) ≤ v3_12 then K9 v1_11 else if inb v3_12 6 then bL (f_No_addTo s (6 * 0 + ix v3_12) v1_11) (fun r15 => rc13 r15 (v3_12 + (1 : Int32))) else none
def l_T_digest_87 (s : Sto) (K7 : Int64 → Option (Int64)) (rc18 : Int64 → Int32 → Option (Int64)) (v1_16 : Int64) (v3_17 : Int32) : Option (Int64) :=
  if (s 1 0 5) ≤ v3_17 then K7 v1_16 else if inb v3_17 6 then bL (f_He_addTo s (6 * 0 + ix v3_17) v1_16) (fun r20 => rc18 r20 (v3_17 + (1 : Int32))) else none
def l_T_digest_6 (s : Sto) (K2 : Int64 → Option (Int64)) (rc23 : Int64 → Int32 → Option (Int64)) (v1_21 : Int64) (v3_22 : Int32) : Option (Int64) :=
  if (6 : Int32) < v3_22 then K2 v1_21 else bP (f_T_howMany s v3_22) (fun r24 => lt (((31 : Int64) * v1_21) + (Int32.toInt64 r24)) (fun v1_25 => rc23 v1_25 (v3_22 + (1 : Int32))))
def f_T_digest (s : Sto)  : Option (Int64) :=
  jn (fun v1_1 => lt (((31 : Int64) * v1_1) + (Int32.toInt64 (s 4 0 2))) (fun v1_3 => lt (((31 : Int64) * v1_3) + (Int32.toInt64 (s 4 0 3))) (fun v1_4 => lt (((31 : Int64) * v1_4) + (Int32.toInt64 (s 4 0 4))) (fun v1_5 => jn (fun v1_6 => jn (fun v1_8 => lt (((31 : Int64) * v1_8) + (Int32.toInt64 (s 0 0 10))) (fun v1_10 => some (((31 : Int64) * v1_10) + (Int32.toInt64 (s 0 0 11))))) (fun K9 => fx 1000 (l_T_digest_120 s K9) (fun _ _ => none) v1_6 (0 : Int32))) (fun K7 => fx 1000 (l_T_digest_87 s K7) (fun _ _ => none) v1_5 (0 : Int32)))))) (fun K2 => fx 1000 (l_T_digest_6 s K2) (fun _ _ => none) (1249 : Int64) (0 : Int32))
set_option maxRecDepth 100000 in
set_option maxHeartbeats 4000000 in
theorem c_T_digest {G : Gb} {l : Launch} {o : Sto} {L : Lng} (hG : GA G) (s : Sto)   : CT G l (EC o L) pvL (psP s) yX11_digest cX11_digest 4 (some .long) 2 41 [.ref (ad G 0 0)] s (f_T_digest s) := by
  refine CT.of hG (by decide) (Nat.le_of_ble_eq_true rfl) (fun X hX => ?_)
  have hX : OX G X l cX11_digest 4 "CrownTwo" (some .long) 2 41 := hX
  show ZR G X (EC o L) pvL (psP s) 4 s [(0, .ref (ad G 0 0))] [] 0 _
  unfold f_T_digest
  refine z_ldc2 (pc := 0) hX q_790 dX11_digest_0 ?_
  refine z_lstore_n (pc := 3) (ls' := [(1, .long (1249 : Int64)), (0, .ref (ad G 0 0))]) hX dX11_digest_3 rfl (by decide) rfl ?_
  refine z_iconst (pc := 4) hX dX11_digest_4 ic_0 ?_
  refine z_istore_n (pc := 5) (ls' := [(3, .int (0 : Int32)), (1, .long (1249 : Int64)), (0, .ref (ad G 0 0))]) hX dX11_digest_5 rfl (by decide) rfl ?_
  refine z_jn (P := fun K2 => ∀ (v1_1 : Int64), ZR G X (EC o L) pvL (psP s) 4 s [(0, .ref (ad G 0 0)), (1, .long v1_1)] [] 31 (K2 v1_1)) ?_ ?_
  · intro v1_1
    refine z_ldc2 (pc := 31) hX q_791 dX11_digest_31 ?_
    refine z_lload_n (pc := 34) hX dX11_digest_34 rfl 1 rfl ?_
    refine z_lmul (pc := 35) hX dX11_digest_35 ?_
    refine z_aload_n (pc := 36) hX dX11_digest_36 rfl 0 rfl ?_
    refine gr_0_0C (pc := 37) hX q_235 dX11_digest_37 ?_
    refine gr_1_4C (pc := 40) hX v_1_0 q_208 dX11_digest_40 ?_
    refine gf_4_2C (pc := 43) hX v_4_0 q_72 dX11_digest_43 ?_
    refine z_i2l (pc := 46) hX dX11_digest_46 ?_
    refine z_ladd (pc := 47) hX dX11_digest_47 ?_
    refine z_ltl (pc := 48) (fun v1_3 => ?_)
    refine z_lstore_n (pc := 48) (ls' := [(1, .long v1_3), (0, .ref (ad G 0 0))]) hX dX11_digest_48 rfl (by decide) rfl ?_
    refine z_ldc2 (pc := 49) hX q_791 dX11_digest_49 ?_
    refine z_lload_n (pc := 52) hX dX11_digest_52 rfl 0 rfl ?_
    refine z_lmul (pc := 53) hX dX11_digest_53 ?_
    refine z_aload_n (pc := 54) hX dX11_digest_54 rfl 1 rfl ?_
    refine gr_0_0C (pc := 55) hX q_235 dX11_digest_55 ?_
    refine gr_1_4C (pc := 58) hX v_1_0 q_208 dX11_digest_58 ?_
    refine gf_4_3C (pc := 61) hX v_4_0 q_75 dX11_digest_61 ?_
    refine z_i2l (pc := 64) hX dX11_digest_64 ?_
    refine z_ladd (pc := 65) hX dX11_digest_65 ?_
    refine z_ltl (pc := 66) (fun v1_4 => ?_)
    refine z_lstore_n (pc := 66) (ls' := [(1, .long v1_4), (0, .ref (ad G 0 0))]) hX dX11_digest_66 rfl (by decide) rfl ?_
    refine z_ldc2 (pc := 67) hX q_791 dX11_digest_67 ?_
    refine z_lload_n (pc := 70) hX dX11_digest_70 rfl 0 rfl ?_
    refine z_lmul (pc := 71) hX dX11_digest_71 ?_
    refine z_aload_n (pc := 72) hX dX11_digest_72 rfl 1 rfl ?_
    refine gr_0_0C (pc := 73) hX q_235 dX11_digest_73 ?_
    refine gr_1_4C (pc := 76) hX v_1_0 q_208 dX11_digest_76 ?_
    refine gf_4_4C (pc := 79) hX v_4_0 q_79 dX11_digest_79 ?_
    refine z_i2l (pc := 82) hX dX11_digest_82 ?_
    refine z_ladd (pc := 83) hX dX11_digest_83 ?_
    refine z_ltl (pc := 84) (fun v1_5 => ?_)
    refine z_lstore_n (pc := 84) (ls' := [(1, .long v1_5), (0, .ref (ad G 0 0))]) hX dX11_digest_84 rfl (by decide) rfl ?_
    refine z_iconst (pc := 85) hX dX11_digest_85 ic_0 ?_
    refine z_istore_n (pc := 86) (ls' := [(3, .int (0 : Int32)), (1, .long v1_5), (0, .ref (ad G 0 0))]) hX dX11_digest_86 rfl (by decide) rfl ?_
    refine z_jn (P := fun K7 => ∀ (v1_6 : Int64), ZR G X (EC o L) pvL (psP s) 4 s [(0, .ref (ad G 0 0)), (1, .long v1_6)] [] 118 (K7 v1_6)) ?_ ?_
    · intro v1_6
      refine z_iconst (pc := 118) hX dX11_digest_118 ic_0 ?_
      refine z_istore_n (pc := 119) (ls' := [(3, .int (0 : Int32)), (0, .ref (ad G 0 0)), (1, .long v1_6)]) hX dX11_digest_119 rfl (by decide) rfl ?_
      refine z_jn (P := fun K9 => ∀ (v1_8 : Int64), ZR G X (EC o L) pvL (psP s) 4 s [(0, .ref (ad G 0 0)), (1, .long v1_8)] [] 151 (K9 v1_8)) ?_ ?_
      · intro v1_8
        refine z_ldc2 (pc := 151) hX q_791 dX11_digest_151 ?_
        refine z_lload_n (pc := 154) hX dX11_digest_154 rfl 1 rfl ?_
        refine z_lmul (pc := 155) hX dX11_digest_155 ?_
        refine z_aload_n (pc := 156) hX dX11_digest_156 rfl 0 rfl ?_
        refine gf_0_10C (pc := 157) hX q_245 dX11_digest_157 ?_
        refine z_i2l (pc := 160) hX dX11_digest_160 ?_
        refine z_ladd (pc := 161) hX dX11_digest_161 ?_
        refine z_ltl (pc := 162) (fun v1_10 => ?_)
        refine z_lstore_n (pc := 162) (ls' := [(1, .long v1_10), (0, .ref (ad G 0 0))]) hX dX11_digest_162 rfl (by decide) rfl ?_
        refine z_ldc2 (pc := 163) hX q_791 dX11_digest_163 ?_
        refine z_lload_n (pc := 166) hX dX11_digest_166 rfl 0 rfl ?_
        refine z_lmul (pc := 167) hX dX11_digest_167 ?_
        refine z_aload_n (pc := 168) hX dX11_digest_168 rfl 1 rfl ?_
        refine gf_0_11C (pc := 169) hX q_246 dX11_digest_169 ?_
        refine z_i2l (pc := 172) hX dX11_digest_172 ?_
        refine z_ladd (pc := 173) hX dX11_digest_173 ?_
        exact z_retL (pc := 174) hX dX11_digest_174
      · intro K9 hK9
        refine z_ls [1, 2, 0] rfl ?_
        refine (fx_P (F := l_T_digest_120 s K9) (b := (fun _ _ => none)) (fun rc13 => ∀ (v1_11 : Int64) (v3_12 : Int32), ZR G X (EC o L) pvL (psP s) 4 s [(0, .ref (ad G 0 0)), (1, .long v1_11), (3, .int v3_12)] [] 120 (rc13 v1_11 v3_12)) ?_ ?_ 1000) v1_6 (0 : Int32)
        · intro v1_11 v3_12; exact z_none
        · intro rc13 hrc13 v1_11 v3_12
          unfold l_T_digest_120
          refine z_iload_n (pc := 120) hX dX11_digest_120 rfl 2 rfl ?_
          refine z_aload_n (pc := 121) hX dX11_digest_121 rfl 0 rfl ?_
          refine gr_0_0C (pc := 122) hX q_235 dX11_digest_122 ?_
          refine gf_1_6C (pc := 125) hX v_1_0 q_214 dX11_digest_125 ?_
          refine z_icmp_ge (pc := 128) (tgt := 151) hX dX11_digest_128 rfl ?_ ?_
          · exact z_ls [0, 1] rfl (hK9 v1_11)
          · refine z_aload_n (pc := 131) hX dX11_digest_131 rfl 0 rfl ?_
            refine gr_0_0C (pc := 132) hX q_235 dX11_digest_132 ?_
            refine gr_1_2C (pc := 135) hX v_1_0 q_205 dX11_digest_135 ?_
            refine z_iload_n (pc := 138) hX dX11_digest_138 rfl 2 rfl ?_
            refine aa_9C (pc := 139) hX v_9_0 dX11_digest_139 (fun hv14 => ?_)
            refine z_lload_n (pc := 140) hX dX11_digest_140 rfl 1 rfl ?_
            refine z_rL (run_V (pc := 141) (As := [.long v1_11]) hX (rc_3 hv14) ⟨q_797, q_800, q_12⟩ q_798 q_799 hd_X6_addTo ⟨Nat.le_of_ble_eq_true rfl, Nat.le_of_ble_eq_true rfl⟩ (c_No_addTo hG s (6 * 0 + ix v3_12) v1_11 hv14) rfl rfl (Nat.le_of_ble_eq_true rfl) dX11_digest_141) (fun r15 => ?_)
            refine z_lstore_n (pc := 144) (ls' := [(1, .long r15), (0, .ref (ad G 0 0)), (3, .int v3_12)]) hX dX11_digest_144 rfl (by decide) rfl ?_
            refine z_iinc (pc := 145) (n := 2) (v := v3_12 + (1 : Int32)) (ls' := [(3, .int (v3_12 + (1 : Int32))), (1, .long r15), (0, .ref (ad G 0 0))]) hX dX11_digest_145 rfl (by rw [show Int32.ofInt (1) = 1 by decide +kernel]) (by decide) rfl ?_
            refine z_goto (pc := 148) (tgt := 120) hX dX11_digest_148 rfl ?_
            exact z_ls [2, 1, 0] rfl (hrc13 r15 (v3_12 + (1 : Int32)))
    · intro K7 hK7
      refine z_ls [2, 1, 0] rfl ?_
      refine (fx_P (F := l_T_digest_87 s K7) (b := (fun _ _ => none)) (fun rc18 => ∀ (v1_16 : Int64) (v3_17 : Int32), ZR G X (EC o L) pvL (psP s) 4 s [(0, .ref (ad G 0 0)), (1, .long v1_16), (3, .int v3_17)] [] 87 (rc18 v1_16 v3_17)) ?_ ?_ 1000) v1_5 (0 : Int32)
      · intro v1_16 v3_17; exact z_none
      · intro rc18 hrc18 v1_16 v3_17
        unfold l_T_digest_87
        refine z_iload_n (pc := 87) hX dX11_digest_87 rfl 2 rfl ?_
        refine z_aload_n (pc := 88) hX dX11_digest_88 rfl 0 rfl ?_
        refine gr_0_0C (pc := 89) hX q_235 dX11_digest_89 ?_
        refine gf_1_5C (pc := 92) hX v_1_0 q_211 dX11_digest_92 ?_
        refine z_icmp_ge (pc := 95) (tgt := 118) hX dX11_digest_95 rfl ?_ ?_
        · exact z_ls [0, 1] rfl (hK7 v1_16)
        · refine z_aload_n (pc := 98) hX dX11_digest_98 rfl 0 rfl ?_
          refine gr_0_0C (pc := 99) hX q_235 dX11_digest_99 ?_
          refine gr_1_1C (pc := 102) hX v_1_0 q_203 dX11_digest_102 ?_
          refine z_iload_n (pc := 105) hX dX11_digest_105 rfl 2 rfl ?_
          refine aa_8C (pc := 106) hX v_8_0 dX11_digest_106 (fun hv19 => ?_)
          refine z_lload_n (pc := 107) hX dX11_digest_107 rfl 1 rfl ?_
          refine z_rL (run_V (pc := 108) (As := [.long v1_16]) hX (rc_2 hv19) ⟨q_792, q_795, q_11⟩ q_793 q_794 hd_X3_addTo ⟨Nat.le_of_ble_eq_true rfl, Nat.le_of_ble_eq_true rfl⟩ (c_He_addTo hG s (6 * 0 + ix v3_17) v1_16 hv19) rfl rfl (Nat.le_of_ble_eq_true rfl) dX11_digest_108) (fun r20 => ?_)
          refine z_lstore_n (pc := 111) (ls' := [(1, .long r20), (0, .ref (ad G 0 0)), (3, .int v3_17)]) hX dX11_digest_111 rfl (by decide) rfl ?_
          refine z_iinc (pc := 112) (n := 2) (v := v3_17 + (1 : Int32)) (ls' := [(3, .int (v3_17 + (1 : Int32))), (1, .long r20), (0, .ref (ad G 0 0))]) hX dX11_digest_112 rfl (by rw [show Int32.ofInt (1) = 1 by decide +kernel]) (by decide) rfl ?_
          refine z_goto (pc := 115) (tgt := 87) hX dX11_digest_115 rfl ?_
          exact z_ls [2, 1, 0] rfl (hrc18 r20 (v3_17 + (1 : Int32)))
  · intro K2 hK2
    refine z_ls [2, 1, 0] rfl ?_
    refine (fx_P (F := l_T_digest_6 s K2) (b := (fun _ _ => none)) (fun rc23 => ∀ (v1_21 : Int64) (v3_22 : Int32), ZR G X (EC o L) pvL (psP s) 4 s [(0, .ref (ad G 0 0)), (1, .long v1_21), (3, .int v3_22)] [] 6 (rc23 v1_21 v3_22)) ?_ ?_ 1000) (1249 : Int64) (0 : Int32)
    · intro v1_21 v3_22; exact z_none
    · intro rc23 hrc23 v1_21 v3_22
      unfold l_T_digest_6
      refine z_iload_n (pc := 6) hX dX11_digest_6 rfl 2 rfl ?_
      refine z_bipush (pc := 7) hX dX11_digest_7 bp_6 ?_
      refine z_icmp_gt (pc := 9) (tgt := 31) hX dX11_digest_9 rfl ?_ ?_
      · exact z_ls [0, 1] rfl (hK2 v1_21)
      · refine z_ldc2 (pc := 12) hX q_791 dX11_digest_12 ?_
        refine z_lload_n (pc := 15) hX dX11_digest_15 rfl 1 rfl ?_
        refine z_lmul (pc := 16) hX dX11_digest_16 ?_
        refine z_aload_n (pc := 17) hX dX11_digest_17 rfl 0 rfl ?_
        refine z_iload_n (pc := 18) hX dX11_digest_18 rfl 2 rfl ?_
        refine z_rP (run_V (pc := 19) (As := [.int v3_22]) hX rc_0 ⟨q_782, q_785, q_1⟩ q_784 qs_22 hd_X11_howMany ⟨Nat.le_of_ble_eq_true rfl, Nat.le_of_ble_eq_true rfl⟩ (c_T_howMany hG s v3_22) rfl rfl (Nat.le_of_ble_eq_true rfl) dX11_digest_19) (fun r24 => ?_)
        refine z_i2l (pc := 22) hX dX11_digest_22 ?_
        refine z_ladd (pc := 23) hX dX11_digest_23 ?_
        refine z_ltl (pc := 24) (fun v1_25 => ?_)
        refine z_lstore_n (pc := 24) (ls' := [(1, .long v1_25), (0, .ref (ad G 0 0)), (3, .int v3_22)]) hX dX11_digest_24 rfl (by decide) rfl ?_
        refine z_iinc (pc := 25) (n := 2) (v := v3_22 + (1 : Int32)) (ls' := [(3, .int (v3_22 + (1 : Int32))), (1, .long v1_25), (0, .ref (ad G 0 0))]) hX dX11_digest_25 rfl (by rw [show Int32.ofInt (1) = 1 by decide +kernel]) (by decide) rfl ?_
        refine z_goto (pc := 28) (tgt := 6) hX dX11_digest_28 rfl ?_
        exact z_ls [2, 1, 0] rfl (hrc23 v1_25 (v3_22 + (1 : Int32)))
theorem hd_X11_stuckPairs : yX11_stuckPairs.cls ≠ "java/lang/invoke/MethodHandle" ∧ yX11_stuckPairs.cls ≠ "java/lang/invoke/VarHandle" ∧ (parseMethodDescriptor yX11_stuckPairs.desc).map (fun d => d.parameters.length) = some 0 := by decide +kernel
def l_T_stuckPairs_33 (v2_4 : Int32) (K9 : Sto → Int32 → Option (Int32 × Sto)) (rc13 : Sto → Int32 → Int32 → Option (Int32 × Sto)) (s10 : Sto) (v1_11 : Int32) (v3_12 : Int32) : Option (Int32 × Sto) :=
  if (s10 1 0 5) ≤ v3_12 then K9 s10 v1_11 else lt (st s10 4 36 3 v2_4) (fun s14 => lt (st s14 4 36 4 v3_12) (fun s15 => bP (f_Co_actsOfBoth s15 0 36) (fun r16 => jn (fun v1_17 => rc13 s15 v1_17 (v3_12 + (1 : Int32))) (fun j18 => if r16 = (0 : Int32) then j18 (v1_11 + (1 : Int32)) else j18 v1_11))))
def l_T_stuckPairs_18  (rc5 : Sto → Int32 → Int32 → Option (Int32 × Sto)) (s2 : Sto) (v1_3 : Int32) (v2_4 : Int32) : Option (Int32 × Sto) :=
  if (s2 1 0 5) ≤ v2_4 then some (v1_3, s2) else lt (v2_4 + (1 : Int32)) (fun v3_6 => jn (fun s7 v1_8 => rc5 s7 v1_8 (v2_4 + (1 : Int32))) (fun K9 => fx 1000 (l_T_stuckPairs_33 v2_4 K9) (fun _ _ _ => none) s2 v1_3 v3_6))
def f_T_stuckPairs (s : Sto)  : Option (Int32 × Sto) :=
  bV (f_Mo_become s 36 0) (fun s1 => fx 1000 (l_T_stuckPairs_18) (fun _ _ _ => none) s1 (0 : Int32) (0 : Int32))
set_option maxRecDepth 100000 in
set_option maxHeartbeats 4000000 in
theorem c_T_stuckPairs {G : Gb} {l : Launch} {o : Sto} {L : Lng} (hG : GA G) (s : Sto)   : CT G l (EC o L) pvI psI yX11_stuckPairs cX11_stuckPairs 4 (some .int) 6 146 [.ref (ad G 0 0)] s (f_T_stuckPairs s) := by
  refine CT.of hG (by decide) (Nat.le_of_ble_eq_true rfl) (fun X hX => ?_)
  have hX : OX G X l cX11_stuckPairs 4 "CrownTwo" (some .int) 6 146 := hX
  show ZR G X (EC o L) pvI psI 4 s [(0, .ref (ad G 0 0))] [] 0 _
  unfold f_T_stuckPairs
  refine z_iconst (pc := 0) hX dX11_stuckPairs_0 ic_0 ?_
  refine z_istore_n (pc := 1) (ls' := [(1, .int (0 : Int32)), (0, .ref (ad G 0 0))]) hX dX11_stuckPairs_1 rfl (by decide) rfl ?_
  refine z_aload_n (pc := 2) hX dX11_stuckPairs_2 rfl 1 rfl ?_
  refine gr_0_5C (pc := 3) hX q_240 dX11_stuckPairs_3 ?_
  refine z_aload_n (pc := 6) hX dX11_stuckPairs_6 rfl 1 rfl ?_
  refine gr_0_0C (pc := 7) hX q_235 dX11_stuckPairs_7 ?_
  refine gr_1_4C (pc := 10) hX v_1_0 q_208 dX11_stuckPairs_10 ?_
  refine z_rV (run_V (pc := 13) (As := [.ref (ad G 4 0)]) hX (rc_4 v_4_36) ⟨q_631, q_442, q_3⟩ q_440 q_441 hd_X5_become ⟨Nat.le_of_ble_eq_true rfl, Nat.le_of_ble_eq_true rfl⟩ (c_Mo_become hG s 36 0 v_4_36 v_4_0) rfl rfl (Nat.le_of_ble_eq_true rfl) dX11_stuckPairs_13) (fun s1 => ?_)
  refine z_iconst (pc := 16) hX dX11_stuckPairs_16 ic_0 ?_
  refine z_istore_n (pc := 17) (ls' := [(2, .int (0 : Int32)), (1, .int (0 : Int32)), (0, .ref (ad G 0 0))]) hX dX11_stuckPairs_17 rfl (by decide) rfl ?_
  refine z_ls [2, 1, 0] rfl ?_
  refine (fx_P (F := l_T_stuckPairs_18) (b := (fun _ _ _ => none)) (fun rc5 => ∀ (s2 : Sto) (v1_3 : Int32) (v2_4 : Int32), ZR G X (EC o L) pvI psI 4 s2 [(0, .ref (ad G 0 0)), (1, .int v1_3), (2, .int v2_4)] [] 18 (rc5 s2 v1_3 v2_4)) ?_ ?_ 1000) s1 (0 : Int32) (0 : Int32)
  · intro s2 v1_3 v2_4; exact z_none
  · intro rc5 hrc5 s2 v1_3 v2_4
    unfold l_T_stuckPairs_18
    refine z_iload_n (pc := 18) hX dX11_stuckPairs_18 rfl 2 rfl ?_
    refine z_aload_n (pc := 19) hX dX11_stuckPairs_19 rfl 0 rfl ?_
    refine gr_0_0C (pc := 20) hX q_235 dX11_stuckPairs_20 ?_
    refine gf_1_5C (pc := 23) hX v_1_0 q_211 dX11_stuckPairs_23 ?_
    refine z_icmp_ge (pc := 26) (tgt := 89) hX dX11_stuckPairs_26 rfl ?_ ?_
    · refine z_iload_n (pc := 89) hX dX11_stuckPairs_89 rfl 1 rfl ?_
      exact z_retI (pc := 90) hX dX11_stuckPairs_90
    · refine z_iload_n (pc := 29) hX dX11_stuckPairs_29 rfl 2 rfl ?_
      refine z_iconst (pc := 30) hX dX11_stuckPairs_30 ic_1 ?_
      refine z_iadd (pc := 31) hX dX11_stuckPairs_31 ?_
      refine z_lti (pc := 32) (fun v3_6 => ?_)
      refine z_istore_n (pc := 32) (ls' := [(3, .int v3_6), (0, .ref (ad G 0 0)), (1, .int v1_3), (2, .int v2_4)]) hX dX11_stuckPairs_32 rfl (by decide) rfl ?_
      refine z_jn (P := fun K9 => ∀ (s7 : Sto) (v1_8 : Int32), ZR G X (EC o L) pvI psI 4 s7 [(0, .ref (ad G 0 0)), (1, .int v1_8), (2, .int v2_4)] [] 83 (K9 s7 v1_8)) ?_ ?_
      · intro s7 v1_8
        refine z_iinc (pc := 83) (n := 2) (v := v2_4 + (1 : Int32)) (ls' := [(2, .int (v2_4 + (1 : Int32))), (0, .ref (ad G 0 0)), (1, .int v1_8)]) hX dX11_stuckPairs_83 rfl (by rw [show Int32.ofInt (1) = 1 by decide +kernel]) (by decide) rfl ?_
        refine z_goto (pc := 86) (tgt := 18) hX dX11_stuckPairs_86 rfl ?_
        exact z_ls [1, 2, 0] rfl (hrc5 s7 v1_8 (v2_4 + (1 : Int32)))
      · intro K9 hK9
        refine z_ls [1, 2, 3, 0] rfl ?_
        refine (fx_P (F := l_T_stuckPairs_33 v2_4 K9) (b := (fun _ _ _ => none)) (fun rc13 => ∀ (s10 : Sto) (v1_11 : Int32) (v3_12 : Int32), ZR G X (EC o L) pvI psI 4 s10 [(0, .ref (ad G 0 0)), (1, .int v1_11), (2, .int v2_4), (3, .int v3_12)] [] 33 (rc13 s10 v1_11 v3_12)) ?_ ?_ 1000) s2 v1_3 v3_6
        · intro s10 v1_11 v3_12; exact z_none
        · intro rc13 hrc13 s10 v1_11 v3_12
          unfold l_T_stuckPairs_33
          refine z_iload_n (pc := 33) hX dX11_stuckPairs_33 rfl 3 rfl ?_
          refine z_aload_n (pc := 34) hX dX11_stuckPairs_34 rfl 0 rfl ?_
          refine gr_0_0C (pc := 35) hX q_235 dX11_stuckPairs_35 ?_
          refine gf_1_5C (pc := 38) hX v_1_0 q_211 dX11_stuckPairs_38 ?_
          refine z_icmp_ge (pc := 41) (tgt := 83) hX dX11_stuckPairs_41 rfl ?_ ?_
          · exact z_ls [0, 1, 2] rfl (hK9 s10 v1_11)
          · refine z_aload_n (pc := 44) hX dX11_stuckPairs_44 rfl 0 rfl ?_
            refine gr_0_5C (pc := 45) hX q_240 dX11_stuckPairs_45 ?_
            refine z_iload_n (pc := 48) hX dX11_stuckPairs_48 rfl 2 rfl ?_
            refine pf_4_3C (pc := 49) hX v_4_36 q_75 dX11_stuckPairs_49 ?_
            refine z_lts (fun s14 => ?_)
            refine z_aload_n (pc := 52) hX dX11_stuckPairs_52 rfl 0 rfl ?_
            refine gr_0_5C (pc := 53) hX q_240 dX11_stuckPairs_53 ?_
            refine z_iload_n (pc := 56) hX dX11_stuckPairs_56 rfl 3 rfl ?_
            refine pf_4_4C (pc := 57) hX v_4_36 q_79 dX11_stuckPairs_57 ?_
            refine z_lts (fun s15 => ?_)
            refine z_aload_n (pc := 60) hX dX11_stuckPairs_60 rfl 0 rfl ?_
            refine gr_0_0C (pc := 61) hX q_235 dX11_stuckPairs_61 ?_
            refine z_aload_n (pc := 64) hX dX11_stuckPairs_64 rfl 0 rfl ?_
            refine gr_0_5C (pc := 65) hX q_240 dX11_stuckPairs_65 ?_
            refine z_rP (run_V (pc := 68) (As := [.ref (ad G 4 36)]) hX (rc_1 v_1_0) ⟨q_632, q_635, q_10⟩ q_633 q_634 hd_X0_actsOfBoth ⟨Nat.le_of_ble_eq_true rfl, Nat.le_of_ble_eq_true rfl⟩ (c_Co_actsOfBoth hG s15 0 36 v_1_0 v_4_36) rfl rfl (Nat.le_of_ble_eq_true rfl) dX11_stuckPairs_68) (fun r16 => ?_)
            refine z_jn (P := fun j18 => ∀ (v1_17 : Int32), ZR G X (EC o L) pvI psI 4 s15 [(0, .ref (ad G 0 0)), (1, .int v1_17), (2, .int v2_4), (3, .int v3_12)] [] 77 (j18 v1_17)) ?_ ?_
            · intro v1_17
              refine z_iinc (pc := 77) (n := 3) (v := v3_12 + (1 : Int32)) (ls' := [(3, .int (v3_12 + (1 : Int32))), (0, .ref (ad G 0 0)), (1, .int v1_17), (2, .int v2_4)]) hX dX11_stuckPairs_77 rfl (by rw [show Int32.ofInt (1) = 1 by decide +kernel]) (by decide) rfl ?_
              refine z_goto (pc := 80) (tgt := 33) hX dX11_stuckPairs_80 rfl ?_
              exact z_ls [1, 2, 3, 0] rfl (hrc13 s15 v1_17 (v3_12 + (1 : Int32)))
            · intro j18 hj18
              refine z_if_ne (pc := 71) (tgt := 77) hX dX11_stuckPairs_71 rfl ?_ ?_
              · exact z_ls [0, 1, 2, 3] rfl (hj18 v1_11)
              · refine z_iinc (pc := 74) (n := 1) (v := v1_11 + (1 : Int32)) (ls' := [(1, .int (v1_11 + (1 : Int32))), (0, .ref (ad G 0 0)), (2, .int v2_4), (3, .int v3_12)]) hX dX11_stuckPairs_74 rfl (by rw [show Int32.ofInt (1) = 1 by decide +kernel]) (by decide) rfl ?_
                exact z_ls [1, 0, 2, 3] rfl (hj18 (v1_11 + (1 : Int32)))
theorem hd_X11_tryFrom : yX11_tryFrom.cls ≠ "java/lang/invoke/MethodHandle" ∧ yX11_tryFrom.cls ≠ "java/lang/invoke/VarHandle" ∧ (parseMethodDescriptor yX11_tryFrom.desc).map (fun d => d.parameters.length) = some 4 := by decide +kernel
def l_T_tryFrom_49 (x1 : Int32) (x2 : Int32) (x3 : Int32) (x4 : Int32) (rec : Sto → Int32 → Int32 → Int32 → Int32 → Option (Sto)) (rc7 : Sto → Int32 → Int32 → Option (Sto)) (s4 : Sto) (v5_5 : Int32) (v6_6 : Int32) : Option (Sto) :=
  if (8 : Int32) < v6_6 then some s4 else jn (fun s8 v5_9 => rc7 s8 v5_9 (v6_6 + (1 : Int32))) (fun j10 => jn (if inb (x1 + (1 : Int32)) 5 then if inb x1 5 then bV (f_Mo_become s4 (37 + ix (x1 + (1 : Int32))) (37 + ix x1)) (fun s14 => jn (fun s15 t16 => jn (fun t18 => if (v5_5 &&& t18) = (0 : Int32) then lt (v5_5 ||| t18) (fun v5_20 => if inb x1 4 then lt (st s15 14 0 (ix x1) v6_6) (fun s21 => bV (f_Mo_pass s21 (37 + ix (x1 + (1 : Int32))) (1 : Int32) x4) (fun s22 => jn (fun t23 => bV (rec s22 (x1 + (1 : Int32)) x2 t23 x4) (fun s25 => j10 s25 v5_20)) (fun j24 => if t16 = (3 : Int32) then j24 (x3 + (1 : Int32)) else j24 x3))) else none) else j10 s15 v5_5) (fun j19 => jn (j19 (0 : Int32)) (fun j26 => if t16 = (3 : Int32) then j26 else if v6_6 = (8 : Int32) then j26 else if t16 = (0 : Int32) then j19 (1 : Int32) else j19 (2 : Int32)))) (fun j17 => if (8 : Int32) ≤ v6_6 then j17 s14 (0 : Int32) else bI (f_Co_askIn s14 0 (37 + ix (x1 + (1 : Int32))) v6_6) (fun r27 s28 => j17 s28 r27))) else none else none) (fun j11 => if (8 : Int32) ≤ v6_6 then j11 else if inb x1 5 then bP (f_Mo_isDone s4 (37 + ix x1) v6_6) (fun r30 => if r30 = (0 : Int32) then j11 else j10 s4 v5_5) else none))
def f_T_tryFrom_b (rec : Sto → Int32 → Int32 → Int32 → Int32 → Option (Sto)) (s : Sto) (x1 : Int32) (x2 : Int32) (x3 : Int32) (x4 : Int32) : Option (Sto) :=
  if (s 0 0 9) < ((x3 + x2) - x1) then jn (lt (st s 0 0 9 x3) (fun s2 => lt (str s2 15 0 (va_cpy (s2 14 0) (s2 15 0) 0 0 4)) (fun s3 => some s3))) (fun j1 => if x2 ≤ x1 then j1 else if x1 < (4 : Int32) then fx 1000 (l_T_tryFrom_49 x1 x2 x3 x4 rec) (fun _ _ _ => none) s (0 : Int32) (0 : Int32) else j1) else some s
def f_T_tryFrom (n : Nat) : Sto → Int32 → Int32 → Int32 → Int32 → Option (Sto) := fx n f_T_tryFrom_b (fun _ _ _ _ _ => none)
set_option maxRecDepth 100000 in
set_option maxHeartbeats 4000000 in
theorem c_T_tryFrom {G : Gb} {l : Launch} {o : Sto} {L : Lng} (hG : GA G) : ∀ (n : Nat) (s : Sto) (x1 : Int32) (x2 : Int32) (x3 : Int32) (x4 : Int32) , CT G l (EC o L) pvV psV yX11_tryFrom cX11_tryFrom 10 none (6 + n) (146 + 29 * n) [.ref (ad G 0 0), .int x1, .int x2, .int x3, .int x4] s (f_T_tryFrom n s x1 x2 x3 x4) := by
  intro n
  induction n with
  | zero => intro s x1 x2 x3 x4 r hr; cases hr
  | succ n ih =>
    intro s x1 x2 x3 x4
    refine CT.of hG (by decide) (Nat.le_of_ble_eq_true rfl) (fun X hX => ?_)
    have hX : OX G X l cX11_tryFrom 10 "CrownTwo" none (6 + (n + 1)) (146 + 29 * (n + 1)) := hX
    show ZR G X (EC o L) pvV psV 10 s [(0, .ref (ad G 0 0)), (1, .int x1), (2, .int x2), (3, .int x3), (4, .int x4)] [] 0 (f_T_tryFrom_b (f_T_tryFrom n) s x1 x2 x3 x4)
    unfold f_T_tryFrom_b
    generalize hrec : f_T_tryFrom n = rec at ih ⊢
    refine z_iload_n (pc := 0) hX dX11_tryFrom_0 rfl 3 rfl ?_
    refine z_iload_n (pc := 1) hX dX11_tryFrom_1 rfl 2 rfl ?_
    refine z_iadd (pc := 2) hX dX11_tryFrom_2 ?_
    refine z_iload_n (pc := 3) hX dX11_tryFrom_3 rfl 1 rfl ?_
    refine z_isub (pc := 4) hX dX11_tryFrom_4 ?_
    refine z_aload_n (pc := 5) hX dX11_tryFrom_5 rfl 0 rfl ?_
    refine gf_0_9C (pc := 6) hX q_244 dX11_tryFrom_6 ?_
    refine z_icmp_gt (pc := 9) (tgt := 13) hX dX11_tryFrom_9 rfl ?_ ?_
    · refine z_iload_n (pc := 13) hX dX11_tryFrom_13 rfl 1 rfl ?_
      refine z_iload_n (pc := 14) hX dX11_tryFrom_14 rfl 2 rfl ?_
      refine z_jn (P := fun j1 => ZR G X (EC o L) pvV psV 10 s [(0, .ref (ad G 0 0)), (3, .int x3)] [] 23 (j1)) ?_ ?_
      · skip
        refine z_aload_n (pc := 23) hX dX11_tryFrom_23 rfl 0 rfl ?_
        refine z_iload_n (pc := 24) hX dX11_tryFrom_24 rfl 1 rfl ?_
        refine pf_0_9C (pc := 25) hX q_244 dX11_tryFrom_25 ?_
        refine z_lts (fun s2 => ?_)
        refine z_aload_n (pc := 28) hX dX11_tryFrom_28 rfl 0 rfl ?_
        refine gr_0_7C (pc := 29) hX q_242 dX11_tryFrom_29 ?_
        refine z_iconst (pc := 32) hX dX11_tryFrom_32 ic_0 ?_
        refine z_aload_n (pc := 33) hX dX11_tryFrom_33 rfl 0 rfl ?_
        refine gr_0_8C (pc := 34) hX q_243 dX11_tryFrom_34 ?_
        refine z_iconst (pc := 37) hX dX11_tryFrom_37 ic_0 ?_
        refine z_iconst (pc := 38) hX dX11_tryFrom_38 ic_4 ?_
        refine z_copy (pc := 39) hX q_661 q_663 q_662 q_19 (by omega) (Nat.le_trans (Nat.le_of_ble_eq_true (m := 100) rfl) (by omega)) dX11_tryFrom_39 ?_
        refine z_lts (fun s3 => ?_)
        exact z_retV (pc := 42) hX dX11_tryFrom_42
      · intro j1 hj1
        refine z_icmp_ge (pc := 15) (tgt := 23) hX dX11_tryFrom_15 rfl ?_ ?_
        · exact z_ls [0, 3] rfl (hj1)
        · refine z_iload_n (pc := 18) hX dX11_tryFrom_18 rfl 1 rfl ?_
          refine z_iconst (pc := 19) hX dX11_tryFrom_19 ic_4 ?_
          refine z_icmp_lt (pc := 20) (tgt := 43) hX dX11_tryFrom_20 rfl ?_ ?_
          · refine z_iconst (pc := 43) hX dX11_tryFrom_43 ic_0 ?_
            refine z_istore (pc := 44) (ls' := [(5, .int (0 : Int32)), (0, .ref (ad G 0 0)), (1, .int x1), (2, .int x2), (3, .int x3), (4, .int x4)]) hX dX11_tryFrom_44 (by decide) rfl ?_
            refine z_iconst (pc := 46) hX dX11_tryFrom_46 ic_0 ?_
            refine z_istore (pc := 47) (ls' := [(6, .int (0 : Int32)), (5, .int (0 : Int32)), (0, .ref (ad G 0 0)), (1, .int x1), (2, .int x2), (3, .int x3), (4, .int x4)]) hX dX11_tryFrom_47 (by decide) rfl ?_
            refine z_ls [2, 3, 4, 5, 6, 1, 0] rfl ?_
            refine (fx_P (F := l_T_tryFrom_49 x1 x2 x3 x4 rec) (b := (fun _ _ _ => none)) (fun rc7 => ∀ (s4 : Sto) (v5_5 : Int32) (v6_6 : Int32), ZR G X (EC o L) pvV psV 10 s4 [(0, .ref (ad G 0 0)), (1, .int x1), (2, .int x2), (3, .int x3), (4, .int x4), (5, .int v5_5), (6, .int v6_6)] [] 49 (rc7 s4 v5_5 v6_6)) ?_ ?_ 1000) s (0 : Int32) (0 : Int32)
            · intro s4 v5_5 v6_6; exact z_none
            · intro rc7 hrc7 s4 v5_5 v6_6
              unfold l_T_tryFrom_49
              refine z_iload (pc := 49) hX dX11_tryFrom_49 6 rfl ?_
              refine z_bipush (pc := 51) hX dX11_tryFrom_51 bp_8 ?_
              refine z_icmp_gt (pc := 53) (tgt := 217) hX dX11_tryFrom_53 rfl ?_ ?_
              · exact z_retV (pc := 217) hX dX11_tryFrom_217
              · refine z_iload (pc := 56) hX dX11_tryFrom_56 6 rfl ?_
                refine z_bipush (pc := 58) hX dX11_tryFrom_58 bp_8 ?_
                refine z_jn (P := fun j10 => ∀ (s8 : Sto) (v5_9 : Int32), ZR G X (EC o L) pvV psV 10 s8 [(0, .ref (ad G 0 0)), (1, .int x1), (2, .int x2), (3, .int x3), (4, .int x4), (5, .int v5_9), (6, .int v6_6)] [] 211 (j10 s8 v5_9)) ?_ ?_
                · intro s8 v5_9
                  refine z_iinc (pc := 211) (n := 6) (v := v6_6 + (1 : Int32)) (ls' := [(6, .int (v6_6 + (1 : Int32))), (0, .ref (ad G 0 0)), (1, .int x1), (2, .int x2), (3, .int x3), (4, .int x4), (5, .int v5_9)]) hX dX11_tryFrom_211 rfl (by rw [show Int32.ofInt (1) = 1 by decide +kernel]) (by decide) rfl ?_
                  refine z_goto (pc := 214) (tgt := 49) hX dX11_tryFrom_214 rfl ?_
                  exact z_ls [1, 2, 3, 4, 5, 6, 0] rfl (hrc7 s8 v5_9 (v6_6 + (1 : Int32)))
                · intro j10 hj10
                  refine z_jn (P := fun j11 => ZR G X (EC o L) pvV psV 10 s4 [(0, .ref (ad G 0 0)), (1, .int x1), (2, .int x2), (3, .int x3), (4, .int x4), (5, .int v5_5), (6, .int v6_6)] [] 80 (j11)) ?_ ?_
                  · skip
                    refine z_aload_n (pc := 80) hX dX11_tryFrom_80 rfl 0 rfl ?_
                    refine gr_0_6C (pc := 81) hX q_241 dX11_tryFrom_81 ?_
                    refine z_iload_n (pc := 84) hX dX11_tryFrom_84 rfl 1 rfl ?_
                    refine z_iconst (pc := 85) hX dX11_tryFrom_85 ic_1 ?_
                    refine z_iadd (pc := 86) hX dX11_tryFrom_86 ?_
                    refine aa_13C (pc := 87) hX dX11_tryFrom_87 (fun hv12 => ?_)
                    refine z_astore (pc := 88) (ls' := [(7, .ref (ad G 4 (37 + ix (x1 + (1 : Int32))))), (0, .ref (ad G 0 0)), (1, .int x1), (2, .int x2), (3, .int x3), (4, .int x4), (5, .int v5_5), (6, .int v6_6)]) hX dX11_tryFrom_88 (by decide) rfl ?_
                    refine z_aload (pc := 90) hX dX11_tryFrom_90 0 rfl ?_
                    refine z_aload_n (pc := 92) hX dX11_tryFrom_92 rfl 1 rfl ?_
                    refine gr_0_6C (pc := 93) hX q_241 dX11_tryFrom_93 ?_
                    refine z_iload_n (pc := 96) hX dX11_tryFrom_96 rfl 2 rfl ?_
                    refine aa_13C (pc := 97) hX dX11_tryFrom_97 (fun hv13 => ?_)
                    refine z_rV (run_V (pc := 98) (As := [.ref (ad G 4 (37 + ix x1))]) hX (rc_4 hv12) ⟨q_631, q_442, q_3⟩ q_440 q_441 hd_X5_become ⟨by omega, by omega⟩ (c_Mo_become hG s4 (37 + ix (x1 + (1 : Int32))) (37 + ix x1) hv12 hv13) rfl rfl (Nat.le_of_ble_eq_true rfl) dX11_tryFrom_98) (fun s14 => ?_)
                    refine z_iload (pc := 101) hX dX11_tryFrom_101 7 rfl ?_
                    refine z_bipush (pc := 103) hX dX11_tryFrom_103 bp_8 ?_
                    refine z_jn (P := fun j17 => ∀ (s15 : Sto) (t16 : Int32), ZR G X (EC o L) pvV psV 10 s15 [(0, .ref (ad G 0 0)), (1, .int x1), (2, .int x2), (3, .int x3), (4, .int x4), (5, .int v5_5), (6, .int v6_6), (7, .ref (ad G 4 (37 + ix (x1 + (1 : Int32)))))] [.int t16] 123 (j17 s15 t16)) ?_ ?_
                    · intro s15 t16
                      refine z_istore (pc := 123) (ls' := [(8, .int t16), (0, .ref (ad G 0 0)), (1, .int x1), (2, .int x2), (3, .int x3), (4, .int x4), (5, .int v5_5), (6, .int v6_6), (7, .ref (ad G 4 (37 + ix (x1 + (1 : Int32)))))]) hX dX11_tryFrom_123 (by decide) rfl ?_
                      refine z_iload (pc := 125) hX dX11_tryFrom_125 0 rfl ?_
                      refine z_iconst (pc := 127) hX dX11_tryFrom_127 ic_3 ?_
                      refine z_jn (P := fun j19 => ∀ (t18 : Int32), ZR G X (EC o L) pvV psV 10 s15 [(0, .ref (ad G 0 0)), (1, .int x1), (2, .int x2), (3, .int x3), (4, .int x4), (5, .int v5_5), (6, .int v6_6), (7, .ref (ad G 4 (37 + ix (x1 + (1 : Int32))))), (8, .int t16)] [.int t18] 152 (j19 t18)) ?_ ?_
                      · intro t18
                        refine z_istore (pc := 152) (ls' := [(9, .int t18), (0, .ref (ad G 0 0)), (1, .int x1), (2, .int x2), (3, .int x3), (4, .int x4), (5, .int v5_5), (6, .int v6_6), (7, .ref (ad G 4 (37 + ix (x1 + (1 : Int32))))), (8, .int t16)]) hX dX11_tryFrom_152 (by decide) rfl ?_
                        refine z_iload (pc := 154) hX dX11_tryFrom_154 6 rfl ?_
                        refine z_iload (pc := 156) hX dX11_tryFrom_156 0 rfl ?_
                        refine z_iand (pc := 158) hX dX11_tryFrom_158 ?_
                        refine z_if_eq (pc := 159) (tgt := 165) hX dX11_tryFrom_159 rfl ?_ ?_
                        · refine z_iload (pc := 165) hX dX11_tryFrom_165 6 rfl ?_
                          refine z_iload (pc := 167) hX dX11_tryFrom_167 0 rfl ?_
                          refine z_ior (pc := 169) hX dX11_tryFrom_169 ?_
                          refine z_lti (pc := 170) (fun v5_20 => ?_)
                          refine z_istore (pc := 170) (ls' := [(5, .int v5_20), (9, .int t18), (0, .ref (ad G 0 0)), (1, .int x1), (2, .int x2), (3, .int x3), (4, .int x4), (6, .int v6_6), (7, .ref (ad G 4 (37 + ix (x1 + (1 : Int32))))), (8, .int t16)]) hX dX11_tryFrom_170 (by decide) rfl ?_
                          refine z_aload_n (pc := 172) hX dX11_tryFrom_172 rfl 2 rfl ?_
                          refine gr_0_7C (pc := 173) hX q_242 dX11_tryFrom_173 ?_
                          refine z_iload_n (pc := 176) hX dX11_tryFrom_176 rfl 3 rfl ?_
                          refine z_iload (pc := 177) hX dX11_tryFrom_177 7 rfl ?_
                          refine is_14C (pc := 179) hX dX11_tryFrom_179 ?_
                          refine z_lts (fun s21 => ?_)
                          refine z_aload (pc := 180) hX dX11_tryFrom_180 8 rfl ?_
                          refine z_iconst (pc := 182) hX dX11_tryFrom_182 ic_1 ?_
                          refine z_iload (pc := 183) hX dX11_tryFrom_183 6 rfl ?_
                          refine z_rV (run_V (pc := 185) (As := [.int (1 : Int32), .int x4]) hX (rc_4 hv12) ⟨q_664, q_593, q_3⟩ q_591 q_592 hd_X5_pass ⟨by omega, by omega⟩ (c_Mo_pass hG s21 (37 + ix (x1 + (1 : Int32))) (1 : Int32) x4 hv12) rfl rfl (Nat.le_of_ble_eq_true rfl) dX11_tryFrom_185) (fun s22 => ?_)
                          refine z_aload_n (pc := 188) hX dX11_tryFrom_188 rfl 2 rfl ?_
                          refine z_iload_n (pc := 189) hX dX11_tryFrom_189 rfl 3 rfl ?_
                          refine z_iconst (pc := 190) hX dX11_tryFrom_190 ic_1 ?_
                          refine z_iadd (pc := 191) hX dX11_tryFrom_191 ?_
                          refine z_iload_n (pc := 192) hX dX11_tryFrom_192 rfl 4 rfl ?_
                          refine z_iload (pc := 193) hX dX11_tryFrom_193 9 rfl ?_
                          refine z_iconst (pc := 195) hX dX11_tryFrom_195 ic_3 ?_
                          refine z_jn (P := fun j24 => ∀ (t23 : Int32), ZR G X (EC o L) pvV psV 10 s22 [(0, .ref (ad G 0 0)), (1, .int x1), (2, .int x2), (3, .int x3), (4, .int x4), (5, .int v5_20), (6, .int v6_6)] [.int t23, .int x2, .int (x1 + (1 : Int32)), .ref (ad G 0 0)] 206 (j24 t23)) ?_ ?_
                          · intro t23
                            refine z_iload (pc := 206) hX dX11_tryFrom_206 4 rfl ?_
                            refine z_rV (run_V (pc := 208) (As := [.int (x1 + (1 : Int32)), .int x2, .int t23, .int x4]) hX rc_0 ⟨q_657, q_660, q_1⟩ q_659 qs_15 hd_X11_tryFrom ⟨by omega, by omega⟩ (ih s22 (x1 + (1 : Int32)) x2 t23 x4) rfl rfl (Nat.le_of_ble_eq_true rfl) dX11_tryFrom_208) (fun s25 => ?_)
                            exact z_ls [0, 1, 2, 3, 4, 5, 6] rfl (hj10 s25 v5_20)
                          · intro j24 hj24
                            refine z_icmp_ne (pc := 196) (tgt := 205) hX dX11_tryFrom_196 rfl ?_ ?_
                            · refine z_iload_n (pc := 205) hX dX11_tryFrom_205 rfl 5 rfl ?_
                              exact z_ls [2, 3, 4, 5, 6, 0, 7] rfl (hj24 x3)
                            · refine z_iload_n (pc := 199) hX dX11_tryFrom_199 rfl 5 rfl ?_
                              refine z_iconst (pc := 200) hX dX11_tryFrom_200 ic_1 ?_
                              refine z_iadd (pc := 201) hX dX11_tryFrom_201 ?_
                              refine z_goto (pc := 202) (tgt := 206) hX dX11_tryFrom_202 rfl ?_
                              exact z_ls [2, 3, 4, 5, 6, 0, 7] rfl (hj24 (x3 + (1 : Int32)))
                        · refine z_goto (pc := 162) (tgt := 211) hX dX11_tryFrom_162 rfl ?_
                          exact z_ls [1, 2, 3, 4, 5, 6, 7] rfl (hj10 s15 v5_5)
                      · intro j19 hj19
                        refine z_jn (P := fun j26 => ZR G X (EC o L) pvV psV 10 s15 [(0, .ref (ad G 0 0)), (1, .int x1), (2, .int x2), (3, .int x3), (4, .int x4), (5, .int v5_5), (6, .int v6_6), (7, .ref (ad G 4 (37 + ix (x1 + (1 : Int32))))), (8, .int t16)] [] 138 (j26)) ?_ ?_
                        · skip
                          refine z_iconst (pc := 138) hX dX11_tryFrom_138 ic_0 ?_
                          refine z_goto (pc := 139) (tgt := 152) hX dX11_tryFrom_139 rfl ?_
                          exact z_ls [0, 1, 2, 3, 4, 5, 6, 7, 8] rfl (hj19 (0 : Int32))
                        · intro j26 hj26
                          refine z_icmp_eq (pc := 128) (tgt := 138) hX dX11_tryFrom_128 rfl ?_ ?_
                          · exact z_ls [1, 2, 3, 4, 5, 6, 7, 8, 0] rfl (hj26)
                          · refine z_iload (pc := 131) hX dX11_tryFrom_131 7 rfl ?_
                            refine z_bipush (pc := 133) hX dX11_tryFrom_133 bp_8 ?_
                            refine z_icmp_ne (pc := 135) (tgt := 142) hX dX11_tryFrom_135 rfl ?_ ?_
                            · refine z_iload (pc := 142) hX dX11_tryFrom_142 0 rfl ?_
                              refine z_if_ne (pc := 144) (tgt := 151) hX dX11_tryFrom_144 rfl ?_ ?_
                              · refine z_iconst (pc := 151) hX dX11_tryFrom_151 ic_2 ?_
                                exact z_ls [1, 2, 3, 4, 5, 6, 7, 8, 0] rfl (hj19 (2 : Int32))
                              · refine z_iconst (pc := 147) hX dX11_tryFrom_147 ic_1 ?_
                                refine z_goto (pc := 148) (tgt := 152) hX dX11_tryFrom_148 rfl ?_
                                exact z_ls [1, 2, 3, 4, 5, 6, 7, 8, 0] rfl (hj19 (1 : Int32))
                            · exact z_ls [1, 2, 3, 4, 5, 6, 7, 8, 0] rfl (hj26)
                    · intro j17 hj17
                      refine z_icmp_ge (pc := 105) (tgt := 122) hX dX11_tryFrom_105 rfl ?_ ?_
                      · refine z_iconst (pc := 122) hX dX11_tryFrom_122 ic_0 ?_
                        exact z_ls [1, 2, 3, 4, 5, 6, 7, 0] rfl (hj17 s14 (0 : Int32))
                      · refine z_aload_n (pc := 108) hX dX11_tryFrom_108 rfl 1 rfl ?_
                        refine gr_0_0C (pc := 109) hX q_235 dX11_tryFrom_109 ?_
                        refine z_aload (pc := 112) hX dX11_tryFrom_112 0 rfl ?_
                        refine z_iload (pc := 114) hX dX11_tryFrom_114 7 rfl ?_
                        refine z_rI (run_V (pc := 116) (As := [.ref (ad G 4 (37 + ix (x1 + (1 : Int32)))), .int v6_6]) hX (rc_1 v_1_0) ⟨q_494, q_497, q_10⟩ q_495 q_496 hd_X0_askIn ⟨by omega, by omega⟩ (c_Co_askIn hG s14 0 (37 + ix (x1 + (1 : Int32))) v6_6 v_1_0 hv12) rfl rfl (Nat.le_of_ble_eq_true rfl) dX11_tryFrom_116) (fun r27 s28 => ?_)
                        refine z_goto (pc := 119) (tgt := 123) hX dX11_tryFrom_119 rfl ?_
                        exact z_ls [1, 2, 3, 4, 5, 6, 7, 0] rfl (hj17 s28 r27)
                  · intro j11 hj11
                    refine z_icmp_ge (pc := 60) (tgt := 80) hX dX11_tryFrom_60 rfl ?_ ?_
                    · exact z_ls [0, 1, 2, 3, 4, 5, 6] rfl (hj11)
                    · refine z_aload_n (pc := 63) hX dX11_tryFrom_63 rfl 0 rfl ?_
                      refine gr_0_6C (pc := 64) hX q_241 dX11_tryFrom_64 ?_
                      refine z_iload_n (pc := 67) hX dX11_tryFrom_67 rfl 1 rfl ?_
                      refine aa_13C (pc := 68) hX dX11_tryFrom_68 (fun hv29 => ?_)
                      refine z_iload (pc := 69) hX dX11_tryFrom_69 6 rfl ?_
                      refine z_rP (run_V (pc := 71) (As := [.int v6_6]) hX (rc_4 hv29) ⟨q_486, q_489, q_3⟩ q_487 q_488 hd_X5_isDone ⟨by omega, by omega⟩ (c_Mo_isDone hG s4 (37 + ix x1) v6_6 hv29) rfl rfl (Nat.le_of_ble_eq_true rfl) dX11_tryFrom_71) (fun r30 => ?_)
                      refine z_if_eq (pc := 74) (tgt := 80) hX dX11_tryFrom_74 rfl ?_ ?_
                      · exact z_ls [0, 1, 2, 3, 4, 5, 6] rfl (hj11)
                      · refine z_goto (pc := 77) (tgt := 211) hX dX11_tryFrom_77 rfl ?_
                        exact z_ls [0, 1, 2, 3, 4, 5, 6] rfl (hj10 s4 v5_5)
          · exact z_ls [0, 3] rfl (hj1)
    · exact z_retV (pc := 12) hX dX11_tryFrom_12
theorem hd_X11_kindsThatFit : yX11_kindsThatFit.cls ≠ "java/lang/invoke/MethodHandle" ∧ yX11_kindsThatFit.cls ≠ "java/lang/invoke/VarHandle" ∧ (parseMethodDescriptor yX11_kindsThatFit.desc).map (fun d => d.parameters.length) = some 1 := by decide +kernel
def l_T_kindsThatFit_4 (s : Sto) (x1 : Int32) (rc3 : Int32 → Int32 → Option (Int32)) (v2_1 : Int32) (v3_2 : Int32) : Option (Int32) :=
  if (6 : Int32) ≤ v3_2 then some v2_1 else bP (f_Co_fits s 0 x1 v3_2) (fun r4 => jn (fun v2_5 => rc3 v2_5 (v3_2 + (1 : Int32))) (fun j6 => if r4 = (0 : Int32) then j6 v2_1 else lt (v2_1 ||| ((1 : Int32) <<< (v3_2 &&& 31))) (fun v2_7 => j6 v2_7)))
def f_T_kindsThatFit (s : Sto) (x1 : Int32) : Option (Int32) :=
  fx 1000 (l_T_kindsThatFit_4 s x1) (fun _ _ => none) (0 : Int32) (0 : Int32)
set_option maxRecDepth 100000 in
set_option maxHeartbeats 4000000 in
theorem c_T_kindsThatFit {G : Gb} {l : Launch} {o : Sto} {L : Lng} (hG : GA G) (s : Sto) (x1 : Int32)  : CT G l (EC o L) pvP (psP s) yX11_kindsThatFit cX11_kindsThatFit 4 (some .int) 5 123 [.ref (ad G 0 0), .int x1] s (f_T_kindsThatFit s x1) := by
  refine CT.of hG (by decide) (Nat.le_of_ble_eq_true rfl) (fun X hX => ?_)
  have hX : OX G X l cX11_kindsThatFit 4 "CrownTwo" (some .int) 5 123 := hX
  show ZR G X (EC o L) pvP (psP s) 4 s [(0, .ref (ad G 0 0)), (1, .int x1)] [] 0 _
  unfold f_T_kindsThatFit
  refine z_iconst (pc := 0) hX dX11_kindsThatFit_0 ic_0 ?_
  refine z_istore_n (pc := 1) (ls' := [(2, .int (0 : Int32)), (0, .ref (ad G 0 0)), (1, .int x1)]) hX dX11_kindsThatFit_1 rfl (by decide) rfl ?_
  refine z_iconst (pc := 2) hX dX11_kindsThatFit_2 ic_0 ?_
  refine z_istore_n (pc := 3) (ls' := [(3, .int (0 : Int32)), (2, .int (0 : Int32)), (0, .ref (ad G 0 0)), (1, .int x1)]) hX dX11_kindsThatFit_3 rfl (by decide) rfl ?_
  refine z_ls [2, 3, 1, 0] rfl ?_
  refine (fx_P (F := l_T_kindsThatFit_4 s x1) (b := (fun _ _ => none)) (fun rc3 => ∀ (v2_1 : Int32) (v3_2 : Int32), ZR G X (EC o L) pvP (psP s) 4 s [(0, .ref (ad G 0 0)), (1, .int x1), (2, .int v2_1), (3, .int v3_2)] [] 4 (rc3 v2_1 v3_2)) ?_ ?_ 1000) (0 : Int32) (0 : Int32)
  · intro v2_1 v3_2; exact z_none
  · intro rc3 hrc3 v2_1 v3_2
    unfold l_T_kindsThatFit_4
    refine z_iload_n (pc := 4) hX dX11_kindsThatFit_4 rfl 3 rfl ?_
    refine z_bipush (pc := 5) hX dX11_kindsThatFit_5 bp_6 ?_
    refine z_icmp_ge (pc := 7) (tgt := 34) hX dX11_kindsThatFit_7 rfl ?_ ?_
    · refine z_iload_n (pc := 34) hX dX11_kindsThatFit_34 rfl 2 rfl ?_
      exact z_retP (pc := 35) hX dX11_kindsThatFit_35
    · refine z_aload_n (pc := 10) hX dX11_kindsThatFit_10 rfl 0 rfl ?_
      refine gr_0_0C (pc := 11) hX q_235 dX11_kindsThatFit_11 ?_
      refine z_iload_n (pc := 14) hX dX11_kindsThatFit_14 rfl 1 rfl ?_
      refine z_iload_n (pc := 15) hX dX11_kindsThatFit_15 rfl 3 rfl ?_
      refine z_rP (run_V (pc := 16) (As := [.int x1, .int v3_2]) hX (rc_1 v_1_0) ⟨q_711, q_714, q_10⟩ q_712 q_713 hd_X0_fits ⟨Nat.le_of_ble_eq_true rfl, Nat.le_of_ble_eq_true rfl⟩ (c_Co_fits hG s 0 x1 v3_2 v_1_0) rfl rfl (Nat.le_of_ble_eq_true rfl) dX11_kindsThatFit_16) (fun r4 => ?_)
      refine z_jn (P := fun j6 => ∀ (v2_5 : Int32), ZR G X (EC o L) pvP (psP s) 4 s [(0, .ref (ad G 0 0)), (1, .int x1), (2, .int v2_5), (3, .int v3_2)] [] 28 (j6 v2_5)) ?_ ?_
      · intro v2_5
        refine z_iinc (pc := 28) (n := 3) (v := v3_2 + (1 : Int32)) (ls' := [(3, .int (v3_2 + (1 : Int32))), (0, .ref (ad G 0 0)), (1, .int x1), (2, .int v2_5)]) hX dX11_kindsThatFit_28 rfl (by rw [show Int32.ofInt (1) = 1 by decide +kernel]) (by decide) rfl ?_
        refine z_goto (pc := 31) (tgt := 4) hX dX11_kindsThatFit_31 rfl ?_
        exact z_ls [1, 2, 3, 0] rfl (hrc3 v2_5 (v3_2 + (1 : Int32)))
      · intro j6 hj6
        refine z_if_eq (pc := 19) (tgt := 28) hX dX11_kindsThatFit_19 rfl ?_ ?_
        · exact z_ls [0, 1, 2, 3] rfl (hj6 v2_1)
        · refine z_iload_n (pc := 22) hX dX11_kindsThatFit_22 rfl 2 rfl ?_
          refine z_iconst (pc := 23) hX dX11_kindsThatFit_23 ic_1 ?_
          refine z_iload_n (pc := 24) hX dX11_kindsThatFit_24 rfl 3 rfl ?_
          refine z_ishl (pc := 25) hX dX11_kindsThatFit_25 ?_
          refine z_ior (pc := 26) hX dX11_kindsThatFit_26 ?_
          refine z_lti (pc := 27) (fun v2_7 => ?_)
          refine z_istore_n (pc := 27) (ls' := [(2, .int v2_7), (0, .ref (ad G 0 0)), (1, .int x1), (3, .int v3_2)]) hX dX11_kindsThatFit_27 rfl (by decide) rfl ?_
          exact z_ls [1, 2, 0, 3] rfl (hj6 v2_7)
theorem hd_X11_day : yX11_day.cls ≠ "java/lang/invoke/MethodHandle" ∧ yX11_day.cls ≠ "java/lang/invoke/VarHandle" ∧ (parseMethodDescriptor yX11_day.desc).map (fun d => d.parameters.length) = some 1 := by decide +kernel
def f_T_day (s : Sto) (x1 : Int32) : Option (Int32 × Sto) :=
  bP (f_T_outside x1 (1 : Int32) (60 : Int32)) (fun r1 => if r1 = (0 : Int32) then bV (f_Co_remember s 0) (fun s2 => bV (f_Co_passDays s2 0 0 x1) (fun s3 => some (s3 4 0 0, s3))) else bI (f_T_bad s) (fun r4 s5 => some (r4, s5)))
set_option maxRecDepth 100000 in
set_option maxHeartbeats 4000000 in
theorem c_T_day {G : Gb} {l : Launch} {o : Sto} {L : Lng} (hG : GA G) (s : Sto) (x1 : Int32)  : CT G l (EC o L) pvI psI yX11_day cX11_day 2 (some .int) 7 150 [.ref (ad G 0 0), .int x1] s (f_T_day s x1) := by
  refine CT.of hG (by decide) (Nat.le_of_ble_eq_true rfl) (fun X hX => ?_)
  have hX : OX G X l cX11_day 2 "CrownTwo" (some .int) 7 150 := hX
  show ZR G X (EC o L) pvI psI 2 s [(0, .ref (ad G 0 0)), (1, .int x1)] [] 0 _
  unfold f_T_day
  refine z_iload_n (pc := 0) hX dX11_day_0 rfl 1 rfl ?_
  refine z_iconst (pc := 1) hX dX11_day_1 ic_1 ?_
  refine z_bipush (pc := 2) hX dX11_day_2 bp_60 ?_
  refine z_rP (run_S (pc := 4) (As := [.int x1, .int (1 : Int32), .int (60 : Int32)]) hX ⟨q_285, q_287, q_1⟩ q_286 hd_X11_outside ⟨Nat.le_of_ble_eq_true rfl, Nat.le_of_ble_eq_true rfl⟩ (c_T_outside hG s x1 (1 : Int32) (60 : Int32)) rfl rfl (Nat.le_of_ble_eq_true rfl) dX11_day_4) (fun r1 => ?_)
  refine z_if_eq (pc := 7) (tgt := 15) hX dX11_day_7 rfl ?_ ?_
  · refine z_aload_n (pc := 15) hX dX11_day_15 rfl 0 rfl ?_
    refine gr_0_0C (pc := 16) hX q_235 dX11_day_16 ?_
    refine z_rV (run_V (pc := 19) (As := []) hX (rc_1 v_1_0) ⟨q_469, q_472, q_10⟩ q_470 q_471 hd_X0_remember ⟨Nat.le_of_ble_eq_true rfl, Nat.le_of_ble_eq_true rfl⟩ (c_Co_remember hG s 0 v_1_0) rfl rfl (Nat.le_of_ble_eq_true rfl) dX11_day_19) (fun s2 => ?_)
    refine z_aload_n (pc := 22) hX dX11_day_22 rfl 0 rfl ?_
    refine gr_0_0C (pc := 23) hX q_235 dX11_day_23 ?_
    refine z_aload_n (pc := 26) hX dX11_day_26 rfl 0 rfl ?_
    refine gr_0_0C (pc := 27) hX q_235 dX11_day_27 ?_
    refine gr_1_4C (pc := 30) hX v_1_0 q_208 dX11_day_30 ?_
    refine z_iload_n (pc := 33) hX dX11_day_33 rfl 1 rfl ?_
    refine z_rV (run_V (pc := 34) (As := [.ref (ad G 4 0), .int x1]) hX (rc_1 v_1_0) ⟨q_551, q_554, q_10⟩ q_552 q_553 hd_X0_passDays ⟨Nat.le_of_ble_eq_true rfl, Nat.le_of_ble_eq_true rfl⟩ (c_Co_passDays hG s2 0 0 x1 v_1_0 v_4_0) rfl rfl (Nat.le_of_ble_eq_true rfl) dX11_day_34) (fun s3 => ?_)
    refine z_aload_n (pc := 37) hX dX11_day_37 rfl 0 rfl ?_
    refine gr_0_0C (pc := 38) hX q_235 dX11_day_38 ?_
    refine gr_1_4C (pc := 41) hX v_1_0 q_208 dX11_day_41 ?_
    refine gf_4_0C (pc := 44) hX v_4_0 q_65 dX11_day_44 ?_
    exact z_retI (pc := 47) hX dX11_day_47
  · refine z_aload_n (pc := 10) hX dX11_day_10 rfl 0 rfl ?_
    refine z_rI (run_V (pc := 11) (As := []) hX rc_0 ⟨q_288, q_291, q_1⟩ q_290 qs_0 hd_X11_bad ⟨Nat.le_of_ble_eq_true rfl, Nat.le_of_ble_eq_true rfl⟩ (c_T_bad hG s) rfl rfl (Nat.le_of_ble_eq_true rfl) dX11_day_11) (fun r4 s5 => ?_)
    exact z_retI (pc := 14) hX dX11_day_14
theorem hd_X11_makes : yX11_makes.cls ≠ "java/lang/invoke/MethodHandle" ∧ yX11_makes.cls ≠ "java/lang/invoke/VarHandle" ∧ (parseMethodDescriptor yX11_makes.desc).map (fun d => d.parameters.length) = some 1 := by decide +kernel
def f_T_makes (s : Sto) (x1 : Int32) : Option (Int32 × Sto) :=
  bP (f_Co_has s 0 x1) (fun r1 => if r1 = (0 : Int32) then bI (f_T_bad s) (fun r2 s3 => some ((-100 : Int32), s3)) else bP (f_Co_addedBy s 0 x1) (fun r4 => some (r4, s)))
set_option maxRecDepth 100000 in
set_option maxHeartbeats 4000000 in
theorem c_T_makes {G : Gb} {l : Launch} {o : Sto} {L : Lng} (hG : GA G) (s : Sto) (x1 : Int32)  : CT G l (EC o L) pvI psI yX11_makes cX11_makes 2 (some .int) 4 85 [.ref (ad G 0 0), .int x1] s (f_T_makes s x1) := by
  refine CT.of hG (by decide) (Nat.le_of_ble_eq_true rfl) (fun X hX => ?_)
  have hX : OX G X l cX11_makes 2 "CrownTwo" (some .int) 4 85 := hX
  show ZR G X (EC o L) pvI psI 2 s [(0, .ref (ad G 0 0)), (1, .int x1)] [] 0 _
  unfold f_T_makes
  refine z_aload_n (pc := 0) hX dX11_makes_0 rfl 0 rfl ?_
  refine gr_0_0C (pc := 1) hX q_235 dX11_makes_1 ?_
  refine z_iload_n (pc := 4) hX dX11_makes_4 rfl 1 rfl ?_
  refine z_rP (run_V (pc := 5) (As := [.int x1]) hX (rc_1 v_1_0) ⟨q_612, q_468, q_10⟩ q_466 q_467 hd_X0_has ⟨Nat.le_of_ble_eq_true rfl, Nat.le_of_ble_eq_true rfl⟩ (c_Co_has hG s 0 x1 v_1_0) rfl rfl (Nat.le_of_ble_eq_true rfl) dX11_makes_5) (fun r1 => ?_)
  refine z_if_eq (pc := 8) (tgt := 20) hX dX11_makes_8 rfl ?_ ?_
  · refine z_aload_n (pc := 20) hX dX11_makes_20 rfl 0 rfl ?_
    refine z_rI (run_V (pc := 21) (As := []) hX rc_0 ⟨q_288, q_291, q_1⟩ q_290 qs_0 hd_X11_bad ⟨Nat.le_of_ble_eq_true rfl, Nat.le_of_ble_eq_true rfl⟩ (c_T_bad hG s) rfl rfl (Nat.le_of_ble_eq_true rfl) dX11_makes_21) (fun r2 s3 => ?_)
    refine z_pop (pc := 24) hX dX11_makes_24 rfl ?_
    refine z_bipush (pc := 25) hX dX11_makes_25 bp_m100 ?_
    exact z_retI (pc := 27) hX dX11_makes_27
  · refine z_aload_n (pc := 11) hX dX11_makes_11 rfl 0 rfl ?_
    refine gr_0_0C (pc := 12) hX q_235 dX11_makes_12 ?_
    refine z_iload_n (pc := 15) hX dX11_makes_15 rfl 1 rfl ?_
    refine z_rP (run_V (pc := 16) (As := [.int x1]) hX (rc_1 v_1_0) ⟨q_621, q_567, q_10⟩ q_565 q_566 hd_X0_addedBy ⟨Nat.le_of_ble_eq_true rfl, Nat.le_of_ble_eq_true rfl⟩ (c_Co_addedBy hG s 0 x1 v_1_0) rfl rfl (Nat.le_of_ble_eq_true rfl) dX11_makes_16) (fun r4 => ?_)
    exact z_retI (pc := 19) hX dX11_makes_19
theorem hd_X11_both : yX11_both.cls ≠ "java/lang/invoke/MethodHandle" ∧ yX11_both.cls ≠ "java/lang/invoke/VarHandle" ∧ (parseMethodDescriptor yX11_both.desc).map (fun d => d.parameters.length) = some 1 := by decide +kernel
def f_T_both (s : Sto) (x1 : Int32) : Option (Int32 × Sto) :=
  bP (f_T_outside x1 (0 : Int32) (60 : Int32)) (fun r1 => if r1 = (0 : Int32) then bP (f_Co_paired s 0 0) (fun r2 => if r2 = (0 : Int32) then bI (f_T_no s) (fun r6 s7 => some (r6, s7)) else bV (f_Mo_become s 36 0) (fun s3 => bV (f_Co_passDays s3 0 36 x1) (fun s4 => bP (f_Co_actsOfBoth s4 0 36) (fun r5 => some (r5, s4))))) else bI (f_T_bad s) (fun r8 s9 => some (r8, s9)))
set_option maxRecDepth 100000 in
set_option maxHeartbeats 4000000 in
theorem c_T_both {G : Gb} {l : Launch} {o : Sto} {L : Lng} (hG : GA G) (s : Sto) (x1 : Int32)  : CT G l (EC o L) pvI psI yX11_both cX11_both 2 (some .int) 7 150 [.ref (ad G 0 0), .int x1] s (f_T_both s x1) := by
  refine CT.of hG (by decide) (Nat.le_of_ble_eq_true rfl) (fun X hX => ?_)
  have hX : OX G X l cX11_both 2 "CrownTwo" (some .int) 7 150 := hX
  show ZR G X (EC o L) pvI psI 2 s [(0, .ref (ad G 0 0)), (1, .int x1)] [] 0 _
  unfold f_T_both
  refine z_iload_n (pc := 0) hX dX11_both_0 rfl 1 rfl ?_
  refine z_iconst (pc := 1) hX dX11_both_1 ic_0 ?_
  refine z_bipush (pc := 2) hX dX11_both_2 bp_60 ?_
  refine z_rP (run_S (pc := 4) (As := [.int x1, .int (0 : Int32), .int (60 : Int32)]) hX ⟨q_285, q_287, q_1⟩ q_286 hd_X11_outside ⟨Nat.le_of_ble_eq_true rfl, Nat.le_of_ble_eq_true rfl⟩ (c_T_outside hG s x1 (0 : Int32) (60 : Int32)) rfl rfl (Nat.le_of_ble_eq_true rfl) dX11_both_4) (fun r1 => ?_)
  refine z_if_eq (pc := 7) (tgt := 15) hX dX11_both_7 rfl ?_ ?_
  · refine z_aload_n (pc := 15) hX dX11_both_15 rfl 0 rfl ?_
    refine gr_0_0C (pc := 16) hX q_235 dX11_both_16 ?_
    refine z_aload_n (pc := 19) hX dX11_both_19 rfl 0 rfl ?_
    refine gr_0_0C (pc := 20) hX q_235 dX11_both_20 ?_
    refine gr_1_4C (pc := 23) hX v_1_0 q_208 dX11_both_23 ?_
    refine z_rP (run_V (pc := 26) (As := [.ref (ad G 4 0)]) hX (rc_1 v_1_0) ⟨q_481, q_484, q_10⟩ q_482 q_483 hd_X0_paired ⟨Nat.le_of_ble_eq_true rfl, Nat.le_of_ble_eq_true rfl⟩ (c_Co_paired hG s 0 0 v_1_0 v_4_0) rfl rfl (Nat.le_of_ble_eq_true rfl) dX11_both_26) (fun r2 => ?_)
    refine z_if_ne (pc := 29) (tgt := 37) hX dX11_both_29 rfl ?_ ?_
    · refine z_aload_n (pc := 37) hX dX11_both_37 rfl 0 rfl ?_
      refine gr_0_5C (pc := 38) hX q_240 dX11_both_38 ?_
      refine z_aload_n (pc := 41) hX dX11_both_41 rfl 0 rfl ?_
      refine gr_0_0C (pc := 42) hX q_235 dX11_both_42 ?_
      refine gr_1_4C (pc := 45) hX v_1_0 q_208 dX11_both_45 ?_
      refine z_rV (run_V (pc := 48) (As := [.ref (ad G 4 0)]) hX (rc_4 v_4_36) ⟨q_631, q_442, q_3⟩ q_440 q_441 hd_X5_become ⟨Nat.le_of_ble_eq_true rfl, Nat.le_of_ble_eq_true rfl⟩ (c_Mo_become hG s 36 0 v_4_36 v_4_0) rfl rfl (Nat.le_of_ble_eq_true rfl) dX11_both_48) (fun s3 => ?_)
      refine z_aload_n (pc := 51) hX dX11_both_51 rfl 0 rfl ?_
      refine gr_0_0C (pc := 52) hX q_235 dX11_both_52 ?_
      refine z_aload_n (pc := 55) hX dX11_both_55 rfl 0 rfl ?_
      refine gr_0_5C (pc := 56) hX q_240 dX11_both_56 ?_
      refine z_iload_n (pc := 59) hX dX11_both_59 rfl 1 rfl ?_
      refine z_rV (run_V (pc := 60) (As := [.ref (ad G 4 36), .int x1]) hX (rc_1 v_1_0) ⟨q_551, q_554, q_10⟩ q_552 q_553 hd_X0_passDays ⟨Nat.le_of_ble_eq_true rfl, Nat.le_of_ble_eq_true rfl⟩ (c_Co_passDays hG s3 0 36 x1 v_1_0 v_4_36) rfl rfl (Nat.le_of_ble_eq_true rfl) dX11_both_60) (fun s4 => ?_)
      refine z_aload_n (pc := 63) hX dX11_both_63 rfl 0 rfl ?_
      refine gr_0_0C (pc := 64) hX q_235 dX11_both_64 ?_
      refine z_aload_n (pc := 67) hX dX11_both_67 rfl 0 rfl ?_
      refine gr_0_5C (pc := 68) hX q_240 dX11_both_68 ?_
      refine z_rP (run_V (pc := 71) (As := [.ref (ad G 4 36)]) hX (rc_1 v_1_0) ⟨q_632, q_635, q_10⟩ q_633 q_634 hd_X0_actsOfBoth ⟨Nat.le_of_ble_eq_true rfl, Nat.le_of_ble_eq_true rfl⟩ (c_Co_actsOfBoth hG s4 0 36 v_1_0 v_4_36) rfl rfl (Nat.le_of_ble_eq_true rfl) dX11_both_71) (fun r5 => ?_)
      exact z_retI (pc := 74) hX dX11_both_74
    · refine z_aload_n (pc := 32) hX dX11_both_32 rfl 0 rfl ?_
      refine z_rI (run_V (pc := 33) (As := []) hX rc_0 ⟨q_490, q_493, q_1⟩ q_492 qs_13 hd_X11_no ⟨Nat.le_of_ble_eq_true rfl, Nat.le_of_ble_eq_true rfl⟩ (c_T_no hG s) rfl rfl (Nat.le_of_ble_eq_true rfl) dX11_both_33) (fun r6 s7 => ?_)
      exact z_retI (pc := 36) hX dX11_both_36
  · refine z_aload_n (pc := 10) hX dX11_both_10 rfl 0 rfl ?_
    refine z_rI (run_V (pc := 11) (As := []) hX rc_0 ⟨q_288, q_291, q_1⟩ q_290 qs_0 hd_X11_bad ⟨Nat.le_of_ble_eq_true rfl, Nat.le_of_ble_eq_true rfl⟩ (c_T_bad hG s) rfl rfl (Nat.le_of_ble_eq_true rfl) dX11_both_11) (fun r8 s9 => ?_)
    exact z_retI (pc := 14) hX dX11_both_14
theorem hd_X11_friends : yX11_friends.cls ≠ "java/lang/invoke/MethodHandle" ∧ yX11_friends.cls ≠ "java/lang/invoke/VarHandle" ∧ (parseMethodDescriptor yX11_friends.desc).map (fun d => d.parameters.length) = some 0 := by decide +kernel
def f_T_friends (s : Sto)  : Option (Int32 × Sto) :=
  bP (f_Co_changeInADay s 0 0) (fun r1 => bI (f_T_daysToFriends s r1) (fun r2 s3 => some (r2, s3)))
set_option maxRecDepth 100000 in
set_option maxHeartbeats 4000000 in
theorem c_T_friends {G : Gb} {l : Launch} {o : Sto} {L : Lng} (hG : GA G) (s : Sto)   : CT G l (EC o L) pvI psI yX11_friends cX11_friends 1 (some .int) 6 128 [.ref (ad G 0 0)] s (f_T_friends s) := by
  refine CT.of hG (by decide) (Nat.le_of_ble_eq_true rfl) (fun X hX => ?_)
  have hX : OX G X l cX11_friends 1 "CrownTwo" (some .int) 6 128 := hX
  show ZR G X (EC o L) pvI psI 1 s [(0, .ref (ad G 0 0))] [] 0 _
  unfold f_T_friends
  refine z_aload_n (pc := 0) hX dX11_friends_0 rfl 0 rfl ?_
  refine z_aload_n (pc := 1) hX dX11_friends_1 rfl 0 rfl ?_
  refine gr_0_0C (pc := 2) hX q_235 dX11_friends_2 ?_
  refine z_aload_n (pc := 5) hX dX11_friends_5 rfl 0 rfl ?_
  refine gr_0_0C (pc := 6) hX q_235 dX11_friends_6 ?_
  refine gr_1_4C (pc := 9) hX v_1_0 q_208 dX11_friends_9 ?_
  refine z_rP (run_V (pc := 12) (As := [.ref (ad G 4 0)]) hX (rc_1 v_1_0) ⟨q_640, q_558, q_10⟩ q_556 q_557 hd_X0_changeInADay ⟨Nat.le_of_ble_eq_true rfl, Nat.le_of_ble_eq_true rfl⟩ (c_Co_changeInADay hG s 0 0 v_1_0 v_4_0) rfl rfl (Nat.le_of_ble_eq_true rfl) dX11_friends_12) (fun r1 => ?_)
  refine z_rI (run_V (pc := 15) (As := [.int r1]) hX rc_0 ⟨q_641, q_644, q_1⟩ q_643 qs_14 hd_X11_daysToFriends ⟨Nat.le_of_ble_eq_true rfl, Nat.le_of_ble_eq_true rfl⟩ (c_T_daysToFriends hG s r1) rfl rfl (Nat.le_of_ble_eq_true rfl) dX11_friends_15) (fun r2 s3 => ?_)
  exact z_retI (pc := 18) hX dX11_friends_18
theorem hd_X11_then : yX11_then.cls ≠ "java/lang/invoke/MethodHandle" ∧ yX11_then.cls ≠ "java/lang/invoke/VarHandle" ∧ (parseMethodDescriptor yX11_then.desc).map (fun d => d.parameters.length) = some 1 := by decide +kernel
def f_T_then (s : Sto) (x1 : Int32) : Option (Int32 × Sto) :=
  bP (f_T_outside x1 (0 : Int32) (90 : Int32)) (fun r1 => if r1 = (0 : Int32) then bV (f_Mo_become s 36 0) (fun s2 => bV (f_Co_passDays s2 0 36 x1) (fun s3 => some (s3 4 36 0, s3))) else bI (f_T_bad s) (fun r4 s5 => some (r4, s5)))
set_option maxRecDepth 100000 in
set_option maxHeartbeats 4000000 in
theorem c_T_then {G : Gb} {l : Launch} {o : Sto} {L : Lng} (hG : GA G) (s : Sto) (x1 : Int32)  : CT G l (EC o L) pvI psI yX11_then cX11_then 2 (some .int) 7 150 [.ref (ad G 0 0), .int x1] s (f_T_then s x1) := by
  refine CT.of hG (by decide) (Nat.le_of_ble_eq_true rfl) (fun X hX => ?_)
  have hX : OX G X l cX11_then 2 "CrownTwo" (some .int) 7 150 := hX
  show ZR G X (EC o L) pvI psI 2 s [(0, .ref (ad G 0 0)), (1, .int x1)] [] 0 _
  unfold f_T_then
  refine z_iload_n (pc := 0) hX dX11_then_0 rfl 1 rfl ?_
  refine z_iconst (pc := 1) hX dX11_then_1 ic_0 ?_
  refine z_bipush (pc := 2) hX dX11_then_2 bp_90 ?_
  refine z_rP (run_S (pc := 4) (As := [.int x1, .int (0 : Int32), .int (90 : Int32)]) hX ⟨q_285, q_287, q_1⟩ q_286 hd_X11_outside ⟨Nat.le_of_ble_eq_true rfl, Nat.le_of_ble_eq_true rfl⟩ (c_T_outside hG s x1 (0 : Int32) (90 : Int32)) rfl rfl (Nat.le_of_ble_eq_true rfl) dX11_then_4) (fun r1 => ?_)
  refine z_if_eq (pc := 7) (tgt := 15) hX dX11_then_7 rfl ?_ ?_
  · refine z_aload_n (pc := 15) hX dX11_then_15 rfl 0 rfl ?_
    refine gr_0_5C (pc := 16) hX q_240 dX11_then_16 ?_
    refine z_aload_n (pc := 19) hX dX11_then_19 rfl 0 rfl ?_
    refine gr_0_0C (pc := 20) hX q_235 dX11_then_20 ?_
    refine gr_1_4C (pc := 23) hX v_1_0 q_208 dX11_then_23 ?_
    refine z_rV (run_V (pc := 26) (As := [.ref (ad G 4 0)]) hX (rc_4 v_4_36) ⟨q_631, q_442, q_3⟩ q_440 q_441 hd_X5_become ⟨Nat.le_of_ble_eq_true rfl, Nat.le_of_ble_eq_true rfl⟩ (c_Mo_become hG s 36 0 v_4_36 v_4_0) rfl rfl (Nat.le_of_ble_eq_true rfl) dX11_then_26) (fun s2 => ?_)
    refine z_aload_n (pc := 29) hX dX11_then_29 rfl 0 rfl ?_
    refine gr_0_0C (pc := 30) hX q_235 dX11_then_30 ?_
    refine z_aload_n (pc := 33) hX dX11_then_33 rfl 0 rfl ?_
    refine gr_0_5C (pc := 34) hX q_240 dX11_then_34 ?_
    refine z_iload_n (pc := 37) hX dX11_then_37 rfl 1 rfl ?_
    refine z_rV (run_V (pc := 38) (As := [.ref (ad G 4 36), .int x1]) hX (rc_1 v_1_0) ⟨q_551, q_554, q_10⟩ q_552 q_553 hd_X0_passDays ⟨Nat.le_of_ble_eq_true rfl, Nat.le_of_ble_eq_true rfl⟩ (c_Co_passDays hG s2 0 36 x1 v_1_0 v_4_36) rfl rfl (Nat.le_of_ble_eq_true rfl) dX11_then_38) (fun s3 => ?_)
    refine z_aload_n (pc := 41) hX dX11_then_41 rfl 0 rfl ?_
    refine gr_0_5C (pc := 42) hX q_240 dX11_then_42 ?_
    refine gf_4_0C (pc := 45) hX v_4_36 q_65 dX11_then_45 ?_
    exact z_retI (pc := 48) hX dX11_then_48
  · refine z_aload_n (pc := 10) hX dX11_then_10 rfl 0 rfl ?_
    refine z_rI (run_V (pc := 11) (As := []) hX rc_0 ⟨q_288, q_291, q_1⟩ q_290 qs_0 hd_X11_bad ⟨Nat.le_of_ble_eq_true rfl, Nat.le_of_ble_eq_true rfl⟩ (c_T_bad hG s) rfl rfl (Nat.le_of_ble_eq_true rfl) dX11_then_11) (fun r4 s5 => ?_)
    exact z_retI (pc := 14) hX dX11_then_14
theorem hd_X11_most : yX11_most.cls ≠ "java/lang/invoke/MethodHandle" ∧ yX11_most.cls ≠ "java/lang/invoke/VarHandle" ∧ (parseMethodDescriptor yX11_most.desc).map (fun d => d.parameters.length) = some 2 := by decide +kernel
def f_T_most (s : Sto) (x1 : Int32) (x2 : Int32) : Option (Int32 × Sto) :=
  bP (f_T_outside x1 (1 : Int32) (4 : Int32)) (fun r1 => if r1 = (0 : Int32) then if (-1 : Int32) ≤ x2 then bP (f_Co_paired s 0 0) (fun r4 => if r4 = (0 : Int32) then bI (f_T_no s) (fun r10 s11 => some (r10, s11)) else if x2 < x1 then lt (st s 0 0 9 (-1 : Int32)) (fun s5 => if inb (0 : Int32) 5 then bV (f_Mo_become s5 (37 + ix (0 : Int32)) 0) (fun s7 => bP (f_Co_changeInADay s7 0 0) (fun r8 => bV (f_T_tryFrom 6 s7 (0 : Int32) x1 (0 : Int32) r8) (fun s9 => if x2 = (-1 : Int32) then some (s9 0 0 9, s9) else if inb x2 4 then some (s9 15 0 (ix x2), s9) else none))) else none) else some ((-5 : Int32), s)) else bI (f_T_bad s) (fun r12 s13 => some ((-10 : Int32), s13)) else bI (f_T_bad s) (fun r2 s3 => some ((-10 : Int32), s3)))
set_option maxRecDepth 100000 in
set_option maxHeartbeats 4000000 in
theorem c_T_most {G : Gb} {l : Launch} {o : Sto} {L : Lng} (hG : GA G) (s : Sto) (x1 : Int32) (x2 : Int32)  : CT G l (EC o L) pvI psI yX11_most cX11_most 3 (some .int) 13 349 [.ref (ad G 0 0), .int x1, .int x2] s (f_T_most s x1 x2) := by
  refine CT.of hG (by decide) (Nat.le_of_ble_eq_true rfl) (fun X hX => ?_)
  have hX : OX G X l cX11_most 3 "CrownTwo" (some .int) 13 349 := hX
  show ZR G X (EC o L) pvI psI 3 s [(0, .ref (ad G 0 0)), (1, .int x1), (2, .int x2)] [] 0 _
  unfold f_T_most
  refine z_iload_n (pc := 0) hX dX11_most_0 rfl 1 rfl ?_
  refine z_iconst (pc := 1) hX dX11_most_1 ic_1 ?_
  refine z_iconst (pc := 2) hX dX11_most_2 ic_4 ?_
  refine z_rP (run_S (pc := 3) (As := [.int x1, .int (1 : Int32), .int (4 : Int32)]) hX ⟨q_285, q_287, q_1⟩ q_286 hd_X11_outside ⟨Nat.le_of_ble_eq_true rfl, Nat.le_of_ble_eq_true rfl⟩ (c_T_outside hG s x1 (1 : Int32) (4 : Int32)) rfl rfl (Nat.le_of_ble_eq_true rfl) dX11_most_3) (fun r1 => ?_)
  refine z_if_ne (pc := 6) (tgt := 14) hX dX11_most_6 rfl ?_ ?_
  · refine z_aload_n (pc := 14) hX dX11_most_14 rfl 0 rfl ?_
    refine z_rI (run_V (pc := 15) (As := []) hX rc_0 ⟨q_288, q_291, q_1⟩ q_290 qs_0 hd_X11_bad ⟨Nat.le_of_ble_eq_true rfl, Nat.le_of_ble_eq_true rfl⟩ (c_T_bad hG s) rfl rfl (Nat.le_of_ble_eq_true rfl) dX11_most_15) (fun r2 s3 => ?_)
    refine z_pop (pc := 18) hX dX11_most_18 rfl ?_
    refine z_bipush (pc := 19) hX dX11_most_19 bp_m10 ?_
    exact z_retI (pc := 21) hX dX11_most_21
  · refine z_iload_n (pc := 9) hX dX11_most_9 rfl 2 rfl ?_
    refine z_iconst (pc := 10) hX dX11_most_10 ic_m1 ?_
    refine z_icmp_ge (pc := 11) (tgt := 22) hX dX11_most_11 rfl ?_ ?_
    · refine z_aload_n (pc := 22) hX dX11_most_22 rfl 0 rfl ?_
      refine gr_0_0C (pc := 23) hX q_235 dX11_most_23 ?_
      refine z_aload_n (pc := 26) hX dX11_most_26 rfl 0 rfl ?_
      refine gr_0_0C (pc := 27) hX q_235 dX11_most_27 ?_
      refine gr_1_4C (pc := 30) hX v_1_0 q_208 dX11_most_30 ?_
      refine z_rP (run_V (pc := 33) (As := [.ref (ad G 4 0)]) hX (rc_1 v_1_0) ⟨q_481, q_484, q_10⟩ q_482 q_483 hd_X0_paired ⟨Nat.le_of_ble_eq_true rfl, Nat.le_of_ble_eq_true rfl⟩ (c_Co_paired hG s 0 0 v_1_0 v_4_0) rfl rfl (Nat.le_of_ble_eq_true rfl) dX11_most_33) (fun r4 => ?_)
      refine z_if_ne (pc := 36) (tgt := 44) hX dX11_most_36 rfl ?_ ?_
      · refine z_iload_n (pc := 44) hX dX11_most_44 rfl 2 rfl ?_
        refine z_iload_n (pc := 45) hX dX11_most_45 rfl 1 rfl ?_
        refine z_icmp_lt (pc := 46) (tgt := 52) hX dX11_most_46 rfl ?_ ?_
        · refine z_aload_n (pc := 52) hX dX11_most_52 rfl 0 rfl ?_
          refine z_iconst (pc := 53) hX dX11_most_53 ic_m1 ?_
          refine pf_0_9C (pc := 54) hX q_244 dX11_most_54 ?_
          refine z_lts (fun s5 => ?_)
          refine z_aload_n (pc := 57) hX dX11_most_57 rfl 0 rfl ?_
          refine gr_0_6C (pc := 58) hX q_241 dX11_most_58 ?_
          refine z_iconst (pc := 61) hX dX11_most_61 ic_0 ?_
          refine aa_13C (pc := 62) hX dX11_most_62 (fun hv6 => ?_)
          refine z_aload_n (pc := 63) hX dX11_most_63 rfl 0 rfl ?_
          refine gr_0_0C (pc := 64) hX q_235 dX11_most_64 ?_
          refine gr_1_4C (pc := 67) hX v_1_0 q_208 dX11_most_67 ?_
          refine z_rV (run_V (pc := 70) (As := [.ref (ad G 4 0)]) hX (rc_4 hv6) ⟨q_631, q_442, q_3⟩ q_440 q_441 hd_X5_become ⟨Nat.le_of_ble_eq_true rfl, Nat.le_of_ble_eq_true rfl⟩ (c_Mo_become hG s5 (37 + ix (0 : Int32)) 0 hv6 v_4_0) rfl rfl (Nat.le_of_ble_eq_true rfl) dX11_most_70) (fun s7 => ?_)
          refine z_aload_n (pc := 73) hX dX11_most_73 rfl 0 rfl ?_
          refine z_iconst (pc := 74) hX dX11_most_74 ic_0 ?_
          refine z_iload_n (pc := 75) hX dX11_most_75 rfl 1 rfl ?_
          refine z_iconst (pc := 76) hX dX11_most_76 ic_0 ?_
          refine z_aload_n (pc := 77) hX dX11_most_77 rfl 0 rfl ?_
          refine gr_0_0C (pc := 78) hX q_235 dX11_most_78 ?_
          refine z_aload_n (pc := 81) hX dX11_most_81 rfl 0 rfl ?_
          refine gr_0_0C (pc := 82) hX q_235 dX11_most_82 ?_
          refine gr_1_4C (pc := 85) hX v_1_0 q_208 dX11_most_85 ?_
          refine z_rP (run_V (pc := 88) (As := [.ref (ad G 4 0)]) hX (rc_1 v_1_0) ⟨q_640, q_558, q_10⟩ q_556 q_557 hd_X0_changeInADay ⟨Nat.le_of_ble_eq_true rfl, Nat.le_of_ble_eq_true rfl⟩ (c_Co_changeInADay hG s7 0 0 v_1_0 v_4_0) rfl rfl (Nat.le_of_ble_eq_true rfl) dX11_most_88) (fun r8 => ?_)
          refine z_rV (run_V (pc := 91) (As := [.int (0 : Int32), .int x1, .int (0 : Int32), .int r8]) hX rc_0 ⟨q_657, q_660, q_1⟩ q_659 qs_15 hd_X11_tryFrom ⟨Nat.le_of_ble_eq_true rfl, Nat.le_of_ble_eq_true rfl⟩ (c_T_tryFrom hG 6 s7 (0 : Int32) x1 (0 : Int32) r8) rfl rfl (Nat.le_of_ble_eq_true rfl) dX11_most_91) (fun s9 => ?_)
          refine z_iload_n (pc := 94) hX dX11_most_94 rfl 2 rfl ?_
          refine z_iconst (pc := 95) hX dX11_most_95 ic_m1 ?_
          refine z_icmp_ne (pc := 96) (tgt := 106) hX dX11_most_96 rfl ?_ ?_
          · refine z_aload_n (pc := 106) hX dX11_most_106 rfl 0 rfl ?_
            refine gr_0_8C (pc := 107) hX q_243 dX11_most_107 ?_
            refine z_iload_n (pc := 110) hX dX11_most_110 rfl 2 rfl ?_
            refine ia_15C (pc := 111) hX dX11_most_111 ?_
            exact z_retI (pc := 112) hX dX11_most_112
          · refine z_aload_n (pc := 99) hX dX11_most_99 rfl 0 rfl ?_
            refine gf_0_9C (pc := 100) hX q_244 dX11_most_100 ?_
            refine z_goto (pc := 103) (tgt := 112) hX dX11_most_103 rfl ?_
            exact z_retI (pc := 112) hX dX11_most_112
        · refine z_bipush (pc := 49) hX dX11_most_49 bp_m5 ?_
          exact z_retI (pc := 51) hX dX11_most_51
      · refine z_aload_n (pc := 39) hX dX11_most_39 rfl 0 rfl ?_
        refine z_rI (run_V (pc := 40) (As := []) hX rc_0 ⟨q_490, q_493, q_1⟩ q_492 qs_13 hd_X11_no ⟨Nat.le_of_ble_eq_true rfl, Nat.le_of_ble_eq_true rfl⟩ (c_T_no hG s) rfl rfl (Nat.le_of_ble_eq_true rfl) dX11_most_40) (fun r10 s11 => ?_)
        exact z_retI (pc := 43) hX dX11_most_43
    · refine z_aload_n (pc := 14) hX dX11_most_14 rfl 0 rfl ?_
      refine z_rI (run_V (pc := 15) (As := []) hX rc_0 ⟨q_288, q_291, q_1⟩ q_290 qs_0 hd_X11_bad ⟨Nat.le_of_ble_eq_true rfl, Nat.le_of_ble_eq_true rfl⟩ (c_T_bad hG s) rfl rfl (Nat.le_of_ble_eq_true rfl) dX11_most_15) (fun r12 s13 => ?_)
      refine z_pop (pc := 18) hX dX11_most_18 rfl ?_
      refine z_bipush (pc := 19) hX dX11_most_19 bp_m10 ?_
      exact z_retI (pc := 21) hX dX11_most_21
theorem hd_X11_keep : yX11_keep.cls ≠ "java/lang/invoke/MethodHandle" ∧ yX11_keep.cls ≠ "java/lang/invoke/VarHandle" ∧ (parseMethodDescriptor yX11_keep.desc).map (fun d => d.parameters.length) = some 1 := by decide +kernel
def l_T_keep_32 (x1 : Int32) (r2 : Int32) (rc5 : Sto → Int32 → Option (Int32 × Sto)) (s3 : Sto) (v3_4 : Int32) : Option (Int32 × Sto) :=
  if (99 : Int32) < v3_4 then some ((-1 : Int32), s3) else bI (f_T_staysQuarrelled s3 v3_4 r2 x1) (fun r6 s7 => if r6 = (0 : Int32) then rc5 s7 (v3_4 + (1 : Int32)) else some (v3_4, s7))
def f_T_keep (s : Sto) (x1 : Int32) : Option (Int32 × Sto) :=
  bP (f_T_outside x1 (1 : Int32) (60 : Int32)) (fun r1 => if r1 = (0 : Int32) then bP (f_Co_changeInADay s 0 0) (fun r2 => fx 1000 (l_T_keep_32 x1 r2) (fun _ _ => none) s (0 : Int32)) else bI (f_T_bad s) (fun r8 s9 => some (r8, s9)))
set_option maxRecDepth 100000 in
set_option maxHeartbeats 4000000 in
theorem c_T_keep {G : Gb} {l : Launch} {o : Sto} {L : Lng} (hG : GA G) (s : Sto) (x1 : Int32)  : CT G l (EC o L) pvI psI yX11_keep cX11_keep 4 (some .int) 6 128 [.ref (ad G 0 0), .int x1] s (f_T_keep s x1) := by
  refine CT.of hG (by decide) (Nat.le_of_ble_eq_true rfl) (fun X hX => ?_)
  have hX : OX G X l cX11_keep 4 "CrownTwo" (some .int) 6 128 := hX
  show ZR G X (EC o L) pvI psI 4 s [(0, .ref (ad G 0 0)), (1, .int x1)] [] 0 _
  unfold f_T_keep
  refine z_iload_n (pc := 0) hX dX11_keep_0 rfl 1 rfl ?_
  refine z_iconst (pc := 1) hX dX11_keep_1 ic_1 ?_
  refine z_bipush (pc := 2) hX dX11_keep_2 bp_60 ?_
  refine z_rP (run_S (pc := 4) (As := [.int x1, .int (1 : Int32), .int (60 : Int32)]) hX ⟨q_285, q_287, q_1⟩ q_286 hd_X11_outside ⟨Nat.le_of_ble_eq_true rfl, Nat.le_of_ble_eq_true rfl⟩ (c_T_outside hG s x1 (1 : Int32) (60 : Int32)) rfl rfl (Nat.le_of_ble_eq_true rfl) dX11_keep_4) (fun r1 => ?_)
  refine z_if_eq (pc := 7) (tgt := 15) hX dX11_keep_7 rfl ?_ ?_
  · refine z_aload_n (pc := 15) hX dX11_keep_15 rfl 0 rfl ?_
    refine gr_0_0C (pc := 16) hX q_235 dX11_keep_16 ?_
    refine z_aload_n (pc := 19) hX dX11_keep_19 rfl 0 rfl ?_
    refine gr_0_0C (pc := 20) hX q_235 dX11_keep_20 ?_
    refine gr_1_4C (pc := 23) hX v_1_0 q_208 dX11_keep_23 ?_
    refine z_rP (run_V (pc := 26) (As := [.ref (ad G 4 0)]) hX (rc_1 v_1_0) ⟨q_640, q_558, q_10⟩ q_556 q_557 hd_X0_changeInADay ⟨Nat.le_of_ble_eq_true rfl, Nat.le_of_ble_eq_true rfl⟩ (c_Co_changeInADay hG s 0 0 v_1_0 v_4_0) rfl rfl (Nat.le_of_ble_eq_true rfl) dX11_keep_26) (fun r2 => ?_)
    refine z_istore_n (pc := 29) (ls' := [(2, .int r2), (0, .ref (ad G 0 0)), (1, .int x1)]) hX dX11_keep_29 rfl (by decide) rfl ?_
    refine z_iconst (pc := 30) hX dX11_keep_30 ic_0 ?_
    refine z_istore_n (pc := 31) (ls' := [(3, .int (0 : Int32)), (2, .int r2), (0, .ref (ad G 0 0)), (1, .int x1)]) hX dX11_keep_31 rfl (by decide) rfl ?_
    refine z_ls [2, 3, 1, 0] rfl ?_
    refine (fx_P (F := l_T_keep_32 x1 r2) (b := (fun _ _ => none)) (fun rc5 => ∀ (s3 : Sto) (v3_4 : Int32), ZR G X (EC o L) pvI psI 4 s3 [(0, .ref (ad G 0 0)), (1, .int x1), (2, .int r2), (3, .int v3_4)] [] 32 (rc5 s3 v3_4)) ?_ ?_ 1000) s (0 : Int32)
    · intro s3 v3_4; exact z_none
    · intro rc5 hrc5 s3 v3_4
      unfold l_T_keep_32
      refine z_iload_n (pc := 32) hX dX11_keep_32 rfl 3 rfl ?_
      refine z_bipush (pc := 33) hX dX11_keep_33 bp_99 ?_
      refine z_icmp_gt (pc := 35) (tgt := 56) hX dX11_keep_35 rfl ?_ ?_
      · refine z_iconst (pc := 56) hX dX11_keep_56 ic_m1 ?_
        exact z_retI (pc := 57) hX dX11_keep_57
      · refine z_aload_n (pc := 38) hX dX11_keep_38 rfl 0 rfl ?_
        refine z_iload_n (pc := 39) hX dX11_keep_39 rfl 3 rfl ?_
        refine z_iload_n (pc := 40) hX dX11_keep_40 rfl 2 rfl ?_
        refine z_iload_n (pc := 41) hX dX11_keep_41 rfl 1 rfl ?_
        refine z_rI (run_V (pc := 42) (As := [.int v3_4, .int r2, .int x1]) hX rc_0 ⟨q_669, q_672, q_1⟩ q_671 qs_16 hd_X11_staysQuarrelled ⟨Nat.le_of_ble_eq_true rfl, Nat.le_of_ble_eq_true rfl⟩ (c_T_staysQuarrelled hG s3 v3_4 r2 x1) rfl rfl (Nat.le_of_ble_eq_true rfl) dX11_keep_42) (fun r6 s7 => ?_)
        refine z_if_eq (pc := 45) (tgt := 50) hX dX11_keep_45 rfl ?_ ?_
        · refine z_iinc (pc := 50) (n := 3) (v := v3_4 + (1 : Int32)) (ls' := [(3, .int (v3_4 + (1 : Int32))), (0, .ref (ad G 0 0)), (1, .int x1), (2, .int r2)]) hX dX11_keep_50 rfl (by rw [show Int32.ofInt (1) = 1 by decide +kernel]) (by decide) rfl ?_
          refine z_goto (pc := 53) (tgt := 32) hX dX11_keep_53 rfl ?_
          exact z_ls [1, 2, 3, 0] rfl (hrc5 s7 (v3_4 + (1 : Int32)))
        · refine z_iload_n (pc := 48) hX dX11_keep_48 rfl 3 rfl ?_
          exact z_retI (pc := 49) hX dX11_keep_49
  · refine z_aload_n (pc := 10) hX dX11_keep_10 rfl 0 rfl ?_
    refine z_rI (run_V (pc := 11) (As := []) hX rc_0 ⟨q_288, q_291, q_1⟩ q_290 qs_0 hd_X11_bad ⟨Nat.le_of_ble_eq_true rfl, Nat.le_of_ble_eq_true rfl⟩ (c_T_bad hG s) rfl rfl (Nat.le_of_ble_eq_true rfl) dX11_keep_11) (fun r8 s9 => ?_)
    exact z_retI (pc := 14) hX dX11_keep_14
theorem hd_X11_is : yX11_is.cls ≠ "java/lang/invoke/MethodHandle" ∧ yX11_is.cls ≠ "java/lang/invoke/VarHandle" ∧ (parseMethodDescriptor yX11_is.desc).map (fun d => d.parameters.length) = some 1 := by decide +kernel
def f_T_is (s : Sto) (x1 : Int32) : Option (Int32 × Sto) :=
  bP (f_Co_has s 0 x1) (fun r1 => if r1 = (0 : Int32) then bI (f_T_bad s) (fun r3 s4 => some (r3, s4)) else bP (f_T_kindsThatFit s x1) (fun r2 => some (r2, s)))
set_option maxRecDepth 100000 in
set_option maxHeartbeats 4000000 in
theorem c_T_is {G : Gb} {l : Launch} {o : Sto} {L : Lng} (hG : GA G) (s : Sto) (x1 : Int32)  : CT G l (EC o L) pvI psI yX11_is cX11_is 2 (some .int) 6 146 [.ref (ad G 0 0), .int x1] s (f_T_is s x1) := by
  refine CT.of hG (by decide) (Nat.le_of_ble_eq_true rfl) (fun X hX => ?_)
  have hX : OX G X l cX11_is 2 "CrownTwo" (some .int) 6 146 := hX
  show ZR G X (EC o L) pvI psI 2 s [(0, .ref (ad G 0 0)), (1, .int x1)] [] 0 _
  unfold f_T_is
  refine z_aload_n (pc := 0) hX dX11_is_0 rfl 0 rfl ?_
  refine gr_0_0C (pc := 1) hX q_235 dX11_is_1 ?_
  refine z_iload_n (pc := 4) hX dX11_is_4 rfl 1 rfl ?_
  refine z_rP (run_V (pc := 5) (As := [.int x1]) hX (rc_1 v_1_0) ⟨q_612, q_468, q_10⟩ q_466 q_467 hd_X0_has ⟨Nat.le_of_ble_eq_true rfl, Nat.le_of_ble_eq_true rfl⟩ (c_Co_has hG s 0 x1 v_1_0) rfl rfl (Nat.le_of_ble_eq_true rfl) dX11_is_5) (fun r1 => ?_)
  refine z_if_ne (pc := 8) (tgt := 16) hX dX11_is_8 rfl ?_ ?_
  · refine z_aload_n (pc := 16) hX dX11_is_16 rfl 0 rfl ?_
    refine z_iload_n (pc := 17) hX dX11_is_17 rfl 1 rfl ?_
    refine z_rP (run_V (pc := 18) (As := [.int x1]) hX rc_0 ⟨q_707, q_710, q_1⟩ q_709 qs_20 hd_X11_kindsThatFit ⟨Nat.le_of_ble_eq_true rfl, Nat.le_of_ble_eq_true rfl⟩ (c_T_kindsThatFit hG s x1) rfl rfl (Nat.le_of_ble_eq_true rfl) dX11_is_18) (fun r2 => ?_)
    exact z_retI (pc := 21) hX dX11_is_21
  · refine z_aload_n (pc := 11) hX dX11_is_11 rfl 0 rfl ?_
    refine z_rI (run_V (pc := 12) (As := []) hX rc_0 ⟨q_288, q_291, q_1⟩ q_290 qs_0 hd_X11_bad ⟨Nat.le_of_ble_eq_true rfl, Nat.le_of_ble_eq_true rfl⟩ (c_T_bad hG s) rfl rfl (Nat.le_of_ble_eq_true rfl) dX11_is_12) (fun r3 s4 => ?_)
    exact z_retI (pc := 15) hX dX11_is_15
theorem hd_X11_next : yX11_next.cls ≠ "java/lang/invoke/MethodHandle" ∧ yX11_next.cls ≠ "java/lang/invoke/VarHandle" ∧ (parseMethodDescriptor yX11_next.desc).map (fun d => d.parameters.length) = some 1 := by decide +kernel
def l_T_next_43 (s : Sto) (x1 : Int32) (r2 : Int32) (r3 : Int32) (rc7 : Int32 → Int32 → Int32 → Option (Int32 × Sto)) (v4_4 : Int32) (v5_5 : Int32) (v6_6 : Int32) : Option (Int32 × Sto) :=
  if (8 : Int32) ≤ v6_6 then some (v4_4, s) else bP (f_Co_kindsThatLift s 0 x1 v6_6) (fun r8 => bP (f_J_bitCount (r2 &&& r8)) (fun r9 => lt (imx r9 (r3 - r9)) (fun v8_10 => jn (fun v4_11 v5_12 => rc7 v4_11 v5_12 (v6_6 + (1 : Int32))) (fun j13 => if v5_5 ≤ v8_10 then j13 v4_4 v5_5 else j13 v6_6 v8_10))))
def f_T_next (s : Sto) (x1 : Int32) : Option (Int32 × Sto) :=
  bP (f_Co_has s 0 x1) (fun r1 => if r1 = (0 : Int32) then bI (f_T_bad s) (fun r14 s15 => some (r14, s15)) else bP (f_T_kindsThatFit s x1) (fun r2 => if r2 = (0 : Int32) then some ((-1 : Int32), s) else bP (f_J_bitCount r2) (fun r3 => fx 1000 (l_T_next_43 s x1 r2 r3) (fun _ _ _ => none) (-1 : Int32) (7 : Int32) (0 : Int32))))
set_option maxRecDepth 100000 in
set_option maxHeartbeats 4000000 in
theorem c_T_next {G : Gb} {l : Launch} {o : Sto} {L : Lng} (hG : GA G) (s : Sto) (x1 : Int32)  : CT G l (EC o L) pvI psI yX11_next cX11_next 9 (some .int) 6 146 [.ref (ad G 0 0), .int x1] s (f_T_next s x1) := by
  refine CT.of hG (by decide) (Nat.le_of_ble_eq_true rfl) (fun X hX => ?_)
  have hX : OX G X l cX11_next 9 "CrownTwo" (some .int) 6 146 := hX
  show ZR G X (EC o L) pvI psI 9 s [(0, .ref (ad G 0 0)), (1, .int x1)] [] 0 _
  unfold f_T_next
  refine z_aload_n (pc := 0) hX dX11_next_0 rfl 0 rfl ?_
  refine gr_0_0C (pc := 1) hX q_235 dX11_next_1 ?_
  refine z_iload_n (pc := 4) hX dX11_next_4 rfl 1 rfl ?_
  refine z_rP (run_V (pc := 5) (As := [.int x1]) hX (rc_1 v_1_0) ⟨q_612, q_468, q_10⟩ q_466 q_467 hd_X0_has ⟨Nat.le_of_ble_eq_true rfl, Nat.le_of_ble_eq_true rfl⟩ (c_Co_has hG s 0 x1 v_1_0) rfl rfl (Nat.le_of_ble_eq_true rfl) dX11_next_5) (fun r1 => ?_)
  refine z_if_ne (pc := 8) (tgt := 16) hX dX11_next_8 rfl ?_ ?_
  · refine z_aload_n (pc := 16) hX dX11_next_16 rfl 0 rfl ?_
    refine z_iload_n (pc := 17) hX dX11_next_17 rfl 1 rfl ?_
    refine z_rP (run_V (pc := 18) (As := [.int x1]) hX rc_0 ⟨q_707, q_710, q_1⟩ q_709 qs_20 hd_X11_kindsThatFit ⟨Nat.le_of_ble_eq_true rfl, Nat.le_of_ble_eq_true rfl⟩ (c_T_kindsThatFit hG s x1) rfl rfl (Nat.le_of_ble_eq_true rfl) dX11_next_18) (fun r2 => ?_)
    refine z_istore_n (pc := 21) (ls' := [(2, .int r2), (0, .ref (ad G 0 0)), (1, .int x1)]) hX dX11_next_21 rfl (by decide) rfl ?_
    refine z_iload_n (pc := 22) hX dX11_next_22 rfl 0 rfl ?_
    refine z_if_ne (pc := 23) (tgt := 28) hX dX11_next_23 rfl ?_ ?_
    · refine z_iload_n (pc := 28) hX dX11_next_28 rfl 0 rfl ?_
      refine z_rP (run_S (pc := 29) (As := [.int r2]) hX ⟨q_724, q_726, q_20⟩ q_725 hd_J6_bitCount_0f7a4 ⟨Nat.le_of_ble_eq_true rfl, Nat.le_of_ble_eq_true rfl⟩ (c_J_bitCount hG s r2) rfl rfl (Nat.le_of_ble_eq_true rfl) dX11_next_29) (fun r3 => ?_)
      refine z_istore_n (pc := 32) (ls' := [(3, .int r3), (2, .int r2), (0, .ref (ad G 0 0)), (1, .int x1)]) hX dX11_next_32 rfl (by decide) rfl ?_
      refine z_iconst (pc := 33) hX dX11_next_33 ic_m1 ?_
      refine z_istore (pc := 34) (ls' := [(4, .int (-1 : Int32)), (3, .int r3), (2, .int r2), (0, .ref (ad G 0 0)), (1, .int x1)]) hX dX11_next_34 (by decide) rfl ?_
      refine z_bipush (pc := 36) hX dX11_next_36 bp_7 ?_
      refine z_istore (pc := 38) (ls' := [(5, .int (7 : Int32)), (4, .int (-1 : Int32)), (3, .int r3), (2, .int r2), (0, .ref (ad G 0 0)), (1, .int x1)]) hX dX11_next_38 (by decide) rfl ?_
      refine z_iconst (pc := 40) hX dX11_next_40 ic_0 ?_
      refine z_istore (pc := 41) (ls' := [(6, .int (0 : Int32)), (5, .int (7 : Int32)), (4, .int (-1 : Int32)), (3, .int r3), (2, .int r2), (0, .ref (ad G 0 0)), (1, .int x1)]) hX dX11_next_41 (by decide) rfl ?_
      refine z_ls [5, 6, 4, 3, 2, 1, 0] rfl ?_
      refine (fx_P (F := l_T_next_43 s x1 r2 r3) (b := (fun _ _ _ => none)) (fun rc7 => ∀ (v4_4 : Int32) (v5_5 : Int32) (v6_6 : Int32), ZR G X (EC o L) pvI psI 9 s [(0, .ref (ad G 0 0)), (1, .int x1), (2, .int r2), (3, .int r3), (4, .int v4_4), (5, .int v5_5), (6, .int v6_6)] [] 43 (rc7 v4_4 v5_5 v6_6)) ?_ ?_ 1000) (-1 : Int32) (7 : Int32) (0 : Int32)
      · intro v4_4 v5_5 v6_6; exact z_none
      · intro rc7 hrc7 v4_4 v5_5 v6_6
        unfold l_T_next_43
        refine z_iload (pc := 43) hX dX11_next_43 6 rfl ?_
        refine z_bipush (pc := 45) hX dX11_next_45 bp_8 ?_
        refine z_icmp_ge (pc := 47) (tgt := 99) hX dX11_next_47 rfl ?_ ?_
        · refine z_iload (pc := 99) hX dX11_next_99 4 rfl ?_
          exact z_retI (pc := 101) hX dX11_next_101
        · refine z_iload_n (pc := 50) hX dX11_next_50 rfl 2 rfl ?_
          refine z_aload_n (pc := 51) hX dX11_next_51 rfl 0 rfl ?_
          refine gr_0_0C (pc := 52) hX q_235 dX11_next_52 ?_
          refine z_iload_n (pc := 55) hX dX11_next_55 rfl 1 rfl ?_
          refine z_iload (pc := 56) hX dX11_next_56 6 rfl ?_
          refine z_rP (run_V (pc := 58) (As := [.int x1, .int v6_6]) hX (rc_1 v_1_0) ⟨q_730, q_733, q_10⟩ q_731 q_732 hd_X0_kindsThatLift ⟨Nat.le_of_ble_eq_true rfl, Nat.le_of_ble_eq_true rfl⟩ (c_Co_kindsThatLift hG s 0 x1 v6_6 v_1_0) rfl rfl (Nat.le_of_ble_eq_true rfl) dX11_next_58) (fun r8 => ?_)
          refine z_iand (pc := 61) hX dX11_next_61 ?_
          refine z_rP (run_S (pc := 62) (As := [.int (r2 &&& r8)]) hX ⟨q_724, q_726, q_20⟩ q_725 hd_J6_bitCount_0f7a4 ⟨Nat.le_of_ble_eq_true rfl, Nat.le_of_ble_eq_true rfl⟩ (c_J_bitCount hG s (r2 &&& r8)) rfl rfl (Nat.le_of_ble_eq_true rfl) dX11_next_62) (fun r9 => ?_)
          refine z_istore (pc := 65) (ls' := [(7, .int r9), (0, .ref (ad G 0 0)), (1, .int x1), (2, .int r2), (3, .int r3), (4, .int v4_4), (5, .int v5_5), (6, .int v6_6)]) hX dX11_next_65 (by decide) rfl ?_
          refine z_iload (pc := 67) hX dX11_next_67 0 rfl ?_
          refine z_iload_n (pc := 69) hX dX11_next_69 rfl 4 rfl ?_
          refine z_iload (pc := 70) hX dX11_next_70 0 rfl ?_
          refine z_isub (pc := 72) hX dX11_next_72 ?_
          refine z_max (pc := 73) hX q_734 q_545 q_18 q_546 (Nat.le_of_ble_eq_true rfl) (Nat.le_of_ble_eq_true rfl) dX11_next_73 ?_
          refine z_lti (pc := 76) (fun v8_10 => ?_)
          refine z_istore (pc := 76) (ls' := [(8, .int v8_10), (7, .int r9), (0, .ref (ad G 0 0)), (1, .int x1), (2, .int r2), (3, .int r3), (4, .int v4_4), (5, .int v5_5), (6, .int v6_6)]) hX dX11_next_76 (by decide) rfl ?_
          refine z_iload (pc := 78) hX dX11_next_78 0 rfl ?_
          refine z_iload (pc := 80) hX dX11_next_80 7 rfl ?_
          refine z_jn (P := fun j13 => ∀ (v4_11 : Int32) (v5_12 : Int32), ZR G X (EC o L) pvI psI 9 s [(0, .ref (ad G 0 0)), (1, .int x1), (2, .int r2), (3, .int r3), (4, .int v4_11), (5, .int v5_12), (6, .int v6_6)] [] 93 (j13 v4_11 v5_12)) ?_ ?_
          · intro v4_11 v5_12
            refine z_iinc (pc := 93) (n := 6) (v := v6_6 + (1 : Int32)) (ls' := [(6, .int (v6_6 + (1 : Int32))), (0, .ref (ad G 0 0)), (1, .int x1), (2, .int r2), (3, .int r3), (4, .int v4_11), (5, .int v5_12)]) hX dX11_next_93 rfl (by rw [show Int32.ofInt (1) = 1 by decide +kernel]) (by decide) rfl ?_
            refine z_goto (pc := 96) (tgt := 43) hX dX11_next_96 rfl ?_
            exact z_ls [1, 2, 3, 4, 5, 6, 0] rfl (hrc7 v4_11 v5_12 (v6_6 + (1 : Int32)))
          · intro j13 hj13
            refine z_icmp_ge (pc := 82) (tgt := 93) hX dX11_next_82 rfl ?_ ?_
            · exact z_ls [2, 3, 4, 5, 6, 7, 8] rfl (hj13 v4_4 v5_5)
            · refine z_iload (pc := 85) hX dX11_next_85 0 rfl ?_
              refine z_istore (pc := 87) (ls' := [(5, .int v8_10), (8, .int v8_10), (7, .int r9), (0, .ref (ad G 0 0)), (1, .int x1), (2, .int r2), (3, .int r3), (4, .int v4_4), (6, .int v6_6)]) hX dX11_next_87 (by decide) rfl ?_
              refine z_iload (pc := 89) hX dX11_next_89 8 rfl ?_
              refine z_istore (pc := 91) (ls' := [(4, .int v6_6), (5, .int v8_10), (8, .int v8_10), (7, .int r9), (0, .ref (ad G 0 0)), (1, .int x1), (2, .int r2), (3, .int r3), (6, .int v6_6)]) hX dX11_next_91 (by decide) rfl ?_
              exact z_ls [4, 5, 6, 7, 0, 1, 8] rfl (hj13 v6_6 v8_10)
    · refine z_iconst (pc := 26) hX dX11_next_26 ic_m1 ?_
      exact z_retI (pc := 27) hX dX11_next_27
  · refine z_aload_n (pc := 11) hX dX11_next_11 rfl 0 rfl ?_
    refine z_rI (run_V (pc := 12) (As := []) hX rc_0 ⟨q_288, q_291, q_1⟩ q_290 qs_0 hd_X11_bad ⟨Nat.le_of_ble_eq_true rfl, Nat.le_of_ble_eq_true rfl⟩ (c_T_bad hG s) rfl rfl (Nat.le_of_ble_eq_true rfl) dX11_next_12) (fun r14 s15 => ?_)
    exact z_retI (pc := 15) hX dX11_next_15
theorem hd_X11_reigns : yX11_reigns.cls ≠ "java/lang/invoke/MethodHandle" ∧ yX11_reigns.cls ≠ "java/lang/invoke/VarHandle" ∧ (parseMethodDescriptor yX11_reigns.desc).map (fun d => d.parameters.length) = some 2 := by decide +kernel
def l_T_reigns_68 (x2 : Int32) (rc11 : Sto → Int64 → Int32 → Option (Int32 × Sto)) (s8 : Sto) (v3_9 : Int64) (v5_10 : Int32) : Option (Int32 × Sto) :=
  if x2 ≤ v5_10 then bP (f_J_bitCount (s8 4 36 2)) (fun r12 => some (r12, s8)) else lt (((v3_9 * (1103515245 : Int64)) + (12345 : Int64)) - ((v3_9 * (1103515245 : Int64)) + (12345 : Int64)) / (2147483648 : Int64) * (2147483648 : Int64)) (fun v3_13 => lt (Int64.toInt32 ((v3_13 / (65536 : Int64)) - (v3_13 / (65536 : Int64)) / (8 : Int64) * (8 : Int64))) (fun v6_14 => bP (f_Mo_isDone s8 36 v6_14) (fun r15 => jn (fun s16 => bV (f_Co_passDays s16 0 36 (1 : Int32)) (fun s18 => rc11 s18 v3_13 (v5_10 + (1 : Int32)))) (fun j17 => if r15 = (0 : Int32) then bI (f_Co_askIn s8 0 36 v6_14) (fun r19 s20 => j17 s20) else j17 s8))))
def f_T_reigns (s : Sto) (x1 : Int32) (x2 : Int32) : Option (Int32 × Sto) :=
  bP (f_T_outside x1 (0 : Int32) (999999 : Int32)) (fun r1 => if r1 = (0 : Int32) then bP (f_T_outside x2 (0 : Int32) (60 : Int32)) (fun r4 => if r4 = (0 : Int32) then bP (f_Co_paired s 0 0) (fun r5 => if r5 = (0 : Int32) then bI (f_T_no s) (fun r21 s22 => some (r21, s22)) else bV (f_Mo_become s 36 0) (fun s6 => lt (Int32.toInt64 x1) (fun v3_7 => fx 1000 (l_T_reigns_68 x2) (fun _ _ _ => none) s6 v3_7 (0 : Int32)))) else bI (f_T_bad s) (fun r23 s24 => some (r23, s24))) else bI (f_T_bad s) (fun r2 s3 => some (r2, s3)))
set_option maxRecDepth 100000 in
set_option maxHeartbeats 4000000 in
theorem c_T_reigns {G : Gb} {l : Launch} {o : Sto} {L : Lng} (hG : GA G) (s : Sto) (x1 : Int32) (x2 : Int32)  : CT G l (EC o L) pvI psI yX11_reigns cX11_reigns 7 (some .int) 7 150 [.ref (ad G 0 0), .int x1, .int x2] s (f_T_reigns s x1 x2) := by
  refine CT.of hG (by decide) (Nat.le_of_ble_eq_true rfl) (fun X hX => ?_)
  have hX : OX G X l cX11_reigns 7 "CrownTwo" (some .int) 7 150 := hX
  show ZR G X (EC o L) pvI psI 7 s [(0, .ref (ad G 0 0)), (1, .int x1), (2, .int x2)] [] 0 _
  unfold f_T_reigns
  refine z_iload_n (pc := 0) hX dX11_reigns_0 rfl 1 rfl ?_
  refine z_iconst (pc := 1) hX dX11_reigns_1 ic_0 ?_
  refine z_ldcw (pc := 2) hX q_756 dX11_reigns_2 ?_
  refine z_rP (run_S (pc := 5) (As := [.int x1, .int (0 : Int32), .int (999999 : Int32)]) hX ⟨q_285, q_287, q_1⟩ q_286 hd_X11_outside ⟨Nat.le_of_ble_eq_true rfl, Nat.le_of_ble_eq_true rfl⟩ (c_T_outside hG s x1 (0 : Int32) (999999 : Int32)) rfl rfl (Nat.le_of_ble_eq_true rfl) dX11_reigns_5) (fun r1 => ?_)
  refine z_if_ne (pc := 8) (tgt := 21) hX dX11_reigns_8 rfl ?_ ?_
  · refine z_aload_n (pc := 21) hX dX11_reigns_21 rfl 0 rfl ?_
    refine z_rI (run_V (pc := 22) (As := []) hX rc_0 ⟨q_288, q_291, q_1⟩ q_290 qs_0 hd_X11_bad ⟨Nat.le_of_ble_eq_true rfl, Nat.le_of_ble_eq_true rfl⟩ (c_T_bad hG s) rfl rfl (Nat.le_of_ble_eq_true rfl) dX11_reigns_22) (fun r2 s3 => ?_)
    exact z_retI (pc := 25) hX dX11_reigns_25
  · refine z_iload_n (pc := 11) hX dX11_reigns_11 rfl 2 rfl ?_
    refine z_iconst (pc := 12) hX dX11_reigns_12 ic_0 ?_
    refine z_bipush (pc := 13) hX dX11_reigns_13 bp_60 ?_
    refine z_rP (run_S (pc := 15) (As := [.int x2, .int (0 : Int32), .int (60 : Int32)]) hX ⟨q_285, q_287, q_1⟩ q_286 hd_X11_outside ⟨Nat.le_of_ble_eq_true rfl, Nat.le_of_ble_eq_true rfl⟩ (c_T_outside hG s x2 (0 : Int32) (60 : Int32)) rfl rfl (Nat.le_of_ble_eq_true rfl) dX11_reigns_15) (fun r4 => ?_)
    refine z_if_eq (pc := 18) (tgt := 26) hX dX11_reigns_18 rfl ?_ ?_
    · refine z_aload_n (pc := 26) hX dX11_reigns_26 rfl 0 rfl ?_
      refine gr_0_0C (pc := 27) hX q_235 dX11_reigns_27 ?_
      refine z_aload_n (pc := 30) hX dX11_reigns_30 rfl 0 rfl ?_
      refine gr_0_0C (pc := 31) hX q_235 dX11_reigns_31 ?_
      refine gr_1_4C (pc := 34) hX v_1_0 q_208 dX11_reigns_34 ?_
      refine z_rP (run_V (pc := 37) (As := [.ref (ad G 4 0)]) hX (rc_1 v_1_0) ⟨q_481, q_484, q_10⟩ q_482 q_483 hd_X0_paired ⟨Nat.le_of_ble_eq_true rfl, Nat.le_of_ble_eq_true rfl⟩ (c_Co_paired hG s 0 0 v_1_0 v_4_0) rfl rfl (Nat.le_of_ble_eq_true rfl) dX11_reigns_37) (fun r5 => ?_)
      refine z_if_ne (pc := 40) (tgt := 48) hX dX11_reigns_40 rfl ?_ ?_
      · refine z_aload_n (pc := 48) hX dX11_reigns_48 rfl 0 rfl ?_
        refine gr_0_5C (pc := 49) hX q_240 dX11_reigns_49 ?_
        refine z_aload_n (pc := 52) hX dX11_reigns_52 rfl 0 rfl ?_
        refine gr_0_0C (pc := 53) hX q_235 dX11_reigns_53 ?_
        refine gr_1_4C (pc := 56) hX v_1_0 q_208 dX11_reigns_56 ?_
        refine z_rV (run_V (pc := 59) (As := [.ref (ad G 4 0)]) hX (rc_4 v_4_36) ⟨q_631, q_442, q_3⟩ q_440 q_441 hd_X5_become ⟨Nat.le_of_ble_eq_true rfl, Nat.le_of_ble_eq_true rfl⟩ (c_Mo_become hG s 36 0 v_4_36 v_4_0) rfl rfl (Nat.le_of_ble_eq_true rfl) dX11_reigns_59) (fun s6 => ?_)
        refine z_iload_n (pc := 62) hX dX11_reigns_62 rfl 1 rfl ?_
        refine z_i2l (pc := 63) hX dX11_reigns_63 ?_
        refine z_ltl (pc := 64) (fun v3_7 => ?_)
        refine z_lstore_n (pc := 64) (ls' := [(3, .long v3_7), (0, .ref (ad G 0 0)), (1, .int x1), (2, .int x2)]) hX dX11_reigns_64 rfl (by decide) rfl ?_
        refine z_iconst (pc := 65) hX dX11_reigns_65 ic_0 ?_
        refine z_istore (pc := 66) (ls' := [(5, .int (0 : Int32)), (3, .long v3_7), (0, .ref (ad G 0 0)), (1, .int x1), (2, .int x2)]) hX dX11_reigns_66 (by decide) rfl ?_
        refine z_ls [2, 4, 1, 0] rfl ?_
        refine (fx_P (F := l_T_reigns_68 x2) (b := (fun _ _ _ => none)) (fun rc11 => ∀ (s8 : Sto) (v3_9 : Int64) (v5_10 : Int32), ZR G X (EC o L) pvI psI 7 s8 [(0, .ref (ad G 0 0)), (2, .int x2), (3, .long v3_9), (5, .int v5_10)] [] 68 (rc11 s8 v3_9 v5_10)) ?_ ?_ 1000) s6 v3_7 (0 : Int32)
        · intro s8 v3_9 v5_10; exact z_none
        · intro rc11 hrc11 s8 v3_9 v5_10
          unfold l_T_reigns_68
          refine z_iload (pc := 68) hX dX11_reigns_68 3 rfl ?_
          refine z_iload_n (pc := 70) hX dX11_reigns_70 rfl 1 rfl ?_
          refine z_icmp_ge (pc := 71) (tgt := 144) hX dX11_reigns_71 rfl ?_ ?_
          · refine z_aload_n (pc := 144) hX dX11_reigns_144 rfl 0 rfl ?_
            refine gr_0_5C (pc := 145) hX q_240 dX11_reigns_145 ?_
            refine gf_4_2C (pc := 148) hX v_4_36 q_72 dX11_reigns_148 ?_
            refine z_rP (run_S (pc := 151) (As := [.int (s8 4 36 2)]) hX ⟨q_724, q_726, q_20⟩ q_725 hd_J6_bitCount_0f7a4 ⟨Nat.le_of_ble_eq_true rfl, Nat.le_of_ble_eq_true rfl⟩ (c_J_bitCount hG s8 (s8 4 36 2)) rfl rfl (Nat.le_of_ble_eq_true rfl) dX11_reigns_151) (fun r12 => ?_)
            exact z_retI (pc := 154) hX dX11_reigns_154
          · refine z_lload_n (pc := 74) hX dX11_reigns_74 rfl 2 rfl ?_
            refine z_ldc2 (pc := 75) hX q_757 dX11_reigns_75 ?_
            refine z_lmul (pc := 78) hX dX11_reigns_78 ?_
            refine z_ldc2 (pc := 79) hX q_758 dX11_reigns_79 ?_
            refine z_ladd (pc := 82) hX dX11_reigns_82 ?_
            refine z_ldc2 (pc := 83) hX q_759 dX11_reigns_83 ?_
            refine z_lremc (pc := 86) hX dX11_reigns_86 (by decide +kernel) ?_
            refine z_ltl (pc := 87) (fun v3_13 => ?_)
            refine z_lstore_n (pc := 87) (ls' := [(3, .long v3_13), (0, .ref (ad G 0 0)), (2, .int x2), (5, .int v5_10)]) hX dX11_reigns_87 rfl (by decide) rfl ?_
            refine z_lload_n (pc := 88) hX dX11_reigns_88 rfl 0 rfl ?_
            refine z_ldc2 (pc := 89) hX q_760 dX11_reigns_89 ?_
            refine z_ldivc (pc := 92) hX dX11_reigns_92 (by decide +kernel) ?_
            refine z_ldc2 (pc := 93) hX q_761 dX11_reigns_93 ?_
            refine z_lremc (pc := 96) hX dX11_reigns_96 (by decide +kernel) ?_
            refine z_l2i (pc := 97) hX dX11_reigns_97 ?_
            refine z_lti (pc := 98) (fun v6_14 => ?_)
            refine z_istore (pc := 98) (ls' := [(6, .int v6_14), (3, .long v3_13), (0, .ref (ad G 0 0)), (2, .int x2), (5, .int v5_10)]) hX dX11_reigns_98 (by decide) rfl ?_
            refine z_aload_n (pc := 100) hX dX11_reigns_100 rfl 2 rfl ?_
            refine gr_0_5C (pc := 101) hX q_240 dX11_reigns_101 ?_
            refine z_iload (pc := 104) hX dX11_reigns_104 0 rfl ?_
            refine z_rP (run_V (pc := 106) (As := [.int v6_14]) hX (rc_4 v_4_36) ⟨q_486, q_489, q_3⟩ q_487 q_488 hd_X5_isDone ⟨Nat.le_of_ble_eq_true rfl, Nat.le_of_ble_eq_true rfl⟩ (c_Mo_isDone hG s8 36 v6_14 v_4_36) rfl rfl (Nat.le_of_ble_eq_true rfl) dX11_reigns_106) (fun r15 => ?_)
            refine z_jn (P := fun j17 => ∀ (s16 : Sto), ZR G X (EC o L) pvI psI 7 s16 [(0, .ref (ad G 0 0)), (2, .int x2), (3, .long v3_13), (5, .int v5_10)] [] 126 (j17 s16)) ?_ ?_
            · intro s16
              refine z_aload_n (pc := 126) hX dX11_reigns_126 rfl 0 rfl ?_
              refine gr_0_0C (pc := 127) hX q_235 dX11_reigns_127 ?_
              refine z_aload_n (pc := 130) hX dX11_reigns_130 rfl 0 rfl ?_
              refine gr_0_5C (pc := 131) hX q_240 dX11_reigns_131 ?_
              refine z_iconst (pc := 134) hX dX11_reigns_134 ic_1 ?_
              refine z_rV (run_V (pc := 135) (As := [.ref (ad G 4 36), .int (1 : Int32)]) hX (rc_1 v_1_0) ⟨q_551, q_554, q_10⟩ q_552 q_553 hd_X0_passDays ⟨Nat.le_of_ble_eq_true rfl, Nat.le_of_ble_eq_true rfl⟩ (c_Co_passDays hG s16 0 36 (1 : Int32) v_1_0 v_4_36) rfl rfl (Nat.le_of_ble_eq_true rfl) dX11_reigns_135) (fun s18 => ?_)
              refine z_iinc (pc := 138) (n := 3) (v := v5_10 + (1 : Int32)) (ls' := [(5, .int (v5_10 + (1 : Int32))), (0, .ref (ad G 0 0)), (2, .int x2), (3, .long v3_13)]) hX dX11_reigns_138 rfl (by rw [show Int32.ofInt (1) = 1 by decide +kernel]) (by decide) rfl ?_
              refine z_goto (pc := 141) (tgt := 68) hX dX11_reigns_141 rfl ?_
              exact z_ls [1, 2, 3, 0] rfl (hrc11 s18 v3_13 (v5_10 + (1 : Int32)))
            · intro j17 hj17
              refine z_if_ne (pc := 109) (tgt := 126) hX dX11_reigns_109 rfl ?_ ?_
              · exact z_ls [2, 3, 1, 4] rfl (hj17 s8)
              · refine z_aload_n (pc := 112) hX dX11_reigns_112 rfl 2 rfl ?_
                refine gr_0_0C (pc := 113) hX q_235 dX11_reigns_113 ?_
                refine z_aload_n (pc := 116) hX dX11_reigns_116 rfl 2 rfl ?_
                refine gr_0_5C (pc := 117) hX q_240 dX11_reigns_117 ?_
                refine z_iload (pc := 120) hX dX11_reigns_120 0 rfl ?_
                refine z_rI (run_V (pc := 122) (As := [.ref (ad G 4 36), .int v6_14]) hX (rc_1 v_1_0) ⟨q_494, q_497, q_10⟩ q_495 q_496 hd_X0_askIn ⟨Nat.le_of_ble_eq_true rfl, Nat.le_of_ble_eq_true rfl⟩ (c_Co_askIn hG s8 0 36 v6_14 v_1_0 v_4_36) rfl rfl (Nat.le_of_ble_eq_true rfl) dX11_reigns_122) (fun r19 s20 => ?_)
                refine z_pop (pc := 125) hX dX11_reigns_125 rfl ?_
                exact z_ls [2, 3, 1, 4] rfl (hj17 s20)
      · refine z_aload_n (pc := 43) hX dX11_reigns_43 rfl 0 rfl ?_
        refine z_rI (run_V (pc := 44) (As := []) hX rc_0 ⟨q_490, q_493, q_1⟩ q_492 qs_13 hd_X11_no ⟨Nat.le_of_ble_eq_true rfl, Nat.le_of_ble_eq_true rfl⟩ (c_T_no hG s) rfl rfl (Nat.le_of_ble_eq_true rfl) dX11_reigns_44) (fun r21 s22 => ?_)
        exact z_retI (pc := 47) hX dX11_reigns_47
    · refine z_aload_n (pc := 21) hX dX11_reigns_21 rfl 0 rfl ?_
      refine z_rI (run_V (pc := 22) (As := []) hX rc_0 ⟨q_288, q_291, q_1⟩ q_290 qs_0 hd_X11_bad ⟨Nat.le_of_ble_eq_true rfl, Nat.le_of_ble_eq_true rfl⟩ (c_T_bad hG s) rfl rfl (Nat.le_of_ble_eq_true rfl) dX11_reigns_22) (fun r23 s24 => ?_)
      exact z_retI (pc := 25) hX dX11_reigns_25
theorem hd_X11_lastingOf : yX11_lastingOf.cls ≠ "java/lang/invoke/MethodHandle" ∧ yX11_lastingOf.cls ≠ "java/lang/invoke/VarHandle" ∧ (parseMethodDescriptor yX11_lastingOf.desc).map (fun d => d.parameters.length) = some 2 := by decide +kernel
def f_T_lastingOf (s : Sto) (x1 : Int32) (x2 : Int32) : Option (Int32 × Sto) :=
  bP (f_Co_changeBy s 0 x1 x2) (fun r1 => bI (f_T_daysToFriends s r1) (fun r2 s3 => if r2 = (-1 : Int32) then some ((91 : Int32), s3) else some (r2, s3)))
set_option maxRecDepth 100000 in
set_option maxHeartbeats 4000000 in
theorem c_T_lastingOf {G : Gb} {l : Launch} {o : Sto} {L : Lng} (hG : GA G) (s : Sto) (x1 : Int32) (x2 : Int32)  : CT G l (EC o L) pvI psI yX11_lastingOf cX11_lastingOf 4 (some .int) 5 107 [.ref (ad G 0 0), .int x1, .int x2] s (f_T_lastingOf s x1 x2) := by
  refine CT.of hG (by decide) (Nat.le_of_ble_eq_true rfl) (fun X hX => ?_)
  have hX : OX G X l cX11_lastingOf 4 "CrownTwo" (some .int) 5 107 := hX
  show ZR G X (EC o L) pvI psI 4 s [(0, .ref (ad G 0 0)), (1, .int x1), (2, .int x2)] [] 0 _
  unfold f_T_lastingOf
  refine z_aload_n (pc := 0) hX dX11_lastingOf_0 rfl 0 rfl ?_
  refine z_aload_n (pc := 1) hX dX11_lastingOf_1 rfl 0 rfl ?_
  refine gr_0_0C (pc := 2) hX q_235 dX11_lastingOf_2 ?_
  refine z_iload_n (pc := 5) hX dX11_lastingOf_5 rfl 1 rfl ?_
  refine z_iload_n (pc := 6) hX dX11_lastingOf_6 rfl 2 rfl ?_
  refine z_rP (run_V (pc := 7) (As := [.int x1, .int x2]) hX (rc_1 v_1_0) ⟨q_681, q_563, q_10⟩ q_561 q_562 hd_X0_changeBy ⟨Nat.le_of_ble_eq_true rfl, Nat.le_of_ble_eq_true rfl⟩ (c_Co_changeBy hG s 0 x1 x2 v_1_0) rfl rfl (Nat.le_of_ble_eq_true rfl) dX11_lastingOf_7) (fun r1 => ?_)
  refine z_rI (run_V (pc := 10) (As := [.int r1]) hX rc_0 ⟨q_641, q_644, q_1⟩ q_643 qs_14 hd_X11_daysToFriends ⟨Nat.le_of_ble_eq_true rfl, Nat.le_of_ble_eq_true rfl⟩ (c_T_daysToFriends hG s r1) rfl rfl (Nat.le_of_ble_eq_true rfl) dX11_lastingOf_10) (fun r2 s3 => ?_)
  refine z_istore_n (pc := 13) (ls' := [(3, .int r2), (0, .ref (ad G 0 0)), (1, .int x1), (2, .int x2)]) hX dX11_lastingOf_13 rfl (by decide) rfl ?_
  refine z_iload_n (pc := 14) hX dX11_lastingOf_14 rfl 0 rfl ?_
  refine z_iconst (pc := 15) hX dX11_lastingOf_15 ic_m1 ?_
  refine z_icmp_ne (pc := 16) (tgt := 24) hX dX11_lastingOf_16 rfl ?_ ?_
  · refine z_iload_n (pc := 24) hX dX11_lastingOf_24 rfl 0 rfl ?_
    exact z_retI (pc := 25) hX dX11_lastingOf_25
  · refine z_bipush (pc := 19) hX dX11_lastingOf_19 bp_91 ?_
    refine z_goto (pc := 21) (tgt := 25) hX dX11_lastingOf_21 rfl ?_
    exact z_retI (pc := 25) hX dX11_lastingOf_25
theorem hd_X11_bestPair : yX11_bestPair.cls ≠ "java/lang/invoke/MethodHandle" ∧ yX11_bestPair.cls ≠ "java/lang/invoke/VarHandle" ∧ (parseMethodDescriptor yX11_bestPair.desc).map (fun d => d.parameters.length) = some 0 := by decide +kernel
def l_T_bestPair_22 (v3_4 : Int32) (K10 : Sto → Int32 → Int32 → Option (Int32 × Sto)) (rc15 : Sto → Int32 → Int32 → Int32 → Option (Int32 × Sto)) (s11 : Sto) (v1_12 : Int32) (v2_13 : Int32) (v4_14 : Int32) : Option (Int32 × Sto) :=
  if (s11 1 0 5) ≤ v4_14 then K10 s11 v1_12 v2_13 else bI (f_T_lastingOf s11 v3_4 v4_14) (fun r16 s17 => jn (fun v1_18 v2_19 => rc15 s17 v1_18 v2_19 (v4_14 + (1 : Int32))) (fun j20 => if r16 ≤ v2_13 then j20 v1_12 v2_13 else lt (((10 : Int32) * v3_4) + v4_14) (fun v1_21 => j20 v1_21 r16)))
def l_T_bestPair_6  (rc5 : Sto → Int32 → Int32 → Int32 → Option (Int32 × Sto)) (s1 : Sto) (v1_2 : Int32) (v2_3 : Int32) (v3_4 : Int32) : Option (Int32 × Sto) :=
  if (s1 1 0 5) ≤ v3_4 then some (v1_2, s1) else lt (v3_4 + (1 : Int32)) (fun v4_6 => jn (fun s7 v1_8 v2_9 => rc5 s7 v1_8 v2_9 (v3_4 + (1 : Int32))) (fun K10 => fx 1000 (l_T_bestPair_22 v3_4 K10) (fun _ _ _ _ => none) s1 v1_2 v2_3 v4_6))
def f_T_bestPair (s : Sto)  : Option (Int32 × Sto) :=
  fx 1000 (l_T_bestPair_6) (fun _ _ _ _ => none) s (-1 : Int32) (-1 : Int32) (0 : Int32)
set_option maxRecDepth 100000 in
set_option maxHeartbeats 4000000 in
theorem c_T_bestPair {G : Gb} {l : Launch} {o : Sto} {L : Lng} (hG : GA G) (s : Sto)   : CT G l (EC o L) pvI psI yX11_bestPair cX11_bestPair 6 (some .int) 6 130 [.ref (ad G 0 0)] s (f_T_bestPair s) := by
  refine CT.of hG (by decide) (Nat.le_of_ble_eq_true rfl) (fun X hX => ?_)
  have hX : OX G X l cX11_bestPair 6 "CrownTwo" (some .int) 6 130 := hX
  show ZR G X (EC o L) pvI psI 6 s [(0, .ref (ad G 0 0))] [] 0 _
  unfold f_T_bestPair
  refine z_iconst (pc := 0) hX dX11_bestPair_0 ic_m1 ?_
  refine z_istore_n (pc := 1) (ls' := [(1, .int (-1 : Int32)), (0, .ref (ad G 0 0))]) hX dX11_bestPair_1 rfl (by decide) rfl ?_
  refine z_iconst (pc := 2) hX dX11_bestPair_2 ic_m1 ?_
  refine z_istore_n (pc := 3) (ls' := [(2, .int (-1 : Int32)), (1, .int (-1 : Int32)), (0, .ref (ad G 0 0))]) hX dX11_bestPair_3 rfl (by decide) rfl ?_
  refine z_iconst (pc := 4) hX dX11_bestPair_4 ic_0 ?_
  refine z_istore_n (pc := 5) (ls' := [(3, .int (0 : Int32)), (2, .int (-1 : Int32)), (1, .int (-1 : Int32)), (0, .ref (ad G 0 0))]) hX dX11_bestPair_5 rfl (by decide) rfl ?_
  refine z_ls [3, 2, 1, 0] rfl ?_
  refine (fx_P (F := l_T_bestPair_6) (b := (fun _ _ _ _ => none)) (fun rc5 => ∀ (s1 : Sto) (v1_2 : Int32) (v2_3 : Int32) (v3_4 : Int32), ZR G X (EC o L) pvI psI 6 s1 [(0, .ref (ad G 0 0)), (1, .int v1_2), (2, .int v2_3), (3, .int v3_4)] [] 6 (rc5 s1 v1_2 v2_3 v3_4)) ?_ ?_ 1000) s (-1 : Int32) (-1 : Int32) (0 : Int32)
  · intro s1 v1_2 v2_3 v3_4; exact z_none
  · intro rc5 hrc5 s1 v1_2 v2_3 v3_4
    unfold l_T_bestPair_6
    refine z_iload_n (pc := 6) hX dX11_bestPair_6 rfl 3 rfl ?_
    refine z_aload_n (pc := 7) hX dX11_bestPair_7 rfl 0 rfl ?_
    refine gr_0_0C (pc := 8) hX q_235 dX11_bestPair_8 ?_
    refine gf_1_5C (pc := 11) hX v_1_0 q_211 dX11_bestPair_11 ?_
    refine z_icmp_ge (pc := 14) (tgt := 72) hX dX11_bestPair_14 rfl ?_ ?_
    · refine z_iload_n (pc := 72) hX dX11_bestPair_72 rfl 1 rfl ?_
      exact z_retI (pc := 73) hX dX11_bestPair_73
    · refine z_iload_n (pc := 17) hX dX11_bestPair_17 rfl 3 rfl ?_
      refine z_iconst (pc := 18) hX dX11_bestPair_18 ic_1 ?_
      refine z_iadd (pc := 19) hX dX11_bestPair_19 ?_
      refine z_lti (pc := 20) (fun v4_6 => ?_)
      refine z_istore (pc := 20) (ls' := [(4, .int v4_6), (0, .ref (ad G 0 0)), (1, .int v1_2), (2, .int v2_3), (3, .int v3_4)]) hX dX11_bestPair_20 (by decide) rfl ?_
      refine z_jn (P := fun K10 => ∀ (s7 : Sto) (v1_8 : Int32) (v2_9 : Int32), ZR G X (EC o L) pvI psI 6 s7 [(0, .ref (ad G 0 0)), (1, .int v1_8), (2, .int v2_9), (3, .int v3_4)] [] 66 (K10 s7 v1_8 v2_9)) ?_ ?_
      · intro s7 v1_8 v2_9
        refine z_iinc (pc := 66) (n := 3) (v := v3_4 + (1 : Int32)) (ls' := [(3, .int (v3_4 + (1 : Int32))), (0, .ref (ad G 0 0)), (1, .int v1_8), (2, .int v2_9)]) hX dX11_bestPair_66 rfl (by rw [show Int32.ofInt (1) = 1 by decide +kernel]) (by decide) rfl ?_
        refine z_goto (pc := 69) (tgt := 6) hX dX11_bestPair_69 rfl ?_
        exact z_ls [1, 2, 3, 0] rfl (hrc5 s7 v1_8 v2_9 (v3_4 + (1 : Int32)))
      · intro K10 hK10
        refine z_ls [1, 2, 3, 4, 0] rfl ?_
        refine (fx_P (F := l_T_bestPair_22 v3_4 K10) (b := (fun _ _ _ _ => none)) (fun rc15 => ∀ (s11 : Sto) (v1_12 : Int32) (v2_13 : Int32) (v4_14 : Int32), ZR G X (EC o L) pvI psI 6 s11 [(0, .ref (ad G 0 0)), (1, .int v1_12), (2, .int v2_13), (3, .int v3_4), (4, .int v4_14)] [] 22 (rc15 s11 v1_12 v2_13 v4_14)) ?_ ?_ 1000) s1 v1_2 v2_3 v4_6
        · intro s11 v1_12 v2_13 v4_14; exact z_none
        · intro rc15 hrc15 s11 v1_12 v2_13 v4_14
          unfold l_T_bestPair_22
          refine z_iload (pc := 22) hX dX11_bestPair_22 4 rfl ?_
          refine z_aload_n (pc := 24) hX dX11_bestPair_24 rfl 0 rfl ?_
          refine gr_0_0C (pc := 25) hX q_235 dX11_bestPair_25 ?_
          refine gf_1_5C (pc := 28) hX v_1_0 q_211 dX11_bestPair_28 ?_
          refine z_icmp_ge (pc := 31) (tgt := 66) hX dX11_bestPair_31 rfl ?_ ?_
          · exact z_ls [0, 1, 2, 3] rfl (hK10 s11 v1_12 v2_13)
          · refine z_aload_n (pc := 34) hX dX11_bestPair_34 rfl 0 rfl ?_
            refine z_iload_n (pc := 35) hX dX11_bestPair_35 rfl 3 rfl ?_
            refine z_iload (pc := 36) hX dX11_bestPair_36 4 rfl ?_
            refine z_rI (run_V (pc := 38) (As := [.int v3_4, .int v4_14]) hX rc_0 ⟨q_677, q_680, q_1⟩ q_679 qs_17 hd_X11_lastingOf ⟨Nat.le_of_ble_eq_true rfl, Nat.le_of_ble_eq_true rfl⟩ (c_T_lastingOf hG s11 v3_4 v4_14) rfl rfl (Nat.le_of_ble_eq_true rfl) dX11_bestPair_38) (fun r16 s17 => ?_)
            refine z_istore (pc := 41) (ls' := [(5, .int r16), (0, .ref (ad G 0 0)), (1, .int v1_12), (2, .int v2_13), (3, .int v3_4), (4, .int v4_14)]) hX dX11_bestPair_41 (by decide) rfl ?_
            refine z_iload (pc := 43) hX dX11_bestPair_43 0 rfl ?_
            refine z_iload_n (pc := 45) hX dX11_bestPair_45 rfl 3 rfl ?_
            refine z_jn (P := fun j20 => ∀ (v1_18 : Int32) (v2_19 : Int32), ZR G X (EC o L) pvI psI 6 s17 [(0, .ref (ad G 0 0)), (1, .int v1_18), (2, .int v2_19), (3, .int v3_4), (4, .int v4_14)] [] 60 (j20 v1_18 v2_19)) ?_ ?_
            · intro v1_18 v2_19
              refine z_iinc (pc := 60) (n := 4) (v := v4_14 + (1 : Int32)) (ls' := [(4, .int (v4_14 + (1 : Int32))), (0, .ref (ad G 0 0)), (1, .int v1_18), (2, .int v2_19), (3, .int v3_4)]) hX dX11_bestPair_60 rfl (by rw [show Int32.ofInt (1) = 1 by decide +kernel]) (by decide) rfl ?_
              refine z_goto (pc := 63) (tgt := 22) hX dX11_bestPair_63 rfl ?_
              exact z_ls [1, 2, 3, 4, 0] rfl (hrc15 s17 v1_18 v2_19 (v4_14 + (1 : Int32)))
            · intro j20 hj20
              refine z_icmp_le (pc := 46) (tgt := 60) hX dX11_bestPair_46 rfl ?_ ?_
              · exact z_ls [1, 2, 3, 4, 5] rfl (hj20 v1_12 v2_13)
              · refine z_iload (pc := 49) hX dX11_bestPair_49 0 rfl ?_
                refine z_istore_n (pc := 51) (ls' := [(2, .int r16), (5, .int r16), (0, .ref (ad G 0 0)), (1, .int v1_12), (3, .int v3_4), (4, .int v4_14)]) hX dX11_bestPair_51 rfl (by decide) rfl ?_
                refine z_bipush (pc := 52) hX dX11_bestPair_52 bp_10 ?_
                refine z_iload_n (pc := 54) hX dX11_bestPair_54 rfl 4 rfl ?_
                refine z_imul (pc := 55) hX dX11_bestPair_55 ?_
                refine z_iload (pc := 56) hX dX11_bestPair_56 5 rfl ?_
                refine z_iadd (pc := 58) hX dX11_bestPair_58 ?_
                refine z_lti (pc := 59) (fun v1_21 => ?_)
                refine z_istore_n (pc := 59) (ls' := [(1, .int v1_21), (2, .int r16), (5, .int r16), (0, .ref (ad G 0 0)), (3, .int v3_4), (4, .int v4_14)]) hX dX11_bestPair_59 rfl (by decide) rfl ?_
                exact z_ls [3, 0, 1, 4, 5] rfl (hj20 v1_21 r16)
theorem hd_X11_lasts : yX11_lasts.cls ≠ "java/lang/invoke/MethodHandle" ∧ yX11_lasts.cls ≠ "java/lang/invoke/VarHandle" ∧ (parseMethodDescriptor yX11_lasts.desc).map (fun d => d.parameters.length) = some 2 := by decide +kernel
def f_T_lasts (s : Sto) (x1 : Int32) (x2 : Int32) : Option (Int32 × Sto) :=
  bP (f_Co_hasTwo s 0 x1 x2) (fun r1 => if r1 = (0 : Int32) then bI (f_T_bad s) (fun r4 s5 => some (r4, s5)) else bI (f_T_lastingOf s x1 x2) (fun r2 s3 => some (r2, s3)))
set_option maxRecDepth 100000 in
set_option maxHeartbeats 4000000 in
theorem c_T_lasts {G : Gb} {l : Launch} {o : Sto} {L : Lng} (hG : GA G) (s : Sto) (x1 : Int32) (x2 : Int32)  : CT G l (EC o L) pvI psI yX11_lasts cX11_lasts 3 (some .int) 6 130 [.ref (ad G 0 0), .int x1, .int x2] s (f_T_lasts s x1 x2) := by
  refine CT.of hG (by decide) (Nat.le_of_ble_eq_true rfl) (fun X hX => ?_)
  have hX : OX G X l cX11_lasts 3 "CrownTwo" (some .int) 6 130 := hX
  show ZR G X (EC o L) pvI psI 3 s [(0, .ref (ad G 0 0)), (1, .int x1), (2, .int x2)] [] 0 _
  unfold f_T_lasts
  refine z_aload_n (pc := 0) hX dX11_lasts_0 rfl 0 rfl ?_
  refine gr_0_0C (pc := 1) hX q_235 dX11_lasts_1 ?_
  refine z_iload_n (pc := 4) hX dX11_lasts_4 rfl 1 rfl ?_
  refine z_iload_n (pc := 5) hX dX11_lasts_5 rfl 2 rfl ?_
  refine z_rP (run_V (pc := 6) (As := [.int x1, .int x2]) hX (rc_1 v_1_0) ⟨q_461, q_464, q_10⟩ q_462 q_463 hd_X0_hasTwo ⟨Nat.le_of_ble_eq_true rfl, Nat.le_of_ble_eq_true rfl⟩ (c_Co_hasTwo hG s 0 x1 x2 v_1_0) rfl rfl (Nat.le_of_ble_eq_true rfl) dX11_lasts_6) (fun r1 => ?_)
  refine z_if_ne (pc := 9) (tgt := 17) hX dX11_lasts_9 rfl ?_ ?_
  · refine z_aload_n (pc := 17) hX dX11_lasts_17 rfl 0 rfl ?_
    refine z_iload_n (pc := 18) hX dX11_lasts_18 rfl 1 rfl ?_
    refine z_iload_n (pc := 19) hX dX11_lasts_19 rfl 2 rfl ?_
    refine z_rI (run_V (pc := 20) (As := [.int x1, .int x2]) hX rc_0 ⟨q_677, q_680, q_1⟩ q_679 qs_17 hd_X11_lastingOf ⟨Nat.le_of_ble_eq_true rfl, Nat.le_of_ble_eq_true rfl⟩ (c_T_lastingOf hG s x1 x2) rfl rfl (Nat.le_of_ble_eq_true rfl) dX11_lasts_20) (fun r2 s3 => ?_)
    exact z_retI (pc := 23) hX dX11_lasts_23
  · refine z_aload_n (pc := 12) hX dX11_lasts_12 rfl 0 rfl ?_
    refine z_rI (run_V (pc := 13) (As := []) hX rc_0 ⟨q_288, q_291, q_1⟩ q_290 qs_0 hd_X11_bad ⟨Nat.le_of_ble_eq_true rfl, Nat.le_of_ble_eq_true rfl⟩ (c_T_bad hG s) rfl rfl (Nat.le_of_ble_eq_true rfl) dX11_lasts_13) (fun r4 s5 => ?_)
    exact z_retI (pc := 16) hX dX11_lasts_16
theorem hd_X11_pairs : yX11_pairs.cls ≠ "java/lang/invoke/MethodHandle" ∧ yX11_pairs.cls ≠ "java/lang/invoke/VarHandle" ∧ (parseMethodDescriptor yX11_pairs.desc).map (fun d => d.parameters.length) = some 1 := by decide +kernel
def f_T_pairs (s : Sto) (x1 : Int32) : Option (Int32 × Sto) :=
  bP (f_T_outside x1 (0 : Int32) (1 : Int32)) (fun r1 => if r1 = (0 : Int32) then if x1 = (0 : Int32) then bI (f_T_bestPair s) (fun r4 s5 => some (r4, s5)) else bI (f_T_stuckPairs s) (fun r2 s3 => some (r2, s3)) else bI (f_T_bad s) (fun r6 s7 => some (r6, s7)))
set_option maxRecDepth 100000 in
set_option maxHeartbeats 4000000 in
theorem c_T_pairs {G : Gb} {l : Launch} {o : Sto} {L : Lng} (hG : GA G) (s : Sto) (x1 : Int32)  : CT G l (EC o L) pvI psI yX11_pairs cX11_pairs 2 (some .int) 7 169 [.ref (ad G 0 0), .int x1] s (f_T_pairs s x1) := by
  refine CT.of hG (by decide) (Nat.le_of_ble_eq_true rfl) (fun X hX => ?_)
  have hX : OX G X l cX11_pairs 2 "CrownTwo" (some .int) 7 169 := hX
  show ZR G X (EC o L) pvI psI 2 s [(0, .ref (ad G 0 0)), (1, .int x1)] [] 0 _
  unfold f_T_pairs
  refine z_iload_n (pc := 0) hX dX11_pairs_0 rfl 1 rfl ?_
  refine z_iconst (pc := 1) hX dX11_pairs_1 ic_0 ?_
  refine z_iconst (pc := 2) hX dX11_pairs_2 ic_1 ?_
  refine z_rP (run_S (pc := 3) (As := [.int x1, .int (0 : Int32), .int (1 : Int32)]) hX ⟨q_285, q_287, q_1⟩ q_286 hd_X11_outside ⟨Nat.le_of_ble_eq_true rfl, Nat.le_of_ble_eq_true rfl⟩ (c_T_outside hG s x1 (0 : Int32) (1 : Int32)) rfl rfl (Nat.le_of_ble_eq_true rfl) dX11_pairs_3) (fun r1 => ?_)
  refine z_if_eq (pc := 6) (tgt := 14) hX dX11_pairs_6 rfl ?_ ?_
  · refine z_iload_n (pc := 14) hX dX11_pairs_14 rfl 1 rfl ?_
    refine z_if_ne (pc := 15) (tgt := 25) hX dX11_pairs_15 rfl ?_ ?_
    · refine z_aload_n (pc := 25) hX dX11_pairs_25 rfl 0 rfl ?_
      refine z_rI (run_V (pc := 26) (As := []) hX rc_0 ⟨q_690, q_693, q_1⟩ q_692 qs_19 hd_X11_stuckPairs ⟨Nat.le_of_ble_eq_true rfl, Nat.le_of_ble_eq_true rfl⟩ (c_T_stuckPairs hG s) rfl rfl (Nat.le_of_ble_eq_true rfl) dX11_pairs_26) (fun r2 s3 => ?_)
      exact z_retI (pc := 29) hX dX11_pairs_29
    · refine z_aload_n (pc := 18) hX dX11_pairs_18 rfl 0 rfl ?_
      refine z_rI (run_V (pc := 19) (As := []) hX rc_0 ⟨q_686, q_689, q_1⟩ q_688 qs_18 hd_X11_bestPair ⟨Nat.le_of_ble_eq_true rfl, Nat.le_of_ble_eq_true rfl⟩ (c_T_bestPair hG s) rfl rfl (Nat.le_of_ble_eq_true rfl) dX11_pairs_19) (fun r4 s5 => ?_)
      refine z_goto (pc := 22) (tgt := 29) hX dX11_pairs_22 rfl ?_
      exact z_retI (pc := 29) hX dX11_pairs_29
  · refine z_aload_n (pc := 9) hX dX11_pairs_9 rfl 0 rfl ?_
    refine z_rI (run_V (pc := 10) (As := []) hX rc_0 ⟨q_288, q_291, q_1⟩ q_290 qs_0 hd_X11_bad ⟨Nat.le_of_ble_eq_true rfl, Nat.le_of_ble_eq_true rfl⟩ (c_T_bad hG s) rfl rfl (Nat.le_of_ble_eq_true rfl) dX11_pairs_10) (fun r6 s7 => ?_)
    exact z_retI (pc := 13) hX dX11_pairs_13
theorem hd_X11_read : yX11_read.cls ≠ "java/lang/invoke/MethodHandle" ∧ yX11_read.cls ≠ "java/lang/invoke/VarHandle" ∧ (parseMethodDescriptor yX11_read.desc).map (fun d => d.parameters.length) = some 0 := by decide +kernel
def f_T_read (s : Sto)  : Option (Int32 × Sto) :=
  bI (f_Tx_parseInto s 1) (fun r1 s2 => if r1 = (-1 : Int32) then some ((-10 : Int32) - (s2 5 0 2), s2) else bV (f_Co_become s2 0 1) (fun s3 => some (r1, s3)))
set_option maxRecDepth 100000 in
set_option maxHeartbeats 4000000 in
theorem c_T_read {G : Gb} {l : Launch} {o : Sto} {L : Lng} (hG : GA G) (s : Sto)   : CT G l (EC o L) pvI psI yX11_read cX11_read 2 (some .int) 7 151 [.ref (ad G 0 0)] s (f_T_read s) := by
  refine CT.of hG (by decide) (Nat.le_of_ble_eq_true rfl) (fun X hX => ?_)
  have hX : OX G X l cX11_read 2 "CrownTwo" (some .int) 7 151 := hX
  show ZR G X (EC o L) pvI psI 2 s [(0, .ref (ad G 0 0))] [] 0 _
  unfold f_T_read
  refine z_aload_n (pc := 0) hX dX11_read_0 rfl 0 rfl ?_
  refine gr_0_4C (pc := 1) hX q_239 dX11_read_1 ?_
  refine z_aload_n (pc := 4) hX dX11_read_4 rfl 0 rfl ?_
  refine gr_0_1C (pc := 5) hX q_236 dX11_read_5 ?_
  refine z_rI (run_V (pc := 8) (As := [.ref (ad G 1 1)]) hX rc_5 ⟨q_332, q_335, q_2⟩ q_333 q_334 hd_X1_parseInto ⟨Nat.le_of_ble_eq_true rfl, Nat.le_of_ble_eq_true rfl⟩ (c_Tx_parseInto hG s 1 v_1_1) rfl rfl (Nat.le_of_ble_eq_true rfl) dX11_read_8) (fun r1 s2 => ?_)
  refine z_istore_n (pc := 11) (ls' := [(1, .int r1), (0, .ref (ad G 0 0))]) hX dX11_read_11 rfl (by decide) rfl ?_
  refine z_iload_n (pc := 12) hX dX11_read_12 rfl 0 rfl ?_
  refine z_iconst (pc := 13) hX dX11_read_13 ic_m1 ?_
  refine z_icmp_ne (pc := 14) (tgt := 28) hX dX11_read_14 rfl ?_ ?_
  · refine z_aload_n (pc := 28) hX dX11_read_28 rfl 1 rfl ?_
    refine gr_0_0C (pc := 29) hX q_235 dX11_read_29 ?_
    refine z_aload_n (pc := 32) hX dX11_read_32 rfl 1 rfl ?_
    refine gr_0_1C (pc := 33) hX q_236 dX11_read_33 ?_
    refine z_rV (run_V (pc := 36) (As := [.ref (ad G 1 1)]) hX (rc_1 v_1_0) ⟨q_435, q_438, q_10⟩ q_436 q_437 hd_X0_become ⟨Nat.le_of_ble_eq_true rfl, Nat.le_of_ble_eq_true rfl⟩ (c_Co_become hG s2 0 1 v_1_0 v_1_1) rfl rfl (Nat.le_of_ble_eq_true rfl) dX11_read_36) (fun s3 => ?_)
    refine z_iload_n (pc := 39) hX dX11_read_39 rfl 0 rfl ?_
    exact z_retI (pc := 40) hX dX11_read_40
  · refine z_bipush (pc := 17) hX dX11_read_17 bp_m10 ?_
    refine z_aload_n (pc := 19) hX dX11_read_19 rfl 1 rfl ?_
    refine gr_0_4C (pc := 20) hX q_239 dX11_read_20 ?_
    refine gf_5_2C (pc := 23) hX q_39 dX11_read_23 ?_
    refine z_isub (pc := 26) hX dX11_read_26 ?_
    exact z_retI (pc := 27) hX dX11_read_27
