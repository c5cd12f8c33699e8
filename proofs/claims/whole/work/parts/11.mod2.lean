theorem hd_X12_puts : yX12_puts.cls ≠ "java/lang/invoke/MethodHandle" ∧ yX12_puts.cls ≠ "java/lang/invoke/VarHandle" ∧ (parseMethodDescriptor yX12_puts.desc).map (fun d => d.parameters.length) = some 0 := by decide +kernel
def f_m_puts (s : Sto)  : Option (Sto) :=
  bV (f_m_lays_31 s (0 : Int32)) (fun s1 => some s1)
set_option maxRecDepth 100000 in
set_option maxHeartbeats 4000000 in
theorem c_m_puts {G : Gb} {l : Launch} {o : Sto} {L : Lng} (hG : GA G) (s : Sto)   : CT G l (EM o L) pvV psV yX12_puts cX12_puts 1 none 1 22 [.ref (ad G 17 0)] s (f_m_puts s) := by
  refine CT.of hG (by decide) (Nat.le_of_ble_eq_true rfl) (fun X hX => ?_)
  have hX : OX G X l cX12_puts 1 "CrownTwoModel" none 1 22 := hX
  show ZR G X (EM o L) pvV psV 1 s [(0, .ref (ad G 17 0))] [] 0 _
  unfold f_m_puts
  refine z_aload_n (pc := 0) hX dX12_puts_0 rfl 0 rfl ?_
  refine z_aload_n (pc := 1) hX dX12_puts_1 rfl 0 rfl ?_
  refine gr_17_28M (pc := 2) hX q_840 dX12_puts_2 ?_
  refine z_iconst (pc := 5) hX dX12_puts_5 ic_0 ?_
  refine z_rV (run_V (pc := 6) (As := [.ref (ad G 31 0), .int (0 : Int32)]) hX rc_17 ⟨q_1030, q_1033, q_13⟩ q_1032 qs_43 hd_X12_lays ⟨Nat.le_of_ble_eq_true rfl, Nat.le_of_ble_eq_true rfl⟩ (c_m_lays_31 hG s (0 : Int32)) rfl rfl (Nat.le_of_ble_eq_true rfl) dX12_puts_6) (fun s1 => ?_)
  exact z_retV (pc := 9) hX dX12_puts_9
theorem hd_X12_back : yX12_back.cls ≠ "java/lang/invoke/MethodHandle" ∧ yX12_back.cls ≠ "java/lang/invoke/VarHandle" ∧ (parseMethodDescriptor yX12_back.desc).map (fun d => d.parameters.length) = some 0 := by decide +kernel
def f_m_back (s : Sto)  : Option (Sto) :=
  bV (f_m_takes_31 s (0 : Int32)) (fun s1 => some s1)
set_option maxRecDepth 100000 in
set_option maxHeartbeats 4000000 in
theorem c_m_back {G : Gb} {l : Launch} {o : Sto} {L : Lng} (hG : GA G) (s : Sto)   : CT G l (EM o L) pvV psV yX12_back cX12_back 1 none 1 22 [.ref (ad G 17 0)] s (f_m_back s) := by
  refine CT.of hG (by decide) (Nat.le_of_ble_eq_true rfl) (fun X hX => ?_)
  have hX : OX G X l cX12_back 1 "CrownTwoModel" none 1 22 := hX
  show ZR G X (EM o L) pvV psV 1 s [(0, .ref (ad G 17 0))] [] 0 _
  unfold f_m_back
  refine z_aload_n (pc := 0) hX dX12_back_0 rfl 0 rfl ?_
  refine z_aload_n (pc := 1) hX dX12_back_1 rfl 0 rfl ?_
  refine gr_17_28M (pc := 2) hX q_840 dX12_back_2 ?_
  refine z_iconst (pc := 5) hX dX12_back_5 ic_0 ?_
  refine z_rV (run_V (pc := 6) (As := [.ref (ad G 31 0), .int (0 : Int32)]) hX rc_17 ⟨q_1098, q_1101, q_13⟩ q_1100 qs_53 hd_X12_takes ⟨Nat.le_of_ble_eq_true rfl, Nat.le_of_ble_eq_true rfl⟩ (c_m_takes_31 hG s (0 : Int32)) rfl rfl (Nat.le_of_ble_eq_true rfl) dX12_back_6) (fun s1 => ?_)
  exact z_retV (pc := 9) hX dX12_back_9
theorem hd_X12_pair : yX12_pair.cls ≠ "java/lang/invoke/MethodHandle" ∧ yX12_pair.cls ≠ "java/lang/invoke/VarHandle" ∧ (parseMethodDescriptor yX12_pair.desc).map (fun d => d.parameters.length) = some 2 := by decide +kernel
def f_m_pair (s : Sto) (x1 : Int32) (x2 : Int32) : Option (Int32 × Sto) :=
  bP (f_m_isHeir s x1) (fun r1 => if r1 = (0 : Int32) then bI (f_m_bad s) (fun r2 s3 => some (r2, s3)) else bP (f_m_isHeir s x2) (fun r4 => if r4 = (0 : Int32) then bI (f_m_bad s) (fun r5 s6 => some (r5, s6)) else if x1 = x2 then bI (f_m_bad s) (fun r10 s11 => some (r10, s11)) else bV (f_m_notes s) (fun s7 => lt (st s7 17 0 5 x1) (fun s8 => lt (st s8 17 0 6 x2) (fun s9 => some ((1 : Int32), s9))))))
set_option maxRecDepth 100000 in
set_option maxHeartbeats 4000000 in
theorem c_m_pair {G : Gb} {l : Launch} {o : Sto} {L : Lng} (hG : GA G) (s : Sto) (x1 : Int32) (x2 : Int32)  : CT G l (EM o L) pvI psI yX12_pair cX12_pair 3 (some .int) 2 43 [.ref (ad G 17 0), .int x1, .int x2] s (f_m_pair s x1 x2) := by
  refine CT.of hG (by decide) (Nat.le_of_ble_eq_true rfl) (fun X hX => ?_)
  have hX : OX G X l cX12_pair 3 "CrownTwoModel" (some .int) 2 43 := hX
  show ZR G X (EM o L) pvI psI 3 s [(0, .ref (ad G 17 0)), (1, .int x1), (2, .int x2)] [] 0 _
  unfold f_m_pair
  refine z_aload_n (pc := 0) hX dX12_pair_0 rfl 0 rfl ?_
  refine z_iload_n (pc := 1) hX dX12_pair_1 rfl 1 rfl ?_
  refine z_rP (run_V (pc := 2) (As := [.int x1]) hX rc_17 ⟨q_1022, q_1025, q_13⟩ q_1024 qs_41 hd_X12_isHeir ⟨Nat.le_of_ble_eq_true rfl, Nat.le_of_ble_eq_true rfl⟩ (c_m_isHeir hG s x1) rfl rfl (Nat.le_of_ble_eq_true rfl) dX12_pair_2) (fun r1 => ?_)
  refine z_if_eq (pc := 5) (tgt := 21) hX dX12_pair_5 rfl ?_ ?_
  · refine z_aload_n (pc := 21) hX dX12_pair_21 rfl 0 rfl ?_
    refine z_rI (run_V (pc := 22) (As := []) hX rc_17 ⟨q_928, q_931, q_13⟩ q_930 qs_24 hd_X12_bad ⟨Nat.le_of_ble_eq_true rfl, Nat.le_of_ble_eq_true rfl⟩ (c_m_bad hG s) rfl rfl (Nat.le_of_ble_eq_true rfl) dX12_pair_22) (fun r2 s3 => ?_)
    exact z_retI (pc := 25) hX dX12_pair_25
  · refine z_aload_n (pc := 8) hX dX12_pair_8 rfl 0 rfl ?_
    refine z_iload_n (pc := 9) hX dX12_pair_9 rfl 2 rfl ?_
    refine z_rP (run_V (pc := 10) (As := [.int x2]) hX rc_17 ⟨q_1022, q_1025, q_13⟩ q_1024 qs_41 hd_X12_isHeir ⟨Nat.le_of_ble_eq_true rfl, Nat.le_of_ble_eq_true rfl⟩ (c_m_isHeir hG s x2) rfl rfl (Nat.le_of_ble_eq_true rfl) dX12_pair_10) (fun r4 => ?_)
    refine z_if_eq (pc := 13) (tgt := 21) hX dX12_pair_13 rfl ?_ ?_
    · refine z_aload_n (pc := 21) hX dX12_pair_21 rfl 0 rfl ?_
      refine z_rI (run_V (pc := 22) (As := []) hX rc_17 ⟨q_928, q_931, q_13⟩ q_930 qs_24 hd_X12_bad ⟨Nat.le_of_ble_eq_true rfl, Nat.le_of_ble_eq_true rfl⟩ (c_m_bad hG s) rfl rfl (Nat.le_of_ble_eq_true rfl) dX12_pair_22) (fun r5 s6 => ?_)
      exact z_retI (pc := 25) hX dX12_pair_25
    · refine z_iload_n (pc := 16) hX dX12_pair_16 rfl 1 rfl ?_
      refine z_iload_n (pc := 17) hX dX12_pair_17 rfl 2 rfl ?_
      refine z_icmp_ne (pc := 18) (tgt := 26) hX dX12_pair_18 rfl ?_ ?_
      · refine z_aload_n (pc := 26) hX dX12_pair_26 rfl 0 rfl ?_
        refine z_rV (run_V (pc := 27) (As := []) hX rc_17 ⟨q_1026, q_1029, q_13⟩ q_1028 qs_42 hd_X12_notes ⟨Nat.le_of_ble_eq_true rfl, Nat.le_of_ble_eq_true rfl⟩ (c_m_notes hG s) rfl rfl (Nat.le_of_ble_eq_true rfl) dX12_pair_27) (fun s7 => ?_)
        refine z_aload_n (pc := 30) hX dX12_pair_30 rfl 0 rfl ?_
        refine z_iload_n (pc := 31) hX dX12_pair_31 rfl 1 rfl ?_
        refine pf_17_5M (pc := 32) hX q_817 dX12_pair_32 ?_
        refine z_lts (fun s8 => ?_)
        refine z_aload_n (pc := 35) hX dX12_pair_35 rfl 0 rfl ?_
        refine z_iload_n (pc := 36) hX dX12_pair_36 rfl 2 rfl ?_
        refine pf_17_6M (pc := 37) hX q_818 dX12_pair_37 ?_
        refine z_lts (fun s9 => ?_)
        refine z_iconst (pc := 40) hX dX12_pair_40 ic_1 ?_
        exact z_retI (pc := 41) hX dX12_pair_41
      · refine z_aload_n (pc := 21) hX dX12_pair_21 rfl 0 rfl ?_
        refine z_rI (run_V (pc := 22) (As := []) hX rc_17 ⟨q_928, q_931, q_13⟩ q_930 qs_24 hd_X12_bad ⟨Nat.le_of_ble_eq_true rfl, Nat.le_of_ble_eq_true rfl⟩ (c_m_bad hG s) rfl rfl (Nat.le_of_ble_eq_true rfl) dX12_pair_22) (fun r10 s11 => ?_)
        exact z_retI (pc := 25) hX dX12_pair_25
theorem hd_X12_ask : yX12_ask.cls ≠ "java/lang/invoke/MethodHandle" ∧ yX12_ask.cls ≠ "java/lang/invoke/VarHandle" ∧ (parseMethodDescriptor yX12_ask.desc).map (fun d => d.parameters.length) = some 1 := by decide +kernel
def f_m_ask (s : Sto) (x1 : Int32) : Option (Int32 × Sto) :=
  bP (f_m_isAct x1) (fun r1 => if r1 = (0 : Int32) then bI (f_m_bad s) (fun r11 s12 => some (r11, s12)) else bP (f_m_isPair s) (fun r2 => if r2 = (0 : Int32) then bI (f_m_no s) (fun r3 s4 => some (r3, s4)) else bP (f_m_has (s 17 0 4) x1) (fun r5 => if r5 = (0 : Int32) then bV (f_m_notes s) (fun s6 => bI (f_m_asks s6 x1) (fun r7 s8 => some (r7, s8))) else bI (f_m_no s) (fun r9 s10 => some (r9, s10)))))
set_option maxRecDepth 100000 in
set_option maxHeartbeats 4000000 in
theorem c_m_ask {G : Gb} {l : Launch} {o : Sto} {L : Lng} (hG : GA G) (s : Sto) (x1 : Int32)  : CT G l (EM o L) pvI psI yX12_ask cX12_ask 2 (some .int) 5 110 [.ref (ad G 17 0), .int x1] s (f_m_ask s x1) := by
  refine CT.of hG (by decide) (Nat.le_of_ble_eq_true rfl) (fun X hX => ?_)
  have hX : OX G X l cX12_ask 2 "CrownTwoModel" (some .int) 5 110 := hX
  show ZR G X (EM o L) pvI psI 2 s [(0, .ref (ad G 17 0)), (1, .int x1)] [] 0 _
  unfold f_m_ask
  refine z_iload_n (pc := 0) hX dX12_ask_0 rfl 1 rfl ?_
  refine z_rP (run_S (pc := 1) (As := [.int x1]) hX ⟨q_1038, q_1040, q_13⟩ q_1039 hd_X12_isAct ⟨Nat.le_of_ble_eq_true rfl, Nat.le_of_ble_eq_true rfl⟩ (c_m_isAct hG s x1) rfl rfl (Nat.le_of_ble_eq_true rfl) dX12_ask_1) (fun r1 => ?_)
  refine z_if_ne (pc := 4) (tgt := 12) hX dX12_ask_4 rfl ?_ ?_
  · refine z_aload_n (pc := 12) hX dX12_ask_12 rfl 0 rfl ?_
    refine z_rP (run_V (pc := 13) (As := []) hX rc_17 ⟨q_1041, q_1044, q_13⟩ q_1043 qs_44 hd_X12_isPair ⟨Nat.le_of_ble_eq_true rfl, Nat.le_of_ble_eq_true rfl⟩ (c_m_isPair hG s) rfl rfl (Nat.le_of_ble_eq_true rfl) dX12_ask_13) (fun r2 => ?_)
    refine z_if_eq (pc := 16) (tgt := 30) hX dX12_ask_16 rfl ?_ ?_
    · refine z_aload_n (pc := 30) hX dX12_ask_30 rfl 0 rfl ?_
      refine z_rI (run_V (pc := 31) (As := []) hX rc_17 ⟨q_1048, q_1051, q_13⟩ q_1050 qs_45 hd_X12_no ⟨Nat.le_of_ble_eq_true rfl, Nat.le_of_ble_eq_true rfl⟩ (c_m_no hG s) rfl rfl (Nat.le_of_ble_eq_true rfl) dX12_ask_31) (fun r3 s4 => ?_)
      exact z_retI (pc := 34) hX dX12_ask_34
    · refine z_aload_n (pc := 19) hX dX12_ask_19 rfl 0 rfl ?_
      refine gf_17_4M (pc := 20) hX q_816 dX12_ask_20 ?_
      refine z_iload_n (pc := 23) hX dX12_ask_23 rfl 1 rfl ?_
      refine z_rP (run_S (pc := 24) (As := [.int (s 17 0 4), .int x1]) hX ⟨q_1045, q_1047, q_13⟩ q_1046 hd_X12_has ⟨Nat.le_of_ble_eq_true rfl, Nat.le_of_ble_eq_true rfl⟩ (c_m_has hG s (s 17 0 4) x1) rfl rfl (Nat.le_of_ble_eq_true rfl) dX12_ask_24) (fun r5 => ?_)
      refine z_if_eq (pc := 27) (tgt := 35) hX dX12_ask_27 rfl ?_ ?_
      · refine z_aload_n (pc := 35) hX dX12_ask_35 rfl 0 rfl ?_
        refine z_rV (run_V (pc := 36) (As := []) hX rc_17 ⟨q_1026, q_1029, q_13⟩ q_1028 qs_42 hd_X12_notes ⟨Nat.le_of_ble_eq_true rfl, Nat.le_of_ble_eq_true rfl⟩ (c_m_notes hG s) rfl rfl (Nat.le_of_ble_eq_true rfl) dX12_ask_36) (fun s6 => ?_)
        refine z_aload_n (pc := 39) hX dX12_ask_39 rfl 0 rfl ?_
        refine z_iload_n (pc := 40) hX dX12_ask_40 rfl 1 rfl ?_
        refine z_rI (run_V (pc := 41) (As := [.int x1]) hX rc_17 ⟨q_1052, q_1055, q_13⟩ q_1054 qs_46 hd_X12_asks ⟨Nat.le_of_ble_eq_true rfl, Nat.le_of_ble_eq_true rfl⟩ (c_m_asks hG s6 x1) rfl rfl (Nat.le_of_ble_eq_true rfl) dX12_ask_41) (fun r7 s8 => ?_)
        exact z_retI (pc := 44) hX dX12_ask_44
      · refine z_aload_n (pc := 30) hX dX12_ask_30 rfl 0 rfl ?_
        refine z_rI (run_V (pc := 31) (As := []) hX rc_17 ⟨q_1048, q_1051, q_13⟩ q_1050 qs_45 hd_X12_no ⟨Nat.le_of_ble_eq_true rfl, Nat.le_of_ble_eq_true rfl⟩ (c_m_no hG s) rfl rfl (Nat.le_of_ble_eq_true rfl) dX12_ask_31) (fun r9 s10 => ?_)
        exact z_retI (pc := 34) hX dX12_ask_34
  · refine z_aload_n (pc := 7) hX dX12_ask_7 rfl 0 rfl ?_
    refine z_rI (run_V (pc := 8) (As := []) hX rc_17 ⟨q_928, q_931, q_13⟩ q_930 qs_24 hd_X12_bad ⟨Nat.le_of_ble_eq_true rfl, Nat.le_of_ble_eq_true rfl⟩ (c_m_bad hG s) rfl rfl (Nat.le_of_ble_eq_true rfl) dX12_ask_8) (fun r11 s12 => ?_)
    exact z_retI (pc := 11) hX dX12_ask_11
theorem hd_X12_day : yX12_day.cls ≠ "java/lang/invoke/MethodHandle" ∧ yX12_day.cls ≠ "java/lang/invoke/VarHandle" ∧ (parseMethodDescriptor yX12_day.desc).map (fun d => d.parameters.length) = some 1 := by decide +kernel
def l_m_day_21 (x1 : Int32) (rc5 : Sto → Int32 → Option (Int32 × Sto)) (s3 : Sto) (v2_4 : Int32) : Option (Int32 × Sto) :=
  if x1 ≤ v2_4 then some (s3 17 0 2, s3) else bV (f_m_pass s3) (fun s6 => rc5 s6 (v2_4 + (1 : Int32)))
def f_m_day (s : Sto) (x1 : Int32) : Option (Int32 × Sto) :=
  bP (f_m_in x1 (1 : Int32) (60 : Int32)) (fun r1 => if r1 = (0 : Int32) then bI (f_m_bad s) (fun r7 s8 => some (r7, s8)) else bV (f_m_notes s) (fun s2 => fx 1000 (l_m_day_21 x1) (fun _ _ => none) s2 (0 : Int32)))
set_option maxRecDepth 100000 in
set_option maxHeartbeats 4000000 in
theorem c_m_day {G : Gb} {l : Launch} {o : Sto} {L : Lng} (hG : GA G) (s : Sto) (x1 : Int32)  : CT G l (EM o L) pvI psI yX12_day cX12_day 3 (some .int) 3 62 [.ref (ad G 17 0), .int x1] s (f_m_day s x1) := by
  refine CT.of hG (by decide) (Nat.le_of_ble_eq_true rfl) (fun X hX => ?_)
  have hX : OX G X l cX12_day 3 "CrownTwoModel" (some .int) 3 62 := hX
  show ZR G X (EM o L) pvI psI 3 s [(0, .ref (ad G 17 0)), (1, .int x1)] [] 0 _
  unfold f_m_day
  refine z_iload_n (pc := 0) hX dX12_day_0 rfl 1 rfl ?_
  refine z_iconst (pc := 1) hX dX12_day_1 ic_1 ?_
  refine z_bipush (pc := 2) hX dX12_day_2 bp_60 ?_
  refine z_rP (run_S (pc := 4) (As := [.int x1, .int (1 : Int32), .int (60 : Int32)]) hX ⟨q_925, q_927, q_13⟩ q_926 hd_X12_in ⟨Nat.le_of_ble_eq_true rfl, Nat.le_of_ble_eq_true rfl⟩ (c_m_in hG s x1 (1 : Int32) (60 : Int32)) rfl rfl (Nat.le_of_ble_eq_true rfl) dX12_day_4) (fun r1 => ?_)
  refine z_if_ne (pc := 7) (tgt := 15) hX dX12_day_7 rfl ?_ ?_
  · refine z_aload_n (pc := 15) hX dX12_day_15 rfl 0 rfl ?_
    refine z_rV (run_V (pc := 16) (As := []) hX rc_17 ⟨q_1026, q_1029, q_13⟩ q_1028 qs_42 hd_X12_notes ⟨Nat.le_of_ble_eq_true rfl, Nat.le_of_ble_eq_true rfl⟩ (c_m_notes hG s) rfl rfl (Nat.le_of_ble_eq_true rfl) dX12_day_16) (fun s2 => ?_)
    refine z_iconst (pc := 19) hX dX12_day_19 ic_0 ?_
    refine z_istore_n (pc := 20) (ls' := [(2, .int (0 : Int32)), (0, .ref (ad G 17 0)), (1, .int x1)]) hX dX12_day_20 rfl (by decide) rfl ?_
    refine z_ls [1, 2, 0] rfl ?_
    refine (fx_P (F := l_m_day_21 x1) (b := (fun _ _ => none)) (fun rc5 => ∀ (s3 : Sto) (v2_4 : Int32), ZR G X (EM o L) pvI psI 3 s3 [(0, .ref (ad G 17 0)), (1, .int x1), (2, .int v2_4)] [] 21 (rc5 s3 v2_4)) ?_ ?_ 1000) s2 (0 : Int32)
    · intro s3 v2_4; exact z_none
    · intro rc5 hrc5 s3 v2_4
      unfold l_m_day_21
      refine z_iload_n (pc := 21) hX dX12_day_21 rfl 2 rfl ?_
      refine z_iload_n (pc := 22) hX dX12_day_22 rfl 1 rfl ?_
      refine z_icmp_ge (pc := 23) (tgt := 36) hX dX12_day_23 rfl ?_ ?_
      · refine z_aload_n (pc := 36) hX dX12_day_36 rfl 0 rfl ?_
        refine gf_17_2M (pc := 37) hX q_814 dX12_day_37 ?_
        exact z_retI (pc := 40) hX dX12_day_40
      · refine z_aload_n (pc := 26) hX dX12_day_26 rfl 0 rfl ?_
        refine z_rV (run_V (pc := 27) (As := []) hX rc_17 ⟨q_1078, q_1081, q_13⟩ q_1080 qs_50 hd_X12_pass ⟨Nat.le_of_ble_eq_true rfl, Nat.le_of_ble_eq_true rfl⟩ (c_m_pass hG s3) rfl rfl (Nat.le_of_ble_eq_true rfl) dX12_day_27) (fun s6 => ?_)
        refine z_iinc (pc := 30) (n := 2) (v := v2_4 + (1 : Int32)) (ls' := [(2, .int (v2_4 + (1 : Int32))), (0, .ref (ad G 17 0)), (1, .int x1)]) hX dX12_day_30 rfl (by rw [show Int32.ofInt (1) = 1 by decide +kernel]) (by decide) rfl ?_
        refine z_goto (pc := 33) (tgt := 21) hX dX12_day_33 rfl ?_
        exact z_ls [1, 2, 0] rfl (hrc5 s6 (v2_4 + (1 : Int32)))
  · refine z_aload_n (pc := 10) hX dX12_day_10 rfl 0 rfl ?_
    refine z_rI (run_V (pc := 11) (As := []) hX rc_17 ⟨q_928, q_931, q_13⟩ q_930 qs_24 hd_X12_bad ⟨Nat.le_of_ble_eq_true rfl, Nat.le_of_ble_eq_true rfl⟩ (c_m_bad hG s) rfl rfl (Nat.le_of_ble_eq_true rfl) dX12_day_11) (fun r7 s8 => ?_)
    exact z_retI (pc := 14) hX dX12_day_14
theorem hd_X12_feed : yX12_feed.cls ≠ "java/lang/invoke/MethodHandle" ∧ yX12_feed.cls ≠ "java/lang/invoke/VarHandle" ∧ (parseMethodDescriptor yX12_feed.desc).map (fun d => d.parameters.length) = some 1 := by decide +kernel
def f_m_feed (s : Sto) (x1 : Int32) : Option (Int32 × Sto) :=
  bP (f_m_in x1 (1 : Int32) (20 : Int32)) (fun r1 => if r1 = (0 : Int32) then bI (f_m_bad s) (fun r5 s6 => some (r5, s6)) else bV (f_m_notes s) (fun s2 => bP (f_m_kept ((s2 17 0 2) + x1)) (fun r3 => lt (st s2 17 0 2 r3) (fun s4 => some (s4 17 0 2, s4)))))
set_option maxRecDepth 100000 in
set_option maxHeartbeats 4000000 in
theorem c_m_feed {G : Gb} {l : Launch} {o : Sto} {L : Lng} (hG : GA G) (s : Sto) (x1 : Int32)  : CT G l (EM o L) pvI psI yX12_feed cX12_feed 2 (some .int) 2 43 [.ref (ad G 17 0), .int x1] s (f_m_feed s x1) := by
  refine CT.of hG (by decide) (Nat.le_of_ble_eq_true rfl) (fun X hX => ?_)
  have hX : OX G X l cX12_feed 2 "CrownTwoModel" (some .int) 2 43 := hX
  show ZR G X (EM o L) pvI psI 2 s [(0, .ref (ad G 17 0)), (1, .int x1)] [] 0 _
  unfold f_m_feed
  refine z_iload_n (pc := 0) hX dX12_feed_0 rfl 1 rfl ?_
  refine z_iconst (pc := 1) hX dX12_feed_1 ic_1 ?_
  refine z_bipush (pc := 2) hX dX12_feed_2 bp_20 ?_
  refine z_rP (run_S (pc := 4) (As := [.int x1, .int (1 : Int32), .int (20 : Int32)]) hX ⟨q_925, q_927, q_13⟩ q_926 hd_X12_in ⟨Nat.le_of_ble_eq_true rfl, Nat.le_of_ble_eq_true rfl⟩ (c_m_in hG s x1 (1 : Int32) (20 : Int32)) rfl rfl (Nat.le_of_ble_eq_true rfl) dX12_feed_4) (fun r1 => ?_)
  refine z_if_ne (pc := 7) (tgt := 15) hX dX12_feed_7 rfl ?_ ?_
  · refine z_aload_n (pc := 15) hX dX12_feed_15 rfl 0 rfl ?_
    refine z_rV (run_V (pc := 16) (As := []) hX rc_17 ⟨q_1026, q_1029, q_13⟩ q_1028 qs_42 hd_X12_notes ⟨Nat.le_of_ble_eq_true rfl, Nat.le_of_ble_eq_true rfl⟩ (c_m_notes hG s) rfl rfl (Nat.le_of_ble_eq_true rfl) dX12_feed_16) (fun s2 => ?_)
    refine z_aload_n (pc := 19) hX dX12_feed_19 rfl 0 rfl ?_
    refine z_aload_n (pc := 20) hX dX12_feed_20 rfl 0 rfl ?_
    refine gf_17_2M (pc := 21) hX q_814 dX12_feed_21 ?_
    refine z_iload_n (pc := 24) hX dX12_feed_24 rfl 1 rfl ?_
    refine z_iadd (pc := 25) hX dX12_feed_25 ?_
    refine z_rP (run_S (pc := 26) (As := [.int ((s2 17 0 2) + x1)]) hX ⟨q_1071, q_1073, q_13⟩ q_1072 hd_X12_kept ⟨Nat.le_of_ble_eq_true rfl, Nat.le_of_ble_eq_true rfl⟩ (c_m_kept hG s2 ((s2 17 0 2) + x1)) rfl rfl (Nat.le_of_ble_eq_true rfl) dX12_feed_26) (fun r3 => ?_)
    refine pf_17_2M (pc := 29) hX q_814 dX12_feed_29 ?_
    refine z_lts (fun s4 => ?_)
    refine z_aload_n (pc := 32) hX dX12_feed_32 rfl 0 rfl ?_
    refine gf_17_2M (pc := 33) hX q_814 dX12_feed_33 ?_
    exact z_retI (pc := 36) hX dX12_feed_36
  · refine z_aload_n (pc := 10) hX dX12_feed_10 rfl 0 rfl ?_
    refine z_rI (run_V (pc := 11) (As := []) hX rc_17 ⟨q_928, q_931, q_13⟩ q_930 qs_24 hd_X12_bad ⟨Nat.le_of_ble_eq_true rfl, Nat.le_of_ble_eq_true rfl⟩ (c_m_bad hG s) rfl rfl (Nat.le_of_ble_eq_true rfl) dX12_feed_11) (fun r5 s6 => ?_)
    exact z_retI (pc := 14) hX dX12_feed_14
theorem hd_X12_undo : yX12_undo.cls ≠ "java/lang/invoke/MethodHandle" ∧ yX12_undo.cls ≠ "java/lang/invoke/VarHandle" ∧ (parseMethodDescriptor yX12_undo.desc).map (fun d => d.parameters.length) = some 0 := by decide +kernel
def f_m_undo (s : Sto)  : Option (Int32 × Sto) :=
  if (s 17 0 27) = (0 : Int32) then bI (f_m_no s) (fun r3 s4 => some (r3, s4)) else lt (st s 17 0 27 ((s 17 0 27) - (1 : Int32))) (fun s1 => bV (f_m_takes_30 s1 ((5 : Int32) * (s1 17 0 27))) (fun s2 => some (s2 17 0 3, s2)))
set_option maxRecDepth 100000 in
set_option maxHeartbeats 4000000 in
theorem c_m_undo {G : Gb} {l : Launch} {o : Sto} {L : Lng} (hG : GA G) (s : Sto)   : CT G l (EM o L) pvI psI yX12_undo cX12_undo 1 (some .int) 1 22 [.ref (ad G 17 0)] s (f_m_undo s) := by
  refine CT.of hG (by decide) (Nat.le_of_ble_eq_true rfl) (fun X hX => ?_)
  have hX : OX G X l cX12_undo 1 "CrownTwoModel" (some .int) 1 22 := hX
  show ZR G X (EM o L) pvI psI 1 s [(0, .ref (ad G 17 0))] [] 0 _
  unfold f_m_undo
  refine z_aload_n (pc := 0) hX dX12_undo_0 rfl 0 rfl ?_
  refine gf_17_27M (pc := 1) hX q_839 dX12_undo_1 ?_
  refine z_if_ne (pc := 4) (tgt := 12) hX dX12_undo_4 rfl ?_ ?_
  · refine z_aload_n (pc := 12) hX dX12_undo_12 rfl 0 rfl ?_
    refine z_dup (pc := 13) hX dX12_undo_13 rfl ?_
    refine gf_17_27M (pc := 14) hX q_839 dX12_undo_14 ?_
    refine z_iconst (pc := 17) hX dX12_undo_17 ic_1 ?_
    refine z_isub (pc := 18) hX dX12_undo_18 ?_
    refine pf_17_27M (pc := 19) hX q_839 dX12_undo_19 ?_
    refine z_lts (fun s1 => ?_)
    refine z_aload_n (pc := 22) hX dX12_undo_22 rfl 0 rfl ?_
    refine z_aload_n (pc := 23) hX dX12_undo_23 rfl 0 rfl ?_
    refine gr_17_26M (pc := 24) hX q_838 dX12_undo_24 ?_
    refine z_iconst (pc := 27) hX dX12_undo_27 ic_5 ?_
    refine z_aload_n (pc := 28) hX dX12_undo_28 rfl 0 rfl ?_
    refine gf_17_27M (pc := 29) hX q_839 dX12_undo_29 ?_
    refine z_imul (pc := 32) hX dX12_undo_32 ?_
    refine z_rV (run_V (pc := 33) (As := [.ref (ad G 30 0), .int ((5 : Int32) * (s1 17 0 27))]) hX rc_17 ⟨q_1098, q_1101, q_13⟩ q_1100 qs_53 hd_X12_takes ⟨Nat.le_of_ble_eq_true rfl, Nat.le_of_ble_eq_true rfl⟩ (c_m_takes_30 hG s1 ((5 : Int32) * (s1 17 0 27))) rfl rfl (Nat.le_of_ble_eq_true rfl) dX12_undo_33) (fun s2 => ?_)
    refine z_aload_n (pc := 36) hX dX12_undo_36 rfl 0 rfl ?_
    refine gf_17_3M (pc := 37) hX q_815 dX12_undo_37 ?_
    exact z_retI (pc := 40) hX dX12_undo_40
  · refine z_aload_n (pc := 7) hX dX12_undo_7 rfl 0 rfl ?_
    refine z_rI (run_V (pc := 8) (As := []) hX rc_17 ⟨q_1048, q_1051, q_13⟩ q_1050 qs_45 hd_X12_no ⟨Nat.le_of_ble_eq_true rfl, Nat.le_of_ble_eq_true rfl⟩ (c_m_no hG s) rfl rfl (Nat.le_of_ble_eq_true rfl) dX12_undo_8) (fun r3 s4 => ?_)
    exact z_retI (pc := 11) hX dX12_undo_11
theorem hd_X12_of : yX12_of.cls ≠ "java/lang/invoke/MethodHandle" ∧ yX12_of.cls ≠ "java/lang/invoke/VarHandle" ∧ (parseMethodDescriptor yX12_of.desc).map (fun d => d.parameters.length) = some 2 := by decide +kernel
def f_m_of (s : Sto) (x1 : Int32) (x2 : Int32) : Option (Int32 × Sto) :=
  bP (f_m_isHeir s x1) (fun r1 => if r1 = (0 : Int32) then bI (f_m_bad s) (fun r2 s3 => some (r2, s3)) else bP (f_m_in x2 (0 : Int32) (4 : Int32)) (fun r4 => if r4 = (0 : Int32) then bI (f_m_bad s) (fun r5 s6 => some (r5, s6)) else if x2 = (0 : Int32) then if inb x1 6 then some (s 19 0 (ix x1), s) else none else if x2 = (1 : Int32) then if inb x1 6 then some (s 20 0 (ix x1), s) else none else if x2 = (2 : Int32) then if inb x1 6 then some (s 21 0 (ix x1), s) else none else if x2 = (3 : Int32) then if inb x1 6 then some (s 22 0 (ix x1), s) else none else if x1 = (s 17 0 5) then some ((1 : Int32), s) else if x1 = (s 17 0 6) then some ((2 : Int32), s) else some ((0 : Int32), s)))
set_option maxRecDepth 100000 in
set_option maxHeartbeats 4000000 in
theorem c_m_of {G : Gb} {l : Launch} {o : Sto} {L : Lng} (hG : GA G) (s : Sto) (x1 : Int32) (x2 : Int32)  : CT G l (EM o L) pvI psI yX12_of cX12_of 3 (some .int) 2 43 [.ref (ad G 17 0), .int x1, .int x2] s (f_m_of s x1 x2) := by
  refine CT.of hG (by decide) (Nat.le_of_ble_eq_true rfl) (fun X hX => ?_)
  have hX : OX G X l cX12_of 3 "CrownTwoModel" (some .int) 2 43 := hX
  show ZR G X (EM o L) pvI psI 3 s [(0, .ref (ad G 17 0)), (1, .int x1), (2, .int x2)] [] 0 _
  unfold f_m_of
  refine z_aload_n (pc := 0) hX dX12_of_0 rfl 0 rfl ?_
  refine z_iload_n (pc := 1) hX dX12_of_1 rfl 1 rfl ?_
  refine z_rP (run_V (pc := 2) (As := [.int x1]) hX rc_17 ⟨q_1022, q_1025, q_13⟩ q_1024 qs_41 hd_X12_isHeir ⟨Nat.le_of_ble_eq_true rfl, Nat.le_of_ble_eq_true rfl⟩ (c_m_isHeir hG s x1) rfl rfl (Nat.le_of_ble_eq_true rfl) dX12_of_2) (fun r1 => ?_)
  refine z_if_eq (pc := 5) (tgt := 17) hX dX12_of_5 rfl ?_ ?_
  · refine z_aload_n (pc := 17) hX dX12_of_17 rfl 0 rfl ?_
    refine z_rI (run_V (pc := 18) (As := []) hX rc_17 ⟨q_928, q_931, q_13⟩ q_930 qs_24 hd_X12_bad ⟨Nat.le_of_ble_eq_true rfl, Nat.le_of_ble_eq_true rfl⟩ (c_m_bad hG s) rfl rfl (Nat.le_of_ble_eq_true rfl) dX12_of_18) (fun r2 s3 => ?_)
    exact z_retI (pc := 21) hX dX12_of_21
  · refine z_iload_n (pc := 8) hX dX12_of_8 rfl 2 rfl ?_
    refine z_iconst (pc := 9) hX dX12_of_9 ic_0 ?_
    refine z_iconst (pc := 10) hX dX12_of_10 ic_4 ?_
    refine z_rP (run_S (pc := 11) (As := [.int x2, .int (0 : Int32), .int (4 : Int32)]) hX ⟨q_925, q_927, q_13⟩ q_926 hd_X12_in ⟨Nat.le_of_ble_eq_true rfl, Nat.le_of_ble_eq_true rfl⟩ (c_m_in hG s x2 (0 : Int32) (4 : Int32)) rfl rfl (Nat.le_of_ble_eq_true rfl) dX12_of_11) (fun r4 => ?_)
    refine z_if_ne (pc := 14) (tgt := 22) hX dX12_of_14 rfl ?_ ?_
    · refine z_iload_n (pc := 22) hX dX12_of_22 rfl 2 rfl ?_
      refine z_tab1 (pc := 23) (tgt := 52) (v := 0) (off := 29) hX dX12_of_23 (by decide +kernel) (by decide +kernel) (by decide +kernel) rfl ?_ (fun hn0 => ?_)
      · refine z_aload_n (pc := 52) hX dX12_of_52 rfl 0 rfl ?_
        refine gr_17_8M (pc := 53) hX q_820 dX12_of_53 ?_
        refine z_iload_n (pc := 56) hX dX12_of_56 rfl 1 rfl ?_
        refine ia_19M (pc := 57) hX dX12_of_57 ?_
        exact z_retI (pc := 58) hX dX12_of_58
      · refine z_tab1 (pc := 23) (tgt := 59) (v := 1) (off := 36) hX dX12_of_23 (by decide +kernel) (by decide +kernel) (by decide +kernel) rfl ?_ (fun hn1 => ?_)
        · refine z_aload_n (pc := 59) hX dX12_of_59 rfl 0 rfl ?_
          refine gr_17_9M (pc := 60) hX q_821 dX12_of_60 ?_
          refine z_iload_n (pc := 63) hX dX12_of_63 rfl 1 rfl ?_
          refine ia_20M (pc := 64) hX dX12_of_64 ?_
          exact z_retI (pc := 65) hX dX12_of_65
        · refine z_tab1 (pc := 23) (tgt := 66) (v := 2) (off := 43) hX dX12_of_23 (by decide +kernel) (by decide +kernel) (by decide +kernel) rfl ?_ (fun hn2 => ?_)
          · refine z_aload_n (pc := 66) hX dX12_of_66 rfl 0 rfl ?_
            refine gr_17_10M (pc := 67) hX q_822 dX12_of_67 ?_
            refine z_iload_n (pc := 70) hX dX12_of_70 rfl 1 rfl ?_
            refine ia_21M (pc := 71) hX dX12_of_71 ?_
            exact z_retI (pc := 72) hX dX12_of_72
          · refine z_tab1 (pc := 23) (tgt := 73) (v := 3) (off := 50) hX dX12_of_23 (by decide +kernel) (by decide +kernel) (by decide +kernel) rfl ?_ (fun hn3 => ?_)
            · refine z_aload_n (pc := 73) hX dX12_of_73 rfl 0 rfl ?_
              refine gr_17_11M (pc := 74) hX q_823 dX12_of_74 ?_
              refine z_iload_n (pc := 77) hX dX12_of_77 rfl 1 rfl ?_
              refine ia_22M (pc := 78) hX dX12_of_78 ?_
              exact z_retI (pc := 79) hX dX12_of_79
            · refine z_tab0 (pc := 23) (tgt := 80) hX dX12_of_23 (sw_out [0, 1, 2, 3] (List.forall_mem_cons.mpr ⟨hn0, List.forall_mem_cons.mpr ⟨hn1, List.forall_mem_cons.mpr ⟨hn2, List.forall_mem_cons.mpr ⟨hn3, fun _ h => absurd h List.not_mem_nil⟩⟩⟩⟩) (by decide +kernel)) rfl ?_
              refine z_iload_n (pc := 80) hX dX12_of_80 rfl 1 rfl ?_
              refine z_aload_n (pc := 81) hX dX12_of_81 rfl 0 rfl ?_
              refine gf_17_5M (pc := 82) hX q_817 dX12_of_82 ?_
              refine z_icmp_ne (pc := 85) (tgt := 92) hX dX12_of_85 rfl ?_ ?_
              · refine z_iload_n (pc := 92) hX dX12_of_92 rfl 1 rfl ?_
                refine z_aload_n (pc := 93) hX dX12_of_93 rfl 0 rfl ?_
                refine gf_17_6M (pc := 94) hX q_818 dX12_of_94 ?_
                refine z_icmp_ne (pc := 97) (tgt := 104) hX dX12_of_97 rfl ?_ ?_
                · refine z_iconst (pc := 104) hX dX12_of_104 ic_0 ?_
                  exact z_retI (pc := 105) hX dX12_of_105
                · refine z_iconst (pc := 100) hX dX12_of_100 ic_2 ?_
                  refine z_goto (pc := 101) (tgt := 105) hX dX12_of_101 rfl ?_
                  exact z_retI (pc := 105) hX dX12_of_105
              · refine z_iconst (pc := 88) hX dX12_of_88 ic_1 ?_
                refine z_goto (pc := 89) (tgt := 105) hX dX12_of_89 rfl ?_
                exact z_retI (pc := 105) hX dX12_of_105
    · refine z_aload_n (pc := 17) hX dX12_of_17 rfl 0 rfl ?_
      refine z_rI (run_V (pc := 18) (As := []) hX rc_17 ⟨q_928, q_931, q_13⟩ q_930 qs_24 hd_X12_bad ⟨Nat.le_of_ble_eq_true rfl, Nat.le_of_ble_eq_true rfl⟩ (c_m_bad hG s) rfl rfl (Nat.le_of_ble_eq_true rfl) dX12_of_18) (fun r5 s6 => ?_)
      exact z_retI (pc := 21) hX dX12_of_21
theorem hd_X12_makes : yX12_makes.cls ≠ "java/lang/invoke/MethodHandle" ∧ yX12_makes.cls ≠ "java/lang/invoke/VarHandle" ∧ (parseMethodDescriptor yX12_makes.desc).map (fun d => d.parameters.length) = some 1 := by decide +kernel
def f_m_makes (s : Sto) (x1 : Int32) : Option (Int32 × Sto) :=
  bP (f_m_isHeir s x1) (fun r1 => if r1 = (0 : Int32) then if inb (0 : Int32) 3 then if inb (0 : Int32) 3 then lt (st s 18 0 (ix (0 : Int32)) ((s 18 0 (ix (0 : Int32))) + (1 : Int32))) (fun s3 => some ((-100 : Int32), s3)) else none else none else bP (f_m_makesOf s x1) (fun r2 => some (r2, s)))
set_option maxRecDepth 100000 in
set_option maxHeartbeats 4000000 in
theorem c_m_makes {G : Gb} {l : Launch} {o : Sto} {L : Lng} (hG : GA G) (s : Sto) (x1 : Int32)  : CT G l (EM o L) pvI psI yX12_makes cX12_makes 2 (some .int) 2 43 [.ref (ad G 17 0), .int x1] s (f_m_makes s x1) := by
  refine CT.of hG (by decide) (Nat.le_of_ble_eq_true rfl) (fun X hX => ?_)
  have hX : OX G X l cX12_makes 2 "CrownTwoModel" (some .int) 2 43 := hX
  show ZR G X (EM o L) pvI psI 2 s [(0, .ref (ad G 17 0)), (1, .int x1)] [] 0 _
  unfold f_m_makes
  refine z_aload_n (pc := 0) hX dX12_makes_0 rfl 0 rfl ?_
  refine z_iload_n (pc := 1) hX dX12_makes_1 rfl 1 rfl ?_
  refine z_rP (run_V (pc := 2) (As := [.int x1]) hX rc_17 ⟨q_1022, q_1025, q_13⟩ q_1024 qs_41 hd_X12_isHeir ⟨Nat.le_of_ble_eq_true rfl, Nat.le_of_ble_eq_true rfl⟩ (c_m_isHeir hG s x1) rfl rfl (Nat.le_of_ble_eq_true rfl) dX12_makes_2) (fun r1 => ?_)
  refine z_if_ne (pc := 5) (tgt := 21) hX dX12_makes_5 rfl ?_ ?_
  · refine z_aload_n (pc := 21) hX dX12_makes_21 rfl 0 rfl ?_
    refine z_iload_n (pc := 22) hX dX12_makes_22 rfl 1 rfl ?_
    refine z_rP (run_V (pc := 23) (As := [.int x1]) hX rc_17 ⟨q_1086, q_1089, q_13⟩ q_1088 qs_52 hd_X12_makesOf ⟨Nat.le_of_ble_eq_true rfl, Nat.le_of_ble_eq_true rfl⟩ (c_m_makesOf hG s x1) rfl rfl (Nat.le_of_ble_eq_true rfl) dX12_makes_23) (fun r2 => ?_)
    exact z_retI (pc := 26) hX dX12_makes_26
  · refine z_aload_n (pc := 8) hX dX12_makes_8 rfl 0 rfl ?_
    refine gr_17_0M (pc := 9) hX q_812 dX12_makes_9 ?_
    refine z_iconst (pc := 12) hX dX12_makes_12 ic_0 ?_
    refine z_dup2 (pc := 13) hX dX12_makes_13 rfl rfl ?_
    refine ia_18M (pc := 14) hX dX12_makes_14 ?_
    refine z_iconst (pc := 15) hX dX12_makes_15 ic_1 ?_
    refine z_iadd (pc := 16) hX dX12_makes_16 ?_
    refine is_18M (pc := 17) hX dX12_makes_17 ?_
    refine z_lts (fun s3 => ?_)
    refine z_bipush (pc := 18) hX dX12_makes_18 bp_m100 ?_
    exact z_retI (pc := 20) hX dX12_makes_20
theorem hd_X12_lift : yX12_lift.cls ≠ "java/lang/invoke/MethodHandle" ∧ yX12_lift.cls ≠ "java/lang/invoke/VarHandle" ∧ (parseMethodDescriptor yX12_lift.desc).map (fun d => d.parameters.length) = some 1 := by decide +kernel
def f_m_lift (s : Sto) (x1 : Int32) : Option (Int32 × Sto) :=
  bP (f_m_isAct x1) (fun r1 => if r1 = (0 : Int32) then bI (f_m_bad s) (fun r6 s7 => some (r6, s7)) else bP (f_m_isPair s) (fun r2 => if r2 = (0 : Int32) then bI (f_m_no s) (fun r3 s4 => some (r3, s4)) else bP (f_m_lifting s x1) (fun r5 => some (r5, s))))
set_option maxRecDepth 100000 in
set_option maxHeartbeats 4000000 in
theorem c_m_lift {G : Gb} {l : Launch} {o : Sto} {L : Lng} (hG : GA G) (s : Sto) (x1 : Int32)  : CT G l (EM o L) pvI psI yX12_lift cX12_lift 2 (some .int) 4 88 [.ref (ad G 17 0), .int x1] s (f_m_lift s x1) := by
  refine CT.of hG (by decide) (Nat.le_of_ble_eq_true rfl) (fun X hX => ?_)
  have hX : OX G X l cX12_lift 2 "CrownTwoModel" (some .int) 4 88 := hX
  show ZR G X (EM o L) pvI psI 2 s [(0, .ref (ad G 17 0)), (1, .int x1)] [] 0 _
  unfold f_m_lift
  refine z_iload_n (pc := 0) hX dX12_lift_0 rfl 1 rfl ?_
  refine z_rP (run_S (pc := 1) (As := [.int x1]) hX ⟨q_1038, q_1040, q_13⟩ q_1039 hd_X12_isAct ⟨Nat.le_of_ble_eq_true rfl, Nat.le_of_ble_eq_true rfl⟩ (c_m_isAct hG s x1) rfl rfl (Nat.le_of_ble_eq_true rfl) dX12_lift_1) (fun r1 => ?_)
  refine z_if_ne (pc := 4) (tgt := 12) hX dX12_lift_4 rfl ?_ ?_
  · refine z_aload_n (pc := 12) hX dX12_lift_12 rfl 0 rfl ?_
    refine z_rP (run_V (pc := 13) (As := []) hX rc_17 ⟨q_1041, q_1044, q_13⟩ q_1043 qs_44 hd_X12_isPair ⟨Nat.le_of_ble_eq_true rfl, Nat.le_of_ble_eq_true rfl⟩ (c_m_isPair hG s) rfl rfl (Nat.le_of_ble_eq_true rfl) dX12_lift_13) (fun r2 => ?_)
    refine z_if_eq (pc := 16) (tgt := 27) hX dX12_lift_16 rfl ?_ ?_
    · refine z_aload_n (pc := 27) hX dX12_lift_27 rfl 0 rfl ?_
      refine z_rI (run_V (pc := 28) (As := []) hX rc_17 ⟨q_1048, q_1051, q_13⟩ q_1050 qs_45 hd_X12_no ⟨Nat.le_of_ble_eq_true rfl, Nat.le_of_ble_eq_true rfl⟩ (c_m_no hG s) rfl rfl (Nat.le_of_ble_eq_true rfl) dX12_lift_28) (fun r3 s4 => ?_)
      exact z_retI (pc := 31) hX dX12_lift_31
    · refine z_aload_n (pc := 19) hX dX12_lift_19 rfl 0 rfl ?_
      refine z_iload_n (pc := 20) hX dX12_lift_20 rfl 1 rfl ?_
      refine z_rP (run_V (pc := 21) (As := [.int x1]) hX rc_17 ⟨q_1056, q_1059, q_13⟩ q_1058 qs_47 hd_X12_lifting ⟨Nat.le_of_ble_eq_true rfl, Nat.le_of_ble_eq_true rfl⟩ (c_m_lifting hG s x1) rfl rfl (Nat.le_of_ble_eq_true rfl) dX12_lift_21) (fun r5 => ?_)
      refine z_goto (pc := 24) (tgt := 31) hX dX12_lift_24 rfl ?_
      exact z_retI (pc := 31) hX dX12_lift_31
  · refine z_aload_n (pc := 7) hX dX12_lift_7 rfl 0 rfl ?_
    refine z_rI (run_V (pc := 8) (As := []) hX rc_17 ⟨q_928, q_931, q_13⟩ q_930 qs_24 hd_X12_bad ⟨Nat.le_of_ble_eq_true rfl, Nat.le_of_ble_eq_true rfl⟩ (c_m_bad hG s) rfl rfl (Nat.le_of_ble_eq_true rfl) dX12_lift_8) (fun r6 s7 => ?_)
    exact z_retI (pc := 11) hX dX12_lift_11
theorem hd_X12_bothSet : yX12_bothSet.cls ≠ "java/lang/invoke/MethodHandle" ∧ yX12_bothSet.cls ≠ "java/lang/invoke/VarHandle" ∧ (parseMethodDescriptor yX12_bothSet.desc).map (fun d => d.parameters.length) = some 0 := by decide +kernel
def l_m_bothSet_4 (s : Sto) (rc3 : Int32 → Int32 → Option (Int32)) (v1_1 : Int32) (v2_2 : Int32) : Option (Int32) :=
  if (8 : Int32) ≤ v2_2 then some v1_1 else bP (f_m_lifting s v2_2) (fun r4 => jn (fun t5 => lt (v1_1 ||| t5) (fun v1_7 => rc3 v1_7 (v2_2 + (1 : Int32)))) (fun j6 => if r4 = (3 : Int32) then j6 ((1 : Int32) <<< (v2_2 &&& 31)) else j6 (0 : Int32)))
def f_m_bothSet (s : Sto)  : Option (Int32) :=
  fx 1000 (l_m_bothSet_4 s) (fun _ _ => none) (0 : Int32) (0 : Int32)
set_option maxRecDepth 100000 in
set_option maxHeartbeats 4000000 in
theorem c_m_bothSet {G : Gb} {l : Launch} {o : Sto} {L : Lng} (hG : GA G) (s : Sto)   : CT G l (EM o L) pvP (psP s) yX12_bothSet cX12_bothSet 3 (some .int) 4 88 [.ref (ad G 17 0)] s (f_m_bothSet s) := by
  refine CT.of hG (by decide) (Nat.le_of_ble_eq_true rfl) (fun X hX => ?_)
  have hX : OX G X l cX12_bothSet 3 "CrownTwoModel" (some .int) 4 88 := hX
  show ZR G X (EM o L) pvP (psP s) 3 s [(0, .ref (ad G 17 0))] [] 0 _
  unfold f_m_bothSet
  refine z_iconst (pc := 0) hX dX12_bothSet_0 ic_0 ?_
  refine z_istore_n (pc := 1) (ls' := [(1, .int (0 : Int32)), (0, .ref (ad G 17 0))]) hX dX12_bothSet_1 rfl (by decide) rfl ?_
  refine z_iconst (pc := 2) hX dX12_bothSet_2 ic_0 ?_
  refine z_istore_n (pc := 3) (ls' := [(2, .int (0 : Int32)), (1, .int (0 : Int32)), (0, .ref (ad G 17 0))]) hX dX12_bothSet_3 rfl (by decide) rfl ?_
  refine z_ls [2, 1, 0] rfl ?_
  refine (fx_P (F := l_m_bothSet_4 s) (b := (fun _ _ => none)) (fun rc3 => ∀ (v1_1 : Int32) (v2_2 : Int32), ZR G X (EM o L) pvP (psP s) 3 s [(0, .ref (ad G 17 0)), (1, .int v1_1), (2, .int v2_2)] [] 4 (rc3 v1_1 v2_2)) ?_ ?_ 1000) (0 : Int32) (0 : Int32)
  · intro v1_1 v2_2; exact z_none
  · intro rc3 hrc3 v1_1 v2_2
    unfold l_m_bothSet_4
    refine z_iload_n (pc := 4) hX dX12_bothSet_4 rfl 2 rfl ?_
    refine z_bipush (pc := 5) hX dX12_bothSet_5 bp_8 ?_
    refine z_icmp_ge (pc := 7) (tgt := 35) hX dX12_bothSet_7 rfl ?_ ?_
    · refine z_iload_n (pc := 35) hX dX12_bothSet_35 rfl 1 rfl ?_
      exact z_retP (pc := 36) hX dX12_bothSet_36
    · refine z_iload_n (pc := 10) hX dX12_bothSet_10 rfl 1 rfl ?_
      refine z_aload_n (pc := 11) hX dX12_bothSet_11 rfl 0 rfl ?_
      refine z_iload_n (pc := 12) hX dX12_bothSet_12 rfl 2 rfl ?_
      refine z_rP (run_V (pc := 13) (As := [.int v2_2]) hX rc_17 ⟨q_1056, q_1059, q_13⟩ q_1058 qs_47 hd_X12_lifting ⟨Nat.le_of_ble_eq_true rfl, Nat.le_of_ble_eq_true rfl⟩ (c_m_lifting hG s v2_2) rfl rfl (Nat.le_of_ble_eq_true rfl) dX12_bothSet_13) (fun r4 => ?_)
      refine z_iconst (pc := 16) hX dX12_bothSet_16 ic_3 ?_
      refine z_jn (P := fun j6 => ∀ (t5 : Int32), ZR G X (EM o L) pvP (psP s) 3 s [(0, .ref (ad G 17 0)), (2, .int v2_2)] [.int t5, .int v1_1] 27 (j6 t5)) ?_ ?_
      · intro t5
        refine z_ior (pc := 27) hX dX12_bothSet_27 ?_
        refine z_lti (pc := 28) (fun v1_7 => ?_)
        refine z_istore_n (pc := 28) (ls' := [(1, .int v1_7), (0, .ref (ad G 17 0)), (2, .int v2_2)]) hX dX12_bothSet_28 rfl (by decide) rfl ?_
        refine z_iinc (pc := 29) (n := 2) (v := v2_2 + (1 : Int32)) (ls' := [(2, .int (v2_2 + (1 : Int32))), (1, .int v1_7), (0, .ref (ad G 17 0))]) hX dX12_bothSet_29 rfl (by rw [show Int32.ofInt (1) = 1 by decide +kernel]) (by decide) rfl ?_
        refine z_goto (pc := 32) (tgt := 4) hX dX12_bothSet_32 rfl ?_
        exact z_ls [2, 1, 0] rfl (hrc3 v1_7 (v2_2 + (1 : Int32)))
      · intro j6 hj6
        refine z_icmp_ne (pc := 17) (tgt := 26) hX dX12_bothSet_17 rfl ?_ ?_
        · refine z_iconst (pc := 26) hX dX12_bothSet_26 ic_0 ?_
          exact z_ls [0, 2] rfl (hj6 (0 : Int32))
        · refine z_iconst (pc := 20) hX dX12_bothSet_20 ic_1 ?_
          refine z_iload_n (pc := 21) hX dX12_bothSet_21 rfl 2 rfl ?_
          refine z_ishl (pc := 22) hX dX12_bothSet_22 ?_
          refine z_goto (pc := 23) (tgt := 27) hX dX12_bothSet_23 rfl ?_
          exact z_ls [0, 2] rfl (hj6 ((1 : Int32) <<< (v2_2 &&& 31)))
theorem hd_X12_both : yX12_both.cls ≠ "java/lang/invoke/MethodHandle" ∧ yX12_both.cls ≠ "java/lang/invoke/VarHandle" ∧ (parseMethodDescriptor yX12_both.desc).map (fun d => d.parameters.length) = some 1 := by decide +kernel
def l_m_both_33 (x1 : Int32) (K5 : Sto → Option (Int32 × Sto)) (rc10 : Sto → Int32 → Option (Int32 × Sto)) (s8 : Sto) (v2_9 : Int32) : Option (Int32 × Sto) :=
  if x1 ≤ v2_9 then K5 s8 else bV (f_m_pass s8) (fun s11 => rc10 s11 (v2_9 + (1 : Int32)))
def f_m_both (s : Sto) (x1 : Int32) : Option (Int32 × Sto) :=
  bP (f_m_in x1 (0 : Int32) (60 : Int32)) (fun r1 => if r1 = (0 : Int32) then bI (f_m_bad s) (fun r14 s15 => some (r14, s15)) else bP (f_m_isPair s) (fun r2 => if r2 = (0 : Int32) then bI (f_m_no s) (fun r12 s13 => some (r12, s13)) else bV (f_m_puts s) (fun s3 => jn (fun s4 => bP (f_m_bothSet s4) (fun r6 => bV (f_m_back s4) (fun s7 => some (r6, s7)))) (fun K5 => fx 1000 (l_m_both_33 x1 K5) (fun _ _ => none) s3 (0 : Int32)))))
set_option maxRecDepth 100000 in
set_option maxHeartbeats 4000000 in
theorem c_m_both {G : Gb} {l : Launch} {o : Sto} {L : Lng} (hG : GA G) (s : Sto) (x1 : Int32)  : CT G l (EM o L) pvI psI yX12_both cX12_both 3 (some .int) 5 110 [.ref (ad G 17 0), .int x1] s (f_m_both s x1) := by
  refine CT.of hG (by decide) (Nat.le_of_ble_eq_true rfl) (fun X hX => ?_)
  have hX : OX G X l cX12_both 3 "CrownTwoModel" (some .int) 5 110 := hX
  show ZR G X (EM o L) pvI psI 3 s [(0, .ref (ad G 17 0)), (1, .int x1)] [] 0 _
  unfold f_m_both
  refine z_iload_n (pc := 0) hX dX12_both_0 rfl 1 rfl ?_
  refine z_iconst (pc := 1) hX dX12_both_1 ic_0 ?_
  refine z_bipush (pc := 2) hX dX12_both_2 bp_60 ?_
  refine z_rP (run_S (pc := 4) (As := [.int x1, .int (0 : Int32), .int (60 : Int32)]) hX ⟨q_925, q_927, q_13⟩ q_926 hd_X12_in ⟨Nat.le_of_ble_eq_true rfl, Nat.le_of_ble_eq_true rfl⟩ (c_m_in hG s x1 (0 : Int32) (60 : Int32)) rfl rfl (Nat.le_of_ble_eq_true rfl) dX12_both_4) (fun r1 => ?_)
  refine z_if_ne (pc := 7) (tgt := 15) hX dX12_both_7 rfl ?_ ?_
  · refine z_aload_n (pc := 15) hX dX12_both_15 rfl 0 rfl ?_
    refine z_rP (run_V (pc := 16) (As := []) hX rc_17 ⟨q_1041, q_1044, q_13⟩ q_1043 qs_44 hd_X12_isPair ⟨Nat.le_of_ble_eq_true rfl, Nat.le_of_ble_eq_true rfl⟩ (c_m_isPair hG s) rfl rfl (Nat.le_of_ble_eq_true rfl) dX12_both_16) (fun r2 => ?_)
    refine z_if_ne (pc := 19) (tgt := 27) hX dX12_both_19 rfl ?_ ?_
    · refine z_aload_n (pc := 27) hX dX12_both_27 rfl 0 rfl ?_
      refine z_rV (run_V (pc := 28) (As := []) hX rc_17 ⟨q_1118, q_1121, q_13⟩ q_1120 qs_54 hd_X12_puts ⟨Nat.le_of_ble_eq_true rfl, Nat.le_of_ble_eq_true rfl⟩ (c_m_puts hG s) rfl rfl (Nat.le_of_ble_eq_true rfl) dX12_both_28) (fun s3 => ?_)
      refine z_iconst (pc := 31) hX dX12_both_31 ic_0 ?_
      refine z_istore_n (pc := 32) (ls' := [(2, .int (0 : Int32)), (0, .ref (ad G 17 0)), (1, .int x1)]) hX dX12_both_32 rfl (by decide) rfl ?_
      refine z_jn (P := fun K5 => ∀ (s4 : Sto), ZR G X (EM o L) pvI psI 3 s4 [(0, .ref (ad G 17 0))] [] 48 (K5 s4)) ?_ ?_
      · intro s4
        refine z_aload_n (pc := 48) hX dX12_both_48 rfl 0 rfl ?_
        refine z_rP (run_V (pc := 49) (As := []) hX rc_17 ⟨q_1122, q_1125, q_13⟩ q_1124 qs_55 hd_X12_bothSet ⟨Nat.le_of_ble_eq_true rfl, Nat.le_of_ble_eq_true rfl⟩ (c_m_bothSet hG s4) rfl rfl (Nat.le_of_ble_eq_true rfl) dX12_both_49) (fun r6 => ?_)
        refine z_istore_n (pc := 52) (ls' := [(2, .int r6), (0, .ref (ad G 17 0))]) hX dX12_both_52 rfl (by decide) rfl ?_
        refine z_aload_n (pc := 53) hX dX12_both_53 rfl 1 rfl ?_
        refine z_rV (run_V (pc := 54) (As := []) hX rc_17 ⟨q_1126, q_1129, q_13⟩ q_1128 qs_56 hd_X12_back ⟨Nat.le_of_ble_eq_true rfl, Nat.le_of_ble_eq_true rfl⟩ (c_m_back hG s4) rfl rfl (Nat.le_of_ble_eq_true rfl) dX12_both_54) (fun s7 => ?_)
        refine z_iload_n (pc := 57) hX dX12_both_57 rfl 0 rfl ?_
        exact z_retI (pc := 58) hX dX12_both_58
      · intro K5 hK5
        refine z_ls [1, 2, 0] rfl ?_
        refine (fx_P (F := l_m_both_33 x1 K5) (b := (fun _ _ => none)) (fun rc10 => ∀ (s8 : Sto) (v2_9 : Int32), ZR G X (EM o L) pvI psI 3 s8 [(0, .ref (ad G 17 0)), (1, .int x1), (2, .int v2_9)] [] 33 (rc10 s8 v2_9)) ?_ ?_ 1000) s3 (0 : Int32)
        · intro s8 v2_9; exact z_none
        · intro rc10 hrc10 s8 v2_9
          unfold l_m_both_33
          refine z_iload_n (pc := 33) hX dX12_both_33 rfl 2 rfl ?_
          refine z_iload_n (pc := 34) hX dX12_both_34 rfl 1 rfl ?_
          refine z_icmp_ge (pc := 35) (tgt := 48) hX dX12_both_35 rfl ?_ ?_
          · exact z_ls [0] rfl (hK5 s8)
          · refine z_aload_n (pc := 38) hX dX12_both_38 rfl 0 rfl ?_
            refine z_rV (run_V (pc := 39) (As := []) hX rc_17 ⟨q_1078, q_1081, q_13⟩ q_1080 qs_50 hd_X12_pass ⟨Nat.le_of_ble_eq_true rfl, Nat.le_of_ble_eq_true rfl⟩ (c_m_pass hG s8) rfl rfl (Nat.le_of_ble_eq_true rfl) dX12_both_39) (fun s11 => ?_)
            refine z_iinc (pc := 42) (n := 2) (v := v2_9 + (1 : Int32)) (ls' := [(2, .int (v2_9 + (1 : Int32))), (0, .ref (ad G 17 0)), (1, .int x1)]) hX dX12_both_42 rfl (by rw [show Int32.ofInt (1) = 1 by decide +kernel]) (by decide) rfl ?_
            refine z_goto (pc := 45) (tgt := 33) hX dX12_both_45 rfl ?_
            exact z_ls [1, 2, 0] rfl (hrc10 s11 (v2_9 + (1 : Int32)))
    · refine z_aload_n (pc := 22) hX dX12_both_22 rfl 0 rfl ?_
      refine z_rI (run_V (pc := 23) (As := []) hX rc_17 ⟨q_1048, q_1051, q_13⟩ q_1050 qs_45 hd_X12_no ⟨Nat.le_of_ble_eq_true rfl, Nat.le_of_ble_eq_true rfl⟩ (c_m_no hG s) rfl rfl (Nat.le_of_ble_eq_true rfl) dX12_both_23) (fun r12 s13 => ?_)
      exact z_retI (pc := 26) hX dX12_both_26
  · refine z_aload_n (pc := 10) hX dX12_both_10 rfl 0 rfl ?_
    refine z_rI (run_V (pc := 11) (As := []) hX rc_17 ⟨q_928, q_931, q_13⟩ q_930 qs_24 hd_X12_bad ⟨Nat.le_of_ble_eq_true rfl, Nat.le_of_ble_eq_true rfl⟩ (c_m_bad hG s) rfl rfl (Nat.le_of_ble_eq_true rfl) dX12_both_11) (fun r14 s15 => ?_)
    exact z_retI (pc := 14) hX dX12_both_14
theorem hd_X12_daysTill : yX12_daysTill.cls ≠ "java/lang/invoke/MethodHandle" ∧ yX12_daysTill.cls ≠ "java/lang/invoke/VarHandle" ∧ (parseMethodDescriptor yX12_daysTill.desc).map (fun d => d.parameters.length) = some 0 := by decide +kernel
def l_m_daysTill_6  (rc4 : Sto → Int32 → Option (Int32 × Sto)) (s2 : Sto) (v1_3 : Int32) : Option (Int32 × Sto) :=
  if (90 : Int32) < v1_3 then bV (f_m_back s2) (fun s5 => some (v1_3, s5)) else if (s2 17 0 2) < (10 : Int32) then bV (f_m_back s2) (fun s6 => some (v1_3, s6)) else bV (f_m_pass s2) (fun s7 => rc4 s7 (v1_3 + (1 : Int32)))
def f_m_daysTill (s : Sto)  : Option (Int32 × Sto) :=
  bV (f_m_puts s) (fun s1 => fx 1000 (l_m_daysTill_6) (fun _ _ => none) s1 (0 : Int32))
set_option maxRecDepth 100000 in
set_option maxHeartbeats 4000000 in
theorem c_m_daysTill {G : Gb} {l : Launch} {o : Sto} {L : Lng} (hG : GA G) (s : Sto)   : CT G l (EM o L) pvI psI yX12_daysTill cX12_daysTill 2 (some .int) 3 62 [.ref (ad G 17 0)] s (f_m_daysTill s) := by
  refine CT.of hG (by decide) (Nat.le_of_ble_eq_true rfl) (fun X hX => ?_)
  have hX : OX G X l cX12_daysTill 2 "CrownTwoModel" (some .int) 3 62 := hX
  show ZR G X (EM o L) pvI psI 2 s [(0, .ref (ad G 17 0))] [] 0 _
  unfold f_m_daysTill
  refine z_aload_n (pc := 0) hX dX12_daysTill_0 rfl 0 rfl ?_
  refine z_rV (run_V (pc := 1) (As := []) hX rc_17 ⟨q_1118, q_1121, q_13⟩ q_1120 qs_54 hd_X12_puts ⟨Nat.le_of_ble_eq_true rfl, Nat.le_of_ble_eq_true rfl⟩ (c_m_puts hG s) rfl rfl (Nat.le_of_ble_eq_true rfl) dX12_daysTill_1) (fun s1 => ?_)
  refine z_iconst (pc := 4) hX dX12_daysTill_4 ic_0 ?_
  refine z_istore_n (pc := 5) (ls' := [(1, .int (0 : Int32)), (0, .ref (ad G 17 0))]) hX dX12_daysTill_5 rfl (by decide) rfl ?_
  refine z_ls [1, 0] rfl ?_
  refine (fx_P (F := l_m_daysTill_6) (b := (fun _ _ => none)) (fun rc4 => ∀ (s2 : Sto) (v1_3 : Int32), ZR G X (EM o L) pvI psI 2 s2 [(0, .ref (ad G 17 0)), (1, .int v1_3)] [] 6 (rc4 s2 v1_3)) ?_ ?_ 1000) s1 (0 : Int32)
  · intro s2 v1_3; exact z_none
  · intro rc4 hrc4 s2 v1_3
    unfold l_m_daysTill_6
    refine z_iload_n (pc := 6) hX dX12_daysTill_6 rfl 1 rfl ?_
    refine z_bipush (pc := 7) hX dX12_daysTill_7 bp_90 ?_
    refine z_icmp_gt (pc := 9) (tgt := 31) hX dX12_daysTill_9 rfl ?_ ?_
    · refine z_aload_n (pc := 31) hX dX12_daysTill_31 rfl 0 rfl ?_
      refine z_rV (run_V (pc := 32) (As := []) hX rc_17 ⟨q_1126, q_1129, q_13⟩ q_1128 qs_56 hd_X12_back ⟨Nat.le_of_ble_eq_true rfl, Nat.le_of_ble_eq_true rfl⟩ (c_m_back hG s2) rfl rfl (Nat.le_of_ble_eq_true rfl) dX12_daysTill_32) (fun s5 => ?_)
      refine z_iload_n (pc := 35) hX dX12_daysTill_35 rfl 1 rfl ?_
      exact z_retI (pc := 36) hX dX12_daysTill_36
    · refine z_aload_n (pc := 12) hX dX12_daysTill_12 rfl 0 rfl ?_
      refine gf_17_2M (pc := 13) hX q_814 dX12_daysTill_13 ?_
      refine z_bipush (pc := 16) hX dX12_daysTill_16 bp_10 ?_
      refine z_icmp_lt (pc := 18) (tgt := 31) hX dX12_daysTill_18 rfl ?_ ?_
      · refine z_aload_n (pc := 31) hX dX12_daysTill_31 rfl 0 rfl ?_
        refine z_rV (run_V (pc := 32) (As := []) hX rc_17 ⟨q_1126, q_1129, q_13⟩ q_1128 qs_56 hd_X12_back ⟨Nat.le_of_ble_eq_true rfl, Nat.le_of_ble_eq_true rfl⟩ (c_m_back hG s2) rfl rfl (Nat.le_of_ble_eq_true rfl) dX12_daysTill_32) (fun s6 => ?_)
        refine z_iload_n (pc := 35) hX dX12_daysTill_35 rfl 1 rfl ?_
        exact z_retI (pc := 36) hX dX12_daysTill_36
      · refine z_aload_n (pc := 21) hX dX12_daysTill_21 rfl 0 rfl ?_
        refine z_rV (run_V (pc := 22) (As := []) hX rc_17 ⟨q_1078, q_1081, q_13⟩ q_1080 qs_50 hd_X12_pass ⟨Nat.le_of_ble_eq_true rfl, Nat.le_of_ble_eq_true rfl⟩ (c_m_pass hG s2) rfl rfl (Nat.le_of_ble_eq_true rfl) dX12_daysTill_22) (fun s7 => ?_)
        refine z_iinc (pc := 25) (n := 1) (v := v1_3 + (1 : Int32)) (ls' := [(1, .int (v1_3 + (1 : Int32))), (0, .ref (ad G 17 0))]) hX dX12_daysTill_25 rfl (by rw [show Int32.ofInt (1) = 1 by decide +kernel]) (by decide) rfl ?_
        refine z_goto (pc := 28) (tgt := 6) hX dX12_daysTill_28 rfl ?_
        exact z_ls [1, 0] rfl (hrc4 s7 (v1_3 + (1 : Int32)))
theorem hd_X12_friends : yX12_friends.cls ≠ "java/lang/invoke/MethodHandle" ∧ yX12_friends.cls ≠ "java/lang/invoke/VarHandle" ∧ (parseMethodDescriptor yX12_friends.desc).map (fun d => d.parameters.length) = some 0 := by decide +kernel
def f_m_friends (s : Sto)  : Option (Int32 × Sto) :=
  bI (f_m_daysTill s) (fun r1 s2 => if r1 ≤ (90 : Int32) then some (r1, s2) else some ((-1 : Int32), s2))
set_option maxRecDepth 100000 in
set_option maxHeartbeats 4000000 in
theorem c_m_friends {G : Gb} {l : Launch} {o : Sto} {L : Lng} (hG : GA G) (s : Sto)   : CT G l (EM o L) pvI psI yX12_friends cX12_friends 2 (some .int) 4 83 [.ref (ad G 17 0)] s (f_m_friends s) := by
  refine CT.of hG (by decide) (Nat.le_of_ble_eq_true rfl) (fun X hX => ?_)
  have hX : OX G X l cX12_friends 2 "CrownTwoModel" (some .int) 4 83 := hX
  show ZR G X (EM o L) pvI psI 2 s [(0, .ref (ad G 17 0))] [] 0 _
  unfold f_m_friends
  refine z_aload_n (pc := 0) hX dX12_friends_0 rfl 0 rfl ?_
  refine z_rI (run_V (pc := 1) (As := []) hX rc_17 ⟨q_1134, q_1137, q_13⟩ q_1136 qs_57 hd_X12_daysTill ⟨Nat.le_of_ble_eq_true rfl, Nat.le_of_ble_eq_true rfl⟩ (c_m_daysTill hG s) rfl rfl (Nat.le_of_ble_eq_true rfl) dX12_friends_1) (fun r1 s2 => ?_)
  refine z_istore_n (pc := 4) (ls' := [(1, .int r1), (0, .ref (ad G 17 0))]) hX dX12_friends_4 rfl (by decide) rfl ?_
  refine z_iload_n (pc := 5) hX dX12_friends_5 rfl 0 rfl ?_
  refine z_bipush (pc := 6) hX dX12_friends_6 bp_90 ?_
  refine z_icmp_le (pc := 8) (tgt := 15) hX dX12_friends_8 rfl ?_ ?_
  · refine z_iload_n (pc := 15) hX dX12_friends_15 rfl 0 rfl ?_
    exact z_retI (pc := 16) hX dX12_friends_16
  · refine z_iconst (pc := 11) hX dX12_friends_11 ic_m1 ?_
    refine z_goto (pc := 12) (tgt := 16) hX dX12_friends_12 rfl ?_
    exact z_retI (pc := 16) hX dX12_friends_16
theorem hd_X12_then : yX12_then.cls ≠ "java/lang/invoke/MethodHandle" ∧ yX12_then.cls ≠ "java/lang/invoke/VarHandle" ∧ (parseMethodDescriptor yX12_then.desc).map (fun d => d.parameters.length) = some 1 := by decide +kernel
def l_m_then_21 (x1 : Int32) (K4 : Sto → Option (Int32 × Sto)) (rc9 : Sto → Int32 → Option (Int32 × Sto)) (s7 : Sto) (v2_8 : Int32) : Option (Int32 × Sto) :=
  if x1 ≤ v2_8 then K4 s7 else bV (f_m_pass s7) (fun s10 => rc9 s10 (v2_8 + (1 : Int32)))
def f_m_then (s : Sto) (x1 : Int32) : Option (Int32 × Sto) :=
  bP (f_m_in x1 (0 : Int32) (90 : Int32)) (fun r1 => if r1 = (0 : Int32) then bI (f_m_bad s) (fun r11 s12 => some (r11, s12)) else bV (f_m_puts s) (fun s2 => jn (fun s3 => lt (s3 17 0 2) (fun v2_5 => bV (f_m_back s3) (fun s6 => some (v2_5, s6)))) (fun K4 => fx 1000 (l_m_then_21 x1 K4) (fun _ _ => none) s2 (0 : Int32))))
set_option maxRecDepth 100000 in
set_option maxHeartbeats 4000000 in
theorem c_m_then {G : Gb} {l : Launch} {o : Sto} {L : Lng} (hG : GA G) (s : Sto) (x1 : Int32)  : CT G l (EM o L) pvI psI yX12_then cX12_then 3 (some .int) 3 62 [.ref (ad G 17 0), .int x1] s (f_m_then s x1) := by
  refine CT.of hG (by decide) (Nat.le_of_ble_eq_true rfl) (fun X hX => ?_)
  have hX : OX G X l cX12_then 3 "CrownTwoModel" (some .int) 3 62 := hX
  show ZR G X (EM o L) pvI psI 3 s [(0, .ref (ad G 17 0)), (1, .int x1)] [] 0 _
  unfold f_m_then
  refine z_iload_n (pc := 0) hX dX12_then_0 rfl 1 rfl ?_
  refine z_iconst (pc := 1) hX dX12_then_1 ic_0 ?_
  refine z_bipush (pc := 2) hX dX12_then_2 bp_90 ?_
  refine z_rP (run_S (pc := 4) (As := [.int x1, .int (0 : Int32), .int (90 : Int32)]) hX ⟨q_925, q_927, q_13⟩ q_926 hd_X12_in ⟨Nat.le_of_ble_eq_true rfl, Nat.le_of_ble_eq_true rfl⟩ (c_m_in hG s x1 (0 : Int32) (90 : Int32)) rfl rfl (Nat.le_of_ble_eq_true rfl) dX12_then_4) (fun r1 => ?_)
  refine z_if_ne (pc := 7) (tgt := 15) hX dX12_then_7 rfl ?_ ?_
  · refine z_aload_n (pc := 15) hX dX12_then_15 rfl 0 rfl ?_
    refine z_rV (run_V (pc := 16) (As := []) hX rc_17 ⟨q_1118, q_1121, q_13⟩ q_1120 qs_54 hd_X12_puts ⟨Nat.le_of_ble_eq_true rfl, Nat.le_of_ble_eq_true rfl⟩ (c_m_puts hG s) rfl rfl (Nat.le_of_ble_eq_true rfl) dX12_then_16) (fun s2 => ?_)
    refine z_iconst (pc := 19) hX dX12_then_19 ic_0 ?_
    refine z_istore_n (pc := 20) (ls' := [(2, .int (0 : Int32)), (0, .ref (ad G 17 0)), (1, .int x1)]) hX dX12_then_20 rfl (by decide) rfl ?_
    refine z_jn (P := fun K4 => ∀ (s3 : Sto), ZR G X (EM o L) pvI psI 3 s3 [(0, .ref (ad G 17 0))] [] 36 (K4 s3)) ?_ ?_
    · intro s3
      refine z_aload_n (pc := 36) hX dX12_then_36 rfl 0 rfl ?_
      refine gf_17_2M (pc := 37) hX q_814 dX12_then_37 ?_
      refine z_lti (pc := 40) (fun v2_5 => ?_)
      refine z_istore_n (pc := 40) (ls' := [(2, .int v2_5), (0, .ref (ad G 17 0))]) hX dX12_then_40 rfl (by decide) rfl ?_
      refine z_aload_n (pc := 41) hX dX12_then_41 rfl 1 rfl ?_
      refine z_rV (run_V (pc := 42) (As := []) hX rc_17 ⟨q_1126, q_1129, q_13⟩ q_1128 qs_56 hd_X12_back ⟨Nat.le_of_ble_eq_true rfl, Nat.le_of_ble_eq_true rfl⟩ (c_m_back hG s3) rfl rfl (Nat.le_of_ble_eq_true rfl) dX12_then_42) (fun s6 => ?_)
      refine z_iload_n (pc := 45) hX dX12_then_45 rfl 0 rfl ?_
      exact z_retI (pc := 46) hX dX12_then_46
    · intro K4 hK4
      refine z_ls [1, 2, 0] rfl ?_
      refine (fx_P (F := l_m_then_21 x1 K4) (b := (fun _ _ => none)) (fun rc9 => ∀ (s7 : Sto) (v2_8 : Int32), ZR G X (EM o L) pvI psI 3 s7 [(0, .ref (ad G 17 0)), (1, .int x1), (2, .int v2_8)] [] 21 (rc9 s7 v2_8)) ?_ ?_ 1000) s2 (0 : Int32)
      · intro s7 v2_8; exact z_none
      · intro rc9 hrc9 s7 v2_8
        unfold l_m_then_21
        refine z_iload_n (pc := 21) hX dX12_then_21 rfl 2 rfl ?_
        refine z_iload_n (pc := 22) hX dX12_then_22 rfl 1 rfl ?_
        refine z_icmp_ge (pc := 23) (tgt := 36) hX dX12_then_23 rfl ?_ ?_
        · exact z_ls [0] rfl (hK4 s7)
        · refine z_aload_n (pc := 26) hX dX12_then_26 rfl 0 rfl ?_
          refine z_rV (run_V (pc := 27) (As := []) hX rc_17 ⟨q_1078, q_1081, q_13⟩ q_1080 qs_50 hd_X12_pass ⟨Nat.le_of_ble_eq_true rfl, Nat.le_of_ble_eq_true rfl⟩ (c_m_pass hG s7) rfl rfl (Nat.le_of_ble_eq_true rfl) dX12_then_27) (fun s10 => ?_)
          refine z_iinc (pc := 30) (n := 2) (v := v2_8 + (1 : Int32)) (ls' := [(2, .int (v2_8 + (1 : Int32))), (0, .ref (ad G 17 0)), (1, .int x1)]) hX dX12_then_30 rfl (by rw [show Int32.ofInt (1) = 1 by decide +kernel]) (by decide) rfl ?_
          refine z_goto (pc := 33) (tgt := 21) hX dX12_then_33 rfl ?_
          exact z_ls [1, 2, 0] rfl (hrc9 s10 (v2_8 + (1 : Int32)))
  · refine z_aload_n (pc := 10) hX dX12_then_10 rfl 0 rfl ?_
    refine z_rI (run_V (pc := 11) (As := []) hX rc_17 ⟨q_928, q_931, q_13⟩ q_930 qs_24 hd_X12_bad ⟨Nat.le_of_ble_eq_true rfl, Nat.le_of_ble_eq_true rfl⟩ (c_m_bad hG s) rfl rfl (Nat.le_of_ble_eq_true rfl) dX12_then_11) (fun r11 s12 => ?_)
    exact z_retI (pc := 14) hX dX12_then_14
theorem hd_X12_doneBy : yX12_doneBy.cls ≠ "java/lang/invoke/MethodHandle" ∧ yX12_doneBy.cls ≠ "java/lang/invoke/VarHandle" ∧ (parseMethodDescriptor yX12_doneBy.desc).map (fun d => d.parameters.length) = some 2 := by decide +kernel
def l_m_doneBy_53 (x2 : Int32) (K8 : Sto → Int32 → Option (Int32 × Sto)) (rc15 : Sto → Int32 → Int32 → Option (Int32 × Sto)) (s12 : Sto) (v5_13 : Int32) (v6_14 : Int32) : Option (Int32 × Sto) :=
  if x2 ≤ v6_14 then K8 s12 v5_13 else if v5_13 = (0 : Int32) then K8 s12 v5_13 else if inb v6_14 4 then jn (fun s16 v5_17 => bV (f_m_pass s16) (fun s19 => rc15 s19 v5_17 (v6_14 + (1 : Int32)))) (fun j18 => if (8 : Int32) ≤ (s12 32 0 (ix v6_14)) then j18 s12 v5_13 else if inb v6_14 4 then bP (f_m_has (s12 17 0 4) (s12 32 0 (ix v6_14))) (fun r20 => jn (fun t21 => if inb v6_14 4 then bI (f_m_asks s12 (s12 32 0 (ix v6_14))) (fun r23 s24 => j18 s24 t21) else none) (fun j22 => if r20 = (0 : Int32) then j22 (1 : Int32) else j22 (0 : Int32))) else none) else none
def l_m_doneBy_7 (K3 : Sto → Option (Int32 × Sto)) (rc28 : Sto → Int32 → Int32 → Option (Int32 × Sto)) (s25 : Sto) (v3_26 : Int32) (v4_27 : Int32) : Option (Int32 × Sto) :=
  if v4_27 < (0 : Int32) then K3 s25 else if inb v4_27 4 then lt (st s25 32 0 (ix v4_27) (v3_26 - v3_26 / (9 : Int32) * (9 : Int32))) (fun s29 => lt (v3_26 / (9 : Int32)) (fun v3_30 => rc28 s29 v3_30 (v4_27 + (-1 : Int32)))) else none
def f_m_doneBy (s : Sto) (x1 : Int32) (x2 : Int32) : Option (Int32 × Sto) :=
  lt (x2 - (1 : Int32)) (fun v4_1 => jn (fun s2 => bV (f_m_puts s2) (fun s4 => bP (f_m_bits (s4 17 0 4)) (fun r5 => jn (fun s6 v5_7 => bP (f_m_bits (s6 17 0 4)) (fun r9 => lt (r9 - r5) (fun v6_10 => bV (f_m_back s6) (fun s11 => if v5_7 = (0 : Int32) then some ((-1 : Int32), s11) else some (v6_10, s11))))) (fun K8 => fx 1000 (l_m_doneBy_53 x2 K8) (fun _ _ _ => none) s4 (1 : Int32) (0 : Int32))))) (fun K3 => fx 1000 (l_m_doneBy_7 K3) (fun _ _ _ => none) s x1 v4_1))
set_option maxRecDepth 100000 in
set_option maxHeartbeats 4000000 in
theorem c_m_doneBy {G : Gb} {l : Launch} {o : Sto} {L : Lng} (hG : GA G) (s : Sto) (x1 : Int32) (x2 : Int32)  : CT G l (EM o L) pvI psI yX12_doneBy cX12_doneBy 7 (some .int) 5 110 [.ref (ad G 17 0), .int x1, .int x2] s (f_m_doneBy s x1 x2) := by
  refine CT.of hG (by decide) (Nat.le_of_ble_eq_true rfl) (fun X hX => ?_)
  have hX : OX G X l cX12_doneBy 7 "CrownTwoModel" (some .int) 5 110 := hX
  show ZR G X (EM o L) pvI psI 7 s [(0, .ref (ad G 17 0)), (1, .int x1), (2, .int x2)] [] 0 _
  unfold f_m_doneBy
  refine z_iload_n (pc := 0) hX dX12_doneBy_0 rfl 1 rfl ?_
  refine z_istore_n (pc := 1) (ls' := [(3, .int x1), (0, .ref (ad G 17 0)), (1, .int x1), (2, .int x2)]) hX dX12_doneBy_1 rfl (by decide) rfl ?_
  refine z_iload_n (pc := 2) hX dX12_doneBy_2 rfl 3 rfl ?_
  refine z_iconst (pc := 3) hX dX12_doneBy_3 ic_1 ?_
  refine z_isub (pc := 4) hX dX12_doneBy_4 ?_
  refine z_lti (pc := 5) (fun v4_1 => ?_)
  refine z_istore (pc := 5) (ls' := [(4, .int v4_1), (3, .int x1), (0, .ref (ad G 17 0)), (1, .int x1), (2, .int x2)]) hX dX12_doneBy_5 (by decide) rfl ?_
  refine z_jn (P := fun K3 => ∀ (s2 : Sto), ZR G X (EM o L) pvI psI 7 s2 [(0, .ref (ad G 17 0)), (2, .int x2)] [] 34 (K3 s2)) ?_ ?_
  · intro s2
    refine z_aload_n (pc := 34) hX dX12_doneBy_34 rfl 0 rfl ?_
    refine z_rV (run_V (pc := 35) (As := []) hX rc_17 ⟨q_1118, q_1121, q_13⟩ q_1120 qs_54 hd_X12_puts ⟨Nat.le_of_ble_eq_true rfl, Nat.le_of_ble_eq_true rfl⟩ (c_m_puts hG s2) rfl rfl (Nat.le_of_ble_eq_true rfl) dX12_doneBy_35) (fun s4 => ?_)
    refine z_aload_n (pc := 38) hX dX12_doneBy_38 rfl 0 rfl ?_
    refine gf_17_4M (pc := 39) hX q_816 dX12_doneBy_39 ?_
    refine z_rP (run_S (pc := 42) (As := [.int (s4 17 0 4)]) hX ⟨q_1154, q_1156, q_13⟩ q_1155 hd_X12_bits ⟨Nat.le_of_ble_eq_true rfl, Nat.le_of_ble_eq_true rfl⟩ (c_m_bits hG s4 (s4 17 0 4)) rfl rfl (Nat.le_of_ble_eq_true rfl) dX12_doneBy_42) (fun r5 => ?_)
    refine z_istore (pc := 45) (ls' := [(4, .int r5), (0, .ref (ad G 17 0)), (2, .int x2)]) hX dX12_doneBy_45 (by decide) rfl ?_
    refine z_iconst (pc := 47) hX dX12_doneBy_47 ic_1 ?_
    refine z_istore (pc := 48) (ls' := [(5, .int (1 : Int32)), (4, .int r5), (0, .ref (ad G 17 0)), (2, .int x2)]) hX dX12_doneBy_48 (by decide) rfl ?_
    refine z_iconst (pc := 50) hX dX12_doneBy_50 ic_0 ?_
    refine z_istore (pc := 51) (ls' := [(6, .int (0 : Int32)), (5, .int (1 : Int32)), (4, .int r5), (0, .ref (ad G 17 0)), (2, .int x2)]) hX dX12_doneBy_51 (by decide) rfl ?_
    refine z_jn (P := fun K8 => ∀ (s6 : Sto) (v5_7 : Int32), ZR G X (EM o L) pvI psI 7 s6 [(0, .ref (ad G 17 0)), (4, .int r5), (5, .int v5_7)] [] 122 (K8 s6 v5_7)) ?_ ?_
    · intro s6 v5_7
      refine z_aload_n (pc := 122) hX dX12_doneBy_122 rfl 0 rfl ?_
      refine gf_17_4M (pc := 123) hX q_816 dX12_doneBy_123 ?_
      refine z_rP (run_S (pc := 126) (As := [.int (s6 17 0 4)]) hX ⟨q_1154, q_1156, q_13⟩ q_1155 hd_X12_bits ⟨Nat.le_of_ble_eq_true rfl, Nat.le_of_ble_eq_true rfl⟩ (c_m_bits hG s6 (s6 17 0 4)) rfl rfl (Nat.le_of_ble_eq_true rfl) dX12_doneBy_126) (fun r9 => ?_)
      refine z_iload (pc := 129) hX dX12_doneBy_129 1 rfl ?_
      refine z_isub (pc := 131) hX dX12_doneBy_131 ?_
      refine z_lti (pc := 132) (fun v6_10 => ?_)
      refine z_istore (pc := 132) (ls' := [(6, .int v6_10), (0, .ref (ad G 17 0)), (4, .int r5), (5, .int v5_7)]) hX dX12_doneBy_132 (by decide) rfl ?_
      refine z_aload_n (pc := 134) hX dX12_doneBy_134 rfl 1 rfl ?_
      refine z_rV (run_V (pc := 135) (As := []) hX rc_17 ⟨q_1126, q_1129, q_13⟩ q_1128 qs_56 hd_X12_back ⟨Nat.le_of_ble_eq_true rfl, Nat.le_of_ble_eq_true rfl⟩ (c_m_back hG s6) rfl rfl (Nat.le_of_ble_eq_true rfl) dX12_doneBy_135) (fun s11 => ?_)
      refine z_iload (pc := 138) hX dX12_doneBy_138 3 rfl ?_
      refine z_if_eq (pc := 140) (tgt := 148) hX dX12_doneBy_140 rfl ?_ ?_
      · refine z_iconst (pc := 148) hX dX12_doneBy_148 ic_m1 ?_
        exact z_retI (pc := 149) hX dX12_doneBy_149
      · refine z_iload (pc := 143) hX dX12_doneBy_143 0 rfl ?_
        refine z_goto (pc := 145) (tgt := 149) hX dX12_doneBy_145 rfl ?_
        exact z_retI (pc := 149) hX dX12_doneBy_149
    · intro K8 hK8
      refine z_ls [3, 4, 2, 1, 0] rfl ?_
      refine (fx_P (F := l_m_doneBy_53 x2 K8) (b := (fun _ _ _ => none)) (fun rc15 => ∀ (s12 : Sto) (v5_13 : Int32) (v6_14 : Int32), ZR G X (EM o L) pvI psI 7 s12 [(0, .ref (ad G 17 0)), (2, .int x2), (4, .int r5), (5, .int v5_13), (6, .int v6_14)] [] 53 (rc15 s12 v5_13 v6_14)) ?_ ?_ 1000) s4 (1 : Int32) (0 : Int32)
      · intro s12 v5_13 v6_14; exact z_none
      · intro rc15 hrc15 s12 v5_13 v6_14
        unfold l_m_doneBy_53
        refine z_iload (pc := 53) hX dX12_doneBy_53 4 rfl ?_
        refine z_iload_n (pc := 55) hX dX12_doneBy_55 rfl 1 rfl ?_
        refine z_icmp_ge (pc := 56) (tgt := 122) hX dX12_doneBy_56 rfl ?_ ?_
        · exact z_ls [0, 2, 3] rfl (hK8 s12 v5_13)
        · refine z_iload (pc := 59) hX dX12_doneBy_59 3 rfl ?_
          refine z_if_eq (pc := 61) (tgt := 122) hX dX12_doneBy_61 rfl ?_ ?_
          · exact z_ls [0, 2, 3] rfl (hK8 s12 v5_13)
          · refine z_aload_n (pc := 64) hX dX12_doneBy_64 rfl 0 rfl ?_
            refine gr_17_29M (pc := 65) hX q_841 dX12_doneBy_65 ?_
            refine z_iload (pc := 68) hX dX12_doneBy_68 4 rfl ?_
            refine ia_32M (pc := 70) hX dX12_doneBy_70 ?_
            refine z_bipush (pc := 71) hX dX12_doneBy_71 bp_8 ?_
            refine z_jn (P := fun j18 => ∀ (s16 : Sto) (v5_17 : Int32), ZR G X (EM o L) pvI psI 7 s16 [(0, .ref (ad G 17 0)), (2, .int x2), (4, .int r5), (5, .int v5_17), (6, .int v6_14)] [] 112 (j18 s16 v5_17)) ?_ ?_
            · intro s16 v5_17
              refine z_aload_n (pc := 112) hX dX12_doneBy_112 rfl 0 rfl ?_
              refine z_rV (run_V (pc := 113) (As := []) hX rc_17 ⟨q_1078, q_1081, q_13⟩ q_1080 qs_50 hd_X12_pass ⟨Nat.le_of_ble_eq_true rfl, Nat.le_of_ble_eq_true rfl⟩ (c_m_pass hG s16) rfl rfl (Nat.le_of_ble_eq_true rfl) dX12_doneBy_113) (fun s19 => ?_)
              refine z_iinc (pc := 116) (n := 4) (v := v6_14 + (1 : Int32)) (ls' := [(6, .int (v6_14 + (1 : Int32))), (0, .ref (ad G 17 0)), (2, .int x2), (4, .int r5), (5, .int v5_17)]) hX dX12_doneBy_116 rfl (by rw [show Int32.ofInt (1) = 1 by decide +kernel]) (by decide) rfl ?_
              refine z_goto (pc := 119) (tgt := 53) hX dX12_doneBy_119 rfl ?_
              exact z_ls [1, 2, 3, 4, 0] rfl (hrc15 s19 v5_17 (v6_14 + (1 : Int32)))
            · intro j18 hj18
              refine z_icmp_ge (pc := 73) (tgt := 112) hX dX12_doneBy_73 rfl ?_ ?_
              · exact z_ls [0, 1, 2, 3, 4] rfl (hj18 s12 v5_13)
              · refine z_aload_n (pc := 76) hX dX12_doneBy_76 rfl 0 rfl ?_
                refine gf_17_4M (pc := 77) hX q_816 dX12_doneBy_77 ?_
                refine z_aload_n (pc := 80) hX dX12_doneBy_80 rfl 0 rfl ?_
                refine gr_17_29M (pc := 81) hX q_841 dX12_doneBy_81 ?_
                refine z_iload (pc := 84) hX dX12_doneBy_84 4 rfl ?_
                refine ia_32M (pc := 86) hX dX12_doneBy_86 ?_
                refine z_rP (run_S (pc := 87) (As := [.int (s12 17 0 4), .int (s12 32 0 (ix v6_14))]) hX ⟨q_1045, q_1047, q_13⟩ q_1046 hd_X12_has ⟨Nat.le_of_ble_eq_true rfl, Nat.le_of_ble_eq_true rfl⟩ (c_m_has hG s12 (s12 17 0 4) (s12 32 0 (ix v6_14))) rfl rfl (Nat.le_of_ble_eq_true rfl) dX12_doneBy_87) (fun r20 => ?_)
                refine z_jn (P := fun j22 => ∀ (t21 : Int32), ZR G X (EM o L) pvI psI 7 s12 [(0, .ref (ad G 17 0)), (2, .int x2), (4, .int r5), (6, .int v6_14)] [.int t21] 98 (j22 t21)) ?_ ?_
                · intro t21
                  refine z_istore (pc := 98) (ls' := [(5, .int t21), (0, .ref (ad G 17 0)), (2, .int x2), (4, .int r5), (6, .int v6_14)]) hX dX12_doneBy_98 (by decide) rfl ?_
                  refine z_aload_n (pc := 100) hX dX12_doneBy_100 rfl 1 rfl ?_
                  refine z_aload_n (pc := 101) hX dX12_doneBy_101 rfl 1 rfl ?_
                  refine gr_17_29M (pc := 102) hX q_841 dX12_doneBy_102 ?_
                  refine z_iload (pc := 105) hX dX12_doneBy_105 4 rfl ?_
                  refine ia_32M (pc := 107) hX dX12_doneBy_107 ?_
                  refine z_rI (run_V (pc := 108) (As := [.int (s12 32 0 (ix v6_14))]) hX rc_17 ⟨q_1052, q_1055, q_13⟩ q_1054 qs_46 hd_X12_asks ⟨Nat.le_of_ble_eq_true rfl, Nat.le_of_ble_eq_true rfl⟩ (c_m_asks hG s12 (s12 32 0 (ix v6_14))) rfl rfl (Nat.le_of_ble_eq_true rfl) dX12_doneBy_108) (fun r23 s24 => ?_)
                  refine z_pop (pc := 111) hX dX12_doneBy_111 rfl ?_
                  exact z_ls [1, 2, 3, 0, 4] rfl (hj18 s24 t21)
                · intro j22 hj22
                  refine z_if_ne (pc := 90) (tgt := 97) hX dX12_doneBy_90 rfl ?_ ?_
                  · refine z_iconst (pc := 97) hX dX12_doneBy_97 ic_0 ?_
                    exact z_ls [0, 1, 2, 4] rfl (hj22 (0 : Int32))
                  · refine z_iconst (pc := 93) hX dX12_doneBy_93 ic_1 ?_
                    refine z_goto (pc := 94) (tgt := 98) hX dX12_doneBy_94 rfl ?_
                    exact z_ls [0, 1, 2, 4] rfl (hj22 (1 : Int32))
  · intro K3 hK3
    refine z_ls [2, 4, 1, 0] rfl ?_
    refine (fx_P (F := l_m_doneBy_7 K3) (b := (fun _ _ _ => none)) (fun rc28 => ∀ (s25 : Sto) (v3_26 : Int32) (v4_27 : Int32), ZR G X (EM o L) pvI psI 7 s25 [(0, .ref (ad G 17 0)), (2, .int x2), (3, .int v3_26), (4, .int v4_27)] [] 7 (rc28 s25 v3_26 v4_27)) ?_ ?_ 1000) s x1 v4_1
    · intro s25 v3_26 v4_27; exact z_none
    · intro rc28 hrc28 s25 v3_26 v4_27
      unfold l_m_doneBy_7
      refine z_iload (pc := 7) hX dX12_doneBy_7 3 rfl ?_
      refine z_if_lt (pc := 9) (tgt := 34) hX dX12_doneBy_9 rfl ?_ ?_
      · exact z_ls [0, 1] rfl (hK3 s25)
      · refine z_aload_n (pc := 12) hX dX12_doneBy_12 rfl 0 rfl ?_
        refine gr_17_29M (pc := 13) hX q_841 dX12_doneBy_13 ?_
        refine z_iload (pc := 16) hX dX12_doneBy_16 3 rfl ?_
        refine z_iload_n (pc := 18) hX dX12_doneBy_18 rfl 2 rfl ?_
        refine z_bipush (pc := 19) hX dX12_doneBy_19 bp_9 ?_
        refine z_iremc (pc := 21) hX dX12_doneBy_21 (by decide +kernel) ?_
        refine is_32M (pc := 22) hX dX12_doneBy_22 ?_
        refine z_lts (fun s29 => ?_)
        refine z_iload_n (pc := 23) hX dX12_doneBy_23 rfl 2 rfl ?_
        refine z_bipush (pc := 24) hX dX12_doneBy_24 bp_9 ?_
        refine z_idivc (pc := 26) hX dX12_doneBy_26 (by decide +kernel) ?_
        refine z_lti (pc := 27) (fun v3_30 => ?_)
        refine z_istore_n (pc := 27) (ls' := [(3, .int v3_30), (0, .ref (ad G 17 0)), (2, .int x2), (4, .int v4_27)]) hX dX12_doneBy_27 rfl (by decide) rfl ?_
        refine z_iinc (pc := 28) (n := 3) (v := v4_27 + (-1 : Int32)) (ls' := [(4, .int (v4_27 + (-1 : Int32))), (3, .int v3_30), (0, .ref (ad G 17 0)), (2, .int x2)]) hX dX12_doneBy_28 rfl (by rw [show Int32.ofInt (-1) = -1 by decide +kernel]) (by decide) rfl ?_
        refine z_goto (pc := 31) (tgt := 7) hX dX12_doneBy_31 rfl ?_
        exact z_ls [2, 3, 1, 0] rfl (hrc28 s29 v3_30 (v4_27 + (-1 : Int32)))
theorem hd_X12_most : yX12_most.cls ≠ "java/lang/invoke/MethodHandle" ∧ yX12_most.cls ≠ "java/lang/invoke/VarHandle" ∧ (parseMethodDescriptor yX12_most.desc).map (fun d => d.parameters.length) = some 2 := by decide +kernel
def l_m_most_85 (x1 : Int32) (v4_11 : Int32) (r14 : Int32) (K17 : Sto → Option (Int32 × Sto)) (rc22 : Sto → Int32 → Option (Int32 × Sto)) (s20 : Sto) (v7_21 : Int32) : Option (Int32 × Sto) :=
  if x1 ≤ v7_21 then K17 s20 else if r14 ≤ v4_11 then K17 s20 else if inb v7_21 4 then if inb v7_21 4 then lt (st s20 33 0 (ix v7_21) (s20 32 0 (ix v7_21))) (fun s23 => rc22 s23 (v7_21 + (1 : Int32))) else none else none
def l_m_most_67 (x1 : Int32) (v3_5 : Int32) (K9 : Sto → Int32 → Option (Int32 × Sto)) (rc13 : Sto → Int32 → Int32 → Option (Int32 × Sto)) (s10 : Sto) (v4_11 : Int32) (v5_12 : Int32) : Option (Int32 × Sto) :=
  if v3_5 ≤ v5_12 then K9 s10 v4_11 else bI (f_m_doneBy s10 v5_12 x1) (fun r14 s15 => jn (fun s16 => jn (fun t18 => rc13 s16 t18 (v5_12 + (1 : Int32))) (fun j19 => if r14 ≤ v4_11 then j19 v4_11 else j19 r14)) (fun K17 => fx 10000 (l_m_most_85 x1 v4_11 r14 K17) (fun _ _ => none) s15 (0 : Int32)))
def l_m_most_44 (x1 : Int32) (K6 : Int32 → Option (Int32 × Sto)) (rc26 : Int32 → Int32 → Option (Int32 × Sto)) (v3_24 : Int32) (v4_25 : Int32) : Option (Int32 × Sto) :=
  if x1 ≤ v4_25 then K6 v3_24 else lt (v3_24 * (9 : Int32)) (fun v3_27 => rc26 v3_27 (v4_25 + (1 : Int32)))
def f_m_most (s : Sto) (x1 : Int32) (x2 : Int32) : Option (Int32 × Sto) :=
  bP (f_m_in x1 (1 : Int32) (4 : Int32)) (fun r1 => if r1 = (0 : Int32) then bI (f_m_ten s) (fun r2 s3 => some (r2, s3)) else if (-1 : Int32) ≤ x2 then bP (f_m_isPair s) (fun r4 => if r4 = (0 : Int32) then bI (f_m_no s) (fun r28 s29 => some (r28, s29)) else if x2 < x1 then jn (fun v3_5 => jn (fun s7 v4_8 => if x2 = (-1 : Int32) then some (v4_8, s7) else if inb x2 4 then some (s7 33 0 (ix x2), s7) else none) (fun K9 => fx 10000 (l_m_most_67 x1 v3_5 K9) (fun _ _ _ => none) s (-1 : Int32) (0 : Int32))) (fun K6 => fx 10000 (l_m_most_44 x1 K6) (fun _ _ => none) (1 : Int32) (0 : Int32)) else some ((-5 : Int32), s)) else bI (f_m_ten s) (fun r30 s31 => some (r30, s31)))
set_option maxRecDepth 100000 in
set_option maxHeartbeats 4000000 in
theorem c_m_most {G : Gb} {l : Launch} {o : Sto} {L : Lng} (hG : GA G) (s : Sto) (x1 : Int32) (x2 : Int32)  : CT G l (EM o L) pvI psI yX12_most cX12_most 8 (some .int) 6 136 [.ref (ad G 17 0), .int x1, .int x2] s (f_m_most s x1 x2) := by
  refine CT.of hG (by decide) (Nat.le_of_ble_eq_true rfl) (fun X hX => ?_)
  have hX : OX G X l cX12_most 8 "CrownTwoModel" (some .int) 6 136 := hX
  show ZR G X (EM o L) pvI psI 8 s [(0, .ref (ad G 17 0)), (1, .int x1), (2, .int x2)] [] 0 _
  unfold f_m_most
  refine z_iload_n (pc := 0) hX dX12_most_0 rfl 1 rfl ?_
  refine z_iconst (pc := 1) hX dX12_most_1 ic_1 ?_
  refine z_iconst (pc := 2) hX dX12_most_2 ic_4 ?_
  refine z_rP (run_S (pc := 3) (As := [.int x1, .int (1 : Int32), .int (4 : Int32)]) hX ⟨q_925, q_927, q_13⟩ q_926 hd_X12_in ⟨Nat.le_of_ble_eq_true rfl, Nat.le_of_ble_eq_true rfl⟩ (c_m_in hG s x1 (1 : Int32) (4 : Int32)) rfl rfl (Nat.le_of_ble_eq_true rfl) dX12_most_3) (fun r1 => ?_)
  refine z_if_eq (pc := 6) (tgt := 14) hX dX12_most_6 rfl ?_ ?_
  · refine z_aload_n (pc := 14) hX dX12_most_14 rfl 0 rfl ?_
    refine z_rI (run_V (pc := 15) (As := []) hX rc_17 ⟨q_1146, q_1149, q_13⟩ q_1148 qs_58 hd_X12_ten ⟨Nat.le_of_ble_eq_true rfl, Nat.le_of_ble_eq_true rfl⟩ (c_m_ten hG s) rfl rfl (Nat.le_of_ble_eq_true rfl) dX12_most_15) (fun r2 s3 => ?_)
    exact z_retI (pc := 18) hX dX12_most_18
  · refine z_iload_n (pc := 9) hX dX12_most_9 rfl 2 rfl ?_
    refine z_iconst (pc := 10) hX dX12_most_10 ic_m1 ?_
    refine z_icmp_ge (pc := 11) (tgt := 19) hX dX12_most_11 rfl ?_ ?_
    · refine z_aload_n (pc := 19) hX dX12_most_19 rfl 0 rfl ?_
      refine z_rP (run_V (pc := 20) (As := []) hX rc_17 ⟨q_1041, q_1044, q_13⟩ q_1043 qs_44 hd_X12_isPair ⟨Nat.le_of_ble_eq_true rfl, Nat.le_of_ble_eq_true rfl⟩ (c_m_isPair hG s) rfl rfl (Nat.le_of_ble_eq_true rfl) dX12_most_20) (fun r4 => ?_)
      refine z_if_ne (pc := 23) (tgt := 31) hX dX12_most_23 rfl ?_ ?_
      · refine z_iload_n (pc := 31) hX dX12_most_31 rfl 2 rfl ?_
        refine z_iload_n (pc := 32) hX dX12_most_32 rfl 1 rfl ?_
        refine z_icmp_lt (pc := 33) (tgt := 39) hX dX12_most_33 rfl ?_ ?_
        · refine z_iconst (pc := 39) hX dX12_most_39 ic_1 ?_
          refine z_istore_n (pc := 40) (ls' := [(3, .int (1 : Int32)), (0, .ref (ad G 17 0)), (1, .int x1), (2, .int x2)]) hX dX12_most_40 rfl (by decide) rfl ?_
          refine z_iconst (pc := 41) hX dX12_most_41 ic_0 ?_
          refine z_istore (pc := 42) (ls' := [(4, .int (0 : Int32)), (3, .int (1 : Int32)), (0, .ref (ad G 17 0)), (1, .int x1), (2, .int x2)]) hX dX12_most_42 (by decide) rfl ?_
          refine z_jn (P := fun K6 => ∀ (v3_5 : Int32), ZR G X (EM o L) pvI psI 8 s [(0, .ref (ad G 17 0)), (1, .int x1), (2, .int x2), (3, .int v3_5)] [] 61 (K6 v3_5)) ?_ ?_
          · intro v3_5
            refine z_iconst (pc := 61) hX dX12_most_61 ic_m1 ?_
            refine z_istore (pc := 62) (ls' := [(4, .int (-1 : Int32)), (0, .ref (ad G 17 0)), (1, .int x1), (2, .int x2), (3, .int v3_5)]) hX dX12_most_62 (by decide) rfl ?_
            refine z_iconst (pc := 64) hX dX12_most_64 ic_0 ?_
            refine z_istore (pc := 65) (ls' := [(5, .int (0 : Int32)), (4, .int (-1 : Int32)), (0, .ref (ad G 17 0)), (1, .int x1), (2, .int x2), (3, .int v3_5)]) hX dX12_most_65 (by decide) rfl ?_
            refine z_jn (P := fun K9 => ∀ (s7 : Sto) (v4_8 : Int32), ZR G X (EM o L) pvI psI 8 s7 [(0, .ref (ad G 17 0)), (2, .int x2), (4, .int v4_8)] [] 140 (K9 s7 v4_8)) ?_ ?_
            · intro s7 v4_8
              refine z_iload_n (pc := 140) hX dX12_most_140 rfl 1 rfl ?_
              refine z_iconst (pc := 141) hX dX12_most_141 ic_m1 ?_
              refine z_icmp_ne (pc := 142) (tgt := 150) hX dX12_most_142 rfl ?_ ?_
              · refine z_aload_n (pc := 150) hX dX12_most_150 rfl 0 rfl ?_
                refine gr_17_30M (pc := 151) hX q_842 dX12_most_151 ?_
                refine z_iload_n (pc := 154) hX dX12_most_154 rfl 1 rfl ?_
                refine ia_33M (pc := 155) hX dX12_most_155 ?_
                exact z_retI (pc := 156) hX dX12_most_156
              · refine z_iload (pc := 145) hX dX12_most_145 2 rfl ?_
                refine z_goto (pc := 147) (tgt := 156) hX dX12_most_147 rfl ?_
                exact z_retI (pc := 156) hX dX12_most_156
            · intro K9 hK9
              refine z_ls [2, 3, 4, 5, 1, 0] rfl ?_
              refine (fx_P (F := l_m_most_67 x1 v3_5 K9) (b := (fun _ _ _ => none)) (fun rc13 => ∀ (s10 : Sto) (v4_11 : Int32) (v5_12 : Int32), ZR G X (EM o L) pvI psI 8 s10 [(0, .ref (ad G 17 0)), (1, .int x1), (2, .int x2), (3, .int v3_5), (4, .int v4_11), (5, .int v5_12)] [] 67 (rc13 s10 v4_11 v5_12)) ?_ ?_ 10000) s (-1 : Int32) (0 : Int32)
              · intro s10 v4_11 v5_12; exact z_none
              · intro rc13 hrc13 s10 v4_11 v5_12
                unfold l_m_most_67
                refine z_iload (pc := 67) hX dX12_most_67 5 rfl ?_
                refine z_iload_n (pc := 69) hX dX12_most_69 rfl 3 rfl ?_
                refine z_icmp_ge (pc := 70) (tgt := 140) hX dX12_most_70 rfl ?_ ?_
                · exact z_ls [0, 2, 4] rfl (hK9 s10 v4_11)
                · refine z_aload_n (pc := 73) hX dX12_most_73 rfl 0 rfl ?_
                  refine z_iload (pc := 74) hX dX12_most_74 5 rfl ?_
                  refine z_iload_n (pc := 76) hX dX12_most_76 rfl 1 rfl ?_
                  refine z_rI (run_V (pc := 77) (As := [.int v5_12, .int x1]) hX rc_17 ⟨q_1150, q_1153, q_13⟩ q_1152 qs_59 hd_X12_doneBy ⟨Nat.le_of_ble_eq_true rfl, Nat.le_of_ble_eq_true rfl⟩ (c_m_doneBy hG s10 v5_12 x1) rfl rfl (Nat.le_of_ble_eq_true rfl) dX12_most_77) (fun r14 s15 => ?_)
                  refine z_istore (pc := 80) (ls' := [(6, .int r14), (0, .ref (ad G 17 0)), (1, .int x1), (2, .int x2), (3, .int v3_5), (4, .int v4_11), (5, .int v5_12)]) hX dX12_most_80 (by decide) rfl ?_
                  refine z_iconst (pc := 82) hX dX12_most_82 ic_0 ?_
                  refine z_istore (pc := 83) (ls' := [(7, .int (0 : Int32)), (6, .int r14), (0, .ref (ad G 17 0)), (1, .int x1), (2, .int x2), (3, .int v3_5), (4, .int v4_11), (5, .int v5_12)]) hX dX12_most_83 (by decide) rfl ?_
                  refine z_jn (P := fun K17 => ∀ (s16 : Sto), ZR G X (EM o L) pvI psI 8 s16 [(0, .ref (ad G 17 0)), (1, .int x1), (2, .int x2), (3, .int v3_5), (4, .int v4_11), (5, .int v5_12), (6, .int r14)] [] 118 (K17 s16)) ?_ ?_
                  · intro s16
                    refine z_iload (pc := 118) hX dX12_most_118 6 rfl ?_
                    refine z_iload (pc := 120) hX dX12_most_120 4 rfl ?_
                    refine z_jn (P := fun j19 => ∀ (t18 : Int32), ZR G X (EM o L) pvI psI 8 s16 [(0, .ref (ad G 17 0)), (1, .int x1), (2, .int x2), (3, .int v3_5), (5, .int v5_12)] [.int t18] 132 (j19 t18)) ?_ ?_
                    · intro t18
                      refine z_istore (pc := 132) (ls' := [(4, .int t18), (0, .ref (ad G 17 0)), (1, .int x1), (2, .int x2), (3, .int v3_5), (5, .int v5_12)]) hX dX12_most_132 (by decide) rfl ?_
                      refine z_iinc (pc := 134) (n := 5) (v := v5_12 + (1 : Int32)) (ls' := [(5, .int (v5_12 + (1 : Int32))), (4, .int t18), (0, .ref (ad G 17 0)), (1, .int x1), (2, .int x2), (3, .int v3_5)]) hX dX12_most_134 rfl (by rw [show Int32.ofInt (1) = 1 by decide +kernel]) (by decide) rfl ?_
                      refine z_goto (pc := 137) (tgt := 67) hX dX12_most_137 rfl ?_
                      exact z_ls [2, 3, 4, 5, 1, 0] rfl (hrc13 s16 t18 (v5_12 + (1 : Int32)))
                    · intro j19 hj19
                      refine z_icmp_le (pc := 122) (tgt := 130) hX dX12_most_122 rfl ?_ ?_
                      · refine z_iload (pc := 130) hX dX12_most_130 4 rfl ?_
                        exact z_ls [0, 1, 2, 3, 5] rfl (hj19 v4_11)
                      · refine z_iload (pc := 125) hX dX12_most_125 6 rfl ?_
                        refine z_goto (pc := 127) (tgt := 132) hX dX12_most_127 rfl ?_
                        exact z_ls [0, 1, 2, 3, 5] rfl (hj19 r14)
                  · intro K17 hK17
                    refine z_ls [2, 3, 4, 5, 6, 7, 1, 0] rfl ?_
                    refine (fx_P (F := l_m_most_85 x1 v4_11 r14 K17) (b := (fun _ _ => none)) (fun rc22 => ∀ (s20 : Sto) (v7_21 : Int32), ZR G X (EM o L) pvI psI 8 s20 [(0, .ref (ad G 17 0)), (1, .int x1), (2, .int x2), (3, .int v3_5), (4, .int v4_11), (5, .int v5_12), (6, .int r14), (7, .int v7_21)] [] 85 (rc22 s20 v7_21)) ?_ ?_ 10000) s15 (0 : Int32)
                    · intro s20 v7_21; exact z_none
                    · intro rc22 hrc22 s20 v7_21
                      unfold l_m_most_85
                      refine z_iload (pc := 85) hX dX12_most_85 7 rfl ?_
                      refine z_iload_n (pc := 87) hX dX12_most_87 rfl 1 rfl ?_
                      refine z_icmp_ge (pc := 88) (tgt := 118) hX dX12_most_88 rfl ?_ ?_
                      · exact z_ls [0, 1, 2, 3, 4, 5, 6] rfl (hK17 s20)
                      · refine z_iload (pc := 91) hX dX12_most_91 6 rfl ?_
                        refine z_iload (pc := 93) hX dX12_most_93 4 rfl ?_
                        refine z_icmp_le (pc := 95) (tgt := 118) hX dX12_most_95 rfl ?_ ?_
                        · exact z_ls [0, 1, 2, 3, 4, 5, 6] rfl (hK17 s20)
                        · refine z_aload_n (pc := 98) hX dX12_most_98 rfl 0 rfl ?_
                          refine gr_17_30M (pc := 99) hX q_842 dX12_most_99 ?_
                          refine z_iload (pc := 102) hX dX12_most_102 7 rfl ?_
                          refine z_aload_n (pc := 104) hX dX12_most_104 rfl 0 rfl ?_
                          refine gr_17_29M (pc := 105) hX q_841 dX12_most_105 ?_
                          refine z_iload (pc := 108) hX dX12_most_108 7 rfl ?_
                          refine ia_32M (pc := 110) hX dX12_most_110 ?_
                          refine is_33M (pc := 111) hX dX12_most_111 ?_
                          refine z_lts (fun s23 => ?_)
                          refine z_iinc (pc := 112) (n := 7) (v := v7_21 + (1 : Int32)) (ls' := [(7, .int (v7_21 + (1 : Int32))), (0, .ref (ad G 17 0)), (1, .int x1), (2, .int x2), (3, .int v3_5), (4, .int v4_11), (5, .int v5_12), (6, .int r14)]) hX dX12_most_112 rfl (by rw [show Int32.ofInt (1) = 1 by decide +kernel]) (by decide) rfl ?_
                          refine z_goto (pc := 115) (tgt := 85) hX dX12_most_115 rfl ?_
                          exact z_ls [1, 2, 3, 4, 5, 6, 7, 0] rfl (hrc22 s23 (v7_21 + (1 : Int32)))
          · intro K6 hK6
            refine z_ls [2, 3, 4, 1, 0] rfl ?_
            refine (fx_P (F := l_m_most_44 x1 K6) (b := (fun _ _ => none)) (fun rc26 => ∀ (v3_24 : Int32) (v4_25 : Int32), ZR G X (EM o L) pvI psI 8 s [(0, .ref (ad G 17 0)), (1, .int x1), (2, .int x2), (3, .int v3_24), (4, .int v4_25)] [] 44 (rc26 v3_24 v4_25)) ?_ ?_ 10000) (1 : Int32) (0 : Int32)
            · intro v3_24 v4_25; exact z_none
            · intro rc26 hrc26 v3_24 v4_25
              unfold l_m_most_44
              refine z_iload (pc := 44) hX dX12_most_44 4 rfl ?_
              refine z_iload_n (pc := 46) hX dX12_most_46 rfl 1 rfl ?_
              refine z_icmp_ge (pc := 47) (tgt := 61) hX dX12_most_47 rfl ?_ ?_
              · exact z_ls [0, 1, 2, 3] rfl (hK6 v3_24)
              · refine z_iload_n (pc := 50) hX dX12_most_50 rfl 3 rfl ?_
                refine z_bipush (pc := 51) hX dX12_most_51 bp_9 ?_
                refine z_imul (pc := 53) hX dX12_most_53 ?_
                refine z_lti (pc := 54) (fun v3_27 => ?_)
                refine z_istore_n (pc := 54) (ls' := [(3, .int v3_27), (0, .ref (ad G 17 0)), (1, .int x1), (2, .int x2), (4, .int v4_25)]) hX dX12_most_54 rfl (by decide) rfl ?_
                refine z_iinc (pc := 55) (n := 4) (v := v4_25 + (1 : Int32)) (ls' := [(4, .int (v4_25 + (1 : Int32))), (3, .int v3_27), (0, .ref (ad G 17 0)), (1, .int x1), (2, .int x2)]) hX dX12_most_55 rfl (by rw [show Int32.ofInt (1) = 1 by decide +kernel]) (by decide) rfl ?_
                refine z_goto (pc := 58) (tgt := 44) hX dX12_most_58 rfl ?_
                exact z_ls [2, 3, 4, 1, 0] rfl (hrc26 v3_27 (v4_25 + (1 : Int32)))
        · refine z_bipush (pc := 36) hX dX12_most_36 bp_m5 ?_
          exact z_retI (pc := 38) hX dX12_most_38
      · refine z_aload_n (pc := 26) hX dX12_most_26 rfl 0 rfl ?_
        refine z_rI (run_V (pc := 27) (As := []) hX rc_17 ⟨q_1048, q_1051, q_13⟩ q_1050 qs_45 hd_X12_no ⟨Nat.le_of_ble_eq_true rfl, Nat.le_of_ble_eq_true rfl⟩ (c_m_no hG s) rfl rfl (Nat.le_of_ble_eq_true rfl) dX12_most_27) (fun r28 s29 => ?_)
        exact z_retI (pc := 30) hX dX12_most_30
    · refine z_aload_n (pc := 14) hX dX12_most_14 rfl 0 rfl ?_
      refine z_rI (run_V (pc := 15) (As := []) hX rc_17 ⟨q_1146, q_1149, q_13⟩ q_1148 qs_58 hd_X12_ten ⟨Nat.le_of_ble_eq_true rfl, Nat.le_of_ble_eq_true rfl⟩ (c_m_ten hG s) rfl rfl (Nat.le_of_ble_eq_true rfl) dX12_most_15) (fun r30 s31 => ?_)
      exact z_retI (pc := 18) hX dX12_most_18
theorem hd_X12_keep : yX12_keep.cls ≠ "java/lang/invoke/MethodHandle" ∧ yX12_keep.cls ≠ "java/lang/invoke/VarHandle" ∧ (parseMethodDescriptor yX12_keep.desc).map (fun d => d.parameters.length) = some 1 := by decide +kernel
def l_m_keep_25 (x1 : Int32) (v2_2 : Int32) (rc6 : Sto → Int32 → Int32 → Option (Int32 × Sto)) (s3 : Sto) (v3_4 : Int32) (v4_5 : Int32) : Option (Int32 × Sto) :=
  if (99 : Int32) < v4_5 then some (v3_4, s3) else if v3_4 = (-1 : Int32) then bP (f_m_kept (v2_2 + v4_5)) (fun r7 => lt (st s3 17 0 2 r7) (fun s8 => bI (f_m_daysTill s8) (fun r9 s10 => jn (fun t11 => lt (st s10 17 0 2 v2_2) (fun s13 => rc6 s13 t11 (v4_5 + (1 : Int32)))) (fun j12 => if r9 ≤ x1 then j12 v3_4 else j12 v4_5)))) else some (v3_4, s3)
def f_m_keep (s : Sto) (x1 : Int32) : Option (Int32 × Sto) :=
  bP (f_m_in x1 (1 : Int32) (60 : Int32)) (fun r1 => if r1 = (0 : Int32) then bI (f_m_bad s) (fun r14 s15 => some (r14, s15)) else lt (s 17 0 2) (fun v2_2 => fx 1000 (l_m_keep_25 x1 v2_2) (fun _ _ _ => none) s (-1 : Int32) (0 : Int32)))
set_option maxRecDepth 100000 in
set_option maxHeartbeats 4000000 in
theorem c_m_keep {G : Gb} {l : Launch} {o : Sto} {L : Lng} (hG : GA G) (s : Sto) (x1 : Int32)  : CT G l (EM o L) pvI psI yX12_keep cX12_keep 5 (some .int) 4 83 [.ref (ad G 17 0), .int x1] s (f_m_keep s x1) := by
  refine CT.of hG (by decide) (Nat.le_of_ble_eq_true rfl) (fun X hX => ?_)
  have hX : OX G X l cX12_keep 5 "CrownTwoModel" (some .int) 4 83 := hX
  show ZR G X (EM o L) pvI psI 5 s [(0, .ref (ad G 17 0)), (1, .int x1)] [] 0 _
  unfold f_m_keep
  refine z_iload_n (pc := 0) hX dX12_keep_0 rfl 1 rfl ?_
  refine z_iconst (pc := 1) hX dX12_keep_1 ic_1 ?_
  refine z_bipush (pc := 2) hX dX12_keep_2 bp_60 ?_
  refine z_rP (run_S (pc := 4) (As := [.int x1, .int (1 : Int32), .int (60 : Int32)]) hX ⟨q_925, q_927, q_13⟩ q_926 hd_X12_in ⟨Nat.le_of_ble_eq_true rfl, Nat.le_of_ble_eq_true rfl⟩ (c_m_in hG s x1 (1 : Int32) (60 : Int32)) rfl rfl (Nat.le_of_ble_eq_true rfl) dX12_keep_4) (fun r1 => ?_)
  refine z_if_ne (pc := 7) (tgt := 15) hX dX12_keep_7 rfl ?_ ?_
  · refine z_aload_n (pc := 15) hX dX12_keep_15 rfl 0 rfl ?_
    refine gf_17_2M (pc := 16) hX q_814 dX12_keep_16 ?_
    refine z_lti (pc := 19) (fun v2_2 => ?_)
    refine z_istore_n (pc := 19) (ls' := [(2, .int v2_2), (0, .ref (ad G 17 0)), (1, .int x1)]) hX dX12_keep_19 rfl (by decide) rfl ?_
    refine z_iconst (pc := 20) hX dX12_keep_20 ic_m1 ?_
    refine z_istore_n (pc := 21) (ls' := [(3, .int (-1 : Int32)), (2, .int v2_2), (0, .ref (ad G 17 0)), (1, .int x1)]) hX dX12_keep_21 rfl (by decide) rfl ?_
    refine z_iconst (pc := 22) hX dX12_keep_22 ic_0 ?_
    refine z_istore (pc := 23) (ls' := [(4, .int (0 : Int32)), (3, .int (-1 : Int32)), (2, .int v2_2), (0, .ref (ad G 17 0)), (1, .int x1)]) hX dX12_keep_23 (by decide) rfl ?_
    refine z_ls [3, 4, 2, 1, 0] rfl ?_
    refine (fx_P (F := l_m_keep_25 x1 v2_2) (b := (fun _ _ _ => none)) (fun rc6 => ∀ (s3 : Sto) (v3_4 : Int32) (v4_5 : Int32), ZR G X (EM o L) pvI psI 5 s3 [(0, .ref (ad G 17 0)), (1, .int x1), (2, .int v2_2), (3, .int v3_4), (4, .int v4_5)] [] 25 (rc6 s3 v3_4 v4_5)) ?_ ?_ 1000) s (-1 : Int32) (0 : Int32)
    · intro s3 v3_4 v4_5; exact z_none
    · intro rc6 hrc6 s3 v3_4 v4_5
      unfold l_m_keep_25
      refine z_iload (pc := 25) hX dX12_keep_25 4 rfl ?_
      refine z_bipush (pc := 27) hX dX12_keep_27 bp_99 ?_
      refine z_icmp_gt (pc := 29) (tgt := 74) hX dX12_keep_29 rfl ?_ ?_
      · refine z_iload_n (pc := 74) hX dX12_keep_74 rfl 3 rfl ?_
        exact z_retI (pc := 75) hX dX12_keep_75
      · refine z_iload_n (pc := 32) hX dX12_keep_32 rfl 3 rfl ?_
        refine z_iconst (pc := 33) hX dX12_keep_33 ic_m1 ?_
        refine z_icmp_ne (pc := 34) (tgt := 74) hX dX12_keep_34 rfl ?_ ?_
        · refine z_iload_n (pc := 74) hX dX12_keep_74 rfl 3 rfl ?_
          exact z_retI (pc := 75) hX dX12_keep_75
        · refine z_aload_n (pc := 37) hX dX12_keep_37 rfl 0 rfl ?_
          refine z_iload_n (pc := 38) hX dX12_keep_38 rfl 2 rfl ?_
          refine z_iload (pc := 39) hX dX12_keep_39 4 rfl ?_
          refine z_iadd (pc := 41) hX dX12_keep_41 ?_
          refine z_rP (run_S (pc := 42) (As := [.int (v2_2 + v4_5)]) hX ⟨q_1071, q_1073, q_13⟩ q_1072 hd_X12_kept ⟨Nat.le_of_ble_eq_true rfl, Nat.le_of_ble_eq_true rfl⟩ (c_m_kept hG s3 (v2_2 + v4_5)) rfl rfl (Nat.le_of_ble_eq_true rfl) dX12_keep_42) (fun r7 => ?_)
          refine pf_17_2M (pc := 45) hX q_814 dX12_keep_45 ?_
          refine z_lts (fun s8 => ?_)
          refine z_aload_n (pc := 48) hX dX12_keep_48 rfl 0 rfl ?_
          refine z_rI (run_V (pc := 49) (As := []) hX rc_17 ⟨q_1134, q_1137, q_13⟩ q_1136 qs_57 hd_X12_daysTill ⟨Nat.le_of_ble_eq_true rfl, Nat.le_of_ble_eq_true rfl⟩ (c_m_daysTill hG s8) rfl rfl (Nat.le_of_ble_eq_true rfl) dX12_keep_49) (fun r9 s10 => ?_)
          refine z_iload_n (pc := 52) hX dX12_keep_52 rfl 1 rfl ?_
          refine z_jn (P := fun j12 => ∀ (t11 : Int32), ZR G X (EM o L) pvI psI 5 s10 [(0, .ref (ad G 17 0)), (1, .int x1), (2, .int v2_2), (4, .int v4_5)] [.int t11] 62 (j12 t11)) ?_ ?_
          · intro t11
            refine z_istore_n (pc := 62) (ls' := [(3, .int t11), (0, .ref (ad G 17 0)), (1, .int x1), (2, .int v2_2), (4, .int v4_5)]) hX dX12_keep_62 rfl (by decide) rfl ?_
            refine z_aload_n (pc := 63) hX dX12_keep_63 rfl 1 rfl ?_
            refine z_iload_n (pc := 64) hX dX12_keep_64 rfl 3 rfl ?_
            refine pf_17_2M (pc := 65) hX q_814 dX12_keep_65 ?_
            refine z_lts (fun s13 => ?_)
            refine z_iinc (pc := 68) (n := 4) (v := v4_5 + (1 : Int32)) (ls' := [(4, .int (v4_5 + (1 : Int32))), (3, .int t11), (0, .ref (ad G 17 0)), (1, .int x1), (2, .int v2_2)]) hX dX12_keep_68 rfl (by rw [show Int32.ofInt (1) = 1 by decide +kernel]) (by decide) rfl ?_
            refine z_goto (pc := 71) (tgt := 25) hX dX12_keep_71 rfl ?_
            exact z_ls [2, 3, 4, 1, 0] rfl (hrc6 s13 t11 (v4_5 + (1 : Int32)))
          · intro j12 hj12
            refine z_icmp_le (pc := 53) (tgt := 61) hX dX12_keep_53 rfl ?_ ?_
            · refine z_iload_n (pc := 61) hX dX12_keep_61 rfl 3 rfl ?_
              exact z_ls [0, 1, 2, 4] rfl (hj12 v3_4)
            · refine z_iload (pc := 56) hX dX12_keep_56 4 rfl ?_
              refine z_goto (pc := 58) (tgt := 62) hX dX12_keep_58 rfl ?_
              exact z_ls [0, 1, 2, 4] rfl (hj12 v4_5)
  · refine z_aload_n (pc := 10) hX dX12_keep_10 rfl 0 rfl ?_
    refine z_rI (run_V (pc := 11) (As := []) hX rc_17 ⟨q_928, q_931, q_13⟩ q_930 qs_24 hd_X12_bad ⟨Nat.le_of_ble_eq_true rfl, Nat.le_of_ble_eq_true rfl⟩ (c_m_bad hG s) rfl rfl (Nat.le_of_ble_eq_true rfl) dX12_keep_11) (fun r14 s15 => ?_)
    exact z_retI (pc := 14) hX dX12_keep_14
theorem hd_X12_lastsOf : yX12_lastsOf.cls ≠ "java/lang/invoke/MethodHandle" ∧ yX12_lastsOf.cls ≠ "java/lang/invoke/VarHandle" ∧ (parseMethodDescriptor yX12_lastsOf.desc).map (fun d => d.parameters.length) = some 2 := by decide +kernel
def f_m_lastsOf (s : Sto) (x1 : Int32) (x2 : Int32) : Option (Int32 × Sto) :=
  lt (s 17 0 5) (fun v3_1 => lt (s 17 0 6) (fun v4_2 => lt (st s 17 0 5 x1) (fun s3 => lt (st s3 17 0 6 x2) (fun s4 => bI (f_m_daysTill s4) (fun r5 s6 => lt (st s6 17 0 5 v3_1) (fun s7 => lt (st s7 17 0 6 v4_2) (fun s8 => some (r5, s8))))))))
set_option maxRecDepth 100000 in
set_option maxHeartbeats 4000000 in
theorem c_m_lastsOf {G : Gb} {l : Launch} {o : Sto} {L : Lng} (hG : GA G) (s : Sto) (x1 : Int32) (x2 : Int32)  : CT G l (EM o L) pvI psI yX12_lastsOf cX12_lastsOf 6 (some .int) 4 83 [.ref (ad G 17 0), .int x1, .int x2] s (f_m_lastsOf s x1 x2) := by
  refine CT.of hG (by decide) (Nat.le_of_ble_eq_true rfl) (fun X hX => ?_)
  have hX : OX G X l cX12_lastsOf 6 "CrownTwoModel" (some .int) 4 83 := hX
  show ZR G X (EM o L) pvI psI 6 s [(0, .ref (ad G 17 0)), (1, .int x1), (2, .int x2)] [] 0 _
  unfold f_m_lastsOf
  refine z_aload_n (pc := 0) hX dX12_lastsOf_0 rfl 0 rfl ?_
  refine gf_17_5M (pc := 1) hX q_817 dX12_lastsOf_1 ?_
  refine z_lti (pc := 4) (fun v3_1 => ?_)
  refine z_istore_n (pc := 4) (ls' := [(3, .int v3_1), (0, .ref (ad G 17 0)), (1, .int x1), (2, .int x2)]) hX dX12_lastsOf_4 rfl (by decide) rfl ?_
  refine z_aload_n (pc := 5) hX dX12_lastsOf_5 rfl 1 rfl ?_
  refine gf_17_6M (pc := 6) hX q_818 dX12_lastsOf_6 ?_
  refine z_lti (pc := 9) (fun v4_2 => ?_)
  refine z_istore (pc := 9) (ls' := [(4, .int v4_2), (3, .int v3_1), (0, .ref (ad G 17 0)), (1, .int x1), (2, .int x2)]) hX dX12_lastsOf_9 (by decide) rfl ?_
  refine z_aload_n (pc := 11) hX dX12_lastsOf_11 rfl 2 rfl ?_
  refine z_iload_n (pc := 12) hX dX12_lastsOf_12 rfl 3 rfl ?_
  refine pf_17_5M (pc := 13) hX q_817 dX12_lastsOf_13 ?_
  refine z_lts (fun s3 => ?_)
  refine z_aload_n (pc := 16) hX dX12_lastsOf_16 rfl 2 rfl ?_
  refine z_iload_n (pc := 17) hX dX12_lastsOf_17 rfl 4 rfl ?_
  refine pf_17_6M (pc := 18) hX q_818 dX12_lastsOf_18 ?_
  refine z_lts (fun s4 => ?_)
  refine z_aload_n (pc := 21) hX dX12_lastsOf_21 rfl 2 rfl ?_
  refine z_rI (run_V (pc := 22) (As := []) hX rc_17 ⟨q_1134, q_1137, q_13⟩ q_1136 qs_57 hd_X12_daysTill ⟨Nat.le_of_ble_eq_true rfl, Nat.le_of_ble_eq_true rfl⟩ (c_m_daysTill hG s4) rfl rfl (Nat.le_of_ble_eq_true rfl) dX12_lastsOf_22) (fun r5 s6 => ?_)
  refine z_istore (pc := 25) (ls' := [(5, .int r5), (4, .int v4_2), (3, .int v3_1), (0, .ref (ad G 17 0)), (1, .int x1), (2, .int x2)]) hX dX12_lastsOf_25 (by decide) rfl ?_
  refine z_aload_n (pc := 27) hX dX12_lastsOf_27 rfl 3 rfl ?_
  refine z_iload_n (pc := 28) hX dX12_lastsOf_28 rfl 2 rfl ?_
  refine pf_17_5M (pc := 29) hX q_817 dX12_lastsOf_29 ?_
  refine z_lts (fun s7 => ?_)
  refine z_aload_n (pc := 32) hX dX12_lastsOf_32 rfl 3 rfl ?_
  refine z_iload (pc := 33) hX dX12_lastsOf_33 1 rfl ?_
  refine pf_17_6M (pc := 35) hX q_818 dX12_lastsOf_35 ?_
  refine z_lts (fun s8 => ?_)
  refine z_iload (pc := 38) hX dX12_lastsOf_38 0 rfl ?_
  exact z_retI (pc := 40) hX dX12_lastsOf_40
theorem hd_X12_lasts : yX12_lasts.cls ≠ "java/lang/invoke/MethodHandle" ∧ yX12_lasts.cls ≠ "java/lang/invoke/VarHandle" ∧ (parseMethodDescriptor yX12_lasts.desc).map (fun d => d.parameters.length) = some 2 := by decide +kernel
def f_m_lasts (s : Sto) (x1 : Int32) (x2 : Int32) : Option (Int32 × Sto) :=
  bP (f_m_isHeir s x1) (fun r1 => jn (bI (f_m_bad s) (fun r3 s4 => some (r3, s4))) (fun j2 => if r1 = (0 : Int32) then j2 else bP (f_m_isHeir s x2) (fun r5 => if r5 = (0 : Int32) then j2 else if x1 = x2 then j2 else bI (f_m_lastsOf s x1 x2) (fun r6 s7 => some (r6, s7)))))
set_option maxRecDepth 100000 in
set_option maxHeartbeats 4000000 in
theorem c_m_lasts {G : Gb} {l : Launch} {o : Sto} {L : Lng} (hG : GA G) (s : Sto) (x1 : Int32) (x2 : Int32)  : CT G l (EM o L) pvI psI yX12_lasts cX12_lasts 3 (some .int) 5 108 [.ref (ad G 17 0), .int x1, .int x2] s (f_m_lasts s x1 x2) := by
  refine CT.of hG (by decide) (Nat.le_of_ble_eq_true rfl) (fun X hX => ?_)
  have hX : OX G X l cX12_lasts 3 "CrownTwoModel" (some .int) 5 108 := hX
  show ZR G X (EM o L) pvI psI 3 s [(0, .ref (ad G 17 0)), (1, .int x1), (2, .int x2)] [] 0 _
  unfold f_m_lasts
  refine z_aload_n (pc := 0) hX dX12_lasts_0 rfl 0 rfl ?_
  refine z_iload_n (pc := 1) hX dX12_lasts_1 rfl 1 rfl ?_
  refine z_rP (run_V (pc := 2) (As := [.int x1]) hX rc_17 ⟨q_1022, q_1025, q_13⟩ q_1024 qs_41 hd_X12_isHeir ⟨Nat.le_of_ble_eq_true rfl, Nat.le_of_ble_eq_true rfl⟩ (c_m_isHeir hG s x1) rfl rfl (Nat.le_of_ble_eq_true rfl) dX12_lasts_2) (fun r1 => ?_)
  refine z_jn (P := fun j2 => ZR G X (EM o L) pvI psI 3 s [(0, .ref (ad G 17 0))] [] 30 (j2)) ?_ ?_
  · skip
    refine z_aload_n (pc := 30) hX dX12_lasts_30 rfl 0 rfl ?_
    refine z_rI (run_V (pc := 31) (As := []) hX rc_17 ⟨q_928, q_931, q_13⟩ q_930 qs_24 hd_X12_bad ⟨Nat.le_of_ble_eq_true rfl, Nat.le_of_ble_eq_true rfl⟩ (c_m_bad hG s) rfl rfl (Nat.le_of_ble_eq_true rfl) dX12_lasts_31) (fun r3 s4 => ?_)
    exact z_retI (pc := 34) hX dX12_lasts_34
  · intro j2 hj2
    refine z_if_eq (pc := 5) (tgt := 30) hX dX12_lasts_5 rfl ?_ ?_
    · exact z_ls [0] rfl (hj2)
    · refine z_aload_n (pc := 8) hX dX12_lasts_8 rfl 0 rfl ?_
      refine z_iload_n (pc := 9) hX dX12_lasts_9 rfl 2 rfl ?_
      refine z_rP (run_V (pc := 10) (As := [.int x2]) hX rc_17 ⟨q_1022, q_1025, q_13⟩ q_1024 qs_41 hd_X12_isHeir ⟨Nat.le_of_ble_eq_true rfl, Nat.le_of_ble_eq_true rfl⟩ (c_m_isHeir hG s x2) rfl rfl (Nat.le_of_ble_eq_true rfl) dX12_lasts_10) (fun r5 => ?_)
      refine z_if_eq (pc := 13) (tgt := 30) hX dX12_lasts_13 rfl ?_ ?_
      · exact z_ls [0] rfl (hj2)
      · refine z_iload_n (pc := 16) hX dX12_lasts_16 rfl 1 rfl ?_
        refine z_iload_n (pc := 17) hX dX12_lasts_17 rfl 2 rfl ?_
        refine z_icmp_eq (pc := 18) (tgt := 30) hX dX12_lasts_18 rfl ?_ ?_
        · exact z_ls [0] rfl (hj2)
        · refine z_aload_n (pc := 21) hX dX12_lasts_21 rfl 0 rfl ?_
          refine z_iload_n (pc := 22) hX dX12_lasts_22 rfl 1 rfl ?_
          refine z_iload_n (pc := 23) hX dX12_lasts_23 rfl 2 rfl ?_
          refine z_rI (run_V (pc := 24) (As := [.int x1, .int x2]) hX rc_17 ⟨q_1165, q_1168, q_13⟩ q_1167 qs_60 hd_X12_lastsOf ⟨Nat.le_of_ble_eq_true rfl, Nat.le_of_ble_eq_true rfl⟩ (c_m_lastsOf hG s x1 x2) rfl rfl (Nat.le_of_ble_eq_true rfl) dX12_lasts_24) (fun r6 s7 => ?_)
          refine z_goto (pc := 27) (tgt := 34) hX dX12_lasts_27 rfl ?_
          exact z_retI (pc := 34) hX dX12_lasts_34
theorem hd_X12_areStuck : yX12_areStuck.cls ≠ "java/lang/invoke/MethodHandle" ∧ yX12_areStuck.cls ≠ "java/lang/invoke/VarHandle" ∧ (parseMethodDescriptor yX12_areStuck.desc).map (fun d => d.parameters.length) = some 2 := by decide +kernel
def l_m_areStuck_5 (s : Sto) (x1 : Int32) (x2 : Int32) (rc3 : Int32 → Int32 → Option (Int32)) (v3_1 : Int32) (v4_2 : Int32) : Option (Int32) :=
  if (8 : Int32) ≤ v4_2 then if v3_1 = (0 : Int32) ∨ v3_1 = (1 : Int32) then some v3_1 else none else jn (fun t4 => rc3 t4 (v4_2 + (1 : Int32))) (fun j5 => jn (j5 (0 : Int32)) (fun j6 => if v3_1 = (0 : Int32) then j6 else bP (f_m_lifts s x1 v4_2) (fun r7 => jn (j5 (1 : Int32)) (fun j8 => if r7 = (0 : Int32) then j8 else bP (f_m_lifts s x2 v4_2) (fun r9 => if r9 = (0 : Int32) then j8 else j6)))))
def f_m_areStuck (s : Sto) (x1 : Int32) (x2 : Int32) : Option (Int32) :=
  fx 1000 (l_m_areStuck_5 s x1 x2) (fun _ _ => none) (1 : Int32) (0 : Int32)
set_option maxRecDepth 100000 in
set_option maxHeartbeats 4000000 in
theorem c_m_areStuck {G : Gb} {l : Launch} {o : Sto} {L : Lng} (hG : GA G) (s : Sto) (x1 : Int32) (x2 : Int32)  : CT G l (EM o L) pvP (psP s) yX12_areStuck cX12_areStuck 5 (some .boolean) 3 67 [.ref (ad G 17 0), .int x1, .int x2] s (f_m_areStuck s x1 x2) := by
  refine CT.of hG (by decide) (Nat.le_of_ble_eq_true rfl) (fun X hX => ?_)
  have hX : OX G X l cX12_areStuck 5 "CrownTwoModel" (some .boolean) 3 67 := hX
  show ZR G X (EM o L) pvP (psP s) 5 s [(0, .ref (ad G 17 0)), (1, .int x1), (2, .int x2)] [] 0 _
  unfold f_m_areStuck
  refine z_iconst (pc := 0) hX dX12_areStuck_0 ic_1 ?_
  refine z_istore_n (pc := 1) (ls' := [(3, .int (1 : Int32)), (0, .ref (ad G 17 0)), (1, .int x1), (2, .int x2)]) hX dX12_areStuck_1 rfl (by decide) rfl ?_
  refine z_iconst (pc := 2) hX dX12_areStuck_2 ic_0 ?_
  refine z_istore (pc := 3) (ls' := [(4, .int (0 : Int32)), (3, .int (1 : Int32)), (0, .ref (ad G 17 0)), (1, .int x1), (2, .int x2)]) hX dX12_areStuck_3 (by decide) rfl ?_
  refine z_ls [2, 3, 4, 1, 0] rfl ?_
  refine (fx_P (F := l_m_areStuck_5 s x1 x2) (b := (fun _ _ => none)) (fun rc3 => ∀ (v3_1 : Int32) (v4_2 : Int32), ZR G X (EM o L) pvP (psP s) 5 s [(0, .ref (ad G 17 0)), (1, .int x1), (2, .int x2), (3, .int v3_1), (4, .int v4_2)] [] 5 (rc3 v3_1 v4_2)) ?_ ?_ 1000) (1 : Int32) (0 : Int32)
  · intro v3_1 v4_2; exact z_none
  · intro rc3 hrc3 v3_1 v4_2
    unfold l_m_areStuck_5
    refine z_iload (pc := 5) hX dX12_areStuck_5 4 rfl ?_
    refine z_bipush (pc := 7) hX dX12_areStuck_7 bp_8 ?_
    refine z_icmp_ge (pc := 9) (tgt := 48) hX dX12_areStuck_9 rfl ?_ ?_
    · refine z_iload_n (pc := 48) hX dX12_areStuck_48 rfl 3 rfl ?_
      exact z_retPz (pc := 49) hX dX12_areStuck_49
    · refine z_iload_n (pc := 12) hX dX12_areStuck_12 rfl 3 rfl ?_
      refine z_jn (P := fun j5 => ∀ (t4 : Int32), ZR G X (EM o L) pvP (psP s) 5 s [(0, .ref (ad G 17 0)), (1, .int x1), (2, .int x2), (4, .int v4_2)] [.int t4] 41 (j5 t4)) ?_ ?_
      · intro t4
        refine z_istore_n (pc := 41) (ls' := [(3, .int t4), (0, .ref (ad G 17 0)), (1, .int x1), (2, .int x2), (4, .int v4_2)]) hX dX12_areStuck_41 rfl (by decide) rfl ?_
        refine z_iinc (pc := 42) (n := 4) (v := v4_2 + (1 : Int32)) (ls' := [(4, .int (v4_2 + (1 : Int32))), (3, .int t4), (0, .ref (ad G 17 0)), (1, .int x1), (2, .int x2)]) hX dX12_areStuck_42 rfl (by rw [show Int32.ofInt (1) = 1 by decide +kernel]) (by decide) rfl ?_
        refine z_goto (pc := 45) (tgt := 5) hX dX12_areStuck_45 rfl ?_
        exact z_ls [2, 3, 4, 1, 0] rfl (hrc3 t4 (v4_2 + (1 : Int32)))
      · intro j5 hj5
        refine z_jn (P := fun j6 => ZR G X (EM o L) pvP (psP s) 5 s [(0, .ref (ad G 17 0)), (1, .int x1), (2, .int x2), (4, .int v4_2)] [] 40 (j6)) ?_ ?_
        · skip
          refine z_iconst (pc := 40) hX dX12_areStuck_40 ic_0 ?_
          exact z_ls [0, 1, 2, 3] rfl (hj5 (0 : Int32))
        · intro j6 hj6
          refine z_if_eq (pc := 13) (tgt := 40) hX dX12_areStuck_13 rfl ?_ ?_
          · exact z_ls [0, 1, 2, 4] rfl (hj6)
          · refine z_aload_n (pc := 16) hX dX12_areStuck_16 rfl 0 rfl ?_
            refine z_iload_n (pc := 17) hX dX12_areStuck_17 rfl 1 rfl ?_
            refine z_iload (pc := 18) hX dX12_areStuck_18 4 rfl ?_
            refine z_rP (run_V (pc := 20) (As := [.int x1, .int v4_2]) hX rc_17 ⟨q_1060, q_1063, q_13⟩ q_1062 qs_48 hd_X12_lifts ⟨Nat.le_of_ble_eq_true rfl, Nat.le_of_ble_eq_true rfl⟩ (c_m_lifts hG s x1 v4_2) rfl rfl (Nat.le_of_ble_eq_true rfl) dX12_areStuck_20) (fun r7 => ?_)
            refine z_jn (P := fun j8 => ZR G X (EM o L) pvP (psP s) 5 s [(0, .ref (ad G 17 0)), (1, .int x1), (2, .int x2), (4, .int v4_2)] [] 36 (j8)) ?_ ?_
            · skip
              refine z_iconst (pc := 36) hX dX12_areStuck_36 ic_1 ?_
              refine z_goto (pc := 37) (tgt := 41) hX dX12_areStuck_37 rfl ?_
              exact z_ls [0, 1, 2, 3] rfl (hj5 (1 : Int32))
            · intro j8 hj8
              refine z_if_eq (pc := 23) (tgt := 36) hX dX12_areStuck_23 rfl ?_ ?_
              · exact z_ls [0, 1, 2, 4] rfl (hj8)
              · refine z_aload_n (pc := 26) hX dX12_areStuck_26 rfl 0 rfl ?_
                refine z_iload_n (pc := 27) hX dX12_areStuck_27 rfl 2 rfl ?_
                refine z_iload (pc := 28) hX dX12_areStuck_28 4 rfl ?_
                refine z_rP (run_V (pc := 30) (As := [.int x2, .int v4_2]) hX rc_17 ⟨q_1060, q_1063, q_13⟩ q_1062 qs_48 hd_X12_lifts ⟨Nat.le_of_ble_eq_true rfl, Nat.le_of_ble_eq_true rfl⟩ (c_m_lifts hG s x2 v4_2) rfl rfl (Nat.le_of_ble_eq_true rfl) dX12_areStuck_30) (fun r9 => ?_)
                refine z_if_ne (pc := 33) (tgt := 40) hX dX12_areStuck_33 rfl ?_ ?_
                · exact z_ls [0, 1, 2, 4] rfl (hj6)
                · exact z_ls [0, 1, 2, 4] rfl (hj8)
theorem hd_X12_pairs : yX12_pairs.cls ≠ "java/lang/invoke/MethodHandle" ∧ yX12_pairs.cls ≠ "java/lang/invoke/VarHandle" ∧ (parseMethodDescriptor yX12_pairs.desc).map (fun d => d.parameters.length) = some 1 := by decide +kernel
def l_m_pairs_39 (v5_10 : Int32) (K17 : Sto → Int32 → Int32 → Int32 → Option (Int32 × Sto)) (rc23 : Sto → Int32 → Int32 → Int32 → Int32 → Option (Int32 × Sto)) (s18 : Sto) (v2_19 : Int32) (v3_20 : Int32) (v4_21 : Int32) (v6_22 : Int32) : Option (Int32 × Sto) :=
  if (s18 17 0 1) ≤ v6_22 then K17 s18 v2_19 v3_20 v4_21 else bI (f_m_lastsOf s18 v5_10 v6_22) (fun r24 s25 => jn (fun t26 => jn (fun t28 => bP (f_m_areStuck s25 v5_10 v6_22) (fun r30 => jn (fun t31 => lt (v4_21 + t31) (fun v4_33 => rc23 s25 t26 t28 v4_33 (v6_22 + (1 : Int32)))) (fun j32 => if r30 = (0 : Int32) then j32 (0 : Int32) else j32 (1 : Int32)))) (fun j29 => if r24 ≤ v3_20 then j29 v3_20 else j29 r24)) (fun j27 => if r24 ≤ v3_20 then j27 v2_19 else j27 (((10 : Int32) * v5_10) + v6_22)))
def l_m_pairs_24 (K5 : Sto → Int32 → Int32 → Option (Int32 × Sto)) (rc11 : Sto → Int32 → Int32 → Int32 → Int32 → Option (Int32 × Sto)) (s6 : Sto) (v2_7 : Int32) (v3_8 : Int32) (v4_9 : Int32) (v5_10 : Int32) : Option (Int32 × Sto) :=
  if (s6 17 0 1) ≤ v5_10 then K5 s6 v2_7 v4_9 else lt (v5_10 + (1 : Int32)) (fun v6_12 => jn (fun s13 v2_14 v3_15 v4_16 => rc11 s13 v2_14 v3_15 v4_16 (v5_10 + (1 : Int32))) (fun K17 => fx 1000 (l_m_pairs_39 v5_10 K17) (fun _ _ _ _ _ => none) s6 v2_7 v3_8 v4_9 v6_12))
def f_m_pairs (s : Sto) (x1 : Int32) : Option (Int32 × Sto) :=
  bP (f_m_in x1 (0 : Int32) (1 : Int32)) (fun r1 => if r1 = (0 : Int32) then bI (f_m_bad s) (fun r34 s35 => some (r34, s35)) else jn (fun s2 v2_3 v4_4 => if x1 = (0 : Int32) then some (v2_3, s2) else some (v4_4, s2)) (fun K5 => fx 1000 (l_m_pairs_24 K5) (fun _ _ _ _ _ => none) s (-1 : Int32) (-1 : Int32) (0 : Int32) (0 : Int32)))
set_option maxRecDepth 100000 in
set_option maxHeartbeats 4000000 in
theorem c_m_pairs {G : Gb} {l : Launch} {o : Sto} {L : Lng} (hG : GA G) (s : Sto) (x1 : Int32)  : CT G l (EM o L) pvI psI yX12_pairs cX12_pairs 8 (some .int) 5 108 [.ref (ad G 17 0), .int x1] s (f_m_pairs s x1) := by
  refine CT.of hG (by decide) (Nat.le_of_ble_eq_true rfl) (fun X hX => ?_)
  have hX : OX G X l cX12_pairs 8 "CrownTwoModel" (some .int) 5 108 := hX
  show ZR G X (EM o L) pvI psI 8 s [(0, .ref (ad G 17 0)), (1, .int x1)] [] 0 _
  unfold f_m_pairs
  refine z_iload_n (pc := 0) hX dX12_pairs_0 rfl 1 rfl ?_
  refine z_iconst (pc := 1) hX dX12_pairs_1 ic_0 ?_
  refine z_iconst (pc := 2) hX dX12_pairs_2 ic_1 ?_
  refine z_rP (run_S (pc := 3) (As := [.int x1, .int (0 : Int32), .int (1 : Int32)]) hX ⟨q_925, q_927, q_13⟩ q_926 hd_X12_in ⟨Nat.le_of_ble_eq_true rfl, Nat.le_of_ble_eq_true rfl⟩ (c_m_in hG s x1 (0 : Int32) (1 : Int32)) rfl rfl (Nat.le_of_ble_eq_true rfl) dX12_pairs_3) (fun r1 => ?_)
  refine z_if_ne (pc := 6) (tgt := 14) hX dX12_pairs_6 rfl ?_ ?_
  · refine z_iconst (pc := 14) hX dX12_pairs_14 ic_m1 ?_
    refine z_istore_n (pc := 15) (ls' := [(2, .int (-1 : Int32)), (0, .ref (ad G 17 0)), (1, .int x1)]) hX dX12_pairs_15 rfl (by decide) rfl ?_
    refine z_iconst (pc := 16) hX dX12_pairs_16 ic_m1 ?_
    refine z_istore_n (pc := 17) (ls' := [(3, .int (-1 : Int32)), (2, .int (-1 : Int32)), (0, .ref (ad G 17 0)), (1, .int x1)]) hX dX12_pairs_17 rfl (by decide) rfl ?_
    refine z_iconst (pc := 18) hX dX12_pairs_18 ic_0 ?_
    refine z_istore (pc := 19) (ls' := [(4, .int (0 : Int32)), (3, .int (-1 : Int32)), (2, .int (-1 : Int32)), (0, .ref (ad G 17 0)), (1, .int x1)]) hX dX12_pairs_19 (by decide) rfl ?_
    refine z_iconst (pc := 21) hX dX12_pairs_21 ic_0 ?_
    refine z_istore (pc := 22) (ls' := [(5, .int (0 : Int32)), (4, .int (0 : Int32)), (3, .int (-1 : Int32)), (2, .int (-1 : Int32)), (0, .ref (ad G 17 0)), (1, .int x1)]) hX dX12_pairs_22 (by decide) rfl ?_
    refine z_jn (P := fun K5 => ∀ (s2 : Sto) (v2_3 : Int32) (v4_4 : Int32), ZR G X (EM o L) pvI psI 8 s2 [(1, .int x1), (2, .int v2_3), (4, .int v4_4)] [] 123 (K5 s2 v2_3 v4_4)) ?_ ?_
    · intro s2 v2_3 v4_4
      refine z_iload_n (pc := 123) hX dX12_pairs_123 rfl 0 rfl ?_
      refine z_if_ne (pc := 124) (tgt := 131) hX dX12_pairs_124 rfl ?_ ?_
      · refine z_iload (pc := 131) hX dX12_pairs_131 2 rfl ?_
        exact z_retI (pc := 133) hX dX12_pairs_133
      · refine z_iload_n (pc := 127) hX dX12_pairs_127 rfl 1 rfl ?_
        refine z_goto (pc := 128) (tgt := 133) hX dX12_pairs_128 rfl ?_
        exact z_retI (pc := 133) hX dX12_pairs_133
    · intro K5 hK5
      refine z_ls [4, 5, 3, 2, 1, 0] rfl ?_
      refine (fx_P (F := l_m_pairs_24 K5) (b := (fun _ _ _ _ _ => none)) (fun rc11 => ∀ (s6 : Sto) (v2_7 : Int32) (v3_8 : Int32) (v4_9 : Int32) (v5_10 : Int32), ZR G X (EM o L) pvI psI 8 s6 [(0, .ref (ad G 17 0)), (1, .int x1), (2, .int v2_7), (3, .int v3_8), (4, .int v4_9), (5, .int v5_10)] [] 24 (rc11 s6 v2_7 v3_8 v4_9 v5_10)) ?_ ?_ 1000) s (-1 : Int32) (-1 : Int32) (0 : Int32) (0 : Int32)
      · intro s6 v2_7 v3_8 v4_9 v5_10; exact z_none
      · intro rc11 hrc11 s6 v2_7 v3_8 v4_9 v5_10
        unfold l_m_pairs_24
        refine z_iload (pc := 24) hX dX12_pairs_24 5 rfl ?_
        refine z_aload_n (pc := 26) hX dX12_pairs_26 rfl 0 rfl ?_
        refine gf_17_1M (pc := 27) hX q_813 dX12_pairs_27 ?_
        refine z_icmp_ge (pc := 30) (tgt := 123) hX dX12_pairs_30 rfl ?_ ?_
        · exact z_ls [1, 2, 4] rfl (hK5 s6 v2_7 v4_9)
        · refine z_iload (pc := 33) hX dX12_pairs_33 5 rfl ?_
          refine z_iconst (pc := 35) hX dX12_pairs_35 ic_1 ?_
          refine z_iadd (pc := 36) hX dX12_pairs_36 ?_
          refine z_lti (pc := 37) (fun v6_12 => ?_)
          refine z_istore (pc := 37) (ls' := [(6, .int v6_12), (0, .ref (ad G 17 0)), (1, .int x1), (2, .int v2_7), (3, .int v3_8), (4, .int v4_9), (5, .int v5_10)]) hX dX12_pairs_37 (by decide) rfl ?_
          refine z_jn (P := fun K17 => ∀ (s13 : Sto) (v2_14 : Int32) (v3_15 : Int32) (v4_16 : Int32), ZR G X (EM o L) pvI psI 8 s13 [(0, .ref (ad G 17 0)), (1, .int x1), (2, .int v2_14), (3, .int v3_15), (4, .int v4_16), (5, .int v5_10)] [] 117 (K17 s13 v2_14 v3_15 v4_16)) ?_ ?_
          · intro s13 v2_14 v3_15 v4_16
            refine z_iinc (pc := 117) (n := 5) (v := v5_10 + (1 : Int32)) (ls' := [(5, .int (v5_10 + (1 : Int32))), (0, .ref (ad G 17 0)), (1, .int x1), (2, .int v2_14), (3, .int v3_15), (4, .int v4_16)]) hX dX12_pairs_117 rfl (by rw [show Int32.ofInt (1) = 1 by decide +kernel]) (by decide) rfl ?_
            refine z_goto (pc := 120) (tgt := 24) hX dX12_pairs_120 rfl ?_
            exact z_ls [1, 2, 3, 4, 5, 0] rfl (hrc11 s13 v2_14 v3_15 v4_16 (v5_10 + (1 : Int32)))
          · intro K17 hK17
            refine z_ls [1, 2, 3, 4, 5, 6, 0] rfl ?_
            refine (fx_P (F := l_m_pairs_39 v5_10 K17) (b := (fun _ _ _ _ _ => none)) (fun rc23 => ∀ (s18 : Sto) (v2_19 : Int32) (v3_20 : Int32) (v4_21 : Int32) (v6_22 : Int32), ZR G X (EM o L) pvI psI 8 s18 [(0, .ref (ad G 17 0)), (1, .int x1), (2, .int v2_19), (3, .int v3_20), (4, .int v4_21), (5, .int v5_10), (6, .int v6_22)] [] 39 (rc23 s18 v2_19 v3_20 v4_21 v6_22)) ?_ ?_ 1000) s6 v2_7 v3_8 v4_9 v6_12
            · intro s18 v2_19 v3_20 v4_21 v6_22; exact z_none
            · intro rc23 hrc23 s18 v2_19 v3_20 v4_21 v6_22
              unfold l_m_pairs_39
              refine z_iload (pc := 39) hX dX12_pairs_39 6 rfl ?_
              refine z_aload_n (pc := 41) hX dX12_pairs_41 rfl 0 rfl ?_
              refine gf_17_1M (pc := 42) hX q_813 dX12_pairs_42 ?_
              refine z_icmp_ge (pc := 45) (tgt := 117) hX dX12_pairs_45 rfl ?_ ?_
              · exact z_ls [0, 1, 2, 3, 4, 5] rfl (hK17 s18 v2_19 v3_20 v4_21)
              · refine z_aload_n (pc := 48) hX dX12_pairs_48 rfl 0 rfl ?_
                refine z_iload (pc := 49) hX dX12_pairs_49 5 rfl ?_
                refine z_iload (pc := 51) hX dX12_pairs_51 6 rfl ?_
                refine z_rI (run_V (pc := 53) (As := [.int v5_10, .int v6_22]) hX rc_17 ⟨q_1165, q_1168, q_13⟩ q_1167 qs_60 hd_X12_lastsOf ⟨Nat.le_of_ble_eq_true rfl, Nat.le_of_ble_eq_true rfl⟩ (c_m_lastsOf hG s18 v5_10 v6_22) rfl rfl (Nat.le_of_ble_eq_true rfl) dX12_pairs_53) (fun r24 s25 => ?_)
                refine z_istore (pc := 56) (ls' := [(7, .int r24), (0, .ref (ad G 17 0)), (1, .int x1), (2, .int v2_19), (3, .int v3_20), (4, .int v4_21), (5, .int v5_10), (6, .int v6_22)]) hX dX12_pairs_56 (by decide) rfl ?_
                refine z_iload (pc := 58) hX dX12_pairs_58 0 rfl ?_
                refine z_iload_n (pc := 60) hX dX12_pairs_60 rfl 4 rfl ?_
                refine z_jn (P := fun j27 => ∀ (t26 : Int32), ZR G X (EM o L) pvI psI 8 s25 [(0, .ref (ad G 17 0)), (1, .int x1), (3, .int v3_20), (4, .int v4_21), (5, .int v5_10), (6, .int v6_22), (7, .int r24)] [.int t26] 76 (j27 t26)) ?_ ?_
                · intro t26
                  refine z_istore_n (pc := 76) (ls' := [(2, .int t26), (0, .ref (ad G 17 0)), (1, .int x1), (3, .int v3_20), (4, .int v4_21), (5, .int v5_10), (6, .int v6_22), (7, .int r24)]) hX dX12_pairs_76 rfl (by decide) rfl ?_
                  refine z_iload (pc := 77) hX dX12_pairs_77 7 rfl ?_
                  refine z_iload_n (pc := 79) hX dX12_pairs_79 rfl 3 rfl ?_
                  refine z_jn (P := fun j29 => ∀ (t28 : Int32), ZR G X (EM o L) pvI psI 8 s25 [(0, .ref (ad G 17 0)), (1, .int x1), (2, .int t26), (4, .int v4_21), (5, .int v5_10), (6, .int v6_22)] [.int t28] 89 (j29 t28)) ?_ ?_
                  · intro t28
                    refine z_istore_n (pc := 89) (ls' := [(3, .int t28), (0, .ref (ad G 17 0)), (1, .int x1), (2, .int t26), (4, .int v4_21), (5, .int v5_10), (6, .int v6_22)]) hX dX12_pairs_89 rfl (by decide) rfl ?_
                    refine z_iload (pc := 90) hX dX12_pairs_90 4 rfl ?_
                    refine z_aload_n (pc := 92) hX dX12_pairs_92 rfl 1 rfl ?_
                    refine z_iload (pc := 93) hX dX12_pairs_93 5 rfl ?_
                    refine z_iload (pc := 95) hX dX12_pairs_95 6 rfl ?_
                    refine z_rP (run_V (pc := 97) (As := [.int v5_10, .int v6_22]) hX rc_17 ⟨q_1173, q_1176, q_13⟩ q_1175 qs_61 hd_X12_areStuck ⟨Nat.le_of_ble_eq_true rfl, Nat.le_of_ble_eq_true rfl⟩ (c_m_areStuck hG s25 v5_10 v6_22) rfl rfl (Nat.le_of_ble_eq_true rfl) dX12_pairs_97) (fun r30 => ?_)
                    refine z_jn (P := fun j32 => ∀ (t31 : Int32), ZR G X (EM o L) pvI psI 8 s25 [(0, .ref (ad G 17 0)), (1, .int x1), (2, .int t26), (3, .int t28), (5, .int v5_10), (6, .int v6_22)] [.int t31, .int v4_21] 108 (j32 t31)) ?_ ?_
                    · intro t31
                      refine z_iadd (pc := 108) hX dX12_pairs_108 ?_
                      refine z_lti (pc := 109) (fun v4_33 => ?_)
                      refine z_istore (pc := 109) (ls' := [(4, .int v4_33), (0, .ref (ad G 17 0)), (1, .int x1), (2, .int t26), (3, .int t28), (5, .int v5_10), (6, .int v6_22)]) hX dX12_pairs_109 (by decide) rfl ?_
                      refine z_iinc (pc := 111) (n := 6) (v := v6_22 + (1 : Int32)) (ls' := [(6, .int (v6_22 + (1 : Int32))), (4, .int v4_33), (0, .ref (ad G 17 0)), (1, .int x1), (2, .int t26), (3, .int t28), (5, .int v5_10)]) hX dX12_pairs_111 rfl (by rw [show Int32.ofInt (1) = 1 by decide +kernel]) (by decide) rfl ?_
                      refine z_goto (pc := 114) (tgt := 39) hX dX12_pairs_114 rfl ?_
                      exact z_ls [2, 3, 4, 5, 1, 6, 0] rfl (hrc23 s25 t26 t28 v4_33 (v6_22 + (1 : Int32)))
                    · intro j32 hj32
                      refine z_if_eq (pc := 100) (tgt := 107) hX dX12_pairs_100 rfl ?_ ?_
                      · refine z_iconst (pc := 107) hX dX12_pairs_107 ic_0 ?_
                        exact z_ls [1, 2, 3, 0, 5, 6] rfl (hj32 (0 : Int32))
                      · refine z_iconst (pc := 103) hX dX12_pairs_103 ic_1 ?_
                        refine z_goto (pc := 104) (tgt := 108) hX dX12_pairs_104 rfl ?_
                        exact z_ls [1, 2, 3, 0, 5, 6] rfl (hj32 (1 : Int32))
                  · intro j29 hj29
                    refine z_icmp_le (pc := 80) (tgt := 88) hX dX12_pairs_80 rfl ?_ ?_
                    · refine z_iload_n (pc := 88) hX dX12_pairs_88 rfl 3 rfl ?_
                      exact z_ls [1, 2, 0, 4, 5, 6] rfl (hj29 v3_20)
                    · refine z_iload (pc := 83) hX dX12_pairs_83 7 rfl ?_
                      refine z_goto (pc := 85) (tgt := 89) hX dX12_pairs_85 rfl ?_
                      exact z_ls [1, 2, 0, 4, 5, 6] rfl (hj29 r24)
                · intro j27 hj27
                  refine z_icmp_le (pc := 61) (tgt := 75) hX dX12_pairs_61 rfl ?_ ?_
                  · refine z_iload_n (pc := 75) hX dX12_pairs_75 rfl 3 rfl ?_
                    exact z_ls [1, 2, 4, 5, 6, 7, 0] rfl (hj27 v2_19)
                  · refine z_bipush (pc := 64) hX dX12_pairs_64 bp_10 ?_
                    refine z_iload (pc := 66) hX dX12_pairs_66 6 rfl ?_
                    refine z_imul (pc := 68) hX dX12_pairs_68 ?_
                    refine z_iload (pc := 69) hX dX12_pairs_69 7 rfl ?_
                    refine z_iadd (pc := 71) hX dX12_pairs_71 ?_
                    refine z_goto (pc := 72) (tgt := 76) hX dX12_pairs_72 rfl ?_
                    exact z_ls [1, 2, 4, 5, 6, 7, 0] rfl (hj27 (((10 : Int32) * v5_10) + v6_22))
  · refine z_aload_n (pc := 9) hX dX12_pairs_9 rfl 0 rfl ?_
    refine z_rI (run_V (pc := 10) (As := []) hX rc_17 ⟨q_928, q_931, q_13⟩ q_930 qs_24 hd_X12_bad ⟨Nat.le_of_ble_eq_true rfl, Nat.le_of_ble_eq_true rfl⟩ (c_m_bad hG s) rfl rfl (Nat.le_of_ble_eq_true rfl) dX12_pairs_10) (fun r34 s35 => ?_)
    exact z_retI (pc := 13) hX dX12_pairs_13
theorem hd_X12_note : yX12_note.cls ≠ "java/lang/invoke/MethodHandle" ∧ yX12_note.cls ≠ "java/lang/invoke/VarHandle" ∧ (parseMethodDescriptor yX12_note.desc).map (fun d => d.parameters.length) = some 5 := by decide +kernel
def f_m_note (s : Sto) (x1 : Int32) (x2 : Int32) (x3 : Int32) (x4 : Int32) (x5 : Int32) : Option (Int32 × Sto) :=
  bP (f_m_isHeir s x1) (fun r1 => if r1 = (0 : Int32) then bI (f_m_bad s) (fun r2 s3 => some (r2, s3)) else bP (f_m_isAct x2) (fun r4 => if r4 = (0 : Int32) then bI (f_m_bad s) (fun r5 s6 => some (r5, s6)) else bP (f_m_in x3 (0 : Int32) (99 : Int32)) (fun r7 => if r7 = (0 : Int32) then bI (f_m_bad s) (fun r8 s9 => some (r8, s9)) else bP (f_m_in x4 (0 : Int32) (99 : Int32)) (fun r10 => if r10 = (0 : Int32) then bI (f_m_bad s) (fun r11 s12 => some (r11, s12)) else bP (f_m_in x5 (0 : Int32) (1 : Int32)) (fun r13 => if r13 = (0 : Int32) then bI (f_m_bad s) (fun r22 s23 => some (r22, s23)) else if (s 17 0 7) = (6 : Int32) then bI (f_m_full s) (fun r20 s21 => some (r20, s21)) else if inb (s 17 0 7) 6 then lt (st s 23 0 (ix (s 17 0 7)) x1) (fun s14 => if inb (s14 17 0 7) 6 then lt (st s14 24 0 (ix (s14 17 0 7)) x2) (fun s15 => if inb (s15 17 0 7) 6 then lt (st s15 25 0 (ix (s15 17 0 7)) x3) (fun s16 => if inb (s16 17 0 7) 6 then lt (st s16 26 0 (ix (s16 17 0 7)) x4) (fun s17 => if inb (s17 17 0 7) 6 then lt (st s17 27 0 (ix (s17 17 0 7)) x5) (fun s18 => lt (st s18 17 0 7 ((s18 17 0 7) + (1 : Int32))) (fun s19 => some (s19 17 0 7, s19))) else none) else none) else none) else none) else none)))))
set_option maxRecDepth 100000 in
set_option maxHeartbeats 4000000 in
theorem c_m_note {G : Gb} {l : Launch} {o : Sto} {L : Lng} (hG : GA G) (s : Sto) (x1 : Int32) (x2 : Int32) (x3 : Int32) (x4 : Int32) (x5 : Int32)  : CT G l (EM o L) pvI psI yX12_note cX12_note 6 (some .int) 2 43 [.ref (ad G 17 0), .int x1, .int x2, .int x3, .int x4, .int x5] s (f_m_note s x1 x2 x3 x4 x5) := by
  refine CT.of hG (by decide) (Nat.le_of_ble_eq_true rfl) (fun X hX => ?_)
  have hX : OX G X l cX12_note 6 "CrownTwoModel" (some .int) 2 43 := hX
  show ZR G X (EM o L) pvI psI 6 s [(0, .ref (ad G 17 0)), (1, .int x1), (2, .int x2), (3, .int x3), (4, .int x4), (5, .int x5)] [] 0 _
  unfold f_m_note
  refine z_aload_n (pc := 0) hX dX12_note_0 rfl 0 rfl ?_
  refine z_iload_n (pc := 1) hX dX12_note_1 rfl 1 rfl ?_
  refine z_rP (run_V (pc := 2) (As := [.int x1]) hX rc_17 ⟨q_1022, q_1025, q_13⟩ q_1024 qs_41 hd_X12_isHeir ⟨Nat.le_of_ble_eq_true rfl, Nat.le_of_ble_eq_true rfl⟩ (c_m_isHeir hG s x1) rfl rfl (Nat.le_of_ble_eq_true rfl) dX12_note_2) (fun r1 => ?_)
  refine z_if_eq (pc := 5) (tgt := 46) hX dX12_note_5 rfl ?_ ?_
  · refine z_aload_n (pc := 46) hX dX12_note_46 rfl 0 rfl ?_
    refine z_rI (run_V (pc := 47) (As := []) hX rc_17 ⟨q_928, q_931, q_13⟩ q_930 qs_24 hd_X12_bad ⟨Nat.le_of_ble_eq_true rfl, Nat.le_of_ble_eq_true rfl⟩ (c_m_bad hG s) rfl rfl (Nat.le_of_ble_eq_true rfl) dX12_note_47) (fun r2 s3 => ?_)
    exact z_retI (pc := 50) hX dX12_note_50
  · refine z_iload_n (pc := 8) hX dX12_note_8 rfl 2 rfl ?_
    refine z_rP (run_S (pc := 9) (As := [.int x2]) hX ⟨q_1038, q_1040, q_13⟩ q_1039 hd_X12_isAct ⟨Nat.le_of_ble_eq_true rfl, Nat.le_of_ble_eq_true rfl⟩ (c_m_isAct hG s x2) rfl rfl (Nat.le_of_ble_eq_true rfl) dX12_note_9) (fun r4 => ?_)
    refine z_if_eq (pc := 12) (tgt := 46) hX dX12_note_12 rfl ?_ ?_
    · refine z_aload_n (pc := 46) hX dX12_note_46 rfl 0 rfl ?_
      refine z_rI (run_V (pc := 47) (As := []) hX rc_17 ⟨q_928, q_931, q_13⟩ q_930 qs_24 hd_X12_bad ⟨Nat.le_of_ble_eq_true rfl, Nat.le_of_ble_eq_true rfl⟩ (c_m_bad hG s) rfl rfl (Nat.le_of_ble_eq_true rfl) dX12_note_47) (fun r5 s6 => ?_)
      exact z_retI (pc := 50) hX dX12_note_50
    · refine z_iload_n (pc := 15) hX dX12_note_15 rfl 3 rfl ?_
      refine z_iconst (pc := 16) hX dX12_note_16 ic_0 ?_
      refine z_bipush (pc := 17) hX dX12_note_17 bp_99 ?_
      refine z_rP (run_S (pc := 19) (As := [.int x3, .int (0 : Int32), .int (99 : Int32)]) hX ⟨q_925, q_927, q_13⟩ q_926 hd_X12_in ⟨Nat.le_of_ble_eq_true rfl, Nat.le_of_ble_eq_true rfl⟩ (c_m_in hG s x3 (0 : Int32) (99 : Int32)) rfl rfl (Nat.le_of_ble_eq_true rfl) dX12_note_19) (fun r7 => ?_)
      refine z_if_eq (pc := 22) (tgt := 46) hX dX12_note_22 rfl ?_ ?_
      · refine z_aload_n (pc := 46) hX dX12_note_46 rfl 0 rfl ?_
        refine z_rI (run_V (pc := 47) (As := []) hX rc_17 ⟨q_928, q_931, q_13⟩ q_930 qs_24 hd_X12_bad ⟨Nat.le_of_ble_eq_true rfl, Nat.le_of_ble_eq_true rfl⟩ (c_m_bad hG s) rfl rfl (Nat.le_of_ble_eq_true rfl) dX12_note_47) (fun r8 s9 => ?_)
        exact z_retI (pc := 50) hX dX12_note_50
      · refine z_iload (pc := 25) hX dX12_note_25 4 rfl ?_
        refine z_iconst (pc := 27) hX dX12_note_27 ic_0 ?_
        refine z_bipush (pc := 28) hX dX12_note_28 bp_99 ?_
        refine z_rP (run_S (pc := 30) (As := [.int x4, .int (0 : Int32), .int (99 : Int32)]) hX ⟨q_925, q_927, q_13⟩ q_926 hd_X12_in ⟨Nat.le_of_ble_eq_true rfl, Nat.le_of_ble_eq_true rfl⟩ (c_m_in hG s x4 (0 : Int32) (99 : Int32)) rfl rfl (Nat.le_of_ble_eq_true rfl) dX12_note_30) (fun r10 => ?_)
        refine z_if_eq (pc := 33) (tgt := 46) hX dX12_note_33 rfl ?_ ?_
        · refine z_aload_n (pc := 46) hX dX12_note_46 rfl 0 rfl ?_
          refine z_rI (run_V (pc := 47) (As := []) hX rc_17 ⟨q_928, q_931, q_13⟩ q_930 qs_24 hd_X12_bad ⟨Nat.le_of_ble_eq_true rfl, Nat.le_of_ble_eq_true rfl⟩ (c_m_bad hG s) rfl rfl (Nat.le_of_ble_eq_true rfl) dX12_note_47) (fun r11 s12 => ?_)
          exact z_retI (pc := 50) hX dX12_note_50
        · refine z_iload (pc := 36) hX dX12_note_36 5 rfl ?_
          refine z_iconst (pc := 38) hX dX12_note_38 ic_0 ?_
          refine z_iconst (pc := 39) hX dX12_note_39 ic_1 ?_
          refine z_rP (run_S (pc := 40) (As := [.int x5, .int (0 : Int32), .int (1 : Int32)]) hX ⟨q_925, q_927, q_13⟩ q_926 hd_X12_in ⟨Nat.le_of_ble_eq_true rfl, Nat.le_of_ble_eq_true rfl⟩ (c_m_in hG s x5 (0 : Int32) (1 : Int32)) rfl rfl (Nat.le_of_ble_eq_true rfl) dX12_note_40) (fun r13 => ?_)
          refine z_if_ne (pc := 43) (tgt := 51) hX dX12_note_43 rfl ?_ ?_
          · refine z_aload_n (pc := 51) hX dX12_note_51 rfl 0 rfl ?_
            refine gf_17_7M (pc := 52) hX q_819 dX12_note_52 ?_
            refine z_bipush (pc := 55) hX dX12_note_55 bp_6 ?_
            refine z_icmp_ne (pc := 57) (tgt := 65) hX dX12_note_57 rfl ?_ ?_
            · refine z_aload_n (pc := 65) hX dX12_note_65 rfl 0 rfl ?_
              refine gr_17_12M (pc := 66) hX q_824 dX12_note_66 ?_
              refine z_aload_n (pc := 69) hX dX12_note_69 rfl 0 rfl ?_
              refine gf_17_7M (pc := 70) hX q_819 dX12_note_70 ?_
              refine z_iload_n (pc := 73) hX dX12_note_73 rfl 1 rfl ?_
              refine is_23M (pc := 74) hX dX12_note_74 ?_
              refine z_lts (fun s14 => ?_)
              refine z_aload_n (pc := 75) hX dX12_note_75 rfl 0 rfl ?_
              refine gr_17_13M (pc := 76) hX q_825 dX12_note_76 ?_
              refine z_aload_n (pc := 79) hX dX12_note_79 rfl 0 rfl ?_
              refine gf_17_7M (pc := 80) hX q_819 dX12_note_80 ?_
              refine z_iload_n (pc := 83) hX dX12_note_83 rfl 2 rfl ?_
              refine is_24M (pc := 84) hX dX12_note_84 ?_
              refine z_lts (fun s15 => ?_)
              refine z_aload_n (pc := 85) hX dX12_note_85 rfl 0 rfl ?_
              refine gr_17_14M (pc := 86) hX q_826 dX12_note_86 ?_
              refine z_aload_n (pc := 89) hX dX12_note_89 rfl 0 rfl ?_
              refine gf_17_7M (pc := 90) hX q_819 dX12_note_90 ?_
              refine z_iload_n (pc := 93) hX dX12_note_93 rfl 3 rfl ?_
              refine is_25M (pc := 94) hX dX12_note_94 ?_
              refine z_lts (fun s16 => ?_)
              refine z_aload_n (pc := 95) hX dX12_note_95 rfl 0 rfl ?_
              refine gr_17_15M (pc := 96) hX q_827 dX12_note_96 ?_
              refine z_aload_n (pc := 99) hX dX12_note_99 rfl 0 rfl ?_
              refine gf_17_7M (pc := 100) hX q_819 dX12_note_100 ?_
              refine z_iload (pc := 103) hX dX12_note_103 4 rfl ?_
              refine is_26M (pc := 105) hX dX12_note_105 ?_
              refine z_lts (fun s17 => ?_)
              refine z_aload_n (pc := 106) hX dX12_note_106 rfl 0 rfl ?_
              refine gr_17_16M (pc := 107) hX q_828 dX12_note_107 ?_
              refine z_aload_n (pc := 110) hX dX12_note_110 rfl 0 rfl ?_
              refine gf_17_7M (pc := 111) hX q_819 dX12_note_111 ?_
              refine z_iload (pc := 114) hX dX12_note_114 5 rfl ?_
              refine is_27M (pc := 116) hX dX12_note_116 ?_
              refine z_lts (fun s18 => ?_)
              refine z_aload_n (pc := 117) hX dX12_note_117 rfl 0 rfl ?_
              refine z_dup (pc := 118) hX dX12_note_118 rfl ?_
              refine gf_17_7M (pc := 119) hX q_819 dX12_note_119 ?_
              refine z_iconst (pc := 122) hX dX12_note_122 ic_1 ?_
              refine z_iadd (pc := 123) hX dX12_note_123 ?_
              refine pf_17_7M (pc := 124) hX q_819 dX12_note_124 ?_
              refine z_lts (fun s19 => ?_)
              refine z_aload_n (pc := 127) hX dX12_note_127 rfl 0 rfl ?_
              refine gf_17_7M (pc := 128) hX q_819 dX12_note_128 ?_
              exact z_retI (pc := 131) hX dX12_note_131
            · refine z_aload_n (pc := 60) hX dX12_note_60 rfl 0 rfl ?_
              refine z_rI (run_V (pc := 61) (As := []) hX rc_17 ⟨q_936, q_939, q_13⟩ q_938 qs_25 hd_X12_full ⟨Nat.le_of_ble_eq_true rfl, Nat.le_of_ble_eq_true rfl⟩ (c_m_full hG s) rfl rfl (Nat.le_of_ble_eq_true rfl) dX12_note_61) (fun r20 s21 => ?_)
              exact z_retI (pc := 64) hX dX12_note_64
          · refine z_aload_n (pc := 46) hX dX12_note_46 rfl 0 rfl ?_
            refine z_rI (run_V (pc := 47) (As := []) hX rc_17 ⟨q_928, q_931, q_13⟩ q_930 qs_24 hd_X12_bad ⟨Nat.le_of_ble_eq_true rfl, Nat.le_of_ble_eq_true rfl⟩ (c_m_bad hG s) rfl rfl (Nat.le_of_ble_eq_true rfl) dX12_note_47) (fun r22 s23 => ?_)
            exact z_retI (pc := 50) hX dX12_note_50
theorem hd_X12_forget : yX12_forget.cls ≠ "java/lang/invoke/MethodHandle" ∧ yX12_forget.cls ≠ "java/lang/invoke/VarHandle" ∧ (parseMethodDescriptor yX12_forget.desc).map (fun d => d.parameters.length) = some 0 := by decide +kernel
def f_m_forget (s : Sto)  : Option (Int32 × Sto) :=
  lt (s 17 0 7) (fun v1_1 => lt (st s 17 0 7 (0 : Int32)) (fun s2 => some (v1_1, s2)))
set_option maxRecDepth 100000 in
set_option maxHeartbeats 4000000 in
theorem c_m_forget {G : Gb} {l : Launch} {o : Sto} {L : Lng} (hG : GA G) (s : Sto)   : CT G l (EM o L) pvI psI yX12_forget cX12_forget 2 (some .int) 0 0 [.ref (ad G 17 0)] s (f_m_forget s) := by
  refine CT.of hG (by decide) (Nat.le_of_ble_eq_true rfl) (fun X hX => ?_)
  have hX : OX G X l cX12_forget 2 "CrownTwoModel" (some .int) 0 0 := hX
  show ZR G X (EM o L) pvI psI 2 s [(0, .ref (ad G 17 0))] [] 0 _
  unfold f_m_forget
  refine z_aload_n (pc := 0) hX dX12_forget_0 rfl 0 rfl ?_
  refine gf_17_7M (pc := 1) hX q_819 dX12_forget_1 ?_
  refine z_lti (pc := 4) (fun v1_1 => ?_)
  refine z_istore_n (pc := 4) (ls' := [(1, .int v1_1), (0, .ref (ad G 17 0))]) hX dX12_forget_4 rfl (by decide) rfl ?_
  refine z_aload_n (pc := 5) hX dX12_forget_5 rfl 1 rfl ?_
  refine z_iconst (pc := 6) hX dX12_forget_6 ic_0 ?_
  refine pf_17_7M (pc := 7) hX q_819 dX12_forget_7 ?_
  refine z_lts (fun s2 => ?_)
  refine z_iload_n (pc := 10) hX dX12_forget_10 rfl 0 rfl ?_
  exact z_retI (pc := 11) hX dX12_forget_11
theorem hd_X12_isSo : yX12_isSo.cls ≠ "java/lang/invoke/MethodHandle" ∧ yX12_isSo.cls ≠ "java/lang/invoke/VarHandle" ∧ (parseMethodDescriptor yX12_isSo.desc).map (fun d => d.parameters.length) = some 4 := by decide +kernel
def l_m_isSo_6 (s : Sto) (x1 : Int32) (x2 : Int32) (x3 : Int32) (x4 : Int32) (rc3 : Int32 → Int32 → Option (Int32)) (v5_1 : Int32) (v6_2 : Int32) : Option (Int32) :=
  if (s 17 0 7) ≤ v6_2 then if v5_1 = (0 : Int32) ∨ v5_1 = (1 : Int32) then some v5_1 else none else if inb v6_2 6 then jn (fun v5_4 => rc3 v5_4 (v6_2 + (1 : Int32))) (fun j5 => if (s 23 0 (ix v6_2)) = x1 then if inb v6_2 6 then jn (fun t6 => jn (fun t8 => j5 t8) (fun j9 => jn (j9 (0 : Int32)) (fun j10 => if v5_1 = (0 : Int32) then j10 else if inb v6_2 6 then if inb v6_2 6 then bP (f_m_liftsBy x2 t6 (s 25 0 (ix v6_2)) (s 26 0 (ix v6_2))) (fun r11 => if inb v6_2 6 then jn (fun t12 => if r11 = t12 then j9 (1 : Int32) else j10) (fun j13 => if (s 27 0 (ix v6_2)) = (1 : Int32) then j13 (1 : Int32) else j13 (0 : Int32)) else none) else none else none))) (fun j7 => if (s 24 0 (ix v6_2)) = x3 then j7 x4 else if inb v6_2 6 then bP (f_m_heartOf s x1 (s 24 0 (ix v6_2))) (fun r14 => j7 r14) else none) else none else j5 v5_1) else none
def f_m_isSo (s : Sto) (x1 : Int32) (x2 : Int32) (x3 : Int32) (x4 : Int32) : Option (Int32) :=
  fx 1000 (l_m_isSo_6 s x1 x2 x3 x4) (fun _ _ => none) (1 : Int32) (0 : Int32)
set_option maxRecDepth 100000 in
set_option maxHeartbeats 4000000 in
theorem c_m_isSo {G : Gb} {l : Launch} {o : Sto} {L : Lng} (hG : GA G) (s : Sto) (x1 : Int32) (x2 : Int32) (x3 : Int32) (x4 : Int32)  : CT G l (EM o L) pvP (psP s) yX12_isSo cX12_isSo 8 (some .boolean) 2 45 [.ref (ad G 17 0), .int x1, .int x2, .int x3, .int x4] s (f_m_isSo s x1 x2 x3 x4) := by
  refine CT.of hG (by decide) (Nat.le_of_ble_eq_true rfl) (fun X hX => ?_)
  have hX : OX G X l cX12_isSo 8 "CrownTwoModel" (some .boolean) 2 45 := hX
  show ZR G X (EM o L) pvP (psP s) 8 s [(0, .ref (ad G 17 0)), (1, .int x1), (2, .int x2), (3, .int x3), (4, .int x4)] [] 0 _
  unfold f_m_isSo
  refine z_iconst (pc := 0) hX dX12_isSo_0 ic_1 ?_
  refine z_istore (pc := 1) (ls' := [(5, .int (1 : Int32)), (0, .ref (ad G 17 0)), (1, .int x1), (2, .int x2), (3, .int x3), (4, .int x4)]) hX dX12_isSo_1 (by decide) rfl ?_
  refine z_iconst (pc := 3) hX dX12_isSo_3 ic_0 ?_
  refine z_istore (pc := 4) (ls' := [(6, .int (0 : Int32)), (5, .int (1 : Int32)), (0, .ref (ad G 17 0)), (1, .int x1), (2, .int x2), (3, .int x3), (4, .int x4)]) hX dX12_isSo_4 (by decide) rfl ?_
  refine z_ls [2, 3, 4, 5, 6, 1, 0] rfl ?_
  refine (fx_P (F := l_m_isSo_6 s x1 x2 x3 x4) (b := (fun _ _ => none)) (fun rc3 => ∀ (v5_1 : Int32) (v6_2 : Int32), ZR G X (EM o L) pvP (psP s) 8 s [(0, .ref (ad G 17 0)), (1, .int x1), (2, .int x2), (3, .int x3), (4, .int x4), (5, .int v5_1), (6, .int v6_2)] [] 6 (rc3 v5_1 v6_2)) ?_ ?_ 1000) (1 : Int32) (0 : Int32)
  · intro v5_1 v6_2; exact z_none
  · intro rc3 hrc3 v5_1 v6_2
    unfold l_m_isSo_6
    refine z_iload (pc := 6) hX dX12_isSo_6 6 rfl ?_
    refine z_aload_n (pc := 8) hX dX12_isSo_8 rfl 0 rfl ?_
    refine gf_17_7M (pc := 9) hX q_819 dX12_isSo_9 ?_
    refine z_icmp_ge (pc := 12) (tgt := 113) hX dX12_isSo_12 rfl ?_ ?_
    · refine z_iload (pc := 113) hX dX12_isSo_113 5 rfl ?_
      exact z_retPz (pc := 115) hX dX12_isSo_115
    · refine z_aload_n (pc := 15) hX dX12_isSo_15 rfl 0 rfl ?_
      refine gr_17_12M (pc := 16) hX q_824 dX12_isSo_16 ?_
      refine z_iload (pc := 19) hX dX12_isSo_19 6 rfl ?_
      refine ia_23M (pc := 21) hX dX12_isSo_21 ?_
      refine z_iload_n (pc := 22) hX dX12_isSo_22 rfl 1 rfl ?_
      refine z_jn (P := fun j5 => ∀ (v5_4 : Int32), ZR G X (EM o L) pvP (psP s) 8 s [(0, .ref (ad G 17 0)), (1, .int x1), (2, .int x2), (3, .int x3), (4, .int x4), (5, .int v5_4), (6, .int v6_2)] [] 107 (j5 v5_4)) ?_ ?_
      · intro v5_4
        refine z_iinc (pc := 107) (n := 6) (v := v6_2 + (1 : Int32)) (ls' := [(6, .int (v6_2 + (1 : Int32))), (0, .ref (ad G 17 0)), (1, .int x1), (2, .int x2), (3, .int x3), (4, .int x4), (5, .int v5_4)]) hX dX12_isSo_107 rfl (by rw [show Int32.ofInt (1) = 1 by decide +kernel]) (by decide) rfl ?_
        refine z_goto (pc := 110) (tgt := 6) hX dX12_isSo_110 rfl ?_
        exact z_ls [1, 2, 3, 4, 5, 6, 0] rfl (hrc3 v5_4 (v6_2 + (1 : Int32)))
      · intro j5 hj5
        refine z_icmp_ne (pc := 23) (tgt := 107) hX dX12_isSo_23 rfl ?_ ?_
        · exact z_ls [0, 1, 2, 3, 4, 5, 6] rfl (hj5 v5_1)
        · refine z_aload_n (pc := 26) hX dX12_isSo_26 rfl 0 rfl ?_
          refine gr_17_13M (pc := 27) hX q_825 dX12_isSo_27 ?_
          refine z_iload (pc := 30) hX dX12_isSo_30 6 rfl ?_
          refine ia_24M (pc := 32) hX dX12_isSo_32 ?_
          refine z_iload_n (pc := 33) hX dX12_isSo_33 rfl 3 rfl ?_
          refine z_jn (P := fun j7 => ∀ (t6 : Int32), ZR G X (EM o L) pvP (psP s) 8 s [(0, .ref (ad G 17 0)), (1, .int x1), (2, .int x2), (3, .int x3), (4, .int x4), (5, .int v5_1), (6, .int v6_2)] [.int t6] 54 (j7 t6)) ?_ ?_
          · intro t6
            refine z_istore (pc := 54) (ls' := [(7, .int t6), (0, .ref (ad G 17 0)), (1, .int x1), (2, .int x2), (3, .int x3), (4, .int x4), (5, .int v5_1), (6, .int v6_2)]) hX dX12_isSo_54 (by decide) rfl ?_
            refine z_iload (pc := 56) hX dX12_isSo_56 6 rfl ?_
            refine z_jn (P := fun j9 => ∀ (t8 : Int32), ZR G X (EM o L) pvP (psP s) 8 s [(0, .ref (ad G 17 0)), (1, .int x1), (2, .int x2), (3, .int x3), (4, .int x4), (6, .int v6_2)] [.int t8] 105 (j9 t8)) ?_ ?_
            · intro t8
              refine z_istore (pc := 105) (ls' := [(5, .int t8), (0, .ref (ad G 17 0)), (1, .int x1), (2, .int x2), (3, .int x3), (4, .int x4), (6, .int v6_2)]) hX dX12_isSo_105 (by decide) rfl ?_
              exact z_ls [1, 2, 3, 4, 5, 0, 6] rfl (hj5 t8)
            · intro j9 hj9
              refine z_jn (P := fun j10 => ZR G X (EM o L) pvP (psP s) 8 s [(0, .ref (ad G 17 0)), (1, .int x1), (2, .int x2), (3, .int x3), (4, .int x4), (6, .int v6_2)] [] 104 (j10)) ?_ ?_
              · skip
                refine z_iconst (pc := 104) hX dX12_isSo_104 ic_0 ?_
                exact z_ls [0, 1, 2, 3, 4, 5] rfl (hj9 (0 : Int32))
              · intro j10 hj10
                refine z_if_eq (pc := 58) (tgt := 104) hX dX12_isSo_58 rfl ?_ ?_
                · exact z_ls [1, 2, 3, 4, 5, 7] rfl (hj10)
                · refine z_iload_n (pc := 61) hX dX12_isSo_61 rfl 3 rfl ?_
                  refine z_iload (pc := 62) hX dX12_isSo_62 0 rfl ?_
                  refine z_aload_n (pc := 64) hX dX12_isSo_64 rfl 1 rfl ?_
                  refine gr_17_14M (pc := 65) hX q_826 dX12_isSo_65 ?_
                  refine z_iload (pc := 68) hX dX12_isSo_68 7 rfl ?_
                  refine ia_25M (pc := 70) hX dX12_isSo_70 ?_
                  refine z_aload_n (pc := 71) hX dX12_isSo_71 rfl 1 rfl ?_
                  refine gr_17_15M (pc := 72) hX q_827 dX12_isSo_72 ?_
                  refine z_iload (pc := 75) hX dX12_isSo_75 7 rfl ?_
                  refine ia_26M (pc := 77) hX dX12_isSo_77 ?_
                  refine z_rP (run_S (pc := 78) (As := [.int x2, .int t6, .int (s 25 0 (ix v6_2)), .int (s 26 0 (ix v6_2))]) hX ⟨q_1068, q_1070, q_13⟩ q_1069 hd_X12_liftsBy ⟨Nat.le_of_ble_eq_true rfl, Nat.le_of_ble_eq_true rfl⟩ (c_m_liftsBy hG s x2 t6 (s 25 0 (ix v6_2)) (s 26 0 (ix v6_2))) rfl rfl (Nat.le_of_ble_eq_true rfl) dX12_isSo_78) (fun r11 => ?_)
                  refine z_aload_n (pc := 81) hX dX12_isSo_81 rfl 1 rfl ?_
                  refine gr_17_16M (pc := 82) hX q_828 dX12_isSo_82 ?_
                  refine z_iload (pc := 85) hX dX12_isSo_85 7 rfl ?_
                  refine ia_27M (pc := 87) hX dX12_isSo_87 ?_
                  refine z_iconst (pc := 88) hX dX12_isSo_88 ic_1 ?_
                  refine z_jn (P := fun j13 => ∀ (t12 : Int32), ZR G X (EM o L) pvP (psP s) 8 s [(0, .ref (ad G 17 0)), (1, .int x1), (2, .int x2), (3, .int x3), (4, .int x4), (6, .int v6_2)] [.int t12, .int r11] 97 (j13 t12)) ?_ ?_
                  · intro t12
                    refine z_icmp_ne (pc := 97) (tgt := 104) hX dX12_isSo_97 rfl ?_ ?_
                    · exact z_ls [0, 1, 2, 3, 4, 5] rfl (hj10)
                    · refine z_iconst (pc := 100) hX dX12_isSo_100 ic_1 ?_
                      refine z_goto (pc := 101) (tgt := 105) hX dX12_isSo_101 rfl ?_
                      exact z_ls [0, 1, 2, 3, 4, 5] rfl (hj9 (1 : Int32))
                  · intro j13 hj13
                    refine z_icmp_ne (pc := 89) (tgt := 96) hX dX12_isSo_89 rfl ?_ ?_
                    · refine z_iconst (pc := 96) hX dX12_isSo_96 ic_0 ?_
                      exact z_ls [1, 2, 3, 4, 5, 7] rfl (hj13 (0 : Int32))
                    · refine z_iconst (pc := 92) hX dX12_isSo_92 ic_1 ?_
                      refine z_goto (pc := 93) (tgt := 97) hX dX12_isSo_93 rfl ?_
                      exact z_ls [1, 2, 3, 4, 5, 7] rfl (hj13 (1 : Int32))
          · intro j7 hj7
            refine z_icmp_ne (pc := 34) (tgt := 42) hX dX12_isSo_34 rfl ?_ ?_
            · refine z_aload_n (pc := 42) hX dX12_isSo_42 rfl 0 rfl ?_
              refine z_iload_n (pc := 43) hX dX12_isSo_43 rfl 1 rfl ?_
              refine z_aload_n (pc := 44) hX dX12_isSo_44 rfl 0 rfl ?_
              refine gr_17_13M (pc := 45) hX q_825 dX12_isSo_45 ?_
              refine z_iload (pc := 48) hX dX12_isSo_48 6 rfl ?_
              refine ia_24M (pc := 50) hX dX12_isSo_50 ?_
              refine z_rP (run_V (pc := 51) (As := [.int x1, .int (s 24 0 (ix v6_2))]) hX rc_17 ⟨q_1064, q_1067, q_13⟩ q_1066 qs_49 hd_X12_heartOf ⟨Nat.le_of_ble_eq_true rfl, Nat.le_of_ble_eq_true rfl⟩ (c_m_heartOf hG s x1 (s 24 0 (ix v6_2))) rfl rfl (Nat.le_of_ble_eq_true rfl) dX12_isSo_51) (fun r14 => ?_)
              exact z_ls [0, 1, 2, 3, 4, 5, 6] rfl (hj7 r14)
            · refine z_iload (pc := 37) hX dX12_isSo_37 4 rfl ?_
              refine z_goto (pc := 39) (tgt := 54) hX dX12_isSo_39 rfl ?_
              exact z_ls [0, 1, 2, 3, 4, 5, 6] rfl (hj7 x4)
theorem hd_X12_kindsOf : yX12_kindsOf.cls ≠ "java/lang/invoke/MethodHandle" ∧ yX12_kindsOf.cls ≠ "java/lang/invoke/VarHandle" ∧ (parseMethodDescriptor yX12_kindsOf.desc).map (fun d => d.parameters.length) = some 1 := by decide +kernel
def l_m_kindsOf_4 (s : Sto) (x1 : Int32) (rc3 : Int32 → Int32 → Option (Int32)) (v2_1 : Int32) (v3_2 : Int32) : Option (Int32) :=
  if (5 : Int32) < v3_2 then some v2_1 else bP (f_m_isSo s x1 v3_2 (-1 : Int32) (0 : Int32)) (fun r4 => jn (fun t5 => lt (v2_1 ||| t5) (fun v2_7 => rc3 v2_7 (v3_2 + (1 : Int32)))) (fun j6 => if r4 = (0 : Int32) then j6 (0 : Int32) else j6 ((1 : Int32) <<< (v3_2 &&& 31))))
def f_m_kindsOf (s : Sto) (x1 : Int32) : Option (Int32) :=
  fx 1000 (l_m_kindsOf_4 s x1) (fun _ _ => none) (0 : Int32) (0 : Int32)
set_option maxRecDepth 100000 in
set_option maxHeartbeats 4000000 in
theorem c_m_kindsOf {G : Gb} {l : Launch} {o : Sto} {L : Lng} (hG : GA G) (s : Sto) (x1 : Int32)  : CT G l (EM o L) pvP (psP s) yX12_kindsOf cX12_kindsOf 4 (some .int) 3 72 [.ref (ad G 17 0), .int x1] s (f_m_kindsOf s x1) := by
  refine CT.of hG (by decide) (Nat.le_of_ble_eq_true rfl) (fun X hX => ?_)
  have hX : OX G X l cX12_kindsOf 4 "CrownTwoModel" (some .int) 3 72 := hX
  show ZR G X (EM o L) pvP (psP s) 4 s [(0, .ref (ad G 17 0)), (1, .int x1)] [] 0 _
  unfold f_m_kindsOf
  refine z_iconst (pc := 0) hX dX12_kindsOf_0 ic_0 ?_
  refine z_istore_n (pc := 1) (ls' := [(2, .int (0 : Int32)), (0, .ref (ad G 17 0)), (1, .int x1)]) hX dX12_kindsOf_1 rfl (by decide) rfl ?_
  refine z_iconst (pc := 2) hX dX12_kindsOf_2 ic_0 ?_
  refine z_istore_n (pc := 3) (ls' := [(3, .int (0 : Int32)), (2, .int (0 : Int32)), (0, .ref (ad G 17 0)), (1, .int x1)]) hX dX12_kindsOf_3 rfl (by decide) rfl ?_
  refine z_ls [2, 3, 1, 0] rfl ?_
  refine (fx_P (F := l_m_kindsOf_4 s x1) (b := (fun _ _ => none)) (fun rc3 => ∀ (v2_1 : Int32) (v3_2 : Int32), ZR G X (EM o L) pvP (psP s) 4 s [(0, .ref (ad G 17 0)), (1, .int x1), (2, .int v2_1), (3, .int v3_2)] [] 4 (rc3 v2_1 v3_2)) ?_ ?_ 1000) (0 : Int32) (0 : Int32)
  · intro v2_1 v3_2; exact z_none
  · intro rc3 hrc3 v2_1 v3_2
    unfold l_m_kindsOf_4
    refine z_iload_n (pc := 4) hX dX12_kindsOf_4 rfl 3 rfl ?_
    refine z_iconst (pc := 5) hX dX12_kindsOf_5 ic_5 ?_
    refine z_icmp_gt (pc := 6) (tgt := 36) hX dX12_kindsOf_6 rfl ?_ ?_
    · refine z_iload_n (pc := 36) hX dX12_kindsOf_36 rfl 2 rfl ?_
      exact z_retP (pc := 37) hX dX12_kindsOf_37
    · refine z_iload_n (pc := 9) hX dX12_kindsOf_9 rfl 2 rfl ?_
      refine z_aload_n (pc := 10) hX dX12_kindsOf_10 rfl 0 rfl ?_
      refine z_iload_n (pc := 11) hX dX12_kindsOf_11 rfl 1 rfl ?_
      refine z_iload_n (pc := 12) hX dX12_kindsOf_12 rfl 3 rfl ?_
      refine z_iconst (pc := 13) hX dX12_kindsOf_13 ic_m1 ?_
      refine z_iconst (pc := 14) hX dX12_kindsOf_14 ic_0 ?_
      refine z_rP (run_V (pc := 15) (As := [.int x1, .int v3_2, .int (-1 : Int32), .int (0 : Int32)]) hX rc_17 ⟨q_1193, q_1196, q_13⟩ q_1195 qs_63 hd_X12_isSo ⟨Nat.le_of_ble_eq_true rfl, Nat.le_of_ble_eq_true rfl⟩ (c_m_isSo hG s x1 v3_2 (-1 : Int32) (0 : Int32)) rfl rfl (Nat.le_of_ble_eq_true rfl) dX12_kindsOf_15) (fun r4 => ?_)
      refine z_jn (P := fun j6 => ∀ (t5 : Int32), ZR G X (EM o L) pvP (psP s) 4 s [(0, .ref (ad G 17 0)), (1, .int x1), (3, .int v3_2)] [.int t5, .int v2_1] 28 (j6 t5)) ?_ ?_
      · intro t5
        refine z_ior (pc := 28) hX dX12_kindsOf_28 ?_
        refine z_lti (pc := 29) (fun v2_7 => ?_)
        refine z_istore_n (pc := 29) (ls' := [(2, .int v2_7), (0, .ref (ad G 17 0)), (1, .int x1), (3, .int v3_2)]) hX dX12_kindsOf_29 rfl (by decide) rfl ?_
        refine z_iinc (pc := 30) (n := 3) (v := v3_2 + (1 : Int32)) (ls' := [(3, .int (v3_2 + (1 : Int32))), (2, .int v2_7), (0, .ref (ad G 17 0)), (1, .int x1)]) hX dX12_kindsOf_30 rfl (by rw [show Int32.ofInt (1) = 1 by decide +kernel]) (by decide) rfl ?_
        refine z_goto (pc := 33) (tgt := 4) hX dX12_kindsOf_33 rfl ?_
        exact z_ls [2, 3, 1, 0] rfl (hrc3 v2_7 (v3_2 + (1 : Int32)))
      · intro j6 hj6
        refine z_if_eq (pc := 18) (tgt := 27) hX dX12_kindsOf_18 rfl ?_ ?_
        · refine z_iconst (pc := 27) hX dX12_kindsOf_27 ic_0 ?_
          exact z_ls [0, 1, 3] rfl (hj6 (0 : Int32))
        · refine z_iconst (pc := 21) hX dX12_kindsOf_21 ic_1 ?_
          refine z_iload_n (pc := 22) hX dX12_kindsOf_22 rfl 3 rfl ?_
          refine z_ishl (pc := 23) hX dX12_kindsOf_23 ?_
          refine z_goto (pc := 24) (tgt := 28) hX dX12_kindsOf_24 rfl ?_
          exact z_ls [0, 1, 3] rfl (hj6 ((1 : Int32) <<< (v3_2 &&& 31)))
theorem hd_X12_is : yX12_is.cls ≠ "java/lang/invoke/MethodHandle" ∧ yX12_is.cls ≠ "java/lang/invoke/VarHandle" ∧ (parseMethodDescriptor yX12_is.desc).map (fun d => d.parameters.length) = some 1 := by decide +kernel
def f_m_is (s : Sto) (x1 : Int32) : Option (Int32 × Sto) :=
  bP (f_m_isHeir s x1) (fun r1 => if r1 = (0 : Int32) then bI (f_m_bad s) (fun r2 s3 => some (r2, s3)) else bP (f_m_kindsOf s x1) (fun r4 => some (r4, s)))
set_option maxRecDepth 100000 in
set_option maxHeartbeats 4000000 in
theorem c_m_is {G : Gb} {l : Launch} {o : Sto} {L : Lng} (hG : GA G) (s : Sto) (x1 : Int32)  : CT G l (EM o L) pvI psI yX12_is cX12_is 2 (some .int) 4 95 [.ref (ad G 17 0), .int x1] s (f_m_is s x1) := by
  refine CT.of hG (by decide) (Nat.le_of_ble_eq_true rfl) (fun X hX => ?_)
  have hX : OX G X l cX12_is 2 "CrownTwoModel" (some .int) 4 95 := hX
  show ZR G X (EM o L) pvI psI 2 s [(0, .ref (ad G 17 0)), (1, .int x1)] [] 0 _
  unfold f_m_is
  refine z_aload_n (pc := 0) hX dX12_is_0 rfl 0 rfl ?_
  refine z_iload_n (pc := 1) hX dX12_is_1 rfl 1 rfl ?_
  refine z_rP (run_V (pc := 2) (As := [.int x1]) hX rc_17 ⟨q_1022, q_1025, q_13⟩ q_1024 qs_41 hd_X12_isHeir ⟨Nat.le_of_ble_eq_true rfl, Nat.le_of_ble_eq_true rfl⟩ (c_m_isHeir hG s x1) rfl rfl (Nat.le_of_ble_eq_true rfl) dX12_is_2) (fun r1 => ?_)
  refine z_if_eq (pc := 5) (tgt := 16) hX dX12_is_5 rfl ?_ ?_
  · refine z_aload_n (pc := 16) hX dX12_is_16 rfl 0 rfl ?_
    refine z_rI (run_V (pc := 17) (As := []) hX rc_17 ⟨q_928, q_931, q_13⟩ q_930 qs_24 hd_X12_bad ⟨Nat.le_of_ble_eq_true rfl, Nat.le_of_ble_eq_true rfl⟩ (c_m_bad hG s) rfl rfl (Nat.le_of_ble_eq_true rfl) dX12_is_17) (fun r2 s3 => ?_)
    exact z_retI (pc := 20) hX dX12_is_20
  · refine z_aload_n (pc := 8) hX dX12_is_8 rfl 0 rfl ?_
    refine z_iload_n (pc := 9) hX dX12_is_9 rfl 1 rfl ?_
    refine z_rP (run_V (pc := 10) (As := [.int x1]) hX rc_17 ⟨q_1189, q_1192, q_13⟩ q_1191 qs_62 hd_X12_kindsOf ⟨Nat.le_of_ble_eq_true rfl, Nat.le_of_ble_eq_true rfl⟩ (c_m_kindsOf hG s x1) rfl rfl (Nat.le_of_ble_eq_true rfl) dX12_is_10) (fun r4 => ?_)
    refine z_goto (pc := 13) (tgt := 20) hX dX12_is_13 rfl ?_
    exact z_retI (pc := 20) hX dX12_is_20
theorem hd_X12_heart : yX12_heart.cls ≠ "java/lang/invoke/MethodHandle" ∧ yX12_heart.cls ≠ "java/lang/invoke/VarHandle" ∧ (parseMethodDescriptor yX12_heart.desc).map (fun d => d.parameters.length) = some 2 := by decide +kernel
def l_m_heart_25 (s : Sto) (x1 : Int32) (x2 : Int32) (rc7 : Int32 → Int32 → Option (Int32 × Sto)) (v3_5 : Int32) (v4_6 : Int32) : Option (Int32 × Sto) :=
  if (3 : Int32) ≤ v4_6 then some (v3_5, s) else if inb x1 6 then bP (f_m_isSo s x1 (s 19 0 (ix x1)) x2 v4_6) (fun r8 => jn (fun t9 => lt (v3_5 ||| t9) (fun v3_11 => rc7 v3_11 (v4_6 + (1 : Int32)))) (fun j10 => if r8 = (0 : Int32) then j10 (0 : Int32) else j10 ((1 : Int32) <<< (v4_6 &&& 31)))) else none
def f_m_heart (s : Sto) (x1 : Int32) (x2 : Int32) : Option (Int32 × Sto) :=
  bP (f_m_isHeir s x1) (fun r1 => if r1 = (0 : Int32) then bI (f_m_bad s) (fun r2 s3 => some (r2, s3)) else bP (f_m_isAct x2) (fun r4 => if r4 = (0 : Int32) then bI (f_m_bad s) (fun r12 s13 => some (r12, s13)) else fx 1000 (l_m_heart_25 s x1 x2) (fun _ _ => none) (0 : Int32) (0 : Int32)))
set_option maxRecDepth 100000 in
set_option maxHeartbeats 4000000 in
theorem c_m_heart {G : Gb} {l : Launch} {o : Sto} {L : Lng} (hG : GA G) (s : Sto) (x1 : Int32) (x2 : Int32)  : CT G l (EM o L) pvI psI yX12_heart cX12_heart 5 (some .int) 3 72 [.ref (ad G 17 0), .int x1, .int x2] s (f_m_heart s x1 x2) := by
  refine CT.of hG (by decide) (Nat.le_of_ble_eq_true rfl) (fun X hX => ?_)
  have hX : OX G X l cX12_heart 5 "CrownTwoModel" (some .int) 3 72 := hX
  show ZR G X (EM o L) pvI psI 5 s [(0, .ref (ad G 17 0)), (1, .int x1), (2, .int x2)] [] 0 _
  unfold f_m_heart
  refine z_aload_n (pc := 0) hX dX12_heart_0 rfl 0 rfl ?_
  refine z_iload_n (pc := 1) hX dX12_heart_1 rfl 1 rfl ?_
  refine z_rP (run_V (pc := 2) (As := [.int x1]) hX rc_17 ⟨q_1022, q_1025, q_13⟩ q_1024 qs_41 hd_X12_isHeir ⟨Nat.le_of_ble_eq_true rfl, Nat.le_of_ble_eq_true rfl⟩ (c_m_isHeir hG s x1) rfl rfl (Nat.le_of_ble_eq_true rfl) dX12_heart_2) (fun r1 => ?_)
  refine z_if_eq (pc := 5) (tgt := 15) hX dX12_heart_5 rfl ?_ ?_
  · refine z_aload_n (pc := 15) hX dX12_heart_15 rfl 0 rfl ?_
    refine z_rI (run_V (pc := 16) (As := []) hX rc_17 ⟨q_928, q_931, q_13⟩ q_930 qs_24 hd_X12_bad ⟨Nat.le_of_ble_eq_true rfl, Nat.le_of_ble_eq_true rfl⟩ (c_m_bad hG s) rfl rfl (Nat.le_of_ble_eq_true rfl) dX12_heart_16) (fun r2 s3 => ?_)
    exact z_retI (pc := 19) hX dX12_heart_19
  · refine z_iload_n (pc := 8) hX dX12_heart_8 rfl 2 rfl ?_
    refine z_rP (run_S (pc := 9) (As := [.int x2]) hX ⟨q_1038, q_1040, q_13⟩ q_1039 hd_X12_isAct ⟨Nat.le_of_ble_eq_true rfl, Nat.le_of_ble_eq_true rfl⟩ (c_m_isAct hG s x2) rfl rfl (Nat.le_of_ble_eq_true rfl) dX12_heart_9) (fun r4 => ?_)
    refine z_if_ne (pc := 12) (tgt := 20) hX dX12_heart_12 rfl ?_ ?_
    · refine z_iconst (pc := 20) hX dX12_heart_20 ic_0 ?_
      refine z_istore_n (pc := 21) (ls' := [(3, .int (0 : Int32)), (0, .ref (ad G 17 0)), (1, .int x1), (2, .int x2)]) hX dX12_heart_21 rfl (by decide) rfl ?_
      refine z_iconst (pc := 22) hX dX12_heart_22 ic_0 ?_
      refine z_istore (pc := 23) (ls' := [(4, .int (0 : Int32)), (3, .int (0 : Int32)), (0, .ref (ad G 17 0)), (1, .int x1), (2, .int x2)]) hX dX12_heart_23 (by decide) rfl ?_
      refine z_ls [2, 3, 4, 1, 0] rfl ?_
      refine (fx_P (F := l_m_heart_25 s x1 x2) (b := (fun _ _ => none)) (fun rc7 => ∀ (v3_5 : Int32) (v4_6 : Int32), ZR G X (EM o L) pvI psI 5 s [(0, .ref (ad G 17 0)), (1, .int x1), (2, .int x2), (3, .int v3_5), (4, .int v4_6)] [] 25 (rc7 v3_5 v4_6)) ?_ ?_ 1000) (0 : Int32) (0 : Int32)
      · intro v3_5 v4_6; exact z_none
      · intro rc7 hrc7 v3_5 v4_6
        unfold l_m_heart_25
        refine z_iload (pc := 25) hX dX12_heart_25 4 rfl ?_
        refine z_iconst (pc := 27) hX dX12_heart_27 ic_3 ?_
        refine z_icmp_ge (pc := 28) (tgt := 65) hX dX12_heart_28 rfl ?_ ?_
        · refine z_iload_n (pc := 65) hX dX12_heart_65 rfl 3 rfl ?_
          exact z_retI (pc := 66) hX dX12_heart_66
        · refine z_iload_n (pc := 31) hX dX12_heart_31 rfl 3 rfl ?_
          refine z_aload_n (pc := 32) hX dX12_heart_32 rfl 0 rfl ?_
          refine z_iload_n (pc := 33) hX dX12_heart_33 rfl 1 rfl ?_
          refine z_aload_n (pc := 34) hX dX12_heart_34 rfl 0 rfl ?_
          refine gr_17_8M (pc := 35) hX q_820 dX12_heart_35 ?_
          refine z_iload_n (pc := 38) hX dX12_heart_38 rfl 1 rfl ?_
          refine ia_19M (pc := 39) hX dX12_heart_39 ?_
          refine z_iload_n (pc := 40) hX dX12_heart_40 rfl 2 rfl ?_
          refine z_iload (pc := 41) hX dX12_heart_41 4 rfl ?_
          refine z_rP (run_V (pc := 43) (As := [.int x1, .int (s 19 0 (ix x1)), .int x2, .int v4_6]) hX rc_17 ⟨q_1193, q_1196, q_13⟩ q_1195 qs_63 hd_X12_isSo ⟨Nat.le_of_ble_eq_true rfl, Nat.le_of_ble_eq_true rfl⟩ (c_m_isSo hG s x1 (s 19 0 (ix x1)) x2 v4_6) rfl rfl (Nat.le_of_ble_eq_true rfl) dX12_heart_43) (fun r8 => ?_)
          refine z_jn (P := fun j10 => ∀ (t9 : Int32), ZR G X (EM o L) pvI psI 5 s [(0, .ref (ad G 17 0)), (1, .int x1), (2, .int x2), (4, .int v4_6)] [.int t9, .int v3_5] 57 (j10 t9)) ?_ ?_
          · intro t9
            refine z_ior (pc := 57) hX dX12_heart_57 ?_
            refine z_lti (pc := 58) (fun v3_11 => ?_)
            refine z_istore_n (pc := 58) (ls' := [(3, .int v3_11), (0, .ref (ad G 17 0)), (1, .int x1), (2, .int x2), (4, .int v4_6)]) hX dX12_heart_58 rfl (by decide) rfl ?_
            refine z_iinc (pc := 59) (n := 4) (v := v4_6 + (1 : Int32)) (ls' := [(4, .int (v4_6 + (1 : Int32))), (3, .int v3_11), (0, .ref (ad G 17 0)), (1, .int x1), (2, .int x2)]) hX dX12_heart_59 rfl (by rw [show Int32.ofInt (1) = 1 by decide +kernel]) (by decide) rfl ?_
            refine z_goto (pc := 62) (tgt := 25) hX dX12_heart_62 rfl ?_
            exact z_ls [2, 3, 4, 1, 0] rfl (hrc7 v3_11 (v4_6 + (1 : Int32)))
          · intro j10 hj10
            refine z_if_eq (pc := 46) (tgt := 56) hX dX12_heart_46 rfl ?_ ?_
            · refine z_iconst (pc := 56) hX dX12_heart_56 ic_0 ?_
              exact z_ls [0, 1, 2, 4] rfl (hj10 (0 : Int32))
            · refine z_iconst (pc := 49) hX dX12_heart_49 ic_1 ?_
              refine z_iload (pc := 50) hX dX12_heart_50 4 rfl ?_
              refine z_ishl (pc := 52) hX dX12_heart_52 ?_
              refine z_goto (pc := 53) (tgt := 57) hX dX12_heart_53 rfl ?_
              exact z_ls [0, 1, 2, 4] rfl (hj10 ((1 : Int32) <<< (v4_6 &&& 31)))
    · refine z_aload_n (pc := 15) hX dX12_heart_15 rfl 0 rfl ?_
      refine z_rI (run_V (pc := 16) (As := []) hX rc_17 ⟨q_928, q_931, q_13⟩ q_930 qs_24 hd_X12_bad ⟨Nat.le_of_ble_eq_true rfl, Nat.le_of_ble_eq_true rfl⟩ (c_m_bad hG s) rfl rfl (Nat.le_of_ble_eq_true rfl) dX12_heart_16) (fun r12 s13 => ?_)
      exact z_retI (pc := 19) hX dX12_heart_19
theorem hd_X12_greaterPart : yX12_greaterPart.cls ≠ "java/lang/invoke/MethodHandle" ∧ yX12_greaterPart.cls ≠ "java/lang/invoke/VarHandle" ∧ (parseMethodDescriptor yX12_greaterPart.desc).map (fun d => d.parameters.length) = some 3 := by decide +kernel
def l_m_greaterPart_9 (s : Sto) (x1 : Int32) (x2 : Int32) (x3 : Int32) (K3 : Int32 → Int32 → Option (Int32)) (rc7 : Int32 → Int32 → Int32 → Option (Int32)) (v4_4 : Int32) (v5_5 : Int32) (v6_6 : Int32) : Option (Int32) :=
  if (5 : Int32) < v6_6 then K3 v4_4 v5_5 else bP (f_m_has x3 v6_6) (fun r8 => jn (fun v4_9 v5_10 => rc7 v4_9 v5_10 (v6_6 + (1 : Int32))) (fun j11 => if r8 = (0 : Int32) then j11 v4_4 v5_5 else bP (f_m_heartOf s x1 x2) (fun r12 => bP (f_m_liftsBy v6_6 r12 (s 17 0 2) (s 17 0 3)) (fun r13 => jn (fun t14 => lt (v4_4 + t14) (fun v4_16 => jn (fun t17 => lt (v5_5 + t17) (fun v5_19 => j11 v4_16 v5_19)) (fun j18 => if r13 = (0 : Int32) then j18 (1 : Int32) else j18 (0 : Int32)))) (fun j15 => if r13 = (0 : Int32) then j15 (0 : Int32) else j15 (1 : Int32))))))
def f_m_greaterPart (s : Sto) (x1 : Int32) (x2 : Int32) (x3 : Int32) : Option (Int32) :=
  jn (fun v4_1 v5_2 => if v4_1 ≤ v5_2 then some v5_2 else some v4_1) (fun K3 => fx 1000 (l_m_greaterPart_9 s x1 x2 x3 K3) (fun _ _ _ => none) (0 : Int32) (0 : Int32) (0 : Int32))
set_option maxRecDepth 100000 in
set_option maxHeartbeats 4000000 in
theorem c_m_greaterPart {G : Gb} {l : Launch} {o : Sto} {L : Lng} (hG : GA G) (s : Sto) (x1 : Int32) (x2 : Int32) (x3 : Int32)  : CT G l (EM o L) pvP (psP s) yX12_greaterPart cX12_greaterPart 8 (some .int) 2 45 [.ref (ad G 17 0), .int x1, .int x2, .int x3] s (f_m_greaterPart s x1 x2 x3) := by
  refine CT.of hG (by decide) (Nat.le_of_ble_eq_true rfl) (fun X hX => ?_)
  have hX : OX G X l cX12_greaterPart 8 "CrownTwoModel" (some .int) 2 45 := hX
  show ZR G X (EM o L) pvP (psP s) 8 s [(0, .ref (ad G 17 0)), (1, .int x1), (2, .int x2), (3, .int x3)] [] 0 _
  unfold f_m_greaterPart
  refine z_iconst (pc := 0) hX dX12_greaterPart_0 ic_0 ?_
  refine z_istore (pc := 1) (ls' := [(4, .int (0 : Int32)), (0, .ref (ad G 17 0)), (1, .int x1), (2, .int x2), (3, .int x3)]) hX dX12_greaterPart_1 (by decide) rfl ?_
  refine z_iconst (pc := 3) hX dX12_greaterPart_3 ic_0 ?_
  refine z_istore (pc := 4) (ls' := [(5, .int (0 : Int32)), (4, .int (0 : Int32)), (0, .ref (ad G 17 0)), (1, .int x1), (2, .int x2), (3, .int x3)]) hX dX12_greaterPart_4 (by decide) rfl ?_
  refine z_iconst (pc := 6) hX dX12_greaterPart_6 ic_0 ?_
  refine z_istore (pc := 7) (ls' := [(6, .int (0 : Int32)), (5, .int (0 : Int32)), (4, .int (0 : Int32)), (0, .ref (ad G 17 0)), (1, .int x1), (2, .int x2), (3, .int x3)]) hX dX12_greaterPart_7 (by decide) rfl ?_
  refine z_jn (P := fun K3 => ∀ (v4_1 : Int32) (v5_2 : Int32), ZR G X (EM o L) pvP (psP s) 8 s [(4, .int v4_1), (5, .int v5_2)] [] 81 (K3 v4_1 v5_2)) ?_ ?_
  · intro v4_1 v5_2
    refine z_iload (pc := 81) hX dX12_greaterPart_81 0 rfl ?_
    refine z_iload (pc := 83) hX dX12_greaterPart_83 1 rfl ?_
    refine z_icmp_le (pc := 85) (tgt := 93) hX dX12_greaterPart_85 rfl ?_ ?_
    · refine z_iload (pc := 93) hX dX12_greaterPart_93 1 rfl ?_
      exact z_retP (pc := 95) hX dX12_greaterPart_95
    · refine z_iload (pc := 88) hX dX12_greaterPart_88 0 rfl ?_
      refine z_goto (pc := 90) (tgt := 95) hX dX12_greaterPart_90 rfl ?_
      exact z_retP (pc := 95) hX dX12_greaterPart_95
  · intro K3 hK3
    refine z_ls [3, 4, 5, 6, 2, 1, 0] rfl ?_
    refine (fx_P (F := l_m_greaterPart_9 s x1 x2 x3 K3) (b := (fun _ _ _ => none)) (fun rc7 => ∀ (v4_4 : Int32) (v5_5 : Int32) (v6_6 : Int32), ZR G X (EM o L) pvP (psP s) 8 s [(0, .ref (ad G 17 0)), (1, .int x1), (2, .int x2), (3, .int x3), (4, .int v4_4), (5, .int v5_5), (6, .int v6_6)] [] 9 (rc7 v4_4 v5_5 v6_6)) ?_ ?_ 1000) (0 : Int32) (0 : Int32) (0 : Int32)
    · intro v4_4 v5_5 v6_6; exact z_none
    · intro rc7 hrc7 v4_4 v5_5 v6_6
      unfold l_m_greaterPart_9
      refine z_iload (pc := 9) hX dX12_greaterPart_9 6 rfl ?_
      refine z_iconst (pc := 11) hX dX12_greaterPart_11 ic_5 ?_
      refine z_icmp_gt (pc := 12) (tgt := 81) hX dX12_greaterPart_12 rfl ?_ ?_
      · exact z_ls [4, 5] rfl (hK3 v4_4 v5_5)
      · refine z_iload_n (pc := 15) hX dX12_greaterPart_15 rfl 3 rfl ?_
        refine z_iload (pc := 16) hX dX12_greaterPart_16 6 rfl ?_
        refine z_rP (run_S (pc := 18) (As := [.int x3, .int v6_6]) hX ⟨q_1045, q_1047, q_13⟩ q_1046 hd_X12_has ⟨Nat.le_of_ble_eq_true rfl, Nat.le_of_ble_eq_true rfl⟩ (c_m_has hG s x3 v6_6) rfl rfl (Nat.le_of_ble_eq_true rfl) dX12_greaterPart_18) (fun r8 => ?_)
        refine z_jn (P := fun j11 => ∀ (v4_9 : Int32) (v5_10 : Int32), ZR G X (EM o L) pvP (psP s) 8 s [(0, .ref (ad G 17 0)), (1, .int x1), (2, .int x2), (3, .int x3), (4, .int v4_9), (5, .int v5_10), (6, .int v6_6)] [] 75 (j11 v4_9 v5_10)) ?_ ?_
        · intro v4_9 v5_10
          refine z_iinc (pc := 75) (n := 6) (v := v6_6 + (1 : Int32)) (ls' := [(6, .int (v6_6 + (1 : Int32))), (0, .ref (ad G 17 0)), (1, .int x1), (2, .int x2), (3, .int x3), (4, .int v4_9), (5, .int v5_10)]) hX dX12_greaterPart_75 rfl (by rw [show Int32.ofInt (1) = 1 by decide +kernel]) (by decide) rfl ?_
          refine z_goto (pc := 78) (tgt := 9) hX dX12_greaterPart_78 rfl ?_
          exact z_ls [1, 2, 3, 4, 5, 6, 0] rfl (hrc7 v4_9 v5_10 (v6_6 + (1 : Int32)))
        · intro j11 hj11
          refine z_if_eq (pc := 21) (tgt := 75) hX dX12_greaterPart_21 rfl ?_ ?_
          · exact z_ls [0, 1, 2, 3, 4, 5, 6] rfl (hj11 v4_4 v5_5)
          · refine z_iload (pc := 24) hX dX12_greaterPart_24 6 rfl ?_
            refine z_aload_n (pc := 26) hX dX12_greaterPart_26 rfl 0 rfl ?_
            refine z_iload_n (pc := 27) hX dX12_greaterPart_27 rfl 1 rfl ?_
            refine z_iload_n (pc := 28) hX dX12_greaterPart_28 rfl 2 rfl ?_
            refine z_rP (run_V (pc := 29) (As := [.int x1, .int x2]) hX rc_17 ⟨q_1064, q_1067, q_13⟩ q_1066 qs_49 hd_X12_heartOf ⟨Nat.le_of_ble_eq_true rfl, Nat.le_of_ble_eq_true rfl⟩ (c_m_heartOf hG s x1 x2) rfl rfl (Nat.le_of_ble_eq_true rfl) dX12_greaterPart_29) (fun r12 => ?_)
            refine z_aload_n (pc := 32) hX dX12_greaterPart_32 rfl 0 rfl ?_
            refine gf_17_2M (pc := 33) hX q_814 dX12_greaterPart_33 ?_
            refine z_aload_n (pc := 36) hX dX12_greaterPart_36 rfl 0 rfl ?_
            refine gf_17_3M (pc := 37) hX q_815 dX12_greaterPart_37 ?_
            refine z_rP (run_S (pc := 40) (As := [.int v6_6, .int r12, .int (s 17 0 2), .int (s 17 0 3)]) hX ⟨q_1068, q_1070, q_13⟩ q_1069 hd_X12_liftsBy ⟨Nat.le_of_ble_eq_true rfl, Nat.le_of_ble_eq_true rfl⟩ (c_m_liftsBy hG s v6_6 r12 (s 17 0 2) (s 17 0 3)) rfl rfl (Nat.le_of_ble_eq_true rfl) dX12_greaterPart_40) (fun r13 => ?_)
            refine z_istore (pc := 43) (ls' := [(7, .int r13), (0, .ref (ad G 17 0)), (1, .int x1), (2, .int x2), (3, .int x3), (4, .int v4_4), (5, .int v5_5), (6, .int v6_6)]) hX dX12_greaterPart_43 (by decide) rfl ?_
            refine z_iload (pc := 45) hX dX12_greaterPart_45 5 rfl ?_
            refine z_iload (pc := 47) hX dX12_greaterPart_47 0 rfl ?_
            refine z_jn (P := fun j15 => ∀ (t14 : Int32), ZR G X (EM o L) pvP (psP s) 8 s [(0, .ref (ad G 17 0)), (1, .int x1), (2, .int x2), (3, .int x3), (5, .int v5_5), (6, .int v6_6), (7, .int r13)] [.int t14, .int v4_4] 57 (j15 t14)) ?_ ?_
            · intro t14
              refine z_iadd (pc := 57) hX dX12_greaterPart_57 ?_
              refine z_lti (pc := 58) (fun v4_16 => ?_)
              refine z_istore (pc := 58) (ls' := [(4, .int v4_16), (0, .ref (ad G 17 0)), (1, .int x1), (2, .int x2), (3, .int x3), (5, .int v5_5), (6, .int v6_6), (7, .int r13)]) hX dX12_greaterPart_58 (by decide) rfl ?_
              refine z_iload (pc := 60) hX dX12_greaterPart_60 5 rfl ?_
              refine z_iload (pc := 62) hX dX12_greaterPart_62 7 rfl ?_
              refine z_jn (P := fun j18 => ∀ (t17 : Int32), ZR G X (EM o L) pvP (psP s) 8 s [(0, .ref (ad G 17 0)), (1, .int x1), (2, .int x2), (3, .int x3), (4, .int v4_16), (6, .int v6_6)] [.int t17, .int v5_5] 72 (j18 t17)) ?_ ?_
              · intro t17
                refine z_iadd (pc := 72) hX dX12_greaterPart_72 ?_
                refine z_lti (pc := 73) (fun v5_19 => ?_)
                refine z_istore (pc := 73) (ls' := [(5, .int v5_19), (0, .ref (ad G 17 0)), (1, .int x1), (2, .int x2), (3, .int x3), (4, .int v4_16), (6, .int v6_6)]) hX dX12_greaterPart_73 (by decide) rfl ?_
                exact z_ls [1, 2, 3, 4, 5, 0, 6] rfl (hj11 v4_16 v5_19)
              · intro j18 hj18
                refine z_if_eq (pc := 64) (tgt := 71) hX dX12_greaterPart_64 rfl ?_ ?_
                · refine z_iconst (pc := 71) hX dX12_greaterPart_71 ic_1 ?_
                  exact z_ls [1, 2, 3, 4, 0, 6] rfl (hj18 (1 : Int32))
                · refine z_iconst (pc := 67) hX dX12_greaterPart_67 ic_0 ?_
                  refine z_goto (pc := 68) (tgt := 72) hX dX12_greaterPart_68 rfl ?_
                  exact z_ls [1, 2, 3, 4, 0, 6] rfl (hj18 (0 : Int32))
            · intro j15 hj15
              refine z_if_eq (pc := 49) (tgt := 56) hX dX12_greaterPart_49 rfl ?_ ?_
              · refine z_iconst (pc := 56) hX dX12_greaterPart_56 ic_0 ?_
                exact z_ls [1, 2, 3, 4, 6, 7, 0] rfl (hj15 (0 : Int32))
              · refine z_iconst (pc := 52) hX dX12_greaterPart_52 ic_1 ?_
                refine z_goto (pc := 53) (tgt := 57) hX dX12_greaterPart_53 rfl ?_
                exact z_ls [1, 2, 3, 4, 6, 7, 0] rfl (hj15 (1 : Int32))
theorem hd_X12_next : yX12_next.cls ≠ "java/lang/invoke/MethodHandle" ∧ yX12_next.cls ≠ "java/lang/invoke/VarHandle" ∧ (parseMethodDescriptor yX12_next.desc).map (fun d => d.parameters.length) = some 1 := by decide +kernel
def l_m_next_32 (s : Sto) (x1 : Int32) (r2 : Int32) (rc7 : Int32 → Int32 → Option (Int32 × Sto)) (v3_5 : Int32) (v4_6 : Int32) : Option (Int32 × Sto) :=
  if (8 : Int32) ≤ v4_6 then some (v3_5, s) else if r2 = (0 : Int32) then some (v3_5, s) else bP (f_m_greaterPart s x1 v4_6 r2) (fun r8 => bP (f_m_greaterPart s x1 v3_5 r2) (fun r9 => jn (fun t10 => rc7 t10 (v4_6 + (1 : Int32))) (fun j11 => if r9 ≤ r8 then j11 v3_5 else j11 v4_6)))
def f_m_next (s : Sto) (x1 : Int32) : Option (Int32 × Sto) :=
  bP (f_m_isHeir s x1) (fun r1 => if r1 = (0 : Int32) then bI (f_m_bad s) (fun r12 s13 => some (r12, s13)) else bP (f_m_kindsOf s x1) (fun r2 => jn (fun t3 => fx 1000 (l_m_next_32 s x1 r2) (fun _ _ => none) t3 (1 : Int32)) (fun j4 => if r2 = (0 : Int32) then j4 (-1 : Int32) else j4 (0 : Int32))))
set_option maxRecDepth 100000 in
set_option maxHeartbeats 4000000 in
theorem c_m_next {G : Gb} {l : Launch} {o : Sto} {L : Lng} (hG : GA G) (s : Sto) (x1 : Int32)  : CT G l (EM o L) pvI psI yX12_next cX12_next 5 (some .int) 4 95 [.ref (ad G 17 0), .int x1] s (f_m_next s x1) := by
  refine CT.of hG (by decide) (Nat.le_of_ble_eq_true rfl) (fun X hX => ?_)
  have hX : OX G X l cX12_next 5 "CrownTwoModel" (some .int) 4 95 := hX
  show ZR G X (EM o L) pvI psI 5 s [(0, .ref (ad G 17 0)), (1, .int x1)] [] 0 _
  unfold f_m_next
  refine z_aload_n (pc := 0) hX dX12_next_0 rfl 0 rfl ?_
  refine z_iload_n (pc := 1) hX dX12_next_1 rfl 1 rfl ?_
  refine z_rP (run_V (pc := 2) (As := [.int x1]) hX rc_17 ⟨q_1022, q_1025, q_13⟩ q_1024 qs_41 hd_X12_isHeir ⟨Nat.le_of_ble_eq_true rfl, Nat.le_of_ble_eq_true rfl⟩ (c_m_isHeir hG s x1) rfl rfl (Nat.le_of_ble_eq_true rfl) dX12_next_2) (fun r1 => ?_)
  refine z_if_ne (pc := 5) (tgt := 13) hX dX12_next_5 rfl ?_ ?_
  · refine z_aload_n (pc := 13) hX dX12_next_13 rfl 0 rfl ?_
    refine z_iload_n (pc := 14) hX dX12_next_14 rfl 1 rfl ?_
    refine z_rP (run_V (pc := 15) (As := [.int x1]) hX rc_17 ⟨q_1189, q_1192, q_13⟩ q_1191 qs_62 hd_X12_kindsOf ⟨Nat.le_of_ble_eq_true rfl, Nat.le_of_ble_eq_true rfl⟩ (c_m_kindsOf hG s x1) rfl rfl (Nat.le_of_ble_eq_true rfl) dX12_next_15) (fun r2 => ?_)
    refine z_istore_n (pc := 18) (ls' := [(2, .int r2), (0, .ref (ad G 17 0)), (1, .int x1)]) hX dX12_next_18 rfl (by decide) rfl ?_
    refine z_iload_n (pc := 19) hX dX12_next_19 rfl 0 rfl ?_
    refine z_jn (P := fun j4 => ∀ (t3 : Int32), ZR G X (EM o L) pvI psI 5 s [(0, .ref (ad G 17 0)), (1, .int x1), (2, .int r2)] [.int t3] 28 (j4 t3)) ?_ ?_
    · intro t3
      refine z_istore_n (pc := 28) (ls' := [(3, .int t3), (0, .ref (ad G 17 0)), (1, .int x1), (2, .int r2)]) hX dX12_next_28 rfl (by decide) rfl ?_
      refine z_iconst (pc := 29) hX dX12_next_29 ic_1 ?_
      refine z_istore (pc := 30) (ls' := [(4, .int (1 : Int32)), (3, .int t3), (0, .ref (ad G 17 0)), (1, .int x1), (2, .int r2)]) hX dX12_next_30 (by decide) rfl ?_
      refine z_ls [2, 3, 4, 1, 0] rfl ?_
      refine (fx_P (F := l_m_next_32 s x1 r2) (b := (fun _ _ => none)) (fun rc7 => ∀ (v3_5 : Int32) (v4_6 : Int32), ZR G X (EM o L) pvI psI 5 s [(0, .ref (ad G 17 0)), (1, .int x1), (2, .int r2), (3, .int v3_5), (4, .int v4_6)] [] 32 (rc7 v3_5 v4_6)) ?_ ?_ 1000) t3 (1 : Int32)
      · intro v3_5 v4_6; exact z_none
      · intro rc7 hrc7 v3_5 v4_6
        unfold l_m_next_32
        refine z_iload (pc := 32) hX dX12_next_32 4 rfl ?_
        refine z_bipush (pc := 34) hX dX12_next_34 bp_8 ?_
        refine z_icmp_ge (pc := 36) (tgt := 74) hX dX12_next_36 rfl ?_ ?_
        · refine z_iload_n (pc := 74) hX dX12_next_74 rfl 3 rfl ?_
          exact z_retI (pc := 75) hX dX12_next_75
        · refine z_iload_n (pc := 39) hX dX12_next_39 rfl 2 rfl ?_
          refine z_if_eq (pc := 40) (tgt := 74) hX dX12_next_40 rfl ?_ ?_
          · refine z_iload_n (pc := 74) hX dX12_next_74 rfl 3 rfl ?_
            exact z_retI (pc := 75) hX dX12_next_75
          · refine z_aload_n (pc := 43) hX dX12_next_43 rfl 0 rfl ?_
            refine z_iload_n (pc := 44) hX dX12_next_44 rfl 1 rfl ?_
            refine z_iload (pc := 45) hX dX12_next_45 4 rfl ?_
            refine z_iload_n (pc := 47) hX dX12_next_47 rfl 2 rfl ?_
            refine z_rP (run_V (pc := 48) (As := [.int x1, .int v4_6, .int r2]) hX rc_17 ⟨q_1205, q_1208, q_13⟩ q_1207 qs_64 hd_X12_greaterPart ⟨Nat.le_of_ble_eq_true rfl, Nat.le_of_ble_eq_true rfl⟩ (c_m_greaterPart hG s x1 v4_6 r2) rfl rfl (Nat.le_of_ble_eq_true rfl) dX12_next_48) (fun r8 => ?_)
            refine z_aload_n (pc := 51) hX dX12_next_51 rfl 0 rfl ?_
            refine z_iload_n (pc := 52) hX dX12_next_52 rfl 1 rfl ?_
            refine z_iload_n (pc := 53) hX dX12_next_53 rfl 3 rfl ?_
            refine z_iload_n (pc := 54) hX dX12_next_54 rfl 2 rfl ?_
            refine z_rP (run_V (pc := 55) (As := [.int x1, .int v3_5, .int r2]) hX rc_17 ⟨q_1205, q_1208, q_13⟩ q_1207 qs_64 hd_X12_greaterPart ⟨Nat.le_of_ble_eq_true rfl, Nat.le_of_ble_eq_true rfl⟩ (c_m_greaterPart hG s x1 v3_5 r2) rfl rfl (Nat.le_of_ble_eq_true rfl) dX12_next_55) (fun r9 => ?_)
            refine z_jn (P := fun j11 => ∀ (t10 : Int32), ZR G X (EM o L) pvI psI 5 s [(0, .ref (ad G 17 0)), (1, .int x1), (2, .int r2), (4, .int v4_6)] [.int t10] 67 (j11 t10)) ?_ ?_
            · intro t10
              refine z_istore_n (pc := 67) (ls' := [(3, .int t10), (0, .ref (ad G 17 0)), (1, .int x1), (2, .int r2), (4, .int v4_6)]) hX dX12_next_67 rfl (by decide) rfl ?_
              refine z_iinc (pc := 68) (n := 4) (v := v4_6 + (1 : Int32)) (ls' := [(4, .int (v4_6 + (1 : Int32))), (3, .int t10), (0, .ref (ad G 17 0)), (1, .int x1), (2, .int r2)]) hX dX12_next_68 rfl (by rw [show Int32.ofInt (1) = 1 by decide +kernel]) (by decide) rfl ?_
              refine z_goto (pc := 71) (tgt := 32) hX dX12_next_71 rfl ?_
              exact z_ls [2, 3, 4, 1, 0] rfl (hrc7 t10 (v4_6 + (1 : Int32)))
            · intro j11 hj11
              refine z_icmp_ge (pc := 58) (tgt := 66) hX dX12_next_58 rfl ?_ ?_
              · refine z_iload_n (pc := 66) hX dX12_next_66 rfl 3 rfl ?_
                exact z_ls [0, 1, 2, 4] rfl (hj11 v3_5)
              · refine z_iload (pc := 61) hX dX12_next_61 4 rfl ?_
                refine z_goto (pc := 63) (tgt := 67) hX dX12_next_63 rfl ?_
                exact z_ls [0, 1, 2, 4] rfl (hj11 v4_6)
    · intro j4 hj4
      refine z_if_ne (pc := 20) (tgt := 27) hX dX12_next_20 rfl ?_ ?_
      · refine z_iconst (pc := 27) hX dX12_next_27 ic_0 ?_
        exact z_ls [1, 2, 0] rfl (hj4 (0 : Int32))
      · refine z_iconst (pc := 23) hX dX12_next_23 ic_m1 ?_
        refine z_goto (pc := 24) (tgt := 28) hX dX12_next_24 rfl ?_
        exact z_ls [1, 2, 0] rfl (hj4 (-1 : Int32))
  · refine z_aload_n (pc := 8) hX dX12_next_8 rfl 0 rfl ?_
    refine z_rI (run_V (pc := 9) (As := []) hX rc_17 ⟨q_928, q_931, q_13⟩ q_930 qs_24 hd_X12_bad ⟨Nat.le_of_ble_eq_true rfl, Nat.le_of_ble_eq_true rfl⟩ (c_m_bad hG s) rfl rfl (Nat.le_of_ble_eq_true rfl) dX12_next_9) (fun r12 s13 => ?_)
    exact z_retI (pc := 12) hX dX12_next_12
theorem hd_X12_gets : yX12_gets.cls ≠ "java/lang/invoke/MethodHandle" ∧ yX12_gets.cls ≠ "java/lang/invoke/VarHandle" ∧ (parseMethodDescriptor yX12_gets.desc).map (fun d => d.parameters.length) = some 4 := by decide +kernel
def f_m_gets (s : Sto) (x1 : Int32) (x2 : Int32) (x3 : Int32) (x4 : Int32) : Option (Int32) :=
  bP (f_m_heartOf s x1 x2) (fun r1 => jn (if x3 = (0 : Int32) then if x4 = (0 : Int32) then some (0 : Int32) else some (1 : Int32) else some (-1 : Int32)) (fun j2 => if x3 = (0 : Int32) then j2 else if x4 = (0 : Int32) then j2 else if r1 = (0 : Int32) then some (2 : Int32) else if r1 = (1 : Int32) then some (-2 : Int32) else some (0 : Int32)))
set_option maxRecDepth 100000 in
set_option maxHeartbeats 4000000 in
theorem c_m_gets {G : Gb} {l : Launch} {o : Sto} {L : Lng} (hG : GA G) (s : Sto) (x1 : Int32) (x2 : Int32) (x3 : Int32) (x4 : Int32)  : CT G l (EM o L) pvP (psP s) yX12_gets cX12_gets 6 (some .int) 2 45 [.ref (ad G 17 0), .int x1, .int x2, .int x3, .int x4] s (f_m_gets s x1 x2 x3 x4) := by
  refine CT.of hG (by decide) (Nat.le_of_ble_eq_true rfl) (fun X hX => ?_)
  have hX : OX G X l cX12_gets 6 "CrownTwoModel" (some .int) 2 45 := hX
  show ZR G X (EM o L) pvP (psP s) 6 s [(0, .ref (ad G 17 0)), (1, .int x1), (2, .int x2), (3, .int x3), (4, .int x4)] [] 0 _
  unfold f_m_gets
  refine z_aload_n (pc := 0) hX dX12_gets_0 rfl 0 rfl ?_
  refine z_iload_n (pc := 1) hX dX12_gets_1 rfl 1 rfl ?_
  refine z_iload_n (pc := 2) hX dX12_gets_2 rfl 2 rfl ?_
  refine z_rP (run_V (pc := 3) (As := [.int x1, .int x2]) hX rc_17 ⟨q_1064, q_1067, q_13⟩ q_1066 qs_49 hd_X12_heartOf ⟨Nat.le_of_ble_eq_true rfl, Nat.le_of_ble_eq_true rfl⟩ (c_m_heartOf hG s x1 x2) rfl rfl (Nat.le_of_ble_eq_true rfl) dX12_gets_3) (fun r1 => ?_)
  refine z_istore (pc := 6) (ls' := [(5, .int r1), (0, .ref (ad G 17 0)), (1, .int x1), (2, .int x2), (3, .int x3), (4, .int x4)]) hX dX12_gets_6 (by decide) rfl ?_
  refine z_iload_n (pc := 8) hX dX12_gets_8 rfl 4 rfl ?_
  refine z_jn (P := fun j2 => ZR G X (EM o L) pvP (psP s) 6 s [(3, .int x3), (4, .int x4)] [] 41 (j2)) ?_ ?_
  · skip
    refine z_iload_n (pc := 41) hX dX12_gets_41 rfl 0 rfl ?_
    refine z_if_eq (pc := 42) (tgt := 49) hX dX12_gets_42 rfl ?_ ?_
    · refine z_iload (pc := 49) hX dX12_gets_49 1 rfl ?_
      refine z_if_eq (pc := 51) (tgt := 58) hX dX12_gets_51 rfl ?_ ?_
      · refine z_iconst (pc := 58) hX dX12_gets_58 ic_0 ?_
        exact z_retP (pc := 59) hX dX12_gets_59
      · refine z_iconst (pc := 54) hX dX12_gets_54 ic_1 ?_
        refine z_goto (pc := 55) (tgt := 59) hX dX12_gets_55 rfl ?_
        exact z_retP (pc := 59) hX dX12_gets_59
    · refine z_iconst (pc := 45) hX dX12_gets_45 ic_m1 ?_
      refine z_goto (pc := 46) (tgt := 59) hX dX12_gets_46 rfl ?_
      exact z_retP (pc := 59) hX dX12_gets_59
  · intro j2 hj2
    refine z_if_eq (pc := 9) (tgt := 41) hX dX12_gets_9 rfl ?_ ?_
    · exact z_ls [4, 5] rfl (hj2)
    · refine z_iload (pc := 12) hX dX12_gets_12 5 rfl ?_
      refine z_if_eq (pc := 14) (tgt := 41) hX dX12_gets_14 rfl ?_ ?_
      · exact z_ls [4, 5] rfl (hj2)
      · refine z_iload (pc := 17) hX dX12_gets_17 0 rfl ?_
        refine z_if_ne (pc := 19) (tgt := 26) hX dX12_gets_19 rfl ?_ ?_
        · refine z_iload (pc := 26) hX dX12_gets_26 0 rfl ?_
          refine z_iconst (pc := 28) hX dX12_gets_28 ic_1 ?_
          refine z_icmp_ne (pc := 29) (tgt := 37) hX dX12_gets_29 rfl ?_ ?_
          · refine z_iconst (pc := 37) hX dX12_gets_37 ic_0 ?_
            refine z_goto (pc := 38) (tgt := 59) hX dX12_gets_38 rfl ?_
            exact z_retP (pc := 59) hX dX12_gets_59
          · refine z_bipush (pc := 32) hX dX12_gets_32 bp_m2 ?_
            refine z_goto (pc := 34) (tgt := 59) hX dX12_gets_34 rfl ?_
            exact z_retP (pc := 59) hX dX12_gets_59
        · refine z_iconst (pc := 22) hX dX12_gets_22 ic_2 ?_
          refine z_goto (pc := 23) (tgt := 59) hX dX12_gets_23 rfl ?_
          exact z_retP (pc := 59) hX dX12_gets_59
theorem hd_X12_spite : yX12_spite.cls ≠ "java/lang/invoke/MethodHandle" ∧ yX12_spite.cls ≠ "java/lang/invoke/VarHandle" ∧ (parseMethodDescriptor yX12_spite.desc).map (fun d => d.parameters.length) = some 1 := by decide +kernel
def l_m_spite_28 (s : Sto) (x1 : Int32) (rc5 : Int32 → Int32 → Option (Int32 × Sto)) (v2_3 : Int32) (v3_4 : Int32) : Option (Int32 × Sto) :=
  if (4 : Int32) ≤ v3_4 then some (v2_3, s) else jn (fun t6 => jn (fun t8 => bP (f_m_gets s (s 17 0 5) x1 t6 t8) (fun r10 => jn (fun t11 => bP (f_m_gets s (s 17 0 5) x1 t11 t8) (fun r13 => jn (fun t14 => jn (fun t16 => lt (v2_3 ||| t16) (fun v2_18 => rc5 v2_18 (v3_4 + (1 : Int32)))) (fun j17 => if t14 = (0 : Int32) then j17 (0 : Int32) else j17 ((1 : Int32) <<< (v3_4 &&& 31)))) (fun j15 => jn (j15 (0 : Int32)) (fun j19 => if r10 < r13 then j19 else bP (f_m_gets s (s 17 0 6) x1 t8 t6) (fun r20 => jn (fun t21 => bP (f_m_gets s (s 17 0 6) x1 t21 t6) (fun r23 => if r20 < r23 then j19 else j15 (1 : Int32))) (fun j22 => if t8 = (0 : Int32) then j22 (1 : Int32) else j22 (0 : Int32))))))) (fun j12 => if t6 = (0 : Int32) then j12 (1 : Int32) else j12 (0 : Int32)))) (fun j9 => if v3_4 ≤ (1 : Int32) then j9 (0 : Int32) else j9 (1 : Int32))) (fun j7 => if (v3_4 - v3_4 / (2 : Int32) * (2 : Int32)) = (1 : Int32) then j7 (1 : Int32) else j7 (0 : Int32))
def f_m_spite (s : Sto) (x1 : Int32) : Option (Int32 × Sto) :=
  bP (f_m_isAct x1) (fun r1 => if r1 = (0 : Int32) then bI (f_m_bad s) (fun r26 s27 => some (r26, s27)) else bP (f_m_isPair s) (fun r2 => if r2 = (0 : Int32) then bI (f_m_no s) (fun r24 s25 => some (r24, s25)) else fx 1000 (l_m_spite_28 s x1) (fun _ _ => none) (0 : Int32) (0 : Int32)))
set_option maxRecDepth 100000 in
set_option maxHeartbeats 4000000 in
theorem c_m_spite {G : Gb} {l : Launch} {o : Sto} {L : Lng} (hG : GA G) (s : Sto) (x1 : Int32)  : CT G l (EM o L) pvI psI yX12_spite cX12_spite 7 (some .int) 3 70 [.ref (ad G 17 0), .int x1] s (f_m_spite s x1) := by
  refine CT.of hG (by decide) (Nat.le_of_ble_eq_true rfl) (fun X hX => ?_)
  have hX : OX G X l cX12_spite 7 "CrownTwoModel" (some .int) 3 70 := hX
  show ZR G X (EM o L) pvI psI 7 s [(0, .ref (ad G 17 0)), (1, .int x1)] [] 0 _
  unfold f_m_spite
  refine z_iload_n (pc := 0) hX dX12_spite_0 rfl 1 rfl ?_
  refine z_rP (run_S (pc := 1) (As := [.int x1]) hX ⟨q_1038, q_1040, q_13⟩ q_1039 hd_X12_isAct ⟨Nat.le_of_ble_eq_true rfl, Nat.le_of_ble_eq_true rfl⟩ (c_m_isAct hG s x1) rfl rfl (Nat.le_of_ble_eq_true rfl) dX12_spite_1) (fun r1 => ?_)
  refine z_if_ne (pc := 4) (tgt := 12) hX dX12_spite_4 rfl ?_ ?_
  · refine z_aload_n (pc := 12) hX dX12_spite_12 rfl 0 rfl ?_
    refine z_rP (run_V (pc := 13) (As := []) hX rc_17 ⟨q_1041, q_1044, q_13⟩ q_1043 qs_44 hd_X12_isPair ⟨Nat.le_of_ble_eq_true rfl, Nat.le_of_ble_eq_true rfl⟩ (c_m_isPair hG s) rfl rfl (Nat.le_of_ble_eq_true rfl) dX12_spite_13) (fun r2 => ?_)
    refine z_if_ne (pc := 16) (tgt := 24) hX dX12_spite_16 rfl ?_ ?_
    · refine z_iconst (pc := 24) hX dX12_spite_24 ic_0 ?_
      refine z_istore_n (pc := 25) (ls' := [(2, .int (0 : Int32)), (0, .ref (ad G 17 0)), (1, .int x1)]) hX dX12_spite_25 rfl (by decide) rfl ?_
      refine z_iconst (pc := 26) hX dX12_spite_26 ic_0 ?_
      refine z_istore_n (pc := 27) (ls' := [(3, .int (0 : Int32)), (2, .int (0 : Int32)), (0, .ref (ad G 17 0)), (1, .int x1)]) hX dX12_spite_27 rfl (by decide) rfl ?_
      refine z_ls [2, 3, 1, 0] rfl ?_
      refine (fx_P (F := l_m_spite_28 s x1) (b := (fun _ _ => none)) (fun rc5 => ∀ (v2_3 : Int32) (v3_4 : Int32), ZR G X (EM o L) pvI psI 7 s [(0, .ref (ad G 17 0)), (1, .int x1), (2, .int v2_3), (3, .int v3_4)] [] 28 (rc5 v2_3 v3_4)) ?_ ?_ 1000) (0 : Int32) (0 : Int32)
      · intro v2_3 v3_4; exact z_none
      · intro rc5 hrc5 v2_3 v3_4
        unfold l_m_spite_28
        refine z_iload_n (pc := 28) hX dX12_spite_28 rfl 3 rfl ?_
        refine z_iconst (pc := 29) hX dX12_spite_29 ic_4 ?_
        refine z_icmp_ge (pc := 30) (tgt := 161) hX dX12_spite_30 rfl ?_ ?_
        · refine z_iload_n (pc := 161) hX dX12_spite_161 rfl 2 rfl ?_
          exact z_retI (pc := 162) hX dX12_spite_162
        · refine z_iload_n (pc := 33) hX dX12_spite_33 rfl 3 rfl ?_
          refine z_iconst (pc := 34) hX dX12_spite_34 ic_2 ?_
          refine z_iremc (pc := 35) hX dX12_spite_35 (by decide +kernel) ?_
          refine z_iconst (pc := 36) hX dX12_spite_36 ic_1 ?_
          refine z_jn (P := fun j7 => ∀ (t6 : Int32), ZR G X (EM o L) pvI psI 7 s [(0, .ref (ad G 17 0)), (1, .int x1), (2, .int v2_3), (3, .int v3_4)] [.int t6] 45 (j7 t6)) ?_ ?_
          · intro t6
            refine z_istore (pc := 45) (ls' := [(4, .int t6), (0, .ref (ad G 17 0)), (1, .int x1), (2, .int v2_3), (3, .int v3_4)]) hX dX12_spite_45 (by decide) rfl ?_
            refine z_iload_n (pc := 47) hX dX12_spite_47 rfl 4 rfl ?_
            refine z_iconst (pc := 48) hX dX12_spite_48 ic_1 ?_
            refine z_jn (P := fun j9 => ∀ (t8 : Int32), ZR G X (EM o L) pvI psI 7 s [(0, .ref (ad G 17 0)), (1, .int x1), (2, .int v2_3), (3, .int v3_4), (4, .int t6)] [.int t8] 57 (j9 t8)) ?_ ?_
            · intro t8
              refine z_istore (pc := 57) (ls' := [(5, .int t8), (0, .ref (ad G 17 0)), (1, .int x1), (2, .int v2_3), (3, .int v3_4), (4, .int t6)]) hX dX12_spite_57 (by decide) rfl ?_
              refine z_aload_n (pc := 59) hX dX12_spite_59 rfl 1 rfl ?_
              refine z_aload_n (pc := 60) hX dX12_spite_60 rfl 1 rfl ?_
              refine gf_17_5M (pc := 61) hX q_817 dX12_spite_61 ?_
              refine z_iload_n (pc := 64) hX dX12_spite_64 rfl 2 rfl ?_
              refine z_iload (pc := 65) hX dX12_spite_65 5 rfl ?_
              refine z_iload (pc := 67) hX dX12_spite_67 0 rfl ?_
              refine z_rP (run_V (pc := 69) (As := [.int (s 17 0 5), .int x1, .int t6, .int t8]) hX rc_17 ⟨q_1213, q_1216, q_13⟩ q_1215 qs_65 hd_X12_gets ⟨Nat.le_of_ble_eq_true rfl, Nat.le_of_ble_eq_true rfl⟩ (c_m_gets hG s (s 17 0 5) x1 t6 t8) rfl rfl (Nat.le_of_ble_eq_true rfl) dX12_spite_69) (fun r10 => ?_)
              refine z_aload_n (pc := 72) hX dX12_spite_72 rfl 1 rfl ?_
              refine z_aload_n (pc := 73) hX dX12_spite_73 rfl 1 rfl ?_
              refine gf_17_5M (pc := 74) hX q_817 dX12_spite_74 ?_
              refine z_iload_n (pc := 77) hX dX12_spite_77 rfl 2 rfl ?_
              refine z_iload (pc := 78) hX dX12_spite_78 5 rfl ?_
              refine z_jn (P := fun j12 => ∀ (t11 : Int32), ZR G X (EM o L) pvI psI 7 s [(0, .ref (ad G 17 0)), (1, .int x1), (2, .int v2_3), (3, .int v3_4), (4, .int t6), (5, .int t8)] [.int t11, .int x1, .int (s 17 0 5), .ref (ad G 17 0), .int r10] 88 (j12 t11)) ?_ ?_
              · intro t11
                refine z_iload (pc := 88) hX dX12_spite_88 5 rfl ?_
                refine z_rP (run_V (pc := 90) (As := [.int (s 17 0 5), .int x1, .int t11, .int t8]) hX rc_17 ⟨q_1213, q_1216, q_13⟩ q_1215 qs_65 hd_X12_gets ⟨Nat.le_of_ble_eq_true rfl, Nat.le_of_ble_eq_true rfl⟩ (c_m_gets hG s (s 17 0 5) x1 t11 t8) rfl rfl (Nat.le_of_ble_eq_true rfl) dX12_spite_90) (fun r13 => ?_)
                refine z_jn (P := fun j15 => ∀ (t14 : Int32), ZR G X (EM o L) pvI psI 7 s [(0, .ref (ad G 17 0)), (1, .int x1), (2, .int v2_3), (3, .int v3_4)] [.int t14] 138 (j15 t14)) ?_ ?_
                · intro t14
                  refine z_istore (pc := 138) (ls' := [(6, .int t14), (0, .ref (ad G 17 0)), (1, .int x1), (2, .int v2_3), (3, .int v3_4)]) hX dX12_spite_138 (by decide) rfl ?_
                  refine z_iload_n (pc := 140) hX dX12_spite_140 rfl 3 rfl ?_
                  refine z_iload (pc := 141) hX dX12_spite_141 0 rfl ?_
                  refine z_jn (P := fun j17 => ∀ (t16 : Int32), ZR G X (EM o L) pvI psI 7 s [(0, .ref (ad G 17 0)), (1, .int x1), (3, .int v3_4)] [.int t16, .int v2_3] 153 (j17 t16)) ?_ ?_
                  · intro t16
                    refine z_ior (pc := 153) hX dX12_spite_153 ?_
                    refine z_lti (pc := 154) (fun v2_18 => ?_)
                    refine z_istore_n (pc := 154) (ls' := [(2, .int v2_18), (0, .ref (ad G 17 0)), (1, .int x1), (3, .int v3_4)]) hX dX12_spite_154 rfl (by decide) rfl ?_
                    refine z_iinc (pc := 155) (n := 3) (v := v3_4 + (1 : Int32)) (ls' := [(3, .int (v3_4 + (1 : Int32))), (2, .int v2_18), (0, .ref (ad G 17 0)), (1, .int x1)]) hX dX12_spite_155 rfl (by rw [show Int32.ofInt (1) = 1 by decide +kernel]) (by decide) rfl ?_
                    refine z_goto (pc := 158) (tgt := 28) hX dX12_spite_158 rfl ?_
                    exact z_ls [2, 3, 1, 0] rfl (hrc5 v2_18 (v3_4 + (1 : Int32)))
                  · intro j17 hj17
                    refine z_if_eq (pc := 143) (tgt := 152) hX dX12_spite_143 rfl ?_ ?_
                    · refine z_iconst (pc := 152) hX dX12_spite_152 ic_0 ?_
                      exact z_ls [1, 2, 4] rfl (hj17 (0 : Int32))
                    · refine z_iconst (pc := 146) hX dX12_spite_146 ic_1 ?_
                      refine z_iload_n (pc := 147) hX dX12_spite_147 rfl 4 rfl ?_
                      refine z_ishl (pc := 148) hX dX12_spite_148 ?_
                      refine z_goto (pc := 149) (tgt := 153) hX dX12_spite_149 rfl ?_
                      exact z_ls [1, 2, 4] rfl (hj17 ((1 : Int32) <<< (v3_4 &&& 31)))
                · intro j15 hj15
                  refine z_jn (P := fun j19 => ZR G X (EM o L) pvI psI 7 s [(0, .ref (ad G 17 0)), (1, .int x1), (2, .int v2_3), (3, .int v3_4)] [] 137 (j19)) ?_ ?_
                  · skip
                    refine z_iconst (pc := 137) hX dX12_spite_137 ic_0 ?_
                    exact z_ls [0, 1, 2, 3] rfl (hj15 (0 : Int32))
                  · intro j19 hj19
                    refine z_icmp_lt (pc := 93) (tgt := 137) hX dX12_spite_93 rfl ?_ ?_
                    · exact z_ls [0, 1, 2, 3] rfl (hj19)
                    · refine z_aload_n (pc := 96) hX dX12_spite_96 rfl 0 rfl ?_
                      refine z_aload_n (pc := 97) hX dX12_spite_97 rfl 0 rfl ?_
                      refine gf_17_6M (pc := 98) hX q_818 dX12_spite_98 ?_
                      refine z_iload_n (pc := 101) hX dX12_spite_101 rfl 1 rfl ?_
                      refine z_iload (pc := 102) hX dX12_spite_102 5 rfl ?_
                      refine z_iload (pc := 104) hX dX12_spite_104 4 rfl ?_
                      refine z_rP (run_V (pc := 106) (As := [.int (s 17 0 6), .int x1, .int t8, .int t6]) hX rc_17 ⟨q_1213, q_1216, q_13⟩ q_1215 qs_65 hd_X12_gets ⟨Nat.le_of_ble_eq_true rfl, Nat.le_of_ble_eq_true rfl⟩ (c_m_gets hG s (s 17 0 6) x1 t8 t6) rfl rfl (Nat.le_of_ble_eq_true rfl) dX12_spite_106) (fun r20 => ?_)
                      refine z_aload_n (pc := 109) hX dX12_spite_109 rfl 0 rfl ?_
                      refine z_aload_n (pc := 110) hX dX12_spite_110 rfl 0 rfl ?_
                      refine gf_17_6M (pc := 111) hX q_818 dX12_spite_111 ?_
                      refine z_iload_n (pc := 114) hX dX12_spite_114 rfl 1 rfl ?_
                      refine z_iload (pc := 115) hX dX12_spite_115 5 rfl ?_
                      refine z_jn (P := fun j22 => ∀ (t21 : Int32), ZR G X (EM o L) pvI psI 7 s [(0, .ref (ad G 17 0)), (1, .int x1), (2, .int v2_3), (3, .int v3_4), (4, .int t6)] [.int t21, .int x1, .int (s 17 0 6), .ref (ad G 17 0), .int r20] 125 (j22 t21)) ?_ ?_
                      · intro t21
                        refine z_iload (pc := 125) hX dX12_spite_125 4 rfl ?_
                        refine z_rP (run_V (pc := 127) (As := [.int (s 17 0 6), .int x1, .int t21, .int t6]) hX rc_17 ⟨q_1213, q_1216, q_13⟩ q_1215 qs_65 hd_X12_gets ⟨Nat.le_of_ble_eq_true rfl, Nat.le_of_ble_eq_true rfl⟩ (c_m_gets hG s (s 17 0 6) x1 t21 t6) rfl rfl (Nat.le_of_ble_eq_true rfl) dX12_spite_127) (fun r23 => ?_)
                        refine z_icmp_lt (pc := 130) (tgt := 137) hX dX12_spite_130 rfl ?_ ?_
                        · exact z_ls [0, 1, 2, 3] rfl (hj19)
                        · refine z_iconst (pc := 133) hX dX12_spite_133 ic_1 ?_
                          refine z_goto (pc := 134) (tgt := 138) hX dX12_spite_134 rfl ?_
                          exact z_ls [0, 1, 2, 3] rfl (hj15 (1 : Int32))
                      · intro j22 hj22
                        refine z_if_ne (pc := 117) (tgt := 124) hX dX12_spite_117 rfl ?_ ?_
                        · refine z_iconst (pc := 124) hX dX12_spite_124 ic_0 ?_
                          exact z_ls [0, 1, 2, 3, 4] rfl (hj22 (0 : Int32))
                        · refine z_iconst (pc := 120) hX dX12_spite_120 ic_1 ?_
                          refine z_goto (pc := 121) (tgt := 125) hX dX12_spite_121 rfl ?_
                          exact z_ls [0, 1, 2, 3, 4] rfl (hj22 (1 : Int32))
              · intro j12 hj12
                refine z_if_ne (pc := 80) (tgt := 87) hX dX12_spite_80 rfl ?_ ?_
                · refine z_iconst (pc := 87) hX dX12_spite_87 ic_0 ?_
                  exact z_ls [1, 2, 3, 4, 5, 0] rfl (hj12 (0 : Int32))
                · refine z_iconst (pc := 83) hX dX12_spite_83 ic_1 ?_
                  refine z_goto (pc := 84) (tgt := 88) hX dX12_spite_84 rfl ?_
                  exact z_ls [1, 2, 3, 4, 5, 0] rfl (hj12 (1 : Int32))
            · intro j9 hj9
              refine z_icmp_le (pc := 49) (tgt := 56) hX dX12_spite_49 rfl ?_ ?_
              · refine z_iconst (pc := 56) hX dX12_spite_56 ic_0 ?_
                exact z_ls [1, 2, 3, 4, 0] rfl (hj9 (0 : Int32))
              · refine z_iconst (pc := 52) hX dX12_spite_52 ic_1 ?_
                refine z_goto (pc := 53) (tgt := 57) hX dX12_spite_53 rfl ?_
                exact z_ls [1, 2, 3, 4, 0] rfl (hj9 (1 : Int32))
          · intro j7 hj7
            refine z_icmp_ne (pc := 37) (tgt := 44) hX dX12_spite_37 rfl ?_ ?_
            · refine z_iconst (pc := 44) hX dX12_spite_44 ic_0 ?_
              exact z_ls [0, 1, 2, 3] rfl (hj7 (0 : Int32))
            · refine z_iconst (pc := 40) hX dX12_spite_40 ic_1 ?_
              refine z_goto (pc := 41) (tgt := 45) hX dX12_spite_41 rfl ?_
              exact z_ls [0, 1, 2, 3] rfl (hj7 (1 : Int32))
    · refine z_aload_n (pc := 19) hX dX12_spite_19 rfl 0 rfl ?_
      refine z_rI (run_V (pc := 20) (As := []) hX rc_17 ⟨q_1048, q_1051, q_13⟩ q_1050 qs_45 hd_X12_no ⟨Nat.le_of_ble_eq_true rfl, Nat.le_of_ble_eq_true rfl⟩ (c_m_no hG s) rfl rfl (Nat.le_of_ble_eq_true rfl) dX12_spite_20) (fun r24 s25 => ?_)
      exact z_retI (pc := 23) hX dX12_spite_23
  · refine z_aload_n (pc := 7) hX dX12_spite_7 rfl 0 rfl ?_
    refine z_rI (run_V (pc := 8) (As := []) hX rc_17 ⟨q_928, q_931, q_13⟩ q_930 qs_24 hd_X12_bad ⟨Nat.le_of_ble_eq_true rfl, Nat.le_of_ble_eq_true rfl⟩ (c_m_bad hG s) rfl rfl (Nat.le_of_ble_eq_true rfl) dX12_spite_8) (fun r26 s27 => ?_)
    exact z_retI (pc := 11) hX dX12_spite_11
theorem hd_X12_lay : yX12_lay.cls ≠ "java/lang/invoke/MethodHandle" ∧ yX12_lay.cls ≠ "java/lang/invoke/VarHandle" ∧ (parseMethodDescriptor yX12_lay.desc).map (fun d => d.parameters.length) = some 2 := by decide +kernel
def l_m_lay_6 (K2 : Int64 → Option ((Sto × Lng))) (rc7 : Int64 → Int64 → Option ((Sto × Lng))) (v5_5 : Int64) (v7_6 : Int64) : Option ((Sto × Lng)) :=
  if (lg_cmp v7_6 (0 : Int64)) = (0 : Int32) then K2 v5_5 else if ¬ v7_6 = (0 : Int64) then lt (v5_5 - v5_5 / v7_6 * v7_6) (fun v9_8 => rc7 v7_6 v9_8) else none
def f_m_lay (s : (Sto × Lng)) (x1 : Int64) (x3 : Int64) : Option ((Sto × Lng)) :=
  jn (fun v5_1 => if ¬ v5_1 = (0 : Int64) then lt ((s.1, stl s.2 31 (x1 / v5_1))) (fun s3 => if ¬ v5_1 = (0 : Int64) then lt ((s3.1, stl s3.2 32 (x3 / v5_1))) (fun s4 => some s4) else none) else none) (fun K2 => fx 1000 (l_m_lay_6 K2) (fun _ _ => none) x1 x3)
set_option maxRecDepth 100000 in
set_option maxHeartbeats 4000000 in
theorem c_m_lay {G : Gb} {l : Launch} {o : Sto} (hG : GA G) (s : (Sto × Lng)) (x1 : Int64) (x3 : Int64)  : CT G l (EL o) pvV psV yX12_lay cX12_lay 11 none 0 0 [.ref (ad G 17 0), .long x1, .long x3] s (f_m_lay s x1 x3) := by
  refine CT.of hG (by decide) (Nat.le_of_ble_eq_true rfl) (fun X hX => ?_)
  have hX : OX G X l cX12_lay 11 "CrownTwoModel" none 0 0 := hX
  show ZR G X (EL o) pvV psV 11 s [(0, .ref (ad G 17 0)), (1, .long x1), (3, .long x3)] [] 0 _
  unfold f_m_lay
  refine z_lload_n (pc := 0) hX dX12_lay_0 rfl 1 rfl ?_
  refine z_lstore (pc := 1) (ls' := [(5, .long x1), (0, .ref (ad G 17 0)), (1, .long x1), (3, .long x3)]) hX dX12_lay_1 (by decide) rfl ?_
  refine z_lload_n (pc := 3) hX dX12_lay_3 rfl 3 rfl ?_
  refine z_lstore (pc := 4) (ls' := [(7, .long x3), (5, .long x1), (0, .ref (ad G 17 0)), (1, .long x1), (3, .long x3)]) hX dX12_lay_4 (by decide) rfl ?_
  refine z_jn (P := fun K2 => ∀ (v5_1 : Int64), ZR G X (EL o) pvV psV 11 s [(0, .ref (ad G 17 0)), (1, .long x1), (3, .long x3), (5, .long v5_1)] [] 31 (K2 v5_1)) ?_ ?_
  · intro v5_1
    refine z_aload_n (pc := 31) hX dX12_lay_31 rfl 0 rfl ?_
    refine z_lload_n (pc := 32) hX dX12_lay_32 rfl 1 rfl ?_
    refine z_lload (pc := 33) hX dX12_lay_33 3 rfl ?_
    refine z_ldiv (pc := 35) hX dX12_lay_35 ?_
    refine pl_17_31L (pc := 36) hX q_843 dX12_lay_36 ?_
    refine z_lts (fun s3 => ?_)
    refine z_aload_n (pc := 39) hX dX12_lay_39 rfl 0 rfl ?_
    refine z_lload_n (pc := 40) hX dX12_lay_40 rfl 2 rfl ?_
    refine z_lload (pc := 41) hX dX12_lay_41 3 rfl ?_
    refine z_ldiv (pc := 43) hX dX12_lay_43 ?_
    refine pl_17_32L (pc := 44) hX q_844 dX12_lay_44 ?_
    refine z_lts (fun s4 => ?_)
    exact z_retV (pc := 47) hX dX12_lay_47
  · intro K2 hK2
    refine z_ls [2, 3, 4, 1, 0] rfl ?_
    refine (fx_P (F := l_m_lay_6 K2) (b := (fun _ _ => none)) (fun rc7 => ∀ (v5_5 : Int64) (v7_6 : Int64), ZR G X (EL o) pvV psV 11 s [(0, .ref (ad G 17 0)), (1, .long x1), (3, .long x3), (5, .long v5_5), (7, .long v7_6)] [] 6 (rc7 v5_5 v7_6)) ?_ ?_ 1000) x1 x3
    · intro v5_5 v7_6; exact z_none
    · intro rc7 hrc7 v5_5 v7_6
      unfold l_m_lay_6
      refine z_lload (pc := 6) hX dX12_lay_6 4 rfl ?_
      refine z_lconst (v := 0) (pc := 8) hX dX12_lay_8 (by decide +kernel) ?_
      refine z_lcmp (pc := 9) hX dX12_lay_9 ?_
      refine z_if_eq (pc := 10) (tgt := 31) hX dX12_lay_10 rfl ?_ ?_
      · exact z_ls [0, 1, 2, 3] rfl (hK2 v5_5)
      · refine z_lload (pc := 13) hX dX12_lay_13 3 rfl ?_
        refine z_lload (pc := 15) hX dX12_lay_15 4 rfl ?_
        refine z_lrem (pc := 17) hX dX12_lay_17 ?_
        refine z_ltl (pc := 18) (fun v9_8 => ?_)
        refine z_lstore (pc := 18) (ls' := [(9, .long v9_8), (0, .ref (ad G 17 0)), (1, .long x1), (3, .long x3), (5, .long v5_5), (7, .long v7_6)]) hX dX12_lay_18 (by decide) rfl ?_
        refine z_lload (pc := 20) hX dX12_lay_20 5 rfl ?_
        refine z_lstore (pc := 22) (ls' := [(5, .long v7_6), (9, .long v9_8), (0, .ref (ad G 17 0)), (1, .long x1), (3, .long x3), (7, .long v7_6)]) hX dX12_lay_22 (by decide) rfl ?_
        refine z_lload (pc := 24) hX dX12_lay_24 1 rfl ?_
        refine z_lstore (pc := 26) (ls' := [(7, .long v9_8), (5, .long v7_6), (9, .long v9_8), (0, .ref (ad G 17 0)), (1, .long x1), (3, .long x3)]) hX dX12_lay_26 (by decide) rfl ?_
        refine z_goto (pc := 28) (tgt := 6) hX dX12_lay_28 rfl ?_
        exact z_ls [3, 4, 5, 1, 0] rfl (hrc7 v7_6 v9_8)
theorem hd_X12_slips : yX12_slips.cls ≠ "java/lang/invoke/MethodHandle" ∧ yX12_slips.cls ≠ "java/lang/invoke/VarHandle" ∧ (parseMethodDescriptor yX12_slips.desc).map (fun d => d.parameters.length) = some 2 := by decide +kernel
def f_m_slips (s : (Sto × Lng)) (x1 : Int32) (x2 : Int32) : Option (Int32 × (Sto × Lng)) :=
  bP (f_m_isAct x1) (fun r1 => if r1 = (0 : Int32) then bI (upI s.2 (f_m_bad s.1)) (fun r2 s3 => some (r2, s3)) else bP (f_m_in x2 (0 : Int32) (10 : Int32)) (fun r4 => if r4 = (0 : Int32) then bI (upI s.2 (f_m_bad s.1)) (fun r15 s16 => some (r15, s16)) else bP (f_m_isPair s.1) (fun r5 => if r5 = (0 : Int32) then bI (upI s.2 (f_m_no s.1)) (fun r13 s14 => some (r13, s14)) else bP (f_m_lifts s.1 (s.1 17 0 5) x1) (fun r6 => jn (fun t7 => bP (f_m_lifts s.1 (s.1 17 0 6) x1) (fun r9 => jn (fun t10 => bV (f_m_lay s (Int32.toInt64 (t7 * t10)) (100 : Int64)) (fun s12 => some ((1 : Int32), s12))) (fun j11 => if r9 = (0 : Int32) then j11 x2 else j11 ((10 : Int32) - x2)))) (fun j8 => if r6 = (0 : Int32) then j8 x2 else j8 ((10 : Int32) - x2))))))
set_option maxRecDepth 100000 in
set_option maxHeartbeats 4000000 in
theorem c_m_slips {G : Gb} {l : Launch} {o : Sto} (hG : GA G) (s : (Sto × Lng)) (x1 : Int32) (x2 : Int32)  : CT G l (EL o) pvI psI yX12_slips cX12_slips 5 (some .int) 3 67 [.ref (ad G 17 0), .int x1, .int x2] s (f_m_slips s x1 x2) := by
  refine CT.of hG (by decide) (Nat.le_of_ble_eq_true rfl) (fun X hX => ?_)
  have hX : OX G X l cX12_slips 5 "CrownTwoModel" (some .int) 3 67 := hX
  show ZR G X (EL o) pvI psI 5 s [(0, .ref (ad G 17 0)), (1, .int x1), (2, .int x2)] [] 0 _
  unfold f_m_slips
  refine z_iload_n (pc := 0) hX dX12_slips_0 rfl 1 rfl ?_
  refine z_rP (run_S (pc := 1) (As := [.int x1]) hX ⟨q_1038, q_1040, q_13⟩ q_1039 hd_X12_isAct ⟨Nat.le_of_ble_eq_true rfl, Nat.le_of_ble_eq_true rfl⟩ (CT.upP (c_m_isAct hG s.1 x1)) rfl rfl (Nat.le_of_ble_eq_true rfl) dX12_slips_1) (fun r1 => ?_)
  refine z_if_eq (pc := 4) (tgt := 17) hX dX12_slips_4 rfl ?_ ?_
  · refine z_aload_n (pc := 17) hX dX12_slips_17 rfl 0 rfl ?_
    refine z_rI (run_V (pc := 18) (As := []) hX rc_17 ⟨q_928, q_931, q_13⟩ q_930 qs_24 hd_X12_bad ⟨Nat.le_of_ble_eq_true rfl, Nat.le_of_ble_eq_true rfl⟩ (CT.upI (c_m_bad hG s.1)) rfl rfl (Nat.le_of_ble_eq_true rfl) dX12_slips_18) (fun r2 s3 => ?_)
    exact z_retI (pc := 21) hX dX12_slips_21
  · refine z_iload_n (pc := 7) hX dX12_slips_7 rfl 2 rfl ?_
    refine z_iconst (pc := 8) hX dX12_slips_8 ic_0 ?_
    refine z_bipush (pc := 9) hX dX12_slips_9 bp_10 ?_
    refine z_rP (run_S (pc := 11) (As := [.int x2, .int (0 : Int32), .int (10 : Int32)]) hX ⟨q_925, q_927, q_13⟩ q_926 hd_X12_in ⟨Nat.le_of_ble_eq_true rfl, Nat.le_of_ble_eq_true rfl⟩ (CT.upP (c_m_in hG s.1 x2 (0 : Int32) (10 : Int32))) rfl rfl (Nat.le_of_ble_eq_true rfl) dX12_slips_11) (fun r4 => ?_)
    refine z_if_ne (pc := 14) (tgt := 22) hX dX12_slips_14 rfl ?_ ?_
    · refine z_aload_n (pc := 22) hX dX12_slips_22 rfl 0 rfl ?_
      refine z_rP (run_V (pc := 23) (As := []) hX rc_17 ⟨q_1041, q_1044, q_13⟩ q_1043 qs_44 hd_X12_isPair ⟨Nat.le_of_ble_eq_true rfl, Nat.le_of_ble_eq_true rfl⟩ (CT.upP (c_m_isPair hG s.1)) rfl rfl (Nat.le_of_ble_eq_true rfl) dX12_slips_23) (fun r5 => ?_)
      refine z_if_ne (pc := 26) (tgt := 34) hX dX12_slips_26 rfl ?_ ?_
      · refine z_aload_n (pc := 34) hX dX12_slips_34 rfl 0 rfl ?_
        refine z_aload_n (pc := 35) hX dX12_slips_35 rfl 0 rfl ?_
        refine gf_17_5L (pc := 36) hX q_817 dX12_slips_36 ?_
        refine z_iload_n (pc := 39) hX dX12_slips_39 rfl 1 rfl ?_
        refine z_rP (run_V (pc := 40) (As := [.int (s.1 17 0 5), .int x1]) hX rc_17 ⟨q_1060, q_1063, q_13⟩ q_1062 qs_48 hd_X12_lifts ⟨Nat.le_of_ble_eq_true rfl, Nat.le_of_ble_eq_true rfl⟩ (CT.upP (c_m_lifts hG s.1 (s.1 17 0 5) x1)) rfl rfl (Nat.le_of_ble_eq_true rfl) dX12_slips_40) (fun r6 => ?_)
        refine z_jn (P := fun j8 => ∀ (t7 : Int32), ZR G X (EL o) pvI psI 5 s [(0, .ref (ad G 17 0)), (1, .int x1), (2, .int x2)] [.int t7] 54 (j8 t7)) ?_ ?_
        · intro t7
          refine z_istore_n (pc := 54) (ls' := [(3, .int t7), (0, .ref (ad G 17 0)), (1, .int x1), (2, .int x2)]) hX dX12_slips_54 rfl (by decide) rfl ?_
          refine z_aload_n (pc := 55) hX dX12_slips_55 rfl 1 rfl ?_
          refine z_aload_n (pc := 56) hX dX12_slips_56 rfl 1 rfl ?_
          refine gf_17_6L (pc := 57) hX q_818 dX12_slips_57 ?_
          refine z_iload_n (pc := 60) hX dX12_slips_60 rfl 2 rfl ?_
          refine z_rP (run_V (pc := 61) (As := [.int (s.1 17 0 6), .int x1]) hX rc_17 ⟨q_1060, q_1063, q_13⟩ q_1062 qs_48 hd_X12_lifts ⟨Nat.le_of_ble_eq_true rfl, Nat.le_of_ble_eq_true rfl⟩ (CT.upP (c_m_lifts hG s.1 (s.1 17 0 6) x1)) rfl rfl (Nat.le_of_ble_eq_true rfl) dX12_slips_61) (fun r9 => ?_)
          refine z_jn (P := fun j11 => ∀ (t10 : Int32), ZR G X (EL o) pvI psI 5 s [(0, .ref (ad G 17 0)), (3, .int t7)] [.int t10] 75 (j11 t10)) ?_ ?_
          · intro t10
            refine z_istore (pc := 75) (ls' := [(4, .int t10), (0, .ref (ad G 17 0)), (3, .int t7)]) hX dX12_slips_75 (by decide) rfl ?_
            refine z_aload_n (pc := 77) hX dX12_slips_77 rfl 1 rfl ?_
            refine z_iload_n (pc := 78) hX dX12_slips_78 rfl 2 rfl ?_
            refine z_iload (pc := 79) hX dX12_slips_79 0 rfl ?_
            refine z_imul (pc := 81) hX dX12_slips_81 ?_
            refine z_i2l (pc := 82) hX dX12_slips_82 ?_
            refine z_ldc2 (pc := 83) hX q_1221 dX12_slips_83 ?_
            refine z_rV (run_V (pc := 86) (As := [.long (Int32.toInt64 (t7 * t10)), .long (100 : Int64)]) hX rc_17 ⟨q_1222, q_1225, q_13⟩ q_1224 qs_66 hd_X12_lay ⟨Nat.le_of_ble_eq_true rfl, Nat.le_of_ble_eq_true rfl⟩ (c_m_lay hG s (Int32.toInt64 (t7 * t10)) (100 : Int64)) rfl rfl (Nat.le_of_ble_eq_true rfl) dX12_slips_86) (fun s12 => ?_)
            refine z_iconst (pc := 89) hX dX12_slips_89 ic_1 ?_
            exact z_retI (pc := 90) hX dX12_slips_90
          · intro j11 hj11
            refine z_if_eq (pc := 64) (tgt := 74) hX dX12_slips_64 rfl ?_ ?_
            · refine z_iload_n (pc := 74) hX dX12_slips_74 rfl 3 rfl ?_
              exact z_ls [1, 0] rfl (hj11 x2)
            · refine z_bipush (pc := 67) hX dX12_slips_67 bp_10 ?_
              refine z_iload_n (pc := 69) hX dX12_slips_69 rfl 3 rfl ?_
              refine z_isub (pc := 70) hX dX12_slips_70 ?_
              refine z_goto (pc := 71) (tgt := 75) hX dX12_slips_71 rfl ?_
              exact z_ls [1, 0] rfl (hj11 ((10 : Int32) - x2))
        · intro j8 hj8
          refine z_if_eq (pc := 43) (tgt := 53) hX dX12_slips_43 rfl ?_ ?_
          · refine z_iload_n (pc := 53) hX dX12_slips_53 rfl 2 rfl ?_
            exact z_ls [0, 1, 2] rfl (hj8 x2)
          · refine z_bipush (pc := 46) hX dX12_slips_46 bp_10 ?_
            refine z_iload_n (pc := 48) hX dX12_slips_48 rfl 2 rfl ?_
            refine z_isub (pc := 49) hX dX12_slips_49 ?_
            refine z_goto (pc := 50) (tgt := 54) hX dX12_slips_50 rfl ?_
            exact z_ls [0, 1, 2] rfl (hj8 ((10 : Int32) - x2))
      · refine z_aload_n (pc := 29) hX dX12_slips_29 rfl 0 rfl ?_
        refine z_rI (run_V (pc := 30) (As := []) hX rc_17 ⟨q_1048, q_1051, q_13⟩ q_1050 qs_45 hd_X12_no ⟨Nat.le_of_ble_eq_true rfl, Nat.le_of_ble_eq_true rfl⟩ (CT.upI (c_m_no hG s.1)) rfl rfl (Nat.le_of_ble_eq_true rfl) dX12_slips_30) (fun r13 s14 => ?_)
        exact z_retI (pc := 33) hX dX12_slips_33
    · refine z_aload_n (pc := 17) hX dX12_slips_17 rfl 0 rfl ?_
      refine z_rI (run_V (pc := 18) (As := []) hX rc_17 ⟨q_928, q_931, q_13⟩ q_930 qs_24 hd_X12_bad ⟨Nat.le_of_ble_eq_true rfl, Nat.le_of_ble_eq_true rfl⟩ (CT.upI (c_m_bad hG s.1)) rfl rfl (Nat.le_of_ble_eq_true rfl) dX12_slips_18) (fun r15 s16 => ?_)
      exact z_retI (pc := 21) hX dX12_slips_21
theorem hd_X12_reigns : yX12_reigns.cls ≠ "java/lang/invoke/MethodHandle" ∧ yX12_reigns.cls ≠ "java/lang/invoke/VarHandle" ∧ (parseMethodDescriptor yX12_reigns.desc).map (fun d => d.parameters.length) = some 2 := by decide +kernel
def l_m_reigns_48 (x2 : Int32) (K9 : Sto → Option (Int32 × Sto)) (rc15 : Sto → Int64 → Int32 → Option (Int32 × Sto)) (s12 : Sto) (v3_13 : Int64) (v5_14 : Int32) : Option (Int32 × Sto) :=
  if x2 ≤ v5_14 then K9 s12 else lt (((v3_13 * (1103515245 : Int64)) + (12345 : Int64)) - ((v3_13 * (1103515245 : Int64)) + (12345 : Int64)) / (2147483648 : Int64) * (2147483648 : Int64)) (fun v3_16 => lt (Int64.toInt32 ((v3_16 / (65536 : Int64)) - (v3_16 / (65536 : Int64)) / (8 : Int64) * (8 : Int64))) (fun v6_17 => bP (f_m_has (s12 17 0 4) v6_17) (fun r18 => jn (fun s19 => bV (f_m_pass s19) (fun s21 => rc15 s21 v3_16 (v5_14 + (1 : Int32)))) (fun j20 => if r18 = (0 : Int32) then bI (f_m_asks s12 v6_17) (fun r22 s23 => j20 s23) else j20 s12))))
def f_m_reigns (s : Sto) (x1 : Int32) (x2 : Int32) : Option (Int32 × Sto) :=
  bP (f_m_in x1 (0 : Int32) (999999 : Int32)) (fun r1 => if r1 = (0 : Int32) then bI (f_m_bad s) (fun r2 s3 => some (r2, s3)) else bP (f_m_in x2 (0 : Int32) (60 : Int32)) (fun r4 => if r4 = (0 : Int32) then bI (f_m_bad s) (fun r26 s27 => some (r26, s27)) else bP (f_m_isPair s) (fun r5 => if r5 = (0 : Int32) then bI (f_m_no s) (fun r24 s25 => some (r24, s25)) else bV (f_m_puts s) (fun s6 => lt (Int32.toInt64 x1) (fun v3_7 => jn (fun s8 => bP (f_m_bits (s8 17 0 4)) (fun r10 => bV (f_m_back s8) (fun s11 => some (r10, s11)))) (fun K9 => fx 1000 (l_m_reigns_48 x2 K9) (fun _ _ _ => none) s6 v3_7 (0 : Int32)))))))
set_option maxRecDepth 100000 in
set_option maxHeartbeats 4000000 in
theorem c_m_reigns {G : Gb} {l : Launch} {o : Sto} {L : Lng} (hG : GA G) (s : Sto) (x1 : Int32) (x2 : Int32)  : CT G l (EM o L) pvI psI yX12_reigns cX12_reigns 7 (some .int) 5 110 [.ref (ad G 17 0), .int x1, .int x2] s (f_m_reigns s x1 x2) := by
  refine CT.of hG (by decide) (Nat.le_of_ble_eq_true rfl) (fun X hX => ?_)
  have hX : OX G X l cX12_reigns 7 "CrownTwoModel" (some .int) 5 110 := hX
  show ZR G X (EM o L) pvI psI 7 s [(0, .ref (ad G 17 0)), (1, .int x1), (2, .int x2)] [] 0 _
  unfold f_m_reigns
  refine z_iload_n (pc := 0) hX dX12_reigns_0 rfl 1 rfl ?_
  refine z_iconst (pc := 1) hX dX12_reigns_1 ic_0 ?_
  refine z_ldcw (pc := 2) hX q_1230 dX12_reigns_2 ?_
  refine z_rP (run_S (pc := 5) (As := [.int x1, .int (0 : Int32), .int (999999 : Int32)]) hX ⟨q_925, q_927, q_13⟩ q_926 hd_X12_in ⟨Nat.le_of_ble_eq_true rfl, Nat.le_of_ble_eq_true rfl⟩ (c_m_in hG s x1 (0 : Int32) (999999 : Int32)) rfl rfl (Nat.le_of_ble_eq_true rfl) dX12_reigns_5) (fun r1 => ?_)
  refine z_if_eq (pc := 8) (tgt := 21) hX dX12_reigns_8 rfl ?_ ?_
  · refine z_aload_n (pc := 21) hX dX12_reigns_21 rfl 0 rfl ?_
    refine z_rI (run_V (pc := 22) (As := []) hX rc_17 ⟨q_928, q_931, q_13⟩ q_930 qs_24 hd_X12_bad ⟨Nat.le_of_ble_eq_true rfl, Nat.le_of_ble_eq_true rfl⟩ (c_m_bad hG s) rfl rfl (Nat.le_of_ble_eq_true rfl) dX12_reigns_22) (fun r2 s3 => ?_)
    exact z_retI (pc := 25) hX dX12_reigns_25
  · refine z_iload_n (pc := 11) hX dX12_reigns_11 rfl 2 rfl ?_
    refine z_iconst (pc := 12) hX dX12_reigns_12 ic_0 ?_
    refine z_bipush (pc := 13) hX dX12_reigns_13 bp_60 ?_
    refine z_rP (run_S (pc := 15) (As := [.int x2, .int (0 : Int32), .int (60 : Int32)]) hX ⟨q_925, q_927, q_13⟩ q_926 hd_X12_in ⟨Nat.le_of_ble_eq_true rfl, Nat.le_of_ble_eq_true rfl⟩ (c_m_in hG s x2 (0 : Int32) (60 : Int32)) rfl rfl (Nat.le_of_ble_eq_true rfl) dX12_reigns_15) (fun r4 => ?_)
    refine z_if_ne (pc := 18) (tgt := 26) hX dX12_reigns_18 rfl ?_ ?_
    · refine z_aload_n (pc := 26) hX dX12_reigns_26 rfl 0 rfl ?_
      refine z_rP (run_V (pc := 27) (As := []) hX rc_17 ⟨q_1041, q_1044, q_13⟩ q_1043 qs_44 hd_X12_isPair ⟨Nat.le_of_ble_eq_true rfl, Nat.le_of_ble_eq_true rfl⟩ (c_m_isPair hG s) rfl rfl (Nat.le_of_ble_eq_true rfl) dX12_reigns_27) (fun r5 => ?_)
      refine z_if_ne (pc := 30) (tgt := 38) hX dX12_reigns_30 rfl ?_ ?_
      · refine z_aload_n (pc := 38) hX dX12_reigns_38 rfl 0 rfl ?_
        refine z_rV (run_V (pc := 39) (As := []) hX rc_17 ⟨q_1118, q_1121, q_13⟩ q_1120 qs_54 hd_X12_puts ⟨Nat.le_of_ble_eq_true rfl, Nat.le_of_ble_eq_true rfl⟩ (c_m_puts hG s) rfl rfl (Nat.le_of_ble_eq_true rfl) dX12_reigns_39) (fun s6 => ?_)
        refine z_iload_n (pc := 42) hX dX12_reigns_42 rfl 1 rfl ?_
        refine z_i2l (pc := 43) hX dX12_reigns_43 ?_
        refine z_ltl (pc := 44) (fun v3_7 => ?_)
        refine z_lstore_n (pc := 44) (ls' := [(3, .long v3_7), (0, .ref (ad G 17 0)), (1, .int x1), (2, .int x2)]) hX dX12_reigns_44 rfl (by decide) rfl ?_
        refine z_iconst (pc := 45) hX dX12_reigns_45 ic_0 ?_
        refine z_istore (pc := 46) (ls' := [(5, .int (0 : Int32)), (3, .long v3_7), (0, .ref (ad G 17 0)), (1, .int x1), (2, .int x2)]) hX dX12_reigns_46 (by decide) rfl ?_
        refine z_jn (P := fun K9 => ∀ (s8 : Sto), ZR G X (EM o L) pvI psI 7 s8 [(0, .ref (ad G 17 0))] [] 109 (K9 s8)) ?_ ?_
        · intro s8
          refine z_aload_n (pc := 109) hX dX12_reigns_109 rfl 0 rfl ?_
          refine gf_17_4M (pc := 110) hX q_816 dX12_reigns_110 ?_
          refine z_rP (run_S (pc := 113) (As := [.int (s8 17 0 4)]) hX ⟨q_1154, q_1156, q_13⟩ q_1155 hd_X12_bits ⟨Nat.le_of_ble_eq_true rfl, Nat.le_of_ble_eq_true rfl⟩ (c_m_bits hG s8 (s8 17 0 4)) rfl rfl (Nat.le_of_ble_eq_true rfl) dX12_reigns_113) (fun r10 => ?_)
          refine z_istore (pc := 116) (ls' := [(5, .int r10), (0, .ref (ad G 17 0))]) hX dX12_reigns_116 (by decide) rfl ?_
          refine z_aload_n (pc := 118) hX dX12_reigns_118 rfl 1 rfl ?_
          refine z_rV (run_V (pc := 119) (As := []) hX rc_17 ⟨q_1126, q_1129, q_13⟩ q_1128 qs_56 hd_X12_back ⟨Nat.le_of_ble_eq_true rfl, Nat.le_of_ble_eq_true rfl⟩ (c_m_back hG s8) rfl rfl (Nat.le_of_ble_eq_true rfl) dX12_reigns_119) (fun s11 => ?_)
          refine z_iload (pc := 122) hX dX12_reigns_122 0 rfl ?_
          exact z_retI (pc := 124) hX dX12_reigns_124
        · intro K9 hK9
          refine z_ls [2, 4, 1, 0] rfl ?_
          refine (fx_P (F := l_m_reigns_48 x2 K9) (b := (fun _ _ _ => none)) (fun rc15 => ∀ (s12 : Sto) (v3_13 : Int64) (v5_14 : Int32), ZR G X (EM o L) pvI psI 7 s12 [(0, .ref (ad G 17 0)), (2, .int x2), (3, .long v3_13), (5, .int v5_14)] [] 48 (rc15 s12 v3_13 v5_14)) ?_ ?_ 1000) s6 v3_7 (0 : Int32)
          · intro s12 v3_13 v5_14; exact z_none
          · intro rc15 hrc15 s12 v3_13 v5_14
            unfold l_m_reigns_48
            refine z_iload (pc := 48) hX dX12_reigns_48 3 rfl ?_
            refine z_iload_n (pc := 50) hX dX12_reigns_50 rfl 1 rfl ?_
            refine z_icmp_ge (pc := 51) (tgt := 109) hX dX12_reigns_51 rfl ?_ ?_
            · exact z_ls [0] rfl (hK9 s12)
            · refine z_lload_n (pc := 54) hX dX12_reigns_54 rfl 2 rfl ?_
              refine z_ldc2 (pc := 55) hX q_1231 dX12_reigns_55 ?_
              refine z_lmul (pc := 58) hX dX12_reigns_58 ?_
              refine z_ldc2 (pc := 59) hX q_1232 dX12_reigns_59 ?_
              refine z_ladd (pc := 62) hX dX12_reigns_62 ?_
              refine z_ldc2 (pc := 63) hX q_1233 dX12_reigns_63 ?_
              refine z_lremc (pc := 66) hX dX12_reigns_66 (by decide +kernel) ?_
              refine z_ltl (pc := 67) (fun v3_16 => ?_)
              refine z_lstore_n (pc := 67) (ls' := [(3, .long v3_16), (0, .ref (ad G 17 0)), (2, .int x2), (5, .int v5_14)]) hX dX12_reigns_67 rfl (by decide) rfl ?_
              refine z_lload_n (pc := 68) hX dX12_reigns_68 rfl 0 rfl ?_
              refine z_ldc2 (pc := 69) hX q_1234 dX12_reigns_69 ?_
              refine z_ldivc (pc := 72) hX dX12_reigns_72 (by decide +kernel) ?_
              refine z_ldc2 (pc := 73) hX q_1235 dX12_reigns_73 ?_
              refine z_lremc (pc := 76) hX dX12_reigns_76 (by decide +kernel) ?_
              refine z_l2i (pc := 77) hX dX12_reigns_77 ?_
              refine z_lti (pc := 78) (fun v6_17 => ?_)
              refine z_istore (pc := 78) (ls' := [(6, .int v6_17), (3, .long v3_16), (0, .ref (ad G 17 0)), (2, .int x2), (5, .int v5_14)]) hX dX12_reigns_78 (by decide) rfl ?_
              refine z_aload_n (pc := 80) hX dX12_reigns_80 rfl 2 rfl ?_
              refine gf_17_4M (pc := 81) hX q_816 dX12_reigns_81 ?_
              refine z_iload (pc := 84) hX dX12_reigns_84 0 rfl ?_
              refine z_rP (run_S (pc := 86) (As := [.int (s12 17 0 4), .int v6_17]) hX ⟨q_1045, q_1047, q_13⟩ q_1046 hd_X12_has ⟨Nat.le_of_ble_eq_true rfl, Nat.le_of_ble_eq_true rfl⟩ (c_m_has hG s12 (s12 17 0 4) v6_17) rfl rfl (Nat.le_of_ble_eq_true rfl) dX12_reigns_86) (fun r18 => ?_)
              refine z_jn (P := fun j20 => ∀ (s19 : Sto), ZR G X (EM o L) pvI psI 7 s19 [(0, .ref (ad G 17 0)), (2, .int x2), (3, .long v3_16), (5, .int v5_14)] [] 99 (j20 s19)) ?_ ?_
              · intro s19
                refine z_aload_n (pc := 99) hX dX12_reigns_99 rfl 0 rfl ?_
                refine z_rV (run_V (pc := 100) (As := []) hX rc_17 ⟨q_1078, q_1081, q_13⟩ q_1080 qs_50 hd_X12_pass ⟨Nat.le_of_ble_eq_true rfl, Nat.le_of_ble_eq_true rfl⟩ (c_m_pass hG s19) rfl rfl (Nat.le_of_ble_eq_true rfl) dX12_reigns_100) (fun s21 => ?_)
                refine z_iinc (pc := 103) (n := 3) (v := v5_14 + (1 : Int32)) (ls' := [(5, .int (v5_14 + (1 : Int32))), (0, .ref (ad G 17 0)), (2, .int x2), (3, .long v3_16)]) hX dX12_reigns_103 rfl (by rw [show Int32.ofInt (1) = 1 by decide +kernel]) (by decide) rfl ?_
                refine z_goto (pc := 106) (tgt := 48) hX dX12_reigns_106 rfl ?_
                exact z_ls [1, 2, 3, 0] rfl (hrc15 s21 v3_16 (v5_14 + (1 : Int32)))
              · intro j20 hj20
                refine z_if_ne (pc := 89) (tgt := 99) hX dX12_reigns_89 rfl ?_ ?_
                · exact z_ls [2, 3, 1, 4] rfl (hj20 s12)
                · refine z_aload_n (pc := 92) hX dX12_reigns_92 rfl 2 rfl ?_
                  refine z_iload (pc := 93) hX dX12_reigns_93 0 rfl ?_
                  refine z_rI (run_V (pc := 95) (As := [.int v6_17]) hX rc_17 ⟨q_1052, q_1055, q_13⟩ q_1054 qs_46 hd_X12_asks ⟨Nat.le_of_ble_eq_true rfl, Nat.le_of_ble_eq_true rfl⟩ (c_m_asks hG s12 v6_17) rfl rfl (Nat.le_of_ble_eq_true rfl) dX12_reigns_95) (fun r22 s23 => ?_)
                  refine z_pop (pc := 98) hX dX12_reigns_98 rfl ?_
                  exact z_ls [2, 3, 1, 4] rfl (hj20 s23)
      · refine z_aload_n (pc := 33) hX dX12_reigns_33 rfl 0 rfl ?_
        refine z_rI (run_V (pc := 34) (As := []) hX rc_17 ⟨q_1048, q_1051, q_13⟩ q_1050 qs_45 hd_X12_no ⟨Nat.le_of_ble_eq_true rfl, Nat.le_of_ble_eq_true rfl⟩ (c_m_no hG s) rfl rfl (Nat.le_of_ble_eq_true rfl) dX12_reigns_34) (fun r24 s25 => ?_)
        exact z_retI (pc := 37) hX dX12_reigns_37
    · refine z_aload_n (pc := 21) hX dX12_reigns_21 rfl 0 rfl ?_
      refine z_rI (run_V (pc := 22) (As := []) hX rc_17 ⟨q_928, q_931, q_13⟩ q_930 qs_24 hd_X12_bad ⟨Nat.le_of_ble_eq_true rfl, Nat.le_of_ble_eq_true rfl⟩ (c_m_bad hG s) rfl rfl (Nat.le_of_ble_eq_true rfl) dX12_reigns_22) (fun r26 s27 => ?_)
      exact z_retI (pc := 25) hX dX12_reigns_25
theorem hd_X12_part : yX12_part.cls ≠ "java/lang/invoke/MethodHandle" ∧ yX12_part.cls ≠ "java/lang/invoke/VarHandle" ∧ (parseMethodDescriptor yX12_part.desc).map (fun d => d.parameters.length) = some 1 := by decide +kernel
def f_m_part (s : (Sto × Lng)) (x1 : Int32) : Option (Int64 × (Sto × Lng)) :=
  if x1 = (0 : Int32) then some (s.2 31, s) else if x1 = (1 : Int32) then some (s.2 32, s) else bI (upI s.2 (f_m_bad s.1)) (fun r1 s2 => some (Int32.toInt64 r1, s2))
set_option maxRecDepth 100000 in
set_option maxHeartbeats 4000000 in
theorem c_m_part {G : Gb} {l : Launch} {o : Sto} (hG : GA G) (s : (Sto × Lng)) (x1 : Int32)  : CT G l (EL o) pvM psM yX12_part cX12_part 2 (some .long) 1 20 [.ref (ad G 17 0), .int x1] s (f_m_part s x1) := by
  refine CT.of hG (by decide) (Nat.le_of_ble_eq_true rfl) (fun X hX => ?_)
  have hX : OX G X l cX12_part 2 "CrownTwoModel" (some .long) 1 20 := hX
  show ZR G X (EL o) pvM psM 2 s [(0, .ref (ad G 17 0)), (1, .int x1)] [] 0 _
  unfold f_m_part
  refine z_iload_n (pc := 0) hX dX12_part_0 rfl 1 rfl ?_
  refine z_if_ne (pc := 1) (tgt := 11) hX dX12_part_1 rfl ?_ ?_
  · refine z_iload_n (pc := 11) hX dX12_part_11 rfl 1 rfl ?_
    refine z_iconst (pc := 12) hX dX12_part_12 ic_1 ?_
    refine z_icmp_ne (pc := 13) (tgt := 23) hX dX12_part_13 rfl ?_ ?_
    · refine z_aload_n (pc := 23) hX dX12_part_23 rfl 0 rfl ?_
      refine z_rI (run_V (pc := 24) (As := []) hX rc_17 ⟨q_928, q_931, q_13⟩ q_930 qs_24 hd_X12_bad ⟨Nat.le_of_ble_eq_true rfl, Nat.le_of_ble_eq_true rfl⟩ (CT.upI (c_m_bad hG s.1)) rfl rfl (Nat.le_of_ble_eq_true rfl) dX12_part_24) (fun r1 s2 => ?_)
      refine z_i2l (pc := 27) hX dX12_part_27 ?_
      exact z_retM (pc := 28) hX dX12_part_28
    · refine z_aload_n (pc := 16) hX dX12_part_16 rfl 0 rfl ?_
      refine gl_17_32L (pc := 17) hX q_844 dX12_part_17 ?_
      refine z_goto (pc := 20) (tgt := 28) hX dX12_part_20 rfl ?_
      exact z_retM (pc := 28) hX dX12_part_28
  · refine z_aload_n (pc := 4) hX dX12_part_4 rfl 0 rfl ?_
    refine gl_17_31L (pc := 5) hX q_843 dX12_part_5 ?_
    refine z_goto (pc := 8) (tgt := 28) hX dX12_part_8 rfl ?_
    exact z_retM (pc := 28) hX dX12_part_28
theorem hd_X12_image : yX12_image.cls ≠ "java/lang/invoke/MethodHandle" ∧ yX12_image.cls ≠ "java/lang/invoke/VarHandle" ∧ (parseMethodDescriptor yX12_image.desc).map (fun d => d.parameters.length) = some 1 := by decide +kernel
def l_m_image_240 (v2_2 : Int32) (rc12 : Sto → Int32 → Option (Int32 × Sto)) (s10 : Sto) (v3_11 : Int32) : Option (Int32 × Sto) :=
  if (40 : Int32) ≤ v3_11 then some ((1 : Int32), s10) else if inb v3_11 40 then if inb ((v2_2 + (62 : Int32)) + v3_11) 204 then lt (st s10 34 0 (ix ((v2_2 + (62 : Int32)) + v3_11)) (s10 30 0 (ix v3_11))) (fun s13 => rc12 s13 (v3_11 + (1 : Int32))) else none else none
def l_m_image_73 (v2_2 : Int32) (K9 : Sto → Option (Int32 × Sto)) (rc16 : Sto → Int32 → Option (Int32 × Sto)) (s14 : Sto) (v3_15 : Int32) : Option (Int32 × Sto) :=
  if (6 : Int32) ≤ v3_15 then K9 s14 else if inb v3_15 6 then if inb ((v2_2 + (8 : Int32)) + v3_15) 204 then lt (st s14 34 0 (ix ((v2_2 + (8 : Int32)) + v3_15)) (s14 19 0 (ix v3_15))) (fun s17 => if inb v3_15 6 then if inb ((v2_2 + (14 : Int32)) + v3_15) 204 then lt (st s17 34 0 (ix ((v2_2 + (14 : Int32)) + v3_15)) (s17 20 0 (ix v3_15))) (fun s18 => if inb v3_15 6 then if inb ((v2_2 + (20 : Int32)) + v3_15) 204 then lt (st s18 34 0 (ix ((v2_2 + (20 : Int32)) + v3_15)) (s18 21 0 (ix v3_15))) (fun s19 => if inb v3_15 6 then if inb ((v2_2 + (26 : Int32)) + v3_15) 204 then lt (st s19 34 0 (ix ((v2_2 + (26 : Int32)) + v3_15)) (s19 22 0 (ix v3_15))) (fun s20 => if inb v3_15 6 then if inb ((v2_2 + (32 : Int32)) + v3_15) 204 then lt (st s20 34 0 (ix ((v2_2 + (32 : Int32)) + v3_15)) (s20 23 0 (ix v3_15))) (fun s21 => if inb v3_15 6 then if inb ((v2_2 + (38 : Int32)) + v3_15) 204 then lt (st s21 34 0 (ix ((v2_2 + (38 : Int32)) + v3_15)) (s21 24 0 (ix v3_15))) (fun s22 => if inb v3_15 6 then if inb ((v2_2 + (44 : Int32)) + v3_15) 204 then lt (st s22 34 0 (ix ((v2_2 + (44 : Int32)) + v3_15)) (s22 25 0 (ix v3_15))) (fun s23 => if inb v3_15 6 then if inb ((v2_2 + (50 : Int32)) + v3_15) 204 then lt (st s23 34 0 (ix ((v2_2 + (50 : Int32)) + v3_15)) (s23 26 0 (ix v3_15))) (fun s24 => if inb v3_15 6 then if inb ((v2_2 + (56 : Int32)) + v3_15) 204 then lt (st s24 34 0 (ix ((v2_2 + (56 : Int32)) + v3_15)) (s24 27 0 (ix v3_15))) (fun s25 => rc16 s25 (v3_15 + (1 : Int32))) else none else none) else none else none) else none else none) else none else none) else none else none) else none else none) else none else none) else none else none) else none else none
def f_m_image (s : Sto) (x1 : Int32) : Option (Int32 × Sto) :=
  bP (f_m_in x1 (0 : Int32) (1 : Int32)) (fun r1 => if r1 = (0 : Int32) then bI (f_m_bad s) (fun r26 s27 => some (r26, s27)) else lt ((102 : Int32) * x1) (fun v2_2 => if inb x1 2 then lt (st s 35 0 (ix x1) (1 : Int32)) (fun s3 => if inb v2_2 204 then lt (st s3 34 0 (ix v2_2) (s3 17 0 1)) (fun s4 => if inb (v2_2 + (1 : Int32)) 204 then lt (st s4 34 0 (ix (v2_2 + (1 : Int32))) (s4 17 0 7)) (fun s5 => if inb (v2_2 + (2 : Int32)) 204 then lt (st s5 34 0 (ix (v2_2 + (2 : Int32))) (s5 17 0 27)) (fun s6 => bV (f_m_lays_34 s6 (v2_2 + (3 : Int32))) (fun s7 => jn (fun s8 => fx 1000 (l_m_image_240 v2_2) (fun _ _ => none) s8 (0 : Int32)) (fun K9 => fx 1000 (l_m_image_73 v2_2 K9) (fun _ _ => none) s7 (0 : Int32)))) else none) else none) else none) else none))
set_option maxRecDepth 100000 in
set_option maxHeartbeats 4000000 in
theorem c_m_image {G : Gb} {l : Launch} {o : Sto} {L : Lng} (hG : GA G) (s : Sto) (x1 : Int32)  : CT G l (EM o L) pvI psI yX12_image cX12_image 4 (some .int) 1 22 [.ref (ad G 17 0), .int x1] s (f_m_image s x1) := by
  refine CT.of hG (by decide) (Nat.le_of_ble_eq_true rfl) (fun X hX => ?_)
  have hX : OX G X l cX12_image 4 "CrownTwoModel" (some .int) 1 22 := hX
  show ZR G X (EM o L) pvI psI 4 s [(0, .ref (ad G 17 0)), (1, .int x1)] [] 0 _
  unfold f_m_image
  refine z_iload_n (pc := 0) hX dX12_image_0 rfl 1 rfl ?_
  refine z_iconst (pc := 1) hX dX12_image_1 ic_0 ?_
  refine z_iconst (pc := 2) hX dX12_image_2 ic_1 ?_
  refine z_rP (run_S (pc := 3) (As := [.int x1, .int (0 : Int32), .int (1 : Int32)]) hX ⟨q_925, q_927, q_13⟩ q_926 hd_X12_in ⟨Nat.le_of_ble_eq_true rfl, Nat.le_of_ble_eq_true rfl⟩ (c_m_in hG s x1 (0 : Int32) (1 : Int32)) rfl rfl (Nat.le_of_ble_eq_true rfl) dX12_image_3) (fun r1 => ?_)
  refine z_if_ne (pc := 6) (tgt := 14) hX dX12_image_6 rfl ?_ ?_
  · refine z_bipush (pc := 14) hX dX12_image_14 bp_102 ?_
    refine z_iload_n (pc := 16) hX dX12_image_16 rfl 1 rfl ?_
    refine z_imul (pc := 17) hX dX12_image_17 ?_
    refine z_lti (pc := 18) (fun v2_2 => ?_)
    refine z_istore_n (pc := 18) (ls' := [(2, .int v2_2), (0, .ref (ad G 17 0)), (1, .int x1)]) hX dX12_image_18 rfl (by decide) rfl ?_
    refine z_aload_n (pc := 19) hX dX12_image_19 rfl 1 rfl ?_
    refine gr_17_34M (pc := 20) hX q_846 dX12_image_20 ?_
    refine z_iload_n (pc := 23) hX dX12_image_23 rfl 2 rfl ?_
    refine z_iconst (pc := 24) hX dX12_image_24 ic_1 ?_
    refine is_35M (pc := 25) hX dX12_image_25 ?_
    refine z_lts (fun s3 => ?_)
    refine z_aload_n (pc := 26) hX dX12_image_26 rfl 1 rfl ?_
    refine gr_17_33M (pc := 27) hX q_845 dX12_image_27 ?_
    refine z_iload_n (pc := 30) hX dX12_image_30 rfl 0 rfl ?_
    refine z_aload_n (pc := 31) hX dX12_image_31 rfl 1 rfl ?_
    refine gf_17_1M (pc := 32) hX q_813 dX12_image_32 ?_
    refine is_34M (pc := 35) hX dX12_image_35 ?_
    refine z_lts (fun s4 => ?_)
    refine z_aload_n (pc := 36) hX dX12_image_36 rfl 1 rfl ?_
    refine gr_17_33M (pc := 37) hX q_845 dX12_image_37 ?_
    refine z_iload_n (pc := 40) hX dX12_image_40 rfl 0 rfl ?_
    refine z_iconst (pc := 41) hX dX12_image_41 ic_1 ?_
    refine z_iadd (pc := 42) hX dX12_image_42 ?_
    refine z_aload_n (pc := 43) hX dX12_image_43 rfl 1 rfl ?_
    refine gf_17_7M (pc := 44) hX q_819 dX12_image_44 ?_
    refine is_34M (pc := 47) hX dX12_image_47 ?_
    refine z_lts (fun s5 => ?_)
    refine z_aload_n (pc := 48) hX dX12_image_48 rfl 1 rfl ?_
    refine gr_17_33M (pc := 49) hX q_845 dX12_image_49 ?_
    refine z_iload_n (pc := 52) hX dX12_image_52 rfl 0 rfl ?_
    refine z_iconst (pc := 53) hX dX12_image_53 ic_2 ?_
    refine z_iadd (pc := 54) hX dX12_image_54 ?_
    refine z_aload_n (pc := 55) hX dX12_image_55 rfl 1 rfl ?_
    refine gf_17_27M (pc := 56) hX q_839 dX12_image_56 ?_
    refine is_34M (pc := 59) hX dX12_image_59 ?_
    refine z_lts (fun s6 => ?_)
    refine z_aload_n (pc := 60) hX dX12_image_60 rfl 1 rfl ?_
    refine z_aload_n (pc := 61) hX dX12_image_61 rfl 1 rfl ?_
    refine gr_17_33M (pc := 62) hX q_845 dX12_image_62 ?_
    refine z_iload_n (pc := 65) hX dX12_image_65 rfl 0 rfl ?_
    refine z_iconst (pc := 66) hX dX12_image_66 ic_3 ?_
    refine z_iadd (pc := 67) hX dX12_image_67 ?_
    refine z_rV (run_V (pc := 68) (As := [.ref (ad G 34 0), .int (v2_2 + (3 : Int32))]) hX rc_17 ⟨q_1030, q_1033, q_13⟩ q_1032 qs_43 hd_X12_lays ⟨Nat.le_of_ble_eq_true rfl, Nat.le_of_ble_eq_true rfl⟩ (c_m_lays_34 hG s6 (v2_2 + (3 : Int32))) rfl rfl (Nat.le_of_ble_eq_true rfl) dX12_image_68) (fun s7 => ?_)
    refine z_iconst (pc := 71) hX dX12_image_71 ic_0 ?_
    refine z_istore_n (pc := 72) (ls' := [(3, .int (0 : Int32)), (2, .int v2_2), (0, .ref (ad G 17 0)), (1, .int x1)]) hX dX12_image_72 rfl (by decide) rfl ?_
    refine z_jn (P := fun K9 => ∀ (s8 : Sto), ZR G X (EM o L) pvI psI 4 s8 [(0, .ref (ad G 17 0)), (2, .int v2_2)] [] 238 (K9 s8)) ?_ ?_
    · intro s8
      refine z_iconst (pc := 238) hX dX12_image_238 ic_0 ?_
      refine z_istore_n (pc := 239) (ls' := [(3, .int (0 : Int32)), (0, .ref (ad G 17 0)), (2, .int v2_2)]) hX dX12_image_239 rfl (by decide) rfl ?_
      refine z_ls [1, 2, 0] rfl ?_
      refine (fx_P (F := l_m_image_240 v2_2) (b := (fun _ _ => none)) (fun rc12 => ∀ (s10 : Sto) (v3_11 : Int32), ZR G X (EM o L) pvI psI 4 s10 [(0, .ref (ad G 17 0)), (2, .int v2_2), (3, .int v3_11)] [] 240 (rc12 s10 v3_11)) ?_ ?_ 1000) s8 (0 : Int32)
      · intro s10 v3_11; exact z_none
      · intro rc12 hrc12 s10 v3_11
        unfold l_m_image_240
        refine z_iload_n (pc := 240) hX dX12_image_240 rfl 2 rfl ?_
        refine z_bipush (pc := 241) hX dX12_image_241 bp_40 ?_
        refine z_icmp_ge (pc := 243) (tgt := 269) hX dX12_image_243 rfl ?_ ?_
        · refine z_iconst (pc := 269) hX dX12_image_269 ic_1 ?_
          exact z_retI (pc := 270) hX dX12_image_270
        · refine z_aload_n (pc := 246) hX dX12_image_246 rfl 0 rfl ?_
          refine gr_17_33M (pc := 247) hX q_845 dX12_image_247 ?_
          refine z_iload_n (pc := 250) hX dX12_image_250 rfl 1 rfl ?_
          refine z_bipush (pc := 251) hX dX12_image_251 bp_62 ?_
          refine z_iadd (pc := 253) hX dX12_image_253 ?_
          refine z_iload_n (pc := 254) hX dX12_image_254 rfl 2 rfl ?_
          refine z_iadd (pc := 255) hX dX12_image_255 ?_
          refine z_aload_n (pc := 256) hX dX12_image_256 rfl 0 rfl ?_
          refine gr_17_26M (pc := 257) hX q_838 dX12_image_257 ?_
          refine z_iload_n (pc := 260) hX dX12_image_260 rfl 2 rfl ?_
          refine ia_30M (pc := 261) hX dX12_image_261 ?_
          refine is_34M (pc := 262) hX dX12_image_262 ?_
          refine z_lts (fun s13 => ?_)
          refine z_iinc (pc := 263) (n := 2) (v := v3_11 + (1 : Int32)) (ls' := [(3, .int (v3_11 + (1 : Int32))), (0, .ref (ad G 17 0)), (2, .int v2_2)]) hX dX12_image_263 rfl (by rw [show Int32.ofInt (1) = 1 by decide +kernel]) (by decide) rfl ?_
          refine z_goto (pc := 266) (tgt := 240) hX dX12_image_266 rfl ?_
          exact z_ls [1, 2, 0] rfl (hrc12 s13 (v3_11 + (1 : Int32)))
    · intro K9 hK9
      refine z_ls [2, 1, 0] rfl ?_
      refine (fx_P (F := l_m_image_73 v2_2 K9) (b := (fun _ _ => none)) (fun rc16 => ∀ (s14 : Sto) (v3_15 : Int32), ZR G X (EM o L) pvI psI 4 s14 [(0, .ref (ad G 17 0)), (2, .int v2_2), (3, .int v3_15)] [] 73 (rc16 s14 v3_15)) ?_ ?_ 1000) s7 (0 : Int32)
      · intro s14 v3_15; exact z_none
      · intro rc16 hrc16 s14 v3_15
        unfold l_m_image_73
        refine z_iload_n (pc := 73) hX dX12_image_73 rfl 2 rfl ?_
        refine z_bipush (pc := 74) hX dX12_image_74 bp_6 ?_
        refine z_icmp_ge (pc := 76) (tgt := 238) hX dX12_image_76 rfl ?_ ?_
        · exact z_ls [0, 1] rfl (hK9 s14)
        · refine z_aload_n (pc := 79) hX dX12_image_79 rfl 0 rfl ?_
          refine gr_17_33M (pc := 80) hX q_845 dX12_image_80 ?_
          refine z_iload_n (pc := 83) hX dX12_image_83 rfl 1 rfl ?_
          refine z_bipush (pc := 84) hX dX12_image_84 bp_8 ?_
          refine z_iadd (pc := 86) hX dX12_image_86 ?_
          refine z_iload_n (pc := 87) hX dX12_image_87 rfl 2 rfl ?_
          refine z_iadd (pc := 88) hX dX12_image_88 ?_
          refine z_aload_n (pc := 89) hX dX12_image_89 rfl 0 rfl ?_
          refine gr_17_8M (pc := 90) hX q_820 dX12_image_90 ?_
          refine z_iload_n (pc := 93) hX dX12_image_93 rfl 2 rfl ?_
          refine ia_19M (pc := 94) hX dX12_image_94 ?_
          refine is_34M (pc := 95) hX dX12_image_95 ?_
          refine z_lts (fun s17 => ?_)
          refine z_aload_n (pc := 96) hX dX12_image_96 rfl 0 rfl ?_
          refine gr_17_33M (pc := 97) hX q_845 dX12_image_97 ?_
          refine z_iload_n (pc := 100) hX dX12_image_100 rfl 1 rfl ?_
          refine z_bipush (pc := 101) hX dX12_image_101 bp_14 ?_
          refine z_iadd (pc := 103) hX dX12_image_103 ?_
          refine z_iload_n (pc := 104) hX dX12_image_104 rfl 2 rfl ?_
          refine z_iadd (pc := 105) hX dX12_image_105 ?_
          refine z_aload_n (pc := 106) hX dX12_image_106 rfl 0 rfl ?_
          refine gr_17_9M (pc := 107) hX q_821 dX12_image_107 ?_
          refine z_iload_n (pc := 110) hX dX12_image_110 rfl 2 rfl ?_
          refine ia_20M (pc := 111) hX dX12_image_111 ?_
          refine is_34M (pc := 112) hX dX12_image_112 ?_
          refine z_lts (fun s18 => ?_)
          refine z_aload_n (pc := 113) hX dX12_image_113 rfl 0 rfl ?_
          refine gr_17_33M (pc := 114) hX q_845 dX12_image_114 ?_
          refine z_iload_n (pc := 117) hX dX12_image_117 rfl 1 rfl ?_
          refine z_bipush (pc := 118) hX dX12_image_118 bp_20 ?_
          refine z_iadd (pc := 120) hX dX12_image_120 ?_
          refine z_iload_n (pc := 121) hX dX12_image_121 rfl 2 rfl ?_
          refine z_iadd (pc := 122) hX dX12_image_122 ?_
          refine z_aload_n (pc := 123) hX dX12_image_123 rfl 0 rfl ?_
          refine gr_17_10M (pc := 124) hX q_822 dX12_image_124 ?_
          refine z_iload_n (pc := 127) hX dX12_image_127 rfl 2 rfl ?_
          refine ia_21M (pc := 128) hX dX12_image_128 ?_
          refine is_34M (pc := 129) hX dX12_image_129 ?_
          refine z_lts (fun s19 => ?_)
          refine z_aload_n (pc := 130) hX dX12_image_130 rfl 0 rfl ?_
          refine gr_17_33M (pc := 131) hX q_845 dX12_image_131 ?_
          refine z_iload_n (pc := 134) hX dX12_image_134 rfl 1 rfl ?_
          refine z_bipush (pc := 135) hX dX12_image_135 bp_26 ?_
          refine z_iadd (pc := 137) hX dX12_image_137 ?_
          refine z_iload_n (pc := 138) hX dX12_image_138 rfl 2 rfl ?_
          refine z_iadd (pc := 139) hX dX12_image_139 ?_
          refine z_aload_n (pc := 140) hX dX12_image_140 rfl 0 rfl ?_
          refine gr_17_11M (pc := 141) hX q_823 dX12_image_141 ?_
          refine z_iload_n (pc := 144) hX dX12_image_144 rfl 2 rfl ?_
          refine ia_22M (pc := 145) hX dX12_image_145 ?_
          refine is_34M (pc := 146) hX dX12_image_146 ?_
          refine z_lts (fun s20 => ?_)
          refine z_aload_n (pc := 147) hX dX12_image_147 rfl 0 rfl ?_
          refine gr_17_33M (pc := 148) hX q_845 dX12_image_148 ?_
          refine z_iload_n (pc := 151) hX dX12_image_151 rfl 1 rfl ?_
          refine z_bipush (pc := 152) hX dX12_image_152 bp_32 ?_
          refine z_iadd (pc := 154) hX dX12_image_154 ?_
          refine z_iload_n (pc := 155) hX dX12_image_155 rfl 2 rfl ?_
          refine z_iadd (pc := 156) hX dX12_image_156 ?_
          refine z_aload_n (pc := 157) hX dX12_image_157 rfl 0 rfl ?_
          refine gr_17_12M (pc := 158) hX q_824 dX12_image_158 ?_
          refine z_iload_n (pc := 161) hX dX12_image_161 rfl 2 rfl ?_
          refine ia_23M (pc := 162) hX dX12_image_162 ?_
          refine is_34M (pc := 163) hX dX12_image_163 ?_
          refine z_lts (fun s21 => ?_)
          refine z_aload_n (pc := 164) hX dX12_image_164 rfl 0 rfl ?_
          refine gr_17_33M (pc := 165) hX q_845 dX12_image_165 ?_
          refine z_iload_n (pc := 168) hX dX12_image_168 rfl 1 rfl ?_
          refine z_bipush (pc := 169) hX dX12_image_169 bp_38 ?_
          refine z_iadd (pc := 171) hX dX12_image_171 ?_
          refine z_iload_n (pc := 172) hX dX12_image_172 rfl 2 rfl ?_
          refine z_iadd (pc := 173) hX dX12_image_173 ?_
          refine z_aload_n (pc := 174) hX dX12_image_174 rfl 0 rfl ?_
          refine gr_17_13M (pc := 175) hX q_825 dX12_image_175 ?_
          refine z_iload_n (pc := 178) hX dX12_image_178 rfl 2 rfl ?_
          refine ia_24M (pc := 179) hX dX12_image_179 ?_
          refine is_34M (pc := 180) hX dX12_image_180 ?_
          refine z_lts (fun s22 => ?_)
          refine z_aload_n (pc := 181) hX dX12_image_181 rfl 0 rfl ?_
          refine gr_17_33M (pc := 182) hX q_845 dX12_image_182 ?_
          refine z_iload_n (pc := 185) hX dX12_image_185 rfl 1 rfl ?_
          refine z_bipush (pc := 186) hX dX12_image_186 bp_44 ?_
          refine z_iadd (pc := 188) hX dX12_image_188 ?_
          refine z_iload_n (pc := 189) hX dX12_image_189 rfl 2 rfl ?_
          refine z_iadd (pc := 190) hX dX12_image_190 ?_
          refine z_aload_n (pc := 191) hX dX12_image_191 rfl 0 rfl ?_
          refine gr_17_14M (pc := 192) hX q_826 dX12_image_192 ?_
          refine z_iload_n (pc := 195) hX dX12_image_195 rfl 2 rfl ?_
          refine ia_25M (pc := 196) hX dX12_image_196 ?_
          refine is_34M (pc := 197) hX dX12_image_197 ?_
          refine z_lts (fun s23 => ?_)
          refine z_aload_n (pc := 198) hX dX12_image_198 rfl 0 rfl ?_
          refine gr_17_33M (pc := 199) hX q_845 dX12_image_199 ?_
          refine z_iload_n (pc := 202) hX dX12_image_202 rfl 1 rfl ?_
          refine z_bipush (pc := 203) hX dX12_image_203 bp_50 ?_
          refine z_iadd (pc := 205) hX dX12_image_205 ?_
          refine z_iload_n (pc := 206) hX dX12_image_206 rfl 2 rfl ?_
          refine z_iadd (pc := 207) hX dX12_image_207 ?_
          refine z_aload_n (pc := 208) hX dX12_image_208 rfl 0 rfl ?_
          refine gr_17_15M (pc := 209) hX q_827 dX12_image_209 ?_
          refine z_iload_n (pc := 212) hX dX12_image_212 rfl 2 rfl ?_
          refine ia_26M (pc := 213) hX dX12_image_213 ?_
          refine is_34M (pc := 214) hX dX12_image_214 ?_
          refine z_lts (fun s24 => ?_)
          refine z_aload_n (pc := 215) hX dX12_image_215 rfl 0 rfl ?_
          refine gr_17_33M (pc := 216) hX q_845 dX12_image_216 ?_
          refine z_iload_n (pc := 219) hX dX12_image_219 rfl 1 rfl ?_
          refine z_bipush (pc := 220) hX dX12_image_220 bp_56 ?_
          refine z_iadd (pc := 222) hX dX12_image_222 ?_
          refine z_iload_n (pc := 223) hX dX12_image_223 rfl 2 rfl ?_
          refine z_iadd (pc := 224) hX dX12_image_224 ?_
          refine z_aload_n (pc := 225) hX dX12_image_225 rfl 0 rfl ?_
          refine gr_17_16M (pc := 226) hX q_828 dX12_image_226 ?_
          refine z_iload_n (pc := 229) hX dX12_image_229 rfl 2 rfl ?_
          refine ia_27M (pc := 230) hX dX12_image_230 ?_
          refine is_34M (pc := 231) hX dX12_image_231 ?_
          refine z_lts (fun s25 => ?_)
          refine z_iinc (pc := 232) (n := 2) (v := v3_15 + (1 : Int32)) (ls' := [(3, .int (v3_15 + (1 : Int32))), (0, .ref (ad G 17 0)), (2, .int v2_2)]) hX dX12_image_232 rfl (by rw [show Int32.ofInt (1) = 1 by decide +kernel]) (by decide) rfl ?_
          refine z_goto (pc := 235) (tgt := 73) hX dX12_image_235 rfl ?_
          exact z_ls [1, 2, 0] rfl (hrc16 s25 (v3_15 + (1 : Int32)))
  · refine z_aload_n (pc := 9) hX dX12_image_9 rfl 0 rfl ?_
    refine z_rI (run_V (pc := 10) (As := []) hX rc_17 ⟨q_928, q_931, q_13⟩ q_930 qs_24 hd_X12_bad ⟨Nat.le_of_ble_eq_true rfl, Nat.le_of_ble_eq_true rfl⟩ (c_m_bad hG s) rfl rfl (Nat.le_of_ble_eq_true rfl) dX12_image_10) (fun r26 s27 => ?_)
    exact z_retI (pc := 13) hX dX12_image_13
theorem hd_X12_from : yX12_from.cls ≠ "java/lang/invoke/MethodHandle" ∧ yX12_from.cls ≠ "java/lang/invoke/VarHandle" ∧ (parseMethodDescriptor yX12_from.desc).map (fun d => d.parameters.length) = some 1 := by decide +kernel
def l_m_from_247 (v2_2 : Int32) (rc11 : Sto → Int32 → Option (Int32 × Sto)) (s9 : Sto) (v3_10 : Int32) : Option (Int32 × Sto) :=
  if (40 : Int32) ≤ v3_10 then some ((1 : Int32), s9) else if inb ((v2_2 + (62 : Int32)) + v3_10) 204 then if inb v3_10 40 then lt (st s9 30 0 (ix v3_10) (s9 34 0 (ix ((v2_2 + (62 : Int32)) + v3_10)))) (fun s12 => rc11 s12 (v3_10 + (1 : Int32))) else none else none
def l_m_from_80 (v2_2 : Int32) (K8 : Sto → Option (Int32 × Sto)) (rc15 : Sto → Int32 → Option (Int32 × Sto)) (s13 : Sto) (v3_14 : Int32) : Option (Int32 × Sto) :=
  if (6 : Int32) ≤ v3_14 then K8 s13 else if inb ((v2_2 + (8 : Int32)) + v3_14) 204 then if inb v3_14 6 then lt (st s13 19 0 (ix v3_14) (s13 34 0 (ix ((v2_2 + (8 : Int32)) + v3_14)))) (fun s16 => if inb ((v2_2 + (14 : Int32)) + v3_14) 204 then if inb v3_14 6 then lt (st s16 20 0 (ix v3_14) (s16 34 0 (ix ((v2_2 + (14 : Int32)) + v3_14)))) (fun s17 => if inb ((v2_2 + (20 : Int32)) + v3_14) 204 then if inb v3_14 6 then lt (st s17 21 0 (ix v3_14) (s17 34 0 (ix ((v2_2 + (20 : Int32)) + v3_14)))) (fun s18 => if inb ((v2_2 + (26 : Int32)) + v3_14) 204 then if inb v3_14 6 then lt (st s18 22 0 (ix v3_14) (s18 34 0 (ix ((v2_2 + (26 : Int32)) + v3_14)))) (fun s19 => if inb ((v2_2 + (32 : Int32)) + v3_14) 204 then if inb v3_14 6 then lt (st s19 23 0 (ix v3_14) (s19 34 0 (ix ((v2_2 + (32 : Int32)) + v3_14)))) (fun s20 => if inb ((v2_2 + (38 : Int32)) + v3_14) 204 then if inb v3_14 6 then lt (st s20 24 0 (ix v3_14) (s20 34 0 (ix ((v2_2 + (38 : Int32)) + v3_14)))) (fun s21 => if inb ((v2_2 + (44 : Int32)) + v3_14) 204 then if inb v3_14 6 then lt (st s21 25 0 (ix v3_14) (s21 34 0 (ix ((v2_2 + (44 : Int32)) + v3_14)))) (fun s22 => if inb ((v2_2 + (50 : Int32)) + v3_14) 204 then if inb v3_14 6 then lt (st s22 26 0 (ix v3_14) (s22 34 0 (ix ((v2_2 + (50 : Int32)) + v3_14)))) (fun s23 => if inb ((v2_2 + (56 : Int32)) + v3_14) 204 then if inb v3_14 6 then lt (st s23 27 0 (ix v3_14) (s23 34 0 (ix ((v2_2 + (56 : Int32)) + v3_14)))) (fun s24 => rc15 s24 (v3_14 + (1 : Int32))) else none else none) else none else none) else none else none) else none else none) else none else none) else none else none) else none else none) else none else none) else none else none
def f_m_from (s : Sto) (x1 : Int32) : Option (Int32 × Sto) :=
  bP (f_m_in x1 (0 : Int32) (1 : Int32)) (fun r1 => if r1 = (0 : Int32) then bI (f_m_bad s) (fun r27 s28 => some (r27, s28)) else if inb x1 2 then if (s 35 0 (ix x1)) = (0 : Int32) then bI (f_m_no s) (fun r25 s26 => some (r25, s26)) else lt ((102 : Int32) * x1) (fun v2_2 => if inb v2_2 204 then lt (st s 17 0 1 (s 34 0 (ix v2_2))) (fun s3 => if inb (v2_2 + (1 : Int32)) 204 then lt (st s3 17 0 7 (s3 34 0 (ix (v2_2 + (1 : Int32))))) (fun s4 => if inb (v2_2 + (2 : Int32)) 204 then lt (st s4 17 0 27 (s4 34 0 (ix (v2_2 + (2 : Int32))))) (fun s5 => bV (f_m_takes_34 s5 (v2_2 + (3 : Int32))) (fun s6 => jn (fun s7 => fx 1000 (l_m_from_247 v2_2) (fun _ _ => none) s7 (0 : Int32)) (fun K8 => fx 1000 (l_m_from_80 v2_2 K8) (fun _ _ => none) s6 (0 : Int32)))) else none) else none) else none) else none)
set_option maxRecDepth 100000 in
set_option maxHeartbeats 4000000 in
theorem c_m_from {G : Gb} {l : Launch} {o : Sto} {L : Lng} (hG : GA G) (s : Sto) (x1 : Int32)  : CT G l (EM o L) pvI psI yX12_from cX12_from 4 (some .int) 1 22 [.ref (ad G 17 0), .int x1] s (f_m_from s x1) := by
  refine CT.of hG (by decide) (Nat.le_of_ble_eq_true rfl) (fun X hX => ?_)
  have hX : OX G X l cX12_from 4 "CrownTwoModel" (some .int) 1 22 := hX
  show ZR G X (EM o L) pvI psI 4 s [(0, .ref (ad G 17 0)), (1, .int x1)] [] 0 _
  unfold f_m_from
  refine z_iload_n (pc := 0) hX dX12_from_0 rfl 1 rfl ?_
  refine z_iconst (pc := 1) hX dX12_from_1 ic_0 ?_
  refine z_iconst (pc := 2) hX dX12_from_2 ic_1 ?_
  refine z_rP (run_S (pc := 3) (As := [.int x1, .int (0 : Int32), .int (1 : Int32)]) hX ⟨q_925, q_927, q_13⟩ q_926 hd_X12_in ⟨Nat.le_of_ble_eq_true rfl, Nat.le_of_ble_eq_true rfl⟩ (c_m_in hG s x1 (0 : Int32) (1 : Int32)) rfl rfl (Nat.le_of_ble_eq_true rfl) dX12_from_3) (fun r1 => ?_)
  refine z_if_ne (pc := 6) (tgt := 14) hX dX12_from_6 rfl ?_ ?_
  · refine z_aload_n (pc := 14) hX dX12_from_14 rfl 0 rfl ?_
    refine gr_17_34M (pc := 15) hX q_846 dX12_from_15 ?_
    refine z_iload_n (pc := 18) hX dX12_from_18 rfl 1 rfl ?_
    refine ia_35M (pc := 19) hX dX12_from_19 ?_
    refine z_if_ne (pc := 20) (tgt := 28) hX dX12_from_20 rfl ?_ ?_
    · refine z_bipush (pc := 28) hX dX12_from_28 bp_102 ?_
      refine z_iload_n (pc := 30) hX dX12_from_30 rfl 1 rfl ?_
      refine z_imul (pc := 31) hX dX12_from_31 ?_
      refine z_lti (pc := 32) (fun v2_2 => ?_)
      refine z_istore_n (pc := 32) (ls' := [(2, .int v2_2), (0, .ref (ad G 17 0)), (1, .int x1)]) hX dX12_from_32 rfl (by decide) rfl ?_
      refine z_aload_n (pc := 33) hX dX12_from_33 rfl 1 rfl ?_
      refine z_aload_n (pc := 34) hX dX12_from_34 rfl 1 rfl ?_
      refine gr_17_33M (pc := 35) hX q_845 dX12_from_35 ?_
      refine z_iload_n (pc := 38) hX dX12_from_38 rfl 0 rfl ?_
      refine ia_34M (pc := 39) hX dX12_from_39 ?_
      refine pf_17_1M (pc := 40) hX q_813 dX12_from_40 ?_
      refine z_lts (fun s3 => ?_)
      refine z_aload_n (pc := 43) hX dX12_from_43 rfl 1 rfl ?_
      refine z_aload_n (pc := 44) hX dX12_from_44 rfl 1 rfl ?_
      refine gr_17_33M (pc := 45) hX q_845 dX12_from_45 ?_
      refine z_iload_n (pc := 48) hX dX12_from_48 rfl 0 rfl ?_
      refine z_iconst (pc := 49) hX dX12_from_49 ic_1 ?_
      refine z_iadd (pc := 50) hX dX12_from_50 ?_
      refine ia_34M (pc := 51) hX dX12_from_51 ?_
      refine pf_17_7M (pc := 52) hX q_819 dX12_from_52 ?_
      refine z_lts (fun s4 => ?_)
      refine z_aload_n (pc := 55) hX dX12_from_55 rfl 1 rfl ?_
      refine z_aload_n (pc := 56) hX dX12_from_56 rfl 1 rfl ?_
      refine gr_17_33M (pc := 57) hX q_845 dX12_from_57 ?_
      refine z_iload_n (pc := 60) hX dX12_from_60 rfl 0 rfl ?_
      refine z_iconst (pc := 61) hX dX12_from_61 ic_2 ?_
      refine z_iadd (pc := 62) hX dX12_from_62 ?_
      refine ia_34M (pc := 63) hX dX12_from_63 ?_
      refine pf_17_27M (pc := 64) hX q_839 dX12_from_64 ?_
      refine z_lts (fun s5 => ?_)
      refine z_aload_n (pc := 67) hX dX12_from_67 rfl 1 rfl ?_
      refine z_aload_n (pc := 68) hX dX12_from_68 rfl 1 rfl ?_
      refine gr_17_33M (pc := 69) hX q_845 dX12_from_69 ?_
      refine z_iload_n (pc := 72) hX dX12_from_72 rfl 0 rfl ?_
      refine z_iconst (pc := 73) hX dX12_from_73 ic_3 ?_
      refine z_iadd (pc := 74) hX dX12_from_74 ?_
      refine z_rV (run_V (pc := 75) (As := [.ref (ad G 34 0), .int (v2_2 + (3 : Int32))]) hX rc_17 ⟨q_1098, q_1101, q_13⟩ q_1100 qs_53 hd_X12_takes ⟨Nat.le_of_ble_eq_true rfl, Nat.le_of_ble_eq_true rfl⟩ (c_m_takes_34 hG s5 (v2_2 + (3 : Int32))) rfl rfl (Nat.le_of_ble_eq_true rfl) dX12_from_75) (fun s6 => ?_)
      refine z_iconst (pc := 78) hX dX12_from_78 ic_0 ?_
      refine z_istore_n (pc := 79) (ls' := [(3, .int (0 : Int32)), (2, .int v2_2), (0, .ref (ad G 17 0)), (1, .int x1)]) hX dX12_from_79 rfl (by decide) rfl ?_
      refine z_jn (P := fun K8 => ∀ (s7 : Sto), ZR G X (EM o L) pvI psI 4 s7 [(0, .ref (ad G 17 0)), (2, .int v2_2)] [] 245 (K8 s7)) ?_ ?_
      · intro s7
        refine z_iconst (pc := 245) hX dX12_from_245 ic_0 ?_
        refine z_istore_n (pc := 246) (ls' := [(3, .int (0 : Int32)), (0, .ref (ad G 17 0)), (2, .int v2_2)]) hX dX12_from_246 rfl (by decide) rfl ?_
        refine z_ls [1, 2, 0] rfl ?_
        refine (fx_P (F := l_m_from_247 v2_2) (b := (fun _ _ => none)) (fun rc11 => ∀ (s9 : Sto) (v3_10 : Int32), ZR G X (EM o L) pvI psI 4 s9 [(0, .ref (ad G 17 0)), (2, .int v2_2), (3, .int v3_10)] [] 247 (rc11 s9 v3_10)) ?_ ?_ 1000) s7 (0 : Int32)
        · intro s9 v3_10; exact z_none
        · intro rc11 hrc11 s9 v3_10
          unfold l_m_from_247
          refine z_iload_n (pc := 247) hX dX12_from_247 rfl 2 rfl ?_
          refine z_bipush (pc := 248) hX dX12_from_248 bp_40 ?_
          refine z_icmp_ge (pc := 250) (tgt := 276) hX dX12_from_250 rfl ?_ ?_
          · refine z_iconst (pc := 276) hX dX12_from_276 ic_1 ?_
            exact z_retI (pc := 277) hX dX12_from_277
          · refine z_aload_n (pc := 253) hX dX12_from_253 rfl 0 rfl ?_
            refine gr_17_26M (pc := 254) hX q_838 dX12_from_254 ?_
            refine z_iload_n (pc := 257) hX dX12_from_257 rfl 2 rfl ?_
            refine z_aload_n (pc := 258) hX dX12_from_258 rfl 0 rfl ?_
            refine gr_17_33M (pc := 259) hX q_845 dX12_from_259 ?_
            refine z_iload_n (pc := 262) hX dX12_from_262 rfl 1 rfl ?_
            refine z_bipush (pc := 263) hX dX12_from_263 bp_62 ?_
            refine z_iadd (pc := 265) hX dX12_from_265 ?_
            refine z_iload_n (pc := 266) hX dX12_from_266 rfl 2 rfl ?_
            refine z_iadd (pc := 267) hX dX12_from_267 ?_
            refine ia_34M (pc := 268) hX dX12_from_268 ?_
            refine is_30M (pc := 269) hX dX12_from_269 ?_
            refine z_lts (fun s12 => ?_)
            refine z_iinc (pc := 270) (n := 2) (v := v3_10 + (1 : Int32)) (ls' := [(3, .int (v3_10 + (1 : Int32))), (0, .ref (ad G 17 0)), (2, .int v2_2)]) hX dX12_from_270 rfl (by rw [show Int32.ofInt (1) = 1 by decide +kernel]) (by decide) rfl ?_
            refine z_goto (pc := 273) (tgt := 247) hX dX12_from_273 rfl ?_
            exact z_ls [1, 2, 0] rfl (hrc11 s12 (v3_10 + (1 : Int32)))
      · intro K8 hK8
        refine z_ls [2, 1, 0] rfl ?_
        refine (fx_P (F := l_m_from_80 v2_2 K8) (b := (fun _ _ => none)) (fun rc15 => ∀ (s13 : Sto) (v3_14 : Int32), ZR G X (EM o L) pvI psI 4 s13 [(0, .ref (ad G 17 0)), (2, .int v2_2), (3, .int v3_14)] [] 80 (rc15 s13 v3_14)) ?_ ?_ 1000) s6 (0 : Int32)
        · intro s13 v3_14; exact z_none
        · intro rc15 hrc15 s13 v3_14
          unfold l_m_from_80
          refine z_iload_n (pc := 80) hX dX12_from_80 rfl 2 rfl ?_
          refine z_bipush (pc := 81) hX dX12_from_81 bp_6 ?_
          refine z_icmp_ge (pc := 83) (tgt := 245) hX dX12_from_83 rfl ?_ ?_
          · exact z_ls [0, 1] rfl (hK8 s13)
          · refine z_aload_n (pc := 86) hX dX12_from_86 rfl 0 rfl ?_
            refine gr_17_8M (pc := 87) hX q_820 dX12_from_87 ?_
            refine z_iload_n (pc := 90) hX dX12_from_90 rfl 2 rfl ?_
            refine z_aload_n (pc := 91) hX dX12_from_91 rfl 0 rfl ?_
            refine gr_17_33M (pc := 92) hX q_845 dX12_from_92 ?_
            refine z_iload_n (pc := 95) hX dX12_from_95 rfl 1 rfl ?_
            refine z_bipush (pc := 96) hX dX12_from_96 bp_8 ?_
            refine z_iadd (pc := 98) hX dX12_from_98 ?_
            refine z_iload_n (pc := 99) hX dX12_from_99 rfl 2 rfl ?_
            refine z_iadd (pc := 100) hX dX12_from_100 ?_
            refine ia_34M (pc := 101) hX dX12_from_101 ?_
            refine is_19M (pc := 102) hX dX12_from_102 ?_
            refine z_lts (fun s16 => ?_)
            refine z_aload_n (pc := 103) hX dX12_from_103 rfl 0 rfl ?_
            refine gr_17_9M (pc := 104) hX q_821 dX12_from_104 ?_
            refine z_iload_n (pc := 107) hX dX12_from_107 rfl 2 rfl ?_
            refine z_aload_n (pc := 108) hX dX12_from_108 rfl 0 rfl ?_
            refine gr_17_33M (pc := 109) hX q_845 dX12_from_109 ?_
            refine z_iload_n (pc := 112) hX dX12_from_112 rfl 1 rfl ?_
            refine z_bipush (pc := 113) hX dX12_from_113 bp_14 ?_
            refine z_iadd (pc := 115) hX dX12_from_115 ?_
            refine z_iload_n (pc := 116) hX dX12_from_116 rfl 2 rfl ?_
            refine z_iadd (pc := 117) hX dX12_from_117 ?_
            refine ia_34M (pc := 118) hX dX12_from_118 ?_
            refine is_20M (pc := 119) hX dX12_from_119 ?_
            refine z_lts (fun s17 => ?_)
            refine z_aload_n (pc := 120) hX dX12_from_120 rfl 0 rfl ?_
            refine gr_17_10M (pc := 121) hX q_822 dX12_from_121 ?_
            refine z_iload_n (pc := 124) hX dX12_from_124 rfl 2 rfl ?_
            refine z_aload_n (pc := 125) hX dX12_from_125 rfl 0 rfl ?_
            refine gr_17_33M (pc := 126) hX q_845 dX12_from_126 ?_
            refine z_iload_n (pc := 129) hX dX12_from_129 rfl 1 rfl ?_
            refine z_bipush (pc := 130) hX dX12_from_130 bp_20 ?_
            refine z_iadd (pc := 132) hX dX12_from_132 ?_
            refine z_iload_n (pc := 133) hX dX12_from_133 rfl 2 rfl ?_
            refine z_iadd (pc := 134) hX dX12_from_134 ?_
            refine ia_34M (pc := 135) hX dX12_from_135 ?_
            refine is_21M (pc := 136) hX dX12_from_136 ?_
            refine z_lts (fun s18 => ?_)
            refine z_aload_n (pc := 137) hX dX12_from_137 rfl 0 rfl ?_
            refine gr_17_11M (pc := 138) hX q_823 dX12_from_138 ?_
            refine z_iload_n (pc := 141) hX dX12_from_141 rfl 2 rfl ?_
            refine z_aload_n (pc := 142) hX dX12_from_142 rfl 0 rfl ?_
            refine gr_17_33M (pc := 143) hX q_845 dX12_from_143 ?_
            refine z_iload_n (pc := 146) hX dX12_from_146 rfl 1 rfl ?_
            refine z_bipush (pc := 147) hX dX12_from_147 bp_26 ?_
            refine z_iadd (pc := 149) hX dX12_from_149 ?_
            refine z_iload_n (pc := 150) hX dX12_from_150 rfl 2 rfl ?_
            refine z_iadd (pc := 151) hX dX12_from_151 ?_
            refine ia_34M (pc := 152) hX dX12_from_152 ?_
            refine is_22M (pc := 153) hX dX12_from_153 ?_
            refine z_lts (fun s19 => ?_)
            refine z_aload_n (pc := 154) hX dX12_from_154 rfl 0 rfl ?_
            refine gr_17_12M (pc := 155) hX q_824 dX12_from_155 ?_
            refine z_iload_n (pc := 158) hX dX12_from_158 rfl 2 rfl ?_
            refine z_aload_n (pc := 159) hX dX12_from_159 rfl 0 rfl ?_
            refine gr_17_33M (pc := 160) hX q_845 dX12_from_160 ?_
            refine z_iload_n (pc := 163) hX dX12_from_163 rfl 1 rfl ?_
            refine z_bipush (pc := 164) hX dX12_from_164 bp_32 ?_
            refine z_iadd (pc := 166) hX dX12_from_166 ?_
            refine z_iload_n (pc := 167) hX dX12_from_167 rfl 2 rfl ?_
            refine z_iadd (pc := 168) hX dX12_from_168 ?_
            refine ia_34M (pc := 169) hX dX12_from_169 ?_
            refine is_23M (pc := 170) hX dX12_from_170 ?_
            refine z_lts (fun s20 => ?_)
            refine z_aload_n (pc := 171) hX dX12_from_171 rfl 0 rfl ?_
            refine gr_17_13M (pc := 172) hX q_825 dX12_from_172 ?_
            refine z_iload_n (pc := 175) hX dX12_from_175 rfl 2 rfl ?_
            refine z_aload_n (pc := 176) hX dX12_from_176 rfl 0 rfl ?_
            refine gr_17_33M (pc := 177) hX q_845 dX12_from_177 ?_
            refine z_iload_n (pc := 180) hX dX12_from_180 rfl 1 rfl ?_
            refine z_bipush (pc := 181) hX dX12_from_181 bp_38 ?_
            refine z_iadd (pc := 183) hX dX12_from_183 ?_
            refine z_iload_n (pc := 184) hX dX12_from_184 rfl 2 rfl ?_
            refine z_iadd (pc := 185) hX dX12_from_185 ?_
            refine ia_34M (pc := 186) hX dX12_from_186 ?_
            refine is_24M (pc := 187) hX dX12_from_187 ?_
            refine z_lts (fun s21 => ?_)
            refine z_aload_n (pc := 188) hX dX12_from_188 rfl 0 rfl ?_
            refine gr_17_14M (pc := 189) hX q_826 dX12_from_189 ?_
            refine z_iload_n (pc := 192) hX dX12_from_192 rfl 2 rfl ?_
            refine z_aload_n (pc := 193) hX dX12_from_193 rfl 0 rfl ?_
            refine gr_17_33M (pc := 194) hX q_845 dX12_from_194 ?_
            refine z_iload_n (pc := 197) hX dX12_from_197 rfl 1 rfl ?_
            refine z_bipush (pc := 198) hX dX12_from_198 bp_44 ?_
            refine z_iadd (pc := 200) hX dX12_from_200 ?_
            refine z_iload_n (pc := 201) hX dX12_from_201 rfl 2 rfl ?_
            refine z_iadd (pc := 202) hX dX12_from_202 ?_
            refine ia_34M (pc := 203) hX dX12_from_203 ?_
            refine is_25M (pc := 204) hX dX12_from_204 ?_
            refine z_lts (fun s22 => ?_)
            refine z_aload_n (pc := 205) hX dX12_from_205 rfl 0 rfl ?_
            refine gr_17_15M (pc := 206) hX q_827 dX12_from_206 ?_
            refine z_iload_n (pc := 209) hX dX12_from_209 rfl 2 rfl ?_
            refine z_aload_n (pc := 210) hX dX12_from_210 rfl 0 rfl ?_
            refine gr_17_33M (pc := 211) hX q_845 dX12_from_211 ?_
            refine z_iload_n (pc := 214) hX dX12_from_214 rfl 1 rfl ?_
            refine z_bipush (pc := 215) hX dX12_from_215 bp_50 ?_
            refine z_iadd (pc := 217) hX dX12_from_217 ?_
            refine z_iload_n (pc := 218) hX dX12_from_218 rfl 2 rfl ?_
            refine z_iadd (pc := 219) hX dX12_from_219 ?_
            refine ia_34M (pc := 220) hX dX12_from_220 ?_
            refine is_26M (pc := 221) hX dX12_from_221 ?_
            refine z_lts (fun s23 => ?_)
            refine z_aload_n (pc := 222) hX dX12_from_222 rfl 0 rfl ?_
            refine gr_17_16M (pc := 223) hX q_828 dX12_from_223 ?_
            refine z_iload_n (pc := 226) hX dX12_from_226 rfl 2 rfl ?_
            refine z_aload_n (pc := 227) hX dX12_from_227 rfl 0 rfl ?_
            refine gr_17_33M (pc := 228) hX q_845 dX12_from_228 ?_
            refine z_iload_n (pc := 231) hX dX12_from_231 rfl 1 rfl ?_
            refine z_bipush (pc := 232) hX dX12_from_232 bp_56 ?_
            refine z_iadd (pc := 234) hX dX12_from_234 ?_
            refine z_iload_n (pc := 235) hX dX12_from_235 rfl 2 rfl ?_
            refine z_iadd (pc := 236) hX dX12_from_236 ?_
            refine ia_34M (pc := 237) hX dX12_from_237 ?_
            refine is_27M (pc := 238) hX dX12_from_238 ?_
            refine z_lts (fun s24 => ?_)
            refine z_iinc (pc := 239) (n := 2) (v := v3_14 + (1 : Int32)) (ls' := [(3, .int (v3_14 + (1 : Int32))), (0, .ref (ad G 17 0)), (2, .int v2_2)]) hX dX12_from_239 rfl (by rw [show Int32.ofInt (1) = 1 by decide +kernel]) (by decide) rfl ?_
            refine z_goto (pc := 242) (tgt := 80) hX dX12_from_242 rfl ?_
            exact z_ls [1, 2, 0] rfl (hrc15 s24 (v3_14 + (1 : Int32)))
    · refine z_aload_n (pc := 23) hX dX12_from_23 rfl 0 rfl ?_
      refine z_rI (run_V (pc := 24) (As := []) hX rc_17 ⟨q_1048, q_1051, q_13⟩ q_1050 qs_45 hd_X12_no ⟨Nat.le_of_ble_eq_true rfl, Nat.le_of_ble_eq_true rfl⟩ (c_m_no hG s) rfl rfl (Nat.le_of_ble_eq_true rfl) dX12_from_24) (fun r25 s26 => ?_)
      exact z_retI (pc := 27) hX dX12_from_27
  · refine z_aload_n (pc := 9) hX dX12_from_9 rfl 0 rfl ?_
    refine z_rI (run_V (pc := 10) (As := []) hX rc_17 ⟨q_928, q_931, q_13⟩ q_930 qs_24 hd_X12_bad ⟨Nat.le_of_ble_eq_true rfl, Nat.le_of_ble_eq_true rfl⟩ (c_m_bad hG s) rfl rfl (Nat.le_of_ble_eq_true rfl) dX12_from_10) (fun r27 s28 => ?_)
    exact z_retI (pc := 13) hX dX12_from_13
theorem hd_X12_status : yX12_status.cls ≠ "java/lang/invoke/MethodHandle" ∧ yX12_status.cls ≠ "java/lang/invoke/VarHandle" ∧ (parseMethodDescriptor yX12_status.desc).map (fun d => d.parameters.length) = some 1 := by decide +kernel
def f_m_status (s : Sto) (x1 : Int32) : Option (Int32 × Sto) :=
  bP (f_m_in x1 (0 : Int32) (2 : Int32)) (fun r1 => if r1 = (0 : Int32) then if inb (0 : Int32) 3 then if inb (0 : Int32) 3 then lt (st s 18 0 (ix (0 : Int32)) ((s 18 0 (ix (0 : Int32))) + (1 : Int32))) (fun s2 => some ((-1 : Int32), s2)) else none else none else if inb x1 3 then some (s 18 0 (ix x1), s) else none)
set_option maxRecDepth 100000 in
set_option maxHeartbeats 4000000 in
theorem c_m_status {G : Gb} {l : Launch} {o : Sto} {L : Lng} (hG : GA G) (s : Sto) (x1 : Int32)  : CT G l (EM o L) pvI psI yX12_status cX12_status 2 (some .int) 1 22 [.ref (ad G 17 0), .int x1] s (f_m_status s x1) := by
  refine CT.of hG (by decide) (Nat.le_of_ble_eq_true rfl) (fun X hX => ?_)
  have hX : OX G X l cX12_status 2 "CrownTwoModel" (some .int) 1 22 := hX
  show ZR G X (EM o L) pvI psI 2 s [(0, .ref (ad G 17 0)), (1, .int x1)] [] 0 _
  unfold f_m_status
  refine z_iload_n (pc := 0) hX dX12_status_0 rfl 1 rfl ?_
  refine z_iconst (pc := 1) hX dX12_status_1 ic_0 ?_
  refine z_iconst (pc := 2) hX dX12_status_2 ic_2 ?_
  refine z_rP (run_S (pc := 3) (As := [.int x1, .int (0 : Int32), .int (2 : Int32)]) hX ⟨q_925, q_927, q_13⟩ q_926 hd_X12_in ⟨Nat.le_of_ble_eq_true rfl, Nat.le_of_ble_eq_true rfl⟩ (c_m_in hG s x1 (0 : Int32) (2 : Int32)) rfl rfl (Nat.le_of_ble_eq_true rfl) dX12_status_3) (fun r1 => ?_)
  refine z_if_ne (pc := 6) (tgt := 21) hX dX12_status_6 rfl ?_ ?_
  · refine z_aload_n (pc := 21) hX dX12_status_21 rfl 0 rfl ?_
    refine gr_17_0M (pc := 22) hX q_812 dX12_status_22 ?_
    refine z_iload_n (pc := 25) hX dX12_status_25 rfl 1 rfl ?_
    refine ia_18M (pc := 26) hX dX12_status_26 ?_
    exact z_retI (pc := 27) hX dX12_status_27
  · refine z_aload_n (pc := 9) hX dX12_status_9 rfl 0 rfl ?_
    refine gr_17_0M (pc := 10) hX q_812 dX12_status_10 ?_
    refine z_iconst (pc := 13) hX dX12_status_13 ic_0 ?_
    refine z_dup2 (pc := 14) hX dX12_status_14 rfl rfl ?_
    refine ia_18M (pc := 15) hX dX12_status_15 ?_
    refine z_iconst (pc := 16) hX dX12_status_16 ic_1 ?_
    refine z_iadd (pc := 17) hX dX12_status_17 ?_
    refine is_18M (pc := 18) hX dX12_status_18 ?_
    refine z_lts (fun s2 => ?_)
    refine z_iconst (pc := 19) hX dX12_status_19 ic_m1 ?_
    exact z_retI (pc := 20) hX dX12_status_20
theorem hd_X12_countOf : yX12_countOf.cls ≠ "java/lang/invoke/MethodHandle" ∧ yX12_countOf.cls ≠ "java/lang/invoke/VarHandle" ∧ (parseMethodDescriptor yX12_countOf.desc).map (fun d => d.parameters.length) = some 1 := by decide +kernel
def f_m_countOf (s : Sto) (x1 : Int32) : Option (Int32) :=
  if x1 = (0 : Int32) then some (s 17 0 1) else if x1 = (1 : Int32) then some (s 17 0 3) else if x1 = (2 : Int32) then some (s 17 0 2) else if x1 = (3 : Int32) then bP (f_m_bits (s 17 0 4)) (fun r1 => some r1) else if x1 = (4 : Int32) then some (s 17 0 7) else if x1 = (5 : Int32) then some (s 17 0 27) else some (s 17 0 18)
set_option maxRecDepth 100000 in
set_option maxHeartbeats 4000000 in
theorem c_m_countOf {G : Gb} {l : Launch} {o : Sto} {L : Lng} (hG : GA G) (s : Sto) (x1 : Int32)  : CT G l (EM o L) pvP (psP s) yX12_countOf cX12_countOf 2 (some .int) 1 22 [.ref (ad G 17 0), .int x1] s (f_m_countOf s x1) := by
  refine CT.of hG (by decide) (Nat.le_of_ble_eq_true rfl) (fun X hX => ?_)
  have hX : OX G X l cX12_countOf 2 "CrownTwoModel" (some .int) 1 22 := hX
  show ZR G X (EM o L) pvP (psP s) 2 s [(0, .ref (ad G 17 0)), (1, .int x1)] [] 0 _
  unfold f_m_countOf
  refine z_iload_n (pc := 0) hX dX12_countOf_0 rfl 1 rfl ?_
  refine z_tab1 (pc := 1) (tgt := 40) (v := 0) (off := 39) hX dX12_countOf_1 (by decide +kernel) (by decide +kernel) (by decide +kernel) rfl ?_ (fun hn0 => ?_)
  · refine z_aload_n (pc := 40) hX dX12_countOf_40 rfl 0 rfl ?_
    refine gf_17_1M (pc := 41) hX q_813 dX12_countOf_41 ?_
    exact z_retP (pc := 44) hX dX12_countOf_44
  · refine z_tab1 (pc := 1) (tgt := 45) (v := 1) (off := 44) hX dX12_countOf_1 (by decide +kernel) (by decide +kernel) (by decide +kernel) rfl ?_ (fun hn1 => ?_)
    · refine z_aload_n (pc := 45) hX dX12_countOf_45 rfl 0 rfl ?_
      refine gf_17_3M (pc := 46) hX q_815 dX12_countOf_46 ?_
      exact z_retP (pc := 49) hX dX12_countOf_49
    · refine z_tab1 (pc := 1) (tgt := 50) (v := 2) (off := 49) hX dX12_countOf_1 (by decide +kernel) (by decide +kernel) (by decide +kernel) rfl ?_ (fun hn2 => ?_)
      · refine z_aload_n (pc := 50) hX dX12_countOf_50 rfl 0 rfl ?_
        refine gf_17_2M (pc := 51) hX q_814 dX12_countOf_51 ?_
        exact z_retP (pc := 54) hX dX12_countOf_54
      · refine z_tab1 (pc := 1) (tgt := 55) (v := 3) (off := 54) hX dX12_countOf_1 (by decide +kernel) (by decide +kernel) (by decide +kernel) rfl ?_ (fun hn3 => ?_)
        · refine z_aload_n (pc := 55) hX dX12_countOf_55 rfl 0 rfl ?_
          refine gf_17_4M (pc := 56) hX q_816 dX12_countOf_56 ?_
          refine z_rP (run_S (pc := 59) (As := [.int (s 17 0 4)]) hX ⟨q_1154, q_1156, q_13⟩ q_1155 hd_X12_bits ⟨Nat.le_of_ble_eq_true rfl, Nat.le_of_ble_eq_true rfl⟩ (c_m_bits hG s (s 17 0 4)) rfl rfl (Nat.le_of_ble_eq_true rfl) dX12_countOf_59) (fun r1 => ?_)
          exact z_retP (pc := 62) hX dX12_countOf_62
        · refine z_tab1 (pc := 1) (tgt := 63) (v := 4) (off := 62) hX dX12_countOf_1 (by decide +kernel) (by decide +kernel) (by decide +kernel) rfl ?_ (fun hn4 => ?_)
          · refine z_aload_n (pc := 63) hX dX12_countOf_63 rfl 0 rfl ?_
            refine gf_17_7M (pc := 64) hX q_819 dX12_countOf_64 ?_
            exact z_retP (pc := 67) hX dX12_countOf_67
          · refine z_tab1 (pc := 1) (tgt := 68) (v := 5) (off := 67) hX dX12_countOf_1 (by decide +kernel) (by decide +kernel) (by decide +kernel) rfl ?_ (fun hn5 => ?_)
            · refine z_aload_n (pc := 68) hX dX12_countOf_68 rfl 0 rfl ?_
              refine gf_17_27M (pc := 69) hX q_839 dX12_countOf_69 ?_
              exact z_retP (pc := 72) hX dX12_countOf_72
            · refine z_tab0 (pc := 1) (tgt := 73) hX dX12_countOf_1 (sw_out [0, 1, 2, 3, 4, 5] (List.forall_mem_cons.mpr ⟨hn0, List.forall_mem_cons.mpr ⟨hn1, List.forall_mem_cons.mpr ⟨hn2, List.forall_mem_cons.mpr ⟨hn3, List.forall_mem_cons.mpr ⟨hn4, List.forall_mem_cons.mpr ⟨hn5, fun _ h => absurd h List.not_mem_nil⟩⟩⟩⟩⟩⟩) (by decide +kernel)) rfl ?_
              refine z_aload_n (pc := 73) hX dX12_countOf_73 rfl 0 rfl ?_
              refine gf_17_18M (pc := 74) hX q_830 dX12_countOf_74 ?_
              exact z_retP (pc := 77) hX dX12_countOf_77
theorem hd_X12_count : yX12_count.cls ≠ "java/lang/invoke/MethodHandle" ∧ yX12_count.cls ≠ "java/lang/invoke/VarHandle" ∧ (parseMethodDescriptor yX12_count.desc).map (fun d => d.parameters.length) = some 1 := by decide +kernel
def f_m_count (s : Sto) (x1 : Int32) : Option (Int32 × Sto) :=
  bP (f_m_in x1 (0 : Int32) (6 : Int32)) (fun r1 => if r1 = (0 : Int32) then bI (f_m_bad s) (fun r2 s3 => some (r2, s3)) else bP (f_m_countOf s x1) (fun r4 => some (r4, s)))
set_option maxRecDepth 100000 in
set_option maxHeartbeats 4000000 in
theorem c_m_count {G : Gb} {l : Launch} {o : Sto} {L : Lng} (hG : GA G) (s : Sto) (x1 : Int32)  : CT G l (EM o L) pvI psI yX12_count cX12_count 2 (some .int) 2 43 [.ref (ad G 17 0), .int x1] s (f_m_count s x1) := by
  refine CT.of hG (by decide) (Nat.le_of_ble_eq_true rfl) (fun X hX => ?_)
  have hX : OX G X l cX12_count 2 "CrownTwoModel" (some .int) 2 43 := hX
  show ZR G X (EM o L) pvI psI 2 s [(0, .ref (ad G 17 0)), (1, .int x1)] [] 0 _
  unfold f_m_count
  refine z_iload_n (pc := 0) hX dX12_count_0 rfl 1 rfl ?_
  refine z_iconst (pc := 1) hX dX12_count_1 ic_0 ?_
  refine z_bipush (pc := 2) hX dX12_count_2 bp_6 ?_
  refine z_rP (run_S (pc := 4) (As := [.int x1, .int (0 : Int32), .int (6 : Int32)]) hX ⟨q_925, q_927, q_13⟩ q_926 hd_X12_in ⟨Nat.le_of_ble_eq_true rfl, Nat.le_of_ble_eq_true rfl⟩ (c_m_in hG s x1 (0 : Int32) (6 : Int32)) rfl rfl (Nat.le_of_ble_eq_true rfl) dX12_count_4) (fun r1 => ?_)
  refine z_if_eq (pc := 7) (tgt := 18) hX dX12_count_7 rfl ?_ ?_
  · refine z_aload_n (pc := 18) hX dX12_count_18 rfl 0 rfl ?_
    refine z_rI (run_V (pc := 19) (As := []) hX rc_17 ⟨q_928, q_931, q_13⟩ q_930 qs_24 hd_X12_bad ⟨Nat.le_of_ble_eq_true rfl, Nat.le_of_ble_eq_true rfl⟩ (c_m_bad hG s) rfl rfl (Nat.le_of_ble_eq_true rfl) dX12_count_19) (fun r2 s3 => ?_)
    exact z_retI (pc := 22) hX dX12_count_22
  · refine z_aload_n (pc := 10) hX dX12_count_10 rfl 0 rfl ?_
    refine z_iload_n (pc := 11) hX dX12_count_11 rfl 1 rfl ?_
    refine z_rP (run_V (pc := 12) (As := [.int x1]) hX rc_17 ⟨q_1256, q_1259, q_13⟩ q_1258 qs_67 hd_X12_countOf ⟨Nat.le_of_ble_eq_true rfl, Nat.le_of_ble_eq_true rfl⟩ (c_m_countOf hG s x1) rfl rfl (Nat.le_of_ble_eq_true rfl) dX12_count_12) (fun r4 => ?_)
    refine z_goto (pc := 15) (tgt := 22) hX dX12_count_15 rfl ?_
    exact z_retI (pc := 22) hX dX12_count_22
theorem hd_X12_mix : yX12_mix.cls ≠ "java/lang/invoke/MethodHandle" ∧ yX12_mix.cls ≠ "java/lang/invoke/VarHandle" ∧ (parseMethodDescriptor yX12_mix.desc).map (fun d => d.parameters.length) = some 1 := by decide +kernel
def f_m_mix (s : (Sto × Lng)) (x1 : Int64) : Option ((Sto × Lng)) :=
  lt ((s.1, stl s.2 35 (((31 : Int64) * (s.2 35)) + x1))) (fun s1 => some s1)
set_option maxRecDepth 100000 in
set_option maxHeartbeats 4000000 in
theorem c_m_mix {G : Gb} {l : Launch} {o : Sto} (hG : GA G) (s : (Sto × Lng)) (x1 : Int64)  : CT G l (EL o) pvV psV yX12_mix cX12_mix 3 none 0 0 [.ref (ad G 17 0), .long x1] s (f_m_mix s x1) := by
  refine CT.of hG (by decide) (Nat.le_of_ble_eq_true rfl) (fun X hX => ?_)
  have hX : OX G X l cX12_mix 3 "CrownTwoModel" none 0 0 := hX
  show ZR G X (EL o) pvV psV 3 s [(0, .ref (ad G 17 0)), (1, .long x1)] [] 0 _
  unfold f_m_mix
  refine z_aload_n (pc := 0) hX dX12_mix_0 rfl 0 rfl ?_
  refine z_ldc2 (pc := 1) hX q_1269 dX12_mix_1 ?_
  refine z_aload_n (pc := 4) hX dX12_mix_4 rfl 0 rfl ?_
  refine gl_17_35L (pc := 5) hX q_847 dX12_mix_5 ?_
  refine z_lmul (pc := 8) hX dX12_mix_8 ?_
  refine z_lload_n (pc := 9) hX dX12_mix_9 rfl 1 rfl ?_
  refine z_ladd (pc := 10) hX dX12_mix_10 ?_
  refine pl_17_35L (pc := 11) hX q_847 dX12_mix_11 ?_
  refine z_lts (fun s1 => ?_)
  exact z_retV (pc := 14) hX dX12_mix_14
theorem hd_X12_digest : yX12_digest.cls ≠ "java/lang/invoke/MethodHandle" ∧ yX12_digest.cls ≠ "java/lang/invoke/VarHandle" ∧ (parseMethodDescriptor yX12_digest.desc).map (fun d => d.parameters.length) = some 0 := by decide +kernel
def l_m_digest_120 (K10 : (Sto × Lng) → Option (Int64 × (Sto × Lng))) (rc15 : (Sto × Lng) → Int32 → Option (Int64 × (Sto × Lng))) (s13 : (Sto × Lng)) (v1_14 : Int32) : Option (Int64 × (Sto × Lng)) :=
  if (s13.1 17 0 7) ≤ v1_14 then K10 s13 else if inb v1_14 6 then bV (f_m_mix s13 (Int32.toInt64 (s13.1 23 0 (ix v1_14)))) (fun s16 => if inb v1_14 6 then bV (f_m_mix s16 (Int32.toInt64 (s16.1 24 0 (ix v1_14)))) (fun s17 => if inb v1_14 6 then bV (f_m_mix s17 (Int32.toInt64 (s17.1 25 0 (ix v1_14)))) (fun s18 => if inb v1_14 6 then bV (f_m_mix s18 (Int32.toInt64 (s18.1 26 0 (ix v1_14)))) (fun s19 => if inb v1_14 6 then bV (f_m_mix s19 (Int32.toInt64 (s19.1 27 0 (ix v1_14)))) (fun s20 => rc15 s20 (v1_14 + (1 : Int32))) else none) else none) else none) else none) else none
def l_m_digest_60 (K8 : (Sto × Lng) → Option (Int64 × (Sto × Lng))) (rc23 : (Sto × Lng) → Int32 → Option (Int64 × (Sto × Lng))) (s21 : (Sto × Lng)) (v1_22 : Int32) : Option (Int64 × (Sto × Lng)) :=
  if (s21.1 17 0 1) ≤ v1_22 then K8 s21 else if inb v1_22 6 then bV (f_m_mix s21 (Int32.toInt64 (s21.1 19 0 (ix v1_22)))) (fun s24 => if inb v1_22 6 then bV (f_m_mix s24 (Int32.toInt64 (s24.1 20 0 (ix v1_22)))) (fun s25 => if inb v1_22 6 then bV (f_m_mix s25 (Int32.toInt64 (s25.1 21 0 (ix v1_22)))) (fun s26 => if inb v1_22 6 then bV (f_m_mix s26 (Int32.toInt64 (s26.1 22 0 (ix v1_22)))) (fun s27 => rc23 s27 (v1_22 + (1 : Int32))) else none) else none) else none) else none
def l_m_digest_9 (K3 : (Sto × Lng) → Option (Int64 × (Sto × Lng))) (rc30 : (Sto × Lng) → Int32 → Option (Int64 × (Sto × Lng))) (s28 : (Sto × Lng)) (v1_29 : Int32) : Option (Int64 × (Sto × Lng)) :=
  if (6 : Int32) < v1_29 then K3 s28 else bP (f_m_countOf s28.1 v1_29) (fun r31 => bV (f_m_mix s28 (Int32.toInt64 r31)) (fun s32 => rc30 s32 (v1_29 + (1 : Int32))))
def f_m_digest (s : (Sto × Lng))  : Option (Int64 × (Sto × Lng)) :=
  lt ((s.1, stl s.2 35 (1249 : Int64))) (fun s1 => jn (fun s2 => bV (f_m_mix s2 (Int32.toInt64 (s2.1 17 0 4))) (fun s4 => bV (f_m_mix s4 (Int32.toInt64 (s4.1 17 0 5))) (fun s5 => bV (f_m_mix s5 (Int32.toInt64 (s5.1 17 0 6))) (fun s6 => jn (fun s7 => jn (fun s9 => bV (f_m_mix s9 (s9.2 31)) (fun s11 => bV (f_m_mix s11 (s11.2 32)) (fun s12 => some (s12.2 35, s12)))) (fun K10 => fx 1000 (l_m_digest_120 K10) (fun _ _ => none) s7 (0 : Int32))) (fun K8 => fx 1000 (l_m_digest_60 K8) (fun _ _ => none) s6 (0 : Int32)))))) (fun K3 => fx 1000 (l_m_digest_9 K3) (fun _ _ => none) s1 (0 : Int32)))
set_option maxRecDepth 100000 in
set_option maxHeartbeats 4000000 in
theorem c_m_digest {G : Gb} {l : Launch} {o : Sto} (hG : GA G) (s : (Sto × Lng))   : CT G l (EL o) pvM psM yX12_digest cX12_digest 2 (some .long) 2 43 [.ref (ad G 17 0)] s (f_m_digest s) := by
  refine CT.of hG (by decide) (Nat.le_of_ble_eq_true rfl) (fun X hX => ?_)
  have hX : OX G X l cX12_digest 2 "CrownTwoModel" (some .long) 2 43 := hX
  show ZR G X (EL o) pvM psM 2 s [(0, .ref (ad G 17 0))] [] 0 _
  unfold f_m_digest
  refine z_aload_n (pc := 0) hX dX12_digest_0 rfl 0 rfl ?_
  refine z_ldc2 (pc := 1) hX q_1264 dX12_digest_1 ?_
  refine pl_17_35L (pc := 4) hX q_847 dX12_digest_4 ?_
  refine z_lts (fun s1 => ?_)
  refine z_iconst (pc := 7) hX dX12_digest_7 ic_0 ?_
  refine z_istore_n (pc := 8) (ls' := [(1, .int (0 : Int32)), (0, .ref (ad G 17 0))]) hX dX12_digest_8 rfl (by decide) rfl ?_
  refine z_jn (P := fun K3 => ∀ (s2 : (Sto × Lng)), ZR G X (EL o) pvM psM 2 s2 [(0, .ref (ad G 17 0))] [] 31 (K3 s2)) ?_ ?_
  · intro s2
    refine z_aload_n (pc := 31) hX dX12_digest_31 rfl 0 rfl ?_
    refine z_aload_n (pc := 32) hX dX12_digest_32 rfl 0 rfl ?_
    refine gf_17_4L (pc := 33) hX q_816 dX12_digest_33 ?_
    refine z_i2l (pc := 36) hX dX12_digest_36 ?_
    refine z_rV (run_V (pc := 37) (As := [.long (Int32.toInt64 (s2.1 17 0 4))]) hX rc_17 ⟨q_1265, q_1268, q_13⟩ q_1267 qs_68 hd_X12_mix ⟨Nat.le_of_ble_eq_true rfl, Nat.le_of_ble_eq_true rfl⟩ (c_m_mix hG s2 (Int32.toInt64 (s2.1 17 0 4))) rfl rfl (Nat.le_of_ble_eq_true rfl) dX12_digest_37) (fun s4 => ?_)
    refine z_aload_n (pc := 40) hX dX12_digest_40 rfl 0 rfl ?_
    refine z_aload_n (pc := 41) hX dX12_digest_41 rfl 0 rfl ?_
    refine gf_17_5L (pc := 42) hX q_817 dX12_digest_42 ?_
    refine z_i2l (pc := 45) hX dX12_digest_45 ?_
    refine z_rV (run_V (pc := 46) (As := [.long (Int32.toInt64 (s4.1 17 0 5))]) hX rc_17 ⟨q_1265, q_1268, q_13⟩ q_1267 qs_68 hd_X12_mix ⟨Nat.le_of_ble_eq_true rfl, Nat.le_of_ble_eq_true rfl⟩ (c_m_mix hG s4 (Int32.toInt64 (s4.1 17 0 5))) rfl rfl (Nat.le_of_ble_eq_true rfl) dX12_digest_46) (fun s5 => ?_)
    refine z_aload_n (pc := 49) hX dX12_digest_49 rfl 0 rfl ?_
    refine z_aload_n (pc := 50) hX dX12_digest_50 rfl 0 rfl ?_
    refine gf_17_6L (pc := 51) hX q_818 dX12_digest_51 ?_
    refine z_i2l (pc := 54) hX dX12_digest_54 ?_
    refine z_rV (run_V (pc := 55) (As := [.long (Int32.toInt64 (s5.1 17 0 6))]) hX rc_17 ⟨q_1265, q_1268, q_13⟩ q_1267 qs_68 hd_X12_mix ⟨Nat.le_of_ble_eq_true rfl, Nat.le_of_ble_eq_true rfl⟩ (c_m_mix hG s5 (Int32.toInt64 (s5.1 17 0 6))) rfl rfl (Nat.le_of_ble_eq_true rfl) dX12_digest_55) (fun s6 => ?_)
    refine z_iconst (pc := 58) hX dX12_digest_58 ic_0 ?_
    refine z_istore_n (pc := 59) (ls' := [(1, .int (0 : Int32)), (0, .ref (ad G 17 0))]) hX dX12_digest_59 rfl (by decide) rfl ?_
    refine z_jn (P := fun K8 => ∀ (s7 : (Sto × Lng)), ZR G X (EL o) pvM psM 2 s7 [(0, .ref (ad G 17 0))] [] 118 (K8 s7)) ?_ ?_
    · intro s7
      refine z_iconst (pc := 118) hX dX12_digest_118 ic_0 ?_
      refine z_istore_n (pc := 119) (ls' := [(1, .int (0 : Int32)), (0, .ref (ad G 17 0))]) hX dX12_digest_119 rfl (by decide) rfl ?_
      refine z_jn (P := fun K10 => ∀ (s9 : (Sto × Lng)), ZR G X (EL o) pvM psM 2 s9 [(0, .ref (ad G 17 0))] [] 189 (K10 s9)) ?_ ?_
      · intro s9
        refine z_aload_n (pc := 189) hX dX12_digest_189 rfl 0 rfl ?_
        refine z_aload_n (pc := 190) hX dX12_digest_190 rfl 0 rfl ?_
        refine gl_17_31L (pc := 191) hX q_843 dX12_digest_191 ?_
        refine z_rV (run_V (pc := 194) (As := [.long (s9.2 31)]) hX rc_17 ⟨q_1265, q_1268, q_13⟩ q_1267 qs_68 hd_X12_mix ⟨Nat.le_of_ble_eq_true rfl, Nat.le_of_ble_eq_true rfl⟩ (c_m_mix hG s9 (s9.2 31)) rfl rfl (Nat.le_of_ble_eq_true rfl) dX12_digest_194) (fun s11 => ?_)
        refine z_aload_n (pc := 197) hX dX12_digest_197 rfl 0 rfl ?_
        refine z_aload_n (pc := 198) hX dX12_digest_198 rfl 0 rfl ?_
        refine gl_17_32L (pc := 199) hX q_844 dX12_digest_199 ?_
        refine z_rV (run_V (pc := 202) (As := [.long (s11.2 32)]) hX rc_17 ⟨q_1265, q_1268, q_13⟩ q_1267 qs_68 hd_X12_mix ⟨Nat.le_of_ble_eq_true rfl, Nat.le_of_ble_eq_true rfl⟩ (c_m_mix hG s11 (s11.2 32)) rfl rfl (Nat.le_of_ble_eq_true rfl) dX12_digest_202) (fun s12 => ?_)
        refine z_aload_n (pc := 205) hX dX12_digest_205 rfl 0 rfl ?_
        refine gl_17_35L (pc := 206) hX q_847 dX12_digest_206 ?_
        exact z_retM (pc := 209) hX dX12_digest_209
      · intro K10 hK10
        refine z_ls [1, 0] rfl ?_
        refine (fx_P (F := l_m_digest_120 K10) (b := (fun _ _ => none)) (fun rc15 => ∀ (s13 : (Sto × Lng)) (v1_14 : Int32), ZR G X (EL o) pvM psM 2 s13 [(0, .ref (ad G 17 0)), (1, .int v1_14)] [] 120 (rc15 s13 v1_14)) ?_ ?_ 1000) s7 (0 : Int32)
        · intro s13 v1_14; exact z_none
        · intro rc15 hrc15 s13 v1_14
          unfold l_m_digest_120
          refine z_iload_n (pc := 120) hX dX12_digest_120 rfl 1 rfl ?_
          refine z_aload_n (pc := 121) hX dX12_digest_121 rfl 0 rfl ?_
          refine gf_17_7L (pc := 122) hX q_819 dX12_digest_122 ?_
          refine z_icmp_ge (pc := 125) (tgt := 189) hX dX12_digest_125 rfl ?_ ?_
          · exact z_ls [0] rfl (hK10 s13)
          · refine z_aload_n (pc := 128) hX dX12_digest_128 rfl 0 rfl ?_
            refine z_aload_n (pc := 129) hX dX12_digest_129 rfl 0 rfl ?_
            refine gr_17_12L (pc := 130) hX q_824 dX12_digest_130 ?_
            refine z_iload_n (pc := 133) hX dX12_digest_133 rfl 1 rfl ?_
            refine ia_23L (pc := 134) hX dX12_digest_134 ?_
            refine z_i2l (pc := 135) hX dX12_digest_135 ?_
            refine z_rV (run_V (pc := 136) (As := [.long (Int32.toInt64 (s13.1 23 0 (ix v1_14)))]) hX rc_17 ⟨q_1265, q_1268, q_13⟩ q_1267 qs_68 hd_X12_mix ⟨Nat.le_of_ble_eq_true rfl, Nat.le_of_ble_eq_true rfl⟩ (c_m_mix hG s13 (Int32.toInt64 (s13.1 23 0 (ix v1_14)))) rfl rfl (Nat.le_of_ble_eq_true rfl) dX12_digest_136) (fun s16 => ?_)
            refine z_aload_n (pc := 139) hX dX12_digest_139 rfl 0 rfl ?_
            refine z_aload_n (pc := 140) hX dX12_digest_140 rfl 0 rfl ?_
            refine gr_17_13L (pc := 141) hX q_825 dX12_digest_141 ?_
            refine z_iload_n (pc := 144) hX dX12_digest_144 rfl 1 rfl ?_
            refine ia_24L (pc := 145) hX dX12_digest_145 ?_
            refine z_i2l (pc := 146) hX dX12_digest_146 ?_
            refine z_rV (run_V (pc := 147) (As := [.long (Int32.toInt64 (s16.1 24 0 (ix v1_14)))]) hX rc_17 ⟨q_1265, q_1268, q_13⟩ q_1267 qs_68 hd_X12_mix ⟨Nat.le_of_ble_eq_true rfl, Nat.le_of_ble_eq_true rfl⟩ (c_m_mix hG s16 (Int32.toInt64 (s16.1 24 0 (ix v1_14)))) rfl rfl (Nat.le_of_ble_eq_true rfl) dX12_digest_147) (fun s17 => ?_)
            refine z_aload_n (pc := 150) hX dX12_digest_150 rfl 0 rfl ?_
            refine z_aload_n (pc := 151) hX dX12_digest_151 rfl 0 rfl ?_
            refine gr_17_14L (pc := 152) hX q_826 dX12_digest_152 ?_
            refine z_iload_n (pc := 155) hX dX12_digest_155 rfl 1 rfl ?_
            refine ia_25L (pc := 156) hX dX12_digest_156 ?_
            refine z_i2l (pc := 157) hX dX12_digest_157 ?_
            refine z_rV (run_V (pc := 158) (As := [.long (Int32.toInt64 (s17.1 25 0 (ix v1_14)))]) hX rc_17 ⟨q_1265, q_1268, q_13⟩ q_1267 qs_68 hd_X12_mix ⟨Nat.le_of_ble_eq_true rfl, Nat.le_of_ble_eq_true rfl⟩ (c_m_mix hG s17 (Int32.toInt64 (s17.1 25 0 (ix v1_14)))) rfl rfl (Nat.le_of_ble_eq_true rfl) dX12_digest_158) (fun s18 => ?_)
            refine z_aload_n (pc := 161) hX dX12_digest_161 rfl 0 rfl ?_
            refine z_aload_n (pc := 162) hX dX12_digest_162 rfl 0 rfl ?_
            refine gr_17_15L (pc := 163) hX q_827 dX12_digest_163 ?_
            refine z_iload_n (pc := 166) hX dX12_digest_166 rfl 1 rfl ?_
            refine ia_26L (pc := 167) hX dX12_digest_167 ?_
            refine z_i2l (pc := 168) hX dX12_digest_168 ?_
            refine z_rV (run_V (pc := 169) (As := [.long (Int32.toInt64 (s18.1 26 0 (ix v1_14)))]) hX rc_17 ⟨q_1265, q_1268, q_13⟩ q_1267 qs_68 hd_X12_mix ⟨Nat.le_of_ble_eq_true rfl, Nat.le_of_ble_eq_true rfl⟩ (c_m_mix hG s18 (Int32.toInt64 (s18.1 26 0 (ix v1_14)))) rfl rfl (Nat.le_of_ble_eq_true rfl) dX12_digest_169) (fun s19 => ?_)
            refine z_aload_n (pc := 172) hX dX12_digest_172 rfl 0 rfl ?_
            refine z_aload_n (pc := 173) hX dX12_digest_173 rfl 0 rfl ?_
            refine gr_17_16L (pc := 174) hX q_828 dX12_digest_174 ?_
            refine z_iload_n (pc := 177) hX dX12_digest_177 rfl 1 rfl ?_
            refine ia_27L (pc := 178) hX dX12_digest_178 ?_
            refine z_i2l (pc := 179) hX dX12_digest_179 ?_
            refine z_rV (run_V (pc := 180) (As := [.long (Int32.toInt64 (s19.1 27 0 (ix v1_14)))]) hX rc_17 ⟨q_1265, q_1268, q_13⟩ q_1267 qs_68 hd_X12_mix ⟨Nat.le_of_ble_eq_true rfl, Nat.le_of_ble_eq_true rfl⟩ (c_m_mix hG s19 (Int32.toInt64 (s19.1 27 0 (ix v1_14)))) rfl rfl (Nat.le_of_ble_eq_true rfl) dX12_digest_180) (fun s20 => ?_)
            refine z_iinc (pc := 183) (n := 1) (v := v1_14 + (1 : Int32)) (ls' := [(1, .int (v1_14 + (1 : Int32))), (0, .ref (ad G 17 0))]) hX dX12_digest_183 rfl (by rw [show Int32.ofInt (1) = 1 by decide +kernel]) (by decide) rfl ?_
            refine z_goto (pc := 186) (tgt := 120) hX dX12_digest_186 rfl ?_
            exact z_ls [1, 0] rfl (hrc15 s20 (v1_14 + (1 : Int32)))
    · intro K8 hK8
      refine z_ls [1, 0] rfl ?_
      refine (fx_P (F := l_m_digest_60 K8) (b := (fun _ _ => none)) (fun rc23 => ∀ (s21 : (Sto × Lng)) (v1_22 : Int32), ZR G X (EL o) pvM psM 2 s21 [(0, .ref (ad G 17 0)), (1, .int v1_22)] [] 60 (rc23 s21 v1_22)) ?_ ?_ 1000) s6 (0 : Int32)
      · intro s21 v1_22; exact z_none
      · intro rc23 hrc23 s21 v1_22
        unfold l_m_digest_60
        refine z_iload_n (pc := 60) hX dX12_digest_60 rfl 1 rfl ?_
        refine z_aload_n (pc := 61) hX dX12_digest_61 rfl 0 rfl ?_
        refine gf_17_1L (pc := 62) hX q_813 dX12_digest_62 ?_
        refine z_icmp_ge (pc := 65) (tgt := 118) hX dX12_digest_65 rfl ?_ ?_
        · exact z_ls [0] rfl (hK8 s21)
        · refine z_aload_n (pc := 68) hX dX12_digest_68 rfl 0 rfl ?_
          refine z_aload_n (pc := 69) hX dX12_digest_69 rfl 0 rfl ?_
          refine gr_17_8L (pc := 70) hX q_820 dX12_digest_70 ?_
          refine z_iload_n (pc := 73) hX dX12_digest_73 rfl 1 rfl ?_
          refine ia_19L (pc := 74) hX dX12_digest_74 ?_
          refine z_i2l (pc := 75) hX dX12_digest_75 ?_
          refine z_rV (run_V (pc := 76) (As := [.long (Int32.toInt64 (s21.1 19 0 (ix v1_22)))]) hX rc_17 ⟨q_1265, q_1268, q_13⟩ q_1267 qs_68 hd_X12_mix ⟨Nat.le_of_ble_eq_true rfl, Nat.le_of_ble_eq_true rfl⟩ (c_m_mix hG s21 (Int32.toInt64 (s21.1 19 0 (ix v1_22)))) rfl rfl (Nat.le_of_ble_eq_true rfl) dX12_digest_76) (fun s24 => ?_)
          refine z_aload_n (pc := 79) hX dX12_digest_79 rfl 0 rfl ?_
          refine z_aload_n (pc := 80) hX dX12_digest_80 rfl 0 rfl ?_
          refine gr_17_9L (pc := 81) hX q_821 dX12_digest_81 ?_
          refine z_iload_n (pc := 84) hX dX12_digest_84 rfl 1 rfl ?_
          refine ia_20L (pc := 85) hX dX12_digest_85 ?_
          refine z_i2l (pc := 86) hX dX12_digest_86 ?_
          refine z_rV (run_V (pc := 87) (As := [.long (Int32.toInt64 (s24.1 20 0 (ix v1_22)))]) hX rc_17 ⟨q_1265, q_1268, q_13⟩ q_1267 qs_68 hd_X12_mix ⟨Nat.le_of_ble_eq_true rfl, Nat.le_of_ble_eq_true rfl⟩ (c_m_mix hG s24 (Int32.toInt64 (s24.1 20 0 (ix v1_22)))) rfl rfl (Nat.le_of_ble_eq_true rfl) dX12_digest_87) (fun s25 => ?_)
          refine z_aload_n (pc := 90) hX dX12_digest_90 rfl 0 rfl ?_
          refine z_aload_n (pc := 91) hX dX12_digest_91 rfl 0 rfl ?_
          refine gr_17_10L (pc := 92) hX q_822 dX12_digest_92 ?_
          refine z_iload_n (pc := 95) hX dX12_digest_95 rfl 1 rfl ?_
          refine ia_21L (pc := 96) hX dX12_digest_96 ?_
          refine z_i2l (pc := 97) hX dX12_digest_97 ?_
          refine z_rV (run_V (pc := 98) (As := [.long (Int32.toInt64 (s25.1 21 0 (ix v1_22)))]) hX rc_17 ⟨q_1265, q_1268, q_13⟩ q_1267 qs_68 hd_X12_mix ⟨Nat.le_of_ble_eq_true rfl, Nat.le_of_ble_eq_true rfl⟩ (c_m_mix hG s25 (Int32.toInt64 (s25.1 21 0 (ix v1_22)))) rfl rfl (Nat.le_of_ble_eq_true rfl) dX12_digest_98) (fun s26 => ?_)
          refine z_aload_n (pc := 101) hX dX12_digest_101 rfl 0 rfl ?_
          refine z_aload_n (pc := 102) hX dX12_digest_102 rfl 0 rfl ?_
          refine gr_17_11L (pc := 103) hX q_823 dX12_digest_103 ?_
          refine z_iload_n (pc := 106) hX dX12_digest_106 rfl 1 rfl ?_
          refine ia_22L (pc := 107) hX dX12_digest_107 ?_
          refine z_i2l (pc := 108) hX dX12_digest_108 ?_
          refine z_rV (run_V (pc := 109) (As := [.long (Int32.toInt64 (s26.1 22 0 (ix v1_22)))]) hX rc_17 ⟨q_1265, q_1268, q_13⟩ q_1267 qs_68 hd_X12_mix ⟨Nat.le_of_ble_eq_true rfl, Nat.le_of_ble_eq_true rfl⟩ (c_m_mix hG s26 (Int32.toInt64 (s26.1 22 0 (ix v1_22)))) rfl rfl (Nat.le_of_ble_eq_true rfl) dX12_digest_109) (fun s27 => ?_)
          refine z_iinc (pc := 112) (n := 1) (v := v1_22 + (1 : Int32)) (ls' := [(1, .int (v1_22 + (1 : Int32))), (0, .ref (ad G 17 0))]) hX dX12_digest_112 rfl (by rw [show Int32.ofInt (1) = 1 by decide +kernel]) (by decide) rfl ?_
          refine z_goto (pc := 115) (tgt := 60) hX dX12_digest_115 rfl ?_
          exact z_ls [1, 0] rfl (hrc23 s27 (v1_22 + (1 : Int32)))
  · intro K3 hK3
    refine z_ls [1, 0] rfl ?_
    refine (fx_P (F := l_m_digest_9 K3) (b := (fun _ _ => none)) (fun rc30 => ∀ (s28 : (Sto × Lng)) (v1_29 : Int32), ZR G X (EL o) pvM psM 2 s28 [(0, .ref (ad G 17 0)), (1, .int v1_29)] [] 9 (rc30 s28 v1_29)) ?_ ?_ 1000) s1 (0 : Int32)
    · intro s28 v1_29; exact z_none
    · intro rc30 hrc30 s28 v1_29
      unfold l_m_digest_9
      refine z_iload_n (pc := 9) hX dX12_digest_9 rfl 1 rfl ?_
      refine z_bipush (pc := 10) hX dX12_digest_10 bp_6 ?_
      refine z_icmp_gt (pc := 12) (tgt := 31) hX dX12_digest_12 rfl ?_ ?_
      · exact z_ls [0] rfl (hK3 s28)
      · refine z_aload_n (pc := 15) hX dX12_digest_15 rfl 0 rfl ?_
        refine z_aload_n (pc := 16) hX dX12_digest_16 rfl 0 rfl ?_
        refine z_iload_n (pc := 17) hX dX12_digest_17 rfl 1 rfl ?_
        refine z_rP (run_V (pc := 18) (As := [.int v1_29]) hX rc_17 ⟨q_1256, q_1259, q_13⟩ q_1258 qs_67 hd_X12_countOf ⟨Nat.le_of_ble_eq_true rfl, Nat.le_of_ble_eq_true rfl⟩ (CT.upP (c_m_countOf hG s28.1 v1_29)) rfl rfl (Nat.le_of_ble_eq_true rfl) dX12_digest_18) (fun r31 => ?_)
        refine z_i2l (pc := 21) hX dX12_digest_21 ?_
        refine z_rV (run_V (pc := 22) (As := [.long (Int32.toInt64 r31)]) hX rc_17 ⟨q_1265, q_1268, q_13⟩ q_1267 qs_68 hd_X12_mix ⟨Nat.le_of_ble_eq_true rfl, Nat.le_of_ble_eq_true rfl⟩ (c_m_mix hG s28 (Int32.toInt64 r31)) rfl rfl (Nat.le_of_ble_eq_true rfl) dX12_digest_22) (fun s32 => ?_)
        refine z_iinc (pc := 25) (n := 1) (v := v1_29 + (1 : Int32)) (ls' := [(1, .int (v1_29 + (1 : Int32))), (0, .ref (ad G 17 0))]) hX dX12_digest_25 rfl (by rw [show Int32.ofInt (1) = 1 by decide +kernel]) (by decide) rfl ?_
        refine z_goto (pc := 28) (tgt := 9) hX dX12_digest_28 rfl ?_
        exact z_ls [1, 0] rfl (hrc30 s32 (v1_29 + (1 : Int32)))
