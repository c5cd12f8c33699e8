theorem hd_X12_bad : yX12_bad.cls ≠ "java/lang/invoke/MethodHandle" ∧ yX12_bad.cls ≠ "java/lang/invoke/VarHandle" ∧ (parseMethodDescriptor yX12_bad.desc).map (fun d => d.parameters.length) = some 0 := by decide +kernel
def f_m_bad (s : Sto)  : Option (Int32 × Sto) :=
  if inb (0 : Int32) 3 then if inb (0 : Int32) 3 then lt (st s 18 0 (ix (0 : Int32)) ((s 18 0 (ix (0 : Int32))) + (1 : Int32))) (fun s1 => some ((-2 : Int32), s1)) else none else none
set_option maxRecDepth 100000 in
set_option maxHeartbeats 4000000 in
theorem c_m_bad {G : Gb} {l : Launch} {o : Sto} {L : Lng} (hG : GA G) (s : Sto)   : CT G l (EM o L) pvI psI yX12_bad cX12_bad 1 (some .int) 0 0 [.ref (ad G 17 0)] s (f_m_bad s) := by
  refine CT.of hG (by decide) (Nat.le_of_ble_eq_true rfl) (fun X hX => ?_)
  have hX : OX G X l cX12_bad 1 "CrownTwoModel" (some .int) 0 0 := hX
  show ZR G X (EM o L) pvI psI 1 s [(0, .ref (ad G 17 0))] [] 0 _
  unfold f_m_bad
  refine z_aload_n (pc := 0) hX dX12_bad_0 rfl 0 rfl ?_
  refine gr_17_0M (pc := 1) hX q_812 dX12_bad_1 ?_
  refine z_iconst (pc := 4) hX dX12_bad_4 ic_0 ?_
  refine z_dup2 (pc := 5) hX dX12_bad_5 rfl rfl ?_
  refine ia_18M (pc := 6) hX dX12_bad_6 ?_
  refine z_iconst (pc := 7) hX dX12_bad_7 ic_1 ?_
  refine z_iadd (pc := 8) hX dX12_bad_8 ?_
  refine is_18M (pc := 9) hX dX12_bad_9 ?_
  refine z_lts (fun s1 => ?_)
  refine z_bipush (pc := 10) hX dX12_bad_10 bp_m2 ?_
  exact z_retI (pc := 12) hX dX12_bad_12
theorem hd_X12_ten : yX12_ten.cls ≠ "java/lang/invoke/MethodHandle" ∧ yX12_ten.cls ≠ "java/lang/invoke/VarHandle" ∧ (parseMethodDescriptor yX12_ten.desc).map (fun d => d.parameters.length) = some 0 := by decide +kernel
def f_m_ten (s : Sto)  : Option (Int32 × Sto) :=
  if inb (0 : Int32) 3 then if inb (0 : Int32) 3 then lt (st s 18 0 (ix (0 : Int32)) ((s 18 0 (ix (0 : Int32))) + (1 : Int32))) (fun s1 => some ((-10 : Int32), s1)) else none else none
set_option maxRecDepth 100000 in
set_option maxHeartbeats 4000000 in
theorem c_m_ten {G : Gb} {l : Launch} {o : Sto} {L : Lng} (hG : GA G) (s : Sto)   : CT G l (EM o L) pvI psI yX12_ten cX12_ten 1 (some .int) 0 0 [.ref (ad G 17 0)] s (f_m_ten s) := by
  refine CT.of hG (by decide) (Nat.le_of_ble_eq_true rfl) (fun X hX => ?_)
  have hX : OX G X l cX12_ten 1 "CrownTwoModel" (some .int) 0 0 := hX
  show ZR G X (EM o L) pvI psI 1 s [(0, .ref (ad G 17 0))] [] 0 _
  unfold f_m_ten
  refine z_aload_n (pc := 0) hX dX12_ten_0 rfl 0 rfl ?_
  refine gr_17_0M (pc := 1) hX q_812 dX12_ten_1 ?_
  refine z_iconst (pc := 4) hX dX12_ten_4 ic_0 ?_
  refine z_dup2 (pc := 5) hX dX12_ten_5 rfl rfl ?_
  refine ia_18M (pc := 6) hX dX12_ten_6 ?_
  refine z_iconst (pc := 7) hX dX12_ten_7 ic_1 ?_
  refine z_iadd (pc := 8) hX dX12_ten_8 ?_
  refine is_18M (pc := 9) hX dX12_ten_9 ?_
  refine z_lts (fun s1 => ?_)
  refine z_bipush (pc := 10) hX dX12_ten_10 bp_m10 ?_
  exact z_retI (pc := 12) hX dX12_ten_12
theorem hd_X12_no : yX12_no.cls ≠ "java/lang/invoke/MethodHandle" ∧ yX12_no.cls ≠ "java/lang/invoke/VarHandle" ∧ (parseMethodDescriptor yX12_no.desc).map (fun d => d.parameters.length) = some 0 := by decide +kernel
def f_m_no (s : Sto)  : Option (Int32 × Sto) :=
  if inb (1 : Int32) 3 then if inb (1 : Int32) 3 then lt (st s 18 0 (ix (1 : Int32)) ((s 18 0 (ix (1 : Int32))) + (1 : Int32))) (fun s1 => some ((-3 : Int32), s1)) else none else none
set_option maxRecDepth 100000 in
set_option maxHeartbeats 4000000 in
theorem c_m_no {G : Gb} {l : Launch} {o : Sto} {L : Lng} (hG : GA G) (s : Sto)   : CT G l (EM o L) pvI psI yX12_no cX12_no 1 (some .int) 0 0 [.ref (ad G 17 0)] s (f_m_no s) := by
  refine CT.of hG (by decide) (Nat.le_of_ble_eq_true rfl) (fun X hX => ?_)
  have hX : OX G X l cX12_no 1 "CrownTwoModel" (some .int) 0 0 := hX
  show ZR G X (EM o L) pvI psI 1 s [(0, .ref (ad G 17 0))] [] 0 _
  unfold f_m_no
  refine z_aload_n (pc := 0) hX dX12_no_0 rfl 0 rfl ?_
  refine gr_17_0M (pc := 1) hX q_812 dX12_no_1 ?_
  refine z_iconst (pc := 4) hX dX12_no_4 ic_1 ?_
  refine z_dup2 (pc := 5) hX dX12_no_5 rfl rfl ?_
  refine ia_18M (pc := 6) hX dX12_no_6 ?_
  refine z_iconst (pc := 7) hX dX12_no_7 ic_1 ?_
  refine z_iadd (pc := 8) hX dX12_no_8 ?_
  refine is_18M (pc := 9) hX dX12_no_9 ?_
  refine z_lts (fun s1 => ?_)
  refine z_bipush (pc := 10) hX dX12_no_10 bp_m3 ?_
  exact z_retI (pc := 12) hX dX12_no_12
theorem hd_X12_full : yX12_full.cls ≠ "java/lang/invoke/MethodHandle" ∧ yX12_full.cls ≠ "java/lang/invoke/VarHandle" ∧ (parseMethodDescriptor yX12_full.desc).map (fun d => d.parameters.length) = some 0 := by decide +kernel
def f_m_full (s : Sto)  : Option (Int32 × Sto) :=
  if inb (2 : Int32) 3 then if inb (2 : Int32) 3 then lt (st s 18 0 (ix (2 : Int32)) ((s 18 0 (ix (2 : Int32))) + (1 : Int32))) (fun s1 => some ((-4 : Int32), s1)) else none else none
set_option maxRecDepth 100000 in
set_option maxHeartbeats 4000000 in
theorem c_m_full {G : Gb} {l : Launch} {o : Sto} {L : Lng} (hG : GA G) (s : Sto)   : CT G l (EM o L) pvI psI yX12_full cX12_full 1 (some .int) 0 0 [.ref (ad G 17 0)] s (f_m_full s) := by
  refine CT.of hG (by decide) (Nat.le_of_ble_eq_true rfl) (fun X hX => ?_)
  have hX : OX G X l cX12_full 1 "CrownTwoModel" (some .int) 0 0 := hX
  show ZR G X (EM o L) pvI psI 1 s [(0, .ref (ad G 17 0))] [] 0 _
  unfold f_m_full
  refine z_aload_n (pc := 0) hX dX12_full_0 rfl 0 rfl ?_
  refine gr_17_0M (pc := 1) hX q_812 dX12_full_1 ?_
  refine z_iconst (pc := 4) hX dX12_full_4 ic_2 ?_
  refine z_dup2 (pc := 5) hX dX12_full_5 rfl rfl ?_
  refine ia_18M (pc := 6) hX dX12_full_6 ?_
  refine z_iconst (pc := 7) hX dX12_full_7 ic_1 ?_
  refine z_iadd (pc := 8) hX dX12_full_8 ?_
  refine is_18M (pc := 9) hX dX12_full_9 ?_
  refine z_lts (fun s1 => ?_)
  refine z_bipush (pc := 10) hX dX12_full_10 bp_m4 ?_
  exact z_retI (pc := 12) hX dX12_full_12
theorem hd_X12_in : yX12_in.cls ≠ "java/lang/invoke/MethodHandle" ∧ yX12_in.cls ≠ "java/lang/invoke/VarHandle" ∧ (parseMethodDescriptor yX12_in.desc).map (fun d => d.parameters.length) = some 3 := by decide +kernel
def f_m_in (x0 : Int32) (x1 : Int32) (x2 : Int32) : Option (Int32) :=
  jn (some (0 : Int32)) (fun j1 => if x0 < x1 then j1 else if x2 < x0 then j1 else some (1 : Int32))
set_option maxRecDepth 100000 in
set_option maxHeartbeats 4000000 in
theorem c_m_in {G : Gb} {l : Launch} {o : Sto} {L : Lng} (hG : GA G) (s : Sto) (x0 : Int32) (x1 : Int32) (x2 : Int32)  : CT G l (EM o L) pvP (psP s) yX12_in cX12_in 3 (some .boolean) 0 0 [.int x0, .int x1, .int x2] s (f_m_in x0 x1 x2) := by
  refine CT.of hG (by decide) (Nat.le_of_ble_eq_true rfl) (fun X hX => ?_)
  have hX : OX G X l cX12_in 3 "CrownTwoModel" (some .boolean) 0 0 := hX
  show ZR G X (EM o L) pvP (psP s) 3 s [(0, .int x0), (1, .int x1), (2, .int x2)] [] 0 _
  unfold f_m_in
  refine z_iload_n (pc := 0) hX dX12_in_0 rfl 0 rfl ?_
  refine z_iload_n (pc := 1) hX dX12_in_1 rfl 1 rfl ?_
  refine z_jn (P := fun j1 => ZR G X (EM o L) pvP (psP s) 3 s [] [] 14 (j1)) ?_ ?_
  · skip
    refine z_iconst (pc := 14) hX dX12_in_14 ic_0 ?_
    exact z_retPc (pc := 15) hX dX12_in_15 (by decide)
  · intro j1 hj1
    refine z_icmp_lt (pc := 2) (tgt := 14) hX dX12_in_2 rfl ?_ ?_
    · exact z_ls [] rfl (hj1)
    · refine z_iload_n (pc := 5) hX dX12_in_5 rfl 0 rfl ?_
      refine z_iload_n (pc := 6) hX dX12_in_6 rfl 2 rfl ?_
      refine z_icmp_gt (pc := 7) (tgt := 14) hX dX12_in_7 rfl ?_ ?_
      · exact z_ls [] rfl (hj1)
      · refine z_iconst (pc := 10) hX dX12_in_10 ic_1 ?_
        refine z_goto (pc := 11) (tgt := 15) hX dX12_in_11 rfl ?_
        exact z_retPc (pc := 15) hX dX12_in_15 (by decide)
theorem hd_X12_has : yX12_has.cls ≠ "java/lang/invoke/MethodHandle" ∧ yX12_has.cls ≠ "java/lang/invoke/VarHandle" ∧ (parseMethodDescriptor yX12_has.desc).map (fun d => d.parameters.length) = some 2 := by decide +kernel
def f_m_has (x0 : Int32) (x1 : Int32) : Option (Int32) :=
  if ((x0 >>> (x1 &&& 31)) &&& (1 : Int32)) = (1 : Int32) then some (1 : Int32) else some (0 : Int32)
set_option maxRecDepth 100000 in
set_option maxHeartbeats 4000000 in
theorem c_m_has {G : Gb} {l : Launch} {o : Sto} {L : Lng} (hG : GA G) (s : Sto) (x0 : Int32) (x1 : Int32)  : CT G l (EM o L) pvP (psP s) yX12_has cX12_has 2 (some .boolean) 0 0 [.int x0, .int x1] s (f_m_has x0 x1) := by
  refine CT.of hG (by decide) (Nat.le_of_ble_eq_true rfl) (fun X hX => ?_)
  have hX : OX G X l cX12_has 2 "CrownTwoModel" (some .boolean) 0 0 := hX
  show ZR G X (EM o L) pvP (psP s) 2 s [(0, .int x0), (1, .int x1)] [] 0 _
  unfold f_m_has
  refine z_iload_n (pc := 0) hX dX12_has_0 rfl 0 rfl ?_
  refine z_iload_n (pc := 1) hX dX12_has_1 rfl 1 rfl ?_
  refine z_ishr (pc := 2) hX dX12_has_2 ?_
  refine z_iconst (pc := 3) hX dX12_has_3 ic_1 ?_
  refine z_iand (pc := 4) hX dX12_has_4 ?_
  refine z_iconst (pc := 5) hX dX12_has_5 ic_1 ?_
  refine z_icmp_ne (pc := 6) (tgt := 13) hX dX12_has_6 rfl ?_ ?_
  · refine z_iconst (pc := 13) hX dX12_has_13 ic_0 ?_
    exact z_retPc (pc := 14) hX dX12_has_14 (by decide)
  · refine z_iconst (pc := 9) hX dX12_has_9 ic_1 ?_
    refine z_goto (pc := 10) (tgt := 14) hX dX12_has_10 rfl ?_
    exact z_retPc (pc := 14) hX dX12_has_14 (by decide)
theorem hd_X12_bits : yX12_bits.cls ≠ "java/lang/invoke/MethodHandle" ∧ yX12_bits.cls ≠ "java/lang/invoke/VarHandle" ∧ (parseMethodDescriptor yX12_bits.desc).map (fun d => d.parameters.length) = some 1 := by decide +kernel
def l_m_bits_4 (x0 : Int32) (rc3 : Int32 → Int32 → Option (Int32)) (v1_1 : Int32) (v2_2 : Int32) : Option (Int32) :=
  if (8 : Int32) ≤ v2_2 then some v1_1 else lt (v1_1 + ((x0 >>> (v2_2 &&& 31)) &&& (1 : Int32))) (fun v1_4 => rc3 v1_4 (v2_2 + (1 : Int32)))
def f_m_bits (x0 : Int32) : Option (Int32) :=
  fx 1000 (l_m_bits_4 x0) (fun _ _ => none) (0 : Int32) (0 : Int32)
set_option maxRecDepth 100000 in
set_option maxHeartbeats 4000000 in
theorem c_m_bits {G : Gb} {l : Launch} {o : Sto} {L : Lng} (hG : GA G) (s : Sto) (x0 : Int32)  : CT G l (EM o L) pvP (psP s) yX12_bits cX12_bits 3 (some .int) 0 0 [.int x0] s (f_m_bits x0) := by
  refine CT.of hG (by decide) (Nat.le_of_ble_eq_true rfl) (fun X hX => ?_)
  have hX : OX G X l cX12_bits 3 "CrownTwoModel" (some .int) 0 0 := hX
  show ZR G X (EM o L) pvP (psP s) 3 s [(0, .int x0)] [] 0 _
  unfold f_m_bits
  refine z_iconst (pc := 0) hX dX12_bits_0 ic_0 ?_
  refine z_istore_n (pc := 1) (ls' := [(1, .int (0 : Int32)), (0, .int x0)]) hX dX12_bits_1 rfl (by decide) rfl ?_
  refine z_iconst (pc := 2) hX dX12_bits_2 ic_0 ?_
  refine z_istore_n (pc := 3) (ls' := [(2, .int (0 : Int32)), (1, .int (0 : Int32)), (0, .int x0)]) hX dX12_bits_3 rfl (by decide) rfl ?_
  refine z_ls [2, 1, 0] rfl ?_
  refine (fx_P (F := l_m_bits_4 x0) (b := (fun _ _ => none)) (fun rc3 => ∀ (v1_1 : Int32) (v2_2 : Int32), ZR G X (EM o L) pvP (psP s) 3 s [(0, .int x0), (1, .int v1_1), (2, .int v2_2)] [] 4 (rc3 v1_1 v2_2)) ?_ ?_ 1000) (0 : Int32) (0 : Int32)
  · intro v1_1 v2_2; exact z_none
  · intro rc3 hrc3 v1_1 v2_2
    unfold l_m_bits_4
    refine z_iload_n (pc := 4) hX dX12_bits_4 rfl 2 rfl ?_
    refine z_bipush (pc := 5) hX dX12_bits_5 bp_8 ?_
    refine z_icmp_ge (pc := 7) (tgt := 24) hX dX12_bits_7 rfl ?_ ?_
    · refine z_iload_n (pc := 24) hX dX12_bits_24 rfl 1 rfl ?_
      exact z_retP (pc := 25) hX dX12_bits_25
    · refine z_iload_n (pc := 10) hX dX12_bits_10 rfl 1 rfl ?_
      refine z_iload_n (pc := 11) hX dX12_bits_11 rfl 0 rfl ?_
      refine z_iload_n (pc := 12) hX dX12_bits_12 rfl 2 rfl ?_
      refine z_ishr (pc := 13) hX dX12_bits_13 ?_
      refine z_iconst (pc := 14) hX dX12_bits_14 ic_1 ?_
      refine z_iand (pc := 15) hX dX12_bits_15 ?_
      refine z_iadd (pc := 16) hX dX12_bits_16 ?_
      refine z_lti (pc := 17) (fun v1_4 => ?_)
      refine z_istore_n (pc := 17) (ls' := [(1, .int v1_4), (0, .int x0), (2, .int v2_2)]) hX dX12_bits_17 rfl (by decide) rfl ?_
      refine z_iinc (pc := 18) (n := 2) (v := v2_2 + (1 : Int32)) (ls' := [(2, .int (v2_2 + (1 : Int32))), (1, .int v1_4), (0, .int x0)]) hX dX12_bits_18 rfl (by rw [show Int32.ofInt (1) = 1 by decide +kernel]) (by decide) rfl ?_
      refine z_goto (pc := 21) (tgt := 4) hX dX12_bits_21 rfl ?_
      exact z_ls [2, 1, 0] rfl (hrc3 v1_4 (v2_2 + (1 : Int32)))
theorem hd_X12_kept : yX12_kept.cls ≠ "java/lang/invoke/MethodHandle" ∧ yX12_kept.cls ≠ "java/lang/invoke/VarHandle" ∧ (parseMethodDescriptor yX12_kept.desc).map (fun d => d.parameters.length) = some 1 := by decide +kernel
def f_m_kept (x0 : Int32) : Option (Int32) :=
  if (0 : Int32) ≤ x0 then if x0 ≤ (99 : Int32) then some x0 else some (99 : Int32) else some (0 : Int32)
set_option maxRecDepth 100000 in
set_option maxHeartbeats 4000000 in
theorem c_m_kept {G : Gb} {l : Launch} {o : Sto} {L : Lng} (hG : GA G) (s : Sto) (x0 : Int32)  : CT G l (EM o L) pvP (psP s) yX12_kept cX12_kept 1 (some .int) 0 0 [.int x0] s (f_m_kept x0) := by
  refine CT.of hG (by decide) (Nat.le_of_ble_eq_true rfl) (fun X hX => ?_)
  have hX : OX G X l cX12_kept 1 "CrownTwoModel" (some .int) 0 0 := hX
  show ZR G X (EM o L) pvP (psP s) 1 s [(0, .int x0)] [] 0 _
  unfold f_m_kept
  refine z_iload_n (pc := 0) hX dX12_kept_0 rfl 0 rfl ?_
  refine z_if_ge (pc := 1) (tgt := 8) hX dX12_kept_1 rfl ?_ ?_
  · refine z_iload_n (pc := 8) hX dX12_kept_8 rfl 0 rfl ?_
    refine z_bipush (pc := 9) hX dX12_kept_9 bp_99 ?_
    refine z_icmp_le (pc := 11) (tgt := 19) hX dX12_kept_11 rfl ?_ ?_
    · refine z_iload_n (pc := 19) hX dX12_kept_19 rfl 0 rfl ?_
      exact z_retP (pc := 20) hX dX12_kept_20
    · refine z_bipush (pc := 14) hX dX12_kept_14 bp_99 ?_
      refine z_goto (pc := 16) (tgt := 20) hX dX12_kept_16 rfl ?_
      exact z_retP (pc := 20) hX dX12_kept_20
  · refine z_iconst (pc := 4) hX dX12_kept_4 ic_0 ?_
    refine z_goto (pc := 5) (tgt := 20) hX dX12_kept_5 rfl ?_
    exact z_retP (pc := 20) hX dX12_kept_20
theorem hd_X12_begin : yX12_begin.cls ≠ "java/lang/invoke/MethodHandle" ∧ yX12_begin.cls ≠ "java/lang/invoke/VarHandle" ∧ (parseMethodDescriptor yX12_begin.desc).map (fun d => d.parameters.length) = some 1 := by decide +kernel
def f_m_begin (s : Sto) (x1 : Int32) : Option (Sto) :=
  lt (st s 17 0 2 x1) (fun s1 => lt (st s1 17 0 1 (0 : Int32)) (fun s2 => lt (st s2 17 0 3 (0 : Int32)) (fun s3 => lt (st s3 17 0 4 (0 : Int32)) (fun s4 => lt (st s4 17 0 5 (-1 : Int32)) (fun s5 => lt (st s5 17 0 6 (-1 : Int32)) (fun s6 => lt (st s6 17 0 7 (0 : Int32)) (fun s7 => lt (st s7 17 0 27 (0 : Int32)) (fun s8 => some s8))))))))
set_option maxRecDepth 100000 in
set_option maxHeartbeats 4000000 in
theorem c_m_begin {G : Gb} {l : Launch} {o : Sto} {L : Lng} (hG : GA G) (s : Sto) (x1 : Int32)  : CT G l (EM o L) pvV psV yX12_begin cX12_begin 2 none 0 0 [.ref (ad G 17 0), .int x1] s (f_m_begin s x1) := by
  refine CT.of hG (by decide) (Nat.le_of_ble_eq_true rfl) (fun X hX => ?_)
  have hX : OX G X l cX12_begin 2 "CrownTwoModel" none 0 0 := hX
  show ZR G X (EM o L) pvV psV 2 s [(0, .ref (ad G 17 0)), (1, .int x1)] [] 0 _
  unfold f_m_begin
  refine z_aload_n (pc := 0) hX dX12_begin_0 rfl 0 rfl ?_
  refine z_iload_n (pc := 1) hX dX12_begin_1 rfl 1 rfl ?_
  refine pf_17_2M (pc := 2) hX q_814 dX12_begin_2 ?_
  refine z_lts (fun s1 => ?_)
  refine z_aload_n (pc := 5) hX dX12_begin_5 rfl 0 rfl ?_
  refine z_iconst (pc := 6) hX dX12_begin_6 ic_0 ?_
  refine pf_17_1M (pc := 7) hX q_813 dX12_begin_7 ?_
  refine z_lts (fun s2 => ?_)
  refine z_aload_n (pc := 10) hX dX12_begin_10 rfl 0 rfl ?_
  refine z_iconst (pc := 11) hX dX12_begin_11 ic_0 ?_
  refine pf_17_3M (pc := 12) hX q_815 dX12_begin_12 ?_
  refine z_lts (fun s3 => ?_)
  refine z_aload_n (pc := 15) hX dX12_begin_15 rfl 0 rfl ?_
  refine z_iconst (pc := 16) hX dX12_begin_16 ic_0 ?_
  refine pf_17_4M (pc := 17) hX q_816 dX12_begin_17 ?_
  refine z_lts (fun s4 => ?_)
  refine z_aload_n (pc := 20) hX dX12_begin_20 rfl 0 rfl ?_
  refine z_iconst (pc := 21) hX dX12_begin_21 ic_m1 ?_
  refine pf_17_5M (pc := 22) hX q_817 dX12_begin_22 ?_
  refine z_lts (fun s5 => ?_)
  refine z_aload_n (pc := 25) hX dX12_begin_25 rfl 0 rfl ?_
  refine z_iconst (pc := 26) hX dX12_begin_26 ic_m1 ?_
  refine pf_17_6M (pc := 27) hX q_818 dX12_begin_27 ?_
  refine z_lts (fun s6 => ?_)
  refine z_aload_n (pc := 30) hX dX12_begin_30 rfl 0 rfl ?_
  refine z_iconst (pc := 31) hX dX12_begin_31 ic_0 ?_
  refine pf_17_7M (pc := 32) hX q_819 dX12_begin_32 ?_
  refine z_lts (fun s7 => ?_)
  refine z_aload_n (pc := 35) hX dX12_begin_35 rfl 0 rfl ?_
  refine z_iconst (pc := 36) hX dX12_begin_36 ic_0 ?_
  refine pf_17_27M (pc := 37) hX q_839 dX12_begin_37 ?_
  refine z_lts (fun s8 => ?_)
  exact z_retV (pc := 40) hX dX12_begin_40
theorem hd_X12_isHeir : yX12_isHeir.cls ≠ "java/lang/invoke/MethodHandle" ∧ yX12_isHeir.cls ≠ "java/lang/invoke/VarHandle" ∧ (parseMethodDescriptor yX12_isHeir.desc).map (fun d => d.parameters.length) = some 1 := by decide +kernel
def f_m_isHeir (s : Sto) (x1 : Int32) : Option (Int32) :=
  bP (f_m_in x1 (0 : Int32) ((s 17 0 1) - (1 : Int32))) (fun r1 => if r1 = (0 : Int32) ∨ r1 = (1 : Int32) then some r1 else none)
set_option maxRecDepth 100000 in
set_option maxHeartbeats 4000000 in
theorem c_m_isHeir {G : Gb} {l : Launch} {o : Sto} {L : Lng} (hG : GA G) (s : Sto) (x1 : Int32)  : CT G l (EM o L) pvP (psP s) yX12_isHeir cX12_isHeir 2 (some .boolean) 1 22 [.ref (ad G 17 0), .int x1] s (f_m_isHeir s x1) := by
  refine CT.of hG (by decide) (Nat.le_of_ble_eq_true rfl) (fun X hX => ?_)
  have hX : OX G X l cX12_isHeir 2 "CrownTwoModel" (some .boolean) 1 22 := hX
  show ZR G X (EM o L) pvP (psP s) 2 s [(0, .ref (ad G 17 0)), (1, .int x1)] [] 0 _
  unfold f_m_isHeir
  refine z_iload_n (pc := 0) hX dX12_isHeir_0 rfl 1 rfl ?_
  refine z_iconst (pc := 1) hX dX12_isHeir_1 ic_0 ?_
  refine z_aload_n (pc := 2) hX dX12_isHeir_2 rfl 0 rfl ?_
  refine gf_17_1M (pc := 3) hX q_813 dX12_isHeir_3 ?_
  refine z_iconst (pc := 6) hX dX12_isHeir_6 ic_1 ?_
  refine z_isub (pc := 7) hX dX12_isHeir_7 ?_
  refine z_rP (run_S (pc := 8) (As := [.int x1, .int (0 : Int32), .int ((s 17 0 1) - (1 : Int32))]) hX ⟨q_925, q_927, q_13⟩ q_926 hd_X12_in ⟨Nat.le_of_ble_eq_true rfl, Nat.le_of_ble_eq_true rfl⟩ (c_m_in hG s x1 (0 : Int32) ((s 17 0 1) - (1 : Int32))) rfl rfl (Nat.le_of_ble_eq_true rfl) dX12_isHeir_8) (fun r1 => ?_)
  exact z_retPz (pc := 11) hX dX12_isHeir_11
theorem hd_X12_isAct : yX12_isAct.cls ≠ "java/lang/invoke/MethodHandle" ∧ yX12_isAct.cls ≠ "java/lang/invoke/VarHandle" ∧ (parseMethodDescriptor yX12_isAct.desc).map (fun d => d.parameters.length) = some 1 := by decide +kernel
def f_m_isAct (x0 : Int32) : Option (Int32) :=
  bP (f_m_in x0 (0 : Int32) (7 : Int32)) (fun r1 => if r1 = (0 : Int32) ∨ r1 = (1 : Int32) then some r1 else none)
set_option maxRecDepth 100000 in
set_option maxHeartbeats 4000000 in
theorem c_m_isAct {G : Gb} {l : Launch} {o : Sto} {L : Lng} (hG : GA G) (s : Sto) (x0 : Int32)  : CT G l (EM o L) pvP (psP s) yX12_isAct cX12_isAct 1 (some .boolean) 1 22 [.int x0] s (f_m_isAct x0) := by
  refine CT.of hG (by decide) (Nat.le_of_ble_eq_true rfl) (fun X hX => ?_)
  have hX : OX G X l cX12_isAct 1 "CrownTwoModel" (some .boolean) 1 22 := hX
  show ZR G X (EM o L) pvP (psP s) 1 s [(0, .int x0)] [] 0 _
  unfold f_m_isAct
  refine z_iload_n (pc := 0) hX dX12_isAct_0 rfl 0 rfl ?_
  refine z_iconst (pc := 1) hX dX12_isAct_1 ic_0 ?_
  refine z_bipush (pc := 2) hX dX12_isAct_2 bp_7 ?_
  refine z_rP (run_S (pc := 4) (As := [.int x0, .int (0 : Int32), .int (7 : Int32)]) hX ⟨q_925, q_927, q_13⟩ q_926 hd_X12_in ⟨Nat.le_of_ble_eq_true rfl, Nat.le_of_ble_eq_true rfl⟩ (c_m_in hG s x0 (0 : Int32) (7 : Int32)) rfl rfl (Nat.le_of_ble_eq_true rfl) dX12_isAct_4) (fun r1 => ?_)
  exact z_retPz (pc := 7) hX dX12_isAct_7
theorem hd_X12_isPair : yX12_isPair.cls ≠ "java/lang/invoke/MethodHandle" ∧ yX12_isPair.cls ≠ "java/lang/invoke/VarHandle" ∧ (parseMethodDescriptor yX12_isPair.desc).map (fun d => d.parameters.length) = some 0 := by decide +kernel
def f_m_isPair (s : Sto)  : Option (Int32) :=
  if (s 17 0 5) = (-1 : Int32) then some (0 : Int32) else some (1 : Int32)
set_option maxRecDepth 100000 in
set_option maxHeartbeats 4000000 in
theorem c_m_isPair {G : Gb} {l : Launch} {o : Sto} {L : Lng} (hG : GA G) (s : Sto)   : CT G l (EM o L) pvP (psP s) yX12_isPair cX12_isPair 1 (some .boolean) 0 0 [.ref (ad G 17 0)] s (f_m_isPair s) := by
  refine CT.of hG (by decide) (Nat.le_of_ble_eq_true rfl) (fun X hX => ?_)
  have hX : OX G X l cX12_isPair 1 "CrownTwoModel" (some .boolean) 0 0 := hX
  show ZR G X (EM o L) pvP (psP s) 1 s [(0, .ref (ad G 17 0))] [] 0 _
  unfold f_m_isPair
  refine z_aload_n (pc := 0) hX dX12_isPair_0 rfl 0 rfl ?_
  refine gf_17_5M (pc := 1) hX q_817 dX12_isPair_1 ?_
  refine z_iconst (pc := 4) hX dX12_isPair_4 ic_m1 ?_
  refine z_icmp_eq (pc := 5) (tgt := 12) hX dX12_isPair_5 rfl ?_ ?_
  · refine z_iconst (pc := 12) hX dX12_isPair_12 ic_0 ?_
    exact z_retPc (pc := 13) hX dX12_isPair_13 (by decide)
  · refine z_iconst (pc := 8) hX dX12_isPair_8 ic_1 ?_
    refine z_goto (pc := 9) (tgt := 13) hX dX12_isPair_9 rfl ?_
    exact z_retPc (pc := 13) hX dX12_isPair_13 (by decide)
theorem hd_X12_court : yX12_court.cls ≠ "java/lang/invoke/MethodHandle" ∧ yX12_court.cls ≠ "java/lang/invoke/VarHandle" ∧ (parseMethodDescriptor yX12_court.desc).map (fun d => d.parameters.length) = some 1 := by decide +kernel
def f_m_court (s : Sto) (x1 : Int32) : Option (Int32 × Sto) :=
  bP (f_m_in x1 (0 : Int32) (99 : Int32)) (fun r1 => if r1 = (0 : Int32) then bI (f_m_bad s) (fun r4 s5 => some (r4, s5)) else lt (s 17 0 1) (fun v2_2 => bV (f_m_begin s x1) (fun s3 => some (v2_2, s3))))
set_option maxRecDepth 100000 in
set_option maxHeartbeats 4000000 in
theorem c_m_court {G : Gb} {l : Launch} {o : Sto} {L : Lng} (hG : GA G) (s : Sto) (x1 : Int32)  : CT G l (EM o L) pvI psI yX12_court cX12_court 3 (some .int) 1 22 [.ref (ad G 17 0), .int x1] s (f_m_court s x1) := by
  refine CT.of hG (by decide) (Nat.le_of_ble_eq_true rfl) (fun X hX => ?_)
  have hX : OX G X l cX12_court 3 "CrownTwoModel" (some .int) 1 22 := hX
  show ZR G X (EM o L) pvI psI 3 s [(0, .ref (ad G 17 0)), (1, .int x1)] [] 0 _
  unfold f_m_court
  refine z_iload_n (pc := 0) hX dX12_court_0 rfl 1 rfl ?_
  refine z_iconst (pc := 1) hX dX12_court_1 ic_0 ?_
  refine z_bipush (pc := 2) hX dX12_court_2 bp_99 ?_
  refine z_rP (run_S (pc := 4) (As := [.int x1, .int (0 : Int32), .int (99 : Int32)]) hX ⟨q_925, q_927, q_13⟩ q_926 hd_X12_in ⟨Nat.le_of_ble_eq_true rfl, Nat.le_of_ble_eq_true rfl⟩ (c_m_in hG s x1 (0 : Int32) (99 : Int32)) rfl rfl (Nat.le_of_ble_eq_true rfl) dX12_court_4) (fun r1 => ?_)
  refine z_if_ne (pc := 7) (tgt := 15) hX dX12_court_7 rfl ?_ ?_
  · refine z_aload_n (pc := 15) hX dX12_court_15 rfl 0 rfl ?_
    refine gf_17_1M (pc := 16) hX q_813 dX12_court_16 ?_
    refine z_lti (pc := 19) (fun v2_2 => ?_)
    refine z_istore_n (pc := 19) (ls' := [(2, .int v2_2), (0, .ref (ad G 17 0)), (1, .int x1)]) hX dX12_court_19 rfl (by decide) rfl ?_
    refine z_aload_n (pc := 20) hX dX12_court_20 rfl 1 rfl ?_
    refine z_iload_n (pc := 21) hX dX12_court_21 rfl 2 rfl ?_
    refine z_rV (run_V (pc := 22) (As := [.int x1]) hX rc_17 ⟨q_808, q_811, q_13⟩ q_810 qs_23 hd_X12_begin ⟨Nat.le_of_ble_eq_true rfl, Nat.le_of_ble_eq_true rfl⟩ (c_m_begin hG s x1) rfl rfl (Nat.le_of_ble_eq_true rfl) dX12_court_22) (fun s3 => ?_)
    refine z_iload_n (pc := 25) hX dX12_court_25 rfl 0 rfl ?_
    exact z_retI (pc := 26) hX dX12_court_26
  · refine z_aload_n (pc := 10) hX dX12_court_10 rfl 0 rfl ?_
    refine z_rI (run_V (pc := 11) (As := []) hX rc_17 ⟨q_928, q_931, q_13⟩ q_930 qs_24 hd_X12_bad ⟨Nat.le_of_ble_eq_true rfl, Nat.le_of_ble_eq_true rfl⟩ (c_m_bad hG s) rfl rfl (Nat.le_of_ble_eq_true rfl) dX12_court_11) (fun r4 s5 => ?_)
    exact z_retI (pc := 14) hX dX12_court_14
theorem hd_X12_addHeir : yX12_addHeir.cls ≠ "java/lang/invoke/MethodHandle" ∧ yX12_addHeir.cls ≠ "java/lang/invoke/VarHandle" ∧ (parseMethodDescriptor yX12_addHeir.desc).map (fun d => d.parameters.length) = some 4 := by decide +kernel
def f_m_addHeir (s : Sto) (x1 : Int32) (x2 : Int32) (x3 : Int32) (x4 : Int32) : Option (Int32 × Sto) :=
  if inb (s 17 0 1) 6 then lt (st s 19 0 (ix (s 17 0 1)) x1) (fun s1 => if inb (s1 17 0 1) 6 then lt (st s1 20 0 (ix (s1 17 0 1)) x2) (fun s2 => if inb (s2 17 0 1) 6 then lt (st s2 21 0 (ix (s2 17 0 1)) x3) (fun s3 => if inb (s3 17 0 1) 6 then lt (st s3 22 0 (ix (s3 17 0 1)) x4) (fun s4 => lt (st s4 17 0 1 ((s4 17 0 1) + (1 : Int32))) (fun s5 => lt (st s5 17 0 27 (0 : Int32)) (fun s6 => some ((s6 17 0 1) - (1 : Int32), s6)))) else none) else none) else none) else none
set_option maxRecDepth 100000 in
set_option maxHeartbeats 4000000 in
theorem c_m_addHeir {G : Gb} {l : Launch} {o : Sto} {L : Lng} (hG : GA G) (s : Sto) (x1 : Int32) (x2 : Int32) (x3 : Int32) (x4 : Int32)  : CT G l (EM o L) pvI psI yX12_addHeir cX12_addHeir 5 (some .int) 0 0 [.ref (ad G 17 0), .int x1, .int x2, .int x3, .int x4] s (f_m_addHeir s x1 x2 x3 x4) := by
  refine CT.of hG (by decide) (Nat.le_of_ble_eq_true rfl) (fun X hX => ?_)
  have hX : OX G X l cX12_addHeir 5 "CrownTwoModel" (some .int) 0 0 := hX
  show ZR G X (EM o L) pvI psI 5 s [(0, .ref (ad G 17 0)), (1, .int x1), (2, .int x2), (3, .int x3), (4, .int x4)] [] 0 _
  unfold f_m_addHeir
  refine z_aload_n (pc := 0) hX dX12_addHeir_0 rfl 0 rfl ?_
  refine gr_17_8M (pc := 1) hX q_820 dX12_addHeir_1 ?_
  refine z_aload_n (pc := 4) hX dX12_addHeir_4 rfl 0 rfl ?_
  refine gf_17_1M (pc := 5) hX q_813 dX12_addHeir_5 ?_
  refine z_iload_n (pc := 8) hX dX12_addHeir_8 rfl 1 rfl ?_
  refine is_19M (pc := 9) hX dX12_addHeir_9 ?_
  refine z_lts (fun s1 => ?_)
  refine z_aload_n (pc := 10) hX dX12_addHeir_10 rfl 0 rfl ?_
  refine gr_17_9M (pc := 11) hX q_821 dX12_addHeir_11 ?_
  refine z_aload_n (pc := 14) hX dX12_addHeir_14 rfl 0 rfl ?_
  refine gf_17_1M (pc := 15) hX q_813 dX12_addHeir_15 ?_
  refine z_iload_n (pc := 18) hX dX12_addHeir_18 rfl 2 rfl ?_
  refine is_20M (pc := 19) hX dX12_addHeir_19 ?_
  refine z_lts (fun s2 => ?_)
  refine z_aload_n (pc := 20) hX dX12_addHeir_20 rfl 0 rfl ?_
  refine gr_17_10M (pc := 21) hX q_822 dX12_addHeir_21 ?_
  refine z_aload_n (pc := 24) hX dX12_addHeir_24 rfl 0 rfl ?_
  refine gf_17_1M (pc := 25) hX q_813 dX12_addHeir_25 ?_
  refine z_iload_n (pc := 28) hX dX12_addHeir_28 rfl 3 rfl ?_
  refine is_21M (pc := 29) hX dX12_addHeir_29 ?_
  refine z_lts (fun s3 => ?_)
  refine z_aload_n (pc := 30) hX dX12_addHeir_30 rfl 0 rfl ?_
  refine gr_17_11M (pc := 31) hX q_823 dX12_addHeir_31 ?_
  refine z_aload_n (pc := 34) hX dX12_addHeir_34 rfl 0 rfl ?_
  refine gf_17_1M (pc := 35) hX q_813 dX12_addHeir_35 ?_
  refine z_iload (pc := 38) hX dX12_addHeir_38 4 rfl ?_
  refine is_22M (pc := 40) hX dX12_addHeir_40 ?_
  refine z_lts (fun s4 => ?_)
  refine z_aload_n (pc := 41) hX dX12_addHeir_41 rfl 0 rfl ?_
  refine z_dup (pc := 42) hX dX12_addHeir_42 rfl ?_
  refine gf_17_1M (pc := 43) hX q_813 dX12_addHeir_43 ?_
  refine z_iconst (pc := 46) hX dX12_addHeir_46 ic_1 ?_
  refine z_iadd (pc := 47) hX dX12_addHeir_47 ?_
  refine pf_17_1M (pc := 48) hX q_813 dX12_addHeir_48 ?_
  refine z_lts (fun s5 => ?_)
  refine z_aload_n (pc := 51) hX dX12_addHeir_51 rfl 0 rfl ?_
  refine z_iconst (pc := 52) hX dX12_addHeir_52 ic_0 ?_
  refine pf_17_27M (pc := 53) hX q_839 dX12_addHeir_53 ?_
  refine z_lts (fun s6 => ?_)
  refine z_aload_n (pc := 56) hX dX12_addHeir_56 rfl 0 rfl ?_
  refine gf_17_1M (pc := 57) hX q_813 dX12_addHeir_57 ?_
  refine z_iconst (pc := 60) hX dX12_addHeir_60 ic_1 ?_
  refine z_isub (pc := 61) hX dX12_addHeir_61 ?_
  exact z_retI (pc := 62) hX dX12_addHeir_62
theorem hd_X12_heir : yX12_heir.cls ≠ "java/lang/invoke/MethodHandle" ∧ yX12_heir.cls ≠ "java/lang/invoke/VarHandle" ∧ (parseMethodDescriptor yX12_heir.desc).map (fun d => d.parameters.length) = some 4 := by decide +kernel
def f_m_heir (s : Sto) (x1 : Int32) (x2 : Int32) (x3 : Int32) (x4 : Int32) : Option (Int32 × Sto) :=
  bP (f_m_in x1 (0 : Int32) (5 : Int32)) (fun r1 => if r1 = (0 : Int32) then bI (f_m_bad s) (fun r2 s3 => some (r2, s3)) else bP (f_m_in x2 (0 : Int32) (255 : Int32)) (fun r4 => if r4 = (0 : Int32) then bI (f_m_bad s) (fun r5 s6 => some (r5, s6)) else bP (f_m_in x3 (0 : Int32) (255 : Int32)) (fun r7 => if r7 = (0 : Int32) then bI (f_m_bad s) (fun r8 s9 => some (r8, s9)) else bP (f_m_in x4 (0 : Int32) (20 : Int32)) (fun r10 => if r10 = (0 : Int32) then bI (f_m_bad s) (fun r15 s16 => some (r15, s16)) else if (s 17 0 1) = (6 : Int32) then bI (f_m_full s) (fun r13 s14 => some (r13, s14)) else bI (f_m_addHeir s x1 x2 x3 x4) (fun r11 s12 => some (r11, s12))))))
set_option maxRecDepth 100000 in
set_option maxHeartbeats 4000000 in
theorem c_m_heir {G : Gb} {l : Launch} {o : Sto} {L : Lng} (hG : GA G) (s : Sto) (x1 : Int32) (x2 : Int32) (x3 : Int32) (x4 : Int32)  : CT G l (EM o L) pvI psI yX12_heir cX12_heir 5 (some .int) 1 24 [.ref (ad G 17 0), .int x1, .int x2, .int x3, .int x4] s (f_m_heir s x1 x2 x3 x4) := by
  refine CT.of hG (by decide) (Nat.le_of_ble_eq_true rfl) (fun X hX => ?_)
  have hX : OX G X l cX12_heir 5 "CrownTwoModel" (some .int) 1 24 := hX
  show ZR G X (EM o L) pvI psI 5 s [(0, .ref (ad G 17 0)), (1, .int x1), (2, .int x2), (3, .int x3), (4, .int x4)] [] 0 _
  unfold f_m_heir
  refine z_iload_n (pc := 0) hX dX12_heir_0 rfl 1 rfl ?_
  refine z_iconst (pc := 1) hX dX12_heir_1 ic_0 ?_
  refine z_iconst (pc := 2) hX dX12_heir_2 ic_5 ?_
  refine z_rP (run_S (pc := 3) (As := [.int x1, .int (0 : Int32), .int (5 : Int32)]) hX ⟨q_925, q_927, q_13⟩ q_926 hd_X12_in ⟨Nat.le_of_ble_eq_true rfl, Nat.le_of_ble_eq_true rfl⟩ (c_m_in hG s x1 (0 : Int32) (5 : Int32)) rfl rfl (Nat.le_of_ble_eq_true rfl) dX12_heir_3) (fun r1 => ?_)
  refine z_if_eq (pc := 6) (tgt := 42) hX dX12_heir_6 rfl ?_ ?_
  · refine z_aload_n (pc := 42) hX dX12_heir_42 rfl 0 rfl ?_
    refine z_rI (run_V (pc := 43) (As := []) hX rc_17 ⟨q_928, q_931, q_13⟩ q_930 qs_24 hd_X12_bad ⟨Nat.le_of_ble_eq_true rfl, Nat.le_of_ble_eq_true rfl⟩ (c_m_bad hG s) rfl rfl (Nat.le_of_ble_eq_true rfl) dX12_heir_43) (fun r2 s3 => ?_)
    exact z_retI (pc := 46) hX dX12_heir_46
  · refine z_iload_n (pc := 9) hX dX12_heir_9 rfl 2 rfl ?_
    refine z_iconst (pc := 10) hX dX12_heir_10 ic_0 ?_
    refine z_sipush (pc := 11) hX dX12_heir_11 sp_255 ?_
    refine z_rP (run_S (pc := 14) (As := [.int x2, .int (0 : Int32), .int (255 : Int32)]) hX ⟨q_925, q_927, q_13⟩ q_926 hd_X12_in ⟨Nat.le_of_ble_eq_true rfl, Nat.le_of_ble_eq_true rfl⟩ (c_m_in hG s x2 (0 : Int32) (255 : Int32)) rfl rfl (Nat.le_of_ble_eq_true rfl) dX12_heir_14) (fun r4 => ?_)
    refine z_if_eq (pc := 17) (tgt := 42) hX dX12_heir_17 rfl ?_ ?_
    · refine z_aload_n (pc := 42) hX dX12_heir_42 rfl 0 rfl ?_
      refine z_rI (run_V (pc := 43) (As := []) hX rc_17 ⟨q_928, q_931, q_13⟩ q_930 qs_24 hd_X12_bad ⟨Nat.le_of_ble_eq_true rfl, Nat.le_of_ble_eq_true rfl⟩ (c_m_bad hG s) rfl rfl (Nat.le_of_ble_eq_true rfl) dX12_heir_43) (fun r5 s6 => ?_)
      exact z_retI (pc := 46) hX dX12_heir_46
    · refine z_iload_n (pc := 20) hX dX12_heir_20 rfl 3 rfl ?_
      refine z_iconst (pc := 21) hX dX12_heir_21 ic_0 ?_
      refine z_sipush (pc := 22) hX dX12_heir_22 sp_255 ?_
      refine z_rP (run_S (pc := 25) (As := [.int x3, .int (0 : Int32), .int (255 : Int32)]) hX ⟨q_925, q_927, q_13⟩ q_926 hd_X12_in ⟨Nat.le_of_ble_eq_true rfl, Nat.le_of_ble_eq_true rfl⟩ (c_m_in hG s x3 (0 : Int32) (255 : Int32)) rfl rfl (Nat.le_of_ble_eq_true rfl) dX12_heir_25) (fun r7 => ?_)
      refine z_if_eq (pc := 28) (tgt := 42) hX dX12_heir_28 rfl ?_ ?_
      · refine z_aload_n (pc := 42) hX dX12_heir_42 rfl 0 rfl ?_
        refine z_rI (run_V (pc := 43) (As := []) hX rc_17 ⟨q_928, q_931, q_13⟩ q_930 qs_24 hd_X12_bad ⟨Nat.le_of_ble_eq_true rfl, Nat.le_of_ble_eq_true rfl⟩ (c_m_bad hG s) rfl rfl (Nat.le_of_ble_eq_true rfl) dX12_heir_43) (fun r8 s9 => ?_)
        exact z_retI (pc := 46) hX dX12_heir_46
      · refine z_iload (pc := 31) hX dX12_heir_31 4 rfl ?_
        refine z_iconst (pc := 33) hX dX12_heir_33 ic_0 ?_
        refine z_bipush (pc := 34) hX dX12_heir_34 bp_20 ?_
        refine z_rP (run_S (pc := 36) (As := [.int x4, .int (0 : Int32), .int (20 : Int32)]) hX ⟨q_925, q_927, q_13⟩ q_926 hd_X12_in ⟨Nat.le_of_ble_eq_true rfl, Nat.le_of_ble_eq_true rfl⟩ (c_m_in hG s x4 (0 : Int32) (20 : Int32)) rfl rfl (Nat.le_of_ble_eq_true rfl) dX12_heir_36) (fun r10 => ?_)
        refine z_if_ne (pc := 39) (tgt := 47) hX dX12_heir_39 rfl ?_ ?_
        · refine z_aload_n (pc := 47) hX dX12_heir_47 rfl 0 rfl ?_
          refine gf_17_1M (pc := 48) hX q_813 dX12_heir_48 ?_
          refine z_bipush (pc := 51) hX dX12_heir_51 bp_6 ?_
          refine z_icmp_ne (pc := 53) (tgt := 63) hX dX12_heir_53 rfl ?_ ?_
          · refine z_aload_n (pc := 63) hX dX12_heir_63 rfl 0 rfl ?_
            refine z_iload_n (pc := 64) hX dX12_heir_64 rfl 1 rfl ?_
            refine z_iload_n (pc := 65) hX dX12_heir_65 rfl 2 rfl ?_
            refine z_iload_n (pc := 66) hX dX12_heir_66 rfl 3 rfl ?_
            refine z_iload (pc := 67) hX dX12_heir_67 4 rfl ?_
            refine z_rI (run_V (pc := 69) (As := [.int x1, .int x2, .int x3, .int x4]) hX rc_17 ⟨q_940, q_943, q_13⟩ q_942 qs_26 hd_X12_addHeir ⟨Nat.le_of_ble_eq_true rfl, Nat.le_of_ble_eq_true rfl⟩ (c_m_addHeir hG s x1 x2 x3 x4) rfl rfl (Nat.le_of_ble_eq_true rfl) dX12_heir_69) (fun r11 s12 => ?_)
            exact z_retI (pc := 72) hX dX12_heir_72
          · refine z_aload_n (pc := 56) hX dX12_heir_56 rfl 0 rfl ?_
            refine z_rI (run_V (pc := 57) (As := []) hX rc_17 ⟨q_936, q_939, q_13⟩ q_938 qs_25 hd_X12_full ⟨Nat.le_of_ble_eq_true rfl, Nat.le_of_ble_eq_true rfl⟩ (c_m_full hG s) rfl rfl (Nat.le_of_ble_eq_true rfl) dX12_heir_57) (fun r13 s14 => ?_)
            refine z_goto (pc := 60) (tgt := 72) hX dX12_heir_60 rfl ?_
            exact z_retI (pc := 72) hX dX12_heir_72
        · refine z_aload_n (pc := 42) hX dX12_heir_42 rfl 0 rfl ?_
          refine z_rI (run_V (pc := 43) (As := []) hX rc_17 ⟨q_928, q_931, q_13⟩ q_930 qs_24 hd_X12_bad ⟨Nat.le_of_ble_eq_true rfl, Nat.le_of_ble_eq_true rfl⟩ (c_m_bad hG s) rfl rfl (Nat.le_of_ble_eq_true rfl) dX12_heir_43) (fun r15 s16 => ?_)
          exact z_retI (pc := 46) hX dX12_heir_46
theorem hd_X12_type : yX12_type.cls ≠ "java/lang/invoke/MethodHandle" ∧ yX12_type.cls ≠ "java/lang/invoke/VarHandle" ∧ (parseMethodDescriptor yX12_type.desc).map (fun d => d.parameters.length) = some 1 := by decide +kernel
def f_m_type (s : Sto) (x1 : Int32) : Option (Int32 × Sto) :=
  bP (f_m_in x1 (0 : Int32) (127 : Int32)) (fun r1 => if r1 = (0 : Int32) then bI (f_m_bad s) (fun r6 s7 => some (r6, s7)) else if (s 17 0 18) = (150 : Int32) then bI (f_m_full s) (fun r4 s5 => some (r4, s5)) else if inb (s 17 0 18) 150 then lt (st s 28 0 (ix (s 17 0 18)) x1) (fun s2 => lt (st s2 17 0 18 ((s2 17 0 18) + (1 : Int32))) (fun s3 => some (s3 17 0 18, s3))) else none)
set_option maxRecDepth 100000 in
set_option maxHeartbeats 4000000 in
theorem c_m_type {G : Gb} {l : Launch} {o : Sto} {L : Lng} (hG : GA G) (s : Sto) (x1 : Int32)  : CT G l (EM o L) pvI psI yX12_type cX12_type 2 (some .int) 1 22 [.ref (ad G 17 0), .int x1] s (f_m_type s x1) := by
  refine CT.of hG (by decide) (Nat.le_of_ble_eq_true rfl) (fun X hX => ?_)
  have hX : OX G X l cX12_type 2 "CrownTwoModel" (some .int) 1 22 := hX
  show ZR G X (EM o L) pvI psI 2 s [(0, .ref (ad G 17 0)), (1, .int x1)] [] 0 _
  unfold f_m_type
  refine z_iload_n (pc := 0) hX dX12_type_0 rfl 1 rfl ?_
  refine z_iconst (pc := 1) hX dX12_type_1 ic_0 ?_
  refine z_bipush (pc := 2) hX dX12_type_2 bp_127 ?_
  refine z_rP (run_S (pc := 4) (As := [.int x1, .int (0 : Int32), .int (127 : Int32)]) hX ⟨q_925, q_927, q_13⟩ q_926 hd_X12_in ⟨Nat.le_of_ble_eq_true rfl, Nat.le_of_ble_eq_true rfl⟩ (c_m_in hG s x1 (0 : Int32) (127 : Int32)) rfl rfl (Nat.le_of_ble_eq_true rfl) dX12_type_4) (fun r1 => ?_)
  refine z_if_ne (pc := 7) (tgt := 15) hX dX12_type_7 rfl ?_ ?_
  · refine z_aload_n (pc := 15) hX dX12_type_15 rfl 0 rfl ?_
    refine gf_17_18M (pc := 16) hX q_830 dX12_type_16 ?_
    refine z_sipush (pc := 19) hX dX12_type_19 sp_150 ?_
    refine z_icmp_ne (pc := 22) (tgt := 30) hX dX12_type_22 rfl ?_ ?_
    · refine z_aload_n (pc := 30) hX dX12_type_30 rfl 0 rfl ?_
      refine gr_17_17M (pc := 31) hX q_829 dX12_type_31 ?_
      refine z_aload_n (pc := 34) hX dX12_type_34 rfl 0 rfl ?_
      refine gf_17_18M (pc := 35) hX q_830 dX12_type_35 ?_
      refine z_iload_n (pc := 38) hX dX12_type_38 rfl 1 rfl ?_
      refine is_28M (pc := 39) hX dX12_type_39 ?_
      refine z_lts (fun s2 => ?_)
      refine z_aload_n (pc := 40) hX dX12_type_40 rfl 0 rfl ?_
      refine z_dup (pc := 41) hX dX12_type_41 rfl ?_
      refine gf_17_18M (pc := 42) hX q_830 dX12_type_42 ?_
      refine z_iconst (pc := 45) hX dX12_type_45 ic_1 ?_
      refine z_iadd (pc := 46) hX dX12_type_46 ?_
      refine pf_17_18M (pc := 47) hX q_830 dX12_type_47 ?_
      refine z_lts (fun s3 => ?_)
      refine z_aload_n (pc := 50) hX dX12_type_50 rfl 0 rfl ?_
      refine gf_17_18M (pc := 51) hX q_830 dX12_type_51 ?_
      exact z_retI (pc := 54) hX dX12_type_54
    · refine z_aload_n (pc := 25) hX dX12_type_25 rfl 0 rfl ?_
      refine z_rI (run_V (pc := 26) (As := []) hX rc_17 ⟨q_936, q_939, q_13⟩ q_938 qs_25 hd_X12_full ⟨Nat.le_of_ble_eq_true rfl, Nat.le_of_ble_eq_true rfl⟩ (c_m_full hG s) rfl rfl (Nat.le_of_ble_eq_true rfl) dX12_type_26) (fun r4 s5 => ?_)
      exact z_retI (pc := 29) hX dX12_type_29
  · refine z_aload_n (pc := 10) hX dX12_type_10 rfl 0 rfl ?_
    refine z_rI (run_V (pc := 11) (As := []) hX rc_17 ⟨q_928, q_931, q_13⟩ q_930 qs_24 hd_X12_bad ⟨Nat.le_of_ble_eq_true rfl, Nat.le_of_ble_eq_true rfl⟩ (c_m_bad hG s) rfl rfl (Nat.le_of_ble_eq_true rfl) dX12_type_11) (fun r6 s7 => ?_)
    exact z_retI (pc := 14) hX dX12_type_14
theorem hd_X12_clear : yX12_clear.cls ≠ "java/lang/invoke/MethodHandle" ∧ yX12_clear.cls ≠ "java/lang/invoke/VarHandle" ∧ (parseMethodDescriptor yX12_clear.desc).map (fun d => d.parameters.length) = some 0 := by decide +kernel
def f_m_clear (s : Sto)  : Option (Int32 × Sto) :=
  lt (s 17 0 18) (fun v1_1 => lt (st s 17 0 18 (0 : Int32)) (fun s2 => some (v1_1, s2)))
set_option maxRecDepth 100000 in
set_option maxHeartbeats 4000000 in
theorem c_m_clear {G : Gb} {l : Launch} {o : Sto} {L : Lng} (hG : GA G) (s : Sto)   : CT G l (EM o L) pvI psI yX12_clear cX12_clear 2 (some .int) 0 0 [.ref (ad G 17 0)] s (f_m_clear s) := by
  refine CT.of hG (by decide) (Nat.le_of_ble_eq_true rfl) (fun X hX => ?_)
  have hX : OX G X l cX12_clear 2 "CrownTwoModel" (some .int) 0 0 := hX
  show ZR G X (EM o L) pvI psI 2 s [(0, .ref (ad G 17 0))] [] 0 _
  unfold f_m_clear
  refine z_aload_n (pc := 0) hX dX12_clear_0 rfl 0 rfl ?_
  refine gf_17_18M (pc := 1) hX q_830 dX12_clear_1 ?_
  refine z_lti (pc := 4) (fun v1_1 => ?_)
  refine z_istore_n (pc := 4) (ls' := [(1, .int v1_1), (0, .ref (ad G 17 0))]) hX dX12_clear_4 rfl (by decide) rfl ?_
  refine z_aload_n (pc := 5) hX dX12_clear_5 rfl 1 rfl ?_
  refine z_iconst (pc := 6) hX dX12_clear_6 ic_0 ?_
  refine pf_17_18M (pc := 7) hX q_830 dX12_clear_7 ?_
  refine z_lts (fun s2 => ?_)
  refine z_iload_n (pc := 10) hX dX12_clear_10 rfl 0 rfl ?_
  exact z_retI (pc := 11) hX dX12_clear_11
theorem hd_X12_here : yX12_here.cls ≠ "java/lang/invoke/MethodHandle" ∧ yX12_here.cls ≠ "java/lang/invoke/VarHandle" ∧ (parseMethodDescriptor yX12_here.desc).map (fun d => d.parameters.length) = some 0 := by decide +kernel
def f_m_here (s : Sto)  : Option (Int32) :=
  if (s 17 0 18) ≤ (s 17 0 19) then some (-1 : Int32) else if inb (s 17 0 19) 150 then some (s 28 0 (ix (s 17 0 19))) else none
set_option maxRecDepth 100000 in
set_option maxHeartbeats 4000000 in
theorem c_m_here {G : Gb} {l : Launch} {o : Sto} {L : Lng} (hG : GA G) (s : Sto)   : CT G l (EM o L) pvP (psP s) yX12_here cX12_here 1 (some .int) 0 0 [.ref (ad G 17 0)] s (f_m_here s) := by
  refine CT.of hG (by decide) (Nat.le_of_ble_eq_true rfl) (fun X hX => ?_)
  have hX : OX G X l cX12_here 1 "CrownTwoModel" (some .int) 0 0 := hX
  show ZR G X (EM o L) pvP (psP s) 1 s [(0, .ref (ad G 17 0))] [] 0 _
  unfold f_m_here
  refine z_aload_n (pc := 0) hX dX12_here_0 rfl 0 rfl ?_
  refine gf_17_19M (pc := 1) hX q_831 dX12_here_1 ?_
  refine z_aload_n (pc := 4) hX dX12_here_4 rfl 0 rfl ?_
  refine gf_17_18M (pc := 5) hX q_830 dX12_here_5 ?_
  refine z_icmp_ge (pc := 8) (tgt := 23) hX dX12_here_8 rfl ?_ ?_
  · refine z_iconst (pc := 23) hX dX12_here_23 ic_m1 ?_
    exact z_retP (pc := 24) hX dX12_here_24
  · refine z_aload_n (pc := 11) hX dX12_here_11 rfl 0 rfl ?_
    refine gr_17_17M (pc := 12) hX q_829 dX12_here_12 ?_
    refine z_aload_n (pc := 15) hX dX12_here_15 rfl 0 rfl ?_
    refine gf_17_19M (pc := 16) hX q_831 dX12_here_16 ?_
    refine ia_28M (pc := 19) hX dX12_here_19 ?_
    refine z_goto (pc := 20) (tgt := 24) hX dX12_here_20 rfl ?_
    exact z_retP (pc := 24) hX dX12_here_24
theorem hd_X12_skip : yX12_skip.cls ≠ "java/lang/invoke/MethodHandle" ∧ yX12_skip.cls ≠ "java/lang/invoke/VarHandle" ∧ (parseMethodDescriptor yX12_skip.desc).map (fun d => d.parameters.length) = some 0 := by decide +kernel
def l_m_skip_0  (rc2 : Sto → Option (Sto)) (s1 : Sto) : Option (Sto) :=
  bP (f_m_here s1) (fun r3 => if r3 = (32 : Int32) then lt (st s1 17 0 19 ((s1 17 0 19) + (1 : Int32))) (fun s4 => rc2 s4) else some s1)
def f_m_skip (s : Sto)  : Option (Sto) :=
  fx 1000 (l_m_skip_0) (fun _ => none) s
set_option maxRecDepth 100000 in
set_option maxHeartbeats 4000000 in
theorem c_m_skip {G : Gb} {l : Launch} {o : Sto} {L : Lng} (hG : GA G) (s : Sto)   : CT G l (EM o L) pvV psV yX12_skip cX12_skip 1 none 1 20 [.ref (ad G 17 0)] s (f_m_skip s) := by
  refine CT.of hG (by decide) (Nat.le_of_ble_eq_true rfl) (fun X hX => ?_)
  have hX : OX G X l cX12_skip 1 "CrownTwoModel" none 1 20 := hX
  show ZR G X (EM o L) pvV psV 1 s [(0, .ref (ad G 17 0))] [] 0 _
  unfold f_m_skip
  refine z_ls [0] rfl ?_
  refine (fx_P (F := l_m_skip_0) (b := (fun _ => none)) (fun rc2 => ∀ (s1 : Sto), ZR G X (EM o L) pvV psV 1 s1 [(0, .ref (ad G 17 0))] [] 0 (rc2 s1)) ?_ ?_ 1000) s
  · intro s1; exact z_none
  · intro rc2 hrc2 s1
    unfold l_m_skip_0
    refine z_aload_n (pc := 0) hX dX12_skip_0 rfl 0 rfl ?_
    refine z_rP (run_V (pc := 1) (As := []) hX rc_17 ⟨q_968, q_971, q_13⟩ q_970 qs_30 hd_X12_here ⟨Nat.le_of_ble_eq_true rfl, Nat.le_of_ble_eq_true rfl⟩ (c_m_here hG s1) rfl rfl (Nat.le_of_ble_eq_true rfl) dX12_skip_1) (fun r3 => ?_)
    refine z_bipush (pc := 4) hX dX12_skip_4 bp_32 ?_
    refine z_icmp_ne (pc := 6) (tgt := 22) hX dX12_skip_6 rfl ?_ ?_
    · exact z_retV (pc := 22) hX dX12_skip_22
    · refine z_aload_n (pc := 9) hX dX12_skip_9 rfl 0 rfl ?_
      refine z_dup (pc := 10) hX dX12_skip_10 rfl ?_
      refine gf_17_19M (pc := 11) hX q_831 dX12_skip_11 ?_
      refine z_iconst (pc := 14) hX dX12_skip_14 ic_1 ?_
      refine z_iadd (pc := 15) hX dX12_skip_15 ?_
      refine pf_17_19M (pc := 16) hX q_831 dX12_skip_16 ?_
      refine z_lts (fun s4 => ?_)
      refine z_goto (pc := 19) (tgt := 0) hX dX12_skip_19 rfl ?_
      exact z_ls [0] rfl (hrc2 s4)
theorem hd_X12_isLetter : yX12_isLetter.cls ≠ "java/lang/invoke/MethodHandle" ∧ yX12_isLetter.cls ≠ "java/lang/invoke/VarHandle" ∧ (parseMethodDescriptor yX12_isLetter.desc).map (fun d => d.parameters.length) = some 1 := by decide +kernel
def f_m_isLetter (x0 : Int32) : Option (Int32) :=
  bP (f_m_in x0 (97 : Int32) (122 : Int32)) (fun r1 => if r1 = (0 : Int32) ∨ r1 = (1 : Int32) then some r1 else none)
set_option maxRecDepth 100000 in
set_option maxHeartbeats 4000000 in
theorem c_m_isLetter {G : Gb} {l : Launch} {o : Sto} {L : Lng} (hG : GA G) (s : Sto) (x0 : Int32)  : CT G l (EM o L) pvP (psP s) yX12_isLetter cX12_isLetter 1 (some .boolean) 1 22 [.int x0] s (f_m_isLetter x0) := by
  refine CT.of hG (by decide) (Nat.le_of_ble_eq_true rfl) (fun X hX => ?_)
  have hX : OX G X l cX12_isLetter 1 "CrownTwoModel" (some .boolean) 1 22 := hX
  show ZR G X (EM o L) pvP (psP s) 1 s [(0, .int x0)] [] 0 _
  unfold f_m_isLetter
  refine z_iload_n (pc := 0) hX dX12_isLetter_0 rfl 0 rfl ?_
  refine z_bipush (pc := 1) hX dX12_isLetter_1 bp_97 ?_
  refine z_bipush (pc := 3) hX dX12_isLetter_3 bp_122 ?_
  refine z_rP (run_S (pc := 5) (As := [.int x0, .int (97 : Int32), .int (122 : Int32)]) hX ⟨q_925, q_927, q_13⟩ q_926 hd_X12_in ⟨Nat.le_of_ble_eq_true rfl, Nat.le_of_ble_eq_true rfl⟩ (c_m_in hG s x0 (97 : Int32) (122 : Int32)) rfl rfl (Nat.le_of_ble_eq_true rfl) dX12_isLetter_5) (fun r1 => ?_)
  exact z_retPz (pc := 8) hX dX12_isLetter_8
theorem hd_X12_isFigure : yX12_isFigure.cls ≠ "java/lang/invoke/MethodHandle" ∧ yX12_isFigure.cls ≠ "java/lang/invoke/VarHandle" ∧ (parseMethodDescriptor yX12_isFigure.desc).map (fun d => d.parameters.length) = some 1 := by decide +kernel
def f_m_isFigure (x0 : Int32) : Option (Int32) :=
  bP (f_m_in x0 (48 : Int32) (57 : Int32)) (fun r1 => if r1 = (0 : Int32) ∨ r1 = (1 : Int32) then some r1 else none)
set_option maxRecDepth 100000 in
set_option maxHeartbeats 4000000 in
theorem c_m_isFigure {G : Gb} {l : Launch} {o : Sto} {L : Lng} (hG : GA G) (s : Sto) (x0 : Int32)  : CT G l (EM o L) pvP (psP s) yX12_isFigure cX12_isFigure 1 (some .boolean) 1 22 [.int x0] s (f_m_isFigure x0) := by
  refine CT.of hG (by decide) (Nat.le_of_ble_eq_true rfl) (fun X hX => ?_)
  have hX : OX G X l cX12_isFigure 1 "CrownTwoModel" (some .boolean) 1 22 := hX
  show ZR G X (EM o L) pvP (psP s) 1 s [(0, .int x0)] [] 0 _
  unfold f_m_isFigure
  refine z_iload_n (pc := 0) hX dX12_isFigure_0 rfl 0 rfl ?_
  refine z_bipush (pc := 1) hX dX12_isFigure_1 bp_48 ?_
  refine z_bipush (pc := 3) hX dX12_isFigure_3 bp_57 ?_
  refine z_rP (run_S (pc := 5) (As := [.int x0, .int (48 : Int32), .int (57 : Int32)]) hX ⟨q_925, q_927, q_13⟩ q_926 hd_X12_in ⟨Nat.le_of_ble_eq_true rfl, Nat.le_of_ble_eq_true rfl⟩ (c_m_in hG s x0 (48 : Int32) (57 : Int32)) rfl rfl (Nat.le_of_ble_eq_true rfl) dX12_isFigure_5) (fun r1 => ?_)
  exact z_retPz (pc := 8) hX dX12_isFigure_8
theorem hd_X12_wordSize : yX12_wordSize.cls ≠ "java/lang/invoke/MethodHandle" ∧ yX12_wordSize.cls ≠ "java/lang/invoke/VarHandle" ∧ (parseMethodDescriptor yX12_wordSize.desc).map (fun d => d.parameters.length) = some 0 := by decide +kernel
def l_m_wordSize_2 (s : Sto) (rc2 : Int32 → Option (Int32)) (v1_1 : Int32) : Option (Int32) :=
  if (s 17 0 18) ≤ ((s 17 0 19) + v1_1) then some v1_1 else if inb ((s 17 0 19) + v1_1) 150 then bP (f_m_isLetter (s 28 0 (ix ((s 17 0 19) + v1_1)))) (fun r3 => if r3 = (0 : Int32) then some v1_1 else rc2 (v1_1 + (1 : Int32))) else none
def f_m_wordSize (s : Sto)  : Option (Int32) :=
  fx 1000 (l_m_wordSize_2 s) (fun _ => none) (0 : Int32)
set_option maxRecDepth 100000 in
set_option maxHeartbeats 4000000 in
theorem c_m_wordSize {G : Gb} {l : Launch} {o : Sto} {L : Lng} (hG : GA G) (s : Sto)   : CT G l (EM o L) pvP (psP s) yX12_wordSize cX12_wordSize 2 (some .int) 2 42 [.ref (ad G 17 0)] s (f_m_wordSize s) := by
  refine CT.of hG (by decide) (Nat.le_of_ble_eq_true rfl) (fun X hX => ?_)
  have hX : OX G X l cX12_wordSize 2 "CrownTwoModel" (some .int) 2 42 := hX
  show ZR G X (EM o L) pvP (psP s) 2 s [(0, .ref (ad G 17 0))] [] 0 _
  unfold f_m_wordSize
  refine z_iconst (pc := 0) hX dX12_wordSize_0 ic_0 ?_
  refine z_istore_n (pc := 1) (ls' := [(1, .int (0 : Int32)), (0, .ref (ad G 17 0))]) hX dX12_wordSize_1 rfl (by decide) rfl ?_
  refine z_ls [1, 0] rfl ?_
  refine (fx_P (F := l_m_wordSize_2 s) (b := (fun _ => none)) (fun rc2 => ∀ (v1_1 : Int32), ZR G X (EM o L) pvP (psP s) 2 s [(0, .ref (ad G 17 0)), (1, .int v1_1)] [] 2 (rc2 v1_1)) ?_ ?_ 1000) (0 : Int32)
  · intro v1_1; exact z_none
  · intro rc2 hrc2 v1_1
    unfold l_m_wordSize_2
    refine z_aload_n (pc := 2) hX dX12_wordSize_2 rfl 0 rfl ?_
    refine gf_17_19M (pc := 3) hX q_831 dX12_wordSize_3 ?_
    refine z_iload_n (pc := 6) hX dX12_wordSize_6 rfl 1 rfl ?_
    refine z_iadd (pc := 7) hX dX12_wordSize_7 ?_
    refine z_aload_n (pc := 8) hX dX12_wordSize_8 rfl 0 rfl ?_
    refine gf_17_18M (pc := 9) hX q_830 dX12_wordSize_9 ?_
    refine z_icmp_ge (pc := 12) (tgt := 38) hX dX12_wordSize_12 rfl ?_ ?_
    · refine z_iload_n (pc := 38) hX dX12_wordSize_38 rfl 1 rfl ?_
      exact z_retP (pc := 39) hX dX12_wordSize_39
    · refine z_aload_n (pc := 15) hX dX12_wordSize_15 rfl 0 rfl ?_
      refine gr_17_17M (pc := 16) hX q_829 dX12_wordSize_16 ?_
      refine z_aload_n (pc := 19) hX dX12_wordSize_19 rfl 0 rfl ?_
      refine gf_17_19M (pc := 20) hX q_831 dX12_wordSize_20 ?_
      refine z_iload_n (pc := 23) hX dX12_wordSize_23 rfl 1 rfl ?_
      refine z_iadd (pc := 24) hX dX12_wordSize_24 ?_
      refine ia_28M (pc := 25) hX dX12_wordSize_25 ?_
      refine z_rP (run_S (pc := 26) (As := [.int (s 28 0 (ix ((s 17 0 19) + v1_1)))]) hX ⟨q_980, q_982, q_13⟩ q_981 hd_X12_isLetter ⟨Nat.le_of_ble_eq_true rfl, Nat.le_of_ble_eq_true rfl⟩ (c_m_isLetter hG s (s 28 0 (ix ((s 17 0 19) + v1_1)))) rfl rfl (Nat.le_of_ble_eq_true rfl) dX12_wordSize_26) (fun r3 => ?_)
      refine z_if_eq (pc := 29) (tgt := 38) hX dX12_wordSize_29 rfl ?_ ?_
      · refine z_iload_n (pc := 38) hX dX12_wordSize_38 rfl 1 rfl ?_
        exact z_retP (pc := 39) hX dX12_wordSize_39
      · refine z_iinc (pc := 32) (n := 1) (v := v1_1 + (1 : Int32)) (ls' := [(1, .int (v1_1 + (1 : Int32))), (0, .ref (ad G 17 0))]) hX dX12_wordSize_32 rfl (by rw [show Int32.ofInt (1) = 1 by decide +kernel]) (by decide) rfl ?_
        refine z_goto (pc := 35) (tgt := 2) hX dX12_wordSize_35 rfl ?_
        exact z_ls [1, 0] rfl (hrc2 (v1_1 + (1 : Int32)))
theorem hd_X12_letter : yX12_letter.cls ≠ "java/lang/invoke/MethodHandle" ∧ yX12_letter.cls ≠ "java/lang/invoke/VarHandle" ∧ (parseMethodDescriptor yX12_letter.desc).map (fun d => d.parameters.length) = some 1 := by decide +kernel
def f_m_letter (s : Sto) (x1 : Int32) : Option (Int32) :=
  if inb ((s 17 0 19) + x1) 150 then some (s 28 0 (ix ((s 17 0 19) + x1))) else none
set_option maxRecDepth 100000 in
set_option maxHeartbeats 4000000 in
theorem c_m_letter {G : Gb} {l : Launch} {o : Sto} {L : Lng} (hG : GA G) (s : Sto) (x1 : Int32)  : CT G l (EM o L) pvP (psP s) yX12_letter cX12_letter 2 (some .int) 0 0 [.ref (ad G 17 0), .int x1] s (f_m_letter s x1) := by
  refine CT.of hG (by decide) (Nat.le_of_ble_eq_true rfl) (fun X hX => ?_)
  have hX : OX G X l cX12_letter 2 "CrownTwoModel" (some .int) 0 0 := hX
  show ZR G X (EM o L) pvP (psP s) 2 s [(0, .ref (ad G 17 0)), (1, .int x1)] [] 0 _
  unfold f_m_letter
  refine z_aload_n (pc := 0) hX dX12_letter_0 rfl 0 rfl ?_
  refine gr_17_17M (pc := 1) hX q_829 dX12_letter_1 ?_
  refine z_aload_n (pc := 4) hX dX12_letter_4 rfl 0 rfl ?_
  refine gf_17_19M (pc := 5) hX q_831 dX12_letter_5 ?_
  refine z_iload_n (pc := 8) hX dX12_letter_8 rfl 1 rfl ?_
  refine z_iadd (pc := 9) hX dX12_letter_9 ?_
  refine ia_28M (pc := 10) hX dX12_letter_10 ?_
  exact z_retP (pc := 11) hX dX12_letter_11
theorem hd_X12_spells : yX12_spells.cls ≠ "java/lang/invoke/MethodHandle" ∧ yX12_spells.cls ≠ "java/lang/invoke/VarHandle" ∧ (parseMethodDescriptor yX12_spells.desc).map (fun d => d.parameters.length) = some 4 := by decide +kernel
def f_m_spells (s : Sto) (x1 : Int32) (x2 : Int32) (x3 : Int32) (x4 : Int32) : Option (Int32) :=
  bP (f_m_wordSize s) (fun r1 => jn (some (0 : Int32)) (fun j2 => if r1 = (4 : Int32) then bP (f_m_letter s (0 : Int32)) (fun r3 => if r3 = x1 then bP (f_m_letter s (1 : Int32)) (fun r4 => if r4 = x2 then bP (f_m_letter s (2 : Int32)) (fun r5 => if r5 = x3 then bP (f_m_letter s (3 : Int32)) (fun r6 => if r6 = x4 then some (1 : Int32) else j2) else j2) else j2) else j2) else j2))
set_option maxRecDepth 100000 in
set_option maxHeartbeats 4000000 in
theorem c_m_spells {G : Gb} {l : Launch} {o : Sto} {L : Lng} (hG : GA G) (s : Sto) (x1 : Int32) (x2 : Int32) (x3 : Int32) (x4 : Int32)  : CT G l (EM o L) pvP (psP s) yX12_spells cX12_spells 5 (some .boolean) 3 63 [.ref (ad G 17 0), .int x1, .int x2, .int x3, .int x4] s (f_m_spells s x1 x2 x3 x4) := by
  refine CT.of hG (by decide) (Nat.le_of_ble_eq_true rfl) (fun X hX => ?_)
  have hX : OX G X l cX12_spells 5 "CrownTwoModel" (some .boolean) 3 63 := hX
  show ZR G X (EM o L) pvP (psP s) 5 s [(0, .ref (ad G 17 0)), (1, .int x1), (2, .int x2), (3, .int x3), (4, .int x4)] [] 0 _
  unfold f_m_spells
  refine z_aload_n (pc := 0) hX dX12_spells_0 rfl 0 rfl ?_
  refine z_rP (run_V (pc := 1) (As := []) hX rc_17 ⟨q_976, q_979, q_13⟩ q_978 qs_32 hd_X12_wordSize ⟨Nat.le_of_ble_eq_true rfl, Nat.le_of_ble_eq_true rfl⟩ (c_m_wordSize hG s) rfl rfl (Nat.le_of_ble_eq_true rfl) dX12_spells_1) (fun r1 => ?_)
  refine z_iconst (pc := 4) hX dX12_spells_4 ic_4 ?_
  refine z_jn (P := fun j2 => ZR G X (EM o L) pvP (psP s) 5 s [] [] 49 (j2)) ?_ ?_
  · skip
    refine z_iconst (pc := 49) hX dX12_spells_49 ic_0 ?_
    exact z_retPc (pc := 50) hX dX12_spells_50 (by decide)
  · intro j2 hj2
    refine z_icmp_ne (pc := 5) (tgt := 49) hX dX12_spells_5 rfl ?_ ?_
    · exact z_ls [] rfl (hj2)
    · refine z_aload_n (pc := 8) hX dX12_spells_8 rfl 0 rfl ?_
      refine z_iconst (pc := 9) hX dX12_spells_9 ic_0 ?_
      refine z_rP (run_V (pc := 10) (As := [.int (0 : Int32)]) hX rc_17 ⟨q_983, q_986, q_13⟩ q_985 qs_33 hd_X12_letter ⟨Nat.le_of_ble_eq_true rfl, Nat.le_of_ble_eq_true rfl⟩ (c_m_letter hG s (0 : Int32)) rfl rfl (Nat.le_of_ble_eq_true rfl) dX12_spells_10) (fun r3 => ?_)
      refine z_iload_n (pc := 13) hX dX12_spells_13 rfl 1 rfl ?_
      refine z_icmp_ne (pc := 14) (tgt := 49) hX dX12_spells_14 rfl ?_ ?_
      · exact z_ls [] rfl (hj2)
      · refine z_aload_n (pc := 17) hX dX12_spells_17 rfl 0 rfl ?_
        refine z_iconst (pc := 18) hX dX12_spells_18 ic_1 ?_
        refine z_rP (run_V (pc := 19) (As := [.int (1 : Int32)]) hX rc_17 ⟨q_983, q_986, q_13⟩ q_985 qs_33 hd_X12_letter ⟨Nat.le_of_ble_eq_true rfl, Nat.le_of_ble_eq_true rfl⟩ (c_m_letter hG s (1 : Int32)) rfl rfl (Nat.le_of_ble_eq_true rfl) dX12_spells_19) (fun r4 => ?_)
        refine z_iload_n (pc := 22) hX dX12_spells_22 rfl 2 rfl ?_
        refine z_icmp_ne (pc := 23) (tgt := 49) hX dX12_spells_23 rfl ?_ ?_
        · exact z_ls [] rfl (hj2)
        · refine z_aload_n (pc := 26) hX dX12_spells_26 rfl 0 rfl ?_
          refine z_iconst (pc := 27) hX dX12_spells_27 ic_2 ?_
          refine z_rP (run_V (pc := 28) (As := [.int (2 : Int32)]) hX rc_17 ⟨q_983, q_986, q_13⟩ q_985 qs_33 hd_X12_letter ⟨Nat.le_of_ble_eq_true rfl, Nat.le_of_ble_eq_true rfl⟩ (c_m_letter hG s (2 : Int32)) rfl rfl (Nat.le_of_ble_eq_true rfl) dX12_spells_28) (fun r5 => ?_)
          refine z_iload_n (pc := 31) hX dX12_spells_31 rfl 3 rfl ?_
          refine z_icmp_ne (pc := 32) (tgt := 49) hX dX12_spells_32 rfl ?_ ?_
          · exact z_ls [] rfl (hj2)
          · refine z_aload_n (pc := 35) hX dX12_spells_35 rfl 0 rfl ?_
            refine z_iconst (pc := 36) hX dX12_spells_36 ic_3 ?_
            refine z_rP (run_V (pc := 37) (As := [.int (3 : Int32)]) hX rc_17 ⟨q_983, q_986, q_13⟩ q_985 qs_33 hd_X12_letter ⟨Nat.le_of_ble_eq_true rfl, Nat.le_of_ble_eq_true rfl⟩ (c_m_letter hG s (3 : Int32)) rfl rfl (Nat.le_of_ble_eq_true rfl) dX12_spells_37) (fun r6 => ?_)
            refine z_iload (pc := 40) hX dX12_spells_40 4 rfl ?_
            refine z_icmp_ne (pc := 42) (tgt := 49) hX dX12_spells_42 rfl ?_ ?_
            · exact z_ls [] rfl (hj2)
            · refine z_iconst (pc := 45) hX dX12_spells_45 ic_1 ?_
              refine z_goto (pc := 46) (tgt := 50) hX dX12_spells_46 rfl ?_
              exact z_retPc (pc := 50) hX dX12_spells_50 (by decide)
theorem hd_X12_wordHere : yX12_wordHere.cls ≠ "java/lang/invoke/MethodHandle" ∧ yX12_wordHere.cls ≠ "java/lang/invoke/VarHandle" ∧ (parseMethodDescriptor yX12_wordHere.desc).map (fun d => d.parameters.length) = some 0 := by decide +kernel
def f_m_wordHere (s : Sto)  : Option (Int32) :=
  bP (f_m_wordSize s) (fun r1 => jn (fun t2 => if t2 = (0 : Int32) then bP (f_m_spells s (104 : Int32) (101 : Int32) (105 : Int32) (114 : Int32)) (fun r4 => if r4 = (0 : Int32) then bP (f_m_spells s (108 : Int32) (105 : Int32) (107 : Int32) (101 : Int32)) (fun r5 => if r5 = (0 : Int32) then bP (f_m_spells s (104 : Int32) (97 : Int32) (116 : Int32) (101 : Int32)) (fun r6 => if r6 = (0 : Int32) then bP (f_m_spells s (112 : Int32) (97 : Int32) (105 : Int32) (114 : Int32)) (fun r7 => if r7 = (0 : Int32) then some (-1 : Int32) else some (4 : Int32)) else some (3 : Int32)) else some (2 : Int32)) else some (1 : Int32)) else some (0 : Int32)) (fun j3 => jn (j3 (0 : Int32)) (fun j8 => if r1 = (5 : Int32) then bP (f_m_letter s (0 : Int32)) (fun r9 => if r9 = (99 : Int32) then bP (f_m_letter s (1 : Int32)) (fun r10 => if r10 = (111 : Int32) then bP (f_m_letter s (2 : Int32)) (fun r11 => if r11 = (117 : Int32) then bP (f_m_letter s (3 : Int32)) (fun r12 => if r12 = (114 : Int32) then bP (f_m_letter s (4 : Int32)) (fun r13 => if r13 = (116 : Int32) then j3 (1 : Int32) else j8) else j8) else j8) else j8) else j8) else j8)))
set_option maxRecDepth 100000 in
set_option maxHeartbeats 4000000 in
theorem c_m_wordHere {G : Gb} {l : Launch} {o : Sto} {L : Lng} (hG : GA G) (s : Sto)   : CT G l (EM o L) pvP (psP s) yX12_wordHere cX12_wordHere 2 (some .int) 4 87 [.ref (ad G 17 0)] s (f_m_wordHere s) := by
  refine CT.of hG (by decide) (Nat.le_of_ble_eq_true rfl) (fun X hX => ?_)
  have hX : OX G X l cX12_wordHere 2 "CrownTwoModel" (some .int) 4 87 := hX
  show ZR G X (EM o L) pvP (psP s) 2 s [(0, .ref (ad G 17 0))] [] 0 _
  unfold f_m_wordHere
  refine z_aload_n (pc := 0) hX dX12_wordHere_0 rfl 0 rfl ?_
  refine z_rP (run_V (pc := 1) (As := []) hX rc_17 ⟨q_976, q_979, q_13⟩ q_978 qs_32 hd_X12_wordSize ⟨Nat.le_of_ble_eq_true rfl, Nat.le_of_ble_eq_true rfl⟩ (c_m_wordSize hG s) rfl rfl (Nat.le_of_ble_eq_true rfl) dX12_wordHere_1) (fun r1 => ?_)
  refine z_iconst (pc := 4) hX dX12_wordHere_4 ic_5 ?_
  refine z_jn (P := fun j3 => ∀ (t2 : Int32), ZR G X (EM o L) pvP (psP s) 2 s [(0, .ref (ad G 17 0))] [.int t2] 63 (j3 t2)) ?_ ?_
  · intro t2
    refine z_istore_n (pc := 63) (ls' := [(1, .int t2), (0, .ref (ad G 17 0))]) hX dX12_wordHere_63 rfl (by decide) rfl ?_
    refine z_iload_n (pc := 64) hX dX12_wordHere_64 rfl 0 rfl ?_
    refine z_if_eq (pc := 65) (tgt := 72) hX dX12_wordHere_65 rfl ?_ ?_
    · refine z_aload_n (pc := 72) hX dX12_wordHere_72 rfl 1 rfl ?_
      refine z_bipush (pc := 73) hX dX12_wordHere_73 bp_104 ?_
      refine z_bipush (pc := 75) hX dX12_wordHere_75 bp_101 ?_
      refine z_bipush (pc := 77) hX dX12_wordHere_77 bp_105 ?_
      refine z_bipush (pc := 79) hX dX12_wordHere_79 bp_114 ?_
      refine z_rP (run_V (pc := 81) (As := [.int (104 : Int32), .int (101 : Int32), .int (105 : Int32), .int (114 : Int32)]) hX rc_17 ⟨q_987, q_990, q_13⟩ q_989 qs_34 hd_X12_spells ⟨Nat.le_of_ble_eq_true rfl, Nat.le_of_ble_eq_true rfl⟩ (c_m_spells hG s (104 : Int32) (101 : Int32) (105 : Int32) (114 : Int32)) rfl rfl (Nat.le_of_ble_eq_true rfl) dX12_wordHere_81) (fun r4 => ?_)
      refine z_if_eq (pc := 84) (tgt := 91) hX dX12_wordHere_84 rfl ?_ ?_
      · refine z_aload_n (pc := 91) hX dX12_wordHere_91 rfl 1 rfl ?_
        refine z_bipush (pc := 92) hX dX12_wordHere_92 bp_108 ?_
        refine z_bipush (pc := 94) hX dX12_wordHere_94 bp_105 ?_
        refine z_bipush (pc := 96) hX dX12_wordHere_96 bp_107 ?_
        refine z_bipush (pc := 98) hX dX12_wordHere_98 bp_101 ?_
        refine z_rP (run_V (pc := 100) (As := [.int (108 : Int32), .int (105 : Int32), .int (107 : Int32), .int (101 : Int32)]) hX rc_17 ⟨q_987, q_990, q_13⟩ q_989 qs_34 hd_X12_spells ⟨Nat.le_of_ble_eq_true rfl, Nat.le_of_ble_eq_true rfl⟩ (c_m_spells hG s (108 : Int32) (105 : Int32) (107 : Int32) (101 : Int32)) rfl rfl (Nat.le_of_ble_eq_true rfl) dX12_wordHere_100) (fun r5 => ?_)
        refine z_if_eq (pc := 103) (tgt := 110) hX dX12_wordHere_103 rfl ?_ ?_
        · refine z_aload_n (pc := 110) hX dX12_wordHere_110 rfl 1 rfl ?_
          refine z_bipush (pc := 111) hX dX12_wordHere_111 bp_104 ?_
          refine z_bipush (pc := 113) hX dX12_wordHere_113 bp_97 ?_
          refine z_bipush (pc := 115) hX dX12_wordHere_115 bp_116 ?_
          refine z_bipush (pc := 117) hX dX12_wordHere_117 bp_101 ?_
          refine z_rP (run_V (pc := 119) (As := [.int (104 : Int32), .int (97 : Int32), .int (116 : Int32), .int (101 : Int32)]) hX rc_17 ⟨q_987, q_990, q_13⟩ q_989 qs_34 hd_X12_spells ⟨Nat.le_of_ble_eq_true rfl, Nat.le_of_ble_eq_true rfl⟩ (c_m_spells hG s (104 : Int32) (97 : Int32) (116 : Int32) (101 : Int32)) rfl rfl (Nat.le_of_ble_eq_true rfl) dX12_wordHere_119) (fun r6 => ?_)
          refine z_if_eq (pc := 122) (tgt := 129) hX dX12_wordHere_122 rfl ?_ ?_
          · refine z_aload_n (pc := 129) hX dX12_wordHere_129 rfl 1 rfl ?_
            refine z_bipush (pc := 130) hX dX12_wordHere_130 bp_112 ?_
            refine z_bipush (pc := 132) hX dX12_wordHere_132 bp_97 ?_
            refine z_bipush (pc := 134) hX dX12_wordHere_134 bp_105 ?_
            refine z_bipush (pc := 136) hX dX12_wordHere_136 bp_114 ?_
            refine z_rP (run_V (pc := 138) (As := [.int (112 : Int32), .int (97 : Int32), .int (105 : Int32), .int (114 : Int32)]) hX rc_17 ⟨q_987, q_990, q_13⟩ q_989 qs_34 hd_X12_spells ⟨Nat.le_of_ble_eq_true rfl, Nat.le_of_ble_eq_true rfl⟩ (c_m_spells hG s (112 : Int32) (97 : Int32) (105 : Int32) (114 : Int32)) rfl rfl (Nat.le_of_ble_eq_true rfl) dX12_wordHere_138) (fun r7 => ?_)
            refine z_if_eq (pc := 141) (tgt := 148) hX dX12_wordHere_141 rfl ?_ ?_
            · refine z_iconst (pc := 148) hX dX12_wordHere_148 ic_m1 ?_
              exact z_retP (pc := 149) hX dX12_wordHere_149
            · refine z_iconst (pc := 144) hX dX12_wordHere_144 ic_4 ?_
              refine z_goto (pc := 145) (tgt := 149) hX dX12_wordHere_145 rfl ?_
              exact z_retP (pc := 149) hX dX12_wordHere_149
          · refine z_iconst (pc := 125) hX dX12_wordHere_125 ic_3 ?_
            refine z_goto (pc := 126) (tgt := 149) hX dX12_wordHere_126 rfl ?_
            exact z_retP (pc := 149) hX dX12_wordHere_149
        · refine z_iconst (pc := 106) hX dX12_wordHere_106 ic_2 ?_
          refine z_goto (pc := 107) (tgt := 149) hX dX12_wordHere_107 rfl ?_
          exact z_retP (pc := 149) hX dX12_wordHere_149
      · refine z_iconst (pc := 87) hX dX12_wordHere_87 ic_1 ?_
        refine z_goto (pc := 88) (tgt := 149) hX dX12_wordHere_88 rfl ?_
        exact z_retP (pc := 149) hX dX12_wordHere_149
    · refine z_iconst (pc := 68) hX dX12_wordHere_68 ic_0 ?_
      refine z_goto (pc := 69) (tgt := 149) hX dX12_wordHere_69 rfl ?_
      exact z_retP (pc := 149) hX dX12_wordHere_149
  · intro j3 hj3
    refine z_jn (P := fun j8 => ZR G X (EM o L) pvP (psP s) 2 s [(0, .ref (ad G 17 0))] [] 62 (j8)) ?_ ?_
    · skip
      refine z_iconst (pc := 62) hX dX12_wordHere_62 ic_0 ?_
      exact z_ls [0] rfl (hj3 (0 : Int32))
    · intro j8 hj8
      refine z_icmp_ne (pc := 5) (tgt := 62) hX dX12_wordHere_5 rfl ?_ ?_
      · exact z_ls [0] rfl (hj8)
      · refine z_aload_n (pc := 8) hX dX12_wordHere_8 rfl 0 rfl ?_
        refine z_iconst (pc := 9) hX dX12_wordHere_9 ic_0 ?_
        refine z_rP (run_V (pc := 10) (As := [.int (0 : Int32)]) hX rc_17 ⟨q_983, q_986, q_13⟩ q_985 qs_33 hd_X12_letter ⟨Nat.le_of_ble_eq_true rfl, Nat.le_of_ble_eq_true rfl⟩ (c_m_letter hG s (0 : Int32)) rfl rfl (Nat.le_of_ble_eq_true rfl) dX12_wordHere_10) (fun r9 => ?_)
        refine z_bipush (pc := 13) hX dX12_wordHere_13 bp_99 ?_
        refine z_icmp_ne (pc := 15) (tgt := 62) hX dX12_wordHere_15 rfl ?_ ?_
        · exact z_ls [0] rfl (hj8)
        · refine z_aload_n (pc := 18) hX dX12_wordHere_18 rfl 0 rfl ?_
          refine z_iconst (pc := 19) hX dX12_wordHere_19 ic_1 ?_
          refine z_rP (run_V (pc := 20) (As := [.int (1 : Int32)]) hX rc_17 ⟨q_983, q_986, q_13⟩ q_985 qs_33 hd_X12_letter ⟨Nat.le_of_ble_eq_true rfl, Nat.le_of_ble_eq_true rfl⟩ (c_m_letter hG s (1 : Int32)) rfl rfl (Nat.le_of_ble_eq_true rfl) dX12_wordHere_20) (fun r10 => ?_)
          refine z_bipush (pc := 23) hX dX12_wordHere_23 bp_111 ?_
          refine z_icmp_ne (pc := 25) (tgt := 62) hX dX12_wordHere_25 rfl ?_ ?_
          · exact z_ls [0] rfl (hj8)
          · refine z_aload_n (pc := 28) hX dX12_wordHere_28 rfl 0 rfl ?_
            refine z_iconst (pc := 29) hX dX12_wordHere_29 ic_2 ?_
            refine z_rP (run_V (pc := 30) (As := [.int (2 : Int32)]) hX rc_17 ⟨q_983, q_986, q_13⟩ q_985 qs_33 hd_X12_letter ⟨Nat.le_of_ble_eq_true rfl, Nat.le_of_ble_eq_true rfl⟩ (c_m_letter hG s (2 : Int32)) rfl rfl (Nat.le_of_ble_eq_true rfl) dX12_wordHere_30) (fun r11 => ?_)
            refine z_bipush (pc := 33) hX dX12_wordHere_33 bp_117 ?_
            refine z_icmp_ne (pc := 35) (tgt := 62) hX dX12_wordHere_35 rfl ?_ ?_
            · exact z_ls [0] rfl (hj8)
            · refine z_aload_n (pc := 38) hX dX12_wordHere_38 rfl 0 rfl ?_
              refine z_iconst (pc := 39) hX dX12_wordHere_39 ic_3 ?_
              refine z_rP (run_V (pc := 40) (As := [.int (3 : Int32)]) hX rc_17 ⟨q_983, q_986, q_13⟩ q_985 qs_33 hd_X12_letter ⟨Nat.le_of_ble_eq_true rfl, Nat.le_of_ble_eq_true rfl⟩ (c_m_letter hG s (3 : Int32)) rfl rfl (Nat.le_of_ble_eq_true rfl) dX12_wordHere_40) (fun r12 => ?_)
              refine z_bipush (pc := 43) hX dX12_wordHere_43 bp_114 ?_
              refine z_icmp_ne (pc := 45) (tgt := 62) hX dX12_wordHere_45 rfl ?_ ?_
              · exact z_ls [0] rfl (hj8)
              · refine z_aload_n (pc := 48) hX dX12_wordHere_48 rfl 0 rfl ?_
                refine z_iconst (pc := 49) hX dX12_wordHere_49 ic_4 ?_
                refine z_rP (run_V (pc := 50) (As := [.int (4 : Int32)]) hX rc_17 ⟨q_983, q_986, q_13⟩ q_985 qs_33 hd_X12_letter ⟨Nat.le_of_ble_eq_true rfl, Nat.le_of_ble_eq_true rfl⟩ (c_m_letter hG s (4 : Int32)) rfl rfl (Nat.le_of_ble_eq_true rfl) dX12_wordHere_50) (fun r13 => ?_)
                refine z_bipush (pc := 53) hX dX12_wordHere_53 bp_116 ?_
                refine z_icmp_ne (pc := 55) (tgt := 62) hX dX12_wordHere_55 rfl ?_ ?_
                · exact z_ls [0] rfl (hj8)
                · refine z_iconst (pc := 58) hX dX12_wordHere_58 ic_1 ?_
                  refine z_goto (pc := 59) (tgt := 63) hX dX12_wordHere_59 rfl ?_
                  exact z_ls [0] rfl (hj3 (1 : Int32))
theorem hd_X12_number : yX12_number.cls ≠ "java/lang/invoke/MethodHandle" ∧ yX12_number.cls ≠ "java/lang/invoke/VarHandle" ∧ (parseMethodDescriptor yX12_number.desc).map (fun d => d.parameters.length) = some 2 := by decide +kernel
def l_m_number_9 (s1 : Sto) (K4 : Int32 → Int32 → Option (Int32 × Sto)) (rc11 : Int32 → Int32 → Option (Int32 × Sto)) (v3_9 : Int32) (v4_10 : Int32) : Option (Int32 × Sto) :=
  if (s1 17 0 18) ≤ ((s1 17 0 19) + v3_9) then K4 v3_9 v4_10 else if inb ((s1 17 0 19) + v3_9) 150 then bP (f_m_isFigure (s1 28 0 (ix ((s1 17 0 19) + v3_9)))) (fun r12 => if r12 = (0 : Int32) then K4 v3_9 v4_10 else jn (fun t13 => rc11 (v3_9 + (1 : Int32)) t13) (fun j14 => if (2 : Int32) ≤ v3_9 then j14 v4_10 else if inb ((s1 17 0 19) + v3_9) 150 then j14 ((((10 : Int32) * v4_10) + (s1 28 0 (ix ((s1 17 0 19) + v3_9)))) - (48 : Int32)) else none)) else none
def f_m_number (s : Sto) (x1 : Int32) (x2 : Int32) : Option (Int32 × Sto) :=
  bV (f_m_skip s) (fun s1 => jn (fun v3_2 v4_3 => bP (f_m_in v3_2 (1 : Int32) (2 : Int32)) (fun r5 => if r5 = (0 : Int32) then some ((0 : Int32), s1) else bP (f_m_in v4_3 x1 x2) (fun r6 => if r6 = (0 : Int32) then some ((0 : Int32), s1) else lt (st s1 17 0 25 v4_3) (fun s7 => lt (st s7 17 0 19 ((s7 17 0 19) + v3_2)) (fun s8 => some ((1 : Int32), s8)))))) (fun K4 => fx 1000 (l_m_number_9 s1 K4) (fun _ _ => none) (0 : Int32) (0 : Int32)))
set_option maxRecDepth 100000 in
set_option maxHeartbeats 4000000 in
theorem c_m_number {G : Gb} {l : Launch} {o : Sto} {L : Lng} (hG : GA G) (s : Sto) (x1 : Int32) (x2 : Int32)  : CT G l (EM o L) pvI psI yX12_number cX12_number 5 (some .boolean) 2 42 [.ref (ad G 17 0), .int x1, .int x2] s (f_m_number s x1 x2) := by
  refine CT.of hG (by decide) (Nat.le_of_ble_eq_true rfl) (fun X hX => ?_)
  have hX : OX G X l cX12_number 5 "CrownTwoModel" (some .boolean) 2 42 := hX
  show ZR G X (EM o L) pvI psI 5 s [(0, .ref (ad G 17 0)), (1, .int x1), (2, .int x2)] [] 0 _
  unfold f_m_number
  refine z_aload_n (pc := 0) hX dX12_number_0 rfl 0 rfl ?_
  refine z_rV (run_V (pc := 1) (As := []) hX rc_17 ⟨q_964, q_967, q_13⟩ q_966 qs_29 hd_X12_skip ⟨Nat.le_of_ble_eq_true rfl, Nat.le_of_ble_eq_true rfl⟩ (c_m_skip hG s) rfl rfl (Nat.le_of_ble_eq_true rfl) dX12_number_1) (fun s1 => ?_)
  refine z_iconst (pc := 4) hX dX12_number_4 ic_0 ?_
  refine z_istore_n (pc := 5) (ls' := [(3, .int (0 : Int32)), (0, .ref (ad G 17 0)), (1, .int x1), (2, .int x2)]) hX dX12_number_5 rfl (by decide) rfl ?_
  refine z_iconst (pc := 6) hX dX12_number_6 ic_0 ?_
  refine z_istore (pc := 7) (ls' := [(4, .int (0 : Int32)), (3, .int (0 : Int32)), (0, .ref (ad G 17 0)), (1, .int x1), (2, .int x2)]) hX dX12_number_7 (by decide) rfl ?_
  refine z_jn (P := fun K4 => ∀ (v3_2 : Int32) (v4_3 : Int32), ZR G X (EM o L) pvI psI 5 s1 [(0, .ref (ad G 17 0)), (1, .int x1), (2, .int x2), (3, .int v3_2), (4, .int v4_3)] [] 77 (K4 v3_2 v4_3)) ?_ ?_
  · intro v3_2 v4_3
    refine z_iload_n (pc := 77) hX dX12_number_77 rfl 3 rfl ?_
    refine z_iconst (pc := 78) hX dX12_number_78 ic_1 ?_
    refine z_iconst (pc := 79) hX dX12_number_79 ic_2 ?_
    refine z_rP (run_S (pc := 80) (As := [.int v3_2, .int (1 : Int32), .int (2 : Int32)]) hX ⟨q_925, q_927, q_13⟩ q_926 hd_X12_in ⟨Nat.le_of_ble_eq_true rfl, Nat.le_of_ble_eq_true rfl⟩ (c_m_in hG s1 v3_2 (1 : Int32) (2 : Int32)) rfl rfl (Nat.le_of_ble_eq_true rfl) dX12_number_80) (fun r5 => ?_)
    refine z_if_eq (pc := 83) (tgt := 96) hX dX12_number_83 rfl ?_ ?_
    · refine z_iconst (pc := 96) hX dX12_number_96 ic_0 ?_
      exact z_retIc (pc := 97) hX dX12_number_97 (by decide)
    · refine z_iload (pc := 86) hX dX12_number_86 4 rfl ?_
      refine z_iload_n (pc := 88) hX dX12_number_88 rfl 1 rfl ?_
      refine z_iload_n (pc := 89) hX dX12_number_89 rfl 2 rfl ?_
      refine z_rP (run_S (pc := 90) (As := [.int v4_3, .int x1, .int x2]) hX ⟨q_925, q_927, q_13⟩ q_926 hd_X12_in ⟨Nat.le_of_ble_eq_true rfl, Nat.le_of_ble_eq_true rfl⟩ (c_m_in hG s1 v4_3 x1 x2) rfl rfl (Nat.le_of_ble_eq_true rfl) dX12_number_90) (fun r6 => ?_)
      refine z_if_ne (pc := 93) (tgt := 98) hX dX12_number_93 rfl ?_ ?_
      · refine z_aload_n (pc := 98) hX dX12_number_98 rfl 0 rfl ?_
        refine z_iload (pc := 99) hX dX12_number_99 4 rfl ?_
        refine pf_17_25M (pc := 101) hX q_837 dX12_number_101 ?_
        refine z_lts (fun s7 => ?_)
        refine z_aload_n (pc := 104) hX dX12_number_104 rfl 0 rfl ?_
        refine z_dup (pc := 105) hX dX12_number_105 rfl ?_
        refine gf_17_19M (pc := 106) hX q_831 dX12_number_106 ?_
        refine z_iload_n (pc := 109) hX dX12_number_109 rfl 3 rfl ?_
        refine z_iadd (pc := 110) hX dX12_number_110 ?_
        refine pf_17_19M (pc := 111) hX q_831 dX12_number_111 ?_
        refine z_lts (fun s8 => ?_)
        refine z_iconst (pc := 114) hX dX12_number_114 ic_1 ?_
        exact z_retIc (pc := 115) hX dX12_number_115 (by decide)
      · refine z_iconst (pc := 96) hX dX12_number_96 ic_0 ?_
        exact z_retIc (pc := 97) hX dX12_number_97 (by decide)
  · intro K4 hK4
    refine z_ls [2, 3, 4, 1, 0] rfl ?_
    refine (fx_P (F := l_m_number_9 s1 K4) (b := (fun _ _ => none)) (fun rc11 => ∀ (v3_9 : Int32) (v4_10 : Int32), ZR G X (EM o L) pvI psI 5 s1 [(0, .ref (ad G 17 0)), (1, .int x1), (2, .int x2), (3, .int v3_9), (4, .int v4_10)] [] 9 (rc11 v3_9 v4_10)) ?_ ?_ 1000) (0 : Int32) (0 : Int32)
    · intro v3_9 v4_10; exact z_none
    · intro rc11 hrc11 v3_9 v4_10
      unfold l_m_number_9
      refine z_aload_n (pc := 9) hX dX12_number_9 rfl 0 rfl ?_
      refine gf_17_19M (pc := 10) hX q_831 dX12_number_10 ?_
      refine z_iload_n (pc := 13) hX dX12_number_13 rfl 3 rfl ?_
      refine z_iadd (pc := 14) hX dX12_number_14 ?_
      refine z_aload_n (pc := 15) hX dX12_number_15 rfl 0 rfl ?_
      refine gf_17_18M (pc := 16) hX q_830 dX12_number_16 ?_
      refine z_icmp_ge (pc := 19) (tgt := 77) hX dX12_number_19 rfl ?_ ?_
      · exact z_ls [0, 1, 2, 3, 4] rfl (hK4 v3_9 v4_10)
      · refine z_aload_n (pc := 22) hX dX12_number_22 rfl 0 rfl ?_
        refine gr_17_17M (pc := 23) hX q_829 dX12_number_23 ?_
        refine z_aload_n (pc := 26) hX dX12_number_26 rfl 0 rfl ?_
        refine gf_17_19M (pc := 27) hX q_831 dX12_number_27 ?_
        refine z_iload_n (pc := 30) hX dX12_number_30 rfl 3 rfl ?_
        refine z_iadd (pc := 31) hX dX12_number_31 ?_
        refine ia_28M (pc := 32) hX dX12_number_32 ?_
        refine z_rP (run_S (pc := 33) (As := [.int (s1 28 0 (ix ((s1 17 0 19) + v3_9)))]) hX ⟨q_995, q_997, q_13⟩ q_996 hd_X12_isFigure ⟨Nat.le_of_ble_eq_true rfl, Nat.le_of_ble_eq_true rfl⟩ (c_m_isFigure hG s1 (s1 28 0 (ix ((s1 17 0 19) + v3_9)))) rfl rfl (Nat.le_of_ble_eq_true rfl) dX12_number_33) (fun r12 => ?_)
        refine z_if_eq (pc := 36) (tgt := 77) hX dX12_number_36 rfl ?_ ?_
        · exact z_ls [0, 1, 2, 3, 4] rfl (hK4 v3_9 v4_10)
        · refine z_iload_n (pc := 39) hX dX12_number_39 rfl 3 rfl ?_
          refine z_iconst (pc := 40) hX dX12_number_40 ic_2 ?_
          refine z_jn (P := fun j14 => ∀ (t13 : Int32), ZR G X (EM o L) pvI psI 5 s1 [(0, .ref (ad G 17 0)), (1, .int x1), (2, .int x2), (3, .int v3_9)] [.int t13] 69 (j14 t13)) ?_ ?_
          · intro t13
            refine z_istore (pc := 69) (ls' := [(4, .int t13), (0, .ref (ad G 17 0)), (1, .int x1), (2, .int x2), (3, .int v3_9)]) hX dX12_number_69 (by decide) rfl ?_
            refine z_iinc (pc := 71) (n := 4) (v := v3_9 + (1 : Int32)) (ls' := [(3, .int (v3_9 + (1 : Int32))), (4, .int t13), (0, .ref (ad G 17 0)), (1, .int x1), (2, .int x2)]) hX dX12_number_71 rfl (by rw [show Int32.ofInt (1) = 1 by decide +kernel]) (by decide) rfl ?_
            refine z_goto (pc := 74) (tgt := 9) hX dX12_number_74 rfl ?_
            exact z_ls [2, 3, 4, 0, 1] rfl (hrc11 (v3_9 + (1 : Int32)) t13)
          · intro j14 hj14
            refine z_icmp_ge (pc := 41) (tgt := 67) hX dX12_number_41 rfl ?_ ?_
            · refine z_iload (pc := 67) hX dX12_number_67 4 rfl ?_
              exact z_ls [0, 1, 2, 3] rfl (hj14 v4_10)
            · refine z_bipush (pc := 44) hX dX12_number_44 bp_10 ?_
              refine z_iload (pc := 46) hX dX12_number_46 4 rfl ?_
              refine z_imul (pc := 48) hX dX12_number_48 ?_
              refine z_aload_n (pc := 49) hX dX12_number_49 rfl 0 rfl ?_
              refine gr_17_17M (pc := 50) hX q_829 dX12_number_50 ?_
              refine z_aload_n (pc := 53) hX dX12_number_53 rfl 0 rfl ?_
              refine gf_17_19M (pc := 54) hX q_831 dX12_number_54 ?_
              refine z_iload_n (pc := 57) hX dX12_number_57 rfl 3 rfl ?_
              refine z_iadd (pc := 58) hX dX12_number_58 ?_
              refine ia_28M (pc := 59) hX dX12_number_59 ?_
              refine z_iadd (pc := 60) hX dX12_number_60 ?_
              refine z_bipush (pc := 61) hX dX12_number_61 bp_48 ?_
              refine z_isub (pc := 63) hX dX12_number_63 ?_
              refine z_goto (pc := 64) (tgt := 69) hX dX12_number_64 rfl ?_
              exact z_ls [0, 1, 2, 3] rfl (hj14 ((((10 : Int32) * v4_10) + (s1 28 0 (ix ((s1 17 0 19) + v3_9)))) - (48 : Int32)))
theorem hd_X12_ends : yX12_ends.cls ≠ "java/lang/invoke/MethodHandle" ∧ yX12_ends.cls ≠ "java/lang/invoke/VarHandle" ∧ (parseMethodDescriptor yX12_ends.desc).map (fun d => d.parameters.length) = some 0 := by decide +kernel
def f_m_ends (s : Sto)  : Option (Int32 × Sto) :=
  bV (f_m_skip s) (fun s1 => bP (f_m_here s1) (fun r2 => if r2 = (59 : Int32) then lt (st s1 17 0 19 ((s1 17 0 19) + (1 : Int32))) (fun s3 => some ((1 : Int32), s3)) else some ((0 : Int32), s1)))
set_option maxRecDepth 100000 in
set_option maxHeartbeats 4000000 in
theorem c_m_ends {G : Gb} {l : Launch} {o : Sto} {L : Lng} (hG : GA G) (s : Sto)   : CT G l (EM o L) pvI psI yX12_ends cX12_ends 1 (some .boolean) 2 40 [.ref (ad G 17 0)] s (f_m_ends s) := by
  refine CT.of hG (by decide) (Nat.le_of_ble_eq_true rfl) (fun X hX => ?_)
  have hX : OX G X l cX12_ends 1 "CrownTwoModel" (some .boolean) 2 40 := hX
  show ZR G X (EM o L) pvI psI 1 s [(0, .ref (ad G 17 0))] [] 0 _
  unfold f_m_ends
  refine z_aload_n (pc := 0) hX dX12_ends_0 rfl 0 rfl ?_
  refine z_rV (run_V (pc := 1) (As := []) hX rc_17 ⟨q_964, q_967, q_13⟩ q_966 qs_29 hd_X12_skip ⟨Nat.le_of_ble_eq_true rfl, Nat.le_of_ble_eq_true rfl⟩ (c_m_skip hG s) rfl rfl (Nat.le_of_ble_eq_true rfl) dX12_ends_1) (fun s1 => ?_)
  refine z_aload_n (pc := 4) hX dX12_ends_4 rfl 0 rfl ?_
  refine z_rP (run_V (pc := 5) (As := []) hX rc_17 ⟨q_968, q_971, q_13⟩ q_970 qs_30 hd_X12_here ⟨Nat.le_of_ble_eq_true rfl, Nat.le_of_ble_eq_true rfl⟩ (c_m_here hG s1) rfl rfl (Nat.le_of_ble_eq_true rfl) dX12_ends_5) (fun r2 => ?_)
  refine z_bipush (pc := 8) hX dX12_ends_8 bp_59 ?_
  refine z_icmp_eq (pc := 10) (tgt := 15) hX dX12_ends_10 rfl ?_ ?_
  · refine z_aload_n (pc := 15) hX dX12_ends_15 rfl 0 rfl ?_
    refine z_dup (pc := 16) hX dX12_ends_16 rfl ?_
    refine gf_17_19M (pc := 17) hX q_831 dX12_ends_17 ?_
    refine z_iconst (pc := 20) hX dX12_ends_20 ic_1 ?_
    refine z_iadd (pc := 21) hX dX12_ends_21 ?_
    refine pf_17_19M (pc := 22) hX q_831 dX12_ends_22 ?_
    refine z_lts (fun s3 => ?_)
    refine z_iconst (pc := 25) hX dX12_ends_25 ic_1 ?_
    exact z_retIc (pc := 26) hX dX12_ends_26 (by decide)
  · refine z_iconst (pc := 13) hX dX12_ends_13 ic_0 ?_
    exact z_retIc (pc := 14) hX dX12_ends_14 (by decide)
theorem hd_X12_readsHeir : yX12_readsHeir.cls ≠ "java/lang/invoke/MethodHandle" ∧ yX12_readsHeir.cls ≠ "java/lang/invoke/VarHandle" ∧ (parseMethodDescriptor yX12_readsHeir.desc).map (fun d => d.parameters.length) = some 0 := by decide +kernel
def f_m_readsHeir (s : Sto)  : Option (Int32 × Sto) :=
  bI (f_m_number s (0 : Int32) (5 : Int32)) (fun r1 s2 => if r1 = (0 : Int32) then some ((0 : Int32), s2) else lt (s2 17 0 25) (fun v1_3 => bI (f_m_number s2 (0 : Int32) (20 : Int32)) (fun r4 s5 => if r4 = (0 : Int32) then some ((0 : Int32), s5) else lt ((4 : Int32) * (s5 17 0 21)) (fun v2_6 => if inb v2_6 24 then lt (st s5 29 0 (ix v2_6) v1_3) (fun s7 => if inb (v2_6 + (1 : Int32)) 24 then lt (st s7 29 0 (ix (v2_6 + (1 : Int32))) (0 : Int32)) (fun s8 => if inb (v2_6 + (2 : Int32)) 24 then lt (st s8 29 0 (ix (v2_6 + (2 : Int32))) (0 : Int32)) (fun s9 => if inb (v2_6 + (3 : Int32)) 24 then lt (st s9 29 0 (ix (v2_6 + (3 : Int32))) (s9 17 0 25)) (fun s10 => lt (st s10 17 0 21 ((s10 17 0 21) + (1 : Int32))) (fun s11 => bI (f_m_ends s11) (fun r12 s13 => if r12 = (0 : Int32) ∨ r12 = (1 : Int32) then some (r12, s13) else none))) else none) else none) else none) else none))))
set_option maxRecDepth 100000 in
set_option maxHeartbeats 4000000 in
theorem c_m_readsHeir {G : Gb} {l : Launch} {o : Sto} {L : Lng} (hG : GA G) (s : Sto)   : CT G l (EM o L) pvI psI yX12_readsHeir cX12_readsHeir 3 (some .boolean) 3 66 [.ref (ad G 17 0)] s (f_m_readsHeir s) := by
  refine CT.of hG (by decide) (Nat.le_of_ble_eq_true rfl) (fun X hX => ?_)
  have hX : OX G X l cX12_readsHeir 3 "CrownTwoModel" (some .boolean) 3 66 := hX
  show ZR G X (EM o L) pvI psI 3 s [(0, .ref (ad G 17 0))] [] 0 _
  unfold f_m_readsHeir
  refine z_aload_n (pc := 0) hX dX12_readsHeir_0 rfl 0 rfl ?_
  refine z_iconst (pc := 1) hX dX12_readsHeir_1 ic_0 ?_
  refine z_iconst (pc := 2) hX dX12_readsHeir_2 ic_5 ?_
  refine z_rI (run_V (pc := 3) (As := [.int (0 : Int32), .int (5 : Int32)]) hX rc_17 ⟨q_991, q_994, q_13⟩ q_993 qs_35 hd_X12_number ⟨Nat.le_of_ble_eq_true rfl, Nat.le_of_ble_eq_true rfl⟩ (c_m_number hG s (0 : Int32) (5 : Int32)) rfl rfl (Nat.le_of_ble_eq_true rfl) dX12_readsHeir_3) (fun r1 s2 => ?_)
  refine z_if_ne (pc := 6) (tgt := 11) hX dX12_readsHeir_6 rfl ?_ ?_
  · refine z_aload_n (pc := 11) hX dX12_readsHeir_11 rfl 0 rfl ?_
    refine gf_17_25M (pc := 12) hX q_837 dX12_readsHeir_12 ?_
    refine z_lti (pc := 15) (fun v1_3 => ?_)
    refine z_istore_n (pc := 15) (ls' := [(1, .int v1_3), (0, .ref (ad G 17 0))]) hX dX12_readsHeir_15 rfl (by decide) rfl ?_
    refine z_aload_n (pc := 16) hX dX12_readsHeir_16 rfl 1 rfl ?_
    refine z_iconst (pc := 17) hX dX12_readsHeir_17 ic_0 ?_
    refine z_bipush (pc := 18) hX dX12_readsHeir_18 bp_20 ?_
    refine z_rI (run_V (pc := 20) (As := [.int (0 : Int32), .int (20 : Int32)]) hX rc_17 ⟨q_991, q_994, q_13⟩ q_993 qs_35 hd_X12_number ⟨Nat.le_of_ble_eq_true rfl, Nat.le_of_ble_eq_true rfl⟩ (c_m_number hG s2 (0 : Int32) (20 : Int32)) rfl rfl (Nat.le_of_ble_eq_true rfl) dX12_readsHeir_20) (fun r4 s5 => ?_)
    refine z_if_ne (pc := 23) (tgt := 28) hX dX12_readsHeir_23 rfl ?_ ?_
    · refine z_iconst (pc := 28) hX dX12_readsHeir_28 ic_4 ?_
      refine z_aload_n (pc := 29) hX dX12_readsHeir_29 rfl 1 rfl ?_
      refine gf_17_21M (pc := 30) hX q_833 dX12_readsHeir_30 ?_
      refine z_imul (pc := 33) hX dX12_readsHeir_33 ?_
      refine z_lti (pc := 34) (fun v2_6 => ?_)
      refine z_istore_n (pc := 34) (ls' := [(2, .int v2_6), (1, .int v1_3), (0, .ref (ad G 17 0))]) hX dX12_readsHeir_34 rfl (by decide) rfl ?_
      refine z_aload_n (pc := 35) hX dX12_readsHeir_35 rfl 2 rfl ?_
      refine gr_17_24M (pc := 36) hX q_836 dX12_readsHeir_36 ?_
      refine z_iload_n (pc := 39) hX dX12_readsHeir_39 rfl 0 rfl ?_
      refine z_iload_n (pc := 40) hX dX12_readsHeir_40 rfl 1 rfl ?_
      refine is_29M (pc := 41) hX dX12_readsHeir_41 ?_
      refine z_lts (fun s7 => ?_)
      refine z_aload_n (pc := 42) hX dX12_readsHeir_42 rfl 2 rfl ?_
      refine gr_17_24M (pc := 43) hX q_836 dX12_readsHeir_43 ?_
      refine z_iload_n (pc := 46) hX dX12_readsHeir_46 rfl 0 rfl ?_
      refine z_iconst (pc := 47) hX dX12_readsHeir_47 ic_1 ?_
      refine z_iadd (pc := 48) hX dX12_readsHeir_48 ?_
      refine z_iconst (pc := 49) hX dX12_readsHeir_49 ic_0 ?_
      refine is_29M (pc := 50) hX dX12_readsHeir_50 ?_
      refine z_lts (fun s8 => ?_)
      refine z_aload_n (pc := 51) hX dX12_readsHeir_51 rfl 2 rfl ?_
      refine gr_17_24M (pc := 52) hX q_836 dX12_readsHeir_52 ?_
      refine z_iload_n (pc := 55) hX dX12_readsHeir_55 rfl 0 rfl ?_
      refine z_iconst (pc := 56) hX dX12_readsHeir_56 ic_2 ?_
      refine z_iadd (pc := 57) hX dX12_readsHeir_57 ?_
      refine z_iconst (pc := 58) hX dX12_readsHeir_58 ic_0 ?_
      refine is_29M (pc := 59) hX dX12_readsHeir_59 ?_
      refine z_lts (fun s9 => ?_)
      refine z_aload_n (pc := 60) hX dX12_readsHeir_60 rfl 2 rfl ?_
      refine gr_17_24M (pc := 61) hX q_836 dX12_readsHeir_61 ?_
      refine z_iload_n (pc := 64) hX dX12_readsHeir_64 rfl 0 rfl ?_
      refine z_iconst (pc := 65) hX dX12_readsHeir_65 ic_3 ?_
      refine z_iadd (pc := 66) hX dX12_readsHeir_66 ?_
      refine z_aload_n (pc := 67) hX dX12_readsHeir_67 rfl 2 rfl ?_
      refine gf_17_25M (pc := 68) hX q_837 dX12_readsHeir_68 ?_
      refine is_29M (pc := 71) hX dX12_readsHeir_71 ?_
      refine z_lts (fun s10 => ?_)
      refine z_aload_n (pc := 72) hX dX12_readsHeir_72 rfl 2 rfl ?_
      refine z_dup (pc := 73) hX dX12_readsHeir_73 rfl ?_
      refine gf_17_21M (pc := 74) hX q_833 dX12_readsHeir_74 ?_
      refine z_iconst (pc := 77) hX dX12_readsHeir_77 ic_1 ?_
      refine z_iadd (pc := 78) hX dX12_readsHeir_78 ?_
      refine pf_17_21M (pc := 79) hX q_833 dX12_readsHeir_79 ?_
      refine z_lts (fun s11 => ?_)
      refine z_aload_n (pc := 82) hX dX12_readsHeir_82 rfl 2 rfl ?_
      refine z_rI (run_V (pc := 83) (As := []) hX rc_17 ⟨q_998, q_1001, q_13⟩ q_1000 qs_36 hd_X12_ends ⟨Nat.le_of_ble_eq_true rfl, Nat.le_of_ble_eq_true rfl⟩ (c_m_ends hG s11) rfl rfl (Nat.le_of_ble_eq_true rfl) dX12_readsHeir_83) (fun r12 s13 => ?_)
      exact z_retIz (pc := 86) hX dX12_readsHeir_86
    · refine z_iconst (pc := 26) hX dX12_readsHeir_26 ic_0 ?_
      exact z_retIc (pc := 27) hX dX12_readsHeir_27 (by decide)
  · refine z_iconst (pc := 9) hX dX12_readsHeir_9 ic_0 ?_
    exact z_retIc (pc := 10) hX dX12_readsHeir_10 (by decide)
theorem hd_X12_readsActs : yX12_readsActs.cls ≠ "java/lang/invoke/MethodHandle" ∧ yX12_readsActs.cls ≠ "java/lang/invoke/VarHandle" ∧ (parseMethodDescriptor yX12_readsActs.desc).map (fun d => d.parameters.length) = some 1 := by decide +kernel
def l_m_readsActs_27 (K7 : Sto → Int32 → Option (Int32 × Sto)) (rc13 : Sto → Int32 → Option (Int32 × Sto)) (s11 : Sto) (v3_12 : Int32) : Option (Int32 × Sto) :=
  bP (f_m_here s11) (fun r14 => bP (f_m_isFigure r14) (fun r15 => if r15 = (0 : Int32) then K7 s11 v3_12 else bI (f_m_number s11 (0 : Int32) (7 : Int32)) (fun r16 s17 => if r16 = (0 : Int32) then some ((0 : Int32), s17) else lt (v3_12 ||| ((1 : Int32) <<< ((s17 17 0 25) &&& 31))) (fun v3_18 => bV (f_m_skip s17) (fun s19 => rc13 s19 v3_18)))))
def f_m_readsActs (s : Sto) (x1 : Int32) : Option (Int32 × Sto) :=
  bI (f_m_number s (0 : Int32) ((s 17 0 21) - (1 : Int32))) (fun r1 s2 => if r1 = (0 : Int32) then some ((0 : Int32), s2) else lt (s2 17 0 25) (fun v2_3 => bV (f_m_skip s2) (fun s4 => jn (fun s5 v3_6 => if inb (((4 : Int32) * v2_3) + x1) 24 then lt (st s5 29 0 (ix (((4 : Int32) * v2_3) + x1)) v3_6) (fun s8 => bI (f_m_ends s8) (fun r9 s10 => if r9 = (0 : Int32) ∨ r9 = (1 : Int32) then some (r9, s10) else none)) else none) (fun K7 => fx 1000 (l_m_readsActs_27 K7) (fun _ _ => none) s4 (0 : Int32)))))
set_option maxRecDepth 100000 in
set_option maxHeartbeats 4000000 in
theorem c_m_readsActs {G : Gb} {l : Launch} {o : Sto} {L : Lng} (hG : GA G) (s : Sto) (x1 : Int32)  : CT G l (EM o L) pvI psI yX12_readsActs cX12_readsActs 4 (some .boolean) 3 66 [.ref (ad G 17 0), .int x1] s (f_m_readsActs s x1) := by
  refine CT.of hG (by decide) (Nat.le_of_ble_eq_true rfl) (fun X hX => ?_)
  have hX : OX G X l cX12_readsActs 4 "CrownTwoModel" (some .boolean) 3 66 := hX
  show ZR G X (EM o L) pvI psI 4 s [(0, .ref (ad G 17 0)), (1, .int x1)] [] 0 _
  unfold f_m_readsActs
  refine z_aload_n (pc := 0) hX dX12_readsActs_0 rfl 0 rfl ?_
  refine z_iconst (pc := 1) hX dX12_readsActs_1 ic_0 ?_
  refine z_aload_n (pc := 2) hX dX12_readsActs_2 rfl 0 rfl ?_
  refine gf_17_21M (pc := 3) hX q_833 dX12_readsActs_3 ?_
  refine z_iconst (pc := 6) hX dX12_readsActs_6 ic_1 ?_
  refine z_isub (pc := 7) hX dX12_readsActs_7 ?_
  refine z_rI (run_V (pc := 8) (As := [.int (0 : Int32), .int ((s 17 0 21) - (1 : Int32))]) hX rc_17 ⟨q_991, q_994, q_13⟩ q_993 qs_35 hd_X12_number ⟨Nat.le_of_ble_eq_true rfl, Nat.le_of_ble_eq_true rfl⟩ (c_m_number hG s (0 : Int32) ((s 17 0 21) - (1 : Int32))) rfl rfl (Nat.le_of_ble_eq_true rfl) dX12_readsActs_8) (fun r1 s2 => ?_)
  refine z_if_ne (pc := 11) (tgt := 16) hX dX12_readsActs_11 rfl ?_ ?_
  · refine z_aload_n (pc := 16) hX dX12_readsActs_16 rfl 0 rfl ?_
    refine gf_17_25M (pc := 17) hX q_837 dX12_readsActs_17 ?_
    refine z_lti (pc := 20) (fun v2_3 => ?_)
    refine z_istore_n (pc := 20) (ls' := [(2, .int v2_3), (0, .ref (ad G 17 0)), (1, .int x1)]) hX dX12_readsActs_20 rfl (by decide) rfl ?_
    refine z_iconst (pc := 21) hX dX12_readsActs_21 ic_0 ?_
    refine z_istore_n (pc := 22) (ls' := [(3, .int (0 : Int32)), (2, .int v2_3), (0, .ref (ad G 17 0)), (1, .int x1)]) hX dX12_readsActs_22 rfl (by decide) rfl ?_
    refine z_aload_n (pc := 23) hX dX12_readsActs_23 rfl 2 rfl ?_
    refine z_rV (run_V (pc := 24) (As := []) hX rc_17 ⟨q_964, q_967, q_13⟩ q_966 qs_29 hd_X12_skip ⟨Nat.le_of_ble_eq_true rfl, Nat.le_of_ble_eq_true rfl⟩ (c_m_skip hG s2) rfl rfl (Nat.le_of_ble_eq_true rfl) dX12_readsActs_24) (fun s4 => ?_)
    refine z_jn (P := fun K7 => ∀ (s5 : Sto) (v3_6 : Int32), ZR G X (EM o L) pvI psI 4 s5 [(0, .ref (ad G 17 0)), (1, .int x1), (2, .int v2_3), (3, .int v3_6)] [] 65 (K7 s5 v3_6)) ?_ ?_
    · intro s5 v3_6
      refine z_aload_n (pc := 65) hX dX12_readsActs_65 rfl 0 rfl ?_
      refine gr_17_24M (pc := 66) hX q_836 dX12_readsActs_66 ?_
      refine z_iconst (pc := 69) hX dX12_readsActs_69 ic_4 ?_
      refine z_iload_n (pc := 70) hX dX12_readsActs_70 rfl 2 rfl ?_
      refine z_imul (pc := 71) hX dX12_readsActs_71 ?_
      refine z_iload_n (pc := 72) hX dX12_readsActs_72 rfl 1 rfl ?_
      refine z_iadd (pc := 73) hX dX12_readsActs_73 ?_
      refine z_iload_n (pc := 74) hX dX12_readsActs_74 rfl 3 rfl ?_
      refine is_29M (pc := 75) hX dX12_readsActs_75 ?_
      refine z_lts (fun s8 => ?_)
      refine z_aload_n (pc := 76) hX dX12_readsActs_76 rfl 0 rfl ?_
      refine z_rI (run_V (pc := 77) (As := []) hX rc_17 ⟨q_998, q_1001, q_13⟩ q_1000 qs_36 hd_X12_ends ⟨Nat.le_of_ble_eq_true rfl, Nat.le_of_ble_eq_true rfl⟩ (c_m_ends hG s8) rfl rfl (Nat.le_of_ble_eq_true rfl) dX12_readsActs_77) (fun r9 s10 => ?_)
      exact z_retIz (pc := 80) hX dX12_readsActs_80
    · intro K7 hK7
      refine z_ls [2, 3, 1, 0] rfl ?_
      refine (fx_P (F := l_m_readsActs_27 K7) (b := (fun _ _ => none)) (fun rc13 => ∀ (s11 : Sto) (v3_12 : Int32), ZR G X (EM o L) pvI psI 4 s11 [(0, .ref (ad G 17 0)), (1, .int x1), (2, .int v2_3), (3, .int v3_12)] [] 27 (rc13 s11 v3_12)) ?_ ?_ 1000) s4 (0 : Int32)
      · intro s11 v3_12; exact z_none
      · intro rc13 hrc13 s11 v3_12
        unfold l_m_readsActs_27
        refine z_aload_n (pc := 27) hX dX12_readsActs_27 rfl 0 rfl ?_
        refine z_rP (run_V (pc := 28) (As := []) hX rc_17 ⟨q_968, q_971, q_13⟩ q_970 qs_30 hd_X12_here ⟨Nat.le_of_ble_eq_true rfl, Nat.le_of_ble_eq_true rfl⟩ (c_m_here hG s11) rfl rfl (Nat.le_of_ble_eq_true rfl) dX12_readsActs_28) (fun r14 => ?_)
        refine z_rP (run_S (pc := 31) (As := [.int r14]) hX ⟨q_995, q_997, q_13⟩ q_996 hd_X12_isFigure ⟨Nat.le_of_ble_eq_true rfl, Nat.le_of_ble_eq_true rfl⟩ (c_m_isFigure hG s11 r14) rfl rfl (Nat.le_of_ble_eq_true rfl) dX12_readsActs_31) (fun r15 => ?_)
        refine z_if_eq (pc := 34) (tgt := 65) hX dX12_readsActs_34 rfl ?_ ?_
        · exact z_ls [0, 1, 2, 3] rfl (hK7 s11 v3_12)
        · refine z_aload_n (pc := 37) hX dX12_readsActs_37 rfl 0 rfl ?_
          refine z_iconst (pc := 38) hX dX12_readsActs_38 ic_0 ?_
          refine z_bipush (pc := 39) hX dX12_readsActs_39 bp_7 ?_
          refine z_rI (run_V (pc := 41) (As := [.int (0 : Int32), .int (7 : Int32)]) hX rc_17 ⟨q_991, q_994, q_13⟩ q_993 qs_35 hd_X12_number ⟨Nat.le_of_ble_eq_true rfl, Nat.le_of_ble_eq_true rfl⟩ (c_m_number hG s11 (0 : Int32) (7 : Int32)) rfl rfl (Nat.le_of_ble_eq_true rfl) dX12_readsActs_41) (fun r16 s17 => ?_)
          refine z_if_ne (pc := 44) (tgt := 49) hX dX12_readsActs_44 rfl ?_ ?_
          · refine z_iload_n (pc := 49) hX dX12_readsActs_49 rfl 3 rfl ?_
            refine z_iconst (pc := 50) hX dX12_readsActs_50 ic_1 ?_
            refine z_aload_n (pc := 51) hX dX12_readsActs_51 rfl 0 rfl ?_
            refine gf_17_25M (pc := 52) hX q_837 dX12_readsActs_52 ?_
            refine z_ishl (pc := 55) hX dX12_readsActs_55 ?_
            refine z_ior (pc := 56) hX dX12_readsActs_56 ?_
            refine z_lti (pc := 57) (fun v3_18 => ?_)
            refine z_istore_n (pc := 57) (ls' := [(3, .int v3_18), (0, .ref (ad G 17 0)), (1, .int x1), (2, .int v2_3)]) hX dX12_readsActs_57 rfl (by decide) rfl ?_
            refine z_aload_n (pc := 58) hX dX12_readsActs_58 rfl 1 rfl ?_
            refine z_rV (run_V (pc := 59) (As := []) hX rc_17 ⟨q_964, q_967, q_13⟩ q_966 qs_29 hd_X12_skip ⟨Nat.le_of_ble_eq_true rfl, Nat.le_of_ble_eq_true rfl⟩ (c_m_skip hG s17) rfl rfl (Nat.le_of_ble_eq_true rfl) dX12_readsActs_59) (fun s19 => ?_)
            refine z_goto (pc := 62) (tgt := 27) hX dX12_readsActs_62 rfl ?_
            exact z_ls [1, 2, 3, 0] rfl (hrc13 s19 v3_18)
          · refine z_iconst (pc := 47) hX dX12_readsActs_47 ic_0 ?_
            exact z_retIc (pc := 48) hX dX12_readsActs_48 (by decide)
  · refine z_iconst (pc := 14) hX dX12_readsActs_14 ic_0 ?_
    exact z_retIc (pc := 15) hX dX12_readsActs_15 (by decide)
theorem hd_X12_readsPair : yX12_readsPair.cls ≠ "java/lang/invoke/MethodHandle" ∧ yX12_readsPair.cls ≠ "java/lang/invoke/VarHandle" ∧ (parseMethodDescriptor yX12_readsPair.desc).map (fun d => d.parameters.length) = some 0 := by decide +kernel
def f_m_readsPair (s : Sto)  : Option (Int32 × Sto) :=
  bI (f_m_number s (0 : Int32) ((s 17 0 21) - (1 : Int32))) (fun r1 s2 => if r1 = (0 : Int32) then some ((0 : Int32), s2) else lt (s2 17 0 25) (fun v1_3 => bV (f_m_skip s2) (fun s4 => lt (s4 17 0 19) (fun v2_5 => bI (f_m_number s4 (0 : Int32) ((s4 17 0 21) - (1 : Int32))) (fun r6 s7 => if r6 = (0 : Int32) then some ((0 : Int32), s7) else if (s7 17 0 25) = v1_3 then lt (st s7 17 0 19 v2_5) (fun s12 => some ((0 : Int32), s12)) else lt (st s7 17 0 22 v1_3) (fun s8 => lt (st s8 17 0 23 (s8 17 0 25)) (fun s9 => bI (f_m_ends s9) (fun r10 s11 => if r10 = (0 : Int32) ∨ r10 = (1 : Int32) then some (r10, s11) else none))))))))
set_option maxRecDepth 100000 in
set_option maxHeartbeats 4000000 in
theorem c_m_readsPair {G : Gb} {l : Launch} {o : Sto} {L : Lng} (hG : GA G) (s : Sto)   : CT G l (EM o L) pvI psI yX12_readsPair cX12_readsPair 3 (some .boolean) 3 66 [.ref (ad G 17 0)] s (f_m_readsPair s) := by
  refine CT.of hG (by decide) (Nat.le_of_ble_eq_true rfl) (fun X hX => ?_)
  have hX : OX G X l cX12_readsPair 3 "CrownTwoModel" (some .boolean) 3 66 := hX
  show ZR G X (EM o L) pvI psI 3 s [(0, .ref (ad G 17 0))] [] 0 _
  unfold f_m_readsPair
  refine z_aload_n (pc := 0) hX dX12_readsPair_0 rfl 0 rfl ?_
  refine z_iconst (pc := 1) hX dX12_readsPair_1 ic_0 ?_
  refine z_aload_n (pc := 2) hX dX12_readsPair_2 rfl 0 rfl ?_
  refine gf_17_21M (pc := 3) hX q_833 dX12_readsPair_3 ?_
  refine z_iconst (pc := 6) hX dX12_readsPair_6 ic_1 ?_
  refine z_isub (pc := 7) hX dX12_readsPair_7 ?_
  refine z_rI (run_V (pc := 8) (As := [.int (0 : Int32), .int ((s 17 0 21) - (1 : Int32))]) hX rc_17 ⟨q_991, q_994, q_13⟩ q_993 qs_35 hd_X12_number ⟨Nat.le_of_ble_eq_true rfl, Nat.le_of_ble_eq_true rfl⟩ (c_m_number hG s (0 : Int32) ((s 17 0 21) - (1 : Int32))) rfl rfl (Nat.le_of_ble_eq_true rfl) dX12_readsPair_8) (fun r1 s2 => ?_)
  refine z_if_ne (pc := 11) (tgt := 16) hX dX12_readsPair_11 rfl ?_ ?_
  · refine z_aload_n (pc := 16) hX dX12_readsPair_16 rfl 0 rfl ?_
    refine gf_17_25M (pc := 17) hX q_837 dX12_readsPair_17 ?_
    refine z_lti (pc := 20) (fun v1_3 => ?_)
    refine z_istore_n (pc := 20) (ls' := [(1, .int v1_3), (0, .ref (ad G 17 0))]) hX dX12_readsPair_20 rfl (by decide) rfl ?_
    refine z_aload_n (pc := 21) hX dX12_readsPair_21 rfl 1 rfl ?_
    refine z_rV (run_V (pc := 22) (As := []) hX rc_17 ⟨q_964, q_967, q_13⟩ q_966 qs_29 hd_X12_skip ⟨Nat.le_of_ble_eq_true rfl, Nat.le_of_ble_eq_true rfl⟩ (c_m_skip hG s2) rfl rfl (Nat.le_of_ble_eq_true rfl) dX12_readsPair_22) (fun s4 => ?_)
    refine z_aload_n (pc := 25) hX dX12_readsPair_25 rfl 1 rfl ?_
    refine gf_17_19M (pc := 26) hX q_831 dX12_readsPair_26 ?_
    refine z_lti (pc := 29) (fun v2_5 => ?_)
    refine z_istore_n (pc := 29) (ls' := [(2, .int v2_5), (1, .int v1_3), (0, .ref (ad G 17 0))]) hX dX12_readsPair_29 rfl (by decide) rfl ?_
    refine z_aload_n (pc := 30) hX dX12_readsPair_30 rfl 2 rfl ?_
    refine z_iconst (pc := 31) hX dX12_readsPair_31 ic_0 ?_
    refine z_aload_n (pc := 32) hX dX12_readsPair_32 rfl 2 rfl ?_
    refine gf_17_21M (pc := 33) hX q_833 dX12_readsPair_33 ?_
    refine z_iconst (pc := 36) hX dX12_readsPair_36 ic_1 ?_
    refine z_isub (pc := 37) hX dX12_readsPair_37 ?_
    refine z_rI (run_V (pc := 38) (As := [.int (0 : Int32), .int ((s4 17 0 21) - (1 : Int32))]) hX rc_17 ⟨q_991, q_994, q_13⟩ q_993 qs_35 hd_X12_number ⟨Nat.le_of_ble_eq_true rfl, Nat.le_of_ble_eq_true rfl⟩ (c_m_number hG s4 (0 : Int32) ((s4 17 0 21) - (1 : Int32))) rfl rfl (Nat.le_of_ble_eq_true rfl) dX12_readsPair_38) (fun r6 s7 => ?_)
    refine z_if_ne (pc := 41) (tgt := 46) hX dX12_readsPair_41 rfl ?_ ?_
    · refine z_aload_n (pc := 46) hX dX12_readsPair_46 rfl 2 rfl ?_
      refine gf_17_25M (pc := 47) hX q_837 dX12_readsPair_47 ?_
      refine z_iload_n (pc := 50) hX dX12_readsPair_50 rfl 1 rfl ?_
      refine z_icmp_ne (pc := 51) (tgt := 61) hX dX12_readsPair_51 rfl ?_ ?_
      · refine z_aload_n (pc := 61) hX dX12_readsPair_61 rfl 2 rfl ?_
        refine z_iload_n (pc := 62) hX dX12_readsPair_62 rfl 1 rfl ?_
        refine pf_17_22M (pc := 63) hX q_834 dX12_readsPair_63 ?_
        refine z_lts (fun s8 => ?_)
        refine z_aload_n (pc := 66) hX dX12_readsPair_66 rfl 2 rfl ?_
        refine z_aload_n (pc := 67) hX dX12_readsPair_67 rfl 2 rfl ?_
        refine gf_17_25M (pc := 68) hX q_837 dX12_readsPair_68 ?_
        refine pf_17_23M (pc := 71) hX q_835 dX12_readsPair_71 ?_
        refine z_lts (fun s9 => ?_)
        refine z_aload_n (pc := 74) hX dX12_readsPair_74 rfl 2 rfl ?_
        refine z_rI (run_V (pc := 75) (As := []) hX rc_17 ⟨q_998, q_1001, q_13⟩ q_1000 qs_36 hd_X12_ends ⟨Nat.le_of_ble_eq_true rfl, Nat.le_of_ble_eq_true rfl⟩ (c_m_ends hG s9) rfl rfl (Nat.le_of_ble_eq_true rfl) dX12_readsPair_75) (fun r10 s11 => ?_)
        exact z_retIz (pc := 78) hX dX12_readsPair_78
      · refine z_aload_n (pc := 54) hX dX12_readsPair_54 rfl 2 rfl ?_
        refine z_iload_n (pc := 55) hX dX12_readsPair_55 rfl 0 rfl ?_
        refine pf_17_19M (pc := 56) hX q_831 dX12_readsPair_56 ?_
        refine z_lts (fun s12 => ?_)
        refine z_iconst (pc := 59) hX dX12_readsPair_59 ic_0 ?_
        exact z_retIc (pc := 60) hX dX12_readsPair_60 (by decide)
    · refine z_iconst (pc := 44) hX dX12_readsPair_44 ic_0 ?_
      exact z_retIc (pc := 45) hX dX12_readsPair_45 (by decide)
  · refine z_iconst (pc := 14) hX dX12_readsPair_14 ic_0 ?_
    exact z_retIc (pc := 15) hX dX12_readsPair_15 (by decide)
theorem hd_X12_readsItem : yX12_readsItem.cls ≠ "java/lang/invoke/MethodHandle" ∧ yX12_readsItem.cls ≠ "java/lang/invoke/VarHandle" ∧ (parseMethodDescriptor yX12_readsItem.desc).map (fun d => d.parameters.length) = some 0 := by decide +kernel
def f_m_readsItem (s : Sto)  : Option (Int32 × Sto) :=
  bP (f_m_wordHere s) (fun r1 => if r1 < (1 : Int32) then some ((0 : Int32), s) else jn (lt (st s 17 0 19 ((s 17 0 19) + (4 : Int32))) (fun s3 => if r1 = (1 : Int32) then bI (f_m_readsHeir s3) (fun r8 s9 => if r8 = (0 : Int32) ∨ r8 = (1 : Int32) then some (r8, s9) else none) else if r1 = (4 : Int32) then bI (f_m_readsPair s3) (fun r6 s7 => if r6 = (0 : Int32) ∨ r6 = (1 : Int32) then some (r6, s7) else none) else bI (f_m_readsActs s3 (r1 - (1 : Int32))) (fun r4 s5 => if r4 = (0 : Int32) ∨ r4 = (1 : Int32) then some (r4, s5) else none))) (fun j2 => if r1 = (1 : Int32) then if (s 17 0 21) = (6 : Int32) then some ((0 : Int32), s) else j2 else j2))
set_option maxRecDepth 100000 in
set_option maxHeartbeats 4000000 in
theorem c_m_readsItem {G : Gb} {l : Launch} {o : Sto} {L : Lng} (hG : GA G) (s : Sto)   : CT G l (EM o L) pvI psI yX12_readsItem cX12_readsItem 2 (some .boolean) 5 108 [.ref (ad G 17 0)] s (f_m_readsItem s) := by
  refine CT.of hG (by decide) (Nat.le_of_ble_eq_true rfl) (fun X hX => ?_)
  have hX : OX G X l cX12_readsItem 2 "CrownTwoModel" (some .boolean) 5 108 := hX
  show ZR G X (EM o L) pvI psI 2 s [(0, .ref (ad G 17 0))] [] 0 _
  unfold f_m_readsItem
  refine z_aload_n (pc := 0) hX dX12_readsItem_0 rfl 0 rfl ?_
  refine z_rP (run_V (pc := 1) (As := []) hX rc_17 ⟨q_972, q_975, q_13⟩ q_974 qs_31 hd_X12_wordHere ⟨Nat.le_of_ble_eq_true rfl, Nat.le_of_ble_eq_true rfl⟩ (c_m_wordHere hG s) rfl rfl (Nat.le_of_ble_eq_true rfl) dX12_readsItem_1) (fun r1 => ?_)
  refine z_istore_n (pc := 4) (ls' := [(1, .int r1), (0, .ref (ad G 17 0))]) hX dX12_readsItem_4 rfl (by decide) rfl ?_
  refine z_iload_n (pc := 5) hX dX12_readsItem_5 rfl 0 rfl ?_
  refine z_iconst (pc := 6) hX dX12_readsItem_6 ic_1 ?_
  refine z_icmp_lt (pc := 7) (tgt := 24) hX dX12_readsItem_7 rfl ?_ ?_
  · refine z_iconst (pc := 24) hX dX12_readsItem_24 ic_0 ?_
    exact z_retIc (pc := 25) hX dX12_readsItem_25 (by decide)
  · refine z_iload_n (pc := 10) hX dX12_readsItem_10 rfl 0 rfl ?_
    refine z_iconst (pc := 11) hX dX12_readsItem_11 ic_1 ?_
    refine z_jn (P := fun j2 => ZR G X (EM o L) pvI psI 2 s [(0, .ref (ad G 17 0)), (1, .int r1)] [] 26 (j2)) ?_ ?_
    · skip
      refine z_aload_n (pc := 26) hX dX12_readsItem_26 rfl 0 rfl ?_
      refine z_dup (pc := 27) hX dX12_readsItem_27 rfl ?_
      refine gf_17_19M (pc := 28) hX q_831 dX12_readsItem_28 ?_
      refine z_iconst (pc := 31) hX dX12_readsItem_31 ic_4 ?_
      refine z_iadd (pc := 32) hX dX12_readsItem_32 ?_
      refine pf_17_19M (pc := 33) hX q_831 dX12_readsItem_33 ?_
      refine z_lts (fun s3 => ?_)
      refine z_iload_n (pc := 36) hX dX12_readsItem_36 rfl 1 rfl ?_
      refine z_iconst (pc := 37) hX dX12_readsItem_37 ic_1 ?_
      refine z_icmp_ne (pc := 38) (tgt := 48) hX dX12_readsItem_38 rfl ?_ ?_
      · refine z_iload_n (pc := 48) hX dX12_readsItem_48 rfl 1 rfl ?_
        refine z_iconst (pc := 49) hX dX12_readsItem_49 ic_4 ?_
        refine z_icmp_ne (pc := 50) (tgt := 60) hX dX12_readsItem_50 rfl ?_ ?_
        · refine z_aload_n (pc := 60) hX dX12_readsItem_60 rfl 0 rfl ?_
          refine z_iload_n (pc := 61) hX dX12_readsItem_61 rfl 1 rfl ?_
          refine z_iconst (pc := 62) hX dX12_readsItem_62 ic_1 ?_
          refine z_isub (pc := 63) hX dX12_readsItem_63 ?_
          refine z_rI (run_V (pc := 64) (As := [.int (r1 - (1 : Int32))]) hX rc_17 ⟨q_1014, q_1017, q_13⟩ q_1016 qs_40 hd_X12_readsActs ⟨Nat.le_of_ble_eq_true rfl, Nat.le_of_ble_eq_true rfl⟩ (c_m_readsActs hG s3 (r1 - (1 : Int32))) rfl rfl (Nat.le_of_ble_eq_true rfl) dX12_readsItem_64) (fun r4 s5 => ?_)
          exact z_retIz (pc := 67) hX dX12_readsItem_67
        · refine z_aload_n (pc := 53) hX dX12_readsItem_53 rfl 0 rfl ?_
          refine z_rI (run_V (pc := 54) (As := []) hX rc_17 ⟨q_1010, q_1013, q_13⟩ q_1012 qs_39 hd_X12_readsPair ⟨Nat.le_of_ble_eq_true rfl, Nat.le_of_ble_eq_true rfl⟩ (c_m_readsPair hG s3) rfl rfl (Nat.le_of_ble_eq_true rfl) dX12_readsItem_54) (fun r6 s7 => ?_)
          refine z_goto (pc := 57) (tgt := 67) hX dX12_readsItem_57 rfl ?_
          exact z_retIz (pc := 67) hX dX12_readsItem_67
      · refine z_aload_n (pc := 41) hX dX12_readsItem_41 rfl 0 rfl ?_
        refine z_rI (run_V (pc := 42) (As := []) hX rc_17 ⟨q_1006, q_1009, q_13⟩ q_1008 qs_38 hd_X12_readsHeir ⟨Nat.le_of_ble_eq_true rfl, Nat.le_of_ble_eq_true rfl⟩ (c_m_readsHeir hG s3) rfl rfl (Nat.le_of_ble_eq_true rfl) dX12_readsItem_42) (fun r8 s9 => ?_)
        refine z_goto (pc := 45) (tgt := 67) hX dX12_readsItem_45 rfl ?_
        exact z_retIz (pc := 67) hX dX12_readsItem_67
    · intro j2 hj2
      refine z_icmp_ne (pc := 12) (tgt := 26) hX dX12_readsItem_12 rfl ?_ ?_
      · exact z_ls [1, 0] rfl (hj2)
      · refine z_aload_n (pc := 15) hX dX12_readsItem_15 rfl 1 rfl ?_
        refine gf_17_21M (pc := 16) hX q_833 dX12_readsItem_16 ?_
        refine z_bipush (pc := 19) hX dX12_readsItem_19 bp_6 ?_
        refine z_icmp_ne (pc := 21) (tgt := 26) hX dX12_readsItem_21 rfl ?_ ?_
        · exact z_ls [1, 0] rfl (hj2)
        · refine z_iconst (pc := 24) hX dX12_readsItem_24 ic_0 ?_
          exact z_retIc (pc := 25) hX dX12_readsItem_25 (by decide)
theorem hd_X12_readsFirst : yX12_readsFirst.cls ≠ "java/lang/invoke/MethodHandle" ∧ yX12_readsFirst.cls ≠ "java/lang/invoke/VarHandle" ∧ (parseMethodDescriptor yX12_readsFirst.desc).map (fun d => d.parameters.length) = some 0 := by decide +kernel
def f_m_readsFirst (s : Sto)  : Option (Int32 × Sto) :=
  bV (f_m_skip s) (fun s1 => bP (f_m_wordHere s1) (fun r2 => if r2 = (0 : Int32) then lt (st s1 17 0 19 ((s1 17 0 19) + (5 : Int32))) (fun s3 => bI (f_m_number s3 (0 : Int32) (99 : Int32)) (fun r4 s5 => if r4 = (0 : Int32) then some ((0 : Int32), s5) else lt (st s5 17 0 20 (s5 17 0 25)) (fun s6 => bI (f_m_ends s6) (fun r7 s8 => if r7 = (0 : Int32) ∨ r7 = (1 : Int32) then some (r7, s8) else none)))) else some ((0 : Int32), s1)))
set_option maxRecDepth 100000 in
set_option maxHeartbeats 4000000 in
theorem c_m_readsFirst {G : Gb} {l : Launch} {o : Sto} {L : Lng} (hG : GA G) (s : Sto)   : CT G l (EM o L) pvI psI yX12_readsFirst cX12_readsFirst 1 (some .boolean) 5 108 [.ref (ad G 17 0)] s (f_m_readsFirst s) := by
  refine CT.of hG (by decide) (Nat.le_of_ble_eq_true rfl) (fun X hX => ?_)
  have hX : OX G X l cX12_readsFirst 1 "CrownTwoModel" (some .boolean) 5 108 := hX
  show ZR G X (EM o L) pvI psI 1 s [(0, .ref (ad G 17 0))] [] 0 _
  unfold f_m_readsFirst
  refine z_aload_n (pc := 0) hX dX12_readsFirst_0 rfl 0 rfl ?_
  refine z_rV (run_V (pc := 1) (As := []) hX rc_17 ⟨q_964, q_967, q_13⟩ q_966 qs_29 hd_X12_skip ⟨Nat.le_of_ble_eq_true rfl, Nat.le_of_ble_eq_true rfl⟩ (c_m_skip hG s) rfl rfl (Nat.le_of_ble_eq_true rfl) dX12_readsFirst_1) (fun s1 => ?_)
  refine z_aload_n (pc := 4) hX dX12_readsFirst_4 rfl 0 rfl ?_
  refine z_rP (run_V (pc := 5) (As := []) hX rc_17 ⟨q_972, q_975, q_13⟩ q_974 qs_31 hd_X12_wordHere ⟨Nat.le_of_ble_eq_true rfl, Nat.le_of_ble_eq_true rfl⟩ (c_m_wordHere hG s1) rfl rfl (Nat.le_of_ble_eq_true rfl) dX12_readsFirst_5) (fun r2 => ?_)
  refine z_if_eq (pc := 8) (tgt := 13) hX dX12_readsFirst_8 rfl ?_ ?_
  · refine z_aload_n (pc := 13) hX dX12_readsFirst_13 rfl 0 rfl ?_
    refine z_dup (pc := 14) hX dX12_readsFirst_14 rfl ?_
    refine gf_17_19M (pc := 15) hX q_831 dX12_readsFirst_15 ?_
    refine z_iconst (pc := 18) hX dX12_readsFirst_18 ic_5 ?_
    refine z_iadd (pc := 19) hX dX12_readsFirst_19 ?_
    refine pf_17_19M (pc := 20) hX q_831 dX12_readsFirst_20 ?_
    refine z_lts (fun s3 => ?_)
    refine z_aload_n (pc := 23) hX dX12_readsFirst_23 rfl 0 rfl ?_
    refine z_iconst (pc := 24) hX dX12_readsFirst_24 ic_0 ?_
    refine z_bipush (pc := 25) hX dX12_readsFirst_25 bp_99 ?_
    refine z_rI (run_V (pc := 27) (As := [.int (0 : Int32), .int (99 : Int32)]) hX rc_17 ⟨q_991, q_994, q_13⟩ q_993 qs_35 hd_X12_number ⟨Nat.le_of_ble_eq_true rfl, Nat.le_of_ble_eq_true rfl⟩ (c_m_number hG s3 (0 : Int32) (99 : Int32)) rfl rfl (Nat.le_of_ble_eq_true rfl) dX12_readsFirst_27) (fun r4 s5 => ?_)
    refine z_if_ne (pc := 30) (tgt := 35) hX dX12_readsFirst_30 rfl ?_ ?_
    · refine z_aload_n (pc := 35) hX dX12_readsFirst_35 rfl 0 rfl ?_
      refine z_aload_n (pc := 36) hX dX12_readsFirst_36 rfl 0 rfl ?_
      refine gf_17_25M (pc := 37) hX q_837 dX12_readsFirst_37 ?_
      refine pf_17_20M (pc := 40) hX q_832 dX12_readsFirst_40 ?_
      refine z_lts (fun s6 => ?_)
      refine z_aload_n (pc := 43) hX dX12_readsFirst_43 rfl 0 rfl ?_
      refine z_rI (run_V (pc := 44) (As := []) hX rc_17 ⟨q_998, q_1001, q_13⟩ q_1000 qs_36 hd_X12_ends ⟨Nat.le_of_ble_eq_true rfl, Nat.le_of_ble_eq_true rfl⟩ (c_m_ends hG s6) rfl rfl (Nat.le_of_ble_eq_true rfl) dX12_readsFirst_44) (fun r7 s8 => ?_)
      exact z_retIz (pc := 47) hX dX12_readsFirst_47
    · refine z_iconst (pc := 33) hX dX12_readsFirst_33 ic_0 ?_
      exact z_retIc (pc := 34) hX dX12_readsFirst_34 (by decide)
  · refine z_iconst (pc := 11) hX dX12_readsFirst_11 ic_0 ?_
    exact z_retIc (pc := 12) hX dX12_readsFirst_12 (by decide)
theorem hd_X12_readsCourt : yX12_readsCourt.cls ≠ "java/lang/invoke/MethodHandle" ∧ yX12_readsCourt.cls ≠ "java/lang/invoke/VarHandle" ∧ (parseMethodDescriptor yX12_readsCourt.desc).map (fun d => d.parameters.length) = some 0 := by decide +kernel
def l_m_readsCourt_35  (rc10 : Sto → Int32 → Option (Int32 × Sto)) (s8 : Sto) (v1_9 : Int32) : Option (Int32 × Sto) :=
  if (s8 17 0 18) ≤ (s8 17 0 19) then some (v1_9, s8) else bI (f_m_readsItem s8) (fun r11 s12 => if r11 = (0 : Int32) then some ((-1 : Int32), s12) else bV (f_m_skip s12) (fun s13 => rc10 s13 (v1_9 + (1 : Int32))))
def f_m_readsCourt (s : Sto)  : Option (Int32 × Sto) :=
  lt (st s 17 0 19 (0 : Int32)) (fun s1 => lt (st s1 17 0 21 (0 : Int32)) (fun s2 => lt (st s2 17 0 22 (-1 : Int32)) (fun s3 => lt (st s3 17 0 23 (-1 : Int32)) (fun s4 => bI (f_m_readsFirst s4) (fun r5 s6 => if r5 = (0 : Int32) then some ((-1 : Int32), s6) else bV (f_m_skip s6) (fun s7 => fx 1000 (l_m_readsCourt_35) (fun _ _ => none) s7 (1 : Int32)))))))
set_option maxRecDepth 100000 in
set_option maxHeartbeats 4000000 in
theorem c_m_readsCourt {G : Gb} {l : Launch} {o : Sto} {L : Lng} (hG : GA G) (s : Sto)   : CT G l (EM o L) pvI psI yX12_readsCourt cX12_readsCourt 2 (some .int) 6 129 [.ref (ad G 17 0)] s (f_m_readsCourt s) := by
  refine CT.of hG (by decide) (Nat.le_of_ble_eq_true rfl) (fun X hX => ?_)
  have hX : OX G X l cX12_readsCourt 2 "CrownTwoModel" (some .int) 6 129 := hX
  show ZR G X (EM o L) pvI psI 2 s [(0, .ref (ad G 17 0))] [] 0 _
  unfold f_m_readsCourt
  refine z_aload_n (pc := 0) hX dX12_readsCourt_0 rfl 0 rfl ?_
  refine z_iconst (pc := 1) hX dX12_readsCourt_1 ic_0 ?_
  refine pf_17_19M (pc := 2) hX q_831 dX12_readsCourt_2 ?_
  refine z_lts (fun s1 => ?_)
  refine z_aload_n (pc := 5) hX dX12_readsCourt_5 rfl 0 rfl ?_
  refine z_iconst (pc := 6) hX dX12_readsCourt_6 ic_0 ?_
  refine pf_17_21M (pc := 7) hX q_833 dX12_readsCourt_7 ?_
  refine z_lts (fun s2 => ?_)
  refine z_aload_n (pc := 10) hX dX12_readsCourt_10 rfl 0 rfl ?_
  refine z_iconst (pc := 11) hX dX12_readsCourt_11 ic_m1 ?_
  refine pf_17_22M (pc := 12) hX q_834 dX12_readsCourt_12 ?_
  refine z_lts (fun s3 => ?_)
  refine z_aload_n (pc := 15) hX dX12_readsCourt_15 rfl 0 rfl ?_
  refine z_iconst (pc := 16) hX dX12_readsCourt_16 ic_m1 ?_
  refine pf_17_23M (pc := 17) hX q_835 dX12_readsCourt_17 ?_
  refine z_lts (fun s4 => ?_)
  refine z_aload_n (pc := 20) hX dX12_readsCourt_20 rfl 0 rfl ?_
  refine z_rI (run_V (pc := 21) (As := []) hX rc_17 ⟨q_960, q_963, q_13⟩ q_962 qs_28 hd_X12_readsFirst ⟨Nat.le_of_ble_eq_true rfl, Nat.le_of_ble_eq_true rfl⟩ (c_m_readsFirst hG s4) rfl rfl (Nat.le_of_ble_eq_true rfl) dX12_readsCourt_21) (fun r5 s6 => ?_)
  refine z_if_ne (pc := 24) (tgt := 29) hX dX12_readsCourt_24 rfl ?_ ?_
  · refine z_iconst (pc := 29) hX dX12_readsCourt_29 ic_1 ?_
    refine z_istore_n (pc := 30) (ls' := [(1, .int (1 : Int32)), (0, .ref (ad G 17 0))]) hX dX12_readsCourt_30 rfl (by decide) rfl ?_
    refine z_aload_n (pc := 31) hX dX12_readsCourt_31 rfl 1 rfl ?_
    refine z_rV (run_V (pc := 32) (As := []) hX rc_17 ⟨q_964, q_967, q_13⟩ q_966 qs_29 hd_X12_skip ⟨Nat.le_of_ble_eq_true rfl, Nat.le_of_ble_eq_true rfl⟩ (c_m_skip hG s6) rfl rfl (Nat.le_of_ble_eq_true rfl) dX12_readsCourt_32) (fun s7 => ?_)
    refine z_ls [1, 0] rfl ?_
    refine (fx_P (F := l_m_readsCourt_35) (b := (fun _ _ => none)) (fun rc10 => ∀ (s8 : Sto) (v1_9 : Int32), ZR G X (EM o L) pvI psI 2 s8 [(0, .ref (ad G 17 0)), (1, .int v1_9)] [] 35 (rc10 s8 v1_9)) ?_ ?_ 1000) s7 (1 : Int32)
    · intro s8 v1_9; exact z_none
    · intro rc10 hrc10 s8 v1_9
      unfold l_m_readsCourt_35
      refine z_aload_n (pc := 35) hX dX12_readsCourt_35 rfl 0 rfl ?_
      refine gf_17_19M (pc := 36) hX q_831 dX12_readsCourt_36 ?_
      refine z_aload_n (pc := 39) hX dX12_readsCourt_39 rfl 0 rfl ?_
      refine gf_17_18M (pc := 40) hX q_830 dX12_readsCourt_40 ?_
      refine z_icmp_ge (pc := 43) (tgt := 65) hX dX12_readsCourt_43 rfl ?_ ?_
      · refine z_iload_n (pc := 65) hX dX12_readsCourt_65 rfl 1 rfl ?_
        exact z_retI (pc := 66) hX dX12_readsCourt_66
      · refine z_aload_n (pc := 46) hX dX12_readsCourt_46 rfl 0 rfl ?_
        refine z_rI (run_V (pc := 47) (As := []) hX rc_17 ⟨q_1002, q_1005, q_13⟩ q_1004 qs_37 hd_X12_readsItem ⟨Nat.le_of_ble_eq_true rfl, Nat.le_of_ble_eq_true rfl⟩ (c_m_readsItem hG s8) rfl rfl (Nat.le_of_ble_eq_true rfl) dX12_readsCourt_47) (fun r11 s12 => ?_)
        refine z_if_ne (pc := 50) (tgt := 55) hX dX12_readsCourt_50 rfl ?_ ?_
        · refine z_iinc (pc := 55) (n := 1) (v := v1_9 + (1 : Int32)) (ls' := [(1, .int (v1_9 + (1 : Int32))), (0, .ref (ad G 17 0))]) hX dX12_readsCourt_55 rfl (by rw [show Int32.ofInt (1) = 1 by decide +kernel]) (by decide) rfl ?_
          refine z_aload_n (pc := 58) hX dX12_readsCourt_58 rfl 1 rfl ?_
          refine z_rV (run_V (pc := 59) (As := []) hX rc_17 ⟨q_964, q_967, q_13⟩ q_966 qs_29 hd_X12_skip ⟨Nat.le_of_ble_eq_true rfl, Nat.le_of_ble_eq_true rfl⟩ (c_m_skip hG s12) rfl rfl (Nat.le_of_ble_eq_true rfl) dX12_readsCourt_59) (fun s13 => ?_)
          refine z_goto (pc := 62) (tgt := 35) hX dX12_readsCourt_62 rfl ?_
          exact z_ls [1, 0] rfl (hrc10 s13 (v1_9 + (1 : Int32)))
        · refine z_iconst (pc := 53) hX dX12_readsCourt_53 ic_m1 ?_
          exact z_retI (pc := 54) hX dX12_readsCourt_54
  · refine z_iconst (pc := 27) hX dX12_readsCourt_27 ic_m1 ?_
    exact z_retI (pc := 28) hX dX12_readsCourt_28
theorem hd_X12_read : yX12_read.cls ≠ "java/lang/invoke/MethodHandle" ∧ yX12_read.cls ≠ "java/lang/invoke/VarHandle" ∧ (parseMethodDescriptor yX12_read.desc).map (fun d => d.parameters.length) = some 0 := by decide +kernel
def l_m_read_27 (K5 : Sto → Option (Int32 × Sto)) (rc10 : Sto → Int32 → Option (Int32 × Sto)) (s8 : Sto) (v2_9 : Int32) : Option (Int32 × Sto) :=
  if (s8 17 0 21) ≤ v2_9 then K5 s8 else if inb ((4 : Int32) * v2_9) 24 then if inb (((4 : Int32) * v2_9) + (1 : Int32)) 24 then if inb (((4 : Int32) * v2_9) + (2 : Int32)) 24 then if inb (((4 : Int32) * v2_9) + (3 : Int32)) 24 then bI (f_m_addHeir s8 (s8 29 0 (ix ((4 : Int32) * v2_9))) (s8 29 0 (ix (((4 : Int32) * v2_9) + (1 : Int32)))) (s8 29 0 (ix (((4 : Int32) * v2_9) + (2 : Int32)))) (s8 29 0 (ix (((4 : Int32) * v2_9) + (3 : Int32))))) (fun r11 s12 => rc10 s12 (v2_9 + (1 : Int32))) else none else none else none else none
def f_m_read (s : Sto)  : Option (Int32 × Sto) :=
  bI (f_m_readsCourt s) (fun r1 s2 => if (0 : Int32) ≤ r1 then bV (f_m_begin s2 (s2 17 0 20)) (fun s3 => jn (fun s4 => lt (st s4 17 0 5 (s4 17 0 22)) (fun s6 => lt (st s6 17 0 6 (s6 17 0 23)) (fun s7 => some (r1, s7)))) (fun K5 => fx 1000 (l_m_read_27 K5) (fun _ _ => none) s3 (0 : Int32))) else some ((-10 : Int32) - (s2 17 0 19), s2))
set_option maxRecDepth 100000 in
set_option maxHeartbeats 4000000 in
theorem c_m_read {G : Gb} {l : Launch} {o : Sto} {L : Lng} (hG : GA G) (s : Sto)   : CT G l (EM o L) pvI psI yX12_read cX12_read 3 (some .int) 7 150 [.ref (ad G 17 0)] s (f_m_read s) := by
  refine CT.of hG (by decide) (Nat.le_of_ble_eq_true rfl) (fun X hX => ?_)
  have hX : OX G X l cX12_read 3 "CrownTwoModel" (some .int) 7 150 := hX
  show ZR G X (EM o L) pvI psI 3 s [(0, .ref (ad G 17 0))] [] 0 _
  unfold f_m_read
  refine z_aload_n (pc := 0) hX dX12_read_0 rfl 0 rfl ?_
  refine z_rI (run_V (pc := 1) (As := []) hX rc_17 ⟨q_956, q_959, q_13⟩ q_958 qs_27 hd_X12_readsCourt ⟨Nat.le_of_ble_eq_true rfl, Nat.le_of_ble_eq_true rfl⟩ (c_m_readsCourt hG s) rfl rfl (Nat.le_of_ble_eq_true rfl) dX12_read_1) (fun r1 s2 => ?_)
  refine z_istore_n (pc := 4) (ls' := [(1, .int r1), (0, .ref (ad G 17 0))]) hX dX12_read_4 rfl (by decide) rfl ?_
  refine z_iload_n (pc := 5) hX dX12_read_5 rfl 0 rfl ?_
  refine z_if_ge (pc := 6) (tgt := 17) hX dX12_read_6 rfl ?_ ?_
  · refine z_aload_n (pc := 17) hX dX12_read_17 rfl 1 rfl ?_
    refine z_aload_n (pc := 18) hX dX12_read_18 rfl 1 rfl ?_
    refine gf_17_20M (pc := 19) hX q_832 dX12_read_19 ?_
    refine z_rV (run_V (pc := 22) (As := [.int (s2 17 0 20)]) hX rc_17 ⟨q_808, q_811, q_13⟩ q_810 qs_23 hd_X12_begin ⟨Nat.le_of_ble_eq_true rfl, Nat.le_of_ble_eq_true rfl⟩ (c_m_begin hG s2 (s2 17 0 20)) rfl rfl (Nat.le_of_ble_eq_true rfl) dX12_read_22) (fun s3 => ?_)
    refine z_iconst (pc := 25) hX dX12_read_25 ic_0 ?_
    refine z_istore_n (pc := 26) (ls' := [(2, .int (0 : Int32)), (1, .int r1), (0, .ref (ad G 17 0))]) hX dX12_read_26 rfl (by decide) rfl ?_
    refine z_jn (P := fun K5 => ∀ (s4 : Sto), ZR G X (EM o L) pvI psI 3 s4 [(0, .ref (ad G 17 0)), (1, .int r1)] [] 84 (K5 s4)) ?_ ?_
    · intro s4
      refine z_aload_n (pc := 84) hX dX12_read_84 rfl 0 rfl ?_
      refine z_aload_n (pc := 85) hX dX12_read_85 rfl 0 rfl ?_
      refine gf_17_22M (pc := 86) hX q_834 dX12_read_86 ?_
      refine pf_17_5M (pc := 89) hX q_817 dX12_read_89 ?_
      refine z_lts (fun s6 => ?_)
      refine z_aload_n (pc := 92) hX dX12_read_92 rfl 0 rfl ?_
      refine z_aload_n (pc := 93) hX dX12_read_93 rfl 0 rfl ?_
      refine gf_17_23M (pc := 94) hX q_835 dX12_read_94 ?_
      refine pf_17_6M (pc := 97) hX q_818 dX12_read_97 ?_
      refine z_lts (fun s7 => ?_)
      refine z_iload_n (pc := 100) hX dX12_read_100 rfl 1 rfl ?_
      exact z_retI (pc := 101) hX dX12_read_101
    · intro K5 hK5
      refine z_ls [2, 1, 0] rfl ?_
      refine (fx_P (F := l_m_read_27 K5) (b := (fun _ _ => none)) (fun rc10 => ∀ (s8 : Sto) (v2_9 : Int32), ZR G X (EM o L) pvI psI 3 s8 [(0, .ref (ad G 17 0)), (1, .int r1), (2, .int v2_9)] [] 27 (rc10 s8 v2_9)) ?_ ?_ 1000) s3 (0 : Int32)
      · intro s8 v2_9; exact z_none
      · intro rc10 hrc10 s8 v2_9
        unfold l_m_read_27
        refine z_iload_n (pc := 27) hX dX12_read_27 rfl 2 rfl ?_
        refine z_aload_n (pc := 28) hX dX12_read_28 rfl 0 rfl ?_
        refine gf_17_21M (pc := 29) hX q_833 dX12_read_29 ?_
        refine z_icmp_ge (pc := 32) (tgt := 84) hX dX12_read_32 rfl ?_ ?_
        · exact z_ls [0, 1] rfl (hK5 s8)
        · refine z_aload_n (pc := 35) hX dX12_read_35 rfl 0 rfl ?_
          refine z_aload_n (pc := 36) hX dX12_read_36 rfl 0 rfl ?_
          refine gr_17_24M (pc := 37) hX q_836 dX12_read_37 ?_
          refine z_iconst (pc := 40) hX dX12_read_40 ic_4 ?_
          refine z_iload_n (pc := 41) hX dX12_read_41 rfl 2 rfl ?_
          refine z_imul (pc := 42) hX dX12_read_42 ?_
          refine ia_29M (pc := 43) hX dX12_read_43 ?_
          refine z_aload_n (pc := 44) hX dX12_read_44 rfl 0 rfl ?_
          refine gr_17_24M (pc := 45) hX q_836 dX12_read_45 ?_
          refine z_iconst (pc := 48) hX dX12_read_48 ic_4 ?_
          refine z_iload_n (pc := 49) hX dX12_read_49 rfl 2 rfl ?_
          refine z_imul (pc := 50) hX dX12_read_50 ?_
          refine z_iconst (pc := 51) hX dX12_read_51 ic_1 ?_
          refine z_iadd (pc := 52) hX dX12_read_52 ?_
          refine ia_29M (pc := 53) hX dX12_read_53 ?_
          refine z_aload_n (pc := 54) hX dX12_read_54 rfl 0 rfl ?_
          refine gr_17_24M (pc := 55) hX q_836 dX12_read_55 ?_
          refine z_iconst (pc := 58) hX dX12_read_58 ic_4 ?_
          refine z_iload_n (pc := 59) hX dX12_read_59 rfl 2 rfl ?_
          refine z_imul (pc := 60) hX dX12_read_60 ?_
          refine z_iconst (pc := 61) hX dX12_read_61 ic_2 ?_
          refine z_iadd (pc := 62) hX dX12_read_62 ?_
          refine ia_29M (pc := 63) hX dX12_read_63 ?_
          refine z_aload_n (pc := 64) hX dX12_read_64 rfl 0 rfl ?_
          refine gr_17_24M (pc := 65) hX q_836 dX12_read_65 ?_
          refine z_iconst (pc := 68) hX dX12_read_68 ic_4 ?_
          refine z_iload_n (pc := 69) hX dX12_read_69 rfl 2 rfl ?_
          refine z_imul (pc := 70) hX dX12_read_70 ?_
          refine z_iconst (pc := 71) hX dX12_read_71 ic_3 ?_
          refine z_iadd (pc := 72) hX dX12_read_72 ?_
          refine ia_29M (pc := 73) hX dX12_read_73 ?_
          refine z_rI (run_V (pc := 74) (As := [.int (s8 29 0 (ix ((4 : Int32) * v2_9))), .int (s8 29 0 (ix (((4 : Int32) * v2_9) + (1 : Int32)))), .int (s8 29 0 (ix (((4 : Int32) * v2_9) + (2 : Int32)))), .int (s8 29 0 (ix (((4 : Int32) * v2_9) + (3 : Int32))))]) hX rc_17 ⟨q_940, q_943, q_13⟩ q_942 qs_26 hd_X12_addHeir ⟨Nat.le_of_ble_eq_true rfl, Nat.le_of_ble_eq_true rfl⟩ (c_m_addHeir hG s8 (s8 29 0 (ix ((4 : Int32) * v2_9))) (s8 29 0 (ix (((4 : Int32) * v2_9) + (1 : Int32)))) (s8 29 0 (ix (((4 : Int32) * v2_9) + (2 : Int32)))) (s8 29 0 (ix (((4 : Int32) * v2_9) + (3 : Int32))))) rfl rfl (Nat.le_of_ble_eq_true rfl) dX12_read_74) (fun r11 s12 => ?_)
          refine z_pop (pc := 77) hX dX12_read_77 rfl ?_
          refine z_iinc (pc := 78) (n := 2) (v := v2_9 + (1 : Int32)) (ls' := [(2, .int (v2_9 + (1 : Int32))), (0, .ref (ad G 17 0)), (1, .int r1)]) hX dX12_read_78 rfl (by rw [show Int32.ofInt (1) = 1 by decide +kernel]) (by decide) rfl ?_
          refine z_goto (pc := 81) (tgt := 27) hX dX12_read_81 rfl ?_
          exact z_ls [1, 2, 0] rfl (hrc10 s12 (v2_9 + (1 : Int32)))
  · refine z_bipush (pc := 9) hX dX12_read_9 bp_m10 ?_
    refine z_aload_n (pc := 11) hX dX12_read_11 rfl 1 rfl ?_
    refine gf_17_19M (pc := 12) hX q_831 dX12_read_12 ?_
    refine z_isub (pc := 15) hX dX12_read_15 ?_
    exact z_retI (pc := 16) hX dX12_read_16
theorem hd_X12_heartOf : yX12_heartOf.cls ≠ "java/lang/invoke/MethodHandle" ∧ yX12_heartOf.cls ≠ "java/lang/invoke/VarHandle" ∧ (parseMethodDescriptor yX12_heartOf.desc).map (fun d => d.parameters.length) = some 2 := by decide +kernel
def f_m_heartOf (s : Sto) (x1 : Int32) (x2 : Int32) : Option (Int32) :=
  if inb x1 6 then bP (f_m_has (s 20 0 (ix x1)) x2) (fun r1 => if inb x1 6 then bP (f_m_has (s 21 0 (ix x1)) x2) (fun r2 => jn (jn (some (2 : Int32)) (fun j4 => if r2 = (0 : Int32) then j4 else if r1 = (0 : Int32) then some (1 : Int32) else j4)) (fun j3 => if r1 = (0 : Int32) then j3 else if r2 = (0 : Int32) then some (0 : Int32) else j3)) else none) else none
set_option maxRecDepth 100000 in
set_option maxHeartbeats 4000000 in
theorem c_m_heartOf {G : Gb} {l : Launch} {o : Sto} {L : Lng} (hG : GA G) (s : Sto) (x1 : Int32) (x2 : Int32)  : CT G l (EM o L) pvP (psP s) yX12_heartOf cX12_heartOf 5 (some .int) 1 21 [.ref (ad G 17 0), .int x1, .int x2] s (f_m_heartOf s x1 x2) := by
  refine CT.of hG (by decide) (Nat.le_of_ble_eq_true rfl) (fun X hX => ?_)
  have hX : OX G X l cX12_heartOf 5 "CrownTwoModel" (some .int) 1 21 := hX
  show ZR G X (EM o L) pvP (psP s) 5 s [(0, .ref (ad G 17 0)), (1, .int x1), (2, .int x2)] [] 0 _
  unfold f_m_heartOf
  refine z_aload_n (pc := 0) hX dX12_heartOf_0 rfl 0 rfl ?_
  refine gr_17_9M (pc := 1) hX q_821 dX12_heartOf_1 ?_
  refine z_iload_n (pc := 4) hX dX12_heartOf_4 rfl 1 rfl ?_
  refine ia_20M (pc := 5) hX dX12_heartOf_5 ?_
  refine z_iload_n (pc := 6) hX dX12_heartOf_6 rfl 2 rfl ?_
  refine z_rP (run_S (pc := 7) (As := [.int (s 20 0 (ix x1)), .int x2]) hX ⟨q_1045, q_1047, q_13⟩ q_1046 hd_X12_has ⟨Nat.le_of_ble_eq_true rfl, Nat.le_of_ble_eq_true rfl⟩ (c_m_has hG s (s 20 0 (ix x1)) x2) rfl rfl (Nat.le_of_ble_eq_true rfl) dX12_heartOf_7) (fun r1 => ?_)
  refine z_istore_n (pc := 10) (ls' := [(3, .int r1), (0, .ref (ad G 17 0)), (1, .int x1), (2, .int x2)]) hX dX12_heartOf_10 rfl (by decide) rfl ?_
  refine z_aload_n (pc := 11) hX dX12_heartOf_11 rfl 1 rfl ?_
  refine gr_17_10M (pc := 12) hX q_822 dX12_heartOf_12 ?_
  refine z_iload_n (pc := 15) hX dX12_heartOf_15 rfl 2 rfl ?_
  refine ia_21M (pc := 16) hX dX12_heartOf_16 ?_
  refine z_iload_n (pc := 17) hX dX12_heartOf_17 rfl 3 rfl ?_
  refine z_rP (run_S (pc := 18) (As := [.int (s 21 0 (ix x1)), .int x2]) hX ⟨q_1045, q_1047, q_13⟩ q_1046 hd_X12_has ⟨Nat.le_of_ble_eq_true rfl, Nat.le_of_ble_eq_true rfl⟩ (c_m_has hG s (s 21 0 (ix x1)) x2) rfl rfl (Nat.le_of_ble_eq_true rfl) dX12_heartOf_18) (fun r2 => ?_)
  refine z_istore (pc := 21) (ls' := [(4, .int r2), (3, .int r1), (0, .ref (ad G 17 0)), (1, .int x1), (2, .int x2)]) hX dX12_heartOf_21 (by decide) rfl ?_
  refine z_iload_n (pc := 23) hX dX12_heartOf_23 rfl 1 rfl ?_
  refine z_jn (P := fun j3 => ZR G X (EM o L) pvP (psP s) 5 s [(3, .int r1), (4, .int r2)] [] 36 (j3)) ?_ ?_
  · skip
    refine z_iload (pc := 36) hX dX12_heartOf_36 1 rfl ?_
    refine z_jn (P := fun j4 => ZR G X (EM o L) pvP (psP s) 5 s [] [] 49 (j4)) ?_ ?_
    · skip
      refine z_iconst (pc := 49) hX dX12_heartOf_49 ic_2 ?_
      exact z_retP (pc := 50) hX dX12_heartOf_50
    · intro j4 hj4
      refine z_if_eq (pc := 38) (tgt := 49) hX dX12_heartOf_38 rfl ?_ ?_
      · exact z_ls [] rfl (hj4)
      · refine z_iload_n (pc := 41) hX dX12_heartOf_41 rfl 0 rfl ?_
        refine z_if_ne (pc := 42) (tgt := 49) hX dX12_heartOf_42 rfl ?_ ?_
        · exact z_ls [] rfl (hj4)
        · refine z_iconst (pc := 45) hX dX12_heartOf_45 ic_1 ?_
          refine z_goto (pc := 46) (tgt := 50) hX dX12_heartOf_46 rfl ?_
          exact z_retP (pc := 50) hX dX12_heartOf_50
  · intro j3 hj3
    refine z_if_eq (pc := 24) (tgt := 36) hX dX12_heartOf_24 rfl ?_ ?_
    · exact z_ls [1, 0] rfl (hj3)
    · refine z_iload (pc := 27) hX dX12_heartOf_27 0 rfl ?_
      refine z_if_ne (pc := 29) (tgt := 36) hX dX12_heartOf_29 rfl ?_ ?_
      · exact z_ls [1, 0] rfl (hj3)
      · refine z_iconst (pc := 32) hX dX12_heartOf_32 ic_0 ?_
        refine z_goto (pc := 33) (tgt := 50) hX dX12_heartOf_33 rfl ?_
        exact z_retP (pc := 50) hX dX12_heartOf_50
theorem hd_X12_liftsBy : yX12_liftsBy.cls ≠ "java/lang/invoke/MethodHandle" ∧ yX12_liftsBy.cls ≠ "java/lang/invoke/VarHandle" ∧ (parseMethodDescriptor yX12_liftsBy.desc).map (fun d => d.parameters.length) = some 4 := by decide +kernel
def f_m_liftsBy (x0 : Int32) (x1 : Int32) (x2 : Int32) (x3 : Int32) : Option (Int32) :=
  jn (fun t1 => jn (fun t3 => if x0 = (1 : Int32) then if t3 = (0 : Int32) ∨ t3 = (1 : Int32) then some t3 else none else if x0 = (2 : Int32) then if t1 = (0 : Int32) ∨ t1 = (1 : Int32) then some t1 else none else if x0 = (3 : Int32) then if x1 = (0 : Int32) then some (1 : Int32) else some (0 : Int32) else if x0 = (4 : Int32) then jn (some (1 : Int32)) (fun j5 => if t3 = (0 : Int32) then if (x3 - x3 / (7 : Int32) * (7 : Int32)) = (0 : Int32) then j5 else some (0 : Int32) else j5) else if x0 = (5 : Int32) then jn (some (1 : Int32)) (fun j6 => if t1 = (0 : Int32) then if (30 : Int32) ≤ x2 then some (0 : Int32) else j6 else j6) else if t1 = (0 : Int32) ∨ t1 = (1 : Int32) then some t1 else none) (fun j4 => jn (j4 (0 : Int32)) (fun j7 => if t1 = (0 : Int32) then j7 else if (80 : Int32) ≤ x2 then j7 else j4 (1 : Int32)))) (fun j2 => jn (j2 (1 : Int32)) (fun j8 => if x1 = (0 : Int32) then j8 else jn (j2 (0 : Int32)) (fun j9 => if x1 = (2 : Int32) then if (60 : Int32) ≤ x2 then j9 else j8 else j9)))
set_option maxRecDepth 100000 in
set_option maxHeartbeats 4000000 in
theorem c_m_liftsBy {G : Gb} {l : Launch} {o : Sto} {L : Lng} (hG : GA G) (s : Sto) (x0 : Int32) (x1 : Int32) (x2 : Int32) (x3 : Int32)  : CT G l (EM o L) pvP (psP s) yX12_liftsBy cX12_liftsBy 6 (some .boolean) 0 0 [.int x0, .int x1, .int x2, .int x3] s (f_m_liftsBy x0 x1 x2 x3) := by
  refine CT.of hG (by decide) (Nat.le_of_ble_eq_true rfl) (fun X hX => ?_)
  have hX : OX G X l cX12_liftsBy 6 "CrownTwoModel" (some .boolean) 0 0 := hX
  show ZR G X (EM o L) pvP (psP s) 6 s [(0, .int x0), (1, .int x1), (2, .int x2), (3, .int x3)] [] 0 _
  unfold f_m_liftsBy
  refine z_iload_n (pc := 0) hX dX12_liftsBy_0 rfl 1 rfl ?_
  refine z_jn (P := fun j2 => ∀ (t1 : Int32), ZR G X (EM o L) pvP (psP s) 6 s [(0, .int x0), (1, .int x1), (2, .int x2), (3, .int x3)] [.int t1] 20 (j2 t1)) ?_ ?_
  · intro t1
    refine z_istore (pc := 20) (ls' := [(4, .int t1), (0, .int x0), (1, .int x1), (2, .int x2), (3, .int x3)]) hX dX12_liftsBy_20 (by decide) rfl ?_
    refine z_iload (pc := 22) hX dX12_liftsBy_22 0 rfl ?_
    refine z_jn (P := fun j4 => ∀ (t3 : Int32), ZR G X (EM o L) pvP (psP s) 6 s [(0, .int x0), (1, .int x1), (2, .int x2), (3, .int x3), (4, .int t1)] [.int t3] 38 (j4 t3)) ?_ ?_
    · intro t3
      refine z_istore (pc := 38) (ls' := [(5, .int t3), (0, .int x0), (1, .int x1), (2, .int x2), (3, .int x3), (4, .int t1)]) hX dX12_liftsBy_38 (by decide) rfl ?_
      refine z_iload_n (pc := 40) hX dX12_liftsBy_40 rfl 1 rfl ?_
      refine z_tab1 (pc := 41) (tgt := 76) (v := 1) (off := 35) hX dX12_liftsBy_41 (by decide +kernel) (by decide +kernel) (by decide +kernel) rfl ?_ (fun hn1 => ?_)
      · refine z_iload (pc := 76) hX dX12_liftsBy_76 0 rfl ?_
        exact z_retPz (pc := 78) hX dX12_liftsBy_78
      · refine z_tab1 (pc := 41) (tgt := 124) (v := 2) (off := 83) hX dX12_liftsBy_41 (by decide +kernel) (by decide +kernel) (by decide +kernel) rfl ?_ (fun hn2 => ?_)
        · refine z_iload (pc := 124) hX dX12_liftsBy_124 5 rfl ?_
          exact z_retPz (pc := 126) hX dX12_liftsBy_126
        · refine z_tab1 (pc := 41) (tgt := 79) (v := 3) (off := 38) hX dX12_liftsBy_41 (by decide +kernel) (by decide +kernel) (by decide +kernel) rfl ?_ (fun hn3 => ?_)
          · refine z_iload_n (pc := 79) hX dX12_liftsBy_79 rfl 2 rfl ?_
            refine z_if_ne (pc := 80) (tgt := 87) hX dX12_liftsBy_80 rfl ?_ ?_
            · refine z_iconst (pc := 87) hX dX12_liftsBy_87 ic_0 ?_
              exact z_retPc (pc := 88) hX dX12_liftsBy_88 (by decide)
            · refine z_iconst (pc := 83) hX dX12_liftsBy_83 ic_1 ?_
              refine z_goto (pc := 84) (tgt := 88) hX dX12_liftsBy_84 rfl ?_
              exact z_retPc (pc := 88) hX dX12_liftsBy_88 (by decide)
          · refine z_tab1 (pc := 41) (tgt := 89) (v := 4) (off := 48) hX dX12_liftsBy_41 (by decide +kernel) (by decide +kernel) (by decide +kernel) rfl ?_ (fun hn4 => ?_)
            · refine z_iload (pc := 89) hX dX12_liftsBy_89 0 rfl ?_
              refine z_jn (P := fun j5 => ZR G X (EM o L) pvP (psP s) 6 s [] [] 101 (j5)) ?_ ?_
              · skip
                refine z_iconst (pc := 101) hX dX12_liftsBy_101 ic_1 ?_
                refine z_goto (pc := 102) (tgt := 106) hX dX12_liftsBy_102 rfl ?_
                exact z_retPc (pc := 106) hX dX12_liftsBy_106 (by decide)
              · intro j5 hj5
                refine z_if_ne (pc := 91) (tgt := 101) hX dX12_liftsBy_91 rfl ?_ ?_
                · exact z_ls [] rfl (hj5)
                · refine z_iload_n (pc := 94) hX dX12_liftsBy_94 rfl 4 rfl ?_
                  refine z_bipush (pc := 95) hX dX12_liftsBy_95 bp_7 ?_
                  refine z_iremc (pc := 97) hX dX12_liftsBy_97 (by decide +kernel) ?_
                  refine z_if_ne (pc := 98) (tgt := 105) hX dX12_liftsBy_98 rfl ?_ ?_
                  · refine z_iconst (pc := 105) hX dX12_liftsBy_105 ic_0 ?_
                    exact z_retPc (pc := 106) hX dX12_liftsBy_106 (by decide)
                  · exact z_ls [] rfl (hj5)
            · refine z_tab1 (pc := 41) (tgt := 107) (v := 5) (off := 66) hX dX12_liftsBy_41 (by decide +kernel) (by decide +kernel) (by decide +kernel) rfl ?_ (fun hn5 => ?_)
              · refine z_iload (pc := 107) hX dX12_liftsBy_107 5 rfl ?_
                refine z_jn (P := fun j6 => ZR G X (EM o L) pvP (psP s) 6 s [] [] 118 (j6)) ?_ ?_
                · skip
                  refine z_iconst (pc := 118) hX dX12_liftsBy_118 ic_1 ?_
                  refine z_goto (pc := 119) (tgt := 123) hX dX12_liftsBy_119 rfl ?_
                  exact z_retPc (pc := 123) hX dX12_liftsBy_123 (by decide)
                · intro j6 hj6
                  refine z_if_ne (pc := 109) (tgt := 118) hX dX12_liftsBy_109 rfl ?_ ?_
                  · exact z_ls [] rfl (hj6)
                  · refine z_iload_n (pc := 112) hX dX12_liftsBy_112 rfl 3 rfl ?_
                    refine z_bipush (pc := 113) hX dX12_liftsBy_113 bp_30 ?_
                    refine z_icmp_ge (pc := 115) (tgt := 122) hX dX12_liftsBy_115 rfl ?_ ?_
                    · refine z_iconst (pc := 122) hX dX12_liftsBy_122 ic_0 ?_
                      exact z_retPc (pc := 123) hX dX12_liftsBy_123 (by decide)
                    · exact z_ls [] rfl (hj6)
              · refine z_tab0 (pc := 41) (tgt := 124) hX dX12_liftsBy_41 (sw_out [1, 2, 3, 4, 5] (List.forall_mem_cons.mpr ⟨hn1, List.forall_mem_cons.mpr ⟨hn2, List.forall_mem_cons.mpr ⟨hn3, List.forall_mem_cons.mpr ⟨hn4, List.forall_mem_cons.mpr ⟨hn5, fun _ h => absurd h List.not_mem_nil⟩⟩⟩⟩⟩) (by decide +kernel)) rfl ?_
                refine z_iload (pc := 124) hX dX12_liftsBy_124 5 rfl ?_
                exact z_retPz (pc := 126) hX dX12_liftsBy_126
    · intro j4 hj4
      refine z_jn (P := fun j7 => ZR G X (EM o L) pvP (psP s) 6 s [(0, .int x0), (1, .int x1), (2, .int x2), (3, .int x3), (4, .int t1)] [] 37 (j7)) ?_ ?_
      · skip
        refine z_iconst (pc := 37) hX dX12_liftsBy_37 ic_0 ?_
        exact z_ls [0, 1, 2, 3, 4] rfl (hj4 (0 : Int32))
      · intro j7 hj7
        refine z_if_eq (pc := 24) (tgt := 37) hX dX12_liftsBy_24 rfl ?_ ?_
        · exact z_ls [1, 2, 3, 4, 0] rfl (hj7)
        · refine z_iload_n (pc := 27) hX dX12_liftsBy_27 rfl 3 rfl ?_
          refine z_bipush (pc := 28) hX dX12_liftsBy_28 bp_80 ?_
          refine z_icmp_ge (pc := 30) (tgt := 37) hX dX12_liftsBy_30 rfl ?_ ?_
          · exact z_ls [1, 2, 3, 4, 0] rfl (hj7)
          · refine z_iconst (pc := 33) hX dX12_liftsBy_33 ic_1 ?_
            refine z_goto (pc := 34) (tgt := 38) hX dX12_liftsBy_34 rfl ?_
            exact z_ls [1, 2, 3, 4, 0] rfl (hj4 (1 : Int32))
  · intro j2 hj2
    refine z_jn (P := fun j8 => ZR G X (EM o L) pvP (psP s) 6 s [(0, .int x0), (1, .int x1), (2, .int x2), (3, .int x3)] [] 15 (j8)) ?_ ?_
    · skip
      refine z_iconst (pc := 15) hX dX12_liftsBy_15 ic_1 ?_
      refine z_goto (pc := 16) (tgt := 20) hX dX12_liftsBy_16 rfl ?_
      exact z_ls [0, 1, 2, 3] rfl (hj2 (1 : Int32))
    · intro j8 hj8
      refine z_if_eq (pc := 1) (tgt := 15) hX dX12_liftsBy_1 rfl ?_ ?_
      · exact z_ls [0, 1, 2, 3] rfl (hj8)
      · refine z_iload_n (pc := 4) hX dX12_liftsBy_4 rfl 1 rfl ?_
        refine z_iconst (pc := 5) hX dX12_liftsBy_5 ic_2 ?_
        refine z_jn (P := fun j9 => ZR G X (EM o L) pvP (psP s) 6 s [(0, .int x0), (1, .int x1), (2, .int x2), (3, .int x3)] [] 19 (j9)) ?_ ?_
        · skip
          refine z_iconst (pc := 19) hX dX12_liftsBy_19 ic_0 ?_
          exact z_ls [0, 1, 2, 3] rfl (hj2 (0 : Int32))
        · intro j9 hj9
          refine z_icmp_ne (pc := 6) (tgt := 19) hX dX12_liftsBy_6 rfl ?_ ?_
          · exact z_ls [0, 1, 2, 3] rfl (hj9)
          · refine z_iload_n (pc := 9) hX dX12_liftsBy_9 rfl 2 rfl ?_
            refine z_bipush (pc := 10) hX dX12_liftsBy_10 bp_60 ?_
            refine z_icmp_ge (pc := 12) (tgt := 19) hX dX12_liftsBy_12 rfl ?_ ?_
            · exact z_ls [0, 1, 2, 3] rfl (hj9)
            · exact z_ls [0, 1, 2, 3] rfl (hj8)
theorem hd_X12_lifts : yX12_lifts.cls ≠ "java/lang/invoke/MethodHandle" ∧ yX12_lifts.cls ≠ "java/lang/invoke/VarHandle" ∧ (parseMethodDescriptor yX12_lifts.desc).map (fun d => d.parameters.length) = some 2 := by decide +kernel
def f_m_lifts (s : Sto) (x1 : Int32) (x2 : Int32) : Option (Int32) :=
  if inb x1 6 then bP (f_m_heartOf s x1 x2) (fun r1 => bP (f_m_liftsBy (s 19 0 (ix x1)) r1 (s 17 0 2) (s 17 0 3)) (fun r2 => if r2 = (0 : Int32) ∨ r2 = (1 : Int32) then some r2 else none)) else none
set_option maxRecDepth 100000 in
set_option maxHeartbeats 4000000 in
theorem c_m_lifts {G : Gb} {l : Launch} {o : Sto} {L : Lng} (hG : GA G) (s : Sto) (x1 : Int32) (x2 : Int32)  : CT G l (EM o L) pvP (psP s) yX12_lifts cX12_lifts 3 (some .boolean) 2 45 [.ref (ad G 17 0), .int x1, .int x2] s (f_m_lifts s x1 x2) := by
  refine CT.of hG (by decide) (Nat.le_of_ble_eq_true rfl) (fun X hX => ?_)
  have hX : OX G X l cX12_lifts 3 "CrownTwoModel" (some .boolean) 2 45 := hX
  show ZR G X (EM o L) pvP (psP s) 3 s [(0, .ref (ad G 17 0)), (1, .int x1), (2, .int x2)] [] 0 _
  unfold f_m_lifts
  refine z_aload_n (pc := 0) hX dX12_lifts_0 rfl 0 rfl ?_
  refine gr_17_8M (pc := 1) hX q_820 dX12_lifts_1 ?_
  refine z_iload_n (pc := 4) hX dX12_lifts_4 rfl 1 rfl ?_
  refine ia_19M (pc := 5) hX dX12_lifts_5 ?_
  refine z_aload_n (pc := 6) hX dX12_lifts_6 rfl 0 rfl ?_
  refine z_iload_n (pc := 7) hX dX12_lifts_7 rfl 1 rfl ?_
  refine z_iload_n (pc := 8) hX dX12_lifts_8 rfl 2 rfl ?_
  refine z_rP (run_V (pc := 9) (As := [.int x1, .int x2]) hX rc_17 ⟨q_1064, q_1067, q_13⟩ q_1066 qs_49 hd_X12_heartOf ⟨Nat.le_of_ble_eq_true rfl, Nat.le_of_ble_eq_true rfl⟩ (c_m_heartOf hG s x1 x2) rfl rfl (Nat.le_of_ble_eq_true rfl) dX12_lifts_9) (fun r1 => ?_)
  refine z_aload_n (pc := 12) hX dX12_lifts_12 rfl 0 rfl ?_
  refine gf_17_2M (pc := 13) hX q_814 dX12_lifts_13 ?_
  refine z_aload_n (pc := 16) hX dX12_lifts_16 rfl 0 rfl ?_
  refine gf_17_3M (pc := 17) hX q_815 dX12_lifts_17 ?_
  refine z_rP (run_S (pc := 20) (As := [.int (s 19 0 (ix x1)), .int r1, .int (s 17 0 2), .int (s 17 0 3)]) hX ⟨q_1068, q_1070, q_13⟩ q_1069 hd_X12_liftsBy ⟨Nat.le_of_ble_eq_true rfl, Nat.le_of_ble_eq_true rfl⟩ (c_m_liftsBy hG s (s 19 0 (ix x1)) r1 (s 17 0 2) (s 17 0 3)) rfl rfl (Nat.le_of_ble_eq_true rfl) dX12_lifts_20) (fun r2 => ?_)
  exact z_retPz (pc := 23) hX dX12_lifts_23
theorem hd_X12_makesOf : yX12_makesOf.cls ≠ "java/lang/invoke/MethodHandle" ∧ yX12_makesOf.cls ≠ "java/lang/invoke/VarHandle" ∧ (parseMethodDescriptor yX12_makesOf.desc).map (fun d => d.parameters.length) = some 1 := by decide +kernel
def f_m_makesOf (s : Sto) (x1 : Int32) : Option (Int32) :=
  if inb x1 6 then lt ((s 22 0 (ix x1)) / (5 : Int32)) (fun v2_1 => if inb x1 6 then if (s 19 0 (ix x1)) = (1 : Int32) then some (v2_1 + (1 : Int32)) else if (s 19 0 (ix x1)) = (2 : Int32) then some (v2_1 - (3 : Int32)) else if (s 19 0 (ix x1)) = (3 : Int32) then some v2_1 else if (s 19 0 (ix x1)) = (4 : Int32) then some ((v2_1 + (1 : Int32)) / (2 : Int32)) else if (s 19 0 (ix x1)) = (5 : Int32) then some ((2 : Int32) * (v2_1 - (3 : Int32))) else some v2_1 else none) else none
set_option maxRecDepth 100000 in
set_option maxHeartbeats 4000000 in
theorem c_m_makesOf {G : Gb} {l : Launch} {o : Sto} {L : Lng} (hG : GA G) (s : Sto) (x1 : Int32)  : CT G l (EM o L) pvP (psP s) yX12_makesOf cX12_makesOf 3 (some .int) 0 0 [.ref (ad G 17 0), .int x1] s (f_m_makesOf s x1) := by
  refine CT.of hG (by decide) (Nat.le_of_ble_eq_true rfl) (fun X hX => ?_)
  have hX : OX G X l cX12_makesOf 3 "CrownTwoModel" (some .int) 0 0 := hX
  show ZR G X (EM o L) pvP (psP s) 3 s [(0, .ref (ad G 17 0)), (1, .int x1)] [] 0 _
  unfold f_m_makesOf
  refine z_aload_n (pc := 0) hX dX12_makesOf_0 rfl 0 rfl ?_
  refine gr_17_11M (pc := 1) hX q_823 dX12_makesOf_1 ?_
  refine z_iload_n (pc := 4) hX dX12_makesOf_4 rfl 1 rfl ?_
  refine ia_22M (pc := 5) hX dX12_makesOf_5 ?_
  refine z_iconst (pc := 6) hX dX12_makesOf_6 ic_5 ?_
  refine z_idivc (pc := 7) hX dX12_makesOf_7 (by decide +kernel) ?_
  refine z_lti (pc := 8) (fun v2_1 => ?_)
  refine z_istore_n (pc := 8) (ls' := [(2, .int v2_1), (0, .ref (ad G 17 0)), (1, .int x1)]) hX dX12_makesOf_8 rfl (by decide) rfl ?_
  refine z_aload_n (pc := 9) hX dX12_makesOf_9 rfl 1 rfl ?_
  refine gr_17_8M (pc := 10) hX q_820 dX12_makesOf_10 ?_
  refine z_iload_n (pc := 13) hX dX12_makesOf_13 rfl 2 rfl ?_
  refine ia_19M (pc := 14) hX dX12_makesOf_14 ?_
  refine z_tab1 (pc := 15) (tgt := 48) (v := 1) (off := 33) hX dX12_makesOf_15 (by decide +kernel) (by decide +kernel) (by decide +kernel) rfl ?_ (fun hn1 => ?_)
  · refine z_iload_n (pc := 48) hX dX12_makesOf_48 rfl 0 rfl ?_
    refine z_iconst (pc := 49) hX dX12_makesOf_49 ic_1 ?_
    refine z_iadd (pc := 50) hX dX12_makesOf_50 ?_
    exact z_retP (pc := 51) hX dX12_makesOf_51
  · refine z_tab1 (pc := 15) (tgt := 52) (v := 2) (off := 37) hX dX12_makesOf_15 (by decide +kernel) (by decide +kernel) (by decide +kernel) rfl ?_ (fun hn2 => ?_)
    · refine z_iload_n (pc := 52) hX dX12_makesOf_52 rfl 0 rfl ?_
      refine z_iconst (pc := 53) hX dX12_makesOf_53 ic_3 ?_
      refine z_isub (pc := 54) hX dX12_makesOf_54 ?_
      exact z_retP (pc := 55) hX dX12_makesOf_55
    · refine z_tab1 (pc := 15) (tgt := 68) (v := 3) (off := 53) hX dX12_makesOf_15 (by decide +kernel) (by decide +kernel) (by decide +kernel) rfl ?_ (fun hn3 => ?_)
      · refine z_iload_n (pc := 68) hX dX12_makesOf_68 rfl 0 rfl ?_
        exact z_retP (pc := 69) hX dX12_makesOf_69
      · refine z_tab1 (pc := 15) (tgt := 56) (v := 4) (off := 41) hX dX12_makesOf_15 (by decide +kernel) (by decide +kernel) (by decide +kernel) rfl ?_ (fun hn4 => ?_)
        · refine z_iload_n (pc := 56) hX dX12_makesOf_56 rfl 0 rfl ?_
          refine z_iconst (pc := 57) hX dX12_makesOf_57 ic_1 ?_
          refine z_iadd (pc := 58) hX dX12_makesOf_58 ?_
          refine z_iconst (pc := 59) hX dX12_makesOf_59 ic_2 ?_
          refine z_idivc (pc := 60) hX dX12_makesOf_60 (by decide +kernel) ?_
          exact z_retP (pc := 61) hX dX12_makesOf_61
        · refine z_tab1 (pc := 15) (tgt := 62) (v := 5) (off := 47) hX dX12_makesOf_15 (by decide +kernel) (by decide +kernel) (by decide +kernel) rfl ?_ (fun hn5 => ?_)
          · refine z_iconst (pc := 62) hX dX12_makesOf_62 ic_2 ?_
            refine z_iload_n (pc := 63) hX dX12_makesOf_63 rfl 0 rfl ?_
            refine z_iconst (pc := 64) hX dX12_makesOf_64 ic_3 ?_
            refine z_isub (pc := 65) hX dX12_makesOf_65 ?_
            refine z_imul (pc := 66) hX dX12_makesOf_66 ?_
            exact z_retP (pc := 67) hX dX12_makesOf_67
          · refine z_tab0 (pc := 15) (tgt := 68) hX dX12_makesOf_15 (sw_out [1, 2, 3, 4, 5] (List.forall_mem_cons.mpr ⟨hn1, List.forall_mem_cons.mpr ⟨hn2, List.forall_mem_cons.mpr ⟨hn3, List.forall_mem_cons.mpr ⟨hn4, List.forall_mem_cons.mpr ⟨hn5, fun _ h => absurd h List.not_mem_nil⟩⟩⟩⟩⟩) (by decide +kernel)) rfl ?_
            refine z_iload_n (pc := 68) hX dX12_makesOf_68 rfl 0 rfl ?_
            exact z_retP (pc := 69) hX dX12_makesOf_69
theorem hd_X12_growth : yX12_growth.cls ≠ "java/lang/invoke/MethodHandle" ∧ yX12_growth.cls ≠ "java/lang/invoke/VarHandle" ∧ (parseMethodDescriptor yX12_growth.desc).map (fun d => d.parameters.length) = some 0 := by decide +kernel
def f_m_growth (s : Sto)  : Option (Int32) :=
  bP (f_m_isPair s) (fun r1 => if r1 = (0 : Int32) then some ((0 : Int32) - (2 : Int32)) else bP (f_m_makesOf s (s 17 0 5)) (fun r2 => bP (f_m_makesOf s (s 17 0 6)) (fun r3 => some ((r2 + r3) - (2 : Int32)))))
set_option maxRecDepth 100000 in
set_option maxHeartbeats 4000000 in
theorem c_m_growth {G : Gb} {l : Launch} {o : Sto} {L : Lng} (hG : GA G) (s : Sto)   : CT G l (EM o L) pvP (psP s) yX12_growth cX12_growth 1 (some .int) 1 22 [.ref (ad G 17 0)] s (f_m_growth s) := by
  refine CT.of hG (by decide) (Nat.le_of_ble_eq_true rfl) (fun X hX => ?_)
  have hX : OX G X l cX12_growth 1 "CrownTwoModel" (some .int) 1 22 := hX
  show ZR G X (EM o L) pvP (psP s) 1 s [(0, .ref (ad G 17 0))] [] 0 _
  unfold f_m_growth
  refine z_aload_n (pc := 0) hX dX12_growth_0 rfl 0 rfl ?_
  refine z_rP (run_V (pc := 1) (As := []) hX rc_17 ⟨q_1041, q_1044, q_13⟩ q_1043 qs_44 hd_X12_isPair ⟨Nat.le_of_ble_eq_true rfl, Nat.le_of_ble_eq_true rfl⟩ (c_m_isPair hG s) rfl rfl (Nat.le_of_ble_eq_true rfl) dX12_growth_1) (fun r1 => ?_)
  refine z_if_eq (pc := 4) (tgt := 27) hX dX12_growth_4 rfl ?_ ?_
  · refine z_iconst (pc := 27) hX dX12_growth_27 ic_0 ?_
    refine z_iconst (pc := 28) hX dX12_growth_28 ic_2 ?_
    refine z_isub (pc := 29) hX dX12_growth_29 ?_
    exact z_retP (pc := 30) hX dX12_growth_30
  · refine z_aload_n (pc := 7) hX dX12_growth_7 rfl 0 rfl ?_
    refine z_aload_n (pc := 8) hX dX12_growth_8 rfl 0 rfl ?_
    refine gf_17_5M (pc := 9) hX q_817 dX12_growth_9 ?_
    refine z_rP (run_V (pc := 12) (As := [.int (s 17 0 5)]) hX rc_17 ⟨q_1086, q_1089, q_13⟩ q_1088 qs_52 hd_X12_makesOf ⟨Nat.le_of_ble_eq_true rfl, Nat.le_of_ble_eq_true rfl⟩ (c_m_makesOf hG s (s 17 0 5)) rfl rfl (Nat.le_of_ble_eq_true rfl) dX12_growth_12) (fun r2 => ?_)
    refine z_aload_n (pc := 15) hX dX12_growth_15 rfl 0 rfl ?_
    refine z_aload_n (pc := 16) hX dX12_growth_16 rfl 0 rfl ?_
    refine gf_17_6M (pc := 17) hX q_818 dX12_growth_17 ?_
    refine z_rP (run_V (pc := 20) (As := [.int (s 17 0 6)]) hX rc_17 ⟨q_1086, q_1089, q_13⟩ q_1088 qs_52 hd_X12_makesOf ⟨Nat.le_of_ble_eq_true rfl, Nat.le_of_ble_eq_true rfl⟩ (c_m_makesOf hG s (s 17 0 6)) rfl rfl (Nat.le_of_ble_eq_true rfl) dX12_growth_20) (fun r3 => ?_)
    refine z_iadd (pc := 23) hX dX12_growth_23 ?_
    refine z_goto (pc := 24) (tgt := 28) hX dX12_growth_24 rfl ?_
    refine z_iconst (pc := 28) hX dX12_growth_28 ic_2 ?_
    refine z_isub (pc := 29) hX dX12_growth_29 ?_
    exact z_retP (pc := 30) hX dX12_growth_30
theorem hd_X12_pass : yX12_pass.cls ≠ "java/lang/invoke/MethodHandle" ∧ yX12_pass.cls ≠ "java/lang/invoke/VarHandle" ∧ (parseMethodDescriptor yX12_pass.desc).map (fun d => d.parameters.length) = some 0 := by decide +kernel
def f_m_pass (s : Sto)  : Option (Sto) :=
  bP (f_m_growth s) (fun r1 => bP (f_m_kept ((s 17 0 2) + r1)) (fun r2 => lt (st s 17 0 2 r2) (fun s3 => lt (st s3 17 0 3 ((s3 17 0 3) + (1 : Int32))) (fun s4 => some s4))))
set_option maxRecDepth 100000 in
set_option maxHeartbeats 4000000 in
theorem c_m_pass {G : Gb} {l : Launch} {o : Sto} {L : Lng} (hG : GA G) (s : Sto)   : CT G l (EM o L) pvV psV yX12_pass cX12_pass 1 none 2 42 [.ref (ad G 17 0)] s (f_m_pass s) := by
  refine CT.of hG (by decide) (Nat.le_of_ble_eq_true rfl) (fun X hX => ?_)
  have hX : OX G X l cX12_pass 1 "CrownTwoModel" none 2 42 := hX
  show ZR G X (EM o L) pvV psV 1 s [(0, .ref (ad G 17 0))] [] 0 _
  unfold f_m_pass
  refine z_aload_n (pc := 0) hX dX12_pass_0 rfl 0 rfl ?_
  refine z_aload_n (pc := 1) hX dX12_pass_1 rfl 0 rfl ?_
  refine gf_17_2M (pc := 2) hX q_814 dX12_pass_2 ?_
  refine z_aload_n (pc := 5) hX dX12_pass_5 rfl 0 rfl ?_
  refine z_rP (run_V (pc := 6) (As := []) hX rc_17 ⟨q_1082, q_1085, q_13⟩ q_1084 qs_51 hd_X12_growth ⟨Nat.le_of_ble_eq_true rfl, Nat.le_of_ble_eq_true rfl⟩ (c_m_growth hG s) rfl rfl (Nat.le_of_ble_eq_true rfl) dX12_pass_6) (fun r1 => ?_)
  refine z_iadd (pc := 9) hX dX12_pass_9 ?_
  refine z_rP (run_S (pc := 10) (As := [.int ((s 17 0 2) + r1)]) hX ⟨q_1071, q_1073, q_13⟩ q_1072 hd_X12_kept ⟨Nat.le_of_ble_eq_true rfl, Nat.le_of_ble_eq_true rfl⟩ (c_m_kept hG s ((s 17 0 2) + r1)) rfl rfl (Nat.le_of_ble_eq_true rfl) dX12_pass_10) (fun r2 => ?_)
  refine pf_17_2M (pc := 13) hX q_814 dX12_pass_13 ?_
  refine z_lts (fun s3 => ?_)
  refine z_aload_n (pc := 16) hX dX12_pass_16 rfl 0 rfl ?_
  refine z_dup (pc := 17) hX dX12_pass_17 rfl ?_
  refine gf_17_3M (pc := 18) hX q_815 dX12_pass_18 ?_
  refine z_iconst (pc := 21) hX dX12_pass_21 ic_1 ?_
  refine z_iadd (pc := 22) hX dX12_pass_22 ?_
  refine pf_17_3M (pc := 23) hX q_815 dX12_pass_23 ?_
  refine z_lts (fun s4 => ?_)
  exact z_retV (pc := 26) hX dX12_pass_26
theorem hd_X12_lifting : yX12_lifting.cls ≠ "java/lang/invoke/MethodHandle" ∧ yX12_lifting.cls ≠ "java/lang/invoke/VarHandle" ∧ (parseMethodDescriptor yX12_lifting.desc).map (fun d => d.parameters.length) = some 1 := by decide +kernel
def f_m_lifting (s : Sto) (x1 : Int32) : Option (Int32) :=
  bP (f_m_lifts s (s 17 0 5) x1) (fun r1 => jn (fun t2 => bP (f_m_lifts s (s 17 0 6) x1) (fun r4 => if r4 = (0 : Int32) then some (t2 ||| (0 : Int32)) else some (t2 ||| (2 : Int32)))) (fun j3 => if r1 = (0 : Int32) then j3 (0 : Int32) else j3 (1 : Int32)))
set_option maxRecDepth 100000 in
set_option maxHeartbeats 4000000 in
theorem c_m_lifting {G : Gb} {l : Launch} {o : Sto} {L : Lng} (hG : GA G) (s : Sto) (x1 : Int32)  : CT G l (EM o L) pvP (psP s) yX12_lifting cX12_lifting 2 (some .int) 3 67 [.ref (ad G 17 0), .int x1] s (f_m_lifting s x1) := by
  refine CT.of hG (by decide) (Nat.le_of_ble_eq_true rfl) (fun X hX => ?_)
  have hX : OX G X l cX12_lifting 2 "CrownTwoModel" (some .int) 3 67 := hX
  show ZR G X (EM o L) pvP (psP s) 2 s [(0, .ref (ad G 17 0)), (1, .int x1)] [] 0 _
  unfold f_m_lifting
  refine z_aload_n (pc := 0) hX dX12_lifting_0 rfl 0 rfl ?_
  refine z_aload_n (pc := 1) hX dX12_lifting_1 rfl 0 rfl ?_
  refine gf_17_5M (pc := 2) hX q_817 dX12_lifting_2 ?_
  refine z_iload_n (pc := 5) hX dX12_lifting_5 rfl 1 rfl ?_
  refine z_rP (run_V (pc := 6) (As := [.int (s 17 0 5), .int x1]) hX rc_17 ⟨q_1060, q_1063, q_13⟩ q_1062 qs_48 hd_X12_lifts ⟨Nat.le_of_ble_eq_true rfl, Nat.le_of_ble_eq_true rfl⟩ (c_m_lifts hG s (s 17 0 5) x1) rfl rfl (Nat.le_of_ble_eq_true rfl) dX12_lifting_6) (fun r1 => ?_)
  refine z_jn (P := fun j3 => ∀ (t2 : Int32), ZR G X (EM o L) pvP (psP s) 2 s [(0, .ref (ad G 17 0)), (1, .int x1)] [.int t2] 17 (j3 t2)) ?_ ?_
  · intro t2
    refine z_aload_n (pc := 17) hX dX12_lifting_17 rfl 0 rfl ?_
    refine z_aload_n (pc := 18) hX dX12_lifting_18 rfl 0 rfl ?_
    refine gf_17_6M (pc := 19) hX q_818 dX12_lifting_19 ?_
    refine z_iload_n (pc := 22) hX dX12_lifting_22 rfl 1 rfl ?_
    refine z_rP (run_V (pc := 23) (As := [.int (s 17 0 6), .int x1]) hX rc_17 ⟨q_1060, q_1063, q_13⟩ q_1062 qs_48 hd_X12_lifts ⟨Nat.le_of_ble_eq_true rfl, Nat.le_of_ble_eq_true rfl⟩ (c_m_lifts hG s (s 17 0 6) x1) rfl rfl (Nat.le_of_ble_eq_true rfl) dX12_lifting_23) (fun r4 => ?_)
    refine z_if_eq (pc := 26) (tgt := 33) hX dX12_lifting_26 rfl ?_ ?_
    · refine z_iconst (pc := 33) hX dX12_lifting_33 ic_0 ?_
      refine z_ior (pc := 34) hX dX12_lifting_34 ?_
      exact z_retP (pc := 35) hX dX12_lifting_35
    · refine z_iconst (pc := 29) hX dX12_lifting_29 ic_2 ?_
      refine z_goto (pc := 30) (tgt := 34) hX dX12_lifting_30 rfl ?_
      refine z_ior (pc := 34) hX dX12_lifting_34 ?_
      exact z_retP (pc := 35) hX dX12_lifting_35
  · intro j3 hj3
    refine z_if_eq (pc := 9) (tgt := 16) hX dX12_lifting_9 rfl ?_ ?_
    · refine z_iconst (pc := 16) hX dX12_lifting_16 ic_0 ?_
      exact z_ls [0, 1] rfl (hj3 (0 : Int32))
    · refine z_iconst (pc := 12) hX dX12_lifting_12 ic_1 ?_
      refine z_goto (pc := 13) (tgt := 17) hX dX12_lifting_13 rfl ?_
      exact z_ls [0, 1] rfl (hj3 (1 : Int32))
theorem hd_X12_asks : yX12_asks.cls ≠ "java/lang/invoke/MethodHandle" ∧ yX12_asks.cls ≠ "java/lang/invoke/VarHandle" ∧ (parseMethodDescriptor yX12_asks.desc).map (fun d => d.parameters.length) = some 1 := by decide +kernel
def f_m_asks (s : Sto) (x1 : Int32) : Option (Int32 × Sto) :=
  bP (f_m_lifting s x1) (fun r1 => jn (fun t2 => lt (st s 17 0 4 ((s 17 0 4) ||| t2)) (fun s4 => if r1 = (3 : Int32) then bP (f_m_kept ((s4 17 0 2) + (-2 : Int32))) (fun r9 => lt (st s4 17 0 2 r9) (fun s10 => some (r1, s10))) else if r1 = (0 : Int32) then bP (f_m_kept ((s4 17 0 2) + (1 : Int32))) (fun r7 => lt (st s4 17 0 2 r7) (fun s8 => some (r1, s8))) else bP (f_m_kept ((s4 17 0 2) + (5 : Int32))) (fun r5 => lt (st s4 17 0 2 r5) (fun s6 => some (r1, s6))))) (fun j3 => if r1 = (3 : Int32) then j3 ((1 : Int32) <<< (x1 &&& 31)) else j3 (0 : Int32)))
set_option maxRecDepth 100000 in
set_option maxHeartbeats 4000000 in
theorem c_m_asks {G : Gb} {l : Launch} {o : Sto} {L : Lng} (hG : GA G) (s : Sto) (x1 : Int32)  : CT G l (EM o L) pvI psI yX12_asks cX12_asks 3 (some .int) 4 88 [.ref (ad G 17 0), .int x1] s (f_m_asks s x1) := by
  refine CT.of hG (by decide) (Nat.le_of_ble_eq_true rfl) (fun X hX => ?_)
  have hX : OX G X l cX12_asks 3 "CrownTwoModel" (some .int) 4 88 := hX
  show ZR G X (EM o L) pvI psI 3 s [(0, .ref (ad G 17 0)), (1, .int x1)] [] 0 _
  unfold f_m_asks
  refine z_aload_n (pc := 0) hX dX12_asks_0 rfl 0 rfl ?_
  refine z_iload_n (pc := 1) hX dX12_asks_1 rfl 1 rfl ?_
  refine z_rP (run_V (pc := 2) (As := [.int x1]) hX rc_17 ⟨q_1056, q_1059, q_13⟩ q_1058 qs_47 hd_X12_lifting ⟨Nat.le_of_ble_eq_true rfl, Nat.le_of_ble_eq_true rfl⟩ (c_m_lifting hG s x1) rfl rfl (Nat.le_of_ble_eq_true rfl) dX12_asks_2) (fun r1 => ?_)
  refine z_istore_n (pc := 5) (ls' := [(2, .int r1), (0, .ref (ad G 17 0)), (1, .int x1)]) hX dX12_asks_5 rfl (by decide) rfl ?_
  refine z_aload_n (pc := 6) hX dX12_asks_6 rfl 1 rfl ?_
  refine z_dup (pc := 7) hX dX12_asks_7 rfl ?_
  refine gf_17_4M (pc := 8) hX q_816 dX12_asks_8 ?_
  refine z_iload_n (pc := 11) hX dX12_asks_11 rfl 0 rfl ?_
  refine z_iconst (pc := 12) hX dX12_asks_12 ic_3 ?_
  refine z_jn (P := fun j3 => ∀ (t2 : Int32), ZR G X (EM o L) pvI psI 3 s [(0, .ref (ad G 17 0)), (2, .int r1)] [.int t2, .int (s 17 0 4), .ref (ad G 17 0)] 23 (j3 t2)) ?_ ?_
  · intro t2
    refine z_ior (pc := 23) hX dX12_asks_23 ?_
    refine pf_17_4M (pc := 24) hX q_816 dX12_asks_24 ?_
    refine z_lts (fun s4 => ?_)
    refine z_aload_n (pc := 27) hX dX12_asks_27 rfl 0 rfl ?_
    refine z_aload_n (pc := 28) hX dX12_asks_28 rfl 0 rfl ?_
    refine gf_17_2M (pc := 29) hX q_814 dX12_asks_29 ?_
    refine z_iload_n (pc := 32) hX dX12_asks_32 rfl 1 rfl ?_
    refine z_iconst (pc := 33) hX dX12_asks_33 ic_3 ?_
    refine z_icmp_ne (pc := 34) (tgt := 42) hX dX12_asks_34 rfl ?_ ?_
    · refine z_iload_n (pc := 42) hX dX12_asks_42 rfl 1 rfl ?_
      refine z_if_ne (pc := 43) (tgt := 50) hX dX12_asks_43 rfl ?_ ?_
      · refine z_iconst (pc := 50) hX dX12_asks_50 ic_5 ?_
        refine z_iadd (pc := 51) hX dX12_asks_51 ?_
        refine z_rP (run_S (pc := 52) (As := [.int ((s4 17 0 2) + (5 : Int32))]) hX ⟨q_1071, q_1073, q_13⟩ q_1072 hd_X12_kept ⟨Nat.le_of_ble_eq_true rfl, Nat.le_of_ble_eq_true rfl⟩ (c_m_kept hG s4 ((s4 17 0 2) + (5 : Int32))) rfl rfl (Nat.le_of_ble_eq_true rfl) dX12_asks_52) (fun r5 => ?_)
        refine pf_17_2M (pc := 55) hX q_814 dX12_asks_55 ?_
        refine z_lts (fun s6 => ?_)
        refine z_iload_n (pc := 58) hX dX12_asks_58 rfl 1 rfl ?_
        exact z_retI (pc := 59) hX dX12_asks_59
      · refine z_iconst (pc := 46) hX dX12_asks_46 ic_1 ?_
        refine z_goto (pc := 47) (tgt := 51) hX dX12_asks_47 rfl ?_
        refine z_iadd (pc := 51) hX dX12_asks_51 ?_
        refine z_rP (run_S (pc := 52) (As := [.int ((s4 17 0 2) + (1 : Int32))]) hX ⟨q_1071, q_1073, q_13⟩ q_1072 hd_X12_kept ⟨Nat.le_of_ble_eq_true rfl, Nat.le_of_ble_eq_true rfl⟩ (c_m_kept hG s4 ((s4 17 0 2) + (1 : Int32))) rfl rfl (Nat.le_of_ble_eq_true rfl) dX12_asks_52) (fun r7 => ?_)
        refine pf_17_2M (pc := 55) hX q_814 dX12_asks_55 ?_
        refine z_lts (fun s8 => ?_)
        refine z_iload_n (pc := 58) hX dX12_asks_58 rfl 1 rfl ?_
        exact z_retI (pc := 59) hX dX12_asks_59
    · refine z_bipush (pc := 37) hX dX12_asks_37 bp_m2 ?_
      refine z_goto (pc := 39) (tgt := 51) hX dX12_asks_39 rfl ?_
      refine z_iadd (pc := 51) hX dX12_asks_51 ?_
      refine z_rP (run_S (pc := 52) (As := [.int ((s4 17 0 2) + (-2 : Int32))]) hX ⟨q_1071, q_1073, q_13⟩ q_1072 hd_X12_kept ⟨Nat.le_of_ble_eq_true rfl, Nat.le_of_ble_eq_true rfl⟩ (c_m_kept hG s4 ((s4 17 0 2) + (-2 : Int32))) rfl rfl (Nat.le_of_ble_eq_true rfl) dX12_asks_52) (fun r9 => ?_)
      refine pf_17_2M (pc := 55) hX q_814 dX12_asks_55 ?_
      refine z_lts (fun s10 => ?_)
      refine z_iload_n (pc := 58) hX dX12_asks_58 rfl 1 rfl ?_
      exact z_retI (pc := 59) hX dX12_asks_59
  · intro j3 hj3
    refine z_icmp_ne (pc := 13) (tgt := 22) hX dX12_asks_13 rfl ?_ ?_
    · refine z_iconst (pc := 22) hX dX12_asks_22 ic_0 ?_
      exact z_ls [1, 0] rfl (hj3 (0 : Int32))
    · refine z_iconst (pc := 16) hX dX12_asks_16 ic_1 ?_
      refine z_iload_n (pc := 17) hX dX12_asks_17 rfl 2 rfl ?_
      refine z_ishl (pc := 18) hX dX12_asks_18 ?_
      refine z_goto (pc := 19) (tgt := 23) hX dX12_asks_19 rfl ?_
      exact z_ls [1, 0] rfl (hj3 ((1 : Int32) <<< (x1 &&& 31)))
theorem hd_X12_lays : yX12_lays.cls ≠ "java/lang/invoke/MethodHandle" ∧ yX12_lays.cls ≠ "java/lang/invoke/VarHandle" ∧ (parseMethodDescriptor yX12_lays.desc).map (fun d => d.parameters.length) = some 2 := by decide +kernel
def f_m_lays_30 (s : Sto) (x2 : Int32) : Option (Sto) :=
  if inb x2 40 then lt (st s 30 0 (ix x2) (s 17 0 2)) (fun s1 => if inb (x2 + (1 : Int32)) 40 then lt (st s1 30 0 (ix (x2 + (1 : Int32))) (s1 17 0 3)) (fun s2 => if inb (x2 + (2 : Int32)) 40 then lt (st s2 30 0 (ix (x2 + (2 : Int32))) (s2 17 0 4)) (fun s3 => if inb (x2 + (3 : Int32)) 40 then lt (st s3 30 0 (ix (x2 + (3 : Int32))) (s3 17 0 5)) (fun s4 => if inb (x2 + (4 : Int32)) 40 then lt (st s4 30 0 (ix (x2 + (4 : Int32))) (s4 17 0 6)) (fun s5 => some s5) else none) else none) else none) else none) else none
set_option maxRecDepth 100000 in
set_option maxHeartbeats 4000000 in
theorem c_m_lays_30 {G : Gb} {l : Launch} {o : Sto} {L : Lng} (hG : GA G) (s : Sto) (x2 : Int32)  : CT G l (EM o L) pvV psV yX12_lays cX12_lays 3 none 0 0 [.ref (ad G 17 0), .ref (ad G 30 0), .int x2] s (f_m_lays_30 s x2) := by
  refine CT.of hG (by decide) (Nat.le_of_ble_eq_true rfl) (fun X hX => ?_)
  have hX : OX G X l cX12_lays 3 "CrownTwoModel" none 0 0 := hX
  show ZR G X (EM o L) pvV psV 3 s [(0, .ref (ad G 17 0)), (1, .ref (ad G 30 0)), (2, .int x2)] [] 0 _
  unfold f_m_lays_30
  refine z_aload_n (pc := 0) hX dX12_lays_0 rfl 1 rfl ?_
  refine z_iload_n (pc := 1) hX dX12_lays_1 rfl 2 rfl ?_
  refine z_aload_n (pc := 2) hX dX12_lays_2 rfl 0 rfl ?_
  refine gf_17_2M (pc := 3) hX q_814 dX12_lays_3 ?_
  refine is_30M (pc := 6) hX dX12_lays_6 ?_
  refine z_lts (fun s1 => ?_)
  refine z_aload_n (pc := 7) hX dX12_lays_7 rfl 1 rfl ?_
  refine z_iload_n (pc := 8) hX dX12_lays_8 rfl 2 rfl ?_
  refine z_iconst (pc := 9) hX dX12_lays_9 ic_1 ?_
  refine z_iadd (pc := 10) hX dX12_lays_10 ?_
  refine z_aload_n (pc := 11) hX dX12_lays_11 rfl 0 rfl ?_
  refine gf_17_3M (pc := 12) hX q_815 dX12_lays_12 ?_
  refine is_30M (pc := 15) hX dX12_lays_15 ?_
  refine z_lts (fun s2 => ?_)
  refine z_aload_n (pc := 16) hX dX12_lays_16 rfl 1 rfl ?_
  refine z_iload_n (pc := 17) hX dX12_lays_17 rfl 2 rfl ?_
  refine z_iconst (pc := 18) hX dX12_lays_18 ic_2 ?_
  refine z_iadd (pc := 19) hX dX12_lays_19 ?_
  refine z_aload_n (pc := 20) hX dX12_lays_20 rfl 0 rfl ?_
  refine gf_17_4M (pc := 21) hX q_816 dX12_lays_21 ?_
  refine is_30M (pc := 24) hX dX12_lays_24 ?_
  refine z_lts (fun s3 => ?_)
  refine z_aload_n (pc := 25) hX dX12_lays_25 rfl 1 rfl ?_
  refine z_iload_n (pc := 26) hX dX12_lays_26 rfl 2 rfl ?_
  refine z_iconst (pc := 27) hX dX12_lays_27 ic_3 ?_
  refine z_iadd (pc := 28) hX dX12_lays_28 ?_
  refine z_aload_n (pc := 29) hX dX12_lays_29 rfl 0 rfl ?_
  refine gf_17_5M (pc := 30) hX q_817 dX12_lays_30 ?_
  refine is_30M (pc := 33) hX dX12_lays_33 ?_
  refine z_lts (fun s4 => ?_)
  refine z_aload_n (pc := 34) hX dX12_lays_34 rfl 1 rfl ?_
  refine z_iload_n (pc := 35) hX dX12_lays_35 rfl 2 rfl ?_
  refine z_iconst (pc := 36) hX dX12_lays_36 ic_4 ?_
  refine z_iadd (pc := 37) hX dX12_lays_37 ?_
  refine z_aload_n (pc := 38) hX dX12_lays_38 rfl 0 rfl ?_
  refine gf_17_6M (pc := 39) hX q_818 dX12_lays_39 ?_
  refine is_30M (pc := 42) hX dX12_lays_42 ?_
  refine z_lts (fun s5 => ?_)
  exact z_retV (pc := 43) hX dX12_lays_43
def f_m_lays_31 (s : Sto) (x2 : Int32) : Option (Sto) :=
  if inb x2 5 then lt (st s 31 0 (ix x2) (s 17 0 2)) (fun s1 => if inb (x2 + (1 : Int32)) 5 then lt (st s1 31 0 (ix (x2 + (1 : Int32))) (s1 17 0 3)) (fun s2 => if inb (x2 + (2 : Int32)) 5 then lt (st s2 31 0 (ix (x2 + (2 : Int32))) (s2 17 0 4)) (fun s3 => if inb (x2 + (3 : Int32)) 5 then lt (st s3 31 0 (ix (x2 + (3 : Int32))) (s3 17 0 5)) (fun s4 => if inb (x2 + (4 : Int32)) 5 then lt (st s4 31 0 (ix (x2 + (4 : Int32))) (s4 17 0 6)) (fun s5 => some s5) else none) else none) else none) else none) else none
set_option maxRecDepth 100000 in
set_option maxHeartbeats 4000000 in
theorem c_m_lays_31 {G : Gb} {l : Launch} {o : Sto} {L : Lng} (hG : GA G) (s : Sto) (x2 : Int32)  : CT G l (EM o L) pvV psV yX12_lays cX12_lays 3 none 0 0 [.ref (ad G 17 0), .ref (ad G 31 0), .int x2] s (f_m_lays_31 s x2) := by
  refine CT.of hG (by decide) (Nat.le_of_ble_eq_true rfl) (fun X hX => ?_)
  have hX : OX G X l cX12_lays 3 "CrownTwoModel" none 0 0 := hX
  show ZR G X (EM o L) pvV psV 3 s [(0, .ref (ad G 17 0)), (1, .ref (ad G 31 0)), (2, .int x2)] [] 0 _
  unfold f_m_lays_31
  refine z_aload_n (pc := 0) hX dX12_lays_0 rfl 1 rfl ?_
  refine z_iload_n (pc := 1) hX dX12_lays_1 rfl 2 rfl ?_
  refine z_aload_n (pc := 2) hX dX12_lays_2 rfl 0 rfl ?_
  refine gf_17_2M (pc := 3) hX q_814 dX12_lays_3 ?_
  refine is_31M (pc := 6) hX dX12_lays_6 ?_
  refine z_lts (fun s1 => ?_)
  refine z_aload_n (pc := 7) hX dX12_lays_7 rfl 1 rfl ?_
  refine z_iload_n (pc := 8) hX dX12_lays_8 rfl 2 rfl ?_
  refine z_iconst (pc := 9) hX dX12_lays_9 ic_1 ?_
  refine z_iadd (pc := 10) hX dX12_lays_10 ?_
  refine z_aload_n (pc := 11) hX dX12_lays_11 rfl 0 rfl ?_
  refine gf_17_3M (pc := 12) hX q_815 dX12_lays_12 ?_
  refine is_31M (pc := 15) hX dX12_lays_15 ?_
  refine z_lts (fun s2 => ?_)
  refine z_aload_n (pc := 16) hX dX12_lays_16 rfl 1 rfl ?_
  refine z_iload_n (pc := 17) hX dX12_lays_17 rfl 2 rfl ?_
  refine z_iconst (pc := 18) hX dX12_lays_18 ic_2 ?_
  refine z_iadd (pc := 19) hX dX12_lays_19 ?_
  refine z_aload_n (pc := 20) hX dX12_lays_20 rfl 0 rfl ?_
  refine gf_17_4M (pc := 21) hX q_816 dX12_lays_21 ?_
  refine is_31M (pc := 24) hX dX12_lays_24 ?_
  refine z_lts (fun s3 => ?_)
  refine z_aload_n (pc := 25) hX dX12_lays_25 rfl 1 rfl ?_
  refine z_iload_n (pc := 26) hX dX12_lays_26 rfl 2 rfl ?_
  refine z_iconst (pc := 27) hX dX12_lays_27 ic_3 ?_
  refine z_iadd (pc := 28) hX dX12_lays_28 ?_
  refine z_aload_n (pc := 29) hX dX12_lays_29 rfl 0 rfl ?_
  refine gf_17_5M (pc := 30) hX q_817 dX12_lays_30 ?_
  refine is_31M (pc := 33) hX dX12_lays_33 ?_
  refine z_lts (fun s4 => ?_)
  refine z_aload_n (pc := 34) hX dX12_lays_34 rfl 1 rfl ?_
  refine z_iload_n (pc := 35) hX dX12_lays_35 rfl 2 rfl ?_
  refine z_iconst (pc := 36) hX dX12_lays_36 ic_4 ?_
  refine z_iadd (pc := 37) hX dX12_lays_37 ?_
  refine z_aload_n (pc := 38) hX dX12_lays_38 rfl 0 rfl ?_
  refine gf_17_6M (pc := 39) hX q_818 dX12_lays_39 ?_
  refine is_31M (pc := 42) hX dX12_lays_42 ?_
  refine z_lts (fun s5 => ?_)
  exact z_retV (pc := 43) hX dX12_lays_43
def f_m_lays_34 (s : Sto) (x2 : Int32) : Option (Sto) :=
  if inb x2 204 then lt (st s 34 0 (ix x2) (s 17 0 2)) (fun s1 => if inb (x2 + (1 : Int32)) 204 then lt (st s1 34 0 (ix (x2 + (1 : Int32))) (s1 17 0 3)) (fun s2 => if inb (x2 + (2 : Int32)) 204 then lt (st s2 34 0 (ix (x2 + (2 : Int32))) (s2 17 0 4)) (fun s3 => if inb (x2 + (3 : Int32)) 204 then lt (st s3 34 0 (ix (x2 + (3 : Int32))) (s3 17 0 5)) (fun s4 => if inb (x2 + (4 : Int32)) 204 then lt (st s4 34 0 (ix (x2 + (4 : Int32))) (s4 17 0 6)) (fun s5 => some s5) else none) else none) else none) else none) else none
set_option maxRecDepth 100000 in
set_option maxHeartbeats 4000000 in
theorem c_m_lays_34 {G : Gb} {l : Launch} {o : Sto} {L : Lng} (hG : GA G) (s : Sto) (x2 : Int32)  : CT G l (EM o L) pvV psV yX12_lays cX12_lays 3 none 0 0 [.ref (ad G 17 0), .ref (ad G 34 0), .int x2] s (f_m_lays_34 s x2) := by
  refine CT.of hG (by decide) (Nat.le_of_ble_eq_true rfl) (fun X hX => ?_)
  have hX : OX G X l cX12_lays 3 "CrownTwoModel" none 0 0 := hX
  show ZR G X (EM o L) pvV psV 3 s [(0, .ref (ad G 17 0)), (1, .ref (ad G 34 0)), (2, .int x2)] [] 0 _
  unfold f_m_lays_34
  refine z_aload_n (pc := 0) hX dX12_lays_0 rfl 1 rfl ?_
  refine z_iload_n (pc := 1) hX dX12_lays_1 rfl 2 rfl ?_
  refine z_aload_n (pc := 2) hX dX12_lays_2 rfl 0 rfl ?_
  refine gf_17_2M (pc := 3) hX q_814 dX12_lays_3 ?_
  refine is_34M (pc := 6) hX dX12_lays_6 ?_
  refine z_lts (fun s1 => ?_)
  refine z_aload_n (pc := 7) hX dX12_lays_7 rfl 1 rfl ?_
  refine z_iload_n (pc := 8) hX dX12_lays_8 rfl 2 rfl ?_
  refine z_iconst (pc := 9) hX dX12_lays_9 ic_1 ?_
  refine z_iadd (pc := 10) hX dX12_lays_10 ?_
  refine z_aload_n (pc := 11) hX dX12_lays_11 rfl 0 rfl ?_
  refine gf_17_3M (pc := 12) hX q_815 dX12_lays_12 ?_
  refine is_34M (pc := 15) hX dX12_lays_15 ?_
  refine z_lts (fun s2 => ?_)
  refine z_aload_n (pc := 16) hX dX12_lays_16 rfl 1 rfl ?_
  refine z_iload_n (pc := 17) hX dX12_lays_17 rfl 2 rfl ?_
  refine z_iconst (pc := 18) hX dX12_lays_18 ic_2 ?_
  refine z_iadd (pc := 19) hX dX12_lays_19 ?_
  refine z_aload_n (pc := 20) hX dX12_lays_20 rfl 0 rfl ?_
  refine gf_17_4M (pc := 21) hX q_816 dX12_lays_21 ?_
  refine is_34M (pc := 24) hX dX12_lays_24 ?_
  refine z_lts (fun s3 => ?_)
  refine z_aload_n (pc := 25) hX dX12_lays_25 rfl 1 rfl ?_
  refine z_iload_n (pc := 26) hX dX12_lays_26 rfl 2 rfl ?_
  refine z_iconst (pc := 27) hX dX12_lays_27 ic_3 ?_
  refine z_iadd (pc := 28) hX dX12_lays_28 ?_
  refine z_aload_n (pc := 29) hX dX12_lays_29 rfl 0 rfl ?_
  refine gf_17_5M (pc := 30) hX q_817 dX12_lays_30 ?_
  refine is_34M (pc := 33) hX dX12_lays_33 ?_
  refine z_lts (fun s4 => ?_)
  refine z_aload_n (pc := 34) hX dX12_lays_34 rfl 1 rfl ?_
  refine z_iload_n (pc := 35) hX dX12_lays_35 rfl 2 rfl ?_
  refine z_iconst (pc := 36) hX dX12_lays_36 ic_4 ?_
  refine z_iadd (pc := 37) hX dX12_lays_37 ?_
  refine z_aload_n (pc := 38) hX dX12_lays_38 rfl 0 rfl ?_
  refine gf_17_6M (pc := 39) hX q_818 dX12_lays_39 ?_
  refine is_34M (pc := 42) hX dX12_lays_42 ?_
  refine z_lts (fun s5 => ?_)
  exact z_retV (pc := 43) hX dX12_lays_43
theorem hd_X12_takes : yX12_takes.cls ≠ "java/lang/invoke/MethodHandle" ∧ yX12_takes.cls ≠ "java/lang/invoke/VarHandle" ∧ (parseMethodDescriptor yX12_takes.desc).map (fun d => d.parameters.length) = some 2 := by decide +kernel
def f_m_takes_30 (s : Sto) (x2 : Int32) : Option (Sto) :=
  if inb x2 40 then lt (st s 17 0 2 (s 30 0 (ix x2))) (fun s1 => if inb (x2 + (1 : Int32)) 40 then lt (st s1 17 0 3 (s1 30 0 (ix (x2 + (1 : Int32))))) (fun s2 => if inb (x2 + (2 : Int32)) 40 then lt (st s2 17 0 4 (s2 30 0 (ix (x2 + (2 : Int32))))) (fun s3 => if inb (x2 + (3 : Int32)) 40 then lt (st s3 17 0 5 (s3 30 0 (ix (x2 + (3 : Int32))))) (fun s4 => if inb (x2 + (4 : Int32)) 40 then lt (st s4 17 0 6 (s4 30 0 (ix (x2 + (4 : Int32))))) (fun s5 => some s5) else none) else none) else none) else none) else none
set_option maxRecDepth 100000 in
set_option maxHeartbeats 4000000 in
theorem c_m_takes_30 {G : Gb} {l : Launch} {o : Sto} {L : Lng} (hG : GA G) (s : Sto) (x2 : Int32)  : CT G l (EM o L) pvV psV yX12_takes cX12_takes 3 none 0 0 [.ref (ad G 17 0), .ref (ad G 30 0), .int x2] s (f_m_takes_30 s x2) := by
  refine CT.of hG (by decide) (Nat.le_of_ble_eq_true rfl) (fun X hX => ?_)
  have hX : OX G X l cX12_takes 3 "CrownTwoModel" none 0 0 := hX
  show ZR G X (EM o L) pvV psV 3 s [(0, .ref (ad G 17 0)), (1, .ref (ad G 30 0)), (2, .int x2)] [] 0 _
  unfold f_m_takes_30
  refine z_aload_n (pc := 0) hX dX12_takes_0 rfl 0 rfl ?_
  refine z_aload_n (pc := 1) hX dX12_takes_1 rfl 1 rfl ?_
  refine z_iload_n (pc := 2) hX dX12_takes_2 rfl 2 rfl ?_
  refine ia_30M (pc := 3) hX dX12_takes_3 ?_
  refine pf_17_2M (pc := 4) hX q_814 dX12_takes_4 ?_
  refine z_lts (fun s1 => ?_)
  refine z_aload_n (pc := 7) hX dX12_takes_7 rfl 0 rfl ?_
  refine z_aload_n (pc := 8) hX dX12_takes_8 rfl 1 rfl ?_
  refine z_iload_n (pc := 9) hX dX12_takes_9 rfl 2 rfl ?_
  refine z_iconst (pc := 10) hX dX12_takes_10 ic_1 ?_
  refine z_iadd (pc := 11) hX dX12_takes_11 ?_
  refine ia_30M (pc := 12) hX dX12_takes_12 ?_
  refine pf_17_3M (pc := 13) hX q_815 dX12_takes_13 ?_
  refine z_lts (fun s2 => ?_)
  refine z_aload_n (pc := 16) hX dX12_takes_16 rfl 0 rfl ?_
  refine z_aload_n (pc := 17) hX dX12_takes_17 rfl 1 rfl ?_
  refine z_iload_n (pc := 18) hX dX12_takes_18 rfl 2 rfl ?_
  refine z_iconst (pc := 19) hX dX12_takes_19 ic_2 ?_
  refine z_iadd (pc := 20) hX dX12_takes_20 ?_
  refine ia_30M (pc := 21) hX dX12_takes_21 ?_
  refine pf_17_4M (pc := 22) hX q_816 dX12_takes_22 ?_
  refine z_lts (fun s3 => ?_)
  refine z_aload_n (pc := 25) hX dX12_takes_25 rfl 0 rfl ?_
  refine z_aload_n (pc := 26) hX dX12_takes_26 rfl 1 rfl ?_
  refine z_iload_n (pc := 27) hX dX12_takes_27 rfl 2 rfl ?_
  refine z_iconst (pc := 28) hX dX12_takes_28 ic_3 ?_
  refine z_iadd (pc := 29) hX dX12_takes_29 ?_
  refine ia_30M (pc := 30) hX dX12_takes_30 ?_
  refine pf_17_5M (pc := 31) hX q_817 dX12_takes_31 ?_
  refine z_lts (fun s4 => ?_)
  refine z_aload_n (pc := 34) hX dX12_takes_34 rfl 0 rfl ?_
  refine z_aload_n (pc := 35) hX dX12_takes_35 rfl 1 rfl ?_
  refine z_iload_n (pc := 36) hX dX12_takes_36 rfl 2 rfl ?_
  refine z_iconst (pc := 37) hX dX12_takes_37 ic_4 ?_
  refine z_iadd (pc := 38) hX dX12_takes_38 ?_
  refine ia_30M (pc := 39) hX dX12_takes_39 ?_
  refine pf_17_6M (pc := 40) hX q_818 dX12_takes_40 ?_
  refine z_lts (fun s5 => ?_)
  exact z_retV (pc := 43) hX dX12_takes_43
def f_m_takes_31 (s : Sto) (x2 : Int32) : Option (Sto) :=
  if inb x2 5 then lt (st s 17 0 2 (s 31 0 (ix x2))) (fun s1 => if inb (x2 + (1 : Int32)) 5 then lt (st s1 17 0 3 (s1 31 0 (ix (x2 + (1 : Int32))))) (fun s2 => if inb (x2 + (2 : Int32)) 5 then lt (st s2 17 0 4 (s2 31 0 (ix (x2 + (2 : Int32))))) (fun s3 => if inb (x2 + (3 : Int32)) 5 then lt (st s3 17 0 5 (s3 31 0 (ix (x2 + (3 : Int32))))) (fun s4 => if inb (x2 + (4 : Int32)) 5 then lt (st s4 17 0 6 (s4 31 0 (ix (x2 + (4 : Int32))))) (fun s5 => some s5) else none) else none) else none) else none) else none
set_option maxRecDepth 100000 in
set_option maxHeartbeats 4000000 in
theorem c_m_takes_31 {G : Gb} {l : Launch} {o : Sto} {L : Lng} (hG : GA G) (s : Sto) (x2 : Int32)  : CT G l (EM o L) pvV psV yX12_takes cX12_takes 3 none 0 0 [.ref (ad G 17 0), .ref (ad G 31 0), .int x2] s (f_m_takes_31 s x2) := by
  refine CT.of hG (by decide) (Nat.le_of_ble_eq_true rfl) (fun X hX => ?_)
  have hX : OX G X l cX12_takes 3 "CrownTwoModel" none 0 0 := hX
  show ZR G X (EM o L) pvV psV 3 s [(0, .ref (ad G 17 0)), (1, .ref (ad G 31 0)), (2, .int x2)] [] 0 _
  unfold f_m_takes_31
  refine z_aload_n (pc := 0) hX dX12_takes_0 rfl 0 rfl ?_
  refine z_aload_n (pc := 1) hX dX12_takes_1 rfl 1 rfl ?_
  refine z_iload_n (pc := 2) hX dX12_takes_2 rfl 2 rfl ?_
  refine ia_31M (pc := 3) hX dX12_takes_3 ?_
  refine pf_17_2M (pc := 4) hX q_814 dX12_takes_4 ?_
  refine z_lts (fun s1 => ?_)
  refine z_aload_n (pc := 7) hX dX12_takes_7 rfl 0 rfl ?_
  refine z_aload_n (pc := 8) hX dX12_takes_8 rfl 1 rfl ?_
  refine z_iload_n (pc := 9) hX dX12_takes_9 rfl 2 rfl ?_
  refine z_iconst (pc := 10) hX dX12_takes_10 ic_1 ?_
  refine z_iadd (pc := 11) hX dX12_takes_11 ?_
  refine ia_31M (pc := 12) hX dX12_takes_12 ?_
  refine pf_17_3M (pc := 13) hX q_815 dX12_takes_13 ?_
  refine z_lts (fun s2 => ?_)
  refine z_aload_n (pc := 16) hX dX12_takes_16 rfl 0 rfl ?_
  refine z_aload_n (pc := 17) hX dX12_takes_17 rfl 1 rfl ?_
  refine z_iload_n (pc := 18) hX dX12_takes_18 rfl 2 rfl ?_
  refine z_iconst (pc := 19) hX dX12_takes_19 ic_2 ?_
  refine z_iadd (pc := 20) hX dX12_takes_20 ?_
  refine ia_31M (pc := 21) hX dX12_takes_21 ?_
  refine pf_17_4M (pc := 22) hX q_816 dX12_takes_22 ?_
  refine z_lts (fun s3 => ?_)
  refine z_aload_n (pc := 25) hX dX12_takes_25 rfl 0 rfl ?_
  refine z_aload_n (pc := 26) hX dX12_takes_26 rfl 1 rfl ?_
  refine z_iload_n (pc := 27) hX dX12_takes_27 rfl 2 rfl ?_
  refine z_iconst (pc := 28) hX dX12_takes_28 ic_3 ?_
  refine z_iadd (pc := 29) hX dX12_takes_29 ?_
  refine ia_31M (pc := 30) hX dX12_takes_30 ?_
  refine pf_17_5M (pc := 31) hX q_817 dX12_takes_31 ?_
  refine z_lts (fun s4 => ?_)
  refine z_aload_n (pc := 34) hX dX12_takes_34 rfl 0 rfl ?_
  refine z_aload_n (pc := 35) hX dX12_takes_35 rfl 1 rfl ?_
  refine z_iload_n (pc := 36) hX dX12_takes_36 rfl 2 rfl ?_
  refine z_iconst (pc := 37) hX dX12_takes_37 ic_4 ?_
  refine z_iadd (pc := 38) hX dX12_takes_38 ?_
  refine ia_31M (pc := 39) hX dX12_takes_39 ?_
  refine pf_17_6M (pc := 40) hX q_818 dX12_takes_40 ?_
  refine z_lts (fun s5 => ?_)
  exact z_retV (pc := 43) hX dX12_takes_43
def f_m_takes_34 (s : Sto) (x2 : Int32) : Option (Sto) :=
  if inb x2 204 then lt (st s 17 0 2 (s 34 0 (ix x2))) (fun s1 => if inb (x2 + (1 : Int32)) 204 then lt (st s1 17 0 3 (s1 34 0 (ix (x2 + (1 : Int32))))) (fun s2 => if inb (x2 + (2 : Int32)) 204 then lt (st s2 17 0 4 (s2 34 0 (ix (x2 + (2 : Int32))))) (fun s3 => if inb (x2 + (3 : Int32)) 204 then lt (st s3 17 0 5 (s3 34 0 (ix (x2 + (3 : Int32))))) (fun s4 => if inb (x2 + (4 : Int32)) 204 then lt (st s4 17 0 6 (s4 34 0 (ix (x2 + (4 : Int32))))) (fun s5 => some s5) else none) else none) else none) else none) else none
set_option maxRecDepth 100000 in
set_option maxHeartbeats 4000000 in
theorem c_m_takes_34 {G : Gb} {l : Launch} {o : Sto} {L : Lng} (hG : GA G) (s : Sto) (x2 : Int32)  : CT G l (EM o L) pvV psV yX12_takes cX12_takes 3 none 0 0 [.ref (ad G 17 0), .ref (ad G 34 0), .int x2] s (f_m_takes_34 s x2) := by
  refine CT.of hG (by decide) (Nat.le_of_ble_eq_true rfl) (fun X hX => ?_)
  have hX : OX G X l cX12_takes 3 "CrownTwoModel" none 0 0 := hX
  show ZR G X (EM o L) pvV psV 3 s [(0, .ref (ad G 17 0)), (1, .ref (ad G 34 0)), (2, .int x2)] [] 0 _
  unfold f_m_takes_34
  refine z_aload_n (pc := 0) hX dX12_takes_0 rfl 0 rfl ?_
  refine z_aload_n (pc := 1) hX dX12_takes_1 rfl 1 rfl ?_
  refine z_iload_n (pc := 2) hX dX12_takes_2 rfl 2 rfl ?_
  refine ia_34M (pc := 3) hX dX12_takes_3 ?_
  refine pf_17_2M (pc := 4) hX q_814 dX12_takes_4 ?_
  refine z_lts (fun s1 => ?_)
  refine z_aload_n (pc := 7) hX dX12_takes_7 rfl 0 rfl ?_
  refine z_aload_n (pc := 8) hX dX12_takes_8 rfl 1 rfl ?_
  refine z_iload_n (pc := 9) hX dX12_takes_9 rfl 2 rfl ?_
  refine z_iconst (pc := 10) hX dX12_takes_10 ic_1 ?_
  refine z_iadd (pc := 11) hX dX12_takes_11 ?_
  refine ia_34M (pc := 12) hX dX12_takes_12 ?_
  refine pf_17_3M (pc := 13) hX q_815 dX12_takes_13 ?_
  refine z_lts (fun s2 => ?_)
  refine z_aload_n (pc := 16) hX dX12_takes_16 rfl 0 rfl ?_
  refine z_aload_n (pc := 17) hX dX12_takes_17 rfl 1 rfl ?_
  refine z_iload_n (pc := 18) hX dX12_takes_18 rfl 2 rfl ?_
  refine z_iconst (pc := 19) hX dX12_takes_19 ic_2 ?_
  refine z_iadd (pc := 20) hX dX12_takes_20 ?_
  refine ia_34M (pc := 21) hX dX12_takes_21 ?_
  refine pf_17_4M (pc := 22) hX q_816 dX12_takes_22 ?_
  refine z_lts (fun s3 => ?_)
  refine z_aload_n (pc := 25) hX dX12_takes_25 rfl 0 rfl ?_
  refine z_aload_n (pc := 26) hX dX12_takes_26 rfl 1 rfl ?_
  refine z_iload_n (pc := 27) hX dX12_takes_27 rfl 2 rfl ?_
  refine z_iconst (pc := 28) hX dX12_takes_28 ic_3 ?_
  refine z_iadd (pc := 29) hX dX12_takes_29 ?_
  refine ia_34M (pc := 30) hX dX12_takes_30 ?_
  refine pf_17_5M (pc := 31) hX q_817 dX12_takes_31 ?_
  refine z_lts (fun s4 => ?_)
  refine z_aload_n (pc := 34) hX dX12_takes_34 rfl 0 rfl ?_
  refine z_aload_n (pc := 35) hX dX12_takes_35 rfl 1 rfl ?_
  refine z_iload_n (pc := 36) hX dX12_takes_36 rfl 2 rfl ?_
  refine z_iconst (pc := 37) hX dX12_takes_37 ic_4 ?_
  refine z_iadd (pc := 38) hX dX12_takes_38 ?_
  refine ia_34M (pc := 39) hX dX12_takes_39 ?_
  refine pf_17_6M (pc := 40) hX q_818 dX12_takes_40 ?_
  refine z_lts (fun s5 => ?_)
  exact z_retV (pc := 43) hX dX12_takes_43
theorem hd_X12_notes : yX12_notes.cls ≠ "java/lang/invoke/MethodHandle" ∧ yX12_notes.cls ≠ "java/lang/invoke/VarHandle" ∧ (parseMethodDescriptor yX12_notes.desc).map (fun d => d.parameters.length) = some 0 := by decide +kernel
def l_m_notes_11 (K6 : Sto → Option (Sto)) (rc10 : Sto → Int32 → Option (Sto)) (s8 : Sto) (v1_9 : Int32) : Option (Sto) :=
  if (35 : Int32) ≤ v1_9 then K6 s8 else if inb (v1_9 + (5 : Int32)) 40 then if inb v1_9 40 then lt (st s8 30 0 (ix v1_9) (s8 30 0 (ix (v1_9 + (5 : Int32))))) (fun s11 => rc10 s11 (v1_9 + (1 : Int32))) else none else none
def f_m_notes (s : Sto)  : Option (Sto) :=
  jn (fun s1 => bV (f_m_lays_30 s1 ((5 : Int32) * (s1 17 0 27))) (fun s3 => lt (st s3 17 0 27 ((s3 17 0 27) + (1 : Int32))) (fun s4 => some s4))) (fun j2 => if (s 17 0 27) = (8 : Int32) then jn (fun s5 => lt (st s5 17 0 27 ((s5 17 0 27) - (1 : Int32))) (fun s7 => j2 s7)) (fun K6 => fx 1000 (l_m_notes_11 K6) (fun _ _ => none) s (0 : Int32)) else j2 s)
set_option maxRecDepth 100000 in
set_option maxHeartbeats 4000000 in
theorem c_m_notes {G : Gb} {l : Launch} {o : Sto} {L : Lng} (hG : GA G) (s : Sto)   : CT G l (EM o L) pvV psV yX12_notes cX12_notes 2 none 1 22 [.ref (ad G 17 0)] s (f_m_notes s) := by
  refine CT.of hG (by decide) (Nat.le_of_ble_eq_true rfl) (fun X hX => ?_)
  have hX : OX G X l cX12_notes 2 "CrownTwoModel" none 1 22 := hX
  show ZR G X (EM o L) pvV psV 2 s [(0, .ref (ad G 17 0))] [] 0 _
  unfold f_m_notes
  refine z_aload_n (pc := 0) hX dX12_notes_0 rfl 0 rfl ?_
  refine gf_17_27M (pc := 1) hX q_839 dX12_notes_1 ?_
  refine z_bipush (pc := 4) hX dX12_notes_4 bp_8 ?_
  refine z_jn (P := fun j2 => ∀ (s1 : Sto), ZR G X (EM o L) pvV psV 2 s1 [(0, .ref (ad G 17 0))] [] 47 (j2 s1)) ?_ ?_
  · intro s1
    refine z_aload_n (pc := 47) hX dX12_notes_47 rfl 0 rfl ?_
    refine z_aload_n (pc := 48) hX dX12_notes_48 rfl 0 rfl ?_
    refine gr_17_26M (pc := 49) hX q_838 dX12_notes_49 ?_
    refine z_iconst (pc := 52) hX dX12_notes_52 ic_5 ?_
    refine z_aload_n (pc := 53) hX dX12_notes_53 rfl 0 rfl ?_
    refine gf_17_27M (pc := 54) hX q_839 dX12_notes_54 ?_
    refine z_imul (pc := 57) hX dX12_notes_57 ?_
    refine z_rV (run_V (pc := 58) (As := [.ref (ad G 30 0), .int ((5 : Int32) * (s1 17 0 27))]) hX rc_17 ⟨q_1030, q_1033, q_13⟩ q_1032 qs_43 hd_X12_lays ⟨Nat.le_of_ble_eq_true rfl, Nat.le_of_ble_eq_true rfl⟩ (c_m_lays_30 hG s1 ((5 : Int32) * (s1 17 0 27))) rfl rfl (Nat.le_of_ble_eq_true rfl) dX12_notes_58) (fun s3 => ?_)
    refine z_aload_n (pc := 61) hX dX12_notes_61 rfl 0 rfl ?_
    refine z_dup (pc := 62) hX dX12_notes_62 rfl ?_
    refine gf_17_27M (pc := 63) hX q_839 dX12_notes_63 ?_
    refine z_iconst (pc := 66) hX dX12_notes_66 ic_1 ?_
    refine z_iadd (pc := 67) hX dX12_notes_67 ?_
    refine pf_17_27M (pc := 68) hX q_839 dX12_notes_68 ?_
    refine z_lts (fun s4 => ?_)
    exact z_retV (pc := 71) hX dX12_notes_71
  · intro j2 hj2
    refine z_icmp_ne (pc := 6) (tgt := 47) hX dX12_notes_6 rfl ?_ ?_
    · exact z_ls [0] rfl (hj2 s)
    · refine z_iconst (pc := 9) hX dX12_notes_9 ic_0 ?_
      refine z_istore_n (pc := 10) (ls' := [(1, .int (0 : Int32)), (0, .ref (ad G 17 0))]) hX dX12_notes_10 rfl (by decide) rfl ?_
      refine z_jn (P := fun K6 => ∀ (s5 : Sto), ZR G X (EM o L) pvV psV 2 s5 [(0, .ref (ad G 17 0))] [] 37 (K6 s5)) ?_ ?_
      · intro s5
        refine z_aload_n (pc := 37) hX dX12_notes_37 rfl 0 rfl ?_
        refine z_dup (pc := 38) hX dX12_notes_38 rfl ?_
        refine gf_17_27M (pc := 39) hX q_839 dX12_notes_39 ?_
        refine z_iconst (pc := 42) hX dX12_notes_42 ic_1 ?_
        refine z_isub (pc := 43) hX dX12_notes_43 ?_
        refine pf_17_27M (pc := 44) hX q_839 dX12_notes_44 ?_
        refine z_lts (fun s7 => ?_)
        exact z_ls [0] rfl (hj2 s7)
      · intro K6 hK6
        refine z_ls [1, 0] rfl ?_
        refine (fx_P (F := l_m_notes_11 K6) (b := (fun _ _ => none)) (fun rc10 => ∀ (s8 : Sto) (v1_9 : Int32), ZR G X (EM o L) pvV psV 2 s8 [(0, .ref (ad G 17 0)), (1, .int v1_9)] [] 11 (rc10 s8 v1_9)) ?_ ?_ 1000) s (0 : Int32)
        · intro s8 v1_9; exact z_none
        · intro rc10 hrc10 s8 v1_9
          unfold l_m_notes_11
          refine z_iload_n (pc := 11) hX dX12_notes_11 rfl 1 rfl ?_
          refine z_bipush (pc := 12) hX dX12_notes_12 bp_35 ?_
          refine z_icmp_ge (pc := 14) (tgt := 37) hX dX12_notes_14 rfl ?_ ?_
          · exact z_ls [0] rfl (hK6 s8)
          · refine z_aload_n (pc := 17) hX dX12_notes_17 rfl 0 rfl ?_
            refine gr_17_26M (pc := 18) hX q_838 dX12_notes_18 ?_
            refine z_iload_n (pc := 21) hX dX12_notes_21 rfl 1 rfl ?_
            refine z_aload_n (pc := 22) hX dX12_notes_22 rfl 0 rfl ?_
            refine gr_17_26M (pc := 23) hX q_838 dX12_notes_23 ?_
            refine z_iload_n (pc := 26) hX dX12_notes_26 rfl 1 rfl ?_
            refine z_iconst (pc := 27) hX dX12_notes_27 ic_5 ?_
            refine z_iadd (pc := 28) hX dX12_notes_28 ?_
            refine ia_30M (pc := 29) hX dX12_notes_29 ?_
            refine is_30M (pc := 30) hX dX12_notes_30 ?_
            refine z_lts (fun s11 => ?_)
            refine z_iinc (pc := 31) (n := 1) (v := v1_9 + (1 : Int32)) (ls' := [(1, .int (v1_9 + (1 : Int32))), (0, .ref (ad G 17 0))]) hX dX12_notes_31 rfl (by rw [show Int32.ofInt (1) = 1 by decide +kernel]) (by decide) rfl ?_
            refine z_goto (pc := 34) (tgt := 11) hX dX12_notes_34 rfl ?_
            exact z_ls [1, 0] rfl (hrc10 s11 (v1_9 + (1 : Int32)))
