theorem hd_X1_append : yX1_append.cls ≠ "java/lang/invoke/MethodHandle" ∧ yX1_append.cls ≠ "java/lang/invoke/VarHandle" ∧ (parseMethodDescriptor yX1_append.desc).map (fun d => d.parameters.length) = some 1 := by decide +kernel
def f_Tx_append (s : Sto) (x1 : Int32) : Option (Sto) :=
  if (s 5 0 1) < (150 : Int32) then if inb (s 5 0 1) 150 then lt (st s 16 0 (ix (s 5 0 1)) x1) (fun s1 => lt (st s1 5 0 1 ((s1 5 0 1) + (1 : Int32))) (fun s2 => some s2)) else none else some s
set_option maxRecDepth 100000 in
set_option maxHeartbeats 4000000 in
theorem c_Tx_append {G : Gb} {l : Launch} {o : Sto} {L : Lng} (hG : GA G) (s : Sto) (x1 : Int32)  : CT G l (EC o L) pvV psV yX1_append cX1_append 2 none 0 0 [.ref (ad G 5 0), .int x1] s (f_Tx_append s x1) := by
  refine CT.of hG (by decide) (Nat.le_of_ble_eq_true rfl) (fun X hX => ?_)
  have hX : OX G X l cX1_append 2 "CrownTwo$CourtText" none 0 0 := hX
  show ZR G X (EC o L) pvV psV 2 s [(0, .ref (ad G 5 0)), (1, .int x1)] [] 0 _
  unfold f_Tx_append
  refine z_aload_n (pc := 0) hX dX1_append_0 rfl 0 rfl ?_
  refine gf_5_1C (pc := 1) hX q_36 dX1_append_1 ?_
  refine z_sipush (pc := 4) hX dX1_append_4 sp_150 ?_
  refine z_icmp_lt (pc := 7) (tgt := 11) hX dX1_append_7 rfl ?_ ?_
  · refine z_aload_n (pc := 11) hX dX1_append_11 rfl 0 rfl ?_
    refine gr_5_0C (pc := 12) hX q_35 dX1_append_12 ?_
    refine z_aload_n (pc := 15) hX dX1_append_15 rfl 0 rfl ?_
    refine gf_5_1C (pc := 16) hX q_36 dX1_append_16 ?_
    refine z_iload_n (pc := 19) hX dX1_append_19 rfl 1 rfl ?_
    refine is_16C (pc := 20) hX dX1_append_20 ?_
    refine z_lts (fun s1 => ?_)
    refine z_aload_n (pc := 21) hX dX1_append_21 rfl 0 rfl ?_
    refine z_dup (pc := 22) hX dX1_append_22 rfl ?_
    refine gf_5_1C (pc := 23) hX q_36 dX1_append_23 ?_
    refine z_iconst (pc := 26) hX dX1_append_26 ic_1 ?_
    refine z_iadd (pc := 27) hX dX1_append_27 ?_
    refine pf_5_1C (pc := 28) hX q_36 dX1_append_28 ?_
    refine z_lts (fun s2 => ?_)
    exact z_retV (pc := 31) hX dX1_append_31
  · exact z_retV (pc := 10) hX dX1_append_10
theorem hd_X1_sortAt : yX1_sortAt.cls ≠ "java/lang/invoke/MethodHandle" ∧ yX1_sortAt.cls ≠ "java/lang/invoke/VarHandle" ∧ (parseMethodDescriptor yX1_sortAt.desc).map (fun d => d.parameters.length) = some 1 := by decide +kernel
def f_Tx_sortAt (s : Sto) (x1 : Int32) : Option (Int32) :=
  if x1 < (s 5 0 1) then if inb x1 150 then lt (s 16 0 (ix x1)) (fun v2_1 => jn (jn (if v2_1 = (59 : Int32) then some (3 : Int32) else some (4 : Int32)) (fun j3 => if v2_1 < (48 : Int32) then j3 else if (57 : Int32) < v2_1 then j3 else some (2 : Int32))) (fun j2 => if v2_1 < (97 : Int32) then j2 else if (122 : Int32) < v2_1 then j2 else some (1 : Int32))) else none else some (0 : Int32)
set_option maxRecDepth 100000 in
set_option maxHeartbeats 4000000 in
theorem c_Tx_sortAt {G : Gb} {l : Launch} {o : Sto} {L : Lng} (hG : GA G) (s : Sto) (x1 : Int32)  : CT G l (EC o L) pvP (psP s) yX1_sortAt cX1_sortAt 3 (some .int) 0 0 [.ref (ad G 5 0), .int x1] s (f_Tx_sortAt s x1) := by
  refine CT.of hG (by decide) (Nat.le_of_ble_eq_true rfl) (fun X hX => ?_)
  have hX : OX G X l cX1_sortAt 3 "CrownTwo$CourtText" (some .int) 0 0 := hX
  show ZR G X (EC o L) pvP (psP s) 3 s [(0, .ref (ad G 5 0)), (1, .int x1)] [] 0 _
  unfold f_Tx_sortAt
  refine z_iload_n (pc := 0) hX dX1_sortAt_0 rfl 1 rfl ?_
  refine z_aload_n (pc := 1) hX dX1_sortAt_1 rfl 0 rfl ?_
  refine gf_5_1C (pc := 2) hX q_36 dX1_sortAt_2 ?_
  refine z_icmp_lt (pc := 5) (tgt := 10) hX dX1_sortAt_5 rfl ?_ ?_
  · refine z_aload_n (pc := 10) hX dX1_sortAt_10 rfl 0 rfl ?_
    refine gr_5_0C (pc := 11) hX q_35 dX1_sortAt_11 ?_
    refine z_iload_n (pc := 14) hX dX1_sortAt_14 rfl 1 rfl ?_
    refine ia_16C (pc := 15) hX dX1_sortAt_15 ?_
    refine z_lti (pc := 16) (fun v2_1 => ?_)
    refine z_istore_n (pc := 16) (ls' := [(2, .int v2_1), (0, .ref (ad G 5 0)), (1, .int x1)]) hX dX1_sortAt_16 rfl (by decide) rfl ?_
    refine z_iload_n (pc := 17) hX dX1_sortAt_17 rfl 0 rfl ?_
    refine z_bipush (pc := 18) hX dX1_sortAt_18 bp_97 ?_
    refine z_jn (P := fun j2 => ZR G X (EC o L) pvP (psP s) 3 s [(2, .int v2_1)] [] 31 (j2)) ?_ ?_
    · skip
      refine z_iload_n (pc := 31) hX dX1_sortAt_31 rfl 0 rfl ?_
      refine z_bipush (pc := 32) hX dX1_sortAt_32 bp_48 ?_
      refine z_jn (P := fun j3 => ZR G X (EC o L) pvP (psP s) 3 s [(2, .int v2_1)] [] 45 (j3)) ?_ ?_
      · skip
        refine z_iload_n (pc := 45) hX dX1_sortAt_45 rfl 0 rfl ?_
        refine z_bipush (pc := 46) hX dX1_sortAt_46 bp_59 ?_
        refine z_icmp_ne (pc := 48) (tgt := 55) hX dX1_sortAt_48 rfl ?_ ?_
        · refine z_iconst (pc := 55) hX dX1_sortAt_55 ic_4 ?_
          exact z_retP (pc := 56) hX dX1_sortAt_56
        · refine z_iconst (pc := 51) hX dX1_sortAt_51 ic_3 ?_
          refine z_goto (pc := 52) (tgt := 56) hX dX1_sortAt_52 rfl ?_
          exact z_retP (pc := 56) hX dX1_sortAt_56
      · intro j3 hj3
        refine z_icmp_lt (pc := 34) (tgt := 45) hX dX1_sortAt_34 rfl ?_ ?_
        · exact z_ls [0] rfl (hj3)
        · refine z_iload_n (pc := 37) hX dX1_sortAt_37 rfl 0 rfl ?_
          refine z_bipush (pc := 38) hX dX1_sortAt_38 bp_57 ?_
          refine z_icmp_gt (pc := 40) (tgt := 45) hX dX1_sortAt_40 rfl ?_ ?_
          · exact z_ls [0] rfl (hj3)
          · refine z_iconst (pc := 43) hX dX1_sortAt_43 ic_2 ?_
            exact z_retP (pc := 44) hX dX1_sortAt_44
    · intro j2 hj2
      refine z_icmp_lt (pc := 20) (tgt := 31) hX dX1_sortAt_20 rfl ?_ ?_
      · exact z_ls [0] rfl (hj2)
      · refine z_iload_n (pc := 23) hX dX1_sortAt_23 rfl 0 rfl ?_
        refine z_bipush (pc := 24) hX dX1_sortAt_24 bp_122 ?_
        refine z_icmp_gt (pc := 26) (tgt := 31) hX dX1_sortAt_26 rfl ?_ ?_
        · exact z_ls [0] rfl (hj2)
        · refine z_iconst (pc := 29) hX dX1_sortAt_29 ic_1 ?_
          exact z_retP (pc := 30) hX dX1_sortAt_30
  · refine z_iconst (pc := 8) hX dX1_sortAt_8 ic_0 ?_
    exact z_retP (pc := 9) hX dX1_sortAt_9
theorem hd_X1_advance : yX1_advance.cls ≠ "java/lang/invoke/MethodHandle" ∧ yX1_advance.cls ≠ "java/lang/invoke/VarHandle" ∧ (parseMethodDescriptor yX1_advance.desc).map (fun d => d.parameters.length) = some 0 := by decide +kernel
def l_Tx_advance_115 (K9 : Sto → Option (Sto)) (rc12 : Sto → Option (Sto)) (s11 : Sto) : Option (Sto) :=
  if (s11 5 0 1) ≤ (s11 5 0 3) then K9 s11 else bP (f_Tx_sortAt s11 (s11 5 0 3)) (fun r13 => if r13 = (2 : Int32) then if inb (s11 5 0 3) 150 then lt (st s11 5 0 5 ((((10 : Int32) * (s11 5 0 5)) + (s11 16 0 (ix (s11 5 0 3)))) - (48 : Int32))) (fun s14 => lt (st s14 5 0 3 ((s14 5 0 3) + (1 : Int32))) (fun s15 => rc12 s15)) else none else K9 s11)
def l_Tx_advance_71  (rc17 : Sto → Option (Sto)) (s16 : Sto) : Option (Sto) :=
  if (s16 5 0 1) ≤ (s16 5 0 3) then some s16 else bP (f_Tx_sortAt s16 (s16 5 0 3)) (fun r18 => if r18 = (1 : Int32) then lt (st s16 5 0 3 ((s16 5 0 3) + (1 : Int32))) (fun s19 => rc17 s19) else some s16)
def l_Tx_advance_0 (K2 : Sto → Option (Sto)) (rc21 : Sto → Option (Sto)) (s20 : Sto) : Option (Sto) :=
  if (s20 5 0 1) ≤ (s20 5 0 3) then K2 s20 else if inb (s20 5 0 3) 150 then if (s20 16 0 (ix (s20 5 0 3))) = (32 : Int32) then lt (st s20 5 0 3 ((s20 5 0 3) + (1 : Int32))) (fun s22 => rc21 s22) else K2 s20 else none
def f_Tx_advance (s : Sto)  : Option (Sto) :=
  jn (fun s1 => lt (st s1 5 0 2 (s1 5 0 3)) (fun s3 => bP (f_Tx_sortAt s3 (s3 5 0 2)) (fun r4 => lt (st s3 5 0 4 r4) (fun s5 => lt (st s5 5 0 5 (0 : Int32)) (fun s6 => if (s6 5 0 4) = (1 : Int32) then fx 1000 (l_Tx_advance_71) (fun _ => none) s6 else if (s6 5 0 4) = (2 : Int32) then jn (fun s8 => if ((s8 5 0 3) - (s8 5 0 2)) ≤ (2 : Int32) then some s8 else lt (st s8 5 0 4 (4 : Int32)) (fun s10 => some s10)) (fun K9 => fx 1000 (l_Tx_advance_115 K9) (fun _ => none) s6) else if (s6 5 0 4) = (0 : Int32) then some s6 else lt (st s6 5 0 3 ((s6 5 0 3) + (1 : Int32))) (fun s7 => some s7)))))) (fun K2 => fx 1000 (l_Tx_advance_0 K2) (fun _ => none) s)
set_option maxRecDepth 100000 in
set_option maxHeartbeats 4000000 in
theorem c_Tx_advance {G : Gb} {l : Launch} {o : Sto} {L : Lng} (hG : GA G) (s : Sto)   : CT G l (EC o L) pvV psV yX1_advance cX1_advance 1 none 1 22 [.ref (ad G 5 0)] s (f_Tx_advance s) := by
  refine CT.of hG (by decide) (Nat.le_of_ble_eq_true rfl) (fun X hX => ?_)
  have hX : OX G X l cX1_advance 1 "CrownTwo$CourtText" none 1 22 := hX
  show ZR G X (EC o L) pvV psV 1 s [(0, .ref (ad G 5 0))] [] 0 _
  unfold f_Tx_advance
  refine z_jn (P := fun K2 => ∀ (s1 : Sto), ZR G X (EC o L) pvV psV 1 s1 [(0, .ref (ad G 5 0))] [] 38 (K2 s1)) ?_ ?_
  · intro s1
    refine z_aload_n (pc := 38) hX dX1_advance_38 rfl 0 rfl ?_
    refine z_aload_n (pc := 39) hX dX1_advance_39 rfl 0 rfl ?_
    refine gf_5_3C (pc := 40) hX q_40 dX1_advance_40 ?_
    refine pf_5_2C (pc := 43) hX q_38 dX1_advance_43 ?_
    refine z_lts (fun s3 => ?_)
    refine z_aload_n (pc := 46) hX dX1_advance_46 rfl 0 rfl ?_
    refine z_aload_n (pc := 47) hX dX1_advance_47 rfl 0 rfl ?_
    refine z_aload_n (pc := 48) hX dX1_advance_48 rfl 0 rfl ?_
    refine gf_5_2C (pc := 49) hX q_38 dX1_advance_49 ?_
    refine z_rP (run_V (pc := 52) (As := [.int (s3 5 0 2)]) hX rc_5 ⟨q_340, q_343, q_2⟩ q_342 qs_3 hd_X1_sortAt ⟨Nat.le_of_ble_eq_true rfl, Nat.le_of_ble_eq_true rfl⟩ (c_Tx_sortAt hG s3 (s3 5 0 2)) rfl rfl (Nat.le_of_ble_eq_true rfl) dX1_advance_52) (fun r4 => ?_)
    refine pf_5_4C (pc := 55) hX q_41 dX1_advance_55 ?_
    refine z_lts (fun s5 => ?_)
    refine z_aload_n (pc := 58) hX dX1_advance_58 rfl 0 rfl ?_
    refine z_iconst (pc := 59) hX dX1_advance_59 ic_0 ?_
    refine pf_5_5C (pc := 60) hX q_42 dX1_advance_60 ?_
    refine z_lts (fun s6 => ?_)
    refine z_aload_n (pc := 63) hX dX1_advance_63 rfl 0 rfl ?_
    refine gf_5_4C (pc := 64) hX q_41 dX1_advance_64 ?_
    refine z_iconst (pc := 67) hX dX1_advance_67 ic_1 ?_
    refine z_icmp_ne (pc := 68) (tgt := 107) hX dX1_advance_68 rfl ?_ ?_
    · refine z_aload_n (pc := 107) hX dX1_advance_107 rfl 0 rfl ?_
      refine gf_5_4C (pc := 108) hX q_41 dX1_advance_108 ?_
      refine z_iconst (pc := 111) hX dX1_advance_111 ic_2 ?_
      refine z_icmp_ne (pc := 112) (tgt := 196) hX dX1_advance_112 rfl ?_ ?_
      · refine z_aload_n (pc := 196) hX dX1_advance_196 rfl 0 rfl ?_
        refine gf_5_4C (pc := 197) hX q_41 dX1_advance_197 ?_
        refine z_if_eq (pc := 200) (tgt := 213) hX dX1_advance_200 rfl ?_ ?_
        · exact z_retV (pc := 213) hX dX1_advance_213
        · refine z_aload_n (pc := 203) hX dX1_advance_203 rfl 0 rfl ?_
          refine z_dup (pc := 204) hX dX1_advance_204 rfl ?_
          refine gf_5_3C (pc := 205) hX q_40 dX1_advance_205 ?_
          refine z_iconst (pc := 208) hX dX1_advance_208 ic_1 ?_
          refine z_iadd (pc := 209) hX dX1_advance_209 ?_
          refine pf_5_3C (pc := 210) hX q_40 dX1_advance_210 ?_
          refine z_lts (fun s7 => ?_)
          exact z_retV (pc := 213) hX dX1_advance_213
      · refine z_jn (P := fun K9 => ∀ (s8 : Sto), ZR G X (EC o L) pvV psV 1 s8 [(0, .ref (ad G 5 0))] [] 175 (K9 s8)) ?_ ?_
        · intro s8
          refine z_aload_n (pc := 175) hX dX1_advance_175 rfl 0 rfl ?_
          refine gf_5_3C (pc := 176) hX q_40 dX1_advance_176 ?_
          refine z_aload_n (pc := 179) hX dX1_advance_179 rfl 0 rfl ?_
          refine gf_5_2C (pc := 180) hX q_38 dX1_advance_180 ?_
          refine z_isub (pc := 183) hX dX1_advance_183 ?_
          refine z_iconst (pc := 184) hX dX1_advance_184 ic_2 ?_
          refine z_icmp_le (pc := 185) (tgt := 213) hX dX1_advance_185 rfl ?_ ?_
          · exact z_retV (pc := 213) hX dX1_advance_213
          · refine z_aload_n (pc := 188) hX dX1_advance_188 rfl 0 rfl ?_
            refine z_iconst (pc := 189) hX dX1_advance_189 ic_4 ?_
            refine pf_5_4C (pc := 190) hX q_41 dX1_advance_190 ?_
            refine z_lts (fun s10 => ?_)
            refine z_goto (pc := 193) (tgt := 213) hX dX1_advance_193 rfl ?_
            exact z_retV (pc := 213) hX dX1_advance_213
        · intro K9 hK9
          refine z_ls [0] rfl ?_
          refine (fx_P (F := l_Tx_advance_115 K9) (b := (fun _ => none)) (fun rc12 => ∀ (s11 : Sto), ZR G X (EC o L) pvV psV 1 s11 [(0, .ref (ad G 5 0))] [] 115 (rc12 s11)) ?_ ?_ 1000) s6
          · intro s11; exact z_none
          · intro rc12 hrc12 s11
            unfold l_Tx_advance_115
            refine z_aload_n (pc := 115) hX dX1_advance_115 rfl 0 rfl ?_
            refine gf_5_3C (pc := 116) hX q_40 dX1_advance_116 ?_
            refine z_aload_n (pc := 119) hX dX1_advance_119 rfl 0 rfl ?_
            refine gf_5_1C (pc := 120) hX q_36 dX1_advance_120 ?_
            refine z_icmp_ge (pc := 123) (tgt := 175) hX dX1_advance_123 rfl ?_ ?_
            · exact z_ls [0] rfl (hK9 s11)
            · refine z_aload_n (pc := 126) hX dX1_advance_126 rfl 0 rfl ?_
              refine z_aload_n (pc := 127) hX dX1_advance_127 rfl 0 rfl ?_
              refine gf_5_3C (pc := 128) hX q_40 dX1_advance_128 ?_
              refine z_rP (run_V (pc := 131) (As := [.int (s11 5 0 3)]) hX rc_5 ⟨q_340, q_343, q_2⟩ q_342 qs_3 hd_X1_sortAt ⟨Nat.le_of_ble_eq_true rfl, Nat.le_of_ble_eq_true rfl⟩ (c_Tx_sortAt hG s11 (s11 5 0 3)) rfl rfl (Nat.le_of_ble_eq_true rfl) dX1_advance_131) (fun r13 => ?_)
              refine z_iconst (pc := 134) hX dX1_advance_134 ic_2 ?_
              refine z_icmp_ne (pc := 135) (tgt := 175) hX dX1_advance_135 rfl ?_ ?_
              · exact z_ls [0] rfl (hK9 s11)
              · refine z_aload_n (pc := 138) hX dX1_advance_138 rfl 0 rfl ?_
                refine z_bipush (pc := 139) hX dX1_advance_139 bp_10 ?_
                refine z_aload_n (pc := 141) hX dX1_advance_141 rfl 0 rfl ?_
                refine gf_5_5C (pc := 142) hX q_42 dX1_advance_142 ?_
                refine z_imul (pc := 145) hX dX1_advance_145 ?_
                refine z_aload_n (pc := 146) hX dX1_advance_146 rfl 0 rfl ?_
                refine gr_5_0C (pc := 147) hX q_35 dX1_advance_147 ?_
                refine z_aload_n (pc := 150) hX dX1_advance_150 rfl 0 rfl ?_
                refine gf_5_3C (pc := 151) hX q_40 dX1_advance_151 ?_
                refine ia_16C (pc := 154) hX dX1_advance_154 ?_
                refine z_iadd (pc := 155) hX dX1_advance_155 ?_
                refine z_bipush (pc := 156) hX dX1_advance_156 bp_48 ?_
                refine z_isub (pc := 158) hX dX1_advance_158 ?_
                refine pf_5_5C (pc := 159) hX q_42 dX1_advance_159 ?_
                refine z_lts (fun s14 => ?_)
                refine z_aload_n (pc := 162) hX dX1_advance_162 rfl 0 rfl ?_
                refine z_dup (pc := 163) hX dX1_advance_163 rfl ?_
                refine gf_5_3C (pc := 164) hX q_40 dX1_advance_164 ?_
                refine z_iconst (pc := 167) hX dX1_advance_167 ic_1 ?_
                refine z_iadd (pc := 168) hX dX1_advance_168 ?_
                refine pf_5_3C (pc := 169) hX q_40 dX1_advance_169 ?_
                refine z_lts (fun s15 => ?_)
                refine z_goto (pc := 172) (tgt := 115) hX dX1_advance_172 rfl ?_
                exact z_ls [0] rfl (hrc12 s15)
    · refine z_ls [0] rfl ?_
      refine (fx_P (F := l_Tx_advance_71) (b := (fun _ => none)) (fun rc17 => ∀ (s16 : Sto), ZR G X (EC o L) pvV psV 1 s16 [(0, .ref (ad G 5 0))] [] 71 (rc17 s16)) ?_ ?_ 1000) s6
      · intro s16; exact z_none
      · intro rc17 hrc17 s16
        unfold l_Tx_advance_71
        refine z_aload_n (pc := 71) hX dX1_advance_71 rfl 0 rfl ?_
        refine gf_5_3C (pc := 72) hX q_40 dX1_advance_72 ?_
        refine z_aload_n (pc := 75) hX dX1_advance_75 rfl 0 rfl ?_
        refine gf_5_1C (pc := 76) hX q_36 dX1_advance_76 ?_
        refine z_icmp_ge (pc := 79) (tgt := 213) hX dX1_advance_79 rfl ?_ ?_
        · exact z_retV (pc := 213) hX dX1_advance_213
        · refine z_aload_n (pc := 82) hX dX1_advance_82 rfl 0 rfl ?_
          refine z_aload_n (pc := 83) hX dX1_advance_83 rfl 0 rfl ?_
          refine gf_5_3C (pc := 84) hX q_40 dX1_advance_84 ?_
          refine z_rP (run_V (pc := 87) (As := [.int (s16 5 0 3)]) hX rc_5 ⟨q_340, q_343, q_2⟩ q_342 qs_3 hd_X1_sortAt ⟨Nat.le_of_ble_eq_true rfl, Nat.le_of_ble_eq_true rfl⟩ (c_Tx_sortAt hG s16 (s16 5 0 3)) rfl rfl (Nat.le_of_ble_eq_true rfl) dX1_advance_87) (fun r18 => ?_)
          refine z_iconst (pc := 90) hX dX1_advance_90 ic_1 ?_
          refine z_icmp_ne (pc := 91) (tgt := 213) hX dX1_advance_91 rfl ?_ ?_
          · exact z_retV (pc := 213) hX dX1_advance_213
          · refine z_aload_n (pc := 94) hX dX1_advance_94 rfl 0 rfl ?_
            refine z_dup (pc := 95) hX dX1_advance_95 rfl ?_
            refine gf_5_3C (pc := 96) hX q_40 dX1_advance_96 ?_
            refine z_iconst (pc := 99) hX dX1_advance_99 ic_1 ?_
            refine z_iadd (pc := 100) hX dX1_advance_100 ?_
            refine pf_5_3C (pc := 101) hX q_40 dX1_advance_101 ?_
            refine z_lts (fun s19 => ?_)
            refine z_goto (pc := 104) (tgt := 71) hX dX1_advance_104 rfl ?_
            exact z_ls [0] rfl (hrc17 s19)
  · intro K2 hK2
    refine z_ls [0] rfl ?_
    refine (fx_P (F := l_Tx_advance_0 K2) (b := (fun _ => none)) (fun rc21 => ∀ (s20 : Sto), ZR G X (EC o L) pvV psV 1 s20 [(0, .ref (ad G 5 0))] [] 0 (rc21 s20)) ?_ ?_ 1000) s
    · intro s20; exact z_none
    · intro rc21 hrc21 s20
      unfold l_Tx_advance_0
      refine z_aload_n (pc := 0) hX dX1_advance_0 rfl 0 rfl ?_
      refine gf_5_3C (pc := 1) hX q_40 dX1_advance_1 ?_
      refine z_aload_n (pc := 4) hX dX1_advance_4 rfl 0 rfl ?_
      refine gf_5_1C (pc := 5) hX q_36 dX1_advance_5 ?_
      refine z_icmp_ge (pc := 8) (tgt := 38) hX dX1_advance_8 rfl ?_ ?_
      · exact z_ls [0] rfl (hK2 s20)
      · refine z_aload_n (pc := 11) hX dX1_advance_11 rfl 0 rfl ?_
        refine gr_5_0C (pc := 12) hX q_35 dX1_advance_12 ?_
        refine z_aload_n (pc := 15) hX dX1_advance_15 rfl 0 rfl ?_
        refine gf_5_3C (pc := 16) hX q_40 dX1_advance_16 ?_
        refine ia_16C (pc := 19) hX dX1_advance_19 ?_
        refine z_bipush (pc := 20) hX dX1_advance_20 bp_32 ?_
        refine z_icmp_ne (pc := 22) (tgt := 38) hX dX1_advance_22 rfl ?_ ?_
        · exact z_ls [0] rfl (hK2 s20)
        · refine z_aload_n (pc := 25) hX dX1_advance_25 rfl 0 rfl ?_
          refine z_dup (pc := 26) hX dX1_advance_26 rfl ?_
          refine gf_5_3C (pc := 27) hX q_40 dX1_advance_27 ?_
          refine z_iconst (pc := 30) hX dX1_advance_30 ic_1 ?_
          refine z_iadd (pc := 31) hX dX1_advance_31 ?_
          refine pf_5_3C (pc := 32) hX q_40 dX1_advance_32 ?_
          refine z_lts (fun s22 => ?_)
          refine z_goto (pc := 35) (tgt := 0) hX dX1_advance_35 rfl ?_
          exact z_ls [0] rfl (hrc21 s22)
theorem hd_X1_takeNumber : yX1_takeNumber.cls ≠ "java/lang/invoke/MethodHandle" ∧ yX1_takeNumber.cls ≠ "java/lang/invoke/VarHandle" ∧ (parseMethodDescriptor yX1_takeNumber.desc).map (fun d => d.parameters.length) = some 2 := by decide +kernel
def f_Tx_takeNumber (s : Sto) (x1 : Int32) (x2 : Int32) : Option (Int32 × Sto) :=
  if (s 5 0 4) = (2 : Int32) then if x1 < (s 5 0 5) then some ((-1 : Int32), s) else if (s 5 0 5) = x2 then some ((-1 : Int32), s) else lt (s 5 0 5) (fun v3_1 => bV (f_Tx_advance s) (fun s2 => some (v3_1, s2))) else some ((-1 : Int32), s)
set_option maxRecDepth 100000 in
set_option maxHeartbeats 4000000 in
theorem c_Tx_takeNumber {G : Gb} {l : Launch} {o : Sto} {L : Lng} (hG : GA G) (s : Sto) (x1 : Int32) (x2 : Int32)  : CT G l (EC o L) pvI psI yX1_takeNumber cX1_takeNumber 4 (some .int) 2 42 [.ref (ad G 5 0), .int x1, .int x2] s (f_Tx_takeNumber s x1 x2) := by
  refine CT.of hG (by decide) (Nat.le_of_ble_eq_true rfl) (fun X hX => ?_)
  have hX : OX G X l cX1_takeNumber 4 "CrownTwo$CourtText" (some .int) 2 42 := hX
  show ZR G X (EC o L) pvI psI 4 s [(0, .ref (ad G 5 0)), (1, .int x1), (2, .int x2)] [] 0 _
  unfold f_Tx_takeNumber
  refine z_aload_n (pc := 0) hX dX1_takeNumber_0 rfl 0 rfl ?_
  refine gf_5_4C (pc := 1) hX q_41 dX1_takeNumber_1 ?_
  refine z_iconst (pc := 4) hX dX1_takeNumber_4 ic_2 ?_
  refine z_icmp_ne (pc := 5) (tgt := 24) hX dX1_takeNumber_5 rfl ?_ ?_
  · refine z_iconst (pc := 24) hX dX1_takeNumber_24 ic_m1 ?_
    exact z_retI (pc := 25) hX dX1_takeNumber_25
  · refine z_aload_n (pc := 8) hX dX1_takeNumber_8 rfl 0 rfl ?_
    refine gf_5_5C (pc := 9) hX q_42 dX1_takeNumber_9 ?_
    refine z_iload_n (pc := 12) hX dX1_takeNumber_12 rfl 1 rfl ?_
    refine z_icmp_gt (pc := 13) (tgt := 24) hX dX1_takeNumber_13 rfl ?_ ?_
    · refine z_iconst (pc := 24) hX dX1_takeNumber_24 ic_m1 ?_
      exact z_retI (pc := 25) hX dX1_takeNumber_25
    · refine z_aload_n (pc := 16) hX dX1_takeNumber_16 rfl 0 rfl ?_
      refine gf_5_5C (pc := 17) hX q_42 dX1_takeNumber_17 ?_
      refine z_iload_n (pc := 20) hX dX1_takeNumber_20 rfl 2 rfl ?_
      refine z_icmp_ne (pc := 21) (tgt := 26) hX dX1_takeNumber_21 rfl ?_ ?_
      · refine z_aload_n (pc := 26) hX dX1_takeNumber_26 rfl 0 rfl ?_
        refine gf_5_5C (pc := 27) hX q_42 dX1_takeNumber_27 ?_
        refine z_lti (pc := 30) (fun v3_1 => ?_)
        refine z_istore_n (pc := 30) (ls' := [(3, .int v3_1), (0, .ref (ad G 5 0)), (1, .int x1), (2, .int x2)]) hX dX1_takeNumber_30 rfl (by decide) rfl ?_
        refine z_aload_n (pc := 31) hX dX1_takeNumber_31 rfl 1 rfl ?_
        refine z_rV (run_V (pc := 32) (As := []) hX rc_5 ⟨q_336, q_339, q_2⟩ q_338 qs_2 hd_X1_advance ⟨Nat.le_of_ble_eq_true rfl, Nat.le_of_ble_eq_true rfl⟩ (c_Tx_advance hG s) rfl rfl (Nat.le_of_ble_eq_true rfl) dX1_takeNumber_32) (fun s2 => ?_)
        refine z_iload_n (pc := 35) hX dX1_takeNumber_35 rfl 0 rfl ?_
        exact z_retI (pc := 36) hX dX1_takeNumber_36
      · refine z_iconst (pc := 24) hX dX1_takeNumber_24 ic_m1 ?_
        exact z_retI (pc := 25) hX dX1_takeNumber_25
theorem hd_X1_takeEnding : yX1_takeEnding.cls ≠ "java/lang/invoke/MethodHandle" ∧ yX1_takeEnding.cls ≠ "java/lang/invoke/VarHandle" ∧ (parseMethodDescriptor yX1_takeEnding.desc).map (fun d => d.parameters.length) = some 0 := by decide +kernel
def f_Tx_takeEnding (s : Sto)  : Option (Int32 × Sto) :=
  if (s 5 0 4) = (3 : Int32) then bV (f_Tx_advance s) (fun s1 => some ((1 : Int32), s1)) else some ((0 : Int32), s)
set_option maxRecDepth 100000 in
set_option maxHeartbeats 4000000 in
theorem c_Tx_takeEnding {G : Gb} {l : Launch} {o : Sto} {L : Lng} (hG : GA G) (s : Sto)   : CT G l (EC o L) pvI psI yX1_takeEnding cX1_takeEnding 1 (some .boolean) 2 42 [.ref (ad G 5 0)] s (f_Tx_takeEnding s) := by
  refine CT.of hG (by decide) (Nat.le_of_ble_eq_true rfl) (fun X hX => ?_)
  have hX : OX G X l cX1_takeEnding 1 "CrownTwo$CourtText" (some .boolean) 2 42 := hX
  show ZR G X (EC o L) pvI psI 1 s [(0, .ref (ad G 5 0))] [] 0 _
  unfold f_Tx_takeEnding
  refine z_aload_n (pc := 0) hX dX1_takeEnding_0 rfl 0 rfl ?_
  refine gf_5_4C (pc := 1) hX q_41 dX1_takeEnding_1 ?_
  refine z_iconst (pc := 4) hX dX1_takeEnding_4 ic_3 ?_
  refine z_icmp_eq (pc := 5) (tgt := 10) hX dX1_takeEnding_5 rfl ?_ ?_
  · refine z_aload_n (pc := 10) hX dX1_takeEnding_10 rfl 0 rfl ?_
    refine z_rV (run_V (pc := 11) (As := []) hX rc_5 ⟨q_336, q_339, q_2⟩ q_338 qs_2 hd_X1_advance ⟨Nat.le_of_ble_eq_true rfl, Nat.le_of_ble_eq_true rfl⟩ (c_Tx_advance hG s) rfl rfl (Nat.le_of_ble_eq_true rfl) dX1_takeEnding_11) (fun s1 => ?_)
    refine z_iconst (pc := 14) hX dX1_takeEnding_14 ic_1 ?_
    exact z_retIc (pc := 15) hX dX1_takeEnding_15 (by decide)
  · refine z_iconst (pc := 8) hX dX1_takeEnding_8 ic_0 ?_
    exact z_retIc (pc := 9) hX dX1_takeEnding_9 (by decide)
theorem hd_X1_heirItem : yX1_heirItem.cls ≠ "java/lang/invoke/MethodHandle" ∧ yX1_heirItem.cls ≠ "java/lang/invoke/VarHandle" ∧ (parseMethodDescriptor yX1_heirItem.desc).map (fun d => d.parameters.length) = some 1 := by decide +kernel
def f_Tx_heirItem (s : Sto) (i1 : Nat) : Option (Int32 × Sto) :=
  if (s 1 i1 5) < (6 : Int32) then bV (f_Tx_advance s) (fun s1 => bI (f_Tx_takeNumber s1 (5 : Int32) (-1 : Int32)) (fun r2 s3 => if r2 = (-1 : Int32) then some ((0 : Int32), s3) else bI (f_Tx_takeNumber s3 (20 : Int32) (-1 : Int32)) (fun r4 s5 => if r4 = (-1 : Int32) then some ((0 : Int32), s5) else bI (f_Co_admit s5 i1 r2 (0 : Int32) (0 : Int32) r4) (fun r6 s7 => bI (f_Tx_takeEnding s7) (fun r8 s9 => if r8 = (0 : Int32) ∨ r8 = (1 : Int32) then some (r8, s9) else none))))) else some ((0 : Int32), s)
set_option maxRecDepth 100000 in
set_option maxHeartbeats 4000000 in
theorem c_Tx_heirItem {G : Gb} {l : Launch} {o : Sto} {L : Lng} (hG : GA G) (s : Sto) (i1 : Nat) (h1 : V 1 i1) : CT G l (EC o L) pvI psI yX1_heirItem cX1_heirItem 4 (some .boolean) 3 65 [.ref (ad G 5 0), .ref (ad G 1 i1)] s (f_Tx_heirItem s i1) := by
  refine CT.of hG (by decide) (Nat.le_of_ble_eq_true rfl) (fun X hX => ?_)
  have hX : OX G X l cX1_heirItem 4 "CrownTwo$CourtText" (some .boolean) 3 65 := hX
  show ZR G X (EC o L) pvI psI 4 s [(0, .ref (ad G 5 0)), (1, .ref (ad G 1 i1))] [] 0 _
  unfold f_Tx_heirItem
  refine z_aload_n (pc := 0) hX dX1_heirItem_0 rfl 1 rfl ?_
  refine gf_1_5C (pc := 1) hX h1 q_212 dX1_heirItem_1 ?_
  refine z_bipush (pc := 4) hX dX1_heirItem_4 bp_6 ?_
  refine z_icmp_lt (pc := 6) (tgt := 11) hX dX1_heirItem_6 rfl ?_ ?_
  · refine z_aload_n (pc := 11) hX dX1_heirItem_11 rfl 0 rfl ?_
    refine z_rV (run_V (pc := 12) (As := []) hX rc_5 ⟨q_336, q_339, q_2⟩ q_338 qs_2 hd_X1_advance ⟨Nat.le_of_ble_eq_true rfl, Nat.le_of_ble_eq_true rfl⟩ (c_Tx_advance hG s) rfl rfl (Nat.le_of_ble_eq_true rfl) dX1_heirItem_12) (fun s1 => ?_)
    refine z_aload_n (pc := 15) hX dX1_heirItem_15 rfl 0 rfl ?_
    refine z_iconst (pc := 16) hX dX1_heirItem_16 ic_5 ?_
    refine z_iconst (pc := 17) hX dX1_heirItem_17 ic_m1 ?_
    refine z_rI (run_V (pc := 18) (As := [.int (5 : Int32), .int (-1 : Int32)]) hX rc_5 ⟨q_401, q_404, q_2⟩ q_403 qs_6 hd_X1_takeNumber ⟨Nat.le_of_ble_eq_true rfl, Nat.le_of_ble_eq_true rfl⟩ (c_Tx_takeNumber hG s1 (5 : Int32) (-1 : Int32)) rfl rfl (Nat.le_of_ble_eq_true rfl) dX1_heirItem_18) (fun r2 s3 => ?_)
    refine z_istore_n (pc := 21) (ls' := [(2, .int r2), (0, .ref (ad G 5 0)), (1, .ref (ad G 1 i1))]) hX dX1_heirItem_21 rfl (by decide) rfl ?_
    refine z_iload_n (pc := 22) hX dX1_heirItem_22 rfl 0 rfl ?_
    refine z_iconst (pc := 23) hX dX1_heirItem_23 ic_m1 ?_
    refine z_icmp_ne (pc := 24) (tgt := 29) hX dX1_heirItem_24 rfl ?_ ?_
    · refine z_aload_n (pc := 29) hX dX1_heirItem_29 rfl 1 rfl ?_
      refine z_bipush (pc := 30) hX dX1_heirItem_30 bp_20 ?_
      refine z_iconst (pc := 32) hX dX1_heirItem_32 ic_m1 ?_
      refine z_rI (run_V (pc := 33) (As := [.int (20 : Int32), .int (-1 : Int32)]) hX rc_5 ⟨q_401, q_404, q_2⟩ q_403 qs_6 hd_X1_takeNumber ⟨Nat.le_of_ble_eq_true rfl, Nat.le_of_ble_eq_true rfl⟩ (c_Tx_takeNumber hG s3 (20 : Int32) (-1 : Int32)) rfl rfl (Nat.le_of_ble_eq_true rfl) dX1_heirItem_33) (fun r4 s5 => ?_)
      refine z_istore_n (pc := 36) (ls' := [(3, .int r4), (2, .int r2), (0, .ref (ad G 5 0)), (1, .ref (ad G 1 i1))]) hX dX1_heirItem_36 rfl (by decide) rfl ?_
      refine z_iload_n (pc := 37) hX dX1_heirItem_37 rfl 0 rfl ?_
      refine z_iconst (pc := 38) hX dX1_heirItem_38 ic_m1 ?_
      refine z_icmp_ne (pc := 39) (tgt := 44) hX dX1_heirItem_39 rfl ?_ ?_
      · refine z_aload_n (pc := 44) hX dX1_heirItem_44 rfl 3 rfl ?_
        refine z_iload_n (pc := 45) hX dX1_heirItem_45 rfl 1 rfl ?_
        refine z_iconst (pc := 46) hX dX1_heirItem_46 ic_0 ?_
        refine z_iconst (pc := 47) hX dX1_heirItem_47 ic_0 ?_
        refine z_iload_n (pc := 48) hX dX1_heirItem_48 rfl 0 rfl ?_
        refine z_rI (run_V (pc := 49) (As := [.int r2, .int (0 : Int32), .int (0 : Int32), .int r4]) hX (rc_1 h1) ⟨q_419, q_311, q_10⟩ q_309 q_310 hd_X0_admit ⟨Nat.le_of_ble_eq_true rfl, Nat.le_of_ble_eq_true rfl⟩ (c_Co_admit hG s5 i1 r2 (0 : Int32) (0 : Int32) r4 h1) rfl rfl (Nat.le_of_ble_eq_true rfl) dX1_heirItem_49) (fun r6 s7 => ?_)
        refine z_pop (pc := 52) hX dX1_heirItem_52 rfl ?_
        refine z_aload_n (pc := 53) hX dX1_heirItem_53 rfl 2 rfl ?_
        refine z_rI (run_V (pc := 54) (As := []) hX rc_5 ⟨q_406, q_409, q_2⟩ q_408 qs_7 hd_X1_takeEnding ⟨Nat.le_of_ble_eq_true rfl, Nat.le_of_ble_eq_true rfl⟩ (c_Tx_takeEnding hG s7) rfl rfl (Nat.le_of_ble_eq_true rfl) dX1_heirItem_54) (fun r8 s9 => ?_)
        exact z_retIz (pc := 57) hX dX1_heirItem_57
      · refine z_iconst (pc := 42) hX dX1_heirItem_42 ic_0 ?_
        exact z_retIc (pc := 43) hX dX1_heirItem_43 (by decide)
    · refine z_iconst (pc := 27) hX dX1_heirItem_27 ic_0 ?_
      exact z_retIc (pc := 28) hX dX1_heirItem_28 (by decide)
  · refine z_iconst (pc := 9) hX dX1_heirItem_9 ic_0 ?_
    exact z_retIc (pc := 10) hX dX1_heirItem_10 (by decide)
theorem hd_X1_heartItem : yX1_heartItem.cls ≠ "java/lang/invoke/MethodHandle" ∧ yX1_heartItem.cls ≠ "java/lang/invoke/VarHandle" ∧ (parseMethodDescriptor yX1_heartItem.desc).map (fun d => d.parameters.length) = some 2 := by decide +kernel
def l_Tx_heartItem_29 (K6 : Sto → Int32 → Option (Int32 × Sto)) (rc19 : Sto → Int32 → Int32 → Option (Int32 × Sto)) (s16 : Sto) (v4_17 : Int32) (v5_18 : Int32) : Option (Int32 × Sto) :=
  if (150 : Int32) ≤ v5_18 then K6 s16 v4_17 else if (s16 5 0 4) = (2 : Int32) then bI (f_Tx_takeNumber s16 (7 : Int32) (-1 : Int32)) (fun r20 s21 => if r20 = (-1 : Int32) then some ((0 : Int32), s21) else lt (v4_17 ||| ((1 : Int32) <<< (r20 &&& 31))) (fun v4_22 => rc19 s21 v4_22 (v5_18 + (1 : Int32)))) else K6 s16 v4_17
def f_Tx_heartItem (s : Sto) (i1 : Nat) (x2 : Int32) : Option (Int32 × Sto) :=
  bV (f_Tx_advance s) (fun s1 => bI (f_Tx_takeNumber s1 ((s1 1 i1 5) - (1 : Int32)) (-1 : Int32)) (fun r2 s3 => if r2 = (-1 : Int32) then some ((0 : Int32), s3) else jn (fun s4 v4_5 => if inb r2 6 then jn (fun t8 => if x2 = (0 : Int32) then bV (f_He_feel s4 (6 * i1 + ix r2) t8 v4_5) (fun s10 => bI (f_Tx_takeEnding s10) (fun r11 s12 => if r11 = (0 : Int32) ∨ r11 = (1 : Int32) then some (r11, s12) else none)) else bV (f_He_feel s4 (6 * i1 + ix r2) t8 (s4 2 (6 * i1 + ix r2) 2)) (fun s13 => bI (f_Tx_takeEnding s13) (fun r14 s15 => if r14 = (0 : Int32) ∨ r14 = (1 : Int32) then some (r14, s15) else none))) (fun j9 => if x2 = (0 : Int32) then j9 (s4 2 (6 * i1 + ix r2) 1) else j9 v4_5) else none) (fun K6 => fx 1000 (l_Tx_heartItem_29 K6) (fun _ _ _ => none) s3 (0 : Int32) (0 : Int32))))
set_option maxRecDepth 100000 in
set_option maxHeartbeats 4000000 in
theorem c_Tx_heartItem {G : Gb} {l : Launch} {o : Sto} {L : Lng} (hG : GA G) (s : Sto) (i1 : Nat) (x2 : Int32) (h1 : V 1 i1) : CT G l (EC o L) pvI psI yX1_heartItem cX1_heartItem 7 (some .boolean) 3 65 [.ref (ad G 5 0), .ref (ad G 1 i1), .int x2] s (f_Tx_heartItem s i1 x2) := by
  refine CT.of hG (by decide) (Nat.le_of_ble_eq_true rfl) (fun X hX => ?_)
  have hX : OX G X l cX1_heartItem 7 "CrownTwo$CourtText" (some .boolean) 3 65 := hX
  show ZR G X (EC o L) pvI psI 7 s [(0, .ref (ad G 5 0)), (1, .ref (ad G 1 i1)), (2, .int x2)] [] 0 _
  unfold f_Tx_heartItem
  refine z_aload_n (pc := 0) hX dX1_heartItem_0 rfl 0 rfl ?_
  refine z_rV (run_V (pc := 1) (As := []) hX rc_5 ⟨q_336, q_339, q_2⟩ q_338 qs_2 hd_X1_advance ⟨Nat.le_of_ble_eq_true rfl, Nat.le_of_ble_eq_true rfl⟩ (c_Tx_advance hG s) rfl rfl (Nat.le_of_ble_eq_true rfl) dX1_heartItem_1) (fun s1 => ?_)
  refine z_aload_n (pc := 4) hX dX1_heartItem_4 rfl 0 rfl ?_
  refine z_aload_n (pc := 5) hX dX1_heartItem_5 rfl 1 rfl ?_
  refine gf_1_5C (pc := 6) hX h1 q_212 dX1_heartItem_6 ?_
  refine z_iconst (pc := 9) hX dX1_heartItem_9 ic_1 ?_
  refine z_isub (pc := 10) hX dX1_heartItem_10 ?_
  refine z_iconst (pc := 11) hX dX1_heartItem_11 ic_m1 ?_
  refine z_rI (run_V (pc := 12) (As := [.int ((s1 1 i1 5) - (1 : Int32)), .int (-1 : Int32)]) hX rc_5 ⟨q_401, q_404, q_2⟩ q_403 qs_6 hd_X1_takeNumber ⟨Nat.le_of_ble_eq_true rfl, Nat.le_of_ble_eq_true rfl⟩ (c_Tx_takeNumber hG s1 ((s1 1 i1 5) - (1 : Int32)) (-1 : Int32)) rfl rfl (Nat.le_of_ble_eq_true rfl) dX1_heartItem_12) (fun r2 s3 => ?_)
  refine z_istore_n (pc := 15) (ls' := [(3, .int r2), (0, .ref (ad G 5 0)), (1, .ref (ad G 1 i1)), (2, .int x2)]) hX dX1_heartItem_15 rfl (by decide) rfl ?_
  refine z_iload_n (pc := 16) hX dX1_heartItem_16 rfl 0 rfl ?_
  refine z_iconst (pc := 17) hX dX1_heartItem_17 ic_m1 ?_
  refine z_icmp_ne (pc := 18) (tgt := 23) hX dX1_heartItem_18 rfl ?_ ?_
  · refine z_iconst (pc := 23) hX dX1_heartItem_23 ic_0 ?_
    refine z_istore (pc := 24) (ls' := [(4, .int (0 : Int32)), (3, .int r2), (0, .ref (ad G 5 0)), (1, .ref (ad G 1 i1)), (2, .int x2)]) hX dX1_heartItem_24 (by decide) rfl ?_
    refine z_iconst (pc := 26) hX dX1_heartItem_26 ic_0 ?_
    refine z_istore (pc := 27) (ls' := [(5, .int (0 : Int32)), (4, .int (0 : Int32)), (3, .int r2), (0, .ref (ad G 5 0)), (1, .ref (ad G 1 i1)), (2, .int x2)]) hX dX1_heartItem_27 (by decide) rfl ?_
    refine z_jn (P := fun K6 => ∀ (s4 : Sto) (v4_5 : Int32), ZR G X (EC o L) pvI psI 7 s4 [(0, .ref (ad G 5 0)), (1, .ref (ad G 1 i1)), (2, .int x2), (3, .int r2), (4, .int v4_5)] [] 77 (K6 s4 v4_5)) ?_ ?_
    · intro s4 v4_5
      refine z_aload_n (pc := 77) hX dX1_heartItem_77 rfl 1 rfl ?_
      refine gr_1_1C (pc := 78) hX h1 q_202 dX1_heartItem_78 ?_
      refine z_iload_n (pc := 81) hX dX1_heartItem_81 rfl 3 rfl ?_
      refine aa_8C (pc := 82) hX (vr_1_8 h1) dX1_heartItem_82 (fun hv7 => ?_)
      refine z_astore (pc := 83) (ls' := [(5, .ref (ad G 2 (6 * i1 + ix r2))), (0, .ref (ad G 5 0)), (1, .ref (ad G 1 i1)), (2, .int x2), (3, .int r2), (4, .int v4_5)]) hX dX1_heartItem_83 (by decide) rfl ?_
      refine z_aload (pc := 85) hX dX1_heartItem_85 0 rfl ?_
      refine z_iload_n (pc := 87) hX dX1_heartItem_87 rfl 3 rfl ?_
      refine z_jn (P := fun j9 => ∀ (t8 : Int32), ZR G X (EC o L) pvI psI 7 s4 [(0, .ref (ad G 5 0)), (2, .int x2), (4, .int v4_5), (5, .ref (ad G 2 (6 * i1 + ix r2)))] [.int t8, .ref (ad G 2 (6 * i1 + ix r2))] 101 (j9 t8)) ?_ ?_
      · intro t8
        refine z_iload_n (pc := 101) hX dX1_heartItem_101 rfl 1 rfl ?_
        refine z_if_eq (pc := 102) (tgt := 113) hX dX1_heartItem_102 rfl ?_ ?_
        · refine z_iload (pc := 113) hX dX1_heartItem_113 2 rfl ?_
          refine z_rV (run_V (pc := 115) (As := [.int t8, .int v4_5]) hX (rc_2 hv7) ⟨q_425, q_428, q_11⟩ q_426 q_427 hd_X3_feel ⟨Nat.le_of_ble_eq_true rfl, Nat.le_of_ble_eq_true rfl⟩ (c_He_feel hG s4 (6 * i1 + ix r2) t8 v4_5 hv7) rfl rfl (Nat.le_of_ble_eq_true rfl) dX1_heartItem_115) (fun s10 => ?_)
          refine z_aload_n (pc := 118) hX dX1_heartItem_118 rfl 0 rfl ?_
          refine z_rI (run_V (pc := 119) (As := []) hX rc_5 ⟨q_406, q_409, q_2⟩ q_408 qs_7 hd_X1_takeEnding ⟨Nat.le_of_ble_eq_true rfl, Nat.le_of_ble_eq_true rfl⟩ (c_Tx_takeEnding hG s10) rfl rfl (Nat.le_of_ble_eq_true rfl) dX1_heartItem_119) (fun r11 s12 => ?_)
          exact z_retIz (pc := 122) hX dX1_heartItem_122
        · refine z_aload (pc := 105) hX dX1_heartItem_105 3 rfl ?_
          refine gf_2_2C (pc := 107) hX hv7 q_160 dX1_heartItem_107 ?_
          refine z_goto (pc := 110) (tgt := 115) hX dX1_heartItem_110 rfl ?_
          refine z_rV (run_V (pc := 115) (As := [.int t8, .int (s4 2 (6 * i1 + ix r2) 2)]) hX (rc_2 hv7) ⟨q_425, q_428, q_11⟩ q_426 q_427 hd_X3_feel ⟨Nat.le_of_ble_eq_true rfl, Nat.le_of_ble_eq_true rfl⟩ (c_He_feel hG s4 (6 * i1 + ix r2) t8 (s4 2 (6 * i1 + ix r2) 2) hv7) rfl rfl (Nat.le_of_ble_eq_true rfl) dX1_heartItem_115) (fun s13 => ?_)
          refine z_aload_n (pc := 118) hX dX1_heartItem_118 rfl 0 rfl ?_
          refine z_rI (run_V (pc := 119) (As := []) hX rc_5 ⟨q_406, q_409, q_2⟩ q_408 qs_7 hd_X1_takeEnding ⟨Nat.le_of_ble_eq_true rfl, Nat.le_of_ble_eq_true rfl⟩ (c_Tx_takeEnding hG s13) rfl rfl (Nat.le_of_ble_eq_true rfl) dX1_heartItem_119) (fun r14 s15 => ?_)
          exact z_retIz (pc := 122) hX dX1_heartItem_122
      · intro j9 hj9
        refine z_if_eq (pc := 88) (tgt := 96) hX dX1_heartItem_88 rfl ?_ ?_
        · refine z_aload (pc := 96) hX dX1_heartItem_96 0 rfl ?_
          refine gf_2_1C (pc := 98) hX hv7 q_157 dX1_heartItem_98 ?_
          exact z_ls [1, 3, 5, 0] rfl (hj9 (s4 2 (6 * i1 + ix r2) 1))
        · refine z_iload (pc := 91) hX dX1_heartItem_91 5 rfl ?_
          refine z_goto (pc := 93) (tgt := 101) hX dX1_heartItem_93 rfl ?_
          exact z_ls [1, 3, 5, 0] rfl (hj9 v4_5)
    · intro K6 hK6
      refine z_ls [3, 4, 5, 2, 1, 0] rfl ?_
      refine (fx_P (F := l_Tx_heartItem_29 K6) (b := (fun _ _ _ => none)) (fun rc19 => ∀ (s16 : Sto) (v4_17 : Int32) (v5_18 : Int32), ZR G X (EC o L) pvI psI 7 s16 [(0, .ref (ad G 5 0)), (1, .ref (ad G 1 i1)), (2, .int x2), (3, .int r2), (4, .int v4_17), (5, .int v5_18)] [] 29 (rc19 s16 v4_17 v5_18)) ?_ ?_ 1000) s3 (0 : Int32) (0 : Int32)
      · intro s16 v4_17 v5_18; exact z_none
      · intro rc19 hrc19 s16 v4_17 v5_18
        unfold l_Tx_heartItem_29
        refine z_iload (pc := 29) hX dX1_heartItem_29 5 rfl ?_
        refine z_sipush (pc := 31) hX dX1_heartItem_31 sp_150 ?_
        refine z_icmp_ge (pc := 34) (tgt := 77) hX dX1_heartItem_34 rfl ?_ ?_
        · exact z_ls [0, 1, 2, 3, 4] rfl (hK6 s16 v4_17)
        · refine z_aload_n (pc := 37) hX dX1_heartItem_37 rfl 0 rfl ?_
          refine gf_5_4C (pc := 38) hX q_41 dX1_heartItem_38 ?_
          refine z_iconst (pc := 41) hX dX1_heartItem_41 ic_2 ?_
          refine z_icmp_ne (pc := 42) (tgt := 77) hX dX1_heartItem_42 rfl ?_ ?_
          · exact z_ls [0, 1, 2, 3, 4] rfl (hK6 s16 v4_17)
          · refine z_aload_n (pc := 45) hX dX1_heartItem_45 rfl 0 rfl ?_
            refine z_bipush (pc := 46) hX dX1_heartItem_46 bp_7 ?_
            refine z_iconst (pc := 48) hX dX1_heartItem_48 ic_m1 ?_
            refine z_rI (run_V (pc := 49) (As := [.int (7 : Int32), .int (-1 : Int32)]) hX rc_5 ⟨q_401, q_404, q_2⟩ q_403 qs_6 hd_X1_takeNumber ⟨Nat.le_of_ble_eq_true rfl, Nat.le_of_ble_eq_true rfl⟩ (c_Tx_takeNumber hG s16 (7 : Int32) (-1 : Int32)) rfl rfl (Nat.le_of_ble_eq_true rfl) dX1_heartItem_49) (fun r20 s21 => ?_)
            refine z_istore (pc := 52) (ls' := [(6, .int r20), (0, .ref (ad G 5 0)), (1, .ref (ad G 1 i1)), (2, .int x2), (3, .int r2), (4, .int v4_17), (5, .int v5_18)]) hX dX1_heartItem_52 (by decide) rfl ?_
            refine z_iload (pc := 54) hX dX1_heartItem_54 0 rfl ?_
            refine z_iconst (pc := 56) hX dX1_heartItem_56 ic_m1 ?_
            refine z_icmp_ne (pc := 57) (tgt := 62) hX dX1_heartItem_57 rfl ?_ ?_
            · refine z_iload (pc := 62) hX dX1_heartItem_62 5 rfl ?_
              refine z_iconst (pc := 64) hX dX1_heartItem_64 ic_1 ?_
              refine z_iload (pc := 65) hX dX1_heartItem_65 0 rfl ?_
              refine z_ishl (pc := 67) hX dX1_heartItem_67 ?_
              refine z_ior (pc := 68) hX dX1_heartItem_68 ?_
              refine z_lti (pc := 69) (fun v4_22 => ?_)
              refine z_istore (pc := 69) (ls' := [(4, .int v4_22), (6, .int r20), (0, .ref (ad G 5 0)), (1, .ref (ad G 1 i1)), (2, .int x2), (3, .int r2), (5, .int v5_18)]) hX dX1_heartItem_69 (by decide) rfl ?_
              refine z_iinc (pc := 71) (n := 6) (v := v5_18 + (1 : Int32)) (ls' := [(5, .int (v5_18 + (1 : Int32))), (4, .int v4_22), (6, .int r20), (0, .ref (ad G 5 0)), (1, .ref (ad G 1 i1)), (2, .int x2), (3, .int r2)]) hX dX1_heartItem_71 rfl (by rw [show Int32.ofInt (1) = 1 by decide +kernel]) (by decide) rfl ?_
              refine z_goto (pc := 74) (tgt := 29) hX dX1_heartItem_74 rfl ?_
              exact z_ls [3, 4, 5, 6, 1, 0] rfl (hrc19 s21 v4_22 (v5_18 + (1 : Int32)))
            · refine z_iconst (pc := 60) hX dX1_heartItem_60 ic_0 ?_
              exact z_retIc (pc := 61) hX dX1_heartItem_61 (by decide)
  · refine z_iconst (pc := 21) hX dX1_heartItem_21 ic_0 ?_
    exact z_retIc (pc := 22) hX dX1_heartItem_22 (by decide)
theorem hd_X1_pairItem : yX1_pairItem.cls ≠ "java/lang/invoke/MethodHandle" ∧ yX1_pairItem.cls ≠ "java/lang/invoke/VarHandle" ∧ (parseMethodDescriptor yX1_pairItem.desc).map (fun d => d.parameters.length) = some 1 := by decide +kernel
def f_Tx_pairItem (s : Sto) (i1 : Nat) : Option (Int32 × Sto) :=
  bV (f_Tx_advance s) (fun s1 => bI (f_Tx_takeNumber s1 ((s1 1 i1 5) - (1 : Int32)) (-1 : Int32)) (fun r2 s3 => if r2 = (-1 : Int32) then some ((0 : Int32), s3) else bI (f_Tx_takeNumber s3 ((s3 1 i1 5) - (1 : Int32)) r2) (fun r4 s5 => if r4 = (-1 : Int32) then some ((0 : Int32), s5) else lt (st s5 4 i1 3 r2) (fun s6 => lt (st s6 4 i1 4 r4) (fun s7 => bI (f_Tx_takeEnding s7) (fun r8 s9 => if r8 = (0 : Int32) ∨ r8 = (1 : Int32) then some (r8, s9) else none))))))
set_option maxRecDepth 100000 in
set_option maxHeartbeats 4000000 in
theorem c_Tx_pairItem {G : Gb} {l : Launch} {o : Sto} {L : Lng} (hG : GA G) (s : Sto) (i1 : Nat) (h1 : V 1 i1) : CT G l (EC o L) pvI psI yX1_pairItem cX1_pairItem 4 (some .boolean) 3 65 [.ref (ad G 5 0), .ref (ad G 1 i1)] s (f_Tx_pairItem s i1) := by
  refine CT.of hG (by decide) (Nat.le_of_ble_eq_true rfl) (fun X hX => ?_)
  have hX : OX G X l cX1_pairItem 4 "CrownTwo$CourtText" (some .boolean) 3 65 := hX
  show ZR G X (EC o L) pvI psI 4 s [(0, .ref (ad G 5 0)), (1, .ref (ad G 1 i1))] [] 0 _
  unfold f_Tx_pairItem
  refine z_aload_n (pc := 0) hX dX1_pairItem_0 rfl 0 rfl ?_
  refine z_rV (run_V (pc := 1) (As := []) hX rc_5 ⟨q_336, q_339, q_2⟩ q_338 qs_2 hd_X1_advance ⟨Nat.le_of_ble_eq_true rfl, Nat.le_of_ble_eq_true rfl⟩ (c_Tx_advance hG s) rfl rfl (Nat.le_of_ble_eq_true rfl) dX1_pairItem_1) (fun s1 => ?_)
  refine z_aload_n (pc := 4) hX dX1_pairItem_4 rfl 0 rfl ?_
  refine z_aload_n (pc := 5) hX dX1_pairItem_5 rfl 1 rfl ?_
  refine gf_1_5C (pc := 6) hX h1 q_212 dX1_pairItem_6 ?_
  refine z_iconst (pc := 9) hX dX1_pairItem_9 ic_1 ?_
  refine z_isub (pc := 10) hX dX1_pairItem_10 ?_
  refine z_iconst (pc := 11) hX dX1_pairItem_11 ic_m1 ?_
  refine z_rI (run_V (pc := 12) (As := [.int ((s1 1 i1 5) - (1 : Int32)), .int (-1 : Int32)]) hX rc_5 ⟨q_401, q_404, q_2⟩ q_403 qs_6 hd_X1_takeNumber ⟨Nat.le_of_ble_eq_true rfl, Nat.le_of_ble_eq_true rfl⟩ (c_Tx_takeNumber hG s1 ((s1 1 i1 5) - (1 : Int32)) (-1 : Int32)) rfl rfl (Nat.le_of_ble_eq_true rfl) dX1_pairItem_12) (fun r2 s3 => ?_)
  refine z_istore_n (pc := 15) (ls' := [(2, .int r2), (0, .ref (ad G 5 0)), (1, .ref (ad G 1 i1))]) hX dX1_pairItem_15 rfl (by decide) rfl ?_
  refine z_iload_n (pc := 16) hX dX1_pairItem_16 rfl 0 rfl ?_
  refine z_iconst (pc := 17) hX dX1_pairItem_17 ic_m1 ?_
  refine z_icmp_ne (pc := 18) (tgt := 23) hX dX1_pairItem_18 rfl ?_ ?_
  · refine z_aload_n (pc := 23) hX dX1_pairItem_23 rfl 1 rfl ?_
    refine z_aload_n (pc := 24) hX dX1_pairItem_24 rfl 2 rfl ?_
    refine gf_1_5C (pc := 25) hX h1 q_212 dX1_pairItem_25 ?_
    refine z_iconst (pc := 28) hX dX1_pairItem_28 ic_1 ?_
    refine z_isub (pc := 29) hX dX1_pairItem_29 ?_
    refine z_iload_n (pc := 30) hX dX1_pairItem_30 rfl 0 rfl ?_
    refine z_rI (run_V (pc := 31) (As := [.int ((s3 1 i1 5) - (1 : Int32)), .int r2]) hX rc_5 ⟨q_401, q_404, q_2⟩ q_403 qs_6 hd_X1_takeNumber ⟨Nat.le_of_ble_eq_true rfl, Nat.le_of_ble_eq_true rfl⟩ (c_Tx_takeNumber hG s3 ((s3 1 i1 5) - (1 : Int32)) r2) rfl rfl (Nat.le_of_ble_eq_true rfl) dX1_pairItem_31) (fun r4 s5 => ?_)
    refine z_istore_n (pc := 34) (ls' := [(3, .int r4), (2, .int r2), (0, .ref (ad G 5 0)), (1, .ref (ad G 1 i1))]) hX dX1_pairItem_34 rfl (by decide) rfl ?_
    refine z_iload_n (pc := 35) hX dX1_pairItem_35 rfl 0 rfl ?_
    refine z_iconst (pc := 36) hX dX1_pairItem_36 ic_m1 ?_
    refine z_icmp_ne (pc := 37) (tgt := 42) hX dX1_pairItem_37 rfl ?_ ?_
    · refine z_aload_n (pc := 42) hX dX1_pairItem_42 rfl 3 rfl ?_
      refine gr_1_4C (pc := 43) hX h1 q_209 dX1_pairItem_43 ?_
      refine z_iload_n (pc := 46) hX dX1_pairItem_46 rfl 1 rfl ?_
      refine pf_4_3C (pc := 47) hX (vr_1_4 h1) q_76 dX1_pairItem_47 ?_
      refine z_lts (fun s6 => ?_)
      refine z_aload_n (pc := 50) hX dX1_pairItem_50 rfl 3 rfl ?_
      refine gr_1_4C (pc := 51) hX h1 q_209 dX1_pairItem_51 ?_
      refine z_iload_n (pc := 54) hX dX1_pairItem_54 rfl 0 rfl ?_
      refine pf_4_4C (pc := 55) hX (vr_1_4 h1) q_80 dX1_pairItem_55 ?_
      refine z_lts (fun s7 => ?_)
      refine z_aload_n (pc := 58) hX dX1_pairItem_58 rfl 2 rfl ?_
      refine z_rI (run_V (pc := 59) (As := []) hX rc_5 ⟨q_406, q_409, q_2⟩ q_408 qs_7 hd_X1_takeEnding ⟨Nat.le_of_ble_eq_true rfl, Nat.le_of_ble_eq_true rfl⟩ (c_Tx_takeEnding hG s7) rfl rfl (Nat.le_of_ble_eq_true rfl) dX1_pairItem_59) (fun r8 s9 => ?_)
      exact z_retIz (pc := 62) hX dX1_pairItem_62
    · refine z_iconst (pc := 40) hX dX1_pairItem_40 ic_0 ?_
      exact z_retIc (pc := 41) hX dX1_pairItem_41 (by decide)
  · refine z_iconst (pc := 21) hX dX1_pairItem_21 ic_0 ?_
    exact z_retIc (pc := 22) hX dX1_pairItem_22 (by decide)
theorem hd_X1_isWord : yX1_isWord.cls ≠ "java/lang/invoke/MethodHandle" ∧ yX1_isWord.cls ≠ "java/lang/invoke/VarHandle" ∧ (parseMethodDescriptor yX1_isWord.desc).map (fun d => d.parameters.length) = some 1 := by decide +kernel
def l_Tx_isWord_28 (s : Sto) (w1 : Nat) (rc3 : Int32 → Option (Int32)) (v2_2 : Int32) : Option (Int32) :=
  bP (f_S_length w1) (fun r4 => if r4 ≤ v2_2 then some (1 : Int32) else if inb ((s 5 0 2) + v2_2) 150 then bP (f_S_charAt w1 v2_2) (fun r5 => if (s 16 0 (ix ((s 5 0 2) + v2_2))) = r5 then rc3 (v2_2 + (1 : Int32)) else some (0 : Int32)) else none)
def f_Tx_isWord (s : Sto) (w1 : Nat) : Option (Int32) :=
  if (s 5 0 4) = (1 : Int32) then bP (f_S_length w1) (fun r1 => if ((s 5 0 3) - (s 5 0 2)) = r1 then fx 1000 (l_Tx_isWord_28 s w1) (fun _ => none) (0 : Int32) else some (0 : Int32)) else some (0 : Int32)
set_option maxRecDepth 100000 in
set_option maxHeartbeats 4000000 in
theorem c_Tx_isWord {G : Gb} {l : Launch} {o : Sto} {L : Lng} (hG : GA G) (s : Sto) (w1 : Nat) (h1 : w1 < 5) : CT G l (EC o L) pvP (psP s) yX1_isWord cX1_isWord 3 (some .boolean) 4 85 [.ref (ad G 5 0), .ref (G.2.2.2.2.1 w1)] s (f_Tx_isWord s w1) := by
  refine CT.of hG (by decide) (Nat.le_of_ble_eq_true rfl) (fun X hX => ?_)
  have hX : OX G X l cX1_isWord 3 "CrownTwo$CourtText" (some .boolean) 4 85 := hX
  show ZR G X (EC o L) pvP (psP s) 3 s [(0, .ref (ad G 5 0)), (1, .ref (G.2.2.2.2.1 w1))] [] 0 _
  unfold f_Tx_isWord
  refine z_aload_n (pc := 0) hX dX1_isWord_0 rfl 0 rfl ?_
  refine gf_5_4C (pc := 1) hX q_41 dX1_isWord_1 ?_
  refine z_iconst (pc := 4) hX dX1_isWord_4 ic_1 ?_
  refine z_icmp_ne (pc := 5) (tgt := 24) hX dX1_isWord_5 rfl ?_ ?_
  · refine z_iconst (pc := 24) hX dX1_isWord_24 ic_0 ?_
    exact z_retPc (pc := 25) hX dX1_isWord_25 (by decide)
  · refine z_aload_n (pc := 8) hX dX1_isWord_8 rfl 0 rfl ?_
    refine gf_5_3C (pc := 9) hX q_40 dX1_isWord_9 ?_
    refine z_aload_n (pc := 12) hX dX1_isWord_12 rfl 0 rfl ?_
    refine gf_5_2C (pc := 13) hX q_38 dX1_isWord_13 ?_
    refine z_isub (pc := 16) hX dX1_isWord_16 ?_
    refine z_aload_n (pc := 17) hX dX1_isWord_17 rfl 1 rfl ?_
    refine z_rP (run_VS (pc := 18) (As := []) hX h1 ⟨q_353, q_356, q_14⟩ q_354 q_355 hd_J0_length_8abf5 ⟨Nat.le_of_ble_eq_true rfl, Nat.le_of_ble_eq_true rfl⟩ (c_S_length hG s w1 h1) rfl rfl (Nat.le_of_ble_eq_true rfl) dX1_isWord_18) (fun r1 => ?_)
    refine z_icmp_eq (pc := 21) (tgt := 26) hX dX1_isWord_21 rfl ?_ ?_
    · refine z_iconst (pc := 26) hX dX1_isWord_26 ic_0 ?_
      refine z_istore_n (pc := 27) (ls' := [(2, .int (0 : Int32)), (0, .ref (ad G 5 0)), (1, .ref (G.2.2.2.2.1 w1))]) hX dX1_isWord_27 rfl (by decide) rfl ?_
      refine z_ls [1, 2, 0] rfl ?_
      refine (fx_P (F := l_Tx_isWord_28 s w1) (b := (fun _ => none)) (fun rc3 => ∀ (v2_2 : Int32), ZR G X (EC o L) pvP (psP s) 3 s [(0, .ref (ad G 5 0)), (1, .ref (G.2.2.2.2.1 w1)), (2, .int v2_2)] [] 28 (rc3 v2_2)) ?_ ?_ 1000) (0 : Int32)
      · intro v2_2; exact z_none
      · intro rc3 hrc3 v2_2
        unfold l_Tx_isWord_28
        refine z_iload_n (pc := 28) hX dX1_isWord_28 rfl 2 rfl ?_
        refine z_aload_n (pc := 29) hX dX1_isWord_29 rfl 1 rfl ?_
        refine z_rP (run_VS (pc := 30) (As := []) hX h1 ⟨q_353, q_356, q_14⟩ q_354 q_355 hd_J0_length_8abf5 ⟨Nat.le_of_ble_eq_true rfl, Nat.le_of_ble_eq_true rfl⟩ (c_S_length hG s w1 h1) rfl rfl (Nat.le_of_ble_eq_true rfl) dX1_isWord_30) (fun r4 => ?_)
        refine z_icmp_ge (pc := 33) (tgt := 63) hX dX1_isWord_33 rfl ?_ ?_
        · refine z_iconst (pc := 63) hX dX1_isWord_63 ic_1 ?_
          exact z_retPc (pc := 64) hX dX1_isWord_64 (by decide)
        · refine z_aload_n (pc := 36) hX dX1_isWord_36 rfl 0 rfl ?_
          refine gr_5_0C (pc := 37) hX q_35 dX1_isWord_37 ?_
          refine z_aload_n (pc := 40) hX dX1_isWord_40 rfl 0 rfl ?_
          refine gf_5_2C (pc := 41) hX q_38 dX1_isWord_41 ?_
          refine z_iload_n (pc := 44) hX dX1_isWord_44 rfl 2 rfl ?_
          refine z_iadd (pc := 45) hX dX1_isWord_45 ?_
          refine ia_16C (pc := 46) hX dX1_isWord_46 ?_
          refine z_aload_n (pc := 47) hX dX1_isWord_47 rfl 1 rfl ?_
          refine z_iload_n (pc := 48) hX dX1_isWord_48 rfl 2 rfl ?_
          refine z_rP (run_VS (pc := 49) (As := [.int v2_2]) hX h1 ⟨q_363, q_366, q_14⟩ q_364 q_365 hd_J0_charAt_5068e ⟨Nat.le_of_ble_eq_true rfl, Nat.le_of_ble_eq_true rfl⟩ (c_S_charAt hG s w1 v2_2 h1) rfl rfl (Nat.le_of_ble_eq_true rfl) dX1_isWord_49) (fun r5 => ?_)
          refine z_icmp_eq (pc := 52) (tgt := 57) hX dX1_isWord_52 rfl ?_ ?_
          · refine z_iinc (pc := 57) (n := 2) (v := v2_2 + (1 : Int32)) (ls' := [(2, .int (v2_2 + (1 : Int32))), (0, .ref (ad G 5 0)), (1, .ref (G.2.2.2.2.1 w1))]) hX dX1_isWord_57 rfl (by rw [show Int32.ofInt (1) = 1 by decide +kernel]) (by decide) rfl ?_
            refine z_goto (pc := 60) (tgt := 28) hX dX1_isWord_60 rfl ?_
            exact z_ls [1, 2, 0] rfl (hrc3 (v2_2 + (1 : Int32)))
          · refine z_iconst (pc := 55) hX dX1_isWord_55 ic_0 ?_
            exact z_retPc (pc := 56) hX dX1_isWord_56 (by decide)
    · refine z_iconst (pc := 24) hX dX1_isWord_24 ic_0 ?_
      exact z_retPc (pc := 25) hX dX1_isWord_25 (by decide)
theorem hd_X1_courtItem : yX1_courtItem.cls ≠ "java/lang/invoke/MethodHandle" ∧ yX1_courtItem.cls ≠ "java/lang/invoke/VarHandle" ∧ (parseMethodDescriptor yX1_courtItem.desc).map (fun d => d.parameters.length) = some 1 := by decide +kernel
def f_Tx_courtItem (s : Sto) (i1 : Nat) : Option (Int32 × Sto) :=
  bP (f_Tx_isWord s 0) (fun r1 => if r1 = (0 : Int32) then some ((0 : Int32), s) else bV (f_Tx_advance s) (fun s2 => bI (f_Tx_takeNumber s2 (99 : Int32) (-1 : Int32)) (fun r3 s4 => if r3 = (-1 : Int32) then some ((0 : Int32), s4) else bV (f_Co_begin s4 i1 r3) (fun s5 => bI (f_Tx_takeEnding s5) (fun r6 s7 => if r6 = (0 : Int32) ∨ r6 = (1 : Int32) then some (r6, s7) else none)))))
set_option maxRecDepth 100000 in
set_option maxHeartbeats 4000000 in
theorem c_Tx_courtItem {G : Gb} {l : Launch} {o : Sto} {L : Lng} (hG : GA G) (s : Sto) (i1 : Nat) (h1 : V 1 i1) : CT G l (EC o L) pvI psI yX1_courtItem cX1_courtItem 3 (some .boolean) 5 107 [.ref (ad G 5 0), .ref (ad G 1 i1)] s (f_Tx_courtItem s i1) := by
  refine CT.of hG (by decide) (Nat.le_of_ble_eq_true rfl) (fun X hX => ?_)
  have hX : OX G X l cX1_courtItem 3 "CrownTwo$CourtText" (some .boolean) 5 107 := hX
  show ZR G X (EC o L) pvI psI 3 s [(0, .ref (ad G 5 0)), (1, .ref (ad G 1 i1))] [] 0 _
  unfold f_Tx_courtItem
  refine z_aload_n (pc := 0) hX dX1_courtItem_0 rfl 0 rfl ?_
  refine z_ldcs (pc := 1) (w := 0) hX (by decide) dX1_courtItem_1 ?_
  refine z_rP (run_V (pc := 3) (As := [.ref (G.2.2.2.2.1 0)]) hX rc_5 ⟨q_349, q_352, q_2⟩ q_351 qs_5 hd_X1_isWord ⟨Nat.le_of_ble_eq_true rfl, Nat.le_of_ble_eq_true rfl⟩ (c_Tx_isWord hG s 0 (by decide)) rfl rfl (Nat.le_of_ble_eq_true rfl) dX1_courtItem_3) (fun r1 => ?_)
  refine z_if_ne (pc := 6) (tgt := 11) hX dX1_courtItem_6 rfl ?_ ?_
  · refine z_aload_n (pc := 11) hX dX1_courtItem_11 rfl 0 rfl ?_
    refine z_rV (run_V (pc := 12) (As := []) hX rc_5 ⟨q_336, q_339, q_2⟩ q_338 qs_2 hd_X1_advance ⟨Nat.le_of_ble_eq_true rfl, Nat.le_of_ble_eq_true rfl⟩ (c_Tx_advance hG s) rfl rfl (Nat.le_of_ble_eq_true rfl) dX1_courtItem_12) (fun s2 => ?_)
    refine z_aload_n (pc := 15) hX dX1_courtItem_15 rfl 0 rfl ?_
    refine z_bipush (pc := 16) hX dX1_courtItem_16 bp_99 ?_
    refine z_iconst (pc := 18) hX dX1_courtItem_18 ic_m1 ?_
    refine z_rI (run_V (pc := 19) (As := [.int (99 : Int32), .int (-1 : Int32)]) hX rc_5 ⟨q_401, q_404, q_2⟩ q_403 qs_6 hd_X1_takeNumber ⟨Nat.le_of_ble_eq_true rfl, Nat.le_of_ble_eq_true rfl⟩ (c_Tx_takeNumber hG s2 (99 : Int32) (-1 : Int32)) rfl rfl (Nat.le_of_ble_eq_true rfl) dX1_courtItem_19) (fun r3 s4 => ?_)
    refine z_istore_n (pc := 22) (ls' := [(2, .int r3), (0, .ref (ad G 5 0)), (1, .ref (ad G 1 i1))]) hX dX1_courtItem_22 rfl (by decide) rfl ?_
    refine z_iload_n (pc := 23) hX dX1_courtItem_23 rfl 0 rfl ?_
    refine z_iconst (pc := 24) hX dX1_courtItem_24 ic_m1 ?_
    refine z_icmp_ne (pc := 25) (tgt := 30) hX dX1_courtItem_25 rfl ?_ ?_
    · refine z_aload_n (pc := 30) hX dX1_courtItem_30 rfl 2 rfl ?_
      refine z_iload_n (pc := 31) hX dX1_courtItem_31 rfl 0 rfl ?_
      refine z_rV (run_V (pc := 32) (As := [.int r3]) hX (rc_1 h1) ⟨q_405, q_295, q_10⟩ q_293 q_294 hd_X0_begin ⟨Nat.le_of_ble_eq_true rfl, Nat.le_of_ble_eq_true rfl⟩ (c_Co_begin hG s4 i1 r3 h1) rfl rfl (Nat.le_of_ble_eq_true rfl) dX1_courtItem_32) (fun s5 => ?_)
      refine z_aload_n (pc := 35) hX dX1_courtItem_35 rfl 1 rfl ?_
      refine z_rI (run_V (pc := 36) (As := []) hX rc_5 ⟨q_406, q_409, q_2⟩ q_408 qs_7 hd_X1_takeEnding ⟨Nat.le_of_ble_eq_true rfl, Nat.le_of_ble_eq_true rfl⟩ (c_Tx_takeEnding hG s5) rfl rfl (Nat.le_of_ble_eq_true rfl) dX1_courtItem_36) (fun r6 s7 => ?_)
      exact z_retIz (pc := 39) hX dX1_courtItem_39
    · refine z_iconst (pc := 28) hX dX1_courtItem_28 ic_0 ?_
      exact z_retIc (pc := 29) hX dX1_courtItem_29 (by decide)
  · refine z_iconst (pc := 9) hX dX1_courtItem_9 ic_0 ?_
    exact z_retIc (pc := 10) hX dX1_courtItem_10 (by decide)
theorem hd_X1_laterItem : yX1_laterItem.cls ≠ "java/lang/invoke/MethodHandle" ∧ yX1_laterItem.cls ≠ "java/lang/invoke/VarHandle" ∧ (parseMethodDescriptor yX1_laterItem.desc).map (fun d => d.parameters.length) = some 1 := by decide +kernel
def f_Tx_laterItem (s : Sto) (i1 : Nat) : Option (Int32 × Sto) :=
  bP (f_Tx_isWord s 1) (fun r1 => if r1 = (0 : Int32) then bP (f_Tx_isWord s 2) (fun r2 => if r2 = (0 : Int32) then bP (f_Tx_isWord s 3) (fun r3 => if r3 = (0 : Int32) then bP (f_Tx_isWord s 4) (fun r4 => if r4 = (0 : Int32) then some ((0 : Int32), s) else bI (f_Tx_pairItem s i1) (fun r5 s6 => if r5 = (0 : Int32) ∨ r5 = (1 : Int32) then some (r5, s6) else none)) else bI (f_Tx_heartItem s i1 (0 : Int32)) (fun r7 s8 => if r7 = (0 : Int32) ∨ r7 = (1 : Int32) then some (r7, s8) else none)) else bI (f_Tx_heartItem s i1 (1 : Int32)) (fun r9 s10 => if r9 = (0 : Int32) ∨ r9 = (1 : Int32) then some (r9, s10) else none)) else bI (f_Tx_heirItem s i1) (fun r11 s12 => if r11 = (0 : Int32) ∨ r11 = (1 : Int32) then some (r11, s12) else none))
set_option maxRecDepth 100000 in
set_option maxHeartbeats 4000000 in
theorem c_Tx_laterItem {G : Gb} {l : Launch} {o : Sto} {L : Lng} (hG : GA G) (s : Sto) (i1 : Nat) (h1 : V 1 i1) : CT G l (EC o L) pvI psI yX1_laterItem cX1_laterItem 2 (some .boolean) 5 107 [.ref (ad G 5 0), .ref (ad G 1 i1)] s (f_Tx_laterItem s i1) := by
  refine CT.of hG (by decide) (Nat.le_of_ble_eq_true rfl) (fun X hX => ?_)
  have hX : OX G X l cX1_laterItem 2 "CrownTwo$CourtText" (some .boolean) 5 107 := hX
  show ZR G X (EC o L) pvI psI 2 s [(0, .ref (ad G 5 0)), (1, .ref (ad G 1 i1))] [] 0 _
  unfold f_Tx_laterItem
  refine z_aload_n (pc := 0) hX dX1_laterItem_0 rfl 0 rfl ?_
  refine z_ldcs (pc := 1) (w := 1) hX (by decide) dX1_laterItem_1 ?_
  refine z_rP (run_V (pc := 3) (As := [.ref (G.2.2.2.2.1 1)]) hX rc_5 ⟨q_349, q_352, q_2⟩ q_351 qs_5 hd_X1_isWord ⟨Nat.le_of_ble_eq_true rfl, Nat.le_of_ble_eq_true rfl⟩ (c_Tx_isWord hG s 1 (by decide)) rfl rfl (Nat.le_of_ble_eq_true rfl) dX1_laterItem_3) (fun r1 => ?_)
  refine z_if_eq (pc := 6) (tgt := 15) hX dX1_laterItem_6 rfl ?_ ?_
  · refine z_aload_n (pc := 15) hX dX1_laterItem_15 rfl 0 rfl ?_
    refine z_ldcs (pc := 16) (w := 2) hX (by decide) dX1_laterItem_16 ?_
    refine z_rP (run_V (pc := 18) (As := [.ref (G.2.2.2.2.1 2)]) hX rc_5 ⟨q_349, q_352, q_2⟩ q_351 qs_5 hd_X1_isWord ⟨Nat.le_of_ble_eq_true rfl, Nat.le_of_ble_eq_true rfl⟩ (c_Tx_isWord hG s 2 (by decide)) rfl rfl (Nat.le_of_ble_eq_true rfl) dX1_laterItem_18) (fun r2 => ?_)
    refine z_if_eq (pc := 21) (tgt := 31) hX dX1_laterItem_21 rfl ?_ ?_
    · refine z_aload_n (pc := 31) hX dX1_laterItem_31 rfl 0 rfl ?_
      refine z_ldcs (pc := 32) (w := 3) hX (by decide) dX1_laterItem_32 ?_
      refine z_rP (run_V (pc := 34) (As := [.ref (G.2.2.2.2.1 3)]) hX rc_5 ⟨q_349, q_352, q_2⟩ q_351 qs_5 hd_X1_isWord ⟨Nat.le_of_ble_eq_true rfl, Nat.le_of_ble_eq_true rfl⟩ (c_Tx_isWord hG s 3 (by decide)) rfl rfl (Nat.le_of_ble_eq_true rfl) dX1_laterItem_34) (fun r3 => ?_)
      refine z_if_eq (pc := 37) (tgt := 47) hX dX1_laterItem_37 rfl ?_ ?_
      · refine z_aload_n (pc := 47) hX dX1_laterItem_47 rfl 0 rfl ?_
        refine z_ldcs (pc := 48) (w := 4) hX (by decide) dX1_laterItem_48 ?_
        refine z_rP (run_V (pc := 50) (As := [.ref (G.2.2.2.2.1 4)]) hX rc_5 ⟨q_349, q_352, q_2⟩ q_351 qs_5 hd_X1_isWord ⟨Nat.le_of_ble_eq_true rfl, Nat.le_of_ble_eq_true rfl⟩ (c_Tx_isWord hG s 4 (by decide)) rfl rfl (Nat.le_of_ble_eq_true rfl) dX1_laterItem_50) (fun r4 => ?_)
        refine z_if_eq (pc := 53) (tgt := 62) hX dX1_laterItem_53 rfl ?_ ?_
        · refine z_iconst (pc := 62) hX dX1_laterItem_62 ic_0 ?_
          exact z_retIc (pc := 63) hX dX1_laterItem_63 (by decide)
        · refine z_aload_n (pc := 56) hX dX1_laterItem_56 rfl 0 rfl ?_
          refine z_aload_n (pc := 57) hX dX1_laterItem_57 rfl 1 rfl ?_
          refine z_rI (run_V (pc := 58) (As := [.ref (ad G 1 i1)]) hX rc_5 ⟨q_431, q_434, q_2⟩ q_433 qs_11 hd_X1_pairItem ⟨Nat.le_of_ble_eq_true rfl, Nat.le_of_ble_eq_true rfl⟩ (c_Tx_pairItem hG s i1 h1) rfl rfl (Nat.le_of_ble_eq_true rfl) dX1_laterItem_58) (fun r5 s6 => ?_)
          exact z_retIz (pc := 61) hX dX1_laterItem_61
      · refine z_aload_n (pc := 40) hX dX1_laterItem_40 rfl 0 rfl ?_
        refine z_aload_n (pc := 41) hX dX1_laterItem_41 rfl 1 rfl ?_
        refine z_iconst (pc := 42) hX dX1_laterItem_42 ic_0 ?_
        refine z_rI (run_V (pc := 43) (As := [.ref (ad G 1 i1), .int (0 : Int32)]) hX rc_5 ⟨q_421, q_424, q_2⟩ q_423 qs_10 hd_X1_heartItem ⟨Nat.le_of_ble_eq_true rfl, Nat.le_of_ble_eq_true rfl⟩ (c_Tx_heartItem hG s i1 (0 : Int32) h1) rfl rfl (Nat.le_of_ble_eq_true rfl) dX1_laterItem_43) (fun r7 s8 => ?_)
        exact z_retIz (pc := 46) hX dX1_laterItem_46
    · refine z_aload_n (pc := 24) hX dX1_laterItem_24 rfl 0 rfl ?_
      refine z_aload_n (pc := 25) hX dX1_laterItem_25 rfl 1 rfl ?_
      refine z_iconst (pc := 26) hX dX1_laterItem_26 ic_1 ?_
      refine z_rI (run_V (pc := 27) (As := [.ref (ad G 1 i1), .int (1 : Int32)]) hX rc_5 ⟨q_421, q_424, q_2⟩ q_423 qs_10 hd_X1_heartItem ⟨Nat.le_of_ble_eq_true rfl, Nat.le_of_ble_eq_true rfl⟩ (c_Tx_heartItem hG s i1 (1 : Int32) h1) rfl rfl (Nat.le_of_ble_eq_true rfl) dX1_laterItem_27) (fun r9 s10 => ?_)
      exact z_retIz (pc := 30) hX dX1_laterItem_30
  · refine z_aload_n (pc := 9) hX dX1_laterItem_9 rfl 0 rfl ?_
    refine z_aload_n (pc := 10) hX dX1_laterItem_10 rfl 1 rfl ?_
    refine z_rI (run_V (pc := 11) (As := [.ref (ad G 1 i1)]) hX rc_5 ⟨q_415, q_418, q_2⟩ q_417 qs_9 hd_X1_heirItem ⟨Nat.le_of_ble_eq_true rfl, Nat.le_of_ble_eq_true rfl⟩ (c_Tx_heirItem hG s i1 h1) rfl rfl (Nat.le_of_ble_eq_true rfl) dX1_laterItem_11) (fun r11 s12 => ?_)
    exact z_retIz (pc := 14) hX dX1_laterItem_14
theorem hd_X1_parseInto : yX1_parseInto.cls ≠ "java/lang/invoke/MethodHandle" ∧ yX1_parseInto.cls ≠ "java/lang/invoke/VarHandle" ∧ (parseMethodDescriptor yX1_parseInto.desc).map (fun d => d.parameters.length) = some 1 := by decide +kernel
def l_Tx_parseInto_21 (i1 : Nat) (rc7 : Sto → Int32 → Option (Int32 × Sto)) (s5 : Sto) (v2_6 : Int32) : Option (Int32 × Sto) :=
  if (150 : Int32) ≤ v2_6 then some (v2_6, s5) else if (s5 5 0 4) = (0 : Int32) then some (v2_6, s5) else bI (f_Tx_laterItem s5 i1) (fun r8 s9 => if r8 = (0 : Int32) then some ((-1 : Int32), s9) else rc7 s9 (v2_6 + (1 : Int32)))
def f_Tx_parseInto (s : Sto) (i1 : Nat) : Option (Int32 × Sto) :=
  lt (st s 5 0 3 (0 : Int32)) (fun s1 => bV (f_Tx_advance s1) (fun s2 => bI (f_Tx_courtItem s2 i1) (fun r3 s4 => if r3 = (0 : Int32) then some ((-1 : Int32), s4) else fx 1000 (l_Tx_parseInto_21 i1) (fun _ _ => none) s4 (1 : Int32))))
set_option maxRecDepth 100000 in
set_option maxHeartbeats 4000000 in
theorem c_Tx_parseInto {G : Gb} {l : Launch} {o : Sto} {L : Lng} (hG : GA G) (s : Sto) (i1 : Nat) (h1 : V 1 i1) : CT G l (EC o L) pvI psI yX1_parseInto cX1_parseInto 3 (some .int) 6 129 [.ref (ad G 5 0), .ref (ad G 1 i1)] s (f_Tx_parseInto s i1) := by
  refine CT.of hG (by decide) (Nat.le_of_ble_eq_true rfl) (fun X hX => ?_)
  have hX : OX G X l cX1_parseInto 3 "CrownTwo$CourtText" (some .int) 6 129 := hX
  show ZR G X (EC o L) pvI psI 3 s [(0, .ref (ad G 5 0)), (1, .ref (ad G 1 i1))] [] 0 _
  unfold f_Tx_parseInto
  refine z_aload_n (pc := 0) hX dX1_parseInto_0 rfl 0 rfl ?_
  refine z_iconst (pc := 1) hX dX1_parseInto_1 ic_0 ?_
  refine pf_5_3C (pc := 2) hX q_40 dX1_parseInto_2 ?_
  refine z_lts (fun s1 => ?_)
  refine z_aload_n (pc := 5) hX dX1_parseInto_5 rfl 0 rfl ?_
  refine z_rV (run_V (pc := 6) (As := []) hX rc_5 ⟨q_336, q_339, q_2⟩ q_338 qs_2 hd_X1_advance ⟨Nat.le_of_ble_eq_true rfl, Nat.le_of_ble_eq_true rfl⟩ (c_Tx_advance hG s1) rfl rfl (Nat.le_of_ble_eq_true rfl) dX1_parseInto_6) (fun s2 => ?_)
  refine z_aload_n (pc := 9) hX dX1_parseInto_9 rfl 0 rfl ?_
  refine z_aload_n (pc := 10) hX dX1_parseInto_10 rfl 1 rfl ?_
  refine z_rI (run_V (pc := 11) (As := [.ref (ad G 1 i1)]) hX rc_5 ⟨q_344, q_347, q_2⟩ q_346 qs_4 hd_X1_courtItem ⟨Nat.le_of_ble_eq_true rfl, Nat.le_of_ble_eq_true rfl⟩ (c_Tx_courtItem hG s2 i1 h1) rfl rfl (Nat.le_of_ble_eq_true rfl) dX1_parseInto_11) (fun r3 s4 => ?_)
  refine z_if_ne (pc := 14) (tgt := 19) hX dX1_parseInto_14 rfl ?_ ?_
  · refine z_iconst (pc := 19) hX dX1_parseInto_19 ic_1 ?_
    refine z_istore_n (pc := 20) (ls' := [(2, .int (1 : Int32)), (0, .ref (ad G 5 0)), (1, .ref (ad G 1 i1))]) hX dX1_parseInto_20 rfl (by decide) rfl ?_
    refine z_ls [1, 2, 0] rfl ?_
    refine (fx_P (F := l_Tx_parseInto_21 i1) (b := (fun _ _ => none)) (fun rc7 => ∀ (s5 : Sto) (v2_6 : Int32), ZR G X (EC o L) pvI psI 3 s5 [(0, .ref (ad G 5 0)), (1, .ref (ad G 1 i1)), (2, .int v2_6)] [] 21 (rc7 s5 v2_6)) ?_ ?_ 1000) s4 (1 : Int32)
    · intro s5 v2_6; exact z_none
    · intro rc7 hrc7 s5 v2_6
      unfold l_Tx_parseInto_21
      refine z_iload_n (pc := 21) hX dX1_parseInto_21 rfl 2 rfl ?_
      refine z_sipush (pc := 22) hX dX1_parseInto_22 sp_150 ?_
      refine z_icmp_ge (pc := 25) (tgt := 51) hX dX1_parseInto_25 rfl ?_ ?_
      · refine z_iload_n (pc := 51) hX dX1_parseInto_51 rfl 2 rfl ?_
        exact z_retI (pc := 52) hX dX1_parseInto_52
      · refine z_aload_n (pc := 28) hX dX1_parseInto_28 rfl 0 rfl ?_
        refine gf_5_4C (pc := 29) hX q_41 dX1_parseInto_29 ?_
        refine z_if_eq (pc := 32) (tgt := 51) hX dX1_parseInto_32 rfl ?_ ?_
        · refine z_iload_n (pc := 51) hX dX1_parseInto_51 rfl 2 rfl ?_
          exact z_retI (pc := 52) hX dX1_parseInto_52
        · refine z_aload_n (pc := 35) hX dX1_parseInto_35 rfl 0 rfl ?_
          refine z_aload_n (pc := 36) hX dX1_parseInto_36 rfl 1 rfl ?_
          refine z_rI (run_V (pc := 37) (As := [.ref (ad G 1 i1)]) hX rc_5 ⟨q_410, q_413, q_2⟩ q_412 qs_8 hd_X1_laterItem ⟨Nat.le_of_ble_eq_true rfl, Nat.le_of_ble_eq_true rfl⟩ (c_Tx_laterItem hG s5 i1 h1) rfl rfl (Nat.le_of_ble_eq_true rfl) dX1_parseInto_37) (fun r8 s9 => ?_)
          refine z_if_ne (pc := 40) (tgt := 45) hX dX1_parseInto_40 rfl ?_ ?_
          · refine z_iinc (pc := 45) (n := 2) (v := v2_6 + (1 : Int32)) (ls' := [(2, .int (v2_6 + (1 : Int32))), (0, .ref (ad G 5 0)), (1, .ref (ad G 1 i1))]) hX dX1_parseInto_45 rfl (by rw [show Int32.ofInt (1) = 1 by decide +kernel]) (by decide) rfl ?_
            refine z_goto (pc := 48) (tgt := 21) hX dX1_parseInto_48 rfl ?_
            exact z_ls [1, 2, 0] rfl (hrc7 s9 (v2_6 + (1 : Int32)))
          · refine z_iconst (pc := 43) hX dX1_parseInto_43 ic_m1 ?_
            exact z_retI (pc := 44) hX dX1_parseInto_44
  · refine z_iconst (pc := 17) hX dX1_parseInto_17 ic_m1 ?_
    exact z_retI (pc := 18) hX dX1_parseInto_18
