def dy_lifts (j : Nat) (x1 x2 x3 x4 : Int32) : Option Int32 :=
  if j = 0 then f_Pl_lifts x1 x2 x3 x4 else if j = 1 then f_Su_lifts x1 x2 x3 x4 else if j = 2 then f_Pl_lifts x1 x2 x3 x4 else if j = 3 then f_Pr_lifts x1 x2 x3 x4 else if j = 4 then f_Ti_lifts x1 x2 x3 x4 else f_Fo_lifts x1 x2 x3 x4
set_option maxRecDepth 100000 in
theorem dyr_lifts {G : Gb} {X : CX} {l : Launch} {o : Sto} {L : Lng} {nL : Nat} {s : Sto} {ls : List (Nat × Value)} {stk : List Value} {cc : ByteArray} {ret : Option FieldType} {fr lo j pc : Nat} {x1 x2 x3 x4 : Int32} (hX : OX G X l cc nL "CrownTwo$Court" ret fr lo) (hG : GA G) (hV : V 6 j) (hf : 3 ≤ fr) (hl : 72 ≤ lo) (hW : (stk.map fun v => v.category).sum ≤ 8) (hdg : decode cc pc = .ok (.invokevirtual 122, 3)) :
    RUN G X (EC o L) pvP (psP s) nL s ls (.int x4 :: .int x3 :: .int x2 :: .int x1 :: .ref (ad G 6 j) :: stk) stk pc (Value.ref (ad G 6 j) :: [.int x1, .int x2, .int x3, .int x4]).toArray (dy_lifts j x1 x2 x3 x4) := by
  have h1 : j < 6 := hV
  rcases (show j = 0 ∨ j = 1 ∨ j = 2 ∨ j = 3 ∨ j = 4 ∨ j = 5 by omega) with rfl | rfl | rfl | rfl | rfl | rfl
  · show RUN G X (EC o L) pvP (psP s) nL s ls _ stk pc _ (f_Pl_lifts x1 x2 x3 x4)
    exact run_V (As := [.int x1, .int x2, .int x3, .int x4]) hX rc_6_0 ⟨q_514, q_536, q_4⟩ q_515 q_516 hd_X7_lifts ⟨by omega, by omega⟩ (c_Pl_lifts hG s 0 x1 x2 x3 x4 hV) rfl rfl hW hdg
  · show RUN G X (EC o L) pvP (psP s) nL s ls _ stk pc _ (f_Su_lifts x1 x2 x3 x4)
    exact run_O (As := [.int x1, .int x2, .int x3, .int x4]) (owner := "CrownTwo$Plain") (xm := yX7_lifts) hX rc_6_1 q_514 q_517 q_515 q_528 q_529 q_5 q_530 q_536 hd_X7_lifts ⟨by omega, by omega⟩ (c_Su_lifts hG s 1 x1 x2 x3 x4 hV) rfl rfl hW hdg
  · show RUN G X (EC o L) pvP (psP s) nL s ls _ stk pc _ (f_Pl_lifts x1 x2 x3 x4)
    exact run_O (As := [.int x1, .int x2, .int x3, .int x4]) (owner := "CrownTwo$Plain") (xm := yX7_lifts) hX rc_6_2 q_514 q_517 q_515 q_524 q_515 q_4 q_536 q_536 hd_X7_lifts ⟨by omega, by omega⟩ (c_Pl_lifts hG s 2 x1 x2 x3 x4 hV) rfl rfl hW hdg
  · show RUN G X (EC o L) pvP (psP s) nL s ls _ stk pc _ (f_Pr_lifts x1 x2 x3 x4)
    exact run_O (As := [.int x1, .int x2, .int x3, .int x4]) (owner := "CrownTwo$Plain") (xm := yX7_lifts) hX rc_6_3 q_514 q_517 q_515 q_525 q_526 q_7 q_527 q_536 hd_X7_lifts ⟨by omega, by omega⟩ (c_Pr_lifts hG s 3 x1 x2 x3 x4 hV) rfl rfl hW hdg
  · show RUN G X (EC o L) pvP (psP s) nL s ls _ stk pc _ (f_Ti_lifts x1 x2 x3 x4)
    exact run_O (As := [.int x1, .int x2, .int x3, .int x4]) (owner := "CrownTwo$Plain") (xm := yX7_lifts) hX rc_6_4 q_514 q_517 q_515 q_532 q_533 q_8 q_534 q_536 hd_X7_lifts ⟨by omega, by omega⟩ (c_Ti_lifts hG s 4 x1 x2 x3 x4 hV) rfl rfl hW hdg
  · show RUN G X (EC o L) pvP (psP s) nL s ls _ stk pc _ (f_Fo_lifts x1 x2 x3 x4)
    exact run_O (As := [.int x1, .int x2, .int x3, .int x4]) (owner := "CrownTwo$Plain") (xm := yX7_lifts) hX rc_6_5 q_514 q_517 q_515 q_518 q_519 q_9 q_520 q_536 hd_X7_lifts ⟨by omega, by omega⟩ (c_Fo_lifts hG s 5 x1 x2 x3 x4 hV) rfl rfl hW hdg

def dy_adds (j : Nat) (x1 : Int32) : Option Int32 :=
  if j = 0 then f_Pl_adds x1 else if j = 1 then f_Su_adds x1 else if j = 2 then f_Jo_adds x1 else if j = 3 then f_Pl_adds x1 else if j = 4 then f_Ti_adds x1 else f_Fo_adds x1
set_option maxRecDepth 100000 in
theorem dyr_adds {G : Gb} {X : CX} {l : Launch} {o : Sto} {L : Lng} {nL : Nat} {s : Sto} {ls : List (Nat × Value)} {stk : List Value} {cc : ByteArray} {ret : Option FieldType} {fr lo j pc : Nat} {x1 : Int32} (hX : OX G X l cc nL "CrownTwo$Court" ret fr lo) (hG : GA G) (hV : V 6 j) (hf : 3 ≤ fr) (hl : 63 ≤ lo) (hW : (stk.map fun v => v.category).sum ≤ 8) (hdg : decode cc pc = .ok (.invokevirtual 91, 3)) :
    RUN G X (EC o L) pvP (psP s) nL s ls (.int x1 :: .ref (ad G 6 j) :: stk) stk pc (Value.ref (ad G 6 j) :: [.int x1]).toArray (dy_adds j x1) := by
  have h1 : j < 6 := hV
  rcases (show j = 0 ∨ j = 1 ∨ j = 2 ∨ j = 3 ∨ j = 4 ∨ j = 5 by omega) with rfl | rfl | rfl | rfl | rfl | rfl
  · show RUN G X (EC o L) pvP (psP s) nL s ls _ stk pc _ (f_Pl_adds x1)
    exact run_V (As := [.int x1]) hX rc_6_0 ⟨q_568, q_589, q_4⟩ q_569 q_570 hd_X7_adds ⟨by omega, by omega⟩ (c_Pl_adds hG s 0 x1 hV) rfl rfl hW hdg
  · show RUN G X (EC o L) pvP (psP s) nL s ls _ stk pc _ (f_Su_adds x1)
    exact run_O (As := [.int x1]) (owner := "CrownTwo$Plain") (xm := yX7_adds) hX rc_6_1 q_568 q_571 q_569 q_581 q_582 q_5 q_583 q_589 hd_X7_adds ⟨by omega, by omega⟩ (c_Su_adds hG s 1 x1 hV) rfl rfl hW hdg
  · show RUN G X (EC o L) pvP (psP s) nL s ls _ stk pc _ (f_Jo_adds x1)
    exact run_O (As := [.int x1]) (owner := "CrownTwo$Plain") (xm := yX7_adds) hX rc_6_2 q_568 q_571 q_569 q_579 q_576 q_6 q_577 q_589 hd_X7_adds ⟨by omega, by omega⟩ (c_Jo_adds hG s 2 x1 hV) rfl rfl hW hdg
  · show RUN G X (EC o L) pvP (psP s) nL s ls _ stk pc _ (f_Pl_adds x1)
    exact run_O (As := [.int x1]) (owner := "CrownTwo$Plain") (xm := yX7_adds) hX rc_6_3 q_568 q_571 q_569 q_580 q_569 q_4 q_589 q_589 hd_X7_adds ⟨by omega, by omega⟩ (c_Pl_adds hG s 3 x1 hV) rfl rfl hW hdg
  · show RUN G X (EC o L) pvP (psP s) nL s ls _ stk pc _ (f_Ti_adds x1)
    exact run_O (As := [.int x1]) (owner := "CrownTwo$Plain") (xm := yX7_adds) hX rc_6_4 q_568 q_571 q_569 q_585 q_586 q_8 q_587 q_589 hd_X7_adds ⟨by omega, by omega⟩ (c_Ti_adds hG s 4 x1 hV) rfl rfl hW hdg
  · show RUN G X (EC o L) pvP (psP s) nL s ls _ stk pc _ (f_Fo_adds x1)
    exact run_O (As := [.int x1]) (owner := "CrownTwo$Plain") (xm := yX7_adds) hX rc_6_5 q_568 q_571 q_569 q_572 q_573 q_9 q_574 q_589 hd_X7_adds ⟨by omega, by omega⟩ (c_Fo_adds hG s 5 x1 hV) rfl rfl hW hdg

theorem hd_X0_has : yX0_has.cls ≠ "java/lang/invoke/MethodHandle" ∧ yX0_has.cls ≠ "java/lang/invoke/VarHandle" ∧ (parseMethodDescriptor yX0_has.desc).map (fun d => d.parameters.length) = some 1 := by decide +kernel
def f_Co_has (s : Sto) (i0 : Nat) (x1 : Int32) : Option (Int32) :=
  jn (some (0 : Int32)) (fun j1 => if x1 < (0 : Int32) then j1 else if (s 1 i0 5) ≤ x1 then j1 else some (1 : Int32))
set_option maxRecDepth 100000 in
set_option maxHeartbeats 4000000 in
theorem c_Co_has {G : Gb} {l : Launch} {o : Sto} {L : Lng} (hG : GA G) (s : Sto) (i0 : Nat) (x1 : Int32) (h0 : V 1 i0) : CT G l (EC o L) pvP (psP s) yX0_has cX0_has 2 (some .boolean) 0 0 [.ref (ad G 1 i0), .int x1] s (f_Co_has s i0 x1) := by
  refine CT.of hG (by decide) (Nat.le_of_ble_eq_true rfl) (fun X hX => ?_)
  have hX : OX G X l cX0_has 2 "CrownTwo$Court" (some .boolean) 0 0 := hX
  show ZR G X (EC o L) pvP (psP s) 2 s [(0, .ref (ad G 1 i0)), (1, .int x1)] [] 0 _
  unfold f_Co_has
  refine z_iload_n (pc := 0) hX dX0_has_0 rfl 1 rfl ?_
  refine z_jn (P := fun j1 => ZR G X (EC o L) pvP (psP s) 2 s [] [] 16 (j1)) ?_ ?_
  · skip
    refine z_iconst (pc := 16) hX dX0_has_16 ic_0 ?_
    exact z_retPc (pc := 17) hX dX0_has_17 (by decide)
  · intro j1 hj1
    refine z_if_lt (pc := 1) (tgt := 16) hX dX0_has_1 rfl ?_ ?_
    · exact z_ls [] rfl (hj1)
    · refine z_iload_n (pc := 4) hX dX0_has_4 rfl 1 rfl ?_
      refine z_aload_n (pc := 5) hX dX0_has_5 rfl 0 rfl ?_
      refine gf_1_5C (pc := 6) hX h0 q_210 dX0_has_6 ?_
      refine z_icmp_ge (pc := 9) (tgt := 16) hX dX0_has_9 rfl ?_ ?_
      · exact z_ls [] rfl (hj1)
      · refine z_iconst (pc := 12) hX dX0_has_12 ic_1 ?_
        refine z_goto (pc := 13) (tgt := 17) hX dX0_has_13 rfl ?_
        exact z_retPc (pc := 17) hX dX0_has_17 (by decide)
theorem hd_X0_hasTwo : yX0_hasTwo.cls ≠ "java/lang/invoke/MethodHandle" ∧ yX0_hasTwo.cls ≠ "java/lang/invoke/VarHandle" ∧ (parseMethodDescriptor yX0_hasTwo.desc).map (fun d => d.parameters.length) = some 2 := by decide +kernel
def f_Co_hasTwo (s : Sto) (i0 : Nat) (x1 : Int32) (x2 : Int32) : Option (Int32) :=
  bP (f_Co_has s i0 x1) (fun r1 => jn (some (0 : Int32)) (fun j2 => if r1 = (0 : Int32) then j2 else bP (f_Co_has s i0 x2) (fun r3 => if r3 = (0 : Int32) then j2 else if x1 = x2 then j2 else some (1 : Int32))))
set_option maxRecDepth 100000 in
set_option maxHeartbeats 4000000 in
theorem c_Co_hasTwo {G : Gb} {l : Launch} {o : Sto} {L : Lng} (hG : GA G) (s : Sto) (i0 : Nat) (x1 : Int32) (x2 : Int32) (h0 : V 1 i0) : CT G l (EC o L) pvP (psP s) yX0_hasTwo cX0_hasTwo 3 (some .boolean) 1 21 [.ref (ad G 1 i0), .int x1, .int x2] s (f_Co_hasTwo s i0 x1 x2) := by
  refine CT.of hG (by decide) (Nat.le_of_ble_eq_true rfl) (fun X hX => ?_)
  have hX : OX G X l cX0_hasTwo 3 "CrownTwo$Court" (some .boolean) 1 21 := hX
  show ZR G X (EC o L) pvP (psP s) 3 s [(0, .ref (ad G 1 i0)), (1, .int x1), (2, .int x2)] [] 0 _
  unfold f_Co_hasTwo
  refine z_aload_n (pc := 0) hX dX0_hasTwo_0 rfl 0 rfl ?_
  refine z_iload_n (pc := 1) hX dX0_hasTwo_1 rfl 1 rfl ?_
  refine z_rP (run_V (pc := 2) (As := [.int x1]) hX (rc_1 h0) ⟨q_465, q_468, q_10⟩ q_466 q_467 hd_X0_has ⟨Nat.le_of_ble_eq_true rfl, Nat.le_of_ble_eq_true rfl⟩ (c_Co_has hG s i0 x1 h0) rfl rfl (Nat.le_of_ble_eq_true rfl) dX0_hasTwo_2) (fun r1 => ?_)
  refine z_jn (P := fun j2 => ZR G X (EC o L) pvP (psP s) 3 s [] [] 25 (j2)) ?_ ?_
  · skip
    refine z_iconst (pc := 25) hX dX0_hasTwo_25 ic_0 ?_
    exact z_retPc (pc := 26) hX dX0_hasTwo_26 (by decide)
  · intro j2 hj2
    refine z_if_eq (pc := 5) (tgt := 25) hX dX0_hasTwo_5 rfl ?_ ?_
    · exact z_ls [] rfl (hj2)
    · refine z_aload_n (pc := 8) hX dX0_hasTwo_8 rfl 0 rfl ?_
      refine z_iload_n (pc := 9) hX dX0_hasTwo_9 rfl 2 rfl ?_
      refine z_rP (run_V (pc := 10) (As := [.int x2]) hX (rc_1 h0) ⟨q_465, q_468, q_10⟩ q_466 q_467 hd_X0_has ⟨Nat.le_of_ble_eq_true rfl, Nat.le_of_ble_eq_true rfl⟩ (c_Co_has hG s i0 x2 h0) rfl rfl (Nat.le_of_ble_eq_true rfl) dX0_hasTwo_10) (fun r3 => ?_)
      refine z_if_eq (pc := 13) (tgt := 25) hX dX0_hasTwo_13 rfl ?_ ?_
      · exact z_ls [] rfl (hj2)
      · refine z_iload_n (pc := 16) hX dX0_hasTwo_16 rfl 1 rfl ?_
        refine z_iload_n (pc := 17) hX dX0_hasTwo_17 rfl 2 rfl ?_
        refine z_icmp_eq (pc := 18) (tgt := 25) hX dX0_hasTwo_18 rfl ?_ ?_
        · exact z_ls [] rfl (hj2)
        · refine z_iconst (pc := 21) hX dX0_hasTwo_21 ic_1 ?_
          refine z_goto (pc := 22) (tgt := 26) hX dX0_hasTwo_22 rfl ?_
          exact z_retPc (pc := 26) hX dX0_hasTwo_26 (by decide)
theorem hd_X0_paired : yX0_paired.cls ≠ "java/lang/invoke/MethodHandle" ∧ yX0_paired.cls ≠ "java/lang/invoke/VarHandle" ∧ (parseMethodDescriptor yX0_paired.desc).map (fun d => d.parameters.length) = some 1 := by decide +kernel
def f_Co_paired (s : Sto) (i0 : Nat) (i1 : Nat) : Option (Int32) :=
  bP (f_Co_hasTwo s i0 (s 4 i1 3) (s 4 i1 4)) (fun r1 => if r1 = (0 : Int32) ∨ r1 = (1 : Int32) then some r1 else none)
set_option maxRecDepth 100000 in
set_option maxHeartbeats 4000000 in
theorem c_Co_paired {G : Gb} {l : Launch} {o : Sto} {L : Lng} (hG : GA G) (s : Sto) (i0 : Nat) (i1 : Nat) (h0 : V 1 i0) (h1 : V 4 i1) : CT G l (EC o L) pvP (psP s) yX0_paired cX0_paired 2 (some .boolean) 2 43 [.ref (ad G 1 i0), .ref (ad G 4 i1)] s (f_Co_paired s i0 i1) := by
  refine CT.of hG (by decide) (Nat.le_of_ble_eq_true rfl) (fun X hX => ?_)
  have hX : OX G X l cX0_paired 2 "CrownTwo$Court" (some .boolean) 2 43 := hX
  show ZR G X (EC o L) pvP (psP s) 2 s [(0, .ref (ad G 1 i0)), (1, .ref (ad G 4 i1))] [] 0 _
  unfold f_Co_paired
  refine z_aload_n (pc := 0) hX dX0_paired_0 rfl 0 rfl ?_
  refine z_aload_n (pc := 1) hX dX0_paired_1 rfl 1 rfl ?_
  refine gf_4_3C (pc := 2) hX h1 q_74 dX0_paired_2 ?_
  refine z_aload_n (pc := 5) hX dX0_paired_5 rfl 1 rfl ?_
  refine gf_4_4C (pc := 6) hX h1 q_78 dX0_paired_6 ?_
  refine z_rP (run_V (pc := 9) (As := [.int (s 4 i1 3), .int (s 4 i1 4)]) hX (rc_1 h0) ⟨q_485, q_464, q_10⟩ q_462 q_463 hd_X0_hasTwo ⟨Nat.le_of_ble_eq_true rfl, Nat.le_of_ble_eq_true rfl⟩ (c_Co_hasTwo hG s i0 (s 4 i1 3) (s 4 i1 4) h0) rfl rfl (Nat.le_of_ble_eq_true rfl) dX0_paired_9) (fun r1 => ?_)
  exact z_retPz (pc := 12) hX dX0_paired_12
theorem hd_X0_begin : yX0_begin.cls ≠ "java/lang/invoke/MethodHandle" ∧ yX0_begin.cls ≠ "java/lang/invoke/VarHandle" ∧ (parseMethodDescriptor yX0_begin.desc).map (fun d => d.parameters.length) = some 1 := by decide +kernel
def f_Co_begin (s : Sto) (i0 : Nat) (x1 : Int32) : Option (Sto) :=
  bV (f_Mo_begin s i0 x1) (fun s1 => lt (st s1 1 i0 5 (0 : Int32)) (fun s2 => lt (st s2 1 i0 6 (0 : Int32)) (fun s3 => lt (st s3 1 i0 7 (0 : Int32)) (fun s4 => some s4))))
set_option maxRecDepth 100000 in
set_option maxHeartbeats 4000000 in
theorem c_Co_begin {G : Gb} {l : Launch} {o : Sto} {L : Lng} (hG : GA G) (s : Sto) (i0 : Nat) (x1 : Int32) (h0 : V 1 i0) : CT G l (EC o L) pvV psV yX0_begin cX0_begin 2 none 1 21 [.ref (ad G 1 i0), .int x1] s (f_Co_begin s i0 x1) := by
  refine CT.of hG (by decide) (Nat.le_of_ble_eq_true rfl) (fun X hX => ?_)
  have hX : OX G X l cX0_begin 2 "CrownTwo$Court" none 1 21 := hX
  show ZR G X (EC o L) pvV psV 2 s [(0, .ref (ad G 1 i0)), (1, .int x1)] [] 0 _
  unfold f_Co_begin
  refine z_aload_n (pc := 0) hX dX0_begin_0 rfl 0 rfl ?_
  refine gr_1_4C (pc := 1) hX h0 q_207 dX0_begin_1 ?_
  refine z_iload_n (pc := 4) hX dX0_begin_4 rfl 1 rfl ?_
  refine z_rV (run_V (pc := 5) (As := [.int x1]) hX (rc_4 (vr_1_4 h0)) ⟨q_296, q_299, q_3⟩ q_297 q_298 hd_X5_begin ⟨Nat.le_of_ble_eq_true rfl, Nat.le_of_ble_eq_true rfl⟩ (c_Mo_begin hG s i0 x1 (vr_1_4 h0)) rfl rfl (Nat.le_of_ble_eq_true rfl) dX0_begin_5) (fun s1 => ?_)
  refine z_aload_n (pc := 8) hX dX0_begin_8 rfl 0 rfl ?_
  refine z_iconst (pc := 9) hX dX0_begin_9 ic_0 ?_
  refine pf_1_5C (pc := 10) hX h0 q_210 dX0_begin_10 ?_
  refine z_lts (fun s2 => ?_)
  refine z_aload_n (pc := 13) hX dX0_begin_13 rfl 0 rfl ?_
  refine z_iconst (pc := 14) hX dX0_begin_14 ic_0 ?_
  refine pf_1_6C (pc := 15) hX h0 q_213 dX0_begin_15 ?_
  refine z_lts (fun s3 => ?_)
  refine z_aload_n (pc := 18) hX dX0_begin_18 rfl 0 rfl ?_
  refine z_iconst (pc := 19) hX dX0_begin_19 ic_0 ?_
  refine pf_1_7C (pc := 20) hX h0 q_215 dX0_begin_20 ?_
  refine z_lts (fun s4 => ?_)
  exact z_retV (pc := 23) hX dX0_begin_23
theorem hd_X0_become : yX0_become.cls ≠ "java/lang/invoke/MethodHandle" ∧ yX0_become.cls ≠ "java/lang/invoke/VarHandle" ∧ (parseMethodDescriptor yX0_become.desc).map (fun d => d.parameters.length) = some 1 := by decide +kernel
def l_Co_become_99 (i0 : Nat) (i1 : Nat) (rc11 : Sto → Int32 → Option (Sto)) (s9 : Sto) (v2_10 : Int32) : Option (Sto) :=
  if (s9 1 i0 7) ≤ v2_10 then some s9 else if inb v2_10 8 then if inb v2_10 8 then bV (f_Mo_become s9 (4 + 8 * i0 + ix v2_10) (4 + 8 * i1 + ix v2_10)) (fun s14 => rc11 s14 (v2_10 + (1 : Int32))) else none else none
def l_Co_become_68 (i0 : Nat) (i1 : Nat) (K8 : Sto → Option (Sto)) (rc17 : Sto → Int32 → Option (Sto)) (s15 : Sto) (v2_16 : Int32) : Option (Sto) :=
  if (s15 1 i0 6) ≤ v2_16 then K8 s15 else if inb v2_16 6 then if inb v2_16 6 then bV (f_No_become s15 (6 * i0 + ix v2_16) (6 * i1 + ix v2_16)) (fun s20 => rc17 s20 (v2_16 + (1 : Int32))) else none else none
def l_Co_become_37 (i0 : Nat) (i1 : Nat) (K6 : Sto → Option (Sto)) (rc23 : Sto → Int32 → Option (Sto)) (s21 : Sto) (v2_22 : Int32) : Option (Sto) :=
  if (s21 1 i0 5) ≤ v2_22 then K6 s21 else if inb v2_22 6 then if inb v2_22 6 then bV (f_He_become s21 (6 * i0 + ix v2_22) (6 * i1 + ix v2_22)) (fun s26 => rc23 s26 (v2_22 + (1 : Int32))) else none else none
def f_Co_become (s : Sto) (i0 : Nat) (i1 : Nat) : Option (Sto) :=
  bV (f_Mo_become s i0 i1) (fun s1 => lt (st s1 1 i0 5 (s1 1 i1 5)) (fun s2 => lt (st s2 1 i0 6 (s2 1 i1 6)) (fun s3 => lt (st s3 1 i0 7 (s3 1 i1 7)) (fun s4 => jn (fun s5 => jn (fun s7 => fx 1000 (l_Co_become_99 i0 i1) (fun _ _ => none) s7 (0 : Int32)) (fun K8 => fx 1000 (l_Co_become_68 i0 i1 K8) (fun _ _ => none) s5 (0 : Int32))) (fun K6 => fx 1000 (l_Co_become_37 i0 i1 K6) (fun _ _ => none) s4 (0 : Int32))))))
set_option maxRecDepth 100000 in
set_option maxHeartbeats 4000000 in
theorem c_Co_become {G : Gb} {l : Launch} {o : Sto} {L : Lng} (hG : GA G) (s : Sto) (i0 : Nat) (i1 : Nat) (h0 : V 1 i0) (h1 : V 1 i1) : CT G l (EC o L) pvV psV yX0_become cX0_become 3 none 2 46 [.ref (ad G 1 i0), .ref (ad G 1 i1)] s (f_Co_become s i0 i1) := by
  refine CT.of hG (by decide) (Nat.le_of_ble_eq_true rfl) (fun X hX => ?_)
  have hX : OX G X l cX0_become 3 "CrownTwo$Court" none 2 46 := hX
  show ZR G X (EC o L) pvV psV 3 s [(0, .ref (ad G 1 i0)), (1, .ref (ad G 1 i1))] [] 0 _
  unfold f_Co_become
  refine z_aload_n (pc := 0) hX dX0_become_0 rfl 0 rfl ?_
  refine gr_1_4C (pc := 1) hX h0 q_207 dX0_become_1 ?_
  refine z_aload_n (pc := 4) hX dX0_become_4 rfl 1 rfl ?_
  refine gr_1_4C (pc := 5) hX h1 q_207 dX0_become_5 ?_
  refine z_rV (run_V (pc := 8) (As := [.ref (ad G 4 i1)]) hX (rc_4 (vr_1_4 h0)) ⟨q_439, q_442, q_3⟩ q_440 q_441 hd_X5_become ⟨Nat.le_of_ble_eq_true rfl, Nat.le_of_ble_eq_true rfl⟩ (c_Mo_become hG s i0 i1 (vr_1_4 h0) (vr_1_4 h1)) rfl rfl (Nat.le_of_ble_eq_true rfl) dX0_become_8) (fun s1 => ?_)
  refine z_aload_n (pc := 11) hX dX0_become_11 rfl 0 rfl ?_
  refine z_aload_n (pc := 12) hX dX0_become_12 rfl 1 rfl ?_
  refine gf_1_5C (pc := 13) hX h1 q_210 dX0_become_13 ?_
  refine pf_1_5C (pc := 16) hX h0 q_210 dX0_become_16 ?_
  refine z_lts (fun s2 => ?_)
  refine z_aload_n (pc := 19) hX dX0_become_19 rfl 0 rfl ?_
  refine z_aload_n (pc := 20) hX dX0_become_20 rfl 1 rfl ?_
  refine gf_1_6C (pc := 21) hX h1 q_213 dX0_become_21 ?_
  refine pf_1_6C (pc := 24) hX h0 q_213 dX0_become_24 ?_
  refine z_lts (fun s3 => ?_)
  refine z_aload_n (pc := 27) hX dX0_become_27 rfl 0 rfl ?_
  refine z_aload_n (pc := 28) hX dX0_become_28 rfl 1 rfl ?_
  refine gf_1_7C (pc := 29) hX h1 q_215 dX0_become_29 ?_
  refine pf_1_7C (pc := 32) hX h0 q_215 dX0_become_32 ?_
  refine z_lts (fun s4 => ?_)
  refine z_iconst (pc := 35) hX dX0_become_35 ic_0 ?_
  refine z_istore_n (pc := 36) (ls' := [(2, .int (0 : Int32)), (0, .ref (ad G 1 i0)), (1, .ref (ad G 1 i1))]) hX dX0_become_36 rfl (by decide) rfl ?_
  refine z_jn (P := fun K6 => ∀ (s5 : Sto), ZR G X (EC o L) pvV psV 3 s5 [(0, .ref (ad G 1 i0)), (1, .ref (ad G 1 i1))] [] 66 (K6 s5)) ?_ ?_
  · intro s5
    refine z_iconst (pc := 66) hX dX0_become_66 ic_0 ?_
    refine z_istore_n (pc := 67) (ls' := [(2, .int (0 : Int32)), (0, .ref (ad G 1 i0)), (1, .ref (ad G 1 i1))]) hX dX0_become_67 rfl (by decide) rfl ?_
    refine z_jn (P := fun K8 => ∀ (s7 : Sto), ZR G X (EC o L) pvV psV 3 s7 [(0, .ref (ad G 1 i0)), (1, .ref (ad G 1 i1))] [] 97 (K8 s7)) ?_ ?_
    · intro s7
      refine z_iconst (pc := 97) hX dX0_become_97 ic_0 ?_
      refine z_istore_n (pc := 98) (ls' := [(2, .int (0 : Int32)), (0, .ref (ad G 1 i0)), (1, .ref (ad G 1 i1))]) hX dX0_become_98 rfl (by decide) rfl ?_
      refine z_ls [1, 2, 0] rfl ?_
      refine (fx_P (F := l_Co_become_99 i0 i1) (b := (fun _ _ => none)) (fun rc11 => ∀ (s9 : Sto) (v2_10 : Int32), ZR G X (EC o L) pvV psV 3 s9 [(0, .ref (ad G 1 i0)), (1, .ref (ad G 1 i1)), (2, .int v2_10)] [] 99 (rc11 s9 v2_10)) ?_ ?_ 1000) s7 (0 : Int32)
      · intro s9 v2_10; exact z_none
      · intro rc11 hrc11 s9 v2_10
        unfold l_Co_become_99
        refine z_iload_n (pc := 99) hX dX0_become_99 rfl 2 rfl ?_
        refine z_aload_n (pc := 100) hX dX0_become_100 rfl 0 rfl ?_
        refine gf_1_7C (pc := 101) hX h0 q_215 dX0_become_101 ?_
        refine z_icmp_ge (pc := 104) (tgt := 128) hX dX0_become_104 rfl ?_ ?_
        · exact z_retV (pc := 128) hX dX0_become_128
        · refine z_aload_n (pc := 107) hX dX0_become_107 rfl 0 rfl ?_
          refine gr_1_3C (pc := 108) hX h0 q_206 dX0_become_108 ?_
          refine z_iload_n (pc := 111) hX dX0_become_111 rfl 2 rfl ?_
          refine aa_10C (pc := 112) hX (vr_1_10 h0) dX0_become_112 (fun hv12 => ?_)
          refine z_aload_n (pc := 113) hX dX0_become_113 rfl 1 rfl ?_
          refine gr_1_3C (pc := 114) hX h1 q_206 dX0_become_114 ?_
          refine z_iload_n (pc := 117) hX dX0_become_117 rfl 2 rfl ?_
          refine aa_10C (pc := 118) hX (vr_1_10 h1) dX0_become_118 (fun hv13 => ?_)
          refine z_rV (run_V (pc := 119) (As := [.ref (ad G 4 (4 + 8 * i1 + ix v2_10))]) hX (rc_4 hv12) ⟨q_439, q_442, q_3⟩ q_440 q_441 hd_X5_become ⟨Nat.le_of_ble_eq_true rfl, Nat.le_of_ble_eq_true rfl⟩ (c_Mo_become hG s9 (4 + 8 * i0 + ix v2_10) (4 + 8 * i1 + ix v2_10) hv12 hv13) rfl rfl (Nat.le_of_ble_eq_true rfl) dX0_become_119) (fun s14 => ?_)
          refine z_iinc (pc := 122) (n := 2) (v := v2_10 + (1 : Int32)) (ls' := [(2, .int (v2_10 + (1 : Int32))), (0, .ref (ad G 1 i0)), (1, .ref (ad G 1 i1))]) hX dX0_become_122 rfl (by rw [show Int32.ofInt (1) = 1 by decide +kernel]) (by decide) rfl ?_
          refine z_goto (pc := 125) (tgt := 99) hX dX0_become_125 rfl ?_
          exact z_ls [1, 2, 0] rfl (hrc11 s14 (v2_10 + (1 : Int32)))
    · intro K8 hK8
      refine z_ls [1, 2, 0] rfl ?_
      refine (fx_P (F := l_Co_become_68 i0 i1 K8) (b := (fun _ _ => none)) (fun rc17 => ∀ (s15 : Sto) (v2_16 : Int32), ZR G X (EC o L) pvV psV 3 s15 [(0, .ref (ad G 1 i0)), (1, .ref (ad G 1 i1)), (2, .int v2_16)] [] 68 (rc17 s15 v2_16)) ?_ ?_ 1000) s5 (0 : Int32)
      · intro s15 v2_16; exact z_none
      · intro rc17 hrc17 s15 v2_16
        unfold l_Co_become_68
        refine z_iload_n (pc := 68) hX dX0_become_68 rfl 2 rfl ?_
        refine z_aload_n (pc := 69) hX dX0_become_69 rfl 0 rfl ?_
        refine gf_1_6C (pc := 70) hX h0 q_213 dX0_become_70 ?_
        refine z_icmp_ge (pc := 73) (tgt := 97) hX dX0_become_73 rfl ?_ ?_
        · exact z_ls [0, 1] rfl (hK8 s15)
        · refine z_aload_n (pc := 76) hX dX0_become_76 rfl 0 rfl ?_
          refine gr_1_2C (pc := 77) hX h0 q_204 dX0_become_77 ?_
          refine z_iload_n (pc := 80) hX dX0_become_80 rfl 2 rfl ?_
          refine aa_9C (pc := 81) hX (vr_1_9 h0) dX0_become_81 (fun hv18 => ?_)
          refine z_aload_n (pc := 82) hX dX0_become_82 rfl 1 rfl ?_
          refine gr_1_2C (pc := 83) hX h1 q_204 dX0_become_83 ?_
          refine z_iload_n (pc := 86) hX dX0_become_86 rfl 2 rfl ?_
          refine aa_9C (pc := 87) hX (vr_1_9 h1) dX0_become_87 (fun hv19 => ?_)
          refine z_rV (run_V (pc := 88) (As := [.ref (ad G 3 (6 * i1 + ix v2_16))]) hX (rc_3 hv18) ⟨q_448, q_451, q_12⟩ q_449 q_450 hd_X6_become ⟨Nat.le_of_ble_eq_true rfl, Nat.le_of_ble_eq_true rfl⟩ (c_No_become hG s15 (6 * i0 + ix v2_16) (6 * i1 + ix v2_16) hv18 hv19) rfl rfl (Nat.le_of_ble_eq_true rfl) dX0_become_88) (fun s20 => ?_)
          refine z_iinc (pc := 91) (n := 2) (v := v2_16 + (1 : Int32)) (ls' := [(2, .int (v2_16 + (1 : Int32))), (0, .ref (ad G 1 i0)), (1, .ref (ad G 1 i1))]) hX dX0_become_91 rfl (by rw [show Int32.ofInt (1) = 1 by decide +kernel]) (by decide) rfl ?_
          refine z_goto (pc := 94) (tgt := 68) hX dX0_become_94 rfl ?_
          exact z_ls [1, 2, 0] rfl (hrc17 s20 (v2_16 + (1 : Int32)))
  · intro K6 hK6
    refine z_ls [1, 2, 0] rfl ?_
    refine (fx_P (F := l_Co_become_37 i0 i1 K6) (b := (fun _ _ => none)) (fun rc23 => ∀ (s21 : Sto) (v2_22 : Int32), ZR G X (EC o L) pvV psV 3 s21 [(0, .ref (ad G 1 i0)), (1, .ref (ad G 1 i1)), (2, .int v2_22)] [] 37 (rc23 s21 v2_22)) ?_ ?_ 1000) s4 (0 : Int32)
    · intro s21 v2_22; exact z_none
    · intro rc23 hrc23 s21 v2_22
      unfold l_Co_become_37
      refine z_iload_n (pc := 37) hX dX0_become_37 rfl 2 rfl ?_
      refine z_aload_n (pc := 38) hX dX0_become_38 rfl 0 rfl ?_
      refine gf_1_5C (pc := 39) hX h0 q_210 dX0_become_39 ?_
      refine z_icmp_ge (pc := 42) (tgt := 66) hX dX0_become_42 rfl ?_ ?_
      · exact z_ls [0, 1] rfl (hK6 s21)
      · refine z_aload_n (pc := 45) hX dX0_become_45 rfl 0 rfl ?_
        refine gr_1_1C (pc := 46) hX h0 q_201 dX0_become_46 ?_
        refine z_iload_n (pc := 49) hX dX0_become_49 rfl 2 rfl ?_
        refine aa_8C (pc := 50) hX (vr_1_8 h0) dX0_become_50 (fun hv24 => ?_)
        refine z_aload_n (pc := 51) hX dX0_become_51 rfl 1 rfl ?_
        refine gr_1_1C (pc := 52) hX h1 q_201 dX0_become_52 ?_
        refine z_iload_n (pc := 55) hX dX0_become_55 rfl 2 rfl ?_
        refine aa_8C (pc := 56) hX (vr_1_8 h1) dX0_become_56 (fun hv25 => ?_)
        refine z_rV (run_V (pc := 57) (As := [.ref (ad G 2 (6 * i1 + ix v2_22))]) hX (rc_2 hv24) ⟨q_443, q_446, q_11⟩ q_444 q_445 hd_X3_become ⟨Nat.le_of_ble_eq_true rfl, Nat.le_of_ble_eq_true rfl⟩ (c_He_become hG s21 (6 * i0 + ix v2_22) (6 * i1 + ix v2_22) hv24 hv25) rfl rfl (Nat.le_of_ble_eq_true rfl) dX0_become_57) (fun s26 => ?_)
        refine z_iinc (pc := 60) (n := 2) (v := v2_22 + (1 : Int32)) (ls' := [(2, .int (v2_22 + (1 : Int32))), (0, .ref (ad G 1 i0)), (1, .ref (ad G 1 i1))]) hX dX0_become_60 rfl (by rw [show Int32.ofInt (1) = 1 by decide +kernel]) (by decide) rfl ?_
        refine z_goto (pc := 63) (tgt := 37) hX dX0_become_63 rfl ?_
        exact z_ls [1, 2, 0] rfl (hrc23 s26 (v2_22 + (1 : Int32)))
theorem hd_X0_admit : yX0_admit.cls ≠ "java/lang/invoke/MethodHandle" ∧ yX0_admit.cls ≠ "java/lang/invoke/VarHandle" ∧ (parseMethodDescriptor yX0_admit.desc).map (fun d => d.parameters.length) = some 4 := by decide +kernel
def f_Co_admit (s : Sto) (i0 : Nat) (x1 : Int32) (x2 : Int32) (x3 : Int32) (x4 : Int32) : Option (Int32 × Sto) :=
  if (s 1 i0 5) < (6 : Int32) then if inb (s 1 i0 5) 6 then bV (f_He_put s (6 * i0 + ix (s 1 i0 5)) x1 x2 x3 x4) (fun s2 => lt (st s2 1 i0 7 (0 : Int32)) (fun s3 => lt (st s3 1 i0 5 ((s3 1 i0 5) + (1 : Int32))) (fun s4 => some ((s4 1 i0 5) - (1 : Int32), s4)))) else none else some ((-4 : Int32), s)
set_option maxRecDepth 100000 in
set_option maxHeartbeats 4000000 in
theorem c_Co_admit {G : Gb} {l : Launch} {o : Sto} {L : Lng} (hG : GA G) (s : Sto) (i0 : Nat) (x1 : Int32) (x2 : Int32) (x3 : Int32) (x4 : Int32) (h0 : V 1 i0) : CT G l (EC o L) pvI psI yX0_admit cX0_admit 5 (some .int) 1 24 [.ref (ad G 1 i0), .int x1, .int x2, .int x3, .int x4] s (f_Co_admit s i0 x1 x2 x3 x4) := by
  refine CT.of hG (by decide) (Nat.le_of_ble_eq_true rfl) (fun X hX => ?_)
  have hX : OX G X l cX0_admit 5 "CrownTwo$Court" (some .int) 1 24 := hX
  show ZR G X (EC o L) pvI psI 5 s [(0, .ref (ad G 1 i0)), (1, .int x1), (2, .int x2), (3, .int x3), (4, .int x4)] [] 0 _
  unfold f_Co_admit
  refine z_aload_n (pc := 0) hX dX0_admit_0 rfl 0 rfl ?_
  refine gf_1_5C (pc := 1) hX h0 q_210 dX0_admit_1 ?_
  refine z_bipush (pc := 4) hX dX0_admit_4 bp_6 ?_
  refine z_icmp_lt (pc := 6) (tgt := 12) hX dX0_admit_6 rfl ?_ ?_
  · refine z_aload_n (pc := 12) hX dX0_admit_12 rfl 0 rfl ?_
    refine gr_1_1C (pc := 13) hX h0 q_201 dX0_admit_13 ?_
    refine z_aload_n (pc := 16) hX dX0_admit_16 rfl 0 rfl ?_
    refine gf_1_5C (pc := 17) hX h0 q_210 dX0_admit_17 ?_
    refine aa_8C (pc := 20) hX (vr_1_8 h0) dX0_admit_20 (fun hv1 => ?_)
    refine z_iload_n (pc := 21) hX dX0_admit_21 rfl 1 rfl ?_
    refine z_iload_n (pc := 22) hX dX0_admit_22 rfl 2 rfl ?_
    refine z_iload_n (pc := 23) hX dX0_admit_23 rfl 3 rfl ?_
    refine z_iload (pc := 24) hX dX0_admit_24 4 rfl ?_
    refine z_rV (run_V (pc := 26) (As := [.int x1, .int x2, .int x3, .int x4]) hX (rc_2 hv1) ⟨q_312, q_315, q_11⟩ q_313 q_314 hd_X3_put ⟨Nat.le_of_ble_eq_true rfl, Nat.le_of_ble_eq_true rfl⟩ (c_He_put hG s (6 * i0 + ix (s 1 i0 5)) x1 x2 x3 x4 hv1) rfl rfl (Nat.le_of_ble_eq_true rfl) dX0_admit_26) (fun s2 => ?_)
    refine z_aload_n (pc := 29) hX dX0_admit_29 rfl 0 rfl ?_
    refine z_iconst (pc := 30) hX dX0_admit_30 ic_0 ?_
    refine pf_1_7C (pc := 31) hX h0 q_215 dX0_admit_31 ?_
    refine z_lts (fun s3 => ?_)
    refine z_aload_n (pc := 34) hX dX0_admit_34 rfl 0 rfl ?_
    refine z_dup (pc := 35) hX dX0_admit_35 rfl ?_
    refine gf_1_5C (pc := 36) hX h0 q_210 dX0_admit_36 ?_
    refine z_iconst (pc := 39) hX dX0_admit_39 ic_1 ?_
    refine z_iadd (pc := 40) hX dX0_admit_40 ?_
    refine pf_1_5C (pc := 41) hX h0 q_210 dX0_admit_41 ?_
    refine z_lts (fun s4 => ?_)
    refine z_aload_n (pc := 44) hX dX0_admit_44 rfl 0 rfl ?_
    refine gf_1_5C (pc := 45) hX h0 q_210 dX0_admit_45 ?_
    refine z_iconst (pc := 48) hX dX0_admit_48 ic_1 ?_
    refine z_isub (pc := 49) hX dX0_admit_49 ?_
    exact z_retI (pc := 50) hX dX0_admit_50
  · refine z_bipush (pc := 9) hX dX0_admit_9 bp_m4 ?_
    exact z_retI (pc := 11) hX dX0_admit_11
theorem hd_X0_forgetOldest : yX0_forgetOldest.cls ≠ "java/lang/invoke/MethodHandle" ∧ yX0_forgetOldest.cls ≠ "java/lang/invoke/VarHandle" ∧ (parseMethodDescriptor yX0_forgetOldest.desc).map (fun d => d.parameters.length) = some 0 := by decide +kernel
def l_Co_forgetOldest_2 (i0 : Nat) (rc3 : Sto → Int32 → Option (Sto)) (s1 : Sto) (v1_2 : Int32) : Option (Sto) :=
  if (8 : Int32) ≤ v1_2 then lt (st s1 1 i0 7 (7 : Int32)) (fun s4 => some s4) else if inb (v1_2 - (1 : Int32)) 8 then if inb v1_2 8 then bV (f_Mo_become s1 (4 + 8 * i0 + ix (v1_2 - (1 : Int32))) (4 + 8 * i0 + ix v1_2)) (fun s7 => rc3 s7 (v1_2 + (1 : Int32))) else none else none
def f_Co_forgetOldest (s : Sto) (i0 : Nat) : Option (Sto) :=
  fx 1000 (l_Co_forgetOldest_2 i0) (fun _ _ => none) s (1 : Int32)
set_option maxRecDepth 100000 in
set_option maxHeartbeats 4000000 in
theorem c_Co_forgetOldest {G : Gb} {l : Launch} {o : Sto} {L : Lng} (hG : GA G) (s : Sto) (i0 : Nat) (h0 : V 1 i0) : CT G l (EC o L) pvV psV yX0_forgetOldest cX0_forgetOldest 2 none 1 21 [.ref (ad G 1 i0)] s (f_Co_forgetOldest s i0) := by
  refine CT.of hG (by decide) (Nat.le_of_ble_eq_true rfl) (fun X hX => ?_)
  have hX : OX G X l cX0_forgetOldest 2 "CrownTwo$Court" none 1 21 := hX
  show ZR G X (EC o L) pvV psV 2 s [(0, .ref (ad G 1 i0))] [] 0 _
  unfold f_Co_forgetOldest
  refine z_iconst (pc := 0) hX dX0_forgetOldest_0 ic_1 ?_
  refine z_istore_n (pc := 1) (ls' := [(1, .int (1 : Int32)), (0, .ref (ad G 1 i0))]) hX dX0_forgetOldest_1 rfl (by decide) rfl ?_
  refine z_ls [1, 0] rfl ?_
  refine (fx_P (F := l_Co_forgetOldest_2 i0) (b := (fun _ _ => none)) (fun rc3 => ∀ (s1 : Sto) (v1_2 : Int32), ZR G X (EC o L) pvV psV 2 s1 [(0, .ref (ad G 1 i0)), (1, .int v1_2)] [] 2 (rc3 s1 v1_2)) ?_ ?_ 1000) s (1 : Int32)
  · intro s1 v1_2; exact z_none
  · intro rc3 hrc3 s1 v1_2
    unfold l_Co_forgetOldest_2
    refine z_iload_n (pc := 2) hX dX0_forgetOldest_2 rfl 1 rfl ?_
    refine z_bipush (pc := 3) hX dX0_forgetOldest_3 bp_8 ?_
    refine z_icmp_ge (pc := 5) (tgt := 31) hX dX0_forgetOldest_5 rfl ?_ ?_
    · refine z_aload_n (pc := 31) hX dX0_forgetOldest_31 rfl 0 rfl ?_
      refine z_bipush (pc := 32) hX dX0_forgetOldest_32 bp_7 ?_
      refine pf_1_7C (pc := 34) hX h0 q_215 dX0_forgetOldest_34 ?_
      refine z_lts (fun s4 => ?_)
      exact z_retV (pc := 37) hX dX0_forgetOldest_37
    · refine z_aload_n (pc := 8) hX dX0_forgetOldest_8 rfl 0 rfl ?_
      refine gr_1_3C (pc := 9) hX h0 q_206 dX0_forgetOldest_9 ?_
      refine z_iload_n (pc := 12) hX dX0_forgetOldest_12 rfl 1 rfl ?_
      refine z_iconst (pc := 13) hX dX0_forgetOldest_13 ic_1 ?_
      refine z_isub (pc := 14) hX dX0_forgetOldest_14 ?_
      refine aa_10C (pc := 15) hX (vr_1_10 h0) dX0_forgetOldest_15 (fun hv5 => ?_)
      refine z_aload_n (pc := 16) hX dX0_forgetOldest_16 rfl 0 rfl ?_
      refine gr_1_3C (pc := 17) hX h0 q_206 dX0_forgetOldest_17 ?_
      refine z_iload_n (pc := 20) hX dX0_forgetOldest_20 rfl 1 rfl ?_
      refine aa_10C (pc := 21) hX (vr_1_10 h0) dX0_forgetOldest_21 (fun hv6 => ?_)
      refine z_rV (run_V (pc := 22) (As := [.ref (ad G 4 (4 + 8 * i0 + ix v1_2))]) hX (rc_4 hv5) ⟨q_439, q_442, q_3⟩ q_440 q_441 hd_X5_become ⟨Nat.le_of_ble_eq_true rfl, Nat.le_of_ble_eq_true rfl⟩ (c_Mo_become hG s1 (4 + 8 * i0 + ix (v1_2 - (1 : Int32))) (4 + 8 * i0 + ix v1_2) hv5 hv6) rfl rfl (Nat.le_of_ble_eq_true rfl) dX0_forgetOldest_22) (fun s7 => ?_)
      refine z_iinc (pc := 25) (n := 1) (v := v1_2 + (1 : Int32)) (ls' := [(1, .int (v1_2 + (1 : Int32))), (0, .ref (ad G 1 i0))]) hX dX0_forgetOldest_25 rfl (by rw [show Int32.ofInt (1) = 1 by decide +kernel]) (by decide) rfl ?_
      refine z_goto (pc := 28) (tgt := 2) hX dX0_forgetOldest_28 rfl ?_
      exact z_ls [1, 0] rfl (hrc3 s7 (v1_2 + (1 : Int32)))
theorem hd_X0_goBack : yX0_goBack.cls ≠ "java/lang/invoke/MethodHandle" ∧ yX0_goBack.cls ≠ "java/lang/invoke/VarHandle" ∧ (parseMethodDescriptor yX0_goBack.desc).map (fun d => d.parameters.length) = some 0 := by decide +kernel
def f_Co_goBack (s : Sto) (i0 : Nat) : Option (Sto) :=
  if (0 : Int32) < (s 1 i0 7) then lt (st s 1 i0 7 ((s 1 i0 7) - (1 : Int32))) (fun s1 => if inb (s1 1 i0 7) 8 then bV (f_Mo_become s1 i0 (4 + 8 * i0 + ix (s1 1 i0 7))) (fun s3 => some s3) else none) else some s
set_option maxRecDepth 100000 in
set_option maxHeartbeats 4000000 in
theorem c_Co_goBack {G : Gb} {l : Launch} {o : Sto} {L : Lng} (hG : GA G) (s : Sto) (i0 : Nat) (h0 : V 1 i0) : CT G l (EC o L) pvV psV yX0_goBack cX0_goBack 1 none 1 21 [.ref (ad G 1 i0)] s (f_Co_goBack s i0) := by
  refine CT.of hG (by decide) (Nat.le_of_ble_eq_true rfl) (fun X hX => ?_)
  have hX : OX G X l cX0_goBack 1 "CrownTwo$Court" none 1 21 := hX
  show ZR G X (EC o L) pvV psV 1 s [(0, .ref (ad G 1 i0))] [] 0 _
  unfold f_Co_goBack
  refine z_aload_n (pc := 0) hX dX0_goBack_0 rfl 0 rfl ?_
  refine gf_1_7C (pc := 1) hX h0 q_215 dX0_goBack_1 ?_
  refine z_if_gt (pc := 4) (tgt := 8) hX dX0_goBack_4 rfl ?_ ?_
  · refine z_aload_n (pc := 8) hX dX0_goBack_8 rfl 0 rfl ?_
    refine z_dup (pc := 9) hX dX0_goBack_9 rfl ?_
    refine gf_1_7C (pc := 10) hX h0 q_215 dX0_goBack_10 ?_
    refine z_iconst (pc := 13) hX dX0_goBack_13 ic_1 ?_
    refine z_isub (pc := 14) hX dX0_goBack_14 ?_
    refine pf_1_7C (pc := 15) hX h0 q_215 dX0_goBack_15 ?_
    refine z_lts (fun s1 => ?_)
    refine z_aload_n (pc := 18) hX dX0_goBack_18 rfl 0 rfl ?_
    refine gr_1_4C (pc := 19) hX h0 q_207 dX0_goBack_19 ?_
    refine z_aload_n (pc := 22) hX dX0_goBack_22 rfl 0 rfl ?_
    refine gr_1_3C (pc := 23) hX h0 q_206 dX0_goBack_23 ?_
    refine z_aload_n (pc := 26) hX dX0_goBack_26 rfl 0 rfl ?_
    refine gf_1_7C (pc := 27) hX h0 q_215 dX0_goBack_27 ?_
    refine aa_10C (pc := 30) hX (vr_1_10 h0) dX0_goBack_30 (fun hv2 => ?_)
    refine z_rV (run_V (pc := 31) (As := [.ref (ad G 4 (4 + 8 * i0 + ix (s1 1 i0 7)))]) hX (rc_4 (vr_1_4 h0)) ⟨q_439, q_442, q_3⟩ q_440 q_441 hd_X5_become ⟨Nat.le_of_ble_eq_true rfl, Nat.le_of_ble_eq_true rfl⟩ (c_Mo_become hG s1 i0 (4 + 8 * i0 + ix (s1 1 i0 7)) (vr_1_4 h0) hv2) rfl rfl (Nat.le_of_ble_eq_true rfl) dX0_goBack_31) (fun s3 => ?_)
    exact z_retV (pc := 34) hX dX0_goBack_34
  · exact z_retV (pc := 7) hX dX0_goBack_7
theorem hd_X0_remember : yX0_remember.cls ≠ "java/lang/invoke/MethodHandle" ∧ yX0_remember.cls ≠ "java/lang/invoke/VarHandle" ∧ (parseMethodDescriptor yX0_remember.desc).map (fun d => d.parameters.length) = some 0 := by decide +kernel
def f_Co_remember (s : Sto) (i0 : Nat) : Option (Sto) :=
  jn (fun s1 => if inb (s1 1 i0 7) 8 then bV (f_Mo_become s1 (4 + 8 * i0 + ix (s1 1 i0 7)) i0) (fun s4 => lt (st s4 1 i0 7 ((s4 1 i0 7) + (1 : Int32))) (fun s5 => some s5)) else none) (fun j2 => if (s 1 i0 7) < (8 : Int32) then j2 s else bV (f_Co_forgetOldest s i0) (fun s6 => j2 s6))
set_option maxRecDepth 100000 in
set_option maxHeartbeats 4000000 in
theorem c_Co_remember {G : Gb} {l : Launch} {o : Sto} {L : Lng} (hG : GA G) (s : Sto) (i0 : Nat) (h0 : V 1 i0) : CT G l (EC o L) pvV psV yX0_remember cX0_remember 1 none 2 42 [.ref (ad G 1 i0)] s (f_Co_remember s i0) := by
  refine CT.of hG (by decide) (Nat.le_of_ble_eq_true rfl) (fun X hX => ?_)
  have hX : OX G X l cX0_remember 1 "CrownTwo$Court" none 2 42 := hX
  show ZR G X (EC o L) pvV psV 1 s [(0, .ref (ad G 1 i0))] [] 0 _
  unfold f_Co_remember
  refine z_aload_n (pc := 0) hX dX0_remember_0 rfl 0 rfl ?_
  refine gf_1_7C (pc := 1) hX h0 q_215 dX0_remember_1 ?_
  refine z_bipush (pc := 4) hX dX0_remember_4 bp_8 ?_
  refine z_jn (P := fun j2 => ∀ (s1 : Sto), ZR G X (EC o L) pvV psV 1 s1 [(0, .ref (ad G 1 i0))] [] 13 (j2 s1)) ?_ ?_
  · intro s1
    refine z_aload_n (pc := 13) hX dX0_remember_13 rfl 0 rfl ?_
    refine gr_1_3C (pc := 14) hX h0 q_206 dX0_remember_14 ?_
    refine z_aload_n (pc := 17) hX dX0_remember_17 rfl 0 rfl ?_
    refine gf_1_7C (pc := 18) hX h0 q_215 dX0_remember_18 ?_
    refine aa_10C (pc := 21) hX (vr_1_10 h0) dX0_remember_21 (fun hv3 => ?_)
    refine z_aload_n (pc := 22) hX dX0_remember_22 rfl 0 rfl ?_
    refine gr_1_4C (pc := 23) hX h0 q_207 dX0_remember_23 ?_
    refine z_rV (run_V (pc := 26) (As := [.ref (ad G 4 i0)]) hX (rc_4 hv3) ⟨q_439, q_442, q_3⟩ q_440 q_441 hd_X5_become ⟨Nat.le_of_ble_eq_true rfl, Nat.le_of_ble_eq_true rfl⟩ (c_Mo_become hG s1 (4 + 8 * i0 + ix (s1 1 i0 7)) i0 hv3 (vr_1_4 h0)) rfl rfl (Nat.le_of_ble_eq_true rfl) dX0_remember_26) (fun s4 => ?_)
    refine z_aload_n (pc := 29) hX dX0_remember_29 rfl 0 rfl ?_
    refine z_dup (pc := 30) hX dX0_remember_30 rfl ?_
    refine gf_1_7C (pc := 31) hX h0 q_215 dX0_remember_31 ?_
    refine z_iconst (pc := 34) hX dX0_remember_34 ic_1 ?_
    refine z_iadd (pc := 35) hX dX0_remember_35 ?_
    refine pf_1_7C (pc := 36) hX h0 q_215 dX0_remember_36 ?_
    refine z_lts (fun s5 => ?_)
    exact z_retV (pc := 39) hX dX0_remember_39
  · intro j2 hj2
    refine z_icmp_lt (pc := 6) (tgt := 13) hX dX0_remember_6 rfl ?_ ?_
    · exact z_ls [0] rfl (hj2 s)
    · refine z_aload_n (pc := 9) hX dX0_remember_9 rfl 0 rfl ?_
      refine z_rV (run_V (pc := 10) (As := []) hX (rc_1 h0) ⟨q_473, q_476, q_10⟩ q_475 qs_12 hd_X0_forgetOldest ⟨Nat.le_of_ble_eq_true rfl, Nat.le_of_ble_eq_true rfl⟩ (c_Co_forgetOldest hG s i0 h0) rfl rfl (Nat.le_of_ble_eq_true rfl) dX0_remember_10) (fun s6 => ?_)
      exact z_ls [0] rfl (hj2 s6)
theorem hd_X0_lifts : yX0_lifts.cls ≠ "java/lang/invoke/MethodHandle" ∧ yX0_lifts.cls ≠ "java/lang/invoke/VarHandle" ∧ (parseMethodDescriptor yX0_lifts.desc).map (fun d => d.parameters.length) = some 5 := by decide +kernel
def f_Co_lifts (s : Sto) (i0 : Nat) (x1 : Int32) (x2 : Int32) (x3 : Int32) (x4 : Int32) (x5 : Int32) : Option (Int32) :=
  if inb x1 6 then if inb x2 6 then bP (f_He_likesAlone s (6 * i0 + ix x1) x3) (fun r3 => bP (f_He_hatesAlone s (6 * i0 + ix x1) x3) (fun r4 => bP (dy_lifts (ix x2) r3 r4 x4 x5) (fun r5 => if r5 = (0 : Int32) ∨ r5 = (1 : Int32) then some r5 else none))) else none else none
set_option maxRecDepth 100000 in
set_option maxHeartbeats 4000000 in
theorem c_Co_lifts {G : Gb} {l : Launch} {o : Sto} {L : Lng} (hG : GA G) (s : Sto) (i0 : Nat) (x1 : Int32) (x2 : Int32) (x3 : Int32) (x4 : Int32) (x5 : Int32) (h0 : V 1 i0) : CT G l (EC o L) pvP (psP s) yX0_lifts cX0_lifts 7 (some .boolean) 3 72 [.ref (ad G 1 i0), .int x1, .int x2, .int x3, .int x4, .int x5] s (f_Co_lifts s i0 x1 x2 x3 x4 x5) := by
  refine CT.of hG (by decide) (Nat.le_of_ble_eq_true rfl) (fun X hX => ?_)
  have hX : OX G X l cX0_lifts 7 "CrownTwo$Court" (some .boolean) 3 72 := hX
  show ZR G X (EC o L) pvP (psP s) 7 s [(0, .ref (ad G 1 i0)), (1, .int x1), (2, .int x2), (3, .int x3), (4, .int x4), (5, .int x5)] [] 0 _
  unfold f_Co_lifts
  refine z_aload_n (pc := 0) hX dX0_lifts_0 rfl 0 rfl ?_
  refine gr_1_1C (pc := 1) hX h0 q_201 dX0_lifts_1 ?_
  refine z_iload_n (pc := 4) hX dX0_lifts_4 rfl 1 rfl ?_
  refine aa_8C (pc := 5) hX (vr_1_8 h0) dX0_lifts_5 (fun hv1 => ?_)
  refine z_astore (pc := 6) (ls' := [(6, .ref (ad G 2 (6 * i0 + ix x1))), (0, .ref (ad G 1 i0)), (1, .int x1), (2, .int x2), (3, .int x3), (4, .int x4), (5, .int x5)]) hX dX0_lifts_6 (by decide) rfl ?_
  refine z_aload_n (pc := 8) hX dX0_lifts_8 rfl 1 rfl ?_
  refine gr_1_0C (pc := 9) hX h0 q_200 dX0_lifts_9 ?_
  refine z_iload_n (pc := 12) hX dX0_lifts_12 rfl 3 rfl ?_
  refine aa_7C (pc := 13) hX dX0_lifts_13 (fun hv2 => ?_)
  refine z_aload (pc := 14) hX dX0_lifts_14 0 rfl ?_
  refine z_iload_n (pc := 16) hX dX0_lifts_16 rfl 4 rfl ?_
  refine z_rP (run_V (pc := 17) (As := [.int x3]) hX (rc_2 hv1) ⟨q_506, q_509, q_11⟩ q_507 q_508 hd_X3_likesAlone ⟨Nat.le_of_ble_eq_true rfl, Nat.le_of_ble_eq_true rfl⟩ (c_He_likesAlone hG s (6 * i0 + ix x1) x3 hv1) rfl rfl (Nat.le_of_ble_eq_true rfl) dX0_lifts_17) (fun r3 => ?_)
  refine z_aload (pc := 20) hX dX0_lifts_20 0 rfl ?_
  refine z_iload_n (pc := 22) hX dX0_lifts_22 rfl 4 rfl ?_
  refine z_rP (run_V (pc := 23) (As := [.int x3]) hX (rc_2 hv1) ⟨q_510, q_513, q_11⟩ q_511 q_512 hd_X3_hatesAlone ⟨Nat.le_of_ble_eq_true rfl, Nat.le_of_ble_eq_true rfl⟩ (c_He_hatesAlone hG s (6 * i0 + ix x1) x3 hv1) rfl rfl (Nat.le_of_ble_eq_true rfl) dX0_lifts_23) (fun r4 => ?_)
  refine z_iload (pc := 26) hX dX0_lifts_26 5 rfl ?_
  refine z_iload (pc := 28) hX dX0_lifts_28 6 rfl ?_
  refine z_rP (dyr_lifts (pc := 30) hX hG hv2 (Nat.le_of_ble_eq_true rfl) (Nat.le_of_ble_eq_true rfl) (Nat.le_of_ble_eq_true rfl) dX0_lifts_30) (fun r5 => ?_)
  exact z_retPz (pc := 33) hX dX0_lifts_33
theorem hd_X0_liftersIn : yX0_liftersIn.cls ≠ "java/lang/invoke/MethodHandle" ∧ yX0_liftersIn.cls ≠ "java/lang/invoke/VarHandle" ∧ (parseMethodDescriptor yX0_liftersIn.desc).map (fun d => d.parameters.length) = some 2 := by decide +kernel
def f_Co_liftersIn (s : Sto) (i0 : Nat) (i1 : Nat) (x2 : Int32) : Option (Int32) :=
  lt (s 4 i1 3) (fun v3_1 => lt (s 4 i1 4) (fun v4_2 => if inb v3_1 6 then bP (f_Co_lifts s i0 v3_1 (s 2 (6 * i0 + ix v3_1) 0) x2 (s 4 i1 0) (s 4 i1 1)) (fun r4 => jn (fun v5_5 => if inb v4_2 6 then bP (f_Co_lifts s i0 v4_2 (s 2 (6 * i0 + ix v4_2) 0) x2 (s 4 i1 0) (s 4 i1 1)) (fun r8 => if r8 = (0 : Int32) then some v5_5 else lt (v5_5 ||| (2 : Int32)) (fun v5_9 => some v5_9)) else none) (fun j6 => if r4 = (0 : Int32) then j6 (0 : Int32) else lt ((0 : Int32) ||| (1 : Int32)) (fun v5_10 => j6 v5_10))) else none))
set_option maxRecDepth 100000 in
set_option maxHeartbeats 4000000 in
theorem c_Co_liftersIn {G : Gb} {l : Launch} {o : Sto} {L : Lng} (hG : GA G) (s : Sto) (i0 : Nat) (i1 : Nat) (x2 : Int32) (h0 : V 1 i0) (h1 : V 4 i1) : CT G l (EC o L) pvP (psP s) yX0_liftersIn cX0_liftersIn 6 (some .int) 4 98 [.ref (ad G 1 i0), .ref (ad G 4 i1), .int x2] s (f_Co_liftersIn s i0 i1 x2) := by
  refine CT.of hG (by decide) (Nat.le_of_ble_eq_true rfl) (fun X hX => ?_)
  have hX : OX G X l cX0_liftersIn 6 "CrownTwo$Court" (some .int) 4 98 := hX
  show ZR G X (EC o L) pvP (psP s) 6 s [(0, .ref (ad G 1 i0)), (1, .ref (ad G 4 i1)), (2, .int x2)] [] 0 _
  unfold f_Co_liftersIn
  refine z_aload_n (pc := 0) hX dX0_liftersIn_0 rfl 1 rfl ?_
  refine gf_4_3C (pc := 1) hX h1 q_74 dX0_liftersIn_1 ?_
  refine z_lti (pc := 4) (fun v3_1 => ?_)
  refine z_istore_n (pc := 4) (ls' := [(3, .int v3_1), (0, .ref (ad G 1 i0)), (1, .ref (ad G 4 i1)), (2, .int x2)]) hX dX0_liftersIn_4 rfl (by decide) rfl ?_
  refine z_aload_n (pc := 5) hX dX0_liftersIn_5 rfl 2 rfl ?_
  refine gf_4_4C (pc := 6) hX h1 q_78 dX0_liftersIn_6 ?_
  refine z_lti (pc := 9) (fun v4_2 => ?_)
  refine z_istore (pc := 9) (ls' := [(4, .int v4_2), (3, .int v3_1), (0, .ref (ad G 1 i0)), (1, .ref (ad G 4 i1)), (2, .int x2)]) hX dX0_liftersIn_9 (by decide) rfl ?_
  refine z_iconst (pc := 11) hX dX0_liftersIn_11 ic_0 ?_
  refine z_istore (pc := 12) (ls' := [(5, .int (0 : Int32)), (4, .int v4_2), (3, .int v3_1), (0, .ref (ad G 1 i0)), (1, .ref (ad G 4 i1)), (2, .int x2)]) hX dX0_liftersIn_12 (by decide) rfl ?_
  refine z_aload_n (pc := 14) hX dX0_liftersIn_14 rfl 3 rfl ?_
  refine z_iload_n (pc := 15) hX dX0_liftersIn_15 rfl 2 rfl ?_
  refine z_aload_n (pc := 16) hX dX0_liftersIn_16 rfl 3 rfl ?_
  refine gr_1_1C (pc := 17) hX h0 q_201 dX0_liftersIn_17 ?_
  refine z_iload_n (pc := 20) hX dX0_liftersIn_20 rfl 2 rfl ?_
  refine aa_8C (pc := 21) hX (vr_1_8 h0) dX0_liftersIn_21 (fun hv3 => ?_)
  refine gf_2_0C (pc := 22) hX hv3 q_154 dX0_liftersIn_22 ?_
  refine z_iload_n (pc := 25) hX dX0_liftersIn_25 rfl 5 rfl ?_
  refine z_aload_n (pc := 26) hX dX0_liftersIn_26 rfl 4 rfl ?_
  refine gf_4_0C (pc := 27) hX h1 q_66 dX0_liftersIn_27 ?_
  refine z_aload_n (pc := 30) hX dX0_liftersIn_30 rfl 4 rfl ?_
  refine gf_4_1C (pc := 31) hX h1 q_69 dX0_liftersIn_31 ?_
  refine z_rP (run_V (pc := 34) (As := [.int v3_1, .int (s 2 (6 * i0 + ix v3_1) 0), .int x2, .int (s 4 i1 0), .int (s 4 i1 1)]) hX (rc_1 h0) ⟨q_502, q_505, q_10⟩ q_503 q_504 hd_X0_lifts ⟨Nat.le_of_ble_eq_true rfl, Nat.le_of_ble_eq_true rfl⟩ (c_Co_lifts hG s i0 v3_1 (s 2 (6 * i0 + ix v3_1) 0) x2 (s 4 i1 0) (s 4 i1 1) h0) rfl rfl (Nat.le_of_ble_eq_true rfl) dX0_liftersIn_34) (fun r4 => ?_)
  refine z_jn (P := fun j6 => ∀ (v5_5 : Int32), ZR G X (EC o L) pvP (psP s) 6 s [(0, .ref (ad G 1 i0)), (1, .ref (ad G 4 i1)), (2, .int x2), (4, .int v4_2), (5, .int v5_5)] [] 46 (j6 v5_5)) ?_ ?_
  · intro v5_5
    refine z_aload_n (pc := 46) hX dX0_liftersIn_46 rfl 0 rfl ?_
    refine z_iload (pc := 47) hX dX0_liftersIn_47 3 rfl ?_
    refine z_aload_n (pc := 49) hX dX0_liftersIn_49 rfl 0 rfl ?_
    refine gr_1_1C (pc := 50) hX h0 q_201 dX0_liftersIn_50 ?_
    refine z_iload (pc := 53) hX dX0_liftersIn_53 3 rfl ?_
    refine aa_8C (pc := 55) hX (vr_1_8 h0) dX0_liftersIn_55 (fun hv7 => ?_)
    refine gf_2_0C (pc := 56) hX hv7 q_154 dX0_liftersIn_56 ?_
    refine z_iload_n (pc := 59) hX dX0_liftersIn_59 rfl 2 rfl ?_
    refine z_aload_n (pc := 60) hX dX0_liftersIn_60 rfl 1 rfl ?_
    refine gf_4_0C (pc := 61) hX h1 q_66 dX0_liftersIn_61 ?_
    refine z_aload_n (pc := 64) hX dX0_liftersIn_64 rfl 1 rfl ?_
    refine gf_4_1C (pc := 65) hX h1 q_69 dX0_liftersIn_65 ?_
    refine z_rP (run_V (pc := 68) (As := [.int v4_2, .int (s 2 (6 * i0 + ix v4_2) 0), .int x2, .int (s 4 i1 0), .int (s 4 i1 1)]) hX (rc_1 h0) ⟨q_502, q_505, q_10⟩ q_503 q_504 hd_X0_lifts ⟨Nat.le_of_ble_eq_true rfl, Nat.le_of_ble_eq_true rfl⟩ (c_Co_lifts hG s i0 v4_2 (s 2 (6 * i0 + ix v4_2) 0) x2 (s 4 i1 0) (s 4 i1 1) h0) rfl rfl (Nat.le_of_ble_eq_true rfl) dX0_liftersIn_68) (fun r8 => ?_)
    refine z_if_eq (pc := 71) (tgt := 80) hX dX0_liftersIn_71 rfl ?_ ?_
    · refine z_iload (pc := 80) hX dX0_liftersIn_80 4 rfl ?_
      exact z_retP (pc := 82) hX dX0_liftersIn_82
    · refine z_iload (pc := 74) hX dX0_liftersIn_74 4 rfl ?_
      refine z_iconst (pc := 76) hX dX0_liftersIn_76 ic_2 ?_
      refine z_ior (pc := 77) hX dX0_liftersIn_77 ?_
      refine z_lti (pc := 78) (fun v5_9 => ?_)
      refine z_istore (pc := 78) (ls' := [(5, .int v5_9), (0, .ref (ad G 1 i0)), (1, .ref (ad G 4 i1)), (2, .int x2), (4, .int v4_2)]) hX dX0_liftersIn_78 (by decide) rfl ?_
      refine z_iload (pc := 80) hX dX0_liftersIn_80 0 rfl ?_
      exact z_retP (pc := 82) hX dX0_liftersIn_82
  · intro j6 hj6
    refine z_if_eq (pc := 37) (tgt := 46) hX dX0_liftersIn_37 rfl ?_ ?_
    · exact z_ls [3, 4, 5, 1, 0] rfl (hj6 (0 : Int32))
    · refine z_iload (pc := 40) hX dX0_liftersIn_40 0 rfl ?_
      refine z_iconst (pc := 42) hX dX0_liftersIn_42 ic_1 ?_
      refine z_ior (pc := 43) hX dX0_liftersIn_43 ?_
      refine z_lti (pc := 44) (fun v5_10 => ?_)
      refine z_istore (pc := 44) (ls' := [(5, .int v5_10), (4, .int v4_2), (3, .int v3_1), (0, .ref (ad G 1 i0)), (1, .ref (ad G 4 i1)), (2, .int x2)]) hX dX0_liftersIn_44 (by decide) rfl ?_
      exact z_ls [3, 4, 5, 1, 0] rfl (hj6 v5_10)
theorem hd_X0_actsOfBoth : yX0_actsOfBoth.cls ≠ "java/lang/invoke/MethodHandle" ∧ yX0_actsOfBoth.cls ≠ "java/lang/invoke/VarHandle" ∧ (parseMethodDescriptor yX0_actsOfBoth.desc).map (fun d => d.parameters.length) = some 1 := by decide +kernel
def l_Co_actsOfBoth_4 (s : Sto) (i0 : Nat) (i1 : Nat) (rc3 : Int32 → Int32 → Option (Int32)) (v2_1 : Int32) (v3_2 : Int32) : Option (Int32) :=
  if (8 : Int32) ≤ v3_2 then some v2_1 else bP (f_Co_liftersIn s i0 i1 v3_2) (fun r4 => jn (fun v2_5 => rc3 v2_5 (v3_2 + (1 : Int32))) (fun j6 => if r4 = (3 : Int32) then lt (v2_1 ||| ((1 : Int32) <<< (v3_2 &&& 31))) (fun v2_7 => j6 v2_7) else j6 v2_1))
def f_Co_actsOfBoth (s : Sto) (i0 : Nat) (i1 : Nat) : Option (Int32) :=
  fx 1000 (l_Co_actsOfBoth_4 s i0 i1) (fun _ _ => none) (0 : Int32) (0 : Int32)
set_option maxRecDepth 100000 in
set_option maxHeartbeats 4000000 in
theorem c_Co_actsOfBoth {G : Gb} {l : Launch} {o : Sto} {L : Lng} (hG : GA G) (s : Sto) (i0 : Nat) (i1 : Nat) (h0 : V 1 i0) (h1 : V 4 i1) : CT G l (EC o L) pvP (psP s) yX0_actsOfBoth cX0_actsOfBoth 4 (some .int) 5 123 [.ref (ad G 1 i0), .ref (ad G 4 i1)] s (f_Co_actsOfBoth s i0 i1) := by
  refine CT.of hG (by decide) (Nat.le_of_ble_eq_true rfl) (fun X hX => ?_)
  have hX : OX G X l cX0_actsOfBoth 4 "CrownTwo$Court" (some .int) 5 123 := hX
  show ZR G X (EC o L) pvP (psP s) 4 s [(0, .ref (ad G 1 i0)), (1, .ref (ad G 4 i1))] [] 0 _
  unfold f_Co_actsOfBoth
  refine z_iconst (pc := 0) hX dX0_actsOfBoth_0 ic_0 ?_
  refine z_istore_n (pc := 1) (ls' := [(2, .int (0 : Int32)), (0, .ref (ad G 1 i0)), (1, .ref (ad G 4 i1))]) hX dX0_actsOfBoth_1 rfl (by decide) rfl ?_
  refine z_iconst (pc := 2) hX dX0_actsOfBoth_2 ic_0 ?_
  refine z_istore_n (pc := 3) (ls' := [(3, .int (0 : Int32)), (2, .int (0 : Int32)), (0, .ref (ad G 1 i0)), (1, .ref (ad G 4 i1))]) hX dX0_actsOfBoth_3 rfl (by decide) rfl ?_
  refine z_ls [2, 3, 1, 0] rfl ?_
  refine (fx_P (F := l_Co_actsOfBoth_4 s i0 i1) (b := (fun _ _ => none)) (fun rc3 => ∀ (v2_1 : Int32) (v3_2 : Int32), ZR G X (EC o L) pvP (psP s) 4 s [(0, .ref (ad G 1 i0)), (1, .ref (ad G 4 i1)), (2, .int v2_1), (3, .int v3_2)] [] 4 (rc3 v2_1 v3_2)) ?_ ?_ 1000) (0 : Int32) (0 : Int32)
  · intro v2_1 v3_2; exact z_none
  · intro rc3 hrc3 v2_1 v3_2
    unfold l_Co_actsOfBoth_4
    refine z_iload_n (pc := 4) hX dX0_actsOfBoth_4 rfl 3 rfl ?_
    refine z_bipush (pc := 5) hX dX0_actsOfBoth_5 bp_8 ?_
    refine z_icmp_ge (pc := 7) (tgt := 32) hX dX0_actsOfBoth_7 rfl ?_ ?_
    · refine z_iload_n (pc := 32) hX dX0_actsOfBoth_32 rfl 2 rfl ?_
      exact z_retP (pc := 33) hX dX0_actsOfBoth_33
    · refine z_aload_n (pc := 10) hX dX0_actsOfBoth_10 rfl 0 rfl ?_
      refine z_aload_n (pc := 11) hX dX0_actsOfBoth_11 rfl 1 rfl ?_
      refine z_iload_n (pc := 12) hX dX0_actsOfBoth_12 rfl 3 rfl ?_
      refine z_rP (run_V (pc := 13) (As := [.ref (ad G 4 i1), .int v3_2]) hX (rc_1 h0) ⟨q_498, q_501, q_10⟩ q_499 q_500 hd_X0_liftersIn ⟨Nat.le_of_ble_eq_true rfl, Nat.le_of_ble_eq_true rfl⟩ (c_Co_liftersIn hG s i0 i1 v3_2 h0 h1) rfl rfl (Nat.le_of_ble_eq_true rfl) dX0_actsOfBoth_13) (fun r4 => ?_)
      refine z_iconst (pc := 16) hX dX0_actsOfBoth_16 ic_3 ?_
      refine z_jn (P := fun j6 => ∀ (v2_5 : Int32), ZR G X (EC o L) pvP (psP s) 4 s [(0, .ref (ad G 1 i0)), (1, .ref (ad G 4 i1)), (2, .int v2_5), (3, .int v3_2)] [] 26 (j6 v2_5)) ?_ ?_
      · intro v2_5
        refine z_iinc (pc := 26) (n := 3) (v := v3_2 + (1 : Int32)) (ls' := [(3, .int (v3_2 + (1 : Int32))), (0, .ref (ad G 1 i0)), (1, .ref (ad G 4 i1)), (2, .int v2_5)]) hX dX0_actsOfBoth_26 rfl (by rw [show Int32.ofInt (1) = 1 by decide +kernel]) (by decide) rfl ?_
        refine z_goto (pc := 29) (tgt := 4) hX dX0_actsOfBoth_29 rfl ?_
        exact z_ls [1, 2, 3, 0] rfl (hrc3 v2_5 (v3_2 + (1 : Int32)))
      · intro j6 hj6
        refine z_icmp_ne (pc := 17) (tgt := 26) hX dX0_actsOfBoth_17 rfl ?_ ?_
        · exact z_ls [0, 1, 2, 3] rfl (hj6 v2_1)
        · refine z_iload_n (pc := 20) hX dX0_actsOfBoth_20 rfl 2 rfl ?_
          refine z_iconst (pc := 21) hX dX0_actsOfBoth_21 ic_1 ?_
          refine z_iload_n (pc := 22) hX dX0_actsOfBoth_22 rfl 3 rfl ?_
          refine z_ishl (pc := 23) hX dX0_actsOfBoth_23 ?_
          refine z_ior (pc := 24) hX dX0_actsOfBoth_24 ?_
          refine z_lti (pc := 25) (fun v2_7 => ?_)
          refine z_istore_n (pc := 25) (ls' := [(2, .int v2_7), (0, .ref (ad G 1 i0)), (1, .ref (ad G 4 i1)), (3, .int v3_2)]) hX dX0_actsOfBoth_25 rfl (by decide) rfl ?_
          exact z_ls [1, 2, 0, 3] rfl (hj6 v2_7)
theorem hd_X0_askIn : yX0_askIn.cls ≠ "java/lang/invoke/MethodHandle" ∧ yX0_askIn.cls ≠ "java/lang/invoke/VarHandle" ∧ (parseMethodDescriptor yX0_askIn.desc).map (fun d => d.parameters.length) = some 2 := by decide +kernel
def f_Co_askIn (s : Sto) (i0 : Nat) (i1 : Nat) (x2 : Int32) : Option (Int32 × Sto) :=
  bP (f_Co_liftersIn s i0 i1 x2) (fun r1 => if r1 = (3 : Int32) then lt (st s 4 i1 2 ((s 4 i1 2) ||| ((1 : Int32) <<< (x2 &&& 31)))) (fun s5 => bV (f_Mo_warm s5 i1 (-2 : Int32)) (fun s6 => some (r1, s6))) else jn (fun t2 => bV (f_Mo_warm s i1 t2) (fun s4 => some (r1, s4))) (fun j3 => if r1 = (0 : Int32) then j3 (1 : Int32) else j3 (5 : Int32)))
set_option maxRecDepth 100000 in
set_option maxHeartbeats 4000000 in
theorem c_Co_askIn {G : Gb} {l : Launch} {o : Sto} {L : Lng} (hG : GA G) (s : Sto) (i0 : Nat) (i1 : Nat) (x2 : Int32) (h0 : V 1 i0) (h1 : V 4 i1) : CT G l (EC o L) pvI psI yX0_askIn cX0_askIn 4 (some .int) 5 123 [.ref (ad G 1 i0), .ref (ad G 4 i1), .int x2] s (f_Co_askIn s i0 i1 x2) := by
  refine CT.of hG (by decide) (Nat.le_of_ble_eq_true rfl) (fun X hX => ?_)
  have hX : OX G X l cX0_askIn 4 "CrownTwo$Court" (some .int) 5 123 := hX
  show ZR G X (EC o L) pvI psI 4 s [(0, .ref (ad G 1 i0)), (1, .ref (ad G 4 i1)), (2, .int x2)] [] 0 _
  unfold f_Co_askIn
  refine z_aload_n (pc := 0) hX dX0_askIn_0 rfl 0 rfl ?_
  refine z_aload_n (pc := 1) hX dX0_askIn_1 rfl 1 rfl ?_
  refine z_iload_n (pc := 2) hX dX0_askIn_2 rfl 2 rfl ?_
  refine z_rP (run_V (pc := 3) (As := [.ref (ad G 4 i1), .int x2]) hX (rc_1 h0) ⟨q_498, q_501, q_10⟩ q_499 q_500 hd_X0_liftersIn ⟨Nat.le_of_ble_eq_true rfl, Nat.le_of_ble_eq_true rfl⟩ (c_Co_liftersIn hG s i0 i1 x2 h0 h1) rfl rfl (Nat.le_of_ble_eq_true rfl) dX0_askIn_3) (fun r1 => ?_)
  refine z_istore_n (pc := 6) (ls' := [(3, .int r1), (0, .ref (ad G 1 i0)), (1, .ref (ad G 4 i1)), (2, .int x2)]) hX dX0_askIn_6 rfl (by decide) rfl ?_
  refine z_iload_n (pc := 7) hX dX0_askIn_7 rfl 0 rfl ?_
  refine z_iconst (pc := 8) hX dX0_askIn_8 ic_3 ?_
  refine z_icmp_ne (pc := 9) (tgt := 33) hX dX0_askIn_9 rfl ?_ ?_
  · refine z_aload_n (pc := 33) hX dX0_askIn_33 rfl 2 rfl ?_
    refine z_iload_n (pc := 34) hX dX0_askIn_34 rfl 0 rfl ?_
    refine z_jn (P := fun j3 => ∀ (t2 : Int32), ZR G X (EC o L) pvI psI 4 s [(3, .int r1)] [.int t2, .ref (ad G 4 i1)] 43 (j3 t2)) ?_ ?_
    · intro t2
      refine z_rV (run_V (pc := 43) (As := [.int t2]) hX (rc_4 h1) ⟨q_537, q_540, q_3⟩ q_538 q_539 hd_X5_warm ⟨Nat.le_of_ble_eq_true rfl, Nat.le_of_ble_eq_true rfl⟩ (c_Mo_warm hG s i1 t2 h1) rfl rfl (Nat.le_of_ble_eq_true rfl) dX0_askIn_43) (fun s4 => ?_)
      refine z_iload_n (pc := 46) hX dX0_askIn_46 rfl 0 rfl ?_
      exact z_retI (pc := 47) hX dX0_askIn_47
    · intro j3 hj3
      refine z_if_ne (pc := 35) (tgt := 42) hX dX0_askIn_35 rfl ?_ ?_
      · refine z_iconst (pc := 42) hX dX0_askIn_42 ic_5 ?_
        exact z_ls [0] rfl (hj3 (5 : Int32))
      · refine z_iconst (pc := 38) hX dX0_askIn_38 ic_1 ?_
        refine z_goto (pc := 39) (tgt := 43) hX dX0_askIn_39 rfl ?_
        exact z_ls [0] rfl (hj3 (1 : Int32))
  · refine z_aload_n (pc := 12) hX dX0_askIn_12 rfl 2 rfl ?_
    refine z_dup (pc := 13) hX dX0_askIn_13 rfl ?_
    refine gf_4_2C (pc := 14) hX h1 q_71 dX0_askIn_14 ?_
    refine z_iconst (pc := 17) hX dX0_askIn_17 ic_1 ?_
    refine z_iload_n (pc := 18) hX dX0_askIn_18 rfl 3 rfl ?_
    refine z_ishl (pc := 19) hX dX0_askIn_19 ?_
    refine z_ior (pc := 20) hX dX0_askIn_20 ?_
    refine pf_4_2C (pc := 21) hX h1 q_71 dX0_askIn_21 ?_
    refine z_lts (fun s5 => ?_)
    refine z_aload_n (pc := 24) hX dX0_askIn_24 rfl 2 rfl ?_
    refine z_bipush (pc := 25) hX dX0_askIn_25 bp_m2 ?_
    refine z_rV (run_V (pc := 27) (As := [.int (-2 : Int32)]) hX (rc_4 h1) ⟨q_537, q_540, q_3⟩ q_538 q_539 hd_X5_warm ⟨Nat.le_of_ble_eq_true rfl, Nat.le_of_ble_eq_true rfl⟩ (c_Mo_warm hG s5 i1 (-2 : Int32) h1) rfl rfl (Nat.le_of_ble_eq_true rfl) dX0_askIn_27) (fun s6 => ?_)
    refine z_goto (pc := 30) (tgt := 46) hX dX0_askIn_30 rfl ?_
    refine z_iload_n (pc := 46) hX dX0_askIn_46 rfl 0 rfl ?_
    exact z_retI (pc := 47) hX dX0_askIn_47
theorem hd_X0_kindsThatLift : yX0_kindsThatLift.cls ≠ "java/lang/invoke/MethodHandle" ∧ yX0_kindsThatLift.cls ≠ "java/lang/invoke/VarHandle" ∧ (parseMethodDescriptor yX0_kindsThatLift.desc).map (fun d => d.parameters.length) = some 2 := by decide +kernel
def l_Co_kindsThatLift_5 (s : Sto) (i0 : Nat) (x1 : Int32) (x2 : Int32) (rc3 : Int32 → Int32 → Option (Int32)) (v3_1 : Int32) (v4_2 : Int32) : Option (Int32) :=
  if (6 : Int32) ≤ v4_2 then some v3_1 else bP (f_Co_lifts s i0 x1 v4_2 x2 (s 4 i0 0) (s 4 i0 1)) (fun r4 => jn (fun v3_5 => rc3 v3_5 (v4_2 + (1 : Int32))) (fun j6 => if r4 = (0 : Int32) then j6 v3_1 else lt (v3_1 ||| ((1 : Int32) <<< (v4_2 &&& 31))) (fun v3_7 => j6 v3_7)))
def f_Co_kindsThatLift (s : Sto) (i0 : Nat) (x1 : Int32) (x2 : Int32) : Option (Int32) :=
  fx 1000 (l_Co_kindsThatLift_5 s i0 x1 x2) (fun _ _ => none) (0 : Int32) (0 : Int32)
set_option maxRecDepth 100000 in
set_option maxHeartbeats 4000000 in
theorem c_Co_kindsThatLift {G : Gb} {l : Launch} {o : Sto} {L : Lng} (hG : GA G) (s : Sto) (i0 : Nat) (x1 : Int32) (x2 : Int32) (h0 : V 1 i0) : CT G l (EC o L) pvP (psP s) yX0_kindsThatLift cX0_kindsThatLift 5 (some .int) 4 98 [.ref (ad G 1 i0), .int x1, .int x2] s (f_Co_kindsThatLift s i0 x1 x2) := by
  refine CT.of hG (by decide) (Nat.le_of_ble_eq_true rfl) (fun X hX => ?_)
  have hX : OX G X l cX0_kindsThatLift 5 "CrownTwo$Court" (some .int) 4 98 := hX
  show ZR G X (EC o L) pvP (psP s) 5 s [(0, .ref (ad G 1 i0)), (1, .int x1), (2, .int x2)] [] 0 _
  unfold f_Co_kindsThatLift
  refine z_iconst (pc := 0) hX dX0_kindsThatLift_0 ic_0 ?_
  refine z_istore_n (pc := 1) (ls' := [(3, .int (0 : Int32)), (0, .ref (ad G 1 i0)), (1, .int x1), (2, .int x2)]) hX dX0_kindsThatLift_1 rfl (by decide) rfl ?_
  refine z_iconst (pc := 2) hX dX0_kindsThatLift_2 ic_0 ?_
  refine z_istore (pc := 3) (ls' := [(4, .int (0 : Int32)), (3, .int (0 : Int32)), (0, .ref (ad G 1 i0)), (1, .int x1), (2, .int x2)]) hX dX0_kindsThatLift_3 (by decide) rfl ?_
  refine z_ls [2, 3, 4, 1, 0] rfl ?_
  refine (fx_P (F := l_Co_kindsThatLift_5 s i0 x1 x2) (b := (fun _ _ => none)) (fun rc3 => ∀ (v3_1 : Int32) (v4_2 : Int32), ZR G X (EC o L) pvP (psP s) 5 s [(0, .ref (ad G 1 i0)), (1, .int x1), (2, .int x2), (3, .int v3_1), (4, .int v4_2)] [] 5 (rc3 v3_1 v4_2)) ?_ ?_ 1000) (0 : Int32) (0 : Int32)
  · intro v3_1 v4_2; exact z_none
  · intro rc3 hrc3 v3_1 v4_2
    unfold l_Co_kindsThatLift_5
    refine z_iload (pc := 5) hX dX0_kindsThatLift_5 4 rfl ?_
    refine z_bipush (pc := 7) hX dX0_kindsThatLift_7 bp_6 ?_
    refine z_icmp_ge (pc := 9) (tgt := 50) hX dX0_kindsThatLift_9 rfl ?_ ?_
    · refine z_iload_n (pc := 50) hX dX0_kindsThatLift_50 rfl 3 rfl ?_
      exact z_retP (pc := 51) hX dX0_kindsThatLift_51
    · refine z_aload_n (pc := 12) hX dX0_kindsThatLift_12 rfl 0 rfl ?_
      refine z_iload_n (pc := 13) hX dX0_kindsThatLift_13 rfl 1 rfl ?_
      refine z_iload (pc := 14) hX dX0_kindsThatLift_14 4 rfl ?_
      refine z_iload_n (pc := 16) hX dX0_kindsThatLift_16 rfl 2 rfl ?_
      refine z_aload_n (pc := 17) hX dX0_kindsThatLift_17 rfl 0 rfl ?_
      refine gr_1_4C (pc := 18) hX h0 q_207 dX0_kindsThatLift_18 ?_
      refine gf_4_0C (pc := 21) hX (vr_1_4 h0) q_66 dX0_kindsThatLift_21 ?_
      refine z_aload_n (pc := 24) hX dX0_kindsThatLift_24 rfl 0 rfl ?_
      refine gr_1_4C (pc := 25) hX h0 q_207 dX0_kindsThatLift_25 ?_
      refine gf_4_1C (pc := 28) hX (vr_1_4 h0) q_69 dX0_kindsThatLift_28 ?_
      refine z_rP (run_V (pc := 31) (As := [.int x1, .int v4_2, .int x2, .int (s 4 i0 0), .int (s 4 i0 1)]) hX (rc_1 h0) ⟨q_502, q_505, q_10⟩ q_503 q_504 hd_X0_lifts ⟨Nat.le_of_ble_eq_true rfl, Nat.le_of_ble_eq_true rfl⟩ (c_Co_lifts hG s i0 x1 v4_2 x2 (s 4 i0 0) (s 4 i0 1) h0) rfl rfl (Nat.le_of_ble_eq_true rfl) dX0_kindsThatLift_31) (fun r4 => ?_)
      refine z_jn (P := fun j6 => ∀ (v3_5 : Int32), ZR G X (EC o L) pvP (psP s) 5 s [(0, .ref (ad G 1 i0)), (1, .int x1), (2, .int x2), (3, .int v3_5), (4, .int v4_2)] [] 44 (j6 v3_5)) ?_ ?_
      · intro v3_5
        refine z_iinc (pc := 44) (n := 4) (v := v4_2 + (1 : Int32)) (ls' := [(4, .int (v4_2 + (1 : Int32))), (0, .ref (ad G 1 i0)), (1, .int x1), (2, .int x2), (3, .int v3_5)]) hX dX0_kindsThatLift_44 rfl (by rw [show Int32.ofInt (1) = 1 by decide +kernel]) (by decide) rfl ?_
        refine z_goto (pc := 47) (tgt := 5) hX dX0_kindsThatLift_47 rfl ?_
        exact z_ls [1, 2, 3, 4, 0] rfl (hrc3 v3_5 (v4_2 + (1 : Int32)))
      · intro j6 hj6
        refine z_if_eq (pc := 34) (tgt := 44) hX dX0_kindsThatLift_34 rfl ?_ ?_
        · exact z_ls [0, 1, 2, 3, 4] rfl (hj6 v3_1)
        · refine z_iload_n (pc := 37) hX dX0_kindsThatLift_37 rfl 3 rfl ?_
          refine z_iconst (pc := 38) hX dX0_kindsThatLift_38 ic_1 ?_
          refine z_iload (pc := 39) hX dX0_kindsThatLift_39 4 rfl ?_
          refine z_ishl (pc := 41) hX dX0_kindsThatLift_41 ?_
          refine z_ior (pc := 42) hX dX0_kindsThatLift_42 ?_
          refine z_lti (pc := 43) (fun v3_7 => ?_)
          refine z_istore_n (pc := 43) (ls' := [(3, .int v3_7), (0, .ref (ad G 1 i0)), (1, .int x1), (2, .int x2), (4, .int v4_2)]) hX dX0_kindsThatLift_43 rfl (by decide) rfl ?_
          exact z_ls [1, 2, 3, 0, 4] rfl (hj6 v3_7)
theorem hd_X0_fits : yX0_fits.cls ≠ "java/lang/invoke/MethodHandle" ∧ yX0_fits.cls ≠ "java/lang/invoke/VarHandle" ∧ (parseMethodDescriptor yX0_fits.desc).map (fun d => d.parameters.length) = some 2 := by decide +kernel
def l_Co_fits_2 (s : Sto) (i0 : Nat) (x1 : Int32) (x2 : Int32) (rc2 : Int32 → Option (Int32)) (v3_1 : Int32) : Option (Int32) :=
  if (s 1 i0 6) ≤ v3_1 then some (1 : Int32) else if inb v3_1 6 then jn (rc2 (v3_1 + (1 : Int32))) (fun j4 => if (s 3 (6 * i0 + ix v3_1) 0) = x1 then bP (f_Co_lifts s i0 x1 x2 (s 3 (6 * i0 + ix v3_1) 1) (s 3 (6 * i0 + ix v3_1) 2) (s 3 (6 * i0 + ix v3_1) 3)) (fun r5 => jn (fun t6 => if r5 = t6 then j4 else some (0 : Int32)) (fun j7 => if (s 3 (6 * i0 + ix v3_1) 4) = (1 : Int32) then j7 (1 : Int32) else j7 (0 : Int32))) else j4) else none
def f_Co_fits (s : Sto) (i0 : Nat) (x1 : Int32) (x2 : Int32) : Option (Int32) :=
  fx 1000 (l_Co_fits_2 s i0 x1 x2) (fun _ => none) (0 : Int32)
set_option maxRecDepth 100000 in
set_option maxHeartbeats 4000000 in
theorem c_Co_fits {G : Gb} {l : Launch} {o : Sto} {L : Lng} (hG : GA G) (s : Sto) (i0 : Nat) (x1 : Int32) (x2 : Int32) (h0 : V 1 i0) : CT G l (EC o L) pvP (psP s) yX0_fits cX0_fits 6 (some .boolean) 4 98 [.ref (ad G 1 i0), .int x1, .int x2] s (f_Co_fits s i0 x1 x2) := by
  refine CT.of hG (by decide) (Nat.le_of_ble_eq_true rfl) (fun X hX => ?_)
  have hX : OX G X l cX0_fits 6 "CrownTwo$Court" (some .boolean) 4 98 := hX
  show ZR G X (EC o L) pvP (psP s) 6 s [(0, .ref (ad G 1 i0)), (1, .int x1), (2, .int x2)] [] 0 _
  unfold f_Co_fits
  refine z_iconst (pc := 0) hX dX0_fits_0 ic_0 ?_
  refine z_istore_n (pc := 1) (ls' := [(3, .int (0 : Int32)), (0, .ref (ad G 1 i0)), (1, .int x1), (2, .int x2)]) hX dX0_fits_1 rfl (by decide) rfl ?_
  refine z_ls [1, 2, 3, 0] rfl ?_
  refine (fx_P (F := l_Co_fits_2 s i0 x1 x2) (b := (fun _ => none)) (fun rc2 => ∀ (v3_1 : Int32), ZR G X (EC o L) pvP (psP s) 6 s [(0, .ref (ad G 1 i0)), (1, .int x1), (2, .int x2), (3, .int v3_1)] [] 2 (rc2 v3_1)) ?_ ?_ 1000) (0 : Int32)
  · intro v3_1; exact z_none
  · intro rc2 hrc2 v3_1
    unfold l_Co_fits_2
    refine z_iload_n (pc := 2) hX dX0_fits_2 rfl 3 rfl ?_
    refine z_aload_n (pc := 3) hX dX0_fits_3 rfl 0 rfl ?_
    refine gf_1_6C (pc := 4) hX h0 q_213 dX0_fits_4 ?_
    refine z_icmp_ge (pc := 7) (tgt := 80) hX dX0_fits_7 rfl ?_ ?_
    · refine z_iconst (pc := 80) hX dX0_fits_80 ic_1 ?_
      exact z_retPc (pc := 81) hX dX0_fits_81 (by decide)
    · refine z_aload_n (pc := 10) hX dX0_fits_10 rfl 0 rfl ?_
      refine gr_1_2C (pc := 11) hX h0 q_204 dX0_fits_11 ?_
      refine z_iload_n (pc := 14) hX dX0_fits_14 rfl 3 rfl ?_
      refine aa_9C (pc := 15) hX (vr_1_9 h0) dX0_fits_15 (fun hv3 => ?_)
      refine z_astore (pc := 16) (ls' := [(4, .ref (ad G 3 (6 * i0 + ix v3_1))), (0, .ref (ad G 1 i0)), (1, .int x1), (2, .int x2), (3, .int v3_1)]) hX dX0_fits_16 (by decide) rfl ?_
      refine z_aload (pc := 18) hX dX0_fits_18 0 rfl ?_
      refine gf_3_0C (pc := 20) hX hv3 q_180 dX0_fits_20 ?_
      refine z_iload_n (pc := 23) hX dX0_fits_23 rfl 2 rfl ?_
      refine z_jn (P := fun j4 => ZR G X (EC o L) pvP (psP s) 6 s [(0, .ref (ad G 1 i0)), (1, .int x1), (2, .int x2), (3, .int v3_1)] [] 74 (j4)) ?_ ?_
      · skip
        refine z_iinc (pc := 74) (n := 3) (v := v3_1 + (1 : Int32)) (ls' := [(3, .int (v3_1 + (1 : Int32))), (0, .ref (ad G 1 i0)), (1, .int x1), (2, .int x2)]) hX dX0_fits_74 rfl (by rw [show Int32.ofInt (1) = 1 by decide +kernel]) (by decide) rfl ?_
        refine z_goto (pc := 77) (tgt := 2) hX dX0_fits_77 rfl ?_
        exact z_ls [1, 2, 3, 0] rfl (hrc2 (v3_1 + (1 : Int32)))
      · intro j4 hj4
        refine z_icmp_eq (pc := 24) (tgt := 30) hX dX0_fits_24 rfl ?_ ?_
        · refine z_aload_n (pc := 30) hX dX0_fits_30 rfl 1 rfl ?_
          refine z_iload_n (pc := 31) hX dX0_fits_31 rfl 2 rfl ?_
          refine z_iload_n (pc := 32) hX dX0_fits_32 rfl 3 rfl ?_
          refine z_aload (pc := 33) hX dX0_fits_33 0 rfl ?_
          refine gf_3_1C (pc := 35) hX hv3 q_182 dX0_fits_35 ?_
          refine z_aload (pc := 38) hX dX0_fits_38 0 rfl ?_
          refine gf_3_2C (pc := 40) hX hv3 q_184 dX0_fits_40 ?_
          refine z_aload (pc := 43) hX dX0_fits_43 0 rfl ?_
          refine gf_3_3C (pc := 45) hX hv3 q_186 dX0_fits_45 ?_
          refine z_rP (run_V (pc := 48) (As := [.int x1, .int x2, .int (s 3 (6 * i0 + ix v3_1) 1), .int (s 3 (6 * i0 + ix v3_1) 2), .int (s 3 (6 * i0 + ix v3_1) 3)]) hX (rc_1 h0) ⟨q_502, q_505, q_10⟩ q_503 q_504 hd_X0_lifts ⟨Nat.le_of_ble_eq_true rfl, Nat.le_of_ble_eq_true rfl⟩ (c_Co_lifts hG s i0 x1 x2 (s 3 (6 * i0 + ix v3_1) 1) (s 3 (6 * i0 + ix v3_1) 2) (s 3 (6 * i0 + ix v3_1) 3) h0) rfl rfl (Nat.le_of_ble_eq_true rfl) dX0_fits_48) (fun r5 => ?_)
          refine z_istore (pc := 51) (ls' := [(5, .int r5), (4, .ref (ad G 3 (6 * i0 + ix v3_1))), (0, .ref (ad G 1 i0)), (1, .int x1), (2, .int x2), (3, .int v3_1)]) hX dX0_fits_51 (by decide) rfl ?_
          refine z_iload (pc := 53) hX dX0_fits_53 0 rfl ?_
          refine z_aload (pc := 55) hX dX0_fits_55 1 rfl ?_
          refine gf_3_4C (pc := 57) hX hv3 q_188 dX0_fits_57 ?_
          refine z_iconst (pc := 60) hX dX0_fits_60 ic_1 ?_
          refine z_jn (P := fun j7 => ∀ (t6 : Int32), ZR G X (EC o L) pvP (psP s) 6 s [(0, .ref (ad G 1 i0)), (1, .int x1), (2, .int x2), (3, .int v3_1)] [.int t6, .int r5] 69 (j7 t6)) ?_ ?_
          · intro t6
            refine z_icmp_eq (pc := 69) (tgt := 74) hX dX0_fits_69 rfl ?_ ?_
            · exact z_ls [0, 1, 2, 3] rfl (hj4)
            · refine z_iconst (pc := 72) hX dX0_fits_72 ic_0 ?_
              exact z_retPc (pc := 73) hX dX0_fits_73 (by decide)
          · intro j7 hj7
            refine z_icmp_ne (pc := 61) (tgt := 68) hX dX0_fits_61 rfl ?_ ?_
            · refine z_iconst (pc := 68) hX dX0_fits_68 ic_0 ?_
              exact z_ls [2, 3, 4, 5] rfl (hj7 (0 : Int32))
            · refine z_iconst (pc := 64) hX dX0_fits_64 ic_1 ?_
              refine z_goto (pc := 65) (tgt := 69) hX dX0_fits_65 rfl ?_
              exact z_ls [2, 3, 4, 5] rfl (hj7 (1 : Int32))
        · refine z_goto (pc := 27) (tgt := 74) hX dX0_fits_27 rfl ?_
          exact z_ls [1, 2, 3, 4] rfl (hj4)
theorem hd_X0_addedBy : yX0_addedBy.cls ≠ "java/lang/invoke/MethodHandle" ∧ yX0_addedBy.cls ≠ "java/lang/invoke/VarHandle" ∧ (parseMethodDescriptor yX0_addedBy.desc).map (fun d => d.parameters.length) = some 1 := by decide +kernel
def f_Co_addedBy (s : Sto) (i0 : Nat) (x1 : Int32) : Option (Int32) :=
  if inb x1 6 then if inb (s 2 (6 * i0 + ix x1) 0) 6 then bP (dy_adds (ix (s 2 (6 * i0 + ix x1) 0)) (s 2 (6 * i0 + ix x1) 3)) (fun r3 => some r3) else none else none
set_option maxRecDepth 100000 in
set_option maxHeartbeats 4000000 in
theorem c_Co_addedBy {G : Gb} {l : Launch} {o : Sto} {L : Lng} (hG : GA G) (s : Sto) (i0 : Nat) (x1 : Int32) (h0 : V 1 i0) : CT G l (EC o L) pvP (psP s) yX0_addedBy cX0_addedBy 3 (some .int) 3 63 [.ref (ad G 1 i0), .int x1] s (f_Co_addedBy s i0 x1) := by
  refine CT.of hG (by decide) (Nat.le_of_ble_eq_true rfl) (fun X hX => ?_)
  have hX : OX G X l cX0_addedBy 3 "CrownTwo$Court" (some .int) 3 63 := hX
  show ZR G X (EC o L) pvP (psP s) 3 s [(0, .ref (ad G 1 i0)), (1, .int x1)] [] 0 _
  unfold f_Co_addedBy
  refine z_aload_n (pc := 0) hX dX0_addedBy_0 rfl 0 rfl ?_
  refine gr_1_1C (pc := 1) hX h0 q_201 dX0_addedBy_1 ?_
  refine z_iload_n (pc := 4) hX dX0_addedBy_4 rfl 1 rfl ?_
  refine aa_8C (pc := 5) hX (vr_1_8 h0) dX0_addedBy_5 (fun hv1 => ?_)
  refine z_astore_n (pc := 6) (ls' := [(2, .ref (ad G 2 (6 * i0 + ix x1))), (0, .ref (ad G 1 i0)), (1, .int x1)]) hX dX0_addedBy_6 rfl (by decide) rfl ?_
  refine z_aload_n (pc := 7) hX dX0_addedBy_7 rfl 1 rfl ?_
  refine gr_1_0C (pc := 8) hX h0 q_200 dX0_addedBy_8 ?_
  refine z_aload_n (pc := 11) hX dX0_addedBy_11 rfl 0 rfl ?_
  refine gf_2_0C (pc := 12) hX hv1 q_154 dX0_addedBy_12 ?_
  refine aa_7C (pc := 15) hX dX0_addedBy_15 (fun hv2 => ?_)
  refine z_aload_n (pc := 16) hX dX0_addedBy_16 rfl 0 rfl ?_
  refine gf_2_3C (pc := 17) hX hv1 q_163 dX0_addedBy_17 ?_
  refine z_rP (dyr_adds (pc := 20) hX hG hv2 (Nat.le_of_ble_eq_true rfl) (Nat.le_of_ble_eq_true rfl) (Nat.le_of_ble_eq_true rfl) dX0_addedBy_20) (fun r3 => ?_)
  exact z_retP (pc := 23) hX dX0_addedBy_23
theorem hd_X0_changeBy : yX0_changeBy.cls ≠ "java/lang/invoke/MethodHandle" ∧ yX0_changeBy.cls ≠ "java/lang/invoke/VarHandle" ∧ (parseMethodDescriptor yX0_changeBy.desc).map (fun d => d.parameters.length) = some 2 := by decide +kernel
def f_Co_changeBy (s : Sto) (i0 : Nat) (x1 : Int32) (x2 : Int32) : Option (Int32) :=
  bP (f_Co_addedBy s i0 x1) (fun r1 => bP (f_Co_addedBy s i0 x2) (fun r2 => some ((r1 + r2) - (2 : Int32))))
set_option maxRecDepth 100000 in
set_option maxHeartbeats 4000000 in
theorem c_Co_changeBy {G : Gb} {l : Launch} {o : Sto} {L : Lng} (hG : GA G) (s : Sto) (i0 : Nat) (x1 : Int32) (x2 : Int32) (h0 : V 1 i0) : CT G l (EC o L) pvP (psP s) yX0_changeBy cX0_changeBy 3 (some .int) 4 85 [.ref (ad G 1 i0), .int x1, .int x2] s (f_Co_changeBy s i0 x1 x2) := by
  refine CT.of hG (by decide) (Nat.le_of_ble_eq_true rfl) (fun X hX => ?_)
  have hX : OX G X l cX0_changeBy 3 "CrownTwo$Court" (some .int) 4 85 := hX
  show ZR G X (EC o L) pvP (psP s) 3 s [(0, .ref (ad G 1 i0)), (1, .int x1), (2, .int x2)] [] 0 _
  unfold f_Co_changeBy
  refine z_aload_n (pc := 0) hX dX0_changeBy_0 rfl 0 rfl ?_
  refine z_iload_n (pc := 1) hX dX0_changeBy_1 rfl 1 rfl ?_
  refine z_rP (run_V (pc := 2) (As := [.int x1]) hX (rc_1 h0) ⟨q_564, q_567, q_10⟩ q_565 q_566 hd_X0_addedBy ⟨Nat.le_of_ble_eq_true rfl, Nat.le_of_ble_eq_true rfl⟩ (c_Co_addedBy hG s i0 x1 h0) rfl rfl (Nat.le_of_ble_eq_true rfl) dX0_changeBy_2) (fun r1 => ?_)
  refine z_aload_n (pc := 5) hX dX0_changeBy_5 rfl 0 rfl ?_
  refine z_iload_n (pc := 6) hX dX0_changeBy_6 rfl 2 rfl ?_
  refine z_rP (run_V (pc := 7) (As := [.int x2]) hX (rc_1 h0) ⟨q_564, q_567, q_10⟩ q_565 q_566 hd_X0_addedBy ⟨Nat.le_of_ble_eq_true rfl, Nat.le_of_ble_eq_true rfl⟩ (c_Co_addedBy hG s i0 x2 h0) rfl rfl (Nat.le_of_ble_eq_true rfl) dX0_changeBy_7) (fun r2 => ?_)
  refine z_iadd (pc := 10) hX dX0_changeBy_10 ?_
  refine z_iconst (pc := 11) hX dX0_changeBy_11 ic_2 ?_
  refine z_isub (pc := 12) hX dX0_changeBy_12 ?_
  exact z_retP (pc := 13) hX dX0_changeBy_13
theorem hd_X0_changeInADay : yX0_changeInADay.cls ≠ "java/lang/invoke/MethodHandle" ∧ yX0_changeInADay.cls ≠ "java/lang/invoke/VarHandle" ∧ (parseMethodDescriptor yX0_changeInADay.desc).map (fun d => d.parameters.length) = some 1 := by decide +kernel
def f_Co_changeInADay (s : Sto) (i0 : Nat) (i1 : Nat) : Option (Int32) :=
  bP (f_Co_paired s i0 i1) (fun r1 => if r1 = (0 : Int32) then some (-2 : Int32) else bP (f_Co_changeBy s i0 (s 4 i1 3) (s 4 i1 4)) (fun r2 => some r2))
set_option maxRecDepth 100000 in
set_option maxHeartbeats 4000000 in
theorem c_Co_changeInADay {G : Gb} {l : Launch} {o : Sto} {L : Lng} (hG : GA G) (s : Sto) (i0 : Nat) (i1 : Nat) (h0 : V 1 i0) (h1 : V 4 i1) : CT G l (EC o L) pvP (psP s) yX0_changeInADay cX0_changeInADay 2 (some .int) 5 107 [.ref (ad G 1 i0), .ref (ad G 4 i1)] s (f_Co_changeInADay s i0 i1) := by
  refine CT.of hG (by decide) (Nat.le_of_ble_eq_true rfl) (fun X hX => ?_)
  have hX : OX G X l cX0_changeInADay 2 "CrownTwo$Court" (some .int) 5 107 := hX
  show ZR G X (EC o L) pvP (psP s) 2 s [(0, .ref (ad G 1 i0)), (1, .ref (ad G 4 i1))] [] 0 _
  unfold f_Co_changeInADay
  refine z_aload_n (pc := 0) hX dX0_changeInADay_0 rfl 0 rfl ?_
  refine z_aload_n (pc := 1) hX dX0_changeInADay_1 rfl 1 rfl ?_
  refine z_rP (run_V (pc := 2) (As := [.ref (ad G 4 i1)]) hX (rc_1 h0) ⟨q_559, q_484, q_10⟩ q_482 q_483 hd_X0_paired ⟨Nat.le_of_ble_eq_true rfl, Nat.le_of_ble_eq_true rfl⟩ (c_Co_paired hG s i0 i1 h0 h1) rfl rfl (Nat.le_of_ble_eq_true rfl) dX0_changeInADay_2) (fun r1 => ?_)
  refine z_if_eq (pc := 5) (tgt := 23) hX dX0_changeInADay_5 rfl ?_ ?_
  · refine z_bipush (pc := 23) hX dX0_changeInADay_23 bp_m2 ?_
    exact z_retP (pc := 25) hX dX0_changeInADay_25
  · refine z_aload_n (pc := 8) hX dX0_changeInADay_8 rfl 0 rfl ?_
    refine z_aload_n (pc := 9) hX dX0_changeInADay_9 rfl 1 rfl ?_
    refine gf_4_3C (pc := 10) hX h1 q_74 dX0_changeInADay_10 ?_
    refine z_aload_n (pc := 13) hX dX0_changeInADay_13 rfl 1 rfl ?_
    refine gf_4_4C (pc := 14) hX h1 q_78 dX0_changeInADay_14 ?_
    refine z_rP (run_V (pc := 17) (As := [.int (s 4 i1 3), .int (s 4 i1 4)]) hX (rc_1 h0) ⟨q_560, q_563, q_10⟩ q_561 q_562 hd_X0_changeBy ⟨Nat.le_of_ble_eq_true rfl, Nat.le_of_ble_eq_true rfl⟩ (c_Co_changeBy hG s i0 (s 4 i1 3) (s 4 i1 4) h0) rfl rfl (Nat.le_of_ble_eq_true rfl) dX0_changeInADay_17) (fun r2 => ?_)
    refine z_goto (pc := 20) (tgt := 25) hX dX0_changeInADay_20 rfl ?_
    exact z_retP (pc := 25) hX dX0_changeInADay_25
theorem hd_X0_passDays : yX0_passDays.cls ≠ "java/lang/invoke/MethodHandle" ∧ yX0_passDays.cls ≠ "java/lang/invoke/VarHandle" ∧ (parseMethodDescriptor yX0_passDays.desc).map (fun d => d.parameters.length) = some 2 := by decide +kernel
def f_Co_passDays (s : Sto) (i0 : Nat) (i1 : Nat) (x2 : Int32) : Option (Sto) :=
  bP (f_Co_changeInADay s i0 i1) (fun r1 => bV (f_Mo_pass s i1 x2 r1) (fun s2 => some s2))
set_option maxRecDepth 100000 in
set_option maxHeartbeats 4000000 in
theorem c_Co_passDays {G : Gb} {l : Launch} {o : Sto} {L : Lng} (hG : GA G) (s : Sto) (i0 : Nat) (i1 : Nat) (x2 : Int32) (h0 : V 1 i0) (h1 : V 4 i1) : CT G l (EC o L) pvV psV yX0_passDays cX0_passDays 3 none 6 128 [.ref (ad G 1 i0), .ref (ad G 4 i1), .int x2] s (f_Co_passDays s i0 i1 x2) := by
  refine CT.of hG (by decide) (Nat.le_of_ble_eq_true rfl) (fun X hX => ?_)
  have hX : OX G X l cX0_passDays 3 "CrownTwo$Court" none 6 128 := hX
  show ZR G X (EC o L) pvV psV 3 s [(0, .ref (ad G 1 i0)), (1, .ref (ad G 4 i1)), (2, .int x2)] [] 0 _
  unfold f_Co_passDays
  refine z_aload_n (pc := 0) hX dX0_passDays_0 rfl 1 rfl ?_
  refine z_iload_n (pc := 1) hX dX0_passDays_1 rfl 2 rfl ?_
  refine z_aload_n (pc := 2) hX dX0_passDays_2 rfl 0 rfl ?_
  refine z_aload_n (pc := 3) hX dX0_passDays_3 rfl 1 rfl ?_
  refine z_rP (run_V (pc := 4) (As := [.ref (ad G 4 i1)]) hX (rc_1 h0) ⟨q_555, q_558, q_10⟩ q_556 q_557 hd_X0_changeInADay ⟨Nat.le_of_ble_eq_true rfl, Nat.le_of_ble_eq_true rfl⟩ (c_Co_changeInADay hG s i0 i1 h0 h1) rfl rfl (Nat.le_of_ble_eq_true rfl) dX0_passDays_4) (fun r1 => ?_)
  refine z_rV (run_V (pc := 7) (As := [.int x2, .int r1]) hX (rc_4 h1) ⟨q_590, q_593, q_3⟩ q_591 q_592 hd_X5_pass ⟨Nat.le_of_ble_eq_true rfl, Nat.le_of_ble_eq_true rfl⟩ (c_Mo_pass hG s i1 x2 r1 h1) rfl rfl (Nat.le_of_ble_eq_true rfl) dX0_passDays_7) (fun s2 => ?_)
  exact z_retV (pc := 10) hX dX0_passDays_10
