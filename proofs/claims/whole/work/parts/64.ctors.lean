/-! constructors: the small ones, and a court's -/
theorem fup_fup (c : Nat → va_E) (j : Nat) (a b : va_E) : fup (fup c j a) j b = fup c j b := by
  funext x
  unfold fup
  by_cases h : x = j
  · rw [if_pos h, if_pos h]
  · rw [if_neg h, if_neg h, if_neg h]
def bl_X0 : List Value := [.null, .null, .null, .null, .null, .int 0, .int 0, .int 0]
theorem nf_X0 : ∀ j, j < 8 → defaultValue (tyX0 j) = vp_V bl_X0 j := by
  intro j hj
  rcases (show j = 0 ∨ j = 1 ∨ j = 2 ∨ j = 3 ∨ j = 4 ∨ j = 5 ∨ j = 6 ∨ j = 7 by omega) with rfl | rfl | rfl | rfl | rfl | rfl | rfl | rfl <;> rfl
def bl_X1 : List Value := [.null, .int 0, .int 0, .int 0, .int 0, .int 0]
theorem nf_X1 : ∀ j, j < 6 → defaultValue (tyX1 j) = vp_V bl_X1 j := by
  intro j hj
  rcases (show j = 0 ∨ j = 1 ∨ j = 2 ∨ j = 3 ∨ j = 4 ∨ j = 5 by omega) with rfl | rfl | rfl | rfl | rfl | rfl <;> rfl
def bl_X3 : List Value := [.int 0, .int 0, .int 0, .int 0]
theorem nf_X3 : ∀ j, j < 4 → defaultValue (tyX3 j) = vp_V bl_X3 j := by
  intro j hj
  rcases (show j = 0 ∨ j = 1 ∨ j = 2 ∨ j = 3 by omega) with rfl | rfl | rfl | rfl <;> rfl
def bl_X5 : List Value := [.int 0, .int 0, .int 0, .int 0, .int 0]
theorem nf_X5 : ∀ j, j < 5 → defaultValue (tyX5 j) = vp_V bl_X5 j := by
  intro j hj
  rcases (show j = 0 ∨ j = 1 ∨ j = 2 ∨ j = 3 ∨ j = 4 by omega) with rfl | rfl | rfl | rfl | rfl <;> rfl
def bl_X6 : List Value := [.int 0, .int 0, .int 0, .int 0, .int 0]
theorem nf_X6 : ∀ j, j < 5 → defaultValue (tyX6 j) = vp_V bl_X6 j := by
  intro j hj
  rcases (show j = 0 ∨ j = 1 ∨ j = 2 ∨ j = 3 ∨ j = 4 by omega) with rfl | rfl | rfl | rfl | rfl <;> rfl
def bl_X11 : List Value := [.null, .null, .null, .null, .null, .null, .null, .null, .null, .int 0, .int 0, .int 0, .int 0, .int 0, .int 0]
theorem nf_X11 : ∀ j, j < 15 → defaultValue (tyX11 j) = vp_V bl_X11 j := by
  intro j hj
  rcases (show j = 0 ∨ j = 1 ∨ j = 2 ∨ j = 3 ∨ j = 4 ∨ j = 5 ∨ j = 6 ∨ j = 7 ∨ j = 8 ∨ j = 9 ∨ j = 10 ∨ j = 11 ∨ j = 12 ∨ j = 13 ∨ j = 14 by omega) with rfl | rfl | rfl | rfl | rfl | rfl | rfl | rfl | rfl | rfl | rfl | rfl | rfl | rfl | rfl <;> rfl
def bl_X12 : List Value := [.null, .int 0, .int 0, .int 0, .int 0, .int 0, .int 0, .int 0, .null, .null, .null, .null, .null, .null, .null, .null, .null, .null, .int 0, .int 0, .int 0, .int 0, .int 0, .int 0, .null, .int 0, .null, .int 0, .null, .null, .null, .long 0, .long 0, .null, .null, .long 0]
theorem nf_X12 : ∀ j, j < 36 → defaultValue (tyX12 j) = vp_V bl_X12 j := by
  intro j hj
  rcases (show j = 0 ∨ j = 1 ∨ j = 2 ∨ j = 3 ∨ j = 4 ∨ j = 5 ∨ j = 6 ∨ j = 7 ∨ j = 8 ∨ j = 9 ∨ j = 10 ∨ j = 11 ∨ j = 12 ∨ j = 13 ∨ j = 14 ∨ j = 15 ∨ j = 16 ∨ j = 17 ∨ j = 18 ∨ j = 19 ∨ j = 20 ∨ j = 21 ∨ j = 22 ∨ j = 23 ∨ j = 24 ∨ j = 25 ∨ j = 26 ∨ j = 27 ∨ j = 28 ∨ j = 29 ∨ j = 30 ∨ j = 31 ∨ j = 32 ∨ j = 33 ∨ j = 34 ∨ j = 35 by omega) with rfl | rfl | rfl | rfl | rfl | rfl | rfl | rfl | rfl | rfl | rfl | rfl | rfl | rfl | rfl | rfl | rfl | rfl | rfl | rfl | rfl | rfl | rfl | rfl | rfl | rfl | rfl | rfl | rfl | rfl | rfl | rfl | rfl | rfl | rfl | rfl <;> rfl
def bl_X2 : List Value := []
def bl_X4 : List Value := []
def bl_X7 : List Value := []
def bl_X8 : List Value := []
def bl_X9 : List Value := []
def bl_X10 : List Value := []
theorem bhd_X0_init : yX0_init.cls ≠ "java/lang/invoke/MethodHandle" ∧ yX0_init.cls ≠ "java/lang/invoke/VarHandle" ∧ (parseMethodDescriptor yX0_init.desc).map (fun d => d.parameters.length) = some 1 := by decide +kernel
theorem bhd_X1_init : yX1_init.cls ≠ "java/lang/invoke/MethodHandle" ∧ yX1_init.cls ≠ "java/lang/invoke/VarHandle" ∧ (parseMethodDescriptor yX1_init.desc).map (fun d => d.parameters.length) = some 0 := by decide +kernel
theorem bhd_X2_init : yX2_init.cls ≠ "java/lang/invoke/MethodHandle" ∧ yX2_init.cls ≠ "java/lang/invoke/VarHandle" ∧ (parseMethodDescriptor yX2_init.desc).map (fun d => d.parameters.length) = some 0 := by decide +kernel
theorem bhd_X3_init : yX3_init.cls ≠ "java/lang/invoke/MethodHandle" ∧ yX3_init.cls ≠ "java/lang/invoke/VarHandle" ∧ (parseMethodDescriptor yX3_init.desc).map (fun d => d.parameters.length) = some 0 := by decide +kernel
theorem bhd_X4_init : yX4_init.cls ≠ "java/lang/invoke/MethodHandle" ∧ yX4_init.cls ≠ "java/lang/invoke/VarHandle" ∧ (parseMethodDescriptor yX4_init.desc).map (fun d => d.parameters.length) = some 0 := by decide +kernel
theorem bhd_X5_init : yX5_init.cls ≠ "java/lang/invoke/MethodHandle" ∧ yX5_init.cls ≠ "java/lang/invoke/VarHandle" ∧ (parseMethodDescriptor yX5_init.desc).map (fun d => d.parameters.length) = some 0 := by decide +kernel
theorem bhd_X6_init : yX6_init.cls ≠ "java/lang/invoke/MethodHandle" ∧ yX6_init.cls ≠ "java/lang/invoke/VarHandle" ∧ (parseMethodDescriptor yX6_init.desc).map (fun d => d.parameters.length) = some 0 := by decide +kernel
theorem bhd_X7_init : yX7_init.cls ≠ "java/lang/invoke/MethodHandle" ∧ yX7_init.cls ≠ "java/lang/invoke/VarHandle" ∧ (parseMethodDescriptor yX7_init.desc).map (fun d => d.parameters.length) = some 0 := by decide +kernel
theorem bhd_X8_init : yX8_init.cls ≠ "java/lang/invoke/MethodHandle" ∧ yX8_init.cls ≠ "java/lang/invoke/VarHandle" ∧ (parseMethodDescriptor yX8_init.desc).map (fun d => d.parameters.length) = some 0 := by decide +kernel
theorem bhd_X9_init : yX9_init.cls ≠ "java/lang/invoke/MethodHandle" ∧ yX9_init.cls ≠ "java/lang/invoke/VarHandle" ∧ (parseMethodDescriptor yX9_init.desc).map (fun d => d.parameters.length) = some 0 := by decide +kernel
theorem bhd_X10_init : yX10_init.cls ≠ "java/lang/invoke/MethodHandle" ∧ yX10_init.cls ≠ "java/lang/invoke/VarHandle" ∧ (parseMethodDescriptor yX10_init.desc).map (fun d => d.parameters.length) = some 0 := by decide +kernel
theorem bhd_X11_init : yX11_init.cls ≠ "java/lang/invoke/MethodHandle" ∧ yX11_init.cls ≠ "java/lang/invoke/VarHandle" ∧ (parseMethodDescriptor yX11_init.desc).map (fun d => d.parameters.length) = some 0 := by decide +kernel
theorem bhd_X12_init : yX12_init.cls ≠ "java/lang/invoke/MethodHandle" ∧ yX12_init.cls ≠ "java/lang/invoke/VarHandle" ∧ (parseMethodDescriptor yX12_init.desc).map (fun d => d.parameters.length) = some 0 := by decide +kernel
theorem b_Pl {G : Gb} {l : Launch} {k a : Nat} {c : Nat → va_E} : CTB G l yX7_init cX7_init 1 1 0 0 20 [.ref a] k c (HB G k c) := CTB.of (by decide) rfl (Nat.le_of_ble_eq_true rfl) (fun X hX => by
  refine b_aload (pc := 0) hX dX7_init_0 rfl 0 rfl ?_
  refine b_objInit (pc := 1) hX q_99 q_27 q_28 (Nat.le_of_ble_eq_true rfl) (Nat.le_of_ble_eq_true rfl) (Nat.le_of_ble_eq_true rfl) dX7_init_1 ?_
  exact b_ret (pc := 4) hX (Nat.le_refl _) (Nat.le_refl _) dX7_init_4 (fun H h => h))
theorem b_He {G : Gb} {l : Launch} {k a : Nat} {c : Nat → va_E} : CTB G l yX3_init cX3_init 1 1 0 0 20 [.ref a] k c (HB G k c) := CTB.of (by decide) rfl (Nat.le_of_ble_eq_true rfl) (fun X hX => by
  refine b_aload (pc := 0) hX dX3_init_0 rfl 0 rfl ?_
  refine b_objInit (pc := 1) hX q_152 q_27 q_28 (Nat.le_of_ble_eq_true rfl) (Nat.le_of_ble_eq_true rfl) (Nat.le_of_ble_eq_true rfl) dX3_init_1 ?_
  exact b_ret (pc := 4) hX (Nat.le_refl _) (Nat.le_refl _) dX3_init_4 (fun H h => h))
theorem b_No {G : Gb} {l : Launch} {k a : Nat} {c : Nat → va_E} : CTB G l yX6_init cX6_init 1 1 0 0 20 [.ref a] k c (HB G k c) := CTB.of (by decide) rfl (Nat.le_of_ble_eq_true rfl) (fun X hX => by
  refine b_aload (pc := 0) hX dX6_init_0 rfl 0 rfl ?_
  refine b_objInit (pc := 1) hX q_178 q_27 q_28 (Nat.le_of_ble_eq_true rfl) (Nat.le_of_ble_eq_true rfl) (Nat.le_of_ble_eq_true rfl) dX6_init_1 ?_
  exact b_ret (pc := 4) hX (Nat.le_refl _) (Nat.le_refl _) dX6_init_4 (fun H h => h))
theorem b_Su {G : Gb} {l : Launch} {k a : Nat} {c : Nat → va_E} : CTB G l yX9_init cX9_init 1 2 0 0 40 [.ref a] k c (HB G k c) := CTB.of (by decide) rfl (Nat.le_of_ble_eq_true rfl) (fun X hX => by
  refine b_aload (pc := 0) hX dX9_init_0 rfl 0 rfl ?_
  refine b_callN (pc := 1) (index := 1) (y := yX7_init) (As := []) (stk := []) hX ⟨by decide, q_98, q_4⟩ q_97 rfl bhd_X7_init ⟨Nat.le_of_ble_eq_true rfl, Nat.le_of_ble_eq_true rfl⟩ (b_Pl (a := a)) rfl rfl (Nat.le_of_ble_eq_true rfl) (by omega) (by omega) dX9_init_1 ?_
  exact b_ret (pc := 4) hX (Nat.le_refl _) (Nat.le_refl _) dX9_init_4 (fun H h => h))
theorem b_Jo {G : Gb} {l : Launch} {k a : Nat} {c : Nat → va_E} : CTB G l yX4_init cX4_init 1 2 0 0 40 [.ref a] k c (HB G k c) := CTB.of (by decide) rfl (Nat.le_of_ble_eq_true rfl) (fun X hX => by
  refine b_aload (pc := 0) hX dX4_init_0 rfl 0 rfl ?_
  refine b_callN (pc := 1) (index := 1) (y := yX7_init) (As := []) (stk := []) hX ⟨by decide, q_98, q_4⟩ q_97 rfl bhd_X7_init ⟨Nat.le_of_ble_eq_true rfl, Nat.le_of_ble_eq_true rfl⟩ (b_Pl (a := a)) rfl rfl (Nat.le_of_ble_eq_true rfl) (by omega) (by omega) dX4_init_1 ?_
  exact b_ret (pc := 4) hX (Nat.le_refl _) (Nat.le_refl _) dX4_init_4 (fun H h => h))
theorem b_Pr {G : Gb} {l : Launch} {k a : Nat} {c : Nat → va_E} : CTB G l yX8_init cX8_init 1 2 0 0 40 [.ref a] k c (HB G k c) := CTB.of (by decide) rfl (Nat.le_of_ble_eq_true rfl) (fun X hX => by
  refine b_aload (pc := 0) hX dX8_init_0 rfl 0 rfl ?_
  refine b_callN (pc := 1) (index := 1) (y := yX7_init) (As := []) (stk := []) hX ⟨by decide, q_98, q_4⟩ q_97 rfl bhd_X7_init ⟨Nat.le_of_ble_eq_true rfl, Nat.le_of_ble_eq_true rfl⟩ (b_Pl (a := a)) rfl rfl (Nat.le_of_ble_eq_true rfl) (by omega) (by omega) dX8_init_1 ?_
  exact b_ret (pc := 4) hX (Nat.le_refl _) (Nat.le_refl _) dX8_init_4 (fun H h => h))
theorem b_Ti {G : Gb} {l : Launch} {k a : Nat} {c : Nat → va_E} : CTB G l yX10_init cX10_init 1 3 0 0 60 [.ref a] k c (HB G k c) := CTB.of (by decide) rfl (Nat.le_of_ble_eq_true rfl) (fun X hX => by
  refine b_aload (pc := 0) hX dX10_init_0 rfl 0 rfl ?_
  refine b_callN (pc := 1) (index := 1) (y := yX9_init) (As := []) (stk := []) hX ⟨by decide, q_105, q_5⟩ q_104 rfl bhd_X9_init ⟨Nat.le_of_ble_eq_true rfl, Nat.le_of_ble_eq_true rfl⟩ (b_Su (a := a)) rfl rfl (Nat.le_of_ble_eq_true rfl) (by omega) (by omega) dX10_init_1 ?_
  exact b_ret (pc := 4) hX (Nat.le_refl _) (Nat.le_refl _) dX10_init_4 (fun H h => h))
theorem b_Fo {G : Gb} {l : Launch} {k a : Nat} {c : Nat → va_E} : CTB G l yX2_init cX2_init 1 3 0 0 60 [.ref a] k c (HB G k c) := CTB.of (by decide) rfl (Nat.le_of_ble_eq_true rfl) (fun X hX => by
  refine b_aload (pc := 0) hX dX2_init_0 rfl 0 rfl ?_
  refine b_callN (pc := 1) (index := 1) (y := yX4_init) (As := []) (stk := []) hX ⟨by decide, q_112, q_6⟩ q_111 rfl bhd_X4_init ⟨Nat.le_of_ble_eq_true rfl, Nat.le_of_ble_eq_true rfl⟩ (b_Jo (a := a)) rfl rfl (Nat.le_of_ble_eq_true rfl) (by omega) (by omega) dX2_init_1 ?_
  exact b_ret (pc := 4) hX (Nat.le_refl _) (Nat.le_refl _) dX2_init_4 (fun H h => h))
def mo0 : va_E := .inr (5, [.int 50, .int 0, .int 0, .int (-1), .int (-1)])
theorem b_Mo {G : Gb} {l : Launch} {k j : Nat} {c : Nat → va_E} (hj : j < k) (he : c j = .inr (5, bl_X5)) : CTB G l yX5_init cX5_init 1 1 0 0 20 [.ref (G.2.2.2.1 + j)] k c (HB G k (fup c j mo0)) := CTB.of (by decide) rfl (Nat.le_of_ble_eq_true rfl) (fun X hX => by
  refine b_aload (pc := 0) hX dX5_init_0 rfl 0 rfl ?_
  refine b_objInit (pc := 1) hX q_63 q_27 q_28 (Nat.le_of_ble_eq_true rfl) (Nat.le_of_ble_eq_true rfl) (Nat.le_of_ble_eq_true rfl) dX5_init_1 ?_
  refine b_aload (pc := 4) hX dX5_init_4 rfl 0 rfl ?_
  refine b_bipush (pc := 5) (v := 50) hX dX5_init_5 (by decide +kernel) ?_
  refine b_put (pc := 7) (ci := 5) (slot := 0) (C := RX5) (T := TX5) (N := 5) hX (hj) (he) rfl inX5 tyX5 tyX5_ok nmX5 (by decide) q_64 rfl (tyX5_ok 0 (by decide)) rfl rfl (Nat.le_of_ble_eq_true rfl) dX5_init_7 ?_
  refine b_aload (pc := 10) hX dX5_init_10 rfl 0 rfl ?_
  refine b_iconst (pc := 11) (v := 0) hX dX5_init_11 (by decide +kernel) ?_
  refine b_put (pc := 12) (ci := 5) (slot := 1) (C := RX5) (T := TX5) (N := 5) hX (hj) (fup_s _ _ _) rfl inX5 tyX5 tyX5_ok nmX5 (by decide) q_67 rfl (tyX5_ok 1 (by decide)) rfl rfl (Nat.le_of_ble_eq_true rfl) dX5_init_12 ?_
  refine b_aload (pc := 15) hX dX5_init_15 rfl 0 rfl ?_
  refine b_iconst (pc := 16) (v := 0) hX dX5_init_16 (by decide +kernel) ?_
  refine b_put (pc := 17) (ci := 5) (slot := 2) (C := RX5) (T := TX5) (N := 5) hX (hj) (fup_s _ _ _) rfl inX5 tyX5 tyX5_ok nmX5 (by decide) q_70 rfl (tyX5_ok 2 (by decide)) rfl rfl (Nat.le_of_ble_eq_true rfl) dX5_init_17 ?_
  refine b_aload (pc := 20) hX dX5_init_20 rfl 0 rfl ?_
  refine b_iconst (pc := 21) (v := -1) hX dX5_init_21 (by decide +kernel) ?_
  refine b_put (pc := 22) (ci := 5) (slot := 3) (C := RX5) (T := TX5) (N := 5) hX (hj) (fup_s _ _ _) rfl inX5 tyX5 tyX5_ok nmX5 (by decide) q_73 rfl (tyX5_ok 3 (by decide)) rfl rfl (Nat.le_of_ble_eq_true rfl) dX5_init_22 ?_
  refine b_aload (pc := 25) hX dX5_init_25 rfl 0 rfl ?_
  refine b_iconst (pc := 26) (v := -1) hX dX5_init_26 (by decide +kernel) ?_
  refine b_put (pc := 27) (ci := 5) (slot := 4) (C := RX5) (T := TX5) (N := 5) hX (hj) (fup_s _ _ _) rfl inX5 tyX5 tyX5_ok nmX5 (by decide) q_77 rfl (tyX5_ok 4 (by decide)) rfl rfl (Nat.le_of_ble_eq_true rfl) dX5_init_27 ?_
  exact b_ret (pc := 30) hX (Nat.le_refl _) (Nat.le_refl _) dX5_init_30 (fun H h => by rw [fup_fup, fup_fup, fup_fup, fup_fup] at h; exact h))
def ct0 (G : Gb) (x : Nat) : va_E := .inr (1, [.ref (G.2.2.2.1 + x), .int 0, .int 0, .int 0, .int 0, .int 0])
theorem b_Tx {G : Gb} {l : Launch} {k j : Nat} {c : Nat → va_E} (hj : j < k) (he : c j = .inr (1, bl_X1)) : CTB G l yX1_init cX1_init 1 1 1 150 20 [.ref (G.2.2.2.1 + j)] k c (HB G (k + 1) (fup (fup c k (arI G 150 (fun _ => 0))) j (ct0 G k))) := CTB.of (by decide) rfl (Nat.le_of_ble_eq_true rfl) (fun X hX => by
  refine b_aload (pc := 0) hX dX1_init_0 rfl 0 rfl ?_
  refine b_objInit (pc := 1) hX q_34 q_27 q_28 (Nat.le_of_ble_eq_true rfl) (Nat.le_of_ble_eq_true rfl) (Nat.le_of_ble_eq_true rfl) dX1_init_1 ?_
  refine b_aload (pc := 4) hX dX1_init_4 rfl 0 rfl ?_
  refine b_sipush (pc := 5) (v := 150) hX dX1_init_5 (by decide +kernel) ?_
  refine b_newi (pc := 8) (ty := .int) (t0 := 0) (N := 150) hX rfl rfl (fun h => h) q_57 (fun _ => rfl) (by decide +kernel) (by decide +kernel) (by decide +kernel) (by omega) (by omega) dX1_init_8 ?_
  refine b_putF (pc := 10) (ci := 1) (slot := 0) (C := RX1) (T := TX1) (N := 6) hX (by omega) (by rw [fup_o (by omega)]; exact he) rfl inX1 tyX1 tyX1_ok nmX1 (by decide) q_35 rfl rfl (tyX1_ok 0 (by decide)) rfl rfl (Nat.le_of_ble_eq_true rfl) dX1_init_10 ?_
  refine b_aload (pc := 13) hX dX1_init_13 rfl 0 rfl ?_
  refine b_iconst (pc := 14) (v := 0) hX dX1_init_14 (by decide +kernel) ?_
  refine b_put (pc := 15) (ci := 1) (slot := 1) (C := RX1) (T := TX1) (N := 6) hX (by omega) (fup_s _ _ _) rfl inX1 tyX1 tyX1_ok nmX1 (by decide) q_36 rfl (tyX1_ok 1 (by decide)) rfl rfl (Nat.le_of_ble_eq_true rfl) dX1_init_15 ?_
  refine b_aload (pc := 18) hX dX1_init_18 rfl 0 rfl ?_
  refine b_iconst (pc := 19) (v := 0) hX dX1_init_19 (by decide +kernel) ?_
  refine b_put (pc := 20) (ci := 1) (slot := 2) (C := RX1) (T := TX1) (N := 6) hX (by omega) (fup_s _ _ _) rfl inX1 tyX1 tyX1_ok nmX1 (by decide) q_38 rfl (tyX1_ok 2 (by decide)) rfl rfl (Nat.le_of_ble_eq_true rfl) dX1_init_20 ?_
  refine b_aload (pc := 23) hX dX1_init_23 rfl 0 rfl ?_
  refine b_iconst (pc := 24) (v := 0) hX dX1_init_24 (by decide +kernel) ?_
  refine b_put (pc := 25) (ci := 1) (slot := 3) (C := RX1) (T := TX1) (N := 6) hX (by omega) (fup_s _ _ _) rfl inX1 tyX1 tyX1_ok nmX1 (by decide) q_40 rfl (tyX1_ok 3 (by decide)) rfl rfl (Nat.le_of_ble_eq_true rfl) dX1_init_25 ?_
  refine b_aload (pc := 28) hX dX1_init_28 rfl 0 rfl ?_
  refine b_iconst (pc := 29) (v := 0) hX dX1_init_29 (by decide +kernel) ?_
  refine b_put (pc := 30) (ci := 1) (slot := 4) (C := RX1) (T := TX1) (N := 6) hX (by omega) (fup_s _ _ _) rfl inX1 tyX1 tyX1_ok nmX1 (by decide) q_41 rfl (tyX1_ok 4 (by decide)) rfl rfl (Nat.le_of_ble_eq_true rfl) dX1_init_30 ?_
  refine b_aload (pc := 33) hX dX1_init_33 rfl 0 rfl ?_
  refine b_iconst (pc := 34) (v := 0) hX dX1_init_34 (by decide +kernel) ?_
  refine b_put (pc := 35) (ci := 1) (slot := 5) (C := RX1) (T := TX1) (N := 6) hX (by omega) (fup_s _ _ _) rfl inX1 tyX1 tyX1_ok nmX1 (by decide) q_42 rfl (tyX1_ok 5 (by decide)) rfl rfl (Nat.le_of_ble_eq_true rfl) dX1_init_35 ?_
  exact b_ret (pc := 38) hX (Nat.le_refl _) (Nat.le_refl _) dX1_init_38 (fun H h => by rw [fup_fup, fup_fup, fup_fup, fup_fup, fup_fup] at h; exact h))
theorem lp_He {G : Gb} {X : CX} {l : Launch} {P : Heap → Prop} {j q : Nat} {FS : List Value} (hX : OB G X l cX0_init 3 "CrownTwo$Court" 2 24 119 40) (hFS : FS[1]? = some (.ref (G.2.2.2.1 + (j + 1)))) : ∀ (r i n z : Nat) (c : Nat → va_E), i + r = 6 → n + r ≤ 24 → z + 4 * r ≤ 119 → c j = .inr (0, FS) → c (j + 1) = arQ G 3 6 (fun t => if t < i then some (G.2.2.2.1 + (j + 5 + t)) else none) →
    (∀ c' : Nat → va_E, (∀ x, x ≠ j + 1 → x < j + 5 → c' x = c x) → c' (j + 1) = arQ G 3 6 (fun t => if t < 6 then some (G.2.2.2.1 + (j + 5 + t)) else none) → (∀ t, i ≤ t → t < 6 → c' (j + 5 + t) = .inr (3, bl_X3)) → (∀ t, t < i → c' (j + 5 + t) = c (j + 5 + t)) → ZB G X 24 119 3 P (n + r) (z + 4 * r) (j + 5 + 6) c' [(2, .int (nI 6)), (0, .ref (G.2.2.2.1 + j)), (1, .ref q)] [] 89) →
    ZB G X 24 119 3 P n z (j + 5 + i) c [(2, .int (nI i)), (0, .ref (G.2.2.2.1 + j)), (1, .ref q)] [] 64
  | 0, i, n, z, c, hi, hn, hz, hj0, ha, kk => by
    have ei : i = 6 := by omega
    subst ei
    refine b_iload (pc := 64) hX dX0_init_64 rfl 0 rfl ?_
    refine b_bipush (pc := 65) (v := nI 6) hX dX0_init_65 (by decide +kernel) ?_
    refine b_icmpge (pc := 67) (tgt := 89) hX dX0_init_67 rfl (fun _ => ?_) (fun w => absurd (Int32.le_refl _) w)
    exact kk c (fun _ _ _ => rfl) ha (fun t a b => by omega) (fun _ _ => rfl)
  | r + 1, i, n, z, c, hi, hn, hz, hj0, ha, kk => by
    refine b_iload (pc := 64) hX dX0_init_64 rfl 0 rfl ?_
    refine b_bipush (pc := 65) (v := nI 6) hX dX0_init_65 (by decide +kernel) ?_
    refine b_icmpge (pc := 67) (tgt := 89) hX dX0_init_67 rfl (fun w => ?_) (fun _ => ?_)
    · have := (nI_leI (by omega) (by omega)).mp w
      omega
    refine b_aload (pc := 70) hX dX0_init_70 rfl 1 rfl ?_
    refine b_get (pc := 71) (ci := 0) (slot := 1) (C := RX0) (T := TX0) (N := 8) hX (by omega) (hj0) rfl inX0 (by decide) q_201 hFS dX0_init_71 ?_
    refine b_iload (pc := 74) hX dX0_init_74 rfl 0 rfl ?_
    refine b_new (pc := 75) (ci := 3) hX inX3 tyX3 tyX3_ok q_142 q_148 q_11 rfl bl_X3 nf_X3 (by omega) (by omega) dX0_init_75 ?_
    refine b_dup (pc := 78) hX dX0_init_78 ?_
    refine b_callN (pc := 79) (index := 48) (y := yX3_init) (As := []) (stk := [.ref (G.2.2.2.1 + (j + 5 + i)), .int (nI i), .ref (G.2.2.2.1 + (j + 1))]) hX ⟨by decide, q_151, q_11⟩ q_150 rfl bhd_X3_init ⟨Nat.le_of_ble_eq_true rfl, Nat.le_of_ble_eq_true rfl⟩ (b_He) rfl rfl (Nat.le_of_ble_eq_true rfl) (by omega) (by omega) dX0_init_79 ?_
    refine b_ast (pc := 82) (C := "CrownTwo$Heir") (t0 := 3) (N := 6) hX (by omega) (by rw [fup_o (by omega)]; exact ha) rfl (by omega) (fup_s _ _ _) rfl (vp_in_nI (by omega) (by omega)) dX0_init_82 ?_
    rw [nI_clamp (by omega)]
    refine b_iinc (pc := 83) (p := 0) (v := nI (i + 1)) hX dX0_init_83 rfl (nI_1 i) (by decide) rfl ?_
    refine b_goto (pc := 86) (tgt := 64) hX dX0_init_86 rfl ?_
    refine lp_He hX hFS r (i + 1) (n + 1) (z + 4) _ (by omega) (by omega) (by omega) (by rw [fup_o (by omega), fup_o (by omega)]; exact hj0) ?_ ?_
    · rw [fup_s]
      have ef : va_up (fun t => if t < i then some (G.2.2.2.1 + (j + 5 + t)) else none) i (some (G.2.2.2.1 + (j + 5 + i))) = fun t => if t < i + 1 then some (G.2.2.2.1 + (j + 5 + t)) else none := by
        funext t
        unfold va_up
        by_cases e : t = i
        · rw [if_pos e, if_pos (by omega), e]
        · rw [if_neg e]
          dsimp only
          by_cases e2 : t < i
          · rw [if_pos e2, if_pos (by omega)]
          · rw [if_neg e2, if_neg (by omega)]
      rw [ef]
    · intro c' h1 h2 h3 h4
      have k2 := kk c' (fun x x1 x2 => by rw [h1 x x1 x2, fup_o (by omega), fup_o (by omega)]) h2 (fun t a b => ?_) (fun t a => by rw [h4 t (by omega), fup_o (by omega), fup_o (by omega)])
      · rw [show n + 1 + r = n + (r + 1) by omega, show z + 4 + 4 * r = z + 4 * (r + 1) by omega]
        exact k2
      · by_cases e : t = i
        · rw [e, h4 i (by omega), fup_o (by omega), fup_s]
        · exact h3 t (by omega) b
theorem lp_No {G : Gb} {X : CX} {l : Launch} {P : Heap → Prop} {j q : Nat} {FS : List Value} (hX : OB G X l cX0_init 3 "CrownTwo$Court" 2 24 119 40) (hFS : FS[2]? = some (.ref (G.2.2.2.1 + (j + 2)))) : ∀ (r i n z : Nat) (c : Nat → va_E), i + r = 6 → n + r ≤ 24 → z + 5 * r ≤ 119 → c j = .inr (0, FS) → c (j + 2) = arQ G 4 6 (fun t => if t < i then some (G.2.2.2.1 + (j + 11 + t)) else none) →
    (∀ c' : Nat → va_E, (∀ x, x ≠ j + 2 → x < j + 11 → c' x = c x) → c' (j + 2) = arQ G 4 6 (fun t => if t < 6 then some (G.2.2.2.1 + (j + 11 + t)) else none) → (∀ t, i ≤ t → t < 6 → c' (j + 11 + t) = .inr (6, bl_X6)) → (∀ t, t < i → c' (j + 11 + t) = c (j + 11 + t)) → ZB G X 24 119 3 P (n + r) (z + 5 * r) (j + 11 + 6) c' [(2, .int (nI 6)), (0, .ref (G.2.2.2.1 + j)), (1, .ref q)] [] 116) →
    ZB G X 24 119 3 P n z (j + 11 + i) c [(2, .int (nI i)), (0, .ref (G.2.2.2.1 + j)), (1, .ref q)] [] 91
  | 0, i, n, z, c, hi, hn, hz, hj0, ha, kk => by
    have ei : i = 6 := by omega
    subst ei
    refine b_iload (pc := 91) hX dX0_init_91 rfl 0 rfl ?_
    refine b_bipush (pc := 92) (v := nI 6) hX dX0_init_92 (by decide +kernel) ?_
    refine b_icmpge (pc := 94) (tgt := 116) hX dX0_init_94 rfl (fun _ => ?_) (fun w => absurd (Int32.le_refl _) w)
    exact kk c (fun _ _ _ => rfl) ha (fun t a b => by omega) (fun _ _ => rfl)
  | r + 1, i, n, z, c, hi, hn, hz, hj0, ha, kk => by
    refine b_iload (pc := 91) hX dX0_init_91 rfl 0 rfl ?_
    refine b_bipush (pc := 92) (v := nI 6) hX dX0_init_92 (by decide +kernel) ?_
    refine b_icmpge (pc := 94) (tgt := 116) hX dX0_init_94 rfl (fun w => ?_) (fun _ => ?_)
    · have := (nI_leI (by omega) (by omega)).mp w
      omega
    refine b_aload (pc := 97) hX dX0_init_97 rfl 1 rfl ?_
    refine b_get (pc := 98) (ci := 0) (slot := 2) (C := RX0) (T := TX0) (N := 8) hX (by omega) (hj0) rfl inX0 (by decide) q_204 hFS dX0_init_98 ?_
    refine b_iload (pc := 101) hX dX0_init_101 rfl 0 rfl ?_
    refine b_new (pc := 102) (ci := 6) hX inX6 tyX6 tyX6_ok q_144 q_174 q_12 rfl bl_X6 nf_X6 (by omega) (by omega) dX0_init_102 ?_
    refine b_dup (pc := 105) hX dX0_init_105 ?_
    refine b_callN (pc := 106) (index := 49) (y := yX6_init) (As := []) (stk := [.ref (G.2.2.2.1 + (j + 11 + i)), .int (nI i), .ref (G.2.2.2.1 + (j + 2))]) hX ⟨by decide, q_177, q_12⟩ q_176 rfl bhd_X6_init ⟨Nat.le_of_ble_eq_true rfl, Nat.le_of_ble_eq_true rfl⟩ (b_No) rfl rfl (Nat.le_of_ble_eq_true rfl) (by omega) (by omega) dX0_init_106 ?_
    refine b_ast (pc := 109) (C := "CrownTwo$Note") (t0 := 4) (N := 6) hX (by omega) (by rw [fup_o (by omega)]; exact ha) rfl (by omega) (fup_s _ _ _) rfl (vp_in_nI (by omega) (by omega)) dX0_init_109 ?_
    rw [nI_clamp (by omega)]
    refine b_iinc (pc := 110) (p := 0) (v := nI (i + 1)) hX dX0_init_110 rfl (nI_1 i) (by decide) rfl ?_
    refine b_goto (pc := 113) (tgt := 91) hX dX0_init_113 rfl ?_
    refine lp_No hX hFS r (i + 1) (n + 1) (z + 5) _ (by omega) (by omega) (by omega) (by rw [fup_o (by omega), fup_o (by omega)]; exact hj0) ?_ ?_
    · rw [fup_s]
      have ef : va_up (fun t => if t < i then some (G.2.2.2.1 + (j + 11 + t)) else none) i (some (G.2.2.2.1 + (j + 11 + i))) = fun t => if t < i + 1 then some (G.2.2.2.1 + (j + 11 + t)) else none := by
        funext t
        unfold va_up
        by_cases e : t = i
        · rw [if_pos e, if_pos (by omega), e]
        · rw [if_neg e]
          dsimp only
          by_cases e2 : t < i
          · rw [if_pos e2, if_pos (by omega)]
          · rw [if_neg e2, if_neg (by omega)]
      rw [ef]
    · intro c' h1 h2 h3 h4
      have k2 := kk c' (fun x x1 x2 => by rw [h1 x x1 x2, fup_o (by omega), fup_o (by omega)]) h2 (fun t a b => ?_) (fun t a => by rw [h4 t (by omega), fup_o (by omega), fup_o (by omega)])
      · rw [show n + 1 + r = n + (r + 1) by omega, show z + 5 + 5 * r = z + 5 * (r + 1) by omega]
        exact k2
      · by_cases e : t = i
        · rw [e, h4 i (by omega), fup_o (by omega), fup_s]
        · exact h3 t (by omega) b
theorem lp_Mo {G : Gb} {X : CX} {l : Launch} {P : Heap → Prop} {j q : Nat} {FS : List Value} (hX : OB G X l cX0_init 3 "CrownTwo$Court" 2 24 119 40) (hFS : FS[3]? = some (.ref (G.2.2.2.1 + (j + 3)))) : ∀ (r i n z : Nat) (c : Nat → va_E), i + r = 8 → n + r ≤ 24 → z + 5 * r ≤ 119 → c j = .inr (0, FS) → c (j + 3) = arQ G 5 8 (fun t => if t < i then some (G.2.2.2.1 + (j + 17 + t)) else none) →
    (∀ c' : Nat → va_E, (∀ x, x ≠ j + 3 → x < j + 17 → c' x = c x) → c' (j + 3) = arQ G 5 8 (fun t => if t < 8 then some (G.2.2.2.1 + (j + 17 + t)) else none) → (∀ t, i ≤ t → t < 8 → c' (j + 17 + t) = mo0) → (∀ t, t < i → c' (j + 17 + t) = c (j + 17 + t)) → ZB G X 24 119 3 P (n + r) (z + 5 * r) (j + 17 + 8) c' [(2, .int (nI 8)), (0, .ref (G.2.2.2.1 + j)), (1, .ref q)] [] 143) →
    ZB G X 24 119 3 P n z (j + 17 + i) c [(2, .int (nI i)), (0, .ref (G.2.2.2.1 + j)), (1, .ref q)] [] 118
  | 0, i, n, z, c, hi, hn, hz, hj0, ha, kk => by
    have ei : i = 8 := by omega
    subst ei
    refine b_iload (pc := 118) hX dX0_init_118 rfl 0 rfl ?_
    refine b_bipush (pc := 119) (v := nI 8) hX dX0_init_119 (by decide +kernel) ?_
    refine b_icmpge (pc := 121) (tgt := 143) hX dX0_init_121 rfl (fun _ => ?_) (fun w => absurd (Int32.le_refl _) w)
    exact kk c (fun _ _ _ => rfl) ha (fun t a b => by omega) (fun _ _ => rfl)
  | r + 1, i, n, z, c, hi, hn, hz, hj0, ha, kk => by
    refine b_iload (pc := 118) hX dX0_init_118 rfl 0 rfl ?_
    refine b_bipush (pc := 119) (v := nI 8) hX dX0_init_119 (by decide +kernel) ?_
    refine b_icmpge (pc := 121) (tgt := 143) hX dX0_init_121 rfl (fun w => ?_) (fun _ => ?_)
    · have := (nI_leI (by omega) (by omega)).mp w
      omega
    refine b_aload (pc := 124) hX dX0_init_124 rfl 1 rfl ?_
    refine b_get (pc := 125) (ci := 0) (slot := 3) (C := RX0) (T := TX0) (N := 8) hX (by omega) (hj0) rfl inX0 (by decide) q_206 hFS dX0_init_125 ?_
    refine b_iload (pc := 128) hX dX0_init_128 rfl 0 rfl ?_
    refine b_new (pc := 129) (ci := 5) hX inX5 tyX5 tyX5_ok q_146 q_59 q_3 rfl bl_X5 nf_X5 (by omega) (by omega) dX0_init_129 ?_
    refine b_dup (pc := 132) hX dX0_init_132 ?_
    refine b_callN (pc := 133) (index := 29) (y := yX5_init) (As := []) (stk := [.ref (G.2.2.2.1 + (j + 17 + i)), .int (nI i), .ref (G.2.2.2.1 + (j + 3))]) hX ⟨by decide, q_62, q_3⟩ q_61 rfl bhd_X5_init ⟨Nat.le_of_ble_eq_true rfl, Nat.le_of_ble_eq_true rfl⟩ (b_Mo (by omega) (fup_s _ _ _)) rfl rfl (Nat.le_of_ble_eq_true rfl) (by omega) (by omega) dX0_init_133 ?_
    refine b_ast (pc := 136) (C := "CrownTwo$Moment") (t0 := 5) (N := 8) hX (by omega) (by rw [fup_o (by omega), fup_o (by omega)]; exact ha) rfl (by omega) (fup_s _ _ _) rfl (vp_in_nI (by omega) (by omega)) dX0_init_136 ?_
    rw [nI_clamp (by omega)]
    refine b_iinc (pc := 137) (p := 0) (v := nI (i + 1)) hX dX0_init_137 rfl (nI_1 i) (by decide) rfl ?_
    refine b_goto (pc := 140) (tgt := 118) hX dX0_init_140 rfl ?_
    refine lp_Mo hX hFS r (i + 1) (n + 1) (z + 5) _ (by omega) (by omega) (by omega) (by rw [fup_o (by omega), fup_o (by omega), fup_o (by omega)]; exact hj0) ?_ ?_
    · rw [fup_s]
      have ef : va_up (fun t => if t < i then some (G.2.2.2.1 + (j + 17 + t)) else none) i (some (G.2.2.2.1 + (j + 17 + i))) = fun t => if t < i + 1 then some (G.2.2.2.1 + (j + 17 + t)) else none := by
        funext t
        unfold va_up
        by_cases e : t = i
        · rw [if_pos e, if_pos (by omega), e]
        · rw [if_neg e]
          dsimp only
          by_cases e2 : t < i
          · rw [if_pos e2, if_pos (by omega)]
          · rw [if_neg e2, if_neg (by omega)]
      rw [ef]
    · intro c' h1 h2 h3 h4
      have k2 := kk c' (fun x x1 x2 => by rw [h1 x x1 x2, fup_o (by omega), fup_o (by omega), fup_o (by omega)]) h2 (fun t a b => ?_) (fun t a => by rw [h4 t (by omega), fup_o (by omega), fup_o (by omega), fup_o (by omega)])
      · rw [show n + 1 + r = n + (r + 1) by omega, show z + 5 + 5 * r = z + 5 * (r + 1) by omega]
        exact k2
      · by_cases e : t = i
        · rw [e, h4 i (by omega), fup_o (by omega), fup_s]
        · exact h3 t (by omega) b
