/-! a court is made -/
theorem arq0 (G : Gb) (t n : Nat) (f : Nat → Option Nat) : arQ G t n (fun _ => none) = arQ G t n (fun x => if x < 0 then f x else none) := by
  have e : (fun x => if x < 0 then f x else none) = fun _ => (none : Option Nat) := by
    funext x
    rw [if_neg (by omega)]
  rw [e]
def crtF (G : Gb) (j q : Nat) (c : Nat → va_E) : Nat → va_E := fun x => if x < j then c x else if x = j then .inr (0, [.ref q, .ref (G.2.2.2.1 + (j + 1)), .ref (G.2.2.2.1 + (j + 2)), .ref (G.2.2.2.1 + (j + 3)), .ref (G.2.2.2.1 + (j + 4)), .int 0, .int 0, .int 0]) else if x = j + 1 then arQ G 3 6 (fun t => some (G.2.2.2.1 + (j + 5 + t))) else if x = j + 2 then arQ G 4 6 (fun t => some (G.2.2.2.1 + (j + 11 + t))) else if x = j + 3 then arQ G 5 8 (fun t => some (G.2.2.2.1 + (j + 17 + t))) else if x = j + 4 then mo0 else if x < j + 11 then .inr (3, bl_X3) else if x < j + 17 then .inr (6, bl_X6) else mo0
theorem b_Co {G : Gb} {l : Launch} {j q : Nat} {c : Nat → va_E} (he : c j = .inr (0, bl_X0)) : CTB G l yX0_init cX0_init 3 2 24 119 40 [.ref (G.2.2.2.1 + j), .ref q] (j + 1) c (HB G (j + 25) (crtF G j q c)) := CTB.of (by decide) rfl (Nat.le_of_ble_eq_true rfl) (fun X hX => by
  refine b_aload (pc := 0) hX dX0_init_0 rfl 0 rfl ?_
  refine b_objInit (pc := 1) hX q_141 q_27 q_28 (Nat.le_of_ble_eq_true rfl) (Nat.le_of_ble_eq_true rfl) (Nat.le_of_ble_eq_true rfl) dX0_init_1 ?_
  refine b_aload (pc := 4) hX dX0_init_4 rfl 0 rfl ?_
  refine b_bipush (pc := 5) (v := 6) hX dX0_init_5 (by decide +kernel) ?_
  refine b_newq (pc := 7) (C := "CrownTwo$Heir") (t0 := 3) (N := 6) hX rfl q_142 (by decide) (by decide +kernel) (by decide +kernel) (by decide +kernel) (by omega) (by omega) dX0_init_7 ?_
  refine b_putF (pc := 10) (ci := 0) (slot := 1) (C := RX0) (T := TX0) (N := 8) hX (by omega) (by rw [fup_o (by omega)]; exact he) rfl inX0 tyX0 tyX0_ok nmX0 (by decide) q_201 rfl rfl (tyX0_ok 1 (by decide)) rfl rfl (Nat.le_of_ble_eq_true rfl) dX0_init_10 ?_
  refine b_aload (pc := 13) hX dX0_init_13 rfl 0 rfl ?_
  refine b_bipush (pc := 14) (v := 6) hX dX0_init_14 (by decide +kernel) ?_
  refine b_newq (pc := 16) (C := "CrownTwo$Note") (t0 := 4) (N := 6) hX rfl q_144 (by decide) (by decide +kernel) (by decide +kernel) (by decide +kernel) (by omega) (by omega) dX0_init_16 ?_
  refine b_putF (pc := 19) (ci := 0) (slot := 2) (C := RX0) (T := TX0) (N := 8) hX (by omega) (by rw [fup_o (by omega)]; exact fup_s _ _ _) rfl inX0 tyX0 tyX0_ok nmX0 (by decide) q_204 rfl rfl (tyX0_ok 2 (by decide)) rfl rfl (Nat.le_of_ble_eq_true rfl) dX0_init_19 ?_
  refine b_aload (pc := 22) hX dX0_init_22 rfl 0 rfl ?_
  refine b_bipush (pc := 23) (v := 8) hX dX0_init_23 (by decide +kernel) ?_
  refine b_newq (pc := 25) (C := "CrownTwo$Moment") (t0 := 5) (N := 8) hX rfl q_146 (by decide) (by decide +kernel) (by decide +kernel) (by decide +kernel) (by omega) (by omega) dX0_init_25 ?_
  refine b_putF (pc := 28) (ci := 0) (slot := 3) (C := RX0) (T := TX0) (N := 8) hX (by omega) (by rw [fup_o (by omega)]; exact fup_s _ _ _) rfl inX0 tyX0 tyX0_ok nmX0 (by decide) q_206 rfl rfl (tyX0_ok 3 (by decide)) rfl rfl (Nat.le_of_ble_eq_true rfl) dX0_init_28 ?_
  refine b_aload (pc := 31) hX dX0_init_31 rfl 0 rfl ?_
  refine b_new (pc := 32) (ci := 5) hX inX5 tyX5 tyX5_ok q_146 q_59 q_3 rfl bl_X5 nf_X5 (by omega) (by omega) dX0_init_32 ?_
  refine b_dup (pc := 35) hX dX0_init_35 ?_
  refine b_callN (pc := 36) (index := 29) (y := yX5_init) (As := []) (stk := [.ref (G.2.2.2.1 + (j + 4)), .ref (G.2.2.2.1 + j)]) hX ⟨by decide, q_62, q_3⟩ q_61 rfl bhd_X5_init ⟨Nat.le_of_ble_eq_true rfl, Nat.le_of_ble_eq_true rfl⟩ (b_Mo (j := j + 4) (by omega) (fup_s _ _ _)) rfl rfl (Nat.le_of_ble_eq_true rfl) (by omega) (by omega) dX0_init_36 ?_
  refine b_putF (pc := 39) (ci := 0) (slot := 4) (C := RX0) (T := TX0) (N := 8) hX (by omega) (by rw [fup_o (by omega), fup_o (by omega)]; exact fup_s _ _ _) rfl inX0 tyX0 tyX0_ok nmX0 (by decide) q_207 rfl rfl (tyX0_ok 4 (by decide)) rfl rfl (Nat.le_of_ble_eq_true rfl) dX0_init_39 ?_
  refine b_aload (pc := 42) hX dX0_init_42 rfl 0 rfl ?_
  refine b_iconst (pc := 43) (v := 0) hX dX0_init_43 (by decide +kernel) ?_
  refine b_put (pc := 44) (ci := 0) (slot := 5) (C := RX0) (T := TX0) (N := 8) hX (by omega) (fup_s _ _ _) rfl inX0 tyX0 tyX0_ok nmX0 (by decide) q_210 rfl (tyX0_ok 5 (by decide)) rfl rfl (Nat.le_of_ble_eq_true rfl) dX0_init_44 ?_
  refine b_aload (pc := 47) hX dX0_init_47 rfl 0 rfl ?_
  refine b_iconst (pc := 48) (v := 0) hX dX0_init_48 (by decide +kernel) ?_
  refine b_put (pc := 49) (ci := 0) (slot := 6) (C := RX0) (T := TX0) (N := 8) hX (by omega) (fup_s _ _ _) rfl inX0 tyX0 tyX0_ok nmX0 (by decide) q_213 rfl (tyX0_ok 6 (by decide)) rfl rfl (Nat.le_of_ble_eq_true rfl) dX0_init_49 ?_
  refine b_aload (pc := 52) hX dX0_init_52 rfl 0 rfl ?_
  refine b_iconst (pc := 53) (v := 0) hX dX0_init_53 (by decide +kernel) ?_
  refine b_put (pc := 54) (ci := 0) (slot := 7) (C := RX0) (T := TX0) (N := 8) hX (by omega) (fup_s _ _ _) rfl inX0 tyX0 tyX0_ok nmX0 (by decide) q_215 rfl (tyX0_ok 7 (by decide)) rfl rfl (Nat.le_of_ble_eq_true rfl) dX0_init_54 ?_
  refine b_aload (pc := 57) hX dX0_init_57 rfl 0 rfl ?_
  refine b_aload (pc := 58) hX dX0_init_58 rfl 1 rfl ?_
  refine b_putF (pc := 59) (ci := 0) (slot := 0) (C := RX0) (T := TX0) (N := 8) hX (by omega) (fup_s _ _ _) rfl inX0 tyX0 tyX0_ok nmX0 (by decide) q_200 rfl rfl (tyX0_ok 0 (by decide)) rfl rfl (Nat.le_of_ble_eq_true rfl) dX0_init_59 ?_
  refine b_iconst (pc := 62) (v := nI 0) hX dX0_init_62 (by decide +kernel) ?_
  refine b_istore (pc := 63) hX dX0_init_63 rfl (by decide) rfl ?_
  refine lp_He (j := j) (q := q) (FS := [.ref q, .ref (G.2.2.2.1 + (j + 1)), .ref (G.2.2.2.1 + (j + 2)), .ref (G.2.2.2.1 + (j + 3)), .ref (G.2.2.2.1 + (j + 4)), .int 0, .int 0, .int 0]) hX rfl 6 0 4 25 _ (by omega) (by omega) (by omega) (fup_s _ _ _) (by rw [fup_o (by omega), fup_o (by omega), fup_o (by omega), fup_o (by omega), fup_o (by omega), fup_o (by omega), fup_o (by omega), fup_o (by omega), fup_o (by omega), fup_o (by omega), fup_o (by omega), fup_o (by omega)]; rw [fup_s]; exact arq0 G 3 6 _) ?_
  intro c1 a1 a2 a3 a4
  refine b_iconst (pc := 89) (v := nI 0) hX dX0_init_89 (by decide +kernel) ?_
  refine b_istore (pc := 90) hX dX0_init_90 rfl (by decide) rfl ?_
  refine lp_No (j := j) (q := q) (FS := [.ref q, .ref (G.2.2.2.1 + (j + 1)), .ref (G.2.2.2.1 + (j + 2)), .ref (G.2.2.2.1 + (j + 3)), .ref (G.2.2.2.1 + (j + 4)), .int 0, .int 0, .int 0]) hX rfl 6 0 10 49 _ (by omega) (by omega) (by omega) (by rw [a1 j (by omega) (by omega), fup_s]; rfl) (by rw [a1 (j + 2) (by omega) (by omega), fup_o (by omega), fup_o (by omega), fup_o (by omega), fup_o (by omega), fup_o (by omega), fup_o (by omega), fup_o (by omega), fup_o (by omega), fup_o (by omega), fup_o (by omega), fup_s]; exact arq0 G 4 6 _) ?_
  intro c2 e1 e2 e3 e4
  refine b_iconst (pc := 116) (v := nI 0) hX dX0_init_116 (by decide +kernel) ?_
  refine b_istore (pc := 117) hX dX0_init_117 rfl (by decide) rfl ?_
  refine lp_Mo (j := j) (q := q) (FS := [.ref q, .ref (G.2.2.2.1 + (j + 1)), .ref (G.2.2.2.1 + (j + 2)), .ref (G.2.2.2.1 + (j + 3)), .ref (G.2.2.2.1 + (j + 4)), .int 0, .int 0, .int 0]) hX rfl 8 0 16 79 _ (by omega) (by omega) (by omega) (by rw [e1 j (by omega) (by omega), a1 j (by omega) (by omega), fup_s]; rfl) (by rw [e1 (j + 3) (by omega) (by omega), a1 (j + 3) (by omega) (by omega), fup_o (by omega), fup_o (by omega), fup_o (by omega), fup_o (by omega), fup_o (by omega), fup_o (by omega), fup_o (by omega), fup_o (by omega), fup_s]; exact arq0 G 5 8 _) ?_
  intro c3 f1 f2 f3 f4
  refine b_ret (pc := 143) hX (by omega) (by omega) dX0_init_143 (fun H h => h.ceq (fun x hx => ?_))
  unfold crtF
  by_cases x0 : x < j
  · rw [if_pos x0, f1 x (by omega) (by omega), e1 x (by omega) (by omega), a1 x (by omega) (by omega), fup_o (by omega), fup_o (by omega), fup_o (by omega), fup_o (by omega), fup_o (by omega), fup_o (by omega), fup_o (by omega), fup_o (by omega), fup_o (by omega), fup_o (by omega), fup_o (by omega), fup_o (by omega), fup_o (by omega)]
    exact ceq.of rfl
  rw [if_neg x0]
  by_cases x1 : x = j
  · subst x1
    rw [if_pos rfl, f1 x (by omega) (by omega), e1 x (by omega) (by omega), a1 x (by omega) (by omega), fup_s]
    exact ceq.of rfl
  rw [if_neg x1]
  by_cases x2 : x = j + 1
  · subst x2
    rw [if_pos rfl, f1 (j + 1) (by omega) (by omega), e1 (j + 1) (by omega) (by omega), a2]
    exact ceq.q (fun t ht => if_pos ht)
  rw [if_neg x2]
  by_cases x3 : x = j + 2
  · subst x3
    rw [if_pos rfl, f1 (j + 2) (by omega) (by omega), e2]
    exact ceq.q (fun t ht => if_pos ht)
  rw [if_neg x3]
  by_cases x4 : x = j + 3
  · subst x4
    rw [if_pos rfl, f2]
    exact ceq.q (fun t ht => if_pos ht)
  rw [if_neg x4]
  by_cases x5 : x = j + 4
  · subst x5
    rw [if_pos rfl, f1 (j + 4) (by omega) (by omega), e1 (j + 4) (by omega) (by omega), a1 (j + 4) (by omega) (by omega), fup_o (by omega), fup_o (by omega), fup_o (by omega), fup_o (by omega), fup_o (by omega), fup_s]
    exact ceq.of rfl
  rw [if_neg x5]
  by_cases x6 : x < j + 11
  · obtain ⟨t, rfl⟩ : ∃ t, x = j + 5 + t := ⟨x - (j + 5), by omega⟩
    rw [if_pos x6, f1 (j + 5 + t) (by omega) (by omega), e1 (j + 5 + t) (by omega) (by omega), a3 t (by omega) (by omega)]
    exact ceq.of rfl
  rw [if_neg x6]
  by_cases x7 : x < j + 17
  · obtain ⟨t, rfl⟩ : ∃ t, x = j + 11 + t := ⟨x - (j + 11), by omega⟩
    rw [if_pos x7, f1 (j + 11 + t) (by omega) (by omega), e3 t (by omega) (by omega)]
    exact ceq.of rfl
  rw [if_neg x7]
  obtain ⟨t, rfl⟩ : ∃ t, x = j + 17 + t := ⟨x - (j + 17), by omega⟩
  rw [f3 t (by omega) (by omega)]
  exact ceq.of rfl)
