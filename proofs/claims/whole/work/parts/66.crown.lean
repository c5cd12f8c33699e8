/-! the class's own constructor -/
theorem ixc_0 : (0 : Int32).toNatClampNeg = 0 := by decide +kernel
theorem ixc_1 : (1 : Int32).toNatClampNeg = 1 := by decide +kernel
theorem ixc_2 : (2 : Int32).toNatClampNeg = 2 := by decide +kernel
theorem ixc_3 : (3 : Int32).toNatClampNeg = 3 := by decide +kernel
theorem ixc_4 : (4 : Int32).toNatClampNeg = 4 := by decide +kernel
theorem ixc_5 : (5 : Int32).toNatClampNeg = 5 := by decide +kernel
theorem crt_lo {G : Gb} {j q x : Nat} {c : Nat → va_E} (h : x < j) : crtF G j q c x = c x := if_pos h
theorem crt_j (G : Gb) (j q : Nat) (c : Nat → va_E) : crtF G j q c j = .inr (0, [.ref q, .ref (G.2.2.2.1 + (j + 1)), .ref (G.2.2.2.1 + (j + 2)), .ref (G.2.2.2.1 + (j + 3)), .ref (G.2.2.2.1 + (j + 4)), .int 0, .int 0, .int 0]) := by
  unfold crtF
  rw [if_neg (Nat.lt_irrefl j), if_pos rfl]
theorem lp_St {G : Gb} {X : CX} {l : Launch} {P : Heap → Prop} {q : Nat} {FS : List Value} (hX : OB G X l cX11_init 3 "CrownTwo" 4 120 717 80) (hFS : FS[6]? = some (.ref (G.2.2.2.1 + (5)))) : ∀ (r i n z : Nat) (c : Nat → va_E), i + r = 5 → n + r ≤ 120 → z + 5 * r ≤ 717 → c 0 = .inr (11, FS) → c (5) = arQ G 5 5 (fun t => if t < i then some (G.2.2.2.1 + (116 + t)) else none) →
    (∀ c' : Nat → va_E, (∀ x, x ≠ 5 → x < 116 → c' x = c x) → c' (5) = arQ G 5 5 (fun t => if t < 5 then some (G.2.2.2.1 + (116 + t)) else none) → (∀ t, i ≤ t → t < 5 → c' (116 + t) = mo0) → (∀ t, t < i → c' (116 + t) = c (116 + t)) → ZB G X 120 717 3 P (n + r) (z + 5 * r) (116 + 5) c' [(2, .int (nI 5)), (1, .ref q), (0, .ref (G.2.2.2.1 + 0))] [] 235) →
    ZB G X 120 717 3 P n z (116 + i) c [(2, .int (nI i)), (1, .ref q), (0, .ref (G.2.2.2.1 + 0))] [] 207
  | 0, i, n, z, c, hi, hn, hz, hj0, ha, kk => by
    have ei : i = 5 := by omega
    subst ei
    refine b_iload (pc := 207) hX dX11_init_207 rfl 0 rfl ?_
    refine b_aload (pc := 208) hX dX11_init_208 rfl 2 rfl ?_
    refine b_get (pc := 209) (ci := 11) (slot := 6) (C := RX11) (T := TX11) (N := 15) hX (by omega) (hj0) rfl inX11 (by decide) q_241 hFS dX11_init_209 ?_
    refine b_alen (pc := 212) (t0 := 5) (N := 5) (ty := .object "CrownTwo$Moment") hX (by omega) ha rfl dX11_init_212 ?_
    refine b_icmpge (pc := 213) (tgt := 235) hX dX11_init_213 rfl (fun _ => ?_) (fun w => absurd (Int32.le_refl _) w)
    exact kk c (fun _ _ _ => rfl) ha (fun t a b => by omega) (fun _ _ => rfl)
  | r + 1, i, n, z, c, hi, hn, hz, hj0, ha, kk => by
    refine b_iload (pc := 207) hX dX11_init_207 rfl 0 rfl ?_
    refine b_aload (pc := 208) hX dX11_init_208 rfl 2 rfl ?_
    refine b_get (pc := 209) (ci := 11) (slot := 6) (C := RX11) (T := TX11) (N := 15) hX (by omega) (hj0) rfl inX11 (by decide) q_241 hFS dX11_init_209 ?_
    refine b_alen (pc := 212) (t0 := 5) (N := 5) (ty := .object "CrownTwo$Moment") hX (by omega) ha rfl dX11_init_212 ?_
    refine b_icmpge (pc := 213) (tgt := 235) hX dX11_init_213 rfl (fun w => ?_) (fun _ => ?_)
    · have := (nI_leI (by omega) (by omega)).mp w
      omega
    refine b_aload (pc := 216) hX dX11_init_216 rfl 2 rfl ?_
    refine b_get (pc := 217) (ci := 11) (slot := 6) (C := RX11) (T := TX11) (N := 15) hX (by omega) (hj0) rfl inX11 (by decide) q_241 hFS dX11_init_217 ?_
    refine b_iload (pc := 220) hX dX11_init_220 rfl 0 rfl ?_
    refine b_new (pc := 221) (ci := 5) hX inX5 tyX5 tyX5_ok q_58 q_59 q_3 rfl bl_X5 nf_X5 (by omega) (by omega) dX11_init_221 ?_
    refine b_dup (pc := 224) hX dX11_init_224 ?_
    refine b_callN (pc := 225) (index := 22) (y := yX5_init) (As := []) (stk := [.ref (G.2.2.2.1 + (116 + i)), .int (nI i), .ref (G.2.2.2.1 + (5))]) hX ⟨by decide, q_62, q_3⟩ q_61 rfl bhd_X5_init ⟨Nat.le_of_ble_eq_true rfl, Nat.le_of_ble_eq_true rfl⟩ (b_Mo (by omega) (fup_s _ _ _)) rfl rfl (Nat.le_of_ble_eq_true rfl) (by omega) (by omega) dX11_init_225 ?_
    refine b_ast (pc := 228) (C := "CrownTwo$Moment") (t0 := 5) (N := 5) hX (by omega) (by rw [fup_o (by omega), fup_o (by omega)]; exact ha) rfl (by omega) (fup_s _ _ _) rfl (vp_in_nI (by omega) (by omega)) dX11_init_228 ?_
    rw [nI_clamp (by omega)]
    refine b_iinc (pc := 229) (p := 0) (v := nI (i + 1)) hX dX11_init_229 rfl (nI_1 i) (by decide) rfl ?_
    refine b_goto (pc := 232) (tgt := 207) hX dX11_init_232 rfl ?_
    refine lp_St hX hFS r (i + 1) (n + 1) (z + 5) _ (by omega) (by omega) (by omega) (by rw [fup_o (by omega), fup_o (by omega), fup_o (by omega)]; exact hj0) ?_ ?_
    · rw [fup_s]
      have ef : va_up (fun t => if t < i then some (G.2.2.2.1 + (116 + t)) else none) i (some (G.2.2.2.1 + (116 + i))) = fun t => if t < i + 1 then some (G.2.2.2.1 + (116 + t)) else none := by
        funext t
        unfold va_up
        by_cases e : t = i
        · rw [if_pos e, if_pos (by omega), e]
        · rw [if_neg e]
          dsimp only
          by_cases e2 : t < i
          · rw [if_pos e2, if_pos (by omega)]
          · rw [if_neg e2, if_neg (by omega)]
      rw [ef]
    · intro c' h1 h2 h3 h4
      have k2 := kk c' (fun x x1 x2 => by rw [h1 x x1 x2, fup_o (by omega), fup_o (by omega), fup_o (by omega)]) h2 (fun t a b => ?_) (fun t a => by rw [h4 t (by omega), fup_o (by omega), fup_o (by omega), fup_o (by omega)])
      · rw [show n + 1 + r = n + (r + 1) by omega, show z + 5 + 5 * r = z + 5 * (r + 1) by omega]
        exact k2
      · by_cases e : t = i
        · rw [e, h4 i (by omega), fup_o (by omega), fup_s]
        · exact h3 t (by omega) b
def chC (G : Gb) (c : Nat → va_E) : Nat → va_E := (fup (fup (crtF G 91 (G.2.2.2.1 + 8) (fup (fup (crtF G 66 (G.2.2.2.1 + 8) (fup (fup (fup (crtF G 40 (G.2.2.2.1 + 8) (fup (fup (crtF G 15 (G.2.2.2.1 + 8) (fup (fup (fup (fup (fup (fup (fup (fup (fup (fup (fup (fup (fup (fup (fup (fup (fup (fup (fup (fup (fup (fup (fup (fup (fup (fup (fup (fup (fup (fup (fup (fup (fup (fup (fup c 1 (.inl (G.2.1 1, 2, .inl (fun _ => 0)))) 0 (.inr (11, [.null, .null, .null, .null, .null, .null, .null, .null, .null, .int 0, .int 0, .int 0, .int 0, .int 0, .int 0].set 3 (.ref (G.2.2.2.1 + 1))))) 2 (.inr (1, bl_X1))) 3 (arI G 150 (fun _ => 0))) 2 (ct0 G 3)) 0 (.inr (11, [.null, .null, .null, .ref (G.2.2.2.1 + 1), .null, .null, .null, .null, .null, .int 0, .int 0, .int 0, .int 0, .int 0, .int 0].set 4 (.ref (G.2.2.2.1 + 2))))) 4 (.inr (5, bl_X5))) 4 mo0) 0 (.inr (11, [.null, .null, .null, .ref (G.2.2.2.1 + 1), .ref (G.2.2.2.1 + 2), .null, .null, .null, .null, .int 0, .int 0, .int 0, .int 0, .int 0, .int 0].set 5 (.ref (G.2.2.2.1 + 4))))) 5 (arQ G 5 5 (fun _ => none))) 0 (.inr (11, [.null, .null, .null, .ref (G.2.2.2.1 + 1), .ref (G.2.2.2.1 + 2), .ref (G.2.2.2.1 + 4), .null, .null, .null, .int 0, .int 0, .int 0, .int 0, .int 0, .int 0].set 6 (.ref (G.2.2.2.1 + 5))))) 6 (.inl (G.2.1 0, 4, .inl (fun _ => 0)))) 0 (.inr (11, [.null, .null, .null, .ref (G.2.2.2.1 + 1), .ref (G.2.2.2.1 + 2), .ref (G.2.2.2.1 + 4), .ref (G.2.2.2.1 + 5), .null, .null, .int 0, .int 0, .int 0, .int 0, .int 0, .int 0].set 7 (.ref (G.2.2.2.1 + 6))))) 7 (.inl (G.2.1 0, 4, .inl (fun _ => 0)))) 0 (.inr (11, [.null, .null, .null, .ref (G.2.2.2.1 + 1), .ref (G.2.2.2.1 + 2), .ref (G.2.2.2.1 + 4), .ref (G.2.2.2.1 + 5), .ref (G.2.2.2.1 + 6), .null, .int 0, .int 0, .int 0, .int 0, .int 0, .int 0].set 8 (.ref (G.2.2.2.1 + 7))))) 0 (.inr (11, [.null, .null, .null, .ref (G.2.2.2.1 + 1), .ref (G.2.2.2.1 + 2), .ref (G.2.2.2.1 + 4), .ref (G.2.2.2.1 + 5), .ref (G.2.2.2.1 + 6), .ref (G.2.2.2.1 + 7), .int 0, .int 0, .int 0, .int 0, .int 0, .int 0].set 9 (.int (-1))))) 0 (.inr (11, [.null, .null, .null, .ref (G.2.2.2.1 + 1), .ref (G.2.2.2.1 + 2), .ref (G.2.2.2.1 + 4), .ref (G.2.2.2.1 + 5), .ref (G.2.2.2.1 + 6), .ref (G.2.2.2.1 + 7), .int (-1), .int 0, .int 0, .int 0, .int 0, .int 0].set 10 (.int 0)))) 0 (.inr (11, [.null, .null, .null, .ref (G.2.2.2.1 + 1), .ref (G.2.2.2.1 + 2), .ref (G.2.2.2.1 + 4), .ref (G.2.2.2.1 + 5), .ref (G.2.2.2.1 + 6), .ref (G.2.2.2.1 + 7), .int (-1), .int 0, .int 0, .int 0, .int 0, .int 0].set 11 (.int 1)))) 0 (.inr (11, [.null, .null, .null, .ref (G.2.2.2.1 + 1), .ref (G.2.2.2.1 + 2), .ref (G.2.2.2.1 + 4), .ref (G.2.2.2.1 + 5), .ref (G.2.2.2.1 + 6), .ref (G.2.2.2.1 + 7), .int (-1), .int 0, .int 1, .int 0, .int 0, .int 0].set 12 (.int 0)))) 0 (.inr (11, [.null, .null, .null, .ref (G.2.2.2.1 + 1), .ref (G.2.2.2.1 + 2), .ref (G.2.2.2.1 + 4), .ref (G.2.2.2.1 + 5), .ref (G.2.2.2.1 + 6), .ref (G.2.2.2.1 + 7), .int (-1), .int 0, .int 1, .int 0, .int 0, .int 0].set 13 (.int 0)))) 0 (.inr (11, [.null, .null, .null, .ref (G.2.2.2.1 + 1), .ref (G.2.2.2.1 + 2), .ref (G.2.2.2.1 + 4), .ref (G.2.2.2.1 + 5), .ref (G.2.2.2.1 + 6), .ref (G.2.2.2.1 + 7), .int (-1), .int 0, .int 1, .int 0, .int 0, .int 0].set 14 (.int 0)))) 8 (arQ G 2 6 (fun _ => none))) 9 (.inr (7, bl_X7))) 8 (arQ G 2 6 (va_up (fun _ => none) 0 (some (G.2.2.2.1 + 9))))) 10 (.inr (9, bl_X9))) 8 (arQ G 2 6 (va_up (va_up (fun _ => none) 0 (some (G.2.2.2.1 + 9))) 1 (some (G.2.2.2.1 + 10))))) 11 (.inr (4, bl_X4))) 8 (arQ G 2 6 (va_up (va_up (va_up (fun _ => none) 0 (some (G.2.2.2.1 + 9))) 1 (some (G.2.2.2.1 + 10))) 2 (some (G.2.2.2.1 + 11))))) 12 (.inr (8, bl_X8))) 8 (arQ G 2 6 (va_up (va_up (va_up (va_up (fun _ => none) 0 (some (G.2.2.2.1 + 9))) 1 (some (G.2.2.2.1 + 10))) 2 (some (G.2.2.2.1 + 11))) 3 (some (G.2.2.2.1 + 12))))) 13 (.inr (10, bl_X10))) 8 (arQ G 2 6 (va_up (va_up (va_up (va_up (va_up (fun _ => none) 0 (some (G.2.2.2.1 + 9))) 1 (some (G.2.2.2.1 + 10))) 2 (some (G.2.2.2.1 + 11))) 3 (some (G.2.2.2.1 + 12))) 4 (some (G.2.2.2.1 + 13))))) 14 (.inr (2, bl_X2))) 8 (arQ G 2 6 (va_up (va_up (va_up (va_up (va_up (va_up (fun _ => none) 0 (some (G.2.2.2.1 + 9))) 1 (some (G.2.2.2.1 + 10))) 2 (some (G.2.2.2.1 + 11))) 3 (some (G.2.2.2.1 + 12))) 4 (some (G.2.2.2.1 + 13))) 5 (some (G.2.2.2.1 + 14))))) 15 (.inr (0, bl_X0)))) 0 (.inr (11, [.null, .null, .null, .ref (G.2.2.2.1 + 1), .ref (G.2.2.2.1 + 2), .ref (G.2.2.2.1 + 4), .ref (G.2.2.2.1 + 5), .ref (G.2.2.2.1 + 6), .ref (G.2.2.2.1 + 7), .int (-1), .int 0, .int 1, .int 0, .int 0, .int 0].set 0 (.ref (G.2.2.2.1 + 15))))) 40 (.inr (0, bl_X0)))) 0 (.inr (11, [.ref (G.2.2.2.1 + 15), .null, .null, .ref (G.2.2.2.1 + 1), .ref (G.2.2.2.1 + 2), .ref (G.2.2.2.1 + 4), .ref (G.2.2.2.1 + 5), .ref (G.2.2.2.1 + 6), .ref (G.2.2.2.1 + 7), .int (-1), .int 0, .int 1, .int 0, .int 0, .int 0].set 1 (.ref (G.2.2.2.1 + 40))))) 65 (arQ G 6 2 (fun _ => none))) 66 (.inr (0, bl_X0)))) 65 (arQ G 6 2 (va_up (fun _ => none) 0 (some (G.2.2.2.1 + 66))))) 91 (.inr (0, bl_X0)))) 65 (arQ G 6 2 (va_up (va_up (fun _ => none) 0 (some (G.2.2.2.1 + 66))) 1 (some (G.2.2.2.1 + 91))))) 0 (.inr (11, [.ref (G.2.2.2.1 + 15), .ref (G.2.2.2.1 + 40), .null, .ref (G.2.2.2.1 + 1), .ref (G.2.2.2.1 + 2), .ref (G.2.2.2.1 + 4), .ref (G.2.2.2.1 + 5), .ref (G.2.2.2.1 + 6), .ref (G.2.2.2.1 + 7), .int (-1), .int 0, .int 1, .int 0, .int 0, .int 0].set 2 (.ref (G.2.2.2.1 + 65)))))
def chF (G : Gb) (c : Nat → va_E) : Nat → va_E := fun x => if x = 5 then arQ G 5 5 (fun t => some (G.2.2.2.1 + (116 + t))) else if x < 116 then chC G c x else mo0
theorem b_T {G : Gb} {l : Launch} {c : Nat → va_E} (he : c 0 = .inr (11, bl_X11)) : CTB G l yX11_init cX11_init 3 4 120 717 80 [.ref (G.2.2.2.1 + 0)] 1 c (HB G 121 (chF G c)) := CTB.of (by decide) rfl (Nat.le_of_ble_eq_true rfl) (fun X hX => by
  refine b_aload (pc := 0) hX dX11_init_0 rfl 0 rfl ?_
  refine b_objInit (pc := 1) hX q_26 q_27 q_28 (Nat.le_of_ble_eq_true rfl) (Nat.le_of_ble_eq_true rfl) (Nat.le_of_ble_eq_true rfl) dX11_init_1 ?_
  refine b_aload (pc := 4) hX dX11_init_4 rfl 0 rfl ?_
  refine b_iconst (pc := 5) (v := 2) hX dX11_init_5 (by decide +kernel) ?_
  refine b_newi (pc := 6) (ty := .boolean) (t0 := 1) (N := 2) hX rfl rfl (fun h => h) q_56 (fun _ => rfl) (by decide +kernel) (by decide +kernel) (by decide +kernel) (by omega) (by omega) dX11_init_6 ?_
  refine b_putF (pc := 8) (ci := 11) (slot := 3) (C := RX11) (T := TX11) (N := 15) (fs := [.null, .null, .null, .null, .null, .null, .null, .null, .null, .int 0, .int 0, .int 0, .int 0, .int 0, .int 0]) hX (by decide) (by rw [fup_o (by decide)]; exact he) rfl inX11 tyX11 tyX11_ok nmX11 (by decide) q_238 rfl rfl (tyX11_ok 3 (by decide)) rfl rfl (Nat.le_of_ble_eq_true rfl) dX11_init_8 ?_
  refine b_aload (pc := 11) hX dX11_init_11 rfl 0 rfl ?_
  refine b_new (pc := 12) (ci := 1) hX inX1 tyX1 tyX1_ok q_29 q_30 q_2 rfl bl_X1 nf_X1 (by omega) (by omega) dX11_init_12 ?_
  refine b_dup (pc := 15) hX dX11_init_15 ?_
  refine b_callN (pc := 16) (index := 15) (y := yX1_init) (As := []) (stk := [.ref (G.2.2.2.1 + 2), .ref (G.2.2.2.1 + 0)]) hX ⟨by decide, q_33, q_2⟩ q_32 rfl bhd_X1_init ⟨Nat.le_of_ble_eq_true rfl, Nat.le_of_ble_eq_true rfl⟩ (b_Tx (j := 2) (by decide) (fup_s _ _ _)) rfl rfl (Nat.le_of_ble_eq_true rfl) (by omega) (by omega) dX11_init_16 ?_
  refine b_putF (pc := 19) (ci := 11) (slot := 4) (C := RX11) (T := TX11) (N := 15) (fs := [.null, .null, .null, .ref (G.2.2.2.1 + 1), .null, .null, .null, .null, .null, .int 0, .int 0, .int 0, .int 0, .int 0, .int 0]) hX (by decide) (by rw [fup_o (by decide), fup_o (by decide), fup_o (by decide)]; exact fup_s _ _ _) rfl inX11 tyX11 tyX11_ok nmX11 (by decide) q_239 rfl rfl (tyX11_ok 4 (by decide)) rfl rfl (Nat.le_of_ble_eq_true rfl) dX11_init_19 ?_
  refine b_aload (pc := 22) hX dX11_init_22 rfl 0 rfl ?_
  refine b_new (pc := 23) (ci := 5) hX inX5 tyX5 tyX5_ok q_58 q_59 q_3 rfl bl_X5 nf_X5 (by omega) (by omega) dX11_init_23 ?_
  refine b_dup (pc := 26) hX dX11_init_26 ?_
  refine b_callN (pc := 27) (index := 22) (y := yX5_init) (As := []) (stk := [.ref (G.2.2.2.1 + 4), .ref (G.2.2.2.1 + 0)]) hX ⟨by decide, q_62, q_3⟩ q_61 rfl bhd_X5_init ⟨Nat.le_of_ble_eq_true rfl, Nat.le_of_ble_eq_true rfl⟩ (b_Mo (j := 4) (by decide) (fup_s _ _ _)) rfl rfl (Nat.le_of_ble_eq_true rfl) (by omega) (by omega) dX11_init_27 ?_
  refine b_putF (pc := 30) (ci := 11) (slot := 5) (C := RX11) (T := TX11) (N := 15) (fs := [.null, .null, .null, .ref (G.2.2.2.1 + 1), .ref (G.2.2.2.1 + 2), .null, .null, .null, .null, .int 0, .int 0, .int 0, .int 0, .int 0, .int 0]) hX (by decide) (by rw [fup_o (by decide), fup_o (by decide)]; exact fup_s _ _ _) rfl inX11 tyX11 tyX11_ok nmX11 (by decide) q_240 rfl rfl (tyX11_ok 5 (by decide)) rfl rfl (Nat.le_of_ble_eq_true rfl) dX11_init_30 ?_
  refine b_aload (pc := 33) hX dX11_init_33 rfl 0 rfl ?_
  refine b_iconst (pc := 34) (v := 5) hX dX11_init_34 (by decide +kernel) ?_
  refine b_newq (pc := 35) (C := "CrownTwo$Moment") (t0 := 5) (N := 5) hX rfl q_58 (by decide) (by decide +kernel) (by decide +kernel) (by decide +kernel) (by omega) (by omega) dX11_init_35 ?_
  refine b_putF (pc := 38) (ci := 11) (slot := 6) (C := RX11) (T := TX11) (N := 15) (fs := [.null, .null, .null, .ref (G.2.2.2.1 + 1), .ref (G.2.2.2.1 + 2), .ref (G.2.2.2.1 + 4), .null, .null, .null, .int 0, .int 0, .int 0, .int 0, .int 0, .int 0]) hX (by decide) (by rw [fup_o (by decide)]; exact fup_s _ _ _) rfl inX11 tyX11 tyX11_ok nmX11 (by decide) q_241 rfl rfl (tyX11_ok 6 (by decide)) rfl rfl (Nat.le_of_ble_eq_true rfl) dX11_init_38 ?_
  refine b_aload (pc := 41) hX dX11_init_41 rfl 0 rfl ?_
  refine b_iconst (pc := 42) (v := 4) hX dX11_init_42 (by decide +kernel) ?_
  refine b_newi (pc := 43) (ty := .int) (t0 := 0) (N := 4) hX rfl rfl (fun h => h) q_57 (fun _ => rfl) (by decide +kernel) (by decide +kernel) (by decide +kernel) (by omega) (by omega) dX11_init_43 ?_
  refine b_putF (pc := 45) (ci := 11) (slot := 7) (C := RX11) (T := TX11) (N := 15) (fs := [.null, .null, .null, .ref (G.2.2.2.1 + 1), .ref (G.2.2.2.1 + 2), .ref (G.2.2.2.1 + 4), .ref (G.2.2.2.1 + 5), .null, .null, .int 0, .int 0, .int 0, .int 0, .int 0, .int 0]) hX (by decide) (by rw [fup_o (by decide)]; exact fup_s _ _ _) rfl inX11 tyX11 tyX11_ok nmX11 (by decide) q_242 rfl rfl (tyX11_ok 7 (by decide)) rfl rfl (Nat.le_of_ble_eq_true rfl) dX11_init_45 ?_
  refine b_aload (pc := 48) hX dX11_init_48 rfl 0 rfl ?_
  refine b_iconst (pc := 49) (v := 4) hX dX11_init_49 (by decide +kernel) ?_
  refine b_newi (pc := 50) (ty := .int) (t0 := 0) (N := 4) hX rfl rfl (fun h => h) q_57 (fun _ => rfl) (by decide +kernel) (by decide +kernel) (by decide +kernel) (by omega) (by omega) dX11_init_50 ?_
  refine b_putF (pc := 52) (ci := 11) (slot := 8) (C := RX11) (T := TX11) (N := 15) (fs := [.null, .null, .null, .ref (G.2.2.2.1 + 1), .ref (G.2.2.2.1 + 2), .ref (G.2.2.2.1 + 4), .ref (G.2.2.2.1 + 5), .ref (G.2.2.2.1 + 6), .null, .int 0, .int 0, .int 0, .int 0, .int 0, .int 0]) hX (by decide) (by rw [fup_o (by decide)]; exact fup_s _ _ _) rfl inX11 tyX11 tyX11_ok nmX11 (by decide) q_243 rfl rfl (tyX11_ok 8 (by decide)) rfl rfl (Nat.le_of_ble_eq_true rfl) dX11_init_52 ?_
  refine b_aload (pc := 55) hX dX11_init_55 rfl 0 rfl ?_
  refine b_iconst (pc := 56) (v := -1) hX dX11_init_56 (by decide +kernel) ?_
  refine b_put (pc := 57) (ci := 11) (slot := 9) (C := RX11) (T := TX11) (N := 15) (fs := [.null, .null, .null, .ref (G.2.2.2.1 + 1), .ref (G.2.2.2.1 + 2), .ref (G.2.2.2.1 + 4), .ref (G.2.2.2.1 + 5), .ref (G.2.2.2.1 + 6), .ref (G.2.2.2.1 + 7), .int 0, .int 0, .int 0, .int 0, .int 0, .int 0]) hX (by decide) (fup_s _ _ _) rfl inX11 tyX11 tyX11_ok nmX11 (by decide) q_244 rfl (tyX11_ok 9 (by decide)) rfl rfl (Nat.le_of_ble_eq_true rfl) dX11_init_57 ?_
  refine b_aload (pc := 60) hX dX11_init_60 rfl 0 rfl ?_
  refine b_iconst (pc := 61) (v := 0) hX dX11_init_61 (by decide +kernel) ?_
  refine b_put (pc := 62) (ci := 11) (slot := 10) (C := RX11) (T := TX11) (N := 15) (fs := [.null, .null, .null, .ref (G.2.2.2.1 + 1), .ref (G.2.2.2.1 + 2), .ref (G.2.2.2.1 + 4), .ref (G.2.2.2.1 + 5), .ref (G.2.2.2.1 + 6), .ref (G.2.2.2.1 + 7), .int (-1), .int 0, .int 0, .int 0, .int 0, .int 0]) hX (by decide) (fup_s _ _ _) rfl inX11 tyX11 tyX11_ok nmX11 (by decide) q_245 rfl (tyX11_ok 10 (by decide)) rfl rfl (Nat.le_of_ble_eq_true rfl) dX11_init_62 ?_
  refine b_aload (pc := 65) hX dX11_init_65 rfl 0 rfl ?_
  refine b_iconst (pc := 66) (v := 1) hX dX11_init_66 (by decide +kernel) ?_
  refine b_put (pc := 67) (ci := 11) (slot := 11) (C := RX11) (T := TX11) (N := 15) (fs := [.null, .null, .null, .ref (G.2.2.2.1 + 1), .ref (G.2.2.2.1 + 2), .ref (G.2.2.2.1 + 4), .ref (G.2.2.2.1 + 5), .ref (G.2.2.2.1 + 6), .ref (G.2.2.2.1 + 7), .int (-1), .int 0, .int 0, .int 0, .int 0, .int 0]) hX (by decide) (fup_s _ _ _) rfl inX11 tyX11 tyX11_ok nmX11 (by decide) q_246 rfl (tyX11_ok 11 (by decide)) rfl rfl (Nat.le_of_ble_eq_true rfl) dX11_init_67 ?_
  refine b_aload (pc := 70) hX dX11_init_70 rfl 0 rfl ?_
  refine b_iconst (pc := 71) (v := 0) hX dX11_init_71 (by decide +kernel) ?_
  refine b_put (pc := 72) (ci := 11) (slot := 12) (C := RX11) (T := TX11) (N := 15) (fs := [.null, .null, .null, .ref (G.2.2.2.1 + 1), .ref (G.2.2.2.1 + 2), .ref (G.2.2.2.1 + 4), .ref (G.2.2.2.1 + 5), .ref (G.2.2.2.1 + 6), .ref (G.2.2.2.1 + 7), .int (-1), .int 0, .int 1, .int 0, .int 0, .int 0]) hX (by decide) (fup_s _ _ _) rfl inX11 tyX11 tyX11_ok nmX11 (by decide) q_247 rfl (tyX11_ok 12 (by decide)) rfl rfl (Nat.le_of_ble_eq_true rfl) dX11_init_72 ?_
  refine b_aload (pc := 75) hX dX11_init_75 rfl 0 rfl ?_
  refine b_iconst (pc := 76) (v := 0) hX dX11_init_76 (by decide +kernel) ?_
  refine b_put (pc := 77) (ci := 11) (slot := 13) (C := RX11) (T := TX11) (N := 15) (fs := [.null, .null, .null, .ref (G.2.2.2.1 + 1), .ref (G.2.2.2.1 + 2), .ref (G.2.2.2.1 + 4), .ref (G.2.2.2.1 + 5), .ref (G.2.2.2.1 + 6), .ref (G.2.2.2.1 + 7), .int (-1), .int 0, .int 1, .int 0, .int 0, .int 0]) hX (by decide) (fup_s _ _ _) rfl inX11 tyX11 tyX11_ok nmX11 (by decide) q_248 rfl (tyX11_ok 13 (by decide)) rfl rfl (Nat.le_of_ble_eq_true rfl) dX11_init_77 ?_
  refine b_aload (pc := 80) hX dX11_init_80 rfl 0 rfl ?_
  refine b_iconst (pc := 81) (v := 0) hX dX11_init_81 (by decide +kernel) ?_
  refine b_put (pc := 82) (ci := 11) (slot := 14) (C := RX11) (T := TX11) (N := 15) (fs := [.null, .null, .null, .ref (G.2.2.2.1 + 1), .ref (G.2.2.2.1 + 2), .ref (G.2.2.2.1 + 4), .ref (G.2.2.2.1 + 5), .ref (G.2.2.2.1 + 6), .ref (G.2.2.2.1 + 7), .int (-1), .int 0, .int 1, .int 0, .int 0, .int 0]) hX (by decide) (fup_s _ _ _) rfl inX11 tyX11 tyX11_ok nmX11 (by decide) q_249 rfl (tyX11_ok 14 (by decide)) rfl rfl (Nat.le_of_ble_eq_true rfl) dX11_init_82 ?_
  refine b_bipush (pc := 85) (v := 6) hX dX11_init_85 (by decide +kernel) ?_
  refine b_newq (pc := 87) (C := "CrownTwo$Plain") (t0 := 2) (N := 6) hX rfl q_93 (by decide) (by decide +kernel) (by decide +kernel) (by decide +kernel) (by omega) (by omega) dX11_init_87 ?_
  refine b_dup (pc := 90) hX dX11_init_90 ?_
  refine b_iconst (pc := 91) (v := 0) hX dX11_init_91 (by decide +kernel) ?_
  refine b_new (pc := 92) (ci := 7) hX (fun _ h => absurd h List.not_mem_nil) (fun _ => .int) (fun k hk => absurd hk (Nat.not_lt_zero k)) q_93 q_95 q_4 rfl bl_X7 (fun j hj => absurd hj (Nat.not_lt_zero j)) (by omega) (by omega) dX11_init_92 ?_
  refine b_dup (pc := 95) hX dX11_init_95 ?_
  refine b_callN (pc := 96) (index := 59) (y := yX7_init) (As := []) (stk := [.ref (G.2.2.2.1 + 9), .int 0, .ref (G.2.2.2.1 + 8), .ref (G.2.2.2.1 + 8)]) hX ⟨by decide, q_98, q_4⟩ q_97 rfl bhd_X7_init ⟨Nat.le_of_ble_eq_true rfl, Nat.le_of_ble_eq_true rfl⟩ (b_Pl (a := G.2.2.2.1 + 9)) rfl rfl (Nat.le_of_ble_eq_true rfl) (by omega) (by omega) dX11_init_96 ?_
  refine b_ast (pc := 99) (j := 8) (i := 9) (ci := 7) (C := "CrownTwo$Plain") (t0 := 2) (N := 6) hX (by decide) (by rw [fup_o (by decide)]; exact fup_s _ _ _) rfl (by decide) (fup_s _ _ _) rfl (vp_in_iff.mpr (by decide +kernel)) dX11_init_99 ?_
  rw [ixc_0]
  refine b_dup (pc := 100) hX dX11_init_100 ?_
  refine b_iconst (pc := 101) (v := 1) hX dX11_init_101 (by decide +kernel) ?_
  refine b_new (pc := 102) (ci := 9) hX (fun _ h => absurd h List.not_mem_nil) (fun _ => .int) (fun k hk => absurd hk (Nat.not_lt_zero k)) q_101 q_102 q_5 rfl bl_X9 (fun j hj => absurd hj (Nat.not_lt_zero j)) (by omega) (by omega) dX11_init_102 ?_
  refine b_dup (pc := 105) hX dX11_init_105 ?_
  refine b_callN (pc := 106) (index := 62) (y := yX9_init) (As := []) (stk := [.ref (G.2.2.2.1 + 10), .int 1, .ref (G.2.2.2.1 + 8), .ref (G.2.2.2.1 + 8)]) hX ⟨by decide, q_105, q_5⟩ q_104 rfl bhd_X9_init ⟨Nat.le_of_ble_eq_true rfl, Nat.le_of_ble_eq_true rfl⟩ (b_Su (a := G.2.2.2.1 + 10)) rfl rfl (Nat.le_of_ble_eq_true rfl) (by omega) (by omega) dX11_init_106 ?_
  refine b_astO (pc := 109) (j := 8) (i := 10) (ci := 9) (C := "CrownTwo$Sulky") (t0 := 2) (N := 6) hX (by decide) (by rw [fup_o (by decide)]; exact fup_s _ _ _) rfl (by decide) (fup_s _ _ _) rfl (by decide) (vp_in_iff.mpr (by decide +kernel)) dX11_init_109 ?_
  rw [ixc_1]
  refine b_dup (pc := 110) hX dX11_init_110 ?_
  refine b_iconst (pc := 111) (v := 2) hX dX11_init_111 (by decide +kernel) ?_
  refine b_new (pc := 112) (ci := 4) hX (fun _ h => absurd h List.not_mem_nil) (fun _ => .int) (fun k hk => absurd hk (Nat.not_lt_zero k)) q_108 q_109 q_6 rfl bl_X4 (fun j hj => absurd hj (Nat.not_lt_zero j)) (by omega) (by omega) dX11_init_112 ?_
  refine b_dup (pc := 115) hX dX11_init_115 ?_
  refine b_callN (pc := 116) (index := 65) (y := yX4_init) (As := []) (stk := [.ref (G.2.2.2.1 + 11), .int 2, .ref (G.2.2.2.1 + 8), .ref (G.2.2.2.1 + 8)]) hX ⟨by decide, q_112, q_6⟩ q_111 rfl bhd_X4_init ⟨Nat.le_of_ble_eq_true rfl, Nat.le_of_ble_eq_true rfl⟩ (b_Jo (a := G.2.2.2.1 + 11)) rfl rfl (Nat.le_of_ble_eq_true rfl) (by omega) (by omega) dX11_init_116 ?_
  refine b_astO (pc := 119) (j := 8) (i := 11) (ci := 4) (C := "CrownTwo$Joker") (t0 := 2) (N := 6) hX (by decide) (by rw [fup_o (by decide)]; exact fup_s _ _ _) rfl (by decide) (fup_s _ _ _) rfl (by decide) (vp_in_iff.mpr (by decide +kernel)) dX11_init_119 ?_
  rw [ixc_2]
  refine b_dup (pc := 120) hX dX11_init_120 ?_
  refine b_iconst (pc := 121) (v := 3) hX dX11_init_121 (by decide +kernel) ?_
  refine b_new (pc := 122) (ci := 8) hX (fun _ h => absurd h List.not_mem_nil) (fun _ => .int) (fun k hk => absurd hk (Nat.not_lt_zero k)) q_115 q_116 q_7 rfl bl_X8 (fun j hj => absurd hj (Nat.not_lt_zero j)) (by omega) (by omega) dX11_init_122 ?_
  refine b_dup (pc := 125) hX dX11_init_125 ?_
  refine b_callN (pc := 126) (index := 68) (y := yX8_init) (As := []) (stk := [.ref (G.2.2.2.1 + 12), .int 3, .ref (G.2.2.2.1 + 8), .ref (G.2.2.2.1 + 8)]) hX ⟨by decide, q_119, q_7⟩ q_118 rfl bhd_X8_init ⟨Nat.le_of_ble_eq_true rfl, Nat.le_of_ble_eq_true rfl⟩ (b_Pr (a := G.2.2.2.1 + 12)) rfl rfl (Nat.le_of_ble_eq_true rfl) (by omega) (by omega) dX11_init_126 ?_
  refine b_astO (pc := 129) (j := 8) (i := 12) (ci := 8) (C := "CrownTwo$Proud") (t0 := 2) (N := 6) hX (by decide) (by rw [fup_o (by decide)]; exact fup_s _ _ _) rfl (by decide) (fup_s _ _ _) rfl (by decide) (vp_in_iff.mpr (by decide +kernel)) dX11_init_129 ?_
  rw [ixc_3]
  refine b_dup (pc := 130) hX dX11_init_130 ?_
  refine b_iconst (pc := 131) (v := 4) hX dX11_init_131 (by decide +kernel) ?_
  refine b_new (pc := 132) (ci := 10) hX (fun _ h => absurd h List.not_mem_nil) (fun _ => .int) (fun k hk => absurd hk (Nat.not_lt_zero k)) q_122 q_123 q_8 rfl bl_X10 (fun j hj => absurd hj (Nat.not_lt_zero j)) (by omega) (by omega) dX11_init_132 ?_
  refine b_dup (pc := 135) hX dX11_init_135 ?_
  refine b_callN (pc := 136) (index := 71) (y := yX10_init) (As := []) (stk := [.ref (G.2.2.2.1 + 13), .int 4, .ref (G.2.2.2.1 + 8), .ref (G.2.2.2.1 + 8)]) hX ⟨by decide, q_126, q_8⟩ q_125 rfl bhd_X10_init ⟨Nat.le_of_ble_eq_true rfl, Nat.le_of_ble_eq_true rfl⟩ (b_Ti (a := G.2.2.2.1 + 13)) rfl rfl (Nat.le_of_ble_eq_true rfl) (by omega) (by omega) dX11_init_136 ?_
  refine b_astO (pc := 139) (j := 8) (i := 13) (ci := 10) (C := "CrownTwo$Tired") (t0 := 2) (N := 6) hX (by decide) (by rw [fup_o (by decide)]; exact fup_s _ _ _) rfl (by decide) (fup_s _ _ _) rfl (by decide) (vp_in_iff.mpr (by decide +kernel)) dX11_init_139 ?_
  rw [ixc_4]
  refine b_dup (pc := 140) hX dX11_init_140 ?_
  refine b_iconst (pc := 141) (v := 5) hX dX11_init_141 (by decide +kernel) ?_
  refine b_new (pc := 142) (ci := 2) hX (fun _ h => absurd h List.not_mem_nil) (fun _ => .int) (fun k hk => absurd hk (Nat.not_lt_zero k)) q_129 q_130 q_9 rfl bl_X2 (fun j hj => absurd hj (Nat.not_lt_zero j)) (by omega) (by omega) dX11_init_142 ?_
  refine b_dup (pc := 145) hX dX11_init_145 ?_
  refine b_callN (pc := 146) (index := 74) (y := yX2_init) (As := []) (stk := [.ref (G.2.2.2.1 + 14), .int 5, .ref (G.2.2.2.1 + 8), .ref (G.2.2.2.1 + 8)]) hX ⟨by decide, q_133, q_9⟩ q_132 rfl bhd_X2_init ⟨Nat.le_of_ble_eq_true rfl, Nat.le_of_ble_eq_true rfl⟩ (b_Fo (a := G.2.2.2.1 + 14)) rfl rfl (Nat.le_of_ble_eq_true rfl) (by omega) (by omega) dX11_init_146 ?_
  refine b_astO (pc := 149) (j := 8) (i := 14) (ci := 2) (C := "CrownTwo$Forgiver") (t0 := 2) (N := 6) hX (by decide) (by rw [fup_o (by decide)]; exact fup_s _ _ _) rfl (by decide) (fup_s _ _ _) rfl (by decide) (vp_in_iff.mpr (by decide +kernel)) dX11_init_149 ?_
  rw [ixc_5]
  refine b_astore (pc := 150) hX dX11_init_150 rfl (by decide) rfl ?_
  refine b_aload (pc := 151) hX dX11_init_151 rfl 1 rfl ?_
  refine b_new (pc := 152) (ci := 0) hX inX0 tyX0 tyX0_ok q_136 q_137 q_10 rfl bl_X0 nf_X0 (by omega) (by omega) dX11_init_152 ?_
  refine b_dup (pc := 155) hX dX11_init_155 ?_
  refine b_aload (pc := 156) hX dX11_init_156 rfl 0 rfl ?_
  refine b_call (pc := 157) (As := [.ref (G.2.2.2.1 + 8)]) (stk := [.ref (G.2.2.2.1 + 15), .ref (G.2.2.2.1 + 0)]) hX ⟨q_138, q_140, q_10⟩ q_139 rfl bhd_X0_init ⟨Nat.le_of_ble_eq_true rfl, Nat.le_of_ble_eq_true rfl⟩ (b_Co (j := 15) (q := G.2.2.2.1 + 8) (fup_s _ _ _)) rfl rfl (Nat.le_of_ble_eq_true rfl) (by omega) (by omega) dX11_init_157 ?_
  refine b_putF (pc := 160) (ci := 11) (slot := 0) (C := RX11) (T := TX11) (N := 15) (fs := [.null, .null, .null, .ref (G.2.2.2.1 + 1), .ref (G.2.2.2.1 + 2), .ref (G.2.2.2.1 + 4), .ref (G.2.2.2.1 + 5), .ref (G.2.2.2.1 + 6), .ref (G.2.2.2.1 + 7), .int (-1), .int 0, .int 1, .int 0, .int 0, .int 0]) hX (by decide) (by rw [crt_lo (by decide), fup_o (by decide), fup_o (by decide), fup_o (by decide), fup_o (by decide), fup_o (by decide), fup_o (by decide), fup_o (by decide), fup_o (by decide), fup_o (by decide), fup_o (by decide), fup_o (by decide), fup_o (by decide), fup_o (by decide), fup_o (by decide)]; exact fup_s _ _ _) rfl inX11 tyX11 tyX11_ok nmX11 (by decide) q_235 rfl rfl (tyX11_ok 0 (by decide)) rfl rfl (Nat.le_of_ble_eq_true rfl) dX11_init_160 ?_
  refine b_aload (pc := 163) hX dX11_init_163 rfl 1 rfl ?_
  refine b_new (pc := 164) (ci := 0) hX inX0 tyX0 tyX0_ok q_136 q_137 q_10 rfl bl_X0 nf_X0 (by omega) (by omega) dX11_init_164 ?_
  refine b_dup (pc := 167) hX dX11_init_167 ?_
  refine b_aload (pc := 168) hX dX11_init_168 rfl 0 rfl ?_
  refine b_call (pc := 169) (As := [.ref (G.2.2.2.1 + 8)]) (stk := [.ref (G.2.2.2.1 + 40), .ref (G.2.2.2.1 + 0)]) hX ⟨q_138, q_140, q_10⟩ q_139 rfl bhd_X0_init ⟨Nat.le_of_ble_eq_true rfl, Nat.le_of_ble_eq_true rfl⟩ (b_Co (j := 40) (q := G.2.2.2.1 + 8) (fup_s _ _ _)) rfl rfl (Nat.le_of_ble_eq_true rfl) (by omega) (by omega) dX11_init_169 ?_
  refine b_putF (pc := 172) (ci := 11) (slot := 1) (C := RX11) (T := TX11) (N := 15) (fs := [.ref (G.2.2.2.1 + 15), .null, .null, .ref (G.2.2.2.1 + 1), .ref (G.2.2.2.1 + 2), .ref (G.2.2.2.1 + 4), .ref (G.2.2.2.1 + 5), .ref (G.2.2.2.1 + 6), .ref (G.2.2.2.1 + 7), .int (-1), .int 0, .int 1, .int 0, .int 0, .int 0]) hX (by decide) (by rw [crt_lo (by decide), fup_o (by decide)]; exact fup_s _ _ _) rfl inX11 tyX11 tyX11_ok nmX11 (by decide) q_236 rfl rfl (tyX11_ok 1 (by decide)) rfl rfl (Nat.le_of_ble_eq_true rfl) dX11_init_172 ?_
  refine b_aload (pc := 175) hX dX11_init_175 rfl 1 rfl ?_
  refine b_iconst (pc := 176) (v := 2) hX dX11_init_176 (by decide +kernel) ?_
  refine b_newq (pc := 177) (C := "CrownTwo$Court") (t0 := 6) (N := 2) hX rfl q_136 (by decide) (by decide +kernel) (by decide +kernel) (by decide +kernel) (by omega) (by omega) dX11_init_177 ?_
  refine b_dup (pc := 180) hX dX11_init_180 ?_
  refine b_iconst (pc := 181) (v := 0) hX dX11_init_181 (by decide +kernel) ?_
  refine b_new (pc := 182) (ci := 0) hX inX0 tyX0 tyX0_ok q_136 q_137 q_10 rfl bl_X0 nf_X0 (by omega) (by omega) dX11_init_182 ?_
  refine b_dup (pc := 185) hX dX11_init_185 ?_
  refine b_aload (pc := 186) hX dX11_init_186 rfl 0 rfl ?_
  refine b_call (pc := 187) (As := [.ref (G.2.2.2.1 + 8)]) (stk := [.ref (G.2.2.2.1 + 66), .int 0, .ref (G.2.2.2.1 + 65), .ref (G.2.2.2.1 + 65), .ref (G.2.2.2.1 + 0)]) hX ⟨q_138, q_140, q_10⟩ q_139 rfl bhd_X0_init ⟨Nat.le_of_ble_eq_true rfl, Nat.le_of_ble_eq_true rfl⟩ (b_Co (j := 66) (q := G.2.2.2.1 + 8) (fup_s _ _ _)) rfl rfl (Nat.le_of_ble_eq_true rfl) (by omega) (by omega) dX11_init_187 ?_
  refine b_ast (pc := 190) (j := 65) (i := 66) (ci := 0) (C := "CrownTwo$Court") (t0 := 6) (N := 2) hX (by decide) (by rw [crt_lo (by decide), fup_o (by decide)]; exact fup_s _ _ _) rfl (by decide) (crt_j _ _ _ _) rfl (vp_in_iff.mpr (by decide +kernel)) dX11_init_190 ?_
  rw [ixc_0]
  refine b_dup (pc := 191) hX dX11_init_191 ?_
  refine b_iconst (pc := 192) (v := 1) hX dX11_init_192 (by decide +kernel) ?_
  refine b_new (pc := 193) (ci := 0) hX inX0 tyX0 tyX0_ok q_136 q_137 q_10 rfl bl_X0 nf_X0 (by omega) (by omega) dX11_init_193 ?_
  refine b_dup (pc := 196) hX dX11_init_196 ?_
  refine b_aload (pc := 197) hX dX11_init_197 rfl 0 rfl ?_
  refine b_call (pc := 198) (As := [.ref (G.2.2.2.1 + 8)]) (stk := [.ref (G.2.2.2.1 + 91), .int 1, .ref (G.2.2.2.1 + 65), .ref (G.2.2.2.1 + 65), .ref (G.2.2.2.1 + 0)]) hX ⟨q_138, q_140, q_10⟩ q_139 rfl bhd_X0_init ⟨Nat.le_of_ble_eq_true rfl, Nat.le_of_ble_eq_true rfl⟩ (b_Co (j := 91) (q := G.2.2.2.1 + 8) (fup_s _ _ _)) rfl rfl (Nat.le_of_ble_eq_true rfl) (by omega) (by omega) dX11_init_198 ?_
  refine b_ast (pc := 201) (j := 65) (i := 91) (ci := 0) (C := "CrownTwo$Court") (t0 := 6) (N := 2) hX (by decide) (by rw [crt_lo (by decide), fup_o (by decide)]; exact fup_s _ _ _) rfl (by decide) (crt_j _ _ _ _) rfl (vp_in_iff.mpr (by decide +kernel)) dX11_init_201 ?_
  rw [ixc_1]
  refine b_putF (pc := 202) (ci := 11) (slot := 2) (C := RX11) (T := TX11) (N := 15) (fs := [.ref (G.2.2.2.1 + 15), .ref (G.2.2.2.1 + 40), .null, .ref (G.2.2.2.1 + 1), .ref (G.2.2.2.1 + 2), .ref (G.2.2.2.1 + 4), .ref (G.2.2.2.1 + 5), .ref (G.2.2.2.1 + 6), .ref (G.2.2.2.1 + 7), .int (-1), .int 0, .int 1, .int 0, .int 0, .int 0]) hX (by decide) (by rw [fup_o (by decide), crt_lo (by decide), fup_o (by decide), fup_o (by decide), crt_lo (by decide), fup_o (by decide), fup_o (by decide)]; exact fup_s _ _ _) rfl inX11 tyX11 tyX11_ok nmX11 (by decide) q_237 rfl rfl (tyX11_ok 2 (by decide)) rfl rfl (Nat.le_of_ble_eq_true rfl) dX11_init_202 ?_
  refine b_iconst (pc := 205) (v := nI 0) hX dX11_init_205 (by decide +kernel) ?_
  refine b_istore (pc := 206) hX dX11_init_206 rfl (by decide) rfl ?_
  refine lp_St (q := G.2.2.2.1 + 8) (FS := [.ref (G.2.2.2.1 + 15), .ref (G.2.2.2.1 + 40), .ref (G.2.2.2.1 + 65), .ref (G.2.2.2.1 + 1), .ref (G.2.2.2.1 + 2), .ref (G.2.2.2.1 + 4), .ref (G.2.2.2.1 + 5), .ref (G.2.2.2.1 + 6), .ref (G.2.2.2.1 + 7), .int (-1), .int 0, .int 1, .int 0, .int 0, .int 0]) hX rfl 5 0 115 692 _ (by omega) (by omega) (by omega) (fup_s _ _ _) (by rw [fup_o (by decide), fup_o (by decide), crt_lo (by decide), fup_o (by decide), fup_o (by decide), crt_lo (by decide), fup_o (by decide), fup_o (by decide), fup_o (by decide), crt_lo (by decide), fup_o (by decide), fup_o (by decide), crt_lo (by decide), fup_o (by decide), fup_o (by decide), fup_o (by decide), fup_o (by decide), fup_o (by decide), fup_o (by decide), fup_o (by decide), fup_o (by decide), fup_o (by decide), fup_o (by decide), fup_o (by decide), fup_o (by decide), fup_o (by decide), fup_o (by decide), fup_o (by decide), fup_o (by decide), fup_o (by decide), fup_o (by decide), fup_o (by decide), fup_o (by decide), fup_o (by decide), fup_o (by decide), fup_o (by decide), fup_o (by decide), fup_o (by decide), fup_s]; exact arq0 G 5 5 _) ?_
  intro c1 a1 a2 a3 a4
  refine b_ret (pc := 235) hX (by omega) (by omega) dX11_init_235 (fun H h => h.ceq (fun x hx => ?_))
  unfold chF
  by_cases x1 : x = 5
  · subst x1
    rw [if_pos rfl, a2]
    exact ceq.q (fun t ht => if_pos ht)
  rw [if_neg x1]
  by_cases x2 : x < 116
  · rw [if_pos x2]
    exact ceq.of (a1 x x1 x2)
  obtain ⟨t, rfl⟩ : ∃ t, x = 116 + t := ⟨x - 116, by omega⟩
  rw [if_neg x2, a3 t (by omega) (by omega)]
  exact ceq.of rfl)
