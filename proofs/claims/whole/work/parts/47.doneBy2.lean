/-! most: one way, by the reference -/
theorem db53 {z : Sto} {n N w : Nat} {e : HEnv} (hz : eM z = e) (he : okE n e) (h4 : N ≤ 4) (hd : ∀ j, j < N → z 32 0 j = nI (dig N w j)) : ∀ (r a fuel : Nat) (v : M5) (h : Int), a + r = N → r + 1 < fuel → okM n v → prd v → in8 (mo v) → 0 ≤ h → ∃ v' ok, (∀ K, fx fuel (l_m_doneBy_53 (nI N) K) (fun _ _ _ => none) (pM z v) 1 (nI a) = K (pM z v') (b2 ok)) ∧ in8 (mo v') ∧ (ok = true → (popc (mo v')).toInt = (popc (mo v)).toInt - h + drN e r v h (w % 9 ^ r)) ∧ (ok = false → drN e r v h (w % 9 ^ r) = -1) ∧ (ok = true → 0 ≤ drN e r v h (w % 9 ^ r))
  | 0, a, fuel, v, h, hr, hf, ov, pv, o8, h0 => by
    obtain ⟨f, rfl⟩ : ∃ f, fuel = f + 1 := ⟨fuel - 1, by omega⟩
    refine ⟨v, true, fun K => ?_, o8, fun _ => by rw [drN_0]; omega, fun q => absurd q (by decide), fun _ => by rw [drN_0]; exact h0⟩
    rw [fx_s, l_m_doneBy_53, if_pos ((nI_leI (by omega) (by omega)).mpr (by omega)), b2t1]
  | r + 1, a, fuel, v, h, hr, hf, ov, pv, o8, h0 => by
    obtain ⟨f, rfl⟩ : ∃ f, fuel = f + 1 := ⟨fuel - 1, by omega⟩
    have ps : ∀ w, okM n w → f_m_pass (pM z w) = some (pM z (pdV e w)) := fun w hw => by
      rw [pd_M (n := n) (by rw [eM_pM', hz]; exact he) (by rw [gM_pM]; exact hw), eM_pM', gM_pM, pM_pM, hz]
    have g4 : pM z v 17 0 4 = mo v := congrArg mo (gM_pM z v)
    have z32 : pM z v 32 0 a = nI (dig N w a) := by rw [pM_k (by decide)]; exact hd a (by omega)
    have i4 := inb_nI (j := a) (n := 4) (by omega) (by omega)
    have x0 : ix (nI a) = a := ix_nI (by omega)
    have du := dig_u (n := N) (w := w) (r := r) (j := a) hr
    have hl := dig_lt N w a
    have nle : ¬ nI N ≤ nI a := fun q => by have := (nI_leI (by omega) (by omega)).mp q; omega
    have one : ¬ (1 : Int32) = 0 := by decide +kernel
    rw [drN_s, du.1, du.2]
    generalize dig N w a = d at z32 hl ⊢
    by_cases d8 : d = 8
    · subst d8
      rw [if_neg (fun q => q.1 rfl)]
      have ea : aft e v 8 = pdV e v := if_pos rfl
      have eg : gain1 e v 8 = 0 := if_pos rfl
      rw [ea, eg, Int.add_zero]
      obtain ⟨v', ok, k1, k2, k3, k4, k5⟩ := db53 hz he h4 hd r (a + 1) f (pdV e v) h (by omega) (by omega) (pdV_ok ov) (pdV_prd pv) o8 h0
      refine ⟨v', ok, fun K => ?_, k2, k3, k4, k5⟩
      rw [fx_s, l_m_doneBy_53, if_neg nle, if_neg one, if_pos i4, jn_e, x0, z32, if_pos ((c8le (a := 8) (by omega)).mpr rfl)]
      dsimp only
      rw [ps v ov, bV_s, nI_1]
      exact k1 K
    · have n8 : ¬ (8 : Int32) ≤ nI d := fun q => d8 ((c8le hl).mp q)
      have d7 : d < 8 := by omega
      have ak := ak_M (s := pM z v) (n := n) (by rw [eM_pM', hz]; exact he) (by rw [gM_pM]; exact ov) (by rw [gM_pM]; exact pv) (nI d)
      rw [eM_pM', gM_pM, pM_pM, hz] at ak
      have oa := akV_ok (e := e) (act := nI d) ov
      have pa := akV_prd (e := e) (act := nI d) pv
      have a8 : in8 (mo (akV e v (nI d))) := akV_8 o8 (inb_nI d7 (by omega))
      cases hb : BB (mo v) (nI d) with
      | true =>
        rw [if_pos ⟨d8, rfl⟩]
        refine ⟨pdV e (akV e v (nI d)), false, fun K => ?_, a8, fun q => absurd q (by decide), fun _ => rfl, fun q => absurd q (by decide)⟩
        rw [fx_s, l_m_doneBy_53, if_neg nle, if_neg one]
        simp only [if_pos i4, jn_e, x0, z32, if_neg n8, has_M, g4, hb, bP_s, if_neg b2t, ak, bI_s, ps _ oa, bV_s, nI_1]
        obtain ⟨f, rfl⟩ : ∃ k, f = k + 1 := ⟨f - 1, by omega⟩
        rw [fx_s, l_m_doneBy_53, b2f]
        by_cases q : nI N ≤ nI (a + 1)
        · rw [if_pos q]
        · rw [if_neg q, if_pos rfl]
      | false =>
        rw [if_neg (fun q => by cases q.2)]
        have ea : aft e v d = pdV e (akV e v (nI d)) := if_neg d8
        have eg : gain1 e v d = if lwV e v (nI d) = 3 then 1 else 0 := if_neg d8
        rw [ea, eg]
        have hg : (0 : Int) ≤ h + (if lwV e v (nI d) = 3 then 1 else 0) := by
          by_cases q : lwV e v (nI d) = 3
          · rw [if_pos q]; omega
          · rw [if_neg q]; omega
        obtain ⟨v', ok, k1, k2, k3, k4, k5⟩ := db53 hz he h4 hd r (a + 1) f (pdV e (akV e v (nI d))) (h + (if lwV e v (nI d) = 3 then 1 else 0)) (by omega) (by omega) (pdV_ok oa) (pdV_prd pa) a8 hg
        refine ⟨v', ok, fun K => ?_, k2, fun q => ?_, k4, k5⟩
        · rw [fx_s, l_m_doneBy_53, if_neg nle, if_neg one]
          simp only [if_pos i4, jn_e, x0, z32, if_neg n8, has_M, g4, hb, bP_s, if_pos b2f, ak, bI_s, ps _ oa, bV_s, nI_1]
          exact k1 K
        · have k := k3 q
          rw [pdV_mo, akV_mo] at k
          by_cases q3 : lwV e v (nI d) = 3
          · rw [if_pos q3, if_pos q3, pop_or o8 d7 hb] at k
            rw [if_pos q3]
            omega
          · rw [if_neg q3, if_neg q3] at k
            rw [if_neg q3]
            omega
