/-! remember: what may be undone -/
theorem mbe_C (s : Sto) (i j : Nat) : f_Mo_become s i j = some (pC s i (gC s j)) := by
  simp only [f_Mo_become, lt]
  have e : ∀ (z : Sto) (x y : Nat) (v : Int32), y ≠ x → st z 4 i x v 4 j y = z 4 j y := fun z x y v h => by rw [st_v, if_neg (fun q => h q.2.2)]
  simp only [e _ 0 1 _ (by decide), e _ 0 2 _ (by decide), e _ 1 2 _ (by decide), e _ 0 3 _ (by decide), e _ 1 3 _ (by decide), e _ 2 3 _ (by decide), e _ 0 4 _ (by decide), e _ 1 4 _ (by decide), e _ 2 4 _ (by decide), e _ 3 4 _ (by decide)]
  rw [mb_C]
  rfl
def remX (x : CR) : CR := if xp x = 8 then (xh x, xn x, xp x, xm x, xe x, xt x, fun j => if j < 7 then xa x (j + 1) else xm x) else (xh x, xn x, xp x + 1, xm x, xe x, xt x, fun j => if j = ix (xp x) then xm x else xa x j)
theorem ix8 : ix (8 : Int32) = 8 := by decide +kernel
theorem lt8 {x : Int32} (h : inb x 9) : x < 8 ↔ ¬ x = 8 := by
  have h6 : (8 : Int32).toInt = 8 := by decide +kernel
  rw [i_lt, i_eq, h6]
  have a := h.1
  have b := h.2
  omega
theorem remX_8 {x : CR} (h : xp x = 8) : remX x = (xh x, xn x, xp x, xm x, xe x, xt x, fun j => if j < 7 then xa x (j + 1) else xm x) := if_pos h
theorem remX_n {x : CR} (h : ¬ xp x = 8) : remX x = (xh x, xn x, xp x + 1, xm x, xe x, xt x, fun j => if j = ix (xp x) then xm x else xa x j) := if_neg h
theorem remX_eq {x y : CR} (h : eqR x y) (w : wfR x) : eqR (remX x) (remX y) := by
  obtain ⟨h1, h2, h3, h4, h5, h6, h7⟩ := h
  by_cases e : xp x = 8
  · rw [remX_8 e, remX_8 (by rw [← h3]; exact e)]
    refine ⟨h1, h2, h3, h4, h5, h6, fun j hj => ?_⟩
    have hj' : j < 8 := by
      have : j < ix (xp x) := hj
      rw [e, ix8] at this; exact this
    show (if j < 7 then xa x (j + 1) else xm x) = if j < 7 then xa y (j + 1) else xm y
    by_cases q : j < 7
    · rw [if_pos q, if_pos q]; exact h7 (j + 1) (by rw [e, ix8]; omega)
    · rw [if_neg q, if_neg q, h4]
  · rw [remX_n e, remX_n (by rw [← h3]; exact e)]
    have e' : inb (xp x) 8 := inb_of_lt w.2.2.1 (by decide +kernel) ((lt8 w.2.2.1).mpr e)
    have p := plus1 e' (by decide)
    refine ⟨h1, h2, by show xp x + 1 = xp y + 1; rw [h3], h4, h5, h6, fun j hj => ?_⟩
    have hj' : j < ix (xp x) + 1 := by
      have : j < ix (xp x + 1) := hj
      rw [p.2] at this; exact this
    show (if j = ix (xp x) then xm x else xa x j) = if j = ix (xp y) then xm y else xa y j
    rw [← h3]
    by_cases q : j = ix (xp x)
    · rw [if_pos q, if_pos q, h4]
    · rw [if_neg q, if_neg q]; exact h7 j (by omega)
theorem remX_wf {x : CR} (w : wfR x) : wfR (remX x) := by
  obtain ⟨w1, w2, w3, w4, w5, w6, w7, w8⟩ := w
  by_cases e : xp x = 8
  · rw [remX_8 e]
    refine ⟨w1, w2, w3, w4, w5, w6, w7, fun j hj => ?_⟩
    have hj' : j < 8 := by
      have : j < ix (xp x) := hj
      rw [e, ix8] at this; exact this
    show okS _ (if j < 7 then xa x (j + 1) else xm x) ∧ in8 (mo (if j < 7 then xa x (j + 1) else xm x))
    by_cases q : j < 7
    · rw [if_pos q]; exact w8 (j + 1) (by rw [e, ix8]; omega)
    · rw [if_neg q]; exact ⟨w5, w6⟩
  · rw [remX_n e]
    have e' : inb (xp x) 8 := inb_of_lt w3 (by decide +kernel) ((lt8 w3).mpr e)
    have p := plus1 e' (by decide)
    refine ⟨w1, w2, ?_, w4, w5, w6, w7, fun j hj => ?_⟩
    · show inb (xp x + 1) 9
      unfold inb
      rw [p.1]
      have a := e'.1
      have b := e'.2
      omega
    have hj' : j < ix (xp x) + 1 := by
      have : j < ix (xp x + 1) := hj
      rw [p.2] at this; exact this
    show okS _ (if j = ix (xp x) then xm x else xa x j) ∧ in8 (mo (if j = ix (xp x) then xm x else xa x j))
    by_cases q : j = ix (xp x)
    · rw [if_pos q]; exact ⟨w5, w6⟩
    · rw [if_neg q]; exact w8 j (by omega)
/-- the oldest goes: by its rows -/
theorem fol_C (c : Nat) : ∀ (r a fuel : Nat) (s : Sto), a + 1 + r = 8 → r < fuel → ∃ s', fx fuel (l_Co_forgetOldest_2 c) (fun _ _ => none) s (nI (a + 1)) = some (st s' 1 c 7 7) ∧ (∀ j, a ≤ j → j < 7 → gC s' (4 + 8 * c + j) = gC s (4 + 8 * c + (j + 1))) ∧ ∀ k i, ¬ (k = 4 ∧ 4 + 8 * c + a ≤ i ∧ i < 4 + 8 * c + 7) → s' k i = s k i
  | 0, a, fuel, s, h, hf => by
    obtain ⟨f, rfl⟩ : ∃ f, fuel = f + 1 := ⟨fuel - 1, by omega⟩
    refine ⟨s, ?_, fun j h1 h2 => by omega, fun _ _ _ => rfl⟩
    rw [fx_s]
    unfold l_Co_forgetOldest_2
    rw [show a + 1 = 8 by omega, if_pos (by decide +kernel)]
    rfl
  | r + 1, a, fuel, s, h, hf => by
    obtain ⟨f, rfl⟩ : ∃ f, fuel = f + 1 := ⟨fuel - 1, by omega⟩
    obtain ⟨s', h1, h2, h3⟩ := fol_C c r (a + 1) f (pC s (4 + 8 * c + a) (gC s (4 + 8 * c + (a + 1)))) (by omega) (by omega)
    refine ⟨s', ?_, fun j q1 q2 => ?_, fun k i n => ?_⟩
    · rw [fx_s]
      unfold l_Co_forgetOldest_2
      have e8 : (8 : Int32) = nI 8 := by decide +kernel
      rw [if_neg (by rw [e8]; exact nI_ge (by omega) (by omega)), nI_pred, if_pos (inb_nI (by omega) (by omega)), if_pos (inb_nI (by omega) (by omega)), ix_nI (by omega), ix_nI (by omega), mbe_C, bV_s, nI_1]
      exact h1
    · by_cases q : a + 1 ≤ j
      · rw [h2 j q q2]
        exact gC_k (pC_i (by omega))
      · have : j = a := by omega
        subst this
        have e : s' 4 (4 + 8 * c + j) = pC s (4 + 8 * c + j) (gC s (4 + 8 * c + (j + 1))) 4 (4 + 8 * c + j) := h3 4 _ (by omega)
        rw [gC_k e, gC_pC]
    · rw [h3 k i (fun z => n ⟨z.1, by omega, z.2.2⟩)]
      by_cases q : k = 4
      · subst q
        exact pC_i (fun z => n ⟨rfl, by omega, by omega⟩)
      · rw [pC_k q]
theorem rem_C {s : Sto} (w : wfR (crC s 0)) : ∃ s', f_Co_remember s 0 = some s' ∧ eqR (remX (crC s 0)) (crC s' 0) ∧ KC s s' := by
  have n1 : ¬ NK 1 0 := by unfold NK; omega
  have w3 : inb (s 1 0 7) 9 := w.2.2.1
  have e8 : (8 : Int32) = nI 8 := by decide +kernel
  simp only [f_Co_remember, jn]
  by_cases e : s 1 0 7 = 8
  · rw [if_neg (fun z => (lt8 w3).mp z e)]
    unfold f_Co_forgetOldest
    obtain ⟨z, h1, h2, h3⟩ := fol_C 0 7 0 1000 s (by omega) (by omega)
    have h1' : fx 1000 (l_Co_forgetOldest_2 0) (fun _ _ => none) s 1 = some (st z 1 0 7 7) := by
      rw [show (1 : Int32) = nI (0 + 1) by decide +kernel]; exact h1
    rw [h1', bV_s]
    have a7 : st z 1 0 7 7 1 0 7 = 7 := by rw [st_v, if_pos ⟨rfl, rfl, rfl⟩]
    have i7 : ix (7 : Int32) = 7 := by decide +kernel
    rw [a7, if_pos (by decide +kernel), i7, mbe_C, bV_s]
    simp only [lt]
    have b7 : pC (st z 1 0 7 7) (4 + 8 * 0 + 7) (gC (st z 1 0 7 7) 0) 1 0 7 = 7 := by rw [pC_k (by decide), a7]
    rw [b7, show (7 : Int32) + 1 = 8 by decide +kernel]
    have g0 : gC (st z 1 0 7 7) 0 = gC s 0 := by rw [gC_st (by decide)]; exact gC_k (h3 4 0 (by omega))
    rw [g0]
    have kz : ∀ k i, ¬ (k = 4 ∧ 4 ≤ i ∧ i < 12) → ¬ (k = 1 ∧ i = 0) → st (pC (st z 1 0 7 7) (4 + 8 * 0 + 7) (gC s 0)) 1 0 7 8 k i = s k i := by
      intro k i q1 q2
      by_cases qk : k = 1
      · subst qk
        rw [st_i (by omega), pC_k (by decide), st_i (by omega), h3 1 i (by omega)]
      · rw [st_k qk]
        by_cases q4 : k = 4
        · subst q4
          rw [pC_i (by omega), st_k (by decide), h3 4 i (by omega)]
        · rw [pC_k q4, st_k qk, h3 k i (by omega)]
    have s1 : ∀ x, x ≠ 7 → st (pC (st z 1 0 7 7) (4 + 8 * 0 + 7) (gC s 0)) 1 0 7 8 1 0 x = s 1 0 x := fun x hx => by
      rw [st_v, if_neg (by omega), pC_k (by decide), st_v, if_neg (by omega), h3 1 0 (by omega)]
    have s7 : st (pC (st z 1 0 7 7) (4 + 8 * 0 + 7) (gC s 0)) 1 0 7 8 1 0 7 = 8 := by rw [st_v, if_pos ⟨rfl, rfl, rfl⟩]
    have sa : ∀ j, j < 7 → gC (st (pC (st z 1 0 7 7) (4 + 8 * 0 + 7) (gC s 0)) 1 0 7 8) (4 + 8 * 0 + j) = gC s (4 + 8 * 0 + (j + 1)) := fun j q => by
      rw [gC_st (by decide), gC_k (pC_i (show 4 + 8 * 0 + j ≠ 4 + 8 * 0 + 7 by omega)), gC_st (by decide), h2 j (by omega) q]
    have sb : gC (st (pC (st z 1 0 7 7) (4 + 8 * 0 + 7) (gC s 0)) 1 0 7 8) (4 + 8 * 0 + 7) = gC s 0 := by
      rw [gC_st (by decide), gC_pC]
    generalize st (pC (st z 1 0 7 7) (4 + 8 * 0 + 7) (gC s 0)) 1 0 7 8 = s' at kz s1 s7 sa sb ⊢
    refine ⟨s', rfl, ?_, ?_⟩
    · rw [remX_8 (show xp (crC s 0) = 8 from e)]
      refine ⟨?_, ?_, ?_, ?_, fun j hj k hk => ?_, fun j hj k hk => ?_, fun j hj => ?_⟩
      · exact (s1 5 (by decide)).symm
      · exact (s1 6 (by decide)).symm
      · show s 1 0 7 = s' 1 0 7
        rw [s7, e]
      · exact (gC_k (kz 4 0 (by omega) (by omega))).symm
      · show s 2 (6 * 0 + j) k = s' 2 (6 * 0 + j) k
        rw [kz 2 _ (by omega) (by omega)]
      · show s 3 (6 * 0 + j) k = s' 3 (6 * 0 + j) k
        rw [kz 3 _ (by omega) (by omega)]
      · have hj' : j < 8 := by
          have : j < ix (s 1 0 7) := hj
          rw [e, ix8] at this; exact this
        show (if j < 7 then gC s (4 + 8 * 0 + (j + 1)) else gC s 0) = gC s' (4 + 8 * 0 + j)
        by_cases q : j < 7
        · rw [if_pos q, sa j q]
        · rw [if_neg q, show j = 7 by omega, sb]
    · refine ⟨fun k i n => kz k i (by unfold NK at n; omega) (by unfold NK at n; omega), fun x hx => by rw [kz 0 0 (by omega) (by omega)], by rw [kz 5 0 (by omega) (by omega)]⟩
  · have hl := (lt8 w3).mpr e
    have hn : inb (s 1 0 7) 8 := inb_of_lt w3 (by decide +kernel) hl
    have hi := inb_ix hn
    rw [if_pos hl, if_pos hn, mbe_C, bV_s]
    simp only [lt]
    have b7 : pC s (4 + 8 * 0 + ix (s 1 0 7)) (gC s 0) 1 0 7 = s 1 0 7 := by rw [pC_k (by decide)]
    rw [b7]
    have n4 : ¬ NK 4 (4 + 8 * 0 + ix (s 1 0 7)) := by unfold NK; omega
    have kc : KC s (st (pC s (4 + 8 * 0 + ix (s 1 0 7)) (gC s 0)) 1 0 7 (s 1 0 7 + 1)) := (pC_KC n4).tr (st_KC n1 (by decide) (by decide))
    have s1 : ∀ x, x ≠ 7 → st (pC s (4 + 8 * 0 + ix (s 1 0 7)) (gC s 0)) 1 0 7 (s 1 0 7 + 1) 1 0 x = s 1 0 x := fun x hx => by
      rw [st_v, if_neg (by omega), pC_k (by decide)]
    have s7 : st (pC s (4 + 8 * 0 + ix (s 1 0 7)) (gC s 0)) 1 0 7 (s 1 0 7 + 1) 1 0 7 = s 1 0 7 + 1 := by rw [st_v, if_pos ⟨rfl, rfl, rfl⟩]
    have sg : gC (st (pC s (4 + 8 * 0 + ix (s 1 0 7)) (gC s 0)) 1 0 7 (s 1 0 7 + 1)) 0 = gC s 0 := by
      rw [gC_st (by decide)]
      exact gC_k (pC_i (by omega))
    have s2 : st (pC s (4 + 8 * 0 + ix (s 1 0 7)) (gC s 0)) 1 0 7 (s 1 0 7 + 1) 2 = s 2 := by rw [st_k (by decide), pC_k (by decide)]
    have s3 : st (pC s (4 + 8 * 0 + ix (s 1 0 7)) (gC s 0)) 1 0 7 (s 1 0 7 + 1) 3 = s 3 := by rw [st_k (by decide), pC_k (by decide)]
    have sa : gC (st (pC s (4 + 8 * 0 + ix (s 1 0 7)) (gC s 0)) 1 0 7 (s 1 0 7 + 1)) (4 + 8 * 0 + ix (s 1 0 7)) = gC s 0 := by
      rw [gC_st (by decide), gC_pC]
    have sb : ∀ j, j ≠ ix (s 1 0 7) → gC (st (pC s (4 + 8 * 0 + ix (s 1 0 7)) (gC s 0)) 1 0 7 (s 1 0 7 + 1)) (4 + 8 * 0 + j) = gC s (4 + 8 * 0 + j) := fun j q => by
      rw [gC_st (by decide)]
      exact gC_k (pC_i (by omega))
    generalize st (pC s (4 + 8 * 0 + ix (s 1 0 7)) (gC s 0)) 1 0 7 (s 1 0 7 + 1) = s' at kc s1 s7 sg s2 s3 sa sb ⊢
    refine ⟨s', rfl, ?_, kc⟩
    rw [remX_n (show ¬ xp (crC s 0) = 8 from e)]
    refine ⟨(s1 5 (by decide)).symm, (s1 6 (by decide)).symm, s7.symm, sg.symm, fun j hj k hk => ?_, fun j hj k hk => ?_, fun j hj => ?_⟩
    · show s 2 (6 * 0 + j) k = s' 2 (6 * 0 + j) k
      rw [s2]
    · show s 3 (6 * 0 + j) k = s' 3 (6 * 0 + j) k
      rw [s3]
    · show (if j = ix (s 1 0 7) then gC s 0 else gC s (4 + 8 * 0 + j)) = gC s' (4 + 8 * 0 + j)
      by_cases q : j = ix (s 1 0 7)
      · rw [if_pos q, q, sa]
      · rw [if_neg q, sb j q]
