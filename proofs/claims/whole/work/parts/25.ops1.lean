/-! the calls, one by one: court, heir, type, clear, note, forget -/
theorem RS.of {s m s' m' : Sto} {L : Lng} (h : RS s m L) (hk : RK s' m') (kc : KC s s') (km : KM m m') : RS s' m' L := ⟨hk, h.2.keep kc km (KL.rf L)⟩
theorem ix0 : ix (0 : Int32) = 0 := by decide +kernel
theorem RK_begin {s m : Sto} {w : Int32} (h1 : s 1 0 5 = 0) (h2 : s 1 0 6 = 0) (h3 : s 1 0 7 = 0) (h4 : gC s 0 = (w, 0, 0, -1, -1)) (g1 : m 17 0 1 = 0) (g2 : m 17 0 7 = 0) (g3 : m 17 0 27 = 0) (g4 : gM m = (w, 0, 0, -1, -1)) : RK s m := by
  have e1 : xh (crC s 0) = 0 := h1
  have e2 : xn (crC s 0) = 0 := h2
  have e3 : xp (crC s 0) = 0 := h3
  have e4 : xm (crC s 0) = (w, 0, 0, -1, -1) := h4
  refine ⟨⟨e1.trans g1.symm, e2.trans g2.symm, e3.trans g3.symm, e4.trans g4.symm, fun j hj => ?_, fun j hj => ?_, fun j hj => ?_⟩, ?_⟩
  · rw [e1, ix0] at hj; omega
  · rw [e2, ix0] at hj; omega
  · rw [e3, ix0] at hj; omega
  · refine ⟨by rw [e1]; decide +kernel, by rw [e2]; decide +kernel, by rw [e3]; decide +kernel, ⟨by rw [e1, ix0]; omega, fun j hj => ?_⟩, by rw [e4]; exact ⟨Or.inl rfl, Or.inl rfl⟩, by rw [e4]; exact (show in8 (0 : Int32) by decide +kernel), fun j hj => ?_, fun j hj => ?_⟩
    · rw [e1, ix0] at hj; omega
    · rw [e2, ix0] at hj; omega
    · rw [e3, ix0] at hj; omega
theorem b2t : ¬ b2 true = 0 := by decide +kernel
theorem b2f : b2 false = 0 := by decide +kernel
theorem bad_C (s : Sto) : f_T_bad s = some (-2, st s 0 0 12 (s 0 0 12 + 1)) := rfl
theorem no_C (s : Sto) : f_T_no s = some (-3, st s 0 0 13 (s 0 0 13 + 1)) := rfl
theorem full_C (s : Sto) : f_T_full s = some (-4, st s 0 0 14 (s 0 0 14 + 1)) := rfl
def bgC (s : Sto) (c : Nat) (w : Int32) : Sto := st (st (st (pC s c (w, 0, 0, -1, -1)) 1 c 5 0) 1 c 6 0) 1 c 7 0
theorem mb_C (s : Sto) (i : Nat) (a b c d e : Int32) : st (st (st (st (st s 4 i 0 a) 4 i 1 b) 4 i 2 c) 4 i 3 d) 4 i 4 e = pC s i (a, b, c, d, e) := by
  funext k' i' y
  unfold pC
  by_cases h : k' = 4 ∧ i' = i
  · obtain ⟨rfl, rfl⟩ := h
    simp only [and_self, if_true]
    by_cases h0 : y = 0
    · subst h0; simp [mw, st]
    by_cases h1 : y = 1
    · subst h1; simp [md, st]
    by_cases h2 : y = 2
    · subst h2; simp [mo, st]
    by_cases h3 : y = 3
    · subst h3; simp [mp, st]
    by_cases h4 : y = 4
    · subst h4; simp [mq, st]
    simp [h0, h1, h2, h3, h4, st]
  · rw [if_neg h]
    have n : ∀ x, ¬ (k' = 4 ∧ i' = i ∧ y = x) := fun x z => h ⟨z.1, z.2.1⟩
    simp only [st, n, if_false]
theorem bg_C (s : Sto) (c : Nat) (w : Int32) : f_Co_begin s c w = some (bgC s c w) := by
  simp only [f_Co_begin, f_Mo_begin, lt, bV_s]
  rw [mb_C]
  rfl
theorem bg_KC (s : Sto) (w : Int32) : KC s (bgC s 0 w) := by
  have n1 : ¬ NK 1 0 := by unfold NK; omega
  have n4 : ¬ NK 4 0 := by unfold NK; omega
  exact (((pC_KC n4).tr (st_KC n1 (by decide) (by decide))).tr (st_KC n1 (by decide) (by decide))).tr (st_KC n1 (by decide) (by decide))
theorem gC_st {s : Sto} {k i' x i : Nat} {v : Int32} (h : 4 ≠ k) : gC (st s k i' x v) i = gC s i := by unfold gC; rw [st_k h]
theorem gC_k {s s' : Sto} {i : Nat} (h : s' 4 i = s 4 i) : gC s' i = gC s i := by unfold gC; rw [h]
def bgM (s : Sto) (w : Int32) : Sto := st (st (st (pM s (w, 0, 0, -1, -1)) 17 0 1 0) 17 0 7 0) 17 0 27 0
theorem gM_x {s : Sto} {x : Nat} {v : Int32} (h : x ≠ 2 ∧ x ≠ 3 ∧ x ≠ 4 ∧ x ≠ 5 ∧ x ≠ 6) : gM (st s 17 0 x v) = gM s := by
  obtain ⟨a, b, c, d, e⟩ := h
  unfold gM
  simp only [st, true_and]
  rw [if_neg (Ne.symm a), if_neg (Ne.symm b), if_neg (Ne.symm c), if_neg (Ne.symm d), if_neg (Ne.symm e)]
theorem mb_M (s : Sto) (a b c d e z1 z2 z3 : Int32) : st (st (st (st (st (st (st (st s 17 0 2 a) 17 0 1 z1) 17 0 3 b) 17 0 4 c) 17 0 5 d) 17 0 6 e) 17 0 7 z2) 17 0 27 z3 = st (st (st (pM s (a, b, c, d, e)) 17 0 1 z1) 17 0 7 z2) 17 0 27 z3 := by
  funext k' i' y
  by_cases h : k' = 17 ∧ i' = 0
  · obtain ⟨rfl, rfl⟩ := h
    by_cases h27 : y = 27
    · subst h27; simp [st]
    by_cases h7 : y = 7
    · subst h7; simp [st]
    by_cases hh1 : y = 1
    · subst hh1; simp [st]
    by_cases h0 : y = 2
    · subst h0; simp [mw, st, pM]
    by_cases h1 : y = 3
    · subst h1; simp [md, st, pM]
    by_cases h2 : y = 4
    · subst h2; simp [mo, st, pM]
    by_cases h3 : y = 5
    · subst h3; simp [mp, st, pM]
    by_cases h4 : y = 6
    · subst h4; simp [mq, st, pM]
    simp [h0, h1, h2, h3, h4, h27, h7, hh1, st, pM]
  · have n : ∀ x, ¬ (k' = 17 ∧ i' = 0 ∧ y = x) := fun x z => h ⟨z.1, z.2.1⟩
    simp only [st, n, if_false, pM, h]
theorem bg_M (s : Sto) (w : Int32) : f_m_begin s w = some (bgM s w) := by
  simp only [f_m_begin, lt]
  rw [mb_M]
  rfl
theorem bg_KM (s : Sto) (w : Int32) : KM s (bgM s w) := ((pM_KM.tr (st_KM17 (by decide))).tr (st_KM17 (by decide))).tr (st_KM17 (by decide))
theorem bg_RK (s m : Sto) (w : Int32) : RK (bgC s 0 w) (bgM m w) := by
  refine RK_begin (w := w) ?_ ?_ ?_ ?_ ?_ ?_ ?_ ?_
  · simp [bgC, st]
  · simp [bgC, st]
  · simp [bgC, st]
  · unfold bgC
    rw [gC_st (by decide), gC_st (by decide), gC_st (by decide), gC_pC]
  · simp [bgM, st]
  · simp [bgM, st]
  · simp [bgM, st]
  · unfold bgM
    rw [gM_x (by decide), gM_x (by decide), gM_x (by decide), gM_pM]
theorem op_court {s m : Sto} {L : Lng} (h : RS s m L) (w : Int32) : OPI (f_T_court s w) (f_m_court m w) L := by
  simp only [f_T_court, f_m_court, out_C, in_M, bP_s, lt]
  cases outB w 0 99 with
  | true =>
    rw [if_neg b2t, Bool.not_true, if_pos b2f, bad_C, bad_M]
    exact op_bad h _
  | false =>
    rw [if_pos b2f, Bool.not_false, if_neg b2t, bg_C, bg_M]
    refine ⟨_, _, _, rfl, ?_, h.of (bg_RK s m w) (bg_KC s w) (bg_KM m w)⟩
    rw [bV_s]
    have e : s 1 0 5 = m 17 0 1 := h.1.1.1
    rw [e]
/-! heir -/
def hput (s : Sto) (i : Nat) (a b c d : Int32) : Sto := st (st (st (st s 2 i 0 a) 2 i 1 b) 2 i 2 c) 2 i 3 d
theorem hput_at (s : Sto) (i : Nat) (a b c d : Int32) : ∀ k, k < 4 → hput s i a b c d 2 i k = if k = 0 then a else if k = 1 then b else if k = 2 then c else d := by
  intro k hk
  rcases (show k = 0 ∨ k = 1 ∨ k = 2 ∨ k = 3 by omega) with rfl | rfl | rfl | rfl <;> simp [hput, st]
theorem hput_i {s : Sto} {i : Nat} {a b c d : Int32} {k i' : Nat} (h : i' ≠ i) : hput s i a b c d k i' = s k i' := by
  unfold hput; rw [st_i h, st_i h, st_i h, st_i h]
theorem hput_k {s : Sto} {i : Nat} {a b c d : Int32} {k : Nat} (h : k ≠ 2) : hput s i a b c d k = s k := by
  unfold hput; rw [st_k h, st_k h, st_k h, st_k h]
theorem hput_KC {s : Sto} {i : Nat} {a b c d : Int32} (h : i < 12) : KC s (hput s i a b c d) := by
  have n : ¬ NK 2 i := by unfold NK; omega
  exact (((st_KC n (by decide) (by decide)).tr (st_KC n (by decide) (by decide))).tr (st_KC n (by decide) (by decide))).tr (st_KC n (by decide) (by decide))
theorem hp_C (s : Sto) (i : Nat) (a b c d : Int32) : f_He_put s i a b c d = some (hput s i a b c d) := rfl
theorem plus1 {x : Int32} {n : Nat} (h : inb x n) (hn : n ≤ 1000) : (x + 1).toInt = x.toInt + 1 ∧ ix (x + 1) = ix x + 1 := by
  have h1 : (1 : Int32).toInt = 1 := by decide +kernel
  have e : (x + 1).toInt = x.toInt + 1 := by
    have a := h.1
    have b := h.2
    rw [i_add (by rw [h1]; omega) (by rw [h1]; omega), h1]
  refine ⟨e, ?_⟩
  show (x + 1).toInt.toNat = x.toInt.toNat + 1
  rw [e]
  have a := h.1
  omega
/-- a court with one heir more -/
theorem RK_heir {s m s' m' : Sto} (h : RK s m) (hn : inb (s 1 0 5) 6) {kind a b t : Int32} (hk : inb kind 6) (h1 : s' 1 0 5 = s 1 0 5 + 1) (h2 : s' 1 0 6 = s 1 0 6) (h3 : s' 1 0 7 = 0) (h4 : gC s' 0 = gC s 0) (h5 : ∀ j, j ≠ ix (s 1 0 5) → s' 2 (6 * 0 + j) = s 2 (6 * 0 + j)) (h6 : ∀ k, k < 4 → s' 2 (6 * 0 + ix (s 1 0 5)) k = if k = 0 then kind else if k = 1 then a else if k = 2 then b else t) (h7 : s' 3 = s 3)
    (g1 : m' 17 0 1 = m 17 0 1 + 1) (g2 : m' 17 0 7 = m 17 0 7) (g3 : m' 17 0 27 = 0) (g4 : gM m' = gM m) (g5 : ∀ k, k < 4 → ∀ j, m' (19 + k) 0 j = if j = ix (m 17 0 1) then (if k = 0 then kind else if k = 1 then a else if k = 2 then b else t) else m (19 + k) 0 j) (g7 : ∀ k, k < 5 → m' (23 + k) 0 = m (23 + k) 0) : RK s' m' := by
  obtain ⟨⟨e1, e2, e3, e4, e5, e6, e7⟩, w1, w2, w3, w4, w5, w6, w7, w8⟩ := h
  have e1' : s 1 0 5 = m 17 0 1 := e1
  have p := plus1 hn (by decide)
  have hx : ix (xh (crC s' 0)) = ix (s 1 0 5) + 1 := by
    show ix (s' 1 0 5) = _
    rw [h1, p.2]
  have hi := inb_ix hn
  have hp0 : ix (xp (crC s' 0)) = 0 := by
    show ix (s' 1 0 7) = 0
    rw [h3, ix0]
  refine ⟨⟨?_, ?_, ?_, ?_, ?_, ?_, ?_⟩, ?_, ?_, ?_, ⟨?_, ?_⟩, ?_, ?_, ?_, ?_⟩
  · show s' 1 0 5 = m' 17 0 1
    rw [h1, g1, e1']
  · show s' 1 0 6 = m' 17 0 7
    rw [h2, g2]; exact e2
  · show s' 1 0 7 = m' 17 0 27
    rw [h3, g3]
  · show gC s' 0 = gM m'
    rw [h4, g4]; exact e4
  · intro j hj k hk
    rw [hx] at hj
    show s' 2 (6 * 0 + j) k = m' (19 + k) 0 j
    rw [g5 k hk j]
    by_cases hjn : j = ix (s 1 0 5)
    · subst hjn
      rw [if_pos (show ix (s 1 0 5) = ix (m 17 0 1) by rw [e1']), h6 k hk]
    · rw [h5 j hjn, if_neg (by rw [← e1']; exact hjn)]
      exact e5 j (show j < ix (s 1 0 5) by omega) k hk
  · intro j hj k hk
    have hj' : j < ix (xn (crC s 0)) := by
      have : xn (crC s' 0) = xn (crC s 0) := h2
      rw [← this]; exact hj
    show s' 3 (6 * 0 + j) k = m' (23 + k) 0 j
    rw [h7, g7 k hk]
    exact e6 j hj' k hk
  · intro j hj
    rw [hp0] at hj; omega
  · show inb (s' 1 0 5) 7
    rw [h1]
    unfold inb
    rw [p.1]
    have a1 := hn.1
    have a2 := hn.2
    omega
  · show inb (s' 1 0 6) 7
    rw [h2]; exact w2
  · show inb (s' 1 0 7) 9
    rw [h3]; decide +kernel
  · rw [hx]; omega
  · intro j hj
    rw [hx] at hj
    show inb (s' 2 (6 * 0 + j) 0) 6
    by_cases hjn : j = ix (s 1 0 5)
    · subst hjn
      rw [h6 0 (by decide), if_pos rfl]; exact hk
    · rw [h5 j hjn]
      exact w4.2 j (show j < ix (s 1 0 5) by omega)
  · rw [hx]
    show okS (ix (s 1 0 5) + 1) (gC s' 0)
    rw [h4]
    refine ⟨?_, w5.2⟩
    rcases w5.1 with z | ⟨z1, z2⟩
    · exact Or.inl z
    · exact Or.inr ⟨inb_le z1 (Nat.le_succ _), inb_le z2 (Nat.le_succ _)⟩
  · show in8 (mo (gC s' 0))
    rw [h4]; exact w6
  · intro j hj
    have hj' : j < ix (xn (crC s 0)) := by
      have : xn (crC s' 0) = xn (crC s 0) := h2
      rw [← this]; exact hj
    show inb (s' 3 (6 * 0 + j) 1) 8
    rw [h7]
    exact w7 j hj'
  · intro j hj
    rw [hp0] at hj; omega

theorem lt6 {x : Int32} (h : inb x 7) : x < 6 ↔ ¬ x = 6 := by
  have h6 : (6 : Int32).toInt = 6 := by decide +kernel
  rw [i_lt, i_eq, h6]
  have a := h.1
  have b := h.2
  omega
theorem inb_of_lt {x : Int32} {a n : Nat} (h : inb x n) {y : Int32} (hy : y.toInt = a) (hx : x < y) : inb x a := by
  rw [i_lt, hy] at hx
  exact ⟨h.1, hx⟩
def adC (s : Sto) (c : Nat) (kind a b t : Int32) : Sto := st (st (hput s (6 * c + ix (s 1 c 5)) kind a b t) 1 c 7 0) 1 c 5 (s 1 c 5 + 1)
theorem ad_Co {s : Sto} {c : Nat} (kind a b t : Int32) (hn : inb (s 1 c 5) 6) : f_Co_admit s c kind a b t = some (s 1 c 5 + 1 - 1, adC s c kind a b t) := by
  have h6 : (6 : Int32).toInt = 6 := by decide +kernel
  have hlt : s 1 c 5 < 6 := by rw [i_lt, h6]; exact hn.2
  simp only [f_Co_admit, if_pos hlt, if_pos hn, hp_C, bV_s, lt]
  have e : st (hput s (6 * c + ix (s 1 c 5)) kind a b t) 1 c 7 0 1 c 5 = s 1 c 5 := by
    rw [st_v, if_neg (by omega), hput_k (by decide)]
  rw [e, st_v, if_pos ⟨rfl, rfl, rfl⟩]
  rfl
def adM (m : Sto) (kind a b t : Int32) : Sto := st (st (st (st (st (st m 19 0 (ix (m 17 0 1)) kind) 20 0 (ix (m 17 0 1)) a) 21 0 (ix (m 17 0 1)) b) 22 0 (ix (m 17 0 1)) t) 17 0 1 (m 17 0 1 + 1)) 17 0 27 0
theorem ad_Mo {m : Sto} (kind a b t : Int32) (hn : inb (m 17 0 1) 6) : f_m_addHeir m kind a b t = some (m 17 0 1 + 1 - 1, adM m kind a b t) := by
  have e : ∀ (z : Sto) (k x : Nat) (v : Int32), k ≠ 17 → st z k 0 x v 17 0 1 = z 17 0 1 := fun z k x v h => by rw [st_k (Ne.symm h)]
  simp only [f_m_addHeir, lt, e _ 19 _ _ (by decide), e _ 20 _ _ (by decide), e _ 21 _ _ (by decide), e _ 22 _ _ (by decide), if_pos hn]
  have e2 : ∀ (z : Sto) (v : Int32), st (st z 17 0 1 v) 17 0 27 0 17 0 1 = v := fun z v => by simp [st]
  rw [e2]
  rfl
theorem op_heir {s m : Sto} {L : Lng} (h : RS s m L) (kind a b t : Int32) : OPI (f_T_heir s kind a b t) (f_m_heir m kind a b t) L := by
  simp only [f_T_heir, f_m_heir, out_C, in_M, bP_s]
  cases h1 : outB kind 0 5 with
  | true =>
    rw [if_neg b2t, Bool.not_true, if_pos b2f, bad_C, bad_M]
    exact op_bad h _
  | false =>
    rw [if_pos b2f, Bool.not_false, if_neg b2t]
    cases h4 : outB t 0 20 with
    | true =>
      rw [if_neg b2t, bad_C]
      cases h2 : outB a 0 255 <;> cases h3 : outB b 0 255 <;> simp only [Bool.not_true, Bool.not_false, if_pos b2f, if_neg b2t, bad_M] <;> exact op_bad h _
    | false =>
      rw [if_pos b2f]
      cases h2 : outB a 0 255 with
      | true =>
        simp only [Bool.not_true, Bool.not_false, if_pos b2f, if_neg b2t, bad_M, bad_C]
        exact op_bad h _
      | false =>
        cases h3 : outB b 0 255 with
        | true =>
          simp only [Bool.not_true, Bool.not_false, if_pos b2f, if_neg b2t, bad_M, bad_C]
          exact op_bad h _
        | false =>
          simp only [Bool.not_false, if_pos b2f, if_neg b2t]
          have e1 : s 1 0 5 = m 17 0 1 := h.1.1.1
          have w1 : inb (s 1 0 5) 7 := h.1.2.1
          have hl := lt6 w1
          by_cases h6 : s 1 0 5 = 6
          · rw [if_neg (fun z => hl.mp z h6), if_pos (by rw [← e1]; exact h6), full_C, full_M]
            exact op_full h _
          · rw [if_pos (hl.mpr h6), if_neg (by rw [← e1]; exact h6)]
            have hn : inb (s 1 0 5) 6 := inb_of_lt w1 (by decide +kernel) (hl.mpr h6)
            rw [ad_Co _ _ _ _ hn, ad_Mo _ _ _ _ (by rw [← e1]; exact hn), bI_s, bI_s]
            have hk : inb kind 6 := by
              have := outB_f h1
              have h0 : (0 : Int32).toInt = 0 := by decide +kernel
              have h5 : (5 : Int32).toInt = 5 := by decide +kernel
              rw [h0, h5] at this
              exact ⟨this.1, by omega⟩
            have hi := inb_ix hn
            refine ⟨_, _, _, rfl, by rw [e1], h.of (RK_heir (kind := kind) (a := a) (b := b) (t := t) h.1 hn hk ?_ ?_ ?_ ?_ ?_ ?_ ?_ ?_ ?_ ?_ ?_ ?_ ?_) ?_ ?_⟩
            · simp [adC, st]
            · unfold adC; rw [st_v, if_neg (by omega), st_v, if_neg (by omega), hput_k (by decide)]
            · unfold adC; rw [st_v, if_neg (by omega), st_v, if_pos ⟨rfl, rfl, rfl⟩]
            · unfold adC; rw [gC_st (by decide), gC_st (by decide)]; exact gC_k (by rw [hput_k (by decide)])
            · intro j hj
              unfold adC
              rw [st_k (by decide), st_k (by decide), hput_i (by omega)]
            · intro k hk
              unfold adC
              rw [st_k (by decide), st_k (by decide)]
              exact hput_at _ _ _ _ _ _ k hk
            · unfold adC
              rw [st_k (by decide), st_k (by decide), hput_k (by decide)]
            · simp [adM, st]
            · simp [adM, st]
            · simp [adM, st]
            · unfold adM
              rw [gM_x (by decide), gM_x (by decide)]
              unfold gM
              simp [st]
            · intro k hk j
              rcases (show k = 0 ∨ k = 1 ∨ k = 2 ∨ k = 3 by omega) with rfl | rfl | rfl | rfl <;> simp [adM, st]
            · intro k hk
              unfold adM
              rw [st_k (by omega), st_k (by omega), st_k (by omega), st_k (by omega), st_k (by omega), st_k (by omega)]
            · have n1 : ¬ NK 1 0 := by unfold NK; omega
              exact ((hput_KC (by omega)).tr (st_KC n1 (by decide) (by decide))).tr (st_KC n1 (by decide) (by decide))
            · exact (((((st_KM (by decide) (by decide) (by decide) (by decide) (by decide)).tr (st_KM (by decide) (by decide) (by decide) (by decide) (by decide))).tr (st_KM (by decide) (by decide) (by decide) (by decide) (by decide))).tr (st_KM (by decide) (by decide) (by decide) (by decide) (by decide))).tr (st_KM17 (by decide))).tr (st_KM17 (by decide))
