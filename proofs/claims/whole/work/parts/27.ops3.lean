/-! forget, of, makes, lift, count, status, part -/
theorem RK_forget {s m : Sto} (h : RK s m) (z : Int32) (hz : ix z = 0) (hz7 : inb z 7) : RK (st s 1 0 6 z) (st m 17 0 7 z) := by
  obtain ⟨⟨e1, e2, e3, e4, e5, e6, e7⟩, w1, w2, w3, w4, w5, w6, w7, w8⟩ := h
  have a1 : xh (crC (st s 1 0 6 z) 0) = xh (crC s 0) := show st s 1 0 6 z 1 0 5 = s 1 0 5 by rw [st_v, if_neg (by omega)]
  have a2 : xn (crC (st s 1 0 6 z) 0) = z := show st s 1 0 6 z 1 0 6 = z by rw [st_v, if_pos ⟨rfl, rfl, rfl⟩]
  have a3 : xp (crC (st s 1 0 6 z) 0) = xp (crC s 0) := show st s 1 0 6 z 1 0 7 = s 1 0 7 by rw [st_v, if_neg (by omega)]
  have a4 : xm (crC (st s 1 0 6 z) 0) = xm (crC s 0) := show gC (st s 1 0 6 z) 0 = gC s 0 from gC_st (by decide)
  have a5 : ∀ j k, xe (crC (st s 1 0 6 z) 0) j k = xe (crC s 0) j k := fun j k => show st s 1 0 6 z 2 (6 * 0 + j) k = s 2 (6 * 0 + j) k by rw [st_k (by decide)]
  have a7 : ∀ j, xa (crC (st s 1 0 6 z) 0) j = xa (crC s 0) j := fun j => show gC (st s 1 0 6 z) (4 + 8 * 0 + j) = gC s (4 + 8 * 0 + j) from gC_st (by decide)
  have b1 : xh (crM m) = xh (crM (st m 17 0 7 z)) := show m 17 0 1 = st m 17 0 7 z 17 0 1 by rw [st_v, if_neg (by omega)]
  have b2' : z = xn (crM (st m 17 0 7 z)) := show z = st m 17 0 7 z 17 0 7 by rw [st_v, if_pos ⟨rfl, rfl, rfl⟩]
  have b3 : xp (crM m) = xp (crM (st m 17 0 7 z)) := show m 17 0 27 = st m 17 0 7 z 17 0 27 by rw [st_v, if_neg (by omega)]
  have b4 : xm (crM m) = xm (crM (st m 17 0 7 z)) := show gM m = gM (st m 17 0 7 z) from (gM_x (by decide)).symm
  refine ⟨⟨a1.trans (e1.trans b1), a2.trans b2', a3.trans (e3.trans b3), a4.trans (e4.trans b4), ?_, ?_, ?_⟩, ?_, ?_, ?_, ⟨?_, ?_⟩, ?_, ?_, ?_, ?_⟩
  · rw [a1]
    intro j hj k hk
    rw [a5, e5 j hj k hk]
    show m (19 + k) 0 j = st m 17 0 7 z (19 + k) 0 j
    rw [st_k (by omega)]
  · rw [a2, hz]; intro j hj; omega
  · rw [a3]
    intro j hj
    rw [a7, e7 j hj]
    show aM m j = aM (st m 17 0 7 z) j
    unfold aM
    rw [st_k (by decide)]
  · rw [a1]; exact w1
  · rw [a2]; exact hz7
  · rw [a3]; exact w3
  · rw [a1]; exact w4.1
  · rw [a1]; intro j hj; rw [a5]; exact w4.2 j hj
  · rw [a1, a4]; exact w5
  · rw [a4]; exact w6
  · rw [a2, hz]; intro j hj; omega
  · rw [a3, a1]; intro j hj; rw [a7]; exact w8 j hj
theorem op_forget {s m : Sto} {L : Lng} (h : RS s m L) : OPI (f_T_forget s) (f_m_forget m) L := by
  simp only [f_T_forget, f_m_forget, lt]
  have e2 : s 1 0 6 = m 17 0 7 := h.1.1.2.1
  have n1 : ¬ NK 1 0 := by unfold NK; omega
  exact ⟨_, _, _, rfl, by rw [e2], h.of (RK_forget h.1 0 ix0 (by decide +kernel)) (st_KC n1 (by decide) (by decide)) (st_KM17 (by decide))⟩
theorem op_same {s m : Sto} {L : Lng} (h : RS s m L) {a b : Int32} (e : a = b) : OPI (some (a, s)) (some (b, m)) L := ⟨a, s, m, rfl, by rw [e], h⟩
/-- what the relation says of the court, in short -/
theorem RS.fx {s m : Sto} {L : Lng} (h : RS s m L) : s 1 0 5 = m 17 0 1 ∧ inb (s 1 0 5) 7 ∧ inb (m 17 0 1) 7 ∧ gC s 0 = gM m ∧ eqE (ix (s 1 0 5)) (eC s 0) (eM m) ∧ okE (ix (s 1 0 5)) (eC s 0) ∧ okE (ix (s 1 0 5)) (eM m) ∧ okM (ix (s 1 0 5)) (gC s 0) ∧ in8 (mo (gC s 0)) := by
  obtain ⟨⟨e, w⟩, -⟩ := h
  have w' := e.wf w
  have e1 : s 1 0 5 = m 17 0 1 := e.1
  refine ⟨e1, w.1, w'.1, e.2.2.2.1, e.2.2.2.2.1, w.2.2.2.1, ?_, w.2.2.2.2.1.1, w.2.2.2.2.2.1⟩
  rw [e1]
  exact w'.2.2.2.1
theorem RS.os {s m : Sto} {L : Lng} (h : RS s m L) : okS (ix (s 1 0 5)) (gC s 0) := h.1.2.2.2.2.2.1
theorem RS.hc {s m : Sto} {L : Lng} (h : RS s m L) : HC (ix (s 1 0 5)) s 0 := ⟨h.1.2.1, rfl⟩
theorem RS.pr {s m : Sto} {L : Lng} (h : RS s m L) : f_Co_paired s 0 0 = some (b2 (!decide (mp (gC s 0) = -1))) := prd_C h.hc h.os
theorem op_of {s m : Sto} {L : Lng} (h : RS s m L) (p x : Int32) : OPI (f_T_of s p x) (f_m_of m p x) L := by
  obtain ⟨e1, w1, w1m, e4, e5, k1, k2, o1, o2⟩ := h.fx
  simp only [f_T_of, f_m_of, out_C, in_M, bP_s, has_C, isH_M w1m, e1]
  cases hp : hasB p (m 17 0 1) with
  | false => rw [if_pos b2f, if_pos b2f, bad_C, bad_M]; exact op_bad h _
  | true =>
    rw [if_neg b2t, if_neg b2t]
    cases outB x 0 4 with
    | true => rw [if_neg b2t, Bool.not_true, if_pos b2f, bad_C, bad_M]; exact op_bad h _
    | false =>
      rw [if_pos b2f, Bool.not_false, if_neg b2t]
      have hin := hasB_t hp
      rw [← e1] at hin
      have h6 := inb_le hin k1.1
      have hv : ∀ k, k < 4 → s 2 (6 * 0 + ix p) k = m (19 + k) 0 (ix p) := fun k hk => e5 (ix p) (inb_ix hin) k hk
      simp only [if_pos h6]
      by_cases h0 : x = 0
      · rw [if_pos h0, if_pos h0]; exact op_same h (hv 0 (by decide))
      rw [if_neg h0, if_neg h0]
      by_cases h1 : x = 1
      · rw [if_pos h1, if_pos h1]; exact op_same h (hv 1 (by decide))
      rw [if_neg h1, if_neg h1]
      by_cases h2 : x = 2
      · rw [if_pos h2, if_pos h2]; exact op_same h (hv 2 (by decide))
      rw [if_neg h2, if_neg h2]
      by_cases h3 : x = 3
      · rw [if_pos h3, if_pos h3]; exact op_same h (hv 3 (by decide))
      rw [if_neg h3, if_neg h3]
      have f1 : s 4 0 3 = m 17 0 5 := congrArg mp e4
      have f2 : s 4 0 4 = m 17 0 6 := congrArg mq e4
      unfold f_Mo_sideOf
      rw [f1, f2]
      by_cases g1 : p = m 17 0 5
      · rw [if_pos g1, if_pos g1]; exact op_same h rfl
      rw [if_neg g1, if_neg g1]
      by_cases g2 : p = m 17 0 6
      · rw [if_pos g2, if_pos g2]; exact op_same h rfl
      rw [if_neg g2, if_neg g2]
      exact op_same h rfl
theorem op_makes {s m : Sto} {L : Lng} (h : RS s m L) (p : Int32) : OPI (f_T_makes s p) (f_m_makes m p) L := by
  obtain ⟨e1, w1, w1m, e4, e5, k1, k2, o1, o2⟩ := h.fx
  simp only [f_T_makes, f_m_makes, bP_s, has_C, isH_M w1m, e1, if_pos lits3.1, lt, lits3.2.2.2.1]
  cases hp : hasB p (m 17 0 1) with
  | false => rw [if_pos b2f, if_pos b2f, bad_C, bI_s]; exact op_bad h _
  | true =>
    rw [if_neg b2t, if_neg b2t]
    have hin := hasB_t hp
    rw [← e1] at hin
    rw [ad_C k1 hin, ad_M k2 hin, bP_s, bP_s]
    exact op_same h (e5.ad hin)
theorem pr_m (s : Sto) : f_m_isPair s = some (b2 (!decide (mp (gM s) = -1))) := by
  unfold f_m_isPair
  show (if mp (gM s) = -1 then some (0 : Int32) else some 1) = _
  by_cases h : mp (gM s) = -1
  · rw [if_pos h, decide_eq_true h]; rfl
  · rw [if_neg h, decide_eq_false h]; rfl
theorem op_lift {s m : Sto} {L : Lng} (h : RS s m L) (a : Int32) : OPI (f_T_lift s a) (f_m_lift m a) L := by
  obtain ⟨e1, w1, w1m, e4, e5, k1, k2, o1, o2⟩ := h.fx
  simp only [f_T_lift, f_m_lift, out_C, act_M, bP_s, h.pr, pr_m, e4]
  cases outB a 0 7 with
  | true => rw [if_neg b2t, Bool.not_true, if_pos b2f, bad_C, bad_M]; exact op_bad h _
  | false =>
    rw [if_pos b2f, Bool.not_false, if_neg b2t]
    by_cases hp : mp (gM m) = -1
    · rw [decide_eq_true hp, Bool.not_true, if_pos b2f, if_pos b2f, no_C, no_M]; exact op_no h _
    · rw [decide_eq_false hp, Bool.not_false, if_neg b2t, if_neg b2t]
      have hpc : prd (gC s 0) := by unfold prd; rw [e4]; exact hp
      have o1m : okM (ix (s 1 0 5)) (gM m) := by rw [← e4]; exact o1
      rw [lw_C k1 o1 hpc, lw_M k2 o1m hp, bP_s, bP_s]
      exact op_same h (by rw [← e4]; exact e5.lw o1 hpc a)
theorem cnt_eq {s m : Sto} {L : Lng} (h : RS s m L) (x : Int32) : ∃ r, f_T_howMany s x = some r ∧ f_m_countOf m x = some r := by
  obtain ⟨e1, w1, w1m, e4, e5, k1, k2, o1, o2⟩ := h.fx
  have f0 : s 4 0 0 = m 17 0 2 := congrArg mw e4
  have f1 : s 4 0 1 = m 17 0 3 := congrArg md e4
  have f2 : s 4 0 2 = m 17 0 4 := congrArg mo e4
  have e2 : s 1 0 6 = m 17 0 7 := h.1.1.2.1
  have e3 : s 1 0 7 = m 17 0 27 := h.1.1.2.2.1
  have et : s 5 0 1 = m 17 0 18 := h.2.1.1
  have o8 : in8 (m 17 0 4) := by rw [← f2]; exact o2
  unfold f_T_howMany f_m_countOf
  rw [popc_J, popc_M o8, bP_s, bP_s, e1, f0, f1, f2, e2, e3, et]
  by_cases h0 : x = 0
  · rw [if_pos h0]; exact ⟨_, rfl, rfl⟩
  rw [if_neg h0]
  by_cases h1 : x = 1
  · rw [if_pos h1]; exact ⟨_, rfl, rfl⟩
  rw [if_neg h1]
  by_cases h2 : x = 2
  · rw [if_pos h2]; exact ⟨_, rfl, rfl⟩
  rw [if_neg h2]
  by_cases h3 : x = 3
  · rw [if_pos h3]; exact ⟨_, rfl, rfl⟩
  rw [if_neg h3]
  by_cases h4 : x = 4
  · rw [if_pos h4]; exact ⟨_, rfl, rfl⟩
  rw [if_neg h4]
  by_cases h5 : x = 5
  · rw [if_pos h5]; exact ⟨_, rfl, rfl⟩
  rw [if_neg h5]
  exact ⟨_, rfl, rfl⟩
theorem op_count {s m : Sto} {L : Lng} (h : RS s m L) (x : Int32) : OPI (f_T_count s x) (f_m_count m x) L := by
  obtain ⟨r, e1, e2⟩ := cnt_eq h x
  simp only [f_T_count, f_m_count, out_C, in_M, bP_s, e1, e2]
  cases outB x 0 6 with
  | true => rw [if_neg b2t, Bool.not_true, if_pos b2f, bad_C, bad_M]; exact op_bad h _
  | false => rw [if_pos b2f, Bool.not_false, if_neg b2t]; exact op_same h rfl
theorem out02 {x : Int32} : outB x 0 2 = false ↔ x = 0 ∨ x = 1 ∨ x = 2 := by
  constructor
  · intro h
    have h1 := outB_f h
    have h0 : (0 : Int32).toInt = 0 := by decide +kernel
    have ha : (1 : Int32).toInt = 1 := by decide +kernel
    have hb : (2 : Int32).toInt = 2 := by decide +kernel
    rw [h0, hb] at h1
    simp only [i_eq, h0, ha, hb]
    omega
  · rintro (rfl | rfl | rfl) <;> decide +kernel
theorem op_status {s m : Sto} {L : Lng} (h : RS s m L) (x : Int32) : OPI (f_T_status s x) (f_m_status m x) L := by
  obtain ⟨r0, r1, r2⟩ := h.2.2.2.1
  simp only [f_T_status, f_m_status, in_M, bP_s, if_pos lits3.1, lt, lits3.2.2.2.1]
  cases hx : outB x 0 2 with
  | true =>
    have n : ¬ (x = 0 ∨ x = 1 ∨ x = 2) := fun z => by rw [out02.mpr z] at hx; cases hx
    rw [if_neg (fun z => n (Or.inl z)), if_neg (fun z => n (Or.inr (Or.inl z))), if_neg (fun z => n (Or.inr (Or.inr z))), Bool.not_true, if_pos b2f, bad_C, bI_s]
    exact op_bad h _
  | false =>
    rw [Bool.not_false, if_neg b2t]
    rcases out02.mp hx with rfl | rfl | rfl
    · rw [if_pos rfl, if_pos lits3.1, lits3.2.2.2.1]; exact op_same h r0
    · rw [if_neg (by decide +kernel), if_pos rfl, if_pos lits3.2.1, lits3.2.2.2.2.1]; exact op_same h r1
    · rw [if_neg (by decide +kernel), if_neg (by decide +kernel), if_pos rfl, if_pos lits3.2.2.1, lits3.2.2.2.2.2]; exact op_same h r2
/-- for answers that are longs, and a reference that holds longs -/
def OPM (x : Option (Int64 × Sto)) (y : Option (Int64 × (Sto × Lng))) : Prop := ∃ r s' m' L', x = some (r, s') ∧ y = some (r, (m', L')) ∧ RS s' m' L'
theorem out01 {x : Int32} : outB x 0 1 = false ↔ x = 0 ∨ x = 1 := by
  constructor
  · intro h
    have h1 := outB_f h
    have h0 : (0 : Int32).toInt = 0 := by decide +kernel
    have ha : (1 : Int32).toInt = 1 := by decide +kernel
    rw [h0, ha] at h1
    simp only [i_eq, h0, ha]
    omega
  · rintro (rfl | rfl) <;> decide +kernel
theorem op_part {s m : Sto} {L : Lng} (h : RS s m L) (x : Int32) : OPM (f_T_part s x) (f_m_part (m, L) x) := by
  obtain ⟨f0, f1⟩ := h.2.2.1
  simp only [f_T_part, f_m_part, out_C, bP_s, bad_C, bad_M, bI_s, upI, Option.map]
  cases hx : outB x 0 1 with
  | true =>
    have n : ¬ (x = 0 ∨ x = 1) := fun z => by rw [out01.mpr z] at hx; cases hx
    rw [if_neg b2t, if_neg (fun z => n (Or.inl z)), if_neg (fun z => n (Or.inr z))]
    exact ⟨_, _, _, _, rfl, rfl, h.ref 0 (by decide)⟩
  | false =>
    rw [if_pos b2f]
    rcases out01.mp hx with rfl | rfl
    · rw [if_pos rfl, if_pos rfl, f0]; exact ⟨_, _, _, _, rfl, rfl, h⟩
    · rw [if_neg (by decide +kernel), if_neg (by decide +kernel), if_pos rfl, f1]; exact ⟨_, _, _, _, rfl, rfl, h⟩
