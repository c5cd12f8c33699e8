/-! undo; looks ahead: both, friends, then -/
theorem RK_pop {s m : Sto} (h : RK s m) {z : Int32} (hz9 : inb z 9) (hz : ix z ≤ ix (s 1 0 7)) : RK (st s 1 0 7 z) (st m 17 0 27 z) := by
  obtain ⟨⟨e1, e2, e3, e4, e5, e6, e7⟩, w1, w2, w3, w4, w5, w6, w7, w8⟩ := h
  have a1 : xh (crC (st s 1 0 7 z) 0) = xh (crC s 0) := show st s 1 0 7 z 1 0 5 = s 1 0 5 by rw [st_v, if_neg (by omega)]
  have a2 : xn (crC (st s 1 0 7 z) 0) = xn (crC s 0) := show st s 1 0 7 z 1 0 6 = s 1 0 6 by rw [st_v, if_neg (by omega)]
  have a3 : xp (crC (st s 1 0 7 z) 0) = z := show st s 1 0 7 z 1 0 7 = z by rw [st_v, if_pos ⟨rfl, rfl, rfl⟩]
  have a4 : xm (crC (st s 1 0 7 z) 0) = xm (crC s 0) := show gC (st s 1 0 7 z) 0 = gC s 0 from gC_st (by decide)
  have a5 : ∀ j k, xe (crC (st s 1 0 7 z) 0) j k = xe (crC s 0) j k := fun j k => show st s 1 0 7 z 2 (6 * 0 + j) k = s 2 (6 * 0 + j) k by rw [st_k (by decide)]
  have a6 : ∀ j k, xt (crC (st s 1 0 7 z) 0) j k = xt (crC s 0) j k := fun j k => show st s 1 0 7 z 3 (6 * 0 + j) k = s 3 (6 * 0 + j) k by rw [st_k (by decide)]
  have a7 : ∀ j, xa (crC (st s 1 0 7 z) 0) j = xa (crC s 0) j := fun j => show gC (st s 1 0 7 z) (4 + 8 * 0 + j) = gC s (4 + 8 * 0 + j) from gC_st (by decide)
  have b1 : xh (crM m) = xh (crM (st m 17 0 27 z)) := show m 17 0 1 = st m 17 0 27 z 17 0 1 by rw [st_v, if_neg (by omega)]
  have b2' : xn (crM m) = xn (crM (st m 17 0 27 z)) := show m 17 0 7 = st m 17 0 27 z 17 0 7 by rw [st_v, if_neg (by omega)]
  have b3 : z = xp (crM (st m 17 0 27 z)) := show z = st m 17 0 27 z 17 0 27 by rw [st_v, if_pos ⟨rfl, rfl, rfl⟩]
  have b4 : xm (crM m) = xm (crM (st m 17 0 27 z)) := show gM m = gM (st m 17 0 27 z) from (gM_x (by decide)).symm
  have hz' : ix z ≤ ix (xp (crC s 0)) := hz
  refine ⟨⟨a1.trans (e1.trans b1), a2.trans (e2.trans b2'), a3.trans b3, a4.trans (e4.trans b4), ?_, ?_, ?_⟩, ?_, ?_, ?_, ⟨?_, ?_⟩, ?_, ?_, ?_, ?_⟩
  · rw [a1]
    intro j hj k hk
    rw [a5, e5 j hj k hk]
    show m (19 + k) 0 j = st m 17 0 27 z (19 + k) 0 j
    rw [st_k (by omega)]
  · rw [a2]
    intro j hj k hk
    rw [a6, e6 j hj k hk]
    show m (23 + k) 0 j = st m 17 0 27 z (23 + k) 0 j
    rw [st_k (by omega)]
  · rw [a3]
    intro j hj
    rw [a7, e7 j (by omega)]
    show aM m j = aM (st m 17 0 27 z) j
    unfold aM
    rw [st_k (by decide)]
  · rw [a1]; exact w1
  · rw [a2]; exact w2
  · rw [a3]; exact hz9
  · rw [a1]; exact w4.1
  · rw [a1]; intro j hj; rw [a5]; exact w4.2 j hj
  · rw [a1, a4]; exact w5
  · rw [a4]; exact w6
  · rw [a2]; intro j hj; rw [a6]; exact w7 j hj
  · rw [a3, a1]; intro j hj; rw [a7]; exact w8 j (by omega)
theorem less1 {x : Int32} {n : Nat} (h : inb x n) (hn : n ≤ 1000) (h0 : ¬ x = 0) : inb (x - 1) n ∧ ix (x - 1) + 1 = ix x ∧ x - 1 = nI (ix (x - 1)) := by
  have h1 : (1 : Int32).toInt = 1 := by decide +kernel
  have h2 : (0 : Int32).toInt = 0 := by decide +kernel
  rw [i_eq, h2] at h0
  have a := h.1
  have b := h.2
  have e : (x - 1).toInt = x.toInt - 1 := by
    rw [i_sub (by rw [h1]; omega) (by rw [h1]; omega), h1]
  have p : 0 ≤ (x - 1).toInt := by omega
  refine ⟨⟨p, by omega⟩, ?_, of_ix p⟩
  have q1 := ix_toInt p
  have q2 := ix_toInt a
  omega
theorem pC_1 (s : Sto) (i : Nat) (v : M5) : pC s i v 4 i 1 = md v := by unfold pC; rw [if_pos ⟨rfl, rfl⟩, if_neg (by decide), if_pos rfl]
theorem pM_3 (s : Sto) (v : M5) : pM s v 17 0 3 = md v := by unfold pM; rw [if_pos ⟨rfl, rfl⟩, if_neg (by decide), if_pos rfl]
theorem inb_sub {x : Int32} {a b : Nat} (h : inb x a) (hi : ix x < b) : inb x b := ⟨h.1, by have := ix_toInt h.1; omega⟩
theorem op_undo {s m : Sto} {L : Lng} (h : RS s m L) : OPI (f_T_undo s) (f_m_undo m) L := by
  have e3 : s 1 0 7 = m 17 0 27 := h.1.1.2.2.1
  have w3 : inb (s 1 0 7) 9 := h.1.2.2.2.1
  have pos : (0 : Int32) < s 1 0 7 ↔ ¬ s 1 0 7 = 0 := by
    have h2 : (0 : Int32).toInt = 0 := by decide +kernel
    have a := w3.1
    rw [i_lt, i_eq, h2]
    omega
  unfold f_T_undo f_m_undo f_Co_goBack
  rw [← e3]
  by_cases h0 : s 1 0 7 = 0
  · rw [if_neg (fun z => pos.mp z h0), if_pos h0, no_C, no_M]; exact op_no h _
  · have l1 := less1 w3 (by decide) h0
    have i8 : inb (s 1 0 7 - 1) 8 := inb_sub l1.1 (by have := inb_ix w3; omega)
    have hi := inb_ix i8
    have k1 := RK_pop h.1 l1.1 (by omega)
    have a7 : st s 1 0 7 (s 1 0 7 - 1) 1 0 7 = s 1 0 7 - 1 := by rw [st_v, if_pos ⟨rfl, rfl, rfl⟩]
    have b7 : st m 17 0 27 (s 1 0 7 - 1) 17 0 27 = s 1 0 7 - 1 := by rw [st_v, if_pos ⟨rfl, rfl, rfl⟩]
    have e5 : (5 : Int32) = nI 5 := by decide +kernel
    have m5 : (5 : Int32) * (s 1 0 7 - 1) = nI (5 * ix (s 1 0 7 - 1)) := by
      rw [l1.2.2, e5, pk_mul, ix_nI (by omega)]
    rw [if_pos (pos.mpr h0), if_pos (pos.mpr h0), if_neg h0, lt_e, lt_e, a7, b7, if_pos i8, mbe_C, bV_s, bV_s, m5, tk30 (by omega), bV_s, pC_1, pM_3]
    have v1 : gC (st s 1 0 7 (s 1 0 7 - 1)) (4 + 8 * 0 + ix (s 1 0 7 - 1)) = gC s (4 + 8 * 0 + ix (s 1 0 7 - 1)) := gC_st (by decide)
    have v2 : mI (st m 17 0 27 (s 1 0 7 - 1) 30 0) (5 * ix (s 1 0 7 - 1)) = aM m (ix (s 1 0 7 - 1)) := by rw [aM_mI, st_k (by decide)]
    have v3 : gC s (4 + 8 * 0 + ix (s 1 0 7 - 1)) = aM m (ix (s 1 0 7 - 1)) := h.1.1.2.2.2.2.2.2 _ (show ix (s 1 0 7 - 1) < ix (s 1 0 7) by omega)
    have v4 : okS (ix (s 1 0 5)) (gC s (4 + 8 * 0 + ix (s 1 0 7 - 1))) ∧ in8 (mo (gC s (4 + 8 * 0 + ix (s 1 0 7 - 1)))) := h.1.2.2.2.2.2.2.2.2 _ (show ix (s 1 0 7 - 1) < ix (s 1 0 7) by omega)
    have c5 : st s 1 0 7 (s 1 0 7 - 1) 1 0 5 = s 1 0 5 := by rw [st_v, if_neg (by omega)]
    rw [v1, v2, v3]
    rw [v3] at v4
    refine ⟨_, _, _, rfl, rfl, h.of (RK_now k1 (by rw [c5]; exact v4.1) v4.2) ?_ ?_⟩
    · exact (st_KC (by unfold NK; omega) (by decide) (by decide)).tr (pC_KC (by unfold NK; omega))
    · exact (st_KM17 (by decide)).tr pM_KM
/-! scratch: what no one reads later -/
theorem RS.trial {s m : Sto} {L : Lng} (h : RS s m L) (v : M5) (i : Nat) (hi : 36 ≤ i) : RS (pC s i v) m L := by
  have q : ∀ k j, ¬ (k = 4 ∧ j = i) → pC s i v k j = s k j := fun k j n => by
    by_cases e : k = 4
    · subst e; exact pC_i (fun z => n ⟨rfl, z⟩)
    · rw [pC_k e]
  refine h.of (h.1.keep (crC_k ?_ ?_ ?_ ?_ ?_) (eqR.rf _)) (pC_KC (by unfold NK; omega)) (KM.rf m)
  · exact q _ _ (by omega)
  · exact fun j hj => q _ _ (by omega)
  · exact fun j hj => q _ _ (by omega)
  · exact q _ _ (by omega)
  · exact fun j hj => q _ _ (by omega)
def M31 (m m' : Sto) : Prop := ∀ k, k ≠ 31 → m' k = m k
theorem M31.rf (m : Sto) : M31 m m := fun _ _ => rfl
theorem M31.tr {a b c : Sto} (h : M31 a b) (g : M31 b c) : M31 a c := fun k hk => (g k hk).trans (h k hk)
theorem RS.m31 {s m m' : Sto} {L : Lng} (h : RS s m L) (q : M31 m m') : RS s m' L := by
  refine h.of (h.1.keep (crC_k rfl (fun _ _ => rfl) (fun _ _ => rfl) rfl (fun _ _ => rfl)) (crM_k (fun x _ => by rw [q 17 (by decide)]) (fun k hk => by rw [q k (by omega)]))) (KC.rf s) ⟨by rw [q 17 (by decide)], q 28 (by decide), q 18 (by decide), q 35 (by decide), q 34 (by decide)⟩
theorem M31.g {m m' : Sto} (q : M31 m m') : gM m' = gM m := by unfold gM; rw [q 17 (by decide)]
theorem eM_k {m m' : Sto} (q : ∀ k, 19 ≤ k → k < 23 → m' k = m k) {j k : Nat} (hk : k < 4) : eM m' j k = eM m j k := by unfold eM; rw [q (19 + k) (by omega) (by omega)]
theorem M31.e {m m' : Sto} (q : M31 m m') : ∀ j k, k < 4 → eM m' j k = eM m j k := fun j k hk => eM_k (fun k _ _ => q k (by omega)) hk
theorem l5_31 (m : Sto) (v : M5) : M31 m (l5 m 31 0 v) := fun _ hk => l5_k hk
theorem okE.k {n : Nat} {e e' : HEnv} (h : okE n e) (q : ∀ j k, k < 4 → e' j k = e j k) : okE n e' := ⟨h.1, fun j hj => by rw [q j 0 (by decide)]; exact h.2 j hj⟩
theorem grV.k {e e' : HEnv} (q : ∀ j k, k < 4 → e' j k = e j k) (m : M5) : grV e' m = grV e m := by
  unfold grV adE
  rw [q _ 0 (by decide), q _ 0 (by decide), q _ 3 (by decide), q _ 3 (by decide)]
theorem eM_l5 (m : Sto) (v : M5) : ∀ j k, k < 4 → eM (l5 m 31 0 v) j k = eM m j k := (l5_31 m v).e
theorem bk_M (m : Sto) (v w : M5) : f_m_back (pM (l5 m 31 0 v) w) = some (pM (l5 m 31 0 v) v) := by
  rw [tk31, pM_pM, pM_k (by decide), l5_m]
theorem put_M (m : Sto) : pM (l5 m 31 0 (gM m)) (gM m) = l5 m 31 0 (gM m) := by
  have := pM_gM (l5 m 31 0 (gM m))
  rwa [gM_l5 (by decide)] at this
/-- days till friends: from day a on, with r days to look -/
def dtN (g : Int32) : Nat → Nat → Int32 → Nat
  | 0, a, _ => a
  | r + 1, a, w => if w < 10 then a else dtN g r (a + 1) (kp (w + g))
theorem dtN_0 (g : Int32) (a : Nat) (w : Int32) : dtN g 0 a w = a := rfl
theorem dtN_s (g : Int32) (r a : Nat) (w : Int32) : dtN g (r + 1) a w = if w < 10 then a else dtN g r (a + 1) (kp (w + g)) := rfl
theorem dtN_le (g : Int32) : ∀ (r a : Nat) (w : Int32), a ≤ dtN g r a w ∧ dtN g r a w ≤ a + r
  | 0, a, w => by rw [dtN_0]; omega
  | r + 1, a, w => by
    rw [dtN_s]
    by_cases h : w < 10
    · rw [if_pos h]; omega
    · rw [if_neg h]; have := dtN_le g r (a + 1) (kp (w + g)); omega
theorem fr_C (s : Sto) (i : Nat) : f_Mo_friendly s i = some (b2 (decide (s 4 i 0 < 10))) := by
  unfold f_Mo_friendly
  by_cases h : s 4 i 0 < 10
  · rw [if_neg (fun z => by rw [i_le] at z; rw [i_lt] at h; omega), decide_eq_true h]; rfl
  · rw [if_pos (by rw [i_le]; rw [i_lt] at h; omega), decide_eq_false h]; rfl
theorem c90 : (90 : Int32) = nI 90 := by decide +kernel
theorem dt_C (g : Int32) (s : Sto) : ∀ (r a fuel : Nat) (m : M5), a + r = 91 → r < fuel → ∃ v, fx fuel (l_T_daysToFriends_16 g) (fun _ _ => none) (pC s 36 m) (nI a) = some (if dtN g r a (mw m) = 91 then -1 else nI (dtN g r a (mw m)), pC s 36 v)
  | 0, a, fuel, m, h, hf => by
    obtain ⟨f, rfl⟩ : ∃ f, fuel = f + 1 := ⟨fuel - 1, by omega⟩
    refine ⟨m, ?_⟩
    rw [fx_s]
    unfold l_T_daysToFriends_16
    rw [show a = 91 by omega, if_pos (by decide +kernel), dtN_0, if_pos rfl]
  | r + 1, a, fuel, m, h, hf => by
    obtain ⟨f, rfl⟩ : ∃ f, fuel = f + 1 := ⟨fuel - 1, by omega⟩
    have n90 : ¬ (90 : Int32) < nI a := by
      rw [c90, i_lt, nI_toInt (by omega), nI_toInt (by omega)]; omega
    rw [fx_s]
    unfold l_T_daysToFriends_16
    rw [if_neg n90, fr_C, bP_s, pC_0, dtN_s]
    by_cases hw : mw m < 10
    · refine ⟨m, ?_⟩
      rw [decide_eq_true hw, if_neg b2t, if_pos hw, if_neg (by omega)]
    · obtain ⟨v, ih⟩ := dt_C g s r (a + 1) f (wrm m g) (by omega) (by omega)
      refine ⟨v, ?_⟩
      rw [decide_eq_false hw, if_pos b2f, if_neg hw, wm_C, bV_s, gC_pC, pC_pC, nI_1]
      exact ih
theorem dtf_C (s : Sto) (g : Int32) : ∃ v, f_T_daysToFriends s g = some (if dtN g 91 0 (mw (gC s 0)) = 91 then -1 else nI (dtN g 91 0 (mw (gC s 0))), pC s 36 v) := by
  obtain ⟨v, h⟩ := dt_C g s 91 0 1000 (gC s 0) (by omega) (by omega)
  refine ⟨v, ?_⟩
  unfold f_T_daysToFriends
  rw [mbe_C, bV_s, ← nI_0]
  exact h
theorem dt_M {n : Nat} (g : Int32) (m : Sto) (v0 : M5) (he : okE n (eM m)) : ∀ (r a fuel : Nat) (v : M5), a + r = 91 → r < fuel → okM n v → grV (eM m) v = g → fx fuel l_m_daysTill_6 (fun _ _ => none) (pM (l5 m 31 0 v0) v) (nI a) = some (nI (dtN g r a (mw v)), pM (l5 m 31 0 v0) v0)
  | 0, a, fuel, v, h, hf, ho, hg => by
    obtain ⟨f, rfl⟩ : ∃ f, fuel = f + 1 := ⟨fuel - 1, by omega⟩
    rw [fx_s]
    unfold l_m_daysTill_6
    rw [show a = 91 by omega, if_pos (by decide +kernel), dtN_0, bk_M, bV_s]
  | r + 1, a, fuel, v, h, hf, ho, hg => by
    obtain ⟨f, rfl⟩ : ∃ f, fuel = f + 1 := ⟨fuel - 1, by omega⟩
    have n90 : ¬ (90 : Int32) < nI a := by
      rw [c90, i_lt, nI_toInt (by omega), nI_toInt (by omega)]; omega
    rw [fx_s]
    unfold l_m_daysTill_6
    rw [if_neg n90, dtN_s, pM_2]
    by_cases hw : mw v < 10
    · rw [if_pos hw, if_pos hw, bk_M, bV_s]
    · have he' : okE n (eM (pM (l5 m 31 0 v0) v)) := by rw [eM_pM']; exact he.k (eM_l5 m v0)
      have ih := dt_M g m v0 he r (a + 1) f (pdV (eM m) v) (by omega) (by omega) (pdV_ok ho) hg
      have hg' : grV (eM (pM (l5 m 31 0 v0) v)) v = grV (eM m) v := by rw [eM_pM']; exact grV.k (eM_l5 m v0) v
      rw [if_neg hw, if_neg hw, pd_M he' (by rw [gM_pM]; exact ho), bV_s, gM_pM, pM_pM, nI_1]
      have e : pdV (eM (pM (l5 m 31 0 v0) v)) v = pdV (eM m) v := by unfold pdV; rw [hg']
      rw [e]
      refine ih.trans ?_
      have e2 : mw (pdV (eM m) v) = kp (mw v + g) := by rw [← hg]; rfl
      rw [e2]
theorem dtl_M {n : Nat} {m : Sto} (he : okE n (eM m)) (ho : okM n (gM m)) : f_m_daysTill m = some (nI (dtN (grV (eM m) (gM m)) 91 0 (mw (gM m))), l5 m 31 0 (gM m)) := by
  have h := dt_M (grV (eM m) (gM m)) m (gM m) he 91 0 1000 (gM m) (by omega) (by omega) ho rfl
  unfold f_m_daysTill
  rw [ly31, bV_s, ← nI_0]
  rw [put_M] at h
  exact h
theorem op_friends {s m : Sto} {L : Lng} (h : RS s m L) : OPI (f_T_friends s) (f_m_friends m) L := by
  obtain ⟨e1, w1, w1m, e4, e5, k1, k2, o1, o2⟩ := h.fx
  have om : okM (ix (s 1 0 5)) (gM m) := by rw [← e4]; exact o1
  obtain ⟨v, hv⟩ := dtf_C s (grV (eC s 0) (gC s 0))
  have eg : grV (eC s 0) (gC s 0) = grV (eM m) (gM m) := by rw [e5.gr o1, e4]
  unfold f_T_friends f_m_friends
  rw [gr_C h.hc k1 h.os, bP_s, hv, bI_s, dtl_M k2 om, bI_s, eg, e4]
  have hd := (dtN_le (grV (eM m) (gM m)) 91 0 (mw (gM m))).2
  generalize dtN (grV (eM m) (gM m)) 91 0 (mw (gM m)) = d at hd ⊢
  have hR := (h.trial v 36 (by decide)).m31 (l5_31 m (gM m))
  by_cases hq : d = 91
  · rw [if_pos hq, if_neg (fun z => by rw [c90, i_le, nI_toInt (by omega), nI_toInt (by omega)] at z; omega)]
    exact ⟨_, _, _, rfl, rfl, hR⟩
  · rw [if_neg hq, if_pos (by rw [c90, i_le, nI_toInt (by omega), nI_toInt (by omega)]; omega)]
    exact ⟨_, _, _, rfl, rfl, hR⟩
