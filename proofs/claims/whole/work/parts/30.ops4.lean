/-! pair, ask, day, feed, undo -/
theorem RK_now {s m : Sto} (h : RK s m) {v : M5} (ok : okS (ix (s 1 0 5)) v) (o8 : in8 (mo v)) : RK (pC s 0 v) (pM m v) := by
  obtain ⟨⟨e1, e2, e3, e4, e5, e6, e7⟩, w1, w2, w3, w4, w5, w6, w7, w8⟩ := h
  have a1 : xh (crC (pC s 0 v) 0) = xh (crC s 0) := show pC s 0 v 1 0 5 = s 1 0 5 by rw [pC_k (by decide)]
  have a2 : xn (crC (pC s 0 v) 0) = xn (crC s 0) := show pC s 0 v 1 0 6 = s 1 0 6 by rw [pC_k (by decide)]
  have a3 : xp (crC (pC s 0 v) 0) = xp (crC s 0) := show pC s 0 v 1 0 7 = s 1 0 7 by rw [pC_k (by decide)]
  have a4 : xm (crC (pC s 0 v) 0) = v := show gC (pC s 0 v) 0 = v from gC_pC s 0 v
  have a5 : ∀ j k, xe (crC (pC s 0 v) 0) j k = xe (crC s 0) j k := fun j k => show pC s 0 v 2 (6 * 0 + j) k = s 2 (6 * 0 + j) k by rw [pC_k (by decide)]
  have a6 : ∀ j k, xt (crC (pC s 0 v) 0) j k = xt (crC s 0) j k := fun j k => show pC s 0 v 3 (6 * 0 + j) k = s 3 (6 * 0 + j) k by rw [pC_k (by decide)]
  have a7 : ∀ j, xa (crC (pC s 0 v) 0) j = xa (crC s 0) j := fun j => show gC (pC s 0 v) (4 + 8 * 0 + j) = gC s (4 + 8 * 0 + j) from gC_k (pC_i (by omega))
  have nx : ∀ x, x ≠ 2 ∧ x ≠ 3 ∧ x ≠ 4 ∧ x ≠ 5 ∧ x ≠ 6 → m 17 0 x = pM m v 17 0 x := fun x hx => by
    obtain ⟨q1, q2, q3, q4, q5⟩ := hx
    unfold pM
    rw [if_pos ⟨rfl, rfl⟩, if_neg q1, if_neg q2, if_neg q3, if_neg q4, if_neg q5]
  have b4 : v = xm (crM (pM m v)) := show v = gM (pM m v) from (gM_pM m v).symm
  refine ⟨⟨a1.trans (e1.trans (nx 1 (by decide))), a2.trans (e2.trans (nx 7 (by decide))), a3.trans (e3.trans (nx 27 (by decide))), a4.trans b4, ?_, ?_, ?_⟩, ?_, ?_, ?_, ⟨?_, ?_⟩, ?_, ?_, ?_, ?_⟩
  · rw [a1]
    intro j hj k hk
    rw [a5, e5 j hj k hk]
    show m (19 + k) 0 j = pM m v (19 + k) 0 j
    rw [pM_k (by omega)]
  · rw [a2]
    intro j hj k hk
    rw [a6, e6 j hj k hk]
    show m (23 + k) 0 j = pM m v (23 + k) 0 j
    rw [pM_k (by omega)]
  · rw [a3]
    intro j hj
    rw [a7, e7 j hj]
    show aM m j = aM (pM m v) j
    unfold aM
    rw [pM_k (by decide)]
  · rw [a1]; exact w1
  · rw [a2]; exact w2
  · rw [a3]; exact w3
  · rw [a1]; exact w4.1
  · rw [a1]; intro j hj; rw [a5]; exact w4.2 j hj
  · rw [a1, a4]; exact ok
  · rw [a4]; exact o8
  · rw [a2]; intro j hj; rw [a6]; exact w7 j hj
  · rw [a3, a1]; intro j hj; rw [a7]; exact w8 j hj
theorem xm_rem (x : CR) : xm (remX x) = xm x ∧ xh (remX x) = xh x := by
  by_cases e : xp x = 8
  · rw [remX_8 e]; exact ⟨rfl, rfl⟩
  · rw [remX_n e]; exact ⟨rfl, rfl⟩
theorem rem_RS {s m : Sto} {L : Lng} (h : RS s m L) : ∃ s1 m1, f_Co_remember s 0 = some s1 ∧ f_m_notes m = some m1 ∧ RS s1 m1 L ∧ s1 1 0 5 = s 1 0 5 ∧ gC s1 0 = gC s 0 ∧ gM m1 = gM m := by
  obtain ⟨s1, p1, p2, p3⟩ := rem_C h.1.2
  obtain ⟨m1, q1, q2, q3⟩ := rem_M (h.1.1.wf h.1.2)
  refine ⟨s1, m1, p1, q1, h.of ⟨p2.sm.tr ((remX_eq h.1.1 h.1.2).tr q2), p2.wf (remX_wf h.1.2)⟩ p3 q3, ?_, ?_, ?_⟩
  · have := p2.1
    rw [(xm_rem _).2] at this
    exact this.symm
  · have := p2.2.2.2.1
    rw [(xm_rem _).1] at this
    exact this.symm
  · have := q2.2.2.2.1
    rw [(xm_rem _).1] at this
    exact this.symm
theorem now_RS {s m : Sto} {L : Lng} (h : RS s m L) {v : M5} (ok : okS (ix (s 1 0 5)) v) (o8 : in8 (mo v)) : RS (pC s 0 v) (pM m v) L :=
  h.of (RK_now h.1 ok o8) (pC_KC (by unfold NK; omega)) pM_KM
theorem pM_w (s : Sto) (v : Int32) : st s 17 0 2 v = pM s (v, md (gM s), mo (gM s), mp (gM s), mq (gM s)) := by
  funext k' i' y
  unfold pM
  by_cases h : k' = 17 ∧ i' = 0
  · obtain ⟨rfl, rfl⟩ := h
    simp only [and_self, if_true]
    by_cases h0 : y = 2
    · subst h0; simp [mw, st]
    by_cases h1 : y = 3
    · subst h1; simp [gM, md, st]
    by_cases h2 : y = 4
    · subst h2; simp [gM, mo, st]
    by_cases h3 : y = 5
    · subst h3; simp [gM, mp, st]
    by_cases h4 : y = 6
    · subst h4; simp [gM, mq, st]
    simp [h0, h1, h2, h3, h4, st]
  · rw [if_neg h]
    unfold st
    rw [if_neg (fun z => h ⟨z.1, z.2.1⟩)]
theorem pC_pq (s : Sto) (i : Nat) (p q : Int32) : st (st s 4 i 3 p) 4 i 4 q = pC s i (mw (gC s i), md (gC s i), mo (gC s i), p, q) := by
  funext k' i' y
  unfold pC
  by_cases h : k' = 4 ∧ i' = i
  · obtain ⟨rfl, rfl⟩ := h
    simp only [and_self, if_true]
    by_cases h0 : y = 0
    · subst h0; simp [gC, mw, st]
    by_cases h1 : y = 1
    · subst h1; simp [gC, md, st]
    by_cases h2 : y = 2
    · subst h2; simp [gC, mo, st]
    by_cases h3 : y = 3
    · subst h3; simp [mp, st]
    by_cases h4 : y = 4
    · subst h4; simp [mq, st]
    simp [h0, h1, h2, h3, h4, st]
  · rw [if_neg h]
    unfold st
    rw [if_neg (fun z => h ⟨z.1, z.2.1⟩), if_neg (fun z => h ⟨z.1, z.2.1⟩)]
theorem pM_pq (s : Sto) (p q : Int32) : st (st s 17 0 5 p) 17 0 6 q = pM s (mw (gM s), md (gM s), mo (gM s), p, q) := by
  funext k' i' y
  unfold pM
  by_cases h : k' = 17 ∧ i' = 0
  · obtain ⟨rfl, rfl⟩ := h
    simp only [and_self, if_true]
    by_cases h0 : y = 2
    · subst h0; simp [gM, mw, st]
    by_cases h1 : y = 3
    · subst h1; simp [gM, md, st]
    by_cases h2 : y = 4
    · subst h2; simp [gM, mo, st]
    by_cases h3 : y = 5
    · subst h3; simp [mp, st]
    by_cases h4 : y = 6
    · subst h4; simp [mq, st]
    simp [h0, h1, h2, h3, h4, st]
  · rw [if_neg h]
    unfold st
    rw [if_neg (fun z => h ⟨z.1, z.2.1⟩), if_neg (fun z => h ⟨z.1, z.2.1⟩)]
theorem pC_0 (s : Sto) (i : Nat) (v : M5) : pC s i v 4 i 0 = mw v := by unfold pC; rw [if_pos ⟨rfl, rfl⟩, if_pos rfl]
theorem pM_2 (s : Sto) (v : M5) : pM s v 17 0 2 = mw v := by unfold pM; rw [if_pos ⟨rfl, rfl⟩, if_pos rfl]
theorem op_feed {s m : Sto} {L : Lng} (h : RS s m L) (n : Int32) : OPI (f_T_feed s n) (f_m_feed m n) L := by
  unfold f_T_feed f_m_feed
  rw [out_C, in_M, bP_s, bP_s]
  cases outB n 1 20 with
  | true => rw [if_neg b2t, Bool.not_true, if_pos b2f, bad_C, bad_M]; exact op_bad h _
  | false =>
    obtain ⟨s1, m1, p1, q1, r1, f1, g1, g2⟩ := rem_RS h
    obtain ⟨e1, w1, w1m, e4, e5, k1, k2, o1, o2⟩ := r1.fx
    rw [if_pos b2f, Bool.not_false, if_neg b2t, p1, q1, bV_s, bV_s, wm_C, bV_s, kp_M, bP_s, lt_e, pM_w, pC_0, pM_2]
    refine ⟨_, _, _, rfl, ?_, now_RS (v := wrm (gC s1 0) n) r1 r1.os o2⟩
    unfold wrm
    rw [e4]
    rfl
theorem op_pair {s m : Sto} {L : Lng} (h : RS s m L) (p q : Int32) : OPI (f_T_pair s p q) (f_m_pair m p q) L := by
  obtain ⟨e1, w1, w1m, e4, e5, k1, k2, o1, o2⟩ := h.fx
  unfold f_T_pair f_m_pair
  rw [two_C, isH_M w1m, isH_M w1m, bP_s, bP_s, bP_s, e1]
  cases hp : hasB p (m 17 0 1) with
  | false => rw [Bool.false_and, if_pos b2f, if_pos b2f, bad_C, bad_M]; exact op_bad h _
  | true =>
    rw [Bool.true_and, if_neg b2t]
    cases hq : hasB q (m 17 0 1) with
    | false => rw [Bool.false_and, if_pos b2f, if_pos b2f, bad_C, bad_M]; exact op_bad h _
    | true =>
      rw [Bool.true_and, if_neg b2t]
      by_cases hpq : p = q
      · rw [decide_eq_true hpq, Bool.not_true, if_pos b2f, if_pos hpq, bad_C, bad_M]; exact op_bad h _
      · obtain ⟨s1, m1, p1, q1, r1, f1, g1, g2⟩ := rem_RS h
        rw [decide_eq_false hpq, Bool.not_false, if_neg b2t, if_neg hpq, p1, q1, bV_s, bV_s, lt_e, lt_e, lt_e, lt_e, pC_pq, pM_pq]
        have e4' : gC s1 0 = gM m1 := r1.fx.2.2.2.1
        refine ⟨1, _, _, rfl, ?_, now_RS (v := (mw (gC s1 0), md (gC s1 0), mo (gC s1 0), p, q)) r1 ?_ ?_⟩
        · rw [e4']
        · rw [f1, e1]
          exact ⟨Or.inr ⟨hasB_t hp, hasB_t hq⟩, Or.inr hpq⟩
        · exact r1.fx.2.2.2.2.2.2.2.2
theorem isd_C (s : Sto) (i : Nat) (act : Int32) : f_Mo_isDone s i act = some (b2 (BB (mo (gC s i)) act)) := by
  unfold f_Mo_isDone
  show (if (mo (gC s i) &&& (1 <<< (act &&& 31))) = 0 then some (0 : Int32) else some 1) = _
  by_cases h : (mo (gC s i) &&& (1 <<< (act &&& 31))) = 0
  · rw [if_pos h]; rw [BB_tst] at h; rw [h]; rfl
  · rw [if_neg h]; rw [BB_tst, Bool.not_eq_false] at h; rw [h]; rfl
theorem act8 {a : Int32} (h : outB a 0 7 = false) : inb a 8 := by
  have := outB_f h
  have h0 : (0 : Int32).toInt = 0 := by decide +kernel
  have h5 : (7 : Int32).toInt = 7 := by decide +kernel
  rw [h0, h5] at this
  exact ⟨this.1, by omega⟩
theorem or8 {x a : Int32} (hx : in8 x) (ha : inb a 8) : in8 (x ||| (1 <<< (a &&& 31))) := by
  rw [of_ix hx.1, of_ix ha.1]
  exact or8_all _ (inb_ix (n := 256) hx) _ (inb_ix ha)
theorem akV_8 {e : HEnv} {m : M5} {a : Int32} (hx : in8 (mo m)) (ha : inb a 8) : in8 (mo (akV e m a)) := by
  unfold akV
  by_cases h : lwV e m a = 3
  · rw [if_pos h]; exact or8 hx ha
  · rw [if_neg h]; exact hx
theorem op_ask {s m : Sto} {L : Lng} (h : RS s m L) (a : Int32) : OPI (f_T_ask s a) (f_m_ask m a) L := by
  obtain ⟨e1, w1, w1m, e4, e5, k1, k2, o1, o2⟩ := h.fx
  have hm4 : m 17 0 4 = mo (gM m) := rfl
  unfold f_T_ask f_m_ask
  rw [out_C, act_M, h.pr, pr_m, isd_C, has_M, hm4, e4]
  simp only [bP_s]
  cases ha : outB a 0 7 with
  | true => rw [if_neg b2t, Bool.not_true, if_pos b2f, bad_C, bad_M]; exact op_bad h _
  | false =>
    rw [if_pos b2f, Bool.not_false, if_neg b2t]
    by_cases hp : mp (gM m) = -1
    · rw [decide_eq_true hp, Bool.not_true, if_pos b2f, if_pos b2f, no_C, no_M]; exact op_no h _
    · rw [decide_eq_false hp, Bool.not_false, if_neg b2t, if_neg b2t]
      cases BB (mo (gM m)) a with
      | true => rw [if_neg b2t, if_neg b2t, no_C, no_M]; exact op_no h _
      | false =>
        obtain ⟨s1, m1, p1, q1, r1, f1, g1, g2⟩ := rem_RS h
        obtain ⟨e1, w1, w1m, e4', e5, k1, k2, o1, o2⟩ := r1.fx
        have hp1 : prd (gC s1 0) := by unfold prd; rw [e4', g2]; exact hp
        have hpm : prd (gM m1) := by unfold prd; rw [g2]; exact hp
        have om : okM (ix (s1 1 0 5)) (gM m1) := by rw [← e4']; exact o1
        rw [if_pos b2f, if_pos b2f, p1, q1, bV_s, bV_s, ak_C k1 o1 hp1, ak_M k2 om hpm, bI_s, bI_s]
        have l1 := e5.lw o1 hp1 a
        have l2 := e5.ak o1 hp1 a
        refine ⟨_, _, _, rfl, ?_, now_RS (v := akV (eC s1 0) (gC s1 0) a) r1 (akV_os r1.os) (akV_8 o2 (act8 ha))⟩
        rw [l1, l2, e4']
theorem dl_M {N : Nat} (hN : N < 1000) {n : Nat} : ∀ (r a fuel : Nat) (m : Sto), a + r = N → r < fuel → okE n (eM m) → okM n (gM m) → fx fuel (l_m_day_21 (nI N)) (fun _ _ => none) m (nI a) = some (mw (pdN (eM m) r (gM m)), pM m (pdN (eM m) r (gM m)))
  | 0, a, fuel, m, h, hf, he, hm => by
    obtain ⟨f, rfl⟩ : ∃ f, fuel = f + 1 := ⟨fuel - 1, by omega⟩
    rw [fx_s]
    unfold l_m_day_21
    rw [if_pos ((nI_leI (by omega) (by omega)).mpr (by omega))]
    have e : pM m (pdN (eM m) 0 (gM m)) = m := pM_gM m
    rw [e]
    rfl
  | r + 1, a, fuel, m, h, hf, he, hm => by
    obtain ⟨f, rfl⟩ : ∃ f, fuel = f + 1 := ⟨fuel - 1, by omega⟩
    rw [fx_s]
    unfold l_m_day_21
    rw [if_neg (fun z => by have := (nI_leI (by omega) (by omega)).mp z; omega), pd_M he hm, bV_s, nI_1]
    have ih := dl_M hN r (a + 1) f (pM m (pdV (eM m) (gM m))) (by omega) (by omega) (by rw [eM_pM']; exact he) (by rw [gM_pM]; exact pdV_ok hm)
    unfold l_m_day_21 at ih
    rw [ih, gM_pM, pM_pM, eM_pM']
    rfl
theorem op_day {s m : Sto} {L : Lng} (h : RS s m L) (n : Int32) : OPI (f_T_day s n) (f_m_day m n) L := by
  unfold f_T_day f_m_day
  rw [out_C, in_M, bP_s, bP_s]
  cases hn : outB n 1 60 with
  | true => rw [if_neg b2t, Bool.not_true, if_pos b2f, bad_C, bad_M]; exact op_bad h _
  | false =>
    obtain ⟨s1, m1, p1, q1, r1, f1, g1, g2⟩ := rem_RS h
    obtain ⟨e1, w1, w1m, e4, e5, k1, k2, o1, o2⟩ := r1.fx
    have hb := outB_f hn
    have h1 : (1 : Int32).toInt = 1 := by decide +kernel
    have h60 : (60 : Int32).toInt = 60 := by decide +kernel
    rw [h1, h60] at hb
    have hx := ix_toInt (x := n) (by omega)
    have en : n = nI (ix n) := of_ix (by omega)
    have om : okM (ix (s1 1 0 5)) (gM m1) := by rw [← e4]; exact o1
    have ed := dl_M (N := ix n) (by omega) (ix n) 0 1000 m1 (by omega) (by omega) k2 om
    rw [nI_0, ← en] at ed
    have ec := pdn_C (N := ix n) r1.hc k1 r1.os (by omega)
    rw [← en] at ec
    rw [if_pos b2f, Bool.not_false, if_neg b2t, p1, q1, bV_s, bV_s, ec, bV_s, ed, pC_0]
    have l := e5.pdn (ix n) o1
    refine ⟨_, _, _, rfl, ?_, now_RS (v := pdN (eC s1 0) (ix n) (gC s1 0)) r1 (pdN_os _ r1.os) ?_⟩
    · rw [l, e4]
    · rw [(pdN_pq _ _ _).1]; exact o2
