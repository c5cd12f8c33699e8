/-! both, then, keep, lasts -/
def bsN (e : HEnv) (m : M5) : Nat → Nat → Int32 → Int32
  | 0, _, x => x
  | r + 1, a, x => bsN e m r (a + 1) (if lwV e m (nI a) = 3 then x ||| (1 <<< (nI a &&& 31)) else x)
theorem bsN_0 (e : HEnv) (m : M5) (a : Nat) (x : Int32) : bsN e m 0 a x = x := rfl
theorem bsN_s (e : HEnv) (m : M5) (r a : Nat) (x : Int32) : bsN e m (r + 1) a x = bsN e m r (a + 1) (if lwV e m (nI a) = 3 then x ||| (1 <<< (nI a &&& 31)) else x) := rfl
theorem c8 : (8 : Int32) = nI 8 := by decide +kernel
theorem bs_C {s : Sto} {c i n : Nat} (he : okE n (eC s c)) (hm : okM n (gC s i)) (hp : prd (gC s i)) : ∀ (r a fuel : Nat) (x : Int32), a + r = 8 → r < fuel → fx fuel (l_Co_actsOfBoth_4 s c i) (fun _ _ => none) x (nI a) = some (bsN (eC s c) (gC s i) r a x)
  | 0, a, fuel, x, h, hf => by
    obtain ⟨f, rfl⟩ : ∃ f, fuel = f + 1 := ⟨fuel - 1, by omega⟩
    rw [fx_s]
    rw [l_Co_actsOfBoth_4]
    rw [show a = 8 by omega, if_pos (by decide +kernel), bsN_0]
  | r + 1, a, fuel, x, h, hf => by
    obtain ⟨f, rfl⟩ : ∃ f, fuel = f + 1 := ⟨fuel - 1, by omega⟩
    rw [fx_s, bsN_s, ← bs_C he hm hp r (a + 1) f _ (by omega) (by omega)]
    rw [l_Co_actsOfBoth_4]
    rw [if_neg (by rw [c8]; exact nI_ge (by omega) (by omega)), lw_C he hm hp, bP_s, jn_e, nI_1]
    by_cases h3 : lwV (eC s c) (gC s i) (nI a) = 3
    · rw [if_pos h3, if_pos h3, lt_e]
    · rw [if_neg h3, if_neg h3]
theorem bs_M {m : Sto} {n : Nat} (he : okE n (eM m)) (hm : okM n (gM m)) (hp : prd (gM m)) : ∀ (r a fuel : Nat) (x : Int32), a + r = 8 → r < fuel → fx fuel (l_m_bothSet_4 m) (fun _ _ => none) x (nI a) = some (bsN (eM m) (gM m) r a x)
  | 0, a, fuel, x, h, hf => by
    obtain ⟨f, rfl⟩ : ∃ f, fuel = f + 1 := ⟨fuel - 1, by omega⟩
    rw [fx_s]
    rw [l_m_bothSet_4]
    rw [show a = 8 by omega, if_pos (by decide +kernel), bsN_0]
  | r + 1, a, fuel, x, h, hf => by
    obtain ⟨f, rfl⟩ : ∃ f, fuel = f + 1 := ⟨fuel - 1, by omega⟩
    rw [fx_s, bsN_s, ← bs_M he hm hp r (a + 1) f _ (by omega) (by omega)]
    rw [l_m_bothSet_4]
    rw [if_neg (by rw [c8]; exact nI_ge (by omega) (by omega)), lw_M he hm hp, bP_s, jn_e, nI_1]
    by_cases h3 : lwV (eM m) (gM m) (nI a) = 3
    · simp only [if_pos h3, lt_e]
    · simp only [if_neg h3, lt_e, or_z]
theorem eqE.bs {k : Nat} {e e' : HEnv} (h : eqE k e e') {m : M5} (hm : okM k m) (hp : prd m) : ∀ (r a : Nat) (x : Int32), bsN e m r a x = bsN e' m r a x
  | 0, _, _ => rfl
  | r + 1, a, x => by rw [bsN_s, bsN_s, h.lw hm hp, h.bs hm hp r (a + 1)]
theorem abt_C {s : Sto} {c i n : Nat} (he : okE n (eC s c)) (hm : okM n (gC s i)) (hp : prd (gC s i)) : f_Co_actsOfBoth s c i = some (bsN (eC s c) (gC s i) 8 0 0) := by
  have h := bs_C he hm hp 8 0 1000 0 (by omega) (by omega)
  unfold f_Co_actsOfBoth
  rw [nI_0] at h
  exact h
theorem abt_M {m : Sto} {n : Nat} (he : okE n (eM m)) (hm : okM n (gM m)) (hp : prd (gM m)) : f_m_bothSet m = some (bsN (eM m) (gM m) 8 0 0) := by
  have h := bs_M he hm hp 8 0 1000 0 (by omega) (by omega)
  unfold f_m_bothSet
  rw [nI_0] at h
  exact h
theorem eqE.of4 {n : Nat} {e e' : HEnv} (q : ∀ j k, k < 4 → e' j k = e j k) : eqE n e' e := fun j _ k hk => q j k hk
theorem th_M {n : Nat} (m : Sto) (v0 : M5) (he : okE n (eM m)) {N : Nat} (hN : N < 1000) (K : Sto → Option (Int32 × Sto)) : ∀ (r a fuel : Nat) (v : M5), a + r = N → r < fuel → okM n v → fx fuel (l_m_then_21 (nI N) K) (fun _ _ => none) (pM (l5 m 31 0 v0) v) (nI a) = K (pM (l5 m 31 0 v0) (pdN (eM m) r v))
  | 0, a, fuel, v, h, hf, ho => by
    obtain ⟨f, rfl⟩ : ∃ f, fuel = f + 1 := ⟨fuel - 1, by omega⟩
    rw [fx_s]
    rw [l_m_then_21]
    rw [if_pos ((nI_leI (by omega) (by omega)).mpr (by omega))]
    exact congrArg (fun z => K (pM (l5 m 31 0 v0) z)) (show v = pdN (eM m) 0 v from rfl)
  | r + 1, a, fuel, v, h, hf, ho => by
    obtain ⟨f, rfl⟩ : ∃ f, fuel = f + 1 := ⟨fuel - 1, by omega⟩
    have he' : okE n (eM (pM (l5 m 31 0 v0) v)) := by rw [eM_pM']; exact he.k (eM_l5 m v0)
    have hg' : grV (eM (pM (l5 m 31 0 v0) v)) v = grV (eM m) v := by rw [eM_pM']; exact grV.k (eM_l5 m v0) v
    have e : pdV (eM (pM (l5 m 31 0 v0) v)) v = pdV (eM m) v := by unfold pdV; rw [hg']
    have ih := th_M m v0 he hN K r (a + 1) f (pdV (eM m) v) (by omega) (by omega) (pdV_ok ho)
    rw [fx_s]
    rw [l_m_then_21]
    rw [if_neg (fun z => by have := (nI_leI (by omega) (by omega)).mp z; omega), pd_M he' (by rw [gM_pM]; exact ho), bV_s, gM_pM, pM_pM, nI_1, e]
    exact ih
theorem then_both : @l_m_both_33 = @l_m_then_21 := rfl
theorem thn_M {n : Nat} {m : Sto} (he : okE n (eM m)) (ho : okM n (gM m)) {N : Nat} (hN : N < 1000) (K : Sto → Option (Int32 × Sto)) : fx 1000 (l_m_then_21 (nI N) K) (fun _ _ => none) (l5 m 31 0 (gM m)) 0 = K (pM (l5 m 31 0 (gM m)) (pdN (eM m) N (gM m))) := by
  have h := th_M m (gM m) he hN K N 0 1000 (gM m) (by omega) (by omega) ho
  rw [put_M, nI_0] at h
  exact h
theorem out_nI {n : Int32} {b : Nat} (c : Int32) (hc : c.toInt = b) (h : outB n 0 c = false) : n = nI (ix n) ∧ ix n ≤ b := by
  have hb := outB_f h
  have h1 : (0 : Int32).toInt = 0 := by decide +kernel
  rw [h1, hc] at hb
  have hx := ix_toInt (x := n) (by omega)
  exact ⟨of_ix (by omega), by omega⟩
theorem pas_C {s : Sto} {n N : Nat} (v : M5) (hc : HC n s 0) (he : okE n (eC s 0)) (hm : okS n v) (hN : N < 1000) : f_Co_passDays (pC s 36 v) 0 36 (nI N) = some (pC s 36 (pdN (eC s 0) N v)) := by
  rw [pdn_C (n := n) (by unfold HC; rw [pC_k (by decide)]; exact hc) (by rw [eC_pC]; exact he) (by rw [gC_pC]; exact hm) hN, eC_pC, gC_pC, pC_pC]
theorem op_then {s m : Sto} {L : Lng} (h : RS s m L) (n : Int32) : OPI (f_T_then s n) (f_m_then m n) L := by
  obtain ⟨e1, w1, w1m, e4, e5, k1, k2, o1, o2⟩ := h.fx
  have om : okM (ix (s 1 0 5)) (gM m) := by rw [← e4]; exact o1
  unfold f_T_then f_m_then
  rw [out_C, in_M, bP_s, bP_s]
  cases hn : outB n 0 90 with
  | true => rw [if_neg b2t, Bool.not_true, if_pos b2f, bad_C, bad_M]; exact op_bad h _
  | false =>
    obtain ⟨en, hx⟩ := out_nI (b := 90) 90 (by decide +kernel) hn
    have ec := pas_C (s := s) (N := ix n) (gC s 0) h.hc k1 h.os (by omega)
    have et := thn_M (N := ix n) k2 om (by omega)
    rw [← en] at ec et
    rw [if_pos b2f, Bool.not_false, if_neg b2t, mbe_C, bV_s, ec, bV_s, ly31, bV_s, jn_e, et, lt_e, bk_M, bV_s, put_M, pC_0, pM_2, e5.pdn _ o1, e4]
    exact ⟨_, _, _, rfl, rfl, (h.trial _ 36 (by decide)).m31 (l5_31 m (gM m))⟩
theorem op_both {s m : Sto} {L : Lng} (h : RS s m L) (n : Int32) : OPI (f_T_both s n) (f_m_both m n) L := by
  obtain ⟨e1, w1, w1m, e4, e5, k1, k2, o1, o2⟩ := h.fx
  have om : okM (ix (s 1 0 5)) (gM m) := by rw [← e4]; exact o1
  unfold f_T_both f_m_both
  rw [out_C, in_M, h.pr, pr_m, e4, bP_s, bP_s, bP_s, bP_s]
  cases hn : outB n 0 60 with
  | true => rw [if_neg b2t, Bool.not_true, if_pos b2f, bad_C, bad_M]; exact op_bad h _
  | false =>
    rw [if_pos b2f, Bool.not_false, if_neg b2t]
    by_cases hp : mp (gM m) = -1
    · rw [decide_eq_true hp, Bool.not_true, if_pos b2f, if_pos b2f, no_C, no_M]; exact op_no h _
    · obtain ⟨en, hx⟩ := out_nI (b := 60) 60 (by decide +kernel) hn
      have ec := pas_C (s := s) (N := ix n) (gC s 0) h.hc k1 h.os (by omega)
      have et := thn_M (N := ix n) k2 om (by omega)
      rw [← en] at ec et
      have hpc : prd (gC s 0) := by unfold prd; rw [e4]; exact hp
      have eb := abt_C (s := pC s 36 (pdN (eC s 0) (ix n) (gC s 0))) (c := 0) (i := 36) (n := ix (s 1 0 5)) (by rw [eC_pC]; exact k1) (by rw [gC_pC]; exact pdN_ok _ o1) (by rw [gC_pC]; exact pdN_prd _ hpc)
      have em := abt_M (m := pM (l5 m 31 0 (gM m)) (pdN (eM m) (ix n) (gM m))) (n := ix (s 1 0 5)) (by rw [eM_pM']; exact k2.k (eM_l5 m _)) (by rw [gM_pM]; exact pdN_ok _ om) (by rw [gM_pM]; exact pdN_prd _ hp)
      rw [eC_pC, gC_pC] at eb
      rw [eM_pM', gM_pM] at em
      have q := e5.bs (pdN_ok (e := eC s 0) (ix n) o1) (pdN_prd (e := eC s 0) (ix n) hpc) 8 0 0
      have q2 := (eqE.of4 (n := ix (s 1 0 5)) (eM_l5 m (gM m))).bs (pdN_ok (e := eM m) (ix n) om) (pdN_prd (e := eM m) (ix n) hp) 8 0 0
      rw [decide_eq_false hp, Bool.not_false, if_neg b2t, if_neg b2t, mbe_C, bV_s, ec, bV_s, eb, bP_s, ly31, bV_s, jn_e, then_both, et, em, bP_s, bk_M, bV_s, put_M]
      refine ⟨_, _, _, rfl, ?_, (h.trial _ 36 (by decide)).m31 (l5_31 m (gM m))⟩
      rw [q, q2, e5.pdn _ o1, e4]
/-- the quarrel stays r days -/
def sqN (g : Int32) : Nat → Int32 → Bool
  | 0, w => !decide (w < 10)
  | r + 1, w => if w < 10 then false else sqN g r (kp (w + g))
theorem sqN_0 (g w : Int32) : sqN g 0 w = !decide (w < 10) := rfl
theorem sqN_s (g : Int32) (r : Nat) (w : Int32) : sqN g (r + 1) w = if w < 10 then false else sqN g r (kp (w + g)) := rfl
theorem sqN_dt (g : Int32) : ∀ (r R a : Nat) (w : Int32), r < R → sqN g r w = decide (a + r < dtN g R a w)
  | 0, R, a, w, h => by
    obtain ⟨R, rfl⟩ : ∃ k, R = k + 1 := ⟨R - 1, by omega⟩
    rw [sqN_0, dtN_s]
    by_cases hw : w < 10
    · rw [if_pos hw, decide_eq_true hw, decide_eq_false (by omega)]; rfl
    · rw [if_neg hw, decide_eq_false hw, decide_eq_true (by have := (dtN_le g R (a + 1) (kp (w + g))).1; omega)]; rfl
  | r + 1, R, a, w, h => by
    obtain ⟨R, rfl⟩ : ∃ k, R = k + 1 := ⟨R - 1, by omega⟩
    rw [sqN_s, dtN_s]
    by_cases hw : w < 10
    · rw [if_pos hw, if_pos hw, decide_eq_false (by omega)]
    · rw [if_neg hw, if_neg hw, sqN_dt g r R (a + 1) (kp (w + g)) (by omega), show a + 1 + r = a + (r + 1) by omega]
def sqK (s3 : Sto) : Option (Int32 × Sto) := bP (f_Mo_friendly s3 36) (fun r5 => if r5 = (0 : Int32) then some ((1 : Int32), s3) else some ((0 : Int32), s3))
theorem sq_C (g : Int32) (s : Sto) {N : Nat} (hN : N < 1000) : ∀ (r a fuel : Nat) (m : M5), a + r = N → r < fuel → ∃ v, fx fuel (l_T_staysQuarrelled_25 g (nI N) sqK) (fun _ _ => none) (pC s 36 m) (nI a) = some (b2 (sqN g r (mw m)), pC s 36 v)
  | 0, a, fuel, m, h, hf => by
    obtain ⟨f, rfl⟩ : ∃ f, fuel = f + 1 := ⟨fuel - 1, by omega⟩
    refine ⟨m, ?_⟩
    rw [fx_s]
    rw [l_T_staysQuarrelled_25]
    unfold sqK
    rw [if_pos ((nI_leI (by omega) (by omega)).mpr (by omega)), fr_C, bP_s, pC_0, sqN_0]
    by_cases hw : mw m < 10
    · rw [decide_eq_true hw, if_neg b2t]; rfl
    · rw [decide_eq_false hw, if_pos b2f]; rfl
  | r + 1, a, fuel, m, h, hf => by
    obtain ⟨f, rfl⟩ : ∃ f, fuel = f + 1 := ⟨fuel - 1, by omega⟩
    rw [fx_s]
    rw [l_T_staysQuarrelled_25]
    rw [if_neg (fun z => by have := (nI_leI (by omega) (by omega)).mp z; omega), fr_C, bP_s, pC_0, sqN_s]
    by_cases hw : mw m < 10
    · refine ⟨m, ?_⟩
      rw [decide_eq_true hw, if_neg b2t, if_pos hw]; rfl
    · obtain ⟨v, ih⟩ := sq_C g s hN r (a + 1) f (wrm m g) (by omega) (by omega)
      refine ⟨v, ?_⟩
      rw [decide_eq_false hw, if_pos b2f, if_neg hw, wm_C, bV_s, gC_pC, pC_pC, nI_1]
      exact ih
theorem sq_def (s : Sto) (x1 x2 x3 : Int32) : f_T_staysQuarrelled s x1 x2 x3 = bV (f_Mo_become s 36 0) (fun s1 => bV (f_Mo_warm s1 36 x1) (fun s2 => fx 1000 (l_T_staysQuarrelled_25 x2 x3 sqK) (fun _ _ => none) s2 (0 : Int32))) := by
  unfold f_T_staysQuarrelled jn sqK
  rfl
theorem stq_C (g : Int32) (s : Sto) (v0 : M5) (fed : Int32) {N : Nat} (hN : N < 91) : ∃ v, f_T_staysQuarrelled (pC s 36 v0) fed g (nI N) = some (b2 (decide (N < dtN g 91 0 (kp (mw (gC s 0) + fed)))), pC s 36 v) := by
  obtain ⟨v, h⟩ := sq_C g s (N := N) (by omega) N 0 1000 (wrm (gC s 0) fed) (by omega) (by omega)
  refine ⟨v, ?_⟩
  have e0 : gC (pC s 36 v0) 0 = gC s 0 := gC_k (pC_i (by decide))
  rw [sq_def, mbe_C, bV_s, wm_C, bV_s, gC_pC, pC_pC, pC_pC, e0, ← nI_0]
  refine h.trans ?_
  have e := sqN_dt g N 91 0 (mw (wrm (gC s 0) fed)) hN
  rw [Nat.zero_add] at e
  rw [e]
  rfl
/-- the least food, from a on -/
def kpN (g w : Int32) (N : Nat) : Nat → Nat → Int32
  | 0, _ => -1
  | r + 1, a => if N < dtN g 91 0 (kp (w + nI a)) then nI a else kpN g w N r (a + 1)
theorem kpN_0 (g w : Int32) (N a : Nat) : kpN g w N 0 a = -1 := rfl
theorem kpN_s (g w : Int32) (N r a : Nat) : kpN g w N (r + 1) a = if N < dtN g 91 0 (kp (w + nI a)) then nI a else kpN g w N r (a + 1) := rfl
theorem c99 : (99 : Int32) = nI 99 := by decide +kernel
theorem kl_C (g : Int32) (s : Sto) {N : Nat} (hN : N < 91) : ∀ (r a fuel : Nat) (v0 : M5), a + r = 100 → r < fuel → ∃ v, fx fuel (l_T_keep_32 (nI N) g) (fun _ _ => none) (pC s 36 v0) (nI a) = some (kpN g (mw (gC s 0)) N r a, pC s 36 v)
  | 0, a, fuel, v0, h, hf => by
    obtain ⟨f, rfl⟩ : ∃ f, fuel = f + 1 := ⟨fuel - 1, by omega⟩
    refine ⟨v0, ?_⟩
    rw [fx_s]
    rw [l_T_keep_32]
    rw [show a = 100 by omega, if_pos (by decide +kernel), kpN_0]
  | r + 1, a, fuel, v0, h, hf => by
    obtain ⟨f, rfl⟩ : ∃ f, fuel = f + 1 := ⟨fuel - 1, by omega⟩
    have n99 : ¬ (99 : Int32) < nI a := by
      rw [c99, i_lt, nI_toInt (by omega), nI_toInt (by omega)]; omega
    obtain ⟨v, hv⟩ := stq_C g s v0 (nI a) hN
    rw [fx_s, kpN_s]
    rw [l_T_keep_32]
    rw [if_neg n99, hv, bI_s]
    by_cases hd : N < dtN g 91 0 (kp (mw (gC s 0) + nI a))
    · refine ⟨v, ?_⟩
      rw [decide_eq_true hd, if_neg b2t, if_pos hd]
    · obtain ⟨v2, ih⟩ := kl_C g s hN r (a + 1) f v (by omega) (by omega)
      refine ⟨v2, ?_⟩
      rw [decide_eq_false hd, if_pos b2f, if_neg hd, nI_1]
      exact ih
theorem wbk (m : Sto) (v : M5) (w : Int32) : st (l5 (st m 17 0 2 w) 31 0 v) 17 0 2 (m 17 0 2) = l5 m 31 0 v := by
  funext k' i' x
  by_cases h : k' = 17
  · subst h
    rw [l5_k (by decide)]
    by_cases h2 : i' = 0 ∧ x = 2
    · obtain ⟨rfl, rfl⟩ := h2
      rw [st_v, if_pos ⟨rfl, rfl, rfl⟩]
    · rw [st_v, if_neg (fun z => h2 z.2), l5_k (by decide), st_v, if_neg (fun z => h2 z.2)]
  · rw [st_k h]
    unfold l5
    simp only [st]
    by_cases h3 : k' = 31
    · subst h3; simp
    · simp [h3, h]
theorem kl_M {n : Nat} (m0 : Sto) (he : okE n (eM m0)) (ho : okM n (gM m0)) {N : Nat} (hN : N < 91) : ∀ (r a fuel : Nat) (m : Sto), a + r = 100 → r < fuel → M31 m0 m → ∃ m', M31 m0 m' ∧ fx fuel (l_m_keep_25 (nI N) (mw (gM m0))) (fun _ _ _ => none) m (-1) (nI a) = some (kpN (grV (eM m0) (gM m0)) (mw (gM m0)) N r a, m')
  | 0, a, fuel, m, h, hf, hm => by
    obtain ⟨f, rfl⟩ : ∃ f, fuel = f + 1 := ⟨fuel - 1, by omega⟩
    refine ⟨m, hm, ?_⟩
    rw [fx_s]
    rw [l_m_keep_25]
    rw [show a = 100 by omega, if_pos (by decide +kernel), kpN_0]
  | r + 1, a, fuel, m, h, hf, hm => by
    obtain ⟨f, rfl⟩ : ∃ f, fuel = f + 1 := ⟨fuel - 1, by omega⟩
    have n99 : ¬ (99 : Int32) < nI a := by
      rw [c99, i_lt, nI_toInt (by omega), nI_toInt (by omega)]; omega
    have g0 : gM m = gM m0 := hm.g
    have w0 : mw (gM m0) = m 17 0 2 := by rw [← g0]; rfl
    have gz : gM (st m 17 0 2 (kp (mw (gM m0) + nI a))) = (kp (mw (gM m0) + nI a), md (gM m0), mo (gM m0), mp (gM m0), mq (gM m0)) := by
      rw [pM_w, gM_pM, g0]
    have q4 : ∀ j k, k < 4 → eM (st m 17 0 2 (kp (mw (gM m0) + nI a))) j k = eM m0 j k := fun j k hk => by
      rw [← hm.e j k hk]
      exact eM_k (fun k _ _ => st_k (by omega)) hk
    have hd := dtl_M (m := st m 17 0 2 (kp (mw (gM m0) + nI a))) (he.k q4) (by rw [gz]; exact ho)
    have hg : grV (eM (st m 17 0 2 (kp (mw (gM m0) + nI a)))) (gM (st m 17 0 2 (kp (mw (gM m0) + nI a)))) = grV (eM m0) (gM m0) := by
      rw [grV.k q4, gz]; rfl
    have hw : mw (gM (st m 17 0 2 (kp (mw (gM m0) + nI a)))) = kp (mw (gM m0) + nI a) := by rw [gz]; rfl
    rw [hg, hw] at hd
    have hb : ∀ v, st (l5 (st m 17 0 2 (kp (mw (gM m0) + nI a))) 31 0 v) 17 0 2 (mw (gM m0)) = l5 m 31 0 v := fun v => by
      rw [w0]; exact wbk m v _
    rw [fx_s, kpN_s]
    rw [l_m_keep_25]
    rw [if_neg n99, if_pos rfl, kp_M, bP_s, lt_e, hd, bI_s, jn_e]
    simp only [lt_e, hb, nI_1]
    have hl := (dtN_le (grV (eM m0) (gM m0)) 91 0 (kp (mw (gM m0) + nI a))).2
    have h31 := hm.tr (l5_31 m (gM (st m 17 0 2 (kp (mw (gM m0) + nI a)))))
    by_cases hq : N < dtN (grV (eM m0) (gM m0)) 91 0 (kp (mw (gM m0) + nI a))
    · have nle : ¬ nI (dtN (grV (eM m0) (gM m0)) 91 0 (kp (mw (gM m0) + nI a))) ≤ nI N := by
        rw [i_le, nI_toInt (by omega), nI_toInt (by omega)]; omega
      rw [if_neg nle, if_pos hq]
      refine ⟨_, h31, ?_⟩
      obtain ⟨f, rfl⟩ : ∃ k, f = k + 1 := ⟨f - 1, by omega⟩
      rw [fx_s, l_m_keep_25]
      by_cases ha : (99 : Int32) < nI (a + 1)
      · rw [if_pos ha]
      · have na : ¬ nI a = -1 := by
          rw [i_eq, nI_toInt (by omega), show (-1 : Int32).toInt = -1 by decide +kernel]; omega
        rw [if_neg ha, if_neg na]
    · have yle : nI (dtN (grV (eM m0) (gM m0)) 91 0 (kp (mw (gM m0) + nI a))) ≤ nI N := by
        rw [i_le, nI_toInt (by omega), nI_toInt (by omega)]; omega
      rw [if_pos yle, if_neg hq]
      exact kl_M m0 he ho hN r (a + 1) f _ (by omega) (by omega) h31
theorem op_keep {s m : Sto} {L : Lng} (h : RS s m L) (n : Int32) : OPI (f_T_keep s n) (f_m_keep m n) L := by
  obtain ⟨e1, w1, w1m, e4, e5, k1, k2, o1, o2⟩ := h.fx
  have om : okM (ix (s 1 0 5)) (gM m) := by rw [← e4]; exact o1
  unfold f_T_keep f_m_keep
  rw [out_C, in_M, bP_s, bP_s]
  cases hn : outB n 1 60 with
  | true => rw [if_neg b2t, Bool.not_true, if_pos b2f, bad_C, bad_M]; exact op_bad h _
  | false =>
    have hb := outB_f hn
    have h1 : (1 : Int32).toInt = 1 := by decide +kernel
    have h60 : (60 : Int32).toInt = 60 := by decide +kernel
    rw [h1, h60] at hb
    have hx := ix_toInt (x := n) (by omega)
    have en : n = nI (ix n) := of_ix (by omega)
    obtain ⟨v, hc⟩ := kl_C (grV (eC s 0) (gC s 0)) s (N := ix n) (by omega) 100 0 1000 (gC s 36) (by omega) (by omega)
    obtain ⟨m', h31, hm⟩ := kl_M m k2 om (N := ix n) (by omega) 100 0 1000 m (by omega) (by omega) (M31.rf m)
    rw [pC_gC, ← en, nI_0] at hc
    rw [← en, nI_0] at hm
    rw [if_pos b2f, Bool.not_false, if_neg b2t, gr_C h.hc k1 h.os, bP_s, hc, lt_e]
    refine ⟨_, _, _, rfl, hm.trans ?_, (h.trial v 36 (by decide)).m31 h31⟩
    rw [e5.gr o1, e4]
