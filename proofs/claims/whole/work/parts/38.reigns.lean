/-! reigns -/
theorem l_bmod {z : Int} (h1 : -9223372036854775808 ≤ z) (h2 : z < 9223372036854775808) : z.bmod (2 ^ 64) = z := Int.bmod_eq_of_le (by omega) (by omega)
theorem l_add {x y : Int64} (h1 : -9223372036854775808 ≤ x.toInt + y.toInt) (h2 : x.toInt + y.toInt < 9223372036854775808) : (x + y).toInt = x.toInt + y.toInt := by
  rw [Int64.toInt_add]; exact l_bmod h1 h2
theorem l_sub {x y : Int64} (h1 : -9223372036854775808 ≤ x.toInt - y.toInt) (h2 : x.toInt - y.toInt < 9223372036854775808) : (x - y).toInt = x.toInt - y.toInt := by
  rw [Int64.toInt_sub]; exact l_bmod h1 h2
theorem l_mul {x y : Int64} (h1 : -9223372036854775808 ≤ x.toInt * y.toInt) (h2 : x.toInt * y.toInt < 9223372036854775808) : (x * y).toInt = x.toInt * y.toInt := by
  rw [Int64.toInt_mul]; exact l_bmod h1 h2
theorem l_div {x y : Int64} (hx : 0 ≤ x.toInt) (hy : 0 < y.toInt) : (x / y).toInt = x.toInt / y.toInt := by
  have hr := Int64.toInt_lt x
  have h1 : 0 ≤ x.toInt / y.toInt := Int.ediv_nonneg hx (by omega)
  have h2 : x.toInt / y.toInt ≤ x.toInt := Int.ediv_le_self _ hx
  rw [Int64.toInt_div, Int.tdiv_eq_ediv_of_nonneg hx]
  exact l_bmod (by omega) (by omega)
theorem l_rem {x y : Int64} (hx : 0 ≤ x.toInt) (hy : 0 < y.toInt) : (x - x / y * y).toInt = x.toInt % y.toInt := by
  have hr := Int64.toInt_lt x
  have hd := l_div hx hy
  have e := Int.mul_ediv_add_emod x.toInt y.toInt
  have m0 := Int.emod_nonneg x.toInt (show y.toInt ≠ 0 by omega)
  have m1 := Int.emod_lt_of_pos x.toInt hy
  have c : y.toInt * (x.toInt / y.toInt) = x.toInt / y.toInt * y.toInt := Int.mul_comm _ _
  have p0 : 0 ≤ x.toInt / y.toInt * y.toInt := Int.mul_nonneg (Int.ediv_nonneg hx (by omega)) (by omega)
  have hm : (x / y * y).toInt = x.toInt / y.toInt * y.toInt := by
    rw [l_mul (by rw [hd]; omega) (by rw [hd]; omega), hd]
  rw [l_sub (by rw [hm]; omega) (by rw [hm]; omega), hm]
  omega
def rgX (x : Int64) : Int64 := ((x * (1103515245 : Int64)) + (12345 : Int64)) - ((x * (1103515245 : Int64)) + (12345 : Int64)) / (2147483648 : Int64) * (2147483648 : Int64)
def rgA (x : Int64) : Int32 := Int64.toInt32 ((x / (65536 : Int64)) - (x / (65536 : Int64)) / (8 : Int64) * (8 : Int64))
def okX (x : Int64) : Prop := 0 ≤ x.toInt ∧ x.toInt < 2147483648
theorem lLit : (1103515245 : Int64).toInt = 1103515245 ∧ (12345 : Int64).toInt = 12345 ∧ (2147483648 : Int64).toInt = 2147483648 ∧ (65536 : Int64).toInt = 65536 ∧ (8 : Int64).toInt = 8 := by decide +kernel
theorem rgX_ok {x : Int64} (h : okX x) : okX (rgX x) := by
  obtain ⟨h0, h1⟩ := h
  have e1 : (x * 1103515245).toInt = x.toInt * 1103515245 := by
    rw [l_mul (by rw [lLit.1]; omega) (by rw [lLit.1]; omega), lLit.1]
  have e2 : (x * 1103515245 + 12345).toInt = x.toInt * 1103515245 + 12345 := by
    rw [l_add (by rw [e1, lLit.2.1]; omega) (by rw [e1, lLit.2.1]; omega), e1, lLit.2.1]
  have e3 := l_rem (x := x * 1103515245 + 12345) (y := 2147483648) (by rw [e2]; omega) (by rw [lLit.2.2.1]; omega)
  rw [e2, lLit.2.2.1] at e3
  unfold okX rgX
  rw [e3]
  omega
theorem rgA_ok {x : Int64} (h : okX x) : inb (rgA x) 8 := by
  obtain ⟨h0, h1⟩ := h
  have e1 : (x / 65536).toInt = x.toInt / 65536 := by
    rw [l_div h0 (by rw [lLit.2.2.2.1]; omega), lLit.2.2.2.1]
  have e2 := l_rem (x := x / 65536) (y := 8) (by rw [e1]; omega) (by rw [lLit.2.2.2.2]; omega)
  rw [lLit.2.2.2.2] at e2
  have e3 : (rgA x).toInt = (x / 65536).toInt % 8 := by
    unfold rgA
    rw [Int64.toInt_toInt32, e2]
    exact i_bmod (by omega) (by omega)
  unfold inb
  rw [e3]
  omega
theorem seed_ok {x : Int32} (h : outB x 0 999999 = false) : okX x.toInt64 := by
  have hb := outB_f h
  have h1 : (0 : Int32).toInt = 0 := by decide +kernel
  have h2 : (999999 : Int32).toInt = 999999 := by decide +kernel
  rw [h1, h2] at hb
  unfold okX
  rw [Int32.toInt_toInt64]
  omega
def rgV (e : HEnv) (v : M5) (act : Int32) : M5 := pdV e (if BB (mo v) act = false then akV e v act else v)
def rgG (X : Int64 → Int64) (A : Int64 → Int32) (e : HEnv) : Nat → Int64 → M5 → M5
  | 0, _, v => v
  | r + 1, x, v => rgG X A e r (X x) (rgV e v (A (X x)))
theorem rgG_0 (X : Int64 → Int64) (A : Int64 → Int32) (e : HEnv) (x : Int64) (v : M5) : rgG X A e 0 x v = v := rfl
theorem rgG_s (X : Int64 → Int64) (A : Int64 → Int32) (e : HEnv) (r : Nat) (x : Int64) (v : M5) : rgG X A e (r + 1) x v = rgG X A e r (X x) (rgV e v (A (X x))) := rfl
def rgN (e : HEnv) (r : Nat) (x : Int64) (v : M5) : M5 := rgG rgX rgA e r x v
theorem rgN_0 (e : HEnv) (x : Int64) (v : M5) : rgN e 0 x v = v := by unfold rgN; rw [rgG_0]
theorem rgN_s (e : HEnv) (r : Nat) (x : Int64) (v : M5) : rgN e (r + 1) x v = rgN e r (rgX x) (rgV e v (rgA (rgX x))) := by unfold rgN; rw [rgG_s]
theorem rgX_e (x : Int64) : ((x * (1103515245 : Int64)) + (12345 : Int64)) - ((x * (1103515245 : Int64)) + (12345 : Int64)) / (2147483648 : Int64) * (2147483648 : Int64) = rgX x := by unfold rgX; rfl
theorem rgA_e (x : Int64) : Int64.toInt32 ((x / (65536 : Int64)) - (x / (65536 : Int64)) / (8 : Int64) * (8 : Int64)) = rgA x := by unfold rgA; rfl
theorem rgV_ok {n : Nat} {e : HEnv} {v : M5} {a : Int32} (h : okM n v) : okM n (rgV e v a) := by
  unfold rgV
  by_cases q : BB (mo v) a = false
  · rw [if_pos q]; exact pdV_ok (akV_ok h)
  · rw [if_neg q]; exact pdV_ok h
theorem rgV_os {n : Nat} {e : HEnv} {v : M5} {a : Int32} (h : okS n v) : okS n (rgV e v a) := by
  unfold rgV
  by_cases q : BB (mo v) a = false
  · rw [if_pos q]; exact pdV_os (akV_os h)
  · rw [if_neg q]; exact pdV_os h
theorem rgV_prd {e : HEnv} {v : M5} {a : Int32} (h : prd v) : prd (rgV e v a) := by
  unfold rgV
  by_cases q : BB (mo v) a = false
  · rw [if_pos q]; exact pdV_prd (akV_prd h)
  · rw [if_neg q]; exact pdV_prd h
theorem pdV_mo (e : HEnv) (v : M5) : mo (pdV e v) = mo v := rfl
theorem rgV_8 {e : HEnv} {v : M5} {a : Int32} (h : in8 (mo v)) (ha : inb a 8) : in8 (mo (rgV e v a)) := by
  unfold rgV
  rw [pdV_mo]
  by_cases q : BB (mo v) a = false
  · rw [if_pos q]; exact akV_8 h ha
  · rw [if_neg q]; exact h
theorem eqE.rg {k : Nat} {e e' : HEnv} (h : eqE k e e') {v : M5} (hm : okM k v) (hp : prd v) (a : Int32) : rgV e v a = rgV e' v a := by
  unfold rgV
  by_cases q : BB (mo v) a = false
  · rw [if_pos q, if_pos q, h.ak hm hp, h.ps (akV_ok hm)]
  · rw [if_neg q, if_neg q, h.ps hm]
theorem eqE.rgn {k : Nat} {e e' : HEnv} (h : eqE k e e') : ∀ (r : Nat) (x : Int64) {v : M5}, okM k v → prd v → rgN e r x v = rgN e' r x v
  | 0, _, _, _, _ => by rw [rgN_0, rgN_0]
  | r + 1, x, v, hm, hp => by rw [rgN_s, rgN_s, h.rg hm hp, h.rgn r _ (rgV_ok hm) (rgV_prd hp)]
theorem rgN_8 {e : HEnv} : ∀ (r : Nat) {x : Int64} {v : M5}, okX x → in8 (mo v) → in8 (mo (rgN e r x v))
  | 0, _, _, _, h => by rw [rgN_0]; exact h
  | r + 1, x, v, hx, h => by rw [rgN_s]; exact rgN_8 r (rgX_ok hx) (rgV_8 h (rgA_ok (rgX_ok hx)))
theorem rg_C {s : Sto} {n N : Nat} (hc : HC n s 0) (he : okE n (eC s 0)) (hN : N < 1000) : ∀ (r a fuel : Nat) (x : Int64) (v : M5), a + r = N → r < fuel → okS n v → prd v → fx fuel (l_T_reigns_68 (nI N)) (fun _ _ _ => none) (pC s 36 v) x (nI a) = some (popc (mo (rgN (eC s 0) r x v)), pC s 36 (rgN (eC s 0) r x v))
  | 0, a, fuel, x, v, h, hf, hm, hp => by
    obtain ⟨f, rfl⟩ : ∃ f, fuel = f + 1 := ⟨fuel - 1, by omega⟩
    have e : pC s 36 v 4 36 2 = mo v := congrArg mo (gC_pC s 36 v)
    rw [fx_s, l_T_reigns_68, if_pos ((nI_leI (by omega) (by omega)).mpr (by omega)), e, popc_J, bP_s, rgN_0]
  | r + 1, a, fuel, x, v, h, hf, hm, hp => by
    obtain ⟨f, rfl⟩ : ∃ f, fuel = f + 1 := ⟨fuel - 1, by omega⟩
    have ih := rg_C hc he hN r (a + 1) f (rgX x) (rgV (eC s 0) v (rgA (rgX x))) (by omega) (by omega) (rgV_os hm) (rgV_prd hp)
    have e1 : (1 : Int32) = nI 1 := by decide +kernel
    have ps : ∀ w, okS n w → f_Co_passDays (pC s 36 w) 0 36 1 = some (pC s 36 (pdV (eC s 0) w)) := fun w hw => by
      rw [e1]; exact pas_C w hc he hw (by omega)
    rw [fx_s, l_T_reigns_68, if_neg (fun z => by have := (nI_leI (by omega) (by omega)).mp z; omega), lt_e, lt_e, rgX_e, rgA_e, isd_C, gC_pC, bP_s, jn_e, rgN_s, nI_1]
    refine Eq.trans ?_ ih
    unfold rgV
    by_cases q : BB (mo v) (rgA (rgX x)) = false
    · rw [q, if_pos b2f, if_pos rfl]
      have ak := ak_C (s := pC s 36 v) (c := 0) (i := 36) (n := n) (by rw [eC_pC]; exact he) (by rw [gC_pC]; exact hm.1) (by rw [gC_pC]; exact hp) (rgA (rgX x))
      rw [eC_pC, gC_pC, pC_pC] at ak
      rw [ak, bI_s]
      dsimp only
      rw [ps _ (akV_os hm), bV_s]
    · rw [if_neg q]
      rw [Bool.not_eq_false] at q
      rw [q, if_neg b2t]
      dsimp only
      rw [ps _ hm, bV_s]
theorem rg_M {m : Sto} {n N : Nat} (v0 : M5) (he : okE n (eM m)) (hN : N < 1000) (K : Sto → Option (Int32 × Sto)) : ∀ (r a fuel : Nat) (x : Int64) (v : M5), a + r = N → r < fuel → okM n v → prd v → fx fuel (l_m_reigns_48 (nI N) K) (fun _ _ _ => none) (pM (l5 m 31 0 v0) v) x (nI a) = K (pM (l5 m 31 0 v0) (rgN (eM m) r x v))
  | 0, a, fuel, x, v, h, hf, hm, hp => by
    obtain ⟨f, rfl⟩ : ∃ f, fuel = f + 1 := ⟨fuel - 1, by omega⟩
    rw [fx_s, l_m_reigns_48, if_pos ((nI_leI (by omega) (by omega)).mpr (by omega)), rgN_0]
  | r + 1, a, fuel, x, v, h, hf, hm, hp => by
    obtain ⟨f, rfl⟩ : ∃ f, fuel = f + 1 := ⟨fuel - 1, by omega⟩
    have ih := rg_M v0 he hN K r (a + 1) f (rgX x) (rgV (eM m) v (rgA (rgX x))) (by omega) (by omega) (rgV_ok hm) (rgV_prd hp)
    have q4 := eM_l5 m v0
    have e4 : eqE n (eM (l5 m 31 0 v0)) (eM m) := eqE.of4 q4
    have ps : ∀ w, okM n w → f_m_pass (pM (l5 m 31 0 v0) w) = some (pM (l5 m 31 0 v0) (pdV (eM m) w)) := fun w hw => by
      rw [pd_M (n := n) (by rw [eM_pM']; exact he.k q4) (by rw [gM_pM]; exact hw), eM_pM', gM_pM, pM_pM, e4.ps hw]
    have g4 : pM (l5 m 31 0 v0) v 17 0 4 = mo v := congrArg mo (gM_pM (l5 m 31 0 v0) v)
    rw [fx_s, l_m_reigns_48, if_neg (fun z => by have := (nI_leI (by omega) (by omega)).mp z; omega), lt_e, lt_e, rgX_e, rgA_e, has_M, g4, bP_s, jn_e, rgN_s, nI_1]
    refine Eq.trans ?_ ih
    unfold rgV
    by_cases q : BB (mo v) (rgA (rgX x)) = false
    · rw [q, if_pos b2f, if_pos rfl]
      have ak := ak_M (s := pM (l5 m 31 0 v0) v) (n := n) (by rw [eM_pM']; exact he.k q4) (by rw [gM_pM]; exact hm) (by rw [gM_pM]; exact hp) (rgA (rgX x))
      rw [eM_pM', gM_pM, pM_pM, e4.ak hm hp] at ak
      rw [ak, bI_s]
      dsimp only
      rw [ps _ (akV_ok hm), bV_s]
    · rw [if_neg q]
      rw [Bool.not_eq_false] at q
      rw [q, if_neg b2t]
      dsimp only
      rw [ps _ hm, bV_s]
theorem op_reigns {s m : Sto} {L : Lng} (h : RS s m L) (x n : Int32) : OPI (f_T_reigns s x n) (f_m_reigns m x n) L := by
  obtain ⟨e1, w1, w1m, e4, e5, k1, k2, o1, o2⟩ := h.fx
  have om : okM (ix (s 1 0 5)) (gM m) := by rw [← e4]; exact o1
  unfold f_T_reigns f_m_reigns
  simp only [out_C, in_M, h.pr, pr_m, e4, bP_s]
  cases hx : outB x 0 999999 with
  | true => rw [if_neg b2t, Bool.not_true, if_pos b2f, bad_C, bad_M]; exact op_bad h _
  | false =>
    rw [if_pos b2f, Bool.not_false, if_neg b2t]
    cases hn : outB n 0 60 with
    | true => rw [if_neg b2t, Bool.not_true, if_pos b2f, bad_C, bad_M]; exact op_bad h _
    | false =>
      rw [if_pos b2f, Bool.not_false, if_neg b2t]
      by_cases hp : mp (gM m) = -1
      · rw [decide_eq_true hp, Bool.not_true, if_pos b2f, if_pos b2f, no_C, no_M]; exact op_no h _
      · obtain ⟨en, hi⟩ := out_nI (b := 60) 60 (by decide +kernel) hn
        have hpc : prd (gC s 0) := by unfold prd; rw [e4]; exact hp
        have C := rg_C (s := s) (N := ix n) h.hc k1 (by omega) (ix n) 0 1000 x.toInt64 (gC s 0) (by omega) (by omega) h.os hpc
        have M := fun K => rg_M (m := m) (N := ix n) (gM m) k2 (by omega) K (ix n) 0 1000 x.toInt64 (gM m) (by omega) (by omega) om hp
        simp only [put_M, nI_0, ← en] at M
        rw [nI_0, ← en] at C
        rw [decide_eq_false hp, Bool.not_false, if_neg b2t, if_neg b2t, mbe_C, bV_s, lt_e, C, ly31, bV_s, lt_e, jn_e, M]
        have ev : rgN (eC s 0) (ix n) x.toInt64 (gC s 0) = rgN (eM m) (ix n) x.toInt64 (gM m) := by rw [e5.rgn _ _ o1 hpc, e4]
        have g4 : ∀ v, pM (l5 m 31 0 (gM m)) v 17 0 4 = mo v := fun v => congrArg mo (gM_pM (l5 m 31 0 (gM m)) v)
        have o8 : in8 (mo (rgN (eM m) (ix n) x.toInt64 (gM m))) := rgN_8 _ (seed_ok hx) (by rw [← e4]; exact o2)
        rw [g4, popc_M o8, bP_s, bk_M, bV_s, put_M, ev]
        exact ⟨_, _, _, rfl, rfl, (h.trial _ 36 (by decide)).m31 (l5_31 m (gM m))⟩
