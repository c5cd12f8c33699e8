/-! slips, digest -/
def OPL (x : Option (Int32 × Sto)) (y : Option (Int32 × (Sto × Lng))) : Prop := ∃ r s' m' L', x = some (r, s') ∧ y = some (r, (m', L')) ∧ RS s' m' L'
def OPD (s : Sto) (x : Option Int64) (y : Option (Int64 × (Sto × Lng))) : Prop := ∃ r m' L', x = some r ∧ y = some (r, (m', L')) ∧ RS s m' L'
theorem RS.kl {s m : Sto} {L L' : Lng} (h : RS s m L) (k : KL L L') : RS s m L' := ⟨h.1, h.2.keep (KC.rf s) (KM.rf m) k⟩
theorem RS.fr {s m : Sto} {L : Lng} (h : RS s m L) {a b : Int32} {x y : Int64} (hx : x = a.toInt64) (hy : y = b.toInt64) : RS (st (st s 0 0 10 a) 0 0 11 b) m (stl (stl L 31 x) 32 y) := by
  obtain ⟨hk, h1, h2, h3, h4, h5⟩ := h
  have q : ∀ k i, k ≠ 0 → st (st s 0 0 10 a) 0 0 11 b k i = s k i := fun k i hk => by rw [st_k hk, st_k hk]
  have c8 : ∀ c, eq8 (crC s c) (crC (st (st s 0 0 10 a) 0 0 11 b) c) := fun c => crC_k (q _ _ (by decide)) (fun j _ => q _ _ (by decide)) (fun j _ => q _ _ (by decide)) (q _ _ (by decide)) (fun j _ => q _ _ (by decide))
  refine ⟨hk.keep (c8 0) (eqR.rf _), ?_, ?_, ?_, ?_, ?_⟩
  · unfold RT; rw [q 5 0 (by decide), q 16 0 (by decide)]; exact h1
  · unfold RF
    refine ⟨?_, ?_⟩
    · show (if (31 : Nat) = 32 then y else if (31 : Nat) = 31 then x else L 31) = _
      rw [if_neg (by decide), if_pos rfl, st_v, if_neg (by decide), st_v, if_pos ⟨rfl, rfl, rfl⟩]; exact hx
    · show (if (32 : Nat) = 32 then y else _) = _
      rw [if_pos rfl, st_v, if_pos ⟨rfl, rfl, rfl⟩]; exact hy
  · unfold RR
    have z : ∀ x, x ≠ 10 → x ≠ 11 → st (st s 0 0 10 a) 0 0 11 b 0 0 x = s 0 0 x := fun x n1 n2 => by rw [st_v, if_neg (fun z => n2 z.2.2), st_v, if_neg (fun z => n1 z.2.2)]
    rw [z 12 (by decide) (by decide), z 13 (by decide) (by decide), z 14 (by decide) (by decide)]; exact h3
  · exact h4.keep (c8 _) (by rw [q 12 0 (by decide)]) rfl rfl
  · exact h5.keep (c8 _) (by rw [q 12 0 (by decide)]) rfl rfl
/-- the two loops, by what they end with -/
def glC : Nat → Int32 → Int32 → Int32 → Option Int32
  | 0, _, _, _ => none
  | f + 1, a, b, i => if (100 : Int32) ≤ i then some a else if b ≤ (0 : Int32) then some a else if ¬ b = (0 : Int32) then glC f b (a - a / b * b) (i + 1) else none
def glM : Nat → Int64 → Int64 → Option Int64
  | 0, _, _ => none
  | f + 1, a, b => if lg_cmp b (0 : Int64) = (0 : Int32) then some a else if ¬ b = (0 : Int64) then glM f b (a - a / b * b) else none
theorem gl_C (K : Int32 → Option Sto) : ∀ (f : Nat) (a b i v : Int32), glC f a b i = some v → fx f (l_T_setFraction_8 K) (fun _ _ _ => none) a b i = K v
  | 0, _, _, _, _, h => by cases h
  | f + 1, a, b, i, v, h => by
    rw [glC] at h
    rw [fx_s, l_T_setFraction_8]
    by_cases h1 : (100 : Int32) ≤ i
    · rw [if_pos h1] at h ⊢
      cases h; rfl
    · rw [if_neg h1] at h ⊢
      by_cases h2 : b ≤ (0 : Int32)
      · rw [if_pos h2] at h ⊢
        cases h; rfl
      · rw [if_neg h2] at h ⊢
        by_cases h3 : ¬ b = (0 : Int32)
        · rw [if_pos h3] at h ⊢
          rw [lt_e]
          exact gl_C K f _ _ _ v h
        · rw [if_neg h3] at h
          cases h
theorem glm_M (K : Int64 → Option (Sto × Lng)) : ∀ (f : Nat) (a b v : Int64), glM f a b = some v → fx f (l_m_lay_6 K) (fun _ _ => none) a b = K v
  | 0, _, _, _, h => by cases h
  | f + 1, a, b, v, h => by
    rw [glM] at h
    rw [fx_s, l_m_lay_6]
    by_cases h1 : lg_cmp b (0 : Int64) = (0 : Int32)
    · rw [if_pos h1] at h ⊢
      cases h; rfl
    · rw [if_neg h1] at h ⊢
      by_cases h3 : ¬ b = (0 : Int64)
      · rw [if_pos h3] at h ⊢
        rw [lt_e]
        exact glm_M K f _ _ v h
      · rw [if_neg h3] at h
        cases h
def slT (b : Bool) (j : Nat) : Int32 := if b then 10 - nI j else nI j
def slP (t : Int32) : Bool := match glC 1000 100 t 0, glM 1000 t.toInt64 100 with
  | some w, some v => decide ((0 : Int32) < w) && (!decide (w = 0) && (!decide (v = 0) && (decide (t.toInt64 / v = (t / w).toInt64) && decide ((100 : Int64) / v = ((100 : Int32) / w).toInt64))))
  | _, _ => false
theorem sl_all : ∀ b c : Bool, ∀ j, j < 11 → slP (slT b j * slT c j) = true := by decide +kernel
theorem slP_t {t : Int32} (h : slP t = true) : ∃ w v, glC 1000 100 t 0 = some w ∧ glM 1000 t.toInt64 100 = some v ∧ (0 : Int32) < w ∧ ¬ w = 0 ∧ ¬ v = 0 ∧ t.toInt64 / v = (t / w).toInt64 ∧ (100 : Int64) / v = ((100 : Int32) / w).toInt64 := by
  unfold slP at h
  cases h1 : glC 1000 100 t 0 with
  | none => rw [h1] at h; cases h
  | some w =>
    cases h2 : glM 1000 t.toInt64 100 with
    | none => rw [h1, h2] at h; cases h
    | some v =>
      rw [h1, h2] at h
      simp only [Bool.and_eq_true, decide_eq_true_eq, Bool.not_eq_true', decide_eq_false_iff_not] at h
      exact ⟨w, v, rfl, rfl, h.1, h.2.1, h.2.2.1, h.2.2.2.1, h.2.2.2.2⟩
theorem sf_RS {s m : Sto} {L : Lng} (h : RS s m L) {t : Int32} (ht : slP t = true) : ∃ s' L', f_T_setFraction s t 100 = some s' ∧ f_m_lay (m, L) t.toInt64 100 = some (m, L') ∧ RS s' m L' := by
  obtain ⟨w, v, h1, h2, h3, h4, h5, h6, h7⟩ := slP_t ht
  refine ⟨_, _, ?_, ?_, h.fr (a := t / w) (b := 100 / w) (x := t.toInt64 / v) (y := 100 / v) h6 h7⟩
  · rw [f_T_setFraction, jn_e, gl_C _ 1000 100 t 0 w h1, if_pos h3, if_pos h4, lt_e, if_pos h4, lt_e]
  · rw [f_m_lay, jn_e, glm_M _ 1000 t.toInt64 100 v h2, if_pos h5, lt_e, if_pos h5, lt_e]
theorem wh_b (a b : Bool) : ((whV a b &&& 1 = 0) ↔ a = false) ∧ ((whV a b &&& 2 = 0) ↔ b = false) := by cases a <;> cases b <;> decide +kernel
theorem op_slips {s m : Sto} {L : Lng} (h : RS s m L) (act c : Int32) : OPL (f_T_slips s act c) (f_m_slips (m, L) act c) := by
  obtain ⟨e1, w1, w1m, e4, e5, k1, k2, o1, o2⟩ := h.fx
  have om : okM (ix (s 1 0 5)) (gM m) := by rw [← e4]; exact o1
  unfold f_T_slips f_m_slips
  simp only [out_C, act_M, in_M, h.pr, pr_m, e4, bP_s]
  have bd : ∀ v : Int32, OPL (some (v, st s 0 0 12 (s 0 0 12 + 1))) (some (v, (st m 18 0 0 (m 18 0 0 + 1), L))) := fun v => ⟨v, _, _, _, rfl, rfl, h.ref 0 (by decide)⟩
  cases ha : outB act 0 7 with
  | true => rw [if_neg b2t, Bool.not_true, if_pos b2f, bad_C, bad_M]; exact bd _
  | false =>
    rw [if_pos b2f, Bool.not_false, if_neg b2t]
    cases hc : outB c 0 10 with
    | true => rw [if_neg b2t, Bool.not_true, if_pos b2f, bad_C, bad_M]; exact bd _
    | false =>
      rw [if_pos b2f, Bool.not_false, if_neg b2t]
      by_cases hp : mp (gM m) = -1
      · rw [decide_eq_true hp, Bool.not_true, if_pos b2f, if_pos b2f, no_C, no_M]
        exact ⟨_, _, _, _, rfl, rfl, h.ref 1 (by decide)⟩
      · have hpc : prd (gC s 0) := by unfold prd; rw [e4]; exact hp
        have i1 : inb (m 17 0 5) (ix (s 1 0 5)) := (om.two hp).1
        have i2 : inb (m 17 0 6) (ix (s 1 0 5)) := (om.two hp).2
        obtain ⟨ec, hx⟩ := out_nI (b := 10) 10 (by decide +kernel) hc
        have lw : lwV (eC s 0) (gC s 0) act = whV (lf1 (eM m) (m 17 0 5) act (m 17 0 2) (m 17 0 3)) (lf1 (eM m) (m 17 0 6) act (m 17 0 2) (m 17 0 3)) := by
          rw [e5.lw o1 hpc, e4]; rfl
        rw [decide_eq_false hp, Bool.not_false, if_neg b2t, if_neg b2t, lw_C k1 o1 hpc, lf_M k2 i1, lf_M k2 i2, lw]
        simp only [bP_s, jn_e, (wh_b _ _).1, (wh_b _ _).2, b2_0]
        generalize lf1 (eM m) (m 17 0 5) act (m 17 0 2) (m 17 0 3) = u
        generalize lf1 (eM m) (m 17 0 6) act (m 17 0 2) (m 17 0 3) = v
        have sl := sf_RS h (sl_all u v (ix c) (by omega))
        obtain ⟨s', L', q1, q2, q3⟩ := sl
        have t1 : ∀ b : Bool, slT b (ix c) = if b = false then c else 10 - c := fun b => by
          unfold slT; rw [← ec]; cases b <;> rfl
        rw [t1, t1] at q1 q2
        cases u <;> cases v <;> simp only [if_true, if_false, Bool.true_eq_false] at q1 q2 ⊢ <;> rw [q1, q2] <;> exact ⟨_, _, _, _, rfl, rfl, q3⟩
/-! digest -/
def mxV (h x : Int64) : Int64 := 31 * h + x
theorem mix_M (m : Sto) (L : Lng) (h x : Int64) : f_m_mix (m, stl L 35 h) x = some (m, stl L 35 (mxV h x)) := by
  have e : stl (stl L 35 h) 35 ((31 : Int64) * (stl L 35 h 35) + x) = stl L 35 (mxV h x) := by
    funext k
    unfold stl mxV
    by_cases hk : k = 35
    · rw [if_pos hk, if_pos hk, if_pos rfl]
    · rw [if_neg hk, if_neg hk, if_neg hk]
  rw [f_m_mix, lt_e]
  exact congrArg (fun z => some (m, z)) e
def dcN (c : Nat → Int32) : Nat → Nat → Int64 → Int64
  | 0, _, h => h
  | r + 1, a, h => dcN c r (a + 1) (mxV h (c a).toInt64)
theorem dcN_0 (c : Nat → Int32) (a : Nat) (h : Int64) : dcN c 0 a h = h := rfl
theorem dcN_s (c : Nat → Int32) (r a : Nat) (h : Int64) : dcN c (r + 1) a h = dcN c r (a + 1) (mxV h (c a).toInt64) := rfl
theorem dc_C {s : Sto} {c : Nat → Int32} (hc : ∀ a, a < 7 → f_T_howMany s (nI a) = some (c a)) (K : Int64 → Option Int64) : ∀ (r a fuel : Nat) (x : Int64), a + r = 7 → r < fuel → fx fuel (l_T_digest_6 s K) (fun _ _ => none) x (nI a) = K (dcN c r a x)
  | 0, a, fuel, x, h, hf => by
    obtain ⟨f, rfl⟩ : ∃ f, fuel = f + 1 := ⟨fuel - 1, by omega⟩
    rw [fx_s, l_T_digest_6, show a = 7 by omega, if_pos (by decide +kernel), dcN_0]
  | r + 1, a, fuel, x, h, hf => by
    obtain ⟨f, rfl⟩ : ∃ f, fuel = f + 1 := ⟨fuel - 1, by omega⟩
    have n6 : ¬ (6 : Int32) < nI a := by
      rw [c6, i_lt, nI_toInt (by omega), nI_toInt (by omega)]; omega
    rw [fx_s, l_T_digest_6, if_neg n6, hc a (by omega), bP_s, lt_e, nI_1, dcN_s]
    exact dc_C hc K r (a + 1) f _ (by omega) (by omega)
theorem dc_M {m : Sto} {c : Nat → Int32} (hc : ∀ a, a < 7 → f_m_countOf m (nI a) = some (c a)) (L : Lng) (K : Sto × Lng → Option (Int64 × (Sto × Lng))) : ∀ (r a fuel : Nat) (x : Int64), a + r = 7 → r < fuel → fx fuel (l_m_digest_9 K) (fun _ _ => none) (m, stl L 35 x) (nI a) = K (m, stl L 35 (dcN c r a x))
  | 0, a, fuel, x, h, hf => by
    obtain ⟨f, rfl⟩ : ∃ f, fuel = f + 1 := ⟨fuel - 1, by omega⟩
    rw [fx_s, l_m_digest_9, show a = 7 by omega, if_pos (by decide +kernel), dcN_0]
  | r + 1, a, fuel, x, h, hf => by
    obtain ⟨f, rfl⟩ : ∃ f, fuel = f + 1 := ⟨fuel - 1, by omega⟩
    have n6 : ¬ (6 : Int32) < nI a := by
      rw [c6, i_lt, nI_toInt (by omega), nI_toInt (by omega)]; omega
    rw [fx_s, l_m_digest_9, if_neg n6, hc a (by omega), bP_s, mix_M, bV_s, nI_1, dcN_s]
    exact dc_M hc L K r (a + 1) f _ (by omega) (by omega)
def dhV (e : HEnv) (a : Nat) (h : Int64) : Int64 := mxV (mxV (mxV (mxV h (e a 0).toInt64) (e a 1).toInt64) (e a 2).toInt64) (e a 3).toInt64
def dnV (t : HEnv) (a : Nat) (h : Int64) : Int64 := mxV (dhV t a h) (t a 4).toInt64
def dlN (f : Nat → Int64 → Int64) : Nat → Nat → Int64 → Int64
  | 0, _, h => h
  | r + 1, a, h => dlN f r (a + 1) (f a h)
theorem dlN_0 (f : Nat → Int64 → Int64) (a : Nat) (h : Int64) : dlN f 0 a h = h := rfl
theorem dlN_s (f : Nat → Int64 → Int64) (r a : Nat) (h : Int64) : dlN f (r + 1) a h = dlN f r (a + 1) (f a h) := rfl
theorem dlN_c {f g : Nat → Int64 → Int64} {N : Nat} (hf : ∀ a, a < N → ∀ h, f a h = g a h) : ∀ (r a : Nat) (h : Int64), a + r ≤ N → dlN f r a h = dlN g r a h
  | 0, _, _, _ => rfl
  | r + 1, a, h, q => by rw [dlN_s, dlN_s, hf a (by omega), dlN_c hf r (a + 1) _ (by omega)]
theorem dh_C {s : Sto} {N : Nat} (hn : s 1 0 5 = nI N) (h6 : N ≤ 6) (K : Int64 → Option Int64) : ∀ (r a fuel : Nat) (x : Int64), a + r = N → r < fuel → fx fuel (l_T_digest_87 s K) (fun _ _ => none) x (nI a) = K (dlN (dhV (eC s 0)) r a x)
  | 0, a, fuel, x, h, hf => by
    obtain ⟨f, rfl⟩ : ∃ f, fuel = f + 1 := ⟨fuel - 1, by omega⟩
    rw [fx_s, l_T_digest_87, hn, if_pos ((nI_leI (by omega) (by omega)).mpr (by omega)), dlN_0]
  | r + 1, a, fuel, x, h, hf => by
    obtain ⟨f, rfl⟩ : ∃ f, fuel = f + 1 := ⟨fuel - 1, by omega⟩
    have e : f_He_addTo s (6 * 0 + a) x = some (dhV (eC s 0) a x) := by
      rw [f_He_addTo, lt_e, lt_e, lt_e]; rfl
    rw [fx_s, l_T_digest_87, hn, if_neg (fun q => by have := (nI_leI (by omega) (by omega)).mp q; omega), if_pos (inb_nI (by omega) (by omega)), ix_nI (by omega), e, bL_s, nI_1, dlN_s]
    exact dh_C hn h6 K r (a + 1) f _ (by omega) (by omega)
theorem dn_C {s : Sto} {N : Nat} (hn : s 1 0 6 = nI N) (h6 : N ≤ 6) (K : Int64 → Option Int64) : ∀ (r a fuel : Nat) (x : Int64), a + r = N → r < fuel → fx fuel (l_T_digest_120 s K) (fun _ _ => none) x (nI a) = K (dlN (dnV (tC s 0)) r a x)
  | 0, a, fuel, x, h, hf => by
    obtain ⟨f, rfl⟩ : ∃ f, fuel = f + 1 := ⟨fuel - 1, by omega⟩
    rw [fx_s, l_T_digest_120, hn, if_pos ((nI_leI (by omega) (by omega)).mpr (by omega)), dlN_0]
  | r + 1, a, fuel, x, h, hf => by
    obtain ⟨f, rfl⟩ : ∃ f, fuel = f + 1 := ⟨fuel - 1, by omega⟩
    have e : f_No_addTo s (6 * 0 + a) x = some (dnV (tC s 0) a x) := by
      rw [f_No_addTo, lt_e, lt_e, lt_e, lt_e]; rfl
    rw [fx_s, l_T_digest_120, hn, if_neg (fun q => by have := (nI_leI (by omega) (by omega)).mp q; omega), if_pos (inb_nI (by omega) (by omega)), ix_nI (by omega), e, bL_s, nI_1, dlN_s]
    exact dn_C hn h6 K r (a + 1) f _ (by omega) (by omega)
theorem dh_M {m : Sto} {N : Nat} (hn : m 17 0 1 = nI N) (h6 : N ≤ 6) (L : Lng) (K : Sto × Lng → Option (Int64 × (Sto × Lng))) : ∀ (r a fuel : Nat) (x : Int64), a + r = N → r < fuel → fx fuel (l_m_digest_60 K) (fun _ _ => none) (m, stl L 35 x) (nI a) = K (m, stl L 35 (dlN (dhV (eM m)) r a x))
  | 0, a, fuel, x, h, hf => by
    obtain ⟨f, rfl⟩ : ∃ f, fuel = f + 1 := ⟨fuel - 1, by omega⟩
    have q : (m, stl L 35 x).1 17 0 1 ≤ nI a := by
      show m 17 0 1 ≤ nI a
      rw [hn]; exact (nI_leI (by omega) (by omega)).mpr (by omega)
    rw [fx_s, l_m_digest_60, if_pos q, dlN_0]
  | r + 1, a, fuel, x, h, hf => by
    obtain ⟨f, rfl⟩ : ∃ f, fuel = f + 1 := ⟨fuel - 1, by omega⟩
    have i6 := inb_nI (j := a) (n := 6) (by omega) (by omega)
    have q : ¬ (m, stl L 35 x).1 17 0 1 ≤ nI a := fun z => by
      have z' : m 17 0 1 ≤ nI a := z
      rw [hn] at z'
      have := (nI_leI (by omega) (by omega)).mp z'
      omega
    rw [fx_s, l_m_digest_60, if_neg q]
    simp only [if_pos i6, ix_nI (show a < 2147483648 by omega), mix_M, bV_s, nI_1]
    rw [dlN_s]
    exact dh_M hn h6 L K r (a + 1) f _ (by omega) (by omega)
theorem dn_M {m : Sto} {N : Nat} (hn : m 17 0 7 = nI N) (h6 : N ≤ 6) (L : Lng) (K : Sto × Lng → Option (Int64 × (Sto × Lng))) : ∀ (r a fuel : Nat) (x : Int64), a + r = N → r < fuel → fx fuel (l_m_digest_120 K) (fun _ _ => none) (m, stl L 35 x) (nI a) = K (m, stl L 35 (dlN (dnV (tM m)) r a x))
  | 0, a, fuel, x, h, hf => by
    obtain ⟨f, rfl⟩ : ∃ f, fuel = f + 1 := ⟨fuel - 1, by omega⟩
    have q : (m, stl L 35 x).1 17 0 7 ≤ nI a := by
      show m 17 0 7 ≤ nI a
      rw [hn]; exact (nI_leI (by omega) (by omega)).mpr (by omega)
    rw [fx_s, l_m_digest_120, if_pos q, dlN_0]
  | r + 1, a, fuel, x, h, hf => by
    obtain ⟨f, rfl⟩ : ∃ f, fuel = f + 1 := ⟨fuel - 1, by omega⟩
    have i6 := inb_nI (j := a) (n := 6) (by omega) (by omega)
    have q : ¬ (m, stl L 35 x).1 17 0 7 ≤ nI a := fun z => by
      have z' : m 17 0 7 ≤ nI a := z
      rw [hn] at z'
      have := (nI_leI (by omega) (by omega)).mp z'
      omega
    rw [fx_s, l_m_digest_120, if_neg q]
    simp only [if_pos i6, ix_nI (show a < 2147483648 by omega), mix_M, bV_s, nI_1]
    rw [dlN_s]
    exact dn_M hn h6 L K r (a + 1) f _ (by omega) (by omega)
theorem stl_o {L : Lng} {v : Int64} {k : Nat} (h : k ≠ 35) : stl L 35 v k = L k := by unfold stl; rw [if_neg h]
theorem stl_s (L : Lng) (v : Int64) : stl L 35 v 35 = v := by unfold stl; rw [if_pos rfl]
theorem op_digest {s m : Sto} {L : Lng} (h : RS s m L) : OPD s (f_T_digest s) (f_m_digest (m, L)) := by
  obtain ⟨e1, w1, w1m, e4, e5, k1, k2, o1, o2⟩ := h.fx
  obtain ⟨N, n6, n1, n2, n3, n4⟩ := h.nt
  obtain ⟨f0, f1⟩ := h.2.2.1
  have hn : s 1 0 5 = nI (ix (s 1 0 5)) := of_ix w1.1
  have hnm : m 17 0 1 = nI (ix (s 1 0 5)) := by rw [← e1]; exact hn
  have hc : ∀ a, a < 7 → f_T_howMany s (nI a) = some ((f_T_howMany s (nI a)).getD 0) := fun a _ => by
    obtain ⟨r, q1, q2⟩ := cnt_eq h (nI a)
    rw [q1]; rfl
  have hm : ∀ a, a < 7 → f_m_countOf m (nI a) = some ((f_T_howMany s (nI a)).getD 0) := fun a _ => by
    obtain ⟨r, q1, q2⟩ := cnt_eq h (nI a)
    rw [q1, q2]; rfl
  have g2 : s 4 0 2 = m 17 0 4 := congrArg mo e4
  have g3 : s 4 0 3 = m 17 0 5 := congrArg mp e4
  have g4 : s 4 0 4 = m 17 0 6 := congrArg mq e4
  have A := fun K => dc_C (s := s) hc K 7 0 1000 1249 (by omega) (by omega)
  have B := fun K => dc_M (m := m) hm L K 7 0 1000 1249 (by omega) (by omega)
  have A2 := fun K x => dh_C (s := s) hn k1.1 K (ix (s 1 0 5)) 0 1000 x (by omega) (by have := k1.1; omega)
  have B2 := fun K x => dh_M (m := m) hnm k1.1 L K (ix (s 1 0 5)) 0 1000 x (by omega) (by have := k1.1; omega)
  have A3 := fun K x => dn_C (s := s) n1 n6 K N 0 1000 x (by omega) (by omega)
  have B3 := fun K x => dn_M (m := m) n2 n6 L K N 0 1000 x (by omega) (by omega)
  simp only [nI_0] at A B A2 B2 A3 B3
  have eh : ∀ x, dlN (dhV (eC s 0)) (ix (s 1 0 5)) 0 x = dlN (dhV (eM m)) (ix (s 1 0 5)) 0 x := fun x => dlN_c (N := ix (s 1 0 5)) (fun a ha y => by
    unfold dhV
    rw [e5 a ha 0 (by decide), e5 a ha 1 (by decide), e5 a ha 2 (by decide), e5 a ha 3 (by decide)]) _ _ _ (by omega)
  have en : ∀ x, dlN (dnV (tC s 0)) N 0 x = dlN (dnV (tM m)) N 0 x := fun x => dlN_c (N := N) (fun a ha y => by
    unfold dnV dhV
    rw [n3 a ha 0 (by decide), n3 a ha 1 (by decide), n3 a ha 2 (by decide), n3 a ha 3 (by decide), n3 a ha 4 (by decide)]) _ _ _ (by omega)
  rw [f_T_digest, f_m_digest, jn_e, A, lt_e, lt_e, lt_e, lt_e, jn_e, jn_e, A2, jn_e, A3, lt_e]
  rw [B, mix_M, bV_s, mix_M, bV_s, mix_M, bV_s, jn_e, B2, jn_e, B3, mix_M, bV_s, mix_M, bV_s]
  have q31 : ∀ v, stl L 35 v 31 = L 31 := fun v => stl_o (by decide)
  have q32 : ∀ v, stl L 35 v 32 = L 32 := fun v => stl_o (by decide)
  dsimp only
  simp only [stl_s, q31, q32]
  refine ⟨_, _, _, ?_, rfl, h.kl ⟨q31 _, q32 _⟩⟩
  rw [f0, f1, ← g2, ← g3, ← g4, ← eh, ← en]
  rfl
