/-! most: the class's search as a whole -/
theorem tloop {rec : Sto → Int32 → Int32 → Int32 → Int32 → Option Sto} {g0 : Int32} {n N r k : Nat} {D : Nat → Int} {e : HEnv} {v : M5} {s : Sto} {p h : Nat} {M : Int} {W : Nat} (he : okE n e) (ih : SRC rec g0 n N r (k + 1) D e) (hk : k < 4) (h1 : EH n s e) (hv : gC s (37 + k) = v) (ov : okS n v) (pv : prd v) (hg : grV e v = g0) (hh : h ≤ k) (hD : ∀ u, u < 9 ^ (r + 1) → D (p * 9 ^ (r + 1) + u) = drN e (r + 1) v h u) (hway : ∀ j, j < k → s 14 0 j = nI (dig k p j)) : ∀ (q a fuel : Nat) (s4 : Sto) (f1 f2 : Bool), a + q = 9 → q < fuel → LI n N r k D e v s p h M W a s4 f1 f2 → ∃ s', fx fuel (l_T_tryFrom_49 (nI k) (nI N) (nI h) g0 rec) (fun _ _ _ => none) s4 (whV f1 f2) (nI a) = some s' ∧ TFr k s s' ∧ BW N s' (flt D (p * 9 ^ (r + 1)) (9 * 9 ^ r) M W)
  | 0, a, fuel, s4, f1, f2, hq, hf, l => by
    obtain ⟨f, rfl⟩ : ∃ f, fuel = f + 1 := ⟨fuel - 1, by omega⟩
    have e9 : a = 9 := by omega
    subst e9
    refine ⟨s4, ?_, l.1, l.2.1⟩
    rw [fx_s, l_T_tryFrom_49, if_pos (by decide +kernel)]
  | q + 1, a, fuel, s4, f1, f2, hq, hf, l => by
    obtain ⟨f, rfl⟩ : ∃ f, fuel = f + 1 := ⟨fuel - 1, by omega⟩
    obtain ⟨s8, g1, g2, l2, hs⟩ := tstep he ih hk h1 hv ov pv hg hh hD hway (by omega) l
    obtain ⟨s', p1, p2, p3⟩ := tloop he ih hk h1 hv ov pv hg hh hD hway q (a + 1) f s8 g1 g2 (by omega) (by omega) l2
    refine ⟨s', ?_, p2, p3⟩
    rw [fx_s, hs, p1]
theorem str_k {s : Sto} {k i : Nat} {f : Nat → Int32} {k' : Nat} (h : k' ≠ k) : str s k i f k' = s k' := by
  funext i' x; unfold str; rw [if_neg (fun z => h z.1)]
theorem tf_C {g0 : Int32} {n N : Nat} {D : Nat → Int} {e : HEnv} (he : okE n e) (hN : N ≤ 4) : ∀ (r k fuel : Nat), k + r = N → r < fuel → SRC (fx fuel f_T_tryFrom_b (fun _ _ _ _ _ => none)) g0 n N r k D e := by
  intro r
  induction r with
  | zero =>
    intro k fuel hk hf s p h M W h1 ov pv hg hh hb hD hway
    obtain ⟨f, rfl⟩ : ∃ f, fuel = f + 1 := ⟨fuel - 1, by omega⟩
    have ek : k = N := by omega
    subst ek
    have hd : D p = h := by
      have := hD 0 (by rw [Nat.pow_zero]; omega)
      rw [Nat.pow_zero, Nat.mul_one, Nat.add_zero, drN_0] at this
      exact this
    have hs : (nI h + nI k - nI k).toInt = h := by
      rw [nI_add, i_sub (by rw [nI_toInt (by omega), nI_toInt (by omega)]; omega) (by rw [nI_toInt (by omega), nI_toInt (by omega)]; omega), nI_toInt (by omega), nI_toInt (by omega)]
      omega
    rw [fx_s, f_T_tryFrom_b, Nat.pow_zero, Nat.mul_one, flt_s, flt_0, flt_0, hd]
    by_cases hm : M < h
    · have c : s 0 0 9 < nI h + nI k - nI k := by
        rw [i_lt, hs, hb.1]; exact hm
      rw [if_pos c, if_pos hm, jn_e, if_pos ((nI_leI (by omega) (by omega)).mpr (by omega)), lt_e, lt_e]
      refine ⟨_, rfl, ⟨?_, ?_, fun _ j hj => ?_⟩, ⟨fun q i q1 q2 q3 q4 => ?_, fun x hx => ?_, fun j hj => ?_⟩⟩
      · rw [str_k (by decide), st_v, if_pos ⟨rfl, rfl, rfl⟩, nI_toInt (by omega)]
      · show (-1 : Int) ≤ (h : Int); omega
      · have w := hway j hj
        unfold str va_cpy
        rw [if_pos ⟨rfl, rfl⟩, if_pos (by omega), st_k (by decide), show 0 + (j - 0) = j by omega]
        exact w
      · rw [str_k q3, st_k q1]
      · rw [str_k (by decide), st_v, if_neg (fun z => hx z.2.2)]
      · rw [str_k (by decide), st_k (by decide)]
    · have c : ¬ s 0 0 9 < nI h + nI k - nI k := fun z => by
        rw [i_lt, hs, hb.1] at z; exact hm z
      rw [if_neg c, if_neg hm]
      exact ⟨s, rfl, hb, TFr.rf k s⟩
  | succ r ih =>
    intro k fuel hk hf s p h M W h1 ov pv hg hh hb hD hway
    obtain ⟨f, rfl⟩ : ∃ f, fuel = f + 1 := ⟨fuel - 1, by omega⟩
    have hs : (nI h + nI N - nI k).toInt = h + (r + 1) := by
      rw [nI_add, i_sub (by rw [nI_toInt (by omega), nI_toInt (by omega)]; omega) (by rw [nI_toInt (by omega), nI_toInt (by omega)]; omega), nI_toInt (by omega), nI_toInt (by omega)]
      omega
    rw [fx_s, f_T_tryFrom_b]
    by_cases hm : M < h + (r + 1)
    · have c : s 0 0 9 < nI h + nI N - nI k := by
        rw [i_lt, hs, hb.1]; exact hm
      have c4 : nI k < (4 : Int32) := by
        rw [show (4 : Int32) = nI 4 by decide +kernel, i_lt, nI_toInt (by omega), nI_toInt (by omega)]; omega
      rw [if_pos c, jn_e, if_neg (fun z => by have := (nI_leI (by omega) (by omega)).mp z; omega), if_pos c4]
      have l0 : LI n N r k D e (gC s (37 + k)) s p h M W 0 s false false := by
        unfold LI
        rw [Nat.zero_mul, flt_0]
        exact ⟨TFr.rf k s, hb, fun z => absurd z Bool.false_ne_true, fun z => absurd z Bool.false_ne_true⟩
      obtain ⟨s', q1, q2, q3⟩ := tloop he (ih (k + 1) f (by omega) (by omega)) (by omega) h1 rfl ov pv hg hh hD hway 9 0 1000 s false false (by omega) (by omega) l0
      rw [nI_0, show whV false false = 0 from rfl] at q1
      rw [show 9 * 9 ^ r = 9 ^ (r + 1) by rw [Nat.pow_succ, Nat.mul_comm]] at q3
      exact ⟨s', q1, q3, q2⟩
    · have c : ¬ s 0 0 9 < nI h + nI N - nI k := fun z => by
        rw [i_lt, hs, hb.1] at z; exact hm z
      rw [if_neg c, flt_id _ _ _ _ (fun u hu => ?_)]
      · exact ⟨s, rfl, hb, TFr.rf k s⟩
      · rw [hD u hu]
        have := (drN_le e (r + 1) (gC s (37 + k)) h u (by omega)).1
        omega
