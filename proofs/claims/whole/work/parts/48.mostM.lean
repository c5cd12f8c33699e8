/-! most: the reference as a whole -/
theorem p9_le {N : Nat} (h : N ≤ 4) : 9 ^ N ≤ 6561 := by
  have q : 9 ^ N ≤ 9 ^ 4 := Nat.pow_le_pow_right (by omega) h
  exact q
theorem drN_8 (e : HEnv) : ∀ (r : Nat) (v : M5) (h : Int), drN e r v h (9 ^ r - 1) = h
  | 0, v, h => drN_0 e v h _
  | r + 1, v, h => by
    have p := p9_pos r
    have q : 9 ^ (r + 1) - 1 = 8 * 9 ^ r + (9 ^ r - 1) := by rw [Nat.pow_succ]; omega
    rw [q, drN_a e r v h (by omega), if_neg (fun z => z.1 rfl), drN_8 e r]
    have : gain1 e v 8 = 0 := if_pos rfl
    omega
theorem aft_ok {n : Nat} {e : HEnv} {v : M5} {a : Nat} (h : okM n v) : okM n (aft e v a) := by
  unfold aft
  by_cases q : a = 8
  · rw [if_pos q]; exact pdV_ok h
  · rw [if_neg q]; exact pdV_ok (akV_ok h)
theorem aft_prd {e : HEnv} {v : M5} {a : Nat} (h : prd v) : prd (aft e v a) := by
  unfold aft
  by_cases q : a = 8
  · rw [if_pos q]; exact pdV_prd h
  · rw [if_neg q]; exact pdV_prd (akV_prd h)
theorem eqE.dr {n : Nat} {e e' : HEnv} (q : eqE n e e') : ∀ (r : Nat) (v : M5) (h : Int) (u : Nat), okM n v → prd v → drN e r v h u = drN e' r v h u
  | 0, v, h, u, ov, pv => by rw [drN_0, drN_0]
  | r + 1, v, h, u, ov, pv => by
    have ea : aft e v (u / 9 ^ r) = aft e' v (u / 9 ^ r) := by
      unfold aft
      rw [q.ps ov, q.ak ov pv, q.ps (akV_ok ov)]
    have eg : gain1 e v (u / 9 ^ r) = gain1 e' v (u / 9 ^ r) := by
      unfold gain1
      rw [q.lw ov pv]
    rw [drN_s, drN_s, ea, eg, q.dr r _ _ _ (aft_ok ov) (aft_prd pv)]
theorem db_M {m : Sto} {n N w : Nat} {e : HEnv} (he : okE n e) (q : eqE n (eM m) e) (om : okM n (gM m)) (pm : prd (gM m)) (o8 : in8 (mo (gM m))) (hN : N ≤ 4) (hw : w < 9 ^ N) : ∃ r m', f_m_doneBy m (nI w) (nI N) = some (r, m') ∧ r.toInt = drN e N (gM m) 0 w ∧ (∀ k, k ≠ 31 → k ≠ 32 → m' k = m k) ∧ ∀ j, j < N → m' 32 0 j = nI (dig N w j) := by
  have h9 := p9_le hN
  obtain ⟨m1, h1, h2, h3, h4⟩ := dl7 N w 1000 m hN (by omega) (by omega)
  have g1 : gM m1 = gM m := by unfold gM; rw [h2 17 (by decide)]
  have q1 : ∀ j k, k < 4 → eM m1 j k = eM m j k := fun j k hk => eM_k (fun k _ _ => h2 k (by omega)) hk
  have z1 : ∀ j k, k < 4 → eM (l5 m1 31 0 (gM m1)) j k = eM m j k := fun j k hk => by rw [eM_l5 m1 (gM m1) j k hk, q1 j k hk]
  have eZ : eqE n (eM (l5 m1 31 0 (gM m1))) e := fun j hj k hk => by rw [z1 j k hk]; exact q j hj k hk
  have ze : okE n (eM (l5 m1 31 0 (gM m1))) := ⟨he.1, fun j hj => by rw [eZ j hj 0 (by decide)]; exact he.2 j hj⟩
  have z32 : ∀ j, j < N → l5 m1 31 0 (gM m1) 32 0 j = nI (dig N w j) := fun j hj => by rw [l5_k (by decide)]; exact h3 j hj
  obtain ⟨v', ok, k1, k2, k3, k4, k5⟩ := db53 (z := l5 m1 31 0 (gM m1)) (w := w) rfl ze hN z32 N 0 1000 (gM m1) 0 (by omega) (by omega) (by rw [g1]; exact om) (by rw [g1]; exact pm) (by rw [g1]; exact o8) (by omega)
  rw [Nat.mod_eq_of_lt hw, eZ.dr N _ _ _ (by rw [g1]; exact om) (by rw [g1]; exact pm), g1] at k3 k4 k5
  simp only [put_M, nI_0] at k1
  have g4 : ∀ v, pM (l5 m1 31 0 (gM m1)) v 17 0 4 = mo v := fun v => congrArg mo (gM_pM (l5 m1 31 0 (gM m1)) v)
  have g5 : l5 m1 31 0 (gM m1) 17 0 4 = mo (gM m) := by rw [l5_k (by decide)]; exact congrArg mo g1
  have zk : ∀ k, k ≠ 31 → k ≠ 32 → l5 m1 31 0 (gM m1) k = m k := fun k a b => by rw [l5_k a, h2 k b]
  have fin : f_m_doneBy m (nI w) (nI N) = some (if ok = true then popc (mo v') - popc (mo (gM m)) else -1, l5 m1 31 0 (gM m1)) := by
    rw [f_m_doneBy, lt_e, jn_e, h1, ly31, bV_s, g5, popc_M o8, bP_s, jn_e, k1, g4, popc_M k2, bP_s, lt_e, bk_M, bV_s, put_M]
    cases ok with
    | true => rw [if_neg b2t, if_pos rfl]
    | false => rw [if_pos b2f, if_neg (by decide)]
  refine ⟨_, _, fin, ?_, zk, z32⟩
  cases ok with
  | true =>
    have a := k3 rfl
    have b := pop_in k2
    have c := pop_in o8
    rw [if_pos rfl, i_sub (by omega) (by omega)]
    omega
  | false =>
    rw [if_neg (by decide), k4 rfl]
    exact m1I
theorem ml85 {N : Nat} (hN : N ≤ 4) {b r : Int32} (h : ¬ r ≤ b) : ∀ (c a fuel : Nat) (m : Sto), a + c = N → c < fuel → ∃ m', (∀ K, fx fuel (l_m_most_85 (nI N) b r K) (fun _ _ => none) m (nI a) = K m') ∧ (∀ k, k ≠ 33 → m' k = m k) ∧ (∀ j, a ≤ j → j < N → m' 33 0 j = m 32 0 j) ∧ ∀ x, x < a → m' 33 0 x = m 33 0 x
  | 0, a, fuel, m, hc, hf => by
    obtain ⟨f, rfl⟩ : ∃ f, fuel = f + 1 := ⟨fuel - 1, by omega⟩
    refine ⟨m, fun K => ?_, fun _ _ => rfl, fun j h1 h2 => by omega, fun _ _ => rfl⟩
    rw [fx_s, l_m_most_85, if_pos ((nI_leI (by omega) (by omega)).mpr (by omega))]
  | c + 1, a, fuel, m, hc, hf => by
    obtain ⟨f, rfl⟩ : ∃ f, fuel = f + 1 := ⟨fuel - 1, by omega⟩
    obtain ⟨m', h1, h2, h3, h4⟩ := ml85 hN h c (a + 1) f (st m 33 0 a (m 32 0 a)) (by omega) (by omega)
    refine ⟨m', fun K => ?_, fun k hk => by rw [h2 k hk, st_k hk], fun j ha hj => ?_, fun x hx => by rw [h4 x (by omega), st_v, if_neg (by omega)]⟩
    · have i4 := inb_nI (j := a) (n := 4) (by omega) (by omega)
      rw [fx_s, l_m_most_85, if_neg (fun z => by have := (nI_leI (by omega) (by omega)).mp z; omega), if_neg h, if_pos i4, if_pos i4, lt_e, ix_nI (by omega), nI_1]
      exact h1 K
    · by_cases e : j = a
      · subst e
        rw [h4 j (by omega), st_v, if_pos ⟨rfl, rfl, rfl⟩]
      · rw [h3 j (by omega) hj, st_k (by decide)]
theorem ml44 {N : Nat} (hN : N ≤ 4) (K : Int32 → Option (Int32 × Sto)) : ∀ (c a fuel : Nat), a + c = N → c < fuel → fx fuel (l_m_most_44 (nI N) K) (fun _ _ => none) (nI (9 ^ a)) (nI a) = K (nI (9 ^ N))
  | 0, a, fuel, hc, hf => by
    obtain ⟨f, rfl⟩ : ∃ f, fuel = f + 1 := ⟨fuel - 1, by omega⟩
    have e : a = N := by omega
    subst e
    rw [fx_s, l_m_most_44, if_pos ((nI_leI (by omega) (by omega)).mpr (by omega))]
  | c + 1, a, fuel, hc, hf => by
    obtain ⟨f, rfl⟩ : ∃ f, fuel = f + 1 := ⟨fuel - 1, by omega⟩
    rw [fx_s, l_m_most_44, if_neg (fun z => by have := (nI_leI (by omega) (by omega)).mp z; omega), lt_e, c9, pk_mul, nI_1, ← Nat.pow_succ]
    exact ml44 hN K c (a + 1) f (by omega) (by omega)
def M3 (m m' : Sto) : Prop := ∀ k, k ≠ 31 → k ≠ 32 → k ≠ 33 → m' k = m k
theorem M3.g {m m' : Sto} (q : M3 m m') : gM m' = gM m := by unfold gM; rw [q 17 (by decide) (by decide) (by decide)]
theorem mlp {m : Sto} {n N : Nat} {e : HEnv} (he : okE n e) (q : eqE n (eM m) e) (om : okM n (gM m)) (pm : prd (gM m)) (o8 : in8 (mo (gM m))) (hN : N ≤ 4) : ∀ (c lo fuel : Nat) (m1 : Sto) (b : Int32) (M : Int) (W : Nat), lo + c = 9 ^ N → c < fuel → M3 m m1 → b.toInt = M → (-1 < M → ∀ j, j < N → m1 33 0 j = nI (dig N W j)) → ∃ m2 b2, (∀ K, fx fuel (l_m_most_67 (nI N) (nI (9 ^ N)) K) (fun _ _ _ => none) m1 b (nI lo) = K m2 b2) ∧ M3 m m2 ∧ b2.toInt = (flt (drN e N (gM m) 0) lo c M W).1 ∧ (-1 < (flt (drN e N (gM m) 0) lo c M W).1 → ∀ j, j < N → m2 33 0 j = nI (dig N (flt (drN e N (gM m) 0) lo c M W).2 j))
  | 0, lo, fuel, m1, b, M, W, hc, hf, hm, hb, hl => by
    obtain ⟨f, rfl⟩ : ∃ f, fuel = f + 1 := ⟨fuel - 1, by omega⟩
    have h9 := p9_le hN
    rw [flt_0]
    refine ⟨m1, b, fun K => ?_, hm, hb, hl⟩
    rw [fx_s, l_m_most_67, if_pos ((nI_leI (by omega) (by omega)).mpr (by omega))]
  | c + 1, lo, fuel, m1, b, M, W, hc, hf, hm, hb, hl => by
    obtain ⟨f, rfl⟩ : ∃ f, fuel = f + 1 := ⟨fuel - 1, by omega⟩
    have h9 := p9_le hN
    have g1 := hm.g
    have q1 : eqE n (eM m1) e := fun j hj k hk => by rw [eM_k (fun k _ _ => hm k (by omega) (by omega) (by omega)) hk]; exact q j hj k hk
    obtain ⟨r, m2, d1, d2, d3, d4⟩ := db_M (m := m1) (w := lo) he q1 (by rw [g1]; exact om) (by rw [g1]; exact pm) (by rw [g1]; exact o8) hN (by omega)
    rw [g1] at d2
    rw [flt_s, ← d2]
    have nle : ¬ nI (9 ^ N) ≤ nI lo := fun z => by have := (nI_leI (by omega) (by omega)).mp z; omega
    have m12 : M3 m m2 := fun k a1 a2 a3 => by rw [d3 k a1 a2, hm k a1 a2 a3]
    by_cases h : M < r.toInt
    · have hr : ¬ r ≤ b := fun z => by rw [i_le] at z; omega
      obtain ⟨m3, e1, e2, e3, e4⟩ := ml85 hN hr N 0 10000 m2 (by omega) (by omega)
      rw [if_pos h]
      obtain ⟨m4, b4, f1, f2, f3, f4⟩ := mlp he q om pm o8 hN c (lo + 1) f m3 r r.toInt lo (by omega) (by omega) (fun k a1 a2 a3 => by rw [e2 k a3]; exact m12 k a1 a2 a3) rfl (fun _ j hj => by rw [e3 j (by omega) hj]; exact d4 j hj)
      refine ⟨m4, b4, fun K => ?_, f2, f3, f4⟩
      rw [nI_0] at e1
      rw [fx_s, l_m_most_67, if_neg nle, d1, bI_s, jn_e, e1, jn_e, if_neg hr, nI_1]
      exact f1 K
    · have hr : r ≤ b := by rw [i_le]; omega
      have e1 : ∀ K, fx 10000 (l_m_most_85 (nI N) b r K) (fun _ _ => none) m2 0 = K m2 := fun K => by
        rw [show 10000 = 9999 + 1 from rfl, fx_s, l_m_most_85, if_pos hr]
        by_cases z : nI N ≤ 0
        · rw [if_pos z]
        · rw [if_neg z]
      rw [if_neg h]
      obtain ⟨m4, b4, f1, f2, f3, f4⟩ := mlp he q om pm o8 hN c (lo + 1) f m2 b M W (by omega) (by omega) m12 hb (fun a j hj => by rw [d3 33 (by decide) (by decide)]; exact hl a j hj)
      refine ⟨m4, b4, fun K => ?_, f2, f3, f4⟩
      rw [fx_s, l_m_most_67, if_neg nle, d1, bI_s, jn_e, e1, jn_e, if_pos hr, nI_1]
      exact f1 K
