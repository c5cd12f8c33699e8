/-! most: the reference's ways -/
theorem c9 : (9 : Int32) = nI 9 := by decide +kernel
theorem dl7 : ∀ (c w fuel : Nat) (m : Sto), c ≤ 4 → w < 10000 → c < fuel → ∃ m', (∀ K, fx fuel (l_m_doneBy_7 K) (fun _ _ _ => none) m (nI w) (nI c - 1) = K m') ∧ (∀ k, k ≠ 32 → m' k = m k) ∧ (∀ j, j < c → m' 32 0 j = nI (dig c w j)) ∧ ∀ x, c ≤ x → m' 32 0 x = m 32 0 x
  | 0, w, fuel, m, h4, hw, hf => by
    obtain ⟨f, rfl⟩ : ∃ f, fuel = f + 1 := ⟨fuel - 1, by omega⟩
    refine ⟨m, fun K => ?_, fun _ _ => rfl, fun j hj => by omega, fun _ _ => rfl⟩
    rw [fx_s, l_m_doneBy_7, if_pos (by decide +kernel)]
  | c + 1, w, fuel, m, h4, hw, hf => by
    obtain ⟨f, rfl⟩ : ∃ f, fuel = f + 1 := ⟨fuel - 1, by omega⟩
    obtain ⟨m', h1, h2, h3, h5⟩ := dl7 c (w / 9) f (st m 32 0 c (nI (w % 9))) (by omega) (by omega) (by omega)
    have m1 : ∀ x : Int32, x + (-1) = x - 1 := fun x => by rw [Int32.sub_eq_add_neg]
    refine ⟨m', fun K => ?_, fun k hk => by rw [h2 k hk, st_k hk], fun j hj => ?_, fun x hx => ?_⟩
    · rw [fx_s, l_m_doneBy_7, nI_pred, if_neg (nI_pos (by omega)), if_pos (inb_nI (by omega) (by omega)), ix_nI (by omega), lt_e, lt_e, c9, pk_rem (by omega) (by omega) (by omega), pk_div (by omega) (by omega) (by omega), m1]
      exact h1 K
    · by_cases e : j = c
      · subst e
        rw [h5 j (by omega), st_v, if_pos ⟨rfl, rfl, rfl⟩]
        have := dig_new (k := j) (p := w / 9) (a := w % 9) (by omega)
        rw [show 9 * (w / 9) + w % 9 = w by omega] at this
        rw [this]
      · rw [h3 j (by omega)]
        have := dig_old (k := c) (p := w / 9) (a := w % 9) (j := j) (by omega) (by omega)
        rw [show 9 * (w / 9) + w % 9 = w by omega] at this
        rw [this]
    · rw [h5 x (by omega), st_v, if_neg (by omega)]
theorem pop_all : ∀ n, n < 256 → 0 ≤ (popc (nI n)).toInt ∧ (popc (nI n)).toInt ≤ 8 := by decide +kernel
theorem pop_add : ∀ n, n < 256 → ∀ a, a < 8 → BB (nI n) (nI a) = false → (popc (nI n ||| (1 <<< (nI a &&& 31)))).toInt = (popc (nI n)).toInt + 1 := by decide +kernel
theorem pop_in {x : Int32} (h : in8 x) : 0 ≤ (popc x).toInt ∧ (popc x).toInt ≤ 8 := by
  rw [of_ix h.1]
  exact pop_all _ (inb_ix (n := 256) h)
theorem pop_or {x : Int32} (h : in8 x) {a : Nat} (ha : a < 8) (hb : BB x (nI a) = false) : (popc (x ||| (1 <<< (nI a &&& 31)))).toInt = (popc x).toInt + 1 := by
  rw [of_ix h.1] at hb ⊢
  exact pop_add _ (inb_ix (n := 256) h) a ha hb
theorem akV_mo (e : HEnv) (v : M5) (a : Int32) : mo (akV e v a) = if lwV e v a = 3 then mo v ||| (1 <<< (a &&& 31)) else mo v := by
  unfold akV
  by_cases h : lwV e v a = 3
  · rw [if_pos h, if_pos h]; rfl
  · rw [if_neg h, if_neg h]; rfl
theorem dig_lt (n w j : Nat) : dig n w j < 9 := Nat.mod_lt _ (by decide)
theorem dig_u {n w r j : Nat} (h : j + (r + 1) = n) : w % 9 ^ (r + 1) / 9 ^ r = dig n w j ∧ w % 9 ^ (r + 1) % 9 ^ r = w % 9 ^ r := by
  unfold dig
  rw [show n - 1 - j = r by omega, Nat.pow_succ]
  refine ⟨?_, ?_⟩
  · rw [Nat.mod_mul_right_div_self]
  · rw [Nat.mod_mul_right_mod]
