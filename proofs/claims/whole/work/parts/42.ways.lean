/-! most: the ways in their order -/
def flt (D : Nat → Int) : Nat → Nat → Int → Nat → Int × Nat
  | _, 0, M, W => (M, W)
  | lo, c + 1, M, W => if M < D lo then flt D (lo + 1) c (D lo) lo else flt D (lo + 1) c M W
theorem flt_0 (D : Nat → Int) (lo : Nat) (M : Int) (W : Nat) : flt D lo 0 M W = (M, W) := by unfold flt; rfl
theorem flt_s (D : Nat → Int) (lo c : Nat) (M : Int) (W : Nat) : flt D lo (c + 1) M W = if M < D lo then flt D (lo + 1) c (D lo) lo else flt D (lo + 1) c M W := by
  conv => lhs; unfold flt
theorem flt_add (D : Nat → Int) : ∀ (c d lo : Nat) (M : Int) (W : Nat), flt D lo (c + d) M W = flt D (lo + c) d (flt D lo c M W).1 (flt D lo c M W).2
  | 0, d, lo, M, W => by rw [flt_0, Nat.zero_add, Nat.add_zero]
  | c + 1, d, lo, M, W => by
    rw [show c + 1 + d = (c + d) + 1 by omega, flt_s, flt_s]
    by_cases h : M < D lo
    · rw [if_pos h, if_pos h, flt_add D c d (lo + 1), show lo + 1 + c = lo + (c + 1) by omega]
    · rw [if_neg h, if_neg h, flt_add D c d (lo + 1), show lo + 1 + c = lo + (c + 1) by omega]
theorem flt_id {D : Nat → Int} : ∀ (c lo : Nat) (M : Int) (W : Nat), (∀ u, u < c → D (lo + u) ≤ M) → flt D lo c M W = (M, W)
  | 0, lo, M, W, _ => flt_0 D lo M W
  | c + 1, lo, M, W, h => by
    have h0 : D lo ≤ M := h 0 (by omega)
    rw [flt_s, if_neg (by omega)]
    exact flt_id c (lo + 1) M W (fun u hu => by rw [show lo + 1 + u = lo + (u + 1) by omega]; exact h (u + 1) (by omega))
theorem flt_ge (D : Nat → Int) : ∀ (c lo : Nat) (M : Int) (W : Nat), M ≤ (flt D lo c M W).1 ∧ ∀ u, u < c → D (lo + u) ≤ (flt D lo c M W).1
  | 0, lo, M, W => by rw [flt_0]; exact ⟨Int.le_refl M, fun u hu => by omega⟩
  | c + 1, lo, M, W => by
    rw [flt_s]
    by_cases h : M < D lo
    · rw [if_pos h]
      obtain ⟨h1, h2⟩ := flt_ge D c (lo + 1) (D lo) lo
      refine ⟨by omega, fun u hu => ?_⟩
      by_cases e : u = 0
      · subst e; exact h1
      · have := h2 (u - 1) (by omega)
        rwa [show lo + 1 + (u - 1) = lo + u by omega] at this
    · rw [if_neg h]
      obtain ⟨h1, h2⟩ := flt_ge D c (lo + 1) M W
      refine ⟨h1, fun u hu => ?_⟩
      by_cases e : u = 0
      · subst e
        have q : D lo ≤ M := by omega
        exact Int.le_trans q h1
      · have := h2 (u - 1) (by omega)
        rwa [show lo + 1 + (u - 1) = lo + u by omega] at this
theorem flt_c {D D' : Nat → Int} : ∀ (c lo : Nat) (M : Int) (W : Nat), (∀ u, u < c → D (lo + u) = D' (lo + u)) → flt D lo c M W = flt D' lo c M W
  | 0, lo, M, W, _ => by rw [flt_0, flt_0]
  | c + 1, lo, M, W, h => by
    have h0 : D lo = D' lo := h 0 (by omega)
    have hs : ∀ u, u < c → D (lo + 1 + u) = D' (lo + 1 + u) := fun u hu => by rw [show lo + 1 + u = lo + (u + 1) by omega]; exact h (u + 1) (by omega)
    rw [flt_s, flt_s, h0, flt_c c (lo + 1) _ _ hs, flt_c c (lo + 1) M W hs]
def aft (e : HEnv) (v : M5) (a : Nat) : M5 := if a = 8 then pdV e v else pdV e (akV e v (nI a))
def gain1 (e : HEnv) (v : M5) (a : Nat) : Int := if a = 8 then 0 else if lwV e v (nI a) = 3 then 1 else 0
def drN (e : HEnv) : Nat → M5 → Int → Nat → Int
  | 0, _, h, _ => h
  | r + 1, v, h, u => if ¬ u / 9 ^ r = 8 ∧ BB (mo v) (nI (u / 9 ^ r)) = true then -1 else drN e r (aft e v (u / 9 ^ r)) (h + gain1 e v (u / 9 ^ r)) (u % 9 ^ r)
theorem drN_0 (e : HEnv) (v : M5) (h : Int) (u : Nat) : drN e 0 v h u = h := by unfold drN; rfl
theorem drN_s (e : HEnv) (r : Nat) (v : M5) (h : Int) (u : Nat) : drN e (r + 1) v h u = if ¬ u / 9 ^ r = 8 ∧ BB (mo v) (nI (u / 9 ^ r)) = true then -1 else drN e r (aft e v (u / 9 ^ r)) (h + gain1 e v (u / 9 ^ r)) (u % 9 ^ r) := by
  conv => lhs; unfold drN
theorem gain1_le (e : HEnv) (v : M5) (a : Nat) : 0 ≤ gain1 e v a ∧ gain1 e v a ≤ 1 := by
  unfold gain1
  by_cases h : a = 8
  · rw [if_pos h]; omega
  · rw [if_neg h]
    by_cases h3 : lwV e v (nI a) = 3
    · rw [if_pos h3]; omega
    · rw [if_neg h3]; omega
theorem drN_le (e : HEnv) : ∀ (r : Nat) (v : M5) (h : Int) (u : Nat), 0 ≤ h → drN e r v h u ≤ h + r ∧ -1 ≤ drN e r v h u
  | 0, v, h, u, h0 => by rw [drN_0]; omega
  | r + 1, v, h, u, h0 => by
    rw [drN_s]
    by_cases q : ¬ u / 9 ^ r = 8 ∧ BB (mo v) (nI (u / 9 ^ r)) = true
    · rw [if_pos q]; omega
    · rw [if_neg q]
      have g := gain1_le e v (u / 9 ^ r)
      have := drN_le e r (aft e v (u / 9 ^ r)) (h + gain1 e v (u / 9 ^ r)) (u % 9 ^ r) (by omega)
      omega
theorem p9_pos (r : Nat) : 0 < 9 ^ r := Nat.pow_pos (by decide)
/-- a way that begins with a -/
theorem drN_a (e : HEnv) (r : Nat) (v : M5) (h : Int) {a u : Nat} (hu : u < 9 ^ r) : drN e (r + 1) v h (a * 9 ^ r + u) = if ¬ a = 8 ∧ BB (mo v) (nI a) = true then -1 else drN e r (aft e v a) (h + gain1 e v a) u := by
  have e1 : (a * 9 ^ r + u) / 9 ^ r = a := by
    rw [Nat.mul_comm, Nat.mul_add_div (p9_pos r), Nat.div_eq_of_lt hu, Nat.add_zero]
  have e2 : (a * 9 ^ r + u) % 9 ^ r = u := by
    rw [Nat.mul_comm, Nat.mul_add_mod, Nat.mod_eq_of_lt hu]
  rw [drN_s, e1, e2]
