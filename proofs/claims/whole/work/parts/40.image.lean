/-! image, from (reference), and both -/
theorem lits9 : (8 : Int32) = nI 8 ∧ (14 : Int32) = nI 14 ∧ (20 : Int32) = nI 20 ∧ (26 : Int32) = nI 26 ∧ (32 : Int32) = nI 32 ∧ (38 : Int32) = nI 38 ∧ (44 : Int32) = nI 44 ∧ (50 : Int32) = nI 50 ∧ (56 : Int32) = nI 56 ∧ (62 : Int32) = nI 62 ∧ (40 : Int32) = nI 40 := by decide +kernel
def w9 (z : Sto) (B j : Nat) : Sto := st (st (st (st (st (st (st (st (st z 34 0 (B + 8 + j) (z 19 0 j)) 34 0 (B + 14 + j) (z 20 0 j)) 34 0 (B + 20 + j) (z 21 0 j)) 34 0 (B + 26 + j) (z 22 0 j)) 34 0 (B + 32 + j) (z 23 0 j)) 34 0 (B + 38 + j) (z 24 0 j)) 34 0 (B + 44 + j) (z 25 0 j)) 34 0 (B + 50 + j) (z 26 0 j)) 34 0 (B + 56 + j) (z 27 0 j)
theorem w9_k {z : Sto} {B j k : Nat} (h : k ≠ 34) : w9 z B j k = z k := by
  unfold w9; rw [st_k h, st_k h, st_k h, st_k h, st_k h, st_k h, st_k h, st_k h, st_k h]
theorem w9_o {z : Sto} {B j x : Nat} (hj : j < 6) (h : x < B + 8 ∨ B + 62 ≤ x ∨ (x - (B + 8)) % 6 ≠ j) : w9 z B j 34 0 x = z 34 0 x := by
  unfold w9
  rw [st_v, if_neg (by omega), st_v, if_neg (by omega), st_v, if_neg (by omega), st_v, if_neg (by omega), st_v, if_neg (by omega), st_v, if_neg (by omega), st_v, if_neg (by omega), st_v, if_neg (by omega), st_v, if_neg (by omega)]
theorem w9_v {z : Sto} {B j : Nat} : ∀ k, k < 9 → w9 z B j 34 0 (B + 8 + 6 * k + j) = z (19 + k) 0 j := by
  intro k hk
  rcases (show k = 0 ∨ k = 1 ∨ k = 2 ∨ k = 3 ∨ k = 4 ∨ k = 5 ∨ k = 6 ∨ k = 7 ∨ k = 8 by omega) with rfl | rfl | rfl | rfl | rfl | rfl | rfl | rfl | rfl <;> unfold w9 <;> simp only [st_v] <;> simp [Nat.add_assoc] <;> omega
theorem im1 {B : Nat} (hB : B + 102 ≤ 204) : ∀ (r a fuel : Nat) (m : Sto), a + r = 6 → r < fuel → ∃ m', (∀ K, fx fuel (l_m_image_73 (nI B) K) (fun _ _ => none) m (nI a) = K m') ∧ (∀ k, k ≠ 34 → m' k = m k) ∧ (∀ j, a ≤ j → j < 6 → ∀ k, k < 9 → m' 34 0 (B + 8 + 6 * k + j) = m (19 + k) 0 j) ∧ ∀ x, (x < B + 8 ∨ B + 62 ≤ x ∨ (x - (B + 8)) % 6 < a) → m' 34 0 x = m 34 0 x
  | 0, a, fuel, m, h, hf => by
    obtain ⟨f, rfl⟩ : ∃ f, fuel = f + 1 := ⟨fuel - 1, by omega⟩
    refine ⟨m, fun K => ?_, fun _ _ => rfl, fun j q1 q2 => by omega, fun _ _ => rfl⟩
    rw [fx_s, l_m_image_73, show a = 6 by omega, if_pos (by decide +kernel)]
  | r + 1, a, fuel, m, h, hf => by
    obtain ⟨f, rfl⟩ : ∃ f, fuel = f + 1 := ⟨fuel - 1, by omega⟩
    obtain ⟨m', h1, h2, h3, h4⟩ := im1 hB r (a + 1) f (w9 m B a) (by omega) (by omega)
    have i6 := inb_nI (j := a) (n := 6) (by omega) (by omega)
    have ib : ∀ d, d < 62 → inb (nI (B + d + a)) 204 := fun d hd => inb_nI (by omega) (by omega)
    have ixb : ∀ d, d < 62 → ix (nI (B + d + a)) = B + d + a := fun d hd => ix_nI (by omega)
    refine ⟨m', fun K => ?_, fun k hk => by rw [h2 k hk, w9_k hk], fun j q1 q2 k hk => ?_, fun x q => ?_⟩
    · have hK := h1 K
      rw [fx_s, l_m_image_73, if_neg (by rw [c6]; exact nI_ge (by omega) (by omega))]
      simp only [lits9.1, lits9.2.1, lits9.2.2.1, lits9.2.2.2.1, lits9.2.2.2.2.1, lits9.2.2.2.2.2.1, lits9.2.2.2.2.2.2.1, lits9.2.2.2.2.2.2.2.1, lits9.2.2.2.2.2.2.2.2.1, nI_add, if_pos i6, if_pos (ib 8 (by decide)), if_pos (ib 14 (by decide)), if_pos (ib 20 (by decide)), if_pos (ib 26 (by decide)), if_pos (ib 32 (by decide)), if_pos (ib 38 (by decide)), if_pos (ib 44 (by decide)), if_pos (ib 50 (by decide)), if_pos (ib 56 (by decide)), ixb 8 (by decide), ixb 14 (by decide), ixb 20 (by decide), ixb 26 (by decide), ixb 32 (by decide), ixb 38 (by decide), ixb 44 (by decide), ixb 50 (by decide), ixb 56 (by decide), ix_nI (show a < 2147483648 by omega), lt_e, nI_1]
      have e : ∀ (z : Sto) (x y k : Nat) (v : Int32), k ≠ 34 → st z 34 0 x v k 0 y = z k 0 y := fun z x y k v hk => by rw [st_k hk]
      simp only [e _ _ _ 20 _ (by decide), e _ _ _ 21 _ (by decide), e _ _ _ 22 _ (by decide), e _ _ _ 23 _ (by decide), e _ _ _ 24 _ (by decide), e _ _ _ 25 _ (by decide), e _ _ _ 26 _ (by decide), e _ _ _ 27 _ (by decide)]
      exact hK
    · by_cases e : j = a
      · subst e
        rw [h4 _ (by omega), w9_v k hk]
      · rw [h3 j (by omega) q2 k hk, w9_k (by omega)]
    · rw [h4 x (by omega), w9_o (by omega) (by omega)]
theorem im2 {B : Nat} (hB : B + 102 ≤ 204) : ∀ (r a fuel : Nat) (m : Sto), a + r = 40 → r < fuel → ∃ m', fx fuel (l_m_image_240 (nI B)) (fun _ _ => none) m (nI a) = some (1, m') ∧ (∀ k, k ≠ 34 → m' k = m k) ∧ (∀ j, a ≤ j → j < 40 → m' 34 0 (B + 62 + j) = m 30 0 j) ∧ ∀ x, (x < B + 62 + a ∨ B + 102 ≤ x) → m' 34 0 x = m 34 0 x
  | 0, a, fuel, m, h, hf => by
    obtain ⟨f, rfl⟩ : ∃ f, fuel = f + 1 := ⟨fuel - 1, by omega⟩
    refine ⟨m, ?_, fun _ _ => rfl, fun j q1 q2 => by omega, fun _ _ => rfl⟩
    rw [fx_s, l_m_image_240, show a = 40 by omega, if_pos (by decide +kernel)]
  | r + 1, a, fuel, m, h, hf => by
    obtain ⟨f, rfl⟩ : ∃ f, fuel = f + 1 := ⟨fuel - 1, by omega⟩
    obtain ⟨m', h1, h2, h3, h4⟩ := im2 hB r (a + 1) f (st m 34 0 (B + 62 + a) (m 30 0 a)) (by omega) (by omega)
    have i40 := inb_nI (j := a) (n := 40) (by omega) (by omega)
    have ib : inb (nI (B + 62 + a)) 204 := inb_nI (by omega) (by omega)
    refine ⟨m', ?_, fun k hk => by rw [h2 k hk, st_k hk], fun j q1 q2 => ?_, fun x q => ?_⟩
    · rw [fx_s, l_m_image_240, if_neg (by rw [lits9.2.2.2.2.2.2.2.2.2.2]; exact nI_ge (by omega) (by omega)), lits9.2.2.2.2.2.2.2.2.2.1, nI_add, nI_add, if_pos i40, if_pos ib, ix_nI (by omega), ix_nI (by omega), lt_e, nI_1]
      exact h1
    · by_cases e : j = a
      · subst e
        rw [h4 _ (by omega), st_v, if_pos ⟨rfl, rfl, rfl⟩]
      · rw [h3 j (by omega) q2, st_k (by decide)]
    · rw [h4 x (by omega), st_v, if_neg (by omega)]
