/-! image and from -/
def v9 (z : Sto) (B j : Nat) : Sto := st (st (st (st (st (st (st (st (st z 19 0 j (z 34 0 (B + 8 + j))) 20 0 j (z 34 0 (B + 14 + j))) 21 0 j (z 34 0 (B + 20 + j))) 22 0 j (z 34 0 (B + 26 + j))) 23 0 j (z 34 0 (B + 32 + j))) 24 0 j (z 34 0 (B + 38 + j))) 25 0 j (z 34 0 (B + 44 + j))) 26 0 j (z 34 0 (B + 50 + j))) 27 0 j (z 34 0 (B + 56 + j))
theorem v9_k {z : Sto} {B j k : Nat} (h : k < 19 ∨ 28 ≤ k) : v9 z B j k = z k := by
  unfold v9; rw [st_k (by omega), st_k (by omega), st_k (by omega), st_k (by omega), st_k (by omega), st_k (by omega), st_k (by omega), st_k (by omega), st_k (by omega)]
theorem v9_o {z : Sto} {B j k x : Nat} (h : x ≠ j) : v9 z B j k 0 x = z k 0 x := by
  unfold v9
  rw [st_v, if_neg (fun q => h q.2.2), st_v, if_neg (fun q => h q.2.2), st_v, if_neg (fun q => h q.2.2), st_v, if_neg (fun q => h q.2.2), st_v, if_neg (fun q => h q.2.2), st_v, if_neg (fun q => h q.2.2), st_v, if_neg (fun q => h q.2.2), st_v, if_neg (fun q => h q.2.2), st_v, if_neg (fun q => h q.2.2)]
theorem v9_v {z : Sto} {B j : Nat} : ∀ k, k < 9 → v9 z B j (19 + k) 0 j = z 34 0 (B + 8 + 6 * k + j) := by
  intro k hk
  rcases (show k = 0 ∨ k = 1 ∨ k = 2 ∨ k = 3 ∨ k = 4 ∨ k = 5 ∨ k = 6 ∨ k = 7 ∨ k = 8 by omega) with rfl | rfl | rfl | rfl | rfl | rfl | rfl | rfl | rfl <;> unfold v9 <;> simp only [st_v] <;> simp [Nat.add_assoc]
theorem fr1 {B : Nat} (hB : B + 102 ≤ 204) : ∀ (r a fuel : Nat) (m : Sto), a + r = 6 → r < fuel → ∃ m', (∀ K, fx fuel (l_m_from_80 (nI B) K) (fun _ _ => none) m (nI a) = K m') ∧ (∀ k, (k < 19 ∨ 28 ≤ k) → m' k = m k) ∧ (∀ j, a ≤ j → j < 6 → ∀ k, k < 9 → m' (19 + k) 0 j = m 34 0 (B + 8 + 6 * k + j)) ∧ ∀ k x, x < a → m' k 0 x = m k 0 x
  | 0, a, fuel, m, h, hf => by
    obtain ⟨f, rfl⟩ : ∃ f, fuel = f + 1 := ⟨fuel - 1, by omega⟩
    refine ⟨m, fun K => ?_, fun _ _ => rfl, fun j q1 q2 => by omega, fun _ _ _ => rfl⟩
    rw [fx_s, l_m_from_80, show a = 6 by omega, if_pos (by decide +kernel)]
  | r + 1, a, fuel, m, h, hf => by
    obtain ⟨f, rfl⟩ : ∃ f, fuel = f + 1 := ⟨fuel - 1, by omega⟩
    obtain ⟨m', h1, h2, h3, h4⟩ := fr1 hB r (a + 1) f (v9 m B a) (by omega) (by omega)
    have i6 := inb_nI (j := a) (n := 6) (by omega) (by omega)
    have ib : ∀ d, d < 62 → inb (nI (B + d + a)) 204 := fun d hd => inb_nI (by omega) (by omega)
    have ixb : ∀ d, d < 62 → ix (nI (B + d + a)) = B + d + a := fun d hd => ix_nI (by omega)
    refine ⟨m', fun K => ?_, fun k hk => by rw [h2 k hk, v9_k hk], fun j q1 q2 k hk => ?_, fun k x q => ?_⟩
    · have hK := h1 K
      rw [fx_s, l_m_from_80, if_neg (by rw [c6]; exact nI_ge (by omega) (by omega))]
      simp only [lits9.1, lits9.2.1, lits9.2.2.1, lits9.2.2.2.1, lits9.2.2.2.2.1, lits9.2.2.2.2.2.1, lits9.2.2.2.2.2.2.1, lits9.2.2.2.2.2.2.2.1, lits9.2.2.2.2.2.2.2.2.1, nI_add, if_pos i6, if_pos (ib 8 (by decide)), if_pos (ib 14 (by decide)), if_pos (ib 20 (by decide)), if_pos (ib 26 (by decide)), if_pos (ib 32 (by decide)), if_pos (ib 38 (by decide)), if_pos (ib 44 (by decide)), if_pos (ib 50 (by decide)), if_pos (ib 56 (by decide)), ixb 8 (by decide), ixb 14 (by decide), ixb 20 (by decide), ixb 26 (by decide), ixb 32 (by decide), ixb 38 (by decide), ixb 44 (by decide), ixb 50 (by decide), ixb 56 (by decide), ix_nI (show a < 2147483648 by omega), lt_e, nI_1]
      have e : ∀ (z : Sto) (x y k : Nat) (v : Int32), k ≠ 34 → st z k 0 x v 34 0 y = z 34 0 y := fun z x y k v hk => by rw [st_k (Ne.symm hk)]
      simp only [e _ _ _ 19 _ (by decide), e _ _ _ 20 _ (by decide), e _ _ _ 21 _ (by decide), e _ _ _ 22 _ (by decide), e _ _ _ 23 _ (by decide), e _ _ _ 24 _ (by decide), e _ _ _ 25 _ (by decide), e _ _ _ 26 _ (by decide)]
      exact hK
    · by_cases e : j = a
      · subst e
        rw [h4 _ _ (by omega), v9_v k hk]
      · rw [h3 j (by omega) q2 k hk, v9_k (by omega)]
    · rw [h4 k x (by omega), v9_o (by omega)]
theorem fr2 {B : Nat} (hB : B + 102 ≤ 204) : ∀ (r a fuel : Nat) (m : Sto), a + r = 40 → r < fuel → ∃ m', fx fuel (l_m_from_247 (nI B)) (fun _ _ => none) m (nI a) = some (1, m') ∧ (∀ k, k ≠ 30 → m' k = m k) ∧ (∀ j, a ≤ j → j < 40 → m' 30 0 j = m 34 0 (B + 62 + j)) ∧ ∀ x, x < a → m' 30 0 x = m 30 0 x
  | 0, a, fuel, m, h, hf => by
    obtain ⟨f, rfl⟩ : ∃ f, fuel = f + 1 := ⟨fuel - 1, by omega⟩
    refine ⟨m, ?_, fun _ _ => rfl, fun j q1 q2 => by omega, fun _ _ => rfl⟩
    rw [fx_s, l_m_from_247, show a = 40 by omega, if_pos (by decide +kernel)]
  | r + 1, a, fuel, m, h, hf => by
    obtain ⟨f, rfl⟩ : ∃ f, fuel = f + 1 := ⟨fuel - 1, by omega⟩
    obtain ⟨m', h1, h2, h3, h4⟩ := fr2 hB r (a + 1) f (st m 30 0 a (m 34 0 (B + 62 + a))) (by omega) (by omega)
    have i40 := inb_nI (j := a) (n := 40) (by omega) (by omega)
    have ib : inb (nI (B + 62 + a)) 204 := inb_nI (by omega) (by omega)
    refine ⟨m', ?_, fun k hk => by rw [h2 k hk, st_k hk], fun j q1 q2 => ?_, fun x q => ?_⟩
    · rw [fx_s, l_m_from_247, if_neg (by rw [lits9.2.2.2.2.2.2.2.2.2.2]; exact nI_ge (by omega) (by omega)), lits9.2.2.2.2.2.2.2.2.2.1, nI_add, nI_add, if_pos ib, if_pos i40, ix_nI (by omega), ix_nI (by omega), lt_e, nI_1]
      exact h1
    · by_cases e : j = a
      · subst e
        rw [h4 _ (by omega), st_v, if_pos ⟨rfl, rfl, rfl⟩]
      · rw [h3 j (by omega) q2, st_k (by decide)]
    · rw [h4 x (by omega), st_v, if_neg (by omega)]
theorem c102 : (102 : Int32) = nI 102 := by decide +kernel
theorem im_M {m : Sto} {i : Nat} (hi : i < 2) : ∃ m', f_m_image m (nI i) = some (1, m') ∧ (∀ k, k ≠ 34 → k ≠ 35 → m' k = m k) ∧ m' 35 0 i = 1 ∧ (∀ j, j ≠ i → m' 35 0 j = m 35 0 j) ∧ m' 34 0 (102 * i) = m 17 0 1 ∧ m' 34 0 (102 * i + 1) = m 17 0 7 ∧ m' 34 0 (102 * i + 2) = m 17 0 27 ∧ mI (m' 34 0) (102 * i + 3) = gM m ∧ (∀ j, j < 6 → ∀ k, k < 9 → m' 34 0 (102 * i + 8 + 6 * k + j) = m (19 + k) 0 j) ∧ (∀ j, j < 40 → m' 34 0 (102 * i + 62 + j) = m 30 0 j) ∧ ∀ x, (x < 102 * i ∨ 102 * i + 102 ≤ x) → m' 34 0 x = m 34 0 x := by
  have ho : outB (nI i) 0 1 = false := by
    rcases (show i = 0 ∨ i = 1 by omega) with rfl | rfl <;> decide +kernel
  have i2 := inb_nI (j := i) (n := 2) hi (by omega)
  have eB : (102 : Int32) * nI i = nI (102 * i) := by rw [c102, pk_mul]
  rw [f_m_image, in_M, bP_s, ho, Bool.not_false, if_neg b2t, eB]
  generalize hB : 102 * i = B
  have hB2 : B + 102 ≤ 204 := by omega
  rw [lt_e, if_pos i2, lt_e, if_pos (inb_nI (by omega) (by omega)), lt_e, nlt4.1, nI_add, if_pos (inb_nI (by omega) (by omega)), lt_e, nlt4.2.1, nI_add, if_pos (inb_nI (by omega) (by omega)), lt_e, nlt4.2.2.1, nI_add, ly34 (by omega), bV_s, jn_e, ix_nI (by omega), ix_nI (by omega), ix_nI (by omega), ix_nI (by omega)]
  have v1 : st m 35 0 i (nI 1) 17 0 1 = m 17 0 1 := by rw [st_k (by decide)]
  have v2 : st (st m 35 0 i (nI 1)) 34 0 B (m 17 0 1) 17 0 7 = m 17 0 7 := by rw [st_k (by decide), st_k (by decide)]
  have v3 : st (st (st m 35 0 i (nI 1)) 34 0 B (m 17 0 1)) 34 0 (B + 1) (m 17 0 7) 17 0 27 = m 17 0 27 := by rw [st_k (by decide), st_k (by decide), st_k (by decide)]
  rw [v1, v2, v3]
  have v4 : gM (st (st (st (st m 35 0 i (nI 1)) 34 0 B (m 17 0 1)) 34 0 (B + 1) (m 17 0 7)) 34 0 (B + 2) (m 17 0 27)) = gM m := by
    unfold gM; rw [st_k (by decide), st_k (by decide), st_k (by decide), st_k (by decide)]
  rw [v4]
  have z1 : ∀ k, k ≠ 34 → k ≠ 35 → l5 (st (st (st (st m 35 0 i (nI 1)) 34 0 B (m 17 0 1)) 34 0 (B + 1) (m 17 0 7)) 34 0 (B + 2) (m 17 0 27)) 34 (B + 3) (gM m) k = m k := fun k q1 q2 => by
    rw [l5_k q1, st_k q1, st_k q1, st_k q1, st_k q2]
  have z2 : ∀ j, l5 (st (st (st (st m 35 0 i (nI 1)) 34 0 B (m 17 0 1)) 34 0 (B + 1) (m 17 0 7)) 34 0 (B + 2) (m 17 0 27)) 34 (B + 3) (gM m) 35 0 j = if j = i then nI 1 else m 35 0 j := fun j => by
    rw [l5_k (by decide), st_k (by decide), st_k (by decide), st_k (by decide), st_v]
    by_cases e : j = i
    · rw [if_pos ⟨rfl, rfl, e⟩, if_pos e]
    · rw [if_neg (fun q => e q.2.2), if_neg e]
  have z3 : l5 (st (st (st (st m 35 0 i (nI 1)) 34 0 B (m 17 0 1)) 34 0 (B + 1) (m 17 0 7)) 34 0 (B + 2) (m 17 0 27)) 34 (B + 3) (gM m) 34 0 B = m 17 0 1 := by
    rw [l5_o (by omega), st_v, if_neg (by omega), st_v, if_neg (by omega), st_v, if_pos ⟨rfl, rfl, rfl⟩]
  have z4 : l5 (st (st (st (st m 35 0 i (nI 1)) 34 0 B (m 17 0 1)) 34 0 (B + 1) (m 17 0 7)) 34 0 (B + 2) (m 17 0 27)) 34 (B + 3) (gM m) 34 0 (B + 1) = m 17 0 7 := by
    rw [l5_o (by omega), st_v, if_neg (by omega), st_v, if_pos ⟨rfl, rfl, rfl⟩]
  have z5 : l5 (st (st (st (st m 35 0 i (nI 1)) 34 0 B (m 17 0 1)) 34 0 (B + 1) (m 17 0 7)) 34 0 (B + 2) (m 17 0 27)) 34 (B + 3) (gM m) 34 0 (B + 2) = m 17 0 27 := by
    rw [l5_o (by omega), st_v, if_pos ⟨rfl, rfl, rfl⟩]
  have z6 : mI (l5 (st (st (st (st m 35 0 i (nI 1)) 34 0 B (m 17 0 1)) 34 0 (B + 1) (m 17 0 7)) 34 0 (B + 2) (m 17 0 27)) 34 (B + 3) (gM m) 34 0) (B + 3) = gM m := l5_m
  have z7 : ∀ x, (x < B ∨ B + 8 ≤ x) → l5 (st (st (st (st m 35 0 i (nI 1)) 34 0 B (m 17 0 1)) 34 0 (B + 1) (m 17 0 7)) 34 0 (B + 2) (m 17 0 27)) 34 (B + 3) (gM m) 34 0 x = m 34 0 x := fun x q => by
    rw [l5_o (by omega), st_v, if_neg (by omega), st_v, if_neg (by omega), st_v, if_neg (by omega), st_k (by decide)]
  generalize l5 (st (st (st (st m 35 0 i (nI 1)) 34 0 B (m 17 0 1)) 34 0 (B + 1) (m 17 0 7)) 34 0 (B + 2) (m 17 0 27)) 34 (B + 3) (gM m) = z at z1 z2 z3 z4 z5 z6 z7 ⊢
  obtain ⟨y1, p1, p2, p3, p4⟩ := im1 hB2 6 0 1000 z (by omega) (by omega)
  obtain ⟨y2, q1, q2, q3, q4⟩ := im2 hB2 40 0 1000 y1 (by omega) (by omega)
  rw [nI_0] at q1
  simp only [nI_0] at p1
  have e1 : (1 : Int32) = nI 1 := by decide +kernel
  rw [p1, q1]
  refine ⟨y2, by rw [e1], fun k k1 k2 => by rw [q2 k k1, p2 k k1, z1 k k1 k2], ?_, fun j hj => ?_, ?_, ?_, ?_, ?_, fun j hj k hk => ?_, fun j hj => ?_, fun x hx => ?_⟩
  · rw [q2 35 (by decide), p2 35 (by decide), z2, if_pos rfl]
  · rw [q2 35 (by decide), p2 35 (by decide), z2, if_neg hj]
  · rw [q4 _ (by omega), p4 _ (by omega), z3]
  · rw [q4 _ (by omega), p4 _ (by omega), z4]
  · rw [q4 _ (by omega), p4 _ (by omega), z5]
  · rw [← z6]
    unfold mI
    rw [q4 (B + 3) (by omega), p4 (B + 3) (by omega), q4 (B + 3 + 1) (by omega), p4 (B + 3 + 1) (by omega), q4 (B + 3 + 2) (by omega), p4 (B + 3 + 2) (by omega), q4 (B + 3 + 3) (by omega), p4 (B + 3 + 3) (by omega), q4 (B + 3 + 4) (by omega), p4 (B + 3 + 4) (by omega)]
  · rw [q4 _ (by omega), p3 j (by omega) hj k hk, z1 _ (by omega) (by omega)]
  · rw [q3 j (by omega) hj, p2 30 (by decide), z1 30 (by decide) (by decide)]
  · rw [q4 _ (by omega), p4 _ (by omega), z7 _ (by omega)]
theorem fr_M {m : Sto} {i : Nat} (hi : i < 2) (hk : ¬ m 35 0 i = 0) : ∃ m', f_m_from m (nI i) = some (1, m') ∧ (∀ k, k ≠ 17 → (k < 19 ∨ 28 ≤ k) → k ≠ 30 → m' k = m k) ∧ (∀ x, ¬ x = 1 → ¬ (2 ≤ x ∧ x ≤ 7) → x ≠ 27 → m' 17 0 x = m 17 0 x) ∧ m' 17 0 1 = m 34 0 (102 * i) ∧ m' 17 0 7 = m 34 0 (102 * i + 1) ∧ m' 17 0 27 = m 34 0 (102 * i + 2) ∧ gM m' = mI (m 34 0) (102 * i + 3) ∧ (∀ j, j < 6 → ∀ k, k < 9 → m' (19 + k) 0 j = m 34 0 (102 * i + 8 + 6 * k + j)) ∧ (∀ j, j < 40 → m' 30 0 j = m 34 0 (102 * i + 62 + j)) := by
  have ho : outB (nI i) 0 1 = false := by
    rcases (show i = 0 ∨ i = 1 by omega) with rfl | rfl <;> decide +kernel
  have i2 := inb_nI (j := i) (n := 2) hi (by omega)
  have eB : (102 : Int32) * nI i = nI (102 * i) := by rw [c102, pk_mul]
  rw [f_m_from, in_M, bP_s, ho, Bool.not_false, if_neg b2t, if_pos i2, ix_nI (by omega), if_neg hk, eB]
  generalize hB : 102 * i = B
  have hB2 : B + 102 ≤ 204 := by omega
  have f34 : ∀ (z : Sto) (x y : Nat) (v : Int32), st z 17 0 x v 34 0 y = z 34 0 y := fun z x y v => by rw [st_k (by decide)]
  rw [lt_e, if_pos (inb_nI (by omega) (by omega)), lt_e, nlt4.1, nI_add, if_pos (inb_nI (by omega) (by omega)), lt_e, nlt4.2.1, nI_add, if_pos (inb_nI (by omega) (by omega)), lt_e, nlt4.2.2.1, nI_add, tk34 (by omega), bV_s, jn_e, ix_nI (by omega), ix_nI (by omega), ix_nI (by omega), f34, f34, f34]
  have e34 : st (st (st m 17 0 1 (m 34 0 B)) 17 0 7 (m 34 0 (B + 1))) 17 0 27 (m 34 0 (B + 2)) 34 = m 34 := by rw [st_k (by decide), st_k (by decide), st_k (by decide)]
  rw [e34]
  have z1 : ∀ k, k ≠ 17 → pM (st (st (st m 17 0 1 (m 34 0 B)) 17 0 7 (m 34 0 (B + 1))) 17 0 27 (m 34 0 (B + 2))) (mI (m 34 0) (B + 3)) k = m k := fun k q => by
    rw [pM_k q, st_k q, st_k q, st_k q]
  have px : ∀ (y : Sto) (v : M5) x, ¬ (2 ≤ x ∧ x ≤ 6) → pM y v 17 0 x = y 17 0 x := fun y v x hx => by
    unfold pM
    rw [if_pos ⟨rfl, rfl⟩, if_neg (by omega), if_neg (by omega), if_neg (by omega), if_neg (by omega), if_neg (by omega)]
  have z2 : ∀ x, ¬ x = 1 → ¬ (2 ≤ x ∧ x ≤ 7) → x ≠ 27 → pM (st (st (st m 17 0 1 (m 34 0 B)) 17 0 7 (m 34 0 (B + 1))) 17 0 27 (m 34 0 (B + 2))) (mI (m 34 0) (B + 3)) 17 0 x = m 17 0 x := fun x q1 q2 q3 => by
    rw [px _ _ _ (by omega), st_v, if_neg (by omega), st_v, if_neg (by omega), st_v, if_neg (by omega)]
  have z3 : pM (st (st (st m 17 0 1 (m 34 0 B)) 17 0 7 (m 34 0 (B + 1))) 17 0 27 (m 34 0 (B + 2))) (mI (m 34 0) (B + 3)) 17 0 1 = m 34 0 B := by
    rw [px _ _ _ (by omega), st_v, if_neg (by omega), st_v, if_neg (by omega), st_v, if_pos ⟨rfl, rfl, rfl⟩]
  have z4 : pM (st (st (st m 17 0 1 (m 34 0 B)) 17 0 7 (m 34 0 (B + 1))) 17 0 27 (m 34 0 (B + 2))) (mI (m 34 0) (B + 3)) 17 0 7 = m 34 0 (B + 1) := by
    rw [px _ _ _ (by omega), st_v, if_neg (by omega), st_v, if_pos ⟨rfl, rfl, rfl⟩]
  have z5 : pM (st (st (st m 17 0 1 (m 34 0 B)) 17 0 7 (m 34 0 (B + 1))) 17 0 27 (m 34 0 (B + 2))) (mI (m 34 0) (B + 3)) 17 0 27 = m 34 0 (B + 2) := by
    rw [px _ _ _ (by omega), st_v, if_pos ⟨rfl, rfl, rfl⟩]
  have z6 := gM_pM (st (st (st m 17 0 1 (m 34 0 B)) 17 0 7 (m 34 0 (B + 1))) 17 0 27 (m 34 0 (B + 2))) (mI (m 34 0) (B + 3))
  generalize pM (st (st (st m 17 0 1 (m 34 0 B)) 17 0 7 (m 34 0 (B + 1))) 17 0 27 (m 34 0 (B + 2))) (mI (m 34 0) (B + 3)) = z at z1 z2 z3 z4 z5 z6 ⊢
  obtain ⟨y1, p1, p2, p3, p4⟩ := fr1 hB2 6 0 1000 z (by omega) (by omega)
  obtain ⟨y2, q1, q2, q3, q4⟩ := fr2 hB2 40 0 1000 y1 (by omega) (by omega)
  rw [nI_0] at q1
  simp only [nI_0] at p1
  have e1 : (1 : Int32) = nI 1 := by decide +kernel
  rw [p1, q1]
  have y17 : y2 17 = z 17 := by rw [q2 17 (by decide), p2 17 (by decide)]
  refine ⟨y2, by rw [e1], fun k k1 k2 k3 => by rw [q2 k k3, p2 k k2, z1 k k1], fun x x1 x2 x3 => by rw [y17, z2 x x1 x2 x3], by rw [y17, z3], by rw [y17, z4], by rw [y17, z5], ?_, fun j hj k hk => ?_, fun j hj => ?_⟩
  · rw [← z6]; unfold gM; rw [y17]
  · rw [q2 _ (by omega), p3 j (by omega) hj k hk, z1 34 (by decide)]
  · rw [q3 j (by omega) hj, p2 34 (by decide), z1 34 (by decide)]
theorem x01 {x : Int32} (h : outB x 0 1 = false) : x = nI (ix x) ∧ ix x < 2 := by
  have := out_nI (b := 1) 1 (by decide +kernel) h
  exact ⟨this.1, by omega⟩
theorem crI_q {m m' : Sto} {i : Nat} (w : wfR (crI m i)) (h : ∀ x, 102 * i ≤ x → x < 102 * i + 102 → m' 34 0 x = m 34 0 x) : eqR (crI m i) (crI m' i) := by
  obtain ⟨w1, w2, w3, -⟩ := w
  have l1 := inb_ix w1
  have l2 := inb_ix w2
  have l3 := inb_ix w3
  have hm : ∀ b, 102 * i ≤ b → b + 4 < 102 * i + 102 → mI (m' 34 0) b = mI (m 34 0) b := fun b q1 q2 => by
    unfold mI
    rw [h b (by omega) (by omega), h (b + 1) (by omega) (by omega), h (b + 2) (by omega) (by omega), h (b + 3) (by omega) (by omega), h (b + 4) (by omega) (by omega)]
  refine ⟨(h _ (by omega) (by omega)).symm, (h _ (by omega) (by omega)).symm, (h _ (by omega) (by omega)).symm, (hm _ (by omega) (by omega)).symm, fun j hj k hk => ?_, fun j hj k hk => ?_, fun j hj => ?_⟩
  · exact (h (102 * i + (8 + 6 * k) + j) (by omega) (by omega)).symm
  · exact (h (102 * i + (32 + 6 * k) + j) (by omega) (by omega)).symm
  · exact (hm (102 * i + 62 + 5 * j) (by omega) (by omega)).symm
theorem op_image {s m : Sto} {L : Lng} (h : RS s m L) (x : Int32) : OPI (f_T_image s x) (f_m_image m x) L := by
  cases hx : outB x 0 1 with
  | true =>
    rw [f_T_image, f_m_image, out_C, in_M, bP_s, bP_s, hx, if_neg b2t, Bool.not_true, if_pos b2f, bad_C, bad_M]
    exact op_bad h _
  | false =>
    obtain ⟨ex, hi⟩ := x01 hx
    obtain ⟨m', a1, a2, a3, a4, a5, a6, a7, a8, a9, a10, a11⟩ := im_M (m := m) hi
    rw [← ex] at a1
    obtain ⟨s1, c1, c2, c3⟩ := bec_C (s := s) (c := 2 + ix x) (d := 0) (by omega) (by omega) (by omega) h.1.2
    have i2 : inb x 2 := by rw [ex]; exact inb_nI hi (by omega)
    rw [f_T_image, out_C, bP_s, hx, if_pos b2f, if_pos i2, c1, bV_s, if_pos i2, lt_e, a1]
    refine ⟨_, _, _, rfl, rfl, ?_⟩
    have g : ∀ k i, ¬ OC (2 + ix x) k i → k ≠ 12 → st s1 12 0 (ix x) 1 k i = s k i := fun k i q1 q2 => by rw [st_k q2, c3 k i q1]
    have g8 : ∀ c, c < 4 → c ≠ 2 + ix x → eq8 (crC s c) (crC (st s1 12 0 (ix x) 1) c) := fun c hc hn => crC_k (g _ _ (by unfold OC; omega) (by decide)) (fun j hj => g _ _ (by unfold OC; omega) (by decide)) (fun j hj => g _ _ (by unfold OC; omega) (by decide)) (g _ _ (by unfold OC; omega) (by decide)) (fun j hj => g _ _ (by unfold OC; omega) (by decide))
    have g2 : eq8 (crC s1 (2 + ix x)) (crC (st s1 12 0 (ix x) 1) (2 + ix x)) := crC_k (by rw [st_k (by decide)]) (fun j _ => by rw [st_k (by decide)]) (fun j _ => by rw [st_k (by decide)]) (by rw [st_k (by decide)]) (fun j _ => by rw [st_k (by decide)])
    obtain ⟨hk, h1, h2, h3, h4, h5⟩ := h
    have e17 := a2 17 (by decide) (by decide)
    have wM := hk.1.wf hk.2
    have l1 := inb_ix wM.1
    have l2 := inb_ix wM.2.1
    have l3 := inb_ix wM.2.2.1
    have new : eqR (crM m) (crI m' (ix x)) := by
      refine ⟨a5.symm, a6.symm, a7.symm, a8.symm, fun j hj k hk => ?_, fun j hj k hk => ?_, fun j hj => ?_⟩
      · show m (19 + k) 0 j = m' 34 0 (102 * ix x + (8 + 6 * k) + j)
        rw [← a9 j (by omega) k (by omega), show 102 * ix x + 8 + 6 * k + j = 102 * ix x + (8 + 6 * k) + j by omega]
      · show m (23 + k) 0 j = m' 34 0 (102 * ix x + (32 + 6 * k) + j)
        have := a9 j (by omega) (k + 4) (by omega)
        rw [show 19 + (k + 4) = 23 + k by omega, show 102 * ix x + 8 + 6 * (k + 4) + j = 102 * ix x + (32 + 6 * k) + j by omega] at this
        rw [this]
      · show aM m j = mI (m' 34 0) (102 * ix x + 62 + 5 * j)
        rw [aM_mI]
        unfold mI
        have q : ∀ d, d < 5 → m' 34 0 (102 * ix x + 62 + 5 * j + d) = m 30 0 (5 * j + d) := fun d hd => by
          rw [← a10 (5 * j + d) (by omega), show 102 * ix x + 62 + (5 * j + d) = 102 * ix x + 62 + 5 * j + d by omega]
        rw [q 1 (by decide), q 2 (by decide), q 3 (by decide), q 4 (by decide)]
        have q0 : m' 34 0 (102 * ix x + 62 + 5 * j) = m 30 0 (5 * j) := q 0 (by decide)
        rw [q0]
    have wS : wfR (crC s1 (2 + ix x)) := c2.wf hk.2
    have one : RI (st s1 12 0 (ix x) 1) m' (ix x) := by
      refine ⟨by rw [st_v, if_pos ⟨rfl, rfl, rfl⟩, a3], fun _ => ⟨?_, ?_⟩⟩
      · exact (g2.R wS).sm.tr (c2.sm.tr (hk.1.tr new))
      · exact (g2.R wS).wf wS
    have oth : ∀ i, i < 2 → i ≠ ix x → RI s m i → RI (st s1 12 0 (ix x) 1) m' i := fun i h2 hn hr => by
      have e12 : st s1 12 0 (ix x) 1 12 0 i = s 12 0 i := by rw [st_v, if_neg (by omega), c3 12 0 (by unfold OC; omega)]
      refine ⟨by rw [e12, a4 i hn]; exact hr.1, fun q => ?_⟩
      rw [e12] at q
      obtain ⟨r1, r2⟩ := hr.2 q
      have e8 := (g8 (2 + i) (by omega) (by omega)).R r2
      exact ⟨e8.sm.tr (r1.tr (crI_q (r1.wf r2) (fun y q1 q2 => a11 y (by omega)))), e8.wf r2⟩
    refine ⟨hk.keep (g8 0 (by omega) (by omega)) (crM_k (fun y _ => by rw [e17]) (fun k hk => by rw [a2 k (by omega) (by omega)])), ?_, ?_, ?_, ?_, ?_⟩
    · unfold RT
      rw [g 5 0 (by unfold OC; omega) (by decide), g 16 0 (by unfold OC; omega) (by decide), e17, a2 28 (by decide) (by decide)]; exact h1
    · unfold RF
      rw [g 0 0 (by unfold OC; omega) (by decide)]; exact h2
    · unfold RR
      rw [g 0 0 (by unfold OC; omega) (by decide), a2 18 (by decide) (by decide)]; exact h3
    · by_cases e : 0 = ix x
      · have := one
        rw [← e] at this ⊢
        exact this
      · exact oth 0 (by decide) e h4
    · by_cases e : 1 = ix x
      · have := one
        rw [← e] at this ⊢
        exact this
      · exact oth 1 (by decide) e h5
theorem op_from {s m : Sto} {L : Lng} (h : RS s m L) (x : Int32) : OPI (f_T_from s x) (f_m_from m x) L := by
  cases hx : outB x 0 1 with
  | true =>
    rw [f_T_from, f_m_from, out_C, in_M, bP_s, bP_s, hx, if_neg b2t, Bool.not_true, if_pos b2f, bad_C, bad_M]
    exact op_bad h _
  | false =>
    obtain ⟨ex, hi⟩ := x01 hx
    have i2 : inb x 2 := by rw [ex]; exact inb_nI hi (by omega)
    have hr : RI s m (ix x) := by
      rcases (show ix x = 0 ∨ ix x = 1 by omega) with e | e
      · rw [e]; exact h.2.2.2.2.1
      · rw [e]; exact h.2.2.2.2.2
    by_cases hz : s 12 0 (ix x) = 0
    · have hzm : m 35 0 (ix x) = 0 := by rw [← hr.1]; exact hz
      rw [f_T_from, f_m_from, out_C, in_M, bP_s, bP_s, hx, if_pos b2f, Bool.not_false, if_neg b2t, if_pos i2, if_pos hz, if_pos i2, if_pos hzm, no_C, no_M]
      exact op_no h _
    · obtain ⟨r1, r2⟩ := hr.2 hz
      have hzm : ¬ m 35 0 (ix x) = 0 := by rw [← hr.1]; exact hz
      obtain ⟨s1, c1, c2, c3⟩ := bec_C (s := s) (c := 0) (d := 2 + ix x) (by omega) (by omega) (by omega) r2
      obtain ⟨m', a1, a2, a3, a4, a5, a6, a7, a8, a9⟩ := fr_M (m := m) hi hzm
      rw [← ex] at a1
      rw [f_T_from, out_C, bP_s, hx, if_pos b2f, if_pos i2, if_neg hz, if_pos i2, c1, bV_s, a1]
      have wI := r1.wf r2
      have l1 := inb_ix wI.1
      have l2 := inb_ix wI.2.1
      have l3 := inb_ix wI.2.2.1
      have new : eqR (crI m (ix x)) (crM m') := by
        refine ⟨a4.symm, a5.symm, a6.symm, a7.symm, fun j hj k hk => ?_, fun j hj k hk => ?_, fun j hj => ?_⟩
        · show m 34 0 (102 * ix x + (8 + 6 * k) + j) = m' (19 + k) 0 j
          rw [a8 j (by omega) k (by omega), show 102 * ix x + 8 + 6 * k + j = 102 * ix x + (8 + 6 * k) + j by omega]
        · show m 34 0 (102 * ix x + (32 + 6 * k) + j) = m' (23 + k) 0 j
          have := a8 j (by omega) (k + 4) (by omega)
          rw [show 19 + (k + 4) = 23 + k by omega, show 102 * ix x + 8 + 6 * (k + 4) + j = 102 * ix x + (32 + 6 * k) + j by omega] at this
          rw [this]
        · show mI (m 34 0) (102 * ix x + 62 + 5 * j) = aM m' j
          rw [aM_mI]
          unfold mI
          have q : ∀ d, d < 5 → m' 30 0 (5 * j + d) = m 34 0 (102 * ix x + 62 + 5 * j + d) := fun d hd => by
            rw [a9 (5 * j + d) (by omega), show 102 * ix x + 62 + (5 * j + d) = 102 * ix x + 62 + 5 * j + d by omega]
          rw [q 1 (by decide), q 2 (by decide), q 3 (by decide), q 4 (by decide)]
          have q0 : m' 30 0 (5 * j) = m 34 0 (102 * ix x + 62 + 5 * j) := q 0 (by decide)
          rw [q0]
      refine ⟨_, _, _, rfl, rfl, h.of ⟨c2.sm.tr (r1.tr new), c2.wf r2⟩ ?_ ?_⟩
      · exact ⟨fun k i n => c3 k i (by unfold NK at n; unfold OC; omega), fun y _ => by rw [c3 0 0 (by unfold OC; omega)], by rw [c3 5 0 (by unfold OC; omega)]⟩
      · exact ⟨a3 18 (by decide) (by decide) (by decide), a2 28 (by decide) (by decide) (by decide), a2 18 (by decide) (by decide) (by decide), a2 35 (by decide) (by decide) (by decide), a2 34 (by decide) (by decide) (by decide)⟩
