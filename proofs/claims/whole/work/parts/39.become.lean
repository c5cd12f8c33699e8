/-! a court becomes another (class) -/
theorem heb_C (s : Sto) (i j : Nat) : f_He_become s i j = some (hput s i (s 2 j 0) (s 2 j 1) (s 2 j 2) (s 2 j 3)) := by
  rw [f_He_become, hp_C, bV_s]
theorem nob_C (s : Sto) (i j : Nat) : f_No_become s i j = some (nput s i (s 3 j 0) (s 3 j 1) (s 3 j 2) (s 3 j 3) (s 3 j 4)) := by
  rw [f_No_become, np_C, bV_s]
theorem cb1 (c d : Nat) (hcd : c ≠ d) {N : Nat} (h6 : N ≤ 6) : ∀ (r a fuel : Nat) (s : Sto), s 1 c 5 = nI N → a + r = N → r < fuel → ∃ s', (∀ K, fx fuel (l_Co_become_37 c d K) (fun _ _ => none) s (nI a) = K s') ∧ (∀ j, a ≤ j → j < N → ∀ k, k < 4 → s' 2 (6 * c + j) k = s 2 (6 * d + j) k) ∧ ∀ k i, ¬ (k = 2 ∧ 6 * c + a ≤ i ∧ i < 6 * c + N) → s' k i = s k i
  | 0, a, fuel, s, hn, h, hf => by
    obtain ⟨f, rfl⟩ : ∃ f, fuel = f + 1 := ⟨fuel - 1, by omega⟩
    refine ⟨s, fun K => ?_, fun j q1 q2 => by omega, fun _ _ _ => rfl⟩
    rw [fx_s, l_Co_become_37, hn, if_pos ((nI_leI (by omega) (by omega)).mpr (by omega))]
  | r + 1, a, fuel, s, hn, h, hf => by
    obtain ⟨f, rfl⟩ : ∃ f, fuel = f + 1 := ⟨fuel - 1, by omega⟩
    have i6 := inb_nI (j := a) (n := 6) (by omega) (by omega)
    obtain ⟨s', h1, h2, h3⟩ := cb1 c d hcd h6 r (a + 1) f (hput s (6 * c + a) (s 2 (6 * d + a) 0) (s 2 (6 * d + a) 1) (s 2 (6 * d + a) 2) (s 2 (6 * d + a) 3)) (by rw [hput_k (by decide)]; exact hn) (by omega) (by omega)
    refine ⟨s', fun K => ?_, fun j q1 q2 k hk => ?_, fun k i n => ?_⟩
    · rw [fx_s, l_Co_become_37, hn, if_neg (fun z => by have := (nI_leI (by omega) (by omega)).mp z; omega), if_pos i6, if_pos i6, ix_nI (by omega), heb_C, bV_s, nI_1]
      exact h1 K
    · by_cases e : j = a
      · subst e
        rw [h3 2 (6 * c + j) (by omega), hput_at _ _ _ _ _ _ k hk]
        rcases (show k = 0 ∨ k = 1 ∨ k = 2 ∨ k = 3 by omega) with rfl | rfl | rfl | rfl <;> rfl
      · rw [h2 j (by omega) q2 k hk, hput_i (by omega)]
    · rw [h3 k i (fun z => n ⟨z.1, by omega, z.2.2⟩)]
      by_cases e : k = 2
      · subst e
        exact hput_i (fun z => n ⟨rfl, by omega, by omega⟩)
      · rw [hput_k e]
theorem cb2 (c d : Nat) (hcd : c ≠ d) {N : Nat} (h6 : N ≤ 6) : ∀ (r a fuel : Nat) (s : Sto), s 1 c 6 = nI N → a + r = N → r < fuel → ∃ s', (∀ K, fx fuel (l_Co_become_68 c d K) (fun _ _ => none) s (nI a) = K s') ∧ (∀ j, a ≤ j → j < N → ∀ k, k < 5 → s' 3 (6 * c + j) k = s 3 (6 * d + j) k) ∧ ∀ k i, ¬ (k = 3 ∧ 6 * c + a ≤ i ∧ i < 6 * c + N) → s' k i = s k i
  | 0, a, fuel, s, hn, h, hf => by
    obtain ⟨f, rfl⟩ : ∃ f, fuel = f + 1 := ⟨fuel - 1, by omega⟩
    refine ⟨s, fun K => ?_, fun j q1 q2 => by omega, fun _ _ _ => rfl⟩
    rw [fx_s, l_Co_become_68, hn, if_pos ((nI_leI (by omega) (by omega)).mpr (by omega))]
  | r + 1, a, fuel, s, hn, h, hf => by
    obtain ⟨f, rfl⟩ : ∃ f, fuel = f + 1 := ⟨fuel - 1, by omega⟩
    have i6 := inb_nI (j := a) (n := 6) (by omega) (by omega)
    obtain ⟨s', h1, h2, h3⟩ := cb2 c d hcd h6 r (a + 1) f (nput s (6 * c + a) (s 3 (6 * d + a) 0) (s 3 (6 * d + a) 1) (s 3 (6 * d + a) 2) (s 3 (6 * d + a) 3) (s 3 (6 * d + a) 4)) (by rw [nput_k (by decide)]; exact hn) (by omega) (by omega)
    refine ⟨s', fun K => ?_, fun j q1 q2 k hk => ?_, fun k i n => ?_⟩
    · rw [fx_s, l_Co_become_68, hn, if_neg (fun z => by have := (nI_leI (by omega) (by omega)).mp z; omega), if_pos i6, if_pos i6, ix_nI (by omega), nob_C, bV_s, nI_1]
      exact h1 K
    · by_cases e : j = a
      · subst e
        rw [h3 3 (6 * c + j) (by omega), nput_at _ _ _ _ _ _ _ k hk]
        rcases (show k = 0 ∨ k = 1 ∨ k = 2 ∨ k = 3 ∨ k = 4 by omega) with rfl | rfl | rfl | rfl | rfl <;> rfl
      · rw [h2 j (by omega) q2 k hk, nput_i (by omega)]
    · rw [h3 k i (fun z => n ⟨z.1, by omega, z.2.2⟩)]
      by_cases e : k = 3
      · subst e
        exact nput_i (fun z => n ⟨rfl, by omega, by omega⟩)
      · rw [nput_k e]
theorem cb3 (c d : Nat) (hcd : c ≠ d) {N : Nat} (h6 : N ≤ 8) : ∀ (r a fuel : Nat) (s : Sto), s 1 c 7 = nI N → a + r = N → r < fuel → ∃ s', fx fuel (l_Co_become_99 c d) (fun _ _ => none) s (nI a) = some s' ∧ (∀ j, a ≤ j → j < N → gC s' (4 + 8 * c + j) = gC s (4 + 8 * d + j)) ∧ ∀ k i, ¬ (k = 4 ∧ 4 + 8 * c + a ≤ i ∧ i < 4 + 8 * c + N) → s' k i = s k i
  | 0, a, fuel, s, hn, h, hf => by
    obtain ⟨f, rfl⟩ : ∃ f, fuel = f + 1 := ⟨fuel - 1, by omega⟩
    refine ⟨s, ?_, fun j q1 q2 => by omega, fun _ _ _ => rfl⟩
    rw [fx_s, l_Co_become_99, hn, if_pos ((nI_leI (by omega) (by omega)).mpr (by omega))]
  | r + 1, a, fuel, s, hn, h, hf => by
    obtain ⟨f, rfl⟩ : ∃ f, fuel = f + 1 := ⟨fuel - 1, by omega⟩
    have i8 := inb_nI (j := a) (n := 8) (by omega) (by omega)
    obtain ⟨s', h1, h2, h3⟩ := cb3 c d hcd h6 r (a + 1) f (pC s (4 + 8 * c + a) (gC s (4 + 8 * d + a))) (by rw [pC_k (by decide)]; exact hn) (by omega) (by omega)
    refine ⟨s', ?_, fun j q1 q2 => ?_, fun k i n => ?_⟩
    · rw [fx_s, l_Co_become_99, hn, if_neg (fun z => by have := (nI_leI (by omega) (by omega)).mp z; omega), if_pos i8, if_pos i8, ix_nI (by omega), mbe_C, bV_s, nI_1]
      exact h1
    · by_cases e : j = a
      · subst e
        have q : s' 4 (4 + 8 * c + j) = pC s (4 + 8 * c + j) (gC s (4 + 8 * d + j)) 4 (4 + 8 * c + j) := h3 4 _ (by omega)
        rw [gC_k q, gC_pC]
      · rw [h2 j (by omega) q2]
        exact gC_k (pC_i (by omega))
    · rw [h3 k i (fun z => n ⟨z.1, by omega, z.2.2⟩)]
      by_cases e : k = 4
      · subst e
        exact pC_i (fun z => n ⟨rfl, by omega, by omega⟩)
      · rw [pC_k e]
/-- what belongs to court c -/
def OC (c k i : Nat) : Prop := (k = 1 ∧ i = c) ∨ ((k = 2 ∨ k = 3) ∧ 6 * c ≤ i ∧ i < 6 * c + 6) ∨ (k = 4 ∧ (i = c ∨ (4 + 8 * c ≤ i ∧ i < 4 + 8 * c + 8)))
theorem bec_C {s : Sto} {c d : Nat} (hcd : c ≠ d) (hc : c < 4) (hd : d < 4) (w : wfR (crC s d)) : ∃ s', f_Co_become s c d = some s' ∧ eqR (crC s d) (crC s' c) ∧ ∀ k i, ¬ OC c k i → s' k i = s k i := by
  have w1 : inb (s 1 d 5) 7 := w.1
  have w2 : inb (s 1 d 6) 7 := w.2.1
  have w3 : inb (s 1 d 7) 9 := w.2.2.1
  have n1 := of_ix w1.1
  have n2 := of_ix w2.1
  have n3 := of_ix w3.1
  have l1 := inb_ix w1
  have l2 := inb_ix w2
  have l3 := inb_ix w3
  rw [f_Co_become, mbe_C, bV_s, lt_e, lt_e, lt_e]
  have a5 : pC s c (gC s d) 1 d 5 = s 1 d 5 := by rw [pC_k (by decide)]
  have a6 : st (pC s c (gC s d)) 1 c 5 (s 1 d 5) 1 d 6 = s 1 d 6 := by rw [st_v, if_neg (by omega), pC_k (by decide)]
  have a7 : st (st (pC s c (gC s d)) 1 c 5 (s 1 d 5)) 1 c 6 (s 1 d 6) 1 d 7 = s 1 d 7 := by rw [st_v, if_neg (by omega), st_v, if_neg (by omega), pC_k (by decide)]
  rw [a5, a6, a7]
  have z1 : st (st (st (pC s c (gC s d)) 1 c 5 (s 1 d 5)) 1 c 6 (s 1 d 6)) 1 c 7 (s 1 d 7) 1 c 5 = s 1 d 5 := by rw [st_v, if_neg (by omega), st_v, if_neg (by omega), st_v, if_pos ⟨rfl, rfl, rfl⟩]
  have z2 : st (st (st (pC s c (gC s d)) 1 c 5 (s 1 d 5)) 1 c 6 (s 1 d 6)) 1 c 7 (s 1 d 7) 1 c 6 = s 1 d 6 := by rw [st_v, if_neg (by omega), st_v, if_pos ⟨rfl, rfl, rfl⟩]
  have z3 : st (st (st (pC s c (gC s d)) 1 c 5 (s 1 d 5)) 1 c 6 (s 1 d 6)) 1 c 7 (s 1 d 7) 1 c 7 = s 1 d 7 := by rw [st_v, if_pos ⟨rfl, rfl, rfl⟩]
  have zf : ∀ k i, ¬ (k = 1 ∧ i = c) → ¬ (k = 4 ∧ i = c) → st (st (st (pC s c (gC s d)) 1 c 5 (s 1 d 5)) 1 c 6 (s 1 d 6)) 1 c 7 (s 1 d 7) k i = s k i := fun k i q1 q2 => by
    by_cases e : k = 1
    · subst e
      rw [st_i (fun z => q1 ⟨rfl, z⟩), st_i (fun z => q1 ⟨rfl, z⟩), st_i (fun z => q1 ⟨rfl, z⟩), pC_k (by decide)]
    · rw [st_k e, st_k e, st_k e]
      by_cases e4 : k = 4
      · subst e4
        exact pC_i (fun z => q2 ⟨rfl, z⟩)
      · rw [pC_k e4]
  have z4 : gC (st (st (st (pC s c (gC s d)) 1 c 5 (s 1 d 5)) 1 c 6 (s 1 d 6)) 1 c 7 (s 1 d 7)) c = gC s d := by
    rw [gC_st (by decide), gC_st (by decide), gC_st (by decide), gC_pC]
  generalize st (st (st (pC s c (gC s d)) 1 c 5 (s 1 d 5)) 1 c 6 (s 1 d 6)) 1 c 7 (s 1 d 7) = z at z1 z2 z3 zf z4 ⊢
  obtain ⟨y1, p1, p2, p3⟩ := cb1 c d hcd (N := ix (s 1 d 5)) (by omega) (ix (s 1 d 5)) 0 1000 z (by rw [z1]; exact n1) (by omega) (by omega)
  obtain ⟨y2, q1, q2, q3⟩ := cb2 c d hcd (N := ix (s 1 d 6)) (by omega) (ix (s 1 d 6)) 0 1000 y1 (by rw [p3 1 c (by omega), z2]; exact n2) (by omega) (by omega)
  obtain ⟨y3, r1, r2, r3⟩ := cb3 c d hcd (N := ix (s 1 d 7)) (by omega) (ix (s 1 d 7)) 0 1000 y2 (by rw [q3 1 c (by omega), p3 1 c (by omega), z3]; exact n3) (by omega) (by omega)
  rw [nI_0] at r1
  simp only [nI_0] at p1 q1
  rw [jn_e, p1, jn_e, q1, r1]
  refine ⟨y3, rfl, ⟨?_, ?_, ?_, ?_, ?_, ?_, ?_⟩, fun k i n => ?_⟩
  · show s 1 d 5 = y3 1 c 5
    rw [r3 1 c (by omega), q3 1 c (by omega), p3 1 c (by omega), z1]
  · show s 1 d 6 = y3 1 c 6
    rw [r3 1 c (by omega), q3 1 c (by omega), p3 1 c (by omega), z2]
  · show s 1 d 7 = y3 1 c 7
    rw [r3 1 c (by omega), q3 1 c (by omega), p3 1 c (by omega), z3]
  · show gC s d = gC y3 c
    rw [gC_k (r3 4 c (by omega)), gC_k (q3 4 c (by omega)), gC_k (p3 4 c (by omega)), z4]
  · intro j hj k hk
    have hj' : j < ix (s 1 d 5) := hj
    show s 2 (6 * d + j) k = y3 2 (6 * c + j) k
    rw [r3 2 _ (by omega), q3 2 _ (by omega), p2 j (by omega) hj' k hk, zf 2 _ (by omega) (by omega)]
  · intro j hj k hk
    have hj' : j < ix (s 1 d 6) := hj
    show s 3 (6 * d + j) k = y3 3 (6 * c + j) k
    rw [r3 3 _ (by omega), q2 j (by omega) hj' k hk, p3 3 _ (by omega), zf 3 _ (by omega) (by omega)]
  · intro j hj
    have hj' : j < ix (s 1 d 7) := hj
    show gC s (4 + 8 * d + j) = gC y3 (4 + 8 * c + j)
    rw [r2 j (by omega) hj', gC_k (q3 4 _ (by omega)), gC_k (p3 4 _ (by omega)), gC_k (zf 4 _ (by omega) (by omega))]
  · unfold OC at n
    rw [r3 k i (by omega), q3 k i (by omega), p3 k i (by omega), zf k i (by omega) (by omega)]
