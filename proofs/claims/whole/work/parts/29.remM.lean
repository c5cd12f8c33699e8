/-! the reference's notes(), lays, takes -/
theorem lits5 : inb (0 : Int32) 5 ∧ inb ((0 : Int32) + 1) 5 ∧ inb ((0 : Int32) + 2) 5 ∧ inb ((0 : Int32) + 3) 5 ∧ inb ((0 : Int32) + 4) 5 ∧ ix ((0 : Int32) + 1) = 1 ∧ ix ((0 : Int32) + 2) = 2 ∧ ix ((0 : Int32) + 3) = 3 ∧ ix ((0 : Int32) + 4) = 4 := by decide +kernel
/-- five places of an array, from b on -/
def l5 (m : Sto) (k b : Nat) (v : M5) : Sto := st (st (st (st (st m k 0 b (mw v)) k 0 (b + 1) (md v)) k 0 (b + 2) (mo v)) k 0 (b + 3) (mp v)) k 0 (b + 4) (mq v)
theorem l5_k {m : Sto} {k b k' : Nat} {v : M5} (h : k' ≠ k) : l5 m k b v k' = m k' := by
  unfold l5; rw [st_k h, st_k h, st_k h, st_k h, st_k h]
theorem l5_o {m : Sto} {k b : Nat} {v : M5} {x : Nat} (h : x < b ∨ b + 5 ≤ x) : l5 m k b v k 0 x = m k 0 x := by
  unfold l5
  rw [st_v, if_neg (by omega), st_v, if_neg (by omega), st_v, if_neg (by omega), st_v, if_neg (by omega), st_v, if_neg (by omega)]
theorem l5_m {m : Sto} {k b : Nat} {v : M5} : mI (l5 m k b v k 0) b = v := by
  have n1 : ∀ a c : Nat, a < c → b + a ≠ b + c := fun a c h => by omega
  have n2 : ∀ a c : Nat, c < a → b + a ≠ b + c := fun a c h => by omega
  unfold mI l5
  simp [st_v, mw, md, mo, mp, mq]
theorem gM_l5 {m : Sto} {k b : Nat} {v : M5} (h : k ≠ 17) : gM (l5 m k b v) = gM m := by unfold gM; rw [l5_k (Ne.symm h)]
theorem nI_off {b d : Nat} (h : b + d < 2147483648) : nI b + nI d = nI (b + d) := nI_add b d
theorem nlt4 : (1 : Int32) = nI 1 ∧ (2 : Int32) = nI 2 ∧ (3 : Int32) = nI 3 ∧ (4 : Int32) = nI 4 ∧ (5 : Int32) = nI 5 := by decide +kernel
theorem ly30 {m : Sto} {b : Nat} (h : b + 4 < 40) : f_m_lays_30 m (nI b) = some (l5 m 30 b (gM m)) := by
  have e : ∀ (z : Sto) (x y : Nat) (v : Int32), st z 30 0 x v 17 0 y = z 17 0 y := fun z x y v => by rw [st_k (by decide)]
  have i0 := inb_nI (j := b) (n := 40) (by omega) (by decide)
  have i1 := inb_nI (j := b + 1) (n := 40) (by omega) (by decide)
  have i2 := inb_nI (j := b + 2) (n := 40) (by omega) (by decide)
  have i3 := inb_nI (j := b + 3) (n := 40) (by omega) (by decide)
  have i4 := inb_nI (j := b + 4) (n := 40) (by omega) (by decide)
  simp only [f_m_lays_30, lt, nlt4.1, nlt4.2.1, nlt4.2.2.1, nlt4.2.2.2.1, nI_add, if_pos i0, if_pos i1, if_pos i2, if_pos i3, if_pos i4, e]
  rw [ix_nI (by omega), ix_nI (by omega), ix_nI (by omega), ix_nI (by omega), ix_nI (by omega)]
  rfl
theorem ly34 {m : Sto} {b : Nat} (h : b + 4 < 204) : f_m_lays_34 m (nI b) = some (l5 m 34 b (gM m)) := by
  have e : ∀ (z : Sto) (x y : Nat) (v : Int32), st z 34 0 x v 17 0 y = z 17 0 y := fun z x y v => by rw [st_k (by decide)]
  have i0 := inb_nI (j := b) (n := 204) (by omega) (by decide)
  have i1 := inb_nI (j := b + 1) (n := 204) (by omega) (by decide)
  have i2 := inb_nI (j := b + 2) (n := 204) (by omega) (by decide)
  have i3 := inb_nI (j := b + 3) (n := 204) (by omega) (by decide)
  have i4 := inb_nI (j := b + 4) (n := 204) (by omega) (by decide)
  simp only [f_m_lays_34, lt, nlt4.1, nlt4.2.1, nlt4.2.2.1, nlt4.2.2.2.1, nI_add, if_pos i0, if_pos i1, if_pos i2, if_pos i3, if_pos i4, e]
  rw [ix_nI (by omega), ix_nI (by omega), ix_nI (by omega), ix_nI (by omega), ix_nI (by omega)]
  rfl
theorem ly31 (m : Sto) : f_m_puts m = some (l5 m 31 0 (gM m)) := by
  have e : ∀ (z : Sto) (x y : Nat) (v : Int32), st z 31 0 x v 17 0 y = z 17 0 y := fun z x y v => by rw [st_k (by decide)]
  obtain ⟨i0, i1, i2, i3, i4, x1, x2, x3, x4⟩ := lits5
  simp only [f_m_puts, f_m_lays_31, lt, if_pos i0, if_pos i1, if_pos i2, if_pos i3, if_pos i4, x1, x2, x3, x4, ix0, e, bV_s]
  rfl
theorem p5_M (m : Sto) (v : M5) : st (st (st (st (st m 17 0 2 (mw v)) 17 0 3 (md v)) 17 0 4 (mo v)) 17 0 5 (mp v)) 17 0 6 (mq v) = pM m v := by
  funext k' i' y
  unfold pM
  by_cases h : k' = 17 ∧ i' = 0
  · obtain ⟨rfl, rfl⟩ := h
    simp only [and_self, if_true]
    by_cases h0 : y = 2
    · subst h0; simp [st]
    by_cases h1 : y = 3
    · subst h1; simp [st]
    by_cases h2 : y = 4
    · subst h2; simp [st]
    by_cases h3 : y = 5
    · subst h3; simp [st]
    by_cases h4 : y = 6
    · subst h4; simp [st]
    simp [h0, h1, h2, h3, h4, st]
  · rw [if_neg h]
    have n : ∀ x, ¬ (k' = 17 ∧ i' = 0 ∧ y = x) := fun x z => h ⟨z.1, z.2.1⟩
    simp only [st, n, if_false]
theorem tk30 {m : Sto} {b : Nat} (h : b + 4 < 40) : f_m_takes_30 m (nI b) = some (pM m (mI (m 30 0) b)) := by
  have e : ∀ (z : Sto) (x y : Nat) (v : Int32), st z 17 0 x v 30 0 y = z 30 0 y := fun z x y v => by rw [st_k (by decide)]
  have i0 := inb_nI (j := b) (n := 40) (by omega) (by decide)
  have i1 := inb_nI (j := b + 1) (n := 40) (by omega) (by decide)
  have i2 := inb_nI (j := b + 2) (n := 40) (by omega) (by decide)
  have i3 := inb_nI (j := b + 3) (n := 40) (by omega) (by decide)
  have i4 := inb_nI (j := b + 4) (n := 40) (by omega) (by decide)
  simp only [f_m_takes_30, lt, nlt4.1, nlt4.2.1, nlt4.2.2.1, nlt4.2.2.2.1, nI_add, if_pos i0, if_pos i1, if_pos i2, if_pos i3, if_pos i4, e]
  rw [ix_nI (by omega), ix_nI (by omega), ix_nI (by omega), ix_nI (by omega), ix_nI (by omega), ← p5_M]
  rfl
theorem tk34 {m : Sto} {b : Nat} (h : b + 4 < 204) : f_m_takes_34 m (nI b) = some (pM m (mI (m 34 0) b)) := by
  have e : ∀ (z : Sto) (x y : Nat) (v : Int32), st z 17 0 x v 34 0 y = z 34 0 y := fun z x y v => by rw [st_k (by decide)]
  have i0 := inb_nI (j := b) (n := 204) (by omega) (by decide)
  have i1 := inb_nI (j := b + 1) (n := 204) (by omega) (by decide)
  have i2 := inb_nI (j := b + 2) (n := 204) (by omega) (by decide)
  have i3 := inb_nI (j := b + 3) (n := 204) (by omega) (by decide)
  have i4 := inb_nI (j := b + 4) (n := 204) (by omega) (by decide)
  simp only [f_m_takes_34, lt, nlt4.1, nlt4.2.1, nlt4.2.2.1, nlt4.2.2.2.1, nI_add, if_pos i0, if_pos i1, if_pos i2, if_pos i3, if_pos i4, e]
  rw [ix_nI (by omega), ix_nI (by omega), ix_nI (by omega), ix_nI (by omega), ix_nI (by omega), ← p5_M]
  rfl
theorem tk31 (m : Sto) : f_m_back m = some (pM m (mI (m 31 0) 0)) := by
  have e : ∀ (z : Sto) (x y : Nat) (v : Int32), st z 17 0 x v 31 0 y = z 31 0 y := fun z x y v => by rw [st_k (by decide)]
  obtain ⟨i0, i1, i2, i3, i4, x1, x2, x3, x4⟩ := lits5
  simp only [f_m_back, f_m_takes_31, lt, if_pos i0, if_pos i1, if_pos i2, if_pos i3, if_pos i4, x1, x2, x3, x4, ix0, e, bV_s]
  rw [← p5_M]
  rfl
/-- the reference's shift of what may be undone -/
theorem nol_M : ∀ (r a fuel : Nat) (m : Sto), a + r = 35 → r < fuel → ∃ m', (∀ K, fx fuel (l_m_notes_11 K) (fun _ _ => none) m (nI a) = K m') ∧ (∀ k, k ≠ 30 → m' k = m k) ∧ (∀ x, a ≤ x → x < 35 → m' 30 0 x = m 30 0 (x + 5)) ∧ ∀ x, (x < a ∨ 35 ≤ x) → m' 30 0 x = m 30 0 x
  | 0, a, fuel, m, h, hf => by
    obtain ⟨f, rfl⟩ : ∃ f, fuel = f + 1 := ⟨fuel - 1, by omega⟩
    refine ⟨m, fun K => ?_, fun _ _ => rfl, fun x q1 q2 => by omega, fun _ _ => rfl⟩
    rw [fx_s]
    unfold l_m_notes_11
    rw [show a = 35 by omega, if_pos (by decide +kernel)]
  | r + 1, a, fuel, m, h, hf => by
    obtain ⟨f, rfl⟩ : ∃ f, fuel = f + 1 := ⟨fuel - 1, by omega⟩
    obtain ⟨m', h1, h2, h3, h4⟩ := nol_M r (a + 1) f (st m 30 0 a (m 30 0 (a + 5))) (by omega) (by omega)
    refine ⟨m', fun K => ?_, fun k hk => by rw [h2 k hk, st_k hk], fun x q1 q2 => ?_, fun x q => ?_⟩
    · rw [fx_s]
      unfold l_m_notes_11
      have e35 : (35 : Int32) = nI 35 := by decide +kernel
      have e5 : (5 : Int32) = nI 5 := by decide +kernel
      rw [if_neg (by rw [e35]; exact nI_ge (by omega) (by omega)), e5, nI_add, if_pos (inb_nI (by omega) (by omega)), if_pos (inb_nI (by omega) (by omega)), ix_nI (by omega), ix_nI (by omega), nI_1]
      exact h1 K
    · by_cases e : x = a
      · subst e
        rw [h4 x (by omega), st_v, if_pos ⟨rfl, rfl, rfl⟩]
      · rw [h3 x (by omega) q2, st_v, if_neg (by omega)]
    · rw [h4 x (by omega), st_v, if_neg (by omega)]
theorem aM_k {m m' : Sto} {j : Nat} (h : ∀ x, 5 * j ≤ x → x < 5 * j + 5 → m' 30 0 x = m 30 0 x) : aM m' j = aM m j := by
  unfold aM
  rw [h _ (by omega) (by omega), h _ (by omega) (by omega), h _ (by omega) (by omega), h _ (by omega) (by omega), h _ (by omega) (by omega)]
theorem aM_mI (m : Sto) (j : Nat) : aM m j = mI (m 30 0) (5 * j) := rfl
def nt1 (s1 : Sto) : Option Sto := bV (f_m_lays_30 s1 ((5 : Int32) * s1 17 0 27)) (fun s3 => some (st s3 17 0 27 (s3 17 0 27 + 1)))
theorem jn_e {α β : Type} (k : α) (f : α → β) : jn k f = f k := rfl
theorem lt_e {α β : Type} (k : α) (f : α → β) : lt k f = f k := rfl
theorem nt1_e : (fun s1 => bV (f_m_lays_30 s1 ((5 : Int32) * (s1 17 0 27))) (fun s3 => lt (st s3 17 0 27 ((s3 17 0 27) + (1 : Int32))) (fun s4 => some s4))) = nt1 := rfl
theorem notes_if (m : Sto) : f_m_notes m = if m 17 0 27 = 8 then fx 1000 (l_m_notes_11 (fun s5 => lt (st s5 17 0 27 ((s5 17 0 27) - (1 : Int32))) (fun s7 => nt1 s7))) (fun _ _ => none) m 0 else nt1 m := by
  unfold f_m_notes
  rw [nt1_e, jn_e, jn_e]
theorem rem_M {m : Sto} (w : wfR (crM m)) : ∃ m', f_m_notes m = some m' ∧ eqR (remX (crM m)) (crM m') ∧ KM m m' := by
  have w3 : inb (m 17 0 27) 9 := w.2.2.1
  have e5 : (5 : Int32) = nI 5 := by decide +kernel
  rw [notes_if]
  by_cases e : m 17 0 27 = 8
  · rw [if_pos e]
    obtain ⟨z, h1, h2, h3, h4⟩ := nol_M 35 0 1000 m (by omega) (by omega)
    have h1' := fun K => (show fx 1000 (l_m_notes_11 K) (fun _ _ => none) m 0 = K z by rw [← nI_0]; exact h1 K)
    rw [h1', lt_e]
    unfold nt1
    rw [h2 17 (by decide), e, show (8 : Int32) - 1 = nI 7 by decide +kernel]
    have a7 : st z 17 0 27 (nI 7) 17 0 27 = nI 7 := by rw [st_v, if_pos ⟨rfl, rfl, rfl⟩]
    rw [a7, show (5 : Int32) * nI 7 = nI 35 by decide +kernel, ly30 (by omega), bV_s]
    have g0 : gM (st z 17 0 27 (nI 7)) = gM m := by rw [gM_x (by decide)]; unfold gM; rw [h2 17 (by decide)]
    rw [g0]
    have b7 : l5 (st z 17 0 27 (nI 7)) 30 35 (gM m) 17 0 27 = nI 7 := by rw [l5_k (by decide), a7]
    rw [b7, show nI 7 + 1 = 8 by decide +kernel]
    have f17 : ∀ x, x ≠ 27 → st (l5 (st z 17 0 27 (nI 7)) 30 35 (gM m)) 17 0 27 8 17 0 x = m 17 0 x := fun x hx => by
      rw [st_v, if_neg (by omega), l5_k (by decide), st_v, if_neg (by omega), h2 17 (by decide)]
    have fk : ∀ k, k ≠ 17 → k ≠ 30 → st (l5 (st z 17 0 27 (nI 7)) 30 35 (gM m)) 17 0 27 8 k = m k := fun k q1 q2 => by
      rw [st_k q1, l5_k q2, st_k q1, h2 k q2]
    have f27 : st (l5 (st z 17 0 27 (nI 7)) 30 35 (gM m)) 17 0 27 8 17 0 27 = 8 := by rw [st_v, if_pos ⟨rfl, rfl, rfl⟩]
    have fg : gM (st (l5 (st z 17 0 27 (nI 7)) 30 35 (gM m)) 17 0 27 8) = gM m := by rw [gM_x (by decide), gM_l5 (by decide), g0]
    have q30 : st (l5 (st z 17 0 27 (nI 7)) 30 35 (gM m)) 17 0 27 8 30 = l5 (st z 17 0 27 (nI 7)) 30 35 (gM m) 30 := st_k (by decide)
    have v : ∀ x, x < 35 → st (l5 (st z 17 0 27 (nI 7)) 30 35 (gM m)) 17 0 27 8 30 0 x = m 30 0 (x + 5) := fun x hx => by
      rw [q30, l5_o (by omega), st_k (by decide), h3 x (by omega) hx]
    have v7 : mI (st (l5 (st z 17 0 27 (nI 7)) 30 35 (gM m)) 17 0 27 8 30 0) 35 = gM m := by rw [q30, l5_m]
    generalize st (l5 (st z 17 0 27 (nI 7)) 30 35 (gM m)) 17 0 27 8 = m' at f17 fk f27 fg q30 v v7 ⊢
    refine ⟨m', rfl, ?_, f17 18 (by decide), fk 28 (by decide) (by decide), fk 18 (by decide) (by decide), fk 35 (by decide) (by decide), fk 34 (by decide) (by decide)⟩
    rw [remX_8 (show xp (crM m) = 8 from e)]
    refine ⟨(f17 1 (by decide)).symm, (f17 7 (by decide)).symm, ?_, fg.symm, fun j hj k hk => ?_, fun j hj k hk => ?_, fun j hj => ?_⟩
    · show m 17 0 27 = m' 17 0 27
      rw [f27, e]
    · show m (19 + k) 0 j = m' (19 + k) 0 j
      rw [fk _ (by omega) (by omega)]
    · show m (23 + k) 0 j = m' (23 + k) 0 j
      rw [fk _ (by omega) (by omega)]
    · have hj' : j < 8 := by
        have : j < ix (m 17 0 27) := hj
        rw [e, ix8] at this; exact this
      show (if j < 7 then aM m (j + 1) else gM m) = aM m' j
      rw [aM_mI m' j]
      by_cases q : j < 7
      · rw [if_pos q, aM_mI]
        unfold mI
        rw [v _ (by omega), v _ (by omega), v _ (by omega), v _ (by omega), v _ (by omega)]
        rfl
      · rw [if_neg q, show 5 * j = 35 by omega, v7]
  · rw [if_neg e]
    have hl := (lt8 w3).mpr e
    have hn : inb (m 17 0 27) 8 := inb_of_lt w3 (by decide +kernel) hl
    have hi := inb_ix hn
    have e27 : (5 : Int32) * m 17 0 27 = nI (5 * ix (m 17 0 27)) := by
      rw [of_ix hn.1, e5, pk_mul, ix_nI (by omega)]
    unfold nt1
    rw [e27, ly30 (by omega), bV_s]
    have b7 : l5 m 30 (5 * ix (m 17 0 27)) (gM m) 17 0 27 = m 17 0 27 := by rw [l5_k (by decide)]
    rw [b7]
    have f17 : ∀ x v, x ≠ 27 → st (l5 m 30 (5 * ix (m 17 0 27)) (gM m)) 17 0 27 v 17 0 x = m 17 0 x := fun x v hx => by
      rw [st_v, if_neg (by omega), l5_k (by decide)]
    have fk : ∀ k v, k ≠ 17 → k ≠ 30 → st (l5 m 30 (5 * ix (m 17 0 27)) (gM m)) 17 0 27 v k = m k := fun k v q1 q2 => by
      rw [st_k q1, l5_k q2]
    have f27 : st (l5 m 30 (5 * ix (m 17 0 27)) (gM m)) 17 0 27 (m 17 0 27 + 1) 17 0 27 = m 17 0 27 + 1 := by rw [st_v, if_pos ⟨rfl, rfl, rfl⟩]
    have fg : gM (st (l5 m 30 (5 * ix (m 17 0 27)) (gM m)) 17 0 27 (m 17 0 27 + 1)) = gM m := by rw [gM_x (by decide), gM_l5 (by decide)]
    have q30 : st (l5 m 30 (5 * ix (m 17 0 27)) (gM m)) 17 0 27 (m 17 0 27 + 1) 30 = l5 m 30 (5 * ix (m 17 0 27)) (gM m) 30 := st_k (by decide)
    have va : aM (st (l5 m 30 (5 * ix (m 17 0 27)) (gM m)) 17 0 27 (m 17 0 27 + 1)) (ix (m 17 0 27)) = gM m := by rw [aM_mI, q30, l5_m]
    have vb : ∀ j, j ≠ ix (m 17 0 27) → aM (st (l5 m 30 (5 * ix (m 17 0 27)) (gM m)) 17 0 27 (m 17 0 27 + 1)) j = aM m j := fun j q => aM_k (fun x h1 h2 => by rw [q30, l5_o (by omega)])
    have f17 := fun x hx => f17 x (m 17 0 27 + 1) hx
    have fk := fun k q1 q2 => fk k (m 17 0 27 + 1) q1 q2
    generalize st (l5 m 30 (5 * ix (m 17 0 27)) (gM m)) 17 0 27 (m 17 0 27 + 1) = m' at f17 fk f27 fg va vb ⊢
    refine ⟨m', rfl, ?_, f17 18 (by decide), fk 28 (by decide) (by decide), fk 18 (by decide) (by decide), fk 35 (by decide) (by decide), fk 34 (by decide) (by decide)⟩
    rw [remX_n (show ¬ xp (crM m) = 8 from e)]
    refine ⟨(f17 1 (by decide)).symm, (f17 7 (by decide)).symm, f27.symm, fg.symm, fun j hj k hk => ?_, fun j hj k hk => ?_, fun j hj => ?_⟩
    · show m (19 + k) 0 j = m' (19 + k) 0 j
      rw [fk _ (by omega) (by omega)]
    · show m (23 + k) 0 j = m' (23 + k) 0 j
      rw [fk _ (by omega) (by omega)]
    · show (if j = ix (m 17 0 27) then gM m else aM m j) = aM m' j
      by_cases q : j = ix (m 17 0 27)
      · rw [if_pos q, q, va]
      · rw [if_neg q, vb j q]
