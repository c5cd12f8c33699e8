/-! most: the class's search -/
def dig (k p j : Nat) : Nat := p / 9 ^ (k - 1 - j) % 9
theorem dig_old {k p a j : Nat} (ha : a < 9) (hj : j < k) : dig (k + 1) (9 * p + a) j = dig k p j := by
  unfold dig
  rw [show k + 1 - 1 - j = (k - 1 - j) + 1 by omega, Nat.pow_succ, Nat.mul_comm (9 ^ (k - 1 - j)) 9, ← Nat.div_div_eq_div_mul, show (9 * p + a) / 9 = p by omega]
theorem dig_new {k p a : Nat} (ha : a < 9) : dig (k + 1) (9 * p + a) k = a := by
  unfold dig
  rw [show k + 1 - 1 - k = 0 by omega, Nat.pow_zero, Nat.div_one]
  omega
def TFr (k : Nat) (s s' : Sto) : Prop := (∀ q i, q ≠ 0 → q ≠ 14 → q ≠ 15 → ¬ (q = 4 ∧ 37 + k < i) → s' q i = s q i) ∧ (∀ x, x ≠ 9 → s' 0 0 x = s 0 0 x) ∧ ∀ j, j < k → s' 14 0 j = s 14 0 j
theorem TFr.rf (k : Nat) (s : Sto) : TFr k s s := ⟨fun _ _ _ _ _ _ => rfl, fun _ _ => rfl, fun _ _ => rfl⟩
theorem TFr.tr {k : Nat} {a b c : Sto} (h : TFr k a b) (g : TFr k b c) : TFr k a c := ⟨fun q i q1 q2 q3 q4 => (g.1 q i q1 q2 q3 q4).trans (h.1 q i q1 q2 q3 q4), fun x hx => (g.2.1 x hx).trans (h.2.1 x hx), fun j hj => (g.2.2 j hj).trans (h.2.2 j hj)⟩
theorem TFr.up {k : Nat} {a b : Sto} (h : TFr (k + 1) a b) : TFr k a b := ⟨fun q i q1 q2 q3 q4 => h.1 q i q1 q2 q3 (by omega), h.2.1, fun j hj => h.2.2 j (by omega)⟩
theorem TFr.pc {k : Nat} (s : Sto) (i : Nat) (hi : 37 + k < i) (v : M5) : TFr k s (pC s i v) := by
  refine ⟨fun q j q1 q2 q3 q4 => ?_, fun x _ => by rw [pC_k (by decide)], fun j _ => by rw [pC_k (by decide)]⟩
  by_cases e : q = 4
  · subst e; exact pC_i (by omega)
  · rw [pC_k e]
theorem TFr.way {k : Nat} (s : Sto) (v : Int32) : TFr k s (st s 14 0 k v) := by
  refine ⟨fun q j q1 q2 q3 q4 => by rw [st_k q2], fun x _ => by rw [st_k (by decide)], fun j hj => by rw [st_v, if_neg (by omega)]⟩
theorem TFr.e {k : Nat} {s s' : Sto} (h : TFr k s s') : eC s' 0 = eC s 0 := by
  funext j x; unfold eC; rw [h.1 2 _ (by decide) (by decide) (by decide) (by omega)]
theorem TFr.g {k : Nat} {s s' : Sto} (h : TFr k s s') : gC s' (37 + k) = gC s (37 + k) := gC_k (h.1 4 _ (by decide) (by decide) (by decide) (by omega))
/-- what the search keeps: the most, and the first way that has it -/
def BW (N : Nat) (s : Sto) (x : Int × Nat) : Prop := (s 0 0 9).toInt = x.1 ∧ -1 ≤ x.1 ∧ (-1 < x.1 → ∀ j, j < N → s 15 0 j = nI (dig N x.2 j))
theorem BW.k {N : Nat} {s s' : Sto} {x : Int × Nat} (h : BW N s x) (h0 : s' 0 0 = s 0 0) (h15 : s' 15 0 = s 15 0) : BW N s' x := by
  unfold BW; rw [h0, h15]; exact h
def tfc (rec : Sto → Int32 → Int32 → Int32 → Int32 → Option Sto) (g : Int32) (k N a : Nat) (s15 : Sto) (h' : Int32) : Option Sto := bV (f_Mo_pass (st s15 14 0 k (nI a)) (37 + (k + 1)) 1 g) (fun s22 => rec s22 (nI (k + 1)) (nI N) h' g)
def EH (n : Nat) (s : Sto) (e : HEnv) : Prop := eC s 0 = e ∧ HC n s 0
theorem TFr.eh {n k : Nat} {s s' : Sto} {e : HEnv} (h : TFr k s s') (q : EH n s e) : EH n s' e := by
  refine ⟨by rw [h.e]; exact q.1, ?_⟩
  unfold HC; rw [h.1 1 0 (by decide) (by decide) (by decide) (by omega)]; exact q.2
/-- a search below step k, of r days -/
def SRC (rec : Sto → Int32 → Int32 → Int32 → Int32 → Option Sto) (g : Int32) (n N r k : Nat) (D : Nat → Int) (e : HEnv) : Prop :=
  ∀ (s : Sto) (p h : Nat) (M : Int) (W : Nat), EH n s e → okS n (gC s (37 + k)) → prd (gC s (37 + k)) → grV e (gC s (37 + k)) = g → h ≤ k → BW N s (M, W) → (∀ u, u < 9 ^ r → D (p * 9 ^ r + u) = drN e r (gC s (37 + k)) h u) → (∀ j, j < k → s 14 0 j = nI (dig k p j)) → ∃ s', rec s (nI k) (nI N) (nI h) g = some s' ∧ BW N s' (flt D (p * 9 ^ r) (9 ^ r) M W) ∧ TFr k s s'
theorem child {rec : Sto → Int32 → Int32 → Int32 → Int32 → Option Sto} {g : Int32} {n N r k : Nat} {D : Nat → Int} {e : HEnv} (he : okE n e) (ih : SRC rec g n N r (k + 1) D e) {s4 : Sto} {p a h' : Nat} {w : M5} {M : Int} {W : Nat} (h1 : EH n s4 e) (ha : a < 9) (hw : okS n w) (hp : prd w) (hg : grV e w = g) (hh : h' ≤ k + 1) (hb : BW N s4 (M, W)) (hD : ∀ u, u < 9 ^ r → D ((9 * p + a) * 9 ^ r + u) = drN e r (pdV e w) h' u) (hway : ∀ j, j < k → s4 14 0 j = nI (dig k p j)) : ∃ s25, tfc rec g k N a (pC s4 (37 + (k + 1)) w) (nI h') = some s25 ∧ BW N s25 (flt D ((9 * p + a) * 9 ^ r) (9 ^ r) M W) ∧ TFr k s4 s25 := by
  have e1 : (1 : Int32) = nI 1 := by decide +kernel
  have eg : gC (st (pC s4 (37 + (k + 1)) w) 14 0 k (nI a)) (37 + (k + 1)) = w := by rw [gC_st (by decide), gC_pC]
  have hpd := mpg_C (s := st (pC s4 (37 + (k + 1)) w) 14 0 k (nI a)) (i := 37 + (k + 1)) (N := 1) (g := g) e (by rw [eg]; exact hg) (by omega)
  rw [eg, ← e1] at hpd
  have f1 : TFr k s4 (pC (st (pC s4 (37 + (k + 1)) w) 14 0 k (nI a)) (37 + (k + 1)) (pdN e 1 w)) := ((TFr.pc s4 _ (by omega) w).tr (TFr.way _ _)).tr (TFr.pc _ _ (by omega) _)
  have g1 : gC (pC (st (pC s4 (37 + (k + 1)) w) 14 0 k (nI a)) (37 + (k + 1)) (pdN e 1 w)) (37 + (k + 1)) = pdV e w := gC_pC _ _ _
  have w1 : ∀ j, j < k + 1 → pC (st (pC s4 (37 + (k + 1)) w) 14 0 k (nI a)) (37 + (k + 1)) (pdN e 1 w) 14 0 j = nI (dig (k + 1) (9 * p + a) j) := fun j hj => by
    rw [pC_k (by decide)]
    by_cases q : j = k
    · subst q
      rw [st_v, if_pos ⟨rfl, rfl, rfl⟩, dig_new ha]
    · rw [st_v, if_neg (by omega), pC_k (by decide), hway j (by omega), dig_old ha (by omega)]
  have b1 : BW N (pC (st (pC s4 (37 + (k + 1)) w) 14 0 k (nI a)) (37 + (k + 1)) (pdN e 1 w)) (M, W) := hb.k (by rw [pC_k (by decide), st_k (by decide), pC_k (by decide)]) (by rw [pC_k (by decide), st_k (by decide), pC_k (by decide)])
  obtain ⟨s', q1, q2, q3⟩ := ih _ (9 * p + a) h' M W (f1.eh h1) (by rw [g1]; exact pdV_os hw) (by rw [g1]; exact pdV_prd hp) (by rw [g1, grV_pd]; exact hg) hh b1 (by rw [g1]; exact hD) w1
  refine ⟨s', ?_, q2, f1.tr q3.up⟩
  unfold tfc
  rw [hpd, bV_s, q1]
