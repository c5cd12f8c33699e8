/-! a court as a value; the relation between class and reference -/
abbrev CR : Type := Int32 × Int32 × Int32 × M5 × HEnv × HEnv × (Nat → M5)
def xh (x : CR) : Int32 := x.1
def xn (x : CR) : Int32 := x.2.1
def xp (x : CR) : Int32 := x.2.2.1
def xm (x : CR) : M5 := x.2.2.2.1
def xe (x : CR) : HEnv := x.2.2.2.2.1
def xt (x : CR) : HEnv := x.2.2.2.2.2.1
def xa (x : CR) : Nat → M5 := x.2.2.2.2.2.2
def eqR (x y : CR) : Prop := xh x = xh y ∧ xn x = xn y ∧ xp x = xp y ∧ xm x = xm y ∧ eqE (ix (xh x)) (xe x) (xe y) ∧ (∀ j, j < ix (xn x) → ∀ k, k < 5 → xt x j k = xt y j k) ∧ ∀ j, j < ix (xp x) → xa x j = xa y j
def wfR (x : CR) : Prop := inb (xh x) 7 ∧ inb (xn x) 7 ∧ inb (xp x) 9 ∧ okE (ix (xh x)) (xe x) ∧ okS (ix (xh x)) (xm x) ∧ in8 (mo (xm x)) ∧ (∀ j, j < ix (xn x) → inb (xt x j 1) 8) ∧ ∀ j, j < ix (xp x) → okS (ix (xh x)) (xa x j) ∧ in8 (mo (xa x j))
theorem eqR.rf (x : CR) : eqR x x := ⟨rfl, rfl, rfl, rfl, fun _ _ _ _ => rfl, fun _ _ _ _ => rfl, fun _ _ => rfl⟩
theorem eqR.sm {x y : CR} (h : eqR x y) : eqR y x := by
  obtain ⟨h1, h2, h3, h4, h5, h6, h7⟩ := h
  refine ⟨h1.symm, h2.symm, h3.symm, h4.symm, fun j hj k hk => (h5 j (by rw [h1]; exact hj) k hk).symm, fun j hj k hk => (h6 j (by rw [h2]; exact hj) k hk).symm, fun j hj => (h7 j (by rw [h3]; exact hj)).symm⟩
theorem eqR.tr {x y z : CR} (h : eqR x y) (g : eqR y z) : eqR x z := by
  obtain ⟨h1, h2, h3, h4, h5, h6, h7⟩ := h
  obtain ⟨g1, g2, g3, g4, g5, g6, g7⟩ := g
  refine ⟨h1.trans g1, h2.trans g2, h3.trans g3, h4.trans g4, fun j hj k hk => (h5 j hj k hk).trans (g5 j (by rw [← h1]; exact hj) k hk), fun j hj k hk => (h6 j hj k hk).trans (g6 j (by rw [← h2]; exact hj) k hk), fun j hj => (h7 j hj).trans (g7 j (by rw [← h3]; exact hj))⟩
theorem eqR.wf {x y : CR} (h : eqR x y) (w : wfR x) : wfR y := by
  obtain ⟨h1, h2, h3, h4, h5, h6, h7⟩ := h
  obtain ⟨w1, w2, w3, w4, w5, w6, w7, w8⟩ := w
  refine ⟨by rw [← h1]; exact w1, by rw [← h2]; exact w2, by rw [← h3]; exact w3, ⟨by rw [← h1]; exact w4.1, fun j hj => ?_⟩, by rw [← h1, ← h4]; exact w5, by rw [← h4]; exact w6, fun j hj => ?_, fun j hj => ?_⟩
  · rw [← h1] at hj
    rw [← h5 j hj 0 (by decide)]
    exact w4.2 j hj
  · rw [← h2] at hj
    rw [← h6 j hj 1 (by decide)]
    exact w7 j hj
  · rw [← h3] at hj
    rw [← h1, ← h7 j hj]
    exact w8 j hj
def tC (s : Sto) (c : Nat) : HEnv := fun j k => s 3 (6 * c + j) k
def tM (s : Sto) : HEnv := fun j k => s (23 + k) 0 j
def aC (s : Sto) (c : Nat) : Nat → M5 := fun j => gC s (4 + 8 * c + j)
def aM (s : Sto) : Nat → M5 := fun j => (s 30 0 (5 * j), s 30 0 (5 * j + 1), s 30 0 (5 * j + 2), s 30 0 (5 * j + 3), s 30 0 (5 * j + 4))
def crC (s : Sto) (c : Nat) : CR := (s 1 c 5, s 1 c 6, s 1 c 7, gC s c, eC s c, tC s c, aC s c)
def crM (s : Sto) : CR := (s 17 0 1, s 17 0 7, s 17 0 27, gM s, eM s, tM s, aM s)
def mI (f : Nat → Int32) (b : Nat) : M5 := (f b, f (b + 1), f (b + 2), f (b + 3), f (b + 4))
def crI (s : Sto) (i : Nat) : CR := (s 34 0 (102 * i), s 34 0 (102 * i + 1), s 34 0 (102 * i + 2), mI (s 34 0) (102 * i + 3), fun j k => s 34 0 (102 * i + (8 + 6 * k) + j), fun j k => s 34 0 (102 * i + (32 + 6 * k) + j), fun j => mI (s 34 0) (102 * i + 62 + 5 * j))
def RT (s m : Sto) : Prop := s 5 0 1 = m 17 0 18 ∧ inb (s 5 0 1) 151 ∧ ∀ j, j < ix (s 5 0 1) → s 16 0 j = m 28 0 j
def RF (s : Sto) (L : Lng) : Prop := L 31 = (s 0 0 10).toInt64 ∧ L 32 = (s 0 0 11).toInt64
def RR (s m : Sto) : Prop := s 0 0 12 = m 18 0 0 ∧ s 0 0 13 = m 18 0 1 ∧ s 0 0 14 = m 18 0 2
def RI (s m : Sto) (i : Nat) : Prop := s 12 0 i = m 35 0 i ∧ (¬ s 12 0 i = 0 → eqR (crC s (2 + i)) (crI m i) ∧ wfR (crC s (2 + i)))
def RK (s m : Sto) : Prop := eqR (crC s 0) (crM m) ∧ wfR (crC s 0)
def RO (s m : Sto) (L : Lng) : Prop := RT s m ∧ RF s L ∧ RR s m ∧ RI s m 0 ∧ RI s m 1
def RS (s m : Sto) (L : Lng) : Prop := RK s m ∧ RO s m L
/-- what is kept of the class's store, but for its court and its own scratch -/
def NK (k i : Nat) : Prop := k = 16 ∨ k = 12 ∨ (k = 1 ∧ (i = 2 ∨ i = 3)) ∨ ((k = 2 ∨ k = 3) ∧ 12 ≤ i) ∨ (k = 4 ∧ (i = 2 ∨ i = 3 ∨ (20 ≤ i ∧ i < 36)))
def KC (s s' : Sto) : Prop := (∀ k i, NK k i → s' k i = s k i) ∧ (∀ x, x ≠ 9 → s' 0 0 x = s 0 0 x) ∧ s' 5 0 1 = s 5 0 1
def eq8 (x y : CR) : Prop := xh x = xh y ∧ xn x = xn y ∧ xp x = xp y ∧ xm x = xm y ∧ (∀ j, j < 6 → ∀ k, xe x j k = xe y j k) ∧ (∀ j, j < 6 → ∀ k, xt x j k = xt y j k) ∧ ∀ j, j < 8 → xa x j = xa y j
theorem eq8.R {x y : CR} (h : eq8 x y) (w : wfR x) : eqR x y := by
  obtain ⟨h1, h2, h3, h4, h5, h6, h7⟩ := h
  obtain ⟨w1, w2, w3, -⟩ := w
  have := inb_ix w1
  have := inb_ix w2
  have := inb_ix w3
  exact ⟨h1, h2, h3, h4, fun j hj k _ => h5 j (by omega) k, fun j hj k _ => h6 j (by omega) k, fun j hj => h7 j (by omega)⟩
def KM (m m' : Sto) : Prop := m' 17 0 18 = m 17 0 18 ∧ m' 28 = m 28 ∧ m' 18 = m 18 ∧ m' 35 = m 35 ∧ m' 34 = m 34
def KL (L L' : Lng) : Prop := L' 31 = L 31 ∧ L' 32 = L 32
theorem KC.rf (s : Sto) : KC s s := ⟨fun _ _ _ => rfl, fun _ _ => rfl, rfl⟩
theorem KM.rf (s : Sto) : KM s s := ⟨rfl, rfl, rfl, rfl, rfl⟩
theorem KC.tr {a b c : Sto} (h : KC a b) (g : KC b c) : KC a c := ⟨fun k i n => (g.1 k i n).trans (h.1 k i n), fun x hx => (g.2.1 x hx).trans (h.2.1 x hx), g.2.2.trans h.2.2⟩
theorem KM.tr {a b c : Sto} (h : KM a b) (g : KM b c) : KM a c := ⟨g.1.trans h.1, g.2.1.trans h.2.1, g.2.2.1.trans h.2.2.1, g.2.2.2.1.trans h.2.2.2.1, g.2.2.2.2.trans h.2.2.2.2⟩
theorem crI_c {m m' : Sto} (h : m' 34 = m 34) (i : Nat) : crI m' i = crI m i := by unfold crI; rw [h]
theorem crC_k {s s' : Sto} {c : Nat} (h1 : s' 1 c = s 1 c) (h2 : ∀ j, j < 6 → s' 2 (6 * c + j) = s 2 (6 * c + j)) (h3 : ∀ j, j < 6 → s' 3 (6 * c + j) = s 3 (6 * c + j)) (h4 : s' 4 c = s 4 c) (h5 : ∀ j, j < 8 → s' 4 (4 + 8 * c + j) = s 4 (4 + 8 * c + j)) : eq8 (crC s c) (crC s' c) := by
  refine ⟨?_, ?_, ?_, ?_, ?_, ?_, ?_⟩
  · show s 1 c 5 = s' 1 c 5; rw [h1]
  · show s 1 c 6 = s' 1 c 6; rw [h1]
  · show s 1 c 7 = s' 1 c 7; rw [h1]
  · show gC s c = gC s' c; unfold gC; rw [h4]
  · intro j hj k; show s 2 (6 * c + j) k = s' 2 (6 * c + j) k; rw [h2 j hj]
  · intro j hj k; show s 3 (6 * c + j) k = s' 3 (6 * c + j) k; rw [h3 j hj]
  · intro j hj; show gC s (4 + 8 * c + j) = gC s' (4 + 8 * c + j); unfold gC; rw [h5 j hj]
theorem KC.c8 {s s' : Sto} (h : ∀ k i, NK k i → s' k i = s k i) (c : Nat) (hc : c = 2 ∨ c = 3) : eq8 (crC s c) (crC s' c) := by
  refine crC_k (h _ _ (by unfold NK; omega)) (fun j hj => h _ _ (by unfold NK; omega)) (fun j hj => h _ _ (by unfold NK; omega)) (h _ _ (by unfold NK; omega)) (fun j hj => h _ _ (by unfold NK; omega))
theorem RI.keep {s s' m m' : Sto} {i : Nat} (h : RI s m i) (h8 : eq8 (crC s (2 + i)) (crC s' (2 + i))) (h12 : s' 12 0 i = s 12 0 i) (h35 : m' 35 0 i = m 35 0 i) (h34 : m' 34 = m 34) : RI s' m' i := by
  obtain ⟨a, b⟩ := h
  refine ⟨by rw [h12, h35]; exact a, fun hn => ?_⟩
  rw [h12] at hn
  obtain ⟨e, w⟩ := b hn
  have e2 := h8.R w
  exact ⟨by rw [crI_c h34]; exact e2.sm.tr e, e2.wf w⟩
theorem RO.keep {s s' m m' : Sto} {L L' : Lng} (h : RO s m L) (kc : KC s s') (km : KM m m') (kl : KL L L') : RO s' m' L' := by
  obtain ⟨h1, h2, h3, h4, h5⟩ := h
  obtain ⟨c0, c1, c2⟩ := kc
  obtain ⟨m1, m2, m3, m4, m5⟩ := km
  have c12 : s' 12 0 = s 12 0 := c0 12 0 (by unfold NK; omega)
  have c16 : s' 16 0 = s 16 0 := c0 16 0 (by unfold NK; omega)
  refine ⟨?_, ?_, ?_, ?_, ?_⟩
  · unfold RT; rw [c2, c16, m1, m2]; exact h1
  · unfold RF; rw [kl.1, kl.2, c1 10 (by decide), c1 11 (by decide)]; exact h2
  · unfold RR; rw [m3, c1 12 (by decide), c1 13 (by decide), c1 14 (by decide)]; exact h3
  · exact h4.keep (KC.c8 c0 2 (by decide)) (by rw [c12]) (by rw [m4]) m5
  · exact h5.keep (KC.c8 c0 3 (by decide)) (by rw [c12]) (by rw [m4]) m5
theorem st_KC {s : Sto} {k i x : Nat} {v : Int32} (h : ¬ NK k i) (h0 : k ≠ 0) (h5 : k ≠ 5) : KC s (st s k i x v) := by
  refine ⟨fun k' i' n => ?_, fun y _ => ?_, ?_⟩
  · by_cases e : k' = k
    · subst e
      by_cases e2 : i' = i
      · subst e2; exact absurd n h
      · exact st_i e2
    · rw [st_k e]
  · rw [st_k (Ne.symm h0)]
  · rw [st_k (Ne.symm h5)]
theorem pC_KC {s : Sto} {i : Nat} {m : M5} (h : ¬ NK 4 i) : KC s (pC s i m) := by
  refine ⟨fun k' i' n => ?_, fun y _ => ?_, ?_⟩
  · by_cases e : k' = 4
    · subst e
      by_cases e2 : i' = i
      · subst e2; exact absurd n h
      · exact pC_i e2
    · rw [pC_k e]
  · rw [pC_k (by decide)]
  · rw [pC_k (by decide)]
theorem st_KM {s : Sto} {k x : Nat} {v : Int32} (h : k ≠ 17) (h1 : k ≠ 28) (h2 : k ≠ 18) (h3 : k ≠ 35) (h4 : k ≠ 34) : KM s (st s k 0 x v) := ⟨by rw [st_k (Ne.symm h)], st_k (Ne.symm h1), st_k (Ne.symm h2), st_k (Ne.symm h3), st_k (Ne.symm h4)⟩
theorem st_KM17 {s : Sto} {x : Nat} {v : Int32} (h : x ≠ 18) : KM s (st s 17 0 x v) := ⟨by simp [st, Ne.symm h], st_k (by decide), st_k (by decide), st_k (by decide), st_k (by decide)⟩
theorem pM_KM {s : Sto} {m : M5} : KM s (pM s m) := ⟨by simp [pM], pM_k (by decide), pM_k (by decide), pM_k (by decide), pM_k (by decide)⟩
theorem KL.rf (L : Lng) : KL L L := ⟨rfl, rfl⟩
/-- both answer alike, and the relation holds behind it -/
def OPI (x y : Option (Int32 × Sto)) (L : Lng) : Prop := ∃ r s' m', x = some (r, s') ∧ y = some (r, m') ∧ RS s' m' L
theorem crM_k {m m' : Sto} (h1 : ∀ x, x = 1 ∨ x = 2 ∨ x = 3 ∨ x = 4 ∨ x = 5 ∨ x = 6 ∨ x = 7 ∨ x = 27 → m' 17 0 x = m 17 0 x) (h2 : ∀ k, k = 19 ∨ k = 20 ∨ k = 21 ∨ k = 22 ∨ k = 23 ∨ k = 24 ∨ k = 25 ∨ k = 26 ∨ k = 27 ∨ k = 30 → m' k 0 = m k 0) : eqR (crM m') (crM m) := by
  refine ⟨h1 1 (by decide), h1 7 (by decide), h1 27 (by decide), ?_, ?_, ?_, ?_⟩
  · show gM m' = gM m
    unfold gM
    rw [h1 2 (by decide), h1 3 (by decide), h1 4 (by decide), h1 5 (by decide), h1 6 (by decide)]
  · intro j _ k hk
    show m' (19 + k) 0 j = m (19 + k) 0 j
    rw [h2 (19 + k) (by omega)]
  · intro j _ k hk
    show m' (23 + k) 0 j = m (23 + k) 0 j
    rw [h2 (23 + k) (by omega)]
  · intro j _
    show aM m' j = aM m j
    unfold aM
    rw [h2 30 (by decide)]
theorem RK.keep {s s' m m' : Sto} (h : RK s m) (hc : eq8 (crC s 0) (crC s' 0)) (hm : eqR (crM m') (crM m)) : RK s' m' := by
  have e := hc.R h.2
  exact ⟨e.sm.tr (h.1.tr hm.sm), e.wf h.2⟩
/-! refusals -/
theorem lits3 : inb (0 : Int32) 3 ∧ inb (1 : Int32) 3 ∧ inb (2 : Int32) 3 ∧ ix (0 : Int32) = 0 ∧ ix (1 : Int32) = 1 ∧ ix (2 : Int32) = 2 := by decide +kernel
theorem bad_M (s : Sto) : f_m_bad s = some (-2, st s 18 0 0 (s 18 0 0 + 1)) := by
  simp only [f_m_bad, if_pos lits3.1, lt, lits3.2.2.2.1]
theorem no_M (s : Sto) : f_m_no s = some (-3, st s 18 0 1 (s 18 0 1 + 1)) := by
  simp only [f_m_no, if_pos lits3.2.1, lt, lits3.2.2.2.2.1]
theorem full_M (s : Sto) : f_m_full s = some (-4, st s 18 0 2 (s 18 0 2 + 1)) := by
  simp only [f_m_full, if_pos lits3.2.2.1, lt, lits3.2.2.2.2.2]
theorem ten_M (s : Sto) : f_m_ten s = some (-10, st s 18 0 0 (s 18 0 0 + 1)) := by
  simp only [f_m_ten, if_pos lits3.1, lt, lits3.2.2.2.1]
theorem crC_0 {s : Sto} {x : Nat} {v : Int32} (c : Nat) : eq8 (crC s c) (crC (st s 0 0 x v) c) :=
  crC_k (by rw [st_k (by decide)]) (fun j _ => by rw [st_k (by decide)]) (fun j _ => by rw [st_k (by decide)]) (by rw [st_k (by decide)]) (fun j _ => by rw [st_k (by decide)])
theorem RS.ref {s m : Sto} {L : Lng} (h : RS s m L) (d : Nat) (hd : d < 3) : RS (st s 0 0 (12 + d) (s 0 0 (12 + d) + 1)) (st m 18 0 d (m 18 0 d + 1)) L := by
  obtain ⟨hk, h1, h2, h3, h4, h5⟩ := h
  have em : eqR (crM (st m 18 0 d (m 18 0 d + 1))) (crM m) := crM_k (fun x _ => by rw [st_k (by decide)]) (fun k hk => by rw [st_k (by omega)])
  have e34 : (st m 18 0 d (m 18 0 d + 1)) 34 = m 34 := st_k (by decide)
  refine ⟨hk.keep (crC_0 0) em, ?_, ?_, ?_, ?_, ?_⟩
  · unfold RT
    rw [st_k (by decide), st_k (by decide), st_k (by decide), st_k (by decide)]
    exact h1
  · unfold RF
    simp only [st, true_and]
    rw [if_neg (by omega), if_neg (by omega)]
    exact h2
  · obtain ⟨a, b, c⟩ := h3
    rcases (show d = 0 ∨ d = 1 ∨ d = 2 by omega) with rfl | rfl | rfl
    · refine ⟨?_, ?_, ?_⟩ <;> simp [st, a, b, c]
    · refine ⟨?_, ?_, ?_⟩ <;> simp [st, a, b, c]
    · refine ⟨?_, ?_, ?_⟩ <;> simp [st, a, b, c]
  · exact h4.keep (crC_0 _) (by rw [st_k (by decide)]) (by rw [st_k (by decide)]) e34
  · exact h5.keep (crC_0 _) (by rw [st_k (by decide)]) (by rw [st_k (by decide)]) e34
theorem op_bad {s m : Sto} {L : Lng} (h : RS s m L) (v : Int32) : OPI (some (v, st s 0 0 12 (s 0 0 12 + 1))) (some (v, st m 18 0 0 (m 18 0 0 + 1))) L := ⟨v, _, _, rfl, rfl, h.ref 0 (by decide)⟩
theorem op_no {s m : Sto} {L : Lng} (h : RS s m L) (v : Int32) : OPI (some (v, st s 0 0 13 (s 0 0 13 + 1))) (some (v, st m 18 0 1 (m 18 0 1 + 1))) L := ⟨v, _, _, rfl, rfl, h.ref 1 (by decide)⟩
theorem op_full {s m : Sto} {L : Lng} (h : RS s m L) (v : Int32) : OPI (some (v, st s 0 0 14 (s 0 0 14 + 1))) (some (v, st m 18 0 2 (m 18 0 2 + 1))) L := ⟨v, _, _, rfl, rfl, h.ref 2 (by decide)⟩
/-! what is outside -/
def outB (x a b : Int32) : Bool := decide (x < a) || decide (b < x)
theorem out_C (x a b : Int32) : f_T_outside x a b = some (b2 (outB x a b)) := by
  unfold f_T_outside outB jn
  have e : (x ≤ b) = ¬ b < x := propext Int32.not_lt.symm
  simp only [e]
  by_cases h1 : x < a <;> by_cases h2 : b < x <;> simp [h1, h2, b2]
theorem in_M (x a b : Int32) : f_m_in x a b = some (b2 (!outB x a b)) := by
  unfold f_m_in outB jn
  by_cases h1 : x < a <;> by_cases h2 : b < x <;> simp [h1, h2, b2]
theorem outB_f {x a b : Int32} (h : outB x a b = false) : a.toInt ≤ x.toInt ∧ x.toInt ≤ b.toInt := by
  unfold outB at h
  rw [Bool.or_eq_false_iff, decide_eq_false_iff_not, decide_eq_false_iff_not, i_lt, i_lt] at h
  omega
theorem act_M (x : Int32) : f_m_isAct x = some (b2 (!outB x 0 7)) := by
  unfold f_m_isAct
  rw [in_M, bP_s, if_pos (b2_01 _)]
