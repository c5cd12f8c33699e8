/-! read: the draft on both sides; heir, pair -/
def DR (h : Nat) (s m : Sto) : Prop := h ≤ 6 ∧ s 1 1 5 = nI h ∧ m 17 0 21 = nI h ∧ s 1 1 6 = 0 ∧ s 1 1 7 = 0 ∧ gC s 1 = (m 17 0 20, 0, 0, m 17 0 22, m 17 0 23) ∧ (∀ j, j < h → ∀ k, k < 4 → s 2 (6 + j) k = m 29 0 (4 * j + k)) ∧ (∀ j, j < h → inb (m 29 0 (4 * j)) 6) ∧ okS h (m 17 0 20, 0, 0, m 17 0 22, m 17 0 23)
def FRC (s s' : Sto) : Prop := (∀ k i, ¬ (k = 5 ∧ i = 0) → ¬ (k = 1 ∧ i = 1) → ¬ (k = 2 ∧ 6 ≤ i ∧ i < 12) → ¬ (k = 4 ∧ i = 1) → s' k i = s k i) ∧ s' 5 0 1 = s 5 0 1
def FRM (m m' : Sto) : Prop := (∀ k, k ≠ 17 → k ≠ 29 → m' k = m k) ∧ ∀ x, ¬ (19 ≤ x ∧ x ≤ 23) → x ≠ 25 → m' 17 0 x = m 17 0 x
theorem FRC.rf (s : Sto) : FRC s s := ⟨fun _ _ _ _ _ _ => rfl, rfl⟩
theorem FRM.rf (s : Sto) : FRM s s := ⟨fun _ _ _ => rfl, fun _ _ _ => rfl⟩
theorem FRC.tr {a b c : Sto} (h : FRC a b) (g : FRC b c) : FRC a c := ⟨fun k i n1 n2 n3 n4 => (g.1 k i n1 n2 n3 n4).trans (h.1 k i n1 n2 n3 n4), g.2.trans h.2⟩
theorem FRM.tr {a b c : Sto} (h : FRM a b) (g : FRM b c) : FRM a c := ⟨fun k n n2 => (g.1 k n n2).trans (h.1 k n n2), fun x n n2 => (g.2 x n n2).trans (h.2 x n n2)⟩
theorem FC.R {s s' : Sto} (h : FC s s') : FRC s s' := ⟨fun k i n _ _ _ => h.1 k i n, h.2⟩
theorem FM.R {s s' : Sto} (h : FM s s') : FRM s s' := ⟨fun k n _ => h.1 k n, fun x n1 n2 => h.2 x (by omega) n2⟩
theorem FRC.s {s : Sto} {k i x : Nat} {v : Int32} (h : k = 1 ∧ i = 1 ∨ k = 2 ∧ 6 ≤ i ∧ i < 12 ∨ k = 4 ∧ i = 1) : FRC s (st s k i x v) := by
  refine ⟨fun k' i' n1 n2 n3 n4 => ?_, by rw [st_k (by omega)]⟩
  by_cases e : k' = k
  · subst e
    exact st_i (fun z => by subst z; omega)
  · rw [st_k e]
theorem FRM.s {m : Sto} {x : Nat} {v : Int32} (h : 19 ≤ x ∧ x ≤ 23 ∨ x = 25) : FRM m (st m 17 0 x v) := ⟨fun k n _ => by rw [st_k n], fun y n1 n2 => by rw [st_v, if_neg (by omega)]⟩
theorem FRM.a {m : Sto} {x : Nat} {v : Int32} : FRM m (st m 29 0 x v) := ⟨fun k _ n => by rw [st_k n], fun y n1 n2 => by rw [st_k (by decide)]⟩
theorem FRC.b {T : Nat → Int32} {n : Nat} {s s' : Sto} (h : FRC s s') (hb : BC T n s) : BC T n s' := ⟨by rw [h.2]; exact hb.1, fun j hj => by rw [h.1 16 0 (by omega) (by omega) (by omega) (by omega)]; exact hb.2 j hj⟩
theorem FRM.b {T : Nat → Int32} {n : Nat} {s s' : Sto} (h : FRM s s') (hb : BM T n s) : BM T n s' := ⟨by rw [h.2 18 (by omega) (by omega)]; exact hb.1, fun j hj => by rw [h.1 28 (by decide) (by decide)]; exact hb.2 j hj⟩
theorem DR.k {h : Nat} {s s' m m' : Sto} (d : DR h s m) (f : FC s s') (g : FM m m') : DR h s' m' := by
  unfold DR
  rw [f.k (k := 1) (by decide), f.k (k := 2) (by decide), gC_k (f.1 4 1 (by omega)), g.1 29 (by decide), g.2 20 (by decide) (by decide), g.2 21 (by decide) (by decide), g.2 22 (by decide) (by decide), g.2 23 (by decide) (by decide)]
  exact d
/-- class and reference stand at the same place, with the same draft -/
def SY (T : Nat → Int32) (n h p : Nat) (s m : Sto) : Prop := BC T n s ∧ BM T n m ∧ TK T n p s ∧ (∃ q, q ≤ n ∧ m 17 0 19 = nI q ∧ skp T n q = p) ∧ DR h s m
theorem SY.le {T : Nat → Int32} {n h p : Nat} {s m : Sto} (y : SY T n h p s m) : p ≤ n := by
  obtain ⟨-, -, -, ⟨q, q1, -, q3⟩, -⟩ := y
  rw [← q3]; exact (skp_le q1).2
/-- both refuse, at the same place -/
def FL (s m : Sto) (x y : Option (Int32 × Sto)) : Prop := ∃ s' m' p', x = some (0, s') ∧ y = some (0, m') ∧ FRC s s' ∧ FRM m m' ∧ s' 5 0 2 = nI p' ∧ m' 17 0 19 = nI p'
def GO (T : Nat → Int32) (n p : Nat) (s m : Sto) (x y : Option (Int32 × Sto)) : Prop := ∃ s' m' p' h', x = some (1, s') ∧ y = some (1, m') ∧ FRC s s' ∧ FRM m m' ∧ p < p' ∧ SY T n h' p' s' m'
def IT (T : Nat → Int32) (n p : Nat) (s m : Sto) (x y : Option (Int32 × Sto)) : Prop := FL s m x y ∨ GO T n p s m x y
def wrp (x : Option (Int32 × Sto)) : Option (Int32 × Sto) := bI x (fun r s' => if r = (0 : Int32) ∨ r = (1 : Int32) then some (r, s') else none)
theorem wrp_0 (s : Sto) : wrp (some (0, s)) = some (0, s) := by unfold wrp; rw [bI_s, if_pos (Or.inl rfl)]
theorem wrp_1 (s : Sto) : wrp (some (1, s)) = some (1, s) := by unfold wrp; rw [bI_s, if_pos (Or.inr rfl)]
theorem wrp_e (x : Option (Int32 × Sto)) : bI x (fun r s' => if r = (0 : Int32) ∨ r = (1 : Int32) then some (r, s') else none) = wrp x := rfl
theorem IT.w {T : Nat → Int32} {n p : Nat} {s m : Sto} {x y : Option (Int32 × Sto)} (h : IT T n p s m x y) : IT T n p s m (wrp x) (wrp y) := by
  rcases h with ⟨s', m', p', h1, h2, h3⟩ | ⟨s', m', p', h', h1, h2, h3⟩
  · exact Or.inl ⟨s', m', p', by rw [h1, wrp_0], by rw [h2, wrp_0], h3⟩
  · exact Or.inr ⟨s', m', p', h', by rw [h1, wrp_1], by rw [h2, wrp_1], h3⟩
theorem IT.up {T : Nat → Int32} {n p p1 : Nat} {s m s1 m1 : Sto} {x y : Option (Int32 × Sto)} (h : IT T n p1 s1 m1 x y) (hp : p ≤ p1) (fc : FRC s s1) (fm : FRM m m1) : IT T n p s m x y := by
  rcases h with ⟨s', m', p', h1, h2, h3, h4, h5⟩ | ⟨s', m', p', h', h1, h2, h3, h4, h5, h6⟩
  · exact Or.inl ⟨s', m', p', h1, h2, fc.tr h3, fm.tr h4, h5⟩
  · exact Or.inr ⟨s', m', p', h', h1, h2, fc.tr h3, fm.tr h4, by omega, h6⟩
theorem fin_sim {T : Nat → Int32} {n h p : Nat} (hn : n ≤ 150) {s m : Sto} (y : SY T n h p s m) : IT T n p s m (wrp (f_Tx_takeEnding s)) (wrp (f_m_ends m)) := by
  have hp := y.le
  obtain ⟨hb, bm, tk, ⟨q, q1, q2, q3⟩, dr⟩ := y
  rcases end_sim hn hb tk bm q2 q1 q3 with ⟨s', m', e1, e2, e3, e4, e5, e6, e7⟩ | ⟨m', e1, e2, e3, e4⟩
  · rw [e1, e2, wrp_1, wrp_1]
    have b1 := bh_lt (T := T) e5
    have b2 := skp_le (T := T) b1.2
    exact Or.inr ⟨s', m', _, h, rfl, rfl, e3.R, e4.R, by omega, e3.b hb, e4.b bm, e6, ⟨_, b1.2, e7, rfl⟩, dr.k e3 e4⟩
  · rw [e1, e2, wrp_0, wrp_0]
    exact Or.inl ⟨s, m', p, rfl, rfl, FRC.rf s, e3.R, tk.1, e4⟩
/-- a number on both sides -/
theorem num_SY {T : Nat → Int32} {n h p : Nat} (hn : n ≤ 150) {s m : Sto} (y : SY T n h p s m) (hi x2 : Int32) :
    (∃ k m', k ≤ 99 ∧ nI k ≤ hi ∧ p < skp T n (bh T n p) ∧ f_m_number m 0 hi = some (1, m') ∧ FM m m' ∧ m' 17 0 25 = nI k ∧ (nI k = x2 → f_Tx_takeNumber s hi x2 = some (-1, s)) ∧ (¬ nI k = x2 → ∃ s', f_Tx_takeNumber s hi x2 = some (nI k, s') ∧ FC s s' ∧ SY T n h (skp T n (bh T n p)) s' m')) ∨ (∃ m', f_m_number m 0 hi = some (0, m') ∧ FM m m' ∧ m' 17 0 19 = nI p ∧ f_Tx_takeNumber s hi x2 = some (-1, s)) := by
  obtain ⟨hb, bm, tk, ⟨q, q1, q2, q3⟩, dr⟩ := y
  rcases num_sim hn hi x2 hb tk bm q2 q1 q3 with ⟨k, m', e1, e2, e3, e4, e5, e6, e7, e8, e9⟩ | ⟨m', e1, e2, e3, e4⟩
  · have b1 := bh_lt (T := T) e3
    have b2 := skp_le (T := T) b1.2
    refine Or.inl ⟨k, m', e1, e2, by omega, e4, e5, e6, e8, fun z => ?_⟩
    obtain ⟨s', g1, g2, g3⟩ := e9 z
    exact ⟨s', g1, g2, g2.b hb, e5.b bm, g3, ⟨_, b1.2, e7, rfl⟩, dr.k g2 e5⟩
  · exact Or.inr ⟨m', e1, e2, e3, e4⟩
theorem nk_m1 {k : Nat} (h : k ≤ 99) : ¬ nI k = (-1 : Int32) := fun z => by
  rw [i_eq, nI_toInt (by omega), m1I] at z; omega
theorem hput_FRC {s : Sto} {i : Nat} {a b c d : Int32} (h : 6 ≤ i ∧ i < 12) : FRC s (hput s i a b c d) := (((FRC.s (Or.inr (Or.inl ⟨rfl, h⟩))).tr (FRC.s (Or.inr (Or.inl ⟨rfl, h⟩)))).tr (FRC.s (Or.inr (Or.inl ⟨rfl, h⟩)))).tr (FRC.s (Or.inr (Or.inl ⟨rfl, h⟩)))
def adR (m : Sto) (h : Nat) (a t : Int32) : Sto := st (st (st (st (st m 29 0 (4 * h) a) 29 0 (4 * h + 1) 0) 29 0 (4 * h + 2) 0) 29 0 (4 * h + 3) t) 17 0 21 (nI (h + 1))
theorem adR_v (m : Sto) (h : Nat) (a t : Int32) : ∀ k, k < 4 → adR m h a t 29 0 (4 * h + k) = if k = 0 then a else if k = 1 then 0 else if k = 2 then 0 else t := by
  intro k hk
  unfold adR
  rw [st_k (by decide), st_v, st_v, st_v, st_v]
  rcases (show k = 0 ∨ k = 1 ∨ k = 2 ∨ k = 3 by omega) with rfl | rfl | rfl | rfl <;> simp
theorem adR_o (m : Sto) (h : Nat) (a t : Int32) {x : Nat} (hx : x < 4 * h) : adR m h a t 29 0 x = m 29 0 x := by
  unfold adR
  rw [st_k (by decide), st_v, if_neg (by omega), st_v, if_neg (by omega), st_v, if_neg (by omega), st_v, if_neg (by omega)]
theorem adR_17 (m : Sto) (h : Nat) (a t : Int32) {x : Nat} (hx : x ≠ 21) : adR m h a t 17 0 x = m 17 0 x := by
  unfold adR
  rw [st_v, if_neg (fun z => hx z.2.2), st_k (by decide), st_k (by decide), st_k (by decide), st_k (by decide)]
theorem adR_FRM (m : Sto) (h : Nat) (a t : Int32) : FRM m (adR m h a t) := ((((FRM.a).tr FRM.a).tr FRM.a).tr FRM.a).tr (FRM.s (by omega))
theorem DR_ad {h : Nat} {s m : Sto} (d : DR h s m) (h6 : h < 6) {a t : Int32} (ha : inb a 6) : DR (h + 1) (adC s 1 a 0 0 t) (adR m h a t) := by
  obtain ⟨d1, d2, d3, d4, d5, d6, d7, d8, d9⟩ := d
  have e5 : ix (s 1 1 5) = h := by rw [d2, ix_nI (by omega)]
  have ek : ∀ k i, k ≠ 1 → adC s 1 a 0 0 t k i = hput s (6 + h) a 0 0 t k i := fun k i hk => by
    unfold adC; rw [e5, st_k hk, st_k hk]
  refine ⟨by omega, ?_, ?_, ?_, ?_, ?_, fun j hj k hk => ?_, fun j hj => ?_, ?_⟩
  · unfold adC; rw [st_v, if_pos ⟨rfl, rfl, rfl⟩, d2, nI_1]
  · unfold adR; rw [st_v, if_pos ⟨rfl, rfl, rfl⟩]
  · unfold adC; rw [st_v, if_neg (by omega), st_v, if_neg (by omega), hput_k (by decide)]; exact d4
  · unfold adC; rw [st_v, if_neg (by omega), st_v, if_pos ⟨rfl, rfl, rfl⟩]
  · rw [adR_17 _ _ _ _ (by decide), adR_17 _ _ _ _ (by decide), adR_17 _ _ _ _ (by decide), ← d6]
    exact gC_k (by rw [ek 4 1 (by decide), hput_k (by decide)])
  · rw [ek 2 _ (by decide)]
    by_cases e : j = h
    · subst e
      rw [hput_at _ _ _ _ _ _ k hk, adR_v _ _ _ _ k hk]
    · rw [hput_i (by omega), adR_o _ _ _ _ (by omega)]
      exact d7 j (by omega) k hk
  · by_cases e : j = h
    · subst e
      have := adR_v m j a t 0 (by decide)
      rw [Nat.add_zero, if_pos rfl] at this
      rw [this]; exact ha
    · rw [adR_o _ _ _ _ (by omega)]; exact d8 j (by omega)
  · rw [adR_17 _ _ _ _ (by decide), adR_17 _ _ _ _ (by decide), adR_17 _ _ _ _ (by decide)]
    refine ⟨?_, d9.2⟩
    rcases d9.1 with q | ⟨q1, q2⟩
    · exact Or.inl q
    · exact Or.inr ⟨inb_le q1 (by omega), inb_le q2 (by omega)⟩
theorem inb_k6 {k : Nat} (h : nI k ≤ (5 : Int32)) (h9 : k ≤ 99) : inb (nI k) 6 := by
  rw [c5] at h
  have := (nI_leI (by omega) (by omega)).mp h
  exact inb_nI (by omega) (by omega)
theorem adr_M {m : Sto} {h : Nat} (h6 : h < 6) (e21 : m 17 0 21 = nI h) {b : Int32} (e25 : m 17 0 25 = b) (a : Int32) (K : Sto → Option (Int32 × Sto)) : (lt ((4 : Int32) * (m 17 0 21)) (fun v2_6 => if inb v2_6 24 then lt (st m 29 0 (ix v2_6) a) (fun s7 => if inb (v2_6 + (1 : Int32)) 24 then lt (st s7 29 0 (ix (v2_6 + (1 : Int32))) (0 : Int32)) (fun s8 => if inb (v2_6 + (2 : Int32)) 24 then lt (st s8 29 0 (ix (v2_6 + (2 : Int32))) (0 : Int32)) (fun s9 => if inb (v2_6 + (3 : Int32)) 24 then lt (st s9 29 0 (ix (v2_6 + (3 : Int32))) (s9 17 0 25)) (fun s10 => lt (st s10 17 0 21 ((s10 17 0 21) + (1 : Int32))) (fun s11 => K s11)) else none) else none) else none) else none)) = K (adR m h a b) := by
  have f1 : (4 : Int32) * nI h = nI (4 * h) := by rw [c4n, pk_mul]
  have f2 : nI (4 * h) + 1 = nI (4 * h + 1) := nI_1 _
  have f3 : nI (4 * h) + 2 = nI (4 * h + 2) := by rw [c2n, nI_add]
  have f4 : nI (4 * h) + 3 = nI (4 * h + 3) := by rw [c3n, nI_add]
  rw [e21, f1, lt_e, if_pos (inb_nI (by omega) (by omega)), lt_e, f2, if_pos (inb_nI (by omega) (by omega)), lt_e, f3, if_pos (inb_nI (by omega) (by omega)), lt_e, f4, if_pos (inb_nI (by omega) (by omega)), lt_e, lt_e, ix_nI (by omega), ix_nI (by omega), ix_nI (by omega), ix_nI (by omega)]
  have g1 : st (st (st m 29 0 (4 * h) a) 29 0 (4 * h + 1) 0) 29 0 (4 * h + 2) 0 17 0 25 = b := by
    rw [st_k (by decide), st_k (by decide), st_k (by decide)]; exact e25
  rw [g1]
  have g2 : st (st (st (st m 29 0 (4 * h) a) 29 0 (4 * h + 1) 0) 29 0 (4 * h + 2) 0) 29 0 (4 * h + 3) b 17 0 21 = nI h := by
    rw [st_k (by decide), st_k (by decide), st_k (by decide), st_k (by decide)]; exact e21
  rw [g2, nI_1]
  rfl
theorem heir_sim {T : Nat → Int32} {n h p : Nat} (hn : n ≤ 150) (h6 : h < 6) {s m : Sto} (y : SY T n h p s m) : IT T n p s m (bI (f_Tx_takeNumber s (5 : Int32) (-1 : Int32)) (fun r2 s3 => if r2 = (-1 : Int32) then some ((0 : Int32), s3) else bI (f_Tx_takeNumber s3 (20 : Int32) (-1 : Int32)) (fun r4 s5 => if r4 = (-1 : Int32) then some ((0 : Int32), s5) else bI (f_Co_admit s5 1 r2 (0 : Int32) (0 : Int32) r4) (fun r6 s7 => wrp (f_Tx_takeEnding s7))))) (f_m_readsHeir m) := by
  rw [f_m_readsHeir]
  rcases num_SY hn y 5 (-1) with ⟨k, m1, k99, khi, kp, e1, e2, e3, -, e5⟩ | ⟨m1, e1, e2, e3, e4⟩
  · obtain ⟨s1, g1, g2, g3⟩ := e5 (nk_m1 k99)
    rw [e1, g1, bI_s, bI_s, if_neg (nk_m1 k99), if_neg (by decide +kernel), lt_e, e3]
    refine IT.up ?_ (Nat.le_of_lt kp) g2.R e2.R
    rcases num_SY hn g3 20 (-1) with ⟨t, m2, t99, thi, tp, u1, u2, u3, -, u5⟩ | ⟨m2, u1, u2, u3, u4⟩
    · obtain ⟨s2, w1, w2, w3⟩ := u5 (nk_m1 t99)
      rw [u1, w1, bI_s, bI_s, if_neg (nk_m1 t99), if_neg (by decide +kernel)]
      obtain ⟨hb, bm, tk, ⟨q, q1, q2, q3⟩, dr⟩ := w3
      rw [adr_M h6 dr.2.2.1 u3 (nI k) (fun s11 => bI (f_m_ends s11) (fun r12 s13 => if r12 = (0 : Int32) ∨ r12 = (1 : Int32) then some (r12, s13) else none)), wrp_e]
      have i6 : inb (s2 1 1 5) 6 := by rw [dr.2.1]; exact inb_nI h6 (by omega)
      have e5' : ix (s2 1 1 5) = h := by rw [dr.2.1, ix_nI (by omega)]
      rw [ad_Co _ _ _ _ i6, bI_s]
      have fc : FRC s2 (adC s2 1 (nI k) 0 0 (nI t)) := by
        unfold adC
        exact ((hput_FRC (by omega)).tr (FRC.s (by omega))).tr (FRC.s (by omega))
      have fm := adR_FRM m2 h (nI k) (nI t)
      refine IT.up (fin_sim hn ⟨fc.b hb, fm.b bm, tk.k ?_, ⟨q, q1, ?_, q3⟩, DR_ad dr h6 (inb_k6 khi k99)⟩) (Nat.le_of_lt tp) (w2.R.tr fc) (u2.R.tr fm)
      · unfold adC; rw [st_k (by decide), st_k (by decide), hput_k (by decide)]
      · rw [adR_17 _ _ _ _ (by decide)]; exact q2
    · rw [u1, u4, bI_s, bI_s, if_pos rfl, if_pos rfl]
      exact Or.inl ⟨s1, m2, _, rfl, rfl, FRC.rf _, u2.R, g3.2.2.1.1, u3⟩
  · rw [e1, e4, bI_s, bI_s, if_pos rfl, if_pos rfl]
    exact Or.inl ⟨s, m1, _, rfl, rfl, FRC.rf _, e2.R, y.2.2.1.1, e3⟩
theorem DR_pq {h : Nat} {s m : Sto} (d : DR h s m) {a b : Int32} (ha : inb a h) (hb : inb b h) (hne : ¬ a = b) : DR h (st (st s 4 1 3 a) 4 1 4 b) (st (st m 17 0 22 a) 17 0 23 b) := by
  obtain ⟨d1, d2, d3, d4, d5, d6, d7, d8, d9⟩ := d
  have m2 : ∀ x, x ≠ 22 → x ≠ 23 → st (st m 17 0 22 a) 17 0 23 b 17 0 x = m 17 0 x := fun x h1 h2 => by
    rw [st_v, if_neg (fun z => h2 z.2.2), st_v, if_neg (fun z => h1 z.2.2)]
  have m22 : st (st m 17 0 22 a) 17 0 23 b 17 0 22 = a := by rw [st_v, if_neg (by omega), st_v, if_pos ⟨rfl, rfl, rfl⟩]
  have m23 : st (st m 17 0 22 a) 17 0 23 b 17 0 23 = b := by rw [st_v, if_pos ⟨rfl, rfl, rfl⟩]
  unfold DR
  rw [m2 20 (by decide) (by decide), m2 21 (by decide) (by decide), m22, m23, st_k (by decide), st_k (by decide), st_k (by decide), st_k (by decide), st_k (by decide), st_k (by decide), pC_pq, gC_pC, d6]
  exact ⟨d1, d2, d3, d4, d5, rfl, d7, d8, ⟨Or.inr ⟨ha, hb⟩, Or.inr hne⟩⟩
theorem k_lt {h k : Nat} (h6 : h ≤ 6) (k9 : k ≤ 99) (z : nI k ≤ nI h - 1) : inb (nI k) h := by
  have e : (nI h - 1).toInt = (h : Int) - 1 := by
    rw [c1n]; exact pk_sub_toInt (by omega) (by omega)
  rw [i_le, e, nI_toInt (by omega)] at z
  exact inb_nI (by omega) (by omega)
theorem pair_sim {T : Nat → Int32} {n h p : Nat} (hn : n ≤ 150) {s m : Sto} (y : SY T n h p s m) : IT T n p s m (bI (f_Tx_takeNumber s ((s 1 1 5) - (1 : Int32)) (-1 : Int32)) (fun r2 s3 => if r2 = (-1 : Int32) then some ((0 : Int32), s3) else bI (f_Tx_takeNumber s3 ((s3 1 1 5) - (1 : Int32)) r2) (fun r4 s5 => if r4 = (-1 : Int32) then some ((0 : Int32), s5) else lt (st s5 4 1 3 r2) (fun s6 => lt (st s6 4 1 4 r4) (fun s7 => wrp (f_Tx_takeEnding s7)))))) (f_m_readsPair m) := by
  have dh := y.2.2.2.2
  rw [f_m_readsPair, dh.2.1, dh.2.2.1]
  rcases num_SY hn y (nI h - 1) (-1) with ⟨k, m1, k99, khi, kp, e1, e2, e3, -, e5⟩ | ⟨m1, e1, e2, e3, e4⟩
  · obtain ⟨s1, g1, g2, g3⟩ := e5 (nk_m1 k99)
    rw [e1, g1, bI_s, bI_s, if_neg (nk_m1 k99), if_neg (by decide +kernel), lt_e, e3]
    refine IT.up ?_ (Nat.le_of_lt kp) g2.R e2.R
    have d1 := g3.2.2.2.2
    obtain ⟨hb1, bm1, tk1, ⟨q, q1, q2, q3⟩, dr1⟩ := g3
    have ln := skp_le (T := T) q1
    have sm := FM.s19 m1 (nI (skp T n q))
    have g3 : SY T n h (skp T n (bh T n p)) s1 (st m1 17 0 19 (nI (skp T n q))) := ⟨hb1, sm.b bm1, tk1, ⟨skp T n q, ln.2, by rw [st_v, if_pos ⟨rfl, rfl, rfl⟩], by rw [skp_skp q1]; exact q3⟩, dr1.k (FC.rf _) sm⟩
    have e19 : st m1 17 0 19 (nI (skp T n q)) 17 0 19 = nI (skp T n q) := by rw [st_v, if_pos ⟨rfl, rfl, rfl⟩]
    have e21 : st m1 17 0 19 (nI (skp T n q)) 17 0 21 = nI h := by rw [st_v, if_neg (by omega)]; exact d1.2.2.1
    rw [skip_M hn bm1 q2 q1, bV_s, lt_e, e19, e21, dr1.2.1]
    rcases num_SY hn g3 (nI h - 1) (nI k) with ⟨t, m2, t99, thi, tp, u1, u2, u3, u4, u5⟩ | ⟨m2, u1, u2, u3, u4⟩
    · rw [u1, bI_s, if_neg (by decide +kernel), u3]
      by_cases ek : nI t = nI k
      · rw [u4 ek, bI_s, if_pos rfl, if_pos ek, lt_e]
        refine Or.inl ⟨s1, _, _, rfl, rfl, FRC.rf _, (sm.R.tr u2.R).tr (FRM.s (by omega)), tk1.1, ?_⟩
        rw [st_v, if_pos ⟨rfl, rfl, rfl⟩, q3]
      · obtain ⟨s2, w1, w2, w3⟩ := u5 ek
        rw [w1, bI_s, if_neg (nk_m1 t99), if_neg ek, lt_e, lt_e, lt_e, lt_e]
        have e25 : st m2 17 0 22 (nI k) 17 0 25 = nI t := by rw [st_v, if_neg (by omega)]; exact u3
        rw [e25, wrp_e]
        obtain ⟨hb, bm, tk, ⟨q', q1', q2', q3'⟩, dr⟩ := w3
        have fc : FRC s2 (st (st s2 4 1 3 (nI k)) 4 1 4 (nI t)) := (FRC.s (by omega)).tr (FRC.s (by omega))
        have fm : FRM m2 (st (st m2 17 0 22 (nI k)) 17 0 23 (nI t)) := (FRM.s (by omega)).tr (FRM.s (by omega))
        refine IT.up (fin_sim hn ⟨fc.b hb, fm.b bm, tk.k ?_, ⟨q', q1', ?_, q3'⟩, DR_pq dr (k_lt dr.1 k99 khi) (k_lt dr.1 t99 thi) (fun z => ek z.symm)⟩) (Nat.le_of_lt tp) (w2.R.tr fc) ((sm.R.tr u2.R).tr fm)
        · rw [st_k (by decide), st_k (by decide)]
        · rw [st_v, if_neg (by omega), st_v, if_neg (by omega)]; exact q2'
    · rw [u1, u4, bI_s, bI_s, if_pos rfl, if_pos rfl]
      exact Or.inl ⟨s1, m2, _, rfl, rfl, FRC.rf _, sm.R.tr u2.R, tk1.1, u3⟩
  · rw [e1, e4, bI_s, bI_s, if_pos rfl, if_pos rfl]
    exact Or.inl ⟨s, m1, _, rfl, rfl, FRC.rf _, e2.R, y.2.2.1.1, e3⟩
