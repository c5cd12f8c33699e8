/-! read: the first item, all items, the court that is read -/
theorem wdh_0 {T : Nat → Int32} {n p : Nat} (h : ¬ wd T n p 0 = true) : ¬ wdh T n p = 0 := by
  unfold wdh
  rw [if_neg h]
  have l : ¬ (1 : Int32) = 0 ∧ ¬ (2 : Int32) = 0 ∧ ¬ (3 : Int32) = 0 ∧ ¬ (4 : Int32) = 0 ∧ ¬ (-1 : Int32) = 0 := by decide +kernel
  by_cases w1 : wd T n p 1 = true
  · rw [if_pos w1]; exact l.1
  · rw [if_neg w1]
    by_cases w2 : wd T n p 2 = true
    · rw [if_pos w2]; exact l.2.1
    · rw [if_neg w2]
      by_cases w3 : wd T n p 3 = true
      · rw [if_pos w3]; exact l.2.2.1
      · rw [if_neg w3]
        by_cases w4 : wd T n p 4 = true
        · rw [if_pos w4]; exact l.2.2.2.1
        · rw [if_neg w4]; exact l.2.2.2.2
theorem bgC_FRC (s : Sto) (w : Int32) : FRC s (bgC s 1 w) := by
  refine ⟨fun k i n1 n2 n3 n4 => ?_, ?_⟩
  · unfold bgC
    have q : st (st (st (pC s 1 (w, 0, 0, -1, -1)) 1 1 5 0) 1 1 6 0) 1 1 7 0 k i = pC s 1 (w, 0, 0, -1, -1) k i := by
      by_cases e : k = 1
      · subst e
        have hi : i ≠ 1 := fun z => n2 ⟨rfl, z⟩
        rw [st_i hi, st_i hi, st_i hi]
      · rw [st_k e, st_k e, st_k e]
    rw [q]
    by_cases e : k = 4
    · subst e; exact pC_i (fun z => n4 ⟨rfl, z⟩)
    · rw [pC_k e]
  · unfold bgC; rw [st_k (by decide), st_k (by decide), st_k (by decide), pC_k (by decide)]
theorem bgC_5 (s : Sto) (w : Int32) : bgC s 1 w 5 = s 5 := by unfold bgC; rw [st_k (by decide), st_k (by decide), st_k (by decide), pC_k (by decide)]
theorem DR_bg {s m : Sto} {w : Int32} (h20 : m 17 0 20 = w) (h21 : m 17 0 21 = 0) (h22 : m 17 0 22 = -1) (h23 : m 17 0 23 = -1) : DR 0 (bgC s 1 w) m := by
  refine ⟨by omega, ?_, by rw [h21, nI_0], ?_, ?_, ?_, fun j hj => by omega, fun j hj => by omega, ?_⟩
  · unfold bgC; rw [st_v, if_neg (by omega), st_v, if_neg (by omega), st_v, if_pos ⟨rfl, rfl, rfl⟩, nI_0]
  · unfold bgC; rw [st_v, if_neg (by omega), st_v, if_pos ⟨rfl, rfl, rfl⟩]
  · unfold bgC; rw [st_v, if_pos ⟨rfl, rfl, rfl⟩]
  · unfold bgC; rw [gC_st (by decide), gC_st (by decide), gC_st (by decide), gC_pC, h20, h22, h23]
  · exact ⟨Or.inl h22, Or.inl h22⟩
theorem first_sim {T : Nat → Int32} {n p q : Nat} (hn : n ≤ 150) {s m : Sto} (hb : BC T n s) (tk : TK T n p s) (bm : BM T n m) (h19 : m 17 0 19 = nI q) (hq : q ≤ n) (hp : skp T n q = p) (h21 : m 17 0 21 = 0) (h22 : m 17 0 22 = -1) (h23 : m 17 0 23 = -1) : IT T n p s m (f_Tx_courtItem s 1) (f_m_readsFirst m) := by
  have hpn : p ≤ n := by rw [← hp]; exact (skp_le hq).2
  have e19 : st m 17 0 19 (nI p) 17 0 19 = nI p := by rw [st_v, if_pos ⟨rfl, rfl, rfl⟩]
  have sm := FM.s19 m (nI p)
  rw [f_Tx_courtItem, isw_C hn hb tk hpn (by decide), bP_s, wh_if, f_m_readsFirst, skip_M hn bm h19 hq, hp, bV_s, whr_M hn (sm.b bm) e19 hpn, bP_s, e19]
  by_cases w0 : wd T n p 0 = true
  · have ez : wdh T n p = 0 := by unfold wdh; rw [if_pos w0]
    obtain ⟨eb, hlt⟩ := wd_bh hpn w0 lens.1 (by decide)
    obtain ⟨s1, a1, a2, a3⟩ := adv_T hn hb tk hpn
    have bl := bh_le (T := T) hpn
    have sl := skp_le (T := T) bl.2
    have sm2 := FM.s19 (st m 17 0 19 (nI p)) (nI (bh T n p))
    have b2' := sm2.b (sm.b bm)
    rw [if_pos w0, if_pos ez, a1, bV_s, lt_e, c5, nI_add, ← eb]
    rcases num_sim hn 99 (-1) (a2.b hb) a3 b2' (show st (st m 17 0 19 (nI p)) 17 0 19 (nI (bh T n p)) 17 0 19 = nI (bh T n p) by rw [st_v, if_pos ⟨rfl, rfl, rfl⟩]) bl.2 rfl with ⟨k, m1, k99, khi, kp, e1, e2, e3, e4, -, e5⟩ | ⟨m1, e1, e2, e3, e4⟩
    · obtain ⟨s2, g1, g2, g3⟩ := e5 (nk_m1 k99)
      have b1 := bh_lt (T := T) kp
      have s1' := skp_le (T := T) b1.2
      rw [e1, g1, bI_s, bI_s, if_neg (nk_m1 k99), if_neg (by decide +kernel), lt_e, e3, bg_C, bV_s, wrp_e, wrp_e]
      have fm := (sm.tr sm2).tr e2
      have o : ∀ x, x ≠ 19 → x ≠ 20 → x ≠ 25 → st m1 17 0 20 (nI k) 17 0 x = m 17 0 x := fun x x1 x2 x3 => by
        rw [st_v, if_neg (fun z => x2 z.2.2), fm.2 x x1 x3]
      have fr : FRM m1 (st m1 17 0 20 (nI k)) := FRM.s (by omega)
      refine (fin_sim (h := 0) hn ⟨(bgC_FRC s2 (nI k)).b (g2.b (a2.b hb)), fr.b (e2.b b2'), g3.k (bgC_5 s2 _), ⟨_, b1.2, ?_, rfl⟩, DR_bg ?_ ?_ ?_ ?_⟩).up (by omega) ((a2.R.tr g2.R).tr (bgC_FRC s2 (nI k))) (fm.R.tr fr)
      · rw [st_v, if_neg (by omega)]; exact e4
      · rw [st_v, if_pos ⟨rfl, rfl, rfl⟩]
      · rw [o 21 (by decide) (by decide) (by decide)]; exact h21
      · rw [o 22 (by decide) (by decide) (by decide)]; exact h22
      · rw [o 23 (by decide) (by decide) (by decide)]; exact h23
    · rw [e1, e4, bI_s, bI_s, if_pos rfl, if_pos rfl]
      exact Or.inl ⟨s1, m1, _, rfl, rfl, a2.R, ((sm.tr sm2).tr e2).R, a3.1, e3⟩
  · rw [if_neg w0, if_neg (wdh_0 w0)]
    exact Or.inl ⟨s, _, p, rfl, rfl, FRC.rf _, sm.R, tk.1, e19⟩
def RD (T : Nat → Int32) (n : Nat) (s m : Sto) (x y : Option (Int32 × Sto)) : Prop := (∃ s' m' p', x = some (-1, s') ∧ y = some (-1, m') ∧ FRC s s' ∧ FRM m m' ∧ s' 5 0 2 = nI p' ∧ m' 17 0 19 = nI p') ∨ (∃ i s' m' h p', i ≤ 150 ∧ x = some (nI i, s') ∧ y = some (nI i, m') ∧ FRC s s' ∧ FRM m m' ∧ SY T n h p' s' m')
theorem RD.up {T : Nat → Int32} {n : Nat} {s m s1 m1 : Sto} {x y : Option (Int32 × Sto)} (h : RD T n s1 m1 x y) (fc : FRC s s1) (fm : FRM m m1) : RD T n s m x y := by
  rcases h with ⟨s', m', p', h1, h2, h3, h4, h5⟩ | ⟨i, s', m', h', p', h0, h1, h2, h3, h4, h5⟩
  · exact Or.inl ⟨s', m', p', h1, h2, fc.tr h3, fm.tr h4, h5⟩
  · exact Or.inr ⟨i, s', m', h', p', h0, h1, h2, fc.tr h3, fm.tr h4, h5⟩
theorem main_sim {T : Nat → Int32} {n : Nat} (hn : n ≤ 150) : ∀ (r i p fC fM h : Nat) (s m : Sto), n ≤ p + r → r < fC → r < fM → i ≤ p → SY T n h p s m → m 17 0 19 = nI p → RD T n s m (fx fC (l_Tx_parseInto_21 1) (fun _ _ => none) s (nI i)) (fx fM l_m_readsCourt_35 (fun _ _ => none) m (nI i)) := by
  intro r
  induction r with
  | zero =>
    intro i p fC fM h s m hr h1 h2 hi y e19
    obtain ⟨c, rfl⟩ : ∃ f, fC = f + 1 := ⟨fC - 1, by omega⟩
    obtain ⟨d, rfl⟩ : ∃ f, fM = f + 1 := ⟨fM - 1, by omega⟩
    have hp := y.le
    have z := (srt_0 (T := T)).mpr (show n ≤ p by omega)
    rw [fx_s, fx_s, l_Tx_parseInto_21, l_m_readsCourt_35, y.2.2.1.2.2.1, if_pos z, ite_self, y.2.1.1, e19, if_pos ((nI_leI (by omega) (by omega)).mpr (by omega))]
    exact Or.inr ⟨i, s, m, h, p, by omega, rfl, rfl, FRC.rf _, FRM.rf _, y⟩
  | succ r ih =>
    intro i p fC fM h s m hr h1 h2 hi y e19
    obtain ⟨c, rfl⟩ : ∃ f, fC = f + 1 := ⟨fC - 1, by omega⟩
    obtain ⟨d, rfl⟩ : ∃ f, fM = f + 1 := ⟨fM - 1, by omega⟩
    have hp := y.le
    rw [fx_s, fx_s, l_Tx_parseInto_21, l_m_readsCourt_35, y.2.2.1.2.2.1, y.2.1.1, e19]
    by_cases g : p < n
    · have n150 : ¬ (150 : Int32) ≤ nI i := fun z => by
        rw [show (150 : Int32) = nI 150 by decide +kernel] at z
        have := (nI_leI (by omega) (by omega)).mp z
        omega
      rw [if_neg n150, if_neg (fun z => by have := (srt_0 (T := T)).mp z; omega), if_neg (fun z => by have := (nI_leI (by omega) (by omega)).mp z; omega)]
      rcases item_sim hn y e19 with ⟨s', m', p', g1, g2, g3, g4, g5, g6⟩ | ⟨s', m', p', h', g1, g2, g3, g4, g5, g6⟩
      · rw [g1, g2, bI_s, bI_s, if_pos rfl, if_pos rfl]
        exact Or.inl ⟨s', m', p', rfl, rfl, g3, g4, g5, g6⟩
      · obtain ⟨hb1, bm1, tk1, ⟨q, q1, q2, q3⟩, dr1⟩ := g6
        have sm := FM.s19 m' (nI (skp T n q))
        have ln := skp_le (T := T) q1
        rw [g1, g2, bI_s, bI_s, if_neg (by decide +kernel), if_neg (by decide +kernel), skip_M hn bm1 q2 q1, bV_s, nI_1]
        exact (ih (i + 1) p' c d h' s' (st m' 17 0 19 (nI (skp T n q))) (by omega) (by omega) (by omega) (by omega) ⟨hb1, sm.b bm1, tk1, ⟨skp T n q, ln.2, by rw [st_v, if_pos ⟨rfl, rfl, rfl⟩], by rw [skp_skp q1]; exact q3⟩, dr1.k (FC.rf _) sm⟩ (by rw [st_v, if_pos ⟨rfl, rfl, rfl⟩, q3])).up g3 (g4.tr sm.R)
    · have z := (srt_0 (T := T)).mpr (show n ≤ p by omega)
      rw [if_pos z, ite_self, if_pos ((nI_leI (by omega) (by omega)).mpr (by omega))]
      exact Or.inr ⟨i, s, m, h, p, by omega, rfl, rfl, FRC.rf _, FRM.rf _, y⟩
theorem parse_sim {T : Nat → Int32} {n : Nat} (hn : n ≤ 150) {s m : Sto} (hb : BC T n s) (bm : BM T n m) : RD T n s m (f_Tx_parseInto s 1) (f_m_readsCourt m) := by
  have b0 := hb.st (x := 3) (v := 0) (by decide)
  have fc1 : FC s (st s 5 0 3 0) := ⟨fun k i z => by
    by_cases e : k = 5
    · exact st_i (fun w => z ⟨e, w⟩)
    · rw [st_k e], by rw [st_v, if_neg (by omega)]⟩
  obtain ⟨s3, a1, a2, a3⟩ := adv_q (q := 0) hn b0 (by rw [st_v, if_pos ⟨rfl, rfl, rfl⟩, nI_0]) (by omega)
  have fm : FRM m (st (st (st (st m 17 0 19 0) 17 0 21 0) 17 0 22 (-1)) 17 0 23 (-1)) := (((FRM.s (by omega)).tr (FRM.s (by omega))).tr (FRM.s (by omega))).tr (FRM.s (by omega))
  have f := first_sim (m := st (st (st (st m 17 0 19 0) 17 0 21 0) 17 0 22 (-1)) 17 0 23 (-1)) (q := 0) hn (a2.b b0) a3 (fm.b bm) (by rw [st_v, if_neg (by omega), st_v, if_neg (by omega), st_v, if_neg (by omega), st_v, if_pos ⟨rfl, rfl, rfl⟩, nI_0]) (by omega) rfl (by rw [st_v, if_neg (by omega), st_v, if_neg (by omega), st_v, if_pos ⟨rfl, rfl, rfl⟩]) (by rw [st_v, if_neg (by omega), st_v, if_pos ⟨rfl, rfl, rfl⟩]) (by rw [st_v, if_pos ⟨rfl, rfl, rfl⟩])
  rw [f_Tx_parseInto, lt_e, a1, bV_s, f_m_readsCourt, lt_e, lt_e, lt_e, lt_e]
  refine RD.up ?_ (fc1.R.tr a2.R) fm
  rcases f with ⟨s', m', p', g1, g2, g3, g4, g5, g6⟩ | ⟨s', m', p', h', g1, g2, g3, g4, g5, g6⟩
  · rw [g1, g2, bI_s, bI_s, if_pos rfl, if_pos rfl]
    exact Or.inl ⟨s', m', p', rfl, rfl, g3, g4, g5, g6⟩
  · obtain ⟨hb1, bm1, tk1, ⟨q, q1, q2, q3⟩, dr1⟩ := g6
    have sm := FM.s19 m' (nI (skp T n q))
    have ln := skp_le (T := T) q1
    rw [g1, g2, bI_s, bI_s, if_neg (by decide +kernel), if_neg (by decide +kernel), skip_M hn bm1 q2 q1, bV_s]
    have := main_sim hn n 1 p' 1000 1000 h' s' (st m' 17 0 19 (nI (skp T n q))) (by omega) (by omega) (by omega) (by omega) ⟨hb1, sm.b bm1, tk1, ⟨skp T n q, ln.2, by rw [st_v, if_pos ⟨rfl, rfl, rfl⟩], by rw [skp_skp q1]; exact q3⟩, dr1.k (FC.rf _) sm⟩ (by rw [st_v, if_pos ⟨rfl, rfl, rfl⟩, q3])
    rw [nI_lits.2.1] at this
    exact this.up g3 (g4.tr sm.R)
theorem RS.rdf {s s' m m' : Sto} {L : Lng} (h : RS s m L) (fc : FRC s s') (fm : FRM m m') : RS s' m' L := by
  refine h.of (h.1.keep (crC_k (fc.1 _ _ (by omega) (by omega) (by omega) (by omega)) (fun j hj => fc.1 _ _ (by omega) (by omega) (by omega) (by omega)) (fun j hj => fc.1 _ _ (by omega) (by omega) (by omega) (by omega)) (fc.1 _ _ (by omega) (by omega) (by omega) (by omega)) (fun j hj => fc.1 _ _ (by omega) (by omega) (by omega) (by omega))) (crM_k (fun x hx => fm.2 x (by omega) (by omega)) (fun k hk => by rw [fm.1 k (by omega) (by omega)]))) ⟨fun k i z => ?_, fun x _ => by rw [fc.1 0 0 (by omega) (by omega) (by omega) (by omega)], fc.2⟩ ⟨fm.2 18 (by omega) (by omega), fm.1 28 (by decide) (by decide), fm.1 18 (by decide) (by decide), fm.1 35 (by decide) (by decide), fm.1 34 (by decide) (by decide)⟩
  unfold NK at z
  exact fc.1 k i (by omega) (by omega) (by omega) (by omega)
theorem rd_M {h : Nat} (h6 : h ≤ 6) : ∀ (r j fuel : Nat) (z : Sto), j + r = h → r < fuel → z 17 0 21 = nI h → z 17 0 1 = nI j → z 17 0 27 = 0 → ∃ z', (∀ K, fx fuel (l_m_read_27 K) (fun _ _ => none) z (nI j) = K z') ∧ z' 17 0 1 = nI h ∧ z' 17 0 27 = 0 ∧ (∀ x, x ≠ 1 → x ≠ 27 → z' 17 0 x = z 17 0 x) ∧ (∀ k, k ≠ 17 → (k < 19 ∨ 23 ≤ k) → z' k = z k) ∧ (∀ i, j ≤ i → i < h → ∀ k, k < 4 → z' (19 + k) 0 i = z 29 0 (4 * i + k)) ∧ ∀ i, i < j → ∀ k, k < 4 → z' (19 + k) 0 i = z (19 + k) 0 i
  | 0, j, fuel, z, hj, hf, h21, h1, h27 => by
    obtain ⟨f, rfl⟩ : ∃ f, fuel = f + 1 := ⟨fuel - 1, by omega⟩
    refine ⟨z, fun K => ?_, by rw [h1, show j = h by omega], h27, fun _ _ _ => rfl, fun _ _ _ => rfl, fun i a b => by omega, fun _ _ _ _ => rfl⟩
    rw [fx_s, l_m_read_27, h21, if_pos ((nI_leI (by omega) (by omega)).mpr (by omega))]
  | r + 1, j, fuel, z, hj, hf, h21, h1, h27 => by
    obtain ⟨f, rfl⟩ : ∃ f, fuel = f + 1 := ⟨fuel - 1, by omega⟩
    have f1 : (4 : Int32) * nI j = nI (4 * j) := by rw [c4n, pk_mul]
    have f2 : nI (4 * j) + 1 = nI (4 * j + 1) := nI_1 _
    have f3 : nI (4 * j) + 2 = nI (4 * j + 2) := by rw [c2n, nI_add]
    have f4 : nI (4 * j) + 3 = nI (4 * j + 3) := by rw [c3n, nI_add]
    have i6 : inb (z 17 0 1) 6 := by rw [h1]; exact inb_nI (by omega) (by omega)
    have ej : ix (z 17 0 1) = j := by rw [h1, ix_nI (by omega)]
    have a17 : ∀ a b c d x, x ≠ 1 → x ≠ 27 → adM z a b c d 17 0 x = z 17 0 x := fun a b c d x x1 x2 => by
      unfold adM
      rw [st_v, if_neg (fun w => x2 w.2.2), st_v, if_neg (fun w => x1 w.2.2), st_k (by decide), st_k (by decide), st_k (by decide), st_k (by decide)]
    have a1 : ∀ a b c d, adM z a b c d 17 0 1 = nI (j + 1) := fun a b c d => by
      unfold adM
      rw [st_v, if_neg (by omega), st_v, if_pos ⟨rfl, rfl, rfl⟩, h1, nI_1]
    have a27 : ∀ a b c d, adM z a b c d 17 0 27 = 0 := fun a b c d => by
      unfold adM
      rw [st_v, if_pos ⟨rfl, rfl, rfl⟩]
    have ak : ∀ a b c d k, k ≠ 17 → (k < 19 ∨ 23 ≤ k) → adM z a b c d k = z k := fun a b c d k k1 k2 => by
      unfold adM
      rw [st_k k1, st_k k1, st_k (by omega), st_k (by omega), st_k (by omega), st_k (by omega)]
    have ao : ∀ a b c d k i, k < 4 → i ≠ j → adM z a b c d (19 + k) 0 i = z (19 + k) 0 i := fun a b c d k i hk hi => by
      unfold adM
      rw [ej, st_k (by omega), st_k (by omega), st_v, if_neg (by omega), st_v, if_neg (by omega), st_v, if_neg (by omega), st_v, if_neg (by omega)]
    have av : ∀ k, k < 4 → adM z (z 29 0 (4 * j)) (z 29 0 (4 * j + 1)) (z 29 0 (4 * j + 2)) (z 29 0 (4 * j + 3)) (19 + k) 0 j = z 29 0 (4 * j + k) := fun k hk => by
      unfold adM
      rw [ej]
      rcases (show k = 0 ∨ k = 1 ∨ k = 2 ∨ k = 3 by omega) with rfl | rfl | rfl | rfl <;> simp [st]
    obtain ⟨z', p1, p2, p3, p4, p5, p6, p7⟩ := rd_M h6 r (j + 1) f (adM z (z 29 0 (4 * j)) (z 29 0 (4 * j + 1)) (z 29 0 (4 * j + 2)) (z 29 0 (4 * j + 3))) (by omega) (by omega) (by rw [a17 _ _ _ _ 21 (by decide) (by decide)]; exact h21) (a1 _ _ _ _) (a27 _ _ _ _)
    refine ⟨z', fun K => ?_, p2, p3, fun x x1 x2 => by rw [p4 x x1 x2, a17 _ _ _ _ x x1 x2], fun k k1 k2 => by rw [p5 k k1 k2, ak _ _ _ _ k k1 k2], fun i a b k hk => ?_, fun i a k hk => by rw [p7 i (by omega) k hk, ao _ _ _ _ k i hk (by omega)]⟩
    · rw [fx_s, l_m_read_27, h21, if_neg (fun w => by have := (nI_leI (by omega) (by omega)).mp w; omega), f1, if_pos (inb_nI (by omega) (by omega)), f2, if_pos (inb_nI (by omega) (by omega)), f3, if_pos (inb_nI (by omega) (by omega)), f4, if_pos (inb_nI (by omega) (by omega)), ix_nI (by omega), ix_nI (by omega), ix_nI (by omega), ix_nI (by omega), ad_Mo _ _ _ _ i6, bI_s, nI_1]
      exact p1 K
    · by_cases e : i = j
      · subst e
        rw [p7 i (by omega) k hk]
        exact av k hk
      · rw [p6 i (by omega) b k hk, ak _ _ _ _ 29 (by decide) (by omega)]
theorem DR_wf {h : Nat} {s m : Sto} (d : DR h s m) : wfR (crC s 1) := by
  obtain ⟨d1, d2, d3, d4, d5, d6, d7, d8, d9⟩ := d
  have eh : ix (s 1 1 5) = h := by rw [d2, ix_nI (by omega)]
  have z7 : inb (0 : Int32) 7 := by decide +kernel
  have z9 : inb (0 : Int32) 9 := by decide +kernel
  have z8 : in8 (0 : Int32) := by decide +kernel
  refine ⟨?_, ?_, ?_, ?_, ?_, ?_, ?_, ?_⟩
  · show inb (s 1 1 5) 7
    rw [d2]; exact inb_nI (by omega) (by omega)
  · show inb (s 1 1 6) 7
    rw [d4]; exact z7
  · show inb (s 1 1 7) 9
    rw [d5]; exact z9
  · show okE (ix (s 1 1 5)) (eC s 1)
    rw [eh]
    refine ⟨d1, fun j hj => ?_⟩
    show inb (s 2 (6 * 1 + j) 0) 6
    have := d7 j hj 0 (by decide)
    rw [Nat.mul_one, this]
    exact d8 j hj
  · show okS (ix (s 1 1 5)) (gC s 1)
    rw [eh, d6]; exact d9
  · show in8 (mo (gC s 1))
    rw [d6]; exact z8
  · show ∀ j, j < ix (s 1 1 6) → _
    rw [d4, ix0]
    intro j hj; omega
  · show ∀ j, j < ix (s 1 1 7) → _
    rw [d5, ix0]
    intro j hj; omega
theorem op_read {s m : Sto} {L : Lng} (h : RS s m L) : OPI (f_T_read s) (f_m_read m) L := by
  have hT := h.2.1
  have n151 := inb_ix hT.2.1
  have e1 : s 5 0 1 = nI (ix (s 5 0 1)) := of_ix hT.2.1.1
  have hb : BC (m 28 0) (ix (s 5 0 1)) s := ⟨e1, hT.2.2⟩
  have bm : BM (m 28 0) (ix (s 5 0 1)) m := ⟨by rw [← hT.1]; exact e1, fun _ _ => rfl⟩
  rw [f_T_read, f_m_read]
  rcases parse_sim (show ix (s 5 0 1) ≤ 150 by omega) hb bm with ⟨s', m', p', g1, g2, g3, g4, g5, g6⟩ | ⟨i, s', m', h', p', g0, g1, g2, g3, g4, g5⟩
  · rw [g1, g2, bI_s, bI_s, if_pos rfl, if_neg (by decide +kernel), g5, g6]
    exact ⟨_, _, _, rfl, rfl, h.rdf g3 g4⟩
  · have d := g5.2.2.2.2
    have w := DR_wf d
    have r' := h.rdf g3 g4
    obtain ⟨s1, c1, c2, c3⟩ := bec_C (s := s') (c := 0) (d := 1) (by omega) (by omega) (by omega) w
    have n1 : ¬ nI i = (-1 : Int32) := fun z => by
      rw [i_eq, nI_toInt (by omega), m1I] at z; omega
    obtain ⟨d1, d2, d3, d4, d5, d6, d7, d8, d9⟩ := d
    have b17 : ∀ x, x = 19 ∨ x = 20 ∨ x = 21 ∨ x = 22 ∨ x = 23 ∨ x = 18 → bgM m' (m' 17 0 20) 17 0 x = m' 17 0 x := fun x hx => by
      unfold bgM
      rw [st_v, if_neg (by omega), st_v, if_neg (by omega), st_v, if_neg (by omega)]
      unfold pM
      rw [if_pos ⟨rfl, rfl⟩, if_neg (by omega), if_neg (by omega), if_neg (by omega), if_neg (by omega), if_neg (by omega)]
    have bk : ∀ k, k ≠ 17 → bgM m' (m' 17 0 20) k = m' k := fun k hk => by
      unfold bgM; rw [st_k hk, st_k hk, st_k hk, pM_k hk]
    have bg : gM (bgM m' (m' 17 0 20)) = (m' 17 0 20, 0, 0, -1, -1) := by
      unfold bgM; rw [gM_x (by decide), gM_x (by decide), gM_x (by decide), gM_pM]
    have b1 : bgM m' (m' 17 0 20) 17 0 1 = nI 0 := by
      unfold bgM; rw [st_v, if_neg (by omega), st_v, if_neg (by omega), st_v, if_pos ⟨rfl, rfl, rfl⟩, nI_0]
    have b7 : bgM m' (m' 17 0 20) 17 0 7 = 0 := by
      unfold bgM; rw [st_v, if_neg (by omega), st_v, if_pos ⟨rfl, rfl, rfl⟩]
    have b27 : bgM m' (m' 17 0 20) 17 0 27 = 0 := by
      unfold bgM; rw [st_v, if_pos ⟨rfl, rfl, rfl⟩]
    obtain ⟨z, k1, k2, k3, k4, k5, k6, k7⟩ := rd_M d1 h' 0 1000 (bgM m' (m' 17 0 20)) (by omega) (by omega) (by rw [b17 21 (by omega)]; exact d3) b1 b27
    have gz : gM z = (m' 17 0 20, 0, 0, -1, -1) := by
      rw [← bg]; unfold gM
      rw [k4 2 (by decide) (by decide), k4 3 (by decide) (by decide), k4 4 (by decide) (by decide), k4 5 (by decide) (by decide), k4 6 (by decide) (by decide)]
    rw [nI_0] at k1
    have e6 : st z 17 0 5 (z 17 0 22) 17 0 23 = z 17 0 23 := by rw [st_v, if_neg (by omega)]
    rw [g1, g2, bI_s, bI_s, if_neg n1, if_pos (nI_pos' (by omega)), c1, bV_s, bg_M, bV_s, jn_e, k1, lt_e, lt_e, e6, k4 22 (by decide) (by decide), k4 23 (by decide) (by decide), b17 22 (by omega), b17 23 (by omega), pM_pq, gz]
    have z17 : ∀ x, x ≠ 2 → x ≠ 3 → x ≠ 4 → x ≠ 5 → x ≠ 6 → ∀ v, pM z v 17 0 x = z 17 0 x := fun x x2 x3 x4 x5 x6 v => by
      unfold pM
      rw [if_pos ⟨rfl, rfl⟩, if_neg x2, if_neg x3, if_neg x4, if_neg x5, if_neg x6]
    have new : eqR (crC s' 1) (crM (pM z (m' 17 0 20, 0, 0, m' 17 0 22, m' 17 0 23))) := by
      refine ⟨?_, ?_, ?_, ?_, fun j hj k hk => ?_, fun j hj k hk => ?_, fun j hj => ?_⟩
      · show s' 1 1 5 = pM z (m' 17 0 20, 0, 0, m' 17 0 22, m' 17 0 23) 17 0 1
        rw [z17 1 (by decide) (by decide) (by decide) (by decide) (by decide), d2, k2]
      · show s' 1 1 6 = pM z (m' 17 0 20, 0, 0, m' 17 0 22, m' 17 0 23) 17 0 7
        rw [z17 7 (by decide) (by decide) (by decide) (by decide) (by decide), d4, k4 7 (by decide) (by decide), b7]
      · show s' 1 1 7 = pM z (m' 17 0 20, 0, 0, m' 17 0 22, m' 17 0 23) 17 0 27
        rw [z17 27 (by decide) (by decide) (by decide) (by decide) (by decide), d5, k3]
      · show gC s' 1 = gM (pM z (m' 17 0 20, 0, 0, m' 17 0 22, m' 17 0 23))
        rw [gM_pM, d6]
      · have hj' : j < ix (s' 1 1 5) := hj
        rw [d2, ix_nI (by omega)] at hj'
        show s' 2 (6 * 1 + j) k = pM z (m' 17 0 20, 0, 0, m' 17 0 22, m' 17 0 23) (19 + k) 0 j
        rw [pM_k (by omega), k6 j (by omega) hj' k hk, bk 29 (by decide), Nat.mul_one]
        exact d7 j hj' k hk
      · have hj' : j < ix (s' 1 1 6) := hj
        rw [d4, ix0] at hj'; omega
      · have hj' : j < ix (s' 1 1 7) := hj
        rw [d5, ix0] at hj'; omega
    refine ⟨_, _, _, rfl, rfl, r'.of ⟨c2.sm.tr new, c2.wf w⟩ ?_ ?_⟩
    · exact ⟨fun k i n => c3 k i (by unfold NK at n; unfold OC; omega), fun y _ => by rw [c3 0 0 (by unfold OC; omega)], by rw [c3 5 0 (by unfold OC; omega)]⟩
    · refine ⟨?_, ?_, ?_, ?_, ?_⟩
      · rw [z17 18 (by decide) (by decide) (by decide) (by decide) (by decide), k4 18 (by decide) (by decide), b17 18 (by omega)]
      · rw [pM_k (by decide), k5 28 (by decide) (by omega), bk 28 (by decide)]
      · rw [pM_k (by decide), k5 18 (by decide) (by omega), bk 18 (by decide)]
      · rw [pM_k (by decide), k5 35 (by decide) (by omega), bk 35 (by decide)]
      · rw [pM_k (by decide), k5 34 (by decide) (by omega), bk 34 (by decide)]
