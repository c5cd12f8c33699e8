/-! read: hearts, one item -/
def ktC (x2 : Int32) (i : Nat) (s4 : Sto) (v : Int32) : Option (Int32 × Sto) := wrp (f_Tx_takeEnding (if x2 = 0 then fel s4 i (s4 2 i 1) v else fel s4 i v (s4 2 i 2)))
def ktM (k w : Nat) (m : Sto) (v : Int32) : Option (Int32 × Sto) := wrp (f_m_ends (st m 29 0 (4 * k + w) v))
theorem ktC_e {k : Nat} (hk : k < 6) (x2 : Int32) : (fun s4 v4_5 => if inb (nI k) 6 then jn (fun t8 => if x2 = (0 : Int32) then bV (f_He_feel s4 (6 * 1 + ix (nI k)) t8 v4_5) (fun s10 => wrp (f_Tx_takeEnding s10)) else bV (f_He_feel s4 (6 * 1 + ix (nI k)) t8 (s4 2 (6 * 1 + ix (nI k)) 2)) (fun s13 => wrp (f_Tx_takeEnding s13))) (fun j9 => if x2 = (0 : Int32) then j9 (s4 2 (6 * 1 + ix (nI k)) 1) else j9 v4_5) else none) = ktC x2 (6 + k) := by
  funext s4 v
  unfold ktC
  rw [if_pos (inb_nI hk (by omega)), ix_nI (by omega), jn_e, Nat.mul_one]
  by_cases h : x2 = 0
  · rw [if_pos h, if_pos h]
    dsimp only
    rw [if_pos h, fel_C, bV_s]
  · rw [if_neg h, if_neg h]
    dsimp only
    rw [if_neg h, fel_C, bV_s]
theorem DR_fe {h k w : Nat} {s s' m : Sto} {v : Int32} (d : DR h s m) (hk : k < h) (hw : w = 1 ∨ w = 2) (h1 : ∀ k' i', ¬ (k' = 2 ∧ i' = 6 + k) → s' k' i' = s k' i') (h2 : ∀ x, x < 4 → s' 2 (6 + k) x = if x = w then v else s 2 (6 + k) x) : DR h s' (st m 29 0 (4 * k + w) v) := by
  obtain ⟨d1, d2, d3, d4, d5, d6, d7, d8, d9⟩ := d
  unfold DR
  rw [h1 1 1 (by omega), gC_k (h1 4 1 (by omega)), st_k (k' := 17) (by decide)]
  refine ⟨d1, d2, d3, d4, d5, d6, fun j hj x hx => ?_, fun j hj => ?_, d9⟩
  · rw [st_v]
    by_cases e : j = k
    · subst e
      rw [h2 x hx]
      by_cases e2 : x = w
      · rw [if_pos e2, if_pos (by omega)]
      · rw [if_neg e2, if_neg (by omega)]; exact d7 j hj x hx
    · rw [if_neg (by omega), h1 2 _ (by omega)]; exact d7 j hj x hx
  · rw [st_v, if_neg (by omega)]; exact d8 j hj
def fex (x2 : Int32) (i : Nat) (s4 : Sto) (v : Int32) : Sto := if x2 = 0 then fel s4 i (s4 2 i 1) v else fel s4 i v (s4 2 i 2)
theorem fex_k {x2 : Int32} {i : Nat} {s : Sto} {v : Int32} {k i' : Nat} (h : ¬ (k = 2 ∧ i' = i)) : fex x2 i s v k i' = s k i' := by
  unfold fex
  have q : ∀ a b, fel s i a b k i' = s k i' := fun a b => by
    by_cases e : k = 2
    · have hi : i' ≠ i := fun z => h ⟨e, z⟩
      unfold fel; rw [st_i hi, st_i hi]
    · rw [fel_k e]
  by_cases z : x2 = 0
  · rw [if_pos z, q]
  · rw [if_neg z, q]
theorem fel_x (s : Sto) (i : Nat) (a b : Int32) (x : Nat) : fel s i a b 2 i x = if x = 2 then b else if x = 1 then a else s 2 i x := by
  unfold fel
  rw [st_v, st_v]
  by_cases h2 : x = 2
  · rw [if_pos ⟨rfl, rfl, h2⟩, if_pos h2]
  · rw [if_neg (fun z => h2 z.2.2), if_neg h2]
    by_cases h1 : x = 1
    · rw [if_pos ⟨rfl, rfl, h1⟩, if_pos h1]
    · rw [if_neg (fun z => h1 z.2.2), if_neg h1]
theorem fex_v {x2 : Int32} {i w : Nat} (s : Sto) (v : Int32) (hw : x2 = 0 ∧ w = 2 ∨ ¬ x2 = 0 ∧ w = 1) : ∀ x, x < 4 → fex x2 i s v 2 i x = if x = w then v else s 2 i x := by
  intro x hx
  unfold fex
  rcases hw with ⟨a, rfl⟩ | ⟨a, rfl⟩
  · rw [if_pos a, fel_x]
    by_cases h2 : x = 2
    · rw [if_pos h2, if_pos h2]
    · rw [if_neg h2, if_neg h2]
      by_cases h1 : x = 1
      · rw [if_pos h1, h1]
      · rw [if_neg h1]
  · rw [if_neg a, fel_x]
    by_cases h2 : x = 2
    · rw [if_pos h2, if_neg (by omega), h2]
    · rw [if_neg h2]
theorem fex_FRC {x2 : Int32} {k : Nat} (hk : k < 6) (s : Sto) (v : Int32) : FRC s (fex x2 (6 + k) s v) := ⟨fun k' i' n1 n2 n3 n4 => fex_k (by omega), by rw [fex_k (by omega)]⟩
theorem acts_sim {T : Nat → Int32} {n h : Nat} (hn : n ≤ 150) {C M : Sto → Int32 → Option (Int32 × Sto)} (hK : ∀ s' m' p' v, SY T n h p' s' m' → IT T n p' s' m' (C s' v) (M m' v)) (hZ : ∀ s' p' v, TK T n p' s' → ¬ srt T n p' = 3 → ∃ s'', C s' v = some (0, s'') ∧ FRC s' s'' ∧ s'' 5 0 2 = nI p') : ∀ (r i p fC fM : Nat) (s m : Sto) (v : Int32), n ≤ p + r → r < fC → r < fM → i ≤ p → SY T n h p s m → m 17 0 19 = nI p → IT T n p s m (fx fC (l_Tx_heartItem_29 C) (fun _ _ _ => none) s v (nI i)) (fx fM (l_m_readsActs_27 M) (fun _ _ => none) m v) := by
  intro r
  induction r with
  | zero =>
    intro i p fC fM s m v hr h1 h2 hi y e19
    obtain ⟨c, rfl⟩ : ∃ f, fC = f + 1 := ⟨fC - 1, by omega⟩
    obtain ⟨d, rfl⟩ : ∃ f, fM = f + 1 := ⟨fM - 1, by omega⟩
    have z := (srt_0 (T := T)).mpr (show n ≤ p by omega)
    have n2 : ¬ srt T n p = 2 := fun q => by rw [z] at q; exact absurd q srt_l.2.2.2.2.2.2.2.2.2.2.2.2.2.2.1
    rw [fx_s, fx_s, l_Tx_heartItem_29, l_m_readsActs_27, y.2.2.1.2.2.1, if_neg n2, ite_self, here_M hn y.2.1 e19 y.le, bP_s, if_neg (by omega), fig_M, bP_s, show isF (-1) = false from Bool.eq_false_iff.mpr fig59.2.2.1, if_pos b2f]
    exact hK _ _ _ _ y
  | succ r ih =>
    intro i p fC fM s m v hr h1 h2 hi y e19
    obtain ⟨c, rfl⟩ : ∃ f, fC = f + 1 := ⟨fC - 1, by omega⟩
    obtain ⟨d, rfl⟩ : ∃ f, fM = f + 1 := ⟨fM - 1, by omega⟩
    rw [fx_s, fx_s, l_Tx_heartItem_29, l_m_readsActs_27, y.2.2.1.2.2.1, here_M hn y.2.1 e19 y.le, bP_s, fig_M, bP_s]
    by_cases h2' : srt T n p = 2
    · obtain ⟨-, -, -, kp⟩ := nmv_k h2'
      have r2 := srt_2.mp h2'
      have hf : isF (T p) = true := ed_in (P := isF) (T := T) (n := n) (n - p) p (by omega) p (by omega) r2.1
      have n150 : ¬ (150 : Int32) ≤ nI i := fun z => by
        rw [show (150 : Int32) = nI 150 by decide +kernel] at z
        have := (nI_leI (by omega) (by omega)).mp z
        omega
      rw [if_neg n150, if_pos h2', if_pos kp, hf, if_neg b2t]
      rcases num_SY hn y 7 (-1) with ⟨k, m1, k99, khi, kp', e1, e2, e3, -, e5⟩ | ⟨m1, e1, e2, e3, e4⟩
      · obtain ⟨s1, g1, g2, g3⟩ := e5 (nk_m1 k99)
        obtain ⟨hb1, bm1, tk1, ⟨q, q1, q2, q3⟩, dr1⟩ := g3
        have sm := FM.s19 m1 (nI (skp T n q))
        have ln := skp_le (T := T) q1
        rw [e1, g1, bI_s, bI_s, if_neg (nk_m1 k99), if_neg (by decide +kernel), lt_e, lt_e, e3, skip_M hn bm1 q2 q1, bV_s, nI_1]
        refine IT.up (ih (i + 1) (skp T n (bh T n p)) c d s1 (st m1 17 0 19 (nI (skp T n q))) _ (by omega) (by omega) (by omega) (by omega) ⟨hb1, sm.b bm1, tk1, ⟨skp T n q, ln.2, by rw [st_v, if_pos ⟨rfl, rfl, rfl⟩], by rw [skp_skp q1]; exact q3⟩, dr1.k (FC.rf _) sm⟩ (by rw [st_v, if_pos ⟨rfl, rfl, rfl⟩, q3])) (Nat.le_of_lt kp') g2.R (e2.R.tr sm.R)
      · rw [e1, e4, bI_s, bI_s, if_pos rfl, if_pos rfl]
        exact Or.inl ⟨s, m1, _, rfl, rfl, FRC.rf _, e2.R, y.2.2.1.1, e3⟩
    · rw [if_neg h2', ite_self]
      cases hf : isF (if p < n then T p else -1) with
      | false => rw [if_pos b2f]; exact hK _ _ _ _ y
      | true =>
        have hp : p < n := by
          rcases Nat.lt_or_ge p n with q | q
          · exact q
          · rw [if_neg (by omega)] at hf; exact absurd hf fig59.2.2.1
        rw [if_pos hp] at hf
        rw [if_neg b2t]
        rcases num_SY hn y 7 (-1) with ⟨k, m1, k99, khi, kp', e1, e2, e3, -, e5⟩ | ⟨m1, e1, e2, e3, e4⟩
        · obtain ⟨s1, g1, -⟩ := e5 (nk_m1 k99)
          rw [f_Tx_takeNumber, y.2.2.1.2.2.1, if_neg h2'] at g1
          have := congrArg Prod.fst (Option.some.inj g1)
          exact absurd this.symm (nk_m1 k99)
        · obtain ⟨s2, z1, z2, z3⟩ := hZ s p v y.2.2.1 (fun q => by
            have := (srt_3.mp q).2
            rw [this] at hf
            exact fig59.1 hf)
          rw [e1, bI_s, if_pos rfl, z1]
          exact Or.inl ⟨s2, m1, _, rfl, rfl, z2, e2.R, z3, e3⟩
theorem heart_sim {T : Nat → Int32} {n h p w : Nat} (hn : n ≤ 150) {x2 : Int32} (hw : x2 = 0 ∧ w = 2 ∨ ¬ x2 = 0 ∧ w = 1) {s m : Sto} (y : SY T n h p s m) : IT T n p s m (bI (f_Tx_takeNumber s ((s 1 1 5) - (1 : Int32)) (-1 : Int32)) (fun r2 s3 => if r2 = (-1 : Int32) then some ((0 : Int32), s3) else jn (fun s4 v4_5 => if inb r2 6 then jn (fun t8 => if x2 = (0 : Int32) then bV (f_He_feel s4 (6 * 1 + ix r2) t8 v4_5) (fun s10 => wrp (f_Tx_takeEnding s10)) else bV (f_He_feel s4 (6 * 1 + ix r2) t8 (s4 2 (6 * 1 + ix r2) 2)) (fun s13 => wrp (f_Tx_takeEnding s13))) (fun j9 => if x2 = (0 : Int32) then j9 (s4 2 (6 * 1 + ix r2) 1) else j9 v4_5) else none) (fun K6 => fx 1000 (l_Tx_heartItem_29 K6) (fun _ _ _ => none) s3 (0 : Int32) (0 : Int32)))) (f_m_readsActs m (nI w)) := by
  have dh := y.2.2.2.2
  have hw2 : w = 1 ∨ w = 2 := by omega
  rw [f_m_readsActs, dh.2.1, dh.2.2.1]
  rcases num_SY hn y (nI h - 1) (-1) with ⟨k, m1, k99, khi, kp, e1, e2, e3, -, e5⟩ | ⟨m1, e1, e2, e3, e4⟩
  · obtain ⟨s1, g1, g2, g3⟩ := e5 (nk_m1 k99)
    have kh := inb_ix (k_lt dh.1 k99 khi)
    rw [ix_nI (by omega)] at kh
    have h6 := dh.1
    rw [e1, g1, bI_s, bI_s, if_neg (nk_m1 k99), if_neg (by decide +kernel), lt_e, e3]
    refine IT.up ?_ (Nat.le_of_lt kp) g2.R e2.R
    obtain ⟨hb1, bm1, tk1, ⟨q, q1, q2, q3⟩, dr1⟩ := g3
    have ln := skp_le (T := T) q1
    have sm := FM.s19 m1 (nI (skp T n q))
    have g3 : SY T n h (skp T n (bh T n p)) s1 (st m1 17 0 19 (nI (skp T n q))) := ⟨hb1, sm.b bm1, tk1, ⟨skp T n q, ln.2, by rw [st_v, if_pos ⟨rfl, rfl, rfl⟩], by rw [skp_skp q1]; exact q3⟩, dr1.k (FC.rf _) sm⟩
    rw [skip_M hn bm1 q2 q1, bV_s, jn_e, jn_e, ktC_e (by omega)]
    have eM : (fun s5 v3_6 => if inb (((4 : Int32) * nI k) + nI w) 24 then lt (st s5 29 0 (ix (((4 : Int32) * nI k) + nI w)) v3_6) (fun s8 => bI (f_m_ends s8) (fun r9 s10 => if r9 = (0 : Int32) ∨ r9 = (1 : Int32) then some (r9, s10) else none)) else none) = ktM k w := by
      funext s5 v
      rw [c4n, pk_mul, nI_add, if_pos (inb_nI (by omega) (by omega)), ix_nI (by omega), lt_e, wrp_e]
      rfl
    rw [eM]
    have hK : ∀ s' m' p' v, SY T n h p' s' m' → IT T n p' s' m' (ktC x2 (6 + k) s' v) (ktM k w m' v) := by
      intro s' m' p' v y'
      obtain ⟨hb, bm, tk, ⟨q', q1', q2', q3'⟩, dr⟩ := y'
      have fc := fex_FRC (x2 := x2) (show k < 6 by omega) s' v
      have fm : FRM m' (st m' 29 0 (4 * k + w) v) := FRM.a
      exact IT.up (fin_sim (s := fex x2 (6 + k) s' v) (m := st m' 29 0 (4 * k + w) v) hn ⟨fc.b hb, fm.b bm, tk.k (by funext i; exact fex_k (by omega)), ⟨q', q1', by rw [st_k (by decide)]; exact q2', q3'⟩, DR_fe dr kh hw2 (fun k' i' z => fex_k z) (fex_v s' v hw)⟩) (Nat.le_refl _) fc fm
    have hZ : ∀ s' p' v, TK T n p' s' → ¬ srt T n p' = 3 → ∃ s'', ktC x2 (6 + k) s' v = some (0, s'') ∧ FRC s' s'' ∧ s'' 5 0 2 = nI p' := by
      intro s' p' v tk n3
      have e5 : fex x2 (6 + k) s' v 5 0 = s' 5 0 := fex_k (by omega)
      refine ⟨fex x2 (6 + k) s' v, ?_, fex_FRC (by omega) s' v, by rw [e5]; exact tk.1⟩
      show wrp (f_Tx_takeEnding (fex x2 (6 + k) s' v)) = _
      rw [f_Tx_takeEnding, e5, tk.2.2.1, if_neg n3, wrp_0]
    have := acts_sim hn hK hZ n 0 (skp T n (bh T n p)) 1000 1000 s1 (st m1 17 0 19 (nI (skp T n q))) 0 (by omega) (by omega) (by omega) (by omega) g3 (by rw [st_v, if_pos ⟨rfl, rfl, rfl⟩, q3])
    rw [nI_0] at this
    exact IT.up this (Nat.le_refl _) (FRC.rf _) sm.R
  · rw [e1, e4, bI_s, bI_s, if_pos rfl, if_pos rfl]
    exact Or.inl ⟨s, m1, _, rfl, rfl, FRC.rf _, e2.R, y.2.2.1.1, e3⟩
theorem wd_sz {T : Nat → Int32} {n p w : Nat} (h : wd T n p w = true) : ed isL T n p - p = sLen.getD w 0 := by
  unfold wd at h
  rw [Bool.and_eq_true] at h
  exact of_decide_eq_true h.1
theorem wd_bh {T : Nat → Int32} {n p w z : Nat} (hp : p ≤ n) (h : wd T n p w = true) (hz : sLen.getD w 0 = z) (h0 : 0 < z) : bh T n p = p + z ∧ p < n := by
  have e := wd_sz h
  have el := ed_le (P := isL) (T := T) (n := n) (p := p) hp
  have hl : isL (T p) = true := ed_in (P := isL) (T := T) (n := n) (n - p) p (by omega) p (by omega) (by omega)
  have hpn : p < n := by omega
  refine ⟨?_, hpn⟩
  unfold bh
  rw [if_pos hpn, if_pos hl]
  omega
theorem lens : sLen.getD 0 0 = 5 ∧ sLen.getD 1 0 = 4 ∧ sLen.getD 2 0 = 4 ∧ sLen.getD 3 0 = 4 ∧ sLen.getD 4 0 = 4 := by decide +kernel
theorem wds : ¬ (1 : Int32) < 1 ∧ (0 : Int32) < 1 ∧ (-1 : Int32) < 1 ∧ ¬ (2 : Int32) < 1 ∧ ¬ (3 : Int32) < 1 ∧ ¬ (4 : Int32) < 1 ∧ ¬ (2 : Int32) = 1 ∧ ¬ (3 : Int32) = 1 ∧ ¬ (4 : Int32) = 1 ∧ ¬ (2 : Int32) = 4 ∧ ¬ (3 : Int32) = 4 ∧ (2 : Int32) - 1 = nI 1 ∧ (3 : Int32) - 1 = nI 2 ∧ ¬ (1 : Int32) = 0 := by decide +kernel
theorem item_sim {T : Nat → Int32} {n h p : Nat} (hn : n ≤ 150) {s m : Sto} (y : SY T n h p s m) (e19 : m 17 0 19 = nI p) : IT T n p s m (f_Tx_laterItem s 1) (f_m_readsItem m) := by
  have hp := y.le
  obtain ⟨hb, bm, tk, -, dr⟩ := y
  have isw := fun w (hw : w < 5) => isw_C hn hb tk hp hw
  obtain ⟨s1, a1, a2, a3⟩ := adv_T hn hb tk hp
  have sm := FM.s19 m (nI (bh T n p))
  have bl := bh_le (T := T) hp
  have sl := skp_le (T := T) bl.2
  have y1 : SY T n h (skp T n (bh T n p)) s1 (st m 17 0 19 (nI (bh T n p))) := ⟨a2.b hb, sm.b bm, a3, ⟨bh T n p, bl.2, by rw [st_v, if_pos ⟨rfl, rfl, rfl⟩], rfl⟩, dr.k a2 sm⟩
  rw [f_Tx_laterItem, isw 1 (by decide), bP_s, isw 2 (by decide), bP_s, isw 3 (by decide), bP_s, isw 4 (by decide), bP_s, f_m_readsItem, whr_M hn bm e19 hp, bP_s, wrp_e, wrp_e, wrp_e, wrp_e, wh_if, wh_if, wh_if, wh_if, e19, jn_e, lt_e, wrp_e, wrp_e, wrp_e]
  unfold wdh
  by_cases w1 : wd T n p 1 = true
  · obtain ⟨eb, hpn⟩ := wd_bh hp w1 lens.2.1 (by decide)
    have w0 : ¬ wd T n p 0 = true := fun z => by have := wd_sz z; have := wd_sz w1; have := lens.1; have := lens.2.1; omega
    rw [if_pos w1, if_neg w0, if_pos w1, if_neg wds.1, if_pos rfl, if_pos rfl, dr.2.2.1]
    have h6 := dr.1
    by_cases g : h = 6
    · have g6 : nI h = 6 := by rw [g]; exact c6.symm
      rw [if_pos g6, f_Tx_heirItem, dr.2.1, if_neg (fun z => by rw [g6] at z; exact absurd z (by decide +kernel)), wrp_0]
      exact Or.inl ⟨s, m, p, rfl, rfl, FRC.rf _, FRM.rf _, tk.1, e19⟩
    · have g6 : ¬ nI h = 6 := fun z => by rw [c6] at z; exact g ((nI_eq (by omega) (by omega)).mp z)
      have l6 : nI h < 6 := by rw [c6]; exact (nI_ltI (by omega) (by omega)).mpr (by omega)
      rw [if_neg g6, f_Tx_heirItem, dr.2.1, if_pos l6, a1, bV_s, c4n, nI_add, ← eb]
      exact ((heir_sim hn (by omega) y1).up (by omega) a2.R sm.R).w
  · rw [if_neg w1]
    by_cases w2 : wd T n p 2 = true
    · obtain ⟨eb, hpn⟩ := wd_bh hp w2 lens.2.2.1 (by decide)
      have w0 : ¬ wd T n p 0 = true := fun z => by have := wd_sz z; have := wd_sz w2; have := lens.1; have := lens.2.2.1; omega
      rw [if_pos w2, if_neg w0, if_neg w1, if_pos w2, if_neg wds.2.2.2.1, if_neg wds.2.2.2.2.2.2.1, if_neg wds.2.2.2.2.2.2.1, if_neg wds.2.2.2.2.2.2.2.2.2.1, wds.2.2.2.2.2.2.2.2.2.2.2.1, f_Tx_heartItem, a1, bV_s, c4n, nI_add, ← eb]
      exact ((heart_sim hn (Or.inr ⟨wds.2.2.2.2.2.2.2.2.2.2.2.2.2, rfl⟩) y1).up (by omega) a2.R sm.R).w
    · rw [if_neg w2]
      by_cases w3 : wd T n p 3 = true
      · obtain ⟨eb, hpn⟩ := wd_bh hp w3 lens.2.2.2.1 (by decide)
        have w0 : ¬ wd T n p 0 = true := fun z => by have := wd_sz z; have := wd_sz w3; have := lens.1; have := lens.2.2.2.1; omega
        rw [if_pos w3, if_neg w0, if_neg w1, if_neg w2, if_pos w3, if_neg wds.2.2.2.2.1, if_neg wds.2.2.2.2.2.2.2.1, if_neg wds.2.2.2.2.2.2.2.1, if_neg wds.2.2.2.2.2.2.2.2.2.2.1, wds.2.2.2.2.2.2.2.2.2.2.2.2.1, f_Tx_heartItem, a1, bV_s, c4n, nI_add, ← eb]
        exact ((heart_sim hn (Or.inl ⟨rfl, rfl⟩) y1).up (by omega) a2.R sm.R).w
      · rw [if_neg w3]
        by_cases w4 : wd T n p 4 = true
        · obtain ⟨eb, hpn⟩ := wd_bh hp w4 lens.2.2.2.2 (by decide)
          have w0 : ¬ wd T n p 0 = true := fun z => by have := wd_sz z; have := wd_sz w4; have := lens.1; have := lens.2.2.2.2; omega
          have e4 : nI p + 4 = nI (bh T n p) := by rw [c4n, nI_add, ← eb]
          rw [if_pos w4, if_neg w0, if_neg w1, if_neg w2, if_neg w3, if_pos w4, if_neg wds.2.2.2.2.2.1, if_neg wds.2.2.2.2.2.2.2.2.1, if_neg wds.2.2.2.2.2.2.2.2.1, if_pos rfl, f_Tx_pairItem, a1, bV_s, e4]
          exact ((pair_sim hn y1).up (by omega) a2.R sm.R).w
        · rw [if_neg w4, if_neg w1, if_neg w2, if_neg w3, if_neg w4]
          have lt1 : (if wd T n p 0 = true then (0 : Int32) else -1) < 1 := by
            by_cases w0 : wd T n p 0 = true
            · rw [if_pos w0]; exact wds.2.1
            · rw [if_neg w0]; exact wds.2.2.1
          rw [if_pos lt1]
          exact Or.inl ⟨s, m, p, rfl, rfl, FRC.rf _, FRM.rf _, tk.1, e19⟩
