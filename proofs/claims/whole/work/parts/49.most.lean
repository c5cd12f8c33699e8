/-! most -/
theorem TFr.KC {s s' : Sto} (h : TFr 0 s s') : KC s s' := by
  refine ⟨fun k i n => ?_, h.2.1, ?_⟩
  · unfold NK at n
    exact h.1 k i (by omega) (by omega) (by omega) (by omega)
  · rw [h.1 5 0 (by decide) (by decide) (by decide) (by omega)]
theorem TFr.c8 {s s' : Sto} (h : TFr 0 s s') : eq8 (crC s 0) (crC s' 0) :=
  crC_k (h.1 _ _ (by decide) (by decide) (by decide) (by omega)) (fun j hj => h.1 _ _ (by decide) (by decide) (by decide) (by omega)) (fun j hj => h.1 _ _ (by decide) (by decide) (by decide) (by omega)) (h.1 _ _ (by decide) (by decide) (by decide) (by omega)) (fun j hj => h.1 _ _ (by decide) (by decide) (by decide) (by omega))
theorem RS.tf {s s' m : Sto} {L : Lng} (h : RS s m L) (q : TFr 0 s s') : RS s' m L := h.of (h.1.keep q.c8 (eqR.rf _)) q.KC (KM.rf _)
theorem RS.m3 {s m m' : Sto} {L : Lng} (h : RS s m L) (q : M3 m m') : RS s m' L := by
  refine h.of (h.1.keep (crC_k rfl (fun _ _ => rfl) (fun _ _ => rfl) rfl (fun _ _ => rfl)) (crM_k (fun x _ => by rw [q 17 (by decide) (by decide) (by decide)]) (fun k hk => by rw [q k (by omega) (by omega) (by omega)]))) (KC.rf _) ⟨by rw [q 17 (by decide) (by decide) (by decide)], q 28 (by decide) (by decide) (by decide), q 18 (by decide) (by decide) (by decide), q 35 (by decide) (by decide) (by decide), q 34 (by decide) (by decide) (by decide)⟩
theorem RS.m9 {s m : Sto} {L : Lng} (h : RS s m L) (v : Int32) : RS (st s 0 0 9 v) m L :=
  h.of (h.1.keep (crC_0 0) (eqR.rf _)) ⟨fun k i n => by
    by_cases e : k = 0
    · unfold NK at n; omega
    · rw [st_k e], fun x hx => by rw [st_v, if_neg (fun z => hx z.2.2)], by rw [st_k (by decide)]⟩ (KM.rf _)
theorem out14 {n : Int32} (h : outB n 1 4 = false) : n = nI (ix n) ∧ 1 ≤ ix n ∧ ix n ≤ 4 := by
  have hb := outB_f h
  have h1 : (1 : Int32).toInt = 1 := by decide +kernel
  have h4 : (4 : Int32).toInt = 4 := by decide +kernel
  rw [h1, h4] at hb
  have hx := ix_toInt (x := n) (by omega)
  exact ⟨of_ix (by omega), by omega, by omega⟩
theorem i50 : inb (0 : Int32) 5 := by decide +kernel
theorem op_most {s m : Sto} {L : Lng} (h : RS s m L) (n i : Int32) : OPI (f_T_most s n i) (f_m_most m n i) L := by
  obtain ⟨e1, w1, w1m, e4, e5, k1, k2, o1, o2⟩ := h.fx
  have om : okM (ix (s 1 0 5)) (gM m) := by rw [← e4]; exact o1
  have o8 : in8 (mo (gM m)) := by rw [← e4]; exact o2
  rw [f_T_most, f_m_most, out_C, in_M, bP_s, bP_s, h.pr, pr_m, e4, bP_s, bP_s]
  cases hn : outB n 1 4 with
  | true => rw [if_neg b2t, Bool.not_true, if_pos b2f, bad_C, ten_M]; exact op_bad h _
  | false =>
    rw [if_pos b2f, Bool.not_false, if_neg b2t]
    by_cases hi : (-1 : Int32) ≤ i
    · rw [if_pos hi, if_pos hi]
      by_cases hp : mp (gM m) = -1
      · rw [decide_eq_true hp, Bool.not_true, if_pos b2f, if_pos b2f, no_C, no_M]; exact op_no h _
      · rw [decide_eq_false hp, Bool.not_false, if_neg b2t, if_neg b2t]
        by_cases hin : i < n
        · obtain ⟨en, n1, n4⟩ := out14 hn
          generalize ix n = N at en n1 n4
          subst en
          have h9 := p9_le n4
          have hpc : prd (gC s 0) := by unfold prd; rw [e4]; exact hp
          have g7 : gC (pC (st s 0 0 9 (-1)) 37 (gC (st s 0 0 9 (-1)) 0)) (37 + 0) = gC s 0 := by
            show gC (pC (st s 0 0 9 (-1)) 37 (gC (st s 0 0 9 (-1)) 0)) 37 = gC s 0
            rw [gC_pC, gC_st (by decide)]
          have c7 : eC (pC (st s 0 0 9 (-1)) 37 (gC (st s 0 0 9 (-1)) 0)) 0 = eC s 0 := by
            rw [eC_pC]; funext j k; unfold eC; rw [st_k (by decide)]
          have r7 : RS (pC (st s 0 0 9 (-1)) 37 (gC (st s 0 0 9 (-1)) 0)) m L := (h.m9 _).trial _ 37 (by decide)
          have b7 : BW N (pC (st s 0 0 9 (-1)) 37 (gC (st s 0 0 9 (-1)) 0)) (-1, 0) := by
            refine ⟨?_, Int.le_refl _, fun z => absurd z (by decide)⟩
            rw [pC_k (by decide), st_v, if_pos ⟨rfl, rfl, rfl⟩]
            exact m1I
          obtain ⟨s', t1, t2, t3⟩ := tf_C (g0 := grV (eC s 0) (gC s 0)) (n := ix (s 1 0 5)) (N := N) (D := drN (eC s 0) N (gC s 0) 0) (e := eC s 0) k1 n4 N 0 6 (by omega) (by omega) (pC (st s 0 0 9 (-1)) 37 (gC (st s 0 0 9 (-1)) 0)) 0 0 (-1) 0 ⟨c7, by unfold HC; rw [pC_k (by decide), st_k (by decide)]; exact h.hc⟩ (by rw [g7]; exact h.os) (by rw [g7]; exact hpc) (by rw [g7]) (by omega) b7 (fun u hu => by rw [g7, Nat.zero_mul, Nat.zero_add]; rfl) (fun j hj => by omega)
          obtain ⟨m2, b2', f1, f2, f3, f4⟩ := mlp (m := m) (e := eC s 0) k1 (fun j hj k hk => (e5 j hj k hk).symm) om hp o8 n4 (9 ^ N) 0 10000 m (-1) (-1) 0 (by omega) (by omega) (fun _ _ _ _ => rfl) m1I (fun z => absurd z (by decide))
          rw [Nat.zero_mul, e4] at t2
          have tt : f_T_tryFrom 6 (pC (st s 0 0 9 (-1)) 37 (gC (st s 0 0 9 (-1)) 0)) 0 (nI N) 0 (grV (eC s 0) (gC s 0)) = some s' := t1
          have cg : f_Co_changeInADay (pC (st s 0 0 9 (-1)) 37 (gC (st s 0 0 9 (-1)) 0)) 0 0 = some (grV (eC s 0) (gC s 0)) := by
            have g0 : gC (pC (st s 0 0 9 (-1)) 37 (gC (st s 0 0 9 (-1)) 0)) 0 = gC s 0 := by
              rw [gC_k (pC_i (by decide)), gC_st (by decide)]
            have q := gr_C (s := pC (st s 0 0 9 (-1)) 37 (gC (st s 0 0 9 (-1)) 0)) (c := 0) (i := 0) (n := ix (s 1 0 5)) (by unfold HC; rw [pC_k (by decide), st_k (by decide)]; exact h.hc) (by rw [c7]; exact k1) (by rw [g0]; exact h.os)
            rw [c7, g0] at q
            exact q
          have rs : RS s' m2 L := (r7.tf t3).m3 f2
          have big : -1 < (flt (drN (eC s 0) N (gM m) 0) 0 (9 ^ N) (-1) 0).1 := by
            have z := (flt_ge (drN (eC s 0) N (gM m) 0) (9 ^ N) 0 (-1) 0).2 (9 ^ N - 1) (by have := p9_pos N; omega)
            rw [Nat.zero_add, drN_8] at z
            omega
          have eb : s' 0 0 9 = b2' := by rw [i_eq, t2.1, f3]
          have el : ∀ j, j < N → s' 15 0 j = m2 33 0 j := fun j hj => by rw [t2.2.2 big j hj, f4 big j hj]
          have f0 := fun K => ml44 n4 K N 0 10000 (by omega) (by omega)
          rw [nI_0] at f1
          simp only [nI_0, Nat.pow_zero, nI_lits.2.1] at f0
          rw [if_pos hin, if_pos hin, lt_e, if_pos i50, ix0, Nat.add_zero, mbe_C, bV_s, cg, bP_s, tt, bV_s, jn_e, f0, jn_e, f1]
          by_cases hm : i = -1
          · rw [if_pos hm, if_pos hm, eb]
            exact ⟨_, _, _, rfl, rfl, rs⟩
          · have hi0 : 0 ≤ i.toInt := by
              rw [i_le, m1I] at hi
              rw [i_eq, m1I] at hm
              omega
            rw [i_lt, nI_toInt (by omega)] at hin
            have hx := ix_toInt hi0
            have i4 : inb i 4 := ⟨hi0, by omega⟩
            rw [if_neg hm, if_neg hm, if_pos i4, if_pos i4, el (ix i) (by omega)]
            exact ⟨_, _, _, rfl, rfl, rs⟩
        · rw [if_neg hin, if_neg hin]
          exact ⟨_, _, _, rfl, rfl, h⟩
    · rw [if_neg hi, if_neg hi, bad_C, ten_M]; exact op_bad h _
