/-! most: the loop of the class's search -/
theorem bV_a {S T ρ : Type} (x : Option S) (f : S → Option T) (g : T → Option ρ) : bV (bV x f) g = bV x (fun y => bV (f y) g) := by cases x <;> rfl
theorem tfc_b {rec : Sto → Int32 → Int32 → Int32 → Int32 → Option Sto} {g0 : Int32} {k N a : Nat} {s15 s25 : Sto} {h' : Int32} (h : tfc rec g0 k N a s15 h' = some s25) (g : Sto → Option Sto) : bV (f_Mo_pass (st s15 14 0 k (nI a)) (37 + (k + 1)) 1 g0) (fun s22 => bV (rec s22 (nI (k + 1)) (nI N) h' g0) g) = g s25 := by
  rw [← bV_a]
  have h2 : bV (f_Mo_pass (st s15 14 0 k (nI a)) (37 + (k + 1)) 1 g0) (fun s22 => rec s22 (nI (k + 1)) (nI N) h' g0) = some s25 := h
  rw [h2, bV_s]
theorem wh_or (f g : Bool) : whV f g ||| 1 = whV true g ∧ whV f g ||| 2 = whV f true ∧ whV f g ||| 0 = whV f g ∧ whV f g &&& 0 = 0 := by cases f <;> cases g <;> decide +kernel
/-- where the loop stands before act a -/
def LI (n N r k : Nat) (D : Nat → Int) (e : HEnv) (v : M5) (s : Sto) (p h : Nat) (M : Int) (W a : Nat) (s4 : Sto) (f1 f2 : Bool) : Prop :=
  TFr k s s4 ∧ BW N s4 (flt D (p * 9 ^ (r + 1)) (a * 9 ^ r) M W) ∧ (f1 = true → ∀ u, u < 9 ^ r → drN e r (pdV e (wrm v 1)) h u ≤ (flt D (p * 9 ^ (r + 1)) (a * 9 ^ r) M W).1) ∧ (f2 = true → ∀ u, u < 9 ^ r → drN e r (pdV e (wrm v 5)) h u ≤ (flt D (p * 9 ^ (r + 1)) (a * 9 ^ r) M W).1)
theorem blk (D : Nat → Int) (p r a : Nat) (M : Int) (W : Nat) : flt D (p * 9 ^ (r + 1)) ((a + 1) * 9 ^ r) M W = flt D ((9 * p + a) * 9 ^ r) (9 ^ r) (flt D (p * 9 ^ (r + 1)) (a * 9 ^ r) M W).1 (flt D (p * 9 ^ (r + 1)) (a * 9 ^ r) M W).2 := by
  have e : p * 9 ^ (r + 1) + a * 9 ^ r = (9 * p + a) * 9 ^ r := by
    rw [Nat.pow_succ, Nat.add_mul, Nat.mul_comm (9 ^ r) 9, ← Nat.mul_assoc, Nat.mul_comm p 9]
  rw [Nat.add_mul, Nat.one_mul, flt_add, e]
theorem LI.mono {n N r k : Nat} {D : Nat → Int} {e : HEnv} {v : M5} {s : Sto} {p h : Nat} {M : Int} {W a : Nat} {s4 s5 : Sto} {f1 f2 : Bool} (l : LI n N r k D e v s p h M W a s4 f1 f2) (hf : TFr k s4 s5) (hb : BW N s5 (flt D ((9 * p + a) * 9 ^ r) (9 ^ r) (flt D (p * 9 ^ (r + 1)) (a * 9 ^ r) M W).1 (flt D (p * 9 ^ (r + 1)) (a * 9 ^ r) M W).2)) : LI n N r k D e v s p h M W (a + 1) s5 f1 f2 := by
  obtain ⟨l1, l2, l3, l4⟩ := l
  have g := (flt_ge D (9 ^ r) ((9 * p + a) * 9 ^ r) (flt D (p * 9 ^ (r + 1)) (a * 9 ^ r) M W).1 (flt D (p * 9 ^ (r + 1)) (a * 9 ^ r) M W).2).1
  unfold LI
  rw [blk]
  exact ⟨l1.tr hf, hb, fun q u hu => Int.le_trans (l3 q u hu) g, fun q u hu => Int.le_trans (l4 q u hu) g⟩
theorem LI.skip {n N r k : Nat} {D : Nat → Int} {e : HEnv} {v : M5} {s : Sto} {p h : Nat} {M : Int} {W a : Nat} {s4 s5 : Sto} {f1 f2 : Bool} (l : LI n N r k D e v s p h M W a s4 f1 f2) (hf : TFr k s4 s5) (h0 : s5 0 0 = s4 0 0) (h15 : s5 15 0 = s4 15 0) (hD : ∀ u, u < 9 ^ r → D ((9 * p + a) * 9 ^ r + u) ≤ (flt D (p * 9 ^ (r + 1)) (a * 9 ^ r) M W).1) : LI n N r k D e v s p h M W (a + 1) s5 f1 f2 := by
  refine l.mono hf ?_
  rw [flt_id _ _ _ _ hD]
  exact l.2.1.k h0 h15
theorem c8le {a : Nat} (h : a < 9) : ((8 : Int32) ≤ nI a) ↔ a = 8 := by
  rw [c8, i_le, nI_toInt (by omega), nI_toInt (by omega)]; omega
theorem c8eq {a : Nat} (h : a < 9) : (nI a = (8 : Int32)) ↔ a = 8 := by
  rw [c8, i_eq, nI_toInt (by omega), nI_toInt (by omega)]; omega
theorem tstep {rec : Sto → Int32 → Int32 → Int32 → Int32 → Option Sto} {g0 : Int32} {n N r k : Nat} {D : Nat → Int} {e : HEnv} {v : M5} {s : Sto} {p h : Nat} {M : Int} {W : Nat} (he : okE n e) (ih : SRC rec g0 n N r (k + 1) D e) (hk : k < 4) (h1 : EH n s e) (hv : gC s (37 + k) = v) (ovs : okS n v) (pv : prd v) (hg : grV e v = g0) (hh : h ≤ k) (hD : ∀ u, u < 9 ^ (r + 1) → D (p * 9 ^ (r + 1) + u) = drN e (r + 1) v h u) (hway : ∀ j, j < k → s 14 0 j = nI (dig k p j)) {a : Nat} (ha : a < 9) {s4 : Sto} {f1 f2 : Bool} (l : LI n N r k D e v s p h M W a s4 f1 f2) : ∃ s8 g1 g2, LI n N r k D e v s p h M W (a + 1) s8 g1 g2 ∧ ∀ rc, l_T_tryFrom_49 (nI k) (nI N) (nI h) g0 rec rc s4 (whV f1 f2) (nI a) = rc s8 (whV g1 g2) (nI (a + 1)) := by
  have l1 := l.1
  have ov := ovs.1
  have e4h := l1.eh h1
  have e4 : eC s4 0 = e := e4h.1
  have v4 : gC s4 (37 + k) = v := by rw [l1.g]; exact hv
  have way4 : ∀ j, j < k → s4 14 0 j = nI (dig k p j) := fun j hj => by rw [l1.2.2 j hj]; exact hway j hj
  have n8 : ¬ (8 : Int32) < nI a := by rw [c8, i_lt, nI_toInt (by omega), nI_toInt (by omega)]; omega
  have i5 := inb_nI (j := k) (n := 5) (by omega) (by omega)
  have i4 := inb_nI (j := k) (n := 4) (by omega) (by omega)
  have i5' := inb_nI (j := k + 1) (n := 5) (by omega) (by omega)
  have x0 : ix (nI k) = k := ix_nI (by omega)
  have x1 : ix (nI (k + 1)) = k + 1 := ix_nI (by omega)
  have Da : ∀ u, u < 9 ^ r → D ((9 * p + a) * 9 ^ r + u) = if ¬ a = 8 ∧ BB (mo v) (nI a) = true then -1 else drN e r (aft e v a) (h + gain1 e v a) u := fun u hu => by
    have q := hD (a * 9 ^ r + u) (by
      rw [Nat.pow_succ]
      have : a * 9 ^ r ≤ 8 * 9 ^ r := Nat.mul_le_mul_right _ (by omega)
      omega)
    rw [drN_a e r v h hu] at q
    rw [← q]
    congr 1
    rw [Nat.pow_succ, Nat.add_mul, Nat.mul_comm (9 ^ r) 9, ← Nat.mul_assoc, Nat.mul_comm p 9, Nat.add_assoc]
  have M1 : -1 ≤ (flt D (p * 9 ^ (r + 1)) (a * 9 ^ r) M W).1 := l.2.1.2.1
  have tc : TFr k s4 (pC s4 (37 + (k + 1)) v) := TFr.pc s4 _ (by omega) v
  by_cases a8 : a = 8
  · subst a8
    obtain ⟨s25, q1, q2, q3⟩ := child (h' := h) he ih e4h ha ovs pv hg (by omega) l.2.1 (fun u hu => by rw [Da u hu, if_neg (fun z => z.1 rfl)]; unfold aft gain1; rw [if_pos rfl, if_pos rfl, Int.add_zero]) way4
    refine ⟨s25, f1, f2, l.mono q3 q2, fun rc => ?_⟩
    have b := fun g => tfc_b q1 g
    rw [l_T_tryFrom_49, if_neg n8]
    simp only [jn_e, if_pos ((c8le (a := 8) (by omega)).mpr rfl), nI_1, if_pos i5, if_pos i5', x0, x1, mbe_C, bV_s, v4, if_neg (show ¬ (0 : Int32) = 3 by decide +kernel), if_pos ((c8eq (a := 8) (by omega)).mpr rfl), (wh_or f1 f2).2.2.2, (wh_or f1 f2).2.2.1, if_true, if_pos i4, lt_e, b]
  · have n8' : ¬ (8 : Int32) ≤ nI a := fun z => a8 ((c8le ha).mp z)
    have n8e : ¬ nI a = (8 : Int32) := fun z => a8 ((c8eq ha).mp z)
    cases hd : BB (mo v) (nI a) with
    | true =>
      refine ⟨s4, f1, f2, l.skip (TFr.rf k s4) rfl rfl (fun u hu => by rw [Da u hu, if_pos ⟨a8, hd⟩]; exact M1), fun rc => ?_⟩
      rw [l_T_tryFrom_49, if_neg n8]
      simp only [jn_e, if_neg n8', if_pos i5, x0, isd_C, v4, hd, bP_s, if_neg b2t, nI_1]
    | false =>
      have Db : ∀ u, u < 9 ^ r → D ((9 * p + a) * 9 ^ r + u) = drN e r (pdV e (akV e v (nI a))) (h + if lwV e v (nI a) = 3 then 1 else 0) u := fun u hu => by
        rw [Da u hu, if_neg (fun z => by rw [hd] at z; cases z.2)]
        unfold aft gain1
        rw [if_neg a8, if_neg a8]
      have ak := ak_C (s := pC s4 (37 + (k + 1)) v) (c := 0) (i := 37 + (k + 1)) (n := n) (by rw [eC_pC, e4]; exact he) (by rw [gC_pC]; exact ov) (by rw [gC_pC]; exact pv) (nI a)
      rw [eC_pC, gC_pC, pC_pC, e4] at ak
      have oa := akV_os (e := e) (act := nI a) ovs
      have pa := akV_prd (e := e) (act := nI a) pv
      have tw : TFr k s4 (pC s4 (37 + (k + 1)) (akV e v (nI a))) := TFr.pc s4 _ (by omega) _
      by_cases h3 : lwV e v (nI a) = 3
      · obtain ⟨s25, q1, q2, q3⟩ := child (h' := h + 1) he ih e4h ha oa pa ((akV_gr e v (nI a)).trans hg) (by omega) l.2.1 (fun u hu => by rw [Db u hu, if_pos h3]; rfl) way4
        refine ⟨s25, f1, f2, l.mono q3 q2, fun rc => ?_⟩
        have b := fun g => tfc_b q1 g
        rw [l_T_tryFrom_49, if_neg n8]
        simp only [jn_e, if_neg n8', nI_1, if_pos i5, if_pos i5', x0, x1, isd_C, mbe_C, bV_s, v4, hd, bP_s, if_pos b2f, ak, bI_s, h3, if_true, (wh_or f1 f2).2.2.2, (wh_or f1 f2).2.2.1, if_pos i4, lt_e, b]
      · by_cases h0 : lwV e v (nI a) = 0
        · have ew : akV e v (nI a) = wrm v 1 := by unfold akV; rw [if_neg h3, if_pos h0]
          cases f1 with
          | true =>
            refine ⟨_, true, f2, l.skip tw (by rw [pC_k (by decide)]) (by rw [pC_k (by decide)]) (fun u hu => by rw [Db u hu, if_neg h3, ew, Int.add_zero]; exact l.2.2.1 rfl u hu), fun rc => ?_⟩
            have z : ¬ whV true f2 &&& 1 = 0 := fun q => by have := (wh_b true f2).1.mp q; cases this
            rw [l_T_tryFrom_49, if_neg n8]
            simp only [jn_e, if_neg n8', nI_1, if_pos i5, if_pos i5', x0, x1, isd_C, mbe_C, bV_s, v4, hd, bP_s, if_pos b2f, ak, bI_s, if_neg h3, if_neg n8e, if_pos h0, if_neg z]
          | false =>
            obtain ⟨s25, q1, q2, q3⟩ := child (h' := h) he ih e4h ha oa pa ((akV_gr e v (nI a)).trans hg) (by omega) l.2.1 (fun u hu => by rw [Db u hu, if_neg h3, Int.add_zero]) way4
            have lm := l.mono q3 q2
            have z : whV false f2 &&& 1 = 0 := (wh_b false f2).1.mpr rfl
            refine ⟨s25, true, f2, ⟨lm.1, lm.2.1, fun _ u hu => ?_, lm.2.2.2⟩, fun rc => ?_⟩
            · have g := (flt_ge D (9 ^ r) ((9 * p + a) * 9 ^ r) (flt D (p * 9 ^ (r + 1)) (a * 9 ^ r) M W).1 (flt D (p * 9 ^ (r + 1)) (a * 9 ^ r) M W).2).2 u hu
              rw [Db u hu, if_neg h3, ew, Int.add_zero] at g
              rw [blk]; exact g
            · have b := fun g => tfc_b q1 g
              rw [l_T_tryFrom_49, if_neg n8]
              simp only [jn_e, if_neg n8', nI_1, if_pos i5, if_pos i5', x0, x1, isd_C, mbe_C, bV_s, v4, hd, bP_s, if_pos b2f, ak, bI_s, if_neg h3, if_neg n8e, if_pos h0, if_pos z, (wh_or false f2).1, if_pos i4, lt_e, b]
        · have ew : akV e v (nI a) = wrm v 5 := by unfold akV; rw [if_neg h3, if_neg h0]
          cases f2 with
          | true =>
            refine ⟨_, f1, true, l.skip tw (by rw [pC_k (by decide)]) (by rw [pC_k (by decide)]) (fun u hu => by rw [Db u hu, if_neg h3, ew, Int.add_zero]; exact l.2.2.2 rfl u hu), fun rc => ?_⟩
            have z : ¬ whV f1 true &&& 2 = 0 := fun q => by have := (wh_b f1 true).2.mp q; cases this
            rw [l_T_tryFrom_49, if_neg n8]
            simp only [jn_e, if_neg n8', nI_1, if_pos i5, if_pos i5', x0, x1, isd_C, mbe_C, bV_s, v4, hd, bP_s, if_pos b2f, ak, bI_s, if_neg h3, if_neg n8e, if_neg h0, if_neg z]
          | false =>
            obtain ⟨s25, q1, q2, q3⟩ := child (h' := h) he ih e4h ha oa pa ((akV_gr e v (nI a)).trans hg) (by omega) l.2.1 (fun u hu => by rw [Db u hu, if_neg h3, Int.add_zero]) way4
            have lm := l.mono q3 q2
            have z : whV f1 false &&& 2 = 0 := (wh_b f1 false).2.mpr rfl
            refine ⟨s25, f1, true, ⟨lm.1, lm.2.1, lm.2.2.1, fun _ u hu => ?_⟩, fun rc => ?_⟩
            · have g := (flt_ge D (9 ^ r) ((9 * p + a) * 9 ^ r) (flt D (p * 9 ^ (r + 1)) (a * 9 ^ r) M W).1 (flt D (p * 9 ^ (r + 1)) (a * 9 ^ r) M W).2).2 u hu
              rw [Db u hu, if_neg h3, ew, Int.add_zero] at g
              rw [blk]; exact g
            · have b := fun g => tfc_b q1 g
              rw [l_T_tryFrom_49, if_neg n8]
              simp only [jn_e, if_neg n8', nI_1, if_pos i5, if_pos i5', x0, x1, isd_C, mbe_C, bV_s, v4, hd, bP_s, if_pos b2f, ak, bI_s, if_neg h3, if_neg n8e, if_neg h0, if_pos z, (wh_or f1 false).2.1, if_pos i4, lt_e, b]
