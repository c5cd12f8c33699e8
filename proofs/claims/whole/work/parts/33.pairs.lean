/-! lasts, pairs -/
theorem pM_l5 (m : Sto) (v w : M5) : pM (l5 m 31 0 v) w = l5 (pM m w) 31 0 v := by
  funext k' i' x
  by_cases h : k' = 31
  · subst h
    rw [pM_k (by decide)]
    unfold l5
    simp only [st, pM_k (show (31 : Nat) ≠ 17 by decide)]
  · rw [l5_k h]
    unfold pM
    rw [l5_k h]
theorem c91 : (91 : Int32) = nI 91 := by decide +kernel
theorem b2t1 : b2 true = 1 := rfl
theorem m1I : (-1 : Int32).toInt = -1 := by decide +kernel
theorem inb_n1 {p : Int32} {n : Nat} (h : inb p n) : ¬ p = -1 := by
  have a := h.1
  rw [i_eq, m1I]; omega
theorem gr_two {e : HEnv} {n : Nat} {w d o p q : Int32} (h : inb p n) : grV e (w, d, o, p, q) = adE e p + adE e q - 2 := by
  unfold grV
  rw [if_neg (show ¬ mp (w, d, o, p, q) = -1 from inb_n1 h)]
  rfl
theorem lst_M {n : Nat} {m : Sto} (he : okE n (eM m)) {p q : Int32} (hp : inb p n) (hq : inb q n) : ∃ v, f_m_lastsOf m p q = some (nI (dtN (adE (eM m) p + adE (eM m) q - 2) 91 0 (mw (gM m))), l5 m 31 0 v) := by
  refine ⟨(mw (gM m), md (gM m), mo (gM m), p, q), ?_⟩
  have hd := dtl_M (n := n) (m := pM m (mw (gM m), md (gM m), mo (gM m), p, q)) (by rw [eM_pM']; exact he) (by rw [gM_pM]; exact Or.inr ⟨hp, hq⟩)
  rw [eM_pM', gM_pM, gr_two hp] at hd
  have hw : mw (mw (gM m), md (gM m), mo (gM m), p, q) = mw (gM m) := rfl
  rw [hw] at hd
  unfold f_m_lastsOf
  rw [lt_e, lt_e, lt_e, lt_e, pM_pq, hd, bI_s, lt_e, lt_e, pM_pq, gM_l5 (by decide), gM_pM, pM_l5, pM_pM]
  have e : pM m (mw (mw (gM m), md (gM m), mo (gM m), p, q), md (mw (gM m), md (gM m), mo (gM m), p, q), mo (mw (gM m), md (gM m), mo (gM m), p, q), m 17 0 5, m 17 0 6) = m := pM_gM m
  rw [e]
theorem lst_C {n : Nat} {s : Sto} (v0 : M5) (he : okE n (eC s 0)) {p q : Int32} (hp : inb p n) (hq : inb q n) : ∃ v, f_T_lastingOf (pC s 36 v0) p q = some (nI (dtN (adE (eC s 0) p + adE (eC s 0) q - 2) 91 0 (mw (gC s 0))), pC s 36 v) := by
  obtain ⟨v, hv⟩ := dtf_C (pC s 36 v0) (adE (eC s 0) p + adE (eC s 0) q - 2)
  refine ⟨v, ?_⟩
  have hcb := cb_C (s := pC s 36 v0) (c := 0) (n := n) (by rw [eC_pC]; exact he) hp hq
  rw [eC_pC] at hcb
  have e0 : gC (pC s 36 v0) 0 = gC s 0 := gC_k (pC_i (by decide))
  rw [e0, pC_pC] at hv
  unfold f_T_lastingOf
  rw [hcb, bP_s, hv, bI_s]
  have hl := (dtN_le (adE (eC s 0) p + adE (eC s 0) q - 2) 91 0 (mw (gC s 0))).2
  generalize dtN (adE (eC s 0) p + adE (eC s 0) q - 2) 91 0 (mw (gC s 0)) = d at hl ⊢
  by_cases h : d = 91
  · rw [if_pos h, if_pos rfl, h, c91]
  · rw [if_neg h, if_neg (show ¬ nI d = -1 by rw [i_eq, nI_toInt (by omega), m1I]; omega)]
theorem op_lasts {s m : Sto} {L : Lng} (h : RS s m L) (p q : Int32) : OPI (f_T_lasts s p q) (f_m_lasts m p q) L := by
  obtain ⟨e1, w1, w1m, e4, e5, k1, k2, o1, o2⟩ := h.fx
  unfold f_T_lasts f_m_lasts
  rw [two_C, isH_M w1m, isH_M w1m, bP_s, bP_s, jn_e, bP_s, e1]
  cases hp : hasB p (m 17 0 1) with
  | false => rw [Bool.false_and, if_pos b2f, if_pos b2f, bad_C, bad_M]; exact op_bad h _
  | true =>
    rw [Bool.true_and, if_neg b2t]
    cases hq : hasB q (m 17 0 1) with
    | false => rw [Bool.false_and, if_pos b2f, if_pos b2f, bad_C, bad_M]; exact op_bad h _
    | true =>
      rw [Bool.true_and, if_neg b2t]
      by_cases hpq : p = q
      · rw [decide_eq_true hpq, Bool.not_true, if_pos b2f, if_pos hpq, bad_C, bad_M]; exact op_bad h _
      · have ip := hasB_t hp
        have iq := hasB_t hq
        rw [← e1] at ip iq
        obtain ⟨v, hv⟩ := lst_C (s := s) (gC s 36) k1 ip iq
        obtain ⟨v', hv'⟩ := lst_M k2 ip iq
        rw [pC_gC] at hv
        rw [decide_eq_false hpq, Bool.not_false, if_neg b2t, if_neg hpq, hv, hv', bI_s, bI_s]
        refine ⟨_, _, _, rfl, ?_, (h.trial v 36 (by decide)).m31 (l5_31 m v')⟩
        rw [e5.ad ip, e5.ad iq, e4]
/-! acts for which both lift, and none -/
def asN (e : HEnv) (m : M5) : Nat → Nat → Bool → Bool
  | 0, _, b => b
  | r + 1, a, b => asN e m r (a + 1) (b && !decide (lwV e m (nI a) = 3))
theorem asN_0 (e : HEnv) (m : M5) (a : Nat) (b : Bool) : asN e m 0 a b = b := rfl
theorem asN_s (e : HEnv) (m : M5) (r a : Nat) (b : Bool) : asN e m (r + 1) a b = asN e m r (a + 1) (b && !decide (lwV e m (nI a) = 3)) := rfl
theorem or_bit (x : Int32) (j : Int32) : ¬ (x ||| (1 <<< (j &&& 31))) = 0 := fun h => by
  have h1 := congrArg (fun z => bt z (bix j)) h
  simp only [b_or, bt_sh j (bix_lt j), b_0] at h1
  simp at h1
theorem bsN_as (e : HEnv) (m : M5) : ∀ (r a : Nat) (x : Int32), decide (bsN e m r a x = 0) = asN e m r a (decide (x = 0))
  | 0, a, x => by rw [bsN_0, asN_0]
  | r + 1, a, x => by
    rw [bsN_s, asN_s, bsN_as e m r (a + 1)]
    by_cases h3 : lwV e m (nI a) = 3
    · rw [if_pos h3, decide_eq_true h3, decide_eq_false (or_bit x (nI a)), Bool.not_true, Bool.and_false]
    · rw [if_neg h3, decide_eq_false h3, Bool.not_false, Bool.and_true]
theorem wh3 (a b : Bool) : decide (whV a b = 3) = (a && b) := by cases a <;> cases b <;> decide +kernel
theorem ars_M {n : Nat} {m : Sto} (he : okE n (eM m)) {p q : Int32} (hp : inb p n) (hq : inb q n) (o : Int32) : ∀ (r a fuel : Nat) (b : Bool), a + r = 8 → r < fuel → fx fuel (l_m_areStuck_5 m p q) (fun _ _ => none) (b2 b) (nI a) = some (b2 (asN (eM m) (m 17 0 2, m 17 0 3, o, p, q) r a b))
  | 0, a, fuel, b, h, hf => by
    obtain ⟨f, rfl⟩ : ∃ f, fuel = f + 1 := ⟨fuel - 1, by omega⟩
    rw [fx_s, l_m_areStuck_5, show a = 8 by omega, if_pos (by decide +kernel), if_pos (b2_01 _), asN_0]
  | r + 1, a, fuel, b, h, hf => by
    obtain ⟨f, rfl⟩ : ∃ f, fuel = f + 1 := ⟨fuel - 1, by omega⟩
    have h3 : decide (lwV (eM m) (m 17 0 2, m 17 0 3, o, p, q) (nI a) = 3) = (lf1 (eM m) p (nI a) (m 17 0 2) (m 17 0 3) && lf1 (eM m) q (nI a) (m 17 0 2) (m 17 0 3)) := wh3 _ _
    rw [fx_s, l_m_areStuck_5, if_neg (by rw [c8]; exact nI_ge (by omega) (by omega)), asN_s, h3, ← ars_M he hp hq o r (a + 1) f _ (by omega) (by omega)]
    simp only [jn_e, lf_M he hp, lf_M he hq, bP_s, nI_1]
    cases b with
    | false => rw [if_pos b2f, Bool.false_and, b2f]
    | true =>
      rw [if_neg b2t, Bool.true_and]
      cases lf1 (eM m) p (nI a) (m 17 0 2) (m 17 0 3) with
      | false => rw [if_pos b2f, Bool.false_and, Bool.not_false, b2t1]
      | true =>
        rw [if_neg b2t, Bool.true_and]
        cases lf1 (eM m) q (nI a) (m 17 0 2) (m 17 0 3) with
        | false => rw [if_pos b2f, Bool.not_false, b2t1]
        | true => rw [if_neg b2t, Bool.not_true, b2f]
theorem ast_M {n : Nat} {m : Sto} (he : okE n (eM m)) {p q : Int32} (hp : inb p n) (hq : inb q n) (o : Int32) : f_m_areStuck m p q = some (b2 (decide (bsN (eM m) (m 17 0 2, m 17 0 3, o, p, q) 8 0 0 = 0))) := by
  have h := ars_M he hp hq o 8 0 1000 true (by omega) (by omega)
  rw [bsN_as, decide_eq_true (rfl : (0 : Int32) = 0), ← h, nI_0, b2t1, f_m_areStuck]
/-! the pairs in their order -/
def bpI (D : Nat → Nat → Int32) (p : Nat) : Nat → Nat → Int32 → Int32 → Int32 × Int32
  | 0, _, b, l => (b, l)
  | r + 1, q, b, l => if D p q ≤ l then bpI D p r (q + 1) b l else bpI D p r (q + 1) (10 * nI p + nI q) (D p q)
theorem bpI_0 (D : Nat → Nat → Int32) (p q : Nat) (b l : Int32) : bpI D p 0 q b l = (b, l) := rfl
theorem bpI_s (D : Nat → Nat → Int32) (p r q : Nat) (b l : Int32) : bpI D p (r + 1) q b l = if D p q ≤ l then bpI D p r (q + 1) b l else bpI D p r (q + 1) (10 * nI p + nI q) (D p q) := rfl
def bpO (D : Nat → Nat → Int32) (N : Nat) : Nat → Nat → Int32 → Int32 → Int32
  | 0, _, b, _ => b
  | r + 1, p, b, l => bpO D N r (p + 1) (bpI D p (N - (p + 1)) (p + 1) b l).1 (bpI D p (N - (p + 1)) (p + 1) b l).2
theorem bpO_0 (D : Nat → Nat → Int32) (N p : Nat) (b l : Int32) : bpO D N 0 p b l = b := rfl
theorem bpO_s (D : Nat → Nat → Int32) (N r p : Nat) (b l : Int32) : bpO D N (r + 1) p b l = bpO D N r (p + 1) (bpI D p (N - (p + 1)) (p + 1) b l).1 (bpI D p (N - (p + 1)) (p + 1) b l).2 := rfl
def spI (S : Nat → Nat → Bool) (p : Nat) : Nat → Nat → Int32 → Int32
  | 0, _, c => c
  | r + 1, q, c => spI S p r (q + 1) (if S p q then c + 1 else c)
theorem spI_0 (S : Nat → Nat → Bool) (p q : Nat) (c : Int32) : spI S p 0 q c = c := rfl
theorem spI_s (S : Nat → Nat → Bool) (p r q : Nat) (c : Int32) : spI S p (r + 1) q c = spI S p r (q + 1) (if S p q then c + 1 else c) := rfl
def spO (S : Nat → Nat → Bool) (N : Nat) : Nat → Nat → Int32 → Int32
  | 0, _, c => c
  | r + 1, p, c => spO S N r (p + 1) (spI S p (N - (p + 1)) (p + 1) c)
theorem spO_0 (S : Nat → Nat → Bool) (N p : Nat) (c : Int32) : spO S N 0 p c = c := rfl
theorem spO_s (S : Nat → Nat → Bool) (N r p : Nat) (c : Int32) : spO S N (r + 1) p c = spO S N r (p + 1) (spI S p (N - (p + 1)) (p + 1) c) := rfl
def Dc (e : HEnv) (w : Int32) : Nat → Nat → Int32 := fun p q => nI (dtN (adE e (nI p) + adE e (nI q) - 2) 91 0 w)
def Sc (e : HEnv) (m : M5) : Nat → Nat → Bool := fun p q => decide (bsN e (mw m, md m, mo m, nI p, nI q) 8 0 0 = 0)
theorem bpi_C {s : Sto} {N : Nat} (hn : s 1 0 5 = nI N) (he : okE N (eC s 0)) {p : Nat} (hp : p < N) : ∀ (r q fuel : Nat) (v0 : M5) (b l : Int32), q + r = N → r < fuel → ∃ v, ∀ K, fx fuel (l_T_bestPair_22 (nI p) K) (fun _ _ _ _ => none) (pC s 36 v0) b l (nI q) = K (pC s 36 v) (bpI (Dc (eC s 0) (mw (gC s 0))) p r q b l).1 (bpI (Dc (eC s 0) (mw (gC s 0))) p r q b l).2
  | 0, q, fuel, v0, b, l, h, hf => by
    obtain ⟨f, rfl⟩ : ∃ f, fuel = f + 1 := ⟨fuel - 1, by omega⟩
    have h6 := he.1
    have e5 : pC s 36 v0 1 0 5 = nI N := by rw [pC_k (by decide)]; exact hn
    refine ⟨v0, fun K => ?_⟩
    rw [fx_s, l_T_bestPair_22, e5, if_pos ((nI_leI (by omega) (by omega)).mpr (by omega)), bpI_0]
  | r + 1, q, fuel, v0, b, l, h, hf => by
    obtain ⟨f, rfl⟩ : ∃ f, fuel = f + 1 := ⟨fuel - 1, by omega⟩
    have h6 := he.1
    have e5 : pC s 36 v0 1 0 5 = nI N := by rw [pC_k (by decide)]; exact hn
    obtain ⟨v1, hv1⟩ := lst_C (s := s) v0 he (p := nI p) (q := nI q) (inb_nI hp (by omega)) (inb_nI (by omega) (by omega))
    have hv1' : f_T_lastingOf (pC s 36 v0) (nI p) (nI q) = some (Dc (eC s 0) (mw (gC s 0)) p q, pC s 36 v1) := hv1
    obtain ⟨v, hv⟩ := bpi_C hn he hp r (q + 1) f v1 (if Dc (eC s 0) (mw (gC s 0)) p q ≤ l then b else 10 * nI p + nI q) (if Dc (eC s 0) (mw (gC s 0)) p q ≤ l then l else Dc (eC s 0) (mw (gC s 0)) p q) (by omega) (by omega)
    refine ⟨v, fun K => ?_⟩
    have hv2 := hv K
    rw [fx_s, l_T_bestPair_22, e5, if_neg (fun z => by have := (nI_leI (by omega) (by omega)).mp z; omega), hv1', bI_s, jn_e, bpI_s, nI_1]
    by_cases hd : Dc (eC s 0) (mw (gC s 0)) p q ≤ l
    · rw [if_pos hd, if_pos hd] at hv2
      rw [if_pos hd, if_pos hd]
      exact hv2
    · rw [if_neg hd, if_neg hd] at hv2
      rw [if_neg hd, if_neg hd, lt_e]
      exact hv2
theorem bpo_C {s : Sto} {N : Nat} (hn : s 1 0 5 = nI N) (he : okE N (eC s 0)) : ∀ (r p fuel : Nat) (v0 : M5) (b l : Int32), p + r = N → r < fuel → ∃ v, fx fuel l_T_bestPair_6 (fun _ _ _ _ => none) (pC s 36 v0) b l (nI p) = some (bpO (Dc (eC s 0) (mw (gC s 0))) N r p b l, pC s 36 v)
  | 0, p, fuel, v0, b, l, h, hf => by
    obtain ⟨f, rfl⟩ : ∃ f, fuel = f + 1 := ⟨fuel - 1, by omega⟩
    have h6 := he.1
    have e5 : pC s 36 v0 1 0 5 = nI N := by rw [pC_k (by decide)]; exact hn
    refine ⟨v0, ?_⟩
    rw [fx_s, l_T_bestPair_6, e5, if_pos ((nI_leI (by omega) (by omega)).mpr (by omega)), bpO_0]
  | r + 1, p, fuel, v0, b, l, h, hf => by
    obtain ⟨f, rfl⟩ : ∃ f, fuel = f + 1 := ⟨fuel - 1, by omega⟩
    have h6 := he.1
    have e5 : pC s 36 v0 1 0 5 = nI N := by rw [pC_k (by decide)]; exact hn
    obtain ⟨v1, hv1⟩ := bpi_C hn he (p := p) (by omega) (N - (p + 1)) (p + 1) 1000 v0 b l (by omega) (by omega)
    obtain ⟨v, hv⟩ := bpo_C hn he r (p + 1) f v1 (bpI (Dc (eC s 0) (mw (gC s 0))) p (N - (p + 1)) (p + 1) b l).1 (bpI (Dc (eC s 0) (mw (gC s 0))) p (N - (p + 1)) (p + 1) b l).2 (by omega) (by omega)
    refine ⟨v, ?_⟩
    rw [fx_s, l_T_bestPair_6, e5, if_neg (fun z => by have := (nI_leI (by omega) (by omega)).mp z; omega), lt_e, jn_e, nI_1, hv1, bpO_s]
    exact hv
theorem spi_C {s : Sto} {N : Nat} (hn : s 1 0 5 = nI N) (he : okE N (eC s 0)) {p : Nat} (hp : p < N) : ∀ (r q fuel : Nat) (v0 : M5) (c : Int32), q + r = N → r < fuel → mw v0 = mw (gC s 0) → md v0 = md (gC s 0) → mo v0 = mo (gC s 0) → ∃ v, mw v = mw (gC s 0) ∧ md v = md (gC s 0) ∧ mo v = mo (gC s 0) ∧ ∀ K, fx fuel (l_T_stuckPairs_33 (nI p) K) (fun _ _ _ => none) (pC s 36 v0) c (nI q) = K (pC s 36 v) (spI (Sc (eC s 0) (gC s 0)) p r q c)
  | 0, q, fuel, v0, c, h, hf, q1, q2, q3 => by
    obtain ⟨f, rfl⟩ : ∃ f, fuel = f + 1 := ⟨fuel - 1, by omega⟩
    have h6 := he.1
    have e5 : pC s 36 v0 1 0 5 = nI N := by rw [pC_k (by decide)]; exact hn
    refine ⟨v0, q1, q2, q3, fun K => ?_⟩
    rw [fx_s, l_T_stuckPairs_33, e5, if_pos ((nI_leI (by omega) (by omega)).mpr (by omega)), spI_0]
  | r + 1, q, fuel, v0, c, h, hf, q1, q2, q3 => by
    obtain ⟨f, rfl⟩ : ∃ f, fuel = f + 1 := ⟨fuel - 1, by omega⟩
    have h6 := he.1
    have e5 : pC s 36 v0 1 0 5 = nI N := by rw [pC_k (by decide)]; exact hn
    have hb := abt_C (s := pC s 36 (mw v0, md v0, mo v0, nI p, nI q)) (c := 0) (i := 36) (n := N) (by rw [eC_pC]; exact he) (by rw [gC_pC]; exact Or.inr ⟨inb_nI hp (by omega), inb_nI (by omega) (by omega)⟩) (by rw [gC_pC]; exact inb_n1 (inb_nI hp (by omega)))
    rw [eC_pC, gC_pC, q1, q2, q3] at hb
    obtain ⟨v, g1, g2, g3, hv⟩ := spi_C hn he hp r (q + 1) f (mw v0, md v0, mo v0, nI p, nI q) (if Sc (eC s 0) (gC s 0) p q = true then c + 1 else c) (by omega) (by omega) q1 q2 q3
    refine ⟨v, g1, g2, g3, fun K => ?_⟩
    have hv2 := hv K
    rw [q1, q2, q3] at hv2
    rw [fx_s, l_T_stuckPairs_33, e5, if_neg (fun z => by have := (nI_leI (by omega) (by omega)).mp z; omega), lt_e, lt_e, pC_pq, gC_pC, pC_pC, q1, q2, q3, hb, bP_s, jn_e, spI_s, nI_1]
    refine Eq.trans ?_ hv2
    have hS : Sc (eC s 0) (gC s 0) p q = decide (bsN (eC s 0) (mw (gC s 0), md (gC s 0), mo (gC s 0), nI p, nI q) 8 0 0 = 0) := rfl
    rw [hS]
    by_cases hz : bsN (eC s 0) (mw (gC s 0), md (gC s 0), mo (gC s 0), nI p, nI q) 8 0 0 = 0
    · rw [if_pos hz, decide_eq_true hz, if_pos rfl]
    · rw [if_neg hz, decide_eq_false hz, if_neg Bool.false_ne_true]
theorem spo_C {s : Sto} {N : Nat} (hn : s 1 0 5 = nI N) (he : okE N (eC s 0)) : ∀ (r p fuel : Nat) (v0 : M5) (c : Int32), p + r = N → r < fuel → mw v0 = mw (gC s 0) → md v0 = md (gC s 0) → mo v0 = mo (gC s 0) → ∃ v, fx fuel l_T_stuckPairs_18 (fun _ _ _ => none) (pC s 36 v0) c (nI p) = some (spO (Sc (eC s 0) (gC s 0)) N r p c, pC s 36 v)
  | 0, p, fuel, v0, c, h, hf, q1, q2, q3 => by
    obtain ⟨f, rfl⟩ : ∃ f, fuel = f + 1 := ⟨fuel - 1, by omega⟩
    have h6 := he.1
    have e5 : pC s 36 v0 1 0 5 = nI N := by rw [pC_k (by decide)]; exact hn
    refine ⟨v0, ?_⟩
    rw [fx_s, l_T_stuckPairs_18, e5, if_pos ((nI_leI (by omega) (by omega)).mpr (by omega)), spO_0]
  | r + 1, p, fuel, v0, c, h, hf, q1, q2, q3 => by
    obtain ⟨f, rfl⟩ : ∃ f, fuel = f + 1 := ⟨fuel - 1, by omega⟩
    have h6 := he.1
    have e5 : pC s 36 v0 1 0 5 = nI N := by rw [pC_k (by decide)]; exact hn
    obtain ⟨v1, g1, g2, g3, hv1⟩ := spi_C hn he (p := p) (by omega) (N - (p + 1)) (p + 1) 1000 v0 c (by omega) (by omega) q1 q2 q3
    obtain ⟨v, hv⟩ := spo_C hn he r (p + 1) f v1 (spI (Sc (eC s 0) (gC s 0)) p (N - (p + 1)) (p + 1) c) (by omega) (by omega) g1 g2 g3
    refine ⟨v, ?_⟩
    rw [fx_s, l_T_stuckPairs_18, e5, if_neg (fun z => by have := (nI_leI (by omega) (by omega)).mp z; omega), lt_e, jn_e, nI_1, hv1, spO_s]
    exact hv
theorem M31.addE {m m' : Sto} (q : M31 m m') (p : Int32) : adE (eM m') p = adE (eM m) p := by
  unfold adE; rw [q.e _ 0 (by decide), q.e _ 3 (by decide)]
theorem pi_M {m : Sto} {N : Nat} (hn : m 17 0 1 = nI N) (he : okE N (eM m)) {p : Nat} (hp : p < N) : ∀ (r q fuel : Nat) (m1 : Sto) (b l c : Int32), q + r = N → r < fuel → M31 m m1 → ∃ m2, M31 m m2 ∧ ∀ K, fx fuel (l_m_pairs_39 (nI p) K) (fun _ _ _ _ _ => none) m1 b l c (nI q) = K m2 (bpI (Dc (eM m) (mw (gM m))) p r q b l).1 (bpI (Dc (eM m) (mw (gM m))) p r q b l).2 (spI (Sc (eM m) (gM m)) p r q c)
  | 0, q, fuel, m1, b, l, c, h, hf, h1 => by
    obtain ⟨f, rfl⟩ : ∃ f, fuel = f + 1 := ⟨fuel - 1, by omega⟩
    have h6 := he.1
    have e5 : m1 17 0 1 = nI N := by rw [h1 17 (by decide)]; exact hn
    refine ⟨m1, h1, fun K => ?_⟩
    rw [fx_s, l_m_pairs_39, e5, if_pos ((nI_leI (by omega) (by omega)).mpr (by omega)), bpI_0, spI_0]
  | r + 1, q, fuel, m1, b, l, c, h, hf, h1 => by
    obtain ⟨f, rfl⟩ : ∃ f, fuel = f + 1 := ⟨fuel - 1, by omega⟩
    have h6 := he.1
    have e5 : m1 17 0 1 = nI N := by rw [h1 17 (by decide)]; exact hn
    have ip := inb_nI (j := p) (n := N) hp (by omega)
    have iq := inb_nI (j := q) (n := N) (by omega) (by omega)
    obtain ⟨v1, hv1⟩ := lst_M (m := m1) (he.k h1.e) ip iq
    have hv1' : f_m_lastsOf m1 (nI p) (nI q) = some (Dc (eM m) (mw (gM m)) p q, l5 m1 31 0 v1) := by
      rw [hv1, h1.addE, h1.addE, h1.g]; rfl
    have h2 := h1.tr (l5_31 m1 v1)
    have ha := ast_M (m := l5 m1 31 0 v1) (he.k h2.e) ip iq (mo (gM m))
    have g2 := h2.g
    have gw' : l5 m1 31 0 v1 17 0 2 = mw (gM m) := by rw [← g2]; rfl
    have gd' : l5 m1 31 0 v1 17 0 3 = md (gM m) := by rw [← g2]; rfl
    rw [gw', gd', (eqE.of4 (n := N) h2.e).bs (m := (mw (gM m), md (gM m), mo (gM m), nI p, nI q)) (Or.inr ⟨ip, iq⟩) (inb_n1 ip)] at ha
    have ha' : f_m_areStuck (l5 m1 31 0 v1) (nI p) (nI q) = some (b2 (Sc (eM m) (gM m) p q)) := ha
    obtain ⟨m2, h3, hv⟩ := pi_M hn he hp r (q + 1) f (l5 m1 31 0 v1) (if Dc (eM m) (mw (gM m)) p q ≤ l then b else 10 * nI p + nI q) (if Dc (eM m) (mw (gM m)) p q ≤ l then l else Dc (eM m) (mw (gM m)) p q) (if Sc (eM m) (gM m) p q = true then c + 1 else c) (by omega) (by omega) h2
    refine ⟨m2, h3, fun K => ?_⟩
    have hv2 := hv K
    rw [fx_s, l_m_pairs_39, e5, if_neg (fun z => by have := (nI_leI (by omega) (by omega)).mp z; omega), hv1', bI_s, bpI_s, spI_s]
    simp only [jn_e, ha', bP_s, lt_e, nI_1]
    by_cases hd : Dc (eM m) (mw (gM m)) p q ≤ l
    · rw [if_pos hd, if_pos hd] at hv2
      simp only [if_pos hd]
      cases hS : Sc (eM m) (gM m) p q with
      | false =>
        rw [hS, if_neg Bool.false_ne_true] at hv2
        rw [if_pos b2f, Int32.add_zero, if_neg Bool.false_ne_true]
        exact hv2
      | true =>
        rw [hS, if_pos rfl] at hv2
        rw [if_neg b2t, if_pos rfl]
        exact hv2
    · rw [if_neg hd, if_neg hd] at hv2
      simp only [if_neg hd]
      cases hS : Sc (eM m) (gM m) p q with
      | false =>
        rw [hS, if_neg Bool.false_ne_true] at hv2
        rw [if_pos b2f, Int32.add_zero, if_neg Bool.false_ne_true]
        exact hv2
      | true =>
        rw [hS, if_pos rfl] at hv2
        rw [if_neg b2t, if_pos rfl]
        exact hv2
theorem po_M {m : Sto} {N : Nat} (hn : m 17 0 1 = nI N) (he : okE N (eM m)) : ∀ (r p fuel : Nat) (m1 : Sto) (b l c : Int32), p + r = N → r < fuel → M31 m m1 → ∃ m2, M31 m m2 ∧ ∀ K, fx fuel (l_m_pairs_24 K) (fun _ _ _ _ _ => none) m1 b l c (nI p) = K m2 (bpO (Dc (eM m) (mw (gM m))) N r p b l) (spO (Sc (eM m) (gM m)) N r p c)
  | 0, p, fuel, m1, b, l, c, h, hf, h1 => by
    obtain ⟨f, rfl⟩ : ∃ f, fuel = f + 1 := ⟨fuel - 1, by omega⟩
    have h6 := he.1
    have e5 : m1 17 0 1 = nI N := by rw [h1 17 (by decide)]; exact hn
    refine ⟨m1, h1, fun K => ?_⟩
    rw [fx_s, l_m_pairs_24, e5, if_pos ((nI_leI (by omega) (by omega)).mpr (by omega)), bpO_0, spO_0]
  | r + 1, p, fuel, m1, b, l, c, h, hf, h1 => by
    obtain ⟨f, rfl⟩ : ∃ f, fuel = f + 1 := ⟨fuel - 1, by omega⟩
    have h6 := he.1
    have e5 : m1 17 0 1 = nI N := by rw [h1 17 (by decide)]; exact hn
    obtain ⟨m2, h2, hv1⟩ := pi_M hn he (p := p) (by omega) (N - (p + 1)) (p + 1) 1000 m1 b l c (by omega) (by omega) h1
    obtain ⟨m3, h3, hv⟩ := po_M hn he r (p + 1) f m2 (bpI (Dc (eM m) (mw (gM m))) p (N - (p + 1)) (p + 1) b l).1 (bpI (Dc (eM m) (mw (gM m))) p (N - (p + 1)) (p + 1) b l).2 (spI (Sc (eM m) (gM m)) p (N - (p + 1)) (p + 1) c) (by omega) (by omega) h2
    refine ⟨m3, h3, fun K => ?_⟩
    rw [fx_s, l_m_pairs_24, e5, if_neg (fun z => by have := (nI_leI (by omega) (by omega)).mp z; omega), lt_e, jn_e, nI_1, hv1, bpO_s, spO_s]
    exact hv K
theorem bpI_c {D D' : Nat → Nat → Int32} {p N : Nat} (hD : ∀ q, q < N → D p q = D' p q) : ∀ (r q : Nat) (b l : Int32), q + r ≤ N → bpI D p r q b l = bpI D' p r q b l
  | 0, _, _, _, _ => rfl
  | r + 1, q, b, l, h => by rw [bpI_s, bpI_s, hD q (by omega), bpI_c hD r (q + 1) b l (by omega), bpI_c hD r (q + 1) _ _ (by omega)]
theorem bpO_c {D D' : Nat → Nat → Int32} {N : Nat} (hD : ∀ p q, p < N → q < N → D p q = D' p q) : ∀ (r p : Nat) (b l : Int32), p + r ≤ N → bpO D N r p b l = bpO D' N r p b l
  | 0, _, _, _, _ => rfl
  | r + 1, p, b, l, h => by rw [bpO_s, bpO_s, bpI_c (fun q hq => hD p q (by omega) hq) _ _ _ _ (by omega), bpO_c hD r (p + 1) _ _ (by omega)]
theorem spI_c {S S' : Nat → Nat → Bool} {p N : Nat} (hS : ∀ q, q < N → S p q = S' p q) : ∀ (r q : Nat) (c : Int32), q + r ≤ N → spI S p r q c = spI S' p r q c
  | 0, _, _, _ => rfl
  | r + 1, q, c, h => by rw [spI_s, spI_s, hS q (by omega), spI_c hS r (q + 1) _ (by omega)]
theorem spO_c {S S' : Nat → Nat → Bool} {N : Nat} (hS : ∀ p q, p < N → q < N → S p q = S' p q) : ∀ (r p : Nat) (c : Int32), p + r ≤ N → spO S N r p c = spO S' N r p c
  | 0, _, _, _ => rfl
  | r + 1, p, c, h => by rw [spO_s, spO_s, spI_c (fun q hq => hS p q (by omega) hq) _ _ _ (by omega), spO_c hS r (p + 1) _ (by omega)]
theorem op_pairs {s m : Sto} {L : Lng} (h : RS s m L) (x : Int32) : OPI (f_T_pairs s x) (f_m_pairs m x) L := by
  obtain ⟨e1, w1, w1m, e4, e5, k1, k2, o1, o2⟩ := h.fx
  have hn : s 1 0 5 = nI (ix (s 1 0 5)) := of_ix w1.1
  have hnm : m 17 0 1 = nI (ix (s 1 0 5)) := by rw [← e1]; exact hn
  unfold f_T_pairs f_m_pairs
  rw [out_C, in_M, bP_s, bP_s]
  cases hx : outB x 0 1 with
  | true => rw [if_neg b2t, Bool.not_true, if_pos b2f, bad_C, bad_M]; exact op_bad h _
  | false =>
    have h6 := k1.1
    obtain ⟨m2, h31, hm⟩ := po_M hnm k2 (ix (s 1 0 5)) 0 1000 m (-1) (-1) 0 (by omega) (by omega) (M31.rf m)
    rw [nI_0] at hm
    rw [if_pos b2f, Bool.not_false, if_neg b2t, jn_e, hm]
    by_cases hx0 : x = 0
    · obtain ⟨v, hc⟩ := bpo_C hn k1 (ix (s 1 0 5)) 0 1000 (gC s 36) (-1) (-1) (by omega) (by omega)
      rw [pC_gC, nI_0] at hc
      unfold f_T_bestPair
      rw [if_pos hx0, if_pos hx0, hc, bI_s]
      refine ⟨_, _, _, rfl, ?_, (h.trial v 36 (by decide)).m31 h31⟩
      rw [bpO_c (D' := Dc (eC s 0) (mw (gC s 0))) (fun p q hp hq => ?_) _ _ _ _ (by omega)]
      unfold Dc
      rw [e5.ad (inb_nI hp (by omega)), e5.ad (inb_nI hq (by omega)), e4]
    · obtain ⟨v, hc⟩ := spo_C hn k1 (ix (s 1 0 5)) 0 1000 (gC s 0) 0 (by omega) (by omega) rfl rfl rfl
      rw [nI_0] at hc
      unfold f_T_stuckPairs
      rw [if_neg hx0, if_neg hx0, mbe_C, bV_s, hc, bI_s]
      refine ⟨_, _, _, rfl, ?_, (h.trial v 36 (by decide)).m31 h31⟩
      rw [spO_c (S' := Sc (eC s 0) (gC s 0)) (fun p q hp hq => ?_) _ _ _ (by omega)]
      unfold Sc
      have ip := inb_nI (j := p) hp (by omega : ix (s 1 0 5) ≤ 1000)
      have iq := inb_nI (j := q) hq (by omega : ix (s 1 0 5) ≤ 1000)
      rw [e4, e5.bs (m := (mw (gM m), md (gM m), mo (gM m), nI p, nI q)) (Or.inr ⟨ip, iq⟩) (inb_n1 ip)]
