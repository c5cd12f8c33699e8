/-! what notes tell: is, heart -/
def fitN (l k : Int32 → Bool) (j : Nat) (t : HEnv) (p : Int32) : Nat → Nat → Bool
  | 0, _ => true
  | r + 1, a => if t a 0 = p then (lfV j (l (t a 1)) (k (t a 1)) (t a 2) (t a 3) == decide (t a 4 = 1)) && fitN l k j t p r (a + 1) else fitN l k j t p r (a + 1)
theorem fitN_0 (l k : Int32 → Bool) (j : Nat) (t : HEnv) (p : Int32) (a : Nat) : fitN l k j t p 0 a = true := rfl
theorem fitN_s (l k : Int32 → Bool) (j : Nat) (t : HEnv) (p : Int32) (r a : Nat) : fitN l k j t p (r + 1) a = if t a 0 = p then (lfV j (l (t a 1)) (k (t a 1)) (t a 2) (t a 3) == decide (t a 4 = 1)) && fitN l k j t p r (a + 1) else fitN l k j t p r (a + 1) := rfl
theorem fitN_c {l l' k k' : Int32 → Bool} {j : Nat} {t t' : HEnv} {p : Int32} {N : Nat} (ht : ∀ a, a < N → ∀ x, x < 5 → t a x = t' a x) (hl : ∀ a, a < N → l (t a 1) = l' (t a 1) ∧ k (t a 1) = k' (t a 1)) : ∀ (r a : Nat), a + r ≤ N → fitN l k j t p r a = fitN l' k' j t' p r a
  | 0, _, _ => rfl
  | r + 1, a, h => by
    rw [fitN_s, fitN_s, fitN_c ht hl r (a + 1) (by omega), (hl a (by omega)).1, (hl a (by omega)).2, ht a (by omega) 0 (by decide), ht a (by omega) 1 (by decide), ht a (by omega) 2 (by decide), ht a (by omega) 3 (by decide), ht a (by omega) 4 (by decide)]
theorem b2_inj (a b : Bool) : b2 a = b2 b ↔ a = b := by cases a <;> cases b <;> decide +kernel
theorem b2_if (P : Prop) [Decidable P] {α : Type} (f : Int32 → α) : (if P then f 1 else f 0) = f (b2 (decide P)) := by
  by_cases h : P
  · rw [if_pos h, decide_eq_true h, b2t1]
  · rw [if_neg h, decide_eq_false h, b2f]
theorem beq_b (a b : Bool) : (a == b) = decide (a = b) := by cases a <;> cases b <;> rfl
theorem fit_C {z : Sto} {N : Nat} (hn : z 1 0 6 = nI N) (h6 : N ≤ 6) {p kind : Int32} (hp : inb p 6) (hk : inb kind 6) : ∀ (r a fuel : Nat), a + r = N → r < fuel → fx fuel (l_Co_fits_2 z 0 p kind) (fun _ => none) (nI a) = some (b2 (fitN (fun x => lAl (z 2 (6 * 0 + ix p) 1) (z 2 (6 * 0 + ix p) 2) x) (fun x => hAl (z 2 (6 * 0 + ix p) 1) (z 2 (6 * 0 + ix p) 2) x) (ix kind) (tC z 0) p r a))
  | 0, a, fuel, h, hf => by
    obtain ⟨f, rfl⟩ : ∃ f, fuel = f + 1 := ⟨fuel - 1, by omega⟩
    rw [fx_s, l_Co_fits_2, hn, if_pos ((nI_leI (by omega) (by omega)).mpr (by omega)), fitN_0, b2t1]
  | r + 1, a, fuel, h, hf => by
    obtain ⟨f, rfl⟩ : ∃ f, fuel = f + 1 := ⟨fuel - 1, by omega⟩
    have ih := fit_C hn h6 hp hk r (a + 1) f (by omega) (by omega)
    rw [fx_s, l_Co_fits_2, hn, if_neg (fun q => by have := (nI_leI (by omega) (by omega)).mp q; omega), if_pos (inb_nI (by omega) (by omega)), jn_e, ix_nI (by omega), nI_1, ih, fitN_s]
    by_cases e : z 3 (6 * 0 + a) 0 = p
    · rw [if_pos e, if_pos (show tC z 0 a 0 = p from e), lf_C hp hk, bP_s, jn_e]
      rw [b2_if (z 3 (6 * 0 + a) 4 = 1) (fun t6 => if b2 (lfE (eC z 0) p (ix kind) (z 3 (6 * 0 + a) 1) (z 3 (6 * 0 + a) 2) (z 3 (6 * 0 + a) 3)) = t6 then some (b2 (fitN (fun x => lAl (z 2 (6 * 0 + ix p) 1) (z 2 (6 * 0 + ix p) 2) x) (fun x => hAl (z 2 (6 * 0 + ix p) 1) (z 2 (6 * 0 + ix p) 2) x) (ix kind) (tC z 0) p r (a + 1))) else some 0)]
      have q : lfV (ix kind) (lAl (z 2 (6 * 0 + ix p) 1) (z 2 (6 * 0 + ix p) 2) (tC z 0 a 1)) (hAl (z 2 (6 * 0 + ix p) 1) (z 2 (6 * 0 + ix p) 2) (tC z 0 a 1)) (tC z 0 a 2) (tC z 0 a 3) = lfE (eC z 0) p (ix kind) (z 3 (6 * 0 + a) 1) (z 3 (6 * 0 + a) 2) (z 3 (6 * 0 + a) 3) := rfl
      have q2 : tC z 0 a 4 = z 3 (6 * 0 + a) 4 := rfl
      rw [q, q2, beq_b]
      by_cases e2 : lfE (eC z 0) p (ix kind) (z 3 (6 * 0 + a) 1) (z 3 (6 * 0 + a) 2) (z 3 (6 * 0 + a) 3) = decide (z 3 (6 * 0 + a) 4 = 1)
      · rw [if_pos ((b2_inj _ _).mpr e2), decide_eq_true e2, Bool.true_and]
      · rw [if_neg (fun y => e2 ((b2_inj _ _).mp y)), decide_eq_false e2, Bool.false_and, b2f]
    · rw [if_neg e, if_neg (show ¬ tC z 0 a 0 = p from e)]
theorem fits_C {z : Sto} {N : Nat} (hn : z 1 0 6 = nI N) (h6 : N ≤ 6) {p kind : Int32} (hp : inb p 6) (hk : inb kind 6) : f_Co_fits z 0 p kind = some (b2 (fitN (fun x => lAl (z 2 (6 * 0 + ix p) 1) (z 2 (6 * 0 + ix p) 2) x) (fun x => hAl (z 2 (6 * 0 + ix p) 1) (z 2 (6 * 0 + ix p) 2) x) (ix kind) (tC z 0) p N 0)) := by
  have h := fit_C hn h6 hp hk N 0 1000 (by omega) (by omega)
  rw [nI_0] at h
  rw [f_Co_fits]
  exact h
theorem iso_M {m : Sto} {N : Nat} (hn : m 17 0 7 = nI N) (h6 : N ≤ 6) {p kind x3 x4 : Int32} (hk : inb kind 6) {l k : Int32 → Bool} (hx : ∀ a, ¬ (l a = true ∧ k a = true)) (hh : ∀ a, a < N → (m 24 0 a = x3 → x4 = hrV (l (m 24 0 a)) (k (m 24 0 a))) ∧ (¬ m 24 0 a = x3 → f_m_heartOf m p (m 24 0 a) = some (hrV (l (m 24 0 a)) (k (m 24 0 a))))) : ∀ (r a fuel : Nat) (b : Bool), a + r = N → r < fuel → fx fuel (l_m_isSo_6 m p kind x3 x4) (fun _ _ => none) (b2 b) (nI a) = some (b2 (b && fitN l k (ix kind) (tM m) p r a))
  | 0, a, fuel, b, h, hf => by
    obtain ⟨f, rfl⟩ : ∃ f, fuel = f + 1 := ⟨fuel - 1, by omega⟩
    rw [fx_s, l_m_isSo_6, hn, if_pos ((nI_leI (by omega) (by omega)).mpr (by omega)), if_pos (b2_01 _), fitN_0, Bool.and_true]
  | r + 1, a, fuel, b, h, hf => by
    obtain ⟨f, rfl⟩ : ∃ f, fuel = f + 1 := ⟨fuel - 1, by omega⟩
    have ih := fun b => iso_M hn h6 hk hx hh r (a + 1) f b (by omega) (by omega)
    have i6 := inb_nI (j := a) (n := 6) (by omega) (by omega)
    have lb : f_m_liftsBy kind (hrV (l (m 24 0 a)) (k (m 24 0 a))) (m 25 0 a) (m 26 0 a) = some (b2 (lfV (ix kind) (l (m 24 0 a)) (k (m 24 0 a)) (m 25 0 a) (m 26 0 a))) := by
      have := lby_M (inb_ix hk) (l (m 24 0 a)) (k (m 24 0 a)) (hx _) (m 25 0 a) (m 26 0 a)
      rwa [← of_ix hk.1] at this
    have q : lfV (ix kind) (l (tM m a 1)) (k (tM m a 1)) (tM m a 2) (tM m a 3) = lfV (ix kind) (l (m 24 0 a)) (k (m 24 0 a)) (m 25 0 a) (m 26 0 a) := rfl
    have q2 : tM m a 4 = m 27 0 a := rfl
    have q0 : tM m a 0 = m 23 0 a := rfl
    have b10 : ∀ c : Bool, (if b2 c = 0 then fx f (l_m_isSo_6 m p kind x3 x4) (fun _ _ => none) 0 (nI (a + 1)) else fx f (l_m_isSo_6 m p kind x3 x4) (fun _ _ => none) 1 (nI (a + 1))) = fx f (l_m_isSo_6 m p kind x3 x4) (fun _ _ => none) (b2 c) (nI (a + 1)) := fun c => by
      cases c with
      | false => rw [if_pos b2f, b2f]
      | true => rw [if_neg b2t, b2t1]
    rw [fx_s, l_m_isSo_6, hn, if_neg (fun q => by have := (nI_leI (by omega) (by omega)).mp q; omega), fitN_s, q, q2, q0]
    simp only [if_pos i6, jn_e, ix_nI (show a < 2147483648 by omega), nI_1]
    by_cases e : m 23 0 a = p
    · simp only [if_pos e]
      have body : ∀ X, X = hrV (l (m 24 0 a)) (k (m 24 0 a)) → (if b2 b = 0 then fx f (l_m_isSo_6 m p kind x3 x4) (fun _ _ => none) 0 (nI (a + 1)) else bP (f_m_liftsBy kind X (m 25 0 a) (m 26 0 a)) fun r11 => if m 27 0 a = 1 then if r11 = 1 then fx f (l_m_isSo_6 m p kind x3 x4) (fun _ _ => none) 1 (nI (a + 1)) else fx f (l_m_isSo_6 m p kind x3 x4) (fun _ _ => none) 0 (nI (a + 1)) else if r11 = 0 then fx f (l_m_isSo_6 m p kind x3 x4) (fun _ _ => none) 1 (nI (a + 1)) else fx f (l_m_isSo_6 m p kind x3 x4) (fun _ _ => none) 0 (nI (a + 1))) = some (b2 (b && ((lfV (ix kind) (l (m 24 0 a)) (k (m 24 0 a)) (m 25 0 a) (m 26 0 a) == decide (m 27 0 a = 1)) && fitN l k (ix kind) (tM m) p r (a + 1)))) := by
        intro X hX
        have i0 := ih false
        have i1 := ih true
        rw [b2f, Bool.false_and] at i0
        rw [b2t1, Bool.true_and] at i1
        cases b with
        | false => rw [if_pos b2f, Bool.false_and]; exact i0
        | true =>
          rw [if_neg b2t, hX, lb, bP_s, Bool.true_and]
          by_cases e4 : m 27 0 a = 1
          · rw [if_pos e4, decide_eq_true e4]
            cases lfV (ix kind) (l (m 24 0 a)) (k (m 24 0 a)) (m 25 0 a) (m 26 0 a) with
            | false => rw [if_neg (show ¬ b2 false = 1 by decide +kernel)]; exact i0
            | true => rw [if_pos b2t1]; exact i1
          · rw [if_neg e4, decide_eq_false e4]
            cases lfV (ix kind) (l (m 24 0 a)) (k (m 24 0 a)) (m 25 0 a) (m 26 0 a) with
            | false => rw [if_pos b2f]; exact i1
            | true => rw [if_neg b2t]; exact i0
      by_cases e3 : m 24 0 a = x3
      · simp only [if_pos e3]
        exact body x4 ((hh a (by omega)).1 e3)
      · simp only [if_neg e3, (hh a (by omega)).2 e3, bP_s]
        exact body _ rfl
    · simp only [if_neg e]
      exact ih b
theorem isSo_M {m : Sto} {N : Nat} (hn : m 17 0 7 = nI N) (h6 : N ≤ 6) {p kind x3 x4 : Int32} (hk : inb kind 6) {l k : Int32 → Bool} (hx : ∀ a, ¬ (l a = true ∧ k a = true)) (hh : ∀ a, a < N → (m 24 0 a = x3 → x4 = hrV (l (m 24 0 a)) (k (m 24 0 a))) ∧ (¬ m 24 0 a = x3 → f_m_heartOf m p (m 24 0 a) = some (hrV (l (m 24 0 a)) (k (m 24 0 a))))) : f_m_isSo m p kind x3 x4 = some (b2 (fitN l k (ix kind) (tM m) p N 0)) := by
  have h := iso_M hn h6 hk hx hh N 0 1000 true (by omega) (by omega)
  rw [nI_0, b2t1, Bool.true_and] at h
  rw [f_m_isSo]
  exact h
theorem lh_no (lk ht a : Int32) : ¬ (lAl lk ht a = true ∧ hAl lk ht a = true) := by
  unfold lAl hAl
  cases BB lk a <;> cases BB ht a <;> simp
/-- the kinds that fit, as a set -/
def kfN (F : Nat → Bool) : Nat → Nat → Int32 → Int32
  | 0, _, x => x
  | r + 1, a, x => kfN F r (a + 1) (if F a then x ||| (1 <<< (nI a &&& 31)) else x)
theorem kfN_0 (F : Nat → Bool) (a : Nat) (x : Int32) : kfN F 0 a x = x := rfl
theorem kfN_s (F : Nat → Bool) (r a : Nat) (x : Int32) : kfN F (r + 1) a x = kfN F r (a + 1) (if F a then x ||| (1 <<< (nI a &&& 31)) else x) := rfl
theorem kfN_c {F F' : Nat → Bool} {N : Nat} (h : ∀ a, a < N → F a = F' a) : ∀ (r a : Nat) (x : Int32), a + r ≤ N → kfN F r a x = kfN F' r a x
  | 0, _, _, _ => rfl
  | r + 1, a, x, hr => by rw [kfN_s, kfN_s, h a (by omega), kfN_c h r (a + 1) _ (by omega)]
theorem c6 : (6 : Int32) = nI 6 := by decide +kernel
theorem c5 : (5 : Int32) = nI 5 := by decide +kernel
theorem kf_C {s : Sto} {p : Int32} {F : Nat → Bool} (hF : ∀ a, a < 6 → f_Co_fits s 0 p (nI a) = some (b2 (F a))) : ∀ (r a fuel : Nat) (x : Int32), a + r = 6 → r < fuel → fx fuel (l_T_kindsThatFit_4 s p) (fun _ _ => none) x (nI a) = some (kfN F r a x)
  | 0, a, fuel, x, h, hf => by
    obtain ⟨f, rfl⟩ : ∃ f, fuel = f + 1 := ⟨fuel - 1, by omega⟩
    rw [fx_s, l_T_kindsThatFit_4, show a = 6 by omega, if_pos (by decide +kernel), kfN_0]
  | r + 1, a, fuel, x, h, hf => by
    obtain ⟨f, rfl⟩ : ∃ f, fuel = f + 1 := ⟨fuel - 1, by omega⟩
    rw [fx_s, l_T_kindsThatFit_4, if_neg (by rw [c6]; exact nI_ge (by omega) (by omega)), hF a (by omega), bP_s, jn_e, kfN_s, ← kf_C hF r (a + 1) f _ (by omega) (by omega), nI_1]
    cases F a with
    | false => rw [if_pos b2f, if_neg Bool.false_ne_true]
    | true => rw [if_neg b2t, if_pos rfl, lt_e]
theorem kf_M {m : Sto} {p : Int32} {F : Nat → Bool} (hF : ∀ a, a < 6 → f_m_isSo m p (nI a) (-1) 0 = some (b2 (F a))) : ∀ (r a fuel : Nat) (x : Int32), a + r = 6 → r < fuel → fx fuel (l_m_kindsOf_4 m p) (fun _ _ => none) x (nI a) = some (kfN F r a x)
  | 0, a, fuel, x, h, hf => by
    obtain ⟨f, rfl⟩ : ∃ f, fuel = f + 1 := ⟨fuel - 1, by omega⟩
    rw [fx_s, l_m_kindsOf_4, show a = 6 by omega, if_pos (by decide +kernel), kfN_0]
  | r + 1, a, fuel, x, h, hf => by
    obtain ⟨f, rfl⟩ : ∃ f, fuel = f + 1 := ⟨fuel - 1, by omega⟩
    have n5 : ¬ (5 : Int32) < nI a := by
      rw [c5, i_lt, nI_toInt (by omega), nI_toInt (by omega)]; omega
    rw [fx_s, l_m_kindsOf_4, if_neg n5, hF a (by omega), bP_s, jn_e, kfN_s, ← kf_M hF r (a + 1) f _ (by omega) (by omega), nI_1]
    cases F a with
    | false =>
      rw [if_pos b2f, if_neg Bool.false_ne_true]
      dsimp only
      rw [lt_e, or_z]
    | true =>
      rw [if_neg b2t, if_pos rfl]
      dsimp only
      rw [lt_e]
/-- the notes of both alike -/
theorem RS.nt {s m : Sto} {L : Lng} (h : RS s m L) : ∃ N, N ≤ 6 ∧ s 1 0 6 = nI N ∧ m 17 0 7 = nI N ∧ (∀ a, a < N → ∀ x, x < 5 → tC s 0 a x = tM m a x) ∧ ∀ a, a < N → inb (tC s 0 a 1) 8 := by
  obtain ⟨⟨e1, e2, e3, e4, e5, e6, e7⟩, w1, w2, w3, w4, w5, w6, w7, w8⟩ := h.1
  have w2' : inb (s 1 0 6) 7 := w2
  have e2' : s 1 0 6 = m 17 0 7 := e2
  have hn : s 1 0 6 = nI (ix (s 1 0 6)) := of_ix w2'.1
  have := inb_ix w2'
  exact ⟨ix (s 1 0 6), by omega, hn, by rw [← e2']; exact hn, fun a ha x hx => e6 a ha x hx, fun a ha => w7 a ha⟩
theorem kds {s m : Sto} {L : Lng} (h : RS s m L) {p : Int32} (hp : inb p (ix (s 1 0 5))) : ∃ F : Nat → Bool, f_T_kindsThatFit s p = some (kfN F 6 0 0) ∧ f_m_kindsOf m p = some (kfN F 6 0 0) := by
  obtain ⟨e1, w1, w1m, e4, e5, k1, k2, o1, o2⟩ := h.fx
  obtain ⟨N, h6, n1, n2, n3, n4⟩ := h.nt
  have p6 := inb_le hp k1.1
  have hc : ∀ a, a < 6 → f_Co_fits s 0 p (nI a) = some (b2 (fitN (fun x => lAl (s 2 (6 * 0 + ix p) 1) (s 2 (6 * 0 + ix p) 2) x) (fun x => hAl (s 2 (6 * 0 + ix p) 1) (s 2 (6 * 0 + ix p) 2) x) a (tC s 0) p N 0)) := fun a ha => by
    have := fits_C n1 h6 p6 (inb_nI (j := a) (n := 6) ha (by decide))
    rwa [ix_nI (by omega)] at this
  have v1 : s 2 (6 * 0 + ix p) 1 = m 20 0 (ix p) := e5 (ix p) (inb_ix hp) 1 (by decide)
  have v2 : s 2 (6 * 0 + ix p) 2 = m 21 0 (ix p) := e5 (ix p) (inb_ix hp) 2 (by decide)
  have hm : ∀ a, a < 6 → f_m_isSo m p (nI a) (-1) 0 = some (b2 (fitN (fun x => lAl (s 2 (6 * 0 + ix p) 1) (s 2 (6 * 0 + ix p) 2) x) (fun x => hAl (s 2 (6 * 0 + ix p) 1) (s 2 (6 * 0 + ix p) 2) x) a (tC s 0) p N 0)) := fun a ha => by
    have := isSo_M (p := p) (kind := nI a) (x3 := -1) (x4 := 0) n2 h6 (inb_nI (j := a) (n := 6) ha (by decide)) (l := fun x => lAl (s 2 (6 * 0 + ix p) 1) (s 2 (6 * 0 + ix p) 2) x) (k := fun x => hAl (s 2 (6 * 0 + ix p) 1) (s 2 (6 * 0 + ix p) 2) x) (fun x => lh_no _ _ x) (fun b hb => ⟨fun e => ?_, fun _ => ?_⟩)
    · rw [ix_nI (by omega)] at this
      rw [this, fitN_c (fun a ha x hx => (n3 a ha x hx).symm) (fun _ _ => ⟨rfl, rfl⟩) N 0 (by omega)]
    · have q := n4 b hb
      rw [n3 b hb 1 (by decide)] at q
      exact absurd e (inb_n1 q)
    · rw [hrt_M p6, v1, v2]
  refine ⟨fun a => fitN (fun x => lAl (s 2 (6 * 0 + ix p) 1) (s 2 (6 * 0 + ix p) 2) x) (fun x => hAl (s 2 (6 * 0 + ix p) 1) (s 2 (6 * 0 + ix p) 2) x) a (tC s 0) p N 0, ?_, ?_⟩
  · have := kf_C hc 6 0 1000 0 (by omega) (by omega)
    rw [nI_0] at this
    rw [f_T_kindsThatFit]
    exact this
  · have := kf_M hm 6 0 1000 0 (by omega) (by omega)
    rw [nI_0] at this
    rw [f_m_kindsOf]
    exact this
theorem op_is {s m : Sto} {L : Lng} (h : RS s m L) (p : Int32) : OPI (f_T_is s p) (f_m_is m p) L := by
  obtain ⟨e1, w1, w1m, e4, e5, k1, k2, o1, o2⟩ := h.fx
  unfold f_T_is f_m_is
  rw [has_C, isH_M w1m, bP_s, bP_s, e1]
  cases hp : hasB p (m 17 0 1) with
  | false => rw [if_pos b2f, if_pos b2f, bad_C, bad_M]; exact op_bad h _
  | true =>
    have ip := hasB_t hp
    rw [← e1] at ip
    obtain ⟨F, h1, h2⟩ := kds h ip
    rw [if_neg b2t, if_neg b2t, h1, h2, bP_s, bP_s]
    exact op_same h rfl
