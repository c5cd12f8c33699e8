/-! heart, spite -/
def fel (s : Sto) (i : Nat) (a b : Int32) : Sto := st (st s 2 i 1 a) 2 i 2 b
theorem fel_C (s : Sto) (i : Nat) (a b : Int32) : f_He_feel s i a b = some (fel s i a b) := rfl
theorem fel_k {s : Sto} {i : Nat} {a b : Int32} {k : Nat} (h : k ≠ 2) : fel s i a b k = s k := by unfold fel; rw [st_k h, st_k h]
theorem fel_0 (s : Sto) (i : Nat) (a b : Int32) : fel s i a b 2 i 0 = s 2 i 0 := by unfold fel; rw [st_v, if_neg (by omega), st_v, if_neg (by omega)]
theorem fel_1 (s : Sto) (i : Nat) (a b : Int32) : fel s i a b 2 i 1 = a := by unfold fel; rw [st_v, if_neg (by omega), st_v, if_pos ⟨rfl, rfl, rfl⟩]
theorem fel_2 (s : Sto) (i : Nat) (a b : Int32) : fel s i a b 2 i 2 = b := by unfold fel; rw [st_v, if_pos ⟨rfl, rfl, rfl⟩]
theorem fel_fel (s : Sto) (i : Nat) (a b c d : Int32) : fel (fel s i a b) i c d = fel s i c d := by
  funext k' i' x
  unfold fel
  simp only [st_v]
  by_cases h2 : k' = 2 ∧ i' = i ∧ x = 2
  · simp only [if_pos h2]
  · by_cases h1 : k' = 2 ∧ i' = i ∧ x = 1
    · simp only [if_neg h2, if_pos h1]
    · simp only [if_neg h2, if_neg h1]
theorem fel_id (s : Sto) (i : Nat) : fel s i (s 2 i 1) (s 2 i 2) = s := by
  funext k' i' x
  unfold fel
  rw [st_v]
  by_cases h2 : k' = 2 ∧ i' = i ∧ x = 2
  · rw [if_pos h2, h2.1, h2.2.1, h2.2.2]
  · rw [if_neg h2, st_v]
    by_cases h1 : k' = 2 ∧ i' = i ∧ x = 1
    · rw [if_pos h1, h1.1, h1.2.1, h1.2.2]
    · rw [if_neg h1]
theorem bix8 : ∀ i, i < 8 → ∀ j, j < 8 → (bix (nI i) = bix (nI j) ↔ i = j) := by decide +kernel
theorem bit8 {a act : Int32} (ha : inb a 8) (hc : inb act 8) : BB (1 <<< (act &&& 31)) a = decide (a = act) := by
  rw [BB_sh]
  have e1 := of_ix ha.1
  have e2 := of_ix hc.1
  have q := bix8 _ (inb_ix ha) _ (inb_ix hc)
  rw [← e1, ← e2] at q
  by_cases h : a = act
  · rw [decide_eq_true h, decide_eq_true (by rw [h])]
  · rw [decide_eq_false h, decide_eq_false (fun z => h (by rw [e1, e2, q.mp z]))]
/-- the three hearts: likes, hates -/
def hL (lk bit : Int32) (h : Nat) : Int32 := if h = 0 then lk ||| bit else lk &&& (bit ^^^ (-1))
def hH (ht bit : Int32) (h : Nat) : Int32 := if h = 1 then ht ||| bit else ht &&& (bit ^^^ (-1))
def hT (s : Sto) (p act : Int32) (N : Nat) : Nat → Bool := fun h => fitN (fun x => lAl (hL (s 2 (6 * 0 + ix p) 1) (1 <<< (act &&& 31)) h) (hH (s 2 (6 * 0 + ix p) 2) (1 <<< (act &&& 31)) h) x) (fun x => hAl (hL (s 2 (6 * 0 + ix p) 1) (1 <<< (act &&& 31)) h) (hH (s 2 (6 * 0 + ix p) 2) (1 <<< (act &&& 31)) h) x) (ix (s 2 (6 * 0 + ix p) 0)) (tC s 0) p N 0
theorem hft_C {s z : Sto} {N : Nat} (hn : s 1 0 6 = nI N) (h6 : N ≤ 6) {p act : Int32} (hp : inb p 6) (hk : inb (s 2 (6 * 0 + ix p) 0) 6) (h : Nat) {a b : Int32} (ha : a = hL (s 2 (6 * 0 + ix p) 1) (1 <<< (act &&& 31)) h) (hb : b = hH (s 2 (6 * 0 + ix p) 2) (1 <<< (act &&& 31)) h) (hz : z = fel s (6 * 0 + ix p) a b) : f_Co_fits z 0 p (z 2 (6 * 0 + ix p) 0) = some (b2 (hT s p act N h)) := by
  have e0 : z 2 (6 * 0 + ix p) 0 = s 2 (6 * 0 + ix p) 0 := by rw [hz, fel_0]
  have e1 : z 2 (6 * 0 + ix p) 1 = a := by rw [hz, fel_1]
  have e2 : z 2 (6 * 0 + ix p) 2 = b := by rw [hz, fel_2]
  have et : tC z 0 = tC s 0 := by
    funext j x
    show z 3 (6 * 0 + j) x = s 3 (6 * 0 + j) x
    rw [hz, fel_k (by decide)]
  have en : z 1 0 6 = nI N := by rw [hz, fel_k (by decide)]; exact hn
  rw [fits_C en h6 hp (by rw [e0]; exact hk), e0, e1, e2, et, ha, hb]
  rfl
theorem hl_M {m : Sto} {p act : Int32} {T : Nat → Bool} (hp : inb p 6) (hT : ∀ h, h < 3 → f_m_isSo m p (m 19 0 (ix p)) act (nI h) = some (b2 (T h))) : ∀ (r a fuel : Nat) (x : Int32), a + r = 3 → r < fuel → fx fuel (l_m_heart_25 m p act) (fun _ _ => none) x (nI a) = some (kfN T r a x, m)
  | 0, a, fuel, x, h, hf => by
    obtain ⟨f, rfl⟩ : ∃ f, fuel = f + 1 := ⟨fuel - 1, by omega⟩
    rw [fx_s, l_m_heart_25, show a = 3 by omega, if_pos (by decide +kernel), kfN_0]
  | r + 1, a, fuel, x, h, hf => by
    obtain ⟨f, rfl⟩ : ∃ f, fuel = f + 1 := ⟨fuel - 1, by omega⟩
    have c3 : (3 : Int32) = nI 3 := by decide +kernel
    rw [fx_s, l_m_heart_25, if_neg (by rw [c3]; exact nI_ge (by omega) (by omega)), if_pos hp, hT a (by omega), bP_s, jn_e, kfN_s, ← hl_M hp hT r (a + 1) f _ (by omega) (by omega), nI_1]
    cases T a with
    | false =>
      rw [if_pos b2f, if_neg Bool.false_ne_true]
      dsimp only
      rw [lt_e, or_z]
    | true =>
      rw [if_neg b2t, if_pos rfl]
      dsimp only
      rw [lt_e]
theorem hhv {lk ht a act : Int32} (ha : inb a 8) (hc : inb act 8) (h : Nat) (h3 : h < 3) : (a = act → nI h = hrV (lAl (hL lk (1 <<< (act &&& 31)) h) (hH ht (1 <<< (act &&& 31)) h) a) (hAl (hL lk (1 <<< (act &&& 31)) h) (hH ht (1 <<< (act &&& 31)) h) a)) ∧ (¬ a = act → lAl (hL lk (1 <<< (act &&& 31)) h) (hH ht (1 <<< (act &&& 31)) h) a = lAl lk ht a ∧ hAl (hL lk (1 <<< (act &&& 31)) h) (hH ht (1 <<< (act &&& 31)) h) a = hAl lk ht a) := by
  have hb := bit8 ha hc
  have v : nI 0 = 0 ∧ nI 1 = 1 ∧ nI 2 = 2 := by decide +kernel
  rcases (show h = 0 ∨ h = 1 ∨ h = 2 by omega) with rfl | rfl | rfl
  · simp only [hL, hH, lAl, hAl, BB_or, BB_and, BB_not, hb, v.1, if_true, if_false, show ¬ (0 : Nat) = 1 by decide]
    refine ⟨fun e => ?_, fun e => ?_⟩
    · rw [decide_eq_true e]; simp [hrV]
    · rw [decide_eq_false e]; simp
  · simp only [hL, hH, lAl, hAl, BB_or, BB_and, BB_not, hb, v.2.1, if_true, if_false, show ¬ (1 : Nat) = 0 by decide]
    refine ⟨fun e => ?_, fun e => ?_⟩
    · rw [decide_eq_true e]; simp [hrV]
    · rw [decide_eq_false e]; simp
  · simp only [hL, hH, lAl, hAl, BB_or, BB_and, BB_not, hb, v.2.2, if_false, show ¬ (2 : Nat) = 0 by decide, show ¬ (2 : Nat) = 1 by decide]
    refine ⟨fun e => ?_, fun e => ?_⟩
    · rw [decide_eq_true e]; simp [hrV]
    · rw [decide_eq_false e]; simp
theorem kf3 (T : Nat → Bool) : kfN T 3 0 0 = (if T 2 then (if T 1 then (if T 0 then (0 : Int32) ||| 1 else 0) ||| 2 else (if T 0 then (0 : Int32) ||| 1 else 0)) ||| 4 else (if T 1 then (if T 0 then (0 : Int32) ||| 1 else 0) ||| 2 else (if T 0 then (0 : Int32) ||| 1 else 0))) := by
  have e : kfN T 3 0 0 = (if T 2 then (if T 1 then (if T 0 then (0 : Int32) ||| (1 <<< (nI 0 &&& 31)) else 0) ||| (1 <<< (nI 1 &&& 31)) else (if T 0 then (0 : Int32) ||| (1 <<< (nI 0 &&& 31)) else 0)) ||| (1 <<< (nI 2 &&& 31)) else (if T 1 then (if T 0 then (0 : Int32) ||| (1 <<< (nI 0 &&& 31)) else 0) ||| (1 <<< (nI 1 &&& 31)) else (if T 0 then (0 : Int32) ||| (1 <<< (nI 0 &&& 31)) else 0))) := rfl
  have v : (1 : Int32) <<< (nI 0 &&& 31) = 1 ∧ (1 : Int32) <<< (nI 1 &&& 31) = 2 ∧ (1 : Int32) <<< (nI 2 &&& 31) = 4 := by decide +kernel
  rw [e, v.1, v.2.1, v.2.2]
theorem op_heart {s m : Sto} {L : Lng} (h : RS s m L) (p act : Int32) : OPI (f_T_heart s p act) (f_m_heart m p act) L := by
  obtain ⟨e1, w1, w1m, e4, e5, k1, k2, o1, o2⟩ := h.fx
  obtain ⟨N, h6, n1, n2, n3, n4⟩ := h.nt
  unfold f_T_heart f_m_heart
  rw [has_C, isH_M w1m, out_C, act_M, bP_s, bP_s, bP_s, bP_s, e1]
  cases hp : hasB p (m 17 0 1) with
  | false => rw [if_pos b2f, if_pos b2f, bad_C, bad_M]; exact op_bad h _
  | true =>
    rw [if_neg b2t, if_neg b2t]
    cases ha : outB act 0 7 with
    | true => rw [if_neg b2t, Bool.not_true, if_pos b2f, bad_C, bad_M]; exact op_bad h _
    | false =>
      have a8 := act8 ha
      have ip := hasB_t hp
      rw [← e1] at ip
      have p6 := inb_le ip k1.1
      have v0 : s 2 (6 * 0 + ix p) 0 = m 19 0 (ix p) := e5 (ix p) (inb_ix ip) 0 (by decide)
      have v1 : s 2 (6 * 0 + ix p) 1 = m 20 0 (ix p) := e5 (ix p) (inb_ix ip) 1 (by decide)
      have v2 : s 2 (6 * 0 + ix p) 2 = m 21 0 (ix p) := e5 (ix p) (inb_ix ip) 2 (by decide)
      have hk : inb (s 2 (6 * 0 + ix p) 0) 6 := k1.2 _ (inb_ix ip)
      have hm : ∀ i, i < 3 → f_m_isSo m p (m 19 0 (ix p)) act (nI i) = some (b2 (hT s p act N i)) := fun i hi => by
        have := isSo_M (p := p) (kind := m 19 0 (ix p)) (x3 := act) (x4 := nI i) n2 h6 (by rw [← v0]; exact hk) (l := fun x => lAl (hL (s 2 (6 * 0 + ix p) 1) (1 <<< (act &&& 31)) i) (hH (s 2 (6 * 0 + ix p) 2) (1 <<< (act &&& 31)) i) x) (k := fun x => hAl (hL (s 2 (6 * 0 + ix p) 1) (1 <<< (act &&& 31)) i) (hH (s 2 (6 * 0 + ix p) 2) (1 <<< (act &&& 31)) i) x) (fun x => lh_no _ _ x) (fun b hb => ?_)
        · rw [this, fitN_c (fun a ha x hx => (n3 a ha x hx).symm) (fun _ _ => ⟨rfl, rfl⟩) N 0 (by omega), ← v0]
          rfl
        · have q := n4 b hb
          rw [n3 b hb 1 (by decide)] at q
          have q' : inb (m 24 0 b) 8 := q
          have r := hhv (lk := s 2 (6 * 0 + ix p) 1) (ht := s 2 (6 * 0 + ix p) 2) q' a8 i hi
          refine ⟨r.1, fun ne => ?_⟩
          rw [(r.2 ne).1, (r.2 ne).2, hrt_M p6, v1, v2]
      have hl := hl_M p6 hm 3 0 1000 0 (by omega) (by omega)
      rw [nI_0] at hl
      have c0 := hft_C (s := s) (act := act) n1 h6 p6 hk 0 (a := s 2 (6 * 0 + ix p) 1 ||| 1 <<< (act &&& 31)) (b := s 2 (6 * 0 + ix p) 2 &&& (1 <<< (act &&& 31) ^^^ -1)) rfl rfl rfl
      have c1 := hft_C (s := s) (act := act) n1 h6 p6 hk 1 (a := s 2 (6 * 0 + ix p) 1 &&& (1 <<< (act &&& 31) ^^^ -1)) (b := s 2 (6 * 0 + ix p) 2 ||| 1 <<< (act &&& 31)) rfl rfl rfl
      have c2 := hft_C (s := s) (act := act) n1 h6 p6 hk 2 (a := s 2 (6 * 0 + ix p) 1 &&& (1 <<< (act &&& 31) ^^^ -1)) (b := s 2 (6 * 0 + ix p) 2 &&& (1 <<< (act &&& 31) ^^^ -1)) rfl rfl rfl
      rw [if_pos b2f, Bool.not_false, if_neg b2t, if_pos p6, lt_e, lt_e, lt_e, hl, kf3]
      simp only [fel_C, bV_s, fel_fel, c0, bP_s, jn_e, c1, c2, lt_e, fel_id]
      cases hT s p act N 0 <;> cases hT s p act N 1 <;> cases hT s p act N 2 <;> simp only [b2t, b2f, if_true, if_false, Bool.false_eq_true] <;> exact op_same h rfl
/-! spite -/
def gnV (l k x y : Bool) : Int32 := if x then (if y then (if l then 2 else if k then -2 else 0) else -1) else if y then 1 else 0
theorem gn_C (s : Sto) (i : Nat) (act : Int32) (x y : Bool) : f_T_gain s i act (b2 x) (b2 y) = some (gnV (lAl (s 2 i 1) (s 2 i 2) act) (hAl (s 2 i 1) (s 2 i 2) act) x y) := by
  unfold f_T_gain gnV
  rw [jn_e, lik_C, hat_C, bP_s, bP_s]
  cases lAl (s 2 i 1) (s 2 i 2) act <;> cases hAl (s 2 i 1) (s 2 i 2) act <;> cases x <;> cases y <;> rfl
theorem gn_M {m : Sto} {p : Int32} (hp : inb p 6) (act : Int32) (x y : Bool) : f_m_gets m p act (b2 x) (b2 y) = some (gnV (lAl (m 20 0 (ix p)) (m 21 0 (ix p)) act) (hAl (m 20 0 (ix p)) (m 21 0 (ix p)) act) x y) := by
  unfold f_m_gets gnV
  rw [hrt_M hp, bP_s, jn_e]
  have hx := lh_no (m 20 0 (ix p)) (m 21 0 (ix p)) act
  revert hx
  unfold hrV
  cases lAl (m 20 0 (ix p)) (m 21 0 (ix p)) act <;> cases hAl (m 20 0 (ix p)) (m 21 0 (ix p)) act <;> cases x <;> cases y <;> intro hx <;> rfl
def rsV (l1 k1 l2 k2 : Bool) (a : Nat) : Bool := !decide (gnV l1 k1 (a == 1 || a == 3) (a == 2 || a == 3) < gnV l1 k1 (!(a == 1 || a == 3)) (a == 2 || a == 3)) && !decide (gnV l2 k2 (a == 2 || a == 3) (a == 1 || a == 3) < gnV l2 k2 (!(a == 2 || a == 3)) (a == 1 || a == 3))
theorem who4 : ∀ a, a < 4 → ((nI a &&& 1 = 0) ↔ (a == 1 || a == 3) = false) ∧ ((nI a &&& 2 = 0) ↔ (a == 2 || a == 3) = false) ∧ ((nI a - nI a / 2 * 2 = 1) ↔ (a == 1 || a == 3) = true) ∧ ((nI a ≤ 1) ↔ (a == 2 || a == 3) = false) := by decide +kernel
theorem b2_if0 {α : Type} (x : Bool) (f : Int32 → α) : (if x = false then f 0 else f 1) = f (b2 x) := by cases x <;> rfl
theorem b2_not {α : Type} (x : Bool) (f : Int32 → α) : (if b2 x = 0 then f 1 else f 0) = f (b2 (!x)) := by
  cases x with
  | false => rw [if_pos b2f, Bool.not_false, b2t1]
  | true => rw [if_neg b2t, Bool.not_true, b2f]
theorem sp_C {s : Sto} {act : Int32} : ∀ (r a fuel : Nat) (x : Int32), a + r = 4 → r < fuel → fx fuel (l_T_spite_81 s act) (fun _ _ => none) x (nI a) = some (kfN (rsV (lAl (s 2 (6 * 0 + ix (s 4 0 3)) 1) (s 2 (6 * 0 + ix (s 4 0 3)) 2) act) (hAl (s 2 (6 * 0 + ix (s 4 0 3)) 1) (s 2 (6 * 0 + ix (s 4 0 3)) 2) act) (lAl (s 2 (6 * 0 + ix (s 4 0 4)) 1) (s 2 (6 * 0 + ix (s 4 0 4)) 2) act) (hAl (s 2 (6 * 0 + ix (s 4 0 4)) 1) (s 2 (6 * 0 + ix (s 4 0 4)) 2) act)) r a x, s)
  | 0, a, fuel, x, h, hf => by
    obtain ⟨f, rfl⟩ : ∃ f, fuel = f + 1 := ⟨fuel - 1, by omega⟩
    rw [fx_s, l_T_spite_81, show a = 4 by omega, if_pos (by decide +kernel), kfN_0]
  | r + 1, a, fuel, x, h, hf => by
    obtain ⟨f, rfl⟩ : ∃ f, fuel = f + 1 := ⟨fuel - 1, by omega⟩
    have n3 : ¬ (3 : Int32) < nI a := by
      rw [show (3 : Int32) = nI 3 by decide +kernel, i_lt, nI_toInt (by omega), nI_toInt (by omega)]; omega
    have w := who4 a (by omega)
    rw [fx_s, l_T_spite_81, if_neg n3, kfN_s, ← sp_C r (a + 1) f _ (by omega) (by omega), nI_1]
    unfold rsV
    generalize fx f (l_T_spite_81 s act) (fun _ _ => none) = R
    simp only [jn_e, w.1, w.2.1, lt_e]
    generalize (a == 1 || a == 3) = u
    generalize (a == 2 || a == 3) = v
    have g1 := gn_C s (6 * 0 + ix (s 4 0 3)) act
    have g2 := gn_C s (6 * 0 + ix (s 4 0 4)) act
    generalize lAl (s 2 (6 * 0 + ix (s 4 0 3)) 1) (s 2 (6 * 0 + ix (s 4 0 3)) 2) act = l1 at g1 ⊢
    generalize hAl (s 2 (6 * 0 + ix (s 4 0 3)) 1) (s 2 (6 * 0 + ix (s 4 0 3)) 2) act = k1 at g1 ⊢
    generalize lAl (s 2 (6 * 0 + ix (s 4 0 4)) 1) (s 2 (6 * 0 + ix (s 4 0 4)) 2) act = l2 at g2 ⊢
    generalize hAl (s 2 (6 * 0 + ix (s 4 0 4)) 1) (s 2 (6 * 0 + ix (s 4 0 4)) 2) act = k2 at g2 ⊢
    have a00 := g1 false false
    have a01 := g1 false true
    have a10 := g1 true false
    have a11 := g1 true true
    have c00 := g2 false false
    have c01 := g2 false true
    have c10 := g2 true false
    have c11 := g2 true true
    rw [b2f] at a00 a01 a10 c00 c01 c10
    rw [b2t1] at a01 a10 a11 c01 c10 c11
    have z1 : ¬ (1 : Int32) = 0 := by decide +kernel
    cases u <;> cases v <;> simp only [if_true, if_false, z1, Bool.not_true, Bool.not_false, Bool.true_eq_false, a00, a01, a10, a11, c00, c01, c10, c11, bP_s]
    · by_cases q1 : gnV l1 k1 false false < gnV l1 k1 true false <;> by_cases q2 : gnV l2 k2 false false < gnV l2 k2 true false <;> simp [q1, q2]
    · by_cases q1 : gnV l1 k1 false true < gnV l1 k1 true true <;> by_cases q2 : gnV l2 k2 true false < gnV l2 k2 false false <;> simp [q1, q2]
    · by_cases q1 : gnV l1 k1 true false < gnV l1 k1 false false <;> by_cases q2 : gnV l2 k2 false true < gnV l2 k2 true true <;> simp [q1, q2]
    · by_cases q1 : gnV l1 k1 true true < gnV l1 k1 false true <;> by_cases q2 : gnV l2 k2 true true < gnV l2 k2 false true <;> simp [q1, q2]
