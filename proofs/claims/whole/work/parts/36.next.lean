/-! spite (reference), next -/
theorem sp_M {m : Sto} {act : Int32} (h1 : inb (m 17 0 5) 6) (h2 : inb (m 17 0 6) 6) : ∀ (r a fuel : Nat) (x : Int32), a + r = 4 → r < fuel → fx fuel (l_m_spite_28 m act) (fun _ _ => none) x (nI a) = some (kfN (rsV (lAl (m 20 0 (ix (m 17 0 5))) (m 21 0 (ix (m 17 0 5))) act) (hAl (m 20 0 (ix (m 17 0 5))) (m 21 0 (ix (m 17 0 5))) act) (lAl (m 20 0 (ix (m 17 0 6))) (m 21 0 (ix (m 17 0 6))) act) (hAl (m 20 0 (ix (m 17 0 6))) (m 21 0 (ix (m 17 0 6))) act)) r a x, m)
  | 0, a, fuel, x, h, hf => by
    obtain ⟨f, rfl⟩ : ∃ f, fuel = f + 1 := ⟨fuel - 1, by omega⟩
    rw [fx_s, l_m_spite_28, show a = 4 by omega, if_pos (by decide +kernel), kfN_0]
  | r + 1, a, fuel, x, h, hf => by
    obtain ⟨f, rfl⟩ : ∃ f, fuel = f + 1 := ⟨fuel - 1, by omega⟩
    have w := who4 a (by omega)
    rw [fx_s, l_m_spite_28, if_neg (by rw [show (4 : Int32) = nI 4 by decide +kernel]; exact nI_ge (by omega) (by omega)), kfN_s, ← sp_M h1 h2 r (a + 1) f _ (by omega) (by omega), nI_1]
    unfold rsV
    generalize fx f (l_m_spite_28 m act) (fun _ _ => none) = R
    simp only [jn_e, w.2.2.1, w.2.2.2, lt_e]
    generalize (a == 1 || a == 3) = u
    generalize (a == 2 || a == 3) = v
    have g1 := gn_M (m := m) h1 act
    have g2 := gn_M (m := m) h2 act
    generalize lAl (m 20 0 (ix (m 17 0 5))) (m 21 0 (ix (m 17 0 5))) act = l1 at g1 ⊢
    generalize hAl (m 20 0 (ix (m 17 0 5))) (m 21 0 (ix (m 17 0 5))) act = k1 at g1 ⊢
    generalize lAl (m 20 0 (ix (m 17 0 6))) (m 21 0 (ix (m 17 0 6))) act = l2 at g2 ⊢
    generalize hAl (m 20 0 (ix (m 17 0 6))) (m 21 0 (ix (m 17 0 6))) act = k2 at g2 ⊢
    have a00 := g1 false false
    have a01 := g1 false true
    have a10 := g1 true false
    have a11 := g1 true true
    have c00 := g2 false false
    have c01 := g2 false true
    have c10 := g2 true false
    have c11 := g2 true true
    rw [b2f] at a00 a01 a10 c00 c01 c10
    rw [b2t1] at a01 a10 a11 c01 c10 c11
    have z1 : ¬ (1 : Int32) = 0 := by decide +kernel
    cases u <;> cases v <;> simp only [if_true, if_false, z1, Bool.not_true, Bool.not_false, Bool.true_eq_false, Bool.false_eq_true, a00, a01, a10, a11, c00, c01, c10, c11, bP_s]
    · by_cases q1 : gnV l1 k1 false false < gnV l1 k1 true false <;> by_cases q2 : gnV l2 k2 false false < gnV l2 k2 true false <;> simp [q1, q2, or_z]
    · by_cases q1 : gnV l1 k1 false true < gnV l1 k1 true true <;> by_cases q2 : gnV l2 k2 true false < gnV l2 k2 false false <;> simp [q1, q2, or_z]
    · by_cases q1 : gnV l1 k1 true false < gnV l1 k1 false false <;> by_cases q2 : gnV l2 k2 false true < gnV l2 k2 true true <;> simp [q1, q2, or_z]
    · by_cases q1 : gnV l1 k1 true true < gnV l1 k1 false true <;> by_cases q2 : gnV l2 k2 true true < gnV l2 k2 false true <;> simp [q1, q2, or_z]
theorem op_spite {s m : Sto} {L : Lng} (h : RS s m L) (act : Int32) : OPI (f_T_spite s act) (f_m_spite m act) L := by
  obtain ⟨e1, w1, w1m, e4, e5, k1, k2, o1, o2⟩ := h.fx
  have om : okM (ix (s 1 0 5)) (gM m) := by rw [← e4]; exact o1
  unfold f_T_spite f_m_spite
  rw [out_C, act_M, h.pr, pr_m, e4, bP_s, bP_s, bP_s, bP_s]
  cases ha : outB act 0 7 with
  | true => rw [if_neg b2t, Bool.not_true, if_pos b2f, bad_C, bad_M]; exact op_bad h _
  | false =>
    rw [if_pos b2f, Bool.not_false, if_neg b2t]
    by_cases hp : mp (gM m) = -1
    · rw [decide_eq_true hp, Bool.not_true, if_pos b2f, if_pos b2f, no_C, no_M]; exact op_no h _
    · have q3 : s 4 0 3 = m 17 0 5 := congrArg mp e4
      have q4 : s 4 0 4 = m 17 0 6 := congrArg mq e4
      have i1 : inb (m 17 0 5) (ix (s 1 0 5)) := (om.two hp).1
      have i2 : inb (m 17 0 6) (ix (s 1 0 5)) := (om.two hp).2
      have p1 := inb_le i1 k1.1
      have p2 := inb_le i2 k1.1
      have hc := sp_C (s := s) (act := act) 4 0 1000 0 (by omega) (by omega)
      have hm := sp_M (act := act) p1 p2 4 0 1000 0 (by omega) (by omega)
      have v11 : s 2 (6 * 0 + ix (m 17 0 5)) 1 = m 20 0 (ix (m 17 0 5)) := e5 _ (inb_ix i1) 1 (by decide)
      have v12 : s 2 (6 * 0 + ix (m 17 0 5)) 2 = m 21 0 (ix (m 17 0 5)) := e5 _ (inb_ix i1) 2 (by decide)
      have v21 : s 2 (6 * 0 + ix (m 17 0 6)) 1 = m 20 0 (ix (m 17 0 6)) := e5 _ (inb_ix i2) 1 (by decide)
      have v22 : s 2 (6 * 0 + ix (m 17 0 6)) 2 = m 21 0 (ix (m 17 0 6)) := e5 _ (inb_ix i2) 2 (by decide)
      rw [nI_0, q3, q4, v11, v12, v21, v22] at hc
      rw [nI_0] at hm
      rw [decide_eq_false hp, Bool.not_false, if_neg b2t, if_neg b2t, q3, q4, if_pos p1, if_pos p2, hc, hm]
      exact op_same h rfl
/-! next -/
theorem kl_kC {s : Sto} {p act : Int32} (hp : inb p 6) {G : Nat → Bool} (hG : ∀ a, G a = lfE (eC s 0) p a act (s 4 0 0) (s 4 0 1)) : ∀ (r a fuel : Nat) (x : Int32), a + r = 6 → r < fuel → fx fuel (l_Co_kindsThatLift_5 s 0 p act) (fun _ _ => none) x (nI a) = some (kfN G r a x)
  | 0, a, fuel, x, h, hf => by
    obtain ⟨f, rfl⟩ : ∃ f, fuel = f + 1 := ⟨fuel - 1, by omega⟩
    rw [fx_s, l_Co_kindsThatLift_5, show a = 6 by omega, if_pos (by decide +kernel), kfN_0]
  | r + 1, a, fuel, x, h, hf => by
    obtain ⟨f, rfl⟩ : ∃ f, fuel = f + 1 := ⟨fuel - 1, by omega⟩
    rw [fx_s, l_Co_kindsThatLift_5, if_neg (by rw [c6]; exact nI_ge (by omega) (by omega)), lf_C hp (inb_nI (by omega) (by omega)), ix_nI (by omega), ← hG a, bP_s, jn_e, kfN_s, ← kl_kC hp hG r (a + 1) f _ (by omega) (by omega), nI_1]
    cases G a with
    | false => rw [if_pos b2f, if_neg Bool.false_ne_true]
    | true => rw [if_neg b2t, if_pos rfl, lt_e]
def n1 (b : Bool) : Nat := if b then 1 else 0
def k6 (F : Nat → Bool) : Nat := n1 (F 0) + n1 (F 1) + n1 (F 2) + n1 (F 3) + n1 (F 4) + n1 (F 5)
def kb (a b c d e f : Bool) : Int32 := kfN (fun i => if i = 0 then a else if i = 1 then b else if i = 2 then c else if i = 3 then d else if i = 4 then e else f) 6 0 0
theorem kb_pop : ∀ a b c d e f : Bool, popc (kb a b c d e f) = nI (n1 a + n1 b + n1 c + n1 d + n1 e + n1 f) := by decide +kernel
theorem kb_bit : ∀ a b c d e f : Bool, ∀ i, i < 6 → BB (kb a b c d e f) (nI i) = (if i = 0 then a else if i = 1 then b else if i = 2 then c else if i = 3 then d else if i = 4 then e else f) := by decide +kernel
theorem kf_kb (F : Nat → Bool) : kfN F 6 0 0 = kb (F 0) (F 1) (F 2) (F 3) (F 4) (F 5) := kfN_c (N := 6) (fun a ha => by rcases six ha with rfl | rfl | rfl | rfl | rfl | rfl <;> rfl) 6 0 0 (by omega)
theorem kf_pop (F : Nat → Bool) : popc (kfN F 6 0 0) = nI (k6 F) := by rw [kf_kb, kb_pop]; rfl
theorem kf_bit (F : Nat → Bool) {i : Nat} (hi : i < 6) : BB (kfN F 6 0 0) (nI i) = F i := by
  rw [kf_kb, kb_bit _ _ _ _ _ _ i hi]
  rcases six hi with rfl | rfl | rfl | rfl | rfl | rfl <;> rfl
theorem kfN_bt (F : Nat → Bool) : ∀ (r a : Nat) (x : Int32) (i : Nat), i < 32 → a + r ≤ 32 → bt (kfN F r a x) i = (bt x i || (decide (a ≤ i) && decide (i < a + r) && F i))
  | 0, a, x, i, hi, h => by
    rw [kfN_0]
    by_cases h1 : a ≤ i
    · rw [decide_eq_false (show ¬ i < a + 0 by omega), Bool.and_false, Bool.false_and, Bool.or_false]
    · rw [decide_eq_false h1, Bool.false_and, Bool.false_and, Bool.or_false]
  | r + 1, a, x, i, hi, h => by
    rw [kfN_s, kfN_bt F r (a + 1) _ i hi (by omega)]
    have hb : bt (if F a = true then x ||| (1 <<< (nI a &&& 31)) else x) i = (bt x i || (decide (i = a) && F a)) := by
      cases F a with
      | false => rw [if_neg Bool.false_ne_true, Bool.and_false, Bool.or_false]
      | true =>
        have e : bix (nI a) = a := (by decide +kernel : ∀ a, a < 32 → bix (nI a) = a) a (by omega)
        rw [if_pos rfl, b_or, bt_sh _ hi, e, Bool.and_true]
    rw [hb]
    by_cases e : i = a
    · subst e
      rw [decide_eq_true (rfl : i = i), decide_eq_false (show ¬ i + 1 ≤ i by omega), decide_eq_true (show i ≤ i by omega), decide_eq_true (show i < i + (r + 1) by omega)]
      simp
    · rw [decide_eq_false e]
      by_cases h1 : a ≤ i
      · rw [decide_eq_true h1, decide_eq_true (show a + 1 ≤ i by omega), show a + 1 + r = a + (r + 1) by omega]
        simp
      · rw [decide_eq_false h1, decide_eq_false (show ¬ a + 1 ≤ i by omega)]
        simp
theorem kf_and (F G : Nat → Bool) : kfN F 6 0 0 &&& kfN G 6 0 0 = kfN (fun a => F a && G a) 6 0 0 := by
  apply b_ext
  intro i hi
  rw [b_and, kfN_bt F 6 0 0 i hi (by omega), kfN_bt G 6 0 0 i hi (by omega), kfN_bt _ 6 0 0 i hi (by omega), b_0]
  by_cases h : i < 6
  · simp [h]
  · simp [h]
theorem n1_split (f g : Bool) : n1 f = n1 (f && g) + n1 (f && !g) := by cases f <;> cases g <;> rfl
theorem k6_split (F G : Nat → Bool) : k6 F = k6 (fun a => F a && G a) + k6 (fun a => F a && !G a) := by
  unfold k6
  dsimp only
  have q0 := n1_split (F 0) (G 0)
  have q1 := n1_split (F 1) (G 1)
  have q2 := n1_split (F 2) (G 2)
  have q3 := n1_split (F 3) (G 3)
  have q4 := n1_split (F 4) (G 4)
  have q5 := n1_split (F 5) (G 5)
  omega
theorem n1_le (b : Bool) : n1 b ≤ 1 := by cases b <;> decide
theorem k6_le (F : Nat → Bool) : k6 F ≤ 6 := by
  have := n1_le (F 0)
  have := n1_le (F 1)
  have := n1_le (F 2)
  have := n1_le (F 3)
  have := n1_le (F 4)
  have := n1_le (F 5)
  unfold k6; omega
/-- the greater part -/
def gpN (F G : Nat → Bool) : Nat := if k6 (fun a => F a && G a) ≤ k6 (fun a => F a && !G a) then k6 (fun a => F a && !G a) else k6 (fun a => F a && G a)
theorem gpN_le (F G : Nat → Bool) : gpN F G ≤ 6 := by
  unfold gpN
  have := k6_le (fun a => F a && G a)
  have := k6_le (fun a => F a && !G a)
  by_cases h : k6 (fun a => F a && G a) ≤ k6 (fun a => F a && !G a)
  · rw [if_pos h]; omega
  · rw [if_neg h]; omega
theorem gp_C (F G : Nat → Bool) : imx (popc (kfN F 6 0 0 &&& kfN G 6 0 0)) (popc (kfN F 6 0 0) - popc (kfN F 6 0 0 &&& kfN G 6 0 0)) = nI (gpN F G) := by
  have a := k6_le (fun a => F a && G a)
  have b := k6_le (fun a => F a && !G a)
  have e : nI (k6 F) - nI (k6 (fun a => F a && G a)) = nI (k6 (fun a => F a && !G a)) := by
    rw [k6_split F G]
    generalize k6 (fun a => F a && G a) = x at a ⊢
    generalize k6 (fun a => F a && !G a) = y at b ⊢
    rw [i_eq, i_sub (by rw [nI_toInt (by omega), nI_toInt (by omega)]; omega) (by rw [nI_toInt (by omega), nI_toInt (by omega)]; omega), nI_toInt (by omega), nI_toInt (by omega), nI_toInt (by omega)]
    omega
  rw [kf_and, kf_pop, kf_pop, e]
  unfold imx gpN
  generalize k6 (fun a => F a && G a) = x at a ⊢
  generalize k6 (fun a => F a && !G a) = y at b ⊢
  by_cases h : x ≤ y
  · rw [if_pos h]
    by_cases h2 : nI x < nI y
    · rw [if_pos h2]
    · rw [if_neg h2]
      rw [i_lt, nI_toInt (by omega), nI_toInt (by omega)] at h2
      rw [show x = y by omega]
  · rw [if_neg h, if_neg (fun z => by rw [i_lt, nI_toInt (by omega), nI_toInt (by omega)] at z; omega)]
/-- the reference counts kind by kind -/
theorem gl_M {m : Sto} {p act : Int32} (hp : inb p 6) {F G : Nat → Bool} (hG : ∀ a, a < 6 → f_m_liftsBy (nI a) (hrV (lAl (m 20 0 (ix p)) (m 21 0 (ix p)) act) (hAl (m 20 0 (ix p)) (m 21 0 (ix p)) act)) (m 17 0 2) (m 17 0 3) = some (b2 (G a))) (K : Int32 → Int32 → Option Int32) (x y a f : Nat) (ha : a < 6) (hx : x ≤ 6) (hy : y ≤ 6) : fx (f + 1) (l_m_greaterPart_9 m p act (kfN F 6 0 0) K) (fun _ _ _ => none) (nI x) (nI y) (nI a) = fx f (l_m_greaterPart_9 m p act (kfN F 6 0 0) K) (fun _ _ _ => none) (nI (x + n1 (F a && G a))) (nI (y + n1 (F a && !G a))) (nI (a + 1)) := by
  have n5 : ¬ (5 : Int32) < nI a := by
    rw [c5, i_lt, nI_toInt (by omega), nI_toInt (by omega)]; omega
  rw [fx_s, l_m_greaterPart_9, if_neg n5, has_M, bP_s, jn_e, kf_bit F ha, hrt_M hp, bP_s, hG a ha, bP_s, jn_e, nI_1]
  have e0 : ∀ z : Nat, nI z + 0 = nI z := fun z => Int32.add_zero _
  have e1 : ∀ z : Nat, nI z + 1 = nI (z + 1) := fun z => nI_1 z
  cases F a with
  | false => rw [if_pos b2f]; rfl
  | true =>
    rw [if_neg b2t]
    cases G a with
    | false =>
      rw [if_pos b2f]
      dsimp only
      rw [lt_e, jn_e, if_pos b2f]
      dsimp only
      rw [lt_e, e0, e1]
      rfl
    | true =>
      rw [if_neg b2t]
      dsimp only
      rw [lt_e, jn_e, if_neg b2t]
      dsimp only
      rw [lt_e, e0, e1]
      rfl
theorem gp_M {m : Sto} {p act : Int32} (hp : inb p 6) {F G : Nat → Bool} (hG : ∀ a, a < 6 → f_m_liftsBy (nI a) (hrV (lAl (m 20 0 (ix p)) (m 21 0 (ix p)) act) (hAl (m 20 0 (ix p)) (m 21 0 (ix p)) act)) (m 17 0 2) (m 17 0 3) = some (b2 (G a))) : f_m_greaterPart m p act (kfN F 6 0 0) = some (nI (gpN F G)) := by
  rw [f_m_greaterPart, jn_e]
  have l1 := fun a => n1_le (F a && G a)
  have l2 := fun a => n1_le (F a && !G a)
  have s := fun K x y a f ha hx hy => gl_M (m := m) (act := act) hp (F := F) hG K x y a f ha hx hy
  have e0 : (0 : Int32) = nI 0 := nI_0.symm
  have a0 := l1 0
  have a1 := l1 1
  have a2 := l1 2
  have a3 := l1 3
  have a4 := l1 4
  have a5 := l1 5
  have c0 := l2 0
  have c1 := l2 1
  have c2 := l2 2
  have c3 := l2 3
  have c4 := l2 4
  have c5' := l2 5
  generalize kfN F 6 0 0 = kk at s ⊢
  rw [e0, show (1000 : Nat) = 999 + 1 from rfl, s _ 0 0 0 999 (by omega) (by omega) (by omega)]
  rw [show (999 : Nat) = 998 + 1 from rfl, s _ _ _ 1 998 (by omega) (by omega) (by omega)]
  rw [show (998 : Nat) = 997 + 1 from rfl, s _ _ _ 2 997 (by omega) (by omega) (by omega)]
  rw [show (997 : Nat) = 996 + 1 from rfl, s _ _ _ 3 996 (by omega) (by omega) (by omega)]
  rw [show (996 : Nat) = 995 + 1 from rfl, s _ _ _ 4 995 (by omega) (by omega) (by omega)]
  rw [show (995 : Nat) = 994 + 1 from rfl, s _ _ _ 5 994 (by omega) (by omega) (by omega)]
  rw [show (994 : Nat) = 993 + 1 from rfl, fx_s, l_m_greaterPart_9, if_pos (by decide +kernel)]
  have k1 : 0 + n1 (F 0 && G 0) + n1 (F 1 && G 1) + n1 (F 2 && G 2) + n1 (F 3 && G 3) + n1 (F 4 && G 4) + n1 (F 5 && G 5) = k6 (fun a => F a && G a) := by unfold k6; dsimp only; omega
  have k2 : 0 + n1 (F 0 && !G 0) + n1 (F 1 && !G 1) + n1 (F 2 && !G 2) + n1 (F 3 && !G 3) + n1 (F 4 && !G 4) + n1 (F 5 && !G 5) = k6 (fun a => F a && !G a) := by unfold k6; dsimp only; omega
  rw [k1, k2]
  unfold gpN
  have a := k6_le (fun a => F a && G a)
  have b := k6_le (fun a => F a && !G a)
  generalize k6 (fun a => F a && G a) = x at a ⊢
  generalize k6 (fun a => F a && !G a) = y at b ⊢
  by_cases h : x ≤ y
  · rw [if_pos h, if_pos (show nI x ≤ nI y by rw [i_le, nI_toInt (by omega), nI_toInt (by omega)]; omega)]
  · rw [if_neg h, if_neg (show ¬ nI x ≤ nI y by rw [i_le, nI_toInt (by omega), nI_toInt (by omega)]; omega)]
/-- the act with the least greater part -/
def nxN (g : Nat → Nat) : Nat → Nat → Nat → Nat
  | 0, _, b => b
  | r + 1, a, b => nxN g r (a + 1) (if g b ≤ g a then b else a)
theorem nxN_0 (g : Nat → Nat) (a b : Nat) : nxN g 0 a b = b := rfl
theorem nxN_s (g : Nat → Nat) (r a b : Nat) : nxN g (r + 1) a b = nxN g r (a + 1) (if g b ≤ g a then b else a) := rfl
theorem nx_C {s : Sto} {p kk al : Int32} {g : Nat → Nat} (hg : ∀ a, a < 8 → g a ≤ 6 ∧ ∃ r8, f_Co_kindsThatLift s 0 p (nI a) = some r8 ∧ imx (popc (kk &&& r8)) (al - popc (kk &&& r8)) = nI (g a)) : ∀ (r a fuel b : Nat), a + r = 8 → r < fuel → b < 8 → fx fuel (l_T_next_43 s p kk al) (fun _ _ _ => none) (nI b) (nI (g b)) (nI a) = some (nI (nxN g r a b), s)
  | 0, a, fuel, b, h, hf, hb => by
    obtain ⟨f, rfl⟩ : ∃ f, fuel = f + 1 := ⟨fuel - 1, by omega⟩
    rw [fx_s, l_T_next_43, show a = 8 by omega, if_pos (by decide +kernel), nxN_0]
  | r + 1, a, fuel, b, h, hf, hb => by
    obtain ⟨f, rfl⟩ : ∃ f, fuel = f + 1 := ⟨fuel - 1, by omega⟩
    obtain ⟨g6, r8, h1, h2⟩ := hg a (by omega)
    have g6b := (hg b hb).1
    rw [fx_s, l_T_next_43, if_neg (by rw [c8]; exact nI_ge (by omega) (by omega)), h1, bP_s, popc_J, bP_s, h2, lt_e, jn_e, nxN_s, nI_1]
    by_cases hq : g b ≤ g a
    · rw [if_pos hq, if_pos (show nI (g b) ≤ nI (g a) by rw [i_le, nI_toInt (by omega), nI_toInt (by omega)]; omega)]
      exact nx_C hg r (a + 1) f b (by omega) (by omega) hb
    · rw [if_neg hq, if_neg (show ¬ nI (g b) ≤ nI (g a) by rw [i_le, nI_toInt (by omega), nI_toInt (by omega)]; omega)]
      exact nx_C hg r (a + 1) f a (by omega) (by omega) (by omega)
theorem nx_M {m : Sto} {p kk : Int32} (hk : ¬ kk = 0) {g : Nat → Nat} (hg : ∀ a, a < 8 → g a ≤ 6 ∧ f_m_greaterPart m p (nI a) kk = some (nI (g a))) : ∀ (r a fuel b : Nat), a + r = 8 → r < fuel → b < 8 → fx fuel (l_m_next_32 m p kk) (fun _ _ => none) (nI b) (nI a) = some (nI (nxN g r a b), m)
  | 0, a, fuel, b, h, hf, hb => by
    obtain ⟨f, rfl⟩ : ∃ f, fuel = f + 1 := ⟨fuel - 1, by omega⟩
    rw [fx_s, l_m_next_32, show a = 8 by omega, if_pos (by decide +kernel), nxN_0]
  | r + 1, a, fuel, b, h, hf, hb => by
    obtain ⟨f, rfl⟩ : ∃ f, fuel = f + 1 := ⟨fuel - 1, by omega⟩
    obtain ⟨g6, h1⟩ := hg a (by omega)
    obtain ⟨g6b, h2⟩ := hg b hb
    rw [fx_s, l_m_next_32, if_neg (by rw [c8]; exact nI_ge (by omega) (by omega)), if_neg hk, h1, bP_s, h2, bP_s, jn_e, nxN_s, nI_1]
    by_cases hq : g b ≤ g a
    · rw [if_pos hq, if_pos (show nI (g b) ≤ nI (g a) by rw [i_le, nI_toInt (by omega), nI_toInt (by omega)]; omega)]
      exact nx_M hk hg r (a + 1) f b (by omega) (by omega) hb
    · rw [if_neg hq, if_neg (show ¬ nI (g b) ≤ nI (g a) by rw [i_le, nI_toInt (by omega), nI_toInt (by omega)]; omega)]
      exact nx_M hk hg r (a + 1) f a (by omega) (by omega) (by omega)
theorem op_next {s m : Sto} {L : Lng} (h : RS s m L) (p : Int32) : OPI (f_T_next s p) (f_m_next m p) L := by
  obtain ⟨e1, w1, w1m, e4, e5, k1, k2, o1, o2⟩ := h.fx
  unfold f_T_next f_m_next
  rw [has_C, isH_M w1m, bP_s, bP_s, e1]
  cases hp : hasB p (m 17 0 1) with
  | false => rw [if_pos b2f, if_pos b2f, bad_C, bad_M]; exact op_bad h _
  | true =>
    have ip := hasB_t hp
    rw [← e1] at ip
    have p6 := inb_le ip k1.1
    obtain ⟨F, hF1, hF2⟩ := kds h ip
    rw [if_neg b2t, if_neg b2t, hF1, hF2, bP_s, bP_s, jn_e, popc_J, bP_s]
    by_cases hz : kfN F 6 0 0 = 0
    · rw [if_pos hz, if_pos hz]
      dsimp only
      rw [show (1000 : Nat) = 999 + 1 from rfl, fx_s, l_m_next_32, if_neg (by decide +kernel), if_pos hz]
      exact op_same h rfl
    · have v1 : s 2 (6 * 0 + ix p) 1 = m 20 0 (ix p) := e5 (ix p) (inb_ix ip) 1 (by decide)
      have v2 : s 2 (6 * 0 + ix p) 2 = m 21 0 (ix p) := e5 (ix p) (inb_ix ip) 2 (by decide)
      have q0 : s 4 0 0 = m 17 0 2 := congrArg mw e4
      have q1 : s 4 0 1 = m 17 0 3 := congrArg md e4
      have hG : ∀ act a, lfE (eC s 0) p a act (s 4 0 0) (s 4 0 1) = lfV a (lAl (m 20 0 (ix p)) (m 21 0 (ix p)) act) (hAl (m 20 0 (ix p)) (m 21 0 (ix p)) act) (m 17 0 2) (m 17 0 3) := fun act a => by
        rw [← v1, ← v2, ← q0, ← q1]
        rfl
      have hc : ∀ act, f_Co_kindsThatLift s 0 p act = some (kfN (fun a => lfE (eC s 0) p a act (s 4 0 0) (s 4 0 1)) 6 0 0) := fun act => by
        have := kl_kC (s := s) (p := p) (act := act) p6 (G := fun a => lfE (eC s 0) p a act (s 4 0 0) (s 4 0 1)) (fun _ => rfl) 6 0 1000 0 (by omega) (by omega)
        rw [nI_0] at this
        rw [f_Co_kindsThatLift]
        exact this
      have hm : ∀ act, f_m_greaterPart m p act (kfN F 6 0 0) = some (nI (gpN F (fun a => lfE (eC s 0) p a act (s 4 0 0) (s 4 0 1)))) := fun act =>
        gp_M p6 (fun a ha => by rw [hG act a]; exact lby_M ha _ _ (lh_no _ _ _) _ _)
      have C := nx_C (s := s) (p := p) (kk := kfN F 6 0 0) (al := popc (kfN F 6 0 0)) (g := fun a => gpN F (fun j => lfE (eC s 0) p j (nI a) (s 4 0 0) (s 4 0 1))) (fun a ha => ⟨gpN_le _ _, _, hc (nI a), gp_C F _⟩)
      have M := nx_M (m := m) (p := p) hz (g := fun a => gpN F (fun j => lfE (eC s 0) p j (nI a) (s 4 0 0) (s 4 0 1))) (fun a ha => ⟨gpN_le _ _, hm (nI a)⟩)
      have c1 := C 7 1 999 0 (by omega) (by omega) (by omega)
      have m1 := M 7 1 1000 0 (by omega) (by omega) (by omega)
      rw [nI_0, show nI 1 = 1 by decide +kernel] at m1
      have g0 : ¬ (7 : Int32) ≤ nI (gpN F (fun j => lfE (eC s 0) p j (nI 0) (s 4 0 0) (s 4 0 1))) := by
        have := gpN_le F (fun j => lfE (eC s 0) p j (nI 0) (s 4 0 0) (s 4 0 1))
        rw [show (7 : Int32) = nI 7 by decide +kernel, i_le, nI_toInt (by omega), nI_toInt (by omega)]; omega
      have hc0 := hc (nI 0)
      have gc0 := gp_C F (fun a => lfE (eC s 0) p a (nI 0) (s 4 0 0) (s 4 0 1))
      rw [if_neg hz, if_neg hz]
      dsimp only
      generalize kfN F 6 0 0 = kk at hz gc0 c1 m1 ⊢
      rw [m1, ← nI_0, show (1000 : Nat) = 999 + 1 from rfl, fx_s, l_T_next_43, if_neg (by decide +kernel), hc0, bP_s, popc_J, bP_s, gc0, lt_e, jn_e, if_neg g0]
      rw [show nI 0 + 1 = nI 1 from nI_1 0]
      exact ⟨_, _, _, c1, rfl, h⟩
