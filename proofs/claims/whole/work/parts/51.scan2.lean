/-! read: the scanners of class and reference -/
def BC (T : Nat → Int32) (n : Nat) (s : Sto) : Prop := s 5 0 1 = nI n ∧ ∀ j, j < n → s 16 0 j = T j
def BM (T : Nat → Int32) (n : Nat) (m : Sto) : Prop := m 17 0 18 = nI n ∧ ∀ j, j < n → m 28 0 j = T j
theorem BC.st {T : Nat → Int32} {n : Nat} {s : Sto} (h : BC T n s) {x : Nat} {v : Int32} (hx : 1 ≠ x) : BC T n (st s 5 0 x v) :=
  ⟨by rw [st_v, if_neg (fun z => hx z.2.2)]; exact h.1, fun j hj => by rw [st_k (by decide)]; exact h.2 j hj⟩
theorem BM.st {T : Nat → Int32} {n : Nat} {s : Sto} (h : BM T n s) {x : Nat} {v : Int32} (hx : 18 ≠ x) : BM T n (st s 17 0 x v) :=
  ⟨by rw [st_v, if_neg (fun z => hx z.2.2)]; exact h.1, fun j hj => by rw [st_k (by decide)]; exact h.2 j hj⟩
theorem st_self {s : Sto} {k i x : Nat} {v : Int32} (h : s k i x = v) : st s k i x v = s := by
  funext k' i' x'
  rw [st_v]
  by_cases q : k' = k ∧ i' = i ∧ x' = x
  · rw [if_pos q, q.1, q.2.1, q.2.2]; exact h.symm
  · rw [if_neg q]
theorem st_st (s : Sto) (k i x : Nat) (u v : Int32) : st (st s k i x u) k i x v = st s k i x v := by
  funext k' i' x'
  rw [st_v, st_v, st_v]
  by_cases q : k' = k ∧ i' = i ∧ x' = x
  · rw [if_pos q, if_pos q]
  · rw [if_neg q, if_neg q, if_neg q]
theorem st4 (s : Sto) (k i a b : Nat) (u v x y : Int32) : st (st (st (st s k i a u) k i b v) k i a x) k i b y = st (st s k i a x) k i b y := by
  funext k' i' x'
  rw [st_v, st_v, st_v, st_v, st_v, st_v]
  by_cases q : k' = k ∧ i' = i ∧ x' = b
  · simp only [if_pos q]
  · by_cases q2 : k' = k ∧ i' = i ∧ x' = a
    · simp only [if_neg q, if_pos q2]
    · simp only [if_neg q, if_neg q2]
def p4 (s : Sto) (a b c d : Int32) : Sto := st (st (st (st s 5 0 3 b) 5 0 2 a) 5 0 4 c) 5 0 5 d
theorem p4_k {s : Sto} {a b c d : Int32} {k : Nat} (h : k ≠ 5) : p4 s a b c d k = s k := by unfold p4; rw [st_k h, st_k h, st_k h, st_k h]
theorem p4_1 (s : Sto) (a b c d : Int32) : p4 s a b c d 5 0 1 = s 5 0 1 := by unfold p4; rw [st_v, if_neg (by omega), st_v, if_neg (by omega), st_v, if_neg (by omega), st_v, if_neg (by omega)]
theorem p4_2 (s : Sto) (a b c d : Int32) : p4 s a b c d 5 0 2 = a := by unfold p4; rw [st_v, if_neg (by omega), st_v, if_neg (by omega), st_v, if_pos ⟨rfl, rfl, rfl⟩]
theorem p4_3 (s : Sto) (a b c d : Int32) : p4 s a b c d 5 0 3 = b := by unfold p4; rw [st_v, if_neg (by omega), st_v, if_neg (by omega), st_v, if_neg (by omega), st_v, if_pos ⟨rfl, rfl, rfl⟩]
theorem p4_4 (s : Sto) (a b c d : Int32) : p4 s a b c d 5 0 4 = c := by unfold p4; rw [st_v, if_neg (by omega), st_v, if_pos ⟨rfl, rfl, rfl⟩]
theorem p4_5 (s : Sto) (a b c d : Int32) : p4 s a b c d 5 0 5 = d := by unfold p4; rw [st_v, if_pos ⟨rfl, rfl, rfl⟩]
theorem p4_s3 (s : Sto) (a b c d v : Int32) : st (p4 s a b c d) 5 0 3 v = p4 s a v c d := by
  funext k' i' x'
  unfold p4
  rw [st_v, st_v, st_v, st_v, st_v, st_v, st_v, st_v, st_v]
  by_cases q : k' = 5 ∧ i' = 0
  · obtain ⟨rfl, rfl⟩ := q
    by_cases h : x' = 3
    · subst h; simp
    · simp [h]
  · have nn : ∀ x, ¬ (k' = 5 ∧ i' = 0 ∧ x' = x) := fun x z => q ⟨z.1, z.2.1⟩
    simp only [if_neg (nn 2), if_neg (nn 3), if_neg (nn 4), if_neg (nn 5)]
theorem p4_s4 (s : Sto) (a b c d v : Int32) : st (p4 s a b c d) 5 0 4 v = p4 s a b v d := by
  funext k' i' x'
  unfold p4
  rw [st_v, st_v, st_v, st_v, st_v, st_v, st_v, st_v, st_v]
  by_cases q : k' = 5 ∧ i' = 0
  · obtain ⟨rfl, rfl⟩ := q
    by_cases h : x' = 4
    · subst h; simp
    · simp [h]
  · have nn : ∀ x, ¬ (k' = 5 ∧ i' = 0 ∧ x' = x) := fun x z => q ⟨z.1, z.2.1⟩
    simp only [if_neg (nn 2), if_neg (nn 3), if_neg (nn 4), if_neg (nn 5)]
theorem p4_s5 (s : Sto) (a b c d v : Int32) : st (p4 s a b c d) 5 0 5 v = p4 s a b c v := by
  unfold p4; rw [st_st]
theorem BC.p4 {T : Nat → Int32} {n : Nat} {s : Sto} (h : BC T n s) {a b c d : Int32} : BC T n (p4 s a b c d) := (((h.st (by decide)).st (by decide)).st (by decide)).st (by decide)
def so1 (c : Int32) : Int32 := if isL c = true then 1 else if isF c = true then 2 else if c = 59 then 3 else 4
theorem so_v (c a b d e r1 r2 r3 r4 : Int32) (Q : Prop) [Decidable Q] : (if c < a then (if c < d then (if Q then some r3 else some r4) else if e < c then (if Q then some r3 else some r4) else some r2) else if b < c then (if c < d then (if Q then some r3 else some r4) else if e < c then (if Q then some r3 else some r4) else some r2) else some r1) = some (if (!outB c a b) = true then r1 else if (!outB c d e) = true then r2 else if Q then r3 else r4) := by
  unfold outB
  by_cases h1 : c < a <;> by_cases h2 : b < c <;> by_cases h3 : c < d <;> by_cases h4 : e < c <;> by_cases h5 : Q <;> simp only [h1, h2, h3, h4, h5, if_true, if_false, decide_true, decide_false, Bool.or_true, Bool.or_false, Bool.true_or, Bool.false_or, Bool.not_true, Bool.not_false, Bool.false_eq_true]
theorem so_C {T : Nat → Int32} {n : Nat} (hn : n ≤ 150) {s : Sto} (hb : BC T n s) {p : Nat} (hp : p ≤ n) : f_Tx_sortAt s (nI p) = some (if p < n then so1 (T p) else 0) := by
  rw [f_Tx_sortAt, hb.1]
  by_cases h : p < n
  · rw [if_pos ((nI_ltI (by omega) (by omega)).mpr h), if_pos (inb_nI (by omega) (by omega)), ix_nI (by omega), lt_e, hb.2 p h, jn_e, jn_e, if_pos h]
    exact so_v _ _ _ _ _ _ _ _ _ _
  · rw [if_neg (fun z => by have := (nI_ltI (by omega) (by omega)).mp z; omega), if_neg h]
theorem so1_1 {c : Int32} : so1 c = 1 ↔ isL c = true := by
  unfold so1
  by_cases l : isL c = true
  · rw [if_pos l]; exact ⟨fun _ => l, fun _ => rfl⟩
  · rw [if_neg l]
    refine ⟨fun q => ?_, fun q => absurd q l⟩
    by_cases f : isF c = true
    · rw [if_pos f] at q; exact absurd q srt_l.2.2.2.2.2.2.2.2.2.2.2.1
    · rw [if_neg f] at q
      by_cases e : c = 59
      · rw [if_pos e] at q; exact absurd q srt_l.2.2.2.2.2.2.2.2.1
      · rw [if_neg e] at q; exact absurd q srt_l.2.2.2.2.2.1
theorem so1_2 {c : Int32} : so1 c = 2 ↔ isF c = true := by
  unfold so1
  by_cases l : isL c = true
  · rw [if_pos l]; exact ⟨fun q => absurd q srt_l.1, fun q => absurd q (isLF l)⟩
  · rw [if_neg l]
    by_cases f : isF c = true
    · rw [if_pos f]; exact ⟨fun _ => f, fun _ => rfl⟩
    · rw [if_neg f]
      refine ⟨fun q => ?_, fun q => absurd q f⟩
      by_cases e : c = 59
      · rw [if_pos e] at q; exact absurd q srt_l.2.2.2.2.2.2.2.1
      · rw [if_neg e] at q; exact absurd q srt_l.2.2.2.1
theorem a0_C {T : Nat → Int32} {n : Nat} (hn : n ≤ 150) : ∀ (r q fuel : Nat) (s : Sto), BC T n s → s 5 0 3 = nI q → q + r = n → r < fuel → ∀ K, fx fuel (l_Tx_advance_0 K) (fun _ => none) s = K (st s 5 0 3 (nI (skp T n q)))
  | 0, q, fuel, s, hb, h3, hq, hf, K => by
    obtain ⟨f, rfl⟩ : ∃ f, fuel = f + 1 := ⟨fuel - 1, by omega⟩
    rw [fx_s, l_Tx_advance_0, hb.1, h3, if_pos ((nI_leI (by omega) (by omega)).mpr (by omega)), skp_n (by omega), st_self h3]
  | r + 1, q, fuel, s, hb, h3, hq, hf, K => by
    obtain ⟨f, rfl⟩ : ∃ f, fuel = f + 1 := ⟨fuel - 1, by omega⟩
    rw [fx_s, l_Tx_advance_0, hb.1, h3, if_neg (fun z => by have := (nI_leI (by omega) (by omega)).mp z; omega), if_pos (inb_nI (by omega) (by omega)), ix_nI (by omega), hb.2 q (by omega)]
    by_cases e : T q = 32
    · have es : isS (T q) = true := decide_eq_true e
      rw [if_pos e, lt_e, nI_1, a0_C hn r (q + 1) f _ (hb.st (by decide)) (by rw [st_v, if_pos ⟨rfl, rfl, rfl⟩]) (by omega) (by omega) K, st_st, skp_s (by omega) es]
    · have es : ¬ isS (T q) = true := fun z => e (of_decide_eq_true z)
      rw [if_neg e, skp_f (by omega) es, st_self h3]
theorem a71_C {T : Nat → Int32} {n : Nat} (hn : n ≤ 150) : ∀ (r q fuel : Nat) (s : Sto), BC T n s → s 5 0 3 = nI q → q + r = n → r < fuel → fx fuel l_Tx_advance_71 (fun _ => none) s = some (st s 5 0 3 (nI (ed isL T n q)))
  | 0, q, fuel, s, hb, h3, hq, hf => by
    obtain ⟨f, rfl⟩ : ∃ f, fuel = f + 1 := ⟨fuel - 1, by omega⟩
    rw [fx_s, l_Tx_advance_71, hb.1, h3, if_pos ((nI_leI (by omega) (by omega)).mpr (by omega)), ed_n (by omega), st_self h3]
  | r + 1, q, fuel, s, hb, h3, hq, hf => by
    obtain ⟨f, rfl⟩ : ∃ f, fuel = f + 1 := ⟨fuel - 1, by omega⟩
    rw [fx_s, l_Tx_advance_71, hb.1, h3, if_neg (fun z => by have := (nI_leI (by omega) (by omega)).mp z; omega), so_C hn hb (by omega), if_pos (by omega), bP_s]
    by_cases e : isL (T q) = true
    · rw [if_pos (so1_1.mpr e), lt_e, nI_1, a71_C hn r (q + 1) f _ (hb.st (by decide)) (by rw [st_v, if_pos ⟨rfl, rfl, rfl⟩]) (by omega) (by omega), st_st, ed_s (by omega) e]
    · rw [if_neg (fun z => e (so1_1.mp z)), ed_f (by omega) e, st_self h3]
theorem a115_C {T : Nat → Int32} {n : Nat} (hn : n ≤ 150) : ∀ (r q fuel : Nat) (s : Sto) (v : Int32), BC T n s → s 5 0 3 = nI q → s 5 0 5 = v → q + r = n → r < fuel → ∀ K, fx fuel (l_Tx_advance_115 K) (fun _ => none) s = K (st (st s 5 0 5 (nv T (ed isF T n q - q) q v)) 5 0 3 (nI (ed isF T n q)))
  | 0, q, fuel, s, v, hb, h3, h5, hq, hf, K => by
    obtain ⟨f, rfl⟩ : ∃ f, fuel = f + 1 := ⟨fuel - 1, by omega⟩
    rw [fx_s, l_Tx_advance_115, hb.1, h3, if_pos ((nI_leI (by omega) (by omega)).mpr (by omega)), ed_n (by omega), Nat.sub_self, nv_0, st_self h5, st_self h3]
  | r + 1, q, fuel, s, v, hb, h3, h5, hq, hf, K => by
    obtain ⟨f, rfl⟩ : ∃ f, fuel = f + 1 := ⟨fuel - 1, by omega⟩
    rw [fx_s, l_Tx_advance_115, hb.1, h3, if_neg (fun z => by have := (nI_leI (by omega) (by omega)).mp z; omega), so_C hn hb (by omega), if_pos (by omega), bP_s]
    by_cases e : isF (T q) = true
    · have e3 : st s 5 0 5 (10 * v + T q - 48) 5 0 3 = nI q := by rw [st_v, if_neg (by omega)]; exact h3
      have l1 := ed_le (P := isF) (T := T) (n := n) (p := q + 1) (by omega)
      rw [if_pos (so1_2.mpr e), if_pos (inb_nI (by omega) (by omega)), ix_nI (by omega), hb.2 q (by omega), h5, lt_e, lt_e, e3, nI_1, a115_C hn r (q + 1) f _ (10 * v + T q - 48) ((hb.st (by decide)).st (by decide)) (by rw [st_v, if_pos ⟨rfl, rfl, rfl⟩]) (by rw [st_v, if_neg (by omega), st_v, if_pos ⟨rfl, rfl, rfl⟩]) (by omega) (by omega) K, st4, ed_s (by omega) e, show ed isF T n (q + 1) - q = (ed isF T n (q + 1) - (q + 1)) + 1 by omega, nv_s]
    · rw [if_neg (fun z => e (so1_2.mp z)), ed_f (by omega) e, Nat.sub_self, nv_0, st_self h5, st_self h3]
theorem c2n : (2 : Int32) = nI 2 := by decide +kernel
theorem adv_C {T : Nat → Int32} {n : Nat} (hn : n ≤ 150) {s : Sto} {q : Nat} (hb : BC T n s) (h3 : s 5 0 3 = nI q) (hq : q ≤ n) : f_Tx_advance s = some (p4 s (nI (skp T n q)) (nI (bh T n (skp T n q))) (srt T n (skp T n q)) (nmv T n (skp T n q))) := by
  have l1 := skp_le (T := T) (n := n) (p := q) hq
  rw [f_Tx_advance, jn_e, a0_C hn (n - q) q 1000 s hb h3 (by omega) (by omega)]
  have e3 : st s 5 0 3 (nI (skp T n q)) 5 0 3 = nI (skp T n q) := by rw [st_v, if_pos ⟨rfl, rfl, rfl⟩]
  have e2 : st (st s 5 0 3 (nI (skp T n q))) 5 0 2 (nI (skp T n q)) 5 0 2 = nI (skp T n q) := by rw [st_v, if_pos ⟨rfl, rfl, rfl⟩]
  rw [lt_e, e3, e2, so_C hn ((hb.st (by decide)).st (by decide)) l1.2, bP_s, lt_e, lt_e]
  generalize skp T n q = p at l1 ⊢
  have ep : ∀ c d, st (st (st (st s 5 0 3 (nI p)) 5 0 2 (nI p)) 5 0 4 c) 5 0 5 d = p4 s (nI p) (nI p) c d := fun _ _ => rfl
  rw [ep, p4_4]
  unfold srt bh nmv
  by_cases h : p < n
  · rw [if_pos h, if_pos h, if_pos h, if_pos h]
    by_cases l : isL (T p) = true
    · rw [so1_1.mpr l, if_pos rfl, if_pos l, if_pos l, if_pos l, a71_C hn (n - p) p 1000 _ hb.p4 (p4_3 _ _ _ _ _) (by omega) (by omega), p4_s3]
    · rw [if_neg (fun z => l (so1_1.mp z)), if_neg l, if_neg l, if_neg l]
      by_cases f : isF (T p) = true
      · have e := ed_le (P := isF) (T := T) (n := n) (p := p) (by omega)
        rw [so1_2.mpr f, if_pos rfl, if_pos f, if_pos f, if_pos f, jn_e, a115_C hn (n - p) p 1000 _ 0 hb.p4 (p4_3 _ _ _ _ _) (p4_5 _ _ _ _ _) (by omega) (by omega), p4_s5, p4_s3]
        rw [p4_3, p4_2, pk_sub e.1, lt_e, p4_s4]
        by_cases g : ed isF T n p ≤ p + 2
        · rw [if_pos g, if_pos (by rw [c2n]; exact (nI_leI (by omega) (by omega)).mpr (by omega))]
        · rw [if_neg g, if_neg (fun z => by rw [c2n] at z; have := (nI_leI (by omega) (by omega)).mp z; omega)]
      · rw [if_neg (fun z => f (so1_2.mp z)), if_neg f, if_neg f, if_neg f, lt_e, p4_3, nI_1, p4_s3]
        unfold so1
        rw [if_neg l, if_neg f]
        by_cases e : T p = 59
        · rw [if_pos e, if_neg srt_l.2.2.2.2.2.2.2.2.2.1]
        · rw [if_neg e, if_neg srt_l.2.2.2.2.2.2.1]
  · rw [if_neg h, if_neg h, if_neg h, if_neg h, if_neg srt_l.2.2.2.2.2.2.2.2.2.2.2.2.2.1, if_neg srt_l.2.2.2.2.2.2.2.2.2.2.2.2.2.2.1, if_pos rfl]
/-! the reference -/
theorem here_M {T : Nat → Int32} {n : Nat} (hn : n ≤ 150) {m : Sto} {q : Nat} (hb : BM T n m) (h : m 17 0 19 = nI q) (hq : q ≤ n) : f_m_here m = some (if q < n then T q else -1) := by
  rw [f_m_here, hb.1, h]
  by_cases g : q < n
  · rw [if_neg (fun z => by have := (nI_leI (by omega) (by omega)).mp z; omega), if_pos (inb_nI (by omega) (by omega)), ix_nI (by omega), hb.2 q g, if_pos g]
  · rw [if_pos ((nI_leI (by omega) (by omega)).mpr (by omega)), if_neg g]
theorem sk_M {T : Nat → Int32} {n : Nat} (hn : n ≤ 150) : ∀ (r q fuel : Nat) (m : Sto), BM T n m → m 17 0 19 = nI q → q + r = n → r < fuel → fx fuel l_m_skip_0 (fun _ => none) m = some (st m 17 0 19 (nI (skp T n q)))
  | 0, q, fuel, m, hb, h, hq, hf => by
    obtain ⟨f, rfl⟩ : ∃ f, fuel = f + 1 := ⟨fuel - 1, by omega⟩
    rw [fx_s, l_m_skip_0, here_M hn hb h (by omega), bP_s, if_neg (show ¬ q < n by omega), if_neg fig59.2.2.2.1, skp_n (by omega), st_self h]
  | r + 1, q, fuel, m, hb, h, hq, hf => by
    obtain ⟨f, rfl⟩ : ∃ f, fuel = f + 1 := ⟨fuel - 1, by omega⟩
    rw [fx_s, l_m_skip_0, here_M hn hb h (by omega), bP_s, if_pos (show q < n by omega)]
    by_cases e : T q = 32
    · have es : isS (T q) = true := decide_eq_true e
      rw [if_pos e, lt_e, h, nI_1, sk_M hn r (q + 1) f _ (hb.st (by decide)) (by rw [st_v, if_pos ⟨rfl, rfl, rfl⟩]) (by omega) (by omega), st_st, skp_s (by omega) es]
    · have es : ¬ isS (T q) = true := fun z => e (of_decide_eq_true z)
      rw [if_neg e, skp_f (by omega) es, st_self h]
theorem skip_M {T : Nat → Int32} {n : Nat} (hn : n ≤ 150) {m : Sto} {q : Nat} (hb : BM T n m) (h : m 17 0 19 = nI q) (hq : q ≤ n) : f_m_skip m = some (st m 17 0 19 (nI (skp T n q))) := by
  rw [f_m_skip, sk_M hn (n - q) q 1000 m hb h (by omega) (by omega)]
theorem let_M (c : Int32) : f_m_isLetter c = some (b2 (isL c)) := by
  rw [f_m_isLetter, in_M, bP_s, if_pos (b2_01 _)]; rfl
theorem fig_M (c : Int32) : f_m_isFigure c = some (b2 (isF c)) := by
  rw [f_m_isFigure, in_M, bP_s, if_pos (b2_01 _)]; rfl
theorem wsl_M {T : Nat → Int32} {n : Nat} (hn : n ≤ 150) {m : Sto} {q : Nat} (hb : BM T n m) (h : m 17 0 19 = nI q) : ∀ (r i fuel : Nat), q + i + r = n → r < fuel → fx fuel (l_m_wordSize_2 m) (fun _ => none) (nI i) = some (nI (ed isL T n (q + i) - q))
  | 0, i, fuel, hq, hf => by
    obtain ⟨f, rfl⟩ : ∃ f, fuel = f + 1 := ⟨fuel - 1, by omega⟩
    rw [fx_s, l_m_wordSize_2, hb.1, h, nI_add, if_pos ((nI_leI (by omega) (by omega)).mpr (by omega)), ed_n (by omega), Nat.add_sub_cancel_left]
  | r + 1, i, fuel, hq, hf => by
    obtain ⟨f, rfl⟩ : ∃ f, fuel = f + 1 := ⟨fuel - 1, by omega⟩
    rw [fx_s, l_m_wordSize_2, hb.1, h, nI_add, if_neg (fun z => by have := (nI_leI (by omega) (by omega)).mp z; omega), if_pos (inb_nI (by omega) (by omega)), ix_nI (by omega), hb.2 _ (by omega), let_M, bP_s]
    cases e : isL (T (q + i)) with
    | true => rw [if_neg b2t, nI_1, wsl_M hn hb h r (i + 1) f (by omega) (by omega), ed_s (by omega) e]; rfl
    | false => rw [if_pos b2f, ed_f (by omega) (by rw [e]; decide), Nat.add_sub_cancel_left]
theorem ws_M {T : Nat → Int32} {n : Nat} (hn : n ≤ 150) {m : Sto} {q : Nat} (hb : BM T n m) (h : m 17 0 19 = nI q) (hq : q ≤ n) : f_m_wordSize m = some (nI (ed isL T n q - q)) := by
  have := wsl_M hn hb h (n - q) 0 1000 (by omega) (by omega)
  rw [nI_0, Nat.add_zero] at this
  rw [f_m_wordSize, this]
theorem nm9_M {T : Nat → Int32} {n : Nat} (hn : n ≤ 150) {m : Sto} {q : Nat} (hb : BM T n m) (h : m 17 0 19 = nI q) : ∀ (r i fuel : Nat) (v : Int32), q + i + r = n → r < fuel → ∃ v', (∀ K, fx fuel (l_m_number_9 m K) (fun _ _ => none) (nI i) v = K (nI (ed isF T n (q + i) - q)) v') ∧ (ed isF T n (q + i) ≤ q + 2 → v' = nv T (ed isF T n (q + i) - (q + i)) (q + i) v)
  | 0, i, fuel, v, hq, hf => by
    obtain ⟨f, rfl⟩ : ∃ f, fuel = f + 1 := ⟨fuel - 1, by omega⟩
    refine ⟨v, fun K => ?_, fun _ => ?_⟩
    · rw [fx_s, l_m_number_9, hb.1, h, nI_add, if_pos ((nI_leI (by omega) (by omega)).mpr (by omega)), ed_n (by omega), Nat.add_sub_cancel_left]
    · rw [ed_n (by omega), Nat.sub_self, nv_0]
  | r + 1, i, fuel, v, hq, hf => by
    obtain ⟨f, rfl⟩ : ∃ f, fuel = f + 1 := ⟨fuel - 1, by omega⟩
    have nle : ¬ nI n ≤ nI (q + i) := fun z => by have := (nI_leI (by omega) (by omega)).mp z; omega
    have i150 := inb_nI (j := q + i) (n := 150) (by omega) (by omega)
    cases e : isF (T (q + i)) with
    | true =>
      have es := ed_s (P := isF) (T := T) (n := n) (p := q + i) (by omega) e
      have el := ed_le (P := isF) (T := T) (n := n) (p := q + i + 1) (by omega)
      by_cases h2 : 2 ≤ i
      · obtain ⟨v', k1, k2⟩ := nm9_M hn hb h r (i + 1) f v (by omega) (by omega)
        refine ⟨v', fun K => ?_, fun z => by rw [es] at z; omega⟩
        rw [fx_s, l_m_number_9, hb.1, h, nI_add, if_neg nle, if_pos i150, ix_nI (by omega), hb.2 _ (by omega), fig_M, bP_s, e, if_neg b2t, jn_e, if_pos (by rw [c2n]; exact (nI_leI (by omega) (by omega)).mpr h2), nI_1, es]
        exact k1 K
      · obtain ⟨v', k1, k2⟩ := nm9_M hn hb h r (i + 1) f (10 * v + T (q + i) - 48) (by omega) (by omega)
        refine ⟨v', fun K => ?_, fun z => ?_⟩
        · rw [fx_s, l_m_number_9, hb.1, h, nI_add, if_neg nle, if_pos i150, ix_nI (by omega), hb.2 _ (by omega), fig_M, bP_s, e, if_neg b2t, jn_e, if_neg (fun z => by rw [c2n] at z; have := (nI_leI (by omega) (by omega)).mp z; omega), if_pos i150, nI_1, es]
          exact k1 K
        · rw [es] at z ⊢
          rw [k2 z, show ed isF T n (q + i + 1) - (q + i) = (ed isF T n (q + i + 1) - (q + i + 1)) + 1 by omega, nv_s]
          rfl
    | false =>
      have ef := ed_f (P := isF) (T := T) (n := n) (p := q + i) (by omega) (by rw [e]; decide)
      refine ⟨v, fun K => ?_, fun _ => by rw [ef, Nat.sub_self, nv_0]⟩
      rw [fx_s, l_m_number_9, hb.1, h, nI_add, if_neg nle, if_pos i150, ix_nI (by omega), hb.2 _ (by omega), fig_M, bP_s, e, if_pos b2f, ef, Nat.add_sub_cancel_left]
