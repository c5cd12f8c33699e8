/-! read: words, numbers, endings on both sides -/
def FC (s s' : Sto) : Prop := (∀ k i, ¬ (k = 5 ∧ i = 0) → s' k i = s k i) ∧ s' 5 0 1 = s 5 0 1
def FM (m m' : Sto) : Prop := (∀ k, k ≠ 17 → m' k = m k) ∧ ∀ x, x ≠ 19 → x ≠ 25 → m' 17 0 x = m 17 0 x
theorem FC.rf (s : Sto) : FC s s := ⟨fun _ _ _ => rfl, rfl⟩
theorem FC.tr {a b c : Sto} (h : FC a b) (g : FC b c) : FC a c := ⟨fun k i n => (g.1 k i n).trans (h.1 k i n), g.2.trans h.2⟩
theorem FM.rf (m : Sto) : FM m m := ⟨fun _ _ => rfl, fun _ _ _ => rfl⟩
theorem FM.tr {a b c : Sto} (h : FM a b) (g : FM b c) : FM a c := ⟨fun k n => (g.1 k n).trans (h.1 k n), fun x n n2 => (g.2 x n n2).trans (h.2 x n n2)⟩
theorem FM.s19 (m : Sto) (v : Int32) : FM m (st m 17 0 19 v) := ⟨fun k hk => by rw [st_k hk], fun x h1 h2 => by rw [st_v, if_neg (fun z => h1 z.2.2)]⟩
theorem FM.s25 (m : Sto) (v : Int32) : FM m (st m 17 0 25 v) := ⟨fun k hk => by rw [st_k hk], fun x h1 h2 => by rw [st_v, if_neg (fun z => h2 z.2.2)]⟩
theorem p4_FC (s : Sto) (a b c d : Int32) : FC s (p4 s a b c d) := by
  refine ⟨fun k i h => ?_, p4_1 s a b c d⟩
  by_cases e : k = 5
  · have hi : i ≠ 0 := fun z => h ⟨e, z⟩
    unfold p4
    rw [st_i hi, st_i hi, st_i hi, st_i hi]
  · rw [p4_k e]
theorem FC.k {s s' : Sto} (h : FC s s') {k : Nat} (hk : k ≠ 5) : s' k = s k := by
  funext i; exact h.1 k i (fun z => hk z.1)
theorem FC.b {T : Nat → Int32} {n : Nat} {s s' : Sto} (h : FC s s') (hb : BC T n s) : BC T n s' := ⟨by rw [h.2]; exact hb.1, fun j hj => by rw [h.k (by decide)]; exact hb.2 j hj⟩
theorem FM.b {T : Nat → Int32} {n : Nat} {s s' : Sto} (h : FM s s') (hb : BM T n s) : BM T n s' := ⟨by rw [h.2 18 (by decide) (by decide)]; exact hb.1, fun j hj => by rw [h.1 28 (by decide)]; exact hb.2 j hj⟩
/-- the token looked at is the one at p -/
def TK (T : Nat → Int32) (n p : Nat) (s : Sto) : Prop := s 5 0 2 = nI p ∧ s 5 0 3 = nI (bh T n p) ∧ s 5 0 4 = srt T n p ∧ s 5 0 5 = nmv T n p
theorem TK.k {T : Nat → Int32} {n p : Nat} {s s' : Sto} (h : TK T n p s) (q : s' 5 = s 5) : TK T n p s' := by unfold TK; rw [q]; exact h
theorem bh_le {T : Nat → Int32} {n p : Nat} (h : p ≤ n) : p ≤ bh T n p ∧ bh T n p ≤ n := by
  rcases Nat.lt_or_ge p n with q | q
  · have := bh_lt (T := T) q; omega
  · unfold bh; rw [if_neg (by omega)]; omega
theorem adv_q {T : Nat → Int32} {n q : Nat} (hn : n ≤ 150) {s : Sto} (hb : BC T n s) (h3 : s 5 0 3 = nI q) (hq : q ≤ n) : ∃ s', f_Tx_advance s = some s' ∧ FC s s' ∧ TK T n (skp T n q) s' :=
  ⟨_, adv_C hn hb h3 hq, p4_FC _ _ _ _ _, p4_2 _ _ _ _ _, p4_3 _ _ _ _ _, p4_4 _ _ _ _ _, p4_5 _ _ _ _ _⟩
theorem adv_T {T : Nat → Int32} {n p : Nat} (hn : n ≤ 150) {s : Sto} (hb : BC T n s) (tk : TK T n p s) (hp : p ≤ n) : ∃ s', f_Tx_advance s = some s' ∧ FC s s' ∧ TK T n (skp T n (bh T n p)) s' := adv_q hn hb tk.2.1 (bh_le hp).2
theorem outB_n {a b c : Nat} (ha : a < 2 ^ 31) (hb : b < 2 ^ 31) (hc : c < 2 ^ 31) : outB (nI a) (nI b) (nI c) = (decide (a < b) || decide (c < a)) := by
  unfold outB
  rw [decide_eq_decide.mpr (nI_ltI ha hb), decide_eq_decide.mpr (nI_ltI hc ha)]
theorem c1n : (1 : Int32) = nI 1 := by decide +kernel
theorem num_sim {T : Nat → Int32} {n p q : Nat} (hn : n ≤ 150) {s m : Sto} (hi x2 : Int32) (hb : BC T n s) (tk : TK T n p s) (bm : BM T n m) (h19 : m 17 0 19 = nI q) (hq : q ≤ n) (hp : skp T n q = p) :
    (∃ k m', k ≤ 99 ∧ nI k ≤ hi ∧ p < n ∧ f_m_number m 0 hi = some (1, m') ∧ FM m m' ∧ m' 17 0 25 = nI k ∧ m' 17 0 19 = nI (bh T n p) ∧ (nI k = x2 → f_Tx_takeNumber s hi x2 = some (-1, s)) ∧ (¬ nI k = x2 → ∃ s', f_Tx_takeNumber s hi x2 = some (nI k, s') ∧ FC s s' ∧ TK T n (skp T n (bh T n p)) s')) ∨ (∃ m', f_m_number m 0 hi = some (0, m') ∧ FM m m' ∧ m' 17 0 19 = nI p ∧ f_Tx_takeNumber s hi x2 = some (-1, s)) := by
  have hpn : p ≤ n := by rw [← hp]; exact (skp_le hq).2
  have e19 : st m 17 0 19 (nI p) 17 0 19 = nI p := by rw [st_v, if_pos ⟨rfl, rfl, rfl⟩]
  have bm1 : BM T n (st m 17 0 19 (nI p)) := bm.st (by decide)
  obtain ⟨v', k1, k2⟩ := nm9_M hn bm1 e19 (n - p) 0 1000 0 (by omega) (by omega)
  simp only [nI_0, Nat.add_zero] at k1 k2
  have el := ed_le (P := isF) (T := T) (n := n) (p := p) hpn
  have hM : f_m_number m 0 hi = if b2 (!outB (nI (ed isF T n p - p)) 1 2) = 0 then some (0, st m 17 0 19 (nI p)) else if b2 (!outB v' 0 hi) = 0 then some (0, st m 17 0 19 (nI p)) else some (1, st (st (st m 17 0 19 (nI p)) 17 0 25 v') 17 0 19 (nI p + nI (ed isF T n p - p))) := by
    have e25 : st (st m 17 0 19 (nI p)) 17 0 25 v' 17 0 19 = nI p := by rw [st_v, if_neg (by omega)]; exact e19
    rw [f_m_number, skip_M hn bm h19 hq, hp, bV_s, jn_e, k1, in_M, bP_s, in_M, bP_s, lt_e, lt_e, e25]
  have o12 : outB (nI (ed isF T n p - p)) 1 2 = (decide (ed isF T n p - p < 1) || decide (2 < ed isF T n p - p)) := by
    rw [c1n, c2n]; exact outB_n (by omega) (by omega) (by omega)
  rw [o12] at hM
  rw [f_Tx_takeNumber, tk.2.2.1, tk.2.2.2]
  by_cases h2 : srt T n p = 2
  · obtain ⟨⟨k, k99, kv⟩, kn, kb, kp⟩ := nmv_k h2
    have hr := srt_2.mp h2
    have ev : v' = nI k := by rw [k2 hr.2, ← kn, kv]
    rw [decide_eq_false (by omega), decide_eq_false (by omega), Bool.or_false, Bool.not_false, if_neg b2t, ev] at hM
    rw [if_pos h2, kv]
    have o : outB (nI k) 0 hi = decide (hi < nI k) := by
      unfold outB
      rw [decide_eq_false (nI_pos (by omega)), Bool.false_or]
    rw [o] at hM
    by_cases g : hi < nI k
    · refine Or.inr ⟨_, ?_, FM.s19 m (nI p), e19, ?_⟩
      · rw [hM, decide_eq_true g, Bool.not_true, if_pos b2f]
      · rw [if_pos g]
    · refine Or.inl ⟨k, _, k99, Int32.not_lt.mp g, kp, ?_, ((FM.s19 m (nI p)).tr (FM.s25 _ (nI k))).tr (FM.s19 _ (nI p + nI (ed isF T n p - p))), ?_, ?_, fun z => ?_, fun z => ?_⟩
      · rw [hM, decide_eq_false g, Bool.not_false, if_neg b2t]
      · rw [st_v, if_neg (by omega), st_v, if_pos ⟨rfl, rfl, rfl⟩]
      · rw [st_v, if_pos ⟨rfl, rfl, rfl⟩, nI_add, kb, show p + (ed isF T n p - p) = ed isF T n p by omega]
      · rw [if_neg g, if_pos z]
      · obtain ⟨s', a1, a2, a3⟩ := adv_T hn hb tk hpn
        refine ⟨s', ?_, a2, a3⟩
        rw [if_neg g, if_neg z, lt_e, a1, bV_s]
  · have hr : ¬ (p < ed isF T n p ∧ ed isF T n p ≤ p + 2) := fun z => h2 (srt_2.mpr z)
    refine Or.inr ⟨_, ?_, FM.s19 m (nI p), e19, by rw [if_neg h2]⟩
    rw [hM]
    have : (decide (ed isF T n p - p < 1) || decide (2 < ed isF T n p - p)) = true := by
      rw [Bool.or_eq_true, decide_eq_true_eq, decide_eq_true_eq]; omega
    rw [this, Bool.not_true, if_pos b2f]
theorem end_sim {T : Nat → Int32} {n p q : Nat} (hn : n ≤ 150) {s m : Sto} (hb : BC T n s) (tk : TK T n p s) (bm : BM T n m) (h19 : m 17 0 19 = nI q) (hq : q ≤ n) (hp : skp T n q = p) :
    (∃ s' m', f_Tx_takeEnding s = some (1, s') ∧ f_m_ends m = some (1, m') ∧ FC s s' ∧ FM m m' ∧ p < n ∧ TK T n (skp T n (bh T n p)) s' ∧ m' 17 0 19 = nI (bh T n p)) ∨ (∃ m', f_Tx_takeEnding s = some (0, s) ∧ f_m_ends m = some (0, m') ∧ FM m m' ∧ m' 17 0 19 = nI p) := by
  have hpn : p ≤ n := by rw [← hp]; exact (skp_le hq).2
  have e19 : st m 17 0 19 (nI p) 17 0 19 = nI p := by rw [st_v, if_pos ⟨rfl, rfl, rfl⟩]
  have bm1 : BM T n (st m 17 0 19 (nI p)) := bm.st (by decide)
  have hM : f_m_ends m = if (if p < n then T p else -1) = 59 then some (1, st (st m 17 0 19 (nI p)) 17 0 19 (nI p + 1)) else some (0, st m 17 0 19 (nI p)) := by
    rw [f_m_ends, skip_M hn bm h19 hq, hp, bV_s, here_M hn bm1 e19 hpn, bP_s, lt_e, e19]
  rw [f_Tx_takeEnding, tk.2.2.1]
  by_cases h3 : srt T n p = 3
  · obtain ⟨g1, g2⟩ := srt_3.mp h3
    have eb : bh T n p = p + 1 := by unfold bh; rw [if_pos g1, g2, if_neg fig59.2.1, if_neg fig59.1]
    obtain ⟨s', a1, a2, a3⟩ := adv_T hn hb tk hpn
    refine Or.inl ⟨s', _, by rw [if_pos h3, a1, bV_s], by rw [hM, if_pos g1, if_pos g2], a2, (FM.s19 m (nI p)).tr (FM.s19 _ (nI p + 1)), g1, a3, ?_⟩
    rw [st_v, if_pos ⟨rfl, rfl, rfl⟩, nI_1, eb]
  · refine Or.inr ⟨_, by rw [if_neg h3], ?_, FM.s19 m (nI p), e19⟩
    rw [hM, if_neg]
    intro z
    by_cases g : p < n
    · rw [if_pos g] at z; exact h3 (srt_3.mpr ⟨g, z⟩)
    · rw [if_neg g] at z; exact fig59.2.2.2.2 z
/-! words -/
def aw (T : Nat → Int32) : List Int32 → Nat → Bool
  | [], _ => true
  | c :: l, p => if T p = c then aw T l (p + 1) else false
theorem aw_0 (T : Nat → Int32) (p : Nat) : aw T [] p = true := rfl
theorem aw_s (T : Nat → Int32) (c : Int32) (l : List Int32) (p : Nat) : aw T (c :: l) p = if T p = c then aw T l (p + 1) else false := rfl
def wd (T : Nat → Int32) (n p w : Nat) : Bool := decide (ed isL T n p - p = sLen.getD w 0) && aw T (sByt.getD w []) p
theorem len_w : ∀ w, w < 5 → f_S_length w = some (nI (sLen.getD w 0)) ∧ (sByt.getD w []).length = sLen.getD w 0 ∧ 4 ≤ sLen.getD w 0 ∧ sLen.getD w 0 ≤ 5 := by decide +kernel
theorem chr_w : ∀ w, w < 5 → ∀ j, j < 5 → j < sLen.getD w 0 → f_S_charAt w (nI j) = some ((sByt.getD w []).getD j 0) := by decide +kernel
theorem iwl_C {T : Nat → Int32} {n p w : Nat} (hn : n ≤ 150) {s : Sto} (hb : BC T n s) (h2 : s 5 0 2 = nI p) (hw : w < 5) : ∀ (l : List Int32) (i fuel : Nat), (∀ j, j < l.length → f_S_charAt w (nI (i + j)) = some (l.getD j 0)) → i + l.length = sLen.getD w 0 → p + i + l.length ≤ n → l.length < fuel → fx fuel (l_Tx_isWord_28 s w) (fun _ => none) (nI i) = some (b2 (aw T l (p + i)))
  | [], i, fuel, hc, hl, hi, hf => by
    obtain ⟨f, rfl⟩ : ∃ f, fuel = f + 1 := ⟨fuel - 1, by omega⟩
    have := len_w w hw
    rw [List.length_nil] at hl
    rw [fx_s, l_Tx_isWord_28, this.1, bP_s, if_pos ((nI_leI (by omega) (by omega)).mpr (by omega)), aw_0]
    rfl
  | c :: l, i, fuel, hc, hl, hi, hf => by
    obtain ⟨f, rfl⟩ : ∃ f, fuel = f + 1 := ⟨fuel - 1, by omega⟩
    have := len_w w hw
    rw [List.length_cons] at hl hi hf
    have c0 := hc 0 (by rw [List.length_cons]; omega)
    rw [Nat.add_zero] at c0
    have c1 : (c :: l).getD 0 0 = c := rfl
    rw [c1] at c0
    rw [fx_s, l_Tx_isWord_28, this.1, bP_s, if_neg (fun z => by have := (nI_leI (by omega) (by omega)).mp z; omega), h2, nI_add, if_pos (inb_nI (by omega) (by omega)), c0, bP_s, ix_nI (by omega), hb.2 _ (by omega), aw_s]
    by_cases e : T (p + i) = c
    · rw [if_pos e, if_pos e, nI_1]
      exact iwl_C hn hb h2 hw l (i + 1) f (fun j hj => by
        have := hc (j + 1) (by rw [List.length_cons]; omega)
        rw [show i + 1 + j = i + (j + 1) by omega, this]
        rfl) (by omega) (by omega) (by omega)
    · rw [if_neg e, if_neg e]
      rfl
theorem isw_C {T : Nat → Int32} {n p w : Nat} (hn : n ≤ 150) {s : Sto} (hb : BC T n s) (tk : TK T n p s) (hp : p ≤ n) (hw : w < 5) : f_Tx_isWord s w = some (b2 (wd T n p w)) := by
  have lw := len_w w hw
  have el := ed_le (P := isL) (T := T) (n := n) (p := p) hp
  rw [f_Tx_isWord, tk.2.2.1]
  unfold wd
  by_cases h1 : srt T n p = 1
  · obtain ⟨g1, g2⟩ := srt_1.mp h1
    have eb : bh T n p = ed isL T n p := by unfold bh; rw [if_pos g1, if_pos g2]
    rw [if_pos h1, lw.1, bP_s, tk.2.1, tk.1, eb, pk_sub el.1]
    by_cases e : ed isL T n p - p = sLen.getD w 0
    · have := iwl_C hn hb tk.1 hw (sByt.getD w []) 0 1000 (fun j hj => by
        rw [Nat.zero_add]; exact chr_w w hw j (by omega) (by omega)) (by omega) (by omega) (by omega)
      rw [nI_0, Nat.add_zero] at this
      rw [if_pos (by rw [e]), this, decide_eq_true e, Bool.true_and]
    · rw [if_neg (fun z => e ((nI_eq (by omega) (by omega)).mp z)), decide_eq_false e, Bool.false_and]
      rfl
  · have e0 : ed isL T n p = p := by
      by_cases g : p < n
      · exact ed_f g (fun z => h1 (srt_1.mpr ⟨g, z⟩))
      · exact ed_n (by omega)
    rw [if_neg h1, e0, decide_eq_false (by omega), Bool.false_and]
    rfl
theorem ltr_M {T : Nat → Int32} {n q j : Nat} (hn : n ≤ 150) {m : Sto} (hb : BM T n m) (h : m 17 0 19 = nI q) (hj : q + j < n) : f_m_letter m (nI j) = some (T (q + j)) := by
  rw [f_m_letter, h, nI_add, if_pos (inb_nI (by omega) (by omega)), ix_nI (by omega), hb.2 _ hj]
theorem c0n : (0 : Int32) = nI 0 := by decide +kernel
theorem c3n : (3 : Int32) = nI 3 := by decide +kernel
theorem c4n : (4 : Int32) = nI 4 := by decide +kernel
theorem spl_M {T : Nat → Int32} {n q : Nat} (hn : n ≤ 150) {m : Sto} (hb : BM T n m) (h : m 17 0 19 = nI q) (hq : q ≤ n) (a b c d : Int32) : f_m_spells m a b c d = some (b2 (decide (ed isL T n q - q = 4) && aw T [a, b, c, d] q)) := by
  have el := ed_le (P := isL) (T := T) (n := n) (p := q) hq
  rw [f_m_spells, ws_M hn hb h hq, bP_s, jn_e]
  by_cases e : ed isL T n q - q = 4
  · have l0 := ltr_M (j := 0) hn hb h (by omega)
    have l1 := ltr_M (j := 1) hn hb h (by omega)
    have l2 := ltr_M (j := 2) hn hb h (by omega)
    have l3 := ltr_M (j := 3) hn hb h (by omega)
    rw [nI_lits.1] at l0
    rw [nI_lits.2.1] at l1
    rw [nI_lits.2.2.1] at l2
    rw [nI_lits.2.2.2.1] at l3
    rw [if_pos (by rw [e]; exact c4n.symm), decide_eq_true e, Bool.true_and, l0, bP_s, l1, bP_s, l2, bP_s, l3, bP_s, aw_s, aw_s, aw_s, aw_s, aw_0, Nat.add_zero]
    by_cases h0 : T q = a
    · rw [if_pos h0, if_pos h0]
      by_cases h1 : T (q + 1) = b
      · rw [if_pos h1, if_pos h1]
        by_cases h2 : T (q + 2) = c
        · rw [if_pos h2, if_pos (show T (q + 1 + 1) = c from h2)]
          by_cases h3 : T (q + 3) = d
          · rw [if_pos h3, if_pos (show T (q + 1 + 1 + 1) = d from h3)]; rfl
          · rw [if_neg h3, if_neg (show ¬ T (q + 1 + 1 + 1) = d from h3)]; rfl
        · rw [if_neg h2, if_neg (show ¬ T (q + 1 + 1) = c from h2)]; rfl
      · rw [if_neg h1, if_neg h1]; rfl
    · rw [if_neg h0, if_neg h0]; rfl
  · rw [if_neg (fun z => by rw [c4n] at z; exact e ((nI_eq (by omega) (by omega)).mp z)), decide_eq_false e, Bool.false_and]
    rfl
def wdh (T : Nat → Int32) (n p : Nat) : Int32 := if wd T n p 0 = true then 0 else if wd T n p 1 = true then 1 else if wd T n p 2 = true then 2 else if wd T n p 3 = true then 3 else if wd T n p 4 = true then 4 else -1
theorem wh_if {α : Type} (b : Bool) (x y : α) : (if b2 b = 0 then x else y) = if b = true then y else x := by
  cases b with
  | true => rw [if_neg b2t, if_pos rfl]
  | false => rw [if_pos b2f, if_neg (by decide)]
theorem whr_M {T : Nat → Int32} {n q : Nat} (hn : n ≤ 150) {m : Sto} (hb : BM T n m) (h : m 17 0 19 = nI q) (hq : q ≤ n) : f_m_wordHere m = some (wdh T n q) := by
  have el := ed_le (P := isL) (T := T) (n := n) (p := q) hq
  have s1 := spl_M hn hb h hq 104 101 105 114
  have s2 := spl_M hn hb h hq 108 105 107 101
  have s3 := spl_M hn hb h hq 104 97 116 101
  have s4 := spl_M hn hb h hq 112 97 105 114
  have tl : ∀ t, (if b2 t = (0 : Int32) then bP (f_m_spells m 104 101 105 114) (fun r4 => if r4 = (0 : Int32) then bP (f_m_spells m 108 105 107 101) (fun r5 => if r5 = (0 : Int32) then bP (f_m_spells m 104 97 116 101) (fun r6 => if r6 = (0 : Int32) then bP (f_m_spells m 112 97 105 114) (fun r7 => if r7 = (0 : Int32) then some (-1 : Int32) else some (4 : Int32)) else some (3 : Int32)) else some (2 : Int32)) else some (1 : Int32)) else some (0 : Int32)) = some (if t = true then 0 else if wd T n q 1 = true then 1 else if wd T n q 2 = true then 2 else if wd T n q 3 = true then 3 else if wd T n q 4 = true then 4 else -1) := by
    intro t
    rw [s1, bP_s, s2, bP_s, s3, bP_s, s4, bP_s, wh_if, wh_if, wh_if, wh_if, wh_if]
    have w1 : (decide (ed isL T n q - q = 4) && aw T [104, 101, 105, 114] q) = wd T n q 1 := rfl
    have w2 : (decide (ed isL T n q - q = 4) && aw T [108, 105, 107, 101] q) = wd T n q 2 := rfl
    have w3 : (decide (ed isL T n q - q = 4) && aw T [104, 97, 116, 101] q) = wd T n q 3 := rfl
    have w4 : (decide (ed isL T n q - q = 4) && aw T [112, 97, 105, 114] q) = wd T n q 4 := rfl
    rw [w1, w2, w3, w4]
    cases t <;> cases wd T n q 1 <;> cases wd T n q 2 <;> cases wd T n q 3 <;> cases wd T n q 4 <;> rfl
  have w0 : (decide (ed isL T n q - q = 5) && aw T [99, 111, 117, 114, 116] q) = wd T n q 0 := rfl
  unfold wdh
  rw [← tl, ← w0, f_m_wordHere, ws_M hn hb h hq, bP_s, jn_e, jn_e]
  by_cases e : ed isL T n q - q = 5
  · have l0 := ltr_M (j := 0) hn hb h (by omega)
    have l1 := ltr_M (j := 1) hn hb h (by omega)
    have l2 := ltr_M (j := 2) hn hb h (by omega)
    have l3 := ltr_M (j := 3) hn hb h (by omega)
    have l4 := ltr_M (j := 4) hn hb h (by omega)
    rw [nI_lits.1] at l0
    rw [nI_lits.2.1] at l1
    rw [nI_lits.2.2.1] at l2
    rw [nI_lits.2.2.2.1] at l3
    rw [nI_lits.2.2.2.2.1] at l4
    rw [if_pos (by rw [e]; exact c5.symm), decide_eq_true e, Bool.true_and, l0, bP_s, l1, bP_s, l2, bP_s, l3, bP_s, l4, bP_s, aw_s, aw_s, aw_s, aw_s, aw_s, aw_0, Nat.add_zero]
    by_cases h0 : T q = 99
    · rw [if_pos h0, if_pos h0]
      by_cases h1 : T (q + 1) = 111
      · rw [if_pos h1, if_pos h1]
        by_cases h2 : T (q + 2) = 117
        · rw [if_pos h2, if_pos (show T (q + 1 + 1) = 117 from h2)]
          by_cases h3 : T (q + 3) = 114
          · rw [if_pos h3, if_pos (show T (q + 1 + 1 + 1) = 114 from h3)]
            by_cases h4 : T (q + 4) = 116
            · rw [if_pos h4, if_pos (show T (q + 1 + 1 + 1 + 1) = 116 from h4)]; rfl
            · rw [if_neg h4, if_neg (show ¬ T (q + 1 + 1 + 1 + 1) = 116 from h4)]; rfl
          · rw [if_neg h3, if_neg (show ¬ T (q + 1 + 1 + 1) = 114 from h3)]; rfl
        · rw [if_neg h2, if_neg (show ¬ T (q + 1 + 1) = 117 from h2)]; rfl
      · rw [if_neg h1, if_neg h1]; rfl
    · rw [if_neg h0, if_neg h0]; rfl
  · rw [if_neg (fun z => by rw [c5] at z; exact e ((nI_eq (by omega) (by omega)).mp z)), decide_eq_false e, Bool.false_and]
    rfl
