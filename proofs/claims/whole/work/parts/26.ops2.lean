/-! type, clear, note, forget, of, makes, lift, count, status -/
theorem RS.text {s m s' m' : Sto} {L : Lng} (h : RS s m L) (hc : ∀ k, k ≠ 5 → k ≠ 16 → s' k = s k) (hm : ∀ k, k ≠ 28 → k ≠ 17 → m' k = m k) (h17 : ∀ x, x ≠ 18 → m' 17 0 x = m 17 0 x) (ht : RT s' m') : RS s' m' L := by
  obtain ⟨hk, h1, h2, h3, h4, h5⟩ := h
  have c8 : ∀ c, eq8 (crC s c) (crC s' c) := fun c => crC_k (by rw [hc 1 (by decide) (by decide)]) (fun j _ => by rw [hc 2 (by decide) (by decide)]) (fun j _ => by rw [hc 3 (by decide) (by decide)]) (by rw [hc 4 (by decide) (by decide)]) (fun j _ => by rw [hc 4 (by decide) (by decide)])
  refine ⟨hk.keep (c8 0) (crM_k (fun x hx => h17 x (by omega)) (fun k hk => by rw [hm k (by omega) (by omega)])), ht, ?_, ?_, ?_, ?_⟩
  · unfold RF; rw [hc 0 (by decide) (by decide)]; exact h2
  · unfold RR; rw [hc 0 (by decide) (by decide), hm 18 (by decide) (by decide)]; exact h3
  · exact h4.keep (c8 _) (by rw [hc 12 (by decide) (by decide)]) (by rw [hm 35 (by decide) (by decide)]) (hm 34 (by decide) (by decide))
  · exact h5.keep (c8 _) (by rw [hc 12 (by decide) (by decide)]) (by rw [hm 35 (by decide) (by decide)]) (hm 34 (by decide) (by decide))
theorem lt150 {x : Int32} (h : inb x 151) : x < 150 ↔ ¬ x = 150 := by
  have h6 : (150 : Int32).toInt = 150 := by decide +kernel
  rw [i_lt, i_eq, h6]
  have a := h.1
  have b := h.2
  omega
theorem op_type {s m : Sto} {L : Lng} (h : RS s m L) (c : Int32) : OPI (f_T_type s c) (f_m_type m c) L := by
  simp only [f_T_type, f_m_type, out_C, in_M, bP_s, lt]
  obtain ⟨e1, w1, e2⟩ := h.2.1
  cases outB c 0 127 with
  | true =>
    rw [if_neg b2t, Bool.not_true, if_pos b2f, bad_C, bad_M]
    exact op_bad h _
  | false =>
    rw [if_pos b2f, Bool.not_false, if_neg b2t]
    have hl := lt150 w1
    by_cases h6 : s 5 0 1 = 150
    · rw [if_neg (fun z => hl.mp z h6), if_pos (by rw [← e1]; exact h6), full_C, full_M]
      exact op_full h _
    · rw [if_pos (hl.mpr h6), if_neg (by rw [← e1]; exact h6)]
      have hn : inb (s 5 0 1) 150 := inb_of_lt w1 (by decide +kernel) (hl.mpr h6)
      have p := plus1 hn (by decide)
      simp only [f_Tx_append, if_pos (hl.mpr h6), if_pos hn, lt, bV_s, if_pos (show inb (m 17 0 18) 150 by rw [← e1]; exact hn)]
      have e5 : st s 16 0 (ix (s 5 0 1)) c 5 = s 5 := st_k (by decide)
      have e17 : st m 28 0 (ix (m 17 0 18)) c 17 = m 17 := st_k (by decide)
      rw [e5, e17, st_v, if_pos ⟨rfl, rfl, rfl⟩, st_v, if_pos ⟨rfl, rfl, rfl⟩]
      refine ⟨_, _, _, rfl, by rw [e1], h.text (fun k a b => by rw [st_k a, st_k b]) (fun k a b => by rw [st_k b, st_k a]) (fun x hx => by rw [st_v, if_neg (by omega), st_k (by decide)]) ⟨?_, ?_, ?_⟩⟩
      · simp [st, e1]
      · rw [st_v, if_pos ⟨rfl, rfl, rfl⟩]
        unfold inb
        rw [p.1]
        have a := hn.1
        have b := hn.2
        omega
      · intro j hj
        rw [st_v, if_pos ⟨rfl, rfl, rfl⟩, p.2] at hj
        have a1 : ∀ v, st (st s 16 0 (ix (s 5 0 1)) c) 5 0 1 v 16 0 j = if j = ix (s 5 0 1) then c else s 16 0 j := fun v => by simp [st]
        have a2 : ∀ v, st (st m 28 0 (ix (m 17 0 18)) c) 17 0 18 v 28 0 j = if j = ix (m 17 0 18) then c else m 28 0 j := fun v => by simp [st]
        rw [a1, a2, ← e1]
        by_cases hjn : j = ix (s 5 0 1)
        · rw [if_pos hjn, if_pos hjn]
        · rw [if_neg hjn, if_neg hjn]
          exact e2 j (by omega)
theorem op_clear {s m : Sto} {L : Lng} (h : RS s m L) : OPI (f_T_clear s) (f_m_clear m) L := by
  simp only [f_T_clear, f_m_clear, lt]
  obtain ⟨e1, w1, e2⟩ := h.2.1
  refine ⟨_, _, _, rfl, by rw [e1], h.text (fun k a b => by rw [st_k a]) (fun k a b => by rw [st_k b]) (fun x hx => by rw [st_v, if_neg (by omega)]) ⟨?_, ?_, ?_⟩⟩
  · simp [st]
  · rw [st_v, if_pos ⟨rfl, rfl, rfl⟩]; decide +kernel
  · intro j hj
    rw [st_v, if_pos ⟨rfl, rfl, rfl⟩, ix0] at hj
    omega
/-! which heirs there are -/
theorem isH_M {m : Sto} (w : inb (m 17 0 1) 7) (p : Int32) : f_m_isHeir m p = some (b2 (hasB p (m 17 0 1))) := by
  unfold f_m_isHeir
  rw [in_M, bP_s, if_pos (b2_01 _)]
  congr 2
  unfold outB hasB
  have h1 : (1 : Int32).toInt = 1 := by decide +kernel
  have e : (m 17 0 1 - 1).toInt = (m 17 0 1).toInt - 1 := by
    have a := w.1
    have b := w.2
    rw [i_sub (by rw [h1]; omega) (by rw [h1]; omega), h1]
  rw [Bool.not_or]
  congr 1
  rw [Bool.eq_iff_iff]
  simp only [Bool.not_eq_true', decide_eq_false_iff_not, decide_eq_true_eq, i_lt, e]
  omega
/-- a court with one note more -/
theorem RK_note {s m s' m' : Sto} (h : RK s m) (hn : inb (s 1 0 6) 6) {v : Nat → Int32} (hv : inb (v 1) 8) (h1 : s' 1 0 6 = s 1 0 6 + 1) (h2 : s' 1 0 5 = s 1 0 5) (h3 : s' 1 0 7 = s 1 0 7) (h4 : s' 4 = s 4) (h5 : ∀ j, j ≠ ix (s 1 0 6) → s' 3 (6 * 0 + j) = s 3 (6 * 0 + j)) (h6 : ∀ k, k < 5 → s' 3 (6 * 0 + ix (s 1 0 6)) k = v k) (h7 : s' 2 = s 2)
    (g1 : m' 17 0 7 = m 17 0 7 + 1) (g2 : ∀ x, x ≠ 7 → m' 17 0 x = m 17 0 x) (g5 : ∀ k, k < 5 → ∀ j, m' (23 + k) 0 j = if j = ix (m 17 0 7) then v k else m (23 + k) 0 j) (g7 : ∀ k, k < 4 → m' (19 + k) 0 = m (19 + k) 0) (g8 : m' 30 = m 30) : RK s' m' := by
  obtain ⟨⟨e1, e2, e3, e4, e5, e6, e7⟩, w1, w2, w3, w4, w5, w6, w7, w8⟩ := h
  have e2' : s 1 0 6 = m 17 0 7 := e2
  have p := plus1 hn (by decide)
  have hx : ix (xn (crC s' 0)) = ix (s 1 0 6) + 1 := by
    show ix (s' 1 0 6) = _
    rw [h1, p.2]
  have hi := inb_ix hn
  have exh : xh (crC s' 0) = xh (crC s 0) := h2
  have exp : xp (crC s' 0) = xp (crC s 0) := h3
  have exm : xm (crC s' 0) = xm (crC s 0) := by show gC s' 0 = gC s 0; unfold gC; rw [h4]
  have exa : ∀ j, xa (crC s' 0) j = xa (crC s 0) j := fun j => by show gC s' (4 + 8 * 0 + j) = gC s (4 + 8 * 0 + j); unfold gC; rw [h4]
  refine ⟨⟨?_, ?_, ?_, ?_, ?_, ?_, ?_⟩, ?_, ?_, ?_, ⟨?_, ?_⟩, ?_, ?_, ?_, ?_⟩
  · show s' 1 0 5 = m' 17 0 1
    rw [h2, g2 1 (by decide)]; exact e1
  · show s' 1 0 6 = m' 17 0 7
    rw [h1, g1, e2']
  · show s' 1 0 7 = m' 17 0 27
    rw [h3, g2 27 (by decide)]; exact e3
  · rw [exm, e4]
    show gM m = gM m'
    unfold gM
    rw [g2 2 (by decide), g2 3 (by decide), g2 4 (by decide), g2 5 (by decide), g2 6 (by decide)]
  · rw [exh]
    intro j hj k hk
    show s' 2 (6 * 0 + j) k = m' (19 + k) 0 j
    rw [h7, g7 k hk]
    exact e5 j hj k hk
  · intro j hj k hk
    rw [hx] at hj
    show s' 3 (6 * 0 + j) k = m' (23 + k) 0 j
    rw [g5 k hk j]
    by_cases hjn : j = ix (s 1 0 6)
    · subst hjn
      rw [if_pos (show ix (s 1 0 6) = ix (m 17 0 7) by rw [e2']), h6 k hk]
    · rw [h5 j hjn, if_neg (by rw [← e2']; exact hjn)]
      exact e6 j (show j < ix (s 1 0 6) by omega) k hk
  · rw [exp]
    intro j hj
    rw [exa j, e7 j hj]
    show aM m j = aM m' j
    unfold aM
    rw [g8]
  · rw [exh]; exact w1
  · show inb (s' 1 0 6) 7
    rw [h1]
    unfold inb
    rw [p.1]
    have a1 := hn.1
    have a2 := hn.2
    omega
  · rw [exp]; exact w3
  · rw [exh]; exact w4.1
  · rw [exh]
    intro j hj
    show inb (s' 2 (6 * 0 + j) 0) 6
    rw [h7]; exact w4.2 j hj
  · rw [exh, exm]; exact w5
  · rw [exm]; exact w6
  · intro j hj
    rw [hx] at hj
    show inb (s' 3 (6 * 0 + j) 1) 8
    by_cases hjn : j = ix (s 1 0 6)
    · subst hjn
      rw [h6 1 (by decide)]; exact hv
    · rw [h5 j hjn]
      exact w7 j (show j < ix (s 1 0 6) by omega)
  · rw [exp, exh]
    intro j hj
    rw [exa j]; exact w8 j hj
def nput (s : Sto) (i : Nat) (a b c d e : Int32) : Sto := st (st (st (st (st s 3 i 0 a) 3 i 1 b) 3 i 2 c) 3 i 3 d) 3 i 4 e
theorem np_C (s : Sto) (i : Nat) (a b c d e : Int32) : f_No_put s i a b c d e = some (nput s i a b c d e) := rfl
theorem nput_at (s : Sto) (i : Nat) (a b c d e : Int32) : ∀ k, k < 5 → nput s i a b c d e 3 i k = if k = 0 then a else if k = 1 then b else if k = 2 then c else if k = 3 then d else e := by
  intro k hk
  rcases (show k = 0 ∨ k = 1 ∨ k = 2 ∨ k = 3 ∨ k = 4 by omega) with rfl | rfl | rfl | rfl | rfl <;> simp [nput, st]
theorem nput_i {s : Sto} {i : Nat} {a b c d e : Int32} {k i' : Nat} (h : i' ≠ i) : nput s i a b c d e k i' = s k i' := by
  unfold nput; rw [st_i h, st_i h, st_i h, st_i h, st_i h]
theorem nput_k {s : Sto} {i : Nat} {a b c d e : Int32} {k : Nat} (h : k ≠ 3) : nput s i a b c d e k = s k := by
  unfold nput; rw [st_k h, st_k h, st_k h, st_k h, st_k h]
theorem nput_KC {s : Sto} {i : Nat} {a b c d e : Int32} (h : i < 12) : KC s (nput s i a b c d e) := by
  have n : ¬ NK 3 i := by unfold NK; omega
  exact ((((st_KC n (by decide) (by decide)).tr (st_KC n (by decide) (by decide))).tr (st_KC n (by decide) (by decide))).tr (st_KC n (by decide) (by decide))).tr (st_KC n (by decide) (by decide))
def nnM (m : Sto) (a b c d e : Int32) : Sto := st (st (st (st (st (st m 23 0 (ix (m 17 0 7)) a) 24 0 (ix (m 17 0 7)) b) 25 0 (ix (m 17 0 7)) c) 26 0 (ix (m 17 0 7)) d) 27 0 (ix (m 17 0 7)) e) 17 0 7 (m 17 0 7 + 1)
theorem op_note {s m : Sto} {L : Lng} (h : RS s m L) (p a w d l : Int32) : OPI (f_T_note s p a w d l) (f_m_note m p a w d l) L := by
  have e1 : s 1 0 5 = m 17 0 1 := h.1.1.1
  have w1 : inb (s 1 0 5) 7 := h.1.2.1
  have e2 : s 1 0 6 = m 17 0 7 := h.1.1.2.1
  have w2 : inb (s 1 0 6) 7 := h.1.2.2.1
  simp only [f_T_note, f_m_note, out_C, in_M, bP_s, lt, has_C, isH_M (show inb (m 17 0 1) 7 by rw [← e1]; exact w1), act_M, e1]
  cases hasB p (m 17 0 1) with
  | false => rw [if_pos b2f, if_pos b2f, bad_C, bad_M]; exact op_bad h _
  | true =>
    rw [if_neg b2t, if_neg b2t]
    cases ha : outB a 0 7 with
    | true => rw [if_neg b2t, Bool.not_true, if_pos b2f, bad_C, bad_M]; exact op_bad h _
    | false =>
      rw [if_pos b2f, Bool.not_false, if_neg b2t]
      cases outB w 0 99 with
      | true => rw [if_neg b2t, Bool.not_true, if_pos b2f, bad_C, bad_M]; exact op_bad h _
      | false =>
        rw [if_pos b2f, Bool.not_false, if_neg b2t]
        cases outB d 0 99 with
        | true => rw [if_neg b2t, Bool.not_true, if_pos b2f, bad_C, bad_M]; exact op_bad h _
        | false =>
          rw [if_pos b2f, Bool.not_false, if_neg b2t]
          cases outB l 0 1 with
          | true => rw [if_neg b2t, Bool.not_true, if_pos b2f, bad_C, bad_M]; exact op_bad h _
          | false =>
            rw [if_pos b2f, Bool.not_false, if_neg b2t]
            have hl := lt6 w2
            by_cases h6 : s 1 0 6 = 6
            · rw [if_neg (fun z => hl.mp z h6), if_pos (by rw [← e2]; exact h6), full_C, full_M]
              exact op_full h _
            · have h6m : ¬ m 17 0 7 = 6 := by rw [← e2]; exact h6
              rw [if_pos (hl.mpr h6), if_neg h6m]
              have hn : inb (s 1 0 6) 6 := inb_of_lt w2 (by decide +kernel) (hl.mpr h6)
              have hnm : inb (m 17 0 7) 6 := by rw [← e2]; exact hn
              have q : ∀ (z : Sto) (k x : Nat) (v : Int32), k ≠ 17 → st z k 0 x v 17 0 7 = z 17 0 7 := fun z k x v hk => by rw [st_k (Ne.symm hk)]
              simp only [if_pos hn, if_pos hnm, np_C, bV_s, q _ 23 _ _ (by decide), q _ 24 _ _ (by decide), q _ 25 _ _ (by decide), q _ 26 _ _ (by decide), q _ 27 _ _ (by decide)]
              rw [nput_k (by decide), st_v, if_pos ⟨rfl, rfl, rfl⟩, st_v, if_pos ⟨rfl, rfl, rfl⟩]
              have hi := inb_ix hn
              have hk : inb a 8 := by
                have := outB_f ha
                have h0 : (0 : Int32).toInt = 0 := by decide +kernel
                have h5 : (7 : Int32).toInt = 7 := by decide +kernel
                rw [h0, h5] at this
                exact ⟨this.1, by omega⟩
              refine ⟨_, _, _, rfl, by rw [e2], h.of (RK_note (v := fun k => if k = 0 then p else if k = 1 then a else if k = 2 then w else if k = 3 then d else l) h.1 hn hk ?_ ?_ ?_ ?_ ?_ ?_ ?_ ?_ ?_ ?_ ?_ ?_) ?_ ?_⟩
              · rw [st_v, if_pos ⟨rfl, rfl, rfl⟩]
              · rw [st_v, if_neg (by omega), nput_k (by decide)]
              · rw [st_v, if_neg (by omega), nput_k (by decide)]
              · rw [st_k (by decide), nput_k (by decide)]
              · intro j hj
                rw [st_k (by decide), nput_i (by omega)]
              · intro k hk
                rw [st_k (by decide)]
                exact nput_at _ _ _ _ _ _ _ k hk
              · rw [st_k (by decide), nput_k (by decide)]
              · simp [st]
              · intro x hx
                rw [st_v, if_neg (fun z => hx z.2.2), st_k (by decide), st_k (by decide), st_k (by decide), st_k (by decide), st_k (by decide)]
              · intro k hk j
                rcases (show k = 0 ∨ k = 1 ∨ k = 2 ∨ k = 3 ∨ k = 4 by omega) with rfl | rfl | rfl | rfl | rfl <;> simp [st]
              · intro k hk
                rw [st_k (by omega), st_k (by omega), st_k (by omega), st_k (by omega), st_k (by omega), st_k (by omega)]
              · rw [st_k (by decide), st_k (by decide), st_k (by decide), st_k (by decide), st_k (by decide), st_k (by decide)]
              · have n1 : ¬ NK 1 0 := by unfold NK; omega
                exact (nput_KC (by omega)).tr (st_KC n1 (by decide) (by decide))
              · exact (((((st_KM (by decide) (by decide) (by decide) (by decide) (by decide)).tr (st_KM (by decide) (by decide) (by decide) (by decide) (by decide))).tr (st_KM (by decide) (by decide) (by decide) (by decide) (by decide))).tr (st_KM (by decide) (by decide) (by decide) (by decide) (by decide))).tr (st_KM (by decide) (by decide) (by decide) (by decide) (by decide))).tr (st_KM17 (by decide))
