/-! moments -/
abbrev M5 : Type := Int32 × Int32 × Int32 × Int32 × Int32
abbrev HEnv : Type := Nat → Nat → Int32
def mw (m : M5) : Int32 := m.1
def md (m : M5) : Int32 := m.2.1
def mo (m : M5) : Int32 := m.2.2.1
def mp (m : M5) : Int32 := m.2.2.2.1
def mq (m : M5) : Int32 := m.2.2.2.2
def eC (s : Sto) (c : Nat) : HEnv := fun j k => s 2 (6 * c + j) k
def eM (s : Sto) : HEnv := fun j k => s (19 + k) 0 j
def gC (s : Sto) (i : Nat) : M5 := (s 4 i 0, s 4 i 1, s 4 i 2, s 4 i 3, s 4 i 4)
def gM (s : Sto) : M5 := (s 17 0 2, s 17 0 3, s 17 0 4, s 17 0 5, s 17 0 6)
def pC (s : Sto) (i : Nat) (m : M5) : Sto := fun k' i' x => if k' = 4 ∧ i' = i then (if x = 0 then mw m else if x = 1 then md m else if x = 2 then mo m else if x = 3 then mp m else if x = 4 then mq m else s k' i' x) else s k' i' x
def pM (s : Sto) (m : M5) : Sto := fun k' i' x => if k' = 17 ∧ i' = 0 then (if x = 2 then mw m else if x = 3 then md m else if x = 4 then mo m else if x = 5 then mp m else if x = 6 then mq m else s k' i' x) else s k' i' x
theorem gC_pC (s : Sto) (i : Nat) (m : M5) : gC (pC s i m) i = m := by simp [gC, pC, mw, md, mo, mp, mq]
theorem gM_pM (s : Sto) (m : M5) : gM (pM s m) = m := by simp [gM, pM, mw, md, mo, mp, mq]
theorem pC_pC (s : Sto) (i : Nat) (m n : M5) : pC (pC s i m) i n = pC s i n := by
  funext k' i' x
  unfold pC
  by_cases h : k' = 4 ∧ i' = i
  · simp only [h, and_self, if_true]
    by_cases h0 : x = 0
    · subst h0; rfl
    by_cases h1 : x = 1
    · subst h1; rfl
    by_cases h2 : x = 2
    · subst h2; rfl
    by_cases h3 : x = 3
    · subst h3; rfl
    by_cases h4 : x = 4
    · subst h4; rfl
    simp [h0, h1, h2, h3, h4]
  · simp only [h, if_false]
theorem pM_pM (s : Sto) (m n : M5) : pM (pM s m) n = pM s n := by
  funext k' i' x
  unfold pM
  by_cases h : k' = 17 ∧ i' = 0
  · simp only [h, and_self, if_true]
    by_cases h0 : x = 2
    · subst h0; rfl
    by_cases h1 : x = 3
    · subst h1; rfl
    by_cases h2 : x = 4
    · subst h2; rfl
    by_cases h3 : x = 5
    · subst h3; rfl
    by_cases h4 : x = 6
    · subst h4; rfl
    simp [h0, h1, h2, h3, h4]
  · simp only [h, if_false]
theorem pC_gC (s : Sto) (i : Nat) : pC s i (gC s i) = s := by
  funext k' i' x
  unfold pC
  by_cases h : k' = 4 ∧ i' = i
  · obtain ⟨rfl, rfl⟩ := h
    simp only [and_self, if_true]
    by_cases h0 : x = 0
    · subst h0; rfl
    by_cases h1 : x = 1
    · subst h1; rfl
    by_cases h2 : x = 2
    · subst h2; rfl
    by_cases h3 : x = 3
    · subst h3; rfl
    by_cases h4 : x = 4
    · subst h4; rfl
    simp [h0, h1, h2, h3, h4]
  · simp only [h, if_false]
theorem pM_gM (s : Sto) : pM s (gM s) = s := by
  funext k' i' x
  unfold pM
  by_cases h : k' = 17 ∧ i' = 0
  · obtain ⟨rfl, rfl⟩ := h
    simp only [and_self, if_true]
    by_cases h0 : x = 2
    · subst h0; rfl
    by_cases h1 : x = 3
    · subst h1; rfl
    by_cases h2 : x = 4
    · subst h2; rfl
    by_cases h3 : x = 5
    · subst h3; rfl
    by_cases h4 : x = 6
    · subst h4; rfl
    simp [h0, h1, h2, h3, h4]
  · simp only [h, if_false]
theorem pC_k {s : Sto} {i k : Nat} {m : M5} (h : k ≠ 4) : pC s i m k = s k := by funext i' x; simp [pC, h]
theorem pC_i {s : Sto} {i k i' : Nat} {m : M5} (h : i' ≠ i) : pC s i m k i' = s k i' := by funext x; simp [pC, h]
theorem pM_k {s : Sto} {k : Nat} {m : M5} (h : k ≠ 17) : pM s m k = s k := by funext i' x; simp [pM, h]
theorem eC_pC (s : Sto) (i c : Nat) (m : M5) : eC (pC s i m) c = eC s c := by funext j k; simp [eC, pC]
theorem eM_pM (s : Sto) (m : M5) {j k : Nat} : eM (pM s m) j k = eM s j k := by
  unfold eM pM
  rw [if_neg (by omega)]
theorem eM_pM' (s : Sto) (m : M5) : eM (pM s m) = eM s := by funext j k; exact eM_pM s m
/-! values -/
def lfE (e : HEnv) (p : Int32) (j : Nat) (act w d : Int32) : Bool := lfV j (lAl (e (ix p) 1) (e (ix p) 2) act) (hAl (e (ix p) 1) (e (ix p) 2) act) w d
def lf1 (e : HEnv) (p act w d : Int32) : Bool := lfE e p (ix (e (ix p) 0)) act w d
def whV (a b : Bool) : Int32 := if a then (if b then 3 else 1) else (if b then 2 else 0)
def lwV (e : HEnv) (m : M5) (act : Int32) : Int32 := whV (lf1 e (mp m) act (mw m) (md m)) (lf1 e (mq m) act (mw m) (md m))
def adE (e : HEnv) (p : Int32) : Int32 := adV (ix (e (ix p) 0)) (e (ix p) 3)
def grV (e : HEnv) (m : M5) : Int32 := if mp m = -1 then -2 else adE e (mp m) + adE e (mq m) - 2
def wrm (m : M5) (x : Int32) : M5 := (kp (mw m + x), md m, mo m, mp m, mq m)
def pdV (e : HEnv) (m : M5) : M5 := (kp (mw m + grV e m), md m + 1, mo m, mp m, mq m)
def akV (e : HEnv) (m : M5) (act : Int32) : M5 := if lwV e m act = 3 then (kp (mw m + -2), md m, mo m ||| (1 <<< (act &&& 31)), mp m, mq m) else wrm m (if lwV e m act = 0 then 1 else 5)
def okM (n : Nat) (m : M5) : Prop := mp m = -1 ∨ (inb (mp m) n ∧ inb (mq m) n)
def neP (m : M5) : Prop := mp m = -1 ∨ ¬ mp m = mq m
def okS (n : Nat) (m : M5) : Prop := okM n m ∧ neP m
/-- court c has n heirs -/
def HC (n : Nat) (s : Sto) (c : Nat) : Prop := inb (s 1 c 5) 7 ∧ ix (s 1 c 5) = n
def prd (m : M5) : Prop := ¬ mp m = -1
def okE (n : Nat) (e : HEnv) : Prop := n ≤ 6 ∧ ∀ j, j < n → inb (e j 0) 6
def eqE (n : Nat) (e e' : HEnv) : Prop := ∀ j, j < n → ∀ k, k < 4 → e j k = e' j k
theorem okM.two {n : Nat} {m : M5} (h : okM n m) (hp : prd m) : inb (mp m) n ∧ inb (mq m) n := h.resolve_left hp
theorem inb_le {x : Int32} {a b : Nat} (h : inb x a) (hab : a ≤ b) : inb x b := ⟨h.1, by have := h.2; omega⟩
theorem eqE.lf {n : Nat} {e e' : HEnv} (h : eqE n e e') {p : Int32} (hp : inb p n) (j : Nat) (act w d : Int32) : lfE e p j act w d = lfE e' p j act w d := by
  unfold lfE
  rw [h _ (inb_ix hp) 1 (by decide), h _ (inb_ix hp) 2 (by decide)]
theorem eqE.l1 {n : Nat} {e e' : HEnv} (h : eqE n e e') {p : Int32} (hp : inb p n) (act w d : Int32) : lf1 e p act w d = lf1 e' p act w d := by
  unfold lf1
  rw [h _ (inb_ix hp) 0 (by decide), h.lf hp]
theorem eqE.lw {n : Nat} {e e' : HEnv} (h : eqE n e e') {m : M5} (hm : okM n m) (hp : prd m) (act : Int32) : lwV e m act = lwV e' m act := by
  unfold lwV
  rw [h.l1 (hm.two hp).1, h.l1 (hm.two hp).2]
theorem eqE.ad {n : Nat} {e e' : HEnv} (h : eqE n e e') {p : Int32} (hp : inb p n) : adE e p = adE e' p := by
  unfold adE
  rw [h _ (inb_ix hp) 0 (by decide), h _ (inb_ix hp) 3 (by decide)]
theorem eqE.gr {n : Nat} {e e' : HEnv} (h : eqE n e e') {m : M5} (hm : okM n m) : grV e m = grV e' m := by
  unfold grV
  by_cases hp : mp m = -1
  · rw [if_pos hp, if_pos hp]
  · rw [if_neg hp, if_neg hp, h.ad (hm.two hp).1, h.ad (hm.two hp).2]
theorem eqE.ps {n : Nat} {e e' : HEnv} (h : eqE n e e') {m : M5} (hm : okM n m) : pdV e m = pdV e' m := by
  unfold pdV; rw [h.gr hm]
theorem eqE.ak {n : Nat} {e e' : HEnv} (h : eqE n e e') {m : M5} (hm : okM n m) (hp : prd m) (act : Int32) : akV e m act = akV e' m act := by
  unfold akV; rw [h.lw hm hp]
theorem pdV_ok {n : Nat} {e : HEnv} {m : M5} (h : okM n m) : okM n (pdV e m) := h
theorem pdV_prd {e : HEnv} {m : M5} (h : prd m) : prd (pdV e m) := h
theorem akV_pq (e : HEnv) (m : M5) (act : Int32) : mp (akV e m act) = mp m ∧ mq (akV e m act) = mq m := by
  unfold akV
  by_cases h : lwV e m act = 3
  · rw [if_pos h]; simp only [mp, mq, and_self]
  · rw [if_neg h]; simp only [wrm, mp, mq, and_self]
theorem akV_ok {n : Nat} {e : HEnv} {m : M5} {act : Int32} (h : okM n m) : okM n (akV e m act) := by
  unfold okM; rw [(akV_pq e m act).1, (akV_pq e m act).2]; exact h
theorem akV_os {n : Nat} {e : HEnv} {m : M5} {act : Int32} (h : okS n m) : okS n (akV e m act) := by
  refine ⟨akV_ok h.1, ?_⟩
  unfold neP; rw [(akV_pq e m act).1, (akV_pq e m act).2]; exact h.2
theorem pdV_os {n : Nat} {e : HEnv} {m : M5} (h : okS n m) : okS n (pdV e m) := h
theorem akV_prd {e : HEnv} {m : M5} {act : Int32} (h : prd m) : prd (akV e m act) := by
  unfold prd; rw [(akV_pq e m act).1]; exact h
/-! the class's functions -/
theorem lf_C {s : Sto} {c : Nat} {p kind act w d : Int32} (hp : inb p 6) (hk : inb kind 6) : f_Co_lifts s c p kind act w d = some (b2 (lfE (eC s c) p (ix kind) act w d)) := by
  unfold f_Co_lifts
  rw [if_pos hp, if_pos hk, lik_C, bP_s, hat_C, bP_s, dy_C (inb_ix hk), bP_s, if_pos (b2_01 _)]
  rfl
theorem wh_lits : (0 : Int32) ||| 1 = 1 ∧ (1 : Int32) ||| 2 = 3 ∧ (0 : Int32) ||| 2 = 2 ∧ (1 : Int32) ||| 0 = 1 ∧ (0 : Int32) ||| 0 = 0 := by decide +kernel
theorem lw_C {s : Sto} {c i n : Nat} (he : okE n (eC s c)) (hm : okM n (gC s i)) (hp : prd (gC s i)) (act : Int32) : f_Co_liftersIn s c i act = some (lwV (eC s c) (gC s i) act) := by
  obtain ⟨h1, h2⟩ := hm.two hp
  have h1' : inb (s 4 i 3) n := h1
  have h2' : inb (s 4 i 4) n := h2
  simp only [f_Co_liftersIn, lt, jn]
  have k1 : f_Co_lifts s c (s 4 i 3) (s 2 (6 * c + ix (s 4 i 3)) 0) act (s 4 i 0) (s 4 i 1) = some (b2 (lf1 (eC s c) (s 4 i 3) act (s 4 i 0) (s 4 i 1))) := lf_C (inb_le h1' he.1) (he.2 _ (inb_ix h1'))
  rw [if_pos (inb_le h1' he.1), k1, bP_s]
  have k2 : f_Co_lifts s c (s 4 i 4) (s 2 (6 * c + ix (s 4 i 4)) 0) act (s 4 i 0) (s 4 i 1) = some (b2 (lf1 (eC s c) (s 4 i 4) act (s 4 i 0) (s 4 i 1))) := lf_C (inb_le h2' he.1) (he.2 _ (inb_ix h2'))
  simp only [if_pos (inb_le h2' he.1), k2, bP_s]
  unfold lwV whV
  show _ = some (if lf1 (eC s c) (s 4 i 3) act (s 4 i 0) (s 4 i 1) = true then if lf1 (eC s c) (s 4 i 4) act (s 4 i 0) (s 4 i 1) = true then 3 else 1 else if lf1 (eC s c) (s 4 i 4) act (s 4 i 0) (s 4 i 1) = true then 2 else 0)
  cases lf1 (eC s c) (s 4 i 3) act (s 4 i 0) (s 4 i 1) <;> cases lf1 (eC s c) (s 4 i 4) act (s 4 i 0) (s 4 i 1) <;> simp [b2, wh_lits.1, wh_lits.2.1, wh_lits.2.2.1]
theorem ad_C {s : Sto} {c n : Nat} (he : okE n (eC s c)) {p : Int32} (hp : inb p n) : f_Co_addedBy s c p = some (adE (eC s c) p) := by
  unfold f_Co_addedBy
  have h2 := he.2 _ (inb_ix hp)
  have h2' : inb (s 2 (6 * c + ix p) 0) 6 := h2
  rw [if_pos (inb_le hp he.1), if_pos h2', da_C (inb_ix h2'), bP_s]
  rfl
theorem cb_C {s : Sto} {c n : Nat} (he : okE n (eC s c)) {p q : Int32} (hp : inb p n) (hq : inb q n) : f_Co_changeBy s c p q = some (adE (eC s c) p + adE (eC s c) q - 2) := by
  unfold f_Co_changeBy
  rw [ad_C he hp, bP_s, ad_C he hq, bP_s]
def hasB (p n : Int32) : Bool := !decide (p < 0) && decide (p < n)
theorem has_C (s : Sto) (c : Nat) (p : Int32) : f_Co_has s c p = some (b2 (hasB p (s 1 c 5))) := by
  unfold f_Co_has hasB jn
  have e : ((s 1 c 5) ≤ p) = ¬ p < s 1 c 5 := propext Int32.not_lt.symm
  simp only [e]
  by_cases h1 : p < 0 <;> by_cases h2 : p < s 1 c 5 <;> simp [h1, h2, b2]
theorem hasB_t {p n : Int32} (h : hasB p n = true) : inb p (ix n) := by
  unfold hasB at h
  have h0 : (0 : Int32).toInt = 0 := by decide +kernel
  simp only [Bool.and_eq_true, Bool.not_eq_true', decide_eq_false_iff_not, decide_eq_true_eq, i_lt, h0] at h
  refine ⟨by omega, ?_⟩
  have : ((ix n : Nat) : Int) = n.toInt := ix_toInt (by omega)
  omega
theorem two_C (s : Sto) (c : Nat) (p q : Int32) : f_Co_hasTwo s c p q = some (b2 (hasB p (s 1 c 5) && (hasB q (s 1 c 5) && !decide (p = q)))) := by
  simp only [f_Co_hasTwo, has_C, bP_s, jn]
  cases hasB p (s 1 c 5) <;> cases hasB q (s 1 c 5) <;> by_cases h : p = q <;> simp [b2, h]
theorem hasB_i {p n : Int32} (hn : 0 ≤ n.toInt) (h : inb p (ix n)) : hasB p n = true := by
  unfold hasB
  have h0 : (0 : Int32).toInt = 0 := by decide +kernel
  have e := ix_toInt hn
  have a := h.1
  have b := h.2
  simp only [Bool.and_eq_true, Bool.not_eq_true', decide_eq_false_iff_not, decide_eq_true_eq, i_lt, h0]
  omega
theorem hasB_m (n : Int32) : hasB (-1) n = false := by
  unfold hasB
  rw [decide_eq_true (show (-1 : Int32) < 0 by decide +kernel)]
  rfl
theorem prd_C {s : Sto} {c i n : Nat} (hc : HC n s c) (hm : okS n (gC s i)) : f_Co_paired s c i = some (b2 (!decide (mp (gC s i) = -1))) := by
  unfold f_Co_paired
  rw [two_C, bP_s, if_pos (b2_01 _)]
  show some (b2 (hasB (mp (gC s i)) (s 1 c 5) && (hasB (mq (gC s i)) (s 1 c 5) && !decide (mp (gC s i) = mq (gC s i))))) = _
  by_cases hp : mp (gC s i) = -1
  · rw [hp, hasB_m, Bool.false_and, decide_eq_true rfl]; rfl
  · obtain ⟨h1, h2⟩ := hm.1.two hp
    rw [← hc.2] at h1 h2
    rw [hasB_i hc.1.1 h1, hasB_i hc.1.1 h2, decide_eq_false (hm.2.resolve_left hp), decide_eq_false hp]
    rfl
theorem gr_C {s : Sto} {c i n : Nat} (hc : HC n s c) (he : okE n (eC s c)) (hm : okS n (gC s i)) : f_Co_changeInADay s c i = some (grV (eC s c) (gC s i)) := by
  rw [f_Co_changeInADay, prd_C hc hm, bP_s]
  unfold grV
  by_cases hp : mp (gC s i) = -1
  · rw [decide_eq_true hp, if_pos (show b2 (!true) = 0 from rfl), if_pos hp]
  · rw [decide_eq_false hp, if_neg (show ¬ b2 (!false) = 0 by decide +kernel), if_neg hp, cb_C he (show inb (s 4 i 3) n from (hm.1.two hp).1) (show inb (s 4 i 4) n from (hm.1.two hp).2), bP_s]
    rfl
theorem wm_C (s : Sto) (i : Nat) (x : Int32) : f_Mo_warm s i x = some (pC s i (wrm (gC s i) x)) := by
  unfold f_Mo_warm lt
  rw [kp_C]
  congr 1
  funext k' i' y
  unfold st pC wrm
  by_cases h : k' = 4 ∧ i' = i
  · obtain ⟨rfl, rfl⟩ := h
    by_cases h0 : y = 0
    · subst h0; simp [mw]; rfl
    · simp only [h0, and_false, if_false, and_self, if_true]
      by_cases h1 : y = 1
      · subst h1; rfl
      by_cases h2 : y = 2
      · subst h2; rfl
      by_cases h3 : y = 3
      · subst h3; rfl
      by_cases h4 : y = 4
      · subst h4; rfl
      simp [h1, h2, h3, h4]
  · have : ¬ (k' = 4 ∧ i' = i ∧ y = 0) := fun z => h ⟨z.1, z.2.1⟩
    rw [if_neg this, if_neg h]
theorem pC_ask (s : Sto) (i : Nat) (v x : Int32) : pC (st s 4 i 2 v) i (wrm (gC (st s 4 i 2 v) i) x) = pC s i (kp (mw (gC s i) + x), md (gC s i), v, mp (gC s i), mq (gC s i)) := by
  funext k' i' y
  unfold pC wrm
  by_cases h : k' = 4 ∧ i' = i
  · obtain ⟨rfl, rfl⟩ := h
    simp only [and_self, if_true]
    by_cases h0 : y = 0
    · subst h0; simp [gC, mw, st]
    by_cases h1 : y = 1
    · subst h1; simp [gC, md, st]
    by_cases h2 : y = 2
    · subst h2; simp [gC, mo, st]
    by_cases h3 : y = 3
    · subst h3; simp [gC, mp, st]
    by_cases h4 : y = 4
    · subst h4; simp [gC, mq, st]
    simp [h0, h1, h2, h3, h4, st]
  · rw [if_neg h, if_neg h]
    unfold st
    rw [if_neg (fun z => h ⟨z.1, z.2.1⟩)]
theorem ak_C {s : Sto} {c i n : Nat} (he : okE n (eC s c)) (hm : okM n (gC s i)) (hp : prd (gC s i)) (act : Int32) : f_Co_askIn s c i act = some (lwV (eC s c) (gC s i) act, pC s i (akV (eC s c) (gC s i) act)) := by
  simp only [f_Co_askIn, akV, jn]
  rw [lw_C he hm hp, bP_s]
  by_cases h3 : lwV (eC s c) (gC s i) act = 3
  · rw [if_pos h3, if_pos h3]
    simp only [lt]
    rw [wm_C, bV_s]
    rw [pC_ask]
    rfl
  · rw [if_neg h3, if_neg h3]
    by_cases h0 : lwV (eC s c) (gC s i) act = 0
    · rw [if_pos h0, if_pos h0, wm_C, bV_s]
    · rw [if_neg h0, if_neg h0, wm_C, bV_s]
