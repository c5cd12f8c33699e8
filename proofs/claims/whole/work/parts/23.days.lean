/-! the reference's moment; days that go by -/
theorem lf_M {s : Sto} {n : Nat} (he : okE n (eM s)) {p : Int32} (hp : inb p n) (act : Int32) : f_m_lifts s p act = some (b2 (lf1 (eM s) p act (s 17 0 2) (s 17 0 3))) := by
  unfold f_m_lifts
  have hk : inb (s 19 0 (ix p)) 6 := he.2 _ (inb_ix hp)
  rw [if_pos (inb_le hp he.1), hrt_M (inb_le hp he.1), bP_s]
  have hx : ¬ (lAl (s 20 0 (ix p)) (s 21 0 (ix p)) act = true ∧ hAl (s 20 0 (ix p)) (s 21 0 (ix p)) act = true) := by
    unfold lAl hAl
    cases BB (s 20 0 (ix p)) act <;> cases BB (s 21 0 (ix p)) act <;> simp
  have e : f_m_liftsBy (s 19 0 (ix p)) (hrV (lAl (s 20 0 (ix p)) (s 21 0 (ix p)) act) (hAl (s 20 0 (ix p)) (s 21 0 (ix p)) act)) (s 17 0 2) (s 17 0 3) = some (b2 (lf1 (eM s) p act (s 17 0 2) (s 17 0 3))) := by
    rw [of_ix hk.1]
    have h2 := lby_M (inb_ix hk) _ _ hx (s 17 0 2) (s 17 0 3)
    rw [h2]
    rfl
  rw [e, bP_s, if_pos (b2_01 _)]
theorem lw_M {s : Sto} {n : Nat} (he : okE n (eM s)) (hm : okM n (gM s)) (hp : prd (gM s)) (act : Int32) : f_m_lifting s act = some (lwV (eM s) (gM s) act) := by
  have h1 : inb (s 17 0 5) n := (hm.two hp).1
  have h2 : inb (s 17 0 6) n := (hm.two hp).2
  simp only [f_m_lifting, jn, lf_M he h1, lf_M he h2, bP_s]
  unfold lwV whV
  show _ = some (if lf1 (eM s) (s 17 0 5) act (s 17 0 2) (s 17 0 3) = true then if lf1 (eM s) (s 17 0 6) act (s 17 0 2) (s 17 0 3) = true then 3 else 1 else if lf1 (eM s) (s 17 0 6) act (s 17 0 2) (s 17 0 3) = true then 2 else 0)
  cases lf1 (eM s) (s 17 0 5) act (s 17 0 2) (s 17 0 3) <;> cases lf1 (eM s) (s 17 0 6) act (s 17 0 2) (s 17 0 3) <;> simp [b2, wh_lits.1, wh_lits.2.1, wh_lits.2.2.1, wh_lits.2.2.2.1, wh_lits.2.2.2.2]
theorem ad_M {s : Sto} {n : Nat} (he : okE n (eM s)) {p : Int32} (hp : inb p n) : f_m_makesOf s p = some (adE (eM s) p) := by
  have hk : inb (s 19 0 (ix p)) 6 := he.2 _ (inb_ix hp)
  simp only [f_m_makesOf, if_pos (inb_le hp he.1), lt]
  show _ = some (adV (ix (s 19 0 (ix p))) (s 22 0 (ix p)))
  have h := inb_ix hk
  rw [of_ix hk.1]
  generalize ix (s 19 0 (ix p)) = j at h
  have hj : ix (nI j) = j := ix_nI (by omega)
  rw [hj]
  unfold adV
  rcases six h with rfl | rfl | rfl | rfl | rfl | rfl <;> simp [nI_lits.1, nI_lits.2.1, nI_lits.2.2.1, nI_lits.2.2.2.1, nI_lits.2.2.2.2.1, nI_lits.2.2.2.2.2]
theorem m02 : (0 : Int32) - 2 = -2 := by decide +kernel
theorem gr_M {s : Sto} {n : Nat} (he : okE n (eM s)) (hm : okM n (gM s)) : f_m_growth s = some (grV (eM s) (gM s)) := by
  unfold f_m_growth f_m_isPair grV
  by_cases hp : s 17 0 5 = -1
  · rw [if_pos hp, bP_s, if_pos rfl, if_pos (show mp (gM s) = -1 from hp), m02]
  · rw [if_neg hp, bP_s, if_neg (by decide +kernel), if_neg (show ¬ mp (gM s) = -1 from hp), ad_M he (show inb (s 17 0 5) n from (hm.two hp).1), bP_s, ad_M he (show inb (s 17 0 6) n from (hm.two hp).2), bP_s]
    rfl
theorem pM_two (s : Sto) (v w : Int32) : st (st s 17 0 2 v) 17 0 3 w = pM s (v, w, mo (gM s), mp (gM s), mq (gM s)) := by
  funext k' i' y
  unfold pM
  by_cases h : k' = 17 ∧ i' = 0
  · obtain ⟨rfl, rfl⟩ := h
    simp only [and_self, if_true]
    by_cases h0 : y = 2
    · subst h0; simp [mw, st]
    by_cases h1 : y = 3
    · subst h1; simp [md, st]
    by_cases h2 : y = 4
    · subst h2; simp [gM, mo, st]
    by_cases h3 : y = 5
    · subst h3; simp [gM, mp, st]
    by_cases h4 : y = 6
    · subst h4; simp [gM, mq, st]
    simp [h0, h1, h2, h3, h4, st]
  · rw [if_neg h]
    unfold st
    rw [if_neg (fun z => h ⟨z.1, z.2.1⟩), if_neg (fun z => h ⟨z.1, z.2.1⟩)]
theorem pM_ask (s : Sto) (v w : Int32) : st (st s 17 0 4 v) 17 0 2 w = pM s (w, md (gM s), v, mp (gM s), mq (gM s)) := by
  funext k' i' y
  unfold pM
  by_cases h : k' = 17 ∧ i' = 0
  · obtain ⟨rfl, rfl⟩ := h
    simp only [and_self, if_true]
    by_cases h0 : y = 2
    · subst h0; simp [mw, st]
    by_cases h1 : y = 3
    · subst h1; simp [gM, md, st]
    by_cases h2 : y = 4
    · subst h2; simp [mo, st]
    by_cases h3 : y = 5
    · subst h3; simp [gM, mp, st]
    by_cases h4 : y = 6
    · subst h4; simp [gM, mq, st]
    simp [h0, h1, h2, h3, h4, st]
  · rw [if_neg h]
    unfold st
    rw [if_neg (fun z => h ⟨z.1, z.2.1⟩), if_neg (fun z => h ⟨z.1, z.2.1⟩)]
theorem pd_M {s : Sto} {n : Nat} (he : okE n (eM s)) (hm : okM n (gM s)) : f_m_pass s = some (pM s (pdV (eM s) (gM s))) := by
  simp only [f_m_pass, gr_M he hm, bP_s, kp_M, lt]
  have e : st s 17 0 2 (kp (s 17 0 2 + grV (eM s) (gM s))) 17 0 3 = s 17 0 3 := by simp [st]
  rw [e, pM_two]
  rfl
theorem or_z (x : Int32) : x ||| 0 = x := Int32.or_zero
theorem st_42 (s : Sto) (v : Int32) : st s 17 0 4 v 17 0 2 = s 17 0 2 := by simp [st]
theorem ak_M {s : Sto} {n : Nat} (he : okE n (eM s)) (hm : okM n (gM s)) (hp : prd (gM s)) (act : Int32) : f_m_asks s act = some (lwV (eM s) (gM s) act, pM s (akV (eM s) (gM s) act)) := by
  simp only [f_m_asks, lw_M he hm hp, bP_s, jn, lt, kp_M, st_42]
  unfold akV
  by_cases h3 : lwV (eM s) (gM s) act = 3
  · rw [if_pos h3, if_pos h3, if_pos h3, pM_ask]
    rfl
  · rw [if_neg h3, if_neg h3, if_neg h3, or_z]
    by_cases h0 : lwV (eM s) (gM s) act = 0
    · rw [if_pos h0, if_pos h0, pM_ask]
      rfl
    · rw [if_neg h0, if_neg h0, pM_ask]
      rfl
def itN {α : Type} (f : α → α) : Nat → α → α
  | 0, x => x
  | n + 1, x => itN f n (f x)
theorem itN_s {α : Type} (f : α → α) : ∀ (n : Nat) (x : α), itN f (n + 1) x = f (itN f n x)
  | 0, _ => rfl
  | n + 1, x => itN_s f n (f x)
def pdN (e : HEnv) (n : Nat) (m : M5) : M5 := itN (pdV e) n m
theorem pdN_ok {k : Nat} {e : HEnv} : ∀ (n : Nat) {m : M5}, okM k m → okM k (pdN e n m)
  | 0, _, h => h
  | n + 1, _, h => pdN_ok n (m := pdV e _) h
theorem pdN_os {k : Nat} {e : HEnv} : ∀ (n : Nat) {m : M5}, okS k m → okS k (pdN e n m)
  | 0, _, h => h
  | n + 1, _, h => pdN_os n (m := pdV e _) h
theorem pdN_prd {e : HEnv} : ∀ (n : Nat) {m : M5}, prd m → prd (pdN e n m)
  | 0, _, h => h
  | n + 1, _, h => pdN_prd n (m := pdV e _) h
theorem pdN_pq (e : HEnv) : ∀ (n : Nat) (m : M5), mo (pdN e n m) = mo m ∧ mp (pdN e n m) = mp m ∧ mq (pdN e n m) = mq m
  | 0, _ => ⟨rfl, rfl, rfl⟩
  | n + 1, m => pdN_pq e n (pdV e m)
theorem eqE.pdn {k : Nat} {e e' : HEnv} (h : eqE k e e') (n : Nat) : ∀ {m : M5}, okM k m → pdN e n m = pdN e' n m := by
  induction n with
  | zero => intro m _; exact (show pdN e 0 m = m from rfl).trans (show m = pdN e' 0 m from rfl)
  | succ n ih =>
    intro m hm
    show pdN e n (pdV e m) = pdN e' n (pdV e' m)
    rw [h.ps hm]
    exact ih (pdV_ok (e := e') hm)
theorem grV_pd (e : HEnv) (m : M5) : grV e (pdV e m) = grV e m := rfl
/-- the warmth alone -/
def wN (g : Int32) (n : Nat) (w : Int32) : Int32 := itN (fun w => kp (w + g)) n w
theorem pdN_w (e : HEnv) : ∀ (n : Nat) (m : M5), pdN e n m = (wN (grV e m) n (mw m), md m + nI n, mo m, mp m, mq m)
  | 0, m => by
    show m = (mw m, md m + nI 0, mo m, mp m, mq m)
    rw [nI_0, Int32.add_zero]
    rfl
  | n + 1, m => by
    show pdN e n (pdV e m) = _
    rw [pdN_w e n (pdV e m), grV_pd]
    show (wN (grV e m) n (kp (mw m + grV e m)), md m + 1 + nI n, mo m, mp m, mq m) = (wN (grV e m) n (kp (mw m + grV e m)), md m + nI (n + 1), mo m, mp m, mq m)
    rw [nI_succ, Int32.add_assoc, Int32.add_comm 1 (nI n)]
/-- the class's days: warmed n times, then the date -/
theorem pdl_C (i : Nat) (g : Int32) (K : Sto → Option Sto) (N : Nat) (hN : N < 2147483648) : ∀ (r a fuel : Nat) (s : Sto), a + r = N → r < fuel → fx fuel (l_Mo_pass_2 i (nI N) g K) (fun _ _ => none) s (nI a) = K (pC s i (wN g r (mw (gC s i)), md (gC s i), mo (gC s i), mp (gC s i), mq (gC s i)))
  | 0, a, fuel, s, h, hf => by
    obtain ⟨f, rfl⟩ : ∃ f, fuel = f + 1 := ⟨fuel - 1, by omega⟩
    rw [fx_s]
    unfold l_Mo_pass_2
    rw [if_pos ((nI_leI (by omega) (by omega)).mpr (by omega))]
    have : pC s i (wN g 0 (mw (gC s i)), md (gC s i), mo (gC s i), mp (gC s i), mq (gC s i)) = s := pC_gC s i
    rw [this]
  | r + 1, a, fuel, s, h, hf => by
    obtain ⟨f, rfl⟩ : ∃ f, fuel = f + 1 := ⟨fuel - 1, by omega⟩
    rw [fx_s]
    unfold l_Mo_pass_2
    rw [if_neg (fun z => by have := (nI_leI (by omega) (by omega)).mp z; omega), wm_C, bV_s, nI_1]
    have ih := pdl_C i g K N hN r (a + 1) f (pC s i (wrm (gC s i) g)) (by omega) (by omega)
    unfold l_Mo_pass_2 at ih
    rw [ih, gC_pC, pC_pC]
    rfl
theorem pC_date (s : Sto) (i : Nat) (m : M5) (v : Int32) : st (pC s i m) 4 i 1 (pC s i m 4 i 1 + v) = pC s i (mw m, md m + v, mo m, mp m, mq m) := by
  funext k' i' y
  unfold st
  by_cases h : k' = 4 ∧ i' = i
  · obtain ⟨rfl, rfl⟩ := h
    by_cases h1 : y = 1
    · subst h1; simp [pC, md]
    · rw [if_neg (fun z => h1 z.2.2)]
      unfold pC
      simp only [and_self, if_true, h1, if_false]
      rfl
  · rw [if_neg (fun z => h ⟨z.1, z.2.1⟩)]
    unfold pC
    rw [if_neg h, if_neg h]
theorem mps_C (s : Sto) (i : Nat) (g : Int32) {N : Nat} (hN : N < 1000) : f_Mo_pass s i (nI N) g = some (pC s i (wN g N (mw (gC s i)), md (gC s i) + nI N, mo (gC s i), mp (gC s i), mq (gC s i))) := by
  simp only [f_Mo_pass, jn, lt]
  have h := pdl_C i g (fun s2 => some (st s2 4 i 1 (s2 4 i 1 + nI N))) N (by omega) N 0 1000 s (by omega) (by omega)
  rw [nI_0] at h
  rw [h, pC_date]
  rfl
theorem mpg_C {s : Sto} {i N : Nat} {g : Int32} (e : HEnv) (hg : grV e (gC s i) = g) (hN : N < 1000) : f_Mo_pass s i (nI N) g = some (pC s i (pdN e N (gC s i))) := by
  rw [mps_C s i g hN, pdN_w, hg]
theorem pdn_C {s : Sto} {c i n N : Nat} (hc : HC n s c) (he : okE n (eC s c)) (hm : okS n (gC s i)) (hN : N < 1000) : f_Co_passDays s c i (nI N) = some (pC s i (pdN (eC s c) N (gC s i))) := by
  rw [f_Co_passDays, gr_C hc he hm, bP_s, mpg_C (eC s c) rfl hN, bV_s]
theorem akV_gr (e : HEnv) (m : M5) (act : Int32) : grV e (akV e m act) = grV e m := by
  unfold grV; rw [(akV_pq e m act).1, (akV_pq e m act).2]
