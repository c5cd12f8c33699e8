/-! what an heir lifts for, makes; a moment and what becomes of it, as values -/
def lAl (lk ht act : Int32) : Bool := BB lk act && !BB ht act
def hAl (lk ht act : Int32) : Bool := BB ht act && !BB lk act
def plV (l k : Bool) (w : Int32) : Bool := l || (!k && decide (w < 60))
def suV (l k : Bool) (w : Int32) : Bool := plV l k w && decide (w < 80)
def lfV (j : Nat) (l k : Bool) (w d : Int32) : Bool := if j = 1 then suV l k w else if j = 3 then l else if j = 4 then suV l k w || decide (d - d / 7 * 7 = 0) else if j = 5 then plV l k w || decide (w < 30) else plV l k w
def adV (j : Nat) (t : Int32) : Int32 := if j = 1 then t / 5 + 1 else if j = 2 then t / 5 - 3 else if j = 4 then (t / 5 + 1) / 2 else if j = 5 then 2 * (t / 5 - 3) else t / 5
theorem six {j : Nat} (h : j < 6) : j = 0 ∨ j = 1 ∨ j = 2 ∨ j = 3 ∨ j = 4 ∨ j = 5 := by omega
theorem lik_C (s : Sto) (i : Nat) (act : Int32) : f_He_likesAlone s i act = some (b2 (lAl (s 2 i 1) (s 2 i 2) act)) := by
  unfold f_He_likesAlone lAl
  by_cases h : ((s 2 i 1) &&& ((s 2 i 2) ^^^ (-1 : Int32))) &&& ((1 : Int32) <<< (act &&& 31)) = (0 : Int32)
  · rw [if_pos h]
    rw [BB_tst, BB_and, BB_not] at h
    rw [h]; rfl
  · rw [if_neg h]
    rw [BB_tst, BB_and, BB_not] at h
    rw [Bool.not_eq_false] at h
    rw [h]; rfl
theorem hat_C (s : Sto) (i : Nat) (act : Int32) : f_He_hatesAlone s i act = some (b2 (hAl (s 2 i 1) (s 2 i 2) act)) := by
  unfold f_He_hatesAlone hAl
  by_cases h : ((s 2 i 2) &&& ((s 2 i 1) ^^^ (-1 : Int32))) &&& ((1 : Int32) <<< (act &&& 31)) = (0 : Int32)
  · rw [if_pos h]
    rw [BB_tst, BB_and, BB_not] at h
    rw [h]; rfl
  · rw [if_neg h]
    rw [BB_tst, BB_and, BB_not] at h
    rw [Bool.not_eq_false] at h
    rw [h]; rfl
theorem pl_C (l k : Bool) (w d : Int32) : f_Pl_lifts (b2 l) (b2 k) w d = some (b2 (plV l k w)) := by
  unfold f_Pl_lifts plV jn
  by_cases h : (60 : Int32) ≤ w
  · have h2 : ¬ w < 60 := Int32.not_lt.mpr h
    cases l <;> cases k <;> simp [b2, h, h2]
  · have h2 : w < 60 := Int32.not_le.mp h
    cases l <;> cases k <;> simp [b2, h, h2]
theorem su_C (l k : Bool) (w d : Int32) : f_Su_lifts (b2 l) (b2 k) w d = some (b2 (suV l k w)) := by
  unfold f_Su_lifts suV jn
  rw [pl_C, bP_s]
  generalize plV l k w = a
  by_cases h : (80 : Int32) ≤ w
  · have h2 : ¬ w < 80 := Int32.not_lt.mpr h
    cases a <;> simp [b2, h, h2]
  · have h2 : w < 80 := Int32.not_le.mp h
    cases a <;> simp [b2, h, h2]
theorem ti_C (l k : Bool) (w d : Int32) : f_Ti_lifts (b2 l) (b2 k) w d = some (b2 (suV l k w || decide (d - d / 7 * 7 = 0))) := by
  unfold f_Ti_lifts jn
  rw [su_C, bP_s]
  generalize suV l k w = a
  by_cases h : d - d / 7 * 7 = 0
  · cases a <;> simp [b2, h]
  · cases a <;> simp [b2, h]
theorem fo_C (l k : Bool) (w d : Int32) : f_Fo_lifts (b2 l) (b2 k) w d = some (b2 (plV l k w || decide (w < 30))) := by
  unfold f_Fo_lifts jn
  rw [pl_C, bP_s]
  generalize plV l k w = a
  by_cases h : (30 : Int32) ≤ w
  · have h2 : ¬ w < 30 := Int32.not_lt.mpr h
    cases a <;> simp [b2, h, h2]
  · have h2 : w < 30 := Int32.not_le.mp h
    cases a <;> simp [b2, h, h2]
theorem pr_C (l k : Bool) (w d : Int32) : f_Pr_lifts (b2 l) (b2 k) w d = some (b2 l) := by
  unfold f_Pr_lifts
  rw [if_pos (b2_01 l)]
theorem dy_C {j : Nat} (h : j < 6) (l k : Bool) (w d : Int32) : dy_lifts j (b2 l) (b2 k) w d = some (b2 (lfV j l k w d)) := by
  unfold dy_lifts lfV
  rcases six h with rfl | rfl | rfl | rfl | rfl | rfl
  · simp [pl_C]
  · simp [su_C]
  · simp [pl_C]
  · simp [pr_C]
  · simp [ti_C]
  · simp [fo_C]
theorem da_C {j : Nat} (h : j < 6) (t : Int32) : dy_adds j t = some (adV j t) := by
  unfold dy_adds adV
  rcases six h with rfl | rfl | rfl | rfl | rfl | rfl <;> simp [f_Pl_adds, f_Su_adds, f_Jo_adds, f_Ti_adds, f_Fo_adds, bP_s]
/-- the reference's heart: 0 likes alone, 1 hates alone, 2 neither -/
def hrV (l k : Bool) : Int32 := if l then 0 else if k then 1 else 2
theorem has_M (x k : Int32) : f_m_has x k = some (b2 (BB x k)) := by
  unfold f_m_has
  by_cases h : ((x >>> (k &&& 31)) &&& 1) = 1
  · rw [if_pos h]; rw [BB_shr] at h; rw [h]; rfl
  · rw [if_neg h]; rw [BB_shr, Bool.not_eq_true] at h; rw [h]; rfl
theorem hrt_M {s : Sto} {p : Int32} (hp : inb p 6) (act : Int32) : f_m_heartOf s p act = some (hrV (lAl (s 20 0 (ix p)) (s 21 0 (ix p)) act) (hAl (s 20 0 (ix p)) (s 21 0 (ix p)) act)) := by
  unfold f_m_heartOf jn
  rw [if_pos hp, has_M, bP_s, if_pos hp, has_M, bP_s]
  unfold lAl hAl hrV
  cases BB (s 20 0 (ix p)) act <;> cases BB (s 21 0 (ix p)) act <;> simp [b2]
theorem nI_lits : nI 0 = 0 ∧ nI 1 = 1 ∧ nI 2 = 2 ∧ nI 3 = 3 ∧ nI 4 = 4 ∧ nI 5 = 5 := by decide +kernel
theorem lby_M {j : Nat} (h : j < 6) (l k : Bool) (hx : ¬ (l = true ∧ k = true)) (w d : Int32) : f_m_liftsBy (nI j) (hrV l k) w d = some (b2 (lfV j l k w d)) := by
  unfold f_m_liftsBy lfV plV suV plV jn hrV
  have e60 : (w < 60) = ¬ (60 : Int32) ≤ w := propext Int32.not_le.symm
  have e80 : (w < 80) = ¬ (80 : Int32) ≤ w := propext Int32.not_le.symm
  have e30 : (w < 30) = ¬ (30 : Int32) ≤ w := propext Int32.not_le.symm
  simp only [e60, e80, e30]
  generalize hc : (d - d / 7 * 7) = d7
  by_cases h60 : (60 : Int32) ≤ w <;> by_cases h80 : (80 : Int32) ≤ w <;> by_cases h30 : (30 : Int32) ≤ w <;> by_cases h7 : d7 = 0 <;> rcases six h with rfl | rfl | rfl | rfl | rfl | rfl <;> cases l <;> cases k <;> first | (exact absurd ⟨rfl, rfl⟩ hx) | simp [h60, h80, h30, h7, b2, nI_lits.1, nI_lits.2.1, nI_lits.2.2.1, nI_lits.2.2.2.1, nI_lits.2.2.2.2.1, nI_lits.2.2.2.2.2]
