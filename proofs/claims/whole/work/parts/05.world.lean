/-! The world: all objects of the class and of the reference, by kind and number; their int slots are one store, the reference's long slots another. -/
abbrev Sto : Type := Nat → Nat → Nat → Int32
abbrev Lng : Type := Nat → Int64
def st (σ : Sto) (k i s : Nat) (v : Int32) : Sto := fun k' i' s' => if k' = k ∧ i' = i ∧ s' = s then v else σ k' i' s'
def stl (L : Lng) (s : Nat) (v : Int64) : Lng := fun s' => if s' = s then v else L s'
/-- all of one row put anew -/
def str (σ : Sto) (k i : Nat) (f : Nat → Int32) : Sto := fun k' i' s' => if k' = k ∧ i' = i then f s' else σ k' i' s'
def cmb (σ μ : Sto) : Sto := fun k => if k < 17 then σ k else μ k
theorem cmb_C {σ μ : Sto} {k : Nat} (h : k < 17) : cmb σ μ k = σ k := if_pos h
theorem cmb_M {σ μ : Sto} {k : Nat} (h : ¬ k < 17) : cmb σ μ k = μ k := if_neg h
theorem cmb_stC {σ μ : Sto} {k i s : Nat} {v : Int32} (h : k < 17) : cmb (st σ k i s v) μ = st (cmb σ μ) k i s v := by
  funext k' i' s'
  unfold cmb st
  by_cases h1 : k' < 17
  · simp [h1]
  · have h2 : ¬ k' = k := fun e => h1 (by omega)
    simp [h1, h2]
theorem cmb_stM {σ μ : Sto} {k i s : Nat} {v : Int32} (h : ¬ k < 17) : cmb σ (st μ k i s v) = st (cmb σ μ) k i s v := by
  funext k' i' s'
  unfold cmb st
  by_cases h1 : k' < 17
  · have h2 : ¬ k' = k := fun e => h (by omega)
    simp [h1, h2]
  · simp [h1]
theorem cmb_strC {σ μ : Sto} {k i : Nat} {f : Nat → Int32} (h : k < 17) : cmb (str σ k i f) μ = str (cmb σ μ) k i f := by
  funext k' i' s'
  unfold cmb str
  by_cases h1 : k' < 17
  · simp [h1]
  · have h2 : ¬ k' = k := fun e => h1 (by omega)
    simp [h1, h2]
theorem st_row (σ : Sto) (k i s : Nat) (v : Int32) : st σ k i s v = str σ k i (upd (σ k i) s v) := by
  funext k' i' s'
  unfold st str upd
  by_cases h1 : k' = k
  · by_cases h2 : i' = i
    · subst h1; subst h2; by_cases h3 : s' = s <;> simp [h3]
    · simp [h2]
  · simp [h1]
/-- how many of a kind; the first place of a kind -/
def nK (k : Nat) : Nat := if k = 1 then 4 else if k = 2 then 24 else if k = 3 then 24 else if k = 4 then 42 else if k = 6 then 6 else if k = 8 then 4 else if k = 9 then 4 else if k = 10 then 4 else if k < 36 then 1 else 0
def offK (k : Nat) : Nat := [0, 1, 5, 29, 53, 95, 96, 102, 103, 107, 111, 115, 116, 117, 118, 119, 120].getD k (104 + k)
def plc (k i : Nat) : Nat := offK k + i
def kiOf (n : Nat) : Nat × Nat := if n < 1 then (0, n) else if n < 5 then (1, n - 1) else if n < 29 then (2, n - 5) else if n < 53 then (3, n - 29) else if n < 95 then (4, n - 53) else if n < 96 then (5, n - 95) else if n < 102 then (6, n - 96) else if n < 103 then (7, n - 102) else if n < 107 then (8, n - 103) else if n < 111 then (9, n - 107) else if n < 115 then (10, n - 111) else (n - 104, 0)
def V (k i : Nat) : Prop := i < nK k
theorem nK_big {k : Nat} (h : 36 ≤ k) : nK k = 0 := by
  unfold nK
  rw [if_neg (by omega), if_neg (by omega), if_neg (by omega), if_neg (by omega), if_neg (by omega), if_neg (by omega), if_neg (by omega), if_neg (by omega), if_neg (by omega)]
theorem V_k {k i : Nat} (h : V k i) : k < 36 := by
  unfold V at h
  rcases Nat.lt_or_ge k 36 with g | g
  · exact g
  · rw [nK_big g] at h; omega
theorem ki_all : ∀ k, k < 36 → ∀ i, i < nK k → kiOf (plc k i) = (k, i) ∧ plc k i < 140 := by decide +kernel
theorem ki_plc {k i : Nat} (h : V k i) : kiOf (plc k i) = (k, i) := (ki_all k (V_k h) i h).1
theorem plc_lt {k i : Nat} (h : V k i) : plc k i < 140 := (ki_all k (V_k h) i h).2
theorem plc_ki : ∀ n, n < 140 → plc (kiOf n).1 (kiOf n).2 = n := by decide +kernel
/-- what is fixed for a run: classes, array classes, addresses, the first new address, the text constants' addresses -/
abbrev Gb : Type := va_G × (Nat → ClassId) × (Nat → Nat) × Nat × (Nat → Nat) × (Nat → Nat)
def ad (G : Gb) (k i : Nat) : Nat := G.2.2.1 (plc k i)
def AB (G : Gb) : Nat → Prop := fun q => G.2.2.2.1 ≤ q
def GA (G : Gb) : Prop := (∀ a b, a < 140 → b < 140 → G.2.2.1 a = G.2.2.1 b → a = b) ∧ ∀ a, a < 140 → G.2.2.2.1 ≤ G.2.2.1 a
def tys (G : Gb) : List (ClassId × FieldType) := [(G.2.1 0, .int), (G.2.1 1, .boolean), (G.2.1 2, .object "CrownTwo$Plain"), (G.2.1 3, .object "CrownTwo$Heir"), (G.2.1 4, .object "CrownTwo$Note"), (G.2.1 5, .object "CrownTwo$Moment"), (G.2.1 6, .object "CrownTwo$Court")]
def arI (G : Gb) (n : Nat) (f : Nat → Int32) : va_E := .inl (G.2.1 0, n, .inl f)
def arZ (G : Gb) (n : Nat) (f : Nat → Int32) : va_E := .inl (G.2.1 1, n, .inl f)
def arQ (G : Gb) (c n : Nat) (f : Nat → Option Nat) : va_E := .inl (G.2.1 c, n, .inr (.inr (.inr (.inr f))))
/-- the class of a kind of heirs -/
def kdc (i : Nat) : Nat := [7, 9, 4, 8, 10, 2].getD i 7
/-- the place of a Moment: of a court now, of its past, the trial, the steps -/
def cel (G : Gb) (k i : Nat) (f : Nat → Int32) (L : Lng) : va_E := match k with
  | 0 => .inr (11, [.ref (ad G 1 0), .ref (ad G 1 1), .ref (ad G 11 0), .ref (ad G 12 0), .ref (ad G 5 0), .ref (ad G 4 36), .ref (ad G 13 0), .ref (ad G 14 0), .ref (ad G 15 0), .int (f 9), .int (f 10), .int (f 11), .int (f 12), .int (f 13), .int (f 14)])
  | 1 => .inr (0, [.ref (ad G 7 0), .ref (ad G 8 i), .ref (ad G 9 i), .ref (ad G 10 i), .ref (ad G 4 i), .int (f 5), .int (f 6), .int (f 7)])
  | 2 => .inr (3, [.int (f 0), .int (f 1), .int (f 2), .int (f 3)])
  | 3 => .inr (6, [.int (f 0), .int (f 1), .int (f 2), .int (f 3), .int (f 4)])
  | 4 => .inr (5, [.int (f 0), .int (f 1), .int (f 2), .int (f 3), .int (f 4)])
  | 5 => .inr (1, [.ref (ad G 16 0), .int (f 1), .int (f 2), .int (f 3), .int (f 4), .int (f 5)])
  | 6 => .inr (kdc i, [])
  | 7 => arQ G 2 6 (fun j => some (ad G 6 j))
  | 8 => arQ G 3 6 (fun j => some (ad G 2 (6 * i + j)))
  | 9 => arQ G 4 6 (fun j => some (ad G 3 (6 * i + j)))
  | 10 => arQ G 5 8 (fun j => some (ad G 4 (4 + 8 * i + j)))
  | 11 => arQ G 6 2 (fun j => some (ad G 1 (2 + j)))
  | 12 => arZ G 2 f
  | 13 => arQ G 5 5 (fun j => some (ad G 4 (37 + j)))
  | 14 => arI G 4 f
  | 15 => arI G 4 f
  | 16 => arI G 150 f
  | 17 => .inr (12, [.ref (ad G 18 0), .int (f 1), .int (f 2), .int (f 3), .int (f 4), .int (f 5), .int (f 6), .int (f 7), .ref (ad G 19 0), .ref (ad G 20 0), .ref (ad G 21 0), .ref (ad G 22 0), .ref (ad G 23 0), .ref (ad G 24 0), .ref (ad G 25 0), .ref (ad G 26 0), .ref (ad G 27 0), .ref (ad G 28 0), .int (f 18), .int (f 19), .int (f 20), .int (f 21), .int (f 22), .int (f 23), .ref (ad G 29 0), .int (f 25), .ref (ad G 30 0), .int (f 27), .ref (ad G 31 0), .ref (ad G 32 0), .ref (ad G 33 0), .long (L 31), .long (L 32), .ref (ad G 34 0), .ref (ad G 35 0), .long (L 35)])
  | 18 => arI G 3 f
  | 28 => arI G 150 f
  | 29 => arI G 24 f
  | 30 => arI G 40 f
  | 31 => arI G 5 f
  | 32 => arI G 4 f
  | 33 => arI G 4 f
  | 34 => arI G 204 f
  | 35 => arI G 2 f
  | _ => arI G 6 f
def WS (G : Gb) (τ : Sto) (L : Lng) : va_W := (List.range 140).map (fun n => (G.2.2.1 n, cel G (kiOf n).1 (kiOf n).2 (τ (kiOf n).1 (kiOf n).2) L))
theorem WS_n {G : Gb} {τ : Sto} {L : Lng} {n : Nat} (h : n < 140) : (WS G τ L)[n]? = some (G.2.2.1 n, cel G (kiOf n).1 (kiOf n).2 (τ (kiOf n).1 (kiOf n).2) L) := by
  unfold WS
  rw [List.getElem?_map, List.getElem?_range h]
  rfl
theorem WS_len {G : Gb} {τ : Sto} {L : Lng} : (WS G τ L).length = 140 := by simp [WS]
theorem WS_get {G : Gb} {τ : Sto} {L : Lng} {k i : Nat} (h : V k i) : (WS G τ L)[plc k i]? = some (ad G k i, cel G k i (τ k i) L) := by
  rw [WS_n (plc_lt h), ki_plc h]
  rfl
theorem WS_set {G : Gb} {τ : Sto} {L : Lng} {k i : Nat} (h : V k i) (f : Nat → Int32) : (WS G τ L).set (plc k i) (ad G k i, cel G k i f L) = WS G (str τ k i f) L := by
  apply List.ext_getElem?
  intro n
  rcases Nat.lt_or_ge n 140 with hn | hn
  · rw [WS_n hn]
    by_cases e : plc k i = n
    · subst e
      rw [List.getElem?_set_self (by rw [WS_len]; exact plc_lt h), ki_plc h]
      have e2 : str τ k i f k i = f := by funext s'; simp [str]
      rw [e2]
      rfl
    · rw [List.getElem?_set_ne e, WS_n hn]
      have : str τ k i f (kiOf n).1 (kiOf n).2 = τ (kiOf n).1 (kiOf n).2 := by
        funext s'
        unfold str
        rw [if_neg]
        rintro ⟨a, b⟩
        apply e
        have := plc_ki n hn
        rw [a, b] at this
        exact this
      rw [this]
  · rw [List.getElem?_eq_none (by rw [List.length_set, WS_len]; exact hn), List.getElem?_eq_none (by rw [WS_len]; exact hn)]
/-- only the reference's own cell holds longs -/
theorem cel_L {G : Gb} {k i : Nat} {f : Nat → Int32} {L L' : Lng} (h : ¬ k = 17) : cel G k i f L = cel G k i f L' := by
  unfold cel
  split <;> first | rfl | exact absurd rfl h
theorem WS_setL {G : Gb} {τ : Sto} {L L' : Lng} : (WS G τ L).set (plc 17 0) (ad G 17 0, cel G 17 0 (τ 17 0) L') = WS G τ L' := by
  apply List.ext_getElem?
  intro n
  have h : V 17 0 := show 0 < nK 17 by decide +kernel
  rcases Nat.lt_or_ge n 140 with hn | hn
  · rw [WS_n hn]
    by_cases e : plc 17 0 = n
    · subst e
      rw [List.getElem?_set_self (by rw [WS_len]; exact plc_lt h), ki_plc h]
      rfl
    · rw [List.getElem?_set_ne e, WS_n hn, cel_L]
      intro a
      apply e
      have h2 := plc_ki n hn
      rw [a] at h2
      have : (kiOf n).2 = 0 := by
        have : ∀ n, n < 140 → (kiOf n).1 = 17 → (kiOf n).2 = 0 := by decide +kernel
        exact this n hn a
      rw [this] at h2
      exact h2
  · rw [List.getElem?_eq_none (by rw [List.length_set, WS_len]; exact hn), List.getElem?_eq_none (by rw [WS_len]; exact hn)]
theorem WS_D {G : Gb} (hG : GA G) (τ : Sto) (L : Lng) : va_D (AB G) (WS G τ L) := by
  have key : ∀ (n : Nat) (q : Nat × va_E), (WS G τ L)[n]? = some q → n < 140 ∧ q.1 = G.2.2.1 n := by
    intro n q hq
    have hn : n < 140 := by
      have := (List.getElem?_eq_some_iff.mp hq).1
      rwa [WS_len] at this
    rw [WS_n hn] at hq
    cases hq
    exact ⟨hn, rfl⟩
  refine ⟨fun i j p q hi hj e => ?_, fun k q hk => ?_⟩
  · obtain ⟨a1, a2⟩ := key i p hi
    obtain ⟨b1, b2⟩ := key j q hj
    exact hG.1 i j a1 b1 (by rw [← a2, ← b2]; exact e)
  · obtain ⟨a1, a2⟩ := key k q hk
    show G.2.2.2.1 ≤ q.1
    rw [a2]
    exact hG.2 k a1
def HP (G : Gb) (p : Sto × Lng) (H : Heap) : Prop := va_P G.1 vwCl (WS G p.1 p.2) H
def EC (μ : Sto) (L : Lng) : Sto → Sto × Lng := fun σ => (cmb σ μ, L)
def EM (σ : Sto) (L : Lng) : Sto → Sto × Lng := fun μ => (cmb σ μ, L)
def EL (σ : Sto) : Sto × Lng → Sto × Lng := fun q => (cmb σ q.1, q.2)
