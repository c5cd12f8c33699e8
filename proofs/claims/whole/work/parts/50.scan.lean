/-! read: the text, its runs, its tokens -/
def isL (c : Int32) : Bool := !outB c 97 122
def isF (c : Int32) : Bool := !outB c 48 57
def isS (c : Int32) : Bool := decide (c = 32)
def rn (P : Int32 → Bool) (T : Nat → Int32) : Nat → Nat → Nat
  | 0, p => p
  | r + 1, p => if P (T p) = true then rn P T r (p + 1) else p
theorem rn_0 (P : Int32 → Bool) (T : Nat → Int32) (p : Nat) : rn P T 0 p = p := rfl
theorem rn_s (P : Int32 → Bool) (T : Nat → Int32) (r p : Nat) : rn P T (r + 1) p = if P (T p) = true then rn P T r (p + 1) else p := rfl
/-- the end of the run that begins at p -/
def ed (P : Int32 → Bool) (T : Nat → Int32) (n p : Nat) : Nat := rn P T (n - p) p
theorem ed_n {P : Int32 → Bool} {T : Nat → Int32} {n p : Nat} (h : n ≤ p) : ed P T n p = p := by
  unfold ed; rw [show n - p = 0 by omega, rn_0]
theorem ed_s {P : Int32 → Bool} {T : Nat → Int32} {n p : Nat} (h : p < n) (hp : P (T p) = true) : ed P T n p = ed P T n (p + 1) := by
  unfold ed; rw [show n - p = (n - (p + 1)) + 1 by omega, rn_s, if_pos hp]
theorem ed_f {P : Int32 → Bool} {T : Nat → Int32} {n p : Nat} (h : p < n) (hp : ¬ P (T p) = true) : ed P T n p = p := by
  unfold ed; rw [show n - p = (n - (p + 1)) + 1 by omega, rn_s, if_neg hp]
theorem ed_all {P : Int32 → Bool} {T : Nat → Int32} {n : Nat} : ∀ (r p : Nat), p + r = n → p ≤ ed P T n p ∧ ed P T n p ≤ n ∧ (ed P T n p < n → ¬ P (T (ed P T n p)) = true)
  | 0, p, h => by rw [ed_n (by omega)]; omega
  | r + 1, p, h => by
    by_cases hp : P (T p) = true
    · rw [ed_s (by omega) hp]
      have := ed_all (P := P) (T := T) (n := n) r (p + 1) (by omega)
      exact ⟨by omega, this.2.1, this.2.2⟩
    · rw [ed_f (by omega) hp]
      exact ⟨by omega, by omega, fun _ => hp⟩
theorem ed_le {P : Int32 → Bool} {T : Nat → Int32} {n p : Nat} (h : p ≤ n) : p ≤ ed P T n p ∧ ed P T n p ≤ n := by
  have := ed_all (P := P) (T := T) (n := n) (n - p) p (by omega)
  omega
theorem ed_ed {P : Int32 → Bool} {T : Nat → Int32} {n p : Nat} (h : p ≤ n) : ed P T n (ed P T n p) = ed P T n p := by
  have := ed_all (P := P) (T := T) (n := n) (n - p) p (by omega)
  rcases Nat.lt_or_ge (ed P T n p) n with q | q
  · exact ed_f q (this.2.2 q)
  · exact ed_n q
theorem ed_lt {P : Int32 → Bool} {T : Nat → Int32} {n p : Nat} (h : p < n) (hp : P (T p) = true) : p < ed P T n p := by
  rw [ed_s h hp]
  have := ed_le (P := P) (T := T) (n := n) (p := p + 1) (by omega)
  omega
def skp (T : Nat → Int32) (n p : Nat) : Nat := ed isS T n p
theorem skp_n {T : Nat → Int32} {n p : Nat} (h : n ≤ p) : skp T n p = p := ed_n h
theorem skp_s {T : Nat → Int32} {n p : Nat} (h : p < n) (hp : isS (T p) = true) : skp T n p = skp T n (p + 1) := ed_s h hp
theorem skp_f {T : Nat → Int32} {n p : Nat} (h : p < n) (hp : ¬ isS (T p) = true) : skp T n p = p := ed_f h hp
theorem skp_le {T : Nat → Int32} {n p : Nat} (h : p ≤ n) : p ≤ skp T n p ∧ skp T n p ≤ n := ed_le h
theorem skp_skp {T : Nat → Int32} {n p : Nat} (h : p ≤ n) : skp T n (skp T n p) = skp T n p := ed_ed h
/-- the number that figures spell -/
def nv (T : Nat → Int32) : Nat → Nat → Int32 → Int32
  | 0, _, v => v
  | r + 1, p, v => nv T r (p + 1) (10 * v + T p - 48)
theorem nv_0 (T : Nat → Int32) (p : Nat) (v : Int32) : nv T 0 p v = v := rfl
theorem nv_s (T : Nat → Int32) (r p : Nat) (v : Int32) : nv T (r + 1) p v = nv T r (p + 1) (10 * v + T p - 48) := rfl
def srt (T : Nat → Int32) (n p : Nat) : Int32 := if p < n then (if isL (T p) = true then 1 else if isF (T p) = true then (if ed isF T n p ≤ p + 2 then 2 else 4) else if T p = 59 then 3 else 4) else 0
def bh (T : Nat → Int32) (n p : Nat) : Nat := if p < n then (if isL (T p) = true then ed isL T n p else if isF (T p) = true then ed isF T n p else p + 1) else p
def nmv (T : Nat → Int32) (n p : Nat) : Int32 := if p < n then (if isL (T p) = true then 0 else if isF (T p) = true then nv T (ed isF T n p - p) p 0 else 0) else 0
theorem isLF {c : Int32} (h : isL c = true) : ¬ isF c = true := fun q => by
  unfold isL at h; unfold isF at q
  rw [Bool.not_eq_true'] at h q
  have a := outB_f h
  have b := outB_f q
  have e : (97 : Int32).toInt = 97 ∧ (57 : Int32).toInt = 57 := by decide +kernel
  omega
theorem bh_lt {T : Nat → Int32} {n p : Nat} (h : p < n) : p < bh T n p ∧ bh T n p ≤ n := by
  unfold bh
  rw [if_pos h]
  by_cases l : isL (T p) = true
  · rw [if_pos l]; exact ⟨ed_lt h l, (ed_le (by omega)).2⟩
  · rw [if_neg l]
    by_cases f : isF (T p) = true
    · rw [if_pos f]; exact ⟨ed_lt h f, (ed_le (by omega)).2⟩
    · rw [if_neg f]; omega
theorem srt_l : ¬ (1 : Int32) = 2 ∧ ¬ (1 : Int32) = 3 ∧ ¬ (1 : Int32) = 0 ∧ ¬ (4 : Int32) = 2 ∧ ¬ (4 : Int32) = 3 ∧ ¬ (4 : Int32) = 1 ∧ ¬ (4 : Int32) = 0 ∧ ¬ (3 : Int32) = 2 ∧ ¬ (3 : Int32) = 1 ∧ ¬ (3 : Int32) = 0 ∧ ¬ (2 : Int32) = 0 ∧ ¬ (2 : Int32) = 1 ∧ ¬ (2 : Int32) = 3 ∧ ¬ (0 : Int32) = 1 ∧ ¬ (0 : Int32) = 2 ∧ ¬ (0 : Int32) = 3 := by decide +kernel
theorem fig59 : ¬ isF 59 = true ∧ ¬ isL 59 = true ∧ ¬ isF (-1) = true ∧ ¬ (-1 : Int32) = 32 ∧ ¬ (-1 : Int32) = 59 := by decide +kernel
theorem srt_2 {T : Nat → Int32} {n p : Nat} : srt T n p = 2 ↔ p < ed isF T n p ∧ ed isF T n p ≤ p + 2 := by
  unfold srt
  by_cases h : p < n
  · rw [if_pos h]
    by_cases l : isL (T p) = true
    · rw [if_pos l, ed_f h (isLF l)]
      exact ⟨fun q => absurd q srt_l.1, fun q => by omega⟩
    · rw [if_neg l]
      by_cases f : isF (T p) = true
      · rw [if_pos f]
        have := ed_lt h f
        by_cases g : ed isF T n p ≤ p + 2
        · rw [if_pos g]; exact ⟨fun _ => ⟨this, g⟩, fun _ => rfl⟩
        · rw [if_neg g]; exact ⟨fun q => absurd q srt_l.2.2.2.1, fun q => absurd q.2 g⟩
      · rw [if_neg f, ed_f h f]
        refine ⟨fun q => ?_, fun q => by omega⟩
        by_cases e : T p = 59
        · rw [if_pos e] at q; exact absurd q srt_l.2.2.2.2.2.2.2.1
        · rw [if_neg e] at q; exact absurd q srt_l.2.2.2.1
  · rw [if_neg h, ed_n (by omega)]
    exact ⟨fun q => absurd q.symm srt_l.2.2.2.2.2.2.2.2.2.2.1, fun q => by omega⟩
theorem srt_3 {T : Nat → Int32} {n p : Nat} : srt T n p = 3 ↔ p < n ∧ T p = 59 := by
  unfold srt
  by_cases h : p < n
  · rw [if_pos h]
    by_cases e : T p = 59
    · rw [e, if_neg fig59.2.1, if_neg fig59.1, if_pos rfl]
      exact ⟨fun _ => ⟨h, rfl⟩, fun _ => rfl⟩
    · by_cases l : isL (T p) = true
      · rw [if_pos l]; exact ⟨fun q => absurd q srt_l.2.1, fun q => absurd q.2 e⟩
      · rw [if_neg l]
        by_cases f : isF (T p) = true
        · rw [if_pos f]
          by_cases g : ed isF T n p ≤ p + 2
          · rw [if_pos g]; exact ⟨fun q => absurd q srt_l.2.2.2.2.2.2.2.2.2.2.2.2.1, fun q => absurd q.2 e⟩
          · rw [if_neg g]; exact ⟨fun q => absurd q srt_l.2.2.2.2.1, fun q => absurd q.2 e⟩
        · rw [if_neg f, if_neg e]; exact ⟨fun q => absurd q srt_l.2.2.2.2.1, fun q => absurd q.2 e⟩
  · rw [if_neg h]; exact ⟨fun q => absurd q srt_l.2.2.2.2.2.2.2.2.2.2.2.2.2.2.2, fun q => absurd q.1 h⟩
theorem srt_1 {T : Nat → Int32} {n p : Nat} : srt T n p = 1 ↔ p < n ∧ isL (T p) = true := by
  unfold srt
  by_cases h : p < n
  · rw [if_pos h]
    by_cases l : isL (T p) = true
    · rw [if_pos l]; exact ⟨fun _ => ⟨h, l⟩, fun _ => rfl⟩
    · rw [if_neg l]
      refine ⟨fun q => ?_, fun q => absurd q.2 l⟩
      by_cases f : isF (T p) = true
      · rw [if_pos f] at q
        by_cases g : ed isF T n p ≤ p + 2
        · rw [if_pos g] at q; exact absurd q srt_l.2.2.2.2.2.2.2.2.2.2.2.1
        · rw [if_neg g] at q; exact absurd q srt_l.2.2.2.2.2.1
      · rw [if_neg f] at q
        by_cases e : T p = 59
        · rw [if_pos e] at q; exact absurd q srt_l.2.2.2.2.2.2.2.2.1
        · rw [if_neg e] at q; exact absurd q srt_l.2.2.2.2.2.1
  · rw [if_neg h]; exact ⟨fun q => absurd q srt_l.2.2.2.2.2.2.2.2.2.2.2.2.2.1, fun q => absurd q.1 h⟩
theorem srt_0 {T : Nat → Int32} {n p : Nat} : srt T n p = 0 ↔ n ≤ p := by
  unfold srt
  by_cases h : p < n
  · rw [if_pos h]
    refine ⟨fun q => ?_, fun q => by omega⟩
    by_cases l : isL (T p) = true
    · rw [if_pos l] at q; exact absurd q srt_l.2.2.1
    · rw [if_neg l] at q
      by_cases f : isF (T p) = true
      · rw [if_pos f] at q
        by_cases g : ed isF T n p ≤ p + 2
        · rw [if_pos g] at q; exact absurd q srt_l.2.2.2.2.2.2.2.2.2.2.1
        · rw [if_neg g] at q; exact absurd q srt_l.2.2.2.2.2.2.1
      · rw [if_neg f] at q
        by_cases e : T p = 59
        · rw [if_pos e] at q; exact absurd q srt_l.2.2.2.2.2.2.2.2.2.1
        · rw [if_neg e] at q; exact absurd q srt_l.2.2.2.2.2.2.1
  · rw [if_neg h]; exact ⟨fun _ => by omega, fun _ => rfl⟩
theorem ed_in {P : Int32 → Bool} {T : Nat → Int32} {n : Nat} : ∀ (r p : Nat), p + r = n → ∀ j, p ≤ j → j < ed P T n p → P (T j) = true
  | 0, p, h, j, a, b => by rw [ed_n (by omega)] at b; omega
  | r + 1, p, h, j, a, b => by
    by_cases hp : P (T p) = true
    · by_cases e : j = p
      · rw [e]; exact hp
      · rw [ed_s (by omega) hp] at b
        exact ed_in (P := P) (T := T) (n := n) r (p + 1) (by omega) j (by omega) b
    · rw [ed_f (by omega) hp] at b; omega
theorem fig_d {c : Int32} (h : isF c = true) : ∃ d, d ≤ 9 ∧ c = nI (48 + d) := by
  unfold isF at h
  rw [Bool.not_eq_true'] at h
  have a := outB_f h
  have e : (48 : Int32).toInt = 48 ∧ (57 : Int32).toInt = 57 := by decide +kernel
  have hx := ix_toInt (x := c) (by omega)
  refine ⟨ix c - 48, by omega, ?_⟩
  rw [show 48 + (ix c - 48) = ix c by omega]
  exact of_ix (by omega)
theorem dig1 : (10 : Int32) = nI 10 ∧ (48 : Int32) = nI 48 := by decide +kernel
theorem nv_d {k d : Nat} (hd : d ≤ 9) : 10 * nI k + nI (48 + d) - 48 = nI (10 * k + d) := by
  rw [dig1.1, dig1.2, pk_mul, nI_add, pk_sub (by omega), show 10 * k + (48 + d) - 48 = 10 * k + d by omega]
/-- a number of one or two figures -/
theorem nmv_k {T : Nat → Int32} {n p : Nat} (h : srt T n p = 2) : (∃ k, k ≤ 99 ∧ nmv T n p = nI k) ∧ nmv T n p = nv T (ed isF T n p - p) p 0 ∧ bh T n p = ed isF T n p ∧ p < n := by
  have h2 := srt_2.mp h
  have hp : p < n := by
    rcases Nat.lt_or_ge p n with q | q
    · exact q
    · rw [ed_n q] at h2; omega
  have hf : isF (T p) = true := ed_in (P := isF) (T := T) (n := n) (n - p) p (by omega) p (by omega) h2.1
  have hl : ¬ isL (T p) = true := fun q => isLF q hf
  have e : nmv T n p = nv T (ed isF T n p - p) p 0 := by unfold nmv; rw [if_pos hp, if_neg hl, if_pos hf]
  refine ⟨?_, e, by unfold bh; rw [if_pos hp, if_neg hl, if_pos hf], hp⟩
  obtain ⟨d, d9, dc⟩ := fig_d hf
  rw [e]
  rcases (show ed isF T n p - p = 1 ∨ ed isF T n p - p = 2 by omega) with q | q
  · refine ⟨d, by omega, ?_⟩
    rw [q, nv_s, nv_0, dc, ← nI_0, nv_d d9]
    rw [Nat.mul_zero, Nat.zero_add]
  · have hf2 : isF (T (p + 1)) = true := ed_in (P := isF) (T := T) (n := n) (n - p) p (by omega) (p + 1) (by omega) (by omega)
    obtain ⟨d2, d29, dc2⟩ := fig_d hf2
    refine ⟨10 * d + d2, by omega, ?_⟩
    rw [q, nv_s, nv_s, nv_0, dc, dc2, ← nI_0, nv_d d9, nv_d d29, Nat.mul_zero, Nat.zero_add]
