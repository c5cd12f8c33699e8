/-! ===== Int32 by its bits: bt x i ===== -/
def bt (x : Int32) (i : Nat) : Bool := x.toBitVec.getLsbD i
theorem b_ext {x y : Int32} (h : ∀ i, i < 32 → bt x i = bt y i) : x = y := Int32.toBitVec_inj.mp (BitVec.eq_of_getLsbD_eq (fun i hi => h i hi))
theorem b_or (x y : Int32) (i : Nat) : bt (x ||| y) i = (bt x i || bt y i) := by unfold bt; rw [Int32.toBitVec_or, BitVec.getLsbD_or]
theorem b_and (x y : Int32) (i : Nat) : bt (x &&& y) i = (bt x i && bt y i) := by unfold bt; rw [Int32.toBitVec_and, BitVec.getLsbD_and]
theorem b_xor (x y : Int32) (i : Nat) : bt (x ^^^ y) i = (bt x i ^^ bt y i) := by unfold bt; rw [Int32.toBitVec_xor, BitVec.getLsbD_xor]
theorem b_big {x : Int32} {i : Nat} (h : 32 ≤ i) : bt x i = false := BitVec.getLsbD_of_ge _ _ h
theorem b_255 (i : Nat) : bt 255 i = decide (i < 8) := by
  rcases Nat.lt_or_ge i 32 with h | h
  · exact (by decide +kernel : ∀ i, i < 32 → bt 255 i = decide (i < 8)) i h
  · rw [b_big h, decide_eq_false (by omega)]
theorem b_65535 (i : Nat) : bt 65535 i = decide (i < 16) := by
  rcases Nat.lt_or_ge i 32 with h | h
  · exact (by decide +kernel : ∀ i, i < 32 → bt 65535 i = decide (i < 16)) i h
  · rw [b_big h, decide_eq_false (by omega)]
theorem b_m1 : ∀ i, i < 32 → bt (-1) i = true := by decide +kernel
theorem b_0 (i : Nat) : bt 0 i = false := BitVec.getLsbD_zero
theorem s_l : ∀ n, n < 32 → ((nI n &&& 31).toBitVec.smod 32).toNat = n := by decide +kernel
theorem s_u : ∀ n, n < 32 → (((nI n).toUInt32 &&& Int32.toUInt32 31).toBitVec % 32).toNat = n := by decide +kernel
theorem b_shl (n : Nat) (hn : n < 32) (x : Int32) {i : Nat} (hi : i < 32) : bt (x <<< (nI n &&& 31)) i = (decide (n ≤ i) && bt x (i - n)) := by
  unfold bt
  rw [Int32.toBitVec_shiftLeft]
  show (x.toBitVec <<< ((nI n &&& 31).toBitVec.smod 32).toNat).getLsbD i = _
  rw [s_l n hn, BitVec.getLsbD_shiftLeft]
  rcases Nat.lt_or_ge i n with h | h
  · simp [h, Nat.not_le.mpr h]
  · simp [hi, h, Nat.not_lt.mpr h]
theorem b_ushr (n : Nat) (hn : n < 32) (x : Int32) (i : Nat) : bt ((x.toUInt32 >>> ((nI n).toUInt32 &&& Int32.toUInt32 31)).toInt32) i = bt x (n + i) := by
  show (x.toUInt32 >>> ((nI n).toUInt32 &&& Int32.toUInt32 31)).toBitVec.getLsbD i = x.toUInt32.toBitVec.getLsbD (n + i)
  rw [UInt32.toBitVec_shiftRight]
  show (x.toUInt32.toBitVec >>> (((nI n).toUInt32 &&& Int32.toUInt32 31).toBitVec % 32).toNat).getLsbD i = _
  rw [s_u n hn, BitVec.getLsbD_ushiftRight]
theorem b_sshr (n : Nat) (hn : n < 32) (x : Int32) {i : Nat} (hi : i < 32) : bt (x >>> (nI n &&& 31)) i = if n + i < 32 then bt x (n + i) else bt x 31 := by
  unfold bt
  rw [Int32.toBitVec_shiftRight]
  show (x.toBitVec.sshiftRight ((nI n &&& 31).toBitVec.smod 32).toNat).getLsbD i = _
  rw [s_l n hn, BitVec.getLsbD_sshiftRight, BitVec.msb_eq_getLsbD_last]
  simp [hi]
theorem b_shl8 (x : Int32) {i : Nat} (hi : i < 32) : bt (x <<< ((8 : Int32) &&& 31)) i = (decide (8 ≤ i) && bt x (i - 8)) := b_shl 8 (by omega) x hi
theorem b_shl16 (x : Int32) {i : Nat} (hi : i < 32) : bt (x <<< ((16 : Int32) &&& 31)) i = (decide (16 ≤ i) && bt x (i - 16)) := b_shl 16 (by omega) x hi
theorem b_shl24 (x : Int32) {i : Nat} (hi : i < 32) : bt (x <<< ((24 : Int32) &&& 31)) i = (decide (24 ≤ i) && bt x (i - 24)) := b_shl 24 (by omega) x hi
theorem b_sshr8 (x : Int32) {i : Nat} (hi : i < 32) : bt (x >>> ((8 : Int32) &&& 31)) i = if 8 + i < 32 then bt x (8 + i) else bt x 31 := b_sshr 8 (by omega) x hi
/-! a bit by an Int32 place, as Java's shifts take it -/
def bix (k : Int32) : Nat := (k &&& 31).toBitVec.toNat
theorem bix_lt (k : Int32) : bix k < 32 := by
  unfold bix
  rw [Int32.toBitVec_and, BitVec.toNat_and]
  exact Nat.lt_of_le_of_lt Nat.and_le_right (by decide)
theorem nI31 : ∀ n, n < 32 → nI n &&& 31 = nI n := by decide +kernel
theorem bix_eq (k : Int32) : k &&& 31 = nI (bix k) &&& 31 := by
  rw [nI31 _ (bix_lt k)]
  apply Int32.toBitVec_inj.mp
  apply BitVec.eq_of_toNat_eq
  show _ = (BitVec.ofNat 32 (bix k)).toNat
  rw [BitVec.toNat_ofNat, Nat.mod_eq_of_lt (Nat.lt_trans (bix_lt k) (by decide))]
  rfl
def BB (x k : Int32) : Bool := bt x (bix k)
theorem BB_and (x y k : Int32) : BB (x &&& y) k = (BB x k && BB y k) := b_and x y _
theorem BB_or (x y k : Int32) : BB (x ||| y) k = (BB x k || BB y k) := b_or x y _
theorem BB_not (x k : Int32) : BB (x ^^^ (-1)) k = !BB x k := by
  unfold BB
  rw [b_xor, b_m1 _ (bix_lt k)]
  cases bt x (bix k) <;> rfl
theorem bt_1 : ∀ j, j < 32 → bt 1 j = decide (j = 0) := by decide +kernel
theorem bt_sh (j : Int32) {i : Nat} (hi : i < 32) : bt (1 <<< (j &&& 31)) i = decide (i = bix j) := by
  rw [bix_eq j, b_shl _ (bix_lt j) 1 hi, bt_1 _ (by omega)]
  rcases Nat.lt_trichotomy i (bix j) with h | h | h
  · simp [Nat.not_le.mpr h, Nat.ne_of_lt h]
  · subst h; simp
  · have h1 : ¬ i - bix j = 0 := by omega
    have h2 : ¬ i = bix j := by omega
    simp [h1, h2]
theorem BB_sh (j k : Int32) : BB (1 <<< (j &&& 31)) k = decide (bix k = bix j) := bt_sh j (bix_lt k)
theorem BB_tst (x k : Int32) : (x &&& (1 <<< (k &&& 31))) = 0 ↔ BB x k = false := by
  constructor
  · intro h
    have h1 := congrArg (fun z => bt z (bix k)) h
    simp only [b_and, bt_sh k (bix_lt k), b_0] at h1
    simpa [BB] using h1
  · intro h
    apply b_ext
    intro i hi
    rw [b_and, bt_sh k hi, b_0]
    by_cases e : i = bix k
    · subst e; rw [show bt x (bix k) = false from h]; rfl
    · simp [e]
theorem and1 (y : Int32) : (y &&& 1) = 1 ↔ bt y 0 = true := by
  constructor
  · intro h
    have h1 := congrArg (fun z => bt z 0) h
    simp only [b_and, bt_1 0 (by decide)] at h1
    simpa using h1
  · intro h
    apply b_ext
    intro i hi
    rw [b_and, bt_1 i hi]
    by_cases e : i = 0
    · subst e; rw [h]; rfl
    · simp [e]
theorem BB_shr (x k : Int32) : ((x >>> (k &&& 31)) &&& 1) = 1 ↔ BB x k = true := by
  rw [and1, bix_eq k, b_sshr _ (bix_lt k) x (by decide)]
  have := bix_lt k
  rw [Nat.add_zero, if_pos this]
  rfl
/-! small numbers -/
def b2 (b : Bool) : Int32 := if b then 1 else 0
theorem b2_0 (b : Bool) : b2 b = 0 ↔ b = false := by cases b <;> decide +kernel
theorem b2_01 (b : Bool) : b2 b = 0 ∨ b2 b = 1 := by cases b <;> decide +kernel
theorem i_lt (a b : Int32) : a < b ↔ a.toInt < b.toInt := Int32.lt_iff_toInt_lt
theorem i_le (a b : Int32) : a ≤ b ↔ a.toInt ≤ b.toInt := Int32.le_iff_toInt_le
theorem i_eq (a b : Int32) : a = b ↔ a.toInt = b.toInt := Int32.toInt_inj.symm
theorem i_rng (x : Int32) : -2147483648 ≤ x.toInt ∧ x.toInt < 2147483648 := ⟨Int32.le_toInt x, Int32.toInt_lt x⟩
theorem i_bmod {z : Int} (h1 : -2147483648 ≤ z) (h2 : z < 2147483648) : z.bmod (2 ^ 32) = z := Int.bmod_eq_of_le (by omega) (by omega)
theorem i_add {x y : Int32} (h1 : -2147483648 ≤ x.toInt + y.toInt) (h2 : x.toInt + y.toInt < 2147483648) : (x + y).toInt = x.toInt + y.toInt := by
  rw [Int32.toInt_add]; exact i_bmod h1 h2
theorem i_sub {x y : Int32} (h1 : -2147483648 ≤ x.toInt - y.toInt) (h2 : x.toInt - y.toInt < 2147483648) : (x - y).toInt = x.toInt - y.toInt := by
  rw [Int32.toInt_sub]; exact i_bmod h1 h2
theorem ix_toInt {x : Int32} (h : 0 ≤ x.toInt) : (ix x : Int) = x.toInt := by
  show ((x.toInt.toNat : Nat) : Int) = _
  omega
theorem ix_nI {n : Nat} (h : n < 2147483648) : ix (nI n) = n := nI_clamp (by omega)
theorem of_ix {x : Int32} (h : 0 ≤ x.toInt) : x = nI (ix x) := by
  rw [i_eq, nI_toInt (by have := (i_rng x).2; have := ix_toInt h; omega)]
  exact (ix_toInt h).symm
theorem inb_nI {j n : Nat} (h : j < n) (hn : n ≤ 1000) : inb (nI j) n := by
  have := nI_toInt (n := j) (by omega)
  exact ⟨by omega, by omega⟩
/-- Java's two ways to keep a number between 0 and 99 -/
def kp (x : Int32) : Int32 := if x < 0 then 0 else if 99 < x then 99 else x
theorem kp_C (x : Int32) : imx 0 (imn 99 x) = kp x := by
  unfold imx imn kp
  simp only [i_lt]
  have h0 : (0 : Int32).toInt = 0 := by decide +kernel
  have h9 : (99 : Int32).toInt = 99 := by decide +kernel
  rw [h0, h9]
  by_cases a : x.toInt < 99
  · rw [if_pos a]
    by_cases b : 0 < x.toInt
    · rw [if_pos b, if_neg (by omega), if_neg (by omega)]
    · rw [if_neg b]
      by_cases c : x.toInt < 0
      · rw [if_pos c]
      · rw [if_neg c, if_neg (by omega), i_eq, h0]; omega
  · rw [if_neg a, if_pos (by omega), if_neg (by omega)]
    by_cases c : 99 < x.toInt
    · rw [if_pos c]
    · rw [if_neg c, i_eq, h9]; omega
theorem kp_M (x : Int32) : f_m_kept x = some (kp x) := by
  unfold f_m_kept kp
  simp only [i_lt, i_le]
  have h0 : (0 : Int32).toInt = 0 := by decide +kernel
  have h9 : (99 : Int32).toInt = 99 := by decide +kernel
  rw [h0, h9]
  by_cases a : x.toInt < 0
  · rw [if_neg (by omega), if_pos a]
  · rw [if_pos (by omega), if_neg a]
    by_cases c : 99 < x.toInt
    · rw [if_neg (by omega), if_pos c]
    · rw [if_pos (by omega), if_neg c]
theorem bP_s {ρ : Type} (r : Int32) (k : Int32 → Option ρ) : bP (some r) k = k r := rfl
theorem bI_s {S ρ : Type} (r : Int32) (s : S) (k : Int32 → S → Option ρ) : bI (some (r, s)) k = k r s := rfl
theorem bV_s {S ρ : Type} (s : S) (k : S → Option ρ) : bV (some s) k = k s := rfl
theorem bL_s {ρ : Type} (r : Int64) (k : Int64 → Option ρ) : bL (some r) k = k r := rfl
theorem bM_s {S ρ : Type} (r : Int64) (s : S) (k : Int64 → S → Option ρ) : bM (some (r, s)) k = k r s := rfl
theorem bN_s {ρ : Type} (k : Option ρ) : bN (some ()) k = k := rfl
theorem fx_s {α : Type} (n : Nat) (F : α → α) (b : α) : fx (n + 1) F b = F (fx n F b) := rfl
theorem st_k {σ : Sto} {k i s : Nat} {v : Int32} {k' : Nat} (h : k' ≠ k) : st σ k i s v k' = σ k' := by
  funext i' s'; simp [st, h]
theorem st_i {σ : Sto} {k i s : Nat} {v : Int32} {k' i' : Nat} (h : i' ≠ i) : st σ k i s v k' i' = σ k' i' := by
  funext s'; simp [st, h]
theorem st_v (σ : Sto) (k i s : Nat) (v : Int32) (k' i' s' : Nat) : st σ k i s v k' i' s' = if k' = k ∧ i' = i ∧ s' = s then v else σ k' i' s' := rfl
/-- the bits of a set of 8 -/
def popc (x : Int32) : Int32 := (f_J_bitCount x).getD 0
theorem popc_J (x : Int32) : f_J_bitCount x = some (popc x) := rfl
abbrev in8 (x : Int32) : Prop := 0 ≤ x.toInt ∧ x.toInt < 256
theorem bits_all : ∀ n, n < 256 → f_m_bits (nI n) = some (popc (nI n)) := by decide +kernel
theorem popc_M {x : Int32} (h : in8 x) : f_m_bits x = some (popc x) := by
  have := of_ix h.1
  rw [this]
  exact bits_all _ (inb_ix (n := 256) h)
theorem or8_all : ∀ n, n < 256 → ∀ a, a < 8 → in8 (nI n ||| (1 <<< (nI a &&& 31))) := by decide +kernel
