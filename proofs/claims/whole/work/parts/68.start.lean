/-! the addresses of all cells, in the order of their making; the stores behind the constructors -/
def offL : List Nat := [0, 15, 40, 66, 91, 20, 21, 22, 23, 24, 25, 45, 46, 47, 48, 49, 50, 71, 72, 73, 74, 75, 76, 96, 97, 98, 99, 100, 101, 26, 27, 28, 29, 30, 31, 51, 52, 53, 54, 55, 56, 77, 78, 79, 80, 81, 82, 102, 103, 104, 105, 106, 107, 19, 44, 70, 95, 32, 33, 34, 35, 36, 37, 38, 39, 57, 58, 59, 60, 61, 62, 63, 64, 83, 84, 85, 86, 87, 88, 89, 90, 108, 109, 110, 111, 112, 113, 114, 115, 4, 116, 117, 118, 119, 120, 2, 9, 10, 11, 12, 13, 14, 8, 16, 41, 67, 92, 17, 42, 68, 93, 18, 43, 69, 94, 65, 1, 5, 6, 7, 3, 121, 122, 123, 124, 125, 126, 127, 128, 129, 130, 131, 132, 133, 134, 135, 136, 137, 138, 139]
def mkG (D : va_G) (cid : Nat → ClassId) (B : Nat) (sK sV : Nat → Nat) : Gb := (D, cid, fun n => B + offL.getD n 0, B, sK, sV)
def invL : List Nat := [0, 116, 95, 120, 89, 117, 118, 119, 102, 96, 97, 98, 99, 100, 101, 1, 103, 107, 111, 53, 5, 6, 7, 8, 9, 10, 29, 30, 31, 32, 33, 34, 57, 58, 59, 60, 61, 62, 63, 64, 2, 104, 108, 112, 54, 11, 12, 13, 14, 15, 16, 35, 36, 37, 38, 39, 40, 65, 66, 67, 68, 69, 70, 71, 72, 115, 3, 105, 109, 113, 55, 17, 18, 19, 20, 21, 22, 41, 42, 43, 44, 45, 46, 73, 74, 75, 76, 77, 78, 79, 80, 4, 106, 110, 114, 56, 23, 24, 25, 26, 27, 28, 47, 48, 49, 50, 51, 52, 81, 82, 83, 84, 85, 86, 87, 88, 90, 91, 92, 93, 94, 121, 122, 123, 124, 125, 126, 127, 128, 129, 130, 131, 132, 133, 134, 135, 136, 137, 138, 139]
theorem off_inv : ∀ n, n < 140 → invL.getD (offL.getD n 0) 0 = n ∧ offL.getD n 0 < 140 := by decide +kernel
theorem GA_mk (D : va_G) (cid : Nat → ClassId) (B : Nat) (sK sV : Nat → Nat) : GA (mkG D cid B sK sV) := by
  refine ⟨fun a b ha hb h => ?_, fun a _ => Nat.le_add_right _ _⟩
  have h : B + offL.getD a 0 = B + offL.getD b 0 := h
  have e : offL.getD a 0 = offL.getD b 0 := by omega
  rw [← (off_inv a ha).1, ← (off_inv b hb).1, e]
def sg0 : Sto := fun k _ s => if k = 0 then (if s = 9 then -1 else if s = 11 then 1 else 0) else if k = 4 then (if s = 0 then 50 else if s = 3 then -1 else if s = 4 then -1 else 0) else 0
def mu0 : Sto := fun k _ s => if k = 17 then (if s = 2 then 50 else if s = 5 then -1 else if s = 6 then -1 else 0) else 0
def lg0 : Lng := fun s => if s = 32 then 1 else 0
set_option maxRecDepth 100000 in
set_option maxHeartbeats 4000000 in
theorem cell_ok (D : va_G) (cid : Nat → ClassId) (B : Nat) (sK sV : Nat → Nat) (c : Nat → va_E) : ∀ n, n < 140 → ceq (mdC (mkG D cid B sK sV) (fup (chF (mkG D cid B sK sV) c) 121 (.inr (12, bl_X12))) (offL.getD n 0)) (cel (mkG D cid B sK sV) (kiOf n).1 (kiOf n).2 (cmb sg0 mu0 (kiOf n).1 (kiOf n).2) lg0) := by
  intro n hn
  rcases Nat.lt_or_eq_of_le (Nat.le_of_lt_succ hn) with hn | rfl
  rotate_left
  · exact ceq.of rfl
  rcases Nat.lt_or_eq_of_le (Nat.le_of_lt_succ hn) with hn | rfl
  rotate_left
  · exact ceq.of rfl
  rcases Nat.lt_or_eq_of_le (Nat.le_of_lt_succ hn) with hn | rfl
  rotate_left
  · exact ceq.of rfl
  rcases Nat.lt_or_eq_of_le (Nat.le_of_lt_succ hn) with hn | rfl
  rotate_left
  · exact ceq.of rfl
  rcases Nat.lt_or_eq_of_le (Nat.le_of_lt_succ hn) with hn | rfl
  rotate_left
  · exact ceq.of rfl
  rcases Nat.lt_or_eq_of_le (Nat.le_of_lt_succ hn) with hn | rfl
  rotate_left
  · exact ceq.of rfl
  rcases Nat.lt_or_eq_of_le (Nat.le_of_lt_succ hn) with hn | rfl
  rotate_left
  · exact ceq.of rfl
  rcases Nat.lt_or_eq_of_le (Nat.le_of_lt_succ hn) with hn | rfl
  rotate_left
  · exact ceq.of rfl
  rcases Nat.lt_or_eq_of_le (Nat.le_of_lt_succ hn) with hn | rfl
  rotate_left
  · exact ceq.of rfl
  rcases Nat.lt_or_eq_of_le (Nat.le_of_lt_succ hn) with hn | rfl
  rotate_left
  · exact ceq.of rfl
  rcases Nat.lt_or_eq_of_le (Nat.le_of_lt_succ hn) with hn | rfl
  rotate_left
  · exact ceq.of rfl
  rcases Nat.lt_or_eq_of_le (Nat.le_of_lt_succ hn) with hn | rfl
  rotate_left
  · exact ceq.of rfl
  rcases Nat.lt_or_eq_of_le (Nat.le_of_lt_succ hn) with hn | rfl
  rotate_left
  · exact ceq.of rfl
  rcases Nat.lt_or_eq_of_le (Nat.le_of_lt_succ hn) with hn | rfl
  rotate_left
  · exact ceq.of rfl
  rcases Nat.lt_or_eq_of_le (Nat.le_of_lt_succ hn) with hn | rfl
  rotate_left
  · exact ceq.of rfl
  rcases Nat.lt_or_eq_of_le (Nat.le_of_lt_succ hn) with hn | rfl
  rotate_left
  · exact ceq.of rfl
  rcases Nat.lt_or_eq_of_le (Nat.le_of_lt_succ hn) with hn | rfl
  rotate_left
  · exact ceq.of rfl
  rcases Nat.lt_or_eq_of_le (Nat.le_of_lt_succ hn) with hn | rfl
  rotate_left
  · exact ceq.of rfl
  rcases Nat.lt_or_eq_of_le (Nat.le_of_lt_succ hn) with hn | rfl
  rotate_left
  · exact ceq.of rfl
  rcases Nat.lt_or_eq_of_le (Nat.le_of_lt_succ hn) with hn | rfl
  rotate_left
  · exact ceq.of rfl
  rcases Nat.lt_or_eq_of_le (Nat.le_of_lt_succ hn) with hn | rfl
  rotate_left
  · exact ceq.of rfl
  rcases Nat.lt_or_eq_of_le (Nat.le_of_lt_succ hn) with hn | rfl
  rotate_left
  · exact ceq.of rfl
  rcases Nat.lt_or_eq_of_le (Nat.le_of_lt_succ hn) with hn | rfl
  rotate_left
  · exact ceq.q (G := mkG D cid B sK sV) (t := 5) (n := 5) (fun t ht => by rcases (show t = 0 ∨ t = 1 ∨ t = 2 ∨ t = 3 ∨ t = 4 by omega) with rfl | rfl | rfl | rfl | rfl <;> rfl)
  rcases Nat.lt_or_eq_of_le (Nat.le_of_lt_succ hn) with hn | rfl
  rotate_left
  · exact ceq.of rfl
  rcases Nat.lt_or_eq_of_le (Nat.le_of_lt_succ hn) with hn | rfl
  rotate_left
  · exact ceq.q (G := mkG D cid B sK sV) (t := 6) (n := 2) (fun t ht => by rcases (show t = 0 ∨ t = 1 by omega) with rfl | rfl <;> rfl)
  rcases Nat.lt_or_eq_of_le (Nat.le_of_lt_succ hn) with hn | rfl
  rotate_left
  · exact ceq.q (G := mkG D cid B sK sV) (t := 5) (n := 8) (fun t ht => by rcases (show t = 0 ∨ t = 1 ∨ t = 2 ∨ t = 3 ∨ t = 4 ∨ t = 5 ∨ t = 6 ∨ t = 7 by omega) with rfl | rfl | rfl | rfl | rfl | rfl | rfl | rfl <;> rfl)
  rcases Nat.lt_or_eq_of_le (Nat.le_of_lt_succ hn) with hn | rfl
  rotate_left
  · exact ceq.q (G := mkG D cid B sK sV) (t := 5) (n := 8) (fun t ht => by rcases (show t = 0 ∨ t = 1 ∨ t = 2 ∨ t = 3 ∨ t = 4 ∨ t = 5 ∨ t = 6 ∨ t = 7 by omega) with rfl | rfl | rfl | rfl | rfl | rfl | rfl | rfl <;> rfl)
  rcases Nat.lt_or_eq_of_le (Nat.le_of_lt_succ hn) with hn | rfl
  rotate_left
  · exact ceq.q (G := mkG D cid B sK sV) (t := 5) (n := 8) (fun t ht => by rcases (show t = 0 ∨ t = 1 ∨ t = 2 ∨ t = 3 ∨ t = 4 ∨ t = 5 ∨ t = 6 ∨ t = 7 by omega) with rfl | rfl | rfl | rfl | rfl | rfl | rfl | rfl <;> rfl)
  rcases Nat.lt_or_eq_of_le (Nat.le_of_lt_succ hn) with hn | rfl
  rotate_left
  · exact ceq.q (G := mkG D cid B sK sV) (t := 5) (n := 8) (fun t ht => by rcases (show t = 0 ∨ t = 1 ∨ t = 2 ∨ t = 3 ∨ t = 4 ∨ t = 5 ∨ t = 6 ∨ t = 7 by omega) with rfl | rfl | rfl | rfl | rfl | rfl | rfl | rfl <;> rfl)
  rcases Nat.lt_or_eq_of_le (Nat.le_of_lt_succ hn) with hn | rfl
  rotate_left
  · exact ceq.q (G := mkG D cid B sK sV) (t := 4) (n := 6) (fun t ht => by rcases (show t = 0 ∨ t = 1 ∨ t = 2 ∨ t = 3 ∨ t = 4 ∨ t = 5 by omega) with rfl | rfl | rfl | rfl | rfl | rfl <;> rfl)
  rcases Nat.lt_or_eq_of_le (Nat.le_of_lt_succ hn) with hn | rfl
  rotate_left
  · exact ceq.q (G := mkG D cid B sK sV) (t := 4) (n := 6) (fun t ht => by rcases (show t = 0 ∨ t = 1 ∨ t = 2 ∨ t = 3 ∨ t = 4 ∨ t = 5 by omega) with rfl | rfl | rfl | rfl | rfl | rfl <;> rfl)
  rcases Nat.lt_or_eq_of_le (Nat.le_of_lt_succ hn) with hn | rfl
  rotate_left
  · exact ceq.q (G := mkG D cid B sK sV) (t := 4) (n := 6) (fun t ht => by rcases (show t = 0 ∨ t = 1 ∨ t = 2 ∨ t = 3 ∨ t = 4 ∨ t = 5 by omega) with rfl | rfl | rfl | rfl | rfl | rfl <;> rfl)
  rcases Nat.lt_or_eq_of_le (Nat.le_of_lt_succ hn) with hn | rfl
  rotate_left
  · exact ceq.q (G := mkG D cid B sK sV) (t := 4) (n := 6) (fun t ht => by rcases (show t = 0 ∨ t = 1 ∨ t = 2 ∨ t = 3 ∨ t = 4 ∨ t = 5 by omega) with rfl | rfl | rfl | rfl | rfl | rfl <;> rfl)
  rcases Nat.lt_or_eq_of_le (Nat.le_of_lt_succ hn) with hn | rfl
  rotate_left
  · exact ceq.q (G := mkG D cid B sK sV) (t := 3) (n := 6) (fun t ht => by rcases (show t = 0 ∨ t = 1 ∨ t = 2 ∨ t = 3 ∨ t = 4 ∨ t = 5 by omega) with rfl | rfl | rfl | rfl | rfl | rfl <;> rfl)
  rcases Nat.lt_or_eq_of_le (Nat.le_of_lt_succ hn) with hn | rfl
  rotate_left
  · exact ceq.q (G := mkG D cid B sK sV) (t := 3) (n := 6) (fun t ht => by rcases (show t = 0 ∨ t = 1 ∨ t = 2 ∨ t = 3 ∨ t = 4 ∨ t = 5 by omega) with rfl | rfl | rfl | rfl | rfl | rfl <;> rfl)
  rcases Nat.lt_or_eq_of_le (Nat.le_of_lt_succ hn) with hn | rfl
  rotate_left
  · exact ceq.q (G := mkG D cid B sK sV) (t := 3) (n := 6) (fun t ht => by rcases (show t = 0 ∨ t = 1 ∨ t = 2 ∨ t = 3 ∨ t = 4 ∨ t = 5 by omega) with rfl | rfl | rfl | rfl | rfl | rfl <;> rfl)
  rcases Nat.lt_or_eq_of_le (Nat.le_of_lt_succ hn) with hn | rfl
  rotate_left
  · exact ceq.q (G := mkG D cid B sK sV) (t := 3) (n := 6) (fun t ht => by rcases (show t = 0 ∨ t = 1 ∨ t = 2 ∨ t = 3 ∨ t = 4 ∨ t = 5 by omega) with rfl | rfl | rfl | rfl | rfl | rfl <;> rfl)
  rcases Nat.lt_or_eq_of_le (Nat.le_of_lt_succ hn) with hn | rfl
  rotate_left
  · exact ceq.q (G := mkG D cid B sK sV) (t := 2) (n := 6) (fun t ht => by rcases (show t = 0 ∨ t = 1 ∨ t = 2 ∨ t = 3 ∨ t = 4 ∨ t = 5 by omega) with rfl | rfl | rfl | rfl | rfl | rfl <;> rfl)
  rcases Nat.lt_or_eq_of_le (Nat.le_of_lt_succ hn) with hn | rfl
  rotate_left
  · exact ceq.of rfl
  rcases Nat.lt_or_eq_of_le (Nat.le_of_lt_succ hn) with hn | rfl
  rotate_left
  · exact ceq.of rfl
  rcases Nat.lt_or_eq_of_le (Nat.le_of_lt_succ hn) with hn | rfl
  rotate_left
  · exact ceq.of rfl
  rcases Nat.lt_or_eq_of_le (Nat.le_of_lt_succ hn) with hn | rfl
  rotate_left
  · exact ceq.of rfl
  rcases Nat.lt_or_eq_of_le (Nat.le_of_lt_succ hn) with hn | rfl
  rotate_left
  · exact ceq.of rfl
  rcases Nat.lt_or_eq_of_le (Nat.le_of_lt_succ hn) with hn | rfl
  rotate_left
  · exact ceq.of rfl
  rcases Nat.lt_or_eq_of_le (Nat.le_of_lt_succ hn) with hn | rfl
  rotate_left
  · exact ceq.of rfl
  rcases Nat.lt_or_eq_of_le (Nat.le_of_lt_succ hn) with hn | rfl
  rotate_left
  · exact ceq.of rfl
  rcases Nat.lt_or_eq_of_le (Nat.le_of_lt_succ hn) with hn | rfl
  rotate_left
  · exact ceq.of rfl
  rcases Nat.lt_or_eq_of_le (Nat.le_of_lt_succ hn) with hn | rfl
  rotate_left
  · exact ceq.of rfl
  rcases Nat.lt_or_eq_of_le (Nat.le_of_lt_succ hn) with hn | rfl
  rotate_left
  · exact ceq.of rfl
  rcases Nat.lt_or_eq_of_le (Nat.le_of_lt_succ hn) with hn | rfl
  rotate_left
  · exact ceq.of rfl
  rcases Nat.lt_or_eq_of_le (Nat.le_of_lt_succ hn) with hn | rfl
  rotate_left
  · exact ceq.of rfl
  rcases Nat.lt_or_eq_of_le (Nat.le_of_lt_succ hn) with hn | rfl
  rotate_left
  · exact ceq.of rfl
  rcases Nat.lt_or_eq_of_le (Nat.le_of_lt_succ hn) with hn | rfl
  rotate_left
  · exact ceq.of rfl
  rcases Nat.lt_or_eq_of_le (Nat.le_of_lt_succ hn) with hn | rfl
  rotate_left
  · exact ceq.of rfl
  rcases Nat.lt_or_eq_of_le (Nat.le_of_lt_succ hn) with hn | rfl
  rotate_left
  · exact ceq.of rfl
  rcases Nat.lt_or_eq_of_le (Nat.le_of_lt_succ hn) with hn | rfl
  rotate_left
  · exact ceq.of rfl
  rcases Nat.lt_or_eq_of_le (Nat.le_of_lt_succ hn) with hn | rfl
  rotate_left
  · exact ceq.of rfl
  rcases Nat.lt_or_eq_of_le (Nat.le_of_lt_succ hn) with hn | rfl
  rotate_left
  · exact ceq.of rfl
  rcases Nat.lt_or_eq_of_le (Nat.le_of_lt_succ hn) with hn | rfl
  rotate_left
  · exact ceq.of rfl
  rcases Nat.lt_or_eq_of_le (Nat.le_of_lt_succ hn) with hn | rfl
  rotate_left
  · exact ceq.of rfl
  rcases Nat.lt_or_eq_of_le (Nat.le_of_lt_succ hn) with hn | rfl
  rotate_left
  · exact ceq.of rfl
  rcases Nat.lt_or_eq_of_le (Nat.le_of_lt_succ hn) with hn | rfl
  rotate_left
  · exact ceq.of rfl
  rcases Nat.lt_or_eq_of_le (Nat.le_of_lt_succ hn) with hn | rfl
  rotate_left
  · exact ceq.of rfl
  rcases Nat.lt_or_eq_of_le (Nat.le_of_lt_succ hn) with hn | rfl
  rotate_left
  · exact ceq.of rfl
  rcases Nat.lt_or_eq_of_le (Nat.le_of_lt_succ hn) with hn | rfl
  rotate_left
  · exact ceq.of rfl
  rcases Nat.lt_or_eq_of_le (Nat.le_of_lt_succ hn) with hn | rfl
  rotate_left
  · exact ceq.of rfl
  rcases Nat.lt_or_eq_of_le (Nat.le_of_lt_succ hn) with hn | rfl
  rotate_left
  · exact ceq.of rfl
  rcases Nat.lt_or_eq_of_le (Nat.le_of_lt_succ hn) with hn | rfl
  rotate_left
  · exact ceq.of rfl
  rcases Nat.lt_or_eq_of_le (Nat.le_of_lt_succ hn) with hn | rfl
  rotate_left
  · exact ceq.of rfl
  rcases Nat.lt_or_eq_of_le (Nat.le_of_lt_succ hn) with hn | rfl
  rotate_left
  · exact ceq.of rfl
  rcases Nat.lt_or_eq_of_le (Nat.le_of_lt_succ hn) with hn | rfl
  rotate_left
  · exact ceq.of rfl
  rcases Nat.lt_or_eq_of_le (Nat.le_of_lt_succ hn) with hn | rfl
  rotate_left
  · exact ceq.of rfl
  rcases Nat.lt_or_eq_of_le (Nat.le_of_lt_succ hn) with hn | rfl
  rotate_left
  · exact ceq.of rfl
  rcases Nat.lt_or_eq_of_le (Nat.le_of_lt_succ hn) with hn | rfl
  rotate_left
  · exact ceq.of rfl
  rcases Nat.lt_or_eq_of_le (Nat.le_of_lt_succ hn) with hn | rfl
  rotate_left
  · exact ceq.of rfl
  rcases Nat.lt_or_eq_of_le (Nat.le_of_lt_succ hn) with hn | rfl
  rotate_left
  · exact ceq.of rfl
  rcases Nat.lt_or_eq_of_le (Nat.le_of_lt_succ hn) with hn | rfl
  rotate_left
  · exact ceq.of rfl
  rcases Nat.lt_or_eq_of_le (Nat.le_of_lt_succ hn) with hn | rfl
  rotate_left
  · exact ceq.of rfl
  rcases Nat.lt_or_eq_of_le (Nat.le_of_lt_succ hn) with hn | rfl
  rotate_left
  · exact ceq.of rfl
  rcases Nat.lt_or_eq_of_le (Nat.le_of_lt_succ hn) with hn | rfl
  rotate_left
  · exact ceq.of rfl
  rcases Nat.lt_or_eq_of_le (Nat.le_of_lt_succ hn) with hn | rfl
  rotate_left
  · exact ceq.of rfl
  rcases Nat.lt_or_eq_of_le (Nat.le_of_lt_succ hn) with hn | rfl
  rotate_left
  · exact ceq.of rfl
  rcases Nat.lt_or_eq_of_le (Nat.le_of_lt_succ hn) with hn | rfl
  rotate_left
  · exact ceq.of rfl
  rcases Nat.lt_or_eq_of_le (Nat.le_of_lt_succ hn) with hn | rfl
  rotate_left
  · exact ceq.of rfl
  rcases Nat.lt_or_eq_of_le (Nat.le_of_lt_succ hn) with hn | rfl
  rotate_left
  · exact ceq.of rfl
  rcases Nat.lt_or_eq_of_le (Nat.le_of_lt_succ hn) with hn | rfl
  rotate_left
  · exact ceq.of rfl
  rcases Nat.lt_or_eq_of_le (Nat.le_of_lt_succ hn) with hn | rfl
  rotate_left
  · exact ceq.of rfl
  rcases Nat.lt_or_eq_of_le (Nat.le_of_lt_succ hn) with hn | rfl
  rotate_left
  · exact ceq.of rfl
  rcases Nat.lt_or_eq_of_le (Nat.le_of_lt_succ hn) with hn | rfl
  rotate_left
  · exact ceq.of rfl
  rcases Nat.lt_or_eq_of_le (Nat.le_of_lt_succ hn) with hn | rfl
  rotate_left
  · exact ceq.of rfl
  rcases Nat.lt_or_eq_of_le (Nat.le_of_lt_succ hn) with hn | rfl
  rotate_left
  · exact ceq.of rfl
  rcases Nat.lt_or_eq_of_le (Nat.le_of_lt_succ hn) with hn | rfl
  rotate_left
  · exact ceq.of rfl
  rcases Nat.lt_or_eq_of_le (Nat.le_of_lt_succ hn) with hn | rfl
  rotate_left
  · exact ceq.of rfl
  rcases Nat.lt_or_eq_of_le (Nat.le_of_lt_succ hn) with hn | rfl
  rotate_left
  · exact ceq.of rfl
  rcases Nat.lt_or_eq_of_le (Nat.le_of_lt_succ hn) with hn | rfl
  rotate_left
  · exact ceq.of rfl
  rcases Nat.lt_or_eq_of_le (Nat.le_of_lt_succ hn) with hn | rfl
  rotate_left
  · exact ceq.of rfl
  rcases Nat.lt_or_eq_of_le (Nat.le_of_lt_succ hn) with hn | rfl
  rotate_left
  · exact ceq.of rfl
  rcases Nat.lt_or_eq_of_le (Nat.le_of_lt_succ hn) with hn | rfl
  rotate_left
  · exact ceq.of rfl
  rcases Nat.lt_or_eq_of_le (Nat.le_of_lt_succ hn) with hn | rfl
  rotate_left
  · exact ceq.of rfl
  rcases Nat.lt_or_eq_of_le (Nat.le_of_lt_succ hn) with hn | rfl
  rotate_left
  · exact ceq.of rfl
  rcases Nat.lt_or_eq_of_le (Nat.le_of_lt_succ hn) with hn | rfl
  rotate_left
  · exact ceq.of rfl
  rcases Nat.lt_or_eq_of_le (Nat.le_of_lt_succ hn) with hn | rfl
  rotate_left
  · exact ceq.of rfl
  rcases Nat.lt_or_eq_of_le (Nat.le_of_lt_succ hn) with hn | rfl
  rotate_left
  · exact ceq.of rfl
  rcases Nat.lt_or_eq_of_le (Nat.le_of_lt_succ hn) with hn | rfl
  rotate_left
  · exact ceq.of rfl
  rcases Nat.lt_or_eq_of_le (Nat.le_of_lt_succ hn) with hn | rfl
  rotate_left
  · exact ceq.of rfl
  rcases Nat.lt_or_eq_of_le (Nat.le_of_lt_succ hn) with hn | rfl
  rotate_left
  · exact ceq.of rfl
  rcases Nat.lt_or_eq_of_le (Nat.le_of_lt_succ hn) with hn | rfl
  rotate_left
  · exact ceq.of rfl
  rcases Nat.lt_or_eq_of_le (Nat.le_of_lt_succ hn) with hn | rfl
  rotate_left
  · exact ceq.of rfl
  rcases Nat.lt_or_eq_of_le (Nat.le_of_lt_succ hn) with hn | rfl
  rotate_left
  · exact ceq.of rfl
  rcases Nat.lt_or_eq_of_le (Nat.le_of_lt_succ hn) with hn | rfl
  rotate_left
  · exact ceq.of rfl
  rcases Nat.lt_or_eq_of_le (Nat.le_of_lt_succ hn) with hn | rfl
  rotate_left
  · exact ceq.of rfl
  rcases Nat.lt_or_eq_of_le (Nat.le_of_lt_succ hn) with hn | rfl
  rotate_left
  · exact ceq.of rfl
  rcases Nat.lt_or_eq_of_le (Nat.le_of_lt_succ hn) with hn | rfl
  rotate_left
  · exact ceq.of rfl
  rcases Nat.lt_or_eq_of_le (Nat.le_of_lt_succ hn) with hn | rfl
  rotate_left
  · exact ceq.of rfl
  rcases Nat.lt_or_eq_of_le (Nat.le_of_lt_succ hn) with hn | rfl
  rotate_left
  · exact ceq.of rfl
  rcases Nat.lt_or_eq_of_le (Nat.le_of_lt_succ hn) with hn | rfl
  rotate_left
  · exact ceq.of rfl
  rcases Nat.lt_or_eq_of_le (Nat.le_of_lt_succ hn) with hn | rfl
  rotate_left
  · exact ceq.of rfl
  rcases Nat.lt_or_eq_of_le (Nat.le_of_lt_succ hn) with hn | rfl
  rotate_left
  · exact ceq.of rfl
  rcases Nat.lt_or_eq_of_le (Nat.le_of_lt_succ hn) with hn | rfl
  rotate_left
  · exact ceq.of rfl
  rcases Nat.lt_or_eq_of_le (Nat.le_of_lt_succ hn) with hn | rfl
  rotate_left
  · exact ceq.of rfl
  rcases Nat.lt_or_eq_of_le (Nat.le_of_lt_succ hn) with hn | rfl
  rotate_left
  · exact ceq.of rfl
  rcases Nat.lt_or_eq_of_le (Nat.le_of_lt_succ hn) with hn | rfl
  rotate_left
  · exact ceq.of rfl
  rcases Nat.lt_or_eq_of_le (Nat.le_of_lt_succ hn) with hn | rfl
  rotate_left
  · exact ceq.of rfl
  rcases Nat.lt_or_eq_of_le (Nat.le_of_lt_succ hn) with hn | rfl
  rotate_left
  · exact ceq.of rfl
  rcases Nat.lt_or_eq_of_le (Nat.le_of_lt_succ hn) with hn | rfl
  rotate_left
  · exact ceq.of rfl
  rcases Nat.lt_or_eq_of_le (Nat.le_of_lt_succ hn) with hn | rfl
  rotate_left
  · exact ceq.of rfl
  rcases Nat.lt_or_eq_of_le (Nat.le_of_lt_succ hn) with hn | rfl
  rotate_left
  · exact ceq.of rfl
  rcases Nat.lt_or_eq_of_le (Nat.le_of_lt_succ hn) with hn | rfl
  rotate_left
  · exact ceq.of rfl
  rcases Nat.lt_or_eq_of_le (Nat.le_of_lt_succ hn) with hn | rfl
  rotate_left
  · exact ceq.of rfl
  rcases Nat.lt_or_eq_of_le (Nat.le_of_lt_succ hn) with hn | rfl
  rotate_left
  · exact ceq.of rfl
  rcases Nat.lt_or_eq_of_le (Nat.le_of_lt_succ hn) with hn | rfl
  rotate_left
  · exact ceq.of rfl
  rcases Nat.lt_or_eq_of_le (Nat.le_of_lt_succ hn) with hn | rfl
  rotate_left
  · exact ceq.of rfl
  rcases Nat.lt_or_eq_of_le (Nat.le_of_lt_succ hn) with hn | rfl
  rotate_left
  · exact ceq.of rfl
  rcases Nat.lt_or_eq_of_le (Nat.le_of_lt_succ hn) with hn | rfl
  rotate_left
  · exact ceq.of rfl
  rcases Nat.lt_or_eq_of_le (Nat.le_of_lt_succ hn) with hn | rfl
  rotate_left
  · exact ceq.of rfl
  rcases Nat.lt_or_eq_of_le (Nat.le_of_lt_succ hn) with hn | rfl
  rotate_left
  · exact ceq.of rfl
  rcases Nat.lt_or_eq_of_le (Nat.le_of_lt_succ hn) with hn | rfl
  rotate_left
  · exact ceq.of rfl
  rcases Nat.lt_or_eq_of_le (Nat.le_of_lt_succ hn) with hn | rfl
  rotate_left
  · exact ceq.of rfl
  rcases Nat.lt_or_eq_of_le (Nat.le_of_lt_succ hn) with hn | rfl
  rotate_left
  · exact ceq.of rfl
  have e0 : n = 0 := by omega
  subst e0
  exact ceq.of rfl
theorem hp_mk {D : va_G} {cid : Nat → ClassId} {B : Nat} {sK sV : Nat → Nat} {c : Nat → va_E} (H : Heap) (h : HB (mkG D cid B sK sV) 140 (mdC (mkG D cid B sK sV) (fup (chF (mkG D cid B sK sV) c) 121 (.inr (12, bl_X12)))) H) : HP (mkG D cid B sK sV) (cmb sg0 mu0, lg0) H := by
  intro j q hq
  have hj : j < 140 := by
    have := (List.getElem?_eq_some_iff.mp hq).1
    rwa [WS_len] at this
  rw [WS_n hj] at hq
  cases hq
  exact cell_ok D cid B sK sV c j hj _ _ _ _ (h.1 (offL.getD j 0) (off_inv j hj).2)
theorem rs0 : RS sg0 (bgM mu0 50) lg0 := by
  have g4 : gC sg0 0 = (50, 0, 0, -1, -1) := by decide +kernel
  have m4 : gM (bgM mu0 50) = (50, 0, 0, -1, -1) := by decide +kernel
  refine ⟨RK_begin (w := 50) (by decide +kernel) (by decide +kernel) (by decide +kernel) g4 (by decide +kernel) (by decide +kernel) (by decide +kernel) m4, ?_, ?_, ?_, ?_, ?_⟩
  · refine ⟨by decide +kernel, by decide +kernel, fun j hj => ?_⟩
    have e : ix (sg0 5 0 1) = 0 := by decide +kernel
    omega
  · exact ⟨by decide +kernel, by decide +kernel⟩
  · exact ⟨by decide +kernel, by decide +kernel, by decide +kernel⟩
  · exact ⟨by decide +kernel, fun h => absurd (by decide +kernel) h⟩
  · exact ⟨by decide +kernel, fun h => absurd (by decide +kernel) h⟩
