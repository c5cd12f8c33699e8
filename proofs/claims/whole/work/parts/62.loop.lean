/-! the law's loop -/
section ZLOOP
variable {G : Gb} {X : CX} {l : Launch} {b n i : Nat} {xs : Nat → Int32} {τ : Sto × Lng} {ls : List (Nat × Value)} {stk : List Value} {pc : Nat}
theorem y_icmpgt (hX : OL G X l b n xs) {x y : Int32} {off : Int} {tgt : Nat} (hd : decode code pc = .ok (.if_icmp .gt off, 3)) (ht : (pc : Int) + off = (tgt : Int)) (k1 : y < x → ZL G X τ ls stk tgt) (k2 : ¬ y < x → ZL G X τ ls stk (pc + 3)) : ZL G X τ ls (.int y :: .int x :: stk) pc :=
  fun H locs la hH hS hl => lv_icmp_gt hX.1 hX.2.1 hd ht (fun q => k1 q H locs la hH hS hl) (fun q => k2 q H locs la hH hS hl)
theorem y_end (hX : OL G X l b n xs) (hd : decode code pc = .ok (.ireturn, 1)) : ZL G X τ ls [.int 1] pc := by
  intro H locs la hH hS hl
  obtain ⟨x1, x2, x3, x4, x5, x6, x7, x8, x9, x10, x11, x12, x13, x14, x15, x16⟩ := hX
  refine va_forget (fun q hq => ?_) ?_
  · have := hS.2.2 q hq
    unfold AB at this
    rw [x15] at this
    exact this
  · rw [x14, x10]
    exact lw_ret x1 x2 x6 x7 hd
theorem y_next (hX : OL G X l b n xs) (hi : i ≤ 1000) (kk : ZL G X τ (LSt G b (i + 6)) [] 18) : ZL G X τ (LSt G b i) [] 1048 := by
  intro H locs la hH hS hl
  refine lv_iinc (k := 3) (v := nI (i + 6)) (lv' := [(3, .int (nI (i + 6))), (0, .ref b), (1, .ref (ad G 0 0)), (2, .ref (ad G 17 0))]) hX.1 hX.2.1 dL_law_1048 hl rfl (nI_add i 6) (by decide) rfl (fun la hl => ?_)
  refine lv_goto (tgt := 18) hX.1 hX.2.1 dL_law_1051 rfl ?_
  exact kk H locs la hH hS (lv_sub hl [1, 2, 3, 0] rfl)
theorem law_loop (hX : OL G X l b n xs) : ∀ (r i : Nat) (σ μ : Sto) (L : Lng), n ≤ i + r → i ≤ 800 → RS σ μ L → ZL G X (cmb σ μ, L) (LSt G b i) [] 18 := by
  intro r
  induction r with
  | zero =>
    intro i σ μ L hr hi h
    have hn := hX.2.2.2.2.2.2.2.2.2.2.2.2.2.2.2
    refine y_iload (k := 3) (n' := 3) (pc := 18) hX dL_law_18 rfl rfl ?_
    refine y_aload (k := 0) (n' := 0) (pc := 19) hX dL_law_19 rfl rfl ?_
    refine y_alen (pc := 20) hX dL_law_20 ?_
    refine y_bipush (pc := 21) (v := nI 6) hX dL_law_21 (by decide +kernel) ?_
    refine y_isub (pc := 23) hX dL_law_23 ?_
    refine y_icmpgt (pc := 24) (tgt := 1054) hX dL_law_24 rfl (fun _ => ?_) (fun q => ?_)
    · refine y_iconst (pc := 1054) (v := 1) hX dL_law_1054 (by decide +kernel) ?_
      exact y_end (pc := 1055) hX dL_law_1055
    · exfalso
      rw [i_lt, pk_sub_toInt (by omega) (by omega), nI_toInt (by omega)] at q
      omega
  | succ r ih =>
    intro i σ μ L hr hi h
    have hn := hX.2.2.2.2.2.2.2.2.2.2.2.2.2.2.2
    refine y_iload (k := 3) (n' := 3) (pc := 18) hX dL_law_18 rfl rfl ?_
    refine y_aload (k := 0) (n' := 0) (pc := 19) hX dL_law_19 rfl rfl ?_
    refine y_alen (pc := 20) hX dL_law_20 ?_
    refine y_bipush (pc := 21) (v := nI 6) hX dL_law_21 (by decide +kernel) ?_
    refine y_isub (pc := 23) hX dL_law_23 ?_
    refine y_icmpgt (pc := 24) (tgt := 1054) hX dL_law_24 rfl (fun _ => ?_) (fun q => ?_)
    · refine y_iconst (pc := 1054) (v := 1) hX dL_law_1054 (by decide +kernel) ?_
      exact y_end (pc := 1055) hX dL_law_1055
    · rw [i_lt, pk_sub_toInt (by omega) (by omega), nI_toInt (by omega)] at q
      have hlt : i + 5 < n := by omega
      refine y_aload (k := 0) (n' := 0) (pc := 27) hX dL_law_27 rfl rfl ?_
      refine y_iload (k := 3) (n' := 3) (pc := 28) hX dL_law_28 rfl rfl ?_
      refine y_iald (pc := 29) hX (by omega) dL_law_29 ?_
      refine y_bipush (pc := 30) (v := 63) hX dL_law_30 (by decide +kernel) ?_
      refine y_iand (pc := 32) hX dL_law_32 ?_
      obtain ⟨v, hv, e⟩ := pk_andE (xs i) (m := 63) 6 (by decide +kernel)
      rw [e]
      exact law_sw hX hlt h (fun σ' μ' L' h' => y_next hX (by omega) (ih (i + 6) σ' μ' L' (by omega) (by omega) h')) (by omega)
end ZLOOP
