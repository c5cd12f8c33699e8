/-! the law begins: two objects are made -/
def ZLB (G : Gb) (X : CX) (n z k : Nat) (c : Nat → va_E) (ls : List (Nat × Value)) (stk : List Value) (pc : Nat) : Prop :=
  ∀ (H : Heap) (locs : List Loc) (la : Array Slot), HB G k c H → va_S (AB G) X.s.heap H locs → lv_has la 4 ls → W X.p X.l X.e X.R X.s X.m X.args X.below X.meth X.c H locs n z (lw_Z X.below X.args X.s) (F0 X.m pc la stk)
section ZLBEG
variable {G : Gb} {X : CX} {l : Launch} {b m0 : Nat} {xs : Nat → Int32} {n z k : Nat} {c : Nat → va_E} {ls : List (Nat × Value)} {stk : List Value} {pc : Nat}
theorem yb_new (hX : OL G X l b m0 xs) {index ci N : Nat} {C : String} {T : u_T} (hin : ∀ w ∈ u_ws C T N, w ∈ gw) (ty : Nat → FieldType) (hty : ∀ k, k < N → parseFieldDescriptor (T k).2.2.1 = some (ty k)) (hcl : Cond.classLink "CrownTwoLaw" index C ∈ gw) (hinst : Cond.instantiable C N ∈ gw) (hini : Cond.initialized C ∈ gw) (hc : vwCl[ci]? = some (C, T, N)) (fs : List Value) (hfs : ∀ j, j < N → defaultValue (ty j) = vp_V fs j) (hn : n + 1 ≤ 600000) (hz : z + N ≤ 7302250) (hd : decode code pc = .ok (.new index, 3))
    (kk : ZLB G X (n + 1) (z + N) (k + 1) (fup c k (.inr (ci, fs))) ls (.ref (G.2.2.2.1 + k) :: stk) (pc + 3)) : ZLB G X n z k c ls stk pc := by
  intro H locs la hH hS hl
  obtain ⟨x1, x2, x3, x4, x5, x6, x7, x8, x9, x10, x11, -⟩ := hX
  have hKn := x8.1.1 ci _ hc
  refine W.newcK x1 x2 x4 (x5 _ hcl) (x5 _ hinst) (x5 _ hini) rfl hd (by rw [x10]; exact hn) (by rw [x10]; exact hz) hKn.2.1 hH.2 fun H1 kC hkC e1 z1 o1 => ?_
  refine kk H1 locs la (hH.push (by rw [z1, hH.2]) (fun x hx => o1 x (by rw [← hH.2]; exact hx)) ?_) ⟨Nat.le_trans hS.1 (by rw [z1, hH.2]; omega), fun x h1 h2 => (o1 x (by rw [← hH.2]; exact Nat.lt_of_lt_of_le h1 hS.1)).trans (hS.2.1 x h1 h2), hS.2.2⟩ hl
  exact ⟨_, hc, (u_born ty x5 hin hKn hkC e1 hty).to hfs⟩
theorem yb_dup (hX : OL G X l b m0 xs) {x : Nat} (hd : decode code pc = .ok (.dup, 1)) (kk : ZLB G X n z k c ls (.ref x :: .ref x :: stk) (pc + 1)) : ZLB G X n z k c ls (.ref x :: stk) pc :=
  fun H locs la hH hS hl => lv_dup hX.1 hX.2.1 hd rfl (kk H locs la hH hS hl)
theorem yb_astore (hX : OL G X l b m0 xs) {i : Fin 4} {j x : Nat} {ls' : List (Nat × Value)} (hd : decode code pc = .ok (.astore_n i, 1)) (hi : (i : Nat) = j) (hn : j < 4) (hf : (j, Value.ref x) :: ls.filter (fun q => !(q.1 == j) && !(q.1 + 1 == j && q.2.category == 2)) = ls') (kk : ZLB G X n z k c ls' stk (pc + 1)) : ZLB G X n z k c ls (.ref x :: stk) pc :=
  fun H locs la hH hS hl => lv_astore_n hX.1 hX.2.1 hd hi hl hn hf (fun la hl => kk H locs la hH hS hl)
theorem yb_call (hX : OL G X l b m0 xs) (hKB : KB G X.s) {a : Nat} {y : MethodName} {bytes : ByteArray} {maxL fr' mc' ms' lo' index : Nat} {P : Heap → Prop} {stk0 : List Value} (hw : CW "CrownTwoLaw" index y bytes maxL none) (hi : Cond.instanceMethod y ∈ gw) (hy : y.name = "<init>")
    (hd : y.cls ≠ "java/lang/invoke/MethodHandle" ∧ y.cls ≠ "java/lang/invoke/VarHandle" ∧ (parseMethodDescriptor y.desc).map (fun d => d.parameters.length) = some 0) (hR : fr' + 1 ≤ 2048 ∧ 8 + (maxL + 11) + lo' ≤ 84000) (hC : CTB G l y bytes maxL fr' mc' ms' lo' [.ref a] k c P) (hst : stk0 = .ref a :: stk) (hW : (stk.map fun v => v.category).sum ≤ 8) (hnc : n + mc' ≤ 600000) (hzc : z + ms' ≤ 7302250) (hdg : decode code pc = .ok (.invokespecial index, 3))
    (kk : ∀ (H : Heap) (locs : List Loc) (la : Array Slot), P H → va_S (AB G) X.s.heap H locs → lv_has la 4 ls → W X.p X.l X.e X.R X.s X.m X.args X.below X.meth X.c H locs (n + mc') (z + ms') (lw_Z X.below X.args X.s) (F0 X.m (pc + 3) la stk)) : ZLB G X n z k c ls stk0 pc := by
  intro H locs la hH hS hl
  obtain ⟨x1, x2, x3, x4, x5, x6, x7, x8, x9, x10, x11, -⟩ := hX
  have hMM := hC
  unfold CTB at hMM
  rw [← x11] at hMM
  have cb : CallB X.R X.s X.args "CrownTwoLaw" index y bytes maxL none (.code y bytes maxL none :: gw) { frames := fr', cells := mc', slots := ms', locals := lo' } mc' ms' 0 :=
    callB_of 0 x5 (gw_code hw.2.1) rfl rfl rfl (x5 _ hw.2.2) (x5 _ hw.1) hd (by rw [x10]; exact hR)
  have run := va_runI (Ts := gw) (cells := n) (slots := z) (below := X.below) (meth := X.meth) (e := X.e) (locs := locs) (As := []) (rest := stk) (g := F0 X.m pc la stk0) ⟨x1, x2, x3, x4, x5⟩ hMM ⟨cb, hy, x5 _ hi⟩ ⟨preB_blind, fun U hU hWm => ⟨rfl, hKB.call hS hU hWm, by rw [hU]; exact hH⟩⟩ rfl rfl hl.1 hst (lv_room hW) hdg ⟨by rw [x10]; exact hnc, by rw [x10]; exact hzc⟩
  intro T hT Y
  obtain ⟨v, st₀, t, T', L, h0, X', hL, e1, e2, ⟨⟨hv, hb⟩, hz, hk⟩, stp⟩ := run T hT Y
  cases hv
  rw [h0] at hz hk
  obtain ⟨t2, a1, b1⟩ := kk T'.heap (locs ++ L) la (by rw [e1]; exact hb) ⟨Nat.le_trans hS.1 (by rw [e1]; exact hz), fun q h1 h2 => by rw [e1, hk q (Nat.lt_of_lt_of_le h1 hS.1) h2]; exact hS.2.1 q h1 h2, fun q hq => by
    rcases List.mem_append.mp hq with g | g
    · exact hS.2.2 q g
    · exact hL q g⟩ hl T' rfl X'
  exact ⟨t2, stp t2 a1, b1⟩
end ZLBEG
theorem law_start {D : va_G} {cid : Nat → ClassId} {B : Nat} {sK sV : Nat → Nat} {X : CX} {l : Launch} {b m0 : Nat} {xs : Nat → Int32} (hX : OL (mkG D cid B sK sV) X l b m0 xs) (hKB : KB (mkG D cid B sK sV) X.s) (c : Nat → va_E) : ZLB (mkG D cid B sK sV) X 0 0 0 c [(0, .ref b)] [] 0 := by
  refine yb_new (pc := 0) (ci := 11) hX inX11 tyX11 tyX11_ok q_21 q_22 q_1 rfl bl_X11 nf_X11 (by decide) (by decide) dL_law_0 ?_
  refine yb_dup (pc := 3) hX dL_law_3 ?_
  refine yb_call (pc := 4) (stk := [.ref (B + 0)]) hX hKB ⟨q_23, q_25, q_1⟩ q_24 rfl bhd_X11_init ⟨Nat.le_of_ble_eq_true rfl, Nat.le_of_ble_eq_true rfl⟩ (b_T (fup_s _ _ _)) rfl (Nat.le_of_ble_eq_true rfl) (by decide) (by decide) dL_law_4 ?_
  show ZLB (mkG D cid B sK sV) X _ _ 121 _ _ _ 7
  refine yb_astore (pc := 7) hX dL_law_7 rfl (by decide) rfl ?_
  refine yb_new (pc := 8) (ci := 12) hX inX12 tyX12 tyX12_ok q_802 q_803 q_13 rfl bl_X12 nf_X12 (by decide) (by decide) dL_law_8 ?_
  refine yb_dup (pc := 11) hX dL_law_11 ?_
  refine yb_call (pc := 12) (stk := [.ref (B + 121)]) hX hKB ⟨q_804, q_806, q_13⟩ q_805 rfl bhd_X12_init ⟨Nat.le_of_ble_eq_true rfl, Nat.le_of_ble_eq_true rfl⟩ (b_M (σ := sg0) (μ := mu0) (L := lg0) (fup_s _ _ _) (GA_mk D cid B sK sV) rfl (fun H h => hp_mk H h)) rfl (Nat.le_of_ble_eq_true rfl) (by decide) (by decide) dL_law_12 ?_
  intro H locs la hH hS hl
  refine W.widen (k := 600000) (n := 7302250) (by decide) (by decide) ?_
  refine lv_astore_n (lv' := [(2, .ref (B + 121)), (1, .ref (B + 0)), (0, .ref b)]) hX.1 hX.2.1 dL_law_15 rfl hl (by decide) rfl (fun la hl => ?_)
  refine lv_iconst (v := nI 0) hX.1 hX.2.1 dL_law_16 (by decide +kernel) ?_
  refine lv_istore_n (lv' := [(3, .int (nI 0)), (2, .ref (B + 121)), (1, .ref (B + 0)), (0, .ref b)]) hX.1 hX.2.1 dL_law_17 rfl hl (by decide) rfl (fun la hl => ?_)
  exact law_loop hX m0 0 sg0 (bgM mu0 50) lg0 (by omega) (by omega) rs0 H locs la hH hS (lv_sub hl [3, 2, 1, 0] rfl)
