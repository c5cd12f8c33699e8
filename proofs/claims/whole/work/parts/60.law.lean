/-! THE CLAIM OUT OF ONE WALK OF THE LAW'S BODY. Your part is whole_start (and what it stands on); all else here is the same for every law, but numbers. -/
def R_law : String := "CrownTwoLaw"
def lw_P (b : Addr) (xs : List Int32) (args : Array Value) (s : State) : Prop := args = #[.ref b] ∧ s.IntsAt b xs ∧ xs.length ≤ 384 ∧ (Jvm.Cond.and given_1 narrow_1).before args s = true
def lw_Q (_ : Array Value) (s : State) (o : Outcome) (t : State) : Prop := o = .returned (some (.int 1)) ∧ Framed s o t [] 600000 7302250
def lw_Z (below : List Frame) (a : Array Value) (s : State) : State → Prop := fun t => ∃ o, t.status = .running ∧ Ended t below o ∧ lw_Q a s o t
/-- the law's own end, with 1 on the stack, nothing written that was there before, its room as the claim has it -/
theorem lw_ret {p : Program} {l : Launch} {e : Env} {s : State} {m : MethodId} {below : List Frame} {meth : Method} {c : Code} {b : Nat} (hx : p.tables.exec = Jvm.exec) (hb : c.code = code) (hr : meth.sig.returnType = ret) (hlocks : meth.locks = false) {pc : Nat} {H : Heap} {ls : Array Slot} (hdg : decode code pc = .ok (.ireturn, 1)) : W p l e room_1 s m #[Value.ref b] below meth c H [] 600000 7302250 (lw_Z below #[Value.ref b] s) (F0 m pc ls [.int 1]) := by
  intro T hT X
  obtain ⟨fs, hret, hrun, hended, hW, hframe⟩ := X.leave (v := some (.int 1)) (hlocks := hlocks) (fun h => by rw [hr] at h; cases h)
  have hmeth' : T.vm.method? m = some meth := X.method'
  refine ⟨T.setFrames fs, ?_, .returned (some (.int 1)), hrun, hended, rfl, ⟨_, rfl⟩, hW, hframe⟩
  jvm_step X.here [X.here.top, hx, hb, hdg, hmeth', hr, ret, narrow_b1]
  (try refine ⟨rfl, ?_⟩); (try refine ⟨rfl, ?_⟩)
  first | (intro acts; rw [hret _ acts rfl rfl rfl]) | rw [hret _ _ rfl rfl rfl]
  exact Steps.refl _
/-- what holds at the law's entry: the machine, the code, the tables' words (any of lw_tbl by 'hts w (by decide +kernel)'), the script of L ints xs at the cell b, what the Statement gives of the start (any of its parts by flat_of_before) -/
def lw_At (p : Program) (s : State) (m : MethodId) (meth : Method) (c : Code) (b L : Nat) (xs : Nat → Int32) : Prop :=
  p.tables.exec = Jvm.exec ∧ c.code = code ∧ meth.sig.returnType = ret ∧ c.maxLocals = 4 ∧ s.vm.findClass R_law = some m.cls ∧ (∀ w ∈ lw_tbl, w.before #[Value.ref b] s = true) ∧ va_X b L xs s s.heap ∧ b < s.heap.size ∧ meth.locks = false ∧ (Jvm.Cond.and given_1 narrow_1).before #[Value.ref b] s = true
/-! the law's own rows: the store is the class's and the reference's, the script is the law's argument -/
def OL (G : Gb) (X : CX) (l : Launch) (b n : Nat) (xs : Nat → Int32) : Prop :=
  X.p.tables.exec = Jvm.exec ∧ X.c.code = code ∧ X.c.maxLocals = 4 ∧ X.s.vm.findClass "CrownTwoLaw" = some X.m.cls ∧ (∀ w ∈ gw, w.before X.args X.s = true) ∧ X.meth.sig.returnType = ret ∧ X.meth.locks = false ∧ KS G X.s ∧ GA G ∧ X.R = room_1 ∧ X.l = l ∧ va_X b n xs X.s X.s.heap ∧ b < X.s.heap.size ∧ X.args = #[.ref b] ∧ G.2.2.2.1 = X.s.heap.size ∧ n ≤ 384
def ZL (G : Gb) (X : CX) (τ : Sto × Lng) (ls : List (Nat × Value)) (stk : List Value) (pc : Nat) : Prop :=
  ∀ (H : Heap) (locs : List Loc) (la : Array Slot), HP G τ H → va_S (AB G) X.s.heap H locs → lv_has la 4 ls → W X.p X.l X.e X.R X.s X.m X.args X.below X.meth X.c H locs 600000 7302250 (lw_Z X.below X.args X.s) (F0 X.m pc la stk)
def LSt (G : Gb) (b i : Nat) : List (Nat × Value) := [(0, .ref b), (1, .ref (ad G 0 0)), (2, .ref (ad G 17 0)), (3, .int (nI i))]
section ZLAW
variable {G : Gb} {X : CX} {l : Launch} {b n i : Nat} {xs : Nat → Int32} {τ : Sto × Lng} {ls : List (Nat × Value)} {stk : List Value} {pc : Nat}
theorem OL.nA (hX : OL G X l b n xs) : ¬ AB G b := by
  obtain ⟨-, -, -, -, -, -, -, -, -, -, -, -, h1, -, h2, -⟩ := hX
  unfold AB
  rw [h2]
  omega
theorem y_aload (hX : OL G X l b n xs) {k : Fin 4} {x n' : Nat} (hd : decode code pc = .ok (.aload_n k, 1)) (hi : (k : Nat) = n') (hn : ls[n']? = some (n', .ref x)) (kk : ZL G X τ ls (.ref x :: stk) (pc + 1)) : ZL G X τ ls stk pc :=
  fun H locs la hH hS hl => lv_aload_n hX.1 hX.2.1 hd hi (lv_at hl n' hn) (kk H locs la hH hS hl)
theorem y_iload (hX : OL G X l b n xs) {k : Fin 4} {x : Int32} {n' : Nat} (hd : decode code pc = .ok (.iload_n k, 1)) (hi : (k : Nat) = n') (hn : ls[n']? = some (n', .int x)) (kk : ZL G X τ ls (.int x :: stk) (pc + 1)) : ZL G X τ ls stk pc :=
  fun H locs la hH hS hl => lv_iload_n hX.1 hX.2.1 hd hi (lv_at hl n' hn) (kk H locs la hH hS hl)
theorem y_iconst (hX : OL G X l b n xs) {d : Int} {v : Int32} (hd : decode code pc = .ok (.iconst d, 1)) (hv : Int32.ofInt d = v) (kk : ZL G X τ ls (.int v :: stk) (pc + 1)) : ZL G X τ ls stk pc :=
  fun H locs la hH hS hl => lv_iconst hX.1 hX.2.1 hd hv (kk H locs la hH hS hl)
theorem y_bipush (hX : OL G X l b n xs) {d : Int} {v : Int32} (hd : decode code pc = .ok (.bipush d, 2)) (hv : (Int8.ofInt d).toInt32 = v) (kk : ZL G X τ ls (.int v :: stk) (pc + 2)) : ZL G X τ ls stk pc :=
  fun H locs la hH hS hl => lv_bipush hX.1 hX.2.1 hd hv (kk H locs la hH hS hl)
theorem y_iadd (hX : OL G X l b n xs) {x y : Int32} (hd : decode code pc = .ok (.iadd, 1)) (kk : ZL G X τ ls (.int (x + y) :: stk) (pc + 1)) : ZL G X τ ls (.int y :: .int x :: stk) pc :=
  fun H locs la hH hS hl => lv_iadd hX.1 hX.2.1 hd (kk H locs la hH hS hl)
theorem y_isub (hX : OL G X l b n xs) {x y : Int32} (hd : decode code pc = .ok (.isub, 1)) (kk : ZL G X τ ls (.int (x - y) :: stk) (pc + 1)) : ZL G X τ ls (.int y :: .int x :: stk) pc :=
  fun H locs la hH hS hl => lv_isub hX.1 hX.2.1 hd (kk H locs la hH hS hl)
theorem y_iand (hX : OL G X l b n xs) {x y : Int32} (hd : decode code pc = .ok (.iand, 1)) (kk : ZL G X τ ls (.int (x &&& y) :: stk) (pc + 1)) : ZL G X τ ls (.int y :: .int x :: stk) pc :=
  fun H locs la hH hS hl => lv_iand hX.1 hX.2.1 hd (kk H locs la hH hS hl)
theorem y_iald (hX : OL G X l b n xs) {x : Nat} (hx : x < n) (hd : decode code pc = .ok (.iaload, 1)) (kk : ZL G X τ ls (.int (xs x) :: stk) (pc + 1)) : ZL G X τ ls (.int (nI x) :: .ref b :: stk) pc := by
  intro H locs la hH hS hl
  have hn := hX.2.2.2.2.2.2.2.2.2.2.2.2.2.2.2
  have k2 := kk H locs la hH hS hl
  refine va_sld hX.1 hX.2.1 hX.2.2.2.2.2.2.2.2.2.2.2.1 hX.2.2.2.2.2.2.2.2.2.2.2.2.1 hX.nA hS (vp_in_nI hx (by omega)) hd ?_
  rw [nI_clamp (by omega)]
  exact k2
theorem y_alen (hX : OL G X l b n xs) (hd : decode code pc = .ok (.arraylength, 1)) (kk : ZL G X τ ls (.int (nI n) :: stk) (pc + 1)) : ZL G X τ ls (.ref b :: stk) pc :=
  fun H locs la hH hS hl => va_slen hX.1 hX.2.1 hX.2.2.2.2.2.2.2.2.2.2.2.1 hX.2.2.2.2.2.2.2.2.2.2.2.2.1 hX.nA hS hd (kk H locs la hH hS hl)
/-- an argument of a call: script[i + j] -/
theorem y_arg (hX : OL G X l b n xs) (hi : i + 5 < n) {j : Nat} {d : Int} (hj : j ≤ 5) (h0 : decode code pc = .ok (.aload_n 0, 1)) (h1 : decode code (pc + 1) = .ok (.iload_n 3, 1)) (h2 : decode code (pc + 2) = .ok (.iconst d, 1)) (h3 : decode code (pc + 3) = .ok (.iadd, 1)) (h4 : decode code (pc + 4) = .ok (.iaload, 1)) (hd : Int32.ofInt d = nI j) (kk : ZL G X τ (LSt G b i) (.int (xs (i + j)) :: stk) (pc + 5)) : ZL G X τ (LSt G b i) stk pc := by
  refine y_aload (n' := 0) hX h0 rfl rfl ?_
  refine y_iload (n' := 3) hX h1 rfl rfl ?_
  refine y_iconst hX h2 hd ?_
  refine y_iadd hX h3 ?_
  rw [nI_add]
  exact y_iald hX (by omega) h4 kk
theorem y_call {S ρ' : Type} {E : S → Sto × Lng} {pv' : ρ' → Option Value} {ps' : ρ' → S} {σ : S} {r' : ρ'} (hX : OL G X l b n xs) {k i : Nat} {C : String} (hr : RC G k i C) {y : MethodName} {bytes : ByteArray} {maxL fr' lo' index na : Nat} {rt : Option FieldType} {As stk0 : List Value} (hw : CW "CrownTwoLaw" index y bytes maxL rt) (hi : Cond.instanceMethod y ∈ gw) (hs : Cond.selects C y y ∈ gw)
    (hd : y.cls ≠ "java/lang/invoke/MethodHandle" ∧ y.cls ≠ "java/lang/invoke/VarHandle" ∧ (parseMethodDescriptor y.desc).map (fun d => d.parameters.length) = some na) (hR : fr' + 1 ≤ 2048 ∧ 8 + (maxL + 11) + lo' ≤ 84000) (hC : CT G l E pv' ps' y bytes maxL rt fr' lo' (.ref (ad G k i) :: As) σ (some r')) (hn : As.length = na) (hst : stk0 = As.reverse ++ .ref (ad G k i) :: stk) (hW : (stk.map fun v => v.category).sum ≤ 8) (hdg : decode code pc = .ok (.invokevirtual index, 3))
    (kk : ZL G X (E (ps' r')) ls ((pv' r').toList ++ stk) (pc + 3)) : ZL G X (E σ) ls stk0 pc := by
  intro H locs la hH hS hl
  have hMM := hC r' rfl
  obtain ⟨x1, x2, x3, x4, x5, x6, x7, x8, x9, x10, x11, -⟩ := hX
  rw [← x11] at hMM
  obtain ⟨hV, ci, T, N, hc, hf⟩ := hr
  obtain ⟨fs, hfs⟩ := hf ((E σ).1 k i) (E σ).2
  have hrc : ∃ cell : Cell, H[ad G k i]? = some cell ∧ cell.vm.isStatics = false ∧ X.s.vm.findClass C = some cell.cls := va_recv x8.1 hH hc (q0 := plc k i) (by rw [WS_get hV, hfs])
  have cb : CallB X.R X.s X.args "CrownTwoLaw" index y bytes maxL rt (.code y bytes maxL rt :: gw) { frames := fr', cells := 0, slots := 0, locals := lo' } 0 0 na :=
    callB_of na x5 (gw_code hw.2.1) rfl rfl rfl (x5 _ hw.2.2) (x5 _ hw.1) hd (by rw [x10]; exact hR)
  have run := va_runV (Ts := gw) (cells := 600000) (slots := 7302250) (below := X.below) (meth := X.meth) (e := X.e) (locs := locs) (g := F0 X.m pc la stk0) ⟨x1, x2, x3, x4, x5⟩ hMM ⟨cb, x5 _ hi, x5 _ hs⟩ ⟨pre_blind, hrc, fun U hU hWm => ⟨rfl, x8.call hS hU hWm, by rw [hU]; exact hH⟩⟩ rfl hn hl.1 hst (lv_room hW) hdg ⟨by rw [x10]; exact Nat.le_refl _, by rw [x10]; exact Nat.le_refl _⟩
  intro T hT Y
  obtain ⟨v, st₀, t, T', L, h0, X', hL, e1, e2, ⟨⟨hv, hb⟩, hz, hk⟩, stp⟩ := run T hT Y
  cases hv
  rw [h0] at hz hk
  obtain ⟨t2, a1, b1⟩ := kk T'.heap (locs ++ L) la (by rw [e1]; exact hb) ⟨Nat.le_trans hS.1 (by rw [e1]; exact hz), fun q h1 h2 => by rw [e1, hk q (Nat.lt_of_lt_of_le h1 hS.1) h2]; exact hS.2.1 q h1 h2, fun q hq => by
    rcases List.mem_append.mp hq with g | g
    · exact hS.2.2 q g
    · exact hL q g⟩ hl T' rfl X'
  exact ⟨t2, stp t2 a1, b1⟩
theorem y_icmp (hX : OL G X l b n xs) {x : Int32} {off : Int} {tgt : Nat} (hd : decode code pc = .ok (.if_icmp .eq off, 3)) (ht : (pc : Int) + off = (tgt : Int)) (kk : ZL G X τ ls stk tgt) : ZL G X τ ls (.int x :: .int x :: stk) pc :=
  fun H locs la hH hS hl => lv_icmp_eq hX.1 hX.2.1 hd ht (fun _ => kk H locs la hH hS hl) (fun q => absurd rfl q)
theorem y_lcmp (hX : OL G X l b n xs) {x : Int64} (hd : decode code pc = .ok (.lcmp, 1)) (kk : ZL G X τ ls (.int 0 :: stk) (pc + 1)) : ZL G X τ ls (.long x :: .long x :: stk) pc := by
  intro H locs la hH hS hl
  refine W.lcmp hX.1 hX.2.1 hd ?_
  rw [show lg_cmp x x = 0 by simp [lg_cmp]]
  exact kk H locs la hH hS hl
theorem y_ifeq (hX : OL G X l b n xs) {off : Int} {tgt : Nat} (hd : decode code pc = .ok (.ifCond .eq off, 3)) (ht : (pc : Int) + off = (tgt : Int)) (kk : ZL G X τ ls stk tgt) : ZL G X τ ls (.int 0 :: stk) pc :=
  fun H locs la hH hS hl => lv_if_eq hX.1 hX.2.1 hd ht (fun _ => kk H locs la hH hS hl) (fun q => absurd rfl q)
theorem y_tabIn (hX : OL G X l b n xs) {dflt lo hi : Int} {offs : Array Int} {len : Nat} {x : Int32} {off : Int} {tgt : Nat} (hd : decode code pc = .ok (.tableswitch dflt lo hi offs, len)) (h1 : ¬ x.toInt < lo) (h2 : ¬ hi < x.toInt) (ho : offs[(x.toInt - lo).toNat]? = some off) (ht : (pc : Int) + off = (tgt : Int)) (kk : ZL G X τ ls stk tgt) : ZL G X τ ls (.int x :: stk) pc :=
  fun H locs la hH hS hl => lv_tableIn hX.1 hX.2.1 hd h1 h2 ho ht (kk H locs la hH hS hl)
theorem y_tabOut (hX : OL G X l b n xs) {dflt lo hi : Int} {offs : Array Int} {len : Nat} {x : Int32} {tgt : Nat} (hd : decode code pc = .ok (.tableswitch dflt lo hi offs, len)) (h : x.toInt < lo ∨ hi < x.toInt) (ht : (pc : Int) + dflt = (tgt : Int)) (kk : ZL G X τ ls stk tgt) : ZL G X τ ls (.int x :: stk) pc :=
  fun H locs la hH hS hl => lv_tableOut hX.1 hX.2.1 hd h ht (kk H locs la hH hS hl)
end ZLAW
