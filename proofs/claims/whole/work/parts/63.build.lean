/-! objects being made: the k cells made so far lie one behind another from the first new address on; c says what they hold -/
def fup (c : Nat → va_E) (k : Nat) (e : va_E) : Nat → va_E := fun x => if x = k then e else c x
theorem fup_s (c : Nat → va_E) (k : Nat) (e : va_E) : fup c k e k = e := if_pos rfl
theorem fup_o {c : Nat → va_E} {k x : Nat} {e : va_E} (h : x ≠ k) : fup c k e x = c x := if_neg h
def bw (B k : Nat) (c : Nat → va_E) : va_W := (List.range k).map (fun j => (B + j, c j))
theorem bw_get {B k : Nat} {c : Nat → va_E} {j : Nat} (h : j < k) : (bw B k c)[j]? = some (B + j, c j) := by
  unfold bw
  rw [List.getElem?_map, List.getElem?_range h]
  rfl
theorem bw_len (B k : Nat) (c : Nat → va_E) : (bw B k c).length = k := by simp [bw]
theorem bw_inv {B k : Nat} {c : Nat → va_E} {j : Nat} {q : Nat × va_E} (h : (bw B k c)[j]? = some q) : j < k ∧ q = (B + j, c j) := by
  have hj : j < k := by
    have := (List.getElem?_eq_some_iff.mp h).1
    rwa [bw_len] at this
  rw [bw_get hj] at h
  exact ⟨hj, (Option.some.inj h).symm⟩
def HB (G : Gb) (k : Nat) (c : Nat → va_E) (H : Heap) : Prop := (∀ j, j < k → va_at G.1 vwCl (G.2.2.2.1 + j, c j) H) ∧ H.size = G.2.2.2.1 + k
theorem HB.P {G : Gb} {k : Nat} {c : Nat → va_E} {H : Heap} (h : HB G k c H) : va_P G.1 vwCl (bw G.2.2.2.1 k c) H := fun j q hq => by
  obtain ⟨h1, h2⟩ := bw_inv hq
  rw [h2]; exact h.1 j h1
theorem bw_D {G : Gb} {k : Nat} {c : Nat → va_E} : va_D (AB G) (bw G.2.2.2.1 k c) := by
  refine ⟨fun i j p q hi hj e => ?_, fun j q hq => ?_⟩
  · obtain ⟨-, e1⟩ := bw_inv hi
    obtain ⟨-, e2⟩ := bw_inv hj
    rw [e1, e2] at e
    have e : G.2.2.2.1 + i = G.2.2.2.1 + j := e
    omega
  · obtain ⟨-, e1⟩ := bw_inv hq
    rw [e1]
    exact Nat.le_add_right _ _
theorem HB.push {G : Gb} {k : Nat} {c : Nat → va_E} {H H1 : Heap} {e : va_E} (h : HB G k c H) (z : H1.size = H.size + 1) (o : ∀ x, x < H.size → H1[x]? = H[x]?) (hn : va_at G.1 vwCl (G.2.2.2.1 + k, e) H1) : HB G (k + 1) (fup c k e) H1 := by
  refine ⟨fun j hj => ?_, by rw [z, h.2]; omega⟩
  by_cases q : j = k
  · subst q; rw [fup_s]; exact hn
  · rw [fup_o q]
    have hh := h.1 j (by omega)
    exact hh.kept (o _ hh.lt)
theorem HB.put {G : Gb} {k j : Nat} {c : Nat → va_E} {H H1 : Heap} {e : va_E} (h : HB G k c H) (z : H1.size = H.size) (o : ∀ x, x ≠ G.2.2.2.1 + j → H1[x]? = H[x]?) (hn : va_at G.1 vwCl (G.2.2.2.1 + j, e) H1) : HB G k (fup c j e) H1 := by
  refine ⟨fun i hi => ?_, by rw [z, h.2]⟩
  by_cases q : i = j
  · subst q; rw [fup_s]; exact hn
  · rw [fup_o q]
    exact (h.1 i hi).kept (o _ (by omega))
/-- cells that hold the same where it counts -/
def ceq (e e' : va_E) : Prop := ∀ (D : va_G) (cl : List vw_C) (a : Nat) (H : Heap), va_at D cl (a, e) H → va_at D cl (a, e') H
theorem ceq.of {e e' : va_E} (h : e = e') : ceq e e' := fun _ _ _ _ q => by rw [← h]; exact q
theorem arrV_c {cA : ClassId} {n : Nat} {f g : Nat → Value} (h : ∀ j, j < n → f j = g j) : arrV cA n f = arrV cA n g := by
  have e : (fun j => f j) = f := rfl
  unfold arrV
  congr 1
  first
    | (congr 1; apply List.map_congr_left; intro j hj; exact h j (List.mem_range.mp hj))
    | (apply Array.ext; · simp
       · intro i h1 h2
         simp at h1
         simp [h i (by simpa using h1)])
theorem ceq.q {G : Gb} {t n : Nat} {f g : Nat → Option Nat} (h : ∀ j, j < n → f j = g j) : ceq (arQ G t n f) (arQ G t n g) := by
  intro D cl a H q
  have q : H[a]? = some (vp_cell (G.2.1 t) (n, .inr (.inr (.inr (.inr f))))) := q
  show H[a]? = some (vp_cell (G.2.1 t) (n, .inr (.inr (.inr (.inr g)))))
  rw [q, vp_cell_q, vp_cell_q]
  congr 1
  exact arrV_c (fun j hj => by rw [h j hj])
theorem HB.ceq {G : Gb} {k : Nat} {c c' : Nat → va_E} {H : Heap} (h : HB G k c H) (q : ∀ j, j < k → ceq (c j) (c' j)) : HB G k c' H := ⟨fun j hj => q j hj _ _ _ _ (h.1 j hj), h.2⟩
def plk : List String := ["CrownTwo$Plain", "CrownTwo$Heir", "CrownTwo$Note", "CrownTwo$Moment", "CrownTwo$Court"]
def pls : List String := ["CrownTwo$Sulky", "CrownTwo$Joker", "CrownTwo$Proud", "CrownTwo$Tired", "CrownTwo$Forgiver"]
/-- constructors of nest mates: who links them, at which place -/
def nls : List (String × Nat × MethodName) := [("CrownTwo", 15, ⟨"CrownTwo$CourtText", "<init>", "()V"⟩), ("CrownTwo", 22, ⟨"CrownTwo$Moment", "<init>", "()V"⟩), ("CrownTwo", 59, ⟨"CrownTwo$Plain", "<init>", "()V"⟩), ("CrownTwo", 62, ⟨"CrownTwo$Sulky", "<init>", "()V"⟩), ("CrownTwo$Sulky", 1, ⟨"CrownTwo$Plain", "<init>", "()V"⟩), ("CrownTwo", 65, ⟨"CrownTwo$Joker", "<init>", "()V"⟩), ("CrownTwo$Joker", 1, ⟨"CrownTwo$Plain", "<init>", "()V"⟩), ("CrownTwo", 68, ⟨"CrownTwo$Proud", "<init>", "()V"⟩), ("CrownTwo$Proud", 1, ⟨"CrownTwo$Plain", "<init>", "()V"⟩), ("CrownTwo", 71, ⟨"CrownTwo$Tired", "<init>", "()V"⟩), ("CrownTwo$Tired", 1, ⟨"CrownTwo$Sulky", "<init>", "()V"⟩), ("CrownTwo", 74, ⟨"CrownTwo$Forgiver", "<init>", "()V"⟩), ("CrownTwo$Forgiver", 1, ⟨"CrownTwo$Joker", "<init>", "()V"⟩), ("CrownTwo$Court", 29, ⟨"CrownTwo$Moment", "<init>", "()V"⟩), ("CrownTwo$Court", 48, ⟨"CrownTwo$Heir", "<init>", "()V"⟩), ("CrownTwo$Court", 49, ⟨"CrownTwo$Note", "<init>", "()V"⟩)]
def KB (G : Gb) (U : State) : Prop := KS G U ∧ (∀ C ∈ plk, va_AO C U) ∧ (∀ C ∈ pls, va_Nw (.castable C "CrownTwo$Plain") U) ∧ ∀ q ∈ nls, va_Nw (.methodLinkNest q.1 q.2.1 q.2.2 "CrownTwo") U
theorem KB.call {G : Gb} {s U : State} {H : Heap} {locs : List Loc} (h : KB G s) (hS : va_S (AB G) s.heap H locs) (hH : U.heap = H) (hW : s.WarmedH U.vm) : KB G U := ⟨h.1.call hS hH hW, fun C hC => va_AO.moved hW.alike (h.2.1 C hC), fun C hC => va_Nw.warmC hW (h.2.2.1 C hC), fun q hq => va_Nw.warmM hW (h.2.2.2 q hq)⟩
theorem KB.calling {G : Gb} {U : State} {g : JFrame} {mk : MethodId} {a : Array Value} (h : KB G U) : KB G (U.calling g mk a) := ⟨h.1.calling, fun C hC => va_AO.moved (u := U) (U := U.calling g mk a) (Vm.Alike.refl U.vm) (h.2.1 C hC), fun C hC => va_Nw.same rfl (u := U) (U := U.calling g mk a) rfl (h.2.2.1 C hC), fun q hq => va_Nw.same rfl (u := U) (U := U.calling g mk a) rfl (h.2.2.2 q hq)⟩
/-- what holds in a constructor's body -/
def OB (G : Gb) (X : CX) (l : Launch) (cc : ByteArray) (nL : Nat) (own : String) (fr mc ms lo : Nat) : Prop :=
  X.p.tables.exec = Jvm.exec ∧ X.c.code = cc ∧ X.c.maxLocals = nL ∧ X.s.vm.findClass own = some X.m.cls ∧ (∀ w ∈ gw, w.before X.args X.s = true) ∧ X.meth.sig.returnType = none ∧ X.meth.locks = false ∧ KB G X.s ∧ X.R = { frames := fr, cells := mc, slots := ms, locals := lo } ∧ X.l = l ∧ X.meth.name = "<init>"
/-- n new cells of z slots so far; from here the constructor comes to its end, where P holds of the heap -/
def ZB (G : Gb) (X : CX) (mc ms nL : Nat) (P : Heap → Prop) (n z k : Nat) (c : Nat → va_E) (ls : List (Nat × Value)) (stk : List Value) (pc : Nat) : Prop :=
  ∀ (H : Heap) (locs : List Loc) (la : Array Slot), HB G k c H → va_S (AB G) X.s.heap H locs → lv_has la nL ls → W X.p X.l X.e X.R X.s X.m X.args X.below X.meth X.c H locs n z (MQ X.below (fun _ st oc t => (oc = .returned none ∧ P t.heap) ∧ va_F (AB G) st t) X.args X.s mc ms (AB G)) (F0 X.m pc la stk)
def CTB (G : Gb) (l : Launch) (y : MethodName) (bytes : ByteArray) (maxL fr mc ms lo : Nat) (args : List Value) (k : Nat) (c : Nat → va_E) (P : Heap → Prop) : Prop :=
  Met l y (.code y bytes maxL none :: gw) { frames := fr, cells := mc, slots := ms, locals := lo } (va_Pc args (fun U => KB G U ∧ HB G k c U.heap)) (fun _ st oc t => (oc = .returned none ∧ P t.heap) ∧ va_F (AB G) st t) mc ms (AB G)
theorem CTB.of {G : Gb} {l : Launch} {y : MethodName} {bytes : ByteArray} {maxL fr mc ms lo : Nat} {args : List Value} {k : Nat} {c : Nat → va_E} {P : Heap → Prop} (hy : plainName y.cls = true) (hnm : y.name = "<init>") (hlen : (lg_sl args).length ≤ maxL) (h : ∀ X : CX, OB G X l bytes maxL y.cls fr mc ms lo → ZB G X mc ms maxL P 0 0 k c (lv_args 0 args) [] 0) : CTB G l y bytes maxL fr mc ms lo args k c P := by
  refine Met.ofW (cc := bytes) (maxL := maxL) (ret := none) hy rfl ?_
  intro p e s m as below meth cd s₁ B hml hv
  obtain ⟨rfl, hK, hH⟩ := hv
  have hts := atoms_spec (ws := .code y bytes maxL none :: gw) B.pre
  have hX : OB G (p, l, e, (headSpec (.code y bytes maxL none :: gw) { frames := fr, cells := mc, slots := ms, locals := lo }).room, s, m, args.toArray, below, meth, cd) l bytes maxL y.cls fr mc ms lo :=
    ⟨B.exec, B.bytes, hml, findClass_of_methodNamed B.named, fun w hw => hts w (List.mem_cons_of_mem _ hw), B.returns, B.notSynchronized, hK, rfl, rfl, (name_of_methodNamed B.named B.method).1.trans hnm⟩
  have hl := lv_entry args (n := maxL) hlen
  rw [lg_entry_eq]
  exact h _ hX s.heap [] _ hH va_S.rf hl
theorem preB_blind {G : Gb} {k : Nat} {c : Nat → va_E} {args : List Value} : FrameBlind (va_Pc args (fun U => KB G U ∧ HB G k c U.heap)) := fun _ _ _ _ q => ⟨q.1, q.2.1.calling, q.2.2⟩
section ZBROWS
variable {G : Gb} {X : CX} {l : Launch} {cc : ByteArray} {nL : Nat} {own : String} {fr mc ms lo : Nat} {P : Heap → Prop} {n z k : Nat} {c : Nat → va_E} {ls : List (Nat × Value)} {stk : List Value} {pc : Nat}
theorem OB.K (hX : OB G X l cc nL own fr mc ms lo) : va_K G.1 vwCl (tys G) X.s := hX.2.2.2.2.2.2.2.1.1.1
theorem OB.A (hX : OB G X l cc nL own fr mc ms lo) : ∀ q, X.s.heap.size ≤ q → AB G q := fun q h => Nat.le_trans hX.2.2.2.2.2.2.2.1.1.2.2.2.2.2 h
theorem b_aload (hX : OB G X l cc nL own fr mc ms lo) {i : Fin 4} {j x : Nat} (hd : decode cc pc = .ok (.aload_n i, 1)) (hi : (i : Nat) = j) (p : Nat) (hn : ls[p]? = some (j, .ref x)) (kk : ZB G X mc ms nL P n z k c ls (.ref x :: stk) (pc + 1)) : ZB G X mc ms nL P n z k c ls stk pc :=
  fun H locs la hH hS hl => lv_aload_n hX.1 hX.2.1 hd hi (lv_at hl p hn) (kk H locs la hH hS hl)
theorem b_iload (hX : OB G X l cc nL own fr mc ms lo) {i : Fin 4} {j : Nat} {x : Int32} (hd : decode cc pc = .ok (.iload_n i, 1)) (hi : (i : Nat) = j) (p : Nat) (hn : ls[p]? = some (j, .int x)) (kk : ZB G X mc ms nL P n z k c ls (.int x :: stk) (pc + 1)) : ZB G X mc ms nL P n z k c ls stk pc :=
  fun H locs la hH hS hl => lv_iload_n hX.1 hX.2.1 hd hi (lv_at hl p hn) (kk H locs la hH hS hl)
theorem b_astore (hX : OB G X l cc nL own fr mc ms lo) {i : Fin 4} {j x : Nat} {ls' : List (Nat × Value)} (hd : decode cc pc = .ok (.astore_n i, 1)) (hi : (i : Nat) = j) (hn : j < nL) (hf : (j, Value.ref x) :: ls.filter (fun q => !(q.1 == j) && !(q.1 + 1 == j && q.2.category == 2)) = ls') (kk : ZB G X mc ms nL P n z k c ls' stk (pc + 1)) : ZB G X mc ms nL P n z k c ls (.ref x :: stk) pc :=
  fun H locs la hH hS hl => lv_astore_n hX.1 hX.2.1 hd hi hl hn hf (fun la hl => kk H locs la hH hS hl)
theorem b_istore (hX : OB G X l cc nL own fr mc ms lo) {i : Fin 4} {j : Nat} {x : Int32} {ls' : List (Nat × Value)} (hd : decode cc pc = .ok (.istore_n i, 1)) (hi : (i : Nat) = j) (hn : j < nL) (hf : (j, Value.int x) :: ls.filter (fun q => !(q.1 == j) && !(q.1 + 1 == j && q.2.category == 2)) = ls') (kk : ZB G X mc ms nL P n z k c ls' stk (pc + 1)) : ZB G X mc ms nL P n z k c ls (.int x :: stk) pc :=
  fun H locs la hH hS hl => lv_istore_n hX.1 hX.2.1 hd hi hl hn hf (fun la hl => kk H locs la hH hS hl)
theorem b_iinc (hX : OB G X l cc nL own fr mc ms lo) {i p : Nat} {d : Int} {x v : Int32} {ls' : List (Nat × Value)} (hd : decode cc pc = .ok (.iinc i d, 3)) (hk : ls[p]? = some (i, .int x)) (hv : x + Int32.ofInt d = v) (hn : i < nL) (hf : (i, Value.int v) :: ls.filter (fun q => !(q.1 == i) && !(q.1 + 1 == i && q.2.category == 2)) = ls') (kk : ZB G X mc ms nL P n z k c ls' stk (pc + 3)) : ZB G X mc ms nL P n z k c ls stk pc :=
  fun H locs la hH hS hl => lv_iinc hX.1 hX.2.1 hd hl hk hv hn hf (fun la hl => kk H locs la hH hS hl)
theorem b_ls {ls' : List (Nat × Value)} (ks : List Nat) (h : lv_pick ls ks = ls') (kk : ZB G X mc ms nL P n z k c ls' stk pc) : ZB G X mc ms nL P n z k c ls stk pc := fun H locs la hH hS hl => kk H locs la hH hS (lv_sub hl ks h)
theorem b_iconst (hX : OB G X l cc nL own fr mc ms lo) {d : Int} {v : Int32} (hd : decode cc pc = .ok (.iconst d, 1)) (hv : Int32.ofInt d = v) (kk : ZB G X mc ms nL P n z k c ls (.int v :: stk) (pc + 1)) : ZB G X mc ms nL P n z k c ls stk pc :=
  fun H locs la hH hS hl => lv_iconst hX.1 hX.2.1 hd hv (kk H locs la hH hS hl)
theorem b_lconst (hX : OB G X l cc nL own fr mc ms lo) {d : Fin 2} {v : Int64} (hd : decode cc pc = .ok (.lconst d, 1)) (hv : Int64.ofNat (d : Nat) = v) (kk : ZB G X mc ms nL P n z k c ls (.long v :: stk) (pc + 1)) : ZB G X mc ms nL P n z k c ls stk pc :=
  fun H locs la hH hS hl => lv_lconst hX.1 hX.2.1 hd hv (kk H locs la hH hS hl)
theorem b_bipush (hX : OB G X l cc nL own fr mc ms lo) {d : Int} {v : Int32} (hd : decode cc pc = .ok (.bipush d, 2)) (hv : (Int8.ofInt d).toInt32 = v) (kk : ZB G X mc ms nL P n z k c ls (.int v :: stk) (pc + 2)) : ZB G X mc ms nL P n z k c ls stk pc :=
  fun H locs la hH hS hl => lv_bipush hX.1 hX.2.1 hd hv (kk H locs la hH hS hl)
theorem b_sipush (hX : OB G X l cc nL own fr mc ms lo) {d : Int} {v : Int32} (hd : decode cc pc = .ok (.sipush d, 3)) (hv : (Int16.ofInt d).toInt32 = v) (kk : ZB G X mc ms nL P n z k c ls (.int v :: stk) (pc + 3)) : ZB G X mc ms nL P n z k c ls stk pc :=
  fun H locs la hH hS hl => lv_sipush hX.1 hX.2.1 hd hv (kk H locs la hH hS hl)
theorem b_dup (hX : OB G X l cc nL own fr mc ms lo) {x : Nat} (hd : decode cc pc = .ok (.dup, 1)) (kk : ZB G X mc ms nL P n z k c ls (.ref x :: .ref x :: stk) (pc + 1)) : ZB G X mc ms nL P n z k c ls (.ref x :: stk) pc :=
  fun H locs la hH hS hl => lv_dup hX.1 hX.2.1 hd rfl (kk H locs la hH hS hl)
theorem b_goto (hX : OB G X l cc nL own fr mc ms lo) {off : Int} {tgt : Nat} (hd : decode cc pc = .ok (.goto off, 3)) (ht : (pc : Int) + off = (tgt : Int)) (kk : ZB G X mc ms nL P n z k c ls stk tgt) : ZB G X mc ms nL P n z k c ls stk pc :=
  fun H locs la hH hS hl => lv_goto hX.1 hX.2.1 hd ht (kk H locs la hH hS hl)
theorem b_icmpge (hX : OB G X l cc nL own fr mc ms lo) {x y : Int32} {off : Int} {tgt : Nat} (hd : decode cc pc = .ok (.if_icmp .ge off, 3)) (ht : (pc : Int) + off = (tgt : Int)) (k1 : y ≤ x → ZB G X mc ms nL P n z k c ls stk tgt) (k2 : ¬ y ≤ x → ZB G X mc ms nL P n z k c ls stk (pc + 3)) : ZB G X mc ms nL P n z k c ls (.int y :: .int x :: stk) pc :=
  fun H locs la hH hS hl => lv_icmp_ge hX.1 hX.2.1 hd ht (fun q => k1 q H locs la hH hS hl) (fun q => k2 q H locs la hH hS hl)
theorem b_ret (hX : OB G X l cc nL own fr mc ms lo) (hn : n ≤ mc) (hz : z ≤ ms) (hd : decode cc pc = .ok (.return_, 1)) (hP : ∀ H, HB G k c H → P H) : ZB G X mc ms nL P n z k c ls [] pc := by
  intro H locs la hH hS hl
  refine W.widen hn hz ?_
  exact W.vret hX.1 hX.2.1 hX.2.2.2.2.2.1 (fun t ht hW => ⟨⟨rfl, by rw [ht]; exact hP H hH⟩, hS.F ht⟩) hS.2.2 hd hX.2.2.2.2.2.2.1
theorem b_objInit (hX : OB G X l cc nL own fr mc ms lo) {idx x : Nat} (h1 : Cond.methodLink own idx objectInit ∈ gw) (h2 : Cond.instanceMethod objectInit ∈ gw) (h3 : Cond.code objectInit ⟨#[0xb1]⟩ 1 none ∈ gw) (hf : 1 ≤ fr) (hlo : 20 ≤ lo) (hW : (stk.map fun v => v.category).sum ≤ 8) (hd : decode cc pc = .ok (.invokespecial idx, 3)) (kk : ZB G X mc ms nL P n z k c ls stk (pc + 3)) : ZB G X mc ms nL P n z k c ls (.ref x :: stk) pc := by
  intro H locs la hH hS hl
  obtain ⟨x1, x2, x3, x4, x5, x6, x7, x8, x9, x10, x11⟩ := hX
  refine W.objInit x1 x2 x4 (x5 _ h1) (x5 _ h2) (x5 _ h3) rfl (by rw [x3]; exact hl.1) rfl hd (by rw [x9]; exact hf) (by rw [x9]; show 2 * (F0 X.m pc la (.ref x :: stk)).monitorRoom + _ + 12 ≤ lo; have := lv_room (m := X.m) (pc := pc) (ls := la) (rest := stk) hW; simp only [F0] at this ⊢; omega) ?_
  exact W.eq (g2 := F0 X.m (pc + 3) la stk) rfl (kk H locs la hH hS hl)
theorem b_new (hX : OB G X l cc nL own fr mc ms lo) {index ci N : Nat} {C : String} {T : u_T} (hin : ∀ w ∈ u_ws C T N, w ∈ gw) (ty : Nat → FieldType) (hty : ∀ k, k < N → parseFieldDescriptor (T k).2.2.1 = some (ty k)) (hcl : Cond.classLink own index C ∈ gw) (hinst : Cond.instantiable C N ∈ gw) (hini : Cond.initialized C ∈ gw) (hc : vwCl[ci]? = some (C, T, N)) (fs : List Value) (hfs : ∀ j, j < N → defaultValue (ty j) = vp_V fs j) (hn : n + 1 ≤ mc) (hz : z + N ≤ ms) (hd : decode cc pc = .ok (.new index, 3))
    (kk : ZB G X mc ms nL P (n + 1) (z + N) (k + 1) (fup c k (.inr (ci, fs))) ls (.ref (G.2.2.2.1 + k) :: stk) (pc + 3)) : ZB G X mc ms nL P n z k c ls stk pc := by
  intro H locs la hH hS hl
  have hKn := hX.K.1 ci _ hc
  obtain ⟨x1, x2, x3, x4, x5, x6, x7, x8, x9, x10, x11⟩ := hX
  refine W.newcK x1 x2 x4 (x5 _ hcl) (x5 _ hinst) (x5 _ hini) rfl hd (by rw [x9]; exact hn) (by rw [x9]; exact hz) hKn.2.1 hH.2 fun H1 kC hkC e1 z1 o1 => ?_
  refine kk H1 locs la (hH.push (by rw [z1, hH.2]) (fun x hx => o1 x (by rw [← hH.2]; exact hx)) ?_) ⟨Nat.le_trans hS.1 (by rw [z1, hH.2]; omega), fun x h1 h2 => (o1 x (by rw [← hH.2]; exact Nat.lt_of_lt_of_le h1 hS.1)).trans (hS.2.1 x h1 h2), hS.2.2⟩ hl
  exact ⟨_, hc, (u_born ty x5 hin hKn hkC e1 hty).to hfs⟩
theorem b_newi (hX : OB G X l cc nL own fr mc ms lo) {atype : ArrayType} {ty : FieldType} (hty : newarray.typeOf atype = ty) {t0 : Nat} (ht : (tys G)[t0]? = some (G.2.1 t0, ty)) (hRA : va_RA X.s (G.2.1 t0) ty → X.s.vm.findClass ("[" ++ ty.toString) = some (G.2.1 t0)) (harr : Cond.arrayClass ty ∈ gw) {x : Int32} {N : Nat} (ha : ∀ cA : ClassId, vp_cell cA (N, .inl (fun _ => 0)) = arrV cA N (fun _ => defaultValue ty)) (h0 : ¬ x < 0) (hN : x.toNatClampNeg = N) (hbytes : N * componentBytes ty ≤ 536870912) (hn : n + 1 ≤ mc) (hz : z + N ≤ ms) (hd : decode cc pc = .ok (.newarray atype, 2))
    (kk : ZB G X mc ms nL P (n + 1) (z + N) (k + 1) (fup c k (.inl (G.2.1 t0, N, .inl (fun _ => 0)))) ls (.ref (G.2.2.2.1 + k) :: stk) (pc + 2)) : ZB G X mc ms nL P n z k c ls (.int x :: stk) pc := by
  subst hty
  intro H locs la hH hS hl
  have hK2 := hRA (hX.K.2 t0 _ ht).2
  obtain ⟨x1, x2, x3, x4, x5, x6, x7, x8, x9, x10, x11⟩ := hX
  refine va_newaK x1 x2 (x5 _ harr) rfl hd rfl h0 hN hbytes (by rw [x9]; exact hn) (by rw [x9]; exact hz) hH.2 fun H1 cA e1 z1 o1 hAr hNm => ?_
  have ec : cA = G.2.1 t0 := Option.some.inj (hNm.symm.trans hK2)
  subst ec
  refine kk H1 locs la (hH.push (by rw [z1, hH.2]) (fun x hx => o1 x (by rw [← hH.2]; exact hx)) ?_) ⟨Nat.le_trans hS.1 (by rw [z1, hH.2]; omega), fun x h1 h2 => (o1 x (by rw [← hH.2]; exact Nat.lt_of_lt_of_le h1 hS.1)).trans (hS.2.1 x h1 h2), hS.2.2⟩ hl
  show H1[G.2.2.2.1 + k]? = some (vp_cell _ _)
  rw [ha]
  exact e1
theorem b_newq (hX : OB G X l cc nL own fr mc ms lo) {C : String} {index t0 : Nat} (ht : (tys G)[t0]? = some (G.2.1 t0, .object C)) (hcl : Cond.classLink own index C ∈ gw) (hov : C ∈ plk) {x : Int32} {N : Nat} (h0 : ¬ x < 0) (hN : x.toNatClampNeg = N) (hbytes : N * 4 ≤ 536870912) (hn : n + 1 ≤ mc) (hz : z + N ≤ ms) (hd : decode cc pc = .ok (.anewarray index, 3))
    (kk : ZB G X mc ms nL P (n + 1) (z + N) (k + 1) (fup c k (arQ G t0 N (fun _ => none))) ls (.ref (G.2.2.2.1 + k) :: stk) (pc + 3)) : ZB G X mc ms nL P n z k c ls (.int x :: stk) pc := by
  subst hN
  intro H locs la hH hS hl
  obtain ⟨kA0, comp0, -, -, -, hK2⟩ := (hX.K.2 t0 _ ht).2
  obtain ⟨x1, x2, x3, x4, x5, x6, x7, x8, x9, x10, x11⟩ := hX
  refine W.anew x1 x2 x4 (x5 _ hcl) (va_AO.use (x8.2.1 C hov)) rfl hd rfl h0 hbytes (by rw [x9]; exact hn) (by rw [x9]; exact hz) fun cA kA comp f1 f2 f3 f4 => ?_
  have ec : cA = G.2.1 t0 := Option.some.inj (f1.symm.trans hK2)
  subst ec
  generalize hH1 : H.push ({ cls := G.2.1 t0, slots := Array.replicate x.toNatClampNeg .null, vm := .none } : Cell) = H1
  have z1 : H1.size = H.size + 1 := by rw [← hH1, Array.size_push]
  have e1 : H1[H.size]? = some (arrV (G.2.1 t0) x.toNatClampNeg (fun _ => .null)) := by rw [← hH1, Array.getElem?_push_size, ← arrV_new]
  have o1 : ∀ q : Nat, q < H.size → H1[q]? = H[q]? := fun q hq => by rw [← hH1, Array.getElem?_push, if_neg (Nat.ne_of_lt hq)]
  have k2 := kk H1 locs la (hH.push z1 o1 (by
    show H1[G.2.2.2.1 + k]? = some (vp_cell _ _)
    rw [vp_cell_q, ← hH.2]
    exact e1)) ⟨Nat.le_trans hS.1 (by rw [z1]; omega), fun x h1 h2 => (o1 x (Nat.lt_of_lt_of_le h1 hS.1)).trans (hS.2.1 x h1 h2), hS.2.2⟩ hl
  rw [← hH.2] at k2
  exact k2
theorem b_put (hX : OB G X l cc nL own fr mc ms lo) {j ci slot N index : Nat} {C : String} {T : u_T} {fs : List Value} {v : Value} (hj : j < k) (he : c j = .inr (ci, fs)) (hc : vwCl[ci]? = some (C, T, N)) (hin : ∀ w ∈ u_ws C T N, w ∈ gw) (ty0 : Nat → FieldType) (hty : ∀ k, k < N → parseFieldDescriptor (T k).2.2.1 = some (ty0 k)) (hnm : ∀ a, a < N → ∀ b, b < N → a ≠ b → (T a).2.1 ≠ (T b).2.1) (hk : slot < N) (hlink : Cond.fieldLink own index (T slot).1 (T slot).2.1 (T slot).2.2.1 ∈ gw) (hfin : (T slot).2.2.2 = false) {ty : FieldType} (hdt : parseFieldDescriptor (T slot).2.2.1 = some ty) (hnr : narrow ty v = v) (hfit : fits ty v = true) (hl0 : slot < fs.length) (hd : decode cc pc = .ok (.putfield index, 3))
    (kk : ZB G X mc ms nL P n z k (fup c j (.inr (ci, fs.set slot v))) ls stk (pc + 3)) : ZB G X mc ms nL P n z k c ls (v :: .ref (G.2.2.2.1 + j) :: stk) pc := by
  intro H locs la hH hS hl
  have hK := hX.K
  obtain ⟨x1, x2, x3, x4, x5, x6, x7, x8, x9, x10, x11⟩ := hX
  have hap := va_apart (own := own) x5 hin ty0 hty hnm hK hc
  have hat := hH.1 j hj
  rw [he] at hat
  obtain ⟨r, h1, cell, q1, q2, q3, q4⟩ := hat
  have hr : r = (C, T, N) := Option.some.inj (h1.symm.trans hc)
  subst hr
  obtain ⟨hSl, hfc, kC, hkC, hkind⟩ := hK.1 ci _ hc
  obtain ⟨cf, kf, fi, f, hi, hsl⟩ := hSl slot hk
  have hlay := x5 _ (hin _ (u_in_lay hk))
  unfold u_lay at hlay
  rw [if_neg (by rw [hfin]; decide)] at hlay
  have hst := (u_facts hfc hkC (u_lays x5 hin hk) hi).1
  have h6 := u_store hfc hkC hkind hlay hi hdt hnr hfit
  refine W.putK x1 x2 (f := f) ⟨x4, x5 _ hlink, ⟨_, _, _, hi⟩, hst⟩ (by rw [q2]; exact h6) q1 q3 (by rw [hsl]; exact k2_hasslot (q4 slot hk)) rfl rfl hd fun H' e1 e2 e3 => ?_
  rw [hsl] at e1 ⊢
  exact kk H' _ la (hH.put e2 e3 ⟨_, hc, t_OB.to (V := updV (vp_V fs) slot v) ⟨_, e1, q2, q3, t_set q4 hap hk v⟩ (fun j _ => vp_updV_set hl0 v j)⟩) (hS.put e2 e3 (Nat.le_add_right _ _)) hl
theorem b_putF (hX : OB G X l cc nL own fr mc ms lo) {j ci slot N index : Nat} {C : String} {T : u_T} {fs : List Value} {v : Value} (hj : j < k) (he : c j = .inr (ci, fs)) (hc : vwCl[ci]? = some (C, T, N)) (hin : ∀ w ∈ u_ws C T N, w ∈ gw) (ty0 : Nat → FieldType) (hty : ∀ k, k < N → parseFieldDescriptor (T k).2.2.1 = some (ty0 k)) (hnm : ∀ a, a < N → ∀ b, b < N → a ≠ b → (T a).2.1 ≠ (T b).2.1) (hk : slot < N) (hlink : Cond.fieldLink own index (T slot).1 (T slot).2.1 (T slot).2.2.1 ∈ gw) (hfin : (T slot).2.2.2 = true) (hdecl : (T slot).1 = own) {ty : FieldType} (hdt : parseFieldDescriptor (T slot).2.2.1 = some ty) (hnr : narrow ty v = v) (hfit : fits ty v = true) (hl0 : slot < fs.length) (hd : decode cc pc = .ok (.putfield index, 3))
    (kk : ZB G X mc ms nL P n z k (fup c j (.inr (ci, fs.set slot v))) ls stk (pc + 3)) : ZB G X mc ms nL P n z k c ls (v :: .ref (G.2.2.2.1 + j) :: stk) pc := by
  intro H locs la hH hS hl
  have hK := hX.K
  obtain ⟨x1, x2, x3, x4, x5, x6, x7, x8, x9, x10, x11⟩ := hX
  have hap := va_apart (own := own) x5 hin ty0 hty hnm hK hc
  have hat := hH.1 j hj
  rw [he] at hat
  obtain ⟨r, h1, cell, q1, q2, q3, q4⟩ := hat
  have hr : r = (C, T, N) := Option.some.inj (h1.symm.trans hc)
  subst hr
  obtain ⟨hSl, hfc, kC, hkC, hkind⟩ := hK.1 ci _ hc
  obtain ⟨cf, kf, fi, f, hi, hsl⟩ := hSl slot hk
  have hlay := x5 _ (hin _ (u_in_lay hk))
  unfold u_lay at hlay
  rw [if_pos hfin] at hlay
  have hst := (u_facts hfc hkC (u_lays x5 hin hk) hi).1
  have hcf : X.m.cls = cf := by
    obtain ⟨_, _, c', _, _, _, -, -, hf', -, -, -, hown2, -⟩ := Cond.laysFinal_spec hlay
    have e1 : c' = cf := by have := hi.symm.trans hf'; simp at this; exact this.1.symm
    rw [hdecl] at hown2
    rw [← e1]; exact Option.some.inj (x4.symm.trans hown2)
  have h6 := u_fits hfc hkC hkind (Or.inr hlay) hi hdt hnr hfit
  refine W.putFinK x1 x2 x4 (x5 _ hlink) hi hst hcf x11 (by rw [q2]; exact h6) q1 q3 (by rw [hsl]; exact k2_hasslot (q4 slot hk)) rfl rfl hd fun H' e1 e2 e3 => ?_
  rw [hsl] at e1 ⊢
  exact kk H' _ la (hH.put e2 e3 ⟨_, hc, t_OB.to (V := updV (vp_V fs) slot v) ⟨_, e1, q2, q3, t_set q4 hap hk v⟩ (fun j _ => vp_updV_set hl0 v j)⟩) (hS.put e2 e3 (Nat.le_add_right _ _)) hl
theorem b_get (hX : OB G X l cc nL own fr mc ms lo) {j ci slot N index : Nat} {C : String} {T : u_T} {fs : List Value} {v : Value} (hj : j < k) (he : c j = .inr (ci, fs)) (hc : vwCl[ci]? = some (C, T, N)) (hin : ∀ w ∈ u_ws C T N, w ∈ gw) (hk : slot < N) (hlink : Cond.fieldLink own index (T slot).1 (T slot).2.1 (T slot).2.2.1 ∈ gw) (hv : fs[slot]? = some v) (hd : decode cc pc = .ok (.getfield index, 3))
    (kk : ZB G X mc ms nL P n z k c ls (v :: stk) (pc + 3)) : ZB G X mc ms nL P n z k c ls (.ref (G.2.2.2.1 + j) :: stk) pc :=
  fun H locs la hH hS hl => va_get hX.1 hX.2.1 hX.2.2.2.2.1 hin hX.2.2.2.1 hX.K hH.P j (by rw [bw_get hj, he]) hc slot hk (hX.2.2.2.2.1 _ hlink) (fun _ h => h) hv hd (kk H locs la hH hS hl)
theorem b_alen (hX : OB G X l cc nL own fr mc ms lo) {j t0 N : Nat} {ty : FieldType} {a : (Nat → Int32) ⊕ (Nat → Int64) ⊕ (Nat → UInt32) ⊕ (Nat → UInt64) ⊕ (Nat → Option Nat)} (hj : j < k) (he : c j = .inl (G.2.1 t0, N, a)) (ht : (tys G)[t0]? = some (G.2.1 t0, ty)) (hd : decode cc pc = .ok (.arraylength, 1)) (kk : ZB G X mc ms nL P n z k c ls (.int (nI N) :: stk) (pc + 1)) : ZB G X mc ms nL P n z k c ls (.ref (G.2.2.2.1 + j) :: stk) pc :=
  fun H locs la hH hS hl => va_alen (x := (N, a)) hX.1 hX.2.1 hX.K hH.P j t0 (by rw [bw_get hj, he]) ht rfl hd (kk H locs la hH hS hl)
theorem b_ast (hX : OB G X l cc nL own fr mc ms lo) {j i ci t0 N : Nat} {C : String} {T : u_T} {M : Nat} {vs : List Value} {f : Nat → Option Nat} {x : Int32} (hj : j < k) (he : c j = arQ G t0 N f) (ht : (tys G)[t0]? = some (G.2.1 t0, .object C)) (hi : i < k) (hv : c i = .inr (ci, vs)) (hc : vwCl[ci]? = some (C, T, M)) (hx : vp_in x N) (hd : decode cc pc = .ok (.aastore, 1))
    (kk : ZB G X mc ms nL P n z k (fup c j (arQ G t0 N (va_up f x.toNatClampNeg (some (G.2.2.2.1 + i))))) ls stk (pc + 1)) : ZB G X mc ms nL P n z k c ls (.ref (G.2.2.2.1 + i) :: .int x :: .ref (G.2.2.2.1 + j) :: stk) pc := by
  intro H locs la hH hS hl
  have hK := hX.K
  obtain ⟨x1, x2, x3, x4, x5, x6, x7, x8, x9, x10, x11⟩ := hX
  have hlt : x.toNatClampNeg < N := Nat.not_le.mp fun q => hx (Or.inr q)
  have h0 : ¬ x < 0 := fun q => hx (Or.inl q)
  have hati := hH.1 i hi
  rw [hv] at hati
  obtain ⟨r', hr', cellV, g1, g2, g3, -⟩ := hati
  have hat := hH.1 j hj
  rw [he] at hat
  have hat : H[G.2.2.2.1 + j]? = some (vp_cell (G.2.1 t0) (N, .inr (.inr (.inr (.inr f))))) := hat
  have hcls := (hK.1 ci _ hc).2
  obtain ⟨kA, comp, k1, k2, k3, -⟩ := (hK.2 t0 _ ht).2
  have hcomp : comp = G.1.1 ci := Option.some.inj (k3.symm.trans hcls.1)
  subst hcomp
  obtain ⟨kC, hkC, -⟩ := hcls.2
  refine W.aast x1 x2 hat (fun q h => by cases h) (fun h => by cases h) k1 k2 rfl hkC ⟨h0, by show _ < (arrV _ _ _).slots.size; rw [arrV_size]; exact hlt⟩ g1 (fun q h => by rw [g3] at h; cases h) (by rw [g2]; exact hkC) (by rw [g2]; exact va_assign hcls) rfl rfl hd fun H1 e z1 oq => ?_
  refine kk H1 _ la (hH.put z1 oq ?_) (hS.put z1 oq (Nat.le_add_right _ _)) hl
  show H1[G.2.2.2.1 + j]? = some (vp_cell _ _)
  rw [e]
  rw [vp_cell_q, vp_cell_q, arrV_store]
  congr 2
  funext q
  by_cases hq : q = x.toNatClampNeg
  · subst hq
    simp [updV, va_up, va_rf]
  · simp [updV, va_up, hq]
theorem b_astO (hX : OB G X l cc nL own fr mc ms lo) {j i ci t0 N : Nat} {C : String} {T : u_T} {M : Nat} {vs : List Value} {f : Nat → Option Nat} {x : Int32} (hj : j < k) (he : c j = arQ G t0 N f) (ht : (tys G)[t0]? = some (G.2.1 t0, .object "CrownTwo$Plain")) (hi : i < k) (hv : c i = .inr (ci, vs)) (hc : vwCl[ci]? = some (C, T, M)) (hca : C ∈ pls) (hx : vp_in x N) (hd : decode cc pc = .ok (.aastore, 1))
    (kk : ZB G X mc ms nL P n z k (fup c j (arQ G t0 N (va_up f x.toNatClampNeg (some (G.2.2.2.1 + i))))) ls stk (pc + 1)) : ZB G X mc ms nL P n z k c ls (.ref (G.2.2.2.1 + i) :: .int x :: .ref (G.2.2.2.1 + j) :: stk) pc := by
  intro H locs la hH hS hl
  have hK := hX.K
  obtain ⟨x1, x2, x3, x4, x5, x6, x7, x8, x9, x10, x11⟩ := hX
  have hlt : x.toNatClampNeg < N := Nat.not_le.mp fun q => hx (Or.inr q)
  have h0 : ¬ x < 0 := fun q => hx (Or.inl q)
  have hati := hH.1 i hi
  rw [hv] at hati
  obtain ⟨r', hr', cellV, g1, g2, g3, -⟩ := hati
  have hat := hH.1 j hj
  rw [he] at hat
  have hat : H[G.2.2.2.1 + j]? = some (vp_cell (G.2.1 t0) (N, .inr (.inr (.inr (.inr f))))) := hat
  have hcls := (hK.1 ci _ hc).2
  obtain ⟨kA, comp, k1, k2, k3, -⟩ := (hK.2 t0 _ ht).2
  obtain ⟨kE, hkE, -⟩ := Vm.findClass_spec k3
  obtain ⟨c0, t1, f1, f2, f3⟩ := Cond.castable_spec (va_Nw.use (A := X.args) rfl (x8.2.2.1 C hca))
  cases hcls.1.symm.trans f1
  cases k3.symm.trans f2
  obtain ⟨kC, hkC, -⟩ := hcls.2
  refine W.aast x1 x2 hat (fun q h => by cases h) (fun h => by cases h) k1 k2 rfl hkE ⟨h0, by show _ < (arrV _ _ _).slots.size; rw [arrV_size]; exact hlt⟩ g1 (fun q h => by rw [g3] at h; cases h) (by rw [g2]; exact hkC) (by rw [g2]; exact f3) rfl rfl hd fun H1 e z1 oq => ?_
  refine kk H1 _ la (hH.put z1 oq ?_) (hS.put z1 oq (Nat.le_add_right _ _)) hl
  show H1[G.2.2.2.1 + j]? = some (vp_cell _ _)
  rw [e]
  rw [vp_cell_q, vp_cell_q, arrV_store]
  congr 2
  funext q
  by_cases hq : q = x.toNatClampNeg
  · subst hq
    simp [updV, va_up, va_rf]
  · simp [updV, va_up, hq]
/-- a constructor is called -/
theorem b_call (hX : OB G X l cc nL own fr mc ms lo) {a : Nat} {y : MethodName} {bytes : ByteArray} {maxL fr' mc' ms' lo' index na k' : Nat} {c' : Nat → va_E} {As stk0 : List Value} (hw : CW own index y bytes maxL none) (hi : Cond.instanceMethod y ∈ gw) (hy : y.name = "<init>")
    (hd : y.cls ≠ "java/lang/invoke/MethodHandle" ∧ y.cls ≠ "java/lang/invoke/VarHandle" ∧ (parseMethodDescriptor y.desc).map (fun d => d.parameters.length) = some na) (hR : fr' + 1 ≤ fr ∧ 8 + (maxL + 11) + lo' ≤ lo) (hC : CTB G l y bytes maxL fr' mc' ms' lo' (.ref a :: As) k c (HB G k' c')) (hn : As.length = na) (hst : stk0 = As.reverse ++ .ref a :: stk) (hW : (stk.map fun v => v.category).sum ≤ 8) (hnc : n + mc' ≤ mc) (hzc : z + ms' ≤ ms) (hdg : decode cc pc = .ok (.invokespecial index, 3))
    (kk : ZB G X mc ms nL P (n + mc') (z + ms') k' c' ls stk (pc + 3)) : ZB G X mc ms nL P n z k c ls stk0 pc := by
  intro H locs la hH hS hl
  obtain ⟨x1, x2, x3, x4, x5, x6, x7, x8, x9, x10, x11⟩ := hX
  have hMM := hC
  unfold CTB at hMM
  rw [← x10] at hMM
  have cb : CallB X.R X.s X.args own index y bytes maxL none (.code y bytes maxL none :: gw) { frames := fr', cells := mc', slots := ms', locals := lo' } mc' ms' na :=
    callB_of na x5 (gw_code hw.2.1) rfl rfl rfl (x5 _ hw.2.2) (x5 _ hw.1) hd (by rw [x9]; exact hR)
  have run := va_runI (Ts := gw) (cells := n) (slots := z) (below := X.below) (meth := X.meth) (e := X.e) (locs := locs) (g := F0 X.m pc la stk0) ⟨x1, x2, x3, x4, x5⟩ hMM ⟨cb, hy, x5 _ hi⟩ ⟨preB_blind, fun U hU hWm => ⟨rfl, x8.call hS hU hWm, by rw [hU]; exact hH⟩⟩ rfl hn hl.1 hst (lv_room hW) hdg ⟨by rw [x9]; exact hnc, by rw [x9]; exact hzc⟩
  intro T hT Y
  obtain ⟨v, st₀, t, T', L, h0, X', hL, e1, e2, ⟨⟨hv, hb⟩, hz, hk⟩, stp⟩ := run T hT Y
  cases hv
  rw [h0] at hz hk
  obtain ⟨t2, a1, b1⟩ := kk T'.heap (locs ++ L) la (by rw [e1]; exact hb) ⟨Nat.le_trans hS.1 (by rw [e1]; exact hz), fun q h1 h2 => by rw [e1, hk q (Nat.lt_of_lt_of_le h1 hS.1) h2]; exact hS.2.1 q h1 h2, fun q hq => by
    rcases List.mem_append.mp hq with g | g
    · exact hS.2.2 q g
    · exact hL q g⟩ hl T' rfl X'
  exact ⟨t2, stp t2 a1, b1⟩
/-- a nest mate's constructor is called -/
theorem b_callN (hX : OB G X l cc nL own fr mc ms lo) {a : Nat} {y : MethodName} {bytes : ByteArray} {maxL fr' mc' ms' lo' index na k' : Nat} {c' : Nat → va_E} {As stk0 : List Value} (hw : (own, index, y) ∈ nls ∧ Cond.code y bytes maxL none ∈ gw ∧ Cond.initialized y.cls ∈ gw) (hi : Cond.instanceMethod y ∈ gw) (hy : y.name = "<init>")
    (hd : y.cls ≠ "java/lang/invoke/MethodHandle" ∧ y.cls ≠ "java/lang/invoke/VarHandle" ∧ (parseMethodDescriptor y.desc).map (fun d => d.parameters.length) = some na) (hR : fr' + 1 ≤ fr ∧ 8 + (maxL + 11) + lo' ≤ lo) (hC : CTB G l y bytes maxL fr' mc' ms' lo' (.ref a :: As) k c (HB G k' c')) (hn : As.length = na) (hst : stk0 = As.reverse ++ .ref a :: stk) (hW : (stk.map fun v => v.category).sum ≤ 8) (hnc : n + mc' ≤ mc) (hzc : z + ms' ≤ ms) (hdg : decode cc pc = .ok (.invokespecial index, 3))
    (kk : ZB G X mc ms nL P (n + mc') (z + ms') k' c' ls stk (pc + 3)) : ZB G X mc ms nL P n z k c ls stk0 pc := by
  intro H locs la hH hS hl
  obtain ⟨x1, x2, x3, x4, x5, x6, x7, x8, x9, x10, x11⟩ := hX
  have hMM := hC
  unfold CTB at hMM
  rw [← x10] at hMM
  have cb : va_CN X.R X.s X.args own index y "CrownTwo" bytes maxL none (.code y bytes maxL none :: gw) { frames := fr', cells := mc', slots := ms', locals := lo' } mc' ms' na :=
    va_cnB na x5 (gw_code hw.2.1) rfl rfl rfl (x8.2.2.2 _ hw.1) (x5 _ hw.2.2) hd (by rw [x9]; exact hR)
  have run := va_runIN (Ts := gw) (cells := n) (slots := z) (below := X.below) (meth := X.meth) (e := X.e) (locs := locs) (g := F0 X.m pc la stk0) ⟨x1, x2, x3, x4, x5⟩ hMM ⟨cb, hy, x5 _ hi⟩ ⟨preB_blind, fun U hU hWm => ⟨rfl, x8.call hS hU hWm, by rw [hU]; exact hH⟩⟩ rfl hn hl.1 hst (lv_room hW) hdg ⟨by rw [x9]; exact hnc, by rw [x9]; exact hzc⟩
  intro T hT Y
  obtain ⟨v, st₀, t, T', L, h0, X', hL, e1, e2, ⟨⟨hv, hb⟩, hz, hk⟩, stp⟩ := run T hT Y
  cases hv
  rw [h0] at hz hk
  obtain ⟨t2, a1, b1⟩ := kk T'.heap (locs ++ L) la (by rw [e1]; exact hb) ⟨Nat.le_trans hS.1 (by rw [e1]; exact hz), fun q h1 h2 => by rw [e1, hk q (Nat.lt_of_lt_of_le h1 hS.1) h2]; exact hS.2.1 q h1 h2, fun q hq => by
    rcases List.mem_append.mp hq with g | g
    · exact hS.2.2 q g
    · exact hL q g⟩ hl T' rfl X'
  exact ⟨t2, stp t2 a1, b1⟩
end ZBROWS
