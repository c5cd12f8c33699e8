
/-- text constants of CourtText: their places in its pool, their texts -/
def sIdx (i : Nat) : Nat := [41, 61, 66, 72, 74].getD i 0
def sTxt (i : Nat) : String := ["court", "heir", "like", "hate", "pair"].getD i ""
def sLen : List Nat := [5, 4, 4, 4, 4]
def sByt : List (List Int32) := [[99, 111, 117, 114, 116], [104, 101, 105, 114], [108, 105, 107, 101], [104, 97, 116, 101], [112, 97, 105, 114]]
/-- what a state knows: the classes, the text constants, their texts' links, a flag of String -/
def KS (G : Gb) (U : State) : Prop := va_K G.1 vwCl (tys G) U ∧ vk_S 5 sLen sByt G.2.2.2.2.1 G.2.2.2.2.2 (AB G) U U.heap ∧ (∀ i, i < 5 → vk_R "CrownTwo$CourtText" (sIdx i) (sTxt i) (G.2.2.2.2.1 i) U) ∧ va_Z "java/lang/String" "COMPACT_STRINGS" "Z" (.int 1) (AB G) U U.heap ∧ va_Zq "jdk/internal/util/Preconditions" "SIOOBE_FORMATTER" "Ljava/util/function/BiFunction;" (AB G) U U.heap ∧ G.2.2.2.1 ≤ U.heap.size
theorem KS.call {G : Gb} {s U : State} {H : Heap} {locs : List Loc} (h : KS G s) (hS : va_S (AB G) s.heap H locs) (hH : U.heap = H) (hW : s.WarmedH U.vm) : KS G U := by
  obtain ⟨h1, h2, h3, h4, h6, h5⟩ := h
  subst hH
  exact ⟨va_K.moved hW.alike h1, vk_S.moved hW.alike (h2.kept hS.2.1), fun i hi => (h3 i hi).warm hW, va_Z.moved hW.alike (h4.kept hS.2.1), va_Zq.moved hW.alike (h6.kept hS.2.1), Nat.le_trans h5 hS.1⟩
theorem KS.calling {G : Gb} {U : State} {g : JFrame} {mk : MethodId} {a : Array Value} (h : KS G U) : KS G (U.calling g mk a) := by
  obtain ⟨h1, h2, h3, h4, h6, h5⟩ := h
  exact ⟨va_K.moved (u := U) (U := U.calling g mk a) (Vm.Alike.refl U.vm) h1, vk_S.moved (u := U) (U := U.calling g mk a) (Vm.Alike.refl U.vm) h2, fun i hi => (h3 i hi).same rfl, va_Z.moved (u := U) (U := U.calling g mk a) (Vm.Alike.refl U.vm) h4, va_Zq.moved (u := U) (U := U.calling g mk a) (Vm.Alike.refl U.vm) h6, h5⟩
abbrev CX : Type := Program × Launch × Env × Room × State × MethodId × Array Value × List Frame × Method × Code
abbrev CX.p (X : CX) : Program := X.1
abbrev CX.l (X : CX) : Launch := X.2.1
abbrev CX.e (X : CX) : Env := X.2.2.1
abbrev CX.R (X : CX) : Room := X.2.2.2.1
abbrev CX.s (X : CX) : State := X.2.2.2.2.1
abbrev CX.m (X : CX) : MethodId := X.2.2.2.2.2.1
abbrev CX.args (X : CX) : Array Value := X.2.2.2.2.2.2.1
abbrev CX.below (X : CX) : List Frame := X.2.2.2.2.2.2.2.1
abbrev CX.meth (X : CX) : Method := X.2.2.2.2.2.2.2.2.1
abbrev CX.c (X : CX) : Code := X.2.2.2.2.2.2.2.2.2
def QZ {S : Type} (G : Gb) (E : S → Sto × Lng) (v : Option Value) (σ : S) : Array Value → State → Outcome → State → Prop := fun _ st oc t => (oc = .returned v ∧ HP G (E σ) t.heap) ∧ va_F (AB G) st t
/-- from here the method comes to its end, with the answer and the store that 'res' says, if it says any -/
def ZR {S ρ : Type} (G : Gb) (X : CX) (E : S → Sto × Lng) (pv : ρ → Option Value) (ps : ρ → S) (nL : Nat) (σ : S) (ls : List (Nat × Value)) (stk : List Value) (pc : Nat) (res : Option ρ) : Prop :=
  ∀ r, res = some r → ∀ (H : Heap) (locs : List Loc) (la : Array Slot), HP G (E σ) H → va_S (AB G) X.s.heap H locs → lv_has la nL ls → W X.p X.l X.e X.R X.s X.m X.args X.below X.meth X.c H locs 0 0 (MQ X.below (QZ G E (pv r) (ps r)) X.args X.s 0 0 (AB G)) (F0 X.m pc la stk)
/-- what holds in a method's body: its code, class, answer's type, frames and locals left -/
def OX (G : Gb) (X : CX) (l : Launch) (cc : ByteArray) (nL : Nat) (own : String) (ret : Option FieldType) (fr lo : Nat) : Prop :=
  X.p.tables.exec = Jvm.exec ∧ X.c.code = cc ∧ X.c.maxLocals = nL ∧ X.s.vm.findClass own = some X.m.cls ∧ (∀ w ∈ gw, w.before X.args X.s = true) ∧ X.meth.sig.returnType = ret ∧ X.meth.locks = false ∧ KS G X.s ∧ GA G ∧ X.R = { frames := fr, cells := 0, slots := 0, locals := lo } ∧ X.l = l
/-- a method's contract -/
def CT {S ρ : Type} (G : Gb) (l : Launch) (E : S → Sto × Lng) (pv : ρ → Option Value) (ps : ρ → S) (y : MethodName) (bytes : ByteArray) (maxL : Nat) (ret : Option FieldType) (fr lo : Nat) (args : List Value) (σ : S) (res : Option ρ) : Prop :=
  ∀ r, res = some r → Met l y (.code y bytes maxL ret :: gw) { frames := fr, cells := 0, slots := 0, locals := lo } (va_Pc args (fun U => KS G U ∧ HP G (E σ) U.heap)) (QZ G E (pv r) (ps r)) 0 0 (AB G)
theorem CT.of {S ρ : Type} {G : Gb} {l : Launch} {E : S → Sto × Lng} {pv : ρ → Option Value} {ps : ρ → S} {y : MethodName} {bytes : ByteArray} {maxL : Nat} {ret : Option FieldType} {fr lo : Nat} {args : List Value} {σ : S} {res : Option ρ} (hG : GA G)
    (hy : plainName y.cls = true) (hlen : (lg_sl args).length ≤ maxL) (h : ∀ X : CX, OX G X l bytes maxL y.cls ret fr lo → ZR G X E pv ps maxL σ (lv_args 0 args) [] 0 res) : CT G l E pv ps y bytes maxL ret fr lo args σ res := by
  intro r hr
  refine Met.ofW (cc := bytes) (maxL := maxL) (ret := ret) hy rfl ?_
  intro p e s m as below meth c s₁ B hml hv
  obtain ⟨rfl, hK, hH⟩ := hv
  have hts := atoms_spec (ws := .code y bytes maxL ret :: gw) B.pre
  have hX : OX G (p, l, e, (headSpec (.code y bytes maxL ret :: gw) { frames := fr, cells := 0, slots := 0, locals := lo }).room, s, m, args.toArray, below, meth, c) l bytes maxL y.cls ret fr lo :=
    ⟨B.exec, B.bytes, hml, findClass_of_methodNamed B.named, fun w hw => hts w (List.mem_cons_of_mem _ hw), B.returns, B.notSynchronized, hK, hG, rfl, rfl⟩
  have hl := lv_entry args (n := maxL) hlen
  rw [lg_entry_eq]
  exact h _ hX r hr s.heap [] _ hH va_S.rf hl
theorem GoodIn.cons {big ws : List Cond} {w : Cond} (h : w ∈ big) (g : goodWord w = true) (hs : GoodIn big ws) : GoodIn big (w :: ws) := fun v hv => by
  rcases List.mem_cons.mp hv with e | e
  · subst e; exact ⟨h, good_of_word g⟩
  · exact hs v e
theorem gw_self : GoodIn gw gw := gw_good (fun _ h => h)
theorem gw_code {y : MethodName} {bytes : ByteArray} {maxL : Nat} {ret : Option FieldType} (h : Cond.code y bytes maxL ret ∈ gw) : GoodIn gw (.code y bytes maxL ret :: gw) := GoodIn.cons h rfl gw_self
/-! combinators of the read-off programs -/
def bI {S ρ : Type} (x : Option (Int32 × S)) (k : Int32 → S → Option ρ) : Option ρ := x.bind (fun p => k p.1 p.2)
def bP {ρ : Type} (x : Option Int32) (k : Int32 → Option ρ) : Option ρ := x.bind k
def bV {S ρ : Type} (x : Option S) (k : S → Option ρ) : Option ρ := x.bind k
def bL {ρ : Type} (x : Option Int64) (k : Int64 → Option ρ) : Option ρ := x.bind k
def bM {S ρ : Type} (x : Option (Int64 × S)) (k : Int64 → S → Option ρ) : Option ρ := x.bind (fun p => k p.1 p.2)
def imx (x y : Int32) : Int32 := if x < y then y else x
def imn (x y : Int32) : Int32 := if y < x then y else x
def lt {α β : Type} (x : α) (k : α → β) : β := k x
def jn {α β : Type} (k : α) (f : α → β) : β := f k
def fx {α : Type} : Nat → (α → α) → α → α
  | 0, _, b => b
  | n + 1, F, b => F (fx n F b)
def pvI {S : Type} : Int32 × S → Option Value := fun r => some (.int r.1)
def psI {S : Type} : Int32 × S → S := fun r => r.2
def pvP : Int32 → Option Value := fun r => some (.int r)
def psP {S : Type} (σ : S) {ρ : Type} : ρ → S := fun _ => σ
def pvV {S : Type} : S → Option Value := fun _ => none
def psV {S : Type} : S → S := fun s => s
def pvL : Int64 → Option Value := fun r => some (.long r)
def pvM {S : Type} : Int64 × S → Option Value := fun r => some (.long r.1)
def psM {S : Type} : Int64 × S → S := fun r => r.2
theorem fx_P {α : Type} {F : α → α} {b : α} (P : α → Prop) (h0 : P b) (hs : ∀ rec, P rec → P (F rec)) : ∀ n, P (fx n F b)
  | 0 => h0
  | n + 1 => hs _ (fx_P P h0 hs n)
theorem sw_out {x : Int32} {lo hi : Int} (vs : List Int32) (h : ∀ v ∈ vs, ¬ x = v) (hc : (List.range (hi - lo + 1).toNat).all (fun n => vs.any (fun v => v.toInt == lo + n)) = true) : x.toInt < lo ∨ hi < x.toInt := by
  rcases Int.lt_or_le x.toInt lo with a | a
  · exact Or.inl a
  · rcases Int.lt_or_le hi x.toInt with b | b
    · exact Or.inr b
    · exfalso
      have h1 := List.all_eq_true.mp hc (x.toInt - lo).toNat (List.mem_range.mpr (by omega))
      obtain ⟨v, hv, e⟩ := List.any_eq_true.mp h1
      have e2 : v.toInt = lo + ((x.toInt - lo).toNat : Int) := by simpa using e
      exact h v hv (Int32.toInt_inj.mp (by omega))
section ZROWS
variable {S ρ : Type} {G : Gb} {X : CX} {l : Launch} {E : S → Sto × Lng} {pv : ρ → Option Value} {ps : ρ → S} {nL : Nat} {σ : S} {ls : List (Nat × Value)} {stk : List Value} {res : Option ρ} {cc : ByteArray} {own : String} {ret : Option FieldType} {fr lo : Nat}
theorem z_none {pc : Nat} : ZR G X E pv ps nL σ ls stk pc none := fun r h => by cases h
theorem z_jn {α : Type} {k : α} {f : α → Option ρ} {pc : Nat} (P : α → Prop) (h1 : P k) (h2 : ∀ j, P j → ZR G X E pv ps nL σ ls stk pc (f j)) : ZR G X E pv ps nL σ ls stk pc (jn k f) := h2 k h1
theorem z_ls {pc : Nat} {ls' : List (Nat × Value)} (ks : List Nat) (h : lv_pick ls ks = ls') (kk : ZR G X E pv ps nL σ ls' stk pc res) : ZR G X E pv ps nL σ ls stk pc res := fun r hr H locs la hH hS hl => kk r hr H locs la hH hS (lv_sub hl ks h)
theorem z_lti {pc : Nat} {x : Int32} {k : Int32 → Option ρ} (kk : ∀ y, ZR G X E pv ps nL σ ls (.int y :: stk) pc (k y)) : ZR G X E pv ps nL σ ls (.int x :: stk) pc (lt x k) := kk x
theorem z_ltl {pc : Nat} {x : Int64} {k : Int64 → Option ρ} (kk : ∀ y, ZR G X E pv ps nL σ ls (.long y :: stk) pc (k y)) : ZR G X E pv ps nL σ ls (.long x :: stk) pc (lt x k) := kk x
theorem z_lts {pc : Nat} {k : S → Option ρ} (kk : ∀ τ, ZR G X E pv ps nL τ ls stk pc (k τ)) : ZR G X E pv ps nL σ ls stk pc (lt σ k) := kk σ

theorem z_iconst (hX : OX G X l cc nL own ret fr lo) {n : Int} {v : Int32} {pc : Nat} (hd : decode cc pc = .ok (.iconst n, 1)) (hv : Int32.ofInt n = v) (kk : ZR G X E pv ps nL σ ls (.int v :: stk) (pc + 1) res) : ZR G X E pv ps nL σ ls stk pc res :=
  fun r hr H locs la hH hS hl => lv_iconst hX.1 hX.2.1 hd hv (kk r hr H locs la hH hS hl)
theorem z_bipush (hX : OX G X l cc nL own ret fr lo) {n : Int} {v : Int32} {pc : Nat} (hd : decode cc pc = .ok (.bipush n, 2)) (hv : (Int8.ofInt n).toInt32 = v) (kk : ZR G X E pv ps nL σ ls (.int v :: stk) (pc + 2) res) : ZR G X E pv ps nL σ ls stk pc res :=
  fun r hr H locs la hH hS hl => lv_bipush hX.1 hX.2.1 hd hv (kk r hr H locs la hH hS hl)
theorem z_sipush (hX : OX G X l cc nL own ret fr lo) {n : Int} {v : Int32} {pc : Nat} (hd : decode cc pc = .ok (.sipush n, 3)) (hv : (Int16.ofInt n).toInt32 = v) (kk : ZR G X E pv ps nL σ ls (.int v :: stk) (pc + 3) res) : ZR G X E pv ps nL σ ls stk pc res :=
  fun r hr H locs la hH hS hl => lv_sipush hX.1 hX.2.1 hd hv (kk r hr H locs la hH hS hl)
theorem z_lconst (hX : OX G X l cc nL own ret fr lo) {n : Fin 2} {v : Int64} {pc : Nat} (hd : decode cc pc = .ok (.lconst n, 1)) (hv : Int64.ofNat (n : Nat) = v) (kk : ZR G X E pv ps nL σ ls (.long v :: stk) (pc + 1) res) : ZR G X E pv ps nL σ ls stk pc res :=
  fun r hr H locs la hH hS hl => lv_lconst hX.1 hX.2.1 hd hv (kk r hr H locs la hH hS hl)
theorem z_ldc (hX : OX G X l cc nL own ret fr lo) {index : Nat} {v : Int32} {pc : Nat} (hq : Jvm.Cond.constant own index v ∈ gw) (hd : decode cc pc = .ok (.ldc index, 2)) (kk : ZR G X E pv ps nL σ ls (.int v :: stk) (pc + 2) res) : ZR G X E pv ps nL σ ls stk pc res :=
  fun r hr H locs la hH hS hl => lv_ldc hX.1 hX.2.1 hX.2.2.2.1 (hX.2.2.2.2.1 _ hq) hd (kk r hr H locs la hH hS hl)
theorem z_ldcw (hX : OX G X l cc nL own ret fr lo) {index : Nat} {v : Int32} {pc : Nat} (hq : Jvm.Cond.constant own index v ∈ gw) (hd : decode cc pc = .ok (.ldc_w index, 3)) (kk : ZR G X E pv ps nL σ ls (.int v :: stk) (pc + 3) res) : ZR G X E pv ps nL σ ls stk pc res :=
  fun r hr H locs la hH hS hl => lv_ldcw hX.1 hX.2.1 hX.2.2.2.1 (hX.2.2.2.2.1 _ hq) hd (kk r hr H locs la hH hS hl)
theorem z_ldc2 (hX : OX G X l cc nL own ret fr lo) {index : Nat} {v : Int64} {pc : Nat} (hq : Jvm.Cond.constantLong own index v ∈ gw) (hd : decode cc pc = .ok (.ldc2_w index, 3)) (kk : ZR G X E pv ps nL σ ls (.long v :: stk) (pc + 3) res) : ZR G X E pv ps nL σ ls stk pc res :=
  fun r hr H locs la hH hS hl => lv_ldc2 hX.1 hX.2.1 hX.2.2.2.1 (hX.2.2.2.2.1 _ hq) hd (kk r hr H locs la hH hS hl)
theorem z_iload_n (hX : OX G X l cc nL own ret fr lo) {k : Fin 4} {i : Nat} {x : Int32} {pc : Nat} (hd : decode cc pc = .ok (.iload_n k, 1)) (hi : (k : Nat) = i) (n : Nat) (hn : ls[n]? = some (i, .int x)) (kk : ZR G X E pv ps nL σ ls (.int x :: stk) (pc + 1) res) : ZR G X E pv ps nL σ ls stk pc res :=
  fun r hr H locs la hH hS hl => lv_iload_n hX.1 hX.2.1 hd hi (lv_at hl n hn) (kk r hr H locs la hH hS hl)
theorem z_iload (hX : OX G X l cc nL own ret fr lo) {i : Nat} {x : Int32} {pc : Nat} (hd : decode cc pc = .ok (.iload i, 2)) (n : Nat) (hn : ls[n]? = some (i, .int x)) (kk : ZR G X E pv ps nL σ ls (.int x :: stk) (pc + 2) res) : ZR G X E pv ps nL σ ls stk pc res :=
  fun r hr H locs la hH hS hl => lv_iload hX.1 hX.2.1 hd (lv_at hl n hn) (kk r hr H locs la hH hS hl)
theorem z_istore_n (hX : OX G X l cc nL own ret fr lo) {k : Fin 4} {i : Nat} {x : Int32} {pc : Nat} {ls' : List (Nat × Value)} (hd : decode cc pc = .ok (.istore_n k, 1)) (hi : (k : Nat) = i) (hn : i < nL) (hf : (i, Value.int x) :: ls.filter (fun q => !(q.1 == i) && !(q.1 + 1 == i && q.2.category == 2)) = ls') (kk : ZR G X E pv ps nL σ ls' stk (pc + 1) res) : ZR G X E pv ps nL σ ls (.int x :: stk) pc res :=
  fun r hr H locs la hH hS hl => lv_istore_n hX.1 hX.2.1 hd hi hl hn hf (fun la hl => kk r hr H locs la hH hS hl)
theorem z_istore (hX : OX G X l cc nL own ret fr lo) {i : Nat} {x : Int32} {pc : Nat} {ls' : List (Nat × Value)} (hd : decode cc pc = .ok (.istore i, 2)) (hn : i < nL) (hf : (i, Value.int x) :: ls.filter (fun q => !(q.1 == i) && !(q.1 + 1 == i && q.2.category == 2)) = ls') (kk : ZR G X E pv ps nL σ ls' stk (pc + 2) res) : ZR G X E pv ps nL σ ls (.int x :: stk) pc res :=
  fun r hr H locs la hH hS hl => lv_istore hX.1 hX.2.1 hd hl hn hf (fun la hl => kk r hr H locs la hH hS hl)
theorem z_lload_n (hX : OX G X l cc nL own ret fr lo) {k : Fin 4} {i : Nat} {x : Int64} {pc : Nat} (hd : decode cc pc = .ok (.lload_n k, 1)) (hi : (k : Nat) = i) (n : Nat) (hn : ls[n]? = some (i, .long x)) (kk : ZR G X E pv ps nL σ ls (.long x :: stk) (pc + 1) res) : ZR G X E pv ps nL σ ls stk pc res :=
  fun r hr H locs la hH hS hl => lv_lload_n hX.1 hX.2.1 hd hi (lv_at hl n hn) (kk r hr H locs la hH hS hl)
theorem z_lload (hX : OX G X l cc nL own ret fr lo) {i : Nat} {x : Int64} {pc : Nat} (hd : decode cc pc = .ok (.lload i, 2)) (n : Nat) (hn : ls[n]? = some (i, .long x)) (kk : ZR G X E pv ps nL σ ls (.long x :: stk) (pc + 2) res) : ZR G X E pv ps nL σ ls stk pc res :=
  fun r hr H locs la hH hS hl => lv_lload hX.1 hX.2.1 hd (lv_at hl n hn) (kk r hr H locs la hH hS hl)
theorem z_lstore_n (hX : OX G X l cc nL own ret fr lo) {k : Fin 4} {i : Nat} {x : Int64} {pc : Nat} {ls' : List (Nat × Value)} (hd : decode cc pc = .ok (.lstore_n k, 1)) (hi : (k : Nat) = i) (hn : i + 1 < nL) (hf : (i, Value.long x) :: ls.filter (fun q => !(q.1 == i) && (!(q.1 == i + 1) && !(q.1 + 1 == i && q.2.category == 2))) = ls') (kk : ZR G X E pv ps nL σ ls' stk (pc + 1) res) : ZR G X E pv ps nL σ ls (.long x :: stk) pc res :=
  fun r hr H locs la hH hS hl => lv_lstore_n hX.1 hX.2.1 hd hi hl hn hf (fun la hl => kk r hr H locs la hH hS hl)
theorem z_lstore (hX : OX G X l cc nL own ret fr lo) {i : Nat} {x : Int64} {pc : Nat} {ls' : List (Nat × Value)} (hd : decode cc pc = .ok (.lstore i, 2)) (hn : i + 1 < nL) (hf : (i, Value.long x) :: ls.filter (fun q => !(q.1 == i) && (!(q.1 == i + 1) && !(q.1 + 1 == i && q.2.category == 2))) = ls') (kk : ZR G X E pv ps nL σ ls' stk (pc + 2) res) : ZR G X E pv ps nL σ ls (.long x :: stk) pc res :=
  fun r hr H locs la hH hS hl => lv_lstore hX.1 hX.2.1 hd hl hn hf (fun la hl => kk r hr H locs la hH hS hl)
theorem z_aload_n (hX : OX G X l cc nL own ret fr lo) {k : Fin 4} {i : Nat} {x : Nat} {pc : Nat} (hd : decode cc pc = .ok (.aload_n k, 1)) (hi : (k : Nat) = i) (n : Nat) (hn : ls[n]? = some (i, .ref x)) (kk : ZR G X E pv ps nL σ ls (.ref x :: stk) (pc + 1) res) : ZR G X E pv ps nL σ ls stk pc res :=
  fun r hr H locs la hH hS hl => lv_aload_n hX.1 hX.2.1 hd hi (lv_at hl n hn) (kk r hr H locs la hH hS hl)
theorem z_aload (hX : OX G X l cc nL own ret fr lo) {i : Nat} {x : Nat} {pc : Nat} (hd : decode cc pc = .ok (.aload i, 2)) (n : Nat) (hn : ls[n]? = some (i, .ref x)) (kk : ZR G X E pv ps nL σ ls (.ref x :: stk) (pc + 2) res) : ZR G X E pv ps nL σ ls stk pc res :=
  fun r hr H locs la hH hS hl => lv_aload hX.1 hX.2.1 hd (lv_at hl n hn) (kk r hr H locs la hH hS hl)
theorem z_astore_n (hX : OX G X l cc nL own ret fr lo) {k : Fin 4} {i : Nat} {x : Nat} {pc : Nat} {ls' : List (Nat × Value)} (hd : decode cc pc = .ok (.astore_n k, 1)) (hi : (k : Nat) = i) (hn : i < nL) (hf : (i, Value.ref x) :: ls.filter (fun q => !(q.1 == i) && !(q.1 + 1 == i && q.2.category == 2)) = ls') (kk : ZR G X E pv ps nL σ ls' stk (pc + 1) res) : ZR G X E pv ps nL σ ls (.ref x :: stk) pc res :=
  fun r hr H locs la hH hS hl => lv_astore_n hX.1 hX.2.1 hd hi hl hn hf (fun la hl => kk r hr H locs la hH hS hl)
theorem z_astore (hX : OX G X l cc nL own ret fr lo) {i : Nat} {x : Nat} {pc : Nat} {ls' : List (Nat × Value)} (hd : decode cc pc = .ok (.astore i, 2)) (hn : i < nL) (hf : (i, Value.ref x) :: ls.filter (fun q => !(q.1 == i) && !(q.1 + 1 == i && q.2.category == 2)) = ls') (kk : ZR G X E pv ps nL σ ls' stk (pc + 2) res) : ZR G X E pv ps nL σ ls (.ref x :: stk) pc res :=
  fun r hr H locs la hH hS hl => lv_astore hX.1 hX.2.1 hd hl hn hf (fun la hl => kk r hr H locs la hH hS hl)
theorem z_iinc (hX : OX G X l cc nL own ret fr lo) {i n : Nat} {d : Int} {x v : Int32} {pc : Nat} {ls' : List (Nat × Value)} (hd : decode cc pc = .ok (.iinc i d, 3)) (hk : ls[n]? = some (i, .int x)) (hv : x + Int32.ofInt d = v) (hn : i < nL) (hf : (i, Value.int v) :: ls.filter (fun q => !(q.1 == i) && !(q.1 + 1 == i && q.2.category == 2)) = ls') (kk : ZR G X E pv ps nL σ ls' stk (pc + 3) res) : ZR G X E pv ps nL σ ls stk pc res :=
  fun r hr H locs la hH hS hl => lv_iinc hX.1 hX.2.1 hd hl hk hv hn hf (fun la hl => kk r hr H locs la hH hS hl)
theorem z_iadd (hX : OX G X l cc nL own ret fr lo) {x y : Int32} {pc : Nat} (hd : decode cc pc = .ok (.iadd, 1)) (kk : ZR G X E pv ps nL σ ls (.int (x + y) :: stk) (pc + 1) res) : ZR G X E pv ps nL σ ls (.int y :: .int x :: stk) pc res :=
  fun r hr H locs la hH hS hl => lv_iadd hX.1 hX.2.1 hd (kk r hr H locs la hH hS hl)
theorem z_isub (hX : OX G X l cc nL own ret fr lo) {x y : Int32} {pc : Nat} (hd : decode cc pc = .ok (.isub, 1)) (kk : ZR G X E pv ps nL σ ls (.int (x - y) :: stk) (pc + 1) res) : ZR G X E pv ps nL σ ls (.int y :: .int x :: stk) pc res :=
  fun r hr H locs la hH hS hl => lv_isub hX.1 hX.2.1 hd (kk r hr H locs la hH hS hl)
theorem z_imul (hX : OX G X l cc nL own ret fr lo) {x y : Int32} {pc : Nat} (hd : decode cc pc = .ok (.imul, 1)) (kk : ZR G X E pv ps nL σ ls (.int (x * y) :: stk) (pc + 1) res) : ZR G X E pv ps nL σ ls (.int y :: .int x :: stk) pc res :=
  fun r hr H locs la hH hS hl => lv_imul hX.1 hX.2.1 hd (kk r hr H locs la hH hS hl)
theorem z_iand (hX : OX G X l cc nL own ret fr lo) {x y : Int32} {pc : Nat} (hd : decode cc pc = .ok (.iand, 1)) (kk : ZR G X E pv ps nL σ ls (.int (x &&& y) :: stk) (pc + 1) res) : ZR G X E pv ps nL σ ls (.int y :: .int x :: stk) pc res :=
  fun r hr H locs la hH hS hl => lv_iand hX.1 hX.2.1 hd (kk r hr H locs la hH hS hl)
theorem z_ior (hX : OX G X l cc nL own ret fr lo) {x y : Int32} {pc : Nat} (hd : decode cc pc = .ok (.ior, 1)) (kk : ZR G X E pv ps nL σ ls (.int (x ||| y) :: stk) (pc + 1) res) : ZR G X E pv ps nL σ ls (.int y :: .int x :: stk) pc res :=
  fun r hr H locs la hH hS hl => lv_ior hX.1 hX.2.1 hd (kk r hr H locs la hH hS hl)
theorem z_ixor (hX : OX G X l cc nL own ret fr lo) {x y : Int32} {pc : Nat} (hd : decode cc pc = .ok (.ixor, 1)) (kk : ZR G X E pv ps nL σ ls (.int (x ^^^ y) :: stk) (pc + 1) res) : ZR G X E pv ps nL σ ls (.int y :: .int x :: stk) pc res :=
  fun r hr H locs la hH hS hl => lv_ixor hX.1 hX.2.1 hd (kk r hr H locs la hH hS hl)
theorem z_ishl (hX : OX G X l cc nL own ret fr lo) {x y : Int32} {pc : Nat} (hd : decode cc pc = .ok (.ishl, 1)) (kk : ZR G X E pv ps nL σ ls (.int (x <<< (y &&& 31)) :: stk) (pc + 1) res) : ZR G X E pv ps nL σ ls (.int y :: .int x :: stk) pc res :=
  fun r hr H locs la hH hS hl => lv_ishl hX.1 hX.2.1 hd (kk r hr H locs la hH hS hl)
theorem z_ishr (hX : OX G X l cc nL own ret fr lo) {x y : Int32} {pc : Nat} (hd : decode cc pc = .ok (.ishr, 1)) (kk : ZR G X E pv ps nL σ ls (.int (x >>> (y &&& 31)) :: stk) (pc + 1) res) : ZR G X E pv ps nL σ ls (.int y :: .int x :: stk) pc res :=
  fun r hr H locs la hH hS hl => lv_ishr hX.1 hX.2.1 hd (kk r hr H locs la hH hS hl)
theorem z_ladd (hX : OX G X l cc nL own ret fr lo) {x y : Int64} {pc : Nat} (hd : decode cc pc = .ok (.ladd, 1)) (kk : ZR G X E pv ps nL σ ls (.long (x + y) :: stk) (pc + 1) res) : ZR G X E pv ps nL σ ls (.long y :: .long x :: stk) pc res :=
  fun r hr H locs la hH hS hl => lv_ladd hX.1 hX.2.1 hd (kk r hr H locs la hH hS hl)
theorem z_lsub (hX : OX G X l cc nL own ret fr lo) {x y : Int64} {pc : Nat} (hd : decode cc pc = .ok (.lsub, 1)) (kk : ZR G X E pv ps nL σ ls (.long (x - y) :: stk) (pc + 1) res) : ZR G X E pv ps nL σ ls (.long y :: .long x :: stk) pc res :=
  fun r hr H locs la hH hS hl => lv_lsub hX.1 hX.2.1 hd (kk r hr H locs la hH hS hl)
theorem z_lmul (hX : OX G X l cc nL own ret fr lo) {x y : Int64} {pc : Nat} (hd : decode cc pc = .ok (.lmul, 1)) (kk : ZR G X E pv ps nL σ ls (.long (x * y) :: stk) (pc + 1) res) : ZR G X E pv ps nL σ ls (.long y :: .long x :: stk) pc res :=
  fun r hr H locs la hH hS hl => lv_lmul hX.1 hX.2.1 hd (kk r hr H locs la hH hS hl)
theorem z_iushr (hX : OX G X l cc nL own ret fr lo) {x y : Int32} {pc : Nat} (hd : decode cc pc = .ok (.iushr, 1)) (kk : ZR G X E pv ps nL σ ls (.int ((x.toUInt32 >>> (y.toUInt32 &&& Int32.toUInt32 31)).toInt32) :: stk) (pc + 1) res) : ZR G X E pv ps nL σ ls (.int y :: .int x :: stk) pc res :=
  fun r hr H locs la hH hS hl => lv_iushr hX.1 hX.2.1 hd rfl (kk r hr H locs la hH hS hl)
theorem z_idiv (hX : OX G X l cc nL own ret fr lo) {x y : Int32} {pc : Nat} (hd : decode cc pc = .ok (.idiv, 1)) (kk : ZR G X E pv ps nL σ ls (.int (x / y) :: stk) (pc + 1) res) : ZR G X E pv ps nL σ ls (.int y :: .int x :: stk) pc (if ¬ y = 0 then res else none) :=
  by
  intro r hr H locs la hH hS hl
  by_cases h : y = 0
  · rw [if_neg (not_not_intro h)] at hr; cases hr
  · rw [if_pos h] at hr; exact lv_idiv hX.1 hX.2.1 hd h (kk r hr H locs la hH hS hl)
theorem z_idivc (hX : OX G X l cc nL own ret fr lo) {x y : Int32} {pc : Nat} (hd : decode cc pc = .ok (.idiv, 1)) (hy : ¬ y = 0) (kk : ZR G X E pv ps nL σ ls (.int (x / y) :: stk) (pc + 1) res) : ZR G X E pv ps nL σ ls (.int y :: .int x :: stk) pc res :=
  fun r hr H locs la hH hS hl => lv_idiv hX.1 hX.2.1 hd hy (kk r hr H locs la hH hS hl)
theorem z_irem (hX : OX G X l cc nL own ret fr lo) {x y : Int32} {pc : Nat} (hd : decode cc pc = .ok (.irem, 1)) (kk : ZR G X E pv ps nL σ ls (.int (x - x / y * y) :: stk) (pc + 1) res) : ZR G X E pv ps nL σ ls (.int y :: .int x :: stk) pc (if ¬ y = 0 then res else none) :=
  by
  intro r hr H locs la hH hS hl
  by_cases h : y = 0
  · rw [if_neg (not_not_intro h)] at hr; cases hr
  · rw [if_pos h] at hr; exact lv_irem hX.1 hX.2.1 hd h (kk r hr H locs la hH hS hl)
theorem z_iremc (hX : OX G X l cc nL own ret fr lo) {x y : Int32} {pc : Nat} (hd : decode cc pc = .ok (.irem, 1)) (hy : ¬ y = 0) (kk : ZR G X E pv ps nL σ ls (.int (x - x / y * y) :: stk) (pc + 1) res) : ZR G X E pv ps nL σ ls (.int y :: .int x :: stk) pc res :=
  fun r hr H locs la hH hS hl => lv_irem hX.1 hX.2.1 hd hy (kk r hr H locs la hH hS hl)
theorem z_ldiv (hX : OX G X l cc nL own ret fr lo) {x y : Int64} {pc : Nat} (hd : decode cc pc = .ok (.ldiv, 1)) (kk : ZR G X E pv ps nL σ ls (.long (x / y) :: stk) (pc + 1) res) : ZR G X E pv ps nL σ ls (.long y :: .long x :: stk) pc (if ¬ y = 0 then res else none) :=
  by
  intro r hr H locs la hH hS hl
  by_cases h : y = 0
  · rw [if_neg (not_not_intro h)] at hr; cases hr
  · rw [if_pos h] at hr; exact lv_ldiv hX.1 hX.2.1 hd h (kk r hr H locs la hH hS hl)
theorem z_ldivc (hX : OX G X l cc nL own ret fr lo) {x y : Int64} {pc : Nat} (hd : decode cc pc = .ok (.ldiv, 1)) (hy : ¬ y = 0) (kk : ZR G X E pv ps nL σ ls (.long (x / y) :: stk) (pc + 1) res) : ZR G X E pv ps nL σ ls (.long y :: .long x :: stk) pc res :=
  fun r hr H locs la hH hS hl => lv_ldiv hX.1 hX.2.1 hd hy (kk r hr H locs la hH hS hl)
theorem z_lrem (hX : OX G X l cc nL own ret fr lo) {x y : Int64} {pc : Nat} (hd : decode cc pc = .ok (.lrem, 1)) (kk : ZR G X E pv ps nL σ ls (.long (x - x / y * y) :: stk) (pc + 1) res) : ZR G X E pv ps nL σ ls (.long y :: .long x :: stk) pc (if ¬ y = 0 then res else none) :=
  by
  intro r hr H locs la hH hS hl
  by_cases h : y = 0
  · rw [if_neg (not_not_intro h)] at hr; cases hr
  · rw [if_pos h] at hr; exact lv_lrem hX.1 hX.2.1 hd h (kk r hr H locs la hH hS hl)
theorem z_lremc (hX : OX G X l cc nL own ret fr lo) {x y : Int64} {pc : Nat} (hd : decode cc pc = .ok (.lrem, 1)) (hy : ¬ y = 0) (kk : ZR G X E pv ps nL σ ls (.long (x - x / y * y) :: stk) (pc + 1) res) : ZR G X E pv ps nL σ ls (.long y :: .long x :: stk) pc res :=
  fun r hr H locs la hH hS hl => lv_lrem hX.1 hX.2.1 hd hy (kk r hr H locs la hH hS hl)
theorem z_lcmp (hX : OX G X l cc nL own ret fr lo) {x y : Int64} {pc : Nat} (hd : decode cc pc = .ok (.lcmp, 1)) (kk : ZR G X E pv ps nL σ ls (.int (lg_cmp x y) :: stk) (pc + 1) res) : ZR G X E pv ps nL σ ls (.long y :: .long x :: stk) pc res :=
  fun r hr H locs la hH hS hl => W.lcmp hX.1 hX.2.1 hd (kk r hr H locs la hH hS hl)
theorem z_i2l (hX : OX G X l cc nL own ret fr lo) {x : Int32} {pc : Nat} (hd : decode cc pc = .ok (.i2l, 1)) (kk : ZR G X E pv ps nL σ ls (.long x.toInt64 :: stk) (pc + 1) res) : ZR G X E pv ps nL σ ls (.int x :: stk) pc res :=
  fun r hr H locs la hH hS hl => lv_i2l hX.1 hX.2.1 hd rfl (kk r hr H locs la hH hS hl)
theorem z_l2i (hX : OX G X l cc nL own ret fr lo) {x : Int64} {pc : Nat} (hd : decode cc pc = .ok (.l2i, 1)) (kk : ZR G X E pv ps nL σ ls (.int x.toInt32 :: stk) (pc + 1) res) : ZR G X E pv ps nL σ ls (.long x :: stk) pc res :=
  fun r hr H locs la hH hS hl => lv_l2i hX.1 hX.2.1 hd rfl (kk r hr H locs la hH hS hl)
theorem z_dup (hX : OX G X l cc nL own ret fr lo) {v : Value} {pc : Nat} (hd : decode cc pc = .ok (.dup, 1)) (hv : v.category = 1) (kk : ZR G X E pv ps nL σ ls (v :: v :: stk) (pc + 1) res) : ZR G X E pv ps nL σ ls (v :: stk) pc res :=
  fun r hr H locs la hH hS hl => lv_dup hX.1 hX.2.1 hd hv (kk r hr H locs la hH hS hl)
theorem z_pop (hX : OX G X l cc nL own ret fr lo) {v : Value} {pc : Nat} (hd : decode cc pc = .ok (.pop, 1)) (hv : v.category = 1) (kk : ZR G X E pv ps nL σ ls stk (pc + 1) res) : ZR G X E pv ps nL σ ls (v :: stk) pc res :=
  fun r hr H locs la hH hS hl => lv_pop hX.1 hX.2.1 hd hv (kk r hr H locs la hH hS hl)
theorem z_dup2 (hX : OX G X l cc nL own ret fr lo) {v w : Value} {pc : Nat} (hd : decode cc pc = .ok (.dup2, 1)) (hv : v.category = 1) (hw : w.category = 1) (kk : ZR G X E pv ps nL σ ls (v :: w :: v :: w :: stk) (pc + 1) res) : ZR G X E pv ps nL σ ls (v :: w :: stk) pc res :=
  fun r hr H locs la hH hS hl => lv_dup2_11 hX.1 hX.2.1 hd hv hw (kk r hr H locs la hH hS hl)
theorem z_icmp_ne (hX : OX G X l cc nL own ret fr lo) {x y : Int32} {off : Int} {tgt pc : Nat} {r1 r2 : Option ρ} (hd : decode cc pc = .ok (.if_icmp .ne off, 3)) (ht : (pc : Int) + off = (tgt : Int)) (k1 : ZR G X E pv ps nL σ ls stk tgt r1) (k2 : ZR G X E pv ps nL σ ls stk (pc + 3) r2) : ZR G X E pv ps nL σ ls (.int y :: .int x :: stk) pc (if x = y then r2 else r1) := by
  intro r hr H locs la hH hS hl
  refine lv_icmp_ne hX.1 hX.2.1 hd ht (fun h => ?_) (fun h => ?_)
  · rw [if_neg h] at hr; exact k1 r hr H locs la hH hS hl
  · rw [if_pos h] at hr; exact k2 r hr H locs la hH hS hl
theorem z_if_ne (hX : OX G X l cc nL own ret fr lo) {x : Int32} {off : Int} {tgt pc : Nat} {r1 r2 : Option ρ} (hd : decode cc pc = .ok (.ifCond .ne off, 3)) (ht : (pc : Int) + off = (tgt : Int)) (k1 : ZR G X E pv ps nL σ ls stk tgt r1) (k2 : ZR G X E pv ps nL σ ls stk (pc + 3) r2) : ZR G X E pv ps nL σ ls (.int x :: stk) pc (if x = 0 then r2 else r1) := by
  intro r hr H locs la hH hS hl
  refine lv_if_ne hX.1 hX.2.1 hd ht (fun h => ?_) (fun h => ?_)
  · rw [if_neg h] at hr; exact k1 r hr H locs la hH hS hl
  · rw [if_pos h] at hr; exact k2 r hr H locs la hH hS hl
theorem z_icmp_eq (hX : OX G X l cc nL own ret fr lo) {x y : Int32} {off : Int} {tgt pc : Nat} {r1 r2 : Option ρ} (hd : decode cc pc = .ok (.if_icmp .eq off, 3)) (ht : (pc : Int) + off = (tgt : Int)) (k1 : ZR G X E pv ps nL σ ls stk tgt r1) (k2 : ZR G X E pv ps nL σ ls stk (pc + 3) r2) : ZR G X E pv ps nL σ ls (.int y :: .int x :: stk) pc (if x = y then r1 else r2) := by
  intro r hr H locs la hH hS hl
  refine lv_icmp_eq hX.1 hX.2.1 hd ht (fun h => ?_) (fun h => ?_)
  · rw [if_pos h] at hr; exact k1 r hr H locs la hH hS hl
  · rw [if_neg h] at hr; exact k2 r hr H locs la hH hS hl
theorem z_icmp_lt (hX : OX G X l cc nL own ret fr lo) {x y : Int32} {off : Int} {tgt pc : Nat} {r1 r2 : Option ρ} (hd : decode cc pc = .ok (.if_icmp .lt off, 3)) (ht : (pc : Int) + off = (tgt : Int)) (k1 : ZR G X E pv ps nL σ ls stk tgt r1) (k2 : ZR G X E pv ps nL σ ls stk (pc + 3) r2) : ZR G X E pv ps nL σ ls (.int y :: .int x :: stk) pc (if x < y then r1 else r2) := by
  intro r hr H locs la hH hS hl
  refine lv_icmp_lt hX.1 hX.2.1 hd ht (fun h => ?_) (fun h => ?_)
  · rw [if_pos h] at hr; exact k1 r hr H locs la hH hS hl
  · rw [if_neg h] at hr; exact k2 r hr H locs la hH hS hl
theorem z_icmp_ge (hX : OX G X l cc nL own ret fr lo) {x y : Int32} {off : Int} {tgt pc : Nat} {r1 r2 : Option ρ} (hd : decode cc pc = .ok (.if_icmp .ge off, 3)) (ht : (pc : Int) + off = (tgt : Int)) (k1 : ZR G X E pv ps nL σ ls stk tgt r1) (k2 : ZR G X E pv ps nL σ ls stk (pc + 3) r2) : ZR G X E pv ps nL σ ls (.int y :: .int x :: stk) pc (if y ≤ x then r1 else r2) := by
  intro r hr H locs la hH hS hl
  refine lv_icmp_ge hX.1 hX.2.1 hd ht (fun h => ?_) (fun h => ?_)
  · rw [if_pos h] at hr; exact k1 r hr H locs la hH hS hl
  · rw [if_neg h] at hr; exact k2 r hr H locs la hH hS hl
theorem z_icmp_gt (hX : OX G X l cc nL own ret fr lo) {x y : Int32} {off : Int} {tgt pc : Nat} {r1 r2 : Option ρ} (hd : decode cc pc = .ok (.if_icmp .gt off, 3)) (ht : (pc : Int) + off = (tgt : Int)) (k1 : ZR G X E pv ps nL σ ls stk tgt r1) (k2 : ZR G X E pv ps nL σ ls stk (pc + 3) r2) : ZR G X E pv ps nL σ ls (.int y :: .int x :: stk) pc (if y < x then r1 else r2) := by
  intro r hr H locs la hH hS hl
  refine lv_icmp_gt hX.1 hX.2.1 hd ht (fun h => ?_) (fun h => ?_)
  · rw [if_pos h] at hr; exact k1 r hr H locs la hH hS hl
  · rw [if_neg h] at hr; exact k2 r hr H locs la hH hS hl
theorem z_icmp_le (hX : OX G X l cc nL own ret fr lo) {x y : Int32} {off : Int} {tgt pc : Nat} {r1 r2 : Option ρ} (hd : decode cc pc = .ok (.if_icmp .le off, 3)) (ht : (pc : Int) + off = (tgt : Int)) (k1 : ZR G X E pv ps nL σ ls stk tgt r1) (k2 : ZR G X E pv ps nL σ ls stk (pc + 3) r2) : ZR G X E pv ps nL σ ls (.int y :: .int x :: stk) pc (if x ≤ y then r1 else r2) := by
  intro r hr H locs la hH hS hl
  refine lv_icmp_le hX.1 hX.2.1 hd ht (fun h => ?_) (fun h => ?_)
  · rw [if_pos h] at hr; exact k1 r hr H locs la hH hS hl
  · rw [if_neg h] at hr; exact k2 r hr H locs la hH hS hl
theorem z_if_eq (hX : OX G X l cc nL own ret fr lo) {x : Int32} {off : Int} {tgt pc : Nat} {r1 r2 : Option ρ} (hd : decode cc pc = .ok (.ifCond .eq off, 3)) (ht : (pc : Int) + off = (tgt : Int)) (k1 : ZR G X E pv ps nL σ ls stk tgt r1) (k2 : ZR G X E pv ps nL σ ls stk (pc + 3) r2) : ZR G X E pv ps nL σ ls (.int x :: stk) pc (if x = 0 then r1 else r2) := by
  intro r hr H locs la hH hS hl
  refine lv_if_eq hX.1 hX.2.1 hd ht (fun h => ?_) (fun h => ?_)
  · rw [if_pos h] at hr; exact k1 r hr H locs la hH hS hl
  · rw [if_neg h] at hr; exact k2 r hr H locs la hH hS hl
theorem z_if_lt (hX : OX G X l cc nL own ret fr lo) {x : Int32} {off : Int} {tgt pc : Nat} {r1 r2 : Option ρ} (hd : decode cc pc = .ok (.ifCond .lt off, 3)) (ht : (pc : Int) + off = (tgt : Int)) (k1 : ZR G X E pv ps nL σ ls stk tgt r1) (k2 : ZR G X E pv ps nL σ ls stk (pc + 3) r2) : ZR G X E pv ps nL σ ls (.int x :: stk) pc (if x < 0 then r1 else r2) := by
  intro r hr H locs la hH hS hl
  refine lv_if_lt hX.1 hX.2.1 hd ht (fun h => ?_) (fun h => ?_)
  · rw [if_pos h] at hr; exact k1 r hr H locs la hH hS hl
  · rw [if_neg h] at hr; exact k2 r hr H locs la hH hS hl
theorem z_if_ge (hX : OX G X l cc nL own ret fr lo) {x : Int32} {off : Int} {tgt pc : Nat} {r1 r2 : Option ρ} (hd : decode cc pc = .ok (.ifCond .ge off, 3)) (ht : (pc : Int) + off = (tgt : Int)) (k1 : ZR G X E pv ps nL σ ls stk tgt r1) (k2 : ZR G X E pv ps nL σ ls stk (pc + 3) r2) : ZR G X E pv ps nL σ ls (.int x :: stk) pc (if 0 ≤ x then r1 else r2) := by
  intro r hr H locs la hH hS hl
  refine lv_if_ge hX.1 hX.2.1 hd ht (fun h => ?_) (fun h => ?_)
  · rw [if_pos h] at hr; exact k1 r hr H locs la hH hS hl
  · rw [if_neg h] at hr; exact k2 r hr H locs la hH hS hl
theorem z_if_gt (hX : OX G X l cc nL own ret fr lo) {x : Int32} {off : Int} {tgt pc : Nat} {r1 r2 : Option ρ} (hd : decode cc pc = .ok (.ifCond .gt off, 3)) (ht : (pc : Int) + off = (tgt : Int)) (k1 : ZR G X E pv ps nL σ ls stk tgt r1) (k2 : ZR G X E pv ps nL σ ls stk (pc + 3) r2) : ZR G X E pv ps nL σ ls (.int x :: stk) pc (if 0 < x then r1 else r2) := by
  intro r hr H locs la hH hS hl
  refine lv_if_gt hX.1 hX.2.1 hd ht (fun h => ?_) (fun h => ?_)
  · rw [if_pos h] at hr; exact k1 r hr H locs la hH hS hl
  · rw [if_neg h] at hr; exact k2 r hr H locs la hH hS hl
theorem z_if_le (hX : OX G X l cc nL own ret fr lo) {x : Int32} {off : Int} {tgt pc : Nat} {r1 r2 : Option ρ} (hd : decode cc pc = .ok (.ifCond .le off, 3)) (ht : (pc : Int) + off = (tgt : Int)) (k1 : ZR G X E pv ps nL σ ls stk tgt r1) (k2 : ZR G X E pv ps nL σ ls stk (pc + 3) r2) : ZR G X E pv ps nL σ ls (.int x :: stk) pc (if x ≤ 0 then r1 else r2) := by
  intro r hr H locs la hH hS hl
  refine lv_if_le hX.1 hX.2.1 hd ht (fun h => ?_) (fun h => ?_)
  · rw [if_pos h] at hr; exact k1 r hr H locs la hH hS hl
  · rw [if_neg h] at hr; exact k2 r hr H locs la hH hS hl
theorem z_goto (hX : OX G X l cc nL own ret fr lo) {off : Int} {tgt pc : Nat} (hd : decode cc pc = .ok (.goto off, 3)) (ht : (pc : Int) + off = (tgt : Int)) (kk : ZR G X E pv ps nL σ ls stk tgt res) : ZR G X E pv ps nL σ ls stk pc res := fun r hr H locs la hH hS hl => lv_goto hX.1 hX.2.1 hd ht (kk r hr H locs la hH hS hl)
theorem z_retI (hX : OX G X l cc nL own (some .int) fr lo) {x : Int32} {pc : Nat} (hd : decode cc pc = .ok (.ireturn, 1)) : ZR G X E pvI psI nL σ ls [.int x] pc (some (x, σ)) := by
  intro r hr H locs la hH hS hl
  cases hr
  exact W.iret hX.1 hX.2.1 hX.2.2.2.2.2.1 (fun t ht hW => ⟨⟨rfl, by rw [ht]; exact hH⟩, hS.F ht⟩) hS.2.2 hd hX.2.2.2.2.2.2.1
theorem z_retP (hX : OX G X l cc nL own (some .int) fr lo) {x : Int32} {pc : Nat} (hd : decode cc pc = .ok (.ireturn, 1)) : ZR G X E pvP (psP σ) nL σ ls [.int x] pc (some x) := by
  intro r hr H locs la hH hS hl
  cases hr
  exact W.iret hX.1 hX.2.1 hX.2.2.2.2.2.1 (fun t ht hW => ⟨⟨rfl, by rw [ht]; exact hH⟩, hS.F ht⟩) hS.2.2 hd hX.2.2.2.2.2.2.1
theorem nar_b {x : Int32} (h : x = 0 ∨ x = 1) : narrow .boolean (.int x) = .int x := by rcases h with rfl | rfl <;> decide +kernel
theorem z_retIz (hX : OX G X l cc nL own (some .boolean) fr lo) {x : Int32} {pc : Nat} (hd : decode cc pc = .ok (.ireturn, 1)) : ZR G X E pvI psI nL σ ls [.int x] pc (if x = 0 ∨ x = 1 then some (x, σ) else none) := by
  intro r hr H locs la hH hS hl
  by_cases h : x = 0 ∨ x = 1
  · rw [if_pos h] at hr
    cases hr
    exact W.zret hX.1 hX.2.1 hX.2.2.2.2.2.1 (nar_b h) (fun t ht hW => ⟨⟨rfl, by rw [ht]; exact hH⟩, hS.F ht⟩) hS.2.2 hd hX.2.2.2.2.2.2.1
  · rw [if_neg h] at hr; cases hr
theorem z_retPz (hX : OX G X l cc nL own (some .boolean) fr lo) {x : Int32} {pc : Nat} (hd : decode cc pc = .ok (.ireturn, 1)) : ZR G X E pvP (psP σ) nL σ ls [.int x] pc (if x = 0 ∨ x = 1 then some x else none) := by
  intro r hr H locs la hH hS hl
  by_cases h : x = 0 ∨ x = 1
  · rw [if_pos h] at hr
    cases hr
    exact W.zret hX.1 hX.2.1 hX.2.2.2.2.2.1 (nar_b h) (fun t ht hW => ⟨⟨rfl, by rw [ht]; exact hH⟩, hS.F ht⟩) hS.2.2 hd hX.2.2.2.2.2.2.1
  · rw [if_neg h] at hr; cases hr
theorem z_retIc (hX : OX G X l cc nL own (some .boolean) fr lo) {x : Int32} {pc : Nat} (hd : decode cc pc = .ok (.ireturn, 1)) (h : x = 0 ∨ x = 1) : ZR G X E pvI psI nL σ ls [.int x] pc (some (x, σ)) := by
  intro r hr H locs la hH hS hl
  cases hr
  exact W.zret hX.1 hX.2.1 hX.2.2.2.2.2.1 (nar_b h) (fun t ht hW => ⟨⟨rfl, by rw [ht]; exact hH⟩, hS.F ht⟩) hS.2.2 hd hX.2.2.2.2.2.2.1
theorem z_retPc (hX : OX G X l cc nL own (some .boolean) fr lo) {x : Int32} {pc : Nat} (hd : decode cc pc = .ok (.ireturn, 1)) (h : x = 0 ∨ x = 1) : ZR G X E pvP (psP σ) nL σ ls [.int x] pc (some x) := by
  intro r hr H locs la hH hS hl
  cases hr
  exact W.zret hX.1 hX.2.1 hX.2.2.2.2.2.1 (nar_b h) (fun t ht hW => ⟨⟨rfl, by rw [ht]; exact hH⟩, hS.F ht⟩) hS.2.2 hd hX.2.2.2.2.2.2.1
theorem z_retV (hX : OX G X l cc nL own none fr lo) {pc : Nat} (hd : decode cc pc = .ok (.return_, 1)) : ZR G X E pvV psV nL σ ls [] pc (some σ) := by
  intro r hr H locs la hH hS hl
  cases hr
  exact W.vret hX.1 hX.2.1 hX.2.2.2.2.2.1 (fun t ht hW => ⟨⟨rfl, by rw [ht]; exact hH⟩, hS.F ht⟩) hS.2.2 hd hX.2.2.2.2.2.2.1
theorem z_retL (hX : OX G X l cc nL own (some .long) fr lo) {x : Int64} {pc : Nat} (hd : decode cc pc = .ok (.lreturn, 1)) : ZR G X E pvL (psP σ) nL σ ls [.long x] pc (some x) := by
  intro r hr H locs la hH hS hl
  cases hr
  exact W.lret hX.1 hX.2.1 hX.2.2.2.2.2.1 (fun t ht hW => ⟨⟨rfl, by rw [ht]; exact hH⟩, hS.F ht⟩) hS.2.2 hd hX.2.2.2.2.2.2.1
theorem z_retM (hX : OX G X l cc nL own (some .long) fr lo) {x : Int64} {pc : Nat} (hd : decode cc pc = .ok (.lreturn, 1)) : ZR G X E pvM psM nL σ ls [.long x] pc (some (x, σ)) := by
  intro r hr H locs la hH hS hl
  cases hr
  exact W.lret hX.1 hX.2.1 hX.2.2.2.2.2.1 (fun t ht hW => ⟨⟨rfl, by rw [ht]; exact hH⟩, hS.F ht⟩) hS.2.2 hd hX.2.2.2.2.2.2.1
/-- a switch: one case after the other, then the rest -/
theorem z_tab1 (hX : OX G X l cc nL own ret fr lo) {dflt lo' hi : Int} {offs : Array Int} {len : Nat} {x : Int32} {v : Int32} {off : Int} {tgt pc : Nat} {r1 r2 : Option ρ} (hd : decode cc pc = .ok (.tableswitch dflt lo' hi offs, len)) (h1 : ¬ v.toInt < lo') (h2 : ¬ hi < v.toInt) (ho : offs[(v.toInt - lo').toNat]? = some off) (ht : (pc : Int) + off = (tgt : Int))
    (k1 : ZR G X E pv ps nL σ ls stk tgt r1) (k2 : ¬ x = v → ZR G X E pv ps nL σ ls (.int x :: stk) pc r2) : ZR G X E pv ps nL σ ls (.int x :: stk) pc (if x = v then r1 else r2) := by
  intro r hr H locs la hH hS hl
  by_cases h : x = v
  · rw [if_pos h] at hr
    subst h
    exact lv_tableIn hX.1 hX.2.1 hd h1 h2 ho ht (k1 r hr H locs la hH hS hl)
  · rw [if_neg h] at hr
    exact k2 h r hr H locs la hH hS hl
theorem z_tab0 (hX : OX G X l cc nL own ret fr lo) {dflt lo' hi : Int} {offs : Array Int} {len : Nat} {x : Int32} {tgt pc : Nat} (hd : decode cc pc = .ok (.tableswitch dflt lo' hi offs, len)) (h : x.toInt < lo' ∨ hi < x.toInt) (ht : (pc : Int) + dflt = (tgt : Int)) (kk : ZR G X E pv ps nL σ ls stk tgt res) : ZR G X E pv ps nL σ ls (.int x :: stk) pc res :=
  fun r hr H locs la hH hS hl => lv_tableOut hX.1 hX.2.1 hd h ht (kk r hr H locs la hH hS hl)


theorem pre_blind {S : Type} {G : Gb} {E : S → Sto × Lng} {σ : S} {args : List Value} : FrameBlind (va_Pc args (fun U => KS G U ∧ HP G (E σ) U.heap)) := fun _ _ _ _ q => ⟨q.1, q.2.1.calling, q.2.2⟩
/-- what a call needs of the tables and of the room -/
def CW (own : String) (index : Nat) (y : MethodName) (bytes : ByteArray) (maxL : Nat) (ret : Option FieldType) : Prop := Cond.methodLink own index y ∈ gw ∧ Cond.code y bytes maxL ret ∈ gw ∧ Cond.initialized y.cls ∈ gw
theorem z_cb {S' ρ' : Type} (hX : OX G X l cc nL own ret fr lo) {y : MethodName} {bytes : ByteArray} {maxL : Nat} {rt : Option FieldType} {fr' lo' index n : Nat} (hw : CW own index y bytes maxL rt) (hd : y.cls ≠ "java/lang/invoke/MethodHandle" ∧ y.cls ≠ "java/lang/invoke/VarHandle" ∧ (parseMethodDescriptor y.desc).map (fun d => d.parameters.length) = some n) (hR : fr' + 1 ≤ fr ∧ 8 + (maxL + 11) + lo' ≤ lo) :
    CallB X.R X.s X.args own index y bytes maxL rt (.code y bytes maxL rt :: gw) { frames := fr', cells := 0, slots := 0, locals := lo' } 0 0 n :=
  callB_of n hX.2.2.2.2.1 (gw_code hw.2.1) rfl rfl rfl (hX.2.2.2.2.1 _ hw.2.2) (hX.2.2.2.2.1 _ hw.1) hd (by rw [hX.2.2.2.2.2.2.2.2.2.1]; exact hR)

def RUN {S ρ' : Type} (G : Gb) (X : CX) (E : S → Sto × Lng) (pv' : ρ' → Option Value) (ps' : ρ' → S) (nL : Nat) (σ : S) (ls : List (Nat × Value)) (stk0 stk : List Value) (pc : Nat) (a : Array Value) (x : Option ρ') : Prop :=
  ∀ r', x = some r' → ∀ (H : Heap) (locs : List Loc) (la : Array Slot), HP G (E σ) H → va_S (AB G) X.s.heap H locs → lv_has la nL ls → va_Run X.p X.l X.e X.R X.s X.m X.args X.below X.meth X.c H locs 0 0 0 0 (F0 X.m pc la stk0) stk (QZ G E (pv' r') (ps' r') a) (AB G)
theorem z_run {ρ' : Type} {pv' : ρ' → Option Value} {ps' : ρ' → S} {x : Option ρ'} {k : ρ' → Option ρ} {pc : Nat} {stk0 : List Value} {a : Array Value} (h : RUN G X E pv' ps' nL σ ls stk0 stk pc a x) (kk : ∀ r', ZR G X E pv ps nL (ps' r') ls ((pv' r').toList ++ stk) (pc + 3) (k r')) : ZR G X E pv ps nL σ ls stk0 pc (x.bind k) := by
  intro r hr H locs la hH hS hl
  cases hx : x with
  | none => rw [hx] at hr; cases hr
  | some r' =>
    rw [hx] at hr
    have hr : k r' = some r := hr
    intro T hT Y
    obtain ⟨v, st₀, t, T', L, h0, X', hL, e1, e2, ⟨⟨hv, hb⟩, hz, hk⟩, stp⟩ := h r' hx H locs la hH hS hl T hT Y
    cases hv
    rw [h0] at hz hk
    obtain ⟨t2, a1, b1⟩ := kk r' r hr T'.heap (locs ++ L) la (by rw [e1]; exact hb) ⟨Nat.le_trans hS.1 (by rw [e1]; exact hz), fun q h1 h2 => by rw [e1, hk q (Nat.lt_of_lt_of_le h1 hS.1) h2]; exact hS.2.1 q h1 h2, fun q hq => by
      rcases List.mem_append.mp hq with g | g
      · exact hS.2.2 q g
      · exact hL q g⟩ hl T' rfl X'
    exact ⟨t2, stp t2 a1, b1⟩
theorem z_rI {x : Option (Int32 × S)} {k : Int32 → S → Option ρ} {pc : Nat} {stk0 : List Value} {a : Array Value} (h : RUN G X E pvI psI nL σ ls stk0 stk pc a x) (kk : ∀ r τ, ZR G X E pv ps nL τ ls (.int r :: stk) (pc + 3) (k r τ)) : ZR G X E pv ps nL σ ls stk0 pc (bI x k) := z_run h (fun r' => kk r'.1 r'.2)
theorem z_rP {x : Option Int32} {k : Int32 → Option ρ} {pc : Nat} {stk0 : List Value} {a : Array Value} (h : RUN G X E pvP (psP σ) nL σ ls stk0 stk pc a x) (kk : ∀ r, ZR G X E pv ps nL σ ls (.int r :: stk) (pc + 3) (k r)) : ZR G X E pv ps nL σ ls stk0 pc (bP x k) := z_run h (fun r' => kk r')
theorem z_rV {x : Option S} {k : S → Option ρ} {pc : Nat} {stk0 : List Value} {a : Array Value} (h : RUN G X E pvV psV nL σ ls stk0 stk pc a x) (kk : ∀ τ, ZR G X E pv ps nL τ ls stk (pc + 3) (k τ)) : ZR G X E pv ps nL σ ls stk0 pc (bV x k) := z_run h (fun r' => kk r')
theorem z_rL {x : Option Int64} {k : Int64 → Option ρ} {pc : Nat} {stk0 : List Value} {a : Array Value} (h : RUN G X E pvL (psP σ) nL σ ls stk0 stk pc a x) (kk : ∀ r, ZR G X E pv ps nL σ ls (.long r :: stk) (pc + 3) (k r)) : ZR G X E pv ps nL σ ls stk0 pc (bL x k) := z_run h (fun r' => kk r')
theorem z_rM {x : Option (Int64 × S)} {k : Int64 → S → Option ρ} {pc : Nat} {stk0 : List Value} {a : Array Value} (h : RUN G X E pvM psM nL σ ls stk0 stk pc a x) (kk : ∀ r τ, ZR G X E pv ps nL τ ls (.long r :: stk) (pc + 3) (k r τ)) : ZR G X E pv ps nL σ ls stk0 pc (bM x k) := z_run h (fun r' => kk r'.1 r'.2)
/-- the receiver is of class C -/
def RC (G : Gb) (k i : Nat) (C : String) : Prop := V k i ∧ ∃ (ci : Nat) (T : u_T) (N : Nat), vwCl[ci]? = some (C, T, N) ∧ ∀ f L, ∃ fs, cel G k i f L = .inr (ci, fs)
theorem rc_cell (hX : OX G X l cc nL own ret fr lo) {k i : Nat} {C : String} (h : RC G k i C) {H : Heap} (hH : HP G (E σ) H) : ∃ cell : Cell, H[ad G k i]? = some cell ∧ cell.vm.isStatics = false ∧ X.s.vm.findClass C = some cell.cls := by
  obtain ⟨hV, ci, T, N, hc, hf⟩ := h
  obtain ⟨fs, hfs⟩ := hf ((E σ).1 k i) (E σ).2
  exact va_recv hX.2.2.2.2.2.2.2.1.1 hH hc (q0 := plc k i) (by rw [WS_get hV, hfs])
theorem run_V {ρ' : Type} {pv' : ρ' → Option Value} {ps' : ρ' → S} {x : Option ρ'} (hX : OX G X l cc nL own ret fr lo) {k i : Nat} {C : String} (hr : RC G k i C) {y : MethodName} {bytes : ByteArray} {maxL fr' lo' index n pc : Nat} {rt : Option FieldType} {As stk0 : List Value} (hw : CW own index y bytes maxL rt) (hi : Cond.instanceMethod y ∈ gw) (hs : Cond.selects C y y ∈ gw)
    (hd : y.cls ≠ "java/lang/invoke/MethodHandle" ∧ y.cls ≠ "java/lang/invoke/VarHandle" ∧ (parseMethodDescriptor y.desc).map (fun d => d.parameters.length) = some n) (hR : fr' + 1 ≤ fr ∧ 8 + (maxL + 11) + lo' ≤ lo) (hC : CT G l E pv' ps' y bytes maxL rt fr' lo' (.ref (ad G k i) :: As) σ x) (hn : As.length = n) (hst : stk0 = As.reverse ++ .ref (ad G k i) :: stk) (hW : (stk.map fun v => v.category).sum ≤ 8) (hdg : decode cc pc = .ok (.invokevirtual index, 3)) :
    RUN G X E pv' ps' nL σ ls stk0 stk pc (Value.ref (ad G k i) :: As).toArray x := by
  intro r' hx H locs la hH hS hl
  have hMM := hC r' hx
  rw [← hX.2.2.2.2.2.2.2.2.2.2] at hMM
  exact va_runV (Ts := gw) ⟨hX.1, hX.2.1, hX.2.2.1, hX.2.2.2.1, hX.2.2.2.2.1⟩ hMM ⟨z_cb (S' := S) (ρ' := ρ') hX hw hd hR, hX.2.2.2.2.1 _ hi, hX.2.2.2.2.1 _ hs⟩ ⟨pre_blind, rc_cell hX hr hH, fun U hU hWm => ⟨rfl, hX.2.2.2.2.2.2.2.1.call hS hU hWm, by rw [hU]; exact hH⟩⟩ rfl hn hl.1 hst (lv_room hW) hdg ⟨by rw [hX.2.2.2.2.2.2.2.2.2.1]; exact Nat.le_refl 0, by rw [hX.2.2.2.2.2.2.2.2.2.1]; exact Nat.le_refl 0⟩
theorem run_S {ρ' : Type} {pv' : ρ' → Option Value} {ps' : ρ' → S} {x : Option ρ'} (hX : OX G X l cc nL own ret fr lo) {y : MethodName} {bytes : ByteArray} {maxL fr' lo' index n pc : Nat} {rt : Option FieldType} {As stk0 : List Value} (hw : CW own index y bytes maxL rt) (hs : Cond.static y ∈ gw)
    (hd : y.cls ≠ "java/lang/invoke/MethodHandle" ∧ y.cls ≠ "java/lang/invoke/VarHandle" ∧ (parseMethodDescriptor y.desc).map (fun d => d.parameters.length) = some n) (hR : fr' + 1 ≤ fr ∧ 8 + (maxL + 11) + lo' ≤ lo) (hC : CT G l E pv' ps' y bytes maxL rt fr' lo' As σ x) (hn : As.length = n) (hst : stk0 = As.reverse ++ stk) (hW : (stk.map fun v => v.category).sum ≤ 8) (hdg : decode cc pc = .ok (.invokestatic index, 3)) :
    RUN G X E pv' ps' nL σ ls stk0 stk pc As.toArray x := by
  intro r' hx H locs la hH hS hl
  have hMM := hC r' hx
  rw [← hX.2.2.2.2.2.2.2.2.2.2] at hMM
  exact va_runS (Ts := gw) ⟨hX.1, hX.2.1, hX.2.2.1, hX.2.2.2.1, hX.2.2.2.2.1⟩ hMM ⟨z_cb (S' := S) (ρ' := ρ') hX hw hd hR, hX.2.2.2.2.1 _ hs⟩ ⟨pre_blind, fun U hU hWm => ⟨rfl, hX.2.2.2.2.2.2.2.1.call hS hU hWm, by rw [hU]; exact hH⟩⟩ rfl hn hl.1 hst (lv_room hW) hdg ⟨by rw [hX.2.2.2.2.2.2.2.2.2.1]; exact Nat.le_refl 0, by rw [hX.2.2.2.2.2.2.2.2.2.1]; exact Nat.le_refl 0⟩
/-! memory -/
abbrev inb (x : Int32) (n : Nat) : Prop := 0 ≤ x.toInt ∧ x.toInt < n
abbrev ix (x : Int32) : Nat := x.toNatClampNeg
theorem inb_ix {x : Int32} {n : Nat} (h : inb x n) : ix x < n := by
  have := h.1; have := h.2
  show x.toInt.toNat < n
  omega
theorem z_getf (hX : OX G X l cc nL own ret fr lo) {k i ci slot N index pc : Nat} {C ref : String} {T : u_T} {fs : List Value} {v : Value} (hV : V k i) (he : cel G k i ((E σ).1 k i) (E σ).2 = .inr (ci, fs)) (hc : vwCl[ci]? = some (C, T, N)) (hin : ∀ w ∈ u_ws C T N, w ∈ gw) (hs : slot < N) (hr : (T slot).1 = ref) (hv : fs[slot]? = some v)
    (hq : Cond.fieldLink own index ref (T slot).2.1 (T slot).2.2.1 ∈ gw) (hd : decode cc pc = .ok (.getfield index, 3)) (kk : ZR G X E pv ps nL σ ls (v :: stk) (pc + 3) res) : ZR G X E pv ps nL σ ls (.ref (ad G k i) :: stk) pc res :=
  fun r hr2 H locs la hH hS hl => va_get (ref := ref) hX.1 hX.2.1 hX.2.2.2.2.1 hin hX.2.2.2.1 hX.2.2.2.2.2.2.2.1.1 hH (plc k i) (by rw [WS_get hV, he]) hc slot hs (hX.2.2.2.2.1 _ hq) (by rw [hr]; exact fun _ h => h) hv hd (kk r hr2 H locs la hH hS hl)
theorem z_putf (hX : OX G X l cc nL own ret fr lo) {k i ci slot N index pc : Nat} {C ref : String} {T : u_T} {fs : List Value} {x : Int32} {σ' : S} (hV : V k i) (he : cel G k i ((E σ).1 k i) (E σ).2 = .inr (ci, fs)) (he2 : cel G k i (upd ((E σ).1 k i) slot x) (E σ).2 = .inr (ci, fs.set slot (.int x))) (hE : E σ' = (st (E σ).1 k i slot x, (E σ).2)) (hc : vwCl[ci]? = some (C, T, N)) (hin : ∀ w ∈ u_ws C T N, w ∈ gw) (ty : Nat → FieldType) (hty : ∀ k, k < N → parseFieldDescriptor (T k).2.2.1 = some (ty k)) (hnm : ∀ a, a < N → ∀ b, b < N → a ≠ b → (T a).2.1 ≠ (T b).2.1) (hs : slot < N) (hr : (T slot).1 = ref) (hf : (T slot).2.2.2 = false) (hI : parseFieldDescriptor (T slot).2.2.1 = some .int) (hl0 : slot < fs.length)
    (hq : Cond.fieldLink own index ref (T slot).2.1 (T slot).2.2.1 ∈ gw) (hd : decode cc pc = .ok (.putfield index, 3)) (kk : ZR G X E pv ps nL σ' ls stk (pc + 3) res) : ZR G X E pv ps nL σ ls (.int x :: .ref (ad G k i) :: stk) pc res := by
  intro r hr2 H locs la hH hS hl
  refine va_put (ref := ref) (ty := .int) hX.1 hX.2.1 hX.2.2.2.2.1 hin ty hty hnm hX.2.2.2.1 hX.2.2.2.2.2.2.2.1.1 hH (WS_D hX.2.2.2.2.2.2.2.2.1 _ _) hS (plc k i) (by rw [WS_get hV, he]) hc slot hs (hX.2.2.2.2.1 _ hq) (by rw [hr]; exact fun _ h => h) hf hI rfl rfl hl0 hd (fun H1 locs1 hP1 _ hS1 => ?_)
  refine kk r hr2 H1 locs1 la ?_ hS1 hl
  rw [← he2, WS_set hV, ← st_row] at hP1
  rw [hE]
  exact hP1
theorem z_putl (hX : OX G X l cc nL own ret fr lo) {ci slot N index pc : Nat} {C ref : String} {T : u_T} {fs : List Value} {x : Int64} {σ' : S} (he : cel G 17 0 ((E σ).1 17 0) (E σ).2 = .inr (ci, fs)) (he2 : cel G 17 0 ((E σ).1 17 0) (stl (E σ).2 slot x) = .inr (ci, fs.set slot (.long x))) (hE : E σ' = ((E σ).1, stl (E σ).2 slot x)) (hc : vwCl[ci]? = some (C, T, N)) (hin : ∀ w ∈ u_ws C T N, w ∈ gw) (ty : Nat → FieldType) (hty : ∀ k, k < N → parseFieldDescriptor (T k).2.2.1 = some (ty k)) (hnm : ∀ a, a < N → ∀ b, b < N → a ≠ b → (T a).2.1 ≠ (T b).2.1) (hs : slot < N) (hr : (T slot).1 = ref) (hf : (T slot).2.2.2 = false) (hI : parseFieldDescriptor (T slot).2.2.1 = some .long) (hl0 : slot < fs.length)
    (hq : Cond.fieldLink own index ref (T slot).2.1 (T slot).2.2.1 ∈ gw) (hd : decode cc pc = .ok (.putfield index, 3)) (kk : ZR G X E pv ps nL σ' ls stk (pc + 3) res) : ZR G X E pv ps nL σ ls (.long x :: .ref (ad G 17 0) :: stk) pc res := by
  intro r hr2 H locs la hH hS hl
  refine va_put (ref := ref) (ty := .long) hX.1 hX.2.1 hX.2.2.2.2.1 hin ty hty hnm hX.2.2.2.1 hX.2.2.2.2.2.2.2.1.1 hH (WS_D hX.2.2.2.2.2.2.2.2.1 _ _) hS (plc 17 0) (by rw [WS_get (show V 17 0 from show 0 < nK 17 by decide +kernel), he]) hc slot hs (hX.2.2.2.2.1 _ hq) (by rw [hr]; exact fun _ h => h) hf hI rfl rfl hl0 hd (fun H1 locs1 hP1 _ hS1 => ?_)
  refine kk r hr2 H1 locs1 la ?_ hS1 hl
  rw [← he2, WS_setL] at hP1
  rw [hE]
  exact hP1
theorem z_iald (hX : OX G X l cc nL own ret fr lo) {k i n pc : Nat} {f : Nat → Int32} {x : Int32} (hV : V k i) (he : cel G k i ((E σ).1 k i) (E σ).2 = arI G n f) (hd : decode cc pc = .ok (.iaload, 1)) (kk : ZR G X E pv ps nL σ ls (.int (f (ix x)) :: stk) (pc + 1) res) : ZR G X E pv ps nL σ ls (.int x :: .ref (ad G k i) :: stk) pc (if inb x n then res else none) := by
  intro r hr H locs la hH hS hl
  by_cases h : inb x n
  · rw [if_pos h] at hr
    exact va_iald hX.1 hX.2.1 hX.2.2.2.2.2.2.2.1.1 hH (plc k i) 0 (by rw [WS_get hV, he]; rfl) rfl (vp_in_iff.mpr h) hd (kk r hr H locs la hH hS hl)
  · rw [if_neg h] at hr; cases hr
theorem z_zald (hX : OX G X l cc nL own ret fr lo) {k i n pc : Nat} {f : Nat → Int32} {x : Int32} (hV : V k i) (he : cel G k i ((E σ).1 k i) (E σ).2 = arZ G n f) (hd : decode cc pc = .ok (.baload, 1)) (kk : ZR G X E pv ps nL σ ls (.int (f (ix x)) :: stk) (pc + 1) res) : ZR G X E pv ps nL σ ls (.int x :: .ref (ad G k i) :: stk) pc (if inb x n then res else none) := by
  intro r hr H locs la hH hS hl
  by_cases h : inb x n
  · rw [if_pos h] at hr
    exact va_zald hX.1 hX.2.1 hX.2.2.2.2.2.2.2.1.1 hH (plc k i) 1 (by rw [WS_get hV, he]; rfl) rfl (vp_in_iff.mpr h) hd (kk r hr H locs la hH hS hl)
  · rw [if_neg h] at hr; cases hr
theorem z_iast (hX : OX G X l cc nL own ret fr lo) {k i n pc : Nat} {f : Nat → Int32} {x y : Int32} {σ' : S} (hV : V k i) (he : cel G k i ((E σ).1 k i) (E σ).2 = arI G n f) (he2 : cel G k i (upd ((E σ).1 k i) (ix x) y) (E σ).2 = arI G n (upd f (ix x) y)) (hE : E σ' = (st (E σ).1 k i (ix x) y, (E σ).2)) (hd : decode cc pc = .ok (.iastore, 1)) (kk : ZR G X E pv ps nL σ' ls stk (pc + 1) res) : ZR G X E pv ps nL σ ls (.int y :: .int x :: .ref (ad G k i) :: stk) pc (if inb x n then res else none) := by
  intro r hr H locs la hH hS hl
  by_cases h : inb x n
  · rw [if_pos h] at hr
    refine va_iast hX.1 hX.2.1 hX.2.2.2.2.2.2.2.1.1 hH (WS_D hX.2.2.2.2.2.2.2.2.1 _ _) hS (plc k i) 0 (by rw [WS_get hV, he]; rfl) rfl (vp_in_iff.mpr h) hd (fun H1 locs1 hP1 _ hS1 => ?_)
    refine kk r hr H1 locs1 la ?_ hS1 hl
    have e : (Sum.inl (G.2.1 0, n, .inl (upd f (ix x) y)) : va_E) = cel G k i (upd ((E σ).1 k i) (ix x) y) (E σ).2 := he2.symm
    rw [e, WS_set hV, ← st_row] at hP1
    rw [hE]
    exact hP1
  · rw [if_neg h] at hr; cases hr
theorem z_zast1 (hX : OX G X l cc nL own ret fr lo) {k i n pc : Nat} {f : Nat → Int32} {x : Int32} {σ' : S} (hV : V k i) (he : cel G k i ((E σ).1 k i) (E σ).2 = arZ G n f) (he2 : cel G k i (upd ((E σ).1 k i) (ix x) 1) (E σ).2 = arZ G n (upd f (ix x) 1)) (hE : E σ' = (st (E σ).1 k i (ix x) 1, (E σ).2)) (hd : decode cc pc = .ok (.bastore, 1)) (kk : ZR G X E pv ps nL σ' ls stk (pc + 1) res) : ZR G X E pv ps nL σ ls (.int 1 :: .int x :: .ref (ad G k i) :: stk) pc (if inb x n then res else none) := by
  intro r hr H locs la hH hS hl
  by_cases h : inb x n
  · rw [if_pos h] at hr
    refine va_zast hX.1 hX.2.1 hX.2.2.2.2.2.2.2.1.1 hH (WS_D hX.2.2.2.2.2.2.2.2.1 _ _) hS (plc k i) 1 (by rw [WS_get hV, he]; rfl) rfl (vp_in_iff.mpr h) hd (fun H1 locs1 hP1 _ hS1 => ?_)
    refine kk r hr H1 locs1 la ?_ hS1 hl
    have e1 : vp_nar .boolean 1 = 1 := by decide +kernel
    rw [e1] at hP1
    have e : (Sum.inl (G.2.1 1, n, .inl (upd f (ix x) 1)) : va_E) = cel G k i (upd ((E σ).1 k i) (ix x) 1) (E σ).2 := he2.symm
    rw [e, WS_set hV, ← st_row] at hP1
    rw [hE]
    exact hP1
  · rw [if_neg h] at hr; cases hr
theorem z_aald (hX : OX G X l cc nL own ret fr lo) {k i n pc c t : Nat} {C : String} {f : Nat → Option Nat} {a : Nat} {x : Int32} (hV : V k i) (he : cel G k i ((E σ).1 k i) (E σ).2 = arQ G c n f) (ht : (tys G)[t]? = some (G.2.1 c, .object C)) (ha : f (ix x) = some a) (hd : decode cc pc = .ok (.aaload, 1)) (kk : inb x n → ZR G X E pv ps nL σ ls (.ref a :: stk) (pc + 1) res) : ZR G X E pv ps nL σ ls (.int x :: .ref (ad G k i) :: stk) pc (if inb x n then res else none) := by
  intro r hr H locs la hH hS hl
  by_cases h : inb x n
  · rw [if_pos h] at hr
    refine va_aldq hX.1 hX.2.1 hX.2.2.2.2.2.2.2.1.1 hH (plc k i) t (by rw [WS_get hV, he]; rfl) ht (vp_in_iff.mpr h) hd ?_
    rw [show f x.toNatClampNeg = some a from ha]
    exact kk h r hr H locs la hH hS hl
  · rw [if_neg h] at hr; cases hr
theorem z_alenq (hX : OX G X l cc nL own ret fr lo) {k i n pc c t : Nat} {C : String} {f : Nat → Option Nat} {v : Int32} (hV : V k i) (he : cel G k i ((E σ).1 k i) (E σ).2 = arQ G c n f) (ht : (tys G)[t]? = some (G.2.1 c, .object C)) (hv : Int32.ofNat n = v) (hd : decode cc pc = .ok (.arraylength, 1)) (kk : ZR G X E pv ps nL σ ls (.int v :: stk) (pc + 1) res) : ZR G X E pv ps nL σ ls (.ref (ad G k i) :: stk) pc res :=
  fun r hr H locs la hH hS hl => va_alen hX.1 hX.2.1 hX.2.2.2.2.2.2.2.1.1 hH (plc k i) t (by rw [WS_get hV, he]; rfl) ht hv hd (kk r hr H locs la hH hS hl)
theorem z_max (hX : OX G X l cc nL own ret fr lo) {index pc : Nat} {x y : Int32} (hq : Cond.methodLink own index Lib.Math.max.name ∈ gw) (h1 : Cond.static Lib.Math.max.name ∈ gw) (h2 : Cond.initialized "java/lang/Math" ∈ gw) (h3 : Cond.code Lib.Math.max.name Lib.Math.max.code 2 (some .int) ∈ gw) (hf : 1 ≤ fr) (hlo : (stk.map fun v => v.category).sum + 13 ≤ lo) (hd : decode cc pc = .ok (.invokestatic index, 3)) (kk : ZR G X E pv ps nL σ ls (.int (imx x y) :: stk) (pc + 3) res) : ZR G X E pv ps nL σ ls (.int y :: .int x :: stk) pc res :=
  fun r hr H locs la hH hS hl => va_mmax hX.1 hX.2.1 (hX.2.2.1.trans hl.1.symm) hX.2.2.2.1 (hX.2.2.2.2.1 _ hq) (hX.2.2.2.2.1 _ h1) (hX.2.2.2.2.1 _ h2) (hX.2.2.2.2.1 _ h3) (by rw [hX.2.2.2.2.2.2.2.2.2.1]; exact hf) (by rw [hX.2.2.2.2.2.2.2.2.2.1]; exact hlo) (Nat.zero_le _) (Nat.zero_le _) hd (kk r hr H locs la hH hS hl)
theorem z_min (hX : OX G X l cc nL own ret fr lo) {index pc : Nat} {x y : Int32} (hq : Cond.methodLink own index Lib.Math.min.name ∈ gw) (h1 : Cond.static Lib.Math.min.name ∈ gw) (h2 : Cond.initialized "java/lang/Math" ∈ gw) (h3 : Cond.code Lib.Math.min.name Lib.Math.min.code 2 (some .int) ∈ gw) (hf : 1 ≤ fr) (hlo : (stk.map fun v => v.category).sum + 13 ≤ lo) (hd : decode cc pc = .ok (.invokestatic index, 3)) (kk : ZR G X E pv ps nL σ ls (.int (imn x y) :: stk) (pc + 3) res) : ZR G X E pv ps nL σ ls (.int y :: .int x :: stk) pc res :=
  fun r hr H locs la hH hS hl => va_mmin hX.1 hX.2.1 (hX.2.2.1.trans hl.1.symm) hX.2.2.2.1 (hX.2.2.2.2.1 _ hq) (hX.2.2.2.2.1 _ h1) (hX.2.2.2.2.1 _ h2) (hX.2.2.2.2.1 _ h3) (by rw [hX.2.2.2.2.2.2.2.2.2.1]; exact hf) (by rw [hX.2.2.2.2.2.2.2.2.2.1]; exact hlo) (Nat.zero_le _) (Nat.zero_le _) hd (kk r hr H locs la hH hS hl)
end ZROWS
