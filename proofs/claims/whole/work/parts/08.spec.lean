/-! calls from methods that hold longs; super, dispatch, text constants, System.arraycopy -/
theorem CT.upP {G : Gb} {l : Launch} {o : Sto} {q : Sto × Lng} {y : MethodName} {bytes : ByteArray} {maxL fr lo : Nat} {ret : Option FieldType} {args : List Value} {x : Option Int32} (h : CT G l (EM o q.2) pvP (psP q.1) y bytes maxL ret fr lo args q.1 x) : CT G l (EL o) pvP (psP q) y bytes maxL ret fr lo args q x := h
def upI (L : Lng) (x : Option (Int32 × Sto)) : Option (Int32 × (Sto × Lng)) := x.map (fun p => (p.1, (p.2, L)))
theorem CT.upI {G : Gb} {l : Launch} {o : Sto} {q : Sto × Lng} {y : MethodName} {bytes : ByteArray} {maxL fr lo : Nat} {ret : Option FieldType} {args : List Value} {x : Option (Int32 × Sto)} (h : CT G l (EM o q.2) pvI psI y bytes maxL ret fr lo args q.1 x) : CT G l (EL o) pvI psI y bytes maxL ret fr lo args q (upI q.2 x) := by
  intro r hr
  cases hx : x with
  | none => rw [hx] at hr; cases hr
  | some p => rw [hx] at hr; cases hr; exact h p hx
section ZSPEC
variable {S ρ : Type} {G : Gb} {X : CX} {l : Launch} {E : S → Sto × Lng} {pv : ρ → Option Value} {ps : ρ → S} {nL : Nat} {σ : S} {ls : List (Nat × Value)} {stk : List Value} {res : Option ρ} {cc : ByteArray} {own : String} {ret : Option FieldType} {fr lo : Nat}
theorem RUN.ite {ρ' : Type} {pv' : ρ' → Option Value} {ps' : ρ' → S} {stk0 : List Value} {pc : Nat} {a : Array Value} {c : Prop} [Decidable c] {x y : Option ρ'} (h1 : c → RUN G X E pv' ps' nL σ ls stk0 stk pc a x) (h2 : ¬ c → RUN G X E pv' ps' nL σ ls stk0 stk pc a y) : RUN G X E pv' ps' nL σ ls stk0 stk pc a (if c then x else y) := by
  by_cases h : c
  · rw [if_pos h]; exact h1 h
  · rw [if_neg h]; exact h2 h
theorem rc_at (hX : OX G X l cc nL own ret fr lo) {k i : Nat} {C : String} (h : RC G k i C) : ∃ cC, ClassAt X.s C cC := by
  obtain ⟨hV, ci, T, N, hc, hf⟩ := h
  exact ⟨_, (hX.2.2.2.2.2.2.2.1.1.1 ci _ hc).2⟩
theorem rc_6 {G : Gb} {i : Nat} (h : V 6 i) : ∃ C, RC G 6 i C := by
  have h1 : i < 6 := h
  rcases (show i = 0 ∨ i = 1 ∨ i = 2 ∨ i = 3 ∨ i = 4 ∨ i = 5 by omega) with rfl | rfl | rfl | rfl | rfl | rfl
  · exact ⟨_, rc_6_0⟩
  · exact ⟨_, rc_6_1⟩
  · exact ⟨_, rc_6_2⟩
  · exact ⟨_, rc_6_3⟩
  · exact ⟨_, rc_6_4⟩
  · exact ⟨_, rc_6_5⟩
theorem run_SU {ρ' : Type} {pv' : ρ' → Option Value} {ps' : ρ' → S} {x : Option ρ'} (hX : OX G X l cc nL own ret fr lo) {k i : Nat} (hr : ∃ C, RC G k i C) {y : MethodName} {bytes : ByteArray} {maxL fr' lo' index n pc : Nat} {rt : Option FieldType} {As stk0 : List Value} (hw : CW own index y bytes maxL rt) (hi : Cond.instanceMethod y ∈ gw) (hsm : Cond.sameMethod y.cls y.cls y.name y.desc ∈ gw) (hsu : Cond.superclass own y.cls ∈ gw) (hno : y.name ≠ "<init>")
    (hd : y.cls ≠ "java/lang/invoke/MethodHandle" ∧ y.cls ≠ "java/lang/invoke/VarHandle" ∧ (parseMethodDescriptor y.desc).map (fun d => d.parameters.length) = some n) (hR : fr' + 1 ≤ fr ∧ 8 + (maxL + 11) + lo' ≤ lo) (hC : CT G l E pv' ps' y bytes maxL rt fr' lo' (.ref (ad G k i) :: As) σ x) (hn : As.length = n) (hst : stk0 = As.reverse ++ .ref (ad G k i) :: stk) (hW : (stk.map fun v => v.category).sum ≤ 8) (hdg : decode cc pc = .ok (.invokespecial index, 3)) :
    RUN G X E pv' ps' nL σ ls stk0 stk pc (Value.ref (ad G k i) :: As).toArray x := by
  intro r' hx H locs la hH hS hl
  have hMM := hC r' hx
  rw [← hX.2.2.2.2.2.2.2.2.2.2] at hMM
  obtain ⟨C, hrc⟩ := hr
  obtain ⟨cC, hat⟩ := rc_at hX hrc
  have cb := z_cb (S' := S) (ρ' := ρ') hX hw hd hR
  have T := hX.2.2.2.2.1
  exact va_runSU (Ts := gw) hat ⟨hX.1, hX.2.1, hX.2.2.1, hX.2.2.2.1, T⟩ hMM ⟨⟨cb.1, cb.2.1, cb.2.2.1, cb.2.2.2.1, cb.2.2.2.2.1, cb.2.2.2.2.2.1⟩, T _ hw.1, T _ hsm, T _ hsu, T _ hi, T _ hw.2.2, T _ hw.2.1, hno, cb.2.2.2.2.2.2.2.2.2.1⟩ ⟨pre_blind, rc_cell hX hrc hH, fun U hU hWm => ⟨rfl, hX.2.2.2.2.2.2.2.1.call hS hU hWm, by rw [hU]; exact hH⟩⟩ rfl hn hl.1 hst (lv_room hW) hdg ⟨by rw [hX.2.2.2.2.2.2.2.2.2.1]; exact Nat.le_refl 0, by rw [hX.2.2.2.2.2.2.2.2.2.1]; exact Nat.le_refl 0⟩
theorem GoodIn.app {big a b : List Cond} (ha : ∀ w ∈ a, w ∈ big ∧ goodWord w = true) (hb : GoodIn big b) : GoodIn big (a ++ b) := fun w h => (List.mem_append.mp h).elim (fun h => ⟨(ha w h).1, good_of_word (ha w h).2⟩) (hb w)
theorem run_O {ρ' : Type} {pv' : ρ' → Option Value} {ps' : ρ' → S} {x : Option ρ'} (hX : OX G X l cc nL own ret fr lo) {k i : Nat} {C owner : String} (hr : RC G k i C) {xm y : MethodName} {bytes b0 : ByteArray} {maxL m0 fr' lo' index n pc : Nat} {rt r0 : Option FieldType} {As stk0 : List Value} (hlk : Cond.methodLink own index xm ∈ gw) (hsm : Cond.sameMethod xm.cls owner xm.name xm.desc ∈ gw) (hio : Cond.instanceMethod ⟨owner, xm.name, xm.desc⟩ ∈ gw) (hs : Cond.selects C xm y ∈ gw) (hi : Cond.instanceMethod y ∈ gw) (hini : Cond.initialized y.cls ∈ gw) (hcd : Cond.code y bytes maxL rt ∈ gw) (h0 : Cond.code ⟨owner, xm.name, xm.desc⟩ b0 m0 r0 ∈ gw)
    (hd : owner ≠ "java/lang/invoke/MethodHandle" ∧ owner ≠ "java/lang/invoke/VarHandle" ∧ (parseMethodDescriptor xm.desc).map (fun d => d.parameters.length) = some n) (hR : fr' + 1 ≤ fr ∧ 8 + (maxL + 11) + lo' ≤ lo) (hC : CT G l E pv' ps' y bytes maxL rt fr' lo' (.ref (ad G k i) :: As) σ x) (hn : As.length = n) (hst : stk0 = As.reverse ++ .ref (ad G k i) :: stk) (hW : (stk.map fun v => v.category).sum ≤ 8) (hdg : decode cc pc = .ok (.invokevirtual index, 3)) :
    RUN G X E pv' ps' nL σ ls stk0 stk pc (Value.ref (ad G k i) :: As).toArray x := by
  intro r' hx H locs la hH hS hl
  have hMM := hC r' hx
  rw [← hX.2.2.2.2.2.2.2.2.2.2] at hMM
  have T := hX.2.2.2.2.1
  have hG : GoodIn gw (va_wsO own index C owner xm y (.code y bytes maxL rt :: gw)) := by
    unfold va_wsO
    refine GoodIn.app ?_ (gw_code hcd)
    intro w hw
    simp only [List.mem_cons, List.not_mem_nil, or_false] at hw
    rcases hw with rfl | rfl | rfl | rfl | rfl | rfl
    · exact ⟨hlk, rfl⟩
    · exact ⟨hsm, rfl⟩
    · exact ⟨hio, rfl⟩
    · exact ⟨hs, rfl⟩
    · exact ⟨hi, rfl⟩
    · exact ⟨hini, rfl⟩
  exact va_runU (Ts := gw) ⟨hX.1, hX.2.1, hX.2.2.1, hX.2.2.2.1, T⟩ hMM (va_cwO n T hG rfl rfl rfl h0 hd (by rw [hX.2.2.2.2.2.2.2.2.2.1]; exact hR)) ⟨pre_blind, rc_cell hX hr hH, fun U hU hWm => ⟨rfl, hX.2.2.2.2.2.2.2.1.call hS hU hWm, by rw [hU]; exact hH⟩⟩ rfl hn hl.1 hst (lv_room hW) hdg ⟨by rw [hX.2.2.2.2.2.2.2.2.2.1]; exact Nat.le_refl 0, by rw [hX.2.2.2.2.2.2.2.2.2.1]; exact Nat.le_refl 0⟩
theorem run_SO {ρ' : Type} {pv' : ρ' → Option Value} {ps' : ρ' → S} {x : Option ρ'} (hX : OX G X l cc nL own ret fr lo) {k i : Nat} (hr : ∃ C, RC G k i C) {xm y : MethodName} {bytes : ByteArray} {maxL fr' lo' index n pc : Nat} {rt : Option FieldType} {As stk0 : List Value} (hlk : Cond.methodLink own index xm ∈ gw) (hcd : Cond.code y bytes maxL rt ∈ gw) (hini : Cond.initialized y.cls ∈ gw) (hi : Cond.instanceMethod y ∈ gw) (hsm : Cond.sameMethod xm.cls y.cls xm.name xm.desc ∈ gw) (hsu : Cond.superclass own xm.cls ∈ gw) (hsu2 : Cond.superclass xm.cls y.cls ∈ gw) (hyx : y = ⟨y.cls, xm.name, xm.desc⟩) (hno : xm.name ≠ "<init>")
    (hd : (parseMethodDescriptor y.desc).map (fun d => d.parameters.length) = some n) (hR : fr' + 1 ≤ fr ∧ 8 + (maxL + 11) + lo' ≤ lo) (hC : CT G l E pv' ps' y bytes maxL rt fr' lo' (.ref (ad G k i) :: As) σ x) (hn : As.length = n) (hst : stk0 = As.reverse ++ .ref (ad G k i) :: stk) (hW : (stk.map fun v => v.category).sum ≤ 8) (hdg : decode cc pc = .ok (.invokespecial index, 3)) :
    RUN G X E pv' ps' nL σ ls stk0 stk pc (Value.ref (ad G k i) :: As).toArray x := by
  intro r' hx H locs la hH hS hl
  have hMM := hC r' hx
  rw [← hX.2.2.2.2.2.2.2.2.2.2] at hMM
  obtain ⟨C, hrc⟩ := hr
  obtain ⟨cC, hat⟩ := rc_at hX hrc
  have TB := hX.2.2.2.2.1
  have hRf : X.R.frames = fr := by rw [hX.2.2.2.2.2.2.2.2.2.1]
  have hRl : X.R.locals = lo := by rw [hX.2.2.2.2.2.2.2.2.2.1]
  have hK : Back X.l X.R X.p X.e X.below X.s X.args y 3 8 (PreOf X.R 0 0 (va_Pc (.ref (ad G k i) :: As) (fun U => KS G U ∧ HP G (E σ) U.heap))) (PostOf (QZ G E (pv' r') (ps' r')) 0 0 (AB G)) :=
    back_of (bytes := bytes) (maxL := maxL) (ret := rt) hMM pre_blind rfl rfl (by rw [hRf]; exact hR.1) (by rw [hRl]; exact hR.2) (pay_in TB (gw_code hcd)) List.mem_cons_self (fun a' U hW => word_at hW (Or.inl (by first | rfl | simp [Cond.onTables, Cond.keeps, Cond.steady])) (TB _ hini))
  obtain ⟨cellB, hcB, hoB, hclB⟩ := rc_cell hX hrc hH
  obtain ⟨hfc, kB, hkB, -⟩ := hat
  cases hfc.symm.trans hclB
  obtain ⟨mk, methM, hnamed, hmethM, hstM, habM⟩ := Cond.instanceMethod_spec (TB _ hi)
  obtain ⟨methM', cM, hmethM', -, -, -, -, -, -, hsigM⟩ := Cond.code_spec hnamed (TB _ hcd)
  cases hmethM.symm.trans hmethM'
  obtain ⟨q1, dk, kp, hps, hdk, hkp, hsuper, -, -, hnid⟩ := Cond.superclass_spec hX.2.2.2.1 (TB _ hsu)
  obtain ⟨q2, dk2, kp2, hps2, hdk2, hkp2, hsuper2, -, -, -⟩ := Cond.superclass_spec hps (TB _ hsu2)
  have hnn : X.s.methodNamed? ⟨y.cls, xm.name, xm.desc⟩ = some mk := by rw [← hyx]; exact hnamed
  have hpm : q2 = mk.cls := Option.some.inj (hps2.symm.trans (findClass_of_methodNamed hnamed))
  have hsz : 0 < X.s.vm.classes.size := Nat.lt_of_le_of_lt (Nat.zero_le _) (Array.getElem?_eq_some_iff.mp hdk).1
  have hsub : X.s.vm.isSubclass q1 mk.cls = true := by
    obtain ⟨z, hz⟩ : ∃ z, X.s.vm.classes.size = z + 1 := ⟨X.s.vm.classes.size - 1, by omega⟩
    unfold Vm.isSubclass
    rw [hz]
    simp [Vm.isSubclassAux, hdk2, hsuper2, hpm]
  intro T hT Y
  obtain ⟨vm₁, X₁, hstep₁⟩ := Y.invokespecialUp hX.1 hX.2.2.2.1 (TB _ hlk) (TB _ hsm) hnn hmethM hstM habM hno hdk hnid hps hsuper hsub (a := ad G k i) (cell := cellB) (by rw [hT]; exact hcB)
    (fun z h => by rw [h] at hoB; cases hoB) hkB (g := F0 X.m pc la stk0) rfl (argsL := As) (rest := stk) (by
      have h2 := hd
      rw [hsigM] at h2
      exact hn.trans (Option.some.inj h2).symm) hst (by rw [hX.2.1]; exact hdg)
  obtain ⟨v, B, X', hpost, hsteps⟩ := hK X.m X.meth X.c ⟨T.setVm vm₁, locs, 0, 0⟩ { F0 X.m pc la stk0 with stack := stk } (.invokespecial index) mk (Value.ref (ad G k i) :: As).toArray X₁ rfl (hl.1.trans hX.2.2.1.symm) (by rw [hX.2.1]; exact hdg) (lv_room (m := X.m) (pc := pc) (ls := la) (rest := stk) hW) (X₁.named hnamed) ⟨Nat.zero_le _, Nat.zero_le _, rfl, hX.2.2.2.2.2.2.2.1.call hS hT X₁.warmed, by show HP G (E σ) T.heap; rw [hT]; exact hH⟩
  obtain ⟨U', l2, c2, s2⟩ := B
  obtain ⟨g', mk', t, L, e1, e2, hq, h1, hL, h2, h3⟩ := hpost
  dsimp only [Pt.U, Pt.locs, Pt.cells, Pt.slots] at X' e1 e2 h1 h2 h3 hsteps
  subst h1; subst h2; subst h3
  exact ⟨v, (T.setVm vm₁).calling g' mk' (Value.ref (ad G k i) :: As).toArray, t, U', L, hT, X', hL, e1, e2, hq, fun target h => hstep₁ _ (by rw [doInvoke_state]; exact hsteps.trans h)⟩
/-! text constants -/
theorem z_ldcs (hX : OX G X l cc nL "CrownTwo$CourtText" ret fr lo) {w pc : Nat} (hw : w < 5) (hd : decode cc pc = .ok (.ldc (sIdx w), 2)) (kk : ZR G X E pv ps nL σ ls (.ref (G.2.2.2.2.1 w) :: stk) (pc + 2) res) : ZR G X E pv ps nL σ ls stk pc res :=
  fun r hr H locs la hH hS hl => va_ldcS hX.1 hX.2.1 hX.2.2.2.1 (hX.2.2.2.2.2.2.2.1.2.2.1 w hw) hd (kk r hr H locs la hH hS hl)
theorem z_gsC (hX : OX G X l cc nL own ret fr lo) {index pc : Nat} (hq : Cond.fieldLink own index "java/lang/String" "COMPACT_STRINGS" "Z" ∈ gw) (hd : decode cc pc = .ok (.getstatic index, 3)) (kk : ZR G X E pv ps nL σ ls (.int 1 :: stk) (pc + 3) res) : ZR G X E pv ps nL σ ls stk pc res :=
  fun r hr H locs la hH hS hl => va_gets hX.1 hX.2.1 hX.2.2.2.2.2.2.2.1.2.2.2.1 hS hX.2.2.2.1 (hX.2.2.2.2.1 _ hq) (fun _ h => h) hd (kk r hr H locs la hH hS hl)
theorem z_gsF (hX : OX G X l cc nL own ret fr lo) {index pc : Nat} (hq : Cond.fieldLink own index "jdk/internal/util/Preconditions" "SIOOBE_FORMATTER" "Ljava/util/function/BiFunction;" ∈ gw) (hd : decode cc pc = .ok (.getstatic index, 3)) (kk : ∀ q : Option Nat, ZR G X E pv ps nL σ ls (va_rf q :: stk) (pc + 3) res) : ZR G X E pv ps nL σ ls stk pc res := by
  intro r hr H locs la hH hS hl
  rcases hX.2.2.2.2.2.2.2.1.2.2.2.2.1 with h | ⟨t, h⟩
  · exact va_gets hX.1 hX.2.1 h hS hX.2.2.2.1 (hX.2.2.2.2.1 _ hq) (fun _ h => h) hd (kk none r hr H locs la hH hS hl)
  · exact va_gets hX.1 hX.2.1 h hS hX.2.2.2.1 (hX.2.2.2.2.1 _ hq) (fun _ h => h) hd (kk (some t) r hr H locs la hH hS hl)
theorem z_scoder (hX : OX G X l cc nL own ret fr lo) {w index pc : Nat} (hw : w < 5) (hq : Cond.fieldLink own index "java/lang/String" "coder" "B" ∈ gw) (hd : decode cc pc = .ok (.getfield index, 3)) (kk : ZR G X E pv ps nL σ ls (.int 0 :: stk) (pc + 3) res) : ZR G X E pv ps nL σ ls (.ref (G.2.2.2.2.1 w) :: stk) pc res :=
  fun r hr H locs la hH hS hl => vk_getf hX.1 hX.2.1 (hX.2.2.2.2.2.2.2.1.2.1.1 w hw).2.1 hS hX.2.2.2.1 (hX.2.2.2.2.1 _ hq) (fun _ h => h) hd (kk r hr H locs la hH hS hl)
theorem z_sval (hX : OX G X l cc nL own ret fr lo) {w index pc : Nat} (hw : w < 5) (hq : Cond.fieldLink own index "java/lang/String" "value" "[B" ∈ gw) (hd : decode cc pc = .ok (.getfield index, 3)) (kk : ZR G X E pv ps nL σ ls (.ref (G.2.2.2.2.2 w) :: stk) (pc + 3) res) : ZR G X E pv ps nL σ ls (.ref (G.2.2.2.2.1 w) :: stk) pc res :=
  fun r hr H locs la hH hS hl => vk_getf hX.1 hX.2.1 (hX.2.2.2.2.2.2.2.1.2.1.1 w hw).2.2.1 hS hX.2.2.2.1 (hX.2.2.2.2.1 _ hq) (fun _ h => h) hd (kk r hr H locs la hH hS hl)
theorem z_salen (hX : OX G X l cc nL own ret fr lo) {w pc : Nat} (hw : w < 5) (hd : decode cc pc = .ok (.arraylength, 1)) (kk : ZR G X E pv ps nL σ ls (.int (nI (sLen.getD w 0)) :: stk) (pc + 1) res) : ZR G X E pv ps nL σ ls (.ref (G.2.2.2.2.2 w) :: stk) pc res :=
  fun r hr H locs la hH hS hl => va_tlen hX.1 hX.2.1 (hX.2.2.2.2.2.2.2.1.2.1.1 w hw).2.2.2 hS rfl hd (kk r hr H locs la hH hS hl)
theorem z_sbald (hX : OX G X l cc nL own ret fr lo) {w pc : Nat} {x : Int32} (hw : w < 5) (hd : decode cc pc = .ok (.baload, 1)) (kk : ZR G X E pv ps nL σ ls (.int ((sByt.getD w []).getD (ix x) 0) :: stk) (pc + 1) res) : ZR G X E pv ps nL σ ls (.int x :: .ref (G.2.2.2.2.2 w) :: stk) pc (if inb x (sLen.getD w 0) then res else none) := by
  intro r hr H locs la hH hS hl
  by_cases h : inb x (sLen.getD w 0)
  · rw [if_pos h] at hr
    exact va_tb hX.1 hX.2.1 (hX.2.2.2.2.2.2.2.1.2.1.1 w hw).2.2.2 hS (vp_in_iff.mpr h) rfl hd (kk r hr H locs la hH hS hl)
  · rw [if_neg h] at hr; cases hr
theorem z_i2c (hX : OX G X l cc nL own ret fr lo) {x : Int32} {pc : Nat} (hd : decode cc pc = .ok (.i2c, 1)) (kk : ZR G X E pv ps nL σ ls (.int ((x.toUInt32 % 65536).toInt32) :: stk) (pc + 1) res) : ZR G X E pv ps nL σ ls (.int x :: stk) pc res :=
  fun r hr H locs la hH hS hl => lv_i2c hX.1 hX.2.1 hd rfl (kk r hr H locs la hH hS hl)
abbrev isC (x : Int32) : Prop := (x.toUInt32 % 65536).toInt32 = x
theorem z_retPC (hX : OX G X l cc nL own (some .char) fr lo) {x : Int32} {pc : Nat} (hd : decode cc pc = .ok (.ireturn, 1)) : ZR G X E pvP (psP σ) nL σ ls [.int x] pc (if isC x then some x else none) := by
  intro r hr H locs la hH hS hl
  by_cases h : isC x
  · rw [if_pos h] at hr
    cases hr
    exact W.zret hX.1 hX.2.1 hX.2.2.2.2.2.1 (by rw [← h]; exact pk_nc x) (fun t ht hW => ⟨⟨rfl, by rw [ht]; exact hH⟩, hS.F ht⟩) hS.2.2 hd hX.2.2.2.2.2.2.1
  · rw [if_neg h] at hr; cases hr
theorem z_retPB (hX : OX G X l cc nL own (some .byte) fr lo) {x : Int32} {pc : Nat} (hd : decode cc pc = .ok (.ireturn, 1)) (h : narrow .byte (.int x) = .int x) : ZR G X E pvP (psP σ) nL σ ls [.int x] pc (some x) := by
  intro r hr H locs la hH hS hl
  cases hr
  exact W.zret hX.1 hX.2.1 hX.2.2.2.2.2.1 h (fun t ht hW => ⟨⟨rfl, by rw [ht]; exact hH⟩, hS.F ht⟩) hS.2.2 hd hX.2.2.2.2.2.2.1
theorem z_retN (hX : OX G X l cc nL own none fr lo) {pc : Nat} (hd : decode cc pc = .ok (.return_, 1)) : ZR G X E (fun _ : Unit => none) (psP σ) nL σ ls [] pc (some ()) := by
  intro r hr H locs la hH hS hl
  cases hr
  exact W.vret hX.1 hX.2.1 hX.2.2.2.2.2.1 (fun t ht hW => ⟨⟨rfl, by rw [ht]; exact hH⟩, hS.F ht⟩) hS.2.2 hd hX.2.2.2.2.2.2.1
def bN {ρ : Type} (x : Option Unit) (k : Option ρ) : Option ρ := x.bind (fun _ => k)
theorem z_rN {x : Option Unit} {k : Option ρ} {pc : Nat} {stk0 : List Value} {a : Array Value} (h : RUN G X E (fun _ : Unit => none) (psP σ) nL σ ls stk0 stk pc a x) (kk : ZR G X E pv ps nL σ ls stk (pc + 3) k) : ZR G X E pv ps nL σ ls stk0 pc (bN x k) := z_run h (fun _ => kk)
theorem rc_str (hX : OX G X l cc nL own ret fr lo) {w : Nat} (hw : w < 5) {H : Heap} {locs : List Loc} (hS : va_S (AB G) X.s.heap H locs) : ∃ cell : Cell, H[G.2.2.2.2.1 w]? = some cell ∧ cell.vm.isStatics = false ∧ X.s.vm.findClass "java/lang/String" = some cell.cls := vk_recv hX.2.2.2.2.2.2.2.1.2.1 hw hS
theorem run_VS {ρ' : Type} {pv' : ρ' → Option Value} {ps' : ρ' → S} {x : Option ρ'} (hX : OX G X l cc nL own ret fr lo) {w : Nat} (hw5 : w < 5) {y : MethodName} {bytes : ByteArray} {maxL fr' lo' index n pc : Nat} {rt : Option FieldType} {As stk0 : List Value} (hw : CW own index y bytes maxL rt) (hi : Cond.instanceMethod y ∈ gw) (hs : Cond.selects "java/lang/String" y y ∈ gw)
    (hd : y.cls ≠ "java/lang/invoke/MethodHandle" ∧ y.cls ≠ "java/lang/invoke/VarHandle" ∧ (parseMethodDescriptor y.desc).map (fun d => d.parameters.length) = some n) (hR : fr' + 1 ≤ fr ∧ 8 + (maxL + 11) + lo' ≤ lo) (hC : CT G l E pv' ps' y bytes maxL rt fr' lo' (.ref (G.2.2.2.2.1 w) :: As) σ x) (hn : As.length = n) (hst : stk0 = As.reverse ++ .ref (G.2.2.2.2.1 w) :: stk) (hW : (stk.map fun v => v.category).sum ≤ 8) (hdg : decode cc pc = .ok (.invokevirtual index, 3)) :
    RUN G X E pv' ps' nL σ ls stk0 stk pc (Value.ref (G.2.2.2.2.1 w) :: As).toArray x := by
  intro r' hx H locs la hH hS hl
  have hMM := hC r' hx
  rw [← hX.2.2.2.2.2.2.2.2.2.2] at hMM
  exact va_runV (Ts := gw) ⟨hX.1, hX.2.1, hX.2.2.1, hX.2.2.2.1, hX.2.2.2.2.1⟩ hMM ⟨z_cb (S' := S) (ρ' := ρ') hX hw hd hR, hX.2.2.2.2.1 _ hi, hX.2.2.2.2.1 _ hs⟩ ⟨pre_blind, rc_str hX hw5 hS, fun U hU hWm => ⟨rfl, hX.2.2.2.2.2.2.2.1.call hS hU hWm, by rw [hU]; exact hH⟩⟩ rfl hn hl.1 hst (lv_room hW) hdg ⟨by rw [hX.2.2.2.2.2.2.2.2.2.1]; exact Nat.le_refl 0, by rw [hX.2.2.2.2.2.2.2.2.2.1]; exact Nat.le_refl 0⟩
/-- way, 4 long, into bestWay -/
theorem z_copy {σ μ : Sto} {L : Lng} {ps : ρ → Sto} (hX : OX G X l cc nL own ret fr lo) {index pc : Nat} (hq : Cond.methodLink own index arraycopyName ∈ gw) (h1 : Cond.native arraycopyName ∈ gw) (h2 : Cond.static arraycopyName ∈ gw) (h3 : Cond.initialized "java/lang/System" ∈ gw) (hf : 1 ≤ fr) (hlo : (stk.map fun v => v.category).sum + (nativeFrameWords "java/lang/System" "arraycopy" 5 + 11) ≤ lo) (hd : decode cc pc = .ok (.invokestatic index, 3)) (kk : ZR G X (EC μ L) pv ps nL (str σ 15 0 (va_cpy (σ 14 0) (σ 15 0) 0 0 4)) ls stk (pc + 3) res) : ZR G X (EC μ L) pv ps nL σ ls (.int 4 :: .int 0 :: .ref (ad G 15 0) :: .int 0 :: .ref (ad G 14 0) :: stk) pc res := by
  intro r hr H locs la hH hS hl
  refine va_copyi (ty := .int) hX.1 hX.2.1 (hX.2.2.1.trans hl.1.symm) hX.2.2.2.1 (hX.2.2.2.2.1 _ hq) (hX.2.2.2.2.1 _ h1) (hX.2.2.2.2.1 _ h2) (hX.2.2.2.2.1 _ h3) hX.2.2.2.2.2.2.2.1.1 hH (WS_D hX.2.2.2.2.2.2.2.2.1 _ _) hS (plc 14 0) (plc 15 0) 0 0 (c0 := G.2.1 0) (c1 := G.2.1 0) (n0 := 4) (n1 := 4) (f := σ 14 0) (g := σ 15 0) (by rw [WS_get v_14]; rfl) (by rw [WS_get v_15]; rfl) rfl rfl rfl (by decide) (by decide) (by decide) (by decide) (by decide) (fun _ _ => rfl) (by rw [hX.2.2.2.2.2.2.2.2.2.1]; exact hf) (by rw [hX.2.2.2.2.2.2.2.2.2.1]; exact hlo) hd (fun H1 locs1 hP1 _ hS1 => ?_)
  refine kk r hr H1 locs1 la ?_ hS1 hl
  have e : (Sum.inl (G.2.1 0, 4, .inl (va_cpy (σ 14 0) (σ 15 0) (0 : Int32).toNatClampNeg (0 : Int32).toNatClampNeg (4 : Int32).toNatClampNeg)) : va_E) = cel G 15 0 (va_cpy (σ 14 0) (σ 15 0) 0 0 4) L := rfl
  have hP1 : va_P G.1 vwCl ((WS G (cmb σ μ) L).set (plc 15 0) (ad G 15 0, Sum.inl (G.2.1 0, 4, .inl (va_cpy (σ 14 0) (σ 15 0) (0 : Int32).toNatClampNeg (0 : Int32).toNatClampNeg (4 : Int32).toNatClampNeg)))) H1 := hP1
  rw [e, WS_set v_15, ← cmb_strC (by decide)] at hP1
  exact hP1
end ZSPEC
