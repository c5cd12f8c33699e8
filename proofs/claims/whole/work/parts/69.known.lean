/-! what holds at the law's entry -/
theorem tb_t1 {w : Cond} (n : Nat) (h : tables_1_1[n]? = some w) : w ∈ lw_tbl := List.mem_append_right _ (by unfold tables_1; exact List.mem_append_left _ (List.mem_of_getElem? h))
theorem tb_t2 {w : Cond} (n : Nat) (h : tables_1_2[n]? = some w) : w ∈ lw_tbl := List.mem_append_right _ (by unfold tables_1; exact List.mem_append_right _ (List.mem_append_left _ (List.mem_of_getElem? h)))
theorem tb_t3 {w : Cond} (n : Nat) (h : tables_1_3[n]? = some w) : w ∈ lw_tbl := List.mem_append_right _ (by unfold tables_1; exact List.mem_append_right _ (List.mem_append_right _ (List.mem_append_left _ (List.mem_of_getElem? h))))
theorem tb_t4 {w : Cond} (n : Nat) (h : tables_1_4[n]? = some w) : w ∈ lw_tbl := List.mem_append_right _ (by unfold tables_1; exact List.mem_append_right _ (List.mem_append_right _ (List.mem_append_right _ (List.mem_append_left _ (List.mem_of_getElem? h)))))
theorem tb_t5 {w : Cond} (n : Nat) (h : tables_1_5[n]? = some w) : w ∈ lw_tbl := List.mem_append_right _ (by unfold tables_1; exact List.mem_append_right _ (List.mem_append_right _ (List.mem_append_right _ (List.mem_append_right _ (List.mem_append_left _ (List.mem_of_getElem? h))))))
theorem tb_t6 {w : Cond} (n : Nat) (h : tables_1_6[n]? = some w) : w ∈ lw_tbl := List.mem_append_right _ (by unfold tables_1; exact List.mem_append_right _ (List.mem_append_right _ (List.mem_append_right _ (List.mem_append_right _ (List.mem_append_right _ (List.mem_of_getElem? h))))))
theorem gw_tbl {w : Cond} (h : w ∈ gw) : w ∈ lw_tbl := (List.mem_filter.mp h).1
theorem fl_ex : ∀ i, i < 5 → Cond.exactly (Term.string "CrownTwo$CourtText" (sIdx i)) "java/lang/String" ∈ flatC (Jvm.Cond.and given_1 narrow_1) := by decide +kernel
theorem fl_co : ∀ i, i < 5 → Cond.eq (.field (Term.string "CrownTwo$CourtText" (sIdx i)) "java/lang/String" "coder" "B") (.int 0) ∈ flatC (Jvm.Cond.and given_1 narrow_1) := by decide +kernel
theorem fl_ar : ∀ i, i < 5 → Cond.arrayOf (.field (Term.string "CrownTwo$CourtText" (sIdx i)) "java/lang/String" "value" "[B") .byte ∈ flatC (Jvm.Cond.and given_1 narrow_1) := by decide +kernel
theorem fl_le : ∀ i, i < 5 → Cond.eq (.length (.field (Term.string "CrownTwo$CourtText" (sIdx i)) "java/lang/String" "value" "[B")) (.int (Int32.ofNat (sLen.getD i 0))) ∈ flatC (Jvm.Cond.and given_1 narrow_1) := by decide +kernel
theorem fl_el : ∀ i, i < 5 → ∀ j, j < sLen.getD i 0 → Cond.eq (.elem (.field (Term.string "CrownTwo$CourtText" (sIdx i)) "java/lang/String" "value" "[B") (.int (Int32.ofNat j))) (.int ((sByt.getD i []).getD j 0)) ∈ flatC (Jvm.Cond.and given_1 narrow_1) := by decide +kernel
theorem fl_ne : ∀ i, i < 5 → ∀ j, j < 5 → i ≠ j → Cond.not (Cond.eq (Term.string "CrownTwo$CourtText" (sIdx i)) (Term.string "CrownTwo$CourtText" (sIdx j))) ∈ flatC (Jvm.Cond.and given_1 narrow_1) ∨ Cond.not (Cond.eq (Term.string "CrownTwo$CourtText" (sIdx j)) (Term.string "CrownTwo$CourtText" (sIdx i))) ∈ flatC (Jvm.Cond.and given_1 narrow_1) := by decide +kernel
theorem fl_cs : Cond.eq (.static "java/lang/String" "COMPACT_STRINGS" "Z") (.int 1) ∈ flatC (Jvm.Cond.and given_1 narrow_1) := by decide +kernel
theorem fl_sf : Cond.isRef (.static "jdk/internal/util/Preconditions" "SIOOBE_FORMATTER" "Ljava/util/function/BiFunction;") ∈ flatC (Jvm.Cond.and given_1 narrow_1) := by decide +kernel
theorem kn_class {b : Nat} {s : State} (hg : ∀ w ∈ gw, w.before #[Value.ref b] s = true) : ∀ k : Nat, ∃ r : ClassId × (Nat → Nat), ∀ q : vw_C, vwCl[k]? = some q → u_Kn s q.1 q.2.1 q.2.2 r.1 r.2
  | 0 => by
    obtain ⟨a, f, h⟩ := u_known (C := RX0) (T := TX0) (N := 8) (n := 8) hg inX0 (hg _ q_137)
    exact ⟨(a, f), fun q hq => by cases hq; exact h⟩
  | 1 => by
    obtain ⟨a, f, h⟩ := u_known (C := RX1) (T := TX1) (N := 6) (n := 6) hg inX1 (hg _ q_30)
    exact ⟨(a, f), fun q hq => by cases hq; exact h⟩
  | 2 => by
    obtain ⟨a, f, h⟩ := u_known (C := RX2) (T := TX2) (N := 0) (n := 0) hg (fun _ h => absurd h List.not_mem_nil) (hg _ q_130)
    exact ⟨(a, f), fun q hq => by cases hq; exact h⟩
  | 3 => by
    obtain ⟨a, f, h⟩ := u_known (C := RX3) (T := TX3) (N := 4) (n := 4) hg inX3 (hg _ q_148)
    exact ⟨(a, f), fun q hq => by cases hq; exact h⟩
  | 4 => by
    obtain ⟨a, f, h⟩ := u_known (C := RX4) (T := TX4) (N := 0) (n := 0) hg (fun _ h => absurd h List.not_mem_nil) (hg _ q_109)
    exact ⟨(a, f), fun q hq => by cases hq; exact h⟩
  | 5 => by
    obtain ⟨a, f, h⟩ := u_known (C := RX5) (T := TX5) (N := 5) (n := 5) hg inX5 (hg _ q_59)
    exact ⟨(a, f), fun q hq => by cases hq; exact h⟩
  | 6 => by
    obtain ⟨a, f, h⟩ := u_known (C := RX6) (T := TX6) (N := 5) (n := 5) hg inX6 (hg _ q_174)
    exact ⟨(a, f), fun q hq => by cases hq; exact h⟩
  | 7 => by
    obtain ⟨a, f, h⟩ := u_known (C := RX7) (T := TX7) (N := 0) (n := 0) hg (fun _ h => absurd h List.not_mem_nil) (hg _ q_95)
    exact ⟨(a, f), fun q hq => by cases hq; exact h⟩
  | 8 => by
    obtain ⟨a, f, h⟩ := u_known (C := RX8) (T := TX8) (N := 0) (n := 0) hg (fun _ h => absurd h List.not_mem_nil) (hg _ q_116)
    exact ⟨(a, f), fun q hq => by cases hq; exact h⟩
  | 9 => by
    obtain ⟨a, f, h⟩ := u_known (C := RX9) (T := TX9) (N := 0) (n := 0) hg (fun _ h => absurd h List.not_mem_nil) (hg _ q_102)
    exact ⟨(a, f), fun q hq => by cases hq; exact h⟩
  | 10 => by
    obtain ⟨a, f, h⟩ := u_known (C := RX10) (T := TX10) (N := 0) (n := 0) hg (fun _ h => absurd h List.not_mem_nil) (hg _ q_123)
    exact ⟨(a, f), fun q hq => by cases hq; exact h⟩
  | 11 => by
    obtain ⟨a, f, h⟩ := u_known (C := RX11) (T := TX11) (N := 15) (n := 15) hg inX11 (hg _ q_22)
    exact ⟨(a, f), fun q hq => by cases hq; exact h⟩
  | 12 => by
    obtain ⟨a, f, h⟩ := u_known (C := RX12) (T := TX12) (N := 36) (n := 36) hg inX12 (hg _ q_803)
    exact ⟨(a, f), fun q hq => by cases hq; exact h⟩
  | k + 13 => ⟨(0, fun _ => 0), fun q hq => by simp [vwCl] at hq⟩
def kn_A (s : State) (t : Nat) (cA : ClassId) : Prop := ∀ ty : FieldType, [FieldType.int, .boolean, .object "CrownTwo$Plain", .object "CrownTwo$Heir", .object "CrownTwo$Note", .object "CrownTwo$Moment", .object "CrownTwo$Court"][t]? = some ty → ArrOfT s cA ty ∧ va_RA s cA ty
theorem kn_prim {b : Nat} {s : State} {ty : FieldType} (h : (Cond.arrayClass ty).before #[Value.ref b] s = true) (hr : ∀ cA : ClassId, s.vm.findClass ("[" ++ ty.toString) = some cA → va_RA s cA ty) : ∃ cA, ArrOfT s cA ty ∧ va_RA s cA ty := by
  obtain ⟨c, k, comp, h1, h2, h3⟩ := Cond.arrayClass_spec h
  exact ⟨c, fun N z => ⟨(fun k h => by cases h), k, h2, comp, h3⟩, hr c h1⟩
theorem kn_obj {s : State} {C : String} (h : va_AO C s) : ∃ cA, ArrOfT s cA (.object C) ∧ va_RA s cA (.object C) := by
  obtain ⟨comp, c, k, h1, h2, h3, h4, h5⟩ := Cond.arrayOver_spec h
  exact ⟨c, fun N z => ⟨(fun k h => by cases h), k, h3, comp, h4⟩, k, comp, h3, h4, h1, h5⟩
theorem kn_arr {b : Nat} {s : State} (hg : ∀ w ∈ gw, w.before #[Value.ref b] s = true) (ha : ∀ C ∈ plk, va_AO C s) : ∀ t : Nat, ∃ cA : ClassId, kn_A s t cA
  | 0 => by
    obtain ⟨c, h⟩ := kn_prim (hg _ q_57) (fun _ q => q)
    exact ⟨c, fun ty q => by cases q; exact h⟩
  | 1 => by
    obtain ⟨c, h⟩ := kn_prim (hg _ q_56) (fun _ q => q)
    exact ⟨c, fun ty q => by cases q; exact h⟩
  | 2 => by
    obtain ⟨c, h⟩ := kn_obj (ha "CrownTwo$Plain" (by decide))
    exact ⟨c, fun ty q => by cases q; exact h⟩
  | 3 => by
    obtain ⟨c, h⟩ := kn_obj (ha "CrownTwo$Heir" (by decide))
    exact ⟨c, fun ty q => by cases q; exact h⟩
  | 4 => by
    obtain ⟨c, h⟩ := kn_obj (ha "CrownTwo$Note" (by decide))
    exact ⟨c, fun ty q => by cases q; exact h⟩
  | 5 => by
    obtain ⟨c, h⟩ := kn_obj (ha "CrownTwo$Moment" (by decide))
    exact ⟨c, fun ty q => by cases q; exact h⟩
  | 6 => by
    obtain ⟨c, h⟩ := kn_obj (ha "CrownTwo$Court" (by decide))
    exact ⟨c, fun ty q => by cases q; exact h⟩
  | t + 7 => ⟨0, fun ty q => by simp at q⟩
theorem start_known {s : State} {b : Nat} (hts : ∀ w ∈ lw_tbl, w.before #[Value.ref b] s = true) (hgv : (Jvm.Cond.and given_1 narrow_1).before #[Value.ref b] s = true) : ∃ D cid sK sV, KB (mkG D cid s.heap.size sK sV) s := by
  have hg : ∀ w ∈ gw, w.before #[Value.ref b] s = true := fun w h => hts w (gw_tbl h)
  have hs := flat_of_before _ hgv
  have hA : ∀ a : Nat, a < s.heap.size → ¬ (fun q : Nat => s.heap.size ≤ q) a := fun a h q => absurd h (Nat.not_lt.mpr q)
  have hao : ∀ C ∈ plk, va_AO C s := List.forall_mem_cons.mpr ⟨va_AO.of (hts _ (tb_t1 94 rfl)), List.forall_mem_cons.mpr ⟨va_AO.of (hts _ (tb_t1 143 rfl)), List.forall_mem_cons.mpr ⟨va_AO.of (hts _ (tb_t1 145 rfl)), List.forall_mem_cons.mpr ⟨va_AO.of (hts _ (tb_t1 92 rfl)), List.forall_mem_cons.mpr ⟨va_AO.of (hts _ (tb_t1 234 rfl)), fun _ h => absurd h List.not_mem_nil⟩⟩⟩⟩⟩
  have hcs : ∀ C ∈ pls, va_Nw (.castable C "CrownTwo$Plain") s := List.forall_mem_cons.mpr ⟨va_Nw.of rfl (hts _ (tb_t6 73 rfl)), List.forall_mem_cons.mpr ⟨va_Nw.of rfl (hts _ (tb_t6 74 rfl)), List.forall_mem_cons.mpr ⟨va_Nw.of rfl (hts _ (tb_t6 75 rfl)), List.forall_mem_cons.mpr ⟨va_Nw.of rfl (hts _ (tb_t6 76 rfl)), List.forall_mem_cons.mpr ⟨va_Nw.of rfl (hts _ (tb_t6 77 rfl)), fun _ h => absurd h List.not_mem_nil⟩⟩⟩⟩⟩
  have hnl : ∀ q ∈ nls, va_Nw (.methodLinkNest q.1 q.2.1 q.2.2 "CrownTwo") s := List.forall_mem_cons.mpr ⟨va_Nw.of rfl (hts _ (tb_t1 31 rfl)), List.forall_mem_cons.mpr ⟨va_Nw.of rfl (hts _ (tb_t1 60 rfl)), List.forall_mem_cons.mpr ⟨va_Nw.of rfl (hts _ (tb_t1 96 rfl)), List.forall_mem_cons.mpr ⟨va_Nw.of rfl (hts _ (tb_t1 103 rfl)), List.forall_mem_cons.mpr ⟨va_Nw.of rfl (hts _ (tb_t1 106 rfl)), List.forall_mem_cons.mpr ⟨va_Nw.of rfl (hts _ (tb_t1 110 rfl)), List.forall_mem_cons.mpr ⟨va_Nw.of rfl (hts _ (tb_t1 113 rfl)), List.forall_mem_cons.mpr ⟨va_Nw.of rfl (hts _ (tb_t1 117 rfl)), List.forall_mem_cons.mpr ⟨va_Nw.of rfl (hts _ (tb_t1 120 rfl)), List.forall_mem_cons.mpr ⟨va_Nw.of rfl (hts _ (tb_t1 124 rfl)), List.forall_mem_cons.mpr ⟨va_Nw.of rfl (hts _ (tb_t1 127 rfl)), List.forall_mem_cons.mpr ⟨va_Nw.of rfl (hts _ (tb_t1 131 rfl)), List.forall_mem_cons.mpr ⟨va_Nw.of rfl (hts _ (tb_t1 134 rfl)), List.forall_mem_cons.mpr ⟨va_Nw.of rfl (hts _ (tb_t1 147 rfl)), List.forall_mem_cons.mpr ⟨va_Nw.of rfl (hts _ (tb_t1 149 rfl)), List.forall_mem_cons.mpr ⟨va_Nw.of rfl (hts _ (tb_t1 175 rfl)), fun _ h => absurd h List.not_mem_nil⟩⟩⟩⟩⟩⟩⟩⟩⟩⟩⟩⟩⟩⟩⟩⟩
  obtain ⟨sK, sV, hS, hK⟩ := vk_Sof (N := 5) (tm := fun i => (Term.string "CrownTwo$CourtText" (sIdx i))) (len := sLen) (byt := sByt) (A := fun q : Nat => s.heap.size ≤ q) (by decide +kernel) (fun i hi => hs _ (fl_ex i hi)) (fun i hi => hs _ (fl_co i hi)) (fun i hi => hs _ (fl_ar i hi)) (fun i hi => hs _ (fl_le i hi)) (fun i hi j hj => hs _ (fl_el i hi j hj)) (fun i j hi hj hn => (fl_ne i hi j hj hn).imp (hs _) (hs _)) hA
  have hsr : ∀ i, i < 5 → (Cond.stringRef "CrownTwo$CourtText" (sIdx i) (sTxt i)).before #[Value.ref b] s = true := by
    intro i hi
    rcases (show i = 0 ∨ i = 1 ∨ i = 2 ∨ i = 3 ∨ i = 4 by omega) with rfl | rfl | rfl | rfl | rfl
    · exact hts _ (tb_t2 108 rfl)
    · exact hts _ (tb_t2 174 rfl)
    · exact hts _ (tb_t2 180 rfl)
    · exact hts _ (tb_t2 189 rfl)
    · exact hts _ (tb_t2 190 rfl)
  have hc := kn_class hg
  have ha := kn_arr hg hao
  refine ⟨(fun k => (Classical.choose (hc k)).1, fun k => (Classical.choose (hc k)).2), fun t => Classical.choose (ha t), sK, sV, ⟨⟨fun k q hq => Classical.choose_spec (hc k) q hq, fun k q hq => ?_⟩, hS, fun i hi => vk_R.of (hsr i hi) (hK i hi), va_Zof (hts _ (tb_t2 122 rfl)) (hg _ q_14) (va_eqt (hs _ fl_cs)) hA, va_Zqof (hts _ (tb_t2 138 rfl)) (hg _ q_16) (hs _ fl_sf) hA, Nat.le_refl _⟩, hao, hcs, hnl⟩
  match k, hq with
  | 0, hq => cases hq; exact Classical.choose_spec (ha 0) _ rfl
  | 1, hq => cases hq; exact Classical.choose_spec (ha 1) _ rfl
  | 2, hq => cases hq; exact Classical.choose_spec (ha 2) _ rfl
  | 3, hq => cases hq; exact Classical.choose_spec (ha 3) _ rfl
  | 4, hq => cases hq; exact Classical.choose_spec (ha 4) _ rfl
  | 5, hq => cases hq; exact Classical.choose_spec (ha 5) _ rfl
  | 6, hq => cases hq; exact Classical.choose_spec (ha 6) _ rfl
  | k + 7, hq => simp [tys] at hq
