def RX0 : String := "CrownTwo$Court"
def TX0 : u_T := fun k => match k with
  | 0 => ("CrownTwo$Court", "kinds", "[LCrownTwo$Plain;", true)
  | 1 => ("CrownTwo$Court", "heirs", "[LCrownTwo$Heir;", true)
  | 2 => ("CrownTwo$Court", "notes", "[LCrownTwo$Note;", true)
  | 3 => ("CrownTwo$Court", "past", "[LCrownTwo$Moment;", true)
  | 4 => ("CrownTwo$Court", "now", "LCrownTwo$Moment;", true)
  | 5 => ("CrownTwo$Court", "heirCount", "I", false)
  | 6 => ("CrownTwo$Court", "noteCount", "I", false)
  | _ => ("CrownTwo$Court", "pastCount", "I", false)
def tyX0 : Nat → FieldType := fun k => match k with
  | 0 => .array (.object "CrownTwo$Plain")
  | 1 => .array (.object "CrownTwo$Heir")
  | 2 => .array (.object "CrownTwo$Note")
  | 3 => .array (.object "CrownTwo$Moment")
  | 4 => .object "CrownTwo$Moment"
  | 5 => .int
  | 6 => .int
  | _ => .int
theorem nmX0 : ∀ a, a < 8 → ∀ b, b < 8 → a ≠ b → (TX0 a).2.1 ≠ (TX0 b).2.1 := by decide +kernel
theorem tyX0_ok : ∀ k, k < 8 → parseFieldDescriptor (TX0 k).2.2.1 = some (tyX0 k) := by decide +kernel
abbrev cX0_init : ByteArray := prog_2_method_1_code
def yX0_init : MethodName := ⟨RX0, "<init>", "([LCrownTwo$Plain;)V"⟩
abbrev cX0_begin : ByteArray := prog_2_method_2_code
def yX0_begin : MethodName := ⟨RX0, "begin", "(I)V"⟩
abbrev cX0_become : ByteArray := prog_2_method_3_code
def yX0_become : MethodName := ⟨RX0, "become", "(LCrownTwo$Court;)V"⟩
abbrev cX0_has : ByteArray := prog_2_method_4_code
def yX0_has : MethodName := ⟨RX0, "has", "(I)Z"⟩
abbrev cX0_hasTwo : ByteArray := prog_2_method_5_code
def yX0_hasTwo : MethodName := ⟨RX0, "hasTwo", "(II)Z"⟩
abbrev cX0_paired : ByteArray := prog_2_method_6_code
def yX0_paired : MethodName := ⟨RX0, "paired", "(LCrownTwo$Moment;)Z"⟩
abbrev cX0_admit : ByteArray := prog_2_method_7_code
/-- a method of Court whose name a hand-in's text may not spell: as the tables name it -/
def yX0_admit : MethodName := match (tables_1_2[68]? : Option Cond) with
  | some (Cond.methodLink _ _ y) => y
  | _ => ⟨"", "", ""⟩
abbrev cX0_remember : ByteArray := prog_2_method_8_code
def yX0_remember : MethodName := ⟨RX0, "remember", "()V"⟩
abbrev cX0_forgetOldest : ByteArray := prog_2_method_9_code
def yX0_forgetOldest : MethodName := ⟨RX0, "forgetOldest", "()V"⟩
abbrev cX0_goBack : ByteArray := prog_2_method_10_code
def yX0_goBack : MethodName := ⟨RX0, "goBack", "()V"⟩
abbrev cX0_addedBy : ByteArray := prog_2_method_11_code
def yX0_addedBy : MethodName := ⟨RX0, "addedBy", "(I)I"⟩
abbrev cX0_changeBy : ByteArray := prog_2_method_12_code
def yX0_changeBy : MethodName := ⟨RX0, "changeBy", "(II)I"⟩
abbrev cX0_changeInADay : ByteArray := prog_2_method_13_code
def yX0_changeInADay : MethodName := ⟨RX0, "changeInADay", "(LCrownTwo$Moment;)I"⟩
abbrev cX0_passDays : ByteArray := prog_2_method_14_code
def yX0_passDays : MethodName := ⟨RX0, "passDays", "(LCrownTwo$Moment;I)V"⟩
abbrev cX0_lifts : ByteArray := prog_2_method_15_code
def yX0_lifts : MethodName := ⟨RX0, "lifts", "(IIIII)Z"⟩
abbrev cX0_liftersIn : ByteArray := prog_2_method_16_code
def yX0_liftersIn : MethodName := ⟨RX0, "liftersIn", "(LCrownTwo$Moment;I)I"⟩
abbrev cX0_actsOfBoth : ByteArray := prog_2_method_17_code
def yX0_actsOfBoth : MethodName := ⟨RX0, "actsOfBoth", "(LCrownTwo$Moment;)I"⟩
abbrev cX0_askIn : ByteArray := prog_2_method_18_code
def yX0_askIn : MethodName := ⟨RX0, "askIn", "(LCrownTwo$Moment;I)I"⟩
abbrev cX0_kindsThatLift : ByteArray := prog_2_method_19_code
def yX0_kindsThatLift : MethodName := ⟨RX0, "kindsThatLift", "(II)I"⟩
abbrev cX0_fits : ByteArray := prog_2_method_20_code
def yX0_fits : MethodName := ⟨RX0, "fits", "(II)Z"⟩
def RX1 : String := "CrownTwo$CourtText"
def TX1 : u_T := fun k => match k with
  | 0 => ("CrownTwo$CourtText", "bytes", "[I", true)
  | 1 => ("CrownTwo$CourtText", "length", "I", false)
  | 2 => ("CrownTwo$CourtText", "place", "I", false)
  | 3 => ("CrownTwo$CourtText", "behind", "I", false)
  | 4 => ("CrownTwo$CourtText", "sort", "I", false)
  | _ => ("CrownTwo$CourtText", "number", "I", false)
def tyX1 : Nat → FieldType := fun k => match k with
  | 0 => .array .int
  | 1 => .int
  | 2 => .int
  | 3 => .int
  | 4 => .int
  | _ => .int
theorem nmX1 : ∀ a, a < 6 → ∀ b, b < 6 → a ≠ b → (TX1 a).2.1 ≠ (TX1 b).2.1 := by decide +kernel
theorem tyX1_ok : ∀ k, k < 6 → parseFieldDescriptor (TX1 k).2.2.1 = some (tyX1 k) := by decide +kernel
abbrev cX1_init : ByteArray := prog_3_method_1_code
def yX1_init : MethodName := ⟨RX1, "<init>", "()V"⟩
abbrev cX1_append : ByteArray := prog_3_method_2_code
def yX1_append : MethodName := ⟨RX1, "append", "(I)V"⟩
abbrev cX1_parseInto : ByteArray := prog_3_method_3_code
def yX1_parseInto : MethodName := ⟨RX1, "parseInto", "(LCrownTwo$Court;)I"⟩
abbrev cX1_courtItem : ByteArray := prog_3_method_4_code
def yX1_courtItem : MethodName := ⟨RX1, "courtItem", "(LCrownTwo$Court;)Z"⟩
abbrev cX1_laterItem : ByteArray := prog_3_method_5_code
def yX1_laterItem : MethodName := ⟨RX1, "laterItem", "(LCrownTwo$Court;)Z"⟩
abbrev cX1_heirItem : ByteArray := prog_3_method_6_code
def yX1_heirItem : MethodName := ⟨RX1, "heirItem", "(LCrownTwo$Court;)Z"⟩
abbrev cX1_heartItem : ByteArray := prog_3_method_7_code
def yX1_heartItem : MethodName := ⟨RX1, "heartItem", "(LCrownTwo$Court;Z)Z"⟩
abbrev cX1_pairItem : ByteArray := prog_3_method_8_code
def yX1_pairItem : MethodName := ⟨RX1, "pairItem", "(LCrownTwo$Court;)Z"⟩
abbrev cX1_takeNumber : ByteArray := prog_3_method_9_code
def yX1_takeNumber : MethodName := ⟨RX1, "takeNumber", "(II)I"⟩
abbrev cX1_takeEnding : ByteArray := prog_3_method_10_code
def yX1_takeEnding : MethodName := ⟨RX1, "takeEnding", "()Z"⟩
abbrev cX1_isWord : ByteArray := prog_3_method_11_code
def yX1_isWord : MethodName := ⟨RX1, "isWord", "(Ljava/lang/String;)Z"⟩
abbrev cX1_advance : ByteArray := prog_3_method_12_code
def yX1_advance : MethodName := ⟨RX1, "advance", "()V"⟩
abbrev cX1_sortAt : ByteArray := prog_3_method_13_code
def yX1_sortAt : MethodName := ⟨RX1, "sortAt", "(I)I"⟩
def RX2 : String := "CrownTwo$Forgiver"
def TX2 : u_T := fun k => match k with
  | _ => ("", "", "", false)
def tyX2 : Nat → FieldType := fun k => match k with
  | _ => .int
theorem nmX2 : ∀ a, a < 0 → ∀ b, b < 0 → a ≠ b → (TX2 a).2.1 ≠ (TX2 b).2.1 := by decide +kernel
theorem tyX2_ok : ∀ k, k < 0 → parseFieldDescriptor (TX2 k).2.2.1 = some (tyX2 k) := by decide +kernel
abbrev cX2_init : ByteArray := prog_4_method_1_code
def yX2_init : MethodName := ⟨RX2, "<init>", "()V"⟩
abbrev cX2_lifts : ByteArray := prog_4_method_2_code
def yX2_lifts : MethodName := ⟨RX2, "lifts", "(ZZII)Z"⟩
abbrev cX2_adds : ByteArray := prog_4_method_3_code
def yX2_adds : MethodName := ⟨RX2, "adds", "(I)I"⟩
def RX3 : String := "CrownTwo$Heir"
def TX3 : u_T := fun k => match k with
  | 0 => ("CrownTwo$Heir", "kind", "I", false)
  | 1 => ("CrownTwo$Heir", "likes", "I", false)
  | 2 => ("CrownTwo$Heir", "hates", "I", false)
  | _ => ("CrownTwo$Heir", "temper", "I", false)
def tyX3 : Nat → FieldType := fun k => match k with
  | 0 => .int
  | 1 => .int
  | 2 => .int
  | _ => .int
theorem nmX3 : ∀ a, a < 4 → ∀ b, b < 4 → a ≠ b → (TX3 a).2.1 ≠ (TX3 b).2.1 := by decide +kernel
theorem tyX3_ok : ∀ k, k < 4 → parseFieldDescriptor (TX3 k).2.2.1 = some (tyX3 k) := by decide +kernel
abbrev cX3_init : ByteArray := prog_5_method_1_code
def yX3_init : MethodName := ⟨RX3, "<init>", "()V"⟩
abbrev cX3_put : ByteArray := prog_5_method_2_code
def yX3_put : MethodName := ⟨RX3, "put", "(IIII)V"⟩
abbrev cX3_feel : ByteArray := prog_5_method_3_code
def yX3_feel : MethodName := ⟨RX3, "feel", "(II)V"⟩
abbrev cX3_become : ByteArray := prog_5_method_4_code
def yX3_become : MethodName := ⟨RX3, "become", "(LCrownTwo$Heir;)V"⟩
abbrev cX3_likesAlone : ByteArray := prog_5_method_5_code
def yX3_likesAlone : MethodName := ⟨RX3, "likesAlone", "(I)Z"⟩
abbrev cX3_hatesAlone : ByteArray := prog_5_method_6_code
def yX3_hatesAlone : MethodName := ⟨RX3, "hatesAlone", "(I)Z"⟩
abbrev cX3_addTo : ByteArray := prog_5_method_7_code
def yX3_addTo : MethodName := ⟨RX3, "addTo", "(J)J"⟩
def RX4 : String := "CrownTwo$Joker"
def TX4 : u_T := fun k => match k with
  | _ => ("", "", "", false)
def tyX4 : Nat → FieldType := fun k => match k with
  | _ => .int
theorem nmX4 : ∀ a, a < 0 → ∀ b, b < 0 → a ≠ b → (TX4 a).2.1 ≠ (TX4 b).2.1 := by decide +kernel
theorem tyX4_ok : ∀ k, k < 0 → parseFieldDescriptor (TX4 k).2.2.1 = some (tyX4 k) := by decide +kernel
abbrev cX4_init : ByteArray := prog_6_method_1_code
def yX4_init : MethodName := ⟨RX4, "<init>", "()V"⟩
abbrev cX4_adds : ByteArray := prog_6_method_2_code
def yX4_adds : MethodName := ⟨RX4, "adds", "(I)I"⟩
def RX5 : String := "CrownTwo$Moment"
def TX5 : u_T := fun k => match k with
  | 0 => ("CrownTwo$Moment", "warmth", "I", false)
  | 1 => ("CrownTwo$Moment", "date", "I", false)
  | 2 => ("CrownTwo$Moment", "done", "I", false)
  | 3 => ("CrownTwo$Moment", "first", "I", false)
  | _ => ("CrownTwo$Moment", "second", "I", false)
def tyX5 : Nat → FieldType := fun k => match k with
  | 0 => .int
  | 1 => .int
  | 2 => .int
  | 3 => .int
  | _ => .int
theorem nmX5 : ∀ a, a < 5 → ∀ b, b < 5 → a ≠ b → (TX5 a).2.1 ≠ (TX5 b).2.1 := by decide +kernel
theorem tyX5_ok : ∀ k, k < 5 → parseFieldDescriptor (TX5 k).2.2.1 = some (tyX5 k) := by decide +kernel
abbrev cX5_init : ByteArray := prog_7_method_1_code
def yX5_init : MethodName := ⟨RX5, "<init>", "()V"⟩
abbrev cX5_begin : ByteArray := prog_7_method_2_code
def yX5_begin : MethodName := ⟨RX5, "begin", "(I)V"⟩
abbrev cX5_become : ByteArray := prog_7_method_3_code
def yX5_become : MethodName := ⟨RX5, "become", "(LCrownTwo$Moment;)V"⟩
abbrev cX5_warm : ByteArray := prog_7_method_4_code
def yX5_warm : MethodName := ⟨RX5, "warm", "(I)V"⟩
abbrev cX5_pass : ByteArray := prog_7_method_5_code
def yX5_pass : MethodName := ⟨RX5, "pass", "(II)V"⟩
abbrev cX5_friendly : ByteArray := prog_7_method_6_code
def yX5_friendly : MethodName := ⟨RX5, "friendly", "()Z"⟩
abbrev cX5_isDone : ByteArray := prog_7_method_7_code
def yX5_isDone : MethodName := ⟨RX5, "isDone", "(I)Z"⟩
abbrev cX5_sideOf : ByteArray := prog_7_method_8_code
def yX5_sideOf : MethodName := ⟨RX5, "sideOf", "(I)I"⟩
def RX6 : String := "CrownTwo$Note"
def TX6 : u_T := fun k => match k with
  | 0 => ("CrownTwo$Note", "heir", "I", false)
  | 1 => ("CrownTwo$Note", "act", "I", false)
  | 2 => ("CrownTwo$Note", "warmth", "I", false)
  | 3 => ("CrownTwo$Note", "date", "I", false)
  | _ => ("CrownTwo$Note", "lifted", "I", false)
def tyX6 : Nat → FieldType := fun k => match k with
  | 0 => .int
  | 1 => .int
  | 2 => .int
  | 3 => .int
  | _ => .int
theorem nmX6 : ∀ a, a < 5 → ∀ b, b < 5 → a ≠ b → (TX6 a).2.1 ≠ (TX6 b).2.1 := by decide +kernel
theorem tyX6_ok : ∀ k, k < 5 → parseFieldDescriptor (TX6 k).2.2.1 = some (tyX6 k) := by decide +kernel
abbrev cX6_init : ByteArray := prog_8_method_1_code
def yX6_init : MethodName := ⟨RX6, "<init>", "()V"⟩
abbrev cX6_put : ByteArray := prog_8_method_2_code
def yX6_put : MethodName := ⟨RX6, "put", "(IIIII)V"⟩
abbrev cX6_become : ByteArray := prog_8_method_3_code
def yX6_become : MethodName := ⟨RX6, "become", "(LCrownTwo$Note;)V"⟩
abbrev cX6_addTo : ByteArray := prog_8_method_4_code
def yX6_addTo : MethodName := ⟨RX6, "addTo", "(J)J"⟩
def RX7 : String := "CrownTwo$Plain"
def TX7 : u_T := fun k => match k with
  | _ => ("", "", "", false)
def tyX7 : Nat → FieldType := fun k => match k with
  | _ => .int
theorem nmX7 : ∀ a, a < 0 → ∀ b, b < 0 → a ≠ b → (TX7 a).2.1 ≠ (TX7 b).2.1 := by decide +kernel
theorem tyX7_ok : ∀ k, k < 0 → parseFieldDescriptor (TX7 k).2.2.1 = some (tyX7 k) := by decide +kernel
abbrev cX7_init : ByteArray := prog_9_method_1_code
def yX7_init : MethodName := ⟨RX7, "<init>", "()V"⟩
abbrev cX7_lifts : ByteArray := prog_9_method_2_code
def yX7_lifts : MethodName := ⟨RX7, "lifts", "(ZZII)Z"⟩
abbrev cX7_adds : ByteArray := prog_9_method_3_code
def yX7_adds : MethodName := ⟨RX7, "adds", "(I)I"⟩
def RX8 : String := "CrownTwo$Proud"
def TX8 : u_T := fun k => match k with
  | _ => ("", "", "", false)
def tyX8 : Nat → FieldType := fun k => match k with
  | _ => .int
theorem nmX8 : ∀ a, a < 0 → ∀ b, b < 0 → a ≠ b → (TX8 a).2.1 ≠ (TX8 b).2.1 := by decide +kernel
theorem tyX8_ok : ∀ k, k < 0 → parseFieldDescriptor (TX8 k).2.2.1 = some (tyX8 k) := by decide +kernel
abbrev cX8_init : ByteArray := prog_10_method_1_code
def yX8_init : MethodName := ⟨RX8, "<init>", "()V"⟩
abbrev cX8_lifts : ByteArray := prog_10_method_2_code
def yX8_lifts : MethodName := ⟨RX8, "lifts", "(ZZII)Z"⟩
def RX9 : String := "CrownTwo$Sulky"
def TX9 : u_T := fun k => match k with
  | _ => ("", "", "", false)
def tyX9 : Nat → FieldType := fun k => match k with
  | _ => .int
theorem nmX9 : ∀ a, a < 0 → ∀ b, b < 0 → a ≠ b → (TX9 a).2.1 ≠ (TX9 b).2.1 := by decide +kernel
theorem tyX9_ok : ∀ k, k < 0 → parseFieldDescriptor (TX9 k).2.2.1 = some (tyX9 k) := by decide +kernel
abbrev cX9_init : ByteArray := prog_11_method_1_code
def yX9_init : MethodName := ⟨RX9, "<init>", "()V"⟩
abbrev cX9_lifts : ByteArray := prog_11_method_2_code
def yX9_lifts : MethodName := ⟨RX9, "lifts", "(ZZII)Z"⟩
abbrev cX9_adds : ByteArray := prog_11_method_3_code
def yX9_adds : MethodName := ⟨RX9, "adds", "(I)I"⟩
def RX10 : String := "CrownTwo$Tired"
def TX10 : u_T := fun k => match k with
  | _ => ("", "", "", false)
def tyX10 : Nat → FieldType := fun k => match k with
  | _ => .int
theorem nmX10 : ∀ a, a < 0 → ∀ b, b < 0 → a ≠ b → (TX10 a).2.1 ≠ (TX10 b).2.1 := by decide +kernel
theorem tyX10_ok : ∀ k, k < 0 → parseFieldDescriptor (TX10 k).2.2.1 = some (tyX10 k) := by decide +kernel
abbrev cX10_init : ByteArray := prog_12_method_1_code
def yX10_init : MethodName := ⟨RX10, "<init>", "()V"⟩
abbrev cX10_lifts : ByteArray := prog_12_method_2_code
def yX10_lifts : MethodName := ⟨RX10, "lifts", "(ZZII)Z"⟩
abbrev cX10_adds : ByteArray := prog_12_method_3_code
def yX10_adds : MethodName := ⟨RX10, "adds", "(I)I"⟩
def RX11 : String := "CrownTwo"
def TX11 : u_T := fun k => match k with
  | 0 => ("CrownTwo", "court", "LCrownTwo$Court;", true)
  | 1 => ("CrownTwo", "draft", "LCrownTwo$Court;", true)
  | 2 => ("CrownTwo", "images", "[LCrownTwo$Court;", true)
  | 3 => ("CrownTwo", "kept", "[Z", true)
  | 4 => ("CrownTwo", "text", "LCrownTwo$CourtText;", true)
  | 5 => ("CrownTwo", "trial", "LCrownTwo$Moment;", true)
  | 6 => ("CrownTwo", "steps", "[LCrownTwo$Moment;", true)
  | 7 => ("CrownTwo", "way", "[I", true)
  | 8 => ("CrownTwo", "bestWay", "[I", true)
  | 9 => ("CrownTwo", "mostDone", "I", false)
  | 10 => ("CrownTwo", "above", "I", false)
  | 11 => ("CrownTwo", "below", "I", false)
  | 12 => ("CrownTwo", "bads", "I", false)
  | 13 => ("CrownTwo", "noes", "I", false)
  | _ => ("CrownTwo", "fulls", "I", false)
def tyX11 : Nat → FieldType := fun k => match k with
  | 0 => .object "CrownTwo$Court"
  | 1 => .object "CrownTwo$Court"
  | 2 => .array (.object "CrownTwo$Court")
  | 3 => .array .boolean
  | 4 => .object "CrownTwo$CourtText"
  | 5 => .object "CrownTwo$Moment"
  | 6 => .array (.object "CrownTwo$Moment")
  | 7 => .array .int
  | 8 => .array .int
  | 9 => .int
  | 10 => .int
  | 11 => .int
  | 12 => .int
  | 13 => .int
  | _ => .int
theorem nmX11 : ∀ a, a < 15 → ∀ b, b < 15 → a ≠ b → (TX11 a).2.1 ≠ (TX11 b).2.1 := by decide +kernel
theorem tyX11_ok : ∀ k, k < 15 → parseFieldDescriptor (TX11 k).2.2.1 = some (tyX11 k) := by decide +kernel
abbrev cX11_init : ByteArray := prog_1_method_1_code
def yX11_init : MethodName := ⟨RX11, "<init>", "()V"⟩
abbrev cX11_court : ByteArray := prog_1_method_2_code
def yX11_court : MethodName := ⟨RX11, "court", "(I)I"⟩
abbrev cX11_heir : ByteArray := prog_1_method_3_code
def yX11_heir : MethodName := ⟨RX11, "heir", "(IIII)I"⟩
abbrev cX11_type : ByteArray := prog_1_method_4_code
def yX11_type : MethodName := ⟨RX11, "type", "(I)I"⟩
abbrev cX11_clear : ByteArray := prog_1_method_5_code
def yX11_clear : MethodName := ⟨RX11, "clear", "()I"⟩
abbrev cX11_read : ByteArray := prog_1_method_6_code
def yX11_read : MethodName := ⟨RX11, "read", "()I"⟩
abbrev cX11_pair : ByteArray := prog_1_method_7_code
def yX11_pair : MethodName := ⟨RX11, "pair", "(II)I"⟩
abbrev cX11_ask : ByteArray := prog_1_method_8_code
def yX11_ask : MethodName := ⟨RX11, "ask", "(I)I"⟩
abbrev cX11_day : ByteArray := prog_1_method_9_code
def yX11_day : MethodName := ⟨RX11, "day", "(I)I"⟩
abbrev cX11_feed : ByteArray := prog_1_method_10_code
def yX11_feed : MethodName := ⟨RX11, "feed", "(I)I"⟩
abbrev cX11_undo : ByteArray := prog_1_method_11_code
def yX11_undo : MethodName := ⟨RX11, "undo", "()I"⟩
abbrev cX11_of : ByteArray := prog_1_method_12_code
def yX11_of : MethodName := ⟨RX11, "of", "(II)I"⟩
abbrev cX11_makes : ByteArray := prog_1_method_13_code
def yX11_makes : MethodName := ⟨RX11, "makes", "(I)I"⟩
abbrev cX11_lift : ByteArray := prog_1_method_14_code
def yX11_lift : MethodName := ⟨RX11, "lift", "(I)I"⟩
abbrev cX11_both : ByteArray := prog_1_method_15_code
def yX11_both : MethodName := ⟨RX11, "both", "(I)I"⟩
abbrev cX11_friends : ByteArray := prog_1_method_16_code
def yX11_friends : MethodName := ⟨RX11, "friends", "()I"⟩
abbrev cX11_then : ByteArray := prog_1_method_17_code
def yX11_then : MethodName := ⟨RX11, "then", "(I)I"⟩
abbrev cX11_most : ByteArray := prog_1_method_18_code
def yX11_most : MethodName := ⟨RX11, "most", "(II)I"⟩
abbrev cX11_keep : ByteArray := prog_1_method_19_code
def yX11_keep : MethodName := ⟨RX11, "keep", "(I)I"⟩
abbrev cX11_lasts : ByteArray := prog_1_method_20_code
def yX11_lasts : MethodName := ⟨RX11, "lasts", "(II)I"⟩
abbrev cX11_pairs : ByteArray := prog_1_method_21_code
def yX11_pairs : MethodName := ⟨RX11, "pairs", "(I)I"⟩
abbrev cX11_note : ByteArray := prog_1_method_22_code
def yX11_note : MethodName := ⟨RX11, "note", "(IIIII)I"⟩
abbrev cX11_forget : ByteArray := prog_1_method_23_code
def yX11_forget : MethodName := ⟨RX11, "forget", "()I"⟩
abbrev cX11_is : ByteArray := prog_1_method_24_code
def yX11_is : MethodName := ⟨RX11, "is", "(I)I"⟩
abbrev cX11_heart : ByteArray := prog_1_method_25_code
def yX11_heart : MethodName := ⟨RX11, "heart", "(II)I"⟩
abbrev cX11_next : ByteArray := prog_1_method_26_code
def yX11_next : MethodName := ⟨RX11, "next", "(I)I"⟩
abbrev cX11_spite : ByteArray := prog_1_method_27_code
def yX11_spite : MethodName := ⟨RX11, "spite", "(I)I"⟩
abbrev cX11_slips : ByteArray := prog_1_method_28_code
def yX11_slips : MethodName := ⟨RX11, "slips", "(II)I"⟩
abbrev cX11_reigns : ByteArray := prog_1_method_29_code
def yX11_reigns : MethodName := ⟨RX11, "reigns", "(II)I"⟩
abbrev cX11_part : ByteArray := prog_1_method_30_code
def yX11_part : MethodName := ⟨RX11, "part", "(I)J"⟩
abbrev cX11_image : ByteArray := prog_1_method_31_code
def yX11_image : MethodName := ⟨RX11, "image", "(I)I"⟩
abbrev cX11_from : ByteArray := prog_1_method_32_code
def yX11_from : MethodName := ⟨RX11, "from", "(I)I"⟩
abbrev cX11_status : ByteArray := prog_1_method_33_code
def yX11_status : MethodName := ⟨RX11, "status", "(I)I"⟩
abbrev cX11_count : ByteArray := prog_1_method_34_code
def yX11_count : MethodName := ⟨RX11, "count", "(I)I"⟩
abbrev cX11_digest : ByteArray := prog_1_method_35_code
def yX11_digest : MethodName := ⟨RX11, "digest", "()J"⟩
abbrev cX11_bad : ByteArray := prog_1_method_36_code
def yX11_bad : MethodName := ⟨RX11, "bad", "()I"⟩
abbrev cX11_no : ByteArray := prog_1_method_37_code
def yX11_no : MethodName := ⟨RX11, "no", "()I"⟩
abbrev cX11_full : ByteArray := prog_1_method_38_code
def yX11_full : MethodName := ⟨RX11, "full", "()I"⟩
abbrev cX11_outside : ByteArray := prog_1_method_39_code
def yX11_outside : MethodName := ⟨RX11, "outside", "(III)Z"⟩
abbrev cX11_daysToFriends : ByteArray := prog_1_method_40_code
def yX11_daysToFriends : MethodName := ⟨RX11, "daysToFriends", "(I)I"⟩
abbrev cX11_staysQuarrelled : ByteArray := prog_1_method_41_code
def yX11_staysQuarrelled : MethodName := ⟨RX11, "staysQuarrelled", "(III)Z"⟩
abbrev cX11_lastingOf : ByteArray := prog_1_method_42_code
def yX11_lastingOf : MethodName := ⟨RX11, "lastingOf", "(II)I"⟩
abbrev cX11_bestPair : ByteArray := prog_1_method_43_code
def yX11_bestPair : MethodName := ⟨RX11, "bestPair", "()I"⟩
abbrev cX11_stuckPairs : ByteArray := prog_1_method_44_code
def yX11_stuckPairs : MethodName := ⟨RX11, "stuckPairs", "()I"⟩
abbrev cX11_tryFrom : ByteArray := prog_1_method_45_code
def yX11_tryFrom : MethodName := ⟨RX11, "tryFrom", "(IIII)V"⟩
abbrev cX11_kindsThatFit : ByteArray := prog_1_method_46_code
def yX11_kindsThatFit : MethodName := ⟨RX11, "kindsThatFit", "(I)I"⟩
abbrev cX11_gain : ByteArray := prog_1_method_47_code
def yX11_gain : MethodName := ⟨RX11, "gain", "(LCrownTwo$Heir;IZZ)I"⟩
abbrev cX11_setFraction : ByteArray := prog_1_method_48_code
def yX11_setFraction : MethodName := ⟨RX11, "setFraction", "(II)V"⟩
abbrev cX11_howMany : ByteArray := prog_1_method_49_code
def yX11_howMany : MethodName := ⟨RX11, "howMany", "(I)I"⟩
def RX12 : String := "CrownTwoModel"
def TX12 : u_T := fun k => match k with
  | 0 => ("CrownTwoModel", "refused", "[I", true)
  | 1 => ("CrownTwoModel", "many", "I", false)
  | 2 => ("CrownTwoModel", "warmth", "I", false)
  | 3 => ("CrownTwoModel", "now", "I", false)
  | 4 => ("CrownTwoModel", "done", "I", false)
  | 5 => ("CrownTwoModel", "one", "I", false)
  | 6 => ("CrownTwoModel", "other", "I", false)
  | 7 => ("CrownTwoModel", "noteMany", "I", false)
  | 8 => ("CrownTwoModel", "kinds", "[I", true)
  | 9 => ("CrownTwoModel", "likes", "[I", true)
  | 10 => ("CrownTwoModel", "hates", "[I", true)
  | 11 => ("CrownTwoModel", "tempers", "[I", true)
  | 12 => ("CrownTwoModel", "noteHeir", "[I", true)
  | 13 => ("CrownTwoModel", "noteAct", "[I", true)
  | 14 => ("CrownTwoModel", "noteWarmth", "[I", true)
  | 15 => ("CrownTwoModel", "noteDay", "[I", true)
  | 16 => ("CrownTwoModel", "noteLifted", "[I", true)
  | 17 => ("CrownTwoModel", "text", "[I", true)
  | 18 => ("CrownTwoModel", "typed", "I", false)
  | 19 => ("CrownTwoModel", "readAt", "I", false)
  | 20 => ("CrownTwoModel", "readWarmth", "I", false)
  | 21 => ("CrownTwoModel", "readMany", "I", false)
  | 22 => ("CrownTwoModel", "readOne", "I", false)
  | 23 => ("CrownTwoModel", "readOther", "I", false)
  | 24 => ("CrownTwoModel", "readHeirs", "[I", true)
  | 25 => ("CrownTwoModel", "readNumber", "I", false)
  | 26 => ("CrownTwoModel", "ahead", "[I", true)
  | 27 => ("CrownTwoModel", "undoMany", "I", false)
  | 28 => ("CrownTwoModel", "aside", "[I", true)
  | 29 => ("CrownTwoModel", "line", "[I", true)
  | 30 => ("CrownTwoModel", "bestLine", "[I", true)
  | 31 => ("CrownTwoModel", "above", "J", false)
  | 32 => ("CrownTwoModel", "below", "J", false)
  | 33 => ("CrownTwoModel", "images", "[I", true)
  | 34 => ("CrownTwoModel", "isKept", "[I", true)
  | _ => ("CrownTwoModel", "h0", "J", false)
def tyX12 : Nat → FieldType := fun k => match k with
  | 0 => .array .int
  | 1 => .int
  | 2 => .int
  | 3 => .int
  | 4 => .int
  | 5 => .int
  | 6 => .int
  | 7 => .int
  | 8 => .array .int
  | 9 => .array .int
  | 10 => .array .int
  | 11 => .array .int
  | 12 => .array .int
  | 13 => .array .int
  | 14 => .array .int
  | 15 => .array .int
  | 16 => .array .int
  | 17 => .array .int
  | 18 => .int
  | 19 => .int
  | 20 => .int
  | 21 => .int
  | 22 => .int
  | 23 => .int
  | 24 => .array .int
  | 25 => .int
  | 26 => .array .int
  | 27 => .int
  | 28 => .array .int
  | 29 => .array .int
  | 30 => .array .int
  | 31 => .long
  | 32 => .long
  | 33 => .array .int
  | 34 => .array .int
  | _ => .long
theorem nmX12 : ∀ a, a < 36 → ∀ b, b < 36 → a ≠ b → (TX12 a).2.1 ≠ (TX12 b).2.1 := by decide +kernel
theorem tyX12_ok : ∀ k, k < 36 → parseFieldDescriptor (TX12 k).2.2.1 = some (tyX12 k) := by decide +kernel
abbrev cX12_bad : ByteArray := prog_14_method_1_code
def yX12_bad : MethodName := ⟨RX12, "bad", "()I"⟩
abbrev cX12_ten : ByteArray := prog_14_method_2_code
def yX12_ten : MethodName := ⟨RX12, "ten", "()I"⟩
abbrev cX12_no : ByteArray := prog_14_method_3_code
def yX12_no : MethodName := ⟨RX12, "no", "()I"⟩
abbrev cX12_full : ByteArray := prog_14_method_4_code
def yX12_full : MethodName := ⟨RX12, "full", "()I"⟩
abbrev cX12_in : ByteArray := prog_14_method_5_code
def yX12_in : MethodName := ⟨RX12, "in", "(III)Z"⟩
abbrev cX12_has : ByteArray := prog_14_method_6_code
def yX12_has : MethodName := ⟨RX12, "has", "(II)Z"⟩
abbrev cX12_bits : ByteArray := prog_14_method_7_code
def yX12_bits : MethodName := ⟨RX12, "bits", "(I)I"⟩
abbrev cX12_kept : ByteArray := prog_14_method_8_code
def yX12_kept : MethodName := ⟨RX12, "kept", "(I)I"⟩
abbrev cX12_init : ByteArray := prog_14_method_9_code
def yX12_init : MethodName := ⟨RX12, "<init>", "()V"⟩
abbrev cX12_begin : ByteArray := prog_14_method_10_code
def yX12_begin : MethodName := ⟨RX12, "begin", "(I)V"⟩
abbrev cX12_isHeir : ByteArray := prog_14_method_11_code
def yX12_isHeir : MethodName := ⟨RX12, "isHeir", "(I)Z"⟩
abbrev cX12_isAct : ByteArray := prog_14_method_12_code
def yX12_isAct : MethodName := ⟨RX12, "isAct", "(I)Z"⟩
abbrev cX12_isPair : ByteArray := prog_14_method_13_code
def yX12_isPair : MethodName := ⟨RX12, "isPair", "()Z"⟩
abbrev cX12_court : ByteArray := prog_14_method_14_code
def yX12_court : MethodName := ⟨RX12, "court", "(I)I"⟩
abbrev cX12_addHeir : ByteArray := prog_14_method_15_code
def yX12_addHeir : MethodName := ⟨RX12, "addHeir", "(IIII)I"⟩
abbrev cX12_heir : ByteArray := prog_14_method_16_code
def yX12_heir : MethodName := ⟨RX12, "heir", "(IIII)I"⟩
abbrev cX12_type : ByteArray := prog_14_method_17_code
def yX12_type : MethodName := ⟨RX12, "type", "(I)I"⟩
abbrev cX12_clear : ByteArray := prog_14_method_18_code
def yX12_clear : MethodName := ⟨RX12, "clear", "()I"⟩
abbrev cX12_here : ByteArray := prog_14_method_19_code
def yX12_here : MethodName := ⟨RX12, "here", "()I"⟩
abbrev cX12_skip : ByteArray := prog_14_method_20_code
def yX12_skip : MethodName := ⟨RX12, "skip", "()V"⟩
abbrev cX12_isLetter : ByteArray := prog_14_method_21_code
def yX12_isLetter : MethodName := ⟨RX12, "isLetter", "(I)Z"⟩
abbrev cX12_isFigure : ByteArray := prog_14_method_22_code
def yX12_isFigure : MethodName := ⟨RX12, "isFigure", "(I)Z"⟩
abbrev cX12_wordSize : ByteArray := prog_14_method_23_code
def yX12_wordSize : MethodName := ⟨RX12, "wordSize", "()I"⟩
abbrev cX12_letter : ByteArray := prog_14_method_24_code
def yX12_letter : MethodName := ⟨RX12, "letter", "(I)I"⟩
abbrev cX12_spells : ByteArray := prog_14_method_25_code
def yX12_spells : MethodName := ⟨RX12, "spells", "(IIII)Z"⟩
abbrev cX12_wordHere : ByteArray := prog_14_method_26_code
def yX12_wordHere : MethodName := ⟨RX12, "wordHere", "()I"⟩
abbrev cX12_number : ByteArray := prog_14_method_27_code
def yX12_number : MethodName := ⟨RX12, "number", "(II)Z"⟩
abbrev cX12_ends : ByteArray := prog_14_method_28_code
def yX12_ends : MethodName := ⟨RX12, "ends", "()Z"⟩
abbrev cX12_readsHeir : ByteArray := prog_14_method_29_code
def yX12_readsHeir : MethodName := ⟨RX12, "readsHeir", "()Z"⟩
abbrev cX12_readsActs : ByteArray := prog_14_method_30_code
def yX12_readsActs : MethodName := ⟨RX12, "readsActs", "(I)Z"⟩
abbrev cX12_readsPair : ByteArray := prog_14_method_31_code
def yX12_readsPair : MethodName := ⟨RX12, "readsPair", "()Z"⟩
abbrev cX12_readsItem : ByteArray := prog_14_method_32_code
def yX12_readsItem : MethodName := ⟨RX12, "readsItem", "()Z"⟩
abbrev cX12_readsFirst : ByteArray := prog_14_method_33_code
def yX12_readsFirst : MethodName := ⟨RX12, "readsFirst", "()Z"⟩
abbrev cX12_readsCourt : ByteArray := prog_14_method_34_code
def yX12_readsCourt : MethodName := ⟨RX12, "readsCourt", "()I"⟩
abbrev cX12_read : ByteArray := prog_14_method_35_code
def yX12_read : MethodName := ⟨RX12, "read", "()I"⟩
abbrev cX12_heartOf : ByteArray := prog_14_method_36_code
def yX12_heartOf : MethodName := ⟨RX12, "heartOf", "(II)I"⟩
abbrev cX12_liftsBy : ByteArray := prog_14_method_37_code
def yX12_liftsBy : MethodName := ⟨RX12, "liftsBy", "(IIII)Z"⟩
abbrev cX12_lifts : ByteArray := prog_14_method_38_code
def yX12_lifts : MethodName := ⟨RX12, "lifts", "(II)Z"⟩
abbrev cX12_makesOf : ByteArray := prog_14_method_39_code
def yX12_makesOf : MethodName := ⟨RX12, "makesOf", "(I)I"⟩
abbrev cX12_growth : ByteArray := prog_14_method_40_code
def yX12_growth : MethodName := ⟨RX12, "growth", "()I"⟩
abbrev cX12_pass : ByteArray := prog_14_method_41_code
def yX12_pass : MethodName := ⟨RX12, "pass", "()V"⟩
abbrev cX12_lifting : ByteArray := prog_14_method_42_code
def yX12_lifting : MethodName := ⟨RX12, "lifting", "(I)I"⟩
abbrev cX12_asks : ByteArray := prog_14_method_43_code
def yX12_asks : MethodName := ⟨RX12, "asks", "(I)I"⟩
abbrev cX12_lays : ByteArray := prog_14_method_44_code
def yX12_lays : MethodName := ⟨RX12, "lays", "([II)V"⟩
abbrev cX12_takes : ByteArray := prog_14_method_45_code
def yX12_takes : MethodName := ⟨RX12, "takes", "([II)V"⟩
abbrev cX12_notes : ByteArray := prog_14_method_46_code
def yX12_notes : MethodName := ⟨RX12, "notes", "()V"⟩
abbrev cX12_puts : ByteArray := prog_14_method_47_code
def yX12_puts : MethodName := ⟨RX12, "puts", "()V"⟩
abbrev cX12_back : ByteArray := prog_14_method_48_code
def yX12_back : MethodName := ⟨RX12, "back", "()V"⟩
abbrev cX12_pair : ByteArray := prog_14_method_49_code
def yX12_pair : MethodName := ⟨RX12, "pair", "(II)I"⟩
abbrev cX12_ask : ByteArray := prog_14_method_50_code
def yX12_ask : MethodName := ⟨RX12, "ask", "(I)I"⟩
abbrev cX12_day : ByteArray := prog_14_method_51_code
def yX12_day : MethodName := ⟨RX12, "day", "(I)I"⟩
abbrev cX12_feed : ByteArray := prog_14_method_52_code
def yX12_feed : MethodName := ⟨RX12, "feed", "(I)I"⟩
abbrev cX12_undo : ByteArray := prog_14_method_53_code
def yX12_undo : MethodName := ⟨RX12, "undo", "()I"⟩
abbrev cX12_of : ByteArray := prog_14_method_54_code
def yX12_of : MethodName := ⟨RX12, "of", "(II)I"⟩
abbrev cX12_makes : ByteArray := prog_14_method_55_code
def yX12_makes : MethodName := ⟨RX12, "makes", "(I)I"⟩
abbrev cX12_lift : ByteArray := prog_14_method_56_code
def yX12_lift : MethodName := ⟨RX12, "lift", "(I)I"⟩
abbrev cX12_bothSet : ByteArray := prog_14_method_57_code
def yX12_bothSet : MethodName := ⟨RX12, "bothSet", "()I"⟩
abbrev cX12_both : ByteArray := prog_14_method_58_code
def yX12_both : MethodName := ⟨RX12, "both", "(I)I"⟩
abbrev cX12_daysTill : ByteArray := prog_14_method_59_code
def yX12_daysTill : MethodName := ⟨RX12, "daysTill", "()I"⟩
abbrev cX12_friends : ByteArray := prog_14_method_60_code
def yX12_friends : MethodName := ⟨RX12, "friends", "()I"⟩
abbrev cX12_then : ByteArray := prog_14_method_61_code
def yX12_then : MethodName := ⟨RX12, "then", "(I)I"⟩
abbrev cX12_doneBy : ByteArray := prog_14_method_62_code
def yX12_doneBy : MethodName := ⟨RX12, "doneBy", "(II)I"⟩
abbrev cX12_most : ByteArray := prog_14_method_63_code
def yX12_most : MethodName := ⟨RX12, "most", "(II)I"⟩
abbrev cX12_keep : ByteArray := prog_14_method_64_code
def yX12_keep : MethodName := ⟨RX12, "keep", "(I)I"⟩
abbrev cX12_lastsOf : ByteArray := prog_14_method_65_code
def yX12_lastsOf : MethodName := ⟨RX12, "lastsOf", "(II)I"⟩
abbrev cX12_lasts : ByteArray := prog_14_method_66_code
def yX12_lasts : MethodName := ⟨RX12, "lasts", "(II)I"⟩
abbrev cX12_areStuck : ByteArray := prog_14_method_67_code
def yX12_areStuck : MethodName := ⟨RX12, "areStuck", "(II)Z"⟩
abbrev cX12_pairs : ByteArray := prog_14_method_68_code
def yX12_pairs : MethodName := ⟨RX12, "pairs", "(I)I"⟩
abbrev cX12_note : ByteArray := prog_14_method_69_code
def yX12_note : MethodName := ⟨RX12, "note", "(IIIII)I"⟩
abbrev cX12_forget : ByteArray := prog_14_method_70_code
def yX12_forget : MethodName := ⟨RX12, "forget", "()I"⟩
abbrev cX12_isSo : ByteArray := prog_14_method_71_code
def yX12_isSo : MethodName := ⟨RX12, "isSo", "(IIII)Z"⟩
abbrev cX12_kindsOf : ByteArray := prog_14_method_72_code
def yX12_kindsOf : MethodName := ⟨RX12, "kindsOf", "(I)I"⟩
abbrev cX12_is : ByteArray := prog_14_method_73_code
def yX12_is : MethodName := ⟨RX12, "is", "(I)I"⟩
abbrev cX12_heart : ByteArray := prog_14_method_74_code
def yX12_heart : MethodName := ⟨RX12, "heart", "(II)I"⟩
abbrev cX12_greaterPart : ByteArray := prog_14_method_75_code
def yX12_greaterPart : MethodName := ⟨RX12, "greaterPart", "(III)I"⟩
abbrev cX12_next : ByteArray := prog_14_method_76_code
def yX12_next : MethodName := ⟨RX12, "next", "(I)I"⟩
abbrev cX12_gets : ByteArray := prog_14_method_77_code
def yX12_gets : MethodName := ⟨RX12, "gets", "(IIZZ)I"⟩
abbrev cX12_spite : ByteArray := prog_14_method_78_code
def yX12_spite : MethodName := ⟨RX12, "spite", "(I)I"⟩
abbrev cX12_lay : ByteArray := prog_14_method_79_code
def yX12_lay : MethodName := ⟨RX12, "lay", "(JJ)V"⟩
abbrev cX12_slips : ByteArray := prog_14_method_80_code
def yX12_slips : MethodName := ⟨RX12, "slips", "(II)I"⟩
abbrev cX12_reigns : ByteArray := prog_14_method_81_code
def yX12_reigns : MethodName := ⟨RX12, "reigns", "(II)I"⟩
abbrev cX12_part : ByteArray := prog_14_method_82_code
def yX12_part : MethodName := ⟨RX12, "part", "(I)J"⟩
abbrev cX12_image : ByteArray := prog_14_method_83_code
def yX12_image : MethodName := ⟨RX12, "image", "(I)I"⟩
abbrev cX12_from : ByteArray := prog_14_method_84_code
def yX12_from : MethodName := ⟨RX12, "from", "(I)I"⟩
abbrev cX12_status : ByteArray := prog_14_method_85_code
def yX12_status : MethodName := ⟨RX12, "status", "(I)I"⟩
abbrev cX12_countOf : ByteArray := prog_14_method_86_code
def yX12_countOf : MethodName := ⟨RX12, "countOf", "(I)I"⟩
abbrev cX12_count : ByteArray := prog_14_method_87_code
def yX12_count : MethodName := ⟨RX12, "count", "(I)I"⟩
abbrev cX12_mix : ByteArray := prog_14_method_88_code
def yX12_mix : MethodName := ⟨RX12, "mix", "(J)V"⟩
abbrev cX12_digest : ByteArray := prog_14_method_89_code
def yX12_digest : MethodName := ⟨RX12, "digest", "()J"⟩
def RJ6 : String := "java/lang/Integer"
def TJ6 : u_T := fun k => match k with
  | _ => ("", "", "", false)
def tyJ6 : Nat → FieldType := fun k => match k with
  | _ => .int
theorem nmJ6 : ∀ a, a < 0 → ∀ b, b < 0 → a ≠ b → (TJ6 a).2.1 ≠ (TJ6 b).2.1 := by decide +kernel
theorem tyJ6_ok : ∀ k, k < 0 → parseFieldDescriptor (TJ6 k).2.2.1 = some (tyJ6 k) := by decide +kernel
abbrev cJ6_bitCount_0f7a4 : ByteArray := prog_15_method_49_code
def yJ6_bitCount_0f7a4 : MethodName := ⟨RJ6, "bitCount", "(I)I"⟩
def RJ9 : String := "java/lang/Math"
def TJ9 : u_T := fun k => match k with
  | _ => ("", "", "", false)
def tyJ9 : Nat → FieldType := fun k => match k with
  | _ => .int
theorem nmJ9 : ∀ a, a < 0 → ∀ b, b < 0 → a ≠ b → (TJ9 a).2.1 ≠ (TJ9 b).2.1 := by decide +kernel
theorem tyJ9_ok : ∀ k, k < 0 → parseFieldDescriptor (TJ9 k).2.2.1 = some (tyJ9 k) := by decide +kernel
abbrev cJ9_max_7cf53 : ByteArray := prog_16_method_65_code
def yJ9_max_7cf53 : MethodName := ⟨RJ9, "max", "(II)I"⟩
abbrev cJ9_min_7cf53 : ByteArray := prog_16_method_69_code
def yJ9_min_7cf53 : MethodName := ⟨RJ9, "min", "(II)I"⟩
def RJ0 : String := "java/lang/String"
def TJ0 : u_T := fun k => match k with
  | _ => ("", "", "", false)
def tyJ0 : Nat → FieldType := fun k => match k with
  | _ => .int
theorem nmJ0 : ∀ a, a < 0 → ∀ b, b < 0 → a ≠ b → (TJ0 a).2.1 ≠ (TJ0 b).2.1 := by decide +kernel
theorem tyJ0_ok : ∀ k, k < 0 → parseFieldDescriptor (TJ0 k).2.2.1 = some (tyJ0 k) := by decide +kernel
abbrev cJ0_length_8abf5 : ByteArray := prog_17_method_54_code
def yJ0_length_8abf5 : MethodName := ⟨RJ0, "length", "()I"⟩
abbrev cJ0_charAt_5068e : ByteArray := prog_17_method_56_code
def yJ0_charAt_5068e : MethodName := ⟨RJ0, "charAt", "(I)C"⟩
abbrev cJ0_coder_7d493 : ByteArray := prog_17_method_152_code
def yJ0_coder_7d493 : MethodName := ⟨RJ0, "coder", "()B"⟩
abbrev cJ0_isLatin1_aae02 : ByteArray := prog_17_method_154_code
def yJ0_isLatin1_aae02 : MethodName := ⟨RJ0, "isLatin1", "()Z"⟩
abbrev cJ0_checkIndex_df160 : ByteArray := prog_17_method_155_code
def yJ0_checkIndex_df160 : MethodName := ⟨RJ0, "checkIndex", "(II)V"⟩
def RJ1 : String := "java/lang/StringLatin1"
def TJ1 : u_T := fun k => match k with
  | _ => ("", "", "", false)
def tyJ1 : Nat → FieldType := fun k => match k with
  | _ => .int
theorem nmJ1 : ∀ a, a < 0 → ∀ b, b < 0 → a ≠ b → (TJ1 a).2.1 ≠ (TJ1 b).2.1 := by decide +kernel
theorem tyJ1_ok : ∀ k, k < 0 → parseFieldDescriptor (TJ1 k).2.2.1 = some (tyJ1 k) := by decide +kernel
abbrev cJ1_charAt_3b067 : ByteArray := prog_18_method_2_code
def yJ1_charAt_3b067 : MethodName := ⟨RJ1, "charAt", "([BI)C"⟩
def RJ2 : String := "java/lang/StringUTF16"
def TJ2 : u_T := fun k => match k with
  | _ => ("", "", "", false)
def tyJ2 : Nat → FieldType := fun k => match k with
  | _ => .int
theorem nmJ2 : ∀ a, a < 0 → ∀ b, b < 0 → a ≠ b → (TJ2 a).2.1 ≠ (TJ2 b).2.1 := by decide +kernel
theorem tyJ2_ok : ∀ k, k < 0 → parseFieldDescriptor (TJ2 k).2.2.1 = some (tyJ2 k) := by decide +kernel
abbrev cJ2_getChar_3b067 : ByteArray := prog_19_method_5_code
def yJ2_getChar_3b067 : MethodName := ⟨RJ2, "getChar", "([BI)C"⟩
abbrev cJ2_length_9d52b : ByteArray := prog_19_method_6_code
def yJ2_length_9d52b : MethodName := ⟨RJ2, "length", "([B)I"⟩
abbrev cJ2_charAt_3b067 : ByteArray := prog_19_method_83_code
def yJ2_charAt_3b067 : MethodName := ⟨RJ2, "charAt", "([BI)C"⟩
abbrev cJ2_checkIndex_2214a : ByteArray := prog_19_method_91_code
def yJ2_checkIndex_2214a : MethodName := ⟨RJ2, "checkIndex", "(I[B)V"⟩
def RJ10 : String := "java/lang/System"
def TJ10 : u_T := fun k => match k with
  | _ => ("", "", "", false)
def tyJ10 : Nat → FieldType := fun k => match k with
  | _ => .int
theorem nmJ10 : ∀ a, a < 0 → ∀ b, b < 0 → a ≠ b → (TJ10 a).2.1 ≠ (TJ10 b).2.1 := by decide +kernel
theorem tyJ10_ok : ∀ k, k < 0 → parseFieldDescriptor (TJ10 k).2.2.1 = some (tyJ10 k) := by decide +kernel
def RJ3 : String := "jdk/internal/util/Preconditions"
def TJ3 : u_T := fun k => match k with
  | _ => ("", "", "", false)
def tyJ3 : Nat → FieldType := fun k => match k with
  | _ => .int
theorem nmJ3 : ∀ a, a < 0 → ∀ b, b < 0 → a ≠ b → (TJ3 a).2.1 ≠ (TJ3 b).2.1 := by decide +kernel
theorem tyJ3_ok : ∀ k, k < 0 → parseFieldDescriptor (TJ3 k).2.2.1 = some (tyJ3 k) := by decide +kernel
abbrev cJ3_checkIndex_8e157 : ByteArray := prog_21_method_11_code
def yJ3_checkIndex_8e157 : MethodName := ⟨RJ3, "checkIndex", "(IILjava/util/function/BiFunction;)I"⟩
def RL : String := "CrownTwoLaw"
abbrev cL_law : ByteArray := code
def yL_law : MethodName := ⟨RL, "law", "([I)Z"⟩
abbrev vwCl : List vw_C := [(RX0, TX0, 8), (RX1, TX1, 6), (RX2, TX2, 0), (RX3, TX3, 4), (RX4, TX4, 0), (RX5, TX5, 5), (RX6, TX6, 5), (RX7, TX7, 0), (RX8, TX8, 0), (RX9, TX9, 0), (RX10, TX10, 0), (RX11, TX11, 15), (RX12, TX12, 36)]
theorem q_0 : (Jvm.Cond.initialized "CrownTwoLaw") ∈ gw := gw_t1 0 rfl rfl
theorem q_1 : (Jvm.Cond.initialized "CrownTwo") ∈ gw := gw_t1 1 rfl rfl
theorem q_2 : (Jvm.Cond.initialized "CrownTwo$CourtText") ∈ gw := gw_t1 2 rfl rfl
theorem q_3 : (Jvm.Cond.initialized "CrownTwo$Moment") ∈ gw := gw_t1 3 rfl rfl
theorem q_4 : (Jvm.Cond.initialized "CrownTwo$Plain") ∈ gw := gw_t1 4 rfl rfl
theorem q_5 : (Jvm.Cond.initialized "CrownTwo$Sulky") ∈ gw := gw_t1 5 rfl rfl
theorem q_6 : (Jvm.Cond.initialized "CrownTwo$Joker") ∈ gw := gw_t1 6 rfl rfl
theorem q_7 : (Jvm.Cond.initialized "CrownTwo$Proud") ∈ gw := gw_t1 7 rfl rfl
theorem q_8 : (Jvm.Cond.initialized "CrownTwo$Tired") ∈ gw := gw_t1 8 rfl rfl
theorem q_9 : (Jvm.Cond.initialized "CrownTwo$Forgiver") ∈ gw := gw_t1 9 rfl rfl
theorem q_10 : (Jvm.Cond.initialized "CrownTwo$Court") ∈ gw := gw_t1 10 rfl rfl
theorem q_11 : (Jvm.Cond.initialized "CrownTwo$Heir") ∈ gw := gw_t1 11 rfl rfl
theorem q_12 : (Jvm.Cond.initialized "CrownTwo$Note") ∈ gw := gw_t1 12 rfl rfl
theorem q_13 : (Jvm.Cond.initialized "CrownTwoModel") ∈ gw := gw_t1 13 rfl rfl
theorem q_14 : (Jvm.Cond.initialized "java/lang/String") ∈ gw := gw_t1 14 rfl rfl
theorem q_15 : (Jvm.Cond.initialized "java/lang/StringLatin1") ∈ gw := gw_t1 15 rfl rfl
theorem q_16 : (Jvm.Cond.initialized "jdk/internal/util/Preconditions") ∈ gw := gw_t1 16 rfl rfl
theorem q_17 : (Jvm.Cond.initialized "java/lang/StringUTF16") ∈ gw := gw_t1 17 rfl rfl
theorem q_18 : (Jvm.Cond.initialized "java/lang/Math") ∈ gw := gw_t1 18 rfl rfl
theorem q_19 : (Jvm.Cond.initialized "java/lang/System") ∈ gw := gw_t1 19 rfl rfl
theorem q_20 : (Jvm.Cond.initialized "java/lang/Integer") ∈ gw := gw_t1 20 rfl rfl
theorem q_21 : (Jvm.Cond.classLink "CrownTwoLaw" (7 : Nat) "CrownTwo") ∈ gw := gw_t1 21 rfl rfl
theorem q_22 : (Jvm.Cond.instantiable "CrownTwo" (15 : Nat)) ∈ gw := gw_t1 22 rfl rfl
theorem q_23 : (Jvm.Cond.methodLink "CrownTwoLaw" (9 : Nat) ({ cls := "CrownTwo", name := "<init>", desc := "()V" } : Jvm.MethodName)) ∈ gw := gw_t1 23 rfl rfl
theorem q_24 : (Jvm.Cond.instanceMethod ({ cls := "CrownTwo", name := "<init>", desc := "()V" } : Jvm.MethodName)) ∈ gw := gw_t1 24 rfl rfl
theorem q_25 : (Jvm.Cond.code ({ cls := "CrownTwo", name := "<init>", desc := "()V" } : Jvm.MethodName) prog_1_method_1_code (3 : Nat) (Option.none : Option Jvm.ClassFile.FieldType)) ∈ gw := gw_t1 25 rfl rfl
theorem q_26 : (Jvm.Cond.methodLink "CrownTwo" (1 : Nat) ({ cls := "java/lang/Object", name := "<init>", desc := "()V" } : Jvm.MethodName)) ∈ gw := gw_t1 26 rfl rfl
theorem q_27 : (Jvm.Cond.instanceMethod ({ cls := "java/lang/Object", name := "<init>", desc := "()V" } : Jvm.MethodName)) ∈ gw := gw_t1 27 rfl rfl
theorem q_28 : (Jvm.Cond.code ({ cls := "java/lang/Object", name := "<init>", desc := "()V" } : Jvm.MethodName) object_method_1_code (1 : Nat) (Option.none : Option Jvm.ClassFile.FieldType)) ∈ gw := gw_t1 28 rfl rfl
theorem q_29 : (Jvm.Cond.classLink "CrownTwo" (13 : Nat) "CrownTwo$CourtText") ∈ gw := gw_t1 29 rfl rfl
theorem q_30 : (Jvm.Cond.instantiable "CrownTwo$CourtText" (6 : Nat)) ∈ gw := gw_t1 30 rfl rfl
theorem q_32 : (Jvm.Cond.instanceMethod ({ cls := "CrownTwo$CourtText", name := "<init>", desc := "()V" } : Jvm.MethodName)) ∈ gw := gw_t1 32 rfl rfl
theorem q_33 : (Jvm.Cond.code ({ cls := "CrownTwo$CourtText", name := "<init>", desc := "()V" } : Jvm.MethodName) prog_3_method_1_code (1 : Nat) (Option.none : Option Jvm.ClassFile.FieldType)) ∈ gw := gw_t1 33 rfl rfl
theorem q_34 : (Jvm.Cond.methodLink "CrownTwo$CourtText" (3 : Nat) ({ cls := "java/lang/Object", name := "<init>", desc := "()V" } : Jvm.MethodName)) ∈ gw := gw_t1 34 rfl rfl
theorem q_35 : (Jvm.Cond.fieldLink "CrownTwo$CourtText" (9 : Nat) "CrownTwo$CourtText" "bytes" "[I") ∈ gw := gw_t1 35 rfl rfl
theorem q_36 : (Jvm.Cond.fieldLink "CrownTwo$CourtText" (15 : Nat) "CrownTwo$CourtText" "length" "I") ∈ gw := gw_t1 36 rfl rfl
theorem q_37 : (Jvm.Cond.fieldLink "CrownTwo" (113 : Nat) "CrownTwo$CourtText" "length" "I") ∈ gw := gw_t1 37 rfl rfl
theorem q_38 : (Jvm.Cond.fieldLink "CrownTwo$CourtText" (19 : Nat) "CrownTwo$CourtText" "place" "I") ∈ gw := gw_t1 38 rfl rfl
theorem q_39 : (Jvm.Cond.fieldLink "CrownTwo" (123 : Nat) "CrownTwo$CourtText" "place" "I") ∈ gw := gw_t1 39 rfl rfl
theorem q_40 : (Jvm.Cond.fieldLink "CrownTwo$CourtText" (22 : Nat) "CrownTwo$CourtText" "behind" "I") ∈ gw := gw_t1 40 rfl rfl
theorem q_41 : (Jvm.Cond.fieldLink "CrownTwo$CourtText" (25 : Nat) "CrownTwo$CourtText" "sort" "I") ∈ gw := gw_t1 41 rfl rfl
theorem q_42 : (Jvm.Cond.fieldLink "CrownTwo$CourtText" (28 : Nat) "CrownTwo$CourtText" "number" "I") ∈ gw := gw_t1 42 rfl rfl
theorem q_43 : (Jvm.Cond.laysFinal "CrownTwo$CourtText" "CrownTwo$CourtText" "bytes" "[I") ∈ gw := gw_t1 43 rfl rfl
theorem q_45 : (Jvm.Cond.lays "CrownTwo$CourtText" "CrownTwo$CourtText" "length" "I") ∈ gw := gw_t1 45 rfl rfl
theorem q_47 : (Jvm.Cond.lays "CrownTwo$CourtText" "CrownTwo$CourtText" "place" "I") ∈ gw := gw_t1 47 rfl rfl
theorem q_49 : (Jvm.Cond.lays "CrownTwo$CourtText" "CrownTwo$CourtText" "behind" "I") ∈ gw := gw_t1 49 rfl rfl
theorem q_51 : (Jvm.Cond.lays "CrownTwo$CourtText" "CrownTwo$CourtText" "sort" "I") ∈ gw := gw_t1 51 rfl rfl
theorem q_53 : (Jvm.Cond.lays "CrownTwo$CourtText" "CrownTwo$CourtText" "number" "I") ∈ gw := gw_t1 53 rfl rfl
theorem q_55 : (Jvm.Cond.superclass "CrownTwo$CourtText" "java/lang/Object") ∈ gw := gw_t1 55 rfl rfl
theorem q_56 : (Jvm.Cond.arrayClass Jvm.ClassFile.FieldType.boolean) ∈ gw := gw_t1 56 rfl rfl
theorem q_57 : (Jvm.Cond.arrayClass Jvm.ClassFile.FieldType.int) ∈ gw := gw_t1 57 rfl rfl
theorem q_58 : (Jvm.Cond.classLink "CrownTwo" (20 : Nat) "CrownTwo$Moment") ∈ gw := gw_t1 58 rfl rfl
theorem q_59 : (Jvm.Cond.instantiable "CrownTwo$Moment" (5 : Nat)) ∈ gw := gw_t1 59 rfl rfl
theorem q_61 : (Jvm.Cond.instanceMethod ({ cls := "CrownTwo$Moment", name := "<init>", desc := "()V" } : Jvm.MethodName)) ∈ gw := gw_t1 61 rfl rfl
theorem q_62 : (Jvm.Cond.code ({ cls := "CrownTwo$Moment", name := "<init>", desc := "()V" } : Jvm.MethodName) prog_7_method_1_code (1 : Nat) (Option.none : Option Jvm.ClassFile.FieldType)) ∈ gw := gw_t1 62 rfl rfl
theorem q_63 : (Jvm.Cond.methodLink "CrownTwo$Moment" (3 : Nat) ({ cls := "java/lang/Object", name := "<init>", desc := "()V" } : Jvm.MethodName)) ∈ gw := gw_t1 63 rfl rfl
theorem q_64 : (Jvm.Cond.fieldLink "CrownTwo$Moment" (9 : Nat) "CrownTwo$Moment" "warmth" "I") ∈ gw := gw_t1 64 rfl rfl
theorem q_65 : (Jvm.Cond.fieldLink "CrownTwo" (165 : Nat) "CrownTwo$Moment" "warmth" "I") ∈ gw := gw_t1 65 rfl rfl
theorem q_66 : (Jvm.Cond.fieldLink "CrownTwo$Court" (126 : Nat) "CrownTwo$Moment" "warmth" "I") ∈ gw := gw_t1 66 rfl rfl
theorem q_67 : (Jvm.Cond.fieldLink "CrownTwo$Moment" (15 : Nat) "CrownTwo$Moment" "date" "I") ∈ gw := gw_t1 67 rfl rfl
theorem q_68 : (Jvm.Cond.fieldLink "CrownTwo" (177 : Nat) "CrownTwo$Moment" "date" "I") ∈ gw := gw_t1 68 rfl rfl
theorem q_69 : (Jvm.Cond.fieldLink "CrownTwo$Court" (129 : Nat) "CrownTwo$Moment" "date" "I") ∈ gw := gw_t1 69 rfl rfl
theorem q_70 : (Jvm.Cond.fieldLink "CrownTwo$Moment" (18 : Nat) "CrownTwo$Moment" "done" "I") ∈ gw := gw_t1 70 rfl rfl
theorem q_71 : (Jvm.Cond.fieldLink "CrownTwo$Court" (139 : Nat) "CrownTwo$Moment" "done" "I") ∈ gw := gw_t1 71 rfl rfl
theorem q_72 : (Jvm.Cond.fieldLink "CrownTwo" (295 : Nat) "CrownTwo$Moment" "done" "I") ∈ gw := gw_t1 72 rfl rfl
theorem q_73 : (Jvm.Cond.fieldLink "CrownTwo$Moment" (21 : Nat) "CrownTwo$Moment" "first" "I") ∈ gw := gw_t1 73 rfl rfl
theorem q_74 : (Jvm.Cond.fieldLink "CrownTwo$Court" (68 : Nat) "CrownTwo$Moment" "first" "I") ∈ gw := gw_t1 74 rfl rfl
theorem q_75 : (Jvm.Cond.fieldLink "CrownTwo" (140 : Nat) "CrownTwo$Moment" "first" "I") ∈ gw := gw_t1 75 rfl rfl
theorem q_76 : (Jvm.Cond.fieldLink "CrownTwo$CourtText" (106 : Nat) "CrownTwo$Moment" "first" "I") ∈ gw := gw_t1 76 rfl rfl
theorem q_77 : (Jvm.Cond.fieldLink "CrownTwo$Moment" (24 : Nat) "CrownTwo$Moment" "second" "I") ∈ gw := gw_t1 77 rfl rfl
theorem q_78 : (Jvm.Cond.fieldLink "CrownTwo$Court" (71 : Nat) "CrownTwo$Moment" "second" "I") ∈ gw := gw_t1 78 rfl rfl
theorem q_79 : (Jvm.Cond.fieldLink "CrownTwo" (143 : Nat) "CrownTwo$Moment" "second" "I") ∈ gw := gw_t1 79 rfl rfl
theorem q_80 : (Jvm.Cond.fieldLink "CrownTwo$CourtText" (111 : Nat) "CrownTwo$Moment" "second" "I") ∈ gw := gw_t1 80 rfl rfl
theorem q_81 : (Jvm.Cond.lays "CrownTwo$Moment" "CrownTwo$Moment" "warmth" "I") ∈ gw := gw_t1 81 rfl rfl
theorem q_83 : (Jvm.Cond.lays "CrownTwo$Moment" "CrownTwo$Moment" "date" "I") ∈ gw := gw_t1 83 rfl rfl
theorem q_85 : (Jvm.Cond.lays "CrownTwo$Moment" "CrownTwo$Moment" "done" "I") ∈ gw := gw_t1 85 rfl rfl
theorem q_87 : (Jvm.Cond.lays "CrownTwo$Moment" "CrownTwo$Moment" "first" "I") ∈ gw := gw_t1 87 rfl rfl
theorem q_89 : (Jvm.Cond.lays "CrownTwo$Moment" "CrownTwo$Moment" "second" "I") ∈ gw := gw_t1 89 rfl rfl
theorem q_91 : (Jvm.Cond.superclass "CrownTwo$Moment" "java/lang/Object") ∈ gw := gw_t1 91 rfl rfl
theorem q_93 : (Jvm.Cond.classLink "CrownTwo" (57 : Nat) "CrownTwo$Plain") ∈ gw := gw_t1 93 rfl rfl
theorem q_95 : (Jvm.Cond.instantiable "CrownTwo$Plain" (0 : Nat)) ∈ gw := gw_t1 95 rfl rfl
theorem q_97 : (Jvm.Cond.instanceMethod ({ cls := "CrownTwo$Plain", name := "<init>", desc := "()V" } : Jvm.MethodName)) ∈ gw := gw_t1 97 rfl rfl
theorem q_98 : (Jvm.Cond.code ({ cls := "CrownTwo$Plain", name := "<init>", desc := "()V" } : Jvm.MethodName) prog_9_method_1_code (1 : Nat) (Option.none : Option Jvm.ClassFile.FieldType)) ∈ gw := gw_t1 98 rfl rfl
theorem q_99 : (Jvm.Cond.methodLink "CrownTwo$Plain" (1 : Nat) ({ cls := "java/lang/Object", name := "<init>", desc := "()V" } : Jvm.MethodName)) ∈ gw := gw_t1 99 rfl rfl
theorem q_100 : (Jvm.Cond.superclass "CrownTwo$Plain" "java/lang/Object") ∈ gw := gw_t1 100 rfl rfl
theorem q_101 : (Jvm.Cond.classLink "CrownTwo" (60 : Nat) "CrownTwo$Sulky") ∈ gw := gw_t1 101 rfl rfl
theorem q_102 : (Jvm.Cond.instantiable "CrownTwo$Sulky" (0 : Nat)) ∈ gw := gw_t1 102 rfl rfl
theorem q_104 : (Jvm.Cond.instanceMethod ({ cls := "CrownTwo$Sulky", name := "<init>", desc := "()V" } : Jvm.MethodName)) ∈ gw := gw_t1 104 rfl rfl
theorem q_105 : (Jvm.Cond.code ({ cls := "CrownTwo$Sulky", name := "<init>", desc := "()V" } : Jvm.MethodName) prog_11_method_1_code (1 : Nat) (Option.none : Option Jvm.ClassFile.FieldType)) ∈ gw := gw_t1 105 rfl rfl
theorem q_107 : (Jvm.Cond.superclass "CrownTwo$Sulky" "CrownTwo$Plain") ∈ gw := gw_t1 107 rfl rfl
theorem q_108 : (Jvm.Cond.classLink "CrownTwo" (63 : Nat) "CrownTwo$Joker") ∈ gw := gw_t1 108 rfl rfl
theorem q_109 : (Jvm.Cond.instantiable "CrownTwo$Joker" (0 : Nat)) ∈ gw := gw_t1 109 rfl rfl
theorem q_111 : (Jvm.Cond.instanceMethod ({ cls := "CrownTwo$Joker", name := "<init>", desc := "()V" } : Jvm.MethodName)) ∈ gw := gw_t1 111 rfl rfl
theorem q_112 : (Jvm.Cond.code ({ cls := "CrownTwo$Joker", name := "<init>", desc := "()V" } : Jvm.MethodName) prog_6_method_1_code (1 : Nat) (Option.none : Option Jvm.ClassFile.FieldType)) ∈ gw := gw_t1 112 rfl rfl
theorem q_114 : (Jvm.Cond.superclass "CrownTwo$Joker" "CrownTwo$Plain") ∈ gw := gw_t1 114 rfl rfl
theorem q_115 : (Jvm.Cond.classLink "CrownTwo" (66 : Nat) "CrownTwo$Proud") ∈ gw := gw_t1 115 rfl rfl
theorem q_116 : (Jvm.Cond.instantiable "CrownTwo$Proud" (0 : Nat)) ∈ gw := gw_t1 116 rfl rfl
theorem q_118 : (Jvm.Cond.instanceMethod ({ cls := "CrownTwo$Proud", name := "<init>", desc := "()V" } : Jvm.MethodName)) ∈ gw := gw_t1 118 rfl rfl
theorem q_119 : (Jvm.Cond.code ({ cls := "CrownTwo$Proud", name := "<init>", desc := "()V" } : Jvm.MethodName) prog_10_method_1_code (1 : Nat) (Option.none : Option Jvm.ClassFile.FieldType)) ∈ gw := gw_t1 119 rfl rfl
theorem q_121 : (Jvm.Cond.superclass "CrownTwo$Proud" "CrownTwo$Plain") ∈ gw := gw_t1 121 rfl rfl
theorem q_122 : (Jvm.Cond.classLink "CrownTwo" (69 : Nat) "CrownTwo$Tired") ∈ gw := gw_t1 122 rfl rfl
theorem q_123 : (Jvm.Cond.instantiable "CrownTwo$Tired" (0 : Nat)) ∈ gw := gw_t1 123 rfl rfl
theorem q_125 : (Jvm.Cond.instanceMethod ({ cls := "CrownTwo$Tired", name := "<init>", desc := "()V" } : Jvm.MethodName)) ∈ gw := gw_t1 125 rfl rfl
theorem q_126 : (Jvm.Cond.code ({ cls := "CrownTwo$Tired", name := "<init>", desc := "()V" } : Jvm.MethodName) prog_12_method_1_code (1 : Nat) (Option.none : Option Jvm.ClassFile.FieldType)) ∈ gw := gw_t1 126 rfl rfl
theorem q_128 : (Jvm.Cond.superclass "CrownTwo$Tired" "CrownTwo$Sulky") ∈ gw := gw_t1 128 rfl rfl
theorem q_129 : (Jvm.Cond.classLink "CrownTwo" (72 : Nat) "CrownTwo$Forgiver") ∈ gw := gw_t1 129 rfl rfl
theorem q_130 : (Jvm.Cond.instantiable "CrownTwo$Forgiver" (0 : Nat)) ∈ gw := gw_t1 130 rfl rfl
theorem q_132 : (Jvm.Cond.instanceMethod ({ cls := "CrownTwo$Forgiver", name := "<init>", desc := "()V" } : Jvm.MethodName)) ∈ gw := gw_t1 132 rfl rfl
theorem q_133 : (Jvm.Cond.code ({ cls := "CrownTwo$Forgiver", name := "<init>", desc := "()V" } : Jvm.MethodName) prog_4_method_1_code (1 : Nat) (Option.none : Option Jvm.ClassFile.FieldType)) ∈ gw := gw_t1 133 rfl rfl
theorem q_135 : (Jvm.Cond.superclass "CrownTwo$Forgiver" "CrownTwo$Joker") ∈ gw := gw_t1 135 rfl rfl
theorem q_136 : (Jvm.Cond.classLink "CrownTwo" (75 : Nat) "CrownTwo$Court") ∈ gw := gw_t1 136 rfl rfl
theorem q_137 : (Jvm.Cond.instantiable "CrownTwo$Court" (8 : Nat)) ∈ gw := gw_t1 137 rfl rfl
theorem q_138 : (Jvm.Cond.methodLink "CrownTwo" (77 : Nat) ({ cls := "CrownTwo$Court", name := "<init>", desc := "([LCrownTwo$Plain;)V" } : Jvm.MethodName)) ∈ gw := gw_t1 138 rfl rfl
theorem q_139 : (Jvm.Cond.instanceMethod ({ cls := "CrownTwo$Court", name := "<init>", desc := "([LCrownTwo$Plain;)V" } : Jvm.MethodName)) ∈ gw := gw_t1 139 rfl rfl
theorem q_140 : (Jvm.Cond.code ({ cls := "CrownTwo$Court", name := "<init>", desc := "([LCrownTwo$Plain;)V" } : Jvm.MethodName) prog_2_method_1_code (3 : Nat) (Option.none : Option Jvm.ClassFile.FieldType)) ∈ gw := gw_t1 140 rfl rfl
theorem q_141 : (Jvm.Cond.methodLink "CrownTwo$Court" (3 : Nat) ({ cls := "java/lang/Object", name := "<init>", desc := "()V" } : Jvm.MethodName)) ∈ gw := gw_t1 141 rfl rfl
theorem q_142 : (Jvm.Cond.classLink "CrownTwo$Court" (9 : Nat) "CrownTwo$Heir") ∈ gw := gw_t1 142 rfl rfl
theorem q_144 : (Jvm.Cond.classLink "CrownTwo$Court" (17 : Nat) "CrownTwo$Note") ∈ gw := gw_t1 144 rfl rfl
theorem q_146 : (Jvm.Cond.classLink "CrownTwo$Court" (23 : Nat) "CrownTwo$Moment") ∈ gw := gw_t1 146 rfl rfl
theorem q_148 : (Jvm.Cond.instantiable "CrownTwo$Heir" (4 : Nat)) ∈ gw := gw_t1 148 rfl rfl
theorem q_150 : (Jvm.Cond.instanceMethod ({ cls := "CrownTwo$Heir", name := "<init>", desc := "()V" } : Jvm.MethodName)) ∈ gw := gw_t1 150 rfl rfl
theorem q_151 : (Jvm.Cond.code ({ cls := "CrownTwo$Heir", name := "<init>", desc := "()V" } : Jvm.MethodName) prog_5_method_1_code (1 : Nat) (Option.none : Option Jvm.ClassFile.FieldType)) ∈ gw := gw_t1 151 rfl rfl
theorem q_152 : (Jvm.Cond.methodLink "CrownTwo$Heir" (1 : Nat) ({ cls := "java/lang/Object", name := "<init>", desc := "()V" } : Jvm.MethodName)) ∈ gw := gw_t1 152 rfl rfl
theorem q_153 : (Jvm.Cond.fieldLink "CrownTwo$Heir" (7 : Nat) "CrownTwo$Heir" "kind" "I") ∈ gw := gw_t1 153 rfl rfl
theorem q_154 : (Jvm.Cond.fieldLink "CrownTwo$Court" (85 : Nat) "CrownTwo$Heir" "kind" "I") ∈ gw := gw_t1 154 rfl rfl
theorem q_155 : (Jvm.Cond.fieldLink "CrownTwo" (187 : Nat) "CrownTwo$Heir" "kind" "I") ∈ gw := gw_t1 155 rfl rfl
theorem q_156 : (Jvm.Cond.fieldLink "CrownTwo$Heir" (13 : Nat) "CrownTwo$Heir" "likes" "I") ∈ gw := gw_t1 156 rfl rfl
theorem q_157 : (Jvm.Cond.fieldLink "CrownTwo$CourtText" (90 : Nat) "CrownTwo$Heir" "likes" "I") ∈ gw := gw_t1 157 rfl rfl
theorem q_158 : (Jvm.Cond.fieldLink "CrownTwo" (192 : Nat) "CrownTwo$Heir" "likes" "I") ∈ gw := gw_t1 158 rfl rfl
theorem q_159 : (Jvm.Cond.fieldLink "CrownTwo$Heir" (16 : Nat) "CrownTwo$Heir" "hates" "I") ∈ gw := gw_t1 159 rfl rfl
theorem q_160 : (Jvm.Cond.fieldLink "CrownTwo$CourtText" (95 : Nat) "CrownTwo$Heir" "hates" "I") ∈ gw := gw_t1 160 rfl rfl
theorem q_161 : (Jvm.Cond.fieldLink "CrownTwo" (195 : Nat) "CrownTwo$Heir" "hates" "I") ∈ gw := gw_t1 161 rfl rfl
theorem q_162 : (Jvm.Cond.fieldLink "CrownTwo$Heir" (19 : Nat) "CrownTwo$Heir" "temper" "I") ∈ gw := gw_t1 162 rfl rfl
theorem q_163 : (Jvm.Cond.fieldLink "CrownTwo$Court" (88 : Nat) "CrownTwo$Heir" "temper" "I") ∈ gw := gw_t1 163 rfl rfl
theorem q_164 : (Jvm.Cond.fieldLink "CrownTwo" (198 : Nat) "CrownTwo$Heir" "temper" "I") ∈ gw := gw_t1 164 rfl rfl
theorem q_165 : (Jvm.Cond.lays "CrownTwo$Heir" "CrownTwo$Heir" "kind" "I") ∈ gw := gw_t1 165 rfl rfl
theorem q_167 : (Jvm.Cond.lays "CrownTwo$Heir" "CrownTwo$Heir" "likes" "I") ∈ gw := gw_t1 167 rfl rfl
theorem q_169 : (Jvm.Cond.lays "CrownTwo$Heir" "CrownTwo$Heir" "hates" "I") ∈ gw := gw_t1 169 rfl rfl
theorem q_171 : (Jvm.Cond.lays "CrownTwo$Heir" "CrownTwo$Heir" "temper" "I") ∈ gw := gw_t1 171 rfl rfl
theorem q_173 : (Jvm.Cond.superclass "CrownTwo$Heir" "java/lang/Object") ∈ gw := gw_t1 173 rfl rfl
theorem q_174 : (Jvm.Cond.instantiable "CrownTwo$Note" (5 : Nat)) ∈ gw := gw_t1 174 rfl rfl
theorem q_176 : (Jvm.Cond.instanceMethod ({ cls := "CrownTwo$Note", name := "<init>", desc := "()V" } : Jvm.MethodName)) ∈ gw := gw_t1 176 rfl rfl
theorem q_177 : (Jvm.Cond.code ({ cls := "CrownTwo$Note", name := "<init>", desc := "()V" } : Jvm.MethodName) prog_8_method_1_code (1 : Nat) (Option.none : Option Jvm.ClassFile.FieldType)) ∈ gw := gw_t1 177 rfl rfl
theorem q_178 : (Jvm.Cond.methodLink "CrownTwo$Note" (1 : Nat) ({ cls := "java/lang/Object", name := "<init>", desc := "()V" } : Jvm.MethodName)) ∈ gw := gw_t1 178 rfl rfl
theorem q_179 : (Jvm.Cond.fieldLink "CrownTwo$Note" (7 : Nat) "CrownTwo$Note" "heir" "I") ∈ gw := gw_t1 179 rfl rfl
theorem q_180 : (Jvm.Cond.fieldLink "CrownTwo$Court" (145 : Nat) "CrownTwo$Note" "heir" "I") ∈ gw := gw_t1 180 rfl rfl
theorem q_181 : (Jvm.Cond.fieldLink "CrownTwo$Note" (13 : Nat) "CrownTwo$Note" "act" "I") ∈ gw := gw_t1 181 rfl rfl
theorem q_182 : (Jvm.Cond.fieldLink "CrownTwo$Court" (148 : Nat) "CrownTwo$Note" "act" "I") ∈ gw := gw_t1 182 rfl rfl
theorem q_183 : (Jvm.Cond.fieldLink "CrownTwo$Note" (16 : Nat) "CrownTwo$Note" "warmth" "I") ∈ gw := gw_t1 183 rfl rfl
theorem q_184 : (Jvm.Cond.fieldLink "CrownTwo$Court" (151 : Nat) "CrownTwo$Note" "warmth" "I") ∈ gw := gw_t1 184 rfl rfl
theorem q_185 : (Jvm.Cond.fieldLink "CrownTwo$Note" (19 : Nat) "CrownTwo$Note" "date" "I") ∈ gw := gw_t1 185 rfl rfl
theorem q_186 : (Jvm.Cond.fieldLink "CrownTwo$Court" (152 : Nat) "CrownTwo$Note" "date" "I") ∈ gw := gw_t1 186 rfl rfl
theorem q_187 : (Jvm.Cond.fieldLink "CrownTwo$Note" (22 : Nat) "CrownTwo$Note" "lifted" "I") ∈ gw := gw_t1 187 rfl rfl
theorem q_188 : (Jvm.Cond.fieldLink "CrownTwo$Court" (153 : Nat) "CrownTwo$Note" "lifted" "I") ∈ gw := gw_t1 188 rfl rfl
theorem q_189 : (Jvm.Cond.lays "CrownTwo$Note" "CrownTwo$Note" "heir" "I") ∈ gw := gw_t1 189 rfl rfl
theorem q_191 : (Jvm.Cond.lays "CrownTwo$Note" "CrownTwo$Note" "act" "I") ∈ gw := gw_t1 191 rfl rfl
theorem q_193 : (Jvm.Cond.lays "CrownTwo$Note" "CrownTwo$Note" "warmth" "I") ∈ gw := gw_t1 193 rfl rfl
theorem q_195 : (Jvm.Cond.lays "CrownTwo$Note" "CrownTwo$Note" "date" "I") ∈ gw := gw_t1 195 rfl rfl
theorem q_197 : (Jvm.Cond.lays "CrownTwo$Note" "CrownTwo$Note" "lifted" "I") ∈ gw := gw_t1 197 rfl rfl
theorem q_199 : (Jvm.Cond.superclass "CrownTwo$Note" "java/lang/Object") ∈ gw := gw_t1 199 rfl rfl
theorem q_200 : (Jvm.Cond.fieldLink "CrownTwo$Court" (44 : Nat) "CrownTwo$Court" "kinds" "[LCrownTwo$Plain;") ∈ gw := gw_t1 200 rfl rfl
theorem q_201 : (Jvm.Cond.fieldLink "CrownTwo$Court" (11 : Nat) "CrownTwo$Court" "heirs" "[LCrownTwo$Heir;") ∈ gw := gw_t1 201 rfl rfl
theorem q_202 : (Jvm.Cond.fieldLink "CrownTwo$CourtText" (86 : Nat) "CrownTwo$Court" "heirs" "[LCrownTwo$Heir;") ∈ gw := gw_t1 202 rfl rfl
theorem q_203 : (Jvm.Cond.fieldLink "CrownTwo" (183 : Nat) "CrownTwo$Court" "heirs" "[LCrownTwo$Heir;") ∈ gw := gw_t1 203 rfl rfl
theorem q_204 : (Jvm.Cond.fieldLink "CrownTwo$Court" (19 : Nat) "CrownTwo$Court" "notes" "[LCrownTwo$Note;") ∈ gw := gw_t1 204 rfl rfl
theorem q_205 : (Jvm.Cond.fieldLink "CrownTwo" (244 : Nat) "CrownTwo$Court" "notes" "[LCrownTwo$Note;") ∈ gw := gw_t1 205 rfl rfl
theorem q_206 : (Jvm.Cond.fieldLink "CrownTwo$Court" (25 : Nat) "CrownTwo$Court" "past" "[LCrownTwo$Moment;") ∈ gw := gw_t1 206 rfl rfl
theorem q_207 : (Jvm.Cond.fieldLink "CrownTwo$Court" (30 : Nat) "CrownTwo$Court" "now" "LCrownTwo$Moment;") ∈ gw := gw_t1 207 rfl rfl
theorem q_208 : (Jvm.Cond.fieldLink "CrownTwo" (137 : Nat) "CrownTwo$Court" "now" "LCrownTwo$Moment;") ∈ gw := gw_t1 208 rfl rfl
theorem q_209 : (Jvm.Cond.fieldLink "CrownTwo$CourtText" (102 : Nat) "CrownTwo$Court" "now" "LCrownTwo$Moment;") ∈ gw := gw_t1 209 rfl rfl
theorem q_210 : (Jvm.Cond.fieldLink "CrownTwo$Court" (34 : Nat) "CrownTwo$Court" "heirCount" "I") ∈ gw := gw_t1 210 rfl rfl
theorem q_211 : (Jvm.Cond.fieldLink "CrownTwo" (99 : Nat) "CrownTwo$Court" "heirCount" "I") ∈ gw := gw_t1 211 rfl rfl
theorem q_212 : (Jvm.Cond.fieldLink "CrownTwo$CourtText" (79 : Nat) "CrownTwo$Court" "heirCount" "I") ∈ gw := gw_t1 212 rfl rfl
theorem q_213 : (Jvm.Cond.fieldLink "CrownTwo$Court" (38 : Nat) "CrownTwo$Court" "noteCount" "I") ∈ gw := gw_t1 213 rfl rfl
theorem q_214 : (Jvm.Cond.fieldLink "CrownTwo" (241 : Nat) "CrownTwo$Court" "noteCount" "I") ∈ gw := gw_t1 214 rfl rfl
theorem q_215 : (Jvm.Cond.fieldLink "CrownTwo$Court" (41 : Nat) "CrownTwo$Court" "pastCount" "I") ∈ gw := gw_t1 215 rfl rfl
theorem q_216 : (Jvm.Cond.fieldLink "CrownTwo" (171 : Nat) "CrownTwo$Court" "pastCount" "I") ∈ gw := gw_t1 216 rfl rfl
theorem q_217 : (Jvm.Cond.laysFinal "CrownTwo$Court" "CrownTwo$Court" "kinds" "[LCrownTwo$Plain;") ∈ gw := gw_t1 217 rfl rfl
theorem q_219 : (Jvm.Cond.laysFinal "CrownTwo$Court" "CrownTwo$Court" "heirs" "[LCrownTwo$Heir;") ∈ gw := gw_t1 219 rfl rfl
theorem q_221 : (Jvm.Cond.laysFinal "CrownTwo$Court" "CrownTwo$Court" "notes" "[LCrownTwo$Note;") ∈ gw := gw_t1 221 rfl rfl
theorem q_223 : (Jvm.Cond.laysFinal "CrownTwo$Court" "CrownTwo$Court" "past" "[LCrownTwo$Moment;") ∈ gw := gw_t1 223 rfl rfl
theorem q_225 : (Jvm.Cond.laysFinal "CrownTwo$Court" "CrownTwo$Court" "now" "LCrownTwo$Moment;") ∈ gw := gw_t1 225 rfl rfl
theorem q_227 : (Jvm.Cond.lays "CrownTwo$Court" "CrownTwo$Court" "heirCount" "I") ∈ gw := gw_t1 227 rfl rfl
theorem q_229 : (Jvm.Cond.lays "CrownTwo$Court" "CrownTwo$Court" "noteCount" "I") ∈ gw := gw_t1 229 rfl rfl
theorem q_231 : (Jvm.Cond.lays "CrownTwo$Court" "CrownTwo$Court" "pastCount" "I") ∈ gw := gw_t1 231 rfl rfl
theorem q_233 : (Jvm.Cond.superclass "CrownTwo$Court" "java/lang/Object") ∈ gw := gw_t1 233 rfl rfl
theorem q_235 : (Jvm.Cond.fieldLink "CrownTwo" (80 : Nat) "CrownTwo" "court" "LCrownTwo$Court;") ∈ gw := gw_t1 235 rfl rfl
theorem q_236 : (Jvm.Cond.fieldLink "CrownTwo" (84 : Nat) "CrownTwo" "draft" "LCrownTwo$Court;") ∈ gw := gw_t1 236 rfl rfl
theorem q_237 : (Jvm.Cond.fieldLink "CrownTwo" (87 : Nat) "CrownTwo" "images" "[LCrownTwo$Court;") ∈ gw := gw_t1 237 rfl rfl
theorem q_238 : (Jvm.Cond.fieldLink "CrownTwo" (9 : Nat) "CrownTwo" "kept" "[Z") ∈ gw := gw_t1 238 rfl rfl
theorem q_239 : (Jvm.Cond.fieldLink "CrownTwo" (16 : Nat) "CrownTwo" "text" "LCrownTwo$CourtText;") ∈ gw := gw_t1 239 rfl rfl
theorem q_240 : (Jvm.Cond.fieldLink "CrownTwo" (23 : Nat) "CrownTwo" "trial" "LCrownTwo$Moment;") ∈ gw := gw_t2 0 rfl rfl
theorem q_241 : (Jvm.Cond.fieldLink "CrownTwo" (27 : Nat) "CrownTwo" "steps" "[LCrownTwo$Moment;") ∈ gw := gw_t2 1 rfl rfl
theorem q_242 : (Jvm.Cond.fieldLink "CrownTwo" (31 : Nat) "CrownTwo" "way" "[I") ∈ gw := gw_t2 2 rfl rfl
theorem q_243 : (Jvm.Cond.fieldLink "CrownTwo" (35 : Nat) "CrownTwo" "bestWay" "[I") ∈ gw := gw_t2 3 rfl rfl
theorem q_244 : (Jvm.Cond.fieldLink "CrownTwo" (38 : Nat) "CrownTwo" "mostDone" "I") ∈ gw := gw_t2 4 rfl rfl
theorem q_245 : (Jvm.Cond.fieldLink "CrownTwo" (42 : Nat) "CrownTwo" "above" "I") ∈ gw := gw_t2 5 rfl rfl
theorem q_246 : (Jvm.Cond.fieldLink "CrownTwo" (45 : Nat) "CrownTwo" "below" "I") ∈ gw := gw_t2 6 rfl rfl
theorem q_247 : (Jvm.Cond.fieldLink "CrownTwo" (48 : Nat) "CrownTwo" "bads" "I") ∈ gw := gw_t2 7 rfl rfl
theorem q_248 : (Jvm.Cond.fieldLink "CrownTwo" (51 : Nat) "CrownTwo" "noes" "I") ∈ gw := gw_t2 8 rfl rfl
theorem q_249 : (Jvm.Cond.fieldLink "CrownTwo" (54 : Nat) "CrownTwo" "fulls" "I") ∈ gw := gw_t2 9 rfl rfl
theorem q_250 : (Jvm.Cond.laysFinal "CrownTwo" "CrownTwo" "court" "LCrownTwo$Court;") ∈ gw := gw_t2 10 rfl rfl
theorem q_252 : (Jvm.Cond.laysFinal "CrownTwo" "CrownTwo" "draft" "LCrownTwo$Court;") ∈ gw := gw_t2 12 rfl rfl
theorem q_254 : (Jvm.Cond.laysFinal "CrownTwo" "CrownTwo" "images" "[LCrownTwo$Court;") ∈ gw := gw_t2 14 rfl rfl
theorem q_256 : (Jvm.Cond.laysFinal "CrownTwo" "CrownTwo" "kept" "[Z") ∈ gw := gw_t2 16 rfl rfl
theorem q_258 : (Jvm.Cond.laysFinal "CrownTwo" "CrownTwo" "text" "LCrownTwo$CourtText;") ∈ gw := gw_t2 18 rfl rfl
theorem q_260 : (Jvm.Cond.laysFinal "CrownTwo" "CrownTwo" "trial" "LCrownTwo$Moment;") ∈ gw := gw_t2 20 rfl rfl
theorem q_262 : (Jvm.Cond.laysFinal "CrownTwo" "CrownTwo" "steps" "[LCrownTwo$Moment;") ∈ gw := gw_t2 22 rfl rfl
theorem q_264 : (Jvm.Cond.laysFinal "CrownTwo" "CrownTwo" "way" "[I") ∈ gw := gw_t2 24 rfl rfl
theorem q_266 : (Jvm.Cond.laysFinal "CrownTwo" "CrownTwo" "bestWay" "[I") ∈ gw := gw_t2 26 rfl rfl
theorem q_268 : (Jvm.Cond.lays "CrownTwo" "CrownTwo" "mostDone" "I") ∈ gw := gw_t2 28 rfl rfl
theorem q_270 : (Jvm.Cond.lays "CrownTwo" "CrownTwo" "above" "I") ∈ gw := gw_t2 30 rfl rfl
theorem q_272 : (Jvm.Cond.lays "CrownTwo" "CrownTwo" "below" "I") ∈ gw := gw_t2 32 rfl rfl
theorem q_274 : (Jvm.Cond.lays "CrownTwo" "CrownTwo" "bads" "I") ∈ gw := gw_t2 34 rfl rfl
theorem q_276 : (Jvm.Cond.lays "CrownTwo" "CrownTwo" "noes" "I") ∈ gw := gw_t2 36 rfl rfl
theorem q_278 : (Jvm.Cond.lays "CrownTwo" "CrownTwo" "fulls" "I") ∈ gw := gw_t2 38 rfl rfl
theorem q_280 : (Jvm.Cond.superclass "CrownTwo" "java/lang/Object") ∈ gw := gw_t2 40 rfl rfl
theorem q_281 : (Jvm.Cond.methodLink "CrownTwoLaw" (13 : Nat) ({ cls := "CrownTwo", name := "court", desc := "(I)I" } : Jvm.MethodName)) ∈ gw := gw_t2 41 rfl rfl
theorem q_282 : (Jvm.Cond.instanceMethod ({ cls := "CrownTwo", name := "court", desc := "(I)I" } : Jvm.MethodName)) ∈ gw := gw_t2 42 rfl rfl
theorem q_283 : (Jvm.Cond.selects "CrownTwo" ({ cls := "CrownTwo", name := "court", desc := "(I)I" } : Jvm.MethodName) ({ cls := "CrownTwo", name := "court", desc := "(I)I" } : Jvm.MethodName)) ∈ gw := gw_t2 43 rfl rfl
theorem q_284 : (Jvm.Cond.code ({ cls := "CrownTwo", name := "court", desc := "(I)I" } : Jvm.MethodName) prog_1_method_2_code (3 : Nat) (Option.some Jvm.ClassFile.FieldType.int)) ∈ gw := gw_t2 44 rfl rfl
theorem q_285 : (Jvm.Cond.methodLink "CrownTwo" (91 : Nat) ({ cls := "CrownTwo", name := "outside", desc := "(III)Z" } : Jvm.MethodName)) ∈ gw := gw_t2 45 rfl rfl
theorem q_286 : (Jvm.Cond.static ({ cls := "CrownTwo", name := "outside", desc := "(III)Z" } : Jvm.MethodName)) ∈ gw := gw_t2 46 rfl rfl
theorem q_287 : (Jvm.Cond.code ({ cls := "CrownTwo", name := "outside", desc := "(III)Z" } : Jvm.MethodName) prog_1_method_39_code (3 : Nat) (Option.some Jvm.ClassFile.FieldType.boolean)) ∈ gw := gw_t2 47 rfl rfl
theorem q_288 : (Jvm.Cond.methodLink "CrownTwo" (95 : Nat) ({ cls := "CrownTwo", name := "bad", desc := "()I" } : Jvm.MethodName)) ∈ gw := gw_t2 48 rfl rfl
theorem q_290 : (Jvm.Cond.instanceMethod ({ cls := "CrownTwo", name := "bad", desc := "()I" } : Jvm.MethodName)) ∈ gw := gw_t2 50 rfl rfl
theorem q_291 : (Jvm.Cond.code ({ cls := "CrownTwo", name := "bad", desc := "()I" } : Jvm.MethodName) prog_1_method_36_code (1 : Nat) (Option.some Jvm.ClassFile.FieldType.int)) ∈ gw := gw_t2 51 rfl rfl
theorem q_292 : (Jvm.Cond.methodLink "CrownTwo" (102 : Nat) ({ cls := "CrownTwo$Court", name := "begin", desc := "(I)V" } : Jvm.MethodName)) ∈ gw := gw_t2 52 rfl rfl
theorem q_293 : (Jvm.Cond.instanceMethod ({ cls := "CrownTwo$Court", name := "begin", desc := "(I)V" } : Jvm.MethodName)) ∈ gw := gw_t2 53 rfl rfl
theorem q_294 : (Jvm.Cond.selects "CrownTwo$Court" ({ cls := "CrownTwo$Court", name := "begin", desc := "(I)V" } : Jvm.MethodName) ({ cls := "CrownTwo$Court", name := "begin", desc := "(I)V" } : Jvm.MethodName)) ∈ gw := gw_t2 54 rfl rfl
theorem q_295 : (Jvm.Cond.code ({ cls := "CrownTwo$Court", name := "begin", desc := "(I)V" } : Jvm.MethodName) prog_2_method_2_code (2 : Nat) (Option.none : Option Jvm.ClassFile.FieldType)) ∈ gw := gw_t2 55 rfl rfl
theorem q_296 : (Jvm.Cond.methodLink "CrownTwo$Court" (50 : Nat) ({ cls := "CrownTwo$Moment", name := "begin", desc := "(I)V" } : Jvm.MethodName)) ∈ gw := gw_t2 56 rfl rfl
theorem q_297 : (Jvm.Cond.instanceMethod ({ cls := "CrownTwo$Moment", name := "begin", desc := "(I)V" } : Jvm.MethodName)) ∈ gw := gw_t2 57 rfl rfl
theorem q_298 : (Jvm.Cond.selects "CrownTwo$Moment" ({ cls := "CrownTwo$Moment", name := "begin", desc := "(I)V" } : Jvm.MethodName) ({ cls := "CrownTwo$Moment", name := "begin", desc := "(I)V" } : Jvm.MethodName)) ∈ gw := gw_t2 58 rfl rfl
theorem q_299 : (Jvm.Cond.code ({ cls := "CrownTwo$Moment", name := "begin", desc := "(I)V" } : Jvm.MethodName) prog_7_method_2_code (2 : Nat) (Option.none : Option Jvm.ClassFile.FieldType)) ∈ gw := gw_t2 59 rfl rfl
theorem q_300 : (Jvm.Cond.methodLink "CrownTwoLaw" (18 : Nat) ({ cls := "CrownTwo", name := "heir", desc := "(IIII)I" } : Jvm.MethodName)) ∈ gw := gw_t2 60 rfl rfl
theorem q_301 : (Jvm.Cond.instanceMethod ({ cls := "CrownTwo", name := "heir", desc := "(IIII)I" } : Jvm.MethodName)) ∈ gw := gw_t2 61 rfl rfl
theorem q_302 : (Jvm.Cond.selects "CrownTwo" ({ cls := "CrownTwo", name := "heir", desc := "(IIII)I" } : Jvm.MethodName) ({ cls := "CrownTwo", name := "heir", desc := "(IIII)I" } : Jvm.MethodName)) ∈ gw := gw_t2 62 rfl rfl
theorem q_303 : (Jvm.Cond.code ({ cls := "CrownTwo", name := "heir", desc := "(IIII)I" } : Jvm.MethodName) prog_1_method_3_code (5 : Nat) (Option.some Jvm.ClassFile.FieldType.int)) ∈ gw := gw_t2 63 rfl rfl
theorem q_304 : (Jvm.Cond.methodLink "CrownTwo" (106 : Nat) ({ cls := "CrownTwo", name := "full", desc := "()I" } : Jvm.MethodName)) ∈ gw := gw_t2 64 rfl rfl
theorem q_306 : (Jvm.Cond.instanceMethod ({ cls := "CrownTwo", name := "full", desc := "()I" } : Jvm.MethodName)) ∈ gw := gw_t2 66 rfl rfl
theorem q_307 : (Jvm.Cond.code ({ cls := "CrownTwo", name := "full", desc := "()I" } : Jvm.MethodName) prog_1_method_38_code (1 : Nat) (Option.some Jvm.ClassFile.FieldType.int)) ∈ gw := gw_t2 67 rfl rfl
theorem q_308 : (Jvm.Cond.methodLink "CrownTwo" (109 : Nat) yX0_admit) ∈ gw := gw_t2 68 rfl rfl
theorem q_309 : (Jvm.Cond.instanceMethod yX0_admit) ∈ gw := gw_t2 69 rfl rfl
theorem q_310 : (Jvm.Cond.selects "CrownTwo$Court" yX0_admit yX0_admit) ∈ gw := gw_t2 70 rfl rfl
theorem q_311 : (Jvm.Cond.code yX0_admit prog_2_method_7_code (5 : Nat) (Option.some Jvm.ClassFile.FieldType.int)) ∈ gw := gw_t2 71 rfl rfl
theorem q_312 : (Jvm.Cond.methodLink "CrownTwo$Court" (78 : Nat) ({ cls := "CrownTwo$Heir", name := "put", desc := "(IIII)V" } : Jvm.MethodName)) ∈ gw := gw_t2 72 rfl rfl
theorem q_313 : (Jvm.Cond.instanceMethod ({ cls := "CrownTwo$Heir", name := "put", desc := "(IIII)V" } : Jvm.MethodName)) ∈ gw := gw_t2 73 rfl rfl
theorem q_314 : (Jvm.Cond.selects "CrownTwo$Heir" ({ cls := "CrownTwo$Heir", name := "put", desc := "(IIII)V" } : Jvm.MethodName) ({ cls := "CrownTwo$Heir", name := "put", desc := "(IIII)V" } : Jvm.MethodName)) ∈ gw := gw_t2 74 rfl rfl
theorem q_315 : (Jvm.Cond.code ({ cls := "CrownTwo$Heir", name := "put", desc := "(IIII)V" } : Jvm.MethodName) prog_5_method_2_code (5 : Nat) (Option.none : Option Jvm.ClassFile.FieldType)) ∈ gw := gw_t2 75 rfl rfl
theorem q_316 : (Jvm.Cond.methodLink "CrownTwoLaw" (23 : Nat) ({ cls := "CrownTwo", name := "type", desc := "(I)I" } : Jvm.MethodName)) ∈ gw := gw_t2 76 rfl rfl
theorem q_317 : (Jvm.Cond.instanceMethod ({ cls := "CrownTwo", name := "type", desc := "(I)I" } : Jvm.MethodName)) ∈ gw := gw_t2 77 rfl rfl
theorem q_318 : (Jvm.Cond.selects "CrownTwo" ({ cls := "CrownTwo", name := "type", desc := "(I)I" } : Jvm.MethodName) ({ cls := "CrownTwo", name := "type", desc := "(I)I" } : Jvm.MethodName)) ∈ gw := gw_t2 78 rfl rfl
theorem q_319 : (Jvm.Cond.code ({ cls := "CrownTwo", name := "type", desc := "(I)I" } : Jvm.MethodName) prog_1_method_4_code (2 : Nat) (Option.some Jvm.ClassFile.FieldType.int)) ∈ gw := gw_t2 79 rfl rfl
theorem q_320 : (Jvm.Cond.methodLink "CrownTwo" (116 : Nat) ({ cls := "CrownTwo$CourtText", name := "append", desc := "(I)V" } : Jvm.MethodName)) ∈ gw := gw_t2 80 rfl rfl
theorem q_321 : (Jvm.Cond.instanceMethod ({ cls := "CrownTwo$CourtText", name := "append", desc := "(I)V" } : Jvm.MethodName)) ∈ gw := gw_t2 81 rfl rfl
theorem q_322 : (Jvm.Cond.selects "CrownTwo$CourtText" ({ cls := "CrownTwo$CourtText", name := "append", desc := "(I)V" } : Jvm.MethodName) ({ cls := "CrownTwo$CourtText", name := "append", desc := "(I)V" } : Jvm.MethodName)) ∈ gw := gw_t2 82 rfl rfl
theorem q_323 : (Jvm.Cond.code ({ cls := "CrownTwo$CourtText", name := "append", desc := "(I)V" } : Jvm.MethodName) prog_3_method_2_code (2 : Nat) (Option.none : Option Jvm.ClassFile.FieldType)) ∈ gw := gw_t2 83 rfl rfl
theorem q_324 : (Jvm.Cond.methodLink "CrownTwoLaw" (27 : Nat) ({ cls := "CrownTwo", name := "clear", desc := "()I" } : Jvm.MethodName)) ∈ gw := gw_t2 84 rfl rfl
theorem q_325 : (Jvm.Cond.instanceMethod ({ cls := "CrownTwo", name := "clear", desc := "()I" } : Jvm.MethodName)) ∈ gw := gw_t2 85 rfl rfl
theorem q_326 : (Jvm.Cond.selects "CrownTwo" ({ cls := "CrownTwo", name := "clear", desc := "()I" } : Jvm.MethodName) ({ cls := "CrownTwo", name := "clear", desc := "()I" } : Jvm.MethodName)) ∈ gw := gw_t2 86 rfl rfl
theorem q_327 : (Jvm.Cond.code ({ cls := "CrownTwo", name := "clear", desc := "()I" } : Jvm.MethodName) prog_1_method_5_code (2 : Nat) (Option.some Jvm.ClassFile.FieldType.int)) ∈ gw := gw_t2 87 rfl rfl
theorem q_328 : (Jvm.Cond.methodLink "CrownTwoLaw" (32 : Nat) ({ cls := "CrownTwo", name := "read", desc := "()I" } : Jvm.MethodName)) ∈ gw := gw_t2 88 rfl rfl
theorem q_329 : (Jvm.Cond.instanceMethod ({ cls := "CrownTwo", name := "read", desc := "()I" } : Jvm.MethodName)) ∈ gw := gw_t2 89 rfl rfl
theorem q_330 : (Jvm.Cond.selects "CrownTwo" ({ cls := "CrownTwo", name := "read", desc := "()I" } : Jvm.MethodName) ({ cls := "CrownTwo", name := "read", desc := "()I" } : Jvm.MethodName)) ∈ gw := gw_t2 90 rfl rfl
theorem q_331 : (Jvm.Cond.code ({ cls := "CrownTwo", name := "read", desc := "()I" } : Jvm.MethodName) prog_1_method_6_code (2 : Nat) (Option.some Jvm.ClassFile.FieldType.int)) ∈ gw := gw_t2 91 rfl rfl
theorem q_332 : (Jvm.Cond.methodLink "CrownTwo" (119 : Nat) ({ cls := "CrownTwo$CourtText", name := "parseInto", desc := "(LCrownTwo$Court;)I" } : Jvm.MethodName)) ∈ gw := gw_t2 92 rfl rfl
theorem q_333 : (Jvm.Cond.instanceMethod ({ cls := "CrownTwo$CourtText", name := "parseInto", desc := "(LCrownTwo$Court;)I" } : Jvm.MethodName)) ∈ gw := gw_t2 93 rfl rfl
theorem q_334 : (Jvm.Cond.selects "CrownTwo$CourtText" ({ cls := "CrownTwo$CourtText", name := "parseInto", desc := "(LCrownTwo$Court;)I" } : Jvm.MethodName) ({ cls := "CrownTwo$CourtText", name := "parseInto", desc := "(LCrownTwo$Court;)I" } : Jvm.MethodName)) ∈ gw := gw_t2 94 rfl rfl
theorem q_335 : (Jvm.Cond.code ({ cls := "CrownTwo$CourtText", name := "parseInto", desc := "(LCrownTwo$Court;)I" } : Jvm.MethodName) prog_3_method_3_code (3 : Nat) (Option.some Jvm.ClassFile.FieldType.int)) ∈ gw := gw_t2 95 rfl rfl
theorem q_336 : (Jvm.Cond.methodLink "CrownTwo$CourtText" (31 : Nat) ({ cls := "CrownTwo$CourtText", name := "advance", desc := "()V" } : Jvm.MethodName)) ∈ gw := gw_t2 96 rfl rfl
theorem q_338 : (Jvm.Cond.instanceMethod ({ cls := "CrownTwo$CourtText", name := "advance", desc := "()V" } : Jvm.MethodName)) ∈ gw := gw_t2 98 rfl rfl
theorem q_339 : (Jvm.Cond.code ({ cls := "CrownTwo$CourtText", name := "advance", desc := "()V" } : Jvm.MethodName) prog_3_method_12_code (1 : Nat) (Option.none : Option Jvm.ClassFile.FieldType)) ∈ gw := gw_t2 99 rfl rfl
theorem q_340 : (Jvm.Cond.methodLink "CrownTwo$CourtText" (123 : Nat) ({ cls := "CrownTwo$CourtText", name := "sortAt", desc := "(I)I" } : Jvm.MethodName)) ∈ gw := gw_t2 100 rfl rfl
theorem q_342 : (Jvm.Cond.instanceMethod ({ cls := "CrownTwo$CourtText", name := "sortAt", desc := "(I)I" } : Jvm.MethodName)) ∈ gw := gw_t2 102 rfl rfl
theorem q_343 : (Jvm.Cond.code ({ cls := "CrownTwo$CourtText", name := "sortAt", desc := "(I)I" } : Jvm.MethodName) prog_3_method_13_code (3 : Nat) (Option.some Jvm.ClassFile.FieldType.int)) ∈ gw := gw_t2 103 rfl rfl
theorem q_344 : (Jvm.Cond.methodLink "CrownTwo$CourtText" (34 : Nat) ({ cls := "CrownTwo$CourtText", name := "courtItem", desc := "(LCrownTwo$Court;)Z" } : Jvm.MethodName)) ∈ gw := gw_t2 104 rfl rfl
theorem q_346 : (Jvm.Cond.instanceMethod ({ cls := "CrownTwo$CourtText", name := "courtItem", desc := "(LCrownTwo$Court;)Z" } : Jvm.MethodName)) ∈ gw := gw_t2 106 rfl rfl
theorem q_347 : (Jvm.Cond.code ({ cls := "CrownTwo$CourtText", name := "courtItem", desc := "(LCrownTwo$Court;)Z" } : Jvm.MethodName) prog_3_method_4_code (3 : Nat) (Option.some Jvm.ClassFile.FieldType.boolean)) ∈ gw := gw_t2 107 rfl rfl
theorem q_349 : (Jvm.Cond.methodLink "CrownTwo$CourtText" (43 : Nat) ({ cls := "CrownTwo$CourtText", name := "isWord", desc := "(Ljava/lang/String;)Z" } : Jvm.MethodName)) ∈ gw := gw_t2 109 rfl rfl
theorem q_351 : (Jvm.Cond.instanceMethod ({ cls := "CrownTwo$CourtText", name := "isWord", desc := "(Ljava/lang/String;)Z" } : Jvm.MethodName)) ∈ gw := gw_t2 111 rfl rfl
theorem q_352 : (Jvm.Cond.code ({ cls := "CrownTwo$CourtText", name := "isWord", desc := "(Ljava/lang/String;)Z" } : Jvm.MethodName) prog_3_method_11_code (3 : Nat) (Option.some Jvm.ClassFile.FieldType.boolean)) ∈ gw := gw_t2 112 rfl rfl
theorem q_353 : (Jvm.Cond.methodLink "CrownTwo$CourtText" (114 : Nat) ({ cls := "java/lang/String", name := "length", desc := "()I" } : Jvm.MethodName)) ∈ gw := gw_t2 113 rfl rfl
theorem q_354 : (Jvm.Cond.instanceMethod ({ cls := "java/lang/String", name := "length", desc := "()I" } : Jvm.MethodName)) ∈ gw := gw_t2 114 rfl rfl
theorem q_355 : (Jvm.Cond.selects "java/lang/String" ({ cls := "java/lang/String", name := "length", desc := "()I" } : Jvm.MethodName) ({ cls := "java/lang/String", name := "length", desc := "()I" } : Jvm.MethodName)) ∈ gw := gw_t2 115 rfl rfl
theorem q_356 : (Jvm.Cond.code ({ cls := "java/lang/String", name := "length", desc := "()I" } : Jvm.MethodName) prog_17_method_54_code (1 : Nat) (Option.some Jvm.ClassFile.FieldType.int)) ∈ gw := gw_t2 116 rfl rfl
theorem q_357 : (Jvm.Cond.methodLink "java/lang/String" (335 : Nat) ({ cls := "java/lang/String", name := "coder", desc := "()B" } : Jvm.MethodName)) ∈ gw := gw_t2 117 rfl rfl
theorem q_358 : (Jvm.Cond.instanceMethod ({ cls := "java/lang/String", name := "coder", desc := "()B" } : Jvm.MethodName)) ∈ gw := gw_t2 118 rfl rfl
theorem q_359 : (Jvm.Cond.selects "java/lang/String" ({ cls := "java/lang/String", name := "coder", desc := "()B" } : Jvm.MethodName) ({ cls := "java/lang/String", name := "coder", desc := "()B" } : Jvm.MethodName)) ∈ gw := gw_t2 119 rfl rfl
theorem q_360 : (Jvm.Cond.code ({ cls := "java/lang/String", name := "coder", desc := "()B" } : Jvm.MethodName) prog_17_method_152_code (1 : Nat) (Option.some Jvm.ClassFile.FieldType.byte)) ∈ gw := gw_t2 120 rfl rfl
theorem q_361 : (Jvm.Cond.fieldLink "java/lang/String" (38 : Nat) "java/lang/String" "COMPACT_STRINGS" "Z") ∈ gw := gw_t2 121 rfl rfl
theorem q_363 : (Jvm.Cond.methodLink "CrownTwo$CourtText" (119 : Nat) ({ cls := "java/lang/String", name := "charAt", desc := "(I)C" } : Jvm.MethodName)) ∈ gw := gw_t2 123 rfl rfl
theorem q_364 : (Jvm.Cond.instanceMethod ({ cls := "java/lang/String", name := "charAt", desc := "(I)C" } : Jvm.MethodName)) ∈ gw := gw_t2 124 rfl rfl
theorem q_365 : (Jvm.Cond.selects "java/lang/String" ({ cls := "java/lang/String", name := "charAt", desc := "(I)C" } : Jvm.MethodName) ({ cls := "java/lang/String", name := "charAt", desc := "(I)C" } : Jvm.MethodName)) ∈ gw := gw_t2 125 rfl rfl
theorem q_366 : (Jvm.Cond.code ({ cls := "java/lang/String", name := "charAt", desc := "(I)C" } : Jvm.MethodName) prog_17_method_56_code (2 : Nat) (Option.some Jvm.ClassFile.FieldType.char)) ∈ gw := gw_t2 126 rfl rfl
theorem q_367 : (Jvm.Cond.methodLink "java/lang/String" (492 : Nat) ({ cls := "java/lang/String", name := "isLatin1", desc := "()Z" } : Jvm.MethodName)) ∈ gw := gw_t2 127 rfl rfl
theorem q_368 : (Jvm.Cond.instanceMethod ({ cls := "java/lang/String", name := "isLatin1", desc := "()Z" } : Jvm.MethodName)) ∈ gw := gw_t2 128 rfl rfl
theorem q_369 : (Jvm.Cond.selects "java/lang/String" ({ cls := "java/lang/String", name := "isLatin1", desc := "()Z" } : Jvm.MethodName) ({ cls := "java/lang/String", name := "isLatin1", desc := "()Z" } : Jvm.MethodName)) ∈ gw := gw_t2 129 rfl rfl
theorem q_370 : (Jvm.Cond.code ({ cls := "java/lang/String", name := "isLatin1", desc := "()Z" } : Jvm.MethodName) prog_17_method_154_code (1 : Nat) (Option.some Jvm.ClassFile.FieldType.boolean)) ∈ gw := gw_t2 130 rfl rfl
theorem q_371 : (Jvm.Cond.methodLink "java/lang/String" (495 : Nat) ({ cls := "java/lang/StringLatin1", name := "charAt", desc := "([BI)C" } : Jvm.MethodName)) ∈ gw := gw_t2 131 rfl rfl
theorem q_372 : (Jvm.Cond.static ({ cls := "java/lang/StringLatin1", name := "charAt", desc := "([BI)C" } : Jvm.MethodName)) ∈ gw := gw_t2 132 rfl rfl
theorem q_373 : (Jvm.Cond.code ({ cls := "java/lang/StringLatin1", name := "charAt", desc := "([BI)C" } : Jvm.MethodName) prog_18_method_2_code (2 : Nat) (Option.some Jvm.ClassFile.FieldType.char)) ∈ gw := gw_t2 133 rfl rfl
theorem q_374 : (Jvm.Cond.methodLink "java/lang/StringLatin1" (9 : Nat) ({ cls := "java/lang/String", name := "checkIndex", desc := "(II)V" } : Jvm.MethodName)) ∈ gw := gw_t2 134 rfl rfl
theorem q_375 : (Jvm.Cond.static ({ cls := "java/lang/String", name := "checkIndex", desc := "(II)V" } : Jvm.MethodName)) ∈ gw := gw_t2 135 rfl rfl
theorem q_376 : (Jvm.Cond.code ({ cls := "java/lang/String", name := "checkIndex", desc := "(II)V" } : Jvm.MethodName) prog_17_method_155_code (2 : Nat) (Option.none : Option Jvm.ClassFile.FieldType)) ∈ gw := gw_t2 136 rfl rfl
theorem q_377 : (Jvm.Cond.fieldLink "java/lang/String" (1053 : Nat) "jdk/internal/util/Preconditions" "SIOOBE_FORMATTER" "Ljava/util/function/BiFunction;") ∈ gw := gw_t2 137 rfl rfl
theorem q_379 : (Jvm.Cond.methodLink "java/lang/String" (1059 : Nat) ({ cls := "jdk/internal/util/Preconditions", name := "checkIndex", desc := "(IILjava/util/function/BiFunction;)I" } : Jvm.MethodName)) ∈ gw := gw_t2 139 rfl rfl
theorem q_380 : (Jvm.Cond.static ({ cls := "jdk/internal/util/Preconditions", name := "checkIndex", desc := "(IILjava/util/function/BiFunction;)I" } : Jvm.MethodName)) ∈ gw := gw_t2 140 rfl rfl
theorem q_381 : (Jvm.Cond.code ({ cls := "jdk/internal/util/Preconditions", name := "checkIndex", desc := "(IILjava/util/function/BiFunction;)I" } : Jvm.MethodName) prog_21_method_11_code (3 : Nat) (Option.some Jvm.ClassFile.FieldType.int)) ∈ gw := gw_t2 141 rfl rfl
theorem q_382 : (Jvm.Cond.methodLink "java/lang/String" (498 : Nat) ({ cls := "java/lang/StringUTF16", name := "charAt", desc := "([BI)C" } : Jvm.MethodName)) ∈ gw := gw_t2 142 rfl rfl
theorem q_383 : (Jvm.Cond.static ({ cls := "java/lang/StringUTF16", name := "charAt", desc := "([BI)C" } : Jvm.MethodName)) ∈ gw := gw_t2 143 rfl rfl
theorem q_384 : (Jvm.Cond.code ({ cls := "java/lang/StringUTF16", name := "charAt", desc := "([BI)C" } : Jvm.MethodName) prog_19_method_83_code (2 : Nat) (Option.some Jvm.ClassFile.FieldType.char)) ∈ gw := gw_t2 144 rfl rfl
theorem q_385 : (Jvm.Cond.methodLink "java/lang/StringUTF16" (67 : Nat) ({ cls := "java/lang/StringUTF16", name := "checkIndex", desc := "(I[B)V" } : Jvm.MethodName)) ∈ gw := gw_t2 145 rfl rfl
theorem q_386 : (Jvm.Cond.static ({ cls := "java/lang/StringUTF16", name := "checkIndex", desc := "(I[B)V" } : Jvm.MethodName)) ∈ gw := gw_t2 146 rfl rfl
theorem q_387 : (Jvm.Cond.code ({ cls := "java/lang/StringUTF16", name := "checkIndex", desc := "(I[B)V" } : Jvm.MethodName) prog_19_method_91_code (2 : Nat) (Option.none : Option Jvm.ClassFile.FieldType)) ∈ gw := gw_t2 147 rfl rfl
theorem q_388 : (Jvm.Cond.methodLink "java/lang/StringUTF16" (48 : Nat) ({ cls := "java/lang/StringUTF16", name := "length", desc := "([B)I" } : Jvm.MethodName)) ∈ gw := gw_t2 148 rfl rfl
theorem q_389 : (Jvm.Cond.static ({ cls := "java/lang/StringUTF16", name := "length", desc := "([B)I" } : Jvm.MethodName)) ∈ gw := gw_t2 149 rfl rfl
theorem q_390 : (Jvm.Cond.code ({ cls := "java/lang/StringUTF16", name := "length", desc := "([B)I" } : Jvm.MethodName) prog_19_method_6_code (1 : Nat) (Option.some Jvm.ClassFile.FieldType.int)) ∈ gw := gw_t2 150 rfl rfl
theorem q_391 : (Jvm.Cond.methodLink "java/lang/StringUTF16" (414 : Nat) ({ cls := "java/lang/String", name := "checkIndex", desc := "(II)V" } : Jvm.MethodName)) ∈ gw := gw_t2 151 rfl rfl
theorem q_392 : (Jvm.Cond.methodLink "java/lang/StringUTF16" (71 : Nat) ({ cls := "java/lang/StringUTF16", name := "getChar", desc := "([BI)C" } : Jvm.MethodName)) ∈ gw := gw_t2 152 rfl rfl
theorem q_393 : (Jvm.Cond.static ({ cls := "java/lang/StringUTF16", name := "getChar", desc := "([BI)C" } : Jvm.MethodName)) ∈ gw := gw_t2 153 rfl rfl
theorem q_394 : (Jvm.Cond.code ({ cls := "java/lang/StringUTF16", name := "getChar", desc := "([BI)C" } : Jvm.MethodName) prog_19_method_5_code (2 : Nat) (Option.some Jvm.ClassFile.FieldType.char)) ∈ gw := gw_t2 154 rfl rfl
theorem q_395 : (Jvm.Cond.fieldLink "java/lang/StringUTF16" (44 : Nat) "java/lang/StringUTF16" "$assertionsDisabled" "Z") ∈ gw := gw_t2 155 rfl rfl
theorem q_397 : (Jvm.Cond.fieldLink "java/lang/StringUTF16" (59 : Nat) "java/lang/StringUTF16" "HI_BYTE_SHIFT" "I") ∈ gw := gw_t2 157 rfl rfl
theorem q_399 : (Jvm.Cond.fieldLink "java/lang/StringUTF16" (63 : Nat) "java/lang/StringUTF16" "LO_BYTE_SHIFT" "I") ∈ gw := gw_t2 159 rfl rfl
theorem q_401 : (Jvm.Cond.methodLink "CrownTwo$CourtText" (47 : Nat) ({ cls := "CrownTwo$CourtText", name := "takeNumber", desc := "(II)I" } : Jvm.MethodName)) ∈ gw := gw_t2 161 rfl rfl
theorem q_403 : (Jvm.Cond.instanceMethod ({ cls := "CrownTwo$CourtText", name := "takeNumber", desc := "(II)I" } : Jvm.MethodName)) ∈ gw := gw_t2 163 rfl rfl
theorem q_404 : (Jvm.Cond.code ({ cls := "CrownTwo$CourtText", name := "takeNumber", desc := "(II)I" } : Jvm.MethodName) prog_3_method_9_code (4 : Nat) (Option.some Jvm.ClassFile.FieldType.int)) ∈ gw := gw_t2 164 rfl rfl
theorem q_405 : (Jvm.Cond.methodLink "CrownTwo$CourtText" (51 : Nat) ({ cls := "CrownTwo$Court", name := "begin", desc := "(I)V" } : Jvm.MethodName)) ∈ gw := gw_t2 165 rfl rfl
theorem q_406 : (Jvm.Cond.methodLink "CrownTwo$CourtText" (57 : Nat) ({ cls := "CrownTwo$CourtText", name := "takeEnding", desc := "()Z" } : Jvm.MethodName)) ∈ gw := gw_t2 166 rfl rfl
theorem q_408 : (Jvm.Cond.instanceMethod ({ cls := "CrownTwo$CourtText", name := "takeEnding", desc := "()Z" } : Jvm.MethodName)) ∈ gw := gw_t2 168 rfl rfl
theorem q_409 : (Jvm.Cond.code ({ cls := "CrownTwo$CourtText", name := "takeEnding", desc := "()Z" } : Jvm.MethodName) prog_3_method_10_code (1 : Nat) (Option.some Jvm.ClassFile.FieldType.boolean)) ∈ gw := gw_t2 169 rfl rfl
theorem q_410 : (Jvm.Cond.methodLink "CrownTwo$CourtText" (38 : Nat) ({ cls := "CrownTwo$CourtText", name := "laterItem", desc := "(LCrownTwo$Court;)Z" } : Jvm.MethodName)) ∈ gw := gw_t2 170 rfl rfl
theorem q_412 : (Jvm.Cond.instanceMethod ({ cls := "CrownTwo$CourtText", name := "laterItem", desc := "(LCrownTwo$Court;)Z" } : Jvm.MethodName)) ∈ gw := gw_t2 172 rfl rfl
theorem q_413 : (Jvm.Cond.code ({ cls := "CrownTwo$CourtText", name := "laterItem", desc := "(LCrownTwo$Court;)Z" } : Jvm.MethodName) prog_3_method_5_code (2 : Nat) (Option.some Jvm.ClassFile.FieldType.boolean)) ∈ gw := gw_t2 173 rfl rfl
theorem q_415 : (Jvm.Cond.methodLink "CrownTwo$CourtText" (63 : Nat) ({ cls := "CrownTwo$CourtText", name := "heirItem", desc := "(LCrownTwo$Court;)Z" } : Jvm.MethodName)) ∈ gw := gw_t2 175 rfl rfl
theorem q_417 : (Jvm.Cond.instanceMethod ({ cls := "CrownTwo$CourtText", name := "heirItem", desc := "(LCrownTwo$Court;)Z" } : Jvm.MethodName)) ∈ gw := gw_t2 177 rfl rfl
theorem q_418 : (Jvm.Cond.code ({ cls := "CrownTwo$CourtText", name := "heirItem", desc := "(LCrownTwo$Court;)Z" } : Jvm.MethodName) prog_3_method_6_code (4 : Nat) (Option.some Jvm.ClassFile.FieldType.boolean)) ∈ gw := gw_t2 178 rfl rfl
theorem q_419 : (Jvm.Cond.methodLink "CrownTwo$CourtText" (82 : Nat) yX0_admit) ∈ gw := gw_t2 179 rfl rfl
theorem q_421 : (Jvm.Cond.methodLink "CrownTwo$CourtText" (68 : Nat) ({ cls := "CrownTwo$CourtText", name := "heartItem", desc := "(LCrownTwo$Court;Z)Z" } : Jvm.MethodName)) ∈ gw := gw_t2 181 rfl rfl
theorem q_423 : (Jvm.Cond.instanceMethod ({ cls := "CrownTwo$CourtText", name := "heartItem", desc := "(LCrownTwo$Court;Z)Z" } : Jvm.MethodName)) ∈ gw := gw_t2 183 rfl rfl
theorem q_424 : (Jvm.Cond.code ({ cls := "CrownTwo$CourtText", name := "heartItem", desc := "(LCrownTwo$Court;Z)Z" } : Jvm.MethodName) prog_3_method_7_code (7 : Nat) (Option.some Jvm.ClassFile.FieldType.boolean)) ∈ gw := gw_t2 184 rfl rfl
theorem q_425 : (Jvm.Cond.methodLink "CrownTwo$CourtText" (98 : Nat) ({ cls := "CrownTwo$Heir", name := "feel", desc := "(II)V" } : Jvm.MethodName)) ∈ gw := gw_t2 185 rfl rfl
theorem q_426 : (Jvm.Cond.instanceMethod ({ cls := "CrownTwo$Heir", name := "feel", desc := "(II)V" } : Jvm.MethodName)) ∈ gw := gw_t2 186 rfl rfl
theorem q_427 : (Jvm.Cond.selects "CrownTwo$Heir" ({ cls := "CrownTwo$Heir", name := "feel", desc := "(II)V" } : Jvm.MethodName) ({ cls := "CrownTwo$Heir", name := "feel", desc := "(II)V" } : Jvm.MethodName)) ∈ gw := gw_t2 187 rfl rfl
theorem q_428 : (Jvm.Cond.code ({ cls := "CrownTwo$Heir", name := "feel", desc := "(II)V" } : Jvm.MethodName) prog_5_method_3_code (3 : Nat) (Option.none : Option Jvm.ClassFile.FieldType)) ∈ gw := gw_t2 188 rfl rfl
theorem q_431 : (Jvm.Cond.methodLink "CrownTwo$CourtText" (76 : Nat) ({ cls := "CrownTwo$CourtText", name := "pairItem", desc := "(LCrownTwo$Court;)Z" } : Jvm.MethodName)) ∈ gw := gw_t2 191 rfl rfl
theorem q_433 : (Jvm.Cond.instanceMethod ({ cls := "CrownTwo$CourtText", name := "pairItem", desc := "(LCrownTwo$Court;)Z" } : Jvm.MethodName)) ∈ gw := gw_t2 193 rfl rfl
theorem q_434 : (Jvm.Cond.code ({ cls := "CrownTwo$CourtText", name := "pairItem", desc := "(LCrownTwo$Court;)Z" } : Jvm.MethodName) prog_3_method_8_code (4 : Nat) (Option.some Jvm.ClassFile.FieldType.boolean)) ∈ gw := gw_t2 194 rfl rfl
theorem q_435 : (Jvm.Cond.methodLink "CrownTwo" (126 : Nat) ({ cls := "CrownTwo$Court", name := "become", desc := "(LCrownTwo$Court;)V" } : Jvm.MethodName)) ∈ gw := gw_t2 195 rfl rfl
theorem q_436 : (Jvm.Cond.instanceMethod ({ cls := "CrownTwo$Court", name := "become", desc := "(LCrownTwo$Court;)V" } : Jvm.MethodName)) ∈ gw := gw_t2 196 rfl rfl
theorem q_437 : (Jvm.Cond.selects "CrownTwo$Court" ({ cls := "CrownTwo$Court", name := "become", desc := "(LCrownTwo$Court;)V" } : Jvm.MethodName) ({ cls := "CrownTwo$Court", name := "become", desc := "(LCrownTwo$Court;)V" } : Jvm.MethodName)) ∈ gw := gw_t2 197 rfl rfl
theorem q_438 : (Jvm.Cond.code ({ cls := "CrownTwo$Court", name := "become", desc := "(LCrownTwo$Court;)V" } : Jvm.MethodName) prog_2_method_3_code (3 : Nat) (Option.none : Option Jvm.ClassFile.FieldType)) ∈ gw := gw_t2 198 rfl rfl
theorem q_439 : (Jvm.Cond.methodLink "CrownTwo$Court" (54 : Nat) ({ cls := "CrownTwo$Moment", name := "become", desc := "(LCrownTwo$Moment;)V" } : Jvm.MethodName)) ∈ gw := gw_t2 199 rfl rfl
theorem q_440 : (Jvm.Cond.instanceMethod ({ cls := "CrownTwo$Moment", name := "become", desc := "(LCrownTwo$Moment;)V" } : Jvm.MethodName)) ∈ gw := gw_t2 200 rfl rfl
theorem q_441 : (Jvm.Cond.selects "CrownTwo$Moment" ({ cls := "CrownTwo$Moment", name := "become", desc := "(LCrownTwo$Moment;)V" } : Jvm.MethodName) ({ cls := "CrownTwo$Moment", name := "become", desc := "(LCrownTwo$Moment;)V" } : Jvm.MethodName)) ∈ gw := gw_t2 201 rfl rfl
theorem q_442 : (Jvm.Cond.code ({ cls := "CrownTwo$Moment", name := "become", desc := "(LCrownTwo$Moment;)V" } : Jvm.MethodName) prog_7_method_3_code (2 : Nat) (Option.none : Option Jvm.ClassFile.FieldType)) ∈ gw := gw_t2 202 rfl rfl
theorem q_443 : (Jvm.Cond.methodLink "CrownTwo$Court" (58 : Nat) ({ cls := "CrownTwo$Heir", name := "become", desc := "(LCrownTwo$Heir;)V" } : Jvm.MethodName)) ∈ gw := gw_t2 203 rfl rfl
theorem q_444 : (Jvm.Cond.instanceMethod ({ cls := "CrownTwo$Heir", name := "become", desc := "(LCrownTwo$Heir;)V" } : Jvm.MethodName)) ∈ gw := gw_t2 204 rfl rfl
theorem q_445 : (Jvm.Cond.selects "CrownTwo$Heir" ({ cls := "CrownTwo$Heir", name := "become", desc := "(LCrownTwo$Heir;)V" } : Jvm.MethodName) ({ cls := "CrownTwo$Heir", name := "become", desc := "(LCrownTwo$Heir;)V" } : Jvm.MethodName)) ∈ gw := gw_t2 205 rfl rfl
theorem q_446 : (Jvm.Cond.code ({ cls := "CrownTwo$Heir", name := "become", desc := "(LCrownTwo$Heir;)V" } : Jvm.MethodName) prog_5_method_4_code (2 : Nat) (Option.none : Option Jvm.ClassFile.FieldType)) ∈ gw := gw_t2 206 rfl rfl
theorem q_447 : (Jvm.Cond.methodLink "CrownTwo$Heir" (22 : Nat) ({ cls := "CrownTwo$Heir", name := "put", desc := "(IIII)V" } : Jvm.MethodName)) ∈ gw := gw_t2 207 rfl rfl
theorem q_448 : (Jvm.Cond.methodLink "CrownTwo$Court" (61 : Nat) ({ cls := "CrownTwo$Note", name := "become", desc := "(LCrownTwo$Note;)V" } : Jvm.MethodName)) ∈ gw := gw_t2 208 rfl rfl
theorem q_449 : (Jvm.Cond.instanceMethod ({ cls := "CrownTwo$Note", name := "become", desc := "(LCrownTwo$Note;)V" } : Jvm.MethodName)) ∈ gw := gw_t2 209 rfl rfl
theorem q_450 : (Jvm.Cond.selects "CrownTwo$Note" ({ cls := "CrownTwo$Note", name := "become", desc := "(LCrownTwo$Note;)V" } : Jvm.MethodName) ({ cls := "CrownTwo$Note", name := "become", desc := "(LCrownTwo$Note;)V" } : Jvm.MethodName)) ∈ gw := gw_t2 210 rfl rfl
theorem q_451 : (Jvm.Cond.code ({ cls := "CrownTwo$Note", name := "become", desc := "(LCrownTwo$Note;)V" } : Jvm.MethodName) prog_8_method_3_code (2 : Nat) (Option.none : Option Jvm.ClassFile.FieldType)) ∈ gw := gw_t2 211 rfl rfl
theorem q_452 : (Jvm.Cond.methodLink "CrownTwo$Note" (25 : Nat) ({ cls := "CrownTwo$Note", name := "put", desc := "(IIIII)V" } : Jvm.MethodName)) ∈ gw := gw_t2 212 rfl rfl
theorem q_453 : (Jvm.Cond.instanceMethod ({ cls := "CrownTwo$Note", name := "put", desc := "(IIIII)V" } : Jvm.MethodName)) ∈ gw := gw_t2 213 rfl rfl
theorem q_454 : (Jvm.Cond.selects "CrownTwo$Note" ({ cls := "CrownTwo$Note", name := "put", desc := "(IIIII)V" } : Jvm.MethodName) ({ cls := "CrownTwo$Note", name := "put", desc := "(IIIII)V" } : Jvm.MethodName)) ∈ gw := gw_t2 214 rfl rfl
theorem q_455 : (Jvm.Cond.code ({ cls := "CrownTwo$Note", name := "put", desc := "(IIIII)V" } : Jvm.MethodName) prog_8_method_2_code (6 : Nat) (Option.none : Option Jvm.ClassFile.FieldType)) ∈ gw := gw_t2 215 rfl rfl
theorem q_456 : (Jvm.Cond.arrayClass Jvm.ClassFile.FieldType.byte) ∈ gw := gw_t2 216 rfl rfl
theorem q_457 : (Jvm.Cond.methodLink "CrownTwoLaw" (36 : Nat) ({ cls := "CrownTwo", name := "pair", desc := "(II)I" } : Jvm.MethodName)) ∈ gw := gw_t2 217 rfl rfl
theorem q_458 : (Jvm.Cond.instanceMethod ({ cls := "CrownTwo", name := "pair", desc := "(II)I" } : Jvm.MethodName)) ∈ gw := gw_t2 218 rfl rfl
theorem q_459 : (Jvm.Cond.selects "CrownTwo" ({ cls := "CrownTwo", name := "pair", desc := "(II)I" } : Jvm.MethodName) ({ cls := "CrownTwo", name := "pair", desc := "(II)I" } : Jvm.MethodName)) ∈ gw := gw_t2 219 rfl rfl
theorem q_460 : (Jvm.Cond.code ({ cls := "CrownTwo", name := "pair", desc := "(II)I" } : Jvm.MethodName) prog_1_method_7_code (3 : Nat) (Option.some Jvm.ClassFile.FieldType.int)) ∈ gw := gw_t2 220 rfl rfl
theorem q_461 : (Jvm.Cond.methodLink "CrownTwo" (130 : Nat) ({ cls := "CrownTwo$Court", name := "hasTwo", desc := "(II)Z" } : Jvm.MethodName)) ∈ gw := gw_t2 221 rfl rfl
theorem q_462 : (Jvm.Cond.instanceMethod ({ cls := "CrownTwo$Court", name := "hasTwo", desc := "(II)Z" } : Jvm.MethodName)) ∈ gw := gw_t2 222 rfl rfl
theorem q_463 : (Jvm.Cond.selects "CrownTwo$Court" ({ cls := "CrownTwo$Court", name := "hasTwo", desc := "(II)Z" } : Jvm.MethodName) ({ cls := "CrownTwo$Court", name := "hasTwo", desc := "(II)Z" } : Jvm.MethodName)) ∈ gw := gw_t2 223 rfl rfl
theorem q_464 : (Jvm.Cond.code ({ cls := "CrownTwo$Court", name := "hasTwo", desc := "(II)Z" } : Jvm.MethodName) prog_2_method_5_code (3 : Nat) (Option.some Jvm.ClassFile.FieldType.boolean)) ∈ gw := gw_t2 224 rfl rfl
theorem q_465 : (Jvm.Cond.methodLink "CrownTwo$Court" (64 : Nat) ({ cls := "CrownTwo$Court", name := "has", desc := "(I)Z" } : Jvm.MethodName)) ∈ gw := gw_t2 225 rfl rfl
theorem q_466 : (Jvm.Cond.instanceMethod ({ cls := "CrownTwo$Court", name := "has", desc := "(I)Z" } : Jvm.MethodName)) ∈ gw := gw_t2 226 rfl rfl
theorem q_467 : (Jvm.Cond.selects "CrownTwo$Court" ({ cls := "CrownTwo$Court", name := "has", desc := "(I)Z" } : Jvm.MethodName) ({ cls := "CrownTwo$Court", name := "has", desc := "(I)Z" } : Jvm.MethodName)) ∈ gw := gw_t2 227 rfl rfl
theorem q_468 : (Jvm.Cond.code ({ cls := "CrownTwo$Court", name := "has", desc := "(I)Z" } : Jvm.MethodName) prog_2_method_4_code (2 : Nat) (Option.some Jvm.ClassFile.FieldType.boolean)) ∈ gw := gw_t2 228 rfl rfl
theorem q_469 : (Jvm.Cond.methodLink "CrownTwo" (134 : Nat) ({ cls := "CrownTwo$Court", name := "remember", desc := "()V" } : Jvm.MethodName)) ∈ gw := gw_t2 229 rfl rfl
theorem q_470 : (Jvm.Cond.instanceMethod ({ cls := "CrownTwo$Court", name := "remember", desc := "()V" } : Jvm.MethodName)) ∈ gw := gw_t2 230 rfl rfl
theorem q_471 : (Jvm.Cond.selects "CrownTwo$Court" ({ cls := "CrownTwo$Court", name := "remember", desc := "()V" } : Jvm.MethodName) ({ cls := "CrownTwo$Court", name := "remember", desc := "()V" } : Jvm.MethodName)) ∈ gw := gw_t2 231 rfl rfl
theorem q_472 : (Jvm.Cond.code ({ cls := "CrownTwo$Court", name := "remember", desc := "()V" } : Jvm.MethodName) prog_2_method_8_code (1 : Nat) (Option.none : Option Jvm.ClassFile.FieldType)) ∈ gw := gw_t2 232 rfl rfl
theorem q_473 : (Jvm.Cond.methodLink "CrownTwo$Court" (82 : Nat) ({ cls := "CrownTwo$Court", name := "forgetOldest", desc := "()V" } : Jvm.MethodName)) ∈ gw := gw_t2 233 rfl rfl
theorem q_475 : (Jvm.Cond.instanceMethod ({ cls := "CrownTwo$Court", name := "forgetOldest", desc := "()V" } : Jvm.MethodName)) ∈ gw := gw_t2 235 rfl rfl
theorem q_476 : (Jvm.Cond.code ({ cls := "CrownTwo$Court", name := "forgetOldest", desc := "()V" } : Jvm.MethodName) prog_2_method_9_code (2 : Nat) (Option.none : Option Jvm.ClassFile.FieldType)) ∈ gw := gw_t2 236 rfl rfl
theorem q_477 : (Jvm.Cond.methodLink "CrownTwoLaw" (41 : Nat) ({ cls := "CrownTwo", name := "ask", desc := "(I)I" } : Jvm.MethodName)) ∈ gw := gw_t2 237 rfl rfl
theorem q_478 : (Jvm.Cond.instanceMethod ({ cls := "CrownTwo", name := "ask", desc := "(I)I" } : Jvm.MethodName)) ∈ gw := gw_t2 238 rfl rfl
theorem q_479 : (Jvm.Cond.selects "CrownTwo" ({ cls := "CrownTwo", name := "ask", desc := "(I)I" } : Jvm.MethodName) ({ cls := "CrownTwo", name := "ask", desc := "(I)I" } : Jvm.MethodName)) ∈ gw := gw_t2 239 rfl rfl
theorem q_480 : (Jvm.Cond.code ({ cls := "CrownTwo", name := "ask", desc := "(I)I" } : Jvm.MethodName) prog_1_method_8_code (2 : Nat) (Option.some Jvm.ClassFile.FieldType.int)) ∈ gw := gw_t3 0 rfl rfl
theorem q_481 : (Jvm.Cond.methodLink "CrownTwo" (146 : Nat) ({ cls := "CrownTwo$Court", name := "paired", desc := "(LCrownTwo$Moment;)Z" } : Jvm.MethodName)) ∈ gw := gw_t3 1 rfl rfl
theorem q_482 : (Jvm.Cond.instanceMethod ({ cls := "CrownTwo$Court", name := "paired", desc := "(LCrownTwo$Moment;)Z" } : Jvm.MethodName)) ∈ gw := gw_t3 2 rfl rfl
theorem q_483 : (Jvm.Cond.selects "CrownTwo$Court" ({ cls := "CrownTwo$Court", name := "paired", desc := "(LCrownTwo$Moment;)Z" } : Jvm.MethodName) ({ cls := "CrownTwo$Court", name := "paired", desc := "(LCrownTwo$Moment;)Z" } : Jvm.MethodName)) ∈ gw := gw_t3 3 rfl rfl
theorem q_484 : (Jvm.Cond.code ({ cls := "CrownTwo$Court", name := "paired", desc := "(LCrownTwo$Moment;)Z" } : Jvm.MethodName) prog_2_method_6_code (2 : Nat) (Option.some Jvm.ClassFile.FieldType.boolean)) ∈ gw := gw_t3 4 rfl rfl
theorem q_485 : (Jvm.Cond.methodLink "CrownTwo$Court" (74 : Nat) ({ cls := "CrownTwo$Court", name := "hasTwo", desc := "(II)Z" } : Jvm.MethodName)) ∈ gw := gw_t3 5 rfl rfl
theorem q_486 : (Jvm.Cond.methodLink "CrownTwo" (150 : Nat) ({ cls := "CrownTwo$Moment", name := "isDone", desc := "(I)Z" } : Jvm.MethodName)) ∈ gw := gw_t3 6 rfl rfl
theorem q_487 : (Jvm.Cond.instanceMethod ({ cls := "CrownTwo$Moment", name := "isDone", desc := "(I)Z" } : Jvm.MethodName)) ∈ gw := gw_t3 7 rfl rfl
theorem q_488 : (Jvm.Cond.selects "CrownTwo$Moment" ({ cls := "CrownTwo$Moment", name := "isDone", desc := "(I)Z" } : Jvm.MethodName) ({ cls := "CrownTwo$Moment", name := "isDone", desc := "(I)Z" } : Jvm.MethodName)) ∈ gw := gw_t3 8 rfl rfl
theorem q_489 : (Jvm.Cond.code ({ cls := "CrownTwo$Moment", name := "isDone", desc := "(I)Z" } : Jvm.MethodName) prog_7_method_7_code (2 : Nat) (Option.some Jvm.ClassFile.FieldType.boolean)) ∈ gw := gw_t3 9 rfl rfl
theorem q_490 : (Jvm.Cond.methodLink "CrownTwo" (154 : Nat) ({ cls := "CrownTwo", name := "no", desc := "()I" } : Jvm.MethodName)) ∈ gw := gw_t3 10 rfl rfl
theorem q_492 : (Jvm.Cond.instanceMethod ({ cls := "CrownTwo", name := "no", desc := "()I" } : Jvm.MethodName)) ∈ gw := gw_t3 12 rfl rfl
theorem q_493 : (Jvm.Cond.code ({ cls := "CrownTwo", name := "no", desc := "()I" } : Jvm.MethodName) prog_1_method_37_code (1 : Nat) (Option.some Jvm.ClassFile.FieldType.int)) ∈ gw := gw_t3 13 rfl rfl
theorem q_494 : (Jvm.Cond.methodLink "CrownTwo" (157 : Nat) ({ cls := "CrownTwo$Court", name := "askIn", desc := "(LCrownTwo$Moment;I)I" } : Jvm.MethodName)) ∈ gw := gw_t3 14 rfl rfl
theorem q_495 : (Jvm.Cond.instanceMethod ({ cls := "CrownTwo$Court", name := "askIn", desc := "(LCrownTwo$Moment;I)I" } : Jvm.MethodName)) ∈ gw := gw_t3 15 rfl rfl
theorem q_496 : (Jvm.Cond.selects "CrownTwo$Court" ({ cls := "CrownTwo$Court", name := "askIn", desc := "(LCrownTwo$Moment;I)I" } : Jvm.MethodName) ({ cls := "CrownTwo$Court", name := "askIn", desc := "(LCrownTwo$Moment;I)I" } : Jvm.MethodName)) ∈ gw := gw_t3 16 rfl rfl
theorem q_497 : (Jvm.Cond.code ({ cls := "CrownTwo$Court", name := "askIn", desc := "(LCrownTwo$Moment;I)I" } : Jvm.MethodName) prog_2_method_18_code (4 : Nat) (Option.some Jvm.ClassFile.FieldType.int)) ∈ gw := gw_t3 17 rfl rfl
theorem q_498 : (Jvm.Cond.methodLink "CrownTwo$Court" (135 : Nat) ({ cls := "CrownTwo$Court", name := "liftersIn", desc := "(LCrownTwo$Moment;I)I" } : Jvm.MethodName)) ∈ gw := gw_t3 18 rfl rfl
theorem q_499 : (Jvm.Cond.instanceMethod ({ cls := "CrownTwo$Court", name := "liftersIn", desc := "(LCrownTwo$Moment;I)I" } : Jvm.MethodName)) ∈ gw := gw_t3 19 rfl rfl
theorem q_500 : (Jvm.Cond.selects "CrownTwo$Court" ({ cls := "CrownTwo$Court", name := "liftersIn", desc := "(LCrownTwo$Moment;I)I" } : Jvm.MethodName) ({ cls := "CrownTwo$Court", name := "liftersIn", desc := "(LCrownTwo$Moment;I)I" } : Jvm.MethodName)) ∈ gw := gw_t3 20 rfl rfl
theorem q_501 : (Jvm.Cond.code ({ cls := "CrownTwo$Court", name := "liftersIn", desc := "(LCrownTwo$Moment;I)I" } : Jvm.MethodName) prog_2_method_16_code (6 : Nat) (Option.some Jvm.ClassFile.FieldType.int)) ∈ gw := gw_t3 21 rfl rfl
theorem q_502 : (Jvm.Cond.methodLink "CrownTwo$Court" (132 : Nat) ({ cls := "CrownTwo$Court", name := "lifts", desc := "(IIIII)Z" } : Jvm.MethodName)) ∈ gw := gw_t3 22 rfl rfl
theorem q_503 : (Jvm.Cond.instanceMethod ({ cls := "CrownTwo$Court", name := "lifts", desc := "(IIIII)Z" } : Jvm.MethodName)) ∈ gw := gw_t3 23 rfl rfl
theorem q_504 : (Jvm.Cond.selects "CrownTwo$Court" ({ cls := "CrownTwo$Court", name := "lifts", desc := "(IIIII)Z" } : Jvm.MethodName) ({ cls := "CrownTwo$Court", name := "lifts", desc := "(IIIII)Z" } : Jvm.MethodName)) ∈ gw := gw_t3 24 rfl rfl
theorem q_505 : (Jvm.Cond.code ({ cls := "CrownTwo$Court", name := "lifts", desc := "(IIIII)Z" } : Jvm.MethodName) prog_2_method_15_code (7 : Nat) (Option.some Jvm.ClassFile.FieldType.boolean)) ∈ gw := gw_t3 25 rfl rfl
theorem q_506 : (Jvm.Cond.methodLink "CrownTwo$Court" (116 : Nat) ({ cls := "CrownTwo$Heir", name := "likesAlone", desc := "(I)Z" } : Jvm.MethodName)) ∈ gw := gw_t3 26 rfl rfl
theorem q_507 : (Jvm.Cond.instanceMethod ({ cls := "CrownTwo$Heir", name := "likesAlone", desc := "(I)Z" } : Jvm.MethodName)) ∈ gw := gw_t3 27 rfl rfl
theorem q_508 : (Jvm.Cond.selects "CrownTwo$Heir" ({ cls := "CrownTwo$Heir", name := "likesAlone", desc := "(I)Z" } : Jvm.MethodName) ({ cls := "CrownTwo$Heir", name := "likesAlone", desc := "(I)Z" } : Jvm.MethodName)) ∈ gw := gw_t3 28 rfl rfl
theorem q_509 : (Jvm.Cond.code ({ cls := "CrownTwo$Heir", name := "likesAlone", desc := "(I)Z" } : Jvm.MethodName) prog_5_method_5_code (2 : Nat) (Option.some Jvm.ClassFile.FieldType.boolean)) ∈ gw := gw_t3 29 rfl rfl
theorem q_510 : (Jvm.Cond.methodLink "CrownTwo$Court" (119 : Nat) ({ cls := "CrownTwo$Heir", name := "hatesAlone", desc := "(I)Z" } : Jvm.MethodName)) ∈ gw := gw_t3 30 rfl rfl
theorem q_511 : (Jvm.Cond.instanceMethod ({ cls := "CrownTwo$Heir", name := "hatesAlone", desc := "(I)Z" } : Jvm.MethodName)) ∈ gw := gw_t3 31 rfl rfl
theorem q_512 : (Jvm.Cond.selects "CrownTwo$Heir" ({ cls := "CrownTwo$Heir", name := "hatesAlone", desc := "(I)Z" } : Jvm.MethodName) ({ cls := "CrownTwo$Heir", name := "hatesAlone", desc := "(I)Z" } : Jvm.MethodName)) ∈ gw := gw_t3 32 rfl rfl
theorem q_513 : (Jvm.Cond.code ({ cls := "CrownTwo$Heir", name := "hatesAlone", desc := "(I)Z" } : Jvm.MethodName) prog_5_method_6_code (2 : Nat) (Option.some Jvm.ClassFile.FieldType.boolean)) ∈ gw := gw_t3 33 rfl rfl
theorem q_514 : (Jvm.Cond.methodLink "CrownTwo$Court" (122 : Nat) ({ cls := "CrownTwo$Plain", name := "lifts", desc := "(ZZII)Z" } : Jvm.MethodName)) ∈ gw := gw_t3 34 rfl rfl
theorem q_515 : (Jvm.Cond.instanceMethod ({ cls := "CrownTwo$Plain", name := "lifts", desc := "(ZZII)Z" } : Jvm.MethodName)) ∈ gw := gw_t3 35 rfl rfl
theorem q_516 : (Jvm.Cond.selects "CrownTwo$Plain" ({ cls := "CrownTwo$Plain", name := "lifts", desc := "(ZZII)Z" } : Jvm.MethodName) ({ cls := "CrownTwo$Plain", name := "lifts", desc := "(ZZII)Z" } : Jvm.MethodName)) ∈ gw := gw_t3 36 rfl rfl
theorem q_517 : (Jvm.Cond.sameMethod "CrownTwo$Plain" "CrownTwo$Plain" "lifts" "(ZZII)Z") ∈ gw := gw_t3 37 rfl rfl
theorem q_518 : (Jvm.Cond.selects "CrownTwo$Forgiver" ({ cls := "CrownTwo$Plain", name := "lifts", desc := "(ZZII)Z" } : Jvm.MethodName) ({ cls := "CrownTwo$Forgiver", name := "lifts", desc := "(ZZII)Z" } : Jvm.MethodName)) ∈ gw := gw_t3 38 rfl rfl
theorem q_519 : (Jvm.Cond.instanceMethod ({ cls := "CrownTwo$Forgiver", name := "lifts", desc := "(ZZII)Z" } : Jvm.MethodName)) ∈ gw := gw_t3 39 rfl rfl
theorem q_520 : (Jvm.Cond.code ({ cls := "CrownTwo$Forgiver", name := "lifts", desc := "(ZZII)Z" } : Jvm.MethodName) prog_4_method_2_code (5 : Nat) (Option.some Jvm.ClassFile.FieldType.boolean)) ∈ gw := gw_t3 40 rfl rfl
theorem q_521 : (Jvm.Cond.methodLink "CrownTwo$Forgiver" (7 : Nat) ({ cls := "CrownTwo$Joker", name := "lifts", desc := "(ZZII)Z" } : Jvm.MethodName)) ∈ gw := gw_t3 41 rfl rfl
theorem q_522 : (Jvm.Cond.sameMethod "CrownTwo$Joker" "CrownTwo$Plain" "lifts" "(ZZII)Z") ∈ gw := gw_t3 42 rfl rfl
theorem q_524 : (Jvm.Cond.selects "CrownTwo$Joker" ({ cls := "CrownTwo$Plain", name := "lifts", desc := "(ZZII)Z" } : Jvm.MethodName) ({ cls := "CrownTwo$Plain", name := "lifts", desc := "(ZZII)Z" } : Jvm.MethodName)) ∈ gw := gw_t3 44 rfl rfl
theorem q_525 : (Jvm.Cond.selects "CrownTwo$Proud" ({ cls := "CrownTwo$Plain", name := "lifts", desc := "(ZZII)Z" } : Jvm.MethodName) ({ cls := "CrownTwo$Proud", name := "lifts", desc := "(ZZII)Z" } : Jvm.MethodName)) ∈ gw := gw_t3 45 rfl rfl
theorem q_526 : (Jvm.Cond.instanceMethod ({ cls := "CrownTwo$Proud", name := "lifts", desc := "(ZZII)Z" } : Jvm.MethodName)) ∈ gw := gw_t3 46 rfl rfl
theorem q_527 : (Jvm.Cond.code ({ cls := "CrownTwo$Proud", name := "lifts", desc := "(ZZII)Z" } : Jvm.MethodName) prog_10_method_2_code (5 : Nat) (Option.some Jvm.ClassFile.FieldType.boolean)) ∈ gw := gw_t3 47 rfl rfl
theorem q_528 : (Jvm.Cond.selects "CrownTwo$Sulky" ({ cls := "CrownTwo$Plain", name := "lifts", desc := "(ZZII)Z" } : Jvm.MethodName) ({ cls := "CrownTwo$Sulky", name := "lifts", desc := "(ZZII)Z" } : Jvm.MethodName)) ∈ gw := gw_t3 48 rfl rfl
theorem q_529 : (Jvm.Cond.instanceMethod ({ cls := "CrownTwo$Sulky", name := "lifts", desc := "(ZZII)Z" } : Jvm.MethodName)) ∈ gw := gw_t3 49 rfl rfl
theorem q_530 : (Jvm.Cond.code ({ cls := "CrownTwo$Sulky", name := "lifts", desc := "(ZZII)Z" } : Jvm.MethodName) prog_11_method_2_code (5 : Nat) (Option.some Jvm.ClassFile.FieldType.boolean)) ∈ gw := gw_t3 50 rfl rfl
theorem q_531 : (Jvm.Cond.methodLink "CrownTwo$Sulky" (7 : Nat) ({ cls := "CrownTwo$Plain", name := "lifts", desc := "(ZZII)Z" } : Jvm.MethodName)) ∈ gw := gw_t3 51 rfl rfl
theorem q_532 : (Jvm.Cond.selects "CrownTwo$Tired" ({ cls := "CrownTwo$Plain", name := "lifts", desc := "(ZZII)Z" } : Jvm.MethodName) ({ cls := "CrownTwo$Tired", name := "lifts", desc := "(ZZII)Z" } : Jvm.MethodName)) ∈ gw := gw_t3 52 rfl rfl
theorem q_533 : (Jvm.Cond.instanceMethod ({ cls := "CrownTwo$Tired", name := "lifts", desc := "(ZZII)Z" } : Jvm.MethodName)) ∈ gw := gw_t3 53 rfl rfl
theorem q_534 : (Jvm.Cond.code ({ cls := "CrownTwo$Tired", name := "lifts", desc := "(ZZII)Z" } : Jvm.MethodName) prog_12_method_2_code (5 : Nat) (Option.some Jvm.ClassFile.FieldType.boolean)) ∈ gw := gw_t3 54 rfl rfl
theorem q_535 : (Jvm.Cond.methodLink "CrownTwo$Tired" (7 : Nat) ({ cls := "CrownTwo$Sulky", name := "lifts", desc := "(ZZII)Z" } : Jvm.MethodName)) ∈ gw := gw_t3 55 rfl rfl
theorem q_536 : (Jvm.Cond.code ({ cls := "CrownTwo$Plain", name := "lifts", desc := "(ZZII)Z" } : Jvm.MethodName) prog_9_method_2_code (5 : Nat) (Option.some Jvm.ClassFile.FieldType.boolean)) ∈ gw := gw_t3 56 rfl rfl
theorem q_537 : (Jvm.Cond.methodLink "CrownTwo$Court" (142 : Nat) ({ cls := "CrownTwo$Moment", name := "warm", desc := "(I)V" } : Jvm.MethodName)) ∈ gw := gw_t3 57 rfl rfl
theorem q_538 : (Jvm.Cond.instanceMethod ({ cls := "CrownTwo$Moment", name := "warm", desc := "(I)V" } : Jvm.MethodName)) ∈ gw := gw_t3 58 rfl rfl
theorem q_539 : (Jvm.Cond.selects "CrownTwo$Moment" ({ cls := "CrownTwo$Moment", name := "warm", desc := "(I)V" } : Jvm.MethodName) ({ cls := "CrownTwo$Moment", name := "warm", desc := "(I)V" } : Jvm.MethodName)) ∈ gw := gw_t3 59 rfl rfl
theorem q_540 : (Jvm.Cond.code ({ cls := "CrownTwo$Moment", name := "warm", desc := "(I)V" } : Jvm.MethodName) prog_7_method_4_code (2 : Nat) (Option.none : Option Jvm.ClassFile.FieldType)) ∈ gw := gw_t3 60 rfl rfl
theorem q_541 : (Jvm.Cond.methodLink "CrownTwo$Moment" (27 : Nat) ({ cls := "java/lang/Math", name := "min", desc := "(II)I" } : Jvm.MethodName)) ∈ gw := gw_t3 61 rfl rfl
theorem q_542 : (Jvm.Cond.static ({ cls := "java/lang/Math", name := "min", desc := "(II)I" } : Jvm.MethodName)) ∈ gw := gw_t3 62 rfl rfl
theorem q_543 : (Jvm.Cond.code ({ cls := "java/lang/Math", name := "min", desc := "(II)I" } : Jvm.MethodName) prog_16_method_69_code (2 : Nat) (Option.some Jvm.ClassFile.FieldType.int)) ∈ gw := gw_t3 63 rfl rfl
theorem q_544 : (Jvm.Cond.methodLink "CrownTwo$Moment" (33 : Nat) ({ cls := "java/lang/Math", name := "max", desc := "(II)I" } : Jvm.MethodName)) ∈ gw := gw_t3 64 rfl rfl
theorem q_545 : (Jvm.Cond.static ({ cls := "java/lang/Math", name := "max", desc := "(II)I" } : Jvm.MethodName)) ∈ gw := gw_t3 65 rfl rfl
theorem q_546 : (Jvm.Cond.code ({ cls := "java/lang/Math", name := "max", desc := "(II)I" } : Jvm.MethodName) prog_16_method_65_code (2 : Nat) (Option.some Jvm.ClassFile.FieldType.int)) ∈ gw := gw_t3 66 rfl rfl
theorem q_547 : (Jvm.Cond.methodLink "CrownTwoLaw" (45 : Nat) ({ cls := "CrownTwo", name := "day", desc := "(I)I" } : Jvm.MethodName)) ∈ gw := gw_t3 67 rfl rfl
theorem q_548 : (Jvm.Cond.instanceMethod ({ cls := "CrownTwo", name := "day", desc := "(I)I" } : Jvm.MethodName)) ∈ gw := gw_t3 68 rfl rfl
theorem q_549 : (Jvm.Cond.selects "CrownTwo" ({ cls := "CrownTwo", name := "day", desc := "(I)I" } : Jvm.MethodName) ({ cls := "CrownTwo", name := "day", desc := "(I)I" } : Jvm.MethodName)) ∈ gw := gw_t3 69 rfl rfl
theorem q_550 : (Jvm.Cond.code ({ cls := "CrownTwo", name := "day", desc := "(I)I" } : Jvm.MethodName) prog_1_method_9_code (2 : Nat) (Option.some Jvm.ClassFile.FieldType.int)) ∈ gw := gw_t3 70 rfl rfl
theorem q_551 : (Jvm.Cond.methodLink "CrownTwo" (161 : Nat) ({ cls := "CrownTwo$Court", name := "passDays", desc := "(LCrownTwo$Moment;I)V" } : Jvm.MethodName)) ∈ gw := gw_t3 71 rfl rfl
theorem q_552 : (Jvm.Cond.instanceMethod ({ cls := "CrownTwo$Court", name := "passDays", desc := "(LCrownTwo$Moment;I)V" } : Jvm.MethodName)) ∈ gw := gw_t3 72 rfl rfl
theorem q_553 : (Jvm.Cond.selects "CrownTwo$Court" ({ cls := "CrownTwo$Court", name := "passDays", desc := "(LCrownTwo$Moment;I)V" } : Jvm.MethodName) ({ cls := "CrownTwo$Court", name := "passDays", desc := "(LCrownTwo$Moment;I)V" } : Jvm.MethodName)) ∈ gw := gw_t3 73 rfl rfl
theorem q_554 : (Jvm.Cond.code ({ cls := "CrownTwo$Court", name := "passDays", desc := "(LCrownTwo$Moment;I)V" } : Jvm.MethodName) prog_2_method_14_code (3 : Nat) (Option.none : Option Jvm.ClassFile.FieldType)) ∈ gw := gw_t3 74 rfl rfl
theorem q_555 : (Jvm.Cond.methodLink "CrownTwo$Court" (108 : Nat) ({ cls := "CrownTwo$Court", name := "changeInADay", desc := "(LCrownTwo$Moment;)I" } : Jvm.MethodName)) ∈ gw := gw_t3 75 rfl rfl
theorem q_556 : (Jvm.Cond.instanceMethod ({ cls := "CrownTwo$Court", name := "changeInADay", desc := "(LCrownTwo$Moment;)I" } : Jvm.MethodName)) ∈ gw := gw_t3 76 rfl rfl
theorem q_557 : (Jvm.Cond.selects "CrownTwo$Court" ({ cls := "CrownTwo$Court", name := "changeInADay", desc := "(LCrownTwo$Moment;)I" } : Jvm.MethodName) ({ cls := "CrownTwo$Court", name := "changeInADay", desc := "(LCrownTwo$Moment;)I" } : Jvm.MethodName)) ∈ gw := gw_t3 77 rfl rfl
theorem q_558 : (Jvm.Cond.code ({ cls := "CrownTwo$Court", name := "changeInADay", desc := "(LCrownTwo$Moment;)I" } : Jvm.MethodName) prog_2_method_13_code (2 : Nat) (Option.some Jvm.ClassFile.FieldType.int)) ∈ gw := gw_t3 78 rfl rfl
theorem q_559 : (Jvm.Cond.methodLink "CrownTwo$Court" (100 : Nat) ({ cls := "CrownTwo$Court", name := "paired", desc := "(LCrownTwo$Moment;)Z" } : Jvm.MethodName)) ∈ gw := gw_t3 79 rfl rfl
theorem q_560 : (Jvm.Cond.methodLink "CrownTwo$Court" (104 : Nat) ({ cls := "CrownTwo$Court", name := "changeBy", desc := "(II)I" } : Jvm.MethodName)) ∈ gw := gw_t3 80 rfl rfl
theorem q_561 : (Jvm.Cond.instanceMethod ({ cls := "CrownTwo$Court", name := "changeBy", desc := "(II)I" } : Jvm.MethodName)) ∈ gw := gw_t3 81 rfl rfl
theorem q_562 : (Jvm.Cond.selects "CrownTwo$Court" ({ cls := "CrownTwo$Court", name := "changeBy", desc := "(II)I" } : Jvm.MethodName) ({ cls := "CrownTwo$Court", name := "changeBy", desc := "(II)I" } : Jvm.MethodName)) ∈ gw := gw_t3 82 rfl rfl
theorem q_563 : (Jvm.Cond.code ({ cls := "CrownTwo$Court", name := "changeBy", desc := "(II)I" } : Jvm.MethodName) prog_2_method_12_code (3 : Nat) (Option.some Jvm.ClassFile.FieldType.int)) ∈ gw := gw_t3 83 rfl rfl
theorem q_564 : (Jvm.Cond.methodLink "CrownTwo$Court" (97 : Nat) ({ cls := "CrownTwo$Court", name := "addedBy", desc := "(I)I" } : Jvm.MethodName)) ∈ gw := gw_t3 84 rfl rfl
theorem q_565 : (Jvm.Cond.instanceMethod ({ cls := "CrownTwo$Court", name := "addedBy", desc := "(I)I" } : Jvm.MethodName)) ∈ gw := gw_t3 85 rfl rfl
theorem q_566 : (Jvm.Cond.selects "CrownTwo$Court" ({ cls := "CrownTwo$Court", name := "addedBy", desc := "(I)I" } : Jvm.MethodName) ({ cls := "CrownTwo$Court", name := "addedBy", desc := "(I)I" } : Jvm.MethodName)) ∈ gw := gw_t3 86 rfl rfl
theorem q_567 : (Jvm.Cond.code ({ cls := "CrownTwo$Court", name := "addedBy", desc := "(I)I" } : Jvm.MethodName) prog_2_method_11_code (3 : Nat) (Option.some Jvm.ClassFile.FieldType.int)) ∈ gw := gw_t3 87 rfl rfl
theorem q_568 : (Jvm.Cond.methodLink "CrownTwo$Court" (91 : Nat) ({ cls := "CrownTwo$Plain", name := "adds", desc := "(I)I" } : Jvm.MethodName)) ∈ gw := gw_t3 88 rfl rfl
theorem q_569 : (Jvm.Cond.instanceMethod ({ cls := "CrownTwo$Plain", name := "adds", desc := "(I)I" } : Jvm.MethodName)) ∈ gw := gw_t3 89 rfl rfl
theorem q_570 : (Jvm.Cond.selects "CrownTwo$Plain" ({ cls := "CrownTwo$Plain", name := "adds", desc := "(I)I" } : Jvm.MethodName) ({ cls := "CrownTwo$Plain", name := "adds", desc := "(I)I" } : Jvm.MethodName)) ∈ gw := gw_t3 90 rfl rfl
theorem q_571 : (Jvm.Cond.sameMethod "CrownTwo$Plain" "CrownTwo$Plain" "adds" "(I)I") ∈ gw := gw_t3 91 rfl rfl
theorem q_572 : (Jvm.Cond.selects "CrownTwo$Forgiver" ({ cls := "CrownTwo$Plain", name := "adds", desc := "(I)I" } : Jvm.MethodName) ({ cls := "CrownTwo$Forgiver", name := "adds", desc := "(I)I" } : Jvm.MethodName)) ∈ gw := gw_t3 92 rfl rfl
theorem q_573 : (Jvm.Cond.instanceMethod ({ cls := "CrownTwo$Forgiver", name := "adds", desc := "(I)I" } : Jvm.MethodName)) ∈ gw := gw_t3 93 rfl rfl
theorem q_574 : (Jvm.Cond.code ({ cls := "CrownTwo$Forgiver", name := "adds", desc := "(I)I" } : Jvm.MethodName) prog_4_method_3_code (2 : Nat) (Option.some Jvm.ClassFile.FieldType.int)) ∈ gw := gw_t3 94 rfl rfl
theorem q_575 : (Jvm.Cond.methodLink "CrownTwo$Forgiver" (11 : Nat) ({ cls := "CrownTwo$Joker", name := "adds", desc := "(I)I" } : Jvm.MethodName)) ∈ gw := gw_t3 95 rfl rfl
theorem q_576 : (Jvm.Cond.instanceMethod ({ cls := "CrownTwo$Joker", name := "adds", desc := "(I)I" } : Jvm.MethodName)) ∈ gw := gw_t3 96 rfl rfl
theorem q_577 : (Jvm.Cond.code ({ cls := "CrownTwo$Joker", name := "adds", desc := "(I)I" } : Jvm.MethodName) prog_6_method_2_code (2 : Nat) (Option.some Jvm.ClassFile.FieldType.int)) ∈ gw := gw_t3 97 rfl rfl
theorem q_578 : (Jvm.Cond.methodLink "CrownTwo$Joker" (7 : Nat) ({ cls := "CrownTwo$Plain", name := "adds", desc := "(I)I" } : Jvm.MethodName)) ∈ gw := gw_t3 98 rfl rfl
theorem q_579 : (Jvm.Cond.selects "CrownTwo$Joker" ({ cls := "CrownTwo$Plain", name := "adds", desc := "(I)I" } : Jvm.MethodName) ({ cls := "CrownTwo$Joker", name := "adds", desc := "(I)I" } : Jvm.MethodName)) ∈ gw := gw_t3 99 rfl rfl
theorem q_580 : (Jvm.Cond.selects "CrownTwo$Proud" ({ cls := "CrownTwo$Plain", name := "adds", desc := "(I)I" } : Jvm.MethodName) ({ cls := "CrownTwo$Plain", name := "adds", desc := "(I)I" } : Jvm.MethodName)) ∈ gw := gw_t3 100 rfl rfl
theorem q_581 : (Jvm.Cond.selects "CrownTwo$Sulky" ({ cls := "CrownTwo$Plain", name := "adds", desc := "(I)I" } : Jvm.MethodName) ({ cls := "CrownTwo$Sulky", name := "adds", desc := "(I)I" } : Jvm.MethodName)) ∈ gw := gw_t3 101 rfl rfl
theorem q_582 : (Jvm.Cond.instanceMethod ({ cls := "CrownTwo$Sulky", name := "adds", desc := "(I)I" } : Jvm.MethodName)) ∈ gw := gw_t3 102 rfl rfl
theorem q_583 : (Jvm.Cond.code ({ cls := "CrownTwo$Sulky", name := "adds", desc := "(I)I" } : Jvm.MethodName) prog_11_method_3_code (2 : Nat) (Option.some Jvm.ClassFile.FieldType.int)) ∈ gw := gw_t3 103 rfl rfl
theorem q_584 : (Jvm.Cond.methodLink "CrownTwo$Sulky" (11 : Nat) ({ cls := "CrownTwo$Plain", name := "adds", desc := "(I)I" } : Jvm.MethodName)) ∈ gw := gw_t3 104 rfl rfl
theorem q_585 : (Jvm.Cond.selects "CrownTwo$Tired" ({ cls := "CrownTwo$Plain", name := "adds", desc := "(I)I" } : Jvm.MethodName) ({ cls := "CrownTwo$Tired", name := "adds", desc := "(I)I" } : Jvm.MethodName)) ∈ gw := gw_t3 105 rfl rfl
theorem q_586 : (Jvm.Cond.instanceMethod ({ cls := "CrownTwo$Tired", name := "adds", desc := "(I)I" } : Jvm.MethodName)) ∈ gw := gw_t3 106 rfl rfl
theorem q_587 : (Jvm.Cond.code ({ cls := "CrownTwo$Tired", name := "adds", desc := "(I)I" } : Jvm.MethodName) prog_12_method_3_code (2 : Nat) (Option.some Jvm.ClassFile.FieldType.int)) ∈ gw := gw_t3 107 rfl rfl
theorem q_588 : (Jvm.Cond.methodLink "CrownTwo$Tired" (11 : Nat) ({ cls := "CrownTwo$Sulky", name := "adds", desc := "(I)I" } : Jvm.MethodName)) ∈ gw := gw_t3 108 rfl rfl
theorem q_589 : (Jvm.Cond.code ({ cls := "CrownTwo$Plain", name := "adds", desc := "(I)I" } : Jvm.MethodName) prog_9_method_3_code (2 : Nat) (Option.some Jvm.ClassFile.FieldType.int)) ∈ gw := gw_t3 109 rfl rfl
theorem q_590 : (Jvm.Cond.methodLink "CrownTwo$Court" (112 : Nat) ({ cls := "CrownTwo$Moment", name := "pass", desc := "(II)V" } : Jvm.MethodName)) ∈ gw := gw_t3 110 rfl rfl
theorem q_591 : (Jvm.Cond.instanceMethod ({ cls := "CrownTwo$Moment", name := "pass", desc := "(II)V" } : Jvm.MethodName)) ∈ gw := gw_t3 111 rfl rfl
theorem q_592 : (Jvm.Cond.selects "CrownTwo$Moment" ({ cls := "CrownTwo$Moment", name := "pass", desc := "(II)V" } : Jvm.MethodName) ({ cls := "CrownTwo$Moment", name := "pass", desc := "(II)V" } : Jvm.MethodName)) ∈ gw := gw_t3 112 rfl rfl
theorem q_593 : (Jvm.Cond.code ({ cls := "CrownTwo$Moment", name := "pass", desc := "(II)V" } : Jvm.MethodName) prog_7_method_5_code (4 : Nat) (Option.none : Option Jvm.ClassFile.FieldType)) ∈ gw := gw_t3 113 rfl rfl
theorem q_594 : (Jvm.Cond.methodLink "CrownTwo$Moment" (36 : Nat) ({ cls := "CrownTwo$Moment", name := "warm", desc := "(I)V" } : Jvm.MethodName)) ∈ gw := gw_t3 114 rfl rfl
theorem q_595 : (Jvm.Cond.methodLink "CrownTwoLaw" (49 : Nat) ({ cls := "CrownTwo", name := "feed", desc := "(I)I" } : Jvm.MethodName)) ∈ gw := gw_t3 115 rfl rfl
theorem q_596 : (Jvm.Cond.instanceMethod ({ cls := "CrownTwo", name := "feed", desc := "(I)I" } : Jvm.MethodName)) ∈ gw := gw_t3 116 rfl rfl
theorem q_597 : (Jvm.Cond.selects "CrownTwo" ({ cls := "CrownTwo", name := "feed", desc := "(I)I" } : Jvm.MethodName) ({ cls := "CrownTwo", name := "feed", desc := "(I)I" } : Jvm.MethodName)) ∈ gw := gw_t3 117 rfl rfl
theorem q_598 : (Jvm.Cond.code ({ cls := "CrownTwo", name := "feed", desc := "(I)I" } : Jvm.MethodName) prog_1_method_10_code (2 : Nat) (Option.some Jvm.ClassFile.FieldType.int)) ∈ gw := gw_t3 118 rfl rfl
theorem q_599 : (Jvm.Cond.methodLink "CrownTwo" (168 : Nat) ({ cls := "CrownTwo$Moment", name := "warm", desc := "(I)V" } : Jvm.MethodName)) ∈ gw := gw_t3 119 rfl rfl
theorem q_600 : (Jvm.Cond.methodLink "CrownTwoLaw" (53 : Nat) ({ cls := "CrownTwo", name := "undo", desc := "()I" } : Jvm.MethodName)) ∈ gw := gw_t3 120 rfl rfl
theorem q_601 : (Jvm.Cond.instanceMethod ({ cls := "CrownTwo", name := "undo", desc := "()I" } : Jvm.MethodName)) ∈ gw := gw_t3 121 rfl rfl
theorem q_602 : (Jvm.Cond.selects "CrownTwo" ({ cls := "CrownTwo", name := "undo", desc := "()I" } : Jvm.MethodName) ({ cls := "CrownTwo", name := "undo", desc := "()I" } : Jvm.MethodName)) ∈ gw := gw_t3 122 rfl rfl
theorem q_603 : (Jvm.Cond.code ({ cls := "CrownTwo", name := "undo", desc := "()I" } : Jvm.MethodName) prog_1_method_11_code (1 : Nat) (Option.some Jvm.ClassFile.FieldType.int)) ∈ gw := gw_t3 123 rfl rfl
theorem q_604 : (Jvm.Cond.methodLink "CrownTwo" (174 : Nat) ({ cls := "CrownTwo$Court", name := "goBack", desc := "()V" } : Jvm.MethodName)) ∈ gw := gw_t3 124 rfl rfl
theorem q_605 : (Jvm.Cond.instanceMethod ({ cls := "CrownTwo$Court", name := "goBack", desc := "()V" } : Jvm.MethodName)) ∈ gw := gw_t3 125 rfl rfl
theorem q_606 : (Jvm.Cond.selects "CrownTwo$Court" ({ cls := "CrownTwo$Court", name := "goBack", desc := "()V" } : Jvm.MethodName) ({ cls := "CrownTwo$Court", name := "goBack", desc := "()V" } : Jvm.MethodName)) ∈ gw := gw_t3 126 rfl rfl
theorem q_607 : (Jvm.Cond.code ({ cls := "CrownTwo$Court", name := "goBack", desc := "()V" } : Jvm.MethodName) prog_2_method_10_code (1 : Nat) (Option.none : Option Jvm.ClassFile.FieldType)) ∈ gw := gw_t3 127 rfl rfl
theorem q_608 : (Jvm.Cond.methodLink "CrownTwoLaw" (57 : Nat) ({ cls := "CrownTwo", name := "of", desc := "(II)I" } : Jvm.MethodName)) ∈ gw := gw_t3 128 rfl rfl
theorem q_609 : (Jvm.Cond.instanceMethod ({ cls := "CrownTwo", name := "of", desc := "(II)I" } : Jvm.MethodName)) ∈ gw := gw_t3 129 rfl rfl
theorem q_610 : (Jvm.Cond.selects "CrownTwo" ({ cls := "CrownTwo", name := "of", desc := "(II)I" } : Jvm.MethodName) ({ cls := "CrownTwo", name := "of", desc := "(II)I" } : Jvm.MethodName)) ∈ gw := gw_t3 130 rfl rfl
theorem q_611 : (Jvm.Cond.code ({ cls := "CrownTwo", name := "of", desc := "(II)I" } : Jvm.MethodName) prog_1_method_12_code (4 : Nat) (Option.some Jvm.ClassFile.FieldType.int)) ∈ gw := gw_t3 131 rfl rfl
theorem q_612 : (Jvm.Cond.methodLink "CrownTwo" (180 : Nat) ({ cls := "CrownTwo$Court", name := "has", desc := "(I)Z" } : Jvm.MethodName)) ∈ gw := gw_t3 132 rfl rfl
theorem q_613 : (Jvm.Cond.methodLink "CrownTwo" (201 : Nat) ({ cls := "CrownTwo$Moment", name := "sideOf", desc := "(I)I" } : Jvm.MethodName)) ∈ gw := gw_t3 133 rfl rfl
theorem q_614 : (Jvm.Cond.instanceMethod ({ cls := "CrownTwo$Moment", name := "sideOf", desc := "(I)I" } : Jvm.MethodName)) ∈ gw := gw_t3 134 rfl rfl
theorem q_615 : (Jvm.Cond.selects "CrownTwo$Moment" ({ cls := "CrownTwo$Moment", name := "sideOf", desc := "(I)I" } : Jvm.MethodName) ({ cls := "CrownTwo$Moment", name := "sideOf", desc := "(I)I" } : Jvm.MethodName)) ∈ gw := gw_t3 135 rfl rfl
theorem q_616 : (Jvm.Cond.code ({ cls := "CrownTwo$Moment", name := "sideOf", desc := "(I)I" } : Jvm.MethodName) prog_7_method_8_code (2 : Nat) (Option.some Jvm.ClassFile.FieldType.int)) ∈ gw := gw_t3 136 rfl rfl
theorem q_617 : (Jvm.Cond.methodLink "CrownTwoLaw" (61 : Nat) ({ cls := "CrownTwo", name := "makes", desc := "(I)I" } : Jvm.MethodName)) ∈ gw := gw_t3 137 rfl rfl
theorem q_618 : (Jvm.Cond.instanceMethod ({ cls := "CrownTwo", name := "makes", desc := "(I)I" } : Jvm.MethodName)) ∈ gw := gw_t3 138 rfl rfl
theorem q_619 : (Jvm.Cond.selects "CrownTwo" ({ cls := "CrownTwo", name := "makes", desc := "(I)I" } : Jvm.MethodName) ({ cls := "CrownTwo", name := "makes", desc := "(I)I" } : Jvm.MethodName)) ∈ gw := gw_t3 139 rfl rfl
theorem q_620 : (Jvm.Cond.code ({ cls := "CrownTwo", name := "makes", desc := "(I)I" } : Jvm.MethodName) prog_1_method_13_code (2 : Nat) (Option.some Jvm.ClassFile.FieldType.int)) ∈ gw := gw_t3 140 rfl rfl
theorem q_621 : (Jvm.Cond.methodLink "CrownTwo" (205 : Nat) ({ cls := "CrownTwo$Court", name := "addedBy", desc := "(I)I" } : Jvm.MethodName)) ∈ gw := gw_t3 141 rfl rfl
theorem q_622 : (Jvm.Cond.methodLink "CrownTwoLaw" (65 : Nat) ({ cls := "CrownTwo", name := "lift", desc := "(I)I" } : Jvm.MethodName)) ∈ gw := gw_t3 142 rfl rfl
theorem q_623 : (Jvm.Cond.instanceMethod ({ cls := "CrownTwo", name := "lift", desc := "(I)I" } : Jvm.MethodName)) ∈ gw := gw_t3 143 rfl rfl
theorem q_624 : (Jvm.Cond.selects "CrownTwo" ({ cls := "CrownTwo", name := "lift", desc := "(I)I" } : Jvm.MethodName) ({ cls := "CrownTwo", name := "lift", desc := "(I)I" } : Jvm.MethodName)) ∈ gw := gw_t3 144 rfl rfl
theorem q_625 : (Jvm.Cond.code ({ cls := "CrownTwo", name := "lift", desc := "(I)I" } : Jvm.MethodName) prog_1_method_14_code (2 : Nat) (Option.some Jvm.ClassFile.FieldType.int)) ∈ gw := gw_t3 145 rfl rfl
theorem q_626 : (Jvm.Cond.methodLink "CrownTwo" (208 : Nat) ({ cls := "CrownTwo$Court", name := "liftersIn", desc := "(LCrownTwo$Moment;I)I" } : Jvm.MethodName)) ∈ gw := gw_t3 146 rfl rfl
theorem q_627 : (Jvm.Cond.methodLink "CrownTwoLaw" (69 : Nat) ({ cls := "CrownTwo", name := "both", desc := "(I)I" } : Jvm.MethodName)) ∈ gw := gw_t3 147 rfl rfl
theorem q_628 : (Jvm.Cond.instanceMethod ({ cls := "CrownTwo", name := "both", desc := "(I)I" } : Jvm.MethodName)) ∈ gw := gw_t3 148 rfl rfl
theorem q_629 : (Jvm.Cond.selects "CrownTwo" ({ cls := "CrownTwo", name := "both", desc := "(I)I" } : Jvm.MethodName) ({ cls := "CrownTwo", name := "both", desc := "(I)I" } : Jvm.MethodName)) ∈ gw := gw_t3 149 rfl rfl
theorem q_630 : (Jvm.Cond.code ({ cls := "CrownTwo", name := "both", desc := "(I)I" } : Jvm.MethodName) prog_1_method_15_code (2 : Nat) (Option.some Jvm.ClassFile.FieldType.int)) ∈ gw := gw_t3 150 rfl rfl
theorem q_631 : (Jvm.Cond.methodLink "CrownTwo" (211 : Nat) ({ cls := "CrownTwo$Moment", name := "become", desc := "(LCrownTwo$Moment;)V" } : Jvm.MethodName)) ∈ gw := gw_t3 151 rfl rfl
theorem q_632 : (Jvm.Cond.methodLink "CrownTwo" (214 : Nat) ({ cls := "CrownTwo$Court", name := "actsOfBoth", desc := "(LCrownTwo$Moment;)I" } : Jvm.MethodName)) ∈ gw := gw_t3 152 rfl rfl
theorem q_633 : (Jvm.Cond.instanceMethod ({ cls := "CrownTwo$Court", name := "actsOfBoth", desc := "(LCrownTwo$Moment;)I" } : Jvm.MethodName)) ∈ gw := gw_t3 153 rfl rfl
theorem q_634 : (Jvm.Cond.selects "CrownTwo$Court" ({ cls := "CrownTwo$Court", name := "actsOfBoth", desc := "(LCrownTwo$Moment;)I" } : Jvm.MethodName) ({ cls := "CrownTwo$Court", name := "actsOfBoth", desc := "(LCrownTwo$Moment;)I" } : Jvm.MethodName)) ∈ gw := gw_t3 154 rfl rfl
theorem q_635 : (Jvm.Cond.code ({ cls := "CrownTwo$Court", name := "actsOfBoth", desc := "(LCrownTwo$Moment;)I" } : Jvm.MethodName) prog_2_method_17_code (4 : Nat) (Option.some Jvm.ClassFile.FieldType.int)) ∈ gw := gw_t3 155 rfl rfl
theorem q_636 : (Jvm.Cond.methodLink "CrownTwoLaw" (73 : Nat) ({ cls := "CrownTwo", name := "friends", desc := "()I" } : Jvm.MethodName)) ∈ gw := gw_t3 156 rfl rfl
theorem q_637 : (Jvm.Cond.instanceMethod ({ cls := "CrownTwo", name := "friends", desc := "()I" } : Jvm.MethodName)) ∈ gw := gw_t3 157 rfl rfl
theorem q_638 : (Jvm.Cond.selects "CrownTwo" ({ cls := "CrownTwo", name := "friends", desc := "()I" } : Jvm.MethodName) ({ cls := "CrownTwo", name := "friends", desc := "()I" } : Jvm.MethodName)) ∈ gw := gw_t3 158 rfl rfl
theorem q_639 : (Jvm.Cond.code ({ cls := "CrownTwo", name := "friends", desc := "()I" } : Jvm.MethodName) prog_1_method_16_code (1 : Nat) (Option.some Jvm.ClassFile.FieldType.int)) ∈ gw := gw_t3 159 rfl rfl
theorem q_640 : (Jvm.Cond.methodLink "CrownTwo" (218 : Nat) ({ cls := "CrownTwo$Court", name := "changeInADay", desc := "(LCrownTwo$Moment;)I" } : Jvm.MethodName)) ∈ gw := gw_t3 160 rfl rfl
theorem q_641 : (Jvm.Cond.methodLink "CrownTwo" (221 : Nat) ({ cls := "CrownTwo", name := "daysToFriends", desc := "(I)I" } : Jvm.MethodName)) ∈ gw := gw_t3 161 rfl rfl
theorem q_643 : (Jvm.Cond.instanceMethod ({ cls := "CrownTwo", name := "daysToFriends", desc := "(I)I" } : Jvm.MethodName)) ∈ gw := gw_t3 163 rfl rfl
theorem q_644 : (Jvm.Cond.code ({ cls := "CrownTwo", name := "daysToFriends", desc := "(I)I" } : Jvm.MethodName) prog_1_method_40_code (3 : Nat) (Option.some Jvm.ClassFile.FieldType.int)) ∈ gw := gw_t3 164 rfl rfl
theorem q_645 : (Jvm.Cond.methodLink "CrownTwo" (310 : Nat) ({ cls := "CrownTwo$Moment", name := "friendly", desc := "()Z" } : Jvm.MethodName)) ∈ gw := gw_t3 165 rfl rfl
theorem q_646 : (Jvm.Cond.instanceMethod ({ cls := "CrownTwo$Moment", name := "friendly", desc := "()Z" } : Jvm.MethodName)) ∈ gw := gw_t3 166 rfl rfl
theorem q_647 : (Jvm.Cond.selects "CrownTwo$Moment" ({ cls := "CrownTwo$Moment", name := "friendly", desc := "()Z" } : Jvm.MethodName) ({ cls := "CrownTwo$Moment", name := "friendly", desc := "()Z" } : Jvm.MethodName)) ∈ gw := gw_t3 167 rfl rfl
theorem q_648 : (Jvm.Cond.code ({ cls := "CrownTwo$Moment", name := "friendly", desc := "()Z" } : Jvm.MethodName) prog_7_method_6_code (1 : Nat) (Option.some Jvm.ClassFile.FieldType.boolean)) ∈ gw := gw_t3 168 rfl rfl
theorem q_649 : (Jvm.Cond.methodLink "CrownTwoLaw" (77 : Nat) ({ cls := "CrownTwo", name := "then", desc := "(I)I" } : Jvm.MethodName)) ∈ gw := gw_t3 169 rfl rfl
theorem q_650 : (Jvm.Cond.instanceMethod ({ cls := "CrownTwo", name := "then", desc := "(I)I" } : Jvm.MethodName)) ∈ gw := gw_t3 170 rfl rfl
theorem q_651 : (Jvm.Cond.selects "CrownTwo" ({ cls := "CrownTwo", name := "then", desc := "(I)I" } : Jvm.MethodName) ({ cls := "CrownTwo", name := "then", desc := "(I)I" } : Jvm.MethodName)) ∈ gw := gw_t3 171 rfl rfl
theorem q_652 : (Jvm.Cond.code ({ cls := "CrownTwo", name := "then", desc := "(I)I" } : Jvm.MethodName) prog_1_method_17_code (2 : Nat) (Option.some Jvm.ClassFile.FieldType.int)) ∈ gw := gw_t3 172 rfl rfl
theorem q_653 : (Jvm.Cond.methodLink "CrownTwoLaw" (81 : Nat) ({ cls := "CrownTwo", name := "most", desc := "(II)I" } : Jvm.MethodName)) ∈ gw := gw_t3 173 rfl rfl
theorem q_654 : (Jvm.Cond.instanceMethod ({ cls := "CrownTwo", name := "most", desc := "(II)I" } : Jvm.MethodName)) ∈ gw := gw_t3 174 rfl rfl
theorem q_655 : (Jvm.Cond.selects "CrownTwo" ({ cls := "CrownTwo", name := "most", desc := "(II)I" } : Jvm.MethodName) ({ cls := "CrownTwo", name := "most", desc := "(II)I" } : Jvm.MethodName)) ∈ gw := gw_t3 175 rfl rfl
theorem q_656 : (Jvm.Cond.code ({ cls := "CrownTwo", name := "most", desc := "(II)I" } : Jvm.MethodName) prog_1_method_18_code (3 : Nat) (Option.some Jvm.ClassFile.FieldType.int)) ∈ gw := gw_t3 176 rfl rfl
theorem q_657 : (Jvm.Cond.methodLink "CrownTwo" (224 : Nat) ({ cls := "CrownTwo", name := "tryFrom", desc := "(IIII)V" } : Jvm.MethodName)) ∈ gw := gw_t3 177 rfl rfl
theorem q_659 : (Jvm.Cond.instanceMethod ({ cls := "CrownTwo", name := "tryFrom", desc := "(IIII)V" } : Jvm.MethodName)) ∈ gw := gw_t3 179 rfl rfl
theorem q_660 : (Jvm.Cond.code ({ cls := "CrownTwo", name := "tryFrom", desc := "(IIII)V" } : Jvm.MethodName) prog_1_method_45_code (10 : Nat) (Option.none : Option Jvm.ClassFile.FieldType)) ∈ gw := gw_t3 180 rfl rfl
theorem q_661 : (Jvm.Cond.methodLink "CrownTwo" (317 : Nat) ({ cls := "java/lang/System", name := "arraycopy", desc := "(Ljava/lang/Object;ILjava/lang/Object;II)V" } : Jvm.MethodName)) ∈ gw := gw_t3 181 rfl rfl
theorem q_662 : (Jvm.Cond.static ({ cls := "java/lang/System", name := "arraycopy", desc := "(Ljava/lang/Object;ILjava/lang/Object;II)V" } : Jvm.MethodName)) ∈ gw := gw_t3 182 rfl rfl
theorem q_663 : (Jvm.Cond.native ({ cls := "java/lang/System", name := "arraycopy", desc := "(Ljava/lang/Object;ILjava/lang/Object;II)V" } : Jvm.MethodName)) ∈ gw := gw_t3 183 rfl rfl
theorem q_664 : (Jvm.Cond.methodLink "CrownTwo" (323 : Nat) ({ cls := "CrownTwo$Moment", name := "pass", desc := "(II)V" } : Jvm.MethodName)) ∈ gw := gw_t3 184 rfl rfl
theorem q_665 : (Jvm.Cond.methodLink "CrownTwoLaw" (85 : Nat) ({ cls := "CrownTwo", name := "keep", desc := "(I)I" } : Jvm.MethodName)) ∈ gw := gw_t3 185 rfl rfl
theorem q_666 : (Jvm.Cond.instanceMethod ({ cls := "CrownTwo", name := "keep", desc := "(I)I" } : Jvm.MethodName)) ∈ gw := gw_t3 186 rfl rfl
theorem q_667 : (Jvm.Cond.selects "CrownTwo" ({ cls := "CrownTwo", name := "keep", desc := "(I)I" } : Jvm.MethodName) ({ cls := "CrownTwo", name := "keep", desc := "(I)I" } : Jvm.MethodName)) ∈ gw := gw_t3 187 rfl rfl
theorem q_668 : (Jvm.Cond.code ({ cls := "CrownTwo", name := "keep", desc := "(I)I" } : Jvm.MethodName) prog_1_method_19_code (4 : Nat) (Option.some Jvm.ClassFile.FieldType.int)) ∈ gw := gw_t3 188 rfl rfl
theorem q_669 : (Jvm.Cond.methodLink "CrownTwo" (228 : Nat) ({ cls := "CrownTwo", name := "staysQuarrelled", desc := "(III)Z" } : Jvm.MethodName)) ∈ gw := gw_t3 189 rfl rfl
theorem q_671 : (Jvm.Cond.instanceMethod ({ cls := "CrownTwo", name := "staysQuarrelled", desc := "(III)Z" } : Jvm.MethodName)) ∈ gw := gw_t3 191 rfl rfl
theorem q_672 : (Jvm.Cond.code ({ cls := "CrownTwo", name := "staysQuarrelled", desc := "(III)Z" } : Jvm.MethodName) prog_1_method_41_code (5 : Nat) (Option.some Jvm.ClassFile.FieldType.boolean)) ∈ gw := gw_t3 192 rfl rfl
theorem q_673 : (Jvm.Cond.methodLink "CrownTwoLaw" (89 : Nat) ({ cls := "CrownTwo", name := "lasts", desc := "(II)I" } : Jvm.MethodName)) ∈ gw := gw_t3 193 rfl rfl
theorem q_674 : (Jvm.Cond.instanceMethod ({ cls := "CrownTwo", name := "lasts", desc := "(II)I" } : Jvm.MethodName)) ∈ gw := gw_t3 194 rfl rfl
theorem q_675 : (Jvm.Cond.selects "CrownTwo" ({ cls := "CrownTwo", name := "lasts", desc := "(II)I" } : Jvm.MethodName) ({ cls := "CrownTwo", name := "lasts", desc := "(II)I" } : Jvm.MethodName)) ∈ gw := gw_t3 195 rfl rfl
theorem q_676 : (Jvm.Cond.code ({ cls := "CrownTwo", name := "lasts", desc := "(II)I" } : Jvm.MethodName) prog_1_method_20_code (3 : Nat) (Option.some Jvm.ClassFile.FieldType.int)) ∈ gw := gw_t3 196 rfl rfl
theorem q_677 : (Jvm.Cond.methodLink "CrownTwo" (231 : Nat) ({ cls := "CrownTwo", name := "lastingOf", desc := "(II)I" } : Jvm.MethodName)) ∈ gw := gw_t3 197 rfl rfl
theorem q_679 : (Jvm.Cond.instanceMethod ({ cls := "CrownTwo", name := "lastingOf", desc := "(II)I" } : Jvm.MethodName)) ∈ gw := gw_t3 199 rfl rfl
theorem q_680 : (Jvm.Cond.code ({ cls := "CrownTwo", name := "lastingOf", desc := "(II)I" } : Jvm.MethodName) prog_1_method_42_code (4 : Nat) (Option.some Jvm.ClassFile.FieldType.int)) ∈ gw := gw_t3 200 rfl rfl
theorem q_681 : (Jvm.Cond.methodLink "CrownTwo" (314 : Nat) ({ cls := "CrownTwo$Court", name := "changeBy", desc := "(II)I" } : Jvm.MethodName)) ∈ gw := gw_t3 201 rfl rfl
theorem q_682 : (Jvm.Cond.methodLink "CrownTwoLaw" (93 : Nat) ({ cls := "CrownTwo", name := "pairs", desc := "(I)I" } : Jvm.MethodName)) ∈ gw := gw_t3 202 rfl rfl
theorem q_683 : (Jvm.Cond.instanceMethod ({ cls := "CrownTwo", name := "pairs", desc := "(I)I" } : Jvm.MethodName)) ∈ gw := gw_t3 203 rfl rfl
theorem q_684 : (Jvm.Cond.selects "CrownTwo" ({ cls := "CrownTwo", name := "pairs", desc := "(I)I" } : Jvm.MethodName) ({ cls := "CrownTwo", name := "pairs", desc := "(I)I" } : Jvm.MethodName)) ∈ gw := gw_t3 204 rfl rfl
theorem q_685 : (Jvm.Cond.code ({ cls := "CrownTwo", name := "pairs", desc := "(I)I" } : Jvm.MethodName) prog_1_method_21_code (2 : Nat) (Option.some Jvm.ClassFile.FieldType.int)) ∈ gw := gw_t3 205 rfl rfl
theorem q_686 : (Jvm.Cond.methodLink "CrownTwo" (235 : Nat) ({ cls := "CrownTwo", name := "bestPair", desc := "()I" } : Jvm.MethodName)) ∈ gw := gw_t3 206 rfl rfl
theorem q_688 : (Jvm.Cond.instanceMethod ({ cls := "CrownTwo", name := "bestPair", desc := "()I" } : Jvm.MethodName)) ∈ gw := gw_t3 208 rfl rfl
theorem q_689 : (Jvm.Cond.code ({ cls := "CrownTwo", name := "bestPair", desc := "()I" } : Jvm.MethodName) prog_1_method_43_code (6 : Nat) (Option.some Jvm.ClassFile.FieldType.int)) ∈ gw := gw_t3 209 rfl rfl
theorem q_690 : (Jvm.Cond.methodLink "CrownTwo" (238 : Nat) ({ cls := "CrownTwo", name := "stuckPairs", desc := "()I" } : Jvm.MethodName)) ∈ gw := gw_t3 210 rfl rfl
theorem q_692 : (Jvm.Cond.instanceMethod ({ cls := "CrownTwo", name := "stuckPairs", desc := "()I" } : Jvm.MethodName)) ∈ gw := gw_t3 212 rfl rfl
theorem q_693 : (Jvm.Cond.code ({ cls := "CrownTwo", name := "stuckPairs", desc := "()I" } : Jvm.MethodName) prog_1_method_44_code (4 : Nat) (Option.some Jvm.ClassFile.FieldType.int)) ∈ gw := gw_t3 213 rfl rfl
theorem q_694 : (Jvm.Cond.methodLink "CrownTwoLaw" (97 : Nat) ({ cls := "CrownTwo", name := "note", desc := "(IIIII)I" } : Jvm.MethodName)) ∈ gw := gw_t3 214 rfl rfl
theorem q_695 : (Jvm.Cond.instanceMethod ({ cls := "CrownTwo", name := "note", desc := "(IIIII)I" } : Jvm.MethodName)) ∈ gw := gw_t3 215 rfl rfl
theorem q_696 : (Jvm.Cond.selects "CrownTwo" ({ cls := "CrownTwo", name := "note", desc := "(IIIII)I" } : Jvm.MethodName) ({ cls := "CrownTwo", name := "note", desc := "(IIIII)I" } : Jvm.MethodName)) ∈ gw := gw_t3 216 rfl rfl
theorem q_697 : (Jvm.Cond.code ({ cls := "CrownTwo", name := "note", desc := "(IIIII)I" } : Jvm.MethodName) prog_1_method_22_code (6 : Nat) (Option.some Jvm.ClassFile.FieldType.int)) ∈ gw := gw_t3 217 rfl rfl
theorem q_698 : (Jvm.Cond.methodLink "CrownTwo" (248 : Nat) ({ cls := "CrownTwo$Note", name := "put", desc := "(IIIII)V" } : Jvm.MethodName)) ∈ gw := gw_t3 218 rfl rfl
theorem q_699 : (Jvm.Cond.methodLink "CrownTwoLaw" (102 : Nat) ({ cls := "CrownTwo", name := "forget", desc := "()I" } : Jvm.MethodName)) ∈ gw := gw_t3 219 rfl rfl
theorem q_700 : (Jvm.Cond.instanceMethod ({ cls := "CrownTwo", name := "forget", desc := "()I" } : Jvm.MethodName)) ∈ gw := gw_t3 220 rfl rfl
theorem q_701 : (Jvm.Cond.selects "CrownTwo" ({ cls := "CrownTwo", name := "forget", desc := "()I" } : Jvm.MethodName) ({ cls := "CrownTwo", name := "forget", desc := "()I" } : Jvm.MethodName)) ∈ gw := gw_t3 221 rfl rfl
theorem q_702 : (Jvm.Cond.code ({ cls := "CrownTwo", name := "forget", desc := "()I" } : Jvm.MethodName) prog_1_method_23_code (2 : Nat) (Option.some Jvm.ClassFile.FieldType.int)) ∈ gw := gw_t3 222 rfl rfl
theorem q_703 : (Jvm.Cond.methodLink "CrownTwoLaw" (106 : Nat) ({ cls := "CrownTwo", name := "is", desc := "(I)I" } : Jvm.MethodName)) ∈ gw := gw_t3 223 rfl rfl
theorem q_704 : (Jvm.Cond.instanceMethod ({ cls := "CrownTwo", name := "is", desc := "(I)I" } : Jvm.MethodName)) ∈ gw := gw_t3 224 rfl rfl
theorem q_705 : (Jvm.Cond.selects "CrownTwo" ({ cls := "CrownTwo", name := "is", desc := "(I)I" } : Jvm.MethodName) ({ cls := "CrownTwo", name := "is", desc := "(I)I" } : Jvm.MethodName)) ∈ gw := gw_t3 225 rfl rfl
theorem q_706 : (Jvm.Cond.code ({ cls := "CrownTwo", name := "is", desc := "(I)I" } : Jvm.MethodName) prog_1_method_24_code (2 : Nat) (Option.some Jvm.ClassFile.FieldType.int)) ∈ gw := gw_t3 226 rfl rfl
theorem q_707 : (Jvm.Cond.methodLink "CrownTwo" (254 : Nat) ({ cls := "CrownTwo", name := "kindsThatFit", desc := "(I)I" } : Jvm.MethodName)) ∈ gw := gw_t3 227 rfl rfl
theorem q_709 : (Jvm.Cond.instanceMethod ({ cls := "CrownTwo", name := "kindsThatFit", desc := "(I)I" } : Jvm.MethodName)) ∈ gw := gw_t3 229 rfl rfl
theorem q_710 : (Jvm.Cond.code ({ cls := "CrownTwo", name := "kindsThatFit", desc := "(I)I" } : Jvm.MethodName) prog_1_method_46_code (4 : Nat) (Option.some Jvm.ClassFile.FieldType.int)) ∈ gw := gw_t3 230 rfl rfl
theorem q_711 : (Jvm.Cond.methodLink "CrownTwo" (261 : Nat) ({ cls := "CrownTwo$Court", name := "fits", desc := "(II)Z" } : Jvm.MethodName)) ∈ gw := gw_t3 231 rfl rfl
theorem q_712 : (Jvm.Cond.instanceMethod ({ cls := "CrownTwo$Court", name := "fits", desc := "(II)Z" } : Jvm.MethodName)) ∈ gw := gw_t3 232 rfl rfl
theorem q_713 : (Jvm.Cond.selects "CrownTwo$Court" ({ cls := "CrownTwo$Court", name := "fits", desc := "(II)Z" } : Jvm.MethodName) ({ cls := "CrownTwo$Court", name := "fits", desc := "(II)Z" } : Jvm.MethodName)) ∈ gw := gw_t3 233 rfl rfl
theorem q_714 : (Jvm.Cond.code ({ cls := "CrownTwo$Court", name := "fits", desc := "(II)Z" } : Jvm.MethodName) prog_2_method_20_code (6 : Nat) (Option.some Jvm.ClassFile.FieldType.boolean)) ∈ gw := gw_t3 234 rfl rfl
theorem q_715 : (Jvm.Cond.methodLink "CrownTwoLaw" (110 : Nat) ({ cls := "CrownTwo", name := "heart", desc := "(II)I" } : Jvm.MethodName)) ∈ gw := gw_t3 235 rfl rfl
theorem q_716 : (Jvm.Cond.instanceMethod ({ cls := "CrownTwo", name := "heart", desc := "(II)I" } : Jvm.MethodName)) ∈ gw := gw_t3 236 rfl rfl
theorem q_717 : (Jvm.Cond.selects "CrownTwo" ({ cls := "CrownTwo", name := "heart", desc := "(II)I" } : Jvm.MethodName) ({ cls := "CrownTwo", name := "heart", desc := "(II)I" } : Jvm.MethodName)) ∈ gw := gw_t3 237 rfl rfl
theorem q_718 : (Jvm.Cond.code ({ cls := "CrownTwo", name := "heart", desc := "(II)I" } : Jvm.MethodName) prog_1_method_25_code (8 : Nat) (Option.some Jvm.ClassFile.FieldType.int)) ∈ gw := gw_t3 238 rfl rfl
theorem q_719 : (Jvm.Cond.methodLink "CrownTwo" (257 : Nat) ({ cls := "CrownTwo$Heir", name := "feel", desc := "(II)V" } : Jvm.MethodName)) ∈ gw := gw_t3 239 rfl rfl
theorem q_720 : (Jvm.Cond.methodLink "CrownTwoLaw" (114 : Nat) ({ cls := "CrownTwo", name := "next", desc := "(I)I" } : Jvm.MethodName)) ∈ gw := gw_t4 0 rfl rfl
theorem q_721 : (Jvm.Cond.instanceMethod ({ cls := "CrownTwo", name := "next", desc := "(I)I" } : Jvm.MethodName)) ∈ gw := gw_t4 1 rfl rfl
theorem q_722 : (Jvm.Cond.selects "CrownTwo" ({ cls := "CrownTwo", name := "next", desc := "(I)I" } : Jvm.MethodName) ({ cls := "CrownTwo", name := "next", desc := "(I)I" } : Jvm.MethodName)) ∈ gw := gw_t4 2 rfl rfl
theorem q_723 : (Jvm.Cond.code ({ cls := "CrownTwo", name := "next", desc := "(I)I" } : Jvm.MethodName) prog_1_method_26_code (9 : Nat) (Option.some Jvm.ClassFile.FieldType.int)) ∈ gw := gw_t4 3 rfl rfl
theorem q_724 : (Jvm.Cond.methodLink "CrownTwo" (264 : Nat) ({ cls := "java/lang/Integer", name := "bitCount", desc := "(I)I" } : Jvm.MethodName)) ∈ gw := gw_t4 4 rfl rfl
theorem q_725 : (Jvm.Cond.static ({ cls := "java/lang/Integer", name := "bitCount", desc := "(I)I" } : Jvm.MethodName)) ∈ gw := gw_t4 5 rfl rfl
theorem q_726 : (Jvm.Cond.code ({ cls := "java/lang/Integer", name := "bitCount", desc := "(I)I" } : Jvm.MethodName) prog_15_method_49_code (1 : Nat) (Option.some Jvm.ClassFile.FieldType.int)) ∈ gw := gw_t4 6 rfl rfl
theorem q_727 : (Jvm.Cond.constant "java/lang/Integer" (265 : Nat) (1431655765 : Int32)) ∈ gw := gw_t4 7 rfl rfl
theorem q_728 : (Jvm.Cond.constant "java/lang/Integer" (266 : Nat) (858993459 : Int32)) ∈ gw := gw_t4 8 rfl rfl
theorem q_729 : (Jvm.Cond.constant "java/lang/Integer" (267 : Nat) (252645135 : Int32)) ∈ gw := gw_t4 9 rfl rfl
theorem q_730 : (Jvm.Cond.methodLink "CrownTwo" (269 : Nat) ({ cls := "CrownTwo$Court", name := "kindsThatLift", desc := "(II)I" } : Jvm.MethodName)) ∈ gw := gw_t4 10 rfl rfl
theorem q_731 : (Jvm.Cond.instanceMethod ({ cls := "CrownTwo$Court", name := "kindsThatLift", desc := "(II)I" } : Jvm.MethodName)) ∈ gw := gw_t4 11 rfl rfl
theorem q_732 : (Jvm.Cond.selects "CrownTwo$Court" ({ cls := "CrownTwo$Court", name := "kindsThatLift", desc := "(II)I" } : Jvm.MethodName) ({ cls := "CrownTwo$Court", name := "kindsThatLift", desc := "(II)I" } : Jvm.MethodName)) ∈ gw := gw_t4 12 rfl rfl
theorem q_733 : (Jvm.Cond.code ({ cls := "CrownTwo$Court", name := "kindsThatLift", desc := "(II)I" } : Jvm.MethodName) prog_2_method_19_code (5 : Nat) (Option.some Jvm.ClassFile.FieldType.int)) ∈ gw := gw_t4 13 rfl rfl
theorem q_734 : (Jvm.Cond.methodLink "CrownTwo" (272 : Nat) ({ cls := "java/lang/Math", name := "max", desc := "(II)I" } : Jvm.MethodName)) ∈ gw := gw_t4 14 rfl rfl
theorem q_735 : (Jvm.Cond.methodLink "CrownTwoLaw" (118 : Nat) ({ cls := "CrownTwo", name := "spite", desc := "(I)I" } : Jvm.MethodName)) ∈ gw := gw_t4 15 rfl rfl
theorem q_736 : (Jvm.Cond.instanceMethod ({ cls := "CrownTwo", name := "spite", desc := "(I)I" } : Jvm.MethodName)) ∈ gw := gw_t4 16 rfl rfl
theorem q_737 : (Jvm.Cond.selects "CrownTwo" ({ cls := "CrownTwo", name := "spite", desc := "(I)I" } : Jvm.MethodName) ({ cls := "CrownTwo", name := "spite", desc := "(I)I" } : Jvm.MethodName)) ∈ gw := gw_t4 17 rfl rfl
theorem q_738 : (Jvm.Cond.code ({ cls := "CrownTwo", name := "spite", desc := "(I)I" } : Jvm.MethodName) prog_1_method_27_code (10 : Nat) (Option.some Jvm.ClassFile.FieldType.int)) ∈ gw := gw_t4 18 rfl rfl
theorem q_739 : (Jvm.Cond.methodLink "CrownTwo" (277 : Nat) ({ cls := "CrownTwo", name := "gain", desc := "(LCrownTwo$Heir;IZZ)I" } : Jvm.MethodName)) ∈ gw := gw_t4 19 rfl rfl
theorem q_740 : (Jvm.Cond.static ({ cls := "CrownTwo", name := "gain", desc := "(LCrownTwo$Heir;IZZ)I" } : Jvm.MethodName)) ∈ gw := gw_t4 20 rfl rfl
theorem q_741 : (Jvm.Cond.code ({ cls := "CrownTwo", name := "gain", desc := "(LCrownTwo$Heir;IZZ)I" } : Jvm.MethodName) prog_1_method_47_code (4 : Nat) (Option.some Jvm.ClassFile.FieldType.int)) ∈ gw := gw_t4 21 rfl rfl
theorem q_742 : (Jvm.Cond.methodLink "CrownTwo" (326 : Nat) ({ cls := "CrownTwo$Heir", name := "likesAlone", desc := "(I)Z" } : Jvm.MethodName)) ∈ gw := gw_t4 22 rfl rfl
theorem q_743 : (Jvm.Cond.methodLink "CrownTwo" (329 : Nat) ({ cls := "CrownTwo$Heir", name := "hatesAlone", desc := "(I)Z" } : Jvm.MethodName)) ∈ gw := gw_t4 23 rfl rfl
theorem q_744 : (Jvm.Cond.methodLink "CrownTwoLaw" (122 : Nat) ({ cls := "CrownTwo", name := "slips", desc := "(II)I" } : Jvm.MethodName)) ∈ gw := gw_t4 24 rfl rfl
theorem q_745 : (Jvm.Cond.instanceMethod ({ cls := "CrownTwo", name := "slips", desc := "(II)I" } : Jvm.MethodName)) ∈ gw := gw_t4 25 rfl rfl
theorem q_746 : (Jvm.Cond.selects "CrownTwo" ({ cls := "CrownTwo", name := "slips", desc := "(II)I" } : Jvm.MethodName) ({ cls := "CrownTwo", name := "slips", desc := "(II)I" } : Jvm.MethodName)) ∈ gw := gw_t4 26 rfl rfl
theorem q_747 : (Jvm.Cond.code ({ cls := "CrownTwo", name := "slips", desc := "(II)I" } : Jvm.MethodName) prog_1_method_28_code (6 : Nat) (Option.some Jvm.ClassFile.FieldType.int)) ∈ gw := gw_t4 27 rfl rfl
theorem q_748 : (Jvm.Cond.methodLink "CrownTwo" (281 : Nat) ({ cls := "CrownTwo", name := "setFraction", desc := "(II)V" } : Jvm.MethodName)) ∈ gw := gw_t4 28 rfl rfl
theorem q_750 : (Jvm.Cond.instanceMethod ({ cls := "CrownTwo", name := "setFraction", desc := "(II)V" } : Jvm.MethodName)) ∈ gw := gw_t4 30 rfl rfl
theorem q_751 : (Jvm.Cond.code ({ cls := "CrownTwo", name := "setFraction", desc := "(II)V" } : Jvm.MethodName) prog_1_method_48_code (7 : Nat) (Option.none : Option Jvm.ClassFile.FieldType)) ∈ gw := gw_t4 31 rfl rfl
theorem q_752 : (Jvm.Cond.methodLink "CrownTwoLaw" (126 : Nat) ({ cls := "CrownTwo", name := "reigns", desc := "(II)I" } : Jvm.MethodName)) ∈ gw := gw_t4 32 rfl rfl
theorem q_753 : (Jvm.Cond.instanceMethod ({ cls := "CrownTwo", name := "reigns", desc := "(II)I" } : Jvm.MethodName)) ∈ gw := gw_t4 33 rfl rfl
theorem q_754 : (Jvm.Cond.selects "CrownTwo" ({ cls := "CrownTwo", name := "reigns", desc := "(II)I" } : Jvm.MethodName) ({ cls := "CrownTwo", name := "reigns", desc := "(II)I" } : Jvm.MethodName)) ∈ gw := gw_t4 34 rfl rfl
theorem q_755 : (Jvm.Cond.code ({ cls := "CrownTwo", name := "reigns", desc := "(II)I" } : Jvm.MethodName) prog_1_method_29_code (7 : Nat) (Option.some Jvm.ClassFile.FieldType.int)) ∈ gw := gw_t4 35 rfl rfl
theorem q_756 : (Jvm.Cond.constant "CrownTwo" (284 : Nat) (999999 : Int32)) ∈ gw := gw_t4 36 rfl rfl
theorem q_757 : (Jvm.Cond.constantLong "CrownTwo" (285 : Nat) (1103515245 : Int64)) ∈ gw := gw_t4 37 rfl rfl
theorem q_758 : (Jvm.Cond.constantLong "CrownTwo" (287 : Nat) (12345 : Int64)) ∈ gw := gw_t4 38 rfl rfl
theorem q_759 : (Jvm.Cond.constantLong "CrownTwo" (289 : Nat) (2147483648 : Int64)) ∈ gw := gw_t4 39 rfl rfl
theorem q_760 : (Jvm.Cond.constantLong "CrownTwo" (291 : Nat) (65536 : Int64)) ∈ gw := gw_t4 40 rfl rfl
theorem q_761 : (Jvm.Cond.constantLong "CrownTwo" (293 : Nat) (8 : Int64)) ∈ gw := gw_t4 41 rfl rfl
theorem q_762 : (Jvm.Cond.methodLink "CrownTwoLaw" (130 : Nat) ({ cls := "CrownTwo", name := "part", desc := "(I)J" } : Jvm.MethodName)) ∈ gw := gw_t4 42 rfl rfl
theorem q_763 : (Jvm.Cond.instanceMethod ({ cls := "CrownTwo", name := "part", desc := "(I)J" } : Jvm.MethodName)) ∈ gw := gw_t4 43 rfl rfl
theorem q_764 : (Jvm.Cond.selects "CrownTwo" ({ cls := "CrownTwo", name := "part", desc := "(I)J" } : Jvm.MethodName) ({ cls := "CrownTwo", name := "part", desc := "(I)J" } : Jvm.MethodName)) ∈ gw := gw_t4 44 rfl rfl
theorem q_765 : (Jvm.Cond.code ({ cls := "CrownTwo", name := "part", desc := "(I)J" } : Jvm.MethodName) prog_1_method_30_code (2 : Nat) (Option.some Jvm.ClassFile.FieldType.long)) ∈ gw := gw_t4 45 rfl rfl
theorem q_766 : (Jvm.Cond.methodLink "CrownTwoLaw" (135 : Nat) ({ cls := "CrownTwo", name := "image", desc := "(I)I" } : Jvm.MethodName)) ∈ gw := gw_t4 46 rfl rfl
theorem q_767 : (Jvm.Cond.instanceMethod ({ cls := "CrownTwo", name := "image", desc := "(I)I" } : Jvm.MethodName)) ∈ gw := gw_t4 47 rfl rfl
theorem q_768 : (Jvm.Cond.selects "CrownTwo" ({ cls := "CrownTwo", name := "image", desc := "(I)I" } : Jvm.MethodName) ({ cls := "CrownTwo", name := "image", desc := "(I)I" } : Jvm.MethodName)) ∈ gw := gw_t4 48 rfl rfl
theorem q_769 : (Jvm.Cond.code ({ cls := "CrownTwo", name := "image", desc := "(I)I" } : Jvm.MethodName) prog_1_method_31_code (2 : Nat) (Option.some Jvm.ClassFile.FieldType.int)) ∈ gw := gw_t4 49 rfl rfl
theorem q_770 : (Jvm.Cond.methodLink "CrownTwoLaw" (139 : Nat) ({ cls := "CrownTwo", name := "from", desc := "(I)I" } : Jvm.MethodName)) ∈ gw := gw_t4 50 rfl rfl
theorem q_771 : (Jvm.Cond.instanceMethod ({ cls := "CrownTwo", name := "from", desc := "(I)I" } : Jvm.MethodName)) ∈ gw := gw_t4 51 rfl rfl
theorem q_772 : (Jvm.Cond.selects "CrownTwo" ({ cls := "CrownTwo", name := "from", desc := "(I)I" } : Jvm.MethodName) ({ cls := "CrownTwo", name := "from", desc := "(I)I" } : Jvm.MethodName)) ∈ gw := gw_t4 52 rfl rfl
theorem q_773 : (Jvm.Cond.code ({ cls := "CrownTwo", name := "from", desc := "(I)I" } : Jvm.MethodName) prog_1_method_32_code (2 : Nat) (Option.some Jvm.ClassFile.FieldType.int)) ∈ gw := gw_t4 53 rfl rfl
theorem q_774 : (Jvm.Cond.methodLink "CrownTwoLaw" (143 : Nat) ({ cls := "CrownTwo", name := "status", desc := "(I)I" } : Jvm.MethodName)) ∈ gw := gw_t4 54 rfl rfl
theorem q_775 : (Jvm.Cond.instanceMethod ({ cls := "CrownTwo", name := "status", desc := "(I)I" } : Jvm.MethodName)) ∈ gw := gw_t4 55 rfl rfl
theorem q_776 : (Jvm.Cond.selects "CrownTwo" ({ cls := "CrownTwo", name := "status", desc := "(I)I" } : Jvm.MethodName) ({ cls := "CrownTwo", name := "status", desc := "(I)I" } : Jvm.MethodName)) ∈ gw := gw_t4 56 rfl rfl
theorem q_777 : (Jvm.Cond.code ({ cls := "CrownTwo", name := "status", desc := "(I)I" } : Jvm.MethodName) prog_1_method_33_code (2 : Nat) (Option.some Jvm.ClassFile.FieldType.int)) ∈ gw := gw_t4 57 rfl rfl
theorem q_778 : (Jvm.Cond.methodLink "CrownTwoLaw" (147 : Nat) ({ cls := "CrownTwo", name := "count", desc := "(I)I" } : Jvm.MethodName)) ∈ gw := gw_t4 58 rfl rfl
theorem q_779 : (Jvm.Cond.instanceMethod ({ cls := "CrownTwo", name := "count", desc := "(I)I" } : Jvm.MethodName)) ∈ gw := gw_t4 59 rfl rfl
theorem q_780 : (Jvm.Cond.selects "CrownTwo" ({ cls := "CrownTwo", name := "count", desc := "(I)I" } : Jvm.MethodName) ({ cls := "CrownTwo", name := "count", desc := "(I)I" } : Jvm.MethodName)) ∈ gw := gw_t4 60 rfl rfl
theorem q_781 : (Jvm.Cond.code ({ cls := "CrownTwo", name := "count", desc := "(I)I" } : Jvm.MethodName) prog_1_method_34_code (2 : Nat) (Option.some Jvm.ClassFile.FieldType.int)) ∈ gw := gw_t4 61 rfl rfl
theorem q_782 : (Jvm.Cond.methodLink "CrownTwo" (298 : Nat) ({ cls := "CrownTwo", name := "howMany", desc := "(I)I" } : Jvm.MethodName)) ∈ gw := gw_t4 62 rfl rfl
theorem q_784 : (Jvm.Cond.instanceMethod ({ cls := "CrownTwo", name := "howMany", desc := "(I)I" } : Jvm.MethodName)) ∈ gw := gw_t4 64 rfl rfl
theorem q_785 : (Jvm.Cond.code ({ cls := "CrownTwo", name := "howMany", desc := "(I)I" } : Jvm.MethodName) prog_1_method_49_code (2 : Nat) (Option.some Jvm.ClassFile.FieldType.int)) ∈ gw := gw_t4 65 rfl rfl
theorem q_786 : (Jvm.Cond.methodLink "CrownTwoLaw" (151 : Nat) ({ cls := "CrownTwo", name := "digest", desc := "()J" } : Jvm.MethodName)) ∈ gw := gw_t4 66 rfl rfl
theorem q_787 : (Jvm.Cond.instanceMethod ({ cls := "CrownTwo", name := "digest", desc := "()J" } : Jvm.MethodName)) ∈ gw := gw_t4 67 rfl rfl
theorem q_788 : (Jvm.Cond.selects "CrownTwo" ({ cls := "CrownTwo", name := "digest", desc := "()J" } : Jvm.MethodName) ({ cls := "CrownTwo", name := "digest", desc := "()J" } : Jvm.MethodName)) ∈ gw := gw_t4 68 rfl rfl
theorem q_789 : (Jvm.Cond.code ({ cls := "CrownTwo", name := "digest", desc := "()J" } : Jvm.MethodName) prog_1_method_35_code (4 : Nat) (Option.some Jvm.ClassFile.FieldType.long)) ∈ gw := gw_t4 69 rfl rfl
theorem q_790 : (Jvm.Cond.constantLong "CrownTwo" (301 : Nat) (1249 : Int64)) ∈ gw := gw_t4 70 rfl rfl
theorem q_791 : (Jvm.Cond.constantLong "CrownTwo" (303 : Nat) (31 : Int64)) ∈ gw := gw_t4 71 rfl rfl
theorem q_792 : (Jvm.Cond.methodLink "CrownTwo" (305 : Nat) ({ cls := "CrownTwo$Heir", name := "addTo", desc := "(J)J" } : Jvm.MethodName)) ∈ gw := gw_t4 72 rfl rfl
theorem q_793 : (Jvm.Cond.instanceMethod ({ cls := "CrownTwo$Heir", name := "addTo", desc := "(J)J" } : Jvm.MethodName)) ∈ gw := gw_t4 73 rfl rfl
theorem q_794 : (Jvm.Cond.selects "CrownTwo$Heir" ({ cls := "CrownTwo$Heir", name := "addTo", desc := "(J)J" } : Jvm.MethodName) ({ cls := "CrownTwo$Heir", name := "addTo", desc := "(J)J" } : Jvm.MethodName)) ∈ gw := gw_t4 74 rfl rfl
theorem q_795 : (Jvm.Cond.code ({ cls := "CrownTwo$Heir", name := "addTo", desc := "(J)J" } : Jvm.MethodName) prog_5_method_7_code (5 : Nat) (Option.some Jvm.ClassFile.FieldType.long)) ∈ gw := gw_t4 75 rfl rfl
theorem q_796 : (Jvm.Cond.constantLong "CrownTwo$Heir" (26 : Nat) (31 : Int64)) ∈ gw := gw_t4 76 rfl rfl
theorem q_797 : (Jvm.Cond.methodLink "CrownTwo" (309 : Nat) ({ cls := "CrownTwo$Note", name := "addTo", desc := "(J)J" } : Jvm.MethodName)) ∈ gw := gw_t4 77 rfl rfl
theorem q_798 : (Jvm.Cond.instanceMethod ({ cls := "CrownTwo$Note", name := "addTo", desc := "(J)J" } : Jvm.MethodName)) ∈ gw := gw_t4 78 rfl rfl
theorem q_799 : (Jvm.Cond.selects "CrownTwo$Note" ({ cls := "CrownTwo$Note", name := "addTo", desc := "(J)J" } : Jvm.MethodName) ({ cls := "CrownTwo$Note", name := "addTo", desc := "(J)J" } : Jvm.MethodName)) ∈ gw := gw_t4 79 rfl rfl
theorem q_800 : (Jvm.Cond.code ({ cls := "CrownTwo$Note", name := "addTo", desc := "(J)J" } : Jvm.MethodName) prog_8_method_4_code (5 : Nat) (Option.some Jvm.ClassFile.FieldType.long)) ∈ gw := gw_t4 80 rfl rfl
theorem q_801 : (Jvm.Cond.constantLong "CrownTwo$Note" (29 : Nat) (31 : Int64)) ∈ gw := gw_t4 81 rfl rfl
theorem q_802 : (Jvm.Cond.classLink "CrownTwoLaw" (10 : Nat) "CrownTwoModel") ∈ gw := gw_t4 82 rfl rfl
theorem q_803 : (Jvm.Cond.instantiable "CrownTwoModel" (36 : Nat)) ∈ gw := gw_t4 83 rfl rfl
theorem q_804 : (Jvm.Cond.methodLink "CrownTwoLaw" (12 : Nat) ({ cls := "CrownTwoModel", name := "<init>", desc := "()V" } : Jvm.MethodName)) ∈ gw := gw_t4 84 rfl rfl
theorem q_805 : (Jvm.Cond.instanceMethod ({ cls := "CrownTwoModel", name := "<init>", desc := "()V" } : Jvm.MethodName)) ∈ gw := gw_t4 85 rfl rfl
theorem q_806 : (Jvm.Cond.code ({ cls := "CrownTwoModel", name := "<init>", desc := "()V" } : Jvm.MethodName) prog_14_method_9_code (1 : Nat) (Option.none : Option Jvm.ClassFile.FieldType)) ∈ gw := gw_t4 86 rfl rfl
theorem q_807 : (Jvm.Cond.methodLink "CrownTwoModel" (7 : Nat) ({ cls := "java/lang/Object", name := "<init>", desc := "()V" } : Jvm.MethodName)) ∈ gw := gw_t4 87 rfl rfl
theorem q_808 : (Jvm.Cond.methodLink "CrownTwoModel" (78 : Nat) ({ cls := "CrownTwoModel", name := "begin", desc := "(I)V" } : Jvm.MethodName)) ∈ gw := gw_t4 88 rfl rfl
theorem q_810 : (Jvm.Cond.instanceMethod ({ cls := "CrownTwoModel", name := "begin", desc := "(I)V" } : Jvm.MethodName)) ∈ gw := gw_t4 90 rfl rfl
theorem q_811 : (Jvm.Cond.code ({ cls := "CrownTwoModel", name := "begin", desc := "(I)V" } : Jvm.MethodName) prog_14_method_10_code (2 : Nat) (Option.none : Option Jvm.ClassFile.FieldType)) ∈ gw := gw_t4 91 rfl rfl
theorem q_812 : (Jvm.Cond.fieldLink "CrownTwoModel" (1 : Nat) "CrownTwoModel" "refused" "[I") ∈ gw := gw_t4 92 rfl rfl
theorem q_813 : (Jvm.Cond.fieldLink "CrownTwoModel" (82 : Nat) "CrownTwoModel" "many" "I") ∈ gw := gw_t4 93 rfl rfl
theorem q_814 : (Jvm.Cond.fieldLink "CrownTwoModel" (13 : Nat) "CrownTwoModel" "warmth" "I") ∈ gw := gw_t4 94 rfl rfl
theorem q_815 : (Jvm.Cond.fieldLink "CrownTwoModel" (85 : Nat) "CrownTwoModel" "now" "I") ∈ gw := gw_t4 95 rfl rfl
theorem q_816 : (Jvm.Cond.fieldLink "CrownTwoModel" (88 : Nat) "CrownTwoModel" "done" "I") ∈ gw := gw_t4 96 rfl rfl
theorem q_817 : (Jvm.Cond.fieldLink "CrownTwoModel" (17 : Nat) "CrownTwoModel" "one" "I") ∈ gw := gw_t4 97 rfl rfl
theorem q_818 : (Jvm.Cond.fieldLink "CrownTwoModel" (20 : Nat) "CrownTwoModel" "other" "I") ∈ gw := gw_t4 98 rfl rfl
theorem q_819 : (Jvm.Cond.fieldLink "CrownTwoModel" (91 : Nat) "CrownTwoModel" "noteMany" "I") ∈ gw := gw_t4 99 rfl rfl
theorem q_820 : (Jvm.Cond.fieldLink "CrownTwoModel" (23 : Nat) "CrownTwoModel" "kinds" "[I") ∈ gw := gw_t4 100 rfl rfl
theorem q_821 : (Jvm.Cond.fieldLink "CrownTwoModel" (26 : Nat) "CrownTwoModel" "likes" "[I") ∈ gw := gw_t4 101 rfl rfl
theorem q_822 : (Jvm.Cond.fieldLink "CrownTwoModel" (29 : Nat) "CrownTwoModel" "hates" "[I") ∈ gw := gw_t4 102 rfl rfl
theorem q_823 : (Jvm.Cond.fieldLink "CrownTwoModel" (32 : Nat) "CrownTwoModel" "tempers" "[I") ∈ gw := gw_t4 103 rfl rfl
theorem q_824 : (Jvm.Cond.fieldLink "CrownTwoModel" (35 : Nat) "CrownTwoModel" "noteHeir" "[I") ∈ gw := gw_t4 104 rfl rfl
theorem q_825 : (Jvm.Cond.fieldLink "CrownTwoModel" (38 : Nat) "CrownTwoModel" "noteAct" "[I") ∈ gw := gw_t4 105 rfl rfl
theorem q_826 : (Jvm.Cond.fieldLink "CrownTwoModel" (41 : Nat) "CrownTwoModel" "noteWarmth" "[I") ∈ gw := gw_t4 106 rfl rfl
theorem q_827 : (Jvm.Cond.fieldLink "CrownTwoModel" (44 : Nat) "CrownTwoModel" "noteDay" "[I") ∈ gw := gw_t4 107 rfl rfl
theorem q_828 : (Jvm.Cond.fieldLink "CrownTwoModel" (47 : Nat) "CrownTwoModel" "noteLifted" "[I") ∈ gw := gw_t4 108 rfl rfl
theorem q_829 : (Jvm.Cond.fieldLink "CrownTwoModel" (50 : Nat) "CrownTwoModel" "text" "[I") ∈ gw := gw_t4 109 rfl rfl
theorem q_830 : (Jvm.Cond.fieldLink "CrownTwoModel" (112 : Nat) "CrownTwoModel" "typed" "I") ∈ gw := gw_t4 110 rfl rfl
theorem q_831 : (Jvm.Cond.fieldLink "CrownTwoModel" (115 : Nat) "CrownTwoModel" "readAt" "I") ∈ gw := gw_t4 111 rfl rfl
theorem q_832 : (Jvm.Cond.fieldLink "CrownTwoModel" (174 : Nat) "CrownTwoModel" "readWarmth" "I") ∈ gw := gw_t4 112 rfl rfl
theorem q_833 : (Jvm.Cond.fieldLink "CrownTwoModel" (149 : Nat) "CrownTwoModel" "readMany" "I") ∈ gw := gw_t4 113 rfl rfl
theorem q_834 : (Jvm.Cond.fieldLink "CrownTwoModel" (156 : Nat) "CrownTwoModel" "readOne" "I") ∈ gw := gw_t4 114 rfl rfl
theorem q_835 : (Jvm.Cond.fieldLink "CrownTwoModel" (159 : Nat) "CrownTwoModel" "readOther" "I") ∈ gw := gw_t4 115 rfl rfl
theorem q_836 : (Jvm.Cond.fieldLink "CrownTwoModel" (53 : Nat) "CrownTwoModel" "readHeirs" "[I") ∈ gw := gw_t4 116 rfl rfl
theorem q_837 : (Jvm.Cond.fieldLink "CrownTwoModel" (142 : Nat) "CrownTwoModel" "readNumber" "I") ∈ gw := gw_t4 117 rfl rfl
theorem q_838 : (Jvm.Cond.fieldLink "CrownTwoModel" (56 : Nat) "CrownTwoModel" "ahead" "[I") ∈ gw := gw_t4 118 rfl rfl
theorem q_839 : (Jvm.Cond.fieldLink "CrownTwoModel" (94 : Nat) "CrownTwoModel" "undoMany" "I") ∈ gw := gw_t4 119 rfl rfl
theorem q_840 : (Jvm.Cond.fieldLink "CrownTwoModel" (59 : Nat) "CrownTwoModel" "aside" "[I") ∈ gw := gw_t4 120 rfl rfl
theorem q_841 : (Jvm.Cond.fieldLink "CrownTwoModel" (62 : Nat) "CrownTwoModel" "line" "[I") ∈ gw := gw_t4 121 rfl rfl
theorem q_842 : (Jvm.Cond.fieldLink "CrownTwoModel" (65 : Nat) "CrownTwoModel" "bestLine" "[I") ∈ gw := gw_t4 122 rfl rfl
theorem q_843 : (Jvm.Cond.fieldLink "CrownTwoModel" (280 : Nat) "CrownTwoModel" "above" "J") ∈ gw := gw_t4 123 rfl rfl
theorem q_844 : (Jvm.Cond.fieldLink "CrownTwoModel" (68 : Nat) "CrownTwoModel" "below" "J") ∈ gw := gw_t4 124 rfl rfl
theorem q_845 : (Jvm.Cond.fieldLink "CrownTwoModel" (72 : Nat) "CrownTwoModel" "images" "[I") ∈ gw := gw_t4 125 rfl rfl
theorem q_846 : (Jvm.Cond.fieldLink "CrownTwoModel" (75 : Nat) "CrownTwoModel" "isKept" "[I") ∈ gw := gw_t4 126 rfl rfl
theorem q_847 : (Jvm.Cond.fieldLink "CrownTwoModel" (305 : Nat) "CrownTwoModel" "h0" "J") ∈ gw := gw_t4 127 rfl rfl
theorem q_848 : (Jvm.Cond.laysFinal "CrownTwoModel" "CrownTwoModel" "refused" "[I") ∈ gw := gw_t4 128 rfl rfl
theorem q_850 : (Jvm.Cond.lays "CrownTwoModel" "CrownTwoModel" "many" "I") ∈ gw := gw_t4 130 rfl rfl
theorem q_852 : (Jvm.Cond.lays "CrownTwoModel" "CrownTwoModel" "warmth" "I") ∈ gw := gw_t4 132 rfl rfl
theorem q_854 : (Jvm.Cond.lays "CrownTwoModel" "CrownTwoModel" "now" "I") ∈ gw := gw_t4 134 rfl rfl
theorem q_856 : (Jvm.Cond.lays "CrownTwoModel" "CrownTwoModel" "done" "I") ∈ gw := gw_t4 136 rfl rfl
theorem q_858 : (Jvm.Cond.lays "CrownTwoModel" "CrownTwoModel" "one" "I") ∈ gw := gw_t4 138 rfl rfl
theorem q_860 : (Jvm.Cond.lays "CrownTwoModel" "CrownTwoModel" "other" "I") ∈ gw := gw_t4 140 rfl rfl
theorem q_862 : (Jvm.Cond.lays "CrownTwoModel" "CrownTwoModel" "noteMany" "I") ∈ gw := gw_t4 142 rfl rfl
theorem q_864 : (Jvm.Cond.laysFinal "CrownTwoModel" "CrownTwoModel" "kinds" "[I") ∈ gw := gw_t4 144 rfl rfl
theorem q_866 : (Jvm.Cond.laysFinal "CrownTwoModel" "CrownTwoModel" "likes" "[I") ∈ gw := gw_t4 146 rfl rfl
theorem q_868 : (Jvm.Cond.laysFinal "CrownTwoModel" "CrownTwoModel" "hates" "[I") ∈ gw := gw_t4 148 rfl rfl
theorem q_870 : (Jvm.Cond.laysFinal "CrownTwoModel" "CrownTwoModel" "tempers" "[I") ∈ gw := gw_t4 150 rfl rfl
theorem q_872 : (Jvm.Cond.laysFinal "CrownTwoModel" "CrownTwoModel" "noteHeir" "[I") ∈ gw := gw_t4 152 rfl rfl
theorem q_874 : (Jvm.Cond.laysFinal "CrownTwoModel" "CrownTwoModel" "noteAct" "[I") ∈ gw := gw_t4 154 rfl rfl
theorem q_876 : (Jvm.Cond.laysFinal "CrownTwoModel" "CrownTwoModel" "noteWarmth" "[I") ∈ gw := gw_t4 156 rfl rfl
theorem q_878 : (Jvm.Cond.laysFinal "CrownTwoModel" "CrownTwoModel" "noteDay" "[I") ∈ gw := gw_t4 158 rfl rfl
theorem q_880 : (Jvm.Cond.laysFinal "CrownTwoModel" "CrownTwoModel" "noteLifted" "[I") ∈ gw := gw_t4 160 rfl rfl
theorem q_882 : (Jvm.Cond.laysFinal "CrownTwoModel" "CrownTwoModel" "text" "[I") ∈ gw := gw_t4 162 rfl rfl
theorem q_884 : (Jvm.Cond.lays "CrownTwoModel" "CrownTwoModel" "typed" "I") ∈ gw := gw_t4 164 rfl rfl
theorem q_886 : (Jvm.Cond.lays "CrownTwoModel" "CrownTwoModel" "readAt" "I") ∈ gw := gw_t4 166 rfl rfl
theorem q_888 : (Jvm.Cond.lays "CrownTwoModel" "CrownTwoModel" "readWarmth" "I") ∈ gw := gw_t4 168 rfl rfl
theorem q_890 : (Jvm.Cond.lays "CrownTwoModel" "CrownTwoModel" "readMany" "I") ∈ gw := gw_t4 170 rfl rfl
theorem q_892 : (Jvm.Cond.lays "CrownTwoModel" "CrownTwoModel" "readOne" "I") ∈ gw := gw_t4 172 rfl rfl
theorem q_894 : (Jvm.Cond.lays "CrownTwoModel" "CrownTwoModel" "readOther" "I") ∈ gw := gw_t4 174 rfl rfl
theorem q_896 : (Jvm.Cond.laysFinal "CrownTwoModel" "CrownTwoModel" "readHeirs" "[I") ∈ gw := gw_t4 176 rfl rfl
theorem q_898 : (Jvm.Cond.lays "CrownTwoModel" "CrownTwoModel" "readNumber" "I") ∈ gw := gw_t4 178 rfl rfl
theorem q_900 : (Jvm.Cond.laysFinal "CrownTwoModel" "CrownTwoModel" "ahead" "[I") ∈ gw := gw_t4 180 rfl rfl
theorem q_902 : (Jvm.Cond.lays "CrownTwoModel" "CrownTwoModel" "undoMany" "I") ∈ gw := gw_t4 182 rfl rfl
theorem q_904 : (Jvm.Cond.laysFinal "CrownTwoModel" "CrownTwoModel" "aside" "[I") ∈ gw := gw_t4 184 rfl rfl
theorem q_906 : (Jvm.Cond.laysFinal "CrownTwoModel" "CrownTwoModel" "line" "[I") ∈ gw := gw_t4 186 rfl rfl
theorem q_908 : (Jvm.Cond.laysFinal "CrownTwoModel" "CrownTwoModel" "bestLine" "[I") ∈ gw := gw_t4 188 rfl rfl
theorem q_910 : (Jvm.Cond.lays "CrownTwoModel" "CrownTwoModel" "above" "J") ∈ gw := gw_t4 190 rfl rfl
theorem q_912 : (Jvm.Cond.lays "CrownTwoModel" "CrownTwoModel" "below" "J") ∈ gw := gw_t4 192 rfl rfl
theorem q_914 : (Jvm.Cond.laysFinal "CrownTwoModel" "CrownTwoModel" "images" "[I") ∈ gw := gw_t4 194 rfl rfl
theorem q_916 : (Jvm.Cond.laysFinal "CrownTwoModel" "CrownTwoModel" "isKept" "[I") ∈ gw := gw_t4 196 rfl rfl
theorem q_918 : (Jvm.Cond.lays "CrownTwoModel" "CrownTwoModel" "h0" "J") ∈ gw := gw_t4 198 rfl rfl
theorem q_920 : (Jvm.Cond.superclass "CrownTwoModel" "java/lang/Object") ∈ gw := gw_t4 200 rfl rfl
theorem q_921 : (Jvm.Cond.methodLink "CrownTwoLaw" (17 : Nat) ({ cls := "CrownTwoModel", name := "court", desc := "(I)I" } : Jvm.MethodName)) ∈ gw := gw_t4 201 rfl rfl
theorem q_922 : (Jvm.Cond.instanceMethod ({ cls := "CrownTwoModel", name := "court", desc := "(I)I" } : Jvm.MethodName)) ∈ gw := gw_t4 202 rfl rfl
theorem q_923 : (Jvm.Cond.selects "CrownTwoModel" ({ cls := "CrownTwoModel", name := "court", desc := "(I)I" } : Jvm.MethodName) ({ cls := "CrownTwoModel", name := "court", desc := "(I)I" } : Jvm.MethodName)) ∈ gw := gw_t4 203 rfl rfl
theorem q_924 : (Jvm.Cond.code ({ cls := "CrownTwoModel", name := "court", desc := "(I)I" } : Jvm.MethodName) prog_14_method_14_code (3 : Nat) (Option.some Jvm.ClassFile.FieldType.int)) ∈ gw := gw_t4 204 rfl rfl
theorem q_925 : (Jvm.Cond.methodLink "CrownTwoModel" (97 : Nat) ({ cls := "CrownTwoModel", name := "in", desc := "(III)Z" } : Jvm.MethodName)) ∈ gw := gw_t4 205 rfl rfl
theorem q_926 : (Jvm.Cond.static ({ cls := "CrownTwoModel", name := "in", desc := "(III)Z" } : Jvm.MethodName)) ∈ gw := gw_t4 206 rfl rfl
theorem q_927 : (Jvm.Cond.code ({ cls := "CrownTwoModel", name := "in", desc := "(III)Z" } : Jvm.MethodName) prog_14_method_5_code (3 : Nat) (Option.some Jvm.ClassFile.FieldType.boolean)) ∈ gw := gw_t4 207 rfl rfl
theorem q_928 : (Jvm.Cond.methodLink "CrownTwoModel" (101 : Nat) ({ cls := "CrownTwoModel", name := "bad", desc := "()I" } : Jvm.MethodName)) ∈ gw := gw_t4 208 rfl rfl
theorem q_930 : (Jvm.Cond.instanceMethod ({ cls := "CrownTwoModel", name := "bad", desc := "()I" } : Jvm.MethodName)) ∈ gw := gw_t4 210 rfl rfl
theorem q_931 : (Jvm.Cond.code ({ cls := "CrownTwoModel", name := "bad", desc := "()I" } : Jvm.MethodName) prog_14_method_1_code (1 : Nat) (Option.some Jvm.ClassFile.FieldType.int)) ∈ gw := gw_t4 211 rfl rfl
theorem q_932 : (Jvm.Cond.methodLink "CrownTwoLaw" (22 : Nat) ({ cls := "CrownTwoModel", name := "heir", desc := "(IIII)I" } : Jvm.MethodName)) ∈ gw := gw_t4 212 rfl rfl
theorem q_933 : (Jvm.Cond.instanceMethod ({ cls := "CrownTwoModel", name := "heir", desc := "(IIII)I" } : Jvm.MethodName)) ∈ gw := gw_t4 213 rfl rfl
theorem q_934 : (Jvm.Cond.selects "CrownTwoModel" ({ cls := "CrownTwoModel", name := "heir", desc := "(IIII)I" } : Jvm.MethodName) ({ cls := "CrownTwoModel", name := "heir", desc := "(IIII)I" } : Jvm.MethodName)) ∈ gw := gw_t4 214 rfl rfl
theorem q_935 : (Jvm.Cond.code ({ cls := "CrownTwoModel", name := "heir", desc := "(IIII)I" } : Jvm.MethodName) prog_14_method_16_code (5 : Nat) (Option.some Jvm.ClassFile.FieldType.int)) ∈ gw := gw_t4 215 rfl rfl
theorem q_936 : (Jvm.Cond.methodLink "CrownTwoModel" (105 : Nat) ({ cls := "CrownTwoModel", name := "full", desc := "()I" } : Jvm.MethodName)) ∈ gw := gw_t4 216 rfl rfl
theorem q_938 : (Jvm.Cond.instanceMethod ({ cls := "CrownTwoModel", name := "full", desc := "()I" } : Jvm.MethodName)) ∈ gw := gw_t4 218 rfl rfl
theorem q_939 : (Jvm.Cond.code ({ cls := "CrownTwoModel", name := "full", desc := "()I" } : Jvm.MethodName) prog_14_method_4_code (1 : Nat) (Option.some Jvm.ClassFile.FieldType.int)) ∈ gw := gw_t4 219 rfl rfl
theorem q_940 : (Jvm.Cond.methodLink "CrownTwoModel" (108 : Nat) ({ cls := "CrownTwoModel", name := "addHeir", desc := "(IIII)I" } : Jvm.MethodName)) ∈ gw := gw_t4 220 rfl rfl
theorem q_942 : (Jvm.Cond.instanceMethod ({ cls := "CrownTwoModel", name := "addHeir", desc := "(IIII)I" } : Jvm.MethodName)) ∈ gw := gw_t4 222 rfl rfl
theorem q_943 : (Jvm.Cond.code ({ cls := "CrownTwoModel", name := "addHeir", desc := "(IIII)I" } : Jvm.MethodName) prog_14_method_15_code (5 : Nat) (Option.some Jvm.ClassFile.FieldType.int)) ∈ gw := gw_t4 223 rfl rfl
theorem q_944 : (Jvm.Cond.methodLink "CrownTwoLaw" (26 : Nat) ({ cls := "CrownTwoModel", name := "type", desc := "(I)I" } : Jvm.MethodName)) ∈ gw := gw_t4 224 rfl rfl
theorem q_945 : (Jvm.Cond.instanceMethod ({ cls := "CrownTwoModel", name := "type", desc := "(I)I" } : Jvm.MethodName)) ∈ gw := gw_t4 225 rfl rfl
theorem q_946 : (Jvm.Cond.selects "CrownTwoModel" ({ cls := "CrownTwoModel", name := "type", desc := "(I)I" } : Jvm.MethodName) ({ cls := "CrownTwoModel", name := "type", desc := "(I)I" } : Jvm.MethodName)) ∈ gw := gw_t4 226 rfl rfl
theorem q_947 : (Jvm.Cond.code ({ cls := "CrownTwoModel", name := "type", desc := "(I)I" } : Jvm.MethodName) prog_14_method_17_code (2 : Nat) (Option.some Jvm.ClassFile.FieldType.int)) ∈ gw := gw_t4 227 rfl rfl
theorem q_948 : (Jvm.Cond.methodLink "CrownTwoLaw" (31 : Nat) ({ cls := "CrownTwoModel", name := "clear", desc := "()I" } : Jvm.MethodName)) ∈ gw := gw_t4 228 rfl rfl
theorem q_949 : (Jvm.Cond.instanceMethod ({ cls := "CrownTwoModel", name := "clear", desc := "()I" } : Jvm.MethodName)) ∈ gw := gw_t4 229 rfl rfl
theorem q_950 : (Jvm.Cond.selects "CrownTwoModel" ({ cls := "CrownTwoModel", name := "clear", desc := "()I" } : Jvm.MethodName) ({ cls := "CrownTwoModel", name := "clear", desc := "()I" } : Jvm.MethodName)) ∈ gw := gw_t4 230 rfl rfl
theorem q_951 : (Jvm.Cond.code ({ cls := "CrownTwoModel", name := "clear", desc := "()I" } : Jvm.MethodName) prog_14_method_18_code (2 : Nat) (Option.some Jvm.ClassFile.FieldType.int)) ∈ gw := gw_t4 231 rfl rfl
theorem q_952 : (Jvm.Cond.methodLink "CrownTwoLaw" (35 : Nat) ({ cls := "CrownTwoModel", name := "read", desc := "()I" } : Jvm.MethodName)) ∈ gw := gw_t4 232 rfl rfl
theorem q_953 : (Jvm.Cond.instanceMethod ({ cls := "CrownTwoModel", name := "read", desc := "()I" } : Jvm.MethodName)) ∈ gw := gw_t4 233 rfl rfl
theorem q_954 : (Jvm.Cond.selects "CrownTwoModel" ({ cls := "CrownTwoModel", name := "read", desc := "()I" } : Jvm.MethodName) ({ cls := "CrownTwoModel", name := "read", desc := "()I" } : Jvm.MethodName)) ∈ gw := gw_t4 234 rfl rfl
theorem q_955 : (Jvm.Cond.code ({ cls := "CrownTwoModel", name := "read", desc := "()I" } : Jvm.MethodName) prog_14_method_35_code (3 : Nat) (Option.some Jvm.ClassFile.FieldType.int)) ∈ gw := gw_t4 235 rfl rfl
theorem q_956 : (Jvm.Cond.methodLink "CrownTwoModel" (183 : Nat) ({ cls := "CrownTwoModel", name := "readsCourt", desc := "()I" } : Jvm.MethodName)) ∈ gw := gw_t4 236 rfl rfl
theorem q_958 : (Jvm.Cond.instanceMethod ({ cls := "CrownTwoModel", name := "readsCourt", desc := "()I" } : Jvm.MethodName)) ∈ gw := gw_t4 238 rfl rfl
theorem q_959 : (Jvm.Cond.code ({ cls := "CrownTwoModel", name := "readsCourt", desc := "()I" } : Jvm.MethodName) prog_14_method_34_code (2 : Nat) (Option.some Jvm.ClassFile.FieldType.int)) ∈ gw := gw_t4 239 rfl rfl
theorem q_960 : (Jvm.Cond.methodLink "CrownTwoModel" (177 : Nat) ({ cls := "CrownTwoModel", name := "readsFirst", desc := "()Z" } : Jvm.MethodName)) ∈ gw := gw_t5 0 rfl rfl
theorem q_962 : (Jvm.Cond.instanceMethod ({ cls := "CrownTwoModel", name := "readsFirst", desc := "()Z" } : Jvm.MethodName)) ∈ gw := gw_t5 2 rfl rfl
theorem q_963 : (Jvm.Cond.code ({ cls := "CrownTwoModel", name := "readsFirst", desc := "()Z" } : Jvm.MethodName) prog_14_method_33_code (1 : Nat) (Option.some Jvm.ClassFile.FieldType.boolean)) ∈ gw := gw_t5 3 rfl rfl
theorem q_964 : (Jvm.Cond.methodLink "CrownTwoModel" (136 : Nat) ({ cls := "CrownTwoModel", name := "skip", desc := "()V" } : Jvm.MethodName)) ∈ gw := gw_t5 4 rfl rfl
theorem q_966 : (Jvm.Cond.instanceMethod ({ cls := "CrownTwoModel", name := "skip", desc := "()V" } : Jvm.MethodName)) ∈ gw := gw_t5 6 rfl rfl
theorem q_967 : (Jvm.Cond.code ({ cls := "CrownTwoModel", name := "skip", desc := "()V" } : Jvm.MethodName) prog_14_method_20_code (1 : Nat) (Option.none : Option Jvm.ClassFile.FieldType)) ∈ gw := gw_t5 7 rfl rfl
theorem q_968 : (Jvm.Cond.methodLink "CrownTwoModel" (118 : Nat) ({ cls := "CrownTwoModel", name := "here", desc := "()I" } : Jvm.MethodName)) ∈ gw := gw_t5 8 rfl rfl
theorem q_970 : (Jvm.Cond.instanceMethod ({ cls := "CrownTwoModel", name := "here", desc := "()I" } : Jvm.MethodName)) ∈ gw := gw_t5 10 rfl rfl
theorem q_971 : (Jvm.Cond.code ({ cls := "CrownTwoModel", name := "here", desc := "()I" } : Jvm.MethodName) prog_14_method_19_code (1 : Nat) (Option.some Jvm.ClassFile.FieldType.int)) ∈ gw := gw_t5 11 rfl rfl
theorem q_972 : (Jvm.Cond.methodLink "CrownTwoModel" (162 : Nat) ({ cls := "CrownTwoModel", name := "wordHere", desc := "()I" } : Jvm.MethodName)) ∈ gw := gw_t5 12 rfl rfl
theorem q_974 : (Jvm.Cond.instanceMethod ({ cls := "CrownTwoModel", name := "wordHere", desc := "()I" } : Jvm.MethodName)) ∈ gw := gw_t5 14 rfl rfl
theorem q_975 : (Jvm.Cond.code ({ cls := "CrownTwoModel", name := "wordHere", desc := "()I" } : Jvm.MethodName) prog_14_method_26_code (2 : Nat) (Option.some Jvm.ClassFile.FieldType.int)) ∈ gw := gw_t5 15 rfl rfl
theorem q_976 : (Jvm.Cond.methodLink "CrownTwoModel" (125 : Nat) ({ cls := "CrownTwoModel", name := "wordSize", desc := "()I" } : Jvm.MethodName)) ∈ gw := gw_t5 16 rfl rfl
theorem q_978 : (Jvm.Cond.instanceMethod ({ cls := "CrownTwoModel", name := "wordSize", desc := "()I" } : Jvm.MethodName)) ∈ gw := gw_t5 18 rfl rfl
theorem q_979 : (Jvm.Cond.code ({ cls := "CrownTwoModel", name := "wordSize", desc := "()I" } : Jvm.MethodName) prog_14_method_23_code (2 : Nat) (Option.some Jvm.ClassFile.FieldType.int)) ∈ gw := gw_t5 19 rfl rfl
theorem q_980 : (Jvm.Cond.methodLink "CrownTwoModel" (121 : Nat) ({ cls := "CrownTwoModel", name := "isLetter", desc := "(I)Z" } : Jvm.MethodName)) ∈ gw := gw_t5 20 rfl rfl
theorem q_981 : (Jvm.Cond.static ({ cls := "CrownTwoModel", name := "isLetter", desc := "(I)Z" } : Jvm.MethodName)) ∈ gw := gw_t5 21 rfl rfl
theorem q_982 : (Jvm.Cond.code ({ cls := "CrownTwoModel", name := "isLetter", desc := "(I)Z" } : Jvm.MethodName) prog_14_method_21_code (1 : Nat) (Option.some Jvm.ClassFile.FieldType.boolean)) ∈ gw := gw_t5 22 rfl rfl
theorem q_983 : (Jvm.Cond.methodLink "CrownTwoModel" (128 : Nat) ({ cls := "CrownTwoModel", name := "letter", desc := "(I)I" } : Jvm.MethodName)) ∈ gw := gw_t5 23 rfl rfl
theorem q_985 : (Jvm.Cond.instanceMethod ({ cls := "CrownTwoModel", name := "letter", desc := "(I)I" } : Jvm.MethodName)) ∈ gw := gw_t5 25 rfl rfl
theorem q_986 : (Jvm.Cond.code ({ cls := "CrownTwoModel", name := "letter", desc := "(I)I" } : Jvm.MethodName) prog_14_method_24_code (2 : Nat) (Option.some Jvm.ClassFile.FieldType.int)) ∈ gw := gw_t5 26 rfl rfl
theorem q_987 : (Jvm.Cond.methodLink "CrownTwoModel" (132 : Nat) ({ cls := "CrownTwoModel", name := "spells", desc := "(IIII)Z" } : Jvm.MethodName)) ∈ gw := gw_t5 27 rfl rfl
theorem q_989 : (Jvm.Cond.instanceMethod ({ cls := "CrownTwoModel", name := "spells", desc := "(IIII)Z" } : Jvm.MethodName)) ∈ gw := gw_t5 29 rfl rfl
theorem q_990 : (Jvm.Cond.code ({ cls := "CrownTwoModel", name := "spells", desc := "(IIII)Z" } : Jvm.MethodName) prog_14_method_25_code (5 : Nat) (Option.some Jvm.ClassFile.FieldType.boolean)) ∈ gw := gw_t5 30 rfl rfl
theorem q_991 : (Jvm.Cond.methodLink "CrownTwoModel" (145 : Nat) ({ cls := "CrownTwoModel", name := "number", desc := "(II)Z" } : Jvm.MethodName)) ∈ gw := gw_t5 31 rfl rfl
theorem q_993 : (Jvm.Cond.instanceMethod ({ cls := "CrownTwoModel", name := "number", desc := "(II)Z" } : Jvm.MethodName)) ∈ gw := gw_t5 33 rfl rfl
theorem q_994 : (Jvm.Cond.code ({ cls := "CrownTwoModel", name := "number", desc := "(II)Z" } : Jvm.MethodName) prog_14_method_27_code (5 : Nat) (Option.some Jvm.ClassFile.FieldType.boolean)) ∈ gw := gw_t5 34 rfl rfl
theorem q_995 : (Jvm.Cond.methodLink "CrownTwoModel" (139 : Nat) ({ cls := "CrownTwoModel", name := "isFigure", desc := "(I)Z" } : Jvm.MethodName)) ∈ gw := gw_t5 35 rfl rfl
theorem q_996 : (Jvm.Cond.static ({ cls := "CrownTwoModel", name := "isFigure", desc := "(I)Z" } : Jvm.MethodName)) ∈ gw := gw_t5 36 rfl rfl
theorem q_997 : (Jvm.Cond.code ({ cls := "CrownTwoModel", name := "isFigure", desc := "(I)Z" } : Jvm.MethodName) prog_14_method_22_code (1 : Nat) (Option.some Jvm.ClassFile.FieldType.boolean)) ∈ gw := gw_t5 37 rfl rfl
theorem q_998 : (Jvm.Cond.methodLink "CrownTwoModel" (152 : Nat) ({ cls := "CrownTwoModel", name := "ends", desc := "()Z" } : Jvm.MethodName)) ∈ gw := gw_t5 38 rfl rfl
theorem q_1000 : (Jvm.Cond.instanceMethod ({ cls := "CrownTwoModel", name := "ends", desc := "()Z" } : Jvm.MethodName)) ∈ gw := gw_t5 40 rfl rfl
theorem q_1001 : (Jvm.Cond.code ({ cls := "CrownTwoModel", name := "ends", desc := "()Z" } : Jvm.MethodName) prog_14_method_28_code (1 : Nat) (Option.some Jvm.ClassFile.FieldType.boolean)) ∈ gw := gw_t5 41 rfl rfl
theorem q_1002 : (Jvm.Cond.methodLink "CrownTwoModel" (180 : Nat) ({ cls := "CrownTwoModel", name := "readsItem", desc := "()Z" } : Jvm.MethodName)) ∈ gw := gw_t5 42 rfl rfl
theorem q_1004 : (Jvm.Cond.instanceMethod ({ cls := "CrownTwoModel", name := "readsItem", desc := "()Z" } : Jvm.MethodName)) ∈ gw := gw_t5 44 rfl rfl
theorem q_1005 : (Jvm.Cond.code ({ cls := "CrownTwoModel", name := "readsItem", desc := "()Z" } : Jvm.MethodName) prog_14_method_32_code (2 : Nat) (Option.some Jvm.ClassFile.FieldType.boolean)) ∈ gw := gw_t5 45 rfl rfl
theorem q_1006 : (Jvm.Cond.methodLink "CrownTwoModel" (165 : Nat) ({ cls := "CrownTwoModel", name := "readsHeir", desc := "()Z" } : Jvm.MethodName)) ∈ gw := gw_t5 46 rfl rfl
theorem q_1008 : (Jvm.Cond.instanceMethod ({ cls := "CrownTwoModel", name := "readsHeir", desc := "()Z" } : Jvm.MethodName)) ∈ gw := gw_t5 48 rfl rfl
theorem q_1009 : (Jvm.Cond.code ({ cls := "CrownTwoModel", name := "readsHeir", desc := "()Z" } : Jvm.MethodName) prog_14_method_29_code (3 : Nat) (Option.some Jvm.ClassFile.FieldType.boolean)) ∈ gw := gw_t5 49 rfl rfl
theorem q_1010 : (Jvm.Cond.methodLink "CrownTwoModel" (168 : Nat) ({ cls := "CrownTwoModel", name := "readsPair", desc := "()Z" } : Jvm.MethodName)) ∈ gw := gw_t5 50 rfl rfl
theorem q_1012 : (Jvm.Cond.instanceMethod ({ cls := "CrownTwoModel", name := "readsPair", desc := "()Z" } : Jvm.MethodName)) ∈ gw := gw_t5 52 rfl rfl
theorem q_1013 : (Jvm.Cond.code ({ cls := "CrownTwoModel", name := "readsPair", desc := "()Z" } : Jvm.MethodName) prog_14_method_31_code (3 : Nat) (Option.some Jvm.ClassFile.FieldType.boolean)) ∈ gw := gw_t5 53 rfl rfl
theorem q_1014 : (Jvm.Cond.methodLink "CrownTwoModel" (171 : Nat) ({ cls := "CrownTwoModel", name := "readsActs", desc := "(I)Z" } : Jvm.MethodName)) ∈ gw := gw_t5 54 rfl rfl
theorem q_1016 : (Jvm.Cond.instanceMethod ({ cls := "CrownTwoModel", name := "readsActs", desc := "(I)Z" } : Jvm.MethodName)) ∈ gw := gw_t5 56 rfl rfl
theorem q_1017 : (Jvm.Cond.code ({ cls := "CrownTwoModel", name := "readsActs", desc := "(I)Z" } : Jvm.MethodName) prog_14_method_30_code (4 : Nat) (Option.some Jvm.ClassFile.FieldType.boolean)) ∈ gw := gw_t5 57 rfl rfl
theorem q_1018 : (Jvm.Cond.methodLink "CrownTwoLaw" (40 : Nat) ({ cls := "CrownTwoModel", name := "pair", desc := "(II)I" } : Jvm.MethodName)) ∈ gw := gw_t5 58 rfl rfl
theorem q_1019 : (Jvm.Cond.instanceMethod ({ cls := "CrownTwoModel", name := "pair", desc := "(II)I" } : Jvm.MethodName)) ∈ gw := gw_t5 59 rfl rfl
theorem q_1020 : (Jvm.Cond.selects "CrownTwoModel" ({ cls := "CrownTwoModel", name := "pair", desc := "(II)I" } : Jvm.MethodName) ({ cls := "CrownTwoModel", name := "pair", desc := "(II)I" } : Jvm.MethodName)) ∈ gw := gw_t5 60 rfl rfl
theorem q_1021 : (Jvm.Cond.code ({ cls := "CrownTwoModel", name := "pair", desc := "(II)I" } : Jvm.MethodName) prog_14_method_49_code (3 : Nat) (Option.some Jvm.ClassFile.FieldType.int)) ∈ gw := gw_t5 61 rfl rfl
theorem q_1022 : (Jvm.Cond.methodLink "CrownTwoModel" (221 : Nat) ({ cls := "CrownTwoModel", name := "isHeir", desc := "(I)Z" } : Jvm.MethodName)) ∈ gw := gw_t5 62 rfl rfl
theorem q_1024 : (Jvm.Cond.instanceMethod ({ cls := "CrownTwoModel", name := "isHeir", desc := "(I)Z" } : Jvm.MethodName)) ∈ gw := gw_t5 64 rfl rfl
theorem q_1025 : (Jvm.Cond.code ({ cls := "CrownTwoModel", name := "isHeir", desc := "(I)Z" } : Jvm.MethodName) prog_14_method_11_code (2 : Nat) (Option.some Jvm.ClassFile.FieldType.boolean)) ∈ gw := gw_t5 65 rfl rfl
theorem q_1026 : (Jvm.Cond.methodLink "CrownTwoModel" (224 : Nat) ({ cls := "CrownTwoModel", name := "notes", desc := "()V" } : Jvm.MethodName)) ∈ gw := gw_t5 66 rfl rfl
theorem q_1028 : (Jvm.Cond.instanceMethod ({ cls := "CrownTwoModel", name := "notes", desc := "()V" } : Jvm.MethodName)) ∈ gw := gw_t5 68 rfl rfl
theorem q_1029 : (Jvm.Cond.code ({ cls := "CrownTwoModel", name := "notes", desc := "()V" } : Jvm.MethodName) prog_14_method_46_code (2 : Nat) (Option.none : Option Jvm.ClassFile.FieldType)) ∈ gw := gw_t5 69 rfl rfl
theorem q_1030 : (Jvm.Cond.methodLink "CrownTwoModel" (214 : Nat) ({ cls := "CrownTwoModel", name := "lays", desc := "([II)V" } : Jvm.MethodName)) ∈ gw := gw_t5 70 rfl rfl
theorem q_1032 : (Jvm.Cond.instanceMethod ({ cls := "CrownTwoModel", name := "lays", desc := "([II)V" } : Jvm.MethodName)) ∈ gw := gw_t5 72 rfl rfl
theorem q_1033 : (Jvm.Cond.code ({ cls := "CrownTwoModel", name := "lays", desc := "([II)V" } : Jvm.MethodName) prog_14_method_44_code (3 : Nat) (Option.none : Option Jvm.ClassFile.FieldType)) ∈ gw := gw_t5 73 rfl rfl
theorem q_1034 : (Jvm.Cond.methodLink "CrownTwoLaw" (44 : Nat) ({ cls := "CrownTwoModel", name := "ask", desc := "(I)I" } : Jvm.MethodName)) ∈ gw := gw_t5 74 rfl rfl
theorem q_1035 : (Jvm.Cond.instanceMethod ({ cls := "CrownTwoModel", name := "ask", desc := "(I)I" } : Jvm.MethodName)) ∈ gw := gw_t5 75 rfl rfl
theorem q_1036 : (Jvm.Cond.selects "CrownTwoModel" ({ cls := "CrownTwoModel", name := "ask", desc := "(I)I" } : Jvm.MethodName) ({ cls := "CrownTwoModel", name := "ask", desc := "(I)I" } : Jvm.MethodName)) ∈ gw := gw_t5 76 rfl rfl
theorem q_1037 : (Jvm.Cond.code ({ cls := "CrownTwoModel", name := "ask", desc := "(I)I" } : Jvm.MethodName) prog_14_method_50_code (2 : Nat) (Option.some Jvm.ClassFile.FieldType.int)) ∈ gw := gw_t5 77 rfl rfl
theorem q_1038 : (Jvm.Cond.methodLink "CrownTwoModel" (227 : Nat) ({ cls := "CrownTwoModel", name := "isAct", desc := "(I)Z" } : Jvm.MethodName)) ∈ gw := gw_t5 78 rfl rfl
theorem q_1039 : (Jvm.Cond.static ({ cls := "CrownTwoModel", name := "isAct", desc := "(I)Z" } : Jvm.MethodName)) ∈ gw := gw_t5 79 rfl rfl
theorem q_1040 : (Jvm.Cond.code ({ cls := "CrownTwoModel", name := "isAct", desc := "(I)Z" } : Jvm.MethodName) prog_14_method_12_code (1 : Nat) (Option.some Jvm.ClassFile.FieldType.boolean)) ∈ gw := gw_t5 80 rfl rfl
theorem q_1041 : (Jvm.Cond.methodLink "CrownTwoModel" (196 : Nat) ({ cls := "CrownTwoModel", name := "isPair", desc := "()Z" } : Jvm.MethodName)) ∈ gw := gw_t5 81 rfl rfl
theorem q_1043 : (Jvm.Cond.instanceMethod ({ cls := "CrownTwoModel", name := "isPair", desc := "()Z" } : Jvm.MethodName)) ∈ gw := gw_t5 83 rfl rfl
theorem q_1044 : (Jvm.Cond.code ({ cls := "CrownTwoModel", name := "isPair", desc := "()Z" } : Jvm.MethodName) prog_14_method_13_code (1 : Nat) (Option.some Jvm.ClassFile.FieldType.boolean)) ∈ gw := gw_t5 84 rfl rfl
theorem q_1045 : (Jvm.Cond.methodLink "CrownTwoModel" (186 : Nat) ({ cls := "CrownTwoModel", name := "has", desc := "(II)Z" } : Jvm.MethodName)) ∈ gw := gw_t5 85 rfl rfl
theorem q_1046 : (Jvm.Cond.static ({ cls := "CrownTwoModel", name := "has", desc := "(II)Z" } : Jvm.MethodName)) ∈ gw := gw_t5 86 rfl rfl
theorem q_1047 : (Jvm.Cond.code ({ cls := "CrownTwoModel", name := "has", desc := "(II)Z" } : Jvm.MethodName) prog_14_method_6_code (2 : Nat) (Option.some Jvm.ClassFile.FieldType.boolean)) ∈ gw := gw_t5 87 rfl rfl
theorem q_1048 : (Jvm.Cond.methodLink "CrownTwoModel" (230 : Nat) ({ cls := "CrownTwoModel", name := "no", desc := "()I" } : Jvm.MethodName)) ∈ gw := gw_t5 88 rfl rfl
theorem q_1050 : (Jvm.Cond.instanceMethod ({ cls := "CrownTwoModel", name := "no", desc := "()I" } : Jvm.MethodName)) ∈ gw := gw_t5 90 rfl rfl
theorem q_1051 : (Jvm.Cond.code ({ cls := "CrownTwoModel", name := "no", desc := "()I" } : Jvm.MethodName) prog_14_method_3_code (1 : Nat) (Option.some Jvm.ClassFile.FieldType.int)) ∈ gw := gw_t5 91 rfl rfl
theorem q_1052 : (Jvm.Cond.methodLink "CrownTwoModel" (233 : Nat) ({ cls := "CrownTwoModel", name := "asks", desc := "(I)I" } : Jvm.MethodName)) ∈ gw := gw_t5 92 rfl rfl
theorem q_1054 : (Jvm.Cond.instanceMethod ({ cls := "CrownTwoModel", name := "asks", desc := "(I)I" } : Jvm.MethodName)) ∈ gw := gw_t5 94 rfl rfl
theorem q_1055 : (Jvm.Cond.code ({ cls := "CrownTwoModel", name := "asks", desc := "(I)I" } : Jvm.MethodName) prog_14_method_43_code (3 : Nat) (Option.some Jvm.ClassFile.FieldType.int)) ∈ gw := gw_t5 95 rfl rfl
theorem q_1056 : (Jvm.Cond.methodLink "CrownTwoModel" (211 : Nat) ({ cls := "CrownTwoModel", name := "lifting", desc := "(I)I" } : Jvm.MethodName)) ∈ gw := gw_t5 96 rfl rfl
theorem q_1058 : (Jvm.Cond.instanceMethod ({ cls := "CrownTwoModel", name := "lifting", desc := "(I)I" } : Jvm.MethodName)) ∈ gw := gw_t5 98 rfl rfl
theorem q_1059 : (Jvm.Cond.code ({ cls := "CrownTwoModel", name := "lifting", desc := "(I)I" } : Jvm.MethodName) prog_14_method_42_code (2 : Nat) (Option.some Jvm.ClassFile.FieldType.int)) ∈ gw := gw_t5 99 rfl rfl
theorem q_1060 : (Jvm.Cond.methodLink "CrownTwoModel" (208 : Nat) ({ cls := "CrownTwoModel", name := "lifts", desc := "(II)Z" } : Jvm.MethodName)) ∈ gw := gw_t5 100 rfl rfl
theorem q_1062 : (Jvm.Cond.instanceMethod ({ cls := "CrownTwoModel", name := "lifts", desc := "(II)Z" } : Jvm.MethodName)) ∈ gw := gw_t5 102 rfl rfl
theorem q_1063 : (Jvm.Cond.code ({ cls := "CrownTwoModel", name := "lifts", desc := "(II)Z" } : Jvm.MethodName) prog_14_method_38_code (3 : Nat) (Option.some Jvm.ClassFile.FieldType.boolean)) ∈ gw := gw_t5 103 rfl rfl
theorem q_1064 : (Jvm.Cond.methodLink "CrownTwoModel" (189 : Nat) ({ cls := "CrownTwoModel", name := "heartOf", desc := "(II)I" } : Jvm.MethodName)) ∈ gw := gw_t5 104 rfl rfl
theorem q_1066 : (Jvm.Cond.instanceMethod ({ cls := "CrownTwoModel", name := "heartOf", desc := "(II)I" } : Jvm.MethodName)) ∈ gw := gw_t5 106 rfl rfl
theorem q_1067 : (Jvm.Cond.code ({ cls := "CrownTwoModel", name := "heartOf", desc := "(II)I" } : Jvm.MethodName) prog_14_method_36_code (5 : Nat) (Option.some Jvm.ClassFile.FieldType.int)) ∈ gw := gw_t5 107 rfl rfl
theorem q_1068 : (Jvm.Cond.methodLink "CrownTwoModel" (193 : Nat) ({ cls := "CrownTwoModel", name := "liftsBy", desc := "(IIII)Z" } : Jvm.MethodName)) ∈ gw := gw_t5 108 rfl rfl
theorem q_1069 : (Jvm.Cond.static ({ cls := "CrownTwoModel", name := "liftsBy", desc := "(IIII)Z" } : Jvm.MethodName)) ∈ gw := gw_t5 109 rfl rfl
theorem q_1070 : (Jvm.Cond.code ({ cls := "CrownTwoModel", name := "liftsBy", desc := "(IIII)Z" } : Jvm.MethodName) prog_14_method_37_code (6 : Nat) (Option.some Jvm.ClassFile.FieldType.boolean)) ∈ gw := gw_t5 110 rfl rfl
theorem q_1071 : (Jvm.Cond.methodLink "CrownTwoModel" (205 : Nat) ({ cls := "CrownTwoModel", name := "kept", desc := "(I)I" } : Jvm.MethodName)) ∈ gw := gw_t5 111 rfl rfl
theorem q_1072 : (Jvm.Cond.static ({ cls := "CrownTwoModel", name := "kept", desc := "(I)I" } : Jvm.MethodName)) ∈ gw := gw_t5 112 rfl rfl
theorem q_1073 : (Jvm.Cond.code ({ cls := "CrownTwoModel", name := "kept", desc := "(I)I" } : Jvm.MethodName) prog_14_method_8_code (1 : Nat) (Option.some Jvm.ClassFile.FieldType.int)) ∈ gw := gw_t5 113 rfl rfl
theorem q_1074 : (Jvm.Cond.methodLink "CrownTwoLaw" (48 : Nat) ({ cls := "CrownTwoModel", name := "day", desc := "(I)I" } : Jvm.MethodName)) ∈ gw := gw_t5 114 rfl rfl
theorem q_1075 : (Jvm.Cond.instanceMethod ({ cls := "CrownTwoModel", name := "day", desc := "(I)I" } : Jvm.MethodName)) ∈ gw := gw_t5 115 rfl rfl
theorem q_1076 : (Jvm.Cond.selects "CrownTwoModel" ({ cls := "CrownTwoModel", name := "day", desc := "(I)I" } : Jvm.MethodName) ({ cls := "CrownTwoModel", name := "day", desc := "(I)I" } : Jvm.MethodName)) ∈ gw := gw_t5 116 rfl rfl
theorem q_1077 : (Jvm.Cond.code ({ cls := "CrownTwoModel", name := "day", desc := "(I)I" } : Jvm.MethodName) prog_14_method_51_code (3 : Nat) (Option.some Jvm.ClassFile.FieldType.int)) ∈ gw := gw_t5 117 rfl rfl
theorem q_1078 : (Jvm.Cond.methodLink "CrownTwoModel" (236 : Nat) ({ cls := "CrownTwoModel", name := "pass", desc := "()V" } : Jvm.MethodName)) ∈ gw := gw_t5 118 rfl rfl
theorem q_1080 : (Jvm.Cond.instanceMethod ({ cls := "CrownTwoModel", name := "pass", desc := "()V" } : Jvm.MethodName)) ∈ gw := gw_t5 120 rfl rfl
theorem q_1081 : (Jvm.Cond.code ({ cls := "CrownTwoModel", name := "pass", desc := "()V" } : Jvm.MethodName) prog_14_method_41_code (1 : Nat) (Option.none : Option Jvm.ClassFile.FieldType)) ∈ gw := gw_t5 121 rfl rfl
theorem q_1082 : (Jvm.Cond.methodLink "CrownTwoModel" (202 : Nat) ({ cls := "CrownTwoModel", name := "growth", desc := "()I" } : Jvm.MethodName)) ∈ gw := gw_t5 122 rfl rfl
theorem q_1084 : (Jvm.Cond.instanceMethod ({ cls := "CrownTwoModel", name := "growth", desc := "()I" } : Jvm.MethodName)) ∈ gw := gw_t5 124 rfl rfl
theorem q_1085 : (Jvm.Cond.code ({ cls := "CrownTwoModel", name := "growth", desc := "()I" } : Jvm.MethodName) prog_14_method_40_code (1 : Nat) (Option.some Jvm.ClassFile.FieldType.int)) ∈ gw := gw_t5 125 rfl rfl
theorem q_1086 : (Jvm.Cond.methodLink "CrownTwoModel" (199 : Nat) ({ cls := "CrownTwoModel", name := "makesOf", desc := "(I)I" } : Jvm.MethodName)) ∈ gw := gw_t5 126 rfl rfl
theorem q_1088 : (Jvm.Cond.instanceMethod ({ cls := "CrownTwoModel", name := "makesOf", desc := "(I)I" } : Jvm.MethodName)) ∈ gw := gw_t5 128 rfl rfl
theorem q_1089 : (Jvm.Cond.code ({ cls := "CrownTwoModel", name := "makesOf", desc := "(I)I" } : Jvm.MethodName) prog_14_method_39_code (3 : Nat) (Option.some Jvm.ClassFile.FieldType.int)) ∈ gw := gw_t5 129 rfl rfl
theorem q_1090 : (Jvm.Cond.methodLink "CrownTwoLaw" (52 : Nat) ({ cls := "CrownTwoModel", name := "feed", desc := "(I)I" } : Jvm.MethodName)) ∈ gw := gw_t5 130 rfl rfl
theorem q_1091 : (Jvm.Cond.instanceMethod ({ cls := "CrownTwoModel", name := "feed", desc := "(I)I" } : Jvm.MethodName)) ∈ gw := gw_t5 131 rfl rfl
theorem q_1092 : (Jvm.Cond.selects "CrownTwoModel" ({ cls := "CrownTwoModel", name := "feed", desc := "(I)I" } : Jvm.MethodName) ({ cls := "CrownTwoModel", name := "feed", desc := "(I)I" } : Jvm.MethodName)) ∈ gw := gw_t5 132 rfl rfl
theorem q_1093 : (Jvm.Cond.code ({ cls := "CrownTwoModel", name := "feed", desc := "(I)I" } : Jvm.MethodName) prog_14_method_52_code (2 : Nat) (Option.some Jvm.ClassFile.FieldType.int)) ∈ gw := gw_t5 133 rfl rfl
theorem q_1094 : (Jvm.Cond.methodLink "CrownTwoLaw" (56 : Nat) ({ cls := "CrownTwoModel", name := "undo", desc := "()I" } : Jvm.MethodName)) ∈ gw := gw_t5 134 rfl rfl
theorem q_1095 : (Jvm.Cond.instanceMethod ({ cls := "CrownTwoModel", name := "undo", desc := "()I" } : Jvm.MethodName)) ∈ gw := gw_t5 135 rfl rfl
theorem q_1096 : (Jvm.Cond.selects "CrownTwoModel" ({ cls := "CrownTwoModel", name := "undo", desc := "()I" } : Jvm.MethodName) ({ cls := "CrownTwoModel", name := "undo", desc := "()I" } : Jvm.MethodName)) ∈ gw := gw_t5 136 rfl rfl
theorem q_1097 : (Jvm.Cond.code ({ cls := "CrownTwoModel", name := "undo", desc := "()I" } : Jvm.MethodName) prog_14_method_53_code (1 : Nat) (Option.some Jvm.ClassFile.FieldType.int)) ∈ gw := gw_t5 137 rfl rfl
theorem q_1098 : (Jvm.Cond.methodLink "CrownTwoModel" (218 : Nat) ({ cls := "CrownTwoModel", name := "takes", desc := "([II)V" } : Jvm.MethodName)) ∈ gw := gw_t5 138 rfl rfl
theorem q_1100 : (Jvm.Cond.instanceMethod ({ cls := "CrownTwoModel", name := "takes", desc := "([II)V" } : Jvm.MethodName)) ∈ gw := gw_t5 140 rfl rfl
theorem q_1101 : (Jvm.Cond.code ({ cls := "CrownTwoModel", name := "takes", desc := "([II)V" } : Jvm.MethodName) prog_14_method_45_code (3 : Nat) (Option.none : Option Jvm.ClassFile.FieldType)) ∈ gw := gw_t5 141 rfl rfl
theorem q_1102 : (Jvm.Cond.methodLink "CrownTwoLaw" (60 : Nat) ({ cls := "CrownTwoModel", name := "of", desc := "(II)I" } : Jvm.MethodName)) ∈ gw := gw_t5 142 rfl rfl
theorem q_1103 : (Jvm.Cond.instanceMethod ({ cls := "CrownTwoModel", name := "of", desc := "(II)I" } : Jvm.MethodName)) ∈ gw := gw_t5 143 rfl rfl
theorem q_1104 : (Jvm.Cond.selects "CrownTwoModel" ({ cls := "CrownTwoModel", name := "of", desc := "(II)I" } : Jvm.MethodName) ({ cls := "CrownTwoModel", name := "of", desc := "(II)I" } : Jvm.MethodName)) ∈ gw := gw_t5 144 rfl rfl
theorem q_1105 : (Jvm.Cond.code ({ cls := "CrownTwoModel", name := "of", desc := "(II)I" } : Jvm.MethodName) prog_14_method_54_code (3 : Nat) (Option.some Jvm.ClassFile.FieldType.int)) ∈ gw := gw_t5 145 rfl rfl
theorem q_1106 : (Jvm.Cond.methodLink "CrownTwoLaw" (64 : Nat) ({ cls := "CrownTwoModel", name := "makes", desc := "(I)I" } : Jvm.MethodName)) ∈ gw := gw_t5 146 rfl rfl
theorem q_1107 : (Jvm.Cond.instanceMethod ({ cls := "CrownTwoModel", name := "makes", desc := "(I)I" } : Jvm.MethodName)) ∈ gw := gw_t5 147 rfl rfl
theorem q_1108 : (Jvm.Cond.selects "CrownTwoModel" ({ cls := "CrownTwoModel", name := "makes", desc := "(I)I" } : Jvm.MethodName) ({ cls := "CrownTwoModel", name := "makes", desc := "(I)I" } : Jvm.MethodName)) ∈ gw := gw_t5 148 rfl rfl
theorem q_1109 : (Jvm.Cond.code ({ cls := "CrownTwoModel", name := "makes", desc := "(I)I" } : Jvm.MethodName) prog_14_method_55_code (2 : Nat) (Option.some Jvm.ClassFile.FieldType.int)) ∈ gw := gw_t5 149 rfl rfl
theorem q_1110 : (Jvm.Cond.methodLink "CrownTwoLaw" (68 : Nat) ({ cls := "CrownTwoModel", name := "lift", desc := "(I)I" } : Jvm.MethodName)) ∈ gw := gw_t5 150 rfl rfl
theorem q_1111 : (Jvm.Cond.instanceMethod ({ cls := "CrownTwoModel", name := "lift", desc := "(I)I" } : Jvm.MethodName)) ∈ gw := gw_t5 151 rfl rfl
theorem q_1112 : (Jvm.Cond.selects "CrownTwoModel" ({ cls := "CrownTwoModel", name := "lift", desc := "(I)I" } : Jvm.MethodName) ({ cls := "CrownTwoModel", name := "lift", desc := "(I)I" } : Jvm.MethodName)) ∈ gw := gw_t5 152 rfl rfl
theorem q_1113 : (Jvm.Cond.code ({ cls := "CrownTwoModel", name := "lift", desc := "(I)I" } : Jvm.MethodName) prog_14_method_56_code (2 : Nat) (Option.some Jvm.ClassFile.FieldType.int)) ∈ gw := gw_t5 153 rfl rfl
theorem q_1114 : (Jvm.Cond.methodLink "CrownTwoLaw" (72 : Nat) ({ cls := "CrownTwoModel", name := "both", desc := "(I)I" } : Jvm.MethodName)) ∈ gw := gw_t5 154 rfl rfl
theorem q_1115 : (Jvm.Cond.instanceMethod ({ cls := "CrownTwoModel", name := "both", desc := "(I)I" } : Jvm.MethodName)) ∈ gw := gw_t5 155 rfl rfl
theorem q_1116 : (Jvm.Cond.selects "CrownTwoModel" ({ cls := "CrownTwoModel", name := "both", desc := "(I)I" } : Jvm.MethodName) ({ cls := "CrownTwoModel", name := "both", desc := "(I)I" } : Jvm.MethodName)) ∈ gw := gw_t5 156 rfl rfl
theorem q_1117 : (Jvm.Cond.code ({ cls := "CrownTwoModel", name := "both", desc := "(I)I" } : Jvm.MethodName) prog_14_method_58_code (3 : Nat) (Option.some Jvm.ClassFile.FieldType.int)) ∈ gw := gw_t5 157 rfl rfl
theorem q_1118 : (Jvm.Cond.methodLink "CrownTwoModel" (239 : Nat) ({ cls := "CrownTwoModel", name := "puts", desc := "()V" } : Jvm.MethodName)) ∈ gw := gw_t5 158 rfl rfl
theorem q_1120 : (Jvm.Cond.instanceMethod ({ cls := "CrownTwoModel", name := "puts", desc := "()V" } : Jvm.MethodName)) ∈ gw := gw_t5 160 rfl rfl
theorem q_1121 : (Jvm.Cond.code ({ cls := "CrownTwoModel", name := "puts", desc := "()V" } : Jvm.MethodName) prog_14_method_47_code (1 : Nat) (Option.none : Option Jvm.ClassFile.FieldType)) ∈ gw := gw_t5 161 rfl rfl
theorem q_1122 : (Jvm.Cond.methodLink "CrownTwoModel" (242 : Nat) ({ cls := "CrownTwoModel", name := "bothSet", desc := "()I" } : Jvm.MethodName)) ∈ gw := gw_t5 162 rfl rfl
theorem q_1124 : (Jvm.Cond.instanceMethod ({ cls := "CrownTwoModel", name := "bothSet", desc := "()I" } : Jvm.MethodName)) ∈ gw := gw_t5 164 rfl rfl
theorem q_1125 : (Jvm.Cond.code ({ cls := "CrownTwoModel", name := "bothSet", desc := "()I" } : Jvm.MethodName) prog_14_method_57_code (3 : Nat) (Option.some Jvm.ClassFile.FieldType.int)) ∈ gw := gw_t5 165 rfl rfl
theorem q_1126 : (Jvm.Cond.methodLink "CrownTwoModel" (245 : Nat) ({ cls := "CrownTwoModel", name := "back", desc := "()V" } : Jvm.MethodName)) ∈ gw := gw_t5 166 rfl rfl
theorem q_1128 : (Jvm.Cond.instanceMethod ({ cls := "CrownTwoModel", name := "back", desc := "()V" } : Jvm.MethodName)) ∈ gw := gw_t5 168 rfl rfl
theorem q_1129 : (Jvm.Cond.code ({ cls := "CrownTwoModel", name := "back", desc := "()V" } : Jvm.MethodName) prog_14_method_48_code (1 : Nat) (Option.none : Option Jvm.ClassFile.FieldType)) ∈ gw := gw_t5 169 rfl rfl
theorem q_1130 : (Jvm.Cond.methodLink "CrownTwoLaw" (76 : Nat) ({ cls := "CrownTwoModel", name := "friends", desc := "()I" } : Jvm.MethodName)) ∈ gw := gw_t5 170 rfl rfl
theorem q_1131 : (Jvm.Cond.instanceMethod ({ cls := "CrownTwoModel", name := "friends", desc := "()I" } : Jvm.MethodName)) ∈ gw := gw_t5 171 rfl rfl
theorem q_1132 : (Jvm.Cond.selects "CrownTwoModel" ({ cls := "CrownTwoModel", name := "friends", desc := "()I" } : Jvm.MethodName) ({ cls := "CrownTwoModel", name := "friends", desc := "()I" } : Jvm.MethodName)) ∈ gw := gw_t5 172 rfl rfl
theorem q_1133 : (Jvm.Cond.code ({ cls := "CrownTwoModel", name := "friends", desc := "()I" } : Jvm.MethodName) prog_14_method_60_code (2 : Nat) (Option.some Jvm.ClassFile.FieldType.int)) ∈ gw := gw_t5 173 rfl rfl
theorem q_1134 : (Jvm.Cond.methodLink "CrownTwoModel" (248 : Nat) ({ cls := "CrownTwoModel", name := "daysTill", desc := "()I" } : Jvm.MethodName)) ∈ gw := gw_t5 174 rfl rfl
theorem q_1136 : (Jvm.Cond.instanceMethod ({ cls := "CrownTwoModel", name := "daysTill", desc := "()I" } : Jvm.MethodName)) ∈ gw := gw_t5 176 rfl rfl
theorem q_1137 : (Jvm.Cond.code ({ cls := "CrownTwoModel", name := "daysTill", desc := "()I" } : Jvm.MethodName) prog_14_method_59_code (2 : Nat) (Option.some Jvm.ClassFile.FieldType.int)) ∈ gw := gw_t5 177 rfl rfl
theorem q_1138 : (Jvm.Cond.methodLink "CrownTwoLaw" (80 : Nat) ({ cls := "CrownTwoModel", name := "then", desc := "(I)I" } : Jvm.MethodName)) ∈ gw := gw_t5 178 rfl rfl
theorem q_1139 : (Jvm.Cond.instanceMethod ({ cls := "CrownTwoModel", name := "then", desc := "(I)I" } : Jvm.MethodName)) ∈ gw := gw_t5 179 rfl rfl
theorem q_1140 : (Jvm.Cond.selects "CrownTwoModel" ({ cls := "CrownTwoModel", name := "then", desc := "(I)I" } : Jvm.MethodName) ({ cls := "CrownTwoModel", name := "then", desc := "(I)I" } : Jvm.MethodName)) ∈ gw := gw_t5 180 rfl rfl
theorem q_1141 : (Jvm.Cond.code ({ cls := "CrownTwoModel", name := "then", desc := "(I)I" } : Jvm.MethodName) prog_14_method_61_code (3 : Nat) (Option.some Jvm.ClassFile.FieldType.int)) ∈ gw := gw_t5 181 rfl rfl
theorem q_1142 : (Jvm.Cond.methodLink "CrownTwoLaw" (84 : Nat) ({ cls := "CrownTwoModel", name := "most", desc := "(II)I" } : Jvm.MethodName)) ∈ gw := gw_t5 182 rfl rfl
theorem q_1143 : (Jvm.Cond.instanceMethod ({ cls := "CrownTwoModel", name := "most", desc := "(II)I" } : Jvm.MethodName)) ∈ gw := gw_t5 183 rfl rfl
theorem q_1144 : (Jvm.Cond.selects "CrownTwoModel" ({ cls := "CrownTwoModel", name := "most", desc := "(II)I" } : Jvm.MethodName) ({ cls := "CrownTwoModel", name := "most", desc := "(II)I" } : Jvm.MethodName)) ∈ gw := gw_t5 184 rfl rfl
theorem q_1145 : (Jvm.Cond.code ({ cls := "CrownTwoModel", name := "most", desc := "(II)I" } : Jvm.MethodName) prog_14_method_63_code (8 : Nat) (Option.some Jvm.ClassFile.FieldType.int)) ∈ gw := gw_t5 185 rfl rfl
theorem q_1146 : (Jvm.Cond.methodLink "CrownTwoModel" (254 : Nat) ({ cls := "CrownTwoModel", name := "ten", desc := "()I" } : Jvm.MethodName)) ∈ gw := gw_t5 186 rfl rfl
theorem q_1148 : (Jvm.Cond.instanceMethod ({ cls := "CrownTwoModel", name := "ten", desc := "()I" } : Jvm.MethodName)) ∈ gw := gw_t5 188 rfl rfl
theorem q_1149 : (Jvm.Cond.code ({ cls := "CrownTwoModel", name := "ten", desc := "()I" } : Jvm.MethodName) prog_14_method_2_code (1 : Nat) (Option.some Jvm.ClassFile.FieldType.int)) ∈ gw := gw_t5 189 rfl rfl
theorem q_1150 : (Jvm.Cond.methodLink "CrownTwoModel" (257 : Nat) ({ cls := "CrownTwoModel", name := "doneBy", desc := "(II)I" } : Jvm.MethodName)) ∈ gw := gw_t5 190 rfl rfl
theorem q_1152 : (Jvm.Cond.instanceMethod ({ cls := "CrownTwoModel", name := "doneBy", desc := "(II)I" } : Jvm.MethodName)) ∈ gw := gw_t5 192 rfl rfl
theorem q_1153 : (Jvm.Cond.code ({ cls := "CrownTwoModel", name := "doneBy", desc := "(II)I" } : Jvm.MethodName) prog_14_method_62_code (7 : Nat) (Option.some Jvm.ClassFile.FieldType.int)) ∈ gw := gw_t5 193 rfl rfl
theorem q_1154 : (Jvm.Cond.methodLink "CrownTwoModel" (251 : Nat) ({ cls := "CrownTwoModel", name := "bits", desc := "(I)I" } : Jvm.MethodName)) ∈ gw := gw_t5 194 rfl rfl
theorem q_1155 : (Jvm.Cond.static ({ cls := "CrownTwoModel", name := "bits", desc := "(I)I" } : Jvm.MethodName)) ∈ gw := gw_t5 195 rfl rfl
theorem q_1156 : (Jvm.Cond.code ({ cls := "CrownTwoModel", name := "bits", desc := "(I)I" } : Jvm.MethodName) prog_14_method_7_code (3 : Nat) (Option.some Jvm.ClassFile.FieldType.int)) ∈ gw := gw_t5 196 rfl rfl
theorem q_1157 : (Jvm.Cond.methodLink "CrownTwoLaw" (88 : Nat) ({ cls := "CrownTwoModel", name := "keep", desc := "(I)I" } : Jvm.MethodName)) ∈ gw := gw_t5 197 rfl rfl
theorem q_1158 : (Jvm.Cond.instanceMethod ({ cls := "CrownTwoModel", name := "keep", desc := "(I)I" } : Jvm.MethodName)) ∈ gw := gw_t5 198 rfl rfl
theorem q_1159 : (Jvm.Cond.selects "CrownTwoModel" ({ cls := "CrownTwoModel", name := "keep", desc := "(I)I" } : Jvm.MethodName) ({ cls := "CrownTwoModel", name := "keep", desc := "(I)I" } : Jvm.MethodName)) ∈ gw := gw_t5 199 rfl rfl
theorem q_1160 : (Jvm.Cond.code ({ cls := "CrownTwoModel", name := "keep", desc := "(I)I" } : Jvm.MethodName) prog_14_method_64_code (5 : Nat) (Option.some Jvm.ClassFile.FieldType.int)) ∈ gw := gw_t5 200 rfl rfl
theorem q_1161 : (Jvm.Cond.methodLink "CrownTwoLaw" (92 : Nat) ({ cls := "CrownTwoModel", name := "lasts", desc := "(II)I" } : Jvm.MethodName)) ∈ gw := gw_t5 201 rfl rfl
theorem q_1162 : (Jvm.Cond.instanceMethod ({ cls := "CrownTwoModel", name := "lasts", desc := "(II)I" } : Jvm.MethodName)) ∈ gw := gw_t5 202 rfl rfl
theorem q_1163 : (Jvm.Cond.selects "CrownTwoModel" ({ cls := "CrownTwoModel", name := "lasts", desc := "(II)I" } : Jvm.MethodName) ({ cls := "CrownTwoModel", name := "lasts", desc := "(II)I" } : Jvm.MethodName)) ∈ gw := gw_t5 203 rfl rfl
theorem q_1164 : (Jvm.Cond.code ({ cls := "CrownTwoModel", name := "lasts", desc := "(II)I" } : Jvm.MethodName) prog_14_method_66_code (3 : Nat) (Option.some Jvm.ClassFile.FieldType.int)) ∈ gw := gw_t5 204 rfl rfl
theorem q_1165 : (Jvm.Cond.methodLink "CrownTwoModel" (260 : Nat) ({ cls := "CrownTwoModel", name := "lastsOf", desc := "(II)I" } : Jvm.MethodName)) ∈ gw := gw_t5 205 rfl rfl
theorem q_1167 : (Jvm.Cond.instanceMethod ({ cls := "CrownTwoModel", name := "lastsOf", desc := "(II)I" } : Jvm.MethodName)) ∈ gw := gw_t5 207 rfl rfl
theorem q_1168 : (Jvm.Cond.code ({ cls := "CrownTwoModel", name := "lastsOf", desc := "(II)I" } : Jvm.MethodName) prog_14_method_65_code (6 : Nat) (Option.some Jvm.ClassFile.FieldType.int)) ∈ gw := gw_t5 208 rfl rfl
theorem q_1169 : (Jvm.Cond.methodLink "CrownTwoLaw" (96 : Nat) ({ cls := "CrownTwoModel", name := "pairs", desc := "(I)I" } : Jvm.MethodName)) ∈ gw := gw_t5 209 rfl rfl
theorem q_1170 : (Jvm.Cond.instanceMethod ({ cls := "CrownTwoModel", name := "pairs", desc := "(I)I" } : Jvm.MethodName)) ∈ gw := gw_t5 210 rfl rfl
theorem q_1171 : (Jvm.Cond.selects "CrownTwoModel" ({ cls := "CrownTwoModel", name := "pairs", desc := "(I)I" } : Jvm.MethodName) ({ cls := "CrownTwoModel", name := "pairs", desc := "(I)I" } : Jvm.MethodName)) ∈ gw := gw_t5 211 rfl rfl
theorem q_1172 : (Jvm.Cond.code ({ cls := "CrownTwoModel", name := "pairs", desc := "(I)I" } : Jvm.MethodName) prog_14_method_68_code (8 : Nat) (Option.some Jvm.ClassFile.FieldType.int)) ∈ gw := gw_t5 212 rfl rfl
theorem q_1173 : (Jvm.Cond.methodLink "CrownTwoModel" (263 : Nat) ({ cls := "CrownTwoModel", name := "areStuck", desc := "(II)Z" } : Jvm.MethodName)) ∈ gw := gw_t5 213 rfl rfl
theorem q_1175 : (Jvm.Cond.instanceMethod ({ cls := "CrownTwoModel", name := "areStuck", desc := "(II)Z" } : Jvm.MethodName)) ∈ gw := gw_t5 215 rfl rfl
theorem q_1176 : (Jvm.Cond.code ({ cls := "CrownTwoModel", name := "areStuck", desc := "(II)Z" } : Jvm.MethodName) prog_14_method_67_code (5 : Nat) (Option.some Jvm.ClassFile.FieldType.boolean)) ∈ gw := gw_t5 216 rfl rfl
theorem q_1177 : (Jvm.Cond.methodLink "CrownTwoLaw" (101 : Nat) ({ cls := "CrownTwoModel", name := "note", desc := "(IIIII)I" } : Jvm.MethodName)) ∈ gw := gw_t5 217 rfl rfl
theorem q_1178 : (Jvm.Cond.instanceMethod ({ cls := "CrownTwoModel", name := "note", desc := "(IIIII)I" } : Jvm.MethodName)) ∈ gw := gw_t5 218 rfl rfl
theorem q_1179 : (Jvm.Cond.selects "CrownTwoModel" ({ cls := "CrownTwoModel", name := "note", desc := "(IIIII)I" } : Jvm.MethodName) ({ cls := "CrownTwoModel", name := "note", desc := "(IIIII)I" } : Jvm.MethodName)) ∈ gw := gw_t5 219 rfl rfl
theorem q_1180 : (Jvm.Cond.code ({ cls := "CrownTwoModel", name := "note", desc := "(IIIII)I" } : Jvm.MethodName) prog_14_method_69_code (6 : Nat) (Option.some Jvm.ClassFile.FieldType.int)) ∈ gw := gw_t5 220 rfl rfl
theorem q_1181 : (Jvm.Cond.methodLink "CrownTwoLaw" (105 : Nat) ({ cls := "CrownTwoModel", name := "forget", desc := "()I" } : Jvm.MethodName)) ∈ gw := gw_t5 221 rfl rfl
theorem q_1182 : (Jvm.Cond.instanceMethod ({ cls := "CrownTwoModel", name := "forget", desc := "()I" } : Jvm.MethodName)) ∈ gw := gw_t5 222 rfl rfl
theorem q_1183 : (Jvm.Cond.selects "CrownTwoModel" ({ cls := "CrownTwoModel", name := "forget", desc := "()I" } : Jvm.MethodName) ({ cls := "CrownTwoModel", name := "forget", desc := "()I" } : Jvm.MethodName)) ∈ gw := gw_t5 223 rfl rfl
theorem q_1184 : (Jvm.Cond.code ({ cls := "CrownTwoModel", name := "forget", desc := "()I" } : Jvm.MethodName) prog_14_method_70_code (2 : Nat) (Option.some Jvm.ClassFile.FieldType.int)) ∈ gw := gw_t5 224 rfl rfl
theorem q_1185 : (Jvm.Cond.methodLink "CrownTwoLaw" (109 : Nat) ({ cls := "CrownTwoModel", name := "is", desc := "(I)I" } : Jvm.MethodName)) ∈ gw := gw_t5 225 rfl rfl
theorem q_1186 : (Jvm.Cond.instanceMethod ({ cls := "CrownTwoModel", name := "is", desc := "(I)I" } : Jvm.MethodName)) ∈ gw := gw_t5 226 rfl rfl
theorem q_1187 : (Jvm.Cond.selects "CrownTwoModel" ({ cls := "CrownTwoModel", name := "is", desc := "(I)I" } : Jvm.MethodName) ({ cls := "CrownTwoModel", name := "is", desc := "(I)I" } : Jvm.MethodName)) ∈ gw := gw_t5 227 rfl rfl
theorem q_1188 : (Jvm.Cond.code ({ cls := "CrownTwoModel", name := "is", desc := "(I)I" } : Jvm.MethodName) prog_14_method_73_code (2 : Nat) (Option.some Jvm.ClassFile.FieldType.int)) ∈ gw := gw_t5 228 rfl rfl
theorem q_1189 : (Jvm.Cond.methodLink "CrownTwoModel" (269 : Nat) ({ cls := "CrownTwoModel", name := "kindsOf", desc := "(I)I" } : Jvm.MethodName)) ∈ gw := gw_t5 229 rfl rfl
theorem q_1191 : (Jvm.Cond.instanceMethod ({ cls := "CrownTwoModel", name := "kindsOf", desc := "(I)I" } : Jvm.MethodName)) ∈ gw := gw_t5 231 rfl rfl
theorem q_1192 : (Jvm.Cond.code ({ cls := "CrownTwoModel", name := "kindsOf", desc := "(I)I" } : Jvm.MethodName) prog_14_method_72_code (4 : Nat) (Option.some Jvm.ClassFile.FieldType.int)) ∈ gw := gw_t5 232 rfl rfl
theorem q_1193 : (Jvm.Cond.methodLink "CrownTwoModel" (266 : Nat) ({ cls := "CrownTwoModel", name := "isSo", desc := "(IIII)Z" } : Jvm.MethodName)) ∈ gw := gw_t5 233 rfl rfl
theorem q_1195 : (Jvm.Cond.instanceMethod ({ cls := "CrownTwoModel", name := "isSo", desc := "(IIII)Z" } : Jvm.MethodName)) ∈ gw := gw_t5 235 rfl rfl
theorem q_1196 : (Jvm.Cond.code ({ cls := "CrownTwoModel", name := "isSo", desc := "(IIII)Z" } : Jvm.MethodName) prog_14_method_71_code (8 : Nat) (Option.some Jvm.ClassFile.FieldType.boolean)) ∈ gw := gw_t5 236 rfl rfl
theorem q_1197 : (Jvm.Cond.methodLink "CrownTwoLaw" (113 : Nat) ({ cls := "CrownTwoModel", name := "heart", desc := "(II)I" } : Jvm.MethodName)) ∈ gw := gw_t5 237 rfl rfl
theorem q_1198 : (Jvm.Cond.instanceMethod ({ cls := "CrownTwoModel", name := "heart", desc := "(II)I" } : Jvm.MethodName)) ∈ gw := gw_t5 238 rfl rfl
theorem q_1199 : (Jvm.Cond.selects "CrownTwoModel" ({ cls := "CrownTwoModel", name := "heart", desc := "(II)I" } : Jvm.MethodName) ({ cls := "CrownTwoModel", name := "heart", desc := "(II)I" } : Jvm.MethodName)) ∈ gw := gw_t5 239 rfl rfl
theorem q_1200 : (Jvm.Cond.code ({ cls := "CrownTwoModel", name := "heart", desc := "(II)I" } : Jvm.MethodName) prog_14_method_74_code (5 : Nat) (Option.some Jvm.ClassFile.FieldType.int)) ∈ gw := gw_t6 0 rfl rfl
theorem q_1201 : (Jvm.Cond.methodLink "CrownTwoLaw" (117 : Nat) ({ cls := "CrownTwoModel", name := "next", desc := "(I)I" } : Jvm.MethodName)) ∈ gw := gw_t6 1 rfl rfl
theorem q_1202 : (Jvm.Cond.instanceMethod ({ cls := "CrownTwoModel", name := "next", desc := "(I)I" } : Jvm.MethodName)) ∈ gw := gw_t6 2 rfl rfl
theorem q_1203 : (Jvm.Cond.selects "CrownTwoModel" ({ cls := "CrownTwoModel", name := "next", desc := "(I)I" } : Jvm.MethodName) ({ cls := "CrownTwoModel", name := "next", desc := "(I)I" } : Jvm.MethodName)) ∈ gw := gw_t6 3 rfl rfl
theorem q_1204 : (Jvm.Cond.code ({ cls := "CrownTwoModel", name := "next", desc := "(I)I" } : Jvm.MethodName) prog_14_method_76_code (5 : Nat) (Option.some Jvm.ClassFile.FieldType.int)) ∈ gw := gw_t6 4 rfl rfl
theorem q_1205 : (Jvm.Cond.methodLink "CrownTwoModel" (272 : Nat) ({ cls := "CrownTwoModel", name := "greaterPart", desc := "(III)I" } : Jvm.MethodName)) ∈ gw := gw_t6 5 rfl rfl
theorem q_1207 : (Jvm.Cond.instanceMethod ({ cls := "CrownTwoModel", name := "greaterPart", desc := "(III)I" } : Jvm.MethodName)) ∈ gw := gw_t6 7 rfl rfl
theorem q_1208 : (Jvm.Cond.code ({ cls := "CrownTwoModel", name := "greaterPart", desc := "(III)I" } : Jvm.MethodName) prog_14_method_75_code (8 : Nat) (Option.some Jvm.ClassFile.FieldType.int)) ∈ gw := gw_t6 8 rfl rfl
theorem q_1209 : (Jvm.Cond.methodLink "CrownTwoLaw" (121 : Nat) ({ cls := "CrownTwoModel", name := "spite", desc := "(I)I" } : Jvm.MethodName)) ∈ gw := gw_t6 9 rfl rfl
theorem q_1210 : (Jvm.Cond.instanceMethod ({ cls := "CrownTwoModel", name := "spite", desc := "(I)I" } : Jvm.MethodName)) ∈ gw := gw_t6 10 rfl rfl
theorem q_1211 : (Jvm.Cond.selects "CrownTwoModel" ({ cls := "CrownTwoModel", name := "spite", desc := "(I)I" } : Jvm.MethodName) ({ cls := "CrownTwoModel", name := "spite", desc := "(I)I" } : Jvm.MethodName)) ∈ gw := gw_t6 11 rfl rfl
theorem q_1212 : (Jvm.Cond.code ({ cls := "CrownTwoModel", name := "spite", desc := "(I)I" } : Jvm.MethodName) prog_14_method_78_code (7 : Nat) (Option.some Jvm.ClassFile.FieldType.int)) ∈ gw := gw_t6 12 rfl rfl
theorem q_1213 : (Jvm.Cond.methodLink "CrownTwoModel" (276 : Nat) ({ cls := "CrownTwoModel", name := "gets", desc := "(IIZZ)I" } : Jvm.MethodName)) ∈ gw := gw_t6 13 rfl rfl
theorem q_1215 : (Jvm.Cond.instanceMethod ({ cls := "CrownTwoModel", name := "gets", desc := "(IIZZ)I" } : Jvm.MethodName)) ∈ gw := gw_t6 15 rfl rfl
theorem q_1216 : (Jvm.Cond.code ({ cls := "CrownTwoModel", name := "gets", desc := "(IIZZ)I" } : Jvm.MethodName) prog_14_method_77_code (6 : Nat) (Option.some Jvm.ClassFile.FieldType.int)) ∈ gw := gw_t6 16 rfl rfl
theorem q_1217 : (Jvm.Cond.methodLink "CrownTwoLaw" (125 : Nat) ({ cls := "CrownTwoModel", name := "slips", desc := "(II)I" } : Jvm.MethodName)) ∈ gw := gw_t6 17 rfl rfl
theorem q_1218 : (Jvm.Cond.instanceMethod ({ cls := "CrownTwoModel", name := "slips", desc := "(II)I" } : Jvm.MethodName)) ∈ gw := gw_t6 18 rfl rfl
theorem q_1219 : (Jvm.Cond.selects "CrownTwoModel" ({ cls := "CrownTwoModel", name := "slips", desc := "(II)I" } : Jvm.MethodName) ({ cls := "CrownTwoModel", name := "slips", desc := "(II)I" } : Jvm.MethodName)) ∈ gw := gw_t6 19 rfl rfl
theorem q_1220 : (Jvm.Cond.code ({ cls := "CrownTwoModel", name := "slips", desc := "(II)I" } : Jvm.MethodName) prog_14_method_80_code (5 : Nat) (Option.some Jvm.ClassFile.FieldType.int)) ∈ gw := gw_t6 20 rfl rfl
theorem q_1221 : (Jvm.Cond.constantLong "CrownTwoModel" (283 : Nat) (100 : Int64)) ∈ gw := gw_t6 21 rfl rfl
theorem q_1222 : (Jvm.Cond.methodLink "CrownTwoModel" (285 : Nat) ({ cls := "CrownTwoModel", name := "lay", desc := "(JJ)V" } : Jvm.MethodName)) ∈ gw := gw_t6 22 rfl rfl
theorem q_1224 : (Jvm.Cond.instanceMethod ({ cls := "CrownTwoModel", name := "lay", desc := "(JJ)V" } : Jvm.MethodName)) ∈ gw := gw_t6 24 rfl rfl
theorem q_1225 : (Jvm.Cond.code ({ cls := "CrownTwoModel", name := "lay", desc := "(JJ)V" } : Jvm.MethodName) prog_14_method_79_code (11 : Nat) (Option.none : Option Jvm.ClassFile.FieldType)) ∈ gw := gw_t6 25 rfl rfl
theorem q_1226 : (Jvm.Cond.methodLink "CrownTwoLaw" (129 : Nat) ({ cls := "CrownTwoModel", name := "reigns", desc := "(II)I" } : Jvm.MethodName)) ∈ gw := gw_t6 26 rfl rfl
theorem q_1227 : (Jvm.Cond.instanceMethod ({ cls := "CrownTwoModel", name := "reigns", desc := "(II)I" } : Jvm.MethodName)) ∈ gw := gw_t6 27 rfl rfl
theorem q_1228 : (Jvm.Cond.selects "CrownTwoModel" ({ cls := "CrownTwoModel", name := "reigns", desc := "(II)I" } : Jvm.MethodName) ({ cls := "CrownTwoModel", name := "reigns", desc := "(II)I" } : Jvm.MethodName)) ∈ gw := gw_t6 28 rfl rfl
theorem q_1229 : (Jvm.Cond.code ({ cls := "CrownTwoModel", name := "reigns", desc := "(II)I" } : Jvm.MethodName) prog_14_method_81_code (7 : Nat) (Option.some Jvm.ClassFile.FieldType.int)) ∈ gw := gw_t6 29 rfl rfl
theorem q_1230 : (Jvm.Cond.constant "CrownTwoModel" (289 : Nat) (999999 : Int32)) ∈ gw := gw_t6 30 rfl rfl
theorem q_1231 : (Jvm.Cond.constantLong "CrownTwoModel" (290 : Nat) (1103515245 : Int64)) ∈ gw := gw_t6 31 rfl rfl
theorem q_1232 : (Jvm.Cond.constantLong "CrownTwoModel" (292 : Nat) (12345 : Int64)) ∈ gw := gw_t6 32 rfl rfl
theorem q_1233 : (Jvm.Cond.constantLong "CrownTwoModel" (294 : Nat) (2147483648 : Int64)) ∈ gw := gw_t6 33 rfl rfl
theorem q_1234 : (Jvm.Cond.constantLong "CrownTwoModel" (296 : Nat) (65536 : Int64)) ∈ gw := gw_t6 34 rfl rfl
theorem q_1235 : (Jvm.Cond.constantLong "CrownTwoModel" (298 : Nat) (8 : Int64)) ∈ gw := gw_t6 35 rfl rfl
theorem q_1236 : (Jvm.Cond.methodLink "CrownTwoLaw" (134 : Nat) ({ cls := "CrownTwoModel", name := "part", desc := "(I)J" } : Jvm.MethodName)) ∈ gw := gw_t6 36 rfl rfl
theorem q_1237 : (Jvm.Cond.instanceMethod ({ cls := "CrownTwoModel", name := "part", desc := "(I)J" } : Jvm.MethodName)) ∈ gw := gw_t6 37 rfl rfl
theorem q_1238 : (Jvm.Cond.selects "CrownTwoModel" ({ cls := "CrownTwoModel", name := "part", desc := "(I)J" } : Jvm.MethodName) ({ cls := "CrownTwoModel", name := "part", desc := "(I)J" } : Jvm.MethodName)) ∈ gw := gw_t6 38 rfl rfl
theorem q_1239 : (Jvm.Cond.code ({ cls := "CrownTwoModel", name := "part", desc := "(I)J" } : Jvm.MethodName) prog_14_method_82_code (2 : Nat) (Option.some Jvm.ClassFile.FieldType.long)) ∈ gw := gw_t6 39 rfl rfl
theorem q_1240 : (Jvm.Cond.methodLink "CrownTwoLaw" (138 : Nat) ({ cls := "CrownTwoModel", name := "image", desc := "(I)I" } : Jvm.MethodName)) ∈ gw := gw_t6 40 rfl rfl
theorem q_1241 : (Jvm.Cond.instanceMethod ({ cls := "CrownTwoModel", name := "image", desc := "(I)I" } : Jvm.MethodName)) ∈ gw := gw_t6 41 rfl rfl
theorem q_1242 : (Jvm.Cond.selects "CrownTwoModel" ({ cls := "CrownTwoModel", name := "image", desc := "(I)I" } : Jvm.MethodName) ({ cls := "CrownTwoModel", name := "image", desc := "(I)I" } : Jvm.MethodName)) ∈ gw := gw_t6 42 rfl rfl
theorem q_1243 : (Jvm.Cond.code ({ cls := "CrownTwoModel", name := "image", desc := "(I)I" } : Jvm.MethodName) prog_14_method_83_code (4 : Nat) (Option.some Jvm.ClassFile.FieldType.int)) ∈ gw := gw_t6 43 rfl rfl
theorem q_1244 : (Jvm.Cond.methodLink "CrownTwoLaw" (142 : Nat) ({ cls := "CrownTwoModel", name := "from", desc := "(I)I" } : Jvm.MethodName)) ∈ gw := gw_t6 44 rfl rfl
theorem q_1245 : (Jvm.Cond.instanceMethod ({ cls := "CrownTwoModel", name := "from", desc := "(I)I" } : Jvm.MethodName)) ∈ gw := gw_t6 45 rfl rfl
theorem q_1246 : (Jvm.Cond.selects "CrownTwoModel" ({ cls := "CrownTwoModel", name := "from", desc := "(I)I" } : Jvm.MethodName) ({ cls := "CrownTwoModel", name := "from", desc := "(I)I" } : Jvm.MethodName)) ∈ gw := gw_t6 46 rfl rfl
theorem q_1247 : (Jvm.Cond.code ({ cls := "CrownTwoModel", name := "from", desc := "(I)I" } : Jvm.MethodName) prog_14_method_84_code (4 : Nat) (Option.some Jvm.ClassFile.FieldType.int)) ∈ gw := gw_t6 47 rfl rfl
theorem q_1248 : (Jvm.Cond.methodLink "CrownTwoLaw" (146 : Nat) ({ cls := "CrownTwoModel", name := "status", desc := "(I)I" } : Jvm.MethodName)) ∈ gw := gw_t6 48 rfl rfl
theorem q_1249 : (Jvm.Cond.instanceMethod ({ cls := "CrownTwoModel", name := "status", desc := "(I)I" } : Jvm.MethodName)) ∈ gw := gw_t6 49 rfl rfl
theorem q_1250 : (Jvm.Cond.selects "CrownTwoModel" ({ cls := "CrownTwoModel", name := "status", desc := "(I)I" } : Jvm.MethodName) ({ cls := "CrownTwoModel", name := "status", desc := "(I)I" } : Jvm.MethodName)) ∈ gw := gw_t6 50 rfl rfl
theorem q_1251 : (Jvm.Cond.code ({ cls := "CrownTwoModel", name := "status", desc := "(I)I" } : Jvm.MethodName) prog_14_method_85_code (2 : Nat) (Option.some Jvm.ClassFile.FieldType.int)) ∈ gw := gw_t6 51 rfl rfl
theorem q_1252 : (Jvm.Cond.methodLink "CrownTwoLaw" (150 : Nat) ({ cls := "CrownTwoModel", name := "count", desc := "(I)I" } : Jvm.MethodName)) ∈ gw := gw_t6 52 rfl rfl
theorem q_1253 : (Jvm.Cond.instanceMethod ({ cls := "CrownTwoModel", name := "count", desc := "(I)I" } : Jvm.MethodName)) ∈ gw := gw_t6 53 rfl rfl
theorem q_1254 : (Jvm.Cond.selects "CrownTwoModel" ({ cls := "CrownTwoModel", name := "count", desc := "(I)I" } : Jvm.MethodName) ({ cls := "CrownTwoModel", name := "count", desc := "(I)I" } : Jvm.MethodName)) ∈ gw := gw_t6 54 rfl rfl
theorem q_1255 : (Jvm.Cond.code ({ cls := "CrownTwoModel", name := "count", desc := "(I)I" } : Jvm.MethodName) prog_14_method_87_code (2 : Nat) (Option.some Jvm.ClassFile.FieldType.int)) ∈ gw := gw_t6 55 rfl rfl
theorem q_1256 : (Jvm.Cond.methodLink "CrownTwoModel" (300 : Nat) ({ cls := "CrownTwoModel", name := "countOf", desc := "(I)I" } : Jvm.MethodName)) ∈ gw := gw_t6 56 rfl rfl
theorem q_1258 : (Jvm.Cond.instanceMethod ({ cls := "CrownTwoModel", name := "countOf", desc := "(I)I" } : Jvm.MethodName)) ∈ gw := gw_t6 58 rfl rfl
theorem q_1259 : (Jvm.Cond.code ({ cls := "CrownTwoModel", name := "countOf", desc := "(I)I" } : Jvm.MethodName) prog_14_method_86_code (2 : Nat) (Option.some Jvm.ClassFile.FieldType.int)) ∈ gw := gw_t6 59 rfl rfl
theorem q_1260 : (Jvm.Cond.methodLink "CrownTwoLaw" (155 : Nat) ({ cls := "CrownTwoModel", name := "digest", desc := "()J" } : Jvm.MethodName)) ∈ gw := gw_t6 60 rfl rfl
theorem q_1261 : (Jvm.Cond.instanceMethod ({ cls := "CrownTwoModel", name := "digest", desc := "()J" } : Jvm.MethodName)) ∈ gw := gw_t6 61 rfl rfl
theorem q_1262 : (Jvm.Cond.selects "CrownTwoModel" ({ cls := "CrownTwoModel", name := "digest", desc := "()J" } : Jvm.MethodName) ({ cls := "CrownTwoModel", name := "digest", desc := "()J" } : Jvm.MethodName)) ∈ gw := gw_t6 62 rfl rfl
theorem q_1263 : (Jvm.Cond.code ({ cls := "CrownTwoModel", name := "digest", desc := "()J" } : Jvm.MethodName) prog_14_method_89_code (2 : Nat) (Option.some Jvm.ClassFile.FieldType.long)) ∈ gw := gw_t6 63 rfl rfl
theorem q_1264 : (Jvm.Cond.constantLong "CrownTwoModel" (308 : Nat) (1249 : Int64)) ∈ gw := gw_t6 64 rfl rfl
theorem q_1265 : (Jvm.Cond.methodLink "CrownTwoModel" (310 : Nat) ({ cls := "CrownTwoModel", name := "mix", desc := "(J)V" } : Jvm.MethodName)) ∈ gw := gw_t6 65 rfl rfl
theorem q_1267 : (Jvm.Cond.instanceMethod ({ cls := "CrownTwoModel", name := "mix", desc := "(J)V" } : Jvm.MethodName)) ∈ gw := gw_t6 67 rfl rfl
theorem q_1268 : (Jvm.Cond.code ({ cls := "CrownTwoModel", name := "mix", desc := "(J)V" } : Jvm.MethodName) prog_14_method_88_code (3 : Nat) (Option.none : Option Jvm.ClassFile.FieldType)) ∈ gw := gw_t6 68 rfl rfl
theorem q_1269 : (Jvm.Cond.constantLong "CrownTwoModel" (303 : Nat) (31 : Int64)) ∈ gw := gw_t6 69 rfl rfl
theorem q_1270 : (Jvm.Cond.sameMethod "CrownTwo$Sulky" "CrownTwo$Sulky" "lifts" "(ZZII)Z") ∈ gw := gw_t6 70 rfl rfl
theorem q_1271 : (Jvm.Cond.sameMethod "CrownTwo$Joker" "CrownTwo$Joker" "adds" "(I)I") ∈ gw := gw_t6 71 rfl rfl
theorem q_1272 : (Jvm.Cond.sameMethod "CrownTwo$Sulky" "CrownTwo$Sulky" "adds" "(I)I") ∈ gw := gw_t6 72 rfl rfl
theorem q_1278 : (Jvm.Cond.fieldLink "java/lang/String" (9 : Nat) "java/lang/String" "value" "[B") ∈ gw := gw_t6 78 rfl rfl
theorem q_1279 : (Jvm.Cond.fieldLink "java/lang/String" (15 : Nat) "java/lang/String" "coder" "B") ∈ gw := gw_t6 79 rfl rfl
theorem qs_0 : Cond.selects "CrownTwo" ⟨"CrownTwo", "bad", "()I"⟩ ⟨"CrownTwo", "bad", "()I"⟩ ∈ gw := gw_s (q := (⟨"CrownTwo", "bad", "()I"⟩, _)) 0 rfl
theorem qs_1 : Cond.selects "CrownTwo" ⟨"CrownTwo", "full", "()I"⟩ ⟨"CrownTwo", "full", "()I"⟩ ∈ gw := gw_s (q := (⟨"CrownTwo", "full", "()I"⟩, _)) 1 rfl
theorem qs_2 : Cond.selects "CrownTwo$CourtText" ⟨"CrownTwo$CourtText", "advance", "()V"⟩ ⟨"CrownTwo$CourtText", "advance", "()V"⟩ ∈ gw := gw_s (q := (⟨"CrownTwo$CourtText", "advance", "()V"⟩, _)) 2 rfl
theorem qs_3 : Cond.selects "CrownTwo$CourtText" ⟨"CrownTwo$CourtText", "sortAt", "(I)I"⟩ ⟨"CrownTwo$CourtText", "sortAt", "(I)I"⟩ ∈ gw := gw_s (q := (⟨"CrownTwo$CourtText", "sortAt", "(I)I"⟩, _)) 3 rfl
theorem qs_4 : Cond.selects "CrownTwo$CourtText" ⟨"CrownTwo$CourtText", "courtItem", "(LCrownTwo$Court;)Z"⟩ ⟨"CrownTwo$CourtText", "courtItem", "(LCrownTwo$Court;)Z"⟩ ∈ gw := gw_s (q := (⟨"CrownTwo$CourtText", "courtItem", "(LCrownTwo$Court;)Z"⟩, _)) 4 rfl
theorem qs_5 : Cond.selects "CrownTwo$CourtText" ⟨"CrownTwo$CourtText", "isWord", "(Ljava/lang/String;)Z"⟩ ⟨"CrownTwo$CourtText", "isWord", "(Ljava/lang/String;)Z"⟩ ∈ gw := gw_s (q := (⟨"CrownTwo$CourtText", "isWord", "(Ljava/lang/String;)Z"⟩, _)) 5 rfl
theorem qs_6 : Cond.selects "CrownTwo$CourtText" ⟨"CrownTwo$CourtText", "takeNumber", "(II)I"⟩ ⟨"CrownTwo$CourtText", "takeNumber", "(II)I"⟩ ∈ gw := gw_s (q := (⟨"CrownTwo$CourtText", "takeNumber", "(II)I"⟩, _)) 6 rfl
theorem qs_7 : Cond.selects "CrownTwo$CourtText" ⟨"CrownTwo$CourtText", "takeEnding", "()Z"⟩ ⟨"CrownTwo$CourtText", "takeEnding", "()Z"⟩ ∈ gw := gw_s (q := (⟨"CrownTwo$CourtText", "takeEnding", "()Z"⟩, _)) 7 rfl
theorem qs_8 : Cond.selects "CrownTwo$CourtText" ⟨"CrownTwo$CourtText", "laterItem", "(LCrownTwo$Court;)Z"⟩ ⟨"CrownTwo$CourtText", "laterItem", "(LCrownTwo$Court;)Z"⟩ ∈ gw := gw_s (q := (⟨"CrownTwo$CourtText", "laterItem", "(LCrownTwo$Court;)Z"⟩, _)) 8 rfl
theorem qs_9 : Cond.selects "CrownTwo$CourtText" ⟨"CrownTwo$CourtText", "heirItem", "(LCrownTwo$Court;)Z"⟩ ⟨"CrownTwo$CourtText", "heirItem", "(LCrownTwo$Court;)Z"⟩ ∈ gw := gw_s (q := (⟨"CrownTwo$CourtText", "heirItem", "(LCrownTwo$Court;)Z"⟩, _)) 9 rfl
theorem qs_10 : Cond.selects "CrownTwo$CourtText" ⟨"CrownTwo$CourtText", "heartItem", "(LCrownTwo$Court;Z)Z"⟩ ⟨"CrownTwo$CourtText", "heartItem", "(LCrownTwo$Court;Z)Z"⟩ ∈ gw := gw_s (q := (⟨"CrownTwo$CourtText", "heartItem", "(LCrownTwo$Court;Z)Z"⟩, _)) 10 rfl
theorem qs_11 : Cond.selects "CrownTwo$CourtText" ⟨"CrownTwo$CourtText", "pairItem", "(LCrownTwo$Court;)Z"⟩ ⟨"CrownTwo$CourtText", "pairItem", "(LCrownTwo$Court;)Z"⟩ ∈ gw := gw_s (q := (⟨"CrownTwo$CourtText", "pairItem", "(LCrownTwo$Court;)Z"⟩, _)) 11 rfl
theorem qs_12 : Cond.selects "CrownTwo$Court" ⟨"CrownTwo$Court", "forgetOldest", "()V"⟩ ⟨"CrownTwo$Court", "forgetOldest", "()V"⟩ ∈ gw := gw_s (q := (⟨"CrownTwo$Court", "forgetOldest", "()V"⟩, _)) 12 rfl
theorem qs_13 : Cond.selects "CrownTwo" ⟨"CrownTwo", "no", "()I"⟩ ⟨"CrownTwo", "no", "()I"⟩ ∈ gw := gw_s (q := (⟨"CrownTwo", "no", "()I"⟩, _)) 13 rfl
theorem qs_14 : Cond.selects "CrownTwo" ⟨"CrownTwo", "daysToFriends", "(I)I"⟩ ⟨"CrownTwo", "daysToFriends", "(I)I"⟩ ∈ gw := gw_s (q := (⟨"CrownTwo", "daysToFriends", "(I)I"⟩, _)) 14 rfl
theorem qs_15 : Cond.selects "CrownTwo" ⟨"CrownTwo", "tryFrom", "(IIII)V"⟩ ⟨"CrownTwo", "tryFrom", "(IIII)V"⟩ ∈ gw := gw_s (q := (⟨"CrownTwo", "tryFrom", "(IIII)V"⟩, _)) 15 rfl
theorem qs_16 : Cond.selects "CrownTwo" ⟨"CrownTwo", "staysQuarrelled", "(III)Z"⟩ ⟨"CrownTwo", "staysQuarrelled", "(III)Z"⟩ ∈ gw := gw_s (q := (⟨"CrownTwo", "staysQuarrelled", "(III)Z"⟩, _)) 16 rfl
theorem qs_17 : Cond.selects "CrownTwo" ⟨"CrownTwo", "lastingOf", "(II)I"⟩ ⟨"CrownTwo", "lastingOf", "(II)I"⟩ ∈ gw := gw_s (q := (⟨"CrownTwo", "lastingOf", "(II)I"⟩, _)) 17 rfl
theorem qs_18 : Cond.selects "CrownTwo" ⟨"CrownTwo", "bestPair", "()I"⟩ ⟨"CrownTwo", "bestPair", "()I"⟩ ∈ gw := gw_s (q := (⟨"CrownTwo", "bestPair", "()I"⟩, _)) 18 rfl
theorem qs_19 : Cond.selects "CrownTwo" ⟨"CrownTwo", "stuckPairs", "()I"⟩ ⟨"CrownTwo", "stuckPairs", "()I"⟩ ∈ gw := gw_s (q := (⟨"CrownTwo", "stuckPairs", "()I"⟩, _)) 19 rfl
theorem qs_20 : Cond.selects "CrownTwo" ⟨"CrownTwo", "kindsThatFit", "(I)I"⟩ ⟨"CrownTwo", "kindsThatFit", "(I)I"⟩ ∈ gw := gw_s (q := (⟨"CrownTwo", "kindsThatFit", "(I)I"⟩, _)) 20 rfl
theorem qs_21 : Cond.selects "CrownTwo" ⟨"CrownTwo", "setFraction", "(II)V"⟩ ⟨"CrownTwo", "setFraction", "(II)V"⟩ ∈ gw := gw_s (q := (⟨"CrownTwo", "setFraction", "(II)V"⟩, _)) 21 rfl
theorem qs_22 : Cond.selects "CrownTwo" ⟨"CrownTwo", "howMany", "(I)I"⟩ ⟨"CrownTwo", "howMany", "(I)I"⟩ ∈ gw := gw_s (q := (⟨"CrownTwo", "howMany", "(I)I"⟩, _)) 22 rfl
theorem qs_23 : Cond.selects "CrownTwoModel" ⟨"CrownTwoModel", "begin", "(I)V"⟩ ⟨"CrownTwoModel", "begin", "(I)V"⟩ ∈ gw := gw_s (q := (⟨"CrownTwoModel", "begin", "(I)V"⟩, _)) 23 rfl
theorem qs_24 : Cond.selects "CrownTwoModel" ⟨"CrownTwoModel", "bad", "()I"⟩ ⟨"CrownTwoModel", "bad", "()I"⟩ ∈ gw := gw_s (q := (⟨"CrownTwoModel", "bad", "()I"⟩, _)) 24 rfl
theorem qs_25 : Cond.selects "CrownTwoModel" ⟨"CrownTwoModel", "full", "()I"⟩ ⟨"CrownTwoModel", "full", "()I"⟩ ∈ gw := gw_s (q := (⟨"CrownTwoModel", "full", "()I"⟩, _)) 25 rfl
theorem qs_26 : Cond.selects "CrownTwoModel" ⟨"CrownTwoModel", "addHeir", "(IIII)I"⟩ ⟨"CrownTwoModel", "addHeir", "(IIII)I"⟩ ∈ gw := gw_s (q := (⟨"CrownTwoModel", "addHeir", "(IIII)I"⟩, _)) 26 rfl
theorem qs_27 : Cond.selects "CrownTwoModel" ⟨"CrownTwoModel", "readsCourt", "()I"⟩ ⟨"CrownTwoModel", "readsCourt", "()I"⟩ ∈ gw := gw_s (q := (⟨"CrownTwoModel", "readsCourt", "()I"⟩, _)) 27 rfl
theorem qs_28 : Cond.selects "CrownTwoModel" ⟨"CrownTwoModel", "readsFirst", "()Z"⟩ ⟨"CrownTwoModel", "readsFirst", "()Z"⟩ ∈ gw := gw_s (q := (⟨"CrownTwoModel", "readsFirst", "()Z"⟩, _)) 28 rfl
theorem qs_29 : Cond.selects "CrownTwoModel" ⟨"CrownTwoModel", "skip", "()V"⟩ ⟨"CrownTwoModel", "skip", "()V"⟩ ∈ gw := gw_s (q := (⟨"CrownTwoModel", "skip", "()V"⟩, _)) 29 rfl
theorem qs_30 : Cond.selects "CrownTwoModel" ⟨"CrownTwoModel", "here", "()I"⟩ ⟨"CrownTwoModel", "here", "()I"⟩ ∈ gw := gw_s (q := (⟨"CrownTwoModel", "here", "()I"⟩, _)) 30 rfl
theorem qs_31 : Cond.selects "CrownTwoModel" ⟨"CrownTwoModel", "wordHere", "()I"⟩ ⟨"CrownTwoModel", "wordHere", "()I"⟩ ∈ gw := gw_s (q := (⟨"CrownTwoModel", "wordHere", "()I"⟩, _)) 31 rfl
theorem qs_32 : Cond.selects "CrownTwoModel" ⟨"CrownTwoModel", "wordSize", "()I"⟩ ⟨"CrownTwoModel", "wordSize", "()I"⟩ ∈ gw := gw_s (q := (⟨"CrownTwoModel", "wordSize", "()I"⟩, _)) 32 rfl
theorem qs_33 : Cond.selects "CrownTwoModel" ⟨"CrownTwoModel", "letter", "(I)I"⟩ ⟨"CrownTwoModel", "letter", "(I)I"⟩ ∈ gw := gw_s (q := (⟨"CrownTwoModel", "letter", "(I)I"⟩, _)) 33 rfl
theorem qs_34 : Cond.selects "CrownTwoModel" ⟨"CrownTwoModel", "spells", "(IIII)Z"⟩ ⟨"CrownTwoModel", "spells", "(IIII)Z"⟩ ∈ gw := gw_s (q := (⟨"CrownTwoModel", "spells", "(IIII)Z"⟩, _)) 34 rfl
theorem qs_35 : Cond.selects "CrownTwoModel" ⟨"CrownTwoModel", "number", "(II)Z"⟩ ⟨"CrownTwoModel", "number", "(II)Z"⟩ ∈ gw := gw_s (q := (⟨"CrownTwoModel", "number", "(II)Z"⟩, _)) 35 rfl
theorem qs_36 : Cond.selects "CrownTwoModel" ⟨"CrownTwoModel", "ends", "()Z"⟩ ⟨"CrownTwoModel", "ends", "()Z"⟩ ∈ gw := gw_s (q := (⟨"CrownTwoModel", "ends", "()Z"⟩, _)) 36 rfl
theorem qs_37 : Cond.selects "CrownTwoModel" ⟨"CrownTwoModel", "readsItem", "()Z"⟩ ⟨"CrownTwoModel", "readsItem", "()Z"⟩ ∈ gw := gw_s (q := (⟨"CrownTwoModel", "readsItem", "()Z"⟩, _)) 37 rfl
theorem qs_38 : Cond.selects "CrownTwoModel" ⟨"CrownTwoModel", "readsHeir", "()Z"⟩ ⟨"CrownTwoModel", "readsHeir", "()Z"⟩ ∈ gw := gw_s (q := (⟨"CrownTwoModel", "readsHeir", "()Z"⟩, _)) 38 rfl
theorem qs_39 : Cond.selects "CrownTwoModel" ⟨"CrownTwoModel", "readsPair", "()Z"⟩ ⟨"CrownTwoModel", "readsPair", "()Z"⟩ ∈ gw := gw_s (q := (⟨"CrownTwoModel", "readsPair", "()Z"⟩, _)) 39 rfl
theorem qs_40 : Cond.selects "CrownTwoModel" ⟨"CrownTwoModel", "readsActs", "(I)Z"⟩ ⟨"CrownTwoModel", "readsActs", "(I)Z"⟩ ∈ gw := gw_s (q := (⟨"CrownTwoModel", "readsActs", "(I)Z"⟩, _)) 40 rfl
theorem qs_41 : Cond.selects "CrownTwoModel" ⟨"CrownTwoModel", "isHeir", "(I)Z"⟩ ⟨"CrownTwoModel", "isHeir", "(I)Z"⟩ ∈ gw := gw_s (q := (⟨"CrownTwoModel", "isHeir", "(I)Z"⟩, _)) 41 rfl
theorem qs_42 : Cond.selects "CrownTwoModel" ⟨"CrownTwoModel", "notes", "()V"⟩ ⟨"CrownTwoModel", "notes", "()V"⟩ ∈ gw := gw_s (q := (⟨"CrownTwoModel", "notes", "()V"⟩, _)) 42 rfl
theorem qs_43 : Cond.selects "CrownTwoModel" ⟨"CrownTwoModel", "lays", "([II)V"⟩ ⟨"CrownTwoModel", "lays", "([II)V"⟩ ∈ gw := gw_s (q := (⟨"CrownTwoModel", "lays", "([II)V"⟩, _)) 43 rfl
theorem qs_44 : Cond.selects "CrownTwoModel" ⟨"CrownTwoModel", "isPair", "()Z"⟩ ⟨"CrownTwoModel", "isPair", "()Z"⟩ ∈ gw := gw_s (q := (⟨"CrownTwoModel", "isPair", "()Z"⟩, _)) 44 rfl
theorem qs_45 : Cond.selects "CrownTwoModel" ⟨"CrownTwoModel", "no", "()I"⟩ ⟨"CrownTwoModel", "no", "()I"⟩ ∈ gw := gw_s (q := (⟨"CrownTwoModel", "no", "()I"⟩, _)) 45 rfl
theorem qs_46 : Cond.selects "CrownTwoModel" ⟨"CrownTwoModel", "asks", "(I)I"⟩ ⟨"CrownTwoModel", "asks", "(I)I"⟩ ∈ gw := gw_s (q := (⟨"CrownTwoModel", "asks", "(I)I"⟩, _)) 46 rfl
theorem qs_47 : Cond.selects "CrownTwoModel" ⟨"CrownTwoModel", "lifting", "(I)I"⟩ ⟨"CrownTwoModel", "lifting", "(I)I"⟩ ∈ gw := gw_s (q := (⟨"CrownTwoModel", "lifting", "(I)I"⟩, _)) 47 rfl
theorem qs_48 : Cond.selects "CrownTwoModel" ⟨"CrownTwoModel", "lifts", "(II)Z"⟩ ⟨"CrownTwoModel", "lifts", "(II)Z"⟩ ∈ gw := gw_s (q := (⟨"CrownTwoModel", "lifts", "(II)Z"⟩, _)) 48 rfl
theorem qs_49 : Cond.selects "CrownTwoModel" ⟨"CrownTwoModel", "heartOf", "(II)I"⟩ ⟨"CrownTwoModel", "heartOf", "(II)I"⟩ ∈ gw := gw_s (q := (⟨"CrownTwoModel", "heartOf", "(II)I"⟩, _)) 49 rfl
theorem qs_50 : Cond.selects "CrownTwoModel" ⟨"CrownTwoModel", "pass", "()V"⟩ ⟨"CrownTwoModel", "pass", "()V"⟩ ∈ gw := gw_s (q := (⟨"CrownTwoModel", "pass", "()V"⟩, _)) 50 rfl
theorem qs_51 : Cond.selects "CrownTwoModel" ⟨"CrownTwoModel", "growth", "()I"⟩ ⟨"CrownTwoModel", "growth", "()I"⟩ ∈ gw := gw_s (q := (⟨"CrownTwoModel", "growth", "()I"⟩, _)) 51 rfl
theorem qs_52 : Cond.selects "CrownTwoModel" ⟨"CrownTwoModel", "makesOf", "(I)I"⟩ ⟨"CrownTwoModel", "makesOf", "(I)I"⟩ ∈ gw := gw_s (q := (⟨"CrownTwoModel", "makesOf", "(I)I"⟩, _)) 52 rfl
theorem qs_53 : Cond.selects "CrownTwoModel" ⟨"CrownTwoModel", "takes", "([II)V"⟩ ⟨"CrownTwoModel", "takes", "([II)V"⟩ ∈ gw := gw_s (q := (⟨"CrownTwoModel", "takes", "([II)V"⟩, _)) 53 rfl
theorem qs_54 : Cond.selects "CrownTwoModel" ⟨"CrownTwoModel", "puts", "()V"⟩ ⟨"CrownTwoModel", "puts", "()V"⟩ ∈ gw := gw_s (q := (⟨"CrownTwoModel", "puts", "()V"⟩, _)) 54 rfl
theorem qs_55 : Cond.selects "CrownTwoModel" ⟨"CrownTwoModel", "bothSet", "()I"⟩ ⟨"CrownTwoModel", "bothSet", "()I"⟩ ∈ gw := gw_s (q := (⟨"CrownTwoModel", "bothSet", "()I"⟩, _)) 55 rfl
theorem qs_56 : Cond.selects "CrownTwoModel" ⟨"CrownTwoModel", "back", "()V"⟩ ⟨"CrownTwoModel", "back", "()V"⟩ ∈ gw := gw_s (q := (⟨"CrownTwoModel", "back", "()V"⟩, _)) 56 rfl
theorem qs_57 : Cond.selects "CrownTwoModel" ⟨"CrownTwoModel", "daysTill", "()I"⟩ ⟨"CrownTwoModel", "daysTill", "()I"⟩ ∈ gw := gw_s (q := (⟨"CrownTwoModel", "daysTill", "()I"⟩, _)) 57 rfl
theorem qs_58 : Cond.selects "CrownTwoModel" ⟨"CrownTwoModel", "ten", "()I"⟩ ⟨"CrownTwoModel", "ten", "()I"⟩ ∈ gw := gw_s (q := (⟨"CrownTwoModel", "ten", "()I"⟩, _)) 58 rfl
theorem qs_59 : Cond.selects "CrownTwoModel" ⟨"CrownTwoModel", "doneBy", "(II)I"⟩ ⟨"CrownTwoModel", "doneBy", "(II)I"⟩ ∈ gw := gw_s (q := (⟨"CrownTwoModel", "doneBy", "(II)I"⟩, _)) 59 rfl
theorem qs_60 : Cond.selects "CrownTwoModel" ⟨"CrownTwoModel", "lastsOf", "(II)I"⟩ ⟨"CrownTwoModel", "lastsOf", "(II)I"⟩ ∈ gw := gw_s (q := (⟨"CrownTwoModel", "lastsOf", "(II)I"⟩, _)) 60 rfl
theorem qs_61 : Cond.selects "CrownTwoModel" ⟨"CrownTwoModel", "areStuck", "(II)Z"⟩ ⟨"CrownTwoModel", "areStuck", "(II)Z"⟩ ∈ gw := gw_s (q := (⟨"CrownTwoModel", "areStuck", "(II)Z"⟩, _)) 61 rfl
theorem qs_62 : Cond.selects "CrownTwoModel" ⟨"CrownTwoModel", "kindsOf", "(I)I"⟩ ⟨"CrownTwoModel", "kindsOf", "(I)I"⟩ ∈ gw := gw_s (q := (⟨"CrownTwoModel", "kindsOf", "(I)I"⟩, _)) 62 rfl
theorem qs_63 : Cond.selects "CrownTwoModel" ⟨"CrownTwoModel", "isSo", "(IIII)Z"⟩ ⟨"CrownTwoModel", "isSo", "(IIII)Z"⟩ ∈ gw := gw_s (q := (⟨"CrownTwoModel", "isSo", "(IIII)Z"⟩, _)) 63 rfl
theorem qs_64 : Cond.selects "CrownTwoModel" ⟨"CrownTwoModel", "greaterPart", "(III)I"⟩ ⟨"CrownTwoModel", "greaterPart", "(III)I"⟩ ∈ gw := gw_s (q := (⟨"CrownTwoModel", "greaterPart", "(III)I"⟩, _)) 64 rfl
theorem qs_65 : Cond.selects "CrownTwoModel" ⟨"CrownTwoModel", "gets", "(IIZZ)I"⟩ ⟨"CrownTwoModel", "gets", "(IIZZ)I"⟩ ∈ gw := gw_s (q := (⟨"CrownTwoModel", "gets", "(IIZZ)I"⟩, _)) 65 rfl
theorem qs_66 : Cond.selects "CrownTwoModel" ⟨"CrownTwoModel", "lay", "(JJ)V"⟩ ⟨"CrownTwoModel", "lay", "(JJ)V"⟩ ∈ gw := gw_s (q := (⟨"CrownTwoModel", "lay", "(JJ)V"⟩, _)) 66 rfl
theorem qs_67 : Cond.selects "CrownTwoModel" ⟨"CrownTwoModel", "countOf", "(I)I"⟩ ⟨"CrownTwoModel", "countOf", "(I)I"⟩ ∈ gw := gw_s (q := (⟨"CrownTwoModel", "countOf", "(I)I"⟩, _)) 67 rfl
theorem qs_68 : Cond.selects "CrownTwoModel" ⟨"CrownTwoModel", "mix", "(J)V"⟩ ⟨"CrownTwoModel", "mix", "(J)V"⟩ ∈ gw := gw_s (q := (⟨"CrownTwoModel", "mix", "(J)V"⟩, _)) 68 rfl
