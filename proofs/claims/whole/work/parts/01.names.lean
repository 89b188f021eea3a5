/-! ===== BEGIN words of one list among another's, by their places ===== -/
theorem goodIn_r {big : List Cond} (ws : List Cond) (ps : List Nat) (hp : ws = ps.filterMap (fun i => big[i]?)) (h : ws.all goodWord = true) : GoodIn big ws := by
  intro w hw
  have h1 := List.all_eq_true.mp h w hw
  rw [hp] at hw
  obtain ⟨i, -, hi⟩ := List.mem_filterMap.mp hw
  have hm : w ∈ big := by first | exact List.mem_of_getElem? hi | exact List.getElem?_mem hi
  exact ⟨hm, good_of_word h1⟩
theorem goodIn_app {big a b : List Cond} (ha : GoodIn big a) (hb : GoodIn big b) : GoodIn big (a ++ b) := fun w h => (List.mem_append.mp h).elim (ha w) (hb w)
theorem goodIn_ca {big a b : List Cond} {c : Cond} (ha : GoodIn big (c :: a)) (hb : GoodIn big b) : GoodIn big (c :: (a ++ b)) := fun w h => (List.mem_cons.mp h).elim (fun e => ha w (List.mem_cons.mpr (Or.inl e))) (fun h => (List.mem_append.mp h).elim (fun h => ha w (List.mem_cons.mpr (Or.inr h))) (hb w))
theorem goodIn_sub {big ws : List Cond} (hm : ∀ w ∈ ws, w ∈ big) (h : ws.all goodWord = true) : GoodIn big ws := fun w hw => ⟨hm w hw, good_of_word (List.all_eq_true.mp h w hw)⟩
/-! ===== END ===== -/

/-! ===== BEGIN printed: names, fields, word lists, decode rows ===== -/
def RX0 : String := "WorstVoice$Boy"
def TX0 : u_T := fun k => match k with
  | _ => ("", "", "", false)
def tyX0 : Nat → FieldType := fun k => match k with
  | _ => .int
abbrev wsX00 : List Cond := u_ws RX0 TX0 0
theorem nmX0 : ∀ a, a < 0 → ∀ b, b < 0 → a ≠ b → (TX0 a).2.1 ≠ (TX0 b).2.1 := by decide +kernel
theorem tyX0_ok : ∀ k, k < 0 → parseFieldDescriptor (TX0 k).2.2.1 = some (tyX0 k) := by decide +kernel
abbrev cX0_init : ByteArray := prog_2_method_1_code
def yX0_init : MethodName := ⟨RX0, "<init>", "()V"⟩
abbrev cX0_number : ByteArray := prog_2_method_2_code
def yX0_number : MethodName := ⟨RX0, "number", "()I"⟩
abbrev cX0_plainBad : ByteArray := prog_2_method_3_code
def yX0_plainBad : MethodName := ⟨RX0, "plainBad", "(II)I"⟩
abbrev cX0_practised : ByteArray := prog_2_method_4_code
def yX0_practised : MethodName := ⟨RX0, "practised", "(I)I"⟩
def RX1 : String := "WorstVoice$Choir"
def TX1 : u_T := fun k => match k with
  | 0 => ("WorstVoice$Choir", "voices", "LWorstVoice$Voices;", true)
  | 1 => ("WorstVoice$Choir", "kinds", "[I", true)
  | 2 => ("WorstVoice$Choir", "faults", "[I", true)
  | 3 => ("WorstVoice$Choir", "colds", "[I", true)
  | 4 => ("WorstVoice$Choir", "lefts", "[I", true)
  | 5 => ("WorstVoice$Choir", "honeys", "[I", true)
  | 6 => ("WorstVoice$Choir", "minded", "[I", true)
  | 7 => ("WorstVoice$Choir", "singers", "I", false)
  | 8 => ("WorstVoice$Choir", "widows", "I", false)
  | _ => ("WorstVoice$Choir", "weeks", "I", false)
def tyX1 : Nat → FieldType := fun k => match k with
  | 0 => .object "WorstVoice$Voices"
  | 1 => .array .int
  | 2 => .array .int
  | 3 => .array .int
  | 4 => .array .int
  | 5 => .array .int
  | 6 => .array .int
  | 7 => .int
  | 8 => .int
  | _ => .int
abbrev wsX10 : List Cond := u_ws RX1 TX1 10
theorem nmX1 : ∀ a, a < 10 → ∀ b, b < 10 → a ≠ b → (TX1 a).2.1 ≠ (TX1 b).2.1 := by decide +kernel
theorem tyX1_ok : ∀ k, k < 10 → parseFieldDescriptor (TX1 k).2.2.1 = some (tyX1 k) := by decide +kernel
abbrev cX1_init : ByteArray := prog_3_method_1_code
def yX1_init : MethodName := ⟨RX1, "<init>", "(LWorstVoice$Voices;)V"⟩
abbrev cX1_readFrom : ByteArray := prog_3_method_2_code
def yX1_readFrom : MethodName := ⟨RX1, "readFrom", "(LWorstVoice$Page;)V"⟩
abbrev cX1_readSinger : ByteArray := prog_3_method_3_code
def yX1_readSinger : MethodName := ⟨RX1, "readSinger", "(LWorstVoice$Page;I)V"⟩
abbrev cX1_takeFrom : ByteArray := prog_3_method_4_code
def yX1_takeFrom : MethodName := ⟨RX1, "takeFrom", "(LWorstVoice$Choir;)V"⟩
abbrev cX1_isEmpty : ByteArray := prog_3_method_5_code
def yX1_isEmpty : MethodName := ⟨RX1, "isEmpty", "()Z"⟩
abbrev cX1_hasSinger : ByteArray := prog_3_method_6_code
def yX1_hasSinger : MethodName := ⟨RX1, "hasSinger", "(I)Z"⟩
abbrev cX1_hasWidow : ByteArray := prog_3_method_7_code
def yX1_hasWidow : MethodName := ⟨RX1, "hasWidow", "(I)Z"⟩
abbrev cX1_voice : ByteArray := prog_3_method_8_code
def yX1_voice : MethodName := ⟨RX1, "voice", "(I)LWorstVoice$Singer;"⟩
abbrev cX1_coldOf : ByteArray := prog_3_method_9_code
def yX1_coldOf : MethodName := ⟨RX1, "coldOf", "(I)I"⟩
abbrev cX1_leftOf : ByteArray := prog_3_method_10_code
def yX1_leftOf : MethodName := ⟨RX1, "leftOf", "(I)I"⟩
abbrev cX1_honeyOf : ByteArray := prog_3_method_11_code
def yX1_honeyOf : MethodName := ⟨RX1, "honeyOf", "(I)I"⟩
abbrev cX1_faultOf : ByteArray := prog_3_method_12_code
def yX1_faultOf : MethodName := ⟨RX1, "faultOf", "(II)I"⟩
abbrev cX1_minds : ByteArray := prog_3_method_13_code
def yX1_minds : MethodName := ⟨RX1, "minds", "(I)I"⟩
abbrev cX1_setCold : ByteArray := prog_3_method_14_code
def yX1_setCold : MethodName := ⟨RX1, "setCold", "(IZ)V"⟩
abbrev cX1_setLeft : ByteArray := prog_3_method_15_code
def yX1_setLeft : MethodName := ⟨RX1, "setLeft", "(IZ)V"⟩
abbrev cX1_setHoney : ByteArray := prog_3_method_16_code
def yX1_setHoney : MethodName := ⟨RX1, "setHoney", "(II)V"⟩
abbrev cX1_practiseWeek : ByteArray := prog_3_method_17_code
def yX1_practiseWeek : MethodName := ⟨RX1, "practiseWeek", "(I)I"⟩
abbrev cX1_bad : ByteArray := prog_3_method_18_code
def yX1_bad : MethodName := ⟨RX1, "bad", "(II)I"⟩
abbrev cX1_favourite : ByteArray := prog_3_method_19_code
def yX1_favourite : MethodName := ⟨RX1, "favourite", "(I)I"⟩
abbrev cX1_votes : ByteArray := prog_3_method_20_code
def yX1_votes : MethodName := ⟨RX1, "votes", "(I)I"⟩
abbrev cX1_elected : ByteArray := prog_3_method_21_code
def yX1_elected : MethodName := ⟨RX1, "elected", "()I"⟩
abbrev cX1_coldsOfAll : ByteArray := prog_3_method_22_code
def yX1_coldsOfAll : MethodName := ⟨RX1, "coldsOfAll", "()I"⟩
abbrev cX1_honeyOfAll : ByteArray := prog_3_method_23_code
def yX1_honeyOfAll : MethodName := ⟨RX1, "honeyOfAll", "()I"⟩
abbrev cX1_isFault : ByteArray := prog_3_method_24_code
def yX1_isFault : MethodName := ⟨RX1, "isFault", "(I)Z"⟩
def RX2 : String := "WorstVoice$Chorister"
def TX2 : u_T := fun k => match k with
  | _ => ("", "", "", false)
def tyX2 : Nat → FieldType := fun k => match k with
  | _ => .int
abbrev wsX20 : List Cond := u_ws RX2 TX2 0
theorem nmX2 : ∀ a, a < 0 → ∀ b, b < 0 → a ≠ b → (TX2 a).2.1 ≠ (TX2 b).2.1 := by decide +kernel
theorem tyX2_ok : ∀ k, k < 0 → parseFieldDescriptor (TX2 k).2.2.1 = some (tyX2 k) := by decide +kernel
abbrev cX2_init : ByteArray := prog_4_method_1_code
def yX2_init : MethodName := ⟨RX2, "<init>", "()V"⟩
abbrev cX2_number : ByteArray := prog_4_method_2_code
def yX2_number : MethodName := ⟨RX2, "number", "()I"⟩
abbrev cX2_plainBad : ByteArray := prog_4_method_3_code
def yX2_plainBad : MethodName := ⟨RX2, "plainBad", "(II)I"⟩
def RX3 : String := "WorstVoice$Deaf"
def TX3 : u_T := fun k => match k with
  | _ => ("", "", "", false)
def tyX3 : Nat → FieldType := fun k => match k with
  | _ => .int
abbrev wsX30 : List Cond := u_ws RX3 TX3 0
theorem nmX3 : ∀ a, a < 0 → ∀ b, b < 0 → a ≠ b → (TX3 a).2.1 ≠ (TX3 b).2.1 := by decide +kernel
theorem tyX3_ok : ∀ k, k < 0 → parseFieldDescriptor (TX3 k).2.2.1 = some (tyX3 k) := by decide +kernel
abbrev cX3_init : ByteArray := prog_5_method_1_code
def yX3_init : MethodName := ⟨RX3, "<init>", "()V"⟩
abbrev cX3_number : ByteArray := prog_5_method_2_code
def yX3_number : MethodName := ⟨RX3, "number", "()I"⟩
abbrev cX3_plainBad : ByteArray := prog_5_method_3_code
def yX3_plainBad : MethodName := ⟨RX3, "plainBad", "(II)I"⟩
def RX4 : String := "WorstVoice$Hearsay"
def TX4 : u_T := fun k => match k with
  | 0 => ("WorstVoice$Hearsay", "widows", "[I", true)
  | 1 => ("WorstVoice$Hearsay", "firsts", "[I", true)
  | 2 => ("WorstVoice$Hearsay", "seconds", "[I", true)
  | 3 => ("WorstVoice$Hearsay", "mores", "[I", true)
  | _ => ("WorstVoice$Hearsay", "size", "I", false)
def tyX4 : Nat → FieldType := fun k => match k with
  | 0 => .array .int
  | 1 => .array .int
  | 2 => .array .int
  | 3 => .array .int
  | _ => .int
abbrev wsX40 : List Cond := u_ws RX4 TX4 5
theorem nmX4 : ∀ a, a < 5 → ∀ b, b < 5 → a ≠ b → (TX4 a).2.1 ≠ (TX4 b).2.1 := by decide +kernel
theorem tyX4_ok : ∀ k, k < 5 → parseFieldDescriptor (TX4 k).2.2.1 = some (tyX4 k) := by decide +kernel
abbrev cX4_init : ByteArray := prog_6_method_1_code
def yX4_init : MethodName := ⟨RX4, "<init>", "()V"⟩
abbrev cX4_add : ByteArray := prog_6_method_2_code
def yX4_add : MethodName := ⟨RX4, "add", "(IIIZ)Z"⟩
abbrev cX4_clear : ByteArray := prog_6_method_3_code
def yX4_clear : MethodName := ⟨RX4, "clear", "()I"⟩
abbrev cX4_takeFrom : ByteArray := prog_6_method_4_code
def yX4_takeFrom : MethodName := ⟨RX4, "takeFrom", "(LWorstVoice$Hearsay;)V"⟩
abbrev cX4_wouldBeSo : ByteArray := prog_6_method_5_code
def yX4_wouldBeSo : MethodName := ⟨RX4, "wouldBeSo", "(LWorstVoice$Choir;II)Z"⟩
def RX5 : String := "WorstVoice$Page"
def TX5 : u_T := fun k => match k with
  | 0 => ("WorstVoice$Page", "codes", "[I", true)
  | _ => ("WorstVoice$Page", "length", "I", false)
def tyX5 : Nat → FieldType := fun k => match k with
  | 0 => .array .int
  | _ => .int
abbrev wsX50 : List Cond := u_ws RX5 TX5 2
theorem nmX5 : ∀ a, a < 2 → ∀ b, b < 2 → a ≠ b → (TX5 a).2.1 ≠ (TX5 b).2.1 := by decide +kernel
theorem tyX5_ok : ∀ k, k < 2 → parseFieldDescriptor (TX5 k).2.2.1 = some (tyX5 k) := by decide +kernel
abbrev cX5_init : ByteArray := prog_7_method_1_code
def yX5_init : MethodName := ⟨RX5, "<init>", "()V"⟩
abbrev cX5_write : ByteArray := prog_7_method_2_code
def yX5_write : MethodName := ⟨RX5, "write", "(I)Z"⟩
abbrev cX5_wipe : ByteArray := prog_7_method_3_code
def yX5_wipe : MethodName := ⟨RX5, "wipe", "()I"⟩
abbrev cX5_codeAt : ByteArray := prog_7_method_4_code
def yX5_codeAt : MethodName := ⟨RX5, "codeAt", "(I)I"⟩
abbrev cX5_digitAt : ByteArray := prog_7_method_5_code
def yX5_digitAt : MethodName := ⟨RX5, "digitAt", "(I)I"⟩
abbrev cX5_kindAt : ByteArray := prog_7_method_6_code
def yX5_kindAt : MethodName := ⟨RX5, "kindAt", "(I)I"⟩
abbrev cX5_firstWrong : ByteArray := prog_7_method_7_code
def yX5_firstWrong : MethodName := ⟨RX5, "firstWrong", "()I"⟩
abbrev cX5_isWhole : ByteArray := prog_7_method_8_code
def yX5_isWhole : MethodName := ⟨RX5, "isWhole", "()Z"⟩
abbrev cX5_singersEnd : ByteArray := prog_7_method_9_code
def yX5_singersEnd : MethodName := ⟨RX5, "singersEnd", "()I"⟩
abbrev cX5_fitsSingers : ByteArray := prog_7_method_10_code
def yX5_fitsSingers : MethodName := ⟨RX5, "fitsSingers", "(II)Z"⟩
abbrev cX5_fitsWidows : ByteArray := prog_7_method_11_code
def yX5_fitsWidows : MethodName := ⟨RX5, "fitsWidows", "(II)Z"⟩
abbrev cX5_kindOf : ByteArray := prog_7_method_12_code
def yX5_kindOf : MethodName := ⟨RX5, "kindOf", "(I)I"⟩
def RX6 : String := "WorstVoice$Singer"
def TX6 : u_T := fun k => match k with
  | _ => ("", "", "", false)
def tyX6 : Nat → FieldType := fun k => match k with
  | _ => .int
abbrev wsX60 : List Cond := u_ws RX6 TX6 0
theorem nmX6 : ∀ a, a < 0 → ∀ b, b < 0 → a ≠ b → (TX6 a).2.1 ≠ (TX6 b).2.1 := by decide +kernel
theorem tyX6_ok : ∀ k, k < 0 → parseFieldDescriptor (TX6 k).2.2.1 = some (tyX6 k) := by decide +kernel
abbrev cX6_init : ByteArray := prog_8_method_1_code
def yX6_init : MethodName := ⟨RX6, "<init>", "()V"⟩
abbrev cX6_number : ByteArray := prog_8_method_2_code
def yX6_number : MethodName := ⟨RX6, "number", "()I"⟩
abbrev cX6_plainBad : ByteArray := prog_8_method_3_code
def yX6_plainBad : MethodName := ⟨RX6, "plainBad", "(II)I"⟩
abbrev cX6_practised : ByteArray := prog_8_method_4_code
def yX6_practised : MethodName := ⟨RX6, "practised", "(I)I"⟩
def RX7 : String := "WorstVoice$Tenor"
def TX7 : u_T := fun k => match k with
  | _ => ("", "", "", false)
def tyX7 : Nat → FieldType := fun k => match k with
  | _ => .int
abbrev wsX70 : List Cond := u_ws RX7 TX7 0
theorem nmX7 : ∀ a, a < 0 → ∀ b, b < 0 → a ≠ b → (TX7 a).2.1 ≠ (TX7 b).2.1 := by decide +kernel
theorem tyX7_ok : ∀ k, k < 0 → parseFieldDescriptor (TX7 k).2.2.1 = some (tyX7 k) := by decide +kernel
abbrev cX7_init : ByteArray := prog_9_method_1_code
def yX7_init : MethodName := ⟨RX7, "<init>", "()V"⟩
abbrev cX7_number : ByteArray := prog_9_method_2_code
def yX7_number : MethodName := ⟨RX7, "number", "()I"⟩
abbrev cX7_plainBad : ByteArray := prog_9_method_3_code
def yX7_plainBad : MethodName := ⟨RX7, "plainBad", "(II)I"⟩
def RX8 : String := "WorstVoice$Voices"
def TX8 : u_T := fun k => match k with
  | 0 => ("WorstVoice$Voices", "plain", "LWorstVoice$Singer;", true)
  | 1 => ("WorstVoice$Voices", "tenor", "LWorstVoice$Tenor;", true)
  | 2 => ("WorstVoice$Voices", "boy", "LWorstVoice$Boy;", true)
  | 3 => ("WorstVoice$Voices", "deaf", "LWorstVoice$Deaf;", true)
  | _ => ("WorstVoice$Voices", "chorister", "LWorstVoice$Chorister;", true)
def tyX8 : Nat → FieldType := fun k => match k with
  | 0 => .object "WorstVoice$Singer"
  | 1 => .object "WorstVoice$Tenor"
  | 2 => .object "WorstVoice$Boy"
  | 3 => .object "WorstVoice$Deaf"
  | _ => .object "WorstVoice$Chorister"
abbrev wsX80 : List Cond := u_ws RX8 TX8 5
theorem nmX8 : ∀ a, a < 5 → ∀ b, b < 5 → a ≠ b → (TX8 a).2.1 ≠ (TX8 b).2.1 := by decide +kernel
theorem tyX8_ok : ∀ k, k < 5 → parseFieldDescriptor (TX8 k).2.2.1 = some (tyX8 k) := by decide +kernel
abbrev cX8_init : ByteArray := prog_10_method_1_code
def yX8_init : MethodName := ⟨RX8, "<init>", "()V"⟩
abbrev cX8_ofKind : ByteArray := prog_10_method_2_code
def yX8_ofKind : MethodName := ⟨RX8, "ofKind", "(I)LWorstVoice$Singer;"⟩
def RX9 : String := "WorstVoice"
def TX9 : u_T := fun k => match k with
  | 0 => ("WorstVoice", "page", "LWorstVoice$Page;", true)
  | 1 => ("WorstVoice", "choir", "LWorstVoice$Choir;", true)
  | 2 => ("WorstVoice", "keptChoir", "LWorstVoice$Choir;", true)
  | 3 => ("WorstVoice", "trial", "LWorstVoice$Choir;", true)
  | 4 => ("WorstVoice", "hearsay", "LWorstVoice$Hearsay;", true)
  | 5 => ("WorstVoice", "keptHearsay", "LWorstVoice$Hearsay;", true)
  | 6 => ("WorstVoice", "pouring", "[I", true)
  | 7 => ("WorstVoice", "poured", "[I", true)
  | 8 => ("WorstVoice", "imageKept", "Z", false)
  | 9 => ("WorstVoice", "townsRead", "I", false)
  | _ => ("WorstVoice", "needsDone", "I", false)
def tyX9 : Nat → FieldType := fun k => match k with
  | 0 => .object "WorstVoice$Page"
  | 1 => .object "WorstVoice$Choir"
  | 2 => .object "WorstVoice$Choir"
  | 3 => .object "WorstVoice$Choir"
  | 4 => .object "WorstVoice$Hearsay"
  | 5 => .object "WorstVoice$Hearsay"
  | 6 => .array .int
  | 7 => .array .int
  | 8 => .boolean
  | 9 => .int
  | _ => .int
abbrev wsX90 : List Cond := u_ws RX9 TX9 11
theorem nmX9 : ∀ a, a < 11 → ∀ b, b < 11 → a ≠ b → (TX9 a).2.1 ≠ (TX9 b).2.1 := by decide +kernel
theorem tyX9_ok : ∀ k, k < 11 → parseFieldDescriptor (TX9 k).2.2.1 = some (tyX9 k) := by decide +kernel
abbrev cX9_init : ByteArray := prog_1_method_1_code
def yX9_init : MethodName := ⟨RX9, "<init>", "()V"⟩
abbrev cX9_letter : ByteArray := prog_1_method_2_code
def yX9_letter : MethodName := ⟨RX9, "letter", "(I)I"⟩
abbrev cX9_blank : ByteArray := prog_1_method_3_code
def yX9_blank : MethodName := ⟨RX9, "blank", "()I"⟩
abbrev cX9_fault : ByteArray := prog_1_method_4_code
def yX9_fault : MethodName := ⟨RX9, "fault", "()I"⟩
abbrev cX9_town : ByteArray := prog_1_method_5_code
def yX9_town : MethodName := ⟨RX9, "town", "()I"⟩
abbrev cX9_singer : ByteArray := prog_1_method_6_code
def yX9_singer : MethodName := ⟨RX9, "singer", "(II)I"⟩
abbrev cX9_as : ByteArray := prog_1_method_7_code
def yX9_as : MethodName := ⟨RX9, "as", "(II)I"⟩
abbrev cX9_widow : ByteArray := prog_1_method_8_code
def yX9_widow : MethodName := ⟨RX9, "widow", "(II)I"⟩
abbrev cX9_wince : ByteArray := prog_1_method_9_code
def yX9_wince : MethodName := ⟨RX9, "wince", "(II)I"⟩
abbrev cX9_cold : ByteArray := prog_1_method_10_code
def yX9_cold : MethodName := ⟨RX9, "cold", "(IZ)I"⟩
abbrev cX9_aisle : ByteArray := prog_1_method_11_code
def yX9_aisle : MethodName := ⟨RX9, "aisle", "(IZ)I"⟩
abbrev cX9_honey : ByteArray := prog_1_method_12_code
def yX9_honey : MethodName := ⟨RX9, "honey", "(II)I"⟩
abbrev cX9_practise : ByteArray := prog_1_method_13_code
def yX9_practise : MethodName := ⟨RX9, "practise", "(I)I"⟩
abbrev cX9_mayor : ByteArray := prog_1_method_14_code
def yX9_mayor : MethodName := ⟨RX9, "mayor", "()I"⟩
abbrev cX9_need : ByteArray := prog_1_method_15_code
def yX9_need : MethodName := ⟨RX9, "need", "(II)I"⟩
abbrev cX9_hear : ByteArray := prog_1_method_16_code
def yX9_hear : MethodName := ⟨RX9, "hear", "(IIIZ)I"⟩
abbrev cX9_forget : ByteArray := prog_1_method_17_code
def yX9_forget : MethodName := ⟨RX9, "forget", "()I"⟩
abbrev cX9_years : ByteArray := prog_1_method_18_code
def yX9_years : MethodName := ⟨RX9, "years", "(III)I"⟩
abbrev cX9_image : ByteArray := prog_1_method_19_code
def yX9_image : MethodName := ⟨RX9, "image", "()I"⟩
abbrev cX9_restore : ByteArray := prog_1_method_20_code
def yX9_restore : MethodName := ⟨RX9, "restore", "()I"⟩
abbrev cX9_count : ByteArray := prog_1_method_21_code
def yX9_count : MethodName := ⟨RX9, "count", "(I)I"⟩
abbrev cX9_digest : ByteArray := prog_1_method_22_code
def yX9_digest : MethodName := ⟨RX9, "digest", "()J"⟩
abbrev cX9_mix : ByteArray := prog_1_method_23_code
def yX9_mix : MethodName := ⟨RX9, "mix", "(JJ)J"⟩
abbrev cX9_singersFault : ByteArray := prog_1_method_24_code
def yX9_singersFault : MethodName := ⟨RX9, "singersFault", "(II)I"⟩
abbrev cX9_isOfKind : ByteArray := prog_1_method_25_code
def yX9_isOfKind : MethodName := ⟨RX9, "isOfKind", "(LWorstVoice$Singer;I)Z"⟩
abbrev cX9_worstAndVotes : ByteArray := prog_1_method_26_code
def yX9_worstAndVotes : MethodName := ⟨RX9, "worstAndVotes", "(I)I"⟩
abbrev cX9_pourLeast : ByteArray := prog_1_method_27_code
def yX9_pourLeast : MethodName := ⟨RX9, "pourLeast", "(I)I"⟩
abbrev cX9_pour : ByteArray := prog_1_method_28_code
def yX9_pour : MethodName := ⟨RX9, "pour", "(II)I"⟩
abbrev cX9_canMind : ByteArray := prog_1_method_29_code
def yX9_canMind : MethodName := ⟨RX9, "canMind", "(I)I"⟩
abbrev cX9_bestAsk : ByteArray := prog_1_method_30_code
def yX9_bestAsk : MethodName := ⟨RX9, "bestAsk", "(I)I"⟩
abbrev cX9_leftAtWorst : ByteArray := prog_1_method_31_code
def yX9_leftAtWorst : MethodName := ⟨RX9, "leftAtWorst", "(III)I"⟩
abbrev cX9_copyRow : ByteArray := prog_1_method_32_code
def yX9_copyRow : MethodName := ⟨RX9, "copyRow", "([I[I)V"⟩
abbrev cX9_nextSeed : ByteArray := prog_1_method_33_code
def yX9_nextSeed : MethodName := ⟨RX9, "nextSeed", "(I)I"⟩
abbrev cX9_drawn : ByteArray := prog_1_method_34_code
def yX9_drawn : MethodName := ⟨RX9, "drawn", "(II)I"⟩
def RX10 : String := "WorstVoiceModel"
def TX10 : u_T := fun k => match k with
  | 0 => ("WorstVoiceModel", "page", "[I", true)
  | 1 => ("WorstVoiceModel", "pageMany", "I", false)
  | 2 => ("WorstVoiceModel", "read", "[I", true)
  | 3 => ("WorstVoiceModel", "readSingers", "I", false)
  | 4 => ("WorstVoiceModel", "readMinds", "[I", true)
  | 5 => ("WorstVoiceModel", "readWidows", "I", false)
  | 6 => ("WorstVoiceModel", "state", "I", false)
  | 7 => ("WorstVoiceModel", "singers", "I", false)
  | 8 => ("WorstVoiceModel", "widows", "I", false)
  | 9 => ("WorstVoiceModel", "weeks", "I", false)
  | 10 => ("WorstVoiceModel", "townsRead", "I", false)
  | 11 => ("WorstVoiceModel", "rows", "[I", true)
  | 12 => ("WorstVoiceModel", "minds", "[I", true)
  | 13 => ("WorstVoiceModel", "needMany", "I", false)
  | 14 => ("WorstVoiceModel", "more", "[I", true)
  | 15 => ("WorstVoiceModel", "bestMore", "[I", true)
  | 16 => ("WorstVoiceModel", "heardMany", "I", false)
  | 17 => ("WorstVoiceModel", "heards", "[I", true)
  | 18 => ("WorstVoiceModel", "seedNow", "I", false)
  | 19 => ("WorstVoiceModel", "savedRows", "[I", true)
  | 20 => ("WorstVoiceModel", "keptTown", "I", false)
  | 21 => ("WorstVoiceModel", "keptWeeks", "I", false)
  | 22 => ("WorstVoiceModel", "keptHeard", "I", false)
  | 23 => ("WorstVoiceModel", "keptRows", "[I", true)
  | 24 => ("WorstVoiceModel", "keptHeards", "[I", true)
  | _ => ("WorstVoiceModel", "hash", "J", false)
def tyX10 : Nat → FieldType := fun k => match k with
  | 0 => .array .int
  | 1 => .int
  | 2 => .array .int
  | 3 => .int
  | 4 => .array .int
  | 5 => .int
  | 6 => .int
  | 7 => .int
  | 8 => .int
  | 9 => .int
  | 10 => .int
  | 11 => .array .int
  | 12 => .array .int
  | 13 => .int
  | 14 => .array .int
  | 15 => .array .int
  | 16 => .int
  | 17 => .array .int
  | 18 => .int
  | 19 => .array .int
  | 20 => .int
  | 21 => .int
  | 22 => .int
  | 23 => .array .int
  | 24 => .array .int
  | _ => .long
abbrev wsX100 : List Cond := u_ws RX10 TX10 26
theorem nmX10 : ∀ a, a < 26 → ∀ b, b < 26 → a ≠ b → (TX10 a).2.1 ≠ (TX10 b).2.1 := by decide +kernel
theorem tyX10_ok : ∀ k, k < 26 → parseFieldDescriptor (TX10 k).2.2.1 = some (tyX10 k) := by decide +kernel
abbrev cX10_init : ByteArray := prog_12_method_1_code
def yX10_init : MethodName := ⟨RX10, "<init>", "()V"⟩
abbrev cX10_in : ByteArray := prog_12_method_2_code
def yX10_in : MethodName := ⟨RX10, "in", "(JJJ)Z"⟩
abbrev cX10_copy : ByteArray := prog_12_method_3_code
def yX10_copy : MethodName := ⟨RX10, "copy", "([I[I)V"⟩
abbrev cX10_letter : ByteArray := prog_12_method_4_code
def yX10_letter : MethodName := ⟨RX10, "letter", "(I)I"⟩
abbrev cX10_blank : ByteArray := prog_12_method_5_code
def yX10_blank : MethodName := ⟨RX10, "blank", "()I"⟩
abbrev cX10_kindBy : ByteArray := prog_12_method_6_code
def yX10_kindBy : MethodName := ⟨RX10, "kindBy", "(I)I"⟩
abbrev cX10_go : ByteArray := prog_12_method_7_code
def yX10_go : MethodName := ⟨RX10, "go", "(I)Z"⟩
abbrev cX10_faultOf : ByteArray := prog_12_method_8_code
def yX10_faultOf : MethodName := ⟨RX10, "faultOf", "()I"⟩
abbrev cX10_fault : ByteArray := prog_12_method_9_code
def yX10_fault : MethodName := ⟨RX10, "fault", "()I"⟩
abbrev cX10_town : ByteArray := prog_12_method_10_code
def yX10_town : MethodName := ⟨RX10, "town", "()I"⟩
abbrev cX10_isSinger : ByteArray := prog_12_method_11_code
def yX10_isSinger : MethodName := ⟨RX10, "isSinger", "(I)Z"⟩
abbrev cX10_isWidow : ByteArray := prog_12_method_12_code
def yX10_isWidow : MethodName := ⟨RX10, "isWidow", "(I)Z"⟩
abbrev cX10_badOf : ByteArray := prog_12_method_13_code
def yX10_badOf : MethodName := ⟨RX10, "badOf", "(II)I"⟩
abbrev cX10_forWhom : ByteArray := prog_12_method_14_code
def yX10_forWhom : MethodName := ⟨RX10, "forWhom", "(I)I"⟩
abbrev cX10_votesOf : ByteArray := prog_12_method_15_code
def yX10_votesOf : MethodName := ⟨RX10, "votesOf", "(I)I"⟩
abbrev cX10_mayorOf : ByteArray := prog_12_method_16_code
def yX10_mayorOf : MethodName := ⟨RX10, "mayorOf", "()I"⟩
abbrev cX10_worstOf : ByteArray := prog_12_method_17_code
def yX10_worstOf : MethodName := ⟨RX10, "worstOf", "(II)I"⟩
abbrev cX10_tell : ByteArray := prog_12_method_18_code
def yX10_tell : MethodName := ⟨RX10, "tell", "(II)I"⟩
abbrev cX10_singer : ByteArray := prog_12_method_19_code
def yX10_singer : MethodName := ⟨RX10, "singer", "(II)I"⟩
abbrev cX10_as : ByteArray := prog_12_method_20_code
def yX10_as : MethodName := ⟨RX10, "as", "(II)I"⟩
abbrev cX10_tellWidow : ByteArray := prog_12_method_21_code
def yX10_tellWidow : MethodName := ⟨RX10, "tellWidow", "(II)I"⟩
abbrev cX10_widow : ByteArray := prog_12_method_22_code
def yX10_widow : MethodName := ⟨RX10, "widow", "(II)I"⟩
abbrev cX10_wince : ByteArray := prog_12_method_23_code
def yX10_wince : MethodName := ⟨RX10, "wince", "(II)I"⟩
abbrev cX10_cold : ByteArray := prog_12_method_24_code
def yX10_cold : MethodName := ⟨RX10, "cold", "(IZ)I"⟩
abbrev cX10_aisle : ByteArray := prog_12_method_25_code
def yX10_aisle : MethodName := ⟨RX10, "aisle", "(IZ)I"⟩
abbrev cX10_honey : ByteArray := prog_12_method_26_code
def yX10_honey : MethodName := ⟨RX10, "honey", "(II)I"⟩
abbrev cX10_weekOf : ByteArray := prog_12_method_27_code
def yX10_weekOf : MethodName := ⟨RX10, "weekOf", "(I)I"⟩
abbrev cX10_practise : ByteArray := prog_12_method_28_code
def yX10_practise : MethodName := ⟨RX10, "practise", "(I)I"⟩
abbrev cX10_mayor : ByteArray := prog_12_method_29_code
def yX10_mayor : MethodName := ⟨RX10, "mayor", "()I"⟩
abbrev cX10_layMore : ByteArray := prog_12_method_30_code
def yX10_layMore : MethodName := ⟨RX10, "layMore", "(II)Z"⟩
abbrev cX10_layNeed : ByteArray := prog_12_method_31_code
def yX10_layNeed : MethodName := ⟨RX10, "layNeed", "(I)I"⟩
abbrev cX10_need : ByteArray := prog_12_method_32_code
def yX10_need : MethodName := ⟨RX10, "need", "(II)I"⟩
abbrev cX10_hear : ByteArray := prog_12_method_33_code
def yX10_hear : MethodName := ⟨RX10, "hear", "(IIIZ)I"⟩
abbrev cX10_forget : ByteArray := prog_12_method_34_code
def yX10_forget : MethodName := ⟨RX10, "forget", "()I"⟩
abbrev cX10_isMore : ByteArray := prog_12_method_35_code
def yX10_isMore : MethodName := ⟨RX10, "isMore", "(III)I"⟩
abbrev cX10_mindsOf : ByteArray := prog_12_method_36_code
def yX10_mindsOf : MethodName := ⟨RX10, "mindsOf", "(I)I"⟩
abbrev cX10_askOf : ByteArray := prog_12_method_37_code
def yX10_askOf : MethodName := ⟨RX10, "askOf", "(I)I"⟩
abbrev cX10_draw : ByteArray := prog_12_method_38_code
def yX10_draw : MethodName := ⟨RX10, "draw", "(I)I"⟩
abbrev cX10_years : ByteArray := prog_12_method_39_code
def yX10_years : MethodName := ⟨RX10, "years", "(III)I"⟩
abbrev cX10_image : ByteArray := prog_12_method_40_code
def yX10_image : MethodName := ⟨RX10, "image", "()I"⟩
abbrev cX10_restore : ByteArray := prog_12_method_41_code
def yX10_restore : MethodName := ⟨RX10, "restore", "()I"⟩
abbrev cX10_sumAt : ByteArray := prog_12_method_42_code
def yX10_sumAt : MethodName := ⟨RX10, "sumAt", "(I)I"⟩
abbrev cX10_countOf : ByteArray := prog_12_method_43_code
def yX10_countOf : MethodName := ⟨RX10, "countOf", "(I)I"⟩
abbrev cX10_count : ByteArray := prog_12_method_44_code
def yX10_count : MethodName := ⟨RX10, "count", "(I)I"⟩
abbrev cX10_say : ByteArray := prog_12_method_45_code
def yX10_say : MethodName := ⟨RX10, "say", "(J)V"⟩
abbrev cX10_saySinger : ByteArray := prog_12_method_46_code
def yX10_saySinger : MethodName := ⟨RX10, "saySinger", "(I)V"⟩
abbrev cX10_sayWidow : ByteArray := prog_12_method_47_code
def yX10_sayWidow : MethodName := ⟨RX10, "sayWidow", "(I)V"⟩
abbrev cX10_digest : ByteArray := prog_12_method_48_code
def yX10_digest : MethodName := ⟨RX10, "digest", "()J"⟩
def RJ11 : String := "java/lang/Character"
def TJ11 : u_T := fun k => match k with
  | _ => ("", "", "", false)
def tyJ11 : Nat → FieldType := fun k => match k with
  | _ => .int
abbrev wsJ110 : List Cond := u_ws RJ11 TJ11 0
theorem nmJ11 : ∀ a, a < 0 → ∀ b, b < 0 → a ≠ b → (TJ11 a).2.1 ≠ (TJ11 b).2.1 := by decide +kernel
theorem tyJ11_ok : ∀ k, k < 0 → parseFieldDescriptor (TJ11 k).2.2.1 = some (tyJ11 k) := by decide +kernel
abbrev cJ11_isValidCodePoint_9a6ad : ByteArray := prog_13_method_11_code
def yJ11_isValidCodePoint_9a6ad : MethodName := ⟨RJ11, "isValidCodePoint", "(I)Z"⟩
abbrev cJ11_highSurrogate_5068e : ByteArray := prog_13_method_28_code
def yJ11_highSurrogate_5068e : MethodName := ⟨RJ11, "highSurrogate", "(I)C"⟩
abbrev cJ11_lowSurrogate_5068e : ByteArray := prog_13_method_29_code
def yJ11_lowSurrogate_5068e : MethodName := ⟨RJ11, "lowSurrogate", "(I)C"⟩
def RJ6 : String := "java/lang/Integer"
def TJ6 : u_T := fun k => match k with
  | _ => ("", "", "", false)
def tyJ6 : Nat → FieldType := fun k => match k with
  | _ => .int
abbrev wsJ60 : List Cond := u_ws RJ6 TJ6 0
theorem nmJ6 : ∀ a, a < 0 → ∀ b, b < 0 → a ≠ b → (TJ6 a).2.1 ≠ (TJ6 b).2.1 := by decide +kernel
theorem tyJ6_ok : ∀ k, k < 0 → parseFieldDescriptor (TJ6 k).2.2.1 = some (tyJ6 k) := by decide +kernel
abbrev cJ6_bitCount_0f7a4 : ByteArray := prog_14_method_49_code
def yJ6_bitCount_0f7a4 : MethodName := ⟨RJ6, "bitCount", "(I)I"⟩
def RJ9 : String := "java/lang/Math"
def TJ9 : u_T := fun k => match k with
  | _ => ("", "", "", false)
def tyJ9 : Nat → FieldType := fun k => match k with
  | _ => .int
abbrev wsJ90 : List Cond := u_ws RJ9 TJ9 0
theorem nmJ9 : ∀ a, a < 0 → ∀ b, b < 0 → a ≠ b → (TJ9 a).2.1 ≠ (TJ9 b).2.1 := by decide +kernel
theorem tyJ9_ok : ∀ k, k < 0 → parseFieldDescriptor (TJ9 k).2.2.1 = some (tyJ9 k) := by decide +kernel
abbrev cJ9_max_7cf53 : ByteArray := prog_15_method_65_code
def yJ9_max_7cf53 : MethodName := ⟨RJ9, "max", "(II)I"⟩
abbrev cJ9_min_7cf53 : ByteArray := prog_15_method_69_code
def yJ9_min_7cf53 : MethodName := ⟨RJ9, "min", "(II)I"⟩
def RJ0 : String := "java/lang/String"
def TJ0 : u_T := fun k => match k with
  | _ => ("", "", "", false)
def tyJ0 : Nat → FieldType := fun k => match k with
  | _ => .int
abbrev wsJ00 : List Cond := u_ws RJ0 TJ0 0
theorem nmJ0 : ∀ a, a < 0 → ∀ b, b < 0 → a ≠ b → (TJ0 a).2.1 ≠ (TJ0 b).2.1 := by decide +kernel
theorem tyJ0_ok : ∀ k, k < 0 → parseFieldDescriptor (TJ0 k).2.2.1 = some (tyJ0 k) := by decide +kernel
abbrev cJ0_length_8abf5 : ByteArray := prog_16_method_54_code
def yJ0_length_8abf5 : MethodName := ⟨RJ0, "length", "()I"⟩
abbrev cJ0_indexOf_0f7a4 : ByteArray := prog_16_method_79_code
def yJ0_indexOf_0f7a4 : MethodName := ⟨RJ0, "indexOf", "(I)I"⟩
abbrev cJ0_indexOf_7cf53 : ByteArray := prog_16_method_80_code
def yJ0_indexOf_7cf53 : MethodName := ⟨RJ0, "indexOf", "(II)I"⟩
abbrev cJ0_coder_7d493 : ByteArray := prog_16_method_152_code
def yJ0_coder_7d493 : MethodName := ⟨RJ0, "coder", "()B"⟩
abbrev cJ0_isLatin1_aae02 : ByteArray := prog_16_method_154_code
def yJ0_isLatin1_aae02 : MethodName := ⟨RJ0, "isLatin1", "()Z"⟩
abbrev cJ0_checkBoundsBeginEnd_23922 : ByteArray := prog_16_method_158_code
def yJ0_checkBoundsBeginEnd_23922 : MethodName := ⟨RJ0, "checkBoundsBeginEnd", "(III)V"⟩
def RJ1 : String := "java/lang/StringLatin1"
def TJ1 : u_T := fun k => match k with
  | _ => ("", "", "", false)
def tyJ1 : Nat → FieldType := fun k => match k with
  | _ => .int
abbrev wsJ10 : List Cond := u_ws RJ1 TJ1 0
theorem nmJ1 : ∀ a, a < 0 → ∀ b, b < 0 → a ≠ b → (TJ1 a).2.1 ≠ (TJ1 b).2.1 := by decide +kernel
theorem tyJ1_ok : ∀ k, k < 0 → parseFieldDescriptor (TJ1 k).2.2.1 = some (tyJ1 k) := by decide +kernel
abbrev cJ1_canEncode_9a6ad : ByteArray := prog_17_method_4_code
def yJ1_canEncode_9a6ad : MethodName := ⟨RJ1, "canEncode", "(I)Z"⟩
abbrev cJ1_indexOf_4cfef : ByteArray := prog_17_method_22_code
def yJ1_indexOf_4cfef : MethodName := ⟨RJ1, "indexOf", "([BIII)I"⟩
abbrev cJ1_indexOfChar_4cfef : ByteArray := prog_17_method_23_code
def yJ1_indexOfChar_4cfef : MethodName := ⟨RJ1, "indexOfChar", "([BIII)I"⟩
def RJ2 : String := "java/lang/StringUTF16"
def TJ2 : u_T := fun k => match k with
  | _ => ("", "", "", false)
def tyJ2 : Nat → FieldType := fun k => match k with
  | _ => .int
abbrev wsJ20 : List Cond := u_ws RJ2 TJ2 0
theorem nmJ2 : ∀ a, a < 0 → ∀ b, b < 0 → a ≠ b → (TJ2 a).2.1 ≠ (TJ2 b).2.1 := by decide +kernel
theorem tyJ2_ok : ∀ k, k < 0 → parseFieldDescriptor (TJ2 k).2.2.1 = some (tyJ2 k) := by decide +kernel
abbrev cJ2_getChar_3b067 : ByteArray := prog_18_method_5_code
def yJ2_getChar_3b067 : MethodName := ⟨RJ2, "getChar", "([BI)C"⟩
abbrev cJ2_length_9d52b : ByteArray := prog_18_method_6_code
def yJ2_length_9d52b : MethodName := ⟨RJ2, "length", "([B)I"⟩
abbrev cJ2_indexOf_4cfef : ByteArray := prog_18_method_40_code
def yJ2_indexOf_4cfef : MethodName := ⟨RJ2, "indexOf", "([BIII)I"⟩
abbrev cJ2_indexOfChar_4cfef : ByteArray := prog_18_method_47_code
def yJ2_indexOfChar_4cfef : MethodName := ⟨RJ2, "indexOfChar", "([BIII)I"⟩
abbrev cJ2_indexOfCharUnsafe_4cfef : ByteArray := prog_18_method_48_code
def yJ2_indexOfCharUnsafe_4cfef : MethodName := ⟨RJ2, "indexOfCharUnsafe", "([BIII)I"⟩
abbrev cJ2_indexOfSupplementary_4cfef : ByteArray := prog_18_method_49_code
def yJ2_indexOfSupplementary_4cfef : MethodName := ⟨RJ2, "indexOfSupplementary", "([BIII)I"⟩
abbrev cJ2_checkBoundsBeginEnd_d044e : ByteArray := prog_18_method_93_code
def yJ2_checkBoundsBeginEnd_d044e : MethodName := ⟨RJ2, "checkBoundsBeginEnd", "(II[B)V"⟩
def RJ10 : String := "java/lang/System"
def TJ10 : u_T := fun k => match k with
  | _ => ("", "", "", false)
def tyJ10 : Nat → FieldType := fun k => match k with
  | _ => .int
abbrev wsJ100 : List Cond := u_ws RJ10 TJ10 0
theorem nmJ10 : ∀ a, a < 0 → ∀ b, b < 0 → a ≠ b → (TJ10 a).2.1 ≠ (TJ10 b).2.1 := by decide +kernel
theorem tyJ10_ok : ∀ k, k < 0 → parseFieldDescriptor (TJ10 k).2.2.1 = some (tyJ10 k) := by decide +kernel
def RJ3 : String := "jdk/internal/util/Preconditions"
def TJ3 : u_T := fun k => match k with
  | _ => ("", "", "", false)
def tyJ3 : Nat → FieldType := fun k => match k with
  | _ => .int
abbrev wsJ30 : List Cond := u_ws RJ3 TJ3 0
theorem nmJ3 : ∀ a, a < 0 → ∀ b, b < 0 → a ≠ b → (TJ3 a).2.1 ≠ (TJ3 b).2.1 := by decide +kernel
theorem tyJ3_ok : ∀ k, k < 0 → parseFieldDescriptor (TJ3 k).2.2.1 = some (tyJ3 k) := by decide +kernel
abbrev cJ3_checkFromToIndex_8c36e : ByteArray := prog_20_method_12_code
def yJ3_checkFromToIndex_8c36e : MethodName := ⟨RJ3, "checkFromToIndex", "(IIILjava/util/function/BiFunction;)I"⟩
def RL : String := "WorstVoiceLaw"
abbrev cL_law : ByteArray := code
def yL_law : MethodName := ⟨RL, "law", "([I)Z"⟩
def wsX6_init : List Cond := .code yX6_init cX6_init 1 none :: ([.methodLink RX6 3 objectInit, .instanceMethod objectInit, .code objectInit ⟨#[0xb1]⟩ 1 none])
def wsX0_init : List Cond := .code yX0_init cX0_init 1 none :: ([.instanceMethod yX6_init, .initialized RX6, .code yX6_init cX6_init 1 none, .methodLink RX6 3 objectInit, .instanceMethod objectInit, .code objectInit ⟨#[0xb1]⟩ 1 none])
def wsX0_number : List Cond := .code yX0_number cX0_number 1 (some .int) :: ([])
def wsX0_plainBad : List Cond := .code yX0_plainBad cX0_plainBad 3 (some .int) :: ([])
def wsX0_practised : List Cond := .code yX0_practised cX0_practised 2 (some .int) :: ([])
def wsX1_init : List Cond := .code yX1_init cX1_init 2 none :: ([.methodLink RX1 3 objectInit, .instanceMethod objectInit, .code objectInit ⟨#[0xb1]⟩ 1 none, .arrayClass .int, .fieldLink RX1 9 "WorstVoice$Choir" "kinds" "[I", .fieldLink RX1 15 "WorstVoice$Choir" "faults" "[I", .fieldLink RX1 18 "WorstVoice$Choir" "colds" "[I", .fieldLink RX1 21 "WorstVoice$Choir" "lefts" "[I", .fieldLink RX1 24 "WorstVoice$Choir" "honeys" "[I", .fieldLink RX1 27 "WorstVoice$Choir" "minded" "[I", .fieldLink RX1 30 "WorstVoice$Choir" "voices" "LWorstVoice$Voices;"] ++ wsX10)
def wsX5_codeAt : List Cond := .code yX5_codeAt cX5_codeAt 2 (some .int) :: ([.fieldLink RX5 15 "WorstVoice$Page" "length" "I", .fieldLink RX5 9 "WorstVoice$Page" "codes" "[I"] ++ wsX50)
def wsX5_singersEnd : List Cond := .code yX5_singersEnd cX5_singersEnd 2 (some .int) :: ([.fieldLink RX5 15 "WorstVoice$Page" "length" "I", .methodLink RX5 19 yX5_codeAt, .instanceMethod yX5_codeAt, .selects RX5 yX5_codeAt yX5_codeAt, .initialized RX5, .code yX5_codeAt cX5_codeAt 2 (some .int), .fieldLink RX5 9 "WorstVoice$Page" "codes" "[I"] ++ wsX50)
def wsX1_hasSinger : List Cond := .code yX1_hasSinger cX1_hasSinger 2 (some .boolean) :: ([.fieldLink RX1 46 "WorstVoice$Choir" "singers" "I"] ++ wsX10)
def wsJ0_isLatin1_aae02 : List Cond := .code yJ0_isLatin1_aae02 cJ0_isLatin1_aae02 1 (some .boolean) :: ([.fieldLink RJ0 38 "java/lang/String" "COMPACT_STRINGS" "Z", .fieldLink RJ0 15 "java/lang/String" "coder" "B"])
def wsJ0_coder_7d493 : List Cond := .code yJ0_coder_7d493 cJ0_coder_7d493 1 (some .byte) :: ([.fieldLink RJ0 38 "java/lang/String" "COMPACT_STRINGS" "Z", .fieldLink RJ0 15 "java/lang/String" "coder" "B"])
def wsJ0_length_8abf5 : List Cond := .code yJ0_length_8abf5 cJ0_length_8abf5 1 (some .int) :: ([.fieldLink RJ0 9 "java/lang/String" "value" "[B", .methodLink RJ0 335 yJ0_coder_7d493, .instanceMethod yJ0_coder_7d493, .selects RJ0 yJ0_coder_7d493 yJ0_coder_7d493, .initialized RJ0, .code yJ0_coder_7d493 cJ0_coder_7d493 1 (some .byte), .fieldLink RJ0 38 "java/lang/String" "COMPACT_STRINGS" "Z", .fieldLink RJ0 15 "java/lang/String" "coder" "B"])
def wsJ1_canEncode_9a6ad : List Cond := .code yJ1_canEncode_9a6ad cJ1_canEncode_9a6ad 1 (some .boolean) :: ([])
def wsJ1_indexOfChar_4cfef : List Cond := .code yJ1_indexOfChar_4cfef cJ1_indexOfChar_4cfef 6 (some .int) :: ([])
def wsJ1_indexOf_4cfef : List Cond := .code yJ1_indexOf_4cfef cJ1_indexOf_4cfef 4 (some .int) :: ([.methodLink RJ1 92 Lib.Math.max.name, .static Lib.Math.max.name, .initialized "java/lang/Math", .code Lib.Math.max.name Lib.Math.max.code 2 (some .int), .methodLink RJ1 38 Lib.Math.min.name, .static Lib.Math.min.name, .code Lib.Math.min.name Lib.Math.min.code 2 (some .int), .methodLink RJ1 88 yJ1_canEncode_9a6ad, .static yJ1_canEncode_9a6ad, .initialized RJ1, .code yJ1_canEncode_9a6ad cJ1_canEncode_9a6ad 1 (some .boolean), .methodLink RJ1 95 yJ1_indexOfChar_4cfef, .static yJ1_indexOfChar_4cfef, .code yJ1_indexOfChar_4cfef cJ1_indexOfChar_4cfef 6 (some .int)])
def wsJ2_length_9d52b : List Cond := .code yJ2_length_9d52b cJ2_length_9d52b 1 (some .int) :: ([])
def wsJ3_checkFromToIndex_8c36e : List Cond := .code yJ3_checkFromToIndex_8c36e cJ3_checkFromToIndex_8c36e 4 (some .int) :: ([])
def wsJ0_checkBoundsBeginEnd_23922 : List Cond := .code yJ0_checkBoundsBeginEnd_23922 cJ0_checkBoundsBeginEnd_23922 3 none :: ([.fieldLink RJ0 1053 "jdk/internal/util/Preconditions" "SIOOBE_FORMATTER" "Ljava/util/function/BiFunction;", .methodLink RJ0 1062 yJ3_checkFromToIndex_8c36e, .static yJ3_checkFromToIndex_8c36e, .initialized RJ3, .code yJ3_checkFromToIndex_8c36e cJ3_checkFromToIndex_8c36e 4 (some .int)])
def wsJ2_checkBoundsBeginEnd_d044e : List Cond := .code yJ2_checkBoundsBeginEnd_d044e cJ2_checkBoundsBeginEnd_d044e 3 none :: ([.methodLink RJ2 48 yJ2_length_9d52b, .static yJ2_length_9d52b, .initialized RJ2, .code yJ2_length_9d52b cJ2_length_9d52b 1 (some .int), .methodLink RJ2 241 yJ0_checkBoundsBeginEnd_23922, .static yJ0_checkBoundsBeginEnd_23922, .initialized RJ0, .code yJ0_checkBoundsBeginEnd_23922 cJ0_checkBoundsBeginEnd_23922 3 none, .fieldLink RJ0 1053 "jdk/internal/util/Preconditions" "SIOOBE_FORMATTER" "Ljava/util/function/BiFunction;", .methodLink RJ0 1062 yJ3_checkFromToIndex_8c36e, .static yJ3_checkFromToIndex_8c36e, .initialized RJ3, .code yJ3_checkFromToIndex_8c36e cJ3_checkFromToIndex_8c36e 4 (some .int)])
def wsJ2_getChar_3b067 : List Cond := .code yJ2_getChar_3b067 cJ2_getChar_3b067 2 (some .char) :: ([.fieldLink RJ2 44 "java/lang/StringUTF16" "$assertionsDisabled" "Z", .fieldLink RJ2 59 "java/lang/StringUTF16" "HI_BYTE_SHIFT" "I", .fieldLink RJ2 63 "java/lang/StringUTF16" "LO_BYTE_SHIFT" "I", .methodLink RJ2 48 yJ2_length_9d52b, .static yJ2_length_9d52b, .initialized RJ2, .code yJ2_length_9d52b cJ2_length_9d52b 1 (some .int)])
def wsJ2_indexOfCharUnsafe_4cfef : List Cond := .code yJ2_indexOfCharUnsafe_4cfef cJ2_indexOfCharUnsafe_4cfef 5 (some .int) :: ([.methodLink RJ2 71 yJ2_getChar_3b067, .static yJ2_getChar_3b067, .initialized RJ2, .code yJ2_getChar_3b067 cJ2_getChar_3b067 2 (some .char), .fieldLink RJ2 44 "java/lang/StringUTF16" "$assertionsDisabled" "Z", .fieldLink RJ2 59 "java/lang/StringUTF16" "HI_BYTE_SHIFT" "I", .fieldLink RJ2 63 "java/lang/StringUTF16" "LO_BYTE_SHIFT" "I", .methodLink RJ2 48 yJ2_length_9d52b, .static yJ2_length_9d52b, .code yJ2_length_9d52b cJ2_length_9d52b 1 (some .int)])
def wsJ2_indexOfChar_4cfef_r1 : List Cond := [Cond.methodLink RJ2 96 yJ2_checkBoundsBeginEnd_d044e, Cond.static yJ2_checkBoundsBeginEnd_d044e, Cond.initialized RJ2, Cond.code yJ2_checkBoundsBeginEnd_d044e cJ2_checkBoundsBeginEnd_d044e 3 none, Cond.methodLink RJ2 48 yJ2_length_9d52b, Cond.static yJ2_length_9d52b, Cond.code yJ2_length_9d52b cJ2_length_9d52b 1 (some .int), Cond.methodLink RJ2 241 yJ0_checkBoundsBeginEnd_23922, Cond.static yJ0_checkBoundsBeginEnd_23922, Cond.initialized RJ0, Cond.code yJ0_checkBoundsBeginEnd_23922 cJ0_checkBoundsBeginEnd_23922 3 none, Cond.fieldLink RJ0 1053 "jdk/internal/util/Preconditions" "SIOOBE_FORMATTER" "Ljava/util/function/BiFunction;", Cond.methodLink RJ0 1062 yJ3_checkFromToIndex_8c36e, Cond.static yJ3_checkFromToIndex_8c36e, Cond.initialized RJ3, Cond.code yJ3_checkFromToIndex_8c36e cJ3_checkFromToIndex_8c36e 4 (some .int), Cond.methodLink RJ2 244 yJ2_indexOfCharUnsafe_4cfef, Cond.static yJ2_indexOfCharUnsafe_4cfef, Cond.code yJ2_indexOfCharUnsafe_4cfef cJ2_indexOfCharUnsafe_4cfef 5 (some .int), Cond.methodLink RJ2 71 yJ2_getChar_3b067, Cond.static yJ2_getChar_3b067, Cond.code yJ2_getChar_3b067 cJ2_getChar_3b067 2 (some .char), Cond.fieldLink RJ2 44 "java/lang/StringUTF16" "$assertionsDisabled" "Z", Cond.fieldLink RJ2 59 "java/lang/StringUTF16" "HI_BYTE_SHIFT" "I"]
def wsJ2_indexOfChar_4cfef_r2 : List Cond := [Cond.fieldLink RJ2 63 "java/lang/StringUTF16" "LO_BYTE_SHIFT" "I"]
def wsJ2_indexOfChar_4cfef : List Cond := .code yJ2_indexOfChar_4cfef cJ2_indexOfChar_4cfef 4 (some .int) :: ((wsJ2_indexOfChar_4cfef_r1 ++ wsJ2_indexOfChar_4cfef_r2))
def wsJ11_isValidCodePoint_9a6ad : List Cond := .code yJ11_isValidCodePoint_9a6ad cJ11_isValidCodePoint_9a6ad 2 (some .boolean) :: ([])
def wsJ11_highSurrogate_5068e : List Cond := .code yJ11_highSurrogate_5068e cJ11_highSurrogate_5068e 1 (some .char) :: ([.constant RJ11 110 (55232)])
def wsJ11_lowSurrogate_5068e : List Cond := .code yJ11_lowSurrogate_5068e cJ11_lowSurrogate_5068e 1 (some .char) :: ([.constant RJ11 76 (56320)])
def wsJ2_indexOfSupplementary_4cfef_r1 : List Cond := [Cond.methodLink RJ2 164 yJ11_isValidCodePoint_9a6ad, Cond.static yJ11_isValidCodePoint_9a6ad, Cond.initialized RJ11, Cond.code yJ11_isValidCodePoint_9a6ad cJ11_isValidCodePoint_9a6ad 2 (some .boolean), Cond.methodLink RJ2 157 yJ11_highSurrogate_5068e, Cond.static yJ11_highSurrogate_5068e, Cond.code yJ11_highSurrogate_5068e cJ11_highSurrogate_5068e 1 (some .char), Cond.constant RJ11 110 (55232), Cond.methodLink RJ2 161 yJ11_lowSurrogate_5068e, Cond.static yJ11_lowSurrogate_5068e, Cond.code yJ11_lowSurrogate_5068e cJ11_lowSurrogate_5068e 1 (some .char), Cond.constant RJ11 76 (56320), Cond.methodLink RJ2 96 yJ2_checkBoundsBeginEnd_d044e, Cond.static yJ2_checkBoundsBeginEnd_d044e, Cond.initialized RJ2, Cond.code yJ2_checkBoundsBeginEnd_d044e cJ2_checkBoundsBeginEnd_d044e 3 none, Cond.methodLink RJ2 48 yJ2_length_9d52b, Cond.static yJ2_length_9d52b, Cond.code yJ2_length_9d52b cJ2_length_9d52b 1 (some .int), Cond.methodLink RJ2 241 yJ0_checkBoundsBeginEnd_23922, Cond.static yJ0_checkBoundsBeginEnd_23922, Cond.initialized RJ0, Cond.code yJ0_checkBoundsBeginEnd_23922 cJ0_checkBoundsBeginEnd_23922 3 none, Cond.fieldLink RJ0 1053 "jdk/internal/util/Preconditions" "SIOOBE_FORMATTER" "Ljava/util/function/BiFunction;"]
def wsJ2_indexOfSupplementary_4cfef_r2 : List Cond := [Cond.methodLink RJ0 1062 yJ3_checkFromToIndex_8c36e, Cond.static yJ3_checkFromToIndex_8c36e, Cond.initialized RJ3, Cond.code yJ3_checkFromToIndex_8c36e cJ3_checkFromToIndex_8c36e 4 (some .int), Cond.methodLink RJ2 71 yJ2_getChar_3b067, Cond.static yJ2_getChar_3b067, Cond.code yJ2_getChar_3b067 cJ2_getChar_3b067 2 (some .char), Cond.fieldLink RJ2 44 "java/lang/StringUTF16" "$assertionsDisabled" "Z", Cond.fieldLink RJ2 59 "java/lang/StringUTF16" "HI_BYTE_SHIFT" "I", Cond.fieldLink RJ2 63 "java/lang/StringUTF16" "LO_BYTE_SHIFT" "I"]
def wsJ2_indexOfSupplementary_4cfef : List Cond := .code yJ2_indexOfSupplementary_4cfef cJ2_indexOfSupplementary_4cfef 7 (some .int) :: ((wsJ2_indexOfSupplementary_4cfef_r1 ++ wsJ2_indexOfSupplementary_4cfef_r2))
def wsJ2_indexOf_4cfef_r1 : List Cond := [Cond.methodLink RJ2 224 Lib.Math.max.name, Cond.static Lib.Math.max.name, Cond.initialized "java/lang/Math", Cond.code Lib.Math.max.name Lib.Math.max.code 2 (some .int), Cond.methodLink RJ2 183 Lib.Math.min.name, Cond.static Lib.Math.min.name, Cond.code Lib.Math.min.name Lib.Math.min.code 2 (some .int), Cond.constant RJ2 227 (65536), Cond.methodLink RJ2 228 yJ2_indexOfChar_4cfef, Cond.static yJ2_indexOfChar_4cfef, Cond.initialized RJ2, Cond.code yJ2_indexOfChar_4cfef cJ2_indexOfChar_4cfef 4 (some .int), Cond.methodLink RJ2 96 yJ2_checkBoundsBeginEnd_d044e, Cond.static yJ2_checkBoundsBeginEnd_d044e, Cond.code yJ2_checkBoundsBeginEnd_d044e cJ2_checkBoundsBeginEnd_d044e 3 none, Cond.methodLink RJ2 48 yJ2_length_9d52b, Cond.static yJ2_length_9d52b, Cond.code yJ2_length_9d52b cJ2_length_9d52b 1 (some .int), Cond.methodLink RJ2 241 yJ0_checkBoundsBeginEnd_23922, Cond.static yJ0_checkBoundsBeginEnd_23922, Cond.initialized RJ0, Cond.code yJ0_checkBoundsBeginEnd_23922 cJ0_checkBoundsBeginEnd_23922 3 none, Cond.fieldLink RJ0 1053 "jdk/internal/util/Preconditions" "SIOOBE_FORMATTER" "Ljava/util/function/BiFunction;", Cond.methodLink RJ0 1062 yJ3_checkFromToIndex_8c36e]
def wsJ2_indexOf_4cfef_r2 : List Cond := [Cond.static yJ3_checkFromToIndex_8c36e, Cond.initialized RJ3, Cond.code yJ3_checkFromToIndex_8c36e cJ3_checkFromToIndex_8c36e 4 (some .int), Cond.methodLink RJ2 244 yJ2_indexOfCharUnsafe_4cfef, Cond.static yJ2_indexOfCharUnsafe_4cfef, Cond.code yJ2_indexOfCharUnsafe_4cfef cJ2_indexOfCharUnsafe_4cfef 5 (some .int), Cond.methodLink RJ2 71 yJ2_getChar_3b067, Cond.static yJ2_getChar_3b067, Cond.code yJ2_getChar_3b067 cJ2_getChar_3b067 2 (some .char), Cond.fieldLink RJ2 44 "java/lang/StringUTF16" "$assertionsDisabled" "Z", Cond.fieldLink RJ2 59 "java/lang/StringUTF16" "HI_BYTE_SHIFT" "I", Cond.fieldLink RJ2 63 "java/lang/StringUTF16" "LO_BYTE_SHIFT" "I", Cond.methodLink RJ2 232 yJ2_indexOfSupplementary_4cfef, Cond.static yJ2_indexOfSupplementary_4cfef, Cond.code yJ2_indexOfSupplementary_4cfef cJ2_indexOfSupplementary_4cfef 7 (some .int), Cond.methodLink RJ2 164 yJ11_isValidCodePoint_9a6ad, Cond.static yJ11_isValidCodePoint_9a6ad, Cond.initialized RJ11, Cond.code yJ11_isValidCodePoint_9a6ad cJ11_isValidCodePoint_9a6ad 2 (some .boolean), Cond.methodLink RJ2 157 yJ11_highSurrogate_5068e, Cond.static yJ11_highSurrogate_5068e, Cond.code yJ11_highSurrogate_5068e cJ11_highSurrogate_5068e 1 (some .char), Cond.constant RJ11 110 (55232), Cond.methodLink RJ2 161 yJ11_lowSurrogate_5068e]
def wsJ2_indexOf_4cfef_r3 : List Cond := [Cond.static yJ11_lowSurrogate_5068e, Cond.code yJ11_lowSurrogate_5068e cJ11_lowSurrogate_5068e 1 (some .char), Cond.constant RJ11 76 (56320)]
def wsJ2_indexOf_4cfef : List Cond := .code yJ2_indexOf_4cfef cJ2_indexOf_4cfef 4 (some .int) :: ((wsJ2_indexOf_4cfef_r1 ++ (wsJ2_indexOf_4cfef_r2 ++ wsJ2_indexOf_4cfef_r3)))
def wsJ0_indexOf_7cf53_r1 : List Cond := [Cond.fieldLink RJ0 9 "java/lang/String" "value" "[B", Cond.methodLink RJ0 492 yJ0_isLatin1_aae02, Cond.instanceMethod yJ0_isLatin1_aae02, Cond.selects RJ0 yJ0_isLatin1_aae02 yJ0_isLatin1_aae02, Cond.initialized RJ0, Cond.code yJ0_isLatin1_aae02 cJ0_isLatin1_aae02 1 (some .boolean), Cond.fieldLink RJ0 38 "java/lang/String" "COMPACT_STRINGS" "Z", Cond.fieldLink RJ0 15 "java/lang/String" "coder" "B", Cond.methodLink RJ0 505 yJ0_length_8abf5, Cond.instanceMethod yJ0_length_8abf5, Cond.selects RJ0 yJ0_length_8abf5 yJ0_length_8abf5, Cond.code yJ0_length_8abf5 cJ0_length_8abf5 1 (some .int), Cond.methodLink RJ0 335 yJ0_coder_7d493, Cond.instanceMethod yJ0_coder_7d493, Cond.selects RJ0 yJ0_coder_7d493 yJ0_coder_7d493, Cond.code yJ0_coder_7d493 cJ0_coder_7d493 1 (some .byte), Cond.methodLink RJ0 637 yJ1_indexOf_4cfef, Cond.static yJ1_indexOf_4cfef, Cond.initialized RJ1, Cond.code yJ1_indexOf_4cfef cJ1_indexOf_4cfef 4 (some .int), Cond.methodLink RJ1 92 Lib.Math.max.name, Cond.static Lib.Math.max.name, Cond.initialized "java/lang/Math", Cond.code Lib.Math.max.name Lib.Math.max.code 2 (some .int)]
def wsJ0_indexOf_7cf53_r2 : List Cond := [Cond.methodLink RJ1 38 Lib.Math.min.name, Cond.static Lib.Math.min.name, Cond.code Lib.Math.min.name Lib.Math.min.code 2 (some .int), Cond.methodLink RJ1 88 yJ1_canEncode_9a6ad, Cond.static yJ1_canEncode_9a6ad, Cond.code yJ1_canEncode_9a6ad cJ1_canEncode_9a6ad 1 (some .boolean), Cond.methodLink RJ1 95 yJ1_indexOfChar_4cfef, Cond.static yJ1_indexOfChar_4cfef, Cond.code yJ1_indexOfChar_4cfef cJ1_indexOfChar_4cfef 6 (some .int), Cond.methodLink RJ0 640 yJ2_indexOf_4cfef, Cond.static yJ2_indexOf_4cfef, Cond.initialized RJ2, Cond.code yJ2_indexOf_4cfef cJ2_indexOf_4cfef 4 (some .int), Cond.methodLink RJ2 224 Lib.Math.max.name, Cond.methodLink RJ2 183 Lib.Math.min.name, Cond.constant RJ2 227 (65536), Cond.methodLink RJ2 228 yJ2_indexOfChar_4cfef, Cond.static yJ2_indexOfChar_4cfef, Cond.code yJ2_indexOfChar_4cfef cJ2_indexOfChar_4cfef 4 (some .int), Cond.methodLink RJ2 96 yJ2_checkBoundsBeginEnd_d044e, Cond.static yJ2_checkBoundsBeginEnd_d044e, Cond.code yJ2_checkBoundsBeginEnd_d044e cJ2_checkBoundsBeginEnd_d044e 3 none, Cond.methodLink RJ2 48 yJ2_length_9d52b, Cond.static yJ2_length_9d52b]
def wsJ0_indexOf_7cf53_r3 : List Cond := [Cond.code yJ2_length_9d52b cJ2_length_9d52b 1 (some .int), Cond.methodLink RJ2 241 yJ0_checkBoundsBeginEnd_23922, Cond.static yJ0_checkBoundsBeginEnd_23922, Cond.code yJ0_checkBoundsBeginEnd_23922 cJ0_checkBoundsBeginEnd_23922 3 none, Cond.fieldLink RJ0 1053 "jdk/internal/util/Preconditions" "SIOOBE_FORMATTER" "Ljava/util/function/BiFunction;", Cond.methodLink RJ0 1062 yJ3_checkFromToIndex_8c36e, Cond.static yJ3_checkFromToIndex_8c36e, Cond.initialized RJ3, Cond.code yJ3_checkFromToIndex_8c36e cJ3_checkFromToIndex_8c36e 4 (some .int), Cond.methodLink RJ2 244 yJ2_indexOfCharUnsafe_4cfef, Cond.static yJ2_indexOfCharUnsafe_4cfef, Cond.code yJ2_indexOfCharUnsafe_4cfef cJ2_indexOfCharUnsafe_4cfef 5 (some .int), Cond.methodLink RJ2 71 yJ2_getChar_3b067, Cond.static yJ2_getChar_3b067, Cond.code yJ2_getChar_3b067 cJ2_getChar_3b067 2 (some .char), Cond.fieldLink RJ2 44 "java/lang/StringUTF16" "$assertionsDisabled" "Z", Cond.fieldLink RJ2 59 "java/lang/StringUTF16" "HI_BYTE_SHIFT" "I", Cond.fieldLink RJ2 63 "java/lang/StringUTF16" "LO_BYTE_SHIFT" "I", Cond.methodLink RJ2 232 yJ2_indexOfSupplementary_4cfef, Cond.static yJ2_indexOfSupplementary_4cfef, Cond.code yJ2_indexOfSupplementary_4cfef cJ2_indexOfSupplementary_4cfef 7 (some .int), Cond.methodLink RJ2 164 yJ11_isValidCodePoint_9a6ad, Cond.static yJ11_isValidCodePoint_9a6ad, Cond.initialized RJ11]
def wsJ0_indexOf_7cf53_r4 : List Cond := [Cond.code yJ11_isValidCodePoint_9a6ad cJ11_isValidCodePoint_9a6ad 2 (some .boolean), Cond.methodLink RJ2 157 yJ11_highSurrogate_5068e, Cond.static yJ11_highSurrogate_5068e, Cond.code yJ11_highSurrogate_5068e cJ11_highSurrogate_5068e 1 (some .char), Cond.constant RJ11 110 (55232), Cond.methodLink RJ2 161 yJ11_lowSurrogate_5068e, Cond.static yJ11_lowSurrogate_5068e, Cond.code yJ11_lowSurrogate_5068e cJ11_lowSurrogate_5068e 1 (some .char), Cond.constant RJ11 76 (56320)]
def wsJ0_indexOf_7cf53 : List Cond := .code yJ0_indexOf_7cf53 cJ0_indexOf_7cf53 3 (some .int) :: ((wsJ0_indexOf_7cf53_r1 ++ (wsJ0_indexOf_7cf53_r2 ++ (wsJ0_indexOf_7cf53_r3 ++ wsJ0_indexOf_7cf53_r4))))
def wsJ0_indexOf_0f7a4_r1 : List Cond := [Cond.methodLink RJ0 633 yJ0_indexOf_7cf53, Cond.instanceMethod yJ0_indexOf_7cf53, Cond.selects RJ0 yJ0_indexOf_7cf53 yJ0_indexOf_7cf53, Cond.initialized RJ0, Cond.code yJ0_indexOf_7cf53 cJ0_indexOf_7cf53 3 (some .int), Cond.fieldLink RJ0 9 "java/lang/String" "value" "[B", Cond.methodLink RJ0 492 yJ0_isLatin1_aae02, Cond.instanceMethod yJ0_isLatin1_aae02, Cond.selects RJ0 yJ0_isLatin1_aae02 yJ0_isLatin1_aae02, Cond.code yJ0_isLatin1_aae02 cJ0_isLatin1_aae02 1 (some .boolean), Cond.fieldLink RJ0 38 "java/lang/String" "COMPACT_STRINGS" "Z", Cond.fieldLink RJ0 15 "java/lang/String" "coder" "B", Cond.methodLink RJ0 505 yJ0_length_8abf5, Cond.instanceMethod yJ0_length_8abf5, Cond.selects RJ0 yJ0_length_8abf5 yJ0_length_8abf5, Cond.code yJ0_length_8abf5 cJ0_length_8abf5 1 (some .int), Cond.methodLink RJ0 335 yJ0_coder_7d493, Cond.instanceMethod yJ0_coder_7d493, Cond.selects RJ0 yJ0_coder_7d493 yJ0_coder_7d493, Cond.code yJ0_coder_7d493 cJ0_coder_7d493 1 (some .byte), Cond.methodLink RJ0 637 yJ1_indexOf_4cfef, Cond.static yJ1_indexOf_4cfef, Cond.initialized RJ1, Cond.code yJ1_indexOf_4cfef cJ1_indexOf_4cfef 4 (some .int)]
def wsJ0_indexOf_0f7a4_r2 : List Cond := [Cond.methodLink RJ1 92 Lib.Math.max.name, Cond.static Lib.Math.max.name, Cond.initialized "java/lang/Math", Cond.code Lib.Math.max.name Lib.Math.max.code 2 (some .int), Cond.methodLink RJ1 38 Lib.Math.min.name, Cond.static Lib.Math.min.name, Cond.code Lib.Math.min.name Lib.Math.min.code 2 (some .int), Cond.methodLink RJ1 88 yJ1_canEncode_9a6ad, Cond.static yJ1_canEncode_9a6ad, Cond.code yJ1_canEncode_9a6ad cJ1_canEncode_9a6ad 1 (some .boolean), Cond.methodLink RJ1 95 yJ1_indexOfChar_4cfef, Cond.static yJ1_indexOfChar_4cfef, Cond.code yJ1_indexOfChar_4cfef cJ1_indexOfChar_4cfef 6 (some .int), Cond.methodLink RJ0 640 yJ2_indexOf_4cfef, Cond.static yJ2_indexOf_4cfef, Cond.initialized RJ2, Cond.code yJ2_indexOf_4cfef cJ2_indexOf_4cfef 4 (some .int), Cond.methodLink RJ2 224 Lib.Math.max.name, Cond.methodLink RJ2 183 Lib.Math.min.name, Cond.constant RJ2 227 (65536), Cond.methodLink RJ2 228 yJ2_indexOfChar_4cfef, Cond.static yJ2_indexOfChar_4cfef, Cond.code yJ2_indexOfChar_4cfef cJ2_indexOfChar_4cfef 4 (some .int), Cond.methodLink RJ2 96 yJ2_checkBoundsBeginEnd_d044e]
def wsJ0_indexOf_0f7a4_r3 : List Cond := [Cond.static yJ2_checkBoundsBeginEnd_d044e, Cond.code yJ2_checkBoundsBeginEnd_d044e cJ2_checkBoundsBeginEnd_d044e 3 none, Cond.methodLink RJ2 48 yJ2_length_9d52b, Cond.static yJ2_length_9d52b, Cond.code yJ2_length_9d52b cJ2_length_9d52b 1 (some .int), Cond.methodLink RJ2 241 yJ0_checkBoundsBeginEnd_23922, Cond.static yJ0_checkBoundsBeginEnd_23922, Cond.code yJ0_checkBoundsBeginEnd_23922 cJ0_checkBoundsBeginEnd_23922 3 none, Cond.fieldLink RJ0 1053 "jdk/internal/util/Preconditions" "SIOOBE_FORMATTER" "Ljava/util/function/BiFunction;", Cond.methodLink RJ0 1062 yJ3_checkFromToIndex_8c36e, Cond.static yJ3_checkFromToIndex_8c36e, Cond.initialized RJ3, Cond.code yJ3_checkFromToIndex_8c36e cJ3_checkFromToIndex_8c36e 4 (some .int), Cond.methodLink RJ2 244 yJ2_indexOfCharUnsafe_4cfef, Cond.static yJ2_indexOfCharUnsafe_4cfef, Cond.code yJ2_indexOfCharUnsafe_4cfef cJ2_indexOfCharUnsafe_4cfef 5 (some .int), Cond.methodLink RJ2 71 yJ2_getChar_3b067, Cond.static yJ2_getChar_3b067, Cond.code yJ2_getChar_3b067 cJ2_getChar_3b067 2 (some .char), Cond.fieldLink RJ2 44 "java/lang/StringUTF16" "$assertionsDisabled" "Z", Cond.fieldLink RJ2 59 "java/lang/StringUTF16" "HI_BYTE_SHIFT" "I", Cond.fieldLink RJ2 63 "java/lang/StringUTF16" "LO_BYTE_SHIFT" "I", Cond.methodLink RJ2 232 yJ2_indexOfSupplementary_4cfef, Cond.static yJ2_indexOfSupplementary_4cfef]
def wsJ0_indexOf_0f7a4_r4 : List Cond := [Cond.code yJ2_indexOfSupplementary_4cfef cJ2_indexOfSupplementary_4cfef 7 (some .int), Cond.methodLink RJ2 164 yJ11_isValidCodePoint_9a6ad, Cond.static yJ11_isValidCodePoint_9a6ad, Cond.initialized RJ11, Cond.code yJ11_isValidCodePoint_9a6ad cJ11_isValidCodePoint_9a6ad 2 (some .boolean), Cond.methodLink RJ2 157 yJ11_highSurrogate_5068e, Cond.static yJ11_highSurrogate_5068e, Cond.code yJ11_highSurrogate_5068e cJ11_highSurrogate_5068e 1 (some .char), Cond.constant RJ11 110 (55232), Cond.methodLink RJ2 161 yJ11_lowSurrogate_5068e, Cond.static yJ11_lowSurrogate_5068e, Cond.code yJ11_lowSurrogate_5068e cJ11_lowSurrogate_5068e 1 (some .char), Cond.constant RJ11 76 (56320)]
def wsJ0_indexOf_0f7a4 : List Cond := .code yJ0_indexOf_0f7a4 cJ0_indexOf_0f7a4 2 (some .int) :: ((wsJ0_indexOf_0f7a4_r1 ++ (wsJ0_indexOf_0f7a4_r2 ++ (wsJ0_indexOf_0f7a4_r3 ++ wsJ0_indexOf_0f7a4_r4))))
def wsX5_kindOf_r1 : List Cond := [Cond.methodLink RX5 42 yJ0_indexOf_0f7a4, Cond.instanceMethod yJ0_indexOf_0f7a4, Cond.selects RJ0 yJ0_indexOf_0f7a4 yJ0_indexOf_0f7a4, Cond.initialized RJ0, Cond.code yJ0_indexOf_0f7a4 cJ0_indexOf_0f7a4 2 (some .int), Cond.methodLink RJ0 633 yJ0_indexOf_7cf53, Cond.instanceMethod yJ0_indexOf_7cf53, Cond.selects RJ0 yJ0_indexOf_7cf53 yJ0_indexOf_7cf53, Cond.code yJ0_indexOf_7cf53 cJ0_indexOf_7cf53 3 (some .int), Cond.fieldLink RJ0 9 "java/lang/String" "value" "[B", Cond.methodLink RJ0 492 yJ0_isLatin1_aae02, Cond.instanceMethod yJ0_isLatin1_aae02, Cond.selects RJ0 yJ0_isLatin1_aae02 yJ0_isLatin1_aae02, Cond.code yJ0_isLatin1_aae02 cJ0_isLatin1_aae02 1 (some .boolean), Cond.fieldLink RJ0 38 "java/lang/String" "COMPACT_STRINGS" "Z", Cond.fieldLink RJ0 15 "java/lang/String" "coder" "B", Cond.methodLink RJ0 505 yJ0_length_8abf5, Cond.instanceMethod yJ0_length_8abf5, Cond.selects RJ0 yJ0_length_8abf5 yJ0_length_8abf5, Cond.code yJ0_length_8abf5 cJ0_length_8abf5 1 (some .int), Cond.methodLink RJ0 335 yJ0_coder_7d493, Cond.instanceMethod yJ0_coder_7d493, Cond.selects RJ0 yJ0_coder_7d493 yJ0_coder_7d493, Cond.code yJ0_coder_7d493 cJ0_coder_7d493 1 (some .byte)]
def wsX5_kindOf_r2 : List Cond := [Cond.methodLink RJ0 637 yJ1_indexOf_4cfef, Cond.static yJ1_indexOf_4cfef, Cond.initialized RJ1, Cond.code yJ1_indexOf_4cfef cJ1_indexOf_4cfef 4 (some .int), Cond.methodLink RJ1 92 Lib.Math.max.name, Cond.static Lib.Math.max.name, Cond.initialized "java/lang/Math", Cond.code Lib.Math.max.name Lib.Math.max.code 2 (some .int), Cond.methodLink RJ1 38 Lib.Math.min.name, Cond.static Lib.Math.min.name, Cond.code Lib.Math.min.name Lib.Math.min.code 2 (some .int), Cond.methodLink RJ1 88 yJ1_canEncode_9a6ad, Cond.static yJ1_canEncode_9a6ad, Cond.code yJ1_canEncode_9a6ad cJ1_canEncode_9a6ad 1 (some .boolean), Cond.methodLink RJ1 95 yJ1_indexOfChar_4cfef, Cond.static yJ1_indexOfChar_4cfef, Cond.code yJ1_indexOfChar_4cfef cJ1_indexOfChar_4cfef 6 (some .int), Cond.methodLink RJ0 640 yJ2_indexOf_4cfef, Cond.static yJ2_indexOf_4cfef, Cond.initialized RJ2, Cond.code yJ2_indexOf_4cfef cJ2_indexOf_4cfef 4 (some .int), Cond.methodLink RJ2 224 Lib.Math.max.name, Cond.methodLink RJ2 183 Lib.Math.min.name, Cond.constant RJ2 227 (65536)]
def wsX5_kindOf_r3 : List Cond := [Cond.methodLink RJ2 228 yJ2_indexOfChar_4cfef, Cond.static yJ2_indexOfChar_4cfef, Cond.code yJ2_indexOfChar_4cfef cJ2_indexOfChar_4cfef 4 (some .int), Cond.methodLink RJ2 96 yJ2_checkBoundsBeginEnd_d044e, Cond.static yJ2_checkBoundsBeginEnd_d044e, Cond.code yJ2_checkBoundsBeginEnd_d044e cJ2_checkBoundsBeginEnd_d044e 3 none, Cond.methodLink RJ2 48 yJ2_length_9d52b, Cond.static yJ2_length_9d52b, Cond.code yJ2_length_9d52b cJ2_length_9d52b 1 (some .int), Cond.methodLink RJ2 241 yJ0_checkBoundsBeginEnd_23922, Cond.static yJ0_checkBoundsBeginEnd_23922, Cond.code yJ0_checkBoundsBeginEnd_23922 cJ0_checkBoundsBeginEnd_23922 3 none, Cond.fieldLink RJ0 1053 "jdk/internal/util/Preconditions" "SIOOBE_FORMATTER" "Ljava/util/function/BiFunction;", Cond.methodLink RJ0 1062 yJ3_checkFromToIndex_8c36e, Cond.static yJ3_checkFromToIndex_8c36e, Cond.initialized RJ3, Cond.code yJ3_checkFromToIndex_8c36e cJ3_checkFromToIndex_8c36e 4 (some .int), Cond.methodLink RJ2 244 yJ2_indexOfCharUnsafe_4cfef, Cond.static yJ2_indexOfCharUnsafe_4cfef, Cond.code yJ2_indexOfCharUnsafe_4cfef cJ2_indexOfCharUnsafe_4cfef 5 (some .int), Cond.methodLink RJ2 71 yJ2_getChar_3b067, Cond.static yJ2_getChar_3b067, Cond.code yJ2_getChar_3b067 cJ2_getChar_3b067 2 (some .char), Cond.fieldLink RJ2 44 "java/lang/StringUTF16" "$assertionsDisabled" "Z"]
def wsX5_kindOf_r4 : List Cond := [Cond.fieldLink RJ2 59 "java/lang/StringUTF16" "HI_BYTE_SHIFT" "I", Cond.fieldLink RJ2 63 "java/lang/StringUTF16" "LO_BYTE_SHIFT" "I", Cond.methodLink RJ2 232 yJ2_indexOfSupplementary_4cfef, Cond.static yJ2_indexOfSupplementary_4cfef, Cond.code yJ2_indexOfSupplementary_4cfef cJ2_indexOfSupplementary_4cfef 7 (some .int), Cond.methodLink RJ2 164 yJ11_isValidCodePoint_9a6ad, Cond.static yJ11_isValidCodePoint_9a6ad, Cond.initialized RJ11, Cond.code yJ11_isValidCodePoint_9a6ad cJ11_isValidCodePoint_9a6ad 2 (some .boolean), Cond.methodLink RJ2 157 yJ11_highSurrogate_5068e, Cond.static yJ11_highSurrogate_5068e, Cond.code yJ11_highSurrogate_5068e cJ11_highSurrogate_5068e 1 (some .char), Cond.constant RJ11 110 (55232), Cond.methodLink RJ2 161 yJ11_lowSurrogate_5068e, Cond.static yJ11_lowSurrogate_5068e, Cond.code yJ11_lowSurrogate_5068e cJ11_lowSurrogate_5068e 1 (some .char), Cond.constant RJ11 76 (56320)]
def wsX5_kindOf : List Cond := .code yX5_kindOf cX5_kindOf 1 (some .int) :: ((wsX5_kindOf_r1 ++ (wsX5_kindOf_r2 ++ (wsX5_kindOf_r3 ++ wsX5_kindOf_r4))))
def wsX5_kindAt_r1 : List Cond := [Cond.methodLink RX5 19 yX5_codeAt, Cond.instanceMethod yX5_codeAt, Cond.selects RX5 yX5_codeAt yX5_codeAt, Cond.initialized RX5, Cond.code yX5_codeAt cX5_codeAt 2 (some .int), Cond.fieldLink RX5 15 "WorstVoice$Page" "length" "I", Cond.fieldLink RX5 9 "WorstVoice$Page" "codes" "[I", Cond.methodLink RX5 23 yX5_kindOf, Cond.static yX5_kindOf, Cond.code yX5_kindOf cX5_kindOf 1 (some .int), Cond.methodLink RX5 42 yJ0_indexOf_0f7a4, Cond.instanceMethod yJ0_indexOf_0f7a4, Cond.selects RJ0 yJ0_indexOf_0f7a4 yJ0_indexOf_0f7a4, Cond.initialized RJ0, Cond.code yJ0_indexOf_0f7a4 cJ0_indexOf_0f7a4 2 (some .int), Cond.methodLink RJ0 633 yJ0_indexOf_7cf53, Cond.instanceMethod yJ0_indexOf_7cf53, Cond.selects RJ0 yJ0_indexOf_7cf53 yJ0_indexOf_7cf53, Cond.code yJ0_indexOf_7cf53 cJ0_indexOf_7cf53 3 (some .int), Cond.fieldLink RJ0 9 "java/lang/String" "value" "[B", Cond.methodLink RJ0 492 yJ0_isLatin1_aae02, Cond.instanceMethod yJ0_isLatin1_aae02, Cond.selects RJ0 yJ0_isLatin1_aae02 yJ0_isLatin1_aae02, Cond.code yJ0_isLatin1_aae02 cJ0_isLatin1_aae02 1 (some .boolean)]
def wsX5_kindAt_r2 : List Cond := [Cond.fieldLink RJ0 38 "java/lang/String" "COMPACT_STRINGS" "Z", Cond.fieldLink RJ0 15 "java/lang/String" "coder" "B", Cond.methodLink RJ0 505 yJ0_length_8abf5, Cond.instanceMethod yJ0_length_8abf5, Cond.selects RJ0 yJ0_length_8abf5 yJ0_length_8abf5, Cond.code yJ0_length_8abf5 cJ0_length_8abf5 1 (some .int), Cond.methodLink RJ0 335 yJ0_coder_7d493, Cond.instanceMethod yJ0_coder_7d493, Cond.selects RJ0 yJ0_coder_7d493 yJ0_coder_7d493, Cond.code yJ0_coder_7d493 cJ0_coder_7d493 1 (some .byte), Cond.methodLink RJ0 637 yJ1_indexOf_4cfef, Cond.static yJ1_indexOf_4cfef, Cond.initialized RJ1, Cond.code yJ1_indexOf_4cfef cJ1_indexOf_4cfef 4 (some .int), Cond.methodLink RJ1 92 Lib.Math.max.name, Cond.static Lib.Math.max.name, Cond.initialized "java/lang/Math", Cond.code Lib.Math.max.name Lib.Math.max.code 2 (some .int), Cond.methodLink RJ1 38 Lib.Math.min.name, Cond.static Lib.Math.min.name, Cond.code Lib.Math.min.name Lib.Math.min.code 2 (some .int), Cond.methodLink RJ1 88 yJ1_canEncode_9a6ad, Cond.static yJ1_canEncode_9a6ad, Cond.code yJ1_canEncode_9a6ad cJ1_canEncode_9a6ad 1 (some .boolean)]
def wsX5_kindAt_r3 : List Cond := [Cond.methodLink RJ1 95 yJ1_indexOfChar_4cfef, Cond.static yJ1_indexOfChar_4cfef, Cond.code yJ1_indexOfChar_4cfef cJ1_indexOfChar_4cfef 6 (some .int), Cond.methodLink RJ0 640 yJ2_indexOf_4cfef, Cond.static yJ2_indexOf_4cfef, Cond.initialized RJ2, Cond.code yJ2_indexOf_4cfef cJ2_indexOf_4cfef 4 (some .int), Cond.methodLink RJ2 224 Lib.Math.max.name, Cond.methodLink RJ2 183 Lib.Math.min.name, Cond.constant RJ2 227 (65536), Cond.methodLink RJ2 228 yJ2_indexOfChar_4cfef, Cond.static yJ2_indexOfChar_4cfef, Cond.code yJ2_indexOfChar_4cfef cJ2_indexOfChar_4cfef 4 (some .int), Cond.methodLink RJ2 96 yJ2_checkBoundsBeginEnd_d044e, Cond.static yJ2_checkBoundsBeginEnd_d044e, Cond.code yJ2_checkBoundsBeginEnd_d044e cJ2_checkBoundsBeginEnd_d044e 3 none, Cond.methodLink RJ2 48 yJ2_length_9d52b, Cond.static yJ2_length_9d52b, Cond.code yJ2_length_9d52b cJ2_length_9d52b 1 (some .int), Cond.methodLink RJ2 241 yJ0_checkBoundsBeginEnd_23922, Cond.static yJ0_checkBoundsBeginEnd_23922, Cond.code yJ0_checkBoundsBeginEnd_23922 cJ0_checkBoundsBeginEnd_23922 3 none, Cond.fieldLink RJ0 1053 "jdk/internal/util/Preconditions" "SIOOBE_FORMATTER" "Ljava/util/function/BiFunction;", Cond.methodLink RJ0 1062 yJ3_checkFromToIndex_8c36e]
def wsX5_kindAt_r4 : List Cond := [Cond.static yJ3_checkFromToIndex_8c36e, Cond.initialized RJ3, Cond.code yJ3_checkFromToIndex_8c36e cJ3_checkFromToIndex_8c36e 4 (some .int), Cond.methodLink RJ2 244 yJ2_indexOfCharUnsafe_4cfef, Cond.static yJ2_indexOfCharUnsafe_4cfef, Cond.code yJ2_indexOfCharUnsafe_4cfef cJ2_indexOfCharUnsafe_4cfef 5 (some .int), Cond.methodLink RJ2 71 yJ2_getChar_3b067, Cond.static yJ2_getChar_3b067, Cond.code yJ2_getChar_3b067 cJ2_getChar_3b067 2 (some .char), Cond.fieldLink RJ2 44 "java/lang/StringUTF16" "$assertionsDisabled" "Z", Cond.fieldLink RJ2 59 "java/lang/StringUTF16" "HI_BYTE_SHIFT" "I", Cond.fieldLink RJ2 63 "java/lang/StringUTF16" "LO_BYTE_SHIFT" "I", Cond.methodLink RJ2 232 yJ2_indexOfSupplementary_4cfef, Cond.static yJ2_indexOfSupplementary_4cfef, Cond.code yJ2_indexOfSupplementary_4cfef cJ2_indexOfSupplementary_4cfef 7 (some .int), Cond.methodLink RJ2 164 yJ11_isValidCodePoint_9a6ad, Cond.static yJ11_isValidCodePoint_9a6ad, Cond.initialized RJ11, Cond.code yJ11_isValidCodePoint_9a6ad cJ11_isValidCodePoint_9a6ad 2 (some .boolean), Cond.methodLink RJ2 157 yJ11_highSurrogate_5068e, Cond.static yJ11_highSurrogate_5068e, Cond.code yJ11_highSurrogate_5068e cJ11_highSurrogate_5068e 1 (some .char), Cond.constant RJ11 110 (55232), Cond.methodLink RJ2 161 yJ11_lowSurrogate_5068e]
def wsX5_kindAt_r5 : List Cond := [Cond.static yJ11_lowSurrogate_5068e, Cond.code yJ11_lowSurrogate_5068e cJ11_lowSurrogate_5068e 1 (some .char), Cond.constant RJ11 76 (56320)]
def wsX5_kindAt : List Cond := .code yX5_kindAt cX5_kindAt 2 (some .int) :: ((wsX5_kindAt_r1 ++ (wsX5_kindAt_r2 ++ (wsX5_kindAt_r3 ++ (wsX5_kindAt_r4 ++ wsX5_kindAt_r5)))) ++ wsX50)
def wsX5_digitAt : List Cond := .code yX5_digitAt cX5_digitAt 2 (some .int) :: ([.methodLink RX5 19 yX5_codeAt, .instanceMethod yX5_codeAt, .selects RX5 yX5_codeAt yX5_codeAt, .initialized RX5, .code yX5_codeAt cX5_codeAt 2 (some .int), .fieldLink RX5 15 "WorstVoice$Page" "length" "I", .fieldLink RX5 9 "WorstVoice$Page" "codes" "[I"] ++ wsX50)
def wsX1_readSinger_r1 : List Cond := [Cond.fieldLink RX1 9 "WorstVoice$Choir" "kinds" "[I", Cond.fieldLink RX1 15 "WorstVoice$Choir" "faults" "[I", Cond.fieldLink RX1 18 "WorstVoice$Choir" "colds" "[I", Cond.fieldLink RX1 21 "WorstVoice$Choir" "lefts" "[I", Cond.fieldLink RX1 24 "WorstVoice$Choir" "honeys" "[I", Cond.methodLink RX1 70 yX1_hasSinger, Cond.instanceMethod yX1_hasSinger, Cond.selects RX1 yX1_hasSinger yX1_hasSinger, Cond.initialized RX1, Cond.code yX1_hasSinger cX1_hasSinger 2 (some .boolean), Cond.fieldLink RX1 46 "WorstVoice$Choir" "singers" "I", Cond.methodLink RX1 74 yX5_kindAt, Cond.instanceMethod yX5_kindAt, Cond.selects RX5 yX5_kindAt yX5_kindAt, Cond.initialized RX5, Cond.code yX5_kindAt cX5_kindAt 2 (some .int), Cond.methodLink RX5 19 yX5_codeAt, Cond.instanceMethod yX5_codeAt, Cond.selects RX5 yX5_codeAt yX5_codeAt, Cond.code yX5_codeAt cX5_codeAt 2 (some .int), Cond.fieldLink RX5 15 "WorstVoice$Page" "length" "I", Cond.fieldLink RX5 9 "WorstVoice$Page" "codes" "[I", Cond.methodLink RX5 23 yX5_kindOf, Cond.static yX5_kindOf]
def wsX1_readSinger_r2 : List Cond := [Cond.code yX5_kindOf cX5_kindOf 1 (some .int), Cond.methodLink RX5 42 yJ0_indexOf_0f7a4, Cond.instanceMethod yJ0_indexOf_0f7a4, Cond.selects RJ0 yJ0_indexOf_0f7a4 yJ0_indexOf_0f7a4, Cond.initialized RJ0, Cond.code yJ0_indexOf_0f7a4 cJ0_indexOf_0f7a4 2 (some .int), Cond.methodLink RJ0 633 yJ0_indexOf_7cf53, Cond.instanceMethod yJ0_indexOf_7cf53, Cond.selects RJ0 yJ0_indexOf_7cf53 yJ0_indexOf_7cf53, Cond.code yJ0_indexOf_7cf53 cJ0_indexOf_7cf53 3 (some .int), Cond.fieldLink RJ0 9 "java/lang/String" "value" "[B", Cond.methodLink RJ0 492 yJ0_isLatin1_aae02, Cond.instanceMethod yJ0_isLatin1_aae02, Cond.selects RJ0 yJ0_isLatin1_aae02 yJ0_isLatin1_aae02, Cond.code yJ0_isLatin1_aae02 cJ0_isLatin1_aae02 1 (some .boolean), Cond.fieldLink RJ0 38 "java/lang/String" "COMPACT_STRINGS" "Z", Cond.fieldLink RJ0 15 "java/lang/String" "coder" "B", Cond.methodLink RJ0 505 yJ0_length_8abf5, Cond.instanceMethod yJ0_length_8abf5, Cond.selects RJ0 yJ0_length_8abf5 yJ0_length_8abf5, Cond.code yJ0_length_8abf5 cJ0_length_8abf5 1 (some .int), Cond.methodLink RJ0 335 yJ0_coder_7d493, Cond.instanceMethod yJ0_coder_7d493, Cond.selects RJ0 yJ0_coder_7d493 yJ0_coder_7d493]
def wsX1_readSinger_r3 : List Cond := [Cond.code yJ0_coder_7d493 cJ0_coder_7d493 1 (some .byte), Cond.methodLink RJ0 637 yJ1_indexOf_4cfef, Cond.static yJ1_indexOf_4cfef, Cond.initialized RJ1, Cond.code yJ1_indexOf_4cfef cJ1_indexOf_4cfef 4 (some .int), Cond.methodLink RJ1 92 Lib.Math.max.name, Cond.static Lib.Math.max.name, Cond.initialized "java/lang/Math", Cond.code Lib.Math.max.name Lib.Math.max.code 2 (some .int), Cond.methodLink RJ1 38 Lib.Math.min.name, Cond.static Lib.Math.min.name, Cond.code Lib.Math.min.name Lib.Math.min.code 2 (some .int), Cond.methodLink RJ1 88 yJ1_canEncode_9a6ad, Cond.static yJ1_canEncode_9a6ad, Cond.code yJ1_canEncode_9a6ad cJ1_canEncode_9a6ad 1 (some .boolean), Cond.methodLink RJ1 95 yJ1_indexOfChar_4cfef, Cond.static yJ1_indexOfChar_4cfef, Cond.code yJ1_indexOfChar_4cfef cJ1_indexOfChar_4cfef 6 (some .int), Cond.methodLink RJ0 640 yJ2_indexOf_4cfef, Cond.static yJ2_indexOf_4cfef, Cond.initialized RJ2, Cond.code yJ2_indexOf_4cfef cJ2_indexOf_4cfef 4 (some .int), Cond.methodLink RJ2 224 Lib.Math.max.name, Cond.methodLink RJ2 183 Lib.Math.min.name]
def wsX1_readSinger_r4 : List Cond := [Cond.constant RJ2 227 (65536), Cond.methodLink RJ2 228 yJ2_indexOfChar_4cfef, Cond.static yJ2_indexOfChar_4cfef, Cond.code yJ2_indexOfChar_4cfef cJ2_indexOfChar_4cfef 4 (some .int), Cond.methodLink RJ2 96 yJ2_checkBoundsBeginEnd_d044e, Cond.static yJ2_checkBoundsBeginEnd_d044e, Cond.code yJ2_checkBoundsBeginEnd_d044e cJ2_checkBoundsBeginEnd_d044e 3 none, Cond.methodLink RJ2 48 yJ2_length_9d52b, Cond.static yJ2_length_9d52b, Cond.code yJ2_length_9d52b cJ2_length_9d52b 1 (some .int), Cond.methodLink RJ2 241 yJ0_checkBoundsBeginEnd_23922, Cond.static yJ0_checkBoundsBeginEnd_23922, Cond.code yJ0_checkBoundsBeginEnd_23922 cJ0_checkBoundsBeginEnd_23922 3 none, Cond.fieldLink RJ0 1053 "jdk/internal/util/Preconditions" "SIOOBE_FORMATTER" "Ljava/util/function/BiFunction;", Cond.methodLink RJ0 1062 yJ3_checkFromToIndex_8c36e, Cond.static yJ3_checkFromToIndex_8c36e, Cond.initialized RJ3, Cond.code yJ3_checkFromToIndex_8c36e cJ3_checkFromToIndex_8c36e 4 (some .int), Cond.methodLink RJ2 244 yJ2_indexOfCharUnsafe_4cfef, Cond.static yJ2_indexOfCharUnsafe_4cfef, Cond.code yJ2_indexOfCharUnsafe_4cfef cJ2_indexOfCharUnsafe_4cfef 5 (some .int), Cond.methodLink RJ2 71 yJ2_getChar_3b067, Cond.static yJ2_getChar_3b067, Cond.code yJ2_getChar_3b067 cJ2_getChar_3b067 2 (some .char)]
def wsX1_readSinger_r5 : List Cond := [Cond.fieldLink RJ2 44 "java/lang/StringUTF16" "$assertionsDisabled" "Z", Cond.fieldLink RJ2 59 "java/lang/StringUTF16" "HI_BYTE_SHIFT" "I", Cond.fieldLink RJ2 63 "java/lang/StringUTF16" "LO_BYTE_SHIFT" "I", Cond.methodLink RJ2 232 yJ2_indexOfSupplementary_4cfef, Cond.static yJ2_indexOfSupplementary_4cfef, Cond.code yJ2_indexOfSupplementary_4cfef cJ2_indexOfSupplementary_4cfef 7 (some .int), Cond.methodLink RJ2 164 yJ11_isValidCodePoint_9a6ad, Cond.static yJ11_isValidCodePoint_9a6ad, Cond.initialized RJ11, Cond.code yJ11_isValidCodePoint_9a6ad cJ11_isValidCodePoint_9a6ad 2 (some .boolean), Cond.methodLink RJ2 157 yJ11_highSurrogate_5068e, Cond.static yJ11_highSurrogate_5068e, Cond.code yJ11_highSurrogate_5068e cJ11_highSurrogate_5068e 1 (some .char), Cond.constant RJ11 110 (55232), Cond.methodLink RJ2 161 yJ11_lowSurrogate_5068e, Cond.static yJ11_lowSurrogate_5068e, Cond.code yJ11_lowSurrogate_5068e cJ11_lowSurrogate_5068e 1 (some .char), Cond.constant RJ11 76 (56320), Cond.methodLink RX1 66 yX5_digitAt, Cond.instanceMethod yX5_digitAt, Cond.selects RX5 yX5_digitAt yX5_digitAt, Cond.code yX5_digitAt cX5_digitAt 2 (some .int)]
def wsX1_readSinger : List Cond := .code yX1_readSinger cX1_readSinger 5 none :: ((wsX1_readSinger_r1 ++ (wsX1_readSinger_r2 ++ (wsX1_readSinger_r3 ++ (wsX1_readSinger_r4 ++ wsX1_readSinger_r5)))) ++ wsX10 ++ wsX50)
def wsX1_readFrom_r1 : List Cond := [Cond.methodLink RX1 40 Lib.Math.min.name, Cond.static Lib.Math.min.name, Cond.initialized "java/lang/Math", Cond.code Lib.Math.min.name Lib.Math.min.code 2 (some .int), Cond.fieldLink RX1 46 "WorstVoice$Choir" "singers" "I", Cond.methodLink RX1 53 Lib.Math.max.name, Cond.static Lib.Math.max.name, Cond.code Lib.Math.max.name Lib.Math.max.code 2 (some .int), Cond.fieldLink RX1 56 "WorstVoice$Choir" "widows" "I", Cond.fieldLink RX1 59 "WorstVoice$Choir" "weeks" "I", Cond.fieldLink RX1 27 "WorstVoice$Choir" "minded" "[I", Cond.methodLink RX1 34 yX5_singersEnd, Cond.instanceMethod yX5_singersEnd, Cond.selects RX5 yX5_singersEnd yX5_singersEnd, Cond.initialized RX5, Cond.code yX5_singersEnd cX5_singersEnd 2 (some .int), Cond.fieldLink RX5 15 "WorstVoice$Page" "length" "I", Cond.methodLink RX5 19 yX5_codeAt, Cond.instanceMethod yX5_codeAt, Cond.selects RX5 yX5_codeAt yX5_codeAt, Cond.code yX5_codeAt cX5_codeAt 2 (some .int), Cond.fieldLink RX5 9 "WorstVoice$Page" "codes" "[I", Cond.methodLink RX1 62 yX1_readSinger, Cond.instanceMethod yX1_readSinger]
def wsX1_readFrom_r2 : List Cond := [Cond.selects RX1 yX1_readSinger yX1_readSinger, Cond.initialized RX1, Cond.code yX1_readSinger cX1_readSinger 5 none, Cond.fieldLink RX1 9 "WorstVoice$Choir" "kinds" "[I", Cond.fieldLink RX1 15 "WorstVoice$Choir" "faults" "[I", Cond.fieldLink RX1 18 "WorstVoice$Choir" "colds" "[I", Cond.fieldLink RX1 21 "WorstVoice$Choir" "lefts" "[I", Cond.fieldLink RX1 24 "WorstVoice$Choir" "honeys" "[I", Cond.methodLink RX1 70 yX1_hasSinger, Cond.instanceMethod yX1_hasSinger, Cond.selects RX1 yX1_hasSinger yX1_hasSinger, Cond.code yX1_hasSinger cX1_hasSinger 2 (some .boolean), Cond.methodLink RX1 74 yX5_kindAt, Cond.instanceMethod yX5_kindAt, Cond.selects RX5 yX5_kindAt yX5_kindAt, Cond.code yX5_kindAt cX5_kindAt 2 (some .int), Cond.methodLink RX5 23 yX5_kindOf, Cond.static yX5_kindOf, Cond.code yX5_kindOf cX5_kindOf 1 (some .int), Cond.methodLink RX5 42 yJ0_indexOf_0f7a4, Cond.instanceMethod yJ0_indexOf_0f7a4, Cond.selects RJ0 yJ0_indexOf_0f7a4 yJ0_indexOf_0f7a4, Cond.initialized RJ0, Cond.code yJ0_indexOf_0f7a4 cJ0_indexOf_0f7a4 2 (some .int)]
def wsX1_readFrom_r3 : List Cond := [Cond.methodLink RJ0 633 yJ0_indexOf_7cf53, Cond.instanceMethod yJ0_indexOf_7cf53, Cond.selects RJ0 yJ0_indexOf_7cf53 yJ0_indexOf_7cf53, Cond.code yJ0_indexOf_7cf53 cJ0_indexOf_7cf53 3 (some .int), Cond.fieldLink RJ0 9 "java/lang/String" "value" "[B", Cond.methodLink RJ0 492 yJ0_isLatin1_aae02, Cond.instanceMethod yJ0_isLatin1_aae02, Cond.selects RJ0 yJ0_isLatin1_aae02 yJ0_isLatin1_aae02, Cond.code yJ0_isLatin1_aae02 cJ0_isLatin1_aae02 1 (some .boolean), Cond.fieldLink RJ0 38 "java/lang/String" "COMPACT_STRINGS" "Z", Cond.fieldLink RJ0 15 "java/lang/String" "coder" "B", Cond.methodLink RJ0 505 yJ0_length_8abf5, Cond.instanceMethod yJ0_length_8abf5, Cond.selects RJ0 yJ0_length_8abf5 yJ0_length_8abf5, Cond.code yJ0_length_8abf5 cJ0_length_8abf5 1 (some .int), Cond.methodLink RJ0 335 yJ0_coder_7d493, Cond.instanceMethod yJ0_coder_7d493, Cond.selects RJ0 yJ0_coder_7d493 yJ0_coder_7d493, Cond.code yJ0_coder_7d493 cJ0_coder_7d493 1 (some .byte), Cond.methodLink RJ0 637 yJ1_indexOf_4cfef, Cond.static yJ1_indexOf_4cfef, Cond.initialized RJ1, Cond.code yJ1_indexOf_4cfef cJ1_indexOf_4cfef 4 (some .int), Cond.methodLink RJ1 92 Lib.Math.max.name]
def wsX1_readFrom_r4 : List Cond := [Cond.methodLink RJ1 38 Lib.Math.min.name, Cond.methodLink RJ1 88 yJ1_canEncode_9a6ad, Cond.static yJ1_canEncode_9a6ad, Cond.code yJ1_canEncode_9a6ad cJ1_canEncode_9a6ad 1 (some .boolean), Cond.methodLink RJ1 95 yJ1_indexOfChar_4cfef, Cond.static yJ1_indexOfChar_4cfef, Cond.code yJ1_indexOfChar_4cfef cJ1_indexOfChar_4cfef 6 (some .int), Cond.methodLink RJ0 640 yJ2_indexOf_4cfef, Cond.static yJ2_indexOf_4cfef, Cond.initialized RJ2, Cond.code yJ2_indexOf_4cfef cJ2_indexOf_4cfef 4 (some .int), Cond.methodLink RJ2 224 Lib.Math.max.name, Cond.methodLink RJ2 183 Lib.Math.min.name, Cond.constant RJ2 227 (65536), Cond.methodLink RJ2 228 yJ2_indexOfChar_4cfef, Cond.static yJ2_indexOfChar_4cfef, Cond.code yJ2_indexOfChar_4cfef cJ2_indexOfChar_4cfef 4 (some .int), Cond.methodLink RJ2 96 yJ2_checkBoundsBeginEnd_d044e, Cond.static yJ2_checkBoundsBeginEnd_d044e, Cond.code yJ2_checkBoundsBeginEnd_d044e cJ2_checkBoundsBeginEnd_d044e 3 none, Cond.methodLink RJ2 48 yJ2_length_9d52b, Cond.static yJ2_length_9d52b, Cond.code yJ2_length_9d52b cJ2_length_9d52b 1 (some .int), Cond.methodLink RJ2 241 yJ0_checkBoundsBeginEnd_23922]
def wsX1_readFrom_r5 : List Cond := [Cond.static yJ0_checkBoundsBeginEnd_23922, Cond.code yJ0_checkBoundsBeginEnd_23922 cJ0_checkBoundsBeginEnd_23922 3 none, Cond.fieldLink RJ0 1053 "jdk/internal/util/Preconditions" "SIOOBE_FORMATTER" "Ljava/util/function/BiFunction;", Cond.methodLink RJ0 1062 yJ3_checkFromToIndex_8c36e, Cond.static yJ3_checkFromToIndex_8c36e, Cond.initialized RJ3, Cond.code yJ3_checkFromToIndex_8c36e cJ3_checkFromToIndex_8c36e 4 (some .int), Cond.methodLink RJ2 244 yJ2_indexOfCharUnsafe_4cfef, Cond.static yJ2_indexOfCharUnsafe_4cfef, Cond.code yJ2_indexOfCharUnsafe_4cfef cJ2_indexOfCharUnsafe_4cfef 5 (some .int), Cond.methodLink RJ2 71 yJ2_getChar_3b067, Cond.static yJ2_getChar_3b067, Cond.code yJ2_getChar_3b067 cJ2_getChar_3b067 2 (some .char), Cond.fieldLink RJ2 44 "java/lang/StringUTF16" "$assertionsDisabled" "Z", Cond.fieldLink RJ2 59 "java/lang/StringUTF16" "HI_BYTE_SHIFT" "I", Cond.fieldLink RJ2 63 "java/lang/StringUTF16" "LO_BYTE_SHIFT" "I", Cond.methodLink RJ2 232 yJ2_indexOfSupplementary_4cfef, Cond.static yJ2_indexOfSupplementary_4cfef, Cond.code yJ2_indexOfSupplementary_4cfef cJ2_indexOfSupplementary_4cfef 7 (some .int), Cond.methodLink RJ2 164 yJ11_isValidCodePoint_9a6ad, Cond.static yJ11_isValidCodePoint_9a6ad, Cond.initialized RJ11, Cond.code yJ11_isValidCodePoint_9a6ad cJ11_isValidCodePoint_9a6ad 2 (some .boolean), Cond.methodLink RJ2 157 yJ11_highSurrogate_5068e]
def wsX1_readFrom_r6 : List Cond := [Cond.static yJ11_highSurrogate_5068e, Cond.code yJ11_highSurrogate_5068e cJ11_highSurrogate_5068e 1 (some .char), Cond.constant RJ11 110 (55232), Cond.methodLink RJ2 161 yJ11_lowSurrogate_5068e, Cond.static yJ11_lowSurrogate_5068e, Cond.code yJ11_lowSurrogate_5068e cJ11_lowSurrogate_5068e 1 (some .char), Cond.constant RJ11 76 (56320), Cond.methodLink RX1 66 yX5_digitAt, Cond.instanceMethod yX5_digitAt, Cond.selects RX5 yX5_digitAt yX5_digitAt, Cond.code yX5_digitAt cX5_digitAt 2 (some .int)]
def wsX1_readFrom : List Cond := .code yX1_readFrom cX1_readFrom 4 none :: ((wsX1_readFrom_r1 ++ (wsX1_readFrom_r2 ++ (wsX1_readFrom_r3 ++ (wsX1_readFrom_r4 ++ (wsX1_readFrom_r5 ++ wsX1_readFrom_r6))))) ++ wsX10 ++ wsX50)
def wsX9_copyRow : List Cond := .code yX9_copyRow cX9_copyRow 2 none :: ([.methodLink RX9 264 Lib.Math.min.name, .static Lib.Math.min.name, .initialized "java/lang/Math", .code Lib.Math.min.name Lib.Math.min.code 2 (some .int), .methodLink RX9 267 arraycopyName, .native arraycopyName, .static arraycopyName, .initialized "java/lang/System"])
def wsX1_takeFrom : List Cond := .code yX1_takeFrom cX1_takeFrom 2 none :: ([.fieldLink RX1 9 "WorstVoice$Choir" "kinds" "[I", .fieldLink RX1 15 "WorstVoice$Choir" "faults" "[I", .fieldLink RX1 18 "WorstVoice$Choir" "colds" "[I", .fieldLink RX1 21 "WorstVoice$Choir" "lefts" "[I", .fieldLink RX1 24 "WorstVoice$Choir" "honeys" "[I", .fieldLink RX1 27 "WorstVoice$Choir" "minded" "[I", .fieldLink RX1 46 "WorstVoice$Choir" "singers" "I", .fieldLink RX1 56 "WorstVoice$Choir" "widows" "I", .fieldLink RX1 59 "WorstVoice$Choir" "weeks" "I", .static yX9_copyRow, .initialized RX9, .code yX9_copyRow cX9_copyRow 2 none, .methodLink RX9 264 Lib.Math.min.name, .static Lib.Math.min.name, .initialized "java/lang/Math", .code Lib.Math.min.name Lib.Math.min.code 2 (some .int), .methodLink RX9 267 arraycopyName, .native arraycopyName, .static arraycopyName, .initialized "java/lang/System"] ++ wsX10)
def wsX1_isEmpty : List Cond := .code yX1_isEmpty cX1_isEmpty 1 (some .boolean) :: ([.fieldLink RX1 46 "WorstVoice$Choir" "singers" "I"] ++ wsX10)
def wsX1_hasWidow : List Cond := .code yX1_hasWidow cX1_hasWidow 2 (some .boolean) :: ([.fieldLink RX1 56 "WorstVoice$Choir" "widows" "I"] ++ wsX10)
def wsX8_ofKind : List Cond := .code yX8_ofKind cX8_ofKind 2 (some (.object "WorstVoice$Singer")) :: ([.fieldLink RX8 21 "WorstVoice$Voices" "tenor" "LWorstVoice$Tenor;", .fieldLink RX8 28 "WorstVoice$Voices" "boy" "LWorstVoice$Boy;", .fieldLink RX8 35 "WorstVoice$Voices" "deaf" "LWorstVoice$Deaf;", .fieldLink RX8 42 "WorstVoice$Voices" "chorister" "LWorstVoice$Chorister;", .fieldLink RX8 12 "WorstVoice$Voices" "plain" "LWorstVoice$Singer;"] ++ wsX80)
def wsX1_voice : List Cond := .code yX1_voice cX1_voice 2 (some (.object "WorstVoice$Singer")) :: ([.fieldLink RX1 30 "WorstVoice$Choir" "voices" "LWorstVoice$Voices;", .fieldLink RX1 9 "WorstVoice$Choir" "kinds" "[I", .methodLink RX1 70 yX1_hasSinger, .instanceMethod yX1_hasSinger, .selects RX1 yX1_hasSinger yX1_hasSinger, .initialized RX1, .code yX1_hasSinger cX1_hasSinger 2 (some .boolean), .fieldLink RX1 46 "WorstVoice$Choir" "singers" "I", .methodLink RX1 81 yX8_ofKind, .instanceMethod yX8_ofKind, .selects RX8 yX8_ofKind yX8_ofKind, .initialized RX8, .code yX8_ofKind cX8_ofKind 2 (some (.object "WorstVoice$Singer")), .fieldLink RX8 21 "WorstVoice$Voices" "tenor" "LWorstVoice$Tenor;", .fieldLink RX8 28 "WorstVoice$Voices" "boy" "LWorstVoice$Boy;", .fieldLink RX8 35 "WorstVoice$Voices" "deaf" "LWorstVoice$Deaf;", .fieldLink RX8 42 "WorstVoice$Voices" "chorister" "LWorstVoice$Chorister;", .fieldLink RX8 12 "WorstVoice$Voices" "plain" "LWorstVoice$Singer;"] ++ wsX10 ++ wsX80)
def wsX1_coldOf : List Cond := .code yX1_coldOf cX1_coldOf 2 (some .int) :: ([.fieldLink RX1 18 "WorstVoice$Choir" "colds" "[I", .methodLink RX1 70 yX1_hasSinger, .instanceMethod yX1_hasSinger, .selects RX1 yX1_hasSinger yX1_hasSinger, .initialized RX1, .code yX1_hasSinger cX1_hasSinger 2 (some .boolean), .fieldLink RX1 46 "WorstVoice$Choir" "singers" "I"] ++ wsX10)
def wsX1_leftOf : List Cond := .code yX1_leftOf cX1_leftOf 2 (some .int) :: ([.fieldLink RX1 21 "WorstVoice$Choir" "lefts" "[I", .methodLink RX1 70 yX1_hasSinger, .instanceMethod yX1_hasSinger, .selects RX1 yX1_hasSinger yX1_hasSinger, .initialized RX1, .code yX1_hasSinger cX1_hasSinger 2 (some .boolean), .fieldLink RX1 46 "WorstVoice$Choir" "singers" "I"] ++ wsX10)
def wsX1_honeyOf : List Cond := .code yX1_honeyOf cX1_honeyOf 2 (some .int) :: ([.fieldLink RX1 24 "WorstVoice$Choir" "honeys" "[I", .methodLink RX1 70 yX1_hasSinger, .instanceMethod yX1_hasSinger, .selects RX1 yX1_hasSinger yX1_hasSinger, .initialized RX1, .code yX1_hasSinger cX1_hasSinger 2 (some .boolean), .fieldLink RX1 46 "WorstVoice$Choir" "singers" "I"] ++ wsX10)
def wsX1_isFault : List Cond := .code yX1_isFault cX1_isFault 1 (some .boolean) :: ([])
def wsX1_faultOf : List Cond := .code yX1_faultOf cX1_faultOf 3 (some .int) :: ([.fieldLink RX1 15 "WorstVoice$Choir" "faults" "[I", .methodLink RX1 70 yX1_hasSinger, .instanceMethod yX1_hasSinger, .selects RX1 yX1_hasSinger yX1_hasSinger, .initialized RX1, .code yX1_hasSinger cX1_hasSinger 2 (some .boolean), .fieldLink RX1 46 "WorstVoice$Choir" "singers" "I", .methodLink RX1 87 yX1_isFault, .static yX1_isFault, .code yX1_isFault cX1_isFault 1 (some .boolean)] ++ wsX10)
def wsX1_minds : List Cond := .code yX1_minds cX1_minds 2 (some .int) :: ([.fieldLink RX1 27 "WorstVoice$Choir" "minded" "[I", .methodLink RX1 90 yX1_hasWidow, .instanceMethod yX1_hasWidow, .selects RX1 yX1_hasWidow yX1_hasWidow, .initialized RX1, .code yX1_hasWidow cX1_hasWidow 2 (some .boolean), .fieldLink RX1 56 "WorstVoice$Choir" "widows" "I"] ++ wsX10)
def wsX1_setCold : List Cond := .code yX1_setCold cX1_setCold 3 none :: ([.fieldLink RX1 18 "WorstVoice$Choir" "colds" "[I", .methodLink RX1 70 yX1_hasSinger, .instanceMethod yX1_hasSinger, .selects RX1 yX1_hasSinger yX1_hasSinger, .initialized RX1, .code yX1_hasSinger cX1_hasSinger 2 (some .boolean), .fieldLink RX1 46 "WorstVoice$Choir" "singers" "I"] ++ wsX10)
def wsX1_setLeft : List Cond := .code yX1_setLeft cX1_setLeft 3 none :: ([.fieldLink RX1 21 "WorstVoice$Choir" "lefts" "[I", .methodLink RX1 70 yX1_hasSinger, .instanceMethod yX1_hasSinger, .selects RX1 yX1_hasSinger yX1_hasSinger, .initialized RX1, .code yX1_hasSinger cX1_hasSinger 2 (some .boolean), .fieldLink RX1 46 "WorstVoice$Choir" "singers" "I"] ++ wsX10)
def wsX1_setHoney : List Cond := .code yX1_setHoney cX1_setHoney 3 none :: ([.fieldLink RX1 24 "WorstVoice$Choir" "honeys" "[I", .methodLink RX1 70 yX1_hasSinger, .instanceMethod yX1_hasSinger, .selects RX1 yX1_hasSinger yX1_hasSinger, .initialized RX1, .code yX1_hasSinger cX1_hasSinger 2 (some .boolean), .fieldLink RX1 46 "WorstVoice$Choir" "singers" "I"] ++ wsX10)
def wsX6_practised : List Cond := .code yX6_practised cX6_practised 2 (some .int) :: ([])
def wsX1_practiseWeek_r1 : List Cond := [Cond.fieldLink RX1 15 "WorstVoice$Choir" "faults" "[I", Cond.fieldLink RX1 59 "WorstVoice$Choir" "weeks" "I", Cond.methodLink RX1 70 yX1_hasSinger, Cond.instanceMethod yX1_hasSinger, Cond.selects RX1 yX1_hasSinger yX1_hasSinger, Cond.initialized RX1, Cond.code yX1_hasSinger cX1_hasSinger 2 (some .boolean), Cond.fieldLink RX1 46 "WorstVoice$Choir" "singers" "I", Cond.methodLink RX1 93 yX1_voice, Cond.instanceMethod yX1_voice, Cond.selects RX1 yX1_voice yX1_voice, Cond.code yX1_voice cX1_voice 2 (some (.object "WorstVoice$Singer")), Cond.fieldLink RX1 30 "WorstVoice$Choir" "voices" "LWorstVoice$Voices;", Cond.fieldLink RX1 9 "WorstVoice$Choir" "kinds" "[I", Cond.methodLink RX1 81 yX8_ofKind, Cond.instanceMethod yX8_ofKind, Cond.selects RX8 yX8_ofKind yX8_ofKind, Cond.initialized RX8, Cond.code yX8_ofKind cX8_ofKind 2 (some (.object "WorstVoice$Singer")), Cond.fieldLink RX8 21 "WorstVoice$Voices" "tenor" "LWorstVoice$Tenor;", Cond.fieldLink RX8 28 "WorstVoice$Voices" "boy" "LWorstVoice$Boy;", Cond.fieldLink RX8 35 "WorstVoice$Voices" "deaf" "LWorstVoice$Deaf;", Cond.fieldLink RX8 42 "WorstVoice$Voices" "chorister" "LWorstVoice$Chorister;", Cond.fieldLink RX8 12 "WorstVoice$Voices" "plain" "LWorstVoice$Singer;"]
def wsX1_practiseWeek_r2 : List Cond := [Cond.methodLink RX1 96 ⟨"WorstVoice$Singer", "practised", "(I)I"⟩, Cond.sameMethod "WorstVoice$Singer" "WorstVoice$Singer" "practised" "(I)I", Cond.instanceMethod ⟨"WorstVoice$Singer", "practised", "(I)I"⟩, Cond.selects RX0 ⟨"WorstVoice$Singer", "practised", "(I)I"⟩ yX0_practised, Cond.instanceMethod yX0_practised, Cond.initialized RX0, Cond.code yX0_practised cX0_practised 2 (some .int), Cond.code yX6_practised cX6_practised 2 (some .int), Cond.selects RX2 ⟨"WorstVoice$Singer", "practised", "(I)I"⟩ yX6_practised, Cond.instanceMethod yX6_practised, Cond.initialized RX6, Cond.selects RX3 ⟨"WorstVoice$Singer", "practised", "(I)I"⟩ yX6_practised, Cond.methodLink RX1 96 yX6_practised, Cond.selects RX6 yX6_practised yX6_practised, Cond.selects RX7 ⟨"WorstVoice$Singer", "practised", "(I)I"⟩ yX6_practised]
def wsX1_practiseWeek : List Cond := .code yX1_practiseWeek cX1_practiseWeek 5 (some .int) :: ((wsX1_practiseWeek_r1 ++ wsX1_practiseWeek_r2) ++ wsX10 ++ wsX80)
def wsX6_plainBad : List Cond := .code yX6_plainBad cX6_plainBad 3 (some .int) :: ([])
def wsX2_plainBad : List Cond := .code yX2_plainBad cX2_plainBad 3 (some .int) :: ([])
def wsX3_plainBad : List Cond := .code yX3_plainBad cX3_plainBad 3 (some .int) :: ([])
def wsX7_plainBad : List Cond := .code yX7_plainBad cX7_plainBad 3 (some .int) :: ([])
def wsX1_bad_r1 : List Cond := [Cond.fieldLink RX1 30 "WorstVoice$Choir" "voices" "LWorstVoice$Voices;", Cond.fieldLink RX1 9 "WorstVoice$Choir" "kinds" "[I", Cond.fieldLink RX1 15 "WorstVoice$Choir" "faults" "[I", Cond.fieldLink RX1 18 "WorstVoice$Choir" "colds" "[I", Cond.fieldLink RX1 21 "WorstVoice$Choir" "lefts" "[I", Cond.fieldLink RX1 24 "WorstVoice$Choir" "honeys" "[I", Cond.methodLink RX1 53 Lib.Math.max.name, Cond.static Lib.Math.max.name, Cond.initialized "java/lang/Math", Cond.code Lib.Math.max.name Lib.Math.max.code 2 (some .int), Cond.methodLink RX1 70 yX1_hasSinger, Cond.instanceMethod yX1_hasSinger, Cond.selects RX1 yX1_hasSinger yX1_hasSinger, Cond.initialized RX1, Cond.code yX1_hasSinger cX1_hasSinger 2 (some .boolean), Cond.fieldLink RX1 46 "WorstVoice$Choir" "singers" "I", Cond.methodLink RX1 87 yX1_isFault, Cond.static yX1_isFault, Cond.code yX1_isFault cX1_isFault 1 (some .boolean), Cond.methodLink RX1 81 yX8_ofKind, Cond.instanceMethod yX8_ofKind, Cond.selects RX8 yX8_ofKind yX8_ofKind, Cond.initialized RX8, Cond.code yX8_ofKind cX8_ofKind 2 (some (.object "WorstVoice$Singer"))]
def wsX1_bad_r2 : List Cond := [Cond.fieldLink RX8 21 "WorstVoice$Voices" "tenor" "LWorstVoice$Tenor;", Cond.fieldLink RX8 28 "WorstVoice$Voices" "boy" "LWorstVoice$Boy;", Cond.fieldLink RX8 35 "WorstVoice$Voices" "deaf" "LWorstVoice$Deaf;", Cond.fieldLink RX8 42 "WorstVoice$Voices" "chorister" "LWorstVoice$Chorister;", Cond.fieldLink RX8 12 "WorstVoice$Voices" "plain" "LWorstVoice$Singer;", Cond.methodLink RX1 101 ⟨"WorstVoice$Singer", "plainBad", "(II)I"⟩, Cond.sameMethod "WorstVoice$Singer" "WorstVoice$Singer" "plainBad" "(II)I", Cond.instanceMethod ⟨"WorstVoice$Singer", "plainBad", "(II)I"⟩, Cond.selects RX0 ⟨"WorstVoice$Singer", "plainBad", "(II)I"⟩ yX0_plainBad, Cond.instanceMethod yX0_plainBad, Cond.initialized RX0, Cond.code yX0_plainBad cX0_plainBad 3 (some .int), Cond.code yX6_plainBad cX6_plainBad 3 (some .int), Cond.selects RX2 ⟨"WorstVoice$Singer", "plainBad", "(II)I"⟩ yX2_plainBad, Cond.instanceMethod yX2_plainBad, Cond.initialized RX2, Cond.code yX2_plainBad cX2_plainBad 3 (some .int), Cond.selects RX3 ⟨"WorstVoice$Singer", "plainBad", "(II)I"⟩ yX3_plainBad, Cond.instanceMethod yX3_plainBad, Cond.initialized RX3, Cond.code yX3_plainBad cX3_plainBad 3 (some .int), Cond.methodLink RX1 101 yX6_plainBad, Cond.instanceMethod yX6_plainBad, Cond.selects RX6 yX6_plainBad yX6_plainBad]
def wsX1_bad_r3 : List Cond := [Cond.initialized RX6, Cond.selects RX7 ⟨"WorstVoice$Singer", "plainBad", "(II)I"⟩ yX7_plainBad, Cond.instanceMethod yX7_plainBad, Cond.initialized RX7, Cond.code yX7_plainBad cX7_plainBad 3 (some .int)]
def wsX1_bad : List Cond := .code yX1_bad cX1_bad 4 (some .int) :: ((wsX1_bad_r1 ++ (wsX1_bad_r2 ++ wsX1_bad_r3)) ++ wsX10 ++ wsX80)
def wsX1_favourite_r1 : List Cond := [Cond.fieldLink RX1 46 "WorstVoice$Choir" "singers" "I", Cond.methodLink RX1 104 yX1_minds, Cond.instanceMethod yX1_minds, Cond.selects RX1 yX1_minds yX1_minds, Cond.initialized RX1, Cond.code yX1_minds cX1_minds 2 (some .int), Cond.fieldLink RX1 27 "WorstVoice$Choir" "minded" "[I", Cond.methodLink RX1 90 yX1_hasWidow, Cond.instanceMethod yX1_hasWidow, Cond.selects RX1 yX1_hasWidow yX1_hasWidow, Cond.code yX1_hasWidow cX1_hasWidow 2 (some .boolean), Cond.fieldLink RX1 56 "WorstVoice$Choir" "widows" "I", Cond.methodLink RX1 107 yX1_bad, Cond.instanceMethod yX1_bad, Cond.selects RX1 yX1_bad yX1_bad, Cond.code yX1_bad cX1_bad 4 (some .int), Cond.fieldLink RX1 30 "WorstVoice$Choir" "voices" "LWorstVoice$Voices;", Cond.fieldLink RX1 9 "WorstVoice$Choir" "kinds" "[I", Cond.fieldLink RX1 15 "WorstVoice$Choir" "faults" "[I", Cond.fieldLink RX1 18 "WorstVoice$Choir" "colds" "[I", Cond.fieldLink RX1 21 "WorstVoice$Choir" "lefts" "[I", Cond.fieldLink RX1 24 "WorstVoice$Choir" "honeys" "[I", Cond.methodLink RX1 53 Lib.Math.max.name, Cond.static Lib.Math.max.name]
def wsX1_favourite_r2 : List Cond := [Cond.initialized "java/lang/Math", Cond.code Lib.Math.max.name Lib.Math.max.code 2 (some .int), Cond.methodLink RX1 70 yX1_hasSinger, Cond.instanceMethod yX1_hasSinger, Cond.selects RX1 yX1_hasSinger yX1_hasSinger, Cond.code yX1_hasSinger cX1_hasSinger 2 (some .boolean), Cond.methodLink RX1 87 yX1_isFault, Cond.static yX1_isFault, Cond.code yX1_isFault cX1_isFault 1 (some .boolean), Cond.methodLink RX1 81 yX8_ofKind, Cond.instanceMethod yX8_ofKind, Cond.selects RX8 yX8_ofKind yX8_ofKind, Cond.initialized RX8, Cond.code yX8_ofKind cX8_ofKind 2 (some (.object "WorstVoice$Singer")), Cond.fieldLink RX8 21 "WorstVoice$Voices" "tenor" "LWorstVoice$Tenor;", Cond.fieldLink RX8 28 "WorstVoice$Voices" "boy" "LWorstVoice$Boy;", Cond.fieldLink RX8 35 "WorstVoice$Voices" "deaf" "LWorstVoice$Deaf;", Cond.fieldLink RX8 42 "WorstVoice$Voices" "chorister" "LWorstVoice$Chorister;", Cond.fieldLink RX8 12 "WorstVoice$Voices" "plain" "LWorstVoice$Singer;", Cond.methodLink RX1 101 ⟨"WorstVoice$Singer", "plainBad", "(II)I"⟩, Cond.sameMethod "WorstVoice$Singer" "WorstVoice$Singer" "plainBad" "(II)I", Cond.instanceMethod ⟨"WorstVoice$Singer", "plainBad", "(II)I"⟩, Cond.selects RX0 ⟨"WorstVoice$Singer", "plainBad", "(II)I"⟩ yX0_plainBad, Cond.instanceMethod yX0_plainBad]
def wsX1_favourite_r3 : List Cond := [Cond.initialized RX0, Cond.code yX0_plainBad cX0_plainBad 3 (some .int), Cond.code yX6_plainBad cX6_plainBad 3 (some .int), Cond.selects RX2 ⟨"WorstVoice$Singer", "plainBad", "(II)I"⟩ yX2_plainBad, Cond.instanceMethod yX2_plainBad, Cond.initialized RX2, Cond.code yX2_plainBad cX2_plainBad 3 (some .int), Cond.selects RX3 ⟨"WorstVoice$Singer", "plainBad", "(II)I"⟩ yX3_plainBad, Cond.instanceMethod yX3_plainBad, Cond.initialized RX3, Cond.code yX3_plainBad cX3_plainBad 3 (some .int), Cond.methodLink RX1 101 yX6_plainBad, Cond.instanceMethod yX6_plainBad, Cond.selects RX6 yX6_plainBad yX6_plainBad, Cond.initialized RX6, Cond.selects RX7 ⟨"WorstVoice$Singer", "plainBad", "(II)I"⟩ yX7_plainBad, Cond.instanceMethod yX7_plainBad, Cond.initialized RX7, Cond.code yX7_plainBad cX7_plainBad 3 (some .int)]
def wsX1_favourite : List Cond := .code yX1_favourite cX1_favourite 5 (some .int) :: ((wsX1_favourite_r1 ++ (wsX1_favourite_r2 ++ wsX1_favourite_r3)) ++ wsX10 ++ wsX80)
def wsX1_votes_r1 : List Cond := [Cond.fieldLink RX1 56 "WorstVoice$Choir" "widows" "I", Cond.methodLink RX1 110 yX1_favourite, Cond.instanceMethod yX1_favourite, Cond.selects RX1 yX1_favourite yX1_favourite, Cond.initialized RX1, Cond.code yX1_favourite cX1_favourite 5 (some .int), Cond.fieldLink RX1 46 "WorstVoice$Choir" "singers" "I", Cond.methodLink RX1 104 yX1_minds, Cond.instanceMethod yX1_minds, Cond.selects RX1 yX1_minds yX1_minds, Cond.code yX1_minds cX1_minds 2 (some .int), Cond.fieldLink RX1 27 "WorstVoice$Choir" "minded" "[I", Cond.methodLink RX1 90 yX1_hasWidow, Cond.instanceMethod yX1_hasWidow, Cond.selects RX1 yX1_hasWidow yX1_hasWidow, Cond.code yX1_hasWidow cX1_hasWidow 2 (some .boolean), Cond.methodLink RX1 107 yX1_bad, Cond.instanceMethod yX1_bad, Cond.selects RX1 yX1_bad yX1_bad, Cond.code yX1_bad cX1_bad 4 (some .int), Cond.fieldLink RX1 30 "WorstVoice$Choir" "voices" "LWorstVoice$Voices;", Cond.fieldLink RX1 9 "WorstVoice$Choir" "kinds" "[I", Cond.fieldLink RX1 15 "WorstVoice$Choir" "faults" "[I", Cond.fieldLink RX1 18 "WorstVoice$Choir" "colds" "[I"]
def wsX1_votes_r2 : List Cond := [Cond.fieldLink RX1 21 "WorstVoice$Choir" "lefts" "[I", Cond.fieldLink RX1 24 "WorstVoice$Choir" "honeys" "[I", Cond.methodLink RX1 53 Lib.Math.max.name, Cond.static Lib.Math.max.name, Cond.initialized "java/lang/Math", Cond.code Lib.Math.max.name Lib.Math.max.code 2 (some .int), Cond.methodLink RX1 70 yX1_hasSinger, Cond.instanceMethod yX1_hasSinger, Cond.selects RX1 yX1_hasSinger yX1_hasSinger, Cond.code yX1_hasSinger cX1_hasSinger 2 (some .boolean), Cond.methodLink RX1 87 yX1_isFault, Cond.static yX1_isFault, Cond.code yX1_isFault cX1_isFault 1 (some .boolean), Cond.methodLink RX1 81 yX8_ofKind, Cond.instanceMethod yX8_ofKind, Cond.selects RX8 yX8_ofKind yX8_ofKind, Cond.initialized RX8, Cond.code yX8_ofKind cX8_ofKind 2 (some (.object "WorstVoice$Singer")), Cond.fieldLink RX8 21 "WorstVoice$Voices" "tenor" "LWorstVoice$Tenor;", Cond.fieldLink RX8 28 "WorstVoice$Voices" "boy" "LWorstVoice$Boy;", Cond.fieldLink RX8 35 "WorstVoice$Voices" "deaf" "LWorstVoice$Deaf;", Cond.fieldLink RX8 42 "WorstVoice$Voices" "chorister" "LWorstVoice$Chorister;", Cond.fieldLink RX8 12 "WorstVoice$Voices" "plain" "LWorstVoice$Singer;", Cond.methodLink RX1 101 ⟨"WorstVoice$Singer", "plainBad", "(II)I"⟩]
def wsX1_votes_r3 : List Cond := [Cond.sameMethod "WorstVoice$Singer" "WorstVoice$Singer" "plainBad" "(II)I", Cond.instanceMethod ⟨"WorstVoice$Singer", "plainBad", "(II)I"⟩, Cond.selects RX0 ⟨"WorstVoice$Singer", "plainBad", "(II)I"⟩ yX0_plainBad, Cond.instanceMethod yX0_plainBad, Cond.initialized RX0, Cond.code yX0_plainBad cX0_plainBad 3 (some .int), Cond.code yX6_plainBad cX6_plainBad 3 (some .int), Cond.selects RX2 ⟨"WorstVoice$Singer", "plainBad", "(II)I"⟩ yX2_plainBad, Cond.instanceMethod yX2_plainBad, Cond.initialized RX2, Cond.code yX2_plainBad cX2_plainBad 3 (some .int), Cond.selects RX3 ⟨"WorstVoice$Singer", "plainBad", "(II)I"⟩ yX3_plainBad, Cond.instanceMethod yX3_plainBad, Cond.initialized RX3, Cond.code yX3_plainBad cX3_plainBad 3 (some .int), Cond.methodLink RX1 101 yX6_plainBad, Cond.instanceMethod yX6_plainBad, Cond.selects RX6 yX6_plainBad yX6_plainBad, Cond.initialized RX6, Cond.selects RX7 ⟨"WorstVoice$Singer", "plainBad", "(II)I"⟩ yX7_plainBad, Cond.instanceMethod yX7_plainBad, Cond.initialized RX7, Cond.code yX7_plainBad cX7_plainBad 3 (some .int)]
def wsX1_votes : List Cond := .code yX1_votes cX1_votes 4 (some .int) :: ((wsX1_votes_r1 ++ (wsX1_votes_r2 ++ wsX1_votes_r3)) ++ wsX10 ++ wsX80)
def wsX1_elected_r1 : List Cond := [Cond.fieldLink RX1 46 "WorstVoice$Choir" "singers" "I", Cond.methodLink RX1 113 yX1_votes, Cond.instanceMethod yX1_votes, Cond.selects RX1 yX1_votes yX1_votes, Cond.initialized RX1, Cond.code yX1_votes cX1_votes 4 (some .int), Cond.fieldLink RX1 56 "WorstVoice$Choir" "widows" "I", Cond.methodLink RX1 110 yX1_favourite, Cond.instanceMethod yX1_favourite, Cond.selects RX1 yX1_favourite yX1_favourite, Cond.code yX1_favourite cX1_favourite 5 (some .int), Cond.methodLink RX1 104 yX1_minds, Cond.instanceMethod yX1_minds, Cond.selects RX1 yX1_minds yX1_minds, Cond.code yX1_minds cX1_minds 2 (some .int), Cond.fieldLink RX1 27 "WorstVoice$Choir" "minded" "[I", Cond.methodLink RX1 90 yX1_hasWidow, Cond.instanceMethod yX1_hasWidow, Cond.selects RX1 yX1_hasWidow yX1_hasWidow, Cond.code yX1_hasWidow cX1_hasWidow 2 (some .boolean), Cond.methodLink RX1 107 yX1_bad, Cond.instanceMethod yX1_bad, Cond.selects RX1 yX1_bad yX1_bad, Cond.code yX1_bad cX1_bad 4 (some .int)]
def wsX1_elected_r2 : List Cond := [Cond.fieldLink RX1 30 "WorstVoice$Choir" "voices" "LWorstVoice$Voices;", Cond.fieldLink RX1 9 "WorstVoice$Choir" "kinds" "[I", Cond.fieldLink RX1 15 "WorstVoice$Choir" "faults" "[I", Cond.fieldLink RX1 18 "WorstVoice$Choir" "colds" "[I", Cond.fieldLink RX1 21 "WorstVoice$Choir" "lefts" "[I", Cond.fieldLink RX1 24 "WorstVoice$Choir" "honeys" "[I", Cond.methodLink RX1 53 Lib.Math.max.name, Cond.static Lib.Math.max.name, Cond.initialized "java/lang/Math", Cond.code Lib.Math.max.name Lib.Math.max.code 2 (some .int), Cond.methodLink RX1 70 yX1_hasSinger, Cond.instanceMethod yX1_hasSinger, Cond.selects RX1 yX1_hasSinger yX1_hasSinger, Cond.code yX1_hasSinger cX1_hasSinger 2 (some .boolean), Cond.methodLink RX1 87 yX1_isFault, Cond.static yX1_isFault, Cond.code yX1_isFault cX1_isFault 1 (some .boolean), Cond.methodLink RX1 81 yX8_ofKind, Cond.instanceMethod yX8_ofKind, Cond.selects RX8 yX8_ofKind yX8_ofKind, Cond.initialized RX8, Cond.code yX8_ofKind cX8_ofKind 2 (some (.object "WorstVoice$Singer")), Cond.fieldLink RX8 21 "WorstVoice$Voices" "tenor" "LWorstVoice$Tenor;", Cond.fieldLink RX8 28 "WorstVoice$Voices" "boy" "LWorstVoice$Boy;"]
def wsX1_elected_r3 : List Cond := [Cond.fieldLink RX8 35 "WorstVoice$Voices" "deaf" "LWorstVoice$Deaf;", Cond.fieldLink RX8 42 "WorstVoice$Voices" "chorister" "LWorstVoice$Chorister;", Cond.fieldLink RX8 12 "WorstVoice$Voices" "plain" "LWorstVoice$Singer;", Cond.methodLink RX1 101 ⟨"WorstVoice$Singer", "plainBad", "(II)I"⟩, Cond.sameMethod "WorstVoice$Singer" "WorstVoice$Singer" "plainBad" "(II)I", Cond.instanceMethod ⟨"WorstVoice$Singer", "plainBad", "(II)I"⟩, Cond.selects RX0 ⟨"WorstVoice$Singer", "plainBad", "(II)I"⟩ yX0_plainBad, Cond.instanceMethod yX0_plainBad, Cond.initialized RX0, Cond.code yX0_plainBad cX0_plainBad 3 (some .int), Cond.code yX6_plainBad cX6_plainBad 3 (some .int), Cond.selects RX2 ⟨"WorstVoice$Singer", "plainBad", "(II)I"⟩ yX2_plainBad, Cond.instanceMethod yX2_plainBad, Cond.initialized RX2, Cond.code yX2_plainBad cX2_plainBad 3 (some .int), Cond.selects RX3 ⟨"WorstVoice$Singer", "plainBad", "(II)I"⟩ yX3_plainBad, Cond.instanceMethod yX3_plainBad, Cond.initialized RX3, Cond.code yX3_plainBad cX3_plainBad 3 (some .int), Cond.methodLink RX1 101 yX6_plainBad, Cond.instanceMethod yX6_plainBad, Cond.selects RX6 yX6_plainBad yX6_plainBad, Cond.initialized RX6, Cond.selects RX7 ⟨"WorstVoice$Singer", "plainBad", "(II)I"⟩ yX7_plainBad]
def wsX1_elected_r4 : List Cond := [Cond.instanceMethod yX7_plainBad, Cond.initialized RX7, Cond.code yX7_plainBad cX7_plainBad 3 (some .int)]
def wsX1_elected : List Cond := .code yX1_elected cX1_elected 3 (some .int) :: ((wsX1_elected_r1 ++ (wsX1_elected_r2 ++ (wsX1_elected_r3 ++ wsX1_elected_r4))) ++ wsX10 ++ wsX80)
def wsX1_coldsOfAll : List Cond := .code yX1_coldsOfAll cX1_coldsOfAll 3 (some .int) :: ([.fieldLink RX1 46 "WorstVoice$Choir" "singers" "I", .methodLink RX1 116 yX1_coldOf, .instanceMethod yX1_coldOf, .selects RX1 yX1_coldOf yX1_coldOf, .initialized RX1, .code yX1_coldOf cX1_coldOf 2 (some .int), .fieldLink RX1 18 "WorstVoice$Choir" "colds" "[I", .methodLink RX1 70 yX1_hasSinger, .instanceMethod yX1_hasSinger, .selects RX1 yX1_hasSinger yX1_hasSinger, .code yX1_hasSinger cX1_hasSinger 2 (some .boolean)] ++ wsX10)
def wsX1_honeyOfAll : List Cond := .code yX1_honeyOfAll cX1_honeyOfAll 3 (some .int) :: ([.fieldLink RX1 46 "WorstVoice$Choir" "singers" "I", .methodLink RX1 119 yX1_honeyOf, .instanceMethod yX1_honeyOf, .selects RX1 yX1_honeyOf yX1_honeyOf, .initialized RX1, .code yX1_honeyOf cX1_honeyOf 2 (some .int), .fieldLink RX1 24 "WorstVoice$Choir" "honeys" "[I", .methodLink RX1 70 yX1_hasSinger, .instanceMethod yX1_hasSinger, .selects RX1 yX1_hasSinger yX1_hasSinger, .code yX1_hasSinger cX1_hasSinger 2 (some .boolean)] ++ wsX10)
def wsX7_init : List Cond := .code yX7_init cX7_init 1 none :: ([.instanceMethod yX6_init, .initialized RX6, .code yX6_init cX6_init 1 none, .methodLink RX6 3 objectInit, .instanceMethod objectInit, .code objectInit ⟨#[0xb1]⟩ 1 none])
def wsX2_init : List Cond := .code yX2_init cX2_init 1 none :: ([.instanceMethod yX7_init, .initialized RX7, .code yX7_init cX7_init 1 none, .instanceMethod yX6_init, .initialized RX6, .code yX6_init cX6_init 1 none, .methodLink RX6 3 objectInit, .instanceMethod objectInit, .code objectInit ⟨#[0xb1]⟩ 1 none])
def wsX2_number : List Cond := .code yX2_number cX2_number 1 (some .int) :: ([])
def wsX3_init : List Cond := .code yX3_init cX3_init 1 none :: ([.instanceMethod yX6_init, .initialized RX6, .code yX6_init cX6_init 1 none, .methodLink RX6 3 objectInit, .instanceMethod objectInit, .code objectInit ⟨#[0xb1]⟩ 1 none])
def wsX3_number : List Cond := .code yX3_number cX3_number 1 (some .int) :: ([])
def wsX4_init : List Cond := .code yX4_init cX4_init 1 none :: ([.methodLink RX4 3 objectInit, .instanceMethod objectInit, .code objectInit ⟨#[0xb1]⟩ 1 none, .arrayClass .int, .fieldLink RX4 9 "WorstVoice$Hearsay" "widows" "[I", .fieldLink RX4 15 "WorstVoice$Hearsay" "firsts" "[I", .fieldLink RX4 18 "WorstVoice$Hearsay" "seconds" "[I", .fieldLink RX4 21 "WorstVoice$Hearsay" "mores" "[I"] ++ wsX40)
def wsX4_add : List Cond := .code yX4_add cX4_add 5 (some .boolean) :: ([.fieldLink RX4 24 "WorstVoice$Hearsay" "size" "I", .fieldLink RX4 9 "WorstVoice$Hearsay" "widows" "[I", .fieldLink RX4 15 "WorstVoice$Hearsay" "firsts" "[I", .fieldLink RX4 18 "WorstVoice$Hearsay" "seconds" "[I", .fieldLink RX4 21 "WorstVoice$Hearsay" "mores" "[I"] ++ wsX40)
def wsX4_clear : List Cond := .code yX4_clear cX4_clear 2 (some .int) :: ([.fieldLink RX4 24 "WorstVoice$Hearsay" "size" "I"] ++ wsX40)
def wsX4_takeFrom : List Cond := .code yX4_takeFrom cX4_takeFrom 2 none :: ([.fieldLink RX4 9 "WorstVoice$Hearsay" "widows" "[I", .fieldLink RX4 15 "WorstVoice$Hearsay" "firsts" "[I", .fieldLink RX4 18 "WorstVoice$Hearsay" "seconds" "[I", .fieldLink RX4 21 "WorstVoice$Hearsay" "mores" "[I", .fieldLink RX4 24 "WorstVoice$Hearsay" "size" "I", .static yX9_copyRow, .initialized RX9, .code yX9_copyRow cX9_copyRow 2 none, .methodLink RX9 264 Lib.Math.min.name, .static Lib.Math.min.name, .initialized "java/lang/Math", .code Lib.Math.min.name Lib.Math.min.code 2 (some .int), .methodLink RX9 267 arraycopyName, .native arraycopyName, .static arraycopyName, .initialized "java/lang/System"] ++ wsX40)
def wsX4_wouldBeSo_r1 : List Cond := [Cond.fieldLink RX4 24 "WorstVoice$Hearsay" "size" "I", Cond.fieldLink RX4 15 "WorstVoice$Hearsay" "firsts" "[I", Cond.fieldLink RX4 18 "WorstVoice$Hearsay" "seconds" "[I", Cond.fieldLink RX4 9 "WorstVoice$Hearsay" "widows" "[I", Cond.fieldLink RX4 21 "WorstVoice$Hearsay" "mores" "[I", Cond.methodLink RX4 32 yX1_bad, Cond.instanceMethod yX1_bad, Cond.selects RX1 yX1_bad yX1_bad, Cond.initialized RX1, Cond.code yX1_bad cX1_bad 4 (some .int), Cond.fieldLink RX1 30 "WorstVoice$Choir" "voices" "LWorstVoice$Voices;", Cond.fieldLink RX1 9 "WorstVoice$Choir" "kinds" "[I", Cond.fieldLink RX1 15 "WorstVoice$Choir" "faults" "[I", Cond.fieldLink RX1 18 "WorstVoice$Choir" "colds" "[I", Cond.fieldLink RX1 21 "WorstVoice$Choir" "lefts" "[I", Cond.fieldLink RX1 24 "WorstVoice$Choir" "honeys" "[I", Cond.methodLink RX1 53 Lib.Math.max.name, Cond.static Lib.Math.max.name, Cond.initialized "java/lang/Math", Cond.code Lib.Math.max.name Lib.Math.max.code 2 (some .int), Cond.methodLink RX1 70 yX1_hasSinger, Cond.instanceMethod yX1_hasSinger, Cond.selects RX1 yX1_hasSinger yX1_hasSinger, Cond.code yX1_hasSinger cX1_hasSinger 2 (some .boolean)]
def wsX4_wouldBeSo_r2 : List Cond := [Cond.fieldLink RX1 46 "WorstVoice$Choir" "singers" "I", Cond.methodLink RX1 87 yX1_isFault, Cond.static yX1_isFault, Cond.code yX1_isFault cX1_isFault 1 (some .boolean), Cond.methodLink RX1 81 yX8_ofKind, Cond.instanceMethod yX8_ofKind, Cond.selects RX8 yX8_ofKind yX8_ofKind, Cond.initialized RX8, Cond.code yX8_ofKind cX8_ofKind 2 (some (.object "WorstVoice$Singer")), Cond.fieldLink RX8 21 "WorstVoice$Voices" "tenor" "LWorstVoice$Tenor;", Cond.fieldLink RX8 28 "WorstVoice$Voices" "boy" "LWorstVoice$Boy;", Cond.fieldLink RX8 35 "WorstVoice$Voices" "deaf" "LWorstVoice$Deaf;", Cond.fieldLink RX8 42 "WorstVoice$Voices" "chorister" "LWorstVoice$Chorister;", Cond.fieldLink RX8 12 "WorstVoice$Voices" "plain" "LWorstVoice$Singer;", Cond.methodLink RX1 101 ⟨"WorstVoice$Singer", "plainBad", "(II)I"⟩, Cond.sameMethod "WorstVoice$Singer" "WorstVoice$Singer" "plainBad" "(II)I", Cond.instanceMethod ⟨"WorstVoice$Singer", "plainBad", "(II)I"⟩, Cond.selects RX0 ⟨"WorstVoice$Singer", "plainBad", "(II)I"⟩ yX0_plainBad, Cond.instanceMethod yX0_plainBad, Cond.initialized RX0, Cond.code yX0_plainBad cX0_plainBad 3 (some .int), Cond.code yX6_plainBad cX6_plainBad 3 (some .int), Cond.selects RX2 ⟨"WorstVoice$Singer", "plainBad", "(II)I"⟩ yX2_plainBad, Cond.instanceMethod yX2_plainBad]
def wsX4_wouldBeSo_r3 : List Cond := [Cond.initialized RX2, Cond.code yX2_plainBad cX2_plainBad 3 (some .int), Cond.selects RX3 ⟨"WorstVoice$Singer", "plainBad", "(II)I"⟩ yX3_plainBad, Cond.instanceMethod yX3_plainBad, Cond.initialized RX3, Cond.code yX3_plainBad cX3_plainBad 3 (some .int), Cond.methodLink RX1 101 yX6_plainBad, Cond.instanceMethod yX6_plainBad, Cond.selects RX6 yX6_plainBad yX6_plainBad, Cond.initialized RX6, Cond.selects RX7 ⟨"WorstVoice$Singer", "plainBad", "(II)I"⟩ yX7_plainBad, Cond.instanceMethod yX7_plainBad, Cond.initialized RX7, Cond.code yX7_plainBad cX7_plainBad 3 (some .int)]
def wsX4_wouldBeSo : List Cond := .code yX4_wouldBeSo cX4_wouldBeSo 6 (some .boolean) :: ((wsX4_wouldBeSo_r1 ++ (wsX4_wouldBeSo_r2 ++ wsX4_wouldBeSo_r3)) ++ wsX40 ++ wsX10 ++ wsX80)
def wsX5_init : List Cond := .code yX5_init cX5_init 1 none :: ([.methodLink RX5 3 objectInit, .instanceMethod objectInit, .code objectInit ⟨#[0xb1]⟩ 1 none, .arrayClass .int, .fieldLink RX5 9 "WorstVoice$Page" "codes" "[I"] ++ wsX50)
def wsX5_write : List Cond := .code yX5_write cX5_write 2 (some .boolean) :: ([.fieldLink RX5 15 "WorstVoice$Page" "length" "I", .fieldLink RX5 9 "WorstVoice$Page" "codes" "[I"] ++ wsX50)
def wsX5_wipe : List Cond := .code yX5_wipe cX5_wipe 2 (some .int) :: ([.fieldLink RX5 15 "WorstVoice$Page" "length" "I"] ++ wsX50)
def wsX5_fitsSingers_r1 : List Cond := [Cond.methodLink RX5 23 yX5_kindOf, Cond.static yX5_kindOf, Cond.initialized RX5, Cond.code yX5_kindOf cX5_kindOf 1 (some .int), Cond.methodLink RX5 42 yJ0_indexOf_0f7a4, Cond.instanceMethod yJ0_indexOf_0f7a4, Cond.selects RJ0 yJ0_indexOf_0f7a4 yJ0_indexOf_0f7a4, Cond.initialized RJ0, Cond.code yJ0_indexOf_0f7a4 cJ0_indexOf_0f7a4 2 (some .int), Cond.methodLink RJ0 633 yJ0_indexOf_7cf53, Cond.instanceMethod yJ0_indexOf_7cf53, Cond.selects RJ0 yJ0_indexOf_7cf53 yJ0_indexOf_7cf53, Cond.code yJ0_indexOf_7cf53 cJ0_indexOf_7cf53 3 (some .int), Cond.fieldLink RJ0 9 "java/lang/String" "value" "[B", Cond.methodLink RJ0 492 yJ0_isLatin1_aae02, Cond.instanceMethod yJ0_isLatin1_aae02, Cond.selects RJ0 yJ0_isLatin1_aae02 yJ0_isLatin1_aae02, Cond.code yJ0_isLatin1_aae02 cJ0_isLatin1_aae02 1 (some .boolean), Cond.fieldLink RJ0 38 "java/lang/String" "COMPACT_STRINGS" "Z", Cond.fieldLink RJ0 15 "java/lang/String" "coder" "B", Cond.methodLink RJ0 505 yJ0_length_8abf5, Cond.instanceMethod yJ0_length_8abf5, Cond.selects RJ0 yJ0_length_8abf5 yJ0_length_8abf5, Cond.code yJ0_length_8abf5 cJ0_length_8abf5 1 (some .int)]
def wsX5_fitsSingers_r2 : List Cond := [Cond.methodLink RJ0 335 yJ0_coder_7d493, Cond.instanceMethod yJ0_coder_7d493, Cond.selects RJ0 yJ0_coder_7d493 yJ0_coder_7d493, Cond.code yJ0_coder_7d493 cJ0_coder_7d493 1 (some .byte), Cond.methodLink RJ0 637 yJ1_indexOf_4cfef, Cond.static yJ1_indexOf_4cfef, Cond.initialized RJ1, Cond.code yJ1_indexOf_4cfef cJ1_indexOf_4cfef 4 (some .int), Cond.methodLink RJ1 92 Lib.Math.max.name, Cond.static Lib.Math.max.name, Cond.initialized "java/lang/Math", Cond.code Lib.Math.max.name Lib.Math.max.code 2 (some .int), Cond.methodLink RJ1 38 Lib.Math.min.name, Cond.static Lib.Math.min.name, Cond.code Lib.Math.min.name Lib.Math.min.code 2 (some .int), Cond.methodLink RJ1 88 yJ1_canEncode_9a6ad, Cond.static yJ1_canEncode_9a6ad, Cond.code yJ1_canEncode_9a6ad cJ1_canEncode_9a6ad 1 (some .boolean), Cond.methodLink RJ1 95 yJ1_indexOfChar_4cfef, Cond.static yJ1_indexOfChar_4cfef, Cond.code yJ1_indexOfChar_4cfef cJ1_indexOfChar_4cfef 6 (some .int), Cond.methodLink RJ0 640 yJ2_indexOf_4cfef, Cond.static yJ2_indexOf_4cfef, Cond.initialized RJ2]
def wsX5_fitsSingers_r3 : List Cond := [Cond.code yJ2_indexOf_4cfef cJ2_indexOf_4cfef 4 (some .int), Cond.methodLink RJ2 224 Lib.Math.max.name, Cond.methodLink RJ2 183 Lib.Math.min.name, Cond.constant RJ2 227 (65536), Cond.methodLink RJ2 228 yJ2_indexOfChar_4cfef, Cond.static yJ2_indexOfChar_4cfef, Cond.code yJ2_indexOfChar_4cfef cJ2_indexOfChar_4cfef 4 (some .int), Cond.methodLink RJ2 96 yJ2_checkBoundsBeginEnd_d044e, Cond.static yJ2_checkBoundsBeginEnd_d044e, Cond.code yJ2_checkBoundsBeginEnd_d044e cJ2_checkBoundsBeginEnd_d044e 3 none, Cond.methodLink RJ2 48 yJ2_length_9d52b, Cond.static yJ2_length_9d52b, Cond.code yJ2_length_9d52b cJ2_length_9d52b 1 (some .int), Cond.methodLink RJ2 241 yJ0_checkBoundsBeginEnd_23922, Cond.static yJ0_checkBoundsBeginEnd_23922, Cond.code yJ0_checkBoundsBeginEnd_23922 cJ0_checkBoundsBeginEnd_23922 3 none, Cond.fieldLink RJ0 1053 "jdk/internal/util/Preconditions" "SIOOBE_FORMATTER" "Ljava/util/function/BiFunction;", Cond.methodLink RJ0 1062 yJ3_checkFromToIndex_8c36e, Cond.static yJ3_checkFromToIndex_8c36e, Cond.initialized RJ3, Cond.code yJ3_checkFromToIndex_8c36e cJ3_checkFromToIndex_8c36e 4 (some .int), Cond.methodLink RJ2 244 yJ2_indexOfCharUnsafe_4cfef, Cond.static yJ2_indexOfCharUnsafe_4cfef, Cond.code yJ2_indexOfCharUnsafe_4cfef cJ2_indexOfCharUnsafe_4cfef 5 (some .int)]
def wsX5_fitsSingers_r4 : List Cond := [Cond.methodLink RJ2 71 yJ2_getChar_3b067, Cond.static yJ2_getChar_3b067, Cond.code yJ2_getChar_3b067 cJ2_getChar_3b067 2 (some .char), Cond.fieldLink RJ2 44 "java/lang/StringUTF16" "$assertionsDisabled" "Z", Cond.fieldLink RJ2 59 "java/lang/StringUTF16" "HI_BYTE_SHIFT" "I", Cond.fieldLink RJ2 63 "java/lang/StringUTF16" "LO_BYTE_SHIFT" "I", Cond.methodLink RJ2 232 yJ2_indexOfSupplementary_4cfef, Cond.static yJ2_indexOfSupplementary_4cfef, Cond.code yJ2_indexOfSupplementary_4cfef cJ2_indexOfSupplementary_4cfef 7 (some .int), Cond.methodLink RJ2 164 yJ11_isValidCodePoint_9a6ad, Cond.static yJ11_isValidCodePoint_9a6ad, Cond.initialized RJ11, Cond.code yJ11_isValidCodePoint_9a6ad cJ11_isValidCodePoint_9a6ad 2 (some .boolean), Cond.methodLink RJ2 157 yJ11_highSurrogate_5068e, Cond.static yJ11_highSurrogate_5068e, Cond.code yJ11_highSurrogate_5068e cJ11_highSurrogate_5068e 1 (some .char), Cond.constant RJ11 110 (55232), Cond.methodLink RJ2 161 yJ11_lowSurrogate_5068e, Cond.static yJ11_lowSurrogate_5068e, Cond.code yJ11_lowSurrogate_5068e cJ11_lowSurrogate_5068e 1 (some .char), Cond.constant RJ11 76 (56320)]
def wsX5_fitsSingers : List Cond := .code yX5_fitsSingers cX5_fitsSingers 4 (some .boolean) :: ((wsX5_fitsSingers_r1 ++ (wsX5_fitsSingers_r2 ++ (wsX5_fitsSingers_r3 ++ wsX5_fitsSingers_r4))))
def wsX5_fitsWidows : List Cond := .code yX5_fitsWidows cX5_fitsWidows 2 (some .boolean) :: ([])
def wsX5_firstWrong_r1 : List Cond := [Cond.fieldLink RX5 15 "WorstVoice$Page" "length" "I", Cond.methodLink RX5 19 yX5_codeAt, Cond.instanceMethod yX5_codeAt, Cond.selects RX5 yX5_codeAt yX5_codeAt, Cond.initialized RX5, Cond.code yX5_codeAt cX5_codeAt 2 (some .int), Cond.fieldLink RX5 9 "WorstVoice$Page" "codes" "[I", Cond.methodLink RX5 26 yX5_fitsSingers, Cond.static yX5_fitsSingers, Cond.code yX5_fitsSingers cX5_fitsSingers 4 (some .boolean), Cond.methodLink RX5 23 yX5_kindOf, Cond.static yX5_kindOf, Cond.code yX5_kindOf cX5_kindOf 1 (some .int), Cond.methodLink RX5 42 yJ0_indexOf_0f7a4, Cond.instanceMethod yJ0_indexOf_0f7a4, Cond.selects RJ0 yJ0_indexOf_0f7a4 yJ0_indexOf_0f7a4, Cond.initialized RJ0, Cond.code yJ0_indexOf_0f7a4 cJ0_indexOf_0f7a4 2 (some .int), Cond.methodLink RJ0 633 yJ0_indexOf_7cf53, Cond.instanceMethod yJ0_indexOf_7cf53, Cond.selects RJ0 yJ0_indexOf_7cf53 yJ0_indexOf_7cf53, Cond.code yJ0_indexOf_7cf53 cJ0_indexOf_7cf53 3 (some .int), Cond.fieldLink RJ0 9 "java/lang/String" "value" "[B", Cond.methodLink RJ0 492 yJ0_isLatin1_aae02]
def wsX5_firstWrong_r2 : List Cond := [Cond.instanceMethod yJ0_isLatin1_aae02, Cond.selects RJ0 yJ0_isLatin1_aae02 yJ0_isLatin1_aae02, Cond.code yJ0_isLatin1_aae02 cJ0_isLatin1_aae02 1 (some .boolean), Cond.fieldLink RJ0 38 "java/lang/String" "COMPACT_STRINGS" "Z", Cond.fieldLink RJ0 15 "java/lang/String" "coder" "B", Cond.methodLink RJ0 505 yJ0_length_8abf5, Cond.instanceMethod yJ0_length_8abf5, Cond.selects RJ0 yJ0_length_8abf5 yJ0_length_8abf5, Cond.code yJ0_length_8abf5 cJ0_length_8abf5 1 (some .int), Cond.methodLink RJ0 335 yJ0_coder_7d493, Cond.instanceMethod yJ0_coder_7d493, Cond.selects RJ0 yJ0_coder_7d493 yJ0_coder_7d493, Cond.code yJ0_coder_7d493 cJ0_coder_7d493 1 (some .byte), Cond.methodLink RJ0 637 yJ1_indexOf_4cfef, Cond.static yJ1_indexOf_4cfef, Cond.initialized RJ1, Cond.code yJ1_indexOf_4cfef cJ1_indexOf_4cfef 4 (some .int), Cond.methodLink RJ1 92 Lib.Math.max.name, Cond.static Lib.Math.max.name, Cond.initialized "java/lang/Math", Cond.code Lib.Math.max.name Lib.Math.max.code 2 (some .int), Cond.methodLink RJ1 38 Lib.Math.min.name, Cond.static Lib.Math.min.name, Cond.code Lib.Math.min.name Lib.Math.min.code 2 (some .int)]
def wsX5_firstWrong_r3 : List Cond := [Cond.methodLink RJ1 88 yJ1_canEncode_9a6ad, Cond.static yJ1_canEncode_9a6ad, Cond.code yJ1_canEncode_9a6ad cJ1_canEncode_9a6ad 1 (some .boolean), Cond.methodLink RJ1 95 yJ1_indexOfChar_4cfef, Cond.static yJ1_indexOfChar_4cfef, Cond.code yJ1_indexOfChar_4cfef cJ1_indexOfChar_4cfef 6 (some .int), Cond.methodLink RJ0 640 yJ2_indexOf_4cfef, Cond.static yJ2_indexOf_4cfef, Cond.initialized RJ2, Cond.code yJ2_indexOf_4cfef cJ2_indexOf_4cfef 4 (some .int), Cond.methodLink RJ2 224 Lib.Math.max.name, Cond.methodLink RJ2 183 Lib.Math.min.name, Cond.constant RJ2 227 (65536), Cond.methodLink RJ2 228 yJ2_indexOfChar_4cfef, Cond.static yJ2_indexOfChar_4cfef, Cond.code yJ2_indexOfChar_4cfef cJ2_indexOfChar_4cfef 4 (some .int), Cond.methodLink RJ2 96 yJ2_checkBoundsBeginEnd_d044e, Cond.static yJ2_checkBoundsBeginEnd_d044e, Cond.code yJ2_checkBoundsBeginEnd_d044e cJ2_checkBoundsBeginEnd_d044e 3 none, Cond.methodLink RJ2 48 yJ2_length_9d52b, Cond.static yJ2_length_9d52b, Cond.code yJ2_length_9d52b cJ2_length_9d52b 1 (some .int), Cond.methodLink RJ2 241 yJ0_checkBoundsBeginEnd_23922, Cond.static yJ0_checkBoundsBeginEnd_23922]
def wsX5_firstWrong_r4 : List Cond := [Cond.code yJ0_checkBoundsBeginEnd_23922 cJ0_checkBoundsBeginEnd_23922 3 none, Cond.fieldLink RJ0 1053 "jdk/internal/util/Preconditions" "SIOOBE_FORMATTER" "Ljava/util/function/BiFunction;", Cond.methodLink RJ0 1062 yJ3_checkFromToIndex_8c36e, Cond.static yJ3_checkFromToIndex_8c36e, Cond.initialized RJ3, Cond.code yJ3_checkFromToIndex_8c36e cJ3_checkFromToIndex_8c36e 4 (some .int), Cond.methodLink RJ2 244 yJ2_indexOfCharUnsafe_4cfef, Cond.static yJ2_indexOfCharUnsafe_4cfef, Cond.code yJ2_indexOfCharUnsafe_4cfef cJ2_indexOfCharUnsafe_4cfef 5 (some .int), Cond.methodLink RJ2 71 yJ2_getChar_3b067, Cond.static yJ2_getChar_3b067, Cond.code yJ2_getChar_3b067 cJ2_getChar_3b067 2 (some .char), Cond.fieldLink RJ2 44 "java/lang/StringUTF16" "$assertionsDisabled" "Z", Cond.fieldLink RJ2 59 "java/lang/StringUTF16" "HI_BYTE_SHIFT" "I", Cond.fieldLink RJ2 63 "java/lang/StringUTF16" "LO_BYTE_SHIFT" "I", Cond.methodLink RJ2 232 yJ2_indexOfSupplementary_4cfef, Cond.static yJ2_indexOfSupplementary_4cfef, Cond.code yJ2_indexOfSupplementary_4cfef cJ2_indexOfSupplementary_4cfef 7 (some .int), Cond.methodLink RJ2 164 yJ11_isValidCodePoint_9a6ad, Cond.static yJ11_isValidCodePoint_9a6ad, Cond.initialized RJ11, Cond.code yJ11_isValidCodePoint_9a6ad cJ11_isValidCodePoint_9a6ad 2 (some .boolean), Cond.methodLink RJ2 157 yJ11_highSurrogate_5068e, Cond.static yJ11_highSurrogate_5068e]
def wsX5_firstWrong_r5 : List Cond := [Cond.code yJ11_highSurrogate_5068e cJ11_highSurrogate_5068e 1 (some .char), Cond.constant RJ11 110 (55232), Cond.methodLink RJ2 161 yJ11_lowSurrogate_5068e, Cond.static yJ11_lowSurrogate_5068e, Cond.code yJ11_lowSurrogate_5068e cJ11_lowSurrogate_5068e 1 (some .char), Cond.constant RJ11 76 (56320), Cond.methodLink RX5 30 yX5_fitsWidows, Cond.static yX5_fitsWidows, Cond.code yX5_fitsWidows cX5_fitsWidows 2 (some .boolean)]
def wsX5_firstWrong : List Cond := .code yX5_firstWrong cX5_firstWrong 5 (some .int) :: ((wsX5_firstWrong_r1 ++ (wsX5_firstWrong_r2 ++ (wsX5_firstWrong_r3 ++ (wsX5_firstWrong_r4 ++ wsX5_firstWrong_r5)))) ++ wsX50)
def wsX5_isWhole_r1 : List Cond := [Cond.fieldLink RX5 15 "WorstVoice$Page" "length" "I", Cond.methodLink RX5 33 yX5_firstWrong, Cond.instanceMethod yX5_firstWrong, Cond.selects RX5 yX5_firstWrong yX5_firstWrong, Cond.initialized RX5, Cond.code yX5_firstWrong cX5_firstWrong 5 (some .int), Cond.methodLink RX5 19 yX5_codeAt, Cond.instanceMethod yX5_codeAt, Cond.selects RX5 yX5_codeAt yX5_codeAt, Cond.code yX5_codeAt cX5_codeAt 2 (some .int), Cond.fieldLink RX5 9 "WorstVoice$Page" "codes" "[I", Cond.methodLink RX5 26 yX5_fitsSingers, Cond.static yX5_fitsSingers, Cond.code yX5_fitsSingers cX5_fitsSingers 4 (some .boolean), Cond.methodLink RX5 23 yX5_kindOf, Cond.static yX5_kindOf, Cond.code yX5_kindOf cX5_kindOf 1 (some .int), Cond.methodLink RX5 42 yJ0_indexOf_0f7a4, Cond.instanceMethod yJ0_indexOf_0f7a4, Cond.selects RJ0 yJ0_indexOf_0f7a4 yJ0_indexOf_0f7a4, Cond.initialized RJ0, Cond.code yJ0_indexOf_0f7a4 cJ0_indexOf_0f7a4 2 (some .int), Cond.methodLink RJ0 633 yJ0_indexOf_7cf53, Cond.instanceMethod yJ0_indexOf_7cf53]
def wsX5_isWhole_r2 : List Cond := [Cond.selects RJ0 yJ0_indexOf_7cf53 yJ0_indexOf_7cf53, Cond.code yJ0_indexOf_7cf53 cJ0_indexOf_7cf53 3 (some .int), Cond.fieldLink RJ0 9 "java/lang/String" "value" "[B", Cond.methodLink RJ0 492 yJ0_isLatin1_aae02, Cond.instanceMethod yJ0_isLatin1_aae02, Cond.selects RJ0 yJ0_isLatin1_aae02 yJ0_isLatin1_aae02, Cond.code yJ0_isLatin1_aae02 cJ0_isLatin1_aae02 1 (some .boolean), Cond.fieldLink RJ0 38 "java/lang/String" "COMPACT_STRINGS" "Z", Cond.fieldLink RJ0 15 "java/lang/String" "coder" "B", Cond.methodLink RJ0 505 yJ0_length_8abf5, Cond.instanceMethod yJ0_length_8abf5, Cond.selects RJ0 yJ0_length_8abf5 yJ0_length_8abf5, Cond.code yJ0_length_8abf5 cJ0_length_8abf5 1 (some .int), Cond.methodLink RJ0 335 yJ0_coder_7d493, Cond.instanceMethod yJ0_coder_7d493, Cond.selects RJ0 yJ0_coder_7d493 yJ0_coder_7d493, Cond.code yJ0_coder_7d493 cJ0_coder_7d493 1 (some .byte), Cond.methodLink RJ0 637 yJ1_indexOf_4cfef, Cond.static yJ1_indexOf_4cfef, Cond.initialized RJ1, Cond.code yJ1_indexOf_4cfef cJ1_indexOf_4cfef 4 (some .int), Cond.methodLink RJ1 92 Lib.Math.max.name, Cond.static Lib.Math.max.name, Cond.initialized "java/lang/Math"]
def wsX5_isWhole_r3 : List Cond := [Cond.code Lib.Math.max.name Lib.Math.max.code 2 (some .int), Cond.methodLink RJ1 38 Lib.Math.min.name, Cond.static Lib.Math.min.name, Cond.code Lib.Math.min.name Lib.Math.min.code 2 (some .int), Cond.methodLink RJ1 88 yJ1_canEncode_9a6ad, Cond.static yJ1_canEncode_9a6ad, Cond.code yJ1_canEncode_9a6ad cJ1_canEncode_9a6ad 1 (some .boolean), Cond.methodLink RJ1 95 yJ1_indexOfChar_4cfef, Cond.static yJ1_indexOfChar_4cfef, Cond.code yJ1_indexOfChar_4cfef cJ1_indexOfChar_4cfef 6 (some .int), Cond.methodLink RJ0 640 yJ2_indexOf_4cfef, Cond.static yJ2_indexOf_4cfef, Cond.initialized RJ2, Cond.code yJ2_indexOf_4cfef cJ2_indexOf_4cfef 4 (some .int), Cond.methodLink RJ2 224 Lib.Math.max.name, Cond.methodLink RJ2 183 Lib.Math.min.name, Cond.constant RJ2 227 (65536), Cond.methodLink RJ2 228 yJ2_indexOfChar_4cfef, Cond.static yJ2_indexOfChar_4cfef, Cond.code yJ2_indexOfChar_4cfef cJ2_indexOfChar_4cfef 4 (some .int), Cond.methodLink RJ2 96 yJ2_checkBoundsBeginEnd_d044e, Cond.static yJ2_checkBoundsBeginEnd_d044e, Cond.code yJ2_checkBoundsBeginEnd_d044e cJ2_checkBoundsBeginEnd_d044e 3 none, Cond.methodLink RJ2 48 yJ2_length_9d52b]
def wsX5_isWhole_r4 : List Cond := [Cond.static yJ2_length_9d52b, Cond.code yJ2_length_9d52b cJ2_length_9d52b 1 (some .int), Cond.methodLink RJ2 241 yJ0_checkBoundsBeginEnd_23922, Cond.static yJ0_checkBoundsBeginEnd_23922, Cond.code yJ0_checkBoundsBeginEnd_23922 cJ0_checkBoundsBeginEnd_23922 3 none, Cond.fieldLink RJ0 1053 "jdk/internal/util/Preconditions" "SIOOBE_FORMATTER" "Ljava/util/function/BiFunction;", Cond.methodLink RJ0 1062 yJ3_checkFromToIndex_8c36e, Cond.static yJ3_checkFromToIndex_8c36e, Cond.initialized RJ3, Cond.code yJ3_checkFromToIndex_8c36e cJ3_checkFromToIndex_8c36e 4 (some .int), Cond.methodLink RJ2 244 yJ2_indexOfCharUnsafe_4cfef, Cond.static yJ2_indexOfCharUnsafe_4cfef, Cond.code yJ2_indexOfCharUnsafe_4cfef cJ2_indexOfCharUnsafe_4cfef 5 (some .int), Cond.methodLink RJ2 71 yJ2_getChar_3b067, Cond.static yJ2_getChar_3b067, Cond.code yJ2_getChar_3b067 cJ2_getChar_3b067 2 (some .char), Cond.fieldLink RJ2 44 "java/lang/StringUTF16" "$assertionsDisabled" "Z", Cond.fieldLink RJ2 59 "java/lang/StringUTF16" "HI_BYTE_SHIFT" "I", Cond.fieldLink RJ2 63 "java/lang/StringUTF16" "LO_BYTE_SHIFT" "I", Cond.methodLink RJ2 232 yJ2_indexOfSupplementary_4cfef, Cond.static yJ2_indexOfSupplementary_4cfef, Cond.code yJ2_indexOfSupplementary_4cfef cJ2_indexOfSupplementary_4cfef 7 (some .int), Cond.methodLink RJ2 164 yJ11_isValidCodePoint_9a6ad, Cond.static yJ11_isValidCodePoint_9a6ad]
def wsX5_isWhole_r5 : List Cond := [Cond.initialized RJ11, Cond.code yJ11_isValidCodePoint_9a6ad cJ11_isValidCodePoint_9a6ad 2 (some .boolean), Cond.methodLink RJ2 157 yJ11_highSurrogate_5068e, Cond.static yJ11_highSurrogate_5068e, Cond.code yJ11_highSurrogate_5068e cJ11_highSurrogate_5068e 1 (some .char), Cond.constant RJ11 110 (55232), Cond.methodLink RJ2 161 yJ11_lowSurrogate_5068e, Cond.static yJ11_lowSurrogate_5068e, Cond.code yJ11_lowSurrogate_5068e cJ11_lowSurrogate_5068e 1 (some .char), Cond.constant RJ11 76 (56320), Cond.methodLink RX5 30 yX5_fitsWidows, Cond.static yX5_fitsWidows, Cond.code yX5_fitsWidows cX5_fitsWidows 2 (some .boolean), Cond.methodLink RX5 37 yX5_singersEnd, Cond.instanceMethod yX5_singersEnd, Cond.selects RX5 yX5_singersEnd yX5_singersEnd, Cond.code yX5_singersEnd cX5_singersEnd 2 (some .int)]
def wsX5_isWhole : List Cond := .code yX5_isWhole cX5_isWhole 1 (some .boolean) :: ((wsX5_isWhole_r1 ++ (wsX5_isWhole_r2 ++ (wsX5_isWhole_r3 ++ (wsX5_isWhole_r4 ++ wsX5_isWhole_r5)))) ++ wsX50)
def wsX6_number : List Cond := .code yX6_number cX6_number 1 (some .int) :: ([])
def wsX7_number : List Cond := .code yX7_number cX7_number 1 (some .int) :: ([])
def wsX8_init_r1 : List Cond := [Cond.methodLink RX8 3 objectInit, Cond.instanceMethod objectInit, Cond.code objectInit ⟨#[0xb1]⟩ 1 none, Cond.classLink RX8 9 RX6, Cond.instantiable RX6 0, Cond.initialized RX6, Cond.fieldLink RX8 12 "WorstVoice$Voices" "plain" "LWorstVoice$Singer;", Cond.classLink RX8 18 RX7, Cond.instantiable RX7 0, Cond.initialized RX7, Cond.fieldLink RX8 21 "WorstVoice$Voices" "tenor" "LWorstVoice$Tenor;", Cond.classLink RX8 25 RX0, Cond.instantiable RX0 0, Cond.initialized RX0, Cond.fieldLink RX8 28 "WorstVoice$Voices" "boy" "LWorstVoice$Boy;", Cond.classLink RX8 32 RX3, Cond.instantiable RX3 0, Cond.initialized RX3, Cond.fieldLink RX8 35 "WorstVoice$Voices" "deaf" "LWorstVoice$Deaf;", Cond.classLink RX8 39 RX2, Cond.instantiable RX2 0, Cond.initialized RX2, Cond.fieldLink RX8 42 "WorstVoice$Voices" "chorister" "LWorstVoice$Chorister;", Cond.instanceMethod yX6_init]
def wsX8_init_r2 : List Cond := [Cond.code yX6_init cX6_init 1 none, Cond.methodLink RX6 3 objectInit, Cond.instanceMethod yX7_init, Cond.code yX7_init cX7_init 1 none, Cond.instanceMethod yX0_init, Cond.code yX0_init cX0_init 1 none, Cond.instanceMethod yX3_init, Cond.code yX3_init cX3_init 1 none, Cond.instanceMethod yX2_init, Cond.code yX2_init cX2_init 1 none]
def wsX8_init : List Cond := .code yX8_init cX8_init 1 none :: ((wsX8_init_r1 ++ wsX8_init_r2) ++ wsX60 ++ wsX80 ++ wsX70 ++ wsX00 ++ wsX30 ++ wsX20)
def wsX9_init_r1 : List Cond := [Cond.methodLink RX9 3 objectInit, Cond.instanceMethod objectInit, Cond.code objectInit ⟨#[0xb1]⟩ 1 none, Cond.classLink RX9 9 RX5, Cond.instantiable RX5 2, Cond.initialized RX5, Cond.fieldLink RX9 12 "WorstVoice" "page" "LWorstVoice$Page;", Cond.classLink RX9 16 RX4, Cond.instantiable RX4 5, Cond.initialized RX4, Cond.fieldLink RX9 19 "WorstVoice" "hearsay" "LWorstVoice$Hearsay;", Cond.fieldLink RX9 23 "WorstVoice" "keptHearsay" "LWorstVoice$Hearsay;", Cond.arrayClass .int, Cond.fieldLink RX9 26 "WorstVoice" "pouring" "[I", Cond.fieldLink RX9 30 "WorstVoice" "poured" "[I", Cond.classLink RX9 33 RX8, Cond.instantiable RX8 5, Cond.initialized RX8, Cond.classLink RX9 36 RX1, Cond.instantiable RX1 10, Cond.initialized RX1, Cond.fieldLink RX9 41 "WorstVoice" "choir" "LWorstVoice$Choir;", Cond.fieldLink RX9 45 "WorstVoice" "keptChoir" "LWorstVoice$Choir;", Cond.fieldLink RX9 48 "WorstVoice" "trial" "LWorstVoice$Choir;"]
def wsX9_init_r2 : List Cond := [Cond.instanceMethod yX5_init, Cond.code yX5_init cX5_init 1 none, Cond.methodLink RX5 3 objectInit, Cond.fieldLink RX5 9 "WorstVoice$Page" "codes" "[I", Cond.instanceMethod yX4_init, Cond.code yX4_init cX4_init 1 none, Cond.methodLink RX4 3 objectInit, Cond.fieldLink RX4 9 "WorstVoice$Hearsay" "widows" "[I", Cond.fieldLink RX4 15 "WorstVoice$Hearsay" "firsts" "[I", Cond.fieldLink RX4 18 "WorstVoice$Hearsay" "seconds" "[I", Cond.fieldLink RX4 21 "WorstVoice$Hearsay" "mores" "[I", Cond.instanceMethod yX8_init, Cond.code yX8_init cX8_init 1 none, Cond.methodLink RX8 3 objectInit, Cond.classLink RX8 9 RX6, Cond.instantiable RX6 0, Cond.initialized RX6, Cond.fieldLink RX8 12 "WorstVoice$Voices" "plain" "LWorstVoice$Singer;", Cond.classLink RX8 18 RX7, Cond.instantiable RX7 0, Cond.initialized RX7, Cond.fieldLink RX8 21 "WorstVoice$Voices" "tenor" "LWorstVoice$Tenor;", Cond.classLink RX8 25 RX0, Cond.instantiable RX0 0]
def wsX9_init_r3 : List Cond := [Cond.initialized RX0, Cond.fieldLink RX8 28 "WorstVoice$Voices" "boy" "LWorstVoice$Boy;", Cond.classLink RX8 32 RX3, Cond.instantiable RX3 0, Cond.initialized RX3, Cond.fieldLink RX8 35 "WorstVoice$Voices" "deaf" "LWorstVoice$Deaf;", Cond.classLink RX8 39 RX2, Cond.instantiable RX2 0, Cond.initialized RX2, Cond.fieldLink RX8 42 "WorstVoice$Voices" "chorister" "LWorstVoice$Chorister;", Cond.instanceMethod yX6_init, Cond.code yX6_init cX6_init 1 none, Cond.methodLink RX6 3 objectInit, Cond.instanceMethod yX7_init, Cond.code yX7_init cX7_init 1 none, Cond.instanceMethod yX0_init, Cond.code yX0_init cX0_init 1 none, Cond.instanceMethod yX3_init, Cond.code yX3_init cX3_init 1 none, Cond.instanceMethod yX2_init, Cond.code yX2_init cX2_init 1 none, Cond.methodLink RX9 38 yX1_init, Cond.instanceMethod yX1_init, Cond.code yX1_init cX1_init 2 none]
def wsX9_init_r4 : List Cond := [Cond.methodLink RX1 3 objectInit, Cond.fieldLink RX1 9 "WorstVoice$Choir" "kinds" "[I", Cond.fieldLink RX1 15 "WorstVoice$Choir" "faults" "[I", Cond.fieldLink RX1 18 "WorstVoice$Choir" "colds" "[I", Cond.fieldLink RX1 21 "WorstVoice$Choir" "lefts" "[I", Cond.fieldLink RX1 24 "WorstVoice$Choir" "honeys" "[I", Cond.fieldLink RX1 27 "WorstVoice$Choir" "minded" "[I", Cond.fieldLink RX1 30 "WorstVoice$Choir" "voices" "LWorstVoice$Voices;"]
def wsX9_init : List Cond := .code yX9_init cX9_init 2 none :: ((wsX9_init_r1 ++ (wsX9_init_r2 ++ (wsX9_init_r3 ++ wsX9_init_r4))) ++ wsX50 ++ wsX90 ++ wsX40 ++ wsX80 ++ wsX10 ++ wsX60 ++ wsX70 ++ wsX00 ++ wsX30 ++ wsX20)
def wsX9_letter : List Cond := .code yX9_letter cX9_letter 2 (some .int) :: ([.fieldLink RX9 12 "WorstVoice" "page" "LWorstVoice$Page;", .methodLink RX9 51 yX5_write, .instanceMethod yX5_write, .selects RX5 yX5_write yX5_write, .initialized RX5, .code yX5_write cX5_write 2 (some .boolean), .fieldLink RX5 15 "WorstVoice$Page" "length" "I", .fieldLink RX5 9 "WorstVoice$Page" "codes" "[I"] ++ wsX90 ++ wsX50)
def wsX9_blank : List Cond := .code yX9_blank cX9_blank 1 (some .int) :: ([.fieldLink RX9 12 "WorstVoice" "page" "LWorstVoice$Page;", .methodLink RX9 59 yX5_wipe, .instanceMethod yX5_wipe, .selects RX5 yX5_wipe yX5_wipe, .initialized RX5, .code yX5_wipe cX5_wipe 2 (some .int), .fieldLink RX5 15 "WorstVoice$Page" "length" "I"] ++ wsX90 ++ wsX50)
def wsX9_fault_r1 : List Cond := [Cond.fieldLink RX9 12 "WorstVoice" "page" "LWorstVoice$Page;", Cond.methodLink RX9 63 yX5_firstWrong, Cond.instanceMethod yX5_firstWrong, Cond.selects RX5 yX5_firstWrong yX5_firstWrong, Cond.initialized RX5, Cond.code yX5_firstWrong cX5_firstWrong 5 (some .int), Cond.fieldLink RX5 15 "WorstVoice$Page" "length" "I", Cond.methodLink RX5 19 yX5_codeAt, Cond.instanceMethod yX5_codeAt, Cond.selects RX5 yX5_codeAt yX5_codeAt, Cond.code yX5_codeAt cX5_codeAt 2 (some .int), Cond.fieldLink RX5 9 "WorstVoice$Page" "codes" "[I", Cond.methodLink RX5 26 yX5_fitsSingers, Cond.static yX5_fitsSingers, Cond.code yX5_fitsSingers cX5_fitsSingers 4 (some .boolean), Cond.methodLink RX5 23 yX5_kindOf, Cond.static yX5_kindOf, Cond.code yX5_kindOf cX5_kindOf 1 (some .int), Cond.methodLink RX5 42 yJ0_indexOf_0f7a4, Cond.instanceMethod yJ0_indexOf_0f7a4, Cond.selects RJ0 yJ0_indexOf_0f7a4 yJ0_indexOf_0f7a4, Cond.initialized RJ0, Cond.code yJ0_indexOf_0f7a4 cJ0_indexOf_0f7a4 2 (some .int), Cond.methodLink RJ0 633 yJ0_indexOf_7cf53]
def wsX9_fault_r2 : List Cond := [Cond.instanceMethod yJ0_indexOf_7cf53, Cond.selects RJ0 yJ0_indexOf_7cf53 yJ0_indexOf_7cf53, Cond.code yJ0_indexOf_7cf53 cJ0_indexOf_7cf53 3 (some .int), Cond.fieldLink RJ0 9 "java/lang/String" "value" "[B", Cond.methodLink RJ0 492 yJ0_isLatin1_aae02, Cond.instanceMethod yJ0_isLatin1_aae02, Cond.selects RJ0 yJ0_isLatin1_aae02 yJ0_isLatin1_aae02, Cond.code yJ0_isLatin1_aae02 cJ0_isLatin1_aae02 1 (some .boolean), Cond.fieldLink RJ0 38 "java/lang/String" "COMPACT_STRINGS" "Z", Cond.fieldLink RJ0 15 "java/lang/String" "coder" "B", Cond.methodLink RJ0 505 yJ0_length_8abf5, Cond.instanceMethod yJ0_length_8abf5, Cond.selects RJ0 yJ0_length_8abf5 yJ0_length_8abf5, Cond.code yJ0_length_8abf5 cJ0_length_8abf5 1 (some .int), Cond.methodLink RJ0 335 yJ0_coder_7d493, Cond.instanceMethod yJ0_coder_7d493, Cond.selects RJ0 yJ0_coder_7d493 yJ0_coder_7d493, Cond.code yJ0_coder_7d493 cJ0_coder_7d493 1 (some .byte), Cond.methodLink RJ0 637 yJ1_indexOf_4cfef, Cond.static yJ1_indexOf_4cfef, Cond.initialized RJ1, Cond.code yJ1_indexOf_4cfef cJ1_indexOf_4cfef 4 (some .int), Cond.methodLink RJ1 92 Lib.Math.max.name, Cond.static Lib.Math.max.name]
def wsX9_fault_r3 : List Cond := [Cond.initialized "java/lang/Math", Cond.code Lib.Math.max.name Lib.Math.max.code 2 (some .int), Cond.methodLink RJ1 38 Lib.Math.min.name, Cond.static Lib.Math.min.name, Cond.code Lib.Math.min.name Lib.Math.min.code 2 (some .int), Cond.methodLink RJ1 88 yJ1_canEncode_9a6ad, Cond.static yJ1_canEncode_9a6ad, Cond.code yJ1_canEncode_9a6ad cJ1_canEncode_9a6ad 1 (some .boolean), Cond.methodLink RJ1 95 yJ1_indexOfChar_4cfef, Cond.static yJ1_indexOfChar_4cfef, Cond.code yJ1_indexOfChar_4cfef cJ1_indexOfChar_4cfef 6 (some .int), Cond.methodLink RJ0 640 yJ2_indexOf_4cfef, Cond.static yJ2_indexOf_4cfef, Cond.initialized RJ2, Cond.code yJ2_indexOf_4cfef cJ2_indexOf_4cfef 4 (some .int), Cond.methodLink RJ2 224 Lib.Math.max.name, Cond.methodLink RJ2 183 Lib.Math.min.name, Cond.constant RJ2 227 (65536), Cond.methodLink RJ2 228 yJ2_indexOfChar_4cfef, Cond.static yJ2_indexOfChar_4cfef, Cond.code yJ2_indexOfChar_4cfef cJ2_indexOfChar_4cfef 4 (some .int), Cond.methodLink RJ2 96 yJ2_checkBoundsBeginEnd_d044e, Cond.static yJ2_checkBoundsBeginEnd_d044e, Cond.code yJ2_checkBoundsBeginEnd_d044e cJ2_checkBoundsBeginEnd_d044e 3 none]
def wsX9_fault_r4 : List Cond := [Cond.methodLink RJ2 48 yJ2_length_9d52b, Cond.static yJ2_length_9d52b, Cond.code yJ2_length_9d52b cJ2_length_9d52b 1 (some .int), Cond.methodLink RJ2 241 yJ0_checkBoundsBeginEnd_23922, Cond.static yJ0_checkBoundsBeginEnd_23922, Cond.code yJ0_checkBoundsBeginEnd_23922 cJ0_checkBoundsBeginEnd_23922 3 none, Cond.fieldLink RJ0 1053 "jdk/internal/util/Preconditions" "SIOOBE_FORMATTER" "Ljava/util/function/BiFunction;", Cond.methodLink RJ0 1062 yJ3_checkFromToIndex_8c36e, Cond.static yJ3_checkFromToIndex_8c36e, Cond.initialized RJ3, Cond.code yJ3_checkFromToIndex_8c36e cJ3_checkFromToIndex_8c36e 4 (some .int), Cond.methodLink RJ2 244 yJ2_indexOfCharUnsafe_4cfef, Cond.static yJ2_indexOfCharUnsafe_4cfef, Cond.code yJ2_indexOfCharUnsafe_4cfef cJ2_indexOfCharUnsafe_4cfef 5 (some .int), Cond.methodLink RJ2 71 yJ2_getChar_3b067, Cond.static yJ2_getChar_3b067, Cond.code yJ2_getChar_3b067 cJ2_getChar_3b067 2 (some .char), Cond.fieldLink RJ2 44 "java/lang/StringUTF16" "$assertionsDisabled" "Z", Cond.fieldLink RJ2 59 "java/lang/StringUTF16" "HI_BYTE_SHIFT" "I", Cond.fieldLink RJ2 63 "java/lang/StringUTF16" "LO_BYTE_SHIFT" "I", Cond.methodLink RJ2 232 yJ2_indexOfSupplementary_4cfef, Cond.static yJ2_indexOfSupplementary_4cfef, Cond.code yJ2_indexOfSupplementary_4cfef cJ2_indexOfSupplementary_4cfef 7 (some .int), Cond.methodLink RJ2 164 yJ11_isValidCodePoint_9a6ad]
def wsX9_fault_r5 : List Cond := [Cond.static yJ11_isValidCodePoint_9a6ad, Cond.initialized RJ11, Cond.code yJ11_isValidCodePoint_9a6ad cJ11_isValidCodePoint_9a6ad 2 (some .boolean), Cond.methodLink RJ2 157 yJ11_highSurrogate_5068e, Cond.static yJ11_highSurrogate_5068e, Cond.code yJ11_highSurrogate_5068e cJ11_highSurrogate_5068e 1 (some .char), Cond.constant RJ11 110 (55232), Cond.methodLink RJ2 161 yJ11_lowSurrogate_5068e, Cond.static yJ11_lowSurrogate_5068e, Cond.code yJ11_lowSurrogate_5068e cJ11_lowSurrogate_5068e 1 (some .char), Cond.constant RJ11 76 (56320), Cond.methodLink RX5 30 yX5_fitsWidows, Cond.static yX5_fitsWidows, Cond.code yX5_fitsWidows cX5_fitsWidows 2 (some .boolean)]
def wsX9_fault : List Cond := .code yX9_fault cX9_fault 1 (some .int) :: ((wsX9_fault_r1 ++ (wsX9_fault_r2 ++ (wsX9_fault_r3 ++ (wsX9_fault_r4 ++ wsX9_fault_r5)))) ++ wsX90 ++ wsX50)
def wsX9_town_r1 : List Cond := [Cond.fieldLink RX9 12 "WorstVoice" "page" "LWorstVoice$Page;", Cond.fieldLink RX9 41 "WorstVoice" "choir" "LWorstVoice$Choir;", Cond.fieldLink RX9 19 "WorstVoice" "hearsay" "LWorstVoice$Hearsay;", Cond.fieldLink RX9 77 "WorstVoice" "imageKept" "Z", Cond.fieldLink RX9 81 "WorstVoice" "townsRead" "I", Cond.methodLink RX9 66 yX5_isWhole, Cond.instanceMethod yX5_isWhole, Cond.selects RX5 yX5_isWhole yX5_isWhole, Cond.initialized RX5, Cond.code yX5_isWhole cX5_isWhole 1 (some .boolean), Cond.fieldLink RX5 15 "WorstVoice$Page" "length" "I", Cond.methodLink RX5 33 yX5_firstWrong, Cond.instanceMethod yX5_firstWrong, Cond.selects RX5 yX5_firstWrong yX5_firstWrong, Cond.code yX5_firstWrong cX5_firstWrong 5 (some .int), Cond.methodLink RX5 19 yX5_codeAt, Cond.instanceMethod yX5_codeAt, Cond.selects RX5 yX5_codeAt yX5_codeAt, Cond.code yX5_codeAt cX5_codeAt 2 (some .int), Cond.fieldLink RX5 9 "WorstVoice$Page" "codes" "[I", Cond.methodLink RX5 26 yX5_fitsSingers, Cond.static yX5_fitsSingers, Cond.code yX5_fitsSingers cX5_fitsSingers 4 (some .boolean), Cond.methodLink RX5 23 yX5_kindOf]
def wsX9_town_r2 : List Cond := [Cond.static yX5_kindOf, Cond.code yX5_kindOf cX5_kindOf 1 (some .int), Cond.methodLink RX5 42 yJ0_indexOf_0f7a4, Cond.instanceMethod yJ0_indexOf_0f7a4, Cond.selects RJ0 yJ0_indexOf_0f7a4 yJ0_indexOf_0f7a4, Cond.initialized RJ0, Cond.code yJ0_indexOf_0f7a4 cJ0_indexOf_0f7a4 2 (some .int), Cond.methodLink RJ0 633 yJ0_indexOf_7cf53, Cond.instanceMethod yJ0_indexOf_7cf53, Cond.selects RJ0 yJ0_indexOf_7cf53 yJ0_indexOf_7cf53, Cond.code yJ0_indexOf_7cf53 cJ0_indexOf_7cf53 3 (some .int), Cond.fieldLink RJ0 9 "java/lang/String" "value" "[B", Cond.methodLink RJ0 492 yJ0_isLatin1_aae02, Cond.instanceMethod yJ0_isLatin1_aae02, Cond.selects RJ0 yJ0_isLatin1_aae02 yJ0_isLatin1_aae02, Cond.code yJ0_isLatin1_aae02 cJ0_isLatin1_aae02 1 (some .boolean), Cond.fieldLink RJ0 38 "java/lang/String" "COMPACT_STRINGS" "Z", Cond.fieldLink RJ0 15 "java/lang/String" "coder" "B", Cond.methodLink RJ0 505 yJ0_length_8abf5, Cond.instanceMethod yJ0_length_8abf5, Cond.selects RJ0 yJ0_length_8abf5 yJ0_length_8abf5, Cond.code yJ0_length_8abf5 cJ0_length_8abf5 1 (some .int), Cond.methodLink RJ0 335 yJ0_coder_7d493, Cond.instanceMethod yJ0_coder_7d493]
def wsX9_town_r3 : List Cond := [Cond.selects RJ0 yJ0_coder_7d493 yJ0_coder_7d493, Cond.code yJ0_coder_7d493 cJ0_coder_7d493 1 (some .byte), Cond.methodLink RJ0 637 yJ1_indexOf_4cfef, Cond.static yJ1_indexOf_4cfef, Cond.initialized RJ1, Cond.code yJ1_indexOf_4cfef cJ1_indexOf_4cfef 4 (some .int), Cond.methodLink RJ1 92 Lib.Math.max.name, Cond.static Lib.Math.max.name, Cond.initialized "java/lang/Math", Cond.code Lib.Math.max.name Lib.Math.max.code 2 (some .int), Cond.methodLink RJ1 38 Lib.Math.min.name, Cond.static Lib.Math.min.name, Cond.code Lib.Math.min.name Lib.Math.min.code 2 (some .int), Cond.methodLink RJ1 88 yJ1_canEncode_9a6ad, Cond.static yJ1_canEncode_9a6ad, Cond.code yJ1_canEncode_9a6ad cJ1_canEncode_9a6ad 1 (some .boolean), Cond.methodLink RJ1 95 yJ1_indexOfChar_4cfef, Cond.static yJ1_indexOfChar_4cfef, Cond.code yJ1_indexOfChar_4cfef cJ1_indexOfChar_4cfef 6 (some .int), Cond.methodLink RJ0 640 yJ2_indexOf_4cfef, Cond.static yJ2_indexOf_4cfef, Cond.initialized RJ2, Cond.code yJ2_indexOf_4cfef cJ2_indexOf_4cfef 4 (some .int), Cond.methodLink RJ2 224 Lib.Math.max.name]
def wsX9_town_r4 : List Cond := [Cond.methodLink RJ2 183 Lib.Math.min.name, Cond.constant RJ2 227 (65536), Cond.methodLink RJ2 228 yJ2_indexOfChar_4cfef, Cond.static yJ2_indexOfChar_4cfef, Cond.code yJ2_indexOfChar_4cfef cJ2_indexOfChar_4cfef 4 (some .int), Cond.methodLink RJ2 96 yJ2_checkBoundsBeginEnd_d044e, Cond.static yJ2_checkBoundsBeginEnd_d044e, Cond.code yJ2_checkBoundsBeginEnd_d044e cJ2_checkBoundsBeginEnd_d044e 3 none, Cond.methodLink RJ2 48 yJ2_length_9d52b, Cond.static yJ2_length_9d52b, Cond.code yJ2_length_9d52b cJ2_length_9d52b 1 (some .int), Cond.methodLink RJ2 241 yJ0_checkBoundsBeginEnd_23922, Cond.static yJ0_checkBoundsBeginEnd_23922, Cond.code yJ0_checkBoundsBeginEnd_23922 cJ0_checkBoundsBeginEnd_23922 3 none, Cond.fieldLink RJ0 1053 "jdk/internal/util/Preconditions" "SIOOBE_FORMATTER" "Ljava/util/function/BiFunction;", Cond.methodLink RJ0 1062 yJ3_checkFromToIndex_8c36e, Cond.static yJ3_checkFromToIndex_8c36e, Cond.initialized RJ3, Cond.code yJ3_checkFromToIndex_8c36e cJ3_checkFromToIndex_8c36e 4 (some .int), Cond.methodLink RJ2 244 yJ2_indexOfCharUnsafe_4cfef, Cond.static yJ2_indexOfCharUnsafe_4cfef, Cond.code yJ2_indexOfCharUnsafe_4cfef cJ2_indexOfCharUnsafe_4cfef 5 (some .int), Cond.methodLink RJ2 71 yJ2_getChar_3b067, Cond.static yJ2_getChar_3b067]
def wsX9_town_r5 : List Cond := [Cond.code yJ2_getChar_3b067 cJ2_getChar_3b067 2 (some .char), Cond.fieldLink RJ2 44 "java/lang/StringUTF16" "$assertionsDisabled" "Z", Cond.fieldLink RJ2 59 "java/lang/StringUTF16" "HI_BYTE_SHIFT" "I", Cond.fieldLink RJ2 63 "java/lang/StringUTF16" "LO_BYTE_SHIFT" "I", Cond.methodLink RJ2 232 yJ2_indexOfSupplementary_4cfef, Cond.static yJ2_indexOfSupplementary_4cfef, Cond.code yJ2_indexOfSupplementary_4cfef cJ2_indexOfSupplementary_4cfef 7 (some .int), Cond.methodLink RJ2 164 yJ11_isValidCodePoint_9a6ad, Cond.static yJ11_isValidCodePoint_9a6ad, Cond.initialized RJ11, Cond.code yJ11_isValidCodePoint_9a6ad cJ11_isValidCodePoint_9a6ad 2 (some .boolean), Cond.methodLink RJ2 157 yJ11_highSurrogate_5068e, Cond.static yJ11_highSurrogate_5068e, Cond.code yJ11_highSurrogate_5068e cJ11_highSurrogate_5068e 1 (some .char), Cond.constant RJ11 110 (55232), Cond.methodLink RJ2 161 yJ11_lowSurrogate_5068e, Cond.static yJ11_lowSurrogate_5068e, Cond.code yJ11_lowSurrogate_5068e cJ11_lowSurrogate_5068e 1 (some .char), Cond.constant RJ11 76 (56320), Cond.methodLink RX5 30 yX5_fitsWidows, Cond.static yX5_fitsWidows, Cond.code yX5_fitsWidows cX5_fitsWidows 2 (some .boolean), Cond.methodLink RX5 37 yX5_singersEnd, Cond.instanceMethod yX5_singersEnd]
def wsX9_town_r6 : List Cond := [Cond.selects RX5 yX5_singersEnd yX5_singersEnd, Cond.code yX5_singersEnd cX5_singersEnd 2 (some .int), Cond.methodLink RX9 70 yX1_readFrom, Cond.instanceMethod yX1_readFrom, Cond.selects RX1 yX1_readFrom yX1_readFrom, Cond.initialized RX1, Cond.code yX1_readFrom cX1_readFrom 4 none, Cond.methodLink RX1 40 Lib.Math.min.name, Cond.fieldLink RX1 46 "WorstVoice$Choir" "singers" "I", Cond.methodLink RX1 53 Lib.Math.max.name, Cond.fieldLink RX1 56 "WorstVoice$Choir" "widows" "I", Cond.fieldLink RX1 59 "WorstVoice$Choir" "weeks" "I", Cond.fieldLink RX1 27 "WorstVoice$Choir" "minded" "[I", Cond.methodLink RX1 34 yX5_singersEnd, Cond.methodLink RX1 62 yX1_readSinger, Cond.instanceMethod yX1_readSinger, Cond.selects RX1 yX1_readSinger yX1_readSinger, Cond.code yX1_readSinger cX1_readSinger 5 none, Cond.fieldLink RX1 9 "WorstVoice$Choir" "kinds" "[I", Cond.fieldLink RX1 15 "WorstVoice$Choir" "faults" "[I", Cond.fieldLink RX1 18 "WorstVoice$Choir" "colds" "[I", Cond.fieldLink RX1 21 "WorstVoice$Choir" "lefts" "[I", Cond.fieldLink RX1 24 "WorstVoice$Choir" "honeys" "[I", Cond.methodLink RX1 70 yX1_hasSinger]
def wsX9_town_r7 : List Cond := [Cond.instanceMethod yX1_hasSinger, Cond.selects RX1 yX1_hasSinger yX1_hasSinger, Cond.code yX1_hasSinger cX1_hasSinger 2 (some .boolean), Cond.methodLink RX1 74 yX5_kindAt, Cond.instanceMethod yX5_kindAt, Cond.selects RX5 yX5_kindAt yX5_kindAt, Cond.code yX5_kindAt cX5_kindAt 2 (some .int), Cond.methodLink RX1 66 yX5_digitAt, Cond.instanceMethod yX5_digitAt, Cond.selects RX5 yX5_digitAt yX5_digitAt, Cond.code yX5_digitAt cX5_digitAt 2 (some .int), Cond.methodLink RX9 74 yX4_clear, Cond.instanceMethod yX4_clear, Cond.selects RX4 yX4_clear yX4_clear, Cond.initialized RX4, Cond.code yX4_clear cX4_clear 2 (some .int), Cond.fieldLink RX4 24 "WorstVoice$Hearsay" "size" "I", Cond.methodLink RX9 59 yX5_wipe, Cond.instanceMethod yX5_wipe, Cond.selects RX5 yX5_wipe yX5_wipe, Cond.code yX5_wipe cX5_wipe 2 (some .int)]
def wsX9_town : List Cond := .code yX9_town cX9_town 1 (some .int) :: ((wsX9_town_r1 ++ (wsX9_town_r2 ++ (wsX9_town_r3 ++ (wsX9_town_r4 ++ (wsX9_town_r5 ++ (wsX9_town_r6 ++ wsX9_town_r7)))))) ++ wsX90 ++ wsX10 ++ wsX50 ++ wsX40)
def wsX9_worstAndVotes_r1 : List Cond := [Cond.fieldLink RX9 48 "WorstVoice" "trial" "LWorstVoice$Choir;", Cond.fieldLink RX9 41 "WorstVoice" "choir" "LWorstVoice$Choir;", Cond.methodLink RX9 174 yX1_takeFrom, Cond.instanceMethod yX1_takeFrom, Cond.selects RX1 yX1_takeFrom yX1_takeFrom, Cond.initialized RX1, Cond.code yX1_takeFrom cX1_takeFrom 2 none, Cond.fieldLink RX1 9 "WorstVoice$Choir" "kinds" "[I", Cond.fieldLink RX1 15 "WorstVoice$Choir" "faults" "[I", Cond.fieldLink RX1 18 "WorstVoice$Choir" "colds" "[I", Cond.fieldLink RX1 21 "WorstVoice$Choir" "lefts" "[I", Cond.fieldLink RX1 24 "WorstVoice$Choir" "honeys" "[I", Cond.fieldLink RX1 27 "WorstVoice$Choir" "minded" "[I", Cond.fieldLink RX1 46 "WorstVoice$Choir" "singers" "I", Cond.fieldLink RX1 56 "WorstVoice$Choir" "widows" "I", Cond.fieldLink RX1 59 "WorstVoice$Choir" "weeks" "I", Cond.static yX9_copyRow, Cond.initialized RX9, Cond.code yX9_copyRow cX9_copyRow 2 none, Cond.methodLink RX9 264 Lib.Math.min.name, Cond.static Lib.Math.min.name, Cond.initialized "java/lang/Math", Cond.code Lib.Math.min.name Lib.Math.min.code 2 (some .int), Cond.methodLink RX9 267 arraycopyName]
def wsX9_worstAndVotes_r2 : List Cond := [Cond.native arraycopyName, Cond.static arraycopyName, Cond.initialized "java/lang/System", Cond.methodLink RX9 141 yX1_setCold, Cond.instanceMethod yX1_setCold, Cond.selects RX1 yX1_setCold yX1_setCold, Cond.code yX1_setCold cX1_setCold 3 none, Cond.methodLink RX1 70 yX1_hasSinger, Cond.instanceMethod yX1_hasSinger, Cond.selects RX1 yX1_hasSinger yX1_hasSinger, Cond.code yX1_hasSinger cX1_hasSinger 2 (some .boolean), Cond.methodLink RX9 145 yX1_setLeft, Cond.instanceMethod yX1_setLeft, Cond.selects RX1 yX1_setLeft yX1_setLeft, Cond.code yX1_setLeft cX1_setLeft 3 none, Cond.methodLink RX9 99 yX1_votes, Cond.instanceMethod yX1_votes, Cond.selects RX1 yX1_votes yX1_votes, Cond.code yX1_votes cX1_votes 4 (some .int), Cond.methodLink RX1 110 yX1_favourite, Cond.instanceMethod yX1_favourite, Cond.selects RX1 yX1_favourite yX1_favourite, Cond.code yX1_favourite cX1_favourite 5 (some .int), Cond.methodLink RX1 104 yX1_minds]
def wsX9_worstAndVotes_r3 : List Cond := [Cond.instanceMethod yX1_minds, Cond.selects RX1 yX1_minds yX1_minds, Cond.code yX1_minds cX1_minds 2 (some .int), Cond.methodLink RX1 90 yX1_hasWidow, Cond.instanceMethod yX1_hasWidow, Cond.selects RX1 yX1_hasWidow yX1_hasWidow, Cond.code yX1_hasWidow cX1_hasWidow 2 (some .boolean), Cond.methodLink RX1 107 yX1_bad, Cond.instanceMethod yX1_bad, Cond.selects RX1 yX1_bad yX1_bad, Cond.code yX1_bad cX1_bad 4 (some .int), Cond.fieldLink RX1 30 "WorstVoice$Choir" "voices" "LWorstVoice$Voices;", Cond.methodLink RX1 53 Lib.Math.max.name, Cond.static Lib.Math.max.name, Cond.code Lib.Math.max.name Lib.Math.max.code 2 (some .int), Cond.methodLink RX1 87 yX1_isFault, Cond.static yX1_isFault, Cond.code yX1_isFault cX1_isFault 1 (some .boolean), Cond.methodLink RX1 81 yX8_ofKind, Cond.instanceMethod yX8_ofKind, Cond.selects RX8 yX8_ofKind yX8_ofKind, Cond.initialized RX8, Cond.code yX8_ofKind cX8_ofKind 2 (some (.object "WorstVoice$Singer")), Cond.fieldLink RX8 21 "WorstVoice$Voices" "tenor" "LWorstVoice$Tenor;"]
def wsX9_worstAndVotes_r4 : List Cond := [Cond.fieldLink RX8 28 "WorstVoice$Voices" "boy" "LWorstVoice$Boy;", Cond.fieldLink RX8 35 "WorstVoice$Voices" "deaf" "LWorstVoice$Deaf;", Cond.fieldLink RX8 42 "WorstVoice$Voices" "chorister" "LWorstVoice$Chorister;", Cond.fieldLink RX8 12 "WorstVoice$Voices" "plain" "LWorstVoice$Singer;", Cond.methodLink RX1 101 ⟨"WorstVoice$Singer", "plainBad", "(II)I"⟩, Cond.sameMethod "WorstVoice$Singer" "WorstVoice$Singer" "plainBad" "(II)I", Cond.instanceMethod ⟨"WorstVoice$Singer", "plainBad", "(II)I"⟩, Cond.selects RX0 ⟨"WorstVoice$Singer", "plainBad", "(II)I"⟩ yX0_plainBad, Cond.instanceMethod yX0_plainBad, Cond.initialized RX0, Cond.code yX0_plainBad cX0_plainBad 3 (some .int), Cond.code yX6_plainBad cX6_plainBad 3 (some .int), Cond.selects RX2 ⟨"WorstVoice$Singer", "plainBad", "(II)I"⟩ yX2_plainBad, Cond.instanceMethod yX2_plainBad, Cond.initialized RX2, Cond.code yX2_plainBad cX2_plainBad 3 (some .int), Cond.selects RX3 ⟨"WorstVoice$Singer", "plainBad", "(II)I"⟩ yX3_plainBad, Cond.instanceMethod yX3_plainBad, Cond.initialized RX3, Cond.code yX3_plainBad cX3_plainBad 3 (some .int), Cond.methodLink RX1 101 yX6_plainBad, Cond.instanceMethod yX6_plainBad, Cond.selects RX6 yX6_plainBad yX6_plainBad, Cond.initialized RX6]
def wsX9_worstAndVotes_r5 : List Cond := [Cond.selects RX7 ⟨"WorstVoice$Singer", "plainBad", "(II)I"⟩ yX7_plainBad, Cond.instanceMethod yX7_plainBad, Cond.initialized RX7, Cond.code yX7_plainBad cX7_plainBad 3 (some .int)]
def wsX9_worstAndVotes : List Cond := .code yX9_worstAndVotes cX9_worstAndVotes 6 (some .int) :: ((wsX9_worstAndVotes_r1 ++ (wsX9_worstAndVotes_r2 ++ (wsX9_worstAndVotes_r3 ++ (wsX9_worstAndVotes_r4 ++ wsX9_worstAndVotes_r5)))) ++ wsX90 ++ wsX10 ++ wsX80)
def wsX9_singersFault_r1 : List Cond := [Cond.fieldLink RX9 41 "WorstVoice" "choir" "LWorstVoice$Choir;", Cond.methodLink RX9 228 yX1_faultOf, Cond.instanceMethod yX1_faultOf, Cond.selects RX1 yX1_faultOf yX1_faultOf, Cond.initialized RX1, Cond.code yX1_faultOf cX1_faultOf 3 (some .int), Cond.fieldLink RX1 15 "WorstVoice$Choir" "faults" "[I", Cond.methodLink RX1 70 yX1_hasSinger, Cond.instanceMethod yX1_hasSinger, Cond.selects RX1 yX1_hasSinger yX1_hasSinger, Cond.code yX1_hasSinger cX1_hasSinger 2 (some .boolean), Cond.fieldLink RX1 46 "WorstVoice$Choir" "singers" "I", Cond.methodLink RX1 87 yX1_isFault, Cond.static yX1_isFault, Cond.code yX1_isFault cX1_isFault 1 (some .boolean), Cond.methodLink RX9 132 yX1_bad, Cond.instanceMethod yX1_bad, Cond.selects RX1 yX1_bad yX1_bad, Cond.code yX1_bad cX1_bad 4 (some .int), Cond.fieldLink RX1 30 "WorstVoice$Choir" "voices" "LWorstVoice$Voices;", Cond.fieldLink RX1 9 "WorstVoice$Choir" "kinds" "[I", Cond.fieldLink RX1 18 "WorstVoice$Choir" "colds" "[I", Cond.fieldLink RX1 21 "WorstVoice$Choir" "lefts" "[I", Cond.fieldLink RX1 24 "WorstVoice$Choir" "honeys" "[I"]
def wsX9_singersFault_r2 : List Cond := [Cond.methodLink RX1 53 Lib.Math.max.name, Cond.static Lib.Math.max.name, Cond.initialized "java/lang/Math", Cond.code Lib.Math.max.name Lib.Math.max.code 2 (some .int), Cond.methodLink RX1 81 yX8_ofKind, Cond.instanceMethod yX8_ofKind, Cond.selects RX8 yX8_ofKind yX8_ofKind, Cond.initialized RX8, Cond.code yX8_ofKind cX8_ofKind 2 (some (.object "WorstVoice$Singer")), Cond.fieldLink RX8 21 "WorstVoice$Voices" "tenor" "LWorstVoice$Tenor;", Cond.fieldLink RX8 28 "WorstVoice$Voices" "boy" "LWorstVoice$Boy;", Cond.fieldLink RX8 35 "WorstVoice$Voices" "deaf" "LWorstVoice$Deaf;", Cond.fieldLink RX8 42 "WorstVoice$Voices" "chorister" "LWorstVoice$Chorister;", Cond.fieldLink RX8 12 "WorstVoice$Voices" "plain" "LWorstVoice$Singer;", Cond.methodLink RX1 101 ⟨"WorstVoice$Singer", "plainBad", "(II)I"⟩, Cond.sameMethod "WorstVoice$Singer" "WorstVoice$Singer" "plainBad" "(II)I", Cond.instanceMethod ⟨"WorstVoice$Singer", "plainBad", "(II)I"⟩, Cond.selects RX0 ⟨"WorstVoice$Singer", "plainBad", "(II)I"⟩ yX0_plainBad, Cond.instanceMethod yX0_plainBad, Cond.initialized RX0, Cond.code yX0_plainBad cX0_plainBad 3 (some .int), Cond.code yX6_plainBad cX6_plainBad 3 (some .int), Cond.selects RX2 ⟨"WorstVoice$Singer", "plainBad", "(II)I"⟩ yX2_plainBad, Cond.instanceMethod yX2_plainBad]
def wsX9_singersFault_r3 : List Cond := [Cond.initialized RX2, Cond.code yX2_plainBad cX2_plainBad 3 (some .int), Cond.selects RX3 ⟨"WorstVoice$Singer", "plainBad", "(II)I"⟩ yX3_plainBad, Cond.instanceMethod yX3_plainBad, Cond.initialized RX3, Cond.code yX3_plainBad cX3_plainBad 3 (some .int), Cond.methodLink RX1 101 yX6_plainBad, Cond.instanceMethod yX6_plainBad, Cond.selects RX6 yX6_plainBad yX6_plainBad, Cond.initialized RX6, Cond.selects RX7 ⟨"WorstVoice$Singer", "plainBad", "(II)I"⟩ yX7_plainBad, Cond.instanceMethod yX7_plainBad, Cond.initialized RX7, Cond.code yX7_plainBad cX7_plainBad 3 (some .int)]
def wsX9_singersFault : List Cond := .code yX9_singersFault cX9_singersFault 3 (some .int) :: ((wsX9_singersFault_r1 ++ (wsX9_singersFault_r2 ++ wsX9_singersFault_r3)) ++ wsX90 ++ wsX10 ++ wsX80)
def wsX9_singer_r1 : List Cond := [Cond.fieldLink RX9 41 "WorstVoice" "choir" "LWorstVoice$Choir;", Cond.methodLink RX9 87 yX1_hasSinger, Cond.instanceMethod yX1_hasSinger, Cond.selects RX1 yX1_hasSinger yX1_hasSinger, Cond.initialized RX1, Cond.code yX1_hasSinger cX1_hasSinger 2 (some .boolean), Cond.fieldLink RX1 46 "WorstVoice$Choir" "singers" "I", Cond.methodLink RX9 90 yX1_voice, Cond.instanceMethod yX1_voice, Cond.selects RX1 yX1_voice yX1_voice, Cond.code yX1_voice cX1_voice 2 (some (.object "WorstVoice$Singer")), Cond.fieldLink RX1 30 "WorstVoice$Choir" "voices" "LWorstVoice$Voices;", Cond.fieldLink RX1 9 "WorstVoice$Choir" "kinds" "[I", Cond.methodLink RX1 70 yX1_hasSinger, Cond.methodLink RX1 81 yX8_ofKind, Cond.instanceMethod yX8_ofKind, Cond.selects RX8 yX8_ofKind yX8_ofKind, Cond.initialized RX8, Cond.code yX8_ofKind cX8_ofKind 2 (some (.object "WorstVoice$Singer")), Cond.fieldLink RX8 21 "WorstVoice$Voices" "tenor" "LWorstVoice$Tenor;", Cond.fieldLink RX8 28 "WorstVoice$Voices" "boy" "LWorstVoice$Boy;", Cond.fieldLink RX8 35 "WorstVoice$Voices" "deaf" "LWorstVoice$Deaf;", Cond.fieldLink RX8 42 "WorstVoice$Voices" "chorister" "LWorstVoice$Chorister;", Cond.fieldLink RX8 12 "WorstVoice$Voices" "plain" "LWorstVoice$Singer;"]
def wsX9_singer_r2 : List Cond := [Cond.methodLink RX9 94 ⟨"WorstVoice$Singer", "number", "()I"⟩, Cond.sameMethod "WorstVoice$Singer" "WorstVoice$Singer" "number" "()I", Cond.instanceMethod ⟨"WorstVoice$Singer", "number", "()I"⟩, Cond.selects RX0 ⟨"WorstVoice$Singer", "number", "()I"⟩ yX0_number, Cond.instanceMethod yX0_number, Cond.initialized RX0, Cond.code yX0_number cX0_number 1 (some .int), Cond.code yX6_number cX6_number 1 (some .int), Cond.selects RX2 ⟨"WorstVoice$Singer", "number", "()I"⟩ yX2_number, Cond.instanceMethod yX2_number, Cond.initialized RX2, Cond.code yX2_number cX2_number 1 (some .int), Cond.selects RX3 ⟨"WorstVoice$Singer", "number", "()I"⟩ yX3_number, Cond.instanceMethod yX3_number, Cond.initialized RX3, Cond.code yX3_number cX3_number 1 (some .int), Cond.methodLink RX9 94 yX6_number, Cond.instanceMethod yX6_number, Cond.selects RX6 yX6_number yX6_number, Cond.initialized RX6, Cond.selects RX7 ⟨"WorstVoice$Singer", "number", "()I"⟩ yX7_number, Cond.instanceMethod yX7_number, Cond.initialized RX7, Cond.code yX7_number cX7_number 1 (some .int)]
def wsX9_singer_r3 : List Cond := [Cond.methodLink RX9 99 yX1_votes, Cond.instanceMethod yX1_votes, Cond.selects RX1 yX1_votes yX1_votes, Cond.code yX1_votes cX1_votes 4 (some .int), Cond.fieldLink RX1 56 "WorstVoice$Choir" "widows" "I", Cond.methodLink RX1 110 yX1_favourite, Cond.instanceMethod yX1_favourite, Cond.selects RX1 yX1_favourite yX1_favourite, Cond.code yX1_favourite cX1_favourite 5 (some .int), Cond.methodLink RX1 104 yX1_minds, Cond.instanceMethod yX1_minds, Cond.selects RX1 yX1_minds yX1_minds, Cond.code yX1_minds cX1_minds 2 (some .int), Cond.fieldLink RX1 27 "WorstVoice$Choir" "minded" "[I", Cond.methodLink RX1 90 yX1_hasWidow, Cond.instanceMethod yX1_hasWidow, Cond.selects RX1 yX1_hasWidow yX1_hasWidow, Cond.code yX1_hasWidow cX1_hasWidow 2 (some .boolean), Cond.methodLink RX1 107 yX1_bad, Cond.instanceMethod yX1_bad, Cond.selects RX1 yX1_bad yX1_bad, Cond.code yX1_bad cX1_bad 4 (some .int), Cond.fieldLink RX1 15 "WorstVoice$Choir" "faults" "[I", Cond.fieldLink RX1 18 "WorstVoice$Choir" "colds" "[I"]
def wsX9_singer_r4 : List Cond := [Cond.fieldLink RX1 21 "WorstVoice$Choir" "lefts" "[I", Cond.fieldLink RX1 24 "WorstVoice$Choir" "honeys" "[I", Cond.methodLink RX1 53 Lib.Math.max.name, Cond.static Lib.Math.max.name, Cond.initialized "java/lang/Math", Cond.code Lib.Math.max.name Lib.Math.max.code 2 (some .int), Cond.methodLink RX1 87 yX1_isFault, Cond.static yX1_isFault, Cond.code yX1_isFault cX1_isFault 1 (some .boolean), Cond.methodLink RX1 101 ⟨"WorstVoice$Singer", "plainBad", "(II)I"⟩, Cond.sameMethod "WorstVoice$Singer" "WorstVoice$Singer" "plainBad" "(II)I", Cond.instanceMethod ⟨"WorstVoice$Singer", "plainBad", "(II)I"⟩, Cond.selects RX0 ⟨"WorstVoice$Singer", "plainBad", "(II)I"⟩ yX0_plainBad, Cond.instanceMethod yX0_plainBad, Cond.code yX0_plainBad cX0_plainBad 3 (some .int), Cond.code yX6_plainBad cX6_plainBad 3 (some .int), Cond.selects RX2 ⟨"WorstVoice$Singer", "plainBad", "(II)I"⟩ yX2_plainBad, Cond.instanceMethod yX2_plainBad, Cond.code yX2_plainBad cX2_plainBad 3 (some .int), Cond.selects RX3 ⟨"WorstVoice$Singer", "plainBad", "(II)I"⟩ yX3_plainBad, Cond.instanceMethod yX3_plainBad, Cond.code yX3_plainBad cX3_plainBad 3 (some .int), Cond.methodLink RX1 101 yX6_plainBad, Cond.instanceMethod yX6_plainBad]
def wsX9_singer_r5 : List Cond := [Cond.selects RX6 yX6_plainBad yX6_plainBad, Cond.selects RX7 ⟨"WorstVoice$Singer", "plainBad", "(II)I"⟩ yX7_plainBad, Cond.instanceMethod yX7_plainBad, Cond.code yX7_plainBad cX7_plainBad 3 (some .int), Cond.methodLink RX9 103 yX1_coldOf, Cond.instanceMethod yX1_coldOf, Cond.selects RX1 yX1_coldOf yX1_coldOf, Cond.code yX1_coldOf cX1_coldOf 2 (some .int), Cond.methodLink RX9 106 yX1_leftOf, Cond.instanceMethod yX1_leftOf, Cond.selects RX1 yX1_leftOf yX1_leftOf, Cond.code yX1_leftOf cX1_leftOf 2 (some .int), Cond.methodLink RX9 109 yX1_honeyOf, Cond.instanceMethod yX1_honeyOf, Cond.selects RX1 yX1_honeyOf yX1_honeyOf, Cond.code yX1_honeyOf cX1_honeyOf 2 (some .int), Cond.methodLink RX9 112 yX9_worstAndVotes, Cond.instanceMethod yX9_worstAndVotes, Cond.selects RX9 yX9_worstAndVotes yX9_worstAndVotes, Cond.initialized RX9, Cond.code yX9_worstAndVotes cX9_worstAndVotes 6 (some .int), Cond.fieldLink RX9 48 "WorstVoice" "trial" "LWorstVoice$Choir;", Cond.methodLink RX9 174 yX1_takeFrom, Cond.instanceMethod yX1_takeFrom]
def wsX9_singer_r6 : List Cond := [Cond.selects RX1 yX1_takeFrom yX1_takeFrom, Cond.code yX1_takeFrom cX1_takeFrom 2 none, Cond.fieldLink RX1 59 "WorstVoice$Choir" "weeks" "I", Cond.static yX9_copyRow, Cond.code yX9_copyRow cX9_copyRow 2 none, Cond.methodLink RX9 264 Lib.Math.min.name, Cond.static Lib.Math.min.name, Cond.code Lib.Math.min.name Lib.Math.min.code 2 (some .int), Cond.methodLink RX9 267 arraycopyName, Cond.native arraycopyName, Cond.static arraycopyName, Cond.initialized "java/lang/System", Cond.methodLink RX9 141 yX1_setCold, Cond.instanceMethod yX1_setCold, Cond.selects RX1 yX1_setCold yX1_setCold, Cond.code yX1_setCold cX1_setCold 3 none, Cond.methodLink RX9 145 yX1_setLeft, Cond.instanceMethod yX1_setLeft, Cond.selects RX1 yX1_setLeft yX1_setLeft, Cond.code yX1_setLeft cX1_setLeft 3 none, Cond.methodLink RX9 115 yX9_singersFault, Cond.instanceMethod yX9_singersFault, Cond.selects RX9 yX9_singersFault yX9_singersFault, Cond.code yX9_singersFault cX9_singersFault 3 (some .int)]
def wsX9_singer_r7 : List Cond := [Cond.methodLink RX9 228 yX1_faultOf, Cond.instanceMethod yX1_faultOf, Cond.selects RX1 yX1_faultOf yX1_faultOf, Cond.code yX1_faultOf cX1_faultOf 3 (some .int), Cond.methodLink RX9 132 yX1_bad]
def wsX9_singer : List Cond := .code yX9_singer cX9_singer 3 (some .int) :: ((wsX9_singer_r1 ++ (wsX9_singer_r2 ++ (wsX9_singer_r3 ++ (wsX9_singer_r4 ++ (wsX9_singer_r5 ++ (wsX9_singer_r6 ++ wsX9_singer_r7)))))) ++ wsX90 ++ wsX10 ++ wsX80)
def wsX9_isOfKind : List Cond := .code yX9_isOfKind cX9_isOfKind 2 (some .boolean) :: ([.classLink RX9 231 "WorstVoice$Tenor", .classLink RX9 233 "WorstVoice$Boy", .classLink RX9 235 "WorstVoice$Deaf", .classLink RX9 237 "WorstVoice$Chorister"])
def wsX9_as_r1 : List Cond := [Cond.fieldLink RX9 41 "WorstVoice" "choir" "LWorstVoice$Choir;", Cond.methodLink RX9 87 yX1_hasSinger, Cond.instanceMethod yX1_hasSinger, Cond.selects RX1 yX1_hasSinger yX1_hasSinger, Cond.initialized RX1, Cond.code yX1_hasSinger cX1_hasSinger 2 (some .boolean), Cond.fieldLink RX1 46 "WorstVoice$Choir" "singers" "I", Cond.methodLink RX9 90 yX1_voice, Cond.instanceMethod yX1_voice, Cond.selects RX1 yX1_voice yX1_voice, Cond.code yX1_voice cX1_voice 2 (some (.object "WorstVoice$Singer")), Cond.fieldLink RX1 30 "WorstVoice$Choir" "voices" "LWorstVoice$Voices;", Cond.fieldLink RX1 9 "WorstVoice$Choir" "kinds" "[I", Cond.methodLink RX1 70 yX1_hasSinger, Cond.methodLink RX1 81 yX8_ofKind, Cond.instanceMethod yX8_ofKind, Cond.selects RX8 yX8_ofKind yX8_ofKind, Cond.initialized RX8, Cond.code yX8_ofKind cX8_ofKind 2 (some (.object "WorstVoice$Singer")), Cond.fieldLink RX8 21 "WorstVoice$Voices" "tenor" "LWorstVoice$Tenor;", Cond.fieldLink RX8 28 "WorstVoice$Voices" "boy" "LWorstVoice$Boy;", Cond.fieldLink RX8 35 "WorstVoice$Voices" "deaf" "LWorstVoice$Deaf;", Cond.fieldLink RX8 42 "WorstVoice$Voices" "chorister" "LWorstVoice$Chorister;", Cond.fieldLink RX8 12 "WorstVoice$Voices" "plain" "LWorstVoice$Singer;"]
def wsX9_as_r2 : List Cond := [Cond.methodLink RX9 119 yX9_isOfKind, Cond.static yX9_isOfKind, Cond.initialized RX9, Cond.code yX9_isOfKind cX9_isOfKind 2 (some .boolean), Cond.classLink RX9 231 "WorstVoice$Tenor", Cond.classLink RX9 233 "WorstVoice$Boy", Cond.classLink RX9 235 "WorstVoice$Deaf", Cond.classLink RX9 237 "WorstVoice$Chorister"]
def wsX9_as : List Cond := .code yX9_as cX9_as 3 (some .int) :: ((wsX9_as_r1 ++ wsX9_as_r2) ++ wsX90 ++ wsX10 ++ wsX80)
def wsX9_canMind_r1 : List Cond := [Cond.fieldLink RX9 19 "WorstVoice" "hearsay" "LWorstVoice$Hearsay;", Cond.fieldLink RX9 41 "WorstVoice" "choir" "LWorstVoice$Choir;", Cond.methodLink RX9 246 yX4_wouldBeSo, Cond.instanceMethod yX4_wouldBeSo, Cond.selects RX4 yX4_wouldBeSo yX4_wouldBeSo, Cond.initialized RX4, Cond.code yX4_wouldBeSo cX4_wouldBeSo 6 (some .boolean), Cond.fieldLink RX4 24 "WorstVoice$Hearsay" "size" "I", Cond.fieldLink RX4 15 "WorstVoice$Hearsay" "firsts" "[I", Cond.fieldLink RX4 18 "WorstVoice$Hearsay" "seconds" "[I", Cond.fieldLink RX4 9 "WorstVoice$Hearsay" "widows" "[I", Cond.fieldLink RX4 21 "WorstVoice$Hearsay" "mores" "[I", Cond.methodLink RX4 32 yX1_bad, Cond.instanceMethod yX1_bad, Cond.selects RX1 yX1_bad yX1_bad, Cond.initialized RX1, Cond.code yX1_bad cX1_bad 4 (some .int), Cond.fieldLink RX1 30 "WorstVoice$Choir" "voices" "LWorstVoice$Voices;", Cond.fieldLink RX1 9 "WorstVoice$Choir" "kinds" "[I", Cond.fieldLink RX1 15 "WorstVoice$Choir" "faults" "[I", Cond.fieldLink RX1 18 "WorstVoice$Choir" "colds" "[I", Cond.fieldLink RX1 21 "WorstVoice$Choir" "lefts" "[I", Cond.fieldLink RX1 24 "WorstVoice$Choir" "honeys" "[I", Cond.methodLink RX1 53 Lib.Math.max.name]
def wsX9_canMind_r2 : List Cond := [Cond.static Lib.Math.max.name, Cond.initialized "java/lang/Math", Cond.code Lib.Math.max.name Lib.Math.max.code 2 (some .int), Cond.methodLink RX1 70 yX1_hasSinger, Cond.instanceMethod yX1_hasSinger, Cond.selects RX1 yX1_hasSinger yX1_hasSinger, Cond.code yX1_hasSinger cX1_hasSinger 2 (some .boolean), Cond.fieldLink RX1 46 "WorstVoice$Choir" "singers" "I", Cond.methodLink RX1 87 yX1_isFault, Cond.static yX1_isFault, Cond.code yX1_isFault cX1_isFault 1 (some .boolean), Cond.methodLink RX1 81 yX8_ofKind, Cond.instanceMethod yX8_ofKind, Cond.selects RX8 yX8_ofKind yX8_ofKind, Cond.initialized RX8, Cond.code yX8_ofKind cX8_ofKind 2 (some (.object "WorstVoice$Singer")), Cond.fieldLink RX8 21 "WorstVoice$Voices" "tenor" "LWorstVoice$Tenor;", Cond.fieldLink RX8 28 "WorstVoice$Voices" "boy" "LWorstVoice$Boy;", Cond.fieldLink RX8 35 "WorstVoice$Voices" "deaf" "LWorstVoice$Deaf;", Cond.fieldLink RX8 42 "WorstVoice$Voices" "chorister" "LWorstVoice$Chorister;", Cond.fieldLink RX8 12 "WorstVoice$Voices" "plain" "LWorstVoice$Singer;", Cond.methodLink RX1 101 ⟨"WorstVoice$Singer", "plainBad", "(II)I"⟩, Cond.sameMethod "WorstVoice$Singer" "WorstVoice$Singer" "plainBad" "(II)I", Cond.instanceMethod ⟨"WorstVoice$Singer", "plainBad", "(II)I"⟩]
def wsX9_canMind_r3 : List Cond := [Cond.selects RX0 ⟨"WorstVoice$Singer", "plainBad", "(II)I"⟩ yX0_plainBad, Cond.instanceMethod yX0_plainBad, Cond.initialized RX0, Cond.code yX0_plainBad cX0_plainBad 3 (some .int), Cond.code yX6_plainBad cX6_plainBad 3 (some .int), Cond.selects RX2 ⟨"WorstVoice$Singer", "plainBad", "(II)I"⟩ yX2_plainBad, Cond.instanceMethod yX2_plainBad, Cond.initialized RX2, Cond.code yX2_plainBad cX2_plainBad 3 (some .int), Cond.selects RX3 ⟨"WorstVoice$Singer", "plainBad", "(II)I"⟩ yX3_plainBad, Cond.instanceMethod yX3_plainBad, Cond.initialized RX3, Cond.code yX3_plainBad cX3_plainBad 3 (some .int), Cond.methodLink RX1 101 yX6_plainBad, Cond.instanceMethod yX6_plainBad, Cond.selects RX6 yX6_plainBad yX6_plainBad, Cond.initialized RX6, Cond.selects RX7 ⟨"WorstVoice$Singer", "plainBad", "(II)I"⟩ yX7_plainBad, Cond.instanceMethod yX7_plainBad, Cond.initialized RX7, Cond.code yX7_plainBad cX7_plainBad 3 (some .int)]
def wsX9_canMind : List Cond := .code yX9_canMind cX9_canMind 4 (some .int) :: ((wsX9_canMind_r1 ++ (wsX9_canMind_r2 ++ wsX9_canMind_r3)) ++ wsX90 ++ wsX40 ++ wsX10 ++ wsX80)
def wsJ6_bitCount_0f7a4 : List Cond := .code yJ6_bitCount_0f7a4 cJ6_bitCount_0f7a4 1 (some .int) :: ([.constant RJ6 265 (1431655765), .constant RJ6 266 (858993459), .constant RJ6 267 (252645135)])
def wsX9_leftAtWorst_r1 : List Cond := [Cond.fieldLink RX9 41 "WorstVoice" "choir" "LWorstVoice$Choir;", Cond.methodLink RX9 259 Lib.Math.max.name, Cond.static Lib.Math.max.name, Cond.initialized "java/lang/Math", Cond.code Lib.Math.max.name Lib.Math.max.code 2 (some .int), Cond.methodLink RX9 132 yX1_bad, Cond.instanceMethod yX1_bad, Cond.selects RX1 yX1_bad yX1_bad, Cond.initialized RX1, Cond.code yX1_bad cX1_bad 4 (some .int), Cond.fieldLink RX1 30 "WorstVoice$Choir" "voices" "LWorstVoice$Voices;", Cond.fieldLink RX1 9 "WorstVoice$Choir" "kinds" "[I", Cond.fieldLink RX1 15 "WorstVoice$Choir" "faults" "[I", Cond.fieldLink RX1 18 "WorstVoice$Choir" "colds" "[I", Cond.fieldLink RX1 21 "WorstVoice$Choir" "lefts" "[I", Cond.fieldLink RX1 24 "WorstVoice$Choir" "honeys" "[I", Cond.methodLink RX1 53 Lib.Math.max.name, Cond.methodLink RX1 70 yX1_hasSinger, Cond.instanceMethod yX1_hasSinger, Cond.selects RX1 yX1_hasSinger yX1_hasSinger, Cond.code yX1_hasSinger cX1_hasSinger 2 (some .boolean), Cond.fieldLink RX1 46 "WorstVoice$Choir" "singers" "I", Cond.methodLink RX1 87 yX1_isFault, Cond.static yX1_isFault]
def wsX9_leftAtWorst_r2 : List Cond := [Cond.code yX1_isFault cX1_isFault 1 (some .boolean), Cond.methodLink RX1 81 yX8_ofKind, Cond.instanceMethod yX8_ofKind, Cond.selects RX8 yX8_ofKind yX8_ofKind, Cond.initialized RX8, Cond.code yX8_ofKind cX8_ofKind 2 (some (.object "WorstVoice$Singer")), Cond.fieldLink RX8 21 "WorstVoice$Voices" "tenor" "LWorstVoice$Tenor;", Cond.fieldLink RX8 28 "WorstVoice$Voices" "boy" "LWorstVoice$Boy;", Cond.fieldLink RX8 35 "WorstVoice$Voices" "deaf" "LWorstVoice$Deaf;", Cond.fieldLink RX8 42 "WorstVoice$Voices" "chorister" "LWorstVoice$Chorister;", Cond.fieldLink RX8 12 "WorstVoice$Voices" "plain" "LWorstVoice$Singer;", Cond.methodLink RX1 101 ⟨"WorstVoice$Singer", "plainBad", "(II)I"⟩, Cond.sameMethod "WorstVoice$Singer" "WorstVoice$Singer" "plainBad" "(II)I", Cond.instanceMethod ⟨"WorstVoice$Singer", "plainBad", "(II)I"⟩, Cond.selects RX0 ⟨"WorstVoice$Singer", "plainBad", "(II)I"⟩ yX0_plainBad, Cond.instanceMethod yX0_plainBad, Cond.initialized RX0, Cond.code yX0_plainBad cX0_plainBad 3 (some .int), Cond.code yX6_plainBad cX6_plainBad 3 (some .int), Cond.selects RX2 ⟨"WorstVoice$Singer", "plainBad", "(II)I"⟩ yX2_plainBad, Cond.instanceMethod yX2_plainBad, Cond.initialized RX2, Cond.code yX2_plainBad cX2_plainBad 3 (some .int), Cond.selects RX3 ⟨"WorstVoice$Singer", "plainBad", "(II)I"⟩ yX3_plainBad]
def wsX9_leftAtWorst_r3 : List Cond := [Cond.instanceMethod yX3_plainBad, Cond.initialized RX3, Cond.code yX3_plainBad cX3_plainBad 3 (some .int), Cond.methodLink RX1 101 yX6_plainBad, Cond.instanceMethod yX6_plainBad, Cond.selects RX6 yX6_plainBad yX6_plainBad, Cond.initialized RX6, Cond.selects RX7 ⟨"WorstVoice$Singer", "plainBad", "(II)I"⟩ yX7_plainBad, Cond.instanceMethod yX7_plainBad, Cond.initialized RX7, Cond.code yX7_plainBad cX7_plainBad 3 (some .int), Cond.methodLink RX9 254 yJ6_bitCount_0f7a4, Cond.static yJ6_bitCount_0f7a4, Cond.initialized RJ6, Cond.code yJ6_bitCount_0f7a4 cJ6_bitCount_0f7a4 1 (some .int), Cond.constant RJ6 265 (1431655765), Cond.constant RJ6 266 (858993459), Cond.constant RJ6 267 (252645135)]
def wsX9_leftAtWorst : List Cond := .code yX9_leftAtWorst cX9_leftAtWorst 6 (some .int) :: ((wsX9_leftAtWorst_r1 ++ (wsX9_leftAtWorst_r2 ++ wsX9_leftAtWorst_r3)) ++ wsX90 ++ wsX10 ++ wsX80)
def wsX9_bestAsk_r1 : List Cond := [Cond.fieldLink RX9 41 "WorstVoice" "choir" "LWorstVoice$Choir;", Cond.methodLink RX9 135 yX9_canMind, Cond.instanceMethod yX9_canMind, Cond.selects RX9 yX9_canMind yX9_canMind, Cond.initialized RX9, Cond.code yX9_canMind cX9_canMind 4 (some .int), Cond.fieldLink RX9 19 "WorstVoice" "hearsay" "LWorstVoice$Hearsay;", Cond.methodLink RX9 246 yX4_wouldBeSo, Cond.instanceMethod yX4_wouldBeSo, Cond.selects RX4 yX4_wouldBeSo yX4_wouldBeSo, Cond.initialized RX4, Cond.code yX4_wouldBeSo cX4_wouldBeSo 6 (some .boolean), Cond.fieldLink RX4 24 "WorstVoice$Hearsay" "size" "I", Cond.fieldLink RX4 15 "WorstVoice$Hearsay" "firsts" "[I", Cond.fieldLink RX4 18 "WorstVoice$Hearsay" "seconds" "[I", Cond.fieldLink RX4 9 "WorstVoice$Hearsay" "widows" "[I", Cond.fieldLink RX4 21 "WorstVoice$Hearsay" "mores" "[I", Cond.methodLink RX4 32 yX1_bad, Cond.instanceMethod yX1_bad, Cond.selects RX1 yX1_bad yX1_bad, Cond.initialized RX1, Cond.code yX1_bad cX1_bad 4 (some .int), Cond.fieldLink RX1 30 "WorstVoice$Choir" "voices" "LWorstVoice$Voices;", Cond.fieldLink RX1 9 "WorstVoice$Choir" "kinds" "[I"]
def wsX9_bestAsk_r2 : List Cond := [Cond.fieldLink RX1 15 "WorstVoice$Choir" "faults" "[I", Cond.fieldLink RX1 18 "WorstVoice$Choir" "colds" "[I", Cond.fieldLink RX1 21 "WorstVoice$Choir" "lefts" "[I", Cond.fieldLink RX1 24 "WorstVoice$Choir" "honeys" "[I", Cond.methodLink RX1 53 Lib.Math.max.name, Cond.static Lib.Math.max.name, Cond.initialized "java/lang/Math", Cond.code Lib.Math.max.name Lib.Math.max.code 2 (some .int), Cond.methodLink RX1 70 yX1_hasSinger, Cond.instanceMethod yX1_hasSinger, Cond.selects RX1 yX1_hasSinger yX1_hasSinger, Cond.code yX1_hasSinger cX1_hasSinger 2 (some .boolean), Cond.fieldLink RX1 46 "WorstVoice$Choir" "singers" "I", Cond.methodLink RX1 87 yX1_isFault, Cond.static yX1_isFault, Cond.code yX1_isFault cX1_isFault 1 (some .boolean), Cond.methodLink RX1 81 yX8_ofKind, Cond.instanceMethod yX8_ofKind, Cond.selects RX8 yX8_ofKind yX8_ofKind, Cond.initialized RX8, Cond.code yX8_ofKind cX8_ofKind 2 (some (.object "WorstVoice$Singer")), Cond.fieldLink RX8 21 "WorstVoice$Voices" "tenor" "LWorstVoice$Tenor;", Cond.fieldLink RX8 28 "WorstVoice$Voices" "boy" "LWorstVoice$Boy;", Cond.fieldLink RX8 35 "WorstVoice$Voices" "deaf" "LWorstVoice$Deaf;"]
def wsX9_bestAsk_r3 : List Cond := [Cond.fieldLink RX8 42 "WorstVoice$Voices" "chorister" "LWorstVoice$Chorister;", Cond.fieldLink RX8 12 "WorstVoice$Voices" "plain" "LWorstVoice$Singer;", Cond.methodLink RX1 101 ⟨"WorstVoice$Singer", "plainBad", "(II)I"⟩, Cond.sameMethod "WorstVoice$Singer" "WorstVoice$Singer" "plainBad" "(II)I", Cond.instanceMethod ⟨"WorstVoice$Singer", "plainBad", "(II)I"⟩, Cond.selects RX0 ⟨"WorstVoice$Singer", "plainBad", "(II)I"⟩ yX0_plainBad, Cond.instanceMethod yX0_plainBad, Cond.initialized RX0, Cond.code yX0_plainBad cX0_plainBad 3 (some .int), Cond.code yX6_plainBad cX6_plainBad 3 (some .int), Cond.selects RX2 ⟨"WorstVoice$Singer", "plainBad", "(II)I"⟩ yX2_plainBad, Cond.instanceMethod yX2_plainBad, Cond.initialized RX2, Cond.code yX2_plainBad cX2_plainBad 3 (some .int), Cond.selects RX3 ⟨"WorstVoice$Singer", "plainBad", "(II)I"⟩ yX3_plainBad, Cond.instanceMethod yX3_plainBad, Cond.initialized RX3, Cond.code yX3_plainBad cX3_plainBad 3 (some .int), Cond.methodLink RX1 101 yX6_plainBad, Cond.instanceMethod yX6_plainBad, Cond.selects RX6 yX6_plainBad yX6_plainBad, Cond.initialized RX6, Cond.selects RX7 ⟨"WorstVoice$Singer", "plainBad", "(II)I"⟩ yX7_plainBad, Cond.instanceMethod yX7_plainBad]
def wsX9_bestAsk_r4 : List Cond := [Cond.initialized RX7, Cond.code yX7_plainBad cX7_plainBad 3 (some .int), Cond.methodLink RX9 250 yX9_leftAtWorst, Cond.instanceMethod yX9_leftAtWorst, Cond.selects RX9 yX9_leftAtWorst yX9_leftAtWorst, Cond.code yX9_leftAtWorst cX9_leftAtWorst 6 (some .int), Cond.methodLink RX9 259 Lib.Math.max.name, Cond.methodLink RX9 132 yX1_bad, Cond.methodLink RX9 254 yJ6_bitCount_0f7a4, Cond.static yJ6_bitCount_0f7a4, Cond.initialized RJ6, Cond.code yJ6_bitCount_0f7a4 cJ6_bitCount_0f7a4 1 (some .int), Cond.constant RJ6 265 (1431655765), Cond.constant RJ6 266 (858993459), Cond.constant RJ6 267 (252645135)]
def wsX9_bestAsk : List Cond := .code yX9_bestAsk cX9_bestAsk 8 (some .int) :: ((wsX9_bestAsk_r1 ++ (wsX9_bestAsk_r2 ++ (wsX9_bestAsk_r3 ++ wsX9_bestAsk_r4))) ++ wsX90 ++ wsX10 ++ wsX40 ++ wsX80)
def wsX9_widow_r1 : List Cond := [Cond.fieldLink RX9 41 "WorstVoice" "choir" "LWorstVoice$Choir;", Cond.methodLink RX9 123 yX1_hasWidow, Cond.instanceMethod yX1_hasWidow, Cond.selects RX1 yX1_hasWidow yX1_hasWidow, Cond.initialized RX1, Cond.code yX1_hasWidow cX1_hasWidow 2 (some .boolean), Cond.fieldLink RX1 56 "WorstVoice$Choir" "widows" "I", Cond.methodLink RX9 126 yX1_minds, Cond.instanceMethod yX1_minds, Cond.selects RX1 yX1_minds yX1_minds, Cond.code yX1_minds cX1_minds 2 (some .int), Cond.fieldLink RX1 27 "WorstVoice$Choir" "minded" "[I", Cond.methodLink RX1 90 yX1_hasWidow, Cond.methodLink RX9 129 yX1_favourite, Cond.instanceMethod yX1_favourite, Cond.selects RX1 yX1_favourite yX1_favourite, Cond.code yX1_favourite cX1_favourite 5 (some .int), Cond.fieldLink RX1 46 "WorstVoice$Choir" "singers" "I", Cond.methodLink RX1 104 yX1_minds, Cond.methodLink RX1 107 yX1_bad, Cond.instanceMethod yX1_bad, Cond.selects RX1 yX1_bad yX1_bad, Cond.code yX1_bad cX1_bad 4 (some .int), Cond.fieldLink RX1 30 "WorstVoice$Choir" "voices" "LWorstVoice$Voices;"]
def wsX9_widow_r2 : List Cond := [Cond.fieldLink RX1 9 "WorstVoice$Choir" "kinds" "[I", Cond.fieldLink RX1 15 "WorstVoice$Choir" "faults" "[I", Cond.fieldLink RX1 18 "WorstVoice$Choir" "colds" "[I", Cond.fieldLink RX1 21 "WorstVoice$Choir" "lefts" "[I", Cond.fieldLink RX1 24 "WorstVoice$Choir" "honeys" "[I", Cond.methodLink RX1 53 Lib.Math.max.name, Cond.static Lib.Math.max.name, Cond.initialized "java/lang/Math", Cond.code Lib.Math.max.name Lib.Math.max.code 2 (some .int), Cond.methodLink RX1 70 yX1_hasSinger, Cond.instanceMethod yX1_hasSinger, Cond.selects RX1 yX1_hasSinger yX1_hasSinger, Cond.code yX1_hasSinger cX1_hasSinger 2 (some .boolean), Cond.methodLink RX1 87 yX1_isFault, Cond.static yX1_isFault, Cond.code yX1_isFault cX1_isFault 1 (some .boolean), Cond.methodLink RX1 81 yX8_ofKind, Cond.instanceMethod yX8_ofKind, Cond.selects RX8 yX8_ofKind yX8_ofKind, Cond.initialized RX8, Cond.code yX8_ofKind cX8_ofKind 2 (some (.object "WorstVoice$Singer")), Cond.fieldLink RX8 21 "WorstVoice$Voices" "tenor" "LWorstVoice$Tenor;", Cond.fieldLink RX8 28 "WorstVoice$Voices" "boy" "LWorstVoice$Boy;", Cond.fieldLink RX8 35 "WorstVoice$Voices" "deaf" "LWorstVoice$Deaf;"]
def wsX9_widow_r3 : List Cond := [Cond.fieldLink RX8 42 "WorstVoice$Voices" "chorister" "LWorstVoice$Chorister;", Cond.fieldLink RX8 12 "WorstVoice$Voices" "plain" "LWorstVoice$Singer;", Cond.methodLink RX1 101 ⟨"WorstVoice$Singer", "plainBad", "(II)I"⟩, Cond.sameMethod "WorstVoice$Singer" "WorstVoice$Singer" "plainBad" "(II)I", Cond.instanceMethod ⟨"WorstVoice$Singer", "plainBad", "(II)I"⟩, Cond.selects RX0 ⟨"WorstVoice$Singer", "plainBad", "(II)I"⟩ yX0_plainBad, Cond.instanceMethod yX0_plainBad, Cond.initialized RX0, Cond.code yX0_plainBad cX0_plainBad 3 (some .int), Cond.code yX6_plainBad cX6_plainBad 3 (some .int), Cond.selects RX2 ⟨"WorstVoice$Singer", "plainBad", "(II)I"⟩ yX2_plainBad, Cond.instanceMethod yX2_plainBad, Cond.initialized RX2, Cond.code yX2_plainBad cX2_plainBad 3 (some .int), Cond.selects RX3 ⟨"WorstVoice$Singer", "plainBad", "(II)I"⟩ yX3_plainBad, Cond.instanceMethod yX3_plainBad, Cond.initialized RX3, Cond.code yX3_plainBad cX3_plainBad 3 (some .int), Cond.methodLink RX1 101 yX6_plainBad, Cond.instanceMethod yX6_plainBad, Cond.selects RX6 yX6_plainBad yX6_plainBad, Cond.initialized RX6, Cond.selects RX7 ⟨"WorstVoice$Singer", "plainBad", "(II)I"⟩ yX7_plainBad, Cond.instanceMethod yX7_plainBad]
def wsX9_widow_r4 : List Cond := [Cond.initialized RX7, Cond.code yX7_plainBad cX7_plainBad 3 (some .int), Cond.methodLink RX9 132 yX1_bad, Cond.methodLink RX9 135 yX9_canMind, Cond.instanceMethod yX9_canMind, Cond.selects RX9 yX9_canMind yX9_canMind, Cond.initialized RX9, Cond.code yX9_canMind cX9_canMind 4 (some .int), Cond.fieldLink RX9 19 "WorstVoice" "hearsay" "LWorstVoice$Hearsay;", Cond.methodLink RX9 246 yX4_wouldBeSo, Cond.instanceMethod yX4_wouldBeSo, Cond.selects RX4 yX4_wouldBeSo yX4_wouldBeSo, Cond.initialized RX4, Cond.code yX4_wouldBeSo cX4_wouldBeSo 6 (some .boolean), Cond.fieldLink RX4 24 "WorstVoice$Hearsay" "size" "I", Cond.fieldLink RX4 15 "WorstVoice$Hearsay" "firsts" "[I", Cond.fieldLink RX4 18 "WorstVoice$Hearsay" "seconds" "[I", Cond.fieldLink RX4 9 "WorstVoice$Hearsay" "widows" "[I", Cond.fieldLink RX4 21 "WorstVoice$Hearsay" "mores" "[I", Cond.methodLink RX4 32 yX1_bad, Cond.methodLink RX9 138 yX9_bestAsk, Cond.instanceMethod yX9_bestAsk, Cond.selects RX9 yX9_bestAsk yX9_bestAsk, Cond.code yX9_bestAsk cX9_bestAsk 8 (some .int)]
def wsX9_widow_r5 : List Cond := [Cond.methodLink RX9 250 yX9_leftAtWorst, Cond.instanceMethod yX9_leftAtWorst, Cond.selects RX9 yX9_leftAtWorst yX9_leftAtWorst, Cond.code yX9_leftAtWorst cX9_leftAtWorst 6 (some .int), Cond.methodLink RX9 259 Lib.Math.max.name, Cond.methodLink RX9 254 yJ6_bitCount_0f7a4, Cond.static yJ6_bitCount_0f7a4, Cond.initialized RJ6, Cond.code yJ6_bitCount_0f7a4 cJ6_bitCount_0f7a4 1 (some .int), Cond.constant RJ6 265 (1431655765), Cond.constant RJ6 266 (858993459), Cond.constant RJ6 267 (252645135)]
def wsX9_widow : List Cond := .code yX9_widow cX9_widow 3 (some .int) :: ((wsX9_widow_r1 ++ (wsX9_widow_r2 ++ (wsX9_widow_r3 ++ (wsX9_widow_r4 ++ wsX9_widow_r5)))) ++ wsX90 ++ wsX10 ++ wsX80 ++ wsX40)
def wsX9_wince_r1 : List Cond := [Cond.fieldLink RX9 41 "WorstVoice" "choir" "LWorstVoice$Choir;", Cond.methodLink RX9 123 yX1_hasWidow, Cond.instanceMethod yX1_hasWidow, Cond.selects RX1 yX1_hasWidow yX1_hasWidow, Cond.initialized RX1, Cond.code yX1_hasWidow cX1_hasWidow 2 (some .boolean), Cond.fieldLink RX1 56 "WorstVoice$Choir" "widows" "I", Cond.methodLink RX9 87 yX1_hasSinger, Cond.instanceMethod yX1_hasSinger, Cond.selects RX1 yX1_hasSinger yX1_hasSinger, Cond.code yX1_hasSinger cX1_hasSinger 2 (some .boolean), Cond.fieldLink RX1 46 "WorstVoice$Choir" "singers" "I", Cond.methodLink RX9 126 yX1_minds, Cond.instanceMethod yX1_minds, Cond.selects RX1 yX1_minds yX1_minds, Cond.code yX1_minds cX1_minds 2 (some .int), Cond.fieldLink RX1 27 "WorstVoice$Choir" "minded" "[I", Cond.methodLink RX1 90 yX1_hasWidow, Cond.methodLink RX9 132 yX1_bad, Cond.instanceMethod yX1_bad, Cond.selects RX1 yX1_bad yX1_bad, Cond.code yX1_bad cX1_bad 4 (some .int), Cond.fieldLink RX1 30 "WorstVoice$Choir" "voices" "LWorstVoice$Voices;", Cond.fieldLink RX1 9 "WorstVoice$Choir" "kinds" "[I"]
def wsX9_wince_r2 : List Cond := [Cond.fieldLink RX1 15 "WorstVoice$Choir" "faults" "[I", Cond.fieldLink RX1 18 "WorstVoice$Choir" "colds" "[I", Cond.fieldLink RX1 21 "WorstVoice$Choir" "lefts" "[I", Cond.fieldLink RX1 24 "WorstVoice$Choir" "honeys" "[I", Cond.methodLink RX1 53 Lib.Math.max.name, Cond.static Lib.Math.max.name, Cond.initialized "java/lang/Math", Cond.code Lib.Math.max.name Lib.Math.max.code 2 (some .int), Cond.methodLink RX1 70 yX1_hasSinger, Cond.methodLink RX1 87 yX1_isFault, Cond.static yX1_isFault, Cond.code yX1_isFault cX1_isFault 1 (some .boolean), Cond.methodLink RX1 81 yX8_ofKind, Cond.instanceMethod yX8_ofKind, Cond.selects RX8 yX8_ofKind yX8_ofKind, Cond.initialized RX8, Cond.code yX8_ofKind cX8_ofKind 2 (some (.object "WorstVoice$Singer")), Cond.fieldLink RX8 21 "WorstVoice$Voices" "tenor" "LWorstVoice$Tenor;", Cond.fieldLink RX8 28 "WorstVoice$Voices" "boy" "LWorstVoice$Boy;", Cond.fieldLink RX8 35 "WorstVoice$Voices" "deaf" "LWorstVoice$Deaf;", Cond.fieldLink RX8 42 "WorstVoice$Voices" "chorister" "LWorstVoice$Chorister;", Cond.fieldLink RX8 12 "WorstVoice$Voices" "plain" "LWorstVoice$Singer;", Cond.methodLink RX1 101 ⟨"WorstVoice$Singer", "plainBad", "(II)I"⟩, Cond.sameMethod "WorstVoice$Singer" "WorstVoice$Singer" "plainBad" "(II)I"]
def wsX9_wince_r3 : List Cond := [Cond.instanceMethod ⟨"WorstVoice$Singer", "plainBad", "(II)I"⟩, Cond.selects RX0 ⟨"WorstVoice$Singer", "plainBad", "(II)I"⟩ yX0_plainBad, Cond.instanceMethod yX0_plainBad, Cond.initialized RX0, Cond.code yX0_plainBad cX0_plainBad 3 (some .int), Cond.code yX6_plainBad cX6_plainBad 3 (some .int), Cond.selects RX2 ⟨"WorstVoice$Singer", "plainBad", "(II)I"⟩ yX2_plainBad, Cond.instanceMethod yX2_plainBad, Cond.initialized RX2, Cond.code yX2_plainBad cX2_plainBad 3 (some .int), Cond.selects RX3 ⟨"WorstVoice$Singer", "plainBad", "(II)I"⟩ yX3_plainBad, Cond.instanceMethod yX3_plainBad, Cond.initialized RX3, Cond.code yX3_plainBad cX3_plainBad 3 (some .int), Cond.methodLink RX1 101 yX6_plainBad, Cond.instanceMethod yX6_plainBad, Cond.selects RX6 yX6_plainBad yX6_plainBad, Cond.initialized RX6, Cond.selects RX7 ⟨"WorstVoice$Singer", "plainBad", "(II)I"⟩ yX7_plainBad, Cond.instanceMethod yX7_plainBad, Cond.initialized RX7, Cond.code yX7_plainBad cX7_plainBad 3 (some .int)]
def wsX9_wince : List Cond := .code yX9_wince cX9_wince 3 (some .int) :: ((wsX9_wince_r1 ++ (wsX9_wince_r2 ++ wsX9_wince_r3)) ++ wsX90 ++ wsX10 ++ wsX80)
def wsX9_cold : List Cond := .code yX9_cold cX9_cold 4 (some .int) :: ([.fieldLink RX9 41 "WorstVoice" "choir" "LWorstVoice$Choir;", .methodLink RX9 87 yX1_hasSinger, .instanceMethod yX1_hasSinger, .selects RX1 yX1_hasSinger yX1_hasSinger, .initialized RX1, .code yX1_hasSinger cX1_hasSinger 2 (some .boolean), .fieldLink RX1 46 "WorstVoice$Choir" "singers" "I", .methodLink RX9 103 yX1_coldOf, .instanceMethod yX1_coldOf, .selects RX1 yX1_coldOf yX1_coldOf, .code yX1_coldOf cX1_coldOf 2 (some .int), .fieldLink RX1 18 "WorstVoice$Choir" "colds" "[I", .methodLink RX1 70 yX1_hasSinger, .methodLink RX9 141 yX1_setCold, .instanceMethod yX1_setCold, .selects RX1 yX1_setCold yX1_setCold, .code yX1_setCold cX1_setCold 3 none] ++ wsX90 ++ wsX10)
def wsX9_aisle : List Cond := .code yX9_aisle cX9_aisle 4 (some .int) :: ([.fieldLink RX9 41 "WorstVoice" "choir" "LWorstVoice$Choir;", .methodLink RX9 87 yX1_hasSinger, .instanceMethod yX1_hasSinger, .selects RX1 yX1_hasSinger yX1_hasSinger, .initialized RX1, .code yX1_hasSinger cX1_hasSinger 2 (some .boolean), .fieldLink RX1 46 "WorstVoice$Choir" "singers" "I", .methodLink RX9 106 yX1_leftOf, .instanceMethod yX1_leftOf, .selects RX1 yX1_leftOf yX1_leftOf, .code yX1_leftOf cX1_leftOf 2 (some .int), .fieldLink RX1 21 "WorstVoice$Choir" "lefts" "[I", .methodLink RX1 70 yX1_hasSinger, .methodLink RX9 145 yX1_setLeft, .instanceMethod yX1_setLeft, .selects RX1 yX1_setLeft yX1_setLeft, .code yX1_setLeft cX1_setLeft 3 none] ++ wsX90 ++ wsX10)
def wsX9_honey : List Cond := .code yX9_honey cX9_honey 4 (some .int) :: ([.fieldLink RX9 41 "WorstVoice" "choir" "LWorstVoice$Choir;", .methodLink RX9 87 yX1_hasSinger, .instanceMethod yX1_hasSinger, .selects RX1 yX1_hasSinger yX1_hasSinger, .initialized RX1, .code yX1_hasSinger cX1_hasSinger 2 (some .boolean), .fieldLink RX1 46 "WorstVoice$Choir" "singers" "I", .methodLink RX9 109 yX1_honeyOf, .instanceMethod yX1_honeyOf, .selects RX1 yX1_honeyOf yX1_honeyOf, .code yX1_honeyOf cX1_honeyOf 2 (some .int), .fieldLink RX1 24 "WorstVoice$Choir" "honeys" "[I", .methodLink RX1 70 yX1_hasSinger, .methodLink RX9 148 yX1_setHoney, .instanceMethod yX1_setHoney, .selects RX1 yX1_setHoney yX1_setHoney, .code yX1_setHoney cX1_setHoney 3 none] ++ wsX90 ++ wsX10)
def wsX9_practise_r1 : List Cond := [Cond.fieldLink RX9 41 "WorstVoice" "choir" "LWorstVoice$Choir;", Cond.methodLink RX9 87 yX1_hasSinger, Cond.instanceMethod yX1_hasSinger, Cond.selects RX1 yX1_hasSinger yX1_hasSinger, Cond.initialized RX1, Cond.code yX1_hasSinger cX1_hasSinger 2 (some .boolean), Cond.fieldLink RX1 46 "WorstVoice$Choir" "singers" "I", Cond.methodLink RX9 152 yX1_practiseWeek, Cond.instanceMethod yX1_practiseWeek, Cond.selects RX1 yX1_practiseWeek yX1_practiseWeek, Cond.code yX1_practiseWeek cX1_practiseWeek 5 (some .int), Cond.fieldLink RX1 15 "WorstVoice$Choir" "faults" "[I", Cond.fieldLink RX1 59 "WorstVoice$Choir" "weeks" "I", Cond.methodLink RX1 70 yX1_hasSinger, Cond.methodLink RX1 93 yX1_voice, Cond.instanceMethod yX1_voice, Cond.selects RX1 yX1_voice yX1_voice, Cond.code yX1_voice cX1_voice 2 (some (.object "WorstVoice$Singer")), Cond.fieldLink RX1 30 "WorstVoice$Choir" "voices" "LWorstVoice$Voices;", Cond.fieldLink RX1 9 "WorstVoice$Choir" "kinds" "[I", Cond.methodLink RX1 81 yX8_ofKind, Cond.instanceMethod yX8_ofKind, Cond.selects RX8 yX8_ofKind yX8_ofKind, Cond.initialized RX8]
def wsX9_practise_r2 : List Cond := [Cond.code yX8_ofKind cX8_ofKind 2 (some (.object "WorstVoice$Singer")), Cond.fieldLink RX8 21 "WorstVoice$Voices" "tenor" "LWorstVoice$Tenor;", Cond.fieldLink RX8 28 "WorstVoice$Voices" "boy" "LWorstVoice$Boy;", Cond.fieldLink RX8 35 "WorstVoice$Voices" "deaf" "LWorstVoice$Deaf;", Cond.fieldLink RX8 42 "WorstVoice$Voices" "chorister" "LWorstVoice$Chorister;", Cond.fieldLink RX8 12 "WorstVoice$Voices" "plain" "LWorstVoice$Singer;", Cond.methodLink RX1 96 ⟨"WorstVoice$Singer", "practised", "(I)I"⟩, Cond.sameMethod "WorstVoice$Singer" "WorstVoice$Singer" "practised" "(I)I", Cond.instanceMethod ⟨"WorstVoice$Singer", "practised", "(I)I"⟩, Cond.selects RX0 ⟨"WorstVoice$Singer", "practised", "(I)I"⟩ yX0_practised, Cond.instanceMethod yX0_practised, Cond.initialized RX0, Cond.code yX0_practised cX0_practised 2 (some .int), Cond.code yX6_practised cX6_practised 2 (some .int), Cond.selects RX2 ⟨"WorstVoice$Singer", "practised", "(I)I"⟩ yX6_practised, Cond.instanceMethod yX6_practised, Cond.initialized RX6, Cond.selects RX3 ⟨"WorstVoice$Singer", "practised", "(I)I"⟩ yX6_practised, Cond.methodLink RX1 96 yX6_practised, Cond.selects RX6 yX6_practised yX6_practised, Cond.selects RX7 ⟨"WorstVoice$Singer", "practised", "(I)I"⟩ yX6_practised]
def wsX9_practise : List Cond := .code yX9_practise cX9_practise 2 (some .int) :: ((wsX9_practise_r1 ++ wsX9_practise_r2) ++ wsX90 ++ wsX10 ++ wsX80)
def wsX9_mayor_r1 : List Cond := [Cond.fieldLink RX9 41 "WorstVoice" "choir" "LWorstVoice$Choir;", Cond.methodLink RX9 155 yX1_isEmpty, Cond.instanceMethod yX1_isEmpty, Cond.selects RX1 yX1_isEmpty yX1_isEmpty, Cond.initialized RX1, Cond.code yX1_isEmpty cX1_isEmpty 1 (some .boolean), Cond.fieldLink RX1 46 "WorstVoice$Choir" "singers" "I", Cond.methodLink RX9 158 yX1_elected, Cond.instanceMethod yX1_elected, Cond.selects RX1 yX1_elected yX1_elected, Cond.code yX1_elected cX1_elected 3 (some .int), Cond.methodLink RX1 113 yX1_votes, Cond.instanceMethod yX1_votes, Cond.selects RX1 yX1_votes yX1_votes, Cond.code yX1_votes cX1_votes 4 (some .int), Cond.fieldLink RX1 56 "WorstVoice$Choir" "widows" "I", Cond.methodLink RX1 110 yX1_favourite, Cond.instanceMethod yX1_favourite, Cond.selects RX1 yX1_favourite yX1_favourite, Cond.code yX1_favourite cX1_favourite 5 (some .int), Cond.methodLink RX1 104 yX1_minds, Cond.instanceMethod yX1_minds, Cond.selects RX1 yX1_minds yX1_minds, Cond.code yX1_minds cX1_minds 2 (some .int)]
def wsX9_mayor_r2 : List Cond := [Cond.fieldLink RX1 27 "WorstVoice$Choir" "minded" "[I", Cond.methodLink RX1 90 yX1_hasWidow, Cond.instanceMethod yX1_hasWidow, Cond.selects RX1 yX1_hasWidow yX1_hasWidow, Cond.code yX1_hasWidow cX1_hasWidow 2 (some .boolean), Cond.methodLink RX1 107 yX1_bad, Cond.instanceMethod yX1_bad, Cond.selects RX1 yX1_bad yX1_bad, Cond.code yX1_bad cX1_bad 4 (some .int), Cond.fieldLink RX1 30 "WorstVoice$Choir" "voices" "LWorstVoice$Voices;", Cond.fieldLink RX1 9 "WorstVoice$Choir" "kinds" "[I", Cond.fieldLink RX1 15 "WorstVoice$Choir" "faults" "[I", Cond.fieldLink RX1 18 "WorstVoice$Choir" "colds" "[I", Cond.fieldLink RX1 21 "WorstVoice$Choir" "lefts" "[I", Cond.fieldLink RX1 24 "WorstVoice$Choir" "honeys" "[I", Cond.methodLink RX1 53 Lib.Math.max.name, Cond.static Lib.Math.max.name, Cond.initialized "java/lang/Math", Cond.code Lib.Math.max.name Lib.Math.max.code 2 (some .int), Cond.methodLink RX1 70 yX1_hasSinger, Cond.instanceMethod yX1_hasSinger, Cond.selects RX1 yX1_hasSinger yX1_hasSinger, Cond.code yX1_hasSinger cX1_hasSinger 2 (some .boolean), Cond.methodLink RX1 87 yX1_isFault]
def wsX9_mayor_r3 : List Cond := [Cond.static yX1_isFault, Cond.code yX1_isFault cX1_isFault 1 (some .boolean), Cond.methodLink RX1 81 yX8_ofKind, Cond.instanceMethod yX8_ofKind, Cond.selects RX8 yX8_ofKind yX8_ofKind, Cond.initialized RX8, Cond.code yX8_ofKind cX8_ofKind 2 (some (.object "WorstVoice$Singer")), Cond.fieldLink RX8 21 "WorstVoice$Voices" "tenor" "LWorstVoice$Tenor;", Cond.fieldLink RX8 28 "WorstVoice$Voices" "boy" "LWorstVoice$Boy;", Cond.fieldLink RX8 35 "WorstVoice$Voices" "deaf" "LWorstVoice$Deaf;", Cond.fieldLink RX8 42 "WorstVoice$Voices" "chorister" "LWorstVoice$Chorister;", Cond.fieldLink RX8 12 "WorstVoice$Voices" "plain" "LWorstVoice$Singer;", Cond.methodLink RX1 101 ⟨"WorstVoice$Singer", "plainBad", "(II)I"⟩, Cond.sameMethod "WorstVoice$Singer" "WorstVoice$Singer" "plainBad" "(II)I", Cond.instanceMethod ⟨"WorstVoice$Singer", "plainBad", "(II)I"⟩, Cond.selects RX0 ⟨"WorstVoice$Singer", "plainBad", "(II)I"⟩ yX0_plainBad, Cond.instanceMethod yX0_plainBad, Cond.initialized RX0, Cond.code yX0_plainBad cX0_plainBad 3 (some .int), Cond.code yX6_plainBad cX6_plainBad 3 (some .int), Cond.selects RX2 ⟨"WorstVoice$Singer", "plainBad", "(II)I"⟩ yX2_plainBad, Cond.instanceMethod yX2_plainBad, Cond.initialized RX2, Cond.code yX2_plainBad cX2_plainBad 3 (some .int)]
def wsX9_mayor_r4 : List Cond := [Cond.selects RX3 ⟨"WorstVoice$Singer", "plainBad", "(II)I"⟩ yX3_plainBad, Cond.instanceMethod yX3_plainBad, Cond.initialized RX3, Cond.code yX3_plainBad cX3_plainBad 3 (some .int), Cond.methodLink RX1 101 yX6_plainBad, Cond.instanceMethod yX6_plainBad, Cond.selects RX6 yX6_plainBad yX6_plainBad, Cond.initialized RX6, Cond.selects RX7 ⟨"WorstVoice$Singer", "plainBad", "(II)I"⟩ yX7_plainBad, Cond.instanceMethod yX7_plainBad, Cond.initialized RX7, Cond.code yX7_plainBad cX7_plainBad 3 (some .int)]
def wsX9_mayor : List Cond := .code yX9_mayor cX9_mayor 1 (some .int) :: ((wsX9_mayor_r1 ++ (wsX9_mayor_r2 ++ (wsX9_mayor_r3 ++ wsX9_mayor_r4))) ++ wsX90 ++ wsX10 ++ wsX80)
def wsX9_pour : List Cond := .code yX9_pour cX9_pour 8 (some .int) :: ([.fieldLink RX9 26 "WorstVoice" "pouring" "[I", .fieldLink RX9 41 "WorstVoice" "choir" "LWorstVoice$Choir;", .fieldLink RX9 48 "WorstVoice" "trial" "LWorstVoice$Choir;", .methodLink RX9 87 yX1_hasSinger, .instanceMethod yX1_hasSinger, .selects RX1 yX1_hasSinger yX1_hasSinger, .initialized RX1, .code yX1_hasSinger cX1_hasSinger 2 (some .boolean), .fieldLink RX1 46 "WorstVoice$Choir" "singers" "I", .methodLink RX9 109 yX1_honeyOf, .instanceMethod yX1_honeyOf, .selects RX1 yX1_honeyOf yX1_honeyOf, .code yX1_honeyOf cX1_honeyOf 2 (some .int), .fieldLink RX1 24 "WorstVoice$Choir" "honeys" "[I", .methodLink RX1 70 yX1_hasSinger, .methodLink RX9 148 yX1_setHoney, .instanceMethod yX1_setHoney, .selects RX1 yX1_setHoney yX1_setHoney, .code yX1_setHoney cX1_setHoney 3 none] ++ wsX90 ++ wsX10)
def wsX9_pourLeast_r1 : List Cond := [Cond.fieldLink RX9 48 "WorstVoice" "trial" "LWorstVoice$Choir;", Cond.fieldLink RX9 41 "WorstVoice" "choir" "LWorstVoice$Choir;", Cond.fieldLink RX9 26 "WorstVoice" "pouring" "[I", Cond.fieldLink RX9 30 "WorstVoice" "poured" "[I", Cond.methodLink RX9 174 yX1_takeFrom, Cond.instanceMethod yX1_takeFrom, Cond.selects RX1 yX1_takeFrom yX1_takeFrom, Cond.initialized RX1, Cond.code yX1_takeFrom cX1_takeFrom 2 none, Cond.fieldLink RX1 9 "WorstVoice$Choir" "kinds" "[I", Cond.fieldLink RX1 15 "WorstVoice$Choir" "faults" "[I", Cond.fieldLink RX1 18 "WorstVoice$Choir" "colds" "[I", Cond.fieldLink RX1 21 "WorstVoice$Choir" "lefts" "[I", Cond.fieldLink RX1 24 "WorstVoice$Choir" "honeys" "[I", Cond.fieldLink RX1 27 "WorstVoice$Choir" "minded" "[I", Cond.fieldLink RX1 46 "WorstVoice$Choir" "singers" "I", Cond.fieldLink RX1 56 "WorstVoice$Choir" "widows" "I", Cond.fieldLink RX1 59 "WorstVoice$Choir" "weeks" "I", Cond.static yX9_copyRow, Cond.initialized RX9, Cond.code yX9_copyRow cX9_copyRow 2 none, Cond.methodLink RX9 264 Lib.Math.min.name, Cond.static Lib.Math.min.name, Cond.initialized "java/lang/Math"]
def wsX9_pourLeast_r2 : List Cond := [Cond.code Lib.Math.min.name Lib.Math.min.code 2 (some .int), Cond.methodLink RX9 267 arraycopyName, Cond.native arraycopyName, Cond.static arraycopyName, Cond.initialized "java/lang/System", Cond.methodLink RX9 239 yX9_pour, Cond.instanceMethod yX9_pour, Cond.selects RX9 yX9_pour yX9_pour, Cond.code yX9_pour cX9_pour 8 (some .int), Cond.methodLink RX9 87 yX1_hasSinger, Cond.instanceMethod yX1_hasSinger, Cond.selects RX1 yX1_hasSinger yX1_hasSinger, Cond.code yX1_hasSinger cX1_hasSinger 2 (some .boolean), Cond.methodLink RX9 109 yX1_honeyOf, Cond.instanceMethod yX1_honeyOf, Cond.selects RX1 yX1_honeyOf yX1_honeyOf, Cond.code yX1_honeyOf cX1_honeyOf 2 (some .int), Cond.methodLink RX1 70 yX1_hasSinger, Cond.methodLink RX9 148 yX1_setHoney, Cond.instanceMethod yX1_setHoney, Cond.selects RX1 yX1_setHoney yX1_setHoney, Cond.code yX1_setHoney cX1_setHoney 3 none, Cond.methodLink RX9 158 yX1_elected, Cond.instanceMethod yX1_elected]
def wsX9_pourLeast_r3 : List Cond := [Cond.selects RX1 yX1_elected yX1_elected, Cond.code yX1_elected cX1_elected 3 (some .int), Cond.methodLink RX1 113 yX1_votes, Cond.instanceMethod yX1_votes, Cond.selects RX1 yX1_votes yX1_votes, Cond.code yX1_votes cX1_votes 4 (some .int), Cond.methodLink RX1 110 yX1_favourite, Cond.instanceMethod yX1_favourite, Cond.selects RX1 yX1_favourite yX1_favourite, Cond.code yX1_favourite cX1_favourite 5 (some .int), Cond.methodLink RX1 104 yX1_minds, Cond.instanceMethod yX1_minds, Cond.selects RX1 yX1_minds yX1_minds, Cond.code yX1_minds cX1_minds 2 (some .int), Cond.methodLink RX1 90 yX1_hasWidow, Cond.instanceMethod yX1_hasWidow, Cond.selects RX1 yX1_hasWidow yX1_hasWidow, Cond.code yX1_hasWidow cX1_hasWidow 2 (some .boolean), Cond.methodLink RX1 107 yX1_bad, Cond.instanceMethod yX1_bad, Cond.selects RX1 yX1_bad yX1_bad, Cond.code yX1_bad cX1_bad 4 (some .int), Cond.fieldLink RX1 30 "WorstVoice$Choir" "voices" "LWorstVoice$Voices;", Cond.methodLink RX1 53 Lib.Math.max.name]
def wsX9_pourLeast_r4 : List Cond := [Cond.static Lib.Math.max.name, Cond.code Lib.Math.max.name Lib.Math.max.code 2 (some .int), Cond.methodLink RX1 87 yX1_isFault, Cond.static yX1_isFault, Cond.code yX1_isFault cX1_isFault 1 (some .boolean), Cond.methodLink RX1 81 yX8_ofKind, Cond.instanceMethod yX8_ofKind, Cond.selects RX8 yX8_ofKind yX8_ofKind, Cond.initialized RX8, Cond.code yX8_ofKind cX8_ofKind 2 (some (.object "WorstVoice$Singer")), Cond.fieldLink RX8 21 "WorstVoice$Voices" "tenor" "LWorstVoice$Tenor;", Cond.fieldLink RX8 28 "WorstVoice$Voices" "boy" "LWorstVoice$Boy;", Cond.fieldLink RX8 35 "WorstVoice$Voices" "deaf" "LWorstVoice$Deaf;", Cond.fieldLink RX8 42 "WorstVoice$Voices" "chorister" "LWorstVoice$Chorister;", Cond.fieldLink RX8 12 "WorstVoice$Voices" "plain" "LWorstVoice$Singer;", Cond.methodLink RX1 101 ⟨"WorstVoice$Singer", "plainBad", "(II)I"⟩, Cond.sameMethod "WorstVoice$Singer" "WorstVoice$Singer" "plainBad" "(II)I", Cond.instanceMethod ⟨"WorstVoice$Singer", "plainBad", "(II)I"⟩, Cond.selects RX0 ⟨"WorstVoice$Singer", "plainBad", "(II)I"⟩ yX0_plainBad, Cond.instanceMethod yX0_plainBad, Cond.initialized RX0, Cond.code yX0_plainBad cX0_plainBad 3 (some .int), Cond.code yX6_plainBad cX6_plainBad 3 (some .int), Cond.selects RX2 ⟨"WorstVoice$Singer", "plainBad", "(II)I"⟩ yX2_plainBad]
def wsX9_pourLeast_r5 : List Cond := [Cond.instanceMethod yX2_plainBad, Cond.initialized RX2, Cond.code yX2_plainBad cX2_plainBad 3 (some .int), Cond.selects RX3 ⟨"WorstVoice$Singer", "plainBad", "(II)I"⟩ yX3_plainBad, Cond.instanceMethod yX3_plainBad, Cond.initialized RX3, Cond.code yX3_plainBad cX3_plainBad 3 (some .int), Cond.methodLink RX1 101 yX6_plainBad, Cond.instanceMethod yX6_plainBad, Cond.selects RX6 yX6_plainBad yX6_plainBad, Cond.initialized RX6, Cond.selects RX7 ⟨"WorstVoice$Singer", "plainBad", "(II)I"⟩ yX7_plainBad, Cond.instanceMethod yX7_plainBad, Cond.initialized RX7, Cond.code yX7_plainBad cX7_plainBad 3 (some .int), Cond.methodLink RX9 242 yX9_copyRow]
def wsX9_pourLeast : List Cond := .code yX9_pourLeast cX9_pourLeast 7 (some .int) :: ((wsX9_pourLeast_r1 ++ (wsX9_pourLeast_r2 ++ (wsX9_pourLeast_r3 ++ (wsX9_pourLeast_r4 ++ wsX9_pourLeast_r5)))) ++ wsX90 ++ wsX10 ++ wsX80)
def wsX9_need_r1 : List Cond := [Cond.fieldLink RX9 41 "WorstVoice" "choir" "LWorstVoice$Choir;", Cond.fieldLink RX9 161 "WorstVoice" "needsDone" "I", Cond.fieldLink RX9 30 "WorstVoice" "poured" "[I", Cond.methodLink RX9 87 yX1_hasSinger, Cond.instanceMethod yX1_hasSinger, Cond.selects RX1 yX1_hasSinger yX1_hasSinger, Cond.initialized RX1, Cond.code yX1_hasSinger cX1_hasSinger 2 (some .boolean), Cond.fieldLink RX1 46 "WorstVoice$Choir" "singers" "I", Cond.methodLink RX9 164 yX9_pourLeast, Cond.instanceMethod yX9_pourLeast, Cond.selects RX9 yX9_pourLeast yX9_pourLeast, Cond.initialized RX9, Cond.code yX9_pourLeast cX9_pourLeast 7 (some .int), Cond.fieldLink RX9 48 "WorstVoice" "trial" "LWorstVoice$Choir;", Cond.fieldLink RX9 26 "WorstVoice" "pouring" "[I", Cond.methodLink RX9 174 yX1_takeFrom, Cond.instanceMethod yX1_takeFrom, Cond.selects RX1 yX1_takeFrom yX1_takeFrom, Cond.code yX1_takeFrom cX1_takeFrom 2 none, Cond.fieldLink RX1 9 "WorstVoice$Choir" "kinds" "[I", Cond.fieldLink RX1 15 "WorstVoice$Choir" "faults" "[I", Cond.fieldLink RX1 18 "WorstVoice$Choir" "colds" "[I", Cond.fieldLink RX1 21 "WorstVoice$Choir" "lefts" "[I"]
def wsX9_need_r2 : List Cond := [Cond.fieldLink RX1 24 "WorstVoice$Choir" "honeys" "[I", Cond.fieldLink RX1 27 "WorstVoice$Choir" "minded" "[I", Cond.fieldLink RX1 56 "WorstVoice$Choir" "widows" "I", Cond.fieldLink RX1 59 "WorstVoice$Choir" "weeks" "I", Cond.static yX9_copyRow, Cond.code yX9_copyRow cX9_copyRow 2 none, Cond.methodLink RX9 264 Lib.Math.min.name, Cond.static Lib.Math.min.name, Cond.initialized "java/lang/Math", Cond.code Lib.Math.min.name Lib.Math.min.code 2 (some .int), Cond.methodLink RX9 267 arraycopyName, Cond.native arraycopyName, Cond.static arraycopyName, Cond.initialized "java/lang/System", Cond.methodLink RX9 239 yX9_pour, Cond.instanceMethod yX9_pour, Cond.selects RX9 yX9_pour yX9_pour, Cond.code yX9_pour cX9_pour 8 (some .int), Cond.methodLink RX9 109 yX1_honeyOf, Cond.instanceMethod yX1_honeyOf, Cond.selects RX1 yX1_honeyOf yX1_honeyOf, Cond.code yX1_honeyOf cX1_honeyOf 2 (some .int), Cond.methodLink RX1 70 yX1_hasSinger, Cond.methodLink RX9 148 yX1_setHoney]
def wsX9_need_r3 : List Cond := [Cond.instanceMethod yX1_setHoney, Cond.selects RX1 yX1_setHoney yX1_setHoney, Cond.code yX1_setHoney cX1_setHoney 3 none, Cond.methodLink RX9 158 yX1_elected, Cond.instanceMethod yX1_elected, Cond.selects RX1 yX1_elected yX1_elected, Cond.code yX1_elected cX1_elected 3 (some .int), Cond.methodLink RX1 113 yX1_votes, Cond.instanceMethod yX1_votes, Cond.selects RX1 yX1_votes yX1_votes, Cond.code yX1_votes cX1_votes 4 (some .int), Cond.methodLink RX1 110 yX1_favourite, Cond.instanceMethod yX1_favourite, Cond.selects RX1 yX1_favourite yX1_favourite, Cond.code yX1_favourite cX1_favourite 5 (some .int), Cond.methodLink RX1 104 yX1_minds, Cond.instanceMethod yX1_minds, Cond.selects RX1 yX1_minds yX1_minds, Cond.code yX1_minds cX1_minds 2 (some .int), Cond.methodLink RX1 90 yX1_hasWidow, Cond.instanceMethod yX1_hasWidow, Cond.selects RX1 yX1_hasWidow yX1_hasWidow, Cond.code yX1_hasWidow cX1_hasWidow 2 (some .boolean), Cond.methodLink RX1 107 yX1_bad]
def wsX9_need_r4 : List Cond := [Cond.instanceMethod yX1_bad, Cond.selects RX1 yX1_bad yX1_bad, Cond.code yX1_bad cX1_bad 4 (some .int), Cond.fieldLink RX1 30 "WorstVoice$Choir" "voices" "LWorstVoice$Voices;", Cond.methodLink RX1 53 Lib.Math.max.name, Cond.static Lib.Math.max.name, Cond.code Lib.Math.max.name Lib.Math.max.code 2 (some .int), Cond.methodLink RX1 87 yX1_isFault, Cond.static yX1_isFault, Cond.code yX1_isFault cX1_isFault 1 (some .boolean), Cond.methodLink RX1 81 yX8_ofKind, Cond.instanceMethod yX8_ofKind, Cond.selects RX8 yX8_ofKind yX8_ofKind, Cond.initialized RX8, Cond.code yX8_ofKind cX8_ofKind 2 (some (.object "WorstVoice$Singer")), Cond.fieldLink RX8 21 "WorstVoice$Voices" "tenor" "LWorstVoice$Tenor;", Cond.fieldLink RX8 28 "WorstVoice$Voices" "boy" "LWorstVoice$Boy;", Cond.fieldLink RX8 35 "WorstVoice$Voices" "deaf" "LWorstVoice$Deaf;", Cond.fieldLink RX8 42 "WorstVoice$Voices" "chorister" "LWorstVoice$Chorister;", Cond.fieldLink RX8 12 "WorstVoice$Voices" "plain" "LWorstVoice$Singer;", Cond.methodLink RX1 101 ⟨"WorstVoice$Singer", "plainBad", "(II)I"⟩, Cond.sameMethod "WorstVoice$Singer" "WorstVoice$Singer" "plainBad" "(II)I", Cond.instanceMethod ⟨"WorstVoice$Singer", "plainBad", "(II)I"⟩, Cond.selects RX0 ⟨"WorstVoice$Singer", "plainBad", "(II)I"⟩ yX0_plainBad]
def wsX9_need_r5 : List Cond := [Cond.instanceMethod yX0_plainBad, Cond.initialized RX0, Cond.code yX0_plainBad cX0_plainBad 3 (some .int), Cond.code yX6_plainBad cX6_plainBad 3 (some .int), Cond.selects RX2 ⟨"WorstVoice$Singer", "plainBad", "(II)I"⟩ yX2_plainBad, Cond.instanceMethod yX2_plainBad, Cond.initialized RX2, Cond.code yX2_plainBad cX2_plainBad 3 (some .int), Cond.selects RX3 ⟨"WorstVoice$Singer", "plainBad", "(II)I"⟩ yX3_plainBad, Cond.instanceMethod yX3_plainBad, Cond.initialized RX3, Cond.code yX3_plainBad cX3_plainBad 3 (some .int), Cond.methodLink RX1 101 yX6_plainBad, Cond.instanceMethod yX6_plainBad, Cond.selects RX6 yX6_plainBad yX6_plainBad, Cond.initialized RX6, Cond.selects RX7 ⟨"WorstVoice$Singer", "plainBad", "(II)I"⟩ yX7_plainBad, Cond.instanceMethod yX7_plainBad, Cond.initialized RX7, Cond.code yX7_plainBad cX7_plainBad 3 (some .int), Cond.methodLink RX9 242 yX9_copyRow]
def wsX9_need : List Cond := .code yX9_need cX9_need 6 (some .int) :: ((wsX9_need_r1 ++ (wsX9_need_r2 ++ (wsX9_need_r3 ++ (wsX9_need_r4 ++ wsX9_need_r5)))) ++ wsX90 ++ wsX10 ++ wsX80)
def wsX9_hear : List Cond := .code yX9_hear cX9_hear 5 (some .int) :: ([.fieldLink RX9 41 "WorstVoice" "choir" "LWorstVoice$Choir;", .fieldLink RX9 19 "WorstVoice" "hearsay" "LWorstVoice$Hearsay;", .methodLink RX9 123 yX1_hasWidow, .instanceMethod yX1_hasWidow, .selects RX1 yX1_hasWidow yX1_hasWidow, .initialized RX1, .code yX1_hasWidow cX1_hasWidow 2 (some .boolean), .fieldLink RX1 56 "WorstVoice$Choir" "widows" "I", .methodLink RX9 87 yX1_hasSinger, .instanceMethod yX1_hasSinger, .selects RX1 yX1_hasSinger yX1_hasSinger, .code yX1_hasSinger cX1_hasSinger 2 (some .boolean), .fieldLink RX1 46 "WorstVoice$Choir" "singers" "I", .methodLink RX9 167 yX4_add, .instanceMethod yX4_add, .selects RX4 yX4_add yX4_add, .initialized RX4, .code yX4_add cX4_add 5 (some .boolean), .fieldLink RX4 24 "WorstVoice$Hearsay" "size" "I", .fieldLink RX4 9 "WorstVoice$Hearsay" "widows" "[I", .fieldLink RX4 15 "WorstVoice$Hearsay" "firsts" "[I", .fieldLink RX4 18 "WorstVoice$Hearsay" "seconds" "[I", .fieldLink RX4 21 "WorstVoice$Hearsay" "mores" "[I"] ++ wsX90 ++ wsX40 ++ wsX10)
def wsX9_forget : List Cond := .code yX9_forget cX9_forget 1 (some .int) :: ([.fieldLink RX9 19 "WorstVoice" "hearsay" "LWorstVoice$Hearsay;", .methodLink RX9 74 yX4_clear, .instanceMethod yX4_clear, .selects RX4 yX4_clear yX4_clear, .initialized RX4, .code yX4_clear cX4_clear 2 (some .int), .fieldLink RX4 24 "WorstVoice$Hearsay" "size" "I"] ++ wsX90 ++ wsX40)
def wsX9_nextSeed : List Cond := .code yX9_nextSeed cX9_nextSeed 1 (some .int) :: ([.constantLong RX9 273 (1103515245), .constantLong RX9 275 (12345), .constantLong RX9 277 (2147483647)])
def wsX9_drawn : List Cond := .code yX9_drawn cX9_drawn 2 (some .int) :: ([.constant RX9 279 (65536)])
def wsX9_years_r1 : List Cond := [Cond.fieldLink RX9 41 "WorstVoice" "choir" "LWorstVoice$Choir;", Cond.fieldLink RX9 48 "WorstVoice" "trial" "LWorstVoice$Choir;", Cond.methodLink RX9 155 yX1_isEmpty, Cond.instanceMethod yX1_isEmpty, Cond.selects RX1 yX1_isEmpty yX1_isEmpty, Cond.initialized RX1, Cond.code yX1_isEmpty cX1_isEmpty 1 (some .boolean), Cond.fieldLink RX1 46 "WorstVoice$Choir" "singers" "I", Cond.methodLink RX9 174 yX1_takeFrom, Cond.instanceMethod yX1_takeFrom, Cond.selects RX1 yX1_takeFrom yX1_takeFrom, Cond.code yX1_takeFrom cX1_takeFrom 2 none, Cond.fieldLink RX1 9 "WorstVoice$Choir" "kinds" "[I", Cond.fieldLink RX1 15 "WorstVoice$Choir" "faults" "[I", Cond.fieldLink RX1 18 "WorstVoice$Choir" "colds" "[I", Cond.fieldLink RX1 21 "WorstVoice$Choir" "lefts" "[I", Cond.fieldLink RX1 24 "WorstVoice$Choir" "honeys" "[I", Cond.fieldLink RX1 27 "WorstVoice$Choir" "minded" "[I", Cond.fieldLink RX1 56 "WorstVoice$Choir" "widows" "I", Cond.fieldLink RX1 59 "WorstVoice$Choir" "weeks" "I", Cond.static yX9_copyRow, Cond.initialized RX9, Cond.code yX9_copyRow cX9_copyRow 2 none, Cond.methodLink RX9 264 Lib.Math.min.name]
def wsX9_years_r2 : List Cond := [Cond.static Lib.Math.min.name, Cond.initialized "java/lang/Math", Cond.code Lib.Math.min.name Lib.Math.min.code 2 (some .int), Cond.methodLink RX9 267 arraycopyName, Cond.native arraycopyName, Cond.static arraycopyName, Cond.initialized "java/lang/System", Cond.methodLink RX9 178 yX9_nextSeed, Cond.static yX9_nextSeed, Cond.code yX9_nextSeed cX9_nextSeed 1 (some .int), Cond.constantLong RX9 273 (1103515245), Cond.constantLong RX9 275 (12345), Cond.constantLong RX9 277 (2147483647), Cond.methodLink RX9 181 yX9_drawn, Cond.static yX9_drawn, Cond.code yX9_drawn cX9_drawn 2 (some .int), Cond.constant RX9 279 (65536), Cond.methodLink RX9 152 yX1_practiseWeek, Cond.instanceMethod yX1_practiseWeek, Cond.selects RX1 yX1_practiseWeek yX1_practiseWeek, Cond.code yX1_practiseWeek cX1_practiseWeek 5 (some .int), Cond.methodLink RX1 70 yX1_hasSinger, Cond.instanceMethod yX1_hasSinger, Cond.selects RX1 yX1_hasSinger yX1_hasSinger]
def wsX9_years_r3 : List Cond := [Cond.code yX1_hasSinger cX1_hasSinger 2 (some .boolean), Cond.methodLink RX1 93 yX1_voice, Cond.instanceMethod yX1_voice, Cond.selects RX1 yX1_voice yX1_voice, Cond.code yX1_voice cX1_voice 2 (some (.object "WorstVoice$Singer")), Cond.fieldLink RX1 30 "WorstVoice$Choir" "voices" "LWorstVoice$Voices;", Cond.methodLink RX1 81 yX8_ofKind, Cond.instanceMethod yX8_ofKind, Cond.selects RX8 yX8_ofKind yX8_ofKind, Cond.initialized RX8, Cond.code yX8_ofKind cX8_ofKind 2 (some (.object "WorstVoice$Singer")), Cond.fieldLink RX8 21 "WorstVoice$Voices" "tenor" "LWorstVoice$Tenor;", Cond.fieldLink RX8 28 "WorstVoice$Voices" "boy" "LWorstVoice$Boy;", Cond.fieldLink RX8 35 "WorstVoice$Voices" "deaf" "LWorstVoice$Deaf;", Cond.fieldLink RX8 42 "WorstVoice$Voices" "chorister" "LWorstVoice$Chorister;", Cond.fieldLink RX8 12 "WorstVoice$Voices" "plain" "LWorstVoice$Singer;", Cond.methodLink RX1 96 ⟨"WorstVoice$Singer", "practised", "(I)I"⟩, Cond.sameMethod "WorstVoice$Singer" "WorstVoice$Singer" "practised" "(I)I", Cond.instanceMethod ⟨"WorstVoice$Singer", "practised", "(I)I"⟩, Cond.selects RX0 ⟨"WorstVoice$Singer", "practised", "(I)I"⟩ yX0_practised, Cond.instanceMethod yX0_practised, Cond.initialized RX0, Cond.code yX0_practised cX0_practised 2 (some .int), Cond.code yX6_practised cX6_practised 2 (some .int)]
def wsX9_years_r4 : List Cond := [Cond.selects RX2 ⟨"WorstVoice$Singer", "practised", "(I)I"⟩ yX6_practised, Cond.instanceMethod yX6_practised, Cond.initialized RX6, Cond.selects RX3 ⟨"WorstVoice$Singer", "practised", "(I)I"⟩ yX6_practised, Cond.methodLink RX1 96 yX6_practised, Cond.selects RX6 yX6_practised yX6_practised, Cond.selects RX7 ⟨"WorstVoice$Singer", "practised", "(I)I"⟩ yX6_practised, Cond.methodLink RX9 103 yX1_coldOf, Cond.instanceMethod yX1_coldOf, Cond.selects RX1 yX1_coldOf yX1_coldOf, Cond.code yX1_coldOf cX1_coldOf 2 (some .int), Cond.methodLink RX9 141 yX1_setCold, Cond.instanceMethod yX1_setCold, Cond.selects RX1 yX1_setCold yX1_setCold, Cond.code yX1_setCold cX1_setCold 3 none, Cond.methodLink RX9 158 yX1_elected, Cond.instanceMethod yX1_elected, Cond.selects RX1 yX1_elected yX1_elected, Cond.code yX1_elected cX1_elected 3 (some .int), Cond.methodLink RX1 113 yX1_votes, Cond.instanceMethod yX1_votes, Cond.selects RX1 yX1_votes yX1_votes, Cond.code yX1_votes cX1_votes 4 (some .int), Cond.methodLink RX1 110 yX1_favourite]
def wsX9_years_r5 : List Cond := [Cond.instanceMethod yX1_favourite, Cond.selects RX1 yX1_favourite yX1_favourite, Cond.code yX1_favourite cX1_favourite 5 (some .int), Cond.methodLink RX1 104 yX1_minds, Cond.instanceMethod yX1_minds, Cond.selects RX1 yX1_minds yX1_minds, Cond.code yX1_minds cX1_minds 2 (some .int), Cond.methodLink RX1 90 yX1_hasWidow, Cond.instanceMethod yX1_hasWidow, Cond.selects RX1 yX1_hasWidow yX1_hasWidow, Cond.code yX1_hasWidow cX1_hasWidow 2 (some .boolean), Cond.methodLink RX1 107 yX1_bad, Cond.instanceMethod yX1_bad, Cond.selects RX1 yX1_bad yX1_bad, Cond.code yX1_bad cX1_bad 4 (some .int), Cond.methodLink RX1 53 Lib.Math.max.name, Cond.static Lib.Math.max.name, Cond.code Lib.Math.max.name Lib.Math.max.code 2 (some .int), Cond.methodLink RX1 87 yX1_isFault, Cond.static yX1_isFault, Cond.code yX1_isFault cX1_isFault 1 (some .boolean), Cond.methodLink RX1 101 ⟨"WorstVoice$Singer", "plainBad", "(II)I"⟩, Cond.sameMethod "WorstVoice$Singer" "WorstVoice$Singer" "plainBad" "(II)I", Cond.instanceMethod ⟨"WorstVoice$Singer", "plainBad", "(II)I"⟩]
def wsX9_years_r6 : List Cond := [Cond.selects RX0 ⟨"WorstVoice$Singer", "plainBad", "(II)I"⟩ yX0_plainBad, Cond.instanceMethod yX0_plainBad, Cond.code yX0_plainBad cX0_plainBad 3 (some .int), Cond.code yX6_plainBad cX6_plainBad 3 (some .int), Cond.selects RX2 ⟨"WorstVoice$Singer", "plainBad", "(II)I"⟩ yX2_plainBad, Cond.instanceMethod yX2_plainBad, Cond.initialized RX2, Cond.code yX2_plainBad cX2_plainBad 3 (some .int), Cond.selects RX3 ⟨"WorstVoice$Singer", "plainBad", "(II)I"⟩ yX3_plainBad, Cond.instanceMethod yX3_plainBad, Cond.initialized RX3, Cond.code yX3_plainBad cX3_plainBad 3 (some .int), Cond.methodLink RX1 101 yX6_plainBad, Cond.instanceMethod yX6_plainBad, Cond.selects RX6 yX6_plainBad yX6_plainBad, Cond.selects RX7 ⟨"WorstVoice$Singer", "plainBad", "(II)I"⟩ yX7_plainBad, Cond.instanceMethod yX7_plainBad, Cond.initialized RX7, Cond.code yX7_plainBad cX7_plainBad 3 (some .int)]
def wsX9_years : List Cond := .code yX9_years cX9_years 9 (some .int) :: ((wsX9_years_r1 ++ (wsX9_years_r2 ++ (wsX9_years_r3 ++ (wsX9_years_r4 ++ (wsX9_years_r5 ++ wsX9_years_r6))))) ++ wsX90 ++ wsX10 ++ wsX80)
def wsX9_image_r1 : List Cond := [Cond.fieldLink RX9 41 "WorstVoice" "choir" "LWorstVoice$Choir;", Cond.fieldLink RX9 45 "WorstVoice" "keptChoir" "LWorstVoice$Choir;", Cond.fieldLink RX9 23 "WorstVoice" "keptHearsay" "LWorstVoice$Hearsay;", Cond.fieldLink RX9 19 "WorstVoice" "hearsay" "LWorstVoice$Hearsay;", Cond.fieldLink RX9 77 "WorstVoice" "imageKept" "Z", Cond.methodLink RX9 155 yX1_isEmpty, Cond.instanceMethod yX1_isEmpty, Cond.selects RX1 yX1_isEmpty yX1_isEmpty, Cond.initialized RX1, Cond.code yX1_isEmpty cX1_isEmpty 1 (some .boolean), Cond.fieldLink RX1 46 "WorstVoice$Choir" "singers" "I", Cond.methodLink RX9 174 yX1_takeFrom, Cond.instanceMethod yX1_takeFrom, Cond.selects RX1 yX1_takeFrom yX1_takeFrom, Cond.code yX1_takeFrom cX1_takeFrom 2 none, Cond.fieldLink RX1 9 "WorstVoice$Choir" "kinds" "[I", Cond.fieldLink RX1 15 "WorstVoice$Choir" "faults" "[I", Cond.fieldLink RX1 18 "WorstVoice$Choir" "colds" "[I", Cond.fieldLink RX1 21 "WorstVoice$Choir" "lefts" "[I", Cond.fieldLink RX1 24 "WorstVoice$Choir" "honeys" "[I", Cond.fieldLink RX1 27 "WorstVoice$Choir" "minded" "[I", Cond.fieldLink RX1 56 "WorstVoice$Choir" "widows" "I", Cond.fieldLink RX1 59 "WorstVoice$Choir" "weeks" "I", Cond.static yX9_copyRow]
def wsX9_image_r2 : List Cond := [Cond.initialized RX9, Cond.code yX9_copyRow cX9_copyRow 2 none, Cond.methodLink RX9 264 Lib.Math.min.name, Cond.static Lib.Math.min.name, Cond.initialized "java/lang/Math", Cond.code Lib.Math.min.name Lib.Math.min.code 2 (some .int), Cond.methodLink RX9 267 arraycopyName, Cond.native arraycopyName, Cond.static arraycopyName, Cond.initialized "java/lang/System", Cond.methodLink RX9 184 yX4_takeFrom, Cond.instanceMethod yX4_takeFrom, Cond.selects RX4 yX4_takeFrom yX4_takeFrom, Cond.initialized RX4, Cond.code yX4_takeFrom cX4_takeFrom 2 none, Cond.fieldLink RX4 9 "WorstVoice$Hearsay" "widows" "[I", Cond.fieldLink RX4 15 "WorstVoice$Hearsay" "firsts" "[I", Cond.fieldLink RX4 18 "WorstVoice$Hearsay" "seconds" "[I", Cond.fieldLink RX4 21 "WorstVoice$Hearsay" "mores" "[I", Cond.fieldLink RX4 24 "WorstVoice$Hearsay" "size" "I"]
def wsX9_image : List Cond := .code yX9_image cX9_image 1 (some .int) :: ((wsX9_image_r1 ++ wsX9_image_r2) ++ wsX90 ++ wsX10 ++ wsX40)
def wsX9_restore_r1 : List Cond := [Cond.fieldLink RX9 77 "WorstVoice" "imageKept" "Z", Cond.fieldLink RX9 41 "WorstVoice" "choir" "LWorstVoice$Choir;", Cond.fieldLink RX9 45 "WorstVoice" "keptChoir" "LWorstVoice$Choir;", Cond.fieldLink RX9 19 "WorstVoice" "hearsay" "LWorstVoice$Hearsay;", Cond.fieldLink RX9 23 "WorstVoice" "keptHearsay" "LWorstVoice$Hearsay;", Cond.methodLink RX9 174 yX1_takeFrom, Cond.instanceMethod yX1_takeFrom, Cond.selects RX1 yX1_takeFrom yX1_takeFrom, Cond.initialized RX1, Cond.code yX1_takeFrom cX1_takeFrom 2 none, Cond.fieldLink RX1 9 "WorstVoice$Choir" "kinds" "[I", Cond.fieldLink RX1 15 "WorstVoice$Choir" "faults" "[I", Cond.fieldLink RX1 18 "WorstVoice$Choir" "colds" "[I", Cond.fieldLink RX1 21 "WorstVoice$Choir" "lefts" "[I", Cond.fieldLink RX1 24 "WorstVoice$Choir" "honeys" "[I", Cond.fieldLink RX1 27 "WorstVoice$Choir" "minded" "[I", Cond.fieldLink RX1 46 "WorstVoice$Choir" "singers" "I", Cond.fieldLink RX1 56 "WorstVoice$Choir" "widows" "I", Cond.fieldLink RX1 59 "WorstVoice$Choir" "weeks" "I", Cond.static yX9_copyRow, Cond.initialized RX9, Cond.code yX9_copyRow cX9_copyRow 2 none, Cond.methodLink RX9 264 Lib.Math.min.name, Cond.static Lib.Math.min.name]
def wsX9_restore_r2 : List Cond := [Cond.initialized "java/lang/Math", Cond.code Lib.Math.min.name Lib.Math.min.code 2 (some .int), Cond.methodLink RX9 267 arraycopyName, Cond.native arraycopyName, Cond.static arraycopyName, Cond.initialized "java/lang/System", Cond.methodLink RX9 184 yX4_takeFrom, Cond.instanceMethod yX4_takeFrom, Cond.selects RX4 yX4_takeFrom yX4_takeFrom, Cond.initialized RX4, Cond.code yX4_takeFrom cX4_takeFrom 2 none, Cond.fieldLink RX4 9 "WorstVoice$Hearsay" "widows" "[I", Cond.fieldLink RX4 15 "WorstVoice$Hearsay" "firsts" "[I", Cond.fieldLink RX4 18 "WorstVoice$Hearsay" "seconds" "[I", Cond.fieldLink RX4 21 "WorstVoice$Hearsay" "mores" "[I", Cond.fieldLink RX4 24 "WorstVoice$Hearsay" "size" "I"]
def wsX9_restore : List Cond := .code yX9_restore cX9_restore 1 (some .int) :: ((wsX9_restore_r1 ++ wsX9_restore_r2) ++ wsX90 ++ wsX10 ++ wsX40)
def wsX9_count_r1 : List Cond := [Cond.fieldLink RX9 41 "WorstVoice" "choir" "LWorstVoice$Choir;", Cond.fieldLink RX9 19 "WorstVoice" "hearsay" "LWorstVoice$Hearsay;", Cond.fieldLink RX9 12 "WorstVoice" "page" "LWorstVoice$Page;", Cond.fieldLink RX9 81 "WorstVoice" "townsRead" "I", Cond.fieldLink RX9 161 "WorstVoice" "needsDone" "I", Cond.methodLink RX9 193 yX1_coldsOfAll, Cond.instanceMethod yX1_coldsOfAll, Cond.selects RX1 yX1_coldsOfAll yX1_coldsOfAll, Cond.initialized RX1, Cond.code yX1_coldsOfAll cX1_coldsOfAll 3 (some .int), Cond.fieldLink RX1 46 "WorstVoice$Choir" "singers" "I", Cond.methodLink RX1 116 yX1_coldOf, Cond.instanceMethod yX1_coldOf, Cond.selects RX1 yX1_coldOf yX1_coldOf, Cond.code yX1_coldOf cX1_coldOf 2 (some .int), Cond.fieldLink RX1 18 "WorstVoice$Choir" "colds" "[I", Cond.methodLink RX1 70 yX1_hasSinger, Cond.instanceMethod yX1_hasSinger, Cond.selects RX1 yX1_hasSinger yX1_hasSinger, Cond.code yX1_hasSinger cX1_hasSinger 2 (some .boolean), Cond.methodLink RX9 196 yX1_honeyOfAll, Cond.instanceMethod yX1_honeyOfAll, Cond.selects RX1 yX1_honeyOfAll yX1_honeyOfAll, Cond.code yX1_honeyOfAll cX1_honeyOfAll 3 (some .int)]
def wsX9_count_r2 : List Cond := [Cond.methodLink RX1 119 yX1_honeyOf, Cond.instanceMethod yX1_honeyOf, Cond.selects RX1 yX1_honeyOf yX1_honeyOf, Cond.code yX1_honeyOf cX1_honeyOf 2 (some .int), Cond.fieldLink RX1 24 "WorstVoice$Choir" "honeys" "[I"]
def wsX9_count : List Cond := .code yX9_count cX9_count 2 (some .int) :: ((wsX9_count_r1 ++ wsX9_count_r2) ++ wsX90 ++ wsX10 ++ wsX40 ++ wsX50)
def wsX9_mix : List Cond := .code yX9_mix cX9_mix 4 (some .long) :: ([.constantLong RX9 226 (31)])
def wsX9_digest_r1 : List Cond := [Cond.constantLong RX9 199 (947), Cond.fieldLink RX9 41 "WorstVoice" "choir" "LWorstVoice$Choir;", Cond.fieldLink RX9 201 "WorstVoice" "SINGER_WHATS" "[I", Cond.fieldLink RX9 12 "WorstVoice" "page" "LWorstVoice$Page;", Cond.methodLink RX9 204 yX9_singer, Cond.instanceMethod yX9_singer, Cond.selects RX9 yX9_singer yX9_singer, Cond.initialized RX9, Cond.code yX9_singer cX9_singer 3 (some .int), Cond.methodLink RX9 87 yX1_hasSinger, Cond.instanceMethod yX1_hasSinger, Cond.selects RX1 yX1_hasSinger yX1_hasSinger, Cond.initialized RX1, Cond.code yX1_hasSinger cX1_hasSinger 2 (some .boolean), Cond.fieldLink RX1 46 "WorstVoice$Choir" "singers" "I", Cond.methodLink RX9 90 yX1_voice, Cond.instanceMethod yX1_voice, Cond.selects RX1 yX1_voice yX1_voice, Cond.code yX1_voice cX1_voice 2 (some (.object "WorstVoice$Singer")), Cond.fieldLink RX1 30 "WorstVoice$Choir" "voices" "LWorstVoice$Voices;", Cond.fieldLink RX1 9 "WorstVoice$Choir" "kinds" "[I", Cond.methodLink RX1 70 yX1_hasSinger, Cond.methodLink RX1 81 yX8_ofKind, Cond.instanceMethod yX8_ofKind]
def wsX9_digest_r2 : List Cond := [Cond.selects RX8 yX8_ofKind yX8_ofKind, Cond.initialized RX8, Cond.code yX8_ofKind cX8_ofKind 2 (some (.object "WorstVoice$Singer")), Cond.fieldLink RX8 21 "WorstVoice$Voices" "tenor" "LWorstVoice$Tenor;", Cond.fieldLink RX8 28 "WorstVoice$Voices" "boy" "LWorstVoice$Boy;", Cond.fieldLink RX8 35 "WorstVoice$Voices" "deaf" "LWorstVoice$Deaf;", Cond.fieldLink RX8 42 "WorstVoice$Voices" "chorister" "LWorstVoice$Chorister;", Cond.fieldLink RX8 12 "WorstVoice$Voices" "plain" "LWorstVoice$Singer;", Cond.methodLink RX9 94 ⟨"WorstVoice$Singer", "number", "()I"⟩, Cond.sameMethod "WorstVoice$Singer" "WorstVoice$Singer" "number" "()I", Cond.instanceMethod ⟨"WorstVoice$Singer", "number", "()I"⟩, Cond.selects RX0 ⟨"WorstVoice$Singer", "number", "()I"⟩ yX0_number, Cond.instanceMethod yX0_number, Cond.initialized RX0, Cond.code yX0_number cX0_number 1 (some .int), Cond.code yX6_number cX6_number 1 (some .int), Cond.selects RX2 ⟨"WorstVoice$Singer", "number", "()I"⟩ yX2_number, Cond.instanceMethod yX2_number, Cond.initialized RX2, Cond.code yX2_number cX2_number 1 (some .int), Cond.selects RX3 ⟨"WorstVoice$Singer", "number", "()I"⟩ yX3_number, Cond.instanceMethod yX3_number, Cond.initialized RX3, Cond.code yX3_number cX3_number 1 (some .int)]
def wsX9_digest_r3 : List Cond := [Cond.methodLink RX9 94 yX6_number, Cond.instanceMethod yX6_number, Cond.selects RX6 yX6_number yX6_number, Cond.initialized RX6, Cond.selects RX7 ⟨"WorstVoice$Singer", "number", "()I"⟩ yX7_number, Cond.instanceMethod yX7_number, Cond.initialized RX7, Cond.code yX7_number cX7_number 1 (some .int), Cond.methodLink RX9 99 yX1_votes, Cond.instanceMethod yX1_votes, Cond.selects RX1 yX1_votes yX1_votes, Cond.code yX1_votes cX1_votes 4 (some .int), Cond.fieldLink RX1 56 "WorstVoice$Choir" "widows" "I", Cond.methodLink RX1 110 yX1_favourite, Cond.instanceMethod yX1_favourite, Cond.selects RX1 yX1_favourite yX1_favourite, Cond.code yX1_favourite cX1_favourite 5 (some .int), Cond.methodLink RX1 104 yX1_minds, Cond.instanceMethod yX1_minds, Cond.selects RX1 yX1_minds yX1_minds, Cond.code yX1_minds cX1_minds 2 (some .int), Cond.fieldLink RX1 27 "WorstVoice$Choir" "minded" "[I", Cond.methodLink RX1 90 yX1_hasWidow, Cond.instanceMethod yX1_hasWidow]
def wsX9_digest_r4 : List Cond := [Cond.selects RX1 yX1_hasWidow yX1_hasWidow, Cond.code yX1_hasWidow cX1_hasWidow 2 (some .boolean), Cond.methodLink RX1 107 yX1_bad, Cond.instanceMethod yX1_bad, Cond.selects RX1 yX1_bad yX1_bad, Cond.code yX1_bad cX1_bad 4 (some .int), Cond.fieldLink RX1 15 "WorstVoice$Choir" "faults" "[I", Cond.fieldLink RX1 18 "WorstVoice$Choir" "colds" "[I", Cond.fieldLink RX1 21 "WorstVoice$Choir" "lefts" "[I", Cond.fieldLink RX1 24 "WorstVoice$Choir" "honeys" "[I", Cond.methodLink RX1 53 Lib.Math.max.name, Cond.static Lib.Math.max.name, Cond.initialized "java/lang/Math", Cond.code Lib.Math.max.name Lib.Math.max.code 2 (some .int), Cond.methodLink RX1 87 yX1_isFault, Cond.static yX1_isFault, Cond.code yX1_isFault cX1_isFault 1 (some .boolean), Cond.methodLink RX1 101 ⟨"WorstVoice$Singer", "plainBad", "(II)I"⟩, Cond.sameMethod "WorstVoice$Singer" "WorstVoice$Singer" "plainBad" "(II)I", Cond.instanceMethod ⟨"WorstVoice$Singer", "plainBad", "(II)I"⟩, Cond.selects RX0 ⟨"WorstVoice$Singer", "plainBad", "(II)I"⟩ yX0_plainBad, Cond.instanceMethod yX0_plainBad, Cond.code yX0_plainBad cX0_plainBad 3 (some .int), Cond.code yX6_plainBad cX6_plainBad 3 (some .int)]
def wsX9_digest_r5 : List Cond := [Cond.selects RX2 ⟨"WorstVoice$Singer", "plainBad", "(II)I"⟩ yX2_plainBad, Cond.instanceMethod yX2_plainBad, Cond.code yX2_plainBad cX2_plainBad 3 (some .int), Cond.selects RX3 ⟨"WorstVoice$Singer", "plainBad", "(II)I"⟩ yX3_plainBad, Cond.instanceMethod yX3_plainBad, Cond.code yX3_plainBad cX3_plainBad 3 (some .int), Cond.methodLink RX1 101 yX6_plainBad, Cond.instanceMethod yX6_plainBad, Cond.selects RX6 yX6_plainBad yX6_plainBad, Cond.selects RX7 ⟨"WorstVoice$Singer", "plainBad", "(II)I"⟩ yX7_plainBad, Cond.instanceMethod yX7_plainBad, Cond.code yX7_plainBad cX7_plainBad 3 (some .int), Cond.methodLink RX9 103 yX1_coldOf, Cond.instanceMethod yX1_coldOf, Cond.selects RX1 yX1_coldOf yX1_coldOf, Cond.code yX1_coldOf cX1_coldOf 2 (some .int), Cond.methodLink RX9 106 yX1_leftOf, Cond.instanceMethod yX1_leftOf, Cond.selects RX1 yX1_leftOf yX1_leftOf, Cond.code yX1_leftOf cX1_leftOf 2 (some .int), Cond.methodLink RX9 109 yX1_honeyOf, Cond.instanceMethod yX1_honeyOf, Cond.selects RX1 yX1_honeyOf yX1_honeyOf, Cond.code yX1_honeyOf cX1_honeyOf 2 (some .int)]
def wsX9_digest_r6 : List Cond := [Cond.methodLink RX9 112 yX9_worstAndVotes, Cond.instanceMethod yX9_worstAndVotes, Cond.selects RX9 yX9_worstAndVotes yX9_worstAndVotes, Cond.code yX9_worstAndVotes cX9_worstAndVotes 6 (some .int), Cond.fieldLink RX9 48 "WorstVoice" "trial" "LWorstVoice$Choir;", Cond.methodLink RX9 174 yX1_takeFrom, Cond.instanceMethod yX1_takeFrom, Cond.selects RX1 yX1_takeFrom yX1_takeFrom, Cond.code yX1_takeFrom cX1_takeFrom 2 none, Cond.fieldLink RX1 59 "WorstVoice$Choir" "weeks" "I", Cond.static yX9_copyRow, Cond.code yX9_copyRow cX9_copyRow 2 none, Cond.methodLink RX9 264 Lib.Math.min.name, Cond.static Lib.Math.min.name, Cond.code Lib.Math.min.name Lib.Math.min.code 2 (some .int), Cond.methodLink RX9 267 arraycopyName, Cond.native arraycopyName, Cond.static arraycopyName, Cond.initialized "java/lang/System", Cond.methodLink RX9 141 yX1_setCold, Cond.instanceMethod yX1_setCold, Cond.selects RX1 yX1_setCold yX1_setCold, Cond.code yX1_setCold cX1_setCold 3 none, Cond.methodLink RX9 145 yX1_setLeft]
def wsX9_digest_r7 : List Cond := [Cond.instanceMethod yX1_setLeft, Cond.selects RX1 yX1_setLeft yX1_setLeft, Cond.code yX1_setLeft cX1_setLeft 3 none, Cond.methodLink RX9 115 yX9_singersFault, Cond.instanceMethod yX9_singersFault, Cond.selects RX9 yX9_singersFault yX9_singersFault, Cond.code yX9_singersFault cX9_singersFault 3 (some .int), Cond.methodLink RX9 228 yX1_faultOf, Cond.instanceMethod yX1_faultOf, Cond.selects RX1 yX1_faultOf yX1_faultOf, Cond.code yX1_faultOf cX1_faultOf 3 (some .int), Cond.methodLink RX9 132 yX1_bad, Cond.methodLink RX9 207 yX9_mix, Cond.static yX9_mix, Cond.code yX9_mix cX9_mix 4 (some .long), Cond.constantLong RX9 226 (31), Cond.methodLink RX9 211 yX9_widow, Cond.instanceMethod yX9_widow, Cond.selects RX9 yX9_widow yX9_widow, Cond.code yX9_widow cX9_widow 3 (some .int), Cond.methodLink RX9 123 yX1_hasWidow, Cond.methodLink RX9 126 yX1_minds, Cond.methodLink RX9 129 yX1_favourite, Cond.methodLink RX9 135 yX9_canMind]
def wsX9_digest_r8 : List Cond := [Cond.instanceMethod yX9_canMind, Cond.selects RX9 yX9_canMind yX9_canMind, Cond.code yX9_canMind cX9_canMind 4 (some .int), Cond.fieldLink RX9 19 "WorstVoice" "hearsay" "LWorstVoice$Hearsay;", Cond.methodLink RX9 246 yX4_wouldBeSo, Cond.instanceMethod yX4_wouldBeSo, Cond.selects RX4 yX4_wouldBeSo yX4_wouldBeSo, Cond.initialized RX4, Cond.code yX4_wouldBeSo cX4_wouldBeSo 6 (some .boolean), Cond.fieldLink RX4 24 "WorstVoice$Hearsay" "size" "I", Cond.fieldLink RX4 15 "WorstVoice$Hearsay" "firsts" "[I", Cond.fieldLink RX4 18 "WorstVoice$Hearsay" "seconds" "[I", Cond.fieldLink RX4 9 "WorstVoice$Hearsay" "widows" "[I", Cond.fieldLink RX4 21 "WorstVoice$Hearsay" "mores" "[I", Cond.methodLink RX4 32 yX1_bad, Cond.methodLink RX9 138 yX9_bestAsk, Cond.instanceMethod yX9_bestAsk, Cond.selects RX9 yX9_bestAsk yX9_bestAsk, Cond.code yX9_bestAsk cX9_bestAsk 8 (some .int), Cond.methodLink RX9 250 yX9_leftAtWorst, Cond.instanceMethod yX9_leftAtWorst, Cond.selects RX9 yX9_leftAtWorst yX9_leftAtWorst, Cond.code yX9_leftAtWorst cX9_leftAtWorst 6 (some .int), Cond.methodLink RX9 259 Lib.Math.max.name]
def wsX9_digest_r9 : List Cond := [Cond.methodLink RX9 254 yJ6_bitCount_0f7a4, Cond.static yJ6_bitCount_0f7a4, Cond.initialized RJ6, Cond.code yJ6_bitCount_0f7a4 cJ6_bitCount_0f7a4 1 (some .int), Cond.constant RJ6 265 (1431655765), Cond.constant RJ6 266 (858993459), Cond.constant RJ6 267 (252645135), Cond.methodLink RX9 214 yX9_wince, Cond.instanceMethod yX9_wince, Cond.selects RX9 yX9_wince yX9_wince, Cond.code yX9_wince cX9_wince 3 (some .int), Cond.methodLink RX9 155 yX1_isEmpty, Cond.instanceMethod yX1_isEmpty, Cond.selects RX1 yX1_isEmpty yX1_isEmpty, Cond.code yX1_isEmpty cX1_isEmpty 1 (some .boolean), Cond.methodLink RX9 217 yX9_mayor, Cond.instanceMethod yX9_mayor, Cond.selects RX9 yX9_mayor yX9_mayor, Cond.code yX9_mayor cX9_mayor 1 (some .int), Cond.methodLink RX9 158 yX1_elected, Cond.instanceMethod yX1_elected, Cond.selects RX1 yX1_elected yX1_elected, Cond.code yX1_elected cX1_elected 3 (some .int), Cond.methodLink RX1 113 yX1_votes]
def wsX9_digest_r10 : List Cond := [Cond.methodLink RX9 220 yX5_codeAt, Cond.instanceMethod yX5_codeAt, Cond.selects RX5 yX5_codeAt yX5_codeAt, Cond.initialized RX5, Cond.code yX5_codeAt cX5_codeAt 2 (some .int), Cond.fieldLink RX5 15 "WorstVoice$Page" "length" "I", Cond.fieldLink RX5 9 "WorstVoice$Page" "codes" "[I", Cond.methodLink RX9 223 yX9_count, Cond.instanceMethod yX9_count, Cond.selects RX9 yX9_count yX9_count, Cond.code yX9_count cX9_count 2 (some .int), Cond.fieldLink RX9 81 "WorstVoice" "townsRead" "I", Cond.fieldLink RX9 161 "WorstVoice" "needsDone" "I", Cond.methodLink RX9 193 yX1_coldsOfAll, Cond.instanceMethod yX1_coldsOfAll, Cond.selects RX1 yX1_coldsOfAll yX1_coldsOfAll, Cond.code yX1_coldsOfAll cX1_coldsOfAll 3 (some .int), Cond.methodLink RX1 116 yX1_coldOf, Cond.methodLink RX9 196 yX1_honeyOfAll, Cond.instanceMethod yX1_honeyOfAll, Cond.selects RX1 yX1_honeyOfAll yX1_honeyOfAll, Cond.code yX1_honeyOfAll cX1_honeyOfAll 3 (some .int), Cond.methodLink RX1 119 yX1_honeyOf]
def wsX9_digest : List Cond := .code yX9_digest cX9_digest 8 (some .long) :: ((wsX9_digest_r1 ++ (wsX9_digest_r2 ++ (wsX9_digest_r3 ++ (wsX9_digest_r4 ++ (wsX9_digest_r5 ++ (wsX9_digest_r6 ++ (wsX9_digest_r7 ++ (wsX9_digest_r8 ++ (wsX9_digest_r9 ++ wsX9_digest_r10))))))))) ++ wsX90 ++ wsX10 ++ wsX50 ++ wsX80 ++ wsX40)
def wsX10_init : List Cond := .code yX10_init cX10_init 1 none :: ([.methodLink RX10 1 objectInit, .instanceMethod objectInit, .code objectInit ⟨#[0xb1]⟩ 1 none, .arrayClass .int, .fieldLink RX10 7 "WorstVoiceModel" "page" "[I", .fieldLink RX10 13 "WorstVoiceModel" "read" "[I", .fieldLink RX10 16 "WorstVoiceModel" "readMinds" "[I", .fieldLink RX10 19 "WorstVoiceModel" "rows" "[I", .fieldLink RX10 22 "WorstVoiceModel" "minds" "[I", .fieldLink RX10 25 "WorstVoiceModel" "more" "[I", .fieldLink RX10 28 "WorstVoiceModel" "bestMore" "[I", .fieldLink RX10 31 "WorstVoiceModel" "heards" "[I", .fieldLink RX10 34 "WorstVoiceModel" "savedRows" "[I", .fieldLink RX10 37 "WorstVoiceModel" "keptRows" "[I", .fieldLink RX10 40 "WorstVoiceModel" "keptHeards" "[I", .fieldLink RX10 43 "WorstVoiceModel" "keptTown" "I"] ++ wsX100)
def wsX10_in : List Cond := .code yX10_in cX10_in 6 (some .boolean) :: ([])
def wsX10_copy : List Cond := .code yX10_copy cX10_copy 3 none :: ([])
def wsX10_letter : List Cond := .code yX10_letter cX10_letter 2 (some .int) :: ([.constantLong RX10 47 (126), .fieldLink RX10 53 "WorstVoiceModel" "pageMany" "I", .fieldLink RX10 7 "WorstVoiceModel" "page" "[I", .methodLink RX10 49 yX10_in, .static yX10_in, .initialized RX10, .code yX10_in cX10_in 6 (some .boolean)] ++ wsX100)
def wsX10_blank : List Cond := .code yX10_blank cX10_blank 2 (some .int) :: ([.fieldLink RX10 53 "WorstVoiceModel" "pageMany" "I"] ++ wsX100)
def wsX10_kindBy : List Cond := .code yX10_kindBy cX10_kindBy 1 (some .int) :: ([])
def wsX10_go : List Cond := .code yX10_go cX10_go 3 (some .boolean) :: ([.fieldLink RX10 56 "WorstVoiceModel" "state" "I", .fieldLink RX10 13 "WorstVoiceModel" "read" "[I", .fieldLink RX10 59 "WorstVoiceModel" "readSingers" "I", .constantLong RX10 66 (9), .fieldLink RX10 68 "WorstVoiceModel" "readWidows" "I", .constantLong RX10 71 (3), .fieldLink RX10 16 "WorstVoiceModel" "readMinds" "[I", .methodLink RX10 62 yX10_kindBy, .static yX10_kindBy, .initialized RX10, .code yX10_kindBy cX10_kindBy 1 (some .int), .methodLink RX10 49 yX10_in, .static yX10_in, .code yX10_in cX10_in 6 (some .boolean)] ++ wsX100)
def wsX10_faultOf : List Cond := .code yX10_faultOf cX10_faultOf 2 (some .int) :: ([.fieldLink RX10 59 "WorstVoiceModel" "readSingers" "I", .fieldLink RX10 68 "WorstVoiceModel" "readWidows" "I", .fieldLink RX10 56 "WorstVoiceModel" "state" "I", .fieldLink RX10 53 "WorstVoiceModel" "pageMany" "I", .fieldLink RX10 7 "WorstVoiceModel" "page" "[I", .methodLink RX10 73 yX10_go, .instanceMethod yX10_go, .selects RX10 yX10_go yX10_go, .initialized RX10, .code yX10_go cX10_go 3 (some .boolean), .fieldLink RX10 13 "WorstVoiceModel" "read" "[I", .constantLong RX10 66 (9), .constantLong RX10 71 (3), .fieldLink RX10 16 "WorstVoiceModel" "readMinds" "[I", .methodLink RX10 62 yX10_kindBy, .static yX10_kindBy, .code yX10_kindBy cX10_kindBy 1 (some .int), .methodLink RX10 49 yX10_in, .static yX10_in, .code yX10_in cX10_in 6 (some .boolean)] ++ wsX100)
def wsX10_fault : List Cond := .code yX10_fault cX10_fault 1 (some .int) :: ([.methodLink RX10 77 yX10_faultOf, .instanceMethod yX10_faultOf, .selects RX10 yX10_faultOf yX10_faultOf, .initialized RX10, .code yX10_faultOf cX10_faultOf 2 (some .int), .fieldLink RX10 59 "WorstVoiceModel" "readSingers" "I", .fieldLink RX10 68 "WorstVoiceModel" "readWidows" "I", .fieldLink RX10 56 "WorstVoiceModel" "state" "I", .fieldLink RX10 53 "WorstVoiceModel" "pageMany" "I", .fieldLink RX10 7 "WorstVoiceModel" "page" "[I", .methodLink RX10 73 yX10_go, .instanceMethod yX10_go, .selects RX10 yX10_go yX10_go, .code yX10_go cX10_go 3 (some .boolean), .fieldLink RX10 13 "WorstVoiceModel" "read" "[I", .constantLong RX10 66 (9), .constantLong RX10 71 (3), .fieldLink RX10 16 "WorstVoiceModel" "readMinds" "[I", .methodLink RX10 62 yX10_kindBy, .static yX10_kindBy, .code yX10_kindBy cX10_kindBy 1 (some .int), .methodLink RX10 49 yX10_in, .static yX10_in, .code yX10_in cX10_in 6 (some .boolean)] ++ wsX100)
def wsX10_town_r1 : List Cond := [Cond.fieldLink RX10 53 "WorstVoiceModel" "pageMany" "I", Cond.fieldLink RX10 56 "WorstVoiceModel" "state" "I", Cond.fieldLink RX10 68 "WorstVoiceModel" "readWidows" "I", Cond.fieldLink RX10 59 "WorstVoiceModel" "readSingers" "I", Cond.fieldLink RX10 81 "WorstVoiceModel" "singers" "I", Cond.fieldLink RX10 84 "WorstVoiceModel" "widows" "I", Cond.fieldLink RX10 16 "WorstVoiceModel" "readMinds" "[I", Cond.fieldLink RX10 22 "WorstVoiceModel" "minds" "[I", Cond.fieldLink RX10 19 "WorstVoiceModel" "rows" "[I", Cond.fieldLink RX10 13 "WorstVoiceModel" "read" "[I", Cond.fieldLink RX10 91 "WorstVoiceModel" "weeks" "I", Cond.fieldLink RX10 94 "WorstVoiceModel" "heardMany" "I", Cond.fieldLink RX10 97 "WorstVoiceModel" "townsRead" "I", Cond.methodLink RX10 77 yX10_faultOf, Cond.instanceMethod yX10_faultOf, Cond.selects RX10 yX10_faultOf yX10_faultOf, Cond.initialized RX10, Cond.code yX10_faultOf cX10_faultOf 2 (some .int), Cond.fieldLink RX10 7 "WorstVoiceModel" "page" "[I", Cond.methodLink RX10 73 yX10_go, Cond.instanceMethod yX10_go, Cond.selects RX10 yX10_go yX10_go, Cond.code yX10_go cX10_go 3 (some .boolean), Cond.constantLong RX10 66 (9)]
def wsX10_town_r2 : List Cond := [Cond.constantLong RX10 71 (3), Cond.methodLink RX10 62 yX10_kindBy, Cond.static yX10_kindBy, Cond.code yX10_kindBy cX10_kindBy 1 (some .int), Cond.methodLink RX10 49 yX10_in, Cond.static yX10_in, Cond.code yX10_in cX10_in 6 (some .boolean), Cond.methodLink RX10 87 yX10_copy, Cond.static yX10_copy, Cond.code yX10_copy cX10_copy 3 none]
def wsX10_town : List Cond := .code yX10_town cX10_town 3 (some .int) :: ((wsX10_town_r1 ++ wsX10_town_r2) ++ wsX100)
def wsX10_isSinger : List Cond := .code yX10_isSinger cX10_isSinger 2 (some .boolean) :: ([.fieldLink RX10 81 "WorstVoiceModel" "singers" "I", .methodLink RX10 49 yX10_in, .static yX10_in, .initialized RX10, .code yX10_in cX10_in 6 (some .boolean)] ++ wsX100)
def wsX10_isWidow : List Cond := .code yX10_isWidow cX10_isWidow 2 (some .boolean) :: ([.fieldLink RX10 84 "WorstVoiceModel" "widows" "I", .methodLink RX10 49 yX10_in, .static yX10_in, .initialized RX10, .code yX10_in cX10_in 6 (some .boolean)] ++ wsX100)
def wsX10_badOf : List Cond := .code yX10_badOf cX10_badOf 5 (some .int) :: ([.fieldLink RX10 19 "WorstVoiceModel" "rows" "[I"] ++ wsX100)
def wsX10_forWhom : List Cond := .code yX10_forWhom cX10_forWhom 4 (some .int) :: ([.fieldLink RX10 81 "WorstVoiceModel" "singers" "I", .fieldLink RX10 22 "WorstVoiceModel" "minds" "[I", .methodLink RX10 100 yX10_badOf, .instanceMethod yX10_badOf, .selects RX10 yX10_badOf yX10_badOf, .initialized RX10, .code yX10_badOf cX10_badOf 5 (some .int), .fieldLink RX10 19 "WorstVoiceModel" "rows" "[I"] ++ wsX100)
def wsX10_votesOf : List Cond := .code yX10_votesOf cX10_votesOf 4 (some .int) :: ([.fieldLink RX10 84 "WorstVoiceModel" "widows" "I", .methodLink RX10 104 yX10_forWhom, .instanceMethod yX10_forWhom, .selects RX10 yX10_forWhom yX10_forWhom, .initialized RX10, .code yX10_forWhom cX10_forWhom 4 (some .int), .fieldLink RX10 81 "WorstVoiceModel" "singers" "I", .fieldLink RX10 22 "WorstVoiceModel" "minds" "[I", .methodLink RX10 100 yX10_badOf, .instanceMethod yX10_badOf, .selects RX10 yX10_badOf yX10_badOf, .code yX10_badOf cX10_badOf 5 (some .int), .fieldLink RX10 19 "WorstVoiceModel" "rows" "[I"] ++ wsX100)
def wsX10_mayorOf : List Cond := .code yX10_mayorOf cX10_mayorOf 3 (some .int) :: ([.fieldLink RX10 81 "WorstVoiceModel" "singers" "I", .methodLink RX10 107 yX10_votesOf, .instanceMethod yX10_votesOf, .selects RX10 yX10_votesOf yX10_votesOf, .initialized RX10, .code yX10_votesOf cX10_votesOf 4 (some .int), .fieldLink RX10 84 "WorstVoiceModel" "widows" "I", .methodLink RX10 104 yX10_forWhom, .instanceMethod yX10_forWhom, .selects RX10 yX10_forWhom yX10_forWhom, .code yX10_forWhom cX10_forWhom 4 (some .int), .fieldLink RX10 22 "WorstVoiceModel" "minds" "[I", .methodLink RX10 100 yX10_badOf, .instanceMethod yX10_badOf, .selects RX10 yX10_badOf yX10_badOf, .code yX10_badOf cX10_badOf 5 (some .int), .fieldLink RX10 19 "WorstVoiceModel" "rows" "[I"] ++ wsX100)
def wsX10_worstOf : List Cond := .code yX10_worstOf cX10_worstOf 9 (some .int) :: ([.fieldLink RX10 19 "WorstVoiceModel" "rows" "[I", .methodLink RX10 107 yX10_votesOf, .instanceMethod yX10_votesOf, .selects RX10 yX10_votesOf yX10_votesOf, .initialized RX10, .code yX10_votesOf cX10_votesOf 4 (some .int), .fieldLink RX10 84 "WorstVoiceModel" "widows" "I", .methodLink RX10 104 yX10_forWhom, .instanceMethod yX10_forWhom, .selects RX10 yX10_forWhom yX10_forWhom, .code yX10_forWhom cX10_forWhom 4 (some .int), .fieldLink RX10 81 "WorstVoiceModel" "singers" "I", .fieldLink RX10 22 "WorstVoiceModel" "minds" "[I", .methodLink RX10 100 yX10_badOf, .instanceMethod yX10_badOf, .selects RX10 yX10_badOf yX10_badOf, .code yX10_badOf cX10_badOf 5 (some .int)] ++ wsX100)
def wsX10_tell_r1 : List Cond := [Cond.constantLong RX10 110 (10), Cond.constantLong RX10 112 (13), Cond.fieldLink RX10 19 "WorstVoiceModel" "rows" "[I", Cond.constantLong RX10 114 (20), Cond.constantLong RX10 116 (23), Cond.methodLink RX10 49 yX10_in, Cond.static yX10_in, Cond.initialized RX10, Cond.code yX10_in cX10_in 6 (some .boolean), Cond.methodLink RX10 100 yX10_badOf, Cond.instanceMethod yX10_badOf, Cond.selects RX10 yX10_badOf yX10_badOf, Cond.code yX10_badOf cX10_badOf 5 (some .int), Cond.methodLink RX10 107 yX10_votesOf, Cond.instanceMethod yX10_votesOf, Cond.selects RX10 yX10_votesOf yX10_votesOf, Cond.code yX10_votesOf cX10_votesOf 4 (some .int), Cond.fieldLink RX10 84 "WorstVoiceModel" "widows" "I", Cond.methodLink RX10 104 yX10_forWhom, Cond.instanceMethod yX10_forWhom, Cond.selects RX10 yX10_forWhom yX10_forWhom, Cond.code yX10_forWhom cX10_forWhom 4 (some .int), Cond.fieldLink RX10 81 "WorstVoiceModel" "singers" "I", Cond.fieldLink RX10 22 "WorstVoiceModel" "minds" "[I"]
def wsX10_tell_r2 : List Cond := [Cond.methodLink RX10 118 yX10_worstOf, Cond.instanceMethod yX10_worstOf, Cond.selects RX10 yX10_worstOf yX10_worstOf, Cond.code yX10_worstOf cX10_worstOf 9 (some .int)]
def wsX10_tell : List Cond := .code yX10_tell cX10_tell 3 (some .int) :: ((wsX10_tell_r1 ++ wsX10_tell_r2) ++ wsX100)
def wsX10_singer_r1 : List Cond := [Cond.methodLink RX10 121 yX10_isSinger, Cond.instanceMethod yX10_isSinger, Cond.selects RX10 yX10_isSinger yX10_isSinger, Cond.initialized RX10, Cond.code yX10_isSinger cX10_isSinger 2 (some .boolean), Cond.fieldLink RX10 81 "WorstVoiceModel" "singers" "I", Cond.methodLink RX10 49 yX10_in, Cond.static yX10_in, Cond.code yX10_in cX10_in 6 (some .boolean), Cond.methodLink RX10 124 yX10_tell, Cond.instanceMethod yX10_tell, Cond.selects RX10 yX10_tell yX10_tell, Cond.code yX10_tell cX10_tell 3 (some .int), Cond.constantLong RX10 110 (10), Cond.constantLong RX10 112 (13), Cond.fieldLink RX10 19 "WorstVoiceModel" "rows" "[I", Cond.constantLong RX10 114 (20), Cond.constantLong RX10 116 (23), Cond.methodLink RX10 100 yX10_badOf, Cond.instanceMethod yX10_badOf, Cond.selects RX10 yX10_badOf yX10_badOf, Cond.code yX10_badOf cX10_badOf 5 (some .int), Cond.methodLink RX10 107 yX10_votesOf, Cond.instanceMethod yX10_votesOf]
def wsX10_singer_r2 : List Cond := [Cond.selects RX10 yX10_votesOf yX10_votesOf, Cond.code yX10_votesOf cX10_votesOf 4 (some .int), Cond.fieldLink RX10 84 "WorstVoiceModel" "widows" "I", Cond.methodLink RX10 104 yX10_forWhom, Cond.instanceMethod yX10_forWhom, Cond.selects RX10 yX10_forWhom yX10_forWhom, Cond.code yX10_forWhom cX10_forWhom 4 (some .int), Cond.fieldLink RX10 22 "WorstVoiceModel" "minds" "[I", Cond.methodLink RX10 118 yX10_worstOf, Cond.instanceMethod yX10_worstOf, Cond.selects RX10 yX10_worstOf yX10_worstOf, Cond.code yX10_worstOf cX10_worstOf 9 (some .int)]
def wsX10_singer : List Cond := .code yX10_singer cX10_singer 3 (some .int) :: ((wsX10_singer_r1 ++ wsX10_singer_r2) ++ wsX100)
def wsX10_as : List Cond := .code yX10_as cX10_as 5 (some .int) :: ([.constantLong RX10 127 (4), .fieldLink RX10 19 "WorstVoiceModel" "rows" "[I", .methodLink RX10 121 yX10_isSinger, .instanceMethod yX10_isSinger, .selects RX10 yX10_isSinger yX10_isSinger, .initialized RX10, .code yX10_isSinger cX10_isSinger 2 (some .boolean), .fieldLink RX10 81 "WorstVoiceModel" "singers" "I", .methodLink RX10 49 yX10_in, .static yX10_in, .code yX10_in cX10_in 6 (some .boolean)] ++ wsX100)
def wsX10_isMore : List Cond := .code yX10_isMore cX10_isMore 4 (some .int) :: ([.methodLink RX10 100 yX10_badOf, .instanceMethod yX10_badOf, .selects RX10 yX10_badOf yX10_badOf, .initialized RX10, .code yX10_badOf cX10_badOf 5 (some .int), .fieldLink RX10 19 "WorstVoiceModel" "rows" "[I"] ++ wsX100)
def wsX10_mindsOf : List Cond := .code yX10_mindsOf cX10_mindsOf 6 (some .int) :: ([.fieldLink RX10 94 "WorstVoiceModel" "heardMany" "I", .fieldLink RX10 31 "WorstVoiceModel" "heards" "[I", .methodLink RX10 157 yX10_isMore, .instanceMethod yX10_isMore, .selects RX10 yX10_isMore yX10_isMore, .initialized RX10, .code yX10_isMore cX10_isMore 4 (some .int), .methodLink RX10 100 yX10_badOf, .instanceMethod yX10_badOf, .selects RX10 yX10_badOf yX10_badOf, .code yX10_badOf cX10_badOf 5 (some .int), .fieldLink RX10 19 "WorstVoiceModel" "rows" "[I"] ++ wsX100)
def wsX10_askOf : List Cond := .code yX10_askOf cX10_askOf 12 (some .int) :: ([.methodLink RX10 129 yX10_mindsOf, .instanceMethod yX10_mindsOf, .selects RX10 yX10_mindsOf yX10_mindsOf, .initialized RX10, .code yX10_mindsOf cX10_mindsOf 6 (some .int), .fieldLink RX10 94 "WorstVoiceModel" "heardMany" "I", .fieldLink RX10 31 "WorstVoiceModel" "heards" "[I", .methodLink RX10 157 yX10_isMore, .instanceMethod yX10_isMore, .selects RX10 yX10_isMore yX10_isMore, .code yX10_isMore cX10_isMore 4 (some .int), .methodLink RX10 100 yX10_badOf, .instanceMethod yX10_badOf, .selects RX10 yX10_badOf yX10_badOf, .code yX10_badOf cX10_badOf 5 (some .int), .fieldLink RX10 19 "WorstVoiceModel" "rows" "[I", .methodLink RX10 121 yX10_isSinger, .instanceMethod yX10_isSinger, .selects RX10 yX10_isSinger yX10_isSinger, .code yX10_isSinger cX10_isSinger 2 (some .boolean), .fieldLink RX10 81 "WorstVoiceModel" "singers" "I", .methodLink RX10 49 yX10_in, .static yX10_in, .code yX10_in cX10_in 6 (some .boolean)] ++ wsX100)
def wsX10_tellWidow_r1 : List Cond := [Cond.fieldLink RX10 22 "WorstVoiceModel" "minds" "[I", Cond.methodLink RX10 104 yX10_forWhom, Cond.instanceMethod yX10_forWhom, Cond.selects RX10 yX10_forWhom yX10_forWhom, Cond.initialized RX10, Cond.code yX10_forWhom cX10_forWhom 4 (some .int), Cond.fieldLink RX10 81 "WorstVoiceModel" "singers" "I", Cond.methodLink RX10 100 yX10_badOf, Cond.instanceMethod yX10_badOf, Cond.selects RX10 yX10_badOf yX10_badOf, Cond.code yX10_badOf cX10_badOf 5 (some .int), Cond.fieldLink RX10 19 "WorstVoiceModel" "rows" "[I", Cond.methodLink RX10 129 yX10_mindsOf, Cond.instanceMethod yX10_mindsOf, Cond.selects RX10 yX10_mindsOf yX10_mindsOf, Cond.code yX10_mindsOf cX10_mindsOf 6 (some .int), Cond.fieldLink RX10 94 "WorstVoiceModel" "heardMany" "I", Cond.fieldLink RX10 31 "WorstVoiceModel" "heards" "[I", Cond.methodLink RX10 157 yX10_isMore, Cond.instanceMethod yX10_isMore, Cond.selects RX10 yX10_isMore yX10_isMore, Cond.code yX10_isMore cX10_isMore 4 (some .int), Cond.methodLink RX10 132 yX10_askOf, Cond.instanceMethod yX10_askOf]
def wsX10_tellWidow_r2 : List Cond := [Cond.selects RX10 yX10_askOf yX10_askOf, Cond.code yX10_askOf cX10_askOf 12 (some .int), Cond.methodLink RX10 121 yX10_isSinger, Cond.instanceMethod yX10_isSinger, Cond.selects RX10 yX10_isSinger yX10_isSinger, Cond.code yX10_isSinger cX10_isSinger 2 (some .boolean), Cond.methodLink RX10 49 yX10_in, Cond.static yX10_in, Cond.code yX10_in cX10_in 6 (some .boolean)]
def wsX10_tellWidow : List Cond := .code yX10_tellWidow cX10_tellWidow 3 (some .int) :: ((wsX10_tellWidow_r1 ++ wsX10_tellWidow_r2) ++ wsX100)
def wsX10_widow_r1 : List Cond := [Cond.methodLink RX10 135 yX10_isWidow, Cond.instanceMethod yX10_isWidow, Cond.selects RX10 yX10_isWidow yX10_isWidow, Cond.initialized RX10, Cond.code yX10_isWidow cX10_isWidow 2 (some .boolean), Cond.fieldLink RX10 84 "WorstVoiceModel" "widows" "I", Cond.methodLink RX10 49 yX10_in, Cond.static yX10_in, Cond.code yX10_in cX10_in 6 (some .boolean), Cond.methodLink RX10 138 yX10_tellWidow, Cond.instanceMethod yX10_tellWidow, Cond.selects RX10 yX10_tellWidow yX10_tellWidow, Cond.code yX10_tellWidow cX10_tellWidow 3 (some .int), Cond.fieldLink RX10 22 "WorstVoiceModel" "minds" "[I", Cond.methodLink RX10 104 yX10_forWhom, Cond.instanceMethod yX10_forWhom, Cond.selects RX10 yX10_forWhom yX10_forWhom, Cond.code yX10_forWhom cX10_forWhom 4 (some .int), Cond.fieldLink RX10 81 "WorstVoiceModel" "singers" "I", Cond.methodLink RX10 100 yX10_badOf, Cond.instanceMethod yX10_badOf, Cond.selects RX10 yX10_badOf yX10_badOf, Cond.code yX10_badOf cX10_badOf 5 (some .int), Cond.fieldLink RX10 19 "WorstVoiceModel" "rows" "[I"]
def wsX10_widow_r2 : List Cond := [Cond.methodLink RX10 129 yX10_mindsOf, Cond.instanceMethod yX10_mindsOf, Cond.selects RX10 yX10_mindsOf yX10_mindsOf, Cond.code yX10_mindsOf cX10_mindsOf 6 (some .int), Cond.fieldLink RX10 94 "WorstVoiceModel" "heardMany" "I", Cond.fieldLink RX10 31 "WorstVoiceModel" "heards" "[I", Cond.methodLink RX10 157 yX10_isMore, Cond.instanceMethod yX10_isMore, Cond.selects RX10 yX10_isMore yX10_isMore, Cond.code yX10_isMore cX10_isMore 4 (some .int), Cond.methodLink RX10 132 yX10_askOf, Cond.instanceMethod yX10_askOf, Cond.selects RX10 yX10_askOf yX10_askOf, Cond.code yX10_askOf cX10_askOf 12 (some .int), Cond.methodLink RX10 121 yX10_isSinger, Cond.instanceMethod yX10_isSinger, Cond.selects RX10 yX10_isSinger yX10_isSinger, Cond.code yX10_isSinger cX10_isSinger 2 (some .boolean)]
def wsX10_widow : List Cond := .code yX10_widow cX10_widow 3 (some .int) :: ((wsX10_widow_r1 ++ wsX10_widow_r2) ++ wsX100)
def wsX10_wince : List Cond := .code yX10_wince cX10_wince 3 (some .int) :: ([.fieldLink RX10 22 "WorstVoiceModel" "minds" "[I", .methodLink RX10 135 yX10_isWidow, .instanceMethod yX10_isWidow, .selects RX10 yX10_isWidow yX10_isWidow, .initialized RX10, .code yX10_isWidow cX10_isWidow 2 (some .boolean), .fieldLink RX10 84 "WorstVoiceModel" "widows" "I", .methodLink RX10 49 yX10_in, .static yX10_in, .code yX10_in cX10_in 6 (some .boolean), .methodLink RX10 121 yX10_isSinger, .instanceMethod yX10_isSinger, .selects RX10 yX10_isSinger yX10_isSinger, .code yX10_isSinger cX10_isSinger 2 (some .boolean), .fieldLink RX10 81 "WorstVoiceModel" "singers" "I", .methodLink RX10 100 yX10_badOf, .instanceMethod yX10_badOf, .selects RX10 yX10_badOf yX10_badOf, .code yX10_badOf cX10_badOf 5 (some .int), .fieldLink RX10 19 "WorstVoiceModel" "rows" "[I"] ++ wsX100)
def wsX10_cold : List Cond := .code yX10_cold cX10_cold 4 (some .int) :: ([.fieldLink RX10 19 "WorstVoiceModel" "rows" "[I", .methodLink RX10 121 yX10_isSinger, .instanceMethod yX10_isSinger, .selects RX10 yX10_isSinger yX10_isSinger, .initialized RX10, .code yX10_isSinger cX10_isSinger 2 (some .boolean), .fieldLink RX10 81 "WorstVoiceModel" "singers" "I", .methodLink RX10 49 yX10_in, .static yX10_in, .code yX10_in cX10_in 6 (some .boolean)] ++ wsX100)
def wsX10_aisle : List Cond := .code yX10_aisle cX10_aisle 4 (some .int) :: ([.fieldLink RX10 19 "WorstVoiceModel" "rows" "[I", .methodLink RX10 121 yX10_isSinger, .instanceMethod yX10_isSinger, .selects RX10 yX10_isSinger yX10_isSinger, .initialized RX10, .code yX10_isSinger cX10_isSinger 2 (some .boolean), .fieldLink RX10 81 "WorstVoiceModel" "singers" "I", .methodLink RX10 49 yX10_in, .static yX10_in, .code yX10_in cX10_in 6 (some .boolean)] ++ wsX100)
def wsX10_honey : List Cond := .code yX10_honey cX10_honey 4 (some .int) :: ([.constantLong RX10 66 (9), .fieldLink RX10 19 "WorstVoiceModel" "rows" "[I", .methodLink RX10 121 yX10_isSinger, .instanceMethod yX10_isSinger, .selects RX10 yX10_isSinger yX10_isSinger, .initialized RX10, .code yX10_isSinger cX10_isSinger 2 (some .boolean), .fieldLink RX10 81 "WorstVoiceModel" "singers" "I", .methodLink RX10 49 yX10_in, .static yX10_in, .code yX10_in cX10_in 6 (some .boolean)] ++ wsX100)
def wsX10_weekOf : List Cond := .code yX10_weekOf cX10_weekOf 6 (some .int) :: ([.fieldLink RX10 19 "WorstVoiceModel" "rows" "[I"] ++ wsX100)
def wsX10_practise : List Cond := .code yX10_practise cX10_practise 2 (some .int) :: ([.fieldLink RX10 91 "WorstVoiceModel" "weeks" "I", .methodLink RX10 121 yX10_isSinger, .instanceMethod yX10_isSinger, .selects RX10 yX10_isSinger yX10_isSinger, .initialized RX10, .code yX10_isSinger cX10_isSinger 2 (some .boolean), .fieldLink RX10 81 "WorstVoiceModel" "singers" "I", .methodLink RX10 49 yX10_in, .static yX10_in, .code yX10_in cX10_in 6 (some .boolean), .methodLink RX10 141 yX10_weekOf, .instanceMethod yX10_weekOf, .selects RX10 yX10_weekOf yX10_weekOf, .code yX10_weekOf cX10_weekOf 6 (some .int), .fieldLink RX10 19 "WorstVoiceModel" "rows" "[I"] ++ wsX100)
def wsX10_mayor : List Cond := .code yX10_mayor cX10_mayor 1 (some .int) :: ([.fieldLink RX10 81 "WorstVoiceModel" "singers" "I", .methodLink RX10 144 yX10_mayorOf, .instanceMethod yX10_mayorOf, .selects RX10 yX10_mayorOf yX10_mayorOf, .initialized RX10, .code yX10_mayorOf cX10_mayorOf 3 (some .int), .methodLink RX10 107 yX10_votesOf, .instanceMethod yX10_votesOf, .selects RX10 yX10_votesOf yX10_votesOf, .code yX10_votesOf cX10_votesOf 4 (some .int), .fieldLink RX10 84 "WorstVoiceModel" "widows" "I", .methodLink RX10 104 yX10_forWhom, .instanceMethod yX10_forWhom, .selects RX10 yX10_forWhom yX10_forWhom, .code yX10_forWhom cX10_forWhom 4 (some .int), .fieldLink RX10 22 "WorstVoiceModel" "minds" "[I", .methodLink RX10 100 yX10_badOf, .instanceMethod yX10_badOf, .selects RX10 yX10_badOf yX10_badOf, .code yX10_badOf cX10_badOf 5 (some .int), .fieldLink RX10 19 "WorstVoiceModel" "rows" "[I"] ++ wsX100)
def wsX10_layMore : List Cond := .code yX10_layMore cX10_layMore 6 (some .boolean) :: ([.fieldLink RX10 81 "WorstVoiceModel" "singers" "I", .fieldLink RX10 25 "WorstVoiceModel" "more" "[I", .fieldLink RX10 19 "WorstVoiceModel" "rows" "[I"] ++ wsX100)
def wsX10_layNeed_r1 : List Cond := [Cond.fieldLink RX10 81 "WorstVoiceModel" "singers" "I", Cond.fieldLink RX10 25 "WorstVoiceModel" "more" "[I", Cond.fieldLink RX10 19 "WorstVoiceModel" "rows" "[I", Cond.fieldLink RX10 28 "WorstVoiceModel" "bestMore" "[I", Cond.methodLink RX10 147 yX10_layMore, Cond.instanceMethod yX10_layMore, Cond.selects RX10 yX10_layMore yX10_layMore, Cond.initialized RX10, Cond.code yX10_layMore cX10_layMore 6 (some .boolean), Cond.methodLink RX10 144 yX10_mayorOf, Cond.instanceMethod yX10_mayorOf, Cond.selects RX10 yX10_mayorOf yX10_mayorOf, Cond.code yX10_mayorOf cX10_mayorOf 3 (some .int), Cond.methodLink RX10 107 yX10_votesOf, Cond.instanceMethod yX10_votesOf, Cond.selects RX10 yX10_votesOf yX10_votesOf, Cond.code yX10_votesOf cX10_votesOf 4 (some .int), Cond.fieldLink RX10 84 "WorstVoiceModel" "widows" "I", Cond.methodLink RX10 104 yX10_forWhom, Cond.instanceMethod yX10_forWhom, Cond.selects RX10 yX10_forWhom yX10_forWhom, Cond.code yX10_forWhom cX10_forWhom 4 (some .int), Cond.fieldLink RX10 22 "WorstVoiceModel" "minds" "[I", Cond.methodLink RX10 100 yX10_badOf]
def wsX10_layNeed_r2 : List Cond := [Cond.instanceMethod yX10_badOf, Cond.selects RX10 yX10_badOf yX10_badOf, Cond.code yX10_badOf cX10_badOf 5 (some .int), Cond.methodLink RX10 87 yX10_copy, Cond.static yX10_copy, Cond.code yX10_copy cX10_copy 3 none]
def wsX10_layNeed : List Cond := .code yX10_layNeed cX10_layNeed 8 (some .int) :: ((wsX10_layNeed_r1 ++ wsX10_layNeed_r2) ++ wsX100)
def wsX10_need_r1 : List Cond := [Cond.constantLong RX10 110 (10), Cond.constantLong RX10 112 (13), Cond.fieldLink RX10 151 "WorstVoiceModel" "needMany" "I", Cond.fieldLink RX10 81 "WorstVoiceModel" "singers" "I", Cond.fieldLink RX10 28 "WorstVoiceModel" "bestMore" "[I", Cond.methodLink RX10 121 yX10_isSinger, Cond.instanceMethod yX10_isSinger, Cond.selects RX10 yX10_isSinger yX10_isSinger, Cond.initialized RX10, Cond.code yX10_isSinger cX10_isSinger 2 (some .boolean), Cond.methodLink RX10 49 yX10_in, Cond.static yX10_in, Cond.code yX10_in cX10_in 6 (some .boolean), Cond.methodLink RX10 154 yX10_layNeed, Cond.instanceMethod yX10_layNeed, Cond.selects RX10 yX10_layNeed yX10_layNeed, Cond.code yX10_layNeed cX10_layNeed 8 (some .int), Cond.fieldLink RX10 25 "WorstVoiceModel" "more" "[I", Cond.fieldLink RX10 19 "WorstVoiceModel" "rows" "[I", Cond.methodLink RX10 147 yX10_layMore, Cond.instanceMethod yX10_layMore, Cond.selects RX10 yX10_layMore yX10_layMore, Cond.code yX10_layMore cX10_layMore 6 (some .boolean), Cond.methodLink RX10 144 yX10_mayorOf]
def wsX10_need_r2 : List Cond := [Cond.instanceMethod yX10_mayorOf, Cond.selects RX10 yX10_mayorOf yX10_mayorOf, Cond.code yX10_mayorOf cX10_mayorOf 3 (some .int), Cond.methodLink RX10 107 yX10_votesOf, Cond.instanceMethod yX10_votesOf, Cond.selects RX10 yX10_votesOf yX10_votesOf, Cond.code yX10_votesOf cX10_votesOf 4 (some .int), Cond.fieldLink RX10 84 "WorstVoiceModel" "widows" "I", Cond.methodLink RX10 104 yX10_forWhom, Cond.instanceMethod yX10_forWhom, Cond.selects RX10 yX10_forWhom yX10_forWhom, Cond.code yX10_forWhom cX10_forWhom 4 (some .int), Cond.fieldLink RX10 22 "WorstVoiceModel" "minds" "[I", Cond.methodLink RX10 100 yX10_badOf, Cond.instanceMethod yX10_badOf, Cond.selects RX10 yX10_badOf yX10_badOf, Cond.code yX10_badOf cX10_badOf 5 (some .int), Cond.methodLink RX10 87 yX10_copy, Cond.static yX10_copy, Cond.code yX10_copy cX10_copy 3 none]
def wsX10_need : List Cond := .code yX10_need cX10_need 4 (some .int) :: ((wsX10_need_r1 ++ wsX10_need_r2) ++ wsX100)
def wsX10_hear : List Cond := .code yX10_hear cX10_hear 5 (some .int) :: ([.fieldLink RX10 94 "WorstVoiceModel" "heardMany" "I", .fieldLink RX10 31 "WorstVoiceModel" "heards" "[I", .methodLink RX10 135 yX10_isWidow, .instanceMethod yX10_isWidow, .selects RX10 yX10_isWidow yX10_isWidow, .initialized RX10, .code yX10_isWidow cX10_isWidow 2 (some .boolean), .fieldLink RX10 84 "WorstVoiceModel" "widows" "I", .methodLink RX10 49 yX10_in, .static yX10_in, .code yX10_in cX10_in 6 (some .boolean), .methodLink RX10 121 yX10_isSinger, .instanceMethod yX10_isSinger, .selects RX10 yX10_isSinger yX10_isSinger, .code yX10_isSinger cX10_isSinger 2 (some .boolean), .fieldLink RX10 81 "WorstVoiceModel" "singers" "I"] ++ wsX100)
def wsX10_forget : List Cond := .code yX10_forget cX10_forget 2 (some .int) :: ([.fieldLink RX10 94 "WorstVoiceModel" "heardMany" "I"] ++ wsX100)
def wsX10_draw : List Cond := .code yX10_draw cX10_draw 2 (some .int) :: ([.constantLong RX10 161 (1103515245), .fieldLink RX10 163 "WorstVoiceModel" "seedNow" "I", .constantLong RX10 166 (12345), .constantLong RX10 168 (2147483647), .constant RX10 170 (65536)] ++ wsX100)
def wsX10_years_r1 : List Cond := [Cond.constantLong RX10 171 (60), Cond.constantLong RX10 173 (2), Cond.fieldLink RX10 81 "WorstVoiceModel" "singers" "I", Cond.fieldLink RX10 19 "WorstVoiceModel" "rows" "[I", Cond.fieldLink RX10 34 "WorstVoiceModel" "savedRows" "[I", Cond.fieldLink RX10 163 "WorstVoiceModel" "seedNow" "I", Cond.methodLink RX10 49 yX10_in, Cond.static yX10_in, Cond.initialized RX10, Cond.code yX10_in cX10_in 6 (some .boolean), Cond.methodLink RX10 87 yX10_copy, Cond.static yX10_copy, Cond.code yX10_copy cX10_copy 3 none, Cond.methodLink RX10 175 yX10_draw, Cond.instanceMethod yX10_draw, Cond.selects RX10 yX10_draw yX10_draw, Cond.code yX10_draw cX10_draw 2 (some .int), Cond.constantLong RX10 161 (1103515245), Cond.constantLong RX10 166 (12345), Cond.constantLong RX10 168 (2147483647), Cond.constant RX10 170 (65536), Cond.methodLink RX10 141 yX10_weekOf, Cond.instanceMethod yX10_weekOf, Cond.selects RX10 yX10_weekOf yX10_weekOf]
def wsX10_years_r2 : List Cond := [Cond.code yX10_weekOf cX10_weekOf 6 (some .int), Cond.methodLink RX10 144 yX10_mayorOf, Cond.instanceMethod yX10_mayorOf, Cond.selects RX10 yX10_mayorOf yX10_mayorOf, Cond.code yX10_mayorOf cX10_mayorOf 3 (some .int), Cond.methodLink RX10 107 yX10_votesOf, Cond.instanceMethod yX10_votesOf, Cond.selects RX10 yX10_votesOf yX10_votesOf, Cond.code yX10_votesOf cX10_votesOf 4 (some .int), Cond.fieldLink RX10 84 "WorstVoiceModel" "widows" "I", Cond.methodLink RX10 104 yX10_forWhom, Cond.instanceMethod yX10_forWhom, Cond.selects RX10 yX10_forWhom yX10_forWhom, Cond.code yX10_forWhom cX10_forWhom 4 (some .int), Cond.fieldLink RX10 22 "WorstVoiceModel" "minds" "[I", Cond.methodLink RX10 100 yX10_badOf, Cond.instanceMethod yX10_badOf, Cond.selects RX10 yX10_badOf yX10_badOf, Cond.code yX10_badOf cX10_badOf 5 (some .int)]
def wsX10_years : List Cond := .code yX10_years cX10_years 9 (some .int) :: ((wsX10_years_r1 ++ wsX10_years_r2) ++ wsX100)
def wsX10_image : List Cond := .code yX10_image cX10_image 1 (some .int) :: ([.fieldLink RX10 81 "WorstVoiceModel" "singers" "I", .fieldLink RX10 19 "WorstVoiceModel" "rows" "[I", .fieldLink RX10 37 "WorstVoiceModel" "keptRows" "[I", .fieldLink RX10 31 "WorstVoiceModel" "heards" "[I", .fieldLink RX10 40 "WorstVoiceModel" "keptHeards" "[I", .fieldLink RX10 91 "WorstVoiceModel" "weeks" "I", .fieldLink RX10 178 "WorstVoiceModel" "keptWeeks" "I", .fieldLink RX10 94 "WorstVoiceModel" "heardMany" "I", .fieldLink RX10 181 "WorstVoiceModel" "keptHeard" "I", .fieldLink RX10 97 "WorstVoiceModel" "townsRead" "I", .fieldLink RX10 43 "WorstVoiceModel" "keptTown" "I", .methodLink RX10 87 yX10_copy, .static yX10_copy, .initialized RX10, .code yX10_copy cX10_copy 3 none] ++ wsX100)
def wsX10_restore : List Cond := .code yX10_restore cX10_restore 1 (some .int) :: ([.fieldLink RX10 43 "WorstVoiceModel" "keptTown" "I", .fieldLink RX10 97 "WorstVoiceModel" "townsRead" "I", .fieldLink RX10 37 "WorstVoiceModel" "keptRows" "[I", .fieldLink RX10 19 "WorstVoiceModel" "rows" "[I", .fieldLink RX10 40 "WorstVoiceModel" "keptHeards" "[I", .fieldLink RX10 31 "WorstVoiceModel" "heards" "[I", .fieldLink RX10 178 "WorstVoiceModel" "keptWeeks" "I", .fieldLink RX10 91 "WorstVoiceModel" "weeks" "I", .fieldLink RX10 181 "WorstVoiceModel" "keptHeard" "I", .fieldLink RX10 94 "WorstVoiceModel" "heardMany" "I", .methodLink RX10 87 yX10_copy, .static yX10_copy, .initialized RX10, .code yX10_copy cX10_copy 3 none] ++ wsX100)
def wsX10_sumAt : List Cond := .code yX10_sumAt cX10_sumAt 4 (some .int) :: ([.fieldLink RX10 81 "WorstVoiceModel" "singers" "I", .fieldLink RX10 19 "WorstVoiceModel" "rows" "[I"] ++ wsX100)
def wsX10_countOf : List Cond := .code yX10_countOf cX10_countOf 2 (some .int) :: ([.fieldLink RX10 81 "WorstVoiceModel" "singers" "I", .fieldLink RX10 84 "WorstVoiceModel" "widows" "I", .fieldLink RX10 91 "WorstVoiceModel" "weeks" "I", .fieldLink RX10 94 "WorstVoiceModel" "heardMany" "I", .fieldLink RX10 53 "WorstVoiceModel" "pageMany" "I", .fieldLink RX10 97 "WorstVoiceModel" "townsRead" "I", .fieldLink RX10 151 "WorstVoiceModel" "needMany" "I", .methodLink RX10 184 yX10_sumAt, .instanceMethod yX10_sumAt, .selects RX10 yX10_sumAt yX10_sumAt, .initialized RX10, .code yX10_sumAt cX10_sumAt 4 (some .int), .fieldLink RX10 19 "WorstVoiceModel" "rows" "[I"] ++ wsX100)
def wsX10_count : List Cond := .code yX10_count cX10_count 2 (some .int) :: ([.methodLink RX10 187 yX10_countOf, .instanceMethod yX10_countOf, .selects RX10 yX10_countOf yX10_countOf, .initialized RX10, .code yX10_countOf cX10_countOf 2 (some .int), .fieldLink RX10 81 "WorstVoiceModel" "singers" "I", .fieldLink RX10 84 "WorstVoiceModel" "widows" "I", .fieldLink RX10 91 "WorstVoiceModel" "weeks" "I", .fieldLink RX10 94 "WorstVoiceModel" "heardMany" "I", .fieldLink RX10 53 "WorstVoiceModel" "pageMany" "I", .fieldLink RX10 97 "WorstVoiceModel" "townsRead" "I", .fieldLink RX10 151 "WorstVoiceModel" "needMany" "I", .methodLink RX10 184 yX10_sumAt, .instanceMethod yX10_sumAt, .selects RX10 yX10_sumAt yX10_sumAt, .code yX10_sumAt cX10_sumAt 4 (some .int), .fieldLink RX10 19 "WorstVoiceModel" "rows" "[I"] ++ wsX100)
def wsX10_say : List Cond := .code yX10_say cX10_say 3 none :: ([.constantLong RX10 190 (31), .fieldLink RX10 192 "WorstVoiceModel" "hash" "J"] ++ wsX100)
def wsX10_saySinger_r1 : List Cond := [Cond.constantLong RX10 110 (10), Cond.constantLong RX10 112 (13), Cond.methodLink RX10 49 yX10_in, Cond.static yX10_in, Cond.initialized RX10, Cond.code yX10_in cX10_in 6 (some .boolean), Cond.methodLink RX10 124 yX10_tell, Cond.instanceMethod yX10_tell, Cond.selects RX10 yX10_tell yX10_tell, Cond.code yX10_tell cX10_tell 3 (some .int), Cond.fieldLink RX10 19 "WorstVoiceModel" "rows" "[I", Cond.constantLong RX10 114 (20), Cond.constantLong RX10 116 (23), Cond.methodLink RX10 100 yX10_badOf, Cond.instanceMethod yX10_badOf, Cond.selects RX10 yX10_badOf yX10_badOf, Cond.code yX10_badOf cX10_badOf 5 (some .int), Cond.methodLink RX10 107 yX10_votesOf, Cond.instanceMethod yX10_votesOf, Cond.selects RX10 yX10_votesOf yX10_votesOf, Cond.code yX10_votesOf cX10_votesOf 4 (some .int), Cond.fieldLink RX10 84 "WorstVoiceModel" "widows" "I", Cond.methodLink RX10 104 yX10_forWhom, Cond.instanceMethod yX10_forWhom]
def wsX10_saySinger_r2 : List Cond := [Cond.selects RX10 yX10_forWhom yX10_forWhom, Cond.code yX10_forWhom cX10_forWhom 4 (some .int), Cond.fieldLink RX10 81 "WorstVoiceModel" "singers" "I", Cond.fieldLink RX10 22 "WorstVoiceModel" "minds" "[I", Cond.methodLink RX10 118 yX10_worstOf, Cond.instanceMethod yX10_worstOf, Cond.selects RX10 yX10_worstOf yX10_worstOf, Cond.code yX10_worstOf cX10_worstOf 9 (some .int), Cond.methodLink RX10 196 yX10_say, Cond.instanceMethod yX10_say, Cond.selects RX10 yX10_say yX10_say, Cond.code yX10_say cX10_say 3 none, Cond.constantLong RX10 190 (31), Cond.fieldLink RX10 192 "WorstVoiceModel" "hash" "J"]
def wsX10_saySinger : List Cond := .code yX10_saySinger cX10_saySinger 3 none :: ((wsX10_saySinger_r1 ++ wsX10_saySinger_r2) ++ wsX100)
def wsX10_sayWidow_r1 : List Cond := [Cond.fieldLink RX10 81 "WorstVoiceModel" "singers" "I", Cond.fieldLink RX10 22 "WorstVoiceModel" "minds" "[I", Cond.methodLink RX10 138 yX10_tellWidow, Cond.instanceMethod yX10_tellWidow, Cond.selects RX10 yX10_tellWidow yX10_tellWidow, Cond.initialized RX10, Cond.code yX10_tellWidow cX10_tellWidow 3 (some .int), Cond.methodLink RX10 104 yX10_forWhom, Cond.instanceMethod yX10_forWhom, Cond.selects RX10 yX10_forWhom yX10_forWhom, Cond.code yX10_forWhom cX10_forWhom 4 (some .int), Cond.methodLink RX10 100 yX10_badOf, Cond.instanceMethod yX10_badOf, Cond.selects RX10 yX10_badOf yX10_badOf, Cond.code yX10_badOf cX10_badOf 5 (some .int), Cond.fieldLink RX10 19 "WorstVoiceModel" "rows" "[I", Cond.methodLink RX10 129 yX10_mindsOf, Cond.instanceMethod yX10_mindsOf, Cond.selects RX10 yX10_mindsOf yX10_mindsOf, Cond.code yX10_mindsOf cX10_mindsOf 6 (some .int), Cond.fieldLink RX10 94 "WorstVoiceModel" "heardMany" "I", Cond.fieldLink RX10 31 "WorstVoiceModel" "heards" "[I", Cond.methodLink RX10 157 yX10_isMore, Cond.instanceMethod yX10_isMore]
def wsX10_sayWidow_r2 : List Cond := [Cond.selects RX10 yX10_isMore yX10_isMore, Cond.code yX10_isMore cX10_isMore 4 (some .int), Cond.methodLink RX10 132 yX10_askOf, Cond.instanceMethod yX10_askOf, Cond.selects RX10 yX10_askOf yX10_askOf, Cond.code yX10_askOf cX10_askOf 12 (some .int), Cond.methodLink RX10 121 yX10_isSinger, Cond.instanceMethod yX10_isSinger, Cond.selects RX10 yX10_isSinger yX10_isSinger, Cond.code yX10_isSinger cX10_isSinger 2 (some .boolean), Cond.methodLink RX10 49 yX10_in, Cond.static yX10_in, Cond.code yX10_in cX10_in 6 (some .boolean), Cond.methodLink RX10 196 yX10_say, Cond.instanceMethod yX10_say, Cond.selects RX10 yX10_say yX10_say, Cond.code yX10_say cX10_say 3 none, Cond.constantLong RX10 190 (31), Cond.fieldLink RX10 192 "WorstVoiceModel" "hash" "J"]
def wsX10_sayWidow : List Cond := .code yX10_sayWidow cX10_sayWidow 3 none :: ((wsX10_sayWidow_r1 ++ wsX10_sayWidow_r2) ++ wsX100)
def wsX10_digest_r1 : List Cond := [Cond.constantLong RX10 200 (947), Cond.fieldLink RX10 192 "WorstVoiceModel" "hash" "J", Cond.fieldLink RX10 81 "WorstVoiceModel" "singers" "I", Cond.fieldLink RX10 84 "WorstVoiceModel" "widows" "I", Cond.fieldLink RX10 53 "WorstVoiceModel" "pageMany" "I", Cond.fieldLink RX10 7 "WorstVoiceModel" "page" "[I", Cond.methodLink RX10 202 yX10_saySinger, Cond.instanceMethod yX10_saySinger, Cond.selects RX10 yX10_saySinger yX10_saySinger, Cond.initialized RX10, Cond.code yX10_saySinger cX10_saySinger 3 none, Cond.constantLong RX10 110 (10), Cond.constantLong RX10 112 (13), Cond.methodLink RX10 49 yX10_in, Cond.static yX10_in, Cond.code yX10_in cX10_in 6 (some .boolean), Cond.methodLink RX10 124 yX10_tell, Cond.instanceMethod yX10_tell, Cond.selects RX10 yX10_tell yX10_tell, Cond.code yX10_tell cX10_tell 3 (some .int), Cond.fieldLink RX10 19 "WorstVoiceModel" "rows" "[I", Cond.constantLong RX10 114 (20), Cond.constantLong RX10 116 (23), Cond.methodLink RX10 100 yX10_badOf]
def wsX10_digest_r2 : List Cond := [Cond.instanceMethod yX10_badOf, Cond.selects RX10 yX10_badOf yX10_badOf, Cond.code yX10_badOf cX10_badOf 5 (some .int), Cond.methodLink RX10 107 yX10_votesOf, Cond.instanceMethod yX10_votesOf, Cond.selects RX10 yX10_votesOf yX10_votesOf, Cond.code yX10_votesOf cX10_votesOf 4 (some .int), Cond.methodLink RX10 104 yX10_forWhom, Cond.instanceMethod yX10_forWhom, Cond.selects RX10 yX10_forWhom yX10_forWhom, Cond.code yX10_forWhom cX10_forWhom 4 (some .int), Cond.fieldLink RX10 22 "WorstVoiceModel" "minds" "[I", Cond.methodLink RX10 118 yX10_worstOf, Cond.instanceMethod yX10_worstOf, Cond.selects RX10 yX10_worstOf yX10_worstOf, Cond.code yX10_worstOf cX10_worstOf 9 (some .int), Cond.methodLink RX10 196 yX10_say, Cond.instanceMethod yX10_say, Cond.selects RX10 yX10_say yX10_say, Cond.code yX10_say cX10_say 3 none, Cond.constantLong RX10 190 (31), Cond.methodLink RX10 206 yX10_sayWidow, Cond.instanceMethod yX10_sayWidow, Cond.selects RX10 yX10_sayWidow yX10_sayWidow]
def wsX10_digest_r3 : List Cond := [Cond.code yX10_sayWidow cX10_sayWidow 3 none, Cond.methodLink RX10 138 yX10_tellWidow, Cond.instanceMethod yX10_tellWidow, Cond.selects RX10 yX10_tellWidow yX10_tellWidow, Cond.code yX10_tellWidow cX10_tellWidow 3 (some .int), Cond.methodLink RX10 129 yX10_mindsOf, Cond.instanceMethod yX10_mindsOf, Cond.selects RX10 yX10_mindsOf yX10_mindsOf, Cond.code yX10_mindsOf cX10_mindsOf 6 (some .int), Cond.fieldLink RX10 94 "WorstVoiceModel" "heardMany" "I", Cond.fieldLink RX10 31 "WorstVoiceModel" "heards" "[I", Cond.methodLink RX10 157 yX10_isMore, Cond.instanceMethod yX10_isMore, Cond.selects RX10 yX10_isMore yX10_isMore, Cond.code yX10_isMore cX10_isMore 4 (some .int), Cond.methodLink RX10 132 yX10_askOf, Cond.instanceMethod yX10_askOf, Cond.selects RX10 yX10_askOf yX10_askOf, Cond.code yX10_askOf cX10_askOf 12 (some .int), Cond.methodLink RX10 121 yX10_isSinger, Cond.instanceMethod yX10_isSinger, Cond.selects RX10 yX10_isSinger yX10_isSinger, Cond.code yX10_isSinger cX10_isSinger 2 (some .boolean), Cond.methodLink RX10 144 yX10_mayorOf]
def wsX10_digest_r4 : List Cond := [Cond.instanceMethod yX10_mayorOf, Cond.selects RX10 yX10_mayorOf yX10_mayorOf, Cond.code yX10_mayorOf cX10_mayorOf 3 (some .int), Cond.methodLink RX10 187 yX10_countOf, Cond.instanceMethod yX10_countOf, Cond.selects RX10 yX10_countOf yX10_countOf, Cond.code yX10_countOf cX10_countOf 2 (some .int), Cond.fieldLink RX10 91 "WorstVoiceModel" "weeks" "I", Cond.fieldLink RX10 97 "WorstVoiceModel" "townsRead" "I", Cond.fieldLink RX10 151 "WorstVoiceModel" "needMany" "I", Cond.methodLink RX10 184 yX10_sumAt, Cond.instanceMethod yX10_sumAt, Cond.selects RX10 yX10_sumAt yX10_sumAt, Cond.code yX10_sumAt cX10_sumAt 4 (some .int)]
def wsX10_digest : List Cond := .code yX10_digest cX10_digest 2 (some .long) :: ((wsX10_digest_r1 ++ (wsX10_digest_r2 ++ (wsX10_digest_r3 ++ wsX10_digest_r4))) ++ wsX100)
def wsJ9_max_7cf53 : List Cond := .code yJ9_max_7cf53 cJ9_max_7cf53 2 (some .int) :: ([])
def wsJ9_min_7cf53 : List Cond := .code yJ9_min_7cf53 cJ9_min_7cf53 2 (some .int) :: ([])
def wsL_law_r1 : List Cond := [Cond.classLink RL 7 RX9, Cond.instantiable RX9 11, Cond.initialized RX9, Cond.classLink RL 10 RX10, Cond.instantiable RX10 26, Cond.initialized RX10, Cond.methodLink RL 9 yX9_init, Cond.instanceMethod yX9_init, Cond.code yX9_init cX9_init 2 none, Cond.methodLink RX9 3 objectInit, Cond.instanceMethod objectInit, Cond.code objectInit ⟨#[0xb1]⟩ 1 none, Cond.classLink RX9 9 RX5, Cond.instantiable RX5 2, Cond.initialized RX5, Cond.fieldLink RX9 12 "WorstVoice" "page" "LWorstVoice$Page;", Cond.classLink RX9 16 RX4, Cond.instantiable RX4 5, Cond.initialized RX4, Cond.fieldLink RX9 19 "WorstVoice" "hearsay" "LWorstVoice$Hearsay;", Cond.fieldLink RX9 23 "WorstVoice" "keptHearsay" "LWorstVoice$Hearsay;", Cond.arrayClass .int, Cond.fieldLink RX9 26 "WorstVoice" "pouring" "[I", Cond.fieldLink RX9 30 "WorstVoice" "poured" "[I"]
def wsL_law_r2 : List Cond := [Cond.classLink RX9 33 RX8, Cond.instantiable RX8 5, Cond.initialized RX8, Cond.classLink RX9 36 RX1, Cond.instantiable RX1 10, Cond.initialized RX1, Cond.fieldLink RX9 41 "WorstVoice" "choir" "LWorstVoice$Choir;", Cond.fieldLink RX9 45 "WorstVoice" "keptChoir" "LWorstVoice$Choir;", Cond.fieldLink RX9 48 "WorstVoice" "trial" "LWorstVoice$Choir;", Cond.instanceMethod yX5_init, Cond.code yX5_init cX5_init 1 none, Cond.methodLink RX5 3 objectInit, Cond.fieldLink RX5 9 "WorstVoice$Page" "codes" "[I", Cond.instanceMethod yX4_init, Cond.code yX4_init cX4_init 1 none, Cond.methodLink RX4 3 objectInit, Cond.fieldLink RX4 9 "WorstVoice$Hearsay" "widows" "[I", Cond.fieldLink RX4 15 "WorstVoice$Hearsay" "firsts" "[I", Cond.fieldLink RX4 18 "WorstVoice$Hearsay" "seconds" "[I", Cond.fieldLink RX4 21 "WorstVoice$Hearsay" "mores" "[I", Cond.instanceMethod yX8_init, Cond.code yX8_init cX8_init 1 none, Cond.methodLink RX8 3 objectInit, Cond.classLink RX8 9 RX6]
def wsL_law_r3 : List Cond := [Cond.instantiable RX6 0, Cond.initialized RX6, Cond.fieldLink RX8 12 "WorstVoice$Voices" "plain" "LWorstVoice$Singer;", Cond.classLink RX8 18 RX7, Cond.instantiable RX7 0, Cond.initialized RX7, Cond.fieldLink RX8 21 "WorstVoice$Voices" "tenor" "LWorstVoice$Tenor;", Cond.classLink RX8 25 RX0, Cond.instantiable RX0 0, Cond.initialized RX0, Cond.fieldLink RX8 28 "WorstVoice$Voices" "boy" "LWorstVoice$Boy;", Cond.classLink RX8 32 RX3, Cond.instantiable RX3 0, Cond.initialized RX3, Cond.fieldLink RX8 35 "WorstVoice$Voices" "deaf" "LWorstVoice$Deaf;", Cond.classLink RX8 39 RX2, Cond.instantiable RX2 0, Cond.initialized RX2, Cond.fieldLink RX8 42 "WorstVoice$Voices" "chorister" "LWorstVoice$Chorister;", Cond.instanceMethod yX6_init, Cond.code yX6_init cX6_init 1 none, Cond.methodLink RX6 3 objectInit, Cond.instanceMethod yX7_init, Cond.code yX7_init cX7_init 1 none]
def wsL_law_r4 : List Cond := [Cond.instanceMethod yX0_init, Cond.code yX0_init cX0_init 1 none, Cond.instanceMethod yX3_init, Cond.code yX3_init cX3_init 1 none, Cond.instanceMethod yX2_init, Cond.code yX2_init cX2_init 1 none, Cond.methodLink RX9 38 yX1_init, Cond.instanceMethod yX1_init, Cond.code yX1_init cX1_init 2 none, Cond.methodLink RX1 3 objectInit, Cond.fieldLink RX1 9 "WorstVoice$Choir" "kinds" "[I", Cond.fieldLink RX1 15 "WorstVoice$Choir" "faults" "[I", Cond.fieldLink RX1 18 "WorstVoice$Choir" "colds" "[I", Cond.fieldLink RX1 21 "WorstVoice$Choir" "lefts" "[I", Cond.fieldLink RX1 24 "WorstVoice$Choir" "honeys" "[I", Cond.fieldLink RX1 27 "WorstVoice$Choir" "minded" "[I", Cond.fieldLink RX1 30 "WorstVoice$Choir" "voices" "LWorstVoice$Voices;", Cond.methodLink RL 12 yX10_init, Cond.instanceMethod yX10_init, Cond.code yX10_init cX10_init 1 none, Cond.methodLink RX10 1 objectInit, Cond.fieldLink RX10 7 "WorstVoiceModel" "page" "[I", Cond.fieldLink RX10 13 "WorstVoiceModel" "read" "[I", Cond.fieldLink RX10 16 "WorstVoiceModel" "readMinds" "[I"]
def wsL_law_r5 : List Cond := [Cond.fieldLink RX10 19 "WorstVoiceModel" "rows" "[I", Cond.fieldLink RX10 22 "WorstVoiceModel" "minds" "[I", Cond.fieldLink RX10 25 "WorstVoiceModel" "more" "[I", Cond.fieldLink RX10 28 "WorstVoiceModel" "bestMore" "[I", Cond.fieldLink RX10 31 "WorstVoiceModel" "heards" "[I", Cond.fieldLink RX10 34 "WorstVoiceModel" "savedRows" "[I", Cond.fieldLink RX10 37 "WorstVoiceModel" "keptRows" "[I", Cond.fieldLink RX10 40 "WorstVoiceModel" "keptHeards" "[I", Cond.fieldLink RX10 43 "WorstVoiceModel" "keptTown" "I", Cond.methodLink RL 13 yX9_letter, Cond.instanceMethod yX9_letter, Cond.selects RX9 yX9_letter yX9_letter, Cond.code yX9_letter cX9_letter 2 (some .int), Cond.methodLink RX9 51 yX5_write, Cond.instanceMethod yX5_write, Cond.selects RX5 yX5_write yX5_write, Cond.code yX5_write cX5_write 2 (some .boolean), Cond.fieldLink RX5 15 "WorstVoice$Page" "length" "I", Cond.methodLink RL 17 yX10_letter, Cond.instanceMethod yX10_letter, Cond.selects RX10 yX10_letter yX10_letter, Cond.code yX10_letter cX10_letter 2 (some .int), Cond.constantLong RX10 47 (126), Cond.fieldLink RX10 53 "WorstVoiceModel" "pageMany" "I"]
def wsL_law_r6 : List Cond := [Cond.methodLink RX10 49 yX10_in, Cond.static yX10_in, Cond.code yX10_in cX10_in 6 (some .boolean), Cond.methodLink RL 18 yX9_blank, Cond.instanceMethod yX9_blank, Cond.selects RX9 yX9_blank yX9_blank, Cond.code yX9_blank cX9_blank 1 (some .int), Cond.methodLink RX9 59 yX5_wipe, Cond.instanceMethod yX5_wipe, Cond.selects RX5 yX5_wipe yX5_wipe, Cond.code yX5_wipe cX5_wipe 2 (some .int), Cond.methodLink RL 22 yX10_blank, Cond.instanceMethod yX10_blank, Cond.selects RX10 yX10_blank yX10_blank, Cond.code yX10_blank cX10_blank 2 (some .int), Cond.methodLink RL 23 yX9_fault, Cond.instanceMethod yX9_fault, Cond.selects RX9 yX9_fault yX9_fault, Cond.code yX9_fault cX9_fault 1 (some .int), Cond.methodLink RX9 63 yX5_firstWrong, Cond.instanceMethod yX5_firstWrong, Cond.selects RX5 yX5_firstWrong yX5_firstWrong, Cond.code yX5_firstWrong cX5_firstWrong 5 (some .int), Cond.methodLink RX5 19 yX5_codeAt]
def wsL_law_r7 : List Cond := [Cond.instanceMethod yX5_codeAt, Cond.selects RX5 yX5_codeAt yX5_codeAt, Cond.code yX5_codeAt cX5_codeAt 2 (some .int), Cond.methodLink RX5 26 yX5_fitsSingers, Cond.static yX5_fitsSingers, Cond.code yX5_fitsSingers cX5_fitsSingers 4 (some .boolean), Cond.methodLink RX5 23 yX5_kindOf, Cond.static yX5_kindOf, Cond.code yX5_kindOf cX5_kindOf 1 (some .int), Cond.methodLink RX5 42 yJ0_indexOf_0f7a4, Cond.instanceMethod yJ0_indexOf_0f7a4, Cond.selects RJ0 yJ0_indexOf_0f7a4 yJ0_indexOf_0f7a4, Cond.initialized RJ0, Cond.code yJ0_indexOf_0f7a4 cJ0_indexOf_0f7a4 2 (some .int), Cond.methodLink RJ0 633 yJ0_indexOf_7cf53, Cond.instanceMethod yJ0_indexOf_7cf53, Cond.selects RJ0 yJ0_indexOf_7cf53 yJ0_indexOf_7cf53, Cond.code yJ0_indexOf_7cf53 cJ0_indexOf_7cf53 3 (some .int), Cond.fieldLink RJ0 9 "java/lang/String" "value" "[B", Cond.methodLink RJ0 492 yJ0_isLatin1_aae02, Cond.instanceMethod yJ0_isLatin1_aae02, Cond.selects RJ0 yJ0_isLatin1_aae02 yJ0_isLatin1_aae02, Cond.code yJ0_isLatin1_aae02 cJ0_isLatin1_aae02 1 (some .boolean), Cond.fieldLink RJ0 38 "java/lang/String" "COMPACT_STRINGS" "Z"]
def wsL_law_r8 : List Cond := [Cond.fieldLink RJ0 15 "java/lang/String" "coder" "B", Cond.methodLink RJ0 505 yJ0_length_8abf5, Cond.instanceMethod yJ0_length_8abf5, Cond.selects RJ0 yJ0_length_8abf5 yJ0_length_8abf5, Cond.code yJ0_length_8abf5 cJ0_length_8abf5 1 (some .int), Cond.methodLink RJ0 335 yJ0_coder_7d493, Cond.instanceMethod yJ0_coder_7d493, Cond.selects RJ0 yJ0_coder_7d493 yJ0_coder_7d493, Cond.code yJ0_coder_7d493 cJ0_coder_7d493 1 (some .byte), Cond.methodLink RJ0 637 yJ1_indexOf_4cfef, Cond.static yJ1_indexOf_4cfef, Cond.initialized RJ1, Cond.code yJ1_indexOf_4cfef cJ1_indexOf_4cfef 4 (some .int), Cond.methodLink RJ1 92 Lib.Math.max.name, Cond.static Lib.Math.max.name, Cond.initialized "java/lang/Math", Cond.code Lib.Math.max.name Lib.Math.max.code 2 (some .int), Cond.methodLink RJ1 38 Lib.Math.min.name, Cond.static Lib.Math.min.name, Cond.code Lib.Math.min.name Lib.Math.min.code 2 (some .int), Cond.methodLink RJ1 88 yJ1_canEncode_9a6ad, Cond.static yJ1_canEncode_9a6ad, Cond.code yJ1_canEncode_9a6ad cJ1_canEncode_9a6ad 1 (some .boolean), Cond.methodLink RJ1 95 yJ1_indexOfChar_4cfef]
def wsL_law_r9 : List Cond := [Cond.static yJ1_indexOfChar_4cfef, Cond.code yJ1_indexOfChar_4cfef cJ1_indexOfChar_4cfef 6 (some .int), Cond.methodLink RJ0 640 yJ2_indexOf_4cfef, Cond.static yJ2_indexOf_4cfef, Cond.initialized RJ2, Cond.code yJ2_indexOf_4cfef cJ2_indexOf_4cfef 4 (some .int), Cond.methodLink RJ2 224 Lib.Math.max.name, Cond.methodLink RJ2 183 Lib.Math.min.name, Cond.constant RJ2 227 (65536), Cond.methodLink RJ2 228 yJ2_indexOfChar_4cfef, Cond.static yJ2_indexOfChar_4cfef, Cond.code yJ2_indexOfChar_4cfef cJ2_indexOfChar_4cfef 4 (some .int), Cond.methodLink RJ2 96 yJ2_checkBoundsBeginEnd_d044e, Cond.static yJ2_checkBoundsBeginEnd_d044e, Cond.code yJ2_checkBoundsBeginEnd_d044e cJ2_checkBoundsBeginEnd_d044e 3 none, Cond.methodLink RJ2 48 yJ2_length_9d52b, Cond.static yJ2_length_9d52b, Cond.code yJ2_length_9d52b cJ2_length_9d52b 1 (some .int), Cond.methodLink RJ2 241 yJ0_checkBoundsBeginEnd_23922, Cond.static yJ0_checkBoundsBeginEnd_23922, Cond.code yJ0_checkBoundsBeginEnd_23922 cJ0_checkBoundsBeginEnd_23922 3 none, Cond.fieldLink RJ0 1053 "jdk/internal/util/Preconditions" "SIOOBE_FORMATTER" "Ljava/util/function/BiFunction;", Cond.methodLink RJ0 1062 yJ3_checkFromToIndex_8c36e, Cond.static yJ3_checkFromToIndex_8c36e]
def wsL_law_r10 : List Cond := [Cond.initialized RJ3, Cond.code yJ3_checkFromToIndex_8c36e cJ3_checkFromToIndex_8c36e 4 (some .int), Cond.methodLink RJ2 244 yJ2_indexOfCharUnsafe_4cfef, Cond.static yJ2_indexOfCharUnsafe_4cfef, Cond.code yJ2_indexOfCharUnsafe_4cfef cJ2_indexOfCharUnsafe_4cfef 5 (some .int), Cond.methodLink RJ2 71 yJ2_getChar_3b067, Cond.static yJ2_getChar_3b067, Cond.code yJ2_getChar_3b067 cJ2_getChar_3b067 2 (some .char), Cond.fieldLink RJ2 44 "java/lang/StringUTF16" "$assertionsDisabled" "Z", Cond.fieldLink RJ2 59 "java/lang/StringUTF16" "HI_BYTE_SHIFT" "I", Cond.fieldLink RJ2 63 "java/lang/StringUTF16" "LO_BYTE_SHIFT" "I", Cond.methodLink RJ2 232 yJ2_indexOfSupplementary_4cfef, Cond.static yJ2_indexOfSupplementary_4cfef, Cond.code yJ2_indexOfSupplementary_4cfef cJ2_indexOfSupplementary_4cfef 7 (some .int), Cond.methodLink RJ2 164 yJ11_isValidCodePoint_9a6ad, Cond.static yJ11_isValidCodePoint_9a6ad, Cond.initialized RJ11, Cond.code yJ11_isValidCodePoint_9a6ad cJ11_isValidCodePoint_9a6ad 2 (some .boolean), Cond.methodLink RJ2 157 yJ11_highSurrogate_5068e, Cond.static yJ11_highSurrogate_5068e, Cond.code yJ11_highSurrogate_5068e cJ11_highSurrogate_5068e 1 (some .char), Cond.constant RJ11 110 (55232), Cond.methodLink RJ2 161 yJ11_lowSurrogate_5068e, Cond.static yJ11_lowSurrogate_5068e]
def wsL_law_r11 : List Cond := [Cond.code yJ11_lowSurrogate_5068e cJ11_lowSurrogate_5068e 1 (some .char), Cond.constant RJ11 76 (56320), Cond.methodLink RX5 30 yX5_fitsWidows, Cond.static yX5_fitsWidows, Cond.code yX5_fitsWidows cX5_fitsWidows 2 (some .boolean), Cond.methodLink RL 26 yX10_fault, Cond.instanceMethod yX10_fault, Cond.selects RX10 yX10_fault yX10_fault, Cond.code yX10_fault cX10_fault 1 (some .int), Cond.methodLink RX10 77 yX10_faultOf, Cond.instanceMethod yX10_faultOf, Cond.selects RX10 yX10_faultOf yX10_faultOf, Cond.code yX10_faultOf cX10_faultOf 2 (some .int), Cond.fieldLink RX10 59 "WorstVoiceModel" "readSingers" "I", Cond.fieldLink RX10 68 "WorstVoiceModel" "readWidows" "I", Cond.fieldLink RX10 56 "WorstVoiceModel" "state" "I", Cond.methodLink RX10 73 yX10_go, Cond.instanceMethod yX10_go, Cond.selects RX10 yX10_go yX10_go, Cond.code yX10_go cX10_go 3 (some .boolean), Cond.constantLong RX10 66 (9), Cond.constantLong RX10 71 (3), Cond.methodLink RX10 62 yX10_kindBy, Cond.static yX10_kindBy]
def wsL_law_r12 : List Cond := [Cond.code yX10_kindBy cX10_kindBy 1 (some .int), Cond.methodLink RL 27 yX9_town, Cond.instanceMethod yX9_town, Cond.selects RX9 yX9_town yX9_town, Cond.code yX9_town cX9_town 1 (some .int), Cond.fieldLink RX9 77 "WorstVoice" "imageKept" "Z", Cond.fieldLink RX9 81 "WorstVoice" "townsRead" "I", Cond.methodLink RX9 66 yX5_isWhole, Cond.instanceMethod yX5_isWhole, Cond.selects RX5 yX5_isWhole yX5_isWhole, Cond.code yX5_isWhole cX5_isWhole 1 (some .boolean), Cond.methodLink RX5 33 yX5_firstWrong, Cond.methodLink RX5 37 yX5_singersEnd, Cond.instanceMethod yX5_singersEnd, Cond.selects RX5 yX5_singersEnd yX5_singersEnd, Cond.code yX5_singersEnd cX5_singersEnd 2 (some .int), Cond.methodLink RX9 70 yX1_readFrom, Cond.instanceMethod yX1_readFrom, Cond.selects RX1 yX1_readFrom yX1_readFrom, Cond.code yX1_readFrom cX1_readFrom 4 none, Cond.methodLink RX1 40 Lib.Math.min.name, Cond.fieldLink RX1 46 "WorstVoice$Choir" "singers" "I", Cond.methodLink RX1 53 Lib.Math.max.name, Cond.fieldLink RX1 56 "WorstVoice$Choir" "widows" "I"]
def wsL_law_r13 : List Cond := [Cond.fieldLink RX1 59 "WorstVoice$Choir" "weeks" "I", Cond.methodLink RX1 34 yX5_singersEnd, Cond.methodLink RX1 62 yX1_readSinger, Cond.instanceMethod yX1_readSinger, Cond.selects RX1 yX1_readSinger yX1_readSinger, Cond.code yX1_readSinger cX1_readSinger 5 none, Cond.methodLink RX1 70 yX1_hasSinger, Cond.instanceMethod yX1_hasSinger, Cond.selects RX1 yX1_hasSinger yX1_hasSinger, Cond.code yX1_hasSinger cX1_hasSinger 2 (some .boolean), Cond.methodLink RX1 74 yX5_kindAt, Cond.instanceMethod yX5_kindAt, Cond.selects RX5 yX5_kindAt yX5_kindAt, Cond.code yX5_kindAt cX5_kindAt 2 (some .int), Cond.methodLink RX1 66 yX5_digitAt, Cond.instanceMethod yX5_digitAt, Cond.selects RX5 yX5_digitAt yX5_digitAt, Cond.code yX5_digitAt cX5_digitAt 2 (some .int), Cond.methodLink RX9 74 yX4_clear, Cond.instanceMethod yX4_clear, Cond.selects RX4 yX4_clear yX4_clear, Cond.code yX4_clear cX4_clear 2 (some .int), Cond.fieldLink RX4 24 "WorstVoice$Hearsay" "size" "I", Cond.methodLink RL 30 yX10_town]
def wsL_law_r14 : List Cond := [Cond.instanceMethod yX10_town, Cond.selects RX10 yX10_town yX10_town, Cond.code yX10_town cX10_town 3 (some .int), Cond.fieldLink RX10 81 "WorstVoiceModel" "singers" "I", Cond.fieldLink RX10 84 "WorstVoiceModel" "widows" "I", Cond.fieldLink RX10 91 "WorstVoiceModel" "weeks" "I", Cond.fieldLink RX10 94 "WorstVoiceModel" "heardMany" "I", Cond.fieldLink RX10 97 "WorstVoiceModel" "townsRead" "I", Cond.methodLink RX10 87 yX10_copy, Cond.static yX10_copy, Cond.code yX10_copy cX10_copy 3 none, Cond.methodLink RL 31 yX9_singer, Cond.instanceMethod yX9_singer, Cond.selects RX9 yX9_singer yX9_singer, Cond.code yX9_singer cX9_singer 3 (some .int), Cond.methodLink RX9 87 yX1_hasSinger, Cond.methodLink RX9 90 yX1_voice, Cond.instanceMethod yX1_voice, Cond.selects RX1 yX1_voice yX1_voice, Cond.code yX1_voice cX1_voice 2 (some (.object "WorstVoice$Singer")), Cond.methodLink RX1 81 yX8_ofKind, Cond.instanceMethod yX8_ofKind, Cond.selects RX8 yX8_ofKind yX8_ofKind, Cond.code yX8_ofKind cX8_ofKind 2 (some (.object "WorstVoice$Singer"))]
def wsL_law_r15 : List Cond := [Cond.methodLink RX9 94 ⟨"WorstVoice$Singer", "number", "()I"⟩, Cond.sameMethod "WorstVoice$Singer" "WorstVoice$Singer" "number" "()I", Cond.instanceMethod ⟨"WorstVoice$Singer", "number", "()I"⟩, Cond.selects RX0 ⟨"WorstVoice$Singer", "number", "()I"⟩ yX0_number, Cond.instanceMethod yX0_number, Cond.code yX0_number cX0_number 1 (some .int), Cond.code yX6_number cX6_number 1 (some .int), Cond.selects RX2 ⟨"WorstVoice$Singer", "number", "()I"⟩ yX2_number, Cond.instanceMethod yX2_number, Cond.code yX2_number cX2_number 1 (some .int), Cond.selects RX3 ⟨"WorstVoice$Singer", "number", "()I"⟩ yX3_number, Cond.instanceMethod yX3_number, Cond.code yX3_number cX3_number 1 (some .int), Cond.methodLink RX9 94 yX6_number, Cond.instanceMethod yX6_number, Cond.selects RX6 yX6_number yX6_number, Cond.selects RX7 ⟨"WorstVoice$Singer", "number", "()I"⟩ yX7_number, Cond.instanceMethod yX7_number, Cond.code yX7_number cX7_number 1 (some .int), Cond.methodLink RX9 99 yX1_votes, Cond.instanceMethod yX1_votes, Cond.selects RX1 yX1_votes yX1_votes, Cond.code yX1_votes cX1_votes 4 (some .int), Cond.methodLink RX1 110 yX1_favourite]
def wsL_law_r16 : List Cond := [Cond.instanceMethod yX1_favourite, Cond.selects RX1 yX1_favourite yX1_favourite, Cond.code yX1_favourite cX1_favourite 5 (some .int), Cond.methodLink RX1 104 yX1_minds, Cond.instanceMethod yX1_minds, Cond.selects RX1 yX1_minds yX1_minds, Cond.code yX1_minds cX1_minds 2 (some .int), Cond.methodLink RX1 90 yX1_hasWidow, Cond.instanceMethod yX1_hasWidow, Cond.selects RX1 yX1_hasWidow yX1_hasWidow, Cond.code yX1_hasWidow cX1_hasWidow 2 (some .boolean), Cond.methodLink RX1 107 yX1_bad, Cond.instanceMethod yX1_bad, Cond.selects RX1 yX1_bad yX1_bad, Cond.code yX1_bad cX1_bad 4 (some .int), Cond.methodLink RX1 87 yX1_isFault, Cond.static yX1_isFault, Cond.code yX1_isFault cX1_isFault 1 (some .boolean), Cond.methodLink RX1 101 ⟨"WorstVoice$Singer", "plainBad", "(II)I"⟩, Cond.sameMethod "WorstVoice$Singer" "WorstVoice$Singer" "plainBad" "(II)I", Cond.instanceMethod ⟨"WorstVoice$Singer", "plainBad", "(II)I"⟩, Cond.selects RX0 ⟨"WorstVoice$Singer", "plainBad", "(II)I"⟩ yX0_plainBad, Cond.instanceMethod yX0_plainBad, Cond.code yX0_plainBad cX0_plainBad 3 (some .int)]
def wsL_law_r17 : List Cond := [Cond.code yX6_plainBad cX6_plainBad 3 (some .int), Cond.selects RX2 ⟨"WorstVoice$Singer", "plainBad", "(II)I"⟩ yX2_plainBad, Cond.instanceMethod yX2_plainBad, Cond.code yX2_plainBad cX2_plainBad 3 (some .int), Cond.selects RX3 ⟨"WorstVoice$Singer", "plainBad", "(II)I"⟩ yX3_plainBad, Cond.instanceMethod yX3_plainBad, Cond.code yX3_plainBad cX3_plainBad 3 (some .int), Cond.methodLink RX1 101 yX6_plainBad, Cond.instanceMethod yX6_plainBad, Cond.selects RX6 yX6_plainBad yX6_plainBad, Cond.selects RX7 ⟨"WorstVoice$Singer", "plainBad", "(II)I"⟩ yX7_plainBad, Cond.instanceMethod yX7_plainBad, Cond.code yX7_plainBad cX7_plainBad 3 (some .int), Cond.methodLink RX9 103 yX1_coldOf, Cond.instanceMethod yX1_coldOf, Cond.selects RX1 yX1_coldOf yX1_coldOf, Cond.code yX1_coldOf cX1_coldOf 2 (some .int), Cond.methodLink RX9 106 yX1_leftOf, Cond.instanceMethod yX1_leftOf, Cond.selects RX1 yX1_leftOf yX1_leftOf, Cond.code yX1_leftOf cX1_leftOf 2 (some .int), Cond.methodLink RX9 109 yX1_honeyOf, Cond.instanceMethod yX1_honeyOf, Cond.selects RX1 yX1_honeyOf yX1_honeyOf]
def wsL_law_r18 : List Cond := [Cond.code yX1_honeyOf cX1_honeyOf 2 (some .int), Cond.methodLink RX9 112 yX9_worstAndVotes, Cond.instanceMethod yX9_worstAndVotes, Cond.selects RX9 yX9_worstAndVotes yX9_worstAndVotes, Cond.code yX9_worstAndVotes cX9_worstAndVotes 6 (some .int), Cond.methodLink RX9 174 yX1_takeFrom, Cond.instanceMethod yX1_takeFrom, Cond.selects RX1 yX1_takeFrom yX1_takeFrom, Cond.code yX1_takeFrom cX1_takeFrom 2 none, Cond.static yX9_copyRow, Cond.code yX9_copyRow cX9_copyRow 2 none, Cond.methodLink RX9 264 Lib.Math.min.name, Cond.methodLink RX9 267 arraycopyName, Cond.native arraycopyName, Cond.static arraycopyName, Cond.initialized "java/lang/System", Cond.methodLink RX9 141 yX1_setCold, Cond.instanceMethod yX1_setCold, Cond.selects RX1 yX1_setCold yX1_setCold, Cond.code yX1_setCold cX1_setCold 3 none, Cond.methodLink RX9 145 yX1_setLeft, Cond.instanceMethod yX1_setLeft, Cond.selects RX1 yX1_setLeft yX1_setLeft, Cond.code yX1_setLeft cX1_setLeft 3 none]
def wsL_law_r19 : List Cond := [Cond.methodLink RX9 115 yX9_singersFault, Cond.instanceMethod yX9_singersFault, Cond.selects RX9 yX9_singersFault yX9_singersFault, Cond.code yX9_singersFault cX9_singersFault 3 (some .int), Cond.methodLink RX9 228 yX1_faultOf, Cond.instanceMethod yX1_faultOf, Cond.selects RX1 yX1_faultOf yX1_faultOf, Cond.code yX1_faultOf cX1_faultOf 3 (some .int), Cond.methodLink RX9 132 yX1_bad, Cond.methodLink RL 35 yX10_singer, Cond.instanceMethod yX10_singer, Cond.selects RX10 yX10_singer yX10_singer, Cond.code yX10_singer cX10_singer 3 (some .int), Cond.methodLink RX10 121 yX10_isSinger, Cond.instanceMethod yX10_isSinger, Cond.selects RX10 yX10_isSinger yX10_isSinger, Cond.code yX10_isSinger cX10_isSinger 2 (some .boolean), Cond.methodLink RX10 124 yX10_tell, Cond.instanceMethod yX10_tell, Cond.selects RX10 yX10_tell yX10_tell, Cond.code yX10_tell cX10_tell 3 (some .int), Cond.constantLong RX10 110 (10), Cond.constantLong RX10 112 (13), Cond.constantLong RX10 114 (20)]
def wsL_law_r20 : List Cond := [Cond.constantLong RX10 116 (23), Cond.methodLink RX10 100 yX10_badOf, Cond.instanceMethod yX10_badOf, Cond.selects RX10 yX10_badOf yX10_badOf, Cond.code yX10_badOf cX10_badOf 5 (some .int), Cond.methodLink RX10 107 yX10_votesOf, Cond.instanceMethod yX10_votesOf, Cond.selects RX10 yX10_votesOf yX10_votesOf, Cond.code yX10_votesOf cX10_votesOf 4 (some .int), Cond.methodLink RX10 104 yX10_forWhom, Cond.instanceMethod yX10_forWhom, Cond.selects RX10 yX10_forWhom yX10_forWhom, Cond.code yX10_forWhom cX10_forWhom 4 (some .int), Cond.methodLink RX10 118 yX10_worstOf, Cond.instanceMethod yX10_worstOf, Cond.selects RX10 yX10_worstOf yX10_worstOf, Cond.code yX10_worstOf cX10_worstOf 9 (some .int), Cond.methodLink RL 36 yX9_as, Cond.instanceMethod yX9_as, Cond.selects RX9 yX9_as yX9_as, Cond.code yX9_as cX9_as 3 (some .int), Cond.methodLink RX9 119 yX9_isOfKind, Cond.static yX9_isOfKind, Cond.code yX9_isOfKind cX9_isOfKind 2 (some .boolean)]
def wsL_law_r21 : List Cond := [Cond.classLink RX9 231 "WorstVoice$Tenor", Cond.classLink RX9 233 "WorstVoice$Boy", Cond.classLink RX9 235 "WorstVoice$Deaf", Cond.classLink RX9 237 "WorstVoice$Chorister", Cond.methodLink RL 39 yX10_as, Cond.instanceMethod yX10_as, Cond.selects RX10 yX10_as yX10_as, Cond.code yX10_as cX10_as 5 (some .int), Cond.constantLong RX10 127 (4), Cond.methodLink RL 40 yX9_widow, Cond.instanceMethod yX9_widow, Cond.selects RX9 yX9_widow yX9_widow, Cond.code yX9_widow cX9_widow 3 (some .int), Cond.methodLink RX9 123 yX1_hasWidow, Cond.methodLink RX9 126 yX1_minds, Cond.methodLink RX9 129 yX1_favourite, Cond.methodLink RX9 135 yX9_canMind, Cond.instanceMethod yX9_canMind, Cond.selects RX9 yX9_canMind yX9_canMind, Cond.code yX9_canMind cX9_canMind 4 (some .int), Cond.methodLink RX9 246 yX4_wouldBeSo, Cond.instanceMethod yX4_wouldBeSo, Cond.selects RX4 yX4_wouldBeSo yX4_wouldBeSo, Cond.code yX4_wouldBeSo cX4_wouldBeSo 6 (some .boolean)]
def wsL_law_r22 : List Cond := [Cond.methodLink RX4 32 yX1_bad, Cond.methodLink RX9 138 yX9_bestAsk, Cond.instanceMethod yX9_bestAsk, Cond.selects RX9 yX9_bestAsk yX9_bestAsk, Cond.code yX9_bestAsk cX9_bestAsk 8 (some .int), Cond.methodLink RX9 250 yX9_leftAtWorst, Cond.instanceMethod yX9_leftAtWorst, Cond.selects RX9 yX9_leftAtWorst yX9_leftAtWorst, Cond.code yX9_leftAtWorst cX9_leftAtWorst 6 (some .int), Cond.methodLink RX9 259 Lib.Math.max.name, Cond.methodLink RX9 254 yJ6_bitCount_0f7a4, Cond.static yJ6_bitCount_0f7a4, Cond.initialized RJ6, Cond.code yJ6_bitCount_0f7a4 cJ6_bitCount_0f7a4 1 (some .int), Cond.constant RJ6 265 (1431655765), Cond.constant RJ6 266 (858993459), Cond.constant RJ6 267 (252645135), Cond.methodLink RL 43 yX10_widow, Cond.instanceMethod yX10_widow, Cond.selects RX10 yX10_widow yX10_widow, Cond.code yX10_widow cX10_widow 3 (some .int), Cond.methodLink RX10 135 yX10_isWidow, Cond.instanceMethod yX10_isWidow, Cond.selects RX10 yX10_isWidow yX10_isWidow]
def wsL_law_r23 : List Cond := [Cond.code yX10_isWidow cX10_isWidow 2 (some .boolean), Cond.methodLink RX10 138 yX10_tellWidow, Cond.instanceMethod yX10_tellWidow, Cond.selects RX10 yX10_tellWidow yX10_tellWidow, Cond.code yX10_tellWidow cX10_tellWidow 3 (some .int), Cond.methodLink RX10 129 yX10_mindsOf, Cond.instanceMethod yX10_mindsOf, Cond.selects RX10 yX10_mindsOf yX10_mindsOf, Cond.code yX10_mindsOf cX10_mindsOf 6 (some .int), Cond.methodLink RX10 157 yX10_isMore, Cond.instanceMethod yX10_isMore, Cond.selects RX10 yX10_isMore yX10_isMore, Cond.code yX10_isMore cX10_isMore 4 (some .int), Cond.methodLink RX10 132 yX10_askOf, Cond.instanceMethod yX10_askOf, Cond.selects RX10 yX10_askOf yX10_askOf, Cond.code yX10_askOf cX10_askOf 12 (some .int), Cond.methodLink RL 44 yX9_wince, Cond.instanceMethod yX9_wince, Cond.selects RX9 yX9_wince yX9_wince, Cond.code yX9_wince cX9_wince 3 (some .int), Cond.methodLink RL 47 yX10_wince, Cond.instanceMethod yX10_wince, Cond.selects RX10 yX10_wince yX10_wince]
def wsL_law_r24 : List Cond := [Cond.code yX10_wince cX10_wince 3 (some .int), Cond.methodLink RL 48 yX9_cold, Cond.instanceMethod yX9_cold, Cond.selects RX9 yX9_cold yX9_cold, Cond.code yX9_cold cX9_cold 4 (some .int), Cond.methodLink RL 52 yX10_cold, Cond.instanceMethod yX10_cold, Cond.selects RX10 yX10_cold yX10_cold, Cond.code yX10_cold cX10_cold 4 (some .int), Cond.methodLink RL 53 yX9_aisle, Cond.instanceMethod yX9_aisle, Cond.selects RX9 yX9_aisle yX9_aisle, Cond.code yX9_aisle cX9_aisle 4 (some .int), Cond.methodLink RL 56 yX10_aisle, Cond.instanceMethod yX10_aisle, Cond.selects RX10 yX10_aisle yX10_aisle, Cond.code yX10_aisle cX10_aisle 4 (some .int), Cond.methodLink RL 57 yX9_honey, Cond.instanceMethod yX9_honey, Cond.selects RX9 yX9_honey yX9_honey, Cond.code yX9_honey cX9_honey 4 (some .int), Cond.methodLink RX9 148 yX1_setHoney, Cond.instanceMethod yX1_setHoney, Cond.selects RX1 yX1_setHoney yX1_setHoney]
def wsL_law_r25 : List Cond := [Cond.code yX1_setHoney cX1_setHoney 3 none, Cond.methodLink RL 60 yX10_honey, Cond.instanceMethod yX10_honey, Cond.selects RX10 yX10_honey yX10_honey, Cond.code yX10_honey cX10_honey 4 (some .int), Cond.methodLink RL 61 yX9_practise, Cond.instanceMethod yX9_practise, Cond.selects RX9 yX9_practise yX9_practise, Cond.code yX9_practise cX9_practise 2 (some .int), Cond.methodLink RX9 152 yX1_practiseWeek, Cond.instanceMethod yX1_practiseWeek, Cond.selects RX1 yX1_practiseWeek yX1_practiseWeek, Cond.code yX1_practiseWeek cX1_practiseWeek 5 (some .int), Cond.methodLink RX1 93 yX1_voice, Cond.methodLink RX1 96 ⟨"WorstVoice$Singer", "practised", "(I)I"⟩, Cond.sameMethod "WorstVoice$Singer" "WorstVoice$Singer" "practised" "(I)I", Cond.instanceMethod ⟨"WorstVoice$Singer", "practised", "(I)I"⟩, Cond.selects RX0 ⟨"WorstVoice$Singer", "practised", "(I)I"⟩ yX0_practised, Cond.instanceMethod yX0_practised, Cond.code yX0_practised cX0_practised 2 (some .int), Cond.code yX6_practised cX6_practised 2 (some .int), Cond.selects RX2 ⟨"WorstVoice$Singer", "practised", "(I)I"⟩ yX6_practised, Cond.instanceMethod yX6_practised, Cond.selects RX3 ⟨"WorstVoice$Singer", "practised", "(I)I"⟩ yX6_practised]
def wsL_law_r26 : List Cond := [Cond.methodLink RX1 96 yX6_practised, Cond.selects RX6 yX6_practised yX6_practised, Cond.selects RX7 ⟨"WorstVoice$Singer", "practised", "(I)I"⟩ yX6_practised, Cond.methodLink RL 64 yX10_practise, Cond.instanceMethod yX10_practise, Cond.selects RX10 yX10_practise yX10_practise, Cond.code yX10_practise cX10_practise 2 (some .int), Cond.methodLink RX10 141 yX10_weekOf, Cond.instanceMethod yX10_weekOf, Cond.selects RX10 yX10_weekOf yX10_weekOf, Cond.code yX10_weekOf cX10_weekOf 6 (some .int), Cond.methodLink RL 65 yX9_mayor, Cond.instanceMethod yX9_mayor, Cond.selects RX9 yX9_mayor yX9_mayor, Cond.code yX9_mayor cX9_mayor 1 (some .int), Cond.methodLink RX9 155 yX1_isEmpty, Cond.instanceMethod yX1_isEmpty, Cond.selects RX1 yX1_isEmpty yX1_isEmpty, Cond.code yX1_isEmpty cX1_isEmpty 1 (some .boolean), Cond.methodLink RX9 158 yX1_elected, Cond.instanceMethod yX1_elected, Cond.selects RX1 yX1_elected yX1_elected, Cond.code yX1_elected cX1_elected 3 (some .int), Cond.methodLink RX1 113 yX1_votes]
def wsL_law_r27 : List Cond := [Cond.methodLink RL 68 yX10_mayor, Cond.instanceMethod yX10_mayor, Cond.selects RX10 yX10_mayor yX10_mayor, Cond.code yX10_mayor cX10_mayor 1 (some .int), Cond.methodLink RX10 144 yX10_mayorOf, Cond.instanceMethod yX10_mayorOf, Cond.selects RX10 yX10_mayorOf yX10_mayorOf, Cond.code yX10_mayorOf cX10_mayorOf 3 (some .int), Cond.methodLink RL 69 yX9_need, Cond.instanceMethod yX9_need, Cond.selects RX9 yX9_need yX9_need, Cond.code yX9_need cX9_need 6 (some .int), Cond.fieldLink RX9 161 "WorstVoice" "needsDone" "I", Cond.methodLink RX9 164 yX9_pourLeast, Cond.instanceMethod yX9_pourLeast, Cond.selects RX9 yX9_pourLeast yX9_pourLeast, Cond.code yX9_pourLeast cX9_pourLeast 7 (some .int), Cond.methodLink RX9 239 yX9_pour, Cond.instanceMethod yX9_pour, Cond.selects RX9 yX9_pour yX9_pour, Cond.code yX9_pour cX9_pour 8 (some .int), Cond.methodLink RX9 242 yX9_copyRow, Cond.methodLink RL 72 yX10_need, Cond.instanceMethod yX10_need]
def wsL_law_r28 : List Cond := [Cond.selects RX10 yX10_need yX10_need, Cond.code yX10_need cX10_need 4 (some .int), Cond.fieldLink RX10 151 "WorstVoiceModel" "needMany" "I", Cond.methodLink RX10 154 yX10_layNeed, Cond.instanceMethod yX10_layNeed, Cond.selects RX10 yX10_layNeed yX10_layNeed, Cond.code yX10_layNeed cX10_layNeed 8 (some .int), Cond.methodLink RX10 147 yX10_layMore, Cond.instanceMethod yX10_layMore, Cond.selects RX10 yX10_layMore yX10_layMore, Cond.code yX10_layMore cX10_layMore 6 (some .boolean), Cond.methodLink RL 73 yX9_hear, Cond.instanceMethod yX9_hear, Cond.selects RX9 yX9_hear yX9_hear, Cond.code yX9_hear cX9_hear 5 (some .int), Cond.methodLink RX9 167 yX4_add, Cond.instanceMethod yX4_add, Cond.selects RX4 yX4_add yX4_add, Cond.code yX4_add cX4_add 5 (some .boolean), Cond.methodLink RL 77 yX10_hear, Cond.instanceMethod yX10_hear, Cond.selects RX10 yX10_hear yX10_hear, Cond.code yX10_hear cX10_hear 5 (some .int), Cond.methodLink RL 78 yX9_forget]
def wsL_law_r29 : List Cond := [Cond.instanceMethod yX9_forget, Cond.selects RX9 yX9_forget yX9_forget, Cond.code yX9_forget cX9_forget 1 (some .int), Cond.methodLink RL 81 yX10_forget, Cond.instanceMethod yX10_forget, Cond.selects RX10 yX10_forget yX10_forget, Cond.code yX10_forget cX10_forget 2 (some .int), Cond.methodLink RL 82 yX9_years, Cond.instanceMethod yX9_years, Cond.selects RX9 yX9_years yX9_years, Cond.code yX9_years cX9_years 9 (some .int), Cond.methodLink RX9 178 yX9_nextSeed, Cond.static yX9_nextSeed, Cond.code yX9_nextSeed cX9_nextSeed 1 (some .int), Cond.constantLong RX9 273 (1103515245), Cond.constantLong RX9 275 (12345), Cond.constantLong RX9 277 (2147483647), Cond.methodLink RX9 181 yX9_drawn, Cond.static yX9_drawn, Cond.code yX9_drawn cX9_drawn 2 (some .int), Cond.constant RX9 279 (65536), Cond.methodLink RL 86 yX10_years, Cond.instanceMethod yX10_years, Cond.selects RX10 yX10_years yX10_years]
def wsL_law_r30 : List Cond := [Cond.code yX10_years cX10_years 9 (some .int), Cond.constantLong RX10 171 (60), Cond.constantLong RX10 173 (2), Cond.fieldLink RX10 163 "WorstVoiceModel" "seedNow" "I", Cond.methodLink RX10 175 yX10_draw, Cond.instanceMethod yX10_draw, Cond.selects RX10 yX10_draw yX10_draw, Cond.code yX10_draw cX10_draw 2 (some .int), Cond.constantLong RX10 161 (1103515245), Cond.constantLong RX10 166 (12345), Cond.constantLong RX10 168 (2147483647), Cond.constant RX10 170 (65536), Cond.methodLink RL 87 yX9_image, Cond.instanceMethod yX9_image, Cond.selects RX9 yX9_image yX9_image, Cond.code yX9_image cX9_image 1 (some .int), Cond.methodLink RX9 184 yX4_takeFrom, Cond.instanceMethod yX4_takeFrom, Cond.selects RX4 yX4_takeFrom yX4_takeFrom, Cond.code yX4_takeFrom cX4_takeFrom 2 none, Cond.methodLink RL 90 yX10_image, Cond.instanceMethod yX10_image, Cond.selects RX10 yX10_image yX10_image, Cond.code yX10_image cX10_image 1 (some .int)]
def wsL_law_r31 : List Cond := [Cond.fieldLink RX10 178 "WorstVoiceModel" "keptWeeks" "I", Cond.fieldLink RX10 181 "WorstVoiceModel" "keptHeard" "I", Cond.methodLink RL 91 yX9_restore, Cond.instanceMethod yX9_restore, Cond.selects RX9 yX9_restore yX9_restore, Cond.code yX9_restore cX9_restore 1 (some .int), Cond.methodLink RL 94 yX10_restore, Cond.instanceMethod yX10_restore, Cond.selects RX10 yX10_restore yX10_restore, Cond.code yX10_restore cX10_restore 1 (some .int), Cond.methodLink RL 95 yX9_count, Cond.instanceMethod yX9_count, Cond.selects RX9 yX9_count yX9_count, Cond.code yX9_count cX9_count 2 (some .int), Cond.methodLink RX9 193 yX1_coldsOfAll, Cond.instanceMethod yX1_coldsOfAll, Cond.selects RX1 yX1_coldsOfAll yX1_coldsOfAll, Cond.code yX1_coldsOfAll cX1_coldsOfAll 3 (some .int), Cond.methodLink RX1 116 yX1_coldOf, Cond.methodLink RX9 196 yX1_honeyOfAll, Cond.instanceMethod yX1_honeyOfAll, Cond.selects RX1 yX1_honeyOfAll yX1_honeyOfAll, Cond.code yX1_honeyOfAll cX1_honeyOfAll 3 (some .int), Cond.methodLink RX1 119 yX1_honeyOf]
def wsL_law_r32 : List Cond := [Cond.methodLink RL 98 yX10_count, Cond.instanceMethod yX10_count, Cond.selects RX10 yX10_count yX10_count, Cond.code yX10_count cX10_count 2 (some .int), Cond.methodLink RX10 187 yX10_countOf, Cond.instanceMethod yX10_countOf, Cond.selects RX10 yX10_countOf yX10_countOf, Cond.code yX10_countOf cX10_countOf 2 (some .int), Cond.methodLink RX10 184 yX10_sumAt, Cond.instanceMethod yX10_sumAt, Cond.selects RX10 yX10_sumAt yX10_sumAt, Cond.code yX10_sumAt cX10_sumAt 4 (some .int), Cond.methodLink RL 99 yX9_digest, Cond.instanceMethod yX9_digest, Cond.selects RX9 yX9_digest yX9_digest, Cond.code yX9_digest cX9_digest 8 (some .long), Cond.constantLong RX9 199 (947), Cond.fieldLink RX9 201 "WorstVoice" "SINGER_WHATS" "[I", Cond.methodLink RX9 204 yX9_singer, Cond.methodLink RX9 207 yX9_mix, Cond.static yX9_mix, Cond.code yX9_mix cX9_mix 4 (some .long), Cond.constantLong RX9 226 (31), Cond.methodLink RX9 211 yX9_widow]
def wsL_law_r33 : List Cond := [Cond.methodLink RX9 214 yX9_wince, Cond.methodLink RX9 217 yX9_mayor, Cond.methodLink RX9 220 yX5_codeAt, Cond.methodLink RX9 223 yX9_count, Cond.methodLink RL 103 yX10_digest, Cond.instanceMethod yX10_digest, Cond.selects RX10 yX10_digest yX10_digest, Cond.code yX10_digest cX10_digest 2 (some .long), Cond.constantLong RX10 200 (947), Cond.fieldLink RX10 192 "WorstVoiceModel" "hash" "J", Cond.methodLink RX10 202 yX10_saySinger, Cond.instanceMethod yX10_saySinger, Cond.selects RX10 yX10_saySinger yX10_saySinger, Cond.code yX10_saySinger cX10_saySinger 3 none, Cond.methodLink RX10 196 yX10_say, Cond.instanceMethod yX10_say, Cond.selects RX10 yX10_say yX10_say, Cond.code yX10_say cX10_say 3 none, Cond.constantLong RX10 190 (31), Cond.methodLink RX10 206 yX10_sayWidow, Cond.instanceMethod yX10_sayWidow, Cond.selects RX10 yX10_sayWidow yX10_sayWidow, Cond.code yX10_sayWidow cX10_sayWidow 3 none]
def wsL_law : List Cond := (wsL_law_r1 ++ (wsL_law_r2 ++ (wsL_law_r3 ++ (wsL_law_r4 ++ (wsL_law_r5 ++ (wsL_law_r6 ++ (wsL_law_r7 ++ (wsL_law_r8 ++ (wsL_law_r9 ++ (wsL_law_r10 ++ (wsL_law_r11 ++ (wsL_law_r12 ++ (wsL_law_r13 ++ (wsL_law_r14 ++ (wsL_law_r15 ++ (wsL_law_r16 ++ (wsL_law_r17 ++ (wsL_law_r18 ++ (wsL_law_r19 ++ (wsL_law_r20 ++ (wsL_law_r21 ++ (wsL_law_r22 ++ (wsL_law_r23 ++ (wsL_law_r24 ++ (wsL_law_r25 ++ (wsL_law_r26 ++ (wsL_law_r27 ++ (wsL_law_r28 ++ (wsL_law_r29 ++ (wsL_law_r30 ++ (wsL_law_r31 ++ (wsL_law_r32 ++ wsL_law_r33)))))))))))))))))))))))))))))))) ++ wsX90 ++ wsX100 ++ wsX50 ++ wsX40 ++ wsX80 ++ wsX10 ++ wsX60 ++ wsX70 ++ wsX00 ++ wsX30 ++ wsX20 ++ ([] : List Cond)
set_option maxRecDepth 20000 in
theorem wsL_law_in : ∀ w ∈ wsL_law, w ∈ lw_tbl := fun w h => (goodIn_p wsL_law [55, 58, 63, 79, 102, 108, 115, 122, 129, 136, 159, 690, 232, 236, 774, 778, 240, 244, 782, 248, 252, 256, 259, 262, 267, 271, 275, 281, 285, 288, 294, 297, 291, 300, 303, 309, 312, 315, 318, 323, 326, 329, 338, 341, 344, 348, 352, 786, 790, 794, 797, 357, 361, 366, 370, 377, 381, 385, 389, 393, 803, 806, 397, 402, 406, 413, 423, 416, 419, 422, 427, 431, 435, 439, 443, 446, 453, 463, 456, 459, 462, 467, 471, 475, 479, 483, 486, 494, 498, 502, 506, 810, 814, 818, 826, 830, 834, 838, 511, 514, 842, 522, 529, 533, 538, 542, 545, 847, 851, 855, 859, 863, 867, 553, 871, 557, 875, 561, 879, 565, 569, 883, 573, 577, 585, 589, 887, 891, 593, 597, 601, 895, 899, 606, 610, 614, 903, 907, 911, 619, 623, 915, 627, 919, 631, 634, 640, 923, 929, 645, 649, 937, 654, 941, 658, 662, 667, 945, 949, 953, 672, 679, 957, 962, 966, 971] (by decide +kernel) (by decide +kernel) w h).1
theorem inlX0 : ∀ w ∈ wsX00, w ∈ wsL_law := fun _ h => List.mem_append_left _ (List.mem_append_left _ (List.mem_append_left _ (List.mem_append_right _ h)))
theorem inX0 : ∀ w ∈ wsX00, w ∈ lw_tbl := fun w h => wsL_law_in w (inlX0 w h)
theorem inlX1 : ∀ w ∈ wsX10, w ∈ wsL_law := fun _ h => List.mem_append_left _ (List.mem_append_left _ (List.mem_append_left _ (List.mem_append_left _ (List.mem_append_left _ (List.mem_append_left _ (List.mem_append_right _ h))))))
theorem inX1 : ∀ w ∈ wsX10, w ∈ lw_tbl := fun w h => wsL_law_in w (inlX1 w h)
theorem inlX2 : ∀ w ∈ wsX20, w ∈ wsL_law := fun _ h => List.mem_append_left _ (List.mem_append_right _ h)
theorem inX2 : ∀ w ∈ wsX20, w ∈ lw_tbl := fun w h => wsL_law_in w (inlX2 w h)
theorem inlX3 : ∀ w ∈ wsX30, w ∈ wsL_law := fun _ h => List.mem_append_left _ (List.mem_append_left _ (List.mem_append_right _ h))
theorem inX3 : ∀ w ∈ wsX30, w ∈ lw_tbl := fun w h => wsL_law_in w (inlX3 w h)
theorem inlX4 : ∀ w ∈ wsX40, w ∈ wsL_law := fun _ h => List.mem_append_left _ (List.mem_append_left _ (List.mem_append_left _ (List.mem_append_left _ (List.mem_append_left _ (List.mem_append_left _ (List.mem_append_left _ (List.mem_append_left _ (List.mem_append_right _ h))))))))
theorem inX4 : ∀ w ∈ wsX40, w ∈ lw_tbl := fun w h => wsL_law_in w (inlX4 w h)
theorem inlX5 : ∀ w ∈ wsX50, w ∈ wsL_law := fun _ h => List.mem_append_left _ (List.mem_append_left _ (List.mem_append_left _ (List.mem_append_left _ (List.mem_append_left _ (List.mem_append_left _ (List.mem_append_left _ (List.mem_append_left _ (List.mem_append_left _ (List.mem_append_right _ h)))))))))
theorem inX5 : ∀ w ∈ wsX50, w ∈ lw_tbl := fun w h => wsL_law_in w (inlX5 w h)
theorem inlX6 : ∀ w ∈ wsX60, w ∈ wsL_law := fun _ h => List.mem_append_left _ (List.mem_append_left _ (List.mem_append_left _ (List.mem_append_left _ (List.mem_append_left _ (List.mem_append_right _ h)))))
theorem inX6 : ∀ w ∈ wsX60, w ∈ lw_tbl := fun w h => wsL_law_in w (inlX6 w h)
theorem inlX7 : ∀ w ∈ wsX70, w ∈ wsL_law := fun _ h => List.mem_append_left _ (List.mem_append_left _ (List.mem_append_left _ (List.mem_append_left _ (List.mem_append_right _ h))))
theorem inX7 : ∀ w ∈ wsX70, w ∈ lw_tbl := fun w h => wsL_law_in w (inlX7 w h)
theorem inlX8 : ∀ w ∈ wsX80, w ∈ wsL_law := fun _ h => List.mem_append_left _ (List.mem_append_left _ (List.mem_append_left _ (List.mem_append_left _ (List.mem_append_left _ (List.mem_append_left _ (List.mem_append_left _ (List.mem_append_right _ h)))))))
theorem inX8 : ∀ w ∈ wsX80, w ∈ lw_tbl := fun w h => wsL_law_in w (inlX8 w h)
theorem inlX9 : ∀ w ∈ wsX90, w ∈ wsL_law := fun _ h => List.mem_append_left _ (List.mem_append_left _ (List.mem_append_left _ (List.mem_append_left _ (List.mem_append_left _ (List.mem_append_left _ (List.mem_append_left _ (List.mem_append_left _ (List.mem_append_left _ (List.mem_append_left _ (List.mem_append_left _ (List.mem_append_right _ h)))))))))))
theorem inX9 : ∀ w ∈ wsX90, w ∈ lw_tbl := fun w h => wsL_law_in w (inlX9 w h)
theorem inlX10 : ∀ w ∈ wsX100, w ∈ wsL_law := fun _ h => List.mem_append_left _ (List.mem_append_left _ (List.mem_append_left _ (List.mem_append_left _ (List.mem_append_left _ (List.mem_append_left _ (List.mem_append_left _ (List.mem_append_left _ (List.mem_append_left _ (List.mem_append_left _ (List.mem_append_right _ h))))))))))
theorem inX10 : ∀ w ∈ wsX100, w ∈ lw_tbl := fun w h => wsL_law_in w (inlX10 w h)
theorem inJ11 : ∀ w ∈ wsJ110, w ∈ lw_tbl := by decide +kernel
theorem inJ6 : ∀ w ∈ wsJ60, w ∈ lw_tbl := by decide +kernel
theorem inJ9 : ∀ w ∈ wsJ90, w ∈ lw_tbl := by decide +kernel
theorem inJ0 : ∀ w ∈ wsJ00, w ∈ lw_tbl := by decide +kernel
theorem inJ1 : ∀ w ∈ wsJ10, w ∈ lw_tbl := by decide +kernel
theorem inJ2 : ∀ w ∈ wsJ20, w ∈ lw_tbl := by decide +kernel
theorem inJ10 : ∀ w ∈ wsJ100, w ∈ lw_tbl := by decide +kernel
theorem inJ3 : ∀ w ∈ wsJ30, w ∈ lw_tbl := by decide +kernel
set_option maxRecDepth 20000 in
theorem ggX0_init_X6_init : GoodIn wsX0_init wsX6_init := goodIn_r _ [3, 4, 5, 6] (by decide +kernel) (by decide +kernel)
set_option maxRecDepth 20000 in
theorem gX0_init_X6_init_n3 : GoodIn wsX0_init (wsX6_init) := ggX0_init_X6_init
theorem dX0_init_0 : decode cX0_init 0 = .ok (.aload_n 0, 1) := by decide +kernel
theorem dX0_init_1 : decode cX0_init 1 = .ok (.invokespecial 3, 3) := by decide +kernel
theorem dX0_init_4 : decode cX0_init 4 = .ok (.return_, 1) := by decide +kernel
theorem dX0_number_0 : decode cX0_number 0 = .ok (.iconst 2, 1) := by decide +kernel
theorem dX0_number_1 : decode cX0_number 1 = .ok (.ireturn, 1) := by decide +kernel
theorem dX0_plainBad_0 : decode cX0_plainBad 0 = .ok (.iload_n 1, 1) := by decide +kernel
theorem dX0_plainBad_1 : decode cX0_plainBad 1 = .ok (.iconst 3, 1) := by decide +kernel
theorem dX0_plainBad_2 : decode cX0_plainBad 2 = .ok (.if_icmp .ne 9, 3) := by decide +kernel
theorem dX0_plainBad_5 : decode cX0_plainBad 5 = .ok (.iconst 2, 1) := by decide +kernel
theorem dX0_plainBad_6 : decode cX0_plainBad 6 = .ok (.iload_n 2, 1) := by decide +kernel
theorem dX0_plainBad_7 : decode cX0_plainBad 7 = .ok (.imul, 1) := by decide +kernel
theorem dX0_plainBad_8 : decode cX0_plainBad 8 = .ok (.goto 4, 3) := by decide +kernel
theorem dX0_plainBad_11 : decode cX0_plainBad 11 = .ok (.iload_n 2, 1) := by decide +kernel
theorem dX0_plainBad_12 : decode cX0_plainBad 12 = .ok (.ireturn, 1) := by decide +kernel
theorem dX0_practised_0 : decode cX0_practised 0 = .ok (.iload_n 1, 1) := by decide +kernel
theorem dX0_practised_1 : decode cX0_practised 1 = .ok (.bipush 9, 2) := by decide +kernel
theorem dX0_practised_3 : decode cX0_practised 3 = .ok (.if_icmp .ge 9, 3) := by decide +kernel
theorem dX0_practised_6 : decode cX0_practised 6 = .ok (.iload_n 1, 1) := by decide +kernel
theorem dX0_practised_7 : decode cX0_practised 7 = .ok (.iconst 1, 1) := by decide +kernel
theorem dX0_practised_8 : decode cX0_practised 8 = .ok (.iadd, 1) := by decide +kernel
theorem dX0_practised_9 : decode cX0_practised 9 = .ok (.goto 5, 3) := by decide +kernel
theorem dX0_practised_12 : decode cX0_practised 12 = .ok (.bipush 9, 2) := by decide +kernel
theorem dX0_practised_14 : decode cX0_practised 14 = .ok (.ireturn, 1) := by decide +kernel
theorem dX1_init_0 : decode cX1_init 0 = .ok (.aload_n 0, 1) := by decide +kernel
theorem dX1_init_1 : decode cX1_init 1 = .ok (.invokespecial 3, 3) := by decide +kernel
theorem dX1_init_4 : decode cX1_init 4 = .ok (.aload_n 0, 1) := by decide +kernel
theorem dX1_init_5 : decode cX1_init 5 = .ok (.iconst 4, 1) := by decide +kernel
theorem dX1_init_6 : decode cX1_init 6 = .ok (.newarray .int, 2) := by decide +kernel
theorem dX1_init_8 : decode cX1_init 8 = .ok (.putfield 9, 3) := by decide +kernel
theorem dX1_init_11 : decode cX1_init 11 = .ok (.aload_n 0, 1) := by decide +kernel
theorem dX1_init_12 : decode cX1_init 12 = .ok (.bipush 16, 2) := by decide +kernel
theorem dX1_init_14 : decode cX1_init 14 = .ok (.newarray .int, 2) := by decide +kernel
theorem dX1_init_16 : decode cX1_init 16 = .ok (.putfield 15, 3) := by decide +kernel
theorem dX1_init_19 : decode cX1_init 19 = .ok (.aload_n 0, 1) := by decide +kernel
theorem dX1_init_20 : decode cX1_init 20 = .ok (.iconst 4, 1) := by decide +kernel
theorem dX1_init_21 : decode cX1_init 21 = .ok (.newarray .int, 2) := by decide +kernel
theorem dX1_init_23 : decode cX1_init 23 = .ok (.putfield 18, 3) := by decide +kernel
theorem dX1_init_26 : decode cX1_init 26 = .ok (.aload_n 0, 1) := by decide +kernel
theorem dX1_init_27 : decode cX1_init 27 = .ok (.iconst 4, 1) := by decide +kernel
theorem dX1_init_28 : decode cX1_init 28 = .ok (.newarray .int, 2) := by decide +kernel
theorem dX1_init_30 : decode cX1_init 30 = .ok (.putfield 21, 3) := by decide +kernel
theorem dX1_init_33 : decode cX1_init 33 = .ok (.aload_n 0, 1) := by decide +kernel
theorem dX1_init_34 : decode cX1_init 34 = .ok (.iconst 4, 1) := by decide +kernel
theorem dX1_init_35 : decode cX1_init 35 = .ok (.newarray .int, 2) := by decide +kernel
theorem dX1_init_37 : decode cX1_init 37 = .ok (.putfield 24, 3) := by decide +kernel
theorem dX1_init_40 : decode cX1_init 40 = .ok (.aload_n 0, 1) := by decide +kernel
theorem dX1_init_41 : decode cX1_init 41 = .ok (.iconst 5, 1) := by decide +kernel
theorem dX1_init_42 : decode cX1_init 42 = .ok (.newarray .int, 2) := by decide +kernel
theorem dX1_init_44 : decode cX1_init 44 = .ok (.putfield 27, 3) := by decide +kernel
theorem dX1_init_47 : decode cX1_init 47 = .ok (.aload_n 0, 1) := by decide +kernel
theorem dX1_init_48 : decode cX1_init 48 = .ok (.aload_n 1, 1) := by decide +kernel
theorem dX1_init_49 : decode cX1_init 49 = .ok (.putfield 30, 3) := by decide +kernel
theorem dX1_init_52 : decode cX1_init 52 = .ok (.return_, 1) := by decide +kernel
set_option maxRecDepth 20000 in
theorem ggX1_readFrom_X5_singersEnd : GoodIn wsX1_readFrom wsX5_singersEnd := goodIn_r _ [16, 17, 18, 19, 20, 15, 21, 22, 142, 143] (by decide +kernel) (by decide +kernel)
set_option maxRecDepth 20000 in
theorem gX1_readFrom_X5_singersEnd : GoodIn wsX1_readFrom (wsV RX1 34 RX5 yX5_singersEnd wsX5_singersEnd) := goodIn_app (goodIn_of _ (by decide +kernel)) ggX1_readFrom_X5_singersEnd
set_option maxRecDepth 20000 in
theorem ggX1_readFrom_X1_readSinger : GoodIn wsX1_readFrom wsX1_readSinger := goodIn_r _ [27, 28, 29, 30, 31, 32, 33, 34, 35, 26, 36, 5, 37, 38, 39, 15, 40, 18, 19, 20, 21, 17, 22, 41, 42, 43, 44, 45, 46, 47, 48, 49, 50, 51, 52, 53, 54, 55, 56, 57, 58, 59, 60, 61, 62, 63, 64, 65, 66, 67, 68, 69, 70, 71, 72, 7, 3, 8, 73, 2, 4, 74, 75, 76, 77, 78, 79, 80, 81, 82, 83, 84, 85, 86, 87, 88, 89, 90, 91, 92, 93, 94, 95, 96, 97, 98, 99, 100, 101, 102, 103, 104, 105, 106, 107, 108, 109, 110, 111, 112, 113, 114, 115, 116, 117, 118, 119, 120, 121, 122, 123, 124, 125, 126, 127, 128, 129, 130, 131, 132, 133, 134, 135, 136, 137, 138, 139, 140, 141, 142, 143] (by decide +kernel) (by decide +kernel)
set_option maxRecDepth 20000 in
theorem gX1_readFrom_X1_readSinger : GoodIn wsX1_readFrom (wsV RX1 62 RX1 yX1_readSinger wsX1_readSinger) := goodIn_app (goodIn_of _ (by decide +kernel)) ggX1_readFrom_X1_readSinger
set_option maxRecDepth 20000 in
theorem ggX1_readFrom_X5_digitAt : GoodIn wsX1_readFrom wsX5_digitAt := goodIn_r _ [131, 18, 19, 20, 15, 21, 17, 22, 142, 143] (by decide +kernel) (by decide +kernel)
set_option maxRecDepth 20000 in
theorem gX1_readFrom_X5_digitAt : GoodIn wsX1_readFrom (wsV RX1 66 RX5 yX5_digitAt wsX5_digitAt) := goodIn_app (goodIn_of _ (by decide +kernel)) ggX1_readFrom_X5_digitAt
theorem dX1_readFrom_0 : decode cX1_readFrom 0 = .ok (.aload_n 1, 1) := by decide +kernel
theorem dX1_readFrom_1 : decode cX1_readFrom 1 = .ok (.invokevirtual 34, 3) := by decide +kernel
theorem dX1_readFrom_4 : decode cX1_readFrom 4 = .ok (.istore_n 2, 1) := by decide +kernel
theorem dX1_readFrom_5 : decode cX1_readFrom 5 = .ok (.aload_n 0, 1) := by decide +kernel
theorem dX1_readFrom_6 : decode cX1_readFrom 6 = .ok (.iconst 4, 1) := by decide +kernel
theorem dX1_readFrom_7 : decode cX1_readFrom 7 = .ok (.iload_n 2, 1) := by decide +kernel
theorem dX1_readFrom_8 : decode cX1_readFrom 8 = .ok (.iconst 1, 1) := by decide +kernel
theorem dX1_readFrom_9 : decode cX1_readFrom 9 = .ok (.iadd, 1) := by decide +kernel
theorem dX1_readFrom_10 : decode cX1_readFrom 10 = .ok (.bipush 6, 2) := by decide +kernel
theorem dX1_readFrom_12 : decode cX1_readFrom 12 = .ok (.idiv, 1) := by decide +kernel
theorem dX1_readFrom_13 : decode cX1_readFrom 13 = .ok (.invokestatic 40, 3) := by decide +kernel
theorem dX1_readFrom_16 : decode cX1_readFrom 16 = .ok (.putfield 46, 3) := by decide +kernel
theorem dX1_readFrom_19 : decode cX1_readFrom 19 = .ok (.aload_n 0, 1) := by decide +kernel
theorem dX1_readFrom_20 : decode cX1_readFrom 20 = .ok (.iconst 0, 1) := by decide +kernel
theorem dX1_readFrom_21 : decode cX1_readFrom 21 = .ok (.iconst 5, 1) := by decide +kernel
theorem dX1_readFrom_22 : decode cX1_readFrom 22 = .ok (.aload_n 1, 1) := by decide +kernel
theorem dX1_readFrom_23 : decode cX1_readFrom 23 = .ok (.getfield 50, 3) := by decide +kernel
theorem dX1_readFrom_26 : decode cX1_readFrom 26 = .ok (.iload_n 2, 1) := by decide +kernel
theorem dX1_readFrom_27 : decode cX1_readFrom 27 = .ok (.isub, 1) := by decide +kernel
theorem dX1_readFrom_28 : decode cX1_readFrom 28 = .ok (.iconst 1, 1) := by decide +kernel
theorem dX1_readFrom_29 : decode cX1_readFrom 29 = .ok (.isub, 1) := by decide +kernel
theorem dX1_readFrom_30 : decode cX1_readFrom 30 = .ok (.invokestatic 40, 3) := by decide +kernel
theorem dX1_readFrom_33 : decode cX1_readFrom 33 = .ok (.invokestatic 53, 3) := by decide +kernel
theorem dX1_readFrom_36 : decode cX1_readFrom 36 = .ok (.putfield 56, 3) := by decide +kernel
theorem dX1_readFrom_39 : decode cX1_readFrom 39 = .ok (.aload_n 0, 1) := by decide +kernel
theorem dX1_readFrom_40 : decode cX1_readFrom 40 = .ok (.iconst 0, 1) := by decide +kernel
theorem dX1_readFrom_41 : decode cX1_readFrom 41 = .ok (.putfield 59, 3) := by decide +kernel
theorem dX1_readFrom_44 : decode cX1_readFrom 44 = .ok (.iconst 0, 1) := by decide +kernel
theorem dX1_readFrom_45 : decode cX1_readFrom 45 = .ok (.istore_n 3, 1) := by decide +kernel
theorem dX1_readFrom_46 : decode cX1_readFrom 46 = .ok (.iload_n 3, 1) := by decide +kernel
theorem dX1_readFrom_47 : decode cX1_readFrom 47 = .ok (.aload_n 0, 1) := by decide +kernel
theorem dX1_readFrom_48 : decode cX1_readFrom 48 = .ok (.getfield 46, 3) := by decide +kernel
theorem dX1_readFrom_51 : decode cX1_readFrom 51 = .ok (.if_icmp .ge 15, 3) := by decide +kernel
theorem dX1_readFrom_54 : decode cX1_readFrom 54 = .ok (.aload_n 0, 1) := by decide +kernel
theorem dX1_readFrom_55 : decode cX1_readFrom 55 = .ok (.aload_n 1, 1) := by decide +kernel
theorem dX1_readFrom_56 : decode cX1_readFrom 56 = .ok (.iload_n 3, 1) := by decide +kernel
theorem dX1_readFrom_57 : decode cX1_readFrom 57 = .ok (.invokevirtual 62, 3) := by decide +kernel
theorem dX1_readFrom_60 : decode cX1_readFrom 60 = .ok (.iinc 3 1, 3) := by decide +kernel
theorem dX1_readFrom_63 : decode cX1_readFrom 63 = .ok (.goto (-17), 3) := by decide +kernel
theorem dX1_readFrom_66 : decode cX1_readFrom 66 = .ok (.iconst 0, 1) := by decide +kernel
theorem dX1_readFrom_67 : decode cX1_readFrom 67 = .ok (.istore_n 3, 1) := by decide +kernel
theorem dX1_readFrom_68 : decode cX1_readFrom 68 = .ok (.iload_n 3, 1) := by decide +kernel
theorem dX1_readFrom_69 : decode cX1_readFrom 69 = .ok (.aload_n 0, 1) := by decide +kernel
theorem dX1_readFrom_70 : decode cX1_readFrom 70 = .ok (.getfield 56, 3) := by decide +kernel
theorem dX1_readFrom_73 : decode cX1_readFrom 73 = .ok (.if_icmp .ge 24, 3) := by decide +kernel
theorem dX1_readFrom_76 : decode cX1_readFrom 76 = .ok (.aload_n 0, 1) := by decide +kernel
theorem dX1_readFrom_77 : decode cX1_readFrom 77 = .ok (.getfield 27, 3) := by decide +kernel
theorem dX1_readFrom_80 : decode cX1_readFrom 80 = .ok (.iload_n 3, 1) := by decide +kernel
theorem dX1_readFrom_81 : decode cX1_readFrom 81 = .ok (.aload_n 1, 1) := by decide +kernel
theorem dX1_readFrom_82 : decode cX1_readFrom 82 = .ok (.iload_n 2, 1) := by decide +kernel
theorem dX1_readFrom_83 : decode cX1_readFrom 83 = .ok (.iconst 1, 1) := by decide +kernel
theorem dX1_readFrom_84 : decode cX1_readFrom 84 = .ok (.iadd, 1) := by decide +kernel
theorem dX1_readFrom_85 : decode cX1_readFrom 85 = .ok (.iload_n 3, 1) := by decide +kernel
theorem dX1_readFrom_86 : decode cX1_readFrom 86 = .ok (.iadd, 1) := by decide +kernel
theorem dX1_readFrom_87 : decode cX1_readFrom 87 = .ok (.invokevirtual 66, 3) := by decide +kernel
theorem dX1_readFrom_90 : decode cX1_readFrom 90 = .ok (.iastore, 1) := by decide +kernel
theorem dX1_readFrom_91 : decode cX1_readFrom 91 = .ok (.iinc 3 1, 3) := by decide +kernel
theorem dX1_readFrom_94 : decode cX1_readFrom 94 = .ok (.goto (-26), 3) := by decide +kernel
theorem dX1_readFrom_97 : decode cX1_readFrom 97 = .ok (.return_, 1) := by decide +kernel
set_option maxRecDepth 20000 in
theorem ggX1_readSinger_X1_hasSinger : GoodIn wsX1_readSinger wsX1_hasSinger := goodIn_r _ [10, 11, 119, 120, 121, 122, 123, 124, 125, 126, 127, 128] (by decide +kernel) (by decide +kernel)
set_option maxRecDepth 20000 in
theorem gX1_readSinger_X1_hasSinger : GoodIn wsX1_readSinger (wsV RX1 70 RX1 yX1_hasSinger wsX1_hasSinger) := goodIn_app (goodIn_of _ (by decide +kernel)) ggX1_readSinger_X1_hasSinger
set_option maxRecDepth 20000 in
theorem ggX1_readSinger_X5_kindAt : GoodIn wsX1_readSinger wsX5_kindAt := goodIn_r _ [16, 17, 18, 19, 15, 20, 21, 22, 23, 24, 25, 26, 27, 28, 29, 30, 31, 32, 33, 34, 35, 36, 37, 38, 39, 40, 41, 42, 43, 44, 45, 46, 47, 48, 49, 50, 51, 52, 53, 54, 55, 56, 57, 58, 59, 60, 61, 62, 63, 64, 65, 66, 67, 68, 69, 70, 71, 72, 73, 74, 75, 76, 77, 78, 79, 80, 81, 82, 83, 84, 85, 86, 87, 88, 89, 90, 91, 92, 93, 94, 95, 96, 97, 98, 99, 100, 101, 102, 103, 104, 105, 106, 107, 108, 109, 110, 111, 112, 113, 114, 129, 130] (by decide +kernel) (by decide +kernel)
set_option maxRecDepth 20000 in
theorem gX1_readSinger_X5_kindAt : GoodIn wsX1_readSinger (wsV RX1 74 RX5 yX5_kindAt wsX5_kindAt) := goodIn_app (goodIn_of _ (by decide +kernel)) ggX1_readSinger_X5_kindAt
set_option maxRecDepth 20000 in
theorem ggX1_readSinger_X5_digitAt : GoodIn wsX1_readSinger wsX5_digitAt := goodIn_r _ [118, 17, 18, 19, 15, 20, 21, 22, 129, 130] (by decide +kernel) (by decide +kernel)
set_option maxRecDepth 20000 in
theorem gX1_readSinger_X5_digitAt : GoodIn wsX1_readSinger (wsV RX1 66 RX5 yX5_digitAt wsX5_digitAt) := goodIn_app (goodIn_of _ (by decide +kernel)) ggX1_readSinger_X5_digitAt
theorem dX1_readSinger_0 : decode cX1_readSinger 0 = .ok (.aload_n 0, 1) := by decide +kernel
theorem dX1_readSinger_1 : decode cX1_readSinger 1 = .ok (.iload_n 2, 1) := by decide +kernel
theorem dX1_readSinger_2 : decode cX1_readSinger 2 = .ok (.invokevirtual 70, 3) := by decide +kernel
theorem dX1_readSinger_5 : decode cX1_readSinger 5 = .ok (.ifCond .ne 4, 3) := by decide +kernel
theorem dX1_readSinger_8 : decode cX1_readSinger 8 = .ok (.return_, 1) := by decide +kernel
theorem dX1_readSinger_9 : decode cX1_readSinger 9 = .ok (.bipush 6, 2) := by decide +kernel
theorem dX1_readSinger_11 : decode cX1_readSinger 11 = .ok (.iload_n 2, 1) := by decide +kernel
theorem dX1_readSinger_12 : decode cX1_readSinger 12 = .ok (.imul, 1) := by decide +kernel
theorem dX1_readSinger_13 : decode cX1_readSinger 13 = .ok (.istore_n 3, 1) := by decide +kernel
theorem dX1_readSinger_14 : decode cX1_readSinger 14 = .ok (.aload_n 0, 1) := by decide +kernel
theorem dX1_readSinger_15 : decode cX1_readSinger 15 = .ok (.getfield 9, 3) := by decide +kernel
theorem dX1_readSinger_18 : decode cX1_readSinger 18 = .ok (.iload_n 2, 1) := by decide +kernel
theorem dX1_readSinger_19 : decode cX1_readSinger 19 = .ok (.aload_n 1, 1) := by decide +kernel
theorem dX1_readSinger_20 : decode cX1_readSinger 20 = .ok (.iload_n 3, 1) := by decide +kernel
theorem dX1_readSinger_21 : decode cX1_readSinger 21 = .ok (.invokevirtual 74, 3) := by decide +kernel
theorem dX1_readSinger_24 : decode cX1_readSinger 24 = .ok (.iastore, 1) := by decide +kernel
theorem dX1_readSinger_25 : decode cX1_readSinger 25 = .ok (.iconst 0, 1) := by decide +kernel
theorem dX1_readSinger_26 : decode cX1_readSinger 26 = .ok (.istore 4, 2) := by decide +kernel
theorem dX1_readSinger_28 : decode cX1_readSinger 28 = .ok (.iload 4, 2) := by decide +kernel
theorem dX1_readSinger_30 : decode cX1_readSinger 30 = .ok (.iconst 4, 1) := by decide +kernel
theorem dX1_readSinger_31 : decode cX1_readSinger 31 = .ok (.if_icmp .ge 30, 3) := by decide +kernel
theorem dX1_readSinger_34 : decode cX1_readSinger 34 = .ok (.aload_n 0, 1) := by decide +kernel
theorem dX1_readSinger_35 : decode cX1_readSinger 35 = .ok (.getfield 15, 3) := by decide +kernel
theorem dX1_readSinger_38 : decode cX1_readSinger 38 = .ok (.iconst 4, 1) := by decide +kernel
theorem dX1_readSinger_39 : decode cX1_readSinger 39 = .ok (.iload_n 2, 1) := by decide +kernel
theorem dX1_readSinger_40 : decode cX1_readSinger 40 = .ok (.imul, 1) := by decide +kernel
theorem dX1_readSinger_41 : decode cX1_readSinger 41 = .ok (.iload 4, 2) := by decide +kernel
theorem dX1_readSinger_43 : decode cX1_readSinger 43 = .ok (.iadd, 1) := by decide +kernel
theorem dX1_readSinger_44 : decode cX1_readSinger 44 = .ok (.aload_n 1, 1) := by decide +kernel
theorem dX1_readSinger_45 : decode cX1_readSinger 45 = .ok (.iload_n 3, 1) := by decide +kernel
theorem dX1_readSinger_46 : decode cX1_readSinger 46 = .ok (.iconst 1, 1) := by decide +kernel
theorem dX1_readSinger_47 : decode cX1_readSinger 47 = .ok (.iadd, 1) := by decide +kernel
theorem dX1_readSinger_48 : decode cX1_readSinger 48 = .ok (.iload 4, 2) := by decide +kernel
theorem dX1_readSinger_50 : decode cX1_readSinger 50 = .ok (.iadd, 1) := by decide +kernel
theorem dX1_readSinger_51 : decode cX1_readSinger 51 = .ok (.invokevirtual 66, 3) := by decide +kernel
theorem dX1_readSinger_54 : decode cX1_readSinger 54 = .ok (.iastore, 1) := by decide +kernel
theorem dX1_readSinger_55 : decode cX1_readSinger 55 = .ok (.iinc 4 1, 3) := by decide +kernel
theorem dX1_readSinger_58 : decode cX1_readSinger 58 = .ok (.goto (-30), 3) := by decide +kernel
theorem dX1_readSinger_61 : decode cX1_readSinger 61 = .ok (.aload_n 0, 1) := by decide +kernel
theorem dX1_readSinger_62 : decode cX1_readSinger 62 = .ok (.getfield 18, 3) := by decide +kernel
theorem dX1_readSinger_65 : decode cX1_readSinger 65 = .ok (.iload_n 2, 1) := by decide +kernel
theorem dX1_readSinger_66 : decode cX1_readSinger 66 = .ok (.iconst 0, 1) := by decide +kernel
theorem dX1_readSinger_67 : decode cX1_readSinger 67 = .ok (.iastore, 1) := by decide +kernel
theorem dX1_readSinger_68 : decode cX1_readSinger 68 = .ok (.aload_n 0, 1) := by decide +kernel
theorem dX1_readSinger_69 : decode cX1_readSinger 69 = .ok (.getfield 21, 3) := by decide +kernel
theorem dX1_readSinger_72 : decode cX1_readSinger 72 = .ok (.iload_n 2, 1) := by decide +kernel
theorem dX1_readSinger_73 : decode cX1_readSinger 73 = .ok (.iconst 0, 1) := by decide +kernel
theorem dX1_readSinger_74 : decode cX1_readSinger 74 = .ok (.iastore, 1) := by decide +kernel
theorem dX1_readSinger_75 : decode cX1_readSinger 75 = .ok (.aload_n 0, 1) := by decide +kernel
theorem dX1_readSinger_76 : decode cX1_readSinger 76 = .ok (.getfield 24, 3) := by decide +kernel
theorem dX1_readSinger_79 : decode cX1_readSinger 79 = .ok (.iload_n 2, 1) := by decide +kernel
theorem dX1_readSinger_80 : decode cX1_readSinger 80 = .ok (.iconst 0, 1) := by decide +kernel
theorem dX1_readSinger_81 : decode cX1_readSinger 81 = .ok (.iastore, 1) := by decide +kernel
theorem dX1_readSinger_82 : decode cX1_readSinger 82 = .ok (.return_, 1) := by decide +kernel
set_option maxRecDepth 20000 in
theorem ggX1_takeFrom_X9_copyRow : GoodIn wsX1_takeFrom wsX9_copyRow := goodIn_r _ [12, 13, 14, 15, 16, 17, 18, 19, 20] (by decide +kernel) (by decide +kernel)
set_option maxRecDepth 20000 in
theorem gX1_takeFrom_X9_copyRow_n77 : GoodIn wsX1_takeFrom (wsX9_copyRow) := ggX1_takeFrom_X9_copyRow
theorem dX1_takeFrom_0 : decode cX1_takeFrom 0 = .ok (.aload_n 1, 1) := by decide +kernel
theorem dX1_takeFrom_1 : decode cX1_takeFrom 1 = .ok (.getfield 9, 3) := by decide +kernel
theorem dX1_takeFrom_4 : decode cX1_takeFrom 4 = .ok (.aload_n 0, 1) := by decide +kernel
theorem dX1_takeFrom_5 : decode cX1_takeFrom 5 = .ok (.getfield 9, 3) := by decide +kernel
theorem dX1_takeFrom_8 : decode cX1_takeFrom 8 = .ok (.invokestatic 77, 3) := by decide +kernel
theorem dX1_takeFrom_11 : decode cX1_takeFrom 11 = .ok (.aload_n 1, 1) := by decide +kernel
theorem dX1_takeFrom_12 : decode cX1_takeFrom 12 = .ok (.getfield 15, 3) := by decide +kernel
theorem dX1_takeFrom_15 : decode cX1_takeFrom 15 = .ok (.aload_n 0, 1) := by decide +kernel
theorem dX1_takeFrom_16 : decode cX1_takeFrom 16 = .ok (.getfield 15, 3) := by decide +kernel
theorem dX1_takeFrom_19 : decode cX1_takeFrom 19 = .ok (.invokestatic 77, 3) := by decide +kernel
theorem dX1_takeFrom_22 : decode cX1_takeFrom 22 = .ok (.aload_n 1, 1) := by decide +kernel
theorem dX1_takeFrom_23 : decode cX1_takeFrom 23 = .ok (.getfield 18, 3) := by decide +kernel
theorem dX1_takeFrom_26 : decode cX1_takeFrom 26 = .ok (.aload_n 0, 1) := by decide +kernel
theorem dX1_takeFrom_27 : decode cX1_takeFrom 27 = .ok (.getfield 18, 3) := by decide +kernel
theorem dX1_takeFrom_30 : decode cX1_takeFrom 30 = .ok (.invokestatic 77, 3) := by decide +kernel
theorem dX1_takeFrom_33 : decode cX1_takeFrom 33 = .ok (.aload_n 1, 1) := by decide +kernel
theorem dX1_takeFrom_34 : decode cX1_takeFrom 34 = .ok (.getfield 21, 3) := by decide +kernel
theorem dX1_takeFrom_37 : decode cX1_takeFrom 37 = .ok (.aload_n 0, 1) := by decide +kernel
theorem dX1_takeFrom_38 : decode cX1_takeFrom 38 = .ok (.getfield 21, 3) := by decide +kernel
theorem dX1_takeFrom_41 : decode cX1_takeFrom 41 = .ok (.invokestatic 77, 3) := by decide +kernel
theorem dX1_takeFrom_44 : decode cX1_takeFrom 44 = .ok (.aload_n 1, 1) := by decide +kernel
theorem dX1_takeFrom_45 : decode cX1_takeFrom 45 = .ok (.getfield 24, 3) := by decide +kernel
theorem dX1_takeFrom_48 : decode cX1_takeFrom 48 = .ok (.aload_n 0, 1) := by decide +kernel
theorem dX1_takeFrom_49 : decode cX1_takeFrom 49 = .ok (.getfield 24, 3) := by decide +kernel
theorem dX1_takeFrom_52 : decode cX1_takeFrom 52 = .ok (.invokestatic 77, 3) := by decide +kernel
theorem dX1_takeFrom_55 : decode cX1_takeFrom 55 = .ok (.aload_n 1, 1) := by decide +kernel
theorem dX1_takeFrom_56 : decode cX1_takeFrom 56 = .ok (.getfield 27, 3) := by decide +kernel
theorem dX1_takeFrom_59 : decode cX1_takeFrom 59 = .ok (.aload_n 0, 1) := by decide +kernel
theorem dX1_takeFrom_60 : decode cX1_takeFrom 60 = .ok (.getfield 27, 3) := by decide +kernel
theorem dX1_takeFrom_63 : decode cX1_takeFrom 63 = .ok (.invokestatic 77, 3) := by decide +kernel
theorem dX1_takeFrom_66 : decode cX1_takeFrom 66 = .ok (.aload_n 0, 1) := by decide +kernel
theorem dX1_takeFrom_67 : decode cX1_takeFrom 67 = .ok (.aload_n 1, 1) := by decide +kernel
theorem dX1_takeFrom_68 : decode cX1_takeFrom 68 = .ok (.getfield 46, 3) := by decide +kernel
theorem dX1_takeFrom_71 : decode cX1_takeFrom 71 = .ok (.putfield 46, 3) := by decide +kernel
theorem dX1_takeFrom_74 : decode cX1_takeFrom 74 = .ok (.aload_n 0, 1) := by decide +kernel
theorem dX1_takeFrom_75 : decode cX1_takeFrom 75 = .ok (.aload_n 1, 1) := by decide +kernel
theorem dX1_takeFrom_76 : decode cX1_takeFrom 76 = .ok (.getfield 56, 3) := by decide +kernel
theorem dX1_takeFrom_79 : decode cX1_takeFrom 79 = .ok (.putfield 56, 3) := by decide +kernel
theorem dX1_takeFrom_82 : decode cX1_takeFrom 82 = .ok (.aload_n 0, 1) := by decide +kernel
theorem dX1_takeFrom_83 : decode cX1_takeFrom 83 = .ok (.aload_n 1, 1) := by decide +kernel
theorem dX1_takeFrom_84 : decode cX1_takeFrom 84 = .ok (.getfield 59, 3) := by decide +kernel
theorem dX1_takeFrom_87 : decode cX1_takeFrom 87 = .ok (.putfield 59, 3) := by decide +kernel
theorem dX1_takeFrom_90 : decode cX1_takeFrom 90 = .ok (.return_, 1) := by decide +kernel
theorem dX1_isEmpty_0 : decode cX1_isEmpty 0 = .ok (.aload_n 0, 1) := by decide +kernel
theorem dX1_isEmpty_1 : decode cX1_isEmpty 1 = .ok (.getfield 46, 3) := by decide +kernel
theorem dX1_isEmpty_4 : decode cX1_isEmpty 4 = .ok (.ifCond .ne 7, 3) := by decide +kernel
theorem dX1_isEmpty_7 : decode cX1_isEmpty 7 = .ok (.iconst 1, 1) := by decide +kernel
theorem dX1_isEmpty_8 : decode cX1_isEmpty 8 = .ok (.goto 4, 3) := by decide +kernel
theorem dX1_isEmpty_11 : decode cX1_isEmpty 11 = .ok (.iconst 0, 1) := by decide +kernel
theorem dX1_isEmpty_12 : decode cX1_isEmpty 12 = .ok (.ireturn, 1) := by decide +kernel
theorem dX1_hasSinger_0 : decode cX1_hasSinger 0 = .ok (.iload_n 1, 1) := by decide +kernel
theorem dX1_hasSinger_1 : decode cX1_hasSinger 1 = .ok (.ifCond .lt 20, 3) := by decide +kernel
theorem dX1_hasSinger_4 : decode cX1_hasSinger 4 = .ok (.iload_n 1, 1) := by decide +kernel
theorem dX1_hasSinger_5 : decode cX1_hasSinger 5 = .ok (.aload_n 0, 1) := by decide +kernel
theorem dX1_hasSinger_6 : decode cX1_hasSinger 6 = .ok (.getfield 46, 3) := by decide +kernel
theorem dX1_hasSinger_9 : decode cX1_hasSinger 9 = .ok (.if_icmp .ge 12, 3) := by decide +kernel
theorem dX1_hasSinger_12 : decode cX1_hasSinger 12 = .ok (.iload_n 1, 1) := by decide +kernel
theorem dX1_hasSinger_13 : decode cX1_hasSinger 13 = .ok (.iconst 4, 1) := by decide +kernel
theorem dX1_hasSinger_14 : decode cX1_hasSinger 14 = .ok (.if_icmp .ge 7, 3) := by decide +kernel
theorem dX1_hasSinger_17 : decode cX1_hasSinger 17 = .ok (.iconst 1, 1) := by decide +kernel
theorem dX1_hasSinger_18 : decode cX1_hasSinger 18 = .ok (.goto 4, 3) := by decide +kernel
theorem dX1_hasSinger_21 : decode cX1_hasSinger 21 = .ok (.iconst 0, 1) := by decide +kernel
theorem dX1_hasSinger_22 : decode cX1_hasSinger 22 = .ok (.ireturn, 1) := by decide +kernel
theorem dX1_hasWidow_0 : decode cX1_hasWidow 0 = .ok (.iload_n 1, 1) := by decide +kernel
theorem dX1_hasWidow_1 : decode cX1_hasWidow 1 = .ok (.ifCond .lt 20, 3) := by decide +kernel
theorem dX1_hasWidow_4 : decode cX1_hasWidow 4 = .ok (.iload_n 1, 1) := by decide +kernel
theorem dX1_hasWidow_5 : decode cX1_hasWidow 5 = .ok (.aload_n 0, 1) := by decide +kernel
theorem dX1_hasWidow_6 : decode cX1_hasWidow 6 = .ok (.getfield 56, 3) := by decide +kernel
theorem dX1_hasWidow_9 : decode cX1_hasWidow 9 = .ok (.if_icmp .ge 12, 3) := by decide +kernel
theorem dX1_hasWidow_12 : decode cX1_hasWidow 12 = .ok (.iload_n 1, 1) := by decide +kernel
theorem dX1_hasWidow_13 : decode cX1_hasWidow 13 = .ok (.iconst 5, 1) := by decide +kernel
theorem dX1_hasWidow_14 : decode cX1_hasWidow 14 = .ok (.if_icmp .ge 7, 3) := by decide +kernel
theorem dX1_hasWidow_17 : decode cX1_hasWidow 17 = .ok (.iconst 1, 1) := by decide +kernel
theorem dX1_hasWidow_18 : decode cX1_hasWidow 18 = .ok (.goto 4, 3) := by decide +kernel
theorem dX1_hasWidow_21 : decode cX1_hasWidow 21 = .ok (.iconst 0, 1) := by decide +kernel
theorem dX1_hasWidow_22 : decode cX1_hasWidow 22 = .ok (.ireturn, 1) := by decide +kernel
set_option maxRecDepth 20000 in
theorem ggX1_voice_X1_hasSinger : GoodIn wsX1_voice wsX1_hasSinger := goodIn_r _ [7, 8, 19, 20, 21, 22, 23, 24, 25, 26, 27, 28] (by decide +kernel) (by decide +kernel)
set_option maxRecDepth 20000 in
theorem gX1_voice_X1_hasSinger : GoodIn wsX1_voice (wsV RX1 70 RX1 yX1_hasSinger wsX1_hasSinger) := goodIn_app (goodIn_of _ (by decide +kernel)) ggX1_voice_X1_hasSinger
set_option maxRecDepth 20000 in
theorem ggX1_voice_X8_ofKind : GoodIn wsX1_voice wsX8_ofKind := goodIn_r _ [13, 14, 15, 16, 17, 18, 29, 30, 31, 32, 33] (by decide +kernel) (by decide +kernel)
set_option maxRecDepth 20000 in
theorem gX1_voice_X8_ofKind : GoodIn wsX1_voice (wsV RX1 81 RX8 yX8_ofKind wsX8_ofKind) := goodIn_app (goodIn_of _ (by decide +kernel)) ggX1_voice_X8_ofKind
theorem dX1_voice_0 : decode cX1_voice 0 = .ok (.aload_n 0, 1) := by decide +kernel
theorem dX1_voice_1 : decode cX1_voice 1 = .ok (.getfield 30, 3) := by decide +kernel
theorem dX1_voice_4 : decode cX1_voice 4 = .ok (.aload_n 0, 1) := by decide +kernel
theorem dX1_voice_5 : decode cX1_voice 5 = .ok (.iload_n 1, 1) := by decide +kernel
theorem dX1_voice_6 : decode cX1_voice 6 = .ok (.invokevirtual 70, 3) := by decide +kernel
theorem dX1_voice_9 : decode cX1_voice 9 = .ok (.ifCond .eq 12, 3) := by decide +kernel
theorem dX1_voice_12 : decode cX1_voice 12 = .ok (.aload_n 0, 1) := by decide +kernel
theorem dX1_voice_13 : decode cX1_voice 13 = .ok (.getfield 9, 3) := by decide +kernel
theorem dX1_voice_16 : decode cX1_voice 16 = .ok (.iload_n 1, 1) := by decide +kernel
theorem dX1_voice_17 : decode cX1_voice 17 = .ok (.iaload, 1) := by decide +kernel
theorem dX1_voice_18 : decode cX1_voice 18 = .ok (.goto 4, 3) := by decide +kernel
theorem dX1_voice_21 : decode cX1_voice 21 = .ok (.iconst 0, 1) := by decide +kernel
theorem dX1_voice_22 : decode cX1_voice 22 = .ok (.invokevirtual 81, 3) := by decide +kernel
theorem dX1_voice_25 : decode cX1_voice 25 = .ok (.areturn, 1) := by decide +kernel
set_option maxRecDepth 20000 in
theorem ggX1_coldOf_X1_hasSinger : GoodIn wsX1_coldOf wsX1_hasSinger := goodIn_r _ [6, 7, 8, 9, 10, 11, 12, 13, 14, 15, 16, 17] (by decide +kernel) (by decide +kernel)
set_option maxRecDepth 20000 in
theorem gX1_coldOf_X1_hasSinger : GoodIn wsX1_coldOf (wsV RX1 70 RX1 yX1_hasSinger wsX1_hasSinger) := goodIn_app (goodIn_of _ (by decide +kernel)) ggX1_coldOf_X1_hasSinger
theorem dX1_coldOf_0 : decode cX1_coldOf 0 = .ok (.aload_n 0, 1) := by decide +kernel
theorem dX1_coldOf_1 : decode cX1_coldOf 1 = .ok (.iload_n 1, 1) := by decide +kernel
theorem dX1_coldOf_2 : decode cX1_coldOf 2 = .ok (.invokevirtual 70, 3) := by decide +kernel
theorem dX1_coldOf_5 : decode cX1_coldOf 5 = .ok (.ifCond .eq 12, 3) := by decide +kernel
theorem dX1_coldOf_8 : decode cX1_coldOf 8 = .ok (.aload_n 0, 1) := by decide +kernel
theorem dX1_coldOf_9 : decode cX1_coldOf 9 = .ok (.getfield 18, 3) := by decide +kernel
theorem dX1_coldOf_12 : decode cX1_coldOf 12 = .ok (.iload_n 1, 1) := by decide +kernel
theorem dX1_coldOf_13 : decode cX1_coldOf 13 = .ok (.iaload, 1) := by decide +kernel
theorem dX1_coldOf_14 : decode cX1_coldOf 14 = .ok (.goto 4, 3) := by decide +kernel
theorem dX1_coldOf_17 : decode cX1_coldOf 17 = .ok (.iconst 0, 1) := by decide +kernel
theorem dX1_coldOf_18 : decode cX1_coldOf 18 = .ok (.ireturn, 1) := by decide +kernel
set_option maxRecDepth 20000 in
theorem ggX1_leftOf_X1_hasSinger : GoodIn wsX1_leftOf wsX1_hasSinger := goodIn_r _ [6, 7, 8, 9, 10, 11, 12, 13, 14, 15, 16, 17] (by decide +kernel) (by decide +kernel)
set_option maxRecDepth 20000 in
theorem gX1_leftOf_X1_hasSinger : GoodIn wsX1_leftOf (wsV RX1 70 RX1 yX1_hasSinger wsX1_hasSinger) := goodIn_app (goodIn_of _ (by decide +kernel)) ggX1_leftOf_X1_hasSinger
theorem dX1_leftOf_0 : decode cX1_leftOf 0 = .ok (.aload_n 0, 1) := by decide +kernel
theorem dX1_leftOf_1 : decode cX1_leftOf 1 = .ok (.iload_n 1, 1) := by decide +kernel
theorem dX1_leftOf_2 : decode cX1_leftOf 2 = .ok (.invokevirtual 70, 3) := by decide +kernel
theorem dX1_leftOf_5 : decode cX1_leftOf 5 = .ok (.ifCond .eq 12, 3) := by decide +kernel
theorem dX1_leftOf_8 : decode cX1_leftOf 8 = .ok (.aload_n 0, 1) := by decide +kernel
theorem dX1_leftOf_9 : decode cX1_leftOf 9 = .ok (.getfield 21, 3) := by decide +kernel
theorem dX1_leftOf_12 : decode cX1_leftOf 12 = .ok (.iload_n 1, 1) := by decide +kernel
theorem dX1_leftOf_13 : decode cX1_leftOf 13 = .ok (.iaload, 1) := by decide +kernel
theorem dX1_leftOf_14 : decode cX1_leftOf 14 = .ok (.goto 4, 3) := by decide +kernel
theorem dX1_leftOf_17 : decode cX1_leftOf 17 = .ok (.iconst 0, 1) := by decide +kernel
theorem dX1_leftOf_18 : decode cX1_leftOf 18 = .ok (.ireturn, 1) := by decide +kernel
set_option maxRecDepth 20000 in
theorem ggX1_honeyOf_X1_hasSinger : GoodIn wsX1_honeyOf wsX1_hasSinger := goodIn_r _ [6, 7, 8, 9, 10, 11, 12, 13, 14, 15, 16, 17] (by decide +kernel) (by decide +kernel)
set_option maxRecDepth 20000 in
theorem gX1_honeyOf_X1_hasSinger : GoodIn wsX1_honeyOf (wsV RX1 70 RX1 yX1_hasSinger wsX1_hasSinger) := goodIn_app (goodIn_of _ (by decide +kernel)) ggX1_honeyOf_X1_hasSinger
theorem dX1_honeyOf_0 : decode cX1_honeyOf 0 = .ok (.aload_n 0, 1) := by decide +kernel
theorem dX1_honeyOf_1 : decode cX1_honeyOf 1 = .ok (.iload_n 1, 1) := by decide +kernel
theorem dX1_honeyOf_2 : decode cX1_honeyOf 2 = .ok (.invokevirtual 70, 3) := by decide +kernel
theorem dX1_honeyOf_5 : decode cX1_honeyOf 5 = .ok (.ifCond .eq 12, 3) := by decide +kernel
theorem dX1_honeyOf_8 : decode cX1_honeyOf 8 = .ok (.aload_n 0, 1) := by decide +kernel
theorem dX1_honeyOf_9 : decode cX1_honeyOf 9 = .ok (.getfield 24, 3) := by decide +kernel
theorem dX1_honeyOf_12 : decode cX1_honeyOf 12 = .ok (.iload_n 1, 1) := by decide +kernel
theorem dX1_honeyOf_13 : decode cX1_honeyOf 13 = .ok (.iaload, 1) := by decide +kernel
theorem dX1_honeyOf_14 : decode cX1_honeyOf 14 = .ok (.goto 4, 3) := by decide +kernel
theorem dX1_honeyOf_17 : decode cX1_honeyOf 17 = .ok (.iconst 0, 1) := by decide +kernel
theorem dX1_honeyOf_18 : decode cX1_honeyOf 18 = .ok (.ireturn, 1) := by decide +kernel
set_option maxRecDepth 20000 in
theorem ggX1_faultOf_X1_hasSinger : GoodIn wsX1_faultOf wsX1_hasSinger := goodIn_r _ [6, 7, 11, 12, 13, 14, 15, 16, 17, 18, 19, 20] (by decide +kernel) (by decide +kernel)
set_option maxRecDepth 20000 in
theorem gX1_faultOf_X1_hasSinger : GoodIn wsX1_faultOf (wsV RX1 70 RX1 yX1_hasSinger wsX1_hasSinger) := goodIn_app (goodIn_of _ (by decide +kernel)) ggX1_faultOf_X1_hasSinger
set_option maxRecDepth 20000 in
theorem ggX1_faultOf_X1_isFault : GoodIn wsX1_faultOf wsX1_isFault := goodIn_r _ [10] (by decide +kernel) (by decide +kernel)
set_option maxRecDepth 20000 in
theorem gX1_faultOf_X1_isFault : GoodIn wsX1_faultOf (va_wsS RX1 87 yX1_isFault wsX1_isFault) := goodIn_app (goodIn_of _ (by decide +kernel)) ggX1_faultOf_X1_isFault
theorem dX1_faultOf_0 : decode cX1_faultOf 0 = .ok (.aload_n 0, 1) := by decide +kernel
theorem dX1_faultOf_1 : decode cX1_faultOf 1 = .ok (.iload_n 1, 1) := by decide +kernel
theorem dX1_faultOf_2 : decode cX1_faultOf 2 = .ok (.invokevirtual 70, 3) := by decide +kernel
theorem dX1_faultOf_5 : decode cX1_faultOf 5 = .ok (.ifCond .eq 23, 3) := by decide +kernel
theorem dX1_faultOf_8 : decode cX1_faultOf 8 = .ok (.iload_n 2, 1) := by decide +kernel
theorem dX1_faultOf_9 : decode cX1_faultOf 9 = .ok (.invokestatic 87, 3) := by decide +kernel
theorem dX1_faultOf_12 : decode cX1_faultOf 12 = .ok (.ifCond .eq 16, 3) := by decide +kernel
theorem dX1_faultOf_15 : decode cX1_faultOf 15 = .ok (.aload_n 0, 1) := by decide +kernel
theorem dX1_faultOf_16 : decode cX1_faultOf 16 = .ok (.getfield 15, 3) := by decide +kernel
theorem dX1_faultOf_19 : decode cX1_faultOf 19 = .ok (.iconst 4, 1) := by decide +kernel
theorem dX1_faultOf_20 : decode cX1_faultOf 20 = .ok (.iload_n 1, 1) := by decide +kernel
theorem dX1_faultOf_21 : decode cX1_faultOf 21 = .ok (.imul, 1) := by decide +kernel
theorem dX1_faultOf_22 : decode cX1_faultOf 22 = .ok (.iload_n 2, 1) := by decide +kernel
theorem dX1_faultOf_23 : decode cX1_faultOf 23 = .ok (.iadd, 1) := by decide +kernel
theorem dX1_faultOf_24 : decode cX1_faultOf 24 = .ok (.iaload, 1) := by decide +kernel
theorem dX1_faultOf_25 : decode cX1_faultOf 25 = .ok (.goto 4, 3) := by decide +kernel
theorem dX1_faultOf_28 : decode cX1_faultOf 28 = .ok (.iconst 0, 1) := by decide +kernel
theorem dX1_faultOf_29 : decode cX1_faultOf 29 = .ok (.ireturn, 1) := by decide +kernel
set_option maxRecDepth 20000 in
theorem ggX1_minds_X1_hasWidow : GoodIn wsX1_minds wsX1_hasWidow := goodIn_r _ [6, 7, 8, 9, 10, 11, 12, 13, 14, 15, 16, 17] (by decide +kernel) (by decide +kernel)
set_option maxRecDepth 20000 in
theorem gX1_minds_X1_hasWidow : GoodIn wsX1_minds (wsV RX1 90 RX1 yX1_hasWidow wsX1_hasWidow) := goodIn_app (goodIn_of _ (by decide +kernel)) ggX1_minds_X1_hasWidow
theorem dX1_minds_0 : decode cX1_minds 0 = .ok (.aload_n 0, 1) := by decide +kernel
theorem dX1_minds_1 : decode cX1_minds 1 = .ok (.iload_n 1, 1) := by decide +kernel
theorem dX1_minds_2 : decode cX1_minds 2 = .ok (.invokevirtual 90, 3) := by decide +kernel
theorem dX1_minds_5 : decode cX1_minds 5 = .ok (.ifCond .eq 12, 3) := by decide +kernel
theorem dX1_minds_8 : decode cX1_minds 8 = .ok (.aload_n 0, 1) := by decide +kernel
theorem dX1_minds_9 : decode cX1_minds 9 = .ok (.getfield 27, 3) := by decide +kernel
theorem dX1_minds_12 : decode cX1_minds 12 = .ok (.iload_n 1, 1) := by decide +kernel
theorem dX1_minds_13 : decode cX1_minds 13 = .ok (.iaload, 1) := by decide +kernel
theorem dX1_minds_14 : decode cX1_minds 14 = .ok (.goto 4, 3) := by decide +kernel
theorem dX1_minds_17 : decode cX1_minds 17 = .ok (.iconst (-1), 1) := by decide +kernel
theorem dX1_minds_18 : decode cX1_minds 18 = .ok (.ireturn, 1) := by decide +kernel
set_option maxRecDepth 20000 in
theorem ggX1_setCold_X1_hasSinger : GoodIn wsX1_setCold wsX1_hasSinger := goodIn_r _ [6, 7, 8, 9, 10, 11, 12, 13, 14, 15, 16, 17] (by decide +kernel) (by decide +kernel)
set_option maxRecDepth 20000 in
theorem gX1_setCold_X1_hasSinger : GoodIn wsX1_setCold (wsV RX1 70 RX1 yX1_hasSinger wsX1_hasSinger) := goodIn_app (goodIn_of _ (by decide +kernel)) ggX1_setCold_X1_hasSinger
theorem dX1_setCold_0 : decode cX1_setCold 0 = .ok (.aload_n 0, 1) := by decide +kernel
theorem dX1_setCold_1 : decode cX1_setCold 1 = .ok (.iload_n 1, 1) := by decide +kernel
theorem dX1_setCold_2 : decode cX1_setCold 2 = .ok (.invokevirtual 70, 3) := by decide +kernel
theorem dX1_setCold_5 : decode cX1_setCold 5 = .ok (.ifCond .eq 18, 3) := by decide +kernel
theorem dX1_setCold_8 : decode cX1_setCold 8 = .ok (.aload_n 0, 1) := by decide +kernel
theorem dX1_setCold_9 : decode cX1_setCold 9 = .ok (.getfield 18, 3) := by decide +kernel
theorem dX1_setCold_12 : decode cX1_setCold 12 = .ok (.iload_n 1, 1) := by decide +kernel
theorem dX1_setCold_13 : decode cX1_setCold 13 = .ok (.iload_n 2, 1) := by decide +kernel
theorem dX1_setCold_14 : decode cX1_setCold 14 = .ok (.ifCond .eq 7, 3) := by decide +kernel
theorem dX1_setCold_17 : decode cX1_setCold 17 = .ok (.iconst 1, 1) := by decide +kernel
theorem dX1_setCold_18 : decode cX1_setCold 18 = .ok (.goto 4, 3) := by decide +kernel
theorem dX1_setCold_21 : decode cX1_setCold 21 = .ok (.iconst 0, 1) := by decide +kernel
theorem dX1_setCold_22 : decode cX1_setCold 22 = .ok (.iastore, 1) := by decide +kernel
theorem dX1_setCold_23 : decode cX1_setCold 23 = .ok (.return_, 1) := by decide +kernel
set_option maxRecDepth 20000 in
theorem ggX1_setLeft_X1_hasSinger : GoodIn wsX1_setLeft wsX1_hasSinger := goodIn_r _ [6, 7, 8, 9, 10, 11, 12, 13, 14, 15, 16, 17] (by decide +kernel) (by decide +kernel)
set_option maxRecDepth 20000 in
theorem gX1_setLeft_X1_hasSinger : GoodIn wsX1_setLeft (wsV RX1 70 RX1 yX1_hasSinger wsX1_hasSinger) := goodIn_app (goodIn_of _ (by decide +kernel)) ggX1_setLeft_X1_hasSinger
theorem dX1_setLeft_0 : decode cX1_setLeft 0 = .ok (.aload_n 0, 1) := by decide +kernel
theorem dX1_setLeft_1 : decode cX1_setLeft 1 = .ok (.iload_n 1, 1) := by decide +kernel
theorem dX1_setLeft_2 : decode cX1_setLeft 2 = .ok (.invokevirtual 70, 3) := by decide +kernel
theorem dX1_setLeft_5 : decode cX1_setLeft 5 = .ok (.ifCond .eq 18, 3) := by decide +kernel
theorem dX1_setLeft_8 : decode cX1_setLeft 8 = .ok (.aload_n 0, 1) := by decide +kernel
theorem dX1_setLeft_9 : decode cX1_setLeft 9 = .ok (.getfield 21, 3) := by decide +kernel
theorem dX1_setLeft_12 : decode cX1_setLeft 12 = .ok (.iload_n 1, 1) := by decide +kernel
theorem dX1_setLeft_13 : decode cX1_setLeft 13 = .ok (.iload_n 2, 1) := by decide +kernel
theorem dX1_setLeft_14 : decode cX1_setLeft 14 = .ok (.ifCond .eq 7, 3) := by decide +kernel
theorem dX1_setLeft_17 : decode cX1_setLeft 17 = .ok (.iconst 1, 1) := by decide +kernel
theorem dX1_setLeft_18 : decode cX1_setLeft 18 = .ok (.goto 4, 3) := by decide +kernel
theorem dX1_setLeft_21 : decode cX1_setLeft 21 = .ok (.iconst 0, 1) := by decide +kernel
theorem dX1_setLeft_22 : decode cX1_setLeft 22 = .ok (.iastore, 1) := by decide +kernel
theorem dX1_setLeft_23 : decode cX1_setLeft 23 = .ok (.return_, 1) := by decide +kernel
set_option maxRecDepth 20000 in
theorem ggX1_setHoney_X1_hasSinger : GoodIn wsX1_setHoney wsX1_hasSinger := goodIn_r _ [6, 7, 8, 9, 10, 11, 12, 13, 14, 15, 16, 17] (by decide +kernel) (by decide +kernel)
set_option maxRecDepth 20000 in
theorem gX1_setHoney_X1_hasSinger : GoodIn wsX1_setHoney (wsV RX1 70 RX1 yX1_hasSinger wsX1_hasSinger) := goodIn_app (goodIn_of _ (by decide +kernel)) ggX1_setHoney_X1_hasSinger
theorem dX1_setHoney_0 : decode cX1_setHoney 0 = .ok (.aload_n 0, 1) := by decide +kernel
theorem dX1_setHoney_1 : decode cX1_setHoney 1 = .ok (.iload_n 1, 1) := by decide +kernel
theorem dX1_setHoney_2 : decode cX1_setHoney 2 = .ok (.invokevirtual 70, 3) := by decide +kernel
theorem dX1_setHoney_5 : decode cX1_setHoney 5 = .ok (.ifCond .eq 10, 3) := by decide +kernel
theorem dX1_setHoney_8 : decode cX1_setHoney 8 = .ok (.aload_n 0, 1) := by decide +kernel
theorem dX1_setHoney_9 : decode cX1_setHoney 9 = .ok (.getfield 24, 3) := by decide +kernel
theorem dX1_setHoney_12 : decode cX1_setHoney 12 = .ok (.iload_n 1, 1) := by decide +kernel
theorem dX1_setHoney_13 : decode cX1_setHoney 13 = .ok (.iload_n 2, 1) := by decide +kernel
theorem dX1_setHoney_14 : decode cX1_setHoney 14 = .ok (.iastore, 1) := by decide +kernel
theorem dX1_setHoney_15 : decode cX1_setHoney 15 = .ok (.return_, 1) := by decide +kernel
set_option maxRecDepth 20000 in
theorem ggX1_practiseWeek_X1_hasSinger : GoodIn wsX1_practiseWeek wsX1_hasSinger := goodIn_r _ [7, 8, 40, 41, 42, 43, 44, 45, 46, 47, 48, 49] (by decide +kernel) (by decide +kernel)
set_option maxRecDepth 20000 in
theorem gX1_practiseWeek_X1_hasSinger : GoodIn wsX1_practiseWeek (wsV RX1 70 RX1 yX1_hasSinger wsX1_hasSinger) := goodIn_app (goodIn_of _ (by decide +kernel)) ggX1_practiseWeek_X1_hasSinger
set_option maxRecDepth 20000 in
theorem ggX1_practiseWeek_X1_voice : GoodIn wsX1_practiseWeek wsX1_voice := goodIn_r _ [12, 13, 14, 3, 4, 5, 6, 7, 8, 15, 16, 17, 18, 19, 20, 21, 22, 23, 24, 40, 41, 42, 43, 44, 45, 46, 47, 48, 49, 50, 51, 52, 53, 54] (by decide +kernel) (by decide +kernel)
set_option maxRecDepth 20000 in
theorem gX1_practiseWeek_X1_voice : GoodIn wsX1_practiseWeek (wsV RX1 93 RX1 yX1_voice wsX1_voice) := goodIn_app (goodIn_of _ (by decide +kernel)) ggX1_practiseWeek_X1_voice
set_option maxRecDepth 20000 in
theorem ggX1_practiseWeek_X0_practised : GoodIn wsX1_practiseWeek wsX0_practised := goodIn_r _ [31] (by decide +kernel) (by decide +kernel)
set_option maxRecDepth 20000 in
theorem gX1_practiseWeek_X0_practised_u96X0 : GoodIn wsX1_practiseWeek (va_wsO RX1 96 RX0 "WorstVoice$Singer" ⟨"WorstVoice$Singer", "practised", "(I)I"⟩ yX0_practised wsX0_practised) := goodIn_app (goodIn_of _ (by decide +kernel)) ggX1_practiseWeek_X0_practised
set_option maxRecDepth 20000 in
theorem ggX1_practiseWeek_X6_practised : GoodIn wsX1_practiseWeek wsX6_practised := goodIn_r _ [32] (by decide +kernel) (by decide +kernel)
set_option maxRecDepth 20000 in
theorem gX1_practiseWeek_X6_practised_u96X2 : GoodIn wsX1_practiseWeek (va_wsU RX1 96 RX2 "WorstVoice$Singer" ⟨"WorstVoice$Singer", "practised", "(I)I"⟩ yX6_practised wsX6_practised) := goodIn_app (goodIn_of _ (by decide +kernel)) ggX1_practiseWeek_X6_practised
set_option maxRecDepth 20000 in
theorem gX1_practiseWeek_X6_practised_u96X3 : GoodIn wsX1_practiseWeek (va_wsU RX1 96 RX3 "WorstVoice$Singer" ⟨"WorstVoice$Singer", "practised", "(I)I"⟩ yX6_practised wsX6_practised) := goodIn_app (goodIn_of _ (by decide +kernel)) ggX1_practiseWeek_X6_practised
set_option maxRecDepth 20000 in
theorem gX1_practiseWeek_X6_practised : GoodIn wsX1_practiseWeek (wsV RX1 96 RX6 yX6_practised wsX6_practised) := goodIn_app (goodIn_of _ (by decide +kernel)) ggX1_practiseWeek_X6_practised
set_option maxRecDepth 20000 in
theorem gX1_practiseWeek_X6_practised_u96X7 : GoodIn wsX1_practiseWeek (va_wsU RX1 96 RX7 "WorstVoice$Singer" ⟨"WorstVoice$Singer", "practised", "(I)I"⟩ yX6_practised wsX6_practised) := goodIn_app (goodIn_of _ (by decide +kernel)) ggX1_practiseWeek_X6_practised
theorem dX1_practiseWeek_0 : decode cX1_practiseWeek 0 = .ok (.aload_n 0, 1) := by decide +kernel
theorem dX1_practiseWeek_1 : decode cX1_practiseWeek 1 = .ok (.iload_n 1, 1) := by decide +kernel
theorem dX1_practiseWeek_2 : decode cX1_practiseWeek 2 = .ok (.invokevirtual 70, 3) := by decide +kernel
theorem dX1_practiseWeek_5 : decode cX1_practiseWeek 5 = .ok (.ifCond .ne 5, 3) := by decide +kernel
theorem dX1_practiseWeek_8 : decode cX1_practiseWeek 8 = .ok (.iconst 0, 1) := by decide +kernel
theorem dX1_practiseWeek_9 : decode cX1_practiseWeek 9 = .ok (.ireturn, 1) := by decide +kernel
theorem dX1_practiseWeek_10 : decode cX1_practiseWeek 10 = .ok (.aload_n 0, 1) := by decide +kernel
theorem dX1_practiseWeek_11 : decode cX1_practiseWeek 11 = .ok (.iload_n 1, 1) := by decide +kernel
theorem dX1_practiseWeek_12 : decode cX1_practiseWeek 12 = .ok (.invokevirtual 93, 3) := by decide +kernel
theorem dX1_practiseWeek_15 : decode cX1_practiseWeek 15 = .ok (.astore_n 2, 1) := by decide +kernel
theorem dX1_practiseWeek_16 : decode cX1_practiseWeek 16 = .ok (.iconst 0, 1) := by decide +kernel
theorem dX1_practiseWeek_17 : decode cX1_practiseWeek 17 = .ok (.istore_n 3, 1) := by decide +kernel
theorem dX1_practiseWeek_18 : decode cX1_practiseWeek 18 = .ok (.iconst 4, 1) := by decide +kernel
theorem dX1_practiseWeek_19 : decode cX1_practiseWeek 19 = .ok (.iload_n 1, 1) := by decide +kernel
theorem dX1_practiseWeek_20 : decode cX1_practiseWeek 20 = .ok (.imul, 1) := by decide +kernel
theorem dX1_practiseWeek_21 : decode cX1_practiseWeek 21 = .ok (.istore 4, 2) := by decide +kernel
theorem dX1_practiseWeek_23 : decode cX1_practiseWeek 23 = .ok (.iload 4, 2) := by decide +kernel
theorem dX1_practiseWeek_25 : decode cX1_practiseWeek 25 = .ok (.iconst 4, 1) := by decide +kernel
theorem dX1_practiseWeek_26 : decode cX1_practiseWeek 26 = .ok (.iload_n 1, 1) := by decide +kernel
theorem dX1_practiseWeek_27 : decode cX1_practiseWeek 27 = .ok (.imul, 1) := by decide +kernel
theorem dX1_practiseWeek_28 : decode cX1_practiseWeek 28 = .ok (.iconst 4, 1) := by decide +kernel
theorem dX1_practiseWeek_29 : decode cX1_practiseWeek 29 = .ok (.iadd, 1) := by decide +kernel
theorem dX1_practiseWeek_30 : decode cX1_practiseWeek 30 = .ok (.if_icmp .ge 37, 3) := by decide +kernel
theorem dX1_practiseWeek_33 : decode cX1_practiseWeek 33 = .ok (.aload_n 0, 1) := by decide +kernel
theorem dX1_practiseWeek_34 : decode cX1_practiseWeek 34 = .ok (.getfield 15, 3) := by decide +kernel
theorem dX1_practiseWeek_37 : decode cX1_practiseWeek 37 = .ok (.iload 4, 2) := by decide +kernel
theorem dX1_practiseWeek_39 : decode cX1_practiseWeek 39 = .ok (.aload_n 2, 1) := by decide +kernel
theorem dX1_practiseWeek_40 : decode cX1_practiseWeek 40 = .ok (.aload_n 0, 1) := by decide +kernel
theorem dX1_practiseWeek_41 : decode cX1_practiseWeek 41 = .ok (.getfield 15, 3) := by decide +kernel
theorem dX1_practiseWeek_44 : decode cX1_practiseWeek 44 = .ok (.iload 4, 2) := by decide +kernel
theorem dX1_practiseWeek_46 : decode cX1_practiseWeek 46 = .ok (.iaload, 1) := by decide +kernel
theorem dX1_practiseWeek_47 : decode cX1_practiseWeek 47 = .ok (.invokevirtual 96, 3) := by decide +kernel
theorem dX1_practiseWeek_50 : decode cX1_practiseWeek 50 = .ok (.iastore, 1) := by decide +kernel
theorem dX1_practiseWeek_51 : decode cX1_practiseWeek 51 = .ok (.iload_n 3, 1) := by decide +kernel
theorem dX1_practiseWeek_52 : decode cX1_practiseWeek 52 = .ok (.aload_n 0, 1) := by decide +kernel
theorem dX1_practiseWeek_53 : decode cX1_practiseWeek 53 = .ok (.getfield 15, 3) := by decide +kernel
theorem dX1_practiseWeek_56 : decode cX1_practiseWeek 56 = .ok (.iload 4, 2) := by decide +kernel
theorem dX1_practiseWeek_58 : decode cX1_practiseWeek 58 = .ok (.iaload, 1) := by decide +kernel
theorem dX1_practiseWeek_59 : decode cX1_practiseWeek 59 = .ok (.iadd, 1) := by decide +kernel
theorem dX1_practiseWeek_60 : decode cX1_practiseWeek 60 = .ok (.istore_n 3, 1) := by decide +kernel
theorem dX1_practiseWeek_61 : decode cX1_practiseWeek 61 = .ok (.iinc 4 1, 3) := by decide +kernel
theorem dX1_practiseWeek_64 : decode cX1_practiseWeek 64 = .ok (.goto (-41), 3) := by decide +kernel
theorem dX1_practiseWeek_67 : decode cX1_practiseWeek 67 = .ok (.aload_n 0, 1) := by decide +kernel
theorem dX1_practiseWeek_68 : decode cX1_practiseWeek 68 = .ok (.dup, 1) := by decide +kernel
theorem dX1_practiseWeek_69 : decode cX1_practiseWeek 69 = .ok (.getfield 59, 3) := by decide +kernel
theorem dX1_practiseWeek_72 : decode cX1_practiseWeek 72 = .ok (.iconst 1, 1) := by decide +kernel
theorem dX1_practiseWeek_73 : decode cX1_practiseWeek 73 = .ok (.iadd, 1) := by decide +kernel
theorem dX1_practiseWeek_74 : decode cX1_practiseWeek 74 = .ok (.putfield 59, 3) := by decide +kernel
theorem dX1_practiseWeek_77 : decode cX1_practiseWeek 77 = .ok (.iload_n 3, 1) := by decide +kernel
theorem dX1_practiseWeek_78 : decode cX1_practiseWeek 78 = .ok (.ireturn, 1) := by decide +kernel
set_option maxRecDepth 20000 in
theorem ggX1_bad_X1_hasSinger : GoodIn wsX1_bad wsX1_hasSinger := goodIn_r _ [15, 16, 54, 55, 56, 57, 58, 59, 60, 61, 62, 63] (by decide +kernel) (by decide +kernel)
set_option maxRecDepth 20000 in
theorem gX1_bad_X1_hasSinger : GoodIn wsX1_bad (wsV RX1 70 RX1 yX1_hasSinger wsX1_hasSinger) := goodIn_app (goodIn_of _ (by decide +kernel)) ggX1_bad_X1_hasSinger
set_option maxRecDepth 20000 in
theorem ggX1_bad_X1_isFault : GoodIn wsX1_bad wsX1_isFault := goodIn_r _ [19] (by decide +kernel) (by decide +kernel)
set_option maxRecDepth 20000 in
theorem gX1_bad_X1_isFault : GoodIn wsX1_bad (va_wsS RX1 87 yX1_isFault wsX1_isFault) := goodIn_app (goodIn_of _ (by decide +kernel)) ggX1_bad_X1_isFault
set_option maxRecDepth 20000 in
theorem ggX1_bad_X8_ofKind : GoodIn wsX1_bad wsX8_ofKind := goodIn_r _ [24, 25, 26, 27, 28, 29, 64, 65, 66, 67, 68] (by decide +kernel) (by decide +kernel)
set_option maxRecDepth 20000 in
theorem gX1_bad_X8_ofKind : GoodIn wsX1_bad (wsV RX1 81 RX8 yX8_ofKind wsX8_ofKind) := goodIn_app (goodIn_of _ (by decide +kernel)) ggX1_bad_X8_ofKind
set_option maxRecDepth 20000 in
theorem ggX1_bad_X0_plainBad : GoodIn wsX1_bad wsX0_plainBad := goodIn_r _ [36] (by decide +kernel) (by decide +kernel)
set_option maxRecDepth 20000 in
theorem gX1_bad_X0_plainBad_u101X0 : GoodIn wsX1_bad (va_wsO RX1 101 RX0 "WorstVoice$Singer" ⟨"WorstVoice$Singer", "plainBad", "(II)I"⟩ yX0_plainBad wsX0_plainBad) := goodIn_app (goodIn_of _ (by decide +kernel)) ggX1_bad_X0_plainBad
set_option maxRecDepth 20000 in
theorem ggX1_bad_X2_plainBad : GoodIn wsX1_bad wsX2_plainBad := goodIn_r _ [41] (by decide +kernel) (by decide +kernel)
set_option maxRecDepth 20000 in
theorem gX1_bad_X2_plainBad_u101X2 : GoodIn wsX1_bad (va_wsO RX1 101 RX2 "WorstVoice$Singer" ⟨"WorstVoice$Singer", "plainBad", "(II)I"⟩ yX2_plainBad wsX2_plainBad) := goodIn_app (goodIn_of _ (by decide +kernel)) ggX1_bad_X2_plainBad
set_option maxRecDepth 20000 in
theorem ggX1_bad_X3_plainBad : GoodIn wsX1_bad wsX3_plainBad := goodIn_r _ [45] (by decide +kernel) (by decide +kernel)
set_option maxRecDepth 20000 in
theorem gX1_bad_X3_plainBad_u101X3 : GoodIn wsX1_bad (va_wsO RX1 101 RX3 "WorstVoice$Singer" ⟨"WorstVoice$Singer", "plainBad", "(II)I"⟩ yX3_plainBad wsX3_plainBad) := goodIn_app (goodIn_of _ (by decide +kernel)) ggX1_bad_X3_plainBad
set_option maxRecDepth 20000 in
theorem ggX1_bad_X6_plainBad : GoodIn wsX1_bad wsX6_plainBad := goodIn_r _ [37] (by decide +kernel) (by decide +kernel)
set_option maxRecDepth 20000 in
theorem gX1_bad_X6_plainBad : GoodIn wsX1_bad (wsV RX1 101 RX6 yX6_plainBad wsX6_plainBad) := goodIn_app (goodIn_of _ (by decide +kernel)) ggX1_bad_X6_plainBad
set_option maxRecDepth 20000 in
theorem ggX1_bad_X7_plainBad : GoodIn wsX1_bad wsX7_plainBad := goodIn_r _ [53] (by decide +kernel) (by decide +kernel)
set_option maxRecDepth 20000 in
theorem gX1_bad_X7_plainBad_u101X7 : GoodIn wsX1_bad (va_wsO RX1 101 RX7 "WorstVoice$Singer" ⟨"WorstVoice$Singer", "plainBad", "(II)I"⟩ yX7_plainBad wsX7_plainBad) := goodIn_app (goodIn_of _ (by decide +kernel)) ggX1_bad_X7_plainBad
theorem dX1_bad_0 : decode cX1_bad 0 = .ok (.aload_n 0, 1) := by decide +kernel
theorem dX1_bad_1 : decode cX1_bad 1 = .ok (.iload_n 1, 1) := by decide +kernel
theorem dX1_bad_2 : decode cX1_bad 2 = .ok (.invokevirtual 70, 3) := by decide +kernel
theorem dX1_bad_5 : decode cX1_bad 5 = .ok (.ifCond .eq 10, 3) := by decide +kernel
theorem dX1_bad_8 : decode cX1_bad 8 = .ok (.iload_n 2, 1) := by decide +kernel
theorem dX1_bad_9 : decode cX1_bad 9 = .ok (.invokestatic 87, 3) := by decide +kernel
theorem dX1_bad_12 : decode cX1_bad 12 = .ok (.ifCond .ne 5, 3) := by decide +kernel
theorem dX1_bad_15 : decode cX1_bad 15 = .ok (.iconst 0, 1) := by decide +kernel
theorem dX1_bad_16 : decode cX1_bad 16 = .ok (.ireturn, 1) := by decide +kernel
theorem dX1_bad_17 : decode cX1_bad 17 = .ok (.aload_n 0, 1) := by decide +kernel
theorem dX1_bad_18 : decode cX1_bad 18 = .ok (.getfield 30, 3) := by decide +kernel
theorem dX1_bad_21 : decode cX1_bad 21 = .ok (.aload_n 0, 1) := by decide +kernel
theorem dX1_bad_22 : decode cX1_bad 22 = .ok (.getfield 9, 3) := by decide +kernel
theorem dX1_bad_25 : decode cX1_bad 25 = .ok (.iload_n 1, 1) := by decide +kernel
theorem dX1_bad_26 : decode cX1_bad 26 = .ok (.iaload, 1) := by decide +kernel
theorem dX1_bad_27 : decode cX1_bad 27 = .ok (.invokevirtual 81, 3) := by decide +kernel
theorem dX1_bad_30 : decode cX1_bad 30 = .ok (.iload_n 2, 1) := by decide +kernel
theorem dX1_bad_31 : decode cX1_bad 31 = .ok (.aload_n 0, 1) := by decide +kernel
theorem dX1_bad_32 : decode cX1_bad 32 = .ok (.getfield 15, 3) := by decide +kernel
theorem dX1_bad_35 : decode cX1_bad 35 = .ok (.iconst 4, 1) := by decide +kernel
theorem dX1_bad_36 : decode cX1_bad 36 = .ok (.iload_n 1, 1) := by decide +kernel
theorem dX1_bad_37 : decode cX1_bad 37 = .ok (.imul, 1) := by decide +kernel
theorem dX1_bad_38 : decode cX1_bad 38 = .ok (.iload_n 2, 1) := by decide +kernel
theorem dX1_bad_39 : decode cX1_bad 39 = .ok (.iadd, 1) := by decide +kernel
theorem dX1_bad_40 : decode cX1_bad 40 = .ok (.iaload, 1) := by decide +kernel
theorem dX1_bad_41 : decode cX1_bad 41 = .ok (.invokevirtual 101, 3) := by decide +kernel
theorem dX1_bad_44 : decode cX1_bad 44 = .ok (.istore_n 3, 1) := by decide +kernel
theorem dX1_bad_45 : decode cX1_bad 45 = .ok (.iload_n 2, 1) := by decide +kernel
theorem dX1_bad_46 : decode cX1_bad 46 = .ok (.ifCond .eq 8, 3) := by decide +kernel
theorem dX1_bad_49 : decode cX1_bad 49 = .ok (.iload_n 2, 1) := by decide +kernel
theorem dX1_bad_50 : decode cX1_bad 50 = .ok (.iconst 1, 1) := by decide +kernel
theorem dX1_bad_51 : decode cX1_bad 51 = .ok (.if_icmp .ne 14, 3) := by decide +kernel
theorem dX1_bad_54 : decode cX1_bad 54 = .ok (.iload_n 3, 1) := by decide +kernel
theorem dX1_bad_55 : decode cX1_bad 55 = .ok (.iconst 3, 1) := by decide +kernel
theorem dX1_bad_56 : decode cX1_bad 56 = .ok (.aload_n 0, 1) := by decide +kernel
theorem dX1_bad_57 : decode cX1_bad 57 = .ok (.getfield 18, 3) := by decide +kernel
theorem dX1_bad_60 : decode cX1_bad 60 = .ok (.iload_n 1, 1) := by decide +kernel
theorem dX1_bad_61 : decode cX1_bad 61 = .ok (.iaload, 1) := by decide +kernel
theorem dX1_bad_62 : decode cX1_bad 62 = .ok (.imul, 1) := by decide +kernel
theorem dX1_bad_63 : decode cX1_bad 63 = .ok (.iadd, 1) := by decide +kernel
theorem dX1_bad_64 : decode cX1_bad 64 = .ok (.istore_n 3, 1) := by decide +kernel
theorem dX1_bad_65 : decode cX1_bad 65 = .ok (.iconst 0, 1) := by decide +kernel
theorem dX1_bad_66 : decode cX1_bad 66 = .ok (.iload_n 3, 1) := by decide +kernel
theorem dX1_bad_67 : decode cX1_bad 67 = .ok (.iconst 1, 1) := by decide +kernel
theorem dX1_bad_68 : decode cX1_bad 68 = .ok (.aload_n 0, 1) := by decide +kernel
theorem dX1_bad_69 : decode cX1_bad 69 = .ok (.getfield 21, 3) := by decide +kernel
theorem dX1_bad_72 : decode cX1_bad 72 = .ok (.iload_n 1, 1) := by decide +kernel
theorem dX1_bad_73 : decode cX1_bad 73 = .ok (.iaload, 1) := by decide +kernel
theorem dX1_bad_74 : decode cX1_bad 74 = .ok (.imul, 1) := by decide +kernel
theorem dX1_bad_75 : decode cX1_bad 75 = .ok (.isub, 1) := by decide +kernel
theorem dX1_bad_76 : decode cX1_bad 76 = .ok (.aload_n 0, 1) := by decide +kernel
theorem dX1_bad_77 : decode cX1_bad 77 = .ok (.getfield 24, 3) := by decide +kernel
theorem dX1_bad_80 : decode cX1_bad 80 = .ok (.iload_n 1, 1) := by decide +kernel
theorem dX1_bad_81 : decode cX1_bad 81 = .ok (.iaload, 1) := by decide +kernel
theorem dX1_bad_82 : decode cX1_bad 82 = .ok (.isub, 1) := by decide +kernel
theorem dX1_bad_83 : decode cX1_bad 83 = .ok (.invokestatic 53, 3) := by decide +kernel
theorem dX1_bad_86 : decode cX1_bad 86 = .ok (.ireturn, 1) := by decide +kernel
set_option maxRecDepth 20000 in
theorem ggX1_favourite_X1_minds : GoodIn wsX1_favourite wsX1_minds := goodIn_r _ [6, 7, 8, 9, 10, 5, 11, 12, 68, 69, 70, 71, 72, 73, 74, 75, 76, 77] (by decide +kernel) (by decide +kernel)
set_option maxRecDepth 20000 in
theorem gX1_favourite_X1_minds : GoodIn wsX1_favourite (wsV RX1 104 RX1 yX1_minds wsX1_minds) := goodIn_app (goodIn_of _ (by decide +kernel)) ggX1_favourite_X1_minds
set_option maxRecDepth 20000 in
theorem ggX1_favourite_X1_bad : GoodIn wsX1_favourite wsX1_bad := goodIn_r _ [16, 17, 18, 19, 20, 21, 22, 23, 24, 25, 26, 27, 28, 29, 5, 30, 1, 31, 32, 33, 34, 35, 36, 37, 38, 39, 40, 41, 42, 43, 44, 45, 46, 47, 48, 49, 50, 51, 52, 53, 54, 55, 56, 57, 58, 59, 60, 61, 62, 63, 64, 65, 66, 67, 68, 69, 70, 71, 72, 73, 74, 75, 76, 77, 78, 79, 80, 81, 82] (by decide +kernel) (by decide +kernel)
set_option maxRecDepth 20000 in
theorem gX1_favourite_X1_bad : GoodIn wsX1_favourite (wsV RX1 107 RX1 yX1_bad wsX1_bad) := goodIn_app (goodIn_of _ (by decide +kernel)) ggX1_favourite_X1_bad
theorem dX1_favourite_0 : decode cX1_favourite 0 = .ok (.aload_n 0, 1) := by decide +kernel
theorem dX1_favourite_1 : decode cX1_favourite 1 = .ok (.iload_n 1, 1) := by decide +kernel
theorem dX1_favourite_2 : decode cX1_favourite 2 = .ok (.invokevirtual 104, 3) := by decide +kernel
theorem dX1_favourite_5 : decode cX1_favourite 5 = .ok (.istore_n 2, 1) := by decide +kernel
theorem dX1_favourite_6 : decode cX1_favourite 6 = .ok (.iconst 0, 1) := by decide +kernel
theorem dX1_favourite_7 : decode cX1_favourite 7 = .ok (.istore_n 3, 1) := by decide +kernel
theorem dX1_favourite_8 : decode cX1_favourite 8 = .ok (.iconst 1, 1) := by decide +kernel
theorem dX1_favourite_9 : decode cX1_favourite 9 = .ok (.istore 4, 2) := by decide +kernel
theorem dX1_favourite_11 : decode cX1_favourite 11 = .ok (.iload 4, 2) := by decide +kernel
theorem dX1_favourite_13 : decode cX1_favourite 13 = .ok (.aload_n 0, 1) := by decide +kernel
theorem dX1_favourite_14 : decode cX1_favourite 14 = .ok (.getfield 46, 3) := by decide +kernel
theorem dX1_favourite_17 : decode cX1_favourite 17 = .ok (.if_icmp .ge 28, 3) := by decide +kernel
theorem dX1_favourite_20 : decode cX1_favourite 20 = .ok (.aload_n 0, 1) := by decide +kernel
theorem dX1_favourite_21 : decode cX1_favourite 21 = .ok (.iload 4, 2) := by decide +kernel
theorem dX1_favourite_23 : decode cX1_favourite 23 = .ok (.iload_n 2, 1) := by decide +kernel
theorem dX1_favourite_24 : decode cX1_favourite 24 = .ok (.invokevirtual 107, 3) := by decide +kernel
theorem dX1_favourite_27 : decode cX1_favourite 27 = .ok (.aload_n 0, 1) := by decide +kernel
theorem dX1_favourite_28 : decode cX1_favourite 28 = .ok (.iload_n 3, 1) := by decide +kernel
theorem dX1_favourite_29 : decode cX1_favourite 29 = .ok (.iload_n 2, 1) := by decide +kernel
theorem dX1_favourite_30 : decode cX1_favourite 30 = .ok (.invokevirtual 107, 3) := by decide +kernel
theorem dX1_favourite_33 : decode cX1_favourite 33 = .ok (.if_icmp .le 6, 3) := by decide +kernel
theorem dX1_favourite_36 : decode cX1_favourite 36 = .ok (.iload 4, 2) := by decide +kernel
theorem dX1_favourite_38 : decode cX1_favourite 38 = .ok (.istore_n 3, 1) := by decide +kernel
theorem dX1_favourite_39 : decode cX1_favourite 39 = .ok (.iinc 4 1, 3) := by decide +kernel
theorem dX1_favourite_42 : decode cX1_favourite 42 = .ok (.goto (-31), 3) := by decide +kernel
theorem dX1_favourite_45 : decode cX1_favourite 45 = .ok (.iload_n 3, 1) := by decide +kernel
theorem dX1_favourite_46 : decode cX1_favourite 46 = .ok (.ireturn, 1) := by decide +kernel
set_option maxRecDepth 20000 in
theorem ggX1_votes_X1_favourite : GoodIn wsX1_votes wsX1_favourite := goodIn_r _ [6, 7, 8, 9, 10, 5, 11, 12, 13, 14, 15, 16, 1, 17, 18, 19, 20, 21, 22, 23, 24, 25, 26, 27, 28, 29, 30, 31, 32, 33, 34, 35, 36, 37, 38, 39, 40, 41, 42, 43, 44, 45, 46, 47, 48, 49, 50, 51, 52, 53, 54, 55, 56, 57, 58, 59, 60, 61, 62, 63, 64, 65, 66, 67, 68, 69, 70, 71, 72, 73, 74, 75, 76, 77, 78, 79, 80, 81, 82, 83, 84, 85, 86] (by decide +kernel) (by decide +kernel)
set_option maxRecDepth 20000 in
theorem gX1_votes_X1_favourite : GoodIn wsX1_votes (wsV RX1 110 RX1 yX1_favourite wsX1_favourite) := goodIn_app (goodIn_of _ (by decide +kernel)) ggX1_votes_X1_favourite
theorem dX1_votes_0 : decode cX1_votes 0 = .ok (.iconst 0, 1) := by decide +kernel
theorem dX1_votes_1 : decode cX1_votes 1 = .ok (.istore_n 2, 1) := by decide +kernel
theorem dX1_votes_2 : decode cX1_votes 2 = .ok (.iconst 0, 1) := by decide +kernel
theorem dX1_votes_3 : decode cX1_votes 3 = .ok (.istore_n 3, 1) := by decide +kernel
theorem dX1_votes_4 : decode cX1_votes 4 = .ok (.iload_n 3, 1) := by decide +kernel
theorem dX1_votes_5 : decode cX1_votes 5 = .ok (.aload_n 0, 1) := by decide +kernel
theorem dX1_votes_6 : decode cX1_votes 6 = .ok (.getfield 56, 3) := by decide +kernel
theorem dX1_votes_9 : decode cX1_votes 9 = .ok (.if_icmp .ge 26, 3) := by decide +kernel
theorem dX1_votes_12 : decode cX1_votes 12 = .ok (.iload_n 2, 1) := by decide +kernel
theorem dX1_votes_13 : decode cX1_votes 13 = .ok (.aload_n 0, 1) := by decide +kernel
theorem dX1_votes_14 : decode cX1_votes 14 = .ok (.iload_n 3, 1) := by decide +kernel
theorem dX1_votes_15 : decode cX1_votes 15 = .ok (.invokevirtual 110, 3) := by decide +kernel
theorem dX1_votes_18 : decode cX1_votes 18 = .ok (.iload_n 1, 1) := by decide +kernel
theorem dX1_votes_19 : decode cX1_votes 19 = .ok (.if_icmp .ne 7, 3) := by decide +kernel
theorem dX1_votes_22 : decode cX1_votes 22 = .ok (.iconst 1, 1) := by decide +kernel
theorem dX1_votes_23 : decode cX1_votes 23 = .ok (.goto 4, 3) := by decide +kernel
theorem dX1_votes_26 : decode cX1_votes 26 = .ok (.iconst 0, 1) := by decide +kernel
theorem dX1_votes_27 : decode cX1_votes 27 = .ok (.iadd, 1) := by decide +kernel
theorem dX1_votes_28 : decode cX1_votes 28 = .ok (.istore_n 2, 1) := by decide +kernel
theorem dX1_votes_29 : decode cX1_votes 29 = .ok (.iinc 3 1, 3) := by decide +kernel
theorem dX1_votes_32 : decode cX1_votes 32 = .ok (.goto (-28), 3) := by decide +kernel
theorem dX1_votes_35 : decode cX1_votes 35 = .ok (.iload_n 2, 1) := by decide +kernel
theorem dX1_votes_36 : decode cX1_votes 36 = .ok (.ireturn, 1) := by decide +kernel
set_option maxRecDepth 20000 in
theorem ggX1_elected_X1_votes : GoodIn wsX1_elected wsX1_votes := goodIn_r _ [6, 7, 8, 9, 10, 5, 11, 1, 12, 13, 14, 15, 16, 17, 18, 19, 20, 21, 22, 23, 24, 25, 26, 27, 28, 29, 30, 31, 32, 33, 34, 35, 36, 37, 38, 39, 40, 41, 42, 43, 44, 45, 46, 47, 48, 49, 50, 51, 52, 53, 54, 55, 56, 57, 58, 59, 60, 61, 62, 63, 64, 65, 66, 67, 68, 69, 70, 71, 72, 73, 74, 75, 76, 77, 78, 79, 80, 81, 82, 83, 84, 85, 86, 87, 88, 89, 90] (by decide +kernel) (by decide +kernel)
set_option maxRecDepth 20000 in
theorem gX1_elected_X1_votes : GoodIn wsX1_elected (wsV RX1 113 RX1 yX1_votes wsX1_votes) := goodIn_app (goodIn_of _ (by decide +kernel)) ggX1_elected_X1_votes
theorem dX1_elected_0 : decode cX1_elected 0 = .ok (.iconst 0, 1) := by decide +kernel
theorem dX1_elected_1 : decode cX1_elected 1 = .ok (.istore_n 1, 1) := by decide +kernel
theorem dX1_elected_2 : decode cX1_elected 2 = .ok (.iconst 1, 1) := by decide +kernel
theorem dX1_elected_3 : decode cX1_elected 3 = .ok (.istore_n 2, 1) := by decide +kernel
theorem dX1_elected_4 : decode cX1_elected 4 = .ok (.iload_n 2, 1) := by decide +kernel
theorem dX1_elected_5 : decode cX1_elected 5 = .ok (.aload_n 0, 1) := by decide +kernel
theorem dX1_elected_6 : decode cX1_elected 6 = .ok (.getfield 46, 3) := by decide +kernel
theorem dX1_elected_9 : decode cX1_elected 9 = .ok (.if_icmp .ge 24, 3) := by decide +kernel
theorem dX1_elected_12 : decode cX1_elected 12 = .ok (.aload_n 0, 1) := by decide +kernel
theorem dX1_elected_13 : decode cX1_elected 13 = .ok (.iload_n 2, 1) := by decide +kernel
theorem dX1_elected_14 : decode cX1_elected 14 = .ok (.invokevirtual 113, 3) := by decide +kernel
theorem dX1_elected_17 : decode cX1_elected 17 = .ok (.aload_n 0, 1) := by decide +kernel
theorem dX1_elected_18 : decode cX1_elected 18 = .ok (.iload_n 1, 1) := by decide +kernel
theorem dX1_elected_19 : decode cX1_elected 19 = .ok (.invokevirtual 113, 3) := by decide +kernel
theorem dX1_elected_22 : decode cX1_elected 22 = .ok (.if_icmp .le 5, 3) := by decide +kernel
theorem dX1_elected_25 : decode cX1_elected 25 = .ok (.iload_n 2, 1) := by decide +kernel
theorem dX1_elected_26 : decode cX1_elected 26 = .ok (.istore_n 1, 1) := by decide +kernel
theorem dX1_elected_27 : decode cX1_elected 27 = .ok (.iinc 2 1, 3) := by decide +kernel
theorem dX1_elected_30 : decode cX1_elected 30 = .ok (.goto (-26), 3) := by decide +kernel
theorem dX1_elected_33 : decode cX1_elected 33 = .ok (.iload_n 1, 1) := by decide +kernel
theorem dX1_elected_34 : decode cX1_elected 34 = .ok (.ireturn, 1) := by decide +kernel
set_option maxRecDepth 20000 in
theorem ggX1_coldsOfAll_X1_coldOf : GoodIn wsX1_coldsOfAll wsX1_coldOf := goodIn_r _ [6, 7, 8, 9, 10, 5, 11, 1, 12, 13, 14, 15, 16, 17, 18, 19, 20, 21] (by decide +kernel) (by decide +kernel)
set_option maxRecDepth 20000 in
theorem gX1_coldsOfAll_X1_coldOf : GoodIn wsX1_coldsOfAll (wsV RX1 116 RX1 yX1_coldOf wsX1_coldOf) := goodIn_app (goodIn_of _ (by decide +kernel)) ggX1_coldsOfAll_X1_coldOf
theorem dX1_coldsOfAll_0 : decode cX1_coldsOfAll 0 = .ok (.iconst 0, 1) := by decide +kernel
theorem dX1_coldsOfAll_1 : decode cX1_coldsOfAll 1 = .ok (.istore_n 1, 1) := by decide +kernel
theorem dX1_coldsOfAll_2 : decode cX1_coldsOfAll 2 = .ok (.iconst 0, 1) := by decide +kernel
theorem dX1_coldsOfAll_3 : decode cX1_coldsOfAll 3 = .ok (.istore_n 2, 1) := by decide +kernel
theorem dX1_coldsOfAll_4 : decode cX1_coldsOfAll 4 = .ok (.iload_n 2, 1) := by decide +kernel
theorem dX1_coldsOfAll_5 : decode cX1_coldsOfAll 5 = .ok (.aload_n 0, 1) := by decide +kernel
theorem dX1_coldsOfAll_6 : decode cX1_coldsOfAll 6 = .ok (.getfield 46, 3) := by decide +kernel
theorem dX1_coldsOfAll_9 : decode cX1_coldsOfAll 9 = .ok (.if_icmp .ge 17, 3) := by decide +kernel
theorem dX1_coldsOfAll_12 : decode cX1_coldsOfAll 12 = .ok (.iload_n 1, 1) := by decide +kernel
theorem dX1_coldsOfAll_13 : decode cX1_coldsOfAll 13 = .ok (.aload_n 0, 1) := by decide +kernel
theorem dX1_coldsOfAll_14 : decode cX1_coldsOfAll 14 = .ok (.iload_n 2, 1) := by decide +kernel
theorem dX1_coldsOfAll_15 : decode cX1_coldsOfAll 15 = .ok (.invokevirtual 116, 3) := by decide +kernel
theorem dX1_coldsOfAll_18 : decode cX1_coldsOfAll 18 = .ok (.iadd, 1) := by decide +kernel
theorem dX1_coldsOfAll_19 : decode cX1_coldsOfAll 19 = .ok (.istore_n 1, 1) := by decide +kernel
theorem dX1_coldsOfAll_20 : decode cX1_coldsOfAll 20 = .ok (.iinc 2 1, 3) := by decide +kernel
theorem dX1_coldsOfAll_23 : decode cX1_coldsOfAll 23 = .ok (.goto (-19), 3) := by decide +kernel
theorem dX1_coldsOfAll_26 : decode cX1_coldsOfAll 26 = .ok (.iload_n 1, 1) := by decide +kernel
theorem dX1_coldsOfAll_27 : decode cX1_coldsOfAll 27 = .ok (.ireturn, 1) := by decide +kernel
set_option maxRecDepth 20000 in
theorem ggX1_honeyOfAll_X1_honeyOf : GoodIn wsX1_honeyOfAll wsX1_honeyOf := goodIn_r _ [6, 7, 8, 9, 10, 5, 11, 1, 12, 13, 14, 15, 16, 17, 18, 19, 20, 21] (by decide +kernel) (by decide +kernel)
set_option maxRecDepth 20000 in
theorem gX1_honeyOfAll_X1_honeyOf : GoodIn wsX1_honeyOfAll (wsV RX1 119 RX1 yX1_honeyOf wsX1_honeyOf) := goodIn_app (goodIn_of _ (by decide +kernel)) ggX1_honeyOfAll_X1_honeyOf
theorem dX1_honeyOfAll_0 : decode cX1_honeyOfAll 0 = .ok (.iconst 0, 1) := by decide +kernel
theorem dX1_honeyOfAll_1 : decode cX1_honeyOfAll 1 = .ok (.istore_n 1, 1) := by decide +kernel
theorem dX1_honeyOfAll_2 : decode cX1_honeyOfAll 2 = .ok (.iconst 0, 1) := by decide +kernel
theorem dX1_honeyOfAll_3 : decode cX1_honeyOfAll 3 = .ok (.istore_n 2, 1) := by decide +kernel
theorem dX1_honeyOfAll_4 : decode cX1_honeyOfAll 4 = .ok (.iload_n 2, 1) := by decide +kernel
theorem dX1_honeyOfAll_5 : decode cX1_honeyOfAll 5 = .ok (.aload_n 0, 1) := by decide +kernel
theorem dX1_honeyOfAll_6 : decode cX1_honeyOfAll 6 = .ok (.getfield 46, 3) := by decide +kernel
theorem dX1_honeyOfAll_9 : decode cX1_honeyOfAll 9 = .ok (.if_icmp .ge 17, 3) := by decide +kernel
theorem dX1_honeyOfAll_12 : decode cX1_honeyOfAll 12 = .ok (.iload_n 1, 1) := by decide +kernel
theorem dX1_honeyOfAll_13 : decode cX1_honeyOfAll 13 = .ok (.aload_n 0, 1) := by decide +kernel
theorem dX1_honeyOfAll_14 : decode cX1_honeyOfAll 14 = .ok (.iload_n 2, 1) := by decide +kernel
theorem dX1_honeyOfAll_15 : decode cX1_honeyOfAll 15 = .ok (.invokevirtual 119, 3) := by decide +kernel
theorem dX1_honeyOfAll_18 : decode cX1_honeyOfAll 18 = .ok (.iadd, 1) := by decide +kernel
theorem dX1_honeyOfAll_19 : decode cX1_honeyOfAll 19 = .ok (.istore_n 1, 1) := by decide +kernel
theorem dX1_honeyOfAll_20 : decode cX1_honeyOfAll 20 = .ok (.iinc 2 1, 3) := by decide +kernel
theorem dX1_honeyOfAll_23 : decode cX1_honeyOfAll 23 = .ok (.goto (-19), 3) := by decide +kernel
theorem dX1_honeyOfAll_26 : decode cX1_honeyOfAll 26 = .ok (.iload_n 1, 1) := by decide +kernel
theorem dX1_honeyOfAll_27 : decode cX1_honeyOfAll 27 = .ok (.ireturn, 1) := by decide +kernel
theorem dX1_isFault_0 : decode cX1_isFault 0 = .ok (.iload_n 0, 1) := by decide +kernel
theorem dX1_isFault_1 : decode cX1_isFault 1 = .ok (.ifCond .lt 12, 3) := by decide +kernel
theorem dX1_isFault_4 : decode cX1_isFault 4 = .ok (.iload_n 0, 1) := by decide +kernel
theorem dX1_isFault_5 : decode cX1_isFault 5 = .ok (.iconst 4, 1) := by decide +kernel
theorem dX1_isFault_6 : decode cX1_isFault 6 = .ok (.if_icmp .ge 7, 3) := by decide +kernel
theorem dX1_isFault_9 : decode cX1_isFault 9 = .ok (.iconst 1, 1) := by decide +kernel
theorem dX1_isFault_10 : decode cX1_isFault 10 = .ok (.goto 4, 3) := by decide +kernel
theorem dX1_isFault_13 : decode cX1_isFault 13 = .ok (.iconst 0, 1) := by decide +kernel
theorem dX1_isFault_14 : decode cX1_isFault 14 = .ok (.ireturn, 1) := by decide +kernel
set_option maxRecDepth 20000 in
theorem ggX2_init_X7_init : GoodIn wsX2_init wsX7_init := goodIn_r _ [3, 4, 5, 6, 7, 8, 9] (by decide +kernel) (by decide +kernel)
set_option maxRecDepth 20000 in
theorem gX2_init_X7_init_n3 : GoodIn wsX2_init (wsX7_init) := ggX2_init_X7_init
theorem dX2_init_0 : decode cX2_init 0 = .ok (.aload_n 0, 1) := by decide +kernel
theorem dX2_init_1 : decode cX2_init 1 = .ok (.invokespecial 3, 3) := by decide +kernel
theorem dX2_init_4 : decode cX2_init 4 = .ok (.return_, 1) := by decide +kernel
theorem dX2_number_0 : decode cX2_number 0 = .ok (.iconst 4, 1) := by decide +kernel
theorem dX2_number_1 : decode cX2_number 1 = .ok (.ireturn, 1) := by decide +kernel
theorem dX2_plainBad_0 : decode cX2_plainBad 0 = .ok (.iload_n 1, 1) := by decide +kernel
theorem dX2_plainBad_1 : decode cX2_plainBad 1 = .ok (.ifCond .eq 8, 3) := by decide +kernel
theorem dX2_plainBad_4 : decode cX2_plainBad 4 = .ok (.iload_n 1, 1) := by decide +kernel
theorem dX2_plainBad_5 : decode cX2_plainBad 5 = .ok (.iconst 1, 1) := by decide +kernel
theorem dX2_plainBad_6 : decode cX2_plainBad 6 = .ok (.if_icmp .ne 9, 3) := by decide +kernel
theorem dX2_plainBad_9 : decode cX2_plainBad 9 = .ok (.iload_n 2, 1) := by decide +kernel
theorem dX2_plainBad_10 : decode cX2_plainBad 10 = .ok (.iconst 2, 1) := by decide +kernel
theorem dX2_plainBad_11 : decode cX2_plainBad 11 = .ok (.idiv, 1) := by decide +kernel
theorem dX2_plainBad_12 : decode cX2_plainBad 12 = .ok (.goto 4, 3) := by decide +kernel
theorem dX2_plainBad_15 : decode cX2_plainBad 15 = .ok (.iload_n 2, 1) := by decide +kernel
theorem dX2_plainBad_16 : decode cX2_plainBad 16 = .ok (.ireturn, 1) := by decide +kernel
set_option maxRecDepth 20000 in
theorem ggX3_init_X6_init : GoodIn wsX3_init wsX6_init := goodIn_r _ [3, 4, 5, 6] (by decide +kernel) (by decide +kernel)
set_option maxRecDepth 20000 in
theorem gX3_init_X6_init_n3 : GoodIn wsX3_init (wsX6_init) := ggX3_init_X6_init
theorem dX3_init_0 : decode cX3_init 0 = .ok (.aload_n 0, 1) := by decide +kernel
theorem dX3_init_1 : decode cX3_init 1 = .ok (.invokespecial 3, 3) := by decide +kernel
theorem dX3_init_4 : decode cX3_init 4 = .ok (.return_, 1) := by decide +kernel
theorem dX3_number_0 : decode cX3_number 0 = .ok (.iconst 3, 1) := by decide +kernel
theorem dX3_number_1 : decode cX3_number 1 = .ok (.ireturn, 1) := by decide +kernel
theorem dX3_plainBad_0 : decode cX3_plainBad 0 = .ok (.iload_n 1, 1) := by decide +kernel
theorem dX3_plainBad_1 : decode cX3_plainBad 1 = .ok (.ifCond .ne 8, 3) := by decide +kernel
theorem dX3_plainBad_4 : decode cX3_plainBad 4 = .ok (.bipush 9, 2) := by decide +kernel
theorem dX3_plainBad_6 : decode cX3_plainBad 6 = .ok (.goto 4, 3) := by decide +kernel
theorem dX3_plainBad_9 : decode cX3_plainBad 9 = .ok (.iload_n 2, 1) := by decide +kernel
theorem dX3_plainBad_10 : decode cX3_plainBad 10 = .ok (.ireturn, 1) := by decide +kernel
theorem dX4_init_0 : decode cX4_init 0 = .ok (.aload_n 0, 1) := by decide +kernel
theorem dX4_init_1 : decode cX4_init 1 = .ok (.invokespecial 3, 3) := by decide +kernel
theorem dX4_init_4 : decode cX4_init 4 = .ok (.aload_n 0, 1) := by decide +kernel
theorem dX4_init_5 : decode cX4_init 5 = .ok (.bipush 8, 2) := by decide +kernel
theorem dX4_init_7 : decode cX4_init 7 = .ok (.newarray .int, 2) := by decide +kernel
theorem dX4_init_9 : decode cX4_init 9 = .ok (.putfield 9, 3) := by decide +kernel
theorem dX4_init_12 : decode cX4_init 12 = .ok (.aload_n 0, 1) := by decide +kernel
theorem dX4_init_13 : decode cX4_init 13 = .ok (.bipush 8, 2) := by decide +kernel
theorem dX4_init_15 : decode cX4_init 15 = .ok (.newarray .int, 2) := by decide +kernel
theorem dX4_init_17 : decode cX4_init 17 = .ok (.putfield 15, 3) := by decide +kernel
theorem dX4_init_20 : decode cX4_init 20 = .ok (.aload_n 0, 1) := by decide +kernel
theorem dX4_init_21 : decode cX4_init 21 = .ok (.bipush 8, 2) := by decide +kernel
theorem dX4_init_23 : decode cX4_init 23 = .ok (.newarray .int, 2) := by decide +kernel
theorem dX4_init_25 : decode cX4_init 25 = .ok (.putfield 18, 3) := by decide +kernel
theorem dX4_init_28 : decode cX4_init 28 = .ok (.aload_n 0, 1) := by decide +kernel
theorem dX4_init_29 : decode cX4_init 29 = .ok (.bipush 8, 2) := by decide +kernel
theorem dX4_init_31 : decode cX4_init 31 = .ok (.newarray .int, 2) := by decide +kernel
theorem dX4_init_33 : decode cX4_init 33 = .ok (.putfield 21, 3) := by decide +kernel
theorem dX4_init_36 : decode cX4_init 36 = .ok (.return_, 1) := by decide +kernel
theorem dX4_add_0 : decode cX4_add 0 = .ok (.aload_n 0, 1) := by decide +kernel
theorem dX4_add_1 : decode cX4_add 1 = .ok (.getfield 24, 3) := by decide +kernel
theorem dX4_add_4 : decode cX4_add 4 = .ok (.ifCond .lt 12, 3) := by decide +kernel
theorem dX4_add_7 : decode cX4_add 7 = .ok (.aload_n 0, 1) := by decide +kernel
theorem dX4_add_8 : decode cX4_add 8 = .ok (.getfield 24, 3) := by decide +kernel
theorem dX4_add_11 : decode cX4_add 11 = .ok (.bipush 8, 2) := by decide +kernel
theorem dX4_add_13 : decode cX4_add 13 = .ok (.if_icmp .lt 5, 3) := by decide +kernel
theorem dX4_add_16 : decode cX4_add 16 = .ok (.iconst 0, 1) := by decide +kernel
theorem dX4_add_17 : decode cX4_add 17 = .ok (.ireturn, 1) := by decide +kernel
theorem dX4_add_18 : decode cX4_add 18 = .ok (.aload_n 0, 1) := by decide +kernel
theorem dX4_add_19 : decode cX4_add 19 = .ok (.getfield 9, 3) := by decide +kernel
theorem dX4_add_22 : decode cX4_add 22 = .ok (.aload_n 0, 1) := by decide +kernel
theorem dX4_add_23 : decode cX4_add 23 = .ok (.getfield 24, 3) := by decide +kernel
theorem dX4_add_26 : decode cX4_add 26 = .ok (.iload_n 1, 1) := by decide +kernel
theorem dX4_add_27 : decode cX4_add 27 = .ok (.iastore, 1) := by decide +kernel
theorem dX4_add_28 : decode cX4_add 28 = .ok (.aload_n 0, 1) := by decide +kernel
theorem dX4_add_29 : decode cX4_add 29 = .ok (.getfield 15, 3) := by decide +kernel
theorem dX4_add_32 : decode cX4_add 32 = .ok (.aload_n 0, 1) := by decide +kernel
theorem dX4_add_33 : decode cX4_add 33 = .ok (.getfield 24, 3) := by decide +kernel
theorem dX4_add_36 : decode cX4_add 36 = .ok (.iload_n 2, 1) := by decide +kernel
theorem dX4_add_37 : decode cX4_add 37 = .ok (.iastore, 1) := by decide +kernel
theorem dX4_add_38 : decode cX4_add 38 = .ok (.aload_n 0, 1) := by decide +kernel
theorem dX4_add_39 : decode cX4_add 39 = .ok (.getfield 18, 3) := by decide +kernel
theorem dX4_add_42 : decode cX4_add 42 = .ok (.aload_n 0, 1) := by decide +kernel
theorem dX4_add_43 : decode cX4_add 43 = .ok (.getfield 24, 3) := by decide +kernel
theorem dX4_add_46 : decode cX4_add 46 = .ok (.iload_n 3, 1) := by decide +kernel
theorem dX4_add_47 : decode cX4_add 47 = .ok (.iastore, 1) := by decide +kernel
theorem dX4_add_48 : decode cX4_add 48 = .ok (.aload_n 0, 1) := by decide +kernel
theorem dX4_add_49 : decode cX4_add 49 = .ok (.getfield 21, 3) := by decide +kernel
theorem dX4_add_52 : decode cX4_add 52 = .ok (.aload_n 0, 1) := by decide +kernel
theorem dX4_add_53 : decode cX4_add 53 = .ok (.getfield 24, 3) := by decide +kernel
theorem dX4_add_56 : decode cX4_add 56 = .ok (.iload 4, 2) := by decide +kernel
theorem dX4_add_58 : decode cX4_add 58 = .ok (.ifCond .eq 7, 3) := by decide +kernel
theorem dX4_add_61 : decode cX4_add 61 = .ok (.iconst 1, 1) := by decide +kernel
theorem dX4_add_62 : decode cX4_add 62 = .ok (.goto 4, 3) := by decide +kernel
theorem dX4_add_65 : decode cX4_add 65 = .ok (.iconst 0, 1) := by decide +kernel
theorem dX4_add_66 : decode cX4_add 66 = .ok (.iastore, 1) := by decide +kernel
theorem dX4_add_67 : decode cX4_add 67 = .ok (.aload_n 0, 1) := by decide +kernel
theorem dX4_add_68 : decode cX4_add 68 = .ok (.dup, 1) := by decide +kernel
theorem dX4_add_69 : decode cX4_add 69 = .ok (.getfield 24, 3) := by decide +kernel
theorem dX4_add_72 : decode cX4_add 72 = .ok (.iconst 1, 1) := by decide +kernel
theorem dX4_add_73 : decode cX4_add 73 = .ok (.iadd, 1) := by decide +kernel
theorem dX4_add_74 : decode cX4_add 74 = .ok (.putfield 24, 3) := by decide +kernel
theorem dX4_add_77 : decode cX4_add 77 = .ok (.iconst 1, 1) := by decide +kernel
theorem dX4_add_78 : decode cX4_add 78 = .ok (.ireturn, 1) := by decide +kernel
theorem dX4_clear_0 : decode cX4_clear 0 = .ok (.aload_n 0, 1) := by decide +kernel
theorem dX4_clear_1 : decode cX4_clear 1 = .ok (.getfield 24, 3) := by decide +kernel
theorem dX4_clear_4 : decode cX4_clear 4 = .ok (.istore_n 1, 1) := by decide +kernel
theorem dX4_clear_5 : decode cX4_clear 5 = .ok (.aload_n 0, 1) := by decide +kernel
theorem dX4_clear_6 : decode cX4_clear 6 = .ok (.iconst 0, 1) := by decide +kernel
theorem dX4_clear_7 : decode cX4_clear 7 = .ok (.putfield 24, 3) := by decide +kernel
theorem dX4_clear_10 : decode cX4_clear 10 = .ok (.iload_n 1, 1) := by decide +kernel
theorem dX4_clear_11 : decode cX4_clear 11 = .ok (.ireturn, 1) := by decide +kernel
set_option maxRecDepth 20000 in
theorem ggX4_takeFrom_X9_copyRow : GoodIn wsX4_takeFrom wsX9_copyRow := goodIn_r _ [8, 9, 10, 11, 12, 13, 14, 15, 16] (by decide +kernel) (by decide +kernel)
set_option maxRecDepth 20000 in
theorem gX4_takeFrom_X9_copyRow_n28 : GoodIn wsX4_takeFrom (wsX9_copyRow) := ggX4_takeFrom_X9_copyRow
theorem dX4_takeFrom_0 : decode cX4_takeFrom 0 = .ok (.aload_n 1, 1) := by decide +kernel
theorem dX4_takeFrom_1 : decode cX4_takeFrom 1 = .ok (.getfield 9, 3) := by decide +kernel
theorem dX4_takeFrom_4 : decode cX4_takeFrom 4 = .ok (.aload_n 0, 1) := by decide +kernel
theorem dX4_takeFrom_5 : decode cX4_takeFrom 5 = .ok (.getfield 9, 3) := by decide +kernel
theorem dX4_takeFrom_8 : decode cX4_takeFrom 8 = .ok (.invokestatic 28, 3) := by decide +kernel
theorem dX4_takeFrom_11 : decode cX4_takeFrom 11 = .ok (.aload_n 1, 1) := by decide +kernel
theorem dX4_takeFrom_12 : decode cX4_takeFrom 12 = .ok (.getfield 15, 3) := by decide +kernel
theorem dX4_takeFrom_15 : decode cX4_takeFrom 15 = .ok (.aload_n 0, 1) := by decide +kernel
theorem dX4_takeFrom_16 : decode cX4_takeFrom 16 = .ok (.getfield 15, 3) := by decide +kernel
theorem dX4_takeFrom_19 : decode cX4_takeFrom 19 = .ok (.invokestatic 28, 3) := by decide +kernel
theorem dX4_takeFrom_22 : decode cX4_takeFrom 22 = .ok (.aload_n 1, 1) := by decide +kernel
theorem dX4_takeFrom_23 : decode cX4_takeFrom 23 = .ok (.getfield 18, 3) := by decide +kernel
theorem dX4_takeFrom_26 : decode cX4_takeFrom 26 = .ok (.aload_n 0, 1) := by decide +kernel
theorem dX4_takeFrom_27 : decode cX4_takeFrom 27 = .ok (.getfield 18, 3) := by decide +kernel
theorem dX4_takeFrom_30 : decode cX4_takeFrom 30 = .ok (.invokestatic 28, 3) := by decide +kernel
theorem dX4_takeFrom_33 : decode cX4_takeFrom 33 = .ok (.aload_n 1, 1) := by decide +kernel
theorem dX4_takeFrom_34 : decode cX4_takeFrom 34 = .ok (.getfield 21, 3) := by decide +kernel
theorem dX4_takeFrom_37 : decode cX4_takeFrom 37 = .ok (.aload_n 0, 1) := by decide +kernel
theorem dX4_takeFrom_38 : decode cX4_takeFrom 38 = .ok (.getfield 21, 3) := by decide +kernel
theorem dX4_takeFrom_41 : decode cX4_takeFrom 41 = .ok (.invokestatic 28, 3) := by decide +kernel
theorem dX4_takeFrom_44 : decode cX4_takeFrom 44 = .ok (.aload_n 0, 1) := by decide +kernel
theorem dX4_takeFrom_45 : decode cX4_takeFrom 45 = .ok (.aload_n 1, 1) := by decide +kernel
theorem dX4_takeFrom_46 : decode cX4_takeFrom 46 = .ok (.getfield 24, 3) := by decide +kernel
theorem dX4_takeFrom_49 : decode cX4_takeFrom 49 = .ok (.putfield 24, 3) := by decide +kernel
theorem dX4_takeFrom_52 : decode cX4_takeFrom 52 = .ok (.return_, 1) := by decide +kernel
set_option maxRecDepth 20000 in
theorem ggX4_wouldBeSo_X1_bad : GoodIn wsX4_wouldBeSo wsX1_bad := goodIn_r _ [10, 11, 12, 13, 14, 15, 16, 17, 18, 19, 20, 21, 22, 23, 9, 24, 25, 26, 27, 28, 29, 30, 31, 32, 33, 34, 35, 36, 37, 38, 39, 40, 41, 42, 43, 44, 45, 46, 47, 48, 49, 50, 51, 52, 53, 54, 55, 56, 57, 58, 59, 60, 61, 62, 68, 69, 70, 71, 72, 73, 74, 75, 76, 77, 78, 79, 80, 81, 82] (by decide +kernel) (by decide +kernel)
set_option maxRecDepth 20000 in
theorem gX4_wouldBeSo_X1_bad : GoodIn wsX4_wouldBeSo (wsV RX4 32 RX1 yX1_bad wsX1_bad) := goodIn_app (goodIn_of _ (by decide +kernel)) ggX4_wouldBeSo_X1_bad
theorem dX4_wouldBeSo_0 : decode cX4_wouldBeSo 0 = .ok (.iconst 0, 1) := by decide +kernel
theorem dX4_wouldBeSo_1 : decode cX4_wouldBeSo 1 = .ok (.istore 4, 2) := by decide +kernel
theorem dX4_wouldBeSo_3 : decode cX4_wouldBeSo 3 = .ok (.iload 4, 2) := by decide +kernel
theorem dX4_wouldBeSo_5 : decode cX4_wouldBeSo 5 = .ok (.aload_n 0, 1) := by decide +kernel
theorem dX4_wouldBeSo_6 : decode cX4_wouldBeSo 6 = .ok (.getfield 24, 3) := by decide +kernel
theorem dX4_wouldBeSo_9 : decode cX4_wouldBeSo 9 = .ok (.if_icmp .ge 75, 3) := by decide +kernel
theorem dX4_wouldBeSo_12 : decode cX4_wouldBeSo 12 = .ok (.iload 4, 2) := by decide +kernel
theorem dX4_wouldBeSo_14 : decode cX4_wouldBeSo 14 = .ok (.bipush 8, 2) := by decide +kernel
theorem dX4_wouldBeSo_16 : decode cX4_wouldBeSo 16 = .ok (.if_icmp .ge 68, 3) := by decide +kernel
theorem dX4_wouldBeSo_19 : decode cX4_wouldBeSo 19 = .ok (.aload_n 1, 1) := by decide +kernel
theorem dX4_wouldBeSo_20 : decode cX4_wouldBeSo 20 = .ok (.aload_n 0, 1) := by decide +kernel
theorem dX4_wouldBeSo_21 : decode cX4_wouldBeSo 21 = .ok (.getfield 15, 3) := by decide +kernel
theorem dX4_wouldBeSo_24 : decode cX4_wouldBeSo 24 = .ok (.iload 4, 2) := by decide +kernel
theorem dX4_wouldBeSo_26 : decode cX4_wouldBeSo 26 = .ok (.iaload, 1) := by decide +kernel
theorem dX4_wouldBeSo_27 : decode cX4_wouldBeSo 27 = .ok (.iload_n 3, 1) := by decide +kernel
theorem dX4_wouldBeSo_28 : decode cX4_wouldBeSo 28 = .ok (.invokevirtual 32, 3) := by decide +kernel
theorem dX4_wouldBeSo_31 : decode cX4_wouldBeSo 31 = .ok (.aload_n 1, 1) := by decide +kernel
theorem dX4_wouldBeSo_32 : decode cX4_wouldBeSo 32 = .ok (.aload_n 0, 1) := by decide +kernel
theorem dX4_wouldBeSo_33 : decode cX4_wouldBeSo 33 = .ok (.getfield 18, 3) := by decide +kernel
theorem dX4_wouldBeSo_36 : decode cX4_wouldBeSo 36 = .ok (.iload 4, 2) := by decide +kernel
theorem dX4_wouldBeSo_38 : decode cX4_wouldBeSo 38 = .ok (.iaload, 1) := by decide +kernel
theorem dX4_wouldBeSo_39 : decode cX4_wouldBeSo 39 = .ok (.iload_n 3, 1) := by decide +kernel
theorem dX4_wouldBeSo_40 : decode cX4_wouldBeSo 40 = .ok (.invokevirtual 32, 3) := by decide +kernel
theorem dX4_wouldBeSo_43 : decode cX4_wouldBeSo 43 = .ok (.if_icmp .le 7, 3) := by decide +kernel
theorem dX4_wouldBeSo_46 : decode cX4_wouldBeSo 46 = .ok (.iconst 1, 1) := by decide +kernel
theorem dX4_wouldBeSo_47 : decode cX4_wouldBeSo 47 = .ok (.goto 4, 3) := by decide +kernel
theorem dX4_wouldBeSo_50 : decode cX4_wouldBeSo 50 = .ok (.iconst 0, 1) := by decide +kernel
theorem dX4_wouldBeSo_51 : decode cX4_wouldBeSo 51 = .ok (.istore 5, 2) := by decide +kernel
theorem dX4_wouldBeSo_53 : decode cX4_wouldBeSo 53 = .ok (.aload_n 0, 1) := by decide +kernel
theorem dX4_wouldBeSo_54 : decode cX4_wouldBeSo 54 = .ok (.getfield 9, 3) := by decide +kernel
theorem dX4_wouldBeSo_57 : decode cX4_wouldBeSo 57 = .ok (.iload 4, 2) := by decide +kernel
theorem dX4_wouldBeSo_59 : decode cX4_wouldBeSo 59 = .ok (.iaload, 1) := by decide +kernel
theorem dX4_wouldBeSo_60 : decode cX4_wouldBeSo 60 = .ok (.iload_n 2, 1) := by decide +kernel
theorem dX4_wouldBeSo_61 : decode cX4_wouldBeSo 61 = .ok (.if_icmp .ne 17, 3) := by decide +kernel
theorem dX4_wouldBeSo_64 : decode cX4_wouldBeSo 64 = .ok (.aload_n 0, 1) := by decide +kernel
theorem dX4_wouldBeSo_65 : decode cX4_wouldBeSo 65 = .ok (.getfield 21, 3) := by decide +kernel
theorem dX4_wouldBeSo_68 : decode cX4_wouldBeSo 68 = .ok (.iload 4, 2) := by decide +kernel
theorem dX4_wouldBeSo_70 : decode cX4_wouldBeSo 70 = .ok (.iaload, 1) := by decide +kernel
theorem dX4_wouldBeSo_71 : decode cX4_wouldBeSo 71 = .ok (.iload 5, 2) := by decide +kernel
theorem dX4_wouldBeSo_73 : decode cX4_wouldBeSo 73 = .ok (.if_icmp .eq 5, 3) := by decide +kernel
theorem dX4_wouldBeSo_76 : decode cX4_wouldBeSo 76 = .ok (.iconst 0, 1) := by decide +kernel
theorem dX4_wouldBeSo_77 : decode cX4_wouldBeSo 77 = .ok (.ireturn, 1) := by decide +kernel
theorem dX4_wouldBeSo_78 : decode cX4_wouldBeSo 78 = .ok (.iinc 4 1, 3) := by decide +kernel
theorem dX4_wouldBeSo_81 : decode cX4_wouldBeSo 81 = .ok (.goto (-78), 3) := by decide +kernel
theorem dX4_wouldBeSo_84 : decode cX4_wouldBeSo 84 = .ok (.iconst 1, 1) := by decide +kernel
theorem dX4_wouldBeSo_85 : decode cX4_wouldBeSo 85 = .ok (.ireturn, 1) := by decide +kernel
theorem dX5_init_0 : decode cX5_init 0 = .ok (.aload_n 0, 1) := by decide +kernel
theorem dX5_init_1 : decode cX5_init 1 = .ok (.invokespecial 3, 3) := by decide +kernel
theorem dX5_init_4 : decode cX5_init 4 = .ok (.aload_n 0, 1) := by decide +kernel
theorem dX5_init_5 : decode cX5_init 5 = .ok (.bipush 32, 2) := by decide +kernel
theorem dX5_init_7 : decode cX5_init 7 = .ok (.newarray .int, 2) := by decide +kernel
theorem dX5_init_9 : decode cX5_init 9 = .ok (.putfield 9, 3) := by decide +kernel
theorem dX5_init_12 : decode cX5_init 12 = .ok (.return_, 1) := by decide +kernel
theorem dX5_write_0 : decode cX5_write 0 = .ok (.aload_n 0, 1) := by decide +kernel
theorem dX5_write_1 : decode cX5_write 1 = .ok (.getfield 15, 3) := by decide +kernel
theorem dX5_write_4 : decode cX5_write 4 = .ok (.ifCond .lt 15, 3) := by decide +kernel
theorem dX5_write_7 : decode cX5_write 7 = .ok (.aload_n 0, 1) := by decide +kernel
theorem dX5_write_8 : decode cX5_write 8 = .ok (.getfield 15, 3) := by decide +kernel
theorem dX5_write_11 : decode cX5_write 11 = .ok (.aload_n 0, 1) := by decide +kernel
theorem dX5_write_12 : decode cX5_write 12 = .ok (.getfield 9, 3) := by decide +kernel
theorem dX5_write_15 : decode cX5_write 15 = .ok (.arraylength, 1) := by decide +kernel
theorem dX5_write_16 : decode cX5_write 16 = .ok (.if_icmp .lt 5, 3) := by decide +kernel
theorem dX5_write_19 : decode cX5_write 19 = .ok (.iconst 0, 1) := by decide +kernel
theorem dX5_write_20 : decode cX5_write 20 = .ok (.ireturn, 1) := by decide +kernel
theorem dX5_write_21 : decode cX5_write 21 = .ok (.aload_n 0, 1) := by decide +kernel
theorem dX5_write_22 : decode cX5_write 22 = .ok (.getfield 9, 3) := by decide +kernel
theorem dX5_write_25 : decode cX5_write 25 = .ok (.aload_n 0, 1) := by decide +kernel
theorem dX5_write_26 : decode cX5_write 26 = .ok (.getfield 15, 3) := by decide +kernel
theorem dX5_write_29 : decode cX5_write 29 = .ok (.iload_n 1, 1) := by decide +kernel
theorem dX5_write_30 : decode cX5_write 30 = .ok (.iastore, 1) := by decide +kernel
theorem dX5_write_31 : decode cX5_write 31 = .ok (.aload_n 0, 1) := by decide +kernel
theorem dX5_write_32 : decode cX5_write 32 = .ok (.dup, 1) := by decide +kernel
theorem dX5_write_33 : decode cX5_write 33 = .ok (.getfield 15, 3) := by decide +kernel
theorem dX5_write_36 : decode cX5_write 36 = .ok (.iconst 1, 1) := by decide +kernel
theorem dX5_write_37 : decode cX5_write 37 = .ok (.iadd, 1) := by decide +kernel
theorem dX5_write_38 : decode cX5_write 38 = .ok (.putfield 15, 3) := by decide +kernel
theorem dX5_write_41 : decode cX5_write 41 = .ok (.iconst 1, 1) := by decide +kernel
theorem dX5_write_42 : decode cX5_write 42 = .ok (.ireturn, 1) := by decide +kernel
theorem dX5_wipe_0 : decode cX5_wipe 0 = .ok (.aload_n 0, 1) := by decide +kernel
theorem dX5_wipe_1 : decode cX5_wipe 1 = .ok (.getfield 15, 3) := by decide +kernel
theorem dX5_wipe_4 : decode cX5_wipe 4 = .ok (.istore_n 1, 1) := by decide +kernel
theorem dX5_wipe_5 : decode cX5_wipe 5 = .ok (.aload_n 0, 1) := by decide +kernel
theorem dX5_wipe_6 : decode cX5_wipe 6 = .ok (.iconst 0, 1) := by decide +kernel
theorem dX5_wipe_7 : decode cX5_wipe 7 = .ok (.putfield 15, 3) := by decide +kernel
theorem dX5_wipe_10 : decode cX5_wipe 10 = .ok (.iload_n 1, 1) := by decide +kernel
theorem dX5_wipe_11 : decode cX5_wipe 11 = .ok (.ireturn, 1) := by decide +kernel
theorem dX5_codeAt_0 : decode cX5_codeAt 0 = .ok (.iload_n 1, 1) := by decide +kernel
theorem dX5_codeAt_1 : decode cX5_codeAt 1 = .ok (.ifCond .lt 29, 3) := by decide +kernel
theorem dX5_codeAt_4 : decode cX5_codeAt 4 = .ok (.iload_n 1, 1) := by decide +kernel
theorem dX5_codeAt_5 : decode cX5_codeAt 5 = .ok (.aload_n 0, 1) := by decide +kernel
theorem dX5_codeAt_6 : decode cX5_codeAt 6 = .ok (.getfield 15, 3) := by decide +kernel
theorem dX5_codeAt_9 : decode cX5_codeAt 9 = .ok (.if_icmp .ge 21, 3) := by decide +kernel
theorem dX5_codeAt_12 : decode cX5_codeAt 12 = .ok (.iload_n 1, 1) := by decide +kernel
theorem dX5_codeAt_13 : decode cX5_codeAt 13 = .ok (.aload_n 0, 1) := by decide +kernel
theorem dX5_codeAt_14 : decode cX5_codeAt 14 = .ok (.getfield 9, 3) := by decide +kernel
theorem dX5_codeAt_17 : decode cX5_codeAt 17 = .ok (.arraylength, 1) := by decide +kernel
theorem dX5_codeAt_18 : decode cX5_codeAt 18 = .ok (.if_icmp .ge 12, 3) := by decide +kernel
theorem dX5_codeAt_21 : decode cX5_codeAt 21 = .ok (.aload_n 0, 1) := by decide +kernel
theorem dX5_codeAt_22 : decode cX5_codeAt 22 = .ok (.getfield 9, 3) := by decide +kernel
theorem dX5_codeAt_25 : decode cX5_codeAt 25 = .ok (.iload_n 1, 1) := by decide +kernel
theorem dX5_codeAt_26 : decode cX5_codeAt 26 = .ok (.iaload, 1) := by decide +kernel
theorem dX5_codeAt_27 : decode cX5_codeAt 27 = .ok (.goto 4, 3) := by decide +kernel
theorem dX5_codeAt_30 : decode cX5_codeAt 30 = .ok (.iconst 0, 1) := by decide +kernel
theorem dX5_codeAt_31 : decode cX5_codeAt 31 = .ok (.ireturn, 1) := by decide +kernel
set_option maxRecDepth 20000 in
theorem ggX5_digitAt_X5_codeAt : GoodIn wsX5_digitAt wsX5_codeAt := goodIn_r _ [5, 6, 7, 8, 9] (by decide +kernel) (by decide +kernel)
set_option maxRecDepth 20000 in
theorem gX5_digitAt_X5_codeAt : GoodIn wsX5_digitAt (wsV RX5 19 RX5 yX5_codeAt wsX5_codeAt) := goodIn_app (goodIn_of _ (by decide +kernel)) ggX5_digitAt_X5_codeAt
theorem dX5_digitAt_0 : decode cX5_digitAt 0 = .ok (.aload_n 0, 1) := by decide +kernel
theorem dX5_digitAt_1 : decode cX5_digitAt 1 = .ok (.iload_n 1, 1) := by decide +kernel
theorem dX5_digitAt_2 : decode cX5_digitAt 2 = .ok (.invokevirtual 19, 3) := by decide +kernel
theorem dX5_digitAt_5 : decode cX5_digitAt 5 = .ok (.bipush 48, 2) := by decide +kernel
theorem dX5_digitAt_7 : decode cX5_digitAt 7 = .ok (.isub, 1) := by decide +kernel
theorem dX5_digitAt_8 : decode cX5_digitAt 8 = .ok (.ireturn, 1) := by decide +kernel
set_option maxRecDepth 20000 in
theorem ggX5_kindAt_X5_codeAt : GoodIn wsX5_kindAt wsX5_codeAt := goodIn_r _ [5, 6, 7, 100, 101] (by decide +kernel) (by decide +kernel)
set_option maxRecDepth 20000 in
theorem gX5_kindAt_X5_codeAt : GoodIn wsX5_kindAt (wsV RX5 19 RX5 yX5_codeAt wsX5_codeAt) := goodIn_app (goodIn_of _ (by decide +kernel)) ggX5_kindAt_X5_codeAt
set_option maxRecDepth 20000 in
theorem ggX5_kindAt_X5_kindOf : GoodIn wsX5_kindAt wsX5_kindOf := goodIn_r _ [10, 11, 12, 13, 14, 15, 16, 17, 18, 19, 20, 21, 22, 23, 24, 25, 26, 27, 28, 29, 30, 31, 32, 33, 34, 35, 36, 37, 38, 39, 40, 41, 42, 43, 44, 45, 46, 47, 48, 49, 50, 51, 52, 53, 54, 55, 56, 57, 58, 59, 60, 61, 62, 63, 64, 65, 66, 67, 68, 69, 70, 71, 72, 73, 74, 75, 76, 77, 78, 79, 80, 81, 82, 83, 84, 85, 86, 87, 88, 89, 90, 91, 92, 93, 94, 95, 96, 97, 98, 99] (by decide +kernel) (by decide +kernel)
set_option maxRecDepth 20000 in
theorem gX5_kindAt_X5_kindOf : GoodIn wsX5_kindAt (va_wsS RX5 23 yX5_kindOf wsX5_kindOf) := goodIn_app (goodIn_of _ (by decide +kernel)) ggX5_kindAt_X5_kindOf
theorem dX5_kindAt_0 : decode cX5_kindAt 0 = .ok (.aload_n 0, 1) := by decide +kernel
theorem dX5_kindAt_1 : decode cX5_kindAt 1 = .ok (.iload_n 1, 1) := by decide +kernel
theorem dX5_kindAt_2 : decode cX5_kindAt 2 = .ok (.invokevirtual 19, 3) := by decide +kernel
theorem dX5_kindAt_5 : decode cX5_kindAt 5 = .ok (.invokestatic 23, 3) := by decide +kernel
theorem dX5_kindAt_8 : decode cX5_kindAt 8 = .ok (.ireturn, 1) := by decide +kernel
set_option maxRecDepth 20000 in
theorem ggX5_firstWrong_X5_codeAt : GoodIn wsX5_firstWrong wsX5_codeAt := goodIn_r _ [6, 1, 7, 106, 107] (by decide +kernel) (by decide +kernel)
set_option maxRecDepth 20000 in
theorem gX5_firstWrong_X5_codeAt : GoodIn wsX5_firstWrong (wsV RX5 19 RX5 yX5_codeAt wsX5_codeAt) := goodIn_app (goodIn_of _ (by decide +kernel)) ggX5_firstWrong_X5_codeAt
set_option maxRecDepth 20000 in
theorem ggX5_firstWrong_X5_fitsSingers : GoodIn wsX5_firstWrong wsX5_fitsSingers := goodIn_r _ [10, 11, 12, 5, 13, 14, 15, 16, 17, 18, 19, 20, 21, 22, 23, 24, 25, 26, 27, 28, 29, 30, 31, 32, 33, 34, 35, 36, 37, 38, 39, 40, 41, 42, 43, 44, 45, 46, 47, 48, 49, 50, 51, 52, 53, 54, 55, 56, 57, 58, 59, 60, 61, 62, 63, 64, 65, 66, 67, 68, 69, 70, 71, 72, 73, 74, 75, 76, 77, 78, 79, 80, 81, 82, 83, 84, 85, 86, 87, 88, 89, 90, 91, 92, 93, 94, 95, 96, 97, 98, 99, 100, 101, 102] (by decide +kernel) (by decide +kernel)
set_option maxRecDepth 20000 in
theorem gX5_firstWrong_X5_fitsSingers : GoodIn wsX5_firstWrong (va_wsS RX5 26 yX5_fitsSingers wsX5_fitsSingers) := goodIn_app (goodIn_of _ (by decide +kernel)) ggX5_firstWrong_X5_fitsSingers
set_option maxRecDepth 20000 in
theorem ggX5_firstWrong_X5_fitsWidows : GoodIn wsX5_firstWrong wsX5_fitsWidows := goodIn_r _ [105] (by decide +kernel) (by decide +kernel)
set_option maxRecDepth 20000 in
theorem gX5_firstWrong_X5_fitsWidows : GoodIn wsX5_firstWrong (va_wsS RX5 30 yX5_fitsWidows wsX5_fitsWidows) := goodIn_app (goodIn_of _ (by decide +kernel)) ggX5_firstWrong_X5_fitsWidows
theorem dX5_firstWrong_0 : decode cX5_firstWrong 0 = .ok (.iconst (-1), 1) := by decide +kernel
theorem dX5_firstWrong_1 : decode cX5_firstWrong 1 = .ok (.istore_n 1, 1) := by decide +kernel
theorem dX5_firstWrong_2 : decode cX5_firstWrong 2 = .ok (.iconst 0, 1) := by decide +kernel
theorem dX5_firstWrong_3 : decode cX5_firstWrong 3 = .ok (.istore_n 2, 1) := by decide +kernel
theorem dX5_firstWrong_4 : decode cX5_firstWrong 4 = .ok (.iload_n 2, 1) := by decide +kernel
theorem dX5_firstWrong_5 : decode cX5_firstWrong 5 = .ok (.aload_n 0, 1) := by decide +kernel
theorem dX5_firstWrong_6 : decode cX5_firstWrong 6 = .ok (.getfield 15, 3) := by decide +kernel
theorem dX5_firstWrong_9 : decode cX5_firstWrong 9 = .ok (.if_icmp .ge 52, 3) := by decide +kernel
theorem dX5_firstWrong_12 : decode cX5_firstWrong 12 = .ok (.aload_n 0, 1) := by decide +kernel
theorem dX5_firstWrong_13 : decode cX5_firstWrong 13 = .ok (.iload_n 2, 1) := by decide +kernel
theorem dX5_firstWrong_14 : decode cX5_firstWrong 14 = .ok (.invokevirtual 19, 3) := by decide +kernel
theorem dX5_firstWrong_17 : decode cX5_firstWrong 17 = .ok (.istore_n 3, 1) := by decide +kernel
theorem dX5_firstWrong_18 : decode cX5_firstWrong 18 = .ok (.iload_n 1, 1) := by decide +kernel
theorem dX5_firstWrong_19 : decode cX5_firstWrong 19 = .ok (.iconst (-1), 1) := by decide +kernel
theorem dX5_firstWrong_20 : decode cX5_firstWrong 20 = .ok (.if_icmp .ne 11, 3) := by decide +kernel
theorem dX5_firstWrong_23 : decode cX5_firstWrong 23 = .ok (.iload_n 3, 1) := by decide +kernel
theorem dX5_firstWrong_24 : decode cX5_firstWrong 24 = .ok (.iload_n 2, 1) := by decide +kernel
theorem dX5_firstWrong_25 : decode cX5_firstWrong 25 = .ok (.invokestatic 26, 3) := by decide +kernel
theorem dX5_firstWrong_28 : decode cX5_firstWrong 28 = .ok (.goto 10, 3) := by decide +kernel
theorem dX5_firstWrong_31 : decode cX5_firstWrong 31 = .ok (.iload_n 3, 1) := by decide +kernel
theorem dX5_firstWrong_32 : decode cX5_firstWrong 32 = .ok (.iload_n 2, 1) := by decide +kernel
theorem dX5_firstWrong_33 : decode cX5_firstWrong 33 = .ok (.iload_n 1, 1) := by decide +kernel
theorem dX5_firstWrong_34 : decode cX5_firstWrong 34 = .ok (.isub, 1) := by decide +kernel
theorem dX5_firstWrong_35 : decode cX5_firstWrong 35 = .ok (.invokestatic 30, 3) := by decide +kernel
theorem dX5_firstWrong_38 : decode cX5_firstWrong 38 = .ok (.istore 4, 2) := by decide +kernel
theorem dX5_firstWrong_40 : decode cX5_firstWrong 40 = .ok (.iload 4, 2) := by decide +kernel
theorem dX5_firstWrong_42 : decode cX5_firstWrong 42 = .ok (.ifCond .ne 5, 3) := by decide +kernel
theorem dX5_firstWrong_45 : decode cX5_firstWrong 45 = .ok (.iload_n 2, 1) := by decide +kernel
theorem dX5_firstWrong_46 : decode cX5_firstWrong 46 = .ok (.ireturn, 1) := by decide +kernel
theorem dX5_firstWrong_47 : decode cX5_firstWrong 47 = .ok (.iload_n 3, 1) := by decide +kernel
theorem dX5_firstWrong_48 : decode cX5_firstWrong 48 = .ok (.bipush 59, 2) := by decide +kernel
theorem dX5_firstWrong_50 : decode cX5_firstWrong 50 = .ok (.if_icmp .ne 5, 3) := by decide +kernel
theorem dX5_firstWrong_53 : decode cX5_firstWrong 53 = .ok (.iload_n 2, 1) := by decide +kernel
theorem dX5_firstWrong_54 : decode cX5_firstWrong 54 = .ok (.istore_n 1, 1) := by decide +kernel
theorem dX5_firstWrong_55 : decode cX5_firstWrong 55 = .ok (.iinc 2 1, 3) := by decide +kernel
theorem dX5_firstWrong_58 : decode cX5_firstWrong 58 = .ok (.goto (-54), 3) := by decide +kernel
theorem dX5_firstWrong_61 : decode cX5_firstWrong 61 = .ok (.aload_n 0, 1) := by decide +kernel
theorem dX5_firstWrong_62 : decode cX5_firstWrong 62 = .ok (.getfield 15, 3) := by decide +kernel
theorem dX5_firstWrong_65 : decode cX5_firstWrong 65 = .ok (.ireturn, 1) := by decide +kernel
set_option maxRecDepth 20000 in
theorem ggX5_isWhole_X5_firstWrong : GoodIn wsX5_isWhole wsX5_firstWrong := goodIn_r _ [6, 1, 7, 8, 9, 5, 10, 11, 12, 13, 14, 15, 16, 17, 18, 19, 20, 21, 22, 23, 24, 25, 26, 27, 28, 29, 30, 31, 32, 33, 34, 35, 36, 37, 38, 39, 40, 41, 42, 43, 44, 45, 46, 47, 48, 49, 50, 51, 52, 53, 54, 55, 56, 57, 58, 59, 60, 61, 62, 63, 64, 65, 66, 67, 68, 69, 70, 71, 72, 73, 74, 75, 76, 77, 78, 79, 80, 81, 82, 83, 84, 85, 86, 87, 88, 89, 90, 91, 92, 93, 94, 95, 96, 97, 98, 99, 100, 101, 102, 103, 104, 105, 106, 107, 108, 109, 114, 115] (by decide +kernel) (by decide +kernel)
set_option maxRecDepth 20000 in
theorem gX5_isWhole_X5_firstWrong : GoodIn wsX5_isWhole (wsV RX5 33 RX5 yX5_firstWrong wsX5_firstWrong) := goodIn_app (goodIn_of _ (by decide +kernel)) ggX5_isWhole_X5_firstWrong
set_option maxRecDepth 20000 in
theorem ggX5_isWhole_X5_singersEnd : GoodIn wsX5_isWhole wsX5_singersEnd := goodIn_r _ [113, 1, 7, 8, 9, 5, 10, 11, 114, 115] (by decide +kernel) (by decide +kernel)
set_option maxRecDepth 20000 in
theorem gX5_isWhole_X5_singersEnd : GoodIn wsX5_isWhole (wsV RX5 37 RX5 yX5_singersEnd wsX5_singersEnd) := goodIn_app (goodIn_of _ (by decide +kernel)) ggX5_isWhole_X5_singersEnd
theorem dX5_isWhole_0 : decode cX5_isWhole 0 = .ok (.aload_n 0, 1) := by decide +kernel
theorem dX5_isWhole_1 : decode cX5_isWhole 1 = .ok (.invokevirtual 33, 3) := by decide +kernel
theorem dX5_isWhole_4 : decode cX5_isWhole 4 = .ok (.aload_n 0, 1) := by decide +kernel
theorem dX5_isWhole_5 : decode cX5_isWhole 5 = .ok (.getfield 15, 3) := by decide +kernel
theorem dX5_isWhole_8 : decode cX5_isWhole 8 = .ok (.if_icmp .ne 20, 3) := by decide +kernel
theorem dX5_isWhole_11 : decode cX5_isWhole 11 = .ok (.aload_n 0, 1) := by decide +kernel
theorem dX5_isWhole_12 : decode cX5_isWhole 12 = .ok (.invokevirtual 37, 3) := by decide +kernel
theorem dX5_isWhole_15 : decode cX5_isWhole 15 = .ok (.aload_n 0, 1) := by decide +kernel
theorem dX5_isWhole_16 : decode cX5_isWhole 16 = .ok (.getfield 15, 3) := by decide +kernel
theorem dX5_isWhole_19 : decode cX5_isWhole 19 = .ok (.iconst 1, 1) := by decide +kernel
theorem dX5_isWhole_20 : decode cX5_isWhole 20 = .ok (.isub, 1) := by decide +kernel
theorem dX5_isWhole_21 : decode cX5_isWhole 21 = .ok (.if_icmp .ge 7, 3) := by decide +kernel
theorem dX5_isWhole_24 : decode cX5_isWhole 24 = .ok (.iconst 1, 1) := by decide +kernel
theorem dX5_isWhole_25 : decode cX5_isWhole 25 = .ok (.goto 4, 3) := by decide +kernel
theorem dX5_isWhole_28 : decode cX5_isWhole 28 = .ok (.iconst 0, 1) := by decide +kernel
theorem dX5_isWhole_29 : decode cX5_isWhole 29 = .ok (.ireturn, 1) := by decide +kernel
set_option maxRecDepth 20000 in
theorem ggX5_singersEnd_X5_codeAt : GoodIn wsX5_singersEnd wsX5_codeAt := goodIn_r _ [6, 1, 7, 8, 9] (by decide +kernel) (by decide +kernel)
set_option maxRecDepth 20000 in
theorem gX5_singersEnd_X5_codeAt : GoodIn wsX5_singersEnd (wsV RX5 19 RX5 yX5_codeAt wsX5_codeAt) := goodIn_app (goodIn_of _ (by decide +kernel)) ggX5_singersEnd_X5_codeAt
theorem dX5_singersEnd_0 : decode cX5_singersEnd 0 = .ok (.iconst 0, 1) := by decide +kernel
theorem dX5_singersEnd_1 : decode cX5_singersEnd 1 = .ok (.istore_n 1, 1) := by decide +kernel
theorem dX5_singersEnd_2 : decode cX5_singersEnd 2 = .ok (.iload_n 1, 1) := by decide +kernel
theorem dX5_singersEnd_3 : decode cX5_singersEnd 3 = .ok (.aload_n 0, 1) := by decide +kernel
theorem dX5_singersEnd_4 : decode cX5_singersEnd 4 = .ok (.getfield 15, 3) := by decide +kernel
theorem dX5_singersEnd_7 : decode cX5_singersEnd 7 = .ok (.if_icmp .ge 21, 3) := by decide +kernel
theorem dX5_singersEnd_10 : decode cX5_singersEnd 10 = .ok (.aload_n 0, 1) := by decide +kernel
theorem dX5_singersEnd_11 : decode cX5_singersEnd 11 = .ok (.iload_n 1, 1) := by decide +kernel
theorem dX5_singersEnd_12 : decode cX5_singersEnd 12 = .ok (.invokevirtual 19, 3) := by decide +kernel
theorem dX5_singersEnd_15 : decode cX5_singersEnd 15 = .ok (.bipush 59, 2) := by decide +kernel
theorem dX5_singersEnd_17 : decode cX5_singersEnd 17 = .ok (.if_icmp .ne 5, 3) := by decide +kernel
theorem dX5_singersEnd_20 : decode cX5_singersEnd 20 = .ok (.iload_n 1, 1) := by decide +kernel
theorem dX5_singersEnd_21 : decode cX5_singersEnd 21 = .ok (.ireturn, 1) := by decide +kernel
theorem dX5_singersEnd_22 : decode cX5_singersEnd 22 = .ok (.iinc 1 1, 3) := by decide +kernel
theorem dX5_singersEnd_25 : decode cX5_singersEnd 25 = .ok (.goto (-23), 3) := by decide +kernel
theorem dX5_singersEnd_28 : decode cX5_singersEnd 28 = .ok (.aload_n 0, 1) := by decide +kernel
theorem dX5_singersEnd_29 : decode cX5_singersEnd 29 = .ok (.getfield 15, 3) := by decide +kernel
theorem dX5_singersEnd_32 : decode cX5_singersEnd 32 = .ok (.ireturn, 1) := by decide +kernel
set_option maxRecDepth 20000 in
theorem ggX5_fitsSingers_X5_kindOf : GoodIn wsX5_fitsSingers wsX5_kindOf := goodIn_r _ [4, 5, 6, 7, 8, 9, 10, 11, 12, 13, 14, 15, 16, 17, 18, 19, 20, 21, 22, 23, 24, 25, 26, 27, 28, 29, 30, 31, 32, 33, 34, 35, 36, 37, 38, 39, 40, 41, 42, 43, 44, 45, 46, 47, 48, 49, 50, 51, 52, 53, 54, 55, 56, 57, 58, 59, 60, 61, 62, 63, 64, 65, 66, 67, 68, 69, 70, 71, 72, 73, 74, 75, 76, 77, 78, 79, 80, 81, 82, 83, 84, 85, 86, 87, 88, 89, 90, 91, 92, 93] (by decide +kernel) (by decide +kernel)
set_option maxRecDepth 20000 in
theorem gX5_fitsSingers_X5_kindOf : GoodIn wsX5_fitsSingers (va_wsS RX5 23 yX5_kindOf wsX5_kindOf) := goodIn_app (goodIn_of _ (by decide +kernel)) ggX5_fitsSingers_X5_kindOf
theorem dX5_fitsSingers_0 : decode cX5_fitsSingers 0 = .ok (.iload_n 1, 1) := by decide +kernel
theorem dX5_fitsSingers_1 : decode cX5_fitsSingers 1 = .ok (.bipush 6, 2) := by decide +kernel
theorem dX5_fitsSingers_3 : decode cX5_fitsSingers 3 = .ok (.idiv, 1) := by decide +kernel
theorem dX5_fitsSingers_4 : decode cX5_fitsSingers 4 = .ok (.istore_n 2, 1) := by decide +kernel
theorem dX5_fitsSingers_5 : decode cX5_fitsSingers 5 = .ok (.iload_n 1, 1) := by decide +kernel
theorem dX5_fitsSingers_6 : decode cX5_fitsSingers 6 = .ok (.bipush 6, 2) := by decide +kernel
theorem dX5_fitsSingers_8 : decode cX5_fitsSingers 8 = .ok (.irem, 1) := by decide +kernel
theorem dX5_fitsSingers_9 : decode cX5_fitsSingers 9 = .ok (.istore_n 3, 1) := by decide +kernel
theorem dX5_fitsSingers_10 : decode cX5_fitsSingers 10 = .ok (.iload_n 3, 1) := by decide +kernel
theorem dX5_fitsSingers_11 : decode cX5_fitsSingers 11 = .ok (.ifCond .ne 17, 3) := by decide +kernel
theorem dX5_fitsSingers_14 : decode cX5_fitsSingers 14 = .ok (.iload_n 0, 1) := by decide +kernel
theorem dX5_fitsSingers_15 : decode cX5_fitsSingers 15 = .ok (.invokestatic 23, 3) := by decide +kernel
theorem dX5_fitsSingers_18 : decode cX5_fitsSingers 18 = .ok (.iconst (-1), 1) := by decide +kernel
theorem dX5_fitsSingers_19 : decode cX5_fitsSingers 19 = .ok (.if_icmp .eq 7, 3) := by decide +kernel
theorem dX5_fitsSingers_22 : decode cX5_fitsSingers 22 = .ok (.iconst 1, 1) := by decide +kernel
theorem dX5_fitsSingers_23 : decode cX5_fitsSingers 23 = .ok (.goto 4, 3) := by decide +kernel
theorem dX5_fitsSingers_26 : decode cX5_fitsSingers 26 = .ok (.iconst 0, 1) := by decide +kernel
theorem dX5_fitsSingers_27 : decode cX5_fitsSingers 27 = .ok (.ireturn, 1) := by decide +kernel
theorem dX5_fitsSingers_28 : decode cX5_fitsSingers 28 = .ok (.iload_n 3, 1) := by decide +kernel
theorem dX5_fitsSingers_29 : decode cX5_fitsSingers 29 = .ok (.iconst 5, 1) := by decide +kernel
theorem dX5_fitsSingers_30 : decode cX5_fitsSingers 30 = .ok (.if_icmp .ge 21, 3) := by decide +kernel
theorem dX5_fitsSingers_33 : decode cX5_fitsSingers 33 = .ok (.iload_n 0, 1) := by decide +kernel
theorem dX5_fitsSingers_34 : decode cX5_fitsSingers 34 = .ok (.bipush 48, 2) := by decide +kernel
theorem dX5_fitsSingers_36 : decode cX5_fitsSingers 36 = .ok (.if_icmp .lt 13, 3) := by decide +kernel
theorem dX5_fitsSingers_39 : decode cX5_fitsSingers 39 = .ok (.iload_n 0, 1) := by decide +kernel
theorem dX5_fitsSingers_40 : decode cX5_fitsSingers 40 = .ok (.bipush 57, 2) := by decide +kernel
theorem dX5_fitsSingers_42 : decode cX5_fitsSingers 42 = .ok (.if_icmp .gt 7, 3) := by decide +kernel
theorem dX5_fitsSingers_45 : decode cX5_fitsSingers 45 = .ok (.iconst 1, 1) := by decide +kernel
theorem dX5_fitsSingers_46 : decode cX5_fitsSingers 46 = .ok (.goto 4, 3) := by decide +kernel
theorem dX5_fitsSingers_49 : decode cX5_fitsSingers 49 = .ok (.iconst 0, 1) := by decide +kernel
theorem dX5_fitsSingers_50 : decode cX5_fitsSingers 50 = .ok (.ireturn, 1) := by decide +kernel
theorem dX5_fitsSingers_51 : decode cX5_fitsSingers 51 = .ok (.iload_n 0, 1) := by decide +kernel
theorem dX5_fitsSingers_52 : decode cX5_fitsSingers 52 = .ok (.bipush 44, 2) := by decide +kernel
theorem dX5_fitsSingers_54 : decode cX5_fitsSingers 54 = .ok (.if_icmp .ne 10, 3) := by decide +kernel
theorem dX5_fitsSingers_57 : decode cX5_fitsSingers 57 = .ok (.iload_n 2, 1) := by decide +kernel
theorem dX5_fitsSingers_58 : decode cX5_fitsSingers 58 = .ok (.iconst 1, 1) := by decide +kernel
theorem dX5_fitsSingers_59 : decode cX5_fitsSingers 59 = .ok (.iadd, 1) := by decide +kernel
theorem dX5_fitsSingers_60 : decode cX5_fitsSingers 60 = .ok (.iconst 4, 1) := by decide +kernel
theorem dX5_fitsSingers_61 : decode cX5_fitsSingers 61 = .ok (.if_icmp .lt 16, 3) := by decide +kernel
theorem dX5_fitsSingers_64 : decode cX5_fitsSingers 64 = .ok (.iload_n 0, 1) := by decide +kernel
theorem dX5_fitsSingers_65 : decode cX5_fitsSingers 65 = .ok (.bipush 59, 2) := by decide +kernel
theorem dX5_fitsSingers_67 : decode cX5_fitsSingers 67 = .ok (.if_icmp .ne 14, 3) := by decide +kernel
theorem dX5_fitsSingers_70 : decode cX5_fitsSingers 70 = .ok (.iload_n 2, 1) := by decide +kernel
theorem dX5_fitsSingers_71 : decode cX5_fitsSingers 71 = .ok (.iconst 1, 1) := by decide +kernel
theorem dX5_fitsSingers_72 : decode cX5_fitsSingers 72 = .ok (.iadd, 1) := by decide +kernel
theorem dX5_fitsSingers_73 : decode cX5_fitsSingers 73 = .ok (.iconst 2, 1) := by decide +kernel
theorem dX5_fitsSingers_74 : decode cX5_fitsSingers 74 = .ok (.if_icmp .lt 7, 3) := by decide +kernel
theorem dX5_fitsSingers_77 : decode cX5_fitsSingers 77 = .ok (.iconst 1, 1) := by decide +kernel
theorem dX5_fitsSingers_78 : decode cX5_fitsSingers 78 = .ok (.goto 4, 3) := by decide +kernel
theorem dX5_fitsSingers_81 : decode cX5_fitsSingers 81 = .ok (.iconst 0, 1) := by decide +kernel
theorem dX5_fitsSingers_82 : decode cX5_fitsSingers 82 = .ok (.ireturn, 1) := by decide +kernel
theorem dX5_fitsWidows_0 : decode cX5_fitsWidows 0 = .ok (.iload_n 1, 1) := by decide +kernel
theorem dX5_fitsWidows_1 : decode cX5_fitsWidows 1 = .ok (.iconst 5, 1) := by decide +kernel
theorem dX5_fitsWidows_2 : decode cX5_fitsWidows 2 = .ok (.if_icmp .gt 19, 3) := by decide +kernel
theorem dX5_fitsWidows_5 : decode cX5_fitsWidows 5 = .ok (.iload_n 0, 1) := by decide +kernel
theorem dX5_fitsWidows_6 : decode cX5_fitsWidows 6 = .ok (.bipush 48, 2) := by decide +kernel
theorem dX5_fitsWidows_8 : decode cX5_fitsWidows 8 = .ok (.if_icmp .lt 13, 3) := by decide +kernel
theorem dX5_fitsWidows_11 : decode cX5_fitsWidows 11 = .ok (.iload_n 0, 1) := by decide +kernel
theorem dX5_fitsWidows_12 : decode cX5_fitsWidows 12 = .ok (.bipush 52, 2) := by decide +kernel
theorem dX5_fitsWidows_14 : decode cX5_fitsWidows 14 = .ok (.if_icmp .ge 7, 3) := by decide +kernel
theorem dX5_fitsWidows_17 : decode cX5_fitsWidows 17 = .ok (.iconst 1, 1) := by decide +kernel
theorem dX5_fitsWidows_18 : decode cX5_fitsWidows 18 = .ok (.goto 4, 3) := by decide +kernel
theorem dX5_fitsWidows_21 : decode cX5_fitsWidows 21 = .ok (.iconst 0, 1) := by decide +kernel
theorem dX5_fitsWidows_22 : decode cX5_fitsWidows 22 = .ok (.ireturn, 1) := by decide +kernel
set_option maxRecDepth 20000 in
theorem ggX5_kindOf_J0_indexOf_0f7a4 : GoodIn wsX5_kindOf wsJ0_indexOf_0f7a4 := goodIn_r _ [5, 6, 7, 8, 4, 9, 10, 11, 12, 13, 14, 15, 16, 17, 18, 19, 20, 21, 22, 23, 24, 25, 26, 27, 28, 29, 30, 31, 32, 33, 34, 35, 36, 37, 38, 39, 40, 41, 42, 43, 44, 45, 46, 47, 48, 49, 50, 51, 52, 53, 54, 55, 56, 57, 58, 59, 60, 61, 62, 63, 64, 65, 66, 67, 68, 69, 70, 71, 72, 73, 74, 75, 76, 77, 78, 79, 80, 81, 82, 83, 84, 85, 86, 87, 88, 89] (by decide +kernel) (by decide +kernel)
set_option maxRecDepth 20000 in
theorem gX5_kindOf_J0_indexOf_0f7a4 : GoodIn wsX5_kindOf (wsV RX5 42 RJ0 yJ0_indexOf_0f7a4 wsJ0_indexOf_0f7a4) := goodIn_app (goodIn_of _ (by decide +kernel)) ggX5_kindOf_J0_indexOf_0f7a4
theorem dX5_kindOf_0 : decode cX5_kindOf 0 = .ok (.ldc 40, 2) := by decide +kernel
theorem dX5_kindOf_2 : decode cX5_kindOf 2 = .ok (.iload_n 0, 1) := by decide +kernel
theorem dX5_kindOf_3 : decode cX5_kindOf 3 = .ok (.i2c, 1) := by decide +kernel
theorem dX5_kindOf_4 : decode cX5_kindOf 4 = .ok (.invokevirtual 42, 3) := by decide +kernel
theorem dX5_kindOf_7 : decode cX5_kindOf 7 = .ok (.ireturn, 1) := by decide +kernel
theorem dX6_init_0 : decode cX6_init 0 = .ok (.aload_n 0, 1) := by decide +kernel
theorem dX6_init_1 : decode cX6_init 1 = .ok (.invokespecial 3, 3) := by decide +kernel
theorem dX6_init_4 : decode cX6_init 4 = .ok (.return_, 1) := by decide +kernel
theorem dX6_number_0 : decode cX6_number 0 = .ok (.iconst 0, 1) := by decide +kernel
theorem dX6_number_1 : decode cX6_number 1 = .ok (.ireturn, 1) := by decide +kernel
theorem dX6_plainBad_0 : decode cX6_plainBad 0 = .ok (.iload_n 2, 1) := by decide +kernel
theorem dX6_plainBad_1 : decode cX6_plainBad 1 = .ok (.ireturn, 1) := by decide +kernel
theorem dX6_practised_0 : decode cX6_practised 0 = .ok (.iload_n 1, 1) := by decide +kernel
theorem dX6_practised_1 : decode cX6_practised 1 = .ok (.ifCond .le 9, 3) := by decide +kernel
theorem dX6_practised_4 : decode cX6_practised 4 = .ok (.iload_n 1, 1) := by decide +kernel
theorem dX6_practised_5 : decode cX6_practised 5 = .ok (.iconst 1, 1) := by decide +kernel
theorem dX6_practised_6 : decode cX6_practised 6 = .ok (.isub, 1) := by decide +kernel
theorem dX6_practised_7 : decode cX6_practised 7 = .ok (.goto 4, 3) := by decide +kernel
theorem dX6_practised_10 : decode cX6_practised 10 = .ok (.iconst 0, 1) := by decide +kernel
theorem dX6_practised_11 : decode cX6_practised 11 = .ok (.ireturn, 1) := by decide +kernel
set_option maxRecDepth 20000 in
theorem ggX7_init_X6_init : GoodIn wsX7_init wsX6_init := goodIn_r _ [3, 4, 5, 6] (by decide +kernel) (by decide +kernel)
set_option maxRecDepth 20000 in
theorem gX7_init_X6_init_n3 : GoodIn wsX7_init (wsX6_init) := ggX7_init_X6_init
theorem dX7_init_0 : decode cX7_init 0 = .ok (.aload_n 0, 1) := by decide +kernel
theorem dX7_init_1 : decode cX7_init 1 = .ok (.invokespecial 3, 3) := by decide +kernel
theorem dX7_init_4 : decode cX7_init 4 = .ok (.return_, 1) := by decide +kernel
theorem dX7_number_0 : decode cX7_number 0 = .ok (.iconst 1, 1) := by decide +kernel
theorem dX7_number_1 : decode cX7_number 1 = .ok (.ireturn, 1) := by decide +kernel
theorem dX7_plainBad_0 : decode cX7_plainBad 0 = .ok (.iload_n 1, 1) := by decide +kernel
theorem dX7_plainBad_1 : decode cX7_plainBad 1 = .ok (.ifCond .ne 9, 3) := by decide +kernel
theorem dX7_plainBad_4 : decode cX7_plainBad 4 = .ok (.iload_n 2, 1) := by decide +kernel
theorem dX7_plainBad_5 : decode cX7_plainBad 5 = .ok (.iconst 2, 1) := by decide +kernel
theorem dX7_plainBad_6 : decode cX7_plainBad 6 = .ok (.idiv, 1) := by decide +kernel
theorem dX7_plainBad_7 : decode cX7_plainBad 7 = .ok (.goto 4, 3) := by decide +kernel
theorem dX7_plainBad_10 : decode cX7_plainBad 10 = .ok (.iload_n 2, 1) := by decide +kernel
theorem dX7_plainBad_11 : decode cX7_plainBad 11 = .ok (.ireturn, 1) := by decide +kernel
set_option maxRecDepth 20000 in
theorem ggX8_init_X6_init : GoodIn wsX8_init wsX6_init := goodIn_r _ [25, 26, 2, 3] (by decide +kernel) (by decide +kernel)
set_option maxRecDepth 20000 in
theorem gX8_init_X6_init_n11 : GoodIn wsX8_init (wsX6_init) := ggX8_init_X6_init
set_option maxRecDepth 20000 in
theorem ggX8_init_X7_init : GoodIn wsX8_init wsX7_init := goodIn_r _ [28, 24, 6, 25, 26, 2, 3] (by decide +kernel) (by decide +kernel)
set_option maxRecDepth 20000 in
theorem gX8_init_X7_init_n20 : GoodIn wsX8_init (wsX7_init) := ggX8_init_X7_init
set_option maxRecDepth 20000 in
theorem ggX8_init_X0_init : GoodIn wsX8_init wsX0_init := goodIn_r _ [30, 24, 6, 25, 26, 2, 3] (by decide +kernel) (by decide +kernel)
set_option maxRecDepth 20000 in
theorem gX8_init_X0_init_n27 : GoodIn wsX8_init (wsX0_init) := ggX8_init_X0_init
set_option maxRecDepth 20000 in
theorem ggX8_init_X3_init : GoodIn wsX8_init wsX3_init := goodIn_r _ [32, 24, 6, 25, 26, 2, 3] (by decide +kernel) (by decide +kernel)
set_option maxRecDepth 20000 in
theorem gX8_init_X3_init_n34 : GoodIn wsX8_init (wsX3_init) := ggX8_init_X3_init
set_option maxRecDepth 20000 in
theorem ggX8_init_X2_init : GoodIn wsX8_init wsX2_init := goodIn_r _ [34, 27, 10, 28, 24, 6, 25, 26, 2, 3] (by decide +kernel) (by decide +kernel)
set_option maxRecDepth 20000 in
theorem gX8_init_X2_init_n41 : GoodIn wsX8_init (wsX2_init) := ggX8_init_X2_init
theorem dX8_init_0 : decode cX8_init 0 = .ok (.aload_n 0, 1) := by decide +kernel
theorem dX8_init_1 : decode cX8_init 1 = .ok (.invokespecial 3, 3) := by decide +kernel
theorem dX8_init_4 : decode cX8_init 4 = .ok (.aload_n 0, 1) := by decide +kernel
theorem dX8_init_5 : decode cX8_init 5 = .ok (.new 9, 3) := by decide +kernel
theorem dX8_init_8 : decode cX8_init 8 = .ok (.dup, 1) := by decide +kernel
theorem dX8_init_9 : decode cX8_init 9 = .ok (.invokespecial 11, 3) := by decide +kernel
theorem dX8_init_12 : decode cX8_init 12 = .ok (.putfield 12, 3) := by decide +kernel
theorem dX8_init_15 : decode cX8_init 15 = .ok (.aload_n 0, 1) := by decide +kernel
theorem dX8_init_16 : decode cX8_init 16 = .ok (.new 18, 3) := by decide +kernel
theorem dX8_init_19 : decode cX8_init 19 = .ok (.dup, 1) := by decide +kernel
theorem dX8_init_20 : decode cX8_init 20 = .ok (.invokespecial 20, 3) := by decide +kernel
theorem dX8_init_23 : decode cX8_init 23 = .ok (.putfield 21, 3) := by decide +kernel
theorem dX8_init_26 : decode cX8_init 26 = .ok (.aload_n 0, 1) := by decide +kernel
theorem dX8_init_27 : decode cX8_init 27 = .ok (.new 25, 3) := by decide +kernel
theorem dX8_init_30 : decode cX8_init 30 = .ok (.dup, 1) := by decide +kernel
theorem dX8_init_31 : decode cX8_init 31 = .ok (.invokespecial 27, 3) := by decide +kernel
theorem dX8_init_34 : decode cX8_init 34 = .ok (.putfield 28, 3) := by decide +kernel
theorem dX8_init_37 : decode cX8_init 37 = .ok (.aload_n 0, 1) := by decide +kernel
theorem dX8_init_38 : decode cX8_init 38 = .ok (.new 32, 3) := by decide +kernel
theorem dX8_init_41 : decode cX8_init 41 = .ok (.dup, 1) := by decide +kernel
theorem dX8_init_42 : decode cX8_init 42 = .ok (.invokespecial 34, 3) := by decide +kernel
theorem dX8_init_45 : decode cX8_init 45 = .ok (.putfield 35, 3) := by decide +kernel
theorem dX8_init_48 : decode cX8_init 48 = .ok (.aload_n 0, 1) := by decide +kernel
theorem dX8_init_49 : decode cX8_init 49 = .ok (.new 39, 3) := by decide +kernel
theorem dX8_init_52 : decode cX8_init 52 = .ok (.dup, 1) := by decide +kernel
theorem dX8_init_53 : decode cX8_init 53 = .ok (.invokespecial 41, 3) := by decide +kernel
theorem dX8_init_56 : decode cX8_init 56 = .ok (.putfield 42, 3) := by decide +kernel
theorem dX8_init_59 : decode cX8_init 59 = .ok (.return_, 1) := by decide +kernel
theorem dX8_ofKind_0 : decode cX8_ofKind 0 = .ok (.iload_n 1, 1) := by decide +kernel
theorem dX8_ofKind_1 : decode cX8_ofKind 1 = .ok (.tableswitch 51 1 4 #[31, 36, 41, 46], 31) := by decide +kernel
theorem dX8_ofKind_32 : decode cX8_ofKind 32 = .ok (.aload_n 0, 1) := by decide +kernel
theorem dX8_ofKind_33 : decode cX8_ofKind 33 = .ok (.getfield 21, 3) := by decide +kernel
theorem dX8_ofKind_36 : decode cX8_ofKind 36 = .ok (.areturn, 1) := by decide +kernel
theorem dX8_ofKind_37 : decode cX8_ofKind 37 = .ok (.aload_n 0, 1) := by decide +kernel
theorem dX8_ofKind_38 : decode cX8_ofKind 38 = .ok (.getfield 28, 3) := by decide +kernel
theorem dX8_ofKind_41 : decode cX8_ofKind 41 = .ok (.areturn, 1) := by decide +kernel
theorem dX8_ofKind_42 : decode cX8_ofKind 42 = .ok (.aload_n 0, 1) := by decide +kernel
theorem dX8_ofKind_43 : decode cX8_ofKind 43 = .ok (.getfield 35, 3) := by decide +kernel
theorem dX8_ofKind_46 : decode cX8_ofKind 46 = .ok (.areturn, 1) := by decide +kernel
theorem dX8_ofKind_47 : decode cX8_ofKind 47 = .ok (.aload_n 0, 1) := by decide +kernel
theorem dX8_ofKind_48 : decode cX8_ofKind 48 = .ok (.getfield 42, 3) := by decide +kernel
theorem dX8_ofKind_51 : decode cX8_ofKind 51 = .ok (.areturn, 1) := by decide +kernel
theorem dX8_ofKind_52 : decode cX8_ofKind 52 = .ok (.aload_n 0, 1) := by decide +kernel
theorem dX8_ofKind_53 : decode cX8_ofKind 53 = .ok (.getfield 12, 3) := by decide +kernel
theorem dX8_ofKind_56 : decode cX8_ofKind 56 = .ok (.areturn, 1) := by decide +kernel
set_option maxRecDepth 20000 in
theorem ggX9_init_X5_init : GoodIn wsX9_init wsX5_init := goodIn_r _ [26, 27, 2, 3, 13, 28, 81, 82] (by decide +kernel) (by decide +kernel)
set_option maxRecDepth 20000 in
theorem gX9_init_X5_init_n11 : GoodIn wsX9_init (wsX5_init) := ggX9_init_X5_init
set_option maxRecDepth 20000 in
theorem ggX9_init_X4_init : GoodIn wsX9_init wsX4_init := goodIn_r _ [30, 31, 2, 3, 13, 32, 33, 34, 35, 94, 95, 96, 97, 98] (by decide +kernel) (by decide +kernel)
set_option maxRecDepth 20000 in
theorem gX9_init_X4_init_n18 : GoodIn wsX9_init (wsX4_init) := ggX9_init_X4_init
set_option maxRecDepth 20000 in
theorem ggX9_init_X8_init : GoodIn wsX9_init wsX8_init := goodIn_r _ [37, 38, 2, 3, 39, 40, 41, 42, 43, 44, 45, 46, 47, 48, 49, 50, 51, 52, 53, 54, 55, 56, 57, 58, 59, 60, 61, 62, 63, 64, 65, 66, 67, 68, 69, 99, 100, 101, 102, 103] (by decide +kernel) (by decide +kernel)
set_option maxRecDepth 20000 in
theorem gX9_init_X8_init_n35 : GoodIn wsX9_init (wsX8_init) := ggX9_init_X8_init
set_option maxRecDepth 20000 in
theorem ggX9_init_X1_init : GoodIn wsX9_init wsX1_init := goodIn_r _ [72, 73, 2, 3, 13, 74, 75, 76, 77, 78, 79, 80, 104, 105, 106, 107, 108, 109, 110, 111, 112, 113] (by decide +kernel) (by decide +kernel)
set_option maxRecDepth 20000 in
theorem gX9_init_X1_init : GoodIn wsX9_init (wsX1_init) := ggX9_init_X1_init
theorem dX9_init_0 : decode cX9_init 0 = .ok (.aload_n 0, 1) := by decide +kernel
theorem dX9_init_1 : decode cX9_init 1 = .ok (.invokespecial 3, 3) := by decide +kernel
theorem dX9_init_4 : decode cX9_init 4 = .ok (.aload_n 0, 1) := by decide +kernel
theorem dX9_init_5 : decode cX9_init 5 = .ok (.new 9, 3) := by decide +kernel
theorem dX9_init_8 : decode cX9_init 8 = .ok (.dup, 1) := by decide +kernel
theorem dX9_init_9 : decode cX9_init 9 = .ok (.invokespecial 11, 3) := by decide +kernel
theorem dX9_init_12 : decode cX9_init 12 = .ok (.putfield 12, 3) := by decide +kernel
theorem dX9_init_15 : decode cX9_init 15 = .ok (.aload_n 0, 1) := by decide +kernel
theorem dX9_init_16 : decode cX9_init 16 = .ok (.new 16, 3) := by decide +kernel
theorem dX9_init_19 : decode cX9_init 19 = .ok (.dup, 1) := by decide +kernel
theorem dX9_init_20 : decode cX9_init 20 = .ok (.invokespecial 18, 3) := by decide +kernel
theorem dX9_init_23 : decode cX9_init 23 = .ok (.putfield 19, 3) := by decide +kernel
theorem dX9_init_26 : decode cX9_init 26 = .ok (.aload_n 0, 1) := by decide +kernel
theorem dX9_init_27 : decode cX9_init 27 = .ok (.new 16, 3) := by decide +kernel
theorem dX9_init_30 : decode cX9_init 30 = .ok (.dup, 1) := by decide +kernel
theorem dX9_init_31 : decode cX9_init 31 = .ok (.invokespecial 18, 3) := by decide +kernel
theorem dX9_init_34 : decode cX9_init 34 = .ok (.putfield 23, 3) := by decide +kernel
theorem dX9_init_37 : decode cX9_init 37 = .ok (.aload_n 0, 1) := by decide +kernel
theorem dX9_init_38 : decode cX9_init 38 = .ok (.iconst 4, 1) := by decide +kernel
theorem dX9_init_39 : decode cX9_init 39 = .ok (.newarray .int, 2) := by decide +kernel
theorem dX9_init_41 : decode cX9_init 41 = .ok (.putfield 26, 3) := by decide +kernel
theorem dX9_init_44 : decode cX9_init 44 = .ok (.aload_n 0, 1) := by decide +kernel
theorem dX9_init_45 : decode cX9_init 45 = .ok (.iconst 4, 1) := by decide +kernel
theorem dX9_init_46 : decode cX9_init 46 = .ok (.newarray .int, 2) := by decide +kernel
theorem dX9_init_48 : decode cX9_init 48 = .ok (.putfield 30, 3) := by decide +kernel
theorem dX9_init_51 : decode cX9_init 51 = .ok (.new 33, 3) := by decide +kernel
theorem dX9_init_54 : decode cX9_init 54 = .ok (.dup, 1) := by decide +kernel
theorem dX9_init_55 : decode cX9_init 55 = .ok (.invokespecial 35, 3) := by decide +kernel
theorem dX9_init_58 : decode cX9_init 58 = .ok (.astore_n 1, 1) := by decide +kernel
theorem dX9_init_59 : decode cX9_init 59 = .ok (.aload_n 0, 1) := by decide +kernel
theorem dX9_init_60 : decode cX9_init 60 = .ok (.new 36, 3) := by decide +kernel
theorem dX9_init_63 : decode cX9_init 63 = .ok (.dup, 1) := by decide +kernel
theorem dX9_init_64 : decode cX9_init 64 = .ok (.aload_n 1, 1) := by decide +kernel
theorem dX9_init_65 : decode cX9_init 65 = .ok (.invokespecial 38, 3) := by decide +kernel
theorem dX9_init_68 : decode cX9_init 68 = .ok (.putfield 41, 3) := by decide +kernel
theorem dX9_init_71 : decode cX9_init 71 = .ok (.aload_n 0, 1) := by decide +kernel
theorem dX9_init_72 : decode cX9_init 72 = .ok (.new 36, 3) := by decide +kernel
theorem dX9_init_75 : decode cX9_init 75 = .ok (.dup, 1) := by decide +kernel
theorem dX9_init_76 : decode cX9_init 76 = .ok (.aload_n 1, 1) := by decide +kernel
theorem dX9_init_77 : decode cX9_init 77 = .ok (.invokespecial 38, 3) := by decide +kernel
theorem dX9_init_80 : decode cX9_init 80 = .ok (.putfield 45, 3) := by decide +kernel
theorem dX9_init_83 : decode cX9_init 83 = .ok (.aload_n 0, 1) := by decide +kernel
theorem dX9_init_84 : decode cX9_init 84 = .ok (.new 36, 3) := by decide +kernel
theorem dX9_init_87 : decode cX9_init 87 = .ok (.dup, 1) := by decide +kernel
theorem dX9_init_88 : decode cX9_init 88 = .ok (.aload_n 1, 1) := by decide +kernel
theorem dX9_init_89 : decode cX9_init 89 = .ok (.invokespecial 38, 3) := by decide +kernel
theorem dX9_init_92 : decode cX9_init 92 = .ok (.putfield 48, 3) := by decide +kernel
theorem dX9_init_95 : decode cX9_init 95 = .ok (.return_, 1) := by decide +kernel
set_option maxRecDepth 20000 in
theorem ggX9_letter_X5_write : GoodIn wsX9_letter wsX5_write := goodIn_r _ [6, 7, 8, 20, 21] (by decide +kernel) (by decide +kernel)
set_option maxRecDepth 20000 in
theorem gX9_letter_X5_write : GoodIn wsX9_letter (wsV RX9 51 RX5 yX5_write wsX5_write) := goodIn_app (goodIn_of _ (by decide +kernel)) ggX9_letter_X5_write
theorem dX9_letter_0 : decode cX9_letter 0 = .ok (.iload_n 1, 1) := by decide +kernel
theorem dX9_letter_1 : decode cX9_letter 1 = .ok (.iconst 1, 1) := by decide +kernel
theorem dX9_letter_2 : decode cX9_letter 2 = .ok (.if_icmp .lt 9, 3) := by decide +kernel
theorem dX9_letter_5 : decode cX9_letter 5 = .ok (.iload_n 1, 1) := by decide +kernel
theorem dX9_letter_6 : decode cX9_letter 6 = .ok (.bipush 126, 2) := by decide +kernel
theorem dX9_letter_8 : decode cX9_letter 8 = .ok (.if_icmp .le 6, 3) := by decide +kernel
theorem dX9_letter_11 : decode cX9_letter 11 = .ok (.bipush (-102), 2) := by decide +kernel
theorem dX9_letter_13 : decode cX9_letter 13 = .ok (.ireturn, 1) := by decide +kernel
theorem dX9_letter_14 : decode cX9_letter 14 = .ok (.aload_n 0, 1) := by decide +kernel
theorem dX9_letter_15 : decode cX9_letter 15 = .ok (.getfield 12, 3) := by decide +kernel
theorem dX9_letter_18 : decode cX9_letter 18 = .ok (.iload_n 1, 1) := by decide +kernel
theorem dX9_letter_19 : decode cX9_letter 19 = .ok (.invokevirtual 51, 3) := by decide +kernel
theorem dX9_letter_22 : decode cX9_letter 22 = .ok (.ifCond .eq 13, 3) := by decide +kernel
theorem dX9_letter_25 : decode cX9_letter 25 = .ok (.aload_n 0, 1) := by decide +kernel
theorem dX9_letter_26 : decode cX9_letter 26 = .ok (.getfield 12, 3) := by decide +kernel
theorem dX9_letter_29 : decode cX9_letter 29 = .ok (.getfield 55, 3) := by decide +kernel
theorem dX9_letter_32 : decode cX9_letter 32 = .ok (.goto 5, 3) := by decide +kernel
theorem dX9_letter_35 : decode cX9_letter 35 = .ok (.bipush (-104), 2) := by decide +kernel
theorem dX9_letter_37 : decode cX9_letter 37 = .ok (.ireturn, 1) := by decide +kernel
set_option maxRecDepth 20000 in
theorem ggX9_blank_X5_wipe : GoodIn wsX9_blank wsX5_wipe := goodIn_r _ [6, 7, 19, 20] (by decide +kernel) (by decide +kernel)
set_option maxRecDepth 20000 in
theorem gX9_blank_X5_wipe : GoodIn wsX9_blank (wsV RX9 59 RX5 yX5_wipe wsX5_wipe) := goodIn_app (goodIn_of _ (by decide +kernel)) ggX9_blank_X5_wipe
theorem dX9_blank_0 : decode cX9_blank 0 = .ok (.aload_n 0, 1) := by decide +kernel
theorem dX9_blank_1 : decode cX9_blank 1 = .ok (.getfield 12, 3) := by decide +kernel
theorem dX9_blank_4 : decode cX9_blank 4 = .ok (.invokevirtual 59, 3) := by decide +kernel
theorem dX9_blank_7 : decode cX9_blank 7 = .ok (.ireturn, 1) := by decide +kernel
set_option maxRecDepth 20000 in
theorem ggX9_fault_X5_firstWrong : GoodIn wsX9_fault wsX5_firstWrong := goodIn_r _ [6, 7, 8, 9, 10, 5, 11, 12, 13, 14, 15, 16, 17, 18, 19, 20, 21, 22, 23, 24, 25, 26, 27, 28, 29, 30, 31, 32, 33, 34, 35, 36, 37, 38, 39, 40, 41, 42, 43, 44, 45, 46, 47, 48, 49, 50, 51, 52, 53, 54, 55, 56, 57, 58, 59, 60, 61, 62, 63, 64, 65, 66, 67, 68, 69, 70, 71, 72, 73, 74, 75, 76, 77, 78, 79, 80, 81, 82, 83, 84, 85, 86, 87, 88, 89, 90, 91, 92, 93, 94, 95, 96, 97, 98, 99, 100, 101, 102, 103, 104, 105, 106, 107, 108, 109, 110, 122, 123] (by decide +kernel) (by decide +kernel)
set_option maxRecDepth 20000 in
theorem gX9_fault_X5_firstWrong : GoodIn wsX9_fault (wsV RX9 63 RX5 yX5_firstWrong wsX5_firstWrong) := goodIn_app (goodIn_of _ (by decide +kernel)) ggX9_fault_X5_firstWrong
theorem dX9_fault_0 : decode cX9_fault 0 = .ok (.aload_n 0, 1) := by decide +kernel
theorem dX9_fault_1 : decode cX9_fault 1 = .ok (.getfield 12, 3) := by decide +kernel
theorem dX9_fault_4 : decode cX9_fault 4 = .ok (.invokevirtual 63, 3) := by decide +kernel
theorem dX9_fault_7 : decode cX9_fault 7 = .ok (.ireturn, 1) := by decide +kernel
set_option maxRecDepth 20000 in
theorem ggX9_town_X5_isWhole : GoodIn wsX9_town wsX5_isWhole := goodIn_r _ [10, 11, 12, 13, 14, 9, 15, 16, 17, 18, 19, 20, 21, 22, 23, 24, 25, 26, 27, 28, 29, 30, 31, 32, 33, 34, 35, 36, 37, 38, 39, 40, 41, 42, 43, 44, 45, 46, 47, 48, 49, 50, 51, 52, 53, 54, 55, 56, 57, 58, 59, 60, 61, 62, 63, 64, 65, 66, 67, 68, 69, 70, 71, 72, 73, 74, 75, 76, 77, 78, 79, 80, 81, 82, 83, 84, 85, 86, 87, 88, 89, 90, 91, 92, 93, 94, 95, 96, 97, 98, 99, 100, 101, 102, 103, 104, 105, 106, 107, 108, 109, 110, 111, 112, 113, 114, 115, 116, 117, 118, 119, 120, 121, 122, 187, 188] (by decide +kernel) (by decide +kernel)
set_option maxRecDepth 20000 in
theorem gX9_town_X5_isWhole : GoodIn wsX9_town (wsV RX9 66 RX5 yX5_isWhole wsX5_isWhole) := goodIn_app (goodIn_of _ (by decide +kernel)) ggX9_town_X5_isWhole
set_option maxRecDepth 20000 in
theorem ggX9_town_X1_readFrom : GoodIn wsX9_town wsX1_readFrom := goodIn_r _ [127, 128, 60, 57, 61, 129, 130, 56, 58, 131, 132, 133, 134, 120, 121, 9, 122, 11, 16, 17, 18, 19, 20, 135, 136, 137, 126, 138, 139, 140, 141, 142, 143, 144, 145, 146, 147, 148, 149, 150, 151, 24, 25, 26, 27, 28, 29, 30, 31, 32, 33, 34, 35, 36, 37, 38, 39, 40, 41, 42, 43, 44, 45, 46, 47, 48, 49, 50, 51, 52, 53, 54, 55, 59, 62, 63, 64, 65, 66, 67, 68, 69, 70, 71, 72, 73, 74, 75, 76, 77, 78, 79, 80, 81, 82, 83, 84, 85, 86, 87, 88, 89, 90, 91, 92, 93, 94, 95, 96, 97, 98, 99, 100, 101, 102, 103, 104, 105, 106, 107, 108, 109, 110, 111, 112, 113, 114, 115, 152, 153, 154, 155, 177, 178, 179, 180, 181, 182, 183, 184, 185, 186, 187, 188] (by decide +kernel) (by decide +kernel)
set_option maxRecDepth 20000 in
theorem gX9_town_X1_readFrom : GoodIn wsX9_town (wsV RX9 70 RX1 yX1_readFrom wsX1_readFrom) := goodIn_app (goodIn_of _ (by decide +kernel)) ggX9_town_X1_readFrom
set_option maxRecDepth 20000 in
theorem ggX9_town_X4_clear : GoodIn wsX9_town wsX4_clear := goodIn_r _ [160, 161, 189, 190, 191, 192, 193] (by decide +kernel) (by decide +kernel)
set_option maxRecDepth 20000 in
theorem gX9_town_X4_clear : GoodIn wsX9_town (wsV RX9 74 RX4 yX4_clear wsX4_clear) := goodIn_app (goodIn_of _ (by decide +kernel)) ggX9_town_X4_clear
set_option maxRecDepth 20000 in
theorem ggX9_town_X5_wipe : GoodIn wsX9_town wsX5_wipe := goodIn_r _ [165, 11, 187, 188] (by decide +kernel) (by decide +kernel)
set_option maxRecDepth 20000 in
theorem gX9_town_X5_wipe : GoodIn wsX9_town (wsV RX9 59 RX5 yX5_wipe wsX5_wipe) := goodIn_app (goodIn_of _ (by decide +kernel)) ggX9_town_X5_wipe
theorem dX9_town_0 : decode cX9_town 0 = .ok (.aload_n 0, 1) := by decide +kernel
theorem dX9_town_1 : decode cX9_town 1 = .ok (.getfield 12, 3) := by decide +kernel
theorem dX9_town_4 : decode cX9_town 4 = .ok (.invokevirtual 66, 3) := by decide +kernel
theorem dX9_town_7 : decode cX9_town 7 = .ok (.ifCond .ne 6, 3) := by decide +kernel
theorem dX9_town_10 : decode cX9_town 10 = .ok (.bipush (-103), 2) := by decide +kernel
theorem dX9_town_12 : decode cX9_town 12 = .ok (.ireturn, 1) := by decide +kernel
theorem dX9_town_13 : decode cX9_town 13 = .ok (.aload_n 0, 1) := by decide +kernel
theorem dX9_town_14 : decode cX9_town 14 = .ok (.getfield 41, 3) := by decide +kernel
theorem dX9_town_17 : decode cX9_town 17 = .ok (.aload_n 0, 1) := by decide +kernel
theorem dX9_town_18 : decode cX9_town 18 = .ok (.getfield 12, 3) := by decide +kernel
theorem dX9_town_21 : decode cX9_town 21 = .ok (.invokevirtual 70, 3) := by decide +kernel
theorem dX9_town_24 : decode cX9_town 24 = .ok (.aload_n 0, 1) := by decide +kernel
theorem dX9_town_25 : decode cX9_town 25 = .ok (.getfield 19, 3) := by decide +kernel
theorem dX9_town_28 : decode cX9_town 28 = .ok (.invokevirtual 74, 3) := by decide +kernel
theorem dX9_town_31 : decode cX9_town 31 = .ok (.pop, 1) := by decide +kernel
theorem dX9_town_32 : decode cX9_town 32 = .ok (.aload_n 0, 1) := by decide +kernel
theorem dX9_town_33 : decode cX9_town 33 = .ok (.iconst 0, 1) := by decide +kernel
theorem dX9_town_34 : decode cX9_town 34 = .ok (.putfield 77, 3) := by decide +kernel
theorem dX9_town_37 : decode cX9_town 37 = .ok (.aload_n 0, 1) := by decide +kernel
theorem dX9_town_38 : decode cX9_town 38 = .ok (.dup, 1) := by decide +kernel
theorem dX9_town_39 : decode cX9_town 39 = .ok (.getfield 81, 3) := by decide +kernel
theorem dX9_town_42 : decode cX9_town 42 = .ok (.iconst 1, 1) := by decide +kernel
theorem dX9_town_43 : decode cX9_town 43 = .ok (.iadd, 1) := by decide +kernel
theorem dX9_town_44 : decode cX9_town 44 = .ok (.putfield 81, 3) := by decide +kernel
theorem dX9_town_47 : decode cX9_town 47 = .ok (.aload_n 0, 1) := by decide +kernel
theorem dX9_town_48 : decode cX9_town 48 = .ok (.getfield 12, 3) := by decide +kernel
theorem dX9_town_51 : decode cX9_town 51 = .ok (.invokevirtual 59, 3) := by decide +kernel
theorem dX9_town_54 : decode cX9_town 54 = .ok (.pop, 1) := by decide +kernel
theorem dX9_town_55 : decode cX9_town 55 = .ok (.aload_n 0, 1) := by decide +kernel
theorem dX9_town_56 : decode cX9_town 56 = .ok (.getfield 41, 3) := by decide +kernel
theorem dX9_town_59 : decode cX9_town 59 = .ok (.getfield 84, 3) := by decide +kernel
theorem dX9_town_62 : decode cX9_town 62 = .ok (.ireturn, 1) := by decide +kernel
set_option maxRecDepth 20000 in
theorem ggX9_singer_X1_hasSinger : GoodIn wsX9_singer wsX1_hasSinger := goodIn_r _ [6, 7, 161, 162, 163, 164, 165, 166, 167, 168, 169, 170] (by decide +kernel) (by decide +kernel)
set_option maxRecDepth 20000 in
theorem gX9_singer_X1_hasSinger : GoodIn wsX9_singer (wsV RX9 87 RX1 yX1_hasSinger wsX1_hasSinger) := goodIn_app (goodIn_of _ (by decide +kernel)) ggX9_singer_X1_hasSinger
set_option maxRecDepth 20000 in
theorem ggX9_singer_X1_voice : GoodIn wsX9_singer wsX1_voice := goodIn_r _ [11, 12, 13, 14, 3, 4, 5, 6, 7, 15, 16, 17, 18, 19, 20, 21, 22, 23, 24, 161, 162, 163, 164, 165, 166, 167, 168, 169, 170, 171, 172, 173, 174, 175] (by decide +kernel) (by decide +kernel)
set_option maxRecDepth 20000 in
theorem gX9_singer_X1_voice : GoodIn wsX9_singer (wsV RX9 90 RX1 yX1_voice wsX1_voice) := goodIn_app (goodIn_of _ (by decide +kernel)) ggX9_singer_X1_voice
set_option maxRecDepth 20000 in
theorem ggX9_singer_X0_number : GoodIn wsX9_singer wsX0_number := goodIn_r _ [31] (by decide +kernel) (by decide +kernel)
set_option maxRecDepth 20000 in
theorem gX9_singer_X0_number_u94X0 : GoodIn wsX9_singer (va_wsO RX9 94 RX0 "WorstVoice$Singer" ⟨"WorstVoice$Singer", "number", "()I"⟩ yX0_number wsX0_number) := goodIn_app (goodIn_of _ (by decide +kernel)) ggX9_singer_X0_number
set_option maxRecDepth 20000 in
theorem ggX9_singer_X2_number : GoodIn wsX9_singer wsX2_number := goodIn_r _ [36] (by decide +kernel) (by decide +kernel)
set_option maxRecDepth 20000 in
theorem gX9_singer_X2_number_u94X2 : GoodIn wsX9_singer (va_wsO RX9 94 RX2 "WorstVoice$Singer" ⟨"WorstVoice$Singer", "number", "()I"⟩ yX2_number wsX2_number) := goodIn_app (goodIn_of _ (by decide +kernel)) ggX9_singer_X2_number
set_option maxRecDepth 20000 in
theorem ggX9_singer_X3_number : GoodIn wsX9_singer wsX3_number := goodIn_r _ [40] (by decide +kernel) (by decide +kernel)
set_option maxRecDepth 20000 in
theorem gX9_singer_X3_number_u94X3 : GoodIn wsX9_singer (va_wsO RX9 94 RX3 "WorstVoice$Singer" ⟨"WorstVoice$Singer", "number", "()I"⟩ yX3_number wsX3_number) := goodIn_app (goodIn_of _ (by decide +kernel)) ggX9_singer_X3_number
set_option maxRecDepth 20000 in
theorem ggX9_singer_X6_number : GoodIn wsX9_singer wsX6_number := goodIn_r _ [32] (by decide +kernel) (by decide +kernel)
set_option maxRecDepth 20000 in
theorem gX9_singer_X6_number : GoodIn wsX9_singer (wsV RX9 94 RX6 yX6_number wsX6_number) := goodIn_app (goodIn_of _ (by decide +kernel)) ggX9_singer_X6_number
set_option maxRecDepth 20000 in
theorem ggX9_singer_X7_number : GoodIn wsX9_singer wsX7_number := goodIn_r _ [48] (by decide +kernel) (by decide +kernel)
set_option maxRecDepth 20000 in
theorem gX9_singer_X7_number_u94X7 : GoodIn wsX9_singer (va_wsO RX9 94 RX7 "WorstVoice$Singer" ⟨"WorstVoice$Singer", "number", "()I"⟩ yX7_number wsX7_number) := goodIn_app (goodIn_of _ (by decide +kernel)) ggX9_singer_X7_number
set_option maxRecDepth 20000 in
theorem ggX9_singer_X1_votes : GoodIn wsX9_singer wsX1_votes := goodIn_r _ [52, 53, 54, 55, 56, 5, 57, 7, 58, 59, 60, 61, 62, 63, 64, 65, 66, 67, 68, 69, 70, 12, 13, 71, 72, 73, 74, 75, 76, 77, 78, 14, 3, 4, 6, 79, 80, 81, 15, 16, 17, 18, 19, 20, 21, 22, 23, 24, 82, 83, 84, 85, 86, 30, 87, 88, 89, 90, 35, 91, 92, 93, 39, 94, 95, 96, 97, 44, 98, 99, 47, 100, 161, 162, 163, 164, 165, 166, 167, 168, 169, 170, 171, 172, 173, 174, 175] (by decide +kernel) (by decide +kernel)
set_option maxRecDepth 20000 in
theorem gX9_singer_X1_votes : GoodIn wsX9_singer (wsV RX9 99 RX1 yX1_votes wsX1_votes) := goodIn_app (goodIn_of _ (by decide +kernel)) ggX9_singer_X1_votes
set_option maxRecDepth 20000 in
theorem ggX9_singer_X1_coldOf : GoodIn wsX9_singer wsX1_coldOf := goodIn_r _ [104, 72, 14, 3, 4, 5, 6, 7, 161, 162, 163, 164, 165, 166, 167, 168, 169, 170] (by decide +kernel) (by decide +kernel)
set_option maxRecDepth 20000 in
theorem gX9_singer_X1_coldOf : GoodIn wsX9_singer (wsV RX9 103 RX1 yX1_coldOf wsX1_coldOf) := goodIn_app (goodIn_of _ (by decide +kernel)) ggX9_singer_X1_coldOf
set_option maxRecDepth 20000 in
theorem ggX9_singer_X1_leftOf : GoodIn wsX9_singer wsX1_leftOf := goodIn_r _ [108, 73, 14, 3, 4, 5, 6, 7, 161, 162, 163, 164, 165, 166, 167, 168, 169, 170] (by decide +kernel) (by decide +kernel)
set_option maxRecDepth 20000 in
theorem gX9_singer_X1_leftOf : GoodIn wsX9_singer (wsV RX9 106 RX1 yX1_leftOf wsX1_leftOf) := goodIn_app (goodIn_of _ (by decide +kernel)) ggX9_singer_X1_leftOf
set_option maxRecDepth 20000 in
theorem ggX9_singer_X1_honeyOf : GoodIn wsX9_singer wsX1_honeyOf := goodIn_r _ [112, 74, 14, 3, 4, 5, 6, 7, 161, 162, 163, 164, 165, 166, 167, 168, 169, 170] (by decide +kernel) (by decide +kernel)
set_option maxRecDepth 20000 in
theorem gX9_singer_X1_honeyOf : GoodIn wsX9_singer (wsV RX9 109 RX1 yX1_honeyOf wsX1_honeyOf) := goodIn_app (goodIn_of _ (by decide +kernel)) ggX9_singer_X1_honeyOf
set_option maxRecDepth 20000 in
theorem ggX9_singer_X9_worstAndVotes : GoodIn wsX9_singer wsX9_worstAndVotes := goodIn_r _ [117, 118, 1, 119, 120, 121, 5, 122, 13, 71, 72, 73, 74, 62, 7, 53, 123, 124, 116, 125, 126, 127, 77, 128, 129, 130, 131, 132, 133, 134, 135, 136, 14, 3, 4, 6, 137, 138, 139, 140, 49, 50, 51, 52, 54, 55, 56, 57, 58, 59, 60, 61, 63, 64, 65, 66, 67, 68, 69, 70, 12, 75, 76, 78, 79, 80, 81, 15, 16, 17, 18, 19, 20, 21, 22, 23, 24, 82, 83, 84, 85, 86, 30, 87, 88, 89, 90, 35, 91, 92, 93, 39, 94, 95, 96, 97, 44, 98, 99, 47, 100, 150, 151, 152, 153, 154, 155, 156, 157, 158, 159, 160, 161, 162, 163, 164, 165, 166, 167, 168, 169, 170, 171, 172, 173, 174, 175] (by decide +kernel) (by decide +kernel)
set_option maxRecDepth 20000 in
theorem gX9_singer_X9_worstAndVotes : GoodIn wsX9_singer (wsV RX9 112 RX9 yX9_worstAndVotes wsX9_worstAndVotes) := goodIn_app (goodIn_of _ (by decide +kernel)) ggX9_singer_X9_worstAndVotes
set_option maxRecDepth 20000 in
theorem ggX9_singer_X9_singersFault : GoodIn wsX9_singer wsX9_singersFault := goodIn_r _ [144, 1, 145, 146, 147, 5, 148, 71, 14, 3, 4, 6, 7, 79, 80, 81, 149, 68, 69, 70, 12, 13, 72, 73, 74, 75, 76, 77, 78, 15, 16, 17, 18, 19, 20, 21, 22, 23, 24, 82, 83, 84, 85, 86, 30, 87, 88, 89, 90, 35, 91, 92, 93, 39, 94, 95, 96, 97, 44, 98, 99, 47, 100, 150, 151, 152, 153, 154, 155, 156, 157, 158, 159, 160, 161, 162, 163, 164, 165, 166, 167, 168, 169, 170, 171, 172, 173, 174, 175] (by decide +kernel) (by decide +kernel)
set_option maxRecDepth 20000 in
theorem gX9_singer_X9_singersFault : GoodIn wsX9_singer (wsV RX9 115 RX9 yX9_singersFault wsX9_singersFault) := goodIn_app (goodIn_of _ (by decide +kernel)) ggX9_singer_X9_singersFault
theorem dX9_singer_0 : decode cX9_singer 0 = .ok (.aload_n 0, 1) := by decide +kernel
theorem dX9_singer_1 : decode cX9_singer 1 = .ok (.getfield 41, 3) := by decide +kernel
theorem dX9_singer_4 : decode cX9_singer 4 = .ok (.iload_n 1, 1) := by decide +kernel
theorem dX9_singer_5 : decode cX9_singer 5 = .ok (.invokevirtual 87, 3) := by decide +kernel
theorem dX9_singer_8 : decode cX9_singer 8 = .ok (.ifCond .ne 6, 3) := by decide +kernel
theorem dX9_singer_11 : decode cX9_singer 11 = .ok (.bipush (-101), 2) := by decide +kernel
theorem dX9_singer_13 : decode cX9_singer 13 = .ok (.ireturn, 1) := by decide +kernel
theorem dX9_singer_14 : decode cX9_singer 14 = .ok (.iload_n 2, 1) := by decide +kernel
theorem dX9_singer_15 : decode cX9_singer 15 = .ok (.tableswitch 105 0 6 #[41, 53, 62, 71, 80, 89, 97], 41) := by decide +kernel
theorem dX9_singer_56 : decode cX9_singer 56 = .ok (.aload_n 0, 1) := by decide +kernel
theorem dX9_singer_57 : decode cX9_singer 57 = .ok (.getfield 41, 3) := by decide +kernel
theorem dX9_singer_60 : decode cX9_singer 60 = .ok (.iload_n 1, 1) := by decide +kernel
theorem dX9_singer_61 : decode cX9_singer 61 = .ok (.invokevirtual 90, 3) := by decide +kernel
theorem dX9_singer_64 : decode cX9_singer 64 = .ok (.invokevirtual 94, 3) := by decide +kernel
theorem dX9_singer_67 : decode cX9_singer 67 = .ok (.ireturn, 1) := by decide +kernel
theorem dX9_singer_68 : decode cX9_singer 68 = .ok (.aload_n 0, 1) := by decide +kernel
theorem dX9_singer_69 : decode cX9_singer 69 = .ok (.getfield 41, 3) := by decide +kernel
theorem dX9_singer_72 : decode cX9_singer 72 = .ok (.iload_n 1, 1) := by decide +kernel
theorem dX9_singer_73 : decode cX9_singer 73 = .ok (.invokevirtual 99, 3) := by decide +kernel
theorem dX9_singer_76 : decode cX9_singer 76 = .ok (.ireturn, 1) := by decide +kernel
theorem dX9_singer_77 : decode cX9_singer 77 = .ok (.aload_n 0, 1) := by decide +kernel
theorem dX9_singer_78 : decode cX9_singer 78 = .ok (.getfield 41, 3) := by decide +kernel
theorem dX9_singer_81 : decode cX9_singer 81 = .ok (.iload_n 1, 1) := by decide +kernel
theorem dX9_singer_82 : decode cX9_singer 82 = .ok (.invokevirtual 103, 3) := by decide +kernel
theorem dX9_singer_85 : decode cX9_singer 85 = .ok (.ireturn, 1) := by decide +kernel
theorem dX9_singer_86 : decode cX9_singer 86 = .ok (.aload_n 0, 1) := by decide +kernel
theorem dX9_singer_87 : decode cX9_singer 87 = .ok (.getfield 41, 3) := by decide +kernel
theorem dX9_singer_90 : decode cX9_singer 90 = .ok (.iload_n 1, 1) := by decide +kernel
theorem dX9_singer_91 : decode cX9_singer 91 = .ok (.invokevirtual 106, 3) := by decide +kernel
theorem dX9_singer_94 : decode cX9_singer 94 = .ok (.ireturn, 1) := by decide +kernel
theorem dX9_singer_95 : decode cX9_singer 95 = .ok (.aload_n 0, 1) := by decide +kernel
theorem dX9_singer_96 : decode cX9_singer 96 = .ok (.getfield 41, 3) := by decide +kernel
theorem dX9_singer_99 : decode cX9_singer 99 = .ok (.iload_n 1, 1) := by decide +kernel
theorem dX9_singer_100 : decode cX9_singer 100 = .ok (.invokevirtual 109, 3) := by decide +kernel
theorem dX9_singer_103 : decode cX9_singer 103 = .ok (.ireturn, 1) := by decide +kernel
theorem dX9_singer_104 : decode cX9_singer 104 = .ok (.aload_n 0, 1) := by decide +kernel
theorem dX9_singer_105 : decode cX9_singer 105 = .ok (.iload_n 1, 1) := by decide +kernel
theorem dX9_singer_106 : decode cX9_singer 106 = .ok (.invokevirtual 112, 3) := by decide +kernel
theorem dX9_singer_109 : decode cX9_singer 109 = .ok (.iconst 4, 1) := by decide +kernel
theorem dX9_singer_110 : decode cX9_singer 110 = .ok (.irem, 1) := by decide +kernel
theorem dX9_singer_111 : decode cX9_singer 111 = .ok (.ireturn, 1) := by decide +kernel
theorem dX9_singer_112 : decode cX9_singer 112 = .ok (.aload_n 0, 1) := by decide +kernel
theorem dX9_singer_113 : decode cX9_singer 113 = .ok (.iload_n 1, 1) := by decide +kernel
theorem dX9_singer_114 : decode cX9_singer 114 = .ok (.invokevirtual 112, 3) := by decide +kernel
theorem dX9_singer_117 : decode cX9_singer 117 = .ok (.iconst 4, 1) := by decide +kernel
theorem dX9_singer_118 : decode cX9_singer 118 = .ok (.idiv, 1) := by decide +kernel
theorem dX9_singer_119 : decode cX9_singer 119 = .ok (.ireturn, 1) := by decide +kernel
theorem dX9_singer_120 : decode cX9_singer 120 = .ok (.aload_n 0, 1) := by decide +kernel
theorem dX9_singer_121 : decode cX9_singer 121 = .ok (.iload_n 1, 1) := by decide +kernel
theorem dX9_singer_122 : decode cX9_singer 122 = .ok (.iload_n 2, 1) := by decide +kernel
theorem dX9_singer_123 : decode cX9_singer 123 = .ok (.invokevirtual 115, 3) := by decide +kernel
theorem dX9_singer_126 : decode cX9_singer 126 = .ok (.ireturn, 1) := by decide +kernel
set_option maxRecDepth 20000 in
theorem ggX9_as_X1_hasSinger : GoodIn wsX9_as wsX1_hasSinger := goodIn_r _ [6, 7, 44, 45, 46, 47, 48, 49, 50, 51, 52, 53] (by decide +kernel) (by decide +kernel)
set_option maxRecDepth 20000 in
theorem gX9_as_X1_hasSinger : GoodIn wsX9_as (wsV RX9 87 RX1 yX1_hasSinger wsX1_hasSinger) := goodIn_app (goodIn_of _ (by decide +kernel)) ggX9_as_X1_hasSinger
set_option maxRecDepth 20000 in
theorem ggX9_as_X1_voice : GoodIn wsX9_as wsX1_voice := goodIn_r _ [11, 12, 13, 14, 3, 4, 5, 6, 7, 15, 16, 17, 18, 19, 20, 21, 22, 23, 24, 44, 45, 46, 47, 48, 49, 50, 51, 52, 53, 54, 55, 56, 57, 58] (by decide +kernel) (by decide +kernel)
set_option maxRecDepth 20000 in
theorem gX9_as_X1_voice : GoodIn wsX9_as (wsV RX9 90 RX1 yX1_voice wsX1_voice) := goodIn_app (goodIn_of _ (by decide +kernel)) ggX9_as_X1_voice
set_option maxRecDepth 20000 in
theorem ggX9_as_X9_isOfKind : GoodIn wsX9_as wsX9_isOfKind := goodIn_r _ [28, 29, 30, 31, 32] (by decide +kernel) (by decide +kernel)
set_option maxRecDepth 20000 in
theorem gX9_as_X9_isOfKind : GoodIn wsX9_as (va_wsS RX9 119 yX9_isOfKind wsX9_isOfKind) := goodIn_app (goodIn_of _ (by decide +kernel)) ggX9_as_X9_isOfKind
theorem dX9_as_0 : decode cX9_as 0 = .ok (.aload_n 0, 1) := by decide +kernel
theorem dX9_as_1 : decode cX9_as 1 = .ok (.getfield 41, 3) := by decide +kernel
theorem dX9_as_4 : decode cX9_as 4 = .ok (.iload_n 1, 1) := by decide +kernel
theorem dX9_as_5 : decode cX9_as 5 = .ok (.invokevirtual 87, 3) := by decide +kernel
theorem dX9_as_8 : decode cX9_as 8 = .ok (.ifCond .ne 6, 3) := by decide +kernel
theorem dX9_as_11 : decode cX9_as 11 = .ok (.bipush (-101), 2) := by decide +kernel
theorem dX9_as_13 : decode cX9_as 13 = .ok (.ireturn, 1) := by decide +kernel
theorem dX9_as_14 : decode cX9_as 14 = .ok (.iload_n 2, 1) := by decide +kernel
theorem dX9_as_15 : decode cX9_as 15 = .ok (.ifCond .lt 8, 3) := by decide +kernel
theorem dX9_as_18 : decode cX9_as 18 = .ok (.iload_n 2, 1) := by decide +kernel
theorem dX9_as_19 : decode cX9_as 19 = .ok (.iconst 5, 1) := by decide +kernel
theorem dX9_as_20 : decode cX9_as 20 = .ok (.if_icmp .lt 6, 3) := by decide +kernel
theorem dX9_as_23 : decode cX9_as 23 = .ok (.bipush (-102), 2) := by decide +kernel
theorem dX9_as_25 : decode cX9_as 25 = .ok (.ireturn, 1) := by decide +kernel
theorem dX9_as_26 : decode cX9_as 26 = .ok (.aload_n 0, 1) := by decide +kernel
theorem dX9_as_27 : decode cX9_as 27 = .ok (.getfield 41, 3) := by decide +kernel
theorem dX9_as_30 : decode cX9_as 30 = .ok (.iload_n 1, 1) := by decide +kernel
theorem dX9_as_31 : decode cX9_as 31 = .ok (.invokevirtual 90, 3) := by decide +kernel
theorem dX9_as_34 : decode cX9_as 34 = .ok (.iload_n 2, 1) := by decide +kernel
theorem dX9_as_35 : decode cX9_as 35 = .ok (.invokestatic 119, 3) := by decide +kernel
theorem dX9_as_38 : decode cX9_as 38 = .ok (.ifCond .eq 7, 3) := by decide +kernel
theorem dX9_as_41 : decode cX9_as 41 = .ok (.iload_n 1, 1) := by decide +kernel
theorem dX9_as_42 : decode cX9_as 42 = .ok (.goto 4, 3) := by decide +kernel
theorem dX9_as_45 : decode cX9_as 45 = .ok (.iconst (-1), 1) := by decide +kernel
theorem dX9_as_46 : decode cX9_as 46 = .ok (.ireturn, 1) := by decide +kernel
set_option maxRecDepth 20000 in
theorem ggX9_widow_X1_hasWidow : GoodIn wsX9_widow wsX1_hasWidow := goodIn_r _ [6, 7, 120, 121, 122, 123, 124, 125, 126, 127, 128, 129] (by decide +kernel) (by decide +kernel)
set_option maxRecDepth 20000 in
theorem gX9_widow_X1_hasWidow : GoodIn wsX9_widow (wsV RX9 123 RX1 yX1_hasWidow wsX1_hasWidow) := goodIn_app (goodIn_of _ (by decide +kernel)) ggX9_widow_X1_hasWidow
set_option maxRecDepth 20000 in
theorem ggX9_widow_X1_minds : GoodIn wsX9_widow wsX1_minds := goodIn_r _ [11, 12, 13, 3, 4, 5, 6, 7, 120, 121, 122, 123, 124, 125, 126, 127, 128, 129] (by decide +kernel) (by decide +kernel)
set_option maxRecDepth 20000 in
theorem gX9_widow_X1_minds : GoodIn wsX9_widow (wsV RX9 126 RX1 yX1_minds wsX1_minds) := goodIn_app (goodIn_of _ (by decide +kernel)) ggX9_widow_X1_minds
set_option maxRecDepth 20000 in
theorem ggX9_widow_X1_favourite : GoodIn wsX9_widow wsX1_favourite := goodIn_r _ [17, 18, 19, 9, 10, 5, 11, 12, 13, 3, 4, 6, 7, 20, 21, 22, 23, 24, 25, 26, 27, 28, 29, 30, 31, 32, 33, 34, 35, 36, 37, 38, 39, 40, 41, 42, 43, 44, 45, 46, 47, 48, 49, 50, 51, 52, 53, 54, 55, 56, 57, 58, 59, 60, 61, 62, 63, 64, 65, 66, 67, 68, 69, 70, 71, 72, 73, 74, 120, 121, 122, 123, 124, 125, 126, 127, 128, 129, 130, 131, 132, 133, 134] (by decide +kernel) (by decide +kernel)
set_option maxRecDepth 20000 in
theorem gX9_widow_X1_favourite : GoodIn wsX9_widow (wsV RX9 129 RX1 yX1_favourite wsX1_favourite) := goodIn_app (goodIn_of _ (by decide +kernel)) ggX9_widow_X1_favourite
set_option maxRecDepth 20000 in
theorem ggX9_widow_X1_bad : GoodIn wsX9_widow wsX1_bad := goodIn_r _ [23, 24, 25, 26, 27, 28, 29, 30, 31, 32, 33, 34, 35, 36, 5, 37, 18, 38, 39, 40, 41, 42, 43, 44, 45, 46, 47, 48, 49, 50, 51, 52, 53, 54, 55, 56, 57, 58, 59, 60, 61, 62, 63, 64, 65, 66, 67, 68, 69, 70, 71, 72, 73, 74, 120, 121, 122, 123, 124, 125, 126, 127, 128, 129, 130, 131, 132, 133, 134] (by decide +kernel) (by decide +kernel)
set_option maxRecDepth 20000 in
theorem gX9_widow_X1_bad : GoodIn wsX9_widow (wsV RX9 132 RX1 yX1_bad wsX1_bad) := goodIn_app (goodIn_of _ (by decide +kernel)) ggX9_widow_X1_bad
set_option maxRecDepth 20000 in
theorem ggX9_widow_X9_canMind : GoodIn wsX9_widow wsX9_canMind := goodIn_r _ [80, 81, 1, 82, 83, 84, 85, 86, 87, 88, 89, 90, 91, 92, 21, 22, 5, 23, 24, 25, 26, 27, 28, 29, 30, 31, 32, 33, 34, 35, 36, 37, 18, 38, 39, 40, 41, 42, 43, 44, 45, 46, 47, 48, 49, 50, 51, 52, 53, 54, 55, 56, 57, 58, 59, 60, 61, 62, 63, 64, 65, 66, 67, 68, 69, 70, 71, 72, 73, 74, 109, 110, 111, 112, 113, 114, 115, 116, 117, 118, 119, 135, 136, 137, 138, 139, 120, 121, 122, 123, 124, 125, 126, 127, 128, 129, 130, 131, 132, 133, 134] (by decide +kernel) (by decide +kernel)
set_option maxRecDepth 20000 in
theorem gX9_widow_X9_canMind : GoodIn wsX9_widow (wsV RX9 135 RX9 yX9_canMind wsX9_canMind) := goodIn_app (goodIn_of _ (by decide +kernel)) ggX9_widow_X9_canMind
set_option maxRecDepth 20000 in
theorem ggX9_widow_X9_bestAsk : GoodIn wsX9_widow wsX9_bestAsk := goodIn_r _ [96, 1, 76, 77, 78, 79, 80, 81, 82, 83, 84, 85, 86, 87, 88, 89, 90, 91, 92, 21, 22, 5, 23, 24, 25, 26, 27, 28, 29, 30, 31, 32, 33, 34, 35, 36, 37, 18, 38, 39, 40, 41, 42, 43, 44, 45, 46, 47, 48, 49, 50, 51, 52, 53, 54, 55, 56, 57, 58, 59, 60, 61, 62, 63, 64, 65, 66, 67, 68, 69, 70, 71, 72, 73, 74, 97, 98, 99, 100, 101, 75, 102, 103, 104, 105, 106, 107, 108, 109, 110, 111, 112, 113, 114, 115, 116, 117, 118, 119, 120, 121, 122, 123, 124, 125, 126, 127, 128, 129, 135, 136, 137, 138, 139, 130, 131, 132, 133, 134] (by decide +kernel) (by decide +kernel)
set_option maxRecDepth 20000 in
theorem gX9_widow_X9_bestAsk : GoodIn wsX9_widow (wsV RX9 138 RX9 yX9_bestAsk wsX9_bestAsk) := goodIn_app (goodIn_of _ (by decide +kernel)) ggX9_widow_X9_bestAsk
theorem dX9_widow_0 : decode cX9_widow 0 = .ok (.aload_n 0, 1) := by decide +kernel
theorem dX9_widow_1 : decode cX9_widow 1 = .ok (.getfield 41, 3) := by decide +kernel
theorem dX9_widow_4 : decode cX9_widow 4 = .ok (.iload_n 1, 1) := by decide +kernel
theorem dX9_widow_5 : decode cX9_widow 5 = .ok (.invokevirtual 123, 3) := by decide +kernel
theorem dX9_widow_8 : decode cX9_widow 8 = .ok (.ifCond .ne 6, 3) := by decide +kernel
theorem dX9_widow_11 : decode cX9_widow 11 = .ok (.bipush (-101), 2) := by decide +kernel
theorem dX9_widow_13 : decode cX9_widow 13 = .ok (.ireturn, 1) := by decide +kernel
theorem dX9_widow_14 : decode cX9_widow 14 = .ok (.iload_n 2, 1) := by decide +kernel
theorem dX9_widow_15 : decode cX9_widow 15 = .ok (.tableswitch 87 0 4 #[33, 42, 51, 75, 81], 33) := by decide +kernel
theorem dX9_widow_48 : decode cX9_widow 48 = .ok (.aload_n 0, 1) := by decide +kernel
theorem dX9_widow_49 : decode cX9_widow 49 = .ok (.getfield 41, 3) := by decide +kernel
theorem dX9_widow_52 : decode cX9_widow 52 = .ok (.iload_n 1, 1) := by decide +kernel
theorem dX9_widow_53 : decode cX9_widow 53 = .ok (.invokevirtual 126, 3) := by decide +kernel
theorem dX9_widow_56 : decode cX9_widow 56 = .ok (.ireturn, 1) := by decide +kernel
theorem dX9_widow_57 : decode cX9_widow 57 = .ok (.aload_n 0, 1) := by decide +kernel
theorem dX9_widow_58 : decode cX9_widow 58 = .ok (.getfield 41, 3) := by decide +kernel
theorem dX9_widow_61 : decode cX9_widow 61 = .ok (.iload_n 1, 1) := by decide +kernel
theorem dX9_widow_62 : decode cX9_widow 62 = .ok (.invokevirtual 129, 3) := by decide +kernel
theorem dX9_widow_65 : decode cX9_widow 65 = .ok (.ireturn, 1) := by decide +kernel
theorem dX9_widow_66 : decode cX9_widow 66 = .ok (.aload_n 0, 1) := by decide +kernel
theorem dX9_widow_67 : decode cX9_widow 67 = .ok (.getfield 41, 3) := by decide +kernel
theorem dX9_widow_70 : decode cX9_widow 70 = .ok (.aload_n 0, 1) := by decide +kernel
theorem dX9_widow_71 : decode cX9_widow 71 = .ok (.getfield 41, 3) := by decide +kernel
theorem dX9_widow_74 : decode cX9_widow 74 = .ok (.iload_n 1, 1) := by decide +kernel
theorem dX9_widow_75 : decode cX9_widow 75 = .ok (.invokevirtual 129, 3) := by decide +kernel
theorem dX9_widow_78 : decode cX9_widow 78 = .ok (.aload_n 0, 1) := by decide +kernel
theorem dX9_widow_79 : decode cX9_widow 79 = .ok (.getfield 41, 3) := by decide +kernel
theorem dX9_widow_82 : decode cX9_widow 82 = .ok (.iload_n 1, 1) := by decide +kernel
theorem dX9_widow_83 : decode cX9_widow 83 = .ok (.invokevirtual 126, 3) := by decide +kernel
theorem dX9_widow_86 : decode cX9_widow 86 = .ok (.invokevirtual 132, 3) := by decide +kernel
theorem dX9_widow_89 : decode cX9_widow 89 = .ok (.ireturn, 1) := by decide +kernel
theorem dX9_widow_90 : decode cX9_widow 90 = .ok (.aload_n 0, 1) := by decide +kernel
theorem dX9_widow_91 : decode cX9_widow 91 = .ok (.iload_n 1, 1) := by decide +kernel
theorem dX9_widow_92 : decode cX9_widow 92 = .ok (.invokevirtual 135, 3) := by decide +kernel
theorem dX9_widow_95 : decode cX9_widow 95 = .ok (.ireturn, 1) := by decide +kernel
theorem dX9_widow_96 : decode cX9_widow 96 = .ok (.aload_n 0, 1) := by decide +kernel
theorem dX9_widow_97 : decode cX9_widow 97 = .ok (.iload_n 1, 1) := by decide +kernel
theorem dX9_widow_98 : decode cX9_widow 98 = .ok (.invokevirtual 138, 3) := by decide +kernel
theorem dX9_widow_101 : decode cX9_widow 101 = .ok (.ireturn, 1) := by decide +kernel
theorem dX9_widow_102 : decode cX9_widow 102 = .ok (.bipush (-102), 2) := by decide +kernel
theorem dX9_widow_104 : decode cX9_widow 104 = .ok (.ireturn, 1) := by decide +kernel
set_option maxRecDepth 20000 in
theorem ggX9_wince_X1_hasWidow : GoodIn wsX9_wince wsX1_hasWidow := goodIn_r _ [6, 7, 82, 83, 84, 85, 86, 87, 88, 89, 90, 91] (by decide +kernel) (by decide +kernel)
set_option maxRecDepth 20000 in
theorem gX9_wince_X1_hasWidow : GoodIn wsX9_wince (wsV RX9 123 RX1 yX1_hasWidow wsX1_hasWidow) := goodIn_app (goodIn_of _ (by decide +kernel)) ggX9_wince_X1_hasWidow
set_option maxRecDepth 20000 in
theorem ggX9_wince_X1_hasSinger : GoodIn wsX9_wince wsX1_hasSinger := goodIn_r _ [11, 12, 82, 83, 84, 85, 86, 87, 88, 89, 90, 91] (by decide +kernel) (by decide +kernel)
set_option maxRecDepth 20000 in
theorem gX9_wince_X1_hasSinger : GoodIn wsX9_wince (wsV RX9 87 RX1 yX1_hasSinger wsX1_hasSinger) := goodIn_app (goodIn_of _ (by decide +kernel)) ggX9_wince_X1_hasSinger
set_option maxRecDepth 20000 in
theorem ggX9_wince_X1_minds : GoodIn wsX9_wince wsX1_minds := goodIn_r _ [16, 17, 18, 3, 4, 5, 6, 7, 82, 83, 84, 85, 86, 87, 88, 89, 90, 91] (by decide +kernel) (by decide +kernel)
set_option maxRecDepth 20000 in
theorem gX9_wince_X1_minds : GoodIn wsX9_wince (wsV RX9 126 RX1 yX1_minds wsX1_minds) := goodIn_app (goodIn_of _ (by decide +kernel)) ggX9_wince_X1_minds
set_option maxRecDepth 20000 in
theorem ggX9_wince_X1_bad : GoodIn wsX9_wince wsX1_bad := goodIn_r _ [22, 23, 24, 25, 26, 27, 28, 29, 30, 31, 32, 33, 9, 10, 5, 11, 12, 34, 35, 36, 37, 38, 39, 40, 41, 42, 43, 44, 45, 46, 47, 48, 49, 50, 51, 52, 53, 54, 55, 56, 57, 58, 59, 60, 61, 62, 63, 64, 65, 66, 67, 68, 69, 70, 82, 83, 84, 85, 86, 87, 88, 89, 90, 91, 92, 93, 94, 95, 96] (by decide +kernel) (by decide +kernel)
set_option maxRecDepth 20000 in
theorem gX9_wince_X1_bad : GoodIn wsX9_wince (wsV RX9 132 RX1 yX1_bad wsX1_bad) := goodIn_app (goodIn_of _ (by decide +kernel)) ggX9_wince_X1_bad
theorem dX9_wince_0 : decode cX9_wince 0 = .ok (.aload_n 0, 1) := by decide +kernel
theorem dX9_wince_1 : decode cX9_wince 1 = .ok (.getfield 41, 3) := by decide +kernel
theorem dX9_wince_4 : decode cX9_wince 4 = .ok (.iload_n 1, 1) := by decide +kernel
theorem dX9_wince_5 : decode cX9_wince 5 = .ok (.invokevirtual 123, 3) := by decide +kernel
theorem dX9_wince_8 : decode cX9_wince 8 = .ok (.ifCond .eq 14, 3) := by decide +kernel
theorem dX9_wince_11 : decode cX9_wince 11 = .ok (.aload_n 0, 1) := by decide +kernel
theorem dX9_wince_12 : decode cX9_wince 12 = .ok (.getfield 41, 3) := by decide +kernel
theorem dX9_wince_15 : decode cX9_wince 15 = .ok (.iload_n 2, 1) := by decide +kernel
theorem dX9_wince_16 : decode cX9_wince 16 = .ok (.invokevirtual 87, 3) := by decide +kernel
theorem dX9_wince_19 : decode cX9_wince 19 = .ok (.ifCond .ne 6, 3) := by decide +kernel
theorem dX9_wince_22 : decode cX9_wince 22 = .ok (.bipush (-101), 2) := by decide +kernel
theorem dX9_wince_24 : decode cX9_wince 24 = .ok (.ireturn, 1) := by decide +kernel
theorem dX9_wince_25 : decode cX9_wince 25 = .ok (.aload_n 0, 1) := by decide +kernel
theorem dX9_wince_26 : decode cX9_wince 26 = .ok (.getfield 41, 3) := by decide +kernel
theorem dX9_wince_29 : decode cX9_wince 29 = .ok (.iload_n 2, 1) := by decide +kernel
theorem dX9_wince_30 : decode cX9_wince 30 = .ok (.aload_n 0, 1) := by decide +kernel
theorem dX9_wince_31 : decode cX9_wince 31 = .ok (.getfield 41, 3) := by decide +kernel
theorem dX9_wince_34 : decode cX9_wince 34 = .ok (.iload_n 1, 1) := by decide +kernel
theorem dX9_wince_35 : decode cX9_wince 35 = .ok (.invokevirtual 126, 3) := by decide +kernel
theorem dX9_wince_38 : decode cX9_wince 38 = .ok (.invokevirtual 132, 3) := by decide +kernel
theorem dX9_wince_41 : decode cX9_wince 41 = .ok (.ireturn, 1) := by decide +kernel
set_option maxRecDepth 20000 in
theorem ggX9_cold_X1_hasSinger : GoodIn wsX9_cold wsX1_hasSinger := goodIn_r _ [6, 7, 29, 30, 31, 32, 33, 34, 35, 36, 37, 38] (by decide +kernel) (by decide +kernel)
set_option maxRecDepth 20000 in
theorem gX9_cold_X1_hasSinger : GoodIn wsX9_cold (wsV RX9 87 RX1 yX1_hasSinger wsX1_hasSinger) := goodIn_app (goodIn_of _ (by decide +kernel)) ggX9_cold_X1_hasSinger
set_option maxRecDepth 20000 in
theorem ggX9_cold_X1_coldOf : GoodIn wsX9_cold wsX1_coldOf := goodIn_r _ [11, 12, 13, 3, 4, 5, 6, 7, 29, 30, 31, 32, 33, 34, 35, 36, 37, 38] (by decide +kernel) (by decide +kernel)
set_option maxRecDepth 20000 in
theorem gX9_cold_X1_coldOf : GoodIn wsX9_cold (wsV RX9 103 RX1 yX1_coldOf wsX1_coldOf) := goodIn_app (goodIn_of _ (by decide +kernel)) ggX9_cold_X1_coldOf
set_option maxRecDepth 20000 in
theorem ggX9_cold_X1_setCold : GoodIn wsX9_cold wsX1_setCold := goodIn_r _ [17, 12, 13, 3, 4, 5, 6, 7, 29, 30, 31, 32, 33, 34, 35, 36, 37, 38] (by decide +kernel) (by decide +kernel)
set_option maxRecDepth 20000 in
theorem gX9_cold_X1_setCold : GoodIn wsX9_cold (wsV RX9 141 RX1 yX1_setCold wsX1_setCold) := goodIn_app (goodIn_of _ (by decide +kernel)) ggX9_cold_X1_setCold
theorem dX9_cold_0 : decode cX9_cold 0 = .ok (.aload_n 0, 1) := by decide +kernel
theorem dX9_cold_1 : decode cX9_cold 1 = .ok (.getfield 41, 3) := by decide +kernel
theorem dX9_cold_4 : decode cX9_cold 4 = .ok (.iload_n 1, 1) := by decide +kernel
theorem dX9_cold_5 : decode cX9_cold 5 = .ok (.invokevirtual 87, 3) := by decide +kernel
theorem dX9_cold_8 : decode cX9_cold 8 = .ok (.ifCond .ne 6, 3) := by decide +kernel
theorem dX9_cold_11 : decode cX9_cold 11 = .ok (.bipush (-101), 2) := by decide +kernel
theorem dX9_cold_13 : decode cX9_cold 13 = .ok (.ireturn, 1) := by decide +kernel
theorem dX9_cold_14 : decode cX9_cold 14 = .ok (.aload_n 0, 1) := by decide +kernel
theorem dX9_cold_15 : decode cX9_cold 15 = .ok (.getfield 41, 3) := by decide +kernel
theorem dX9_cold_18 : decode cX9_cold 18 = .ok (.iload_n 1, 1) := by decide +kernel
theorem dX9_cold_19 : decode cX9_cold 19 = .ok (.invokevirtual 103, 3) := by decide +kernel
theorem dX9_cold_22 : decode cX9_cold 22 = .ok (.istore_n 3, 1) := by decide +kernel
theorem dX9_cold_23 : decode cX9_cold 23 = .ok (.aload_n 0, 1) := by decide +kernel
theorem dX9_cold_24 : decode cX9_cold 24 = .ok (.getfield 41, 3) := by decide +kernel
theorem dX9_cold_27 : decode cX9_cold 27 = .ok (.iload_n 1, 1) := by decide +kernel
theorem dX9_cold_28 : decode cX9_cold 28 = .ok (.iload_n 2, 1) := by decide +kernel
theorem dX9_cold_29 : decode cX9_cold 29 = .ok (.invokevirtual 141, 3) := by decide +kernel
theorem dX9_cold_32 : decode cX9_cold 32 = .ok (.iload_n 3, 1) := by decide +kernel
theorem dX9_cold_33 : decode cX9_cold 33 = .ok (.ireturn, 1) := by decide +kernel
set_option maxRecDepth 20000 in
theorem ggX9_aisle_X1_hasSinger : GoodIn wsX9_aisle wsX1_hasSinger := goodIn_r _ [6, 7, 29, 30, 31, 32, 33, 34, 35, 36, 37, 38] (by decide +kernel) (by decide +kernel)
set_option maxRecDepth 20000 in
theorem gX9_aisle_X1_hasSinger : GoodIn wsX9_aisle (wsV RX9 87 RX1 yX1_hasSinger wsX1_hasSinger) := goodIn_app (goodIn_of _ (by decide +kernel)) ggX9_aisle_X1_hasSinger
set_option maxRecDepth 20000 in
theorem ggX9_aisle_X1_leftOf : GoodIn wsX9_aisle wsX1_leftOf := goodIn_r _ [11, 12, 13, 3, 4, 5, 6, 7, 29, 30, 31, 32, 33, 34, 35, 36, 37, 38] (by decide +kernel) (by decide +kernel)
set_option maxRecDepth 20000 in
theorem gX9_aisle_X1_leftOf : GoodIn wsX9_aisle (wsV RX9 106 RX1 yX1_leftOf wsX1_leftOf) := goodIn_app (goodIn_of _ (by decide +kernel)) ggX9_aisle_X1_leftOf
set_option maxRecDepth 20000 in
theorem ggX9_aisle_X1_setLeft : GoodIn wsX9_aisle wsX1_setLeft := goodIn_r _ [17, 12, 13, 3, 4, 5, 6, 7, 29, 30, 31, 32, 33, 34, 35, 36, 37, 38] (by decide +kernel) (by decide +kernel)
set_option maxRecDepth 20000 in
theorem gX9_aisle_X1_setLeft : GoodIn wsX9_aisle (wsV RX9 145 RX1 yX1_setLeft wsX1_setLeft) := goodIn_app (goodIn_of _ (by decide +kernel)) ggX9_aisle_X1_setLeft
theorem dX9_aisle_0 : decode cX9_aisle 0 = .ok (.aload_n 0, 1) := by decide +kernel
theorem dX9_aisle_1 : decode cX9_aisle 1 = .ok (.getfield 41, 3) := by decide +kernel
theorem dX9_aisle_4 : decode cX9_aisle 4 = .ok (.iload_n 1, 1) := by decide +kernel
theorem dX9_aisle_5 : decode cX9_aisle 5 = .ok (.invokevirtual 87, 3) := by decide +kernel
theorem dX9_aisle_8 : decode cX9_aisle 8 = .ok (.ifCond .ne 6, 3) := by decide +kernel
theorem dX9_aisle_11 : decode cX9_aisle 11 = .ok (.bipush (-101), 2) := by decide +kernel
theorem dX9_aisle_13 : decode cX9_aisle 13 = .ok (.ireturn, 1) := by decide +kernel
theorem dX9_aisle_14 : decode cX9_aisle 14 = .ok (.aload_n 0, 1) := by decide +kernel
theorem dX9_aisle_15 : decode cX9_aisle 15 = .ok (.getfield 41, 3) := by decide +kernel
theorem dX9_aisle_18 : decode cX9_aisle 18 = .ok (.iload_n 1, 1) := by decide +kernel
theorem dX9_aisle_19 : decode cX9_aisle 19 = .ok (.invokevirtual 106, 3) := by decide +kernel
theorem dX9_aisle_22 : decode cX9_aisle 22 = .ok (.istore_n 3, 1) := by decide +kernel
theorem dX9_aisle_23 : decode cX9_aisle 23 = .ok (.aload_n 0, 1) := by decide +kernel
theorem dX9_aisle_24 : decode cX9_aisle 24 = .ok (.getfield 41, 3) := by decide +kernel
theorem dX9_aisle_27 : decode cX9_aisle 27 = .ok (.iload_n 1, 1) := by decide +kernel
theorem dX9_aisle_28 : decode cX9_aisle 28 = .ok (.iload_n 2, 1) := by decide +kernel
theorem dX9_aisle_29 : decode cX9_aisle 29 = .ok (.invokevirtual 145, 3) := by decide +kernel
theorem dX9_aisle_32 : decode cX9_aisle 32 = .ok (.iload_n 3, 1) := by decide +kernel
theorem dX9_aisle_33 : decode cX9_aisle 33 = .ok (.ireturn, 1) := by decide +kernel
set_option maxRecDepth 20000 in
theorem ggX9_honey_X1_hasSinger : GoodIn wsX9_honey wsX1_hasSinger := goodIn_r _ [6, 7, 29, 30, 31, 32, 33, 34, 35, 36, 37, 38] (by decide +kernel) (by decide +kernel)
set_option maxRecDepth 20000 in
theorem gX9_honey_X1_hasSinger : GoodIn wsX9_honey (wsV RX9 87 RX1 yX1_hasSinger wsX1_hasSinger) := goodIn_app (goodIn_of _ (by decide +kernel)) ggX9_honey_X1_hasSinger
set_option maxRecDepth 20000 in
theorem ggX9_honey_X1_honeyOf : GoodIn wsX9_honey wsX1_honeyOf := goodIn_r _ [11, 12, 13, 3, 4, 5, 6, 7, 29, 30, 31, 32, 33, 34, 35, 36, 37, 38] (by decide +kernel) (by decide +kernel)
set_option maxRecDepth 20000 in
theorem gX9_honey_X1_honeyOf : GoodIn wsX9_honey (wsV RX9 109 RX1 yX1_honeyOf wsX1_honeyOf) := goodIn_app (goodIn_of _ (by decide +kernel)) ggX9_honey_X1_honeyOf
set_option maxRecDepth 20000 in
theorem ggX9_honey_X1_setHoney : GoodIn wsX9_honey wsX1_setHoney := goodIn_r _ [17, 12, 13, 3, 4, 5, 6, 7, 29, 30, 31, 32, 33, 34, 35, 36, 37, 38] (by decide +kernel) (by decide +kernel)
set_option maxRecDepth 20000 in
theorem gX9_honey_X1_setHoney : GoodIn wsX9_honey (wsV RX9 148 RX1 yX1_setHoney wsX1_setHoney) := goodIn_app (goodIn_of _ (by decide +kernel)) ggX9_honey_X1_setHoney
theorem dX9_honey_0 : decode cX9_honey 0 = .ok (.aload_n 0, 1) := by decide +kernel
theorem dX9_honey_1 : decode cX9_honey 1 = .ok (.getfield 41, 3) := by decide +kernel
theorem dX9_honey_4 : decode cX9_honey 4 = .ok (.iload_n 1, 1) := by decide +kernel
theorem dX9_honey_5 : decode cX9_honey 5 = .ok (.invokevirtual 87, 3) := by decide +kernel
theorem dX9_honey_8 : decode cX9_honey 8 = .ok (.ifCond .ne 6, 3) := by decide +kernel
theorem dX9_honey_11 : decode cX9_honey 11 = .ok (.bipush (-101), 2) := by decide +kernel
theorem dX9_honey_13 : decode cX9_honey 13 = .ok (.ireturn, 1) := by decide +kernel
theorem dX9_honey_14 : decode cX9_honey 14 = .ok (.iload_n 2, 1) := by decide +kernel
theorem dX9_honey_15 : decode cX9_honey 15 = .ok (.ifCond .lt 9, 3) := by decide +kernel
theorem dX9_honey_18 : decode cX9_honey 18 = .ok (.iload_n 2, 1) := by decide +kernel
theorem dX9_honey_19 : decode cX9_honey 19 = .ok (.bipush 9, 2) := by decide +kernel
theorem dX9_honey_21 : decode cX9_honey 21 = .ok (.if_icmp .le 6, 3) := by decide +kernel
theorem dX9_honey_24 : decode cX9_honey 24 = .ok (.bipush (-102), 2) := by decide +kernel
theorem dX9_honey_26 : decode cX9_honey 26 = .ok (.ireturn, 1) := by decide +kernel
theorem dX9_honey_27 : decode cX9_honey 27 = .ok (.aload_n 0, 1) := by decide +kernel
theorem dX9_honey_28 : decode cX9_honey 28 = .ok (.getfield 41, 3) := by decide +kernel
theorem dX9_honey_31 : decode cX9_honey 31 = .ok (.iload_n 1, 1) := by decide +kernel
theorem dX9_honey_32 : decode cX9_honey 32 = .ok (.invokevirtual 109, 3) := by decide +kernel
theorem dX9_honey_35 : decode cX9_honey 35 = .ok (.istore_n 3, 1) := by decide +kernel
theorem dX9_honey_36 : decode cX9_honey 36 = .ok (.aload_n 0, 1) := by decide +kernel
theorem dX9_honey_37 : decode cX9_honey 37 = .ok (.getfield 41, 3) := by decide +kernel
theorem dX9_honey_40 : decode cX9_honey 40 = .ok (.iload_n 1, 1) := by decide +kernel
theorem dX9_honey_41 : decode cX9_honey 41 = .ok (.iload_n 2, 1) := by decide +kernel
theorem dX9_honey_42 : decode cX9_honey 42 = .ok (.invokevirtual 148, 3) := by decide +kernel
theorem dX9_honey_45 : decode cX9_honey 45 = .ok (.iload_n 3, 1) := by decide +kernel
theorem dX9_honey_46 : decode cX9_honey 46 = .ok (.ireturn, 1) := by decide +kernel
set_option maxRecDepth 20000 in
theorem ggX9_practise_X1_hasSinger : GoodIn wsX9_practise wsX1_hasSinger := goodIn_r _ [6, 7, 57, 58, 59, 60, 61, 62, 63, 64, 65, 66] (by decide +kernel) (by decide +kernel)
set_option maxRecDepth 20000 in
theorem gX9_practise_X1_hasSinger : GoodIn wsX9_practise (wsV RX9 87 RX1 yX1_hasSinger wsX1_hasSinger) := goodIn_app (goodIn_of _ (by decide +kernel)) ggX9_practise_X1_hasSinger
set_option maxRecDepth 20000 in
theorem ggX9_practise_X1_practiseWeek : GoodIn wsX9_practise wsX1_practiseWeek := goodIn_r _ [11, 12, 13, 14, 3, 4, 5, 6, 7, 15, 16, 17, 18, 19, 20, 21, 22, 23, 24, 25, 26, 27, 28, 29, 30, 31, 32, 33, 34, 35, 36, 37, 38, 39, 40, 41, 42, 43, 44, 45, 57, 58, 59, 60, 61, 62, 63, 64, 65, 66, 67, 68, 69, 70, 71] (by decide +kernel) (by decide +kernel)
set_option maxRecDepth 20000 in
theorem gX9_practise_X1_practiseWeek : GoodIn wsX9_practise (wsV RX9 152 RX1 yX1_practiseWeek wsX1_practiseWeek) := goodIn_app (goodIn_of _ (by decide +kernel)) ggX9_practise_X1_practiseWeek
theorem dX9_practise_0 : decode cX9_practise 0 = .ok (.aload_n 0, 1) := by decide +kernel
theorem dX9_practise_1 : decode cX9_practise 1 = .ok (.getfield 41, 3) := by decide +kernel
theorem dX9_practise_4 : decode cX9_practise 4 = .ok (.iload_n 1, 1) := by decide +kernel
theorem dX9_practise_5 : decode cX9_practise 5 = .ok (.invokevirtual 87, 3) := by decide +kernel
theorem dX9_practise_8 : decode cX9_practise 8 = .ok (.ifCond .ne 6, 3) := by decide +kernel
theorem dX9_practise_11 : decode cX9_practise 11 = .ok (.bipush (-101), 2) := by decide +kernel
theorem dX9_practise_13 : decode cX9_practise 13 = .ok (.ireturn, 1) := by decide +kernel
theorem dX9_practise_14 : decode cX9_practise 14 = .ok (.aload_n 0, 1) := by decide +kernel
theorem dX9_practise_15 : decode cX9_practise 15 = .ok (.getfield 41, 3) := by decide +kernel
theorem dX9_practise_18 : decode cX9_practise 18 = .ok (.iload_n 1, 1) := by decide +kernel
theorem dX9_practise_19 : decode cX9_practise 19 = .ok (.invokevirtual 152, 3) := by decide +kernel
theorem dX9_practise_22 : decode cX9_practise 22 = .ok (.ireturn, 1) := by decide +kernel
set_option maxRecDepth 20000 in
theorem ggX9_mayor_X1_isEmpty : GoodIn wsX9_mayor wsX1_isEmpty := goodIn_r _ [6, 7, 96, 97, 98, 99, 100, 101, 102, 103, 104, 105] (by decide +kernel) (by decide +kernel)
set_option maxRecDepth 20000 in
theorem gX9_mayor_X1_isEmpty : GoodIn wsX9_mayor (wsV RX9 155 RX1 yX1_isEmpty wsX1_isEmpty) := goodIn_app (goodIn_of _ (by decide +kernel)) ggX9_mayor_X1_isEmpty
set_option maxRecDepth 20000 in
theorem ggX9_mayor_X1_elected : GoodIn wsX9_mayor wsX1_elected := goodIn_r _ [11, 7, 12, 13, 14, 5, 15, 16, 17, 18, 19, 20, 21, 22, 23, 24, 25, 26, 27, 28, 29, 30, 31, 32, 33, 34, 35, 36, 37, 38, 39, 40, 41, 42, 43, 44, 45, 46, 47, 48, 49, 50, 51, 52, 53, 54, 55, 56, 57, 58, 59, 60, 61, 62, 63, 64, 65, 66, 67, 68, 69, 70, 71, 72, 73, 74, 75, 76, 77, 78, 79, 80, 81, 82, 83, 84, 96, 97, 98, 99, 100, 101, 102, 103, 104, 105, 106, 107, 108, 109, 110] (by decide +kernel) (by decide +kernel)
set_option maxRecDepth 20000 in
theorem gX9_mayor_X1_elected : GoodIn wsX9_mayor (wsV RX9 158 RX1 yX1_elected wsX1_elected) := goodIn_app (goodIn_of _ (by decide +kernel)) ggX9_mayor_X1_elected
theorem dX9_mayor_0 : decode cX9_mayor 0 = .ok (.aload_n 0, 1) := by decide +kernel
theorem dX9_mayor_1 : decode cX9_mayor 1 = .ok (.getfield 41, 3) := by decide +kernel
theorem dX9_mayor_4 : decode cX9_mayor 4 = .ok (.invokevirtual 155, 3) := by decide +kernel
theorem dX9_mayor_7 : decode cX9_mayor 7 = .ok (.ifCond .eq 8, 3) := by decide +kernel
theorem dX9_mayor_10 : decode cX9_mayor 10 = .ok (.bipush (-103), 2) := by decide +kernel
theorem dX9_mayor_12 : decode cX9_mayor 12 = .ok (.goto 10, 3) := by decide +kernel
theorem dX9_mayor_15 : decode cX9_mayor 15 = .ok (.aload_n 0, 1) := by decide +kernel
theorem dX9_mayor_16 : decode cX9_mayor 16 = .ok (.getfield 41, 3) := by decide +kernel
theorem dX9_mayor_19 : decode cX9_mayor 19 = .ok (.invokevirtual 158, 3) := by decide +kernel
theorem dX9_mayor_22 : decode cX9_mayor 22 = .ok (.ireturn, 1) := by decide +kernel
set_option maxRecDepth 20000 in
theorem ggX9_need_X1_hasSinger : GoodIn wsX9_need wsX1_hasSinger := goodIn_r _ [8, 9, 129, 130, 131, 132, 133, 134, 135, 136, 137, 138] (by decide +kernel) (by decide +kernel)
set_option maxRecDepth 20000 in
theorem gX9_need_X1_hasSinger : GoodIn wsX9_need (wsV RX9 87 RX1 yX1_hasSinger wsX1_hasSinger) := goodIn_app (goodIn_of _ (by decide +kernel)) ggX9_need_X1_hasSinger
set_option maxRecDepth 20000 in
theorem ggX9_need_X9_pourLeast : GoodIn wsX9_need wsX9_pourLeast := goodIn_r _ [14, 15, 1, 16, 3, 17, 18, 19, 7, 20, 21, 22, 23, 24, 25, 26, 9, 27, 28, 29, 13, 30, 31, 32, 33, 34, 35, 36, 37, 38, 39, 40, 41, 42, 4, 5, 6, 8, 43, 44, 45, 46, 47, 48, 49, 50, 51, 52, 53, 54, 55, 56, 57, 58, 59, 60, 61, 62, 63, 64, 65, 66, 67, 68, 69, 70, 71, 72, 73, 74, 75, 76, 77, 78, 79, 80, 81, 82, 83, 84, 85, 86, 87, 88, 89, 90, 91, 92, 93, 94, 95, 96, 97, 98, 99, 100, 101, 102, 103, 104, 105, 106, 107, 108, 109, 110, 111, 112, 113, 114, 115, 116, 117, 118, 119, 120, 121, 122, 123, 124, 125, 126, 127, 128, 129, 130, 131, 132, 133, 134, 135, 136, 137, 138, 139, 140, 141, 142, 143] (by decide +kernel) (by decide +kernel)
set_option maxRecDepth 20000 in
theorem gX9_need_X9_pourLeast : GoodIn wsX9_need (wsV RX9 164 RX9 yX9_pourLeast wsX9_pourLeast) := goodIn_app (goodIn_of _ (by decide +kernel)) ggX9_need_X9_pourLeast
theorem dX9_need_0 : decode cX9_need 0 = .ok (.aload_n 0, 1) := by decide +kernel
theorem dX9_need_1 : decode cX9_need 1 = .ok (.getfield 41, 3) := by decide +kernel
theorem dX9_need_4 : decode cX9_need 4 = .ok (.iload_n 1, 1) := by decide +kernel
theorem dX9_need_5 : decode cX9_need 5 = .ok (.invokevirtual 87, 3) := by decide +kernel
theorem dX9_need_8 : decode cX9_need 8 = .ok (.ifCond .ne 6, 3) := by decide +kernel
theorem dX9_need_11 : decode cX9_need 11 = .ok (.bipush (-101), 2) := by decide +kernel
theorem dX9_need_13 : decode cX9_need 13 = .ok (.ireturn, 1) := by decide +kernel
theorem dX9_need_14 : decode cX9_need 14 = .ok (.iload_n 2, 1) := by decide +kernel
theorem dX9_need_15 : decode cX9_need 15 = .ok (.bipush 10, 2) := by decide +kernel
theorem dX9_need_17 : decode cX9_need 17 = .ok (.if_icmp .lt 13, 3) := by decide +kernel
theorem dX9_need_20 : decode cX9_need 20 = .ok (.iload_n 2, 1) := by decide +kernel
theorem dX9_need_21 : decode cX9_need 21 = .ok (.bipush 14, 2) := by decide +kernel
theorem dX9_need_23 : decode cX9_need 23 = .ok (.if_icmp .ge 7, 3) := by decide +kernel
theorem dX9_need_26 : decode cX9_need 26 = .ok (.iconst 1, 1) := by decide +kernel
theorem dX9_need_27 : decode cX9_need 27 = .ok (.goto 4, 3) := by decide +kernel
theorem dX9_need_30 : decode cX9_need 30 = .ok (.iconst 0, 1) := by decide +kernel
theorem dX9_need_31 : decode cX9_need 31 = .ok (.istore_n 3, 1) := by decide +kernel
theorem dX9_need_32 : decode cX9_need 32 = .ok (.iload_n 2, 1) := by decide +kernel
theorem dX9_need_33 : decode cX9_need 33 = .ok (.ifCond .eq 10, 3) := by decide +kernel
theorem dX9_need_36 : decode cX9_need 36 = .ok (.iload_n 3, 1) := by decide +kernel
theorem dX9_need_37 : decode cX9_need 37 = .ok (.ifCond .ne 6, 3) := by decide +kernel
theorem dX9_need_40 : decode cX9_need 40 = .ok (.bipush (-102), 2) := by decide +kernel
theorem dX9_need_42 : decode cX9_need 42 = .ok (.ireturn, 1) := by decide +kernel
theorem dX9_need_43 : decode cX9_need 43 = .ok (.aload_n 0, 1) := by decide +kernel
theorem dX9_need_44 : decode cX9_need 44 = .ok (.getfield 161, 3) := by decide +kernel
theorem dX9_need_47 : decode cX9_need 47 = .ok (.bipush 20, 2) := by decide +kernel
theorem dX9_need_49 : decode cX9_need 49 = .ok (.if_icmp .lt 6, 3) := by decide +kernel
theorem dX9_need_52 : decode cX9_need 52 = .ok (.bipush (-103), 2) := by decide +kernel
theorem dX9_need_54 : decode cX9_need 54 = .ok (.ireturn, 1) := by decide +kernel
theorem dX9_need_55 : decode cX9_need 55 = .ok (.aload_n 0, 1) := by decide +kernel
theorem dX9_need_56 : decode cX9_need 56 = .ok (.dup, 1) := by decide +kernel
theorem dX9_need_57 : decode cX9_need 57 = .ok (.getfield 161, 3) := by decide +kernel
theorem dX9_need_60 : decode cX9_need 60 = .ok (.iconst 1, 1) := by decide +kernel
theorem dX9_need_61 : decode cX9_need 61 = .ok (.iadd, 1) := by decide +kernel
theorem dX9_need_62 : decode cX9_need 62 = .ok (.putfield 161, 3) := by decide +kernel
theorem dX9_need_65 : decode cX9_need 65 = .ok (.aload_n 0, 1) := by decide +kernel
theorem dX9_need_66 : decode cX9_need 66 = .ok (.iload_n 1, 1) := by decide +kernel
theorem dX9_need_67 : decode cX9_need 67 = .ok (.invokevirtual 164, 3) := by decide +kernel
theorem dX9_need_70 : decode cX9_need 70 = .ok (.istore 4, 2) := by decide +kernel
theorem dX9_need_72 : decode cX9_need 72 = .ok (.iload 4, 2) := by decide +kernel
theorem dX9_need_74 : decode cX9_need 74 = .ok (.iconst (-1), 1) := by decide +kernel
theorem dX9_need_75 : decode cX9_need 75 = .ok (.if_icmp .eq 7, 3) := by decide +kernel
theorem dX9_need_78 : decode cX9_need 78 = .ok (.iload_n 3, 1) := by decide +kernel
theorem dX9_need_79 : decode cX9_need 79 = .ok (.ifCond .ne 6, 3) := by decide +kernel
theorem dX9_need_82 : decode cX9_need 82 = .ok (.iload 4, 2) := by decide +kernel
theorem dX9_need_84 : decode cX9_need 84 = .ok (.ireturn, 1) := by decide +kernel
theorem dX9_need_85 : decode cX9_need 85 = .ok (.iload_n 2, 1) := by decide +kernel
theorem dX9_need_86 : decode cX9_need 86 = .ok (.bipush 10, 2) := by decide +kernel
theorem dX9_need_88 : decode cX9_need 88 = .ok (.isub, 1) := by decide +kernel
theorem dX9_need_89 : decode cX9_need 89 = .ok (.istore 5, 2) := by decide +kernel
theorem dX9_need_91 : decode cX9_need 91 = .ok (.aload_n 0, 1) := by decide +kernel
theorem dX9_need_92 : decode cX9_need 92 = .ok (.getfield 41, 3) := by decide +kernel
theorem dX9_need_95 : decode cX9_need 95 = .ok (.iload 5, 2) := by decide +kernel
theorem dX9_need_97 : decode cX9_need 97 = .ok (.invokevirtual 87, 3) := by decide +kernel
theorem dX9_need_100 : decode cX9_need 100 = .ok (.ifCond .eq 13, 3) := by decide +kernel
theorem dX9_need_103 : decode cX9_need 103 = .ok (.aload_n 0, 1) := by decide +kernel
theorem dX9_need_104 : decode cX9_need 104 = .ok (.getfield 30, 3) := by decide +kernel
theorem dX9_need_107 : decode cX9_need 107 = .ok (.iload 5, 2) := by decide +kernel
theorem dX9_need_109 : decode cX9_need 109 = .ok (.iaload, 1) := by decide +kernel
theorem dX9_need_110 : decode cX9_need 110 = .ok (.goto 4, 3) := by decide +kernel
theorem dX9_need_113 : decode cX9_need 113 = .ok (.iconst (-1), 1) := by decide +kernel
theorem dX9_need_114 : decode cX9_need 114 = .ok (.ireturn, 1) := by decide +kernel
set_option maxRecDepth 20000 in
theorem ggX9_hear_X1_hasWidow : GoodIn wsX9_hear wsX1_hasWidow := goodIn_r _ [7, 8, 40, 41, 42, 43, 44, 45, 46, 47, 48, 49] (by decide +kernel) (by decide +kernel)
set_option maxRecDepth 20000 in
theorem gX9_hear_X1_hasWidow : GoodIn wsX9_hear (wsV RX9 123 RX1 yX1_hasWidow wsX1_hasWidow) := goodIn_app (goodIn_of _ (by decide +kernel)) ggX9_hear_X1_hasWidow
set_option maxRecDepth 20000 in
theorem ggX9_hear_X1_hasSinger : GoodIn wsX9_hear wsX1_hasSinger := goodIn_r _ [12, 13, 40, 41, 42, 43, 44, 45, 46, 47, 48, 49] (by decide +kernel) (by decide +kernel)
set_option maxRecDepth 20000 in
theorem gX9_hear_X1_hasSinger : GoodIn wsX9_hear (wsV RX9 87 RX1 yX1_hasSinger wsX1_hasSinger) := goodIn_app (goodIn_of _ (by decide +kernel)) ggX9_hear_X1_hasSinger
set_option maxRecDepth 20000 in
theorem ggX9_hear_X4_add : GoodIn wsX9_hear wsX4_add := goodIn_r _ [18, 19, 20, 21, 22, 23, 35, 36, 37, 38, 39] (by decide +kernel) (by decide +kernel)
set_option maxRecDepth 20000 in
theorem gX9_hear_X4_add : GoodIn wsX9_hear (wsV RX9 167 RX4 yX4_add wsX4_add) := goodIn_app (goodIn_of _ (by decide +kernel)) ggX9_hear_X4_add
theorem dX9_hear_0 : decode cX9_hear 0 = .ok (.aload_n 0, 1) := by decide +kernel
theorem dX9_hear_1 : decode cX9_hear 1 = .ok (.getfield 41, 3) := by decide +kernel
theorem dX9_hear_4 : decode cX9_hear 4 = .ok (.iload_n 1, 1) := by decide +kernel
theorem dX9_hear_5 : decode cX9_hear 5 = .ok (.invokevirtual 123, 3) := by decide +kernel
theorem dX9_hear_8 : decode cX9_hear 8 = .ok (.ifCond .eq 30, 3) := by decide +kernel
theorem dX9_hear_11 : decode cX9_hear 11 = .ok (.aload_n 0, 1) := by decide +kernel
theorem dX9_hear_12 : decode cX9_hear 12 = .ok (.getfield 41, 3) := by decide +kernel
theorem dX9_hear_15 : decode cX9_hear 15 = .ok (.iload_n 2, 1) := by decide +kernel
theorem dX9_hear_16 : decode cX9_hear 16 = .ok (.invokevirtual 87, 3) := by decide +kernel
theorem dX9_hear_19 : decode cX9_hear 19 = .ok (.ifCond .eq 19, 3) := by decide +kernel
theorem dX9_hear_22 : decode cX9_hear 22 = .ok (.aload_n 0, 1) := by decide +kernel
theorem dX9_hear_23 : decode cX9_hear 23 = .ok (.getfield 41, 3) := by decide +kernel
theorem dX9_hear_26 : decode cX9_hear 26 = .ok (.iload_n 3, 1) := by decide +kernel
theorem dX9_hear_27 : decode cX9_hear 27 = .ok (.invokevirtual 87, 3) := by decide +kernel
theorem dX9_hear_30 : decode cX9_hear 30 = .ok (.ifCond .eq 8, 3) := by decide +kernel
theorem dX9_hear_33 : decode cX9_hear 33 = .ok (.iload_n 2, 1) := by decide +kernel
theorem dX9_hear_34 : decode cX9_hear 34 = .ok (.iload_n 3, 1) := by decide +kernel
theorem dX9_hear_35 : decode cX9_hear 35 = .ok (.if_icmp .ne 6, 3) := by decide +kernel
theorem dX9_hear_38 : decode cX9_hear 38 = .ok (.bipush (-101), 2) := by decide +kernel
theorem dX9_hear_40 : decode cX9_hear 40 = .ok (.ireturn, 1) := by decide +kernel
theorem dX9_hear_41 : decode cX9_hear 41 = .ok (.aload_n 0, 1) := by decide +kernel
theorem dX9_hear_42 : decode cX9_hear 42 = .ok (.getfield 19, 3) := by decide +kernel
theorem dX9_hear_45 : decode cX9_hear 45 = .ok (.iload_n 1, 1) := by decide +kernel
theorem dX9_hear_46 : decode cX9_hear 46 = .ok (.iload_n 2, 1) := by decide +kernel
theorem dX9_hear_47 : decode cX9_hear 47 = .ok (.iload_n 3, 1) := by decide +kernel
theorem dX9_hear_48 : decode cX9_hear 48 = .ok (.iload 4, 2) := by decide +kernel
theorem dX9_hear_50 : decode cX9_hear 50 = .ok (.invokevirtual 167, 3) := by decide +kernel
theorem dX9_hear_53 : decode cX9_hear 53 = .ok (.ifCond .eq 13, 3) := by decide +kernel
theorem dX9_hear_56 : decode cX9_hear 56 = .ok (.aload_n 0, 1) := by decide +kernel
theorem dX9_hear_57 : decode cX9_hear 57 = .ok (.getfield 19, 3) := by decide +kernel
theorem dX9_hear_60 : decode cX9_hear 60 = .ok (.getfield 171, 3) := by decide +kernel
theorem dX9_hear_63 : decode cX9_hear 63 = .ok (.goto 5, 3) := by decide +kernel
theorem dX9_hear_66 : decode cX9_hear 66 = .ok (.bipush (-104), 2) := by decide +kernel
theorem dX9_hear_68 : decode cX9_hear 68 = .ok (.ireturn, 1) := by decide +kernel
set_option maxRecDepth 20000 in
theorem ggX9_forget_X4_clear : GoodIn wsX9_forget wsX4_clear := goodIn_r _ [6, 7, 19, 20, 21, 22, 23] (by decide +kernel) (by decide +kernel)
set_option maxRecDepth 20000 in
theorem gX9_forget_X4_clear : GoodIn wsX9_forget (wsV RX9 74 RX4 yX4_clear wsX4_clear) := goodIn_app (goodIn_of _ (by decide +kernel)) ggX9_forget_X4_clear
theorem dX9_forget_0 : decode cX9_forget 0 = .ok (.aload_n 0, 1) := by decide +kernel
theorem dX9_forget_1 : decode cX9_forget 1 = .ok (.getfield 19, 3) := by decide +kernel
theorem dX9_forget_4 : decode cX9_forget 4 = .ok (.invokevirtual 74, 3) := by decide +kernel
theorem dX9_forget_7 : decode cX9_forget 7 = .ok (.ireturn, 1) := by decide +kernel
set_option maxRecDepth 20000 in
theorem ggX9_years_X1_isEmpty : GoodIn wsX9_years wsX1_isEmpty := goodIn_r _ [7, 8, 151, 152, 153, 154, 155, 156, 157, 158, 159, 160] (by decide +kernel) (by decide +kernel)
set_option maxRecDepth 20000 in
theorem gX9_years_X1_isEmpty : GoodIn wsX9_years (wsV RX9 155 RX1 yX1_isEmpty wsX1_isEmpty) := goodIn_app (goodIn_of _ (by decide +kernel)) ggX9_years_X1_isEmpty
set_option maxRecDepth 20000 in
theorem ggX9_years_X1_takeFrom : GoodIn wsX9_years wsX1_takeFrom := goodIn_r _ [12, 13, 14, 15, 16, 17, 18, 8, 19, 20, 21, 22, 23, 24, 25, 26, 27, 28, 29, 30, 31, 151, 152, 153, 154, 155, 156, 157, 158, 159, 160] (by decide +kernel) (by decide +kernel)
set_option maxRecDepth 20000 in
theorem gX9_years_X1_takeFrom : GoodIn wsX9_years (wsV RX9 174 RX1 yX1_takeFrom wsX1_takeFrom) := goodIn_app (goodIn_of _ (by decide +kernel)) ggX9_years_X1_takeFrom
set_option maxRecDepth 20000 in
theorem ggX9_years_X9_nextSeed : GoodIn wsX9_years wsX9_nextSeed := goodIn_r _ [34, 35, 36, 37] (by decide +kernel) (by decide +kernel)
set_option maxRecDepth 20000 in
theorem gX9_years_X9_nextSeed : GoodIn wsX9_years (va_wsS RX9 178 yX9_nextSeed wsX9_nextSeed) := goodIn_app (goodIn_of _ (by decide +kernel)) ggX9_years_X9_nextSeed
set_option maxRecDepth 20000 in
theorem ggX9_years_X9_drawn : GoodIn wsX9_years wsX9_drawn := goodIn_r _ [40, 41] (by decide +kernel) (by decide +kernel)
set_option maxRecDepth 20000 in
theorem gX9_years_X9_drawn : GoodIn wsX9_years (va_wsS RX9 181 yX9_drawn wsX9_drawn) := goodIn_app (goodIn_of _ (by decide +kernel)) ggX9_years_X9_drawn
set_option maxRecDepth 20000 in
theorem ggX9_years_X1_practiseWeek : GoodIn wsX9_years wsX1_practiseWeek := goodIn_r _ [45, 14, 20, 46, 47, 48, 6, 49, 8, 50, 51, 52, 53, 54, 13, 55, 56, 57, 58, 59, 60, 61, 62, 63, 64, 65, 66, 67, 68, 69, 70, 71, 72, 73, 74, 75, 76, 77, 78, 79, 151, 152, 153, 154, 155, 156, 157, 158, 159, 160, 161, 162, 163, 164, 165] (by decide +kernel) (by decide +kernel)
set_option maxRecDepth 20000 in
theorem gX9_years_X1_practiseWeek : GoodIn wsX9_years (wsV RX9 152 RX1 yX1_practiseWeek wsX1_practiseWeek) := goodIn_app (goodIn_of _ (by decide +kernel)) ggX9_years_X1_practiseWeek
set_option maxRecDepth 20000 in
theorem ggX9_years_X1_coldOf : GoodIn wsX9_years wsX1_coldOf := goodIn_r _ [83, 15, 46, 47, 48, 6, 49, 8, 151, 152, 153, 154, 155, 156, 157, 158, 159, 160] (by decide +kernel) (by decide +kernel)
set_option maxRecDepth 20000 in
theorem gX9_years_X1_coldOf : GoodIn wsX9_years (wsV RX9 103 RX1 yX1_coldOf wsX1_coldOf) := goodIn_app (goodIn_of _ (by decide +kernel)) ggX9_years_X1_coldOf
set_option maxRecDepth 20000 in
theorem ggX9_years_X1_setCold : GoodIn wsX9_years wsX1_setCold := goodIn_r _ [87, 15, 46, 47, 48, 6, 49, 8, 151, 152, 153, 154, 155, 156, 157, 158, 159, 160] (by decide +kernel) (by decide +kernel)
set_option maxRecDepth 20000 in
theorem gX9_years_X1_setCold : GoodIn wsX9_years (wsV RX9 141 RX1 yX1_setCold wsX1_setCold) := goodIn_app (goodIn_of _ (by decide +kernel)) ggX9_years_X1_setCold
set_option maxRecDepth 20000 in
theorem ggX9_years_X1_elected : GoodIn wsX9_years wsX1_elected := goodIn_r _ [91, 8, 92, 93, 94, 6, 95, 19, 96, 97, 98, 99, 100, 101, 102, 103, 18, 104, 105, 106, 107, 108, 109, 110, 111, 54, 13, 14, 15, 16, 17, 112, 113, 26, 114, 46, 47, 48, 49, 115, 116, 117, 55, 56, 57, 58, 59, 60, 61, 62, 63, 64, 118, 119, 120, 121, 122, 70, 123, 124, 125, 126, 127, 128, 129, 130, 131, 132, 133, 134, 135, 75, 136, 137, 138, 139, 151, 152, 153, 154, 155, 156, 157, 158, 159, 160, 161, 162, 163, 164, 165] (by decide +kernel) (by decide +kernel)
set_option maxRecDepth 20000 in
theorem gX9_years_X1_elected : GoodIn wsX9_years (wsV RX9 158 RX1 yX1_elected wsX1_elected) := goodIn_app (goodIn_of _ (by decide +kernel)) ggX9_years_X1_elected
theorem dX9_years_0 : decode cX9_years 0 = .ok (.iload_n 1, 1) := by decide +kernel
theorem dX9_years_1 : decode cX9_years 1 = .ok (.iconst 1, 1) := by decide +kernel
theorem dX9_years_2 : decode cX9_years 2 = .ok (.if_icmp .lt 22, 3) := by decide +kernel
theorem dX9_years_5 : decode cX9_years 5 = .ok (.iload_n 1, 1) := by decide +kernel
theorem dX9_years_6 : decode cX9_years 6 = .ok (.bipush 60, 2) := by decide +kernel
theorem dX9_years_8 : decode cX9_years 8 = .ok (.if_icmp .gt 16, 3) := by decide +kernel
theorem dX9_years_11 : decode cX9_years 11 = .ok (.iload_n 2, 1) := by decide +kernel
theorem dX9_years_12 : decode cX9_years 12 = .ok (.ifCond .lt 12, 3) := by decide +kernel
theorem dX9_years_15 : decode cX9_years 15 = .ok (.iload_n 3, 1) := by decide +kernel
theorem dX9_years_16 : decode cX9_years 16 = .ok (.ifCond .lt 8, 3) := by decide +kernel
theorem dX9_years_19 : decode cX9_years 19 = .ok (.iload_n 3, 1) := by decide +kernel
theorem dX9_years_20 : decode cX9_years 20 = .ok (.iconst 3, 1) := by decide +kernel
theorem dX9_years_21 : decode cX9_years 21 = .ok (.if_icmp .lt 6, 3) := by decide +kernel
theorem dX9_years_24 : decode cX9_years 24 = .ok (.bipush (-102), 2) := by decide +kernel
theorem dX9_years_26 : decode cX9_years 26 = .ok (.ireturn, 1) := by decide +kernel
theorem dX9_years_27 : decode cX9_years 27 = .ok (.aload_n 0, 1) := by decide +kernel
theorem dX9_years_28 : decode cX9_years 28 = .ok (.getfield 41, 3) := by decide +kernel
theorem dX9_years_31 : decode cX9_years 31 = .ok (.invokevirtual 155, 3) := by decide +kernel
theorem dX9_years_34 : decode cX9_years 34 = .ok (.ifCond .eq 6, 3) := by decide +kernel
theorem dX9_years_37 : decode cX9_years 37 = .ok (.bipush (-103), 2) := by decide +kernel
theorem dX9_years_39 : decode cX9_years 39 = .ok (.ireturn, 1) := by decide +kernel
theorem dX9_years_40 : decode cX9_years 40 = .ok (.aload_n 0, 1) := by decide +kernel
theorem dX9_years_41 : decode cX9_years 41 = .ok (.getfield 48, 3) := by decide +kernel
theorem dX9_years_44 : decode cX9_years 44 = .ok (.aload_n 0, 1) := by decide +kernel
theorem dX9_years_45 : decode cX9_years 45 = .ok (.getfield 41, 3) := by decide +kernel
theorem dX9_years_48 : decode cX9_years 48 = .ok (.invokevirtual 174, 3) := by decide +kernel
theorem dX9_years_51 : decode cX9_years 51 = .ok (.iload_n 2, 1) := by decide +kernel
theorem dX9_years_52 : decode cX9_years 52 = .ok (.istore 4, 2) := by decide +kernel
theorem dX9_years_54 : decode cX9_years 54 = .ok (.iconst 0, 1) := by decide +kernel
theorem dX9_years_55 : decode cX9_years 55 = .ok (.istore 5, 2) := by decide +kernel
theorem dX9_years_57 : decode cX9_years 57 = .ok (.iconst (-1), 1) := by decide +kernel
theorem dX9_years_58 : decode cX9_years 58 = .ok (.istore 6, 2) := by decide +kernel
theorem dX9_years_60 : decode cX9_years 60 = .ok (.iconst 0, 1) := by decide +kernel
theorem dX9_years_61 : decode cX9_years 61 = .ok (.istore 7, 2) := by decide +kernel
theorem dX9_years_63 : decode cX9_years 63 = .ok (.iload 7, 2) := by decide +kernel
theorem dX9_years_65 : decode cX9_years 65 = .ok (.iload_n 1, 1) := by decide +kernel
theorem dX9_years_66 : decode cX9_years 66 = .ok (.if_icmp .ge 107, 3) := by decide +kernel
theorem dX9_years_69 : decode cX9_years 69 = .ok (.iload 4, 2) := by decide +kernel
theorem dX9_years_71 : decode cX9_years 71 = .ok (.invokestatic 178, 3) := by decide +kernel
theorem dX9_years_74 : decode cX9_years 74 = .ok (.istore 4, 2) := by decide +kernel
theorem dX9_years_76 : decode cX9_years 76 = .ok (.aload_n 0, 1) := by decide +kernel
theorem dX9_years_77 : decode cX9_years 77 = .ok (.getfield 48, 3) := by decide +kernel
theorem dX9_years_80 : decode cX9_years 80 = .ok (.iload 4, 2) := by decide +kernel
theorem dX9_years_82 : decode cX9_years 82 = .ok (.aload_n 0, 1) := by decide +kernel
theorem dX9_years_83 : decode cX9_years 83 = .ok (.getfield 41, 3) := by decide +kernel
theorem dX9_years_86 : decode cX9_years 86 = .ok (.getfield 84, 3) := by decide +kernel
theorem dX9_years_89 : decode cX9_years 89 = .ok (.invokestatic 181, 3) := by decide +kernel
theorem dX9_years_92 : decode cX9_years 92 = .ok (.invokevirtual 152, 3) := by decide +kernel
theorem dX9_years_95 : decode cX9_years 95 = .ok (.pop, 1) := by decide +kernel
theorem dX9_years_96 : decode cX9_years 96 = .ok (.iload 4, 2) := by decide +kernel
theorem dX9_years_98 : decode cX9_years 98 = .ok (.invokestatic 178, 3) := by decide +kernel
theorem dX9_years_101 : decode cX9_years 101 = .ok (.istore 4, 2) := by decide +kernel
theorem dX9_years_103 : decode cX9_years 103 = .ok (.iload 4, 2) := by decide +kernel
theorem dX9_years_105 : decode cX9_years 105 = .ok (.aload_n 0, 1) := by decide +kernel
theorem dX9_years_106 : decode cX9_years 106 = .ok (.getfield 41, 3) := by decide +kernel
theorem dX9_years_109 : decode cX9_years 109 = .ok (.getfield 84, 3) := by decide +kernel
theorem dX9_years_112 : decode cX9_years 112 = .ok (.invokestatic 181, 3) := by decide +kernel
theorem dX9_years_115 : decode cX9_years 115 = .ok (.istore 8, 2) := by decide +kernel
theorem dX9_years_117 : decode cX9_years 117 = .ok (.aload_n 0, 1) := by decide +kernel
theorem dX9_years_118 : decode cX9_years 118 = .ok (.getfield 48, 3) := by decide +kernel
theorem dX9_years_121 : decode cX9_years 121 = .ok (.iload 8, 2) := by decide +kernel
theorem dX9_years_123 : decode cX9_years 123 = .ok (.aload_n 0, 1) := by decide +kernel
theorem dX9_years_124 : decode cX9_years 124 = .ok (.getfield 48, 3) := by decide +kernel
theorem dX9_years_127 : decode cX9_years 127 = .ok (.iload 8, 2) := by decide +kernel
theorem dX9_years_129 : decode cX9_years 129 = .ok (.invokevirtual 103, 3) := by decide +kernel
theorem dX9_years_132 : decode cX9_years 132 = .ok (.ifCond .ne 7, 3) := by decide +kernel
theorem dX9_years_135 : decode cX9_years 135 = .ok (.iconst 1, 1) := by decide +kernel
theorem dX9_years_136 : decode cX9_years 136 = .ok (.goto 4, 3) := by decide +kernel
theorem dX9_years_139 : decode cX9_years 139 = .ok (.iconst 0, 1) := by decide +kernel
theorem dX9_years_140 : decode cX9_years 140 = .ok (.invokevirtual 141, 3) := by decide +kernel
theorem dX9_years_143 : decode cX9_years 143 = .ok (.aload_n 0, 1) := by decide +kernel
theorem dX9_years_144 : decode cX9_years 144 = .ok (.getfield 48, 3) := by decide +kernel
theorem dX9_years_147 : decode cX9_years 147 = .ok (.invokevirtual 158, 3) := by decide +kernel
theorem dX9_years_150 : decode cX9_years 150 = .ok (.istore 6, 2) := by decide +kernel
theorem dX9_years_152 : decode cX9_years 152 = .ok (.iload 5, 2) := by decide +kernel
theorem dX9_years_154 : decode cX9_years 154 = .ok (.iload 6, 2) := by decide +kernel
theorem dX9_years_156 : decode cX9_years 156 = .ok (.ifCond .ne 7, 3) := by decide +kernel
theorem dX9_years_159 : decode cX9_years 159 = .ok (.iconst 1, 1) := by decide +kernel
theorem dX9_years_160 : decode cX9_years 160 = .ok (.goto 4, 3) := by decide +kernel
theorem dX9_years_163 : decode cX9_years 163 = .ok (.iconst 0, 1) := by decide +kernel
theorem dX9_years_164 : decode cX9_years 164 = .ok (.iadd, 1) := by decide +kernel
theorem dX9_years_165 : decode cX9_years 165 = .ok (.istore 5, 2) := by decide +kernel
theorem dX9_years_167 : decode cX9_years 167 = .ok (.iinc 7 1, 3) := by decide +kernel
theorem dX9_years_170 : decode cX9_years 170 = .ok (.goto (-107), 3) := by decide +kernel
theorem dX9_years_173 : decode cX9_years 173 = .ok (.iload_n 3, 1) := by decide +kernel
theorem dX9_years_174 : decode cX9_years 174 = .ok (.lookupswitch 32 #[(0, 26), (1, 29)], 26) := by decide +kernel
theorem dX9_years_200 : decode cX9_years 200 = .ok (.iload 5, 2) := by decide +kernel
theorem dX9_years_202 : decode cX9_years 202 = .ok (.ireturn, 1) := by decide +kernel
theorem dX9_years_203 : decode cX9_years 203 = .ok (.iload 6, 2) := by decide +kernel
theorem dX9_years_205 : decode cX9_years 205 = .ok (.ireturn, 1) := by decide +kernel
theorem dX9_years_206 : decode cX9_years 206 = .ok (.iload 4, 2) := by decide +kernel
theorem dX9_years_208 : decode cX9_years 208 = .ok (.ireturn, 1) := by decide +kernel
set_option maxRecDepth 20000 in
theorem ggX9_image_X1_isEmpty : GoodIn wsX9_image wsX1_isEmpty := goodIn_r _ [10, 11, 56, 57, 58, 59, 60, 61, 62, 63, 64, 65] (by decide +kernel) (by decide +kernel)
set_option maxRecDepth 20000 in
theorem gX9_image_X1_isEmpty : GoodIn wsX9_image (wsV RX9 155 RX1 yX1_isEmpty wsX1_isEmpty) := goodIn_app (goodIn_of _ (by decide +kernel)) ggX9_image_X1_isEmpty
set_option maxRecDepth 20000 in
theorem ggX9_image_X1_takeFrom : GoodIn wsX9_image wsX1_takeFrom := goodIn_r _ [15, 16, 17, 18, 19, 20, 21, 11, 22, 23, 24, 25, 26, 27, 28, 29, 30, 31, 32, 33, 34, 56, 57, 58, 59, 60, 61, 62, 63, 64, 65] (by decide +kernel) (by decide +kernel)
set_option maxRecDepth 20000 in
theorem gX9_image_X1_takeFrom : GoodIn wsX9_image (wsV RX9 174 RX1 yX1_takeFrom wsX1_takeFrom) := goodIn_app (goodIn_of _ (by decide +kernel)) ggX9_image_X1_takeFrom
set_option maxRecDepth 20000 in
theorem ggX9_image_X4_takeFrom : GoodIn wsX9_image wsX4_takeFrom := goodIn_r _ [39, 40, 41, 42, 43, 44, 24, 25, 26, 27, 28, 29, 30, 31, 32, 33, 34, 66, 67, 68, 69, 70] (by decide +kernel) (by decide +kernel)
set_option maxRecDepth 20000 in
theorem gX9_image_X4_takeFrom : GoodIn wsX9_image (wsV RX9 184 RX4 yX4_takeFrom wsX4_takeFrom) := goodIn_app (goodIn_of _ (by decide +kernel)) ggX9_image_X4_takeFrom
theorem dX9_image_0 : decode cX9_image 0 = .ok (.aload_n 0, 1) := by decide +kernel
theorem dX9_image_1 : decode cX9_image 1 = .ok (.getfield 41, 3) := by decide +kernel
theorem dX9_image_4 : decode cX9_image 4 = .ok (.invokevirtual 155, 3) := by decide +kernel
theorem dX9_image_7 : decode cX9_image 7 = .ok (.ifCond .eq 6, 3) := by decide +kernel
theorem dX9_image_10 : decode cX9_image 10 = .ok (.bipush (-103), 2) := by decide +kernel
theorem dX9_image_12 : decode cX9_image 12 = .ok (.ireturn, 1) := by decide +kernel
theorem dX9_image_13 : decode cX9_image 13 = .ok (.aload_n 0, 1) := by decide +kernel
theorem dX9_image_14 : decode cX9_image 14 = .ok (.getfield 45, 3) := by decide +kernel
theorem dX9_image_17 : decode cX9_image 17 = .ok (.aload_n 0, 1) := by decide +kernel
theorem dX9_image_18 : decode cX9_image 18 = .ok (.getfield 41, 3) := by decide +kernel
theorem dX9_image_21 : decode cX9_image 21 = .ok (.invokevirtual 174, 3) := by decide +kernel
theorem dX9_image_24 : decode cX9_image 24 = .ok (.aload_n 0, 1) := by decide +kernel
theorem dX9_image_25 : decode cX9_image 25 = .ok (.getfield 23, 3) := by decide +kernel
theorem dX9_image_28 : decode cX9_image 28 = .ok (.aload_n 0, 1) := by decide +kernel
theorem dX9_image_29 : decode cX9_image 29 = .ok (.getfield 19, 3) := by decide +kernel
theorem dX9_image_32 : decode cX9_image 32 = .ok (.invokevirtual 184, 3) := by decide +kernel
theorem dX9_image_35 : decode cX9_image 35 = .ok (.aload_n 0, 1) := by decide +kernel
theorem dX9_image_36 : decode cX9_image 36 = .ok (.iconst 1, 1) := by decide +kernel
theorem dX9_image_37 : decode cX9_image 37 = .ok (.putfield 77, 3) := by decide +kernel
theorem dX9_image_40 : decode cX9_image 40 = .ok (.aload_n 0, 1) := by decide +kernel
theorem dX9_image_41 : decode cX9_image 41 = .ok (.getfield 41, 3) := by decide +kernel
theorem dX9_image_44 : decode cX9_image 44 = .ok (.getfield 187, 3) := by decide +kernel
theorem dX9_image_47 : decode cX9_image 47 = .ok (.ireturn, 1) := by decide +kernel
set_option maxRecDepth 20000 in
theorem ggX9_restore_X1_takeFrom : GoodIn wsX9_restore wsX1_takeFrom := goodIn_r _ [10, 11, 12, 13, 14, 15, 16, 17, 18, 19, 20, 21, 22, 23, 24, 25, 26, 27, 28, 29, 30, 52, 53, 54, 55, 56, 57, 58, 59, 60, 61] (by decide +kernel) (by decide +kernel)
set_option maxRecDepth 20000 in
theorem gX9_restore_X1_takeFrom : GoodIn wsX9_restore (wsV RX9 174 RX1 yX1_takeFrom wsX1_takeFrom) := goodIn_app (goodIn_of _ (by decide +kernel)) ggX9_restore_X1_takeFrom
set_option maxRecDepth 20000 in
theorem ggX9_restore_X4_takeFrom : GoodIn wsX9_restore wsX4_takeFrom := goodIn_r _ [35, 36, 37, 38, 39, 40, 20, 21, 22, 23, 24, 25, 26, 27, 28, 29, 30, 62, 63, 64, 65, 66] (by decide +kernel) (by decide +kernel)
set_option maxRecDepth 20000 in
theorem gX9_restore_X4_takeFrom : GoodIn wsX9_restore (wsV RX9 184 RX4 yX4_takeFrom wsX4_takeFrom) := goodIn_app (goodIn_of _ (by decide +kernel)) ggX9_restore_X4_takeFrom
theorem dX9_restore_0 : decode cX9_restore 0 = .ok (.aload_n 0, 1) := by decide +kernel
theorem dX9_restore_1 : decode cX9_restore 1 = .ok (.getfield 77, 3) := by decide +kernel
theorem dX9_restore_4 : decode cX9_restore 4 = .ok (.ifCond .ne 6, 3) := by decide +kernel
theorem dX9_restore_7 : decode cX9_restore 7 = .ok (.bipush (-103), 2) := by decide +kernel
theorem dX9_restore_9 : decode cX9_restore 9 = .ok (.ireturn, 1) := by decide +kernel
theorem dX9_restore_10 : decode cX9_restore 10 = .ok (.aload_n 0, 1) := by decide +kernel
theorem dX9_restore_11 : decode cX9_restore 11 = .ok (.getfield 41, 3) := by decide +kernel
theorem dX9_restore_14 : decode cX9_restore 14 = .ok (.aload_n 0, 1) := by decide +kernel
theorem dX9_restore_15 : decode cX9_restore 15 = .ok (.getfield 45, 3) := by decide +kernel
theorem dX9_restore_18 : decode cX9_restore 18 = .ok (.invokevirtual 174, 3) := by decide +kernel
theorem dX9_restore_21 : decode cX9_restore 21 = .ok (.aload_n 0, 1) := by decide +kernel
theorem dX9_restore_22 : decode cX9_restore 22 = .ok (.getfield 19, 3) := by decide +kernel
theorem dX9_restore_25 : decode cX9_restore 25 = .ok (.aload_n 0, 1) := by decide +kernel
theorem dX9_restore_26 : decode cX9_restore 26 = .ok (.getfield 23, 3) := by decide +kernel
theorem dX9_restore_29 : decode cX9_restore 29 = .ok (.invokevirtual 184, 3) := by decide +kernel
theorem dX9_restore_32 : decode cX9_restore 32 = .ok (.aload_n 0, 1) := by decide +kernel
theorem dX9_restore_33 : decode cX9_restore 33 = .ok (.getfield 41, 3) := by decide +kernel
theorem dX9_restore_36 : decode cX9_restore 36 = .ok (.getfield 187, 3) := by decide +kernel
theorem dX9_restore_39 : decode cX9_restore 39 = .ok (.ireturn, 1) := by decide +kernel
set_option maxRecDepth 20000 in
theorem ggX9_count_X1_coldsOfAll : GoodIn wsX9_count wsX1_coldsOfAll := goodIn_r _ [10, 11, 12, 13, 14, 9, 15, 16, 17, 18, 19, 20, 41, 42, 43, 44, 45, 46, 47, 48, 49, 50] (by decide +kernel) (by decide +kernel)
set_option maxRecDepth 20000 in
theorem gX9_count_X1_coldsOfAll : GoodIn wsX9_count (wsV RX9 193 RX1 yX1_coldsOfAll wsX1_coldsOfAll) := goodIn_app (goodIn_of _ (by decide +kernel)) ggX9_count_X1_coldsOfAll
set_option maxRecDepth 20000 in
theorem ggX9_count_X1_honeyOfAll : GoodIn wsX9_count wsX1_honeyOfAll := goodIn_r _ [24, 11, 25, 26, 27, 9, 28, 29, 17, 18, 19, 20, 41, 42, 43, 44, 45, 46, 47, 48, 49, 50] (by decide +kernel) (by decide +kernel)
set_option maxRecDepth 20000 in
theorem gX9_count_X1_honeyOfAll : GoodIn wsX9_count (wsV RX9 196 RX1 yX1_honeyOfAll wsX1_honeyOfAll) := goodIn_app (goodIn_of _ (by decide +kernel)) ggX9_count_X1_honeyOfAll
theorem dX9_count_0 : decode cX9_count 0 = .ok (.iload_n 1, 1) := by decide +kernel
theorem dX9_count_1 : decode cX9_count 1 = .ok (.tableswitch 117 0 8 #[51, 59, 67, 75, 83, 91, 99, 107, 112], 51) := by decide +kernel
theorem dX9_count_52 : decode cX9_count 52 = .ok (.aload_n 0, 1) := by decide +kernel
theorem dX9_count_53 : decode cX9_count 53 = .ok (.getfield 41, 3) := by decide +kernel
theorem dX9_count_56 : decode cX9_count 56 = .ok (.getfield 84, 3) := by decide +kernel
theorem dX9_count_59 : decode cX9_count 59 = .ok (.ireturn, 1) := by decide +kernel
theorem dX9_count_60 : decode cX9_count 60 = .ok (.aload_n 0, 1) := by decide +kernel
theorem dX9_count_61 : decode cX9_count 61 = .ok (.getfield 41, 3) := by decide +kernel
theorem dX9_count_64 : decode cX9_count 64 = .ok (.getfield 190, 3) := by decide +kernel
theorem dX9_count_67 : decode cX9_count 67 = .ok (.ireturn, 1) := by decide +kernel
theorem dX9_count_68 : decode cX9_count 68 = .ok (.aload_n 0, 1) := by decide +kernel
theorem dX9_count_69 : decode cX9_count 69 = .ok (.getfield 41, 3) := by decide +kernel
theorem dX9_count_72 : decode cX9_count 72 = .ok (.invokevirtual 193, 3) := by decide +kernel
theorem dX9_count_75 : decode cX9_count 75 = .ok (.ireturn, 1) := by decide +kernel
theorem dX9_count_76 : decode cX9_count 76 = .ok (.aload_n 0, 1) := by decide +kernel
theorem dX9_count_77 : decode cX9_count 77 = .ok (.getfield 41, 3) := by decide +kernel
theorem dX9_count_80 : decode cX9_count 80 = .ok (.invokevirtual 196, 3) := by decide +kernel
theorem dX9_count_83 : decode cX9_count 83 = .ok (.ireturn, 1) := by decide +kernel
theorem dX9_count_84 : decode cX9_count 84 = .ok (.aload_n 0, 1) := by decide +kernel
theorem dX9_count_85 : decode cX9_count 85 = .ok (.getfield 41, 3) := by decide +kernel
theorem dX9_count_88 : decode cX9_count 88 = .ok (.getfield 187, 3) := by decide +kernel
theorem dX9_count_91 : decode cX9_count 91 = .ok (.ireturn, 1) := by decide +kernel
theorem dX9_count_92 : decode cX9_count 92 = .ok (.aload_n 0, 1) := by decide +kernel
theorem dX9_count_93 : decode cX9_count 93 = .ok (.getfield 19, 3) := by decide +kernel
theorem dX9_count_96 : decode cX9_count 96 = .ok (.getfield 171, 3) := by decide +kernel
theorem dX9_count_99 : decode cX9_count 99 = .ok (.ireturn, 1) := by decide +kernel
theorem dX9_count_100 : decode cX9_count 100 = .ok (.aload_n 0, 1) := by decide +kernel
theorem dX9_count_101 : decode cX9_count 101 = .ok (.getfield 12, 3) := by decide +kernel
theorem dX9_count_104 : decode cX9_count 104 = .ok (.getfield 55, 3) := by decide +kernel
theorem dX9_count_107 : decode cX9_count 107 = .ok (.ireturn, 1) := by decide +kernel
theorem dX9_count_108 : decode cX9_count 108 = .ok (.aload_n 0, 1) := by decide +kernel
theorem dX9_count_109 : decode cX9_count 109 = .ok (.getfield 81, 3) := by decide +kernel
theorem dX9_count_112 : decode cX9_count 112 = .ok (.ireturn, 1) := by decide +kernel
theorem dX9_count_113 : decode cX9_count 113 = .ok (.aload_n 0, 1) := by decide +kernel
theorem dX9_count_114 : decode cX9_count 114 = .ok (.getfield 161, 3) := by decide +kernel
theorem dX9_count_117 : decode cX9_count 117 = .ok (.ireturn, 1) := by decide +kernel
theorem dX9_count_118 : decode cX9_count 118 = .ok (.bipush (-102), 2) := by decide +kernel
theorem dX9_count_120 : decode cX9_count 120 = .ok (.ireturn, 1) := by decide +kernel
set_option maxRecDepth 20000 in
theorem ggX9_digest_X9_singer : GoodIn wsX9_digest wsX9_singer := goodIn_r _ [9, 2, 10, 11, 12, 13, 14, 15, 16, 17, 18, 19, 20, 21, 22, 23, 24, 25, 26, 27, 28, 29, 30, 31, 32, 33, 34, 35, 36, 37, 38, 39, 40, 41, 42, 43, 44, 45, 46, 47, 48, 49, 50, 51, 52, 53, 54, 55, 56, 57, 58, 59, 60, 61, 62, 63, 64, 65, 66, 67, 68, 69, 70, 71, 72, 73, 74, 75, 76, 77, 78, 79, 80, 81, 82, 83, 84, 85, 86, 87, 88, 89, 90, 91, 92, 93, 94, 95, 96, 97, 98, 99, 100, 101, 102, 103, 104, 105, 106, 107, 108, 109, 110, 111, 112, 113, 114, 115, 116, 117, 118, 119, 120, 121, 122, 123, 8, 124, 125, 126, 127, 128, 129, 130, 131, 132, 133, 134, 135, 136, 137, 138, 139, 140, 141, 142, 143, 144, 145, 146, 147, 148, 149, 150, 151, 152, 153, 154, 155, 156, 240, 241, 242, 243, 244, 245, 246, 247, 248, 249, 250, 251, 252, 253, 254, 255, 256, 257, 258, 259, 260, 263, 264, 265, 266, 267] (by decide +kernel) (by decide +kernel)
set_option maxRecDepth 20000 in
theorem gX9_digest_X9_singer : GoodIn wsX9_digest (wsV RX9 204 RX9 yX9_singer wsX9_singer) := goodIn_app (goodIn_of _ (by decide +kernel)) ggX9_digest_X9_singer
set_option maxRecDepth 20000 in
theorem ggX9_digest_X9_mix : GoodIn wsX9_digest wsX9_mix := goodIn_r _ [159, 160] (by decide +kernel) (by decide +kernel)
set_option maxRecDepth 20000 in
theorem gX9_digest_X9_mix : GoodIn wsX9_digest (va_wsS RX9 207 yX9_mix wsX9_mix) := goodIn_app (goodIn_of _ (by decide +kernel)) ggX9_digest_X9_mix
set_option maxRecDepth 20000 in
theorem ggX9_digest_X9_widow : GoodIn wsX9_digest wsX9_widow := goodIn_r _ [164, 2, 165, 72, 73, 13, 74, 61, 166, 67, 68, 69, 70, 71, 167, 63, 64, 65, 15, 66, 75, 76, 77, 78, 20, 21, 79, 80, 81, 82, 83, 84, 85, 86, 22, 11, 12, 14, 87, 88, 89, 23, 24, 25, 26, 27, 28, 29, 30, 31, 32, 90, 91, 92, 93, 94, 38, 95, 96, 97, 98, 43, 99, 100, 101, 47, 102, 103, 104, 105, 52, 106, 107, 55, 108, 156, 168, 169, 170, 8, 171, 172, 173, 174, 175, 176, 177, 178, 179, 180, 181, 182, 183, 184, 185, 186, 187, 188, 189, 190, 191, 192, 193, 194, 195, 196, 197, 198, 199, 240, 241, 242, 243, 244, 245, 246, 247, 248, 249, 250, 251, 252, 253, 254, 255, 256, 257, 258, 259, 260, 263, 264, 265, 266, 267, 268, 269, 270, 271, 272] (by decide +kernel) (by decide +kernel)
set_option maxRecDepth 20000 in
theorem gX9_digest_X9_widow : GoodIn wsX9_digest (wsV RX9 211 RX9 yX9_widow wsX9_widow) := goodIn_app (goodIn_of _ (by decide +kernel)) ggX9_digest_X9_widow
set_option maxRecDepth 20000 in
theorem ggX9_digest_X9_wince : GoodIn wsX9_digest wsX9_wince := goodIn_r _ [203, 2, 165, 72, 73, 13, 74, 61, 10, 11, 12, 14, 15, 166, 67, 68, 69, 70, 71, 156, 76, 77, 78, 20, 21, 79, 80, 81, 82, 83, 84, 85, 86, 22, 87, 88, 89, 23, 24, 25, 26, 27, 28, 29, 30, 31, 32, 90, 91, 92, 93, 94, 38, 95, 96, 97, 98, 43, 99, 100, 101, 47, 102, 103, 104, 105, 52, 106, 107, 55, 108, 240, 241, 242, 243, 244, 245, 246, 247, 248, 249, 250, 251, 252, 253, 254, 255, 256, 257, 258, 259, 260, 263, 264, 265, 266, 267] (by decide +kernel) (by decide +kernel)
set_option maxRecDepth 20000 in
theorem gX9_digest_X9_wince : GoodIn wsX9_digest (wsV RX9 214 RX9 yX9_wince wsX9_wince) := goodIn_app (goodIn_of _ (by decide +kernel)) ggX9_digest_X9_wince
set_option maxRecDepth 20000 in
theorem ggX9_digest_X1_isEmpty : GoodIn wsX9_digest wsX1_isEmpty := goodIn_r _ [207, 15, 251, 252, 253, 254, 255, 256, 257, 258, 259, 260] (by decide +kernel) (by decide +kernel)
set_option maxRecDepth 20000 in
theorem gX9_digest_X1_isEmpty : GoodIn wsX9_digest (wsV RX9 155 RX1 yX1_isEmpty wsX1_isEmpty) := goodIn_app (goodIn_of _ (by decide +kernel)) ggX9_digest_X1_isEmpty
set_option maxRecDepth 20000 in
theorem ggX9_digest_X9_mayor : GoodIn wsX9_digest wsX9_mayor := goodIn_r _ [211, 2, 204, 205, 206, 13, 207, 15, 212, 213, 214, 215, 216, 58, 59, 60, 61, 62, 63, 64, 65, 66, 67, 68, 69, 70, 71, 72, 73, 74, 75, 76, 77, 78, 20, 21, 79, 80, 81, 82, 83, 84, 85, 86, 22, 11, 12, 14, 87, 88, 89, 23, 24, 25, 26, 27, 28, 29, 30, 31, 32, 90, 91, 92, 93, 94, 38, 95, 96, 97, 98, 43, 99, 100, 101, 47, 102, 103, 104, 105, 52, 106, 107, 55, 108, 240, 241, 242, 243, 244, 245, 246, 247, 248, 249, 250, 251, 252, 253, 254, 255, 256, 257, 258, 259, 260, 263, 264, 265, 266, 267] (by decide +kernel) (by decide +kernel)
set_option maxRecDepth 20000 in
theorem gX9_digest_X9_mayor : GoodIn wsX9_digest (wsV RX9 217 RX9 yX9_mayor wsX9_mayor) := goodIn_app (goodIn_of _ (by decide +kernel)) ggX9_digest_X9_mayor
set_option maxRecDepth 20000 in
theorem ggX9_digest_X5_codeAt : GoodIn wsX9_digest wsX5_codeAt := goodIn_r _ [221, 222, 223, 261, 262] (by decide +kernel) (by decide +kernel)
set_option maxRecDepth 20000 in
theorem gX9_digest_X5_codeAt : GoodIn wsX9_digest (wsV RX9 220 RX5 yX5_codeAt wsX5_codeAt) := goodIn_app (goodIn_of _ (by decide +kernel)) ggX9_digest_X5_codeAt
set_option maxRecDepth 20000 in
theorem ggX9_digest_X9_count : GoodIn wsX9_digest wsX9_count := goodIn_r _ [227, 2, 172, 4, 228, 229, 230, 231, 232, 13, 233, 15, 234, 110, 111, 112, 80, 22, 11, 12, 14, 235, 236, 237, 238, 239, 118, 119, 120, 82, 240, 241, 242, 243, 244, 245, 246, 247, 248, 249, 250, 251, 252, 253, 254, 255, 256, 257, 258, 259, 260, 268, 269, 270, 271, 272, 261, 262] (by decide +kernel) (by decide +kernel)
set_option maxRecDepth 20000 in
theorem gX9_digest_X9_count : GoodIn wsX9_digest (wsV RX9 223 RX9 yX9_count wsX9_count) := goodIn_app (goodIn_of _ (by decide +kernel)) ggX9_digest_X9_count
theorem dX9_digest_0 : decode cX9_digest 0 = .ok (.ldc2_w 199, 3) := by decide +kernel
theorem dX9_digest_3 : decode cX9_digest 3 = .ok (.lstore_n 1, 1) := by decide +kernel
theorem dX9_digest_4 : decode cX9_digest 4 = .ok (.iconst 0, 1) := by decide +kernel
theorem dX9_digest_5 : decode cX9_digest 5 = .ok (.istore_n 3, 1) := by decide +kernel
theorem dX9_digest_6 : decode cX9_digest 6 = .ok (.iload_n 3, 1) := by decide +kernel
theorem dX9_digest_7 : decode cX9_digest 7 = .ok (.aload_n 0, 1) := by decide +kernel
theorem dX9_digest_8 : decode cX9_digest 8 = .ok (.getfield 41, 3) := by decide +kernel
theorem dX9_digest_11 : decode cX9_digest 11 = .ok (.getfield 84, 3) := by decide +kernel
theorem dX9_digest_14 : decode cX9_digest 14 = .ok (.if_icmp .ge 55, 3) := by decide +kernel
theorem dX9_digest_17 : decode cX9_digest 17 = .ok (.getstatic 201, 3) := by decide +kernel
theorem dX9_digest_20 : decode cX9_digest 20 = .ok (.astore 4, 2) := by decide +kernel
theorem dX9_digest_22 : decode cX9_digest 22 = .ok (.aload 4, 2) := by decide +kernel
theorem dX9_digest_24 : decode cX9_digest 24 = .ok (.arraylength, 1) := by decide +kernel
theorem dX9_digest_25 : decode cX9_digest 25 = .ok (.istore 5, 2) := by decide +kernel
theorem dX9_digest_27 : decode cX9_digest 27 = .ok (.iconst 0, 1) := by decide +kernel
theorem dX9_digest_28 : decode cX9_digest 28 = .ok (.istore 6, 2) := by decide +kernel
theorem dX9_digest_30 : decode cX9_digest 30 = .ok (.iload 6, 2) := by decide +kernel
theorem dX9_digest_32 : decode cX9_digest 32 = .ok (.iload 5, 2) := by decide +kernel
theorem dX9_digest_34 : decode cX9_digest 34 = .ok (.if_icmp .ge 29, 3) := by decide +kernel
theorem dX9_digest_37 : decode cX9_digest 37 = .ok (.aload 4, 2) := by decide +kernel
theorem dX9_digest_39 : decode cX9_digest 39 = .ok (.iload 6, 2) := by decide +kernel
theorem dX9_digest_41 : decode cX9_digest 41 = .ok (.iaload, 1) := by decide +kernel
theorem dX9_digest_42 : decode cX9_digest 42 = .ok (.istore 7, 2) := by decide +kernel
theorem dX9_digest_44 : decode cX9_digest 44 = .ok (.lload_n 1, 1) := by decide +kernel
theorem dX9_digest_45 : decode cX9_digest 45 = .ok (.aload_n 0, 1) := by decide +kernel
theorem dX9_digest_46 : decode cX9_digest 46 = .ok (.iload_n 3, 1) := by decide +kernel
theorem dX9_digest_47 : decode cX9_digest 47 = .ok (.iload 7, 2) := by decide +kernel
theorem dX9_digest_49 : decode cX9_digest 49 = .ok (.invokevirtual 204, 3) := by decide +kernel
theorem dX9_digest_52 : decode cX9_digest 52 = .ok (.i2l, 1) := by decide +kernel
theorem dX9_digest_53 : decode cX9_digest 53 = .ok (.invokestatic 207, 3) := by decide +kernel
theorem dX9_digest_56 : decode cX9_digest 56 = .ok (.lstore_n 1, 1) := by decide +kernel
theorem dX9_digest_57 : decode cX9_digest 57 = .ok (.iinc 6 1, 3) := by decide +kernel
theorem dX9_digest_60 : decode cX9_digest 60 = .ok (.goto (-30), 3) := by decide +kernel
theorem dX9_digest_63 : decode cX9_digest 63 = .ok (.iinc 3 1, 3) := by decide +kernel
theorem dX9_digest_66 : decode cX9_digest 66 = .ok (.goto (-60), 3) := by decide +kernel
theorem dX9_digest_69 : decode cX9_digest 69 = .ok (.iconst 0, 1) := by decide +kernel
theorem dX9_digest_70 : decode cX9_digest 70 = .ok (.istore_n 3, 1) := by decide +kernel
theorem dX9_digest_71 : decode cX9_digest 71 = .ok (.iload_n 3, 1) := by decide +kernel
theorem dX9_digest_72 : decode cX9_digest 72 = .ok (.aload_n 0, 1) := by decide +kernel
theorem dX9_digest_73 : decode cX9_digest 73 = .ok (.getfield 41, 3) := by decide +kernel
theorem dX9_digest_76 : decode cX9_digest 76 = .ok (.getfield 190, 3) := by decide +kernel
theorem dX9_digest_79 : decode cX9_digest 79 = .ok (.if_icmp .ge 71, 3) := by decide +kernel
theorem dX9_digest_82 : decode cX9_digest 82 = .ok (.iconst 0, 1) := by decide +kernel
theorem dX9_digest_83 : decode cX9_digest 83 = .ok (.istore 4, 2) := by decide +kernel
theorem dX9_digest_85 : decode cX9_digest 85 = .ok (.iload 4, 2) := by decide +kernel
theorem dX9_digest_87 : decode cX9_digest 87 = .ok (.iconst 5, 1) := by decide +kernel
theorem dX9_digest_88 : decode cX9_digest 88 = .ok (.if_icmp .ge 22, 3) := by decide +kernel
theorem dX9_digest_91 : decode cX9_digest 91 = .ok (.lload_n 1, 1) := by decide +kernel
theorem dX9_digest_92 : decode cX9_digest 92 = .ok (.aload_n 0, 1) := by decide +kernel
theorem dX9_digest_93 : decode cX9_digest 93 = .ok (.iload_n 3, 1) := by decide +kernel
theorem dX9_digest_94 : decode cX9_digest 94 = .ok (.iload 4, 2) := by decide +kernel
theorem dX9_digest_96 : decode cX9_digest 96 = .ok (.invokevirtual 211, 3) := by decide +kernel
theorem dX9_digest_99 : decode cX9_digest 99 = .ok (.i2l, 1) := by decide +kernel
theorem dX9_digest_100 : decode cX9_digest 100 = .ok (.invokestatic 207, 3) := by decide +kernel
theorem dX9_digest_103 : decode cX9_digest 103 = .ok (.lstore_n 1, 1) := by decide +kernel
theorem dX9_digest_104 : decode cX9_digest 104 = .ok (.iinc 4 1, 3) := by decide +kernel
theorem dX9_digest_107 : decode cX9_digest 107 = .ok (.goto (-22), 3) := by decide +kernel
theorem dX9_digest_110 : decode cX9_digest 110 = .ok (.iconst 0, 1) := by decide +kernel
theorem dX9_digest_111 : decode cX9_digest 111 = .ok (.istore 4, 2) := by decide +kernel
theorem dX9_digest_113 : decode cX9_digest 113 = .ok (.iload 4, 2) := by decide +kernel
theorem dX9_digest_115 : decode cX9_digest 115 = .ok (.aload_n 0, 1) := by decide +kernel
theorem dX9_digest_116 : decode cX9_digest 116 = .ok (.getfield 41, 3) := by decide +kernel
theorem dX9_digest_119 : decode cX9_digest 119 = .ok (.getfield 84, 3) := by decide +kernel
theorem dX9_digest_122 : decode cX9_digest 122 = .ok (.if_icmp .ge 22, 3) := by decide +kernel
theorem dX9_digest_125 : decode cX9_digest 125 = .ok (.lload_n 1, 1) := by decide +kernel
theorem dX9_digest_126 : decode cX9_digest 126 = .ok (.aload_n 0, 1) := by decide +kernel
theorem dX9_digest_127 : decode cX9_digest 127 = .ok (.iload_n 3, 1) := by decide +kernel
theorem dX9_digest_128 : decode cX9_digest 128 = .ok (.iload 4, 2) := by decide +kernel
theorem dX9_digest_130 : decode cX9_digest 130 = .ok (.invokevirtual 214, 3) := by decide +kernel
theorem dX9_digest_133 : decode cX9_digest 133 = .ok (.i2l, 1) := by decide +kernel
theorem dX9_digest_134 : decode cX9_digest 134 = .ok (.invokestatic 207, 3) := by decide +kernel
theorem dX9_digest_137 : decode cX9_digest 137 = .ok (.lstore_n 1, 1) := by decide +kernel
theorem dX9_digest_138 : decode cX9_digest 138 = .ok (.iinc 4 1, 3) := by decide +kernel
theorem dX9_digest_141 : decode cX9_digest 141 = .ok (.goto (-28), 3) := by decide +kernel
theorem dX9_digest_144 : decode cX9_digest 144 = .ok (.iinc 3 1, 3) := by decide +kernel
theorem dX9_digest_147 : decode cX9_digest 147 = .ok (.goto (-76), 3) := by decide +kernel
theorem dX9_digest_150 : decode cX9_digest 150 = .ok (.aload_n 0, 1) := by decide +kernel
theorem dX9_digest_151 : decode cX9_digest 151 = .ok (.getfield 41, 3) := by decide +kernel
theorem dX9_digest_154 : decode cX9_digest 154 = .ok (.invokevirtual 155, 3) := by decide +kernel
theorem dX9_digest_157 : decode cX9_digest 157 = .ok (.ifCond .ne 13, 3) := by decide +kernel
theorem dX9_digest_160 : decode cX9_digest 160 = .ok (.lload_n 1, 1) := by decide +kernel
theorem dX9_digest_161 : decode cX9_digest 161 = .ok (.aload_n 0, 1) := by decide +kernel
theorem dX9_digest_162 : decode cX9_digest 162 = .ok (.invokevirtual 217, 3) := by decide +kernel
theorem dX9_digest_165 : decode cX9_digest 165 = .ok (.i2l, 1) := by decide +kernel
theorem dX9_digest_166 : decode cX9_digest 166 = .ok (.invokestatic 207, 3) := by decide +kernel
theorem dX9_digest_169 : decode cX9_digest 169 = .ok (.lstore_n 1, 1) := by decide +kernel
theorem dX9_digest_170 : decode cX9_digest 170 = .ok (.iconst 0, 1) := by decide +kernel
theorem dX9_digest_171 : decode cX9_digest 171 = .ok (.istore_n 3, 1) := by decide +kernel
theorem dX9_digest_172 : decode cX9_digest 172 = .ok (.iload_n 3, 1) := by decide +kernel
theorem dX9_digest_173 : decode cX9_digest 173 = .ok (.aload_n 0, 1) := by decide +kernel
theorem dX9_digest_174 : decode cX9_digest 174 = .ok (.getfield 12, 3) := by decide +kernel
theorem dX9_digest_177 : decode cX9_digest 177 = .ok (.getfield 55, 3) := by decide +kernel
theorem dX9_digest_180 : decode cX9_digest 180 = .ok (.if_icmp .ge 23, 3) := by decide +kernel
theorem dX9_digest_183 : decode cX9_digest 183 = .ok (.lload_n 1, 1) := by decide +kernel
theorem dX9_digest_184 : decode cX9_digest 184 = .ok (.aload_n 0, 1) := by decide +kernel
theorem dX9_digest_185 : decode cX9_digest 185 = .ok (.getfield 12, 3) := by decide +kernel
theorem dX9_digest_188 : decode cX9_digest 188 = .ok (.iload_n 3, 1) := by decide +kernel
theorem dX9_digest_189 : decode cX9_digest 189 = .ok (.invokevirtual 220, 3) := by decide +kernel
theorem dX9_digest_192 : decode cX9_digest 192 = .ok (.i2l, 1) := by decide +kernel
theorem dX9_digest_193 : decode cX9_digest 193 = .ok (.invokestatic 207, 3) := by decide +kernel
theorem dX9_digest_196 : decode cX9_digest 196 = .ok (.lstore_n 1, 1) := by decide +kernel
theorem dX9_digest_197 : decode cX9_digest 197 = .ok (.iinc 3 1, 3) := by decide +kernel
theorem dX9_digest_200 : decode cX9_digest 200 = .ok (.goto (-28), 3) := by decide +kernel
theorem dX9_digest_203 : decode cX9_digest 203 = .ok (.iconst 0, 1) := by decide +kernel
theorem dX9_digest_204 : decode cX9_digest 204 = .ok (.istore_n 3, 1) := by decide +kernel
theorem dX9_digest_205 : decode cX9_digest 205 = .ok (.iload_n 3, 1) := by decide +kernel
theorem dX9_digest_206 : decode cX9_digest 206 = .ok (.bipush 9, 2) := by decide +kernel
theorem dX9_digest_208 : decode cX9_digest 208 = .ok (.if_icmp .ge 20, 3) := by decide +kernel
theorem dX9_digest_211 : decode cX9_digest 211 = .ok (.lload_n 1, 1) := by decide +kernel
theorem dX9_digest_212 : decode cX9_digest 212 = .ok (.aload_n 0, 1) := by decide +kernel
theorem dX9_digest_213 : decode cX9_digest 213 = .ok (.iload_n 3, 1) := by decide +kernel
theorem dX9_digest_214 : decode cX9_digest 214 = .ok (.invokevirtual 223, 3) := by decide +kernel
theorem dX9_digest_217 : decode cX9_digest 217 = .ok (.i2l, 1) := by decide +kernel
theorem dX9_digest_218 : decode cX9_digest 218 = .ok (.invokestatic 207, 3) := by decide +kernel
theorem dX9_digest_221 : decode cX9_digest 221 = .ok (.lstore_n 1, 1) := by decide +kernel
theorem dX9_digest_222 : decode cX9_digest 222 = .ok (.iinc 3 1, 3) := by decide +kernel
theorem dX9_digest_225 : decode cX9_digest 225 = .ok (.goto (-20), 3) := by decide +kernel
theorem dX9_digest_228 : decode cX9_digest 228 = .ok (.lload_n 1, 1) := by decide +kernel
theorem dX9_digest_229 : decode cX9_digest 229 = .ok (.lreturn, 1) := by decide +kernel
theorem dX9_mix_0 : decode cX9_mix 0 = .ok (.ldc2_w 226, 3) := by decide +kernel
theorem dX9_mix_3 : decode cX9_mix 3 = .ok (.lload_n 0, 1) := by decide +kernel
theorem dX9_mix_4 : decode cX9_mix 4 = .ok (.lmul, 1) := by decide +kernel
theorem dX9_mix_5 : decode cX9_mix 5 = .ok (.lload_n 2, 1) := by decide +kernel
theorem dX9_mix_6 : decode cX9_mix 6 = .ok (.ladd, 1) := by decide +kernel
theorem dX9_mix_7 : decode cX9_mix 7 = .ok (.lreturn, 1) := by decide +kernel
set_option maxRecDepth 20000 in
theorem ggX9_singersFault_X1_faultOf : GoodIn wsX9_singersFault wsX1_faultOf := goodIn_r _ [6, 7, 8, 9, 10, 5, 11, 12, 13, 14, 15, 74, 75, 76, 77, 78, 79, 80, 81, 82, 83] (by decide +kernel) (by decide +kernel)
set_option maxRecDepth 20000 in
theorem gX9_singersFault_X1_faultOf : GoodIn wsX9_singersFault (wsV RX9 228 RX1 yX1_faultOf wsX1_faultOf) := goodIn_app (goodIn_of _ (by decide +kernel)) ggX9_singersFault_X1_faultOf
set_option maxRecDepth 20000 in
theorem ggX9_singersFault_X1_bad : GoodIn wsX9_singersFault wsX1_bad := goodIn_r _ [19, 20, 21, 7, 22, 23, 24, 25, 26, 27, 28, 8, 9, 10, 5, 11, 12, 13, 14, 15, 29, 30, 31, 32, 33, 34, 35, 36, 37, 38, 39, 40, 41, 42, 43, 44, 45, 46, 47, 48, 49, 50, 51, 52, 53, 54, 55, 56, 57, 58, 59, 60, 61, 62, 74, 75, 76, 77, 78, 79, 80, 81, 82, 83, 84, 85, 86, 87, 88] (by decide +kernel) (by decide +kernel)
set_option maxRecDepth 20000 in
theorem gX9_singersFault_X1_bad : GoodIn wsX9_singersFault (wsV RX9 132 RX1 yX1_bad wsX1_bad) := goodIn_app (goodIn_of _ (by decide +kernel)) ggX9_singersFault_X1_bad
theorem dX9_singersFault_0 : decode cX9_singersFault 0 = .ok (.iload_n 2, 1) := by decide +kernel
theorem dX9_singersFault_1 : decode cX9_singersFault 1 = .ok (.bipush 10, 2) := by decide +kernel
theorem dX9_singersFault_3 : decode cX9_singersFault 3 = .ok (.if_icmp .lt 22, 3) := by decide +kernel
theorem dX9_singersFault_6 : decode cX9_singersFault 6 = .ok (.iload_n 2, 1) := by decide +kernel
theorem dX9_singersFault_7 : decode cX9_singersFault 7 = .ok (.bipush 14, 2) := by decide +kernel
theorem dX9_singersFault_9 : decode cX9_singersFault 9 = .ok (.if_icmp .ge 16, 3) := by decide +kernel
theorem dX9_singersFault_12 : decode cX9_singersFault 12 = .ok (.aload_n 0, 1) := by decide +kernel
theorem dX9_singersFault_13 : decode cX9_singersFault 13 = .ok (.getfield 41, 3) := by decide +kernel
theorem dX9_singersFault_16 : decode cX9_singersFault 16 = .ok (.iload_n 1, 1) := by decide +kernel
theorem dX9_singersFault_17 : decode cX9_singersFault 17 = .ok (.iload_n 2, 1) := by decide +kernel
theorem dX9_singersFault_18 : decode cX9_singersFault 18 = .ok (.bipush 10, 2) := by decide +kernel
theorem dX9_singersFault_20 : decode cX9_singersFault 20 = .ok (.isub, 1) := by decide +kernel
theorem dX9_singersFault_21 : decode cX9_singersFault 21 = .ok (.invokevirtual 228, 3) := by decide +kernel
theorem dX9_singersFault_24 : decode cX9_singersFault 24 = .ok (.ireturn, 1) := by decide +kernel
theorem dX9_singersFault_25 : decode cX9_singersFault 25 = .ok (.iload_n 2, 1) := by decide +kernel
theorem dX9_singersFault_26 : decode cX9_singersFault 26 = .ok (.bipush 20, 2) := by decide +kernel
theorem dX9_singersFault_28 : decode cX9_singersFault 28 = .ok (.if_icmp .lt 22, 3) := by decide +kernel
theorem dX9_singersFault_31 : decode cX9_singersFault 31 = .ok (.iload_n 2, 1) := by decide +kernel
theorem dX9_singersFault_32 : decode cX9_singersFault 32 = .ok (.bipush 24, 2) := by decide +kernel
theorem dX9_singersFault_34 : decode cX9_singersFault 34 = .ok (.if_icmp .ge 16, 3) := by decide +kernel
theorem dX9_singersFault_37 : decode cX9_singersFault 37 = .ok (.aload_n 0, 1) := by decide +kernel
theorem dX9_singersFault_38 : decode cX9_singersFault 38 = .ok (.getfield 41, 3) := by decide +kernel
theorem dX9_singersFault_41 : decode cX9_singersFault 41 = .ok (.iload_n 1, 1) := by decide +kernel
theorem dX9_singersFault_42 : decode cX9_singersFault 42 = .ok (.iload_n 2, 1) := by decide +kernel
theorem dX9_singersFault_43 : decode cX9_singersFault 43 = .ok (.bipush 20, 2) := by decide +kernel
theorem dX9_singersFault_45 : decode cX9_singersFault 45 = .ok (.isub, 1) := by decide +kernel
theorem dX9_singersFault_46 : decode cX9_singersFault 46 = .ok (.invokevirtual 132, 3) := by decide +kernel
theorem dX9_singersFault_49 : decode cX9_singersFault 49 = .ok (.ireturn, 1) := by decide +kernel
theorem dX9_singersFault_50 : decode cX9_singersFault 50 = .ok (.bipush (-102), 2) := by decide +kernel
theorem dX9_singersFault_52 : decode cX9_singersFault 52 = .ok (.ireturn, 1) := by decide +kernel
theorem dX9_isOfKind_0 : decode cX9_isOfKind 0 = .ok (.iload_n 1, 1) := by decide +kernel
theorem dX9_isOfKind_1 : decode cX9_isOfKind 1 = .ok (.tableswitch 57 0 4 #[35, 37, 42, 47, 52], 35) := by decide +kernel
theorem dX9_isOfKind_36 : decode cX9_isOfKind 36 = .ok (.iconst 1, 1) := by decide +kernel
theorem dX9_isOfKind_37 : decode cX9_isOfKind 37 = .ok (.ireturn, 1) := by decide +kernel
theorem dX9_isOfKind_38 : decode cX9_isOfKind 38 = .ok (.aload_n 0, 1) := by decide +kernel
theorem dX9_isOfKind_39 : decode cX9_isOfKind 39 = .ok (.instanceof 231, 3) := by decide +kernel
theorem dX9_isOfKind_42 : decode cX9_isOfKind 42 = .ok (.ireturn, 1) := by decide +kernel
theorem dX9_isOfKind_43 : decode cX9_isOfKind 43 = .ok (.aload_n 0, 1) := by decide +kernel
theorem dX9_isOfKind_44 : decode cX9_isOfKind 44 = .ok (.instanceof 233, 3) := by decide +kernel
theorem dX9_isOfKind_47 : decode cX9_isOfKind 47 = .ok (.ireturn, 1) := by decide +kernel
theorem dX9_isOfKind_48 : decode cX9_isOfKind 48 = .ok (.aload_n 0, 1) := by decide +kernel
theorem dX9_isOfKind_49 : decode cX9_isOfKind 49 = .ok (.instanceof 235, 3) := by decide +kernel
theorem dX9_isOfKind_52 : decode cX9_isOfKind 52 = .ok (.ireturn, 1) := by decide +kernel
theorem dX9_isOfKind_53 : decode cX9_isOfKind 53 = .ok (.aload_n 0, 1) := by decide +kernel
theorem dX9_isOfKind_54 : decode cX9_isOfKind 54 = .ok (.instanceof 237, 3) := by decide +kernel
theorem dX9_isOfKind_57 : decode cX9_isOfKind 57 = .ok (.ireturn, 1) := by decide +kernel
theorem dX9_isOfKind_58 : decode cX9_isOfKind 58 = .ok (.iconst 0, 1) := by decide +kernel
theorem dX9_isOfKind_59 : decode cX9_isOfKind 59 = .ok (.ireturn, 1) := by decide +kernel
set_option maxRecDepth 20000 in
theorem ggX9_worstAndVotes_X1_takeFrom : GoodIn wsX9_worstAndVotes wsX1_takeFrom := goodIn_r _ [7, 8, 9, 10, 11, 12, 13, 14, 15, 16, 17, 18, 19, 20, 21, 22, 23, 24, 25, 26, 27, 112, 113, 114, 115, 116, 117, 118, 119, 120, 121] (by decide +kernel) (by decide +kernel)
set_option maxRecDepth 20000 in
theorem gX9_worstAndVotes_X1_takeFrom : GoodIn wsX9_worstAndVotes (wsV RX9 174 RX1 yX1_takeFrom wsX1_takeFrom) := goodIn_app (goodIn_of _ (by decide +kernel)) ggX9_worstAndVotes_X1_takeFrom
set_option maxRecDepth 20000 in
theorem ggX9_worstAndVotes_X1_setCold : GoodIn wsX9_worstAndVotes wsX1_setCold := goodIn_r _ [31, 10, 32, 33, 34, 6, 35, 14, 112, 113, 114, 115, 116, 117, 118, 119, 120, 121] (by decide +kernel) (by decide +kernel)
set_option maxRecDepth 20000 in
theorem gX9_worstAndVotes_X1_setCold : GoodIn wsX9_worstAndVotes (wsV RX9 141 RX1 yX1_setCold wsX1_setCold) := goodIn_app (goodIn_of _ (by decide +kernel)) ggX9_worstAndVotes_X1_setCold
set_option maxRecDepth 20000 in
theorem ggX9_worstAndVotes_X1_setLeft : GoodIn wsX9_worstAndVotes wsX1_setLeft := goodIn_r _ [39, 11, 32, 33, 34, 6, 35, 14, 112, 113, 114, 115, 116, 117, 118, 119, 120, 121] (by decide +kernel) (by decide +kernel)
set_option maxRecDepth 20000 in
theorem gX9_worstAndVotes_X1_setLeft : GoodIn wsX9_worstAndVotes (wsV RX9 145 RX1 yX1_setLeft wsX1_setLeft) := goodIn_app (goodIn_of _ (by decide +kernel)) ggX9_worstAndVotes_X1_setLeft
set_option maxRecDepth 20000 in
theorem ggX9_worstAndVotes_X1_votes : GoodIn wsX9_worstAndVotes wsX1_votes := goodIn_r _ [43, 15, 44, 45, 46, 6, 47, 14, 48, 49, 50, 51, 13, 52, 53, 54, 55, 56, 57, 58, 59, 60, 8, 9, 10, 11, 12, 61, 62, 22, 63, 32, 33, 34, 35, 64, 65, 66, 67, 68, 69, 70, 71, 72, 73, 74, 75, 76, 77, 78, 79, 80, 81, 82, 83, 84, 85, 86, 87, 88, 89, 90, 91, 92, 93, 94, 95, 96, 97, 98, 99, 100, 112, 113, 114, 115, 116, 117, 118, 119, 120, 121, 122, 123, 124, 125, 126] (by decide +kernel) (by decide +kernel)
set_option maxRecDepth 20000 in
theorem gX9_worstAndVotes_X1_votes : GoodIn wsX9_worstAndVotes (wsV RX9 99 RX1 yX1_votes wsX1_votes) := goodIn_app (goodIn_of _ (by decide +kernel)) ggX9_worstAndVotes_X1_votes
theorem dX9_worstAndVotes_0 : decode cX9_worstAndVotes 0 = .ok (.aload_n 0, 1) := by decide +kernel
theorem dX9_worstAndVotes_1 : decode cX9_worstAndVotes 1 = .ok (.getfield 48, 3) := by decide +kernel
theorem dX9_worstAndVotes_4 : decode cX9_worstAndVotes 4 = .ok (.aload_n 0, 1) := by decide +kernel
theorem dX9_worstAndVotes_5 : decode cX9_worstAndVotes 5 = .ok (.getfield 41, 3) := by decide +kernel
theorem dX9_worstAndVotes_8 : decode cX9_worstAndVotes 8 = .ok (.invokevirtual 174, 3) := by decide +kernel
theorem dX9_worstAndVotes_11 : decode cX9_worstAndVotes 11 = .ok (.iconst 0, 1) := by decide +kernel
theorem dX9_worstAndVotes_12 : decode cX9_worstAndVotes 12 = .ok (.istore_n 2, 1) := by decide +kernel
theorem dX9_worstAndVotes_13 : decode cX9_worstAndVotes 13 = .ok (.iconst (-1), 1) := by decide +kernel
theorem dX9_worstAndVotes_14 : decode cX9_worstAndVotes 14 = .ok (.istore_n 3, 1) := by decide +kernel
theorem dX9_worstAndVotes_15 : decode cX9_worstAndVotes 15 = .ok (.iconst 0, 1) := by decide +kernel
theorem dX9_worstAndVotes_16 : decode cX9_worstAndVotes 16 = .ok (.istore 4, 2) := by decide +kernel
theorem dX9_worstAndVotes_18 : decode cX9_worstAndVotes 18 = .ok (.iload 4, 2) := by decide +kernel
theorem dX9_worstAndVotes_20 : decode cX9_worstAndVotes 20 = .ok (.iconst 4, 1) := by decide +kernel
theorem dX9_worstAndVotes_21 : decode cX9_worstAndVotes 21 = .ok (.if_icmp .ge 71, 3) := by decide +kernel
theorem dX9_worstAndVotes_24 : decode cX9_worstAndVotes 24 = .ok (.aload_n 0, 1) := by decide +kernel
theorem dX9_worstAndVotes_25 : decode cX9_worstAndVotes 25 = .ok (.getfield 48, 3) := by decide +kernel
theorem dX9_worstAndVotes_28 : decode cX9_worstAndVotes 28 = .ok (.iload_n 1, 1) := by decide +kernel
theorem dX9_worstAndVotes_29 : decode cX9_worstAndVotes 29 = .ok (.iload 4, 2) := by decide +kernel
theorem dX9_worstAndVotes_31 : decode cX9_worstAndVotes 31 = .ok (.iconst 2, 1) := by decide +kernel
theorem dX9_worstAndVotes_32 : decode cX9_worstAndVotes 32 = .ok (.iand, 1) := by decide +kernel
theorem dX9_worstAndVotes_33 : decode cX9_worstAndVotes 33 = .ok (.ifCond .eq 7, 3) := by decide +kernel
theorem dX9_worstAndVotes_36 : decode cX9_worstAndVotes 36 = .ok (.iconst 1, 1) := by decide +kernel
theorem dX9_worstAndVotes_37 : decode cX9_worstAndVotes 37 = .ok (.goto 4, 3) := by decide +kernel
theorem dX9_worstAndVotes_40 : decode cX9_worstAndVotes 40 = .ok (.iconst 0, 1) := by decide +kernel
theorem dX9_worstAndVotes_41 : decode cX9_worstAndVotes 41 = .ok (.invokevirtual 141, 3) := by decide +kernel
theorem dX9_worstAndVotes_44 : decode cX9_worstAndVotes 44 = .ok (.aload_n 0, 1) := by decide +kernel
theorem dX9_worstAndVotes_45 : decode cX9_worstAndVotes 45 = .ok (.getfield 48, 3) := by decide +kernel
theorem dX9_worstAndVotes_48 : decode cX9_worstAndVotes 48 = .ok (.iload_n 1, 1) := by decide +kernel
theorem dX9_worstAndVotes_49 : decode cX9_worstAndVotes 49 = .ok (.iload 4, 2) := by decide +kernel
theorem dX9_worstAndVotes_51 : decode cX9_worstAndVotes 51 = .ok (.iconst 1, 1) := by decide +kernel
theorem dX9_worstAndVotes_52 : decode cX9_worstAndVotes 52 = .ok (.iand, 1) := by decide +kernel
theorem dX9_worstAndVotes_53 : decode cX9_worstAndVotes 53 = .ok (.ifCond .eq 7, 3) := by decide +kernel
theorem dX9_worstAndVotes_56 : decode cX9_worstAndVotes 56 = .ok (.iconst 1, 1) := by decide +kernel
theorem dX9_worstAndVotes_57 : decode cX9_worstAndVotes 57 = .ok (.goto 4, 3) := by decide +kernel
theorem dX9_worstAndVotes_60 : decode cX9_worstAndVotes 60 = .ok (.iconst 0, 1) := by decide +kernel
theorem dX9_worstAndVotes_61 : decode cX9_worstAndVotes 61 = .ok (.invokevirtual 145, 3) := by decide +kernel
theorem dX9_worstAndVotes_64 : decode cX9_worstAndVotes 64 = .ok (.aload_n 0, 1) := by decide +kernel
theorem dX9_worstAndVotes_65 : decode cX9_worstAndVotes 65 = .ok (.getfield 48, 3) := by decide +kernel
theorem dX9_worstAndVotes_68 : decode cX9_worstAndVotes 68 = .ok (.iload_n 1, 1) := by decide +kernel
theorem dX9_worstAndVotes_69 : decode cX9_worstAndVotes 69 = .ok (.invokevirtual 99, 3) := by decide +kernel
theorem dX9_worstAndVotes_72 : decode cX9_worstAndVotes 72 = .ok (.istore 5, 2) := by decide +kernel
theorem dX9_worstAndVotes_74 : decode cX9_worstAndVotes 74 = .ok (.iload 5, 2) := by decide +kernel
theorem dX9_worstAndVotes_76 : decode cX9_worstAndVotes 76 = .ok (.iload_n 3, 1) := by decide +kernel
theorem dX9_worstAndVotes_77 : decode cX9_worstAndVotes 77 = .ok (.if_icmp .le 9, 3) := by decide +kernel
theorem dX9_worstAndVotes_80 : decode cX9_worstAndVotes 80 = .ok (.iload 5, 2) := by decide +kernel
theorem dX9_worstAndVotes_82 : decode cX9_worstAndVotes 82 = .ok (.istore_n 3, 1) := by decide +kernel
theorem dX9_worstAndVotes_83 : decode cX9_worstAndVotes 83 = .ok (.iload 4, 2) := by decide +kernel
theorem dX9_worstAndVotes_85 : decode cX9_worstAndVotes 85 = .ok (.istore_n 2, 1) := by decide +kernel
theorem dX9_worstAndVotes_86 : decode cX9_worstAndVotes 86 = .ok (.iinc 4 1, 3) := by decide +kernel
theorem dX9_worstAndVotes_89 : decode cX9_worstAndVotes 89 = .ok (.goto (-71), 3) := by decide +kernel
theorem dX9_worstAndVotes_92 : decode cX9_worstAndVotes 92 = .ok (.iconst 4, 1) := by decide +kernel
theorem dX9_worstAndVotes_93 : decode cX9_worstAndVotes 93 = .ok (.iload_n 3, 1) := by decide +kernel
theorem dX9_worstAndVotes_94 : decode cX9_worstAndVotes 94 = .ok (.imul, 1) := by decide +kernel
theorem dX9_worstAndVotes_95 : decode cX9_worstAndVotes 95 = .ok (.iload_n 2, 1) := by decide +kernel
theorem dX9_worstAndVotes_96 : decode cX9_worstAndVotes 96 = .ok (.iadd, 1) := by decide +kernel
theorem dX9_worstAndVotes_97 : decode cX9_worstAndVotes 97 = .ok (.ireturn, 1) := by decide +kernel
set_option maxRecDepth 20000 in
theorem ggX9_pourLeast_X1_takeFrom : GoodIn wsX9_pourLeast wsX1_takeFrom := goodIn_r _ [9, 10, 11, 12, 13, 14, 15, 16, 17, 18, 19, 20, 21, 22, 23, 24, 25, 26, 27, 28, 29, 124, 125, 126, 127, 128, 129, 130, 131, 132, 133] (by decide +kernel) (by decide +kernel)
set_option maxRecDepth 20000 in
theorem gX9_pourLeast_X1_takeFrom : GoodIn wsX9_pourLeast (wsV RX9 174 RX1 yX1_takeFrom wsX1_takeFrom) := goodIn_app (goodIn_of _ (by decide +kernel)) ggX9_pourLeast_X1_takeFrom
set_option maxRecDepth 20000 in
theorem ggX9_pourLeast_X9_pour : GoodIn wsX9_pourLeast wsX9_pour := goodIn_r _ [33, 3, 2, 1, 34, 35, 36, 8, 37, 16, 38, 39, 40, 41, 14, 42, 43, 44, 45, 46, 113, 114, 115, 116, 117, 118, 119, 120, 121, 122, 123, 124, 125, 126, 127, 128, 129, 130, 131, 132, 133] (by decide +kernel) (by decide +kernel)
set_option maxRecDepth 20000 in
theorem gX9_pourLeast_X9_pour : GoodIn wsX9_pourLeast (wsV RX9 239 RX9 yX9_pour wsX9_pour) := goodIn_app (goodIn_of _ (by decide +kernel)) ggX9_pourLeast_X9_pour
set_option maxRecDepth 20000 in
theorem ggX9_pourLeast_X1_elected : GoodIn wsX9_pourLeast wsX1_elected := goodIn_r _ [50, 16, 51, 52, 53, 8, 54, 17, 55, 56, 57, 58, 59, 60, 61, 62, 15, 63, 64, 65, 66, 67, 68, 69, 70, 71, 10, 11, 12, 13, 14, 72, 73, 24, 74, 42, 35, 36, 37, 75, 76, 77, 78, 79, 80, 81, 82, 83, 84, 85, 86, 87, 88, 89, 90, 91, 92, 93, 94, 95, 96, 97, 98, 99, 100, 101, 102, 103, 104, 105, 106, 107, 108, 109, 110, 111, 124, 125, 126, 127, 128, 129, 130, 131, 132, 133, 134, 135, 136, 137, 138] (by decide +kernel) (by decide +kernel)
set_option maxRecDepth 20000 in
theorem gX9_pourLeast_X1_elected : GoodIn wsX9_pourLeast (wsV RX9 158 RX1 yX1_elected wsX1_elected) := goodIn_app (goodIn_of _ (by decide +kernel)) ggX9_pourLeast_X1_elected
set_option maxRecDepth 20000 in
theorem ggX9_pourLeast_X9_copyRow : GoodIn wsX9_pourLeast wsX9_copyRow := goodIn_r _ [21, 22, 23, 24, 25, 26, 27, 28, 29] (by decide +kernel) (by decide +kernel)
set_option maxRecDepth 20000 in
theorem gX9_pourLeast_X9_copyRow : GoodIn wsX9_pourLeast (va_wsS RX9 242 yX9_copyRow wsX9_copyRow) := goodIn_app (goodIn_of _ (by decide +kernel)) ggX9_pourLeast_X9_copyRow
theorem dX9_pourLeast_0 : decode cX9_pourLeast 0 = .ok (.aload_n 0, 1) := by decide +kernel
theorem dX9_pourLeast_1 : decode cX9_pourLeast 1 = .ok (.getfield 48, 3) := by decide +kernel
theorem dX9_pourLeast_4 : decode cX9_pourLeast 4 = .ok (.aload_n 0, 1) := by decide +kernel
theorem dX9_pourLeast_5 : decode cX9_pourLeast 5 = .ok (.getfield 41, 3) := by decide +kernel
theorem dX9_pourLeast_8 : decode cX9_pourLeast 8 = .ok (.invokevirtual 174, 3) := by decide +kernel
theorem dX9_pourLeast_11 : decode cX9_pourLeast 11 = .ok (.iconst 1, 1) := by decide +kernel
theorem dX9_pourLeast_12 : decode cX9_pourLeast 12 = .ok (.istore_n 2, 1) := by decide +kernel
theorem dX9_pourLeast_13 : decode cX9_pourLeast 13 = .ok (.iconst 1, 1) := by decide +kernel
theorem dX9_pourLeast_14 : decode cX9_pourLeast 14 = .ok (.istore_n 3, 1) := by decide +kernel
theorem dX9_pourLeast_15 : decode cX9_pourLeast 15 = .ok (.iload_n 3, 1) := by decide +kernel
theorem dX9_pourLeast_16 : decode cX9_pourLeast 16 = .ok (.aload_n 0, 1) := by decide +kernel
theorem dX9_pourLeast_17 : decode cX9_pourLeast 17 = .ok (.getfield 41, 3) := by decide +kernel
theorem dX9_pourLeast_20 : decode cX9_pourLeast 20 = .ok (.getfield 84, 3) := by decide +kernel
theorem dX9_pourLeast_23 : decode cX9_pourLeast 23 = .ok (.if_icmp .ge 14, 3) := by decide +kernel
theorem dX9_pourLeast_26 : decode cX9_pourLeast 26 = .ok (.iload_n 2, 1) := by decide +kernel
theorem dX9_pourLeast_27 : decode cX9_pourLeast 27 = .ok (.bipush 10, 2) := by decide +kernel
theorem dX9_pourLeast_29 : decode cX9_pourLeast 29 = .ok (.imul, 1) := by decide +kernel
theorem dX9_pourLeast_30 : decode cX9_pourLeast 30 = .ok (.istore_n 2, 1) := by decide +kernel
theorem dX9_pourLeast_31 : decode cX9_pourLeast 31 = .ok (.iinc 3 1, 3) := by decide +kernel
theorem dX9_pourLeast_34 : decode cX9_pourLeast 34 = .ok (.goto (-19), 3) := by decide +kernel
theorem dX9_pourLeast_37 : decode cX9_pourLeast 37 = .ok (.iconst (-1), 1) := by decide +kernel
theorem dX9_pourLeast_38 : decode cX9_pourLeast 38 = .ok (.istore_n 3, 1) := by decide +kernel
theorem dX9_pourLeast_39 : decode cX9_pourLeast 39 = .ok (.iconst 0, 1) := by decide +kernel
theorem dX9_pourLeast_40 : decode cX9_pourLeast 40 = .ok (.istore 4, 2) := by decide +kernel
theorem dX9_pourLeast_42 : decode cX9_pourLeast 42 = .ok (.iload 4, 2) := by decide +kernel
theorem dX9_pourLeast_44 : decode cX9_pourLeast 44 = .ok (.iload_n 2, 1) := by decide +kernel
theorem dX9_pourLeast_45 : decode cX9_pourLeast 45 = .ok (.if_icmp .ge 72, 3) := by decide +kernel
theorem dX9_pourLeast_48 : decode cX9_pourLeast 48 = .ok (.aload_n 0, 1) := by decide +kernel
theorem dX9_pourLeast_49 : decode cX9_pourLeast 49 = .ok (.iload_n 1, 1) := by decide +kernel
theorem dX9_pourLeast_50 : decode cX9_pourLeast 50 = .ok (.iload 4, 2) := by decide +kernel
theorem dX9_pourLeast_52 : decode cX9_pourLeast 52 = .ok (.invokevirtual 239, 3) := by decide +kernel
theorem dX9_pourLeast_55 : decode cX9_pourLeast 55 = .ok (.istore 5, 2) := by decide +kernel
theorem dX9_pourLeast_57 : decode cX9_pourLeast 57 = .ok (.iload 5, 2) := by decide +kernel
theorem dX9_pourLeast_59 : decode cX9_pourLeast 59 = .ok (.iconst (-1), 1) := by decide +kernel
theorem dX9_pourLeast_60 : decode cX9_pourLeast 60 = .ok (.if_icmp .eq 18, 3) := by decide +kernel
theorem dX9_pourLeast_63 : decode cX9_pourLeast 63 = .ok (.iload_n 3, 1) := by decide +kernel
theorem dX9_pourLeast_64 : decode cX9_pourLeast 64 = .ok (.iconst (-1), 1) := by decide +kernel
theorem dX9_pourLeast_65 : decode cX9_pourLeast 65 = .ok (.if_icmp .eq 9, 3) := by decide +kernel
theorem dX9_pourLeast_68 : decode cX9_pourLeast 68 = .ok (.iload 5, 2) := by decide +kernel
theorem dX9_pourLeast_70 : decode cX9_pourLeast 70 = .ok (.iload_n 3, 1) := by decide +kernel
theorem dX9_pourLeast_71 : decode cX9_pourLeast 71 = .ok (.if_icmp .ge 7, 3) := by decide +kernel
theorem dX9_pourLeast_74 : decode cX9_pourLeast 74 = .ok (.iconst 1, 1) := by decide +kernel
theorem dX9_pourLeast_75 : decode cX9_pourLeast 75 = .ok (.goto 4, 3) := by decide +kernel
theorem dX9_pourLeast_78 : decode cX9_pourLeast 78 = .ok (.iconst 0, 1) := by decide +kernel
theorem dX9_pourLeast_79 : decode cX9_pourLeast 79 = .ok (.istore 6, 2) := by decide +kernel
theorem dX9_pourLeast_81 : decode cX9_pourLeast 81 = .ok (.iload 6, 2) := by decide +kernel
theorem dX9_pourLeast_83 : decode cX9_pourLeast 83 = .ok (.ifCond .eq 28, 3) := by decide +kernel
theorem dX9_pourLeast_86 : decode cX9_pourLeast 86 = .ok (.aload_n 0, 1) := by decide +kernel
theorem dX9_pourLeast_87 : decode cX9_pourLeast 87 = .ok (.getfield 48, 3) := by decide +kernel
theorem dX9_pourLeast_90 : decode cX9_pourLeast 90 = .ok (.invokevirtual 158, 3) := by decide +kernel
theorem dX9_pourLeast_93 : decode cX9_pourLeast 93 = .ok (.iload_n 1, 1) := by decide +kernel
theorem dX9_pourLeast_94 : decode cX9_pourLeast 94 = .ok (.if_icmp .ne 17, 3) := by decide +kernel
theorem dX9_pourLeast_97 : decode cX9_pourLeast 97 = .ok (.iload 5, 2) := by decide +kernel
theorem dX9_pourLeast_99 : decode cX9_pourLeast 99 = .ok (.istore_n 3, 1) := by decide +kernel
theorem dX9_pourLeast_100 : decode cX9_pourLeast 100 = .ok (.aload_n 0, 1) := by decide +kernel
theorem dX9_pourLeast_101 : decode cX9_pourLeast 101 = .ok (.getfield 26, 3) := by decide +kernel
theorem dX9_pourLeast_104 : decode cX9_pourLeast 104 = .ok (.aload_n 0, 1) := by decide +kernel
theorem dX9_pourLeast_105 : decode cX9_pourLeast 105 = .ok (.getfield 30, 3) := by decide +kernel
theorem dX9_pourLeast_108 : decode cX9_pourLeast 108 = .ok (.invokestatic 242, 3) := by decide +kernel
theorem dX9_pourLeast_111 : decode cX9_pourLeast 111 = .ok (.iinc 4 1, 3) := by decide +kernel
theorem dX9_pourLeast_114 : decode cX9_pourLeast 114 = .ok (.goto (-72), 3) := by decide +kernel
theorem dX9_pourLeast_117 : decode cX9_pourLeast 117 = .ok (.iload_n 3, 1) := by decide +kernel
theorem dX9_pourLeast_118 : decode cX9_pourLeast 118 = .ok (.ireturn, 1) := by decide +kernel
set_option maxRecDepth 20000 in
theorem ggX9_pour_X1_hasSinger : GoodIn wsX9_pour wsX1_hasSinger := goodIn_r _ [8, 9, 31, 32, 33, 34, 35, 36, 37, 38, 39, 40] (by decide +kernel) (by decide +kernel)
set_option maxRecDepth 20000 in
theorem gX9_pour_X1_hasSinger : GoodIn wsX9_pour (wsV RX9 87 RX1 yX1_hasSinger wsX1_hasSinger) := goodIn_app (goodIn_of _ (by decide +kernel)) ggX9_pour_X1_hasSinger
set_option maxRecDepth 20000 in
theorem ggX9_pour_X1_honeyOf : GoodIn wsX9_pour wsX1_honeyOf := goodIn_r _ [13, 14, 15, 5, 6, 7, 8, 9, 31, 32, 33, 34, 35, 36, 37, 38, 39, 40] (by decide +kernel) (by decide +kernel)
set_option maxRecDepth 20000 in
theorem gX9_pour_X1_honeyOf : GoodIn wsX9_pour (wsV RX9 109 RX1 yX1_honeyOf wsX1_honeyOf) := goodIn_app (goodIn_of _ (by decide +kernel)) ggX9_pour_X1_honeyOf
set_option maxRecDepth 20000 in
theorem ggX9_pour_X1_setHoney : GoodIn wsX9_pour wsX1_setHoney := goodIn_r _ [19, 14, 15, 5, 6, 7, 8, 9, 31, 32, 33, 34, 35, 36, 37, 38, 39, 40] (by decide +kernel) (by decide +kernel)
set_option maxRecDepth 20000 in
theorem gX9_pour_X1_setHoney : GoodIn wsX9_pour (wsV RX9 148 RX1 yX1_setHoney wsX1_setHoney) := goodIn_app (goodIn_of _ (by decide +kernel)) ggX9_pour_X1_setHoney
theorem dX9_pour_0 : decode cX9_pour 0 = .ok (.iload_n 2, 1) := by decide +kernel
theorem dX9_pour_1 : decode cX9_pour 1 = .ok (.istore_n 3, 1) := by decide +kernel
theorem dX9_pour_2 : decode cX9_pour 2 = .ok (.iconst 0, 1) := by decide +kernel
theorem dX9_pour_3 : decode cX9_pour 3 = .ok (.istore 4, 2) := by decide +kernel
theorem dX9_pour_5 : decode cX9_pour 5 = .ok (.iconst 0, 1) := by decide +kernel
theorem dX9_pour_6 : decode cX9_pour 6 = .ok (.istore 5, 2) := by decide +kernel
theorem dX9_pour_8 : decode cX9_pour 8 = .ok (.iconst 3, 1) := by decide +kernel
theorem dX9_pour_9 : decode cX9_pour 9 = .ok (.istore 6, 2) := by decide +kernel
theorem dX9_pour_11 : decode cX9_pour 11 = .ok (.iload 6, 2) := by decide +kernel
theorem dX9_pour_13 : decode cX9_pour 13 = .ok (.ifCond .lt 103, 3) := by decide +kernel
theorem dX9_pour_16 : decode cX9_pour 16 = .ok (.aload_n 0, 1) := by decide +kernel
theorem dX9_pour_17 : decode cX9_pour 17 = .ok (.getfield 26, 3) := by decide +kernel
theorem dX9_pour_20 : decode cX9_pour 20 = .ok (.iload 6, 2) := by decide +kernel
theorem dX9_pour_22 : decode cX9_pour 22 = .ok (.iconst 0, 1) := by decide +kernel
theorem dX9_pour_23 : decode cX9_pour 23 = .ok (.iastore, 1) := by decide +kernel
theorem dX9_pour_24 : decode cX9_pour 24 = .ok (.iload 6, 2) := by decide +kernel
theorem dX9_pour_26 : decode cX9_pour 26 = .ok (.iload_n 1, 1) := by decide +kernel
theorem dX9_pour_27 : decode cX9_pour 27 = .ok (.if_icmp .eq 83, 3) := by decide +kernel
theorem dX9_pour_30 : decode cX9_pour 30 = .ok (.aload_n 0, 1) := by decide +kernel
theorem dX9_pour_31 : decode cX9_pour 31 = .ok (.getfield 41, 3) := by decide +kernel
theorem dX9_pour_34 : decode cX9_pour 34 = .ok (.iload 6, 2) := by decide +kernel
theorem dX9_pour_36 : decode cX9_pour 36 = .ok (.invokevirtual 87, 3) := by decide +kernel
theorem dX9_pour_39 : decode cX9_pour 39 = .ok (.ifCond .eq 71, 3) := by decide +kernel
theorem dX9_pour_42 : decode cX9_pour 42 = .ok (.aload_n 0, 1) := by decide +kernel
theorem dX9_pour_43 : decode cX9_pour 43 = .ok (.getfield 26, 3) := by decide +kernel
theorem dX9_pour_46 : decode cX9_pour 46 = .ok (.iload 6, 2) := by decide +kernel
theorem dX9_pour_48 : decode cX9_pour 48 = .ok (.iload_n 3, 1) := by decide +kernel
theorem dX9_pour_49 : decode cX9_pour 49 = .ok (.bipush 10, 2) := by decide +kernel
theorem dX9_pour_51 : decode cX9_pour 51 = .ok (.irem, 1) := by decide +kernel
theorem dX9_pour_52 : decode cX9_pour 52 = .ok (.iastore, 1) := by decide +kernel
theorem dX9_pour_53 : decode cX9_pour 53 = .ok (.iload_n 3, 1) := by decide +kernel
theorem dX9_pour_54 : decode cX9_pour 54 = .ok (.bipush 10, 2) := by decide +kernel
theorem dX9_pour_56 : decode cX9_pour 56 = .ok (.idiv, 1) := by decide +kernel
theorem dX9_pour_57 : decode cX9_pour 57 = .ok (.istore_n 3, 1) := by decide +kernel
theorem dX9_pour_58 : decode cX9_pour 58 = .ok (.iload 4, 2) := by decide +kernel
theorem dX9_pour_60 : decode cX9_pour 60 = .ok (.aload_n 0, 1) := by decide +kernel
theorem dX9_pour_61 : decode cX9_pour 61 = .ok (.getfield 26, 3) := by decide +kernel
theorem dX9_pour_64 : decode cX9_pour 64 = .ok (.iload 6, 2) := by decide +kernel
theorem dX9_pour_66 : decode cX9_pour 66 = .ok (.iaload, 1) := by decide +kernel
theorem dX9_pour_67 : decode cX9_pour 67 = .ok (.iadd, 1) := by decide +kernel
theorem dX9_pour_68 : decode cX9_pour 68 = .ok (.istore 4, 2) := by decide +kernel
theorem dX9_pour_70 : decode cX9_pour 70 = .ok (.aload_n 0, 1) := by decide +kernel
theorem dX9_pour_71 : decode cX9_pour 71 = .ok (.getfield 41, 3) := by decide +kernel
theorem dX9_pour_74 : decode cX9_pour 74 = .ok (.iload 6, 2) := by decide +kernel
theorem dX9_pour_76 : decode cX9_pour 76 = .ok (.invokevirtual 109, 3) := by decide +kernel
theorem dX9_pour_79 : decode cX9_pour 79 = .ok (.aload_n 0, 1) := by decide +kernel
theorem dX9_pour_80 : decode cX9_pour 80 = .ok (.getfield 26, 3) := by decide +kernel
theorem dX9_pour_83 : decode cX9_pour 83 = .ok (.iload 6, 2) := by decide +kernel
theorem dX9_pour_85 : decode cX9_pour 85 = .ok (.iaload, 1) := by decide +kernel
theorem dX9_pour_86 : decode cX9_pour 86 = .ok (.iadd, 1) := by decide +kernel
theorem dX9_pour_87 : decode cX9_pour 87 = .ok (.istore 7, 2) := by decide +kernel
theorem dX9_pour_89 : decode cX9_pour 89 = .ok (.iload 7, 2) := by decide +kernel
theorem dX9_pour_91 : decode cX9_pour 91 = .ok (.bipush 9, 2) := by decide +kernel
theorem dX9_pour_93 : decode cX9_pour 93 = .ok (.if_icmp .le 6, 3) := by decide +kernel
theorem dX9_pour_96 : decode cX9_pour 96 = .ok (.iconst 1, 1) := by decide +kernel
theorem dX9_pour_97 : decode cX9_pour 97 = .ok (.istore 5, 2) := by decide +kernel
theorem dX9_pour_99 : decode cX9_pour 99 = .ok (.aload_n 0, 1) := by decide +kernel
theorem dX9_pour_100 : decode cX9_pour 100 = .ok (.getfield 48, 3) := by decide +kernel
theorem dX9_pour_103 : decode cX9_pour 103 = .ok (.iload 6, 2) := by decide +kernel
theorem dX9_pour_105 : decode cX9_pour 105 = .ok (.iload 7, 2) := by decide +kernel
theorem dX9_pour_107 : decode cX9_pour 107 = .ok (.invokevirtual 148, 3) := by decide +kernel
theorem dX9_pour_110 : decode cX9_pour 110 = .ok (.iinc 6 (-1), 3) := by decide +kernel
theorem dX9_pour_113 : decode cX9_pour 113 = .ok (.goto (-102), 3) := by decide +kernel
theorem dX9_pour_116 : decode cX9_pour 116 = .ok (.iload 5, 2) := by decide +kernel
theorem dX9_pour_118 : decode cX9_pour 118 = .ok (.ifCond .eq 7, 3) := by decide +kernel
theorem dX9_pour_121 : decode cX9_pour 121 = .ok (.iconst (-1), 1) := by decide +kernel
theorem dX9_pour_122 : decode cX9_pour 122 = .ok (.goto 5, 3) := by decide +kernel
theorem dX9_pour_125 : decode cX9_pour 125 = .ok (.iload 4, 2) := by decide +kernel
theorem dX9_pour_127 : decode cX9_pour 127 = .ok (.ireturn, 1) := by decide +kernel
set_option maxRecDepth 20000 in
theorem ggX9_canMind_X4_wouldBeSo : GoodIn wsX9_canMind wsX4_wouldBeSo := goodIn_r _ [7, 8, 9, 10, 11, 12, 13, 14, 15, 16, 17, 18, 19, 20, 21, 22, 23, 24, 25, 26, 27, 28, 29, 30, 31, 32, 33, 34, 35, 36, 37, 38, 39, 40, 41, 42, 43, 44, 45, 46, 47, 48, 49, 50, 51, 52, 53, 54, 55, 56, 57, 58, 59, 60, 61, 62, 63, 64, 65, 66, 67, 68, 69, 81, 82, 83, 84, 85, 86, 87, 88, 89, 90, 91, 92, 93, 94, 95, 96, 97, 98, 99, 100] (by decide +kernel) (by decide +kernel)
set_option maxRecDepth 20000 in
theorem gX9_canMind_X4_wouldBeSo : GoodIn wsX9_canMind (wsV RX9 246 RX4 yX4_wouldBeSo wsX4_wouldBeSo) := goodIn_app (goodIn_of _ (by decide +kernel)) ggX9_canMind_X4_wouldBeSo
theorem dX9_canMind_0 : decode cX9_canMind 0 = .ok (.iconst 0, 1) := by decide +kernel
theorem dX9_canMind_1 : decode cX9_canMind 1 = .ok (.istore_n 2, 1) := by decide +kernel
theorem dX9_canMind_2 : decode cX9_canMind 2 = .ok (.iconst 0, 1) := by decide +kernel
theorem dX9_canMind_3 : decode cX9_canMind 3 = .ok (.istore_n 3, 1) := by decide +kernel
theorem dX9_canMind_4 : decode cX9_canMind 4 = .ok (.iload_n 3, 1) := by decide +kernel
theorem dX9_canMind_5 : decode cX9_canMind 5 = .ok (.iconst 4, 1) := by decide +kernel
theorem dX9_canMind_6 : decode cX9_canMind 6 = .ok (.if_icmp .ge 31, 3) := by decide +kernel
theorem dX9_canMind_9 : decode cX9_canMind 9 = .ok (.aload_n 0, 1) := by decide +kernel
theorem dX9_canMind_10 : decode cX9_canMind 10 = .ok (.getfield 19, 3) := by decide +kernel
theorem dX9_canMind_13 : decode cX9_canMind 13 = .ok (.aload_n 0, 1) := by decide +kernel
theorem dX9_canMind_14 : decode cX9_canMind 14 = .ok (.getfield 41, 3) := by decide +kernel
theorem dX9_canMind_17 : decode cX9_canMind 17 = .ok (.iload_n 1, 1) := by decide +kernel
theorem dX9_canMind_18 : decode cX9_canMind 18 = .ok (.iload_n 3, 1) := by decide +kernel
theorem dX9_canMind_19 : decode cX9_canMind 19 = .ok (.invokevirtual 246, 3) := by decide +kernel
theorem dX9_canMind_22 : decode cX9_canMind 22 = .ok (.ifCond .eq 9, 3) := by decide +kernel
theorem dX9_canMind_25 : decode cX9_canMind 25 = .ok (.iload_n 2, 1) := by decide +kernel
theorem dX9_canMind_26 : decode cX9_canMind 26 = .ok (.iconst 1, 1) := by decide +kernel
theorem dX9_canMind_27 : decode cX9_canMind 27 = .ok (.iload_n 3, 1) := by decide +kernel
theorem dX9_canMind_28 : decode cX9_canMind 28 = .ok (.ishl, 1) := by decide +kernel
theorem dX9_canMind_29 : decode cX9_canMind 29 = .ok (.ior, 1) := by decide +kernel
theorem dX9_canMind_30 : decode cX9_canMind 30 = .ok (.istore_n 2, 1) := by decide +kernel
theorem dX9_canMind_31 : decode cX9_canMind 31 = .ok (.iinc 3 1, 3) := by decide +kernel
theorem dX9_canMind_34 : decode cX9_canMind 34 = .ok (.goto (-30), 3) := by decide +kernel
theorem dX9_canMind_37 : decode cX9_canMind 37 = .ok (.iload_n 2, 1) := by decide +kernel
theorem dX9_canMind_38 : decode cX9_canMind 38 = .ok (.ireturn, 1) := by decide +kernel
set_option maxRecDepth 20000 in
theorem ggX9_bestAsk_X9_canMind : GoodIn wsX9_bestAsk wsX9_canMind := goodIn_r _ [6, 7, 1, 8, 9, 10, 11, 12, 13, 14, 15, 16, 17, 18, 19, 20, 21, 22, 23, 24, 25, 26, 27, 28, 29, 30, 31, 32, 33, 34, 35, 36, 37, 38, 39, 40, 41, 42, 43, 44, 45, 46, 47, 48, 49, 50, 51, 52, 53, 54, 55, 56, 57, 58, 59, 60, 61, 62, 63, 64, 65, 66, 67, 68, 69, 70, 71, 72, 73, 74, 88, 89, 90, 91, 92, 93, 94, 95, 96, 97, 98, 109, 110, 111, 112, 113, 99, 100, 101, 102, 103, 104, 105, 106, 107, 108, 114, 115, 116, 117, 118] (by decide +kernel) (by decide +kernel)
set_option maxRecDepth 20000 in
theorem gX9_bestAsk_X9_canMind : GoodIn wsX9_bestAsk (wsV RX9 135 RX9 yX9_canMind wsX9_canMind) := goodIn_app (goodIn_of _ (by decide +kernel)) ggX9_bestAsk_X9_canMind
set_option maxRecDepth 20000 in
theorem ggX9_bestAsk_X9_leftAtWorst : GoodIn wsX9_bestAsk wsX9_leftAtWorst := goodIn_r _ [78, 1, 79, 30, 31, 32, 80, 19, 20, 21, 22, 23, 24, 25, 26, 27, 28, 29, 33, 34, 35, 36, 37, 38, 39, 40, 41, 42, 43, 44, 45, 46, 47, 48, 49, 50, 51, 52, 53, 54, 55, 56, 57, 58, 59, 60, 61, 62, 63, 64, 65, 66, 67, 68, 69, 70, 71, 72, 73, 74, 81, 82, 83, 84, 85, 86, 87, 88, 89, 90, 91, 92, 93, 94, 95, 96, 97, 98, 99, 100, 101, 102, 103, 104, 105, 106, 107, 108, 114, 115, 116, 117, 118] (by decide +kernel) (by decide +kernel)
set_option maxRecDepth 20000 in
theorem gX9_bestAsk_X9_leftAtWorst : GoodIn wsX9_bestAsk (wsV RX9 250 RX9 yX9_leftAtWorst wsX9_leftAtWorst) := goodIn_app (goodIn_of _ (by decide +kernel)) ggX9_bestAsk_X9_leftAtWorst
theorem dX9_bestAsk_0 : decode cX9_bestAsk 0 = .ok (.aload_n 0, 1) := by decide +kernel
theorem dX9_bestAsk_1 : decode cX9_bestAsk 1 = .ok (.iload_n 1, 1) := by decide +kernel
theorem dX9_bestAsk_2 : decode cX9_bestAsk 2 = .ok (.invokevirtual 135, 3) := by decide +kernel
theorem dX9_bestAsk_5 : decode cX9_bestAsk 5 = .ok (.istore_n 2, 1) := by decide +kernel
theorem dX9_bestAsk_6 : decode cX9_bestAsk 6 = .ok (.iload_n 2, 1) := by decide +kernel
theorem dX9_bestAsk_7 : decode cX9_bestAsk 7 = .ok (.ifCond .ne 5, 3) := by decide +kernel
theorem dX9_bestAsk_10 : decode cX9_bestAsk 10 = .ok (.iconst (-1), 1) := by decide +kernel
theorem dX9_bestAsk_11 : decode cX9_bestAsk 11 = .ok (.ireturn, 1) := by decide +kernel
theorem dX9_bestAsk_12 : decode cX9_bestAsk 12 = .ok (.iconst (-1), 1) := by decide +kernel
theorem dX9_bestAsk_13 : decode cX9_bestAsk 13 = .ok (.istore_n 3, 1) := by decide +kernel
theorem dX9_bestAsk_14 : decode cX9_bestAsk 14 = .ok (.iconst 5, 1) := by decide +kernel
theorem dX9_bestAsk_15 : decode cX9_bestAsk 15 = .ok (.istore 4, 2) := by decide +kernel
theorem dX9_bestAsk_17 : decode cX9_bestAsk 17 = .ok (.iconst 0, 1) := by decide +kernel
theorem dX9_bestAsk_18 : decode cX9_bestAsk 18 = .ok (.istore 5, 2) := by decide +kernel
theorem dX9_bestAsk_20 : decode cX9_bestAsk 20 = .ok (.iload 5, 2) := by decide +kernel
theorem dX9_bestAsk_22 : decode cX9_bestAsk 22 = .ok (.aload_n 0, 1) := by decide +kernel
theorem dX9_bestAsk_23 : decode cX9_bestAsk 23 = .ok (.getfield 41, 3) := by decide +kernel
theorem dX9_bestAsk_26 : decode cX9_bestAsk 26 = .ok (.getfield 84, 3) := by decide +kernel
theorem dX9_bestAsk_29 : decode cX9_bestAsk 29 = .ok (.if_icmp .ge 71, 3) := by decide +kernel
theorem dX9_bestAsk_32 : decode cX9_bestAsk 32 = .ok (.iconst 0, 1) := by decide +kernel
theorem dX9_bestAsk_33 : decode cX9_bestAsk 33 = .ok (.istore 6, 2) := by decide +kernel
theorem dX9_bestAsk_35 : decode cX9_bestAsk 35 = .ok (.iload 6, 2) := by decide +kernel
theorem dX9_bestAsk_37 : decode cX9_bestAsk 37 = .ok (.aload_n 0, 1) := by decide +kernel
theorem dX9_bestAsk_38 : decode cX9_bestAsk 38 = .ok (.getfield 41, 3) := by decide +kernel
theorem dX9_bestAsk_41 : decode cX9_bestAsk 41 = .ok (.getfield 84, 3) := by decide +kernel
theorem dX9_bestAsk_44 : decode cX9_bestAsk 44 = .ok (.if_icmp .ge 50, 3) := by decide +kernel
theorem dX9_bestAsk_47 : decode cX9_bestAsk 47 = .ok (.iload 5, 2) := by decide +kernel
theorem dX9_bestAsk_49 : decode cX9_bestAsk 49 = .ok (.iload 6, 2) := by decide +kernel
theorem dX9_bestAsk_51 : decode cX9_bestAsk 51 = .ok (.if_icmp .ne 7, 3) := by decide +kernel
theorem dX9_bestAsk_54 : decode cX9_bestAsk 54 = .ok (.iconst 5, 1) := by decide +kernel
theorem dX9_bestAsk_55 : decode cX9_bestAsk 55 = .ok (.goto 12, 3) := by decide +kernel
theorem dX9_bestAsk_58 : decode cX9_bestAsk 58 = .ok (.aload_n 0, 1) := by decide +kernel
theorem dX9_bestAsk_59 : decode cX9_bestAsk 59 = .ok (.iload_n 2, 1) := by decide +kernel
theorem dX9_bestAsk_60 : decode cX9_bestAsk 60 = .ok (.iload 5, 2) := by decide +kernel
theorem dX9_bestAsk_62 : decode cX9_bestAsk 62 = .ok (.iload 6, 2) := by decide +kernel
theorem dX9_bestAsk_64 : decode cX9_bestAsk 64 = .ok (.invokevirtual 250, 3) := by decide +kernel
theorem dX9_bestAsk_67 : decode cX9_bestAsk 67 = .ok (.istore 7, 2) := by decide +kernel
theorem dX9_bestAsk_69 : decode cX9_bestAsk 69 = .ok (.iload 7, 2) := by decide +kernel
theorem dX9_bestAsk_71 : decode cX9_bestAsk 71 = .ok (.iload 4, 2) := by decide +kernel
theorem dX9_bestAsk_73 : decode cX9_bestAsk 73 = .ok (.if_icmp .ge 15, 3) := by decide +kernel
theorem dX9_bestAsk_76 : decode cX9_bestAsk 76 = .ok (.iload 7, 2) := by decide +kernel
theorem dX9_bestAsk_78 : decode cX9_bestAsk 78 = .ok (.istore 4, 2) := by decide +kernel
theorem dX9_bestAsk_80 : decode cX9_bestAsk 80 = .ok (.iconst 4, 1) := by decide +kernel
theorem dX9_bestAsk_81 : decode cX9_bestAsk 81 = .ok (.iload 5, 2) := by decide +kernel
theorem dX9_bestAsk_83 : decode cX9_bestAsk 83 = .ok (.imul, 1) := by decide +kernel
theorem dX9_bestAsk_84 : decode cX9_bestAsk 84 = .ok (.iload 6, 2) := by decide +kernel
theorem dX9_bestAsk_86 : decode cX9_bestAsk 86 = .ok (.iadd, 1) := by decide +kernel
theorem dX9_bestAsk_87 : decode cX9_bestAsk 87 = .ok (.istore_n 3, 1) := by decide +kernel
theorem dX9_bestAsk_88 : decode cX9_bestAsk 88 = .ok (.iinc 6 1, 3) := by decide +kernel
theorem dX9_bestAsk_91 : decode cX9_bestAsk 91 = .ok (.goto (-56), 3) := by decide +kernel
theorem dX9_bestAsk_94 : decode cX9_bestAsk 94 = .ok (.iinc 5 1, 3) := by decide +kernel
theorem dX9_bestAsk_97 : decode cX9_bestAsk 97 = .ok (.goto (-77), 3) := by decide +kernel
theorem dX9_bestAsk_100 : decode cX9_bestAsk 100 = .ok (.iload_n 3, 1) := by decide +kernel
theorem dX9_bestAsk_101 : decode cX9_bestAsk 101 = .ok (.ireturn, 1) := by decide +kernel
set_option maxRecDepth 20000 in
theorem ggX9_leftAtWorst_X1_bad : GoodIn wsX9_leftAtWorst wsX1_bad := goodIn_r _ [10, 11, 12, 13, 14, 15, 16, 17, 3, 4, 5, 18, 19, 20, 9, 21, 22, 23, 24, 25, 26, 27, 28, 29, 30, 31, 32, 33, 34, 35, 36, 37, 38, 39, 40, 41, 42, 43, 44, 45, 46, 47, 48, 49, 50, 51, 52, 53, 54, 55, 56, 57, 58, 59, 78, 79, 80, 81, 82, 83, 84, 85, 86, 87, 88, 89, 90, 91, 92] (by decide +kernel) (by decide +kernel)
set_option maxRecDepth 20000 in
theorem gX9_leftAtWorst_X1_bad : GoodIn wsX9_leftAtWorst (wsV RX9 132 RX1 yX1_bad wsX1_bad) := goodIn_app (goodIn_of _ (by decide +kernel)) ggX9_leftAtWorst_X1_bad
set_option maxRecDepth 20000 in
theorem ggX9_leftAtWorst_J6_bitCount_0f7a4 : GoodIn wsX9_leftAtWorst wsJ6_bitCount_0f7a4 := goodIn_r _ [63, 64, 65, 66] (by decide +kernel) (by decide +kernel)
set_option maxRecDepth 20000 in
theorem gX9_leftAtWorst_J6_bitCount_0f7a4 : GoodIn wsX9_leftAtWorst (va_wsS RX9 254 yJ6_bitCount_0f7a4 wsJ6_bitCount_0f7a4) := goodIn_app (goodIn_of _ (by decide +kernel)) ggX9_leftAtWorst_J6_bitCount_0f7a4
theorem dX9_leftAtWorst_0 : decode cX9_leftAtWorst 0 = .ok (.iconst 0, 1) := by decide +kernel
theorem dX9_leftAtWorst_1 : decode cX9_leftAtWorst 1 = .ok (.istore 4, 2) := by decide +kernel
theorem dX9_leftAtWorst_3 : decode cX9_leftAtWorst 3 = .ok (.iconst 0, 1) := by decide +kernel
theorem dX9_leftAtWorst_4 : decode cX9_leftAtWorst 4 = .ok (.istore 5, 2) := by decide +kernel
theorem dX9_leftAtWorst_6 : decode cX9_leftAtWorst 6 = .ok (.iload 5, 2) := by decide +kernel
theorem dX9_leftAtWorst_8 : decode cX9_leftAtWorst 8 = .ok (.iconst 4, 1) := by decide +kernel
theorem dX9_leftAtWorst_9 : decode cX9_leftAtWorst 9 = .ok (.if_icmp .ge 41, 3) := by decide +kernel
theorem dX9_leftAtWorst_12 : decode cX9_leftAtWorst 12 = .ok (.aload_n 0, 1) := by decide +kernel
theorem dX9_leftAtWorst_13 : decode cX9_leftAtWorst 13 = .ok (.getfield 41, 3) := by decide +kernel
theorem dX9_leftAtWorst_16 : decode cX9_leftAtWorst 16 = .ok (.iload_n 2, 1) := by decide +kernel
theorem dX9_leftAtWorst_17 : decode cX9_leftAtWorst 17 = .ok (.iload 5, 2) := by decide +kernel
theorem dX9_leftAtWorst_19 : decode cX9_leftAtWorst 19 = .ok (.invokevirtual 132, 3) := by decide +kernel
theorem dX9_leftAtWorst_22 : decode cX9_leftAtWorst 22 = .ok (.aload_n 0, 1) := by decide +kernel
theorem dX9_leftAtWorst_23 : decode cX9_leftAtWorst 23 = .ok (.getfield 41, 3) := by decide +kernel
theorem dX9_leftAtWorst_26 : decode cX9_leftAtWorst 26 = .ok (.iload_n 3, 1) := by decide +kernel
theorem dX9_leftAtWorst_27 : decode cX9_leftAtWorst 27 = .ok (.iload 5, 2) := by decide +kernel
theorem dX9_leftAtWorst_29 : decode cX9_leftAtWorst 29 = .ok (.invokevirtual 132, 3) := by decide +kernel
theorem dX9_leftAtWorst_32 : decode cX9_leftAtWorst 32 = .ok (.if_icmp .le 12, 3) := by decide +kernel
theorem dX9_leftAtWorst_35 : decode cX9_leftAtWorst 35 = .ok (.iload 4, 2) := by decide +kernel
theorem dX9_leftAtWorst_37 : decode cX9_leftAtWorst 37 = .ok (.iconst 1, 1) := by decide +kernel
theorem dX9_leftAtWorst_38 : decode cX9_leftAtWorst 38 = .ok (.iload 5, 2) := by decide +kernel
theorem dX9_leftAtWorst_40 : decode cX9_leftAtWorst 40 = .ok (.ishl, 1) := by decide +kernel
theorem dX9_leftAtWorst_41 : decode cX9_leftAtWorst 41 = .ok (.ior, 1) := by decide +kernel
theorem dX9_leftAtWorst_42 : decode cX9_leftAtWorst 42 = .ok (.istore 4, 2) := by decide +kernel
theorem dX9_leftAtWorst_44 : decode cX9_leftAtWorst 44 = .ok (.iinc 5 1, 3) := by decide +kernel
theorem dX9_leftAtWorst_47 : decode cX9_leftAtWorst 47 = .ok (.goto (-41), 3) := by decide +kernel
theorem dX9_leftAtWorst_50 : decode cX9_leftAtWorst 50 = .ok (.iload_n 1, 1) := by decide +kernel
theorem dX9_leftAtWorst_51 : decode cX9_leftAtWorst 51 = .ok (.iload 4, 2) := by decide +kernel
theorem dX9_leftAtWorst_53 : decode cX9_leftAtWorst 53 = .ok (.iand, 1) := by decide +kernel
theorem dX9_leftAtWorst_54 : decode cX9_leftAtWorst 54 = .ok (.invokestatic 254, 3) := by decide +kernel
theorem dX9_leftAtWorst_57 : decode cX9_leftAtWorst 57 = .ok (.iload_n 1, 1) := by decide +kernel
theorem dX9_leftAtWorst_58 : decode cX9_leftAtWorst 58 = .ok (.iload 4, 2) := by decide +kernel
theorem dX9_leftAtWorst_60 : decode cX9_leftAtWorst 60 = .ok (.iconst (-1), 1) := by decide +kernel
theorem dX9_leftAtWorst_61 : decode cX9_leftAtWorst 61 = .ok (.ixor, 1) := by decide +kernel
theorem dX9_leftAtWorst_62 : decode cX9_leftAtWorst 62 = .ok (.iand, 1) := by decide +kernel
theorem dX9_leftAtWorst_63 : decode cX9_leftAtWorst 63 = .ok (.invokestatic 254, 3) := by decide +kernel
theorem dX9_leftAtWorst_66 : decode cX9_leftAtWorst 66 = .ok (.invokestatic 259, 3) := by decide +kernel
theorem dX9_leftAtWorst_69 : decode cX9_leftAtWorst 69 = .ok (.ireturn, 1) := by decide +kernel
theorem dX9_copyRow_0 : decode cX9_copyRow 0 = .ok (.aload_n 0, 1) := by decide +kernel
theorem dX9_copyRow_1 : decode cX9_copyRow 1 = .ok (.iconst 0, 1) := by decide +kernel
theorem dX9_copyRow_2 : decode cX9_copyRow 2 = .ok (.aload_n 1, 1) := by decide +kernel
theorem dX9_copyRow_3 : decode cX9_copyRow 3 = .ok (.iconst 0, 1) := by decide +kernel
theorem dX9_copyRow_4 : decode cX9_copyRow 4 = .ok (.aload_n 0, 1) := by decide +kernel
theorem dX9_copyRow_5 : decode cX9_copyRow 5 = .ok (.arraylength, 1) := by decide +kernel
theorem dX9_copyRow_6 : decode cX9_copyRow 6 = .ok (.aload_n 1, 1) := by decide +kernel
theorem dX9_copyRow_7 : decode cX9_copyRow 7 = .ok (.arraylength, 1) := by decide +kernel
theorem dX9_copyRow_8 : decode cX9_copyRow 8 = .ok (.invokestatic 264, 3) := by decide +kernel
theorem dX9_copyRow_11 : decode cX9_copyRow 11 = .ok (.invokestatic 267, 3) := by decide +kernel
theorem dX9_copyRow_14 : decode cX9_copyRow 14 = .ok (.return_, 1) := by decide +kernel
theorem dX9_nextSeed_0 : decode cX9_nextSeed 0 = .ok (.ldc2_w 273, 3) := by decide +kernel
theorem dX9_nextSeed_3 : decode cX9_nextSeed 3 = .ok (.iload_n 0, 1) := by decide +kernel
theorem dX9_nextSeed_4 : decode cX9_nextSeed 4 = .ok (.i2l, 1) := by decide +kernel
theorem dX9_nextSeed_5 : decode cX9_nextSeed 5 = .ok (.lmul, 1) := by decide +kernel
theorem dX9_nextSeed_6 : decode cX9_nextSeed 6 = .ok (.ldc2_w 275, 3) := by decide +kernel
theorem dX9_nextSeed_9 : decode cX9_nextSeed 9 = .ok (.ladd, 1) := by decide +kernel
theorem dX9_nextSeed_10 : decode cX9_nextSeed 10 = .ok (.ldc2_w 277, 3) := by decide +kernel
theorem dX9_nextSeed_13 : decode cX9_nextSeed 13 = .ok (.land, 1) := by decide +kernel
theorem dX9_nextSeed_14 : decode cX9_nextSeed 14 = .ok (.l2i, 1) := by decide +kernel
theorem dX9_nextSeed_15 : decode cX9_nextSeed 15 = .ok (.ireturn, 1) := by decide +kernel
theorem dX9_drawn_0 : decode cX9_drawn 0 = .ok (.iload_n 1, 1) := by decide +kernel
theorem dX9_drawn_1 : decode cX9_drawn 1 = .ok (.iconst 1, 1) := by decide +kernel
theorem dX9_drawn_2 : decode cX9_drawn 2 = .ok (.if_icmp .ge 7, 3) := by decide +kernel
theorem dX9_drawn_5 : decode cX9_drawn 5 = .ok (.iconst 0, 1) := by decide +kernel
theorem dX9_drawn_6 : decode cX9_drawn 6 = .ok (.goto 10, 3) := by decide +kernel
theorem dX9_drawn_9 : decode cX9_drawn 9 = .ok (.iload_n 0, 1) := by decide +kernel
theorem dX9_drawn_10 : decode cX9_drawn 10 = .ok (.ldc_w 279, 3) := by decide +kernel
theorem dX9_drawn_13 : decode cX9_drawn 13 = .ok (.idiv, 1) := by decide +kernel
theorem dX9_drawn_14 : decode cX9_drawn 14 = .ok (.iload_n 1, 1) := by decide +kernel
theorem dX9_drawn_15 : decode cX9_drawn 15 = .ok (.irem, 1) := by decide +kernel
theorem dX9_drawn_16 : decode cX9_drawn 16 = .ok (.ireturn, 1) := by decide +kernel
theorem dX10_init_0 : decode cX10_init 0 = .ok (.aload_n 0, 1) := by decide +kernel
theorem dX10_init_1 : decode cX10_init 1 = .ok (.invokespecial 1, 3) := by decide +kernel
theorem dX10_init_4 : decode cX10_init 4 = .ok (.aload_n 0, 1) := by decide +kernel
theorem dX10_init_5 : decode cX10_init 5 = .ok (.bipush 32, 2) := by decide +kernel
theorem dX10_init_7 : decode cX10_init 7 = .ok (.newarray .int, 2) := by decide +kernel
theorem dX10_init_9 : decode cX10_init 9 = .ok (.putfield 7, 3) := by decide +kernel
theorem dX10_init_12 : decode cX10_init 12 = .ok (.aload_n 0, 1) := by decide +kernel
theorem dX10_init_13 : decode cX10_init 13 = .ok (.bipush 20, 2) := by decide +kernel
theorem dX10_init_15 : decode cX10_init 15 = .ok (.newarray .int, 2) := by decide +kernel
theorem dX10_init_17 : decode cX10_init 17 = .ok (.putfield 13, 3) := by decide +kernel
theorem dX10_init_20 : decode cX10_init 20 = .ok (.aload_n 0, 1) := by decide +kernel
theorem dX10_init_21 : decode cX10_init 21 = .ok (.iconst 5, 1) := by decide +kernel
theorem dX10_init_22 : decode cX10_init 22 = .ok (.newarray .int, 2) := by decide +kernel
theorem dX10_init_24 : decode cX10_init 24 = .ok (.putfield 16, 3) := by decide +kernel
theorem dX10_init_27 : decode cX10_init 27 = .ok (.aload_n 0, 1) := by decide +kernel
theorem dX10_init_28 : decode cX10_init 28 = .ok (.bipush 32, 2) := by decide +kernel
theorem dX10_init_30 : decode cX10_init 30 = .ok (.newarray .int, 2) := by decide +kernel
theorem dX10_init_32 : decode cX10_init 32 = .ok (.putfield 19, 3) := by decide +kernel
theorem dX10_init_35 : decode cX10_init 35 = .ok (.aload_n 0, 1) := by decide +kernel
theorem dX10_init_36 : decode cX10_init 36 = .ok (.iconst 5, 1) := by decide +kernel
theorem dX10_init_37 : decode cX10_init 37 = .ok (.newarray .int, 2) := by decide +kernel
theorem dX10_init_39 : decode cX10_init 39 = .ok (.putfield 22, 3) := by decide +kernel
theorem dX10_init_42 : decode cX10_init 42 = .ok (.aload_n 0, 1) := by decide +kernel
theorem dX10_init_43 : decode cX10_init 43 = .ok (.iconst 4, 1) := by decide +kernel
theorem dX10_init_44 : decode cX10_init 44 = .ok (.newarray .int, 2) := by decide +kernel
theorem dX10_init_46 : decode cX10_init 46 = .ok (.putfield 25, 3) := by decide +kernel
theorem dX10_init_49 : decode cX10_init 49 = .ok (.aload_n 0, 1) := by decide +kernel
theorem dX10_init_50 : decode cX10_init 50 = .ok (.iconst 4, 1) := by decide +kernel
theorem dX10_init_51 : decode cX10_init 51 = .ok (.newarray .int, 2) := by decide +kernel
theorem dX10_init_53 : decode cX10_init 53 = .ok (.putfield 28, 3) := by decide +kernel
theorem dX10_init_56 : decode cX10_init 56 = .ok (.aload_n 0, 1) := by decide +kernel
theorem dX10_init_57 : decode cX10_init 57 = .ok (.bipush 32, 2) := by decide +kernel
theorem dX10_init_59 : decode cX10_init 59 = .ok (.newarray .int, 2) := by decide +kernel
theorem dX10_init_61 : decode cX10_init 61 = .ok (.putfield 31, 3) := by decide +kernel
theorem dX10_init_64 : decode cX10_init 64 = .ok (.aload_n 0, 1) := by decide +kernel
theorem dX10_init_65 : decode cX10_init 65 = .ok (.bipush 32, 2) := by decide +kernel
theorem dX10_init_67 : decode cX10_init 67 = .ok (.newarray .int, 2) := by decide +kernel
theorem dX10_init_69 : decode cX10_init 69 = .ok (.putfield 34, 3) := by decide +kernel
theorem dX10_init_72 : decode cX10_init 72 = .ok (.aload_n 0, 1) := by decide +kernel
theorem dX10_init_73 : decode cX10_init 73 = .ok (.bipush 32, 2) := by decide +kernel
theorem dX10_init_75 : decode cX10_init 75 = .ok (.newarray .int, 2) := by decide +kernel
theorem dX10_init_77 : decode cX10_init 77 = .ok (.putfield 37, 3) := by decide +kernel
theorem dX10_init_80 : decode cX10_init 80 = .ok (.aload_n 0, 1) := by decide +kernel
theorem dX10_init_81 : decode cX10_init 81 = .ok (.bipush 32, 2) := by decide +kernel
theorem dX10_init_83 : decode cX10_init 83 = .ok (.newarray .int, 2) := by decide +kernel
theorem dX10_init_85 : decode cX10_init 85 = .ok (.putfield 40, 3) := by decide +kernel
theorem dX10_init_88 : decode cX10_init 88 = .ok (.aload_n 0, 1) := by decide +kernel
theorem dX10_init_89 : decode cX10_init 89 = .ok (.iconst (-1), 1) := by decide +kernel
theorem dX10_init_90 : decode cX10_init 90 = .ok (.putfield 43, 3) := by decide +kernel
theorem dX10_init_93 : decode cX10_init 93 = .ok (.return_, 1) := by decide +kernel
theorem dX10_in_0 : decode cX10_in 0 = .ok (.lload_n 0, 1) := by decide +kernel
theorem dX10_in_1 : decode cX10_in 1 = .ok (.lload_n 2, 1) := by decide +kernel
theorem dX10_in_2 : decode cX10_in 2 = .ok (.lcmp, 1) := by decide +kernel
theorem dX10_in_3 : decode cX10_in 3 = .ok (.ifCond .lt 14, 3) := by decide +kernel
theorem dX10_in_6 : decode cX10_in 6 = .ok (.lload_n 0, 1) := by decide +kernel
theorem dX10_in_7 : decode cX10_in 7 = .ok (.lload 4, 2) := by decide +kernel
theorem dX10_in_9 : decode cX10_in 9 = .ok (.lcmp, 1) := by decide +kernel
theorem dX10_in_10 : decode cX10_in 10 = .ok (.ifCond .gt 7, 3) := by decide +kernel
theorem dX10_in_13 : decode cX10_in 13 = .ok (.iconst 1, 1) := by decide +kernel
theorem dX10_in_14 : decode cX10_in 14 = .ok (.goto 4, 3) := by decide +kernel
theorem dX10_in_17 : decode cX10_in 17 = .ok (.iconst 0, 1) := by decide +kernel
theorem dX10_in_18 : decode cX10_in 18 = .ok (.ireturn, 1) := by decide +kernel
theorem dX10_copy_0 : decode cX10_copy 0 = .ok (.iconst 0, 1) := by decide +kernel
theorem dX10_copy_1 : decode cX10_copy 1 = .ok (.istore_n 2, 1) := by decide +kernel
theorem dX10_copy_2 : decode cX10_copy 2 = .ok (.iload_n 2, 1) := by decide +kernel
theorem dX10_copy_3 : decode cX10_copy 3 = .ok (.aload_n 0, 1) := by decide +kernel
theorem dX10_copy_4 : decode cX10_copy 4 = .ok (.arraylength, 1) := by decide +kernel
theorem dX10_copy_5 : decode cX10_copy 5 = .ok (.if_icmp .ge 15, 3) := by decide +kernel
theorem dX10_copy_8 : decode cX10_copy 8 = .ok (.aload_n 1, 1) := by decide +kernel
theorem dX10_copy_9 : decode cX10_copy 9 = .ok (.iload_n 2, 1) := by decide +kernel
theorem dX10_copy_10 : decode cX10_copy 10 = .ok (.aload_n 0, 1) := by decide +kernel
theorem dX10_copy_11 : decode cX10_copy 11 = .ok (.iload_n 2, 1) := by decide +kernel
theorem dX10_copy_12 : decode cX10_copy 12 = .ok (.iaload, 1) := by decide +kernel
theorem dX10_copy_13 : decode cX10_copy 13 = .ok (.iastore, 1) := by decide +kernel
theorem dX10_copy_14 : decode cX10_copy 14 = .ok (.iinc 2 1, 3) := by decide +kernel
theorem dX10_copy_17 : decode cX10_copy 17 = .ok (.goto (-15), 3) := by decide +kernel
theorem dX10_copy_20 : decode cX10_copy 20 = .ok (.return_, 1) := by decide +kernel
set_option maxRecDepth 20000 in
theorem ggX10_letter_X10_in : GoodIn wsX10_letter wsX10_in := goodIn_r _ [7] (by decide +kernel) (by decide +kernel)
set_option maxRecDepth 20000 in
theorem gX10_letter_X10_in : GoodIn wsX10_letter (va_wsS RX10 49 yX10_in wsX10_in) := goodIn_app (goodIn_of _ (by decide +kernel)) ggX10_letter_X10_in
theorem dX10_letter_0 : decode cX10_letter 0 = .ok (.iload_n 1, 1) := by decide +kernel
theorem dX10_letter_1 : decode cX10_letter 1 = .ok (.i2l, 1) := by decide +kernel
theorem dX10_letter_2 : decode cX10_letter 2 = .ok (.lconst 1, 1) := by decide +kernel
theorem dX10_letter_3 : decode cX10_letter 3 = .ok (.ldc2_w 47, 3) := by decide +kernel
theorem dX10_letter_6 : decode cX10_letter 6 = .ok (.invokestatic 49, 3) := by decide +kernel
theorem dX10_letter_9 : decode cX10_letter 9 = .ok (.ifCond .ne 6, 3) := by decide +kernel
theorem dX10_letter_12 : decode cX10_letter 12 = .ok (.bipush (-102), 2) := by decide +kernel
theorem dX10_letter_14 : decode cX10_letter 14 = .ok (.ireturn, 1) := by decide +kernel
theorem dX10_letter_15 : decode cX10_letter 15 = .ok (.aload_n 0, 1) := by decide +kernel
theorem dX10_letter_16 : decode cX10_letter 16 = .ok (.getfield 53, 3) := by decide +kernel
theorem dX10_letter_19 : decode cX10_letter 19 = .ok (.bipush 32, 2) := by decide +kernel
theorem dX10_letter_21 : decode cX10_letter 21 = .ok (.if_icmp .ne 6, 3) := by decide +kernel
theorem dX10_letter_24 : decode cX10_letter 24 = .ok (.bipush (-104), 2) := by decide +kernel
theorem dX10_letter_26 : decode cX10_letter 26 = .ok (.ireturn, 1) := by decide +kernel
theorem dX10_letter_27 : decode cX10_letter 27 = .ok (.aload_n 0, 1) := by decide +kernel
theorem dX10_letter_28 : decode cX10_letter 28 = .ok (.getfield 7, 3) := by decide +kernel
theorem dX10_letter_31 : decode cX10_letter 31 = .ok (.aload_n 0, 1) := by decide +kernel
theorem dX10_letter_32 : decode cX10_letter 32 = .ok (.getfield 53, 3) := by decide +kernel
theorem dX10_letter_35 : decode cX10_letter 35 = .ok (.iload_n 1, 1) := by decide +kernel
theorem dX10_letter_36 : decode cX10_letter 36 = .ok (.iastore, 1) := by decide +kernel
theorem dX10_letter_37 : decode cX10_letter 37 = .ok (.aload_n 0, 1) := by decide +kernel
theorem dX10_letter_38 : decode cX10_letter 38 = .ok (.dup, 1) := by decide +kernel
theorem dX10_letter_39 : decode cX10_letter 39 = .ok (.getfield 53, 3) := by decide +kernel
theorem dX10_letter_42 : decode cX10_letter 42 = .ok (.iconst 1, 1) := by decide +kernel
theorem dX10_letter_43 : decode cX10_letter 43 = .ok (.iadd, 1) := by decide +kernel
theorem dX10_letter_44 : decode cX10_letter 44 = .ok (.putfield 53, 3) := by decide +kernel
theorem dX10_letter_47 : decode cX10_letter 47 = .ok (.aload_n 0, 1) := by decide +kernel
theorem dX10_letter_48 : decode cX10_letter 48 = .ok (.getfield 53, 3) := by decide +kernel
theorem dX10_letter_51 : decode cX10_letter 51 = .ok (.ireturn, 1) := by decide +kernel
theorem dX10_blank_0 : decode cX10_blank 0 = .ok (.aload_n 0, 1) := by decide +kernel
theorem dX10_blank_1 : decode cX10_blank 1 = .ok (.getfield 53, 3) := by decide +kernel
theorem dX10_blank_4 : decode cX10_blank 4 = .ok (.istore_n 1, 1) := by decide +kernel
theorem dX10_blank_5 : decode cX10_blank 5 = .ok (.aload_n 0, 1) := by decide +kernel
theorem dX10_blank_6 : decode cX10_blank 6 = .ok (.iconst 0, 1) := by decide +kernel
theorem dX10_blank_7 : decode cX10_blank 7 = .ok (.putfield 53, 3) := by decide +kernel
theorem dX10_blank_10 : decode cX10_blank 10 = .ok (.iload_n 1, 1) := by decide +kernel
theorem dX10_blank_11 : decode cX10_blank 11 = .ok (.ireturn, 1) := by decide +kernel
theorem dX10_kindBy_0 : decode cX10_kindBy 0 = .ok (.iload_n 0, 1) := by decide +kernel
theorem dX10_kindBy_1 : decode cX10_kindBy 1 = .ok (.bipush 115, 2) := by decide +kernel
theorem dX10_kindBy_3 : decode cX10_kindBy 3 = .ok (.if_icmp .ne 7, 3) := by decide +kernel
theorem dX10_kindBy_6 : decode cX10_kindBy 6 = .ok (.iconst 0, 1) := by decide +kernel
theorem dX10_kindBy_7 : decode cX10_kindBy 7 = .ok (.goto 44, 3) := by decide +kernel
theorem dX10_kindBy_10 : decode cX10_kindBy 10 = .ok (.iload_n 0, 1) := by decide +kernel
theorem dX10_kindBy_11 : decode cX10_kindBy 11 = .ok (.bipush 116, 2) := by decide +kernel
theorem dX10_kindBy_13 : decode cX10_kindBy 13 = .ok (.if_icmp .ne 7, 3) := by decide +kernel
theorem dX10_kindBy_16 : decode cX10_kindBy 16 = .ok (.iconst 1, 1) := by decide +kernel
theorem dX10_kindBy_17 : decode cX10_kindBy 17 = .ok (.goto 34, 3) := by decide +kernel
theorem dX10_kindBy_20 : decode cX10_kindBy 20 = .ok (.iload_n 0, 1) := by decide +kernel
theorem dX10_kindBy_21 : decode cX10_kindBy 21 = .ok (.bipush 98, 2) := by decide +kernel
theorem dX10_kindBy_23 : decode cX10_kindBy 23 = .ok (.if_icmp .ne 7, 3) := by decide +kernel
theorem dX10_kindBy_26 : decode cX10_kindBy 26 = .ok (.iconst 2, 1) := by decide +kernel
theorem dX10_kindBy_27 : decode cX10_kindBy 27 = .ok (.goto 24, 3) := by decide +kernel
theorem dX10_kindBy_30 : decode cX10_kindBy 30 = .ok (.iload_n 0, 1) := by decide +kernel
theorem dX10_kindBy_31 : decode cX10_kindBy 31 = .ok (.bipush 100, 2) := by decide +kernel
theorem dX10_kindBy_33 : decode cX10_kindBy 33 = .ok (.if_icmp .ne 7, 3) := by decide +kernel
theorem dX10_kindBy_36 : decode cX10_kindBy 36 = .ok (.iconst 3, 1) := by decide +kernel
theorem dX10_kindBy_37 : decode cX10_kindBy 37 = .ok (.goto 14, 3) := by decide +kernel
theorem dX10_kindBy_40 : decode cX10_kindBy 40 = .ok (.iload_n 0, 1) := by decide +kernel
theorem dX10_kindBy_41 : decode cX10_kindBy 41 = .ok (.bipush 99, 2) := by decide +kernel
theorem dX10_kindBy_43 : decode cX10_kindBy 43 = .ok (.if_icmp .ne 7, 3) := by decide +kernel
theorem dX10_kindBy_46 : decode cX10_kindBy 46 = .ok (.iconst 4, 1) := by decide +kernel
theorem dX10_kindBy_47 : decode cX10_kindBy 47 = .ok (.goto 4, 3) := by decide +kernel
theorem dX10_kindBy_50 : decode cX10_kindBy 50 = .ok (.iconst (-1), 1) := by decide +kernel
theorem dX10_kindBy_51 : decode cX10_kindBy 51 = .ok (.ireturn, 1) := by decide +kernel
set_option maxRecDepth 20000 in
theorem ggX10_go_X10_kindBy : GoodIn wsX10_go wsX10_kindBy := goodIn_r _ [11] (by decide +kernel) (by decide +kernel)
set_option maxRecDepth 20000 in
theorem gX10_go_X10_kindBy : GoodIn wsX10_go (va_wsS RX10 62 yX10_kindBy wsX10_kindBy) := goodIn_app (goodIn_of _ (by decide +kernel)) ggX10_go_X10_kindBy
set_option maxRecDepth 20000 in
theorem ggX10_go_X10_in : GoodIn wsX10_go wsX10_in := goodIn_r _ [14] (by decide +kernel) (by decide +kernel)
set_option maxRecDepth 20000 in
theorem gX10_go_X10_in : GoodIn wsX10_go (va_wsS RX10 49 yX10_in wsX10_in) := goodIn_app (goodIn_of _ (by decide +kernel)) ggX10_go_X10_in
theorem dX10_go_0 : decode cX10_go 0 = .ok (.iload_n 1, 1) := by decide +kernel
theorem dX10_go_1 : decode cX10_go 1 = .ok (.bipush 48, 2) := by decide +kernel
theorem dX10_go_3 : decode cX10_go 3 = .ok (.isub, 1) := by decide +kernel
theorem dX10_go_4 : decode cX10_go 4 = .ok (.istore_n 2, 1) := by decide +kernel
theorem dX10_go_5 : decode cX10_go 5 = .ok (.aload_n 0, 1) := by decide +kernel
theorem dX10_go_6 : decode cX10_go 6 = .ok (.getfield 56, 3) := by decide +kernel
theorem dX10_go_9 : decode cX10_go 9 = .ok (.ifCond .ne 37, 3) := by decide +kernel
theorem dX10_go_12 : decode cX10_go 12 = .ok (.aload_n 0, 1) := by decide +kernel
theorem dX10_go_13 : decode cX10_go 13 = .ok (.getfield 13, 3) := by decide +kernel
theorem dX10_go_16 : decode cX10_go 16 = .ok (.iconst 5, 1) := by decide +kernel
theorem dX10_go_17 : decode cX10_go 17 = .ok (.aload_n 0, 1) := by decide +kernel
theorem dX10_go_18 : decode cX10_go 18 = .ok (.getfield 59, 3) := by decide +kernel
theorem dX10_go_21 : decode cX10_go 21 = .ok (.imul, 1) := by decide +kernel
theorem dX10_go_22 : decode cX10_go 22 = .ok (.iload_n 1, 1) := by decide +kernel
theorem dX10_go_23 : decode cX10_go 23 = .ok (.invokestatic 62, 3) := by decide +kernel
theorem dX10_go_26 : decode cX10_go 26 = .ok (.iastore, 1) := by decide +kernel
theorem dX10_go_27 : decode cX10_go 27 = .ok (.aload_n 0, 1) := by decide +kernel
theorem dX10_go_28 : decode cX10_go 28 = .ok (.iconst 1, 1) := by decide +kernel
theorem dX10_go_29 : decode cX10_go 29 = .ok (.putfield 56, 3) := by decide +kernel
theorem dX10_go_32 : decode cX10_go 32 = .ok (.iload_n 1, 1) := by decide +kernel
theorem dX10_go_33 : decode cX10_go 33 = .ok (.invokestatic 62, 3) := by decide +kernel
theorem dX10_go_36 : decode cX10_go 36 = .ok (.iconst (-1), 1) := by decide +kernel
theorem dX10_go_37 : decode cX10_go 37 = .ok (.if_icmp .eq 7, 3) := by decide +kernel
theorem dX10_go_40 : decode cX10_go 40 = .ok (.iconst 1, 1) := by decide +kernel
theorem dX10_go_41 : decode cX10_go 41 = .ok (.goto 4, 3) := by decide +kernel
theorem dX10_go_44 : decode cX10_go 44 = .ok (.iconst 0, 1) := by decide +kernel
theorem dX10_go_45 : decode cX10_go 45 = .ok (.ireturn, 1) := by decide +kernel
theorem dX10_go_46 : decode cX10_go 46 = .ok (.aload_n 0, 1) := by decide +kernel
theorem dX10_go_47 : decode cX10_go 47 = .ok (.getfield 56, 3) := by decide +kernel
theorem dX10_go_50 : decode cX10_go 50 = .ok (.iconst 5, 1) := by decide +kernel
theorem dX10_go_51 : decode cX10_go 51 = .ok (.if_icmp .ge 62, 3) := by decide +kernel
theorem dX10_go_54 : decode cX10_go 54 = .ok (.aload_n 0, 1) := by decide +kernel
theorem dX10_go_55 : decode cX10_go 55 = .ok (.getfield 13, 3) := by decide +kernel
theorem dX10_go_58 : decode cX10_go 58 = .ok (.iconst 5, 1) := by decide +kernel
theorem dX10_go_59 : decode cX10_go 59 = .ok (.aload_n 0, 1) := by decide +kernel
theorem dX10_go_60 : decode cX10_go 60 = .ok (.getfield 59, 3) := by decide +kernel
theorem dX10_go_63 : decode cX10_go 63 = .ok (.imul, 1) := by decide +kernel
theorem dX10_go_64 : decode cX10_go 64 = .ok (.aload_n 0, 1) := by decide +kernel
theorem dX10_go_65 : decode cX10_go 65 = .ok (.getfield 56, 3) := by decide +kernel
theorem dX10_go_68 : decode cX10_go 68 = .ok (.iadd, 1) := by decide +kernel
theorem dX10_go_69 : decode cX10_go 69 = .ok (.iload_n 2, 1) := by decide +kernel
theorem dX10_go_70 : decode cX10_go 70 = .ok (.iastore, 1) := by decide +kernel
theorem dX10_go_71 : decode cX10_go 71 = .ok (.aload_n 0, 1) := by decide +kernel
theorem dX10_go_72 : decode cX10_go 72 = .ok (.dup, 1) := by decide +kernel
theorem dX10_go_73 : decode cX10_go 73 = .ok (.getfield 56, 3) := by decide +kernel
theorem dX10_go_76 : decode cX10_go 76 = .ok (.iconst 1, 1) := by decide +kernel
theorem dX10_go_77 : decode cX10_go 77 = .ok (.iadd, 1) := by decide +kernel
theorem dX10_go_78 : decode cX10_go 78 = .ok (.putfield 56, 3) := by decide +kernel
theorem dX10_go_81 : decode cX10_go 81 = .ok (.aload_n 0, 1) := by decide +kernel
theorem dX10_go_82 : decode cX10_go 82 = .ok (.dup, 1) := by decide +kernel
theorem dX10_go_83 : decode cX10_go 83 = .ok (.getfield 59, 3) := by decide +kernel
theorem dX10_go_86 : decode cX10_go 86 = .ok (.aload_n 0, 1) := by decide +kernel
theorem dX10_go_87 : decode cX10_go 87 = .ok (.getfield 56, 3) := by decide +kernel
theorem dX10_go_90 : decode cX10_go 90 = .ok (.iconst 5, 1) := by decide +kernel
theorem dX10_go_91 : decode cX10_go 91 = .ok (.if_icmp .ne 7, 3) := by decide +kernel
theorem dX10_go_94 : decode cX10_go 94 = .ok (.iconst 1, 1) := by decide +kernel
theorem dX10_go_95 : decode cX10_go 95 = .ok (.goto 4, 3) := by decide +kernel
theorem dX10_go_98 : decode cX10_go 98 = .ok (.iconst 0, 1) := by decide +kernel
theorem dX10_go_99 : decode cX10_go 99 = .ok (.iadd, 1) := by decide +kernel
theorem dX10_go_100 : decode cX10_go 100 = .ok (.putfield 59, 3) := by decide +kernel
theorem dX10_go_103 : decode cX10_go 103 = .ok (.iload_n 2, 1) := by decide +kernel
theorem dX10_go_104 : decode cX10_go 104 = .ok (.i2l, 1) := by decide +kernel
theorem dX10_go_105 : decode cX10_go 105 = .ok (.lconst 0, 1) := by decide +kernel
theorem dX10_go_106 : decode cX10_go 106 = .ok (.ldc2_w 66, 3) := by decide +kernel
theorem dX10_go_109 : decode cX10_go 109 = .ok (.invokestatic 49, 3) := by decide +kernel
theorem dX10_go_112 : decode cX10_go 112 = .ok (.ireturn, 1) := by decide +kernel
theorem dX10_go_113 : decode cX10_go 113 = .ok (.aload_n 0, 1) := by decide +kernel
theorem dX10_go_114 : decode cX10_go 114 = .ok (.getfield 56, 3) := by decide +kernel
theorem dX10_go_117 : decode cX10_go 117 = .ok (.iconst 5, 1) := by decide +kernel
theorem dX10_go_118 : decode cX10_go 118 = .ok (.if_icmp .ne 61, 3) := by decide +kernel
theorem dX10_go_121 : decode cX10_go 121 = .ok (.aload_n 0, 1) := by decide +kernel
theorem dX10_go_122 : decode cX10_go 122 = .ok (.iload_n 1, 1) := by decide +kernel
theorem dX10_go_123 : decode cX10_go 123 = .ok (.bipush 44, 2) := by decide +kernel
theorem dX10_go_125 : decode cX10_go 125 = .ok (.if_icmp .ne 7, 3) := by decide +kernel
theorem dX10_go_128 : decode cX10_go 128 = .ok (.iconst 0, 1) := by decide +kernel
theorem dX10_go_129 : decode cX10_go 129 = .ok (.goto 5, 3) := by decide +kernel
theorem dX10_go_132 : decode cX10_go 132 = .ok (.bipush 6, 2) := by decide +kernel
theorem dX10_go_134 : decode cX10_go 134 = .ok (.putfield 56, 3) := by decide +kernel
theorem dX10_go_137 : decode cX10_go 137 = .ok (.iload_n 1, 1) := by decide +kernel
theorem dX10_go_138 : decode cX10_go 138 = .ok (.bipush 44, 2) := by decide +kernel
theorem dX10_go_140 : decode cX10_go 140 = .ok (.if_icmp .ne 19, 3) := by decide +kernel
theorem dX10_go_143 : decode cX10_go 143 = .ok (.aload_n 0, 1) := by decide +kernel
theorem dX10_go_144 : decode cX10_go 144 = .ok (.getfield 59, 3) := by decide +kernel
theorem dX10_go_147 : decode cX10_go 147 = .ok (.iconst 4, 1) := by decide +kernel
theorem dX10_go_148 : decode cX10_go 148 = .ok (.if_icmp .ge 7, 3) := by decide +kernel
theorem dX10_go_151 : decode cX10_go 151 = .ok (.iconst 1, 1) := by decide +kernel
theorem dX10_go_152 : decode cX10_go 152 = .ok (.goto 26, 3) := by decide +kernel
theorem dX10_go_155 : decode cX10_go 155 = .ok (.iconst 0, 1) := by decide +kernel
theorem dX10_go_156 : decode cX10_go 156 = .ok (.goto 22, 3) := by decide +kernel
theorem dX10_go_159 : decode cX10_go 159 = .ok (.iload_n 1, 1) := by decide +kernel
theorem dX10_go_160 : decode cX10_go 160 = .ok (.bipush 59, 2) := by decide +kernel
theorem dX10_go_162 : decode cX10_go 162 = .ok (.if_icmp .ne 15, 3) := by decide +kernel
theorem dX10_go_165 : decode cX10_go 165 = .ok (.aload_n 0, 1) := by decide +kernel
theorem dX10_go_166 : decode cX10_go 166 = .ok (.getfield 59, 3) := by decide +kernel
theorem dX10_go_169 : decode cX10_go 169 = .ok (.iconst 1, 1) := by decide +kernel
theorem dX10_go_170 : decode cX10_go 170 = .ok (.if_icmp .le 7, 3) := by decide +kernel
theorem dX10_go_173 : decode cX10_go 173 = .ok (.iconst 1, 1) := by decide +kernel
theorem dX10_go_174 : decode cX10_go 174 = .ok (.goto 4, 3) := by decide +kernel
theorem dX10_go_177 : decode cX10_go 177 = .ok (.iconst 0, 1) := by decide +kernel
theorem dX10_go_178 : decode cX10_go 178 = .ok (.ireturn, 1) := by decide +kernel
theorem dX10_go_179 : decode cX10_go 179 = .ok (.aload_n 0, 1) := by decide +kernel
theorem dX10_go_180 : decode cX10_go 180 = .ok (.getfield 68, 3) := by decide +kernel
theorem dX10_go_183 : decode cX10_go 183 = .ok (.iconst 5, 1) := by decide +kernel
theorem dX10_go_184 : decode cX10_go 184 = .ok (.if_icmp .eq 15, 3) := by decide +kernel
theorem dX10_go_187 : decode cX10_go 187 = .ok (.iload_n 2, 1) := by decide +kernel
theorem dX10_go_188 : decode cX10_go 188 = .ok (.i2l, 1) := by decide +kernel
theorem dX10_go_189 : decode cX10_go 189 = .ok (.lconst 0, 1) := by decide +kernel
theorem dX10_go_190 : decode cX10_go 190 = .ok (.ldc2_w 71, 3) := by decide +kernel
theorem dX10_go_193 : decode cX10_go 193 = .ok (.invokestatic 49, 3) := by decide +kernel
theorem dX10_go_196 : decode cX10_go 196 = .ok (.ifCond .ne 5, 3) := by decide +kernel
theorem dX10_go_199 : decode cX10_go 199 = .ok (.iconst 0, 1) := by decide +kernel
theorem dX10_go_200 : decode cX10_go 200 = .ok (.ireturn, 1) := by decide +kernel
theorem dX10_go_201 : decode cX10_go 201 = .ok (.aload_n 0, 1) := by decide +kernel
theorem dX10_go_202 : decode cX10_go 202 = .ok (.getfield 16, 3) := by decide +kernel
theorem dX10_go_205 : decode cX10_go 205 = .ok (.aload_n 0, 1) := by decide +kernel
theorem dX10_go_206 : decode cX10_go 206 = .ok (.getfield 68, 3) := by decide +kernel
theorem dX10_go_209 : decode cX10_go 209 = .ok (.iload_n 2, 1) := by decide +kernel
theorem dX10_go_210 : decode cX10_go 210 = .ok (.iastore, 1) := by decide +kernel
theorem dX10_go_211 : decode cX10_go 211 = .ok (.aload_n 0, 1) := by decide +kernel
theorem dX10_go_212 : decode cX10_go 212 = .ok (.dup, 1) := by decide +kernel
theorem dX10_go_213 : decode cX10_go 213 = .ok (.getfield 68, 3) := by decide +kernel
theorem dX10_go_216 : decode cX10_go 216 = .ok (.iconst 1, 1) := by decide +kernel
theorem dX10_go_217 : decode cX10_go 217 = .ok (.iadd, 1) := by decide +kernel
theorem dX10_go_218 : decode cX10_go 218 = .ok (.putfield 68, 3) := by decide +kernel
theorem dX10_go_221 : decode cX10_go 221 = .ok (.iconst 1, 1) := by decide +kernel
theorem dX10_go_222 : decode cX10_go 222 = .ok (.ireturn, 1) := by decide +kernel
set_option maxRecDepth 20000 in
theorem ggX10_faultOf_X10_go : GoodIn wsX10_faultOf wsX10_go := goodIn_r _ [10, 3, 11, 1, 12, 2, 13, 14, 15, 16, 9, 17, 18, 19, 20, 21, 22, 23, 24, 25, 26, 27, 28, 29, 30, 31, 32, 33, 34, 35, 36, 37, 38, 39, 40, 41, 42, 43, 44, 45, 46] (by decide +kernel) (by decide +kernel)
set_option maxRecDepth 20000 in
theorem gX10_faultOf_X10_go : GoodIn wsX10_faultOf (wsV RX10 73 RX10 yX10_go wsX10_go) := goodIn_app (goodIn_of _ (by decide +kernel)) ggX10_faultOf_X10_go
theorem dX10_faultOf_0 : decode cX10_faultOf 0 = .ok (.aload_n 0, 1) := by decide +kernel
theorem dX10_faultOf_1 : decode cX10_faultOf 1 = .ok (.iconst 0, 1) := by decide +kernel
theorem dX10_faultOf_2 : decode cX10_faultOf 2 = .ok (.putfield 59, 3) := by decide +kernel
theorem dX10_faultOf_5 : decode cX10_faultOf 5 = .ok (.aload_n 0, 1) := by decide +kernel
theorem dX10_faultOf_6 : decode cX10_faultOf 6 = .ok (.iconst 0, 1) := by decide +kernel
theorem dX10_faultOf_7 : decode cX10_faultOf 7 = .ok (.putfield 68, 3) := by decide +kernel
theorem dX10_faultOf_10 : decode cX10_faultOf 10 = .ok (.aload_n 0, 1) := by decide +kernel
theorem dX10_faultOf_11 : decode cX10_faultOf 11 = .ok (.iconst 0, 1) := by decide +kernel
theorem dX10_faultOf_12 : decode cX10_faultOf 12 = .ok (.putfield 56, 3) := by decide +kernel
theorem dX10_faultOf_15 : decode cX10_faultOf 15 = .ok (.iconst 0, 1) := by decide +kernel
theorem dX10_faultOf_16 : decode cX10_faultOf 16 = .ok (.istore_n 1, 1) := by decide +kernel
theorem dX10_faultOf_17 : decode cX10_faultOf 17 = .ok (.iload_n 1, 1) := by decide +kernel
theorem dX10_faultOf_18 : decode cX10_faultOf 18 = .ok (.aload_n 0, 1) := by decide +kernel
theorem dX10_faultOf_19 : decode cX10_faultOf 19 = .ok (.getfield 53, 3) := by decide +kernel
theorem dX10_faultOf_22 : decode cX10_faultOf 22 = .ok (.if_icmp .ge 22, 3) := by decide +kernel
theorem dX10_faultOf_25 : decode cX10_faultOf 25 = .ok (.aload_n 0, 1) := by decide +kernel
theorem dX10_faultOf_26 : decode cX10_faultOf 26 = .ok (.aload_n 0, 1) := by decide +kernel
theorem dX10_faultOf_27 : decode cX10_faultOf 27 = .ok (.getfield 7, 3) := by decide +kernel
theorem dX10_faultOf_30 : decode cX10_faultOf 30 = .ok (.iload_n 1, 1) := by decide +kernel
theorem dX10_faultOf_31 : decode cX10_faultOf 31 = .ok (.iaload, 1) := by decide +kernel
theorem dX10_faultOf_32 : decode cX10_faultOf 32 = .ok (.invokevirtual 73, 3) := by decide +kernel
theorem dX10_faultOf_35 : decode cX10_faultOf 35 = .ok (.ifCond .eq 9, 3) := by decide +kernel
theorem dX10_faultOf_38 : decode cX10_faultOf 38 = .ok (.iinc 1 1, 3) := by decide +kernel
theorem dX10_faultOf_41 : decode cX10_faultOf 41 = .ok (.goto (-24), 3) := by decide +kernel
theorem dX10_faultOf_44 : decode cX10_faultOf 44 = .ok (.iload_n 1, 1) := by decide +kernel
theorem dX10_faultOf_45 : decode cX10_faultOf 45 = .ok (.ireturn, 1) := by decide +kernel
set_option maxRecDepth 20000 in
theorem ggX10_fault_X10_faultOf : GoodIn wsX10_fault wsX10_faultOf := goodIn_r _ [5, 6, 7, 8, 9, 10, 11, 12, 13, 4, 14, 15, 16, 17, 18, 19, 20, 21, 22, 23, 24, 25, 26, 27, 28, 29, 30, 31, 32, 33, 34, 35, 36, 37, 38, 39, 40, 41, 42, 43, 44, 45, 46, 47, 48, 49, 50] (by decide +kernel) (by decide +kernel)
set_option maxRecDepth 20000 in
theorem gX10_fault_X10_faultOf : GoodIn wsX10_fault (wsV RX10 77 RX10 yX10_faultOf wsX10_faultOf) := goodIn_app (goodIn_of _ (by decide +kernel)) ggX10_fault_X10_faultOf
theorem dX10_fault_0 : decode cX10_fault 0 = .ok (.aload_n 0, 1) := by decide +kernel
theorem dX10_fault_1 : decode cX10_fault 1 = .ok (.invokevirtual 77, 3) := by decide +kernel
theorem dX10_fault_4 : decode cX10_fault 4 = .ok (.ireturn, 1) := by decide +kernel
set_option maxRecDepth 20000 in
theorem ggX10_town_X10_faultOf : GoodIn wsX10_town wsX10_faultOf := goodIn_r _ [18, 4, 3, 2, 1, 19, 20, 21, 22, 17, 23, 10, 24, 25, 7, 26, 27, 28, 29, 30, 31, 35, 36, 37, 38, 39, 40, 41, 42, 43, 44, 45, 46, 47, 48, 49, 50, 51, 52, 53, 54, 55, 56, 57, 58, 59, 60] (by decide +kernel) (by decide +kernel)
set_option maxRecDepth 20000 in
theorem gX10_town_X10_faultOf : GoodIn wsX10_town (wsV RX10 77 RX10 yX10_faultOf wsX10_faultOf) := goodIn_app (goodIn_of _ (by decide +kernel)) ggX10_town_X10_faultOf
set_option maxRecDepth 20000 in
theorem ggX10_town_X10_copy : GoodIn wsX10_town wsX10_copy := goodIn_r _ [34] (by decide +kernel) (by decide +kernel)
set_option maxRecDepth 20000 in
theorem gX10_town_X10_copy : GoodIn wsX10_town (va_wsS RX10 87 yX10_copy wsX10_copy) := goodIn_app (goodIn_of _ (by decide +kernel)) ggX10_town_X10_copy
theorem dX10_town_0 : decode cX10_town 0 = .ok (.aload_n 0, 1) := by decide +kernel
theorem dX10_town_1 : decode cX10_town 1 = .ok (.invokevirtual 77, 3) := by decide +kernel
theorem dX10_town_4 : decode cX10_town 4 = .ok (.aload_n 0, 1) := by decide +kernel
theorem dX10_town_5 : decode cX10_town 5 = .ok (.getfield 53, 3) := by decide +kernel
theorem dX10_town_8 : decode cX10_town 8 = .ok (.if_icmp .lt 19, 3) := by decide +kernel
theorem dX10_town_11 : decode cX10_town 11 = .ok (.aload_n 0, 1) := by decide +kernel
theorem dX10_town_12 : decode cX10_town 12 = .ok (.getfield 56, 3) := by decide +kernel
theorem dX10_town_15 : decode cX10_town 15 = .ok (.bipush 6, 2) := by decide +kernel
theorem dX10_town_17 : decode cX10_town 17 = .ok (.if_icmp .ne 10, 3) := by decide +kernel
theorem dX10_town_20 : decode cX10_town 20 = .ok (.aload_n 0, 1) := by decide +kernel
theorem dX10_town_21 : decode cX10_town 21 = .ok (.getfield 68, 3) := by decide +kernel
theorem dX10_town_24 : decode cX10_town 24 = .ok (.ifCond .ne 6, 3) := by decide +kernel
theorem dX10_town_27 : decode cX10_town 27 = .ok (.bipush (-103), 2) := by decide +kernel
theorem dX10_town_29 : decode cX10_town 29 = .ok (.ireturn, 1) := by decide +kernel
theorem dX10_town_30 : decode cX10_town 30 = .ok (.aload_n 0, 1) := by decide +kernel
theorem dX10_town_31 : decode cX10_town 31 = .ok (.aload_n 0, 1) := by decide +kernel
theorem dX10_town_32 : decode cX10_town 32 = .ok (.getfield 59, 3) := by decide +kernel
theorem dX10_town_35 : decode cX10_town 35 = .ok (.putfield 81, 3) := by decide +kernel
theorem dX10_town_38 : decode cX10_town 38 = .ok (.aload_n 0, 1) := by decide +kernel
theorem dX10_town_39 : decode cX10_town 39 = .ok (.aload_n 0, 1) := by decide +kernel
theorem dX10_town_40 : decode cX10_town 40 = .ok (.getfield 68, 3) := by decide +kernel
theorem dX10_town_43 : decode cX10_town 43 = .ok (.putfield 84, 3) := by decide +kernel
theorem dX10_town_46 : decode cX10_town 46 = .ok (.aload_n 0, 1) := by decide +kernel
theorem dX10_town_47 : decode cX10_town 47 = .ok (.getfield 16, 3) := by decide +kernel
theorem dX10_town_50 : decode cX10_town 50 = .ok (.aload_n 0, 1) := by decide +kernel
theorem dX10_town_51 : decode cX10_town 51 = .ok (.getfield 22, 3) := by decide +kernel
theorem dX10_town_54 : decode cX10_town 54 = .ok (.invokestatic 87, 3) := by decide +kernel
theorem dX10_town_57 : decode cX10_town 57 = .ok (.iconst 0, 1) := by decide +kernel
theorem dX10_town_58 : decode cX10_town 58 = .ok (.istore_n 1, 1) := by decide +kernel
theorem dX10_town_59 : decode cX10_town 59 = .ok (.iload_n 1, 1) := by decide +kernel
theorem dX10_town_60 : decode cX10_town 60 = .ok (.aload_n 0, 1) := by decide +kernel
theorem dX10_town_61 : decode cX10_town 61 = .ok (.getfield 81, 3) := by decide +kernel
theorem dX10_town_64 : decode cX10_town 64 = .ok (.if_icmp .ge 53, 3) := by decide +kernel
theorem dX10_town_67 : decode cX10_town 67 = .ok (.iconst 0, 1) := by decide +kernel
theorem dX10_town_68 : decode cX10_town 68 = .ok (.istore_n 2, 1) := by decide +kernel
theorem dX10_town_69 : decode cX10_town 69 = .ok (.iload_n 2, 1) := by decide +kernel
theorem dX10_town_70 : decode cX10_town 70 = .ok (.bipush 8, 2) := by decide +kernel
theorem dX10_town_72 : decode cX10_town 72 = .ok (.if_icmp .ge 39, 3) := by decide +kernel
theorem dX10_town_75 : decode cX10_town 75 = .ok (.aload_n 0, 1) := by decide +kernel
theorem dX10_town_76 : decode cX10_town 76 = .ok (.getfield 19, 3) := by decide +kernel
theorem dX10_town_79 : decode cX10_town 79 = .ok (.bipush 8, 2) := by decide +kernel
theorem dX10_town_81 : decode cX10_town 81 = .ok (.iload_n 1, 1) := by decide +kernel
theorem dX10_town_82 : decode cX10_town 82 = .ok (.imul, 1) := by decide +kernel
theorem dX10_town_83 : decode cX10_town 83 = .ok (.iload_n 2, 1) := by decide +kernel
theorem dX10_town_84 : decode cX10_town 84 = .ok (.iadd, 1) := by decide +kernel
theorem dX10_town_85 : decode cX10_town 85 = .ok (.iload_n 2, 1) := by decide +kernel
theorem dX10_town_86 : decode cX10_town 86 = .ok (.iconst 5, 1) := by decide +kernel
theorem dX10_town_87 : decode cX10_town 87 = .ok (.if_icmp .ge 16, 3) := by decide +kernel
theorem dX10_town_90 : decode cX10_town 90 = .ok (.aload_n 0, 1) := by decide +kernel
theorem dX10_town_91 : decode cX10_town 91 = .ok (.getfield 13, 3) := by decide +kernel
theorem dX10_town_94 : decode cX10_town 94 = .ok (.iconst 5, 1) := by decide +kernel
theorem dX10_town_95 : decode cX10_town 95 = .ok (.iload_n 1, 1) := by decide +kernel
theorem dX10_town_96 : decode cX10_town 96 = .ok (.imul, 1) := by decide +kernel
theorem dX10_town_97 : decode cX10_town 97 = .ok (.iload_n 2, 1) := by decide +kernel
theorem dX10_town_98 : decode cX10_town 98 = .ok (.iadd, 1) := by decide +kernel
theorem dX10_town_99 : decode cX10_town 99 = .ok (.iaload, 1) := by decide +kernel
theorem dX10_town_100 : decode cX10_town 100 = .ok (.goto 4, 3) := by decide +kernel
theorem dX10_town_103 : decode cX10_town 103 = .ok (.iconst 0, 1) := by decide +kernel
theorem dX10_town_104 : decode cX10_town 104 = .ok (.iastore, 1) := by decide +kernel
theorem dX10_town_105 : decode cX10_town 105 = .ok (.iinc 2 1, 3) := by decide +kernel
theorem dX10_town_108 : decode cX10_town 108 = .ok (.goto (-39), 3) := by decide +kernel
theorem dX10_town_111 : decode cX10_town 111 = .ok (.iinc 1 1, 3) := by decide +kernel
theorem dX10_town_114 : decode cX10_town 114 = .ok (.goto (-55), 3) := by decide +kernel
theorem dX10_town_117 : decode cX10_town 117 = .ok (.aload_n 0, 1) := by decide +kernel
theorem dX10_town_118 : decode cX10_town 118 = .ok (.iconst 0, 1) := by decide +kernel
theorem dX10_town_119 : decode cX10_town 119 = .ok (.putfield 91, 3) := by decide +kernel
theorem dX10_town_122 : decode cX10_town 122 = .ok (.aload_n 0, 1) := by decide +kernel
theorem dX10_town_123 : decode cX10_town 123 = .ok (.iconst 0, 1) := by decide +kernel
theorem dX10_town_124 : decode cX10_town 124 = .ok (.putfield 94, 3) := by decide +kernel
theorem dX10_town_127 : decode cX10_town 127 = .ok (.aload_n 0, 1) := by decide +kernel
theorem dX10_town_128 : decode cX10_town 128 = .ok (.dup, 1) := by decide +kernel
theorem dX10_town_129 : decode cX10_town 129 = .ok (.getfield 97, 3) := by decide +kernel
theorem dX10_town_132 : decode cX10_town 132 = .ok (.iconst 1, 1) := by decide +kernel
theorem dX10_town_133 : decode cX10_town 133 = .ok (.iadd, 1) := by decide +kernel
theorem dX10_town_134 : decode cX10_town 134 = .ok (.putfield 97, 3) := by decide +kernel
theorem dX10_town_137 : decode cX10_town 137 = .ok (.aload_n 0, 1) := by decide +kernel
theorem dX10_town_138 : decode cX10_town 138 = .ok (.iconst 0, 1) := by decide +kernel
theorem dX10_town_139 : decode cX10_town 139 = .ok (.putfield 53, 3) := by decide +kernel
theorem dX10_town_142 : decode cX10_town 142 = .ok (.aload_n 0, 1) := by decide +kernel
theorem dX10_town_143 : decode cX10_town 143 = .ok (.getfield 81, 3) := by decide +kernel
theorem dX10_town_146 : decode cX10_town 146 = .ok (.ireturn, 1) := by decide +kernel
set_option maxRecDepth 20000 in
theorem ggX10_isSinger_X10_in : GoodIn wsX10_isSinger wsX10_in := goodIn_r _ [5] (by decide +kernel) (by decide +kernel)
set_option maxRecDepth 20000 in
theorem gX10_isSinger_X10_in : GoodIn wsX10_isSinger (va_wsS RX10 49 yX10_in wsX10_in) := goodIn_app (goodIn_of _ (by decide +kernel)) ggX10_isSinger_X10_in
theorem dX10_isSinger_0 : decode cX10_isSinger 0 = .ok (.iload_n 1, 1) := by decide +kernel
theorem dX10_isSinger_1 : decode cX10_isSinger 1 = .ok (.i2l, 1) := by decide +kernel
theorem dX10_isSinger_2 : decode cX10_isSinger 2 = .ok (.lconst 0, 1) := by decide +kernel
theorem dX10_isSinger_3 : decode cX10_isSinger 3 = .ok (.aload_n 0, 1) := by decide +kernel
theorem dX10_isSinger_4 : decode cX10_isSinger 4 = .ok (.getfield 81, 3) := by decide +kernel
theorem dX10_isSinger_7 : decode cX10_isSinger 7 = .ok (.iconst 1, 1) := by decide +kernel
theorem dX10_isSinger_8 : decode cX10_isSinger 8 = .ok (.isub, 1) := by decide +kernel
theorem dX10_isSinger_9 : decode cX10_isSinger 9 = .ok (.i2l, 1) := by decide +kernel
theorem dX10_isSinger_10 : decode cX10_isSinger 10 = .ok (.invokestatic 49, 3) := by decide +kernel
theorem dX10_isSinger_13 : decode cX10_isSinger 13 = .ok (.ireturn, 1) := by decide +kernel
set_option maxRecDepth 20000 in
theorem ggX10_isWidow_X10_in : GoodIn wsX10_isWidow wsX10_in := goodIn_r _ [5] (by decide +kernel) (by decide +kernel)
set_option maxRecDepth 20000 in
theorem gX10_isWidow_X10_in : GoodIn wsX10_isWidow (va_wsS RX10 49 yX10_in wsX10_in) := goodIn_app (goodIn_of _ (by decide +kernel)) ggX10_isWidow_X10_in
theorem dX10_isWidow_0 : decode cX10_isWidow 0 = .ok (.iload_n 1, 1) := by decide +kernel
theorem dX10_isWidow_1 : decode cX10_isWidow 1 = .ok (.i2l, 1) := by decide +kernel
theorem dX10_isWidow_2 : decode cX10_isWidow 2 = .ok (.lconst 0, 1) := by decide +kernel
theorem dX10_isWidow_3 : decode cX10_isWidow 3 = .ok (.aload_n 0, 1) := by decide +kernel
theorem dX10_isWidow_4 : decode cX10_isWidow 4 = .ok (.getfield 84, 3) := by decide +kernel
theorem dX10_isWidow_7 : decode cX10_isWidow 7 = .ok (.iconst 1, 1) := by decide +kernel
theorem dX10_isWidow_8 : decode cX10_isWidow 8 = .ok (.isub, 1) := by decide +kernel
theorem dX10_isWidow_9 : decode cX10_isWidow 9 = .ok (.i2l, 1) := by decide +kernel
theorem dX10_isWidow_10 : decode cX10_isWidow 10 = .ok (.invokestatic 49, 3) := by decide +kernel
theorem dX10_isWidow_13 : decode cX10_isWidow 13 = .ok (.ireturn, 1) := by decide +kernel
theorem dX10_badOf_0 : decode cX10_badOf 0 = .ok (.aload_n 0, 1) := by decide +kernel
theorem dX10_badOf_1 : decode cX10_badOf 1 = .ok (.getfield 19, 3) := by decide +kernel
theorem dX10_badOf_4 : decode cX10_badOf 4 = .ok (.bipush 8, 2) := by decide +kernel
theorem dX10_badOf_6 : decode cX10_badOf 6 = .ok (.iload_n 1, 1) := by decide +kernel
theorem dX10_badOf_7 : decode cX10_badOf 7 = .ok (.imul, 1) := by decide +kernel
theorem dX10_badOf_8 : decode cX10_badOf 8 = .ok (.iaload, 1) := by decide +kernel
theorem dX10_badOf_9 : decode cX10_badOf 9 = .ok (.istore_n 3, 1) := by decide +kernel
theorem dX10_badOf_10 : decode cX10_badOf 10 = .ok (.aload_n 0, 1) := by decide +kernel
theorem dX10_badOf_11 : decode cX10_badOf 11 = .ok (.getfield 19, 3) := by decide +kernel
theorem dX10_badOf_14 : decode cX10_badOf 14 = .ok (.bipush 8, 2) := by decide +kernel
theorem dX10_badOf_16 : decode cX10_badOf 16 = .ok (.iload_n 1, 1) := by decide +kernel
theorem dX10_badOf_17 : decode cX10_badOf 17 = .ok (.imul, 1) := by decide +kernel
theorem dX10_badOf_18 : decode cX10_badOf 18 = .ok (.iconst 1, 1) := by decide +kernel
theorem dX10_badOf_19 : decode cX10_badOf 19 = .ok (.iadd, 1) := by decide +kernel
theorem dX10_badOf_20 : decode cX10_badOf 20 = .ok (.iload_n 2, 1) := by decide +kernel
theorem dX10_badOf_21 : decode cX10_badOf 21 = .ok (.iadd, 1) := by decide +kernel
theorem dX10_badOf_22 : decode cX10_badOf 22 = .ok (.iaload, 1) := by decide +kernel
theorem dX10_badOf_23 : decode cX10_badOf 23 = .ok (.istore 4, 2) := by decide +kernel
theorem dX10_badOf_25 : decode cX10_badOf 25 = .ok (.iload_n 2, 1) := by decide +kernel
theorem dX10_badOf_26 : decode cX10_badOf 26 = .ok (.ifCond .ne 34, 3) := by decide +kernel
theorem dX10_badOf_29 : decode cX10_badOf 29 = .ok (.iload_n 3, 1) := by decide +kernel
theorem dX10_badOf_30 : decode cX10_badOf 30 = .ok (.iconst 1, 1) := by decide +kernel
theorem dX10_badOf_31 : decode cX10_badOf 31 = .ok (.if_icmp .eq 8, 3) := by decide +kernel
theorem dX10_badOf_34 : decode cX10_badOf 34 = .ok (.iload_n 3, 1) := by decide +kernel
theorem dX10_badOf_35 : decode cX10_badOf 35 = .ok (.iconst 4, 1) := by decide +kernel
theorem dX10_badOf_36 : decode cX10_badOf 36 = .ok (.if_icmp .ne 10, 3) := by decide +kernel
theorem dX10_badOf_39 : decode cX10_badOf 39 = .ok (.iload 4, 2) := by decide +kernel
theorem dX10_badOf_41 : decode cX10_badOf 41 = .ok (.iconst 2, 1) := by decide +kernel
theorem dX10_badOf_42 : decode cX10_badOf 42 = .ok (.idiv, 1) := by decide +kernel
theorem dX10_badOf_43 : decode cX10_badOf 43 = .ok (.goto 15, 3) := by decide +kernel
theorem dX10_badOf_46 : decode cX10_badOf 46 = .ok (.iload_n 3, 1) := by decide +kernel
theorem dX10_badOf_47 : decode cX10_badOf 47 = .ok (.iconst 3, 1) := by decide +kernel
theorem dX10_badOf_48 : decode cX10_badOf 48 = .ok (.if_icmp .ne 8, 3) := by decide +kernel
theorem dX10_badOf_51 : decode cX10_badOf 51 = .ok (.bipush 9, 2) := by decide +kernel
theorem dX10_badOf_53 : decode cX10_badOf 53 = .ok (.goto 5, 3) := by decide +kernel
theorem dX10_badOf_56 : decode cX10_badOf 56 = .ok (.iload 4, 2) := by decide +kernel
theorem dX10_badOf_58 : decode cX10_badOf 58 = .ok (.istore 4, 2) := by decide +kernel
theorem dX10_badOf_60 : decode cX10_badOf 60 = .ok (.iload_n 2, 1) := by decide +kernel
theorem dX10_badOf_61 : decode cX10_badOf 61 = .ok (.iconst 1, 1) := by decide +kernel
theorem dX10_badOf_62 : decode cX10_badOf 62 = .ok (.if_icmp .ne 15, 3) := by decide +kernel
theorem dX10_badOf_65 : decode cX10_badOf 65 = .ok (.iload_n 3, 1) := by decide +kernel
theorem dX10_badOf_66 : decode cX10_badOf 66 = .ok (.iconst 4, 1) := by decide +kernel
theorem dX10_badOf_67 : decode cX10_badOf 67 = .ok (.if_icmp .ne 10, 3) := by decide +kernel
theorem dX10_badOf_70 : decode cX10_badOf 70 = .ok (.iload 4, 2) := by decide +kernel
theorem dX10_badOf_72 : decode cX10_badOf 72 = .ok (.iconst 2, 1) := by decide +kernel
theorem dX10_badOf_73 : decode cX10_badOf 73 = .ok (.idiv, 1) := by decide +kernel
theorem dX10_badOf_74 : decode cX10_badOf 74 = .ok (.goto 5, 3) := by decide +kernel
theorem dX10_badOf_77 : decode cX10_badOf 77 = .ok (.iload 4, 2) := by decide +kernel
theorem dX10_badOf_79 : decode cX10_badOf 79 = .ok (.istore 4, 2) := by decide +kernel
theorem dX10_badOf_81 : decode cX10_badOf 81 = .ok (.iload_n 2, 1) := by decide +kernel
theorem dX10_badOf_82 : decode cX10_badOf 82 = .ok (.iconst 3, 1) := by decide +kernel
theorem dX10_badOf_83 : decode cX10_badOf 83 = .ok (.if_icmp .ne 15, 3) := by decide +kernel
theorem dX10_badOf_86 : decode cX10_badOf 86 = .ok (.iload_n 3, 1) := by decide +kernel
theorem dX10_badOf_87 : decode cX10_badOf 87 = .ok (.iconst 2, 1) := by decide +kernel
theorem dX10_badOf_88 : decode cX10_badOf 88 = .ok (.if_icmp .ne 10, 3) := by decide +kernel
theorem dX10_badOf_91 : decode cX10_badOf 91 = .ok (.iconst 2, 1) := by decide +kernel
theorem dX10_badOf_92 : decode cX10_badOf 92 = .ok (.iload 4, 2) := by decide +kernel
theorem dX10_badOf_94 : decode cX10_badOf 94 = .ok (.imul, 1) := by decide +kernel
theorem dX10_badOf_95 : decode cX10_badOf 95 = .ok (.goto 5, 3) := by decide +kernel
theorem dX10_badOf_98 : decode cX10_badOf 98 = .ok (.iload 4, 2) := by decide +kernel
theorem dX10_badOf_100 : decode cX10_badOf 100 = .ok (.istore 4, 2) := by decide +kernel
theorem dX10_badOf_102 : decode cX10_badOf 102 = .ok (.iload 4, 2) := by decide +kernel
theorem dX10_badOf_104 : decode cX10_badOf 104 = .ok (.aload_n 0, 1) := by decide +kernel
theorem dX10_badOf_105 : decode cX10_badOf 105 = .ok (.getfield 19, 3) := by decide +kernel
theorem dX10_badOf_108 : decode cX10_badOf 108 = .ok (.bipush 8, 2) := by decide +kernel
theorem dX10_badOf_110 : decode cX10_badOf 110 = .ok (.iload_n 1, 1) := by decide +kernel
theorem dX10_badOf_111 : decode cX10_badOf 111 = .ok (.imul, 1) := by decide +kernel
theorem dX10_badOf_112 : decode cX10_badOf 112 = .ok (.iconst 5, 1) := by decide +kernel
theorem dX10_badOf_113 : decode cX10_badOf 113 = .ok (.iadd, 1) := by decide +kernel
theorem dX10_badOf_114 : decode cX10_badOf 114 = .ok (.iaload, 1) := by decide +kernel
theorem dX10_badOf_115 : decode cX10_badOf 115 = .ok (.iconst 1, 1) := by decide +kernel
theorem dX10_badOf_116 : decode cX10_badOf 116 = .ok (.if_icmp .ne 16, 3) := by decide +kernel
theorem dX10_badOf_119 : decode cX10_badOf 119 = .ok (.iload_n 2, 1) := by decide +kernel
theorem dX10_badOf_120 : decode cX10_badOf 120 = .ok (.ifCond .eq 8, 3) := by decide +kernel
theorem dX10_badOf_123 : decode cX10_badOf 123 = .ok (.iload_n 2, 1) := by decide +kernel
theorem dX10_badOf_124 : decode cX10_badOf 124 = .ok (.iconst 1, 1) := by decide +kernel
theorem dX10_badOf_125 : decode cX10_badOf 125 = .ok (.if_icmp .ne 7, 3) := by decide +kernel
theorem dX10_badOf_128 : decode cX10_badOf 128 = .ok (.iconst 3, 1) := by decide +kernel
theorem dX10_badOf_129 : decode cX10_badOf 129 = .ok (.goto 4, 3) := by decide +kernel
theorem dX10_badOf_132 : decode cX10_badOf 132 = .ok (.iconst 0, 1) := by decide +kernel
theorem dX10_badOf_133 : decode cX10_badOf 133 = .ok (.iadd, 1) := by decide +kernel
theorem dX10_badOf_134 : decode cX10_badOf 134 = .ok (.istore 4, 2) := by decide +kernel
theorem dX10_badOf_136 : decode cX10_badOf 136 = .ok (.iload 4, 2) := by decide +kernel
theorem dX10_badOf_138 : decode cX10_badOf 138 = .ok (.aload_n 0, 1) := by decide +kernel
theorem dX10_badOf_139 : decode cX10_badOf 139 = .ok (.getfield 19, 3) := by decide +kernel
theorem dX10_badOf_142 : decode cX10_badOf 142 = .ok (.bipush 8, 2) := by decide +kernel
theorem dX10_badOf_144 : decode cX10_badOf 144 = .ok (.iload_n 1, 1) := by decide +kernel
theorem dX10_badOf_145 : decode cX10_badOf 145 = .ok (.imul, 1) := by decide +kernel
theorem dX10_badOf_146 : decode cX10_badOf 146 = .ok (.bipush 6, 2) := by decide +kernel
theorem dX10_badOf_148 : decode cX10_badOf 148 = .ok (.iadd, 1) := by decide +kernel
theorem dX10_badOf_149 : decode cX10_badOf 149 = .ok (.iaload, 1) := by decide +kernel
theorem dX10_badOf_150 : decode cX10_badOf 150 = .ok (.aload_n 0, 1) := by decide +kernel
theorem dX10_badOf_151 : decode cX10_badOf 151 = .ok (.getfield 19, 3) := by decide +kernel
theorem dX10_badOf_154 : decode cX10_badOf 154 = .ok (.bipush 8, 2) := by decide +kernel
theorem dX10_badOf_156 : decode cX10_badOf 156 = .ok (.iload_n 1, 1) := by decide +kernel
theorem dX10_badOf_157 : decode cX10_badOf 157 = .ok (.imul, 1) := by decide +kernel
theorem dX10_badOf_158 : decode cX10_badOf 158 = .ok (.bipush 7, 2) := by decide +kernel
theorem dX10_badOf_160 : decode cX10_badOf 160 = .ok (.iadd, 1) := by decide +kernel
theorem dX10_badOf_161 : decode cX10_badOf 161 = .ok (.iaload, 1) := by decide +kernel
theorem dX10_badOf_162 : decode cX10_badOf 162 = .ok (.iadd, 1) := by decide +kernel
theorem dX10_badOf_163 : decode cX10_badOf 163 = .ok (.isub, 1) := by decide +kernel
theorem dX10_badOf_164 : decode cX10_badOf 164 = .ok (.istore 4, 2) := by decide +kernel
theorem dX10_badOf_166 : decode cX10_badOf 166 = .ok (.iload 4, 2) := by decide +kernel
theorem dX10_badOf_168 : decode cX10_badOf 168 = .ok (.ifCond .ge 7, 3) := by decide +kernel
theorem dX10_badOf_171 : decode cX10_badOf 171 = .ok (.iconst 0, 1) := by decide +kernel
theorem dX10_badOf_172 : decode cX10_badOf 172 = .ok (.goto 5, 3) := by decide +kernel
theorem dX10_badOf_175 : decode cX10_badOf 175 = .ok (.iload 4, 2) := by decide +kernel
theorem dX10_badOf_177 : decode cX10_badOf 177 = .ok (.ireturn, 1) := by decide +kernel
set_option maxRecDepth 20000 in
theorem ggX10_forWhom_X10_badOf : GoodIn wsX10_forWhom wsX10_badOf := goodIn_r _ [7, 8, 9, 10, 11, 12, 13, 14, 15, 16, 17, 18, 19, 20, 21, 22, 23, 24, 25, 26, 27, 28, 29, 30, 31, 32, 33, 34] (by decide +kernel) (by decide +kernel)
set_option maxRecDepth 20000 in
theorem gX10_forWhom_X10_badOf : GoodIn wsX10_forWhom (wsV RX10 100 RX10 yX10_badOf wsX10_badOf) := goodIn_app (goodIn_of _ (by decide +kernel)) ggX10_forWhom_X10_badOf
theorem dX10_forWhom_0 : decode cX10_forWhom 0 = .ok (.iconst 0, 1) := by decide +kernel
theorem dX10_forWhom_1 : decode cX10_forWhom 1 = .ok (.istore_n 2, 1) := by decide +kernel
theorem dX10_forWhom_2 : decode cX10_forWhom 2 = .ok (.iconst 1, 1) := by decide +kernel
theorem dX10_forWhom_3 : decode cX10_forWhom 3 = .ok (.istore_n 3, 1) := by decide +kernel
theorem dX10_forWhom_4 : decode cX10_forWhom 4 = .ok (.iload_n 3, 1) := by decide +kernel
theorem dX10_forWhom_5 : decode cX10_forWhom 5 = .ok (.aload_n 0, 1) := by decide +kernel
theorem dX10_forWhom_6 : decode cX10_forWhom 6 = .ok (.getfield 81, 3) := by decide +kernel
theorem dX10_forWhom_9 : decode cX10_forWhom 9 = .ok (.if_icmp .ge 40, 3) := by decide +kernel
theorem dX10_forWhom_12 : decode cX10_forWhom 12 = .ok (.aload_n 0, 1) := by decide +kernel
theorem dX10_forWhom_13 : decode cX10_forWhom 13 = .ok (.iload_n 3, 1) := by decide +kernel
theorem dX10_forWhom_14 : decode cX10_forWhom 14 = .ok (.aload_n 0, 1) := by decide +kernel
theorem dX10_forWhom_15 : decode cX10_forWhom 15 = .ok (.getfield 22, 3) := by decide +kernel
theorem dX10_forWhom_18 : decode cX10_forWhom 18 = .ok (.iload_n 1, 1) := by decide +kernel
theorem dX10_forWhom_19 : decode cX10_forWhom 19 = .ok (.iaload, 1) := by decide +kernel
theorem dX10_forWhom_20 : decode cX10_forWhom 20 = .ok (.invokevirtual 100, 3) := by decide +kernel
theorem dX10_forWhom_23 : decode cX10_forWhom 23 = .ok (.aload_n 0, 1) := by decide +kernel
theorem dX10_forWhom_24 : decode cX10_forWhom 24 = .ok (.iload_n 2, 1) := by decide +kernel
theorem dX10_forWhom_25 : decode cX10_forWhom 25 = .ok (.aload_n 0, 1) := by decide +kernel
theorem dX10_forWhom_26 : decode cX10_forWhom 26 = .ok (.getfield 22, 3) := by decide +kernel
theorem dX10_forWhom_29 : decode cX10_forWhom 29 = .ok (.iload_n 1, 1) := by decide +kernel
theorem dX10_forWhom_30 : decode cX10_forWhom 30 = .ok (.iaload, 1) := by decide +kernel
theorem dX10_forWhom_31 : decode cX10_forWhom 31 = .ok (.invokevirtual 100, 3) := by decide +kernel
theorem dX10_forWhom_34 : decode cX10_forWhom 34 = .ok (.if_icmp .le 7, 3) := by decide +kernel
theorem dX10_forWhom_37 : decode cX10_forWhom 37 = .ok (.iload_n 3, 1) := by decide +kernel
theorem dX10_forWhom_38 : decode cX10_forWhom 38 = .ok (.goto 4, 3) := by decide +kernel
theorem dX10_forWhom_41 : decode cX10_forWhom 41 = .ok (.iload_n 2, 1) := by decide +kernel
theorem dX10_forWhom_42 : decode cX10_forWhom 42 = .ok (.istore_n 2, 1) := by decide +kernel
theorem dX10_forWhom_43 : decode cX10_forWhom 43 = .ok (.iinc 3 1, 3) := by decide +kernel
theorem dX10_forWhom_46 : decode cX10_forWhom 46 = .ok (.goto (-42), 3) := by decide +kernel
theorem dX10_forWhom_49 : decode cX10_forWhom 49 = .ok (.iload_n 2, 1) := by decide +kernel
theorem dX10_forWhom_50 : decode cX10_forWhom 50 = .ok (.ireturn, 1) := by decide +kernel
set_option maxRecDepth 20000 in
theorem ggX10_votesOf_X10_forWhom : GoodIn wsX10_votesOf wsX10_forWhom := goodIn_r _ [6, 7, 8, 9, 10, 11, 5, 12, 13, 14, 15, 16, 17, 18, 19, 20, 21, 22, 23, 24, 25, 26, 27, 28, 29, 30, 31, 32, 33, 34, 35, 36, 37, 38, 39] (by decide +kernel) (by decide +kernel)
set_option maxRecDepth 20000 in
theorem gX10_votesOf_X10_forWhom : GoodIn wsX10_votesOf (wsV RX10 104 RX10 yX10_forWhom wsX10_forWhom) := goodIn_app (goodIn_of _ (by decide +kernel)) ggX10_votesOf_X10_forWhom
theorem dX10_votesOf_0 : decode cX10_votesOf 0 = .ok (.iconst 0, 1) := by decide +kernel
theorem dX10_votesOf_1 : decode cX10_votesOf 1 = .ok (.istore_n 2, 1) := by decide +kernel
theorem dX10_votesOf_2 : decode cX10_votesOf 2 = .ok (.iconst 0, 1) := by decide +kernel
theorem dX10_votesOf_3 : decode cX10_votesOf 3 = .ok (.istore_n 3, 1) := by decide +kernel
theorem dX10_votesOf_4 : decode cX10_votesOf 4 = .ok (.iload_n 3, 1) := by decide +kernel
theorem dX10_votesOf_5 : decode cX10_votesOf 5 = .ok (.aload_n 0, 1) := by decide +kernel
theorem dX10_votesOf_6 : decode cX10_votesOf 6 = .ok (.getfield 84, 3) := by decide +kernel
theorem dX10_votesOf_9 : decode cX10_votesOf 9 = .ok (.if_icmp .ge 26, 3) := by decide +kernel
theorem dX10_votesOf_12 : decode cX10_votesOf 12 = .ok (.iload_n 2, 1) := by decide +kernel
theorem dX10_votesOf_13 : decode cX10_votesOf 13 = .ok (.aload_n 0, 1) := by decide +kernel
theorem dX10_votesOf_14 : decode cX10_votesOf 14 = .ok (.iload_n 3, 1) := by decide +kernel
theorem dX10_votesOf_15 : decode cX10_votesOf 15 = .ok (.invokevirtual 104, 3) := by decide +kernel
theorem dX10_votesOf_18 : decode cX10_votesOf 18 = .ok (.iload_n 1, 1) := by decide +kernel
theorem dX10_votesOf_19 : decode cX10_votesOf 19 = .ok (.if_icmp .ne 7, 3) := by decide +kernel
theorem dX10_votesOf_22 : decode cX10_votesOf 22 = .ok (.iconst 1, 1) := by decide +kernel
theorem dX10_votesOf_23 : decode cX10_votesOf 23 = .ok (.goto 4, 3) := by decide +kernel
theorem dX10_votesOf_26 : decode cX10_votesOf 26 = .ok (.iconst 0, 1) := by decide +kernel
theorem dX10_votesOf_27 : decode cX10_votesOf 27 = .ok (.iadd, 1) := by decide +kernel
theorem dX10_votesOf_28 : decode cX10_votesOf 28 = .ok (.istore_n 2, 1) := by decide +kernel
theorem dX10_votesOf_29 : decode cX10_votesOf 29 = .ok (.iinc 3 1, 3) := by decide +kernel
theorem dX10_votesOf_32 : decode cX10_votesOf 32 = .ok (.goto (-28), 3) := by decide +kernel
theorem dX10_votesOf_35 : decode cX10_votesOf 35 = .ok (.iload_n 2, 1) := by decide +kernel
theorem dX10_votesOf_36 : decode cX10_votesOf 36 = .ok (.ireturn, 1) := by decide +kernel
set_option maxRecDepth 20000 in
theorem ggX10_mayorOf_X10_votesOf : GoodIn wsX10_mayorOf wsX10_votesOf := goodIn_r _ [6, 7, 8, 9, 10, 5, 11, 1, 12, 13, 14, 15, 16, 17, 18, 19, 20, 21, 22, 23, 24, 25, 26, 27, 28, 29, 30, 31, 32, 33, 34, 35, 36, 37, 38, 39, 40, 41, 42, 43] (by decide +kernel) (by decide +kernel)
set_option maxRecDepth 20000 in
theorem gX10_mayorOf_X10_votesOf : GoodIn wsX10_mayorOf (wsV RX10 107 RX10 yX10_votesOf wsX10_votesOf) := goodIn_app (goodIn_of _ (by decide +kernel)) ggX10_mayorOf_X10_votesOf
theorem dX10_mayorOf_0 : decode cX10_mayorOf 0 = .ok (.iconst 0, 1) := by decide +kernel
theorem dX10_mayorOf_1 : decode cX10_mayorOf 1 = .ok (.istore_n 1, 1) := by decide +kernel
theorem dX10_mayorOf_2 : decode cX10_mayorOf 2 = .ok (.iconst 1, 1) := by decide +kernel
theorem dX10_mayorOf_3 : decode cX10_mayorOf 3 = .ok (.istore_n 2, 1) := by decide +kernel
theorem dX10_mayorOf_4 : decode cX10_mayorOf 4 = .ok (.iload_n 2, 1) := by decide +kernel
theorem dX10_mayorOf_5 : decode cX10_mayorOf 5 = .ok (.aload_n 0, 1) := by decide +kernel
theorem dX10_mayorOf_6 : decode cX10_mayorOf 6 = .ok (.getfield 81, 3) := by decide +kernel
theorem dX10_mayorOf_9 : decode cX10_mayorOf 9 = .ok (.if_icmp .ge 28, 3) := by decide +kernel
theorem dX10_mayorOf_12 : decode cX10_mayorOf 12 = .ok (.aload_n 0, 1) := by decide +kernel
theorem dX10_mayorOf_13 : decode cX10_mayorOf 13 = .ok (.iload_n 2, 1) := by decide +kernel
theorem dX10_mayorOf_14 : decode cX10_mayorOf 14 = .ok (.invokevirtual 107, 3) := by decide +kernel
theorem dX10_mayorOf_17 : decode cX10_mayorOf 17 = .ok (.aload_n 0, 1) := by decide +kernel
theorem dX10_mayorOf_18 : decode cX10_mayorOf 18 = .ok (.iload_n 1, 1) := by decide +kernel
theorem dX10_mayorOf_19 : decode cX10_mayorOf 19 = .ok (.invokevirtual 107, 3) := by decide +kernel
theorem dX10_mayorOf_22 : decode cX10_mayorOf 22 = .ok (.if_icmp .le 7, 3) := by decide +kernel
theorem dX10_mayorOf_25 : decode cX10_mayorOf 25 = .ok (.iload_n 2, 1) := by decide +kernel
theorem dX10_mayorOf_26 : decode cX10_mayorOf 26 = .ok (.goto 4, 3) := by decide +kernel
theorem dX10_mayorOf_29 : decode cX10_mayorOf 29 = .ok (.iload_n 1, 1) := by decide +kernel
theorem dX10_mayorOf_30 : decode cX10_mayorOf 30 = .ok (.istore_n 1, 1) := by decide +kernel
theorem dX10_mayorOf_31 : decode cX10_mayorOf 31 = .ok (.iinc 2 1, 3) := by decide +kernel
theorem dX10_mayorOf_34 : decode cX10_mayorOf 34 = .ok (.goto (-30), 3) := by decide +kernel
theorem dX10_mayorOf_37 : decode cX10_mayorOf 37 = .ok (.iload_n 1, 1) := by decide +kernel
theorem dX10_mayorOf_38 : decode cX10_mayorOf 38 = .ok (.ireturn, 1) := by decide +kernel
set_option maxRecDepth 20000 in
theorem ggX10_worstOf_X10_votesOf : GoodIn wsX10_worstOf wsX10_votesOf := goodIn_r _ [6, 7, 8, 9, 10, 5, 11, 12, 13, 14, 15, 16, 17, 1, 18, 19, 20, 21, 22, 23, 24, 25, 26, 27, 28, 29, 30, 31, 32, 33, 34, 35, 36, 37, 38, 39, 40, 41, 42, 43] (by decide +kernel) (by decide +kernel)
set_option maxRecDepth 20000 in
theorem gX10_worstOf_X10_votesOf : GoodIn wsX10_worstOf (wsV RX10 107 RX10 yX10_votesOf wsX10_votesOf) := goodIn_app (goodIn_of _ (by decide +kernel)) ggX10_worstOf_X10_votesOf
theorem dX10_worstOf_0 : decode cX10_worstOf 0 = .ok (.aload_n 0, 1) := by decide +kernel
theorem dX10_worstOf_1 : decode cX10_worstOf 1 = .ok (.getfield 19, 3) := by decide +kernel
theorem dX10_worstOf_4 : decode cX10_worstOf 4 = .ok (.bipush 8, 2) := by decide +kernel
theorem dX10_worstOf_6 : decode cX10_worstOf 6 = .ok (.iload_n 1, 1) := by decide +kernel
theorem dX10_worstOf_7 : decode cX10_worstOf 7 = .ok (.imul, 1) := by decide +kernel
theorem dX10_worstOf_8 : decode cX10_worstOf 8 = .ok (.iconst 5, 1) := by decide +kernel
theorem dX10_worstOf_9 : decode cX10_worstOf 9 = .ok (.iadd, 1) := by decide +kernel
theorem dX10_worstOf_10 : decode cX10_worstOf 10 = .ok (.iaload, 1) := by decide +kernel
theorem dX10_worstOf_11 : decode cX10_worstOf 11 = .ok (.istore_n 3, 1) := by decide +kernel
theorem dX10_worstOf_12 : decode cX10_worstOf 12 = .ok (.aload_n 0, 1) := by decide +kernel
theorem dX10_worstOf_13 : decode cX10_worstOf 13 = .ok (.getfield 19, 3) := by decide +kernel
theorem dX10_worstOf_16 : decode cX10_worstOf 16 = .ok (.bipush 8, 2) := by decide +kernel
theorem dX10_worstOf_18 : decode cX10_worstOf 18 = .ok (.iload_n 1, 1) := by decide +kernel
theorem dX10_worstOf_19 : decode cX10_worstOf 19 = .ok (.imul, 1) := by decide +kernel
theorem dX10_worstOf_20 : decode cX10_worstOf 20 = .ok (.bipush 6, 2) := by decide +kernel
theorem dX10_worstOf_22 : decode cX10_worstOf 22 = .ok (.iadd, 1) := by decide +kernel
theorem dX10_worstOf_23 : decode cX10_worstOf 23 = .ok (.iaload, 1) := by decide +kernel
theorem dX10_worstOf_24 : decode cX10_worstOf 24 = .ok (.istore 4, 2) := by decide +kernel
theorem dX10_worstOf_26 : decode cX10_worstOf 26 = .ok (.iconst (-1), 1) := by decide +kernel
theorem dX10_worstOf_27 : decode cX10_worstOf 27 = .ok (.istore 5, 2) := by decide +kernel
theorem dX10_worstOf_29 : decode cX10_worstOf 29 = .ok (.iconst (-1), 1) := by decide +kernel
theorem dX10_worstOf_30 : decode cX10_worstOf 30 = .ok (.istore 6, 2) := by decide +kernel
theorem dX10_worstOf_32 : decode cX10_worstOf 32 = .ok (.iconst 0, 1) := by decide +kernel
theorem dX10_worstOf_33 : decode cX10_worstOf 33 = .ok (.istore 7, 2) := by decide +kernel
theorem dX10_worstOf_35 : decode cX10_worstOf 35 = .ok (.iload 7, 2) := by decide +kernel
theorem dX10_worstOf_37 : decode cX10_worstOf 37 = .ok (.iconst 4, 1) := by decide +kernel
theorem dX10_worstOf_38 : decode cX10_worstOf 38 = .ok (.if_icmp .ge 79, 3) := by decide +kernel
theorem dX10_worstOf_41 : decode cX10_worstOf 41 = .ok (.aload_n 0, 1) := by decide +kernel
theorem dX10_worstOf_42 : decode cX10_worstOf 42 = .ok (.getfield 19, 3) := by decide +kernel
theorem dX10_worstOf_45 : decode cX10_worstOf 45 = .ok (.bipush 8, 2) := by decide +kernel
theorem dX10_worstOf_47 : decode cX10_worstOf 47 = .ok (.iload_n 1, 1) := by decide +kernel
theorem dX10_worstOf_48 : decode cX10_worstOf 48 = .ok (.imul, 1) := by decide +kernel
theorem dX10_worstOf_49 : decode cX10_worstOf 49 = .ok (.iconst 5, 1) := by decide +kernel
theorem dX10_worstOf_50 : decode cX10_worstOf 50 = .ok (.iadd, 1) := by decide +kernel
theorem dX10_worstOf_51 : decode cX10_worstOf 51 = .ok (.iload 7, 2) := by decide +kernel
theorem dX10_worstOf_53 : decode cX10_worstOf 53 = .ok (.iconst 2, 1) := by decide +kernel
theorem dX10_worstOf_54 : decode cX10_worstOf 54 = .ok (.idiv, 1) := by decide +kernel
theorem dX10_worstOf_55 : decode cX10_worstOf 55 = .ok (.iastore, 1) := by decide +kernel
theorem dX10_worstOf_56 : decode cX10_worstOf 56 = .ok (.aload_n 0, 1) := by decide +kernel
theorem dX10_worstOf_57 : decode cX10_worstOf 57 = .ok (.getfield 19, 3) := by decide +kernel
theorem dX10_worstOf_60 : decode cX10_worstOf 60 = .ok (.bipush 8, 2) := by decide +kernel
theorem dX10_worstOf_62 : decode cX10_worstOf 62 = .ok (.iload_n 1, 1) := by decide +kernel
theorem dX10_worstOf_63 : decode cX10_worstOf 63 = .ok (.imul, 1) := by decide +kernel
theorem dX10_worstOf_64 : decode cX10_worstOf 64 = .ok (.bipush 6, 2) := by decide +kernel
theorem dX10_worstOf_66 : decode cX10_worstOf 66 = .ok (.iadd, 1) := by decide +kernel
theorem dX10_worstOf_67 : decode cX10_worstOf 67 = .ok (.iload 7, 2) := by decide +kernel
theorem dX10_worstOf_69 : decode cX10_worstOf 69 = .ok (.iconst 2, 1) := by decide +kernel
theorem dX10_worstOf_70 : decode cX10_worstOf 70 = .ok (.irem, 1) := by decide +kernel
theorem dX10_worstOf_71 : decode cX10_worstOf 71 = .ok (.iastore, 1) := by decide +kernel
theorem dX10_worstOf_72 : decode cX10_worstOf 72 = .ok (.aload_n 0, 1) := by decide +kernel
theorem dX10_worstOf_73 : decode cX10_worstOf 73 = .ok (.iload_n 1, 1) := by decide +kernel
theorem dX10_worstOf_74 : decode cX10_worstOf 74 = .ok (.invokevirtual 107, 3) := by decide +kernel
theorem dX10_worstOf_77 : decode cX10_worstOf 77 = .ok (.istore 8, 2) := by decide +kernel
theorem dX10_worstOf_79 : decode cX10_worstOf 79 = .ok (.iload 8, 2) := by decide +kernel
theorem dX10_worstOf_81 : decode cX10_worstOf 81 = .ok (.iload 6, 2) := by decide +kernel
theorem dX10_worstOf_83 : decode cX10_worstOf 83 = .ok (.if_icmp .le 8, 3) := by decide +kernel
theorem dX10_worstOf_86 : decode cX10_worstOf 86 = .ok (.iload 7, 2) := by decide +kernel
theorem dX10_worstOf_88 : decode cX10_worstOf 88 = .ok (.goto 5, 3) := by decide +kernel
theorem dX10_worstOf_91 : decode cX10_worstOf 91 = .ok (.iload 5, 2) := by decide +kernel
theorem dX10_worstOf_93 : decode cX10_worstOf 93 = .ok (.istore 5, 2) := by decide +kernel
theorem dX10_worstOf_95 : decode cX10_worstOf 95 = .ok (.iload 8, 2) := by decide +kernel
theorem dX10_worstOf_97 : decode cX10_worstOf 97 = .ok (.iload 6, 2) := by decide +kernel
theorem dX10_worstOf_99 : decode cX10_worstOf 99 = .ok (.if_icmp .le 8, 3) := by decide +kernel
theorem dX10_worstOf_102 : decode cX10_worstOf 102 = .ok (.iload 8, 2) := by decide +kernel
theorem dX10_worstOf_104 : decode cX10_worstOf 104 = .ok (.goto 5, 3) := by decide +kernel
theorem dX10_worstOf_107 : decode cX10_worstOf 107 = .ok (.iload 6, 2) := by decide +kernel
theorem dX10_worstOf_109 : decode cX10_worstOf 109 = .ok (.istore 6, 2) := by decide +kernel
theorem dX10_worstOf_111 : decode cX10_worstOf 111 = .ok (.iinc 7 1, 3) := by decide +kernel
theorem dX10_worstOf_114 : decode cX10_worstOf 114 = .ok (.goto (-79), 3) := by decide +kernel
theorem dX10_worstOf_117 : decode cX10_worstOf 117 = .ok (.aload_n 0, 1) := by decide +kernel
theorem dX10_worstOf_118 : decode cX10_worstOf 118 = .ok (.getfield 19, 3) := by decide +kernel
theorem dX10_worstOf_121 : decode cX10_worstOf 121 = .ok (.bipush 8, 2) := by decide +kernel
theorem dX10_worstOf_123 : decode cX10_worstOf 123 = .ok (.iload_n 1, 1) := by decide +kernel
theorem dX10_worstOf_124 : decode cX10_worstOf 124 = .ok (.imul, 1) := by decide +kernel
theorem dX10_worstOf_125 : decode cX10_worstOf 125 = .ok (.iconst 5, 1) := by decide +kernel
theorem dX10_worstOf_126 : decode cX10_worstOf 126 = .ok (.iadd, 1) := by decide +kernel
theorem dX10_worstOf_127 : decode cX10_worstOf 127 = .ok (.iload_n 3, 1) := by decide +kernel
theorem dX10_worstOf_128 : decode cX10_worstOf 128 = .ok (.iastore, 1) := by decide +kernel
theorem dX10_worstOf_129 : decode cX10_worstOf 129 = .ok (.aload_n 0, 1) := by decide +kernel
theorem dX10_worstOf_130 : decode cX10_worstOf 130 = .ok (.getfield 19, 3) := by decide +kernel
theorem dX10_worstOf_133 : decode cX10_worstOf 133 = .ok (.bipush 8, 2) := by decide +kernel
theorem dX10_worstOf_135 : decode cX10_worstOf 135 = .ok (.iload_n 1, 1) := by decide +kernel
theorem dX10_worstOf_136 : decode cX10_worstOf 136 = .ok (.imul, 1) := by decide +kernel
theorem dX10_worstOf_137 : decode cX10_worstOf 137 = .ok (.bipush 6, 2) := by decide +kernel
theorem dX10_worstOf_139 : decode cX10_worstOf 139 = .ok (.iadd, 1) := by decide +kernel
theorem dX10_worstOf_140 : decode cX10_worstOf 140 = .ok (.iload 4, 2) := by decide +kernel
theorem dX10_worstOf_142 : decode cX10_worstOf 142 = .ok (.iastore, 1) := by decide +kernel
theorem dX10_worstOf_143 : decode cX10_worstOf 143 = .ok (.iload_n 2, 1) := by decide +kernel
theorem dX10_worstOf_144 : decode cX10_worstOf 144 = .ok (.iconst 5, 1) := by decide +kernel
theorem dX10_worstOf_145 : decode cX10_worstOf 145 = .ok (.if_icmp .ne 8, 3) := by decide +kernel
theorem dX10_worstOf_148 : decode cX10_worstOf 148 = .ok (.iload 5, 2) := by decide +kernel
theorem dX10_worstOf_150 : decode cX10_worstOf 150 = .ok (.goto 5, 3) := by decide +kernel
theorem dX10_worstOf_153 : decode cX10_worstOf 153 = .ok (.iload 6, 2) := by decide +kernel
theorem dX10_worstOf_155 : decode cX10_worstOf 155 = .ok (.ireturn, 1) := by decide +kernel
set_option maxRecDepth 20000 in
theorem ggX10_tell_X10_in : GoodIn wsX10_tell wsX10_in := goodIn_r _ [9] (by decide +kernel) (by decide +kernel)
set_option maxRecDepth 20000 in
theorem gX10_tell_X10_in : GoodIn wsX10_tell (va_wsS RX10 49 yX10_in wsX10_in) := goodIn_app (goodIn_of _ (by decide +kernel)) ggX10_tell_X10_in
set_option maxRecDepth 20000 in
theorem ggX10_tell_X10_badOf : GoodIn wsX10_tell wsX10_badOf := goodIn_r _ [13, 3, 29, 30, 31, 32, 33, 34, 35, 36, 37, 38, 39, 40, 41, 42, 43, 44, 45, 46, 47, 48, 49, 50, 51, 52, 53, 54] (by decide +kernel) (by decide +kernel)
set_option maxRecDepth 20000 in
theorem gX10_tell_X10_badOf : GoodIn wsX10_tell (wsV RX10 100 RX10 yX10_badOf wsX10_badOf) := goodIn_app (goodIn_of _ (by decide +kernel)) ggX10_tell_X10_badOf
set_option maxRecDepth 20000 in
theorem ggX10_tell_X10_votesOf : GoodIn wsX10_tell wsX10_votesOf := goodIn_r _ [17, 18, 19, 20, 21, 8, 22, 23, 24, 10, 11, 12, 13, 3, 29, 30, 31, 32, 33, 34, 35, 36, 37, 38, 39, 40, 41, 42, 43, 44, 45, 46, 47, 48, 49, 50, 51, 52, 53, 54] (by decide +kernel) (by decide +kernel)
set_option maxRecDepth 20000 in
theorem gX10_tell_X10_votesOf : GoodIn wsX10_tell (wsV RX10 107 RX10 yX10_votesOf wsX10_votesOf) := goodIn_app (goodIn_of _ (by decide +kernel)) ggX10_tell_X10_votesOf
set_option maxRecDepth 20000 in
theorem ggX10_tell_X10_worstOf : GoodIn wsX10_tell wsX10_worstOf := goodIn_r _ [28, 3, 14, 15, 16, 8, 17, 18, 19, 20, 21, 22, 23, 24, 10, 11, 12, 13, 29, 30, 31, 32, 33, 34, 35, 36, 37, 38, 39, 40, 41, 42, 43, 44, 45, 46, 47, 48, 49, 50, 51, 52, 53, 54] (by decide +kernel) (by decide +kernel)
set_option maxRecDepth 20000 in
theorem gX10_tell_X10_worstOf : GoodIn wsX10_tell (wsV RX10 118 RX10 yX10_worstOf wsX10_worstOf) := goodIn_app (goodIn_of _ (by decide +kernel)) ggX10_tell_X10_worstOf
theorem dX10_tell_0 : decode cX10_tell 0 = .ok (.iload_n 2, 1) := by decide +kernel
theorem dX10_tell_1 : decode cX10_tell 1 = .ok (.i2l, 1) := by decide +kernel
theorem dX10_tell_2 : decode cX10_tell 2 = .ok (.ldc2_w 110, 3) := by decide +kernel
theorem dX10_tell_5 : decode cX10_tell 5 = .ok (.ldc2_w 112, 3) := by decide +kernel
theorem dX10_tell_8 : decode cX10_tell 8 = .ok (.invokestatic 49, 3) := by decide +kernel
theorem dX10_tell_11 : decode cX10_tell 11 = .ok (.ifCond .eq 18, 3) := by decide +kernel
theorem dX10_tell_14 : decode cX10_tell 14 = .ok (.aload_n 0, 1) := by decide +kernel
theorem dX10_tell_15 : decode cX10_tell 15 = .ok (.getfield 19, 3) := by decide +kernel
theorem dX10_tell_18 : decode cX10_tell 18 = .ok (.bipush 8, 2) := by decide +kernel
theorem dX10_tell_20 : decode cX10_tell 20 = .ok (.iload_n 1, 1) := by decide +kernel
theorem dX10_tell_21 : decode cX10_tell 21 = .ok (.imul, 1) := by decide +kernel
theorem dX10_tell_22 : decode cX10_tell 22 = .ok (.iload_n 2, 1) := by decide +kernel
theorem dX10_tell_23 : decode cX10_tell 23 = .ok (.iadd, 1) := by decide +kernel
theorem dX10_tell_24 : decode cX10_tell 24 = .ok (.bipush 9, 2) := by decide +kernel
theorem dX10_tell_26 : decode cX10_tell 26 = .ok (.isub, 1) := by decide +kernel
theorem dX10_tell_27 : decode cX10_tell 27 = .ok (.iaload, 1) := by decide +kernel
theorem dX10_tell_28 : decode cX10_tell 28 = .ok (.ireturn, 1) := by decide +kernel
theorem dX10_tell_29 : decode cX10_tell 29 = .ok (.iload_n 2, 1) := by decide +kernel
theorem dX10_tell_30 : decode cX10_tell 30 = .ok (.i2l, 1) := by decide +kernel
theorem dX10_tell_31 : decode cX10_tell 31 = .ok (.ldc2_w 114, 3) := by decide +kernel
theorem dX10_tell_34 : decode cX10_tell 34 = .ok (.ldc2_w 116, 3) := by decide +kernel
theorem dX10_tell_37 : decode cX10_tell 37 = .ok (.invokestatic 49, 3) := by decide +kernel
theorem dX10_tell_40 : decode cX10_tell 40 = .ok (.ifCond .eq 13, 3) := by decide +kernel
theorem dX10_tell_43 : decode cX10_tell 43 = .ok (.aload_n 0, 1) := by decide +kernel
theorem dX10_tell_44 : decode cX10_tell 44 = .ok (.iload_n 1, 1) := by decide +kernel
theorem dX10_tell_45 : decode cX10_tell 45 = .ok (.iload_n 2, 1) := by decide +kernel
theorem dX10_tell_46 : decode cX10_tell 46 = .ok (.bipush 20, 2) := by decide +kernel
theorem dX10_tell_48 : decode cX10_tell 48 = .ok (.isub, 1) := by decide +kernel
theorem dX10_tell_49 : decode cX10_tell 49 = .ok (.invokevirtual 100, 3) := by decide +kernel
theorem dX10_tell_52 : decode cX10_tell 52 = .ok (.ireturn, 1) := by decide +kernel
theorem dX10_tell_53 : decode cX10_tell 53 = .ok (.iload_n 2, 1) := by decide +kernel
theorem dX10_tell_54 : decode cX10_tell 54 = .ok (.tableswitch 79 0 6 #[42, 52, 58, 58, 58, 72, 72], 42) := by decide +kernel
theorem dX10_tell_96 : decode cX10_tell 96 = .ok (.aload_n 0, 1) := by decide +kernel
theorem dX10_tell_97 : decode cX10_tell 97 = .ok (.getfield 19, 3) := by decide +kernel
theorem dX10_tell_100 : decode cX10_tell 100 = .ok (.bipush 8, 2) := by decide +kernel
theorem dX10_tell_102 : decode cX10_tell 102 = .ok (.iload_n 1, 1) := by decide +kernel
theorem dX10_tell_103 : decode cX10_tell 103 = .ok (.imul, 1) := by decide +kernel
theorem dX10_tell_104 : decode cX10_tell 104 = .ok (.iaload, 1) := by decide +kernel
theorem dX10_tell_105 : decode cX10_tell 105 = .ok (.ireturn, 1) := by decide +kernel
theorem dX10_tell_106 : decode cX10_tell 106 = .ok (.aload_n 0, 1) := by decide +kernel
theorem dX10_tell_107 : decode cX10_tell 107 = .ok (.iload_n 1, 1) := by decide +kernel
theorem dX10_tell_108 : decode cX10_tell 108 = .ok (.invokevirtual 107, 3) := by decide +kernel
theorem dX10_tell_111 : decode cX10_tell 111 = .ok (.ireturn, 1) := by decide +kernel
theorem dX10_tell_112 : decode cX10_tell 112 = .ok (.aload_n 0, 1) := by decide +kernel
theorem dX10_tell_113 : decode cX10_tell 113 = .ok (.getfield 19, 3) := by decide +kernel
theorem dX10_tell_116 : decode cX10_tell 116 = .ok (.bipush 8, 2) := by decide +kernel
theorem dX10_tell_118 : decode cX10_tell 118 = .ok (.iload_n 1, 1) := by decide +kernel
theorem dX10_tell_119 : decode cX10_tell 119 = .ok (.imul, 1) := by decide +kernel
theorem dX10_tell_120 : decode cX10_tell 120 = .ok (.iload_n 2, 1) := by decide +kernel
theorem dX10_tell_121 : decode cX10_tell 121 = .ok (.iadd, 1) := by decide +kernel
theorem dX10_tell_122 : decode cX10_tell 122 = .ok (.iconst 3, 1) := by decide +kernel
theorem dX10_tell_123 : decode cX10_tell 123 = .ok (.iadd, 1) := by decide +kernel
theorem dX10_tell_124 : decode cX10_tell 124 = .ok (.iaload, 1) := by decide +kernel
theorem dX10_tell_125 : decode cX10_tell 125 = .ok (.ireturn, 1) := by decide +kernel
theorem dX10_tell_126 : decode cX10_tell 126 = .ok (.aload_n 0, 1) := by decide +kernel
theorem dX10_tell_127 : decode cX10_tell 127 = .ok (.iload_n 1, 1) := by decide +kernel
theorem dX10_tell_128 : decode cX10_tell 128 = .ok (.iload_n 2, 1) := by decide +kernel
theorem dX10_tell_129 : decode cX10_tell 129 = .ok (.invokevirtual 118, 3) := by decide +kernel
theorem dX10_tell_132 : decode cX10_tell 132 = .ok (.ireturn, 1) := by decide +kernel
theorem dX10_tell_133 : decode cX10_tell 133 = .ok (.bipush (-102), 2) := by decide +kernel
theorem dX10_tell_135 : decode cX10_tell 135 = .ok (.ireturn, 1) := by decide +kernel
set_option maxRecDepth 20000 in
theorem ggX10_singer_X10_isSinger : GoodIn wsX10_singer wsX10_isSinger := goodIn_r _ [5, 6, 7, 8, 4, 9, 37, 38, 39, 40, 41, 42, 43, 44, 45, 46, 47, 48, 49, 50, 51, 52, 53, 54, 55, 56, 57, 58, 59, 60, 61, 62] (by decide +kernel) (by decide +kernel)
set_option maxRecDepth 20000 in
theorem gX10_singer_X10_isSinger : GoodIn wsX10_singer (wsV RX10 121 RX10 yX10_isSinger wsX10_isSinger) := goodIn_app (goodIn_of _ (by decide +kernel)) ggX10_singer_X10_isSinger
set_option maxRecDepth 20000 in
theorem ggX10_singer_X10_tell : GoodIn wsX10_singer wsX10_tell := goodIn_r _ [13, 14, 15, 16, 17, 18, 7, 8, 4, 9, 19, 20, 21, 22, 23, 24, 25, 26, 27, 28, 29, 30, 31, 6, 32, 33, 34, 35, 36, 37, 38, 39, 40, 41, 42, 43, 44, 45, 46, 47, 48, 49, 50, 51, 52, 53, 54, 55, 56, 57, 58, 59, 60, 61, 62] (by decide +kernel) (by decide +kernel)
set_option maxRecDepth 20000 in
theorem gX10_singer_X10_tell : GoodIn wsX10_singer (wsV RX10 124 RX10 yX10_tell wsX10_tell) := goodIn_app (goodIn_of _ (by decide +kernel)) ggX10_singer_X10_tell
theorem dX10_singer_0 : decode cX10_singer 0 = .ok (.aload_n 0, 1) := by decide +kernel
theorem dX10_singer_1 : decode cX10_singer 1 = .ok (.iload_n 1, 1) := by decide +kernel
theorem dX10_singer_2 : decode cX10_singer 2 = .ok (.invokevirtual 121, 3) := by decide +kernel
theorem dX10_singer_5 : decode cX10_singer 5 = .ok (.ifCond .eq 12, 3) := by decide +kernel
theorem dX10_singer_8 : decode cX10_singer 8 = .ok (.aload_n 0, 1) := by decide +kernel
theorem dX10_singer_9 : decode cX10_singer 9 = .ok (.iload_n 1, 1) := by decide +kernel
theorem dX10_singer_10 : decode cX10_singer 10 = .ok (.iload_n 2, 1) := by decide +kernel
theorem dX10_singer_11 : decode cX10_singer 11 = .ok (.invokevirtual 124, 3) := by decide +kernel
theorem dX10_singer_14 : decode cX10_singer 14 = .ok (.goto 5, 3) := by decide +kernel
theorem dX10_singer_17 : decode cX10_singer 17 = .ok (.bipush (-101), 2) := by decide +kernel
theorem dX10_singer_19 : decode cX10_singer 19 = .ok (.ireturn, 1) := by decide +kernel
set_option maxRecDepth 20000 in
theorem ggX10_as_X10_isSinger : GoodIn wsX10_as wsX10_isSinger := goodIn_r _ [7, 8, 9, 10, 6, 11, 12, 13, 14, 15, 16, 17, 18, 19, 20, 21, 22, 23, 24, 25, 26, 27, 28, 29, 30, 31, 32, 33, 34, 35, 36, 37] (by decide +kernel) (by decide +kernel)
set_option maxRecDepth 20000 in
theorem gX10_as_X10_isSinger : GoodIn wsX10_as (wsV RX10 121 RX10 yX10_isSinger wsX10_isSinger) := goodIn_app (goodIn_of _ (by decide +kernel)) ggX10_as_X10_isSinger
set_option maxRecDepth 20000 in
theorem ggX10_as_X10_in : GoodIn wsX10_as wsX10_in := goodIn_r _ [11] (by decide +kernel) (by decide +kernel)
set_option maxRecDepth 20000 in
theorem gX10_as_X10_in : GoodIn wsX10_as (va_wsS RX10 49 yX10_in wsX10_in) := goodIn_app (goodIn_of _ (by decide +kernel)) ggX10_as_X10_in
theorem dX10_as_0 : decode cX10_as 0 = .ok (.aload_n 0, 1) := by decide +kernel
theorem dX10_as_1 : decode cX10_as 1 = .ok (.iload_n 1, 1) := by decide +kernel
theorem dX10_as_2 : decode cX10_as 2 = .ok (.invokevirtual 121, 3) := by decide +kernel
theorem dX10_as_5 : decode cX10_as 5 = .ok (.ifCond .ne 6, 3) := by decide +kernel
theorem dX10_as_8 : decode cX10_as 8 = .ok (.bipush (-101), 2) := by decide +kernel
theorem dX10_as_10 : decode cX10_as 10 = .ok (.ireturn, 1) := by decide +kernel
theorem dX10_as_11 : decode cX10_as 11 = .ok (.iload_n 2, 1) := by decide +kernel
theorem dX10_as_12 : decode cX10_as 12 = .ok (.i2l, 1) := by decide +kernel
theorem dX10_as_13 : decode cX10_as 13 = .ok (.lconst 0, 1) := by decide +kernel
theorem dX10_as_14 : decode cX10_as 14 = .ok (.ldc2_w 127, 3) := by decide +kernel
theorem dX10_as_17 : decode cX10_as 17 = .ok (.invokestatic 49, 3) := by decide +kernel
theorem dX10_as_20 : decode cX10_as 20 = .ok (.ifCond .ne 6, 3) := by decide +kernel
theorem dX10_as_23 : decode cX10_as 23 = .ok (.bipush (-102), 2) := by decide +kernel
theorem dX10_as_25 : decode cX10_as 25 = .ok (.ireturn, 1) := by decide +kernel
theorem dX10_as_26 : decode cX10_as 26 = .ok (.aload_n 0, 1) := by decide +kernel
theorem dX10_as_27 : decode cX10_as 27 = .ok (.getfield 19, 3) := by decide +kernel
theorem dX10_as_30 : decode cX10_as 30 = .ok (.bipush 8, 2) := by decide +kernel
theorem dX10_as_32 : decode cX10_as 32 = .ok (.iload_n 1, 1) := by decide +kernel
theorem dX10_as_33 : decode cX10_as 33 = .ok (.imul, 1) := by decide +kernel
theorem dX10_as_34 : decode cX10_as 34 = .ok (.iaload, 1) := by decide +kernel
theorem dX10_as_35 : decode cX10_as 35 = .ok (.istore_n 3, 1) := by decide +kernel
theorem dX10_as_36 : decode cX10_as 36 = .ok (.iload_n 2, 1) := by decide +kernel
theorem dX10_as_37 : decode cX10_as 37 = .ok (.ifCond .eq 18, 3) := by decide +kernel
theorem dX10_as_40 : decode cX10_as 40 = .ok (.iload_n 2, 1) := by decide +kernel
theorem dX10_as_41 : decode cX10_as 41 = .ok (.iload_n 3, 1) := by decide +kernel
theorem dX10_as_42 : decode cX10_as 42 = .ok (.if_icmp .eq 13, 3) := by decide +kernel
theorem dX10_as_45 : decode cX10_as 45 = .ok (.iload_n 2, 1) := by decide +kernel
theorem dX10_as_46 : decode cX10_as 46 = .ok (.iconst 1, 1) := by decide +kernel
theorem dX10_as_47 : decode cX10_as 47 = .ok (.if_icmp .ne 12, 3) := by decide +kernel
theorem dX10_as_50 : decode cX10_as 50 = .ok (.iload_n 3, 1) := by decide +kernel
theorem dX10_as_51 : decode cX10_as 51 = .ok (.iconst 4, 1) := by decide +kernel
theorem dX10_as_52 : decode cX10_as 52 = .ok (.if_icmp .ne 7, 3) := by decide +kernel
theorem dX10_as_55 : decode cX10_as 55 = .ok (.iconst 1, 1) := by decide +kernel
theorem dX10_as_56 : decode cX10_as 56 = .ok (.goto 4, 3) := by decide +kernel
theorem dX10_as_59 : decode cX10_as 59 = .ok (.iconst 0, 1) := by decide +kernel
theorem dX10_as_60 : decode cX10_as 60 = .ok (.istore 4, 2) := by decide +kernel
theorem dX10_as_62 : decode cX10_as 62 = .ok (.iload 4, 2) := by decide +kernel
theorem dX10_as_64 : decode cX10_as 64 = .ok (.ifCond .eq 7, 3) := by decide +kernel
theorem dX10_as_67 : decode cX10_as 67 = .ok (.iload_n 1, 1) := by decide +kernel
theorem dX10_as_68 : decode cX10_as 68 = .ok (.goto 4, 3) := by decide +kernel
theorem dX10_as_71 : decode cX10_as 71 = .ok (.iconst (-1), 1) := by decide +kernel
theorem dX10_as_72 : decode cX10_as 72 = .ok (.ireturn, 1) := by decide +kernel
set_option maxRecDepth 20000 in
theorem ggX10_tellWidow_X10_forWhom : GoodIn wsX10_tellWidow wsX10_forWhom := goodIn_r _ [6, 7, 1, 8, 9, 10, 5, 11, 12, 34, 35, 36, 37, 38, 39, 40, 41, 42, 43, 44, 45, 46, 47, 48, 49, 50, 51, 52, 53, 54, 55, 56, 57, 58, 59] (by decide +kernel) (by decide +kernel)
set_option maxRecDepth 20000 in
theorem gX10_tellWidow_X10_forWhom : GoodIn wsX10_tellWidow (wsV RX10 104 RX10 yX10_forWhom wsX10_forWhom) := goodIn_app (goodIn_of _ (by decide +kernel)) ggX10_tellWidow_X10_forWhom
set_option maxRecDepth 20000 in
theorem ggX10_tellWidow_X10_badOf : GoodIn wsX10_tellWidow wsX10_badOf := goodIn_r _ [11, 12, 34, 35, 36, 37, 38, 39, 40, 41, 42, 43, 44, 45, 46, 47, 48, 49, 50, 51, 52, 53, 54, 55, 56, 57, 58, 59] (by decide +kernel) (by decide +kernel)
set_option maxRecDepth 20000 in
theorem gX10_tellWidow_X10_badOf : GoodIn wsX10_tellWidow (wsV RX10 100 RX10 yX10_badOf wsX10_badOf) := goodIn_app (goodIn_of _ (by decide +kernel)) ggX10_tellWidow_X10_badOf
set_option maxRecDepth 20000 in
theorem ggX10_tellWidow_X10_mindsOf : GoodIn wsX10_tellWidow wsX10_mindsOf := goodIn_r _ [16, 17, 18, 19, 20, 21, 5, 22, 8, 9, 10, 11, 12, 34, 35, 36, 37, 38, 39, 40, 41, 42, 43, 44, 45, 46, 47, 48, 49, 50, 51, 52, 53, 54, 55, 56, 57, 58, 59] (by decide +kernel) (by decide +kernel)
set_option maxRecDepth 20000 in
theorem gX10_tellWidow_X10_mindsOf : GoodIn wsX10_tellWidow (wsV RX10 129 RX10 yX10_mindsOf wsX10_mindsOf) := goodIn_app (goodIn_of _ (by decide +kernel)) ggX10_tellWidow_X10_mindsOf
set_option maxRecDepth 20000 in
theorem ggX10_tellWidow_X10_askOf : GoodIn wsX10_tellWidow wsX10_askOf := goodIn_r _ [26, 13, 14, 15, 5, 16, 17, 18, 19, 20, 21, 22, 8, 9, 10, 11, 12, 27, 28, 29, 30, 7, 31, 32, 33, 34, 35, 36, 37, 38, 39, 40, 41, 42, 43, 44, 45, 46, 47, 48, 49, 50, 51, 52, 53, 54, 55, 56, 57, 58, 59] (by decide +kernel) (by decide +kernel)
set_option maxRecDepth 20000 in
theorem gX10_tellWidow_X10_askOf : GoodIn wsX10_tellWidow (wsV RX10 132 RX10 yX10_askOf wsX10_askOf) := goodIn_app (goodIn_of _ (by decide +kernel)) ggX10_tellWidow_X10_askOf
theorem dX10_tellWidow_0 : decode cX10_tellWidow 0 = .ok (.iload_n 2, 1) := by decide +kernel
theorem dX10_tellWidow_1 : decode cX10_tellWidow 1 = .ok (.tableswitch 76 0 4 #[35, 42, 48, 64, 70], 35) := by decide +kernel
theorem dX10_tellWidow_36 : decode cX10_tellWidow 36 = .ok (.aload_n 0, 1) := by decide +kernel
theorem dX10_tellWidow_37 : decode cX10_tellWidow 37 = .ok (.getfield 22, 3) := by decide +kernel
theorem dX10_tellWidow_40 : decode cX10_tellWidow 40 = .ok (.iload_n 1, 1) := by decide +kernel
theorem dX10_tellWidow_41 : decode cX10_tellWidow 41 = .ok (.iaload, 1) := by decide +kernel
theorem dX10_tellWidow_42 : decode cX10_tellWidow 42 = .ok (.ireturn, 1) := by decide +kernel
theorem dX10_tellWidow_43 : decode cX10_tellWidow 43 = .ok (.aload_n 0, 1) := by decide +kernel
theorem dX10_tellWidow_44 : decode cX10_tellWidow 44 = .ok (.iload_n 1, 1) := by decide +kernel
theorem dX10_tellWidow_45 : decode cX10_tellWidow 45 = .ok (.invokevirtual 104, 3) := by decide +kernel
theorem dX10_tellWidow_48 : decode cX10_tellWidow 48 = .ok (.ireturn, 1) := by decide +kernel
theorem dX10_tellWidow_49 : decode cX10_tellWidow 49 = .ok (.aload_n 0, 1) := by decide +kernel
theorem dX10_tellWidow_50 : decode cX10_tellWidow 50 = .ok (.aload_n 0, 1) := by decide +kernel
theorem dX10_tellWidow_51 : decode cX10_tellWidow 51 = .ok (.iload_n 1, 1) := by decide +kernel
theorem dX10_tellWidow_52 : decode cX10_tellWidow 52 = .ok (.invokevirtual 104, 3) := by decide +kernel
theorem dX10_tellWidow_55 : decode cX10_tellWidow 55 = .ok (.aload_n 0, 1) := by decide +kernel
theorem dX10_tellWidow_56 : decode cX10_tellWidow 56 = .ok (.getfield 22, 3) := by decide +kernel
theorem dX10_tellWidow_59 : decode cX10_tellWidow 59 = .ok (.iload_n 1, 1) := by decide +kernel
theorem dX10_tellWidow_60 : decode cX10_tellWidow 60 = .ok (.iaload, 1) := by decide +kernel
theorem dX10_tellWidow_61 : decode cX10_tellWidow 61 = .ok (.invokevirtual 100, 3) := by decide +kernel
theorem dX10_tellWidow_64 : decode cX10_tellWidow 64 = .ok (.ireturn, 1) := by decide +kernel
theorem dX10_tellWidow_65 : decode cX10_tellWidow 65 = .ok (.aload_n 0, 1) := by decide +kernel
theorem dX10_tellWidow_66 : decode cX10_tellWidow 66 = .ok (.iload_n 1, 1) := by decide +kernel
theorem dX10_tellWidow_67 : decode cX10_tellWidow 67 = .ok (.invokevirtual 129, 3) := by decide +kernel
theorem dX10_tellWidow_70 : decode cX10_tellWidow 70 = .ok (.ireturn, 1) := by decide +kernel
theorem dX10_tellWidow_71 : decode cX10_tellWidow 71 = .ok (.aload_n 0, 1) := by decide +kernel
theorem dX10_tellWidow_72 : decode cX10_tellWidow 72 = .ok (.iload_n 1, 1) := by decide +kernel
theorem dX10_tellWidow_73 : decode cX10_tellWidow 73 = .ok (.invokevirtual 132, 3) := by decide +kernel
theorem dX10_tellWidow_76 : decode cX10_tellWidow 76 = .ok (.ireturn, 1) := by decide +kernel
theorem dX10_tellWidow_77 : decode cX10_tellWidow 77 = .ok (.bipush (-102), 2) := by decide +kernel
theorem dX10_tellWidow_79 : decode cX10_tellWidow 79 = .ok (.ireturn, 1) := by decide +kernel
set_option maxRecDepth 20000 in
theorem ggX10_widow_X10_isWidow : GoodIn wsX10_widow wsX10_isWidow := goodIn_r _ [5, 6, 7, 8, 4, 9, 43, 44, 45, 46, 47, 48, 49, 50, 51, 52, 53, 54, 55, 56, 57, 58, 59, 60, 61, 62, 63, 64, 65, 66, 67, 68] (by decide +kernel) (by decide +kernel)
set_option maxRecDepth 20000 in
theorem gX10_widow_X10_isWidow : GoodIn wsX10_widow (wsV RX10 135 RX10 yX10_isWidow wsX10_isWidow) := goodIn_app (goodIn_of _ (by decide +kernel)) ggX10_widow_X10_isWidow
set_option maxRecDepth 20000 in
theorem ggX10_widow_X10_tellWidow : GoodIn wsX10_widow wsX10_tellWidow := goodIn_r _ [13, 14, 15, 16, 17, 4, 18, 19, 20, 21, 22, 23, 24, 25, 26, 27, 28, 29, 30, 31, 32, 33, 34, 35, 36, 37, 38, 39, 40, 41, 42, 7, 8, 9, 43, 44, 45, 46, 47, 48, 49, 50, 51, 52, 53, 54, 55, 56, 57, 58, 59, 60, 61, 62, 63, 64, 65, 66, 67, 68] (by decide +kernel) (by decide +kernel)
set_option maxRecDepth 20000 in
theorem gX10_widow_X10_tellWidow : GoodIn wsX10_widow (wsV RX10 138 RX10 yX10_tellWidow wsX10_tellWidow) := goodIn_app (goodIn_of _ (by decide +kernel)) ggX10_widow_X10_tellWidow
theorem dX10_widow_0 : decode cX10_widow 0 = .ok (.aload_n 0, 1) := by decide +kernel
theorem dX10_widow_1 : decode cX10_widow 1 = .ok (.iload_n 1, 1) := by decide +kernel
theorem dX10_widow_2 : decode cX10_widow 2 = .ok (.invokevirtual 135, 3) := by decide +kernel
theorem dX10_widow_5 : decode cX10_widow 5 = .ok (.ifCond .eq 12, 3) := by decide +kernel
theorem dX10_widow_8 : decode cX10_widow 8 = .ok (.aload_n 0, 1) := by decide +kernel
theorem dX10_widow_9 : decode cX10_widow 9 = .ok (.iload_n 1, 1) := by decide +kernel
theorem dX10_widow_10 : decode cX10_widow 10 = .ok (.iload_n 2, 1) := by decide +kernel
theorem dX10_widow_11 : decode cX10_widow 11 = .ok (.invokevirtual 138, 3) := by decide +kernel
theorem dX10_widow_14 : decode cX10_widow 14 = .ok (.goto 5, 3) := by decide +kernel
theorem dX10_widow_17 : decode cX10_widow 17 = .ok (.bipush (-101), 2) := by decide +kernel
theorem dX10_widow_19 : decode cX10_widow 19 = .ok (.ireturn, 1) := by decide +kernel
set_option maxRecDepth 20000 in
theorem ggX10_wince_X10_isWidow : GoodIn wsX10_wince wsX10_isWidow := goodIn_r _ [6, 7, 8, 9, 5, 10, 21, 22, 23, 24, 25, 26, 27, 28, 29, 30, 31, 32, 33, 34, 35, 36, 37, 38, 39, 40, 41, 42, 43, 44, 45, 46] (by decide +kernel) (by decide +kernel)
set_option maxRecDepth 20000 in
theorem gX10_wince_X10_isWidow : GoodIn wsX10_wince (wsV RX10 135 RX10 yX10_isWidow wsX10_isWidow) := goodIn_app (goodIn_of _ (by decide +kernel)) ggX10_wince_X10_isWidow
set_option maxRecDepth 20000 in
theorem ggX10_wince_X10_isSinger : GoodIn wsX10_wince wsX10_isSinger := goodIn_r _ [14, 15, 8, 9, 5, 10, 21, 22, 23, 24, 25, 26, 27, 28, 29, 30, 31, 32, 33, 34, 35, 36, 37, 38, 39, 40, 41, 42, 43, 44, 45, 46] (by decide +kernel) (by decide +kernel)
set_option maxRecDepth 20000 in
theorem gX10_wince_X10_isSinger : GoodIn wsX10_wince (wsV RX10 121 RX10 yX10_isSinger wsX10_isSinger) := goodIn_app (goodIn_of _ (by decide +kernel)) ggX10_wince_X10_isSinger
set_option maxRecDepth 20000 in
theorem ggX10_wince_X10_badOf : GoodIn wsX10_wince wsX10_badOf := goodIn_r _ [19, 20, 21, 22, 23, 24, 25, 26, 27, 28, 29, 30, 31, 32, 33, 34, 35, 36, 37, 38, 39, 40, 41, 42, 43, 44, 45, 46] (by decide +kernel) (by decide +kernel)
set_option maxRecDepth 20000 in
theorem gX10_wince_X10_badOf : GoodIn wsX10_wince (wsV RX10 100 RX10 yX10_badOf wsX10_badOf) := goodIn_app (goodIn_of _ (by decide +kernel)) ggX10_wince_X10_badOf
theorem dX10_wince_0 : decode cX10_wince 0 = .ok (.aload_n 0, 1) := by decide +kernel
theorem dX10_wince_1 : decode cX10_wince 1 = .ok (.iload_n 1, 1) := by decide +kernel
theorem dX10_wince_2 : decode cX10_wince 2 = .ok (.invokevirtual 135, 3) := by decide +kernel
theorem dX10_wince_5 : decode cX10_wince 5 = .ok (.ifCond .eq 25, 3) := by decide +kernel
theorem dX10_wince_8 : decode cX10_wince 8 = .ok (.aload_n 0, 1) := by decide +kernel
theorem dX10_wince_9 : decode cX10_wince 9 = .ok (.iload_n 2, 1) := by decide +kernel
theorem dX10_wince_10 : decode cX10_wince 10 = .ok (.invokevirtual 121, 3) := by decide +kernel
theorem dX10_wince_13 : decode cX10_wince 13 = .ok (.ifCond .eq 17, 3) := by decide +kernel
theorem dX10_wince_16 : decode cX10_wince 16 = .ok (.aload_n 0, 1) := by decide +kernel
theorem dX10_wince_17 : decode cX10_wince 17 = .ok (.iload_n 2, 1) := by decide +kernel
theorem dX10_wince_18 : decode cX10_wince 18 = .ok (.aload_n 0, 1) := by decide +kernel
theorem dX10_wince_19 : decode cX10_wince 19 = .ok (.getfield 22, 3) := by decide +kernel
theorem dX10_wince_22 : decode cX10_wince 22 = .ok (.iload_n 1, 1) := by decide +kernel
theorem dX10_wince_23 : decode cX10_wince 23 = .ok (.iaload, 1) := by decide +kernel
theorem dX10_wince_24 : decode cX10_wince 24 = .ok (.invokevirtual 100, 3) := by decide +kernel
theorem dX10_wince_27 : decode cX10_wince 27 = .ok (.goto 5, 3) := by decide +kernel
theorem dX10_wince_30 : decode cX10_wince 30 = .ok (.bipush (-101), 2) := by decide +kernel
theorem dX10_wince_32 : decode cX10_wince 32 = .ok (.ireturn, 1) := by decide +kernel
set_option maxRecDepth 20000 in
theorem ggX10_cold_X10_isSinger : GoodIn wsX10_cold wsX10_isSinger := goodIn_r _ [6, 7, 8, 9, 5, 10, 11, 12, 13, 14, 15, 16, 17, 18, 19, 20, 21, 22, 23, 24, 25, 26, 27, 28, 29, 30, 31, 32, 33, 34, 35, 36] (by decide +kernel) (by decide +kernel)
set_option maxRecDepth 20000 in
theorem gX10_cold_X10_isSinger : GoodIn wsX10_cold (wsV RX10 121 RX10 yX10_isSinger wsX10_isSinger) := goodIn_app (goodIn_of _ (by decide +kernel)) ggX10_cold_X10_isSinger
theorem dX10_cold_0 : decode cX10_cold 0 = .ok (.aload_n 0, 1) := by decide +kernel
theorem dX10_cold_1 : decode cX10_cold 1 = .ok (.iload_n 1, 1) := by decide +kernel
theorem dX10_cold_2 : decode cX10_cold 2 = .ok (.invokevirtual 121, 3) := by decide +kernel
theorem dX10_cold_5 : decode cX10_cold 5 = .ok (.ifCond .ne 6, 3) := by decide +kernel
theorem dX10_cold_8 : decode cX10_cold 8 = .ok (.bipush (-101), 2) := by decide +kernel
theorem dX10_cold_10 : decode cX10_cold 10 = .ok (.ireturn, 1) := by decide +kernel
theorem dX10_cold_11 : decode cX10_cold 11 = .ok (.aload_n 0, 1) := by decide +kernel
theorem dX10_cold_12 : decode cX10_cold 12 = .ok (.getfield 19, 3) := by decide +kernel
theorem dX10_cold_15 : decode cX10_cold 15 = .ok (.bipush 8, 2) := by decide +kernel
theorem dX10_cold_17 : decode cX10_cold 17 = .ok (.iload_n 1, 1) := by decide +kernel
theorem dX10_cold_18 : decode cX10_cold 18 = .ok (.imul, 1) := by decide +kernel
theorem dX10_cold_19 : decode cX10_cold 19 = .ok (.iconst 5, 1) := by decide +kernel
theorem dX10_cold_20 : decode cX10_cold 20 = .ok (.iadd, 1) := by decide +kernel
theorem dX10_cold_21 : decode cX10_cold 21 = .ok (.iaload, 1) := by decide +kernel
theorem dX10_cold_22 : decode cX10_cold 22 = .ok (.istore_n 3, 1) := by decide +kernel
theorem dX10_cold_23 : decode cX10_cold 23 = .ok (.aload_n 0, 1) := by decide +kernel
theorem dX10_cold_24 : decode cX10_cold 24 = .ok (.getfield 19, 3) := by decide +kernel
theorem dX10_cold_27 : decode cX10_cold 27 = .ok (.bipush 8, 2) := by decide +kernel
theorem dX10_cold_29 : decode cX10_cold 29 = .ok (.iload_n 1, 1) := by decide +kernel
theorem dX10_cold_30 : decode cX10_cold 30 = .ok (.imul, 1) := by decide +kernel
theorem dX10_cold_31 : decode cX10_cold 31 = .ok (.iconst 5, 1) := by decide +kernel
theorem dX10_cold_32 : decode cX10_cold 32 = .ok (.iadd, 1) := by decide +kernel
theorem dX10_cold_33 : decode cX10_cold 33 = .ok (.iload_n 2, 1) := by decide +kernel
theorem dX10_cold_34 : decode cX10_cold 34 = .ok (.ifCond .eq 7, 3) := by decide +kernel
theorem dX10_cold_37 : decode cX10_cold 37 = .ok (.iconst 1, 1) := by decide +kernel
theorem dX10_cold_38 : decode cX10_cold 38 = .ok (.goto 4, 3) := by decide +kernel
theorem dX10_cold_41 : decode cX10_cold 41 = .ok (.iconst 0, 1) := by decide +kernel
theorem dX10_cold_42 : decode cX10_cold 42 = .ok (.iastore, 1) := by decide +kernel
theorem dX10_cold_43 : decode cX10_cold 43 = .ok (.iload_n 3, 1) := by decide +kernel
theorem dX10_cold_44 : decode cX10_cold 44 = .ok (.ireturn, 1) := by decide +kernel
set_option maxRecDepth 20000 in
theorem ggX10_aisle_X10_isSinger : GoodIn wsX10_aisle wsX10_isSinger := goodIn_r _ [6, 7, 8, 9, 5, 10, 11, 12, 13, 14, 15, 16, 17, 18, 19, 20, 21, 22, 23, 24, 25, 26, 27, 28, 29, 30, 31, 32, 33, 34, 35, 36] (by decide +kernel) (by decide +kernel)
set_option maxRecDepth 20000 in
theorem gX10_aisle_X10_isSinger : GoodIn wsX10_aisle (wsV RX10 121 RX10 yX10_isSinger wsX10_isSinger) := goodIn_app (goodIn_of _ (by decide +kernel)) ggX10_aisle_X10_isSinger
theorem dX10_aisle_0 : decode cX10_aisle 0 = .ok (.aload_n 0, 1) := by decide +kernel
theorem dX10_aisle_1 : decode cX10_aisle 1 = .ok (.iload_n 1, 1) := by decide +kernel
theorem dX10_aisle_2 : decode cX10_aisle 2 = .ok (.invokevirtual 121, 3) := by decide +kernel
theorem dX10_aisle_5 : decode cX10_aisle 5 = .ok (.ifCond .ne 6, 3) := by decide +kernel
theorem dX10_aisle_8 : decode cX10_aisle 8 = .ok (.bipush (-101), 2) := by decide +kernel
theorem dX10_aisle_10 : decode cX10_aisle 10 = .ok (.ireturn, 1) := by decide +kernel
theorem dX10_aisle_11 : decode cX10_aisle 11 = .ok (.aload_n 0, 1) := by decide +kernel
theorem dX10_aisle_12 : decode cX10_aisle 12 = .ok (.getfield 19, 3) := by decide +kernel
theorem dX10_aisle_15 : decode cX10_aisle 15 = .ok (.bipush 8, 2) := by decide +kernel
theorem dX10_aisle_17 : decode cX10_aisle 17 = .ok (.iload_n 1, 1) := by decide +kernel
theorem dX10_aisle_18 : decode cX10_aisle 18 = .ok (.imul, 1) := by decide +kernel
theorem dX10_aisle_19 : decode cX10_aisle 19 = .ok (.bipush 6, 2) := by decide +kernel
theorem dX10_aisle_21 : decode cX10_aisle 21 = .ok (.iadd, 1) := by decide +kernel
theorem dX10_aisle_22 : decode cX10_aisle 22 = .ok (.iaload, 1) := by decide +kernel
theorem dX10_aisle_23 : decode cX10_aisle 23 = .ok (.istore_n 3, 1) := by decide +kernel
theorem dX10_aisle_24 : decode cX10_aisle 24 = .ok (.aload_n 0, 1) := by decide +kernel
theorem dX10_aisle_25 : decode cX10_aisle 25 = .ok (.getfield 19, 3) := by decide +kernel
theorem dX10_aisle_28 : decode cX10_aisle 28 = .ok (.bipush 8, 2) := by decide +kernel
theorem dX10_aisle_30 : decode cX10_aisle 30 = .ok (.iload_n 1, 1) := by decide +kernel
theorem dX10_aisle_31 : decode cX10_aisle 31 = .ok (.imul, 1) := by decide +kernel
theorem dX10_aisle_32 : decode cX10_aisle 32 = .ok (.bipush 6, 2) := by decide +kernel
theorem dX10_aisle_34 : decode cX10_aisle 34 = .ok (.iadd, 1) := by decide +kernel
theorem dX10_aisle_35 : decode cX10_aisle 35 = .ok (.iload_n 2, 1) := by decide +kernel
theorem dX10_aisle_36 : decode cX10_aisle 36 = .ok (.ifCond .eq 7, 3) := by decide +kernel
theorem dX10_aisle_39 : decode cX10_aisle 39 = .ok (.iconst 1, 1) := by decide +kernel
theorem dX10_aisle_40 : decode cX10_aisle 40 = .ok (.goto 4, 3) := by decide +kernel
theorem dX10_aisle_43 : decode cX10_aisle 43 = .ok (.iconst 0, 1) := by decide +kernel
theorem dX10_aisle_44 : decode cX10_aisle 44 = .ok (.iastore, 1) := by decide +kernel
theorem dX10_aisle_45 : decode cX10_aisle 45 = .ok (.iload_n 3, 1) := by decide +kernel
theorem dX10_aisle_46 : decode cX10_aisle 46 = .ok (.ireturn, 1) := by decide +kernel
set_option maxRecDepth 20000 in
theorem ggX10_honey_X10_isSinger : GoodIn wsX10_honey wsX10_isSinger := goodIn_r _ [7, 8, 9, 10, 6, 11, 12, 13, 14, 15, 16, 17, 18, 19, 20, 21, 22, 23, 24, 25, 26, 27, 28, 29, 30, 31, 32, 33, 34, 35, 36, 37] (by decide +kernel) (by decide +kernel)
set_option maxRecDepth 20000 in
theorem gX10_honey_X10_isSinger : GoodIn wsX10_honey (wsV RX10 121 RX10 yX10_isSinger wsX10_isSinger) := goodIn_app (goodIn_of _ (by decide +kernel)) ggX10_honey_X10_isSinger
set_option maxRecDepth 20000 in
theorem ggX10_honey_X10_in : GoodIn wsX10_honey wsX10_in := goodIn_r _ [11] (by decide +kernel) (by decide +kernel)
set_option maxRecDepth 20000 in
theorem gX10_honey_X10_in : GoodIn wsX10_honey (va_wsS RX10 49 yX10_in wsX10_in) := goodIn_app (goodIn_of _ (by decide +kernel)) ggX10_honey_X10_in
theorem dX10_honey_0 : decode cX10_honey 0 = .ok (.aload_n 0, 1) := by decide +kernel
theorem dX10_honey_1 : decode cX10_honey 1 = .ok (.iload_n 1, 1) := by decide +kernel
theorem dX10_honey_2 : decode cX10_honey 2 = .ok (.invokevirtual 121, 3) := by decide +kernel
theorem dX10_honey_5 : decode cX10_honey 5 = .ok (.ifCond .ne 6, 3) := by decide +kernel
theorem dX10_honey_8 : decode cX10_honey 8 = .ok (.bipush (-101), 2) := by decide +kernel
theorem dX10_honey_10 : decode cX10_honey 10 = .ok (.ireturn, 1) := by decide +kernel
theorem dX10_honey_11 : decode cX10_honey 11 = .ok (.iload_n 2, 1) := by decide +kernel
theorem dX10_honey_12 : decode cX10_honey 12 = .ok (.i2l, 1) := by decide +kernel
theorem dX10_honey_13 : decode cX10_honey 13 = .ok (.lconst 0, 1) := by decide +kernel
theorem dX10_honey_14 : decode cX10_honey 14 = .ok (.ldc2_w 66, 3) := by decide +kernel
theorem dX10_honey_17 : decode cX10_honey 17 = .ok (.invokestatic 49, 3) := by decide +kernel
theorem dX10_honey_20 : decode cX10_honey 20 = .ok (.ifCond .ne 6, 3) := by decide +kernel
theorem dX10_honey_23 : decode cX10_honey 23 = .ok (.bipush (-102), 2) := by decide +kernel
theorem dX10_honey_25 : decode cX10_honey 25 = .ok (.ireturn, 1) := by decide +kernel
theorem dX10_honey_26 : decode cX10_honey 26 = .ok (.aload_n 0, 1) := by decide +kernel
theorem dX10_honey_27 : decode cX10_honey 27 = .ok (.getfield 19, 3) := by decide +kernel
theorem dX10_honey_30 : decode cX10_honey 30 = .ok (.bipush 8, 2) := by decide +kernel
theorem dX10_honey_32 : decode cX10_honey 32 = .ok (.iload_n 1, 1) := by decide +kernel
theorem dX10_honey_33 : decode cX10_honey 33 = .ok (.imul, 1) := by decide +kernel
theorem dX10_honey_34 : decode cX10_honey 34 = .ok (.bipush 7, 2) := by decide +kernel
theorem dX10_honey_36 : decode cX10_honey 36 = .ok (.iadd, 1) := by decide +kernel
theorem dX10_honey_37 : decode cX10_honey 37 = .ok (.iaload, 1) := by decide +kernel
theorem dX10_honey_38 : decode cX10_honey 38 = .ok (.istore_n 3, 1) := by decide +kernel
theorem dX10_honey_39 : decode cX10_honey 39 = .ok (.aload_n 0, 1) := by decide +kernel
theorem dX10_honey_40 : decode cX10_honey 40 = .ok (.getfield 19, 3) := by decide +kernel
theorem dX10_honey_43 : decode cX10_honey 43 = .ok (.bipush 8, 2) := by decide +kernel
theorem dX10_honey_45 : decode cX10_honey 45 = .ok (.iload_n 1, 1) := by decide +kernel
theorem dX10_honey_46 : decode cX10_honey 46 = .ok (.imul, 1) := by decide +kernel
theorem dX10_honey_47 : decode cX10_honey 47 = .ok (.bipush 7, 2) := by decide +kernel
theorem dX10_honey_49 : decode cX10_honey 49 = .ok (.iadd, 1) := by decide +kernel
theorem dX10_honey_50 : decode cX10_honey 50 = .ok (.iload_n 2, 1) := by decide +kernel
theorem dX10_honey_51 : decode cX10_honey 51 = .ok (.iastore, 1) := by decide +kernel
theorem dX10_honey_52 : decode cX10_honey 52 = .ok (.iload_n 3, 1) := by decide +kernel
theorem dX10_honey_53 : decode cX10_honey 53 = .ok (.ireturn, 1) := by decide +kernel
theorem dX10_weekOf_0 : decode cX10_weekOf 0 = .ok (.iconst 0, 1) := by decide +kernel
theorem dX10_weekOf_1 : decode cX10_weekOf 1 = .ok (.istore_n 2, 1) := by decide +kernel
theorem dX10_weekOf_2 : decode cX10_weekOf 2 = .ok (.iconst 0, 1) := by decide +kernel
theorem dX10_weekOf_3 : decode cX10_weekOf 3 = .ok (.istore_n 3, 1) := by decide +kernel
theorem dX10_weekOf_4 : decode cX10_weekOf 4 = .ok (.iload_n 3, 1) := by decide +kernel
theorem dX10_weekOf_5 : decode cX10_weekOf 5 = .ok (.iconst 4, 1) := by decide +kernel
theorem dX10_weekOf_6 : decode cX10_weekOf 6 = .ok (.if_icmp .ge 102, 3) := by decide +kernel
theorem dX10_weekOf_9 : decode cX10_weekOf 9 = .ok (.aload_n 0, 1) := by decide +kernel
theorem dX10_weekOf_10 : decode cX10_weekOf 10 = .ok (.getfield 19, 3) := by decide +kernel
theorem dX10_weekOf_13 : decode cX10_weekOf 13 = .ok (.bipush 8, 2) := by decide +kernel
theorem dX10_weekOf_15 : decode cX10_weekOf 15 = .ok (.iload_n 1, 1) := by decide +kernel
theorem dX10_weekOf_16 : decode cX10_weekOf 16 = .ok (.imul, 1) := by decide +kernel
theorem dX10_weekOf_17 : decode cX10_weekOf 17 = .ok (.iconst 1, 1) := by decide +kernel
theorem dX10_weekOf_18 : decode cX10_weekOf 18 = .ok (.iadd, 1) := by decide +kernel
theorem dX10_weekOf_19 : decode cX10_weekOf 19 = .ok (.iload_n 3, 1) := by decide +kernel
theorem dX10_weekOf_20 : decode cX10_weekOf 20 = .ok (.iadd, 1) := by decide +kernel
theorem dX10_weekOf_21 : decode cX10_weekOf 21 = .ok (.iaload, 1) := by decide +kernel
theorem dX10_weekOf_22 : decode cX10_weekOf 22 = .ok (.istore 4, 2) := by decide +kernel
theorem dX10_weekOf_24 : decode cX10_weekOf 24 = .ok (.aload_n 0, 1) := by decide +kernel
theorem dX10_weekOf_25 : decode cX10_weekOf 25 = .ok (.getfield 19, 3) := by decide +kernel
theorem dX10_weekOf_28 : decode cX10_weekOf 28 = .ok (.bipush 8, 2) := by decide +kernel
theorem dX10_weekOf_30 : decode cX10_weekOf 30 = .ok (.iload_n 1, 1) := by decide +kernel
theorem dX10_weekOf_31 : decode cX10_weekOf 31 = .ok (.imul, 1) := by decide +kernel
theorem dX10_weekOf_32 : decode cX10_weekOf 32 = .ok (.iaload, 1) := by decide +kernel
theorem dX10_weekOf_33 : decode cX10_weekOf 33 = .ok (.iconst 2, 1) := by decide +kernel
theorem dX10_weekOf_34 : decode cX10_weekOf 34 = .ok (.if_icmp .ne 10, 3) := by decide +kernel
theorem dX10_weekOf_37 : decode cX10_weekOf 37 = .ok (.iload 4, 2) := by decide +kernel
theorem dX10_weekOf_39 : decode cX10_weekOf 39 = .ok (.iconst 1, 1) := by decide +kernel
theorem dX10_weekOf_40 : decode cX10_weekOf 40 = .ok (.iadd, 1) := by decide +kernel
theorem dX10_weekOf_41 : decode cX10_weekOf 41 = .ok (.goto 7, 3) := by decide +kernel
theorem dX10_weekOf_44 : decode cX10_weekOf 44 = .ok (.iload 4, 2) := by decide +kernel
theorem dX10_weekOf_46 : decode cX10_weekOf 46 = .ok (.iconst 1, 1) := by decide +kernel
theorem dX10_weekOf_47 : decode cX10_weekOf 47 = .ok (.isub, 1) := by decide +kernel
theorem dX10_weekOf_48 : decode cX10_weekOf 48 = .ok (.istore 5, 2) := by decide +kernel
theorem dX10_weekOf_50 : decode cX10_weekOf 50 = .ok (.aload_n 0, 1) := by decide +kernel
theorem dX10_weekOf_51 : decode cX10_weekOf 51 = .ok (.getfield 19, 3) := by decide +kernel
theorem dX10_weekOf_54 : decode cX10_weekOf 54 = .ok (.bipush 8, 2) := by decide +kernel
theorem dX10_weekOf_56 : decode cX10_weekOf 56 = .ok (.iload_n 1, 1) := by decide +kernel
theorem dX10_weekOf_57 : decode cX10_weekOf 57 = .ok (.imul, 1) := by decide +kernel
theorem dX10_weekOf_58 : decode cX10_weekOf 58 = .ok (.iconst 1, 1) := by decide +kernel
theorem dX10_weekOf_59 : decode cX10_weekOf 59 = .ok (.iadd, 1) := by decide +kernel
theorem dX10_weekOf_60 : decode cX10_weekOf 60 = .ok (.iload_n 3, 1) := by decide +kernel
theorem dX10_weekOf_61 : decode cX10_weekOf 61 = .ok (.iadd, 1) := by decide +kernel
theorem dX10_weekOf_62 : decode cX10_weekOf 62 = .ok (.iload 5, 2) := by decide +kernel
theorem dX10_weekOf_64 : decode cX10_weekOf 64 = .ok (.ifCond .ge 7, 3) := by decide +kernel
theorem dX10_weekOf_67 : decode cX10_weekOf 67 = .ok (.iconst 0, 1) := by decide +kernel
theorem dX10_weekOf_68 : decode cX10_weekOf 68 = .ok (.goto 17, 3) := by decide +kernel
theorem dX10_weekOf_71 : decode cX10_weekOf 71 = .ok (.iload 5, 2) := by decide +kernel
theorem dX10_weekOf_73 : decode cX10_weekOf 73 = .ok (.bipush 9, 2) := by decide +kernel
theorem dX10_weekOf_75 : decode cX10_weekOf 75 = .ok (.if_icmp .le 8, 3) := by decide +kernel
theorem dX10_weekOf_78 : decode cX10_weekOf 78 = .ok (.bipush 9, 2) := by decide +kernel
theorem dX10_weekOf_80 : decode cX10_weekOf 80 = .ok (.goto 5, 3) := by decide +kernel
theorem dX10_weekOf_83 : decode cX10_weekOf 83 = .ok (.iload 5, 2) := by decide +kernel
theorem dX10_weekOf_85 : decode cX10_weekOf 85 = .ok (.iastore, 1) := by decide +kernel
theorem dX10_weekOf_86 : decode cX10_weekOf 86 = .ok (.iload_n 2, 1) := by decide +kernel
theorem dX10_weekOf_87 : decode cX10_weekOf 87 = .ok (.aload_n 0, 1) := by decide +kernel
theorem dX10_weekOf_88 : decode cX10_weekOf 88 = .ok (.getfield 19, 3) := by decide +kernel
theorem dX10_weekOf_91 : decode cX10_weekOf 91 = .ok (.bipush 8, 2) := by decide +kernel
theorem dX10_weekOf_93 : decode cX10_weekOf 93 = .ok (.iload_n 1, 1) := by decide +kernel
theorem dX10_weekOf_94 : decode cX10_weekOf 94 = .ok (.imul, 1) := by decide +kernel
theorem dX10_weekOf_95 : decode cX10_weekOf 95 = .ok (.iconst 1, 1) := by decide +kernel
theorem dX10_weekOf_96 : decode cX10_weekOf 96 = .ok (.iadd, 1) := by decide +kernel
theorem dX10_weekOf_97 : decode cX10_weekOf 97 = .ok (.iload_n 3, 1) := by decide +kernel
theorem dX10_weekOf_98 : decode cX10_weekOf 98 = .ok (.iadd, 1) := by decide +kernel
theorem dX10_weekOf_99 : decode cX10_weekOf 99 = .ok (.iaload, 1) := by decide +kernel
theorem dX10_weekOf_100 : decode cX10_weekOf 100 = .ok (.iadd, 1) := by decide +kernel
theorem dX10_weekOf_101 : decode cX10_weekOf 101 = .ok (.istore_n 2, 1) := by decide +kernel
theorem dX10_weekOf_102 : decode cX10_weekOf 102 = .ok (.iinc 3 1, 3) := by decide +kernel
theorem dX10_weekOf_105 : decode cX10_weekOf 105 = .ok (.goto (-101), 3) := by decide +kernel
theorem dX10_weekOf_108 : decode cX10_weekOf 108 = .ok (.iload_n 2, 1) := by decide +kernel
theorem dX10_weekOf_109 : decode cX10_weekOf 109 = .ok (.ireturn, 1) := by decide +kernel
set_option maxRecDepth 20000 in
theorem ggX10_practise_X10_isSinger : GoodIn wsX10_practise wsX10_isSinger := goodIn_r _ [6, 7, 8, 9, 5, 10, 16, 17, 18, 19, 20, 21, 22, 23, 24, 25, 26, 27, 28, 29, 30, 31, 32, 33, 34, 35, 36, 37, 38, 39, 40, 41] (by decide +kernel) (by decide +kernel)
set_option maxRecDepth 20000 in
theorem gX10_practise_X10_isSinger : GoodIn wsX10_practise (wsV RX10 121 RX10 yX10_isSinger wsX10_isSinger) := goodIn_app (goodIn_of _ (by decide +kernel)) ggX10_practise_X10_isSinger
set_option maxRecDepth 20000 in
theorem ggX10_practise_X10_weekOf : GoodIn wsX10_practise wsX10_weekOf := goodIn_r _ [14, 15, 16, 17, 18, 19, 20, 21, 22, 23, 24, 25, 26, 27, 28, 29, 30, 31, 32, 33, 34, 35, 36, 37, 38, 39, 40, 41] (by decide +kernel) (by decide +kernel)
set_option maxRecDepth 20000 in
theorem gX10_practise_X10_weekOf : GoodIn wsX10_practise (wsV RX10 141 RX10 yX10_weekOf wsX10_weekOf) := goodIn_app (goodIn_of _ (by decide +kernel)) ggX10_practise_X10_weekOf
theorem dX10_practise_0 : decode cX10_practise 0 = .ok (.aload_n 0, 1) := by decide +kernel
theorem dX10_practise_1 : decode cX10_practise 1 = .ok (.iload_n 1, 1) := by decide +kernel
theorem dX10_practise_2 : decode cX10_practise 2 = .ok (.invokevirtual 121, 3) := by decide +kernel
theorem dX10_practise_5 : decode cX10_practise 5 = .ok (.ifCond .ne 6, 3) := by decide +kernel
theorem dX10_practise_8 : decode cX10_practise 8 = .ok (.bipush (-101), 2) := by decide +kernel
theorem dX10_practise_10 : decode cX10_practise 10 = .ok (.ireturn, 1) := by decide +kernel
theorem dX10_practise_11 : decode cX10_practise 11 = .ok (.aload_n 0, 1) := by decide +kernel
theorem dX10_practise_12 : decode cX10_practise 12 = .ok (.dup, 1) := by decide +kernel
theorem dX10_practise_13 : decode cX10_practise 13 = .ok (.getfield 91, 3) := by decide +kernel
theorem dX10_practise_16 : decode cX10_practise 16 = .ok (.iconst 1, 1) := by decide +kernel
theorem dX10_practise_17 : decode cX10_practise 17 = .ok (.iadd, 1) := by decide +kernel
theorem dX10_practise_18 : decode cX10_practise 18 = .ok (.putfield 91, 3) := by decide +kernel
theorem dX10_practise_21 : decode cX10_practise 21 = .ok (.aload_n 0, 1) := by decide +kernel
theorem dX10_practise_22 : decode cX10_practise 22 = .ok (.iload_n 1, 1) := by decide +kernel
theorem dX10_practise_23 : decode cX10_practise 23 = .ok (.invokevirtual 141, 3) := by decide +kernel
theorem dX10_practise_26 : decode cX10_practise 26 = .ok (.ireturn, 1) := by decide +kernel
set_option maxRecDepth 20000 in
theorem ggX10_mayor_X10_mayorOf : GoodIn wsX10_mayor wsX10_mayorOf := goodIn_r _ [6, 1, 7, 8, 9, 5, 10, 11, 12, 13, 14, 15, 16, 17, 18, 19, 20, 21, 22, 23, 24, 25, 26, 27, 28, 29, 30, 31, 32, 33, 34, 35, 36, 37, 38, 39, 40, 41, 42, 43, 44, 45, 46, 47] (by decide +kernel) (by decide +kernel)
set_option maxRecDepth 20000 in
theorem gX10_mayor_X10_mayorOf : GoodIn wsX10_mayor (wsV RX10 144 RX10 yX10_mayorOf wsX10_mayorOf) := goodIn_app (goodIn_of _ (by decide +kernel)) ggX10_mayor_X10_mayorOf
theorem dX10_mayor_0 : decode cX10_mayor 0 = .ok (.aload_n 0, 1) := by decide +kernel
theorem dX10_mayor_1 : decode cX10_mayor 1 = .ok (.getfield 81, 3) := by decide +kernel
theorem dX10_mayor_4 : decode cX10_mayor 4 = .ok (.ifCond .ne 8, 3) := by decide +kernel
theorem dX10_mayor_7 : decode cX10_mayor 7 = .ok (.bipush (-103), 2) := by decide +kernel
theorem dX10_mayor_9 : decode cX10_mayor 9 = .ok (.goto 7, 3) := by decide +kernel
theorem dX10_mayor_12 : decode cX10_mayor 12 = .ok (.aload_n 0, 1) := by decide +kernel
theorem dX10_mayor_13 : decode cX10_mayor 13 = .ok (.invokevirtual 144, 3) := by decide +kernel
theorem dX10_mayor_16 : decode cX10_mayor 16 = .ok (.ireturn, 1) := by decide +kernel
theorem dX10_layMore_0 : decode cX10_layMore 0 = .ok (.iload_n 2, 1) := by decide +kernel
theorem dX10_layMore_1 : decode cX10_layMore 1 = .ok (.istore_n 3, 1) := by decide +kernel
theorem dX10_layMore_2 : decode cX10_layMore 2 = .ok (.iconst 1, 1) := by decide +kernel
theorem dX10_layMore_3 : decode cX10_layMore 3 = .ok (.istore 4, 2) := by decide +kernel
theorem dX10_layMore_5 : decode cX10_layMore 5 = .ok (.aload_n 0, 1) := by decide +kernel
theorem dX10_layMore_6 : decode cX10_layMore 6 = .ok (.getfield 81, 3) := by decide +kernel
theorem dX10_layMore_9 : decode cX10_layMore 9 = .ok (.iconst 1, 1) := by decide +kernel
theorem dX10_layMore_10 : decode cX10_layMore 10 = .ok (.isub, 1) := by decide +kernel
theorem dX10_layMore_11 : decode cX10_layMore 11 = .ok (.istore 5, 2) := by decide +kernel
theorem dX10_layMore_13 : decode cX10_layMore 13 = .ok (.iload 5, 2) := by decide +kernel
theorem dX10_layMore_15 : decode cX10_layMore 15 = .ok (.ifCond .lt 83, 3) := by decide +kernel
theorem dX10_layMore_18 : decode cX10_layMore 18 = .ok (.aload_n 0, 1) := by decide +kernel
theorem dX10_layMore_19 : decode cX10_layMore 19 = .ok (.getfield 25, 3) := by decide +kernel
theorem dX10_layMore_22 : decode cX10_layMore 22 = .ok (.iload 5, 2) := by decide +kernel
theorem dX10_layMore_24 : decode cX10_layMore 24 = .ok (.iload 5, 2) := by decide +kernel
theorem dX10_layMore_26 : decode cX10_layMore 26 = .ok (.iload_n 1, 1) := by decide +kernel
theorem dX10_layMore_27 : decode cX10_layMore 27 = .ok (.if_icmp .ne 7, 3) := by decide +kernel
theorem dX10_layMore_30 : decode cX10_layMore 30 = .ok (.iconst 0, 1) := by decide +kernel
theorem dX10_layMore_31 : decode cX10_layMore 31 = .ok (.goto 7, 3) := by decide +kernel
theorem dX10_layMore_34 : decode cX10_layMore 34 = .ok (.iload_n 3, 1) := by decide +kernel
theorem dX10_layMore_35 : decode cX10_layMore 35 = .ok (.bipush 10, 2) := by decide +kernel
theorem dX10_layMore_37 : decode cX10_layMore 37 = .ok (.irem, 1) := by decide +kernel
theorem dX10_layMore_38 : decode cX10_layMore 38 = .ok (.iastore, 1) := by decide +kernel
theorem dX10_layMore_39 : decode cX10_layMore 39 = .ok (.iload 5, 2) := by decide +kernel
theorem dX10_layMore_41 : decode cX10_layMore 41 = .ok (.iload_n 1, 1) := by decide +kernel
theorem dX10_layMore_42 : decode cX10_layMore 42 = .ok (.if_icmp .ne 7, 3) := by decide +kernel
theorem dX10_layMore_45 : decode cX10_layMore 45 = .ok (.iload_n 3, 1) := by decide +kernel
theorem dX10_layMore_46 : decode cX10_layMore 46 = .ok (.goto 7, 3) := by decide +kernel
theorem dX10_layMore_49 : decode cX10_layMore 49 = .ok (.iload_n 3, 1) := by decide +kernel
theorem dX10_layMore_50 : decode cX10_layMore 50 = .ok (.bipush 10, 2) := by decide +kernel
theorem dX10_layMore_52 : decode cX10_layMore 52 = .ok (.idiv, 1) := by decide +kernel
theorem dX10_layMore_53 : decode cX10_layMore 53 = .ok (.istore_n 3, 1) := by decide +kernel
theorem dX10_layMore_54 : decode cX10_layMore 54 = .ok (.iload 4, 2) := by decide +kernel
theorem dX10_layMore_56 : decode cX10_layMore 56 = .ok (.ifCond .eq 33, 3) := by decide +kernel
theorem dX10_layMore_59 : decode cX10_layMore 59 = .ok (.aload_n 0, 1) := by decide +kernel
theorem dX10_layMore_60 : decode cX10_layMore 60 = .ok (.getfield 19, 3) := by decide +kernel
theorem dX10_layMore_63 : decode cX10_layMore 63 = .ok (.bipush 8, 2) := by decide +kernel
theorem dX10_layMore_65 : decode cX10_layMore 65 = .ok (.iload 5, 2) := by decide +kernel
theorem dX10_layMore_67 : decode cX10_layMore 67 = .ok (.imul, 1) := by decide +kernel
theorem dX10_layMore_68 : decode cX10_layMore 68 = .ok (.bipush 7, 2) := by decide +kernel
theorem dX10_layMore_70 : decode cX10_layMore 70 = .ok (.iadd, 1) := by decide +kernel
theorem dX10_layMore_71 : decode cX10_layMore 71 = .ok (.iaload, 1) := by decide +kernel
theorem dX10_layMore_72 : decode cX10_layMore 72 = .ok (.aload_n 0, 1) := by decide +kernel
theorem dX10_layMore_73 : decode cX10_layMore 73 = .ok (.getfield 25, 3) := by decide +kernel
theorem dX10_layMore_76 : decode cX10_layMore 76 = .ok (.iload 5, 2) := by decide +kernel
theorem dX10_layMore_78 : decode cX10_layMore 78 = .ok (.iaload, 1) := by decide +kernel
theorem dX10_layMore_79 : decode cX10_layMore 79 = .ok (.iadd, 1) := by decide +kernel
theorem dX10_layMore_80 : decode cX10_layMore 80 = .ok (.bipush 10, 2) := by decide +kernel
theorem dX10_layMore_82 : decode cX10_layMore 82 = .ok (.if_icmp .ge 7, 3) := by decide +kernel
theorem dX10_layMore_85 : decode cX10_layMore 85 = .ok (.iconst 1, 1) := by decide +kernel
theorem dX10_layMore_86 : decode cX10_layMore 86 = .ok (.goto 4, 3) := by decide +kernel
theorem dX10_layMore_89 : decode cX10_layMore 89 = .ok (.iconst 0, 1) := by decide +kernel
theorem dX10_layMore_90 : decode cX10_layMore 90 = .ok (.istore 4, 2) := by decide +kernel
theorem dX10_layMore_92 : decode cX10_layMore 92 = .ok (.iinc 5 (-1), 3) := by decide +kernel
theorem dX10_layMore_95 : decode cX10_layMore 95 = .ok (.goto (-82), 3) := by decide +kernel
theorem dX10_layMore_98 : decode cX10_layMore 98 = .ok (.iload 4, 2) := by decide +kernel
theorem dX10_layMore_100 : decode cX10_layMore 100 = .ok (.ireturn, 1) := by decide +kernel
set_option maxRecDepth 20000 in
theorem ggX10_layNeed_X10_layMore : GoodIn wsX10_layNeed wsX10_layMore := goodIn_r _ [9, 1, 2, 3, 31, 32, 33, 34, 35, 36, 37, 38, 39, 40, 41, 42, 43, 44, 45, 46, 47, 48, 49, 50, 51, 52, 53, 54, 55, 56] (by decide +kernel) (by decide +kernel)
set_option maxRecDepth 20000 in
theorem gX10_layNeed_X10_layMore : GoodIn wsX10_layNeed (wsV RX10 147 RX10 yX10_layMore wsX10_layMore) := goodIn_app (goodIn_of _ (by decide +kernel)) ggX10_layNeed_X10_layMore
set_option maxRecDepth 20000 in
theorem ggX10_layNeed_X10_mayorOf : GoodIn wsX10_layNeed wsX10_mayorOf := goodIn_r _ [13, 1, 14, 15, 16, 8, 17, 18, 19, 20, 21, 22, 23, 24, 25, 26, 27, 3, 31, 32, 33, 34, 35, 36, 37, 38, 39, 40, 41, 42, 43, 44, 45, 46, 47, 48, 49, 50, 51, 52, 53, 54, 55, 56] (by decide +kernel) (by decide +kernel)
set_option maxRecDepth 20000 in
theorem gX10_layNeed_X10_mayorOf : GoodIn wsX10_layNeed (wsV RX10 144 RX10 yX10_mayorOf wsX10_mayorOf) := goodIn_app (goodIn_of _ (by decide +kernel)) ggX10_layNeed_X10_mayorOf
set_option maxRecDepth 20000 in
theorem ggX10_layNeed_X10_copy : GoodIn wsX10_layNeed wsX10_copy := goodIn_r _ [30] (by decide +kernel) (by decide +kernel)
set_option maxRecDepth 20000 in
theorem gX10_layNeed_X10_copy : GoodIn wsX10_layNeed (va_wsS RX10 87 yX10_copy wsX10_copy) := goodIn_app (goodIn_of _ (by decide +kernel)) ggX10_layNeed_X10_copy
theorem dX10_layNeed_0 : decode cX10_layNeed 0 = .ok (.iconst 1, 1) := by decide +kernel
theorem dX10_layNeed_1 : decode cX10_layNeed 1 = .ok (.istore_n 2, 1) := by decide +kernel
theorem dX10_layNeed_2 : decode cX10_layNeed 2 = .ok (.iconst 1, 1) := by decide +kernel
theorem dX10_layNeed_3 : decode cX10_layNeed 3 = .ok (.istore_n 3, 1) := by decide +kernel
theorem dX10_layNeed_4 : decode cX10_layNeed 4 = .ok (.iload_n 3, 1) := by decide +kernel
theorem dX10_layNeed_5 : decode cX10_layNeed 5 = .ok (.aload_n 0, 1) := by decide +kernel
theorem dX10_layNeed_6 : decode cX10_layNeed 6 = .ok (.getfield 81, 3) := by decide +kernel
theorem dX10_layNeed_9 : decode cX10_layNeed 9 = .ok (.if_icmp .ge 14, 3) := by decide +kernel
theorem dX10_layNeed_12 : decode cX10_layNeed 12 = .ok (.iload_n 2, 1) := by decide +kernel
theorem dX10_layNeed_13 : decode cX10_layNeed 13 = .ok (.bipush 10, 2) := by decide +kernel
theorem dX10_layNeed_15 : decode cX10_layNeed 15 = .ok (.imul, 1) := by decide +kernel
theorem dX10_layNeed_16 : decode cX10_layNeed 16 = .ok (.istore_n 2, 1) := by decide +kernel
theorem dX10_layNeed_17 : decode cX10_layNeed 17 = .ok (.iinc 3 1, 3) := by decide +kernel
theorem dX10_layNeed_20 : decode cX10_layNeed 20 = .ok (.goto (-16), 3) := by decide +kernel
theorem dX10_layNeed_23 : decode cX10_layNeed 23 = .ok (.iconst (-1), 1) := by decide +kernel
theorem dX10_layNeed_24 : decode cX10_layNeed 24 = .ok (.istore_n 3, 1) := by decide +kernel
theorem dX10_layNeed_25 : decode cX10_layNeed 25 = .ok (.iconst 0, 1) := by decide +kernel
theorem dX10_layNeed_26 : decode cX10_layNeed 26 = .ok (.istore 4, 2) := by decide +kernel
theorem dX10_layNeed_28 : decode cX10_layNeed 28 = .ok (.iload 4, 2) := by decide +kernel
theorem dX10_layNeed_30 : decode cX10_layNeed 30 = .ok (.iload_n 2, 1) := by decide +kernel
theorem dX10_layNeed_31 : decode cX10_layNeed 31 = .ok (.if_icmp .ge 191, 3) := by decide +kernel
theorem dX10_layNeed_34 : decode cX10_layNeed 34 = .ok (.aload_n 0, 1) := by decide +kernel
theorem dX10_layNeed_35 : decode cX10_layNeed 35 = .ok (.iload_n 1, 1) := by decide +kernel
theorem dX10_layNeed_36 : decode cX10_layNeed 36 = .ok (.iload 4, 2) := by decide +kernel
theorem dX10_layNeed_38 : decode cX10_layNeed 38 = .ok (.invokevirtual 147, 3) := by decide +kernel
theorem dX10_layNeed_41 : decode cX10_layNeed 41 = .ok (.istore 5, 2) := by decide +kernel
theorem dX10_layNeed_43 : decode cX10_layNeed 43 = .ok (.aload_n 0, 1) := by decide +kernel
theorem dX10_layNeed_44 : decode cX10_layNeed 44 = .ok (.getfield 25, 3) := by decide +kernel
theorem dX10_layNeed_47 : decode cX10_layNeed 47 = .ok (.iconst 0, 1) := by decide +kernel
theorem dX10_layNeed_48 : decode cX10_layNeed 48 = .ok (.iaload, 1) := by decide +kernel
theorem dX10_layNeed_49 : decode cX10_layNeed 49 = .ok (.aload_n 0, 1) := by decide +kernel
theorem dX10_layNeed_50 : decode cX10_layNeed 50 = .ok (.getfield 25, 3) := by decide +kernel
theorem dX10_layNeed_53 : decode cX10_layNeed 53 = .ok (.iconst 1, 1) := by decide +kernel
theorem dX10_layNeed_54 : decode cX10_layNeed 54 = .ok (.iaload, 1) := by decide +kernel
theorem dX10_layNeed_55 : decode cX10_layNeed 55 = .ok (.iadd, 1) := by decide +kernel
theorem dX10_layNeed_56 : decode cX10_layNeed 56 = .ok (.aload_n 0, 1) := by decide +kernel
theorem dX10_layNeed_57 : decode cX10_layNeed 57 = .ok (.getfield 81, 3) := by decide +kernel
theorem dX10_layNeed_60 : decode cX10_layNeed 60 = .ok (.iconst 2, 1) := by decide +kernel
theorem dX10_layNeed_61 : decode cX10_layNeed 61 = .ok (.if_icmp .le 12, 3) := by decide +kernel
theorem dX10_layNeed_64 : decode cX10_layNeed 64 = .ok (.aload_n 0, 1) := by decide +kernel
theorem dX10_layNeed_65 : decode cX10_layNeed 65 = .ok (.getfield 25, 3) := by decide +kernel
theorem dX10_layNeed_68 : decode cX10_layNeed 68 = .ok (.iconst 2, 1) := by decide +kernel
theorem dX10_layNeed_69 : decode cX10_layNeed 69 = .ok (.iaload, 1) := by decide +kernel
theorem dX10_layNeed_70 : decode cX10_layNeed 70 = .ok (.goto 4, 3) := by decide +kernel
theorem dX10_layNeed_73 : decode cX10_layNeed 73 = .ok (.iconst 0, 1) := by decide +kernel
theorem dX10_layNeed_74 : decode cX10_layNeed 74 = .ok (.iadd, 1) := by decide +kernel
theorem dX10_layNeed_75 : decode cX10_layNeed 75 = .ok (.aload_n 0, 1) := by decide +kernel
theorem dX10_layNeed_76 : decode cX10_layNeed 76 = .ok (.getfield 81, 3) := by decide +kernel
theorem dX10_layNeed_79 : decode cX10_layNeed 79 = .ok (.iconst 3, 1) := by decide +kernel
theorem dX10_layNeed_80 : decode cX10_layNeed 80 = .ok (.if_icmp .le 12, 3) := by decide +kernel
theorem dX10_layNeed_83 : decode cX10_layNeed 83 = .ok (.aload_n 0, 1) := by decide +kernel
theorem dX10_layNeed_84 : decode cX10_layNeed 84 = .ok (.getfield 25, 3) := by decide +kernel
theorem dX10_layNeed_87 : decode cX10_layNeed 87 = .ok (.iconst 3, 1) := by decide +kernel
theorem dX10_layNeed_88 : decode cX10_layNeed 88 = .ok (.iaload, 1) := by decide +kernel
theorem dX10_layNeed_89 : decode cX10_layNeed 89 = .ok (.goto 4, 3) := by decide +kernel
theorem dX10_layNeed_92 : decode cX10_layNeed 92 = .ok (.iconst 0, 1) := by decide +kernel
theorem dX10_layNeed_93 : decode cX10_layNeed 93 = .ok (.iadd, 1) := by decide +kernel
theorem dX10_layNeed_94 : decode cX10_layNeed 94 = .ok (.istore 6, 2) := by decide +kernel
theorem dX10_layNeed_96 : decode cX10_layNeed 96 = .ok (.iload 5, 2) := by decide +kernel
theorem dX10_layNeed_98 : decode cX10_layNeed 98 = .ok (.ifCond .eq 118, 3) := by decide +kernel
theorem dX10_layNeed_101 : decode cX10_layNeed 101 = .ok (.iload_n 3, 1) := by decide +kernel
theorem dX10_layNeed_102 : decode cX10_layNeed 102 = .ok (.iconst (-1), 1) := by decide +kernel
theorem dX10_layNeed_103 : decode cX10_layNeed 103 = .ok (.if_icmp .eq 9, 3) := by decide +kernel
theorem dX10_layNeed_106 : decode cX10_layNeed 106 = .ok (.iload 6, 2) := by decide +kernel
theorem dX10_layNeed_108 : decode cX10_layNeed 108 = .ok (.iload_n 3, 1) := by decide +kernel
theorem dX10_layNeed_109 : decode cX10_layNeed 109 = .ok (.if_icmp .ge 107, 3) := by decide +kernel
theorem dX10_layNeed_112 : decode cX10_layNeed 112 = .ok (.iconst 0, 1) := by decide +kernel
theorem dX10_layNeed_113 : decode cX10_layNeed 113 = .ok (.istore 7, 2) := by decide +kernel
theorem dX10_layNeed_115 : decode cX10_layNeed 115 = .ok (.iload 7, 2) := by decide +kernel
theorem dX10_layNeed_117 : decode cX10_layNeed 117 = .ok (.aload_n 0, 1) := by decide +kernel
theorem dX10_layNeed_118 : decode cX10_layNeed 118 = .ok (.getfield 81, 3) := by decide +kernel
theorem dX10_layNeed_121 : decode cX10_layNeed 121 = .ok (.if_icmp .ge 32, 3) := by decide +kernel
theorem dX10_layNeed_124 : decode cX10_layNeed 124 = .ok (.aload_n 0, 1) := by decide +kernel
theorem dX10_layNeed_125 : decode cX10_layNeed 125 = .ok (.getfield 19, 3) := by decide +kernel
theorem dX10_layNeed_128 : decode cX10_layNeed 128 = .ok (.bipush 8, 2) := by decide +kernel
theorem dX10_layNeed_130 : decode cX10_layNeed 130 = .ok (.iload 7, 2) := by decide +kernel
theorem dX10_layNeed_132 : decode cX10_layNeed 132 = .ok (.imul, 1) := by decide +kernel
theorem dX10_layNeed_133 : decode cX10_layNeed 133 = .ok (.bipush 7, 2) := by decide +kernel
theorem dX10_layNeed_135 : decode cX10_layNeed 135 = .ok (.iadd, 1) := by decide +kernel
theorem dX10_layNeed_136 : decode cX10_layNeed 136 = .ok (.dup2, 1) := by decide +kernel
theorem dX10_layNeed_137 : decode cX10_layNeed 137 = .ok (.iaload, 1) := by decide +kernel
theorem dX10_layNeed_138 : decode cX10_layNeed 138 = .ok (.aload_n 0, 1) := by decide +kernel
theorem dX10_layNeed_139 : decode cX10_layNeed 139 = .ok (.getfield 25, 3) := by decide +kernel
theorem dX10_layNeed_142 : decode cX10_layNeed 142 = .ok (.iload 7, 2) := by decide +kernel
theorem dX10_layNeed_144 : decode cX10_layNeed 144 = .ok (.iaload, 1) := by decide +kernel
theorem dX10_layNeed_145 : decode cX10_layNeed 145 = .ok (.iadd, 1) := by decide +kernel
theorem dX10_layNeed_146 : decode cX10_layNeed 146 = .ok (.iastore, 1) := by decide +kernel
theorem dX10_layNeed_147 : decode cX10_layNeed 147 = .ok (.iinc 7 1, 3) := by decide +kernel
theorem dX10_layNeed_150 : decode cX10_layNeed 150 = .ok (.goto (-35), 3) := by decide +kernel
theorem dX10_layNeed_153 : decode cX10_layNeed 153 = .ok (.aload_n 0, 1) := by decide +kernel
theorem dX10_layNeed_154 : decode cX10_layNeed 154 = .ok (.invokevirtual 144, 3) := by decide +kernel
theorem dX10_layNeed_157 : decode cX10_layNeed 157 = .ok (.iload_n 1, 1) := by decide +kernel
theorem dX10_layNeed_158 : decode cX10_layNeed 158 = .ok (.if_icmp .ne 17, 3) := by decide +kernel
theorem dX10_layNeed_161 : decode cX10_layNeed 161 = .ok (.iload 6, 2) := by decide +kernel
theorem dX10_layNeed_163 : decode cX10_layNeed 163 = .ok (.istore_n 3, 1) := by decide +kernel
theorem dX10_layNeed_164 : decode cX10_layNeed 164 = .ok (.aload_n 0, 1) := by decide +kernel
theorem dX10_layNeed_165 : decode cX10_layNeed 165 = .ok (.getfield 25, 3) := by decide +kernel
theorem dX10_layNeed_168 : decode cX10_layNeed 168 = .ok (.aload_n 0, 1) := by decide +kernel
theorem dX10_layNeed_169 : decode cX10_layNeed 169 = .ok (.getfield 28, 3) := by decide +kernel
theorem dX10_layNeed_172 : decode cX10_layNeed 172 = .ok (.invokestatic 87, 3) := by decide +kernel
theorem dX10_layNeed_175 : decode cX10_layNeed 175 = .ok (.iconst 0, 1) := by decide +kernel
theorem dX10_layNeed_176 : decode cX10_layNeed 176 = .ok (.istore 7, 2) := by decide +kernel
theorem dX10_layNeed_178 : decode cX10_layNeed 178 = .ok (.iload 7, 2) := by decide +kernel
theorem dX10_layNeed_180 : decode cX10_layNeed 180 = .ok (.aload_n 0, 1) := by decide +kernel
theorem dX10_layNeed_181 : decode cX10_layNeed 181 = .ok (.getfield 81, 3) := by decide +kernel
theorem dX10_layNeed_184 : decode cX10_layNeed 184 = .ok (.if_icmp .ge 32, 3) := by decide +kernel
theorem dX10_layNeed_187 : decode cX10_layNeed 187 = .ok (.aload_n 0, 1) := by decide +kernel
theorem dX10_layNeed_188 : decode cX10_layNeed 188 = .ok (.getfield 19, 3) := by decide +kernel
theorem dX10_layNeed_191 : decode cX10_layNeed 191 = .ok (.bipush 8, 2) := by decide +kernel
theorem dX10_layNeed_193 : decode cX10_layNeed 193 = .ok (.iload 7, 2) := by decide +kernel
theorem dX10_layNeed_195 : decode cX10_layNeed 195 = .ok (.imul, 1) := by decide +kernel
theorem dX10_layNeed_196 : decode cX10_layNeed 196 = .ok (.bipush 7, 2) := by decide +kernel
theorem dX10_layNeed_198 : decode cX10_layNeed 198 = .ok (.iadd, 1) := by decide +kernel
theorem dX10_layNeed_199 : decode cX10_layNeed 199 = .ok (.dup2, 1) := by decide +kernel
theorem dX10_layNeed_200 : decode cX10_layNeed 200 = .ok (.iaload, 1) := by decide +kernel
theorem dX10_layNeed_201 : decode cX10_layNeed 201 = .ok (.aload_n 0, 1) := by decide +kernel
theorem dX10_layNeed_202 : decode cX10_layNeed 202 = .ok (.getfield 25, 3) := by decide +kernel
theorem dX10_layNeed_205 : decode cX10_layNeed 205 = .ok (.iload 7, 2) := by decide +kernel
theorem dX10_layNeed_207 : decode cX10_layNeed 207 = .ok (.iaload, 1) := by decide +kernel
theorem dX10_layNeed_208 : decode cX10_layNeed 208 = .ok (.isub, 1) := by decide +kernel
theorem dX10_layNeed_209 : decode cX10_layNeed 209 = .ok (.iastore, 1) := by decide +kernel
theorem dX10_layNeed_210 : decode cX10_layNeed 210 = .ok (.iinc 7 1, 3) := by decide +kernel
theorem dX10_layNeed_213 : decode cX10_layNeed 213 = .ok (.goto (-35), 3) := by decide +kernel
theorem dX10_layNeed_216 : decode cX10_layNeed 216 = .ok (.iinc 4 1, 3) := by decide +kernel
theorem dX10_layNeed_219 : decode cX10_layNeed 219 = .ok (.goto (-191), 3) := by decide +kernel
theorem dX10_layNeed_222 : decode cX10_layNeed 222 = .ok (.iload_n 3, 1) := by decide +kernel
theorem dX10_layNeed_223 : decode cX10_layNeed 223 = .ok (.ireturn, 1) := by decide +kernel
set_option maxRecDepth 20000 in
theorem ggX10_need_X10_isSinger : GoodIn wsX10_need wsX10_isSinger := goodIn_r _ [10, 4, 11, 12, 9, 13, 45, 46, 47, 48, 49, 50, 51, 52, 53, 54, 55, 56, 57, 58, 59, 60, 61, 62, 63, 64, 65, 66, 67, 68, 69, 70] (by decide +kernel) (by decide +kernel)
set_option maxRecDepth 20000 in
theorem gX10_need_X10_isSinger : GoodIn wsX10_need (wsV RX10 121 RX10 yX10_isSinger wsX10_isSinger) := goodIn_app (goodIn_of _ (by decide +kernel)) ggX10_need_X10_isSinger
set_option maxRecDepth 20000 in
theorem ggX10_need_X10_in : GoodIn wsX10_need wsX10_in := goodIn_r _ [13] (by decide +kernel) (by decide +kernel)
set_option maxRecDepth 20000 in
theorem gX10_need_X10_in : GoodIn wsX10_need (va_wsS RX10 49 yX10_in wsX10_in) := goodIn_app (goodIn_of _ (by decide +kernel)) ggX10_need_X10_in
set_option maxRecDepth 20000 in
theorem ggX10_need_X10_layNeed : GoodIn wsX10_need wsX10_layNeed := goodIn_r _ [17, 4, 18, 19, 5, 20, 21, 22, 9, 23, 24, 25, 26, 27, 28, 29, 30, 31, 32, 33, 34, 35, 36, 37, 38, 39, 40, 41, 42, 43, 44, 45, 46, 47, 48, 49, 50, 51, 52, 53, 54, 55, 56, 57, 58, 59, 60, 61, 62, 63, 64, 65, 66, 67, 68, 69, 70] (by decide +kernel) (by decide +kernel)
set_option maxRecDepth 20000 in
theorem gX10_need_X10_layNeed : GoodIn wsX10_need (wsV RX10 154 RX10 yX10_layNeed wsX10_layNeed) := goodIn_app (goodIn_of _ (by decide +kernel)) ggX10_need_X10_layNeed
theorem dX10_need_0 : decode cX10_need 0 = .ok (.aload_n 0, 1) := by decide +kernel
theorem dX10_need_1 : decode cX10_need 1 = .ok (.iload_n 1, 1) := by decide +kernel
theorem dX10_need_2 : decode cX10_need 2 = .ok (.invokevirtual 121, 3) := by decide +kernel
theorem dX10_need_5 : decode cX10_need 5 = .ok (.ifCond .ne 6, 3) := by decide +kernel
theorem dX10_need_8 : decode cX10_need 8 = .ok (.bipush (-101), 2) := by decide +kernel
theorem dX10_need_10 : decode cX10_need 10 = .ok (.ireturn, 1) := by decide +kernel
theorem dX10_need_11 : decode cX10_need 11 = .ok (.iload_n 2, 1) := by decide +kernel
theorem dX10_need_12 : decode cX10_need 12 = .ok (.ifCond .eq 20, 3) := by decide +kernel
theorem dX10_need_15 : decode cX10_need 15 = .ok (.iload_n 2, 1) := by decide +kernel
theorem dX10_need_16 : decode cX10_need 16 = .ok (.i2l, 1) := by decide +kernel
theorem dX10_need_17 : decode cX10_need 17 = .ok (.ldc2_w 110, 3) := by decide +kernel
theorem dX10_need_20 : decode cX10_need 20 = .ok (.ldc2_w 112, 3) := by decide +kernel
theorem dX10_need_23 : decode cX10_need 23 = .ok (.invokestatic 49, 3) := by decide +kernel
theorem dX10_need_26 : decode cX10_need 26 = .ok (.ifCond .ne 6, 3) := by decide +kernel
theorem dX10_need_29 : decode cX10_need 29 = .ok (.bipush (-102), 2) := by decide +kernel
theorem dX10_need_31 : decode cX10_need 31 = .ok (.ireturn, 1) := by decide +kernel
theorem dX10_need_32 : decode cX10_need 32 = .ok (.aload_n 0, 1) := by decide +kernel
theorem dX10_need_33 : decode cX10_need 33 = .ok (.getfield 151, 3) := by decide +kernel
theorem dX10_need_36 : decode cX10_need 36 = .ok (.bipush 20, 2) := by decide +kernel
theorem dX10_need_38 : decode cX10_need 38 = .ok (.if_icmp .ne 6, 3) := by decide +kernel
theorem dX10_need_41 : decode cX10_need 41 = .ok (.bipush (-103), 2) := by decide +kernel
theorem dX10_need_43 : decode cX10_need 43 = .ok (.ireturn, 1) := by decide +kernel
theorem dX10_need_44 : decode cX10_need 44 = .ok (.aload_n 0, 1) := by decide +kernel
theorem dX10_need_45 : decode cX10_need 45 = .ok (.dup, 1) := by decide +kernel
theorem dX10_need_46 : decode cX10_need 46 = .ok (.getfield 151, 3) := by decide +kernel
theorem dX10_need_49 : decode cX10_need 49 = .ok (.iconst 1, 1) := by decide +kernel
theorem dX10_need_50 : decode cX10_need 50 = .ok (.iadd, 1) := by decide +kernel
theorem dX10_need_51 : decode cX10_need 51 = .ok (.putfield 151, 3) := by decide +kernel
theorem dX10_need_54 : decode cX10_need 54 = .ok (.aload_n 0, 1) := by decide +kernel
theorem dX10_need_55 : decode cX10_need 55 = .ok (.iload_n 1, 1) := by decide +kernel
theorem dX10_need_56 : decode cX10_need 56 = .ok (.invokevirtual 154, 3) := by decide +kernel
theorem dX10_need_59 : decode cX10_need 59 = .ok (.istore_n 3, 1) := by decide +kernel
theorem dX10_need_60 : decode cX10_need 60 = .ok (.iload_n 2, 1) := by decide +kernel
theorem dX10_need_61 : decode cX10_need 61 = .ok (.ifCond .eq 8, 3) := by decide +kernel
theorem dX10_need_64 : decode cX10_need 64 = .ok (.iload_n 3, 1) := by decide +kernel
theorem dX10_need_65 : decode cX10_need 65 = .ok (.iconst (-1), 1) := by decide +kernel
theorem dX10_need_66 : decode cX10_need 66 = .ok (.if_icmp .ne 7, 3) := by decide +kernel
theorem dX10_need_69 : decode cX10_need 69 = .ok (.iload_n 3, 1) := by decide +kernel
theorem dX10_need_70 : decode cX10_need 70 = .ok (.goto 27, 3) := by decide +kernel
theorem dX10_need_73 : decode cX10_need 73 = .ok (.iload_n 2, 1) := by decide +kernel
theorem dX10_need_74 : decode cX10_need 74 = .ok (.bipush 10, 2) := by decide +kernel
theorem dX10_need_76 : decode cX10_need 76 = .ok (.isub, 1) := by decide +kernel
theorem dX10_need_77 : decode cX10_need 77 = .ok (.aload_n 0, 1) := by decide +kernel
theorem dX10_need_78 : decode cX10_need 78 = .ok (.getfield 81, 3) := by decide +kernel
theorem dX10_need_81 : decode cX10_need 81 = .ok (.if_icmp .ge 15, 3) := by decide +kernel
theorem dX10_need_84 : decode cX10_need 84 = .ok (.aload_n 0, 1) := by decide +kernel
theorem dX10_need_85 : decode cX10_need 85 = .ok (.getfield 28, 3) := by decide +kernel
theorem dX10_need_88 : decode cX10_need 88 = .ok (.iload_n 2, 1) := by decide +kernel
theorem dX10_need_89 : decode cX10_need 89 = .ok (.bipush 10, 2) := by decide +kernel
theorem dX10_need_91 : decode cX10_need 91 = .ok (.isub, 1) := by decide +kernel
theorem dX10_need_92 : decode cX10_need 92 = .ok (.iaload, 1) := by decide +kernel
theorem dX10_need_93 : decode cX10_need 93 = .ok (.goto 4, 3) := by decide +kernel
theorem dX10_need_96 : decode cX10_need 96 = .ok (.iconst (-1), 1) := by decide +kernel
theorem dX10_need_97 : decode cX10_need 97 = .ok (.ireturn, 1) := by decide +kernel
set_option maxRecDepth 20000 in
theorem ggX10_hear_X10_isWidow : GoodIn wsX10_hear wsX10_isWidow := goodIn_r _ [7, 8, 9, 10, 6, 11, 17, 18, 19, 20, 21, 22, 23, 24, 25, 26, 27, 28, 29, 30, 31, 32, 33, 34, 35, 36, 37, 38, 39, 40, 41, 42] (by decide +kernel) (by decide +kernel)
set_option maxRecDepth 20000 in
theorem gX10_hear_X10_isWidow : GoodIn wsX10_hear (wsV RX10 135 RX10 yX10_isWidow wsX10_isWidow) := goodIn_app (goodIn_of _ (by decide +kernel)) ggX10_hear_X10_isWidow
set_option maxRecDepth 20000 in
theorem ggX10_hear_X10_isSinger : GoodIn wsX10_hear wsX10_isSinger := goodIn_r _ [15, 16, 9, 10, 6, 11, 17, 18, 19, 20, 21, 22, 23, 24, 25, 26, 27, 28, 29, 30, 31, 32, 33, 34, 35, 36, 37, 38, 39, 40, 41, 42] (by decide +kernel) (by decide +kernel)
set_option maxRecDepth 20000 in
theorem gX10_hear_X10_isSinger : GoodIn wsX10_hear (wsV RX10 121 RX10 yX10_isSinger wsX10_isSinger) := goodIn_app (goodIn_of _ (by decide +kernel)) ggX10_hear_X10_isSinger
theorem dX10_hear_0 : decode cX10_hear 0 = .ok (.aload_n 0, 1) := by decide +kernel
theorem dX10_hear_1 : decode cX10_hear 1 = .ok (.iload_n 1, 1) := by decide +kernel
theorem dX10_hear_2 : decode cX10_hear 2 = .ok (.invokevirtual 135, 3) := by decide +kernel
theorem dX10_hear_5 : decode cX10_hear 5 = .ok (.ifCond .eq 24, 3) := by decide +kernel
theorem dX10_hear_8 : decode cX10_hear 8 = .ok (.aload_n 0, 1) := by decide +kernel
theorem dX10_hear_9 : decode cX10_hear 9 = .ok (.iload_n 2, 1) := by decide +kernel
theorem dX10_hear_10 : decode cX10_hear 10 = .ok (.invokevirtual 121, 3) := by decide +kernel
theorem dX10_hear_13 : decode cX10_hear 13 = .ok (.ifCond .eq 16, 3) := by decide +kernel
theorem dX10_hear_16 : decode cX10_hear 16 = .ok (.aload_n 0, 1) := by decide +kernel
theorem dX10_hear_17 : decode cX10_hear 17 = .ok (.iload_n 3, 1) := by decide +kernel
theorem dX10_hear_18 : decode cX10_hear 18 = .ok (.invokevirtual 121, 3) := by decide +kernel
theorem dX10_hear_21 : decode cX10_hear 21 = .ok (.ifCond .eq 8, 3) := by decide +kernel
theorem dX10_hear_24 : decode cX10_hear 24 = .ok (.iload_n 2, 1) := by decide +kernel
theorem dX10_hear_25 : decode cX10_hear 25 = .ok (.iload_n 3, 1) := by decide +kernel
theorem dX10_hear_26 : decode cX10_hear 26 = .ok (.if_icmp .ne 6, 3) := by decide +kernel
theorem dX10_hear_29 : decode cX10_hear 29 = .ok (.bipush (-101), 2) := by decide +kernel
theorem dX10_hear_31 : decode cX10_hear 31 = .ok (.ireturn, 1) := by decide +kernel
theorem dX10_hear_32 : decode cX10_hear 32 = .ok (.aload_n 0, 1) := by decide +kernel
theorem dX10_hear_33 : decode cX10_hear 33 = .ok (.getfield 94, 3) := by decide +kernel
theorem dX10_hear_36 : decode cX10_hear 36 = .ok (.bipush 8, 2) := by decide +kernel
theorem dX10_hear_38 : decode cX10_hear 38 = .ok (.if_icmp .ne 6, 3) := by decide +kernel
theorem dX10_hear_41 : decode cX10_hear 41 = .ok (.bipush (-104), 2) := by decide +kernel
theorem dX10_hear_43 : decode cX10_hear 43 = .ok (.ireturn, 1) := by decide +kernel
theorem dX10_hear_44 : decode cX10_hear 44 = .ok (.aload_n 0, 1) := by decide +kernel
theorem dX10_hear_45 : decode cX10_hear 45 = .ok (.getfield 31, 3) := by decide +kernel
theorem dX10_hear_48 : decode cX10_hear 48 = .ok (.iconst 4, 1) := by decide +kernel
theorem dX10_hear_49 : decode cX10_hear 49 = .ok (.aload_n 0, 1) := by decide +kernel
theorem dX10_hear_50 : decode cX10_hear 50 = .ok (.getfield 94, 3) := by decide +kernel
theorem dX10_hear_53 : decode cX10_hear 53 = .ok (.imul, 1) := by decide +kernel
theorem dX10_hear_54 : decode cX10_hear 54 = .ok (.iload_n 1, 1) := by decide +kernel
theorem dX10_hear_55 : decode cX10_hear 55 = .ok (.iastore, 1) := by decide +kernel
theorem dX10_hear_56 : decode cX10_hear 56 = .ok (.aload_n 0, 1) := by decide +kernel
theorem dX10_hear_57 : decode cX10_hear 57 = .ok (.getfield 31, 3) := by decide +kernel
theorem dX10_hear_60 : decode cX10_hear 60 = .ok (.iconst 4, 1) := by decide +kernel
theorem dX10_hear_61 : decode cX10_hear 61 = .ok (.aload_n 0, 1) := by decide +kernel
theorem dX10_hear_62 : decode cX10_hear 62 = .ok (.getfield 94, 3) := by decide +kernel
theorem dX10_hear_65 : decode cX10_hear 65 = .ok (.imul, 1) := by decide +kernel
theorem dX10_hear_66 : decode cX10_hear 66 = .ok (.iconst 1, 1) := by decide +kernel
theorem dX10_hear_67 : decode cX10_hear 67 = .ok (.iadd, 1) := by decide +kernel
theorem dX10_hear_68 : decode cX10_hear 68 = .ok (.iload_n 2, 1) := by decide +kernel
theorem dX10_hear_69 : decode cX10_hear 69 = .ok (.iastore, 1) := by decide +kernel
theorem dX10_hear_70 : decode cX10_hear 70 = .ok (.aload_n 0, 1) := by decide +kernel
theorem dX10_hear_71 : decode cX10_hear 71 = .ok (.getfield 31, 3) := by decide +kernel
theorem dX10_hear_74 : decode cX10_hear 74 = .ok (.iconst 4, 1) := by decide +kernel
theorem dX10_hear_75 : decode cX10_hear 75 = .ok (.aload_n 0, 1) := by decide +kernel
theorem dX10_hear_76 : decode cX10_hear 76 = .ok (.getfield 94, 3) := by decide +kernel
theorem dX10_hear_79 : decode cX10_hear 79 = .ok (.imul, 1) := by decide +kernel
theorem dX10_hear_80 : decode cX10_hear 80 = .ok (.iconst 2, 1) := by decide +kernel
theorem dX10_hear_81 : decode cX10_hear 81 = .ok (.iadd, 1) := by decide +kernel
theorem dX10_hear_82 : decode cX10_hear 82 = .ok (.iload_n 3, 1) := by decide +kernel
theorem dX10_hear_83 : decode cX10_hear 83 = .ok (.iastore, 1) := by decide +kernel
theorem dX10_hear_84 : decode cX10_hear 84 = .ok (.aload_n 0, 1) := by decide +kernel
theorem dX10_hear_85 : decode cX10_hear 85 = .ok (.getfield 31, 3) := by decide +kernel
theorem dX10_hear_88 : decode cX10_hear 88 = .ok (.iconst 4, 1) := by decide +kernel
theorem dX10_hear_89 : decode cX10_hear 89 = .ok (.aload_n 0, 1) := by decide +kernel
theorem dX10_hear_90 : decode cX10_hear 90 = .ok (.getfield 94, 3) := by decide +kernel
theorem dX10_hear_93 : decode cX10_hear 93 = .ok (.imul, 1) := by decide +kernel
theorem dX10_hear_94 : decode cX10_hear 94 = .ok (.iconst 3, 1) := by decide +kernel
theorem dX10_hear_95 : decode cX10_hear 95 = .ok (.iadd, 1) := by decide +kernel
theorem dX10_hear_96 : decode cX10_hear 96 = .ok (.iload 4, 2) := by decide +kernel
theorem dX10_hear_98 : decode cX10_hear 98 = .ok (.ifCond .eq 7, 3) := by decide +kernel
theorem dX10_hear_101 : decode cX10_hear 101 = .ok (.iconst 1, 1) := by decide +kernel
theorem dX10_hear_102 : decode cX10_hear 102 = .ok (.goto 4, 3) := by decide +kernel
theorem dX10_hear_105 : decode cX10_hear 105 = .ok (.iconst 0, 1) := by decide +kernel
theorem dX10_hear_106 : decode cX10_hear 106 = .ok (.iastore, 1) := by decide +kernel
theorem dX10_hear_107 : decode cX10_hear 107 = .ok (.aload_n 0, 1) := by decide +kernel
theorem dX10_hear_108 : decode cX10_hear 108 = .ok (.dup, 1) := by decide +kernel
theorem dX10_hear_109 : decode cX10_hear 109 = .ok (.getfield 94, 3) := by decide +kernel
theorem dX10_hear_112 : decode cX10_hear 112 = .ok (.iconst 1, 1) := by decide +kernel
theorem dX10_hear_113 : decode cX10_hear 113 = .ok (.iadd, 1) := by decide +kernel
theorem dX10_hear_114 : decode cX10_hear 114 = .ok (.putfield 94, 3) := by decide +kernel
theorem dX10_hear_117 : decode cX10_hear 117 = .ok (.aload_n 0, 1) := by decide +kernel
theorem dX10_hear_118 : decode cX10_hear 118 = .ok (.getfield 94, 3) := by decide +kernel
theorem dX10_hear_121 : decode cX10_hear 121 = .ok (.ireturn, 1) := by decide +kernel
theorem dX10_forget_0 : decode cX10_forget 0 = .ok (.aload_n 0, 1) := by decide +kernel
theorem dX10_forget_1 : decode cX10_forget 1 = .ok (.getfield 94, 3) := by decide +kernel
theorem dX10_forget_4 : decode cX10_forget 4 = .ok (.istore_n 1, 1) := by decide +kernel
theorem dX10_forget_5 : decode cX10_forget 5 = .ok (.aload_n 0, 1) := by decide +kernel
theorem dX10_forget_6 : decode cX10_forget 6 = .ok (.iconst 0, 1) := by decide +kernel
theorem dX10_forget_7 : decode cX10_forget 7 = .ok (.putfield 94, 3) := by decide +kernel
theorem dX10_forget_10 : decode cX10_forget 10 = .ok (.iload_n 1, 1) := by decide +kernel
theorem dX10_forget_11 : decode cX10_forget 11 = .ok (.ireturn, 1) := by decide +kernel
set_option maxRecDepth 20000 in
theorem ggX10_isMore_X10_badOf : GoodIn wsX10_isMore wsX10_badOf := goodIn_r _ [5, 6, 7, 8, 9, 10, 11, 12, 13, 14, 15, 16, 17, 18, 19, 20, 21, 22, 23, 24, 25, 26, 27, 28, 29, 30, 31, 32] (by decide +kernel) (by decide +kernel)
set_option maxRecDepth 20000 in
theorem gX10_isMore_X10_badOf : GoodIn wsX10_isMore (wsV RX10 100 RX10 yX10_badOf wsX10_badOf) := goodIn_app (goodIn_of _ (by decide +kernel)) ggX10_isMore_X10_badOf
theorem dX10_isMore_0 : decode cX10_isMore 0 = .ok (.aload_n 0, 1) := by decide +kernel
theorem dX10_isMore_1 : decode cX10_isMore 1 = .ok (.iload_n 1, 1) := by decide +kernel
theorem dX10_isMore_2 : decode cX10_isMore 2 = .ok (.iload_n 3, 1) := by decide +kernel
theorem dX10_isMore_3 : decode cX10_isMore 3 = .ok (.invokevirtual 100, 3) := by decide +kernel
theorem dX10_isMore_6 : decode cX10_isMore 6 = .ok (.aload_n 0, 1) := by decide +kernel
theorem dX10_isMore_7 : decode cX10_isMore 7 = .ok (.iload_n 2, 1) := by decide +kernel
theorem dX10_isMore_8 : decode cX10_isMore 8 = .ok (.iload_n 3, 1) := by decide +kernel
theorem dX10_isMore_9 : decode cX10_isMore 9 = .ok (.invokevirtual 100, 3) := by decide +kernel
theorem dX10_isMore_12 : decode cX10_isMore 12 = .ok (.if_icmp .le 7, 3) := by decide +kernel
theorem dX10_isMore_15 : decode cX10_isMore 15 = .ok (.iconst 1, 1) := by decide +kernel
theorem dX10_isMore_16 : decode cX10_isMore 16 = .ok (.goto 4, 3) := by decide +kernel
theorem dX10_isMore_19 : decode cX10_isMore 19 = .ok (.iconst 0, 1) := by decide +kernel
theorem dX10_isMore_20 : decode cX10_isMore 20 = .ok (.ireturn, 1) := by decide +kernel
set_option maxRecDepth 20000 in
theorem ggX10_mindsOf_X10_isMore : GoodIn wsX10_mindsOf wsX10_isMore := goodIn_r _ [7, 8, 9, 10, 6, 11, 12, 13, 14, 15, 16, 17, 18, 19, 20, 21, 22, 23, 24, 25, 26, 27, 28, 29, 30, 31, 32, 33, 34, 35, 36, 37, 38] (by decide +kernel) (by decide +kernel)
set_option maxRecDepth 20000 in
theorem gX10_mindsOf_X10_isMore : GoodIn wsX10_mindsOf (wsV RX10 157 RX10 yX10_isMore wsX10_isMore) := goodIn_app (goodIn_of _ (by decide +kernel)) ggX10_mindsOf_X10_isMore
theorem dX10_mindsOf_0 : decode cX10_mindsOf 0 = .ok (.iconst 0, 1) := by decide +kernel
theorem dX10_mindsOf_1 : decode cX10_mindsOf 1 = .ok (.istore_n 2, 1) := by decide +kernel
theorem dX10_mindsOf_2 : decode cX10_mindsOf 2 = .ok (.iconst 0, 1) := by decide +kernel
theorem dX10_mindsOf_3 : decode cX10_mindsOf 3 = .ok (.istore_n 3, 1) := by decide +kernel
theorem dX10_mindsOf_4 : decode cX10_mindsOf 4 = .ok (.iload_n 3, 1) := by decide +kernel
theorem dX10_mindsOf_5 : decode cX10_mindsOf 5 = .ok (.iconst 4, 1) := by decide +kernel
theorem dX10_mindsOf_6 : decode cX10_mindsOf 6 = .ok (.if_icmp .ge 111, 3) := by decide +kernel
theorem dX10_mindsOf_9 : decode cX10_mindsOf 9 = .ok (.iconst 1, 1) := by decide +kernel
theorem dX10_mindsOf_10 : decode cX10_mindsOf 10 = .ok (.istore 4, 2) := by decide +kernel
theorem dX10_mindsOf_12 : decode cX10_mindsOf 12 = .ok (.iconst 0, 1) := by decide +kernel
theorem dX10_mindsOf_13 : decode cX10_mindsOf 13 = .ok (.istore 5, 2) := by decide +kernel
theorem dX10_mindsOf_15 : decode cX10_mindsOf 15 = .ok (.iload 5, 2) := by decide +kernel
theorem dX10_mindsOf_17 : decode cX10_mindsOf 17 = .ok (.aload_n 0, 1) := by decide +kernel
theorem dX10_mindsOf_18 : decode cX10_mindsOf 18 = .ok (.getfield 94, 3) := by decide +kernel
theorem dX10_mindsOf_21 : decode cX10_mindsOf 21 = .ok (.if_icmp .ge 75, 3) := by decide +kernel
theorem dX10_mindsOf_24 : decode cX10_mindsOf 24 = .ok (.iload 4, 2) := by decide +kernel
theorem dX10_mindsOf_26 : decode cX10_mindsOf 26 = .ok (.ifCond .eq 61, 3) := by decide +kernel
theorem dX10_mindsOf_29 : decode cX10_mindsOf 29 = .ok (.aload_n 0, 1) := by decide +kernel
theorem dX10_mindsOf_30 : decode cX10_mindsOf 30 = .ok (.getfield 31, 3) := by decide +kernel
theorem dX10_mindsOf_33 : decode cX10_mindsOf 33 = .ok (.iconst 4, 1) := by decide +kernel
theorem dX10_mindsOf_34 : decode cX10_mindsOf 34 = .ok (.iload 5, 2) := by decide +kernel
theorem dX10_mindsOf_36 : decode cX10_mindsOf 36 = .ok (.imul, 1) := by decide +kernel
theorem dX10_mindsOf_37 : decode cX10_mindsOf 37 = .ok (.iaload, 1) := by decide +kernel
theorem dX10_mindsOf_38 : decode cX10_mindsOf 38 = .ok (.iload_n 1, 1) := by decide +kernel
theorem dX10_mindsOf_39 : decode cX10_mindsOf 39 = .ok (.if_icmp .ne 44, 3) := by decide +kernel
theorem dX10_mindsOf_42 : decode cX10_mindsOf 42 = .ok (.aload_n 0, 1) := by decide +kernel
theorem dX10_mindsOf_43 : decode cX10_mindsOf 43 = .ok (.aload_n 0, 1) := by decide +kernel
theorem dX10_mindsOf_44 : decode cX10_mindsOf 44 = .ok (.getfield 31, 3) := by decide +kernel
theorem dX10_mindsOf_47 : decode cX10_mindsOf 47 = .ok (.iconst 4, 1) := by decide +kernel
theorem dX10_mindsOf_48 : decode cX10_mindsOf 48 = .ok (.iload 5, 2) := by decide +kernel
theorem dX10_mindsOf_50 : decode cX10_mindsOf 50 = .ok (.imul, 1) := by decide +kernel
theorem dX10_mindsOf_51 : decode cX10_mindsOf 51 = .ok (.iconst 1, 1) := by decide +kernel
theorem dX10_mindsOf_52 : decode cX10_mindsOf 52 = .ok (.iadd, 1) := by decide +kernel
theorem dX10_mindsOf_53 : decode cX10_mindsOf 53 = .ok (.iaload, 1) := by decide +kernel
theorem dX10_mindsOf_54 : decode cX10_mindsOf 54 = .ok (.aload_n 0, 1) := by decide +kernel
theorem dX10_mindsOf_55 : decode cX10_mindsOf 55 = .ok (.getfield 31, 3) := by decide +kernel
theorem dX10_mindsOf_58 : decode cX10_mindsOf 58 = .ok (.iconst 4, 1) := by decide +kernel
theorem dX10_mindsOf_59 : decode cX10_mindsOf 59 = .ok (.iload 5, 2) := by decide +kernel
theorem dX10_mindsOf_61 : decode cX10_mindsOf 61 = .ok (.imul, 1) := by decide +kernel
theorem dX10_mindsOf_62 : decode cX10_mindsOf 62 = .ok (.iconst 2, 1) := by decide +kernel
theorem dX10_mindsOf_63 : decode cX10_mindsOf 63 = .ok (.iadd, 1) := by decide +kernel
theorem dX10_mindsOf_64 : decode cX10_mindsOf 64 = .ok (.iaload, 1) := by decide +kernel
theorem dX10_mindsOf_65 : decode cX10_mindsOf 65 = .ok (.iload_n 3, 1) := by decide +kernel
theorem dX10_mindsOf_66 : decode cX10_mindsOf 66 = .ok (.invokevirtual 157, 3) := by decide +kernel
theorem dX10_mindsOf_69 : decode cX10_mindsOf 69 = .ok (.aload_n 0, 1) := by decide +kernel
theorem dX10_mindsOf_70 : decode cX10_mindsOf 70 = .ok (.getfield 31, 3) := by decide +kernel
theorem dX10_mindsOf_73 : decode cX10_mindsOf 73 = .ok (.iconst 4, 1) := by decide +kernel
theorem dX10_mindsOf_74 : decode cX10_mindsOf 74 = .ok (.iload 5, 2) := by decide +kernel
theorem dX10_mindsOf_76 : decode cX10_mindsOf 76 = .ok (.imul, 1) := by decide +kernel
theorem dX10_mindsOf_77 : decode cX10_mindsOf 77 = .ok (.iconst 3, 1) := by decide +kernel
theorem dX10_mindsOf_78 : decode cX10_mindsOf 78 = .ok (.iadd, 1) := by decide +kernel
theorem dX10_mindsOf_79 : decode cX10_mindsOf 79 = .ok (.iaload, 1) := by decide +kernel
theorem dX10_mindsOf_80 : decode cX10_mindsOf 80 = .ok (.if_icmp .ne 7, 3) := by decide +kernel
theorem dX10_mindsOf_83 : decode cX10_mindsOf 83 = .ok (.iconst 1, 1) := by decide +kernel
theorem dX10_mindsOf_84 : decode cX10_mindsOf 84 = .ok (.goto 4, 3) := by decide +kernel
theorem dX10_mindsOf_87 : decode cX10_mindsOf 87 = .ok (.iconst 0, 1) := by decide +kernel
theorem dX10_mindsOf_88 : decode cX10_mindsOf 88 = .ok (.istore 4, 2) := by decide +kernel
theorem dX10_mindsOf_90 : decode cX10_mindsOf 90 = .ok (.iinc 5 1, 3) := by decide +kernel
theorem dX10_mindsOf_93 : decode cX10_mindsOf 93 = .ok (.goto (-78), 3) := by decide +kernel
theorem dX10_mindsOf_96 : decode cX10_mindsOf 96 = .ok (.iload_n 2, 1) := by decide +kernel
theorem dX10_mindsOf_97 : decode cX10_mindsOf 97 = .ok (.iload 4, 2) := by decide +kernel
theorem dX10_mindsOf_99 : decode cX10_mindsOf 99 = .ok (.ifCond .eq 9, 3) := by decide +kernel
theorem dX10_mindsOf_102 : decode cX10_mindsOf 102 = .ok (.iconst 1, 1) := by decide +kernel
theorem dX10_mindsOf_103 : decode cX10_mindsOf 103 = .ok (.iload_n 3, 1) := by decide +kernel
theorem dX10_mindsOf_104 : decode cX10_mindsOf 104 = .ok (.ishl, 1) := by decide +kernel
theorem dX10_mindsOf_105 : decode cX10_mindsOf 105 = .ok (.goto 4, 3) := by decide +kernel
theorem dX10_mindsOf_108 : decode cX10_mindsOf 108 = .ok (.iconst 0, 1) := by decide +kernel
theorem dX10_mindsOf_109 : decode cX10_mindsOf 109 = .ok (.ior, 1) := by decide +kernel
theorem dX10_mindsOf_110 : decode cX10_mindsOf 110 = .ok (.istore_n 2, 1) := by decide +kernel
theorem dX10_mindsOf_111 : decode cX10_mindsOf 111 = .ok (.iinc 3 1, 3) := by decide +kernel
theorem dX10_mindsOf_114 : decode cX10_mindsOf 114 = .ok (.goto (-110), 3) := by decide +kernel
theorem dX10_mindsOf_117 : decode cX10_mindsOf 117 = .ok (.iload_n 2, 1) := by decide +kernel
theorem dX10_mindsOf_118 : decode cX10_mindsOf 118 = .ok (.ireturn, 1) := by decide +kernel
set_option maxRecDepth 20000 in
theorem ggX10_askOf_X10_mindsOf : GoodIn wsX10_askOf wsX10_mindsOf := goodIn_r _ [5, 6, 7, 8, 9, 10, 4, 11, 12, 13, 14, 15, 16, 25, 26, 27, 28, 29, 30, 31, 32, 33, 34, 35, 36, 37, 38, 39, 40, 41, 42, 43, 44, 45, 46, 47, 48, 49, 50] (by decide +kernel) (by decide +kernel)
set_option maxRecDepth 20000 in
theorem gX10_askOf_X10_mindsOf : GoodIn wsX10_askOf (wsV RX10 129 RX10 yX10_mindsOf wsX10_mindsOf) := goodIn_app (goodIn_of _ (by decide +kernel)) ggX10_askOf_X10_mindsOf
set_option maxRecDepth 20000 in
theorem ggX10_askOf_X10_isSinger : GoodIn wsX10_askOf wsX10_isSinger := goodIn_r _ [20, 21, 22, 23, 4, 24, 25, 26, 27, 28, 29, 30, 31, 32, 33, 34, 35, 36, 37, 38, 39, 40, 41, 42, 43, 44, 45, 46, 47, 48, 49, 50] (by decide +kernel) (by decide +kernel)
set_option maxRecDepth 20000 in
theorem gX10_askOf_X10_isSinger : GoodIn wsX10_askOf (wsV RX10 121 RX10 yX10_isSinger wsX10_isSinger) := goodIn_app (goodIn_of _ (by decide +kernel)) ggX10_askOf_X10_isSinger
set_option maxRecDepth 20000 in
theorem ggX10_askOf_X10_isMore : GoodIn wsX10_askOf wsX10_isMore := goodIn_r _ [11, 12, 13, 14, 4, 15, 16, 25, 26, 27, 28, 29, 30, 31, 32, 33, 34, 35, 36, 37, 38, 39, 40, 41, 42, 43, 44, 45, 46, 47, 48, 49, 50] (by decide +kernel) (by decide +kernel)
set_option maxRecDepth 20000 in
theorem gX10_askOf_X10_isMore : GoodIn wsX10_askOf (wsV RX10 157 RX10 yX10_isMore wsX10_isMore) := goodIn_app (goodIn_of _ (by decide +kernel)) ggX10_askOf_X10_isMore
theorem dX10_askOf_0 : decode cX10_askOf 0 = .ok (.aload_n 0, 1) := by decide +kernel
theorem dX10_askOf_1 : decode cX10_askOf 1 = .ok (.iload_n 1, 1) := by decide +kernel
theorem dX10_askOf_2 : decode cX10_askOf 2 = .ok (.invokevirtual 129, 3) := by decide +kernel
theorem dX10_askOf_5 : decode cX10_askOf 5 = .ok (.istore_n 2, 1) := by decide +kernel
theorem dX10_askOf_6 : decode cX10_askOf 6 = .ok (.iconst (-1), 1) := by decide +kernel
theorem dX10_askOf_7 : decode cX10_askOf 7 = .ok (.istore_n 3, 1) := by decide +kernel
theorem dX10_askOf_8 : decode cX10_askOf 8 = .ok (.iconst 5, 1) := by decide +kernel
theorem dX10_askOf_9 : decode cX10_askOf 9 = .ok (.istore 4, 2) := by decide +kernel
theorem dX10_askOf_11 : decode cX10_askOf 11 = .ok (.iconst 0, 1) := by decide +kernel
theorem dX10_askOf_12 : decode cX10_askOf 12 = .ok (.istore 5, 2) := by decide +kernel
theorem dX10_askOf_14 : decode cX10_askOf 14 = .ok (.iload 5, 2) := by decide +kernel
theorem dX10_askOf_16 : decode cX10_askOf 16 = .ok (.bipush 16, 2) := by decide +kernel
theorem dX10_askOf_18 : decode cX10_askOf 18 = .ok (.if_icmp .ge 156, 3) := by decide +kernel
theorem dX10_askOf_21 : decode cX10_askOf 21 = .ok (.iload_n 2, 1) := by decide +kernel
theorem dX10_askOf_22 : decode cX10_askOf 22 = .ok (.ifCond .eq 152, 3) := by decide +kernel
theorem dX10_askOf_25 : decode cX10_askOf 25 = .ok (.iload 5, 2) := by decide +kernel
theorem dX10_askOf_27 : decode cX10_askOf 27 = .ok (.iconst 4, 1) := by decide +kernel
theorem dX10_askOf_28 : decode cX10_askOf 28 = .ok (.idiv, 1) := by decide +kernel
theorem dX10_askOf_29 : decode cX10_askOf 29 = .ok (.istore 6, 2) := by decide +kernel
theorem dX10_askOf_31 : decode cX10_askOf 31 = .ok (.iload 5, 2) := by decide +kernel
theorem dX10_askOf_33 : decode cX10_askOf 33 = .ok (.iconst 4, 1) := by decide +kernel
theorem dX10_askOf_34 : decode cX10_askOf 34 = .ok (.irem, 1) := by decide +kernel
theorem dX10_askOf_35 : decode cX10_askOf 35 = .ok (.istore 7, 2) := by decide +kernel
theorem dX10_askOf_37 : decode cX10_askOf 37 = .ok (.iload 6, 2) := by decide +kernel
theorem dX10_askOf_39 : decode cX10_askOf 39 = .ok (.iload 7, 2) := by decide +kernel
theorem dX10_askOf_41 : decode cX10_askOf 41 = .ok (.if_icmp .eq 127, 3) := by decide +kernel
theorem dX10_askOf_44 : decode cX10_askOf 44 = .ok (.aload_n 0, 1) := by decide +kernel
theorem dX10_askOf_45 : decode cX10_askOf 45 = .ok (.iload 6, 2) := by decide +kernel
theorem dX10_askOf_47 : decode cX10_askOf 47 = .ok (.invokevirtual 121, 3) := by decide +kernel
theorem dX10_askOf_50 : decode cX10_askOf 50 = .ok (.ifCond .eq 118, 3) := by decide +kernel
theorem dX10_askOf_53 : decode cX10_askOf 53 = .ok (.aload_n 0, 1) := by decide +kernel
theorem dX10_askOf_54 : decode cX10_askOf 54 = .ok (.iload 7, 2) := by decide +kernel
theorem dX10_askOf_56 : decode cX10_askOf 56 = .ok (.invokevirtual 121, 3) := by decide +kernel
theorem dX10_askOf_59 : decode cX10_askOf 59 = .ok (.ifCond .eq 109, 3) := by decide +kernel
theorem dX10_askOf_62 : decode cX10_askOf 62 = .ok (.iconst 0, 1) := by decide +kernel
theorem dX10_askOf_63 : decode cX10_askOf 63 = .ok (.istore 8, 2) := by decide +kernel
theorem dX10_askOf_65 : decode cX10_askOf 65 = .ok (.iconst 0, 1) := by decide +kernel
theorem dX10_askOf_66 : decode cX10_askOf 66 = .ok (.istore 9, 2) := by decide +kernel
theorem dX10_askOf_68 : decode cX10_askOf 68 = .ok (.iconst 0, 1) := by decide +kernel
theorem dX10_askOf_69 : decode cX10_askOf 69 = .ok (.istore 10, 2) := by decide +kernel
theorem dX10_askOf_71 : decode cX10_askOf 71 = .ok (.iload 10, 2) := by decide +kernel
theorem dX10_askOf_73 : decode cX10_askOf 73 = .ok (.iconst 4, 1) := by decide +kernel
theorem dX10_askOf_74 : decode cX10_askOf 74 = .ok (.if_icmp .ge 42, 3) := by decide +kernel
theorem dX10_askOf_77 : decode cX10_askOf 77 = .ok (.iload_n 2, 1) := by decide +kernel
theorem dX10_askOf_78 : decode cX10_askOf 78 = .ok (.iload 10, 2) := by decide +kernel
theorem dX10_askOf_80 : decode cX10_askOf 80 = .ok (.ishr, 1) := by decide +kernel
theorem dX10_askOf_81 : decode cX10_askOf 81 = .ok (.iconst 1, 1) := by decide +kernel
theorem dX10_askOf_82 : decode cX10_askOf 82 = .ok (.iand, 1) := by decide +kernel
theorem dX10_askOf_83 : decode cX10_askOf 83 = .ok (.istore 11, 2) := by decide +kernel
theorem dX10_askOf_85 : decode cX10_askOf 85 = .ok (.iload 9, 2) := by decide +kernel
theorem dX10_askOf_87 : decode cX10_askOf 87 = .ok (.iload 11, 2) := by decide +kernel
theorem dX10_askOf_89 : decode cX10_askOf 89 = .ok (.iadd, 1) := by decide +kernel
theorem dX10_askOf_90 : decode cX10_askOf 90 = .ok (.istore 9, 2) := by decide +kernel
theorem dX10_askOf_92 : decode cX10_askOf 92 = .ok (.iload 8, 2) := by decide +kernel
theorem dX10_askOf_94 : decode cX10_askOf 94 = .ok (.iload 11, 2) := by decide +kernel
theorem dX10_askOf_96 : decode cX10_askOf 96 = .ok (.aload_n 0, 1) := by decide +kernel
theorem dX10_askOf_97 : decode cX10_askOf 97 = .ok (.iload 6, 2) := by decide +kernel
theorem dX10_askOf_99 : decode cX10_askOf 99 = .ok (.iload 7, 2) := by decide +kernel
theorem dX10_askOf_101 : decode cX10_askOf 101 = .ok (.iload 10, 2) := by decide +kernel
theorem dX10_askOf_103 : decode cX10_askOf 103 = .ok (.invokevirtual 157, 3) := by decide +kernel
theorem dX10_askOf_106 : decode cX10_askOf 106 = .ok (.imul, 1) := by decide +kernel
theorem dX10_askOf_107 : decode cX10_askOf 107 = .ok (.iadd, 1) := by decide +kernel
theorem dX10_askOf_108 : decode cX10_askOf 108 = .ok (.istore 8, 2) := by decide +kernel
theorem dX10_askOf_110 : decode cX10_askOf 110 = .ok (.iinc 10 1, 3) := by decide +kernel
theorem dX10_askOf_113 : decode cX10_askOf 113 = .ok (.goto (-42), 3) := by decide +kernel
theorem dX10_askOf_116 : decode cX10_askOf 116 = .ok (.iload 8, 2) := by decide +kernel
theorem dX10_askOf_118 : decode cX10_askOf 118 = .ok (.iload 9, 2) := by decide +kernel
theorem dX10_askOf_120 : decode cX10_askOf 120 = .ok (.iload 8, 2) := by decide +kernel
theorem dX10_askOf_122 : decode cX10_askOf 122 = .ok (.isub, 1) := by decide +kernel
theorem dX10_askOf_123 : decode cX10_askOf 123 = .ok (.if_icmp .le 8, 3) := by decide +kernel
theorem dX10_askOf_126 : decode cX10_askOf 126 = .ok (.iload 8, 2) := by decide +kernel
theorem dX10_askOf_128 : decode cX10_askOf 128 = .ok (.goto 8, 3) := by decide +kernel
theorem dX10_askOf_131 : decode cX10_askOf 131 = .ok (.iload 9, 2) := by decide +kernel
theorem dX10_askOf_133 : decode cX10_askOf 133 = .ok (.iload 8, 2) := by decide +kernel
theorem dX10_askOf_135 : decode cX10_askOf 135 = .ok (.isub, 1) := by decide +kernel
theorem dX10_askOf_136 : decode cX10_askOf 136 = .ok (.istore 10, 2) := by decide +kernel
theorem dX10_askOf_138 : decode cX10_askOf 138 = .ok (.iload 10, 2) := by decide +kernel
theorem dX10_askOf_140 : decode cX10_askOf 140 = .ok (.iload 4, 2) := by decide +kernel
theorem dX10_askOf_142 : decode cX10_askOf 142 = .ok (.if_icmp .ge 8, 3) := by decide +kernel
theorem dX10_askOf_145 : decode cX10_askOf 145 = .ok (.iload 5, 2) := by decide +kernel
theorem dX10_askOf_147 : decode cX10_askOf 147 = .ok (.goto 4, 3) := by decide +kernel
theorem dX10_askOf_150 : decode cX10_askOf 150 = .ok (.iload_n 3, 1) := by decide +kernel
theorem dX10_askOf_151 : decode cX10_askOf 151 = .ok (.istore_n 3, 1) := by decide +kernel
theorem dX10_askOf_152 : decode cX10_askOf 152 = .ok (.iload 10, 2) := by decide +kernel
theorem dX10_askOf_154 : decode cX10_askOf 154 = .ok (.iload 4, 2) := by decide +kernel
theorem dX10_askOf_156 : decode cX10_askOf 156 = .ok (.if_icmp .ge 8, 3) := by decide +kernel
theorem dX10_askOf_159 : decode cX10_askOf 159 = .ok (.iload 10, 2) := by decide +kernel
theorem dX10_askOf_161 : decode cX10_askOf 161 = .ok (.goto 5, 3) := by decide +kernel
theorem dX10_askOf_164 : decode cX10_askOf 164 = .ok (.iload 4, 2) := by decide +kernel
theorem dX10_askOf_166 : decode cX10_askOf 166 = .ok (.istore 4, 2) := by decide +kernel
theorem dX10_askOf_168 : decode cX10_askOf 168 = .ok (.iinc 5 1, 3) := by decide +kernel
theorem dX10_askOf_171 : decode cX10_askOf 171 = .ok (.goto (-157), 3) := by decide +kernel
theorem dX10_askOf_174 : decode cX10_askOf 174 = .ok (.iload_n 3, 1) := by decide +kernel
theorem dX10_askOf_175 : decode cX10_askOf 175 = .ok (.ireturn, 1) := by decide +kernel
theorem dX10_draw_0 : decode cX10_draw 0 = .ok (.aload_n 0, 1) := by decide +kernel
theorem dX10_draw_1 : decode cX10_draw 1 = .ok (.ldc2_w 161, 3) := by decide +kernel
theorem dX10_draw_4 : decode cX10_draw 4 = .ok (.aload_n 0, 1) := by decide +kernel
theorem dX10_draw_5 : decode cX10_draw 5 = .ok (.getfield 163, 3) := by decide +kernel
theorem dX10_draw_8 : decode cX10_draw 8 = .ok (.i2l, 1) := by decide +kernel
theorem dX10_draw_9 : decode cX10_draw 9 = .ok (.lmul, 1) := by decide +kernel
theorem dX10_draw_10 : decode cX10_draw 10 = .ok (.ldc2_w 166, 3) := by decide +kernel
theorem dX10_draw_13 : decode cX10_draw 13 = .ok (.ladd, 1) := by decide +kernel
theorem dX10_draw_14 : decode cX10_draw 14 = .ok (.ldc2_w 168, 3) := by decide +kernel
theorem dX10_draw_17 : decode cX10_draw 17 = .ok (.land, 1) := by decide +kernel
theorem dX10_draw_18 : decode cX10_draw 18 = .ok (.l2i, 1) := by decide +kernel
theorem dX10_draw_19 : decode cX10_draw 19 = .ok (.putfield 163, 3) := by decide +kernel
theorem dX10_draw_22 : decode cX10_draw 22 = .ok (.aload_n 0, 1) := by decide +kernel
theorem dX10_draw_23 : decode cX10_draw 23 = .ok (.getfield 163, 3) := by decide +kernel
theorem dX10_draw_26 : decode cX10_draw 26 = .ok (.ldc 170, 2) := by decide +kernel
theorem dX10_draw_28 : decode cX10_draw 28 = .ok (.idiv, 1) := by decide +kernel
theorem dX10_draw_29 : decode cX10_draw 29 = .ok (.iload_n 1, 1) := by decide +kernel
theorem dX10_draw_30 : decode cX10_draw 30 = .ok (.irem, 1) := by decide +kernel
theorem dX10_draw_31 : decode cX10_draw 31 = .ok (.ireturn, 1) := by decide +kernel
set_option maxRecDepth 20000 in
theorem ggX10_years_X10_in : GoodIn wsX10_years wsX10_in := goodIn_r _ [10] (by decide +kernel) (by decide +kernel)
set_option maxRecDepth 20000 in
theorem gX10_years_X10_in : GoodIn wsX10_years (va_wsS RX10 49 yX10_in wsX10_in) := goodIn_app (goodIn_of _ (by decide +kernel)) ggX10_years_X10_in
set_option maxRecDepth 20000 in
theorem ggX10_years_X10_copy : GoodIn wsX10_years wsX10_copy := goodIn_r _ [13] (by decide +kernel) (by decide +kernel)
set_option maxRecDepth 20000 in
theorem gX10_years_X10_copy : GoodIn wsX10_years (va_wsS RX10 87 yX10_copy wsX10_copy) := goodIn_app (goodIn_of _ (by decide +kernel)) ggX10_years_X10_copy
set_option maxRecDepth 20000 in
theorem ggX10_years_X10_draw : GoodIn wsX10_years wsX10_draw := goodIn_r _ [17, 18, 6, 19, 20, 21, 44, 45, 46, 47, 48, 49, 50, 51, 52, 53, 54, 55, 56, 57, 58, 59, 60, 61, 62, 63, 64, 65, 66, 67, 68, 69] (by decide +kernel) (by decide +kernel)
set_option maxRecDepth 20000 in
theorem gX10_years_X10_draw : GoodIn wsX10_years (wsV RX10 175 RX10 yX10_draw wsX10_draw) := goodIn_app (goodIn_of _ (by decide +kernel)) ggX10_years_X10_draw
set_option maxRecDepth 20000 in
theorem ggX10_years_X10_weekOf : GoodIn wsX10_years wsX10_weekOf := goodIn_r _ [25, 4, 44, 45, 46, 47, 48, 49, 50, 51, 52, 53, 54, 55, 56, 57, 58, 59, 60, 61, 62, 63, 64, 65, 66, 67, 68, 69] (by decide +kernel) (by decide +kernel)
set_option maxRecDepth 20000 in
theorem gX10_years_X10_weekOf : GoodIn wsX10_years (wsV RX10 141 RX10 yX10_weekOf wsX10_weekOf) := goodIn_app (goodIn_of _ (by decide +kernel)) ggX10_years_X10_weekOf
set_option maxRecDepth 20000 in
theorem ggX10_years_X10_mayorOf : GoodIn wsX10_years wsX10_mayorOf := goodIn_r _ [29, 3, 30, 31, 32, 9, 33, 34, 35, 36, 37, 38, 39, 40, 41, 42, 43, 4, 44, 45, 46, 47, 48, 49, 50, 51, 52, 53, 54, 55, 56, 57, 58, 59, 60, 61, 62, 63, 64, 65, 66, 67, 68, 69] (by decide +kernel) (by decide +kernel)
set_option maxRecDepth 20000 in
theorem gX10_years_X10_mayorOf : GoodIn wsX10_years (wsV RX10 144 RX10 yX10_mayorOf wsX10_mayorOf) := goodIn_app (goodIn_of _ (by decide +kernel)) ggX10_years_X10_mayorOf
theorem dX10_years_0 : decode cX10_years 0 = .ok (.iload_n 1, 1) := by decide +kernel
theorem dX10_years_1 : decode cX10_years 1 = .ok (.i2l, 1) := by decide +kernel
theorem dX10_years_2 : decode cX10_years 2 = .ok (.lconst 1, 1) := by decide +kernel
theorem dX10_years_3 : decode cX10_years 3 = .ok (.ldc2_w 171, 3) := by decide +kernel
theorem dX10_years_6 : decode cX10_years 6 = .ok (.invokestatic 49, 3) := by decide +kernel
theorem dX10_years_9 : decode cX10_years 9 = .ok (.ifCond .eq 19, 3) := by decide +kernel
theorem dX10_years_12 : decode cX10_years 12 = .ok (.iload_n 2, 1) := by decide +kernel
theorem dX10_years_13 : decode cX10_years 13 = .ok (.ifCond .lt 15, 3) := by decide +kernel
theorem dX10_years_16 : decode cX10_years 16 = .ok (.iload_n 3, 1) := by decide +kernel
theorem dX10_years_17 : decode cX10_years 17 = .ok (.i2l, 1) := by decide +kernel
theorem dX10_years_18 : decode cX10_years 18 = .ok (.lconst 0, 1) := by decide +kernel
theorem dX10_years_19 : decode cX10_years 19 = .ok (.ldc2_w 173, 3) := by decide +kernel
theorem dX10_years_22 : decode cX10_years 22 = .ok (.invokestatic 49, 3) := by decide +kernel
theorem dX10_years_25 : decode cX10_years 25 = .ok (.ifCond .ne 6, 3) := by decide +kernel
theorem dX10_years_28 : decode cX10_years 28 = .ok (.bipush (-102), 2) := by decide +kernel
theorem dX10_years_30 : decode cX10_years 30 = .ok (.ireturn, 1) := by decide +kernel
theorem dX10_years_31 : decode cX10_years 31 = .ok (.aload_n 0, 1) := by decide +kernel
theorem dX10_years_32 : decode cX10_years 32 = .ok (.getfield 81, 3) := by decide +kernel
theorem dX10_years_35 : decode cX10_years 35 = .ok (.ifCond .ne 6, 3) := by decide +kernel
theorem dX10_years_38 : decode cX10_years 38 = .ok (.bipush (-103), 2) := by decide +kernel
theorem dX10_years_40 : decode cX10_years 40 = .ok (.ireturn, 1) := by decide +kernel
theorem dX10_years_41 : decode cX10_years 41 = .ok (.aload_n 0, 1) := by decide +kernel
theorem dX10_years_42 : decode cX10_years 42 = .ok (.getfield 19, 3) := by decide +kernel
theorem dX10_years_45 : decode cX10_years 45 = .ok (.aload_n 0, 1) := by decide +kernel
theorem dX10_years_46 : decode cX10_years 46 = .ok (.getfield 34, 3) := by decide +kernel
theorem dX10_years_49 : decode cX10_years 49 = .ok (.invokestatic 87, 3) := by decide +kernel
theorem dX10_years_52 : decode cX10_years 52 = .ok (.aload_n 0, 1) := by decide +kernel
theorem dX10_years_53 : decode cX10_years 53 = .ok (.iload_n 2, 1) := by decide +kernel
theorem dX10_years_54 : decode cX10_years 54 = .ok (.putfield 163, 3) := by decide +kernel
theorem dX10_years_57 : decode cX10_years 57 = .ok (.iconst 0, 1) := by decide +kernel
theorem dX10_years_58 : decode cX10_years 58 = .ok (.istore 4, 2) := by decide +kernel
theorem dX10_years_60 : decode cX10_years 60 = .ok (.iconst (-1), 1) := by decide +kernel
theorem dX10_years_61 : decode cX10_years 61 = .ok (.istore 5, 2) := by decide +kernel
theorem dX10_years_63 : decode cX10_years 63 = .ok (.iconst 0, 1) := by decide +kernel
theorem dX10_years_64 : decode cX10_years 64 = .ok (.istore 6, 2) := by decide +kernel
theorem dX10_years_66 : decode cX10_years 66 = .ok (.iload 6, 2) := by decide +kernel
theorem dX10_years_68 : decode cX10_years 68 = .ok (.iload_n 1, 1) := by decide +kernel
theorem dX10_years_69 : decode cX10_years 69 = .ok (.if_icmp .ge 80, 3) := by decide +kernel
theorem dX10_years_72 : decode cX10_years 72 = .ok (.aload_n 0, 1) := by decide +kernel
theorem dX10_years_73 : decode cX10_years 73 = .ok (.aload_n 0, 1) := by decide +kernel
theorem dX10_years_74 : decode cX10_years 74 = .ok (.aload_n 0, 1) := by decide +kernel
theorem dX10_years_75 : decode cX10_years 75 = .ok (.getfield 81, 3) := by decide +kernel
theorem dX10_years_78 : decode cX10_years 78 = .ok (.invokevirtual 175, 3) := by decide +kernel
theorem dX10_years_81 : decode cX10_years 81 = .ok (.invokevirtual 141, 3) := by decide +kernel
theorem dX10_years_84 : decode cX10_years 84 = .ok (.istore 7, 2) := by decide +kernel
theorem dX10_years_86 : decode cX10_years 86 = .ok (.aload_n 0, 1) := by decide +kernel
theorem dX10_years_87 : decode cX10_years 87 = .ok (.aload_n 0, 1) := by decide +kernel
theorem dX10_years_88 : decode cX10_years 88 = .ok (.getfield 81, 3) := by decide +kernel
theorem dX10_years_91 : decode cX10_years 91 = .ok (.invokevirtual 175, 3) := by decide +kernel
theorem dX10_years_94 : decode cX10_years 94 = .ok (.istore 8, 2) := by decide +kernel
theorem dX10_years_96 : decode cX10_years 96 = .ok (.aload_n 0, 1) := by decide +kernel
theorem dX10_years_97 : decode cX10_years 97 = .ok (.getfield 19, 3) := by decide +kernel
theorem dX10_years_100 : decode cX10_years 100 = .ok (.bipush 8, 2) := by decide +kernel
theorem dX10_years_102 : decode cX10_years 102 = .ok (.iload 8, 2) := by decide +kernel
theorem dX10_years_104 : decode cX10_years 104 = .ok (.imul, 1) := by decide +kernel
theorem dX10_years_105 : decode cX10_years 105 = .ok (.iconst 5, 1) := by decide +kernel
theorem dX10_years_106 : decode cX10_years 106 = .ok (.iadd, 1) := by decide +kernel
theorem dX10_years_107 : decode cX10_years 107 = .ok (.iconst 1, 1) := by decide +kernel
theorem dX10_years_108 : decode cX10_years 108 = .ok (.aload_n 0, 1) := by decide +kernel
theorem dX10_years_109 : decode cX10_years 109 = .ok (.getfield 19, 3) := by decide +kernel
theorem dX10_years_112 : decode cX10_years 112 = .ok (.bipush 8, 2) := by decide +kernel
theorem dX10_years_114 : decode cX10_years 114 = .ok (.iload 8, 2) := by decide +kernel
theorem dX10_years_116 : decode cX10_years 116 = .ok (.imul, 1) := by decide +kernel
theorem dX10_years_117 : decode cX10_years 117 = .ok (.iconst 5, 1) := by decide +kernel
theorem dX10_years_118 : decode cX10_years 118 = .ok (.iadd, 1) := by decide +kernel
theorem dX10_years_119 : decode cX10_years 119 = .ok (.iaload, 1) := by decide +kernel
theorem dX10_years_120 : decode cX10_years 120 = .ok (.isub, 1) := by decide +kernel
theorem dX10_years_121 : decode cX10_years 121 = .ok (.iastore, 1) := by decide +kernel
theorem dX10_years_122 : decode cX10_years 122 = .ok (.aload_n 0, 1) := by decide +kernel
theorem dX10_years_123 : decode cX10_years 123 = .ok (.invokevirtual 144, 3) := by decide +kernel
theorem dX10_years_126 : decode cX10_years 126 = .ok (.istore 5, 2) := by decide +kernel
theorem dX10_years_128 : decode cX10_years 128 = .ok (.iload 4, 2) := by decide +kernel
theorem dX10_years_130 : decode cX10_years 130 = .ok (.iload 5, 2) := by decide +kernel
theorem dX10_years_132 : decode cX10_years 132 = .ok (.ifCond .ne 7, 3) := by decide +kernel
theorem dX10_years_135 : decode cX10_years 135 = .ok (.iconst 1, 1) := by decide +kernel
theorem dX10_years_136 : decode cX10_years 136 = .ok (.goto 4, 3) := by decide +kernel
theorem dX10_years_139 : decode cX10_years 139 = .ok (.iconst 0, 1) := by decide +kernel
theorem dX10_years_140 : decode cX10_years 140 = .ok (.iadd, 1) := by decide +kernel
theorem dX10_years_141 : decode cX10_years 141 = .ok (.istore 4, 2) := by decide +kernel
theorem dX10_years_143 : decode cX10_years 143 = .ok (.iinc 6 1, 3) := by decide +kernel
theorem dX10_years_146 : decode cX10_years 146 = .ok (.goto (-80), 3) := by decide +kernel
theorem dX10_years_149 : decode cX10_years 149 = .ok (.aload_n 0, 1) := by decide +kernel
theorem dX10_years_150 : decode cX10_years 150 = .ok (.getfield 34, 3) := by decide +kernel
theorem dX10_years_153 : decode cX10_years 153 = .ok (.aload_n 0, 1) := by decide +kernel
theorem dX10_years_154 : decode cX10_years 154 = .ok (.getfield 19, 3) := by decide +kernel
theorem dX10_years_157 : decode cX10_years 157 = .ok (.invokestatic 87, 3) := by decide +kernel
theorem dX10_years_160 : decode cX10_years 160 = .ok (.iload_n 3, 1) := by decide +kernel
theorem dX10_years_161 : decode cX10_years 161 = .ok (.ifCond .ne 8, 3) := by decide +kernel
theorem dX10_years_164 : decode cX10_years 164 = .ok (.iload 4, 2) := by decide +kernel
theorem dX10_years_166 : decode cX10_years 166 = .ok (.goto 17, 3) := by decide +kernel
theorem dX10_years_169 : decode cX10_years 169 = .ok (.iload_n 3, 1) := by decide +kernel
theorem dX10_years_170 : decode cX10_years 170 = .ok (.iconst 1, 1) := by decide +kernel
theorem dX10_years_171 : decode cX10_years 171 = .ok (.if_icmp .ne 8, 3) := by decide +kernel
theorem dX10_years_174 : decode cX10_years 174 = .ok (.iload 5, 2) := by decide +kernel
theorem dX10_years_176 : decode cX10_years 176 = .ok (.goto 7, 3) := by decide +kernel
theorem dX10_years_179 : decode cX10_years 179 = .ok (.aload_n 0, 1) := by decide +kernel
theorem dX10_years_180 : decode cX10_years 180 = .ok (.getfield 163, 3) := by decide +kernel
theorem dX10_years_183 : decode cX10_years 183 = .ok (.ireturn, 1) := by decide +kernel
set_option maxRecDepth 20000 in
theorem ggX10_image_X10_copy : GoodIn wsX10_image wsX10_copy := goodIn_r _ [15] (by decide +kernel) (by decide +kernel)
set_option maxRecDepth 20000 in
theorem gX10_image_X10_copy : GoodIn wsX10_image (va_wsS RX10 87 yX10_copy wsX10_copy) := goodIn_app (goodIn_of _ (by decide +kernel)) ggX10_image_X10_copy
theorem dX10_image_0 : decode cX10_image 0 = .ok (.aload_n 0, 1) := by decide +kernel
theorem dX10_image_1 : decode cX10_image 1 = .ok (.getfield 81, 3) := by decide +kernel
theorem dX10_image_4 : decode cX10_image 4 = .ok (.ifCond .ne 6, 3) := by decide +kernel
theorem dX10_image_7 : decode cX10_image 7 = .ok (.bipush (-103), 2) := by decide +kernel
theorem dX10_image_9 : decode cX10_image 9 = .ok (.ireturn, 1) := by decide +kernel
theorem dX10_image_10 : decode cX10_image 10 = .ok (.aload_n 0, 1) := by decide +kernel
theorem dX10_image_11 : decode cX10_image 11 = .ok (.getfield 19, 3) := by decide +kernel
theorem dX10_image_14 : decode cX10_image 14 = .ok (.aload_n 0, 1) := by decide +kernel
theorem dX10_image_15 : decode cX10_image 15 = .ok (.getfield 37, 3) := by decide +kernel
theorem dX10_image_18 : decode cX10_image 18 = .ok (.invokestatic 87, 3) := by decide +kernel
theorem dX10_image_21 : decode cX10_image 21 = .ok (.aload_n 0, 1) := by decide +kernel
theorem dX10_image_22 : decode cX10_image 22 = .ok (.getfield 31, 3) := by decide +kernel
theorem dX10_image_25 : decode cX10_image 25 = .ok (.aload_n 0, 1) := by decide +kernel
theorem dX10_image_26 : decode cX10_image 26 = .ok (.getfield 40, 3) := by decide +kernel
theorem dX10_image_29 : decode cX10_image 29 = .ok (.invokestatic 87, 3) := by decide +kernel
theorem dX10_image_32 : decode cX10_image 32 = .ok (.aload_n 0, 1) := by decide +kernel
theorem dX10_image_33 : decode cX10_image 33 = .ok (.aload_n 0, 1) := by decide +kernel
theorem dX10_image_34 : decode cX10_image 34 = .ok (.getfield 91, 3) := by decide +kernel
theorem dX10_image_37 : decode cX10_image 37 = .ok (.putfield 178, 3) := by decide +kernel
theorem dX10_image_40 : decode cX10_image 40 = .ok (.aload_n 0, 1) := by decide +kernel
theorem dX10_image_41 : decode cX10_image 41 = .ok (.aload_n 0, 1) := by decide +kernel
theorem dX10_image_42 : decode cX10_image 42 = .ok (.getfield 94, 3) := by decide +kernel
theorem dX10_image_45 : decode cX10_image 45 = .ok (.putfield 181, 3) := by decide +kernel
theorem dX10_image_48 : decode cX10_image 48 = .ok (.aload_n 0, 1) := by decide +kernel
theorem dX10_image_49 : decode cX10_image 49 = .ok (.aload_n 0, 1) := by decide +kernel
theorem dX10_image_50 : decode cX10_image 50 = .ok (.getfield 97, 3) := by decide +kernel
theorem dX10_image_53 : decode cX10_image 53 = .ok (.putfield 43, 3) := by decide +kernel
theorem dX10_image_56 : decode cX10_image 56 = .ok (.aload_n 0, 1) := by decide +kernel
theorem dX10_image_57 : decode cX10_image 57 = .ok (.getfield 91, 3) := by decide +kernel
theorem dX10_image_60 : decode cX10_image 60 = .ok (.ireturn, 1) := by decide +kernel
set_option maxRecDepth 20000 in
theorem ggX10_restore_X10_copy : GoodIn wsX10_restore wsX10_copy := goodIn_r _ [14] (by decide +kernel) (by decide +kernel)
set_option maxRecDepth 20000 in
theorem gX10_restore_X10_copy : GoodIn wsX10_restore (va_wsS RX10 87 yX10_copy wsX10_copy) := goodIn_app (goodIn_of _ (by decide +kernel)) ggX10_restore_X10_copy
theorem dX10_restore_0 : decode cX10_restore 0 = .ok (.aload_n 0, 1) := by decide +kernel
theorem dX10_restore_1 : decode cX10_restore 1 = .ok (.getfield 43, 3) := by decide +kernel
theorem dX10_restore_4 : decode cX10_restore 4 = .ok (.aload_n 0, 1) := by decide +kernel
theorem dX10_restore_5 : decode cX10_restore 5 = .ok (.getfield 97, 3) := by decide +kernel
theorem dX10_restore_8 : decode cX10_restore 8 = .ok (.if_icmp .eq 6, 3) := by decide +kernel
theorem dX10_restore_11 : decode cX10_restore 11 = .ok (.bipush (-103), 2) := by decide +kernel
theorem dX10_restore_13 : decode cX10_restore 13 = .ok (.ireturn, 1) := by decide +kernel
theorem dX10_restore_14 : decode cX10_restore 14 = .ok (.aload_n 0, 1) := by decide +kernel
theorem dX10_restore_15 : decode cX10_restore 15 = .ok (.getfield 37, 3) := by decide +kernel
theorem dX10_restore_18 : decode cX10_restore 18 = .ok (.aload_n 0, 1) := by decide +kernel
theorem dX10_restore_19 : decode cX10_restore 19 = .ok (.getfield 19, 3) := by decide +kernel
theorem dX10_restore_22 : decode cX10_restore 22 = .ok (.invokestatic 87, 3) := by decide +kernel
theorem dX10_restore_25 : decode cX10_restore 25 = .ok (.aload_n 0, 1) := by decide +kernel
theorem dX10_restore_26 : decode cX10_restore 26 = .ok (.getfield 40, 3) := by decide +kernel
theorem dX10_restore_29 : decode cX10_restore 29 = .ok (.aload_n 0, 1) := by decide +kernel
theorem dX10_restore_30 : decode cX10_restore 30 = .ok (.getfield 31, 3) := by decide +kernel
theorem dX10_restore_33 : decode cX10_restore 33 = .ok (.invokestatic 87, 3) := by decide +kernel
theorem dX10_restore_36 : decode cX10_restore 36 = .ok (.aload_n 0, 1) := by decide +kernel
theorem dX10_restore_37 : decode cX10_restore 37 = .ok (.aload_n 0, 1) := by decide +kernel
theorem dX10_restore_38 : decode cX10_restore 38 = .ok (.getfield 178, 3) := by decide +kernel
theorem dX10_restore_41 : decode cX10_restore 41 = .ok (.putfield 91, 3) := by decide +kernel
theorem dX10_restore_44 : decode cX10_restore 44 = .ok (.aload_n 0, 1) := by decide +kernel
theorem dX10_restore_45 : decode cX10_restore 45 = .ok (.aload_n 0, 1) := by decide +kernel
theorem dX10_restore_46 : decode cX10_restore 46 = .ok (.getfield 181, 3) := by decide +kernel
theorem dX10_restore_49 : decode cX10_restore 49 = .ok (.putfield 94, 3) := by decide +kernel
theorem dX10_restore_52 : decode cX10_restore 52 = .ok (.aload_n 0, 1) := by decide +kernel
theorem dX10_restore_53 : decode cX10_restore 53 = .ok (.getfield 91, 3) := by decide +kernel
theorem dX10_restore_56 : decode cX10_restore 56 = .ok (.ireturn, 1) := by decide +kernel
theorem dX10_sumAt_0 : decode cX10_sumAt 0 = .ok (.iconst 0, 1) := by decide +kernel
theorem dX10_sumAt_1 : decode cX10_sumAt 1 = .ok (.istore_n 2, 1) := by decide +kernel
theorem dX10_sumAt_2 : decode cX10_sumAt 2 = .ok (.iconst 0, 1) := by decide +kernel
theorem dX10_sumAt_3 : decode cX10_sumAt 3 = .ok (.istore_n 3, 1) := by decide +kernel
theorem dX10_sumAt_4 : decode cX10_sumAt 4 = .ok (.iload_n 3, 1) := by decide +kernel
theorem dX10_sumAt_5 : decode cX10_sumAt 5 = .ok (.aload_n 0, 1) := by decide +kernel
theorem dX10_sumAt_6 : decode cX10_sumAt 6 = .ok (.getfield 81, 3) := by decide +kernel
theorem dX10_sumAt_9 : decode cX10_sumAt 9 = .ok (.if_icmp .ge 23, 3) := by decide +kernel
theorem dX10_sumAt_12 : decode cX10_sumAt 12 = .ok (.iload_n 2, 1) := by decide +kernel
theorem dX10_sumAt_13 : decode cX10_sumAt 13 = .ok (.aload_n 0, 1) := by decide +kernel
theorem dX10_sumAt_14 : decode cX10_sumAt 14 = .ok (.getfield 19, 3) := by decide +kernel
theorem dX10_sumAt_17 : decode cX10_sumAt 17 = .ok (.bipush 8, 2) := by decide +kernel
theorem dX10_sumAt_19 : decode cX10_sumAt 19 = .ok (.iload_n 3, 1) := by decide +kernel
theorem dX10_sumAt_20 : decode cX10_sumAt 20 = .ok (.imul, 1) := by decide +kernel
theorem dX10_sumAt_21 : decode cX10_sumAt 21 = .ok (.iload_n 1, 1) := by decide +kernel
theorem dX10_sumAt_22 : decode cX10_sumAt 22 = .ok (.iadd, 1) := by decide +kernel
theorem dX10_sumAt_23 : decode cX10_sumAt 23 = .ok (.iaload, 1) := by decide +kernel
theorem dX10_sumAt_24 : decode cX10_sumAt 24 = .ok (.iadd, 1) := by decide +kernel
theorem dX10_sumAt_25 : decode cX10_sumAt 25 = .ok (.istore_n 2, 1) := by decide +kernel
theorem dX10_sumAt_26 : decode cX10_sumAt 26 = .ok (.iinc 3 1, 3) := by decide +kernel
theorem dX10_sumAt_29 : decode cX10_sumAt 29 = .ok (.goto (-25), 3) := by decide +kernel
theorem dX10_sumAt_32 : decode cX10_sumAt 32 = .ok (.iload_n 2, 1) := by decide +kernel
theorem dX10_sumAt_33 : decode cX10_sumAt 33 = .ok (.ireturn, 1) := by decide +kernel
set_option maxRecDepth 20000 in
theorem ggX10_countOf_X10_sumAt : GoodIn wsX10_countOf wsX10_sumAt := goodIn_r _ [12, 1, 13, 14, 15, 16, 17, 18, 19, 20, 21, 22, 23, 24, 25, 26, 27, 28, 29, 30, 31, 32, 33, 34, 35, 36, 37, 38, 39] (by decide +kernel) (by decide +kernel)
set_option maxRecDepth 20000 in
theorem gX10_countOf_X10_sumAt : GoodIn wsX10_countOf (wsV RX10 184 RX10 yX10_sumAt wsX10_sumAt) := goodIn_app (goodIn_of _ (by decide +kernel)) ggX10_countOf_X10_sumAt
theorem dX10_countOf_0 : decode cX10_countOf 0 = .ok (.iload_n 1, 1) := by decide +kernel
theorem dX10_countOf_1 : decode cX10_countOf 1 = .ok (.tableswitch 99 0 8 #[51, 56, 61, 67, 74, 79, 84, 89, 94], 51) := by decide +kernel
theorem dX10_countOf_52 : decode cX10_countOf 52 = .ok (.aload_n 0, 1) := by decide +kernel
theorem dX10_countOf_53 : decode cX10_countOf 53 = .ok (.getfield 81, 3) := by decide +kernel
theorem dX10_countOf_56 : decode cX10_countOf 56 = .ok (.ireturn, 1) := by decide +kernel
theorem dX10_countOf_57 : decode cX10_countOf 57 = .ok (.aload_n 0, 1) := by decide +kernel
theorem dX10_countOf_58 : decode cX10_countOf 58 = .ok (.getfield 84, 3) := by decide +kernel
theorem dX10_countOf_61 : decode cX10_countOf 61 = .ok (.ireturn, 1) := by decide +kernel
theorem dX10_countOf_62 : decode cX10_countOf 62 = .ok (.aload_n 0, 1) := by decide +kernel
theorem dX10_countOf_63 : decode cX10_countOf 63 = .ok (.iconst 5, 1) := by decide +kernel
theorem dX10_countOf_64 : decode cX10_countOf 64 = .ok (.invokevirtual 184, 3) := by decide +kernel
theorem dX10_countOf_67 : decode cX10_countOf 67 = .ok (.ireturn, 1) := by decide +kernel
theorem dX10_countOf_68 : decode cX10_countOf 68 = .ok (.aload_n 0, 1) := by decide +kernel
theorem dX10_countOf_69 : decode cX10_countOf 69 = .ok (.bipush 7, 2) := by decide +kernel
theorem dX10_countOf_71 : decode cX10_countOf 71 = .ok (.invokevirtual 184, 3) := by decide +kernel
theorem dX10_countOf_74 : decode cX10_countOf 74 = .ok (.ireturn, 1) := by decide +kernel
theorem dX10_countOf_75 : decode cX10_countOf 75 = .ok (.aload_n 0, 1) := by decide +kernel
theorem dX10_countOf_76 : decode cX10_countOf 76 = .ok (.getfield 91, 3) := by decide +kernel
theorem dX10_countOf_79 : decode cX10_countOf 79 = .ok (.ireturn, 1) := by decide +kernel
theorem dX10_countOf_80 : decode cX10_countOf 80 = .ok (.aload_n 0, 1) := by decide +kernel
theorem dX10_countOf_81 : decode cX10_countOf 81 = .ok (.getfield 94, 3) := by decide +kernel
theorem dX10_countOf_84 : decode cX10_countOf 84 = .ok (.ireturn, 1) := by decide +kernel
theorem dX10_countOf_85 : decode cX10_countOf 85 = .ok (.aload_n 0, 1) := by decide +kernel
theorem dX10_countOf_86 : decode cX10_countOf 86 = .ok (.getfield 53, 3) := by decide +kernel
theorem dX10_countOf_89 : decode cX10_countOf 89 = .ok (.ireturn, 1) := by decide +kernel
theorem dX10_countOf_90 : decode cX10_countOf 90 = .ok (.aload_n 0, 1) := by decide +kernel
theorem dX10_countOf_91 : decode cX10_countOf 91 = .ok (.getfield 97, 3) := by decide +kernel
theorem dX10_countOf_94 : decode cX10_countOf 94 = .ok (.ireturn, 1) := by decide +kernel
theorem dX10_countOf_95 : decode cX10_countOf 95 = .ok (.aload_n 0, 1) := by decide +kernel
theorem dX10_countOf_96 : decode cX10_countOf 96 = .ok (.getfield 151, 3) := by decide +kernel
theorem dX10_countOf_99 : decode cX10_countOf 99 = .ok (.ireturn, 1) := by decide +kernel
theorem dX10_countOf_100 : decode cX10_countOf 100 = .ok (.bipush (-102), 2) := by decide +kernel
theorem dX10_countOf_102 : decode cX10_countOf 102 = .ok (.ireturn, 1) := by decide +kernel
set_option maxRecDepth 20000 in
theorem ggX10_count_X10_countOf : GoodIn wsX10_count wsX10_countOf := goodIn_r _ [5, 6, 7, 8, 9, 10, 11, 12, 13, 14, 15, 4, 16, 17, 18, 19, 20, 21, 22, 23, 24, 25, 26, 27, 28, 29, 30, 31, 32, 33, 34, 35, 36, 37, 38, 39, 40, 41, 42, 43] (by decide +kernel) (by decide +kernel)
set_option maxRecDepth 20000 in
theorem gX10_count_X10_countOf : GoodIn wsX10_count (wsV RX10 187 RX10 yX10_countOf wsX10_countOf) := goodIn_app (goodIn_of _ (by decide +kernel)) ggX10_count_X10_countOf
theorem dX10_count_0 : decode cX10_count 0 = .ok (.aload_n 0, 1) := by decide +kernel
theorem dX10_count_1 : decode cX10_count 1 = .ok (.iload_n 1, 1) := by decide +kernel
theorem dX10_count_2 : decode cX10_count 2 = .ok (.invokevirtual 187, 3) := by decide +kernel
theorem dX10_count_5 : decode cX10_count 5 = .ok (.ireturn, 1) := by decide +kernel
theorem dX10_say_0 : decode cX10_say 0 = .ok (.aload_n 0, 1) := by decide +kernel
theorem dX10_say_1 : decode cX10_say 1 = .ok (.ldc2_w 190, 3) := by decide +kernel
theorem dX10_say_4 : decode cX10_say 4 = .ok (.aload_n 0, 1) := by decide +kernel
theorem dX10_say_5 : decode cX10_say 5 = .ok (.getfield 192, 3) := by decide +kernel
theorem dX10_say_8 : decode cX10_say 8 = .ok (.lmul, 1) := by decide +kernel
theorem dX10_say_9 : decode cX10_say 9 = .ok (.lload_n 1, 1) := by decide +kernel
theorem dX10_say_10 : decode cX10_say 10 = .ok (.ladd, 1) := by decide +kernel
theorem dX10_say_11 : decode cX10_say 11 = .ok (.putfield 192, 3) := by decide +kernel
theorem dX10_say_14 : decode cX10_say 14 = .ok (.return_, 1) := by decide +kernel
set_option maxRecDepth 20000 in
theorem ggX10_saySinger_X10_in : GoodIn wsX10_saySinger wsX10_in := goodIn_r _ [6] (by decide +kernel) (by decide +kernel)
set_option maxRecDepth 20000 in
theorem gX10_saySinger_X10_in : GoodIn wsX10_saySinger (va_wsS RX10 49 yX10_in wsX10_in) := goodIn_app (goodIn_of _ (by decide +kernel)) ggX10_saySinger_X10_in
set_option maxRecDepth 20000 in
theorem ggX10_saySinger_X10_tell : GoodIn wsX10_saySinger wsX10_tell := goodIn_r _ [10, 1, 2, 11, 12, 13, 3, 4, 5, 6, 14, 15, 16, 17, 18, 19, 20, 21, 22, 23, 24, 25, 26, 27, 28, 29, 30, 31, 32, 39, 40, 41, 42, 43, 44, 45, 46, 47, 48, 49, 50, 51, 52, 53, 54, 55, 56, 57, 58, 59, 60, 61, 62, 63, 64] (by decide +kernel) (by decide +kernel)
set_option maxRecDepth 20000 in
theorem gX10_saySinger_X10_tell : GoodIn wsX10_saySinger (wsV RX10 124 RX10 yX10_tell wsX10_tell) := goodIn_app (goodIn_of _ (by decide +kernel)) ggX10_saySinger_X10_tell
set_option maxRecDepth 20000 in
theorem ggX10_saySinger_X10_say : GoodIn wsX10_saySinger wsX10_say := goodIn_r _ [36, 37, 38, 39, 40, 41, 42, 43, 44, 45, 46, 47, 48, 49, 50, 51, 52, 53, 54, 55, 56, 57, 58, 59, 60, 61, 62, 63, 64] (by decide +kernel) (by decide +kernel)
set_option maxRecDepth 20000 in
theorem gX10_saySinger_X10_say : GoodIn wsX10_saySinger (wsV RX10 196 RX10 yX10_say wsX10_say) := goodIn_app (goodIn_of _ (by decide +kernel)) ggX10_saySinger_X10_say
theorem dX10_saySinger_0 : decode cX10_saySinger 0 = .ok (.iconst 0, 1) := by decide +kernel
theorem dX10_saySinger_1 : decode cX10_saySinger 1 = .ok (.istore_n 2, 1) := by decide +kernel
theorem dX10_saySinger_2 : decode cX10_saySinger 2 = .ok (.iload_n 2, 1) := by decide +kernel
theorem dX10_saySinger_3 : decode cX10_saySinger 3 = .ok (.bipush 24, 2) := by decide +kernel
theorem dX10_saySinger_5 : decode cX10_saySinger 5 = .ok (.if_icmp .ge 46, 3) := by decide +kernel
theorem dX10_saySinger_8 : decode cX10_saySinger 8 = .ok (.iload_n 2, 1) := by decide +kernel
theorem dX10_saySinger_9 : decode cX10_saySinger 9 = .ok (.bipush 7, 2) := by decide +kernel
theorem dX10_saySinger_11 : decode cX10_saySinger 11 = .ok (.if_icmp .lt 23, 3) := by decide +kernel
theorem dX10_saySinger_14 : decode cX10_saySinger 14 = .ok (.iload_n 2, 1) := by decide +kernel
theorem dX10_saySinger_15 : decode cX10_saySinger 15 = .ok (.i2l, 1) := by decide +kernel
theorem dX10_saySinger_16 : decode cX10_saySinger 16 = .ok (.ldc2_w 110, 3) := by decide +kernel
theorem dX10_saySinger_19 : decode cX10_saySinger 19 = .ok (.ldc2_w 112, 3) := by decide +kernel
theorem dX10_saySinger_22 : decode cX10_saySinger 22 = .ok (.invokestatic 49, 3) := by decide +kernel
theorem dX10_saySinger_25 : decode cX10_saySinger 25 = .ok (.ifCond .ne 9, 3) := by decide +kernel
theorem dX10_saySinger_28 : decode cX10_saySinger 28 = .ok (.iload_n 2, 1) := by decide +kernel
theorem dX10_saySinger_29 : decode cX10_saySinger 29 = .ok (.bipush 19, 2) := by decide +kernel
theorem dX10_saySinger_31 : decode cX10_saySinger 31 = .ok (.if_icmp .le 14, 3) := by decide +kernel
theorem dX10_saySinger_34 : decode cX10_saySinger 34 = .ok (.aload_n 0, 1) := by decide +kernel
theorem dX10_saySinger_35 : decode cX10_saySinger 35 = .ok (.aload_n 0, 1) := by decide +kernel
theorem dX10_saySinger_36 : decode cX10_saySinger 36 = .ok (.iload_n 1, 1) := by decide +kernel
theorem dX10_saySinger_37 : decode cX10_saySinger 37 = .ok (.iload_n 2, 1) := by decide +kernel
theorem dX10_saySinger_38 : decode cX10_saySinger 38 = .ok (.invokevirtual 124, 3) := by decide +kernel
theorem dX10_saySinger_41 : decode cX10_saySinger 41 = .ok (.i2l, 1) := by decide +kernel
theorem dX10_saySinger_42 : decode cX10_saySinger 42 = .ok (.invokevirtual 196, 3) := by decide +kernel
theorem dX10_saySinger_45 : decode cX10_saySinger 45 = .ok (.iinc 2 1, 3) := by decide +kernel
theorem dX10_saySinger_48 : decode cX10_saySinger 48 = .ok (.goto (-46), 3) := by decide +kernel
theorem dX10_saySinger_51 : decode cX10_saySinger 51 = .ok (.return_, 1) := by decide +kernel
set_option maxRecDepth 20000 in
theorem ggX10_sayWidow_X10_tellWidow : GoodIn wsX10_sayWidow wsX10_tellWidow := goodIn_r _ [7, 2, 8, 9, 10, 6, 11, 1, 12, 13, 14, 15, 16, 17, 18, 19, 20, 21, 22, 23, 24, 25, 26, 27, 28, 29, 30, 31, 32, 33, 34, 35, 36, 37, 44, 45, 46, 47, 48, 49, 50, 51, 52, 53, 54, 55, 56, 57, 58, 59, 60, 61, 62, 63, 64, 65, 66, 67, 68, 69] (by decide +kernel) (by decide +kernel)
set_option maxRecDepth 20000 in
theorem gX10_sayWidow_X10_tellWidow : GoodIn wsX10_sayWidow (wsV RX10 138 RX10 yX10_tellWidow wsX10_tellWidow) := goodIn_app (goodIn_of _ (by decide +kernel)) ggX10_sayWidow_X10_tellWidow
set_option maxRecDepth 20000 in
theorem ggX10_sayWidow_X10_say : GoodIn wsX10_sayWidow wsX10_say := goodIn_r _ [41, 42, 43, 44, 45, 46, 47, 48, 49, 50, 51, 52, 53, 54, 55, 56, 57, 58, 59, 60, 61, 62, 63, 64, 65, 66, 67, 68, 69] (by decide +kernel) (by decide +kernel)
set_option maxRecDepth 20000 in
theorem gX10_sayWidow_X10_say : GoodIn wsX10_sayWidow (wsV RX10 196 RX10 yX10_say wsX10_say) := goodIn_app (goodIn_of _ (by decide +kernel)) ggX10_sayWidow_X10_say
set_option maxRecDepth 20000 in
theorem ggX10_sayWidow_X10_badOf : GoodIn wsX10_sayWidow wsX10_badOf := goodIn_r _ [15, 16, 44, 45, 46, 47, 48, 49, 50, 51, 52, 53, 54, 55, 56, 57, 58, 59, 60, 61, 62, 63, 64, 65, 66, 67, 68, 69] (by decide +kernel) (by decide +kernel)
set_option maxRecDepth 20000 in
theorem gX10_sayWidow_X10_badOf : GoodIn wsX10_sayWidow (wsV RX10 100 RX10 yX10_badOf wsX10_badOf) := goodIn_app (goodIn_of _ (by decide +kernel)) ggX10_sayWidow_X10_badOf
theorem dX10_sayWidow_0 : decode cX10_sayWidow 0 = .ok (.iconst 0, 1) := by decide +kernel
theorem dX10_sayWidow_1 : decode cX10_sayWidow 1 = .ok (.istore_n 2, 1) := by decide +kernel
theorem dX10_sayWidow_2 : decode cX10_sayWidow 2 = .ok (.iload_n 2, 1) := by decide +kernel
theorem dX10_sayWidow_3 : decode cX10_sayWidow 3 = .ok (.iconst 5, 1) := by decide +kernel
theorem dX10_sayWidow_4 : decode cX10_sayWidow 4 = .ok (.if_icmp .ge 20, 3) := by decide +kernel
theorem dX10_sayWidow_7 : decode cX10_sayWidow 7 = .ok (.aload_n 0, 1) := by decide +kernel
theorem dX10_sayWidow_8 : decode cX10_sayWidow 8 = .ok (.aload_n 0, 1) := by decide +kernel
theorem dX10_sayWidow_9 : decode cX10_sayWidow 9 = .ok (.iload_n 1, 1) := by decide +kernel
theorem dX10_sayWidow_10 : decode cX10_sayWidow 10 = .ok (.iload_n 2, 1) := by decide +kernel
theorem dX10_sayWidow_11 : decode cX10_sayWidow 11 = .ok (.invokevirtual 138, 3) := by decide +kernel
theorem dX10_sayWidow_14 : decode cX10_sayWidow 14 = .ok (.i2l, 1) := by decide +kernel
theorem dX10_sayWidow_15 : decode cX10_sayWidow 15 = .ok (.invokevirtual 196, 3) := by decide +kernel
theorem dX10_sayWidow_18 : decode cX10_sayWidow 18 = .ok (.iinc 2 1, 3) := by decide +kernel
theorem dX10_sayWidow_21 : decode cX10_sayWidow 21 = .ok (.goto (-19), 3) := by decide +kernel
theorem dX10_sayWidow_24 : decode cX10_sayWidow 24 = .ok (.iconst 0, 1) := by decide +kernel
theorem dX10_sayWidow_25 : decode cX10_sayWidow 25 = .ok (.istore_n 2, 1) := by decide +kernel
theorem dX10_sayWidow_26 : decode cX10_sayWidow 26 = .ok (.iload_n 2, 1) := by decide +kernel
theorem dX10_sayWidow_27 : decode cX10_sayWidow 27 = .ok (.aload_n 0, 1) := by decide +kernel
theorem dX10_sayWidow_28 : decode cX10_sayWidow 28 = .ok (.getfield 81, 3) := by decide +kernel
theorem dX10_sayWidow_31 : decode cX10_sayWidow 31 = .ok (.if_icmp .ge 25, 3) := by decide +kernel
theorem dX10_sayWidow_34 : decode cX10_sayWidow 34 = .ok (.aload_n 0, 1) := by decide +kernel
theorem dX10_sayWidow_35 : decode cX10_sayWidow 35 = .ok (.aload_n 0, 1) := by decide +kernel
theorem dX10_sayWidow_36 : decode cX10_sayWidow 36 = .ok (.iload_n 2, 1) := by decide +kernel
theorem dX10_sayWidow_37 : decode cX10_sayWidow 37 = .ok (.aload_n 0, 1) := by decide +kernel
theorem dX10_sayWidow_38 : decode cX10_sayWidow 38 = .ok (.getfield 22, 3) := by decide +kernel
theorem dX10_sayWidow_41 : decode cX10_sayWidow 41 = .ok (.iload_n 1, 1) := by decide +kernel
theorem dX10_sayWidow_42 : decode cX10_sayWidow 42 = .ok (.iaload, 1) := by decide +kernel
theorem dX10_sayWidow_43 : decode cX10_sayWidow 43 = .ok (.invokevirtual 100, 3) := by decide +kernel
theorem dX10_sayWidow_46 : decode cX10_sayWidow 46 = .ok (.i2l, 1) := by decide +kernel
theorem dX10_sayWidow_47 : decode cX10_sayWidow 47 = .ok (.invokevirtual 196, 3) := by decide +kernel
theorem dX10_sayWidow_50 : decode cX10_sayWidow 50 = .ok (.iinc 2 1, 3) := by decide +kernel
theorem dX10_sayWidow_53 : decode cX10_sayWidow 53 = .ok (.goto (-27), 3) := by decide +kernel
theorem dX10_sayWidow_56 : decode cX10_sayWidow 56 = .ok (.return_, 1) := by decide +kernel
set_option maxRecDepth 20000 in
theorem ggX10_digest_X10_saySinger : GoodIn wsX10_digest wsX10_saySinger := goodIn_r _ [11, 12, 13, 14, 15, 10, 16, 17, 18, 19, 20, 21, 22, 23, 24, 25, 26, 27, 28, 29, 30, 31, 4, 32, 33, 34, 35, 3, 36, 37, 38, 39, 40, 41, 42, 43, 44, 45, 2, 87, 88, 89, 90, 91, 92, 93, 94, 95, 96, 97, 98, 99, 100, 101, 102, 103, 104, 105, 106, 107, 108, 109, 110, 111, 112] (by decide +kernel) (by decide +kernel)
set_option maxRecDepth 20000 in
theorem gX10_digest_X10_saySinger : GoodIn wsX10_digest (wsV RX10 202 RX10 yX10_saySinger wsX10_saySinger) := goodIn_app (goodIn_of _ (by decide +kernel)) ggX10_digest_X10_saySinger
set_option maxRecDepth 20000 in
theorem ggX10_digest_X10_sayWidow : GoodIn wsX10_digest wsX10_sayWidow := goodIn_r _ [49, 3, 36, 50, 51, 52, 10, 53, 32, 33, 34, 35, 24, 25, 26, 27, 21, 54, 55, 56, 57, 58, 59, 60, 61, 62, 63, 64, 65, 66, 67, 68, 69, 70, 71, 14, 15, 16, 41, 42, 43, 44, 45, 2, 87, 88, 89, 90, 91, 92, 93, 94, 95, 96, 97, 98, 99, 100, 101, 102, 103, 104, 105, 106, 107, 108, 109, 110, 111, 112] (by decide +kernel) (by decide +kernel)
set_option maxRecDepth 20000 in
theorem gX10_digest_X10_sayWidow : GoodIn wsX10_digest (wsV RX10 206 RX10 yX10_sayWidow wsX10_sayWidow) := goodIn_app (goodIn_of _ (by decide +kernel)) ggX10_digest_X10_sayWidow
set_option maxRecDepth 20000 in
theorem ggX10_digest_X10_mayorOf : GoodIn wsX10_digest wsX10_mayorOf := goodIn_r _ [75, 3, 28, 29, 30, 10, 31, 4, 32, 33, 34, 35, 36, 24, 25, 26, 27, 21, 87, 88, 89, 90, 91, 92, 93, 94, 95, 96, 97, 98, 99, 100, 101, 102, 103, 104, 105, 106, 107, 108, 109, 110, 111, 112] (by decide +kernel) (by decide +kernel)
set_option maxRecDepth 20000 in
theorem gX10_digest_X10_mayorOf : GoodIn wsX10_digest (wsV RX10 144 RX10 yX10_mayorOf wsX10_mayorOf) := goodIn_app (goodIn_of _ (by decide +kernel)) ggX10_digest_X10_mayorOf
set_option maxRecDepth 20000 in
theorem ggX10_digest_X10_say : GoodIn wsX10_digest wsX10_say := goodIn_r _ [44, 45, 2, 87, 88, 89, 90, 91, 92, 93, 94, 95, 96, 97, 98, 99, 100, 101, 102, 103, 104, 105, 106, 107, 108, 109, 110, 111, 112] (by decide +kernel) (by decide +kernel)
set_option maxRecDepth 20000 in
theorem gX10_digest_X10_say : GoodIn wsX10_digest (wsV RX10 196 RX10 yX10_say wsX10_say) := goodIn_app (goodIn_of _ (by decide +kernel)) ggX10_digest_X10_say
set_option maxRecDepth 20000 in
theorem ggX10_digest_X10_countOf : GoodIn wsX10_digest wsX10_countOf := goodIn_r _ [79, 3, 4, 80, 58, 5, 81, 82, 83, 84, 85, 10, 86, 21, 87, 88, 89, 90, 91, 92, 93, 94, 95, 96, 97, 98, 99, 100, 101, 102, 103, 104, 105, 106, 107, 108, 109, 110, 111, 112] (by decide +kernel) (by decide +kernel)
set_option maxRecDepth 20000 in
theorem gX10_digest_X10_countOf : GoodIn wsX10_digest (wsV RX10 187 RX10 yX10_countOf wsX10_countOf) := goodIn_app (goodIn_of _ (by decide +kernel)) ggX10_digest_X10_countOf
theorem dX10_digest_0 : decode cX10_digest 0 = .ok (.aload_n 0, 1) := by decide +kernel
theorem dX10_digest_1 : decode cX10_digest 1 = .ok (.ldc2_w 200, 3) := by decide +kernel
theorem dX10_digest_4 : decode cX10_digest 4 = .ok (.putfield 192, 3) := by decide +kernel
theorem dX10_digest_7 : decode cX10_digest 7 = .ok (.iconst 0, 1) := by decide +kernel
theorem dX10_digest_8 : decode cX10_digest 8 = .ok (.istore_n 1, 1) := by decide +kernel
theorem dX10_digest_9 : decode cX10_digest 9 = .ok (.iload_n 1, 1) := by decide +kernel
theorem dX10_digest_10 : decode cX10_digest 10 = .ok (.aload_n 0, 1) := by decide +kernel
theorem dX10_digest_11 : decode cX10_digest 11 = .ok (.getfield 81, 3) := by decide +kernel
theorem dX10_digest_14 : decode cX10_digest 14 = .ok (.if_icmp .ge 14, 3) := by decide +kernel
theorem dX10_digest_17 : decode cX10_digest 17 = .ok (.aload_n 0, 1) := by decide +kernel
theorem dX10_digest_18 : decode cX10_digest 18 = .ok (.iload_n 1, 1) := by decide +kernel
theorem dX10_digest_19 : decode cX10_digest 19 = .ok (.invokevirtual 202, 3) := by decide +kernel
theorem dX10_digest_22 : decode cX10_digest 22 = .ok (.iinc 1 1, 3) := by decide +kernel
theorem dX10_digest_25 : decode cX10_digest 25 = .ok (.goto (-16), 3) := by decide +kernel
theorem dX10_digest_28 : decode cX10_digest 28 = .ok (.iconst 0, 1) := by decide +kernel
theorem dX10_digest_29 : decode cX10_digest 29 = .ok (.istore_n 1, 1) := by decide +kernel
theorem dX10_digest_30 : decode cX10_digest 30 = .ok (.iload_n 1, 1) := by decide +kernel
theorem dX10_digest_31 : decode cX10_digest 31 = .ok (.aload_n 0, 1) := by decide +kernel
theorem dX10_digest_32 : decode cX10_digest 32 = .ok (.getfield 84, 3) := by decide +kernel
theorem dX10_digest_35 : decode cX10_digest 35 = .ok (.if_icmp .ge 14, 3) := by decide +kernel
theorem dX10_digest_38 : decode cX10_digest 38 = .ok (.aload_n 0, 1) := by decide +kernel
theorem dX10_digest_39 : decode cX10_digest 39 = .ok (.iload_n 1, 1) := by decide +kernel
theorem dX10_digest_40 : decode cX10_digest 40 = .ok (.invokevirtual 206, 3) := by decide +kernel
theorem dX10_digest_43 : decode cX10_digest 43 = .ok (.iinc 1 1, 3) := by decide +kernel
theorem dX10_digest_46 : decode cX10_digest 46 = .ok (.goto (-16), 3) := by decide +kernel
theorem dX10_digest_49 : decode cX10_digest 49 = .ok (.aload_n 0, 1) := by decide +kernel
theorem dX10_digest_50 : decode cX10_digest 50 = .ok (.getfield 81, 3) := by decide +kernel
theorem dX10_digest_53 : decode cX10_digest 53 = .ok (.ifCond .le 12, 3) := by decide +kernel
theorem dX10_digest_56 : decode cX10_digest 56 = .ok (.aload_n 0, 1) := by decide +kernel
theorem dX10_digest_57 : decode cX10_digest 57 = .ok (.aload_n 0, 1) := by decide +kernel
theorem dX10_digest_58 : decode cX10_digest 58 = .ok (.invokevirtual 144, 3) := by decide +kernel
theorem dX10_digest_61 : decode cX10_digest 61 = .ok (.i2l, 1) := by decide +kernel
theorem dX10_digest_62 : decode cX10_digest 62 = .ok (.invokevirtual 196, 3) := by decide +kernel
theorem dX10_digest_65 : decode cX10_digest 65 = .ok (.iconst 0, 1) := by decide +kernel
theorem dX10_digest_66 : decode cX10_digest 66 = .ok (.istore_n 1, 1) := by decide +kernel
theorem dX10_digest_67 : decode cX10_digest 67 = .ok (.iload_n 1, 1) := by decide +kernel
theorem dX10_digest_68 : decode cX10_digest 68 = .ok (.aload_n 0, 1) := by decide +kernel
theorem dX10_digest_69 : decode cX10_digest 69 = .ok (.getfield 53, 3) := by decide +kernel
theorem dX10_digest_72 : decode cX10_digest 72 = .ok (.if_icmp .ge 20, 3) := by decide +kernel
theorem dX10_digest_75 : decode cX10_digest 75 = .ok (.aload_n 0, 1) := by decide +kernel
theorem dX10_digest_76 : decode cX10_digest 76 = .ok (.aload_n 0, 1) := by decide +kernel
theorem dX10_digest_77 : decode cX10_digest 77 = .ok (.getfield 7, 3) := by decide +kernel
theorem dX10_digest_80 : decode cX10_digest 80 = .ok (.iload_n 1, 1) := by decide +kernel
theorem dX10_digest_81 : decode cX10_digest 81 = .ok (.iaload, 1) := by decide +kernel
theorem dX10_digest_82 : decode cX10_digest 82 = .ok (.i2l, 1) := by decide +kernel
theorem dX10_digest_83 : decode cX10_digest 83 = .ok (.invokevirtual 196, 3) := by decide +kernel
theorem dX10_digest_86 : decode cX10_digest 86 = .ok (.iinc 1 1, 3) := by decide +kernel
theorem dX10_digest_89 : decode cX10_digest 89 = .ok (.goto (-22), 3) := by decide +kernel
theorem dX10_digest_92 : decode cX10_digest 92 = .ok (.iconst 0, 1) := by decide +kernel
theorem dX10_digest_93 : decode cX10_digest 93 = .ok (.istore_n 1, 1) := by decide +kernel
theorem dX10_digest_94 : decode cX10_digest 94 = .ok (.iload_n 1, 1) := by decide +kernel
theorem dX10_digest_95 : decode cX10_digest 95 = .ok (.bipush 9, 2) := by decide +kernel
theorem dX10_digest_97 : decode cX10_digest 97 = .ok (.if_icmp .ge 19, 3) := by decide +kernel
theorem dX10_digest_100 : decode cX10_digest 100 = .ok (.aload_n 0, 1) := by decide +kernel
theorem dX10_digest_101 : decode cX10_digest 101 = .ok (.aload_n 0, 1) := by decide +kernel
theorem dX10_digest_102 : decode cX10_digest 102 = .ok (.iload_n 1, 1) := by decide +kernel
theorem dX10_digest_103 : decode cX10_digest 103 = .ok (.invokevirtual 187, 3) := by decide +kernel
theorem dX10_digest_106 : decode cX10_digest 106 = .ok (.i2l, 1) := by decide +kernel
theorem dX10_digest_107 : decode cX10_digest 107 = .ok (.invokevirtual 196, 3) := by decide +kernel
theorem dX10_digest_110 : decode cX10_digest 110 = .ok (.iinc 1 1, 3) := by decide +kernel
theorem dX10_digest_113 : decode cX10_digest 113 = .ok (.goto (-19), 3) := by decide +kernel
theorem dX10_digest_116 : decode cX10_digest 116 = .ok (.aload_n 0, 1) := by decide +kernel
theorem dX10_digest_117 : decode cX10_digest 117 = .ok (.getfield 192, 3) := by decide +kernel
theorem dX10_digest_120 : decode cX10_digest 120 = .ok (.lreturn, 1) := by decide +kernel
theorem dJ11_isValidCodePoint_9a6ad_0 : decode cJ11_isValidCodePoint_9a6ad 0 = .ok (.iload_n 0, 1) := by decide +kernel
theorem dJ11_isValidCodePoint_9a6ad_1 : decode cJ11_isValidCodePoint_9a6ad 1 = .ok (.bipush 16, 2) := by decide +kernel
theorem dJ11_isValidCodePoint_9a6ad_3 : decode cJ11_isValidCodePoint_9a6ad 3 = .ok (.iushr, 1) := by decide +kernel
theorem dJ11_isValidCodePoint_9a6ad_4 : decode cJ11_isValidCodePoint_9a6ad 4 = .ok (.istore_n 1, 1) := by decide +kernel
theorem dJ11_isValidCodePoint_9a6ad_5 : decode cJ11_isValidCodePoint_9a6ad 5 = .ok (.iload_n 1, 1) := by decide +kernel
theorem dJ11_isValidCodePoint_9a6ad_6 : decode cJ11_isValidCodePoint_9a6ad 6 = .ok (.bipush 17, 2) := by decide +kernel
theorem dJ11_isValidCodePoint_9a6ad_8 : decode cJ11_isValidCodePoint_9a6ad 8 = .ok (.if_icmp .ge 7, 3) := by decide +kernel
theorem dJ11_isValidCodePoint_9a6ad_11 : decode cJ11_isValidCodePoint_9a6ad 11 = .ok (.iconst 1, 1) := by decide +kernel
theorem dJ11_isValidCodePoint_9a6ad_12 : decode cJ11_isValidCodePoint_9a6ad 12 = .ok (.goto 4, 3) := by decide +kernel
theorem dJ11_isValidCodePoint_9a6ad_15 : decode cJ11_isValidCodePoint_9a6ad 15 = .ok (.iconst 0, 1) := by decide +kernel
theorem dJ11_isValidCodePoint_9a6ad_16 : decode cJ11_isValidCodePoint_9a6ad 16 = .ok (.ireturn, 1) := by decide +kernel
theorem dJ11_highSurrogate_5068e_0 : decode cJ11_highSurrogate_5068e 0 = .ok (.iload_n 0, 1) := by decide +kernel
theorem dJ11_highSurrogate_5068e_1 : decode cJ11_highSurrogate_5068e 1 = .ok (.bipush 10, 2) := by decide +kernel
theorem dJ11_highSurrogate_5068e_3 : decode cJ11_highSurrogate_5068e 3 = .ok (.iushr, 1) := by decide +kernel
theorem dJ11_highSurrogate_5068e_4 : decode cJ11_highSurrogate_5068e 4 = .ok (.ldc 110, 2) := by decide +kernel
theorem dJ11_highSurrogate_5068e_6 : decode cJ11_highSurrogate_5068e 6 = .ok (.iadd, 1) := by decide +kernel
theorem dJ11_highSurrogate_5068e_7 : decode cJ11_highSurrogate_5068e 7 = .ok (.i2c, 1) := by decide +kernel
theorem dJ11_highSurrogate_5068e_8 : decode cJ11_highSurrogate_5068e 8 = .ok (.ireturn, 1) := by decide +kernel
theorem dJ11_lowSurrogate_5068e_0 : decode cJ11_lowSurrogate_5068e 0 = .ok (.iload_n 0, 1) := by decide +kernel
theorem dJ11_lowSurrogate_5068e_1 : decode cJ11_lowSurrogate_5068e 1 = .ok (.sipush 1023, 3) := by decide +kernel
theorem dJ11_lowSurrogate_5068e_4 : decode cJ11_lowSurrogate_5068e 4 = .ok (.iand, 1) := by decide +kernel
theorem dJ11_lowSurrogate_5068e_5 : decode cJ11_lowSurrogate_5068e 5 = .ok (.ldc 76, 2) := by decide +kernel
theorem dJ11_lowSurrogate_5068e_7 : decode cJ11_lowSurrogate_5068e 7 = .ok (.iadd, 1) := by decide +kernel
theorem dJ11_lowSurrogate_5068e_8 : decode cJ11_lowSurrogate_5068e 8 = .ok (.i2c, 1) := by decide +kernel
theorem dJ11_lowSurrogate_5068e_9 : decode cJ11_lowSurrogate_5068e 9 = .ok (.ireturn, 1) := by decide +kernel
theorem dJ6_bitCount_0f7a4_0 : decode cJ6_bitCount_0f7a4 0 = .ok (.iload_n 0, 1) := by decide +kernel
theorem dJ6_bitCount_0f7a4_1 : decode cJ6_bitCount_0f7a4 1 = .ok (.iload_n 0, 1) := by decide +kernel
theorem dJ6_bitCount_0f7a4_2 : decode cJ6_bitCount_0f7a4 2 = .ok (.iconst 1, 1) := by decide +kernel
theorem dJ6_bitCount_0f7a4_3 : decode cJ6_bitCount_0f7a4 3 = .ok (.iushr, 1) := by decide +kernel
theorem dJ6_bitCount_0f7a4_4 : decode cJ6_bitCount_0f7a4 4 = .ok (.ldc_w 265, 3) := by decide +kernel
theorem dJ6_bitCount_0f7a4_7 : decode cJ6_bitCount_0f7a4 7 = .ok (.iand, 1) := by decide +kernel
theorem dJ6_bitCount_0f7a4_8 : decode cJ6_bitCount_0f7a4 8 = .ok (.isub, 1) := by decide +kernel
theorem dJ6_bitCount_0f7a4_9 : decode cJ6_bitCount_0f7a4 9 = .ok (.istore_n 0, 1) := by decide +kernel
theorem dJ6_bitCount_0f7a4_10 : decode cJ6_bitCount_0f7a4 10 = .ok (.iload_n 0, 1) := by decide +kernel
theorem dJ6_bitCount_0f7a4_11 : decode cJ6_bitCount_0f7a4 11 = .ok (.ldc_w 266, 3) := by decide +kernel
theorem dJ6_bitCount_0f7a4_14 : decode cJ6_bitCount_0f7a4 14 = .ok (.iand, 1) := by decide +kernel
theorem dJ6_bitCount_0f7a4_15 : decode cJ6_bitCount_0f7a4 15 = .ok (.iload_n 0, 1) := by decide +kernel
theorem dJ6_bitCount_0f7a4_16 : decode cJ6_bitCount_0f7a4 16 = .ok (.iconst 2, 1) := by decide +kernel
theorem dJ6_bitCount_0f7a4_17 : decode cJ6_bitCount_0f7a4 17 = .ok (.iushr, 1) := by decide +kernel
theorem dJ6_bitCount_0f7a4_18 : decode cJ6_bitCount_0f7a4 18 = .ok (.ldc_w 266, 3) := by decide +kernel
theorem dJ6_bitCount_0f7a4_21 : decode cJ6_bitCount_0f7a4 21 = .ok (.iand, 1) := by decide +kernel
theorem dJ6_bitCount_0f7a4_22 : decode cJ6_bitCount_0f7a4 22 = .ok (.iadd, 1) := by decide +kernel
theorem dJ6_bitCount_0f7a4_23 : decode cJ6_bitCount_0f7a4 23 = .ok (.istore_n 0, 1) := by decide +kernel
theorem dJ6_bitCount_0f7a4_24 : decode cJ6_bitCount_0f7a4 24 = .ok (.iload_n 0, 1) := by decide +kernel
theorem dJ6_bitCount_0f7a4_25 : decode cJ6_bitCount_0f7a4 25 = .ok (.iload_n 0, 1) := by decide +kernel
theorem dJ6_bitCount_0f7a4_26 : decode cJ6_bitCount_0f7a4 26 = .ok (.iconst 4, 1) := by decide +kernel
theorem dJ6_bitCount_0f7a4_27 : decode cJ6_bitCount_0f7a4 27 = .ok (.iushr, 1) := by decide +kernel
theorem dJ6_bitCount_0f7a4_28 : decode cJ6_bitCount_0f7a4 28 = .ok (.iadd, 1) := by decide +kernel
theorem dJ6_bitCount_0f7a4_29 : decode cJ6_bitCount_0f7a4 29 = .ok (.ldc_w 267, 3) := by decide +kernel
theorem dJ6_bitCount_0f7a4_32 : decode cJ6_bitCount_0f7a4 32 = .ok (.iand, 1) := by decide +kernel
theorem dJ6_bitCount_0f7a4_33 : decode cJ6_bitCount_0f7a4 33 = .ok (.istore_n 0, 1) := by decide +kernel
theorem dJ6_bitCount_0f7a4_34 : decode cJ6_bitCount_0f7a4 34 = .ok (.iload_n 0, 1) := by decide +kernel
theorem dJ6_bitCount_0f7a4_35 : decode cJ6_bitCount_0f7a4 35 = .ok (.iload_n 0, 1) := by decide +kernel
theorem dJ6_bitCount_0f7a4_36 : decode cJ6_bitCount_0f7a4 36 = .ok (.bipush 8, 2) := by decide +kernel
theorem dJ6_bitCount_0f7a4_38 : decode cJ6_bitCount_0f7a4 38 = .ok (.iushr, 1) := by decide +kernel
theorem dJ6_bitCount_0f7a4_39 : decode cJ6_bitCount_0f7a4 39 = .ok (.iadd, 1) := by decide +kernel
theorem dJ6_bitCount_0f7a4_40 : decode cJ6_bitCount_0f7a4 40 = .ok (.istore_n 0, 1) := by decide +kernel
theorem dJ6_bitCount_0f7a4_41 : decode cJ6_bitCount_0f7a4 41 = .ok (.iload_n 0, 1) := by decide +kernel
theorem dJ6_bitCount_0f7a4_42 : decode cJ6_bitCount_0f7a4 42 = .ok (.iload_n 0, 1) := by decide +kernel
theorem dJ6_bitCount_0f7a4_43 : decode cJ6_bitCount_0f7a4 43 = .ok (.bipush 16, 2) := by decide +kernel
theorem dJ6_bitCount_0f7a4_45 : decode cJ6_bitCount_0f7a4 45 = .ok (.iushr, 1) := by decide +kernel
theorem dJ6_bitCount_0f7a4_46 : decode cJ6_bitCount_0f7a4 46 = .ok (.iadd, 1) := by decide +kernel
theorem dJ6_bitCount_0f7a4_47 : decode cJ6_bitCount_0f7a4 47 = .ok (.istore_n 0, 1) := by decide +kernel
theorem dJ6_bitCount_0f7a4_48 : decode cJ6_bitCount_0f7a4 48 = .ok (.iload_n 0, 1) := by decide +kernel
theorem dJ6_bitCount_0f7a4_49 : decode cJ6_bitCount_0f7a4 49 = .ok (.bipush 63, 2) := by decide +kernel
theorem dJ6_bitCount_0f7a4_51 : decode cJ6_bitCount_0f7a4 51 = .ok (.iand, 1) := by decide +kernel
theorem dJ6_bitCount_0f7a4_52 : decode cJ6_bitCount_0f7a4 52 = .ok (.ireturn, 1) := by decide +kernel
theorem dJ9_max_7cf53_0 : decode cJ9_max_7cf53 0 = .ok (.iload_n 0, 1) := by decide +kernel
theorem dJ9_max_7cf53_1 : decode cJ9_max_7cf53 1 = .ok (.iload_n 1, 1) := by decide +kernel
theorem dJ9_max_7cf53_2 : decode cJ9_max_7cf53 2 = .ok (.if_icmp .lt 7, 3) := by decide +kernel
theorem dJ9_max_7cf53_5 : decode cJ9_max_7cf53 5 = .ok (.iload_n 0, 1) := by decide +kernel
theorem dJ9_max_7cf53_6 : decode cJ9_max_7cf53 6 = .ok (.goto 4, 3) := by decide +kernel
theorem dJ9_max_7cf53_9 : decode cJ9_max_7cf53 9 = .ok (.iload_n 1, 1) := by decide +kernel
theorem dJ9_max_7cf53_10 : decode cJ9_max_7cf53 10 = .ok (.ireturn, 1) := by decide +kernel
theorem dJ9_min_7cf53_0 : decode cJ9_min_7cf53 0 = .ok (.iload_n 0, 1) := by decide +kernel
theorem dJ9_min_7cf53_1 : decode cJ9_min_7cf53 1 = .ok (.iload_n 1, 1) := by decide +kernel
theorem dJ9_min_7cf53_2 : decode cJ9_min_7cf53 2 = .ok (.if_icmp .gt 7, 3) := by decide +kernel
theorem dJ9_min_7cf53_5 : decode cJ9_min_7cf53 5 = .ok (.iload_n 0, 1) := by decide +kernel
theorem dJ9_min_7cf53_6 : decode cJ9_min_7cf53 6 = .ok (.goto 4, 3) := by decide +kernel
theorem dJ9_min_7cf53_9 : decode cJ9_min_7cf53 9 = .ok (.iload_n 1, 1) := by decide +kernel
theorem dJ9_min_7cf53_10 : decode cJ9_min_7cf53 10 = .ok (.ireturn, 1) := by decide +kernel
set_option maxRecDepth 20000 in
theorem ggJ0_length_8abf5_J0_coder_7d493 : GoodIn wsJ0_length_8abf5 wsJ0_coder_7d493 := goodIn_r _ [6, 7, 8] (by decide +kernel) (by decide +kernel)
set_option maxRecDepth 20000 in
theorem gJ0_length_8abf5_J0_coder_7d493 : GoodIn wsJ0_length_8abf5 (wsV RJ0 335 RJ0 yJ0_coder_7d493 wsJ0_coder_7d493) := goodIn_app (goodIn_of _ (by decide +kernel)) ggJ0_length_8abf5_J0_coder_7d493
theorem dJ0_length_8abf5_0 : decode cJ0_length_8abf5 0 = .ok (.aload_n 0, 1) := by decide +kernel
theorem dJ0_length_8abf5_1 : decode cJ0_length_8abf5 1 = .ok (.getfield 9, 3) := by decide +kernel
theorem dJ0_length_8abf5_4 : decode cJ0_length_8abf5 4 = .ok (.arraylength, 1) := by decide +kernel
theorem dJ0_length_8abf5_5 : decode cJ0_length_8abf5 5 = .ok (.aload_n 0, 1) := by decide +kernel
theorem dJ0_length_8abf5_6 : decode cJ0_length_8abf5 6 = .ok (.invokevirtual 335, 3) := by decide +kernel
theorem dJ0_length_8abf5_9 : decode cJ0_length_8abf5 9 = .ok (.ishr, 1) := by decide +kernel
theorem dJ0_length_8abf5_10 : decode cJ0_length_8abf5 10 = .ok (.ireturn, 1) := by decide +kernel
set_option maxRecDepth 20000 in
theorem ggJ0_indexOf_0f7a4_J0_indexOf_7cf53 : GoodIn wsJ0_indexOf_0f7a4 wsJ0_indexOf_7cf53 := goodIn_r _ [5, 6, 7, 8, 9, 4, 10, 11, 12, 13, 14, 15, 16, 17, 18, 19, 20, 21, 22, 23, 24, 25, 26, 27, 28, 29, 30, 31, 32, 33, 34, 35, 36, 37, 38, 39, 40, 41, 42, 43, 44, 45, 46, 47, 48, 49, 50, 51, 52, 53, 54, 55, 56, 57, 58, 59, 60, 61, 62, 63, 64, 65, 66, 67, 68, 69, 70, 71, 72, 73, 74, 75, 76, 77, 78, 79, 80, 81, 82, 83, 84, 85] (by decide +kernel) (by decide +kernel)
set_option maxRecDepth 20000 in
theorem gJ0_indexOf_0f7a4_J0_indexOf_7cf53 : GoodIn wsJ0_indexOf_0f7a4 (wsV RJ0 633 RJ0 yJ0_indexOf_7cf53 wsJ0_indexOf_7cf53) := goodIn_app (goodIn_of _ (by decide +kernel)) ggJ0_indexOf_0f7a4_J0_indexOf_7cf53
theorem dJ0_indexOf_0f7a4_0 : decode cJ0_indexOf_0f7a4 0 = .ok (.aload_n 0, 1) := by decide +kernel
theorem dJ0_indexOf_0f7a4_1 : decode cJ0_indexOf_0f7a4 1 = .ok (.iload_n 1, 1) := by decide +kernel
theorem dJ0_indexOf_0f7a4_2 : decode cJ0_indexOf_0f7a4 2 = .ok (.iconst 0, 1) := by decide +kernel
theorem dJ0_indexOf_0f7a4_3 : decode cJ0_indexOf_0f7a4 3 = .ok (.invokevirtual 633, 3) := by decide +kernel
theorem dJ0_indexOf_0f7a4_6 : decode cJ0_indexOf_0f7a4 6 = .ok (.ireturn, 1) := by decide +kernel
set_option maxRecDepth 20000 in
theorem ggJ0_indexOf_7cf53_J0_isLatin1_aae02 : GoodIn wsJ0_indexOf_7cf53 wsJ0_isLatin1_aae02 := goodIn_r _ [6, 7, 8] (by decide +kernel) (by decide +kernel)
set_option maxRecDepth 20000 in
theorem gJ0_indexOf_7cf53_J0_isLatin1_aae02 : GoodIn wsJ0_indexOf_7cf53 (wsV RJ0 492 RJ0 yJ0_isLatin1_aae02 wsJ0_isLatin1_aae02) := goodIn_app (goodIn_of _ (by decide +kernel)) ggJ0_indexOf_7cf53_J0_isLatin1_aae02
set_option maxRecDepth 20000 in
theorem ggJ0_indexOf_7cf53_J0_length_8abf5 : GoodIn wsJ0_indexOf_7cf53 wsJ0_length_8abf5 := goodIn_r _ [12, 1, 13, 14, 15, 5, 16, 7, 8] (by decide +kernel) (by decide +kernel)
set_option maxRecDepth 20000 in
theorem gJ0_indexOf_7cf53_J0_length_8abf5 : GoodIn wsJ0_indexOf_7cf53 (wsV RJ0 505 RJ0 yJ0_length_8abf5 wsJ0_length_8abf5) := goodIn_app (goodIn_of _ (by decide +kernel)) ggJ0_indexOf_7cf53_J0_length_8abf5
set_option maxRecDepth 20000 in
theorem ggJ0_indexOf_7cf53_J1_indexOf_4cfef : GoodIn wsJ0_indexOf_7cf53 wsJ1_indexOf_4cfef := goodIn_r _ [20, 21, 22, 23, 24, 25, 26, 27, 28, 29, 19, 30, 31, 32, 33] (by decide +kernel) (by decide +kernel)
set_option maxRecDepth 20000 in
theorem gJ0_indexOf_7cf53_J1_indexOf_4cfef : GoodIn wsJ0_indexOf_7cf53 (va_wsS RJ0 637 yJ1_indexOf_4cfef wsJ1_indexOf_4cfef) := goodIn_app (goodIn_of _ (by decide +kernel)) ggJ0_indexOf_7cf53_J1_indexOf_4cfef
set_option maxRecDepth 20000 in
theorem ggJ0_indexOf_7cf53_J2_indexOf_4cfef : GoodIn wsJ0_indexOf_7cf53 wsJ2_indexOf_4cfef := goodIn_r _ [37, 38, 22, 23, 24, 39, 26, 27, 40, 41, 42, 36, 43, 44, 45, 46, 47, 48, 49, 50, 51, 5, 52, 53, 54, 55, 56, 57, 58, 59, 60, 61, 62, 63, 64, 65, 66, 67, 68, 69, 70, 71, 72, 73, 74, 75, 76, 77, 78, 79, 80, 81] (by decide +kernel) (by decide +kernel)
set_option maxRecDepth 20000 in
theorem gJ0_indexOf_7cf53_J2_indexOf_4cfef : GoodIn wsJ0_indexOf_7cf53 (va_wsS RJ0 640 yJ2_indexOf_4cfef wsJ2_indexOf_4cfef) := goodIn_app (goodIn_of _ (by decide +kernel)) ggJ0_indexOf_7cf53_J2_indexOf_4cfef
theorem dJ0_indexOf_7cf53_0 : decode cJ0_indexOf_7cf53 0 = .ok (.aload_n 0, 1) := by decide +kernel
theorem dJ0_indexOf_7cf53_1 : decode cJ0_indexOf_7cf53 1 = .ok (.invokevirtual 492, 3) := by decide +kernel
theorem dJ0_indexOf_7cf53_4 : decode cJ0_indexOf_7cf53 4 = .ok (.ifCond .eq 19, 3) := by decide +kernel
theorem dJ0_indexOf_7cf53_7 : decode cJ0_indexOf_7cf53 7 = .ok (.aload_n 0, 1) := by decide +kernel
theorem dJ0_indexOf_7cf53_8 : decode cJ0_indexOf_7cf53 8 = .ok (.getfield 9, 3) := by decide +kernel
theorem dJ0_indexOf_7cf53_11 : decode cJ0_indexOf_7cf53 11 = .ok (.iload_n 1, 1) := by decide +kernel
theorem dJ0_indexOf_7cf53_12 : decode cJ0_indexOf_7cf53 12 = .ok (.iload_n 2, 1) := by decide +kernel
theorem dJ0_indexOf_7cf53_13 : decode cJ0_indexOf_7cf53 13 = .ok (.aload_n 0, 1) := by decide +kernel
theorem dJ0_indexOf_7cf53_14 : decode cJ0_indexOf_7cf53 14 = .ok (.invokevirtual 505, 3) := by decide +kernel
theorem dJ0_indexOf_7cf53_17 : decode cJ0_indexOf_7cf53 17 = .ok (.invokestatic 637, 3) := by decide +kernel
theorem dJ0_indexOf_7cf53_20 : decode cJ0_indexOf_7cf53 20 = .ok (.goto 16, 3) := by decide +kernel
theorem dJ0_indexOf_7cf53_23 : decode cJ0_indexOf_7cf53 23 = .ok (.aload_n 0, 1) := by decide +kernel
theorem dJ0_indexOf_7cf53_24 : decode cJ0_indexOf_7cf53 24 = .ok (.getfield 9, 3) := by decide +kernel
theorem dJ0_indexOf_7cf53_27 : decode cJ0_indexOf_7cf53 27 = .ok (.iload_n 1, 1) := by decide +kernel
theorem dJ0_indexOf_7cf53_28 : decode cJ0_indexOf_7cf53 28 = .ok (.iload_n 2, 1) := by decide +kernel
theorem dJ0_indexOf_7cf53_29 : decode cJ0_indexOf_7cf53 29 = .ok (.aload_n 0, 1) := by decide +kernel
theorem dJ0_indexOf_7cf53_30 : decode cJ0_indexOf_7cf53 30 = .ok (.invokevirtual 505, 3) := by decide +kernel
theorem dJ0_indexOf_7cf53_33 : decode cJ0_indexOf_7cf53 33 = .ok (.invokestatic 640, 3) := by decide +kernel
theorem dJ0_indexOf_7cf53_36 : decode cJ0_indexOf_7cf53 36 = .ok (.ireturn, 1) := by decide +kernel
theorem dJ0_coder_7d493_0 : decode cJ0_coder_7d493 0 = .ok (.getstatic 38, 3) := by decide +kernel
theorem dJ0_coder_7d493_3 : decode cJ0_coder_7d493 3 = .ok (.ifCond .eq 10, 3) := by decide +kernel
theorem dJ0_coder_7d493_6 : decode cJ0_coder_7d493 6 = .ok (.aload_n 0, 1) := by decide +kernel
theorem dJ0_coder_7d493_7 : decode cJ0_coder_7d493 7 = .ok (.getfield 15, 3) := by decide +kernel
theorem dJ0_coder_7d493_10 : decode cJ0_coder_7d493 10 = .ok (.goto 4, 3) := by decide +kernel
theorem dJ0_coder_7d493_13 : decode cJ0_coder_7d493 13 = .ok (.iconst 1, 1) := by decide +kernel
theorem dJ0_coder_7d493_14 : decode cJ0_coder_7d493 14 = .ok (.ireturn, 1) := by decide +kernel
theorem dJ0_isLatin1_aae02_0 : decode cJ0_isLatin1_aae02 0 = .ok (.getstatic 38, 3) := by decide +kernel
theorem dJ0_isLatin1_aae02_3 : decode cJ0_isLatin1_aae02 3 = .ok (.ifCond .eq 14, 3) := by decide +kernel
theorem dJ0_isLatin1_aae02_6 : decode cJ0_isLatin1_aae02 6 = .ok (.aload_n 0, 1) := by decide +kernel
theorem dJ0_isLatin1_aae02_7 : decode cJ0_isLatin1_aae02 7 = .ok (.getfield 15, 3) := by decide +kernel
theorem dJ0_isLatin1_aae02_10 : decode cJ0_isLatin1_aae02 10 = .ok (.ifCond .ne 7, 3) := by decide +kernel
theorem dJ0_isLatin1_aae02_13 : decode cJ0_isLatin1_aae02 13 = .ok (.iconst 1, 1) := by decide +kernel
theorem dJ0_isLatin1_aae02_14 : decode cJ0_isLatin1_aae02 14 = .ok (.goto 4, 3) := by decide +kernel
theorem dJ0_isLatin1_aae02_17 : decode cJ0_isLatin1_aae02 17 = .ok (.iconst 0, 1) := by decide +kernel
theorem dJ0_isLatin1_aae02_18 : decode cJ0_isLatin1_aae02 18 = .ok (.ireturn, 1) := by decide +kernel
set_option maxRecDepth 20000 in
theorem ggJ0_checkBoundsBeginEnd_23922_J3_checkFromToIndex_8c36e : GoodIn wsJ0_checkBoundsBeginEnd_23922 wsJ3_checkFromToIndex_8c36e := goodIn_r _ [5] (by decide +kernel) (by decide +kernel)
set_option maxRecDepth 20000 in
theorem gJ0_checkBoundsBeginEnd_23922_J3_checkFromToIndex_8c36e : GoodIn wsJ0_checkBoundsBeginEnd_23922 (va_wsS RJ0 1062 yJ3_checkFromToIndex_8c36e wsJ3_checkFromToIndex_8c36e) := goodIn_app (goodIn_of _ (by decide +kernel)) ggJ0_checkBoundsBeginEnd_23922_J3_checkFromToIndex_8c36e
theorem dJ0_checkBoundsBeginEnd_23922_0 : decode cJ0_checkBoundsBeginEnd_23922 0 = .ok (.iload_n 0, 1) := by decide +kernel
theorem dJ0_checkBoundsBeginEnd_23922_1 : decode cJ0_checkBoundsBeginEnd_23922 1 = .ok (.iload_n 1, 1) := by decide +kernel
theorem dJ0_checkBoundsBeginEnd_23922_2 : decode cJ0_checkBoundsBeginEnd_23922 2 = .ok (.iload_n 2, 1) := by decide +kernel
theorem dJ0_checkBoundsBeginEnd_23922_3 : decode cJ0_checkBoundsBeginEnd_23922 3 = .ok (.getstatic 1053, 3) := by decide +kernel
theorem dJ0_checkBoundsBeginEnd_23922_6 : decode cJ0_checkBoundsBeginEnd_23922 6 = .ok (.invokestatic 1062, 3) := by decide +kernel
theorem dJ0_checkBoundsBeginEnd_23922_9 : decode cJ0_checkBoundsBeginEnd_23922 9 = .ok (.pop, 1) := by decide +kernel
theorem dJ0_checkBoundsBeginEnd_23922_10 : decode cJ0_checkBoundsBeginEnd_23922 10 = .ok (.return_, 1) := by decide +kernel
theorem dJ1_canEncode_9a6ad_0 : decode cJ1_canEncode_9a6ad 0 = .ok (.iload_n 0, 1) := by decide +kernel
theorem dJ1_canEncode_9a6ad_1 : decode cJ1_canEncode_9a6ad 1 = .ok (.ifCond .lt 14, 3) := by decide +kernel
theorem dJ1_canEncode_9a6ad_4 : decode cJ1_canEncode_9a6ad 4 = .ok (.iload_n 0, 1) := by decide +kernel
theorem dJ1_canEncode_9a6ad_5 : decode cJ1_canEncode_9a6ad 5 = .ok (.sipush 255, 3) := by decide +kernel
theorem dJ1_canEncode_9a6ad_8 : decode cJ1_canEncode_9a6ad 8 = .ok (.if_icmp .gt 7, 3) := by decide +kernel
theorem dJ1_canEncode_9a6ad_11 : decode cJ1_canEncode_9a6ad 11 = .ok (.iconst 1, 1) := by decide +kernel
theorem dJ1_canEncode_9a6ad_12 : decode cJ1_canEncode_9a6ad 12 = .ok (.goto 4, 3) := by decide +kernel
theorem dJ1_canEncode_9a6ad_15 : decode cJ1_canEncode_9a6ad 15 = .ok (.iconst 0, 1) := by decide +kernel
theorem dJ1_canEncode_9a6ad_16 : decode cJ1_canEncode_9a6ad 16 = .ok (.ireturn, 1) := by decide +kernel
set_option maxRecDepth 20000 in
theorem ggJ1_indexOf_4cfef_J1_canEncode_9a6ad : GoodIn wsJ1_indexOf_4cfef wsJ1_canEncode_9a6ad := goodIn_r _ [11] (by decide +kernel) (by decide +kernel)
set_option maxRecDepth 20000 in
theorem gJ1_indexOf_4cfef_J1_canEncode_9a6ad : GoodIn wsJ1_indexOf_4cfef (va_wsS RJ1 88 yJ1_canEncode_9a6ad wsJ1_canEncode_9a6ad) := goodIn_app (goodIn_of _ (by decide +kernel)) ggJ1_indexOf_4cfef_J1_canEncode_9a6ad
set_option maxRecDepth 20000 in
theorem ggJ1_indexOf_4cfef_J1_indexOfChar_4cfef : GoodIn wsJ1_indexOf_4cfef wsJ1_indexOfChar_4cfef := goodIn_r _ [14] (by decide +kernel) (by decide +kernel)
set_option maxRecDepth 20000 in
theorem gJ1_indexOf_4cfef_J1_indexOfChar_4cfef : GoodIn wsJ1_indexOf_4cfef (va_wsS RJ1 95 yJ1_indexOfChar_4cfef wsJ1_indexOfChar_4cfef) := goodIn_app (goodIn_of _ (by decide +kernel)) ggJ1_indexOf_4cfef_J1_indexOfChar_4cfef
theorem dJ1_indexOf_4cfef_0 : decode cJ1_indexOf_4cfef 0 = .ok (.iload_n 1, 1) := by decide +kernel
theorem dJ1_indexOf_4cfef_1 : decode cJ1_indexOf_4cfef 1 = .ok (.invokestatic 88, 3) := by decide +kernel
theorem dJ1_indexOf_4cfef_4 : decode cJ1_indexOf_4cfef 4 = .ok (.ifCond .ne 5, 3) := by decide +kernel
theorem dJ1_indexOf_4cfef_7 : decode cJ1_indexOf_4cfef 7 = .ok (.iconst (-1), 1) := by decide +kernel
theorem dJ1_indexOf_4cfef_8 : decode cJ1_indexOf_4cfef 8 = .ok (.ireturn, 1) := by decide +kernel
theorem dJ1_indexOf_4cfef_9 : decode cJ1_indexOf_4cfef 9 = .ok (.iload_n 2, 1) := by decide +kernel
theorem dJ1_indexOf_4cfef_10 : decode cJ1_indexOf_4cfef 10 = .ok (.iconst 0, 1) := by decide +kernel
theorem dJ1_indexOf_4cfef_11 : decode cJ1_indexOf_4cfef 11 = .ok (.invokestatic 92, 3) := by decide +kernel
theorem dJ1_indexOf_4cfef_14 : decode cJ1_indexOf_4cfef 14 = .ok (.istore_n 2, 1) := by decide +kernel
theorem dJ1_indexOf_4cfef_15 : decode cJ1_indexOf_4cfef 15 = .ok (.iload_n 3, 1) := by decide +kernel
theorem dJ1_indexOf_4cfef_16 : decode cJ1_indexOf_4cfef 16 = .ok (.aload_n 0, 1) := by decide +kernel
theorem dJ1_indexOf_4cfef_17 : decode cJ1_indexOf_4cfef 17 = .ok (.arraylength, 1) := by decide +kernel
theorem dJ1_indexOf_4cfef_18 : decode cJ1_indexOf_4cfef 18 = .ok (.invokestatic 38, 3) := by decide +kernel
theorem dJ1_indexOf_4cfef_21 : decode cJ1_indexOf_4cfef 21 = .ok (.istore_n 3, 1) := by decide +kernel
theorem dJ1_indexOf_4cfef_22 : decode cJ1_indexOf_4cfef 22 = .ok (.iload_n 2, 1) := by decide +kernel
theorem dJ1_indexOf_4cfef_23 : decode cJ1_indexOf_4cfef 23 = .ok (.iload_n 3, 1) := by decide +kernel
theorem dJ1_indexOf_4cfef_24 : decode cJ1_indexOf_4cfef 24 = .ok (.if_icmp .lt 5, 3) := by decide +kernel
theorem dJ1_indexOf_4cfef_27 : decode cJ1_indexOf_4cfef 27 = .ok (.iconst (-1), 1) := by decide +kernel
theorem dJ1_indexOf_4cfef_28 : decode cJ1_indexOf_4cfef 28 = .ok (.ireturn, 1) := by decide +kernel
theorem dJ1_indexOf_4cfef_29 : decode cJ1_indexOf_4cfef 29 = .ok (.aload_n 0, 1) := by decide +kernel
theorem dJ1_indexOf_4cfef_30 : decode cJ1_indexOf_4cfef 30 = .ok (.iload_n 1, 1) := by decide +kernel
theorem dJ1_indexOf_4cfef_31 : decode cJ1_indexOf_4cfef 31 = .ok (.iload_n 2, 1) := by decide +kernel
theorem dJ1_indexOf_4cfef_32 : decode cJ1_indexOf_4cfef 32 = .ok (.iload_n 3, 1) := by decide +kernel
theorem dJ1_indexOf_4cfef_33 : decode cJ1_indexOf_4cfef 33 = .ok (.invokestatic 95, 3) := by decide +kernel
theorem dJ1_indexOf_4cfef_36 : decode cJ1_indexOf_4cfef 36 = .ok (.ireturn, 1) := by decide +kernel
theorem dJ1_indexOfChar_4cfef_0 : decode cJ1_indexOfChar_4cfef 0 = .ok (.iload_n 1, 1) := by decide +kernel
theorem dJ1_indexOfChar_4cfef_1 : decode cJ1_indexOfChar_4cfef 1 = .ok (.i2b, 1) := by decide +kernel
theorem dJ1_indexOfChar_4cfef_2 : decode cJ1_indexOfChar_4cfef 2 = .ok (.istore 4, 2) := by decide +kernel
theorem dJ1_indexOfChar_4cfef_4 : decode cJ1_indexOfChar_4cfef 4 = .ok (.iload_n 2, 1) := by decide +kernel
theorem dJ1_indexOfChar_4cfef_5 : decode cJ1_indexOfChar_4cfef 5 = .ok (.istore 5, 2) := by decide +kernel
theorem dJ1_indexOfChar_4cfef_7 : decode cJ1_indexOfChar_4cfef 7 = .ok (.iload 5, 2) := by decide +kernel
theorem dJ1_indexOfChar_4cfef_9 : decode cJ1_indexOfChar_4cfef 9 = .ok (.iload_n 3, 1) := by decide +kernel
theorem dJ1_indexOfChar_4cfef_10 : decode cJ1_indexOfChar_4cfef 10 = .ok (.if_icmp .ge 21, 3) := by decide +kernel
theorem dJ1_indexOfChar_4cfef_13 : decode cJ1_indexOfChar_4cfef 13 = .ok (.aload_n 0, 1) := by decide +kernel
theorem dJ1_indexOfChar_4cfef_14 : decode cJ1_indexOfChar_4cfef 14 = .ok (.iload 5, 2) := by decide +kernel
theorem dJ1_indexOfChar_4cfef_16 : decode cJ1_indexOfChar_4cfef 16 = .ok (.baload, 1) := by decide +kernel
theorem dJ1_indexOfChar_4cfef_17 : decode cJ1_indexOfChar_4cfef 17 = .ok (.iload 4, 2) := by decide +kernel
theorem dJ1_indexOfChar_4cfef_19 : decode cJ1_indexOfChar_4cfef 19 = .ok (.if_icmp .ne 6, 3) := by decide +kernel
theorem dJ1_indexOfChar_4cfef_22 : decode cJ1_indexOfChar_4cfef 22 = .ok (.iload 5, 2) := by decide +kernel
theorem dJ1_indexOfChar_4cfef_24 : decode cJ1_indexOfChar_4cfef 24 = .ok (.ireturn, 1) := by decide +kernel
theorem dJ1_indexOfChar_4cfef_25 : decode cJ1_indexOfChar_4cfef 25 = .ok (.iinc 5 1, 3) := by decide +kernel
theorem dJ1_indexOfChar_4cfef_28 : decode cJ1_indexOfChar_4cfef 28 = .ok (.goto (-21), 3) := by decide +kernel
theorem dJ1_indexOfChar_4cfef_31 : decode cJ1_indexOfChar_4cfef 31 = .ok (.iconst (-1), 1) := by decide +kernel
theorem dJ1_indexOfChar_4cfef_32 : decode cJ1_indexOfChar_4cfef 32 = .ok (.ireturn, 1) := by decide +kernel
set_option maxRecDepth 20000 in
theorem ggJ2_getChar_3b067_J2_length_9d52b : GoodIn wsJ2_getChar_3b067 wsJ2_length_9d52b := goodIn_r _ [7] (by decide +kernel) (by decide +kernel)
set_option maxRecDepth 20000 in
theorem gJ2_getChar_3b067_J2_length_9d52b : GoodIn wsJ2_getChar_3b067 (va_wsS RJ2 48 yJ2_length_9d52b wsJ2_length_9d52b) := goodIn_app (goodIn_of _ (by decide +kernel)) ggJ2_getChar_3b067_J2_length_9d52b
theorem dJ2_getChar_3b067_0 : decode cJ2_getChar_3b067 0 = .ok (.getstatic 44, 3) := by decide +kernel
theorem dJ2_getChar_3b067_3 : decode cJ2_getChar_3b067 3 = .ok (.ifCond .ne 25, 3) := by decide +kernel
theorem dJ2_getChar_3b067_6 : decode cJ2_getChar_3b067 6 = .ok (.iload_n 1, 1) := by decide +kernel
theorem dJ2_getChar_3b067_7 : decode cJ2_getChar_3b067 7 = .ok (.ifCond .lt 11, 3) := by decide +kernel
theorem dJ2_getChar_3b067_10 : decode cJ2_getChar_3b067 10 = .ok (.iload_n 1, 1) := by decide +kernel
theorem dJ2_getChar_3b067_11 : decode cJ2_getChar_3b067 11 = .ok (.aload_n 0, 1) := by decide +kernel
theorem dJ2_getChar_3b067_12 : decode cJ2_getChar_3b067 12 = .ok (.invokestatic 48, 3) := by decide +kernel
theorem dJ2_getChar_3b067_15 : decode cJ2_getChar_3b067 15 = .ok (.if_icmp .lt 13, 3) := by decide +kernel
theorem dJ2_getChar_3b067_18 : decode cJ2_getChar_3b067 18 = .ok (.new 52, 3) := by decide +kernel
theorem dJ2_getChar_3b067_21 : decode cJ2_getChar_3b067 21 = .ok (.dup, 1) := by decide +kernel
theorem dJ2_getChar_3b067_22 : decode cJ2_getChar_3b067 22 = .ok (.ldc 54, 2) := by decide +kernel
theorem dJ2_getChar_3b067_24 : decode cJ2_getChar_3b067 24 = .ok (.invokespecial 56, 3) := by decide +kernel
theorem dJ2_getChar_3b067_27 : decode cJ2_getChar_3b067 27 = .ok (.athrow, 1) := by decide +kernel
theorem dJ2_getChar_3b067_28 : decode cJ2_getChar_3b067 28 = .ok (.iload_n 1, 1) := by decide +kernel
theorem dJ2_getChar_3b067_29 : decode cJ2_getChar_3b067 29 = .ok (.iconst 1, 1) := by decide +kernel
theorem dJ2_getChar_3b067_30 : decode cJ2_getChar_3b067 30 = .ok (.ishl, 1) := by decide +kernel
theorem dJ2_getChar_3b067_31 : decode cJ2_getChar_3b067 31 = .ok (.istore_n 1, 1) := by decide +kernel
theorem dJ2_getChar_3b067_32 : decode cJ2_getChar_3b067 32 = .ok (.aload_n 0, 1) := by decide +kernel
theorem dJ2_getChar_3b067_33 : decode cJ2_getChar_3b067 33 = .ok (.iload_n 1, 1) := by decide +kernel
theorem dJ2_getChar_3b067_34 : decode cJ2_getChar_3b067 34 = .ok (.iinc 1 1, 3) := by decide +kernel
theorem dJ2_getChar_3b067_37 : decode cJ2_getChar_3b067 37 = .ok (.baload, 1) := by decide +kernel
theorem dJ2_getChar_3b067_38 : decode cJ2_getChar_3b067 38 = .ok (.sipush 255, 3) := by decide +kernel
theorem dJ2_getChar_3b067_41 : decode cJ2_getChar_3b067 41 = .ok (.iand, 1) := by decide +kernel
theorem dJ2_getChar_3b067_42 : decode cJ2_getChar_3b067 42 = .ok (.getstatic 59, 3) := by decide +kernel
theorem dJ2_getChar_3b067_45 : decode cJ2_getChar_3b067 45 = .ok (.ishl, 1) := by decide +kernel
theorem dJ2_getChar_3b067_46 : decode cJ2_getChar_3b067 46 = .ok (.aload_n 0, 1) := by decide +kernel
theorem dJ2_getChar_3b067_47 : decode cJ2_getChar_3b067 47 = .ok (.iload_n 1, 1) := by decide +kernel
theorem dJ2_getChar_3b067_48 : decode cJ2_getChar_3b067 48 = .ok (.baload, 1) := by decide +kernel
theorem dJ2_getChar_3b067_49 : decode cJ2_getChar_3b067 49 = .ok (.sipush 255, 3) := by decide +kernel
theorem dJ2_getChar_3b067_52 : decode cJ2_getChar_3b067 52 = .ok (.iand, 1) := by decide +kernel
theorem dJ2_getChar_3b067_53 : decode cJ2_getChar_3b067 53 = .ok (.getstatic 63, 3) := by decide +kernel
theorem dJ2_getChar_3b067_56 : decode cJ2_getChar_3b067 56 = .ok (.ishl, 1) := by decide +kernel
theorem dJ2_getChar_3b067_57 : decode cJ2_getChar_3b067 57 = .ok (.ior, 1) := by decide +kernel
theorem dJ2_getChar_3b067_58 : decode cJ2_getChar_3b067 58 = .ok (.i2c, 1) := by decide +kernel
theorem dJ2_getChar_3b067_59 : decode cJ2_getChar_3b067 59 = .ok (.ireturn, 1) := by decide +kernel
theorem dJ2_length_9d52b_0 : decode cJ2_length_9d52b 0 = .ok (.aload_n 0, 1) := by decide +kernel
theorem dJ2_length_9d52b_1 : decode cJ2_length_9d52b 1 = .ok (.arraylength, 1) := by decide +kernel
theorem dJ2_length_9d52b_2 : decode cJ2_length_9d52b 2 = .ok (.iconst 1, 1) := by decide +kernel
theorem dJ2_length_9d52b_3 : decode cJ2_length_9d52b 3 = .ok (.ishr, 1) := by decide +kernel
theorem dJ2_length_9d52b_4 : decode cJ2_length_9d52b 4 = .ok (.ireturn, 1) := by decide +kernel
set_option maxRecDepth 20000 in
theorem ggJ2_indexOf_4cfef_J2_indexOfChar_4cfef : GoodIn wsJ2_indexOf_4cfef wsJ2_indexOfChar_4cfef := goodIn_r _ [12, 13, 14, 11, 15, 16, 17, 18, 19, 20, 21, 22, 23, 24, 25, 26, 27, 28, 29, 30, 31, 32, 33, 34, 35, 36] (by decide +kernel) (by decide +kernel)
set_option maxRecDepth 20000 in
theorem gJ2_indexOf_4cfef_J2_indexOfChar_4cfef : GoodIn wsJ2_indexOf_4cfef (va_wsS RJ2 228 yJ2_indexOfChar_4cfef wsJ2_indexOfChar_4cfef) := goodIn_app (goodIn_of _ (by decide +kernel)) ggJ2_indexOf_4cfef_J2_indexOfChar_4cfef
set_option maxRecDepth 20000 in
theorem ggJ2_indexOf_4cfef_J2_indexOfSupplementary_4cfef : GoodIn wsJ2_indexOf_4cfef wsJ2_indexOfSupplementary_4cfef := goodIn_r _ [39, 40, 41, 42, 43, 44, 45, 46, 47, 48, 49, 50, 51, 13, 14, 11, 15, 16, 17, 18, 19, 20, 21, 22, 23, 24, 25, 26, 27, 31, 32, 33, 34, 35, 36] (by decide +kernel) (by decide +kernel)
set_option maxRecDepth 20000 in
theorem gJ2_indexOf_4cfef_J2_indexOfSupplementary_4cfef : GoodIn wsJ2_indexOf_4cfef (va_wsS RJ2 232 yJ2_indexOfSupplementary_4cfef wsJ2_indexOfSupplementary_4cfef) := goodIn_app (goodIn_of _ (by decide +kernel)) ggJ2_indexOf_4cfef_J2_indexOfSupplementary_4cfef
theorem dJ2_indexOf_4cfef_0 : decode cJ2_indexOf_4cfef 0 = .ok (.iload_n 2, 1) := by decide +kernel
theorem dJ2_indexOf_4cfef_1 : decode cJ2_indexOf_4cfef 1 = .ok (.iconst 0, 1) := by decide +kernel
theorem dJ2_indexOf_4cfef_2 : decode cJ2_indexOf_4cfef 2 = .ok (.invokestatic 224, 3) := by decide +kernel
theorem dJ2_indexOf_4cfef_5 : decode cJ2_indexOf_4cfef 5 = .ok (.istore_n 2, 1) := by decide +kernel
theorem dJ2_indexOf_4cfef_6 : decode cJ2_indexOf_4cfef 6 = .ok (.iload_n 3, 1) := by decide +kernel
theorem dJ2_indexOf_4cfef_7 : decode cJ2_indexOf_4cfef 7 = .ok (.aload_n 0, 1) := by decide +kernel
theorem dJ2_indexOf_4cfef_8 : decode cJ2_indexOf_4cfef 8 = .ok (.arraylength, 1) := by decide +kernel
theorem dJ2_indexOf_4cfef_9 : decode cJ2_indexOf_4cfef 9 = .ok (.iconst 1, 1) := by decide +kernel
theorem dJ2_indexOf_4cfef_10 : decode cJ2_indexOf_4cfef 10 = .ok (.ishr, 1) := by decide +kernel
theorem dJ2_indexOf_4cfef_11 : decode cJ2_indexOf_4cfef 11 = .ok (.invokestatic 183, 3) := by decide +kernel
theorem dJ2_indexOf_4cfef_14 : decode cJ2_indexOf_4cfef 14 = .ok (.istore_n 3, 1) := by decide +kernel
theorem dJ2_indexOf_4cfef_15 : decode cJ2_indexOf_4cfef 15 = .ok (.iload_n 2, 1) := by decide +kernel
theorem dJ2_indexOf_4cfef_16 : decode cJ2_indexOf_4cfef 16 = .ok (.iload_n 3, 1) := by decide +kernel
theorem dJ2_indexOf_4cfef_17 : decode cJ2_indexOf_4cfef 17 = .ok (.if_icmp .lt 5, 3) := by decide +kernel
theorem dJ2_indexOf_4cfef_20 : decode cJ2_indexOf_4cfef 20 = .ok (.iconst (-1), 1) := by decide +kernel
theorem dJ2_indexOf_4cfef_21 : decode cJ2_indexOf_4cfef 21 = .ok (.ireturn, 1) := by decide +kernel
theorem dJ2_indexOf_4cfef_22 : decode cJ2_indexOf_4cfef 22 = .ok (.iload_n 1, 1) := by decide +kernel
theorem dJ2_indexOf_4cfef_23 : decode cJ2_indexOf_4cfef 23 = .ok (.ldc 227, 2) := by decide +kernel
theorem dJ2_indexOf_4cfef_25 : decode cJ2_indexOf_4cfef 25 = .ok (.if_icmp .ge 11, 3) := by decide +kernel
theorem dJ2_indexOf_4cfef_28 : decode cJ2_indexOf_4cfef 28 = .ok (.aload_n 0, 1) := by decide +kernel
theorem dJ2_indexOf_4cfef_29 : decode cJ2_indexOf_4cfef 29 = .ok (.iload_n 1, 1) := by decide +kernel
theorem dJ2_indexOf_4cfef_30 : decode cJ2_indexOf_4cfef 30 = .ok (.iload_n 2, 1) := by decide +kernel
theorem dJ2_indexOf_4cfef_31 : decode cJ2_indexOf_4cfef 31 = .ok (.iload_n 3, 1) := by decide +kernel
theorem dJ2_indexOf_4cfef_32 : decode cJ2_indexOf_4cfef 32 = .ok (.invokestatic 228, 3) := by decide +kernel
theorem dJ2_indexOf_4cfef_35 : decode cJ2_indexOf_4cfef 35 = .ok (.ireturn, 1) := by decide +kernel
theorem dJ2_indexOf_4cfef_36 : decode cJ2_indexOf_4cfef 36 = .ok (.aload_n 0, 1) := by decide +kernel
theorem dJ2_indexOf_4cfef_37 : decode cJ2_indexOf_4cfef 37 = .ok (.iload_n 1, 1) := by decide +kernel
theorem dJ2_indexOf_4cfef_38 : decode cJ2_indexOf_4cfef 38 = .ok (.iload_n 2, 1) := by decide +kernel
theorem dJ2_indexOf_4cfef_39 : decode cJ2_indexOf_4cfef 39 = .ok (.iload_n 3, 1) := by decide +kernel
theorem dJ2_indexOf_4cfef_40 : decode cJ2_indexOf_4cfef 40 = .ok (.invokestatic 232, 3) := by decide +kernel
theorem dJ2_indexOf_4cfef_43 : decode cJ2_indexOf_4cfef 43 = .ok (.ireturn, 1) := by decide +kernel
set_option maxRecDepth 20000 in
theorem ggJ2_indexOfChar_4cfef_J2_checkBoundsBeginEnd_d044e : GoodIn wsJ2_indexOfChar_4cfef wsJ2_checkBoundsBeginEnd_d044e := goodIn_r _ [4, 5, 6, 3, 7, 8, 9, 10, 11, 12, 13, 14, 15, 16] (by decide +kernel) (by decide +kernel)
set_option maxRecDepth 20000 in
theorem gJ2_indexOfChar_4cfef_J2_checkBoundsBeginEnd_d044e : GoodIn wsJ2_indexOfChar_4cfef (va_wsS RJ2 96 yJ2_checkBoundsBeginEnd_d044e wsJ2_checkBoundsBeginEnd_d044e) := goodIn_app (goodIn_of _ (by decide +kernel)) ggJ2_indexOfChar_4cfef_J2_checkBoundsBeginEnd_d044e
set_option maxRecDepth 20000 in
theorem ggJ2_indexOfChar_4cfef_J2_indexOfCharUnsafe_4cfef : GoodIn wsJ2_indexOfChar_4cfef wsJ2_indexOfCharUnsafe_4cfef := goodIn_r _ [19, 20, 21, 3, 22, 23, 24, 25, 5, 6, 7] (by decide +kernel) (by decide +kernel)
set_option maxRecDepth 20000 in
theorem gJ2_indexOfChar_4cfef_J2_indexOfCharUnsafe_4cfef : GoodIn wsJ2_indexOfChar_4cfef (va_wsS RJ2 244 yJ2_indexOfCharUnsafe_4cfef wsJ2_indexOfCharUnsafe_4cfef) := goodIn_app (goodIn_of _ (by decide +kernel)) ggJ2_indexOfChar_4cfef_J2_indexOfCharUnsafe_4cfef
theorem dJ2_indexOfChar_4cfef_0 : decode cJ2_indexOfChar_4cfef 0 = .ok (.iload_n 2, 1) := by decide +kernel
theorem dJ2_indexOfChar_4cfef_1 : decode cJ2_indexOfChar_4cfef 1 = .ok (.iload_n 3, 1) := by decide +kernel
theorem dJ2_indexOfChar_4cfef_2 : decode cJ2_indexOfChar_4cfef 2 = .ok (.aload_n 0, 1) := by decide +kernel
theorem dJ2_indexOfChar_4cfef_3 : decode cJ2_indexOfChar_4cfef 3 = .ok (.invokestatic 96, 3) := by decide +kernel
theorem dJ2_indexOfChar_4cfef_6 : decode cJ2_indexOfChar_4cfef 6 = .ok (.aload_n 0, 1) := by decide +kernel
theorem dJ2_indexOfChar_4cfef_7 : decode cJ2_indexOfChar_4cfef 7 = .ok (.iload_n 1, 1) := by decide +kernel
theorem dJ2_indexOfChar_4cfef_8 : decode cJ2_indexOfChar_4cfef 8 = .ok (.iload_n 2, 1) := by decide +kernel
theorem dJ2_indexOfChar_4cfef_9 : decode cJ2_indexOfChar_4cfef 9 = .ok (.iload_n 3, 1) := by decide +kernel
theorem dJ2_indexOfChar_4cfef_10 : decode cJ2_indexOfChar_4cfef 10 = .ok (.invokestatic 244, 3) := by decide +kernel
theorem dJ2_indexOfChar_4cfef_13 : decode cJ2_indexOfChar_4cfef 13 = .ok (.ireturn, 1) := by decide +kernel
set_option maxRecDepth 20000 in
theorem ggJ2_indexOfCharUnsafe_4cfef_J2_getChar_3b067 : GoodIn wsJ2_indexOfCharUnsafe_4cfef wsJ2_getChar_3b067 := goodIn_r _ [4, 5, 6, 7, 8, 9, 3, 10] (by decide +kernel) (by decide +kernel)
set_option maxRecDepth 20000 in
theorem gJ2_indexOfCharUnsafe_4cfef_J2_getChar_3b067 : GoodIn wsJ2_indexOfCharUnsafe_4cfef (va_wsS RJ2 71 yJ2_getChar_3b067 wsJ2_getChar_3b067) := goodIn_app (goodIn_of _ (by decide +kernel)) ggJ2_indexOfCharUnsafe_4cfef_J2_getChar_3b067
theorem dJ2_indexOfCharUnsafe_4cfef_0 : decode cJ2_indexOfCharUnsafe_4cfef 0 = .ok (.iload_n 2, 1) := by decide +kernel
theorem dJ2_indexOfCharUnsafe_4cfef_1 : decode cJ2_indexOfCharUnsafe_4cfef 1 = .ok (.istore 4, 2) := by decide +kernel
theorem dJ2_indexOfCharUnsafe_4cfef_3 : decode cJ2_indexOfCharUnsafe_4cfef 3 = .ok (.iload 4, 2) := by decide +kernel
theorem dJ2_indexOfCharUnsafe_4cfef_5 : decode cJ2_indexOfCharUnsafe_4cfef 5 = .ok (.iload_n 3, 1) := by decide +kernel
theorem dJ2_indexOfCharUnsafe_4cfef_6 : decode cJ2_indexOfCharUnsafe_4cfef 6 = .ok (.if_icmp .ge 22, 3) := by decide +kernel
theorem dJ2_indexOfCharUnsafe_4cfef_9 : decode cJ2_indexOfCharUnsafe_4cfef 9 = .ok (.aload_n 0, 1) := by decide +kernel
theorem dJ2_indexOfCharUnsafe_4cfef_10 : decode cJ2_indexOfCharUnsafe_4cfef 10 = .ok (.iload 4, 2) := by decide +kernel
theorem dJ2_indexOfCharUnsafe_4cfef_12 : decode cJ2_indexOfCharUnsafe_4cfef 12 = .ok (.invokestatic 71, 3) := by decide +kernel
theorem dJ2_indexOfCharUnsafe_4cfef_15 : decode cJ2_indexOfCharUnsafe_4cfef 15 = .ok (.iload_n 1, 1) := by decide +kernel
theorem dJ2_indexOfCharUnsafe_4cfef_16 : decode cJ2_indexOfCharUnsafe_4cfef 16 = .ok (.if_icmp .ne 6, 3) := by decide +kernel
theorem dJ2_indexOfCharUnsafe_4cfef_19 : decode cJ2_indexOfCharUnsafe_4cfef 19 = .ok (.iload 4, 2) := by decide +kernel
theorem dJ2_indexOfCharUnsafe_4cfef_21 : decode cJ2_indexOfCharUnsafe_4cfef 21 = .ok (.ireturn, 1) := by decide +kernel
theorem dJ2_indexOfCharUnsafe_4cfef_22 : decode cJ2_indexOfCharUnsafe_4cfef 22 = .ok (.iinc 4 1, 3) := by decide +kernel
theorem dJ2_indexOfCharUnsafe_4cfef_25 : decode cJ2_indexOfCharUnsafe_4cfef 25 = .ok (.goto (-22), 3) := by decide +kernel
theorem dJ2_indexOfCharUnsafe_4cfef_28 : decode cJ2_indexOfCharUnsafe_4cfef 28 = .ok (.iconst (-1), 1) := by decide +kernel
theorem dJ2_indexOfCharUnsafe_4cfef_29 : decode cJ2_indexOfCharUnsafe_4cfef 29 = .ok (.ireturn, 1) := by decide +kernel
set_option maxRecDepth 20000 in
theorem ggJ2_indexOfSupplementary_4cfef_J11_isValidCodePoint_9a6ad : GoodIn wsJ2_indexOfSupplementary_4cfef wsJ11_isValidCodePoint_9a6ad := goodIn_r _ [4] (by decide +kernel) (by decide +kernel)
set_option maxRecDepth 20000 in
theorem gJ2_indexOfSupplementary_4cfef_J11_isValidCodePoint_9a6ad : GoodIn wsJ2_indexOfSupplementary_4cfef (va_wsS RJ2 164 yJ11_isValidCodePoint_9a6ad wsJ11_isValidCodePoint_9a6ad) := goodIn_app (goodIn_of _ (by decide +kernel)) ggJ2_indexOfSupplementary_4cfef_J11_isValidCodePoint_9a6ad
set_option maxRecDepth 20000 in
theorem ggJ2_indexOfSupplementary_4cfef_J11_highSurrogate_5068e : GoodIn wsJ2_indexOfSupplementary_4cfef wsJ11_highSurrogate_5068e := goodIn_r _ [7, 8] (by decide +kernel) (by decide +kernel)
set_option maxRecDepth 20000 in
theorem gJ2_indexOfSupplementary_4cfef_J11_highSurrogate_5068e : GoodIn wsJ2_indexOfSupplementary_4cfef (va_wsS RJ2 157 yJ11_highSurrogate_5068e wsJ11_highSurrogate_5068e) := goodIn_app (goodIn_of _ (by decide +kernel)) ggJ2_indexOfSupplementary_4cfef_J11_highSurrogate_5068e
set_option maxRecDepth 20000 in
theorem ggJ2_indexOfSupplementary_4cfef_J11_lowSurrogate_5068e : GoodIn wsJ2_indexOfSupplementary_4cfef wsJ11_lowSurrogate_5068e := goodIn_r _ [11, 12] (by decide +kernel) (by decide +kernel)
set_option maxRecDepth 20000 in
theorem gJ2_indexOfSupplementary_4cfef_J11_lowSurrogate_5068e : GoodIn wsJ2_indexOfSupplementary_4cfef (va_wsS RJ2 161 yJ11_lowSurrogate_5068e wsJ11_lowSurrogate_5068e) := goodIn_app (goodIn_of _ (by decide +kernel)) ggJ2_indexOfSupplementary_4cfef_J11_lowSurrogate_5068e
set_option maxRecDepth 20000 in
theorem ggJ2_indexOfSupplementary_4cfef_J2_checkBoundsBeginEnd_d044e : GoodIn wsJ2_indexOfSupplementary_4cfef wsJ2_checkBoundsBeginEnd_d044e := goodIn_r _ [16, 17, 18, 15, 19, 20, 21, 22, 23, 24, 25, 26, 27, 28] (by decide +kernel) (by decide +kernel)
set_option maxRecDepth 20000 in
theorem gJ2_indexOfSupplementary_4cfef_J2_checkBoundsBeginEnd_d044e : GoodIn wsJ2_indexOfSupplementary_4cfef (va_wsS RJ2 96 yJ2_checkBoundsBeginEnd_d044e wsJ2_checkBoundsBeginEnd_d044e) := goodIn_app (goodIn_of _ (by decide +kernel)) ggJ2_indexOfSupplementary_4cfef_J2_checkBoundsBeginEnd_d044e
set_option maxRecDepth 20000 in
theorem ggJ2_indexOfSupplementary_4cfef_J2_getChar_3b067 : GoodIn wsJ2_indexOfSupplementary_4cfef wsJ2_getChar_3b067 := goodIn_r _ [31, 32, 33, 34, 17, 18, 15, 19] (by decide +kernel) (by decide +kernel)
set_option maxRecDepth 20000 in
theorem gJ2_indexOfSupplementary_4cfef_J2_getChar_3b067 : GoodIn wsJ2_indexOfSupplementary_4cfef (va_wsS RJ2 71 yJ2_getChar_3b067 wsJ2_getChar_3b067) := goodIn_app (goodIn_of _ (by decide +kernel)) ggJ2_indexOfSupplementary_4cfef_J2_getChar_3b067
theorem dJ2_indexOfSupplementary_4cfef_0 : decode cJ2_indexOfSupplementary_4cfef 0 = .ok (.iload_n 1, 1) := by decide +kernel
theorem dJ2_indexOfSupplementary_4cfef_1 : decode cJ2_indexOfSupplementary_4cfef 1 = .ok (.invokestatic 164, 3) := by decide +kernel
theorem dJ2_indexOfSupplementary_4cfef_4 : decode cJ2_indexOfSupplementary_4cfef 4 = .ok (.ifCond .eq 65, 3) := by decide +kernel
theorem dJ2_indexOfSupplementary_4cfef_7 : decode cJ2_indexOfSupplementary_4cfef 7 = .ok (.iload_n 1, 1) := by decide +kernel
theorem dJ2_indexOfSupplementary_4cfef_8 : decode cJ2_indexOfSupplementary_4cfef 8 = .ok (.invokestatic 157, 3) := by decide +kernel
theorem dJ2_indexOfSupplementary_4cfef_11 : decode cJ2_indexOfSupplementary_4cfef 11 = .ok (.istore 4, 2) := by decide +kernel
theorem dJ2_indexOfSupplementary_4cfef_13 : decode cJ2_indexOfSupplementary_4cfef 13 = .ok (.iload_n 1, 1) := by decide +kernel
theorem dJ2_indexOfSupplementary_4cfef_14 : decode cJ2_indexOfSupplementary_4cfef 14 = .ok (.invokestatic 161, 3) := by decide +kernel
theorem dJ2_indexOfSupplementary_4cfef_17 : decode cJ2_indexOfSupplementary_4cfef 17 = .ok (.istore 5, 2) := by decide +kernel
theorem dJ2_indexOfSupplementary_4cfef_19 : decode cJ2_indexOfSupplementary_4cfef 19 = .ok (.iload_n 2, 1) := by decide +kernel
theorem dJ2_indexOfSupplementary_4cfef_20 : decode cJ2_indexOfSupplementary_4cfef 20 = .ok (.iload_n 3, 1) := by decide +kernel
theorem dJ2_indexOfSupplementary_4cfef_21 : decode cJ2_indexOfSupplementary_4cfef 21 = .ok (.aload_n 0, 1) := by decide +kernel
theorem dJ2_indexOfSupplementary_4cfef_22 : decode cJ2_indexOfSupplementary_4cfef 22 = .ok (.invokestatic 96, 3) := by decide +kernel
theorem dJ2_indexOfSupplementary_4cfef_25 : decode cJ2_indexOfSupplementary_4cfef 25 = .ok (.iload_n 2, 1) := by decide +kernel
theorem dJ2_indexOfSupplementary_4cfef_26 : decode cJ2_indexOfSupplementary_4cfef 26 = .ok (.istore 6, 2) := by decide +kernel
theorem dJ2_indexOfSupplementary_4cfef_28 : decode cJ2_indexOfSupplementary_4cfef 28 = .ok (.iload 6, 2) := by decide +kernel
theorem dJ2_indexOfSupplementary_4cfef_30 : decode cJ2_indexOfSupplementary_4cfef 30 = .ok (.iload_n 3, 1) := by decide +kernel
theorem dJ2_indexOfSupplementary_4cfef_31 : decode cJ2_indexOfSupplementary_4cfef 31 = .ok (.iconst 1, 1) := by decide +kernel
theorem dJ2_indexOfSupplementary_4cfef_32 : decode cJ2_indexOfSupplementary_4cfef 32 = .ok (.isub, 1) := by decide +kernel
theorem dJ2_indexOfSupplementary_4cfef_33 : decode cJ2_indexOfSupplementary_4cfef 33 = .ok (.if_icmp .ge 36, 3) := by decide +kernel
theorem dJ2_indexOfSupplementary_4cfef_36 : decode cJ2_indexOfSupplementary_4cfef 36 = .ok (.aload_n 0, 1) := by decide +kernel
theorem dJ2_indexOfSupplementary_4cfef_37 : decode cJ2_indexOfSupplementary_4cfef 37 = .ok (.iload 6, 2) := by decide +kernel
theorem dJ2_indexOfSupplementary_4cfef_39 : decode cJ2_indexOfSupplementary_4cfef 39 = .ok (.invokestatic 71, 3) := by decide +kernel
theorem dJ2_indexOfSupplementary_4cfef_42 : decode cJ2_indexOfSupplementary_4cfef 42 = .ok (.iload 4, 2) := by decide +kernel
theorem dJ2_indexOfSupplementary_4cfef_44 : decode cJ2_indexOfSupplementary_4cfef 44 = .ok (.if_icmp .ne 19, 3) := by decide +kernel
theorem dJ2_indexOfSupplementary_4cfef_47 : decode cJ2_indexOfSupplementary_4cfef 47 = .ok (.aload_n 0, 1) := by decide +kernel
theorem dJ2_indexOfSupplementary_4cfef_48 : decode cJ2_indexOfSupplementary_4cfef 48 = .ok (.iload 6, 2) := by decide +kernel
theorem dJ2_indexOfSupplementary_4cfef_50 : decode cJ2_indexOfSupplementary_4cfef 50 = .ok (.iconst 1, 1) := by decide +kernel
theorem dJ2_indexOfSupplementary_4cfef_51 : decode cJ2_indexOfSupplementary_4cfef 51 = .ok (.iadd, 1) := by decide +kernel
theorem dJ2_indexOfSupplementary_4cfef_52 : decode cJ2_indexOfSupplementary_4cfef 52 = .ok (.invokestatic 71, 3) := by decide +kernel
theorem dJ2_indexOfSupplementary_4cfef_55 : decode cJ2_indexOfSupplementary_4cfef 55 = .ok (.iload 5, 2) := by decide +kernel
theorem dJ2_indexOfSupplementary_4cfef_57 : decode cJ2_indexOfSupplementary_4cfef 57 = .ok (.if_icmp .ne 6, 3) := by decide +kernel
theorem dJ2_indexOfSupplementary_4cfef_60 : decode cJ2_indexOfSupplementary_4cfef 60 = .ok (.iload 6, 2) := by decide +kernel
theorem dJ2_indexOfSupplementary_4cfef_62 : decode cJ2_indexOfSupplementary_4cfef 62 = .ok (.ireturn, 1) := by decide +kernel
theorem dJ2_indexOfSupplementary_4cfef_63 : decode cJ2_indexOfSupplementary_4cfef 63 = .ok (.iinc 6 1, 3) := by decide +kernel
theorem dJ2_indexOfSupplementary_4cfef_66 : decode cJ2_indexOfSupplementary_4cfef 66 = .ok (.goto (-38), 3) := by decide +kernel
theorem dJ2_indexOfSupplementary_4cfef_69 : decode cJ2_indexOfSupplementary_4cfef 69 = .ok (.iconst (-1), 1) := by decide +kernel
theorem dJ2_indexOfSupplementary_4cfef_70 : decode cJ2_indexOfSupplementary_4cfef 70 = .ok (.ireturn, 1) := by decide +kernel
set_option maxRecDepth 20000 in
theorem ggJ2_checkBoundsBeginEnd_d044e_J2_length_9d52b : GoodIn wsJ2_checkBoundsBeginEnd_d044e wsJ2_length_9d52b := goodIn_r _ [4] (by decide +kernel) (by decide +kernel)
set_option maxRecDepth 20000 in
theorem gJ2_checkBoundsBeginEnd_d044e_J2_length_9d52b : GoodIn wsJ2_checkBoundsBeginEnd_d044e (va_wsS RJ2 48 yJ2_length_9d52b wsJ2_length_9d52b) := goodIn_app (goodIn_of _ (by decide +kernel)) ggJ2_checkBoundsBeginEnd_d044e_J2_length_9d52b
set_option maxRecDepth 20000 in
theorem ggJ2_checkBoundsBeginEnd_d044e_J0_checkBoundsBeginEnd_23922 : GoodIn wsJ2_checkBoundsBeginEnd_d044e wsJ0_checkBoundsBeginEnd_23922 := goodIn_r _ [8, 9, 10, 11, 12, 13] (by decide +kernel) (by decide +kernel)
set_option maxRecDepth 20000 in
theorem gJ2_checkBoundsBeginEnd_d044e_J0_checkBoundsBeginEnd_23922 : GoodIn wsJ2_checkBoundsBeginEnd_d044e (va_wsS RJ2 241 yJ0_checkBoundsBeginEnd_23922 wsJ0_checkBoundsBeginEnd_23922) := goodIn_app (goodIn_of _ (by decide +kernel)) ggJ2_checkBoundsBeginEnd_d044e_J0_checkBoundsBeginEnd_23922
theorem dJ2_checkBoundsBeginEnd_d044e_0 : decode cJ2_checkBoundsBeginEnd_d044e 0 = .ok (.iload_n 0, 1) := by decide +kernel
theorem dJ2_checkBoundsBeginEnd_d044e_1 : decode cJ2_checkBoundsBeginEnd_d044e 1 = .ok (.iload_n 1, 1) := by decide +kernel
theorem dJ2_checkBoundsBeginEnd_d044e_2 : decode cJ2_checkBoundsBeginEnd_d044e 2 = .ok (.aload_n 2, 1) := by decide +kernel
theorem dJ2_checkBoundsBeginEnd_d044e_3 : decode cJ2_checkBoundsBeginEnd_d044e 3 = .ok (.invokestatic 48, 3) := by decide +kernel
theorem dJ2_checkBoundsBeginEnd_d044e_6 : decode cJ2_checkBoundsBeginEnd_d044e 6 = .ok (.invokestatic 241, 3) := by decide +kernel
theorem dJ2_checkBoundsBeginEnd_d044e_9 : decode cJ2_checkBoundsBeginEnd_d044e 9 = .ok (.return_, 1) := by decide +kernel
theorem dJ3_checkFromToIndex_8c36e_0 : decode cJ3_checkFromToIndex_8c36e 0 = .ok (.iload_n 0, 1) := by decide +kernel
theorem dJ3_checkFromToIndex_8c36e_1 : decode cJ3_checkFromToIndex_8c36e 1 = .ok (.ifCond .lt 13, 3) := by decide +kernel
theorem dJ3_checkFromToIndex_8c36e_4 : decode cJ3_checkFromToIndex_8c36e 4 = .ok (.iload_n 0, 1) := by decide +kernel
theorem dJ3_checkFromToIndex_8c36e_5 : decode cJ3_checkFromToIndex_8c36e 5 = .ok (.iload_n 1, 1) := by decide +kernel
theorem dJ3_checkFromToIndex_8c36e_6 : decode cJ3_checkFromToIndex_8c36e 6 = .ok (.if_icmp .gt 8, 3) := by decide +kernel
theorem dJ3_checkFromToIndex_8c36e_9 : decode cJ3_checkFromToIndex_8c36e 9 = .ok (.iload_n 1, 1) := by decide +kernel
theorem dJ3_checkFromToIndex_8c36e_10 : decode cJ3_checkFromToIndex_8c36e 10 = .ok (.iload_n 2, 1) := by decide +kernel
theorem dJ3_checkFromToIndex_8c36e_11 : decode cJ3_checkFromToIndex_8c36e 11 = .ok (.if_icmp .le 11, 3) := by decide +kernel
theorem dJ3_checkFromToIndex_8c36e_14 : decode cJ3_checkFromToIndex_8c36e 14 = .ok (.aload_n 3, 1) := by decide +kernel
theorem dJ3_checkFromToIndex_8c36e_15 : decode cJ3_checkFromToIndex_8c36e 15 = .ok (.iload_n 0, 1) := by decide +kernel
theorem dJ3_checkFromToIndex_8c36e_16 : decode cJ3_checkFromToIndex_8c36e 16 = .ok (.iload_n 1, 1) := by decide +kernel
theorem dJ3_checkFromToIndex_8c36e_17 : decode cJ3_checkFromToIndex_8c36e 17 = .ok (.iload_n 2, 1) := by decide +kernel
theorem dJ3_checkFromToIndex_8c36e_18 : decode cJ3_checkFromToIndex_8c36e 18 = .ok (.invokestatic 99, 3) := by decide +kernel
theorem dJ3_checkFromToIndex_8c36e_21 : decode cJ3_checkFromToIndex_8c36e 21 = .ok (.athrow, 1) := by decide +kernel
theorem dJ3_checkFromToIndex_8c36e_22 : decode cJ3_checkFromToIndex_8c36e 22 = .ok (.iload_n 0, 1) := by decide +kernel
theorem dJ3_checkFromToIndex_8c36e_23 : decode cJ3_checkFromToIndex_8c36e 23 = .ok (.ireturn, 1) := by decide +kernel
set_option maxRecDepth 20000 in
theorem ggL_law_X9_init : GoodIn wsL_law wsX9_init := goodIn_r _ [8, 9, 10, 11, 12, 13, 14, 15, 16, 17, 18, 19, 20, 21, 22, 23, 24, 25, 26, 27, 28, 29, 30, 31, 32, 33, 34, 35, 36, 37, 38, 39, 40, 41, 42, 43, 44, 45, 46, 47, 48, 49, 50, 51, 52, 53, 54, 55, 56, 57, 58, 59, 60, 61, 62, 63, 64, 65, 66, 67, 68, 69, 70, 71, 72, 73, 74, 75, 76, 77, 78, 79, 80, 81, 82, 83, 84, 85, 86, 87, 88, 828, 829, 791, 792, 793, 794, 795, 796, 797, 798, 799, 800, 801, 830, 831, 832, 833, 834, 835, 836, 837, 838, 839, 840, 841, 842, 843, 844, 845, 846, 847, 848, 849] (by decide +kernel) (by decide +kernel)
set_option maxRecDepth 20000 in
theorem gL_law_X9_init : GoodIn wsL_law (wsX9_init) := ggL_law_X9_init
set_option maxRecDepth 20000 in
theorem ggL_law_X10_init : GoodIn wsL_law wsX10_init := goodIn_r _ [91, 92, 10, 11, 21, 93, 94, 95, 96, 97, 98, 99, 100, 101, 102, 103, 104, 802, 803, 804, 805, 806, 807, 808, 809, 810, 811, 812, 813, 814, 815, 816, 817, 818, 819, 820, 821, 822, 823, 824, 825, 826, 827] (by decide +kernel) (by decide +kernel)
set_option maxRecDepth 20000 in
theorem gL_law_X10_init : GoodIn wsL_law (wsX10_init) := ggL_law_X10_init
set_option maxRecDepth 20000 in
theorem ggL_law_X9_letter : GoodIn wsL_law wsX9_letter := goodIn_r _ [108, 15, 109, 110, 111, 14, 112, 113, 36, 791, 792, 793, 794, 795, 796, 797, 798, 799, 800, 801, 828, 829] (by decide +kernel) (by decide +kernel)
set_option maxRecDepth 20000 in
theorem gL_law_X9_letter : GoodIn wsL_law (wsV RL 13 RX9 yX9_letter wsX9_letter) := goodIn_app (goodIn_of _ (by decide +kernel)) ggL_law_X9_letter
set_option maxRecDepth 20000 in
theorem ggL_law_X10_letter : GoodIn wsL_law wsX10_letter := goodIn_r _ [117, 118, 119, 93, 120, 121, 5, 122, 802, 803, 804, 805, 806, 807, 808, 809, 810, 811, 812, 813, 814, 815, 816, 817, 818, 819, 820, 821, 822, 823, 824, 825, 826, 827] (by decide +kernel) (by decide +kernel)
set_option maxRecDepth 20000 in
theorem gL_law_X10_letter : GoodIn wsL_law (wsV RL 17 RX10 yX10_letter wsX10_letter) := goodIn_app (goodIn_of _ (by decide +kernel)) ggL_law_X10_letter
set_option maxRecDepth 20000 in
theorem ggL_law_X9_blank : GoodIn wsL_law wsX9_blank := goodIn_r _ [126, 15, 127, 128, 129, 14, 130, 113, 791, 792, 793, 794, 795, 796, 797, 798, 799, 800, 801, 828, 829] (by decide +kernel) (by decide +kernel)
set_option maxRecDepth 20000 in
theorem gL_law_X9_blank : GoodIn wsL_law (wsV RL 18 RX9 yX9_blank wsX9_blank) := goodIn_app (goodIn_of _ (by decide +kernel)) ggL_law_X9_blank
set_option maxRecDepth 20000 in
theorem ggL_law_X10_blank : GoodIn wsL_law wsX10_blank := goodIn_r _ [134, 119, 802, 803, 804, 805, 806, 807, 808, 809, 810, 811, 812, 813, 814, 815, 816, 817, 818, 819, 820, 821, 822, 823, 824, 825, 826, 827] (by decide +kernel) (by decide +kernel)
set_option maxRecDepth 20000 in
theorem gL_law_X10_blank : GoodIn wsL_law (wsV RL 22 RX10 yX10_blank wsX10_blank) := goodIn_app (goodIn_of _ (by decide +kernel)) ggL_law_X10_blank
set_option maxRecDepth 20000 in
theorem ggL_law_X9_fault : GoodIn wsL_law wsX9_fault := goodIn_r _ [138, 15, 139, 140, 141, 14, 142, 113, 143, 144, 145, 146, 36, 147, 148, 149, 150, 151, 152, 153, 154, 155, 156, 157, 158, 159, 160, 161, 162, 163, 164, 165, 166, 167, 168, 169, 170, 171, 172, 173, 174, 175, 176, 177, 178, 179, 180, 181, 182, 183, 184, 185, 186, 187, 188, 189, 190, 191, 192, 193, 194, 195, 196, 197, 198, 199, 200, 201, 202, 203, 204, 205, 206, 207, 208, 209, 210, 211, 212, 213, 214, 215, 216, 217, 218, 219, 220, 221, 222, 223, 224, 225, 226, 227, 228, 229, 230, 231, 232, 233, 234, 235, 236, 237, 238, 239, 240, 241, 242, 243, 244, 791, 792, 793, 794, 795, 796, 797, 798, 799, 800, 801, 828, 829] (by decide +kernel) (by decide +kernel)
set_option maxRecDepth 20000 in
theorem gL_law_X9_fault : GoodIn wsL_law (wsV RL 23 RX9 yX9_fault wsX9_fault) := goodIn_app (goodIn_of _ (by decide +kernel)) ggL_law_X9_fault
set_option maxRecDepth 20000 in
theorem ggL_law_X10_fault : GoodIn wsL_law wsX10_fault := goodIn_r _ [248, 249, 250, 251, 5, 252, 253, 254, 255, 119, 93, 256, 257, 258, 259, 94, 260, 261, 95, 262, 263, 264, 120, 121, 122, 802, 803, 804, 805, 806, 807, 808, 809, 810, 811, 812, 813, 814, 815, 816, 817, 818, 819, 820, 821, 822, 823, 824, 825, 826, 827] (by decide +kernel) (by decide +kernel)
set_option maxRecDepth 20000 in
theorem gL_law_X10_fault : GoodIn wsL_law (wsV RL 26 RX10 yX10_fault wsX10_fault) := goodIn_app (goodIn_of _ (by decide +kernel)) ggL_law_X10_fault
set_option maxRecDepth 20000 in
theorem ggL_law_X9_town : GoodIn wsL_law wsX9_town := goodIn_r _ [268, 15, 30, 19, 269, 270, 271, 272, 273, 14, 274, 113, 275, 140, 141, 142, 143, 144, 145, 146, 36, 147, 148, 149, 150, 151, 152, 153, 154, 155, 156, 157, 158, 159, 160, 161, 162, 163, 164, 165, 166, 167, 168, 169, 170, 171, 172, 173, 174, 175, 176, 177, 178, 179, 180, 181, 182, 183, 184, 185, 186, 187, 188, 189, 190, 191, 192, 193, 194, 195, 196, 197, 198, 199, 200, 201, 202, 203, 204, 205, 206, 207, 208, 209, 210, 211, 212, 213, 214, 215, 216, 217, 218, 219, 220, 221, 222, 223, 224, 225, 226, 227, 228, 229, 230, 231, 232, 233, 234, 235, 236, 237, 238, 239, 240, 241, 242, 243, 244, 276, 277, 278, 279, 280, 281, 282, 29, 283, 284, 285, 286, 287, 288, 87, 289, 290, 291, 292, 293, 82, 83, 84, 85, 86, 294, 295, 296, 297, 298, 299, 300, 301, 302, 303, 304, 305, 306, 307, 308, 18, 309, 310, 127, 128, 129, 130, 791, 792, 793, 794, 795, 796, 797, 798, 799, 800, 801, 840, 841, 842, 843, 844, 845, 846, 847, 848, 849, 828, 829, 830, 831, 832, 833, 834] (by decide +kernel) (by decide +kernel)
set_option maxRecDepth 20000 in
theorem gL_law_X9_town : GoodIn wsL_law (wsV RL 27 RX9 yX9_town wsX9_town) := goodIn_app (goodIn_of _ (by decide +kernel)) ggL_law_X9_town
set_option maxRecDepth 20000 in
theorem ggL_law_X10_town : GoodIn wsL_law wsX10_town := goodIn_r _ [314, 119, 255, 254, 253, 315, 316, 95, 97, 96, 94, 317, 318, 319, 249, 250, 251, 5, 252, 93, 256, 257, 258, 259, 260, 261, 262, 263, 264, 120, 121, 122, 320, 321, 322, 802, 803, 804, 805, 806, 807, 808, 809, 810, 811, 812, 813, 814, 815, 816, 817, 818, 819, 820, 821, 822, 823, 824, 825, 826, 827] (by decide +kernel) (by decide +kernel)
set_option maxRecDepth 20000 in
theorem gL_law_X10_town : GoodIn wsL_law (wsV RL 30 RX10 yX10_town wsX10_town) := goodIn_app (goodIn_of _ (by decide +kernel)) ggL_law_X10_town
set_option maxRecDepth 20000 in
theorem ggL_law_X9_singer : GoodIn wsL_law wsX9_singer := goodIn_r _ [326, 30, 327, 295, 296, 29, 297, 285, 328, 329, 330, 331, 88, 82, 294, 332, 333, 334, 26, 335, 54, 58, 62, 66, 50, 336, 337, 338, 339, 340, 57, 341, 342, 343, 344, 65, 345, 346, 347, 61, 348, 349, 350, 351, 49, 352, 353, 53, 354, 355, 356, 357, 358, 287, 359, 360, 361, 362, 363, 364, 365, 366, 87, 367, 368, 369, 370, 371, 372, 373, 374, 83, 84, 85, 86, 286, 182, 183, 184, 375, 376, 377, 378, 379, 380, 381, 382, 383, 384, 385, 386, 387, 388, 389, 390, 391, 392, 393, 394, 395, 396, 397, 398, 399, 400, 401, 402, 403, 404, 405, 406, 407, 408, 409, 410, 411, 2, 412, 32, 413, 414, 415, 416, 288, 417, 418, 419, 186, 187, 420, 421, 422, 423, 424, 425, 426, 427, 428, 429, 430, 431, 432, 433, 434, 435, 436, 437, 438, 439, 440, 791, 792, 793, 794, 795, 796, 797, 798, 799, 800, 801, 840, 841, 842, 843, 844, 845, 846, 847, 848, 849, 835, 836, 837, 838, 839] (by decide +kernel) (by decide +kernel)
set_option maxRecDepth 20000 in
theorem gL_law_X9_singer : GoodIn wsL_law (wsV RL 31 RX9 yX9_singer wsX9_singer) := goodIn_app (goodIn_of _ (by decide +kernel)) ggL_law_X9_singer
set_option maxRecDepth 20000 in
theorem ggL_law_X10_singer : GoodIn wsL_law wsX10_singer := goodIn_r _ [444, 445, 446, 447, 5, 448, 315, 120, 121, 122, 449, 450, 451, 452, 453, 454, 96, 455, 456, 457, 458, 459, 460, 461, 462, 463, 464, 316, 465, 466, 467, 468, 97, 469, 470, 471, 472, 802, 803, 804, 805, 806, 807, 808, 809, 810, 811, 812, 813, 814, 815, 816, 817, 818, 819, 820, 821, 822, 823, 824, 825, 826, 827] (by decide +kernel) (by decide +kernel)
set_option maxRecDepth 20000 in
theorem gL_law_X10_singer : GoodIn wsL_law (wsV RL 35 RX10 yX10_singer wsX10_singer) := goodIn_app (goodIn_of _ (by decide +kernel)) ggL_law_X10_singer
set_option maxRecDepth 20000 in
theorem ggL_law_X9_as : GoodIn wsL_law wsX9_as := goodIn_r _ [476, 30, 327, 295, 296, 29, 297, 285, 328, 329, 330, 331, 88, 82, 294, 332, 333, 334, 26, 335, 54, 58, 62, 66, 50, 477, 478, 2, 479, 480, 481, 482, 483, 791, 792, 793, 794, 795, 796, 797, 798, 799, 800, 801, 840, 841, 842, 843, 844, 845, 846, 847, 848, 849, 835, 836, 837, 838, 839] (by decide +kernel) (by decide +kernel)
set_option maxRecDepth 20000 in
theorem gL_law_X9_as : GoodIn wsL_law (wsV RL 36 RX9 yX9_as wsX9_as) := goodIn_app (goodIn_of _ (by decide +kernel)) ggL_law_X9_as
set_option maxRecDepth 20000 in
theorem ggL_law_X10_as : GoodIn wsL_law wsX10_as := goodIn_r _ [487, 488, 96, 445, 446, 447, 5, 448, 315, 120, 121, 122, 802, 803, 804, 805, 806, 807, 808, 809, 810, 811, 812, 813, 814, 815, 816, 817, 818, 819, 820, 821, 822, 823, 824, 825, 826, 827] (by decide +kernel) (by decide +kernel)
set_option maxRecDepth 20000 in
theorem gL_law_X10_as : GoodIn wsL_law (wsV RL 39 RX10 yX10_as wsX10_as) := goodIn_app (goodIn_of _ (by decide +kernel)) ggL_law_X10_as
set_option maxRecDepth 20000 in
theorem ggL_law_X9_widow : GoodIn wsL_law wsX9_widow := goodIn_r _ [492, 30, 493, 368, 369, 29, 370, 287, 494, 364, 365, 366, 87, 367, 495, 360, 361, 362, 285, 363, 371, 372, 373, 374, 88, 82, 83, 84, 85, 86, 286, 182, 183, 184, 294, 295, 296, 297, 375, 376, 377, 332, 333, 334, 26, 335, 54, 58, 62, 66, 50, 378, 379, 380, 381, 382, 57, 383, 384, 385, 386, 65, 387, 388, 389, 61, 390, 391, 392, 393, 49, 394, 395, 53, 396, 440, 496, 497, 498, 2, 499, 19, 500, 501, 502, 18, 503, 310, 41, 42, 40, 43, 504, 505, 506, 507, 508, 509, 510, 511, 512, 513, 514, 515, 516, 517, 518, 519, 520, 791, 792, 793, 794, 795, 796, 797, 798, 799, 800, 801, 840, 841, 842, 843, 844, 845, 846, 847, 848, 849, 835, 836, 837, 838, 839, 830, 831, 832, 833, 834] (by decide +kernel) (by decide +kernel)
set_option maxRecDepth 20000 in
theorem gL_law_X9_widow : GoodIn wsL_law (wsV RL 40 RX9 yX9_widow wsX9_widow) := goodIn_app (goodIn_of _ (by decide +kernel)) ggL_law_X9_widow
set_option maxRecDepth 20000 in
theorem ggL_law_X10_widow : GoodIn wsL_law wsX10_widow := goodIn_r _ [524, 525, 526, 527, 5, 528, 316, 120, 121, 122, 529, 530, 531, 532, 97, 465, 466, 467, 468, 315, 457, 458, 459, 460, 96, 533, 534, 535, 536, 318, 100, 537, 538, 539, 540, 541, 542, 543, 544, 445, 446, 447, 448, 802, 803, 804, 805, 806, 807, 808, 809, 810, 811, 812, 813, 814, 815, 816, 817, 818, 819, 820, 821, 822, 823, 824, 825, 826, 827] (by decide +kernel) (by decide +kernel)
set_option maxRecDepth 20000 in
theorem gL_law_X10_widow : GoodIn wsL_law (wsV RL 43 RX10 yX10_widow wsX10_widow) := goodIn_app (goodIn_of _ (by decide +kernel)) ggL_law_X10_widow
set_option maxRecDepth 20000 in
theorem ggL_law_X9_wince : GoodIn wsL_law wsX9_wince := goodIn_r _ [548, 30, 493, 368, 369, 29, 370, 287, 327, 295, 296, 297, 285, 494, 364, 365, 366, 87, 367, 440, 372, 373, 374, 88, 82, 83, 84, 85, 86, 286, 182, 183, 184, 294, 375, 376, 377, 332, 333, 334, 26, 335, 54, 58, 62, 66, 50, 378, 379, 380, 381, 382, 57, 383, 384, 385, 386, 65, 387, 388, 389, 61, 390, 391, 392, 393, 49, 394, 395, 53, 396, 791, 792, 793, 794, 795, 796, 797, 798, 799, 800, 801, 840, 841, 842, 843, 844, 845, 846, 847, 848, 849, 835, 836, 837, 838, 839] (by decide +kernel) (by decide +kernel)
set_option maxRecDepth 20000 in
theorem gL_law_X9_wince : GoodIn wsL_law (wsV RL 44 RX9 yX9_wince wsX9_wince) := goodIn_app (goodIn_of _ (by decide +kernel)) ggL_law_X9_wince
set_option maxRecDepth 20000 in
theorem ggL_law_X10_wince : GoodIn wsL_law wsX10_wince := goodIn_r _ [552, 97, 525, 526, 527, 5, 528, 316, 120, 121, 122, 445, 446, 447, 448, 315, 457, 458, 459, 460, 96, 802, 803, 804, 805, 806, 807, 808, 809, 810, 811, 812, 813, 814, 815, 816, 817, 818, 819, 820, 821, 822, 823, 824, 825, 826, 827] (by decide +kernel) (by decide +kernel)
set_option maxRecDepth 20000 in
theorem gL_law_X10_wince : GoodIn wsL_law (wsV RL 47 RX10 yX10_wince wsX10_wince) := goodIn_app (goodIn_of _ (by decide +kernel)) ggL_law_X10_wince
set_option maxRecDepth 20000 in
theorem ggL_law_X9_cold : GoodIn wsL_law wsX9_cold := goodIn_r _ [556, 30, 327, 295, 296, 29, 297, 285, 397, 398, 399, 400, 84, 294, 424, 425, 426, 427, 791, 792, 793, 794, 795, 796, 797, 798, 799, 800, 801, 840, 841, 842, 843, 844, 845, 846, 847, 848, 849] (by decide +kernel) (by decide +kernel)
set_option maxRecDepth 20000 in
theorem gL_law_X9_cold : GoodIn wsL_law (wsV RL 48 RX9 yX9_cold wsX9_cold) := goodIn_app (goodIn_of _ (by decide +kernel)) ggL_law_X9_cold
set_option maxRecDepth 20000 in
theorem ggL_law_X10_cold : GoodIn wsL_law wsX10_cold := goodIn_r _ [560, 96, 445, 446, 447, 5, 448, 315, 120, 121, 122, 802, 803, 804, 805, 806, 807, 808, 809, 810, 811, 812, 813, 814, 815, 816, 817, 818, 819, 820, 821, 822, 823, 824, 825, 826, 827] (by decide +kernel) (by decide +kernel)
set_option maxRecDepth 20000 in
theorem gL_law_X10_cold : GoodIn wsL_law (wsV RL 52 RX10 yX10_cold wsX10_cold) := goodIn_app (goodIn_of _ (by decide +kernel)) ggL_law_X10_cold
set_option maxRecDepth 20000 in
theorem ggL_law_X9_aisle : GoodIn wsL_law wsX9_aisle := goodIn_r _ [564, 30, 327, 295, 296, 29, 297, 285, 401, 402, 403, 404, 85, 294, 428, 429, 430, 431, 791, 792, 793, 794, 795, 796, 797, 798, 799, 800, 801, 840, 841, 842, 843, 844, 845, 846, 847, 848, 849] (by decide +kernel) (by decide +kernel)
set_option maxRecDepth 20000 in
theorem gL_law_X9_aisle : GoodIn wsL_law (wsV RL 53 RX9 yX9_aisle wsX9_aisle) := goodIn_app (goodIn_of _ (by decide +kernel)) ggL_law_X9_aisle
set_option maxRecDepth 20000 in
theorem ggL_law_X10_aisle : GoodIn wsL_law wsX10_aisle := goodIn_r _ [568, 96, 445, 446, 447, 5, 448, 315, 120, 121, 122, 802, 803, 804, 805, 806, 807, 808, 809, 810, 811, 812, 813, 814, 815, 816, 817, 818, 819, 820, 821, 822, 823, 824, 825, 826, 827] (by decide +kernel) (by decide +kernel)
set_option maxRecDepth 20000 in
theorem gL_law_X10_aisle : GoodIn wsL_law (wsV RL 56 RX10 yX10_aisle wsX10_aisle) := goodIn_app (goodIn_of _ (by decide +kernel)) ggL_law_X10_aisle
set_option maxRecDepth 20000 in
theorem ggL_law_X9_honey : GoodIn wsL_law wsX9_honey := goodIn_r _ [572, 30, 327, 295, 296, 29, 297, 285, 405, 406, 407, 408, 86, 294, 573, 574, 575, 576, 791, 792, 793, 794, 795, 796, 797, 798, 799, 800, 801, 840, 841, 842, 843, 844, 845, 846, 847, 848, 849] (by decide +kernel) (by decide +kernel)
set_option maxRecDepth 20000 in
theorem gL_law_X9_honey : GoodIn wsL_law (wsV RL 57 RX9 yX9_honey wsX9_honey) := goodIn_app (goodIn_of _ (by decide +kernel)) ggL_law_X9_honey
set_option maxRecDepth 20000 in
theorem ggL_law_X10_honey : GoodIn wsL_law wsX10_honey := goodIn_r _ [580, 260, 96, 445, 446, 447, 5, 448, 315, 120, 121, 122, 802, 803, 804, 805, 806, 807, 808, 809, 810, 811, 812, 813, 814, 815, 816, 817, 818, 819, 820, 821, 822, 823, 824, 825, 826, 827] (by decide +kernel) (by decide +kernel)
set_option maxRecDepth 20000 in
theorem gL_law_X10_honey : GoodIn wsL_law (wsV RL 60 RX10 yX10_honey wsX10_honey) := goodIn_app (goodIn_of _ (by decide +kernel)) ggL_law_X10_honey
set_option maxRecDepth 20000 in
theorem ggL_law_X9_practise : GoodIn wsL_law wsX9_practise := goodIn_r _ [584, 30, 327, 295, 296, 29, 297, 285, 585, 586, 587, 588, 83, 288, 294, 589, 329, 330, 331, 88, 82, 332, 333, 334, 26, 335, 54, 58, 62, 66, 50, 590, 591, 592, 593, 594, 57, 595, 596, 597, 598, 49, 599, 600, 601, 602, 791, 792, 793, 794, 795, 796, 797, 798, 799, 800, 801, 840, 841, 842, 843, 844, 845, 846, 847, 848, 849, 835, 836, 837, 838, 839] (by decide +kernel) (by decide +kernel)
set_option maxRecDepth 20000 in
theorem gL_law_X9_practise : GoodIn wsL_law (wsV RL 61 RX9 yX9_practise wsX9_practise) := goodIn_app (goodIn_of _ (by decide +kernel)) ggL_law_X9_practise
set_option maxRecDepth 20000 in
theorem ggL_law_X10_practise : GoodIn wsL_law wsX10_practise := goodIn_r _ [606, 317, 445, 446, 447, 5, 448, 315, 120, 121, 122, 607, 608, 609, 610, 96, 802, 803, 804, 805, 806, 807, 808, 809, 810, 811, 812, 813, 814, 815, 816, 817, 818, 819, 820, 821, 822, 823, 824, 825, 826, 827] (by decide +kernel) (by decide +kernel)
set_option maxRecDepth 20000 in
theorem gL_law_X10_practise : GoodIn wsL_law (wsV RL 64 RX10 yX10_practise wsX10_practise) := goodIn_app (goodIn_of _ (by decide +kernel)) ggL_law_X10_practise
set_option maxRecDepth 20000 in
theorem ggL_law_X9_mayor : GoodIn wsL_law wsX9_mayor := goodIn_r _ [614, 30, 615, 616, 617, 29, 618, 285, 619, 620, 621, 622, 623, 356, 357, 358, 287, 359, 360, 361, 362, 363, 364, 365, 366, 87, 367, 368, 369, 370, 371, 372, 373, 374, 88, 82, 83, 84, 85, 86, 286, 182, 183, 184, 294, 295, 296, 297, 375, 376, 377, 332, 333, 334, 26, 335, 54, 58, 62, 66, 50, 378, 379, 380, 381, 382, 57, 383, 384, 385, 386, 65, 387, 388, 389, 61, 390, 391, 392, 393, 49, 394, 395, 53, 396, 791, 792, 793, 794, 795, 796, 797, 798, 799, 800, 801, 840, 841, 842, 843, 844, 845, 846, 847, 848, 849, 835, 836, 837, 838, 839] (by decide +kernel) (by decide +kernel)
set_option maxRecDepth 20000 in
theorem gL_law_X9_mayor : GoodIn wsL_law (wsV RL 65 RX9 yX9_mayor wsX9_mayor) := goodIn_app (goodIn_of _ (by decide +kernel)) ggL_law_X9_mayor
set_option maxRecDepth 20000 in
theorem ggL_law_X10_mayor : GoodIn wsL_law wsX10_mayor := goodIn_r _ [627, 315, 628, 629, 630, 5, 631, 461, 462, 463, 464, 316, 465, 466, 467, 468, 97, 457, 458, 459, 460, 96, 802, 803, 804, 805, 806, 807, 808, 809, 810, 811, 812, 813, 814, 815, 816, 817, 818, 819, 820, 821, 822, 823, 824, 825, 826, 827] (by decide +kernel) (by decide +kernel)
set_option maxRecDepth 20000 in
theorem gL_law_X10_mayor : GoodIn wsL_law (wsV RL 68 RX10 yX10_mayor wsX10_mayor) := goodIn_app (goodIn_of _ (by decide +kernel)) ggL_law_X10_mayor
set_option maxRecDepth 20000 in
theorem ggL_law_X9_need : GoodIn wsL_law wsX9_need := goodIn_r _ [635, 30, 636, 23, 327, 295, 296, 29, 297, 285, 637, 638, 639, 2, 640, 32, 22, 413, 414, 415, 416, 82, 83, 84, 85, 86, 87, 287, 288, 417, 418, 419, 186, 183, 187, 420, 421, 422, 423, 641, 642, 643, 644, 405, 406, 407, 408, 294, 573, 574, 575, 576, 619, 620, 621, 622, 623, 356, 357, 358, 359, 360, 361, 362, 363, 364, 365, 366, 367, 368, 369, 370, 371, 372, 373, 374, 88, 286, 182, 184, 375, 376, 377, 332, 333, 334, 26, 335, 54, 58, 62, 66, 50, 378, 379, 380, 381, 382, 57, 383, 384, 385, 386, 65, 387, 388, 389, 61, 390, 391, 392, 393, 49, 394, 395, 53, 396, 645, 791, 792, 793, 794, 795, 796, 797, 798, 799, 800, 801, 840, 841, 842, 843, 844, 845, 846, 847, 848, 849, 835, 836, 837, 838, 839] (by decide +kernel) (by decide +kernel)
set_option maxRecDepth 20000 in
theorem gL_law_X9_need : GoodIn wsL_law (wsV RL 69 RX9 yX9_need wsX9_need) := goodIn_app (goodIn_of _ (by decide +kernel)) ggL_law_X9_need
set_option maxRecDepth 20000 in
theorem ggL_law_X10_need : GoodIn wsL_law wsX10_need := goodIn_r _ [649, 453, 454, 650, 315, 99, 445, 446, 447, 5, 448, 120, 121, 122, 651, 652, 653, 654, 98, 96, 655, 656, 657, 658, 628, 629, 630, 631, 461, 462, 463, 464, 316, 465, 466, 467, 468, 97, 457, 458, 459, 460, 320, 321, 322, 802, 803, 804, 805, 806, 807, 808, 809, 810, 811, 812, 813, 814, 815, 816, 817, 818, 819, 820, 821, 822, 823, 824, 825, 826, 827] (by decide +kernel) (by decide +kernel)
set_option maxRecDepth 20000 in
theorem gL_law_X10_need : GoodIn wsL_law (wsV RL 72 RX10 yX10_need wsX10_need) := goodIn_app (goodIn_of _ (by decide +kernel)) ggL_law_X10_need
set_option maxRecDepth 20000 in
theorem ggL_law_X9_hear : GoodIn wsL_law wsX9_hear := goodIn_r _ [662, 30, 19, 493, 368, 369, 29, 370, 287, 327, 295, 296, 297, 285, 663, 664, 665, 18, 666, 310, 40, 41, 42, 43, 791, 792, 793, 794, 795, 796, 797, 798, 799, 800, 801, 830, 831, 832, 833, 834, 840, 841, 842, 843, 844, 845, 846, 847, 848, 849] (by decide +kernel) (by decide +kernel)
set_option maxRecDepth 20000 in
theorem gL_law_X9_hear : GoodIn wsL_law (wsV RL 73 RX9 yX9_hear wsX9_hear) := goodIn_app (goodIn_of _ (by decide +kernel)) ggL_law_X9_hear
set_option maxRecDepth 20000 in
theorem ggL_law_X10_hear : GoodIn wsL_law wsX10_hear := goodIn_r _ [670, 318, 100, 525, 526, 527, 5, 528, 316, 120, 121, 122, 445, 446, 447, 448, 315, 802, 803, 804, 805, 806, 807, 808, 809, 810, 811, 812, 813, 814, 815, 816, 817, 818, 819, 820, 821, 822, 823, 824, 825, 826, 827] (by decide +kernel) (by decide +kernel)
set_option maxRecDepth 20000 in
theorem gL_law_X10_hear : GoodIn wsL_law (wsV RL 77 RX10 yX10_hear wsX10_hear) := goodIn_app (goodIn_of _ (by decide +kernel)) ggL_law_X10_hear
set_option maxRecDepth 20000 in
theorem ggL_law_X9_forget : GoodIn wsL_law wsX9_forget := goodIn_r _ [674, 19, 306, 307, 308, 18, 309, 310, 791, 792, 793, 794, 795, 796, 797, 798, 799, 800, 801, 830, 831, 832, 833, 834] (by decide +kernel) (by decide +kernel)
set_option maxRecDepth 20000 in
theorem gL_law_X9_forget : GoodIn wsL_law (wsV RL 78 RX9 yX9_forget wsX9_forget) := goodIn_app (goodIn_of _ (by decide +kernel)) ggL_law_X9_forget
set_option maxRecDepth 20000 in
theorem ggL_law_X10_forget : GoodIn wsL_law wsX10_forget := goodIn_r _ [678, 318, 802, 803, 804, 805, 806, 807, 808, 809, 810, 811, 812, 813, 814, 815, 816, 817, 818, 819, 820, 821, 822, 823, 824, 825, 826, 827] (by decide +kernel) (by decide +kernel)
set_option maxRecDepth 20000 in
theorem gL_law_X10_forget : GoodIn wsL_law (wsV RL 81 RX10 yX10_forget wsX10_forget) := goodIn_app (goodIn_of _ (by decide +kernel)) ggL_law_X10_forget
set_option maxRecDepth 20000 in
theorem ggL_law_X9_years : GoodIn wsL_law wsX9_years := goodIn_r _ [682, 30, 32, 615, 616, 617, 29, 618, 285, 413, 414, 415, 416, 82, 83, 84, 85, 86, 87, 287, 288, 417, 2, 418, 419, 186, 183, 187, 420, 421, 422, 423, 683, 684, 685, 686, 687, 688, 689, 690, 691, 692, 585, 586, 587, 588, 294, 295, 296, 297, 589, 329, 330, 331, 88, 332, 333, 334, 26, 335, 54, 58, 62, 66, 50, 590, 591, 592, 593, 594, 57, 595, 596, 597, 598, 49, 599, 600, 601, 602, 397, 398, 399, 400, 424, 425, 426, 427, 619, 620, 621, 622, 623, 356, 357, 358, 359, 360, 361, 362, 363, 364, 365, 366, 367, 368, 369, 370, 371, 372, 373, 374, 286, 182, 184, 375, 376, 377, 378, 379, 380, 381, 382, 383, 384, 385, 386, 65, 387, 388, 389, 61, 390, 391, 392, 393, 394, 395, 53, 396, 791, 792, 793, 794, 795, 796, 797, 798, 799, 800, 801, 840, 841, 842, 843, 844, 845, 846, 847, 848, 849, 835, 836, 837, 838, 839] (by decide +kernel) (by decide +kernel)
set_option maxRecDepth 20000 in
theorem gL_law_X9_years : GoodIn wsL_law (wsV RL 82 RX9 yX9_years wsX9_years) := goodIn_app (goodIn_of _ (by decide +kernel)) ggL_law_X9_years
set_option maxRecDepth 20000 in
theorem ggL_law_X10_years : GoodIn wsL_law wsX10_years := goodIn_r _ [696, 697, 698, 315, 96, 101, 699, 120, 121, 5, 122, 320, 321, 322, 700, 701, 702, 703, 704, 705, 706, 707, 607, 608, 609, 610, 628, 629, 630, 631, 461, 462, 463, 464, 316, 465, 466, 467, 468, 97, 457, 458, 459, 460, 802, 803, 804, 805, 806, 807, 808, 809, 810, 811, 812, 813, 814, 815, 816, 817, 818, 819, 820, 821, 822, 823, 824, 825, 826, 827] (by decide +kernel) (by decide +kernel)
set_option maxRecDepth 20000 in
theorem gL_law_X10_years : GoodIn wsL_law (wsV RL 86 RX10 yX10_years wsX10_years) := goodIn_app (goodIn_of _ (by decide +kernel)) ggL_law_X10_years
set_option maxRecDepth 20000 in
theorem ggL_law_X9_image : GoodIn wsL_law wsX9_image := goodIn_r _ [711, 30, 31, 20, 19, 269, 615, 616, 617, 29, 618, 285, 413, 414, 415, 416, 82, 83, 84, 85, 86, 87, 287, 288, 417, 2, 418, 419, 186, 183, 187, 420, 421, 422, 423, 712, 713, 714, 18, 715, 40, 41, 42, 43, 310, 791, 792, 793, 794, 795, 796, 797, 798, 799, 800, 801, 840, 841, 842, 843, 844, 845, 846, 847, 848, 849, 830, 831, 832, 833, 834] (by decide +kernel) (by decide +kernel)
set_option maxRecDepth 20000 in
theorem gL_law_X9_image : GoodIn wsL_law (wsV RL 87 RX9 yX9_image wsX9_image) := goodIn_app (goodIn_of _ (by decide +kernel)) ggL_law_X9_image
set_option maxRecDepth 20000 in
theorem ggL_law_X10_image : GoodIn wsL_law wsX10_image := goodIn_r _ [719, 315, 96, 102, 100, 103, 317, 720, 318, 721, 319, 104, 320, 321, 5, 322, 802, 803, 804, 805, 806, 807, 808, 809, 810, 811, 812, 813, 814, 815, 816, 817, 818, 819, 820, 821, 822, 823, 824, 825, 826, 827] (by decide +kernel) (by decide +kernel)
set_option maxRecDepth 20000 in
theorem gL_law_X10_image : GoodIn wsL_law (wsV RL 90 RX10 yX10_image wsX10_image) := goodIn_app (goodIn_of _ (by decide +kernel)) ggL_law_X10_image
set_option maxRecDepth 20000 in
theorem ggL_law_X9_restore : GoodIn wsL_law wsX9_restore := goodIn_r _ [725, 269, 30, 31, 19, 20, 413, 414, 415, 29, 416, 82, 83, 84, 85, 86, 87, 285, 287, 288, 417, 2, 418, 419, 186, 183, 187, 420, 421, 422, 423, 712, 713, 714, 18, 715, 40, 41, 42, 43, 310, 791, 792, 793, 794, 795, 796, 797, 798, 799, 800, 801, 840, 841, 842, 843, 844, 845, 846, 847, 848, 849, 830, 831, 832, 833, 834] (by decide +kernel) (by decide +kernel)
set_option maxRecDepth 20000 in
theorem gL_law_X9_restore : GoodIn wsL_law (wsV RL 91 RX9 yX9_restore wsX9_restore) := goodIn_app (goodIn_of _ (by decide +kernel)) ggL_law_X9_restore
set_option maxRecDepth 20000 in
theorem ggL_law_X10_restore : GoodIn wsL_law wsX10_restore := goodIn_r _ [729, 104, 319, 102, 96, 103, 100, 720, 317, 721, 318, 320, 321, 5, 322, 802, 803, 804, 805, 806, 807, 808, 809, 810, 811, 812, 813, 814, 815, 816, 817, 818, 819, 820, 821, 822, 823, 824, 825, 826, 827] (by decide +kernel) (by decide +kernel)
set_option maxRecDepth 20000 in
theorem gL_law_X10_restore : GoodIn wsL_law (wsV RL 94 RX10 yX10_restore wsX10_restore) := goodIn_app (goodIn_of _ (by decide +kernel)) ggL_law_X10_restore
set_option maxRecDepth 20000 in
theorem ggL_law_X9_count : GoodIn wsL_law wsX9_count := goodIn_r _ [733, 30, 19, 15, 270, 636, 734, 735, 736, 29, 737, 285, 738, 398, 399, 400, 84, 294, 295, 296, 297, 739, 740, 741, 742, 743, 406, 407, 408, 86, 791, 792, 793, 794, 795, 796, 797, 798, 799, 800, 801, 840, 841, 842, 843, 844, 845, 846, 847, 848, 849, 830, 831, 832, 833, 834, 828, 829] (by decide +kernel) (by decide +kernel)
set_option maxRecDepth 20000 in
theorem gL_law_X9_count : GoodIn wsL_law (wsV RL 95 RX9 yX9_count wsX9_count) := goodIn_app (goodIn_of _ (by decide +kernel)) ggL_law_X9_count
set_option maxRecDepth 20000 in
theorem ggL_law_X10_count : GoodIn wsL_law wsX10_count := goodIn_r _ [747, 748, 749, 750, 5, 751, 315, 316, 317, 318, 119, 319, 650, 752, 753, 754, 755, 96, 802, 803, 804, 805, 806, 807, 808, 809, 810, 811, 812, 813, 814, 815, 816, 817, 818, 819, 820, 821, 822, 823, 824, 825, 826, 827] (by decide +kernel) (by decide +kernel)
set_option maxRecDepth 20000 in
theorem gL_law_X10_count : GoodIn wsL_law (wsV RL 98 RX10 yX10_count wsX10_count) := goodIn_app (goodIn_of _ (by decide +kernel)) ggL_law_X10_count
set_option maxRecDepth 20000 in
theorem ggL_law_X9_digest : GoodIn wsL_law wsX9_digest := goodIn_r _ [759, 760, 30, 761, 15, 762, 324, 325, 2, 326, 327, 295, 296, 29, 297, 285, 328, 329, 330, 331, 88, 82, 294, 332, 333, 334, 26, 335, 54, 58, 62, 66, 50, 336, 337, 338, 339, 340, 57, 341, 342, 343, 344, 65, 345, 346, 347, 61, 348, 349, 350, 351, 49, 352, 353, 53, 354, 355, 356, 357, 358, 287, 359, 360, 361, 362, 363, 364, 365, 366, 87, 367, 368, 369, 370, 371, 372, 373, 374, 83, 84, 85, 86, 286, 182, 183, 184, 375, 376, 377, 378, 379, 380, 381, 382, 383, 384, 385, 386, 387, 388, 389, 390, 391, 392, 393, 394, 395, 396, 397, 398, 399, 400, 401, 402, 403, 404, 405, 406, 407, 408, 409, 410, 411, 412, 32, 413, 414, 415, 416, 288, 417, 418, 419, 186, 187, 420, 421, 422, 423, 424, 425, 426, 427, 428, 429, 430, 431, 432, 433, 434, 435, 436, 437, 438, 439, 440, 763, 764, 765, 766, 767, 490, 491, 492, 493, 494, 495, 496, 497, 498, 499, 19, 500, 501, 502, 18, 503, 310, 41, 42, 40, 43, 504, 505, 506, 507, 508, 509, 510, 511, 512, 513, 514, 515, 516, 517, 518, 519, 520, 768, 546, 547, 548, 615, 616, 617, 618, 769, 612, 613, 614, 619, 620, 621, 622, 623, 770, 144, 145, 14, 146, 113, 36, 771, 731, 732, 733, 270, 636, 734, 735, 736, 737, 738, 739, 740, 741, 742, 743, 791, 792, 793, 794, 795, 796, 797, 798, 799, 800, 801, 840, 841, 842, 843, 844, 845, 846, 847, 848, 849, 828, 829, 835, 836, 837, 838, 839, 830, 831, 832, 833, 834] (by decide +kernel) (by decide +kernel)
set_option maxRecDepth 20000 in
theorem gL_law_X9_digest : GoodIn wsL_law (wsV RL 99 RX9 yX9_digest wsX9_digest) := goodIn_app (goodIn_of _ (by decide +kernel)) ggL_law_X9_digest
set_option maxRecDepth 20000 in
theorem ggL_law_X10_digest : GoodIn wsL_law wsX10_digest := goodIn_r _ [775, 776, 777, 315, 316, 119, 93, 778, 779, 780, 5, 781, 453, 454, 120, 121, 122, 449, 450, 451, 452, 96, 455, 456, 457, 458, 459, 460, 461, 462, 463, 464, 465, 466, 467, 468, 97, 469, 470, 471, 472, 782, 783, 784, 785, 786, 787, 788, 789, 790, 529, 530, 531, 532, 533, 534, 535, 536, 318, 100, 537, 538, 539, 540, 541, 542, 543, 544, 445, 446, 447, 448, 628, 629, 630, 631, 748, 749, 750, 751, 317, 319, 650, 752, 753, 754, 755, 802, 803, 804, 805, 806, 807, 808, 809, 810, 811, 812, 813, 814, 815, 816, 817, 818, 819, 820, 821, 822, 823, 824, 825, 826, 827] (by decide +kernel) (by decide +kernel)
set_option maxRecDepth 20000 in
theorem gL_law_X10_digest : GoodIn wsL_law (wsV RL 103 RX10 yX10_digest wsX10_digest) := goodIn_app (goodIn_of _ (by decide +kernel)) ggL_law_X10_digest
theorem dL_law_0 : decode cL_law 0 = .ok (.new 7, 3) := by decide +kernel
theorem dL_law_3 : decode cL_law 3 = .ok (.dup, 1) := by decide +kernel
theorem dL_law_4 : decode cL_law 4 = .ok (.invokespecial 9, 3) := by decide +kernel
theorem dL_law_7 : decode cL_law 7 = .ok (.astore_n 1, 1) := by decide +kernel
theorem dL_law_8 : decode cL_law 8 = .ok (.new 10, 3) := by decide +kernel
theorem dL_law_11 : decode cL_law 11 = .ok (.dup, 1) := by decide +kernel
theorem dL_law_12 : decode cL_law 12 = .ok (.invokespecial 12, 3) := by decide +kernel
theorem dL_law_15 : decode cL_law 15 = .ok (.astore_n 2, 1) := by decide +kernel
theorem dL_law_16 : decode cL_law 16 = .ok (.iconst 0, 1) := by decide +kernel
theorem dL_law_17 : decode cL_law 17 = .ok (.istore_n 3, 1) := by decide +kernel
theorem dL_law_18 : decode cL_law 18 = .ok (.iload_n 3, 1) := by decide +kernel
theorem dL_law_19 : decode cL_law 19 = .ok (.aload_n 0, 1) := by decide +kernel
theorem dL_law_20 : decode cL_law 20 = .ok (.arraylength, 1) := by decide +kernel
theorem dL_law_21 : decode cL_law 21 = .ok (.iconst 5, 1) := by decide +kernel
theorem dL_law_22 : decode cL_law 22 = .ok (.isub, 1) := by decide +kernel
theorem dL_law_23 : decode cL_law 23 = .ok (.if_icmp .gt 697, 3) := by decide +kernel
theorem dL_law_26 : decode cL_law 26 = .ok (.aload_n 0, 1) := by decide +kernel
theorem dL_law_27 : decode cL_law 27 = .ok (.iload_n 3, 1) := by decide +kernel
theorem dL_law_28 : decode cL_law 28 = .ok (.iaload, 1) := by decide +kernel
theorem dL_law_29 : decode cL_law 29 = .ok (.bipush 31, 2) := by decide +kernel
theorem dL_law_31 : decode cL_law 31 = .ok (.iand, 1) := by decide +kernel
theorem dL_law_32 : decode cL_law 32 = .ok (.tableswitch 682 0 20 #[100, 123, 136, 149, 162, 195, 228, 261, 294, 343, 392, 425, 448, 461, 494, 563, 576, 619, 632, 645, 668], 100) := by decide +kernel
theorem dL_law_132 : decode cL_law 132 = .ok (.aload_n 1, 1) := by decide +kernel
theorem dL_law_133 : decode cL_law 133 = .ok (.aload_n 0, 1) := by decide +kernel
theorem dL_law_134 : decode cL_law 134 = .ok (.iload_n 3, 1) := by decide +kernel
theorem dL_law_135 : decode cL_law 135 = .ok (.iconst 1, 1) := by decide +kernel
theorem dL_law_136 : decode cL_law 136 = .ok (.iadd, 1) := by decide +kernel
theorem dL_law_137 : decode cL_law 137 = .ok (.iaload, 1) := by decide +kernel
theorem dL_law_138 : decode cL_law 138 = .ok (.invokevirtual 13, 3) := by decide +kernel
theorem dL_law_141 : decode cL_law 141 = .ok (.aload_n 2, 1) := by decide +kernel
theorem dL_law_142 : decode cL_law 142 = .ok (.aload_n 0, 1) := by decide +kernel
theorem dL_law_143 : decode cL_law 143 = .ok (.iload_n 3, 1) := by decide +kernel
theorem dL_law_144 : decode cL_law 144 = .ok (.iconst 1, 1) := by decide +kernel
theorem dL_law_145 : decode cL_law 145 = .ok (.iadd, 1) := by decide +kernel
theorem dL_law_146 : decode cL_law 146 = .ok (.iaload, 1) := by decide +kernel
theorem dL_law_147 : decode cL_law 147 = .ok (.invokevirtual 17, 3) := by decide +kernel
theorem dL_law_150 : decode cL_law 150 = .ok (.if_icmp .eq 564, 3) := by decide +kernel
theorem dL_law_153 : decode cL_law 153 = .ok (.iconst 0, 1) := by decide +kernel
theorem dL_law_154 : decode cL_law 154 = .ok (.ireturn, 1) := by decide +kernel
theorem dL_law_155 : decode cL_law 155 = .ok (.aload_n 1, 1) := by decide +kernel
theorem dL_law_156 : decode cL_law 156 = .ok (.invokevirtual 18, 3) := by decide +kernel
theorem dL_law_159 : decode cL_law 159 = .ok (.aload_n 2, 1) := by decide +kernel
theorem dL_law_160 : decode cL_law 160 = .ok (.invokevirtual 22, 3) := by decide +kernel
theorem dL_law_163 : decode cL_law 163 = .ok (.if_icmp .eq 551, 3) := by decide +kernel
theorem dL_law_166 : decode cL_law 166 = .ok (.iconst 0, 1) := by decide +kernel
theorem dL_law_167 : decode cL_law 167 = .ok (.ireturn, 1) := by decide +kernel
theorem dL_law_168 : decode cL_law 168 = .ok (.aload_n 1, 1) := by decide +kernel
theorem dL_law_169 : decode cL_law 169 = .ok (.invokevirtual 23, 3) := by decide +kernel
theorem dL_law_172 : decode cL_law 172 = .ok (.aload_n 2, 1) := by decide +kernel
theorem dL_law_173 : decode cL_law 173 = .ok (.invokevirtual 26, 3) := by decide +kernel
theorem dL_law_176 : decode cL_law 176 = .ok (.if_icmp .eq 538, 3) := by decide +kernel
theorem dL_law_179 : decode cL_law 179 = .ok (.iconst 0, 1) := by decide +kernel
theorem dL_law_180 : decode cL_law 180 = .ok (.ireturn, 1) := by decide +kernel
theorem dL_law_181 : decode cL_law 181 = .ok (.aload_n 1, 1) := by decide +kernel
theorem dL_law_182 : decode cL_law 182 = .ok (.invokevirtual 27, 3) := by decide +kernel
theorem dL_law_185 : decode cL_law 185 = .ok (.aload_n 2, 1) := by decide +kernel
theorem dL_law_186 : decode cL_law 186 = .ok (.invokevirtual 30, 3) := by decide +kernel
theorem dL_law_189 : decode cL_law 189 = .ok (.if_icmp .eq 525, 3) := by decide +kernel
theorem dL_law_192 : decode cL_law 192 = .ok (.iconst 0, 1) := by decide +kernel
theorem dL_law_193 : decode cL_law 193 = .ok (.ireturn, 1) := by decide +kernel
theorem dL_law_194 : decode cL_law 194 = .ok (.aload_n 1, 1) := by decide +kernel
theorem dL_law_195 : decode cL_law 195 = .ok (.aload_n 0, 1) := by decide +kernel
theorem dL_law_196 : decode cL_law 196 = .ok (.iload_n 3, 1) := by decide +kernel
theorem dL_law_197 : decode cL_law 197 = .ok (.iconst 1, 1) := by decide +kernel
theorem dL_law_198 : decode cL_law 198 = .ok (.iadd, 1) := by decide +kernel
theorem dL_law_199 : decode cL_law 199 = .ok (.iaload, 1) := by decide +kernel
theorem dL_law_200 : decode cL_law 200 = .ok (.aload_n 0, 1) := by decide +kernel
theorem dL_law_201 : decode cL_law 201 = .ok (.iload_n 3, 1) := by decide +kernel
theorem dL_law_202 : decode cL_law 202 = .ok (.iconst 2, 1) := by decide +kernel
theorem dL_law_203 : decode cL_law 203 = .ok (.iadd, 1) := by decide +kernel
theorem dL_law_204 : decode cL_law 204 = .ok (.iaload, 1) := by decide +kernel
theorem dL_law_205 : decode cL_law 205 = .ok (.invokevirtual 31, 3) := by decide +kernel
theorem dL_law_208 : decode cL_law 208 = .ok (.aload_n 2, 1) := by decide +kernel
theorem dL_law_209 : decode cL_law 209 = .ok (.aload_n 0, 1) := by decide +kernel
theorem dL_law_210 : decode cL_law 210 = .ok (.iload_n 3, 1) := by decide +kernel
theorem dL_law_211 : decode cL_law 211 = .ok (.iconst 1, 1) := by decide +kernel
theorem dL_law_212 : decode cL_law 212 = .ok (.iadd, 1) := by decide +kernel
theorem dL_law_213 : decode cL_law 213 = .ok (.iaload, 1) := by decide +kernel
theorem dL_law_214 : decode cL_law 214 = .ok (.aload_n 0, 1) := by decide +kernel
theorem dL_law_215 : decode cL_law 215 = .ok (.iload_n 3, 1) := by decide +kernel
theorem dL_law_216 : decode cL_law 216 = .ok (.iconst 2, 1) := by decide +kernel
theorem dL_law_217 : decode cL_law 217 = .ok (.iadd, 1) := by decide +kernel
theorem dL_law_218 : decode cL_law 218 = .ok (.iaload, 1) := by decide +kernel
theorem dL_law_219 : decode cL_law 219 = .ok (.invokevirtual 35, 3) := by decide +kernel
theorem dL_law_222 : decode cL_law 222 = .ok (.if_icmp .eq 492, 3) := by decide +kernel
theorem dL_law_225 : decode cL_law 225 = .ok (.iconst 0, 1) := by decide +kernel
theorem dL_law_226 : decode cL_law 226 = .ok (.ireturn, 1) := by decide +kernel
theorem dL_law_227 : decode cL_law 227 = .ok (.aload_n 1, 1) := by decide +kernel
theorem dL_law_228 : decode cL_law 228 = .ok (.aload_n 0, 1) := by decide +kernel
theorem dL_law_229 : decode cL_law 229 = .ok (.iload_n 3, 1) := by decide +kernel
theorem dL_law_230 : decode cL_law 230 = .ok (.iconst 1, 1) := by decide +kernel
theorem dL_law_231 : decode cL_law 231 = .ok (.iadd, 1) := by decide +kernel
theorem dL_law_232 : decode cL_law 232 = .ok (.iaload, 1) := by decide +kernel
theorem dL_law_233 : decode cL_law 233 = .ok (.aload_n 0, 1) := by decide +kernel
theorem dL_law_234 : decode cL_law 234 = .ok (.iload_n 3, 1) := by decide +kernel
theorem dL_law_235 : decode cL_law 235 = .ok (.iconst 2, 1) := by decide +kernel
theorem dL_law_236 : decode cL_law 236 = .ok (.iadd, 1) := by decide +kernel
theorem dL_law_237 : decode cL_law 237 = .ok (.iaload, 1) := by decide +kernel
theorem dL_law_238 : decode cL_law 238 = .ok (.invokevirtual 36, 3) := by decide +kernel
theorem dL_law_241 : decode cL_law 241 = .ok (.aload_n 2, 1) := by decide +kernel
theorem dL_law_242 : decode cL_law 242 = .ok (.aload_n 0, 1) := by decide +kernel
theorem dL_law_243 : decode cL_law 243 = .ok (.iload_n 3, 1) := by decide +kernel
theorem dL_law_244 : decode cL_law 244 = .ok (.iconst 1, 1) := by decide +kernel
theorem dL_law_245 : decode cL_law 245 = .ok (.iadd, 1) := by decide +kernel
theorem dL_law_246 : decode cL_law 246 = .ok (.iaload, 1) := by decide +kernel
theorem dL_law_247 : decode cL_law 247 = .ok (.aload_n 0, 1) := by decide +kernel
theorem dL_law_248 : decode cL_law 248 = .ok (.iload_n 3, 1) := by decide +kernel
theorem dL_law_249 : decode cL_law 249 = .ok (.iconst 2, 1) := by decide +kernel
theorem dL_law_250 : decode cL_law 250 = .ok (.iadd, 1) := by decide +kernel
theorem dL_law_251 : decode cL_law 251 = .ok (.iaload, 1) := by decide +kernel
theorem dL_law_252 : decode cL_law 252 = .ok (.invokevirtual 39, 3) := by decide +kernel
theorem dL_law_255 : decode cL_law 255 = .ok (.if_icmp .eq 459, 3) := by decide +kernel
theorem dL_law_258 : decode cL_law 258 = .ok (.iconst 0, 1) := by decide +kernel
theorem dL_law_259 : decode cL_law 259 = .ok (.ireturn, 1) := by decide +kernel
theorem dL_law_260 : decode cL_law 260 = .ok (.aload_n 1, 1) := by decide +kernel
theorem dL_law_261 : decode cL_law 261 = .ok (.aload_n 0, 1) := by decide +kernel
theorem dL_law_262 : decode cL_law 262 = .ok (.iload_n 3, 1) := by decide +kernel
theorem dL_law_263 : decode cL_law 263 = .ok (.iconst 1, 1) := by decide +kernel
theorem dL_law_264 : decode cL_law 264 = .ok (.iadd, 1) := by decide +kernel
theorem dL_law_265 : decode cL_law 265 = .ok (.iaload, 1) := by decide +kernel
theorem dL_law_266 : decode cL_law 266 = .ok (.aload_n 0, 1) := by decide +kernel
theorem dL_law_267 : decode cL_law 267 = .ok (.iload_n 3, 1) := by decide +kernel
theorem dL_law_268 : decode cL_law 268 = .ok (.iconst 2, 1) := by decide +kernel
theorem dL_law_269 : decode cL_law 269 = .ok (.iadd, 1) := by decide +kernel
theorem dL_law_270 : decode cL_law 270 = .ok (.iaload, 1) := by decide +kernel
theorem dL_law_271 : decode cL_law 271 = .ok (.invokevirtual 40, 3) := by decide +kernel
theorem dL_law_274 : decode cL_law 274 = .ok (.aload_n 2, 1) := by decide +kernel
theorem dL_law_275 : decode cL_law 275 = .ok (.aload_n 0, 1) := by decide +kernel
theorem dL_law_276 : decode cL_law 276 = .ok (.iload_n 3, 1) := by decide +kernel
theorem dL_law_277 : decode cL_law 277 = .ok (.iconst 1, 1) := by decide +kernel
theorem dL_law_278 : decode cL_law 278 = .ok (.iadd, 1) := by decide +kernel
theorem dL_law_279 : decode cL_law 279 = .ok (.iaload, 1) := by decide +kernel
theorem dL_law_280 : decode cL_law 280 = .ok (.aload_n 0, 1) := by decide +kernel
theorem dL_law_281 : decode cL_law 281 = .ok (.iload_n 3, 1) := by decide +kernel
theorem dL_law_282 : decode cL_law 282 = .ok (.iconst 2, 1) := by decide +kernel
theorem dL_law_283 : decode cL_law 283 = .ok (.iadd, 1) := by decide +kernel
theorem dL_law_284 : decode cL_law 284 = .ok (.iaload, 1) := by decide +kernel
theorem dL_law_285 : decode cL_law 285 = .ok (.invokevirtual 43, 3) := by decide +kernel
theorem dL_law_288 : decode cL_law 288 = .ok (.if_icmp .eq 426, 3) := by decide +kernel
theorem dL_law_291 : decode cL_law 291 = .ok (.iconst 0, 1) := by decide +kernel
theorem dL_law_292 : decode cL_law 292 = .ok (.ireturn, 1) := by decide +kernel
theorem dL_law_293 : decode cL_law 293 = .ok (.aload_n 1, 1) := by decide +kernel
theorem dL_law_294 : decode cL_law 294 = .ok (.aload_n 0, 1) := by decide +kernel
theorem dL_law_295 : decode cL_law 295 = .ok (.iload_n 3, 1) := by decide +kernel
theorem dL_law_296 : decode cL_law 296 = .ok (.iconst 1, 1) := by decide +kernel
theorem dL_law_297 : decode cL_law 297 = .ok (.iadd, 1) := by decide +kernel
theorem dL_law_298 : decode cL_law 298 = .ok (.iaload, 1) := by decide +kernel
theorem dL_law_299 : decode cL_law 299 = .ok (.aload_n 0, 1) := by decide +kernel
theorem dL_law_300 : decode cL_law 300 = .ok (.iload_n 3, 1) := by decide +kernel
theorem dL_law_301 : decode cL_law 301 = .ok (.iconst 2, 1) := by decide +kernel
theorem dL_law_302 : decode cL_law 302 = .ok (.iadd, 1) := by decide +kernel
theorem dL_law_303 : decode cL_law 303 = .ok (.iaload, 1) := by decide +kernel
theorem dL_law_304 : decode cL_law 304 = .ok (.invokevirtual 44, 3) := by decide +kernel
theorem dL_law_307 : decode cL_law 307 = .ok (.aload_n 2, 1) := by decide +kernel
theorem dL_law_308 : decode cL_law 308 = .ok (.aload_n 0, 1) := by decide +kernel
theorem dL_law_309 : decode cL_law 309 = .ok (.iload_n 3, 1) := by decide +kernel
theorem dL_law_310 : decode cL_law 310 = .ok (.iconst 1, 1) := by decide +kernel
theorem dL_law_311 : decode cL_law 311 = .ok (.iadd, 1) := by decide +kernel
theorem dL_law_312 : decode cL_law 312 = .ok (.iaload, 1) := by decide +kernel
theorem dL_law_313 : decode cL_law 313 = .ok (.aload_n 0, 1) := by decide +kernel
theorem dL_law_314 : decode cL_law 314 = .ok (.iload_n 3, 1) := by decide +kernel
theorem dL_law_315 : decode cL_law 315 = .ok (.iconst 2, 1) := by decide +kernel
theorem dL_law_316 : decode cL_law 316 = .ok (.iadd, 1) := by decide +kernel
theorem dL_law_317 : decode cL_law 317 = .ok (.iaload, 1) := by decide +kernel
theorem dL_law_318 : decode cL_law 318 = .ok (.invokevirtual 47, 3) := by decide +kernel
theorem dL_law_321 : decode cL_law 321 = .ok (.if_icmp .eq 393, 3) := by decide +kernel
theorem dL_law_324 : decode cL_law 324 = .ok (.iconst 0, 1) := by decide +kernel
theorem dL_law_325 : decode cL_law 325 = .ok (.ireturn, 1) := by decide +kernel
theorem dL_law_326 : decode cL_law 326 = .ok (.aload_n 1, 1) := by decide +kernel
theorem dL_law_327 : decode cL_law 327 = .ok (.aload_n 0, 1) := by decide +kernel
theorem dL_law_328 : decode cL_law 328 = .ok (.iload_n 3, 1) := by decide +kernel
theorem dL_law_329 : decode cL_law 329 = .ok (.iconst 1, 1) := by decide +kernel
theorem dL_law_330 : decode cL_law 330 = .ok (.iadd, 1) := by decide +kernel
theorem dL_law_331 : decode cL_law 331 = .ok (.iaload, 1) := by decide +kernel
theorem dL_law_332 : decode cL_law 332 = .ok (.aload_n 0, 1) := by decide +kernel
theorem dL_law_333 : decode cL_law 333 = .ok (.iload_n 3, 1) := by decide +kernel
theorem dL_law_334 : decode cL_law 334 = .ok (.iconst 2, 1) := by decide +kernel
theorem dL_law_335 : decode cL_law 335 = .ok (.iadd, 1) := by decide +kernel
theorem dL_law_336 : decode cL_law 336 = .ok (.iaload, 1) := by decide +kernel
theorem dL_law_337 : decode cL_law 337 = .ok (.ifCond .eq 7, 3) := by decide +kernel
theorem dL_law_340 : decode cL_law 340 = .ok (.iconst 1, 1) := by decide +kernel
theorem dL_law_341 : decode cL_law 341 = .ok (.goto 4, 3) := by decide +kernel
theorem dL_law_344 : decode cL_law 344 = .ok (.iconst 0, 1) := by decide +kernel
theorem dL_law_345 : decode cL_law 345 = .ok (.invokevirtual 48, 3) := by decide +kernel
theorem dL_law_348 : decode cL_law 348 = .ok (.aload_n 2, 1) := by decide +kernel
theorem dL_law_349 : decode cL_law 349 = .ok (.aload_n 0, 1) := by decide +kernel
theorem dL_law_350 : decode cL_law 350 = .ok (.iload_n 3, 1) := by decide +kernel
theorem dL_law_351 : decode cL_law 351 = .ok (.iconst 1, 1) := by decide +kernel
theorem dL_law_352 : decode cL_law 352 = .ok (.iadd, 1) := by decide +kernel
theorem dL_law_353 : decode cL_law 353 = .ok (.iaload, 1) := by decide +kernel
theorem dL_law_354 : decode cL_law 354 = .ok (.aload_n 0, 1) := by decide +kernel
theorem dL_law_355 : decode cL_law 355 = .ok (.iload_n 3, 1) := by decide +kernel
theorem dL_law_356 : decode cL_law 356 = .ok (.iconst 2, 1) := by decide +kernel
theorem dL_law_357 : decode cL_law 357 = .ok (.iadd, 1) := by decide +kernel
theorem dL_law_358 : decode cL_law 358 = .ok (.iaload, 1) := by decide +kernel
theorem dL_law_359 : decode cL_law 359 = .ok (.ifCond .eq 7, 3) := by decide +kernel
theorem dL_law_362 : decode cL_law 362 = .ok (.iconst 1, 1) := by decide +kernel
theorem dL_law_363 : decode cL_law 363 = .ok (.goto 4, 3) := by decide +kernel
theorem dL_law_366 : decode cL_law 366 = .ok (.iconst 0, 1) := by decide +kernel
theorem dL_law_367 : decode cL_law 367 = .ok (.invokevirtual 52, 3) := by decide +kernel
theorem dL_law_370 : decode cL_law 370 = .ok (.if_icmp .eq 344, 3) := by decide +kernel
theorem dL_law_373 : decode cL_law 373 = .ok (.iconst 0, 1) := by decide +kernel
theorem dL_law_374 : decode cL_law 374 = .ok (.ireturn, 1) := by decide +kernel
theorem dL_law_375 : decode cL_law 375 = .ok (.aload_n 1, 1) := by decide +kernel
theorem dL_law_376 : decode cL_law 376 = .ok (.aload_n 0, 1) := by decide +kernel
theorem dL_law_377 : decode cL_law 377 = .ok (.iload_n 3, 1) := by decide +kernel
theorem dL_law_378 : decode cL_law 378 = .ok (.iconst 1, 1) := by decide +kernel
theorem dL_law_379 : decode cL_law 379 = .ok (.iadd, 1) := by decide +kernel
theorem dL_law_380 : decode cL_law 380 = .ok (.iaload, 1) := by decide +kernel
theorem dL_law_381 : decode cL_law 381 = .ok (.aload_n 0, 1) := by decide +kernel
theorem dL_law_382 : decode cL_law 382 = .ok (.iload_n 3, 1) := by decide +kernel
theorem dL_law_383 : decode cL_law 383 = .ok (.iconst 2, 1) := by decide +kernel
theorem dL_law_384 : decode cL_law 384 = .ok (.iadd, 1) := by decide +kernel
theorem dL_law_385 : decode cL_law 385 = .ok (.iaload, 1) := by decide +kernel
theorem dL_law_386 : decode cL_law 386 = .ok (.ifCond .eq 7, 3) := by decide +kernel
theorem dL_law_389 : decode cL_law 389 = .ok (.iconst 1, 1) := by decide +kernel
theorem dL_law_390 : decode cL_law 390 = .ok (.goto 4, 3) := by decide +kernel
theorem dL_law_393 : decode cL_law 393 = .ok (.iconst 0, 1) := by decide +kernel
theorem dL_law_394 : decode cL_law 394 = .ok (.invokevirtual 53, 3) := by decide +kernel
theorem dL_law_397 : decode cL_law 397 = .ok (.aload_n 2, 1) := by decide +kernel
theorem dL_law_398 : decode cL_law 398 = .ok (.aload_n 0, 1) := by decide +kernel
theorem dL_law_399 : decode cL_law 399 = .ok (.iload_n 3, 1) := by decide +kernel
theorem dL_law_400 : decode cL_law 400 = .ok (.iconst 1, 1) := by decide +kernel
theorem dL_law_401 : decode cL_law 401 = .ok (.iadd, 1) := by decide +kernel
theorem dL_law_402 : decode cL_law 402 = .ok (.iaload, 1) := by decide +kernel
theorem dL_law_403 : decode cL_law 403 = .ok (.aload_n 0, 1) := by decide +kernel
theorem dL_law_404 : decode cL_law 404 = .ok (.iload_n 3, 1) := by decide +kernel
theorem dL_law_405 : decode cL_law 405 = .ok (.iconst 2, 1) := by decide +kernel
theorem dL_law_406 : decode cL_law 406 = .ok (.iadd, 1) := by decide +kernel
theorem dL_law_407 : decode cL_law 407 = .ok (.iaload, 1) := by decide +kernel
theorem dL_law_408 : decode cL_law 408 = .ok (.ifCond .eq 7, 3) := by decide +kernel
theorem dL_law_411 : decode cL_law 411 = .ok (.iconst 1, 1) := by decide +kernel
theorem dL_law_412 : decode cL_law 412 = .ok (.goto 4, 3) := by decide +kernel
theorem dL_law_415 : decode cL_law 415 = .ok (.iconst 0, 1) := by decide +kernel
theorem dL_law_416 : decode cL_law 416 = .ok (.invokevirtual 56, 3) := by decide +kernel
theorem dL_law_419 : decode cL_law 419 = .ok (.if_icmp .eq 295, 3) := by decide +kernel
theorem dL_law_422 : decode cL_law 422 = .ok (.iconst 0, 1) := by decide +kernel
theorem dL_law_423 : decode cL_law 423 = .ok (.ireturn, 1) := by decide +kernel
theorem dL_law_424 : decode cL_law 424 = .ok (.aload_n 1, 1) := by decide +kernel
theorem dL_law_425 : decode cL_law 425 = .ok (.aload_n 0, 1) := by decide +kernel
theorem dL_law_426 : decode cL_law 426 = .ok (.iload_n 3, 1) := by decide +kernel
theorem dL_law_427 : decode cL_law 427 = .ok (.iconst 1, 1) := by decide +kernel
theorem dL_law_428 : decode cL_law 428 = .ok (.iadd, 1) := by decide +kernel
theorem dL_law_429 : decode cL_law 429 = .ok (.iaload, 1) := by decide +kernel
theorem dL_law_430 : decode cL_law 430 = .ok (.aload_n 0, 1) := by decide +kernel
theorem dL_law_431 : decode cL_law 431 = .ok (.iload_n 3, 1) := by decide +kernel
theorem dL_law_432 : decode cL_law 432 = .ok (.iconst 2, 1) := by decide +kernel
theorem dL_law_433 : decode cL_law 433 = .ok (.iadd, 1) := by decide +kernel
theorem dL_law_434 : decode cL_law 434 = .ok (.iaload, 1) := by decide +kernel
theorem dL_law_435 : decode cL_law 435 = .ok (.invokevirtual 57, 3) := by decide +kernel
theorem dL_law_438 : decode cL_law 438 = .ok (.aload_n 2, 1) := by decide +kernel
theorem dL_law_439 : decode cL_law 439 = .ok (.aload_n 0, 1) := by decide +kernel
theorem dL_law_440 : decode cL_law 440 = .ok (.iload_n 3, 1) := by decide +kernel
theorem dL_law_441 : decode cL_law 441 = .ok (.iconst 1, 1) := by decide +kernel
theorem dL_law_442 : decode cL_law 442 = .ok (.iadd, 1) := by decide +kernel
theorem dL_law_443 : decode cL_law 443 = .ok (.iaload, 1) := by decide +kernel
theorem dL_law_444 : decode cL_law 444 = .ok (.aload_n 0, 1) := by decide +kernel
theorem dL_law_445 : decode cL_law 445 = .ok (.iload_n 3, 1) := by decide +kernel
theorem dL_law_446 : decode cL_law 446 = .ok (.iconst 2, 1) := by decide +kernel
theorem dL_law_447 : decode cL_law 447 = .ok (.iadd, 1) := by decide +kernel
theorem dL_law_448 : decode cL_law 448 = .ok (.iaload, 1) := by decide +kernel
theorem dL_law_449 : decode cL_law 449 = .ok (.invokevirtual 60, 3) := by decide +kernel
theorem dL_law_452 : decode cL_law 452 = .ok (.if_icmp .eq 262, 3) := by decide +kernel
theorem dL_law_455 : decode cL_law 455 = .ok (.iconst 0, 1) := by decide +kernel
theorem dL_law_456 : decode cL_law 456 = .ok (.ireturn, 1) := by decide +kernel
theorem dL_law_457 : decode cL_law 457 = .ok (.aload_n 1, 1) := by decide +kernel
theorem dL_law_458 : decode cL_law 458 = .ok (.aload_n 0, 1) := by decide +kernel
theorem dL_law_459 : decode cL_law 459 = .ok (.iload_n 3, 1) := by decide +kernel
theorem dL_law_460 : decode cL_law 460 = .ok (.iconst 1, 1) := by decide +kernel
theorem dL_law_461 : decode cL_law 461 = .ok (.iadd, 1) := by decide +kernel
theorem dL_law_462 : decode cL_law 462 = .ok (.iaload, 1) := by decide +kernel
theorem dL_law_463 : decode cL_law 463 = .ok (.invokevirtual 61, 3) := by decide +kernel
theorem dL_law_466 : decode cL_law 466 = .ok (.aload_n 2, 1) := by decide +kernel
theorem dL_law_467 : decode cL_law 467 = .ok (.aload_n 0, 1) := by decide +kernel
theorem dL_law_468 : decode cL_law 468 = .ok (.iload_n 3, 1) := by decide +kernel
theorem dL_law_469 : decode cL_law 469 = .ok (.iconst 1, 1) := by decide +kernel
theorem dL_law_470 : decode cL_law 470 = .ok (.iadd, 1) := by decide +kernel
theorem dL_law_471 : decode cL_law 471 = .ok (.iaload, 1) := by decide +kernel
theorem dL_law_472 : decode cL_law 472 = .ok (.invokevirtual 64, 3) := by decide +kernel
theorem dL_law_475 : decode cL_law 475 = .ok (.if_icmp .eq 239, 3) := by decide +kernel
theorem dL_law_478 : decode cL_law 478 = .ok (.iconst 0, 1) := by decide +kernel
theorem dL_law_479 : decode cL_law 479 = .ok (.ireturn, 1) := by decide +kernel
theorem dL_law_480 : decode cL_law 480 = .ok (.aload_n 1, 1) := by decide +kernel
theorem dL_law_481 : decode cL_law 481 = .ok (.invokevirtual 65, 3) := by decide +kernel
theorem dL_law_484 : decode cL_law 484 = .ok (.aload_n 2, 1) := by decide +kernel
theorem dL_law_485 : decode cL_law 485 = .ok (.invokevirtual 68, 3) := by decide +kernel
theorem dL_law_488 : decode cL_law 488 = .ok (.if_icmp .eq 226, 3) := by decide +kernel
theorem dL_law_491 : decode cL_law 491 = .ok (.iconst 0, 1) := by decide +kernel
theorem dL_law_492 : decode cL_law 492 = .ok (.ireturn, 1) := by decide +kernel
theorem dL_law_493 : decode cL_law 493 = .ok (.aload_n 1, 1) := by decide +kernel
theorem dL_law_494 : decode cL_law 494 = .ok (.aload_n 0, 1) := by decide +kernel
theorem dL_law_495 : decode cL_law 495 = .ok (.iload_n 3, 1) := by decide +kernel
theorem dL_law_496 : decode cL_law 496 = .ok (.iconst 1, 1) := by decide +kernel
theorem dL_law_497 : decode cL_law 497 = .ok (.iadd, 1) := by decide +kernel
theorem dL_law_498 : decode cL_law 498 = .ok (.iaload, 1) := by decide +kernel
theorem dL_law_499 : decode cL_law 499 = .ok (.aload_n 0, 1) := by decide +kernel
theorem dL_law_500 : decode cL_law 500 = .ok (.iload_n 3, 1) := by decide +kernel
theorem dL_law_501 : decode cL_law 501 = .ok (.iconst 2, 1) := by decide +kernel
theorem dL_law_502 : decode cL_law 502 = .ok (.iadd, 1) := by decide +kernel
theorem dL_law_503 : decode cL_law 503 = .ok (.iaload, 1) := by decide +kernel
theorem dL_law_504 : decode cL_law 504 = .ok (.invokevirtual 69, 3) := by decide +kernel
theorem dL_law_507 : decode cL_law 507 = .ok (.aload_n 2, 1) := by decide +kernel
theorem dL_law_508 : decode cL_law 508 = .ok (.aload_n 0, 1) := by decide +kernel
theorem dL_law_509 : decode cL_law 509 = .ok (.iload_n 3, 1) := by decide +kernel
theorem dL_law_510 : decode cL_law 510 = .ok (.iconst 1, 1) := by decide +kernel
theorem dL_law_511 : decode cL_law 511 = .ok (.iadd, 1) := by decide +kernel
theorem dL_law_512 : decode cL_law 512 = .ok (.iaload, 1) := by decide +kernel
theorem dL_law_513 : decode cL_law 513 = .ok (.aload_n 0, 1) := by decide +kernel
theorem dL_law_514 : decode cL_law 514 = .ok (.iload_n 3, 1) := by decide +kernel
theorem dL_law_515 : decode cL_law 515 = .ok (.iconst 2, 1) := by decide +kernel
theorem dL_law_516 : decode cL_law 516 = .ok (.iadd, 1) := by decide +kernel
theorem dL_law_517 : decode cL_law 517 = .ok (.iaload, 1) := by decide +kernel
theorem dL_law_518 : decode cL_law 518 = .ok (.invokevirtual 72, 3) := by decide +kernel
theorem dL_law_521 : decode cL_law 521 = .ok (.if_icmp .eq 193, 3) := by decide +kernel
theorem dL_law_524 : decode cL_law 524 = .ok (.iconst 0, 1) := by decide +kernel
theorem dL_law_525 : decode cL_law 525 = .ok (.ireturn, 1) := by decide +kernel
theorem dL_law_526 : decode cL_law 526 = .ok (.aload_n 1, 1) := by decide +kernel
theorem dL_law_527 : decode cL_law 527 = .ok (.aload_n 0, 1) := by decide +kernel
theorem dL_law_528 : decode cL_law 528 = .ok (.iload_n 3, 1) := by decide +kernel
theorem dL_law_529 : decode cL_law 529 = .ok (.iconst 1, 1) := by decide +kernel
theorem dL_law_530 : decode cL_law 530 = .ok (.iadd, 1) := by decide +kernel
theorem dL_law_531 : decode cL_law 531 = .ok (.iaload, 1) := by decide +kernel
theorem dL_law_532 : decode cL_law 532 = .ok (.aload_n 0, 1) := by decide +kernel
theorem dL_law_533 : decode cL_law 533 = .ok (.iload_n 3, 1) := by decide +kernel
theorem dL_law_534 : decode cL_law 534 = .ok (.iconst 2, 1) := by decide +kernel
theorem dL_law_535 : decode cL_law 535 = .ok (.iadd, 1) := by decide +kernel
theorem dL_law_536 : decode cL_law 536 = .ok (.iaload, 1) := by decide +kernel
theorem dL_law_537 : decode cL_law 537 = .ok (.aload_n 0, 1) := by decide +kernel
theorem dL_law_538 : decode cL_law 538 = .ok (.iload_n 3, 1) := by decide +kernel
theorem dL_law_539 : decode cL_law 539 = .ok (.iconst 3, 1) := by decide +kernel
theorem dL_law_540 : decode cL_law 540 = .ok (.iadd, 1) := by decide +kernel
theorem dL_law_541 : decode cL_law 541 = .ok (.iaload, 1) := by decide +kernel
theorem dL_law_542 : decode cL_law 542 = .ok (.aload_n 0, 1) := by decide +kernel
theorem dL_law_543 : decode cL_law 543 = .ok (.iload_n 3, 1) := by decide +kernel
theorem dL_law_544 : decode cL_law 544 = .ok (.iconst 4, 1) := by decide +kernel
theorem dL_law_545 : decode cL_law 545 = .ok (.iadd, 1) := by decide +kernel
theorem dL_law_546 : decode cL_law 546 = .ok (.iaload, 1) := by decide +kernel
theorem dL_law_547 : decode cL_law 547 = .ok (.ifCond .eq 7, 3) := by decide +kernel
theorem dL_law_550 : decode cL_law 550 = .ok (.iconst 1, 1) := by decide +kernel
theorem dL_law_551 : decode cL_law 551 = .ok (.goto 4, 3) := by decide +kernel
theorem dL_law_554 : decode cL_law 554 = .ok (.iconst 0, 1) := by decide +kernel
theorem dL_law_555 : decode cL_law 555 = .ok (.invokevirtual 73, 3) := by decide +kernel
theorem dL_law_558 : decode cL_law 558 = .ok (.aload_n 2, 1) := by decide +kernel
theorem dL_law_559 : decode cL_law 559 = .ok (.aload_n 0, 1) := by decide +kernel
theorem dL_law_560 : decode cL_law 560 = .ok (.iload_n 3, 1) := by decide +kernel
theorem dL_law_561 : decode cL_law 561 = .ok (.iconst 1, 1) := by decide +kernel
theorem dL_law_562 : decode cL_law 562 = .ok (.iadd, 1) := by decide +kernel
theorem dL_law_563 : decode cL_law 563 = .ok (.iaload, 1) := by decide +kernel
theorem dL_law_564 : decode cL_law 564 = .ok (.aload_n 0, 1) := by decide +kernel
theorem dL_law_565 : decode cL_law 565 = .ok (.iload_n 3, 1) := by decide +kernel
theorem dL_law_566 : decode cL_law 566 = .ok (.iconst 2, 1) := by decide +kernel
theorem dL_law_567 : decode cL_law 567 = .ok (.iadd, 1) := by decide +kernel
theorem dL_law_568 : decode cL_law 568 = .ok (.iaload, 1) := by decide +kernel
theorem dL_law_569 : decode cL_law 569 = .ok (.aload_n 0, 1) := by decide +kernel
theorem dL_law_570 : decode cL_law 570 = .ok (.iload_n 3, 1) := by decide +kernel
theorem dL_law_571 : decode cL_law 571 = .ok (.iconst 3, 1) := by decide +kernel
theorem dL_law_572 : decode cL_law 572 = .ok (.iadd, 1) := by decide +kernel
theorem dL_law_573 : decode cL_law 573 = .ok (.iaload, 1) := by decide +kernel
theorem dL_law_574 : decode cL_law 574 = .ok (.aload_n 0, 1) := by decide +kernel
theorem dL_law_575 : decode cL_law 575 = .ok (.iload_n 3, 1) := by decide +kernel
theorem dL_law_576 : decode cL_law 576 = .ok (.iconst 4, 1) := by decide +kernel
theorem dL_law_577 : decode cL_law 577 = .ok (.iadd, 1) := by decide +kernel
theorem dL_law_578 : decode cL_law 578 = .ok (.iaload, 1) := by decide +kernel
theorem dL_law_579 : decode cL_law 579 = .ok (.ifCond .eq 7, 3) := by decide +kernel
theorem dL_law_582 : decode cL_law 582 = .ok (.iconst 1, 1) := by decide +kernel
theorem dL_law_583 : decode cL_law 583 = .ok (.goto 4, 3) := by decide +kernel
theorem dL_law_586 : decode cL_law 586 = .ok (.iconst 0, 1) := by decide +kernel
theorem dL_law_587 : decode cL_law 587 = .ok (.invokevirtual 77, 3) := by decide +kernel
theorem dL_law_590 : decode cL_law 590 = .ok (.if_icmp .eq 124, 3) := by decide +kernel
theorem dL_law_593 : decode cL_law 593 = .ok (.iconst 0, 1) := by decide +kernel
theorem dL_law_594 : decode cL_law 594 = .ok (.ireturn, 1) := by decide +kernel
theorem dL_law_595 : decode cL_law 595 = .ok (.aload_n 1, 1) := by decide +kernel
theorem dL_law_596 : decode cL_law 596 = .ok (.invokevirtual 78, 3) := by decide +kernel
theorem dL_law_599 : decode cL_law 599 = .ok (.aload_n 2, 1) := by decide +kernel
theorem dL_law_600 : decode cL_law 600 = .ok (.invokevirtual 81, 3) := by decide +kernel
theorem dL_law_603 : decode cL_law 603 = .ok (.if_icmp .eq 111, 3) := by decide +kernel
theorem dL_law_606 : decode cL_law 606 = .ok (.iconst 0, 1) := by decide +kernel
theorem dL_law_607 : decode cL_law 607 = .ok (.ireturn, 1) := by decide +kernel
theorem dL_law_608 : decode cL_law 608 = .ok (.aload_n 1, 1) := by decide +kernel
theorem dL_law_609 : decode cL_law 609 = .ok (.aload_n 0, 1) := by decide +kernel
theorem dL_law_610 : decode cL_law 610 = .ok (.iload_n 3, 1) := by decide +kernel
theorem dL_law_611 : decode cL_law 611 = .ok (.iconst 1, 1) := by decide +kernel
theorem dL_law_612 : decode cL_law 612 = .ok (.iadd, 1) := by decide +kernel
theorem dL_law_613 : decode cL_law 613 = .ok (.iaload, 1) := by decide +kernel
theorem dL_law_614 : decode cL_law 614 = .ok (.aload_n 0, 1) := by decide +kernel
theorem dL_law_615 : decode cL_law 615 = .ok (.iload_n 3, 1) := by decide +kernel
theorem dL_law_616 : decode cL_law 616 = .ok (.iconst 2, 1) := by decide +kernel
theorem dL_law_617 : decode cL_law 617 = .ok (.iadd, 1) := by decide +kernel
theorem dL_law_618 : decode cL_law 618 = .ok (.iaload, 1) := by decide +kernel
theorem dL_law_619 : decode cL_law 619 = .ok (.aload_n 0, 1) := by decide +kernel
theorem dL_law_620 : decode cL_law 620 = .ok (.iload_n 3, 1) := by decide +kernel
theorem dL_law_621 : decode cL_law 621 = .ok (.iconst 3, 1) := by decide +kernel
theorem dL_law_622 : decode cL_law 622 = .ok (.iadd, 1) := by decide +kernel
theorem dL_law_623 : decode cL_law 623 = .ok (.iaload, 1) := by decide +kernel
theorem dL_law_624 : decode cL_law 624 = .ok (.invokevirtual 82, 3) := by decide +kernel
theorem dL_law_627 : decode cL_law 627 = .ok (.aload_n 2, 1) := by decide +kernel
theorem dL_law_628 : decode cL_law 628 = .ok (.aload_n 0, 1) := by decide +kernel
theorem dL_law_629 : decode cL_law 629 = .ok (.iload_n 3, 1) := by decide +kernel
theorem dL_law_630 : decode cL_law 630 = .ok (.iconst 1, 1) := by decide +kernel
theorem dL_law_631 : decode cL_law 631 = .ok (.iadd, 1) := by decide +kernel
theorem dL_law_632 : decode cL_law 632 = .ok (.iaload, 1) := by decide +kernel
theorem dL_law_633 : decode cL_law 633 = .ok (.aload_n 0, 1) := by decide +kernel
theorem dL_law_634 : decode cL_law 634 = .ok (.iload_n 3, 1) := by decide +kernel
theorem dL_law_635 : decode cL_law 635 = .ok (.iconst 2, 1) := by decide +kernel
theorem dL_law_636 : decode cL_law 636 = .ok (.iadd, 1) := by decide +kernel
theorem dL_law_637 : decode cL_law 637 = .ok (.iaload, 1) := by decide +kernel
theorem dL_law_638 : decode cL_law 638 = .ok (.aload_n 0, 1) := by decide +kernel
theorem dL_law_639 : decode cL_law 639 = .ok (.iload_n 3, 1) := by decide +kernel
theorem dL_law_640 : decode cL_law 640 = .ok (.iconst 3, 1) := by decide +kernel
theorem dL_law_641 : decode cL_law 641 = .ok (.iadd, 1) := by decide +kernel
theorem dL_law_642 : decode cL_law 642 = .ok (.iaload, 1) := by decide +kernel
theorem dL_law_643 : decode cL_law 643 = .ok (.invokevirtual 86, 3) := by decide +kernel
theorem dL_law_646 : decode cL_law 646 = .ok (.if_icmp .eq 68, 3) := by decide +kernel
theorem dL_law_649 : decode cL_law 649 = .ok (.iconst 0, 1) := by decide +kernel
theorem dL_law_650 : decode cL_law 650 = .ok (.ireturn, 1) := by decide +kernel
theorem dL_law_651 : decode cL_law 651 = .ok (.aload_n 1, 1) := by decide +kernel
theorem dL_law_652 : decode cL_law 652 = .ok (.invokevirtual 87, 3) := by decide +kernel
theorem dL_law_655 : decode cL_law 655 = .ok (.aload_n 2, 1) := by decide +kernel
theorem dL_law_656 : decode cL_law 656 = .ok (.invokevirtual 90, 3) := by decide +kernel
theorem dL_law_659 : decode cL_law 659 = .ok (.if_icmp .eq 55, 3) := by decide +kernel
theorem dL_law_662 : decode cL_law 662 = .ok (.iconst 0, 1) := by decide +kernel
theorem dL_law_663 : decode cL_law 663 = .ok (.ireturn, 1) := by decide +kernel
theorem dL_law_664 : decode cL_law 664 = .ok (.aload_n 1, 1) := by decide +kernel
theorem dL_law_665 : decode cL_law 665 = .ok (.invokevirtual 91, 3) := by decide +kernel
theorem dL_law_668 : decode cL_law 668 = .ok (.aload_n 2, 1) := by decide +kernel
theorem dL_law_669 : decode cL_law 669 = .ok (.invokevirtual 94, 3) := by decide +kernel
theorem dL_law_672 : decode cL_law 672 = .ok (.if_icmp .eq 42, 3) := by decide +kernel
theorem dL_law_675 : decode cL_law 675 = .ok (.iconst 0, 1) := by decide +kernel
theorem dL_law_676 : decode cL_law 676 = .ok (.ireturn, 1) := by decide +kernel
theorem dL_law_677 : decode cL_law 677 = .ok (.aload_n 1, 1) := by decide +kernel
theorem dL_law_678 : decode cL_law 678 = .ok (.aload_n 0, 1) := by decide +kernel
theorem dL_law_679 : decode cL_law 679 = .ok (.iload_n 3, 1) := by decide +kernel
theorem dL_law_680 : decode cL_law 680 = .ok (.iconst 1, 1) := by decide +kernel
theorem dL_law_681 : decode cL_law 681 = .ok (.iadd, 1) := by decide +kernel
theorem dL_law_682 : decode cL_law 682 = .ok (.iaload, 1) := by decide +kernel
theorem dL_law_683 : decode cL_law 683 = .ok (.invokevirtual 95, 3) := by decide +kernel
theorem dL_law_686 : decode cL_law 686 = .ok (.aload_n 2, 1) := by decide +kernel
theorem dL_law_687 : decode cL_law 687 = .ok (.aload_n 0, 1) := by decide +kernel
theorem dL_law_688 : decode cL_law 688 = .ok (.iload_n 3, 1) := by decide +kernel
theorem dL_law_689 : decode cL_law 689 = .ok (.iconst 1, 1) := by decide +kernel
theorem dL_law_690 : decode cL_law 690 = .ok (.iadd, 1) := by decide +kernel
theorem dL_law_691 : decode cL_law 691 = .ok (.iaload, 1) := by decide +kernel
theorem dL_law_692 : decode cL_law 692 = .ok (.invokevirtual 98, 3) := by decide +kernel
theorem dL_law_695 : decode cL_law 695 = .ok (.if_icmp .eq 19, 3) := by decide +kernel
theorem dL_law_698 : decode cL_law 698 = .ok (.iconst 0, 1) := by decide +kernel
theorem dL_law_699 : decode cL_law 699 = .ok (.ireturn, 1) := by decide +kernel
theorem dL_law_700 : decode cL_law 700 = .ok (.aload_n 1, 1) := by decide +kernel
theorem dL_law_701 : decode cL_law 701 = .ok (.invokevirtual 99, 3) := by decide +kernel
theorem dL_law_704 : decode cL_law 704 = .ok (.aload_n 2, 1) := by decide +kernel
theorem dL_law_705 : decode cL_law 705 = .ok (.invokevirtual 103, 3) := by decide +kernel
theorem dL_law_708 : decode cL_law 708 = .ok (.lcmp, 1) := by decide +kernel
theorem dL_law_709 : decode cL_law 709 = .ok (.ifCond .eq 5, 3) := by decide +kernel
theorem dL_law_712 : decode cL_law 712 = .ok (.iconst 0, 1) := by decide +kernel
theorem dL_law_713 : decode cL_law 713 = .ok (.ireturn, 1) := by decide +kernel
theorem dL_law_714 : decode cL_law 714 = .ok (.iinc 3 5, 3) := by decide +kernel
theorem dL_law_717 : decode cL_law 717 = .ok (.goto (-699), 3) := by decide +kernel
theorem dL_law_720 : decode cL_law 720 = .ok (.iconst 1, 1) := by decide +kernel
theorem dL_law_721 : decode cL_law 721 = .ok (.ireturn, 1) := by decide +kernel
abbrev vwCl : List vw_C := [(RX0, TX0, 0), (RX1, TX1, 10), (RX2, TX2, 0), (RX3, TX3, 0), (RX4, TX4, 5), (RX5, TX5, 2), (RX6, TX6, 0), (RX7, TX7, 0), (RX8, TX8, 5), (RX9, TX9, 11), (RX10, TX10, 26)]
