/-! ===== BEGIN words of one list among another's, by their places ===== -/
theorem goodIn_r {big : List Cond} (ws : List Cond) (ps : List Nat) (hp : ws = ps.filterMap (fun i => big[i]?)) (h : ws.all goodWord = true) : GoodIn big ws := by
  intro w hw
  have h1 := List.all_eq_true.mp h w hw
  rw [hp] at hw
  obtain ⟨i, -, hi⟩ := List.mem_filterMap.mp hw
  have hm : w ∈ big := by first | exact List.mem_of_getElem? hi | exact List.getElem?_mem hi
  exact ⟨hm, good_of_word h1⟩
theorem goodIn_app {big a b : List Cond} (ha : GoodIn big a) (hb : GoodIn big b) : GoodIn big (a ++ b) := fun w h => (List.mem_append.mp h).elim (ha w) (hb w)
theorem goodIn_ca {big a b : List Cond} {c : Cond} (ha : GoodIn big (c :: a)) (hb : GoodIn big b) : GoodIn big (c :: (a ++ b)) := fun w h => (List.mem_cons.mp h).elim (fun e => ha w (List.mem_cons.mpr (Or.inl e))) (fun h => (List.mem_append.mp h).elim (fun h => ha w (List.mem_cons.mpr (Or.inr h))) (hb w))
theorem goodIn_sub {big ws : List Cond} (hm : ∀ w ∈ ws, w ∈ big) (h : ws.all goodWord = true) : GoodIn big ws := fun w hw => ⟨hm w hw, good_of_word (List.all_eq_true.mp h w hw)⟩
/-! ===== END ===== -/

/-! ===== BEGIN printed: names, fields, word lists, decode rows ===== -/
def RX0 : String := "RadioCues$Channel"
def TX0 : u_T := fun k => match k with
  | 0 => ("RadioCues$Channel", "level", "I", false)
  | _ => ("RadioCues$Channel", "goal", "I", false)
def tyX0 : Nat → FieldType := fun k => match k with
  | 0 => .int
  | _ => .int
abbrev wsX00 : List Cond := u_ws RX0 TX0 2
theorem nmX0 : ∀ a, a < 2 → ∀ b, b < 2 → a ≠ b → (TX0 a).2.1 ≠ (TX0 b).2.1 := by decide +kernel
theorem tyX0_ok : ∀ k, k < 2 → parseFieldDescriptor (TX0 k).2.2.1 = some (tyX0 k) := by decide +kernel
abbrev cX0_init : ByteArray := prog_2_method_1_code
def yX0_init : MethodName := ⟨RX0, "<init>", "()V"⟩
abbrev cX0_fade : ByteArray := prog_2_method_2_code
def yX0_fade : MethodName := ⟨RX0, "fade", "(I)V"⟩
def RX1 : String := "RadioCues$Cue"
def TX1 : u_T := fun k => match k with
  | 0 => ("RadioCues$Cue", "second", "I", false)
  | 1 => ("RadioCues$Cue", "kind", "I", false)
  | 2 => ("RadioCues$Cue", "where", "I", false)
  | 3 => ("RadioCues$Cue", "value", "I", false)
  | _ => ("RadioCues$Cue", "fate", "I", false)
def tyX1 : Nat → FieldType := fun k => match k with
  | 0 => .int
  | 1 => .int
  | 2 => .int
  | 3 => .int
  | _ => .int
abbrev wsX10 : List Cond := u_ws RX1 TX1 5
theorem nmX1 : ∀ a, a < 5 → ∀ b, b < 5 → a ≠ b → (TX1 a).2.1 ≠ (TX1 b).2.1 := by decide +kernel
theorem tyX1_ok : ∀ k, k < 5 → parseFieldDescriptor (TX1 k).2.2.1 = some (tyX1 k) := by decide +kernel
abbrev cX1_init : ByteArray := prog_3_method_1_code
def yX1_init : MethodName := ⟨RX1, "<init>", "()V"⟩
abbrev cX1_copyFrom : ByteArray := prog_3_method_2_code
def yX1_copyFrom : MethodName := ⟨RX1, "copyFrom", "(LRadioCues$Cue;)V"⟩
def RX2 : String := "RadioCues$Doors"
def TX2 : u_T := fun k => match k with
  | 0 => ("RadioCues$Doors", "channel", "[I", true)
  | 1 => ("RadioCues$Doors", "loudness", "[I", true)
  | 2 => ("RadioCues$Doors", "left", "[I", true)
  | _ => ("RadioCues$Doors", "count", "I", false)
def tyX2 : Nat → FieldType := fun k => match k with
  | 0 => .array .int
  | 1 => .array .int
  | 2 => .array .int
  | _ => .int
abbrev wsX20 : List Cond := u_ws RX2 TX2 4
theorem nmX2 : ∀ a, a < 4 → ∀ b, b < 4 → a ≠ b → (TX2 a).2.1 ≠ (TX2 b).2.1 := by decide +kernel
theorem tyX2_ok : ∀ k, k < 4 → parseFieldDescriptor (TX2 k).2.2.1 = some (tyX2 k) := by decide +kernel
abbrev cX2_init : ByteArray := prog_4_method_1_code
def yX2_init : MethodName := ⟨RX2, "<init>", "()V"⟩
abbrev cX2_copyFrom : ByteArray := prog_4_method_2_code
def yX2_copyFrom : MethodName := ⟨RX2, "copyFrom", "(LRadioCues$Doors;)V"⟩
abbrev cX2_slam : ByteArray := prog_4_method_3_code
def yX2_slam : MethodName := ⟨RX2, "slam", "(III)V"⟩
abbrev cX2_hearSecond : ByteArray := prog_4_method_4_code
def yX2_hearSecond : MethodName := ⟨RX2, "hearSecond", "()V"⟩
abbrev cX2_countOn : ByteArray := prog_4_method_5_code
def yX2_countOn : MethodName := ⟨RX2, "countOn", "(I)I"⟩
def RX3 : String := "RadioCues$Pad"
def TX3 : u_T := fun k => match k with
  | 0 => ("RadioCues$Pad", "characters", "[C", true)
  | 1 => ("RadioCues$Pad", "length", "I", false)
  | 2 => ("RadioCues$Pad", "at", "I", false)
  | 3 => ("RadioCues$Pad", "letter", "C", false)
  | 4 => ("RadioCues$Pad", "numbers", "[I", true)
  | _ => ("RadioCues$Pad", "numberCount", "I", false)
def tyX3 : Nat → FieldType := fun k => match k with
  | 0 => .array .char
  | 1 => .int
  | 2 => .int
  | 3 => .char
  | 4 => .array .int
  | _ => .int
abbrev wsX30 : List Cond := u_ws RX3 TX3 6
theorem nmX3 : ∀ a, a < 6 → ∀ b, b < 6 → a ≠ b → (TX3 a).2.1 ≠ (TX3 b).2.1 := by decide +kernel
theorem tyX3_ok : ∀ k, k < 6 → parseFieldDescriptor (TX3 k).2.2.1 = some (tyX3 k) := by decide +kernel
abbrev cX3_init : ByteArray := prog_5_method_1_code
def yX3_init : MethodName := ⟨RX3, "<init>", "()V"⟩
def RX4 : String := "RadioCues$Play"
def TX4 : u_T := fun k => match k with
  | 0 => ("RadioCues$Play", "settings", "[I", true)
  | 1 => ("RadioCues$Play", "script", "LRadioCues$Script;", true)
  | 2 => ("RadioCues$Play", "reels", "[LRadioCues$Reel;", true)
  | 3 => ("RadioCues$Play", "channels", "[LRadioCues$Channel;", true)
  | 4 => ("RadioCues$Play", "doors", "LRadioCues$Doors;", true)
  | 5 => ("RadioCues$Play", "firsts", "[I", true)
  | 6 => ("RadioCues$Play", "firstCount", "I", false)
  | 7 => ("RadioCues$Play", "heard", "[I", true)
  | _ => ("RadioCues$Play", "now", "I", false)
def tyX4 : Nat → FieldType := fun k => match k with
  | 0 => .array .int
  | 1 => .object "RadioCues$Script"
  | 2 => .array (.object "RadioCues$Reel")
  | 3 => .array (.object "RadioCues$Channel")
  | 4 => .object "RadioCues$Doors"
  | 5 => .array .int
  | 6 => .int
  | 7 => .array .int
  | _ => .int
abbrev wsX40 : List Cond := u_ws RX4 TX4 9
theorem nmX4 : ∀ a, a < 9 → ∀ b, b < 9 → a ≠ b → (TX4 a).2.1 ≠ (TX4 b).2.1 := by decide +kernel
theorem tyX4_ok : ∀ k, k < 9 → parseFieldDescriptor (TX4 k).2.2.1 = some (tyX4 k) := by decide +kernel
abbrev cX4_init : ByteArray := prog_6_method_1_code
def yX4_init : MethodName := ⟨RX4, "<init>", "()V"⟩
abbrev cX4_copyFrom : ByteArray := prog_6_method_2_code
def yX4_copyFrom : MethodName := ⟨RX4, "copyFrom", "(LRadioCues$Play;)V"⟩
abbrev cX4_changeSetting : ByteArray := prog_6_method_3_code
def yX4_changeSetting : MethodName := ⟨RX4, "changeSetting", "(II)I"⟩
abbrev cX4_addSound : ByteArray := prog_6_method_4_code
def yX4_addSound : MethodName := ⟨RX4, "addSound", "(III)I"⟩
abbrev cX4_addCue : ByteArray := prog_6_method_5_code
def yX4_addCue : MethodName := ⟨RX4, "addCue", "(IIII)I"⟩
abbrev cX4_moveCue : ByteArray := prog_6_method_6_code
def yX4_moveCue : MethodName := ⟨RX4, "moveCue", "(II)I"⟩
abbrev cX4_putGoal : ByteArray := prog_6_method_7_code
def yX4_putGoal : MethodName := ⟨RX4, "putGoal", "(II)I"⟩
abbrev cX4_beginAnew : ByteArray := prog_6_method_8_code
def yX4_beginAnew : MethodName := ⟨RX4, "beginAnew", "()I"⟩
abbrev cX4_runSeconds : ByteArray := prog_6_method_9_code
def yX4_runSeconds : MethodName := ⟨RX4, "runSeconds", "(I)I"⟩
abbrev cX4_reelAt : ByteArray := prog_6_method_10_code
def yX4_reelAt : MethodName := ⟨RX4, "reelAt", "(I)LRadioCues$Reel;"⟩
abbrev cX4_soundAt : ByteArray := prog_6_method_11_code
def yX4_soundAt : MethodName := ⟨RX4, "soundAt", "(II)LRadioCues$Sound;"⟩
abbrev cX4_channelAt : ByteArray := prog_6_method_12_code
def yX4_channelAt : MethodName := ⟨RX4, "channelAt", "(I)LRadioCues$Channel;"⟩
abbrev cX4_runSecond : ByteArray := prog_6_method_13_code
def yX4_runSecond : MethodName := ⟨RX4, "runSecond", "()I"⟩
abbrev cX4_letCuesCome : ByteArray := prog_6_method_14_code
def yX4_letCuesCome : MethodName := ⟨RX4, "letCuesCome", "()V"⟩
abbrev cX4_callSound : ByteArray := prog_6_method_15_code
def yX4_callSound : MethodName := ⟨RX4, "callSound", "(II)I"⟩
abbrev cX4_loudnessOfReels : ByteArray := prog_6_method_16_code
def yX4_loudnessOfReels : MethodName := ⟨RX4, "loudnessOfReels", "()I"⟩
abbrev cX4_loudnessOfDoors : ByteArray := prog_6_method_17_code
def yX4_loudnessOfDoors : MethodName := ⟨RX4, "loudnessOfDoors", "()I"⟩
abbrev cX4_heardOn : ByteArray := prog_6_method_18_code
def yX4_heardOn : MethodName := ⟨RX4, "heardOn", "(II)I"⟩
abbrev cX4_windReels : ByteArray := prog_6_method_19_code
def yX4_windReels : MethodName := ⟨RX4, "windReels", "()V"⟩
abbrev cX4_playingReels : ByteArray := prog_6_method_21_code
def yX4_playingReels : MethodName := ⟨RX4, "playingReels", "()I"⟩
abbrev cX4_loudestSecond : ByteArray := prog_6_method_22_code
def yX4_loudestSecond : MethodName := ⟨RX4, "loudestSecond", "()I"⟩
abbrev cX4_tooLoudSeconds : ByteArray := prog_6_method_23_code
def yX4_tooLoudSeconds : MethodName := ⟨RX4, "tooLoudSeconds", "()I"⟩
abbrev cX4_secondsHeard : ByteArray := prog_6_method_24_code
def yX4_secondsHeard : MethodName := ⟨RX4, "secondsHeard", "()I"⟩
def RX5 : String := "RadioCues$Reel"
def TX5 : u_T := fun k => match k with
  | 0 => ("RadioCues$Reel", "sounds", "[LRadioCues$Sound;", true)
  | 1 => ("RadioCues$Reel", "count", "I", false)
  | 2 => ("RadioCues$Reel", "place", "I", false)
  | 3 => ("RadioCues$Reel", "playing", "I", false)
  | _ => ("RadioCues$Reel", "left", "I", false)
def tyX5 : Nat → FieldType := fun k => match k with
  | 0 => .array (.object "RadioCues$Sound")
  | 1 => .int
  | 2 => .int
  | 3 => .int
  | _ => .int
abbrev wsX50 : List Cond := u_ws RX5 TX5 5
theorem nmX5 : ∀ a, a < 5 → ∀ b, b < 5 → a ≠ b → (TX5 a).2.1 ≠ (TX5 b).2.1 := by decide +kernel
theorem tyX5_ok : ∀ k, k < 5 → parseFieldDescriptor (TX5 k).2.2.1 = some (tyX5 k) := by decide +kernel
abbrev cX5_init : ByteArray := prog_7_method_1_code
def yX5_init : MethodName := ⟨RX5, "<init>", "()V"⟩
abbrev cX5_copyFrom : ByteArray := prog_7_method_2_code
def yX5_copyFrom : MethodName := ⟨RX5, "copyFrom", "(LRadioCues$Reel;)V"⟩
abbrev cX5_rewind : ByteArray := prog_7_method_3_code
def yX5_rewind : MethodName := ⟨RX5, "rewind", "()V"⟩
abbrev cX5_soundNumbered : ByteArray := prog_7_method_4_code
def yX5_soundNumbered : MethodName := ⟨RX5, "soundNumbered", "(I)LRadioCues$Sound;"⟩
abbrev cX5_tapeLength : ByteArray := prog_7_method_5_code
def yX5_tapeLength : MethodName := ⟨RX5, "tapeLength", "()I"⟩
abbrev cX5_appendSound : ByteArray := prog_7_method_6_code
def yX5_appendSound : MethodName := ⟨RX5, "appendSound", "(II)I"⟩
abbrev cX5_playSecond : ByteArray := prog_7_method_7_code
def yX5_playSecond : MethodName := ⟨RX5, "playSecond", "()V"⟩
def RX6 : String := "RadioCues$Script"
def TX6 : u_T := fun k => match k with
  | 0 => ("RadioCues$Script", "cues", "[LRadioCues$Cue;", true)
  | 1 => ("RadioCues$Script", "count", "I", false)
  | _ => ("RadioCues$Script", "came", "I", false)
def tyX6 : Nat → FieldType := fun k => match k with
  | 0 => .array (.object "RadioCues$Cue")
  | 1 => .int
  | _ => .int
abbrev wsX60 : List Cond := u_ws RX6 TX6 3
theorem nmX6 : ∀ a, a < 3 → ∀ b, b < 3 → a ≠ b → (TX6 a).2.1 ≠ (TX6 b).2.1 := by decide +kernel
theorem tyX6_ok : ∀ k, k < 3 → parseFieldDescriptor (TX6 k).2.2.1 = some (tyX6 k) := by decide +kernel
abbrev cX6_init : ByteArray := prog_8_method_1_code
def yX6_init : MethodName := ⟨RX6, "<init>", "()V"⟩
abbrev cX6_copyFrom : ByteArray := prog_8_method_2_code
def yX6_copyFrom : MethodName := ⟨RX6, "copyFrom", "(LRadioCues$Script;)V"⟩
abbrev cX6_letAllCome : ByteArray := prog_8_method_3_code
def yX6_letAllCome : MethodName := ⟨RX6, "letAllCome", "()V"⟩
abbrev cX6_cueAt : ByteArray := prog_8_method_4_code
def yX6_cueAt : MethodName := ⟨RX6, "cueAt", "(I)LRadioCues$Cue;"⟩
abbrev cX6_anyToCome : ByteArray := prog_8_method_5_code
def yX6_anyToCome : MethodName := ⟨RX6, "anyToCome", "()Z"⟩
abbrev cX6_insertCue : ByteArray := prog_8_method_6_code
def yX6_insertCue : MethodName := ⟨RX6, "insertCue", "(IIII)I"⟩
abbrev cX6_removeCue : ByteArray := prog_8_method_7_code
def yX6_removeCue : MethodName := ⟨RX6, "removeCue", "(I)I"⟩
abbrev cX6_makeLast : ByteArray := prog_8_method_8_code
def yX6_makeLast : MethodName := ⟨RX6, "makeLast", "(I)V"⟩
abbrev cX6_sortLast : ByteArray := prog_8_method_9_code
def yX6_sortLast : MethodName := ⟨RX6, "sortLast", "()I"⟩
abbrev cX6_nextFor : ByteArray := prog_8_method_10_code
def yX6_nextFor : MethodName := ⟨RX6, "nextFor", "(I)I"⟩
abbrev cX6_countOf : ByteArray := prog_8_method_11_code
def yX6_countOf : MethodName := ⟨RX6, "countOf", "(I)I"⟩
abbrev cX6_missedCues : ByteArray := prog_8_method_12_code
def yX6_missedCues : MethodName := ⟨RX6, "missedCues", "()I"⟩
def RX7 : String := "RadioCues$Sound"
def TX7 : u_T := fun k => match k with
  | 0 => ("RadioCues$Sound", "seconds", "I", false)
  | 1 => ("RadioCues$Sound", "loudness", "I", false)
  | 2 => ("RadioCues$Sound", "begins", "I", false)
  | _ => ("RadioCues$Sound", "times", "I", false)
def tyX7 : Nat → FieldType := fun k => match k with
  | 0 => .int
  | 1 => .int
  | 2 => .int
  | _ => .int
abbrev wsX70 : List Cond := u_ws RX7 TX7 4
theorem nmX7 : ∀ a, a < 4 → ∀ b, b < 4 → a ≠ b → (TX7 a).2.1 ≠ (TX7 b).2.1 := by decide +kernel
theorem tyX7_ok : ∀ k, k < 4 → parseFieldDescriptor (TX7 k).2.2.1 = some (tyX7 k) := by decide +kernel
abbrev cX7_init : ByteArray := prog_9_method_1_code
def yX7_init : MethodName := ⟨RX7, "<init>", "()V"⟩
abbrev cX7_copyFrom : ByteArray := prog_9_method_2_code
def yX7_copyFrom : MethodName := ⟨RX7, "copyFrom", "(LRadioCues$Sound;)V"⟩
def RX8 : String := "RadioCues"
def TX8 : u_T := fun k => match k with
  | 0 => ("RadioCues", "play", "LRadioCues$Play;", false)
  | 1 => ("RadioCues", "trial", "LRadioCues$Play;", true)
  | 2 => ("RadioCues", "history", "[LRadioCues$Play;", true)
  | 3 => ("RadioCues", "kept", "I", false)
  | 4 => ("RadioCues", "slots", "[LRadioCues$Play;", true)
  | 5 => ("RadioCues", "saved", "[Z", true)
  | _ => ("RadioCues", "pad", "LRadioCues$Pad;", true)
def tyX8 : Nat → FieldType := fun k => match k with
  | 0 => .object "RadioCues$Play"
  | 1 => .object "RadioCues$Play"
  | 2 => .array (.object "RadioCues$Play")
  | 3 => .int
  | 4 => .array (.object "RadioCues$Play")
  | 5 => .array .boolean
  | _ => .object "RadioCues$Pad"
abbrev wsX80 : List Cond := u_ws RX8 TX8 7
theorem nmX8 : ∀ a, a < 7 → ∀ b, b < 7 → a ≠ b → (TX8 a).2.1 ≠ (TX8 b).2.1 := by decide +kernel
theorem tyX8_ok : ∀ k, k < 7 → parseFieldDescriptor (TX8 k).2.2.1 = some (tyX8 k) := by decide +kernel
abbrev cX8_init : ByteArray := prog_1_method_1_code
def yX8_init : MethodName := ⟨RX8, "<init>", "()V"⟩
abbrev cX8_set : ByteArray := prog_1_method_2_code
def yX8_set : MethodName := ⟨RX8, "set", "(II)I"⟩
abbrev cX8_sound : ByteArray := prog_1_method_3_code
def yX8_sound : MethodName := ⟨RX8, "sound", "(III)I"⟩
abbrev cX8_cue : ByteArray := prog_1_method_4_code
def yX8_cue : MethodName := ⟨RX8, "cue", "(IIII)I"⟩
abbrev cX8_takeOut : ByteArray := prog_1_method_5_code
def yX8_takeOut : MethodName := ⟨RX8, "takeOut", "(I)I"⟩
abbrev cX8_move : ByteArray := prog_1_method_6_code
def yX8_move : MethodName := ⟨RX8, "move", "(II)I"⟩
abbrev cX8_goal : ByteArray := prog_1_method_7_code
def yX8_goal : MethodName := ⟨RX8, "goal", "(II)I"⟩
abbrev cX8_begin : ByteArray := prog_1_method_8_code
def yX8_begin : MethodName := ⟨RX8, "begin", "()I"⟩
abbrev cX8_pass : ByteArray := prog_1_method_9_code
def yX8_pass : MethodName := ⟨RX8, "pass", "(I)I"⟩
abbrev cX8_ofCue : ByteArray := prog_1_method_10_code
def yX8_ofCue : MethodName := ⟨RX8, "ofCue", "(II)I"⟩
abbrev cX8_ofReel : ByteArray := prog_1_method_11_code
def yX8_ofReel : MethodName := ⟨RX8, "ofReel", "(II)I"⟩
abbrev cX8_ofSound : ByteArray := prog_1_method_12_code
def yX8_ofSound : MethodName := ⟨RX8, "ofSound", "(III)I"⟩
abbrev cX8_played : ByteArray := prog_1_method_13_code
def yX8_played : MethodName := ⟨RX8, "played", "(II)I"⟩
abbrev cX8_ofChannel : ByteArray := prog_1_method_14_code
def yX8_ofChannel : MethodName := ⟨RX8, "ofChannel", "(II)I"⟩
abbrev cX8_loud : ByteArray := prog_1_method_15_code
def yX8_loud : MethodName := ⟨RX8, "loud", "(I)I"⟩
abbrev cX8_count : ByteArray := prog_1_method_16_code
def yX8_count : MethodName := ⟨RX8, "count", "(I)I"⟩
abbrev cX8_becomes : ByteArray := prog_1_method_18_code
def yX8_becomes : MethodName := ⟨RX8, "becomes", "(I)I"⟩
abbrev cX8_within : ByteArray := prog_1_method_29_code
def yX8_within : MethodName := ⟨RX8, "within", "(III)Z"⟩
abbrev cX8_nearer : ByteArray := prog_1_method_30_code
def yX8_nearer : MethodName := ⟨RX8, "nearer", "(III)I"⟩
abbrev cX8_holdState : ByteArray := prog_1_method_31_code
def yX8_holdState : MethodName := ⟨RX8, "holdState", "()V"⟩
abbrev cX8_recorded : ByteArray := prog_1_method_32_code
def yX8_recorded : MethodName := ⟨RX8, "recorded", "(I)I"⟩
abbrev cX8_dropOldestState : ByteArray := prog_1_method_33_code
def yX8_dropOldestState : MethodName := ⟨RX8, "dropOldestState", "()V"⟩
abbrev cX8_missedInTrial : ByteArray := prog_1_method_34_code
def yX8_missedInTrial : MethodName := ⟨RX8, "missedInTrial", "()I"⟩
def RX9 : String := "RadioCuesModel"
def TX9 : u_T := fun k => match k with
  | _ => ("", "", "", false)
def tyX9 : Nat → FieldType := fun k => match k with
  | _ => .int
abbrev wsX90 : List Cond := u_ws RX9 TX9 0
theorem nmX9 : ∀ a, a < 0 → ∀ b, b < 0 → a ≠ b → (TX9 a).2.1 ≠ (TX9 b).2.1 := by decide +kernel
theorem tyX9_ok : ∀ k, k < 0 → parseFieldDescriptor (TX9 k).2.2.1 = some (tyX9 k) := by decide +kernel
def RJ9 : String := "java/lang/Math"
def TJ9 : u_T := fun k => match k with
  | _ => ("", "", "", false)
def tyJ9 : Nat → FieldType := fun k => match k with
  | _ => .int
abbrev wsJ90 : List Cond := u_ws RJ9 TJ9 0
theorem nmJ9 : ∀ a, a < 0 → ∀ b, b < 0 → a ≠ b → (TJ9 a).2.1 ≠ (TJ9 b).2.1 := by decide +kernel
theorem tyJ9_ok : ∀ k, k < 0 → parseFieldDescriptor (TJ9 k).2.2.1 = some (tyJ9 k) := by decide +kernel
abbrev cJ9_max_7cf53 : ByteArray := prog_12_method_65_code
def yJ9_max_7cf53 : MethodName := ⟨RJ9, "max", "(II)I"⟩
abbrev cJ9_min_7cf53 : ByteArray := prog_12_method_69_code
def yJ9_min_7cf53 : MethodName := ⟨RJ9, "min", "(II)I"⟩
def RJ10 : String := "java/lang/System"
def TJ10 : u_T := fun k => match k with
  | _ => ("", "", "", false)
def tyJ10 : Nat → FieldType := fun k => match k with
  | _ => .int
abbrev wsJ100 : List Cond := u_ws RJ10 TJ10 0
theorem nmJ10 : ∀ a, a < 0 → ∀ b, b < 0 → a ≠ b → (TJ10 a).2.1 ≠ (TJ10 b).2.1 := by decide +kernel
theorem tyJ10_ok : ∀ k, k < 0 → parseFieldDescriptor (TJ10 k).2.2.1 = some (tyJ10 k) := by decide +kernel
def RL : String := "RadioCuesLaw"
abbrev cL_cell : ByteArray := method_2_code
def yL_cell : MethodName := ⟨RL, "cell", "([II)I"⟩
abbrev cL_begins : ByteArray := method_4_code
def yL_begins : MethodName := ⟨RL, "begins", "([III)I"⟩
abbrev cL_toward : ByteArray := method_5_code
def yL_toward : MethodName := ⟨RL, "toward", "(III)I"⟩
abbrev cL_comes : ByteArray := method_6_code
def yL_comes : MethodName := ⟨RL, "comes", "([I[I[I[I[I[I[II)I"⟩
abbrev cL_goes : ByteArray := method_7_code
def yL_goes : MethodName := ⟨RL, "goes", "([I[I[I[I[I[I[I[I[I)I"⟩
abbrev cL_nextOf : ByteArray := method_8_code
def yL_nextOf : MethodName := ⟨RL, "nextOf", "([I[II)I"⟩
abbrev cL_insert : ByteArray := method_9_code
def yL_insert : MethodName := ⟨RL, "insert", "([I[I[IIII)V"⟩
abbrev cL_take : ByteArray := method_10_code
def yL_take : MethodName := ⟨RL, "take", "([I[I[II)V"⟩
abbrev cL_rankFor : ByteArray := method_11_code
def yL_rankFor : MethodName := ⟨RL, "rankFor", "([I[II)I"⟩
abbrev cL_areCues : ByteArray := method_12_code
def yL_areCues : MethodName := ⟨RL, "areCues", "(LRadioCues;[I[I[I)Z"⟩
abbrev cL_areReels : ByteArray := method_13_code
def yL_areReels : MethodName := ⟨RL, "areReels", "(LRadioCues;[I[I[I[I[I[I[I)Z"⟩
abbrev cL_isHeard : ByteArray := method_14_code
def yL_isHeard : MethodName := ⟨RL, "isHeard", "(LRadioCues;[I[I)Z"⟩
abbrev cL_isCue : ByteArray := method_15_code
def yL_isCue : MethodName := ⟨RL, "isCue", "(LRadioCues;[I[I[I[III)Z"⟩
abbrev cL_restart : ByteArray := method_16_code
def yL_restart : MethodName := ⟨RL, "restart", "([I[I[I[I[I)V"⟩
abbrev cL_isSet : ByteArray := method_17_code
def yL_isSet : MethodName := ⟨RL, "isSet", "(LRadioCues;[I[I[I[III)Z"⟩
abbrev cL_law : ByteArray := code
def yL_law : MethodName := ⟨RL, "law", "([I)Z"⟩
abbrev vwCl : List vw_C := [(RX0, TX0, 2), (RX1, TX1, 5), (RX2, TX2, 4), (RX3, TX3, 6), (RX4, TX4, 9), (RX5, TX5, 5), (RX6, TX6, 3), (RX7, TX7, 4), (RX8, TX8, 7)]
theorem dX0_init_0 : decode cX0_init 0 = .ok (.aload_n 0, 1) := by decide +kernel
theorem dX0_init_1 : decode cX0_init 1 = .ok (.invokespecial 3, 3) := by decide +kernel
theorem dX0_init_4 : decode cX0_init 4 = .ok (.aload_n 0, 1) := by decide +kernel
theorem dX0_init_5 : decode cX0_init 5 = .ok (.bipush 50, 2) := by decide +kernel
theorem dX0_init_7 : decode cX0_init 7 = .ok (.putfield 9, 3) := by decide +kernel
theorem dX0_init_10 : decode cX0_init 10 = .ok (.aload_n 0, 1) := by decide +kernel
theorem dX0_init_11 : decode cX0_init 11 = .ok (.bipush 50, 2) := by decide +kernel
theorem dX0_init_13 : decode cX0_init 13 = .ok (.putfield 15, 3) := by decide +kernel
theorem dX0_init_16 : decode cX0_init 16 = .ok (.return_, 1) := by decide +kernel
theorem dX0_fade_0 : decode cX0_fade 0 = .ok (.aload_n 0, 1) := by decide +kernel
theorem dX0_fade_1 : decode cX0_fade 1 = .ok (.aload_n 0, 1) := by decide +kernel
theorem dX0_fade_2 : decode cX0_fade 2 = .ok (.getfield 9, 3) := by decide +kernel
theorem dX0_fade_5 : decode cX0_fade 5 = .ok (.aload_n 0, 1) := by decide +kernel
theorem dX0_fade_6 : decode cX0_fade 6 = .ok (.getfield 15, 3) := by decide +kernel
theorem dX0_fade_9 : decode cX0_fade 9 = .ok (.iload_n 1, 1) := by decide +kernel
theorem dX0_fade_10 : decode cX0_fade 10 = .ok (.invokestatic 18, 3) := by decide +kernel
theorem dX0_fade_13 : decode cX0_fade 13 = .ok (.putfield 9, 3) := by decide +kernel
theorem dX0_fade_16 : decode cX0_fade 16 = .ok (.return_, 1) := by decide +kernel
theorem dX1_init_0 : decode cX1_init 0 = .ok (.aload_n 0, 1) := by decide +kernel
theorem dX1_init_1 : decode cX1_init 1 = .ok (.invokespecial 1, 3) := by decide +kernel
theorem dX1_init_4 : decode cX1_init 4 = .ok (.return_, 1) := by decide +kernel
theorem dX1_copyFrom_0 : decode cX1_copyFrom 0 = .ok (.aload_n 0, 1) := by decide +kernel
theorem dX1_copyFrom_1 : decode cX1_copyFrom 1 = .ok (.aload_n 1, 1) := by decide +kernel
theorem dX1_copyFrom_2 : decode cX1_copyFrom 2 = .ok (.getfield 7, 3) := by decide +kernel
theorem dX1_copyFrom_5 : decode cX1_copyFrom 5 = .ok (.putfield 7, 3) := by decide +kernel
theorem dX1_copyFrom_8 : decode cX1_copyFrom 8 = .ok (.aload_n 0, 1) := by decide +kernel
theorem dX1_copyFrom_9 : decode cX1_copyFrom 9 = .ok (.aload_n 1, 1) := by decide +kernel
theorem dX1_copyFrom_10 : decode cX1_copyFrom 10 = .ok (.getfield 13, 3) := by decide +kernel
theorem dX1_copyFrom_13 : decode cX1_copyFrom 13 = .ok (.putfield 13, 3) := by decide +kernel
theorem dX1_copyFrom_16 : decode cX1_copyFrom 16 = .ok (.aload_n 0, 1) := by decide +kernel
theorem dX1_copyFrom_17 : decode cX1_copyFrom 17 = .ok (.aload_n 1, 1) := by decide +kernel
theorem dX1_copyFrom_18 : decode cX1_copyFrom 18 = .ok (.getfield 16, 3) := by decide +kernel
theorem dX1_copyFrom_21 : decode cX1_copyFrom 21 = .ok (.putfield 16, 3) := by decide +kernel
theorem dX1_copyFrom_24 : decode cX1_copyFrom 24 = .ok (.aload_n 0, 1) := by decide +kernel
theorem dX1_copyFrom_25 : decode cX1_copyFrom 25 = .ok (.aload_n 1, 1) := by decide +kernel
theorem dX1_copyFrom_26 : decode cX1_copyFrom 26 = .ok (.getfield 19, 3) := by decide +kernel
theorem dX1_copyFrom_29 : decode cX1_copyFrom 29 = .ok (.putfield 19, 3) := by decide +kernel
theorem dX1_copyFrom_32 : decode cX1_copyFrom 32 = .ok (.aload_n 0, 1) := by decide +kernel
theorem dX1_copyFrom_33 : decode cX1_copyFrom 33 = .ok (.aload_n 1, 1) := by decide +kernel
theorem dX1_copyFrom_34 : decode cX1_copyFrom 34 = .ok (.getfield 22, 3) := by decide +kernel
theorem dX1_copyFrom_37 : decode cX1_copyFrom 37 = .ok (.putfield 22, 3) := by decide +kernel
theorem dX1_copyFrom_40 : decode cX1_copyFrom 40 = .ok (.return_, 1) := by decide +kernel
theorem dX2_init_0 : decode cX2_init 0 = .ok (.aload_n 0, 1) := by decide +kernel
theorem dX2_init_1 : decode cX2_init 1 = .ok (.invokespecial 3, 3) := by decide +kernel
theorem dX2_init_4 : decode cX2_init 4 = .ok (.aload_n 0, 1) := by decide +kernel
theorem dX2_init_5 : decode cX2_init 5 = .ok (.bipush 24, 2) := by decide +kernel
theorem dX2_init_7 : decode cX2_init 7 = .ok (.newarray .int, 2) := by decide +kernel
theorem dX2_init_9 : decode cX2_init 9 = .ok (.putfield 9, 3) := by decide +kernel
theorem dX2_init_12 : decode cX2_init 12 = .ok (.aload_n 0, 1) := by decide +kernel
theorem dX2_init_13 : decode cX2_init 13 = .ok (.bipush 24, 2) := by decide +kernel
theorem dX2_init_15 : decode cX2_init 15 = .ok (.newarray .int, 2) := by decide +kernel
theorem dX2_init_17 : decode cX2_init 17 = .ok (.putfield 15, 3) := by decide +kernel
theorem dX2_init_20 : decode cX2_init 20 = .ok (.aload_n 0, 1) := by decide +kernel
theorem dX2_init_21 : decode cX2_init 21 = .ok (.bipush 24, 2) := by decide +kernel
theorem dX2_init_23 : decode cX2_init 23 = .ok (.newarray .int, 2) := by decide +kernel
theorem dX2_init_25 : decode cX2_init 25 = .ok (.putfield 18, 3) := by decide +kernel
theorem dX2_init_28 : decode cX2_init 28 = .ok (.return_, 1) := by decide +kernel
theorem dX2_copyFrom_0 : decode cX2_copyFrom 0 = .ok (.aload_n 0, 1) := by decide +kernel
theorem dX2_copyFrom_1 : decode cX2_copyFrom 1 = .ok (.aload_n 1, 1) := by decide +kernel
theorem dX2_copyFrom_2 : decode cX2_copyFrom 2 = .ok (.getfield 21, 3) := by decide +kernel
theorem dX2_copyFrom_5 : decode cX2_copyFrom 5 = .ok (.putfield 21, 3) := by decide +kernel
theorem dX2_copyFrom_8 : decode cX2_copyFrom 8 = .ok (.aload_n 1, 1) := by decide +kernel
theorem dX2_copyFrom_9 : decode cX2_copyFrom 9 = .ok (.getfield 9, 3) := by decide +kernel
theorem dX2_copyFrom_12 : decode cX2_copyFrom 12 = .ok (.iconst 0, 1) := by decide +kernel
theorem dX2_copyFrom_13 : decode cX2_copyFrom 13 = .ok (.aload_n 0, 1) := by decide +kernel
theorem dX2_copyFrom_14 : decode cX2_copyFrom 14 = .ok (.getfield 9, 3) := by decide +kernel
theorem dX2_copyFrom_17 : decode cX2_copyFrom 17 = .ok (.iconst 0, 1) := by decide +kernel
theorem dX2_copyFrom_18 : decode cX2_copyFrom 18 = .ok (.aload_n 0, 1) := by decide +kernel
theorem dX2_copyFrom_19 : decode cX2_copyFrom 19 = .ok (.getfield 9, 3) := by decide +kernel
theorem dX2_copyFrom_22 : decode cX2_copyFrom 22 = .ok (.arraylength, 1) := by decide +kernel
theorem dX2_copyFrom_23 : decode cX2_copyFrom 23 = .ok (.invokestatic 25, 3) := by decide +kernel
theorem dX2_copyFrom_26 : decode cX2_copyFrom 26 = .ok (.aload_n 1, 1) := by decide +kernel
theorem dX2_copyFrom_27 : decode cX2_copyFrom 27 = .ok (.getfield 15, 3) := by decide +kernel
theorem dX2_copyFrom_30 : decode cX2_copyFrom 30 = .ok (.iconst 0, 1) := by decide +kernel
theorem dX2_copyFrom_31 : decode cX2_copyFrom 31 = .ok (.aload_n 0, 1) := by decide +kernel
theorem dX2_copyFrom_32 : decode cX2_copyFrom 32 = .ok (.getfield 15, 3) := by decide +kernel
theorem dX2_copyFrom_35 : decode cX2_copyFrom 35 = .ok (.iconst 0, 1) := by decide +kernel
theorem dX2_copyFrom_36 : decode cX2_copyFrom 36 = .ok (.aload_n 0, 1) := by decide +kernel
theorem dX2_copyFrom_37 : decode cX2_copyFrom 37 = .ok (.getfield 15, 3) := by decide +kernel
theorem dX2_copyFrom_40 : decode cX2_copyFrom 40 = .ok (.arraylength, 1) := by decide +kernel
theorem dX2_copyFrom_41 : decode cX2_copyFrom 41 = .ok (.invokestatic 25, 3) := by decide +kernel
theorem dX2_copyFrom_44 : decode cX2_copyFrom 44 = .ok (.aload_n 1, 1) := by decide +kernel
theorem dX2_copyFrom_45 : decode cX2_copyFrom 45 = .ok (.getfield 18, 3) := by decide +kernel
theorem dX2_copyFrom_48 : decode cX2_copyFrom 48 = .ok (.iconst 0, 1) := by decide +kernel
theorem dX2_copyFrom_49 : decode cX2_copyFrom 49 = .ok (.aload_n 0, 1) := by decide +kernel
theorem dX2_copyFrom_50 : decode cX2_copyFrom 50 = .ok (.getfield 18, 3) := by decide +kernel
theorem dX2_copyFrom_53 : decode cX2_copyFrom 53 = .ok (.iconst 0, 1) := by decide +kernel
theorem dX2_copyFrom_54 : decode cX2_copyFrom 54 = .ok (.aload_n 0, 1) := by decide +kernel
theorem dX2_copyFrom_55 : decode cX2_copyFrom 55 = .ok (.getfield 18, 3) := by decide +kernel
theorem dX2_copyFrom_58 : decode cX2_copyFrom 58 = .ok (.arraylength, 1) := by decide +kernel
theorem dX2_copyFrom_59 : decode cX2_copyFrom 59 = .ok (.invokestatic 25, 3) := by decide +kernel
theorem dX2_copyFrom_62 : decode cX2_copyFrom 62 = .ok (.return_, 1) := by decide +kernel
theorem dX2_slam_0 : decode cX2_slam 0 = .ok (.aload_n 0, 1) := by decide +kernel
theorem dX2_slam_1 : decode cX2_slam 1 = .ok (.getfield 21, 3) := by decide +kernel
theorem dX2_slam_4 : decode cX2_slam 4 = .ok (.ifCond .lt 52, 3) := by decide +kernel
theorem dX2_slam_7 : decode cX2_slam 7 = .ok (.aload_n 0, 1) := by decide +kernel
theorem dX2_slam_8 : decode cX2_slam 8 = .ok (.getfield 21, 3) := by decide +kernel
theorem dX2_slam_11 : decode cX2_slam 11 = .ok (.bipush 24, 2) := by decide +kernel
theorem dX2_slam_13 : decode cX2_slam 13 = .ok (.if_icmp .ge 43, 3) := by decide +kernel
theorem dX2_slam_16 : decode cX2_slam 16 = .ok (.aload_n 0, 1) := by decide +kernel
theorem dX2_slam_17 : decode cX2_slam 17 = .ok (.getfield 9, 3) := by decide +kernel
theorem dX2_slam_20 : decode cX2_slam 20 = .ok (.aload_n 0, 1) := by decide +kernel
theorem dX2_slam_21 : decode cX2_slam 21 = .ok (.getfield 21, 3) := by decide +kernel
theorem dX2_slam_24 : decode cX2_slam 24 = .ok (.iload_n 1, 1) := by decide +kernel
theorem dX2_slam_25 : decode cX2_slam 25 = .ok (.iastore, 1) := by decide +kernel
theorem dX2_slam_26 : decode cX2_slam 26 = .ok (.aload_n 0, 1) := by decide +kernel
theorem dX2_slam_27 : decode cX2_slam 27 = .ok (.getfield 15, 3) := by decide +kernel
theorem dX2_slam_30 : decode cX2_slam 30 = .ok (.aload_n 0, 1) := by decide +kernel
theorem dX2_slam_31 : decode cX2_slam 31 = .ok (.getfield 21, 3) := by decide +kernel
theorem dX2_slam_34 : decode cX2_slam 34 = .ok (.iload_n 2, 1) := by decide +kernel
theorem dX2_slam_35 : decode cX2_slam 35 = .ok (.iastore, 1) := by decide +kernel
theorem dX2_slam_36 : decode cX2_slam 36 = .ok (.aload_n 0, 1) := by decide +kernel
theorem dX2_slam_37 : decode cX2_slam 37 = .ok (.getfield 18, 3) := by decide +kernel
theorem dX2_slam_40 : decode cX2_slam 40 = .ok (.aload_n 0, 1) := by decide +kernel
theorem dX2_slam_41 : decode cX2_slam 41 = .ok (.getfield 21, 3) := by decide +kernel
theorem dX2_slam_44 : decode cX2_slam 44 = .ok (.iload_n 3, 1) := by decide +kernel
theorem dX2_slam_45 : decode cX2_slam 45 = .ok (.iastore, 1) := by decide +kernel
theorem dX2_slam_46 : decode cX2_slam 46 = .ok (.aload_n 0, 1) := by decide +kernel
theorem dX2_slam_47 : decode cX2_slam 47 = .ok (.dup, 1) := by decide +kernel
theorem dX2_slam_48 : decode cX2_slam 48 = .ok (.getfield 21, 3) := by decide +kernel
theorem dX2_slam_51 : decode cX2_slam 51 = .ok (.iconst 1, 1) := by decide +kernel
theorem dX2_slam_52 : decode cX2_slam 52 = .ok (.iadd, 1) := by decide +kernel
theorem dX2_slam_53 : decode cX2_slam 53 = .ok (.putfield 21, 3) := by decide +kernel
theorem dX2_slam_56 : decode cX2_slam 56 = .ok (.return_, 1) := by decide +kernel
theorem dX2_hearSecond_0 : decode cX2_hearSecond 0 = .ok (.iconst 0, 1) := by decide +kernel
theorem dX2_hearSecond_1 : decode cX2_hearSecond 1 = .ok (.istore_n 1, 1) := by decide +kernel
theorem dX2_hearSecond_2 : decode cX2_hearSecond 2 = .ok (.iconst 0, 1) := by decide +kernel
theorem dX2_hearSecond_3 : decode cX2_hearSecond 3 = .ok (.istore_n 2, 1) := by decide +kernel
theorem dX2_hearSecond_4 : decode cX2_hearSecond 4 = .ok (.iload_n 2, 1) := by decide +kernel
theorem dX2_hearSecond_5 : decode cX2_hearSecond 5 = .ok (.aload_n 0, 1) := by decide +kernel
theorem dX2_hearSecond_6 : decode cX2_hearSecond 6 = .ok (.getfield 21, 3) := by decide +kernel
theorem dX2_hearSecond_9 : decode cX2_hearSecond 9 = .ok (.if_icmp .ge 66, 3) := by decide +kernel
theorem dX2_hearSecond_12 : decode cX2_hearSecond 12 = .ok (.iload_n 2, 1) := by decide +kernel
theorem dX2_hearSecond_13 : decode cX2_hearSecond 13 = .ok (.bipush 24, 2) := by decide +kernel
theorem dX2_hearSecond_15 : decode cX2_hearSecond 15 = .ok (.if_icmp .ge 60, 3) := by decide +kernel
theorem dX2_hearSecond_18 : decode cX2_hearSecond 18 = .ok (.aload_n 0, 1) := by decide +kernel
theorem dX2_hearSecond_19 : decode cX2_hearSecond 19 = .ok (.getfield 18, 3) := by decide +kernel
theorem dX2_hearSecond_22 : decode cX2_hearSecond 22 = .ok (.iload_n 2, 1) := by decide +kernel
theorem dX2_hearSecond_23 : decode cX2_hearSecond 23 = .ok (.iaload, 1) := by decide +kernel
theorem dX2_hearSecond_24 : decode cX2_hearSecond 24 = .ok (.iconst 1, 1) := by decide +kernel
theorem dX2_hearSecond_25 : decode cX2_hearSecond 25 = .ok (.if_icmp .le 44, 3) := by decide +kernel
theorem dX2_hearSecond_28 : decode cX2_hearSecond 28 = .ok (.aload_n 0, 1) := by decide +kernel
theorem dX2_hearSecond_29 : decode cX2_hearSecond 29 = .ok (.getfield 9, 3) := by decide +kernel
theorem dX2_hearSecond_32 : decode cX2_hearSecond 32 = .ok (.iload_n 1, 1) := by decide +kernel
theorem dX2_hearSecond_33 : decode cX2_hearSecond 33 = .ok (.aload_n 0, 1) := by decide +kernel
theorem dX2_hearSecond_34 : decode cX2_hearSecond 34 = .ok (.getfield 9, 3) := by decide +kernel
theorem dX2_hearSecond_37 : decode cX2_hearSecond 37 = .ok (.iload_n 2, 1) := by decide +kernel
theorem dX2_hearSecond_38 : decode cX2_hearSecond 38 = .ok (.iaload, 1) := by decide +kernel
theorem dX2_hearSecond_39 : decode cX2_hearSecond 39 = .ok (.iastore, 1) := by decide +kernel
theorem dX2_hearSecond_40 : decode cX2_hearSecond 40 = .ok (.aload_n 0, 1) := by decide +kernel
theorem dX2_hearSecond_41 : decode cX2_hearSecond 41 = .ok (.getfield 15, 3) := by decide +kernel
theorem dX2_hearSecond_44 : decode cX2_hearSecond 44 = .ok (.iload_n 1, 1) := by decide +kernel
theorem dX2_hearSecond_45 : decode cX2_hearSecond 45 = .ok (.aload_n 0, 1) := by decide +kernel
theorem dX2_hearSecond_46 : decode cX2_hearSecond 46 = .ok (.getfield 15, 3) := by decide +kernel
theorem dX2_hearSecond_49 : decode cX2_hearSecond 49 = .ok (.iload_n 2, 1) := by decide +kernel
theorem dX2_hearSecond_50 : decode cX2_hearSecond 50 = .ok (.iaload, 1) := by decide +kernel
theorem dX2_hearSecond_51 : decode cX2_hearSecond 51 = .ok (.iastore, 1) := by decide +kernel
theorem dX2_hearSecond_52 : decode cX2_hearSecond 52 = .ok (.aload_n 0, 1) := by decide +kernel
theorem dX2_hearSecond_53 : decode cX2_hearSecond 53 = .ok (.getfield 18, 3) := by decide +kernel
theorem dX2_hearSecond_56 : decode cX2_hearSecond 56 = .ok (.iload_n 1, 1) := by decide +kernel
theorem dX2_hearSecond_57 : decode cX2_hearSecond 57 = .ok (.aload_n 0, 1) := by decide +kernel
theorem dX2_hearSecond_58 : decode cX2_hearSecond 58 = .ok (.getfield 18, 3) := by decide +kernel
theorem dX2_hearSecond_61 : decode cX2_hearSecond 61 = .ok (.iload_n 2, 1) := by decide +kernel
theorem dX2_hearSecond_62 : decode cX2_hearSecond 62 = .ok (.iaload, 1) := by decide +kernel
theorem dX2_hearSecond_63 : decode cX2_hearSecond 63 = .ok (.iconst 1, 1) := by decide +kernel
theorem dX2_hearSecond_64 : decode cX2_hearSecond 64 = .ok (.isub, 1) := by decide +kernel
theorem dX2_hearSecond_65 : decode cX2_hearSecond 65 = .ok (.iastore, 1) := by decide +kernel
theorem dX2_hearSecond_66 : decode cX2_hearSecond 66 = .ok (.iinc 1 1, 3) := by decide +kernel
theorem dX2_hearSecond_69 : decode cX2_hearSecond 69 = .ok (.iinc 2 1, 3) := by decide +kernel
theorem dX2_hearSecond_72 : decode cX2_hearSecond 72 = .ok (.goto (-68), 3) := by decide +kernel
theorem dX2_hearSecond_75 : decode cX2_hearSecond 75 = .ok (.aload_n 0, 1) := by decide +kernel
theorem dX2_hearSecond_76 : decode cX2_hearSecond 76 = .ok (.iload_n 1, 1) := by decide +kernel
theorem dX2_hearSecond_77 : decode cX2_hearSecond 77 = .ok (.putfield 21, 3) := by decide +kernel
theorem dX2_hearSecond_80 : decode cX2_hearSecond 80 = .ok (.return_, 1) := by decide +kernel
theorem dX2_countOn_0 : decode cX2_countOn 0 = .ok (.iconst 0, 1) := by decide +kernel
theorem dX2_countOn_1 : decode cX2_countOn 1 = .ok (.istore_n 2, 1) := by decide +kernel
theorem dX2_countOn_2 : decode cX2_countOn 2 = .ok (.iconst 0, 1) := by decide +kernel
theorem dX2_countOn_3 : decode cX2_countOn 3 = .ok (.istore_n 3, 1) := by decide +kernel
theorem dX2_countOn_4 : decode cX2_countOn 4 = .ok (.iload_n 3, 1) := by decide +kernel
theorem dX2_countOn_5 : decode cX2_countOn 5 = .ok (.aload_n 0, 1) := by decide +kernel
theorem dX2_countOn_6 : decode cX2_countOn 6 = .ok (.getfield 21, 3) := by decide +kernel
theorem dX2_countOn_9 : decode cX2_countOn 9 = .ok (.if_icmp .ge 28, 3) := by decide +kernel
theorem dX2_countOn_12 : decode cX2_countOn 12 = .ok (.iload_n 3, 1) := by decide +kernel
theorem dX2_countOn_13 : decode cX2_countOn 13 = .ok (.bipush 24, 2) := by decide +kernel
theorem dX2_countOn_15 : decode cX2_countOn 15 = .ok (.if_icmp .ge 22, 3) := by decide +kernel
theorem dX2_countOn_18 : decode cX2_countOn 18 = .ok (.aload_n 0, 1) := by decide +kernel
theorem dX2_countOn_19 : decode cX2_countOn 19 = .ok (.getfield 9, 3) := by decide +kernel
theorem dX2_countOn_22 : decode cX2_countOn 22 = .ok (.iload_n 3, 1) := by decide +kernel
theorem dX2_countOn_23 : decode cX2_countOn 23 = .ok (.iaload, 1) := by decide +kernel
theorem dX2_countOn_24 : decode cX2_countOn 24 = .ok (.iload_n 1, 1) := by decide +kernel
theorem dX2_countOn_25 : decode cX2_countOn 25 = .ok (.if_icmp .ne 6, 3) := by decide +kernel
theorem dX2_countOn_28 : decode cX2_countOn 28 = .ok (.iinc 2 1, 3) := by decide +kernel
theorem dX2_countOn_31 : decode cX2_countOn 31 = .ok (.iinc 3 1, 3) := by decide +kernel
theorem dX2_countOn_34 : decode cX2_countOn 34 = .ok (.goto (-30), 3) := by decide +kernel
theorem dX2_countOn_37 : decode cX2_countOn 37 = .ok (.iload_n 2, 1) := by decide +kernel
theorem dX2_countOn_38 : decode cX2_countOn 38 = .ok (.ireturn, 1) := by decide +kernel
theorem dX3_init_0 : decode cX3_init 0 = .ok (.aload_n 0, 1) := by decide +kernel
theorem dX3_init_1 : decode cX3_init 1 = .ok (.invokespecial 3, 3) := by decide +kernel
theorem dX3_init_4 : decode cX3_init 4 = .ok (.aload_n 0, 1) := by decide +kernel
theorem dX3_init_5 : decode cX3_init 5 = .ok (.bipush 80, 2) := by decide +kernel
theorem dX3_init_7 : decode cX3_init 7 = .ok (.newarray .char, 2) := by decide +kernel
theorem dX3_init_9 : decode cX3_init 9 = .ok (.putfield 9, 3) := by decide +kernel
theorem dX3_init_12 : decode cX3_init 12 = .ok (.aload_n 0, 1) := by decide +kernel
theorem dX3_init_13 : decode cX3_init 13 = .ok (.iconst 3, 1) := by decide +kernel
theorem dX3_init_14 : decode cX3_init 14 = .ok (.newarray .int, 2) := by decide +kernel
theorem dX3_init_16 : decode cX3_init 16 = .ok (.putfield 15, 3) := by decide +kernel
theorem dX3_init_19 : decode cX3_init 19 = .ok (.return_, 1) := by decide +kernel
theorem dX4_init_0 : decode cX4_init 0 = .ok (.aload_n 0, 1) := by decide +kernel
theorem dX4_init_1 : decode cX4_init 1 = .ok (.invokespecial 3, 3) := by decide +kernel
theorem dX4_init_4 : decode cX4_init 4 = .ok (.aload_n 0, 1) := by decide +kernel
theorem dX4_init_5 : decode cX4_init 5 = .ok (.iconst 4, 1) := by decide +kernel
theorem dX4_init_6 : decode cX4_init 6 = .ok (.newarray .int, 2) := by decide +kernel
theorem dX4_init_8 : decode cX4_init 8 = .ok (.dup, 1) := by decide +kernel
theorem dX4_init_9 : decode cX4_init 9 = .ok (.iconst 0, 1) := by decide +kernel
theorem dX4_init_10 : decode cX4_init 10 = .ok (.iconst 4, 1) := by decide +kernel
theorem dX4_init_11 : decode cX4_init 11 = .ok (.iastore, 1) := by decide +kernel
theorem dX4_init_12 : decode cX4_init 12 = .ok (.dup, 1) := by decide +kernel
theorem dX4_init_13 : decode cX4_init 13 = .ok (.iconst 1, 1) := by decide +kernel
theorem dX4_init_14 : decode cX4_init 14 = .ok (.iconst 2, 1) := by decide +kernel
theorem dX4_init_15 : decode cX4_init 15 = .ok (.iastore, 1) := by decide +kernel
theorem dX4_init_16 : decode cX4_init 16 = .ok (.dup, 1) := by decide +kernel
theorem dX4_init_17 : decode cX4_init 17 = .ok (.iconst 2, 1) := by decide +kernel
theorem dX4_init_18 : decode cX4_init 18 = .ok (.bipush 10, 2) := by decide +kernel
theorem dX4_init_20 : decode cX4_init 20 = .ok (.iastore, 1) := by decide +kernel
theorem dX4_init_21 : decode cX4_init 21 = .ok (.dup, 1) := by decide +kernel
theorem dX4_init_22 : decode cX4_init 22 = .ok (.iconst 3, 1) := by decide +kernel
theorem dX4_init_23 : decode cX4_init 23 = .ok (.sipush 150, 3) := by decide +kernel
theorem dX4_init_26 : decode cX4_init 26 = .ok (.iastore, 1) := by decide +kernel
theorem dX4_init_27 : decode cX4_init 27 = .ok (.putfield 9, 3) := by decide +kernel
theorem dX4_init_30 : decode cX4_init 30 = .ok (.aload_n 0, 1) := by decide +kernel
theorem dX4_init_31 : decode cX4_init 31 = .ok (.new 15, 3) := by decide +kernel
theorem dX4_init_34 : decode cX4_init 34 = .ok (.dup, 1) := by decide +kernel
theorem dX4_init_35 : decode cX4_init 35 = .ok (.invokespecial 17, 3) := by decide +kernel
theorem dX4_init_38 : decode cX4_init 38 = .ok (.putfield 18, 3) := by decide +kernel
theorem dX4_init_41 : decode cX4_init 41 = .ok (.aload_n 0, 1) := by decide +kernel
theorem dX4_init_42 : decode cX4_init 42 = .ok (.iconst 4, 1) := by decide +kernel
theorem dX4_init_43 : decode cX4_init 43 = .ok (.anewarray 22, 3) := by decide +kernel
theorem dX4_init_46 : decode cX4_init 46 = .ok (.putfield 24, 3) := by decide +kernel
theorem dX4_init_49 : decode cX4_init 49 = .ok (.aload_n 0, 1) := by decide +kernel
theorem dX4_init_50 : decode cX4_init 50 = .ok (.iconst 4, 1) := by decide +kernel
theorem dX4_init_51 : decode cX4_init 51 = .ok (.anewarray 28, 3) := by decide +kernel
theorem dX4_init_54 : decode cX4_init 54 = .ok (.putfield 30, 3) := by decide +kernel
theorem dX4_init_57 : decode cX4_init 57 = .ok (.aload_n 0, 1) := by decide +kernel
theorem dX4_init_58 : decode cX4_init 58 = .ok (.new 34, 3) := by decide +kernel
theorem dX4_init_61 : decode cX4_init 61 = .ok (.dup, 1) := by decide +kernel
theorem dX4_init_62 : decode cX4_init 62 = .ok (.invokespecial 36, 3) := by decide +kernel
theorem dX4_init_65 : decode cX4_init 65 = .ok (.putfield 37, 3) := by decide +kernel
theorem dX4_init_68 : decode cX4_init 68 = .ok (.aload_n 0, 1) := by decide +kernel
theorem dX4_init_69 : decode cX4_init 69 = .ok (.bipush 24, 2) := by decide +kernel
theorem dX4_init_71 : decode cX4_init 71 = .ok (.newarray .int, 2) := by decide +kernel
theorem dX4_init_73 : decode cX4_init 73 = .ok (.putfield 41, 3) := by decide +kernel
theorem dX4_init_76 : decode cX4_init 76 = .ok (.aload_n 0, 1) := by decide +kernel
theorem dX4_init_77 : decode cX4_init 77 = .ok (.sipush 1200, 3) := by decide +kernel
theorem dX4_init_80 : decode cX4_init 80 = .ok (.newarray .int, 2) := by decide +kernel
theorem dX4_init_82 : decode cX4_init 82 = .ok (.putfield 44, 3) := by decide +kernel
theorem dX4_init_85 : decode cX4_init 85 = .ok (.iconst 0, 1) := by decide +kernel
theorem dX4_init_86 : decode cX4_init 86 = .ok (.istore_n 1, 1) := by decide +kernel
theorem dX4_init_87 : decode cX4_init 87 = .ok (.iload_n 1, 1) := by decide +kernel
theorem dX4_init_88 : decode cX4_init 88 = .ok (.aload_n 0, 1) := by decide +kernel
theorem dX4_init_89 : decode cX4_init 89 = .ok (.getfield 24, 3) := by decide +kernel
theorem dX4_init_92 : decode cX4_init 92 = .ok (.arraylength, 1) := by decide +kernel
theorem dX4_init_93 : decode cX4_init 93 = .ok (.if_icmp .ge 22, 3) := by decide +kernel
theorem dX4_init_96 : decode cX4_init 96 = .ok (.aload_n 0, 1) := by decide +kernel
theorem dX4_init_97 : decode cX4_init 97 = .ok (.getfield 24, 3) := by decide +kernel
theorem dX4_init_100 : decode cX4_init 100 = .ok (.iload_n 1, 1) := by decide +kernel
theorem dX4_init_101 : decode cX4_init 101 = .ok (.new 22, 3) := by decide +kernel
theorem dX4_init_104 : decode cX4_init 104 = .ok (.dup, 1) := by decide +kernel
theorem dX4_init_105 : decode cX4_init 105 = .ok (.invokespecial 47, 3) := by decide +kernel
theorem dX4_init_108 : decode cX4_init 108 = .ok (.aastore, 1) := by decide +kernel
theorem dX4_init_109 : decode cX4_init 109 = .ok (.iinc 1 1, 3) := by decide +kernel
theorem dX4_init_112 : decode cX4_init 112 = .ok (.goto (-25), 3) := by decide +kernel
theorem dX4_init_115 : decode cX4_init 115 = .ok (.iconst 0, 1) := by decide +kernel
theorem dX4_init_116 : decode cX4_init 116 = .ok (.istore_n 1, 1) := by decide +kernel
theorem dX4_init_117 : decode cX4_init 117 = .ok (.iload_n 1, 1) := by decide +kernel
theorem dX4_init_118 : decode cX4_init 118 = .ok (.aload_n 0, 1) := by decide +kernel
theorem dX4_init_119 : decode cX4_init 119 = .ok (.getfield 30, 3) := by decide +kernel
theorem dX4_init_122 : decode cX4_init 122 = .ok (.arraylength, 1) := by decide +kernel
theorem dX4_init_123 : decode cX4_init 123 = .ok (.if_icmp .ge 22, 3) := by decide +kernel
theorem dX4_init_126 : decode cX4_init 126 = .ok (.aload_n 0, 1) := by decide +kernel
theorem dX4_init_127 : decode cX4_init 127 = .ok (.getfield 30, 3) := by decide +kernel
theorem dX4_init_130 : decode cX4_init 130 = .ok (.iload_n 1, 1) := by decide +kernel
theorem dX4_init_131 : decode cX4_init 131 = .ok (.new 28, 3) := by decide +kernel
theorem dX4_init_134 : decode cX4_init 134 = .ok (.dup, 1) := by decide +kernel
theorem dX4_init_135 : decode cX4_init 135 = .ok (.invokespecial 48, 3) := by decide +kernel
theorem dX4_init_138 : decode cX4_init 138 = .ok (.aastore, 1) := by decide +kernel
theorem dX4_init_139 : decode cX4_init 139 = .ok (.iinc 1 1, 3) := by decide +kernel
theorem dX4_init_142 : decode cX4_init 142 = .ok (.goto (-25), 3) := by decide +kernel
theorem dX4_init_145 : decode cX4_init 145 = .ok (.return_, 1) := by decide +kernel
theorem dX4_copyFrom_0 : decode cX4_copyFrom 0 = .ok (.aload_n 1, 1) := by decide +kernel
theorem dX4_copyFrom_1 : decode cX4_copyFrom 1 = .ok (.getfield 9, 3) := by decide +kernel
theorem dX4_copyFrom_4 : decode cX4_copyFrom 4 = .ok (.iconst 0, 1) := by decide +kernel
theorem dX4_copyFrom_5 : decode cX4_copyFrom 5 = .ok (.aload_n 0, 1) := by decide +kernel
theorem dX4_copyFrom_6 : decode cX4_copyFrom 6 = .ok (.getfield 9, 3) := by decide +kernel
theorem dX4_copyFrom_9 : decode cX4_copyFrom 9 = .ok (.iconst 0, 1) := by decide +kernel
theorem dX4_copyFrom_10 : decode cX4_copyFrom 10 = .ok (.aload_n 0, 1) := by decide +kernel
theorem dX4_copyFrom_11 : decode cX4_copyFrom 11 = .ok (.getfield 9, 3) := by decide +kernel
theorem dX4_copyFrom_14 : decode cX4_copyFrom 14 = .ok (.arraylength, 1) := by decide +kernel
theorem dX4_copyFrom_15 : decode cX4_copyFrom 15 = .ok (.invokestatic 49, 3) := by decide +kernel
theorem dX4_copyFrom_18 : decode cX4_copyFrom 18 = .ok (.aload_n 0, 1) := by decide +kernel
theorem dX4_copyFrom_19 : decode cX4_copyFrom 19 = .ok (.getfield 18, 3) := by decide +kernel
theorem dX4_copyFrom_22 : decode cX4_copyFrom 22 = .ok (.aload_n 1, 1) := by decide +kernel
theorem dX4_copyFrom_23 : decode cX4_copyFrom 23 = .ok (.getfield 18, 3) := by decide +kernel
theorem dX4_copyFrom_26 : decode cX4_copyFrom 26 = .ok (.invokevirtual 55, 3) := by decide +kernel
theorem dX4_copyFrom_29 : decode cX4_copyFrom 29 = .ok (.iconst 0, 1) := by decide +kernel
theorem dX4_copyFrom_30 : decode cX4_copyFrom 30 = .ok (.istore_n 2, 1) := by decide +kernel
theorem dX4_copyFrom_31 : decode cX4_copyFrom 31 = .ok (.iload_n 2, 1) := by decide +kernel
theorem dX4_copyFrom_32 : decode cX4_copyFrom 32 = .ok (.aload_n 0, 1) := by decide +kernel
theorem dX4_copyFrom_33 : decode cX4_copyFrom 33 = .ok (.getfield 24, 3) := by decide +kernel
theorem dX4_copyFrom_36 : decode cX4_copyFrom 36 = .ok (.arraylength, 1) := by decide +kernel
theorem dX4_copyFrom_37 : decode cX4_copyFrom 37 = .ok (.if_icmp .ge 24, 3) := by decide +kernel
theorem dX4_copyFrom_40 : decode cX4_copyFrom 40 = .ok (.aload_n 0, 1) := by decide +kernel
theorem dX4_copyFrom_41 : decode cX4_copyFrom 41 = .ok (.getfield 24, 3) := by decide +kernel
theorem dX4_copyFrom_44 : decode cX4_copyFrom 44 = .ok (.iload_n 2, 1) := by decide +kernel
theorem dX4_copyFrom_45 : decode cX4_copyFrom 45 = .ok (.aaload, 1) := by decide +kernel
theorem dX4_copyFrom_46 : decode cX4_copyFrom 46 = .ok (.aload_n 1, 1) := by decide +kernel
theorem dX4_copyFrom_47 : decode cX4_copyFrom 47 = .ok (.getfield 24, 3) := by decide +kernel
theorem dX4_copyFrom_50 : decode cX4_copyFrom 50 = .ok (.iload_n 2, 1) := by decide +kernel
theorem dX4_copyFrom_51 : decode cX4_copyFrom 51 = .ok (.aaload, 1) := by decide +kernel
theorem dX4_copyFrom_52 : decode cX4_copyFrom 52 = .ok (.invokevirtual 59, 3) := by decide +kernel
theorem dX4_copyFrom_55 : decode cX4_copyFrom 55 = .ok (.iinc 2 1, 3) := by decide +kernel
theorem dX4_copyFrom_58 : decode cX4_copyFrom 58 = .ok (.goto (-27), 3) := by decide +kernel
theorem dX4_copyFrom_61 : decode cX4_copyFrom 61 = .ok (.iconst 0, 1) := by decide +kernel
theorem dX4_copyFrom_62 : decode cX4_copyFrom 62 = .ok (.istore_n 2, 1) := by decide +kernel
theorem dX4_copyFrom_63 : decode cX4_copyFrom 63 = .ok (.iload_n 2, 1) := by decide +kernel
theorem dX4_copyFrom_64 : decode cX4_copyFrom 64 = .ok (.aload_n 0, 1) := by decide +kernel
theorem dX4_copyFrom_65 : decode cX4_copyFrom 65 = .ok (.getfield 30, 3) := by decide +kernel
theorem dX4_copyFrom_68 : decode cX4_copyFrom 68 = .ok (.arraylength, 1) := by decide +kernel
theorem dX4_copyFrom_69 : decode cX4_copyFrom 69 = .ok (.if_icmp .ge 45, 3) := by decide +kernel
theorem dX4_copyFrom_72 : decode cX4_copyFrom 72 = .ok (.aload_n 0, 1) := by decide +kernel
theorem dX4_copyFrom_73 : decode cX4_copyFrom 73 = .ok (.getfield 30, 3) := by decide +kernel
theorem dX4_copyFrom_76 : decode cX4_copyFrom 76 = .ok (.iload_n 2, 1) := by decide +kernel
theorem dX4_copyFrom_77 : decode cX4_copyFrom 77 = .ok (.aaload, 1) := by decide +kernel
theorem dX4_copyFrom_78 : decode cX4_copyFrom 78 = .ok (.aload_n 1, 1) := by decide +kernel
theorem dX4_copyFrom_79 : decode cX4_copyFrom 79 = .ok (.getfield 30, 3) := by decide +kernel
theorem dX4_copyFrom_82 : decode cX4_copyFrom 82 = .ok (.iload_n 2, 1) := by decide +kernel
theorem dX4_copyFrom_83 : decode cX4_copyFrom 83 = .ok (.aaload, 1) := by decide +kernel
theorem dX4_copyFrom_84 : decode cX4_copyFrom 84 = .ok (.getfield 62, 3) := by decide +kernel
theorem dX4_copyFrom_87 : decode cX4_copyFrom 87 = .ok (.putfield 62, 3) := by decide +kernel
theorem dX4_copyFrom_90 : decode cX4_copyFrom 90 = .ok (.aload_n 0, 1) := by decide +kernel
theorem dX4_copyFrom_91 : decode cX4_copyFrom 91 = .ok (.getfield 30, 3) := by decide +kernel
theorem dX4_copyFrom_94 : decode cX4_copyFrom 94 = .ok (.iload_n 2, 1) := by decide +kernel
theorem dX4_copyFrom_95 : decode cX4_copyFrom 95 = .ok (.aaload, 1) := by decide +kernel
theorem dX4_copyFrom_96 : decode cX4_copyFrom 96 = .ok (.aload_n 1, 1) := by decide +kernel
theorem dX4_copyFrom_97 : decode cX4_copyFrom 97 = .ok (.getfield 30, 3) := by decide +kernel
theorem dX4_copyFrom_100 : decode cX4_copyFrom 100 = .ok (.iload_n 2, 1) := by decide +kernel
theorem dX4_copyFrom_101 : decode cX4_copyFrom 101 = .ok (.aaload, 1) := by decide +kernel
theorem dX4_copyFrom_102 : decode cX4_copyFrom 102 = .ok (.getfield 66, 3) := by decide +kernel
theorem dX4_copyFrom_105 : decode cX4_copyFrom 105 = .ok (.putfield 66, 3) := by decide +kernel
theorem dX4_copyFrom_108 : decode cX4_copyFrom 108 = .ok (.iinc 2 1, 3) := by decide +kernel
theorem dX4_copyFrom_111 : decode cX4_copyFrom 111 = .ok (.goto (-48), 3) := by decide +kernel
theorem dX4_copyFrom_114 : decode cX4_copyFrom 114 = .ok (.aload_n 0, 1) := by decide +kernel
theorem dX4_copyFrom_115 : decode cX4_copyFrom 115 = .ok (.getfield 37, 3) := by decide +kernel
theorem dX4_copyFrom_118 : decode cX4_copyFrom 118 = .ok (.aload_n 1, 1) := by decide +kernel
theorem dX4_copyFrom_119 : decode cX4_copyFrom 119 = .ok (.getfield 37, 3) := by decide +kernel
theorem dX4_copyFrom_122 : decode cX4_copyFrom 122 = .ok (.invokevirtual 69, 3) := by decide +kernel
theorem dX4_copyFrom_125 : decode cX4_copyFrom 125 = .ok (.aload_n 1, 1) := by decide +kernel
theorem dX4_copyFrom_126 : decode cX4_copyFrom 126 = .ok (.getfield 41, 3) := by decide +kernel
theorem dX4_copyFrom_129 : decode cX4_copyFrom 129 = .ok (.iconst 0, 1) := by decide +kernel
theorem dX4_copyFrom_130 : decode cX4_copyFrom 130 = .ok (.aload_n 0, 1) := by decide +kernel
theorem dX4_copyFrom_131 : decode cX4_copyFrom 131 = .ok (.getfield 41, 3) := by decide +kernel
theorem dX4_copyFrom_134 : decode cX4_copyFrom 134 = .ok (.iconst 0, 1) := by decide +kernel
theorem dX4_copyFrom_135 : decode cX4_copyFrom 135 = .ok (.aload_n 0, 1) := by decide +kernel
theorem dX4_copyFrom_136 : decode cX4_copyFrom 136 = .ok (.getfield 41, 3) := by decide +kernel
theorem dX4_copyFrom_139 : decode cX4_copyFrom 139 = .ok (.arraylength, 1) := by decide +kernel
theorem dX4_copyFrom_140 : decode cX4_copyFrom 140 = .ok (.invokestatic 49, 3) := by decide +kernel
theorem dX4_copyFrom_143 : decode cX4_copyFrom 143 = .ok (.aload_n 0, 1) := by decide +kernel
theorem dX4_copyFrom_144 : decode cX4_copyFrom 144 = .ok (.aload_n 1, 1) := by decide +kernel
theorem dX4_copyFrom_145 : decode cX4_copyFrom 145 = .ok (.getfield 72, 3) := by decide +kernel
theorem dX4_copyFrom_148 : decode cX4_copyFrom 148 = .ok (.putfield 72, 3) := by decide +kernel
theorem dX4_copyFrom_151 : decode cX4_copyFrom 151 = .ok (.aload_n 1, 1) := by decide +kernel
theorem dX4_copyFrom_152 : decode cX4_copyFrom 152 = .ok (.getfield 44, 3) := by decide +kernel
theorem dX4_copyFrom_155 : decode cX4_copyFrom 155 = .ok (.iconst 0, 1) := by decide +kernel
theorem dX4_copyFrom_156 : decode cX4_copyFrom 156 = .ok (.aload_n 0, 1) := by decide +kernel
theorem dX4_copyFrom_157 : decode cX4_copyFrom 157 = .ok (.getfield 44, 3) := by decide +kernel
theorem dX4_copyFrom_160 : decode cX4_copyFrom 160 = .ok (.iconst 0, 1) := by decide +kernel
theorem dX4_copyFrom_161 : decode cX4_copyFrom 161 = .ok (.aload_n 1, 1) := by decide +kernel
theorem dX4_copyFrom_162 : decode cX4_copyFrom 162 = .ok (.invokevirtual 75, 3) := by decide +kernel
theorem dX4_copyFrom_165 : decode cX4_copyFrom 165 = .ok (.invokestatic 49, 3) := by decide +kernel
theorem dX4_copyFrom_168 : decode cX4_copyFrom 168 = .ok (.aload_n 0, 1) := by decide +kernel
theorem dX4_copyFrom_169 : decode cX4_copyFrom 169 = .ok (.aload_n 1, 1) := by decide +kernel
theorem dX4_copyFrom_170 : decode cX4_copyFrom 170 = .ok (.getfield 79, 3) := by decide +kernel
theorem dX4_copyFrom_173 : decode cX4_copyFrom 173 = .ok (.putfield 79, 3) := by decide +kernel
theorem dX4_copyFrom_176 : decode cX4_copyFrom 176 = .ok (.return_, 1) := by decide +kernel
theorem dX4_changeSetting_0 : decode cX4_changeSetting 0 = .ok (.iload_n 1, 1) := by decide +kernel
theorem dX4_changeSetting_1 : decode cX4_changeSetting 1 = .ok (.ifCond .lt 20, 3) := by decide +kernel
theorem dX4_changeSetting_4 : decode cX4_changeSetting 4 = .ok (.iload_n 1, 1) := by decide +kernel
theorem dX4_changeSetting_5 : decode cX4_changeSetting 5 = .ok (.aload_n 0, 1) := by decide +kernel
theorem dX4_changeSetting_6 : decode cX4_changeSetting 6 = .ok (.getfield 9, 3) := by decide +kernel
theorem dX4_changeSetting_9 : decode cX4_changeSetting 9 = .ok (.arraylength, 1) := by decide +kernel
theorem dX4_changeSetting_10 : decode cX4_changeSetting 10 = .ok (.if_icmp .ge 11, 3) := by decide +kernel
theorem dX4_changeSetting_13 : decode cX4_changeSetting 13 = .ok (.iload_n 1, 1) := by decide +kernel
theorem dX4_changeSetting_14 : decode cX4_changeSetting 14 = .ok (.getstatic 82, 3) := by decide +kernel
theorem dX4_changeSetting_17 : decode cX4_changeSetting 17 = .ok (.arraylength, 1) := by decide +kernel
theorem dX4_changeSetting_18 : decode cX4_changeSetting 18 = .ok (.if_icmp .lt 6, 3) := by decide +kernel
theorem dX4_changeSetting_21 : decode cX4_changeSetting 21 = .ok (.bipush (-2), 2) := by decide +kernel
theorem dX4_changeSetting_23 : decode cX4_changeSetting 23 = .ok (.ireturn, 1) := by decide +kernel
theorem dX4_changeSetting_24 : decode cX4_changeSetting 24 = .ok (.iload_n 1, 1) := by decide +kernel
theorem dX4_changeSetting_25 : decode cX4_changeSetting 25 = .ok (.getstatic 85, 3) := by decide +kernel
theorem dX4_changeSetting_28 : decode cX4_changeSetting 28 = .ok (.arraylength, 1) := by decide +kernel
theorem dX4_changeSetting_29 : decode cX4_changeSetting 29 = .ok (.if_icmp .ge 20, 3) := by decide +kernel
theorem dX4_changeSetting_32 : decode cX4_changeSetting 32 = .ok (.iload_n 2, 1) := by decide +kernel
theorem dX4_changeSetting_33 : decode cX4_changeSetting 33 = .ok (.getstatic 82, 3) := by decide +kernel
theorem dX4_changeSetting_36 : decode cX4_changeSetting 36 = .ok (.iload_n 1, 1) := by decide +kernel
theorem dX4_changeSetting_37 : decode cX4_changeSetting 37 = .ok (.iaload, 1) := by decide +kernel
theorem dX4_changeSetting_38 : decode cX4_changeSetting 38 = .ok (.getstatic 85, 3) := by decide +kernel
theorem dX4_changeSetting_41 : decode cX4_changeSetting 41 = .ok (.iload_n 1, 1) := by decide +kernel
theorem dX4_changeSetting_42 : decode cX4_changeSetting 42 = .ok (.iaload, 1) := by decide +kernel
theorem dX4_changeSetting_43 : decode cX4_changeSetting 43 = .ok (.invokestatic 88, 3) := by decide +kernel
theorem dX4_changeSetting_46 : decode cX4_changeSetting 46 = .ok (.ifCond .ne 6, 3) := by decide +kernel
theorem dX4_changeSetting_49 : decode cX4_changeSetting 49 = .ok (.bipush (-2), 2) := by decide +kernel
theorem dX4_changeSetting_51 : decode cX4_changeSetting 51 = .ok (.ireturn, 1) := by decide +kernel
theorem dX4_changeSetting_52 : decode cX4_changeSetting 52 = .ok (.aload_n 0, 1) := by decide +kernel
theorem dX4_changeSetting_53 : decode cX4_changeSetting 53 = .ok (.getfield 9, 3) := by decide +kernel
theorem dX4_changeSetting_56 : decode cX4_changeSetting 56 = .ok (.iload_n 1, 1) := by decide +kernel
theorem dX4_changeSetting_57 : decode cX4_changeSetting 57 = .ok (.iaload, 1) := by decide +kernel
theorem dX4_changeSetting_58 : decode cX4_changeSetting 58 = .ok (.istore_n 3, 1) := by decide +kernel
theorem dX4_changeSetting_59 : decode cX4_changeSetting 59 = .ok (.aload_n 0, 1) := by decide +kernel
theorem dX4_changeSetting_60 : decode cX4_changeSetting 60 = .ok (.getfield 9, 3) := by decide +kernel
theorem dX4_changeSetting_63 : decode cX4_changeSetting 63 = .ok (.iload_n 1, 1) := by decide +kernel
theorem dX4_changeSetting_64 : decode cX4_changeSetting 64 = .ok (.iload_n 2, 1) := by decide +kernel
theorem dX4_changeSetting_65 : decode cX4_changeSetting 65 = .ok (.iastore, 1) := by decide +kernel
theorem dX4_changeSetting_66 : decode cX4_changeSetting 66 = .ok (.iload_n 3, 1) := by decide +kernel
theorem dX4_changeSetting_67 : decode cX4_changeSetting 67 = .ok (.ireturn, 1) := by decide +kernel
theorem dX4_addSound_0 : decode cX4_addSound 0 = .ok (.aload_n 0, 1) := by decide +kernel
theorem dX4_addSound_1 : decode cX4_addSound 1 = .ok (.iload_n 1, 1) := by decide +kernel
theorem dX4_addSound_2 : decode cX4_addSound 2 = .ok (.invokevirtual 92, 3) := by decide +kernel
theorem dX4_addSound_5 : decode cX4_addSound 5 = .ok (.astore 4, 2) := by decide +kernel
theorem dX4_addSound_7 : decode cX4_addSound 7 = .ok (.aload 4, 2) := by decide +kernel
theorem dX4_addSound_9 : decode cX4_addSound 9 = .ok (.ifnonnull 5, 3) := by decide +kernel
theorem dX4_addSound_12 : decode cX4_addSound 12 = .ok (.iconst (-1), 1) := by decide +kernel
theorem dX4_addSound_13 : decode cX4_addSound 13 = .ok (.ireturn, 1) := by decide +kernel
theorem dX4_addSound_14 : decode cX4_addSound 14 = .ok (.iload_n 2, 1) := by decide +kernel
theorem dX4_addSound_15 : decode cX4_addSound 15 = .ok (.iconst 1, 1) := by decide +kernel
theorem dX4_addSound_16 : decode cX4_addSound 16 = .ok (.bipush 60, 2) := by decide +kernel
theorem dX4_addSound_18 : decode cX4_addSound 18 = .ok (.invokestatic 88, 3) := by decide +kernel
theorem dX4_addSound_21 : decode cX4_addSound 21 = .ok (.ifCond .eq 13, 3) := by decide +kernel
theorem dX4_addSound_24 : decode cX4_addSound 24 = .ok (.iload_n 3, 1) := by decide +kernel
theorem dX4_addSound_25 : decode cX4_addSound 25 = .ok (.iconst 1, 1) := by decide +kernel
theorem dX4_addSound_26 : decode cX4_addSound 26 = .ok (.bipush 99, 2) := by decide +kernel
theorem dX4_addSound_28 : decode cX4_addSound 28 = .ok (.invokestatic 88, 3) := by decide +kernel
theorem dX4_addSound_31 : decode cX4_addSound 31 = .ok (.ifCond .ne 6, 3) := by decide +kernel
theorem dX4_addSound_34 : decode cX4_addSound 34 = .ok (.bipush (-2), 2) := by decide +kernel
theorem dX4_addSound_36 : decode cX4_addSound 36 = .ok (.ireturn, 1) := by decide +kernel
theorem dX4_addSound_37 : decode cX4_addSound 37 = .ok (.aload 4, 2) := by decide +kernel
theorem dX4_addSound_39 : decode cX4_addSound 39 = .ok (.iload_n 2, 1) := by decide +kernel
theorem dX4_addSound_40 : decode cX4_addSound 40 = .ok (.iload_n 3, 1) := by decide +kernel
theorem dX4_addSound_41 : decode cX4_addSound 41 = .ok (.invokevirtual 96, 3) := by decide +kernel
theorem dX4_addSound_44 : decode cX4_addSound 44 = .ok (.ireturn, 1) := by decide +kernel
theorem dX4_addCue_0 : decode cX4_addCue 0 = .ok (.iload_n 1, 1) := by decide +kernel
theorem dX4_addCue_1 : decode cX4_addCue 1 = .ok (.iconst 0, 1) := by decide +kernel
theorem dX4_addCue_2 : decode cX4_addCue 2 = .ok (.sipush 999, 3) := by decide +kernel
theorem dX4_addCue_5 : decode cX4_addCue 5 = .ok (.invokestatic 88, 3) := by decide +kernel
theorem dX4_addCue_8 : decode cX4_addCue 8 = .ok (.ifCond .eq 12, 3) := by decide +kernel
theorem dX4_addCue_11 : decode cX4_addCue 11 = .ok (.iload_n 2, 1) := by decide +kernel
theorem dX4_addCue_12 : decode cX4_addCue 12 = .ok (.iconst 0, 1) := by decide +kernel
theorem dX4_addCue_13 : decode cX4_addCue 13 = .ok (.iconst 2, 1) := by decide +kernel
theorem dX4_addCue_14 : decode cX4_addCue 14 = .ok (.invokestatic 88, 3) := by decide +kernel
theorem dX4_addCue_17 : decode cX4_addCue 17 = .ok (.ifCond .ne 6, 3) := by decide +kernel
theorem dX4_addCue_20 : decode cX4_addCue 20 = .ok (.bipush (-2), 2) := by decide +kernel
theorem dX4_addCue_22 : decode cX4_addCue 22 = .ok (.ireturn, 1) := by decide +kernel
theorem dX4_addCue_23 : decode cX4_addCue 23 = .ok (.iload_n 3, 1) := by decide +kernel
theorem dX4_addCue_24 : decode cX4_addCue 24 = .ok (.iconst 0, 1) := by decide +kernel
theorem dX4_addCue_25 : decode cX4_addCue 25 = .ok (.iconst 3, 1) := by decide +kernel
theorem dX4_addCue_26 : decode cX4_addCue 26 = .ok (.invokestatic 88, 3) := by decide +kernel
theorem dX4_addCue_29 : decode cX4_addCue 29 = .ok (.ifCond .eq 17, 3) := by decide +kernel
theorem dX4_addCue_32 : decode cX4_addCue 32 = .ok (.iload_n 2, 1) := by decide +kernel
theorem dX4_addCue_33 : decode cX4_addCue 33 = .ok (.ifCond .ne 15, 3) := by decide +kernel
theorem dX4_addCue_36 : decode cX4_addCue 36 = .ok (.aload_n 0, 1) := by decide +kernel
theorem dX4_addCue_37 : decode cX4_addCue 37 = .ok (.iload_n 3, 1) := by decide +kernel
theorem dX4_addCue_38 : decode cX4_addCue 38 = .ok (.iload 4, 2) := by decide +kernel
theorem dX4_addCue_40 : decode cX4_addCue 40 = .ok (.invokevirtual 100, 3) := by decide +kernel
theorem dX4_addCue_43 : decode cX4_addCue 43 = .ok (.ifnonnull 5, 3) := by decide +kernel
theorem dX4_addCue_46 : decode cX4_addCue 46 = .ok (.iconst (-1), 1) := by decide +kernel
theorem dX4_addCue_47 : decode cX4_addCue 47 = .ok (.ireturn, 1) := by decide +kernel
theorem dX4_addCue_48 : decode cX4_addCue 48 = .ok (.iload_n 2, 1) := by decide +kernel
theorem dX4_addCue_49 : decode cX4_addCue 49 = .ok (.iconst 1, 1) := by decide +kernel
theorem dX4_addCue_50 : decode cX4_addCue 50 = .ok (.if_icmp .ne 14, 3) := by decide +kernel
theorem dX4_addCue_53 : decode cX4_addCue 53 = .ok (.iload 4, 2) := by decide +kernel
theorem dX4_addCue_55 : decode cX4_addCue 55 = .ok (.iconst 1, 1) := by decide +kernel
theorem dX4_addCue_56 : decode cX4_addCue 56 = .ok (.bipush 99, 2) := by decide +kernel
theorem dX4_addCue_58 : decode cX4_addCue 58 = .ok (.invokestatic 88, 3) := by decide +kernel
theorem dX4_addCue_61 : decode cX4_addCue 61 = .ok (.ifCond .eq 19, 3) := by decide +kernel
theorem dX4_addCue_64 : decode cX4_addCue 64 = .ok (.iload_n 2, 1) := by decide +kernel
theorem dX4_addCue_65 : decode cX4_addCue 65 = .ok (.iconst 2, 1) := by decide +kernel
theorem dX4_addCue_66 : decode cX4_addCue 66 = .ok (.if_icmp .ne 17, 3) := by decide +kernel
theorem dX4_addCue_69 : decode cX4_addCue 69 = .ok (.iload 4, 2) := by decide +kernel
theorem dX4_addCue_71 : decode cX4_addCue 71 = .ok (.iconst 0, 1) := by decide +kernel
theorem dX4_addCue_72 : decode cX4_addCue 72 = .ok (.bipush 100, 2) := by decide +kernel
theorem dX4_addCue_74 : decode cX4_addCue 74 = .ok (.invokestatic 88, 3) := by decide +kernel
theorem dX4_addCue_77 : decode cX4_addCue 77 = .ok (.ifCond .ne 6, 3) := by decide +kernel
theorem dX4_addCue_80 : decode cX4_addCue 80 = .ok (.bipush (-2), 2) := by decide +kernel
theorem dX4_addCue_82 : decode cX4_addCue 82 = .ok (.ireturn, 1) := by decide +kernel
theorem dX4_addCue_83 : decode cX4_addCue 83 = .ok (.iload_n 1, 1) := by decide +kernel
theorem dX4_addCue_84 : decode cX4_addCue 84 = .ok (.aload_n 0, 1) := by decide +kernel
theorem dX4_addCue_85 : decode cX4_addCue 85 = .ok (.getfield 79, 3) := by decide +kernel
theorem dX4_addCue_88 : decode cX4_addCue 88 = .ok (.if_icmp .ge 6, 3) := by decide +kernel
theorem dX4_addCue_91 : decode cX4_addCue 91 = .ok (.bipush (-5), 2) := by decide +kernel
theorem dX4_addCue_93 : decode cX4_addCue 93 = .ok (.ireturn, 1) := by decide +kernel
theorem dX4_addCue_94 : decode cX4_addCue 94 = .ok (.aload_n 0, 1) := by decide +kernel
theorem dX4_addCue_95 : decode cX4_addCue 95 = .ok (.getfield 18, 3) := by decide +kernel
theorem dX4_addCue_98 : decode cX4_addCue 98 = .ok (.iload_n 1, 1) := by decide +kernel
theorem dX4_addCue_99 : decode cX4_addCue 99 = .ok (.iload_n 2, 1) := by decide +kernel
theorem dX4_addCue_100 : decode cX4_addCue 100 = .ok (.iload_n 3, 1) := by decide +kernel
theorem dX4_addCue_101 : decode cX4_addCue 101 = .ok (.iload 4, 2) := by decide +kernel
theorem dX4_addCue_103 : decode cX4_addCue 103 = .ok (.invokevirtual 104, 3) := by decide +kernel
theorem dX4_addCue_106 : decode cX4_addCue 106 = .ok (.ireturn, 1) := by decide +kernel
theorem dX4_moveCue_0 : decode cX4_moveCue 0 = .ok (.aload_n 0, 1) := by decide +kernel
theorem dX4_moveCue_1 : decode cX4_moveCue 1 = .ok (.getfield 18, 3) := by decide +kernel
theorem dX4_moveCue_4 : decode cX4_moveCue 4 = .ok (.iload_n 1, 1) := by decide +kernel
theorem dX4_moveCue_5 : decode cX4_moveCue 5 = .ok (.invokevirtual 108, 3) := by decide +kernel
theorem dX4_moveCue_8 : decode cX4_moveCue 8 = .ok (.astore_n 3, 1) := by decide +kernel
theorem dX4_moveCue_9 : decode cX4_moveCue 9 = .ok (.aload_n 3, 1) := by decide +kernel
theorem dX4_moveCue_10 : decode cX4_moveCue 10 = .ok (.ifnonnull 5, 3) := by decide +kernel
theorem dX4_moveCue_13 : decode cX4_moveCue 13 = .ok (.iconst (-1), 1) := by decide +kernel
theorem dX4_moveCue_14 : decode cX4_moveCue 14 = .ok (.ireturn, 1) := by decide +kernel
theorem dX4_moveCue_15 : decode cX4_moveCue 15 = .ok (.iload_n 2, 1) := by decide +kernel
theorem dX4_moveCue_16 : decode cX4_moveCue 16 = .ok (.iconst 0, 1) := by decide +kernel
theorem dX4_moveCue_17 : decode cX4_moveCue 17 = .ok (.sipush 999, 3) := by decide +kernel
theorem dX4_moveCue_20 : decode cX4_moveCue 20 = .ok (.invokestatic 88, 3) := by decide +kernel
theorem dX4_moveCue_23 : decode cX4_moveCue 23 = .ok (.ifCond .ne 6, 3) := by decide +kernel
theorem dX4_moveCue_26 : decode cX4_moveCue 26 = .ok (.bipush (-2), 2) := by decide +kernel
theorem dX4_moveCue_28 : decode cX4_moveCue 28 = .ok (.ireturn, 1) := by decide +kernel
theorem dX4_moveCue_29 : decode cX4_moveCue 29 = .ok (.aload_n 3, 1) := by decide +kernel
theorem dX4_moveCue_30 : decode cX4_moveCue 30 = .ok (.getfield 112, 3) := by decide +kernel
theorem dX4_moveCue_33 : decode cX4_moveCue 33 = .ok (.ifCond .ne 11, 3) := by decide +kernel
theorem dX4_moveCue_36 : decode cX4_moveCue 36 = .ok (.iload_n 2, 1) := by decide +kernel
theorem dX4_moveCue_37 : decode cX4_moveCue 37 = .ok (.aload_n 0, 1) := by decide +kernel
theorem dX4_moveCue_38 : decode cX4_moveCue 38 = .ok (.getfield 79, 3) := by decide +kernel
theorem dX4_moveCue_41 : decode cX4_moveCue 41 = .ok (.if_icmp .ge 6, 3) := by decide +kernel
theorem dX4_moveCue_44 : decode cX4_moveCue 44 = .ok (.bipush (-5), 2) := by decide +kernel
theorem dX4_moveCue_46 : decode cX4_moveCue 46 = .ok (.ireturn, 1) := by decide +kernel
theorem dX4_moveCue_47 : decode cX4_moveCue 47 = .ok (.aload_n 0, 1) := by decide +kernel
theorem dX4_moveCue_48 : decode cX4_moveCue 48 = .ok (.getfield 18, 3) := by decide +kernel
theorem dX4_moveCue_51 : decode cX4_moveCue 51 = .ok (.iload_n 1, 1) := by decide +kernel
theorem dX4_moveCue_52 : decode cX4_moveCue 52 = .ok (.invokevirtual 117, 3) := by decide +kernel
theorem dX4_moveCue_55 : decode cX4_moveCue 55 = .ok (.aload_n 3, 1) := by decide +kernel
theorem dX4_moveCue_56 : decode cX4_moveCue 56 = .ok (.iload_n 2, 1) := by decide +kernel
theorem dX4_moveCue_57 : decode cX4_moveCue 57 = .ok (.putfield 121, 3) := by decide +kernel
theorem dX4_moveCue_60 : decode cX4_moveCue 60 = .ok (.aload_n 0, 1) := by decide +kernel
theorem dX4_moveCue_61 : decode cX4_moveCue 61 = .ok (.getfield 18, 3) := by decide +kernel
theorem dX4_moveCue_64 : decode cX4_moveCue 64 = .ok (.invokevirtual 124, 3) := by decide +kernel
theorem dX4_moveCue_67 : decode cX4_moveCue 67 = .ok (.ireturn, 1) := by decide +kernel
theorem dX4_putGoal_0 : decode cX4_putGoal 0 = .ok (.aload_n 0, 1) := by decide +kernel
theorem dX4_putGoal_1 : decode cX4_putGoal 1 = .ok (.iload_n 1, 1) := by decide +kernel
theorem dX4_putGoal_2 : decode cX4_putGoal 2 = .ok (.invokevirtual 127, 3) := by decide +kernel
theorem dX4_putGoal_5 : decode cX4_putGoal 5 = .ok (.astore_n 3, 1) := by decide +kernel
theorem dX4_putGoal_6 : decode cX4_putGoal 6 = .ok (.aload_n 3, 1) := by decide +kernel
theorem dX4_putGoal_7 : decode cX4_putGoal 7 = .ok (.ifnonnull 5, 3) := by decide +kernel
theorem dX4_putGoal_10 : decode cX4_putGoal 10 = .ok (.iconst (-1), 1) := by decide +kernel
theorem dX4_putGoal_11 : decode cX4_putGoal 11 = .ok (.ireturn, 1) := by decide +kernel
theorem dX4_putGoal_12 : decode cX4_putGoal 12 = .ok (.iload_n 2, 1) := by decide +kernel
theorem dX4_putGoal_13 : decode cX4_putGoal 13 = .ok (.iconst 0, 1) := by decide +kernel
theorem dX4_putGoal_14 : decode cX4_putGoal 14 = .ok (.bipush 100, 2) := by decide +kernel
theorem dX4_putGoal_16 : decode cX4_putGoal 16 = .ok (.invokestatic 88, 3) := by decide +kernel
theorem dX4_putGoal_19 : decode cX4_putGoal 19 = .ok (.ifCond .ne 6, 3) := by decide +kernel
theorem dX4_putGoal_22 : decode cX4_putGoal 22 = .ok (.bipush (-2), 2) := by decide +kernel
theorem dX4_putGoal_24 : decode cX4_putGoal 24 = .ok (.ireturn, 1) := by decide +kernel
theorem dX4_putGoal_25 : decode cX4_putGoal 25 = .ok (.aload_n 3, 1) := by decide +kernel
theorem dX4_putGoal_26 : decode cX4_putGoal 26 = .ok (.getfield 66, 3) := by decide +kernel
theorem dX4_putGoal_29 : decode cX4_putGoal 29 = .ok (.istore 4, 2) := by decide +kernel
theorem dX4_putGoal_31 : decode cX4_putGoal 31 = .ok (.aload_n 3, 1) := by decide +kernel
theorem dX4_putGoal_32 : decode cX4_putGoal 32 = .ok (.iload_n 2, 1) := by decide +kernel
theorem dX4_putGoal_33 : decode cX4_putGoal 33 = .ok (.putfield 66, 3) := by decide +kernel
theorem dX4_putGoal_36 : decode cX4_putGoal 36 = .ok (.iload 4, 2) := by decide +kernel
theorem dX4_putGoal_38 : decode cX4_putGoal 38 = .ok (.ireturn, 1) := by decide +kernel
theorem dX4_beginAnew_0 : decode cX4_beginAnew 0 = .ok (.aload_n 0, 1) := by decide +kernel
theorem dX4_beginAnew_1 : decode cX4_beginAnew 1 = .ok (.getfield 79, 3) := by decide +kernel
theorem dX4_beginAnew_4 : decode cX4_beginAnew 4 = .ok (.istore_n 1, 1) := by decide +kernel
theorem dX4_beginAnew_5 : decode cX4_beginAnew 5 = .ok (.aload_n 0, 1) := by decide +kernel
theorem dX4_beginAnew_6 : decode cX4_beginAnew 6 = .ok (.iconst 0, 1) := by decide +kernel
theorem dX4_beginAnew_7 : decode cX4_beginAnew 7 = .ok (.putfield 79, 3) := by decide +kernel
theorem dX4_beginAnew_10 : decode cX4_beginAnew 10 = .ok (.aload_n 0, 1) := by decide +kernel
theorem dX4_beginAnew_11 : decode cX4_beginAnew 11 = .ok (.getfield 18, 3) := by decide +kernel
theorem dX4_beginAnew_14 : decode cX4_beginAnew 14 = .ok (.invokevirtual 131, 3) := by decide +kernel
theorem dX4_beginAnew_17 : decode cX4_beginAnew 17 = .ok (.iconst 0, 1) := by decide +kernel
theorem dX4_beginAnew_18 : decode cX4_beginAnew 18 = .ok (.istore_n 2, 1) := by decide +kernel
theorem dX4_beginAnew_19 : decode cX4_beginAnew 19 = .ok (.iload_n 2, 1) := by decide +kernel
theorem dX4_beginAnew_20 : decode cX4_beginAnew 20 = .ok (.aload_n 0, 1) := by decide +kernel
theorem dX4_beginAnew_21 : decode cX4_beginAnew 21 = .ok (.getfield 24, 3) := by decide +kernel
theorem dX4_beginAnew_24 : decode cX4_beginAnew 24 = .ok (.arraylength, 1) := by decide +kernel
theorem dX4_beginAnew_25 : decode cX4_beginAnew 25 = .ok (.if_icmp .ge 18, 3) := by decide +kernel
theorem dX4_beginAnew_28 : decode cX4_beginAnew 28 = .ok (.aload_n 0, 1) := by decide +kernel
theorem dX4_beginAnew_29 : decode cX4_beginAnew 29 = .ok (.getfield 24, 3) := by decide +kernel
theorem dX4_beginAnew_32 : decode cX4_beginAnew 32 = .ok (.iload_n 2, 1) := by decide +kernel
theorem dX4_beginAnew_33 : decode cX4_beginAnew 33 = .ok (.aaload, 1) := by decide +kernel
theorem dX4_beginAnew_34 : decode cX4_beginAnew 34 = .ok (.invokevirtual 134, 3) := by decide +kernel
theorem dX4_beginAnew_37 : decode cX4_beginAnew 37 = .ok (.iinc 2 1, 3) := by decide +kernel
theorem dX4_beginAnew_40 : decode cX4_beginAnew 40 = .ok (.goto (-21), 3) := by decide +kernel
theorem dX4_beginAnew_43 : decode cX4_beginAnew 43 = .ok (.iconst 0, 1) := by decide +kernel
theorem dX4_beginAnew_44 : decode cX4_beginAnew 44 = .ok (.istore_n 2, 1) := by decide +kernel
theorem dX4_beginAnew_45 : decode cX4_beginAnew 45 = .ok (.iload_n 2, 1) := by decide +kernel
theorem dX4_beginAnew_46 : decode cX4_beginAnew 46 = .ok (.aload_n 0, 1) := by decide +kernel
theorem dX4_beginAnew_47 : decode cX4_beginAnew 47 = .ok (.getfield 30, 3) := by decide +kernel
theorem dX4_beginAnew_50 : decode cX4_beginAnew 50 = .ok (.arraylength, 1) := by decide +kernel
theorem dX4_beginAnew_51 : decode cX4_beginAnew 51 = .ok (.if_icmp .ge 31, 3) := by decide +kernel
theorem dX4_beginAnew_54 : decode cX4_beginAnew 54 = .ok (.aload_n 0, 1) := by decide +kernel
theorem dX4_beginAnew_55 : decode cX4_beginAnew 55 = .ok (.getfield 30, 3) := by decide +kernel
theorem dX4_beginAnew_58 : decode cX4_beginAnew 58 = .ok (.iload_n 2, 1) := by decide +kernel
theorem dX4_beginAnew_59 : decode cX4_beginAnew 59 = .ok (.aaload, 1) := by decide +kernel
theorem dX4_beginAnew_60 : decode cX4_beginAnew 60 = .ok (.bipush 50, 2) := by decide +kernel
theorem dX4_beginAnew_62 : decode cX4_beginAnew 62 = .ok (.putfield 62, 3) := by decide +kernel
theorem dX4_beginAnew_65 : decode cX4_beginAnew 65 = .ok (.aload_n 0, 1) := by decide +kernel
theorem dX4_beginAnew_66 : decode cX4_beginAnew 66 = .ok (.getfield 30, 3) := by decide +kernel
theorem dX4_beginAnew_69 : decode cX4_beginAnew 69 = .ok (.iload_n 2, 1) := by decide +kernel
theorem dX4_beginAnew_70 : decode cX4_beginAnew 70 = .ok (.aaload, 1) := by decide +kernel
theorem dX4_beginAnew_71 : decode cX4_beginAnew 71 = .ok (.bipush 50, 2) := by decide +kernel
theorem dX4_beginAnew_73 : decode cX4_beginAnew 73 = .ok (.putfield 66, 3) := by decide +kernel
theorem dX4_beginAnew_76 : decode cX4_beginAnew 76 = .ok (.iinc 2 1, 3) := by decide +kernel
theorem dX4_beginAnew_79 : decode cX4_beginAnew 79 = .ok (.goto (-34), 3) := by decide +kernel
theorem dX4_beginAnew_82 : decode cX4_beginAnew 82 = .ok (.aload_n 0, 1) := by decide +kernel
theorem dX4_beginAnew_83 : decode cX4_beginAnew 83 = .ok (.getfield 37, 3) := by decide +kernel
theorem dX4_beginAnew_86 : decode cX4_beginAnew 86 = .ok (.iconst 0, 1) := by decide +kernel
theorem dX4_beginAnew_87 : decode cX4_beginAnew 87 = .ok (.putfield 137, 3) := by decide +kernel
theorem dX4_beginAnew_90 : decode cX4_beginAnew 90 = .ok (.aload_n 0, 1) := by decide +kernel
theorem dX4_beginAnew_91 : decode cX4_beginAnew 91 = .ok (.iconst 0, 1) := by decide +kernel
theorem dX4_beginAnew_92 : decode cX4_beginAnew 92 = .ok (.putfield 72, 3) := by decide +kernel
theorem dX4_beginAnew_95 : decode cX4_beginAnew 95 = .ok (.iload_n 1, 1) := by decide +kernel
theorem dX4_beginAnew_96 : decode cX4_beginAnew 96 = .ok (.ireturn, 1) := by decide +kernel
theorem dX4_runSeconds_0 : decode cX4_runSeconds 0 = .ok (.iload_n 1, 1) := by decide +kernel
theorem dX4_runSeconds_1 : decode cX4_runSeconds 1 = .ok (.iconst 1, 1) := by decide +kernel
theorem dX4_runSeconds_2 : decode cX4_runSeconds 2 = .ok (.sipush 200, 3) := by decide +kernel
theorem dX4_runSeconds_5 : decode cX4_runSeconds 5 = .ok (.invokestatic 88, 3) := by decide +kernel
theorem dX4_runSeconds_8 : decode cX4_runSeconds 8 = .ok (.ifCond .ne 6, 3) := by decide +kernel
theorem dX4_runSeconds_11 : decode cX4_runSeconds 11 = .ok (.bipush (-2), 2) := by decide +kernel
theorem dX4_runSeconds_13 : decode cX4_runSeconds 13 = .ok (.ireturn, 1) := by decide +kernel
theorem dX4_runSeconds_14 : decode cX4_runSeconds 14 = .ok (.aload_n 0, 1) := by decide +kernel
theorem dX4_runSeconds_15 : decode cX4_runSeconds 15 = .ok (.getfield 79, 3) := by decide +kernel
theorem dX4_runSeconds_18 : decode cX4_runSeconds 18 = .ok (.iload_n 1, 1) := by decide +kernel
theorem dX4_runSeconds_19 : decode cX4_runSeconds 19 = .ok (.iadd, 1) := by decide +kernel
theorem dX4_runSeconds_20 : decode cX4_runSeconds 20 = .ok (.sipush 1200, 3) := by decide +kernel
theorem dX4_runSeconds_23 : decode cX4_runSeconds 23 = .ok (.if_icmp .le 6, 3) := by decide +kernel
theorem dX4_runSeconds_26 : decode cX4_runSeconds 26 = .ok (.bipush (-5), 2) := by decide +kernel
theorem dX4_runSeconds_28 : decode cX4_runSeconds 28 = .ok (.ireturn, 1) := by decide +kernel
theorem dX4_runSeconds_29 : decode cX4_runSeconds 29 = .ok (.aload_n 0, 1) := by decide +kernel
theorem dX4_runSeconds_30 : decode cX4_runSeconds 30 = .ok (.getfield 18, 3) := by decide +kernel
theorem dX4_runSeconds_33 : decode cX4_runSeconds 33 = .ok (.invokevirtual 140, 3) := by decide +kernel
theorem dX4_runSeconds_36 : decode cX4_runSeconds 36 = .ok (.istore_n 2, 1) := by decide +kernel
theorem dX4_runSeconds_37 : decode cX4_runSeconds 37 = .ok (.iconst 0, 1) := by decide +kernel
theorem dX4_runSeconds_38 : decode cX4_runSeconds 38 = .ok (.istore_n 3, 1) := by decide +kernel
theorem dX4_runSeconds_39 : decode cX4_runSeconds 39 = .ok (.iload_n 3, 1) := by decide +kernel
theorem dX4_runSeconds_40 : decode cX4_runSeconds 40 = .ok (.iload_n 1, 1) := by decide +kernel
theorem dX4_runSeconds_41 : decode cX4_runSeconds 41 = .ok (.if_icmp .ge 14, 3) := by decide +kernel
theorem dX4_runSeconds_44 : decode cX4_runSeconds 44 = .ok (.aload_n 0, 1) := by decide +kernel
theorem dX4_runSeconds_45 : decode cX4_runSeconds 45 = .ok (.invokevirtual 143, 3) := by decide +kernel
theorem dX4_runSeconds_48 : decode cX4_runSeconds 48 = .ok (.pop, 1) := by decide +kernel
theorem dX4_runSeconds_49 : decode cX4_runSeconds 49 = .ok (.iinc 3 1, 3) := by decide +kernel
theorem dX4_runSeconds_52 : decode cX4_runSeconds 52 = .ok (.goto (-13), 3) := by decide +kernel
theorem dX4_runSeconds_55 : decode cX4_runSeconds 55 = .ok (.aload_n 0, 1) := by decide +kernel
theorem dX4_runSeconds_56 : decode cX4_runSeconds 56 = .ok (.getfield 18, 3) := by decide +kernel
theorem dX4_runSeconds_59 : decode cX4_runSeconds 59 = .ok (.invokevirtual 140, 3) := by decide +kernel
theorem dX4_runSeconds_62 : decode cX4_runSeconds 62 = .ok (.iload_n 2, 1) := by decide +kernel
theorem dX4_runSeconds_63 : decode cX4_runSeconds 63 = .ok (.isub, 1) := by decide +kernel
theorem dX4_runSeconds_64 : decode cX4_runSeconds 64 = .ok (.ireturn, 1) := by decide +kernel
theorem dX4_reelAt_0 : decode cX4_reelAt 0 = .ok (.iload_n 1, 1) := by decide +kernel
theorem dX4_reelAt_1 : decode cX4_reelAt 1 = .ok (.ifCond .lt 12, 3) := by decide +kernel
theorem dX4_reelAt_4 : decode cX4_reelAt 4 = .ok (.iload_n 1, 1) := by decide +kernel
theorem dX4_reelAt_5 : decode cX4_reelAt 5 = .ok (.aload_n 0, 1) := by decide +kernel
theorem dX4_reelAt_6 : decode cX4_reelAt 6 = .ok (.getfield 24, 3) := by decide +kernel
theorem dX4_reelAt_9 : decode cX4_reelAt 9 = .ok (.arraylength, 1) := by decide +kernel
theorem dX4_reelAt_10 : decode cX4_reelAt 10 = .ok (.if_icmp .lt 7, 3) := by decide +kernel
theorem dX4_reelAt_13 : decode cX4_reelAt 13 = .ok (.aconst_null, 1) := by decide +kernel
theorem dX4_reelAt_14 : decode cX4_reelAt 14 = .ok (.goto 9, 3) := by decide +kernel
theorem dX4_reelAt_17 : decode cX4_reelAt 17 = .ok (.aload_n 0, 1) := by decide +kernel
theorem dX4_reelAt_18 : decode cX4_reelAt 18 = .ok (.getfield 24, 3) := by decide +kernel
theorem dX4_reelAt_21 : decode cX4_reelAt 21 = .ok (.iload_n 1, 1) := by decide +kernel
theorem dX4_reelAt_22 : decode cX4_reelAt 22 = .ok (.aaload, 1) := by decide +kernel
theorem dX4_reelAt_23 : decode cX4_reelAt 23 = .ok (.areturn, 1) := by decide +kernel
theorem dX4_soundAt_0 : decode cX4_soundAt 0 = .ok (.aload_n 0, 1) := by decide +kernel
theorem dX4_soundAt_1 : decode cX4_soundAt 1 = .ok (.iload_n 1, 1) := by decide +kernel
theorem dX4_soundAt_2 : decode cX4_soundAt 2 = .ok (.invokevirtual 92, 3) := by decide +kernel
theorem dX4_soundAt_5 : decode cX4_soundAt 5 = .ok (.astore_n 3, 1) := by decide +kernel
theorem dX4_soundAt_6 : decode cX4_soundAt 6 = .ok (.aload_n 3, 1) := by decide +kernel
theorem dX4_soundAt_7 : decode cX4_soundAt 7 = .ok (.ifnonnull 7, 3) := by decide +kernel
theorem dX4_soundAt_10 : decode cX4_soundAt 10 = .ok (.aconst_null, 1) := by decide +kernel
theorem dX4_soundAt_11 : decode cX4_soundAt 11 = .ok (.goto 8, 3) := by decide +kernel
theorem dX4_soundAt_14 : decode cX4_soundAt 14 = .ok (.aload_n 3, 1) := by decide +kernel
theorem dX4_soundAt_15 : decode cX4_soundAt 15 = .ok (.iload_n 2, 1) := by decide +kernel
theorem dX4_soundAt_16 : decode cX4_soundAt 16 = .ok (.invokevirtual 146, 3) := by decide +kernel
theorem dX4_soundAt_19 : decode cX4_soundAt 19 = .ok (.areturn, 1) := by decide +kernel
theorem dX4_channelAt_0 : decode cX4_channelAt 0 = .ok (.iload_n 1, 1) := by decide +kernel
theorem dX4_channelAt_1 : decode cX4_channelAt 1 = .ok (.ifCond .lt 12, 3) := by decide +kernel
theorem dX4_channelAt_4 : decode cX4_channelAt 4 = .ok (.iload_n 1, 1) := by decide +kernel
theorem dX4_channelAt_5 : decode cX4_channelAt 5 = .ok (.aload_n 0, 1) := by decide +kernel
theorem dX4_channelAt_6 : decode cX4_channelAt 6 = .ok (.getfield 30, 3) := by decide +kernel
theorem dX4_channelAt_9 : decode cX4_channelAt 9 = .ok (.arraylength, 1) := by decide +kernel
theorem dX4_channelAt_10 : decode cX4_channelAt 10 = .ok (.if_icmp .lt 7, 3) := by decide +kernel
theorem dX4_channelAt_13 : decode cX4_channelAt 13 = .ok (.aconst_null, 1) := by decide +kernel
theorem dX4_channelAt_14 : decode cX4_channelAt 14 = .ok (.goto 9, 3) := by decide +kernel
theorem dX4_channelAt_17 : decode cX4_channelAt 17 = .ok (.aload_n 0, 1) := by decide +kernel
theorem dX4_channelAt_18 : decode cX4_channelAt 18 = .ok (.getfield 30, 3) := by decide +kernel
theorem dX4_channelAt_21 : decode cX4_channelAt 21 = .ok (.iload_n 1, 1) := by decide +kernel
theorem dX4_channelAt_22 : decode cX4_channelAt 22 = .ok (.aaload, 1) := by decide +kernel
theorem dX4_channelAt_23 : decode cX4_channelAt 23 = .ok (.areturn, 1) := by decide +kernel
theorem dX4_runSecond_0 : decode cX4_runSecond 0 = .ok (.aload_n 0, 1) := by decide +kernel
theorem dX4_runSecond_1 : decode cX4_runSecond 1 = .ok (.invokevirtual 150, 3) := by decide +kernel
theorem dX4_runSecond_4 : decode cX4_runSecond 4 = .ok (.iconst 0, 1) := by decide +kernel
theorem dX4_runSecond_5 : decode cX4_runSecond 5 = .ok (.istore_n 1, 1) := by decide +kernel
theorem dX4_runSecond_6 : decode cX4_runSecond 6 = .ok (.iload_n 1, 1) := by decide +kernel
theorem dX4_runSecond_7 : decode cX4_runSecond 7 = .ok (.aload_n 0, 1) := by decide +kernel
theorem dX4_runSecond_8 : decode cX4_runSecond 8 = .ok (.getfield 30, 3) := by decide +kernel
theorem dX4_runSecond_11 : decode cX4_runSecond 11 = .ok (.arraylength, 1) := by decide +kernel
theorem dX4_runSecond_12 : decode cX4_runSecond 12 = .ok (.if_icmp .ge 24, 3) := by decide +kernel
theorem dX4_runSecond_15 : decode cX4_runSecond 15 = .ok (.aload_n 0, 1) := by decide +kernel
theorem dX4_runSecond_16 : decode cX4_runSecond 16 = .ok (.getfield 30, 3) := by decide +kernel
theorem dX4_runSecond_19 : decode cX4_runSecond 19 = .ok (.iload_n 1, 1) := by decide +kernel
theorem dX4_runSecond_20 : decode cX4_runSecond 20 = .ok (.aaload, 1) := by decide +kernel
theorem dX4_runSecond_21 : decode cX4_runSecond 21 = .ok (.aload_n 0, 1) := by decide +kernel
theorem dX4_runSecond_22 : decode cX4_runSecond 22 = .ok (.getfield 9, 3) := by decide +kernel
theorem dX4_runSecond_25 : decode cX4_runSecond 25 = .ok (.iconst 2, 1) := by decide +kernel
theorem dX4_runSecond_26 : decode cX4_runSecond 26 = .ok (.iaload, 1) := by decide +kernel
theorem dX4_runSecond_27 : decode cX4_runSecond 27 = .ok (.invokevirtual 153, 3) := by decide +kernel
theorem dX4_runSecond_30 : decode cX4_runSecond 30 = .ok (.iinc 1 1, 3) := by decide +kernel
theorem dX4_runSecond_33 : decode cX4_runSecond 33 = .ok (.goto (-27), 3) := by decide +kernel
theorem dX4_runSecond_36 : decode cX4_runSecond 36 = .ok (.aload_n 0, 1) := by decide +kernel
theorem dX4_runSecond_37 : decode cX4_runSecond 37 = .ok (.invokevirtual 156, 3) := by decide +kernel
theorem dX4_runSecond_40 : decode cX4_runSecond 40 = .ok (.aload_n 0, 1) := by decide +kernel
theorem dX4_runSecond_41 : decode cX4_runSecond 41 = .ok (.invokevirtual 159, 3) := by decide +kernel
theorem dX4_runSecond_44 : decode cX4_runSecond 44 = .ok (.iadd, 1) := by decide +kernel
theorem dX4_runSecond_45 : decode cX4_runSecond 45 = .ok (.istore_n 1, 1) := by decide +kernel
theorem dX4_runSecond_46 : decode cX4_runSecond 46 = .ok (.iconst 0, 1) := by decide +kernel
theorem dX4_runSecond_47 : decode cX4_runSecond 47 = .ok (.istore_n 2, 1) := by decide +kernel
theorem dX4_runSecond_48 : decode cX4_runSecond 48 = .ok (.iload_n 2, 1) := by decide +kernel
theorem dX4_runSecond_49 : decode cX4_runSecond 49 = .ok (.aload_n 0, 1) := by decide +kernel
theorem dX4_runSecond_50 : decode cX4_runSecond 50 = .ok (.getfield 24, 3) := by decide +kernel
theorem dX4_runSecond_53 : decode cX4_runSecond 53 = .ok (.arraylength, 1) := by decide +kernel
theorem dX4_runSecond_54 : decode cX4_runSecond 54 = .ok (.if_icmp .ge 18, 3) := by decide +kernel
theorem dX4_runSecond_57 : decode cX4_runSecond 57 = .ok (.aload_n 0, 1) := by decide +kernel
theorem dX4_runSecond_58 : decode cX4_runSecond 58 = .ok (.getfield 24, 3) := by decide +kernel
theorem dX4_runSecond_61 : decode cX4_runSecond 61 = .ok (.iload_n 2, 1) := by decide +kernel
theorem dX4_runSecond_62 : decode cX4_runSecond 62 = .ok (.aaload, 1) := by decide +kernel
theorem dX4_runSecond_63 : decode cX4_runSecond 63 = .ok (.invokevirtual 162, 3) := by decide +kernel
theorem dX4_runSecond_66 : decode cX4_runSecond 66 = .ok (.iinc 2 1, 3) := by decide +kernel
theorem dX4_runSecond_69 : decode cX4_runSecond 69 = .ok (.goto (-21), 3) := by decide +kernel
theorem dX4_runSecond_72 : decode cX4_runSecond 72 = .ok (.aload_n 0, 1) := by decide +kernel
theorem dX4_runSecond_73 : decode cX4_runSecond 73 = .ok (.getfield 37, 3) := by decide +kernel
theorem dX4_runSecond_76 : decode cX4_runSecond 76 = .ok (.invokevirtual 165, 3) := by decide +kernel
theorem dX4_runSecond_79 : decode cX4_runSecond 79 = .ok (.aload_n 0, 1) := by decide +kernel
theorem dX4_runSecond_80 : decode cX4_runSecond 80 = .ok (.invokevirtual 168, 3) := by decide +kernel
theorem dX4_runSecond_83 : decode cX4_runSecond 83 = .ok (.aload_n 0, 1) := by decide +kernel
theorem dX4_runSecond_84 : decode cX4_runSecond 84 = .ok (.getfield 79, 3) := by decide +kernel
theorem dX4_runSecond_87 : decode cX4_runSecond 87 = .ok (.ifCond .lt 25, 3) := by decide +kernel
theorem dX4_runSecond_90 : decode cX4_runSecond 90 = .ok (.aload_n 0, 1) := by decide +kernel
theorem dX4_runSecond_91 : decode cX4_runSecond 91 = .ok (.getfield 79, 3) := by decide +kernel
theorem dX4_runSecond_94 : decode cX4_runSecond 94 = .ok (.aload_n 0, 1) := by decide +kernel
theorem dX4_runSecond_95 : decode cX4_runSecond 95 = .ok (.getfield 44, 3) := by decide +kernel
theorem dX4_runSecond_98 : decode cX4_runSecond 98 = .ok (.arraylength, 1) := by decide +kernel
theorem dX4_runSecond_99 : decode cX4_runSecond 99 = .ok (.if_icmp .ge 13, 3) := by decide +kernel
theorem dX4_runSecond_102 : decode cX4_runSecond 102 = .ok (.aload_n 0, 1) := by decide +kernel
theorem dX4_runSecond_103 : decode cX4_runSecond 103 = .ok (.getfield 44, 3) := by decide +kernel
theorem dX4_runSecond_106 : decode cX4_runSecond 106 = .ok (.aload_n 0, 1) := by decide +kernel
theorem dX4_runSecond_107 : decode cX4_runSecond 107 = .ok (.getfield 79, 3) := by decide +kernel
theorem dX4_runSecond_110 : decode cX4_runSecond 110 = .ok (.iload_n 1, 1) := by decide +kernel
theorem dX4_runSecond_111 : decode cX4_runSecond 111 = .ok (.iastore, 1) := by decide +kernel
theorem dX4_runSecond_112 : decode cX4_runSecond 112 = .ok (.aload_n 0, 1) := by decide +kernel
theorem dX4_runSecond_113 : decode cX4_runSecond 113 = .ok (.dup, 1) := by decide +kernel
theorem dX4_runSecond_114 : decode cX4_runSecond 114 = .ok (.getfield 79, 3) := by decide +kernel
theorem dX4_runSecond_117 : decode cX4_runSecond 117 = .ok (.iconst 1, 1) := by decide +kernel
theorem dX4_runSecond_118 : decode cX4_runSecond 118 = .ok (.iadd, 1) := by decide +kernel
theorem dX4_runSecond_119 : decode cX4_runSecond 119 = .ok (.putfield 79, 3) := by decide +kernel
theorem dX4_runSecond_122 : decode cX4_runSecond 122 = .ok (.iload_n 1, 1) := by decide +kernel
theorem dX4_runSecond_123 : decode cX4_runSecond 123 = .ok (.ireturn, 1) := by decide +kernel
theorem dX4_letCuesCome_0 : decode cX4_letCuesCome 0 = .ok (.aload_n 0, 1) := by decide +kernel
theorem dX4_letCuesCome_1 : decode cX4_letCuesCome 1 = .ok (.getfield 18, 3) := by decide +kernel
theorem dX4_letCuesCome_4 : decode cX4_letCuesCome 4 = .ok (.getfield 171, 3) := by decide +kernel
theorem dX4_letCuesCome_7 : decode cX4_letCuesCome 7 = .ok (.istore_n 1, 1) := by decide +kernel
theorem dX4_letCuesCome_8 : decode cX4_letCuesCome 8 = .ok (.iload_n 1, 1) := by decide +kernel
theorem dX4_letCuesCome_9 : decode cX4_letCuesCome 9 = .ok (.aload_n 0, 1) := by decide +kernel
theorem dX4_letCuesCome_10 : decode cX4_letCuesCome 10 = .ok (.getfield 18, 3) := by decide +kernel
theorem dX4_letCuesCome_13 : decode cX4_letCuesCome 13 = .ok (.getfield 174, 3) := by decide +kernel
theorem dX4_letCuesCome_16 : decode cX4_letCuesCome 16 = .ok (.if_icmp .ge 120, 3) := by decide +kernel
theorem dX4_letCuesCome_19 : decode cX4_letCuesCome 19 = .ok (.aload_n 0, 1) := by decide +kernel
theorem dX4_letCuesCome_20 : decode cX4_letCuesCome 20 = .ok (.getfield 18, 3) := by decide +kernel
theorem dX4_letCuesCome_23 : decode cX4_letCuesCome 23 = .ok (.iload_n 1, 1) := by decide +kernel
theorem dX4_letCuesCome_24 : decode cX4_letCuesCome 24 = .ok (.invokevirtual 108, 3) := by decide +kernel
theorem dX4_letCuesCome_27 : decode cX4_letCuesCome 27 = .ok (.astore_n 2, 1) := by decide +kernel
theorem dX4_letCuesCome_28 : decode cX4_letCuesCome 28 = .ok (.aload_n 2, 1) := by decide +kernel
theorem dX4_letCuesCome_29 : decode cX4_letCuesCome 29 = .ok (.ifnull 14, 3) := by decide +kernel
theorem dX4_letCuesCome_32 : decode cX4_letCuesCome 32 = .ok (.aload_n 2, 1) := by decide +kernel
theorem dX4_letCuesCome_33 : decode cX4_letCuesCome 33 = .ok (.getfield 121, 3) := by decide +kernel
theorem dX4_letCuesCome_36 : decode cX4_letCuesCome 36 = .ok (.aload_n 0, 1) := by decide +kernel
theorem dX4_letCuesCome_37 : decode cX4_letCuesCome 37 = .ok (.getfield 79, 3) := by decide +kernel
theorem dX4_letCuesCome_40 : decode cX4_letCuesCome 40 = .ok (.if_icmp .le 4, 3) := by decide +kernel
theorem dX4_letCuesCome_43 : decode cX4_letCuesCome 43 = .ok (.return_, 1) := by decide +kernel
theorem dX4_letCuesCome_44 : decode cX4_letCuesCome 44 = .ok (.aload_n 0, 1) := by decide +kernel
theorem dX4_letCuesCome_45 : decode cX4_letCuesCome 45 = .ok (.getfield 18, 3) := by decide +kernel
theorem dX4_letCuesCome_48 : decode cX4_letCuesCome 48 = .ok (.iload_n 1, 1) := by decide +kernel
theorem dX4_letCuesCome_49 : decode cX4_letCuesCome 49 = .ok (.iconst 1, 1) := by decide +kernel
theorem dX4_letCuesCome_50 : decode cX4_letCuesCome 50 = .ok (.iadd, 1) := by decide +kernel
theorem dX4_letCuesCome_51 : decode cX4_letCuesCome 51 = .ok (.putfield 171, 3) := by decide +kernel
theorem dX4_letCuesCome_54 : decode cX4_letCuesCome 54 = .ok (.aload_n 2, 1) := by decide +kernel
theorem dX4_letCuesCome_55 : decode cX4_letCuesCome 55 = .ok (.iconst 1, 1) := by decide +kernel
theorem dX4_letCuesCome_56 : decode cX4_letCuesCome 56 = .ok (.putfield 112, 3) := by decide +kernel
theorem dX4_letCuesCome_59 : decode cX4_letCuesCome 59 = .ok (.aload_n 2, 1) := by decide +kernel
theorem dX4_letCuesCome_60 : decode cX4_letCuesCome 60 = .ok (.getfield 175, 3) := by decide +kernel
theorem dX4_letCuesCome_63 : decode cX4_letCuesCome 63 = .ok (.ifCond .ne 22, 3) := by decide +kernel
theorem dX4_letCuesCome_66 : decode cX4_letCuesCome 66 = .ok (.aload_n 2, 1) := by decide +kernel
theorem dX4_letCuesCome_67 : decode cX4_letCuesCome 67 = .ok (.aload_n 0, 1) := by decide +kernel
theorem dX4_letCuesCome_68 : decode cX4_letCuesCome 68 = .ok (.aload_n 2, 1) := by decide +kernel
theorem dX4_letCuesCome_69 : decode cX4_letCuesCome 69 = .ok (.getfield 178, 3) := by decide +kernel
theorem dX4_letCuesCome_72 : decode cX4_letCuesCome 72 = .ok (.aload_n 2, 1) := by decide +kernel
theorem dX4_letCuesCome_73 : decode cX4_letCuesCome 73 = .ok (.getfield 181, 3) := by decide +kernel
theorem dX4_letCuesCome_76 : decode cX4_letCuesCome 76 = .ok (.invokevirtual 184, 3) := by decide +kernel
theorem dX4_letCuesCome_79 : decode cX4_letCuesCome 79 = .ok (.putfield 112, 3) := by decide +kernel
theorem dX4_letCuesCome_82 : decode cX4_letCuesCome 82 = .ok (.goto 48, 3) := by decide +kernel
theorem dX4_letCuesCome_85 : decode cX4_letCuesCome 85 = .ok (.aload_n 2, 1) := by decide +kernel
theorem dX4_letCuesCome_86 : decode cX4_letCuesCome 86 = .ok (.getfield 175, 3) := by decide +kernel
theorem dX4_letCuesCome_89 : decode cX4_letCuesCome 89 = .ok (.iconst 1, 1) := by decide +kernel
theorem dX4_letCuesCome_90 : decode cX4_letCuesCome 90 = .ok (.if_icmp .ne 27, 3) := by decide +kernel
theorem dX4_letCuesCome_93 : decode cX4_letCuesCome 93 = .ok (.aload_n 0, 1) := by decide +kernel
theorem dX4_letCuesCome_94 : decode cX4_letCuesCome 94 = .ok (.getfield 37, 3) := by decide +kernel
theorem dX4_letCuesCome_97 : decode cX4_letCuesCome 97 = .ok (.aload_n 2, 1) := by decide +kernel
theorem dX4_letCuesCome_98 : decode cX4_letCuesCome 98 = .ok (.getfield 178, 3) := by decide +kernel
theorem dX4_letCuesCome_101 : decode cX4_letCuesCome 101 = .ok (.aload_n 2, 1) := by decide +kernel
theorem dX4_letCuesCome_102 : decode cX4_letCuesCome 102 = .ok (.getfield 181, 3) := by decide +kernel
theorem dX4_letCuesCome_105 : decode cX4_letCuesCome 105 = .ok (.aload_n 0, 1) := by decide +kernel
theorem dX4_letCuesCome_106 : decode cX4_letCuesCome 106 = .ok (.getfield 9, 3) := by decide +kernel
theorem dX4_letCuesCome_109 : decode cX4_letCuesCome 109 = .ok (.iconst 1, 1) := by decide +kernel
theorem dX4_letCuesCome_110 : decode cX4_letCuesCome 110 = .ok (.iaload, 1) := by decide +kernel
theorem dX4_letCuesCome_111 : decode cX4_letCuesCome 111 = .ok (.invokevirtual 187, 3) := by decide +kernel
theorem dX4_letCuesCome_114 : decode cX4_letCuesCome 114 = .ok (.goto 16, 3) := by decide +kernel
theorem dX4_letCuesCome_117 : decode cX4_letCuesCome 117 = .ok (.aload_n 0, 1) := by decide +kernel
theorem dX4_letCuesCome_118 : decode cX4_letCuesCome 118 = .ok (.aload_n 2, 1) := by decide +kernel
theorem dX4_letCuesCome_119 : decode cX4_letCuesCome 119 = .ok (.getfield 178, 3) := by decide +kernel
theorem dX4_letCuesCome_122 : decode cX4_letCuesCome 122 = .ok (.aload_n 2, 1) := by decide +kernel
theorem dX4_letCuesCome_123 : decode cX4_letCuesCome 123 = .ok (.getfield 181, 3) := by decide +kernel
theorem dX4_letCuesCome_126 : decode cX4_letCuesCome 126 = .ok (.invokevirtual 191, 3) := by decide +kernel
theorem dX4_letCuesCome_129 : decode cX4_letCuesCome 129 = .ok (.pop, 1) := by decide +kernel
theorem dX4_letCuesCome_130 : decode cX4_letCuesCome 130 = .ok (.iinc 1 1, 3) := by decide +kernel
theorem dX4_letCuesCome_133 : decode cX4_letCuesCome 133 = .ok (.goto (-125), 3) := by decide +kernel
theorem dX4_letCuesCome_136 : decode cX4_letCuesCome 136 = .ok (.return_, 1) := by decide +kernel
theorem dX4_callSound_0 : decode cX4_callSound 0 = .ok (.aload_n 0, 1) := by decide +kernel
theorem dX4_callSound_1 : decode cX4_callSound 1 = .ok (.iload_n 1, 1) := by decide +kernel
theorem dX4_callSound_2 : decode cX4_callSound 2 = .ok (.invokevirtual 92, 3) := by decide +kernel
theorem dX4_callSound_5 : decode cX4_callSound 5 = .ok (.astore_n 3, 1) := by decide +kernel
theorem dX4_callSound_6 : decode cX4_callSound 6 = .ok (.aload_n 3, 1) := by decide +kernel
theorem dX4_callSound_7 : decode cX4_callSound 7 = .ok (.ifnonnull 5, 3) := by decide +kernel
theorem dX4_callSound_10 : decode cX4_callSound 10 = .ok (.iconst 3, 1) := by decide +kernel
theorem dX4_callSound_11 : decode cX4_callSound 11 = .ok (.ireturn, 1) := by decide +kernel
theorem dX4_callSound_12 : decode cX4_callSound 12 = .ok (.aload_n 3, 1) := by decide +kernel
theorem dX4_callSound_13 : decode cX4_callSound 13 = .ok (.getfield 194, 3) := by decide +kernel
theorem dX4_callSound_16 : decode cX4_callSound 16 = .ok (.bipush (-6), 2) := by decide +kernel
theorem dX4_callSound_18 : decode cX4_callSound 18 = .ok (.if_icmp .eq 5, 3) := by decide +kernel
theorem dX4_callSound_21 : decode cX4_callSound 21 = .ok (.iconst 2, 1) := by decide +kernel
theorem dX4_callSound_22 : decode cX4_callSound 22 = .ok (.ireturn, 1) := by decide +kernel
theorem dX4_callSound_23 : decode cX4_callSound 23 = .ok (.aload_n 3, 1) := by decide +kernel
theorem dX4_callSound_24 : decode cX4_callSound 24 = .ok (.iload_n 2, 1) := by decide +kernel
theorem dX4_callSound_25 : decode cX4_callSound 25 = .ok (.invokevirtual 146, 3) := by decide +kernel
theorem dX4_callSound_28 : decode cX4_callSound 28 = .ok (.astore 4, 2) := by decide +kernel
theorem dX4_callSound_30 : decode cX4_callSound 30 = .ok (.aload 4, 2) := by decide +kernel
theorem dX4_callSound_32 : decode cX4_callSound 32 = .ok (.ifnull 15, 3) := by decide +kernel
theorem dX4_callSound_35 : decode cX4_callSound 35 = .ok (.aload_n 3, 1) := by decide +kernel
theorem dX4_callSound_36 : decode cX4_callSound 36 = .ok (.getfield 197, 3) := by decide +kernel
theorem dX4_callSound_39 : decode cX4_callSound 39 = .ok (.aload 4, 2) := by decide +kernel
theorem dX4_callSound_41 : decode cX4_callSound 41 = .ok (.getfield 200, 3) := by decide +kernel
theorem dX4_callSound_44 : decode cX4_callSound 44 = .ok (.if_icmp .eq 5, 3) := by decide +kernel
theorem dX4_callSound_47 : decode cX4_callSound 47 = .ok (.iconst 3, 1) := by decide +kernel
theorem dX4_callSound_48 : decode cX4_callSound 48 = .ok (.ireturn, 1) := by decide +kernel
theorem dX4_callSound_49 : decode cX4_callSound 49 = .ok (.aload_n 3, 1) := by decide +kernel
theorem dX4_callSound_50 : decode cX4_callSound 50 = .ok (.iload_n 2, 1) := by decide +kernel
theorem dX4_callSound_51 : decode cX4_callSound 51 = .ok (.putfield 194, 3) := by decide +kernel
theorem dX4_callSound_54 : decode cX4_callSound 54 = .ok (.aload_n 3, 1) := by decide +kernel
theorem dX4_callSound_55 : decode cX4_callSound 55 = .ok (.aload 4, 2) := by decide +kernel
theorem dX4_callSound_57 : decode cX4_callSound 57 = .ok (.getfield 205, 3) := by decide +kernel
theorem dX4_callSound_60 : decode cX4_callSound 60 = .ok (.putfield 208, 3) := by decide +kernel
theorem dX4_callSound_63 : decode cX4_callSound 63 = .ok (.aload 4, 2) := by decide +kernel
theorem dX4_callSound_65 : decode cX4_callSound 65 = .ok (.getfield 211, 3) := by decide +kernel
theorem dX4_callSound_68 : decode cX4_callSound 68 = .ok (.ifCond .ne 47, 3) := by decide +kernel
theorem dX4_callSound_71 : decode cX4_callSound 71 = .ok (.aload_n 0, 1) := by decide +kernel
theorem dX4_callSound_72 : decode cX4_callSound 72 = .ok (.getfield 72, 3) := by decide +kernel
theorem dX4_callSound_75 : decode cX4_callSound 75 = .ok (.ifCond .lt 40, 3) := by decide +kernel
theorem dX4_callSound_78 : decode cX4_callSound 78 = .ok (.aload_n 0, 1) := by decide +kernel
theorem dX4_callSound_79 : decode cX4_callSound 79 = .ok (.getfield 72, 3) := by decide +kernel
theorem dX4_callSound_82 : decode cX4_callSound 82 = .ok (.aload_n 0, 1) := by decide +kernel
theorem dX4_callSound_83 : decode cX4_callSound 83 = .ok (.getfield 41, 3) := by decide +kernel
theorem dX4_callSound_86 : decode cX4_callSound 86 = .ok (.arraylength, 1) := by decide +kernel
theorem dX4_callSound_87 : decode cX4_callSound 87 = .ok (.if_icmp .ge 28, 3) := by decide +kernel
theorem dX4_callSound_90 : decode cX4_callSound 90 = .ok (.aload_n 0, 1) := by decide +kernel
theorem dX4_callSound_91 : decode cX4_callSound 91 = .ok (.getfield 41, 3) := by decide +kernel
theorem dX4_callSound_94 : decode cX4_callSound 94 = .ok (.aload_n 0, 1) := by decide +kernel
theorem dX4_callSound_95 : decode cX4_callSound 95 = .ok (.getfield 72, 3) := by decide +kernel
theorem dX4_callSound_98 : decode cX4_callSound 98 = .ok (.iload_n 1, 1) := by decide +kernel
theorem dX4_callSound_99 : decode cX4_callSound 99 = .ok (.bipush 6, 2) := by decide +kernel
theorem dX4_callSound_101 : decode cX4_callSound 101 = .ok (.imul, 1) := by decide +kernel
theorem dX4_callSound_102 : decode cX4_callSound 102 = .ok (.iload_n 2, 1) := by decide +kernel
theorem dX4_callSound_103 : decode cX4_callSound 103 = .ok (.iadd, 1) := by decide +kernel
theorem dX4_callSound_104 : decode cX4_callSound 104 = .ok (.iastore, 1) := by decide +kernel
theorem dX4_callSound_105 : decode cX4_callSound 105 = .ok (.aload_n 0, 1) := by decide +kernel
theorem dX4_callSound_106 : decode cX4_callSound 106 = .ok (.dup, 1) := by decide +kernel
theorem dX4_callSound_107 : decode cX4_callSound 107 = .ok (.getfield 72, 3) := by decide +kernel
theorem dX4_callSound_110 : decode cX4_callSound 110 = .ok (.iconst 1, 1) := by decide +kernel
theorem dX4_callSound_111 : decode cX4_callSound 111 = .ok (.iadd, 1) := by decide +kernel
theorem dX4_callSound_112 : decode cX4_callSound 112 = .ok (.putfield 72, 3) := by decide +kernel
theorem dX4_callSound_115 : decode cX4_callSound 115 = .ok (.aload 4, 2) := by decide +kernel
theorem dX4_callSound_117 : decode cX4_callSound 117 = .ok (.dup, 1) := by decide +kernel
theorem dX4_callSound_118 : decode cX4_callSound 118 = .ok (.getfield 211, 3) := by decide +kernel
theorem dX4_callSound_121 : decode cX4_callSound 121 = .ok (.iconst 1, 1) := by decide +kernel
theorem dX4_callSound_122 : decode cX4_callSound 122 = .ok (.iadd, 1) := by decide +kernel
theorem dX4_callSound_123 : decode cX4_callSound 123 = .ok (.putfield 211, 3) := by decide +kernel
theorem dX4_callSound_126 : decode cX4_callSound 126 = .ok (.iconst 1, 1) := by decide +kernel
theorem dX4_callSound_127 : decode cX4_callSound 127 = .ok (.ireturn, 1) := by decide +kernel
theorem dX4_loudnessOfReels_0 : decode cX4_loudnessOfReels 0 = .ok (.iconst 0, 1) := by decide +kernel
theorem dX4_loudnessOfReels_1 : decode cX4_loudnessOfReels 1 = .ok (.istore_n 1, 1) := by decide +kernel
theorem dX4_loudnessOfReels_2 : decode cX4_loudnessOfReels 2 = .ok (.iconst 0, 1) := by decide +kernel
theorem dX4_loudnessOfReels_3 : decode cX4_loudnessOfReels 3 = .ok (.istore_n 2, 1) := by decide +kernel
theorem dX4_loudnessOfReels_4 : decode cX4_loudnessOfReels 4 = .ok (.iload_n 2, 1) := by decide +kernel
theorem dX4_loudnessOfReels_5 : decode cX4_loudnessOfReels 5 = .ok (.aload_n 0, 1) := by decide +kernel
theorem dX4_loudnessOfReels_6 : decode cX4_loudnessOfReels 6 = .ok (.getfield 24, 3) := by decide +kernel
theorem dX4_loudnessOfReels_9 : decode cX4_loudnessOfReels 9 = .ok (.arraylength, 1) := by decide +kernel
theorem dX4_loudnessOfReels_10 : decode cX4_loudnessOfReels 10 = .ok (.if_icmp .ge 44, 3) := by decide +kernel
theorem dX4_loudnessOfReels_13 : decode cX4_loudnessOfReels 13 = .ok (.aload_n 0, 1) := by decide +kernel
theorem dX4_loudnessOfReels_14 : decode cX4_loudnessOfReels 14 = .ok (.getfield 24, 3) := by decide +kernel
theorem dX4_loudnessOfReels_17 : decode cX4_loudnessOfReels 17 = .ok (.iload_n 2, 1) := by decide +kernel
theorem dX4_loudnessOfReels_18 : decode cX4_loudnessOfReels 18 = .ok (.aaload, 1) := by decide +kernel
theorem dX4_loudnessOfReels_19 : decode cX4_loudnessOfReels 19 = .ok (.aload_n 0, 1) := by decide +kernel
theorem dX4_loudnessOfReels_20 : decode cX4_loudnessOfReels 20 = .ok (.getfield 24, 3) := by decide +kernel
theorem dX4_loudnessOfReels_23 : decode cX4_loudnessOfReels 23 = .ok (.iload_n 2, 1) := by decide +kernel
theorem dX4_loudnessOfReels_24 : decode cX4_loudnessOfReels 24 = .ok (.aaload, 1) := by decide +kernel
theorem dX4_loudnessOfReels_25 : decode cX4_loudnessOfReels 25 = .ok (.getfield 194, 3) := by decide +kernel
theorem dX4_loudnessOfReels_28 : decode cX4_loudnessOfReels 28 = .ok (.invokevirtual 146, 3) := by decide +kernel
theorem dX4_loudnessOfReels_31 : decode cX4_loudnessOfReels 31 = .ok (.astore_n 3, 1) := by decide +kernel
theorem dX4_loudnessOfReels_32 : decode cX4_loudnessOfReels 32 = .ok (.aload_n 3, 1) := by decide +kernel
theorem dX4_loudnessOfReels_33 : decode cX4_loudnessOfReels 33 = .ok (.ifnull 15, 3) := by decide +kernel
theorem dX4_loudnessOfReels_36 : decode cX4_loudnessOfReels 36 = .ok (.iload_n 1, 1) := by decide +kernel
theorem dX4_loudnessOfReels_37 : decode cX4_loudnessOfReels 37 = .ok (.aload_n 0, 1) := by decide +kernel
theorem dX4_loudnessOfReels_38 : decode cX4_loudnessOfReels 38 = .ok (.iload_n 2, 1) := by decide +kernel
theorem dX4_loudnessOfReels_39 : decode cX4_loudnessOfReels 39 = .ok (.aload_n 3, 1) := by decide +kernel
theorem dX4_loudnessOfReels_40 : decode cX4_loudnessOfReels 40 = .ok (.getfield 214, 3) := by decide +kernel
theorem dX4_loudnessOfReels_43 : decode cX4_loudnessOfReels 43 = .ok (.invokevirtual 217, 3) := by decide +kernel
theorem dX4_loudnessOfReels_46 : decode cX4_loudnessOfReels 46 = .ok (.iadd, 1) := by decide +kernel
theorem dX4_loudnessOfReels_47 : decode cX4_loudnessOfReels 47 = .ok (.istore_n 1, 1) := by decide +kernel
theorem dX4_loudnessOfReels_48 : decode cX4_loudnessOfReels 48 = .ok (.iinc 2 1, 3) := by decide +kernel
theorem dX4_loudnessOfReels_51 : decode cX4_loudnessOfReels 51 = .ok (.goto (-47), 3) := by decide +kernel
theorem dX4_loudnessOfReels_54 : decode cX4_loudnessOfReels 54 = .ok (.iload_n 1, 1) := by decide +kernel
theorem dX4_loudnessOfReels_55 : decode cX4_loudnessOfReels 55 = .ok (.ireturn, 1) := by decide +kernel
theorem dX4_loudnessOfDoors_0 : decode cX4_loudnessOfDoors 0 = .ok (.iconst 0, 1) := by decide +kernel
theorem dX4_loudnessOfDoors_1 : decode cX4_loudnessOfDoors 1 = .ok (.istore_n 1, 1) := by decide +kernel
theorem dX4_loudnessOfDoors_2 : decode cX4_loudnessOfDoors 2 = .ok (.iconst 0, 1) := by decide +kernel
theorem dX4_loudnessOfDoors_3 : decode cX4_loudnessOfDoors 3 = .ok (.istore_n 2, 1) := by decide +kernel
theorem dX4_loudnessOfDoors_4 : decode cX4_loudnessOfDoors 4 = .ok (.iload_n 2, 1) := by decide +kernel
theorem dX4_loudnessOfDoors_5 : decode cX4_loudnessOfDoors 5 = .ok (.aload_n 0, 1) := by decide +kernel
theorem dX4_loudnessOfDoors_6 : decode cX4_loudnessOfDoors 6 = .ok (.getfield 37, 3) := by decide +kernel
theorem dX4_loudnessOfDoors_9 : decode cX4_loudnessOfDoors 9 = .ok (.getfield 137, 3) := by decide +kernel
theorem dX4_loudnessOfDoors_12 : decode cX4_loudnessOfDoors 12 = .ok (.if_icmp .ge 40, 3) := by decide +kernel
theorem dX4_loudnessOfDoors_15 : decode cX4_loudnessOfDoors 15 = .ok (.iload_n 2, 1) := by decide +kernel
theorem dX4_loudnessOfDoors_16 : decode cX4_loudnessOfDoors 16 = .ok (.bipush 24, 2) := by decide +kernel
theorem dX4_loudnessOfDoors_18 : decode cX4_loudnessOfDoors 18 = .ok (.if_icmp .ge 34, 3) := by decide +kernel
theorem dX4_loudnessOfDoors_21 : decode cX4_loudnessOfDoors 21 = .ok (.iload_n 1, 1) := by decide +kernel
theorem dX4_loudnessOfDoors_22 : decode cX4_loudnessOfDoors 22 = .ok (.aload_n 0, 1) := by decide +kernel
theorem dX4_loudnessOfDoors_23 : decode cX4_loudnessOfDoors 23 = .ok (.aload_n 0, 1) := by decide +kernel
theorem dX4_loudnessOfDoors_24 : decode cX4_loudnessOfDoors 24 = .ok (.getfield 37, 3) := by decide +kernel
theorem dX4_loudnessOfDoors_27 : decode cX4_loudnessOfDoors 27 = .ok (.getfield 220, 3) := by decide +kernel
theorem dX4_loudnessOfDoors_30 : decode cX4_loudnessOfDoors 30 = .ok (.iload_n 2, 1) := by decide +kernel
theorem dX4_loudnessOfDoors_31 : decode cX4_loudnessOfDoors 31 = .ok (.iaload, 1) := by decide +kernel
theorem dX4_loudnessOfDoors_32 : decode cX4_loudnessOfDoors 32 = .ok (.aload_n 0, 1) := by decide +kernel
theorem dX4_loudnessOfDoors_33 : decode cX4_loudnessOfDoors 33 = .ok (.getfield 37, 3) := by decide +kernel
theorem dX4_loudnessOfDoors_36 : decode cX4_loudnessOfDoors 36 = .ok (.getfield 223, 3) := by decide +kernel
theorem dX4_loudnessOfDoors_39 : decode cX4_loudnessOfDoors 39 = .ok (.iload_n 2, 1) := by decide +kernel
theorem dX4_loudnessOfDoors_40 : decode cX4_loudnessOfDoors 40 = .ok (.iaload, 1) := by decide +kernel
theorem dX4_loudnessOfDoors_41 : decode cX4_loudnessOfDoors 41 = .ok (.invokevirtual 217, 3) := by decide +kernel
theorem dX4_loudnessOfDoors_44 : decode cX4_loudnessOfDoors 44 = .ok (.iadd, 1) := by decide +kernel
theorem dX4_loudnessOfDoors_45 : decode cX4_loudnessOfDoors 45 = .ok (.istore_n 1, 1) := by decide +kernel
theorem dX4_loudnessOfDoors_46 : decode cX4_loudnessOfDoors 46 = .ok (.iinc 2 1, 3) := by decide +kernel
theorem dX4_loudnessOfDoors_49 : decode cX4_loudnessOfDoors 49 = .ok (.goto (-45), 3) := by decide +kernel
theorem dX4_loudnessOfDoors_52 : decode cX4_loudnessOfDoors 52 = .ok (.iload_n 1, 1) := by decide +kernel
theorem dX4_loudnessOfDoors_53 : decode cX4_loudnessOfDoors 53 = .ok (.ireturn, 1) := by decide +kernel
theorem dX4_heardOn_0 : decode cX4_heardOn 0 = .ok (.aload_n 0, 1) := by decide +kernel
theorem dX4_heardOn_1 : decode cX4_heardOn 1 = .ok (.iload_n 1, 1) := by decide +kernel
theorem dX4_heardOn_2 : decode cX4_heardOn 2 = .ok (.invokevirtual 127, 3) := by decide +kernel
theorem dX4_heardOn_5 : decode cX4_heardOn 5 = .ok (.astore_n 3, 1) := by decide +kernel
theorem dX4_heardOn_6 : decode cX4_heardOn 6 = .ok (.aload_n 3, 1) := by decide +kernel
theorem dX4_heardOn_7 : decode cX4_heardOn 7 = .ok (.ifnonnull 7, 3) := by decide +kernel
theorem dX4_heardOn_10 : decode cX4_heardOn 10 = .ok (.iconst 0, 1) := by decide +kernel
theorem dX4_heardOn_11 : decode cX4_heardOn 11 = .ok (.goto 12, 3) := by decide +kernel
theorem dX4_heardOn_14 : decode cX4_heardOn 14 = .ok (.iload_n 2, 1) := by decide +kernel
theorem dX4_heardOn_15 : decode cX4_heardOn 15 = .ok (.aload_n 3, 1) := by decide +kernel
theorem dX4_heardOn_16 : decode cX4_heardOn 16 = .ok (.getfield 62, 3) := by decide +kernel
theorem dX4_heardOn_19 : decode cX4_heardOn 19 = .ok (.imul, 1) := by decide +kernel
theorem dX4_heardOn_20 : decode cX4_heardOn 20 = .ok (.bipush 50, 2) := by decide +kernel
theorem dX4_heardOn_22 : decode cX4_heardOn 22 = .ok (.idiv, 1) := by decide +kernel
theorem dX4_heardOn_23 : decode cX4_heardOn 23 = .ok (.ireturn, 1) := by decide +kernel
theorem dX4_windReels_0 : decode cX4_windReels 0 = .ok (.iconst 0, 1) := by decide +kernel
theorem dX4_windReels_1 : decode cX4_windReels 1 = .ok (.istore_n 1, 1) := by decide +kernel
theorem dX4_windReels_2 : decode cX4_windReels 2 = .ok (.iload_n 1, 1) := by decide +kernel
theorem dX4_windReels_3 : decode cX4_windReels 3 = .ok (.aload_n 0, 1) := by decide +kernel
theorem dX4_windReels_4 : decode cX4_windReels 4 = .ok (.getfield 24, 3) := by decide +kernel
theorem dX4_windReels_7 : decode cX4_windReels 7 = .ok (.arraylength, 1) := by decide +kernel
theorem dX4_windReels_8 : decode cX4_windReels 8 = .ok (.if_icmp .ge 96, 3) := by decide +kernel
theorem dX4_windReels_11 : decode cX4_windReels 11 = .ok (.aload_n 0, 1) := by decide +kernel
theorem dX4_windReels_12 : decode cX4_windReels 12 = .ok (.getfield 24, 3) := by decide +kernel
theorem dX4_windReels_15 : decode cX4_windReels 15 = .ok (.iload_n 1, 1) := by decide +kernel
theorem dX4_windReels_16 : decode cX4_windReels 16 = .ok (.aaload, 1) := by decide +kernel
theorem dX4_windReels_17 : decode cX4_windReels 17 = .ok (.getfield 194, 3) := by decide +kernel
theorem dX4_windReels_20 : decode cX4_windReels 20 = .ok (.bipush (-6), 2) := by decide +kernel
theorem dX4_windReels_22 : decode cX4_windReels 22 = .ok (.if_icmp .ne 76, 3) := by decide +kernel
theorem dX4_windReels_25 : decode cX4_windReels 25 = .ok (.aload_n 0, 1) := by decide +kernel
theorem dX4_windReels_26 : decode cX4_windReels 26 = .ok (.getfield 18, 3) := by decide +kernel
theorem dX4_windReels_29 : decode cX4_windReels 29 = .ok (.aload_n 0, 1) := by decide +kernel
theorem dX4_windReels_30 : decode cX4_windReels 30 = .ok (.getfield 18, 3) := by decide +kernel
theorem dX4_windReels_33 : decode cX4_windReels 33 = .ok (.iload_n 1, 1) := by decide +kernel
theorem dX4_windReels_34 : decode cX4_windReels 34 = .ok (.invokevirtual 225, 3) := by decide +kernel
theorem dX4_windReels_37 : decode cX4_windReels 37 = .ok (.invokevirtual 108, 3) := by decide +kernel
theorem dX4_windReels_40 : decode cX4_windReels 40 = .ok (.astore_n 2, 1) := by decide +kernel
theorem dX4_windReels_41 : decode cX4_windReels 41 = .ok (.aload_n 2, 1) := by decide +kernel
theorem dX4_windReels_42 : decode cX4_windReels 42 = .ok (.ifnonnull 7, 3) := by decide +kernel
theorem dX4_windReels_45 : decode cX4_windReels 45 = .ok (.aconst_null, 1) := by decide +kernel
theorem dX4_windReels_46 : decode cX4_windReels 46 = .ok (.goto 16, 3) := by decide +kernel
theorem dX4_windReels_49 : decode cX4_windReels 49 = .ok (.aload_n 0, 1) := by decide +kernel
theorem dX4_windReels_50 : decode cX4_windReels 50 = .ok (.getfield 24, 3) := by decide +kernel
theorem dX4_windReels_53 : decode cX4_windReels 53 = .ok (.iload_n 1, 1) := by decide +kernel
theorem dX4_windReels_54 : decode cX4_windReels 54 = .ok (.aaload, 1) := by decide +kernel
theorem dX4_windReels_55 : decode cX4_windReels 55 = .ok (.aload_n 2, 1) := by decide +kernel
theorem dX4_windReels_56 : decode cX4_windReels 56 = .ok (.getfield 181, 3) := by decide +kernel
theorem dX4_windReels_59 : decode cX4_windReels 59 = .ok (.invokevirtual 146, 3) := by decide +kernel
theorem dX4_windReels_62 : decode cX4_windReels 62 = .ok (.astore_n 3, 1) := by decide +kernel
theorem dX4_windReels_63 : decode cX4_windReels 63 = .ok (.aload_n 3, 1) := by decide +kernel
theorem dX4_windReels_64 : decode cX4_windReels 64 = .ok (.ifnull 34, 3) := by decide +kernel
theorem dX4_windReels_67 : decode cX4_windReels 67 = .ok (.aload_n 0, 1) := by decide +kernel
theorem dX4_windReels_68 : decode cX4_windReels 68 = .ok (.getfield 24, 3) := by decide +kernel
theorem dX4_windReels_71 : decode cX4_windReels 71 = .ok (.iload_n 1, 1) := by decide +kernel
theorem dX4_windReels_72 : decode cX4_windReels 72 = .ok (.aaload, 1) := by decide +kernel
theorem dX4_windReels_73 : decode cX4_windReels 73 = .ok (.aload_n 0, 1) := by decide +kernel
theorem dX4_windReels_74 : decode cX4_windReels 74 = .ok (.getfield 24, 3) := by decide +kernel
theorem dX4_windReels_77 : decode cX4_windReels 77 = .ok (.iload_n 1, 1) := by decide +kernel
theorem dX4_windReels_78 : decode cX4_windReels 78 = .ok (.aaload, 1) := by decide +kernel
theorem dX4_windReels_79 : decode cX4_windReels 79 = .ok (.getfield 197, 3) := by decide +kernel
theorem dX4_windReels_82 : decode cX4_windReels 82 = .ok (.aload_n 3, 1) := by decide +kernel
theorem dX4_windReels_83 : decode cX4_windReels 83 = .ok (.getfield 200, 3) := by decide +kernel
theorem dX4_windReels_86 : decode cX4_windReels 86 = .ok (.aload_n 0, 1) := by decide +kernel
theorem dX4_windReels_87 : decode cX4_windReels 87 = .ok (.getfield 9, 3) := by decide +kernel
theorem dX4_windReels_90 : decode cX4_windReels 90 = .ok (.iconst 0, 1) := by decide +kernel
theorem dX4_windReels_91 : decode cX4_windReels 91 = .ok (.iaload, 1) := by decide +kernel
theorem dX4_windReels_92 : decode cX4_windReels 92 = .ok (.invokestatic 229, 3) := by decide +kernel
theorem dX4_windReels_95 : decode cX4_windReels 95 = .ok (.putfield 197, 3) := by decide +kernel
theorem dX4_windReels_98 : decode cX4_windReels 98 = .ok (.iinc 1 1, 3) := by decide +kernel
theorem dX4_windReels_101 : decode cX4_windReels 101 = .ok (.goto (-99), 3) := by decide +kernel
theorem dX4_windReels_104 : decode cX4_windReels 104 = .ok (.return_, 1) := by decide +kernel
theorem dX4_playingReels_0 : decode cX4_playingReels 0 = .ok (.iconst 0, 1) := by decide +kernel
theorem dX4_playingReels_1 : decode cX4_playingReels 1 = .ok (.istore_n 1, 1) := by decide +kernel
theorem dX4_playingReels_2 : decode cX4_playingReels 2 = .ok (.iconst 0, 1) := by decide +kernel
theorem dX4_playingReels_3 : decode cX4_playingReels 3 = .ok (.istore_n 2, 1) := by decide +kernel
theorem dX4_playingReels_4 : decode cX4_playingReels 4 = .ok (.iload_n 2, 1) := by decide +kernel
theorem dX4_playingReels_5 : decode cX4_playingReels 5 = .ok (.aload_n 0, 1) := by decide +kernel
theorem dX4_playingReels_6 : decode cX4_playingReels 6 = .ok (.getfield 24, 3) := by decide +kernel
theorem dX4_playingReels_9 : decode cX4_playingReels 9 = .ok (.arraylength, 1) := by decide +kernel
theorem dX4_playingReels_10 : decode cX4_playingReels 10 = .ok (.if_icmp .ge 29, 3) := by decide +kernel
theorem dX4_playingReels_13 : decode cX4_playingReels 13 = .ok (.aload_n 0, 1) := by decide +kernel
theorem dX4_playingReels_14 : decode cX4_playingReels 14 = .ok (.getfield 24, 3) := by decide +kernel
theorem dX4_playingReels_17 : decode cX4_playingReels 17 = .ok (.iload_n 2, 1) := by decide +kernel
theorem dX4_playingReels_18 : decode cX4_playingReels 18 = .ok (.aaload, 1) := by decide +kernel
theorem dX4_playingReels_19 : decode cX4_playingReels 19 = .ok (.getfield 194, 3) := by decide +kernel
theorem dX4_playingReels_22 : decode cX4_playingReels 22 = .ok (.bipush (-6), 2) := by decide +kernel
theorem dX4_playingReels_24 : decode cX4_playingReels 24 = .ok (.if_icmp .eq 9, 3) := by decide +kernel
theorem dX4_playingReels_27 : decode cX4_playingReels 27 = .ok (.iload_n 1, 1) := by decide +kernel
theorem dX4_playingReels_28 : decode cX4_playingReels 28 = .ok (.iconst 1, 1) := by decide +kernel
theorem dX4_playingReels_29 : decode cX4_playingReels 29 = .ok (.iload_n 2, 1) := by decide +kernel
theorem dX4_playingReels_30 : decode cX4_playingReels 30 = .ok (.ishl, 1) := by decide +kernel
theorem dX4_playingReels_31 : decode cX4_playingReels 31 = .ok (.ior, 1) := by decide +kernel
theorem dX4_playingReels_32 : decode cX4_playingReels 32 = .ok (.istore_n 1, 1) := by decide +kernel
theorem dX4_playingReels_33 : decode cX4_playingReels 33 = .ok (.iinc 2 1, 3) := by decide +kernel
theorem dX4_playingReels_36 : decode cX4_playingReels 36 = .ok (.goto (-32), 3) := by decide +kernel
theorem dX4_playingReels_39 : decode cX4_playingReels 39 = .ok (.iload_n 1, 1) := by decide +kernel
theorem dX4_playingReels_40 : decode cX4_playingReels 40 = .ok (.ireturn, 1) := by decide +kernel
theorem dX4_loudestSecond_0 : decode cX4_loudestSecond 0 = .ok (.bipush (-6), 2) := by decide +kernel
theorem dX4_loudestSecond_2 : decode cX4_loudestSecond 2 = .ok (.istore_n 1, 1) := by decide +kernel
theorem dX4_loudestSecond_3 : decode cX4_loudestSecond 3 = .ok (.iconst 0, 1) := by decide +kernel
theorem dX4_loudestSecond_4 : decode cX4_loudestSecond 4 = .ok (.istore_n 2, 1) := by decide +kernel
theorem dX4_loudestSecond_5 : decode cX4_loudestSecond 5 = .ok (.iconst 0, 1) := by decide +kernel
theorem dX4_loudestSecond_6 : decode cX4_loudestSecond 6 = .ok (.istore_n 3, 1) := by decide +kernel
theorem dX4_loudestSecond_7 : decode cX4_loudestSecond 7 = .ok (.iload_n 3, 1) := by decide +kernel
theorem dX4_loudestSecond_8 : decode cX4_loudestSecond 8 = .ok (.aload_n 0, 1) := by decide +kernel
theorem dX4_loudestSecond_9 : decode cX4_loudestSecond 9 = .ok (.getfield 79, 3) := by decide +kernel
theorem dX4_loudestSecond_12 : decode cX4_loudestSecond 12 = .ok (.if_icmp .ge 43, 3) := by decide +kernel
theorem dX4_loudestSecond_15 : decode cX4_loudestSecond 15 = .ok (.iload_n 3, 1) := by decide +kernel
theorem dX4_loudestSecond_16 : decode cX4_loudestSecond 16 = .ok (.aload_n 0, 1) := by decide +kernel
theorem dX4_loudestSecond_17 : decode cX4_loudestSecond 17 = .ok (.getfield 44, 3) := by decide +kernel
theorem dX4_loudestSecond_20 : decode cX4_loudestSecond 20 = .ok (.arraylength, 1) := by decide +kernel
theorem dX4_loudestSecond_21 : decode cX4_loudestSecond 21 = .ok (.if_icmp .ge 34, 3) := by decide +kernel
theorem dX4_loudestSecond_24 : decode cX4_loudestSecond 24 = .ok (.iload_n 1, 1) := by decide +kernel
theorem dX4_loudestSecond_25 : decode cX4_loudestSecond 25 = .ok (.bipush (-6), 2) := by decide +kernel
theorem dX4_loudestSecond_27 : decode cX4_loudestSecond 27 = .ok (.if_icmp .eq 13, 3) := by decide +kernel
theorem dX4_loudestSecond_30 : decode cX4_loudestSecond 30 = .ok (.aload_n 0, 1) := by decide +kernel
theorem dX4_loudestSecond_31 : decode cX4_loudestSecond 31 = .ok (.getfield 44, 3) := by decide +kernel
theorem dX4_loudestSecond_34 : decode cX4_loudestSecond 34 = .ok (.iload_n 3, 1) := by decide +kernel
theorem dX4_loudestSecond_35 : decode cX4_loudestSecond 35 = .ok (.iaload, 1) := by decide +kernel
theorem dX4_loudestSecond_36 : decode cX4_loudestSecond 36 = .ok (.iload_n 2, 1) := by decide +kernel
theorem dX4_loudestSecond_37 : decode cX4_loudestSecond 37 = .ok (.if_icmp .le 12, 3) := by decide +kernel
theorem dX4_loudestSecond_40 : decode cX4_loudestSecond 40 = .ok (.iload_n 3, 1) := by decide +kernel
theorem dX4_loudestSecond_41 : decode cX4_loudestSecond 41 = .ok (.istore_n 1, 1) := by decide +kernel
theorem dX4_loudestSecond_42 : decode cX4_loudestSecond 42 = .ok (.aload_n 0, 1) := by decide +kernel
theorem dX4_loudestSecond_43 : decode cX4_loudestSecond 43 = .ok (.getfield 44, 3) := by decide +kernel
theorem dX4_loudestSecond_46 : decode cX4_loudestSecond 46 = .ok (.iload_n 3, 1) := by decide +kernel
theorem dX4_loudestSecond_47 : decode cX4_loudestSecond 47 = .ok (.iaload, 1) := by decide +kernel
theorem dX4_loudestSecond_48 : decode cX4_loudestSecond 48 = .ok (.istore_n 2, 1) := by decide +kernel
theorem dX4_loudestSecond_49 : decode cX4_loudestSecond 49 = .ok (.iinc 3 1, 3) := by decide +kernel
theorem dX4_loudestSecond_52 : decode cX4_loudestSecond 52 = .ok (.goto (-45), 3) := by decide +kernel
theorem dX4_loudestSecond_55 : decode cX4_loudestSecond 55 = .ok (.iload_n 1, 1) := by decide +kernel
theorem dX4_loudestSecond_56 : decode cX4_loudestSecond 56 = .ok (.ireturn, 1) := by decide +kernel
theorem dX4_tooLoudSeconds_0 : decode cX4_tooLoudSeconds 0 = .ok (.iconst 0, 1) := by decide +kernel
theorem dX4_tooLoudSeconds_1 : decode cX4_tooLoudSeconds 1 = .ok (.istore_n 1, 1) := by decide +kernel
theorem dX4_tooLoudSeconds_2 : decode cX4_tooLoudSeconds 2 = .ok (.iconst 0, 1) := by decide +kernel
theorem dX4_tooLoudSeconds_3 : decode cX4_tooLoudSeconds 3 = .ok (.istore_n 2, 1) := by decide +kernel
theorem dX4_tooLoudSeconds_4 : decode cX4_tooLoudSeconds 4 = .ok (.iload_n 2, 1) := by decide +kernel
theorem dX4_tooLoudSeconds_5 : decode cX4_tooLoudSeconds 5 = .ok (.aload_n 0, 1) := by decide +kernel
theorem dX4_tooLoudSeconds_6 : decode cX4_tooLoudSeconds 6 = .ok (.getfield 79, 3) := by decide +kernel
theorem dX4_tooLoudSeconds_9 : decode cX4_tooLoudSeconds 9 = .ok (.if_icmp .ge 36, 3) := by decide +kernel
theorem dX4_tooLoudSeconds_12 : decode cX4_tooLoudSeconds 12 = .ok (.iload_n 2, 1) := by decide +kernel
theorem dX4_tooLoudSeconds_13 : decode cX4_tooLoudSeconds 13 = .ok (.aload_n 0, 1) := by decide +kernel
theorem dX4_tooLoudSeconds_14 : decode cX4_tooLoudSeconds 14 = .ok (.getfield 44, 3) := by decide +kernel
theorem dX4_tooLoudSeconds_17 : decode cX4_tooLoudSeconds 17 = .ok (.arraylength, 1) := by decide +kernel
theorem dX4_tooLoudSeconds_18 : decode cX4_tooLoudSeconds 18 = .ok (.if_icmp .ge 27, 3) := by decide +kernel
theorem dX4_tooLoudSeconds_21 : decode cX4_tooLoudSeconds 21 = .ok (.aload_n 0, 1) := by decide +kernel
theorem dX4_tooLoudSeconds_22 : decode cX4_tooLoudSeconds 22 = .ok (.getfield 44, 3) := by decide +kernel
theorem dX4_tooLoudSeconds_25 : decode cX4_tooLoudSeconds 25 = .ok (.iload_n 2, 1) := by decide +kernel
theorem dX4_tooLoudSeconds_26 : decode cX4_tooLoudSeconds 26 = .ok (.iaload, 1) := by decide +kernel
theorem dX4_tooLoudSeconds_27 : decode cX4_tooLoudSeconds 27 = .ok (.aload_n 0, 1) := by decide +kernel
theorem dX4_tooLoudSeconds_28 : decode cX4_tooLoudSeconds 28 = .ok (.getfield 9, 3) := by decide +kernel
theorem dX4_tooLoudSeconds_31 : decode cX4_tooLoudSeconds 31 = .ok (.iconst 3, 1) := by decide +kernel
theorem dX4_tooLoudSeconds_32 : decode cX4_tooLoudSeconds 32 = .ok (.iaload, 1) := by decide +kernel
theorem dX4_tooLoudSeconds_33 : decode cX4_tooLoudSeconds 33 = .ok (.if_icmp .le 6, 3) := by decide +kernel
theorem dX4_tooLoudSeconds_36 : decode cX4_tooLoudSeconds 36 = .ok (.iinc 1 1, 3) := by decide +kernel
theorem dX4_tooLoudSeconds_39 : decode cX4_tooLoudSeconds 39 = .ok (.iinc 2 1, 3) := by decide +kernel
theorem dX4_tooLoudSeconds_42 : decode cX4_tooLoudSeconds 42 = .ok (.goto (-38), 3) := by decide +kernel
theorem dX4_tooLoudSeconds_45 : decode cX4_tooLoudSeconds 45 = .ok (.iload_n 1, 1) := by decide +kernel
theorem dX4_tooLoudSeconds_46 : decode cX4_tooLoudSeconds 46 = .ok (.ireturn, 1) := by decide +kernel
theorem dX4_secondsHeard_0 : decode cX4_secondsHeard 0 = .ok (.iconst 0, 1) := by decide +kernel
theorem dX4_secondsHeard_1 : decode cX4_secondsHeard 1 = .ok (.aload_n 0, 1) := by decide +kernel
theorem dX4_secondsHeard_2 : decode cX4_secondsHeard 2 = .ok (.getfield 79, 3) := by decide +kernel
theorem dX4_secondsHeard_5 : decode cX4_secondsHeard 5 = .ok (.aload_n 0, 1) := by decide +kernel
theorem dX4_secondsHeard_6 : decode cX4_secondsHeard 6 = .ok (.getfield 44, 3) := by decide +kernel
theorem dX4_secondsHeard_9 : decode cX4_secondsHeard 9 = .ok (.arraylength, 1) := by decide +kernel
theorem dX4_secondsHeard_10 : decode cX4_secondsHeard 10 = .ok (.invokestatic 240, 3) := by decide +kernel
theorem dX4_secondsHeard_13 : decode cX4_secondsHeard 13 = .ok (.invokestatic 245, 3) := by decide +kernel
theorem dX4_secondsHeard_16 : decode cX4_secondsHeard 16 = .ok (.ireturn, 1) := by decide +kernel
theorem dX5_init_0 : decode cX5_init 0 = .ok (.aload_n 0, 1) := by decide +kernel
theorem dX5_init_1 : decode cX5_init 1 = .ok (.invokespecial 3, 3) := by decide +kernel
theorem dX5_init_4 : decode cX5_init 4 = .ok (.aload_n 0, 1) := by decide +kernel
theorem dX5_init_5 : decode cX5_init 5 = .ok (.bipush 6, 2) := by decide +kernel
theorem dX5_init_7 : decode cX5_init 7 = .ok (.anewarray 9, 3) := by decide +kernel
theorem dX5_init_10 : decode cX5_init 10 = .ok (.putfield 11, 3) := by decide +kernel
theorem dX5_init_13 : decode cX5_init 13 = .ok (.aload_n 0, 1) := by decide +kernel
theorem dX5_init_14 : decode cX5_init 14 = .ok (.bipush (-6), 2) := by decide +kernel
theorem dX5_init_16 : decode cX5_init 16 = .ok (.putfield 17, 3) := by decide +kernel
theorem dX5_init_19 : decode cX5_init 19 = .ok (.iconst 0, 1) := by decide +kernel
theorem dX5_init_20 : decode cX5_init 20 = .ok (.istore_n 1, 1) := by decide +kernel
theorem dX5_init_21 : decode cX5_init 21 = .ok (.iload_n 1, 1) := by decide +kernel
theorem dX5_init_22 : decode cX5_init 22 = .ok (.aload_n 0, 1) := by decide +kernel
theorem dX5_init_23 : decode cX5_init 23 = .ok (.getfield 11, 3) := by decide +kernel
theorem dX5_init_26 : decode cX5_init 26 = .ok (.arraylength, 1) := by decide +kernel
theorem dX5_init_27 : decode cX5_init 27 = .ok (.if_icmp .ge 22, 3) := by decide +kernel
theorem dX5_init_30 : decode cX5_init 30 = .ok (.aload_n 0, 1) := by decide +kernel
theorem dX5_init_31 : decode cX5_init 31 = .ok (.getfield 11, 3) := by decide +kernel
theorem dX5_init_34 : decode cX5_init 34 = .ok (.iload_n 1, 1) := by decide +kernel
theorem dX5_init_35 : decode cX5_init 35 = .ok (.new 9, 3) := by decide +kernel
theorem dX5_init_38 : decode cX5_init 38 = .ok (.dup, 1) := by decide +kernel
theorem dX5_init_39 : decode cX5_init 39 = .ok (.invokespecial 21, 3) := by decide +kernel
theorem dX5_init_42 : decode cX5_init 42 = .ok (.aastore, 1) := by decide +kernel
theorem dX5_init_43 : decode cX5_init 43 = .ok (.iinc 1 1, 3) := by decide +kernel
theorem dX5_init_46 : decode cX5_init 46 = .ok (.goto (-25), 3) := by decide +kernel
theorem dX5_init_49 : decode cX5_init 49 = .ok (.return_, 1) := by decide +kernel
theorem dX5_copyFrom_0 : decode cX5_copyFrom 0 = .ok (.aload_n 0, 1) := by decide +kernel
theorem dX5_copyFrom_1 : decode cX5_copyFrom 1 = .ok (.aload_n 1, 1) := by decide +kernel
theorem dX5_copyFrom_2 : decode cX5_copyFrom 2 = .ok (.getfield 22, 3) := by decide +kernel
theorem dX5_copyFrom_5 : decode cX5_copyFrom 5 = .ok (.putfield 22, 3) := by decide +kernel
theorem dX5_copyFrom_8 : decode cX5_copyFrom 8 = .ok (.aload_n 0, 1) := by decide +kernel
theorem dX5_copyFrom_9 : decode cX5_copyFrom 9 = .ok (.aload_n 1, 1) := by decide +kernel
theorem dX5_copyFrom_10 : decode cX5_copyFrom 10 = .ok (.getfield 25, 3) := by decide +kernel
theorem dX5_copyFrom_13 : decode cX5_copyFrom 13 = .ok (.putfield 25, 3) := by decide +kernel
theorem dX5_copyFrom_16 : decode cX5_copyFrom 16 = .ok (.aload_n 0, 1) := by decide +kernel
theorem dX5_copyFrom_17 : decode cX5_copyFrom 17 = .ok (.aload_n 1, 1) := by decide +kernel
theorem dX5_copyFrom_18 : decode cX5_copyFrom 18 = .ok (.getfield 17, 3) := by decide +kernel
theorem dX5_copyFrom_21 : decode cX5_copyFrom 21 = .ok (.putfield 17, 3) := by decide +kernel
theorem dX5_copyFrom_24 : decode cX5_copyFrom 24 = .ok (.aload_n 0, 1) := by decide +kernel
theorem dX5_copyFrom_25 : decode cX5_copyFrom 25 = .ok (.aload_n 1, 1) := by decide +kernel
theorem dX5_copyFrom_26 : decode cX5_copyFrom 26 = .ok (.getfield 28, 3) := by decide +kernel
theorem dX5_copyFrom_29 : decode cX5_copyFrom 29 = .ok (.putfield 28, 3) := by decide +kernel
theorem dX5_copyFrom_32 : decode cX5_copyFrom 32 = .ok (.iconst 0, 1) := by decide +kernel
theorem dX5_copyFrom_33 : decode cX5_copyFrom 33 = .ok (.istore_n 2, 1) := by decide +kernel
theorem dX5_copyFrom_34 : decode cX5_copyFrom 34 = .ok (.iload_n 2, 1) := by decide +kernel
theorem dX5_copyFrom_35 : decode cX5_copyFrom 35 = .ok (.aload_n 0, 1) := by decide +kernel
theorem dX5_copyFrom_36 : decode cX5_copyFrom 36 = .ok (.getfield 22, 3) := by decide +kernel
theorem dX5_copyFrom_39 : decode cX5_copyFrom 39 = .ok (.if_icmp .ge 33, 3) := by decide +kernel
theorem dX5_copyFrom_42 : decode cX5_copyFrom 42 = .ok (.iload_n 2, 1) := by decide +kernel
theorem dX5_copyFrom_43 : decode cX5_copyFrom 43 = .ok (.aload_n 0, 1) := by decide +kernel
theorem dX5_copyFrom_44 : decode cX5_copyFrom 44 = .ok (.getfield 11, 3) := by decide +kernel
theorem dX5_copyFrom_47 : decode cX5_copyFrom 47 = .ok (.arraylength, 1) := by decide +kernel
theorem dX5_copyFrom_48 : decode cX5_copyFrom 48 = .ok (.if_icmp .ge 24, 3) := by decide +kernel
theorem dX5_copyFrom_51 : decode cX5_copyFrom 51 = .ok (.aload_n 0, 1) := by decide +kernel
theorem dX5_copyFrom_52 : decode cX5_copyFrom 52 = .ok (.getfield 11, 3) := by decide +kernel
theorem dX5_copyFrom_55 : decode cX5_copyFrom 55 = .ok (.iload_n 2, 1) := by decide +kernel
theorem dX5_copyFrom_56 : decode cX5_copyFrom 56 = .ok (.aaload, 1) := by decide +kernel
theorem dX5_copyFrom_57 : decode cX5_copyFrom 57 = .ok (.aload_n 1, 1) := by decide +kernel
theorem dX5_copyFrom_58 : decode cX5_copyFrom 58 = .ok (.getfield 11, 3) := by decide +kernel
theorem dX5_copyFrom_61 : decode cX5_copyFrom 61 = .ok (.iload_n 2, 1) := by decide +kernel
theorem dX5_copyFrom_62 : decode cX5_copyFrom 62 = .ok (.aaload, 1) := by decide +kernel
theorem dX5_copyFrom_63 : decode cX5_copyFrom 63 = .ok (.invokevirtual 31, 3) := by decide +kernel
theorem dX5_copyFrom_66 : decode cX5_copyFrom 66 = .ok (.iinc 2 1, 3) := by decide +kernel
theorem dX5_copyFrom_69 : decode cX5_copyFrom 69 = .ok (.goto (-35), 3) := by decide +kernel
theorem dX5_copyFrom_72 : decode cX5_copyFrom 72 = .ok (.return_, 1) := by decide +kernel
theorem dX5_rewind_0 : decode cX5_rewind 0 = .ok (.aload_n 0, 1) := by decide +kernel
theorem dX5_rewind_1 : decode cX5_rewind 1 = .ok (.iconst 0, 1) := by decide +kernel
theorem dX5_rewind_2 : decode cX5_rewind 2 = .ok (.putfield 25, 3) := by decide +kernel
theorem dX5_rewind_5 : decode cX5_rewind 5 = .ok (.aload_n 0, 1) := by decide +kernel
theorem dX5_rewind_6 : decode cX5_rewind 6 = .ok (.bipush (-6), 2) := by decide +kernel
theorem dX5_rewind_8 : decode cX5_rewind 8 = .ok (.putfield 17, 3) := by decide +kernel
theorem dX5_rewind_11 : decode cX5_rewind 11 = .ok (.aload_n 0, 1) := by decide +kernel
theorem dX5_rewind_12 : decode cX5_rewind 12 = .ok (.iconst 0, 1) := by decide +kernel
theorem dX5_rewind_13 : decode cX5_rewind 13 = .ok (.putfield 28, 3) := by decide +kernel
theorem dX5_rewind_16 : decode cX5_rewind 16 = .ok (.iconst 0, 1) := by decide +kernel
theorem dX5_rewind_17 : decode cX5_rewind 17 = .ok (.istore_n 1, 1) := by decide +kernel
theorem dX5_rewind_18 : decode cX5_rewind 18 = .ok (.iload_n 1, 1) := by decide +kernel
theorem dX5_rewind_19 : decode cX5_rewind 19 = .ok (.aload_n 0, 1) := by decide +kernel
theorem dX5_rewind_20 : decode cX5_rewind 20 = .ok (.getfield 22, 3) := by decide +kernel
theorem dX5_rewind_23 : decode cX5_rewind 23 = .ok (.if_icmp .ge 28, 3) := by decide +kernel
theorem dX5_rewind_26 : decode cX5_rewind 26 = .ok (.iload_n 1, 1) := by decide +kernel
theorem dX5_rewind_27 : decode cX5_rewind 27 = .ok (.aload_n 0, 1) := by decide +kernel
theorem dX5_rewind_28 : decode cX5_rewind 28 = .ok (.getfield 11, 3) := by decide +kernel
theorem dX5_rewind_31 : decode cX5_rewind 31 = .ok (.arraylength, 1) := by decide +kernel
theorem dX5_rewind_32 : decode cX5_rewind 32 = .ok (.if_icmp .ge 19, 3) := by decide +kernel
theorem dX5_rewind_35 : decode cX5_rewind 35 = .ok (.aload_n 0, 1) := by decide +kernel
theorem dX5_rewind_36 : decode cX5_rewind 36 = .ok (.getfield 11, 3) := by decide +kernel
theorem dX5_rewind_39 : decode cX5_rewind 39 = .ok (.iload_n 1, 1) := by decide +kernel
theorem dX5_rewind_40 : decode cX5_rewind 40 = .ok (.aaload, 1) := by decide +kernel
theorem dX5_rewind_41 : decode cX5_rewind 41 = .ok (.iconst 0, 1) := by decide +kernel
theorem dX5_rewind_42 : decode cX5_rewind 42 = .ok (.putfield 35, 3) := by decide +kernel
theorem dX5_rewind_45 : decode cX5_rewind 45 = .ok (.iinc 1 1, 3) := by decide +kernel
theorem dX5_rewind_48 : decode cX5_rewind 48 = .ok (.goto (-30), 3) := by decide +kernel
theorem dX5_rewind_51 : decode cX5_rewind 51 = .ok (.return_, 1) := by decide +kernel
theorem dX5_soundNumbered_0 : decode cX5_soundNumbered 0 = .ok (.iload_n 1, 1) := by decide +kernel
theorem dX5_soundNumbered_1 : decode cX5_soundNumbered 1 = .ok (.ifCond .lt 20, 3) := by decide +kernel
theorem dX5_soundNumbered_4 : decode cX5_soundNumbered 4 = .ok (.iload_n 1, 1) := by decide +kernel
theorem dX5_soundNumbered_5 : decode cX5_soundNumbered 5 = .ok (.aload_n 0, 1) := by decide +kernel
theorem dX5_soundNumbered_6 : decode cX5_soundNumbered 6 = .ok (.getfield 22, 3) := by decide +kernel
theorem dX5_soundNumbered_9 : decode cX5_soundNumbered 9 = .ok (.if_icmp .ge 12, 3) := by decide +kernel
theorem dX5_soundNumbered_12 : decode cX5_soundNumbered 12 = .ok (.iload_n 1, 1) := by decide +kernel
theorem dX5_soundNumbered_13 : decode cX5_soundNumbered 13 = .ok (.aload_n 0, 1) := by decide +kernel
theorem dX5_soundNumbered_14 : decode cX5_soundNumbered 14 = .ok (.getfield 11, 3) := by decide +kernel
theorem dX5_soundNumbered_17 : decode cX5_soundNumbered 17 = .ok (.arraylength, 1) := by decide +kernel
theorem dX5_soundNumbered_18 : decode cX5_soundNumbered 18 = .ok (.if_icmp .lt 7, 3) := by decide +kernel
theorem dX5_soundNumbered_21 : decode cX5_soundNumbered 21 = .ok (.aconst_null, 1) := by decide +kernel
theorem dX5_soundNumbered_22 : decode cX5_soundNumbered 22 = .ok (.goto 9, 3) := by decide +kernel
theorem dX5_soundNumbered_25 : decode cX5_soundNumbered 25 = .ok (.aload_n 0, 1) := by decide +kernel
theorem dX5_soundNumbered_26 : decode cX5_soundNumbered 26 = .ok (.getfield 11, 3) := by decide +kernel
theorem dX5_soundNumbered_29 : decode cX5_soundNumbered 29 = .ok (.iload_n 1, 1) := by decide +kernel
theorem dX5_soundNumbered_30 : decode cX5_soundNumbered 30 = .ok (.aaload, 1) := by decide +kernel
theorem dX5_soundNumbered_31 : decode cX5_soundNumbered 31 = .ok (.areturn, 1) := by decide +kernel
theorem dX5_tapeLength_0 : decode cX5_tapeLength 0 = .ok (.aload_n 0, 1) := by decide +kernel
theorem dX5_tapeLength_1 : decode cX5_tapeLength 1 = .ok (.aload_n 0, 1) := by decide +kernel
theorem dX5_tapeLength_2 : decode cX5_tapeLength 2 = .ok (.getfield 22, 3) := by decide +kernel
theorem dX5_tapeLength_5 : decode cX5_tapeLength 5 = .ok (.iconst 1, 1) := by decide +kernel
theorem dX5_tapeLength_6 : decode cX5_tapeLength 6 = .ok (.isub, 1) := by decide +kernel
theorem dX5_tapeLength_7 : decode cX5_tapeLength 7 = .ok (.invokevirtual 38, 3) := by decide +kernel
theorem dX5_tapeLength_10 : decode cX5_tapeLength 10 = .ok (.astore_n 1, 1) := by decide +kernel
theorem dX5_tapeLength_11 : decode cX5_tapeLength 11 = .ok (.aload_n 1, 1) := by decide +kernel
theorem dX5_tapeLength_12 : decode cX5_tapeLength 12 = .ok (.ifnonnull 7, 3) := by decide +kernel
theorem dX5_tapeLength_15 : decode cX5_tapeLength 15 = .ok (.iconst 0, 1) := by decide +kernel
theorem dX5_tapeLength_16 : decode cX5_tapeLength 16 = .ok (.goto 12, 3) := by decide +kernel
theorem dX5_tapeLength_19 : decode cX5_tapeLength 19 = .ok (.aload_n 1, 1) := by decide +kernel
theorem dX5_tapeLength_20 : decode cX5_tapeLength 20 = .ok (.getfield 42, 3) := by decide +kernel
theorem dX5_tapeLength_23 : decode cX5_tapeLength 23 = .ok (.aload_n 1, 1) := by decide +kernel
theorem dX5_tapeLength_24 : decode cX5_tapeLength 24 = .ok (.getfield 45, 3) := by decide +kernel
theorem dX5_tapeLength_27 : decode cX5_tapeLength 27 = .ok (.iadd, 1) := by decide +kernel
theorem dX5_tapeLength_28 : decode cX5_tapeLength 28 = .ok (.ireturn, 1) := by decide +kernel
theorem dX5_appendSound_0 : decode cX5_appendSound 0 = .ok (.aload_n 0, 1) := by decide +kernel
theorem dX5_appendSound_1 : decode cX5_appendSound 1 = .ok (.getfield 22, 3) := by decide +kernel
theorem dX5_appendSound_4 : decode cX5_appendSound 4 = .ok (.ifCond .lt 15, 3) := by decide +kernel
theorem dX5_appendSound_7 : decode cX5_appendSound 7 = .ok (.aload_n 0, 1) := by decide +kernel
theorem dX5_appendSound_8 : decode cX5_appendSound 8 = .ok (.getfield 22, 3) := by decide +kernel
theorem dX5_appendSound_11 : decode cX5_appendSound 11 = .ok (.aload_n 0, 1) := by decide +kernel
theorem dX5_appendSound_12 : decode cX5_appendSound 12 = .ok (.getfield 11, 3) := by decide +kernel
theorem dX5_appendSound_15 : decode cX5_appendSound 15 = .ok (.arraylength, 1) := by decide +kernel
theorem dX5_appendSound_16 : decode cX5_appendSound 16 = .ok (.if_icmp .lt 6, 3) := by decide +kernel
theorem dX5_appendSound_19 : decode cX5_appendSound 19 = .ok (.bipush (-4), 2) := by decide +kernel
theorem dX5_appendSound_21 : decode cX5_appendSound 21 = .ok (.ireturn, 1) := by decide +kernel
theorem dX5_appendSound_22 : decode cX5_appendSound 22 = .ok (.aload_n 0, 1) := by decide +kernel
theorem dX5_appendSound_23 : decode cX5_appendSound 23 = .ok (.getfield 11, 3) := by decide +kernel
theorem dX5_appendSound_26 : decode cX5_appendSound 26 = .ok (.aload_n 0, 1) := by decide +kernel
theorem dX5_appendSound_27 : decode cX5_appendSound 27 = .ok (.getfield 22, 3) := by decide +kernel
theorem dX5_appendSound_30 : decode cX5_appendSound 30 = .ok (.aaload, 1) := by decide +kernel
theorem dX5_appendSound_31 : decode cX5_appendSound 31 = .ok (.astore_n 3, 1) := by decide +kernel
theorem dX5_appendSound_32 : decode cX5_appendSound 32 = .ok (.aload_n 3, 1) := by decide +kernel
theorem dX5_appendSound_33 : decode cX5_appendSound 33 = .ok (.aload_n 0, 1) := by decide +kernel
theorem dX5_appendSound_34 : decode cX5_appendSound 34 = .ok (.invokevirtual 48, 3) := by decide +kernel
theorem dX5_appendSound_37 : decode cX5_appendSound 37 = .ok (.putfield 42, 3) := by decide +kernel
theorem dX5_appendSound_40 : decode cX5_appendSound 40 = .ok (.aload_n 3, 1) := by decide +kernel
theorem dX5_appendSound_41 : decode cX5_appendSound 41 = .ok (.iload_n 1, 1) := by decide +kernel
theorem dX5_appendSound_42 : decode cX5_appendSound 42 = .ok (.putfield 45, 3) := by decide +kernel
theorem dX5_appendSound_45 : decode cX5_appendSound 45 = .ok (.aload_n 3, 1) := by decide +kernel
theorem dX5_appendSound_46 : decode cX5_appendSound 46 = .ok (.iload_n 2, 1) := by decide +kernel
theorem dX5_appendSound_47 : decode cX5_appendSound 47 = .ok (.putfield 52, 3) := by decide +kernel
theorem dX5_appendSound_50 : decode cX5_appendSound 50 = .ok (.aload_n 3, 1) := by decide +kernel
theorem dX5_appendSound_51 : decode cX5_appendSound 51 = .ok (.iconst 0, 1) := by decide +kernel
theorem dX5_appendSound_52 : decode cX5_appendSound 52 = .ok (.putfield 35, 3) := by decide +kernel
theorem dX5_appendSound_55 : decode cX5_appendSound 55 = .ok (.aload_n 0, 1) := by decide +kernel
theorem dX5_appendSound_56 : decode cX5_appendSound 56 = .ok (.dup, 1) := by decide +kernel
theorem dX5_appendSound_57 : decode cX5_appendSound 57 = .ok (.getfield 22, 3) := by decide +kernel
theorem dX5_appendSound_60 : decode cX5_appendSound 60 = .ok (.iconst 1, 1) := by decide +kernel
theorem dX5_appendSound_61 : decode cX5_appendSound 61 = .ok (.iadd, 1) := by decide +kernel
theorem dX5_appendSound_62 : decode cX5_appendSound 62 = .ok (.putfield 22, 3) := by decide +kernel
theorem dX5_appendSound_65 : decode cX5_appendSound 65 = .ok (.aload_n 0, 1) := by decide +kernel
theorem dX5_appendSound_66 : decode cX5_appendSound 66 = .ok (.getfield 22, 3) := by decide +kernel
theorem dX5_appendSound_69 : decode cX5_appendSound 69 = .ok (.iconst 1, 1) := by decide +kernel
theorem dX5_appendSound_70 : decode cX5_appendSound 70 = .ok (.isub, 1) := by decide +kernel
theorem dX5_appendSound_71 : decode cX5_appendSound 71 = .ok (.ireturn, 1) := by decide +kernel
theorem dX5_playSecond_0 : decode cX5_playSecond 0 = .ok (.aload_n 0, 1) := by decide +kernel
theorem dX5_playSecond_1 : decode cX5_playSecond 1 = .ok (.getfield 17, 3) := by decide +kernel
theorem dX5_playSecond_4 : decode cX5_playSecond 4 = .ok (.bipush (-6), 2) := by decide +kernel
theorem dX5_playSecond_6 : decode cX5_playSecond 6 = .ok (.if_icmp .ne 4, 3) := by decide +kernel
theorem dX5_playSecond_9 : decode cX5_playSecond 9 = .ok (.return_, 1) := by decide +kernel
theorem dX5_playSecond_10 : decode cX5_playSecond 10 = .ok (.aload_n 0, 1) := by decide +kernel
theorem dX5_playSecond_11 : decode cX5_playSecond 11 = .ok (.dup, 1) := by decide +kernel
theorem dX5_playSecond_12 : decode cX5_playSecond 12 = .ok (.getfield 25, 3) := by decide +kernel
theorem dX5_playSecond_15 : decode cX5_playSecond 15 = .ok (.iconst 1, 1) := by decide +kernel
theorem dX5_playSecond_16 : decode cX5_playSecond 16 = .ok (.iadd, 1) := by decide +kernel
theorem dX5_playSecond_17 : decode cX5_playSecond 17 = .ok (.putfield 25, 3) := by decide +kernel
theorem dX5_playSecond_20 : decode cX5_playSecond 20 = .ok (.aload_n 0, 1) := by decide +kernel
theorem dX5_playSecond_21 : decode cX5_playSecond 21 = .ok (.dup, 1) := by decide +kernel
theorem dX5_playSecond_22 : decode cX5_playSecond 22 = .ok (.getfield 28, 3) := by decide +kernel
theorem dX5_playSecond_25 : decode cX5_playSecond 25 = .ok (.iconst 1, 1) := by decide +kernel
theorem dX5_playSecond_26 : decode cX5_playSecond 26 = .ok (.isub, 1) := by decide +kernel
theorem dX5_playSecond_27 : decode cX5_playSecond 27 = .ok (.putfield 28, 3) := by decide +kernel
theorem dX5_playSecond_30 : decode cX5_playSecond 30 = .ok (.aload_n 0, 1) := by decide +kernel
theorem dX5_playSecond_31 : decode cX5_playSecond 31 = .ok (.getfield 28, 3) := by decide +kernel
theorem dX5_playSecond_34 : decode cX5_playSecond 34 = .ok (.ifCond .gt 9, 3) := by decide +kernel
theorem dX5_playSecond_37 : decode cX5_playSecond 37 = .ok (.aload_n 0, 1) := by decide +kernel
theorem dX5_playSecond_38 : decode cX5_playSecond 38 = .ok (.bipush (-6), 2) := by decide +kernel
theorem dX5_playSecond_40 : decode cX5_playSecond 40 = .ok (.putfield 17, 3) := by decide +kernel
theorem dX5_playSecond_43 : decode cX5_playSecond 43 = .ok (.return_, 1) := by decide +kernel
theorem dX6_init_0 : decode cX6_init 0 = .ok (.aload_n 0, 1) := by decide +kernel
theorem dX6_init_1 : decode cX6_init 1 = .ok (.invokespecial 3, 3) := by decide +kernel
theorem dX6_init_4 : decode cX6_init 4 = .ok (.aload_n 0, 1) := by decide +kernel
theorem dX6_init_5 : decode cX6_init 5 = .ok (.bipush 24, 2) := by decide +kernel
theorem dX6_init_7 : decode cX6_init 7 = .ok (.anewarray 9, 3) := by decide +kernel
theorem dX6_init_10 : decode cX6_init 10 = .ok (.putfield 11, 3) := by decide +kernel
theorem dX6_init_13 : decode cX6_init 13 = .ok (.iconst 0, 1) := by decide +kernel
theorem dX6_init_14 : decode cX6_init 14 = .ok (.istore_n 1, 1) := by decide +kernel
theorem dX6_init_15 : decode cX6_init 15 = .ok (.iload_n 1, 1) := by decide +kernel
theorem dX6_init_16 : decode cX6_init 16 = .ok (.aload_n 0, 1) := by decide +kernel
theorem dX6_init_17 : decode cX6_init 17 = .ok (.getfield 11, 3) := by decide +kernel
theorem dX6_init_20 : decode cX6_init 20 = .ok (.arraylength, 1) := by decide +kernel
theorem dX6_init_21 : decode cX6_init 21 = .ok (.if_icmp .ge 22, 3) := by decide +kernel
theorem dX6_init_24 : decode cX6_init 24 = .ok (.aload_n 0, 1) := by decide +kernel
theorem dX6_init_25 : decode cX6_init 25 = .ok (.getfield 11, 3) := by decide +kernel
theorem dX6_init_28 : decode cX6_init 28 = .ok (.iload_n 1, 1) := by decide +kernel
theorem dX6_init_29 : decode cX6_init 29 = .ok (.new 9, 3) := by decide +kernel
theorem dX6_init_32 : decode cX6_init 32 = .ok (.dup, 1) := by decide +kernel
theorem dX6_init_33 : decode cX6_init 33 = .ok (.invokespecial 17, 3) := by decide +kernel
theorem dX6_init_36 : decode cX6_init 36 = .ok (.aastore, 1) := by decide +kernel
theorem dX6_init_37 : decode cX6_init 37 = .ok (.iinc 1 1, 3) := by decide +kernel
theorem dX6_init_40 : decode cX6_init 40 = .ok (.goto (-25), 3) := by decide +kernel
theorem dX6_init_43 : decode cX6_init 43 = .ok (.return_, 1) := by decide +kernel
theorem dX6_copyFrom_0 : decode cX6_copyFrom 0 = .ok (.aload_n 0, 1) := by decide +kernel
theorem dX6_copyFrom_1 : decode cX6_copyFrom 1 = .ok (.aload_n 1, 1) := by decide +kernel
theorem dX6_copyFrom_2 : decode cX6_copyFrom 2 = .ok (.getfield 18, 3) := by decide +kernel
theorem dX6_copyFrom_5 : decode cX6_copyFrom 5 = .ok (.putfield 18, 3) := by decide +kernel
theorem dX6_copyFrom_8 : decode cX6_copyFrom 8 = .ok (.aload_n 0, 1) := by decide +kernel
theorem dX6_copyFrom_9 : decode cX6_copyFrom 9 = .ok (.aload_n 1, 1) := by decide +kernel
theorem dX6_copyFrom_10 : decode cX6_copyFrom 10 = .ok (.getfield 22, 3) := by decide +kernel
theorem dX6_copyFrom_13 : decode cX6_copyFrom 13 = .ok (.putfield 22, 3) := by decide +kernel
theorem dX6_copyFrom_16 : decode cX6_copyFrom 16 = .ok (.iconst 0, 1) := by decide +kernel
theorem dX6_copyFrom_17 : decode cX6_copyFrom 17 = .ok (.istore_n 2, 1) := by decide +kernel
theorem dX6_copyFrom_18 : decode cX6_copyFrom 18 = .ok (.iload_n 2, 1) := by decide +kernel
theorem dX6_copyFrom_19 : decode cX6_copyFrom 19 = .ok (.aload_n 0, 1) := by decide +kernel
theorem dX6_copyFrom_20 : decode cX6_copyFrom 20 = .ok (.getfield 18, 3) := by decide +kernel
theorem dX6_copyFrom_23 : decode cX6_copyFrom 23 = .ok (.if_icmp .ge 33, 3) := by decide +kernel
theorem dX6_copyFrom_26 : decode cX6_copyFrom 26 = .ok (.iload_n 2, 1) := by decide +kernel
theorem dX6_copyFrom_27 : decode cX6_copyFrom 27 = .ok (.aload_n 0, 1) := by decide +kernel
theorem dX6_copyFrom_28 : decode cX6_copyFrom 28 = .ok (.getfield 11, 3) := by decide +kernel
theorem dX6_copyFrom_31 : decode cX6_copyFrom 31 = .ok (.arraylength, 1) := by decide +kernel
theorem dX6_copyFrom_32 : decode cX6_copyFrom 32 = .ok (.if_icmp .ge 24, 3) := by decide +kernel
theorem dX6_copyFrom_35 : decode cX6_copyFrom 35 = .ok (.aload_n 0, 1) := by decide +kernel
theorem dX6_copyFrom_36 : decode cX6_copyFrom 36 = .ok (.getfield 11, 3) := by decide +kernel
theorem dX6_copyFrom_39 : decode cX6_copyFrom 39 = .ok (.iload_n 2, 1) := by decide +kernel
theorem dX6_copyFrom_40 : decode cX6_copyFrom 40 = .ok (.aaload, 1) := by decide +kernel
theorem dX6_copyFrom_41 : decode cX6_copyFrom 41 = .ok (.aload_n 1, 1) := by decide +kernel
theorem dX6_copyFrom_42 : decode cX6_copyFrom 42 = .ok (.getfield 11, 3) := by decide +kernel
theorem dX6_copyFrom_45 : decode cX6_copyFrom 45 = .ok (.iload_n 2, 1) := by decide +kernel
theorem dX6_copyFrom_46 : decode cX6_copyFrom 46 = .ok (.aaload, 1) := by decide +kernel
theorem dX6_copyFrom_47 : decode cX6_copyFrom 47 = .ok (.invokevirtual 25, 3) := by decide +kernel
theorem dX6_copyFrom_50 : decode cX6_copyFrom 50 = .ok (.iinc 2 1, 3) := by decide +kernel
theorem dX6_copyFrom_53 : decode cX6_copyFrom 53 = .ok (.goto (-35), 3) := by decide +kernel
theorem dX6_copyFrom_56 : decode cX6_copyFrom 56 = .ok (.return_, 1) := by decide +kernel
theorem dX6_letAllCome_0 : decode cX6_letAllCome 0 = .ok (.aload_n 0, 1) := by decide +kernel
theorem dX6_letAllCome_1 : decode cX6_letAllCome 1 = .ok (.iconst 0, 1) := by decide +kernel
theorem dX6_letAllCome_2 : decode cX6_letAllCome 2 = .ok (.putfield 22, 3) := by decide +kernel
theorem dX6_letAllCome_5 : decode cX6_letAllCome 5 = .ok (.iconst 0, 1) := by decide +kernel
theorem dX6_letAllCome_6 : decode cX6_letAllCome 6 = .ok (.istore_n 1, 1) := by decide +kernel
theorem dX6_letAllCome_7 : decode cX6_letAllCome 7 = .ok (.iload_n 1, 1) := by decide +kernel
theorem dX6_letAllCome_8 : decode cX6_letAllCome 8 = .ok (.aload_n 0, 1) := by decide +kernel
theorem dX6_letAllCome_9 : decode cX6_letAllCome 9 = .ok (.getfield 18, 3) := by decide +kernel
theorem dX6_letAllCome_12 : decode cX6_letAllCome 12 = .ok (.if_icmp .ge 28, 3) := by decide +kernel
theorem dX6_letAllCome_15 : decode cX6_letAllCome 15 = .ok (.iload_n 1, 1) := by decide +kernel
theorem dX6_letAllCome_16 : decode cX6_letAllCome 16 = .ok (.aload_n 0, 1) := by decide +kernel
theorem dX6_letAllCome_17 : decode cX6_letAllCome 17 = .ok (.getfield 11, 3) := by decide +kernel
theorem dX6_letAllCome_20 : decode cX6_letAllCome 20 = .ok (.arraylength, 1) := by decide +kernel
theorem dX6_letAllCome_21 : decode cX6_letAllCome 21 = .ok (.if_icmp .ge 19, 3) := by decide +kernel
theorem dX6_letAllCome_24 : decode cX6_letAllCome 24 = .ok (.aload_n 0, 1) := by decide +kernel
theorem dX6_letAllCome_25 : decode cX6_letAllCome 25 = .ok (.getfield 11, 3) := by decide +kernel
theorem dX6_letAllCome_28 : decode cX6_letAllCome 28 = .ok (.iload_n 1, 1) := by decide +kernel
theorem dX6_letAllCome_29 : decode cX6_letAllCome 29 = .ok (.aaload, 1) := by decide +kernel
theorem dX6_letAllCome_30 : decode cX6_letAllCome 30 = .ok (.iconst 0, 1) := by decide +kernel
theorem dX6_letAllCome_31 : decode cX6_letAllCome 31 = .ok (.putfield 29, 3) := by decide +kernel
theorem dX6_letAllCome_34 : decode cX6_letAllCome 34 = .ok (.iinc 1 1, 3) := by decide +kernel
theorem dX6_letAllCome_37 : decode cX6_letAllCome 37 = .ok (.goto (-30), 3) := by decide +kernel
theorem dX6_letAllCome_40 : decode cX6_letAllCome 40 = .ok (.return_, 1) := by decide +kernel
theorem dX6_cueAt_0 : decode cX6_cueAt 0 = .ok (.iload_n 1, 1) := by decide +kernel
theorem dX6_cueAt_1 : decode cX6_cueAt 1 = .ok (.ifCond .lt 20, 3) := by decide +kernel
theorem dX6_cueAt_4 : decode cX6_cueAt 4 = .ok (.iload_n 1, 1) := by decide +kernel
theorem dX6_cueAt_5 : decode cX6_cueAt 5 = .ok (.aload_n 0, 1) := by decide +kernel
theorem dX6_cueAt_6 : decode cX6_cueAt 6 = .ok (.getfield 18, 3) := by decide +kernel
theorem dX6_cueAt_9 : decode cX6_cueAt 9 = .ok (.if_icmp .ge 12, 3) := by decide +kernel
theorem dX6_cueAt_12 : decode cX6_cueAt 12 = .ok (.iload_n 1, 1) := by decide +kernel
theorem dX6_cueAt_13 : decode cX6_cueAt 13 = .ok (.aload_n 0, 1) := by decide +kernel
theorem dX6_cueAt_14 : decode cX6_cueAt 14 = .ok (.getfield 11, 3) := by decide +kernel
theorem dX6_cueAt_17 : decode cX6_cueAt 17 = .ok (.arraylength, 1) := by decide +kernel
theorem dX6_cueAt_18 : decode cX6_cueAt 18 = .ok (.if_icmp .lt 7, 3) := by decide +kernel
theorem dX6_cueAt_21 : decode cX6_cueAt 21 = .ok (.aconst_null, 1) := by decide +kernel
theorem dX6_cueAt_22 : decode cX6_cueAt 22 = .ok (.goto 9, 3) := by decide +kernel
theorem dX6_cueAt_25 : decode cX6_cueAt 25 = .ok (.aload_n 0, 1) := by decide +kernel
theorem dX6_cueAt_26 : decode cX6_cueAt 26 = .ok (.getfield 11, 3) := by decide +kernel
theorem dX6_cueAt_29 : decode cX6_cueAt 29 = .ok (.iload_n 1, 1) := by decide +kernel
theorem dX6_cueAt_30 : decode cX6_cueAt 30 = .ok (.aaload, 1) := by decide +kernel
theorem dX6_cueAt_31 : decode cX6_cueAt 31 = .ok (.areturn, 1) := by decide +kernel
theorem dX6_anyToCome_0 : decode cX6_anyToCome 0 = .ok (.aload_n 0, 1) := by decide +kernel
theorem dX6_anyToCome_1 : decode cX6_anyToCome 1 = .ok (.getfield 22, 3) := by decide +kernel
theorem dX6_anyToCome_4 : decode cX6_anyToCome 4 = .ok (.aload_n 0, 1) := by decide +kernel
theorem dX6_anyToCome_5 : decode cX6_anyToCome 5 = .ok (.getfield 18, 3) := by decide +kernel
theorem dX6_anyToCome_8 : decode cX6_anyToCome 8 = .ok (.if_icmp .ge 7, 3) := by decide +kernel
theorem dX6_anyToCome_11 : decode cX6_anyToCome 11 = .ok (.iconst 1, 1) := by decide +kernel
theorem dX6_anyToCome_12 : decode cX6_anyToCome 12 = .ok (.goto 4, 3) := by decide +kernel
theorem dX6_anyToCome_15 : decode cX6_anyToCome 15 = .ok (.iconst 0, 1) := by decide +kernel
theorem dX6_anyToCome_16 : decode cX6_anyToCome 16 = .ok (.ireturn, 1) := by decide +kernel
theorem dX6_insertCue_0 : decode cX6_insertCue 0 = .ok (.aload_n 0, 1) := by decide +kernel
theorem dX6_insertCue_1 : decode cX6_insertCue 1 = .ok (.getfield 18, 3) := by decide +kernel
theorem dX6_insertCue_4 : decode cX6_insertCue 4 = .ok (.ifCond .lt 15, 3) := by decide +kernel
theorem dX6_insertCue_7 : decode cX6_insertCue 7 = .ok (.aload_n 0, 1) := by decide +kernel
theorem dX6_insertCue_8 : decode cX6_insertCue 8 = .ok (.getfield 18, 3) := by decide +kernel
theorem dX6_insertCue_11 : decode cX6_insertCue 11 = .ok (.aload_n 0, 1) := by decide +kernel
theorem dX6_insertCue_12 : decode cX6_insertCue 12 = .ok (.getfield 11, 3) := by decide +kernel
theorem dX6_insertCue_15 : decode cX6_insertCue 15 = .ok (.arraylength, 1) := by decide +kernel
theorem dX6_insertCue_16 : decode cX6_insertCue 16 = .ok (.if_icmp .lt 6, 3) := by decide +kernel
theorem dX6_insertCue_19 : decode cX6_insertCue 19 = .ok (.bipush (-4), 2) := by decide +kernel
theorem dX6_insertCue_21 : decode cX6_insertCue 21 = .ok (.ireturn, 1) := by decide +kernel
theorem dX6_insertCue_22 : decode cX6_insertCue 22 = .ok (.aload_n 0, 1) := by decide +kernel
theorem dX6_insertCue_23 : decode cX6_insertCue 23 = .ok (.getfield 11, 3) := by decide +kernel
theorem dX6_insertCue_26 : decode cX6_insertCue 26 = .ok (.aload_n 0, 1) := by decide +kernel
theorem dX6_insertCue_27 : decode cX6_insertCue 27 = .ok (.getfield 18, 3) := by decide +kernel
theorem dX6_insertCue_30 : decode cX6_insertCue 30 = .ok (.aaload, 1) := by decide +kernel
theorem dX6_insertCue_31 : decode cX6_insertCue 31 = .ok (.astore 5, 2) := by decide +kernel
theorem dX6_insertCue_33 : decode cX6_insertCue 33 = .ok (.aload 5, 2) := by decide +kernel
theorem dX6_insertCue_35 : decode cX6_insertCue 35 = .ok (.iload_n 1, 1) := by decide +kernel
theorem dX6_insertCue_36 : decode cX6_insertCue 36 = .ok (.putfield 32, 3) := by decide +kernel
theorem dX6_insertCue_39 : decode cX6_insertCue 39 = .ok (.aload 5, 2) := by decide +kernel
theorem dX6_insertCue_41 : decode cX6_insertCue 41 = .ok (.iload_n 2, 1) := by decide +kernel
theorem dX6_insertCue_42 : decode cX6_insertCue 42 = .ok (.putfield 35, 3) := by decide +kernel
theorem dX6_insertCue_45 : decode cX6_insertCue 45 = .ok (.aload 5, 2) := by decide +kernel
theorem dX6_insertCue_47 : decode cX6_insertCue 47 = .ok (.iload_n 3, 1) := by decide +kernel
theorem dX6_insertCue_48 : decode cX6_insertCue 48 = .ok (.putfield 38, 3) := by decide +kernel
theorem dX6_insertCue_51 : decode cX6_insertCue 51 = .ok (.aload 5, 2) := by decide +kernel
theorem dX6_insertCue_53 : decode cX6_insertCue 53 = .ok (.iload 4, 2) := by decide +kernel
theorem dX6_insertCue_55 : decode cX6_insertCue 55 = .ok (.putfield 41, 3) := by decide +kernel
theorem dX6_insertCue_58 : decode cX6_insertCue 58 = .ok (.aload 5, 2) := by decide +kernel
theorem dX6_insertCue_60 : decode cX6_insertCue 60 = .ok (.iconst 0, 1) := by decide +kernel
theorem dX6_insertCue_61 : decode cX6_insertCue 61 = .ok (.putfield 29, 3) := by decide +kernel
theorem dX6_insertCue_64 : decode cX6_insertCue 64 = .ok (.aload_n 0, 1) := by decide +kernel
theorem dX6_insertCue_65 : decode cX6_insertCue 65 = .ok (.dup, 1) := by decide +kernel
theorem dX6_insertCue_66 : decode cX6_insertCue 66 = .ok (.getfield 18, 3) := by decide +kernel
theorem dX6_insertCue_69 : decode cX6_insertCue 69 = .ok (.iconst 1, 1) := by decide +kernel
theorem dX6_insertCue_70 : decode cX6_insertCue 70 = .ok (.iadd, 1) := by decide +kernel
theorem dX6_insertCue_71 : decode cX6_insertCue 71 = .ok (.putfield 18, 3) := by decide +kernel
theorem dX6_insertCue_74 : decode cX6_insertCue 74 = .ok (.aload_n 0, 1) := by decide +kernel
theorem dX6_insertCue_75 : decode cX6_insertCue 75 = .ok (.invokevirtual 44, 3) := by decide +kernel
theorem dX6_insertCue_78 : decode cX6_insertCue 78 = .ok (.ireturn, 1) := by decide +kernel
theorem dX6_removeCue_0 : decode cX6_removeCue 0 = .ok (.aload_n 0, 1) := by decide +kernel
theorem dX6_removeCue_1 : decode cX6_removeCue 1 = .ok (.iload_n 1, 1) := by decide +kernel
theorem dX6_removeCue_2 : decode cX6_removeCue 2 = .ok (.invokevirtual 48, 3) := by decide +kernel
theorem dX6_removeCue_5 : decode cX6_removeCue 5 = .ok (.astore_n 2, 1) := by decide +kernel
theorem dX6_removeCue_6 : decode cX6_removeCue 6 = .ok (.aload_n 2, 1) := by decide +kernel
theorem dX6_removeCue_7 : decode cX6_removeCue 7 = .ok (.ifnonnull 5, 3) := by decide +kernel
theorem dX6_removeCue_10 : decode cX6_removeCue 10 = .ok (.iconst (-1), 1) := by decide +kernel
theorem dX6_removeCue_11 : decode cX6_removeCue 11 = .ok (.ireturn, 1) := by decide +kernel
theorem dX6_removeCue_12 : decode cX6_removeCue 12 = .ok (.aload_n 2, 1) := by decide +kernel
theorem dX6_removeCue_13 : decode cX6_removeCue 13 = .ok (.getfield 29, 3) := by decide +kernel
theorem dX6_removeCue_16 : decode cX6_removeCue 16 = .ok (.ifCond .eq 6, 3) := by decide +kernel
theorem dX6_removeCue_19 : decode cX6_removeCue 19 = .ok (.bipush (-5), 2) := by decide +kernel
theorem dX6_removeCue_21 : decode cX6_removeCue 21 = .ok (.ireturn, 1) := by decide +kernel
theorem dX6_removeCue_22 : decode cX6_removeCue 22 = .ok (.aload_n 0, 1) := by decide +kernel
theorem dX6_removeCue_23 : decode cX6_removeCue 23 = .ok (.iload_n 1, 1) := by decide +kernel
theorem dX6_removeCue_24 : decode cX6_removeCue 24 = .ok (.invokevirtual 52, 3) := by decide +kernel
theorem dX6_removeCue_27 : decode cX6_removeCue 27 = .ok (.aload_n 0, 1) := by decide +kernel
theorem dX6_removeCue_28 : decode cX6_removeCue 28 = .ok (.dup, 1) := by decide +kernel
theorem dX6_removeCue_29 : decode cX6_removeCue 29 = .ok (.getfield 18, 3) := by decide +kernel
theorem dX6_removeCue_32 : decode cX6_removeCue 32 = .ok (.iconst 1, 1) := by decide +kernel
theorem dX6_removeCue_33 : decode cX6_removeCue 33 = .ok (.isub, 1) := by decide +kernel
theorem dX6_removeCue_34 : decode cX6_removeCue 34 = .ok (.putfield 18, 3) := by decide +kernel
theorem dX6_removeCue_37 : decode cX6_removeCue 37 = .ok (.aload_n 0, 1) := by decide +kernel
theorem dX6_removeCue_38 : decode cX6_removeCue 38 = .ok (.getfield 18, 3) := by decide +kernel
theorem dX6_removeCue_41 : decode cX6_removeCue 41 = .ok (.ireturn, 1) := by decide +kernel
theorem dX6_makeLast_0 : decode cX6_makeLast 0 = .ok (.aload_n 0, 1) := by decide +kernel
theorem dX6_makeLast_1 : decode cX6_makeLast 1 = .ok (.iload_n 1, 1) := by decide +kernel
theorem dX6_makeLast_2 : decode cX6_makeLast 2 = .ok (.invokevirtual 48, 3) := by decide +kernel
theorem dX6_makeLast_5 : decode cX6_makeLast 5 = .ok (.astore_n 2, 1) := by decide +kernel
theorem dX6_makeLast_6 : decode cX6_makeLast 6 = .ok (.iconst 0, 1) := by decide +kernel
theorem dX6_makeLast_7 : decode cX6_makeLast 7 = .ok (.iload_n 1, 1) := by decide +kernel
theorem dX6_makeLast_8 : decode cX6_makeLast 8 = .ok (.invokestatic 56, 3) := by decide +kernel
theorem dX6_makeLast_11 : decode cX6_makeLast 11 = .ok (.iconst 1, 1) := by decide +kernel
theorem dX6_makeLast_12 : decode cX6_makeLast 12 = .ok (.iadd, 1) := by decide +kernel
theorem dX6_makeLast_13 : decode cX6_makeLast 13 = .ok (.istore_n 3, 1) := by decide +kernel
theorem dX6_makeLast_14 : decode cX6_makeLast 14 = .ok (.iload_n 3, 1) := by decide +kernel
theorem dX6_makeLast_15 : decode cX6_makeLast 15 = .ok (.aload_n 0, 1) := by decide +kernel
theorem dX6_makeLast_16 : decode cX6_makeLast 16 = .ok (.getfield 18, 3) := by decide +kernel
theorem dX6_makeLast_19 : decode cX6_makeLast 19 = .ok (.if_icmp .ge 39, 3) := by decide +kernel
theorem dX6_makeLast_22 : decode cX6_makeLast 22 = .ok (.iload_n 3, 1) := by decide +kernel
theorem dX6_makeLast_23 : decode cX6_makeLast 23 = .ok (.aload_n 0, 1) := by decide +kernel
theorem dX6_makeLast_24 : decode cX6_makeLast 24 = .ok (.getfield 11, 3) := by decide +kernel
theorem dX6_makeLast_27 : decode cX6_makeLast 27 = .ok (.arraylength, 1) := by decide +kernel
theorem dX6_makeLast_28 : decode cX6_makeLast 28 = .ok (.if_icmp .ge 30, 3) := by decide +kernel
theorem dX6_makeLast_31 : decode cX6_makeLast 31 = .ok (.aload_n 0, 1) := by decide +kernel
theorem dX6_makeLast_32 : decode cX6_makeLast 32 = .ok (.getfield 11, 3) := by decide +kernel
theorem dX6_makeLast_35 : decode cX6_makeLast 35 = .ok (.iload_n 3, 1) := by decide +kernel
theorem dX6_makeLast_36 : decode cX6_makeLast 36 = .ok (.iconst 1, 1) := by decide +kernel
theorem dX6_makeLast_37 : decode cX6_makeLast 37 = .ok (.isub, 1) := by decide +kernel
theorem dX6_makeLast_38 : decode cX6_makeLast 38 = .ok (.aload_n 0, 1) := by decide +kernel
theorem dX6_makeLast_39 : decode cX6_makeLast 39 = .ok (.getfield 11, 3) := by decide +kernel
theorem dX6_makeLast_42 : decode cX6_makeLast 42 = .ok (.iload_n 3, 1) := by decide +kernel
theorem dX6_makeLast_43 : decode cX6_makeLast 43 = .ok (.aaload, 1) := by decide +kernel
theorem dX6_makeLast_44 : decode cX6_makeLast 44 = .ok (.aastore, 1) := by decide +kernel
theorem dX6_makeLast_45 : decode cX6_makeLast 45 = .ok (.aload_n 0, 1) := by decide +kernel
theorem dX6_makeLast_46 : decode cX6_makeLast 46 = .ok (.getfield 11, 3) := by decide +kernel
theorem dX6_makeLast_49 : decode cX6_makeLast 49 = .ok (.iload_n 3, 1) := by decide +kernel
theorem dX6_makeLast_50 : decode cX6_makeLast 50 = .ok (.aload_n 2, 1) := by decide +kernel
theorem dX6_makeLast_51 : decode cX6_makeLast 51 = .ok (.aastore, 1) := by decide +kernel
theorem dX6_makeLast_52 : decode cX6_makeLast 52 = .ok (.iinc 3 1, 3) := by decide +kernel
theorem dX6_makeLast_55 : decode cX6_makeLast 55 = .ok (.goto (-41), 3) := by decide +kernel
theorem dX6_makeLast_58 : decode cX6_makeLast 58 = .ok (.return_, 1) := by decide +kernel
theorem dX6_sortLast_0 : decode cX6_sortLast 0 = .ok (.aload_n 0, 1) := by decide +kernel
theorem dX6_sortLast_1 : decode cX6_sortLast 1 = .ok (.getfield 18, 3) := by decide +kernel
theorem dX6_sortLast_4 : decode cX6_sortLast 4 = .ok (.iconst 1, 1) := by decide +kernel
theorem dX6_sortLast_5 : decode cX6_sortLast 5 = .ok (.isub, 1) := by decide +kernel
theorem dX6_sortLast_6 : decode cX6_sortLast 6 = .ok (.istore_n 1, 1) := by decide +kernel
theorem dX6_sortLast_7 : decode cX6_sortLast 7 = .ok (.aload_n 0, 1) := by decide +kernel
theorem dX6_sortLast_8 : decode cX6_sortLast 8 = .ok (.iload_n 1, 1) := by decide +kernel
theorem dX6_sortLast_9 : decode cX6_sortLast 9 = .ok (.invokevirtual 48, 3) := by decide +kernel
theorem dX6_sortLast_12 : decode cX6_sortLast 12 = .ok (.astore_n 2, 1) := by decide +kernel
theorem dX6_sortLast_13 : decode cX6_sortLast 13 = .ok (.aload_n 2, 1) := by decide +kernel
theorem dX6_sortLast_14 : decode cX6_sortLast 14 = .ok (.ifnonnull 5, 3) := by decide +kernel
theorem dX6_sortLast_17 : decode cX6_sortLast 17 = .ok (.iconst (-1), 1) := by decide +kernel
theorem dX6_sortLast_18 : decode cX6_sortLast 18 = .ok (.ireturn, 1) := by decide +kernel
theorem dX6_sortLast_19 : decode cX6_sortLast 19 = .ok (.iload_n 1, 1) := by decide +kernel
theorem dX6_sortLast_20 : decode cX6_sortLast 20 = .ok (.ifCond .le 41, 3) := by decide +kernel
theorem dX6_sortLast_23 : decode cX6_sortLast 23 = .ok (.aload_n 0, 1) := by decide +kernel
theorem dX6_sortLast_24 : decode cX6_sortLast 24 = .ok (.getfield 11, 3) := by decide +kernel
theorem dX6_sortLast_27 : decode cX6_sortLast 27 = .ok (.iload_n 1, 1) := by decide +kernel
theorem dX6_sortLast_28 : decode cX6_sortLast 28 = .ok (.iconst 1, 1) := by decide +kernel
theorem dX6_sortLast_29 : decode cX6_sortLast 29 = .ok (.isub, 1) := by decide +kernel
theorem dX6_sortLast_30 : decode cX6_sortLast 30 = .ok (.aaload, 1) := by decide +kernel
theorem dX6_sortLast_31 : decode cX6_sortLast 31 = .ok (.getfield 32, 3) := by decide +kernel
theorem dX6_sortLast_34 : decode cX6_sortLast 34 = .ok (.aload_n 2, 1) := by decide +kernel
theorem dX6_sortLast_35 : decode cX6_sortLast 35 = .ok (.getfield 32, 3) := by decide +kernel
theorem dX6_sortLast_38 : decode cX6_sortLast 38 = .ok (.if_icmp .le 23, 3) := by decide +kernel
theorem dX6_sortLast_41 : decode cX6_sortLast 41 = .ok (.aload_n 0, 1) := by decide +kernel
theorem dX6_sortLast_42 : decode cX6_sortLast 42 = .ok (.getfield 11, 3) := by decide +kernel
theorem dX6_sortLast_45 : decode cX6_sortLast 45 = .ok (.iload_n 1, 1) := by decide +kernel
theorem dX6_sortLast_46 : decode cX6_sortLast 46 = .ok (.aload_n 0, 1) := by decide +kernel
theorem dX6_sortLast_47 : decode cX6_sortLast 47 = .ok (.getfield 11, 3) := by decide +kernel
theorem dX6_sortLast_50 : decode cX6_sortLast 50 = .ok (.iload_n 1, 1) := by decide +kernel
theorem dX6_sortLast_51 : decode cX6_sortLast 51 = .ok (.iconst 1, 1) := by decide +kernel
theorem dX6_sortLast_52 : decode cX6_sortLast 52 = .ok (.isub, 1) := by decide +kernel
theorem dX6_sortLast_53 : decode cX6_sortLast 53 = .ok (.aaload, 1) := by decide +kernel
theorem dX6_sortLast_54 : decode cX6_sortLast 54 = .ok (.aastore, 1) := by decide +kernel
theorem dX6_sortLast_55 : decode cX6_sortLast 55 = .ok (.iinc 1 (-1), 3) := by decide +kernel
theorem dX6_sortLast_58 : decode cX6_sortLast 58 = .ok (.goto (-39), 3) := by decide +kernel
theorem dX6_sortLast_61 : decode cX6_sortLast 61 = .ok (.aload_n 0, 1) := by decide +kernel
theorem dX6_sortLast_62 : decode cX6_sortLast 62 = .ok (.getfield 11, 3) := by decide +kernel
theorem dX6_sortLast_65 : decode cX6_sortLast 65 = .ok (.iload_n 1, 1) := by decide +kernel
theorem dX6_sortLast_66 : decode cX6_sortLast 66 = .ok (.aload_n 2, 1) := by decide +kernel
theorem dX6_sortLast_67 : decode cX6_sortLast 67 = .ok (.aastore, 1) := by decide +kernel
theorem dX6_sortLast_68 : decode cX6_sortLast 68 = .ok (.iload_n 1, 1) := by decide +kernel
theorem dX6_sortLast_69 : decode cX6_sortLast 69 = .ok (.ireturn, 1) := by decide +kernel
theorem dX6_nextFor_0 : decode cX6_nextFor 0 = .ok (.iconst 0, 1) := by decide +kernel
theorem dX6_nextFor_1 : decode cX6_nextFor 1 = .ok (.aload_n 0, 1) := by decide +kernel
theorem dX6_nextFor_2 : decode cX6_nextFor 2 = .ok (.getfield 22, 3) := by decide +kernel
theorem dX6_nextFor_5 : decode cX6_nextFor 5 = .ok (.invokestatic 56, 3) := by decide +kernel
theorem dX6_nextFor_8 : decode cX6_nextFor 8 = .ok (.istore_n 2, 1) := by decide +kernel
theorem dX6_nextFor_9 : decode cX6_nextFor 9 = .ok (.iload_n 2, 1) := by decide +kernel
theorem dX6_nextFor_10 : decode cX6_nextFor 10 = .ok (.aload_n 0, 1) := by decide +kernel
theorem dX6_nextFor_11 : decode cX6_nextFor 11 = .ok (.getfield 18, 3) := by decide +kernel
theorem dX6_nextFor_14 : decode cX6_nextFor 14 = .ok (.if_icmp .ge 45, 3) := by decide +kernel
theorem dX6_nextFor_17 : decode cX6_nextFor 17 = .ok (.iload_n 2, 1) := by decide +kernel
theorem dX6_nextFor_18 : decode cX6_nextFor 18 = .ok (.aload_n 0, 1) := by decide +kernel
theorem dX6_nextFor_19 : decode cX6_nextFor 19 = .ok (.getfield 11, 3) := by decide +kernel
theorem dX6_nextFor_22 : decode cX6_nextFor 22 = .ok (.arraylength, 1) := by decide +kernel
theorem dX6_nextFor_23 : decode cX6_nextFor 23 = .ok (.if_icmp .ge 36, 3) := by decide +kernel
theorem dX6_nextFor_26 : decode cX6_nextFor 26 = .ok (.aload_n 0, 1) := by decide +kernel
theorem dX6_nextFor_27 : decode cX6_nextFor 27 = .ok (.getfield 11, 3) := by decide +kernel
theorem dX6_nextFor_30 : decode cX6_nextFor 30 = .ok (.iload_n 2, 1) := by decide +kernel
theorem dX6_nextFor_31 : decode cX6_nextFor 31 = .ok (.aaload, 1) := by decide +kernel
theorem dX6_nextFor_32 : decode cX6_nextFor 32 = .ok (.getfield 35, 3) := by decide +kernel
theorem dX6_nextFor_35 : decode cX6_nextFor 35 = .ok (.ifCond .ne 18, 3) := by decide +kernel
theorem dX6_nextFor_38 : decode cX6_nextFor 38 = .ok (.aload_n 0, 1) := by decide +kernel
theorem dX6_nextFor_39 : decode cX6_nextFor 39 = .ok (.getfield 11, 3) := by decide +kernel
theorem dX6_nextFor_42 : decode cX6_nextFor 42 = .ok (.iload_n 2, 1) := by decide +kernel
theorem dX6_nextFor_43 : decode cX6_nextFor 43 = .ok (.aaload, 1) := by decide +kernel
theorem dX6_nextFor_44 : decode cX6_nextFor 44 = .ok (.getfield 38, 3) := by decide +kernel
theorem dX6_nextFor_47 : decode cX6_nextFor 47 = .ok (.iload_n 1, 1) := by decide +kernel
theorem dX6_nextFor_48 : decode cX6_nextFor 48 = .ok (.if_icmp .ne 5, 3) := by decide +kernel
theorem dX6_nextFor_51 : decode cX6_nextFor 51 = .ok (.iload_n 2, 1) := by decide +kernel
theorem dX6_nextFor_52 : decode cX6_nextFor 52 = .ok (.ireturn, 1) := by decide +kernel
theorem dX6_nextFor_53 : decode cX6_nextFor 53 = .ok (.iinc 2 1, 3) := by decide +kernel
theorem dX6_nextFor_56 : decode cX6_nextFor 56 = .ok (.goto (-47), 3) := by decide +kernel
theorem dX6_nextFor_59 : decode cX6_nextFor 59 = .ok (.bipush (-6), 2) := by decide +kernel
theorem dX6_nextFor_61 : decode cX6_nextFor 61 = .ok (.ireturn, 1) := by decide +kernel
theorem dX6_countOf_0 : decode cX6_countOf 0 = .ok (.iconst 0, 1) := by decide +kernel
theorem dX6_countOf_1 : decode cX6_countOf 1 = .ok (.istore_n 2, 1) := by decide +kernel
theorem dX6_countOf_2 : decode cX6_countOf 2 = .ok (.iconst 0, 1) := by decide +kernel
theorem dX6_countOf_3 : decode cX6_countOf 3 = .ok (.istore_n 3, 1) := by decide +kernel
theorem dX6_countOf_4 : decode cX6_countOf 4 = .ok (.iload_n 3, 1) := by decide +kernel
theorem dX6_countOf_5 : decode cX6_countOf 5 = .ok (.aload_n 0, 1) := by decide +kernel
theorem dX6_countOf_6 : decode cX6_countOf 6 = .ok (.getfield 18, 3) := by decide +kernel
theorem dX6_countOf_9 : decode cX6_countOf 9 = .ok (.if_icmp .ge 34, 3) := by decide +kernel
theorem dX6_countOf_12 : decode cX6_countOf 12 = .ok (.iload_n 3, 1) := by decide +kernel
theorem dX6_countOf_13 : decode cX6_countOf 13 = .ok (.aload_n 0, 1) := by decide +kernel
theorem dX6_countOf_14 : decode cX6_countOf 14 = .ok (.getfield 11, 3) := by decide +kernel
theorem dX6_countOf_17 : decode cX6_countOf 17 = .ok (.arraylength, 1) := by decide +kernel
theorem dX6_countOf_18 : decode cX6_countOf 18 = .ok (.if_icmp .ge 25, 3) := by decide +kernel
theorem dX6_countOf_21 : decode cX6_countOf 21 = .ok (.aload_n 0, 1) := by decide +kernel
theorem dX6_countOf_22 : decode cX6_countOf 22 = .ok (.getfield 11, 3) := by decide +kernel
theorem dX6_countOf_25 : decode cX6_countOf 25 = .ok (.iload_n 3, 1) := by decide +kernel
theorem dX6_countOf_26 : decode cX6_countOf 26 = .ok (.aaload, 1) := by decide +kernel
theorem dX6_countOf_27 : decode cX6_countOf 27 = .ok (.getfield 29, 3) := by decide +kernel
theorem dX6_countOf_30 : decode cX6_countOf 30 = .ok (.iload_n 1, 1) := by decide +kernel
theorem dX6_countOf_31 : decode cX6_countOf 31 = .ok (.if_icmp .ne 6, 3) := by decide +kernel
theorem dX6_countOf_34 : decode cX6_countOf 34 = .ok (.iinc 2 1, 3) := by decide +kernel
theorem dX6_countOf_37 : decode cX6_countOf 37 = .ok (.iinc 3 1, 3) := by decide +kernel
theorem dX6_countOf_40 : decode cX6_countOf 40 = .ok (.goto (-36), 3) := by decide +kernel
theorem dX6_countOf_43 : decode cX6_countOf 43 = .ok (.iload_n 2, 1) := by decide +kernel
theorem dX6_countOf_44 : decode cX6_countOf 44 = .ok (.ireturn, 1) := by decide +kernel
theorem dX6_missedCues_0 : decode cX6_missedCues 0 = .ok (.aload_n 0, 1) := by decide +kernel
theorem dX6_missedCues_1 : decode cX6_missedCues 1 = .ok (.iconst 2, 1) := by decide +kernel
theorem dX6_missedCues_2 : decode cX6_missedCues 2 = .ok (.invokevirtual 62, 3) := by decide +kernel
theorem dX6_missedCues_5 : decode cX6_missedCues 5 = .ok (.aload_n 0, 1) := by decide +kernel
theorem dX6_missedCues_6 : decode cX6_missedCues 6 = .ok (.iconst 3, 1) := by decide +kernel
theorem dX6_missedCues_7 : decode cX6_missedCues 7 = .ok (.invokevirtual 62, 3) := by decide +kernel
theorem dX6_missedCues_10 : decode cX6_missedCues 10 = .ok (.iadd, 1) := by decide +kernel
theorem dX6_missedCues_11 : decode cX6_missedCues 11 = .ok (.ireturn, 1) := by decide +kernel
theorem dX7_init_0 : decode cX7_init 0 = .ok (.aload_n 0, 1) := by decide +kernel
theorem dX7_init_1 : decode cX7_init 1 = .ok (.invokespecial 1, 3) := by decide +kernel
theorem dX7_init_4 : decode cX7_init 4 = .ok (.return_, 1) := by decide +kernel
theorem dX7_copyFrom_0 : decode cX7_copyFrom 0 = .ok (.aload_n 0, 1) := by decide +kernel
theorem dX7_copyFrom_1 : decode cX7_copyFrom 1 = .ok (.aload_n 1, 1) := by decide +kernel
theorem dX7_copyFrom_2 : decode cX7_copyFrom 2 = .ok (.getfield 7, 3) := by decide +kernel
theorem dX7_copyFrom_5 : decode cX7_copyFrom 5 = .ok (.putfield 7, 3) := by decide +kernel
theorem dX7_copyFrom_8 : decode cX7_copyFrom 8 = .ok (.aload_n 0, 1) := by decide +kernel
theorem dX7_copyFrom_9 : decode cX7_copyFrom 9 = .ok (.aload_n 1, 1) := by decide +kernel
theorem dX7_copyFrom_10 : decode cX7_copyFrom 10 = .ok (.getfield 13, 3) := by decide +kernel
theorem dX7_copyFrom_13 : decode cX7_copyFrom 13 = .ok (.putfield 13, 3) := by decide +kernel
theorem dX7_copyFrom_16 : decode cX7_copyFrom 16 = .ok (.aload_n 0, 1) := by decide +kernel
theorem dX7_copyFrom_17 : decode cX7_copyFrom 17 = .ok (.aload_n 1, 1) := by decide +kernel
theorem dX7_copyFrom_18 : decode cX7_copyFrom 18 = .ok (.getfield 16, 3) := by decide +kernel
theorem dX7_copyFrom_21 : decode cX7_copyFrom 21 = .ok (.putfield 16, 3) := by decide +kernel
theorem dX7_copyFrom_24 : decode cX7_copyFrom 24 = .ok (.aload_n 0, 1) := by decide +kernel
theorem dX7_copyFrom_25 : decode cX7_copyFrom 25 = .ok (.aload_n 1, 1) := by decide +kernel
theorem dX7_copyFrom_26 : decode cX7_copyFrom 26 = .ok (.getfield 19, 3) := by decide +kernel
theorem dX7_copyFrom_29 : decode cX7_copyFrom 29 = .ok (.putfield 19, 3) := by decide +kernel
theorem dX7_copyFrom_32 : decode cX7_copyFrom 32 = .ok (.return_, 1) := by decide +kernel
theorem dX8_init_0 : decode cX8_init 0 = .ok (.aload_n 0, 1) := by decide +kernel
theorem dX8_init_1 : decode cX8_init 1 = .ok (.invokespecial 1, 3) := by decide +kernel
theorem dX8_init_4 : decode cX8_init 4 = .ok (.aload_n 0, 1) := by decide +kernel
theorem dX8_init_5 : decode cX8_init 5 = .ok (.new 7, 3) := by decide +kernel
theorem dX8_init_8 : decode cX8_init 8 = .ok (.dup, 1) := by decide +kernel
theorem dX8_init_9 : decode cX8_init 9 = .ok (.invokespecial 9, 3) := by decide +kernel
theorem dX8_init_12 : decode cX8_init 12 = .ok (.putfield 10, 3) := by decide +kernel
theorem dX8_init_15 : decode cX8_init 15 = .ok (.aload_n 0, 1) := by decide +kernel
theorem dX8_init_16 : decode cX8_init 16 = .ok (.new 7, 3) := by decide +kernel
theorem dX8_init_19 : decode cX8_init 19 = .ok (.dup, 1) := by decide +kernel
theorem dX8_init_20 : decode cX8_init 20 = .ok (.invokespecial 9, 3) := by decide +kernel
theorem dX8_init_23 : decode cX8_init 23 = .ok (.putfield 16, 3) := by decide +kernel
theorem dX8_init_26 : decode cX8_init 26 = .ok (.aload_n 0, 1) := by decide +kernel
theorem dX8_init_27 : decode cX8_init 27 = .ok (.bipush 7, 2) := by decide +kernel
theorem dX8_init_29 : decode cX8_init 29 = .ok (.anewarray 7, 3) := by decide +kernel
theorem dX8_init_32 : decode cX8_init 32 = .ok (.putfield 19, 3) := by decide +kernel
theorem dX8_init_35 : decode cX8_init 35 = .ok (.aload_n 0, 1) := by decide +kernel
theorem dX8_init_36 : decode cX8_init 36 = .ok (.iconst 2, 1) := by decide +kernel
theorem dX8_init_37 : decode cX8_init 37 = .ok (.anewarray 7, 3) := by decide +kernel
theorem dX8_init_40 : decode cX8_init 40 = .ok (.putfield 23, 3) := by decide +kernel
theorem dX8_init_43 : decode cX8_init 43 = .ok (.aload_n 0, 1) := by decide +kernel
theorem dX8_init_44 : decode cX8_init 44 = .ok (.iconst 2, 1) := by decide +kernel
theorem dX8_init_45 : decode cX8_init 45 = .ok (.newarray .boolean, 2) := by decide +kernel
theorem dX8_init_47 : decode cX8_init 47 = .ok (.putfield 26, 3) := by decide +kernel
theorem dX8_init_50 : decode cX8_init 50 = .ok (.aload_n 0, 1) := by decide +kernel
theorem dX8_init_51 : decode cX8_init 51 = .ok (.new 30, 3) := by decide +kernel
theorem dX8_init_54 : decode cX8_init 54 = .ok (.dup, 1) := by decide +kernel
theorem dX8_init_55 : decode cX8_init 55 = .ok (.invokespecial 32, 3) := by decide +kernel
theorem dX8_init_58 : decode cX8_init 58 = .ok (.putfield 33, 3) := by decide +kernel
theorem dX8_init_61 : decode cX8_init 61 = .ok (.iconst 0, 1) := by decide +kernel
theorem dX8_init_62 : decode cX8_init 62 = .ok (.istore_n 1, 1) := by decide +kernel
theorem dX8_init_63 : decode cX8_init 63 = .ok (.iload_n 1, 1) := by decide +kernel
theorem dX8_init_64 : decode cX8_init 64 = .ok (.aload_n 0, 1) := by decide +kernel
theorem dX8_init_65 : decode cX8_init 65 = .ok (.getfield 19, 3) := by decide +kernel
theorem dX8_init_68 : decode cX8_init 68 = .ok (.arraylength, 1) := by decide +kernel
theorem dX8_init_69 : decode cX8_init 69 = .ok (.if_icmp .ge 22, 3) := by decide +kernel
theorem dX8_init_72 : decode cX8_init 72 = .ok (.aload_n 0, 1) := by decide +kernel
theorem dX8_init_73 : decode cX8_init 73 = .ok (.getfield 19, 3) := by decide +kernel
theorem dX8_init_76 : decode cX8_init 76 = .ok (.iload_n 1, 1) := by decide +kernel
theorem dX8_init_77 : decode cX8_init 77 = .ok (.new 7, 3) := by decide +kernel
theorem dX8_init_80 : decode cX8_init 80 = .ok (.dup, 1) := by decide +kernel
theorem dX8_init_81 : decode cX8_init 81 = .ok (.invokespecial 9, 3) := by decide +kernel
theorem dX8_init_84 : decode cX8_init 84 = .ok (.aastore, 1) := by decide +kernel
theorem dX8_init_85 : decode cX8_init 85 = .ok (.iinc 1 1, 3) := by decide +kernel
theorem dX8_init_88 : decode cX8_init 88 = .ok (.goto (-25), 3) := by decide +kernel
theorem dX8_init_91 : decode cX8_init 91 = .ok (.iconst 0, 1) := by decide +kernel
theorem dX8_init_92 : decode cX8_init 92 = .ok (.istore_n 1, 1) := by decide +kernel
theorem dX8_init_93 : decode cX8_init 93 = .ok (.iload_n 1, 1) := by decide +kernel
theorem dX8_init_94 : decode cX8_init 94 = .ok (.aload_n 0, 1) := by decide +kernel
theorem dX8_init_95 : decode cX8_init 95 = .ok (.getfield 23, 3) := by decide +kernel
theorem dX8_init_98 : decode cX8_init 98 = .ok (.arraylength, 1) := by decide +kernel
theorem dX8_init_99 : decode cX8_init 99 = .ok (.if_icmp .ge 22, 3) := by decide +kernel
theorem dX8_init_102 : decode cX8_init 102 = .ok (.aload_n 0, 1) := by decide +kernel
theorem dX8_init_103 : decode cX8_init 103 = .ok (.getfield 23, 3) := by decide +kernel
theorem dX8_init_106 : decode cX8_init 106 = .ok (.iload_n 1, 1) := by decide +kernel
theorem dX8_init_107 : decode cX8_init 107 = .ok (.new 7, 3) := by decide +kernel
theorem dX8_init_110 : decode cX8_init 110 = .ok (.dup, 1) := by decide +kernel
theorem dX8_init_111 : decode cX8_init 111 = .ok (.invokespecial 9, 3) := by decide +kernel
theorem dX8_init_114 : decode cX8_init 114 = .ok (.aastore, 1) := by decide +kernel
theorem dX8_init_115 : decode cX8_init 115 = .ok (.iinc 1 1, 3) := by decide +kernel
theorem dX8_init_118 : decode cX8_init 118 = .ok (.goto (-25), 3) := by decide +kernel
theorem dX8_init_121 : decode cX8_init 121 = .ok (.return_, 1) := by decide +kernel
theorem dX8_set_0 : decode cX8_set 0 = .ok (.aload_n 0, 1) := by decide +kernel
theorem dX8_set_1 : decode cX8_set 1 = .ok (.invokevirtual 37, 3) := by decide +kernel
theorem dX8_set_4 : decode cX8_set 4 = .ok (.aload_n 0, 1) := by decide +kernel
theorem dX8_set_5 : decode cX8_set 5 = .ok (.aload_n 0, 1) := by decide +kernel
theorem dX8_set_6 : decode cX8_set 6 = .ok (.getfield 10, 3) := by decide +kernel
theorem dX8_set_9 : decode cX8_set 9 = .ok (.iload_n 1, 1) := by decide +kernel
theorem dX8_set_10 : decode cX8_set 10 = .ok (.iload_n 2, 1) := by decide +kernel
theorem dX8_set_11 : decode cX8_set 11 = .ok (.invokevirtual 40, 3) := by decide +kernel
theorem dX8_set_14 : decode cX8_set 14 = .ok (.invokevirtual 44, 3) := by decide +kernel
theorem dX8_set_17 : decode cX8_set 17 = .ok (.ireturn, 1) := by decide +kernel
theorem dX8_sound_0 : decode cX8_sound 0 = .ok (.aload_n 0, 1) := by decide +kernel
theorem dX8_sound_1 : decode cX8_sound 1 = .ok (.invokevirtual 37, 3) := by decide +kernel
theorem dX8_sound_4 : decode cX8_sound 4 = .ok (.aload_n 0, 1) := by decide +kernel
theorem dX8_sound_5 : decode cX8_sound 5 = .ok (.aload_n 0, 1) := by decide +kernel
theorem dX8_sound_6 : decode cX8_sound 6 = .ok (.getfield 10, 3) := by decide +kernel
theorem dX8_sound_9 : decode cX8_sound 9 = .ok (.iload_n 1, 1) := by decide +kernel
theorem dX8_sound_10 : decode cX8_sound 10 = .ok (.iload_n 2, 1) := by decide +kernel
theorem dX8_sound_11 : decode cX8_sound 11 = .ok (.iload_n 3, 1) := by decide +kernel
theorem dX8_sound_12 : decode cX8_sound 12 = .ok (.invokevirtual 48, 3) := by decide +kernel
theorem dX8_sound_15 : decode cX8_sound 15 = .ok (.invokevirtual 44, 3) := by decide +kernel
theorem dX8_sound_18 : decode cX8_sound 18 = .ok (.ireturn, 1) := by decide +kernel
theorem dX8_cue_0 : decode cX8_cue 0 = .ok (.aload_n 0, 1) := by decide +kernel
theorem dX8_cue_1 : decode cX8_cue 1 = .ok (.invokevirtual 37, 3) := by decide +kernel
theorem dX8_cue_4 : decode cX8_cue 4 = .ok (.aload_n 0, 1) := by decide +kernel
theorem dX8_cue_5 : decode cX8_cue 5 = .ok (.aload_n 0, 1) := by decide +kernel
theorem dX8_cue_6 : decode cX8_cue 6 = .ok (.getfield 10, 3) := by decide +kernel
theorem dX8_cue_9 : decode cX8_cue 9 = .ok (.iload_n 1, 1) := by decide +kernel
theorem dX8_cue_10 : decode cX8_cue 10 = .ok (.iload_n 2, 1) := by decide +kernel
theorem dX8_cue_11 : decode cX8_cue 11 = .ok (.iload_n 3, 1) := by decide +kernel
theorem dX8_cue_12 : decode cX8_cue 12 = .ok (.iload 4, 2) := by decide +kernel
theorem dX8_cue_14 : decode cX8_cue 14 = .ok (.invokevirtual 52, 3) := by decide +kernel
theorem dX8_cue_17 : decode cX8_cue 17 = .ok (.invokevirtual 44, 3) := by decide +kernel
theorem dX8_cue_20 : decode cX8_cue 20 = .ok (.ireturn, 1) := by decide +kernel
theorem dX8_takeOut_0 : decode cX8_takeOut 0 = .ok (.aload_n 0, 1) := by decide +kernel
theorem dX8_takeOut_1 : decode cX8_takeOut 1 = .ok (.invokevirtual 37, 3) := by decide +kernel
theorem dX8_takeOut_4 : decode cX8_takeOut 4 = .ok (.aload_n 0, 1) := by decide +kernel
theorem dX8_takeOut_5 : decode cX8_takeOut 5 = .ok (.aload_n 0, 1) := by decide +kernel
theorem dX8_takeOut_6 : decode cX8_takeOut 6 = .ok (.getfield 10, 3) := by decide +kernel
theorem dX8_takeOut_9 : decode cX8_takeOut 9 = .ok (.getfield 56, 3) := by decide +kernel
theorem dX8_takeOut_12 : decode cX8_takeOut 12 = .ok (.iload_n 1, 1) := by decide +kernel
theorem dX8_takeOut_13 : decode cX8_takeOut 13 = .ok (.invokevirtual 60, 3) := by decide +kernel
theorem dX8_takeOut_16 : decode cX8_takeOut 16 = .ok (.invokevirtual 44, 3) := by decide +kernel
theorem dX8_takeOut_19 : decode cX8_takeOut 19 = .ok (.ireturn, 1) := by decide +kernel
theorem dX8_move_0 : decode cX8_move 0 = .ok (.aload_n 0, 1) := by decide +kernel
theorem dX8_move_1 : decode cX8_move 1 = .ok (.invokevirtual 37, 3) := by decide +kernel
theorem dX8_move_4 : decode cX8_move 4 = .ok (.aload_n 0, 1) := by decide +kernel
theorem dX8_move_5 : decode cX8_move 5 = .ok (.aload_n 0, 1) := by decide +kernel
theorem dX8_move_6 : decode cX8_move 6 = .ok (.getfield 10, 3) := by decide +kernel
theorem dX8_move_9 : decode cX8_move 9 = .ok (.iload_n 1, 1) := by decide +kernel
theorem dX8_move_10 : decode cX8_move 10 = .ok (.iload_n 2, 1) := by decide +kernel
theorem dX8_move_11 : decode cX8_move 11 = .ok (.invokevirtual 65, 3) := by decide +kernel
theorem dX8_move_14 : decode cX8_move 14 = .ok (.invokevirtual 44, 3) := by decide +kernel
theorem dX8_move_17 : decode cX8_move 17 = .ok (.ireturn, 1) := by decide +kernel
theorem dX8_goal_0 : decode cX8_goal 0 = .ok (.aload_n 0, 1) := by decide +kernel
theorem dX8_goal_1 : decode cX8_goal 1 = .ok (.invokevirtual 37, 3) := by decide +kernel
theorem dX8_goal_4 : decode cX8_goal 4 = .ok (.aload_n 0, 1) := by decide +kernel
theorem dX8_goal_5 : decode cX8_goal 5 = .ok (.aload_n 0, 1) := by decide +kernel
theorem dX8_goal_6 : decode cX8_goal 6 = .ok (.getfield 10, 3) := by decide +kernel
theorem dX8_goal_9 : decode cX8_goal 9 = .ok (.iload_n 1, 1) := by decide +kernel
theorem dX8_goal_10 : decode cX8_goal 10 = .ok (.iload_n 2, 1) := by decide +kernel
theorem dX8_goal_11 : decode cX8_goal 11 = .ok (.invokevirtual 68, 3) := by decide +kernel
theorem dX8_goal_14 : decode cX8_goal 14 = .ok (.invokevirtual 44, 3) := by decide +kernel
theorem dX8_goal_17 : decode cX8_goal 17 = .ok (.ireturn, 1) := by decide +kernel
theorem dX8_begin_0 : decode cX8_begin 0 = .ok (.aload_n 0, 1) := by decide +kernel
theorem dX8_begin_1 : decode cX8_begin 1 = .ok (.invokevirtual 37, 3) := by decide +kernel
theorem dX8_begin_4 : decode cX8_begin 4 = .ok (.aload_n 0, 1) := by decide +kernel
theorem dX8_begin_5 : decode cX8_begin 5 = .ok (.aload_n 0, 1) := by decide +kernel
theorem dX8_begin_6 : decode cX8_begin 6 = .ok (.getfield 10, 3) := by decide +kernel
theorem dX8_begin_9 : decode cX8_begin 9 = .ok (.invokevirtual 71, 3) := by decide +kernel
theorem dX8_begin_12 : decode cX8_begin 12 = .ok (.invokevirtual 44, 3) := by decide +kernel
theorem dX8_begin_15 : decode cX8_begin 15 = .ok (.ireturn, 1) := by decide +kernel
theorem dX8_pass_0 : decode cX8_pass 0 = .ok (.aload_n 0, 1) := by decide +kernel
theorem dX8_pass_1 : decode cX8_pass 1 = .ok (.invokevirtual 37, 3) := by decide +kernel
theorem dX8_pass_4 : decode cX8_pass 4 = .ok (.aload_n 0, 1) := by decide +kernel
theorem dX8_pass_5 : decode cX8_pass 5 = .ok (.aload_n 0, 1) := by decide +kernel
theorem dX8_pass_6 : decode cX8_pass 6 = .ok (.getfield 10, 3) := by decide +kernel
theorem dX8_pass_9 : decode cX8_pass 9 = .ok (.iload_n 1, 1) := by decide +kernel
theorem dX8_pass_10 : decode cX8_pass 10 = .ok (.invokevirtual 75, 3) := by decide +kernel
theorem dX8_pass_13 : decode cX8_pass 13 = .ok (.invokevirtual 44, 3) := by decide +kernel
theorem dX8_pass_16 : decode cX8_pass 16 = .ok (.ireturn, 1) := by decide +kernel
theorem dX8_ofCue_0 : decode cX8_ofCue 0 = .ok (.aload_n 0, 1) := by decide +kernel
theorem dX8_ofCue_1 : decode cX8_ofCue 1 = .ok (.getfield 10, 3) := by decide +kernel
theorem dX8_ofCue_4 : decode cX8_ofCue 4 = .ok (.getfield 56, 3) := by decide +kernel
theorem dX8_ofCue_7 : decode cX8_ofCue 7 = .ok (.iload_n 1, 1) := by decide +kernel
theorem dX8_ofCue_8 : decode cX8_ofCue 8 = .ok (.invokevirtual 78, 3) := by decide +kernel
theorem dX8_ofCue_11 : decode cX8_ofCue 11 = .ok (.astore_n 3, 1) := by decide +kernel
theorem dX8_ofCue_12 : decode cX8_ofCue 12 = .ok (.aload_n 3, 1) := by decide +kernel
theorem dX8_ofCue_13 : decode cX8_ofCue 13 = .ok (.ifnonnull 5, 3) := by decide +kernel
theorem dX8_ofCue_16 : decode cX8_ofCue 16 = .ok (.iconst (-1), 1) := by decide +kernel
theorem dX8_ofCue_17 : decode cX8_ofCue 17 = .ok (.ireturn, 1) := by decide +kernel
theorem dX8_ofCue_18 : decode cX8_ofCue 18 = .ok (.iload_n 2, 1) := by decide +kernel
theorem dX8_ofCue_19 : decode cX8_ofCue 19 = .ok (.tableswitch 58 0 4 #[33, 38, 43, 48, 53], 33) := by decide +kernel
theorem dX8_ofCue_52 : decode cX8_ofCue 52 = .ok (.aload_n 3, 1) := by decide +kernel
theorem dX8_ofCue_53 : decode cX8_ofCue 53 = .ok (.getfield 82, 3) := by decide +kernel
theorem dX8_ofCue_56 : decode cX8_ofCue 56 = .ok (.ireturn, 1) := by decide +kernel
theorem dX8_ofCue_57 : decode cX8_ofCue 57 = .ok (.aload_n 3, 1) := by decide +kernel
theorem dX8_ofCue_58 : decode cX8_ofCue 58 = .ok (.getfield 88, 3) := by decide +kernel
theorem dX8_ofCue_61 : decode cX8_ofCue 61 = .ok (.ireturn, 1) := by decide +kernel
theorem dX8_ofCue_62 : decode cX8_ofCue 62 = .ok (.aload_n 3, 1) := by decide +kernel
theorem dX8_ofCue_63 : decode cX8_ofCue 63 = .ok (.getfield 91, 3) := by decide +kernel
theorem dX8_ofCue_66 : decode cX8_ofCue 66 = .ok (.ireturn, 1) := by decide +kernel
theorem dX8_ofCue_67 : decode cX8_ofCue 67 = .ok (.aload_n 3, 1) := by decide +kernel
theorem dX8_ofCue_68 : decode cX8_ofCue 68 = .ok (.getfield 94, 3) := by decide +kernel
theorem dX8_ofCue_71 : decode cX8_ofCue 71 = .ok (.ireturn, 1) := by decide +kernel
theorem dX8_ofCue_72 : decode cX8_ofCue 72 = .ok (.aload_n 3, 1) := by decide +kernel
theorem dX8_ofCue_73 : decode cX8_ofCue 73 = .ok (.getfield 97, 3) := by decide +kernel
theorem dX8_ofCue_76 : decode cX8_ofCue 76 = .ok (.ireturn, 1) := by decide +kernel
theorem dX8_ofCue_77 : decode cX8_ofCue 77 = .ok (.bipush (-2), 2) := by decide +kernel
theorem dX8_ofCue_79 : decode cX8_ofCue 79 = .ok (.ireturn, 1) := by decide +kernel
theorem dX8_ofReel_0 : decode cX8_ofReel 0 = .ok (.aload_n 0, 1) := by decide +kernel
theorem dX8_ofReel_1 : decode cX8_ofReel 1 = .ok (.getfield 10, 3) := by decide +kernel
theorem dX8_ofReel_4 : decode cX8_ofReel 4 = .ok (.iload_n 1, 1) := by decide +kernel
theorem dX8_ofReel_5 : decode cX8_ofReel 5 = .ok (.invokevirtual 100, 3) := by decide +kernel
theorem dX8_ofReel_8 : decode cX8_ofReel 8 = .ok (.astore_n 3, 1) := by decide +kernel
theorem dX8_ofReel_9 : decode cX8_ofReel 9 = .ok (.aload_n 3, 1) := by decide +kernel
theorem dX8_ofReel_10 : decode cX8_ofReel 10 = .ok (.ifnonnull 5, 3) := by decide +kernel
theorem dX8_ofReel_13 : decode cX8_ofReel 13 = .ok (.iconst (-1), 1) := by decide +kernel
theorem dX8_ofReel_14 : decode cX8_ofReel 14 = .ok (.ireturn, 1) := by decide +kernel
theorem dX8_ofReel_15 : decode cX8_ofReel 15 = .ok (.iload_n 2, 1) := by decide +kernel
theorem dX8_ofReel_16 : decode cX8_ofReel 16 = .ok (.tableswitch 77 0 5 #[40, 45, 50, 55, 60, 65], 40) := by decide +kernel
theorem dX8_ofReel_56 : decode cX8_ofReel 56 = .ok (.aload_n 3, 1) := by decide +kernel
theorem dX8_ofReel_57 : decode cX8_ofReel 57 = .ok (.getfield 104, 3) := by decide +kernel
theorem dX8_ofReel_60 : decode cX8_ofReel 60 = .ok (.ireturn, 1) := by decide +kernel
theorem dX8_ofReel_61 : decode cX8_ofReel 61 = .ok (.aload_n 3, 1) := by decide +kernel
theorem dX8_ofReel_62 : decode cX8_ofReel 62 = .ok (.getfield 109, 3) := by decide +kernel
theorem dX8_ofReel_65 : decode cX8_ofReel 65 = .ok (.ireturn, 1) := by decide +kernel
theorem dX8_ofReel_66 : decode cX8_ofReel 66 = .ok (.aload_n 3, 1) := by decide +kernel
theorem dX8_ofReel_67 : decode cX8_ofReel 67 = .ok (.getfield 112, 3) := by decide +kernel
theorem dX8_ofReel_70 : decode cX8_ofReel 70 = .ok (.ireturn, 1) := by decide +kernel
theorem dX8_ofReel_71 : decode cX8_ofReel 71 = .ok (.aload_n 3, 1) := by decide +kernel
theorem dX8_ofReel_72 : decode cX8_ofReel 72 = .ok (.getfield 115, 3) := by decide +kernel
theorem dX8_ofReel_75 : decode cX8_ofReel 75 = .ok (.ireturn, 1) := by decide +kernel
theorem dX8_ofReel_76 : decode cX8_ofReel 76 = .ok (.aload_n 3, 1) := by decide +kernel
theorem dX8_ofReel_77 : decode cX8_ofReel 77 = .ok (.invokevirtual 118, 3) := by decide +kernel
theorem dX8_ofReel_80 : decode cX8_ofReel 80 = .ok (.ireturn, 1) := by decide +kernel
theorem dX8_ofReel_81 : decode cX8_ofReel 81 = .ok (.aload_n 0, 1) := by decide +kernel
theorem dX8_ofReel_82 : decode cX8_ofReel 82 = .ok (.getfield 10, 3) := by decide +kernel
theorem dX8_ofReel_85 : decode cX8_ofReel 85 = .ok (.getfield 56, 3) := by decide +kernel
theorem dX8_ofReel_88 : decode cX8_ofReel 88 = .ok (.iload_n 1, 1) := by decide +kernel
theorem dX8_ofReel_89 : decode cX8_ofReel 89 = .ok (.invokevirtual 121, 3) := by decide +kernel
theorem dX8_ofReel_92 : decode cX8_ofReel 92 = .ok (.ireturn, 1) := by decide +kernel
theorem dX8_ofReel_93 : decode cX8_ofReel 93 = .ok (.bipush (-2), 2) := by decide +kernel
theorem dX8_ofReel_95 : decode cX8_ofReel 95 = .ok (.ireturn, 1) := by decide +kernel
theorem dX8_ofSound_0 : decode cX8_ofSound 0 = .ok (.aload_n 0, 1) := by decide +kernel
theorem dX8_ofSound_1 : decode cX8_ofSound 1 = .ok (.getfield 10, 3) := by decide +kernel
theorem dX8_ofSound_4 : decode cX8_ofSound 4 = .ok (.iload_n 1, 1) := by decide +kernel
theorem dX8_ofSound_5 : decode cX8_ofSound 5 = .ok (.iload_n 2, 1) := by decide +kernel
theorem dX8_ofSound_6 : decode cX8_ofSound 6 = .ok (.invokevirtual 124, 3) := by decide +kernel
theorem dX8_ofSound_9 : decode cX8_ofSound 9 = .ok (.astore 4, 2) := by decide +kernel
theorem dX8_ofSound_11 : decode cX8_ofSound 11 = .ok (.aload 4, 2) := by decide +kernel
theorem dX8_ofSound_13 : decode cX8_ofSound 13 = .ok (.ifnonnull 5, 3) := by decide +kernel
theorem dX8_ofSound_16 : decode cX8_ofSound 16 = .ok (.iconst (-1), 1) := by decide +kernel
theorem dX8_ofSound_17 : decode cX8_ofSound 17 = .ok (.ireturn, 1) := by decide +kernel
theorem dX8_ofSound_18 : decode cX8_ofSound 18 = .ok (.iload_n 3, 1) := by decide +kernel
theorem dX8_ofSound_19 : decode cX8_ofSound 19 = .ok (.tableswitch 53 0 3 #[29, 35, 41, 47], 29) := by decide +kernel
theorem dX8_ofSound_48 : decode cX8_ofSound 48 = .ok (.aload 4, 2) := by decide +kernel
theorem dX8_ofSound_50 : decode cX8_ofSound 50 = .ok (.getfield 128, 3) := by decide +kernel
theorem dX8_ofSound_53 : decode cX8_ofSound 53 = .ok (.ireturn, 1) := by decide +kernel
theorem dX8_ofSound_54 : decode cX8_ofSound 54 = .ok (.aload 4, 2) := by decide +kernel
theorem dX8_ofSound_56 : decode cX8_ofSound 56 = .ok (.getfield 133, 3) := by decide +kernel
theorem dX8_ofSound_59 : decode cX8_ofSound 59 = .ok (.ireturn, 1) := by decide +kernel
theorem dX8_ofSound_60 : decode cX8_ofSound 60 = .ok (.aload 4, 2) := by decide +kernel
theorem dX8_ofSound_62 : decode cX8_ofSound 62 = .ok (.getfield 136, 3) := by decide +kernel
theorem dX8_ofSound_65 : decode cX8_ofSound 65 = .ok (.ireturn, 1) := by decide +kernel
theorem dX8_ofSound_66 : decode cX8_ofSound 66 = .ok (.aload 4, 2) := by decide +kernel
theorem dX8_ofSound_68 : decode cX8_ofSound 68 = .ok (.getfield 139, 3) := by decide +kernel
theorem dX8_ofSound_71 : decode cX8_ofSound 71 = .ok (.ireturn, 1) := by decide +kernel
theorem dX8_ofSound_72 : decode cX8_ofSound 72 = .ok (.bipush (-2), 2) := by decide +kernel
theorem dX8_ofSound_74 : decode cX8_ofSound 74 = .ok (.ireturn, 1) := by decide +kernel
theorem dX8_played_0 : decode cX8_played 0 = .ok (.iload_n 1, 1) := by decide +kernel
theorem dX8_played_1 : decode cX8_played 1 = .ok (.ifCond .lt 26, 3) := by decide +kernel
theorem dX8_played_4 : decode cX8_played 4 = .ok (.iload_n 1, 1) := by decide +kernel
theorem dX8_played_5 : decode cX8_played 5 = .ok (.aload_n 0, 1) := by decide +kernel
theorem dX8_played_6 : decode cX8_played 6 = .ok (.getfield 10, 3) := by decide +kernel
theorem dX8_played_9 : decode cX8_played 9 = .ok (.getfield 142, 3) := by decide +kernel
theorem dX8_played_12 : decode cX8_played 12 = .ok (.if_icmp .ge 15, 3) := by decide +kernel
theorem dX8_played_15 : decode cX8_played 15 = .ok (.iload_n 1, 1) := by decide +kernel
theorem dX8_played_16 : decode cX8_played 16 = .ok (.aload_n 0, 1) := by decide +kernel
theorem dX8_played_17 : decode cX8_played 17 = .ok (.getfield 10, 3) := by decide +kernel
theorem dX8_played_20 : decode cX8_played 20 = .ok (.getfield 145, 3) := by decide +kernel
theorem dX8_played_23 : decode cX8_played 23 = .ok (.arraylength, 1) := by decide +kernel
theorem dX8_played_24 : decode cX8_played 24 = .ok (.if_icmp .lt 5, 3) := by decide +kernel
theorem dX8_played_27 : decode cX8_played 27 = .ok (.iconst (-1), 1) := by decide +kernel
theorem dX8_played_28 : decode cX8_played 28 = .ok (.ireturn, 1) := by decide +kernel
theorem dX8_played_29 : decode cX8_played 29 = .ok (.aload_n 0, 1) := by decide +kernel
theorem dX8_played_30 : decode cX8_played 30 = .ok (.getfield 10, 3) := by decide +kernel
theorem dX8_played_33 : decode cX8_played 33 = .ok (.getfield 145, 3) := by decide +kernel
theorem dX8_played_36 : decode cX8_played 36 = .ok (.iload_n 1, 1) := by decide +kernel
theorem dX8_played_37 : decode cX8_played 37 = .ok (.iaload, 1) := by decide +kernel
theorem dX8_played_38 : decode cX8_played 38 = .ok (.bipush 6, 2) := by decide +kernel
theorem dX8_played_40 : decode cX8_played 40 = .ok (.idiv, 1) := by decide +kernel
theorem dX8_played_41 : decode cX8_played 41 = .ok (.istore_n 3, 1) := by decide +kernel
theorem dX8_played_42 : decode cX8_played 42 = .ok (.aload_n 0, 1) := by decide +kernel
theorem dX8_played_43 : decode cX8_played 43 = .ok (.getfield 10, 3) := by decide +kernel
theorem dX8_played_46 : decode cX8_played 46 = .ok (.getfield 145, 3) := by decide +kernel
theorem dX8_played_49 : decode cX8_played 49 = .ok (.iload_n 1, 1) := by decide +kernel
theorem dX8_played_50 : decode cX8_played 50 = .ok (.iaload, 1) := by decide +kernel
theorem dX8_played_51 : decode cX8_played 51 = .ok (.bipush 6, 2) := by decide +kernel
theorem dX8_played_53 : decode cX8_played 53 = .ok (.irem, 1) := by decide +kernel
theorem dX8_played_54 : decode cX8_played 54 = .ok (.istore 4, 2) := by decide +kernel
theorem dX8_played_56 : decode cX8_played 56 = .ok (.aload_n 0, 1) := by decide +kernel
theorem dX8_played_57 : decode cX8_played 57 = .ok (.getfield 10, 3) := by decide +kernel
theorem dX8_played_60 : decode cX8_played 60 = .ok (.iload_n 3, 1) := by decide +kernel
theorem dX8_played_61 : decode cX8_played 61 = .ok (.iload 4, 2) := by decide +kernel
theorem dX8_played_63 : decode cX8_played 63 = .ok (.invokevirtual 124, 3) := by decide +kernel
theorem dX8_played_66 : decode cX8_played 66 = .ok (.astore 5, 2) := by decide +kernel
theorem dX8_played_68 : decode cX8_played 68 = .ok (.aload 5, 2) := by decide +kernel
theorem dX8_played_70 : decode cX8_played 70 = .ok (.ifnonnull 5, 3) := by decide +kernel
theorem dX8_played_73 : decode cX8_played 73 = .ok (.iconst (-1), 1) := by decide +kernel
theorem dX8_played_74 : decode cX8_played 74 = .ok (.ireturn, 1) := by decide +kernel
theorem dX8_played_75 : decode cX8_played 75 = .ok (.iload_n 2, 1) := by decide +kernel
theorem dX8_played_76 : decode cX8_played 76 = .ok (.tableswitch 39 0 2 #[28, 30, 33], 28) := by decide +kernel
theorem dX8_played_104 : decode cX8_played 104 = .ok (.iload_n 3, 1) := by decide +kernel
theorem dX8_played_105 : decode cX8_played 105 = .ok (.ireturn, 1) := by decide +kernel
theorem dX8_played_106 : decode cX8_played 106 = .ok (.iload 4, 2) := by decide +kernel
theorem dX8_played_108 : decode cX8_played 108 = .ok (.ireturn, 1) := by decide +kernel
theorem dX8_played_109 : decode cX8_played 109 = .ok (.aload 5, 2) := by decide +kernel
theorem dX8_played_111 : decode cX8_played 111 = .ok (.getfield 139, 3) := by decide +kernel
theorem dX8_played_114 : decode cX8_played 114 = .ok (.ireturn, 1) := by decide +kernel
theorem dX8_played_115 : decode cX8_played 115 = .ok (.bipush (-2), 2) := by decide +kernel
theorem dX8_played_117 : decode cX8_played 117 = .ok (.ireturn, 1) := by decide +kernel
theorem dX8_ofChannel_0 : decode cX8_ofChannel 0 = .ok (.aload_n 0, 1) := by decide +kernel
theorem dX8_ofChannel_1 : decode cX8_ofChannel 1 = .ok (.getfield 10, 3) := by decide +kernel
theorem dX8_ofChannel_4 : decode cX8_ofChannel 4 = .ok (.iload_n 1, 1) := by decide +kernel
theorem dX8_ofChannel_5 : decode cX8_ofChannel 5 = .ok (.invokevirtual 149, 3) := by decide +kernel
theorem dX8_ofChannel_8 : decode cX8_ofChannel 8 = .ok (.astore_n 3, 1) := by decide +kernel
theorem dX8_ofChannel_9 : decode cX8_ofChannel 9 = .ok (.aload_n 3, 1) := by decide +kernel
theorem dX8_ofChannel_10 : decode cX8_ofChannel 10 = .ok (.ifnonnull 5, 3) := by decide +kernel
theorem dX8_ofChannel_13 : decode cX8_ofChannel 13 = .ok (.iconst (-1), 1) := by decide +kernel
theorem dX8_ofChannel_14 : decode cX8_ofChannel 14 = .ok (.ireturn, 1) := by decide +kernel
theorem dX8_ofChannel_15 : decode cX8_ofChannel 15 = .ok (.iload_n 2, 1) := by decide +kernel
theorem dX8_ofChannel_16 : decode cX8_ofChannel 16 = .ok (.tableswitch 50 0 2 #[28, 33, 38], 28) := by decide +kernel
theorem dX8_ofChannel_44 : decode cX8_ofChannel 44 = .ok (.aload_n 3, 1) := by decide +kernel
theorem dX8_ofChannel_45 : decode cX8_ofChannel 45 = .ok (.getfield 153, 3) := by decide +kernel
theorem dX8_ofChannel_48 : decode cX8_ofChannel 48 = .ok (.ireturn, 1) := by decide +kernel
theorem dX8_ofChannel_49 : decode cX8_ofChannel 49 = .ok (.aload_n 3, 1) := by decide +kernel
theorem dX8_ofChannel_50 : decode cX8_ofChannel 50 = .ok (.getfield 158, 3) := by decide +kernel
theorem dX8_ofChannel_53 : decode cX8_ofChannel 53 = .ok (.ireturn, 1) := by decide +kernel
theorem dX8_ofChannel_54 : decode cX8_ofChannel 54 = .ok (.aload_n 0, 1) := by decide +kernel
theorem dX8_ofChannel_55 : decode cX8_ofChannel 55 = .ok (.getfield 10, 3) := by decide +kernel
theorem dX8_ofChannel_58 : decode cX8_ofChannel 58 = .ok (.getfield 161, 3) := by decide +kernel
theorem dX8_ofChannel_61 : decode cX8_ofChannel 61 = .ok (.iload_n 1, 1) := by decide +kernel
theorem dX8_ofChannel_62 : decode cX8_ofChannel 62 = .ok (.invokevirtual 165, 3) := by decide +kernel
theorem dX8_ofChannel_65 : decode cX8_ofChannel 65 = .ok (.ireturn, 1) := by decide +kernel
theorem dX8_ofChannel_66 : decode cX8_ofChannel 66 = .ok (.bipush (-2), 2) := by decide +kernel
theorem dX8_ofChannel_68 : decode cX8_ofChannel 68 = .ok (.ireturn, 1) := by decide +kernel
theorem dX8_loud_0 : decode cX8_loud 0 = .ok (.iload_n 1, 1) := by decide +kernel
theorem dX8_loud_1 : decode cX8_loud 1 = .ok (.ifCond .lt 26, 3) := by decide +kernel
theorem dX8_loud_4 : decode cX8_loud 4 = .ok (.iload_n 1, 1) := by decide +kernel
theorem dX8_loud_5 : decode cX8_loud 5 = .ok (.aload_n 0, 1) := by decide +kernel
theorem dX8_loud_6 : decode cX8_loud 6 = .ok (.getfield 10, 3) := by decide +kernel
theorem dX8_loud_9 : decode cX8_loud 9 = .ok (.getfield 170, 3) := by decide +kernel
theorem dX8_loud_12 : decode cX8_loud 12 = .ok (.if_icmp .ge 15, 3) := by decide +kernel
theorem dX8_loud_15 : decode cX8_loud 15 = .ok (.iload_n 1, 1) := by decide +kernel
theorem dX8_loud_16 : decode cX8_loud 16 = .ok (.aload_n 0, 1) := by decide +kernel
theorem dX8_loud_17 : decode cX8_loud 17 = .ok (.getfield 10, 3) := by decide +kernel
theorem dX8_loud_20 : decode cX8_loud 20 = .ok (.getfield 173, 3) := by decide +kernel
theorem dX8_loud_23 : decode cX8_loud 23 = .ok (.arraylength, 1) := by decide +kernel
theorem dX8_loud_24 : decode cX8_loud 24 = .ok (.if_icmp .lt 5, 3) := by decide +kernel
theorem dX8_loud_27 : decode cX8_loud 27 = .ok (.iconst (-1), 1) := by decide +kernel
theorem dX8_loud_28 : decode cX8_loud 28 = .ok (.ireturn, 1) := by decide +kernel
theorem dX8_loud_29 : decode cX8_loud 29 = .ok (.aload_n 0, 1) := by decide +kernel
theorem dX8_loud_30 : decode cX8_loud 30 = .ok (.getfield 10, 3) := by decide +kernel
theorem dX8_loud_33 : decode cX8_loud 33 = .ok (.getfield 173, 3) := by decide +kernel
theorem dX8_loud_36 : decode cX8_loud 36 = .ok (.iload_n 1, 1) := by decide +kernel
theorem dX8_loud_37 : decode cX8_loud 37 = .ok (.iaload, 1) := by decide +kernel
theorem dX8_loud_38 : decode cX8_loud 38 = .ok (.ireturn, 1) := by decide +kernel
theorem dX8_count_0 : decode cX8_count 0 = .ok (.iload_n 1, 1) := by decide +kernel
theorem dX8_count_1 : decode cX8_count 1 = .ok (.tableswitch 219 0 14 #[75, 83, 94, 106, 118, 130, 142, 150, 158, 166, 176, 186, 196, 206, 214], 75) := by decide +kernel
theorem dX8_count_76 : decode cX8_count 76 = .ok (.aload_n 0, 1) := by decide +kernel
theorem dX8_count_77 : decode cX8_count 77 = .ok (.getfield 10, 3) := by decide +kernel
theorem dX8_count_80 : decode cX8_count 80 = .ok (.getfield 170, 3) := by decide +kernel
theorem dX8_count_83 : decode cX8_count 83 = .ok (.ireturn, 1) := by decide +kernel
theorem dX8_count_84 : decode cX8_count 84 = .ok (.aload_n 0, 1) := by decide +kernel
theorem dX8_count_85 : decode cX8_count 85 = .ok (.getfield 10, 3) := by decide +kernel
theorem dX8_count_88 : decode cX8_count 88 = .ok (.getfield 56, 3) := by decide +kernel
theorem dX8_count_91 : decode cX8_count 91 = .ok (.getfield 176, 3) := by decide +kernel
theorem dX8_count_94 : decode cX8_count 94 = .ok (.ireturn, 1) := by decide +kernel
theorem dX8_count_95 : decode cX8_count 95 = .ok (.aload_n 0, 1) := by decide +kernel
theorem dX8_count_96 : decode cX8_count 96 = .ok (.getfield 10, 3) := by decide +kernel
theorem dX8_count_99 : decode cX8_count 99 = .ok (.getfield 56, 3) := by decide +kernel
theorem dX8_count_102 : decode cX8_count 102 = .ok (.iconst 0, 1) := by decide +kernel
theorem dX8_count_103 : decode cX8_count 103 = .ok (.invokevirtual 177, 3) := by decide +kernel
theorem dX8_count_106 : decode cX8_count 106 = .ok (.ireturn, 1) := by decide +kernel
theorem dX8_count_107 : decode cX8_count 107 = .ok (.aload_n 0, 1) := by decide +kernel
theorem dX8_count_108 : decode cX8_count 108 = .ok (.getfield 10, 3) := by decide +kernel
theorem dX8_count_111 : decode cX8_count 111 = .ok (.getfield 56, 3) := by decide +kernel
theorem dX8_count_114 : decode cX8_count 114 = .ok (.iconst 1, 1) := by decide +kernel
theorem dX8_count_115 : decode cX8_count 115 = .ok (.invokevirtual 177, 3) := by decide +kernel
theorem dX8_count_118 : decode cX8_count 118 = .ok (.ireturn, 1) := by decide +kernel
theorem dX8_count_119 : decode cX8_count 119 = .ok (.aload_n 0, 1) := by decide +kernel
theorem dX8_count_120 : decode cX8_count 120 = .ok (.getfield 10, 3) := by decide +kernel
theorem dX8_count_123 : decode cX8_count 123 = .ok (.getfield 56, 3) := by decide +kernel
theorem dX8_count_126 : decode cX8_count 126 = .ok (.iconst 2, 1) := by decide +kernel
theorem dX8_count_127 : decode cX8_count 127 = .ok (.invokevirtual 177, 3) := by decide +kernel
theorem dX8_count_130 : decode cX8_count 130 = .ok (.ireturn, 1) := by decide +kernel
theorem dX8_count_131 : decode cX8_count 131 = .ok (.aload_n 0, 1) := by decide +kernel
theorem dX8_count_132 : decode cX8_count 132 = .ok (.getfield 10, 3) := by decide +kernel
theorem dX8_count_135 : decode cX8_count 135 = .ok (.getfield 56, 3) := by decide +kernel
theorem dX8_count_138 : decode cX8_count 138 = .ok (.iconst 3, 1) := by decide +kernel
theorem dX8_count_139 : decode cX8_count 139 = .ok (.invokevirtual 177, 3) := by decide +kernel
theorem dX8_count_142 : decode cX8_count 142 = .ok (.ireturn, 1) := by decide +kernel
theorem dX8_count_143 : decode cX8_count 143 = .ok (.aload_n 0, 1) := by decide +kernel
theorem dX8_count_144 : decode cX8_count 144 = .ok (.getfield 10, 3) := by decide +kernel
theorem dX8_count_147 : decode cX8_count 147 = .ok (.invokevirtual 180, 3) := by decide +kernel
theorem dX8_count_150 : decode cX8_count 150 = .ok (.ireturn, 1) := by decide +kernel
theorem dX8_count_151 : decode cX8_count 151 = .ok (.aload_n 0, 1) := by decide +kernel
theorem dX8_count_152 : decode cX8_count 152 = .ok (.getfield 10, 3) := by decide +kernel
theorem dX8_count_155 : decode cX8_count 155 = .ok (.invokevirtual 183, 3) := by decide +kernel
theorem dX8_count_158 : decode cX8_count 158 = .ok (.ireturn, 1) := by decide +kernel
theorem dX8_count_159 : decode cX8_count 159 = .ok (.aload_n 0, 1) := by decide +kernel
theorem dX8_count_160 : decode cX8_count 160 = .ok (.getfield 10, 3) := by decide +kernel
theorem dX8_count_163 : decode cX8_count 163 = .ok (.invokevirtual 186, 3) := by decide +kernel
theorem dX8_count_166 : decode cX8_count 166 = .ok (.ireturn, 1) := by decide +kernel
theorem dX8_count_167 : decode cX8_count 167 = .ok (.aload_n 0, 1) := by decide +kernel
theorem dX8_count_168 : decode cX8_count 168 = .ok (.getfield 10, 3) := by decide +kernel
theorem dX8_count_171 : decode cX8_count 171 = .ok (.getfield 189, 3) := by decide +kernel
theorem dX8_count_174 : decode cX8_count 174 = .ok (.iconst 0, 1) := by decide +kernel
theorem dX8_count_175 : decode cX8_count 175 = .ok (.iaload, 1) := by decide +kernel
theorem dX8_count_176 : decode cX8_count 176 = .ok (.ireturn, 1) := by decide +kernel
theorem dX8_count_177 : decode cX8_count 177 = .ok (.aload_n 0, 1) := by decide +kernel
theorem dX8_count_178 : decode cX8_count 178 = .ok (.getfield 10, 3) := by decide +kernel
theorem dX8_count_181 : decode cX8_count 181 = .ok (.getfield 189, 3) := by decide +kernel
theorem dX8_count_184 : decode cX8_count 184 = .ok (.iconst 1, 1) := by decide +kernel
theorem dX8_count_185 : decode cX8_count 185 = .ok (.iaload, 1) := by decide +kernel
theorem dX8_count_186 : decode cX8_count 186 = .ok (.ireturn, 1) := by decide +kernel
theorem dX8_count_187 : decode cX8_count 187 = .ok (.aload_n 0, 1) := by decide +kernel
theorem dX8_count_188 : decode cX8_count 188 = .ok (.getfield 10, 3) := by decide +kernel
theorem dX8_count_191 : decode cX8_count 191 = .ok (.getfield 189, 3) := by decide +kernel
theorem dX8_count_194 : decode cX8_count 194 = .ok (.iconst 2, 1) := by decide +kernel
theorem dX8_count_195 : decode cX8_count 195 = .ok (.iaload, 1) := by decide +kernel
theorem dX8_count_196 : decode cX8_count 196 = .ok (.ireturn, 1) := by decide +kernel
theorem dX8_count_197 : decode cX8_count 197 = .ok (.aload_n 0, 1) := by decide +kernel
theorem dX8_count_198 : decode cX8_count 198 = .ok (.getfield 10, 3) := by decide +kernel
theorem dX8_count_201 : decode cX8_count 201 = .ok (.getfield 189, 3) := by decide +kernel
theorem dX8_count_204 : decode cX8_count 204 = .ok (.iconst 3, 1) := by decide +kernel
theorem dX8_count_205 : decode cX8_count 205 = .ok (.iaload, 1) := by decide +kernel
theorem dX8_count_206 : decode cX8_count 206 = .ok (.ireturn, 1) := by decide +kernel
theorem dX8_count_207 : decode cX8_count 207 = .ok (.aload_n 0, 1) := by decide +kernel
theorem dX8_count_208 : decode cX8_count 208 = .ok (.getfield 33, 3) := by decide +kernel
theorem dX8_count_211 : decode cX8_count 211 = .ok (.getfield 192, 3) := by decide +kernel
theorem dX8_count_214 : decode cX8_count 214 = .ok (.ireturn, 1) := by decide +kernel
theorem dX8_count_215 : decode cX8_count 215 = .ok (.aload_n 0, 1) := by decide +kernel
theorem dX8_count_216 : decode cX8_count 216 = .ok (.getfield 195, 3) := by decide +kernel
theorem dX8_count_219 : decode cX8_count 219 = .ok (.ireturn, 1) := by decide +kernel
theorem dX8_count_220 : decode cX8_count 220 = .ok (.bipush (-2), 2) := by decide +kernel
theorem dX8_count_222 : decode cX8_count 222 = .ok (.ireturn, 1) := by decide +kernel
theorem dX8_becomes_0 : decode cX8_becomes 0 = .ok (.aload_n 0, 1) := by decide +kernel
theorem dX8_becomes_1 : decode cX8_becomes 1 = .ok (.getfield 16, 3) := by decide +kernel
theorem dX8_becomes_4 : decode cX8_becomes 4 = .ok (.aload_n 0, 1) := by decide +kernel
theorem dX8_becomes_5 : decode cX8_becomes 5 = .ok (.getfield 10, 3) := by decide +kernel
theorem dX8_becomes_8 : decode cX8_becomes 8 = .ok (.invokevirtual 202, 3) := by decide +kernel
theorem dX8_becomes_11 : decode cX8_becomes 11 = .ok (.aload_n 0, 1) := by decide +kernel
theorem dX8_becomes_12 : decode cX8_becomes 12 = .ok (.invokevirtual 217, 3) := by decide +kernel
theorem dX8_becomes_15 : decode cX8_becomes 15 = .ok (.pop, 1) := by decide +kernel
theorem dX8_becomes_16 : decode cX8_becomes 16 = .ok (.aload_n 0, 1) := by decide +kernel
theorem dX8_becomes_17 : decode cX8_becomes 17 = .ok (.getfield 16, 3) := by decide +kernel
theorem dX8_becomes_20 : decode cX8_becomes 20 = .ok (.getfield 56, 3) := by decide +kernel
theorem dX8_becomes_23 : decode cX8_becomes 23 = .ok (.iload_n 1, 1) := by decide +kernel
theorem dX8_becomes_24 : decode cX8_becomes 24 = .ok (.invokevirtual 78, 3) := by decide +kernel
theorem dX8_becomes_27 : decode cX8_becomes 27 = .ok (.astore_n 2, 1) := by decide +kernel
theorem dX8_becomes_28 : decode cX8_becomes 28 = .ok (.aload_n 2, 1) := by decide +kernel
theorem dX8_becomes_29 : decode cX8_becomes 29 = .ok (.ifnonnull 7, 3) := by decide +kernel
theorem dX8_becomes_32 : decode cX8_becomes 32 = .ok (.iconst (-1), 1) := by decide +kernel
theorem dX8_becomes_33 : decode cX8_becomes 33 = .ok (.goto 7, 3) := by decide +kernel
theorem dX8_becomes_36 : decode cX8_becomes 36 = .ok (.aload_n 2, 1) := by decide +kernel
theorem dX8_becomes_37 : decode cX8_becomes 37 = .ok (.getfield 97, 3) := by decide +kernel
theorem dX8_becomes_40 : decode cX8_becomes 40 = .ok (.ireturn, 1) := by decide +kernel
theorem dX8_within_0 : decode cX8_within 0 = .ok (.iload_n 0, 1) := by decide +kernel
theorem dX8_within_1 : decode cX8_within 1 = .ok (.iload_n 1, 1) := by decide +kernel
theorem dX8_within_2 : decode cX8_within 2 = .ok (.if_icmp .lt 12, 3) := by decide +kernel
theorem dX8_within_5 : decode cX8_within 5 = .ok (.iload_n 0, 1) := by decide +kernel
theorem dX8_within_6 : decode cX8_within 6 = .ok (.iload_n 2, 1) := by decide +kernel
theorem dX8_within_7 : decode cX8_within 7 = .ok (.if_icmp .gt 7, 3) := by decide +kernel
theorem dX8_within_10 : decode cX8_within 10 = .ok (.iconst 1, 1) := by decide +kernel
theorem dX8_within_11 : decode cX8_within 11 = .ok (.goto 4, 3) := by decide +kernel
theorem dX8_within_14 : decode cX8_within 14 = .ok (.iconst 0, 1) := by decide +kernel
theorem dX8_within_15 : decode cX8_within 15 = .ok (.ireturn, 1) := by decide +kernel
theorem dX8_nearer_0 : decode cX8_nearer 0 = .ok (.iload_n 0, 1) := by decide +kernel
theorem dX8_nearer_1 : decode cX8_nearer 1 = .ok (.iload_n 1, 1) := by decide +kernel
theorem dX8_nearer_2 : decode cX8_nearer 2 = .ok (.if_icmp .ge 13, 3) := by decide +kernel
theorem dX8_nearer_5 : decode cX8_nearer 5 = .ok (.iload_n 1, 1) := by decide +kernel
theorem dX8_nearer_6 : decode cX8_nearer 6 = .ok (.iload_n 0, 1) := by decide +kernel
theorem dX8_nearer_7 : decode cX8_nearer 7 = .ok (.iload_n 2, 1) := by decide +kernel
theorem dX8_nearer_8 : decode cX8_nearer 8 = .ok (.iadd, 1) := by decide +kernel
theorem dX8_nearer_9 : decode cX8_nearer 9 = .ok (.invokestatic 255, 3) := by decide +kernel
theorem dX8_nearer_12 : decode cX8_nearer 12 = .ok (.goto 10, 3) := by decide +kernel
theorem dX8_nearer_15 : decode cX8_nearer 15 = .ok (.iload_n 1, 1) := by decide +kernel
theorem dX8_nearer_16 : decode cX8_nearer 16 = .ok (.iload_n 0, 1) := by decide +kernel
theorem dX8_nearer_17 : decode cX8_nearer 17 = .ok (.iload_n 2, 1) := by decide +kernel
theorem dX8_nearer_18 : decode cX8_nearer 18 = .ok (.isub, 1) := by decide +kernel
theorem dX8_nearer_19 : decode cX8_nearer 19 = .ok (.invokestatic 227, 3) := by decide +kernel
theorem dX8_nearer_22 : decode cX8_nearer 22 = .ok (.ireturn, 1) := by decide +kernel
theorem dX8_holdState_0 : decode cX8_holdState 0 = .ok (.aload_n 0, 1) := by decide +kernel
theorem dX8_holdState_1 : decode cX8_holdState 1 = .ok (.getfield 195, 3) := by decide +kernel
theorem dX8_holdState_4 : decode cX8_holdState 4 = .ok (.ifCond .lt 31, 3) := by decide +kernel
theorem dX8_holdState_7 : decode cX8_holdState 7 = .ok (.aload_n 0, 1) := by decide +kernel
theorem dX8_holdState_8 : decode cX8_holdState 8 = .ok (.getfield 195, 3) := by decide +kernel
theorem dX8_holdState_11 : decode cX8_holdState 11 = .ok (.aload_n 0, 1) := by decide +kernel
theorem dX8_holdState_12 : decode cX8_holdState 12 = .ok (.getfield 19, 3) := by decide +kernel
theorem dX8_holdState_15 : decode cX8_holdState 15 = .ok (.arraylength, 1) := by decide +kernel
theorem dX8_holdState_16 : decode cX8_holdState 16 = .ok (.if_icmp .ge 19, 3) := by decide +kernel
theorem dX8_holdState_19 : decode cX8_holdState 19 = .ok (.aload_n 0, 1) := by decide +kernel
theorem dX8_holdState_20 : decode cX8_holdState 20 = .ok (.getfield 19, 3) := by decide +kernel
theorem dX8_holdState_23 : decode cX8_holdState 23 = .ok (.aload_n 0, 1) := by decide +kernel
theorem dX8_holdState_24 : decode cX8_holdState 24 = .ok (.getfield 195, 3) := by decide +kernel
theorem dX8_holdState_27 : decode cX8_holdState 27 = .ok (.aaload, 1) := by decide +kernel
theorem dX8_holdState_28 : decode cX8_holdState 28 = .ok (.aload_n 0, 1) := by decide +kernel
theorem dX8_holdState_29 : decode cX8_holdState 29 = .ok (.getfield 10, 3) := by decide +kernel
theorem dX8_holdState_32 : decode cX8_holdState 32 = .ok (.invokevirtual 202, 3) := by decide +kernel
theorem dX8_holdState_35 : decode cX8_holdState 35 = .ok (.return_, 1) := by decide +kernel
theorem dX8_recorded_0 : decode cX8_recorded 0 = .ok (.iload_n 1, 1) := by decide +kernel
theorem dX8_recorded_1 : decode cX8_recorded 1 = .ok (.ifCond .ge 5, 3) := by decide +kernel
theorem dX8_recorded_4 : decode cX8_recorded 4 = .ok (.iload_n 1, 1) := by decide +kernel
theorem dX8_recorded_5 : decode cX8_recorded 5 = .ok (.ireturn, 1) := by decide +kernel
theorem dX8_recorded_6 : decode cX8_recorded 6 = .ok (.aload_n 0, 1) := by decide +kernel
theorem dX8_recorded_7 : decode cX8_recorded 7 = .ok (.dup, 1) := by decide +kernel
theorem dX8_recorded_8 : decode cX8_recorded 8 = .ok (.getfield 195, 3) := by decide +kernel
theorem dX8_recorded_11 : decode cX8_recorded 11 = .ok (.iconst 1, 1) := by decide +kernel
theorem dX8_recorded_12 : decode cX8_recorded 12 = .ok (.iadd, 1) := by decide +kernel
theorem dX8_recorded_13 : decode cX8_recorded 13 = .ok (.putfield 195, 3) := by decide +kernel
theorem dX8_recorded_16 : decode cX8_recorded 16 = .ok (.aload_n 0, 1) := by decide +kernel
theorem dX8_recorded_17 : decode cX8_recorded 17 = .ok (.getfield 195, 3) := by decide +kernel
theorem dX8_recorded_20 : decode cX8_recorded 20 = .ok (.bipush 6, 2) := by decide +kernel
theorem dX8_recorded_22 : decode cX8_recorded 22 = .ok (.if_icmp .le 7, 3) := by decide +kernel
theorem dX8_recorded_25 : decode cX8_recorded 25 = .ok (.aload_n 0, 1) := by decide +kernel
theorem dX8_recorded_26 : decode cX8_recorded 26 = .ok (.invokevirtual 258, 3) := by decide +kernel
theorem dX8_recorded_29 : decode cX8_recorded 29 = .ok (.iload_n 1, 1) := by decide +kernel
theorem dX8_recorded_30 : decode cX8_recorded 30 = .ok (.ireturn, 1) := by decide +kernel
theorem dX8_dropOldestState_0 : decode cX8_dropOldestState 0 = .ok (.aload_n 0, 1) := by decide +kernel
theorem dX8_dropOldestState_1 : decode cX8_dropOldestState 1 = .ok (.getfield 19, 3) := by decide +kernel
theorem dX8_dropOldestState_4 : decode cX8_dropOldestState 4 = .ok (.iconst 0, 1) := by decide +kernel
theorem dX8_dropOldestState_5 : decode cX8_dropOldestState 5 = .ok (.aaload, 1) := by decide +kernel
theorem dX8_dropOldestState_6 : decode cX8_dropOldestState 6 = .ok (.astore_n 1, 1) := by decide +kernel
theorem dX8_dropOldestState_7 : decode cX8_dropOldestState 7 = .ok (.iconst 1, 1) := by decide +kernel
theorem dX8_dropOldestState_8 : decode cX8_dropOldestState 8 = .ok (.istore_n 2, 1) := by decide +kernel
theorem dX8_dropOldestState_9 : decode cX8_dropOldestState 9 = .ok (.iload_n 2, 1) := by decide +kernel
theorem dX8_dropOldestState_10 : decode cX8_dropOldestState 10 = .ok (.aload_n 0, 1) := by decide +kernel
theorem dX8_dropOldestState_11 : decode cX8_dropOldestState 11 = .ok (.getfield 19, 3) := by decide +kernel
theorem dX8_dropOldestState_14 : decode cX8_dropOldestState 14 = .ok (.arraylength, 1) := by decide +kernel
theorem dX8_dropOldestState_15 : decode cX8_dropOldestState 15 = .ok (.if_icmp .ge 23, 3) := by decide +kernel
theorem dX8_dropOldestState_18 : decode cX8_dropOldestState 18 = .ok (.aload_n 0, 1) := by decide +kernel
theorem dX8_dropOldestState_19 : decode cX8_dropOldestState 19 = .ok (.getfield 19, 3) := by decide +kernel
theorem dX8_dropOldestState_22 : decode cX8_dropOldestState 22 = .ok (.iload_n 2, 1) := by decide +kernel
theorem dX8_dropOldestState_23 : decode cX8_dropOldestState 23 = .ok (.iconst 1, 1) := by decide +kernel
theorem dX8_dropOldestState_24 : decode cX8_dropOldestState 24 = .ok (.isub, 1) := by decide +kernel
theorem dX8_dropOldestState_25 : decode cX8_dropOldestState 25 = .ok (.aload_n 0, 1) := by decide +kernel
theorem dX8_dropOldestState_26 : decode cX8_dropOldestState 26 = .ok (.getfield 19, 3) := by decide +kernel
theorem dX8_dropOldestState_29 : decode cX8_dropOldestState 29 = .ok (.iload_n 2, 1) := by decide +kernel
theorem dX8_dropOldestState_30 : decode cX8_dropOldestState 30 = .ok (.aaload, 1) := by decide +kernel
theorem dX8_dropOldestState_31 : decode cX8_dropOldestState 31 = .ok (.aastore, 1) := by decide +kernel
theorem dX8_dropOldestState_32 : decode cX8_dropOldestState 32 = .ok (.iinc 2 1, 3) := by decide +kernel
theorem dX8_dropOldestState_35 : decode cX8_dropOldestState 35 = .ok (.goto (-26), 3) := by decide +kernel
theorem dX8_dropOldestState_38 : decode cX8_dropOldestState 38 = .ok (.aload_n 0, 1) := by decide +kernel
theorem dX8_dropOldestState_39 : decode cX8_dropOldestState 39 = .ok (.getfield 19, 3) := by decide +kernel
theorem dX8_dropOldestState_42 : decode cX8_dropOldestState 42 = .ok (.aload_n 0, 1) := by decide +kernel
theorem dX8_dropOldestState_43 : decode cX8_dropOldestState 43 = .ok (.getfield 19, 3) := by decide +kernel
theorem dX8_dropOldestState_46 : decode cX8_dropOldestState 46 = .ok (.arraylength, 1) := by decide +kernel
theorem dX8_dropOldestState_47 : decode cX8_dropOldestState 47 = .ok (.iconst 1, 1) := by decide +kernel
theorem dX8_dropOldestState_48 : decode cX8_dropOldestState 48 = .ok (.isub, 1) := by decide +kernel
theorem dX8_dropOldestState_49 : decode cX8_dropOldestState 49 = .ok (.aload_n 1, 1) := by decide +kernel
theorem dX8_dropOldestState_50 : decode cX8_dropOldestState 50 = .ok (.aastore, 1) := by decide +kernel
theorem dX8_dropOldestState_51 : decode cX8_dropOldestState 51 = .ok (.aload_n 0, 1) := by decide +kernel
theorem dX8_dropOldestState_52 : decode cX8_dropOldestState 52 = .ok (.bipush 6, 2) := by decide +kernel
theorem dX8_dropOldestState_54 : decode cX8_dropOldestState 54 = .ok (.putfield 195, 3) := by decide +kernel
theorem dX8_dropOldestState_57 : decode cX8_dropOldestState 57 = .ok (.return_, 1) := by decide +kernel
theorem dX8_missedInTrial_0 : decode cX8_missedInTrial 0 = .ok (.aload_n 0, 1) := by decide +kernel
theorem dX8_missedInTrial_1 : decode cX8_missedInTrial 1 = .ok (.getfield 16, 3) := by decide +kernel
theorem dX8_missedInTrial_4 : decode cX8_missedInTrial 4 = .ok (.getfield 56, 3) := by decide +kernel
theorem dX8_missedInTrial_7 : decode cX8_missedInTrial 7 = .ok (.invokevirtual 206, 3) := by decide +kernel
theorem dX8_missedInTrial_10 : decode cX8_missedInTrial 10 = .ok (.istore_n 1, 1) := by decide +kernel
theorem dX8_missedInTrial_11 : decode cX8_missedInTrial 11 = .ok (.iconst 0, 1) := by decide +kernel
theorem dX8_missedInTrial_12 : decode cX8_missedInTrial 12 = .ok (.istore_n 2, 1) := by decide +kernel
theorem dX8_missedInTrial_13 : decode cX8_missedInTrial 13 = .ok (.iload_n 2, 1) := by decide +kernel
theorem dX8_missedInTrial_14 : decode cX8_missedInTrial 14 = .ok (.ldc 209, 2) := by decide +kernel
theorem dX8_missedInTrial_16 : decode cX8_missedInTrial 16 = .ok (.if_icmp .ge 30, 3) := by decide +kernel
theorem dX8_missedInTrial_19 : decode cX8_missedInTrial 19 = .ok (.aload_n 0, 1) := by decide +kernel
theorem dX8_missedInTrial_20 : decode cX8_missedInTrial 20 = .ok (.getfield 16, 3) := by decide +kernel
theorem dX8_missedInTrial_23 : decode cX8_missedInTrial 23 = .ok (.getfield 56, 3) := by decide +kernel
theorem dX8_missedInTrial_26 : decode cX8_missedInTrial 26 = .ok (.invokevirtual 261, 3) := by decide +kernel
theorem dX8_missedInTrial_29 : decode cX8_missedInTrial 29 = .ok (.ifCond .eq 17, 3) := by decide +kernel
theorem dX8_missedInTrial_32 : decode cX8_missedInTrial 32 = .ok (.aload_n 0, 1) := by decide +kernel
theorem dX8_missedInTrial_33 : decode cX8_missedInTrial 33 = .ok (.getfield 16, 3) := by decide +kernel
theorem dX8_missedInTrial_36 : decode cX8_missedInTrial 36 = .ok (.invokevirtual 214, 3) := by decide +kernel
theorem dX8_missedInTrial_39 : decode cX8_missedInTrial 39 = .ok (.pop, 1) := by decide +kernel
theorem dX8_missedInTrial_40 : decode cX8_missedInTrial 40 = .ok (.iinc 2 1, 3) := by decide +kernel
theorem dX8_missedInTrial_43 : decode cX8_missedInTrial 43 = .ok (.goto (-30), 3) := by decide +kernel
theorem dX8_missedInTrial_46 : decode cX8_missedInTrial 46 = .ok (.aload_n 0, 1) := by decide +kernel
theorem dX8_missedInTrial_47 : decode cX8_missedInTrial 47 = .ok (.getfield 16, 3) := by decide +kernel
theorem dX8_missedInTrial_50 : decode cX8_missedInTrial 50 = .ok (.getfield 56, 3) := by decide +kernel
theorem dX8_missedInTrial_53 : decode cX8_missedInTrial 53 = .ok (.invokevirtual 206, 3) := by decide +kernel
theorem dX8_missedInTrial_56 : decode cX8_missedInTrial 56 = .ok (.iload_n 1, 1) := by decide +kernel
theorem dX8_missedInTrial_57 : decode cX8_missedInTrial 57 = .ok (.isub, 1) := by decide +kernel
theorem dX8_missedInTrial_58 : decode cX8_missedInTrial 58 = .ok (.ireturn, 1) := by decide +kernel
theorem dJ9_max_7cf53_0 : decode cJ9_max_7cf53 0 = .ok (.iload_n 0, 1) := by decide +kernel
theorem dJ9_max_7cf53_1 : decode cJ9_max_7cf53 1 = .ok (.iload_n 1, 1) := by decide +kernel
theorem dJ9_max_7cf53_2 : decode cJ9_max_7cf53 2 = .ok (.if_icmp .lt 7, 3) := by decide +kernel
theorem dJ9_max_7cf53_5 : decode cJ9_max_7cf53 5 = .ok (.iload_n 0, 1) := by decide +kernel
theorem dJ9_max_7cf53_6 : decode cJ9_max_7cf53 6 = .ok (.goto 4, 3) := by decide +kernel
theorem dJ9_max_7cf53_9 : decode cJ9_max_7cf53 9 = .ok (.iload_n 1, 1) := by decide +kernel
theorem dJ9_max_7cf53_10 : decode cJ9_max_7cf53 10 = .ok (.ireturn, 1) := by decide +kernel
theorem dJ9_min_7cf53_0 : decode cJ9_min_7cf53 0 = .ok (.iload_n 0, 1) := by decide +kernel
theorem dJ9_min_7cf53_1 : decode cJ9_min_7cf53 1 = .ok (.iload_n 1, 1) := by decide +kernel
theorem dJ9_min_7cf53_2 : decode cJ9_min_7cf53 2 = .ok (.if_icmp .gt 7, 3) := by decide +kernel
theorem dJ9_min_7cf53_5 : decode cJ9_min_7cf53 5 = .ok (.iload_n 0, 1) := by decide +kernel
theorem dJ9_min_7cf53_6 : decode cJ9_min_7cf53 6 = .ok (.goto 4, 3) := by decide +kernel
theorem dJ9_min_7cf53_9 : decode cJ9_min_7cf53 9 = .ok (.iload_n 1, 1) := by decide +kernel
theorem dJ9_min_7cf53_10 : decode cJ9_min_7cf53 10 = .ok (.ireturn, 1) := by decide +kernel
theorem dL_cell_0 : decode cL_cell 0 = .ok (.iload_n 1, 1) := by decide +kernel
theorem dL_cell_1 : decode cL_cell 1 = .ok (.aload_n 0, 1) := by decide +kernel
theorem dL_cell_2 : decode cL_cell 2 = .ok (.arraylength, 1) := by decide +kernel
theorem dL_cell_3 : decode cL_cell 3 = .ok (.if_icmp .ge 9, 3) := by decide +kernel
theorem dL_cell_6 : decode cL_cell 6 = .ok (.aload_n 0, 1) := by decide +kernel
theorem dL_cell_7 : decode cL_cell 7 = .ok (.iload_n 1, 1) := by decide +kernel
theorem dL_cell_8 : decode cL_cell 8 = .ok (.iaload, 1) := by decide +kernel
theorem dL_cell_9 : decode cL_cell 9 = .ok (.goto 9, 3) := by decide +kernel
theorem dL_cell_12 : decode cL_cell 12 = .ok (.ldc 7, 2) := by decide +kernel
theorem dL_cell_14 : decode cL_cell 14 = .ok (.iload_n 1, 1) := by decide +kernel
theorem dL_cell_15 : decode cL_cell 15 = .ok (.iconst 3, 1) := by decide +kernel
theorem dL_cell_16 : decode cL_cell 16 = .ok (.iadd, 1) := by decide +kernel
theorem dL_cell_17 : decode cL_cell 17 = .ok (.imul, 1) := by decide +kernel
theorem dL_cell_18 : decode cL_cell 18 = .ok (.ireturn, 1) := by decide +kernel
theorem dL_begins_0 : decode cL_begins 0 = .ok (.iconst 0, 1) := by decide +kernel
theorem dL_begins_1 : decode cL_begins 1 = .ok (.istore_n 3, 1) := by decide +kernel
theorem dL_begins_2 : decode cL_begins 2 = .ok (.bipush 6, 2) := by decide +kernel
theorem dL_begins_4 : decode cL_begins 4 = .ok (.iload_n 1, 1) := by decide +kernel
theorem dL_begins_5 : decode cL_begins 5 = .ok (.imul, 1) := by decide +kernel
theorem dL_begins_6 : decode cL_begins 6 = .ok (.istore 4, 2) := by decide +kernel
theorem dL_begins_8 : decode cL_begins 8 = .ok (.iload 4, 2) := by decide +kernel
theorem dL_begins_10 : decode cL_begins 10 = .ok (.bipush 6, 2) := by decide +kernel
theorem dL_begins_12 : decode cL_begins 12 = .ok (.iload_n 1, 1) := by decide +kernel
theorem dL_begins_13 : decode cL_begins 13 = .ok (.imul, 1) := by decide +kernel
theorem dL_begins_14 : decode cL_begins 14 = .ok (.iload_n 2, 1) := by decide +kernel
theorem dL_begins_15 : decode cL_begins 15 = .ok (.iadd, 1) := by decide +kernel
theorem dL_begins_16 : decode cL_begins 16 = .ok (.if_icmp .ge 19, 3) := by decide +kernel
theorem dL_begins_19 : decode cL_begins 19 = .ok (.iload_n 3, 1) := by decide +kernel
theorem dL_begins_20 : decode cL_begins 20 = .ok (.aload_n 0, 1) := by decide +kernel
theorem dL_begins_21 : decode cL_begins 21 = .ok (.iload 4, 2) := by decide +kernel
theorem dL_begins_23 : decode cL_begins 23 = .ok (.iaload, 1) := by decide +kernel
theorem dL_begins_24 : decode cL_begins 24 = .ok (.bipush 64, 2) := by decide +kernel
theorem dL_begins_26 : decode cL_begins 26 = .ok (.irem, 1) := by decide +kernel
theorem dL_begins_27 : decode cL_begins 27 = .ok (.iadd, 1) := by decide +kernel
theorem dL_begins_28 : decode cL_begins 28 = .ok (.istore_n 3, 1) := by decide +kernel
theorem dL_begins_29 : decode cL_begins 29 = .ok (.iinc 4 1, 3) := by decide +kernel
theorem dL_begins_32 : decode cL_begins 32 = .ok (.goto (-24), 3) := by decide +kernel
theorem dL_begins_35 : decode cL_begins 35 = .ok (.iload_n 3, 1) := by decide +kernel
theorem dL_begins_36 : decode cL_begins 36 = .ok (.ireturn, 1) := by decide +kernel
theorem dL_toward_0 : decode cL_toward 0 = .ok (.iload_n 1, 1) := by decide +kernel
theorem dL_toward_1 : decode cL_toward 1 = .ok (.iload_n 0, 1) := by decide +kernel
theorem dL_toward_2 : decode cL_toward 2 = .ok (.isub, 1) := by decide +kernel
theorem dL_toward_3 : decode cL_toward 3 = .ok (.istore_n 3, 1) := by decide +kernel
theorem dL_toward_4 : decode cL_toward 4 = .ok (.iload_n 3, 1) := by decide +kernel
theorem dL_toward_5 : decode cL_toward 5 = .ok (.iload_n 2, 1) := by decide +kernel
theorem dL_toward_6 : decode cL_toward 6 = .ok (.if_icmp .le 9, 3) := by decide +kernel
theorem dL_toward_9 : decode cL_toward 9 = .ok (.iload_n 0, 1) := by decide +kernel
theorem dL_toward_10 : decode cL_toward 10 = .ok (.iload_n 2, 1) := by decide +kernel
theorem dL_toward_11 : decode cL_toward 11 = .ok (.iadd, 1) := by decide +kernel
theorem dL_toward_12 : decode cL_toward 12 = .ok (.goto 16, 3) := by decide +kernel
theorem dL_toward_15 : decode cL_toward 15 = .ok (.iload_n 3, 1) := by decide +kernel
theorem dL_toward_16 : decode cL_toward 16 = .ok (.iload_n 2, 1) := by decide +kernel
theorem dL_toward_17 : decode cL_toward 17 = .ok (.ineg, 1) := by decide +kernel
theorem dL_toward_18 : decode cL_toward 18 = .ok (.if_icmp .ge 9, 3) := by decide +kernel
theorem dL_toward_21 : decode cL_toward 21 = .ok (.iload_n 0, 1) := by decide +kernel
theorem dL_toward_22 : decode cL_toward 22 = .ok (.iload_n 2, 1) := by decide +kernel
theorem dL_toward_23 : decode cL_toward 23 = .ok (.isub, 1) := by decide +kernel
theorem dL_toward_24 : decode cL_toward 24 = .ok (.goto 4, 3) := by decide +kernel
theorem dL_toward_27 : decode cL_toward 27 = .ok (.iload_n 1, 1) := by decide +kernel
theorem dL_toward_28 : decode cL_toward 28 = .ok (.ireturn, 1) := by decide +kernel
theorem dL_comes_0 : decode cL_comes 0 = .ok (.aload_n 1, 1) := by decide +kernel
theorem dL_comes_1 : decode cL_comes 1 = .ok (.iload 7, 2) := by decide +kernel
theorem dL_comes_3 : decode cL_comes 3 = .ok (.iaload, 1) := by decide +kernel
theorem dL_comes_4 : decode cL_comes 4 = .ok (.iconst 4, 1) := by decide +kernel
theorem dL_comes_5 : decode cL_comes 5 = .ok (.irem, 1) := by decide +kernel
theorem dL_comes_6 : decode cL_comes 6 = .ok (.istore 8, 2) := by decide +kernel
theorem dL_comes_8 : decode cL_comes 8 = .ok (.aload_n 1, 1) := by decide +kernel
theorem dL_comes_9 : decode cL_comes 9 = .ok (.iload 7, 2) := by decide +kernel
theorem dL_comes_11 : decode cL_comes 11 = .ok (.iaload, 1) := by decide +kernel
theorem dL_comes_12 : decode cL_comes 12 = .ok (.iconst 4, 1) := by decide +kernel
theorem dL_comes_13 : decode cL_comes 13 = .ok (.idiv, 1) := by decide +kernel
theorem dL_comes_14 : decode cL_comes 14 = .ok (.iconst 4, 1) := by decide +kernel
theorem dL_comes_15 : decode cL_comes 15 = .ok (.irem, 1) := by decide +kernel
theorem dL_comes_16 : decode cL_comes 16 = .ok (.istore 9, 2) := by decide +kernel
theorem dL_comes_18 : decode cL_comes 18 = .ok (.aload_n 1, 1) := by decide +kernel
theorem dL_comes_19 : decode cL_comes 19 = .ok (.iload 7, 2) := by decide +kernel
theorem dL_comes_21 : decode cL_comes 21 = .ok (.iaload, 1) := by decide +kernel
theorem dL_comes_22 : decode cL_comes 22 = .ok (.bipush 16, 2) := by decide +kernel
theorem dL_comes_24 : decode cL_comes 24 = .ok (.idiv, 1) := by decide +kernel
theorem dL_comes_25 : decode cL_comes 25 = .ok (.sipush 128, 3) := by decide +kernel
theorem dL_comes_28 : decode cL_comes 28 = .ok (.irem, 1) := by decide +kernel
theorem dL_comes_29 : decode cL_comes 29 = .ok (.istore 10, 2) := by decide +kernel
theorem dL_comes_31 : decode cL_comes 31 = .ok (.iload 8, 2) := by decide +kernel
theorem dL_comes_33 : decode cL_comes 33 = .ok (.iconst 2, 1) := by decide +kernel
theorem dL_comes_34 : decode cL_comes 34 = .ok (.if_icmp .ne 14, 3) := by decide +kernel
theorem dL_comes_37 : decode cL_comes 37 = .ok (.aload 4, 2) := by decide +kernel
theorem dL_comes_39 : decode cL_comes 39 = .ok (.iconst 2, 1) := by decide +kernel
theorem dL_comes_40 : decode cL_comes 40 = .ok (.iload 9, 2) := by decide +kernel
theorem dL_comes_42 : decode cL_comes 42 = .ok (.imul, 1) := by decide +kernel
theorem dL_comes_43 : decode cL_comes 43 = .ok (.iconst 1, 1) := by decide +kernel
theorem dL_comes_44 : decode cL_comes 44 = .ok (.iadd, 1) := by decide +kernel
theorem dL_comes_45 : decode cL_comes 45 = .ok (.iload 10, 2) := by decide +kernel
theorem dL_comes_47 : decode cL_comes 47 = .ok (.iastore, 1) := by decide +kernel
theorem dL_comes_48 : decode cL_comes 48 = .ok (.iload 8, 2) := by decide +kernel
theorem dL_comes_50 : decode cL_comes 50 = .ok (.iconst 1, 1) := by decide +kernel
theorem dL_comes_51 : decode cL_comes 51 = .ok (.if_icmp .ne 33, 3) := by decide +kernel
theorem dL_comes_54 : decode cL_comes 54 = .ok (.aload 5, 2) := by decide +kernel
theorem dL_comes_56 : decode cL_comes 56 = .ok (.aload_n 0, 1) := by decide +kernel
theorem dL_comes_57 : decode cL_comes 57 = .ok (.bipush 6, 2) := by decide +kernel
theorem dL_comes_59 : decode cL_comes 59 = .ok (.iaload, 1) := by decide +kernel
theorem dL_comes_60 : decode cL_comes 60 = .ok (.iload 9, 2) := by decide +kernel
theorem dL_comes_62 : decode cL_comes 62 = .ok (.iconst 4, 1) := by decide +kernel
theorem dL_comes_63 : decode cL_comes 63 = .ok (.iload 10, 2) := by decide +kernel
theorem dL_comes_65 : decode cL_comes 65 = .ok (.imul, 1) := by decide +kernel
theorem dL_comes_66 : decode cL_comes 66 = .ok (.iadd, 1) := by decide +kernel
theorem dL_comes_67 : decode cL_comes 67 = .ok (.sipush 512, 3) := by decide +kernel
theorem dL_comes_70 : decode cL_comes 70 = .ok (.aload_n 0, 1) := by decide +kernel
theorem dL_comes_71 : decode cL_comes 71 = .ok (.iconst 1, 1) := by decide +kernel
theorem dL_comes_72 : decode cL_comes 72 = .ok (.iaload, 1) := by decide +kernel
theorem dL_comes_73 : decode cL_comes 73 = .ok (.imul, 1) := by decide +kernel
theorem dL_comes_74 : decode cL_comes 74 = .ok (.iadd, 1) := by decide +kernel
theorem dL_comes_75 : decode cL_comes 75 = .ok (.iastore, 1) := by decide +kernel
theorem dL_comes_76 : decode cL_comes 76 = .ok (.aload_n 0, 1) := by decide +kernel
theorem dL_comes_77 : decode cL_comes 77 = .ok (.bipush 6, 2) := by decide +kernel
theorem dL_comes_79 : decode cL_comes 79 = .ok (.dup2, 1) := by decide +kernel
theorem dL_comes_80 : decode cL_comes 80 = .ok (.iaload, 1) := by decide +kernel
theorem dL_comes_81 : decode cL_comes 81 = .ok (.iconst 1, 1) := by decide +kernel
theorem dL_comes_82 : decode cL_comes 82 = .ok (.iadd, 1) := by decide +kernel
theorem dL_comes_83 : decode cL_comes 83 = .ok (.iastore, 1) := by decide +kernel
theorem dL_comes_84 : decode cL_comes 84 = .ok (.iload 8, 2) := by decide +kernel
theorem dL_comes_86 : decode cL_comes 86 = .ok (.ifCond .le 7, 3) := by decide +kernel
theorem dL_comes_89 : decode cL_comes 89 = .ok (.iconst 1, 1) := by decide +kernel
theorem dL_comes_90 : decode cL_comes 90 = .ok (.goto 40, 3) := by decide +kernel
theorem dL_comes_93 : decode cL_comes 93 = .ok (.aload_n 2, 1) := by decide +kernel
theorem dL_comes_94 : decode cL_comes 94 = .ok (.iconst 4, 1) := by decide +kernel
theorem dL_comes_95 : decode cL_comes 95 = .ok (.iload 9, 2) := by decide +kernel
theorem dL_comes_97 : decode cL_comes 97 = .ok (.imul, 1) := by decide +kernel
theorem dL_comes_98 : decode cL_comes 98 = .ok (.iconst 1, 1) := by decide +kernel
theorem dL_comes_99 : decode cL_comes 99 = .ok (.iadd, 1) := by decide +kernel
theorem dL_comes_100 : decode cL_comes 100 = .ok (.iaload, 1) := by decide +kernel
theorem dL_comes_101 : decode cL_comes 101 = .ok (.ifCond .le 7, 3) := by decide +kernel
theorem dL_comes_104 : decode cL_comes 104 = .ok (.iconst 2, 1) := by decide +kernel
theorem dL_comes_105 : decode cL_comes 105 = .ok (.goto 25, 3) := by decide +kernel
theorem dL_comes_108 : decode cL_comes 108 = .ok (.aload_n 2, 1) := by decide +kernel
theorem dL_comes_109 : decode cL_comes 109 = .ok (.iconst 4, 1) := by decide +kernel
theorem dL_comes_110 : decode cL_comes 110 = .ok (.iload 9, 2) := by decide +kernel
theorem dL_comes_112 : decode cL_comes 112 = .ok (.imul, 1) := by decide +kernel
theorem dL_comes_113 : decode cL_comes 113 = .ok (.iaload, 1) := by decide +kernel
theorem dL_comes_114 : decode cL_comes 114 = .ok (.aload_n 3, 1) := by decide +kernel
theorem dL_comes_115 : decode cL_comes 115 = .ok (.iload 9, 2) := by decide +kernel
theorem dL_comes_117 : decode cL_comes 117 = .ok (.iload 10, 2) := by decide +kernel
theorem dL_comes_119 : decode cL_comes 119 = .ok (.invokestatic 9, 3) := by decide +kernel
theorem dL_comes_122 : decode cL_comes 122 = .ok (.if_icmp .ne 7, 3) := by decide +kernel
theorem dL_comes_125 : decode cL_comes 125 = .ok (.iconst 1, 1) := by decide +kernel
theorem dL_comes_126 : decode cL_comes 126 = .ok (.goto 4, 3) := by decide +kernel
theorem dL_comes_129 : decode cL_comes 129 = .ok (.iconst 3, 1) := by decide +kernel
theorem dL_comes_130 : decode cL_comes 130 = .ok (.istore 11, 2) := by decide +kernel
theorem dL_comes_132 : decode cL_comes 132 = .ok (.iload 8, 2) := by decide +kernel
theorem dL_comes_134 : decode cL_comes 134 = .ok (.ifCond .ne 87, 3) := by decide +kernel
theorem dL_comes_137 : decode cL_comes 137 = .ok (.iload 11, 2) := by decide +kernel
theorem dL_comes_139 : decode cL_comes 139 = .ok (.iconst 1, 1) := by decide +kernel
theorem dL_comes_140 : decode cL_comes 140 = .ok (.if_icmp .ne 81, 3) := by decide +kernel
theorem dL_comes_143 : decode cL_comes 143 = .ok (.bipush 6, 2) := by decide +kernel
theorem dL_comes_145 : decode cL_comes 145 = .ok (.iload 9, 2) := by decide +kernel
theorem dL_comes_147 : decode cL_comes 147 = .ok (.imul, 1) := by decide +kernel
theorem dL_comes_148 : decode cL_comes 148 = .ok (.iload 10, 2) := by decide +kernel
theorem dL_comes_150 : decode cL_comes 150 = .ok (.iadd, 1) := by decide +kernel
theorem dL_comes_151 : decode cL_comes 151 = .ok (.istore 12, 2) := by decide +kernel
theorem dL_comes_153 : decode cL_comes 153 = .ok (.aload_n 2, 1) := by decide +kernel
theorem dL_comes_154 : decode cL_comes 154 = .ok (.iconst 4, 1) := by decide +kernel
theorem dL_comes_155 : decode cL_comes 155 = .ok (.iload 9, 2) := by decide +kernel
theorem dL_comes_157 : decode cL_comes 157 = .ok (.imul, 1) := by decide +kernel
theorem dL_comes_158 : decode cL_comes 158 = .ok (.iconst 1, 1) := by decide +kernel
theorem dL_comes_159 : decode cL_comes 159 = .ok (.iadd, 1) := by decide +kernel
theorem dL_comes_160 : decode cL_comes 160 = .ok (.iload 10, 2) := by decide +kernel
theorem dL_comes_162 : decode cL_comes 162 = .ok (.iconst 1, 1) := by decide +kernel
theorem dL_comes_163 : decode cL_comes 163 = .ok (.iadd, 1) := by decide +kernel
theorem dL_comes_164 : decode cL_comes 164 = .ok (.iastore, 1) := by decide +kernel
theorem dL_comes_165 : decode cL_comes 165 = .ok (.aload_n 2, 1) := by decide +kernel
theorem dL_comes_166 : decode cL_comes 166 = .ok (.iconst 4, 1) := by decide +kernel
theorem dL_comes_167 : decode cL_comes 167 = .ok (.iload 9, 2) := by decide +kernel
theorem dL_comes_169 : decode cL_comes 169 = .ok (.imul, 1) := by decide +kernel
theorem dL_comes_170 : decode cL_comes 170 = .ok (.iconst 2, 1) := by decide +kernel
theorem dL_comes_171 : decode cL_comes 171 = .ok (.iadd, 1) := by decide +kernel
theorem dL_comes_172 : decode cL_comes 172 = .ok (.aload_n 3, 1) := by decide +kernel
theorem dL_comes_173 : decode cL_comes 173 = .ok (.iload 12, 2) := by decide +kernel
theorem dL_comes_175 : decode cL_comes 175 = .ok (.iaload, 1) := by decide +kernel
theorem dL_comes_176 : decode cL_comes 176 = .ok (.bipush 64, 2) := by decide +kernel
theorem dL_comes_178 : decode cL_comes 178 = .ok (.irem, 1) := by decide +kernel
theorem dL_comes_179 : decode cL_comes 179 = .ok (.iastore, 1) := by decide +kernel
theorem dL_comes_180 : decode cL_comes 180 = .ok (.aload 6, 2) := by decide +kernel
theorem dL_comes_182 : decode cL_comes 182 = .ok (.aload_n 0, 1) := by decide +kernel
theorem dL_comes_183 : decode cL_comes 183 = .ok (.bipush 7, 2) := by decide +kernel
theorem dL_comes_185 : decode cL_comes 185 = .ok (.iaload, 1) := by decide +kernel
theorem dL_comes_186 : decode cL_comes 186 = .ok (.iload 12, 2) := by decide +kernel
theorem dL_comes_188 : decode cL_comes 188 = .ok (.iastore, 1) := by decide +kernel
theorem dL_comes_189 : decode cL_comes 189 = .ok (.aload_n 0, 1) := by decide +kernel
theorem dL_comes_190 : decode cL_comes 190 = .ok (.bipush 7, 2) := by decide +kernel
theorem dL_comes_192 : decode cL_comes 192 = .ok (.dup2, 1) := by decide +kernel
theorem dL_comes_193 : decode cL_comes 193 = .ok (.iaload, 1) := by decide +kernel
theorem dL_comes_194 : decode cL_comes 194 = .ok (.aload_n 3, 1) := by decide +kernel
theorem dL_comes_195 : decode cL_comes 195 = .ok (.iload 12, 2) := by decide +kernel
theorem dL_comes_197 : decode cL_comes 197 = .ok (.iaload, 1) := by decide +kernel
theorem dL_comes_198 : decode cL_comes 198 = .ok (.sipush 8192, 3) := by decide +kernel
theorem dL_comes_201 : decode cL_comes 201 = .ok (.if_icmp .ge 7, 3) := by decide +kernel
theorem dL_comes_204 : decode cL_comes 204 = .ok (.iconst 1, 1) := by decide +kernel
theorem dL_comes_205 : decode cL_comes 205 = .ok (.goto 4, 3) := by decide +kernel
theorem dL_comes_208 : decode cL_comes 208 = .ok (.iconst 0, 1) := by decide +kernel
theorem dL_comes_209 : decode cL_comes 209 = .ok (.iadd, 1) := by decide +kernel
theorem dL_comes_210 : decode cL_comes 210 = .ok (.iastore, 1) := by decide +kernel
theorem dL_comes_211 : decode cL_comes 211 = .ok (.aload_n 3, 1) := by decide +kernel
theorem dL_comes_212 : decode cL_comes 212 = .ok (.iload 12, 2) := by decide +kernel
theorem dL_comes_214 : decode cL_comes 214 = .ok (.dup2, 1) := by decide +kernel
theorem dL_comes_215 : decode cL_comes 215 = .ok (.iaload, 1) := by decide +kernel
theorem dL_comes_216 : decode cL_comes 216 = .ok (.sipush 8192, 3) := by decide +kernel
theorem dL_comes_219 : decode cL_comes 219 = .ok (.iadd, 1) := by decide +kernel
theorem dL_comes_220 : decode cL_comes 220 = .ok (.iastore, 1) := by decide +kernel
theorem dL_comes_221 : decode cL_comes 221 = .ok (.aload_n 1, 1) := by decide +kernel
theorem dL_comes_222 : decode cL_comes 222 = .ok (.iload 7, 2) := by decide +kernel
theorem dL_comes_224 : decode cL_comes 224 = .ok (.dup2, 1) := by decide +kernel
theorem dL_comes_225 : decode cL_comes 225 = .ok (.iaload, 1) := by decide +kernel
theorem dL_comes_226 : decode cL_comes 226 = .ok (.sipush 2048, 3) := by decide +kernel
theorem dL_comes_229 : decode cL_comes 229 = .ok (.iload 11, 2) := by decide +kernel
theorem dL_comes_231 : decode cL_comes 231 = .ok (.imul, 1) := by decide +kernel
theorem dL_comes_232 : decode cL_comes 232 = .ok (.iadd, 1) := by decide +kernel
theorem dL_comes_233 : decode cL_comes 233 = .ok (.iastore, 1) := by decide +kernel
theorem dL_comes_234 : decode cL_comes 234 = .ok (.iload 11, 2) := by decide +kernel
theorem dL_comes_236 : decode cL_comes 236 = .ok (.iconst 1, 1) := by decide +kernel
theorem dL_comes_237 : decode cL_comes 237 = .ok (.if_icmp .le 7, 3) := by decide +kernel
theorem dL_comes_240 : decode cL_comes 240 = .ok (.iconst 1, 1) := by decide +kernel
theorem dL_comes_241 : decode cL_comes 241 = .ok (.goto 4, 3) := by decide +kernel
theorem dL_comes_244 : decode cL_comes 244 = .ok (.iconst 0, 1) := by decide +kernel
theorem dL_comes_245 : decode cL_comes 245 = .ok (.ireturn, 1) := by decide +kernel
theorem dL_goes_0 : decode cL_goes 0 = .ok (.iconst 0, 1) := by decide +kernel
theorem dL_goes_1 : decode cL_goes 1 = .ok (.istore 9, 2) := by decide +kernel
theorem dL_goes_3 : decode cL_goes 3 = .ok (.iconst 0, 1) := by decide +kernel
theorem dL_goes_4 : decode cL_goes 4 = .ok (.istore 10, 2) := by decide +kernel
theorem dL_goes_6 : decode cL_goes 6 = .ok (.iload 10, 2) := by decide +kernel
theorem dL_goes_8 : decode cL_goes 8 = .ok (.aload_n 0, 1) := by decide +kernel
theorem dL_goes_9 : decode cL_goes 9 = .ok (.iconst 5, 1) := by decide +kernel
theorem dL_goes_10 : decode cL_goes 10 = .ok (.iaload, 1) := by decide +kernel
theorem dL_goes_11 : decode cL_goes 11 = .ok (.if_icmp .ge 54, 3) := by decide +kernel
theorem dL_goes_14 : decode cL_goes 14 = .ok (.iload 9, 2) := by decide +kernel
theorem dL_goes_16 : decode cL_goes 16 = .ok (.aload_n 1, 1) := by decide +kernel
theorem dL_goes_17 : decode cL_goes 17 = .ok (.iload 10, 2) := by decide +kernel
theorem dL_goes_19 : decode cL_goes 19 = .ok (.iaload, 1) := by decide +kernel
theorem dL_goes_20 : decode cL_goes 20 = .ok (.aload_n 0, 1) := by decide +kernel
theorem dL_goes_21 : decode cL_goes 21 = .ok (.iconst 4, 1) := by decide +kernel
theorem dL_goes_22 : decode cL_goes 22 = .ok (.iaload, 1) := by decide +kernel
theorem dL_goes_23 : decode cL_goes 23 = .ok (.if_icmp .ne 32, 3) := by decide +kernel
theorem dL_goes_26 : decode cL_goes 26 = .ok (.aload_n 2, 1) := by decide +kernel
theorem dL_goes_27 : decode cL_goes 27 = .ok (.iload 10, 2) := by decide +kernel
theorem dL_goes_29 : decode cL_goes 29 = .ok (.iaload, 1) := by decide +kernel
theorem dL_goes_30 : decode cL_goes 30 = .ok (.sipush 2048, 3) := by decide +kernel
theorem dL_goes_33 : decode cL_goes 33 = .ok (.if_icmp .ge 22, 3) := by decide +kernel
theorem dL_goes_36 : decode cL_goes 36 = .ok (.aload_n 0, 1) := by decide +kernel
theorem dL_goes_37 : decode cL_goes 37 = .ok (.aload_n 2, 1) := by decide +kernel
theorem dL_goes_38 : decode cL_goes 38 = .ok (.aload_n 3, 1) := by decide +kernel
theorem dL_goes_39 : decode cL_goes 39 = .ok (.aload 4, 2) := by decide +kernel
theorem dL_goes_41 : decode cL_goes 41 = .ok (.aload 5, 2) := by decide +kernel
theorem dL_goes_43 : decode cL_goes 43 = .ok (.aload 6, 2) := by decide +kernel
theorem dL_goes_45 : decode cL_goes 45 = .ok (.aload 7, 2) := by decide +kernel
theorem dL_goes_47 : decode cL_goes 47 = .ok (.iload 10, 2) := by decide +kernel
theorem dL_goes_49 : decode cL_goes 49 = .ok (.invokestatic 15, 3) := by decide +kernel
theorem dL_goes_52 : decode cL_goes 52 = .ok (.goto 4, 3) := by decide +kernel
theorem dL_goes_55 : decode cL_goes 55 = .ok (.iconst 0, 1) := by decide +kernel
theorem dL_goes_56 : decode cL_goes 56 = .ok (.iadd, 1) := by decide +kernel
theorem dL_goes_57 : decode cL_goes 57 = .ok (.istore 9, 2) := by decide +kernel
theorem dL_goes_59 : decode cL_goes 59 = .ok (.iinc 10 1, 3) := by decide +kernel
theorem dL_goes_62 : decode cL_goes 62 = .ok (.goto (-56), 3) := by decide +kernel
theorem dL_goes_65 : decode cL_goes 65 = .ok (.iconst 0, 1) := by decide +kernel
theorem dL_goes_66 : decode cL_goes 66 = .ok (.istore 10, 2) := by decide +kernel
theorem dL_goes_68 : decode cL_goes 68 = .ok (.iconst 0, 1) := by decide +kernel
theorem dL_goes_69 : decode cL_goes 69 = .ok (.istore 11, 2) := by decide +kernel
theorem dL_goes_71 : decode cL_goes 71 = .ok (.iload 11, 2) := by decide +kernel
theorem dL_goes_73 : decode cL_goes 73 = .ok (.iconst 4, 1) := by decide +kernel
theorem dL_goes_74 : decode cL_goes 74 = .ok (.if_icmp .ge 95, 3) := by decide +kernel
theorem dL_goes_77 : decode cL_goes 77 = .ok (.aload 5, 2) := by decide +kernel
theorem dL_goes_79 : decode cL_goes 79 = .ok (.iconst 2, 1) := by decide +kernel
theorem dL_goes_80 : decode cL_goes 80 = .ok (.iload 11, 2) := by decide +kernel
theorem dL_goes_82 : decode cL_goes 82 = .ok (.imul, 1) := by decide +kernel
theorem dL_goes_83 : decode cL_goes 83 = .ok (.aload 5, 2) := by decide +kernel
theorem dL_goes_85 : decode cL_goes 85 = .ok (.iconst 2, 1) := by decide +kernel
theorem dL_goes_86 : decode cL_goes 86 = .ok (.iload 11, 2) := by decide +kernel
theorem dL_goes_88 : decode cL_goes 88 = .ok (.imul, 1) := by decide +kernel
theorem dL_goes_89 : decode cL_goes 89 = .ok (.iaload, 1) := by decide +kernel
theorem dL_goes_90 : decode cL_goes 90 = .ok (.aload 5, 2) := by decide +kernel
theorem dL_goes_92 : decode cL_goes 92 = .ok (.iconst 2, 1) := by decide +kernel
theorem dL_goes_93 : decode cL_goes 93 = .ok (.iload 11, 2) := by decide +kernel
theorem dL_goes_95 : decode cL_goes 95 = .ok (.imul, 1) := by decide +kernel
theorem dL_goes_96 : decode cL_goes 96 = .ok (.iconst 1, 1) := by decide +kernel
theorem dL_goes_97 : decode cL_goes 97 = .ok (.iadd, 1) := by decide +kernel
theorem dL_goes_98 : decode cL_goes 98 = .ok (.iaload, 1) := by decide +kernel
theorem dL_goes_99 : decode cL_goes 99 = .ok (.aload_n 0, 1) := by decide +kernel
theorem dL_goes_100 : decode cL_goes 100 = .ok (.iconst 2, 1) := by decide +kernel
theorem dL_goes_101 : decode cL_goes 101 = .ok (.iaload, 1) := by decide +kernel
theorem dL_goes_102 : decode cL_goes 102 = .ok (.invokestatic 19, 3) := by decide +kernel
theorem dL_goes_105 : decode cL_goes 105 = .ok (.iastore, 1) := by decide +kernel
theorem dL_goes_106 : decode cL_goes 106 = .ok (.iload 10, 2) := by decide +kernel
theorem dL_goes_108 : decode cL_goes 108 = .ok (.aload_n 3, 1) := by decide +kernel
theorem dL_goes_109 : decode cL_goes 109 = .ok (.iconst 4, 1) := by decide +kernel
theorem dL_goes_110 : decode cL_goes 110 = .ok (.iload 11, 2) := by decide +kernel
theorem dL_goes_112 : decode cL_goes 112 = .ok (.imul, 1) := by decide +kernel
theorem dL_goes_113 : decode cL_goes 113 = .ok (.iconst 1, 1) := by decide +kernel
theorem dL_goes_114 : decode cL_goes 114 = .ok (.iadd, 1) := by decide +kernel
theorem dL_goes_115 : decode cL_goes 115 = .ok (.iaload, 1) := by decide +kernel
theorem dL_goes_116 : decode cL_goes 116 = .ok (.ifCond .le 43, 3) := by decide +kernel
theorem dL_goes_119 : decode cL_goes 119 = .ok (.aload 4, 2) := by decide +kernel
theorem dL_goes_121 : decode cL_goes 121 = .ok (.bipush 6, 2) := by decide +kernel
theorem dL_goes_123 : decode cL_goes 123 = .ok (.iload 11, 2) := by decide +kernel
theorem dL_goes_125 : decode cL_goes 125 = .ok (.imul, 1) := by decide +kernel
theorem dL_goes_126 : decode cL_goes 126 = .ok (.aload_n 3, 1) := by decide +kernel
theorem dL_goes_127 : decode cL_goes 127 = .ok (.iconst 4, 1) := by decide +kernel
theorem dL_goes_128 : decode cL_goes 128 = .ok (.iload 11, 2) := by decide +kernel
theorem dL_goes_130 : decode cL_goes 130 = .ok (.imul, 1) := by decide +kernel
theorem dL_goes_131 : decode cL_goes 131 = .ok (.iconst 1, 1) := by decide +kernel
theorem dL_goes_132 : decode cL_goes 132 = .ok (.iadd, 1) := by decide +kernel
theorem dL_goes_133 : decode cL_goes 133 = .ok (.iaload, 1) := by decide +kernel
theorem dL_goes_134 : decode cL_goes 134 = .ok (.iadd, 1) := by decide +kernel
theorem dL_goes_135 : decode cL_goes 135 = .ok (.iconst 1, 1) := by decide +kernel
theorem dL_goes_136 : decode cL_goes 136 = .ok (.isub, 1) := by decide +kernel
theorem dL_goes_137 : decode cL_goes 137 = .ok (.iaload, 1) := by decide +kernel
theorem dL_goes_138 : decode cL_goes 138 = .ok (.bipush 64, 2) := by decide +kernel
theorem dL_goes_140 : decode cL_goes 140 = .ok (.idiv, 1) := by decide +kernel
theorem dL_goes_141 : decode cL_goes 141 = .ok (.sipush 128, 3) := by decide +kernel
theorem dL_goes_144 : decode cL_goes 144 = .ok (.irem, 1) := by decide +kernel
theorem dL_goes_145 : decode cL_goes 145 = .ok (.aload 5, 2) := by decide +kernel
theorem dL_goes_147 : decode cL_goes 147 = .ok (.iconst 2, 1) := by decide +kernel
theorem dL_goes_148 : decode cL_goes 148 = .ok (.iload 11, 2) := by decide +kernel
theorem dL_goes_150 : decode cL_goes 150 = .ok (.imul, 1) := by decide +kernel
theorem dL_goes_151 : decode cL_goes 151 = .ok (.iaload, 1) := by decide +kernel
theorem dL_goes_152 : decode cL_goes 152 = .ok (.imul, 1) := by decide +kernel
theorem dL_goes_153 : decode cL_goes 153 = .ok (.bipush 50, 2) := by decide +kernel
theorem dL_goes_155 : decode cL_goes 155 = .ok (.idiv, 1) := by decide +kernel
theorem dL_goes_156 : decode cL_goes 156 = .ok (.goto 4, 3) := by decide +kernel
theorem dL_goes_159 : decode cL_goes 159 = .ok (.iconst 0, 1) := by decide +kernel
theorem dL_goes_160 : decode cL_goes 160 = .ok (.iadd, 1) := by decide +kernel
theorem dL_goes_161 : decode cL_goes 161 = .ok (.istore 10, 2) := by decide +kernel
theorem dL_goes_163 : decode cL_goes 163 = .ok (.iinc 11 1, 3) := by decide +kernel
theorem dL_goes_166 : decode cL_goes 166 = .ok (.goto (-95), 3) := by decide +kernel
theorem dL_goes_169 : decode cL_goes 169 = .ok (.iconst 0, 1) := by decide +kernel
theorem dL_goes_170 : decode cL_goes 170 = .ok (.istore 11, 2) := by decide +kernel
theorem dL_goes_172 : decode cL_goes 172 = .ok (.iconst 0, 1) := by decide +kernel
theorem dL_goes_173 : decode cL_goes 173 = .ok (.istore 12, 2) := by decide +kernel
theorem dL_goes_175 : decode cL_goes 175 = .ok (.iload 12, 2) := by decide +kernel
theorem dL_goes_177 : decode cL_goes 177 = .ok (.aload_n 0, 1) := by decide +kernel
theorem dL_goes_178 : decode cL_goes 178 = .ok (.bipush 6, 2) := by decide +kernel
theorem dL_goes_180 : decode cL_goes 180 = .ok (.iaload, 1) := by decide +kernel
theorem dL_goes_181 : decode cL_goes 181 = .ok (.if_icmp .ge 76, 3) := by decide +kernel
theorem dL_goes_184 : decode cL_goes 184 = .ok (.iload 10, 2) := by decide +kernel
theorem dL_goes_186 : decode cL_goes 186 = .ok (.aload 6, 2) := by decide +kernel
theorem dL_goes_188 : decode cL_goes 188 = .ok (.iload 12, 2) := by decide +kernel
theorem dL_goes_190 : decode cL_goes 190 = .ok (.iaload, 1) := by decide +kernel
theorem dL_goes_191 : decode cL_goes 191 = .ok (.iconst 4, 1) := by decide +kernel
theorem dL_goes_192 : decode cL_goes 192 = .ok (.idiv, 1) := by decide +kernel
theorem dL_goes_193 : decode cL_goes 193 = .ok (.sipush 128, 3) := by decide +kernel
theorem dL_goes_196 : decode cL_goes 196 = .ok (.irem, 1) := by decide +kernel
theorem dL_goes_197 : decode cL_goes 197 = .ok (.aload 5, 2) := by decide +kernel
theorem dL_goes_199 : decode cL_goes 199 = .ok (.iconst 2, 1) := by decide +kernel
theorem dL_goes_200 : decode cL_goes 200 = .ok (.aload 6, 2) := by decide +kernel
theorem dL_goes_202 : decode cL_goes 202 = .ok (.iload 12, 2) := by decide +kernel
theorem dL_goes_204 : decode cL_goes 204 = .ok (.iaload, 1) := by decide +kernel
theorem dL_goes_205 : decode cL_goes 205 = .ok (.iconst 4, 1) := by decide +kernel
theorem dL_goes_206 : decode cL_goes 206 = .ok (.irem, 1) := by decide +kernel
theorem dL_goes_207 : decode cL_goes 207 = .ok (.imul, 1) := by decide +kernel
theorem dL_goes_208 : decode cL_goes 208 = .ok (.iaload, 1) := by decide +kernel
theorem dL_goes_209 : decode cL_goes 209 = .ok (.imul, 1) := by decide +kernel
theorem dL_goes_210 : decode cL_goes 210 = .ok (.bipush 50, 2) := by decide +kernel
theorem dL_goes_212 : decode cL_goes 212 = .ok (.idiv, 1) := by decide +kernel
theorem dL_goes_213 : decode cL_goes 213 = .ok (.iadd, 1) := by decide +kernel
theorem dL_goes_214 : decode cL_goes 214 = .ok (.istore 10, 2) := by decide +kernel
theorem dL_goes_216 : decode cL_goes 216 = .ok (.aload 6, 2) := by decide +kernel
theorem dL_goes_218 : decode cL_goes 218 = .ok (.iload 11, 2) := by decide +kernel
theorem dL_goes_220 : decode cL_goes 220 = .ok (.aload 6, 2) := by decide +kernel
theorem dL_goes_222 : decode cL_goes 222 = .ok (.iload 12, 2) := by decide +kernel
theorem dL_goes_224 : decode cL_goes 224 = .ok (.iaload, 1) := by decide +kernel
theorem dL_goes_225 : decode cL_goes 225 = .ok (.sipush 512, 3) := by decide +kernel
theorem dL_goes_228 : decode cL_goes 228 = .ok (.isub, 1) := by decide +kernel
theorem dL_goes_229 : decode cL_goes 229 = .ok (.iastore, 1) := by decide +kernel
theorem dL_goes_230 : decode cL_goes 230 = .ok (.iload 11, 2) := by decide +kernel
theorem dL_goes_232 : decode cL_goes 232 = .ok (.aload 6, 2) := by decide +kernel
theorem dL_goes_234 : decode cL_goes 234 = .ok (.iload 11, 2) := by decide +kernel
theorem dL_goes_236 : decode cL_goes 236 = .ok (.iaload, 1) := by decide +kernel
theorem dL_goes_237 : decode cL_goes 237 = .ok (.sipush 512, 3) := by decide +kernel
theorem dL_goes_240 : decode cL_goes 240 = .ok (.if_icmp .ge 7, 3) := by decide +kernel
theorem dL_goes_243 : decode cL_goes 243 = .ok (.iconst 0, 1) := by decide +kernel
theorem dL_goes_244 : decode cL_goes 244 = .ok (.goto 4, 3) := by decide +kernel
theorem dL_goes_247 : decode cL_goes 247 = .ok (.iconst 1, 1) := by decide +kernel
theorem dL_goes_248 : decode cL_goes 248 = .ok (.iadd, 1) := by decide +kernel
theorem dL_goes_249 : decode cL_goes 249 = .ok (.istore 11, 2) := by decide +kernel
theorem dL_goes_251 : decode cL_goes 251 = .ok (.iinc 12 1, 3) := by decide +kernel
theorem dL_goes_254 : decode cL_goes 254 = .ok (.goto (-79), 3) := by decide +kernel
theorem dL_goes_257 : decode cL_goes 257 = .ok (.aload_n 0, 1) := by decide +kernel
theorem dL_goes_258 : decode cL_goes 258 = .ok (.bipush 6, 2) := by decide +kernel
theorem dL_goes_260 : decode cL_goes 260 = .ok (.iload 11, 2) := by decide +kernel
theorem dL_goes_262 : decode cL_goes 262 = .ok (.iastore, 1) := by decide +kernel
theorem dL_goes_263 : decode cL_goes 263 = .ok (.aload 8, 2) := by decide +kernel
theorem dL_goes_265 : decode cL_goes 265 = .ok (.aload_n 0, 1) := by decide +kernel
theorem dL_goes_266 : decode cL_goes 266 = .ok (.iconst 4, 1) := by decide +kernel
theorem dL_goes_267 : decode cL_goes 267 = .ok (.iaload, 1) := by decide +kernel
theorem dL_goes_268 : decode cL_goes 268 = .ok (.bipush 64, 2) := by decide +kernel
theorem dL_goes_270 : decode cL_goes 270 = .ok (.irem, 1) := by decide +kernel
theorem dL_goes_271 : decode cL_goes 271 = .ok (.iload 10, 2) := by decide +kernel
theorem dL_goes_273 : decode cL_goes 273 = .ok (.iastore, 1) := by decide +kernel
theorem dL_goes_274 : decode cL_goes 274 = .ok (.iconst 0, 1) := by decide +kernel
theorem dL_goes_275 : decode cL_goes 275 = .ok (.istore 12, 2) := by decide +kernel
theorem dL_goes_277 : decode cL_goes 277 = .ok (.iload 12, 2) := by decide +kernel
theorem dL_goes_279 : decode cL_goes 279 = .ok (.iconst 4, 1) := by decide +kernel
theorem dL_goes_280 : decode cL_goes 280 = .ok (.if_icmp .ge 134, 3) := by decide +kernel
theorem dL_goes_283 : decode cL_goes 283 = .ok (.aload_n 3, 1) := by decide +kernel
theorem dL_goes_284 : decode cL_goes 284 = .ok (.iconst 4, 1) := by decide +kernel
theorem dL_goes_285 : decode cL_goes 285 = .ok (.iload 12, 2) := by decide +kernel
theorem dL_goes_287 : decode cL_goes 287 = .ok (.imul, 1) := by decide +kernel
theorem dL_goes_288 : decode cL_goes 288 = .ok (.iconst 1, 1) := by decide +kernel
theorem dL_goes_289 : decode cL_goes 289 = .ok (.iadd, 1) := by decide +kernel
theorem dL_goes_290 : decode cL_goes 290 = .ok (.iaload, 1) := by decide +kernel
theorem dL_goes_291 : decode cL_goes 291 = .ok (.ifCond .le 56, 3) := by decide +kernel
theorem dL_goes_294 : decode cL_goes 294 = .ok (.aload_n 3, 1) := by decide +kernel
theorem dL_goes_295 : decode cL_goes 295 = .ok (.iconst 4, 1) := by decide +kernel
theorem dL_goes_296 : decode cL_goes 296 = .ok (.iload 12, 2) := by decide +kernel
theorem dL_goes_298 : decode cL_goes 298 = .ok (.imul, 1) := by decide +kernel
theorem dL_goes_299 : decode cL_goes 299 = .ok (.dup2, 1) := by decide +kernel
theorem dL_goes_300 : decode cL_goes 300 = .ok (.iaload, 1) := by decide +kernel
theorem dL_goes_301 : decode cL_goes 301 = .ok (.iconst 1, 1) := by decide +kernel
theorem dL_goes_302 : decode cL_goes 302 = .ok (.iadd, 1) := by decide +kernel
theorem dL_goes_303 : decode cL_goes 303 = .ok (.iastore, 1) := by decide +kernel
theorem dL_goes_304 : decode cL_goes 304 = .ok (.aload_n 3, 1) := by decide +kernel
theorem dL_goes_305 : decode cL_goes 305 = .ok (.iconst 4, 1) := by decide +kernel
theorem dL_goes_306 : decode cL_goes 306 = .ok (.iload 12, 2) := by decide +kernel
theorem dL_goes_308 : decode cL_goes 308 = .ok (.imul, 1) := by decide +kernel
theorem dL_goes_309 : decode cL_goes 309 = .ok (.iconst 2, 1) := by decide +kernel
theorem dL_goes_310 : decode cL_goes 310 = .ok (.iadd, 1) := by decide +kernel
theorem dL_goes_311 : decode cL_goes 311 = .ok (.dup2, 1) := by decide +kernel
theorem dL_goes_312 : decode cL_goes 312 = .ok (.iaload, 1) := by decide +kernel
theorem dL_goes_313 : decode cL_goes 313 = .ok (.iconst 1, 1) := by decide +kernel
theorem dL_goes_314 : decode cL_goes 314 = .ok (.isub, 1) := by decide +kernel
theorem dL_goes_315 : decode cL_goes 315 = .ok (.iastore, 1) := by decide +kernel
theorem dL_goes_316 : decode cL_goes 316 = .ok (.aload_n 3, 1) := by decide +kernel
theorem dL_goes_317 : decode cL_goes 317 = .ok (.iconst 4, 1) := by decide +kernel
theorem dL_goes_318 : decode cL_goes 318 = .ok (.iload 12, 2) := by decide +kernel
theorem dL_goes_320 : decode cL_goes 320 = .ok (.imul, 1) := by decide +kernel
theorem dL_goes_321 : decode cL_goes 321 = .ok (.iconst 1, 1) := by decide +kernel
theorem dL_goes_322 : decode cL_goes 322 = .ok (.iadd, 1) := by decide +kernel
theorem dL_goes_323 : decode cL_goes 323 = .ok (.aload_n 3, 1) := by decide +kernel
theorem dL_goes_324 : decode cL_goes 324 = .ok (.iconst 4, 1) := by decide +kernel
theorem dL_goes_325 : decode cL_goes 325 = .ok (.iload 12, 2) := by decide +kernel
theorem dL_goes_327 : decode cL_goes 327 = .ok (.imul, 1) := by decide +kernel
theorem dL_goes_328 : decode cL_goes 328 = .ok (.iconst 2, 1) := by decide +kernel
theorem dL_goes_329 : decode cL_goes 329 = .ok (.iadd, 1) := by decide +kernel
theorem dL_goes_330 : decode cL_goes 330 = .ok (.iaload, 1) := by decide +kernel
theorem dL_goes_331 : decode cL_goes 331 = .ok (.ifCond .le 14, 3) := by decide +kernel
theorem dL_goes_334 : decode cL_goes 334 = .ok (.aload_n 3, 1) := by decide +kernel
theorem dL_goes_335 : decode cL_goes 335 = .ok (.iconst 4, 1) := by decide +kernel
theorem dL_goes_336 : decode cL_goes 336 = .ok (.iload 12, 2) := by decide +kernel
theorem dL_goes_338 : decode cL_goes 338 = .ok (.imul, 1) := by decide +kernel
theorem dL_goes_339 : decode cL_goes 339 = .ok (.iconst 1, 1) := by decide +kernel
theorem dL_goes_340 : decode cL_goes 340 = .ok (.iadd, 1) := by decide +kernel
theorem dL_goes_341 : decode cL_goes 341 = .ok (.iaload, 1) := by decide +kernel
theorem dL_goes_342 : decode cL_goes 342 = .ok (.goto 4, 3) := by decide +kernel
theorem dL_goes_345 : decode cL_goes 345 = .ok (.iconst 0, 1) := by decide +kernel
theorem dL_goes_346 : decode cL_goes 346 = .ok (.iastore, 1) := by decide +kernel
theorem dL_goes_347 : decode cL_goes 347 = .ok (.aload_n 0, 1) := by decide +kernel
theorem dL_goes_348 : decode cL_goes 348 = .ok (.aload_n 2, 1) := by decide +kernel
theorem dL_goes_349 : decode cL_goes 349 = .ok (.iload 12, 2) := by decide +kernel
theorem dL_goes_351 : decode cL_goes 351 = .ok (.invokestatic 23, 3) := by decide +kernel
theorem dL_goes_354 : decode cL_goes 354 = .ok (.istore 13, 2) := by decide +kernel
theorem dL_goes_356 : decode cL_goes 356 = .ok (.aload_n 3, 1) := by decide +kernel
theorem dL_goes_357 : decode cL_goes 357 = .ok (.iconst 4, 1) := by decide +kernel
theorem dL_goes_358 : decode cL_goes 358 = .ok (.iload 12, 2) := by decide +kernel
theorem dL_goes_360 : decode cL_goes 360 = .ok (.imul, 1) := by decide +kernel
theorem dL_goes_361 : decode cL_goes 361 = .ok (.iconst 1, 1) := by decide +kernel
theorem dL_goes_362 : decode cL_goes 362 = .ok (.iadd, 1) := by decide +kernel
theorem dL_goes_363 : decode cL_goes 363 = .ok (.iaload, 1) := by decide +kernel
theorem dL_goes_364 : decode cL_goes 364 = .ok (.ifCond .ne 44, 3) := by decide +kernel
theorem dL_goes_367 : decode cL_goes 367 = .ok (.iload 13, 2) := by decide +kernel
theorem dL_goes_369 : decode cL_goes 369 = .ok (.ifCond .lt 39, 3) := by decide +kernel
theorem dL_goes_372 : decode cL_goes 372 = .ok (.aload_n 3, 1) := by decide +kernel
theorem dL_goes_373 : decode cL_goes 373 = .ok (.iconst 4, 1) := by decide +kernel
theorem dL_goes_374 : decode cL_goes 374 = .ok (.iload 12, 2) := by decide +kernel
theorem dL_goes_376 : decode cL_goes 376 = .ok (.imul, 1) := by decide +kernel
theorem dL_goes_377 : decode cL_goes 377 = .ok (.aload_n 3, 1) := by decide +kernel
theorem dL_goes_378 : decode cL_goes 378 = .ok (.iconst 4, 1) := by decide +kernel
theorem dL_goes_379 : decode cL_goes 379 = .ok (.iload 12, 2) := by decide +kernel
theorem dL_goes_381 : decode cL_goes 381 = .ok (.imul, 1) := by decide +kernel
theorem dL_goes_382 : decode cL_goes 382 = .ok (.iaload, 1) := by decide +kernel
theorem dL_goes_383 : decode cL_goes 383 = .ok (.aload 4, 2) := by decide +kernel
theorem dL_goes_385 : decode cL_goes 385 = .ok (.iload 12, 2) := by decide +kernel
theorem dL_goes_387 : decode cL_goes 387 = .ok (.aload_n 2, 1) := by decide +kernel
theorem dL_goes_388 : decode cL_goes 388 = .ok (.iload 13, 2) := by decide +kernel
theorem dL_goes_390 : decode cL_goes 390 = .ok (.iaload, 1) := by decide +kernel
theorem dL_goes_391 : decode cL_goes 391 = .ok (.bipush 16, 2) := by decide +kernel
theorem dL_goes_393 : decode cL_goes 393 = .ok (.idiv, 1) := by decide +kernel
theorem dL_goes_394 : decode cL_goes 394 = .ok (.sipush 128, 3) := by decide +kernel
theorem dL_goes_397 : decode cL_goes 397 = .ok (.irem, 1) := by decide +kernel
theorem dL_goes_398 : decode cL_goes 398 = .ok (.invokestatic 9, 3) := by decide +kernel
theorem dL_goes_401 : decode cL_goes 401 = .ok (.aload_n 0, 1) := by decide +kernel
theorem dL_goes_402 : decode cL_goes 402 = .ok (.iconst 0, 1) := by decide +kernel
theorem dL_goes_403 : decode cL_goes 403 = .ok (.iaload, 1) := by decide +kernel
theorem dL_goes_404 : decode cL_goes 404 = .ok (.invokestatic 19, 3) := by decide +kernel
theorem dL_goes_407 : decode cL_goes 407 = .ok (.iastore, 1) := by decide +kernel
theorem dL_goes_408 : decode cL_goes 408 = .ok (.iinc 12 1, 3) := by decide +kernel
theorem dL_goes_411 : decode cL_goes 411 = .ok (.goto (-134), 3) := by decide +kernel
theorem dL_goes_414 : decode cL_goes 414 = .ok (.aload_n 0, 1) := by decide +kernel
theorem dL_goes_415 : decode cL_goes 415 = .ok (.iconst 4, 1) := by decide +kernel
theorem dL_goes_416 : decode cL_goes 416 = .ok (.dup2, 1) := by decide +kernel
theorem dL_goes_417 : decode cL_goes 417 = .ok (.iaload, 1) := by decide +kernel
theorem dL_goes_418 : decode cL_goes 418 = .ok (.iconst 1, 1) := by decide +kernel
theorem dL_goes_419 : decode cL_goes 419 = .ok (.iadd, 1) := by decide +kernel
theorem dL_goes_420 : decode cL_goes 420 = .ok (.iastore, 1) := by decide +kernel
theorem dL_goes_421 : decode cL_goes 421 = .ok (.iload 9, 2) := by decide +kernel
theorem dL_goes_423 : decode cL_goes 423 = .ok (.ireturn, 1) := by decide +kernel
theorem dL_nextOf_0 : decode cL_nextOf 0 = .ok (.iconst 0, 1) := by decide +kernel
theorem dL_nextOf_1 : decode cL_nextOf 1 = .ok (.istore_n 3, 1) := by decide +kernel
theorem dL_nextOf_2 : decode cL_nextOf 2 = .ok (.iload_n 3, 1) := by decide +kernel
theorem dL_nextOf_3 : decode cL_nextOf 3 = .ok (.aload_n 0, 1) := by decide +kernel
theorem dL_nextOf_4 : decode cL_nextOf 4 = .ok (.iconst 5, 1) := by decide +kernel
theorem dL_nextOf_5 : decode cL_nextOf 5 = .ok (.iaload, 1) := by decide +kernel
theorem dL_nextOf_6 : decode cL_nextOf 6 = .ok (.if_icmp .ge 32, 3) := by decide +kernel
theorem dL_nextOf_9 : decode cL_nextOf 9 = .ok (.aload_n 1, 1) := by decide +kernel
theorem dL_nextOf_10 : decode cL_nextOf 10 = .ok (.iload_n 3, 1) := by decide +kernel
theorem dL_nextOf_11 : decode cL_nextOf 11 = .ok (.iaload, 1) := by decide +kernel
theorem dL_nextOf_12 : decode cL_nextOf 12 = .ok (.sipush 2048, 3) := by decide +kernel
theorem dL_nextOf_15 : decode cL_nextOf 15 = .ok (.if_icmp .ge 17, 3) := by decide +kernel
theorem dL_nextOf_18 : decode cL_nextOf 18 = .ok (.aload_n 1, 1) := by decide +kernel
theorem dL_nextOf_19 : decode cL_nextOf 19 = .ok (.iload_n 3, 1) := by decide +kernel
theorem dL_nextOf_20 : decode cL_nextOf 20 = .ok (.iaload, 1) := by decide +kernel
theorem dL_nextOf_21 : decode cL_nextOf 21 = .ok (.bipush 16, 2) := by decide +kernel
theorem dL_nextOf_23 : decode cL_nextOf 23 = .ok (.irem, 1) := by decide +kernel
theorem dL_nextOf_24 : decode cL_nextOf 24 = .ok (.iconst 4, 1) := by decide +kernel
theorem dL_nextOf_25 : decode cL_nextOf 25 = .ok (.iload_n 2, 1) := by decide +kernel
theorem dL_nextOf_26 : decode cL_nextOf 26 = .ok (.imul, 1) := by decide +kernel
theorem dL_nextOf_27 : decode cL_nextOf 27 = .ok (.if_icmp .ne 5, 3) := by decide +kernel
theorem dL_nextOf_30 : decode cL_nextOf 30 = .ok (.iload_n 3, 1) := by decide +kernel
theorem dL_nextOf_31 : decode cL_nextOf 31 = .ok (.ireturn, 1) := by decide +kernel
theorem dL_nextOf_32 : decode cL_nextOf 32 = .ok (.iinc 3 1, 3) := by decide +kernel
theorem dL_nextOf_35 : decode cL_nextOf 35 = .ok (.goto (-33), 3) := by decide +kernel
theorem dL_nextOf_38 : decode cL_nextOf 38 = .ok (.bipush (-6), 2) := by decide +kernel
theorem dL_nextOf_40 : decode cL_nextOf 40 = .ok (.ireturn, 1) := by decide +kernel
theorem dL_insert_0 : decode cL_insert 0 = .ok (.aload_n 0, 1) := by decide +kernel
theorem dL_insert_1 : decode cL_insert 1 = .ok (.iconst 5, 1) := by decide +kernel
theorem dL_insert_2 : decode cL_insert 2 = .ok (.iaload, 1) := by decide +kernel
theorem dL_insert_3 : decode cL_insert 3 = .ok (.istore 6, 2) := by decide +kernel
theorem dL_insert_5 : decode cL_insert 5 = .ok (.iload 6, 2) := by decide +kernel
theorem dL_insert_7 : decode cL_insert 7 = .ok (.iload_n 3, 1) := by decide +kernel
theorem dL_insert_8 : decode cL_insert 8 = .ok (.if_icmp .le 29, 3) := by decide +kernel
theorem dL_insert_11 : decode cL_insert 11 = .ok (.aload_n 1, 1) := by decide +kernel
theorem dL_insert_12 : decode cL_insert 12 = .ok (.iload 6, 2) := by decide +kernel
theorem dL_insert_14 : decode cL_insert 14 = .ok (.aload_n 1, 1) := by decide +kernel
theorem dL_insert_15 : decode cL_insert 15 = .ok (.iload 6, 2) := by decide +kernel
theorem dL_insert_17 : decode cL_insert 17 = .ok (.iconst 1, 1) := by decide +kernel
theorem dL_insert_18 : decode cL_insert 18 = .ok (.isub, 1) := by decide +kernel
theorem dL_insert_19 : decode cL_insert 19 = .ok (.iaload, 1) := by decide +kernel
theorem dL_insert_20 : decode cL_insert 20 = .ok (.iastore, 1) := by decide +kernel
theorem dL_insert_21 : decode cL_insert 21 = .ok (.aload_n 2, 1) := by decide +kernel
theorem dL_insert_22 : decode cL_insert 22 = .ok (.iload 6, 2) := by decide +kernel
theorem dL_insert_24 : decode cL_insert 24 = .ok (.aload_n 2, 1) := by decide +kernel
theorem dL_insert_25 : decode cL_insert 25 = .ok (.iload 6, 2) := by decide +kernel
theorem dL_insert_27 : decode cL_insert 27 = .ok (.iconst 1, 1) := by decide +kernel
theorem dL_insert_28 : decode cL_insert 28 = .ok (.isub, 1) := by decide +kernel
theorem dL_insert_29 : decode cL_insert 29 = .ok (.iaload, 1) := by decide +kernel
theorem dL_insert_30 : decode cL_insert 30 = .ok (.iastore, 1) := by decide +kernel
theorem dL_insert_31 : decode cL_insert 31 = .ok (.iinc 6 (-1), 3) := by decide +kernel
theorem dL_insert_34 : decode cL_insert 34 = .ok (.goto (-29), 3) := by decide +kernel
theorem dL_insert_37 : decode cL_insert 37 = .ok (.aload_n 1, 1) := by decide +kernel
theorem dL_insert_38 : decode cL_insert 38 = .ok (.iload_n 3, 1) := by decide +kernel
theorem dL_insert_39 : decode cL_insert 39 = .ok (.iload 4, 2) := by decide +kernel
theorem dL_insert_41 : decode cL_insert 41 = .ok (.iastore, 1) := by decide +kernel
theorem dL_insert_42 : decode cL_insert 42 = .ok (.aload_n 2, 1) := by decide +kernel
theorem dL_insert_43 : decode cL_insert 43 = .ok (.iload_n 3, 1) := by decide +kernel
theorem dL_insert_44 : decode cL_insert 44 = .ok (.iload 5, 2) := by decide +kernel
theorem dL_insert_46 : decode cL_insert 46 = .ok (.iastore, 1) := by decide +kernel
theorem dL_insert_47 : decode cL_insert 47 = .ok (.aload_n 0, 1) := by decide +kernel
theorem dL_insert_48 : decode cL_insert 48 = .ok (.iconst 5, 1) := by decide +kernel
theorem dL_insert_49 : decode cL_insert 49 = .ok (.dup2, 1) := by decide +kernel
theorem dL_insert_50 : decode cL_insert 50 = .ok (.iaload, 1) := by decide +kernel
theorem dL_insert_51 : decode cL_insert 51 = .ok (.iconst 1, 1) := by decide +kernel
theorem dL_insert_52 : decode cL_insert 52 = .ok (.iadd, 1) := by decide +kernel
theorem dL_insert_53 : decode cL_insert 53 = .ok (.iastore, 1) := by decide +kernel
theorem dL_insert_54 : decode cL_insert 54 = .ok (.return_, 1) := by decide +kernel
theorem dL_take_0 : decode cL_take 0 = .ok (.aload_n 0, 1) := by decide +kernel
theorem dL_take_1 : decode cL_take 1 = .ok (.iconst 5, 1) := by decide +kernel
theorem dL_take_2 : decode cL_take 2 = .ok (.dup2, 1) := by decide +kernel
theorem dL_take_3 : decode cL_take 3 = .ok (.iaload, 1) := by decide +kernel
theorem dL_take_4 : decode cL_take 4 = .ok (.iconst 1, 1) := by decide +kernel
theorem dL_take_5 : decode cL_take 5 = .ok (.isub, 1) := by decide +kernel
theorem dL_take_6 : decode cL_take 6 = .ok (.iastore, 1) := by decide +kernel
theorem dL_take_7 : decode cL_take 7 = .ok (.iload_n 3, 1) := by decide +kernel
theorem dL_take_8 : decode cL_take 8 = .ok (.istore 4, 2) := by decide +kernel
theorem dL_take_10 : decode cL_take 10 = .ok (.iload 4, 2) := by decide +kernel
theorem dL_take_12 : decode cL_take 12 = .ok (.aload_n 0, 1) := by decide +kernel
theorem dL_take_13 : decode cL_take 13 = .ok (.iconst 5, 1) := by decide +kernel
theorem dL_take_14 : decode cL_take 14 = .ok (.iaload, 1) := by decide +kernel
theorem dL_take_15 : decode cL_take 15 = .ok (.if_icmp .ge 29, 3) := by decide +kernel
theorem dL_take_18 : decode cL_take 18 = .ok (.aload_n 1, 1) := by decide +kernel
theorem dL_take_19 : decode cL_take 19 = .ok (.iload 4, 2) := by decide +kernel
theorem dL_take_21 : decode cL_take 21 = .ok (.aload_n 1, 1) := by decide +kernel
theorem dL_take_22 : decode cL_take 22 = .ok (.iload 4, 2) := by decide +kernel
theorem dL_take_24 : decode cL_take 24 = .ok (.iconst 1, 1) := by decide +kernel
theorem dL_take_25 : decode cL_take 25 = .ok (.iadd, 1) := by decide +kernel
theorem dL_take_26 : decode cL_take 26 = .ok (.iaload, 1) := by decide +kernel
theorem dL_take_27 : decode cL_take 27 = .ok (.iastore, 1) := by decide +kernel
theorem dL_take_28 : decode cL_take 28 = .ok (.aload_n 2, 1) := by decide +kernel
theorem dL_take_29 : decode cL_take 29 = .ok (.iload 4, 2) := by decide +kernel
theorem dL_take_31 : decode cL_take 31 = .ok (.aload_n 2, 1) := by decide +kernel
theorem dL_take_32 : decode cL_take 32 = .ok (.iload 4, 2) := by decide +kernel
theorem dL_take_34 : decode cL_take 34 = .ok (.iconst 1, 1) := by decide +kernel
theorem dL_take_35 : decode cL_take 35 = .ok (.iadd, 1) := by decide +kernel
theorem dL_take_36 : decode cL_take 36 = .ok (.iaload, 1) := by decide +kernel
theorem dL_take_37 : decode cL_take 37 = .ok (.iastore, 1) := by decide +kernel
theorem dL_take_38 : decode cL_take 38 = .ok (.iinc 4 1, 3) := by decide +kernel
theorem dL_take_41 : decode cL_take 41 = .ok (.goto (-31), 3) := by decide +kernel
theorem dL_take_44 : decode cL_take 44 = .ok (.return_, 1) := by decide +kernel
theorem dL_rankFor_0 : decode cL_rankFor 0 = .ok (.iconst 0, 1) := by decide +kernel
theorem dL_rankFor_1 : decode cL_rankFor 1 = .ok (.istore_n 3, 1) := by decide +kernel
theorem dL_rankFor_2 : decode cL_rankFor 2 = .ok (.iload_n 3, 1) := by decide +kernel
theorem dL_rankFor_3 : decode cL_rankFor 3 = .ok (.aload_n 0, 1) := by decide +kernel
theorem dL_rankFor_4 : decode cL_rankFor 4 = .ok (.iconst 5, 1) := by decide +kernel
theorem dL_rankFor_5 : decode cL_rankFor 5 = .ok (.iaload, 1) := by decide +kernel
theorem dL_rankFor_6 : decode cL_rankFor 6 = .ok (.if_icmp .ge 16, 3) := by decide +kernel
theorem dL_rankFor_9 : decode cL_rankFor 9 = .ok (.aload_n 1, 1) := by decide +kernel
theorem dL_rankFor_10 : decode cL_rankFor 10 = .ok (.iload_n 3, 1) := by decide +kernel
theorem dL_rankFor_11 : decode cL_rankFor 11 = .ok (.iaload, 1) := by decide +kernel
theorem dL_rankFor_12 : decode cL_rankFor 12 = .ok (.iload_n 2, 1) := by decide +kernel
theorem dL_rankFor_13 : decode cL_rankFor 13 = .ok (.if_icmp .gt 9, 3) := by decide +kernel
theorem dL_rankFor_16 : decode cL_rankFor 16 = .ok (.iinc 3 1, 3) := by decide +kernel
theorem dL_rankFor_19 : decode cL_rankFor 19 = .ok (.goto (-17), 3) := by decide +kernel
theorem dL_rankFor_22 : decode cL_rankFor 22 = .ok (.iload_n 3, 1) := by decide +kernel
theorem dL_rankFor_23 : decode cL_rankFor 23 = .ok (.ireturn, 1) := by decide +kernel
theorem dL_areCues_0 : decode cL_areCues 0 = .ok (.iconst 4, 1) := by decide +kernel
theorem dL_areCues_1 : decode cL_areCues 1 = .ok (.newarray .int, 2) := by decide +kernel
theorem dL_areCues_3 : decode cL_areCues 3 = .ok (.astore 4, 2) := by decide +kernel
theorem dL_areCues_5 : decode cL_areCues 5 = .ok (.aload_n 0, 1) := by decide +kernel
theorem dL_areCues_6 : decode cL_areCues 6 = .ok (.aload_n 1, 1) := by decide +kernel
theorem dL_areCues_7 : decode cL_areCues 7 = .ok (.iconst 5, 1) := by decide +kernel
theorem dL_areCues_8 : decode cL_areCues 8 = .ok (.iaload, 1) := by decide +kernel
theorem dL_areCues_9 : decode cL_areCues 9 = .ok (.iconst 0, 1) := by decide +kernel
theorem dL_areCues_10 : decode cL_areCues 10 = .ok (.invokevirtual 27, 3) := by decide +kernel
theorem dL_areCues_13 : decode cL_areCues 13 = .ok (.iconst (-1), 1) := by decide +kernel
theorem dL_areCues_14 : decode cL_areCues 14 = .ok (.if_icmp .ne 17, 3) := by decide +kernel
theorem dL_areCues_17 : decode cL_areCues 17 = .ok (.aload_n 0, 1) := by decide +kernel
theorem dL_areCues_18 : decode cL_areCues 18 = .ok (.iconst (-1), 1) := by decide +kernel
theorem dL_areCues_19 : decode cL_areCues 19 = .ok (.iconst 0, 1) := by decide +kernel
theorem dL_areCues_20 : decode cL_areCues 20 = .ok (.invokevirtual 27, 3) := by decide +kernel
theorem dL_areCues_23 : decode cL_areCues 23 = .ok (.iconst (-1), 1) := by decide +kernel
theorem dL_areCues_24 : decode cL_areCues 24 = .ok (.if_icmp .ne 7, 3) := by decide +kernel
theorem dL_areCues_27 : decode cL_areCues 27 = .ok (.iconst 1, 1) := by decide +kernel
theorem dL_areCues_28 : decode cL_areCues 28 = .ok (.goto 4, 3) := by decide +kernel
theorem dL_areCues_31 : decode cL_areCues 31 = .ok (.iconst 0, 1) := by decide +kernel
theorem dL_areCues_32 : decode cL_areCues 32 = .ok (.istore 5, 2) := by decide +kernel
theorem dL_areCues_34 : decode cL_areCues 34 = .ok (.iconst 0, 1) := by decide +kernel
theorem dL_areCues_35 : decode cL_areCues 35 = .ok (.istore 6, 2) := by decide +kernel
theorem dL_areCues_37 : decode cL_areCues 37 = .ok (.iload 6, 2) := by decide +kernel
theorem dL_areCues_39 : decode cL_areCues 39 = .ok (.aload_n 1, 1) := by decide +kernel
theorem dL_areCues_40 : decode cL_areCues 40 = .ok (.iconst 5, 1) := by decide +kernel
theorem dL_areCues_41 : decode cL_areCues 41 = .ok (.iaload, 1) := by decide +kernel
theorem dL_areCues_42 : decode cL_areCues 42 = .ok (.if_icmp .ge 150, 3) := by decide +kernel
theorem dL_areCues_45 : decode cL_areCues 45 = .ok (.iload 5, 2) := by decide +kernel
theorem dL_areCues_47 : decode cL_areCues 47 = .ok (.ifCond .eq 145, 3) := by decide +kernel
theorem dL_areCues_50 : decode cL_areCues 50 = .ok (.aload_n 0, 1) := by decide +kernel
theorem dL_areCues_51 : decode cL_areCues 51 = .ok (.iload 6, 2) := by decide +kernel
theorem dL_areCues_53 : decode cL_areCues 53 = .ok (.iconst 0, 1) := by decide +kernel
theorem dL_areCues_54 : decode cL_areCues 54 = .ok (.invokevirtual 27, 3) := by decide +kernel
theorem dL_areCues_57 : decode cL_areCues 57 = .ok (.aload_n 2, 1) := by decide +kernel
theorem dL_areCues_58 : decode cL_areCues 58 = .ok (.iload 6, 2) := by decide +kernel
theorem dL_areCues_60 : decode cL_areCues 60 = .ok (.iaload, 1) := by decide +kernel
theorem dL_areCues_61 : decode cL_areCues 61 = .ok (.if_icmp .ne 107, 3) := by decide +kernel
theorem dL_areCues_64 : decode cL_areCues 64 = .ok (.aload_n 0, 1) := by decide +kernel
theorem dL_areCues_65 : decode cL_areCues 65 = .ok (.iload 6, 2) := by decide +kernel
theorem dL_areCues_67 : decode cL_areCues 67 = .ok (.iconst 1, 1) := by decide +kernel
theorem dL_areCues_68 : decode cL_areCues 68 = .ok (.invokevirtual 27, 3) := by decide +kernel
theorem dL_areCues_71 : decode cL_areCues 71 = .ok (.aload_n 3, 1) := by decide +kernel
theorem dL_areCues_72 : decode cL_areCues 72 = .ok (.iload 6, 2) := by decide +kernel
theorem dL_areCues_74 : decode cL_areCues 74 = .ok (.iaload, 1) := by decide +kernel
theorem dL_areCues_75 : decode cL_areCues 75 = .ok (.iconst 4, 1) := by decide +kernel
theorem dL_areCues_76 : decode cL_areCues 76 = .ok (.irem, 1) := by decide +kernel
theorem dL_areCues_77 : decode cL_areCues 77 = .ok (.if_icmp .ne 91, 3) := by decide +kernel
theorem dL_areCues_80 : decode cL_areCues 80 = .ok (.aload_n 0, 1) := by decide +kernel
theorem dL_areCues_81 : decode cL_areCues 81 = .ok (.iload 6, 2) := by decide +kernel
theorem dL_areCues_83 : decode cL_areCues 83 = .ok (.iconst 2, 1) := by decide +kernel
theorem dL_areCues_84 : decode cL_areCues 84 = .ok (.invokevirtual 27, 3) := by decide +kernel
theorem dL_areCues_87 : decode cL_areCues 87 = .ok (.aload_n 3, 1) := by decide +kernel
theorem dL_areCues_88 : decode cL_areCues 88 = .ok (.iload 6, 2) := by decide +kernel
theorem dL_areCues_90 : decode cL_areCues 90 = .ok (.iaload, 1) := by decide +kernel
theorem dL_areCues_91 : decode cL_areCues 91 = .ok (.iconst 4, 1) := by decide +kernel
theorem dL_areCues_92 : decode cL_areCues 92 = .ok (.idiv, 1) := by decide +kernel
theorem dL_areCues_93 : decode cL_areCues 93 = .ok (.iconst 4, 1) := by decide +kernel
theorem dL_areCues_94 : decode cL_areCues 94 = .ok (.irem, 1) := by decide +kernel
theorem dL_areCues_95 : decode cL_areCues 95 = .ok (.if_icmp .ne 73, 3) := by decide +kernel
theorem dL_areCues_98 : decode cL_areCues 98 = .ok (.aload_n 0, 1) := by decide +kernel
theorem dL_areCues_99 : decode cL_areCues 99 = .ok (.iload 6, 2) := by decide +kernel
theorem dL_areCues_101 : decode cL_areCues 101 = .ok (.iconst 3, 1) := by decide +kernel
theorem dL_areCues_102 : decode cL_areCues 102 = .ok (.invokevirtual 27, 3) := by decide +kernel
theorem dL_areCues_105 : decode cL_areCues 105 = .ok (.aload_n 3, 1) := by decide +kernel
theorem dL_areCues_106 : decode cL_areCues 106 = .ok (.iload 6, 2) := by decide +kernel
theorem dL_areCues_108 : decode cL_areCues 108 = .ok (.iaload, 1) := by decide +kernel
theorem dL_areCues_109 : decode cL_areCues 109 = .ok (.bipush 16, 2) := by decide +kernel
theorem dL_areCues_111 : decode cL_areCues 111 = .ok (.idiv, 1) := by decide +kernel
theorem dL_areCues_112 : decode cL_areCues 112 = .ok (.sipush 128, 3) := by decide +kernel
theorem dL_areCues_115 : decode cL_areCues 115 = .ok (.irem, 1) := by decide +kernel
theorem dL_areCues_116 : decode cL_areCues 116 = .ok (.if_icmp .ne 52, 3) := by decide +kernel
theorem dL_areCues_119 : decode cL_areCues 119 = .ok (.aload_n 0, 1) := by decide +kernel
theorem dL_areCues_120 : decode cL_areCues 120 = .ok (.iload 6, 2) := by decide +kernel
theorem dL_areCues_122 : decode cL_areCues 122 = .ok (.iconst 4, 1) := by decide +kernel
theorem dL_areCues_123 : decode cL_areCues 123 = .ok (.invokevirtual 27, 3) := by decide +kernel
theorem dL_areCues_126 : decode cL_areCues 126 = .ok (.aload_n 3, 1) := by decide +kernel
theorem dL_areCues_127 : decode cL_areCues 127 = .ok (.iload 6, 2) := by decide +kernel
theorem dL_areCues_129 : decode cL_areCues 129 = .ok (.iaload, 1) := by decide +kernel
theorem dL_areCues_130 : decode cL_areCues 130 = .ok (.sipush 2048, 3) := by decide +kernel
theorem dL_areCues_133 : decode cL_areCues 133 = .ok (.idiv, 1) := by decide +kernel
theorem dL_areCues_134 : decode cL_areCues 134 = .ok (.if_icmp .ne 34, 3) := by decide +kernel
theorem dL_areCues_137 : decode cL_areCues 137 = .ok (.aload_n 3, 1) := by decide +kernel
theorem dL_areCues_138 : decode cL_areCues 138 = .ok (.iload 6, 2) := by decide +kernel
theorem dL_areCues_140 : decode cL_areCues 140 = .ok (.iaload, 1) := by decide +kernel
theorem dL_areCues_141 : decode cL_areCues 141 = .ok (.sipush 2048, 3) := by decide +kernel
theorem dL_areCues_144 : decode cL_areCues 144 = .ok (.if_icmp .lt 20, 3) := by decide +kernel
theorem dL_areCues_147 : decode cL_areCues 147 = .ok (.aload_n 0, 1) := by decide +kernel
theorem dL_areCues_148 : decode cL_areCues 148 = .ok (.iload 6, 2) := by decide +kernel
theorem dL_areCues_150 : decode cL_areCues 150 = .ok (.invokevirtual 33, 3) := by decide +kernel
theorem dL_areCues_153 : decode cL_areCues 153 = .ok (.aload_n 3, 1) := by decide +kernel
theorem dL_areCues_154 : decode cL_areCues 154 = .ok (.iload 6, 2) := by decide +kernel
theorem dL_areCues_156 : decode cL_areCues 156 = .ok (.iaload, 1) := by decide +kernel
theorem dL_areCues_157 : decode cL_areCues 157 = .ok (.sipush 2048, 3) := by decide +kernel
theorem dL_areCues_160 : decode cL_areCues 160 = .ok (.idiv, 1) := by decide +kernel
theorem dL_areCues_161 : decode cL_areCues 161 = .ok (.if_icmp .ne 7, 3) := by decide +kernel
theorem dL_areCues_164 : decode cL_areCues 164 = .ok (.iconst 1, 1) := by decide +kernel
theorem dL_areCues_165 : decode cL_areCues 165 = .ok (.goto 4, 3) := by decide +kernel
theorem dL_areCues_168 : decode cL_areCues 168 = .ok (.iconst 0, 1) := by decide +kernel
theorem dL_areCues_169 : decode cL_areCues 169 = .ok (.istore 5, 2) := by decide +kernel
theorem dL_areCues_171 : decode cL_areCues 171 = .ok (.aload 4, 2) := by decide +kernel
theorem dL_areCues_173 : decode cL_areCues 173 = .ok (.aload_n 3, 1) := by decide +kernel
theorem dL_areCues_174 : decode cL_areCues 174 = .ok (.iload 6, 2) := by decide +kernel
theorem dL_areCues_176 : decode cL_areCues 176 = .ok (.iaload, 1) := by decide +kernel
theorem dL_areCues_177 : decode cL_areCues 177 = .ok (.sipush 2048, 3) := by decide +kernel
theorem dL_areCues_180 : decode cL_areCues 180 = .ok (.idiv, 1) := by decide +kernel
theorem dL_areCues_181 : decode cL_areCues 181 = .ok (.dup2, 1) := by decide +kernel
theorem dL_areCues_182 : decode cL_areCues 182 = .ok (.iaload, 1) := by decide +kernel
theorem dL_areCues_183 : decode cL_areCues 183 = .ok (.iconst 1, 1) := by decide +kernel
theorem dL_areCues_184 : decode cL_areCues 184 = .ok (.iadd, 1) := by decide +kernel
theorem dL_areCues_185 : decode cL_areCues 185 = .ok (.iastore, 1) := by decide +kernel
theorem dL_areCues_186 : decode cL_areCues 186 = .ok (.iinc 6 1, 3) := by decide +kernel
theorem dL_areCues_189 : decode cL_areCues 189 = .ok (.goto (-152), 3) := by decide +kernel
theorem dL_areCues_192 : decode cL_areCues 192 = .ok (.iload 5, 2) := by decide +kernel
theorem dL_areCues_194 : decode cL_areCues 194 = .ok (.ifCond .eq 125, 3) := by decide +kernel
theorem dL_areCues_197 : decode cL_areCues 197 = .ok (.aload_n 0, 1) := by decide +kernel
theorem dL_areCues_198 : decode cL_areCues 198 = .ok (.iconst 0, 1) := by decide +kernel
theorem dL_areCues_199 : decode cL_areCues 199 = .ok (.invokevirtual 37, 3) := by decide +kernel
theorem dL_areCues_202 : decode cL_areCues 202 = .ok (.aload_n 1, 1) := by decide +kernel
theorem dL_areCues_203 : decode cL_areCues 203 = .ok (.iconst 4, 1) := by decide +kernel
theorem dL_areCues_204 : decode cL_areCues 204 = .ok (.iaload, 1) := by decide +kernel
theorem dL_areCues_205 : decode cL_areCues 205 = .ok (.if_icmp .ne 114, 3) := by decide +kernel
theorem dL_areCues_208 : decode cL_areCues 208 = .ok (.aload_n 0, 1) := by decide +kernel
theorem dL_areCues_209 : decode cL_areCues 209 = .ok (.iconst 1, 1) := by decide +kernel
theorem dL_areCues_210 : decode cL_areCues 210 = .ok (.invokevirtual 37, 3) := by decide +kernel
theorem dL_areCues_213 : decode cL_areCues 213 = .ok (.aload_n 1, 1) := by decide +kernel
theorem dL_areCues_214 : decode cL_areCues 214 = .ok (.iconst 5, 1) := by decide +kernel
theorem dL_areCues_215 : decode cL_areCues 215 = .ok (.iaload, 1) := by decide +kernel
theorem dL_areCues_216 : decode cL_areCues 216 = .ok (.if_icmp .ne 103, 3) := by decide +kernel
theorem dL_areCues_219 : decode cL_areCues 219 = .ok (.aload_n 0, 1) := by decide +kernel
theorem dL_areCues_220 : decode cL_areCues 220 = .ok (.iconst 2, 1) := by decide +kernel
theorem dL_areCues_221 : decode cL_areCues 221 = .ok (.invokevirtual 37, 3) := by decide +kernel
theorem dL_areCues_224 : decode cL_areCues 224 = .ok (.aload 4, 2) := by decide +kernel
theorem dL_areCues_226 : decode cL_areCues 226 = .ok (.iconst 0, 1) := by decide +kernel
theorem dL_areCues_227 : decode cL_areCues 227 = .ok (.iaload, 1) := by decide +kernel
theorem dL_areCues_228 : decode cL_areCues 228 = .ok (.if_icmp .ne 91, 3) := by decide +kernel
theorem dL_areCues_231 : decode cL_areCues 231 = .ok (.aload_n 0, 1) := by decide +kernel
theorem dL_areCues_232 : decode cL_areCues 232 = .ok (.iconst 3, 1) := by decide +kernel
theorem dL_areCues_233 : decode cL_areCues 233 = .ok (.invokevirtual 37, 3) := by decide +kernel
theorem dL_areCues_236 : decode cL_areCues 236 = .ok (.aload 4, 2) := by decide +kernel
theorem dL_areCues_238 : decode cL_areCues 238 = .ok (.iconst 1, 1) := by decide +kernel
theorem dL_areCues_239 : decode cL_areCues 239 = .ok (.iaload, 1) := by decide +kernel
theorem dL_areCues_240 : decode cL_areCues 240 = .ok (.if_icmp .ne 79, 3) := by decide +kernel
theorem dL_areCues_243 : decode cL_areCues 243 = .ok (.aload_n 0, 1) := by decide +kernel
theorem dL_areCues_244 : decode cL_areCues 244 = .ok (.iconst 4, 1) := by decide +kernel
theorem dL_areCues_245 : decode cL_areCues 245 = .ok (.invokevirtual 37, 3) := by decide +kernel
theorem dL_areCues_248 : decode cL_areCues 248 = .ok (.aload 4, 2) := by decide +kernel
theorem dL_areCues_250 : decode cL_areCues 250 = .ok (.iconst 2, 1) := by decide +kernel
theorem dL_areCues_251 : decode cL_areCues 251 = .ok (.iaload, 1) := by decide +kernel
theorem dL_areCues_252 : decode cL_areCues 252 = .ok (.if_icmp .ne 67, 3) := by decide +kernel
theorem dL_areCues_255 : decode cL_areCues 255 = .ok (.aload_n 0, 1) := by decide +kernel
theorem dL_areCues_256 : decode cL_areCues 256 = .ok (.iconst 5, 1) := by decide +kernel
theorem dL_areCues_257 : decode cL_areCues 257 = .ok (.invokevirtual 37, 3) := by decide +kernel
theorem dL_areCues_260 : decode cL_areCues 260 = .ok (.aload 4, 2) := by decide +kernel
theorem dL_areCues_262 : decode cL_areCues 262 = .ok (.iconst 3, 1) := by decide +kernel
theorem dL_areCues_263 : decode cL_areCues 263 = .ok (.iaload, 1) := by decide +kernel
theorem dL_areCues_264 : decode cL_areCues 264 = .ok (.if_icmp .ne 55, 3) := by decide +kernel
theorem dL_areCues_267 : decode cL_areCues 267 = .ok (.aload_n 0, 1) := by decide +kernel
theorem dL_areCues_268 : decode cL_areCues 268 = .ok (.bipush 9, 2) := by decide +kernel
theorem dL_areCues_270 : decode cL_areCues 270 = .ok (.invokevirtual 37, 3) := by decide +kernel
theorem dL_areCues_273 : decode cL_areCues 273 = .ok (.aload_n 1, 1) := by decide +kernel
theorem dL_areCues_274 : decode cL_areCues 274 = .ok (.iconst 0, 1) := by decide +kernel
theorem dL_areCues_275 : decode cL_areCues 275 = .ok (.iaload, 1) := by decide +kernel
theorem dL_areCues_276 : decode cL_areCues 276 = .ok (.if_icmp .ne 43, 3) := by decide +kernel
theorem dL_areCues_279 : decode cL_areCues 279 = .ok (.aload_n 0, 1) := by decide +kernel
theorem dL_areCues_280 : decode cL_areCues 280 = .ok (.bipush 10, 2) := by decide +kernel
theorem dL_areCues_282 : decode cL_areCues 282 = .ok (.invokevirtual 37, 3) := by decide +kernel
theorem dL_areCues_285 : decode cL_areCues 285 = .ok (.aload_n 1, 1) := by decide +kernel
theorem dL_areCues_286 : decode cL_areCues 286 = .ok (.iconst 1, 1) := by decide +kernel
theorem dL_areCues_287 : decode cL_areCues 287 = .ok (.iaload, 1) := by decide +kernel
theorem dL_areCues_288 : decode cL_areCues 288 = .ok (.if_icmp .ne 31, 3) := by decide +kernel
theorem dL_areCues_291 : decode cL_areCues 291 = .ok (.aload_n 0, 1) := by decide +kernel
theorem dL_areCues_292 : decode cL_areCues 292 = .ok (.bipush 11, 2) := by decide +kernel
theorem dL_areCues_294 : decode cL_areCues 294 = .ok (.invokevirtual 37, 3) := by decide +kernel
theorem dL_areCues_297 : decode cL_areCues 297 = .ok (.aload_n 1, 1) := by decide +kernel
theorem dL_areCues_298 : decode cL_areCues 298 = .ok (.iconst 2, 1) := by decide +kernel
theorem dL_areCues_299 : decode cL_areCues 299 = .ok (.iaload, 1) := by decide +kernel
theorem dL_areCues_300 : decode cL_areCues 300 = .ok (.if_icmp .ne 19, 3) := by decide +kernel
theorem dL_areCues_303 : decode cL_areCues 303 = .ok (.aload_n 0, 1) := by decide +kernel
theorem dL_areCues_304 : decode cL_areCues 304 = .ok (.bipush 12, 2) := by decide +kernel
theorem dL_areCues_306 : decode cL_areCues 306 = .ok (.invokevirtual 37, 3) := by decide +kernel
theorem dL_areCues_309 : decode cL_areCues 309 = .ok (.aload_n 1, 1) := by decide +kernel
theorem dL_areCues_310 : decode cL_areCues 310 = .ok (.iconst 3, 1) := by decide +kernel
theorem dL_areCues_311 : decode cL_areCues 311 = .ok (.iaload, 1) := by decide +kernel
theorem dL_areCues_312 : decode cL_areCues 312 = .ok (.if_icmp .ne 7, 3) := by decide +kernel
theorem dL_areCues_315 : decode cL_areCues 315 = .ok (.iconst 1, 1) := by decide +kernel
theorem dL_areCues_316 : decode cL_areCues 316 = .ok (.goto 4, 3) := by decide +kernel
theorem dL_areCues_319 : decode cL_areCues 319 = .ok (.iconst 0, 1) := by decide +kernel
theorem dL_areCues_320 : decode cL_areCues 320 = .ok (.ireturn, 1) := by decide +kernel
theorem dL_areReels_0 : decode cL_areReels 0 = .ok (.iconst 0, 1) := by decide +kernel
theorem dL_areReels_1 : decode cL_areReels 1 = .ok (.istore 8, 2) := by decide +kernel
theorem dL_areReels_3 : decode cL_areReels 3 = .ok (.aload_n 0, 1) := by decide +kernel
theorem dL_areReels_4 : decode cL_areReels 4 = .ok (.aload_n 1, 1) := by decide +kernel
theorem dL_areReels_5 : decode cL_areReels 5 = .ok (.bipush 7, 2) := by decide +kernel
theorem dL_areReels_7 : decode cL_areReels 7 = .ok (.iaload, 1) := by decide +kernel
theorem dL_areReels_8 : decode cL_areReels 8 = .ok (.iconst 0, 1) := by decide +kernel
theorem dL_areReels_9 : decode cL_areReels 9 = .ok (.invokevirtual 40, 3) := by decide +kernel
theorem dL_areReels_12 : decode cL_areReels 12 = .ok (.iconst (-1), 1) := by decide +kernel
theorem dL_areReels_13 : decode cL_areReels 13 = .ok (.if_icmp .ne 7, 3) := by decide +kernel
theorem dL_areReels_16 : decode cL_areReels 16 = .ok (.iconst 1, 1) := by decide +kernel
theorem dL_areReels_17 : decode cL_areReels 17 = .ok (.goto 4, 3) := by decide +kernel
theorem dL_areReels_20 : decode cL_areReels 20 = .ok (.iconst 0, 1) := by decide +kernel
theorem dL_areReels_21 : decode cL_areReels 21 = .ok (.istore 9, 2) := by decide +kernel
theorem dL_areReels_23 : decode cL_areReels 23 = .ok (.iconst 0, 1) := by decide +kernel
theorem dL_areReels_24 : decode cL_areReels 24 = .ok (.istore 10, 2) := by decide +kernel
theorem dL_areReels_26 : decode cL_areReels 26 = .ok (.iload 10, 2) := by decide +kernel
theorem dL_areReels_28 : decode cL_areReels 28 = .ok (.iconst 4, 1) := by decide +kernel
theorem dL_areReels_29 : decode cL_areReels 29 = .ok (.if_icmp .ge 395, 3) := by decide +kernel
theorem dL_areReels_32 : decode cL_areReels 32 = .ok (.iload 9, 2) := by decide +kernel
theorem dL_areReels_34 : decode cL_areReels 34 = .ok (.ifCond .eq 390, 3) := by decide +kernel
theorem dL_areReels_37 : decode cL_areReels 37 = .ok (.aload_n 3, 1) := by decide +kernel
theorem dL_areReels_38 : decode cL_areReels 38 = .ok (.iconst 4, 1) := by decide +kernel
theorem dL_areReels_39 : decode cL_areReels 39 = .ok (.iload 10, 2) := by decide +kernel
theorem dL_areReels_41 : decode cL_areReels 41 = .ok (.imul, 1) := by decide +kernel
theorem dL_areReels_42 : decode cL_areReels 42 = .ok (.iconst 3, 1) := by decide +kernel
theorem dL_areReels_43 : decode cL_areReels 43 = .ok (.iadd, 1) := by decide +kernel
theorem dL_areReels_44 : decode cL_areReels 44 = .ok (.iaload, 1) := by decide +kernel
theorem dL_areReels_45 : decode cL_areReels 45 = .ok (.istore 11, 2) := by decide +kernel
theorem dL_areReels_47 : decode cL_areReels 47 = .ok (.iconst 0, 1) := by decide +kernel
theorem dL_areReels_48 : decode cL_areReels 48 = .ok (.istore 12, 2) := by decide +kernel
theorem dL_areReels_50 : decode cL_areReels 50 = .ok (.iconst 0, 1) := by decide +kernel
theorem dL_areReels_51 : decode cL_areReels 51 = .ok (.istore 13, 2) := by decide +kernel
theorem dL_areReels_53 : decode cL_areReels 53 = .ok (.iload 13, 2) := by decide +kernel
theorem dL_areReels_55 : decode cL_areReels 55 = .ok (.aload_n 1, 1) := by decide +kernel
theorem dL_areReels_56 : decode cL_areReels 56 = .ok (.bipush 6, 2) := by decide +kernel
theorem dL_areReels_58 : decode cL_areReels 58 = .ok (.iaload, 1) := by decide +kernel
theorem dL_areReels_59 : decode cL_areReels 59 = .ok (.if_icmp .ge 31, 3) := by decide +kernel
theorem dL_areReels_62 : decode cL_areReels 62 = .ok (.iload 12, 2) := by decide +kernel
theorem dL_areReels_64 : decode cL_areReels 64 = .ok (.aload 6, 2) := by decide +kernel
theorem dL_areReels_66 : decode cL_areReels 66 = .ok (.iload 13, 2) := by decide +kernel
theorem dL_areReels_68 : decode cL_areReels 68 = .ok (.iaload, 1) := by decide +kernel
theorem dL_areReels_69 : decode cL_areReels 69 = .ok (.iconst 4, 1) := by decide +kernel
theorem dL_areReels_70 : decode cL_areReels 70 = .ok (.irem, 1) := by decide +kernel
theorem dL_areReels_71 : decode cL_areReels 71 = .ok (.iload 10, 2) := by decide +kernel
theorem dL_areReels_73 : decode cL_areReels 73 = .ok (.if_icmp .ne 7, 3) := by decide +kernel
theorem dL_areReels_76 : decode cL_areReels 76 = .ok (.iconst 1, 1) := by decide +kernel
theorem dL_areReels_77 : decode cL_areReels 77 = .ok (.goto 4, 3) := by decide +kernel
theorem dL_areReels_80 : decode cL_areReels 80 = .ok (.iconst 0, 1) := by decide +kernel
theorem dL_areReels_81 : decode cL_areReels 81 = .ok (.iadd, 1) := by decide +kernel
theorem dL_areReels_82 : decode cL_areReels 82 = .ok (.istore 12, 2) := by decide +kernel
theorem dL_areReels_84 : decode cL_areReels 84 = .ok (.iinc 13 1, 3) := by decide +kernel
theorem dL_areReels_87 : decode cL_areReels 87 = .ok (.goto (-34), 3) := by decide +kernel
theorem dL_areReels_90 : decode cL_areReels 90 = .ok (.iload 8, 2) := by decide +kernel
theorem dL_areReels_92 : decode cL_areReels 92 = .ok (.aload_n 3, 1) := by decide +kernel
theorem dL_areReels_93 : decode cL_areReels 93 = .ok (.iconst 4, 1) := by decide +kernel
theorem dL_areReels_94 : decode cL_areReels 94 = .ok (.iload 10, 2) := by decide +kernel
theorem dL_areReels_96 : decode cL_areReels 96 = .ok (.imul, 1) := by decide +kernel
theorem dL_areReels_97 : decode cL_areReels 97 = .ok (.iconst 1, 1) := by decide +kernel
theorem dL_areReels_98 : decode cL_areReels 98 = .ok (.iadd, 1) := by decide +kernel
theorem dL_areReels_99 : decode cL_areReels 99 = .ok (.iaload, 1) := by decide +kernel
theorem dL_areReels_100 : decode cL_areReels 100 = .ok (.ifCond .le 10, 3) := by decide +kernel
theorem dL_areReels_103 : decode cL_areReels 103 = .ok (.iconst 1, 1) := by decide +kernel
theorem dL_areReels_104 : decode cL_areReels 104 = .ok (.iload 10, 2) := by decide +kernel
theorem dL_areReels_106 : decode cL_areReels 106 = .ok (.ishl, 1) := by decide +kernel
theorem dL_areReels_107 : decode cL_areReels 107 = .ok (.goto 4, 3) := by decide +kernel
theorem dL_areReels_110 : decode cL_areReels 110 = .ok (.iconst 0, 1) := by decide +kernel
theorem dL_areReels_111 : decode cL_areReels 111 = .ok (.ior, 1) := by decide +kernel
theorem dL_areReels_112 : decode cL_areReels 112 = .ok (.istore 8, 2) := by decide +kernel
theorem dL_areReels_114 : decode cL_areReels 114 = .ok (.aload_n 0, 1) := by decide +kernel
theorem dL_areReels_115 : decode cL_areReels 115 = .ok (.iload 10, 2) := by decide +kernel
theorem dL_areReels_117 : decode cL_areReels 117 = .ok (.iconst 0, 1) := by decide +kernel
theorem dL_areReels_118 : decode cL_areReels 118 = .ok (.invokevirtual 43, 3) := by decide +kernel
theorem dL_areReels_121 : decode cL_areReels 121 = .ok (.aload_n 3, 1) := by decide +kernel
theorem dL_areReels_122 : decode cL_areReels 122 = .ok (.iconst 4, 1) := by decide +kernel
theorem dL_areReels_123 : decode cL_areReels 123 = .ok (.iload 10, 2) := by decide +kernel
theorem dL_areReels_125 : decode cL_areReels 125 = .ok (.imul, 1) := by decide +kernel
theorem dL_areReels_126 : decode cL_areReels 126 = .ok (.iaload, 1) := by decide +kernel
theorem dL_areReels_127 : decode cL_areReels 127 = .ok (.if_icmp .ne 170, 3) := by decide +kernel
theorem dL_areReels_130 : decode cL_areReels 130 = .ok (.aload_n 0, 1) := by decide +kernel
theorem dL_areReels_131 : decode cL_areReels 131 = .ok (.iload 10, 2) := by decide +kernel
theorem dL_areReels_133 : decode cL_areReels 133 = .ok (.iconst 1, 1) := by decide +kernel
theorem dL_areReels_134 : decode cL_areReels 134 = .ok (.invokevirtual 43, 3) := by decide +kernel
theorem dL_areReels_137 : decode cL_areReels 137 = .ok (.aload_n 3, 1) := by decide +kernel
theorem dL_areReels_138 : decode cL_areReels 138 = .ok (.iconst 4, 1) := by decide +kernel
theorem dL_areReels_139 : decode cL_areReels 139 = .ok (.iload 10, 2) := by decide +kernel
theorem dL_areReels_141 : decode cL_areReels 141 = .ok (.imul, 1) := by decide +kernel
theorem dL_areReels_142 : decode cL_areReels 142 = .ok (.iconst 1, 1) := by decide +kernel
theorem dL_areReels_143 : decode cL_areReels 143 = .ok (.iadd, 1) := by decide +kernel
theorem dL_areReels_144 : decode cL_areReels 144 = .ok (.iaload, 1) := by decide +kernel
theorem dL_areReels_145 : decode cL_areReels 145 = .ok (.ifCond .le 16, 3) := by decide +kernel
theorem dL_areReels_148 : decode cL_areReels 148 = .ok (.aload_n 3, 1) := by decide +kernel
theorem dL_areReels_149 : decode cL_areReels 149 = .ok (.iconst 4, 1) := by decide +kernel
theorem dL_areReels_150 : decode cL_areReels 150 = .ok (.iload 10, 2) := by decide +kernel
theorem dL_areReels_152 : decode cL_areReels 152 = .ok (.imul, 1) := by decide +kernel
theorem dL_areReels_153 : decode cL_areReels 153 = .ok (.iconst 1, 1) := by decide +kernel
theorem dL_areReels_154 : decode cL_areReels 154 = .ok (.iadd, 1) := by decide +kernel
theorem dL_areReels_155 : decode cL_areReels 155 = .ok (.iaload, 1) := by decide +kernel
theorem dL_areReels_156 : decode cL_areReels 156 = .ok (.iconst 1, 1) := by decide +kernel
theorem dL_areReels_157 : decode cL_areReels 157 = .ok (.isub, 1) := by decide +kernel
theorem dL_areReels_158 : decode cL_areReels 158 = .ok (.goto 5, 3) := by decide +kernel
theorem dL_areReels_161 : decode cL_areReels 161 = .ok (.bipush (-6), 2) := by decide +kernel
theorem dL_areReels_163 : decode cL_areReels 163 = .ok (.if_icmp .ne 134, 3) := by decide +kernel
theorem dL_areReels_166 : decode cL_areReels 166 = .ok (.aload_n 0, 1) := by decide +kernel
theorem dL_areReels_167 : decode cL_areReels 167 = .ok (.iload 10, 2) := by decide +kernel
theorem dL_areReels_169 : decode cL_areReels 169 = .ok (.iconst 2, 1) := by decide +kernel
theorem dL_areReels_170 : decode cL_areReels 170 = .ok (.invokevirtual 43, 3) := by decide +kernel
theorem dL_areReels_173 : decode cL_areReels 173 = .ok (.aload_n 3, 1) := by decide +kernel
theorem dL_areReels_174 : decode cL_areReels 174 = .ok (.iconst 4, 1) := by decide +kernel
theorem dL_areReels_175 : decode cL_areReels 175 = .ok (.iload 10, 2) := by decide +kernel
theorem dL_areReels_177 : decode cL_areReels 177 = .ok (.imul, 1) := by decide +kernel
theorem dL_areReels_178 : decode cL_areReels 178 = .ok (.iconst 2, 1) := by decide +kernel
theorem dL_areReels_179 : decode cL_areReels 179 = .ok (.iadd, 1) := by decide +kernel
theorem dL_areReels_180 : decode cL_areReels 180 = .ok (.iaload, 1) := by decide +kernel
theorem dL_areReels_181 : decode cL_areReels 181 = .ok (.if_icmp .ne 116, 3) := by decide +kernel
theorem dL_areReels_184 : decode cL_areReels 184 = .ok (.aload_n 0, 1) := by decide +kernel
theorem dL_areReels_185 : decode cL_areReels 185 = .ok (.iload 10, 2) := by decide +kernel
theorem dL_areReels_187 : decode cL_areReels 187 = .ok (.iconst 3, 1) := by decide +kernel
theorem dL_areReels_188 : decode cL_areReels 188 = .ok (.invokevirtual 43, 3) := by decide +kernel
theorem dL_areReels_191 : decode cL_areReels 191 = .ok (.iload 11, 2) := by decide +kernel
theorem dL_areReels_193 : decode cL_areReels 193 = .ok (.if_icmp .ne 104, 3) := by decide +kernel
theorem dL_areReels_196 : decode cL_areReels 196 = .ok (.aload_n 0, 1) := by decide +kernel
theorem dL_areReels_197 : decode cL_areReels 197 = .ok (.iload 10, 2) := by decide +kernel
theorem dL_areReels_199 : decode cL_areReels 199 = .ok (.iconst 4, 1) := by decide +kernel
theorem dL_areReels_200 : decode cL_areReels 200 = .ok (.invokevirtual 43, 3) := by decide +kernel
theorem dL_areReels_203 : decode cL_areReels 203 = .ok (.aload 4, 2) := by decide +kernel
theorem dL_areReels_205 : decode cL_areReels 205 = .ok (.iload 10, 2) := by decide +kernel
theorem dL_areReels_207 : decode cL_areReels 207 = .ok (.iload 11, 2) := by decide +kernel
theorem dL_areReels_209 : decode cL_areReels 209 = .ok (.invokestatic 9, 3) := by decide +kernel
theorem dL_areReels_212 : decode cL_areReels 212 = .ok (.if_icmp .ne 85, 3) := by decide +kernel
theorem dL_areReels_215 : decode cL_areReels 215 = .ok (.aload_n 0, 1) := by decide +kernel
theorem dL_areReels_216 : decode cL_areReels 216 = .ok (.iload 10, 2) := by decide +kernel
theorem dL_areReels_218 : decode cL_areReels 218 = .ok (.iconst 5, 1) := by decide +kernel
theorem dL_areReels_219 : decode cL_areReels 219 = .ok (.invokevirtual 43, 3) := by decide +kernel
theorem dL_areReels_222 : decode cL_areReels 222 = .ok (.aload_n 1, 1) := by decide +kernel
theorem dL_areReels_223 : decode cL_areReels 223 = .ok (.aload_n 2, 1) := by decide +kernel
theorem dL_areReels_224 : decode cL_areReels 224 = .ok (.iload 10, 2) := by decide +kernel
theorem dL_areReels_226 : decode cL_areReels 226 = .ok (.invokestatic 23, 3) := by decide +kernel
theorem dL_areReels_229 : decode cL_areReels 229 = .ok (.if_icmp .ne 68, 3) := by decide +kernel
theorem dL_areReels_232 : decode cL_areReels 232 = .ok (.aload_n 0, 1) := by decide +kernel
theorem dL_areReels_233 : decode cL_areReels 233 = .ok (.iload 10, 2) := by decide +kernel
theorem dL_areReels_235 : decode cL_areReels 235 = .ok (.iconst 0, 1) := by decide +kernel
theorem dL_areReels_236 : decode cL_areReels 236 = .ok (.invokevirtual 46, 3) := by decide +kernel
theorem dL_areReels_239 : decode cL_areReels 239 = .ok (.aload 5, 2) := by decide +kernel
theorem dL_areReels_241 : decode cL_areReels 241 = .ok (.iconst 2, 1) := by decide +kernel
theorem dL_areReels_242 : decode cL_areReels 242 = .ok (.iload 10, 2) := by decide +kernel
theorem dL_areReels_244 : decode cL_areReels 244 = .ok (.imul, 1) := by decide +kernel
theorem dL_areReels_245 : decode cL_areReels 245 = .ok (.iaload, 1) := by decide +kernel
theorem dL_areReels_246 : decode cL_areReels 246 = .ok (.if_icmp .ne 51, 3) := by decide +kernel
theorem dL_areReels_249 : decode cL_areReels 249 = .ok (.aload_n 0, 1) := by decide +kernel
theorem dL_areReels_250 : decode cL_areReels 250 = .ok (.iload 10, 2) := by decide +kernel
theorem dL_areReels_252 : decode cL_areReels 252 = .ok (.iconst 1, 1) := by decide +kernel
theorem dL_areReels_253 : decode cL_areReels 253 = .ok (.invokevirtual 46, 3) := by decide +kernel
theorem dL_areReels_256 : decode cL_areReels 256 = .ok (.aload 5, 2) := by decide +kernel
theorem dL_areReels_258 : decode cL_areReels 258 = .ok (.iconst 2, 1) := by decide +kernel
theorem dL_areReels_259 : decode cL_areReels 259 = .ok (.iload 10, 2) := by decide +kernel
theorem dL_areReels_261 : decode cL_areReels 261 = .ok (.imul, 1) := by decide +kernel
theorem dL_areReels_262 : decode cL_areReels 262 = .ok (.iconst 1, 1) := by decide +kernel
theorem dL_areReels_263 : decode cL_areReels 263 = .ok (.iadd, 1) := by decide +kernel
theorem dL_areReels_264 : decode cL_areReels 264 = .ok (.iaload, 1) := by decide +kernel
theorem dL_areReels_265 : decode cL_areReels 265 = .ok (.if_icmp .ne 32, 3) := by decide +kernel
theorem dL_areReels_268 : decode cL_areReels 268 = .ok (.aload_n 0, 1) := by decide +kernel
theorem dL_areReels_269 : decode cL_areReels 269 = .ok (.iload 10, 2) := by decide +kernel
theorem dL_areReels_271 : decode cL_areReels 271 = .ok (.iconst 2, 1) := by decide +kernel
theorem dL_areReels_272 : decode cL_areReels 272 = .ok (.invokevirtual 46, 3) := by decide +kernel
theorem dL_areReels_275 : decode cL_areReels 275 = .ok (.iload 12, 2) := by decide +kernel
theorem dL_areReels_277 : decode cL_areReels 277 = .ok (.if_icmp .ne 20, 3) := by decide +kernel
theorem dL_areReels_280 : decode cL_areReels 280 = .ok (.aload_n 0, 1) := by decide +kernel
theorem dL_areReels_281 : decode cL_areReels 281 = .ok (.iload 10, 2) := by decide +kernel
theorem dL_areReels_283 : decode cL_areReels 283 = .ok (.iload 11, 2) := by decide +kernel
theorem dL_areReels_285 : decode cL_areReels 285 = .ok (.iconst 0, 1) := by decide +kernel
theorem dL_areReels_286 : decode cL_areReels 286 = .ok (.invokevirtual 49, 3) := by decide +kernel
theorem dL_areReels_289 : decode cL_areReels 289 = .ok (.iconst (-1), 1) := by decide +kernel
theorem dL_areReels_290 : decode cL_areReels 290 = .ok (.if_icmp .ne 7, 3) := by decide +kernel
theorem dL_areReels_293 : decode cL_areReels 293 = .ok (.iconst 1, 1) := by decide +kernel
theorem dL_areReels_294 : decode cL_areReels 294 = .ok (.goto 4, 3) := by decide +kernel
theorem dL_areReels_297 : decode cL_areReels 297 = .ok (.iconst 0, 1) := by decide +kernel
theorem dL_areReels_298 : decode cL_areReels 298 = .ok (.istore 9, 2) := by decide +kernel
theorem dL_areReels_300 : decode cL_areReels 300 = .ok (.iconst 0, 1) := by decide +kernel
theorem dL_areReels_301 : decode cL_areReels 301 = .ok (.istore 13, 2) := by decide +kernel
theorem dL_areReels_303 : decode cL_areReels 303 = .ok (.iload 13, 2) := by decide +kernel
theorem dL_areReels_305 : decode cL_areReels 305 = .ok (.iload 11, 2) := by decide +kernel
theorem dL_areReels_307 : decode cL_areReels 307 = .ok (.if_icmp .ge 111, 3) := by decide +kernel
theorem dL_areReels_310 : decode cL_areReels 310 = .ok (.iload 9, 2) := by decide +kernel
theorem dL_areReels_312 : decode cL_areReels 312 = .ok (.ifCond .eq 106, 3) := by decide +kernel
theorem dL_areReels_315 : decode cL_areReels 315 = .ok (.aload 4, 2) := by decide +kernel
theorem dL_areReels_317 : decode cL_areReels 317 = .ok (.bipush 6, 2) := by decide +kernel
theorem dL_areReels_319 : decode cL_areReels 319 = .ok (.iload 10, 2) := by decide +kernel
theorem dL_areReels_321 : decode cL_areReels 321 = .ok (.imul, 1) := by decide +kernel
theorem dL_areReels_322 : decode cL_areReels 322 = .ok (.iload 13, 2) := by decide +kernel
theorem dL_areReels_324 : decode cL_areReels 324 = .ok (.iadd, 1) := by decide +kernel
theorem dL_areReels_325 : decode cL_areReels 325 = .ok (.iaload, 1) := by decide +kernel
theorem dL_areReels_326 : decode cL_areReels 326 = .ok (.istore 14, 2) := by decide +kernel
theorem dL_areReels_328 : decode cL_areReels 328 = .ok (.aload_n 0, 1) := by decide +kernel
theorem dL_areReels_329 : decode cL_areReels 329 = .ok (.iload 10, 2) := by decide +kernel
theorem dL_areReels_331 : decode cL_areReels 331 = .ok (.iload 13, 2) := by decide +kernel
theorem dL_areReels_333 : decode cL_areReels 333 = .ok (.iconst 0, 1) := by decide +kernel
theorem dL_areReels_334 : decode cL_areReels 334 = .ok (.invokevirtual 49, 3) := by decide +kernel
theorem dL_areReels_337 : decode cL_areReels 337 = .ok (.iload 14, 2) := by decide +kernel
theorem dL_areReels_339 : decode cL_areReels 339 = .ok (.bipush 64, 2) := by decide +kernel
theorem dL_areReels_341 : decode cL_areReels 341 = .ok (.irem, 1) := by decide +kernel
theorem dL_areReels_342 : decode cL_areReels 342 = .ok (.if_icmp .ne 67, 3) := by decide +kernel
theorem dL_areReels_345 : decode cL_areReels 345 = .ok (.aload_n 0, 1) := by decide +kernel
theorem dL_areReels_346 : decode cL_areReels 346 = .ok (.iload 10, 2) := by decide +kernel
theorem dL_areReels_348 : decode cL_areReels 348 = .ok (.iload 13, 2) := by decide +kernel
theorem dL_areReels_350 : decode cL_areReels 350 = .ok (.iconst 1, 1) := by decide +kernel
theorem dL_areReels_351 : decode cL_areReels 351 = .ok (.invokevirtual 49, 3) := by decide +kernel
theorem dL_areReels_354 : decode cL_areReels 354 = .ok (.iload 14, 2) := by decide +kernel
theorem dL_areReels_356 : decode cL_areReels 356 = .ok (.bipush 64, 2) := by decide +kernel
theorem dL_areReels_358 : decode cL_areReels 358 = .ok (.idiv, 1) := by decide +kernel
theorem dL_areReels_359 : decode cL_areReels 359 = .ok (.sipush 128, 3) := by decide +kernel
theorem dL_areReels_362 : decode cL_areReels 362 = .ok (.irem, 1) := by decide +kernel
theorem dL_areReels_363 : decode cL_areReels 363 = .ok (.if_icmp .ne 46, 3) := by decide +kernel
theorem dL_areReels_366 : decode cL_areReels 366 = .ok (.aload_n 0, 1) := by decide +kernel
theorem dL_areReels_367 : decode cL_areReels 367 = .ok (.iload 10, 2) := by decide +kernel
theorem dL_areReels_369 : decode cL_areReels 369 = .ok (.iload 13, 2) := by decide +kernel
theorem dL_areReels_371 : decode cL_areReels 371 = .ok (.iconst 2, 1) := by decide +kernel
theorem dL_areReels_372 : decode cL_areReels 372 = .ok (.invokevirtual 49, 3) := by decide +kernel
theorem dL_areReels_375 : decode cL_areReels 375 = .ok (.aload 4, 2) := by decide +kernel
theorem dL_areReels_377 : decode cL_areReels 377 = .ok (.iload 10, 2) := by decide +kernel
theorem dL_areReels_379 : decode cL_areReels 379 = .ok (.iload 13, 2) := by decide +kernel
theorem dL_areReels_381 : decode cL_areReels 381 = .ok (.invokestatic 9, 3) := by decide +kernel
theorem dL_areReels_384 : decode cL_areReels 384 = .ok (.if_icmp .ne 25, 3) := by decide +kernel
theorem dL_areReels_387 : decode cL_areReels 387 = .ok (.aload_n 0, 1) := by decide +kernel
theorem dL_areReels_388 : decode cL_areReels 388 = .ok (.iload 10, 2) := by decide +kernel
theorem dL_areReels_390 : decode cL_areReels 390 = .ok (.iload 13, 2) := by decide +kernel
theorem dL_areReels_392 : decode cL_areReels 392 = .ok (.iconst 3, 1) := by decide +kernel
theorem dL_areReels_393 : decode cL_areReels 393 = .ok (.invokevirtual 49, 3) := by decide +kernel
theorem dL_areReels_396 : decode cL_areReels 396 = .ok (.iload 14, 2) := by decide +kernel
theorem dL_areReels_398 : decode cL_areReels 398 = .ok (.sipush 8192, 3) := by decide +kernel
theorem dL_areReels_401 : decode cL_areReels 401 = .ok (.idiv, 1) := by decide +kernel
theorem dL_areReels_402 : decode cL_areReels 402 = .ok (.if_icmp .ne 7, 3) := by decide +kernel
theorem dL_areReels_405 : decode cL_areReels 405 = .ok (.iconst 1, 1) := by decide +kernel
theorem dL_areReels_406 : decode cL_areReels 406 = .ok (.goto 4, 3) := by decide +kernel
theorem dL_areReels_409 : decode cL_areReels 409 = .ok (.iconst 0, 1) := by decide +kernel
theorem dL_areReels_410 : decode cL_areReels 410 = .ok (.istore 9, 2) := by decide +kernel
theorem dL_areReels_412 : decode cL_areReels 412 = .ok (.iinc 13 1, 3) := by decide +kernel
theorem dL_areReels_415 : decode cL_areReels 415 = .ok (.goto (-112), 3) := by decide +kernel
theorem dL_areReels_418 : decode cL_areReels 418 = .ok (.iinc 10 1, 3) := by decide +kernel
theorem dL_areReels_421 : decode cL_areReels 421 = .ok (.goto (-395), 3) := by decide +kernel
theorem dL_areReels_424 : decode cL_areReels 424 = .ok (.iconst 0, 1) := by decide +kernel
theorem dL_areReels_425 : decode cL_areReels 425 = .ok (.istore 10, 2) := by decide +kernel
theorem dL_areReels_427 : decode cL_areReels 427 = .ok (.iload 10, 2) := by decide +kernel
theorem dL_areReels_429 : decode cL_areReels 429 = .ok (.aload_n 1, 1) := by decide +kernel
theorem dL_areReels_430 : decode cL_areReels 430 = .ok (.bipush 7, 2) := by decide +kernel
theorem dL_areReels_432 : decode cL_areReels 432 = .ok (.iaload, 1) := by decide +kernel
theorem dL_areReels_433 : decode cL_areReels 433 = .ok (.if_icmp .ge 79, 3) := by decide +kernel
theorem dL_areReels_436 : decode cL_areReels 436 = .ok (.iload 9, 2) := by decide +kernel
theorem dL_areReels_438 : decode cL_areReels 438 = .ok (.ifCond .eq 74, 3) := by decide +kernel
theorem dL_areReels_441 : decode cL_areReels 441 = .ok (.aload_n 0, 1) := by decide +kernel
theorem dL_areReels_442 : decode cL_areReels 442 = .ok (.iload 10, 2) := by decide +kernel
theorem dL_areReels_444 : decode cL_areReels 444 = .ok (.iconst 0, 1) := by decide +kernel
theorem dL_areReels_445 : decode cL_areReels 445 = .ok (.invokevirtual 40, 3) := by decide +kernel
theorem dL_areReels_448 : decode cL_areReels 448 = .ok (.aload 7, 2) := by decide +kernel
theorem dL_areReels_450 : decode cL_areReels 450 = .ok (.iload 10, 2) := by decide +kernel
theorem dL_areReels_452 : decode cL_areReels 452 = .ok (.iaload, 1) := by decide +kernel
theorem dL_areReels_453 : decode cL_areReels 453 = .ok (.bipush 6, 2) := by decide +kernel
theorem dL_areReels_455 : decode cL_areReels 455 = .ok (.idiv, 1) := by decide +kernel
theorem dL_areReels_456 : decode cL_areReels 456 = .ok (.if_icmp .ne 47, 3) := by decide +kernel
theorem dL_areReels_459 : decode cL_areReels 459 = .ok (.aload_n 0, 1) := by decide +kernel
theorem dL_areReels_460 : decode cL_areReels 460 = .ok (.iload 10, 2) := by decide +kernel
theorem dL_areReels_462 : decode cL_areReels 462 = .ok (.iconst 1, 1) := by decide +kernel
theorem dL_areReels_463 : decode cL_areReels 463 = .ok (.invokevirtual 40, 3) := by decide +kernel
theorem dL_areReels_466 : decode cL_areReels 466 = .ok (.aload 7, 2) := by decide +kernel
theorem dL_areReels_468 : decode cL_areReels 468 = .ok (.iload 10, 2) := by decide +kernel
theorem dL_areReels_470 : decode cL_areReels 470 = .ok (.iaload, 1) := by decide +kernel
theorem dL_areReels_471 : decode cL_areReels 471 = .ok (.bipush 6, 2) := by decide +kernel
theorem dL_areReels_473 : decode cL_areReels 473 = .ok (.irem, 1) := by decide +kernel
theorem dL_areReels_474 : decode cL_areReels 474 = .ok (.if_icmp .ne 29, 3) := by decide +kernel
theorem dL_areReels_477 : decode cL_areReels 477 = .ok (.aload_n 0, 1) := by decide +kernel
theorem dL_areReels_478 : decode cL_areReels 478 = .ok (.iload 10, 2) := by decide +kernel
theorem dL_areReels_480 : decode cL_areReels 480 = .ok (.iconst 2, 1) := by decide +kernel
theorem dL_areReels_481 : decode cL_areReels 481 = .ok (.invokevirtual 40, 3) := by decide +kernel
theorem dL_areReels_484 : decode cL_areReels 484 = .ok (.aload 4, 2) := by decide +kernel
theorem dL_areReels_486 : decode cL_areReels 486 = .ok (.aload 7, 2) := by decide +kernel
theorem dL_areReels_488 : decode cL_areReels 488 = .ok (.iload 10, 2) := by decide +kernel
theorem dL_areReels_490 : decode cL_areReels 490 = .ok (.iaload, 1) := by decide +kernel
theorem dL_areReels_491 : decode cL_areReels 491 = .ok (.iaload, 1) := by decide +kernel
theorem dL_areReels_492 : decode cL_areReels 492 = .ok (.sipush 8192, 3) := by decide +kernel
theorem dL_areReels_495 : decode cL_areReels 495 = .ok (.idiv, 1) := by decide +kernel
theorem dL_areReels_496 : decode cL_areReels 496 = .ok (.if_icmp .ne 7, 3) := by decide +kernel
theorem dL_areReels_499 : decode cL_areReels 499 = .ok (.iconst 1, 1) := by decide +kernel
theorem dL_areReels_500 : decode cL_areReels 500 = .ok (.goto 4, 3) := by decide +kernel
theorem dL_areReels_503 : decode cL_areReels 503 = .ok (.iconst 0, 1) := by decide +kernel
theorem dL_areReels_504 : decode cL_areReels 504 = .ok (.istore 9, 2) := by decide +kernel
theorem dL_areReels_506 : decode cL_areReels 506 = .ok (.iinc 10 1, 3) := by decide +kernel
theorem dL_areReels_509 : decode cL_areReels 509 = .ok (.goto (-82), 3) := by decide +kernel
theorem dL_areReels_512 : decode cL_areReels 512 = .ok (.iload 9, 2) := by decide +kernel
theorem dL_areReels_514 : decode cL_areReels 514 = .ok (.ifCond .eq 18, 3) := by decide +kernel
theorem dL_areReels_517 : decode cL_areReels 517 = .ok (.aload_n 0, 1) := by decide +kernel
theorem dL_areReels_518 : decode cL_areReels 518 = .ok (.bipush 8, 2) := by decide +kernel
theorem dL_areReels_520 : decode cL_areReels 520 = .ok (.invokevirtual 37, 3) := by decide +kernel
theorem dL_areReels_523 : decode cL_areReels 523 = .ok (.iload 8, 2) := by decide +kernel
theorem dL_areReels_525 : decode cL_areReels 525 = .ok (.if_icmp .ne 7, 3) := by decide +kernel
theorem dL_areReels_528 : decode cL_areReels 528 = .ok (.iconst 1, 1) := by decide +kernel
theorem dL_areReels_529 : decode cL_areReels 529 = .ok (.goto 4, 3) := by decide +kernel
theorem dL_areReels_532 : decode cL_areReels 532 = .ok (.iconst 0, 1) := by decide +kernel
theorem dL_areReels_533 : decode cL_areReels 533 = .ok (.ireturn, 1) := by decide +kernel
theorem dL_isHeard_0 : decode cL_isHeard 0 = .ok (.bipush (-6), 2) := by decide +kernel
theorem dL_isHeard_2 : decode cL_isHeard 2 = .ok (.istore_n 3, 1) := by decide +kernel
theorem dL_isHeard_3 : decode cL_isHeard 3 = .ok (.iconst 0, 1) := by decide +kernel
theorem dL_isHeard_4 : decode cL_isHeard 4 = .ok (.istore 4, 2) := by decide +kernel
theorem dL_isHeard_6 : decode cL_isHeard 6 = .ok (.aload_n 0, 1) := by decide +kernel
theorem dL_isHeard_7 : decode cL_isHeard 7 = .ok (.aload_n 1, 1) := by decide +kernel
theorem dL_isHeard_8 : decode cL_isHeard 8 = .ok (.iconst 4, 1) := by decide +kernel
theorem dL_isHeard_9 : decode cL_isHeard 9 = .ok (.iaload, 1) := by decide +kernel
theorem dL_isHeard_10 : decode cL_isHeard 10 = .ok (.invokevirtual 52, 3) := by decide +kernel
theorem dL_isHeard_13 : decode cL_isHeard 13 = .ok (.iconst (-1), 1) := by decide +kernel
theorem dL_isHeard_14 : decode cL_isHeard 14 = .ok (.if_icmp .ne 16, 3) := by decide +kernel
theorem dL_isHeard_17 : decode cL_isHeard 17 = .ok (.aload_n 0, 1) := by decide +kernel
theorem dL_isHeard_18 : decode cL_isHeard 18 = .ok (.iconst (-1), 1) := by decide +kernel
theorem dL_isHeard_19 : decode cL_isHeard 19 = .ok (.invokevirtual 52, 3) := by decide +kernel
theorem dL_isHeard_22 : decode cL_isHeard 22 = .ok (.iconst (-1), 1) := by decide +kernel
theorem dL_isHeard_23 : decode cL_isHeard 23 = .ok (.if_icmp .ne 7, 3) := by decide +kernel
theorem dL_isHeard_26 : decode cL_isHeard 26 = .ok (.iconst 1, 1) := by decide +kernel
theorem dL_isHeard_27 : decode cL_isHeard 27 = .ok (.goto 4, 3) := by decide +kernel
theorem dL_isHeard_30 : decode cL_isHeard 30 = .ok (.iconst 0, 1) := by decide +kernel
theorem dL_isHeard_31 : decode cL_isHeard 31 = .ok (.istore 5, 2) := by decide +kernel
theorem dL_isHeard_33 : decode cL_isHeard 33 = .ok (.iconst 0, 1) := by decide +kernel
theorem dL_isHeard_34 : decode cL_isHeard 34 = .ok (.istore 6, 2) := by decide +kernel
theorem dL_isHeard_36 : decode cL_isHeard 36 = .ok (.iload 6, 2) := by decide +kernel
theorem dL_isHeard_38 : decode cL_isHeard 38 = .ok (.aload_n 1, 1) := by decide +kernel
theorem dL_isHeard_39 : decode cL_isHeard 39 = .ok (.iconst 4, 1) := by decide +kernel
theorem dL_isHeard_40 : decode cL_isHeard 40 = .ok (.iaload, 1) := by decide +kernel
theorem dL_isHeard_41 : decode cL_isHeard 41 = .ok (.if_icmp .ge 112, 3) := by decide +kernel
theorem dL_isHeard_44 : decode cL_isHeard 44 = .ok (.iload 5, 2) := by decide +kernel
theorem dL_isHeard_46 : decode cL_isHeard 46 = .ok (.ifCond .eq 107, 3) := by decide +kernel
theorem dL_isHeard_49 : decode cL_isHeard 49 = .ok (.iload 6, 2) := by decide +kernel
theorem dL_isHeard_51 : decode cL_isHeard 51 = .ok (.aload_n 1, 1) := by decide +kernel
theorem dL_isHeard_52 : decode cL_isHeard 52 = .ok (.iconst 4, 1) := by decide +kernel
theorem dL_isHeard_53 : decode cL_isHeard 53 = .ok (.iaload, 1) := by decide +kernel
theorem dL_isHeard_54 : decode cL_isHeard 54 = .ok (.bipush 64, 2) := by decide +kernel
theorem dL_isHeard_56 : decode cL_isHeard 56 = .ok (.isub, 1) := by decide +kernel
theorem dL_isHeard_57 : decode cL_isHeard 57 = .ok (.if_icmp .ge 20, 3) := by decide +kernel
theorem dL_isHeard_60 : decode cL_isHeard 60 = .ok (.aload_n 0, 1) := by decide +kernel
theorem dL_isHeard_61 : decode cL_isHeard 61 = .ok (.iload 6, 2) := by decide +kernel
theorem dL_isHeard_63 : decode cL_isHeard 63 = .ok (.invokevirtual 52, 3) := by decide +kernel
theorem dL_isHeard_66 : decode cL_isHeard 66 = .ok (.ifCond .lt 7, 3) := by decide +kernel
theorem dL_isHeard_69 : decode cL_isHeard 69 = .ok (.iconst 1, 1) := by decide +kernel
theorem dL_isHeard_70 : decode cL_isHeard 70 = .ok (.goto 28, 3) := by decide +kernel
theorem dL_isHeard_73 : decode cL_isHeard 73 = .ok (.iconst 0, 1) := by decide +kernel
theorem dL_isHeard_74 : decode cL_isHeard 74 = .ok (.goto 24, 3) := by decide +kernel
theorem dL_isHeard_77 : decode cL_isHeard 77 = .ok (.aload_n 0, 1) := by decide +kernel
theorem dL_isHeard_78 : decode cL_isHeard 78 = .ok (.iload 6, 2) := by decide +kernel
theorem dL_isHeard_80 : decode cL_isHeard 80 = .ok (.invokevirtual 52, 3) := by decide +kernel
theorem dL_isHeard_83 : decode cL_isHeard 83 = .ok (.aload_n 2, 1) := by decide +kernel
theorem dL_isHeard_84 : decode cL_isHeard 84 = .ok (.iload 6, 2) := by decide +kernel
theorem dL_isHeard_86 : decode cL_isHeard 86 = .ok (.bipush 64, 2) := by decide +kernel
theorem dL_isHeard_88 : decode cL_isHeard 88 = .ok (.irem, 1) := by decide +kernel
theorem dL_isHeard_89 : decode cL_isHeard 89 = .ok (.iaload, 1) := by decide +kernel
theorem dL_isHeard_90 : decode cL_isHeard 90 = .ok (.if_icmp .ne 7, 3) := by decide +kernel
theorem dL_isHeard_93 : decode cL_isHeard 93 = .ok (.iconst 1, 1) := by decide +kernel
theorem dL_isHeard_94 : decode cL_isHeard 94 = .ok (.goto 4, 3) := by decide +kernel
theorem dL_isHeard_97 : decode cL_isHeard 97 = .ok (.iconst 0, 1) := by decide +kernel
theorem dL_isHeard_98 : decode cL_isHeard 98 = .ok (.istore 5, 2) := by decide +kernel
theorem dL_isHeard_100 : decode cL_isHeard 100 = .ok (.iload_n 3, 1) := by decide +kernel
theorem dL_isHeard_101 : decode cL_isHeard 101 = .ok (.ifCond .lt 17, 3) := by decide +kernel
theorem dL_isHeard_104 : decode cL_isHeard 104 = .ok (.aload_n 0, 1) := by decide +kernel
theorem dL_isHeard_105 : decode cL_isHeard 105 = .ok (.iload 6, 2) := by decide +kernel
theorem dL_isHeard_107 : decode cL_isHeard 107 = .ok (.invokevirtual 52, 3) := by decide +kernel
theorem dL_isHeard_110 : decode cL_isHeard 110 = .ok (.aload_n 0, 1) := by decide +kernel
theorem dL_isHeard_111 : decode cL_isHeard 111 = .ok (.iload_n 3, 1) := by decide +kernel
theorem dL_isHeard_112 : decode cL_isHeard 112 = .ok (.invokevirtual 52, 3) := by decide +kernel
theorem dL_isHeard_115 : decode cL_isHeard 115 = .ok (.if_icmp .le 8, 3) := by decide +kernel
theorem dL_isHeard_118 : decode cL_isHeard 118 = .ok (.iload 6, 2) := by decide +kernel
theorem dL_isHeard_120 : decode cL_isHeard 120 = .ok (.goto 4, 3) := by decide +kernel
theorem dL_isHeard_123 : decode cL_isHeard 123 = .ok (.iload_n 3, 1) := by decide +kernel
theorem dL_isHeard_124 : decode cL_isHeard 124 = .ok (.istore_n 3, 1) := by decide +kernel
theorem dL_isHeard_125 : decode cL_isHeard 125 = .ok (.iload 4, 2) := by decide +kernel
theorem dL_isHeard_127 : decode cL_isHeard 127 = .ok (.aload_n 0, 1) := by decide +kernel
theorem dL_isHeard_128 : decode cL_isHeard 128 = .ok (.iload 6, 2) := by decide +kernel
theorem dL_isHeard_130 : decode cL_isHeard 130 = .ok (.invokevirtual 52, 3) := by decide +kernel
theorem dL_isHeard_133 : decode cL_isHeard 133 = .ok (.aload_n 1, 1) := by decide +kernel
theorem dL_isHeard_134 : decode cL_isHeard 134 = .ok (.iconst 3, 1) := by decide +kernel
theorem dL_isHeard_135 : decode cL_isHeard 135 = .ok (.iaload, 1) := by decide +kernel
theorem dL_isHeard_136 : decode cL_isHeard 136 = .ok (.if_icmp .le 7, 3) := by decide +kernel
theorem dL_isHeard_139 : decode cL_isHeard 139 = .ok (.iconst 1, 1) := by decide +kernel
theorem dL_isHeard_140 : decode cL_isHeard 140 = .ok (.goto 4, 3) := by decide +kernel
theorem dL_isHeard_143 : decode cL_isHeard 143 = .ok (.iconst 0, 1) := by decide +kernel
theorem dL_isHeard_144 : decode cL_isHeard 144 = .ok (.iadd, 1) := by decide +kernel
theorem dL_isHeard_145 : decode cL_isHeard 145 = .ok (.istore 4, 2) := by decide +kernel
theorem dL_isHeard_147 : decode cL_isHeard 147 = .ok (.iinc 6 1, 3) := by decide +kernel
theorem dL_isHeard_150 : decode cL_isHeard 150 = .ok (.goto (-114), 3) := by decide +kernel
theorem dL_isHeard_153 : decode cL_isHeard 153 = .ok (.iload 5, 2) := by decide +kernel
theorem dL_isHeard_155 : decode cL_isHeard 155 = .ok (.ifCond .eq 28, 3) := by decide +kernel
theorem dL_isHeard_158 : decode cL_isHeard 158 = .ok (.aload_n 0, 1) := by decide +kernel
theorem dL_isHeard_159 : decode cL_isHeard 159 = .ok (.bipush 6, 2) := by decide +kernel
theorem dL_isHeard_161 : decode cL_isHeard 161 = .ok (.invokevirtual 37, 3) := by decide +kernel
theorem dL_isHeard_164 : decode cL_isHeard 164 = .ok (.iload_n 3, 1) := by decide +kernel
theorem dL_isHeard_165 : decode cL_isHeard 165 = .ok (.if_icmp .ne 18, 3) := by decide +kernel
theorem dL_isHeard_168 : decode cL_isHeard 168 = .ok (.aload_n 0, 1) := by decide +kernel
theorem dL_isHeard_169 : decode cL_isHeard 169 = .ok (.bipush 7, 2) := by decide +kernel
theorem dL_isHeard_171 : decode cL_isHeard 171 = .ok (.invokevirtual 37, 3) := by decide +kernel
theorem dL_isHeard_174 : decode cL_isHeard 174 = .ok (.iload 4, 2) := by decide +kernel
theorem dL_isHeard_176 : decode cL_isHeard 176 = .ok (.if_icmp .ne 7, 3) := by decide +kernel
theorem dL_isHeard_179 : decode cL_isHeard 179 = .ok (.iconst 1, 1) := by decide +kernel
theorem dL_isHeard_180 : decode cL_isHeard 180 = .ok (.goto 4, 3) := by decide +kernel
theorem dL_isHeard_183 : decode cL_isHeard 183 = .ok (.iconst 0, 1) := by decide +kernel
theorem dL_isHeard_184 : decode cL_isHeard 184 = .ok (.ireturn, 1) := by decide +kernel
theorem dL_isCue_0 : decode cL_isCue 0 = .ok (.aload_n 1, 1) := by decide +kernel
theorem dL_isCue_1 : decode cL_isCue 1 = .ok (.iconst 4, 1) := by decide +kernel
theorem dL_isCue_2 : decode cL_isCue 2 = .ok (.iaload, 1) := by decide +kernel
theorem dL_isCue_3 : decode cL_isCue 3 = .ok (.iload 6, 2) := by decide +kernel
theorem dL_isCue_5 : decode cL_isCue 5 = .ok (.bipush 30, 2) := by decide +kernel
theorem dL_isCue_7 : decode cL_isCue 7 = .ok (.irem, 1) := by decide +kernel
theorem dL_isCue_8 : decode cL_isCue 8 = .ok (.iadd, 1) := by decide +kernel
theorem dL_isCue_9 : decode cL_isCue 9 = .ok (.iconst 2, 1) := by decide +kernel
theorem dL_isCue_10 : decode cL_isCue 10 = .ok (.isub, 1) := by decide +kernel
theorem dL_isCue_11 : decode cL_isCue 11 = .ok (.istore 7, 2) := by decide +kernel
theorem dL_isCue_13 : decode cL_isCue 13 = .ok (.iload 6, 2) := by decide +kernel
theorem dL_isCue_15 : decode cL_isCue 15 = .ok (.bipush 30, 2) := by decide +kernel
theorem dL_isCue_17 : decode cL_isCue 17 = .ok (.idiv, 1) := by decide +kernel
theorem dL_isCue_18 : decode cL_isCue 18 = .ok (.iconst 4, 1) := by decide +kernel
theorem dL_isCue_19 : decode cL_isCue 19 = .ok (.irem, 1) := by decide +kernel
theorem dL_isCue_20 : decode cL_isCue 20 = .ok (.istore 8, 2) := by decide +kernel
theorem dL_isCue_22 : decode cL_isCue 22 = .ok (.iload 6, 2) := by decide +kernel
theorem dL_isCue_24 : decode cL_isCue 24 = .ok (.bipush 120, 2) := by decide +kernel
theorem dL_isCue_26 : decode cL_isCue 26 = .ok (.idiv, 1) := by decide +kernel
theorem dL_isCue_27 : decode cL_isCue 27 = .ok (.istore 9, 2) := by decide +kernel
theorem dL_isCue_29 : decode cL_isCue 29 = .ok (.iload 5, 2) := by decide +kernel
theorem dL_isCue_31 : decode cL_isCue 31 = .ok (.bipush 12, 2) := by decide +kernel
theorem dL_isCue_33 : decode cL_isCue 33 = .ok (.if_icmp .ge 202, 3) := by decide +kernel
theorem dL_isCue_36 : decode cL_isCue 36 = .ok (.iload 5, 2) := by decide +kernel
theorem dL_isCue_38 : decode cL_isCue 38 = .ok (.bipush 7, 2) := by decide +kernel
theorem dL_isCue_40 : decode cL_isCue 40 = .ok (.if_icmp .ge 7, 3) := by decide +kernel
theorem dL_isCue_43 : decode cL_isCue 43 = .ok (.iconst 0, 1) := by decide +kernel
theorem dL_isCue_44 : decode cL_isCue 44 = .ok (.goto 15, 3) := by decide +kernel
theorem dL_isCue_47 : decode cL_isCue 47 = .ok (.iload 5, 2) := by decide +kernel
theorem dL_isCue_49 : decode cL_isCue 49 = .ok (.bipush 10, 2) := by decide +kernel
theorem dL_isCue_51 : decode cL_isCue 51 = .ok (.if_icmp .ge 7, 3) := by decide +kernel
theorem dL_isCue_54 : decode cL_isCue 54 = .ok (.iconst 1, 1) := by decide +kernel
theorem dL_isCue_55 : decode cL_isCue 55 = .ok (.goto 4, 3) := by decide +kernel
theorem dL_isCue_58 : decode cL_isCue 58 = .ok (.iconst 2, 1) := by decide +kernel
theorem dL_isCue_59 : decode cL_isCue 59 = .ok (.istore 10, 2) := by decide +kernel
theorem dL_isCue_61 : decode cL_isCue 61 = .ok (.iload 10, 2) := by decide +kernel
theorem dL_isCue_63 : decode cL_isCue 63 = .ok (.ifCond .ne 10, 3) := by decide +kernel
theorem dL_isCue_66 : decode cL_isCue 66 = .ok (.iload 9, 2) := by decide +kernel
theorem dL_isCue_68 : decode cL_isCue 68 = .ok (.iconst 3, 1) := by decide +kernel
theorem dL_isCue_69 : decode cL_isCue 69 = .ok (.irem, 1) := by decide +kernel
theorem dL_isCue_70 : decode cL_isCue 70 = .ok (.goto 24, 3) := by decide +kernel
theorem dL_isCue_73 : decode cL_isCue 73 = .ok (.iload 10, 2) := by decide +kernel
theorem dL_isCue_75 : decode cL_isCue 75 = .ok (.iconst 1, 1) := by decide +kernel
theorem dL_isCue_76 : decode cL_isCue 76 = .ok (.if_icmp .ne 13, 3) := by decide +kernel
theorem dL_isCue_79 : decode cL_isCue 79 = .ok (.iconst 1, 1) := by decide +kernel
theorem dL_isCue_80 : decode cL_isCue 80 = .ok (.iload 9, 2) := by decide +kernel
theorem dL_isCue_82 : decode cL_isCue 82 = .ok (.bipush 99, 2) := by decide +kernel
theorem dL_isCue_84 : decode cL_isCue 84 = .ok (.irem, 1) := by decide +kernel
theorem dL_isCue_85 : decode cL_isCue 85 = .ok (.iadd, 1) := by decide +kernel
theorem dL_isCue_86 : decode cL_isCue 86 = .ok (.goto 8, 3) := by decide +kernel
theorem dL_isCue_89 : decode cL_isCue 89 = .ok (.iload 9, 2) := by decide +kernel
theorem dL_isCue_91 : decode cL_isCue 91 = .ok (.bipush 101, 2) := by decide +kernel
theorem dL_isCue_93 : decode cL_isCue 93 = .ok (.irem, 1) := by decide +kernel
theorem dL_isCue_94 : decode cL_isCue 94 = .ok (.istore 11, 2) := by decide +kernel
theorem dL_isCue_96 : decode cL_isCue 96 = .ok (.iload 10, 2) := by decide +kernel
theorem dL_isCue_98 : decode cL_isCue 98 = .ok (.ifCond .ne 21, 3) := by decide +kernel
theorem dL_isCue_101 : decode cL_isCue 101 = .ok (.iload 11, 2) := by decide +kernel
theorem dL_isCue_103 : decode cL_isCue 103 = .ok (.aload 4, 2) := by decide +kernel
theorem dL_isCue_105 : decode cL_isCue 105 = .ok (.iconst 4, 1) := by decide +kernel
theorem dL_isCue_106 : decode cL_isCue 106 = .ok (.iload 8, 2) := by decide +kernel
theorem dL_isCue_108 : decode cL_isCue 108 = .ok (.imul, 1) := by decide +kernel
theorem dL_isCue_109 : decode cL_isCue 109 = .ok (.iconst 3, 1) := by decide +kernel
theorem dL_isCue_110 : decode cL_isCue 110 = .ok (.iadd, 1) := by decide +kernel
theorem dL_isCue_111 : decode cL_isCue 111 = .ok (.iaload, 1) := by decide +kernel
theorem dL_isCue_112 : decode cL_isCue 112 = .ok (.if_icmp .lt 7, 3) := by decide +kernel
theorem dL_isCue_115 : decode cL_isCue 115 = .ok (.iconst 1, 1) := by decide +kernel
theorem dL_isCue_116 : decode cL_isCue 116 = .ok (.goto 4, 3) := by decide +kernel
theorem dL_isCue_119 : decode cL_isCue 119 = .ok (.iconst 0, 1) := by decide +kernel
theorem dL_isCue_120 : decode cL_isCue 120 = .ok (.istore 12, 2) := by decide +kernel
theorem dL_isCue_122 : decode cL_isCue 122 = .ok (.iload 7, 2) := by decide +kernel
theorem dL_isCue_124 : decode cL_isCue 124 = .ok (.ifCond .lt 11, 3) := by decide +kernel
theorem dL_isCue_127 : decode cL_isCue 127 = .ok (.iload 7, 2) := by decide +kernel
theorem dL_isCue_129 : decode cL_isCue 129 = .ok (.sipush 999, 3) := by decide +kernel
theorem dL_isCue_132 : decode cL_isCue 132 = .ok (.if_icmp .le 8, 3) := by decide +kernel
theorem dL_isCue_135 : decode cL_isCue 135 = .ok (.bipush (-2), 2) := by decide +kernel
theorem dL_isCue_137 : decode cL_isCue 137 = .ok (.goto 45, 3) := by decide +kernel
theorem dL_isCue_140 : decode cL_isCue 140 = .ok (.iload 12, 2) := by decide +kernel
theorem dL_isCue_142 : decode cL_isCue 142 = .ok (.ifCond .eq 7, 3) := by decide +kernel
theorem dL_isCue_145 : decode cL_isCue 145 = .ok (.iconst (-1), 1) := by decide +kernel
theorem dL_isCue_146 : decode cL_isCue 146 = .ok (.goto 36, 3) := by decide +kernel
theorem dL_isCue_149 : decode cL_isCue 149 = .ok (.iload 7, 2) := by decide +kernel
theorem dL_isCue_151 : decode cL_isCue 151 = .ok (.aload_n 1, 1) := by decide +kernel
theorem dL_isCue_152 : decode cL_isCue 152 = .ok (.iconst 4, 1) := by decide +kernel
theorem dL_isCue_153 : decode cL_isCue 153 = .ok (.iaload, 1) := by decide +kernel
theorem dL_isCue_154 : decode cL_isCue 154 = .ok (.if_icmp .ge 8, 3) := by decide +kernel
theorem dL_isCue_157 : decode cL_isCue 157 = .ok (.bipush (-5), 2) := by decide +kernel
theorem dL_isCue_159 : decode cL_isCue 159 = .ok (.goto 23, 3) := by decide +kernel
theorem dL_isCue_162 : decode cL_isCue 162 = .ok (.aload_n 1, 1) := by decide +kernel
theorem dL_isCue_163 : decode cL_isCue 163 = .ok (.iconst 5, 1) := by decide +kernel
theorem dL_isCue_164 : decode cL_isCue 164 = .ok (.iaload, 1) := by decide +kernel
theorem dL_isCue_165 : decode cL_isCue 165 = .ok (.bipush 24, 2) := by decide +kernel
theorem dL_isCue_167 : decode cL_isCue 167 = .ok (.if_icmp .ne 8, 3) := by decide +kernel
theorem dL_isCue_170 : decode cL_isCue 170 = .ok (.bipush (-4), 2) := by decide +kernel
theorem dL_isCue_172 : decode cL_isCue 172 = .ok (.goto 10, 3) := by decide +kernel
theorem dL_isCue_175 : decode cL_isCue 175 = .ok (.aload_n 1, 1) := by decide +kernel
theorem dL_isCue_176 : decode cL_isCue 176 = .ok (.aload_n 2, 1) := by decide +kernel
theorem dL_isCue_177 : decode cL_isCue 177 = .ok (.iload 7, 2) := by decide +kernel
theorem dL_isCue_179 : decode cL_isCue 179 = .ok (.invokestatic 55, 3) := by decide +kernel
theorem dL_isCue_182 : decode cL_isCue 182 = .ok (.istore 13, 2) := by decide +kernel
theorem dL_isCue_184 : decode cL_isCue 184 = .ok (.iload 13, 2) := by decide +kernel
theorem dL_isCue_186 : decode cL_isCue 186 = .ok (.ifCond .lt 26, 3) := by decide +kernel
theorem dL_isCue_189 : decode cL_isCue 189 = .ok (.aload_n 1, 1) := by decide +kernel
theorem dL_isCue_190 : decode cL_isCue 190 = .ok (.aload_n 2, 1) := by decide +kernel
theorem dL_isCue_191 : decode cL_isCue 191 = .ok (.aload_n 3, 1) := by decide +kernel
theorem dL_isCue_192 : decode cL_isCue 192 = .ok (.iload 13, 2) := by decide +kernel
theorem dL_isCue_194 : decode cL_isCue 194 = .ok (.iload 7, 2) := by decide +kernel
theorem dL_isCue_196 : decode cL_isCue 196 = .ok (.iload 10, 2) := by decide +kernel
theorem dL_isCue_198 : decode cL_isCue 198 = .ok (.iconst 4, 1) := by decide +kernel
theorem dL_isCue_199 : decode cL_isCue 199 = .ok (.iload 8, 2) := by decide +kernel
theorem dL_isCue_201 : decode cL_isCue 201 = .ok (.imul, 1) := by decide +kernel
theorem dL_isCue_202 : decode cL_isCue 202 = .ok (.iadd, 1) := by decide +kernel
theorem dL_isCue_203 : decode cL_isCue 203 = .ok (.bipush 16, 2) := by decide +kernel
theorem dL_isCue_205 : decode cL_isCue 205 = .ok (.iload 11, 2) := by decide +kernel
theorem dL_isCue_207 : decode cL_isCue 207 = .ok (.imul, 1) := by decide +kernel
theorem dL_isCue_208 : decode cL_isCue 208 = .ok (.iadd, 1) := by decide +kernel
theorem dL_isCue_209 : decode cL_isCue 209 = .ok (.invokestatic 58, 3) := by decide +kernel
theorem dL_isCue_212 : decode cL_isCue 212 = .ok (.aload_n 0, 1) := by decide +kernel
theorem dL_isCue_213 : decode cL_isCue 213 = .ok (.iload 7, 2) := by decide +kernel
theorem dL_isCue_215 : decode cL_isCue 215 = .ok (.iload 10, 2) := by decide +kernel
theorem dL_isCue_217 : decode cL_isCue 217 = .ok (.iload 8, 2) := by decide +kernel
theorem dL_isCue_219 : decode cL_isCue 219 = .ok (.iload 11, 2) := by decide +kernel
theorem dL_isCue_221 : decode cL_isCue 221 = .ok (.invokevirtual 62, 3) := by decide +kernel
theorem dL_isCue_224 : decode cL_isCue 224 = .ok (.iload 13, 2) := by decide +kernel
theorem dL_isCue_226 : decode cL_isCue 226 = .ok (.if_icmp .ne 7, 3) := by decide +kernel
theorem dL_isCue_229 : decode cL_isCue 229 = .ok (.iconst 1, 1) := by decide +kernel
theorem dL_isCue_230 : decode cL_isCue 230 = .ok (.goto 4, 3) := by decide +kernel
theorem dL_isCue_233 : decode cL_isCue 233 = .ok (.iconst 0, 1) := by decide +kernel
theorem dL_isCue_234 : decode cL_isCue 234 = .ok (.ireturn, 1) := by decide +kernel
theorem dL_isCue_235 : decode cL_isCue 235 = .ok (.aload_n 1, 1) := by decide +kernel
theorem dL_isCue_236 : decode cL_isCue 236 = .ok (.iconst 5, 1) := by decide +kernel
theorem dL_isCue_237 : decode cL_isCue 237 = .ok (.iaload, 1) := by decide +kernel
theorem dL_isCue_238 : decode cL_isCue 238 = .ok (.ifCond .ne 7, 3) := by decide +kernel
theorem dL_isCue_241 : decode cL_isCue 241 = .ok (.iconst 0, 1) := by decide +kernel
theorem dL_isCue_242 : decode cL_isCue 242 = .ok (.goto 9, 3) := by decide +kernel
theorem dL_isCue_245 : decode cL_isCue 245 = .ok (.iload 9, 2) := by decide +kernel
theorem dL_isCue_247 : decode cL_isCue 247 = .ok (.aload_n 1, 1) := by decide +kernel
theorem dL_isCue_248 : decode cL_isCue 248 = .ok (.iconst 5, 1) := by decide +kernel
theorem dL_isCue_249 : decode cL_isCue 249 = .ok (.iaload, 1) := by decide +kernel
theorem dL_isCue_250 : decode cL_isCue 250 = .ok (.irem, 1) := by decide +kernel
theorem dL_isCue_251 : decode cL_isCue 251 = .ok (.istore 10, 2) := by decide +kernel
theorem dL_isCue_253 : decode cL_isCue 253 = .ok (.aload_n 1, 1) := by decide +kernel
theorem dL_isCue_254 : decode cL_isCue 254 = .ok (.iconst 5, 1) := by decide +kernel
theorem dL_isCue_255 : decode cL_isCue 255 = .ok (.iaload, 1) := by decide +kernel
theorem dL_isCue_256 : decode cL_isCue 256 = .ok (.ifCond .le 17, 3) := by decide +kernel
theorem dL_isCue_259 : decode cL_isCue 259 = .ok (.aload_n 3, 1) := by decide +kernel
theorem dL_isCue_260 : decode cL_isCue 260 = .ok (.iload 10, 2) := by decide +kernel
theorem dL_isCue_262 : decode cL_isCue 262 = .ok (.iaload, 1) := by decide +kernel
theorem dL_isCue_263 : decode cL_isCue 263 = .ok (.sipush 2048, 3) := by decide +kernel
theorem dL_isCue_266 : decode cL_isCue 266 = .ok (.if_icmp .ge 7, 3) := by decide +kernel
theorem dL_isCue_269 : decode cL_isCue 269 = .ok (.iconst 1, 1) := by decide +kernel
theorem dL_isCue_270 : decode cL_isCue 270 = .ok (.goto 4, 3) := by decide +kernel
theorem dL_isCue_273 : decode cL_isCue 273 = .ok (.iconst 0, 1) := by decide +kernel
theorem dL_isCue_274 : decode cL_isCue 274 = .ok (.istore 11, 2) := by decide +kernel
theorem dL_isCue_276 : decode cL_isCue 276 = .ok (.iload 5, 2) := by decide +kernel
theorem dL_isCue_278 : decode cL_isCue 278 = .ok (.bipush 14, 2) := by decide +kernel
theorem dL_isCue_280 : decode cL_isCue 280 = .ok (.if_icmp .ge 54, 3) := by decide +kernel
theorem dL_isCue_283 : decode cL_isCue 283 = .ok (.iload 11, 2) := by decide +kernel
theorem dL_isCue_285 : decode cL_isCue 285 = .ok (.ifCond .eq 11, 3) := by decide +kernel
theorem dL_isCue_288 : decode cL_isCue 288 = .ok (.aload_n 1, 1) := by decide +kernel
theorem dL_isCue_289 : decode cL_isCue 289 = .ok (.aload_n 2, 1) := by decide +kernel
theorem dL_isCue_290 : decode cL_isCue 290 = .ok (.aload_n 3, 1) := by decide +kernel
theorem dL_isCue_291 : decode cL_isCue 291 = .ok (.iload 10, 2) := by decide +kernel
theorem dL_isCue_293 : decode cL_isCue 293 = .ok (.invokestatic 66, 3) := by decide +kernel
theorem dL_isCue_296 : decode cL_isCue 296 = .ok (.aload_n 0, 1) := by decide +kernel
theorem dL_isCue_297 : decode cL_isCue 297 = .ok (.iload 10, 2) := by decide +kernel
theorem dL_isCue_299 : decode cL_isCue 299 = .ok (.invokevirtual 70, 3) := by decide +kernel
theorem dL_isCue_302 : decode cL_isCue 302 = .ok (.iload 11, 2) := by decide +kernel
theorem dL_isCue_304 : decode cL_isCue 304 = .ok (.ifCond .eq 9, 3) := by decide +kernel
theorem dL_isCue_307 : decode cL_isCue 307 = .ok (.aload_n 1, 1) := by decide +kernel
theorem dL_isCue_308 : decode cL_isCue 308 = .ok (.iconst 5, 1) := by decide +kernel
theorem dL_isCue_309 : decode cL_isCue 309 = .ok (.iaload, 1) := by decide +kernel
theorem dL_isCue_310 : decode cL_isCue 310 = .ok (.goto 15, 3) := by decide +kernel
theorem dL_isCue_313 : decode cL_isCue 313 = .ok (.aload_n 1, 1) := by decide +kernel
theorem dL_isCue_314 : decode cL_isCue 314 = .ok (.iconst 5, 1) := by decide +kernel
theorem dL_isCue_315 : decode cL_isCue 315 = .ok (.iaload, 1) := by decide +kernel
theorem dL_isCue_316 : decode cL_isCue 316 = .ok (.ifCond .ne 7, 3) := by decide +kernel
theorem dL_isCue_319 : decode cL_isCue 319 = .ok (.iconst (-1), 1) := by decide +kernel
theorem dL_isCue_320 : decode cL_isCue 320 = .ok (.goto 5, 3) := by decide +kernel
theorem dL_isCue_323 : decode cL_isCue 323 = .ok (.bipush (-5), 2) := by decide +kernel
theorem dL_isCue_325 : decode cL_isCue 325 = .ok (.if_icmp .ne 7, 3) := by decide +kernel
theorem dL_isCue_328 : decode cL_isCue 328 = .ok (.iconst 1, 1) := by decide +kernel
theorem dL_isCue_329 : decode cL_isCue 329 = .ok (.goto 4, 3) := by decide +kernel
theorem dL_isCue_332 : decode cL_isCue 332 = .ok (.iconst 0, 1) := by decide +kernel
theorem dL_isCue_333 : decode cL_isCue 333 = .ok (.ireturn, 1) := by decide +kernel
theorem dL_isCue_334 : decode cL_isCue 334 = .ok (.aload_n 1, 1) := by decide +kernel
theorem dL_isCue_335 : decode cL_isCue 335 = .ok (.iconst 5, 1) := by decide +kernel
theorem dL_isCue_336 : decode cL_isCue 336 = .ok (.iaload, 1) := by decide +kernel
theorem dL_isCue_337 : decode cL_isCue 337 = .ok (.ifCond .ne 7, 3) := by decide +kernel
theorem dL_isCue_340 : decode cL_isCue 340 = .ok (.iconst (-1), 1) := by decide +kernel
theorem dL_isCue_341 : decode cL_isCue 341 = .ok (.goto 40, 3) := by decide +kernel
theorem dL_isCue_344 : decode cL_isCue 344 = .ok (.iload 7, 2) := by decide +kernel
theorem dL_isCue_346 : decode cL_isCue 346 = .ok (.ifCond .lt 11, 3) := by decide +kernel
theorem dL_isCue_349 : decode cL_isCue 349 = .ok (.iload 7, 2) := by decide +kernel
theorem dL_isCue_351 : decode cL_isCue 351 = .ok (.sipush 999, 3) := by decide +kernel
theorem dL_isCue_354 : decode cL_isCue 354 = .ok (.if_icmp .le 8, 3) := by decide +kernel
theorem dL_isCue_357 : decode cL_isCue 357 = .ok (.bipush (-2), 2) := by decide +kernel
theorem dL_isCue_359 : decode cL_isCue 359 = .ok (.goto 22, 3) := by decide +kernel
theorem dL_isCue_362 : decode cL_isCue 362 = .ok (.iload 11, 2) := by decide +kernel
theorem dL_isCue_364 : decode cL_isCue 364 = .ok (.ifCond .eq 11, 3) := by decide +kernel
theorem dL_isCue_367 : decode cL_isCue 367 = .ok (.iload 7, 2) := by decide +kernel
theorem dL_isCue_369 : decode cL_isCue 369 = .ok (.aload_n 1, 1) := by decide +kernel
theorem dL_isCue_370 : decode cL_isCue 370 = .ok (.iconst 4, 1) := by decide +kernel
theorem dL_isCue_371 : decode cL_isCue 371 = .ok (.iaload, 1) := by decide +kernel
theorem dL_isCue_372 : decode cL_isCue 372 = .ok (.if_icmp .ge 8, 3) := by decide +kernel
theorem dL_isCue_375 : decode cL_isCue 375 = .ok (.bipush (-5), 2) := by decide +kernel
theorem dL_isCue_377 : decode cL_isCue 377 = .ok (.goto 4, 3) := by decide +kernel
theorem dL_isCue_380 : decode cL_isCue 380 = .ok (.iconst 0, 1) := by decide +kernel
theorem dL_isCue_381 : decode cL_isCue 381 = .ok (.istore 12, 2) := by decide +kernel
theorem dL_isCue_383 : decode cL_isCue 383 = .ok (.iload 12, 2) := by decide +kernel
theorem dL_isCue_385 : decode cL_isCue 385 = .ok (.ifCond .ne 38, 3) := by decide +kernel
theorem dL_isCue_388 : decode cL_isCue 388 = .ok (.aload_n 3, 1) := by decide +kernel
theorem dL_isCue_389 : decode cL_isCue 389 = .ok (.iload 10, 2) := by decide +kernel
theorem dL_isCue_391 : decode cL_isCue 391 = .ok (.iaload, 1) := by decide +kernel
theorem dL_isCue_392 : decode cL_isCue 392 = .ok (.istore 13, 2) := by decide +kernel
theorem dL_isCue_394 : decode cL_isCue 394 = .ok (.aload_n 1, 1) := by decide +kernel
theorem dL_isCue_395 : decode cL_isCue 395 = .ok (.aload_n 2, 1) := by decide +kernel
theorem dL_isCue_396 : decode cL_isCue 396 = .ok (.aload_n 3, 1) := by decide +kernel
theorem dL_isCue_397 : decode cL_isCue 397 = .ok (.iload 10, 2) := by decide +kernel
theorem dL_isCue_399 : decode cL_isCue 399 = .ok (.invokestatic 66, 3) := by decide +kernel
theorem dL_isCue_402 : decode cL_isCue 402 = .ok (.aload_n 1, 1) := by decide +kernel
theorem dL_isCue_403 : decode cL_isCue 403 = .ok (.aload_n 2, 1) := by decide +kernel
theorem dL_isCue_404 : decode cL_isCue 404 = .ok (.iload 7, 2) := by decide +kernel
theorem dL_isCue_406 : decode cL_isCue 406 = .ok (.invokestatic 55, 3) := by decide +kernel
theorem dL_isCue_409 : decode cL_isCue 409 = .ok (.istore 12, 2) := by decide +kernel
theorem dL_isCue_411 : decode cL_isCue 411 = .ok (.aload_n 1, 1) := by decide +kernel
theorem dL_isCue_412 : decode cL_isCue 412 = .ok (.aload_n 2, 1) := by decide +kernel
theorem dL_isCue_413 : decode cL_isCue 413 = .ok (.aload_n 3, 1) := by decide +kernel
theorem dL_isCue_414 : decode cL_isCue 414 = .ok (.iload 12, 2) := by decide +kernel
theorem dL_isCue_416 : decode cL_isCue 416 = .ok (.iload 7, 2) := by decide +kernel
theorem dL_isCue_418 : decode cL_isCue 418 = .ok (.iload 13, 2) := by decide +kernel
theorem dL_isCue_420 : decode cL_isCue 420 = .ok (.invokestatic 58, 3) := by decide +kernel
theorem dL_isCue_423 : decode cL_isCue 423 = .ok (.aload_n 0, 1) := by decide +kernel
theorem dL_isCue_424 : decode cL_isCue 424 = .ok (.iload 10, 2) := by decide +kernel
theorem dL_isCue_426 : decode cL_isCue 426 = .ok (.iload 7, 2) := by decide +kernel
theorem dL_isCue_428 : decode cL_isCue 428 = .ok (.invokevirtual 73, 3) := by decide +kernel
theorem dL_isCue_431 : decode cL_isCue 431 = .ok (.iload 12, 2) := by decide +kernel
theorem dL_isCue_433 : decode cL_isCue 433 = .ok (.if_icmp .ne 7, 3) := by decide +kernel
theorem dL_isCue_436 : decode cL_isCue 436 = .ok (.iconst 1, 1) := by decide +kernel
theorem dL_isCue_437 : decode cL_isCue 437 = .ok (.goto 4, 3) := by decide +kernel
theorem dL_isCue_440 : decode cL_isCue 440 = .ok (.iconst 0, 1) := by decide +kernel
theorem dL_isCue_441 : decode cL_isCue 441 = .ok (.ireturn, 1) := by decide +kernel
theorem dL_restart_0 : decode cL_restart 0 = .ok (.aload_n 0, 1) := by decide +kernel
theorem dL_restart_1 : decode cL_restart 1 = .ok (.iconst 4, 1) := by decide +kernel
theorem dL_restart_2 : decode cL_restart 2 = .ok (.iconst 0, 1) := by decide +kernel
theorem dL_restart_3 : decode cL_restart 3 = .ok (.iastore, 1) := by decide +kernel
theorem dL_restart_4 : decode cL_restart 4 = .ok (.aload_n 0, 1) := by decide +kernel
theorem dL_restart_5 : decode cL_restart 5 = .ok (.bipush 6, 2) := by decide +kernel
theorem dL_restart_7 : decode cL_restart 7 = .ok (.iconst 0, 1) := by decide +kernel
theorem dL_restart_8 : decode cL_restart 8 = .ok (.iastore, 1) := by decide +kernel
theorem dL_restart_9 : decode cL_restart 9 = .ok (.aload_n 0, 1) := by decide +kernel
theorem dL_restart_10 : decode cL_restart 10 = .ok (.bipush 7, 2) := by decide +kernel
theorem dL_restart_12 : decode cL_restart 12 = .ok (.iconst 0, 1) := by decide +kernel
theorem dL_restart_13 : decode cL_restart 13 = .ok (.iastore, 1) := by decide +kernel
theorem dL_restart_14 : decode cL_restart 14 = .ok (.iconst 0, 1) := by decide +kernel
theorem dL_restart_15 : decode cL_restart 15 = .ok (.istore 5, 2) := by decide +kernel
theorem dL_restart_17 : decode cL_restart 17 = .ok (.iload 5, 2) := by decide +kernel
theorem dL_restart_19 : decode cL_restart 19 = .ok (.bipush 24, 2) := by decide +kernel
theorem dL_restart_21 : decode cL_restart 21 = .ok (.if_icmp .ge 29, 3) := by decide +kernel
theorem dL_restart_24 : decode cL_restart 24 = .ok (.aload_n 1, 1) := by decide +kernel
theorem dL_restart_25 : decode cL_restart 25 = .ok (.iload 5, 2) := by decide +kernel
theorem dL_restart_27 : decode cL_restart 27 = .ok (.dup2, 1) := by decide +kernel
theorem dL_restart_28 : decode cL_restart 28 = .ok (.iaload, 1) := by decide +kernel
theorem dL_restart_29 : decode cL_restart 29 = .ok (.sipush 2048, 3) := by decide +kernel
theorem dL_restart_32 : decode cL_restart 32 = .ok (.irem, 1) := by decide +kernel
theorem dL_restart_33 : decode cL_restart 33 = .ok (.iastore, 1) := by decide +kernel
theorem dL_restart_34 : decode cL_restart 34 = .ok (.aload_n 3, 1) := by decide +kernel
theorem dL_restart_35 : decode cL_restart 35 = .ok (.iload 5, 2) := by decide +kernel
theorem dL_restart_37 : decode cL_restart 37 = .ok (.dup2, 1) := by decide +kernel
theorem dL_restart_38 : decode cL_restart 38 = .ok (.iaload, 1) := by decide +kernel
theorem dL_restart_39 : decode cL_restart 39 = .ok (.sipush 8192, 3) := by decide +kernel
theorem dL_restart_42 : decode cL_restart 42 = .ok (.irem, 1) := by decide +kernel
theorem dL_restart_43 : decode cL_restart 43 = .ok (.iastore, 1) := by decide +kernel
theorem dL_restart_44 : decode cL_restart 44 = .ok (.iinc 5 1, 3) := by decide +kernel
theorem dL_restart_47 : decode cL_restart 47 = .ok (.goto (-30), 3) := by decide +kernel
theorem dL_restart_50 : decode cL_restart 50 = .ok (.iconst 0, 1) := by decide +kernel
theorem dL_restart_51 : decode cL_restart 51 = .ok (.istore 5, 2) := by decide +kernel
theorem dL_restart_53 : decode cL_restart 53 = .ok (.iload 5, 2) := by decide +kernel
theorem dL_restart_55 : decode cL_restart 55 = .ok (.bipush 8, 2) := by decide +kernel
theorem dL_restart_57 : decode cL_restart 57 = .ok (.if_icmp .ge 41, 3) := by decide +kernel
theorem dL_restart_60 : decode cL_restart 60 = .ok (.aload 4, 2) := by decide +kernel
theorem dL_restart_62 : decode cL_restart 62 = .ok (.iload 5, 2) := by decide +kernel
theorem dL_restart_64 : decode cL_restart 64 = .ok (.bipush 50, 2) := by decide +kernel
theorem dL_restart_66 : decode cL_restart 66 = .ok (.iastore, 1) := by decide +kernel
theorem dL_restart_67 : decode cL_restart 67 = .ok (.aload_n 2, 1) := by decide +kernel
theorem dL_restart_68 : decode cL_restart 68 = .ok (.iload 5, 2) := by decide +kernel
theorem dL_restart_70 : decode cL_restart 70 = .ok (.iconst 2, 1) := by decide +kernel
theorem dL_restart_71 : decode cL_restart 71 = .ok (.idiv, 1) := by decide +kernel
theorem dL_restart_72 : decode cL_restart 72 = .ok (.iconst 4, 1) := by decide +kernel
theorem dL_restart_73 : decode cL_restart 73 = .ok (.imul, 1) := by decide +kernel
theorem dL_restart_74 : decode cL_restart 74 = .ok (.iload 5, 2) := by decide +kernel
theorem dL_restart_76 : decode cL_restart 76 = .ok (.iconst 2, 1) := by decide +kernel
theorem dL_restart_77 : decode cL_restart 77 = .ok (.irem, 1) := by decide +kernel
theorem dL_restart_78 : decode cL_restart 78 = .ok (.iadd, 1) := by decide +kernel
theorem dL_restart_79 : decode cL_restart 79 = .ok (.iconst 0, 1) := by decide +kernel
theorem dL_restart_80 : decode cL_restart 80 = .ok (.iastore, 1) := by decide +kernel
theorem dL_restart_81 : decode cL_restart 81 = .ok (.aload_n 2, 1) := by decide +kernel
theorem dL_restart_82 : decode cL_restart 82 = .ok (.iload 5, 2) := by decide +kernel
theorem dL_restart_84 : decode cL_restart 84 = .ok (.iconst 2, 1) := by decide +kernel
theorem dL_restart_85 : decode cL_restart 85 = .ok (.idiv, 1) := by decide +kernel
theorem dL_restart_86 : decode cL_restart 86 = .ok (.iconst 4, 1) := by decide +kernel
theorem dL_restart_87 : decode cL_restart 87 = .ok (.imul, 1) := by decide +kernel
theorem dL_restart_88 : decode cL_restart 88 = .ok (.iconst 2, 1) := by decide +kernel
theorem dL_restart_89 : decode cL_restart 89 = .ok (.iadd, 1) := by decide +kernel
theorem dL_restart_90 : decode cL_restart 90 = .ok (.iconst 0, 1) := by decide +kernel
theorem dL_restart_91 : decode cL_restart 91 = .ok (.iastore, 1) := by decide +kernel
theorem dL_restart_92 : decode cL_restart 92 = .ok (.iinc 5 1, 3) := by decide +kernel
theorem dL_restart_95 : decode cL_restart 95 = .ok (.goto (-42), 3) := by decide +kernel
theorem dL_restart_98 : decode cL_restart 98 = .ok (.return_, 1) := by decide +kernel
theorem dL_isSet_0 : decode cL_isSet 0 = .ok (.iload 6, 2) := by decide +kernel
theorem dL_isSet_2 : decode cL_isSet 2 = .ok (.iconst 4, 1) := by decide +kernel
theorem dL_isSet_3 : decode cL_isSet 3 = .ok (.irem, 1) := by decide +kernel
theorem dL_isSet_4 : decode cL_isSet 4 = .ok (.istore 7, 2) := by decide +kernel
theorem dL_isSet_6 : decode cL_isSet 6 = .ok (.iload 6, 2) := by decide +kernel
theorem dL_isSet_8 : decode cL_isSet 8 = .ok (.iconst 4, 1) := by decide +kernel
theorem dL_isSet_9 : decode cL_isSet 9 = .ok (.idiv, 1) := by decide +kernel
theorem dL_isSet_10 : decode cL_isSet 10 = .ok (.istore 8, 2) := by decide +kernel
theorem dL_isSet_12 : decode cL_isSet 12 = .ok (.iload 5, 2) := by decide +kernel
theorem dL_isSet_14 : decode cL_isSet 14 = .ok (.ifCond .ne 92, 3) := by decide +kernel
theorem dL_isSet_17 : decode cL_isSet 17 = .ok (.iload 7, 2) := by decide +kernel
theorem dL_isSet_19 : decode cL_isSet 19 = .ok (.ifCond .ne 13, 3) := by decide +kernel
theorem dL_isSet_22 : decode cL_isSet 22 = .ok (.iconst 1, 1) := by decide +kernel
theorem dL_isSet_23 : decode cL_isSet 23 = .ok (.iload 8, 2) := by decide +kernel
theorem dL_isSet_25 : decode cL_isSet 25 = .ok (.bipush 20, 2) := by decide +kernel
theorem dL_isSet_27 : decode cL_isSet 27 = .ok (.irem, 1) := by decide +kernel
theorem dL_isSet_28 : decode cL_isSet 28 = .ok (.iadd, 1) := by decide +kernel
theorem dL_isSet_29 : decode cL_isSet 29 = .ok (.goto 44, 3) := by decide +kernel
theorem dL_isSet_32 : decode cL_isSet 32 = .ok (.iload 7, 2) := by decide +kernel
theorem dL_isSet_34 : decode cL_isSet 34 = .ok (.iconst 1, 1) := by decide +kernel
theorem dL_isSet_35 : decode cL_isSet 35 = .ok (.if_icmp .ne 13, 3) := by decide +kernel
theorem dL_isSet_38 : decode cL_isSet 38 = .ok (.iconst 1, 1) := by decide +kernel
theorem dL_isSet_39 : decode cL_isSet 39 = .ok (.iload 8, 2) := by decide +kernel
theorem dL_isSet_41 : decode cL_isSet 41 = .ok (.bipush 9, 2) := by decide +kernel
theorem dL_isSet_43 : decode cL_isSet 43 = .ok (.irem, 1) := by decide +kernel
theorem dL_isSet_44 : decode cL_isSet 44 = .ok (.iadd, 1) := by decide +kernel
theorem dL_isSet_45 : decode cL_isSet 45 = .ok (.goto 28, 3) := by decide +kernel
theorem dL_isSet_48 : decode cL_isSet 48 = .ok (.iload 7, 2) := by decide +kernel
theorem dL_isSet_50 : decode cL_isSet 50 = .ok (.iconst 2, 1) := by decide +kernel
theorem dL_isSet_51 : decode cL_isSet 51 = .ok (.if_icmp .ne 13, 3) := by decide +kernel
theorem dL_isSet_54 : decode cL_isSet 54 = .ok (.iconst 1, 1) := by decide +kernel
theorem dL_isSet_55 : decode cL_isSet 55 = .ok (.iload 8, 2) := by decide +kernel
theorem dL_isSet_57 : decode cL_isSet 57 = .ok (.bipush 100, 2) := by decide +kernel
theorem dL_isSet_59 : decode cL_isSet 59 = .ok (.irem, 1) := by decide +kernel
theorem dL_isSet_60 : decode cL_isSet 60 = .ok (.iadd, 1) := by decide +kernel
theorem dL_isSet_61 : decode cL_isSet 61 = .ok (.goto 12, 3) := by decide +kernel
theorem dL_isSet_64 : decode cL_isSet 64 = .ok (.bipush 10, 2) := by decide +kernel
theorem dL_isSet_66 : decode cL_isSet 66 = .ok (.iload 8, 2) := by decide +kernel
theorem dL_isSet_68 : decode cL_isSet 68 = .ok (.sipush 391, 3) := by decide +kernel
theorem dL_isSet_71 : decode cL_isSet 71 = .ok (.irem, 1) := by decide +kernel
theorem dL_isSet_72 : decode cL_isSet 72 = .ok (.iadd, 1) := by decide +kernel
theorem dL_isSet_73 : decode cL_isSet 73 = .ok (.istore 9, 2) := by decide +kernel
theorem dL_isSet_75 : decode cL_isSet 75 = .ok (.aload_n 1, 1) := by decide +kernel
theorem dL_isSet_76 : decode cL_isSet 76 = .ok (.iload 7, 2) := by decide +kernel
theorem dL_isSet_78 : decode cL_isSet 78 = .ok (.iaload, 1) := by decide +kernel
theorem dL_isSet_79 : decode cL_isSet 79 = .ok (.istore 10, 2) := by decide +kernel
theorem dL_isSet_81 : decode cL_isSet 81 = .ok (.aload_n 1, 1) := by decide +kernel
theorem dL_isSet_82 : decode cL_isSet 82 = .ok (.iload 7, 2) := by decide +kernel
theorem dL_isSet_84 : decode cL_isSet 84 = .ok (.iload 9, 2) := by decide +kernel
theorem dL_isSet_86 : decode cL_isSet 86 = .ok (.iastore, 1) := by decide +kernel
theorem dL_isSet_87 : decode cL_isSet 87 = .ok (.aload_n 0, 1) := by decide +kernel
theorem dL_isSet_88 : decode cL_isSet 88 = .ok (.iload 7, 2) := by decide +kernel
theorem dL_isSet_90 : decode cL_isSet 90 = .ok (.iload 9, 2) := by decide +kernel
theorem dL_isSet_92 : decode cL_isSet 92 = .ok (.invokevirtual 76, 3) := by decide +kernel
theorem dL_isSet_95 : decode cL_isSet 95 = .ok (.iload 10, 2) := by decide +kernel
theorem dL_isSet_97 : decode cL_isSet 97 = .ok (.if_icmp .ne 7, 3) := by decide +kernel
theorem dL_isSet_100 : decode cL_isSet 100 = .ok (.iconst 1, 1) := by decide +kernel
theorem dL_isSet_101 : decode cL_isSet 101 = .ok (.goto 4, 3) := by decide +kernel
theorem dL_isSet_104 : decode cL_isSet 104 = .ok (.iconst 0, 1) := by decide +kernel
theorem dL_isSet_105 : decode cL_isSet 105 = .ok (.ireturn, 1) := by decide +kernel
theorem dL_isSet_106 : decode cL_isSet 106 = .ok (.iload 5, 2) := by decide +kernel
theorem dL_isSet_108 : decode cL_isSet 108 = .ok (.iconst 4, 1) := by decide +kernel
theorem dL_isSet_109 : decode cL_isSet 109 = .ok (.if_icmp .ge 104, 3) := by decide +kernel
theorem dL_isSet_112 : decode cL_isSet 112 = .ok (.aload_n 2, 1) := by decide +kernel
theorem dL_isSet_113 : decode cL_isSet 113 = .ok (.iconst 4, 1) := by decide +kernel
theorem dL_isSet_114 : decode cL_isSet 114 = .ok (.iload 7, 2) := by decide +kernel
theorem dL_isSet_116 : decode cL_isSet 116 = .ok (.imul, 1) := by decide +kernel
theorem dL_isSet_117 : decode cL_isSet 117 = .ok (.iconst 3, 1) := by decide +kernel
theorem dL_isSet_118 : decode cL_isSet 118 = .ok (.iadd, 1) := by decide +kernel
theorem dL_isSet_119 : decode cL_isSet 119 = .ok (.iaload, 1) := by decide +kernel
theorem dL_isSet_120 : decode cL_isSet 120 = .ok (.istore 9, 2) := by decide +kernel
theorem dL_isSet_122 : decode cL_isSet 122 = .ok (.iconst 1, 1) := by decide +kernel
theorem dL_isSet_123 : decode cL_isSet 123 = .ok (.iload 8, 2) := by decide +kernel
theorem dL_isSet_125 : decode cL_isSet 125 = .ok (.bipush 9, 2) := by decide +kernel
theorem dL_isSet_127 : decode cL_isSet 127 = .ok (.irem, 1) := by decide +kernel
theorem dL_isSet_128 : decode cL_isSet 128 = .ok (.iadd, 1) := by decide +kernel
theorem dL_isSet_129 : decode cL_isSet 129 = .ok (.istore 10, 2) := by decide +kernel
theorem dL_isSet_131 : decode cL_isSet 131 = .ok (.iconst 1, 1) := by decide +kernel
theorem dL_isSet_132 : decode cL_isSet 132 = .ok (.iload 8, 2) := by decide +kernel
theorem dL_isSet_134 : decode cL_isSet 134 = .ok (.bipush 9, 2) := by decide +kernel
theorem dL_isSet_136 : decode cL_isSet 136 = .ok (.idiv, 1) := by decide +kernel
theorem dL_isSet_137 : decode cL_isSet 137 = .ok (.bipush 99, 2) := by decide +kernel
theorem dL_isSet_139 : decode cL_isSet 139 = .ok (.irem, 1) := by decide +kernel
theorem dL_isSet_140 : decode cL_isSet 140 = .ok (.iadd, 1) := by decide +kernel
theorem dL_isSet_141 : decode cL_isSet 141 = .ok (.istore 11, 2) := by decide +kernel
theorem dL_isSet_143 : decode cL_isSet 143 = .ok (.iload 9, 2) := by decide +kernel
theorem dL_isSet_145 : decode cL_isSet 145 = .ok (.bipush 6, 2) := by decide +kernel
theorem dL_isSet_147 : decode cL_isSet 147 = .ok (.if_icmp .ge 33, 3) := by decide +kernel
theorem dL_isSet_150 : decode cL_isSet 150 = .ok (.aload_n 3, 1) := by decide +kernel
theorem dL_isSet_151 : decode cL_isSet 151 = .ok (.bipush 6, 2) := by decide +kernel
theorem dL_isSet_153 : decode cL_isSet 153 = .ok (.iload 7, 2) := by decide +kernel
theorem dL_isSet_155 : decode cL_isSet 155 = .ok (.imul, 1) := by decide +kernel
theorem dL_isSet_156 : decode cL_isSet 156 = .ok (.iload 9, 2) := by decide +kernel
theorem dL_isSet_158 : decode cL_isSet 158 = .ok (.iadd, 1) := by decide +kernel
theorem dL_isSet_159 : decode cL_isSet 159 = .ok (.iload 10, 2) := by decide +kernel
theorem dL_isSet_161 : decode cL_isSet 161 = .ok (.bipush 64, 2) := by decide +kernel
theorem dL_isSet_163 : decode cL_isSet 163 = .ok (.iload 11, 2) := by decide +kernel
theorem dL_isSet_165 : decode cL_isSet 165 = .ok (.imul, 1) := by decide +kernel
theorem dL_isSet_166 : decode cL_isSet 166 = .ok (.iadd, 1) := by decide +kernel
theorem dL_isSet_167 : decode cL_isSet 167 = .ok (.iastore, 1) := by decide +kernel
theorem dL_isSet_168 : decode cL_isSet 168 = .ok (.aload_n 2, 1) := by decide +kernel
theorem dL_isSet_169 : decode cL_isSet 169 = .ok (.iconst 4, 1) := by decide +kernel
theorem dL_isSet_170 : decode cL_isSet 170 = .ok (.iload 7, 2) := by decide +kernel
theorem dL_isSet_172 : decode cL_isSet 172 = .ok (.imul, 1) := by decide +kernel
theorem dL_isSet_173 : decode cL_isSet 173 = .ok (.iconst 3, 1) := by decide +kernel
theorem dL_isSet_174 : decode cL_isSet 174 = .ok (.iadd, 1) := by decide +kernel
theorem dL_isSet_175 : decode cL_isSet 175 = .ok (.dup2, 1) := by decide +kernel
theorem dL_isSet_176 : decode cL_isSet 176 = .ok (.iaload, 1) := by decide +kernel
theorem dL_isSet_177 : decode cL_isSet 177 = .ok (.iconst 1, 1) := by decide +kernel
theorem dL_isSet_178 : decode cL_isSet 178 = .ok (.iadd, 1) := by decide +kernel
theorem dL_isSet_179 : decode cL_isSet 179 = .ok (.iastore, 1) := by decide +kernel
theorem dL_isSet_180 : decode cL_isSet 180 = .ok (.aload_n 0, 1) := by decide +kernel
theorem dL_isSet_181 : decode cL_isSet 181 = .ok (.iload 7, 2) := by decide +kernel
theorem dL_isSet_183 : decode cL_isSet 183 = .ok (.iload 10, 2) := by decide +kernel
theorem dL_isSet_185 : decode cL_isSet 185 = .ok (.iload 11, 2) := by decide +kernel
theorem dL_isSet_187 : decode cL_isSet 187 = .ok (.invokevirtual 79, 3) := by decide +kernel
theorem dL_isSet_190 : decode cL_isSet 190 = .ok (.iload 9, 2) := by decide +kernel
theorem dL_isSet_192 : decode cL_isSet 192 = .ok (.bipush 6, 2) := by decide +kernel
theorem dL_isSet_194 : decode cL_isSet 194 = .ok (.if_icmp .ge 8, 3) := by decide +kernel
theorem dL_isSet_197 : decode cL_isSet 197 = .ok (.iload 9, 2) := by decide +kernel
theorem dL_isSet_199 : decode cL_isSet 199 = .ok (.goto 5, 3) := by decide +kernel
theorem dL_isSet_202 : decode cL_isSet 202 = .ok (.bipush (-4), 2) := by decide +kernel
theorem dL_isSet_204 : decode cL_isSet 204 = .ok (.if_icmp .ne 7, 3) := by decide +kernel
theorem dL_isSet_207 : decode cL_isSet 207 = .ok (.iconst 1, 1) := by decide +kernel
theorem dL_isSet_208 : decode cL_isSet 208 = .ok (.goto 4, 3) := by decide +kernel
theorem dL_isSet_211 : decode cL_isSet 211 = .ok (.iconst 0, 1) := by decide +kernel
theorem dL_isSet_212 : decode cL_isSet 212 = .ok (.ireturn, 1) := by decide +kernel
theorem dL_isSet_213 : decode cL_isSet 213 = .ok (.aload 4, 2) := by decide +kernel
theorem dL_isSet_215 : decode cL_isSet 215 = .ok (.iconst 2, 1) := by decide +kernel
theorem dL_isSet_216 : decode cL_isSet 216 = .ok (.iload 7, 2) := by decide +kernel
theorem dL_isSet_218 : decode cL_isSet 218 = .ok (.imul, 1) := by decide +kernel
theorem dL_isSet_219 : decode cL_isSet 219 = .ok (.iconst 1, 1) := by decide +kernel
theorem dL_isSet_220 : decode cL_isSet 220 = .ok (.iadd, 1) := by decide +kernel
theorem dL_isSet_221 : decode cL_isSet 221 = .ok (.iaload, 1) := by decide +kernel
theorem dL_isSet_222 : decode cL_isSet 222 = .ok (.istore 9, 2) := by decide +kernel
theorem dL_isSet_224 : decode cL_isSet 224 = .ok (.aload 4, 2) := by decide +kernel
theorem dL_isSet_226 : decode cL_isSet 226 = .ok (.iconst 2, 1) := by decide +kernel
theorem dL_isSet_227 : decode cL_isSet 227 = .ok (.iload 7, 2) := by decide +kernel
theorem dL_isSet_229 : decode cL_isSet 229 = .ok (.imul, 1) := by decide +kernel
theorem dL_isSet_230 : decode cL_isSet 230 = .ok (.iconst 1, 1) := by decide +kernel
theorem dL_isSet_231 : decode cL_isSet 231 = .ok (.iadd, 1) := by decide +kernel
theorem dL_isSet_232 : decode cL_isSet 232 = .ok (.iload 8, 2) := by decide +kernel
theorem dL_isSet_234 : decode cL_isSet 234 = .ok (.bipush 101, 2) := by decide +kernel
theorem dL_isSet_236 : decode cL_isSet 236 = .ok (.irem, 1) := by decide +kernel
theorem dL_isSet_237 : decode cL_isSet 237 = .ok (.iastore, 1) := by decide +kernel
theorem dL_isSet_238 : decode cL_isSet 238 = .ok (.aload_n 0, 1) := by decide +kernel
theorem dL_isSet_239 : decode cL_isSet 239 = .ok (.iload 7, 2) := by decide +kernel
theorem dL_isSet_241 : decode cL_isSet 241 = .ok (.iload 8, 2) := by decide +kernel
theorem dL_isSet_243 : decode cL_isSet 243 = .ok (.bipush 101, 2) := by decide +kernel
theorem dL_isSet_245 : decode cL_isSet 245 = .ok (.irem, 1) := by decide +kernel
theorem dL_isSet_246 : decode cL_isSet 246 = .ok (.invokevirtual 82, 3) := by decide +kernel
theorem dL_isSet_249 : decode cL_isSet 249 = .ok (.iload 9, 2) := by decide +kernel
theorem dL_isSet_251 : decode cL_isSet 251 = .ok (.if_icmp .ne 7, 3) := by decide +kernel
theorem dL_isSet_254 : decode cL_isSet 254 = .ok (.iconst 1, 1) := by decide +kernel
theorem dL_isSet_255 : decode cL_isSet 255 = .ok (.goto 4, 3) := by decide +kernel
theorem dL_isSet_258 : decode cL_isSet 258 = .ok (.iconst 0, 1) := by decide +kernel
theorem dL_isSet_259 : decode cL_isSet 259 = .ok (.ireturn, 1) := by decide +kernel
theorem dL_law_0 : decode cL_law 0 = .ok (.new 28, 3) := by decide +kernel
theorem dL_law_3 : decode cL_law 3 = .ok (.dup, 1) := by decide +kernel
theorem dL_law_4 : decode cL_law 4 = .ok (.invokespecial 85, 3) := by decide +kernel
theorem dL_law_7 : decode cL_law 7 = .ok (.astore_n 1, 1) := by decide +kernel
theorem dL_law_8 : decode cL_law 8 = .ok (.bipush 8, 2) := by decide +kernel
theorem dL_law_10 : decode cL_law 10 = .ok (.newarray .int, 2) := by decide +kernel
theorem dL_law_12 : decode cL_law 12 = .ok (.astore_n 2, 1) := by decide +kernel
theorem dL_law_13 : decode cL_law 13 = .ok (.bipush 25, 2) := by decide +kernel
theorem dL_law_15 : decode cL_law 15 = .ok (.newarray .int, 2) := by decide +kernel
theorem dL_law_17 : decode cL_law 17 = .ok (.astore_n 3, 1) := by decide +kernel
theorem dL_law_18 : decode cL_law 18 = .ok (.bipush 25, 2) := by decide +kernel
theorem dL_law_20 : decode cL_law 20 = .ok (.newarray .int, 2) := by decide +kernel
theorem dL_law_22 : decode cL_law 22 = .ok (.astore 4, 2) := by decide +kernel
theorem dL_law_24 : decode cL_law 24 = .ok (.bipush 16, 2) := by decide +kernel
theorem dL_law_26 : decode cL_law 26 = .ok (.newarray .int, 2) := by decide +kernel
theorem dL_law_28 : decode cL_law 28 = .ok (.astore 5, 2) := by decide +kernel
theorem dL_law_30 : decode cL_law 30 = .ok (.bipush 24, 2) := by decide +kernel
theorem dL_law_32 : decode cL_law 32 = .ok (.newarray .int, 2) := by decide +kernel
theorem dL_law_34 : decode cL_law 34 = .ok (.astore 6, 2) := by decide +kernel
theorem dL_law_36 : decode cL_law 36 = .ok (.bipush 8, 2) := by decide +kernel
theorem dL_law_38 : decode cL_law 38 = .ok (.newarray .int, 2) := by decide +kernel
theorem dL_law_40 : decode cL_law 40 = .ok (.astore 7, 2) := by decide +kernel
theorem dL_law_42 : decode cL_law 42 = .ok (.bipush 25, 2) := by decide +kernel
theorem dL_law_44 : decode cL_law 44 = .ok (.newarray .int, 2) := by decide +kernel
theorem dL_law_46 : decode cL_law 46 = .ok (.astore 8, 2) := by decide +kernel
theorem dL_law_48 : decode cL_law 48 = .ok (.bipush 25, 2) := by decide +kernel
theorem dL_law_50 : decode cL_law 50 = .ok (.newarray .int, 2) := by decide +kernel
theorem dL_law_52 : decode cL_law 52 = .ok (.astore 9, 2) := by decide +kernel
theorem dL_law_54 : decode cL_law 54 = .ok (.bipush 64, 2) := by decide +kernel
theorem dL_law_56 : decode cL_law 56 = .ok (.newarray .int, 2) := by decide +kernel
theorem dL_law_58 : decode cL_law 58 = .ok (.astore 10, 2) := by decide +kernel
theorem dL_law_60 : decode cL_law 60 = .ok (.aload_n 2, 1) := by decide +kernel
theorem dL_law_61 : decode cL_law 61 = .ok (.iconst 0, 1) := by decide +kernel
theorem dL_law_62 : decode cL_law 62 = .ok (.iconst 4, 1) := by decide +kernel
theorem dL_law_63 : decode cL_law 63 = .ok (.iastore, 1) := by decide +kernel
theorem dL_law_64 : decode cL_law 64 = .ok (.aload_n 2, 1) := by decide +kernel
theorem dL_law_65 : decode cL_law 65 = .ok (.iconst 1, 1) := by decide +kernel
theorem dL_law_66 : decode cL_law 66 = .ok (.iconst 2, 1) := by decide +kernel
theorem dL_law_67 : decode cL_law 67 = .ok (.iastore, 1) := by decide +kernel
theorem dL_law_68 : decode cL_law 68 = .ok (.aload_n 2, 1) := by decide +kernel
theorem dL_law_69 : decode cL_law 69 = .ok (.iconst 2, 1) := by decide +kernel
theorem dL_law_70 : decode cL_law 70 = .ok (.bipush 10, 2) := by decide +kernel
theorem dL_law_72 : decode cL_law 72 = .ok (.iastore, 1) := by decide +kernel
theorem dL_law_73 : decode cL_law 73 = .ok (.aload_n 2, 1) := by decide +kernel
theorem dL_law_74 : decode cL_law 74 = .ok (.iconst 3, 1) := by decide +kernel
theorem dL_law_75 : decode cL_law 75 = .ok (.sipush 150, 3) := by decide +kernel
theorem dL_law_78 : decode cL_law 78 = .ok (.iastore, 1) := by decide +kernel
theorem dL_law_79 : decode cL_law 79 = .ok (.iconst 0, 1) := by decide +kernel
theorem dL_law_80 : decode cL_law 80 = .ok (.istore 11, 2) := by decide +kernel
theorem dL_law_82 : decode cL_law 82 = .ok (.iload 11, 2) := by decide +kernel
theorem dL_law_84 : decode cL_law 84 = .ok (.bipush 8, 2) := by decide +kernel
theorem dL_law_86 : decode cL_law 86 = .ok (.if_icmp .ge 16, 3) := by decide +kernel
theorem dL_law_89 : decode cL_law 89 = .ok (.aload 7, 2) := by decide +kernel
theorem dL_law_91 : decode cL_law 91 = .ok (.iload 11, 2) := by decide +kernel
theorem dL_law_93 : decode cL_law 93 = .ok (.bipush 50, 2) := by decide +kernel
theorem dL_law_95 : decode cL_law 95 = .ok (.iastore, 1) := by decide +kernel
theorem dL_law_96 : decode cL_law 96 = .ok (.iinc 11 1, 3) := by decide +kernel
theorem dL_law_99 : decode cL_law 99 = .ok (.goto (-17), 3) := by decide +kernel
theorem dL_law_102 : decode cL_law 102 = .ok (.iconst 1, 1) := by decide +kernel
theorem dL_law_103 : decode cL_law 103 = .ok (.istore 11, 2) := by decide +kernel
theorem dL_law_105 : decode cL_law 105 = .ok (.iconst 0, 1) := by decide +kernel
theorem dL_law_106 : decode cL_law 106 = .ok (.istore 12, 2) := by decide +kernel
theorem dL_law_108 : decode cL_law 108 = .ok (.iload 12, 2) := by decide +kernel
theorem dL_law_110 : decode cL_law 110 = .ok (.bipush 6, 2) := by decide +kernel
theorem dL_law_112 : decode cL_law 112 = .ok (.if_icmp .ge 46, 3) := by decide +kernel
theorem dL_law_115 : decode cL_law 115 = .ok (.iload 11, 2) := by decide +kernel
theorem dL_law_117 : decode cL_law 117 = .ok (.ifCond .eq 41, 3) := by decide +kernel
theorem dL_law_120 : decode cL_law 120 = .ok (.aload_n 1, 1) := by decide +kernel
theorem dL_law_121 : decode cL_law 121 = .ok (.aload_n 2, 1) := by decide +kernel
theorem dL_law_122 : decode cL_law 122 = .ok (.aload 5, 2) := by decide +kernel
theorem dL_law_124 : decode cL_law 124 = .ok (.aload 6, 2) := by decide +kernel
theorem dL_law_126 : decode cL_law 126 = .ok (.aload 7, 2) := by decide +kernel
theorem dL_law_128 : decode cL_law 128 = .ok (.iconst 1, 1) := by decide +kernel
theorem dL_law_129 : decode cL_law 129 = .ok (.aload_n 0, 1) := by decide +kernel
theorem dL_law_130 : decode cL_law 130 = .ok (.iload 12, 2) := by decide +kernel
theorem dL_law_132 : decode cL_law 132 = .ok (.invokestatic 86, 3) := by decide +kernel
theorem dL_law_135 : decode cL_law 135 = .ok (.ldc 8, 2) := by decide +kernel
theorem dL_law_137 : decode cL_law 137 = .ok (.iand, 1) := by decide +kernel
theorem dL_law_138 : decode cL_law 138 = .ok (.iconst 4, 1) := by decide +kernel
theorem dL_law_139 : decode cL_law 139 = .ok (.idiv, 1) := by decide +kernel
theorem dL_law_140 : decode cL_law 140 = .ok (.iconst 4, 1) := by decide +kernel
theorem dL_law_141 : decode cL_law 141 = .ok (.imul, 1) := by decide +kernel
theorem dL_law_142 : decode cL_law 142 = .ok (.iload 12, 2) := by decide +kernel
theorem dL_law_144 : decode cL_law 144 = .ok (.iconst 3, 1) := by decide +kernel
theorem dL_law_145 : decode cL_law 145 = .ok (.irem, 1) := by decide +kernel
theorem dL_law_146 : decode cL_law 146 = .ok (.iadd, 1) := by decide +kernel
theorem dL_law_147 : decode cL_law 147 = .ok (.invokestatic 90, 3) := by decide +kernel
theorem dL_law_150 : decode cL_law 150 = .ok (.istore 11, 2) := by decide +kernel
theorem dL_law_152 : decode cL_law 152 = .ok (.iinc 12 1, 3) := by decide +kernel
theorem dL_law_155 : decode cL_law 155 = .ok (.goto (-47), 3) := by decide +kernel
theorem dL_law_158 : decode cL_law 158 = .ok (.bipush 6, 2) := by decide +kernel
theorem dL_law_160 : decode cL_law 160 = .ok (.istore 12, 2) := by decide +kernel
theorem dL_law_162 : decode cL_law 162 = .ok (.iload 12, 2) := by decide +kernel
theorem dL_law_164 : decode cL_law 164 = .ok (.bipush 60, 2) := by decide +kernel
theorem dL_law_166 : decode cL_law 166 = .ok (.if_icmp .ge 292, 3) := by decide +kernel
theorem dL_law_169 : decode cL_law 169 = .ok (.iload 11, 2) := by decide +kernel
theorem dL_law_171 : decode cL_law 171 = .ok (.ifCond .eq 287, 3) := by decide +kernel
theorem dL_law_174 : decode cL_law 174 = .ok (.aload_n 0, 1) := by decide +kernel
theorem dL_law_175 : decode cL_law 175 = .ok (.iload 12, 2) := by decide +kernel
theorem dL_law_177 : decode cL_law 177 = .ok (.invokestatic 86, 3) := by decide +kernel
theorem dL_law_180 : decode cL_law 180 = .ok (.ldc 8, 2) := by decide +kernel
theorem dL_law_182 : decode cL_law 182 = .ok (.iand, 1) := by decide +kernel
theorem dL_law_183 : decode cL_law 183 = .ok (.istore 13, 2) := by decide +kernel
theorem dL_law_185 : decode cL_law 185 = .ok (.iload 13, 2) := by decide +kernel
theorem dL_law_187 : decode cL_law 187 = .ok (.bipush 29, 2) := by decide +kernel
theorem dL_law_189 : decode cL_law 189 = .ok (.irem, 1) := by decide +kernel
theorem dL_law_190 : decode cL_law 190 = .ok (.istore 14, 2) := by decide +kernel
theorem dL_law_192 : decode cL_law 192 = .ok (.iload 13, 2) := by decide +kernel
theorem dL_law_194 : decode cL_law 194 = .ok (.bipush 29, 2) := by decide +kernel
theorem dL_law_196 : decode cL_law 196 = .ok (.idiv, 1) := by decide +kernel
theorem dL_law_197 : decode cL_law 197 = .ok (.istore 15, 2) := by decide +kernel
theorem dL_law_199 : decode cL_law 199 = .ok (.iload 14, 2) := by decide +kernel
theorem dL_law_201 : decode cL_law 201 = .ok (.bipush 16, 2) := by decide +kernel
theorem dL_law_203 : decode cL_law 203 = .ok (.if_icmp .ge 22, 3) := by decide +kernel
theorem dL_law_206 : decode cL_law 206 = .ok (.aload_n 1, 1) := by decide +kernel
theorem dL_law_207 : decode cL_law 207 = .ok (.aload_n 2, 1) := by decide +kernel
theorem dL_law_208 : decode cL_law 208 = .ok (.aload_n 3, 1) := by decide +kernel
theorem dL_law_209 : decode cL_law 209 = .ok (.aload 4, 2) := by decide +kernel
theorem dL_law_211 : decode cL_law 211 = .ok (.aload 5, 2) := by decide +kernel
theorem dL_law_213 : decode cL_law 213 = .ok (.iload 14, 2) := by decide +kernel
theorem dL_law_215 : decode cL_law 215 = .ok (.iload 15, 2) := by decide +kernel
theorem dL_law_217 : decode cL_law 217 = .ok (.invokestatic 94, 3) := by decide +kernel
theorem dL_law_220 : decode cL_law 220 = .ok (.istore 11, 2) := by decide +kernel
theorem dL_law_222 : decode cL_law 222 = .ok (.goto 177, 3) := by decide +kernel
theorem dL_law_225 : decode cL_law 225 = .ok (.iload 14, 2) := by decide +kernel
theorem dL_law_227 : decode cL_law 227 = .ok (.bipush 20, 2) := by decide +kernel
theorem dL_law_229 : decode cL_law 229 = .ok (.if_icmp .ge 39, 3) := by decide +kernel
theorem dL_law_232 : decode cL_law 232 = .ok (.aload_n 1, 1) := by decide +kernel
theorem dL_law_233 : decode cL_law 233 = .ok (.aload_n 2, 1) := by decide +kernel
theorem dL_law_234 : decode cL_law 234 = .ok (.aload 5, 2) := by decide +kernel
theorem dL_law_236 : decode cL_law 236 = .ok (.aload 6, 2) := by decide +kernel
theorem dL_law_238 : decode cL_law 238 = .ok (.aload 7, 2) := by decide +kernel
theorem dL_law_240 : decode cL_law 240 = .ok (.iload 14, 2) := by decide +kernel
theorem dL_law_242 : decode cL_law 242 = .ok (.bipush 16, 2) := by decide +kernel
theorem dL_law_244 : decode cL_law 244 = .ok (.isub, 1) := by decide +kernel
theorem dL_law_245 : decode cL_law 245 = .ok (.iconst 3, 1) := by decide +kernel
theorem dL_law_246 : decode cL_law 246 = .ok (.if_icmp .ne 7, 3) := by decide +kernel
theorem dL_law_249 : decode cL_law 249 = .ok (.iconst 4, 1) := by decide +kernel
theorem dL_law_250 : decode cL_law 250 = .ok (.goto 8, 3) := by decide +kernel
theorem dL_law_253 : decode cL_law 253 = .ok (.iload 14, 2) := by decide +kernel
theorem dL_law_255 : decode cL_law 255 = .ok (.bipush 16, 2) := by decide +kernel
theorem dL_law_257 : decode cL_law 257 = .ok (.isub, 1) := by decide +kernel
theorem dL_law_258 : decode cL_law 258 = .ok (.iload 15, 2) := by decide +kernel
theorem dL_law_260 : decode cL_law 260 = .ok (.invokestatic 90, 3) := by decide +kernel
theorem dL_law_263 : decode cL_law 263 = .ok (.istore 11, 2) := by decide +kernel
theorem dL_law_265 : decode cL_law 265 = .ok (.goto 134, 3) := by decide +kernel
theorem dL_law_268 : decode cL_law 268 = .ok (.iload 14, 2) := by decide +kernel
theorem dL_law_270 : decode cL_law 270 = .ok (.bipush 20, 2) := by decide +kernel
theorem dL_law_272 : decode cL_law 272 = .ok (.if_icmp .ne 46, 3) := by decide +kernel
theorem dL_law_275 : decode cL_law 275 = .ok (.iload 15, 2) := by decide +kernel
theorem dL_law_277 : decode cL_law 277 = .ok (.iconst 5, 1) := by decide +kernel
theorem dL_law_278 : decode cL_law 278 = .ok (.irem, 1) := by decide +kernel
theorem dL_law_279 : decode cL_law 279 = .ok (.ifCond .ne 39, 3) := by decide +kernel
theorem dL_law_282 : decode cL_law 282 = .ok (.aload_n 2, 1) := by decide +kernel
theorem dL_law_283 : decode cL_law 283 = .ok (.iconst 4, 1) := by decide +kernel
theorem dL_law_284 : decode cL_law 284 = .ok (.iaload, 1) := by decide +kernel
theorem dL_law_285 : decode cL_law 285 = .ok (.istore 16, 2) := by decide +kernel
theorem dL_law_287 : decode cL_law 287 = .ok (.aload_n 2, 1) := by decide +kernel
theorem dL_law_288 : decode cL_law 288 = .ok (.aload 4, 2) := by decide +kernel
theorem dL_law_290 : decode cL_law 290 = .ok (.aload 5, 2) := by decide +kernel
theorem dL_law_292 : decode cL_law 292 = .ok (.aload 6, 2) := by decide +kernel
theorem dL_law_294 : decode cL_law 294 = .ok (.aload 7, 2) := by decide +kernel
theorem dL_law_296 : decode cL_law 296 = .ok (.invokestatic 97, 3) := by decide +kernel
theorem dL_law_299 : decode cL_law 299 = .ok (.aload_n 1, 1) := by decide +kernel
theorem dL_law_300 : decode cL_law 300 = .ok (.invokevirtual 101, 3) := by decide +kernel
theorem dL_law_303 : decode cL_law 303 = .ok (.iload 16, 2) := by decide +kernel
theorem dL_law_305 : decode cL_law 305 = .ok (.if_icmp .ne 7, 3) := by decide +kernel
theorem dL_law_308 : decode cL_law 308 = .ok (.iconst 1, 1) := by decide +kernel
theorem dL_law_309 : decode cL_law 309 = .ok (.goto 4, 3) := by decide +kernel
theorem dL_law_312 : decode cL_law 312 = .ok (.iconst 0, 1) := by decide +kernel
theorem dL_law_313 : decode cL_law 313 = .ok (.istore 11, 2) := by decide +kernel
theorem dL_law_315 : decode cL_law 315 = .ok (.goto 84, 3) := by decide +kernel
theorem dL_law_318 : decode cL_law 318 = .ok (.iconst 1, 1) := by decide +kernel
theorem dL_law_319 : decode cL_law 319 = .ok (.iload 15, 2) := by decide +kernel
theorem dL_law_321 : decode cL_law 321 = .ok (.iload 14, 2) := by decide +kernel
theorem dL_law_323 : decode cL_law 323 = .ok (.bipush 24, 2) := by decide +kernel
theorem dL_law_325 : decode cL_law 325 = .ok (.if_icmp .ge 8, 3) := by decide +kernel
theorem dL_law_328 : decode cL_law 328 = .ok (.bipush 20, 2) := by decide +kernel
theorem dL_law_330 : decode cL_law 330 = .ok (.goto 4, 3) := by decide +kernel
theorem dL_law_333 : decode cL_law 333 = .ok (.iconst 4, 1) := by decide +kernel
theorem dL_law_334 : decode cL_law 334 = .ok (.irem, 1) := by decide +kernel
theorem dL_law_335 : decode cL_law 335 = .ok (.iadd, 1) := by decide +kernel
theorem dL_law_336 : decode cL_law 336 = .ok (.istore 16, 2) := by decide +kernel
theorem dL_law_338 : decode cL_law 338 = .ok (.iconst 0, 1) := by decide +kernel
theorem dL_law_339 : decode cL_law 339 = .ok (.istore 17, 2) := by decide +kernel
theorem dL_law_341 : decode cL_law 341 = .ok (.iconst 0, 1) := by decide +kernel
theorem dL_law_342 : decode cL_law 342 = .ok (.istore 18, 2) := by decide +kernel
theorem dL_law_344 : decode cL_law 344 = .ok (.iload 18, 2) := by decide +kernel
theorem dL_law_346 : decode cL_law 346 = .ok (.iload 16, 2) := by decide +kernel
theorem dL_law_348 : decode cL_law 348 = .ok (.if_icmp .ge 33, 3) := by decide +kernel
theorem dL_law_351 : decode cL_law 351 = .ok (.iload 17, 2) := by decide +kernel
theorem dL_law_353 : decode cL_law 353 = .ok (.aload_n 2, 1) := by decide +kernel
theorem dL_law_354 : decode cL_law 354 = .ok (.aload_n 3, 1) := by decide +kernel
theorem dL_law_355 : decode cL_law 355 = .ok (.aload 4, 2) := by decide +kernel
theorem dL_law_357 : decode cL_law 357 = .ok (.aload 5, 2) := by decide +kernel
theorem dL_law_359 : decode cL_law 359 = .ok (.aload 6, 2) := by decide +kernel
theorem dL_law_361 : decode cL_law 361 = .ok (.aload 7, 2) := by decide +kernel
theorem dL_law_363 : decode cL_law 363 = .ok (.aload 8, 2) := by decide +kernel
theorem dL_law_365 : decode cL_law 365 = .ok (.aload 9, 2) := by decide +kernel
theorem dL_law_367 : decode cL_law 367 = .ok (.aload 10, 2) := by decide +kernel
theorem dL_law_369 : decode cL_law 369 = .ok (.invokestatic 105, 3) := by decide +kernel
theorem dL_law_372 : decode cL_law 372 = .ok (.iadd, 1) := by decide +kernel
theorem dL_law_373 : decode cL_law 373 = .ok (.istore 17, 2) := by decide +kernel
theorem dL_law_375 : decode cL_law 375 = .ok (.iinc 18 1, 3) := by decide +kernel
theorem dL_law_378 : decode cL_law 378 = .ok (.goto (-34), 3) := by decide +kernel
theorem dL_law_381 : decode cL_law 381 = .ok (.aload_n 1, 1) := by decide +kernel
theorem dL_law_382 : decode cL_law 382 = .ok (.iload 16, 2) := by decide +kernel
theorem dL_law_384 : decode cL_law 384 = .ok (.invokevirtual 109, 3) := by decide +kernel
theorem dL_law_387 : decode cL_law 387 = .ok (.iload 17, 2) := by decide +kernel
theorem dL_law_389 : decode cL_law 389 = .ok (.if_icmp .ne 7, 3) := by decide +kernel
theorem dL_law_392 : decode cL_law 392 = .ok (.iconst 1, 1) := by decide +kernel
theorem dL_law_393 : decode cL_law 393 = .ok (.goto 4, 3) := by decide +kernel
theorem dL_law_396 : decode cL_law 396 = .ok (.iconst 0, 1) := by decide +kernel
theorem dL_law_397 : decode cL_law 397 = .ok (.istore 11, 2) := by decide +kernel
theorem dL_law_399 : decode cL_law 399 = .ok (.iload 11, 2) := by decide +kernel
theorem dL_law_401 : decode cL_law 401 = .ok (.ifCond .eq 48, 3) := by decide +kernel
theorem dL_law_404 : decode cL_law 404 = .ok (.aload_n 1, 1) := by decide +kernel
theorem dL_law_405 : decode cL_law 405 = .ok (.aload_n 2, 1) := by decide +kernel
theorem dL_law_406 : decode cL_law 406 = .ok (.aload_n 3, 1) := by decide +kernel
theorem dL_law_407 : decode cL_law 407 = .ok (.aload 4, 2) := by decide +kernel
theorem dL_law_409 : decode cL_law 409 = .ok (.invokestatic 112, 3) := by decide +kernel
theorem dL_law_412 : decode cL_law 412 = .ok (.ifCond .eq 37, 3) := by decide +kernel
theorem dL_law_415 : decode cL_law 415 = .ok (.aload_n 1, 1) := by decide +kernel
theorem dL_law_416 : decode cL_law 416 = .ok (.aload_n 2, 1) := by decide +kernel
theorem dL_law_417 : decode cL_law 417 = .ok (.aload 4, 2) := by decide +kernel
theorem dL_law_419 : decode cL_law 419 = .ok (.aload 5, 2) := by decide +kernel
theorem dL_law_421 : decode cL_law 421 = .ok (.aload 6, 2) := by decide +kernel
theorem dL_law_423 : decode cL_law 423 = .ok (.aload 7, 2) := by decide +kernel
theorem dL_law_425 : decode cL_law 425 = .ok (.aload 8, 2) := by decide +kernel
theorem dL_law_427 : decode cL_law 427 = .ok (.aload 9, 2) := by decide +kernel
theorem dL_law_429 : decode cL_law 429 = .ok (.invokestatic 116, 3) := by decide +kernel
theorem dL_law_432 : decode cL_law 432 = .ok (.ifCond .eq 17, 3) := by decide +kernel
theorem dL_law_435 : decode cL_law 435 = .ok (.aload_n 1, 1) := by decide +kernel
theorem dL_law_436 : decode cL_law 436 = .ok (.aload_n 2, 1) := by decide +kernel
theorem dL_law_437 : decode cL_law 437 = .ok (.aload 10, 2) := by decide +kernel
theorem dL_law_439 : decode cL_law 439 = .ok (.invokestatic 120, 3) := by decide +kernel
theorem dL_law_442 : decode cL_law 442 = .ok (.ifCond .eq 7, 3) := by decide +kernel
theorem dL_law_445 : decode cL_law 445 = .ok (.iconst 1, 1) := by decide +kernel
theorem dL_law_446 : decode cL_law 446 = .ok (.goto 4, 3) := by decide +kernel
theorem dL_law_449 : decode cL_law 449 = .ok (.iconst 0, 1) := by decide +kernel
theorem dL_law_450 : decode cL_law 450 = .ok (.istore 11, 2) := by decide +kernel
theorem dL_law_452 : decode cL_law 452 = .ok (.iinc 12 1, 3) := by decide +kernel
theorem dL_law_455 : decode cL_law 455 = .ok (.goto (-293), 3) := by decide +kernel
theorem dL_law_458 : decode cL_law 458 = .ok (.iload 11, 2) := by decide +kernel
theorem dL_law_460 : decode cL_law 460 = .ok (.ireturn, 1) := by decide +kernel
