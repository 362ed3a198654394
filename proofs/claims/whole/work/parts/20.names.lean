/-! Names: classes, fields. By a program of mine. -/
def zCh (k : Nat) : List Cond := match k with
  | 0 => k2_sels lw_privs
  | 1 => tables_1_1
  | 2 => tables_1_2
  | 3 => tables_1_3
  | 4 => tables_1_4
  | 5 => tables_1_5
  | 6 => tables_1_6
  | 7 => tables_1_7
  | 8 => tables_1_8
  | 9 => tables_1_9
  | _ => []
def zPk (q : Nat × Nat) : Option Cond := (zCh q.1)[q.2]?
theorem zCh_in (k : Nat) : ∀ w ∈ zCh k, w ∈ lw_tbl := by
  intro w hw
  unfold zCh at hw
  unfold lw_tbl tables_1
  simp only [List.mem_append]
  split at hw
  · exact Or.inl hw
  · exact Or.inr (Or.inl hw)
  · exact Or.inr (Or.inr (Or.inl hw))
  · exact Or.inr (Or.inr (Or.inr (Or.inl hw)))
  · exact Or.inr (Or.inr (Or.inr (Or.inr (Or.inl hw))))
  · exact Or.inr (Or.inr (Or.inr (Or.inr (Or.inr (Or.inl hw)))))
  · exact Or.inr (Or.inr (Or.inr (Or.inr (Or.inr (Or.inr (Or.inl hw))))))
  · exact Or.inr (Or.inr (Or.inr (Or.inr (Or.inr (Or.inr (Or.inr (Or.inl hw)))))))
  · exact Or.inr (Or.inr (Or.inr (Or.inr (Or.inr (Or.inr (Or.inr (Or.inr (Or.inl hw))))))))
  · exact Or.inr (Or.inr (Or.inr (Or.inr (Or.inr (Or.inr (Or.inr (Or.inr (Or.inr (hw)))))))))
  · cases hw
theorem zPk_in {q : Nat × Nat} {w : Cond} (h : zPk q = some w) : w ∈ lw_tbl := zCh_in q.1 w (List.mem_of_getElem? h)
def zAll (ps : List (Nat × Nat)) (ws : List Cond) : Bool := decide (ps.map zPk = ws.map some)
theorem zAll_in {ps : List (Nat × Nat)} {ws : List Cond} (h : zAll ps ws = true) : ∀ w ∈ ws, w ∈ lw_tbl := by
  intro w hw
  have h1 : ps.map zPk = ws.map some := of_decide_eq_true h
  have h2 : some w ∈ ps.map zPk := by rw [h1]; exact List.mem_map.mpr ⟨w, hw, rfl⟩
  obtain ⟨q, -, hq⟩ := List.mem_map.mp h2
  exact zPk_in hq
def zT0 : u_T := fun k => match k with
  | 0 => ("NumberComes", "now", "LNumberComes$State;", true)
  | 1 => ("NumberComes", "kept", "LNumberComes$State;", true)
  | 2 => ("NumberComes", "texts", "[LNumberComes$Text;", true)
  | 3 => ("NumberComes", "reader", "LNumberComes$Reader;", true)
  | 4 => ("NumberComes", "voices", "LNumberComes$Voices;", true)
  | 5 => ("NumberComes", "meetings", "LNumberComes$Meetings;", true)
  | 6 => ("NumberComes", "turns", "LNumberComes$Turns;", true)
  | 7 => ("NumberComes", "gifts", "LNumberComes$Gifts;", true)
  | 8 => ("NumberComes", "searches", "LNumberComes$Searches;", true)
  | 9 => ("NumberComes", "couples", "LNumberComes$Couples;", true)
  | _ => ("NumberComes", "covers", "LNumberComes$Cover;", true)
def zY0 : Nat → FieldType := fun k => match k with
  | 0 => .object "NumberComes$State"
  | 1 => .object "NumberComes$State"
  | 2 => .array (.object "NumberComes$Text")
  | 3 => .object "NumberComes$Reader"
  | 4 => .object "NumberComes$Voices"
  | 5 => .object "NumberComes$Meetings"
  | 6 => .object "NumberComes$Turns"
  | 7 => .object "NumberComes$Gifts"
  | 8 => .object "NumberComes$Searches"
  | 9 => .object "NumberComes$Couples"
  | _ => .object "NumberComes$Cover"
theorem zN0 : ∀ a, a < 11 → ∀ b, b < 11 → a ≠ b → (zT0 a).2.1 ≠ (zT0 b).2.1 := by decide +kernel
theorem zY0_ok : ∀ k, k < 11 → parseFieldDescriptor (zT0 k).2.2.1 = some (zY0 k) := by decide +kernel
theorem zI0 : ∀ w ∈ u_ws "NumberComes" zT0 11, w ∈ lw_tbl := zAll_in (ps := [(2, 211), (2, 213), (2, 215), (2, 217), (2, 219), (2, 221), (2, 223), (2, 225), (2, 227), (2, 229), (2, 231)]) (by decide +kernel)
def zT1 : u_T := fun k => match k with
  | 0 => ("NumberComes$State", "people", "I", false)
  | 1 => ("NumberComes$State", "number", "[I", true)
  | 2 => ("NumberComes$State", "first", "[I", true)
  | 3 => ("NumberComes$State", "near", "[I", true)
  | 4 => ("NumberComes$State", "day", "I", false)
  | 5 => ("NumberComes$State", "clock", "I", false)
  | 6 => ("NumberComes$State", "texts", "I", false)
  | 7 => ("NumberComes$State", "ruling", "I", false)
  | 8 => ("NumberComes$State", "talks", "I", false)
  | 9 => ("NumberComes$State", "talkHour", "[J", true)
  | 10 => ("NumberComes$State", "talkPair", "[I", true)
  | 11 => ("NumberComes$State", "givens", "I", false)
  | 12 => ("NumberComes$State", "given", "[I", true)
  | 13 => ("NumberComes$State", "needs", "I", false)
  | 14 => ("NumberComes$State", "needPair", "[I", true)
  | 15 => ("NumberComes$State", "needAsked", "[I", true)
  | 16 => ("NumberComes$State", "needHours", "[I", true)
  | 17 => ("NumberComes$State", "heards", "I", false)
  | 18 => ("NumberComes$State", "heardHour", "[I", true)
  | _ => ("NumberComes$State", "heardIs", "I", false)
def zY1 : Nat → FieldType := fun k => match k with
  | 0 => .int
  | 1 => .array .int
  | 2 => .array .int
  | 3 => .array .int
  | 4 => .int
  | 5 => .int
  | 6 => .int
  | 7 => .int
  | 8 => .int
  | 9 => .array .long
  | 10 => .array .int
  | 11 => .int
  | 12 => .array .int
  | 13 => .int
  | 14 => .array .int
  | 15 => .array .int
  | 16 => .array .int
  | 17 => .int
  | 18 => .array .int
  | _ => .int
theorem zN1 : ∀ a, a < 20 → ∀ b, b < 20 → a ≠ b → (zT1 a).2.1 ≠ (zT1 b).2.1 := by decide +kernel
theorem zY1_ok : ∀ k, k < 20 → parseFieldDescriptor (zT1 k).2.2.1 = some (zY1 k) := by decide +kernel
theorem zI1 : ∀ w ∈ u_ws "NumberComes$State" zT1 20, w ∈ lw_tbl := zAll_in (ps := [(1, 106), (1, 108), (1, 110), (1, 112), (1, 114), (1, 116), (1, 118), (1, 120), (1, 122), (1, 124), (1, 126), (1, 128), (1, 130), (1, 132), (1, 134), (1, 136), (1, 138), (1, 140), (1, 142), (1, 144)]) (by decide +kernel)
def zT2 : u_T := fun k => match k with
  | 0 => ("NumberComes$Reader", "tape", "[I", true)
  | 1 => ("NumberComes$Reader", "length", "I", false)
  | 2 => ("NumberComes$Reader", "fault", "I", false)
  | 3 => ("NumberComes$Reader", "place", "I", false)
  | 4 => ("NumberComes$Reader", "text", "LNumberComes$Text;", false)
  | 5 => ("NumberComes$Reader", "inWorth", "Z", false)
  | 6 => ("NumberComes$Reader", "token", "I", false)
  | 7 => ("NumberComes$Reader", "tokenAt", "I", false)
  | 8 => ("NumberComes$Reader", "tokenEnd", "I", false)
  | _ => ("NumberComes$Reader", "value", "I", false)
def zY2 : Nat → FieldType := fun k => match k with
  | 0 => .array .int
  | 1 => .int
  | 2 => .int
  | 3 => .int
  | 4 => .object "NumberComes$Text"
  | 5 => .boolean
  | 6 => .int
  | 7 => .int
  | 8 => .int
  | _ => .int
theorem zN2 : ∀ a, a < 10 → ∀ b, b < 10 → a ≠ b → (zT2 a).2.1 ≠ (zT2 b).2.1 := by decide +kernel
theorem zY2_ok : ∀ k, k < 10 → parseFieldDescriptor (zT2 k).2.2.1 = some (zY2 k) := by decide +kernel
theorem zI2 : ∀ w ∈ u_ws "NumberComes$Reader" zT2 10, w ∈ lw_tbl := zAll_in (ps := [(1, 170), (1, 172), (1, 174), (1, 176), (1, 178), (1, 180), (1, 182), (1, 184), (1, 186), (1, 188)]) (by decide +kernel)
def zT3 : u_T := fun k => match k with
  | 0 => ("NumberComes$Text", "clauses", "I", false)
  | 1 => ("NumberComes$Text", "bars", "I", false)
  | 2 => ("NumberComes$Text", "worthAt", "I", false)
  | 3 => ("NumberComes$Text", "length", "I", false)
  | 4 => ("NumberComes$Text", "kind", "[I", true)
  | 5 => ("NumberComes$Text", "left", "[I", true)
  | 6 => ("NumberComes$Text", "right", "[I", true)
  | _ => ("NumberComes$Text", "code", "[I", true)
def zY3 : Nat → FieldType := fun k => match k with
  | 0 => .int
  | 1 => .int
  | 2 => .int
  | 3 => .int
  | 4 => .array .int
  | 5 => .array .int
  | 6 => .array .int
  | _ => .array .int
theorem zN3 : ∀ a, a < 8 → ∀ b, b < 8 → a ≠ b → (zT3 a).2.1 ≠ (zT3 b).2.1 := by decide +kernel
theorem zY3_ok : ∀ k, k < 8 → parseFieldDescriptor (zT3 k).2.2.1 = some (zY3 k) := by decide +kernel
theorem zI3 : ∀ w ∈ u_ws "NumberComes$Text" zT3 8, w ∈ lw_tbl := zAll_in (ps := [(1, 220), (1, 222), (1, 224), (1, 226), (1, 228), (1, 230), (1, 232), (1, 234)]) (by decide +kernel)
def zT4 : u_T := fun k => match k with
  | 0 => ("NumberComes$Machine", "names", "[I", true)
  | _ => ("NumberComes$Machine", "stack", "[I", true)
def zY4 : Nat → FieldType := fun k => match k with
  | 0 => .array .int
  | _ => .array .int
theorem zN4 : ∀ a, a < 2 → ∀ b, b < 2 → a ≠ b → (zT4 a).2.1 ≠ (zT4 b).2.1 := by decide +kernel
theorem zY4_ok : ∀ k, k < 2 → parseFieldDescriptor (zT4 k).2.2.1 = some (zY4 k) := by decide +kernel
theorem zI4 : ∀ w ∈ u_ws "NumberComes$Machine" zT4 2, w ∈ lw_tbl := zAll_in (ps := [(2, 7), (2, 9)]) (by decide +kernel)
def zT5 : u_T := fun k => match k with
  | 0 => ("NumberComes$Voices", "now", "LNumberComes$State;", true)
  | 1 => ("NumberComes$Voices", "texts", "[LNumberComes$Text;", true)
  | 2 => ("NumberComes$Voices", "machine", "LNumberComes$Machine;", true)
  | 3 => ("NumberComes$Voices", "openAt", "[I", true)
  | 4 => ("NumberComes$Voices", "row", "[I", true)
  | 5 => ("NumberComes$Voices", "rowStart", "J", false)
  | 6 => ("NumberComes$Voices", "rowLength", "I", false)
  | 7 => ("NumberComes$Voices", "at", "I", false)
  | _ => ("NumberComes$Voices", "clockAt", "I", false)
def zY5 : Nat → FieldType := fun k => match k with
  | 0 => .object "NumberComes$State"
  | 1 => .array (.object "NumberComes$Text")
  | 2 => .object "NumberComes$Machine"
  | 3 => .array .int
  | 4 => .array .int
  | 5 => .long
  | 6 => .int
  | 7 => .int
  | _ => .int
theorem zN5 : ∀ a, a < 9 → ∀ b, b < 9 → a ≠ b → (zT5 a).2.1 ≠ (zT5 b).2.1 := by decide +kernel
theorem zY5_ok : ∀ k, k < 9 → parseFieldDescriptor (zT5 k).2.2.1 = some (zY5 k) := by decide +kernel
theorem zI5 : ∀ w ∈ u_ws "NumberComes$Voices" zT5 9, w ∈ lw_tbl := zAll_in (ps := [(2, 27), (2, 29), (2, 31), (2, 33), (2, 35), (2, 37), (2, 39), (2, 41), (2, 43)]) (by decide +kernel)
def zT6 : u_T := fun k => match k with
  | 0 => ("NumberComes$Meetings", "now", "LNumberComes$State;", true)
  | 1 => ("NumberComes$Meetings", "voices", "LNumberComes$Voices;", true)
  | 2 => ("NumberComes$Meetings", "start", "J", false)
  | 3 => ("NumberComes$Meetings", "step", "J", false)
  | 4 => ("NumberComes$Meetings", "beyond", "Z", false)
  | 5 => ("NumberComes$Meetings", "clocksOf", "[J", true)
  | _ => ("NumberComes$Meetings", "round", "I", false)
def zY6 : Nat → FieldType := fun k => match k with
  | 0 => .object "NumberComes$State"
  | 1 => .object "NumberComes$Voices"
  | 2 => .long
  | 3 => .long
  | 4 => .boolean
  | 5 => .array .long
  | _ => .int
theorem zN6 : ∀ a, a < 7 → ∀ b, b < 7 → a ≠ b → (zT6 a).2.1 ≠ (zT6 b).2.1 := by decide +kernel
theorem zY6_ok : ∀ k, k < 7 → parseFieldDescriptor (zT6 k).2.2.1 = some (zY6 k) := by decide +kernel
theorem zI6 : ∀ w ∈ u_ws "NumberComes$Meetings" zT6 7, w ∈ lw_tbl := zAll_in (ps := [(2, 59), (2, 61), (2, 63), (2, 65), (2, 67), (2, 69), (2, 71)]) (by decide +kernel)
def zT7 : u_T := fun k => match k with
  | 0 => ("NumberComes$Turns", "allotted", "[I", true)
  | 1 => ("NumberComes$Turns", "voices", "LNumberComes$Voices;", true)
  | 2 => ("NumberComes$Turns", "hoursOf", "[J", true)
  | 3 => ("NumberComes$Turns", "holder", "[I", true)
  | _ => ("NumberComes$Turns", "tried", "J", false)
def zY7 : Nat → FieldType := fun k => match k with
  | 0 => .array .int
  | 1 => .object "NumberComes$Voices"
  | 2 => .array .long
  | 3 => .array .int
  | _ => .long
theorem zN7 : ∀ a, a < 5 → ∀ b, b < 5 → a ≠ b → (zT7 a).2.1 ≠ (zT7 b).2.1 := by decide +kernel
theorem zY7_ok : ∀ k, k < 5 → parseFieldDescriptor (zT7 k).2.2.1 = some (zY7 k) := by decide +kernel
theorem zI7 : ∀ w ∈ u_ws "NumberComes$Turns" zT7 5, w ∈ lw_tbl := zAll_in (ps := [(2, 86), (2, 88), (2, 90), (2, 92), (2, 94)]) (by decide +kernel)
def zT8 : u_T := fun k => match k with
  | 0 => ("NumberComes$Gifts", "bestWorth", "I", false)
  | 1 => ("NumberComes$Gifts", "bestWho", "I", false)
  | 2 => ("NumberComes$Gifts", "bestLow", "I", false)
  | 3 => ("NumberComes$Gifts", "bestHigh", "I", false)
  | 4 => ("NumberComes$Gifts", "now", "LNumberComes$State;", true)
  | 5 => ("NumberComes$Gifts", "voices", "LNumberComes$Voices;", true)
  | 6 => ("NumberComes$Gifts", "meetings", "LNumberComes$Meetings;", true)
  | 7 => ("NumberComes$Gifts", "machine", "LNumberComes$Machine;", true)
  | _ => ("NumberComes$Gifts", "worthNow", "[I", true)
def zY8 : Nat → FieldType := fun k => match k with
  | 0 => .int
  | 1 => .int
  | 2 => .int
  | 3 => .int
  | 4 => .object "NumberComes$State"
  | 5 => .object "NumberComes$Voices"
  | 6 => .object "NumberComes$Meetings"
  | 7 => .object "NumberComes$Machine"
  | _ => .array .int
theorem zN8 : ∀ a, a < 9 → ∀ b, b < 9 → a ≠ b → (zT8 a).2.1 ≠ (zT8 b).2.1 := by decide +kernel
theorem zY8_ok : ∀ k, k < 9 → parseFieldDescriptor (zT8 k).2.2.1 = some (zY8 k) := by decide +kernel
theorem zI8 : ∀ w ∈ u_ws "NumberComes$Gifts" zT8 9, w ∈ lw_tbl := zAll_in (ps := [(2, 116), (2, 118), (2, 120), (2, 122), (2, 124), (2, 126), (2, 128), (2, 130), (2, 132)]) (by decide +kernel)
def zT9 : u_T := fun k => match k with
  | 0 => ("NumberComes$Searches", "now", "LNumberComes$State;", true)
  | 1 => ("NumberComes$Searches", "parted", "I", false)
  | 2 => ("NumberComes$Searches", "members", "[I", true)
  | 3 => ("NumberComes$Searches", "firsts", "[I", true)
  | 4 => ("NumberComes$Searches", "choices", "[J", true)
  | _ => ("NumberComes$Searches", "shared", "[I", true)
def zY9 : Nat → FieldType := fun k => match k with
  | 0 => .object "NumberComes$State"
  | 1 => .int
  | 2 => .array .int
  | 3 => .array .int
  | 4 => .array .long
  | _ => .array .int
theorem zN9 : ∀ a, a < 6 → ∀ b, b < 6 → a ≠ b → (zT9 a).2.1 ≠ (zT9 b).2.1 := by decide +kernel
theorem zY9_ok : ∀ k, k < 6 → parseFieldDescriptor (zT9 k).2.2.1 = some (zY9 k) := by decide +kernel
theorem zI9 : ∀ w ∈ u_ws "NumberComes$Searches" zT9 6, w ∈ lw_tbl := zAll_in (ps := [(2, 147), (2, 149), (2, 151), (2, 153), (2, 155), (2, 157)]) (by decide +kernel)
def zT10 : u_T := fun k => match k with
  | 0 => ("NumberComes$Couples", "best", "I", false)
  | 1 => ("NumberComes$Couples", "partner", "[I", true)
  | 2 => ("NumberComes$Couples", "meetings", "LNumberComes$Meetings;", true)
  | 3 => ("NumberComes$Couples", "trial", "[I", true)
  | _ => ("NumberComes$Couples", "counts", "[I", true)
def zY10 : Nat → FieldType := fun k => match k with
  | 0 => .int
  | 1 => .array .int
  | 2 => .object "NumberComes$Meetings"
  | 3 => .array .int
  | _ => .array .int
theorem zN10 : ∀ a, a < 5 → ∀ b, b < 5 → a ≠ b → (zT10 a).2.1 ≠ (zT10 b).2.1 := by decide +kernel
theorem zY10_ok : ∀ k, k < 5 → parseFieldDescriptor (zT10 k).2.2.1 = some (zY10 k) := by decide +kernel
theorem zI10 : ∀ w ∈ u_ws "NumberComes$Couples" zT10 5, w ∈ lw_tbl := zAll_in (ps := [(2, 173), (2, 175), (2, 177), (2, 179), (2, 181)]) (by decide +kernel)
def zT11 : u_T := fun k => match k with
  | 0 => ("NumberComes$Cover", "now", "LNumberComes$State;", true)
  | 1 => ("NumberComes$Cover", "voices", "LNumberComes$Voices;", true)
  | _ => ("NumberComes$Cover", "enough", "[J", true)
def zY11 : Nat → FieldType := fun k => match k with
  | 0 => .object "NumberComes$State"
  | 1 => .object "NumberComes$Voices"
  | _ => .array .long
theorem zN11 : ∀ a, a < 3 → ∀ b, b < 3 → a ≠ b → (zT11 a).2.1 ≠ (zT11 b).2.1 := by decide +kernel
theorem zY11_ok : ∀ k, k < 3 → parseFieldDescriptor (zT11 k).2.2.1 = some (zY11 k) := by decide +kernel
theorem zI11 : ∀ w ∈ u_ws "NumberComes$Cover" zT11 3, w ∈ lw_tbl := zAll_in (ps := [(2, 193), (2, 195), (2, 197)]) (by decide +kernel)
def zT12 : u_T := fun k => match k with
  | 0 => ("NumberComesModel", "a", "[I", true)
  | 1 => ("NumberComesModel", "image", "[I", true)
  | 2 => ("NumberComesModel", "talkHour", "[J", true)
  | 3 => ("NumberComesModel", "imageHour", "[J", true)
  | 4 => ("NumberComesModel", "texts", "[I", true)
  | 5 => ("NumberComesModel", "tape", "[I", true)
  | 6 => ("NumberComesModel", "taped", "I", false)
  | 7 => ("NumberComesModel", "fault", "I", false)
  | 8 => ("NumberComesModel", "faultPlace", "I", false)
  | 9 => ("NumberComesModel", "at", "I", false)
  | 10 => ("NumberComesModel", "place", "I", false)
  | 11 => ("NumberComesModel", "token", "I", false)
  | 12 => ("NumberComesModel", "number", "I", false)
  | 13 => ("NumberComesModel", "word", "J", false)
  | 14 => ("NumberComesModel", "text0", "I", false)
  | 15 => ("NumberComesModel", "clauses", "I", false)
  | 16 => ("NumberComesModel", "written", "I", false)
  | 17 => ("NumberComesModel", "came", "I", false)
  | 18 => ("NumberComesModel", "pile", "[I", true)
  | 19 => ("NumberComesModel", "piled", "I", false)
  | 20 => ("NumberComesModel", "opens", "I", false)
  | 21 => ("NumberComesModel", "isWhole", "Z", false)
  | 22 => ("NumberComesModel", "sort0", "I", false)
  | 23 => ("NumberComesModel", "isOnce", "Z", false)
  | 24 => ("NumberComesModel", "named", "[I", true)
  | 25 => ("NumberComesModel", "values", "[J", true)
  | 26 => ("NumberComesModel", "truth", "[Z", true)
  | 27 => ("NumberComesModel", "numbers", "[I", true)
  | 28 => ("NumberComesModel", "firsts", "[I", true)
  | 29 => ("NumberComesModel", "closed", "[Z", true)
  | 30 => ("NumberComesModel", "dueThen", "[Z", true)
  | 31 => ("NumberComesModel", "least", "J", false)
  | 32 => ("NumberComesModel", "step", "J", false)
  | 33 => ("NumberComesModel", "counted", "[I", true)
  | 34 => ("NumberComesModel", "own", "[J", true)
  | 35 => ("NumberComesModel", "any", "[J", true)
  | 36 => ("NumberComesModel", "taker", "[I", true)
  | 37 => ("NumberComesModel", "gift", "[I", true)
  | 38 => ("NumberComesModel", "bestGift", "[I", true)
  | 39 => ("NumberComesModel", "seen", "[Z", true)
  | 40 => ("NumberComesModel", "tried", "[I", true)
  | 41 => ("NumberComesModel", "member", "[I", true)
  | 42 => ("NumberComesModel", "shared", "[I", true)
  | 43 => ("NumberComesModel", "bestOf", "[J", true)
  | 44 => ("NumberComesModel", "partner", "[I", true)
  | _ => ("NumberComesModel", "twos", "[J", true)
def zY12 : Nat → FieldType := fun k => match k with
  | 0 => .array .int
  | 1 => .array .int
  | 2 => .array .long
  | 3 => .array .long
  | 4 => .array .int
  | 5 => .array .int
  | 6 => .int
  | 7 => .int
  | 8 => .int
  | 9 => .int
  | 10 => .int
  | 11 => .int
  | 12 => .int
  | 13 => .long
  | 14 => .int
  | 15 => .int
  | 16 => .int
  | 17 => .int
  | 18 => .array .int
  | 19 => .int
  | 20 => .int
  | 21 => .boolean
  | 22 => .int
  | 23 => .boolean
  | 24 => .array .int
  | 25 => .array .long
  | 26 => .array .boolean
  | 27 => .array .int
  | 28 => .array .int
  | 29 => .array .boolean
  | 30 => .array .boolean
  | 31 => .long
  | 32 => .long
  | 33 => .array .int
  | 34 => .array .long
  | 35 => .array .long
  | 36 => .array .int
  | 37 => .array .int
  | 38 => .array .int
  | 39 => .array .boolean
  | 40 => .array .int
  | 41 => .array .int
  | 42 => .array .int
  | 43 => .array .long
  | 44 => .array .int
  | _ => .array .long
theorem zN12 : ∀ a, a < 46 → ∀ b, b < 46 → a ≠ b → (zT12 a).2.1 ≠ (zT12 b).2.1 := by decide +kernel
theorem zY12_ok : ∀ k, k < 46 → parseFieldDescriptor (zT12 k).2.2.1 = some (zY12 k) := by decide +kernel
theorem zI12 : ∀ w ∈ u_ws "NumberComesModel" zT12 46, w ∈ lw_tbl := zAll_in (ps := [(6, 160), (6, 162), (6, 164), (6, 166), (6, 168), (6, 170), (6, 172), (6, 174), (6, 176), (6, 178), (6, 180), (6, 182), (6, 184), (6, 186), (6, 188), (6, 190), (6, 192), (6, 194), (6, 196), (6, 198), (6, 200), (6, 202), (6, 204), (6, 206), (6, 208), (6, 210), (6, 212), (6, 214), (6, 216), (6, 218), (6, 220), (6, 222), (6, 224), (6, 226), (6, 228), (6, 230), (6, 232), (6, 234), (6, 236), (6, 238), (7, 0), (7, 2), (7, 4), (7, 6), (7, 8), (7, 10)]) (by decide +kernel)
abbrev zCl : List vw_C := [("NumberComes", zT0, 11), ("NumberComes$State", zT1, 20), ("NumberComes$Reader", zT2, 10), ("NumberComes$Text", zT3, 8), ("NumberComes$Machine", zT4, 2), ("NumberComes$Voices", zT5, 9), ("NumberComes$Meetings", zT6, 7), ("NumberComes$Turns", zT7, 5), ("NumberComes$Gifts", zT8, 9), ("NumberComes$Searches", zT9, 6), ("NumberComes$Couples", zT10, 5), ("NumberComes$Cover", zT11, 3), ("NumberComesModel", zT12, 46)]
def zY (k : Nat) : Nat → FieldType := match k with
  | 0 => zY0
  | 1 => zY1
  | 2 => zY2
  | 3 => zY3
  | 4 => zY4
  | 5 => zY5
  | 6 => zY6
  | 7 => zY7
  | 8 => zY8
  | 9 => zY9
  | 10 => zY10
  | 11 => zY11
  | 12 => zY12
  | _ => fun _ => .int
theorem zCl_ok {k : Nat} {q : vw_C} (h : zCl[k]? = some q) : (∀ w ∈ u_ws q.1 q.2.1 q.2.2, w ∈ lw_tbl) ∧ (∀ a, a < q.2.2 → ∀ b, b < q.2.2 → a ≠ b → (q.2.1 a).2.1 ≠ (q.2.1 b).2.1) ∧ ∀ f, f < q.2.2 → parseFieldDescriptor (q.2.1 f).2.2.1 = some (zY k f) := by
  match k, h with
  | 0, h => cases h; exact ⟨zI0, zN0, zY0_ok⟩
  | 1, h => cases h; exact ⟨zI1, zN1, zY1_ok⟩
  | 2, h => cases h; exact ⟨zI2, zN2, zY2_ok⟩
  | 3, h => cases h; exact ⟨zI3, zN3, zY3_ok⟩
  | 4, h => cases h; exact ⟨zI4, zN4, zY4_ok⟩
  | 5, h => cases h; exact ⟨zI5, zN5, zY5_ok⟩
  | 6, h => cases h; exact ⟨zI6, zN6, zY6_ok⟩
  | 7, h => cases h; exact ⟨zI7, zN7, zY7_ok⟩
  | 8, h => cases h; exact ⟨zI8, zN8, zY8_ok⟩
  | 9, h => cases h; exact ⟨zI9, zN9, zY9_ok⟩
  | 10, h => cases h; exact ⟨zI10, zN10, zY10_ok⟩
  | 11, h => cases h; exact ⟨zI11, zN11, zY11_ok⟩
  | 12, h => cases h; exact ⟨zI12, zN12, zY12_ok⟩
  | k + 13, h => simp [zCl] at h
/-- of what sort a field is: 0 int, 1 boolean, 2 long, 3 a reference -/
def zSo : List (List Nat) := [[3, 3, 3, 3, 3, 3, 3, 3, 3, 3, 3], [0, 3, 3, 3, 0, 0, 0, 0, 0, 3, 3, 0, 3, 0, 3, 3, 3, 0, 3, 0], [3, 0, 0, 0, 3, 1, 0, 0, 0, 0], [0, 0, 0, 0, 3, 3, 3, 3], [3, 3], [3, 3, 3, 3, 3, 2, 0, 0, 0], [3, 3, 2, 2, 1, 3, 0], [3, 3, 3, 3, 2], [0, 0, 0, 0, 3, 3, 3, 3, 3], [3, 0, 3, 3, 3, 3], [0, 3, 3, 3, 3], [3, 3, 3], [3, 3, 3, 3, 3, 3, 0, 0, 0, 0, 0, 0, 0, 2, 0, 0, 0, 0, 3, 0, 0, 1, 0, 1, 3, 3, 3, 3, 3, 3, 3, 2, 2, 3, 3, 3, 3, 3, 3, 3, 3, 3, 3, 3, 3, 3]]
