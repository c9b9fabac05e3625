/-! names: classes, fields in the order of the slots, kinds of objects by number, words of the tables by place (printed by gen_names.py) -/
def zNm : Nat → String
  | 0 => "EelClerk"
  | 1 => "EelClerk$Asker"
  | 2 => "EelClerk$Journal"
  | 3 => "EelClerk$Outlet"
  | 4 => "EelClerk$Paper"
  | 5 => "EelClerk$Parish"
  | 6 => "EelClerk$Reader"
  | 7 => "EelClerk$Rounds"
  | 8 => "EelClerk$Rumour"
  | 9 => "EelClerk$Tape"
  | 10 => "EelClerk$Text"
  | 11 => "EelClerkModel"
  | _ => ""
def zFN : Nat → Nat
  | 0 => 20
  | 1 => 2
  | 2 => 7
  | 3 => 2
  | 4 => 5
  | 5 => 16
  | 6 => 4
  | 7 => 5
  | 8 => 2
  | 9 => 6
  | 10 => 7
  | 11 => 51
  | _ => 0
def zT_0 : u_T := fun k => match k with
  | 0 => ("EelClerk", "now", "LEelClerk$Parish;", true)
  | 1 => ("EelClerk", "ahead", "LEelClerk$Parish;", true)
  | 2 => ("EelClerk", "drawn", "LEelClerk$Parish;", true)
  | 3 => ("EelClerk", "images", "[LEelClerk$Parish;", true)
  | 4 => ("EelClerk", "journal", "LEelClerk$Journal;", true)
  | 5 => ("EelClerk", "journalAhead", "LEelClerk$Journal;", true)
  | 6 => ("EelClerk", "tape", "LEelClerk$Tape;", true)
  | 7 => ("EelClerk", "reader", "LEelClerk$Reader;", true)
  | 8 => ("EelClerk", "asker", "LEelClerk$Asker;", true)
  | 9 => ("EelClerk", "paper", "LEelClerk$Paper;", true)
  | 10 => ("EelClerk", "rounds", "LEelClerk$Rounds;", true)
  | 11 => ("EelClerk", "outlet", "LEelClerk$Outlet;", true)
  | 12 => ("EelClerk", "rumour", "LEelClerk$Rumour;", true)
  | 13 => ("EelClerk", "orderWords", "[I", true)
  | 14 => ("EelClerk", "chances", "[J", true)
  | 15 => ("EelClerk", "refusals", "[I", true)
  | 16 => ("EelClerk", "bubbles", "I", false)
  | 17 => ("EelClerk", "fault", "I", false)
  | 18 => ("EelClerk", "stopped", "I", false)
  | _ => ("EelClerk", "status", "I", false)
def zTy_0 : Nat → FieldType := fun k => match k with
  | 0 => .object "EelClerk$Parish"
  | 1 => .object "EelClerk$Parish"
  | 2 => .object "EelClerk$Parish"
  | 3 => .array (.object "EelClerk$Parish")
  | 4 => .object "EelClerk$Journal"
  | 5 => .object "EelClerk$Journal"
  | 6 => .object "EelClerk$Tape"
  | 7 => .object "EelClerk$Reader"
  | 8 => .object "EelClerk$Asker"
  | 9 => .object "EelClerk$Paper"
  | 10 => .object "EelClerk$Rounds"
  | 11 => .object "EelClerk$Outlet"
  | 12 => .object "EelClerk$Rumour"
  | 13 => .array .int
  | 14 => .array .long
  | 15 => .array .int
  | 16 => .int
  | 17 => .int
  | 18 => .int
  | _ => .int
def zft_0 : Nat → Nat := fun k => match k with
  | 0 => 2
  | 1 => 2
  | 2 => 2
  | 3 => 2
  | 4 => 2
  | 5 => 2
  | 6 => 2
  | 7 => 2
  | 8 => 2
  | 9 => 2
  | 10 => 2
  | 11 => 2
  | 12 => 2
  | 13 => 2
  | 14 => 2
  | 15 => 2
  | 16 => 0
  | 17 => 0
  | 18 => 0
  | _ => 0
def zT_1 : u_T := fun k => match k with
  | 0 => ("EelClerk$Asker", "stack", "[J", true)
  | _ => ("EelClerk$Asker", "words", "[I", true)
def zTy_1 : Nat → FieldType := fun k => match k with
  | 0 => .array .long
  | _ => .array .int
def zft_1 : Nat → Nat := fun k => match k with
  | 0 => 2
  | _ => 2
def zT_2 : u_T := fun k => match k with
  | 0 => ("EelClerk$Journal", "size", "I", false)
  | 1 => ("EelClerk$Journal", "next", "I", false)
  | 2 => ("EelClerk$Journal", "kinds", "[I", true)
  | 3 => ("EelClerk$Journal", "ats", "[I", true)
  | 4 => ("EelClerk$Journal", "days", "[I", true)
  | 5 => ("EelClerk$Journal", "shuts", "[J", true)
  | _ => ("EelClerk$Journal", "muds", "[J", true)
def zTy_2 : Nat → FieldType := fun k => match k with
  | 0 => .int
  | 1 => .int
  | 2 => .array .int
  | 3 => .array .int
  | 4 => .array .int
  | 5 => .array .long
  | _ => .array .long
def zft_2 : Nat → Nat := fun k => match k with
  | 0 => 0
  | 1 => 0
  | 2 => 2
  | 3 => 2
  | 4 => 2
  | 5 => 2
  | _ => 2
def zT_3 : u_T := fun k => match k with
  | 0 => ("EelClerk$Outlet", "left", "[I", true)
  | _ => ("EelClerk$Outlet", "gates", "I", false)
def zTy_3 : Nat → FieldType := fun k => match k with
  | 0 => .array .int
  | _ => .int
def zft_3 : Nat → Nat := fun k => match k with
  | 0 => 2
  | _ => 0
def zT_4 : u_T := fun k => match k with
  | 0 => ("EelClerk$Paper", "springs", "I", false)
  | 1 => ("EelClerk$Paper", "through", "[I", true)
  | 2 => ("EelClerk$Paper", "step", "[I", true)
  | 3 => ("EelClerk$Paper", "soon", "[I", true)
  | _ => ("EelClerk$Paper", "cut", "[I", true)
def zTy_4 : Nat → FieldType := fun k => match k with
  | 0 => .int
  | 1 => .array .int
  | 2 => .array .int
  | 3 => .array .int
  | _ => .array .int
def zft_4 : Nat → Nat := fun k => match k with
  | 0 => 0
  | 1 => 2
  | 2 => 2
  | 3 => 2
  | _ => 2
def zT_5 : u_T := fun k => match k with
  | 0 => ("EelClerk$Parish", "springs", "I", false)
  | 1 => ("EelClerk$Parish", "level", "[I", true)
  | 2 => ("EelClerk$Parish", "far", "[I", true)
  | 3 => ("EelClerk$Parish", "mud", "J", false)
  | 4 => ("EelClerk$Parish", "shut", "J", false)
  | 5 => ("EelClerk$Parish", "at", "I", false)
  | 6 => ("EelClerk$Parish", "day", "I", false)
  | 7 => ("EelClerk$Parish", "slips", "I", false)
  | 8 => ("EelClerk$Parish", "mood", "I", false)
  | 9 => ("EelClerk$Parish", "heard", "I", false)
  | 10 => ("EelClerk$Parish", "heardAt", "[I", true)
  | 11 => ("EelClerk$Parish", "heardOn", "[I", true)
  | 12 => ("EelClerk$Parish", "lawCount", "I", false)
  | 13 => ("EelClerk$Parish", "laws", "[LEelClerk$Text;", true)
  | 14 => ("EelClerk$Parish", "force", "I", false)
  | _ => ("EelClerk$Parish", "kept", "Z", false)
def zTy_5 : Nat → FieldType := fun k => match k with
  | 0 => .int
  | 1 => .array .int
  | 2 => .array .int
  | 3 => .long
  | 4 => .long
  | 5 => .int
  | 6 => .int
  | 7 => .int
  | 8 => .int
  | 9 => .int
  | 10 => .array .int
  | 11 => .array .int
  | 12 => .int
  | 13 => .array (.object "EelClerk$Text")
  | 14 => .int
  | _ => .boolean
def zft_5 : Nat → Nat := fun k => match k with
  | 0 => 0
  | 1 => 2
  | 2 => 2
  | 3 => 1
  | 4 => 1
  | 5 => 0
  | 6 => 0
  | 7 => 0
  | 8 => 0
  | 9 => 0
  | 10 => 2
  | 11 => 2
  | 12 => 0
  | 13 => 2
  | 14 => 0
  | _ => 0
def zT_6 : u_T := fun k => match k with
  | 0 => ("EelClerk$Reader", "text", "LEelClerk$Text;", true)
  | 1 => ("EelClerk$Reader", "ofOrders", "Z", false)
  | 2 => ("EelClerk$Reader", "parts", "I", false)
  | _ => ("EelClerk$Reader", "brackets", "I", false)
def zTy_6 : Nat → FieldType := fun k => match k with
  | 0 => .object "EelClerk$Text"
  | 1 => .boolean
  | 2 => .int
  | _ => .int
def zft_6 : Nat → Nat := fun k => match k with
  | 0 => 2
  | 1 => 0
  | 2 => 0
  | _ => 0
def zT_7 : u_T := fun k => match k with
  | 0 => ("EelClerk$Rounds", "stops", "[I", true)
  | 1 => ("EelClerk$Rounds", "count", "I", false)
  | 2 => ("EelClerk$Rounds", "out", "[I", true)
  | 3 => ("EelClerk$Rounds", "soon", "[I", true)
  | _ => ("EelClerk$Rounds", "left", "[I", true)
def zTy_7 : Nat → FieldType := fun k => match k with
  | 0 => .array .int
  | 1 => .int
  | 2 => .array .int
  | 3 => .array .int
  | _ => .array .int
def zft_7 : Nat → Nat := fun k => match k with
  | 0 => 2
  | 1 => 0
  | 2 => 2
  | 3 => 2
  | _ => 2
def zT_8 : u_T := fun k => match k with
  | 0 => ("EelClerk$Rumour", "starts", "[I", true)
  | _ => ("EelClerk$Rumour", "springs", "I", false)
def zTy_8 : Nat → FieldType := fun k => match k with
  | 0 => .array .int
  | _ => .int
def zft_8 : Nat → Nat := fun k => match k with
  | 0 => 2
  | _ => 0
def zT_9 : u_T := fun k => match k with
  | 0 => ("EelClerk$Tape", "bytes", "[B", true)
  | 1 => ("EelClerk$Tape", "length", "I", false)
  | 2 => ("EelClerk$Tape", "from", "I", false)
  | 3 => ("EelClerk$Tape", "to", "I", false)
  | 4 => ("EelClerk$Tape", "token", "I", false)
  | _ => ("EelClerk$Tape", "number", "I", false)
def zTy_9 : Nat → FieldType := fun k => match k with
  | 0 => .array .byte
  | 1 => .int
  | 2 => .int
  | 3 => .int
  | 4 => .int
  | _ => .int
def zft_9 : Nat → Nat := fun k => match k with
  | 0 => 2
  | 1 => 0
  | 2 => 0
  | 3 => 0
  | 4 => 0
  | _ => 0
def zT_10 : u_T := fun k => match k with
  | 0 => ("EelClerk$Text", "code", "[I", true)
  | 1 => ("EelClerk$Text", "length", "I", false)
  | 2 => ("EelClerk$Text", "clauses", "I", false)
  | 3 => ("EelClerk$Text", "asksSoon", "Z", false)
  | 4 => ("EelClerk$Text", "kinds", "[I", true)
  | 5 => ("EelClerk$Text", "times", "[I", true)
  | _ => ("EelClerk$Text", "starts", "[I", true)
def zTy_10 : Nat → FieldType := fun k => match k with
  | 0 => .array .int
  | 1 => .int
  | 2 => .int
  | 3 => .boolean
  | 4 => .array .int
  | 5 => .array .int
  | _ => .array .int
def zft_10 : Nat → Nat := fun k => match k with
  | 0 => 2
  | 1 => 0
  | 2 => 0
  | 3 => 0
  | 4 => 2
  | 5 => 2
  | _ => 2
def zT_11 : u_T := fun k => match k with
  | 0 => ("EelClerkModel", "status", "I", false)
  | 1 => ("EelClerkModel", "refused", "[I", true)
  | 2 => ("EelClerkModel", "kept", "[I", true)
  | 3 => ("EelClerkModel", "images", "[I", true)
  | 4 => ("EelClerkModel", "hasImage", "[Z", true)
  | 5 => ("EelClerkModel", "aside", "[I", true)
  | 6 => ("EelClerkModel", "bubbles0", "I", false)
  | 7 => ("EelClerkModel", "words", "[B", true)
  | 8 => ("EelClerkModel", "firstWord", "I", false)
  | 9 => ("EelClerkModel", "lastWord", "I", false)
  | 10 => ("EelClerkModel", "isOrders", "Z", false)
  | 11 => ("EelClerkModel", "tape", "[B", true)
  | 12 => ("EelClerkModel", "five", "[I", true)
  | 13 => ("EelClerkModel", "taped", "I", false)
  | 14 => ("EelClerkModel", "fault", "I", false)
  | 15 => ("EelClerkModel", "code", "[I", true)
  | 16 => ("EelClerkModel", "value", "[I", true)
  | 17 => ("EelClerkModel", "placed", "[I", true)
  | 18 => ("EelClerkModel", "tokens", "I", false)
  | 19 => ("EelClerkModel", "token", "I", false)
  | 20 => ("EelClerkModel", "leaves", "I", false)
  | 21 => ("EelClerkModel", "bad", "I", false)
  | 22 => ("EelClerkModel", "go", "I", false)
  | 23 => ("EelClerkModel", "goEnd", "I", false)
  | 24 => ("EelClerkModel", "broken", "Z", false)
  | 25 => ("EelClerkModel", "inOrders", "Z", false)
  | 26 => ("EelClerkModel", "asked", "[I", true)
  | 27 => ("EelClerkModel", "orderDone", "I", false)
  | 28 => ("EelClerkModel", "orderLatest", "I", false)
  | 29 => ("EelClerkModel", "orderSoon", "[I", true)
  | 30 => ("EelClerkModel", "left0", "[I", true)
  | 31 => ("EelClerkModel", "leftAhead", "[I", true)
  | 32 => ("EelClerkModel", "undoMany", "I", false)
  | 33 => ("EelClerkModel", "mudThen", "[I", true)
  | 34 => ("EelClerkModel", "leg", "[I", true)
  | 35 => ("EelClerkModel", "soonest", "[I", true)
  | 36 => ("EelClerkModel", "roundLeft", "[I", true)
  | 37 => ("EelClerkModel", "weight", "[I", true)
  | 38 => ("EelClerkModel", "opened", "[I", true)
  | 39 => ("EelClerkModel", "seaLeft", "[I", true)
  | 40 => ("EelClerkModel", "shares", "[J", true)
  | 41 => ("EelClerkModel", "stopped0", "I", false)
  | 42 => ("EelClerkModel", "orderAt", "I", false)
  | 43 => ("EelClerkModel", "howOften", "I", false)
  | 44 => ("EelClerkModel", "head", "I", false)
  | 45 => ("EelClerkModel", "sumsAre", "Z", false)
  | 46 => ("EelClerkModel", "testIs", "Z", false)
  | 47 => ("EelClerkModel", "sums", "[J", true)
  | 48 => ("EelClerkModel", "drawnMoved", "[I", true)
  | 49 => ("EelClerkModel", "drawnMany", "I", false)
  | _ => ("EelClerkModel", "latest", "I", false)
def zTy_11 : Nat → FieldType := fun k => match k with
  | 0 => .int
  | 1 => .array .int
  | 2 => .array .int
  | 3 => .array .int
  | 4 => .array .boolean
  | 5 => .array .int
  | 6 => .int
  | 7 => .array .byte
  | 8 => .int
  | 9 => .int
  | 10 => .boolean
  | 11 => .array .byte
  | 12 => .array .int
  | 13 => .int
  | 14 => .int
  | 15 => .array .int
  | 16 => .array .int
  | 17 => .array .int
  | 18 => .int
  | 19 => .int
  | 20 => .int
  | 21 => .int
  | 22 => .int
  | 23 => .int
  | 24 => .boolean
  | 25 => .boolean
  | 26 => .array .int
  | 27 => .int
  | 28 => .int
  | 29 => .array .int
  | 30 => .array .int
  | 31 => .array .int
  | 32 => .int
  | 33 => .array .int
  | 34 => .array .int
  | 35 => .array .int
  | 36 => .array .int
  | 37 => .array .int
  | 38 => .array .int
  | 39 => .array .int
  | 40 => .array .long
  | 41 => .int
  | 42 => .int
  | 43 => .int
  | 44 => .int
  | 45 => .boolean
  | 46 => .boolean
  | 47 => .array .long
  | 48 => .array .int
  | 49 => .int
  | _ => .int
def zft_11 : Nat → Nat := fun k => match k with
  | 0 => 0
  | 1 => 2
  | 2 => 2
  | 3 => 2
  | 4 => 2
  | 5 => 2
  | 6 => 0
  | 7 => 2
  | 8 => 0
  | 9 => 0
  | 10 => 0
  | 11 => 2
  | 12 => 2
  | 13 => 0
  | 14 => 0
  | 15 => 2
  | 16 => 2
  | 17 => 2
  | 18 => 0
  | 19 => 0
  | 20 => 0
  | 21 => 0
  | 22 => 0
  | 23 => 0
  | 24 => 0
  | 25 => 0
  | 26 => 2
  | 27 => 0
  | 28 => 0
  | 29 => 2
  | 30 => 2
  | 31 => 2
  | 32 => 0
  | 33 => 2
  | 34 => 2
  | 35 => 2
  | 36 => 2
  | 37 => 2
  | 38 => 2
  | 39 => 2
  | 40 => 2
  | 41 => 0
  | 42 => 0
  | 43 => 0
  | 44 => 0
  | 45 => 0
  | 46 => 0
  | 47 => 2
  | 48 => 2
  | 49 => 0
  | _ => 0
def zT : Nat → u_T
  | 0 => zT_0
  | 1 => zT_1
  | 2 => zT_2
  | 3 => zT_3
  | 4 => zT_4
  | 5 => zT_5
  | 6 => zT_6
  | 7 => zT_7
  | 8 => zT_8
  | 9 => zT_9
  | 10 => zT_10
  | 11 => zT_11
  | _ => zT_0
def zTy : Nat → Nat → FieldType
  | 0 => zTy_0
  | 1 => zTy_1
  | 2 => zTy_2
  | 3 => zTy_3
  | 4 => zTy_4
  | 5 => zTy_5
  | 6 => zTy_6
  | 7 => zTy_7
  | 8 => zTy_8
  | 9 => zTy_9
  | 10 => zTy_10
  | 11 => zTy_11
  | _ => zTy_0
def zft : Nat → Nat → Nat
  | 0 => zft_0
  | 1 => zft_1
  | 2 => zft_2
  | 3 => zft_3
  | 4 => zft_4
  | 5 => zft_5
  | 6 => zft_6
  | 7 => zft_7
  | 8 => zft_8
  | 9 => zft_9
  | 10 => zft_10
  | 11 => zft_11
  | _ => zft_0
def zCL : List vw_C := [(zNm 0, zT 0, zFN 0), (zNm 1, zT 1, zFN 1), (zNm 2, zT 2, zFN 2), (zNm 3, zT 3, zFN 3), (zNm 4, zT 4, zFN 4), (zNm 5, zT 5, zFN 5), (zNm 6, zT 6, zFN 6), (zNm 7, zT 7, zFN 7), (zNm 8, zT 8, zFN 8), (zNm 9, zT 9, zFN 9), (zNm 10, zT 10, zFN 10), (zNm 11, zT 11, zFN 11)]
theorem zCL_at {c : Nat} (h : c < 12) : zCL[c]? = some (zNm c, zT c, zFN c) := by
  match c, h with
  | 0, _ => rfl
  | 1, _ => rfl
  | 2, _ => rfl
  | 3, _ => rfl
  | 4, _ => rfl
  | 5, _ => rfl
  | 6, _ => rfl
  | 7, _ => rfl
  | 8, _ => rfl
  | 9, _ => rfl
  | 10, _ => rfl
  | 11, _ => rfl
  | c + 12, h => omega
theorem zTy_ok : ∀ c, c < 12 → ∀ k, k < zFN c → parseFieldDescriptor (zT c k).2.2.1 = some (zTy c k) := by decide +kernel
theorem zT_nm : ∀ c, c < 12 → ∀ a, a < zFN c → ∀ b, b < zFN c → a ≠ b → (zT c a).2.1 ≠ (zT c b).2.1 := by decide +kernel
theorem zT_own : ∀ c, c < 12 → ∀ a, a < zFN c → (zT c a).1 = zNm c := by decide +kernel
theorem zft_ok : ∀ c, c < 12 → ∀ k, k < zFN c → (zft c k = 0 ∧ (zTy c k = .int ∨ zTy c k = .boolean)) ∨ (zft c k = 1 ∧ zTy c k = .long) ∨ (zft c k = 2 ∧ ((∃ n, zTy c k = .object n) ∨ ∃ t, zTy c k = .array t)) := by
  intro c hc k hk
  match c, hc with
  | 0, _ =>
    match k, hk with
    | 0, _ => exact Or.inr (Or.inr ⟨rfl, Or.inl ⟨_, rfl⟩⟩)
    | 1, _ => exact Or.inr (Or.inr ⟨rfl, Or.inl ⟨_, rfl⟩⟩)
    | 2, _ => exact Or.inr (Or.inr ⟨rfl, Or.inl ⟨_, rfl⟩⟩)
    | 3, _ => exact Or.inr (Or.inr ⟨rfl, Or.inr ⟨_, rfl⟩⟩)
    | 4, _ => exact Or.inr (Or.inr ⟨rfl, Or.inl ⟨_, rfl⟩⟩)
    | 5, _ => exact Or.inr (Or.inr ⟨rfl, Or.inl ⟨_, rfl⟩⟩)
    | 6, _ => exact Or.inr (Or.inr ⟨rfl, Or.inl ⟨_, rfl⟩⟩)
    | 7, _ => exact Or.inr (Or.inr ⟨rfl, Or.inl ⟨_, rfl⟩⟩)
    | 8, _ => exact Or.inr (Or.inr ⟨rfl, Or.inl ⟨_, rfl⟩⟩)
    | 9, _ => exact Or.inr (Or.inr ⟨rfl, Or.inl ⟨_, rfl⟩⟩)
    | 10, _ => exact Or.inr (Or.inr ⟨rfl, Or.inl ⟨_, rfl⟩⟩)
    | 11, _ => exact Or.inr (Or.inr ⟨rfl, Or.inl ⟨_, rfl⟩⟩)
    | 12, _ => exact Or.inr (Or.inr ⟨rfl, Or.inl ⟨_, rfl⟩⟩)
    | 13, _ => exact Or.inr (Or.inr ⟨rfl, Or.inr ⟨_, rfl⟩⟩)
    | 14, _ => exact Or.inr (Or.inr ⟨rfl, Or.inr ⟨_, rfl⟩⟩)
    | 15, _ => exact Or.inr (Or.inr ⟨rfl, Or.inr ⟨_, rfl⟩⟩)
    | 16, _ => exact Or.inl ⟨rfl, Or.inl rfl⟩
    | 17, _ => exact Or.inl ⟨rfl, Or.inl rfl⟩
    | 18, _ => exact Or.inl ⟨rfl, Or.inl rfl⟩
    | 19, _ => exact Or.inl ⟨rfl, Or.inl rfl⟩
    | k + 20, h => exact absurd h (by show ¬ k + 20 < 20; omega)
  | 1, _ =>
    match k, hk with
    | 0, _ => exact Or.inr (Or.inr ⟨rfl, Or.inr ⟨_, rfl⟩⟩)
    | 1, _ => exact Or.inr (Or.inr ⟨rfl, Or.inr ⟨_, rfl⟩⟩)
    | k + 2, h => exact absurd h (by show ¬ k + 2 < 2; omega)
  | 2, _ =>
    match k, hk with
    | 0, _ => exact Or.inl ⟨rfl, Or.inl rfl⟩
    | 1, _ => exact Or.inl ⟨rfl, Or.inl rfl⟩
    | 2, _ => exact Or.inr (Or.inr ⟨rfl, Or.inr ⟨_, rfl⟩⟩)
    | 3, _ => exact Or.inr (Or.inr ⟨rfl, Or.inr ⟨_, rfl⟩⟩)
    | 4, _ => exact Or.inr (Or.inr ⟨rfl, Or.inr ⟨_, rfl⟩⟩)
    | 5, _ => exact Or.inr (Or.inr ⟨rfl, Or.inr ⟨_, rfl⟩⟩)
    | 6, _ => exact Or.inr (Or.inr ⟨rfl, Or.inr ⟨_, rfl⟩⟩)
    | k + 7, h => exact absurd h (by show ¬ k + 7 < 7; omega)
  | 3, _ =>
    match k, hk with
    | 0, _ => exact Or.inr (Or.inr ⟨rfl, Or.inr ⟨_, rfl⟩⟩)
    | 1, _ => exact Or.inl ⟨rfl, Or.inl rfl⟩
    | k + 2, h => exact absurd h (by show ¬ k + 2 < 2; omega)
  | 4, _ =>
    match k, hk with
    | 0, _ => exact Or.inl ⟨rfl, Or.inl rfl⟩
    | 1, _ => exact Or.inr (Or.inr ⟨rfl, Or.inr ⟨_, rfl⟩⟩)
    | 2, _ => exact Or.inr (Or.inr ⟨rfl, Or.inr ⟨_, rfl⟩⟩)
    | 3, _ => exact Or.inr (Or.inr ⟨rfl, Or.inr ⟨_, rfl⟩⟩)
    | 4, _ => exact Or.inr (Or.inr ⟨rfl, Or.inr ⟨_, rfl⟩⟩)
    | k + 5, h => exact absurd h (by show ¬ k + 5 < 5; omega)
  | 5, _ =>
    match k, hk with
    | 0, _ => exact Or.inl ⟨rfl, Or.inl rfl⟩
    | 1, _ => exact Or.inr (Or.inr ⟨rfl, Or.inr ⟨_, rfl⟩⟩)
    | 2, _ => exact Or.inr (Or.inr ⟨rfl, Or.inr ⟨_, rfl⟩⟩)
    | 3, _ => exact Or.inr (Or.inl ⟨rfl, rfl⟩)
    | 4, _ => exact Or.inr (Or.inl ⟨rfl, rfl⟩)
    | 5, _ => exact Or.inl ⟨rfl, Or.inl rfl⟩
    | 6, _ => exact Or.inl ⟨rfl, Or.inl rfl⟩
    | 7, _ => exact Or.inl ⟨rfl, Or.inl rfl⟩
    | 8, _ => exact Or.inl ⟨rfl, Or.inl rfl⟩
    | 9, _ => exact Or.inl ⟨rfl, Or.inl rfl⟩
    | 10, _ => exact Or.inr (Or.inr ⟨rfl, Or.inr ⟨_, rfl⟩⟩)
    | 11, _ => exact Or.inr (Or.inr ⟨rfl, Or.inr ⟨_, rfl⟩⟩)
    | 12, _ => exact Or.inl ⟨rfl, Or.inl rfl⟩
    | 13, _ => exact Or.inr (Or.inr ⟨rfl, Or.inr ⟨_, rfl⟩⟩)
    | 14, _ => exact Or.inl ⟨rfl, Or.inl rfl⟩
    | 15, _ => exact Or.inl ⟨rfl, Or.inr rfl⟩
    | k + 16, h => exact absurd h (by show ¬ k + 16 < 16; omega)
  | 6, _ =>
    match k, hk with
    | 0, _ => exact Or.inr (Or.inr ⟨rfl, Or.inl ⟨_, rfl⟩⟩)
    | 1, _ => exact Or.inl ⟨rfl, Or.inr rfl⟩
    | 2, _ => exact Or.inl ⟨rfl, Or.inl rfl⟩
    | 3, _ => exact Or.inl ⟨rfl, Or.inl rfl⟩
    | k + 4, h => exact absurd h (by show ¬ k + 4 < 4; omega)
  | 7, _ =>
    match k, hk with
    | 0, _ => exact Or.inr (Or.inr ⟨rfl, Or.inr ⟨_, rfl⟩⟩)
    | 1, _ => exact Or.inl ⟨rfl, Or.inl rfl⟩
    | 2, _ => exact Or.inr (Or.inr ⟨rfl, Or.inr ⟨_, rfl⟩⟩)
    | 3, _ => exact Or.inr (Or.inr ⟨rfl, Or.inr ⟨_, rfl⟩⟩)
    | 4, _ => exact Or.inr (Or.inr ⟨rfl, Or.inr ⟨_, rfl⟩⟩)
    | k + 5, h => exact absurd h (by show ¬ k + 5 < 5; omega)
  | 8, _ =>
    match k, hk with
    | 0, _ => exact Or.inr (Or.inr ⟨rfl, Or.inr ⟨_, rfl⟩⟩)
    | 1, _ => exact Or.inl ⟨rfl, Or.inl rfl⟩
    | k + 2, h => exact absurd h (by show ¬ k + 2 < 2; omega)
  | 9, _ =>
    match k, hk with
    | 0, _ => exact Or.inr (Or.inr ⟨rfl, Or.inr ⟨_, rfl⟩⟩)
    | 1, _ => exact Or.inl ⟨rfl, Or.inl rfl⟩
    | 2, _ => exact Or.inl ⟨rfl, Or.inl rfl⟩
    | 3, _ => exact Or.inl ⟨rfl, Or.inl rfl⟩
    | 4, _ => exact Or.inl ⟨rfl, Or.inl rfl⟩
    | 5, _ => exact Or.inl ⟨rfl, Or.inl rfl⟩
    | k + 6, h => exact absurd h (by show ¬ k + 6 < 6; omega)
  | 10, _ =>
    match k, hk with
    | 0, _ => exact Or.inr (Or.inr ⟨rfl, Or.inr ⟨_, rfl⟩⟩)
    | 1, _ => exact Or.inl ⟨rfl, Or.inl rfl⟩
    | 2, _ => exact Or.inl ⟨rfl, Or.inl rfl⟩
    | 3, _ => exact Or.inl ⟨rfl, Or.inr rfl⟩
    | 4, _ => exact Or.inr (Or.inr ⟨rfl, Or.inr ⟨_, rfl⟩⟩)
    | 5, _ => exact Or.inr (Or.inr ⟨rfl, Or.inr ⟨_, rfl⟩⟩)
    | 6, _ => exact Or.inr (Or.inr ⟨rfl, Or.inr ⟨_, rfl⟩⟩)
    | k + 7, h => exact absurd h (by show ¬ k + 7 < 7; omega)
  | 11, _ =>
    match k, hk with
    | 0, _ => exact Or.inl ⟨rfl, Or.inl rfl⟩
    | 1, _ => exact Or.inr (Or.inr ⟨rfl, Or.inr ⟨_, rfl⟩⟩)
    | 2, _ => exact Or.inr (Or.inr ⟨rfl, Or.inr ⟨_, rfl⟩⟩)
    | 3, _ => exact Or.inr (Or.inr ⟨rfl, Or.inr ⟨_, rfl⟩⟩)
    | 4, _ => exact Or.inr (Or.inr ⟨rfl, Or.inr ⟨_, rfl⟩⟩)
    | 5, _ => exact Or.inr (Or.inr ⟨rfl, Or.inr ⟨_, rfl⟩⟩)
    | 6, _ => exact Or.inl ⟨rfl, Or.inl rfl⟩
    | 7, _ => exact Or.inr (Or.inr ⟨rfl, Or.inr ⟨_, rfl⟩⟩)
    | 8, _ => exact Or.inl ⟨rfl, Or.inl rfl⟩
    | 9, _ => exact Or.inl ⟨rfl, Or.inl rfl⟩
    | 10, _ => exact Or.inl ⟨rfl, Or.inr rfl⟩
    | 11, _ => exact Or.inr (Or.inr ⟨rfl, Or.inr ⟨_, rfl⟩⟩)
    | 12, _ => exact Or.inr (Or.inr ⟨rfl, Or.inr ⟨_, rfl⟩⟩)
    | 13, _ => exact Or.inl ⟨rfl, Or.inl rfl⟩
    | 14, _ => exact Or.inl ⟨rfl, Or.inl rfl⟩
    | 15, _ => exact Or.inr (Or.inr ⟨rfl, Or.inr ⟨_, rfl⟩⟩)
    | 16, _ => exact Or.inr (Or.inr ⟨rfl, Or.inr ⟨_, rfl⟩⟩)
    | 17, _ => exact Or.inr (Or.inr ⟨rfl, Or.inr ⟨_, rfl⟩⟩)
    | 18, _ => exact Or.inl ⟨rfl, Or.inl rfl⟩
    | 19, _ => exact Or.inl ⟨rfl, Or.inl rfl⟩
    | 20, _ => exact Or.inl ⟨rfl, Or.inl rfl⟩
    | 21, _ => exact Or.inl ⟨rfl, Or.inl rfl⟩
    | 22, _ => exact Or.inl ⟨rfl, Or.inl rfl⟩
    | 23, _ => exact Or.inl ⟨rfl, Or.inl rfl⟩
    | 24, _ => exact Or.inl ⟨rfl, Or.inr rfl⟩
    | 25, _ => exact Or.inl ⟨rfl, Or.inr rfl⟩
    | 26, _ => exact Or.inr (Or.inr ⟨rfl, Or.inr ⟨_, rfl⟩⟩)
    | 27, _ => exact Or.inl ⟨rfl, Or.inl rfl⟩
    | 28, _ => exact Or.inl ⟨rfl, Or.inl rfl⟩
    | 29, _ => exact Or.inr (Or.inr ⟨rfl, Or.inr ⟨_, rfl⟩⟩)
    | 30, _ => exact Or.inr (Or.inr ⟨rfl, Or.inr ⟨_, rfl⟩⟩)
    | 31, _ => exact Or.inr (Or.inr ⟨rfl, Or.inr ⟨_, rfl⟩⟩)
    | 32, _ => exact Or.inl ⟨rfl, Or.inl rfl⟩
    | 33, _ => exact Or.inr (Or.inr ⟨rfl, Or.inr ⟨_, rfl⟩⟩)
    | 34, _ => exact Or.inr (Or.inr ⟨rfl, Or.inr ⟨_, rfl⟩⟩)
    | 35, _ => exact Or.inr (Or.inr ⟨rfl, Or.inr ⟨_, rfl⟩⟩)
    | 36, _ => exact Or.inr (Or.inr ⟨rfl, Or.inr ⟨_, rfl⟩⟩)
    | 37, _ => exact Or.inr (Or.inr ⟨rfl, Or.inr ⟨_, rfl⟩⟩)
    | 38, _ => exact Or.inr (Or.inr ⟨rfl, Or.inr ⟨_, rfl⟩⟩)
    | 39, _ => exact Or.inr (Or.inr ⟨rfl, Or.inr ⟨_, rfl⟩⟩)
    | 40, _ => exact Or.inr (Or.inr ⟨rfl, Or.inr ⟨_, rfl⟩⟩)
    | 41, _ => exact Or.inl ⟨rfl, Or.inl rfl⟩
    | 42, _ => exact Or.inl ⟨rfl, Or.inl rfl⟩
    | 43, _ => exact Or.inl ⟨rfl, Or.inl rfl⟩
    | 44, _ => exact Or.inl ⟨rfl, Or.inl rfl⟩
    | 45, _ => exact Or.inl ⟨rfl, Or.inr rfl⟩
    | 46, _ => exact Or.inl ⟨rfl, Or.inr rfl⟩
    | 47, _ => exact Or.inr (Or.inr ⟨rfl, Or.inr ⟨_, rfl⟩⟩)
    | 48, _ => exact Or.inr (Or.inr ⟨rfl, Or.inr ⟨_, rfl⟩⟩)
    | 49, _ => exact Or.inl ⟨rfl, Or.inl rfl⟩
    | 50, _ => exact Or.inl ⟨rfl, Or.inl rfl⟩
    | k + 51, h => exact absurd h (by show ¬ k + 51 < 51; omega)
  | c + 12, h => omega
theorem z_sub {big ws : List Cond} (ps : List Nat) (hp : ws = ps.filterMap (fun i => big[i]?)) : ∀ w ∈ ws, w ∈ big := by
  intro w hw
  rw [hp] at hw
  obtain ⟨i, -, hi⟩ := List.mem_filterMap.mp hw
  first | exact List.mem_of_getElem? hi | exact List.getElem?_mem hi
theorem zin_0 : ∀ w ∈ u_ws (zNm 0) (zT 0) (zFN 0), w ∈ lw_tbl := z_sub [447, 449, 451, 453, 455, 457, 459, 461, 463, 465, 467, 469, 471, 473, 475, 477, 479, 481, 483, 485] (by decide +kernel)
theorem zin_1 : ∀ w ∈ u_ws (zNm 1) (zT 1) (zFN 1), w ∈ lw_tbl := z_sub [350, 352] (by decide +kernel)
theorem zin_2 : ∀ w ∈ u_ws (zNm 2) (zT 2) (zFN 2), w ∈ lw_tbl := z_sub [242, 244, 246, 248, 250, 252, 254] (by decide +kernel)
theorem zin_3 : ∀ w ∈ u_ws (zNm 3) (zT 3) (zFN 3), w ∈ lw_tbl := z_sub [409, 411] (by decide +kernel)
theorem zin_4 : ∀ w ∈ u_ws (zNm 4) (zT 4) (zFN 4), w ∈ lw_tbl := z_sub [368, 370, 372, 374, 376] (by decide +kernel)
theorem zin_5 : ∀ w ∈ u_ws (zNm 5) (zT 5) (zFN 5), w ∈ lw_tbl := z_sub [193, 195, 197, 199, 201, 203, 205, 207, 209, 211, 213, 215, 217, 219, 221, 223] (by decide +kernel)
theorem zin_6 : ∀ w ∈ u_ws (zNm 6) (zT 6) (zFN 6), w ∈ lw_tbl := z_sub [332, 334, 336, 338] (by decide +kernel)
theorem zin_7 : ∀ w ∈ u_ws (zNm 7) (zT 7) (zFN 7), w ∈ lw_tbl := z_sub [390, 392, 394, 396, 398] (by decide +kernel)
theorem zin_8 : ∀ w ∈ u_ws (zNm 8) (zT 8) (zFN 8), w ∈ lw_tbl := z_sub [422, 424] (by decide +kernel)
theorem zin_9 : ∀ w ∈ u_ws (zNm 9) (zT 9) (zFN 9), w ∈ lw_tbl := z_sub [274, 276, 278, 280, 282, 284] (by decide +kernel)
theorem zin_10 : ∀ w ∈ u_ws (zNm 10) (zT 10) (zFN 10), w ∈ lw_tbl := z_sub [312, 314, 316, 318, 320, 322, 324] (by decide +kernel)
theorem zin_11 : ∀ w ∈ u_ws (zNm 11) (zT 11) (zFN 11), w ∈ lw_tbl := z_sub [1330, 1332, 1334, 1336, 1338, 1340, 1342, 1344, 1346, 1348, 1350, 1352, 1354, 1356, 1358, 1360, 1362, 1364, 1366, 1368, 1370, 1372, 1374, 1376, 1378, 1380, 1382, 1384, 1386, 1388, 1390, 1392, 1394, 1396, 1398, 1400, 1402, 1404, 1406, 1408, 1410, 1412, 1414, 1416, 1418, 1420, 1422, 1424, 1426, 1428, 1430] (by decide +kernel)
theorem zin : ∀ c, c < 12 → ∀ w ∈ u_ws (zNm c) (zT c) (zFN c), w ∈ lw_tbl := by
  intro c hc
  match c, hc with
  | 0, _ => exact zin_0
  | 1, _ => exact zin_1
  | 2, _ => exact zin_2
  | 3, _ => exact zin_3
  | 4, _ => exact zin_4
  | 5, _ => exact zin_5
  | 6, _ => exact zin_6
  | 7, _ => exact zin_7
  | 8, _ => exact zin_8
  | 9, _ => exact zin_9
  | 10, _ => exact zin_10
  | 11, _ => exact zin_11
  | c + 12, h => omega
/-- the words that hold at every call: good ones -/
def zGW : List Cond := lw_tbl.filter goodWord
theorem zGW_in {w : Cond} (i : Nat) (h : lw_tbl[i]? = some w) (hg : goodWord w = true) : w ∈ zGW := List.mem_filter.mpr ⟨List.mem_of_getElem? h, hg⟩
theorem zGW_lw {w : Cond} (h : w ∈ zGW) : w ∈ lw_tbl := (List.mem_filter.mp h).1
theorem zGW_good {w : Cond} (h : w ∈ zGW) : goodWord w = true := (List.mem_filter.mp h).2
theorem zig_0 : ∀ w ∈ u_ws (zNm 0) (zT 0) (zFN 0), w ∈ zGW := fun w h => List.mem_filter.mpr ⟨zin_0 w h, List.all_eq_true.mp (show (u_ws (zNm 0) (zT 0) (zFN 0)).all goodWord = true by decide +kernel) w h⟩
theorem zig_1 : ∀ w ∈ u_ws (zNm 1) (zT 1) (zFN 1), w ∈ zGW := fun w h => List.mem_filter.mpr ⟨zin_1 w h, List.all_eq_true.mp (show (u_ws (zNm 1) (zT 1) (zFN 1)).all goodWord = true by decide +kernel) w h⟩
theorem zig_2 : ∀ w ∈ u_ws (zNm 2) (zT 2) (zFN 2), w ∈ zGW := fun w h => List.mem_filter.mpr ⟨zin_2 w h, List.all_eq_true.mp (show (u_ws (zNm 2) (zT 2) (zFN 2)).all goodWord = true by decide +kernel) w h⟩
theorem zig_3 : ∀ w ∈ u_ws (zNm 3) (zT 3) (zFN 3), w ∈ zGW := fun w h => List.mem_filter.mpr ⟨zin_3 w h, List.all_eq_true.mp (show (u_ws (zNm 3) (zT 3) (zFN 3)).all goodWord = true by decide +kernel) w h⟩
theorem zig_4 : ∀ w ∈ u_ws (zNm 4) (zT 4) (zFN 4), w ∈ zGW := fun w h => List.mem_filter.mpr ⟨zin_4 w h, List.all_eq_true.mp (show (u_ws (zNm 4) (zT 4) (zFN 4)).all goodWord = true by decide +kernel) w h⟩
theorem zig_5 : ∀ w ∈ u_ws (zNm 5) (zT 5) (zFN 5), w ∈ zGW := fun w h => List.mem_filter.mpr ⟨zin_5 w h, List.all_eq_true.mp (show (u_ws (zNm 5) (zT 5) (zFN 5)).all goodWord = true by decide +kernel) w h⟩
theorem zig_6 : ∀ w ∈ u_ws (zNm 6) (zT 6) (zFN 6), w ∈ zGW := fun w h => List.mem_filter.mpr ⟨zin_6 w h, List.all_eq_true.mp (show (u_ws (zNm 6) (zT 6) (zFN 6)).all goodWord = true by decide +kernel) w h⟩
theorem zig_7 : ∀ w ∈ u_ws (zNm 7) (zT 7) (zFN 7), w ∈ zGW := fun w h => List.mem_filter.mpr ⟨zin_7 w h, List.all_eq_true.mp (show (u_ws (zNm 7) (zT 7) (zFN 7)).all goodWord = true by decide +kernel) w h⟩
theorem zig_8 : ∀ w ∈ u_ws (zNm 8) (zT 8) (zFN 8), w ∈ zGW := fun w h => List.mem_filter.mpr ⟨zin_8 w h, List.all_eq_true.mp (show (u_ws (zNm 8) (zT 8) (zFN 8)).all goodWord = true by decide +kernel) w h⟩
theorem zig_9 : ∀ w ∈ u_ws (zNm 9) (zT 9) (zFN 9), w ∈ zGW := fun w h => List.mem_filter.mpr ⟨zin_9 w h, List.all_eq_true.mp (show (u_ws (zNm 9) (zT 9) (zFN 9)).all goodWord = true by decide +kernel) w h⟩
theorem zig_10 : ∀ w ∈ u_ws (zNm 10) (zT 10) (zFN 10), w ∈ zGW := fun w h => List.mem_filter.mpr ⟨zin_10 w h, List.all_eq_true.mp (show (u_ws (zNm 10) (zT 10) (zFN 10)).all goodWord = true by decide +kernel) w h⟩
theorem zig_11 : ∀ w ∈ u_ws (zNm 11) (zT 11) (zFN 11), w ∈ zGW := fun w h => List.mem_filter.mpr ⟨zin_11 w h, List.all_eq_true.mp (show (u_ws (zNm 11) (zT 11) (zFN 11)).all goodWord = true by decide +kernel) w h⟩
theorem zig : ∀ c, c < 12 → ∀ w ∈ u_ws (zNm c) (zT c) (zFN c), w ∈ zGW := by
  intro c hc
  match c, hc with
  | 0, _ => exact zig_0
  | 1, _ => exact zig_1
  | 2, _ => exact zig_2
  | 3, _ => exact zig_3
  | 4, _ => exact zig_4
  | 5, _ => exact zig_5
  | 6, _ => exact zig_6
  | 7, _ => exact zig_7
  | 8, _ => exact zig_8
  | 9, _ => exact zig_9
  | 10, _ => exact zig_10
  | 11, _ => exact zig_11
  | c + 12, h => omega
theorem zfl_5_9 : Cond.fieldLink (zNm 5) 9 (zNm 5) (zT 5 0).2.1 (zT 5 0).2.2.1 ∈ zGW := zGW_in 159 (by decide +kernel) (by decide +kernel)
theorem zfl_0_113 : Cond.fieldLink (zNm 0) 113 (zNm 5) (zT 5 0).2.1 (zT 5 0).2.2.1 ∈ zGW := zGW_in 160 (by decide +kernel) (by decide +kernel)
theorem zfl_4_28 : Cond.fieldLink (zNm 4) 28 (zNm 5) (zT 5 0).2.1 (zT 5 0).2.2.1 ∈ zGW := zGW_in 161 (by decide +kernel) (by decide +kernel)
theorem zfl_5_15 : Cond.fieldLink (zNm 5) 15 (zNm 5) (zT 5 1).2.1 (zT 5 1).2.2.1 ∈ zGW := zGW_in 162 (by decide +kernel) (by decide +kernel)
theorem zfl_5_19 : Cond.fieldLink (zNm 5) 19 (zNm 5) (zT 5 2).2.1 (zT 5 2).2.2.1 ∈ zGW := zGW_in 163 (by decide +kernel) (by decide +kernel)
theorem zfl_5_22 : Cond.fieldLink (zNm 5) 22 (zNm 5) (zT 5 3).2.1 (zT 5 3).2.2.1 ∈ zGW := zGW_in 164 (by decide +kernel) (by decide +kernel)
theorem zfl_2_53 : Cond.fieldLink (zNm 2) 53 (zNm 5) (zT 5 3).2.1 (zT 5 3).2.2.1 ∈ zGW := zGW_in 165 (by decide +kernel) (by decide +kernel)
theorem zfl_0_366 : Cond.fieldLink (zNm 0) 366 (zNm 5) (zT 5 3).2.1 (zT 5 3).2.2.1 ∈ zGW := zGW_in 166 (by decide +kernel) (by decide +kernel)
theorem zfl_5_26 : Cond.fieldLink (zNm 5) 26 (zNm 5) (zT 5 4).2.1 (zT 5 4).2.2.1 ∈ zGW := zGW_in 167 (by decide +kernel) (by decide +kernel)
theorem zfl_2_49 : Cond.fieldLink (zNm 2) 49 (zNm 5) (zT 5 4).2.1 (zT 5 4).2.2.1 ∈ zGW := zGW_in 168 (by decide +kernel) (by decide +kernel)
theorem zfl_0_347 : Cond.fieldLink (zNm 0) 347 (zNm 5) (zT 5 4).2.1 (zT 5 4).2.2.1 ∈ zGW := zGW_in 169 (by decide +kernel) (by decide +kernel)
theorem zfl_5_29 : Cond.fieldLink (zNm 5) 29 (zNm 5) (zT 5 5).2.1 (zT 5 5).2.2.1 ∈ zGW := zGW_in 170 (by decide +kernel) (by decide +kernel)
theorem zfl_2_41 : Cond.fieldLink (zNm 2) 41 (zNm 5) (zT 5 5).2.1 (zT 5 5).2.2.1 ∈ zGW := zGW_in 171 (by decide +kernel) (by decide +kernel)
theorem zfl_0_248 : Cond.fieldLink (zNm 0) 248 (zNm 5) (zT 5 5).2.1 (zT 5 5).2.2.1 ∈ zGW := zGW_in 172 (by decide +kernel) (by decide +kernel)
theorem zfl_5_32 : Cond.fieldLink (zNm 5) 32 (zNm 5) (zT 5 6).2.1 (zT 5 6).2.2.1 ∈ zGW := zGW_in 173 (by decide +kernel) (by decide +kernel)
theorem zfl_2_46 : Cond.fieldLink (zNm 2) 46 (zNm 5) (zT 5 6).2.1 (zT 5 6).2.2.1 ∈ zGW := zGW_in 174 (by decide +kernel) (by decide +kernel)
theorem zfl_0_326 : Cond.fieldLink (zNm 0) 326 (zNm 5) (zT 5 6).2.1 (zT 5 6).2.2.1 ∈ zGW := zGW_in 175 (by decide +kernel) (by decide +kernel)
theorem zfl_5_35 : Cond.fieldLink (zNm 5) 35 (zNm 5) (zT 5 7).2.1 (zT 5 7).2.2.1 ∈ zGW := zGW_in 176 (by decide +kernel) (by decide +kernel)
theorem zfl_0_407 : Cond.fieldLink (zNm 0) 407 (zNm 5) (zT 5 7).2.1 (zT 5 7).2.2.1 ∈ zGW := zGW_in 177 (by decide +kernel) (by decide +kernel)
theorem zfl_5_38 : Cond.fieldLink (zNm 5) 38 (zNm 5) (zT 5 8).2.1 (zT 5 8).2.2.1 ∈ zGW := zGW_in 178 (by decide +kernel) (by decide +kernel)
theorem zfl_5_41 : Cond.fieldLink (zNm 5) 41 (zNm 5) (zT 5 9).2.1 (zT 5 9).2.2.1 ∈ zGW := zGW_in 179 (by decide +kernel) (by decide +kernel)
theorem zfl_8_26 : Cond.fieldLink (zNm 8) 26 (zNm 5) (zT 5 9).2.1 (zT 5 9).2.2.1 ∈ zGW := zGW_in 180 (by decide +kernel) (by decide +kernel)
theorem zfl_0_283 : Cond.fieldLink (zNm 0) 283 (zNm 5) (zT 5 9).2.1 (zT 5 9).2.2.1 ∈ zGW := zGW_in 181 (by decide +kernel) (by decide +kernel)
theorem zfl_5_44 : Cond.fieldLink (zNm 5) 44 (zNm 5) (zT 5 10).2.1 (zT 5 10).2.2.1 ∈ zGW := zGW_in 182 (by decide +kernel) (by decide +kernel)
theorem zfl_5_47 : Cond.fieldLink (zNm 5) 47 (zNm 5) (zT 5 11).2.1 (zT 5 11).2.2.1 ∈ zGW := zGW_in 184 (by decide +kernel) (by decide +kernel)
theorem zfl_5_50 : Cond.fieldLink (zNm 5) 50 (zNm 5) (zT 5 12).2.1 (zT 5 12).2.2.1 ∈ zGW := zGW_in 186 (by decide +kernel) (by decide +kernel)
theorem zfl_0_180 : Cond.fieldLink (zNm 0) 180 (zNm 5) (zT 5 12).2.1 (zT 5 12).2.2.1 ∈ zGW := zGW_in 187 (by decide +kernel) (by decide +kernel)
theorem zfl_5_55 : Cond.fieldLink (zNm 5) 55 (zNm 5) (zT 5 13).2.1 (zT 5 13).2.2.1 ∈ zGW := zGW_in 188 (by decide +kernel) (by decide +kernel)
theorem zfl_5_59 : Cond.fieldLink (zNm 5) 59 (zNm 5) (zT 5 14).2.1 (zT 5 14).2.2.1 ∈ zGW := zGW_in 189 (by decide +kernel) (by decide +kernel)
theorem zfl_0_213 : Cond.fieldLink (zNm 0) 213 (zNm 5) (zT 5 14).2.1 (zT 5 14).2.2.1 ∈ zGW := zGW_in 190 (by decide +kernel) (by decide +kernel)
theorem zfl_5_62 : Cond.fieldLink (zNm 5) 62 (zNm 5) (zT 5 15).2.1 (zT 5 15).2.2.1 ∈ zGW := zGW_in 191 (by decide +kernel) (by decide +kernel)
theorem zfl_0_340 : Cond.fieldLink (zNm 0) 340 (zNm 5) (zT 5 15).2.1 (zT 5 15).2.2.1 ∈ zGW := zGW_in 192 (by decide +kernel) (by decide +kernel)
theorem zfl_2_11 : Cond.fieldLink (zNm 2) 11 (zNm 2) (zT 2 0).2.1 (zT 2 0).2.2.1 ∈ zGW := zGW_in 234 (by decide +kernel) (by decide +kernel)
theorem zfl_0_357 : Cond.fieldLink (zNm 0) 357 (zNm 2) (zT 2 0).2.1 (zT 2 0).2.2.1 ∈ zGW := zGW_in 235 (by decide +kernel) (by decide +kernel)
theorem zfl_2_15 : Cond.fieldLink (zNm 2) 15 (zNm 2) (zT 2 1).2.1 (zT 2 1).2.2.1 ∈ zGW := zGW_in 236 (by decide +kernel) (by decide +kernel)
theorem zfl_2_18 : Cond.fieldLink (zNm 2) 18 (zNm 2) (zT 2 2).2.1 (zT 2 2).2.2.1 ∈ zGW := zGW_in 237 (by decide +kernel) (by decide +kernel)
theorem zfl_2_22 : Cond.fieldLink (zNm 2) 22 (zNm 2) (zT 2 3).2.1 (zT 2 3).2.2.1 ∈ zGW := zGW_in 238 (by decide +kernel) (by decide +kernel)
theorem zfl_2_25 : Cond.fieldLink (zNm 2) 25 (zNm 2) (zT 2 4).2.1 (zT 2 4).2.2.1 ∈ zGW := zGW_in 239 (by decide +kernel) (by decide +kernel)
theorem zfl_2_28 : Cond.fieldLink (zNm 2) 28 (zNm 2) (zT 2 5).2.1 (zT 2 5).2.2.1 ∈ zGW := zGW_in 240 (by decide +kernel) (by decide +kernel)
theorem zfl_2_32 : Cond.fieldLink (zNm 2) 32 (zNm 2) (zT 2 6).2.1 (zT 2 6).2.2.1 ∈ zGW := zGW_in 241 (by decide +kernel) (by decide +kernel)
theorem zfl_9_9 : Cond.fieldLink (zNm 9) 9 (zNm 9) (zT 9 0).2.1 (zT 9 0).2.2.1 ∈ zGW := zGW_in 264 (by decide +kernel) (by decide +kernel)
theorem zfl_9_15 : Cond.fieldLink (zNm 9) 15 (zNm 9) (zT 9 1).2.1 (zT 9 1).2.2.1 ∈ zGW := zGW_in 265 (by decide +kernel) (by decide +kernel)
theorem zfl_0_170 : Cond.fieldLink (zNm 0) 170 (zNm 9) (zT 9 1).2.1 (zT 9 1).2.2.1 ∈ zGW := zGW_in 266 (by decide +kernel) (by decide +kernel)
theorem zfl_9_19 : Cond.fieldLink (zNm 9) 19 (zNm 9) (zT 9 2).2.1 (zT 9 2).2.2.1 ∈ zGW := zGW_in 267 (by decide +kernel) (by decide +kernel)
theorem zfl_6_43 : Cond.fieldLink (zNm 6) 43 (zNm 9) (zT 9 2).2.1 (zT 9 2).2.2.1 ∈ zGW := zGW_in 268 (by decide +kernel) (by decide +kernel)
theorem zfl_9_22 : Cond.fieldLink (zNm 9) 22 (zNm 9) (zT 9 3).2.1 (zT 9 3).2.2.1 ∈ zGW := zGW_in 269 (by decide +kernel) (by decide +kernel)
theorem zfl_9_25 : Cond.fieldLink (zNm 9) 25 (zNm 9) (zT 9 4).2.1 (zT 9 4).2.2.1 ∈ zGW := zGW_in 270 (by decide +kernel) (by decide +kernel)
theorem zfl_6_46 : Cond.fieldLink (zNm 6) 46 (zNm 9) (zT 9 4).2.1 (zT 9 4).2.2.1 ∈ zGW := zGW_in 271 (by decide +kernel) (by decide +kernel)
theorem zfl_9_28 : Cond.fieldLink (zNm 9) 28 (zNm 9) (zT 9 5).2.1 (zT 9 5).2.2.1 ∈ zGW := zGW_in 272 (by decide +kernel) (by decide +kernel)
theorem zfl_6_115 : Cond.fieldLink (zNm 6) 115 (zNm 9) (zT 9 5).2.1 (zT 9 5).2.2.1 ∈ zGW := zGW_in 273 (by decide +kernel) (by decide +kernel)
theorem zfl_10_32 : Cond.fieldLink (zNm 10) 32 (zNm 10) (zT 10 0).2.1 (zT 10 0).2.2.1 ∈ zGW := zGW_in 300 (by decide +kernel) (by decide +kernel)
theorem zfl_10_9 : Cond.fieldLink (zNm 10) 9 (zNm 10) (zT 10 1).2.1 (zT 10 1).2.2.1 ∈ zGW := zGW_in 301 (by decide +kernel) (by decide +kernel)
theorem zfl_6_129 : Cond.fieldLink (zNm 6) 129 (zNm 10) (zT 10 1).2.1 (zT 10 1).2.2.1 ∈ zGW := zGW_in 302 (by decide +kernel) (by decide +kernel)
theorem zfl_10_15 : Cond.fieldLink (zNm 10) 15 (zNm 10) (zT 10 2).2.1 (zT 10 2).2.2.1 ∈ zGW := zGW_in 303 (by decide +kernel) (by decide +kernel)
theorem zfl_1_29 : Cond.fieldLink (zNm 1) 29 (zNm 10) (zT 10 2).2.1 (zT 10 2).2.2.1 ∈ zGW := zGW_in 304 (by decide +kernel) (by decide +kernel)
theorem zfl_0_386 : Cond.fieldLink (zNm 0) 386 (zNm 10) (zT 10 2).2.1 (zT 10 2).2.2.1 ∈ zGW := zGW_in 305 (by decide +kernel) (by decide +kernel)
theorem zfl_10_18 : Cond.fieldLink (zNm 10) 18 (zNm 10) (zT 10 3).2.1 (zT 10 3).2.2.1 ∈ zGW := zGW_in 306 (by decide +kernel) (by decide +kernel)
theorem zfl_6_166 : Cond.fieldLink (zNm 6) 166 (zNm 10) (zT 10 3).2.1 (zT 10 3).2.2.1 ∈ zGW := zGW_in 307 (by decide +kernel) (by decide +kernel)
theorem zfl_0_395 : Cond.fieldLink (zNm 0) 395 (zNm 10) (zT 10 3).2.1 (zT 10 3).2.2.1 ∈ zGW := zGW_in 308 (by decide +kernel) (by decide +kernel)
theorem zfl_10_22 : Cond.fieldLink (zNm 10) 22 (zNm 10) (zT 10 4).2.1 (zT 10 4).2.2.1 ∈ zGW := zGW_in 309 (by decide +kernel) (by decide +kernel)
theorem zfl_10_26 : Cond.fieldLink (zNm 10) 26 (zNm 10) (zT 10 5).2.1 (zT 10 5).2.2.1 ∈ zGW := zGW_in 310 (by decide +kernel) (by decide +kernel)
theorem zfl_10_29 : Cond.fieldLink (zNm 10) 29 (zNm 10) (zT 10 6).2.1 (zT 10 6).2.2.1 ∈ zGW := zGW_in 311 (by decide +kernel) (by decide +kernel)
theorem zfl_6_14 : Cond.fieldLink (zNm 6) 14 (zNm 6) (zT 6 0).2.1 (zT 6 0).2.2.1 ∈ zGW := zGW_in 327 (by decide +kernel) (by decide +kernel)
theorem zfl_0_187 : Cond.fieldLink (zNm 0) 187 (zNm 6) (zT 6 0).2.1 (zT 6 0).2.2.1 ∈ zGW := zGW_in 328 (by decide +kernel) (by decide +kernel)
theorem zfl_6_20 : Cond.fieldLink (zNm 6) 20 (zNm 6) (zT 6 1).2.1 (zT 6 1).2.2.1 ∈ zGW := zGW_in 329 (by decide +kernel) (by decide +kernel)
theorem zfl_6_24 : Cond.fieldLink (zNm 6) 24 (zNm 6) (zT 6 2).2.1 (zT 6 2).2.2.1 ∈ zGW := zGW_in 330 (by decide +kernel) (by decide +kernel)
theorem zfl_6_28 : Cond.fieldLink (zNm 6) 28 (zNm 6) (zT 6 3).2.1 (zT 6 3).2.2.1 ∈ zGW := zGW_in 331 (by decide +kernel) (by decide +kernel)
theorem zfl_1_9 : Cond.fieldLink (zNm 1) 9 (zNm 1) (zT 1 0).2.1 (zT 1 0).2.2.1 ∈ zGW := zGW_in 347 (by decide +kernel) (by decide +kernel)
theorem zfl_0_383 : Cond.fieldLink (zNm 0) 383 (zNm 1) (zT 1 0).2.1 (zT 1 0).2.2.1 ∈ zGW := zGW_in 348 (by decide +kernel) (by decide +kernel)
theorem zfl_1_15 : Cond.fieldLink (zNm 1) 15 (zNm 1) (zT 1 1).2.1 (zT 1 1).2.2.1 ∈ zGW := zGW_in 349 (by decide +kernel) (by decide +kernel)
theorem zfl_4_9 : Cond.fieldLink (zNm 4) 9 (zNm 4) (zT 4 0).2.1 (zT 4 0).2.2.1 ∈ zGW := zGW_in 361 (by decide +kernel) (by decide +kernel)
theorem zfl_8_19 : Cond.fieldLink (zNm 8) 19 (zNm 4) (zT 4 0).2.1 (zT 4 0).2.2.1 ∈ zGW := zGW_in 362 (by decide +kernel) (by decide +kernel)
theorem zfl_7_28 : Cond.fieldLink (zNm 7) 28 (zNm 4) (zT 4 0).2.1 (zT 4 0).2.2.1 ∈ zGW := zGW_in 363 (by decide +kernel) (by decide +kernel)
theorem zfl_4_15 : Cond.fieldLink (zNm 4) 15 (zNm 4) (zT 4 1).2.1 (zT 4 1).2.2.1 ∈ zGW := zGW_in 364 (by decide +kernel) (by decide +kernel)
theorem zfl_4_19 : Cond.fieldLink (zNm 4) 19 (zNm 4) (zT 4 2).2.1 (zT 4 2).2.2.1 ∈ zGW := zGW_in 365 (by decide +kernel) (by decide +kernel)
theorem zfl_4_22 : Cond.fieldLink (zNm 4) 22 (zNm 4) (zT 4 3).2.1 (zT 4 3).2.2.1 ∈ zGW := zGW_in 366 (by decide +kernel) (by decide +kernel)
theorem zfl_4_25 : Cond.fieldLink (zNm 4) 25 (zNm 4) (zT 4 4).2.1 (zT 4 4).2.2.1 ∈ zGW := zGW_in 367 (by decide +kernel) (by decide +kernel)
theorem zfl_7_11 : Cond.fieldLink (zNm 7) 11 (zNm 7) (zT 7 0).2.1 (zT 7 0).2.2.1 ∈ zGW := zGW_in 385 (by decide +kernel) (by decide +kernel)
theorem zfl_7_15 : Cond.fieldLink (zNm 7) 15 (zNm 7) (zT 7 1).2.1 (zT 7 1).2.2.1 ∈ zGW := zGW_in 386 (by decide +kernel) (by decide +kernel)
theorem zfl_7_19 : Cond.fieldLink (zNm 7) 19 (zNm 7) (zT 7 2).2.1 (zT 7 2).2.2.1 ∈ zGW := zGW_in 387 (by decide +kernel) (by decide +kernel)
theorem zfl_7_22 : Cond.fieldLink (zNm 7) 22 (zNm 7) (zT 7 3).2.1 (zT 7 3).2.2.1 ∈ zGW := zGW_in 388 (by decide +kernel) (by decide +kernel)
theorem zfl_7_25 : Cond.fieldLink (zNm 7) 25 (zNm 7) (zT 7 4).2.1 (zT 7 4).2.2.1 ∈ zGW := zGW_in 389 (by decide +kernel) (by decide +kernel)
theorem zfl_3_9 : Cond.fieldLink (zNm 3) 9 (zNm 3) (zT 3 0).2.1 (zT 3 0).2.2.1 ∈ zGW := zGW_in 407 (by decide +kernel) (by decide +kernel)
theorem zfl_3_15 : Cond.fieldLink (zNm 3) 15 (zNm 3) (zT 3 1).2.1 (zT 3 1).2.2.1 ∈ zGW := zGW_in 408 (by decide +kernel) (by decide +kernel)
theorem zfl_8_9 : Cond.fieldLink (zNm 8) 9 (zNm 8) (zT 8 0).2.1 (zT 8 0).2.2.1 ∈ zGW := zGW_in 420 (by decide +kernel) (by decide +kernel)
theorem zfl_8_15 : Cond.fieldLink (zNm 8) 15 (zNm 8) (zT 8 1).2.1 (zT 8 1).2.2.1 ∈ zGW := zGW_in 421 (by decide +kernel) (by decide +kernel)
theorem zfl_0_12 : Cond.fieldLink (zNm 0) 12 (zNm 0) (zT 0 0).2.1 (zT 0 0).2.2.1 ∈ zGW := zGW_in 427 (by decide +kernel) (by decide +kernel)
theorem zfl_0_16 : Cond.fieldLink (zNm 0) 16 (zNm 0) (zT 0 1).2.1 (zT 0 1).2.2.1 ∈ zGW := zGW_in 428 (by decide +kernel) (by decide +kernel)
theorem zfl_0_19 : Cond.fieldLink (zNm 0) 19 (zNm 0) (zT 0 2).2.1 (zT 0 2).2.2.1 ∈ zGW := zGW_in 429 (by decide +kernel) (by decide +kernel)
theorem zfl_0_22 : Cond.fieldLink (zNm 0) 22 (zNm 0) (zT 0 3).2.1 (zT 0 3).2.2.1 ∈ zGW := zGW_in 430 (by decide +kernel) (by decide +kernel)
theorem zfl_0_29 : Cond.fieldLink (zNm 0) 29 (zNm 0) (zT 0 4).2.1 (zT 0 4).2.2.1 ∈ zGW := zGW_in 431 (by decide +kernel) (by decide +kernel)
theorem zfl_0_33 : Cond.fieldLink (zNm 0) 33 (zNm 0) (zT 0 5).2.1 (zT 0 5).2.2.1 ∈ zGW := zGW_in 432 (by decide +kernel) (by decide +kernel)
theorem zfl_0_39 : Cond.fieldLink (zNm 0) 39 (zNm 0) (zT 0 6).2.1 (zT 0 6).2.2.1 ∈ zGW := zGW_in 433 (by decide +kernel) (by decide +kernel)
theorem zfl_0_46 : Cond.fieldLink (zNm 0) 46 (zNm 0) (zT 0 7).2.1 (zT 0 7).2.2.1 ∈ zGW := zGW_in 434 (by decide +kernel) (by decide +kernel)
theorem zfl_0_53 : Cond.fieldLink (zNm 0) 53 (zNm 0) (zT 0 8).2.1 (zT 0 8).2.2.1 ∈ zGW := zGW_in 435 (by decide +kernel) (by decide +kernel)
theorem zfl_0_60 : Cond.fieldLink (zNm 0) 60 (zNm 0) (zT 0 9).2.1 (zT 0 9).2.2.1 ∈ zGW := zGW_in 436 (by decide +kernel) (by decide +kernel)
theorem zfl_0_67 : Cond.fieldLink (zNm 0) 67 (zNm 0) (zT 0 10).2.1 (zT 0 10).2.2.1 ∈ zGW := zGW_in 437 (by decide +kernel) (by decide +kernel)
theorem zfl_0_74 : Cond.fieldLink (zNm 0) 74 (zNm 0) (zT 0 11).2.1 (zT 0 11).2.2.1 ∈ zGW := zGW_in 438 (by decide +kernel) (by decide +kernel)
theorem zfl_0_81 : Cond.fieldLink (zNm 0) 81 (zNm 0) (zT 0 12).2.1 (zT 0 12).2.2.1 ∈ zGW := zGW_in 439 (by decide +kernel) (by decide +kernel)
theorem zfl_0_85 : Cond.fieldLink (zNm 0) 85 (zNm 0) (zT 0 13).2.1 (zT 0 13).2.2.1 ∈ zGW := zGW_in 440 (by decide +kernel) (by decide +kernel)
theorem zfl_0_89 : Cond.fieldLink (zNm 0) 89 (zNm 0) (zT 0 14).2.1 (zT 0 14).2.2.1 ∈ zGW := zGW_in 441 (by decide +kernel) (by decide +kernel)
theorem zfl_0_93 : Cond.fieldLink (zNm 0) 93 (zNm 0) (zT 0 15).2.1 (zT 0 15).2.2.1 ∈ zGW := zGW_in 442 (by decide +kernel) (by decide +kernel)
theorem zfl_0_96 : Cond.fieldLink (zNm 0) 96 (zNm 0) (zT 0 16).2.1 (zT 0 16).2.2.1 ∈ zGW := zGW_in 443 (by decide +kernel) (by decide +kernel)
theorem zfl_0_100 : Cond.fieldLink (zNm 0) 100 (zNm 0) (zT 0 17).2.1 (zT 0 17).2.2.1 ∈ zGW := zGW_in 444 (by decide +kernel) (by decide +kernel)
theorem zfl_0_103 : Cond.fieldLink (zNm 0) 103 (zNm 0) (zT 0 18).2.1 (zT 0 18).2.2.1 ∈ zGW := zGW_in 445 (by decide +kernel) (by decide +kernel)
theorem zfl_0_106 : Cond.fieldLink (zNm 0) 106 (zNm 0) (zT 0 19).2.1 (zT 0 19).2.2.1 ∈ zGW := zGW_in 446 (by decide +kernel) (by decide +kernel)
theorem zfl_11_3 : Cond.fieldLink (zNm 11) 3 (zNm 11) (zT 11 0).2.1 (zT 11 0).2.2.1 ∈ zGW := zGW_in 1279 (by decide +kernel) (by decide +kernel)
theorem zfl_11_7 : Cond.fieldLink (zNm 11) 7 (zNm 11) (zT 11 1).2.1 (zT 11 1).2.2.1 ∈ zGW := zGW_in 1280 (by decide +kernel) (by decide +kernel)
theorem zfl_11_24 : Cond.fieldLink (zNm 11) 24 (zNm 11) (zT 11 2).2.1 (zT 11 2).2.2.1 ∈ zGW := zGW_in 1281 (by decide +kernel) (by decide +kernel)
theorem zfl_11_27 : Cond.fieldLink (zNm 11) 27 (zNm 11) (zT 11 3).2.1 (zT 11 3).2.2.1 ∈ zGW := zGW_in 1282 (by decide +kernel) (by decide +kernel)
theorem zfl_11_30 : Cond.fieldLink (zNm 11) 30 (zNm 11) (zT 11 4).2.1 (zT 11 4).2.2.1 ∈ zGW := zGW_in 1283 (by decide +kernel) (by decide +kernel)
theorem zfl_11_34 : Cond.fieldLink (zNm 11) 34 (zNm 11) (zT 11 5).2.1 (zT 11 5).2.2.1 ∈ zGW := zGW_in 1284 (by decide +kernel) (by decide +kernel)
theorem zfl_11_162 : Cond.fieldLink (zNm 11) 162 (zNm 11) (zT 11 6).2.1 (zT 11 6).2.2.1 ∈ zGW := zGW_in 1285 (by decide +kernel) (by decide +kernel)
theorem zfl_11_37 : Cond.fieldLink (zNm 11) 37 (zNm 11) (zT 11 7).2.1 (zT 11 7).2.2.1 ∈ zGW := zGW_in 1286 (by decide +kernel) (by decide +kernel)
theorem zfl_11_237 : Cond.fieldLink (zNm 11) 237 (zNm 11) (zT 11 8).2.1 (zT 11 8).2.2.1 ∈ zGW := zGW_in 1287 (by decide +kernel) (by decide +kernel)
theorem zfl_11_240 : Cond.fieldLink (zNm 11) 240 (zNm 11) (zT 11 9).2.1 (zT 11 9).2.2.1 ∈ zGW := zGW_in 1288 (by decide +kernel) (by decide +kernel)
theorem zfl_11_211 : Cond.fieldLink (zNm 11) 211 (zNm 11) (zT 11 10).2.1 (zT 11 10).2.2.1 ∈ zGW := zGW_in 1289 (by decide +kernel) (by decide +kernel)
theorem zfl_11_41 : Cond.fieldLink (zNm 11) 41 (zNm 11) (zT 11 11).2.1 (zT 11 11).2.2.1 ∈ zGW := zGW_in 1290 (by decide +kernel) (by decide +kernel)
theorem zfl_11_44 : Cond.fieldLink (zNm 11) 44 (zNm 11) (zT 11 12).2.1 (zT 11 12).2.2.1 ∈ zGW := zGW_in 1291 (by decide +kernel) (by decide +kernel)
theorem zfl_11_159 : Cond.fieldLink (zNm 11) 159 (zNm 11) (zT 11 13).2.1 (zT 11 13).2.2.1 ∈ zGW := zGW_in 1292 (by decide +kernel) (by decide +kernel)
theorem zfl_11_47 : Cond.fieldLink (zNm 11) 47 (zNm 11) (zT 11 14).2.1 (zT 11 14).2.2.1 ∈ zGW := zGW_in 1293 (by decide +kernel) (by decide +kernel)
theorem zfl_11_50 : Cond.fieldLink (zNm 11) 50 (zNm 11) (zT 11 15).2.1 (zT 11 15).2.2.1 ∈ zGW := zGW_in 1294 (by decide +kernel) (by decide +kernel)
theorem zfl_11_53 : Cond.fieldLink (zNm 11) 53 (zNm 11) (zT 11 16).2.1 (zT 11 16).2.2.1 ∈ zGW := zGW_in 1295 (by decide +kernel) (by decide +kernel)
theorem zfl_11_56 : Cond.fieldLink (zNm 11) 56 (zNm 11) (zT 11 17).2.1 (zT 11 17).2.2.1 ∈ zGW := zGW_in 1296 (by decide +kernel) (by decide +kernel)
theorem zfl_11_165 : Cond.fieldLink (zNm 11) 165 (zNm 11) (zT 11 18).2.1 (zT 11 18).2.2.1 ∈ zGW := zGW_in 1297 (by decide +kernel) (by decide +kernel)
theorem zfl_11_185 : Cond.fieldLink (zNm 11) 185 (zNm 11) (zT 11 19).2.1 (zT 11 19).2.2.1 ∈ zGW := zGW_in 1298 (by decide +kernel) (by decide +kernel)
theorem zfl_11_194 : Cond.fieldLink (zNm 11) 194 (zNm 11) (zT 11 20).2.1 (zT 11 20).2.2.1 ∈ zGW := zGW_in 1299 (by decide +kernel) (by decide +kernel)
theorem zfl_11_178 : Cond.fieldLink (zNm 11) 178 (zNm 11) (zT 11 21).2.1 (zT 11 21).2.2.1 ∈ zGW := zGW_in 1300 (by decide +kernel) (by decide +kernel)
theorem zfl_11_268 : Cond.fieldLink (zNm 11) 268 (zNm 11) (zT 11 22).2.1 (zT 11 22).2.2.1 ∈ zGW := zGW_in 1301 (by decide +kernel) (by decide +kernel)
theorem zfl_11_265 : Cond.fieldLink (zNm 11) 265 (zNm 11) (zT 11 23).2.1 (zT 11 23).2.2.1 ∈ zGW := zGW_in 1302 (by decide +kernel) (by decide +kernel)
theorem zfl_11_278 : Cond.fieldLink (zNm 11) 278 (zNm 11) (zT 11 24).2.1 (zT 11 24).2.2.1 ∈ zGW := zGW_in 1303 (by decide +kernel) (by decide +kernel)
theorem zfl_11_298 : Cond.fieldLink (zNm 11) 298 (zNm 11) (zT 11 25).2.1 (zT 11 25).2.2.1 ∈ zGW := zGW_in 1304 (by decide +kernel) (by decide +kernel)
theorem zfl_11_59 : Cond.fieldLink (zNm 11) 59 (zNm 11) (zT 11 26).2.1 (zT 11 26).2.2.1 ∈ zGW := zGW_in 1305 (by decide +kernel) (by decide +kernel)
theorem zfl_11_304 : Cond.fieldLink (zNm 11) 304 (zNm 11) (zT 11 27).2.1 (zT 11 27).2.2.1 ∈ zGW := zGW_in 1306 (by decide +kernel) (by decide +kernel)
theorem zfl_11_307 : Cond.fieldLink (zNm 11) 307 (zNm 11) (zT 11 28).2.1 (zT 11 28).2.2.1 ∈ zGW := zGW_in 1307 (by decide +kernel) (by decide +kernel)
theorem zfl_11_62 : Cond.fieldLink (zNm 11) 62 (zNm 11) (zT 11 29).2.1 (zT 11 29).2.2.1 ∈ zGW := zGW_in 1308 (by decide +kernel) (by decide +kernel)
theorem zfl_11_65 : Cond.fieldLink (zNm 11) 65 (zNm 11) (zT 11 30).2.1 (zT 11 30).2.2.1 ∈ zGW := zGW_in 1309 (by decide +kernel) (by decide +kernel)
theorem zfl_11_68 : Cond.fieldLink (zNm 11) 68 (zNm 11) (zT 11 31).2.1 (zT 11 31).2.2.1 ∈ zGW := zGW_in 1310 (by decide +kernel) (by decide +kernel)
theorem zfl_11_11 : Cond.fieldLink (zNm 11) 11 (zNm 11) (zT 11 32).2.1 (zT 11 32).2.2.1 ∈ zGW := zGW_in 1311 (by decide +kernel) (by decide +kernel)
theorem zfl_11_71 : Cond.fieldLink (zNm 11) 71 (zNm 11) (zT 11 33).2.1 (zT 11 33).2.2.1 ∈ zGW := zGW_in 1312 (by decide +kernel) (by decide +kernel)
theorem zfl_11_74 : Cond.fieldLink (zNm 11) 74 (zNm 11) (zT 11 34).2.1 (zT 11 34).2.2.1 ∈ zGW := zGW_in 1313 (by decide +kernel) (by decide +kernel)
theorem zfl_11_77 : Cond.fieldLink (zNm 11) 77 (zNm 11) (zT 11 35).2.1 (zT 11 35).2.2.1 ∈ zGW := zGW_in 1314 (by decide +kernel) (by decide +kernel)
theorem zfl_11_80 : Cond.fieldLink (zNm 11) 80 (zNm 11) (zT 11 36).2.1 (zT 11 36).2.2.1 ∈ zGW := zGW_in 1315 (by decide +kernel) (by decide +kernel)
theorem zfl_11_83 : Cond.fieldLink (zNm 11) 83 (zNm 11) (zT 11 37).2.1 (zT 11 37).2.2.1 ∈ zGW := zGW_in 1316 (by decide +kernel) (by decide +kernel)
theorem zfl_11_86 : Cond.fieldLink (zNm 11) 86 (zNm 11) (zT 11 38).2.1 (zT 11 38).2.2.1 ∈ zGW := zGW_in 1317 (by decide +kernel) (by decide +kernel)
theorem zfl_11_89 : Cond.fieldLink (zNm 11) 89 (zNm 11) (zT 11 39).2.1 (zT 11 39).2.2.1 ∈ zGW := zGW_in 1318 (by decide +kernel) (by decide +kernel)
theorem zfl_11_92 : Cond.fieldLink (zNm 11) 92 (zNm 11) (zT 11 40).2.1 (zT 11 40).2.2.1 ∈ zGW := zGW_in 1319 (by decide +kernel) (by decide +kernel)
theorem zfl_11_96 : Cond.fieldLink (zNm 11) 96 (zNm 11) (zT 11 41).2.1 (zT 11 41).2.2.1 ∈ zGW := zGW_in 1320 (by decide +kernel) (by decide +kernel)
theorem zfl_11_439 : Cond.fieldLink (zNm 11) 439 (zNm 11) (zT 11 42).2.1 (zT 11 42).2.2.1 ∈ zGW := zGW_in 1321 (by decide +kernel) (by decide +kernel)
theorem zfl_11_457 : Cond.fieldLink (zNm 11) 457 (zNm 11) (zT 11 43).2.1 (zT 11 43).2.2.1 ∈ zGW := zGW_in 1322 (by decide +kernel) (by decide +kernel)
theorem zfl_11_451 : Cond.fieldLink (zNm 11) 451 (zNm 11) (zT 11 44).2.1 (zT 11 44).2.2.1 ∈ zGW := zGW_in 1323 (by decide +kernel) (by decide +kernel)
theorem zfl_11_454 : Cond.fieldLink (zNm 11) 454 (zNm 11) (zT 11 45).2.1 (zT 11 45).2.2.1 ∈ zGW := zGW_in 1324 (by decide +kernel) (by decide +kernel)
theorem zfl_11_460 : Cond.fieldLink (zNm 11) 460 (zNm 11) (zT 11 46).2.1 (zT 11 46).2.2.1 ∈ zGW := zGW_in 1325 (by decide +kernel) (by decide +kernel)
theorem zfl_11_99 : Cond.fieldLink (zNm 11) 99 (zNm 11) (zT 11 47).2.1 (zT 11 47).2.2.1 ∈ zGW := zGW_in 1326 (by decide +kernel) (by decide +kernel)
theorem zfl_11_102 : Cond.fieldLink (zNm 11) 102 (zNm 11) (zT 11 48).2.1 (zT 11 48).2.2.1 ∈ zGW := zGW_in 1327 (by decide +kernel) (by decide +kernel)
theorem zfl_11_105 : Cond.fieldLink (zNm 11) 105 (zNm 11) (zT 11 49).2.1 (zT 11 49).2.2.1 ∈ zGW := zGW_in 1328 (by decide +kernel) (by decide +kernel)
theorem zfl_11_478 : Cond.fieldLink (zNm 11) 478 (zNm 11) (zT 11 50).2.1 (zT 11 50).2.2.1 ∈ zGW := zGW_in 1329 (by decide +kernel) (by decide +kernel)
def zN0 : Nat := 98
def zX : Nat := 1000000
def zKt : List Nat := [0, 5, 50, 50, 50, 50, 55, 5, 50, 50, 50, 50, 55, 5, 50, 50, 50, 50, 55, 54, 5, 50, 50, 50, 50, 55, 5, 50, 50, 50, 50, 55, 2, 50, 50, 50, 51, 51, 2, 50, 50, 50, 51, 51, 9, 52, 6, 10, 50, 50, 50, 50, 1, 51, 50, 4, 50, 50, 50, 50, 7, 50, 50, 50, 50, 3, 50, 8, 50, 50, 51, 50, 11, 50, 50, 50, 53, 50, 52, 52, 50, 50, 50, 50, 50, 50, 50, 50, 50, 50, 50, 50, 50, 50, 50, 51, 51, 50]
def zAt : List Nat := [0, 0, 9, 36, 6, 6, 6, 0, 9, 36, 6, 6, 6, 0, 9, 36, 6, 6, 6, 2, 0, 9, 36, 6, 6, 6, 0, 9, 36, 6, 6, 6, 0, 16, 16, 16, 16, 16, 0, 16, 16, 16, 16, 16, 0, 400, 0, 0, 12, 12, 36, 436, 0, 50, 7, 0, 81, 81, 81, 81, 0, 8, 8, 64, 2048, 0, 90, 0, 9, 23, 20, 6, 0, 7, 5807, 11614, 2, 184, 121, 400, 5, 401, 401, 401, 7, 9, 1488, 1488, 9, 81, 81, 4608, 81, 81, 90, 21, 2, 92]
/-- the kind of an object by its number: 0 .. 11 a class, 50 int[], 51 long[], 52 byte[], 53 boolean[], 54 Parish[], 55 Text[]; behind the first 98 only texts, by fives -/
def zK (i : Nat) : Nat := if i < 98 then zKt.getD i 0 else if (i - 98) % 5 = 0 then 10 else 50
theorem zK_all : ∀ i, i < 98 → zK i < 12 ∨ (50 ≤ zK i ∧ zK i < 56) := by decide +kernel
theorem zK_range (i : Nat) : zK i < 12 ∨ (50 ≤ zK i ∧ zK i < 56) := by
  by_cases h : i < 98
  · exact zK_all i h
  · unfold zK
    rw [if_neg h]
    split <;> omega
