def jR0 : String := "PopPan$Batch"
def jT0 : u_T := fun k => match k with
  | 0 => ("PopPan$Batch", "skin", "[I", true)
  | 1 => ("PopPan$Batch", "size", "[I", true)
  | 2 => ("PopPan$Batch", "crack", "[I", true)
  | 3 => ("PopPan$Batch", "warmth", "[I", true)
  | 4 => ("PopPan$Batch", "water", "[I", true)
  | 5 => ("PopPan$Batch", "press", "[I", true)
  | 6 => ("PopPan$Batch", "state", "[I", true)
  | 7 => ("PopPan$Batch", "ended", "[I", true)
  | 8 => ("PopPan$Batch", "large", "[I", true)
  | 9 => ("PopPan$Batch", "rows", "[I", true)
  | 10 => ("PopPan$Batch", "heights", "[I", true)
  | 11 => ("PopPan$Batch", "number", "I", false)
  | 12 => ("PopPan$Batch", "strength", "I", false)
  | 13 => ("PopPan$Batch", "air", "I", false)
  | 14 => ("PopPan$Batch", "whole", "I", false)
  | 15 => ("PopPan$Batch", "gone", "I", false)
  | _ => ("PopPan$Batch", "risen", "Z", false)
def jY0 : Nat → FieldType := fun k => match k with
  | 0 => .array .int
  | 1 => .array .int
  | 2 => .array .int
  | 3 => .array .int
  | 4 => .array .int
  | 5 => .array .int
  | 6 => .array .int
  | 7 => .array .int
  | 8 => .array .int
  | 9 => .array .int
  | 10 => .array .int
  | 11 => .int
  | 12 => .int
  | 13 => .int
  | 14 => .int
  | 15 => .int
  | _ => .boolean
theorem jNm0 : ∀ a, a < 17 → ∀ b, b < 17 → a ≠ b → (jT0 a).2.1 ≠ (jT0 b).2.1 := by decide +kernel
theorem jYo0 : ∀ k, k < 17 → parseFieldDescriptor (jT0 k).2.2.1 = some (jY0 k) := by decide +kernel
theorem jIn0 : ∀ w ∈ u_ws jR0 jT0 17, w ∈ lw_tbl := by decide +kernel
def jR1 : String := "PopPan$Evens"
def jT1 : u_T := fun k => match k with
  | 0 => ("PopPan$Evens", "open", "[I", true)
  | _ => ("PopPan$Evens", "burnt", "[I", true)
def jY1 : Nat → FieldType := fun k => match k with
  | 0 => .array .int
  | _ => .array .int
theorem jNm1 : ∀ a, a < 2 → ∀ b, b < 2 → a ≠ b → (jT1 a).2.1 ≠ (jT1 b).2.1 := by decide +kernel
theorem jYo1 : ∀ k, k < 2 → parseFieldDescriptor (jT1 k).2.2.1 = some (jY1 k) := by decide +kernel
theorem jIn1 : ∀ w ∈ u_ws jR1 jT1 2, w ∈ lw_tbl := by decide +kernel
def jR2 : String := "PopPan$Grains"
def jT2 : u_T := fun k => match k with
  | 0 => ("PopPan$Grains", "places", "[I", true)
  | 1 => ("PopPan$Grains", "traits", "[I", true)
  | _ => ("PopPan$Grains", "number", "I", false)
def jY2 : Nat → FieldType := fun k => match k with
  | 0 => .array .int
  | 1 => .array .int
  | _ => .int
theorem jNm2 : ∀ a, a < 3 → ∀ b, b < 3 → a ≠ b → (jT2 a).2.1 ≠ (jT2 b).2.1 := by decide +kernel
theorem jYo2 : ∀ k, k < 3 → parseFieldDescriptor (jT2 k).2.2.1 = some (jY2 k) := by decide +kernel
theorem jIn2 : ∀ w ∈ u_ws jR2 jT2 3, w ∈ lw_tbl := by decide +kernel
def jR3 : String := "PopPan$Hearing"
def jT3 : u_T := fun k => match k with
  | 0 => ("PopPan$Hearing", "who", "[I", true)
  | 1 => ("PopPan$Hearing", "when", "[I", true)
  | 2 => ("PopPan$Hearing", "number", "I", false)
  | 3 => ("PopPan$Hearing", "least", "I", false)
  | 4 => ("PopPan$Hearing", "greatest", "I", false)
  | 5 => ("PopPan$Hearing", "many", "I", false)
  | 6 => ("PopPan$Hearing", "nearest", "I", false)
  | _ => ("PopPan$Hearing", "off", "I", false)
def jY3 : Nat → FieldType := fun k => match k with
  | 0 => .array .int
  | 1 => .array .int
  | 2 => .int
  | 3 => .int
  | 4 => .int
  | 5 => .int
  | 6 => .int
  | _ => .int
theorem jNm3 : ∀ a, a < 8 → ∀ b, b < 8 → a ≠ b → (jT3 a).2.1 ≠ (jT3 b).2.1 := by decide +kernel
theorem jYo3 : ∀ k, k < 8 → parseFieldDescriptor (jT3 k).2.2.1 = some (jY3 k) := by decide +kernel
theorem jIn3 : ∀ w ∈ u_ws jR3 jT3 8, w ∈ lw_tbl := by decide +kernel
def jR4 : String := "PopPan$Heating"
def jT4 : u_T := fun k => match k with
  | 0 => ("PopPan$Heating", "heats", "[I", true)
  | 1 => ("PopPan$Heating", "shakes", "[I", true)
  | 2 => ("PopPan$Heating", "lids", "[Z", true)
  | _ => ("PopPan$Heating", "seconds", "I", false)
def jY4 : Nat → FieldType := fun k => match k with
  | 0 => .array .int
  | 1 => .array .int
  | 2 => .array .boolean
  | _ => .int
theorem jNm4 : ∀ a, a < 4 → ∀ b, b < 4 → a ≠ b → (jT4 a).2.1 ≠ (jT4 b).2.1 := by decide +kernel
theorem jYo4 : ∀ k, k < 4 → parseFieldDescriptor (jT4 k).2.2.1 = some (jY4 k) := by decide +kernel
theorem jIn4 : ∀ w ∈ u_ws jR4 jT4 4, w ∈ lw_tbl := by decide +kernel
def jR5 : String := "PopPan$Rule"
def jT5 : u_T := fun k => match k with
  | 0 => ("PopPan$Rule", "silence", "I", false)
  | 1 => ("PopPan$Rule", "sum", "I", false)
  | _ => ("PopPan$Rule", "time", "I", false)
def jY5 : Nat → FieldType := fun k => match k with
  | 0 => .int
  | 1 => .int
  | _ => .int
theorem jNm5 : ∀ a, a < 3 → ∀ b, b < 3 → a ≠ b → (jT5 a).2.1 ≠ (jT5 b).2.1 := by decide +kernel
theorem jYo5 : ∀ k, k < 3 → parseFieldDescriptor (jT5 k).2.2.1 = some (jY5 k) := by decide +kernel
theorem jIn5 : ∀ w ∈ u_ws jR5 jT5 3, w ∈ lw_tbl := by decide +kernel
def jR6 : String := "PopPan$Sheet"
def jT6 : u_T := fun k => match k with
  | 0 => ("PopPan$Sheet", "items", "[I", true)
  | 1 => ("PopPan$Sheet", "form", "I", false)
  | _ => ("PopPan$Sheet", "size", "I", false)
def jY6 : Nat → FieldType := fun k => match k with
  | 0 => .array .int
  | 1 => .int
  | _ => .int
theorem jNm6 : ∀ a, a < 3 → ∀ b, b < 3 → a ≠ b → (jT6 a).2.1 ≠ (jT6 b).2.1 := by decide +kernel
theorem jYo6 : ∀ k, k < 3 → parseFieldDescriptor (jT6 k).2.2.1 = some (jY6 k) := by decide +kernel
theorem jIn6 : ∀ w ∈ u_ws jR6 jT6 3, w ∈ lw_tbl := by decide +kernel
def jR7 : String := "PopPan$Text"
def jT7 : u_T := fun k => match k with
  | 0 => ("PopPan$Text", "bytes", "[I", true)
  | 1 => ("PopPan$Text", "size", "I", false)
  | 2 => ("PopPan$Text", "at", "I", false)
  | _ => ("PopPan$Text", "flaw", "I", false)
def jY7 : Nat → FieldType := fun k => match k with
  | 0 => .array .int
  | 1 => .int
  | 2 => .int
  | _ => .int
theorem jNm7 : ∀ a, a < 4 → ∀ b, b < 4 → a ≠ b → (jT7 a).2.1 ≠ (jT7 b).2.1 := by decide +kernel
theorem jYo7 : ∀ k, k < 4 → parseFieldDescriptor (jT7 k).2.2.1 = some (jY7 k) := by decide +kernel
theorem jIn7 : ∀ w ∈ u_ws jR7 jT7 4, w ∈ lw_tbl := by decide +kernel
def jR8 : String := "PopPan"
def jT8 : u_T := fun k => match k with
  | 0 => ("PopPan", "grains", "LPopPan$Grains;", true)
  | 1 => ("PopPan", "settings", "[I", true)
  | 2 => ("PopPan", "texts", "[LPopPan$Text;", true)
  | 3 => ("PopPan", "heating", "LPopPan$Heating;", true)
  | 4 => ("PopPan", "rules", "[LPopPan$Rule;", true)
  | 5 => ("PopPan", "batch", "LPopPan$Batch;", true)
  | 6 => ("PopPan", "trial", "LPopPan$Batch;", true)
  | 7 => ("PopPan", "evens", "LPopPan$Evens;", true)
  | 8 => ("PopPan", "hearing", "LPopPan$Hearing;", true)
  | 9 => ("PopPan", "sheets", "[LPopPan$Sheet;", true)
  | _ => ("PopPan", "latestFinding", "I", false)
def jY8 : Nat → FieldType := fun k => match k with
  | 0 => .object "PopPan$Grains"
  | 1 => .array .int
  | 2 => .array (.object "PopPan$Text")
  | 3 => .object "PopPan$Heating"
  | 4 => .array (.object "PopPan$Rule")
  | 5 => .object "PopPan$Batch"
  | 6 => .object "PopPan$Batch"
  | 7 => .object "PopPan$Evens"
  | 8 => .object "PopPan$Hearing"
  | 9 => .array (.object "PopPan$Sheet")
  | _ => .int
theorem jNm8 : ∀ a, a < 11 → ∀ b, b < 11 → a ≠ b → (jT8 a).2.1 ≠ (jT8 b).2.1 := by decide +kernel
theorem jYo8 : ∀ k, k < 11 → parseFieldDescriptor (jT8 k).2.2.1 = some (jY8 k) := by decide +kernel
theorem jIn8 : ∀ w ∈ u_ws jR8 jT8 11, w ∈ lw_tbl := by decide +kernel
def jR9 : String := "PopPanModel"
def jT9 : u_T := fun k => match k with
  | 0 => ("PopPanModel", "forms", "[I", true)
  | 1 => ("PopPanModel", "sizes", "[I", true)
  | 2 => ("PopPanModel", "items", "[I", true)
  | 3 => ("PopPanModel", "moved", "[I", true)
  | 4 => ("PopPanModel", "latest", "I", false)
  | 5 => ("PopPanModel", "grains", "I", false)
  | 6 => ("PopPanModel", "placeOf", "[I", true)
  | 7 => ("PopPanModel", "told", "[I", true)
  | 8 => ("PopPanModel", "settings", "[I", true)
  | 9 => ("PopPanModel", "text", "[I", true)
  | 10 => ("PopPanModel", "typed", "[I", true)
  | 11 => ("PopPanModel", "at", "I", false)
  | 12 => ("PopPanModel", "heats", "[I", true)
  | 13 => ("PopPanModel", "shakes", "[I", true)
  | 14 => ("PopPanModel", "lids", "[Z", true)
  | 15 => ("PopPanModel", "panSeconds", "I", false)
  | 16 => ("PopPanModel", "lid", "Z", false)
  | 17 => ("PopPanModel", "conditions", "I", false)
  | 18 => ("PopPanModel", "letters", "[I", true)
  | 19 => ("PopPanModel", "numbers", "[I", true)
  | 20 => ("PopPanModel", "tryAir", "I", false)
  | 21 => ("PopPanModel", "tryStrength", "I", false)
  | 22 => ("PopPanModel", "tryEven", "I", false)
  | 23 => ("PopPanModel", "tryShake", "I", false)
  | 24 => ("PopPanModel", "tryGrains", "I", false)
  | 25 => ("PopPanModel", "warm", "[I", true)
  | 26 => ("PopPanModel", "water", "[I", true)
  | 27 => ("PopPanModel", "press", "[I", true)
  | 28 => ("PopPanModel", "state", "[I", true)
  | 29 => ("PopPanModel", "went", "[I", true)
  | 30 => ("PopPanModel", "large", "[I", true)
  | 31 => ("PopPanModel", "rows", "[I", true)
  | 32 => ("PopPanModel", "rowMany", "[I", true)
  | 33 => ("PopPanModel", "soundsOf", "[I", true)
  | 34 => ("PopPanModel", "opens", "[I", true)
  | 35 => ("PopPanModel", "burnts", "[I", true)
  | 36 => ("PopPanModel", "heards", "I", false)
  | 37 => ("PopPanModel", "heardGrain", "[I", true)
  | _ => ("PopPanModel", "heardAt", "[I", true)
def jY9 : Nat → FieldType := fun k => match k with
  | 0 => .array .int
  | 1 => .array .int
  | 2 => .array .int
  | 3 => .array .int
  | 4 => .int
  | 5 => .int
  | 6 => .array .int
  | 7 => .array .int
  | 8 => .array .int
  | 9 => .array .int
  | 10 => .array .int
  | 11 => .int
  | 12 => .array .int
  | 13 => .array .int
  | 14 => .array .boolean
  | 15 => .int
  | 16 => .boolean
  | 17 => .int
  | 18 => .array .int
  | 19 => .array .int
  | 20 => .int
  | 21 => .int
  | 22 => .int
  | 23 => .int
  | 24 => .int
  | 25 => .array .int
  | 26 => .array .int
  | 27 => .array .int
  | 28 => .array .int
  | 29 => .array .int
  | 30 => .array .int
  | 31 => .array .int
  | 32 => .array .int
  | 33 => .array .int
  | 34 => .array .int
  | 35 => .array .int
  | 36 => .int
  | 37 => .array .int
  | _ => .array .int
theorem jNm9 : ∀ a, a < 39 → ∀ b, b < 39 → a ≠ b → (jT9 a).2.1 ≠ (jT9 b).2.1 := by decide +kernel
theorem jYo9 : ∀ k, k < 39 → parseFieldDescriptor (jT9 k).2.2.1 = some (jY9 k) := by decide +kernel
theorem jIn9 : ∀ w ∈ u_ws jR9 jT9 39, w ∈ lw_tbl := by decide +kernel
abbrev jm_cl : List vw_C := [(jR0, jT0, 17), (jR1, jT1, 2), (jR2, jT2, 3), (jR3, jT3, 8), (jR4, jT4, 4), (jR5, jT5, 3), (jR6, jT6, 3), (jR7, jT7, 4), (jR8, jT8, 11), (jR9, jT9, 39)]
def jm_own : List String := ["PopPan$Batch", "PopPan$Evens", "PopPan$Grains", "PopPan$Hearing", "PopPan$Heating", "PopPan$Rule", "PopPan$Sheet", "PopPan$Text", "PopPan", "PopPanModel", "PopPanLaw", "java/util/Arrays"]
def jm_sk : List ((Nat × List (Option Nat)) ⊕ ((Bool × Nat) ⊕ (String × List Nat))) := [
  .inl (8, [some 1, some 4, some 5, some 6, some 10, some 11, some 23, some 35, some 38, some 41, none]),
  .inl (2, [some 2, some 3, none]),
  .inr (.inl (false, 12)),
  .inr (.inl (false, 48)),
  .inr (.inl (false, 6)),
  .inr (.inr ("PopPan$Text", [42, 44, 47, 50])),
  .inl (4, [some 7, some 8, some 9, none]),
  .inr (.inl (false, 200)),
  .inr (.inl (false, 200)),
  .inr (.inl (true, 200)),
  .inr (.inr ("PopPan$Rule", [46, 49, 52])),
  .inl (0, [some 12, some 13, some 14, some 15, some 16, some 17, some 18, some 19, some 20, some 21, some 22, none, none, none, none, none, none]),
  .inr (.inl (false, 12)),
  .inr (.inl (false, 12)),
  .inr (.inl (false, 12)),
  .inr (.inl (false, 12)),
  .inr (.inl (false, 12)),
  .inr (.inl (false, 12)),
  .inr (.inl (false, 12)),
  .inr (.inl (false, 12)),
  .inr (.inl (false, 12)),
  .inr (.inl (false, 48)),
  .inr (.inl (false, 4)),
  .inl (0, [some 24, some 25, some 26, some 27, some 28, some 29, some 30, some 31, some 32, some 33, some 34, none, none, none, none, none, none]),
  .inr (.inl (false, 12)),
  .inr (.inl (false, 12)),
  .inr (.inl (false, 12)),
  .inr (.inl (false, 12)),
  .inr (.inl (false, 12)),
  .inr (.inl (false, 12)),
  .inr (.inl (false, 12)),
  .inr (.inl (false, 12)),
  .inr (.inl (false, 12)),
  .inr (.inl (false, 48)),
  .inr (.inl (false, 4)),
  .inl (1, [some 36, some 37]),
  .inr (.inl (false, 100)),
  .inr (.inl (false, 100)),
  .inl (3, [some 39, some 40, none, none, none, none, none, none]),
  .inr (.inl (false, 12)),
  .inr (.inl (false, 12)),
  .inr (.inr ("PopPan$Sheet", [53, 55, 57, 59])),
  .inl (7, [some 43, none, none, none]),
  .inr (.inl (false, 60)),
  .inl (7, [some 45, none, none, none]),
  .inr (.inl (false, 30)),
  .inl (5, [none, none, none]),
  .inl (7, [some 48, none, none, none]),
  .inr (.inl (false, 30)),
  .inl (5, [none, none, none]),
  .inl (7, [some 51, none, none, none]),
  .inr (.inl (false, 30)),
  .inl (5, [none, none, none]),
  .inl (6, [some 54, none, none]),
  .inr (.inl (false, 60)),
  .inl (6, [some 56, none, none]),
  .inr (.inl (false, 60)),
  .inl (6, [some 58, none, none]),
  .inr (.inl (false, 60)),
  .inl (6, [some 60, none, none]),
  .inr (.inl (false, 60)),
  .inl (9, [some 62, some 63, some 64, some 65, none, none, some 66, some 67, some 68, some 69, some 70, none, some 71, some 72, some 73, none, none, none, some 74, some 75, none, none, none, none, none, some 76, some 77, some 78, some 79, some 80, some 81, some 82, some 83, some 84, some 85, some 86, none, some 87, some 88]),
  .inr (.inl (false, 4)),
  .inr (.inl (false, 4)),
  .inr (.inl (false, 240)),
  .inr (.inl (false, 60)),
  .inr (.inl (false, 12)),
  .inr (.inl (false, 48)),
  .inr (.inl (false, 6)),
  .inr (.inl (false, 240)),
  .inr (.inl (false, 4)),
  .inr (.inl (false, 200)),
  .inr (.inl (false, 200)),
  .inr (.inl (true, 200)),
  .inr (.inl (false, 11)),
  .inr (.inl (false, 11)),
  .inr (.inl (false, 12)),
  .inr (.inl (false, 12)),
  .inr (.inl (false, 12)),
  .inr (.inl (false, 12)),
  .inr (.inl (false, 12)),
  .inr (.inl (false, 12)),
  .inr (.inl (false, 48)),
  .inr (.inl (false, 4)),
  .inr (.inl (false, 200)),
  .inr (.inl (false, 100)),
  .inr (.inl (false, 100)),
  .inr (.inl (false, 12)),
  .inr (.inl (false, 12))]
def jm_stv : List (String × List Int32) := [("TRAIT_LEAST", [0, 1, 1, 0]), ("TRAIT_MOST", [99, 20, 9, 9]), ("SETTING_LEAST", [0, 5, 1, 0, 0, 0]), ("SETTING_MOST", [99, 15, 99, 99, 99, 99])]
def jm_fl : List (Nat × Nat × Nat × Nat × Nat) := [(0, 9, 0, 0, 153), (0, 15, 0, 1, 154), (0, 18, 0, 2, 155), (0, 21, 0, 3, 156), (0, 24, 0, 4, 157), (0, 27, 0, 5, 158), (0, 30, 0, 6, 159), (0, 33, 0, 7, 160), (0, 36, 0, 8, 161), (0, 39, 0, 9, 162), (0, 42, 0, 10, 163), (0, 45, 0, 11, 164), (0, 49, 0, 12, 165), (0, 52, 0, 13, 166), (0, 55, 0, 14, 167), (0, 58, 0, 15, 169), (0, 61, 0, 16, 170), (0, 65, 2, 2, 97), (0, 78, 2, 0, 94), (0, 91, 4, 0, 125), (0, 96, 4, 1, 128), (0, 99, 4, 2, 131), (1, 9, 1, 0, 212), (1, 15, 1, 1, 214), (2, 9, 2, 0, 93), (2, 15, 2, 1, 95), (2, 18, 2, 2, 96), (3, 9, 3, 0, 227), (3, 15, 3, 1, 228), (3, 18, 3, 2, 229), (3, 22, 3, 3, 231), (3, 25, 3, 4, 232), (3, 28, 3, 5, 233), (3, 31, 3, 6, 234), (3, 34, 3, 7, 235), (4, 9, 4, 0, 124), (4, 15, 4, 1, 127), (4, 18, 4, 2, 130), (4, 22, 4, 3, 133), (4, 34, 7, 1, 262), (4, 45, 7, 3, 269), (4, 73, 7, 2, 267), (5, 11, 5, 0, 285), (5, 15, 5, 1, 286), (5, 18, 5, 2, 287), (5, 26, 7, 1, 263), (5, 50, 7, 2, 266), (6, 9, 6, 0, 300), (6, 15, 6, 1, 302), (6, 19, 6, 2, 304), (7, 9, 7, 1, 261), (7, 15, 7, 2, 265), (7, 18, 7, 3, 268), (7, 21, 7, 0, 260), (8, 10, 8, 0, 313), (8, 25, 8, 1, 314), (8, 30, 8, 2, 315), (8, 37, 8, 3, 316), (8, 43, 8, 4, 317), (8, 50, 8, 5, 318), (8, 54, 8, 6, 319), (8, 60, 8, 7, 320), (8, 67, 8, 8, 321), (8, 73, 8, 9, 322), (8, 77, 8, 10, 323), (8, 109, 6, 2, 305), (8, 112, 6, 0, 301), (8, 131, 2, 2, 98), (8, 134, 3, 2, 230), (8, 147, 7, 1, 264), (8, 148, 7, 3, 270), (8, 151, 4, 0, 126), (8, 154, 4, 1, 129), (8, 157, 4, 2, 132), (8, 209, 0, 14, 168), (8, 281, 6, 1, 303), (8, 302, 4, 3, 134), (8, 350, 1, 0, 213), (8, 353, 1, 1, 215), (9, 7, 9, 0, 867), (9, 13, 9, 1, 868), (9, 16, 9, 2, 869), (9, 19, 9, 3, 870), (9, 22, 9, 6, 873), (9, 25, 9, 7, 874), (9, 28, 9, 8, 875), (9, 31, 9, 9, 876), (9, 34, 9, 10, 877), (9, 37, 9, 12, 879), (9, 40, 9, 13, 880), (9, 43, 9, 14, 881), (9, 47, 9, 18, 885), (9, 50, 9, 19, 886), (9, 53, 9, 25, 892), (9, 56, 9, 26, 893), (9, 59, 9, 27, 894), (9, 62, 9, 28, 895), (9, 65, 9, 29, 896), (9, 68, 9, 30, 897), (9, 71, 9, 31, 898), (9, 74, 9, 32, 899), (9, 77, 9, 33, 900), (9, 80, 9, 34, 901), (9, 83, 9, 35, 902), (9, 86, 9, 37, 904), (9, 89, 9, 38, 905), (9, 99, 9, 4, 871), (9, 124, 9, 5, 872), (9, 147, 9, 36, 903), (9, 159, 9, 11, 878), (9, 169, 9, 15, 882), (9, 172, 9, 16, 883), (9, 191, 9, 17, 884), (9, 206, 9, 20, 887), (9, 209, 9, 21, 888), (9, 212, 9, 22, 889), (9, 215, 9, 23, 890), (9, 218, 9, 24, 891)]
def jm_ml : List (Nat × Nat × Nat × Nat) := [(0, 68, 21, 519), (0, 74, 12, 520), (0, 81, 39, 521), (0, 85, 1000, 541), (0, 103, 41, 529), (0, 107, 42, 533), (0, 110, 43, 537), (0, 114, 44, 544), (0, 118, 45, 548), (0, 121, 1001, 552), (0, 126, 46, 555), (0, 129, 52, 579), (0, 133, 51, 606), (0, 137, 58, 607), (1, 18, 68, 648), (1, 22, 72, 664), (1, 26, 71, 660), (2, 22, 6, 372), (2, 26, 12, 841), (3, 37, 100, 778), (3, 41, 47, 782), (3, 47, 1003, 783), (4, 26, 20, 433), (4, 29, 23, 444), (4, 37, 24, 448), (4, 41, 30, 474), (4, 48, 21, 437), (4, 54, 22, 440), (4, 58, 25, 452), (4, 61, 26, 456), (4, 65, 28, 464), (4, 69, 29, 469), (4, 76, 27, 473), (5, 21, 23, 483), (5, 29, 32, 484), (5, 33, 30, 494), (5, 37, 25, 488), (5, 40, 26, 489), (5, 44, 1002, 490), (5, 53, 27, 493), (5, 57, 53, 601), (6, 22, 21, 796), (6, 28, 8, 809), (7, 25, 25, 468), (7, 29, 27, 460), (7, 33, 28, 478), (8, 86, 1, 351), (8, 90, 2, 354), (8, 94, 4, 364), (8, 98, 5, 368), (8, 102, 8, 380), (8, 105, 9, 384), (8, 115, 11, 392), (8, 119, 3, 357), (8, 123, 12, 396), (8, 127, 6, 400), (8, 141, 16, 417), (8, 142, 17, 421), (8, 144, 18, 425), (8, 161, 37, 511), (8, 164, 40, 525), (8, 168, 47, 559), (8, 171, 49, 567), (8, 174, 51, 575), (8, 177, 53, 583), (8, 181, 55, 592), (8, 184, 63, 628), (8, 188, 65, 636), (8, 191, 67, 644), (8, 193, 70, 656), (8, 196, 73, 668), (8, 199, 38, 515), (8, 203, 50, 571), (8, 206, 59, 611), (8, 212, 76, 680), (8, 216, 41, 684), (8, 220, 78, 689), (8, 230, 80, 697), (8, 234, 81, 701), (8, 237, 83, 709), (8, 240, 84, 712), (8, 243, 87, 726), (8, 248, 88, 730), (8, 252, 89, 733), (8, 256, 90, 736), (8, 260, 1004, 739), (8, 265, 92, 746), (8, 271, 94, 754), (8, 272, 95, 758), (8, 274, 97, 766), (8, 277, 101, 784), (8, 278, 103, 792), (8, 284, 106, 805), (8, 287, 107, 810), (8, 290, 110, 823), (8, 293, 1000, 827), (8, 299, 1002, 832), (8, 305, 113, 837), (8, 312, 112, 848), (8, 315, 115, 849), (8, 319, 116, 853), (8, 323, 117, 857), (8, 326, 19, 429), (8, 330, 31, 479), (8, 331, 57, 602), (8, 334, 58, 615), (8, 337, 56, 597), (8, 341, 60, 616), (8, 344, 61, 620), (8, 347, 66, 640), (8, 356, 98, 770), (8, 359, 99, 774), (8, 363, 1003, 715), (9, 95, 120, 993), (9, 105, 119, 989), (9, 111, 121, 997), (9, 115, 124, 1009), (9, 119, 125, 1013), (9, 133, 129, 1029), (9, 136, 130, 1032), (9, 140, 128, 1042), (9, 144, 133, 1047), (9, 154, 137, 1065), (9, 162, 144, 1093), (9, 176, 145, 1097), (9, 180, 146, 1101), (9, 184, 142, 1085), (9, 187, 143, 1089), (9, 194, 141, 1081), (9, 198, 147, 1107), (9, 201, 140, 1077), (9, 221, 153, 1133), (9, 224, 158, 1153), (9, 227, 155, 1141), (9, 230, 156, 1145), (9, 234, 157, 1149), (9, 237, 159, 1157), (9, 240, 152, 1129), (9, 243, 154, 1137), (9, 248, 150, 1121), (9, 251, 151, 1125), (9, 254, 160, 1161), (9, 257, 167, 1188), (9, 261, 169, 1196), (9, 264, 168, 1192), (9, 267, 170, 1200), (9, 270, 165, 1180), (9, 273, 166, 1184), (9, 276, 171, 1204), (9, 279, 163, 1173), (9, 282, 164, 1176), (9, 285, 173, 1212), (9, 288, 177, 1227), (9, 291, 175, 1220), (9, 294, 176, 1223), (9, 297, 180, 1239), (9, 300, 184, 1254), (9, 303, 186, 1262), (9, 308, 187, 1266), (9, 311, 192, 1285), (9, 317, 190, 1278), (9, 321, 191, 1282), (9, 327, 197, 1306), (9, 332, 196, 1302), (9, 339, 199, 1324), (10, 13, 0, 347), (10, 17, 128, 1025), (10, 18, 7, 376), (10, 22, 131, 1038), (10, 23, 10, 388), (10, 27, 132, 1043), (10, 28, 13, 401), (10, 32, 134, 1051), (10, 33, 14, 405), (10, 36, 135, 1055), (10, 37, 15, 413), (10, 40, 136, 1061), (10, 41, 33, 495), (10, 45, 138, 1069), (10, 46, 34, 499), (10, 49, 139, 1073), (10, 50, 35, 503), (10, 53, 148, 1111), (10, 54, 36, 507), (10, 57, 149, 1116), (10, 58, 48, 563), (10, 62, 161, 1165), (10, 63, 54, 587), (10, 66, 162, 1169), (10, 67, 62, 624), (10, 70, 172, 1208), (10, 71, 64, 632), (10, 74, 174, 1216), (10, 75, 69, 652), (10, 78, 178, 1231), (10, 79, 74, 672), (10, 82, 179, 1235), (10, 83, 75, 676), (10, 86, 181, 1242), (10, 87, 77, 685), (10, 90, 182, 1246), (10, 91, 79, 693), (10, 94, 183, 1250), (10, 95, 82, 705), (10, 98, 185, 1258), (10, 99, 85, 718), (10, 103, 188, 1269), (10, 104, 86, 722), (10, 108, 189, 1273), (10, 109, 91, 742), (10, 112, 193, 1288), (10, 113, 93, 750), (10, 116, 194, 1293), (10, 117, 96, 762), (10, 120, 195, 1297), (10, 121, 102, 788), (10, 124, 118, 985), (10, 125, 104, 797), (10, 128, 122, 1001), (10, 129, 105, 801), (10, 132, 123, 1005), (10, 133, 108, 814), (10, 136, 126, 1016), (10, 137, 109, 819), (10, 140, 127, 1021), (10, 141, 111, 828), (10, 144, 198, 1310), (10, 145, 112, 833), (10, 148, 199, 1314), (10, 149, 114, 842), (10, 153, 200, 1318)]
def jm_lc : List (Nat × Nat × Int32 × Nat) := [(8, 180, -100002, 591), (8, 223, -100003, 596), (8, 289, -2147483648, 818), (9, 94, -100000, 1183), (9, 123, -2147483648, 1020)]
def jm_ll : List (Nat × Nat × Int64 × Nat) := [(8, 246, -9223372036854775806, 729), (8, 269, 256, 749), (8, 308, 17, 846), (8, 310, 31, 847), (9, 92, -9223372036854775808, 1281), (9, 103, 3, 992), (9, 109, 2, 996), (9, 127, 99, 1035), (9, 129, 20, 1036), (9, 131, 9, 1037), (9, 150, 5, 1059), (9, 152, 15, 1060), (9, 157, 255, 1068), (9, 165, 48, 1105), (9, 167, 57, 1106), (9, 204, 199, 1115), (9, 246, 200, 1120), (9, 306, 60, 1265), (9, 315, 30, 1277), (9, 325, 256, 1292), (9, 330, 4, 1301), (9, 335, 17, 1322), (9, 337, 31, 1323)]
def jm_sl : List (Nat × Nat × Nat × Nat) := [(8, 135, 2, 409), (8, 138, 3, 411), (8, 224, 0, 360), (8, 227, 1, 362)]
def jMt0 : Nat × MethodName × ByteArray × Nat × Option FieldType × Nat × Bool × Nat × Nat × Nat × Nat × Nat := (8, ⟨"PopPan", "grain", "(IIIII)I"⟩, prog_1_method_2_code, 6, some .int, 3, false, 6, 350, 348, 349, 66)
def jMt1 : Nat × MethodName × ByteArray × Nat × Option FieldType × Nat × Bool × Nat × Nat × Nat × Nat × Nat := (8, ⟨"PopPan", "isOutside", "(III)Z"⟩, prog_1_method_35_code, 3, some .boolean, 0, true, 3, 353, 352, 0, 66)
def jMt2 : Nat × MethodName × ByteArray × Nat × Option FieldType × Nat × Bool × Nat × Nat × Nat × Nat × Nat := (8, ⟨"PopPan", "mayAllBe", "(IIII)Z"⟩, prog_1_method_37_code, 4, some .boolean, 2, true, 4, 356, 355, 0, 66)
def jMt3 : Nat × MethodName × ByteArray × Nat × Option FieldType × Nat × Bool × Nat × Nat × Nat × Nat × Nat := (8, ⟨"PopPan", "mayBe", "(II)Z"⟩, prog_1_method_36_code, 2, some .boolean, 1, true, 2, 359, 358, 0, 66)
def jMt4 : Nat × MethodName × ByteArray × Nat × Option FieldType × Nat × Bool × Nat × Nat × Nat × Nat × Nat := (2, ⟨"PopPan$Grains", "isFull", "()Z"⟩, prog_4_method_2_code, 1, some .boolean, 0, false, 1, 367, 365, 366, 67)
def jMt5 : Nat × MethodName × ByteArray × Nat × Option FieldType × Nat × Bool × Nat × Nat × Nat × Nat × Nat := (2, ⟨"PopPan$Grains", "add", "(IIIII)I"⟩, prog_4_method_4_code, 7, some .int, 1, false, 6, 371, 369, 370, 67)
def jMt6 : Nat × MethodName × ByteArray × Nat × Option FieldType × Nat × Bool × Nat × Nat × Nat × Nat × Nat := (2, ⟨"PopPan$Grains", "put", "(III)V"⟩, prog_4_method_5_code, 4, none, 0, false, 4, 375, 373, 374, 67)
def jMt7 : Nat × MethodName × ByteArray × Nat × Option FieldType × Nat × Bool × Nat × Nat × Nat × Nat × Nat := (8, ⟨"PopPan", "read", "(II)I"⟩, prog_1_method_3_code, 7, some .int, 3, false, 3, 379, 377, 378, 66)
def jMt8 : Nat × MethodName × ByteArray × Nat × Option FieldType × Nat × Bool × Nat × Nat × Nat × Nat × Nat := (6, ⟨"PopPan$Sheet", "isLost", "()Z"⟩, prog_8_method_2_code, 1, some .boolean, 0, false, 1, 383, 381, 382, 74)
def jMt9 : Nat × MethodName × ByteArray × Nat × Option FieldType × Nat × Bool × Nat × Nat × Nat × Nat × Nat := (8, ⟨"PopPan", "finding", "(I)I"⟩, prog_1_method_39_code, 2, some .int, 0, false, 2, 387, 386, 0, 66)
def jMt10 : Nat × MethodName × ByteArray × Nat × Option FieldType × Nat × Bool × Nat × Nat × Nat × Nat × Nat := (8, ⟨"PopPan", "change", "(III)I"⟩, prog_1_method_4_code, 5, some .int, 2, false, 4, 391, 389, 390, 66)
def jMt11 : Nat × MethodName × ByteArray × Nat × Option FieldType × Nat × Bool × Nat × Nat × Nat × Nat × Nat := (2, ⟨"PopPan$Grains", "has", "(I)Z"⟩, prog_4_method_3_code, 2, some .boolean, 0, false, 2, 395, 393, 394, 67)
def jMt12 : Nat × MethodName × ByteArray × Nat × Option FieldType × Nat × Bool × Nat × Nat × Nat × Nat × Nat := (2, ⟨"PopPan$Grains", "trait", "(II)I"⟩, prog_4_method_6_code, 3, some .int, 0, false, 3, 399, 397, 398, 67)
def jMt13 : Nat × MethodName × ByteArray × Nat × Option FieldType × Nat × Bool × Nat × Nat × Nat × Nat × Nat := (8, ⟨"PopPan", "empty", "()I"⟩, prog_1_method_5_code, 2, some .int, 0, false, 1, 404, 402, 403, 66)
def jMt14 : Nat × MethodName × ByteArray × Nat × Option FieldType × Nat × Bool × Nat × Nat × Nat × Nat × Nat := (8, ⟨"PopPan", "set", "(II)I"⟩, prog_1_method_6_code, 4, some .int, 1, false, 3, 408, 406, 407, 66)
def jMt15 : Nat × MethodName × ByteArray × Nat × Option FieldType × Nat × Bool × Nat × Nat × Nat × Nat × Nat := (8, ⟨"PopPan", "type", "(II)I"⟩, prog_1_method_7_code, 3, some .int, 5, false, 3, 416, 414, 415, 66)
def jMt16 : Nat × MethodName × ByteArray × Nat × Option FieldType × Nat × Bool × Nat × Nat × Nat × Nat × Nat := (7, ⟨"PopPan$Text", "isFull", "()Z"⟩, prog_9_method_2_code, 1, some .boolean, 0, false, 1, 420, 418, 419, 72)
def jMt17 : Nat × MethodName × ByteArray × Nat × Option FieldType × Nat × Bool × Nat × Nat × Nat × Nat × Nat := (7, ⟨"PopPan$Text", "add", "(I)V"⟩, prog_9_method_3_code, 2, none, 0, false, 2, 424, 422, 423, 72)
def jMt18 : Nat × MethodName × ByteArray × Nat × Option FieldType × Nat × Bool × Nat × Nat × Nat × Nat × Nat := (8, ⟨"PopPan", "understand", "(I)V"⟩, prog_1_method_40_code, 2, none, 4, false, 2, 428, 427, 1, 66)
def jMt19 : Nat × MethodName × ByteArray × Nat × Option FieldType × Nat × Bool × Nat × Nat × Nat × Nat × Nat := (4, ⟨"PopPan$Heating", "follow", "(LPopPan$Text;)V"⟩, prog_6_method_2_code, 4, none, 3, false, 2, 432, 430, 431, 68)
def jMt20 : Nat × MethodName × ByteArray × Nat × Option FieldType × Nat × Bool × Nat × Nat × Nat × Nat × Nat := (4, ⟨"PopPan$Heating", "coolDown", "()V"⟩, prog_6_method_3_code, 1, none, 1, false, 1, 436, 435, 2, 68)
def jMt21 : Nat × MethodName × ByteArray × Nat × Option FieldType × Nat × Bool × Nat × Nat × Nat × Nat × Nat := (11, ⟨"java/util/Arrays", "fill", "([II)V"⟩, prog_15_method_103_code, 4, none, 0, true, 2, 439, 438, 0, 76)
def jMt22 : Nat × MethodName × ByteArray × Nat × Option FieldType × Nat × Bool × Nat × Nat × Nat × Nat × Nat := (4, ⟨"PopPan$Heating", "putLid", "(Z)V"⟩, prog_6_method_6_code, 3, none, 0, false, 2, 443, 442, 3, 68)
def jMt23 : Nat × MethodName × ByteArray × Nat × Option FieldType × Nat × Bool × Nat × Nat × Nat × Nat × Nat := (7, ⟨"PopPan$Text", "rewind", "()V"⟩, prog_9_method_4_code, 1, none, 0, false, 1, 447, 445, 446, 72)
def jMt24 : Nat × MethodName × ByteArray × Nat × Option FieldType × Nat × Bool × Nat × Nat × Nat × Nat × Nat := (4, ⟨"PopPan$Heating", "addPart", "(LPopPan$Text;)V"⟩, prog_6_method_4_code, 4, none, 2, false, 2, 451, 450, 4, 68)
def jMt25 : Nat × MethodName × ByteArray × Nat × Option FieldType × Nat × Bool × Nat × Nat × Nat × Nat × Nat := (7, ⟨"PopPan$Text", "takes", "(I)Z"⟩, prog_9_method_6_code, 2, some .boolean, 0, false, 2, 455, 453, 454, 72)
def jMt26 : Nat × MethodName × ByteArray × Nat × Option FieldType × Nat × Bool × Nat × Nat × Nat × Nat × Nat := (7, ⟨"PopPan$Text", "number", "(III)I"⟩, prog_9_method_9_code, 6, some .int, 1, false, 4, 459, 457, 458, 72)
def jMt27 : Nat × MethodName × ByteArray × Nat × Option FieldType × Nat × Bool × Nat × Nat × Nat × Nat × Nat := (7, ⟨"PopPan$Text", "failAt", "(I)V"⟩, prog_9_method_5_code, 2, none, 0, false, 2, 463, 461, 462, 72)
def jMt28 : Nat × MethodName × ByteArray × Nat × Option FieldType × Nat × Bool × Nat × Nat × Nat × Nat × Nat := (7, ⟨"PopPan$Text", "needs", "(I)V"⟩, prog_9_method_7_code, 2, none, 1, false, 2, 467, 465, 466, 72)
def jMt29 : Nat × MethodName × ByteArray × Nat × Option FieldType × Nat × Bool × Nat × Nat × Nat × Nat × Nat := (4, ⟨"PopPan$Heating", "addHeat", "(II)V"⟩, prog_6_method_5_code, 4, none, 0, false, 3, 472, 471, 5, 68)
def jMt30 : Nat × MethodName × ByteArray × Nat × Option FieldType × Nat × Bool × Nat × Nat × Nat × Nat × Nat := (7, ⟨"PopPan$Text", "goesOnBehind", "(I)Z"⟩, prog_9_method_8_code, 2, some .boolean, 2, false, 2, 477, 475, 476, 72)
def jMt31 : Nat × MethodName × ByteArray × Nat × Option FieldType × Nat × Bool × Nat × Nat × Nat × Nat × Nat := (5, ⟨"PopPan$Rule", "follow", "(LPopPan$Text;)V"⟩, prog_7_method_2_code, 4, none, 3, false, 2, 482, 480, 481, 73)
def jMt32 : Nat × MethodName × ByteArray × Nat × Option FieldType × Nat × Bool × Nat × Nat × Nat × Nat × Nat := (5, ⟨"PopPan$Rule", "addCondition", "(LPopPan$Text;)V"⟩, prog_7_method_3_code, 2, none, 2, false, 2, 487, 486, 6, 73)
def jMt33 : Nat × MethodName × ByteArray × Nat × Option FieldType × Nat × Bool × Nat × Nat × Nat × Nat × Nat := (8, ⟨"PopPan", "wipe", "(I)I"⟩, prog_1_method_8_code, 3, some .int, 5, false, 2, 498, 496, 497, 66)
def jMt34 : Nat × MethodName × ByteArray × Nat × Option FieldType × Nat × Bool × Nat × Nat × Nat × Nat × Nat := (8, ⟨"PopPan", "fault", "(I)I"⟩, prog_1_method_9_code, 2, some .int, 1, false, 2, 502, 500, 501, 66)
def jMt35 : Nat × MethodName × ByteArray × Nat × Option FieldType × Nat × Bool × Nat × Nat × Nat × Nat × Nat := (8, ⟨"PopPan", "pan", "(II)I"⟩, prog_1_method_10_code, 3, some .int, 1, false, 3, 506, 504, 505, 66)
def jMt36 : Nat × MethodName × ByteArray × Nat × Option FieldType × Nat × Bool × Nat × Nat × Nat × Nat × Nat := (8, ⟨"PopPan", "after", "(III)I"⟩, prog_1_method_11_code, 4, some .int, 4, false, 4, 510, 508, 509, 66)
def jMt37 : Nat × MethodName × ByteArray × Nat × Option FieldType × Nat × Bool × Nat × Nat × Nat × Nat × Nat := (8, ⟨"PopPan", "fillPan", "()V"⟩, prog_1_method_41_code, 1, none, 2, false, 1, 514, 513, 7, 66)
def jMt38 : Nat × MethodName × ByteArray × Nat × Option FieldType × Nat × Bool × Nat × Nat × Nat × Nat × Nat := (0, ⟨"PopPan$Batch", "fill", "(LPopPan$Grains;II)V"⟩, prog_2_method_2_code, 5, none, 1, false, 4, 518, 516, 517, 69)
def jMt39 : Nat × MethodName × ByteArray × Nat × Option FieldType × Nat × Bool × Nat × Nat × Nat × Nat × Nat := (0, ⟨"PopPan$Batch", "putOnTop", "(II)V"⟩, prog_2_method_3_code, 3, none, 0, false, 3, 524, 523, 8, 69)
def jMt40 : Nat × MethodName × ByteArray × Nat × Option FieldType × Nat × Bool × Nat × Nat × Nat × Nat × Nat := (0, ⟨"PopPan$Batch", "goOn", "(LPopPan$Heating;I)V"⟩, prog_2_method_6_code, 4, none, 3, false, 3, 528, 526, 527, 69)
def jMt41 : Nat × MethodName × ByteArray × Nat × Option FieldType × Nat × Bool × Nat × Nat × Nat × Nat × Nat := (0, ⟨"PopPan$Batch", "second", "(IIZ)V"⟩, prog_2_method_9_code, 6, none, 2, false, 4, 532, 530, 531, 69)
def jMt42 : Nat × MethodName × ByteArray × Nat × Option FieldType × Nat × Bool × Nat × Nat × Nat × Nat × Nat := (0, ⟨"PopPan$Batch", "clearRows", "()V"⟩, prog_2_method_10_code, 6, none, 0, false, 1, 536, 535, 9, 69)
def jMt43 : Nat × MethodName × ByteArray × Nat × Option FieldType × Nat × Bool × Nat × Nat × Nat × Nat × Nat := (0, ⟨"PopPan$Batch", "turnRow", "(I)V"⟩, prog_2_method_11_code, 5, none, 1, false, 2, 540, 539, 10, 69)
def jMt44 : Nat × MethodName × ByteArray × Nat × Option FieldType × Nat × Bool × Nat × Nat × Nat × Nat × Nat := (0, ⟨"PopPan$Batch", "warmRow", "(III)V"⟩, prog_2_method_12_code, 10, none, 0, false, 4, 547, 546, 11, 69)
def jMt45 : Nat × MethodName × ByteArray × Nat × Option FieldType × Nat × Bool × Nat × Nat × Nat × Nat × Nat := (0, ⟨"PopPan$Batch", "strain", "(I)V"⟩, prog_2_method_13_code, 5, none, 1, false, 2, 551, 550, 12, 69)
def jMt46 : Nat × MethodName × ByteArray × Nat × Option FieldType × Nat × Bool × Nat × Nat × Nat × Nat × Nat := (0, ⟨"PopPan$Batch", "end", "(II)V"⟩, prog_2_method_14_code, 3, none, 0, false, 3, 558, 557, 13, 69)
def jMt47 : Nat × MethodName × ByteArray × Nat × Option FieldType × Nat × Bool × Nat × Nat × Nat × Nat × Nat := (0, ⟨"PopPan$Batch", "tell", "(II)I"⟩, prog_2_method_15_code, 3, some .int, 0, false, 3, 562, 560, 561, 69)
def jMt48 : Nat × MethodName × ByteArray × Nat × Option FieldType × Nat × Bool × Nat × Nat × Nat × Nat × Nat := (8, ⟨"PopPan", "sounds", "(IZ)I"⟩, prog_1_method_12_code, 3, some .int, 5, false, 3, 566, 564, 565, 66)
def jMt49 : Nat × MethodName × ByteArray × Nat × Option FieldType × Nat × Bool × Nat × Nat × Nat × Nat × Nat := (8, ⟨"PopPan", "cook", "(I)V"⟩, prog_1_method_42_code, 2, none, 4, false, 2, 570, 569, 14, 66)
def jMt50 : Nat × MethodName × ByteArray × Nat × Option FieldType × Nat × Bool × Nat × Nat × Nat × Nat × Nat := (0, ⟨"PopPan$Batch", "settle", "(LPopPan$Heating;I)V"⟩, prog_2_method_7_code, 4, none, 3, false, 3, 574, 572, 573, 69)
def jMt51 : Nat × MethodName × ByteArray × Nat × Option FieldType × Nat × Bool × Nat × Nat × Nat × Nat × Nat := (0, ⟨"PopPan$Batch", "openAt", "(I)I"⟩, prog_2_method_17_code, 4, some .int, 1, false, 2, 578, 576, 577, 69)
def jMt52 : Nat × MethodName × ByteArray × Nat × Option FieldType × Nat × Bool × Nat × Nat × Nat × Nat × Nat := (0, ⟨"PopPan$Batch", "isOpenAt", "(II)Z"⟩, prog_2_method_16_code, 3, some .boolean, 0, false, 3, 582, 581, 15, 69)
def jMt53 : Nat × MethodName × ByteArray × Nat × Option FieldType × Nat × Bool × Nat × Nat × Nat × Nat × Nat := (0, ⟨"PopPan$Batch", "goneIn", "(I)I"⟩, prog_2_method_22_code, 4, some .int, 0, false, 2, 586, 584, 585, 69)
def jMt54 : Nat × MethodName × ByteArray × Nat × Option FieldType × Nat × Bool × Nat × Nat × Nat × Nat × Nat := (8, ⟨"PopPan", "stop", "(II)I"⟩, prog_1_method_13_code, 3, some .int, 5, false, 3, 590, 588, 589, 66)
def jMt55 : Nat × MethodName × ByteArray × Nat × Option FieldType × Nat × Bool × Nat × Nat × Nat × Nat × Nat := (8, ⟨"PopPan", "tellRule", "(II)I"⟩, prog_1_method_45_code, 4, some .int, 4, false, 3, 595, 594, 16, 66)
def jMt56 : Nat × MethodName × ByteArray × Nat × Option FieldType × Nat × Bool × Nat × Nat × Nat × Nat × Nat := (5, ⟨"PopPan$Rule", "secondsUntilStop", "(LPopPan$Batch;)I"⟩, prog_7_method_4_code, 6, some .int, 1, false, 2, 600, 598, 599, 73)
def jMt57 : Nat × MethodName × ByteArray × Nat × Option FieldType × Nat × Bool × Nat × Nat × Nat × Nat × Nat := (0, ⟨"PopPan$Batch", "wholeAt", "(I)I"⟩, prog_2_method_19_code, 4, some .int, 2, false, 2, 605, 603, 604, 69)
def jMt58 : Nat × MethodName × ByteArray × Nat × Option FieldType × Nat × Bool × Nat × Nat × Nat × Nat × Nat := (0, ⟨"PopPan$Batch", "burntAt", "(I)I"⟩, prog_2_method_18_code, 4, some .int, 0, false, 2, 610, 608, 609, 69)
def jMt59 : Nat × MethodName × ByteArray × Nat × Option FieldType × Nat × Bool × Nat × Nat × Nat × Nat × Nat := (0, ⟨"PopPan$Batch", "largeAt", "(I)I"⟩, prog_2_method_20_code, 4, some .int, 1, false, 2, 614, 612, 613, 69)
def jMt60 : Nat × MethodName × ByteArray × Nat × Option FieldType × Nat × Bool × Nat × Nat × Nat × Nat × Nat := (0, ⟨"PopPan$Batch", "brownedAt", "(II)I"⟩, prog_2_method_21_code, 5, some .int, 1, false, 3, 619, 617, 618, 69)
def jMt61 : Nat × MethodName × ByteArray × Nat × Option FieldType × Nat × Bool × Nat × Nat × Nat × Nat × Nat := (8, ⟨"PopPan", "worth", "(I)I"⟩, prog_1_method_47_code, 3, some .int, 3, false, 2, 623, 622, 17, 66)
def jMt62 : Nat × MethodName × ByteArray × Nat × Option FieldType × Nat × Bool × Nat × Nat × Nat × Nat × Nat := (8, ⟨"PopPan", "best", "()I"⟩, prog_1_method_14_code, 1, some .int, 6, false, 1, 627, 625, 626, 66)
def jMt63 : Nat × MethodName × ByteArray × Nat × Option FieldType × Nat × Bool × Nat × Nat × Nat × Nat × Nat := (8, ⟨"PopPan", "bestRule", "()I"⟩, prog_1_method_46_code, 5, some .int, 5, false, 1, 631, 630, 18, 66)
def jMt64 : Nat × MethodName × ByteArray × Nat × Option FieldType × Nat × Bool × Nat × Nat × Nat × Nat × Nat := (8, ⟨"PopPan", "even", "(II)I"⟩, prog_1_method_15_code, 3, some .int, 5, false, 3, 635, 633, 634, 66)
def jMt65 : Nat × MethodName × ByteArray × Nat × Option FieldType × Nat × Bool × Nat × Nat × Nat × Nat × Nat := (8, ⟨"PopPan", "tryHeats", "(I)V"⟩, prog_1_method_48_code, 3, none, 4, false, 2, 639, 638, 19, 66)
def jMt66 : Nat × MethodName × ByteArray × Nat × Option FieldType × Nat × Bool × Nat × Nat × Nat × Nat × Nat := (0, ⟨"PopPan$Batch", "settleEvenly", "(II)V"⟩, prog_2_method_8_code, 4, none, 3, false, 3, 643, 641, 642, 69)
def jMt67 : Nat × MethodName × ByteArray × Nat × Option FieldType × Nat × Bool × Nat × Nat × Nat × Nat × Nat := (1, ⟨"PopPan$Evens", "tell", "(I)I"⟩, prog_3_method_2_code, 3, some .int, 1, false, 2, 647, 645, 646, 70)
def jMt68 : Nat × MethodName × ByteArray × Nat × Option FieldType × Nat × Bool × Nat × Nat × Nat × Nat × Nat := (1, ⟨"PopPan$Evens", "bestHeat", "()I"⟩, prog_3_method_3_code, 3, some .int, 0, false, 1, 651, 650, 20, 70)
def jMt69 : Nat × MethodName × ByteArray × Nat × Option FieldType × Nat × Bool × Nat × Nat × Nat × Nat × Nat := (8, ⟨"PopPan", "front", "(II)I"⟩, prog_1_method_16_code, 3, some .int, 5, false, 3, 655, 653, 654, 66)
def jMt70 : Nat × MethodName × ByteArray × Nat × Option FieldType × Nat × Bool × Nat × Nat × Nat × Nat × Nat := (1, ⟨"PopPan$Evens", "frontSize", "()I"⟩, prog_3_method_6_code, 3, some .int, 2, false, 1, 659, 657, 658, 70)
def jMt71 : Nat × MethodName × ByteArray × Nat × Option FieldType × Nat × Bool × Nat × Nat × Nat × Nat × Nat := (1, ⟨"PopPan$Evens", "isInFront", "(I)Z"⟩, prog_3_method_5_code, 3, some .boolean, 1, false, 2, 663, 662, 21, 70)
def jMt72 : Nat × MethodName × ByteArray × Nat × Option FieldType × Nat × Bool × Nat × Nat × Nat × Nat × Nat := (1, ⟨"PopPan$Evens", "isBetter", "(II)Z"⟩, prog_3_method_4_code, 3, some .boolean, 0, false, 3, 667, 666, 22, 70)
def jMt73 : Nat × MethodName × ByteArray × Nat × Option FieldType × Nat × Bool × Nat × Nat × Nat × Nat × Nat := (1, ⟨"PopPan$Evens", "frontHeat", "(I)I"⟩, prog_3_method_7_code, 4, some .int, 2, false, 2, 671, 669, 670, 70)
def jMt74 : Nat × MethodName × ByteArray × Nat × Option FieldType × Nat × Bool × Nat × Nat × Nat × Nat × Nat := (8, ⟨"PopPan", "air", "(II)I"⟩, prog_1_method_17_code, 7, some .int, 4, false, 3, 675, 673, 674, 66)
def jMt75 : Nat × MethodName × ByteArray × Nat × Option FieldType × Nat × Bool × Nat × Nat × Nat × Nat × Nat := (8, ⟨"PopPan", "shaken", "(II)I"⟩, prog_1_method_18_code, 6, some .int, 5, false, 3, 679, 677, 678, 66)
def jMt76 : Nat × MethodName × ByteArray × Nat × Option FieldType × Nat × Bool × Nat × Nat × Nat × Nat × Nat := (0, ⟨"PopPan$Batch", "become", "(LPopPan$Batch;)V"⟩, prog_2_method_5_code, 2, none, 1, false, 2, 683, 681, 682, 69)
def jMt77 : Nat × MethodName × ByteArray × Nat × Option FieldType × Nat × Bool × Nat × Nat × Nat × Nat × Nat := (8, ⟨"PopPan", "late", "(I)I"⟩, prog_1_method_19_code, 4, some .int, 5, false, 2, 688, 686, 687, 66)
def jMt78 : Nat × MethodName × ByteArray × Nat × Option FieldType × Nat × Bool × Nat × Nat × Nat × Nat × Nat := (0, ⟨"PopPan$Batch", "takeOut", "(I)V"⟩, prog_2_method_4_code, 2, none, 0, false, 2, 692, 690, 691, 69)
def jMt79 : Nat × MethodName × ByteArray × Nat × Option FieldType × Nat × Bool × Nat × Nat × Nat × Nat × Nat := (8, ⟨"PopPan", "sieved", "(III)I"⟩, prog_1_method_20_code, 4, some .int, 5, false, 4, 696, 694, 695, 66)
def jMt80 : Nat × MethodName × ByteArray × Nat × Option FieldType × Nat × Bool × Nat × Nat × Nat × Nat × Nat := (8, ⟨"PopPan", "sieve", "(II)V"⟩, prog_1_method_43_code, 4, none, 4, false, 3, 700, 699, 23, 66)
def jMt81 : Nat × MethodName × ByteArray × Nat × Option FieldType × Nat × Bool × Nat × Nat × Nat × Nat × Nat := (8, ⟨"PopPan", "tellSieved", "(II)I"⟩, prog_1_method_44_code, 3, some .int, 3, false, 3, 704, 703, 24, 66)
def jMt82 : Nat × MethodName × ByteArray × Nat × Option FieldType × Nat × Bool × Nat × Nat × Nat × Nat × Nat := (8, ⟨"PopPan", "jar", "(III)I"⟩, prog_1_method_21_code, 6, some .int, 3, false, 4, 708, 706, 707, 66)
def jMt83 : Nat × MethodName × ByteArray × Nat × Option FieldType × Nat × Bool × Nat × Nat × Nat × Nat × Nat := (8, ⟨"PopPan", "isNoWater", "(I)Z"⟩, prog_1_method_38_code, 1, some .boolean, 2, true, 1, 711, 710, 0, 66)
def jMt84 : Nat × MethodName × ByteArray × Nat × Option FieldType × Nat × Bool × Nat × Nat × Nat × Nat × Nat := (8, ⟨"PopPan", "nextDay", "(II)I"⟩, prog_1_method_53_code, 3, some .int, 1, true, 2, 714, 713, 0, 66)
def jMt85 : Nat × MethodName × ByteArray × Nat × Option FieldType × Nat × Bool × Nat × Nat × Nat × Nat × Nat := (8, ⟨"PopPan", "length", "(IIII)I"⟩, prog_1_method_22_code, 7, some .int, 3, false, 5, 721, 719, 720, 66)
def jMt86 : Nat × MethodName × ByteArray × Nat × Option FieldType × Nat × Bool × Nat × Nat × Nat × Nat × Nat := (8, ⟨"PopPan", "cracked", "(IIIII)J"⟩, prog_1_method_23_code, 12, some .long, 2, false, 6, 725, 723, 724, 66)
def jMt87 : Nat × MethodName × ByteArray × Nat × Option FieldType × Nat × Bool × Nat × Nat × Nat × Nat × Nat := (8, ⟨"PopPan", "isNoTrial", "(III)Z"⟩, prog_1_method_54_code, 3, some .boolean, 1, true, 3, 728, 727, 0, 66)
def jMt88 : Nat × MethodName × ByteArray × Nat × Option FieldType × Nat × Bool × Nat × Nat × Nat × Nat × Nat := (8, ⟨"PopPan", "ways", "(IIII)J"⟩, prog_1_method_56_code, 4, some .long, 1, true, 4, 732, 731, 0, 66)
def jMt89 : Nat × MethodName × ByteArray × Nat × Option FieldType × Nat × Bool × Nat × Nat × Nat × Nat × Nat := (8, ⟨"PopPan", "choose", "(II)J"⟩, prog_1_method_55_code, 5, some .long, 0, true, 2, 735, 734, 0, 66)
def jMt90 : Nat × MethodName × ByteArray × Nat × Option FieldType × Nat × Bool × Nat × Nat × Nat × Nat × Nat := (8, ⟨"PopPan", "commonDivisor", "(JJ)J"⟩, prog_1_method_58_code, 11, some .long, 0, true, 2, 738, 737, 0, 66)
def jMt91 : Nat × MethodName × ByteArray × Nat × Option FieldType × Nat × Bool × Nat × Nat × Nat × Nat × Nat := (8, ⟨"PopPan", "span", "(IIIII)I"⟩, prog_1_method_24_code, 10, some .int, 3, false, 6, 745, 743, 744, 66)
def jMt92 : Nat × MethodName × ByteArray × Nat × Option FieldType × Nat × Bool × Nat × Nat × Nat × Nat × Nat := (8, ⟨"PopPan", "waysFromTo", "(IIIII)J"⟩, prog_1_method_57_code, 8, some .long, 2, true, 5, 748, 747, 0, 66)
def jMt93 : Nat × MethodName × ByteArray × Nat × Option FieldType × Nat × Bool × Nat × Nat × Nat × Nat × Nat := (8, ⟨"PopPan", "heard", "(II)I"⟩, prog_1_method_25_code, 3, some .int, 1, false, 3, 753, 751, 752, 66)
def jMt94 : Nat × MethodName × ByteArray × Nat × Option FieldType × Nat × Bool × Nat × Nat × Nat × Nat × Nat := (3, ⟨"PopPan$Hearing", "isFull", "()Z"⟩, prog_5_method_2_code, 1, some .boolean, 0, false, 1, 757, 755, 756, 71)
def jMt95 : Nat × MethodName × ByteArray × Nat × Option FieldType × Nat × Bool × Nat × Nat × Nat × Nat × Nat := (3, ⟨"PopPan$Hearing", "add", "(II)V"⟩, prog_5_method_3_code, 3, none, 0, false, 3, 761, 759, 760, 71)
def jMt96 : Nat × MethodName × ByteArray × Nat × Option FieldType × Nat × Bool × Nat × Nat × Nat × Nat × Nat := (8, ⟨"PopPan", "fits", "(I)I"⟩, prog_1_method_26_code, 2, some .int, 5, false, 2, 765, 763, 764, 66)
def jMt97 : Nat × MethodName × ByteArray × Nat × Option FieldType × Nat × Bool × Nat × Nat × Nat × Nat × Nat := (8, ⟨"PopPan", "tryStrengths", "()V"⟩, prog_1_method_49_code, 2, none, 4, false, 1, 769, 768, 25, 66)
def jMt98 : Nat × MethodName × ByteArray × Nat × Option FieldType × Nat × Bool × Nat × Nat × Nat × Nat × Nat := (3, ⟨"PopPan$Hearing", "begin", "()V"⟩, prog_5_method_4_code, 1, none, 0, false, 1, 773, 771, 772, 71)
def jMt99 : Nat × MethodName × ByteArray × Nat × Option FieldType × Nat × Bool × Nat × Nat × Nat × Nat × Nat := (3, ⟨"PopPan$Hearing", "judge", "(ILPopPan$Batch;)V"⟩, prog_5_method_5_code, 4, none, 2, false, 3, 777, 775, 776, 71)
def jMt100 : Nat × MethodName × ByteArray × Nat × Option FieldType × Nat × Bool × Nat × Nat × Nat × Nat × Nat := (3, ⟨"PopPan$Hearing", "offIn", "(LPopPan$Batch;)I"⟩, prog_5_method_6_code, 5, some .int, 1, false, 2, 781, 780, 26, 71)
def jMt101 : Nat × MethodName × ByteArray × Nat × Option FieldType × Nat × Bool × Nat × Nat × Nat × Nat × Nat := (3, ⟨"PopPan$Hearing", "tell", "(I)I"⟩, prog_5_method_7_code, 2, some .int, 0, false, 2, 787, 785, 786, 71)
def jMt102 : Nat × MethodName × ByteArray × Nat × Option FieldType × Nat × Bool × Nat × Nat × Nat × Nat × Nat := (8, ⟨"PopPan", "sheet", "(III)I"⟩, prog_1_method_27_code, 4, some .int, 2, false, 4, 791, 789, 790, 66)
def jMt103 : Nat × MethodName × ByteArray × Nat × Option FieldType × Nat × Bool × Nat × Nat × Nat × Nat × Nat := (6, ⟨"PopPan$Sheet", "renew", "(II)V"⟩, prog_8_method_3_code, 3, none, 1, false, 3, 795, 793, 794, 74)
def jMt104 : Nat × MethodName × ByteArray × Nat × Option FieldType × Nat × Bool × Nat × Nat × Nat × Nat × Nat := (8, ⟨"PopPan", "lose", "(I)I"⟩, prog_1_method_28_code, 2, some .int, 1, false, 2, 800, 798, 799, 66)
def jMt105 : Nat × MethodName × ByteArray × Nat × Option FieldType × Nat × Bool × Nat × Nat × Nat × Nat × Nat := (8, ⟨"PopPan", "lay", "(IIII)I"⟩, prog_1_method_29_code, 6, some .int, 2, false, 5, 804, 802, 803, 66)
def jMt106 : Nat × MethodName × ByteArray × Nat × Option FieldType × Nat × Bool × Nat × Nat × Nat × Nat × Nat := (6, ⟨"PopPan$Sheet", "objection", "(II)I"⟩, prog_8_method_4_code, 3, some .int, 1, false, 3, 808, 806, 807, 74)
def jMt107 : Nat × MethodName × ByteArray × Nat × Option FieldType × Nat × Bool × Nat × Nat × Nat × Nat × Nat := (6, ⟨"PopPan$Sheet", "put", "(II)V"⟩, prog_8_method_6_code, 3, none, 0, false, 3, 813, 811, 812, 74)
def jMt108 : Nat × MethodName × ByteArray × Nat × Option FieldType × Nat × Bool × Nat × Nat × Nat × Nat × Nat := (8, ⟨"PopPan", "get", "(III)I"⟩, prog_1_method_30_code, 5, some .int, 2, false, 4, 817, 815, 816, 66)
def jMt109 : Nat × MethodName × ByteArray × Nat × Option FieldType × Nat × Bool × Nat × Nat × Nat × Nat × Nat := (8, ⟨"PopPan", "copy", "(IIIII)I"⟩, prog_1_method_31_code, 8, some .int, 1, false, 6, 822, 820, 821, 66)
def jMt110 : Nat × MethodName × ByteArray × Nat × Option FieldType × Nat × Bool × Nat × Nat × Nat × Nat × Nat := (6, ⟨"PopPan$Sheet", "hasStretch", "(II)Z"⟩, prog_8_method_5_code, 3, some .boolean, 0, false, 3, 826, 824, 825, 74)
def jMt111 : Nat × MethodName × ByteArray × Nat × Option FieldType × Nat × Bool × Nat × Nat × Nat × Nat × Nat := (8, ⟨"PopPan", "write", "(II)I"⟩, prog_1_method_32_code, 6, some .int, 5, false, 3, 831, 829, 830, 66)
def jMt112 : Nat × MethodName × ByteArray × Nat × Option FieldType × Nat × Bool × Nat × Nat × Nat × Nat × Nat := (8, ⟨"PopPan", "count", "(I)I"⟩, prog_1_method_33_code, 2, some .int, 2, false, 2, 836, 834, 835, 66)
def jMt113 : Nat × MethodName × ByteArray × Nat × Option FieldType × Nat × Bool × Nat × Nat × Nat × Nat × Nat := (2, ⟨"PopPan$Grains", "allWater", "()I"⟩, prog_4_method_7_code, 3, some .int, 1, false, 1, 840, 838, 839, 67)
def jMt114 : Nat × MethodName × ByteArray × Nat × Option FieldType × Nat × Bool × Nat × Nat × Nat × Nat × Nat := (8, ⟨"PopPan", "digest", "()J"⟩, prog_1_method_34_code, 4, some .long, 7, false, 1, 845, 843, 844, 66)
def jMt115 : Nat × MethodName × ByteArray × Nat × Option FieldType × Nat × Bool × Nat × Nat × Nat × Nat × Nat := (8, ⟨"PopPan", "digestGrains", "(JI)J"⟩, prog_1_method_50_code, 8, some .long, 4, false, 3, 852, 851, 27, 66)
def jMt116 : Nat × MethodName × ByteArray × Nat × Option FieldType × Nat × Bool × Nat × Nat × Nat × Nat × Nat := (8, ⟨"PopPan", "digestRules", "(J)J"⟩, prog_1_method_51_code, 7, some .long, 6, false, 2, 856, 855, 28, 66)
def jMt117 : Nat × MethodName × ByteArray × Nat × Option FieldType × Nat × Bool × Nat × Nat × Nat × Nat × Nat := (8, ⟨"PopPan", "digestFits", "(J)J"⟩, prog_1_method_52_code, 7, some .long, 5, false, 2, 860, 859, 29, 66)
def jMt118 : Nat × MethodName × ByteArray × Nat × Option FieldType × Nat × Bool × Nat × Nat × Nat × Nat × Nat := (9, ⟨"PopPanModel", "sheet", "(III)I"⟩, prog_11_method_9_code, 5, some .int, 2, false, 4, 988, 986, 987, 75)
def jMt119 : Nat × MethodName × ByteArray × Nat × Option FieldType × Nat × Bool × Nat × Nat × Nat × Nat × Nat := (9, ⟨"PopPanModel", "isSheet", "(I)Z"⟩, prog_11_method_8_code, 1, some .boolean, 1, true, 1, 991, 990, 0, 75)
def jMt120 : Nat × MethodName × ByteArray × Nat × Option FieldType × Nat × Bool × Nat × Nat × Nat × Nat × Nat := (9, ⟨"PopPanModel", "in", "(JJJ)Z"⟩, prog_11_method_3_code, 6, some .boolean, 0, true, 3, 995, 994, 0, 75)
def jMt121 : Nat × MethodName × ByteArray × Nat × Option FieldType × Nat × Bool × Nat × Nat × Nat × Nat × Nat := (9, ⟨"PopPanModel", "met", "(I)I"⟩, prog_11_method_7_code, 2, some .int, 0, false, 2, 1000, 999, 30, 75)
def jMt122 : Nat × MethodName × ByteArray × Nat × Option FieldType × Nat × Bool × Nat × Nat × Nat × Nat × Nat := (9, ⟨"PopPanModel", "lose", "(I)I"⟩, prog_11_method_10_code, 2, some .int, 2, false, 2, 1004, 1002, 1003, 75)
def jMt123 : Nat × MethodName × ByteArray × Nat × Option FieldType × Nat × Bool × Nat × Nat × Nat × Nat × Nat := (9, ⟨"PopPanModel", "lay", "(IIII)I"⟩, prog_11_method_13_code, 6, some .int, 2, false, 5, 1008, 1006, 1007, 75)
def jMt124 : Nat × MethodName × ByteArray × Nat × Option FieldType × Nat × Bool × Nat × Nat × Nat × Nat × Nat := (9, ⟨"PopPanModel", "lacks", "(III)I"⟩, prog_11_method_11_code, 4, some .int, 1, false, 4, 1012, 1011, 31, 75)
def jMt125 : Nat × MethodName × ByteArray × Nat × Option FieldType × Nat × Bool × Nat × Nat × Nat × Nat × Nat := (9, ⟨"PopPanModel", "cut", "(II)I"⟩, prog_11_method_12_code, 2, some .int, 0, true, 2, 1015, 1014, 0, 75)
def jMt126 : Nat × MethodName × ByteArray × Nat × Option FieldType × Nat × Bool × Nat × Nat × Nat × Nat × Nat := (9, ⟨"PopPanModel", "get", "(III)I"⟩, prog_11_method_14_code, 4, some .int, 2, false, 4, 1019, 1017, 1018, 75)
def jMt127 : Nat × MethodName × ByteArray × Nat × Option FieldType × Nat × Bool × Nat × Nat × Nat × Nat × Nat := (9, ⟨"PopPanModel", "copy", "(IIIII)I"⟩, prog_11_method_15_code, 7, some .int, 2, false, 6, 1024, 1022, 1023, 75)
def jMt128 : Nat × MethodName × ByteArray × Nat × Option FieldType × Nat × Bool × Nat × Nat × Nat × Nat × Nat := (9, ⟨"PopPanModel", "grain", "(IIIII)I"⟩, prog_11_method_19_code, 6, some .int, 2, false, 6, 1028, 1026, 1027, 75)
def jMt129 : Nat × MethodName × ByteArray × Nat × Option FieldType × Nat × Bool × Nat × Nat × Nat × Nat × Nat := (9, ⟨"PopPanModel", "isPlace", "(I)Z"⟩, prog_11_method_18_code, 1, some .boolean, 1, true, 1, 1031, 1030, 0, 75)
def jMt130 : Nat × MethodName × ByteArray × Nat × Option FieldType × Nat × Bool × Nat × Nat × Nat × Nat × Nat := (9, ⟨"PopPanModel", "isOf", "(II)Z"⟩, prog_11_method_17_code, 2, some .boolean, 1, true, 2, 1034, 1033, 0, 75)
def jMt131 : Nat × MethodName × ByteArray × Nat × Option FieldType × Nat × Bool × Nat × Nat × Nat × Nat × Nat := (9, ⟨"PopPanModel", "read", "(II)I"⟩, prog_11_method_20_code, 6, some .int, 3, false, 3, 1041, 1039, 1040, 75)
def jMt132 : Nat × MethodName × ByteArray × Nat × Option FieldType × Nat × Bool × Nat × Nat × Nat × Nat × Nat := (9, ⟨"PopPanModel", "change", "(III)I"⟩, prog_11_method_21_code, 5, some .int, 2, false, 4, 1046, 1044, 1045, 75)
def jMt133 : Nat × MethodName × ByteArray × Nat × Option FieldType × Nat × Bool × Nat × Nat × Nat × Nat × Nat := (9, ⟨"PopPanModel", "isGrain", "(I)Z"⟩, prog_11_method_16_code, 2, some .boolean, 1, false, 2, 1050, 1049, 32, 75)
def jMt134 : Nat × MethodName × ByteArray × Nat × Option FieldType × Nat × Bool × Nat × Nat × Nat × Nat × Nat := (9, ⟨"PopPanModel", "empty", "()I"⟩, prog_11_method_22_code, 2, some .int, 0, false, 1, 1054, 1052, 1053, 75)
def jMt135 : Nat × MethodName × ByteArray × Nat × Option FieldType × Nat × Bool × Nat × Nat × Nat × Nat × Nat := (9, ⟨"PopPanModel", "set", "(II)I"⟩, prog_11_method_23_code, 5, some .int, 1, false, 3, 1058, 1056, 1057, 75)
def jMt136 : Nat × MethodName × ByteArray × Nat × Option FieldType × Nat × Bool × Nat × Nat × Nat × Nat × Nat := (9, ⟨"PopPanModel", "type", "(II)I"⟩, prog_11_method_25_code, 3, some .int, 2, false, 3, 1064, 1062, 1063, 75)
def jMt137 : Nat × MethodName × ByteArray × Nat × Option FieldType × Nat × Bool × Nat × Nat × Nat × Nat × Nat := (9, ⟨"PopPanModel", "isText", "(I)Z"⟩, prog_11_method_24_code, 1, some .boolean, 1, true, 1, 1067, 1066, 0, 75)
def jMt138 : Nat × MethodName × ByteArray × Nat × Option FieldType × Nat × Bool × Nat × Nat × Nat × Nat × Nat := (9, ⟨"PopPanModel", "wipe", "(I)I"⟩, prog_11_method_26_code, 3, some .int, 2, false, 2, 1072, 1070, 1071, 75)
def jMt139 : Nat × MethodName × ByteArray × Nat × Option FieldType × Nat × Bool × Nat × Nat × Nat × Nat × Nat := (9, ⟨"PopPanModel", "fault", "(I)I"⟩, prog_11_method_35_code, 2, some .int, 5, false, 2, 1076, 1074, 1075, 75)
def jMt140 : Nat × MethodName × ByteArray × Nat × Option FieldType × Nat × Bool × Nat × Nat × Nat × Nat × Nat := (9, ⟨"PopPanModel", "faultOf", "(I)I"⟩, prog_11_method_34_code, 2, some .int, 4, false, 2, 1080, 1079, 33, 75)
def jMt141 : Nat × MethodName × ByteArray × Nat × Option FieldType × Nat × Bool × Nat × Nat × Nat × Nat × Nat := (9, ⟨"PopPanModel", "readsPan", "()I"⟩, prog_11_method_32_code, 2, some .int, 3, false, 1, 1084, 1083, 34, 75)
def jMt142 : Nat × MethodName × ByteArray × Nat × Option FieldType × Nat × Bool × Nat × Nat × Nat × Nat × Nat := (9, ⟨"PopPanModel", "clearsPan", "()V"⟩, prog_11_method_29_code, 2, none, 0, false, 1, 1088, 1087, 35, 75)
def jMt143 : Nat × MethodName × ByteArray × Nat × Option FieldType × Nat × Bool × Nat × Nat × Nat × Nat × Nat := (9, ⟨"PopPanModel", "readsPanPart", "()Z"⟩, prog_11_method_31_code, 5, some .boolean, 2, false, 1, 1092, 1091, 36, 75)
def jMt144 : Nat × MethodName × ByteArray × Nat × Option FieldType × Nat × Bool × Nat × Nat × Nat × Nat × Nat := (9, ⟨"PopPanModel", "here", "(I)I"⟩, prog_11_method_27_code, 2, some .int, 0, false, 2, 1096, 1095, 37, 75)
def jMt145 : Nat × MethodName × ByteArray × Nat × Option FieldType × Nat × Bool × Nat × Nat × Nat × Nat × Nat := (9, ⟨"PopPanModel", "lidsFrom", "(I)V"⟩, prog_11_method_30_code, 3, none, 0, false, 2, 1100, 1099, 38, 75)
def jMt146 : Nat × MethodName × ByteArray × Nat × Option FieldType × Nat × Bool × Nat × Nat × Nat × Nat × Nat := (9, ⟨"PopPanModel", "figures", "(IIII)I"⟩, prog_11_method_28_code, 7, some .int, 1, false, 5, 1104, 1103, 39, 75)
def jMt147 : Nat × MethodName × ByteArray × Nat × Option FieldType × Nat × Bool × Nat × Nat × Nat × Nat × Nat := (9, ⟨"PopPanModel", "readsRule", "(I)I"⟩, prog_11_method_33_code, 5, some .int, 2, false, 2, 1110, 1109, 40, 75)
def jMt148 : Nat × MethodName × ByteArray × Nat × Option FieldType × Nat × Bool × Nat × Nat × Nat × Nat × Nat := (9, ⟨"PopPanModel", "pan", "(II)I"⟩, prog_11_method_36_code, 3, some .int, 4, false, 3, 1114, 1112, 1113, 75)
def jMt149 : Nat × MethodName × ByteArray × Nat × Option FieldType × Nat × Bool × Nat × Nat × Nat × Nat × Nat := (9, ⟨"PopPanModel", "after", "(III)I"⟩, prog_11_method_50_code, 4, some .int, 5, false, 4, 1119, 1117, 1118, 75)
def jMt150 : Nat × MethodName × ByteArray × Nat × Option FieldType × Nat × Bool × Nat × Nat × Nat × Nat × Nat := (9, ⟨"PopPanModel", "tries", "()V"⟩, prog_11_method_37_code, 1, none, 4, false, 1, 1124, 1123, 41, 75)
def jMt151 : Nat × MethodName × ByteArray × Nat × Option FieldType × Nat × Bool × Nat × Nat × Nat × Nat × Nat := (9, ⟨"PopPanModel", "goesOn", "(I)V"⟩, prog_11_method_46_code, 3, none, 3, false, 2, 1128, 1127, 42, 75)
def jMt152 : Nat × MethodName × ByteArray × Nat × Option FieldType × Nat × Bool × Nat × Nat × Nat × Nat × Nat := (9, ⟨"PopPanModel", "begins", "()V"⟩, prog_11_method_39_code, 3, none, 1, false, 1, 1132, 1131, 43, 75)
def jMt153 : Nat × MethodName × ByteArray × Nat × Option FieldType × Nat × Bool × Nat × Nat × Nat × Nat × Nat := (9, ⟨"PopPanModel", "isIn", "(I)Z"⟩, prog_11_method_38_code, 2, some .boolean, 0, false, 2, 1136, 1135, 44, 75)
def jMt154 : Nat × MethodName × ByteArray × Nat × Option FieldType × Nat × Bool × Nat × Nat × Nat × Nat × Nat := (9, ⟨"PopPanModel", "second", "(I)V"⟩, prog_11_method_45_code, 5, none, 2, false, 2, 1140, 1139, 45, 75)
def jMt155 : Nat × MethodName × ByteArray × Nat × Option FieldType × Nat × Bool × Nat × Nat × Nat × Nat × Nat := (9, ⟨"PopPanModel", "shakesAll", "()V"⟩, prog_11_method_40_code, 4, none, 0, false, 1, 1144, 1143, 46, 75)
def jMt156 : Nat × MethodName × ByteArray × Nat × Option FieldType × Nat × Bool × Nat × Nat × Nat × Nat × Nat := (9, ⟨"PopPanModel", "warms", "(IZ)V"⟩, prog_11_method_41_code, 7, none, 0, false, 3, 1148, 1147, 47, 75)
def jMt157 : Nat × MethodName × ByteArray × Nat × Option FieldType × Nat × Bool × Nat × Nat × Nat × Nat × Nat := (9, ⟨"PopPanModel", "goes", "(II)Z"⟩, prog_11_method_43_code, 5, some .boolean, 1, false, 3, 1152, 1151, 48, 75)
def jMt158 : Nat × MethodName × ByteArray × Nat × Option FieldType × Nat × Bool × Nat × Nat × Nat × Nat × Nat := (9, ⟨"PopPanModel", "hold", "(I)I"⟩, prog_11_method_42_code, 3, some .int, 0, false, 2, 1156, 1155, 49, 75)
def jMt159 : Nat × MethodName × ByteArray × Nat × Option FieldType × Nat × Bool × Nat × Nat × Nat × Nat × Nat := (9, ⟨"PopPanModel", "rises", "()V"⟩, prog_11_method_44_code, 5, none, 0, false, 1, 1160, 1159, 50, 75)
def jMt160 : Nat × MethodName × ByteArray × Nat × Option FieldType × Nat × Bool × Nat × Nat × Nat × Nat × Nat := (9, ⟨"PopPanModel", "isNow", "(II)I"⟩, prog_11_method_49_code, 3, some .int, 0, false, 3, 1164, 1163, 51, 75)
def jMt161 : Nat × MethodName × ByteArray × Nat × Option FieldType × Nat × Bool × Nat × Nat × Nat × Nat × Nat := (9, ⟨"PopPanModel", "sounds", "(IZ)I"⟩, prog_11_method_51_code, 5, some .int, 5, false, 3, 1168, 1166, 1167, 75)
def jMt162 : Nat × MethodName × ByteArray × Nat × Option FieldType × Nat × Bool × Nat × Nat × Nat × Nat × Nat := (9, ⟨"PopPanModel", "stop", "(II)I"⟩, prog_11_method_58_code, 3, some .int, 7, false, 3, 1172, 1170, 1171, 75)
def jMt163 : Nat × MethodName × ByteArray × Nat × Option FieldType × Nat × Bool × Nat × Nat × Nat × Nat × Nat := (9, ⟨"PopPanModel", "isRule", "(I)Z"⟩, prog_11_method_57_code, 1, some .boolean, 1, true, 1, 1175, 1174, 0, 75)
def jMt164 : Nat × MethodName × ByteArray × Nat × Option FieldType × Nat × Bool × Nat × Nat × Nat × Nat × Nat := (9, ⟨"PopPanModel", "stopOf", "(II)I"⟩, prog_11_method_56_code, 4, some .int, 6, false, 3, 1179, 1178, 52, 75)
def jMt165 : Nat × MethodName × ByteArray × Nat × Option FieldType × Nat × Bool × Nat × Nat × Nat × Nat × Nat := (9, ⟨"PopPanModel", "dear", "(I)I"⟩, prog_11_method_5_code, 1, some .int, 0, true, 1, 1182, 1181, 0, 75)
def jMt166 : Nat × MethodName × ByteArray × Nat × Option FieldType × Nat × Bool × Nat × Nat × Nat × Nat × Nat := (9, ⟨"PopPanModel", "stops", "()I"⟩, prog_11_method_53_code, 5, some .int, 5, false, 1, 1187, 1186, 53, 75)
def jMt167 : Nat × MethodName × ByteArray × Nat × Option FieldType × Nat × Bool × Nat × Nat × Nat × Nat × Nat := (9, ⟨"PopPanModel", "isStopped", "(III)Z"⟩, prog_11_method_52_code, 7, some .boolean, 0, false, 4, 1191, 1190, 54, 75)
def jMt168 : Nat × MethodName × ByteArray × Nat × Option FieldType × Nat × Bool × Nat × Nat × Nat × Nat × Nat := (9, ⟨"PopPanModel", "many", "(I)I"⟩, prog_11_method_47_code, 4, some .int, 1, false, 2, 1195, 1194, 55, 75)
def jMt169 : Nat × MethodName × ByteArray × Nat × Option FieldType × Nat × Bool × Nat × Nat × Nat × Nat × Nat := (9, ⟨"PopPanModel", "allLarge", "()I"⟩, prog_11_method_48_code, 3, some .int, 1, false, 1, 1199, 1198, 56, 75)
def jMt170 : Nat × MethodName × ByteArray × Nat × Option FieldType × Nat × Bool × Nat × Nat × Nat × Nat × Nat := (9, ⟨"PopPanModel", "browned", "(I)I"⟩, prog_11_method_54_code, 4, some .int, 0, false, 2, 1203, 1202, 57, 75)
def jMt171 : Nat × MethodName × ByteArray × Nat × Option FieldType × Nat × Bool × Nat × Nat × Nat × Nat × Nat := (9, ⟨"PopPanModel", "worth", "(I)I"⟩, prog_11_method_55_code, 2, some .int, 2, false, 2, 1207, 1206, 58, 75)
def jMt172 : Nat × MethodName × ByteArray × Nat × Option FieldType × Nat × Bool × Nat × Nat × Nat × Nat × Nat := (9, ⟨"PopPanModel", "best", "()I"⟩, prog_11_method_60_code, 1, some .int, 7, false, 1, 1211, 1209, 1210, 75)
def jMt173 : Nat × MethodName × ByteArray × Nat × Option FieldType × Nat × Bool × Nat × Nat × Nat × Nat × Nat := (9, ⟨"PopPanModel", "bestNow", "()I"⟩, prog_11_method_59_code, 5, some .int, 6, false, 1, 1215, 1214, 59, 75)
def jMt174 : Nat × MethodName × ByteArray × Nat × Option FieldType × Nat × Bool × Nat × Nat × Nat × Nat × Nat := (9, ⟨"PopPanModel", "even", "(II)I"⟩, prog_11_method_64_code, 3, some .int, 7, false, 3, 1219, 1217, 1218, 75)
def jMt175 : Nat × MethodName × ByteArray × Nat × Option FieldType × Nat × Bool × Nat × Nat × Nat × Nat × Nat := (9, ⟨"PopPanModel", "isLong", "(I)Z"⟩, prog_11_method_61_code, 1, some .boolean, 1, true, 1, 1222, 1221, 0, 75)
def jMt176 : Nat × MethodName × ByteArray × Nat × Option FieldType × Nat × Bool × Nat × Nat × Nat × Nat × Nat := (9, ⟨"PopPanModel", "evenOf", "(II)I"⟩, prog_11_method_63_code, 6, some .int, 6, false, 3, 1226, 1225, 60, 75)
def jMt177 : Nat × MethodName × ByteArray × Nat × Option FieldType × Nat × Bool × Nat × Nat × Nat × Nat × Nat := (9, ⟨"PopPanModel", "findEven", "(I)V"⟩, prog_11_method_62_code, 3, none, 5, false, 2, 1230, 1229, 61, 75)
def jMt178 : Nat × MethodName × ByteArray × Nat × Option FieldType × Nat × Bool × Nat × Nat × Nat × Nat × Nat := (9, ⟨"PopPanModel", "front", "(II)I"⟩, prog_11_method_65_code, 8, some .int, 6, false, 3, 1234, 1232, 1233, 75)
def jMt179 : Nat × MethodName × ByteArray × Nat × Option FieldType × Nat × Bool × Nat × Nat × Nat × Nat × Nat := (9, ⟨"PopPanModel", "air", "(II)I"⟩, prog_11_method_66_code, 6, some .int, 5, false, 3, 1238, 1236, 1237, 75)
def jMt180 : Nat × MethodName × ByteArray × Nat × Option FieldType × Nat × Bool × Nat × Nat × Nat × Nat × Nat := (9, ⟨"PopPanModel", "isTwo", "(I)Z"⟩, prog_11_method_6_code, 1, some .boolean, 1, true, 1, 1241, 1240, 0, 75)
def jMt181 : Nat × MethodName × ByteArray × Nat × Option FieldType × Nat × Bool × Nat × Nat × Nat × Nat × Nat := (9, ⟨"PopPanModel", "shaken", "(II)I"⟩, prog_11_method_67_code, 6, some .int, 5, false, 3, 1245, 1243, 1244, 75)
def jMt182 : Nat × MethodName × ByteArray × Nat × Option FieldType × Nat × Bool × Nat × Nat × Nat × Nat × Nat := (9, ⟨"PopPanModel", "late", "(I)I"⟩, prog_11_method_68_code, 3, some .int, 5, false, 2, 1249, 1247, 1248, 75)
def jMt183 : Nat × MethodName × ByteArray × Nat × Option FieldType × Nat × Bool × Nat × Nat × Nat × Nat × Nat := (9, ⟨"PopPanModel", "sieved", "(III)I"⟩, prog_11_method_70_code, 4, some .int, 6, false, 4, 1253, 1251, 1252, 75)
def jMt184 : Nat × MethodName × ByteArray × Nat × Option FieldType × Nat × Bool × Nat × Nat × Nat × Nat × Nat := (9, ⟨"PopPanModel", "sievedOf", "(III)I"⟩, prog_11_method_69_code, 5, some .int, 5, false, 4, 1257, 1256, 62, 75)
def jMt185 : Nat × MethodName × ByteArray × Nat × Option FieldType × Nat × Bool × Nat × Nat × Nat × Nat × Nat := (9, ⟨"PopPanModel", "jar", "(III)I"⟩, prog_11_method_73_code, 6, some .int, 2, false, 4, 1261, 1259, 1260, 75)
def jMt186 : Nat × MethodName × ByteArray × Nat × Option FieldType × Nat × Bool × Nat × Nat × Nat × Nat × Nat := (9, ⟨"PopPanModel", "isDamp", "(I)Z"⟩, prog_11_method_71_code, 1, some .boolean, 1, true, 1, 1264, 1263, 0, 75)
def jMt187 : Nat × MethodName × ByteArray × Nat × Option FieldType × Nat × Bool × Nat × Nat × Nat × Nat × Nat := (9, ⟨"PopPanModel", "nextDay", "(II)I"⟩, prog_11_method_72_code, 4, some .int, 0, true, 2, 1268, 1267, 0, 75)
def jMt188 : Nat × MethodName × ByteArray × Nat × Option FieldType × Nat × Bool × Nat × Nat × Nat × Nat × Nat := (9, ⟨"PopPanModel", "length", "(IIII)I"⟩, prog_11_method_74_code, 7, some .int, 2, false, 5, 1272, 1270, 1271, 75)
def jMt189 : Nat × MethodName × ByteArray × Nat × Option FieldType × Nat × Bool × Nat × Nat × Nat × Nat × Nat := (9, ⟨"PopPanModel", "cracked", "(IIIII)J"⟩, prog_11_method_77_code, 16, some .long, 2, false, 6, 1276, 1274, 1275, 75)
def jMt190 : Nat × MethodName × ByteArray × Nat × Option FieldType × Nat × Bool × Nat × Nat × Nat × Nat × Nat := (9, ⟨"PopPanModel", "no", "(I)J"⟩, prog_11_method_4_code, 1, some .long, 0, true, 1, 1280, 1279, 0, 75)
def jMt191 : Nat × MethodName × ByteArray × Nat × Option FieldType × Nat × Bool × Nat × Nat × Nat × Nat × Nat := (9, ⟨"PopPanModel", "justly", "(IIII)J"⟩, prog_11_method_76_code, 4, some .long, 1, true, 4, 1284, 1283, 0, 75)
def jMt192 : Nat × MethodName × ByteArray × Nat × Option FieldType × Nat × Bool × Nat × Nat × Nat × Nat × Nat := (9, ⟨"PopPanModel", "over", "(II)J"⟩, prog_11_method_75_code, 5, some .long, 0, true, 2, 1287, 1286, 0, 75)
def jMt193 : Nat × MethodName × ByteArray × Nat × Option FieldType × Nat × Bool × Nat × Nat × Nat × Nat × Nat := (9, ⟨"PopPanModel", "span", "(IIIII)I"⟩, prog_11_method_78_code, 13, some .int, 2, false, 6, 1291, 1289, 1290, 75)
def jMt194 : Nat × MethodName × ByteArray × Nat × Option FieldType × Nat × Bool × Nat × Nat × Nat × Nat × Nat := (9, ⟨"PopPanModel", "heard", "(II)I"⟩, prog_11_method_79_code, 3, some .int, 2, false, 3, 1296, 1294, 1295, 75)
def jMt195 : Nat × MethodName × ByteArray × Nat × Option FieldType × Nat × Bool × Nat × Nat × Nat × Nat × Nat := (9, ⟨"PopPanModel", "fits", "(I)I"⟩, prog_11_method_82_code, 2, some .int, 6, false, 2, 1300, 1298, 1299, 75)
def jMt196 : Nat × MethodName × ByteArray × Nat × Option FieldType × Nat × Bool × Nat × Nat × Nat × Nat × Nat := (9, ⟨"PopPanModel", "fitsOf", "(I)I"⟩, prog_11_method_81_code, 9, some .int, 5, false, 2, 1305, 1304, 63, 75)
def jMt197 : Nat × MethodName × ByteArray × Nat × Option FieldType × Nat × Bool × Nat × Nat × Nat × Nat × Nat := (9, ⟨"PopPanModel", "offBy", "(I)I"⟩, prog_11_method_80_code, 6, some .int, 4, false, 2, 1309, 1308, 64, 75)
def jMt198 : Nat × MethodName × ByteArray × Nat × Option FieldType × Nat × Bool × Nat × Nat × Nat × Nat × Nat := (9, ⟨"PopPanModel", "write", "(II)I"⟩, prog_11_method_83_code, 5, some .int, 5, false, 3, 1313, 1311, 1312, 75)
def jMt199 : Nat × MethodName × ByteArray × Nat × Option FieldType × Nat × Bool × Nat × Nat × Nat × Nat × Nat := (9, ⟨"PopPanModel", "count", "(I)I"⟩, prog_11_method_84_code, 4, some .int, 4, false, 2, 1317, 1315, 1316, 75)
def jMt200 : Nat × MethodName × ByteArray × Nat × Option FieldType × Nat × Bool × Nat × Nat × Nat × Nat × Nat := (9, ⟨"PopPanModel", "digest", "()J"⟩, prog_11_method_85_code, 5, some .long, 7, false, 1, 1321, 1319, 1320, 75)
def jMt201 : Nat × MethodName × ByteArray × Nat × Option FieldType × Nat × Bool × Nat × Nat × Nat × Nat × Nat := (10, x, code, 4, ret, 8, true, 1, 0, 0, 0, 0)
def jm_mt : List (Nat × MethodName × ByteArray × Nat × Option FieldType × Nat × Bool × Nat × Nat × Nat × Nat × Nat) := [jMt0, jMt1, jMt2, jMt3, jMt4, jMt5, jMt6, jMt7, jMt8, jMt9, jMt10, jMt11, jMt12, jMt13, jMt14, jMt15, jMt16, jMt17, jMt18, jMt19, jMt20, jMt21, jMt22, jMt23, jMt24, jMt25, jMt26, jMt27, jMt28, jMt29, jMt30, jMt31, jMt32, jMt33, jMt34, jMt35, jMt36, jMt37, jMt38, jMt39, jMt40, jMt41, jMt42, jMt43, jMt44, jMt45, jMt46, jMt47, jMt48, jMt49, jMt50, jMt51, jMt52, jMt53, jMt54, jMt55, jMt56, jMt57, jMt58, jMt59, jMt60, jMt61, jMt62, jMt63, jMt64, jMt65, jMt66, jMt67, jMt68, jMt69, jMt70, jMt71, jMt72, jMt73, jMt74, jMt75, jMt76, jMt77, jMt78, jMt79, jMt80, jMt81, jMt82, jMt83, jMt84, jMt85, jMt86, jMt87, jMt88, jMt89, jMt90, jMt91, jMt92, jMt93, jMt94, jMt95, jMt96, jMt97, jMt98, jMt99, jMt100, jMt101, jMt102, jMt103, jMt104, jMt105, jMt106, jMt107, jMt108, jMt109, jMt110, jMt111, jMt112, jMt113, jMt114, jMt115, jMt116, jMt117, jMt118, jMt119, jMt120, jMt121, jMt122, jMt123, jMt124, jMt125, jMt126, jMt127, jMt128, jMt129, jMt130, jMt131, jMt132, jMt133, jMt134, jMt135, jMt136, jMt137, jMt138, jMt139, jMt140, jMt141, jMt142, jMt143, jMt144, jMt145, jMt146, jMt147, jMt148, jMt149, jMt150, jMt151, jMt152, jMt153, jMt154, jMt155, jMt156, jMt157, jMt158, jMt159, jMt160, jMt161, jMt162, jMt163, jMt164, jMt165, jMt166, jMt167, jMt168, jMt169, jMt170, jMt171, jMt172, jMt173, jMt174, jMt175, jMt176, jMt177, jMt178, jMt179, jMt180, jMt181, jMt182, jMt183, jMt184, jMt185, jMt186, jMt187, jMt188, jMt189, jMt190, jMt191, jMt192, jMt193, jMt194, jMt195, jMt196, jMt197, jMt198, jMt199, jMt200, jMt201]
