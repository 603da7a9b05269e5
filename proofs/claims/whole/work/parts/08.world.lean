def qt_0 : u_T := fun k => match k with
  | 0 => ("ShadowTheatre$Chance", "show", "LShadowTheatre$Show;", true)
  | 1 => ("ShadowTheatre$Chance", "lots", "LShadowTheatre$Cues;", true)
  | 2 => ("ShadowTheatre$Chance", "above", "J", false)
  | _ => ("ShadowTheatre$Chance", "below", "J", false)
def qt_1 : u_T := fun k => match k with
  | 0 => ("ShadowTheatre$Cues", "figure", "[I", true)
  | 1 => ("ShadowTheatre$Cues", "whither", "[I", true)
  | 2 => ("ShadowTheatre$Cues", "count", "I", false)
  | _ => ("ShadowTheatre$Cues", "faultPlace", "I", false)
def qt_2 : u_T := fun k => match k with
  | 0 => ("ShadowTheatre$Glow", "red", "I", false)
  | 1 => ("ShadowTheatre$Glow", "green", "I", false)
  | _ => ("ShadowTheatre$Glow", "blue", "I", false)
def qt_3 : u_T := fun k => match k with
  | 0 => ("ShadowTheatre$Picture", "wanted", "LShadowTheatre$Glow;", true)
  | 1 => ("ShadowTheatre$Picture", "told", "I", false)
  | _ => ("ShadowTheatre$Picture", "faultPlace", "I", false)
def qt_4 : u_T := fun k => match k with
  | 0 => ("ShadowTheatre$Planner", "show", "LShadowTheatre$Show;", true)
  | 1 => ("ShadowTheatre$Planner", "stage", "LShadowTheatre$Stage;", true)
  | 2 => ("ShadowTheatre$Planner", "others", "LShadowTheatre$Glow;", true)
  | 3 => ("ShadowTheatre$Planner", "endDepth", "[I", true)
  | 4 => ("ShadowTheatre$Planner", "endPlace", "[I", true)
  | _ => ("ShadowTheatre$Planner", "plan", "[I", true)
def qt_5 : u_T := fun k => match k with
  | 0 => ("ShadowTheatre$Row", "items", "[I", true)
  | _ => ("ShadowTheatre$Row", "count", "I", false)
def qt_6 : u_T := fun k => match k with
  | 0 => ("ShadowTheatre$Sheet", "items", "[I", true)
  | 1 => ("ShadowTheatre$Sheet", "form", "I", false)
  | _ => ("ShadowTheatre$Sheet", "count", "I", false)
def qt_7 : u_T := fun k => match k with
  | 0 => ("ShadowTheatre$Show", "figures", "LShadowTheatre$Troupe;", true)
  | 1 => ("ShadowTheatre$Show", "cues", "LShadowTheatre$Cues;", true)
  | 2 => ("ShadowTheatre$Show", "picture", "LShadowTheatre$Picture;", true)
  | 3 => ("ShadowTheatre$Show", "flickers", "LShadowTheatre$Row;", true)
  | 4 => ("ShadowTheatre$Show", "stage", "LShadowTheatre$Stage;", true)
  | _ => ("ShadowTheatre$Show", "lamp", "I", false)
def qt_8 : u_T := fun k => match k with
  | 0 => ("ShadowTheatre$Stage", "told", "LShadowTheatre$Troupe;", true)
  | 1 => ("ShadowTheatre$Stage", "rays", "[I", true)
  | 2 => ("ShadowTheatre$Stage", "depth", "[I", true)
  | 3 => ("ShadowTheatre$Stage", "place", "[I", true)
  | 4 => ("ShadowTheatre$Stage", "colour", "[I", true)
  | 5 => ("ShadowTheatre$Stage", "coverRay", "[I", true)
  | 6 => ("ShadowTheatre$Stage", "cover", "[I", true)
  | 7 => ("ShadowTheatre$Stage", "glow", "LShadowTheatre$Glow;", true)
  | _ => ("ShadowTheatre$Stage", "lamp", "I", false)
def qt_9 : u_T := fun k => match k with
  | 0 => ("ShadowTheatre$Troupe", "depth", "[I", true)
  | 1 => ("ShadowTheatre$Troupe", "place", "[I", true)
  | 2 => ("ShadowTheatre$Troupe", "colour", "[I", true)
  | 3 => ("ShadowTheatre$Troupe", "marks", "[I", true)
  | 4 => ("ShadowTheatre$Troupe", "card", "[I", true)
  | 5 => ("ShadowTheatre$Troupe", "count", "I", false)
  | _ => ("ShadowTheatre$Troupe", "faultPlace", "I", false)
def qt_10 : u_T := fun k => match k with
  | 0 => ("ShadowTheatre$Witness", "show", "LShadowTheatre$Show;", true)
  | 1 => ("ShadowTheatre$Witness", "stage", "LShadowTheatre$Stage;", true)
  | 2 => ("ShadowTheatre$Witness", "sights", "LShadowTheatre$Row;", true)
  | _ => ("ShadowTheatre$Witness", "tally", "[I", true)
def qt_11 : u_T := fun k => match k with
  | 0 => ("ShadowTheatre", "figureText", "LShadowTheatre$Row;", true)
  | 1 => ("ShadowTheatre", "cueText", "LShadowTheatre$Row;", true)
  | 2 => ("ShadowTheatre", "pictureText", "LShadowTheatre$Row;", true)
  | 3 => ("ShadowTheatre", "show", "LShadowTheatre$Show;", true)
  | 4 => ("ShadowTheatre", "planner", "LShadowTheatre$Planner;", true)
  | 5 => ("ShadowTheatre", "witness", "LShadowTheatre$Witness;", true)
  | 6 => ("ShadowTheatre", "chance", "LShadowTheatre$Chance;", true)
  | 7 => ("ShadowTheatre", "sheets", "[LShadowTheatre$Sheet;", true)
  | _ => ("ShadowTheatre", "finding", "I", false)
def qt_12 : u_T := fun k => match k with
  | 0 => ("ShadowTheatreModel", "forms", "[I", true)
  | 1 => ("ShadowTheatreModel", "sizes", "[I", true)
  | 2 => ("ShadowTheatreModel", "items", "[I", true)
  | 3 => ("ShadowTheatreModel", "moved", "[I", true)
  | 4 => ("ShadowTheatreModel", "latest", "I", false)
  | 5 => ("ShadowTheatreModel", "bytes", "[I", true)
  | 6 => ("ShadowTheatreModel", "typed", "[I", true)
  | 7 => ("ShadowTheatreModel", "figures", "I", false)
  | 8 => ("ShadowTheatreModel", "figure", "[I", true)
  | 9 => ("ShadowTheatreModel", "cards", "[I", true)
  | 10 => ("ShadowTheatreModel", "who", "[I", true)
  | 11 => ("ShadowTheatreModel", "whither", "[I", true)
  | 12 => ("ShadowTheatreModel", "picture", "[I", true)
  | 13 => ("ShadowTheatreModel", "lamp", "I", false)
  | 14 => ("ShadowTheatreModel", "flickers", "I", false)
  | 15 => ("ShadowTheatreModel", "flicker", "[I", true)
  | 16 => ("ShadowTheatreModel", "depthBy", "[I", true)
  | 17 => ("ShadowTheatreModel", "placeBy", "[I", true)
  | 18 => ("ShadowTheatreModel", "depth", "[I", true)
  | 19 => ("ShadowTheatreModel", "place", "[I", true)
  | 20 => ("ShadowTheatreModel", "undone", "I", false)
  | 21 => ("ShadowTheatreModel", "gone", "I", false)
  | 22 => ("ShadowTheatreModel", "sights", "I", false)
  | 23 => ("ShadowTheatreModel", "sight", "[I", true)
  | 24 => ("ShadowTheatreModel", "alike", "[I", true)
  | _ => ("ShadowTheatreModel", "drawn", "I", false)
def qu_0 : Nat → FieldType := fun k => match k with
  | 0 => .object "ShadowTheatre$Show"
  | 1 => .object "ShadowTheatre$Cues"
  | 2 => .long
  | _ => .long
theorem qu_0_ok : ∀ k, k < 4 → parseFieldDescriptor (qt_0 k).2.2.1 = some (qu_0 k) := by decide +kernel
theorem qn_0_ok : ∀ a, a < 4 → ∀ b, b < 4 → a ≠ b → (qt_0 a).2.1 ≠ (qt_0 b).2.1 := by decide +kernel
theorem qv_0_ok : ∀ x ∈ u_ws "ShadowTheatre$Chance" qt_0 4, x ∈ qw_tw := qw_inS (by decide +kernel)
def qu_1 : Nat → FieldType := fun k => match k with
  | 0 => .array .int
  | 1 => .array .int
  | 2 => .int
  | _ => .int
theorem qu_1_ok : ∀ k, k < 4 → parseFieldDescriptor (qt_1 k).2.2.1 = some (qu_1 k) := by decide +kernel
theorem qn_1_ok : ∀ a, a < 4 → ∀ b, b < 4 → a ≠ b → (qt_1 a).2.1 ≠ (qt_1 b).2.1 := by decide +kernel
theorem qv_1_ok : ∀ x ∈ u_ws "ShadowTheatre$Cues" qt_1 4, x ∈ qw_tw := qw_inS (by decide +kernel)
def qu_2 : Nat → FieldType := fun k => match k with
  | 0 => .int
  | 1 => .int
  | _ => .int
theorem qu_2_ok : ∀ k, k < 3 → parseFieldDescriptor (qt_2 k).2.2.1 = some (qu_2 k) := by decide +kernel
theorem qn_2_ok : ∀ a, a < 3 → ∀ b, b < 3 → a ≠ b → (qt_2 a).2.1 ≠ (qt_2 b).2.1 := by decide +kernel
theorem qv_2_ok : ∀ x ∈ u_ws "ShadowTheatre$Glow" qt_2 3, x ∈ qw_tw := qw_inS (by decide +kernel)
def qu_3 : Nat → FieldType := fun k => match k with
  | 0 => .object "ShadowTheatre$Glow"
  | 1 => .int
  | _ => .int
theorem qu_3_ok : ∀ k, k < 3 → parseFieldDescriptor (qt_3 k).2.2.1 = some (qu_3 k) := by decide +kernel
theorem qn_3_ok : ∀ a, a < 3 → ∀ b, b < 3 → a ≠ b → (qt_3 a).2.1 ≠ (qt_3 b).2.1 := by decide +kernel
theorem qv_3_ok : ∀ x ∈ u_ws "ShadowTheatre$Picture" qt_3 3, x ∈ qw_tw := qw_inS (by decide +kernel)
def qu_4 : Nat → FieldType := fun k => match k with
  | 0 => .object "ShadowTheatre$Show"
  | 1 => .object "ShadowTheatre$Stage"
  | 2 => .object "ShadowTheatre$Glow"
  | 3 => .array .int
  | 4 => .array .int
  | _ => .array .int
theorem qu_4_ok : ∀ k, k < 6 → parseFieldDescriptor (qt_4 k).2.2.1 = some (qu_4 k) := by decide +kernel
theorem qn_4_ok : ∀ a, a < 6 → ∀ b, b < 6 → a ≠ b → (qt_4 a).2.1 ≠ (qt_4 b).2.1 := by decide +kernel
theorem qv_4_ok : ∀ x ∈ u_ws "ShadowTheatre$Planner" qt_4 6, x ∈ qw_tw := qw_inS (by decide +kernel)
def qu_5 : Nat → FieldType := fun k => match k with
  | 0 => .array .int
  | _ => .int
theorem qu_5_ok : ∀ k, k < 2 → parseFieldDescriptor (qt_5 k).2.2.1 = some (qu_5 k) := by decide +kernel
theorem qn_5_ok : ∀ a, a < 2 → ∀ b, b < 2 → a ≠ b → (qt_5 a).2.1 ≠ (qt_5 b).2.1 := by decide +kernel
theorem qv_5_ok : ∀ x ∈ u_ws "ShadowTheatre$Row" qt_5 2, x ∈ qw_tw := qw_inS (by decide +kernel)
def qu_6 : Nat → FieldType := fun k => match k with
  | 0 => .array .int
  | 1 => .int
  | _ => .int
theorem qu_6_ok : ∀ k, k < 3 → parseFieldDescriptor (qt_6 k).2.2.1 = some (qu_6 k) := by decide +kernel
theorem qn_6_ok : ∀ a, a < 3 → ∀ b, b < 3 → a ≠ b → (qt_6 a).2.1 ≠ (qt_6 b).2.1 := by decide +kernel
theorem qv_6_ok : ∀ x ∈ u_ws "ShadowTheatre$Sheet" qt_6 3, x ∈ qw_tw := qw_inS (by decide +kernel)
def qu_7 : Nat → FieldType := fun k => match k with
  | 0 => .object "ShadowTheatre$Troupe"
  | 1 => .object "ShadowTheatre$Cues"
  | 2 => .object "ShadowTheatre$Picture"
  | 3 => .object "ShadowTheatre$Row"
  | 4 => .object "ShadowTheatre$Stage"
  | _ => .int
theorem qu_7_ok : ∀ k, k < 6 → parseFieldDescriptor (qt_7 k).2.2.1 = some (qu_7 k) := by decide +kernel
theorem qn_7_ok : ∀ a, a < 6 → ∀ b, b < 6 → a ≠ b → (qt_7 a).2.1 ≠ (qt_7 b).2.1 := by decide +kernel
theorem qv_7_ok : ∀ x ∈ u_ws "ShadowTheatre$Show" qt_7 6, x ∈ qw_tw := qw_inS (by decide +kernel)
def qu_8 : Nat → FieldType := fun k => match k with
  | 0 => .object "ShadowTheatre$Troupe"
  | 1 => .array .int
  | 2 => .array .int
  | 3 => .array .int
  | 4 => .array .int
  | 5 => .array .int
  | 6 => .array .int
  | 7 => .object "ShadowTheatre$Glow"
  | _ => .int
theorem qu_8_ok : ∀ k, k < 9 → parseFieldDescriptor (qt_8 k).2.2.1 = some (qu_8 k) := by decide +kernel
theorem qn_8_ok : ∀ a, a < 9 → ∀ b, b < 9 → a ≠ b → (qt_8 a).2.1 ≠ (qt_8 b).2.1 := by decide +kernel
theorem qv_8_ok : ∀ x ∈ u_ws "ShadowTheatre$Stage" qt_8 9, x ∈ qw_tw := qw_inS (by decide +kernel)
def qu_9 : Nat → FieldType := fun k => match k with
  | 0 => .array .int
  | 1 => .array .int
  | 2 => .array .int
  | 3 => .array .int
  | 4 => .array .int
  | 5 => .int
  | _ => .int
theorem qu_9_ok : ∀ k, k < 7 → parseFieldDescriptor (qt_9 k).2.2.1 = some (qu_9 k) := by decide +kernel
theorem qn_9_ok : ∀ a, a < 7 → ∀ b, b < 7 → a ≠ b → (qt_9 a).2.1 ≠ (qt_9 b).2.1 := by decide +kernel
theorem qv_9_ok : ∀ x ∈ u_ws "ShadowTheatre$Troupe" qt_9 7, x ∈ qw_tw := qw_inS (by decide +kernel)
def qu_10 : Nat → FieldType := fun k => match k with
  | 0 => .object "ShadowTheatre$Show"
  | 1 => .object "ShadowTheatre$Stage"
  | 2 => .object "ShadowTheatre$Row"
  | _ => .array .int
theorem qu_10_ok : ∀ k, k < 4 → parseFieldDescriptor (qt_10 k).2.2.1 = some (qu_10 k) := by decide +kernel
theorem qn_10_ok : ∀ a, a < 4 → ∀ b, b < 4 → a ≠ b → (qt_10 a).2.1 ≠ (qt_10 b).2.1 := by decide +kernel
theorem qv_10_ok : ∀ x ∈ u_ws "ShadowTheatre$Witness" qt_10 4, x ∈ qw_tw := qw_inS (by decide +kernel)
def qu_11 : Nat → FieldType := fun k => match k with
  | 0 => .object "ShadowTheatre$Row"
  | 1 => .object "ShadowTheatre$Row"
  | 2 => .object "ShadowTheatre$Row"
  | 3 => .object "ShadowTheatre$Show"
  | 4 => .object "ShadowTheatre$Planner"
  | 5 => .object "ShadowTheatre$Witness"
  | 6 => .object "ShadowTheatre$Chance"
  | 7 => .array (.object "ShadowTheatre$Sheet")
  | _ => .int
theorem qu_11_ok : ∀ k, k < 9 → parseFieldDescriptor (qt_11 k).2.2.1 = some (qu_11 k) := by decide +kernel
theorem qn_11_ok : ∀ a, a < 9 → ∀ b, b < 9 → a ≠ b → (qt_11 a).2.1 ≠ (qt_11 b).2.1 := by decide +kernel
theorem qv_11_ok : ∀ x ∈ u_ws "ShadowTheatre" qt_11 9, x ∈ qw_tw := qw_inS (by decide +kernel)
def qu_12 : Nat → FieldType := fun k => match k with
  | 0 => .array .int
  | 1 => .array .int
  | 2 => .array .int
  | 3 => .array .int
  | 4 => .int
  | 5 => .array .int
  | 6 => .array .int
  | 7 => .int
  | 8 => .array .int
  | 9 => .array .int
  | 10 => .array .int
  | 11 => .array .int
  | 12 => .array .int
  | 13 => .int
  | 14 => .int
  | 15 => .array .int
  | 16 => .array .int
  | 17 => .array .int
  | 18 => .array .int
  | 19 => .array .int
  | 20 => .int
  | 21 => .int
  | 22 => .int
  | 23 => .array .int
  | 24 => .array .int
  | _ => .int
theorem qu_12_ok : ∀ k, k < 26 → parseFieldDescriptor (qt_12 k).2.2.1 = some (qu_12 k) := by decide +kernel
theorem qn_12_ok : ∀ a, a < 26 → ∀ b, b < 26 → a ≠ b → (qt_12 a).2.1 ≠ (qt_12 b).2.1 := by decide +kernel
theorem qv_12_ok : ∀ x ∈ u_ws "ShadowTheatreModel" qt_12 26, x ∈ qw_tw := qw_inS (by decide +kernel)
def qc_cl : List vw_C := [("ShadowTheatre$Chance", qt_0, 4), ("ShadowTheatre$Cues", qt_1, 4), ("ShadowTheatre$Glow", qt_2, 3), ("ShadowTheatre$Picture", qt_3, 3), ("ShadowTheatre$Planner", qt_4, 6), ("ShadowTheatre$Row", qt_5, 2), ("ShadowTheatre$Sheet", qt_6, 3), ("ShadowTheatre$Show", qt_7, 6), ("ShadowTheatre$Stage", qt_8, 9), ("ShadowTheatre$Troupe", qt_9, 7), ("ShadowTheatre$Witness", qt_10, 4), ("ShadowTheatre", qt_11, 9), ("ShadowTheatreModel", qt_12, 26)]
def qw_nth {α : Type} (l : List α) (k : Nat) (d : α) : α := match l, k with
  | [], _ => d
  | a :: _, 0 => a
  | _ :: l, k + 1 => qw_nth l k d
theorem qw_nth_all {α : Type} {P : α → Prop} {d : α} (hd : P d) : ∀ {l : List α} (k : Nat), (∀ a ∈ l, P a) → P (qw_nth l k d)
  | [], k, _ => hd
  | a :: l, 0, h => h a List.mem_cons_self
  | a :: l, k + 1, h => qw_nth_all hd k (fun x hx => h x (List.mem_cons_of_mem _ hx))
theorem qw_ka0 {j : Nat} (h : (Nat.beq j 0 && Nat.blt 0 j) = true) : False := by
  cases j with
  | zero => simp [Nat.blt] at h
  | succ n => simp at h
theorem qw_all {α : Type} {P : Nat → α → Prop} {l : List (Nat × α)} (h : ∀ q ∈ l, P q.1 q.2) (j : Nat) (q : α) (hq : qw_lk l j = some q) : P j q := h (j, q) (qw_lk_mem hq)
def qc_nst : List (String × Nat × String × String × String × String) := [("ShadowTheatre$Show", 54, "ShadowTheatre$Row", "count", "I", "ShadowTheatre"),
  ("ShadowTheatre$Cues", 22, "ShadowTheatre$Row", "count", "I", "ShadowTheatre"),
  ("ShadowTheatre$Troupe", 31, "ShadowTheatre$Row", "count", "I", "ShadowTheatre"),
  ("ShadowTheatre$Picture", 29, "ShadowTheatre$Row", "count", "I", "ShadowTheatre"),
  ("ShadowTheatre", 89, "ShadowTheatre$Row", "count", "I", "ShadowTheatre"),
  ("ShadowTheatre$Witness", 39, "ShadowTheatre$Row", "count", "I", "ShadowTheatre"),
  ("ShadowTheatre$Stage", 49, "ShadowTheatre$Troupe", "depth", "[I", "ShadowTheatre"),
  ("ShadowTheatre$Stage", 52, "ShadowTheatre$Troupe", "place", "[I", "ShadowTheatre"),
  ("ShadowTheatre$Stage", 53, "ShadowTheatre$Troupe", "colour", "[I", "ShadowTheatre"),
  ("ShadowTheatre$Stage", 80, "ShadowTheatre$Troupe", "marks", "[I", "ShadowTheatre"),
  ("ShadowTheatre$Stage", 62, "ShadowTheatre$Troupe", "card", "[I", "ShadowTheatre"),
  ("ShadowTheatre$Planner", 109, "ShadowTheatre$Troupe", "count", "I", "ShadowTheatre"),
  ("ShadowTheatre$Chance", 119, "ShadowTheatre$Troupe", "count", "I", "ShadowTheatre"),
  ("ShadowTheatre$Show", 100, "ShadowTheatre$Troupe", "count", "I", "ShadowTheatre"),
  ("ShadowTheatre$Stage", 77, "ShadowTheatre$Troupe", "count", "I", "ShadowTheatre"),
  ("ShadowTheatre", 283, "ShadowTheatre$Troupe", "count", "I", "ShadowTheatre"),
  ("ShadowTheatre", 104, "ShadowTheatre$Troupe", "faultPlace", "I", "ShadowTheatre"),
  ("ShadowTheatre", 113, "ShadowTheatre$Cues", "faultPlace", "I", "ShadowTheatre"),
  ("ShadowTheatre$Picture", 45, "ShadowTheatre$Glow", "red", "I", "ShadowTheatre"),
  ("ShadowTheatre$Picture", 48, "ShadowTheatre$Glow", "green", "I", "ShadowTheatre"),
  ("ShadowTheatre$Picture", 51, "ShadowTheatre$Glow", "blue", "I", "ShadowTheatre"),
  ("ShadowTheatre", 287, "ShadowTheatre$Picture", "told", "I", "ShadowTheatre"),
  ("ShadowTheatre", 120, "ShadowTheatre$Picture", "faultPlace", "I", "ShadowTheatre"),
  ("ShadowTheatre$Planner", 57, "ShadowTheatre$Stage", "glow", "LShadowTheatre$Glow;", "ShadowTheatre"),
  ("ShadowTheatre$Witness", 79, "ShadowTheatre$Stage", "glow", "LShadowTheatre$Glow;", "ShadowTheatre"),
  ("ShadowTheatre$Show", 85, "ShadowTheatre$Stage", "glow", "LShadowTheatre$Glow;", "ShadowTheatre"),
  ("ShadowTheatre$Chance", 106, "ShadowTheatre$Stage", "glow", "LShadowTheatre$Glow;", "ShadowTheatre"),
  ("ShadowTheatre", 163, "ShadowTheatre$Stage", "glow", "LShadowTheatre$Glow;", "ShadowTheatre"),
  ("ShadowTheatre$Planner", 94, "ShadowTheatre$Stage", "lamp", "I", "ShadowTheatre"),
  ("ShadowTheatre$Chance", 55, "ShadowTheatre$Show", "figures", "LShadowTheatre$Troupe;", "ShadowTheatre"),
  ("ShadowTheatre", 100, "ShadowTheatre$Show", "figures", "LShadowTheatre$Troupe;", "ShadowTheatre"),
  ("ShadowTheatre$Planner", 105, "ShadowTheatre$Show", "figures", "LShadowTheatre$Troupe;", "ShadowTheatre"),
  ("ShadowTheatre$Chance", 61, "ShadowTheatre$Show", "cues", "LShadowTheatre$Cues;", "ShadowTheatre"),
  ("ShadowTheatre$Witness", 50, "ShadowTheatre$Show", "cues", "LShadowTheatre$Cues;", "ShadowTheatre"),
  ("ShadowTheatre", 109, "ShadowTheatre$Show", "cues", "LShadowTheatre$Cues;", "ShadowTheatre"),
  ("ShadowTheatre", 116, "ShadowTheatre$Show", "picture", "LShadowTheatre$Picture;", "ShadowTheatre"),
  ("ShadowTheatre", 143, "ShadowTheatre$Show", "flickers", "LShadowTheatre$Row;", "ShadowTheatre"),
  ("ShadowTheatre$Witness", 28, "ShadowTheatre$Show", "stage", "LShadowTheatre$Stage;", "ShadowTheatre"),
  ("ShadowTheatre$Planner", 32, "ShadowTheatre$Show", "stage", "LShadowTheatre$Stage;", "ShadowTheatre"),
  ("ShadowTheatre", 61, "ShadowTheatre$Show", "stage", "LShadowTheatre$Stage;", "ShadowTheatre"),
  ("ShadowTheatre$Chance", 80, "ShadowTheatre$Show", "stage", "LShadowTheatre$Stage;", "ShadowTheatre"),
  ("ShadowTheatre", 140, "ShadowTheatre$Show", "lamp", "I", "ShadowTheatre"),
  ("ShadowTheatre", 217, "ShadowTheatre$Witness", "sights", "LShadowTheatre$Row;", "ShadowTheatre"),
  ("ShadowTheatre", 240, "ShadowTheatre$Chance", "above", "J", "ShadowTheatre"),
  ("ShadowTheatre", 244, "ShadowTheatre$Chance", "below", "J", "ShadowTheatre"),
  ("ShadowTheatre", 268, "ShadowTheatre$Sheet", "items", "[I", "ShadowTheatre"),
  ("ShadowTheatre", 262, "ShadowTheatre$Sheet", "form", "I", "ShadowTheatre"),
  ("ShadowTheatre", 156, "ShadowTheatre$Sheet", "count", "I", "ShadowTheatre")]
def qc_kd (ci j : Nat) : Nat := qw_nth (qw_nth [[0, 0, 2, 2], [0, 0, 1, 1], [1, 1, 1], [0, 1, 1], [0, 0, 0, 0, 0, 0], [0, 1], [0, 1, 1], [0, 0, 0, 0, 0, 1], [0, 0, 0, 0, 0, 0, 0, 0, 1], [0, 0, 0, 0, 0, 1, 1], [0, 0, 0, 0], [0, 0, 0, 0, 0, 0, 0, 0, 1], [0, 0, 0, 0, 1, 0, 0, 1, 0, 0, 0, 0, 0, 1, 1, 0, 0, 0, 0, 0, 1, 1, 1, 0, 0, 1]] ci []) j 0
def wC_cs : List (qw_R → qw_E) := [
  fun r => .inr (.inr (11, [.ref 1, .ref 3, .ref 5, .ref 7, .ref 29, .ref 34, .ref 38, .ref 42, .int (r.1 8)])),
  fun r => .inr (.inr (5, [.ref 2, .int (r.1 1)])),
  fun _ => .inl (0, 87),
  fun r => .inr (.inr (5, [.ref 4, .int (r.1 1)])),
  fun _ => .inl (0, 40),
  fun r => .inr (.inr (5, [.ref 6, .int (r.1 1)])),
  fun _ => .inl (0, 32),
  fun r => .inr (.inr (7, [.ref 8, .ref 14, .ref 17, .ref 19, .ref 21, .int (r.1 5)])),
  fun r => .inr (.inr (9, [.ref 9, .ref 10, .ref 11, .ref 12, .ref 13, .int (r.1 5), .int (r.1 6)])),
  fun _ => .inl (0, 8),
  fun _ => .inl (0, 8),
  fun _ => .inl (0, 8),
  fun _ => .inl (0, 8),
  fun _ => .inl (0, 8),
  fun r => .inr (.inr (1, [.ref 15, .ref 16, .int (r.1 2), .int (r.1 3)])),
  fun _ => .inl (0, 20),
  fun _ => .inl (0, 20),
  fun r => .inr (.inr (3, [.ref 18, .int (r.1 1), .int (r.1 2)])),
  fun r => .inr (.inr (2, [.int (r.1 0), .int (r.1 1), .int (r.1 2)])),
  fun r => .inr (.inr (5, [.ref 20, .int (r.1 1)])),
  fun _ => .inl (0, 8),
  fun r => .inr (.inr (8, [.ref 8, .ref 22, .ref 23, .ref 24, .ref 25, .ref 26, .ref 27, .ref 28, .int (r.1 8)])),
  fun _ => .inl (0, 8192),
  fun _ => .inl (0, 8),
  fun _ => .inl (0, 8),
  fun _ => .inl (0, 8),
  fun _ => .inl (0, 8),
  fun _ => .inl (0, 8),
  fun r => .inr (.inr (2, [.int (r.1 0), .int (r.1 1), .int (r.1 2)])),
  fun r => .inr (.inr (4, [.ref 7, .ref 21, .ref 30, .ref 31, .ref 32, .ref 33])),
  fun r => .inr (.inr (2, [.int (r.1 0), .int (r.1 1), .int (r.1 2)])),
  fun _ => .inl (0, 9),
  fun _ => .inl (0, 32),
  fun _ => .inl (0, 3),
  fun r => .inr (.inr (10, [.ref 7, .ref 21, .ref 35, .ref 37])),
  fun r => .inr (.inr (5, [.ref 36, .int (r.1 1)])),
  fun _ => .inl (0, 8),
  fun _ => .inl (0, 256),
  fun r => .inr (.inr (0, [.ref 7, .ref 39, .long (r.2 2), .long (r.2 3)])),
  fun r => .inr (.inr (1, [.ref 40, .ref 41, .int (r.1 2), .int (r.1 3)])),
  fun _ => .inl (0, 20),
  fun _ => .inl (0, 20),
  fun _ => .inr (.inl (2, 4, fun i => match Nat.blt i 4 with | true => some (43 + i) | false => none)),
  fun r => .inr (.inr (6, [.ref 47, .int (r.1 1), .int (r.1 2)])),
  fun r => .inr (.inr (6, [.ref 48, .int (r.1 1), .int (r.1 2)])),
  fun r => .inr (.inr (6, [.ref 49, .int (r.1 1), .int (r.1 2)])),
  fun r => .inr (.inr (6, [.ref 50, .int (r.1 1), .int (r.1 2)])),
  fun _ => .inl (0, 60),
  fun _ => .inl (0, 60),
  fun _ => .inl (0, 60),
  fun _ => .inl (0, 60),
  fun _ => .inl (1, 4),
  fun _ => .inl (1, 4)]
def wC_cf (k : Nat) : qw_R → qw_E := qw_nth wC_cs k (fun _ => .inl (9, 0))
def wC : qw_Wd := (qc_cl, 51, wC_cf, 3, fun t => (match t with | 0 => FieldType.int | 1 => .byte | _ => .object "ShadowTheatre$Sheet"), 2, fun k => (fun j => qw_nth (qw_nth [[107, 114, 103, 98], [108, 114, 102, 98]] (k - 51) []) j 0, fun _ => 0), [("java/lang/String", "COMPACT_STRINGS", "Z", .int 1)], qc_kd, qc_nst, 2, [("ShadowTheatre$Troupe", 45, "krgb", 0), ("ShadowTheatre$Cues", 36, "lrfb", 1)])
theorem wC_tok : qw_tok wC := ⟨rfl, rfl, ⟨_, rfl⟩, by decide, rfl⟩
def wC_gd (f : qw_R → qw_E) : Prop := (∀ r q, f r = .inl q → ∀ r', f r' = .inl q) ∧ (∀ r c, f r = .inr (.inr c) → ∀ j, (qc_kd c.1 j = 1 → j < c.2.length ∧ ∀ x, f (upd r.1 j x, r.2) = .inr (.inr (c.1, c.2.set j (.int x)))) ∧ (qc_kd c.1 j = 2 → j < c.2.length ∧ ∀ x, f (r.1, vp_updL r.2 j x) = .inr (.inr (c.1, c.2.set j (.long x)))))
theorem wC_ga (q : Nat × Nat) : wC_gd (fun _ => .inl q) := ⟨fun r q2 h r' => h, fun r c h => (by cases h)⟩
theorem wC_gq (q : Nat × Nat × (Nat → Option Nat)) : wC_gd (fun _ => .inr (.inl q)) := ⟨fun r q2 h => (by cases h), fun r c h => (by cases h)⟩
theorem wC_g0 : wC_gd (fun r => .inr (.inr (11, [.ref 1, .ref 3, .ref 5, .ref 7, .ref 29, .ref 34, .ref 38, .ref 42, .int (r.1 8)]))) := by
  refine ⟨fun r q h => (by cases h), fun r c h j => ?_⟩
  cases h
  match j with
  | 0 => exact ⟨fun h => absurd h (show ¬ (0 : Nat) = 1 by decide), fun h => absurd h (show ¬ (0 : Nat) = 2 by decide)⟩
  | 1 => exact ⟨fun h => absurd h (show ¬ (0 : Nat) = 1 by decide), fun h => absurd h (show ¬ (0 : Nat) = 2 by decide)⟩
  | 2 => exact ⟨fun h => absurd h (show ¬ (0 : Nat) = 1 by decide), fun h => absurd h (show ¬ (0 : Nat) = 2 by decide)⟩
  | 3 => exact ⟨fun h => absurd h (show ¬ (0 : Nat) = 1 by decide), fun h => absurd h (show ¬ (0 : Nat) = 2 by decide)⟩
  | 4 => exact ⟨fun h => absurd h (show ¬ (0 : Nat) = 1 by decide), fun h => absurd h (show ¬ (0 : Nat) = 2 by decide)⟩
  | 5 => exact ⟨fun h => absurd h (show ¬ (0 : Nat) = 1 by decide), fun h => absurd h (show ¬ (0 : Nat) = 2 by decide)⟩
  | 6 => exact ⟨fun h => absurd h (show ¬ (0 : Nat) = 1 by decide), fun h => absurd h (show ¬ (0 : Nat) = 2 by decide)⟩
  | 7 => exact ⟨fun h => absurd h (show ¬ (0 : Nat) = 1 by decide), fun h => absurd h (show ¬ (0 : Nat) = 2 by decide)⟩
  | 8 => exact ⟨fun _ => ⟨Nat.le_of_ble_eq_true rfl, fun x => rfl⟩, fun h => absurd h (show ¬ (1 : Nat) = 2 by decide)⟩
  | _ + 9 => exact ⟨fun h => absurd h (show ¬ (0 : Nat) = 1 by decide), fun h => absurd h (show ¬ (0 : Nat) = 2 by decide)⟩
theorem wC_g1 : wC_gd (fun r => .inr (.inr (5, [.ref 2, .int (r.1 1)]))) := by
  refine ⟨fun r q h => (by cases h), fun r c h j => ?_⟩
  cases h
  match j with
  | 0 => exact ⟨fun h => absurd h (show ¬ (0 : Nat) = 1 by decide), fun h => absurd h (show ¬ (0 : Nat) = 2 by decide)⟩
  | 1 => exact ⟨fun _ => ⟨Nat.le_of_ble_eq_true rfl, fun x => rfl⟩, fun h => absurd h (show ¬ (1 : Nat) = 2 by decide)⟩
  | _ + 2 => exact ⟨fun h => absurd h (show ¬ (0 : Nat) = 1 by decide), fun h => absurd h (show ¬ (0 : Nat) = 2 by decide)⟩
theorem wC_g3 : wC_gd (fun r => .inr (.inr (5, [.ref 4, .int (r.1 1)]))) := by
  refine ⟨fun r q h => (by cases h), fun r c h j => ?_⟩
  cases h
  match j with
  | 0 => exact ⟨fun h => absurd h (show ¬ (0 : Nat) = 1 by decide), fun h => absurd h (show ¬ (0 : Nat) = 2 by decide)⟩
  | 1 => exact ⟨fun _ => ⟨Nat.le_of_ble_eq_true rfl, fun x => rfl⟩, fun h => absurd h (show ¬ (1 : Nat) = 2 by decide)⟩
  | _ + 2 => exact ⟨fun h => absurd h (show ¬ (0 : Nat) = 1 by decide), fun h => absurd h (show ¬ (0 : Nat) = 2 by decide)⟩
theorem wC_g5 : wC_gd (fun r => .inr (.inr (5, [.ref 6, .int (r.1 1)]))) := by
  refine ⟨fun r q h => (by cases h), fun r c h j => ?_⟩
  cases h
  match j with
  | 0 => exact ⟨fun h => absurd h (show ¬ (0 : Nat) = 1 by decide), fun h => absurd h (show ¬ (0 : Nat) = 2 by decide)⟩
  | 1 => exact ⟨fun _ => ⟨Nat.le_of_ble_eq_true rfl, fun x => rfl⟩, fun h => absurd h (show ¬ (1 : Nat) = 2 by decide)⟩
  | _ + 2 => exact ⟨fun h => absurd h (show ¬ (0 : Nat) = 1 by decide), fun h => absurd h (show ¬ (0 : Nat) = 2 by decide)⟩
theorem wC_g7 : wC_gd (fun r => .inr (.inr (7, [.ref 8, .ref 14, .ref 17, .ref 19, .ref 21, .int (r.1 5)]))) := by
  refine ⟨fun r q h => (by cases h), fun r c h j => ?_⟩
  cases h
  match j with
  | 0 => exact ⟨fun h => absurd h (show ¬ (0 : Nat) = 1 by decide), fun h => absurd h (show ¬ (0 : Nat) = 2 by decide)⟩
  | 1 => exact ⟨fun h => absurd h (show ¬ (0 : Nat) = 1 by decide), fun h => absurd h (show ¬ (0 : Nat) = 2 by decide)⟩
  | 2 => exact ⟨fun h => absurd h (show ¬ (0 : Nat) = 1 by decide), fun h => absurd h (show ¬ (0 : Nat) = 2 by decide)⟩
  | 3 => exact ⟨fun h => absurd h (show ¬ (0 : Nat) = 1 by decide), fun h => absurd h (show ¬ (0 : Nat) = 2 by decide)⟩
  | 4 => exact ⟨fun h => absurd h (show ¬ (0 : Nat) = 1 by decide), fun h => absurd h (show ¬ (0 : Nat) = 2 by decide)⟩
  | 5 => exact ⟨fun _ => ⟨Nat.le_of_ble_eq_true rfl, fun x => rfl⟩, fun h => absurd h (show ¬ (1 : Nat) = 2 by decide)⟩
  | _ + 6 => exact ⟨fun h => absurd h (show ¬ (0 : Nat) = 1 by decide), fun h => absurd h (show ¬ (0 : Nat) = 2 by decide)⟩
theorem wC_g8 : wC_gd (fun r => .inr (.inr (9, [.ref 9, .ref 10, .ref 11, .ref 12, .ref 13, .int (r.1 5), .int (r.1 6)]))) := by
  refine ⟨fun r q h => (by cases h), fun r c h j => ?_⟩
  cases h
  match j with
  | 0 => exact ⟨fun h => absurd h (show ¬ (0 : Nat) = 1 by decide), fun h => absurd h (show ¬ (0 : Nat) = 2 by decide)⟩
  | 1 => exact ⟨fun h => absurd h (show ¬ (0 : Nat) = 1 by decide), fun h => absurd h (show ¬ (0 : Nat) = 2 by decide)⟩
  | 2 => exact ⟨fun h => absurd h (show ¬ (0 : Nat) = 1 by decide), fun h => absurd h (show ¬ (0 : Nat) = 2 by decide)⟩
  | 3 => exact ⟨fun h => absurd h (show ¬ (0 : Nat) = 1 by decide), fun h => absurd h (show ¬ (0 : Nat) = 2 by decide)⟩
  | 4 => exact ⟨fun h => absurd h (show ¬ (0 : Nat) = 1 by decide), fun h => absurd h (show ¬ (0 : Nat) = 2 by decide)⟩
  | 5 => exact ⟨fun _ => ⟨Nat.le_of_ble_eq_true rfl, fun x => rfl⟩, fun h => absurd h (show ¬ (1 : Nat) = 2 by decide)⟩
  | 6 => exact ⟨fun _ => ⟨Nat.le_of_ble_eq_true rfl, fun x => rfl⟩, fun h => absurd h (show ¬ (1 : Nat) = 2 by decide)⟩
  | _ + 7 => exact ⟨fun h => absurd h (show ¬ (0 : Nat) = 1 by decide), fun h => absurd h (show ¬ (0 : Nat) = 2 by decide)⟩
theorem wC_g14 : wC_gd (fun r => .inr (.inr (1, [.ref 15, .ref 16, .int (r.1 2), .int (r.1 3)]))) := by
  refine ⟨fun r q h => (by cases h), fun r c h j => ?_⟩
  cases h
  match j with
  | 0 => exact ⟨fun h => absurd h (show ¬ (0 : Nat) = 1 by decide), fun h => absurd h (show ¬ (0 : Nat) = 2 by decide)⟩
  | 1 => exact ⟨fun h => absurd h (show ¬ (0 : Nat) = 1 by decide), fun h => absurd h (show ¬ (0 : Nat) = 2 by decide)⟩
  | 2 => exact ⟨fun _ => ⟨Nat.le_of_ble_eq_true rfl, fun x => rfl⟩, fun h => absurd h (show ¬ (1 : Nat) = 2 by decide)⟩
  | 3 => exact ⟨fun _ => ⟨Nat.le_of_ble_eq_true rfl, fun x => rfl⟩, fun h => absurd h (show ¬ (1 : Nat) = 2 by decide)⟩
  | _ + 4 => exact ⟨fun h => absurd h (show ¬ (0 : Nat) = 1 by decide), fun h => absurd h (show ¬ (0 : Nat) = 2 by decide)⟩
theorem wC_g17 : wC_gd (fun r => .inr (.inr (3, [.ref 18, .int (r.1 1), .int (r.1 2)]))) := by
  refine ⟨fun r q h => (by cases h), fun r c h j => ?_⟩
  cases h
  match j with
  | 0 => exact ⟨fun h => absurd h (show ¬ (0 : Nat) = 1 by decide), fun h => absurd h (show ¬ (0 : Nat) = 2 by decide)⟩
  | 1 => exact ⟨fun _ => ⟨Nat.le_of_ble_eq_true rfl, fun x => rfl⟩, fun h => absurd h (show ¬ (1 : Nat) = 2 by decide)⟩
  | 2 => exact ⟨fun _ => ⟨Nat.le_of_ble_eq_true rfl, fun x => rfl⟩, fun h => absurd h (show ¬ (1 : Nat) = 2 by decide)⟩
  | _ + 3 => exact ⟨fun h => absurd h (show ¬ (0 : Nat) = 1 by decide), fun h => absurd h (show ¬ (0 : Nat) = 2 by decide)⟩
theorem wC_g18 : wC_gd (fun r => .inr (.inr (2, [.int (r.1 0), .int (r.1 1), .int (r.1 2)]))) := by
  refine ⟨fun r q h => (by cases h), fun r c h j => ?_⟩
  cases h
  match j with
  | 0 => exact ⟨fun _ => ⟨Nat.le_of_ble_eq_true rfl, fun x => rfl⟩, fun h => absurd h (show ¬ (1 : Nat) = 2 by decide)⟩
  | 1 => exact ⟨fun _ => ⟨Nat.le_of_ble_eq_true rfl, fun x => rfl⟩, fun h => absurd h (show ¬ (1 : Nat) = 2 by decide)⟩
  | 2 => exact ⟨fun _ => ⟨Nat.le_of_ble_eq_true rfl, fun x => rfl⟩, fun h => absurd h (show ¬ (1 : Nat) = 2 by decide)⟩
  | _ + 3 => exact ⟨fun h => absurd h (show ¬ (0 : Nat) = 1 by decide), fun h => absurd h (show ¬ (0 : Nat) = 2 by decide)⟩
theorem wC_g19 : wC_gd (fun r => .inr (.inr (5, [.ref 20, .int (r.1 1)]))) := by
  refine ⟨fun r q h => (by cases h), fun r c h j => ?_⟩
  cases h
  match j with
  | 0 => exact ⟨fun h => absurd h (show ¬ (0 : Nat) = 1 by decide), fun h => absurd h (show ¬ (0 : Nat) = 2 by decide)⟩
  | 1 => exact ⟨fun _ => ⟨Nat.le_of_ble_eq_true rfl, fun x => rfl⟩, fun h => absurd h (show ¬ (1 : Nat) = 2 by decide)⟩
  | _ + 2 => exact ⟨fun h => absurd h (show ¬ (0 : Nat) = 1 by decide), fun h => absurd h (show ¬ (0 : Nat) = 2 by decide)⟩
theorem wC_g21 : wC_gd (fun r => .inr (.inr (8, [.ref 8, .ref 22, .ref 23, .ref 24, .ref 25, .ref 26, .ref 27, .ref 28, .int (r.1 8)]))) := by
  refine ⟨fun r q h => (by cases h), fun r c h j => ?_⟩
  cases h
  match j with
  | 0 => exact ⟨fun h => absurd h (show ¬ (0 : Nat) = 1 by decide), fun h => absurd h (show ¬ (0 : Nat) = 2 by decide)⟩
  | 1 => exact ⟨fun h => absurd h (show ¬ (0 : Nat) = 1 by decide), fun h => absurd h (show ¬ (0 : Nat) = 2 by decide)⟩
  | 2 => exact ⟨fun h => absurd h (show ¬ (0 : Nat) = 1 by decide), fun h => absurd h (show ¬ (0 : Nat) = 2 by decide)⟩
  | 3 => exact ⟨fun h => absurd h (show ¬ (0 : Nat) = 1 by decide), fun h => absurd h (show ¬ (0 : Nat) = 2 by decide)⟩
  | 4 => exact ⟨fun h => absurd h (show ¬ (0 : Nat) = 1 by decide), fun h => absurd h (show ¬ (0 : Nat) = 2 by decide)⟩
  | 5 => exact ⟨fun h => absurd h (show ¬ (0 : Nat) = 1 by decide), fun h => absurd h (show ¬ (0 : Nat) = 2 by decide)⟩
  | 6 => exact ⟨fun h => absurd h (show ¬ (0 : Nat) = 1 by decide), fun h => absurd h (show ¬ (0 : Nat) = 2 by decide)⟩
  | 7 => exact ⟨fun h => absurd h (show ¬ (0 : Nat) = 1 by decide), fun h => absurd h (show ¬ (0 : Nat) = 2 by decide)⟩
  | 8 => exact ⟨fun _ => ⟨Nat.le_of_ble_eq_true rfl, fun x => rfl⟩, fun h => absurd h (show ¬ (1 : Nat) = 2 by decide)⟩
  | _ + 9 => exact ⟨fun h => absurd h (show ¬ (0 : Nat) = 1 by decide), fun h => absurd h (show ¬ (0 : Nat) = 2 by decide)⟩
theorem wC_g28 : wC_gd (fun r => .inr (.inr (2, [.int (r.1 0), .int (r.1 1), .int (r.1 2)]))) := by
  refine ⟨fun r q h => (by cases h), fun r c h j => ?_⟩
  cases h
  match j with
  | 0 => exact ⟨fun _ => ⟨Nat.le_of_ble_eq_true rfl, fun x => rfl⟩, fun h => absurd h (show ¬ (1 : Nat) = 2 by decide)⟩
  | 1 => exact ⟨fun _ => ⟨Nat.le_of_ble_eq_true rfl, fun x => rfl⟩, fun h => absurd h (show ¬ (1 : Nat) = 2 by decide)⟩
  | 2 => exact ⟨fun _ => ⟨Nat.le_of_ble_eq_true rfl, fun x => rfl⟩, fun h => absurd h (show ¬ (1 : Nat) = 2 by decide)⟩
  | _ + 3 => exact ⟨fun h => absurd h (show ¬ (0 : Nat) = 1 by decide), fun h => absurd h (show ¬ (0 : Nat) = 2 by decide)⟩
theorem wC_g29 : wC_gd (fun r => .inr (.inr (4, [.ref 7, .ref 21, .ref 30, .ref 31, .ref 32, .ref 33]))) := by
  refine ⟨fun r q h => (by cases h), fun r c h j => ?_⟩
  cases h
  match j with
  | 0 => exact ⟨fun h => absurd h (show ¬ (0 : Nat) = 1 by decide), fun h => absurd h (show ¬ (0 : Nat) = 2 by decide)⟩
  | 1 => exact ⟨fun h => absurd h (show ¬ (0 : Nat) = 1 by decide), fun h => absurd h (show ¬ (0 : Nat) = 2 by decide)⟩
  | 2 => exact ⟨fun h => absurd h (show ¬ (0 : Nat) = 1 by decide), fun h => absurd h (show ¬ (0 : Nat) = 2 by decide)⟩
  | 3 => exact ⟨fun h => absurd h (show ¬ (0 : Nat) = 1 by decide), fun h => absurd h (show ¬ (0 : Nat) = 2 by decide)⟩
  | 4 => exact ⟨fun h => absurd h (show ¬ (0 : Nat) = 1 by decide), fun h => absurd h (show ¬ (0 : Nat) = 2 by decide)⟩
  | 5 => exact ⟨fun h => absurd h (show ¬ (0 : Nat) = 1 by decide), fun h => absurd h (show ¬ (0 : Nat) = 2 by decide)⟩
  | _ + 6 => exact ⟨fun h => absurd h (show ¬ (0 : Nat) = 1 by decide), fun h => absurd h (show ¬ (0 : Nat) = 2 by decide)⟩
theorem wC_g30 : wC_gd (fun r => .inr (.inr (2, [.int (r.1 0), .int (r.1 1), .int (r.1 2)]))) := by
  refine ⟨fun r q h => (by cases h), fun r c h j => ?_⟩
  cases h
  match j with
  | 0 => exact ⟨fun _ => ⟨Nat.le_of_ble_eq_true rfl, fun x => rfl⟩, fun h => absurd h (show ¬ (1 : Nat) = 2 by decide)⟩
  | 1 => exact ⟨fun _ => ⟨Nat.le_of_ble_eq_true rfl, fun x => rfl⟩, fun h => absurd h (show ¬ (1 : Nat) = 2 by decide)⟩
  | 2 => exact ⟨fun _ => ⟨Nat.le_of_ble_eq_true rfl, fun x => rfl⟩, fun h => absurd h (show ¬ (1 : Nat) = 2 by decide)⟩
  | _ + 3 => exact ⟨fun h => absurd h (show ¬ (0 : Nat) = 1 by decide), fun h => absurd h (show ¬ (0 : Nat) = 2 by decide)⟩
theorem wC_g34 : wC_gd (fun r => .inr (.inr (10, [.ref 7, .ref 21, .ref 35, .ref 37]))) := by
  refine ⟨fun r q h => (by cases h), fun r c h j => ?_⟩
  cases h
  match j with
  | 0 => exact ⟨fun h => absurd h (show ¬ (0 : Nat) = 1 by decide), fun h => absurd h (show ¬ (0 : Nat) = 2 by decide)⟩
  | 1 => exact ⟨fun h => absurd h (show ¬ (0 : Nat) = 1 by decide), fun h => absurd h (show ¬ (0 : Nat) = 2 by decide)⟩
  | 2 => exact ⟨fun h => absurd h (show ¬ (0 : Nat) = 1 by decide), fun h => absurd h (show ¬ (0 : Nat) = 2 by decide)⟩
  | 3 => exact ⟨fun h => absurd h (show ¬ (0 : Nat) = 1 by decide), fun h => absurd h (show ¬ (0 : Nat) = 2 by decide)⟩
  | _ + 4 => exact ⟨fun h => absurd h (show ¬ (0 : Nat) = 1 by decide), fun h => absurd h (show ¬ (0 : Nat) = 2 by decide)⟩
theorem wC_g35 : wC_gd (fun r => .inr (.inr (5, [.ref 36, .int (r.1 1)]))) := by
  refine ⟨fun r q h => (by cases h), fun r c h j => ?_⟩
  cases h
  match j with
  | 0 => exact ⟨fun h => absurd h (show ¬ (0 : Nat) = 1 by decide), fun h => absurd h (show ¬ (0 : Nat) = 2 by decide)⟩
  | 1 => exact ⟨fun _ => ⟨Nat.le_of_ble_eq_true rfl, fun x => rfl⟩, fun h => absurd h (show ¬ (1 : Nat) = 2 by decide)⟩
  | _ + 2 => exact ⟨fun h => absurd h (show ¬ (0 : Nat) = 1 by decide), fun h => absurd h (show ¬ (0 : Nat) = 2 by decide)⟩
theorem wC_g38 : wC_gd (fun r => .inr (.inr (0, [.ref 7, .ref 39, .long (r.2 2), .long (r.2 3)]))) := by
  refine ⟨fun r q h => (by cases h), fun r c h j => ?_⟩
  cases h
  match j with
  | 0 => exact ⟨fun h => absurd h (show ¬ (0 : Nat) = 1 by decide), fun h => absurd h (show ¬ (0 : Nat) = 2 by decide)⟩
  | 1 => exact ⟨fun h => absurd h (show ¬ (0 : Nat) = 1 by decide), fun h => absurd h (show ¬ (0 : Nat) = 2 by decide)⟩
  | 2 => exact ⟨fun h => absurd h (show ¬ (2 : Nat) = 1 by decide), fun _ => ⟨Nat.le_of_ble_eq_true rfl, fun x => rfl⟩⟩
  | 3 => exact ⟨fun h => absurd h (show ¬ (2 : Nat) = 1 by decide), fun _ => ⟨Nat.le_of_ble_eq_true rfl, fun x => rfl⟩⟩
  | _ + 4 => exact ⟨fun h => absurd h (show ¬ (0 : Nat) = 1 by decide), fun h => absurd h (show ¬ (0 : Nat) = 2 by decide)⟩
theorem wC_g39 : wC_gd (fun r => .inr (.inr (1, [.ref 40, .ref 41, .int (r.1 2), .int (r.1 3)]))) := by
  refine ⟨fun r q h => (by cases h), fun r c h j => ?_⟩
  cases h
  match j with
  | 0 => exact ⟨fun h => absurd h (show ¬ (0 : Nat) = 1 by decide), fun h => absurd h (show ¬ (0 : Nat) = 2 by decide)⟩
  | 1 => exact ⟨fun h => absurd h (show ¬ (0 : Nat) = 1 by decide), fun h => absurd h (show ¬ (0 : Nat) = 2 by decide)⟩
  | 2 => exact ⟨fun _ => ⟨Nat.le_of_ble_eq_true rfl, fun x => rfl⟩, fun h => absurd h (show ¬ (1 : Nat) = 2 by decide)⟩
  | 3 => exact ⟨fun _ => ⟨Nat.le_of_ble_eq_true rfl, fun x => rfl⟩, fun h => absurd h (show ¬ (1 : Nat) = 2 by decide)⟩
  | _ + 4 => exact ⟨fun h => absurd h (show ¬ (0 : Nat) = 1 by decide), fun h => absurd h (show ¬ (0 : Nat) = 2 by decide)⟩
theorem wC_g43 : wC_gd (fun r => .inr (.inr (6, [.ref 47, .int (r.1 1), .int (r.1 2)]))) := by
  refine ⟨fun r q h => (by cases h), fun r c h j => ?_⟩
  cases h
  match j with
  | 0 => exact ⟨fun h => absurd h (show ¬ (0 : Nat) = 1 by decide), fun h => absurd h (show ¬ (0 : Nat) = 2 by decide)⟩
  | 1 => exact ⟨fun _ => ⟨Nat.le_of_ble_eq_true rfl, fun x => rfl⟩, fun h => absurd h (show ¬ (1 : Nat) = 2 by decide)⟩
  | 2 => exact ⟨fun _ => ⟨Nat.le_of_ble_eq_true rfl, fun x => rfl⟩, fun h => absurd h (show ¬ (1 : Nat) = 2 by decide)⟩
  | _ + 3 => exact ⟨fun h => absurd h (show ¬ (0 : Nat) = 1 by decide), fun h => absurd h (show ¬ (0 : Nat) = 2 by decide)⟩
theorem wC_g44 : wC_gd (fun r => .inr (.inr (6, [.ref 48, .int (r.1 1), .int (r.1 2)]))) := by
  refine ⟨fun r q h => (by cases h), fun r c h j => ?_⟩
  cases h
  match j with
  | 0 => exact ⟨fun h => absurd h (show ¬ (0 : Nat) = 1 by decide), fun h => absurd h (show ¬ (0 : Nat) = 2 by decide)⟩
  | 1 => exact ⟨fun _ => ⟨Nat.le_of_ble_eq_true rfl, fun x => rfl⟩, fun h => absurd h (show ¬ (1 : Nat) = 2 by decide)⟩
  | 2 => exact ⟨fun _ => ⟨Nat.le_of_ble_eq_true rfl, fun x => rfl⟩, fun h => absurd h (show ¬ (1 : Nat) = 2 by decide)⟩
  | _ + 3 => exact ⟨fun h => absurd h (show ¬ (0 : Nat) = 1 by decide), fun h => absurd h (show ¬ (0 : Nat) = 2 by decide)⟩
theorem wC_g45 : wC_gd (fun r => .inr (.inr (6, [.ref 49, .int (r.1 1), .int (r.1 2)]))) := by
  refine ⟨fun r q h => (by cases h), fun r c h j => ?_⟩
  cases h
  match j with
  | 0 => exact ⟨fun h => absurd h (show ¬ (0 : Nat) = 1 by decide), fun h => absurd h (show ¬ (0 : Nat) = 2 by decide)⟩
  | 1 => exact ⟨fun _ => ⟨Nat.le_of_ble_eq_true rfl, fun x => rfl⟩, fun h => absurd h (show ¬ (1 : Nat) = 2 by decide)⟩
  | 2 => exact ⟨fun _ => ⟨Nat.le_of_ble_eq_true rfl, fun x => rfl⟩, fun h => absurd h (show ¬ (1 : Nat) = 2 by decide)⟩
  | _ + 3 => exact ⟨fun h => absurd h (show ¬ (0 : Nat) = 1 by decide), fun h => absurd h (show ¬ (0 : Nat) = 2 by decide)⟩
theorem wC_g46 : wC_gd (fun r => .inr (.inr (6, [.ref 50, .int (r.1 1), .int (r.1 2)]))) := by
  refine ⟨fun r q h => (by cases h), fun r c h j => ?_⟩
  cases h
  match j with
  | 0 => exact ⟨fun h => absurd h (show ¬ (0 : Nat) = 1 by decide), fun h => absurd h (show ¬ (0 : Nat) = 2 by decide)⟩
  | 1 => exact ⟨fun _ => ⟨Nat.le_of_ble_eq_true rfl, fun x => rfl⟩, fun h => absurd h (show ¬ (1 : Nat) = 2 by decide)⟩
  | 2 => exact ⟨fun _ => ⟨Nat.le_of_ble_eq_true rfl, fun x => rfl⟩, fun h => absurd h (show ¬ (1 : Nat) = 2 by decide)⟩
  | _ + 3 => exact ⟨fun h => absurd h (show ¬ (0 : Nat) = 1 by decide), fun h => absurd h (show ¬ (0 : Nat) = 2 by decide)⟩
theorem wC_gall : ∀ f ∈ wC_cs, wC_gd f := List.forall_mem_cons.mpr ⟨wC_g0, List.forall_mem_cons.mpr ⟨wC_g1, List.forall_mem_cons.mpr ⟨wC_ga _, List.forall_mem_cons.mpr ⟨wC_g3, List.forall_mem_cons.mpr ⟨wC_ga _, List.forall_mem_cons.mpr ⟨wC_g5, List.forall_mem_cons.mpr ⟨wC_ga _, List.forall_mem_cons.mpr ⟨wC_g7, List.forall_mem_cons.mpr ⟨wC_g8, List.forall_mem_cons.mpr ⟨wC_ga _, List.forall_mem_cons.mpr ⟨wC_ga _, List.forall_mem_cons.mpr ⟨wC_ga _, List.forall_mem_cons.mpr ⟨wC_ga _, List.forall_mem_cons.mpr ⟨wC_ga _, List.forall_mem_cons.mpr ⟨wC_g14, List.forall_mem_cons.mpr ⟨wC_ga _, List.forall_mem_cons.mpr ⟨wC_ga _, List.forall_mem_cons.mpr ⟨wC_g17, List.forall_mem_cons.mpr ⟨wC_g18, List.forall_mem_cons.mpr ⟨wC_g19, List.forall_mem_cons.mpr ⟨wC_ga _, List.forall_mem_cons.mpr ⟨wC_g21, List.forall_mem_cons.mpr ⟨wC_ga _, List.forall_mem_cons.mpr ⟨wC_ga _, List.forall_mem_cons.mpr ⟨wC_ga _, List.forall_mem_cons.mpr ⟨wC_ga _, List.forall_mem_cons.mpr ⟨wC_ga _, List.forall_mem_cons.mpr ⟨wC_ga _, List.forall_mem_cons.mpr ⟨wC_g28, List.forall_mem_cons.mpr ⟨wC_g29, List.forall_mem_cons.mpr ⟨wC_g30, List.forall_mem_cons.mpr ⟨wC_ga _, List.forall_mem_cons.mpr ⟨wC_ga _, List.forall_mem_cons.mpr ⟨wC_ga _, List.forall_mem_cons.mpr ⟨wC_g34, List.forall_mem_cons.mpr ⟨wC_g35, List.forall_mem_cons.mpr ⟨wC_ga _, List.forall_mem_cons.mpr ⟨wC_ga _, List.forall_mem_cons.mpr ⟨wC_g38, List.forall_mem_cons.mpr ⟨wC_g39, List.forall_mem_cons.mpr ⟨wC_ga _, List.forall_mem_cons.mpr ⟨wC_ga _, List.forall_mem_cons.mpr ⟨wC_gq _, List.forall_mem_cons.mpr ⟨wC_g43, List.forall_mem_cons.mpr ⟨wC_g44, List.forall_mem_cons.mpr ⟨wC_g45, List.forall_mem_cons.mpr ⟨wC_g46, List.forall_mem_cons.mpr ⟨wC_ga _, List.forall_mem_cons.mpr ⟨wC_ga _, List.forall_mem_cons.mpr ⟨wC_ga _, List.forall_mem_cons.mpr ⟨wC_ga _, List.forall_mem_cons.mpr ⟨wC_ga _, List.forall_mem_cons.mpr ⟨wC_ga _, fun _ h => absurd h List.not_mem_nil⟩⟩⟩⟩⟩⟩⟩⟩⟩⟩⟩⟩⟩⟩⟩⟩⟩⟩⟩⟩⟩⟩⟩⟩⟩⟩⟩⟩⟩⟩⟩⟩⟩⟩⟩⟩⟩⟩⟩⟩⟩⟩⟩⟩⟩⟩⟩⟩⟩⟩⟩⟩⟩
theorem wC_wf : qw_wf wC := ⟨fun k => (qw_nth_all (wC_ga _) k wC_gall).1, fun k => (qw_nth_all (wC_ga _) k wC_gall).2⟩
def wM_cs : List (qw_R → qw_E) := [
  fun r => .inr (.inr (12, [.ref 1, .ref 2, .ref 3, .ref 4, .int (r.1 4), .ref 5, .ref 6, .int (r.1 7), .ref 7, .ref 8, .ref 9, .ref 10, .ref 11, .int (r.1 13), .int (r.1 14), .ref 12, .ref 13, .ref 14, .ref 15, .ref 16, .int (r.1 20), .int (r.1 21), .int (r.1 22), .ref 17, .ref 18, .int (r.1 25)])),
  fun _ => .inl (0, 4),
  fun _ => .inl (0, 4),
  fun _ => .inl (0, 240),
  fun _ => .inl (0, 60),
  fun _ => .inl (0, 264),
  fun _ => .inl (0, 3),
  fun _ => .inl (0, 32),
  fun _ => .inl (0, 8),
  fun _ => .inl (0, 20),
  fun _ => .inl (0, 20),
  fun _ => .inl (0, 32),
  fun _ => .inl (0, 8),
  fun _ => .inl (0, 160),
  fun _ => .inl (0, 160),
  fun _ => .inl (0, 8),
  fun _ => .inl (0, 8),
  fun _ => .inl (0, 24),
  fun _ => .inl (0, 256)]
def wM_cf (k : Nat) : qw_R → qw_E := qw_nth wM_cs k (fun _ => .inl (9, 0))
def wM : qw_Wd := (qc_cl, 19, wM_cf, 3, fun t => (match t with | 0 => FieldType.int | 1 => .byte | _ => .object "ShadowTheatre$Sheet"), 0, fun k => (fun j => qw_nth (qw_nth [] (k - 19) []) j 0, fun _ => 0), [], qc_kd, qc_nst, 0, [])
theorem wM_tok : qw_tok wM := ⟨rfl, rfl, ⟨_, rfl⟩, by decide, rfl⟩
def wM_gd (f : qw_R → qw_E) : Prop := (∀ r q, f r = .inl q → ∀ r', f r' = .inl q) ∧ (∀ r c, f r = .inr (.inr c) → ∀ j, (qc_kd c.1 j = 1 → j < c.2.length ∧ ∀ x, f (upd r.1 j x, r.2) = .inr (.inr (c.1, c.2.set j (.int x)))) ∧ (qc_kd c.1 j = 2 → j < c.2.length ∧ ∀ x, f (r.1, vp_updL r.2 j x) = .inr (.inr (c.1, c.2.set j (.long x)))))
theorem wM_ga (q : Nat × Nat) : wM_gd (fun _ => .inl q) := ⟨fun r q2 h r' => h, fun r c h => (by cases h)⟩
theorem wM_gq (q : Nat × Nat × (Nat → Option Nat)) : wM_gd (fun _ => .inr (.inl q)) := ⟨fun r q2 h => (by cases h), fun r c h => (by cases h)⟩
theorem wM_g0 : wM_gd (fun r => .inr (.inr (12, [.ref 1, .ref 2, .ref 3, .ref 4, .int (r.1 4), .ref 5, .ref 6, .int (r.1 7), .ref 7, .ref 8, .ref 9, .ref 10, .ref 11, .int (r.1 13), .int (r.1 14), .ref 12, .ref 13, .ref 14, .ref 15, .ref 16, .int (r.1 20), .int (r.1 21), .int (r.1 22), .ref 17, .ref 18, .int (r.1 25)]))) := by
  refine ⟨fun r q h => (by cases h), fun r c h j => ?_⟩
  cases h
  match j with
  | 0 => exact ⟨fun h => absurd h (show ¬ (0 : Nat) = 1 by decide), fun h => absurd h (show ¬ (0 : Nat) = 2 by decide)⟩
  | 1 => exact ⟨fun h => absurd h (show ¬ (0 : Nat) = 1 by decide), fun h => absurd h (show ¬ (0 : Nat) = 2 by decide)⟩
  | 2 => exact ⟨fun h => absurd h (show ¬ (0 : Nat) = 1 by decide), fun h => absurd h (show ¬ (0 : Nat) = 2 by decide)⟩
  | 3 => exact ⟨fun h => absurd h (show ¬ (0 : Nat) = 1 by decide), fun h => absurd h (show ¬ (0 : Nat) = 2 by decide)⟩
  | 4 => exact ⟨fun _ => ⟨Nat.le_of_ble_eq_true rfl, fun x => rfl⟩, fun h => absurd h (show ¬ (1 : Nat) = 2 by decide)⟩
  | 5 => exact ⟨fun h => absurd h (show ¬ (0 : Nat) = 1 by decide), fun h => absurd h (show ¬ (0 : Nat) = 2 by decide)⟩
  | 6 => exact ⟨fun h => absurd h (show ¬ (0 : Nat) = 1 by decide), fun h => absurd h (show ¬ (0 : Nat) = 2 by decide)⟩
  | 7 => exact ⟨fun _ => ⟨Nat.le_of_ble_eq_true rfl, fun x => rfl⟩, fun h => absurd h (show ¬ (1 : Nat) = 2 by decide)⟩
  | 8 => exact ⟨fun h => absurd h (show ¬ (0 : Nat) = 1 by decide), fun h => absurd h (show ¬ (0 : Nat) = 2 by decide)⟩
  | 9 => exact ⟨fun h => absurd h (show ¬ (0 : Nat) = 1 by decide), fun h => absurd h (show ¬ (0 : Nat) = 2 by decide)⟩
  | 10 => exact ⟨fun h => absurd h (show ¬ (0 : Nat) = 1 by decide), fun h => absurd h (show ¬ (0 : Nat) = 2 by decide)⟩
  | 11 => exact ⟨fun h => absurd h (show ¬ (0 : Nat) = 1 by decide), fun h => absurd h (show ¬ (0 : Nat) = 2 by decide)⟩
  | 12 => exact ⟨fun h => absurd h (show ¬ (0 : Nat) = 1 by decide), fun h => absurd h (show ¬ (0 : Nat) = 2 by decide)⟩
  | 13 => exact ⟨fun _ => ⟨Nat.le_of_ble_eq_true rfl, fun x => rfl⟩, fun h => absurd h (show ¬ (1 : Nat) = 2 by decide)⟩
  | 14 => exact ⟨fun _ => ⟨Nat.le_of_ble_eq_true rfl, fun x => rfl⟩, fun h => absurd h (show ¬ (1 : Nat) = 2 by decide)⟩
  | 15 => exact ⟨fun h => absurd h (show ¬ (0 : Nat) = 1 by decide), fun h => absurd h (show ¬ (0 : Nat) = 2 by decide)⟩
  | 16 => exact ⟨fun h => absurd h (show ¬ (0 : Nat) = 1 by decide), fun h => absurd h (show ¬ (0 : Nat) = 2 by decide)⟩
  | 17 => exact ⟨fun h => absurd h (show ¬ (0 : Nat) = 1 by decide), fun h => absurd h (show ¬ (0 : Nat) = 2 by decide)⟩
  | 18 => exact ⟨fun h => absurd h (show ¬ (0 : Nat) = 1 by decide), fun h => absurd h (show ¬ (0 : Nat) = 2 by decide)⟩
  | 19 => exact ⟨fun h => absurd h (show ¬ (0 : Nat) = 1 by decide), fun h => absurd h (show ¬ (0 : Nat) = 2 by decide)⟩
  | 20 => exact ⟨fun _ => ⟨Nat.le_of_ble_eq_true rfl, fun x => rfl⟩, fun h => absurd h (show ¬ (1 : Nat) = 2 by decide)⟩
  | 21 => exact ⟨fun _ => ⟨Nat.le_of_ble_eq_true rfl, fun x => rfl⟩, fun h => absurd h (show ¬ (1 : Nat) = 2 by decide)⟩
  | 22 => exact ⟨fun _ => ⟨Nat.le_of_ble_eq_true rfl, fun x => rfl⟩, fun h => absurd h (show ¬ (1 : Nat) = 2 by decide)⟩
  | 23 => exact ⟨fun h => absurd h (show ¬ (0 : Nat) = 1 by decide), fun h => absurd h (show ¬ (0 : Nat) = 2 by decide)⟩
  | 24 => exact ⟨fun h => absurd h (show ¬ (0 : Nat) = 1 by decide), fun h => absurd h (show ¬ (0 : Nat) = 2 by decide)⟩
  | 25 => exact ⟨fun _ => ⟨Nat.le_of_ble_eq_true rfl, fun x => rfl⟩, fun h => absurd h (show ¬ (1 : Nat) = 2 by decide)⟩
  | _ + 26 => exact ⟨fun h => absurd h (show ¬ (0 : Nat) = 1 by decide), fun h => absurd h (show ¬ (0 : Nat) = 2 by decide)⟩
theorem wM_gall : ∀ f ∈ wM_cs, wM_gd f := List.forall_mem_cons.mpr ⟨wM_g0, List.forall_mem_cons.mpr ⟨wM_ga _, List.forall_mem_cons.mpr ⟨wM_ga _, List.forall_mem_cons.mpr ⟨wM_ga _, List.forall_mem_cons.mpr ⟨wM_ga _, List.forall_mem_cons.mpr ⟨wM_ga _, List.forall_mem_cons.mpr ⟨wM_ga _, List.forall_mem_cons.mpr ⟨wM_ga _, List.forall_mem_cons.mpr ⟨wM_ga _, List.forall_mem_cons.mpr ⟨wM_ga _, List.forall_mem_cons.mpr ⟨wM_ga _, List.forall_mem_cons.mpr ⟨wM_ga _, List.forall_mem_cons.mpr ⟨wM_ga _, List.forall_mem_cons.mpr ⟨wM_ga _, List.forall_mem_cons.mpr ⟨wM_ga _, List.forall_mem_cons.mpr ⟨wM_ga _, List.forall_mem_cons.mpr ⟨wM_ga _, List.forall_mem_cons.mpr ⟨wM_ga _, List.forall_mem_cons.mpr ⟨wM_ga _, fun _ h => absurd h List.not_mem_nil⟩⟩⟩⟩⟩⟩⟩⟩⟩⟩⟩⟩⟩⟩⟩⟩⟩⟩⟩
theorem wM_wf : qw_wf wM := ⟨fun k => (qw_nth_all (wM_ga _) k wM_gall).1, fun k => (qw_nth_all (wM_ga _) k wM_gall).2⟩
theorem qc_cok : ∀ ci q, qc_cl[ci]? = some q → (∃ ty0 : Nat → FieldType, ∀ k, k < q.2.2 → parseFieldDescriptor (q.2.1 k).2.2.1 = some (ty0 k)) ∧ (∀ a, a < q.2.2 → ∀ b, b < q.2.2 → a ≠ b → (q.2.1 a).2.1 ≠ (q.2.1 b).2.1) ∧ (∀ x ∈ u_ws q.1 q.2.1 q.2.2, x ∈ qw_tw) ∧
  ∀ j, (qc_kd ci j = 1 → j < q.2.2 ∧ parseFieldDescriptor (q.2.1 j).2.2.1 = some .int ∧ (q.2.1 j).2.2.2 = false) ∧ (qc_kd ci j = 2 → j < q.2.2 ∧ parseFieldDescriptor (q.2.1 j).2.2.1 = some .long ∧ (q.2.1 j).2.2.2 = false) := by
  intro ci q h
  match ci with
  | 0 =>
    cases h
    refine ⟨⟨qu_0, qu_0_ok⟩, qn_0_ok, qv_0_ok, fun j => ?_⟩
    match j with
    | 0 => exact ⟨fun h => absurd h (show ¬ (0 : Nat) = 1 by decide), fun h => absurd h (show ¬ (0 : Nat) = 2 by decide)⟩
    | 1 => exact ⟨fun h => absurd h (show ¬ (0 : Nat) = 1 by decide), fun h => absurd h (show ¬ (0 : Nat) = 2 by decide)⟩
    | 2 => exact ⟨fun h => absurd h (show ¬ (2 : Nat) = 1 by decide), fun _ => ⟨by decide, by decide +kernel, rfl⟩⟩
    | 3 => exact ⟨fun h => absurd h (show ¬ (2 : Nat) = 1 by decide), fun _ => ⟨by decide, by decide +kernel, rfl⟩⟩
    | _ + 4 => exact ⟨fun h => absurd h (show ¬ (0 : Nat) = 1 by decide), fun h => absurd h (show ¬ (0 : Nat) = 2 by decide)⟩
  | 1 =>
    cases h
    refine ⟨⟨qu_1, qu_1_ok⟩, qn_1_ok, qv_1_ok, fun j => ?_⟩
    match j with
    | 0 => exact ⟨fun h => absurd h (show ¬ (0 : Nat) = 1 by decide), fun h => absurd h (show ¬ (0 : Nat) = 2 by decide)⟩
    | 1 => exact ⟨fun h => absurd h (show ¬ (0 : Nat) = 1 by decide), fun h => absurd h (show ¬ (0 : Nat) = 2 by decide)⟩
    | 2 => exact ⟨fun _ => ⟨by decide, by decide +kernel, rfl⟩, fun h => absurd h (show ¬ (1 : Nat) = 2 by decide)⟩
    | 3 => exact ⟨fun _ => ⟨by decide, by decide +kernel, rfl⟩, fun h => absurd h (show ¬ (1 : Nat) = 2 by decide)⟩
    | _ + 4 => exact ⟨fun h => absurd h (show ¬ (0 : Nat) = 1 by decide), fun h => absurd h (show ¬ (0 : Nat) = 2 by decide)⟩
  | 2 =>
    cases h
    refine ⟨⟨qu_2, qu_2_ok⟩, qn_2_ok, qv_2_ok, fun j => ?_⟩
    match j with
    | 0 => exact ⟨fun _ => ⟨by decide, by decide +kernel, rfl⟩, fun h => absurd h (show ¬ (1 : Nat) = 2 by decide)⟩
    | 1 => exact ⟨fun _ => ⟨by decide, by decide +kernel, rfl⟩, fun h => absurd h (show ¬ (1 : Nat) = 2 by decide)⟩
    | 2 => exact ⟨fun _ => ⟨by decide, by decide +kernel, rfl⟩, fun h => absurd h (show ¬ (1 : Nat) = 2 by decide)⟩
    | _ + 3 => exact ⟨fun h => absurd h (show ¬ (0 : Nat) = 1 by decide), fun h => absurd h (show ¬ (0 : Nat) = 2 by decide)⟩
  | 3 =>
    cases h
    refine ⟨⟨qu_3, qu_3_ok⟩, qn_3_ok, qv_3_ok, fun j => ?_⟩
    match j with
    | 0 => exact ⟨fun h => absurd h (show ¬ (0 : Nat) = 1 by decide), fun h => absurd h (show ¬ (0 : Nat) = 2 by decide)⟩
    | 1 => exact ⟨fun _ => ⟨by decide, by decide +kernel, rfl⟩, fun h => absurd h (show ¬ (1 : Nat) = 2 by decide)⟩
    | 2 => exact ⟨fun _ => ⟨by decide, by decide +kernel, rfl⟩, fun h => absurd h (show ¬ (1 : Nat) = 2 by decide)⟩
    | _ + 3 => exact ⟨fun h => absurd h (show ¬ (0 : Nat) = 1 by decide), fun h => absurd h (show ¬ (0 : Nat) = 2 by decide)⟩
  | 4 =>
    cases h
    refine ⟨⟨qu_4, qu_4_ok⟩, qn_4_ok, qv_4_ok, fun j => ?_⟩
    match j with
    | 0 => exact ⟨fun h => absurd h (show ¬ (0 : Nat) = 1 by decide), fun h => absurd h (show ¬ (0 : Nat) = 2 by decide)⟩
    | 1 => exact ⟨fun h => absurd h (show ¬ (0 : Nat) = 1 by decide), fun h => absurd h (show ¬ (0 : Nat) = 2 by decide)⟩
    | 2 => exact ⟨fun h => absurd h (show ¬ (0 : Nat) = 1 by decide), fun h => absurd h (show ¬ (0 : Nat) = 2 by decide)⟩
    | 3 => exact ⟨fun h => absurd h (show ¬ (0 : Nat) = 1 by decide), fun h => absurd h (show ¬ (0 : Nat) = 2 by decide)⟩
    | 4 => exact ⟨fun h => absurd h (show ¬ (0 : Nat) = 1 by decide), fun h => absurd h (show ¬ (0 : Nat) = 2 by decide)⟩
    | 5 => exact ⟨fun h => absurd h (show ¬ (0 : Nat) = 1 by decide), fun h => absurd h (show ¬ (0 : Nat) = 2 by decide)⟩
    | _ + 6 => exact ⟨fun h => absurd h (show ¬ (0 : Nat) = 1 by decide), fun h => absurd h (show ¬ (0 : Nat) = 2 by decide)⟩
  | 5 =>
    cases h
    refine ⟨⟨qu_5, qu_5_ok⟩, qn_5_ok, qv_5_ok, fun j => ?_⟩
    match j with
    | 0 => exact ⟨fun h => absurd h (show ¬ (0 : Nat) = 1 by decide), fun h => absurd h (show ¬ (0 : Nat) = 2 by decide)⟩
    | 1 => exact ⟨fun _ => ⟨by decide, by decide +kernel, rfl⟩, fun h => absurd h (show ¬ (1 : Nat) = 2 by decide)⟩
    | _ + 2 => exact ⟨fun h => absurd h (show ¬ (0 : Nat) = 1 by decide), fun h => absurd h (show ¬ (0 : Nat) = 2 by decide)⟩
  | 6 =>
    cases h
    refine ⟨⟨qu_6, qu_6_ok⟩, qn_6_ok, qv_6_ok, fun j => ?_⟩
    match j with
    | 0 => exact ⟨fun h => absurd h (show ¬ (0 : Nat) = 1 by decide), fun h => absurd h (show ¬ (0 : Nat) = 2 by decide)⟩
    | 1 => exact ⟨fun _ => ⟨by decide, by decide +kernel, rfl⟩, fun h => absurd h (show ¬ (1 : Nat) = 2 by decide)⟩
    | 2 => exact ⟨fun _ => ⟨by decide, by decide +kernel, rfl⟩, fun h => absurd h (show ¬ (1 : Nat) = 2 by decide)⟩
    | _ + 3 => exact ⟨fun h => absurd h (show ¬ (0 : Nat) = 1 by decide), fun h => absurd h (show ¬ (0 : Nat) = 2 by decide)⟩
  | 7 =>
    cases h
    refine ⟨⟨qu_7, qu_7_ok⟩, qn_7_ok, qv_7_ok, fun j => ?_⟩
    match j with
    | 0 => exact ⟨fun h => absurd h (show ¬ (0 : Nat) = 1 by decide), fun h => absurd h (show ¬ (0 : Nat) = 2 by decide)⟩
    | 1 => exact ⟨fun h => absurd h (show ¬ (0 : Nat) = 1 by decide), fun h => absurd h (show ¬ (0 : Nat) = 2 by decide)⟩
    | 2 => exact ⟨fun h => absurd h (show ¬ (0 : Nat) = 1 by decide), fun h => absurd h (show ¬ (0 : Nat) = 2 by decide)⟩
    | 3 => exact ⟨fun h => absurd h (show ¬ (0 : Nat) = 1 by decide), fun h => absurd h (show ¬ (0 : Nat) = 2 by decide)⟩
    | 4 => exact ⟨fun h => absurd h (show ¬ (0 : Nat) = 1 by decide), fun h => absurd h (show ¬ (0 : Nat) = 2 by decide)⟩
    | 5 => exact ⟨fun _ => ⟨by decide, by decide +kernel, rfl⟩, fun h => absurd h (show ¬ (1 : Nat) = 2 by decide)⟩
    | _ + 6 => exact ⟨fun h => absurd h (show ¬ (0 : Nat) = 1 by decide), fun h => absurd h (show ¬ (0 : Nat) = 2 by decide)⟩
  | 8 =>
    cases h
    refine ⟨⟨qu_8, qu_8_ok⟩, qn_8_ok, qv_8_ok, fun j => ?_⟩
    match j with
    | 0 => exact ⟨fun h => absurd h (show ¬ (0 : Nat) = 1 by decide), fun h => absurd h (show ¬ (0 : Nat) = 2 by decide)⟩
    | 1 => exact ⟨fun h => absurd h (show ¬ (0 : Nat) = 1 by decide), fun h => absurd h (show ¬ (0 : Nat) = 2 by decide)⟩
    | 2 => exact ⟨fun h => absurd h (show ¬ (0 : Nat) = 1 by decide), fun h => absurd h (show ¬ (0 : Nat) = 2 by decide)⟩
    | 3 => exact ⟨fun h => absurd h (show ¬ (0 : Nat) = 1 by decide), fun h => absurd h (show ¬ (0 : Nat) = 2 by decide)⟩
    | 4 => exact ⟨fun h => absurd h (show ¬ (0 : Nat) = 1 by decide), fun h => absurd h (show ¬ (0 : Nat) = 2 by decide)⟩
    | 5 => exact ⟨fun h => absurd h (show ¬ (0 : Nat) = 1 by decide), fun h => absurd h (show ¬ (0 : Nat) = 2 by decide)⟩
    | 6 => exact ⟨fun h => absurd h (show ¬ (0 : Nat) = 1 by decide), fun h => absurd h (show ¬ (0 : Nat) = 2 by decide)⟩
    | 7 => exact ⟨fun h => absurd h (show ¬ (0 : Nat) = 1 by decide), fun h => absurd h (show ¬ (0 : Nat) = 2 by decide)⟩
    | 8 => exact ⟨fun _ => ⟨by decide, by decide +kernel, rfl⟩, fun h => absurd h (show ¬ (1 : Nat) = 2 by decide)⟩
    | _ + 9 => exact ⟨fun h => absurd h (show ¬ (0 : Nat) = 1 by decide), fun h => absurd h (show ¬ (0 : Nat) = 2 by decide)⟩
  | 9 =>
    cases h
    refine ⟨⟨qu_9, qu_9_ok⟩, qn_9_ok, qv_9_ok, fun j => ?_⟩
    match j with
    | 0 => exact ⟨fun h => absurd h (show ¬ (0 : Nat) = 1 by decide), fun h => absurd h (show ¬ (0 : Nat) = 2 by decide)⟩
    | 1 => exact ⟨fun h => absurd h (show ¬ (0 : Nat) = 1 by decide), fun h => absurd h (show ¬ (0 : Nat) = 2 by decide)⟩
    | 2 => exact ⟨fun h => absurd h (show ¬ (0 : Nat) = 1 by decide), fun h => absurd h (show ¬ (0 : Nat) = 2 by decide)⟩
    | 3 => exact ⟨fun h => absurd h (show ¬ (0 : Nat) = 1 by decide), fun h => absurd h (show ¬ (0 : Nat) = 2 by decide)⟩
    | 4 => exact ⟨fun h => absurd h (show ¬ (0 : Nat) = 1 by decide), fun h => absurd h (show ¬ (0 : Nat) = 2 by decide)⟩
    | 5 => exact ⟨fun _ => ⟨by decide, by decide +kernel, rfl⟩, fun h => absurd h (show ¬ (1 : Nat) = 2 by decide)⟩
    | 6 => exact ⟨fun _ => ⟨by decide, by decide +kernel, rfl⟩, fun h => absurd h (show ¬ (1 : Nat) = 2 by decide)⟩
    | _ + 7 => exact ⟨fun h => absurd h (show ¬ (0 : Nat) = 1 by decide), fun h => absurd h (show ¬ (0 : Nat) = 2 by decide)⟩
  | 10 =>
    cases h
    refine ⟨⟨qu_10, qu_10_ok⟩, qn_10_ok, qv_10_ok, fun j => ?_⟩
    match j with
    | 0 => exact ⟨fun h => absurd h (show ¬ (0 : Nat) = 1 by decide), fun h => absurd h (show ¬ (0 : Nat) = 2 by decide)⟩
    | 1 => exact ⟨fun h => absurd h (show ¬ (0 : Nat) = 1 by decide), fun h => absurd h (show ¬ (0 : Nat) = 2 by decide)⟩
    | 2 => exact ⟨fun h => absurd h (show ¬ (0 : Nat) = 1 by decide), fun h => absurd h (show ¬ (0 : Nat) = 2 by decide)⟩
    | 3 => exact ⟨fun h => absurd h (show ¬ (0 : Nat) = 1 by decide), fun h => absurd h (show ¬ (0 : Nat) = 2 by decide)⟩
    | _ + 4 => exact ⟨fun h => absurd h (show ¬ (0 : Nat) = 1 by decide), fun h => absurd h (show ¬ (0 : Nat) = 2 by decide)⟩
  | 11 =>
    cases h
    refine ⟨⟨qu_11, qu_11_ok⟩, qn_11_ok, qv_11_ok, fun j => ?_⟩
    match j with
    | 0 => exact ⟨fun h => absurd h (show ¬ (0 : Nat) = 1 by decide), fun h => absurd h (show ¬ (0 : Nat) = 2 by decide)⟩
    | 1 => exact ⟨fun h => absurd h (show ¬ (0 : Nat) = 1 by decide), fun h => absurd h (show ¬ (0 : Nat) = 2 by decide)⟩
    | 2 => exact ⟨fun h => absurd h (show ¬ (0 : Nat) = 1 by decide), fun h => absurd h (show ¬ (0 : Nat) = 2 by decide)⟩
    | 3 => exact ⟨fun h => absurd h (show ¬ (0 : Nat) = 1 by decide), fun h => absurd h (show ¬ (0 : Nat) = 2 by decide)⟩
    | 4 => exact ⟨fun h => absurd h (show ¬ (0 : Nat) = 1 by decide), fun h => absurd h (show ¬ (0 : Nat) = 2 by decide)⟩
    | 5 => exact ⟨fun h => absurd h (show ¬ (0 : Nat) = 1 by decide), fun h => absurd h (show ¬ (0 : Nat) = 2 by decide)⟩
    | 6 => exact ⟨fun h => absurd h (show ¬ (0 : Nat) = 1 by decide), fun h => absurd h (show ¬ (0 : Nat) = 2 by decide)⟩
    | 7 => exact ⟨fun h => absurd h (show ¬ (0 : Nat) = 1 by decide), fun h => absurd h (show ¬ (0 : Nat) = 2 by decide)⟩
    | 8 => exact ⟨fun _ => ⟨by decide, by decide +kernel, rfl⟩, fun h => absurd h (show ¬ (1 : Nat) = 2 by decide)⟩
    | _ + 9 => exact ⟨fun h => absurd h (show ¬ (0 : Nat) = 1 by decide), fun h => absurd h (show ¬ (0 : Nat) = 2 by decide)⟩
  | 12 =>
    cases h
    refine ⟨⟨qu_12, qu_12_ok⟩, qn_12_ok, qv_12_ok, fun j => ?_⟩
    match j with
    | 0 => exact ⟨fun h => absurd h (show ¬ (0 : Nat) = 1 by decide), fun h => absurd h (show ¬ (0 : Nat) = 2 by decide)⟩
    | 1 => exact ⟨fun h => absurd h (show ¬ (0 : Nat) = 1 by decide), fun h => absurd h (show ¬ (0 : Nat) = 2 by decide)⟩
    | 2 => exact ⟨fun h => absurd h (show ¬ (0 : Nat) = 1 by decide), fun h => absurd h (show ¬ (0 : Nat) = 2 by decide)⟩
    | 3 => exact ⟨fun h => absurd h (show ¬ (0 : Nat) = 1 by decide), fun h => absurd h (show ¬ (0 : Nat) = 2 by decide)⟩
    | 4 => exact ⟨fun _ => ⟨by decide, by decide +kernel, rfl⟩, fun h => absurd h (show ¬ (1 : Nat) = 2 by decide)⟩
    | 5 => exact ⟨fun h => absurd h (show ¬ (0 : Nat) = 1 by decide), fun h => absurd h (show ¬ (0 : Nat) = 2 by decide)⟩
    | 6 => exact ⟨fun h => absurd h (show ¬ (0 : Nat) = 1 by decide), fun h => absurd h (show ¬ (0 : Nat) = 2 by decide)⟩
    | 7 => exact ⟨fun _ => ⟨by decide, by decide +kernel, rfl⟩, fun h => absurd h (show ¬ (1 : Nat) = 2 by decide)⟩
    | 8 => exact ⟨fun h => absurd h (show ¬ (0 : Nat) = 1 by decide), fun h => absurd h (show ¬ (0 : Nat) = 2 by decide)⟩
    | 9 => exact ⟨fun h => absurd h (show ¬ (0 : Nat) = 1 by decide), fun h => absurd h (show ¬ (0 : Nat) = 2 by decide)⟩
    | 10 => exact ⟨fun h => absurd h (show ¬ (0 : Nat) = 1 by decide), fun h => absurd h (show ¬ (0 : Nat) = 2 by decide)⟩
    | 11 => exact ⟨fun h => absurd h (show ¬ (0 : Nat) = 1 by decide), fun h => absurd h (show ¬ (0 : Nat) = 2 by decide)⟩
    | 12 => exact ⟨fun h => absurd h (show ¬ (0 : Nat) = 1 by decide), fun h => absurd h (show ¬ (0 : Nat) = 2 by decide)⟩
    | 13 => exact ⟨fun _ => ⟨by decide, by decide +kernel, rfl⟩, fun h => absurd h (show ¬ (1 : Nat) = 2 by decide)⟩
    | 14 => exact ⟨fun _ => ⟨by decide, by decide +kernel, rfl⟩, fun h => absurd h (show ¬ (1 : Nat) = 2 by decide)⟩
    | 15 => exact ⟨fun h => absurd h (show ¬ (0 : Nat) = 1 by decide), fun h => absurd h (show ¬ (0 : Nat) = 2 by decide)⟩
    | 16 => exact ⟨fun h => absurd h (show ¬ (0 : Nat) = 1 by decide), fun h => absurd h (show ¬ (0 : Nat) = 2 by decide)⟩
    | 17 => exact ⟨fun h => absurd h (show ¬ (0 : Nat) = 1 by decide), fun h => absurd h (show ¬ (0 : Nat) = 2 by decide)⟩
    | 18 => exact ⟨fun h => absurd h (show ¬ (0 : Nat) = 1 by decide), fun h => absurd h (show ¬ (0 : Nat) = 2 by decide)⟩
    | 19 => exact ⟨fun h => absurd h (show ¬ (0 : Nat) = 1 by decide), fun h => absurd h (show ¬ (0 : Nat) = 2 by decide)⟩
    | 20 => exact ⟨fun _ => ⟨by decide, by decide +kernel, rfl⟩, fun h => absurd h (show ¬ (1 : Nat) = 2 by decide)⟩
    | 21 => exact ⟨fun _ => ⟨by decide, by decide +kernel, rfl⟩, fun h => absurd h (show ¬ (1 : Nat) = 2 by decide)⟩
    | 22 => exact ⟨fun _ => ⟨by decide, by decide +kernel, rfl⟩, fun h => absurd h (show ¬ (1 : Nat) = 2 by decide)⟩
    | 23 => exact ⟨fun h => absurd h (show ¬ (0 : Nat) = 1 by decide), fun h => absurd h (show ¬ (0 : Nat) = 2 by decide)⟩
    | 24 => exact ⟨fun h => absurd h (show ¬ (0 : Nat) = 1 by decide), fun h => absurd h (show ¬ (0 : Nat) = 2 by decide)⟩
    | 25 => exact ⟨fun _ => ⟨by decide, by decide +kernel, rfl⟩, fun h => absurd h (show ¬ (1 : Nat) = 2 by decide)⟩
    | _ + 26 => exact ⟨fun h => absurd h (show ¬ (0 : Nat) = 1 by decide), fun h => absurd h (show ¬ (0 : Nat) = 2 by decide)⟩
  | _ + 13 => cases h
theorem wC_cok : qw_cok qw_tw wC := qc_cok
theorem wM_cok : qw_cok qw_tw wM := qc_cok
def qk_0 : qw_K := ("ShadowTheatre$Chance", [(12, 0, 1), (18, 0, 3), (22, 0, 0), (36, 0, 2), (55, 7, 0), (61, 7, 1), (80, 7, 4), (106, 8, 7), (119, 9, 5)], [(26, none, my_J9_min), (32, some 0, my_X0_looseSteps), (39, none, my_J6_bitCount), (44, none, my_X0_power), (48, some 0, my_X0_waysShown), (52, some 0, my_X0_lowerTerms), (64, some 1, my_X1_figureOf), (67, some 9, my_X9_has), (73, some 7, my_X7_open), (76, some 7, my_X7_doCues), (84, some 7, my_X7_isOut), (87, some 8, my_X8_shine), (93, some 7, my_X7_isShownNow), (99, some 0, my_X0_draw), (102, some 7, my_X7_shownSteps), (110, some 2, my_X2_dark), (116, some 1, my_X1_clear), (123, none, my_X0_next), (126, some 1, my_X1_add)], [(129, 1103515245)], [(97, 2)], [], [], 0, [])
theorem qk_0_1wC : ∀ j q, qw_lk (qw_kf qk_0) j = some q → ∃ c, (qw_cl wC)[q.1]? = some c ∧ q.2 < c.2.2 ∧ (Cond.fieldLink (qw_kn qk_0) j (c.2.1 q.2).1 (c.2.1 q.2).2.1 (c.2.1 q.2).2.2.1 ∈ qw_tw ∨ ∃ host, (qw_kn qk_0, j, (c.2.1 q.2).1, (c.2.1 q.2).2.1, (c.2.1 q.2).2.2.1, host) ∈ qw_nst wC) :=
  qw_all (List.forall_mem_cons.mpr ⟨⟨_, rfl, by decide, Or.inl tz_365⟩, List.forall_mem_cons.mpr ⟨⟨_, rfl, by decide, Or.inl tz_368⟩, List.forall_mem_cons.mpr ⟨⟨_, rfl, by decide, Or.inl tz_364⟩, List.forall_mem_cons.mpr ⟨⟨_, rfl, by decide, Or.inl tz_366⟩, List.forall_mem_cons.mpr ⟨⟨_, rfl, by decide, Or.inr ⟨_, List.mem_of_getElem? (i := 29) rfl⟩⟩, List.forall_mem_cons.mpr ⟨⟨_, rfl, by decide, Or.inr ⟨_, List.mem_of_getElem? (i := 32) rfl⟩⟩, List.forall_mem_cons.mpr ⟨⟨_, rfl, by decide, Or.inr ⟨_, List.mem_of_getElem? (i := 40) rfl⟩⟩, List.forall_mem_cons.mpr ⟨⟨_, rfl, by decide, Or.inr ⟨_, List.mem_of_getElem? (i := 26) rfl⟩⟩, List.forall_mem_cons.mpr ⟨⟨_, rfl, by decide, Or.inr ⟨_, List.mem_of_getElem? (i := 12) rfl⟩⟩, fun _ h => absurd h List.not_mem_nil⟩⟩⟩⟩⟩⟩⟩⟩⟩)
theorem qk_0_2wC : ∀ j q, qw_lk (qw_kc qk_0) j = some q → qw_yc q.2 ∈ qw_tw ∧ Cond.methodLink (qw_kn qk_0) j (qw_yn q.2) ∈ qw_tw ∧ Cond.initialized (qw_yn q.2).cls ∈ qw_tw ∧ ((qw_yn q.2).cls ≠ "java/lang/invoke/MethodHandle" ∧ (qw_yn q.2).cls ≠ "java/lang/invoke/VarHandle" ∧ (parseMethodDescriptor (qw_yn q.2).desc).map (fun d => d.parameters.length) = some (qw_yp q.2)) ∧
    (q.1 = none → Cond.static (qw_yn q.2) ∈ qw_tw) ∧ (∀ ci, q.1 = some ci → Cond.instanceMethod (qw_yn q.2) ∈ qw_tw ∧ Cond.selects (qw_yn q.2).cls (qw_yn q.2) (qw_yn q.2) ∈ qw_tw ∧ ((ci = 13 ∧ (qw_yn q.2).cls = "java/lang/String") ∨ ∃ c, (qw_cl wC)[ci]? = some c ∧ c.1 = (qw_yn q.2).cls)) :=
  qw_all (List.forall_mem_cons.mpr ⟨⟨tz_498, tz_980, tz_76, by decide +kernel, fun _ => tz_497, fun _ h => (by cases h)⟩, List.forall_mem_cons.mpr ⟨⟨tz_984, tz_981, tz_85, by decide +kernel, fun h => (by cases h), fun ci h => (by cases h; exact ⟨tz_983, tz_16, Or.inr ⟨_, rfl, rfl⟩⟩)⟩, List.forall_mem_cons.mpr ⟨⟨tz_750, tz_987, tz_93, by decide +kernel, fun _ => tz_749, fun _ h => (by cases h)⟩, List.forall_mem_cons.mpr ⟨⟨tz_990, tz_988, tz_85, by decide +kernel, fun _ => tz_989, fun _ h => (by cases h)⟩, List.forall_mem_cons.mpr ⟨⟨tz_994, tz_991, tz_85, by decide +kernel, fun h => (by cases h), fun ci h => (by cases h; exact ⟨tz_993, tz_17, Or.inr ⟨_, rfl, rfl⟩⟩)⟩, List.forall_mem_cons.mpr ⟨⟨tz_1003, tz_1000, tz_85, by decide +kernel, fun h => (by cases h), fun ci h => (by cases h; exact ⟨tz_1002, tz_18, Or.inr ⟨_, rfl, rfl⟩⟩)⟩, List.forall_mem_cons.mpr ⟨⟨tz_620, tz_985, tz_79, by decide +kernel, fun h => (by cases h), fun ci h => (by cases h; exact ⟨tz_618, tz_619, Or.inr ⟨_, rfl, rfl⟩⟩)⟩, List.forall_mem_cons.mpr ⟨⟨tz_607, tz_986, tz_78, by decide +kernel, fun h => (by cases h), fun ci h => (by cases h; exact ⟨tz_605, tz_606, Or.inr ⟨_, rfl, rfl⟩⟩)⟩, List.forall_mem_cons.mpr ⟨⟨tz_919, tz_995, tz_77, by decide +kernel, fun h => (by cases h), fun ci h => (by cases h; exact ⟨tz_917, tz_918, Or.inr ⟨_, rfl, rfl⟩⟩)⟩, List.forall_mem_cons.mpr ⟨⟨tz_688, tz_996, tz_77, by decide +kernel, fun h => (by cases h), fun ci h => (by cases h; exact ⟨tz_686, tz_687, Or.inr ⟨_, rfl, rfl⟩⟩)⟩, List.forall_mem_cons.mpr ⟨⟨tz_699, tz_997, tz_77, by decide +kernel, fun h => (by cases h), fun ci h => (by cases h; exact ⟨tz_697, tz_698, Or.inr ⟨_, rfl, rfl⟩⟩)⟩, List.forall_mem_cons.mpr ⟨⟨tz_704, tz_998, tz_82, by decide +kernel, fun h => (by cases h), fun ci h => (by cases h; exact ⟨tz_702, tz_703, Or.inr ⟨_, rfl, rfl⟩⟩)⟩, List.forall_mem_cons.mpr ⟨⟨tz_786, tz_999, tz_77, by decide +kernel, fun h => (by cases h), fun ci h => (by cases h; exact ⟨tz_784, tz_785, Or.inr ⟨_, rfl, rfl⟩⟩)⟩, List.forall_mem_cons.mpr ⟨⟨tz_1016, tz_1013, tz_85, by decide +kernel, fun h => (by cases h), fun ci h => (by cases h; exact ⟨tz_1015, tz_19, Or.inr ⟨_, rfl, rfl⟩⟩)⟩, List.forall_mem_cons.mpr ⟨⟨tz_782, tz_1029, tz_77, by decide +kernel, fun h => (by cases h), fun ci h => (by cases h; exact ⟨tz_780, tz_781, Or.inr ⟨_, rfl, rfl⟩⟩)⟩, List.forall_mem_cons.mpr ⟨⟨tz_773, tz_1030, tz_81, by decide +kernel, fun h => (by cases h), fun ci h => (by cases h; exact ⟨tz_771, tz_772, Or.inr ⟨_, rfl, rfl⟩⟩)⟩, List.forall_mem_cons.mpr ⟨⟨tz_1020, tz_1017, tz_79, by decide +kernel, fun h => (by cases h), fun ci h => (by cases h; exact ⟨tz_1018, tz_1019, Or.inr ⟨_, rfl, rfl⟩⟩)⟩, List.forall_mem_cons.mpr ⟨⟨tz_1023, tz_1021, tz_85, by decide +kernel, fun _ => tz_1022, fun _ h => (by cases h)⟩, List.forall_mem_cons.mpr ⟨⟨tz_1028, tz_1025, tz_79, by decide +kernel, fun h => (by cases h), fun ci h => (by cases h; exact ⟨tz_1026, tz_1027, Or.inr ⟨_, rfl, rfl⟩⟩)⟩, fun _ h => absurd h List.not_mem_nil⟩⟩⟩⟩⟩⟩⟩⟩⟩⟩⟩⟩⟩⟩⟩⟩⟩⟩⟩)
theorem qk_0_wC : qw_ok qw_tw wC qk_0 := ⟨qw_tw_good, wC_wf, wC_cok, wC_tok, qk_0_1wC, qk_0_2wC, qw_all (List.forall_mem_cons.mpr ⟨tz_1024, fun _ h => absurd h List.not_mem_nil⟩), qw_all (List.forall_mem_cons.mpr ⟨tz_1004, fun _ h => absurd h List.not_mem_nil⟩), fun j q z h => (by cases h), fun j h => (qw_ka0 h).elim, qw_all (fun _ h => absurd h List.not_mem_nil), qw_all (fun _ h => absurd h List.not_mem_nil)⟩
def qk_1 : qw_K := ("ShadowTheatre$Cues", [(9, 1, 0), (15, 1, 1), (18, 1, 3), (22, 5, 1), (35, 1, 2)], [(27, some 5, my_X5_item), (31, some 1, my_X1_takes), (38, some 13, my_J0_indexOf), (43, some 1, my_X1_figureOf)], [], [], [(36, 1)], [], 0, [])
theorem qk_1_1wC : ∀ j q, qw_lk (qw_kf qk_1) j = some q → ∃ c, (qw_cl wC)[q.1]? = some c ∧ q.2 < c.2.2 ∧ (Cond.fieldLink (qw_kn qk_1) j (c.2.1 q.2).1 (c.2.1 q.2).2.1 (c.2.1 q.2).2.2.1 ∈ qw_tw ∨ ∃ host, (qw_kn qk_1, j, (c.2.1 q.2).1, (c.2.1 q.2).2.1, (c.2.1 q.2).2.2.1, host) ∈ qw_nst wC) :=
  qw_all (List.forall_mem_cons.mpr ⟨⟨_, rfl, by decide, Or.inl tz_177⟩, List.forall_mem_cons.mpr ⟨⟨_, rfl, by decide, Or.inl tz_178⟩, List.forall_mem_cons.mpr ⟨⟨_, rfl, by decide, Or.inl tz_180⟩, List.forall_mem_cons.mpr ⟨⟨_, rfl, by decide, Or.inr ⟨_, List.mem_of_getElem? (i := 1) rfl⟩⟩, List.forall_mem_cons.mpr ⟨⟨_, rfl, by decide, Or.inl tz_179⟩, fun _ h => absurd h List.not_mem_nil⟩⟩⟩⟩⟩)
theorem qk_1_2wC : ∀ j q, qw_lk (qw_kc qk_1) j = some q → qw_yc q.2 ∈ qw_tw ∧ Cond.methodLink (qw_kn qk_1) j (qw_yn q.2) ∈ qw_tw ∧ Cond.initialized (qw_yn q.2).cls ∈ qw_tw ∧ ((qw_yn q.2).cls ≠ "java/lang/invoke/MethodHandle" ∧ (qw_yn q.2).cls ≠ "java/lang/invoke/VarHandle" ∧ (parseMethodDescriptor (qw_yn q.2).desc).map (fun d => d.parameters.length) = some (qw_yp q.2)) ∧
    (q.1 = none → Cond.static (qw_yn q.2) ∈ qw_tw) ∧ (∀ ci, q.1 = some ci → Cond.instanceMethod (qw_yn q.2) ∈ qw_tw ∧ Cond.selects (qw_yn q.2).cls (qw_yn q.2) (qw_yn q.2) ∈ qw_tw ∧ ((ci = 13 ∧ (qw_yn q.2).cls = "java/lang/String") ∨ ∃ c, (qw_cl wC)[ci]? = some c ∧ c.1 = (qw_yn q.2).cls)) :=
  qw_all (List.forall_mem_cons.mpr ⟨⟨tz_461, tz_559, tz_75, by decide +kernel, fun h => (by cases h), fun ci h => (by cases h; exact ⟨tz_459, tz_460, Or.inr ⟨_, rfl, rfl⟩⟩)⟩, List.forall_mem_cons.mpr ⟨⟨tz_563, tz_560, tz_79, by decide +kernel, fun h => (by cases h), fun ci h => (by cases h; exact ⟨tz_562, tz_4, Or.inr ⟨_, rfl, rfl⟩⟩)⟩, List.forall_mem_cons.mpr ⟨⟨tz_470, tz_565, tz_88, by decide +kernel, fun h => (by cases h), fun ci h => (by cases h; exact ⟨tz_468, tz_469, Or.inl ⟨rfl, rfl⟩⟩)⟩, List.forall_mem_cons.mpr ⟨⟨tz_620, tz_915, tz_79, by decide +kernel, fun h => (by cases h), fun ci h => (by cases h; exact ⟨tz_618, tz_619, Or.inr ⟨_, rfl, rfl⟩⟩)⟩, fun _ h => absurd h List.not_mem_nil⟩⟩⟩⟩)
theorem qk_1_wC : qw_ok qw_tw wC qk_1 := ⟨qw_tw_good, wC_wf, wC_cok, wC_tok, qk_1_1wC, qk_1_2wC, qw_all (fun _ h => absurd h List.not_mem_nil), qw_all (fun _ h => absurd h List.not_mem_nil), fun j q z h => (by cases h), fun j h => (qw_ka0 h).elim, qw_all (List.forall_mem_cons.mpr ⟨⟨"lrfb", List.mem_of_getElem? (i := 1) rfl⟩, fun _ h => absurd h List.not_mem_nil⟩), qw_all (fun _ h => absurd h List.not_mem_nil)⟩
def qk_2 : qw_K := ("ShadowTheatre$Glow", [(9, 2, 0), (15, 2, 1), (18, 2, 2)], [(21, none, my_J6_bitCount)], [], [], [], [], 0, [])
theorem qk_2_1wC : ∀ j q, qw_lk (qw_kf qk_2) j = some q → ∃ c, (qw_cl wC)[q.1]? = some c ∧ q.2 < c.2.2 ∧ (Cond.fieldLink (qw_kn qk_2) j (c.2.1 q.2).1 (c.2.1 q.2).2.1 (c.2.1 q.2).2.2.1 ∈ qw_tw ∨ ∃ host, (qw_kn qk_2, j, (c.2.1 q.2).1, (c.2.1 q.2).2.1, (c.2.1 q.2).2.2.1, host) ∈ qw_nst wC) :=
  qw_all (List.forall_mem_cons.mpr ⟨⟨_, rfl, by decide, Or.inl tz_203⟩, List.forall_mem_cons.mpr ⟨⟨_, rfl, by decide, Or.inl tz_205⟩, List.forall_mem_cons.mpr ⟨⟨_, rfl, by decide, Or.inl tz_207⟩, fun _ h => absurd h List.not_mem_nil⟩⟩⟩)
theorem qk_2_2wC : ∀ j q, qw_lk (qw_kc qk_2) j = some q → qw_yc q.2 ∈ qw_tw ∧ Cond.methodLink (qw_kn qk_2) j (qw_yn q.2) ∈ qw_tw ∧ Cond.initialized (qw_yn q.2).cls ∈ qw_tw ∧ ((qw_yn q.2).cls ≠ "java/lang/invoke/MethodHandle" ∧ (qw_yn q.2).cls ≠ "java/lang/invoke/VarHandle" ∧ (parseMethodDescriptor (qw_yn q.2).desc).map (fun d => d.parameters.length) = some (qw_yp q.2)) ∧
    (q.1 = none → Cond.static (qw_yn q.2) ∈ qw_tw) ∧ (∀ ci, q.1 = some ci → Cond.instanceMethod (qw_yn q.2) ∈ qw_tw ∧ Cond.selects (qw_yn q.2).cls (qw_yn q.2) (qw_yn q.2) ∈ qw_tw ∧ ((ci = 13 ∧ (qw_yn q.2).cls = "java/lang/String") ∨ ∃ c, (qw_cl wC)[ci]? = some c ∧ c.1 = (qw_yn q.2).cls)) :=
  qw_all (List.forall_mem_cons.mpr ⟨⟨tz_750, tz_774, tz_93, by decide +kernel, fun _ => tz_749, fun _ h => (by cases h)⟩, fun _ h => absurd h List.not_mem_nil⟩)
theorem qk_2_wC : qw_ok qw_tw wC qk_2 := ⟨qw_tw_good, wC_wf, wC_cok, wC_tok, qk_2_1wC, qk_2_2wC, qw_all (fun _ h => absurd h List.not_mem_nil), qw_all (fun _ h => absurd h List.not_mem_nil), fun j q z h => (by cases h), fun j h => (qw_ka0 h).elim, qw_all (fun _ h => absurd h List.not_mem_nil), qw_all (fun _ h => absurd h List.not_mem_nil)⟩
def qk_3 : qw_K := ("ShadowTheatre$Picture", [(12, 3, 0), (18, 3, 2), (26, 3, 1), (29, 5, 1), (45, 2, 0), (48, 2, 1), (51, 2, 2)], [(22, some 2, my_X2_fill), (34, some 5, my_X5_item), (38, some 2, my_X2_set), (42, some 2, my_X2_lightOf), (54, none, my_J6_bitCount), (59, some 3, my_X3_falseBy)], [], [], [], [], 0, [])
theorem qk_3_1wC : ∀ j q, qw_lk (qw_kf qk_3) j = some q → ∃ c, (qw_cl wC)[q.1]? = some c ∧ q.2 < c.2.2 ∧ (Cond.fieldLink (qw_kn qk_3) j (c.2.1 q.2).1 (c.2.1 q.2).2.1 (c.2.1 q.2).2.2.1 ∈ qw_tw ∨ ∃ host, (qw_kn qk_3, j, (c.2.1 q.2).1, (c.2.1 q.2).2.1, (c.2.1 q.2).2.2.1, host) ∈ qw_nst wC) :=
  qw_all (List.forall_mem_cons.mpr ⟨⟨_, rfl, by decide, Or.inl tz_216⟩, List.forall_mem_cons.mpr ⟨⟨_, rfl, by decide, Or.inl tz_219⟩, List.forall_mem_cons.mpr ⟨⟨_, rfl, by decide, Or.inl tz_217⟩, List.forall_mem_cons.mpr ⟨⟨_, rfl, by decide, Or.inr ⟨_, List.mem_of_getElem? (i := 3) rfl⟩⟩, List.forall_mem_cons.mpr ⟨⟨_, rfl, by decide, Or.inr ⟨_, List.mem_of_getElem? (i := 18) rfl⟩⟩, List.forall_mem_cons.mpr ⟨⟨_, rfl, by decide, Or.inr ⟨_, List.mem_of_getElem? (i := 19) rfl⟩⟩, List.forall_mem_cons.mpr ⟨⟨_, rfl, by decide, Or.inr ⟨_, List.mem_of_getElem? (i := 20) rfl⟩⟩, fun _ h => absurd h List.not_mem_nil⟩⟩⟩⟩⟩⟩⟩)
theorem qk_3_2wC : ∀ j q, qw_lk (qw_kc qk_3) j = some q → qw_yc q.2 ∈ qw_tw ∧ Cond.methodLink (qw_kn qk_3) j (qw_yn q.2) ∈ qw_tw ∧ Cond.initialized (qw_yn q.2).cls ∈ qw_tw ∧ ((qw_yn q.2).cls ≠ "java/lang/invoke/MethodHandle" ∧ (qw_yn q.2).cls ≠ "java/lang/invoke/VarHandle" ∧ (parseMethodDescriptor (qw_yn q.2).desc).map (fun d => d.parameters.length) = some (qw_yp q.2)) ∧
    (q.1 = none → Cond.static (qw_yn q.2) ∈ qw_tw) ∧ (∀ ci, q.1 = some ci → Cond.instanceMethod (qw_yn q.2) ∈ qw_tw ∧ Cond.selects (qw_yn q.2).cls (qw_yn q.2) (qw_yn q.2) ∈ qw_tw ∧ ((ci = 13 ∧ (qw_yn q.2).cls = "java/lang/String") ∨ ∃ c, (qw_cl wC)[ci]? = some c ∧ c.1 = (qw_yn q.2).cls)) :=
  qw_all (List.forall_mem_cons.mpr ⟨⟨tz_573, tz_570, tz_81, by decide +kernel, fun h => (by cases h), fun ci h => (by cases h; exact ⟨tz_571, tz_572, Or.inr ⟨_, rfl, rfl⟩⟩)⟩, List.forall_mem_cons.mpr ⟨⟨tz_461, tz_574, tz_75, by decide +kernel, fun h => (by cases h), fun ci h => (by cases h; exact ⟨tz_459, tz_460, Or.inr ⟨_, rfl, rfl⟩⟩)⟩, List.forall_mem_cons.mpr ⟨⟨tz_578, tz_575, tz_81, by decide +kernel, fun h => (by cases h), fun ci h => (by cases h; exact ⟨tz_576, tz_577, Or.inr ⟨_, rfl, rfl⟩⟩)⟩, List.forall_mem_cons.mpr ⟨⟨tz_636, tz_633, tz_81, by decide +kernel, fun h => (by cases h), fun ci h => (by cases h; exact ⟨tz_634, tz_635, Or.inr ⟨_, rfl, rfl⟩⟩)⟩, List.forall_mem_cons.mpr ⟨⟨tz_750, tz_769, tz_93, by decide +kernel, fun _ => tz_749, fun _ h => (by cases h)⟩, List.forall_mem_cons.mpr ⟨⟨tz_768, tz_791, tz_80, by decide +kernel, fun h => (by cases h), fun ci h => (by cases h; exact ⟨tz_766, tz_767, Or.inr ⟨_, rfl, rfl⟩⟩)⟩, fun _ h => absurd h List.not_mem_nil⟩⟩⟩⟩⟩⟩)
theorem qk_3_wC : qw_ok qw_tw wC qk_3 := ⟨qw_tw_good, wC_wf, wC_cok, wC_tok, qk_3_1wC, qk_3_2wC, qw_all (fun _ h => absurd h List.not_mem_nil), qw_all (fun _ h => absurd h List.not_mem_nil), fun j q z h => (by cases h), fun j h => (qw_ka0 h).elim, qw_all (fun _ h => absurd h List.not_mem_nil), qw_all (fun _ h => absurd h List.not_mem_nil)⟩
def qk_4 : qw_K := ("ShadowTheatre$Planner", [(12, 4, 2), (18, 4, 3), (22, 4, 4), (25, 4, 5), (28, 4, 0), (32, 7, 4), (38, 4, 1), (57, 8, 7), (94, 8, 8), (105, 7, 0), (109, 9, 5)], [(39, some 4, my_X4_findEnds), (43, some 7, my_X7_goTo), (47, some 7, my_X7_isOut), (51, some 8, my_X8_shine), (60, some 2, my_X2_become), (64, some 4, my_X4_decide), (68, some 8, my_X8_put), (71, some 8, my_X8_dimBy), (74, some 7, my_X7_falseNow), (78, none, my_J9_min), (84, some 7, my_X7_doCues), (87, some 8, my_X8_depthOf), (91, some 8, my_X8_placeOf), (98, some 7, my_X7_lightUp), (101, some 7, my_X7_isShownNow), (114, some 4, my_X4_isShownAfter), (118, some 8, my_X8_move), (121, some 4, my_X4_isShownWithout)], [], [], [], [], 0, [])
theorem qk_4_1wC : ∀ j q, qw_lk (qw_kf qk_4) j = some q → ∃ c, (qw_cl wC)[q.1]? = some c ∧ q.2 < c.2.2 ∧ (Cond.fieldLink (qw_kn qk_4) j (c.2.1 q.2).1 (c.2.1 q.2).2.1 (c.2.1 q.2).2.2.1 ∈ qw_tw ∨ ∃ host, (qw_kn qk_4, j, (c.2.1 q.2).1, (c.2.1 q.2).2.1, (c.2.1 q.2).2.2.1, host) ∈ qw_nst wC) :=
  qw_all (List.forall_mem_cons.mpr ⟨⟨_, rfl, by decide, Or.inl tz_317⟩, List.forall_mem_cons.mpr ⟨⟨_, rfl, by decide, Or.inl tz_318⟩, List.forall_mem_cons.mpr ⟨⟨_, rfl, by decide, Or.inl tz_319⟩, List.forall_mem_cons.mpr ⟨⟨_, rfl, by decide, Or.inl tz_320⟩, List.forall_mem_cons.mpr ⟨⟨_, rfl, by decide, Or.inl tz_315⟩, List.forall_mem_cons.mpr ⟨⟨_, rfl, by decide, Or.inr ⟨_, List.mem_of_getElem? (i := 38) rfl⟩⟩, List.forall_mem_cons.mpr ⟨⟨_, rfl, by decide, Or.inl tz_316⟩, List.forall_mem_cons.mpr ⟨⟨_, rfl, by decide, Or.inr ⟨_, List.mem_of_getElem? (i := 23) rfl⟩⟩, List.forall_mem_cons.mpr ⟨⟨_, rfl, by decide, Or.inr ⟨_, List.mem_of_getElem? (i := 28) rfl⟩⟩, List.forall_mem_cons.mpr ⟨⟨_, rfl, by decide, Or.inr ⟨_, List.mem_of_getElem? (i := 31) rfl⟩⟩, List.forall_mem_cons.mpr ⟨⟨_, rfl, by decide, Or.inr ⟨_, List.mem_of_getElem? (i := 11) rfl⟩⟩, fun _ h => absurd h List.not_mem_nil⟩⟩⟩⟩⟩⟩⟩⟩⟩⟩⟩)
theorem qk_4_2wC : ∀ j q, qw_lk (qw_kc qk_4) j = some q → qw_yc q.2 ∈ qw_tw ∧ Cond.methodLink (qw_kn qk_4) j (qw_yn q.2) ∈ qw_tw ∧ Cond.initialized (qw_yn q.2).cls ∈ qw_tw ∧ ((qw_yn q.2).cls ≠ "java/lang/invoke/MethodHandle" ∧ (qw_yn q.2).cls ≠ "java/lang/invoke/VarHandle" ∧ (parseMethodDescriptor (qw_yn q.2).desc).map (fun d => d.parameters.length) = some (qw_yp q.2)) ∧
    (q.1 = none → Cond.static (qw_yn q.2) ∈ qw_tw) ∧ (∀ ci, q.1 = some ci → Cond.instanceMethod (qw_yn q.2) ∈ qw_tw ∧ Cond.selects (qw_yn q.2).cls (qw_yn q.2) (qw_yn q.2) ∈ qw_tw ∧ ((ci = 13 ∧ (qw_yn q.2).cls = "java/lang/String") ∨ ∃ c, (qw_cl wC)[ci]? = some c ∧ c.1 = (qw_yn q.2).cls)) :=
  qw_all (List.forall_mem_cons.mpr ⟨⟨tz_826, tz_823, tz_83, by decide +kernel, fun h => (by cases h), fun ci h => (by cases h; exact ⟨tz_825, tz_8, Or.inr ⟨_, rfl, rfl⟩⟩)⟩, List.forall_mem_cons.mpr ⟨⟨tz_730, tz_835, tz_77, by decide +kernel, fun h => (by cases h), fun ci h => (by cases h; exact ⟨tz_728, tz_729, Or.inr ⟨_, rfl, rfl⟩⟩)⟩, List.forall_mem_cons.mpr ⟨⟨tz_699, tz_836, tz_77, by decide +kernel, fun h => (by cases h), fun ci h => (by cases h; exact ⟨tz_697, tz_698, Or.inr ⟨_, rfl, rfl⟩⟩)⟩, List.forall_mem_cons.mpr ⟨⟨tz_704, tz_837, tz_82, by decide +kernel, fun h => (by cases h), fun ci h => (by cases h; exact ⟨tz_702, tz_703, Or.inr ⟨_, rfl, rfl⟩⟩)⟩, List.forall_mem_cons.mpr ⟨⟨tz_841, tz_838, tz_81, by decide +kernel, fun h => (by cases h), fun ci h => (by cases h; exact ⟨tz_839, tz_840, Or.inr ⟨_, rfl, rfl⟩⟩)⟩, List.forall_mem_cons.mpr ⟨⟨tz_845, tz_842, tz_83, by decide +kernel, fun h => (by cases h), fun ci h => (by cases h; exact ⟨tz_844, tz_9, Or.inr ⟨_, rfl, rfl⟩⟩)⟩, List.forall_mem_cons.mpr ⟨⟨tz_831, tz_828, tz_82, by decide +kernel, fun h => (by cases h), fun ci h => (by cases h; exact ⟨tz_829, tz_830, Or.inr ⟨_, rfl, rfl⟩⟩)⟩, List.forall_mem_cons.mpr ⟨⟨tz_849, tz_846, tz_82, by decide +kernel, fun h => (by cases h), fun ci h => (by cases h; exact ⟨tz_847, tz_848, Or.inr ⟨_, rfl, rfl⟩⟩)⟩, List.forall_mem_cons.mpr ⟨⟨tz_764, tz_850, tz_77, by decide +kernel, fun h => (by cases h), fun ci h => (by cases h; exact ⟨tz_762, tz_763, Or.inr ⟨_, rfl, rfl⟩⟩)⟩, List.forall_mem_cons.mpr ⟨⟨tz_498, tz_827, tz_76, by decide +kernel, fun _ => tz_497, fun _ h => (by cases h)⟩, List.forall_mem_cons.mpr ⟨⟨tz_688, tz_832, tz_77, by decide +kernel, fun h => (by cases h), fun ci h => (by cases h; exact ⟨tz_686, tz_687, Or.inr ⟨_, rfl, rfl⟩⟩)⟩, List.forall_mem_cons.mpr ⟨⟨tz_743, tz_833, tz_82, by decide +kernel, fun h => (by cases h), fun ci h => (by cases h; exact ⟨tz_741, tz_742, Or.inr ⟨_, rfl, rfl⟩⟩)⟩, List.forall_mem_cons.mpr ⟨⟨tz_747, tz_834, tz_82, by decide +kernel, fun h => (by cases h), fun ci h => (by cases h; exact ⟨tz_745, tz_746, Or.inr ⟨_, rfl, rfl⟩⟩)⟩, List.forall_mem_cons.mpr ⟨⟨tz_680, tz_871, tz_77, by decide +kernel, fun h => (by cases h), fun ci h => (by cases h; exact ⟨tz_678, tz_679, Or.inr ⟨_, rfl, rfl⟩⟩)⟩, List.forall_mem_cons.mpr ⟨⟨tz_786, tz_872, tz_77, by decide +kernel, fun h => (by cases h), fun ci h => (by cases h; exact ⟨tz_784, tz_785, Or.inr ⟨_, rfl, rfl⟩⟩)⟩, List.forall_mem_cons.mpr ⟨⟨tz_876, tz_873, tz_83, by decide +kernel, fun h => (by cases h), fun ci h => (by cases h; exact ⟨tz_875, tz_10, Or.inr ⟨_, rfl, rfl⟩⟩)⟩, List.forall_mem_cons.mpr ⟨⟨tz_694, tz_877, tz_82, by decide +kernel, fun h => (by cases h), fun ci h => (by cases h; exact ⟨tz_692, tz_693, Or.inr ⟨_, rfl, rfl⟩⟩)⟩, List.forall_mem_cons.mpr ⟨⟨tz_889, tz_886, tz_83, by decide +kernel, fun h => (by cases h), fun ci h => (by cases h; exact ⟨tz_888, tz_11, Or.inr ⟨_, rfl, rfl⟩⟩)⟩, fun _ h => absurd h List.not_mem_nil⟩⟩⟩⟩⟩⟩⟩⟩⟩⟩⟩⟩⟩⟩⟩⟩⟩⟩)
theorem qk_4_wC : qw_ok qw_tw wC qk_4 := ⟨qw_tw_good, wC_wf, wC_cok, wC_tok, qk_4_1wC, qk_4_2wC, qw_all (fun _ h => absurd h List.not_mem_nil), qw_all (fun _ h => absurd h List.not_mem_nil), fun j q z h => (by cases h), fun j h => (qw_ka0 h).elim, qw_all (fun _ h => absurd h List.not_mem_nil), qw_all (fun _ h => absurd h List.not_mem_nil)⟩
def qk_5 : qw_K := ("ShadowTheatre$Row", [(15, 5, 0), (21, 5, 1)], [(9, none, my_J9_max)], [], [], [], [], 0, [])
theorem qk_5_1wC : ∀ j q, qw_lk (qw_kf qk_5) j = some q → ∃ c, (qw_cl wC)[q.1]? = some c ∧ q.2 < c.2.2 ∧ (Cond.fieldLink (qw_kn qk_5) j (c.2.1 q.2).1 (c.2.1 q.2).2.1 (c.2.1 q.2).2.2.1 ∈ qw_tw ∨ ∃ host, (qw_kn qk_5, j, (c.2.1 q.2).1, (c.2.1 q.2).2.1, (c.2.1 q.2).2.2.1, host) ∈ qw_nst wC) :=
  qw_all (List.forall_mem_cons.mpr ⟨⟨_, rfl, by decide, Or.inl tz_112⟩, List.forall_mem_cons.mpr ⟨⟨_, rfl, by decide, Or.inl tz_113⟩, fun _ h => absurd h List.not_mem_nil⟩⟩)
theorem qk_5_2wC : ∀ j q, qw_lk (qw_kc qk_5) j = some q → qw_yc q.2 ∈ qw_tw ∧ Cond.methodLink (qw_kn qk_5) j (qw_yn q.2) ∈ qw_tw ∧ Cond.initialized (qw_yn q.2).cls ∈ qw_tw ∧ ((qw_yn q.2).cls ≠ "java/lang/invoke/MethodHandle" ∧ (qw_yn q.2).cls ≠ "java/lang/invoke/VarHandle" ∧ (parseMethodDescriptor (qw_yn q.2).desc).map (fun d => d.parameters.length) = some (qw_yp q.2)) ∧
    (q.1 = none → Cond.static (qw_yn q.2) ∈ qw_tw) ∧ (∀ ci, q.1 = some ci → Cond.instanceMethod (qw_yn q.2) ∈ qw_tw ∧ Cond.selects (qw_yn q.2).cls (qw_yn q.2) (qw_yn q.2) ∈ qw_tw ∧ ((ci = 13 ∧ (qw_yn q.2).cls = "java/lang/String") ∨ ∃ c, (qw_cl wC)[ci]? = some c ∧ c.1 = (qw_yn q.2).cls)) :=
  qw_all (List.forall_mem_cons.mpr ⟨⟨tz_111, tz_109, tz_76, by decide +kernel, fun _ => tz_110, fun _ h => (by cases h)⟩, fun _ h => absurd h List.not_mem_nil⟩)
theorem qk_5_wC : qw_ok qw_tw wC qk_5 := ⟨qw_tw_good, wC_wf, wC_cok, wC_tok, qk_5_1wC, qk_5_2wC, qw_all (fun _ h => absurd h List.not_mem_nil), qw_all (fun _ h => absurd h List.not_mem_nil), fun j q z h => (by cases h), fun j h => (qw_ka0 h).elim, qw_all (fun _ h => absurd h List.not_mem_nil), qw_all (fun _ h => absurd h List.not_mem_nil)⟩
def qk_6 : qw_K := ("ShadowTheatre$Sheet", [(9, 6, 0), (15, 6, 1), (19, 6, 2)], [(22, none, my_J9_min), (28, some 6, my_X6_has)], [], [], [], [], 0, [])
theorem qk_6_1wC : ∀ j q, qw_lk (qw_kf qk_6) j = some q → ∃ c, (qw_cl wC)[q.1]? = some c ∧ q.2 < c.2.2 ∧ (Cond.fieldLink (qw_kn qk_6) j (c.2.1 q.2).1 (c.2.1 q.2).2.1 (c.2.1 q.2).2.2.1 ∈ qw_tw ∨ ∃ host, (qw_kn qk_6, j, (c.2.1 q.2).1, (c.2.1 q.2).2.1, (c.2.1 q.2).2.2.1, host) ∈ qw_nst wC) :=
  qw_all (List.forall_mem_cons.mpr ⟨⟨_, rfl, by decide, Or.inl tz_386⟩, List.forall_mem_cons.mpr ⟨⟨_, rfl, by decide, Or.inl tz_388⟩, List.forall_mem_cons.mpr ⟨⟨_, rfl, by decide, Or.inl tz_390⟩, fun _ h => absurd h List.not_mem_nil⟩⟩⟩)
theorem qk_6_2wC : ∀ j q, qw_lk (qw_kc qk_6) j = some q → qw_yc q.2 ∈ qw_tw ∧ Cond.methodLink (qw_kn qk_6) j (qw_yn q.2) ∈ qw_tw ∧ Cond.initialized (qw_yn q.2).cls ∈ qw_tw ∧ ((qw_yn q.2).cls ≠ "java/lang/invoke/MethodHandle" ∧ (qw_yn q.2).cls ≠ "java/lang/invoke/VarHandle" ∧ (parseMethodDescriptor (qw_yn q.2).desc).map (fun d => d.parameters.length) = some (qw_yp q.2)) ∧
    (q.1 = none → Cond.static (qw_yn q.2) ∈ qw_tw) ∧ (∀ ci, q.1 = some ci → Cond.instanceMethod (qw_yn q.2) ∈ qw_tw ∧ Cond.selects (qw_yn q.2).cls (qw_yn q.2) (qw_yn q.2) ∈ qw_tw ∧ ((ci = 13 ∧ (qw_yn q.2).cls = "java/lang/String") ∨ ∃ c, (qw_cl wC)[ci]? = some c ∧ c.1 = (qw_yn q.2).cls)) :=
  qw_all (List.forall_mem_cons.mpr ⟨⟨tz_498, tz_1039, tz_76, by decide +kernel, fun _ => tz_497, fun _ h => (by cases h)⟩, List.forall_mem_cons.mpr ⟨⟨tz_672, tz_669, tz_86, by decide +kernel, fun h => (by cases h), fun ci h => (by cases h; exact ⟨tz_670, tz_671, Or.inr ⟨_, rfl, rfl⟩⟩)⟩, fun _ h => absurd h List.not_mem_nil⟩⟩)
theorem qk_6_wC : qw_ok qw_tw wC qk_6 := ⟨qw_tw_good, wC_wf, wC_cok, wC_tok, qk_6_1wC, qk_6_2wC, qw_all (fun _ h => absurd h List.not_mem_nil), qw_all (fun _ h => absurd h List.not_mem_nil), fun j q z h => (by cases h), fun j h => (qw_ka0 h).elim, qw_all (fun _ h => absurd h List.not_mem_nil), qw_all (fun _ h => absurd h List.not_mem_nil)⟩
def qk_7 : qw_K := ("ShadowTheatre$Show", [(12, 7, 0), (21, 7, 1), (28, 7, 2), (37, 7, 3), (46, 7, 4), (50, 7, 5), (54, 5, 1), (85, 8, 7), (100, 9, 5)], [(57, some 5, my_X5_item), (61, some 8, my_X8_start), (64, some 1, my_X1_figureOf), (67, some 1, my_X1_whitherOf), (70, some 8, my_X8_move), (74, some 7, my_X7_doCues), (77, some 7, my_X7_isOut), (81, some 8, my_X8_shine), (89, some 3, my_X3_falseBy), (93, some 3, my_X3_isShownBy), (97, some 7, my_X7_goTo), (101, some 8, my_X8_coverOf), (104, some 8, my_X8_depthOf), (107, some 8, my_X8_placeOf), (110, none, my_J6_bitCount), (115, none, my_X7_leastBit), (118, some 7, my_X7_isShownNow), (122, some 8, my_X8_touchingPair), (126, some 2, my_X2_dark)], [], [], [], [], 0, [])
theorem qk_7_1wC : ∀ j q, qw_lk (qw_kf qk_7) j = some q → ∃ c, (qw_cl wC)[q.1]? = some c ∧ q.2 < c.2.2 ∧ (Cond.fieldLink (qw_kn qk_7) j (c.2.1 q.2).1 (c.2.1 q.2).2.1 (c.2.1 q.2).2.2.1 ∈ qw_tw ∨ ∃ host, (qw_kn qk_7, j, (c.2.1 q.2).1, (c.2.1 q.2).2.1, (c.2.1 q.2).2.2.1, host) ∈ qw_nst wC) :=
  qw_all (List.forall_mem_cons.mpr ⟨⟨_, rfl, by decide, Or.inl tz_275⟩, List.forall_mem_cons.mpr ⟨⟨_, rfl, by decide, Or.inl tz_279⟩, List.forall_mem_cons.mpr ⟨⟨_, rfl, by decide, Or.inl tz_283⟩, List.forall_mem_cons.mpr ⟨⟨_, rfl, by decide, Or.inl tz_285⟩, List.forall_mem_cons.mpr ⟨⟨_, rfl, by decide, Or.inl tz_289⟩, List.forall_mem_cons.mpr ⟨⟨_, rfl, by decide, Or.inl tz_292⟩, List.forall_mem_cons.mpr ⟨⟨_, rfl, by decide, Or.inr ⟨_, List.mem_of_getElem? (i := 0) rfl⟩⟩, List.forall_mem_cons.mpr ⟨⟨_, rfl, by decide, Or.inr ⟨_, List.mem_of_getElem? (i := 25) rfl⟩⟩, List.forall_mem_cons.mpr ⟨⟨_, rfl, by decide, Or.inr ⟨_, List.mem_of_getElem? (i := 13) rfl⟩⟩, fun _ h => absurd h List.not_mem_nil⟩⟩⟩⟩⟩⟩⟩⟩⟩)
theorem qk_7_2wC : ∀ j q, qw_lk (qw_kc qk_7) j = some q → qw_yc q.2 ∈ qw_tw ∧ Cond.methodLink (qw_kn qk_7) j (qw_yn q.2) ∈ qw_tw ∧ Cond.initialized (qw_yn q.2).cls ∈ qw_tw ∧ ((qw_yn q.2).cls ≠ "java/lang/invoke/MethodHandle" ∧ (qw_yn q.2).cls ≠ "java/lang/invoke/VarHandle" ∧ (parseMethodDescriptor (qw_yn q.2).desc).map (fun d => d.parameters.length) = some (qw_yp q.2)) ∧
    (q.1 = none → Cond.static (qw_yn q.2) ∈ qw_tw) ∧ (∀ ci, q.1 = some ci → Cond.instanceMethod (qw_yn q.2) ∈ qw_tw ∧ Cond.selects (qw_yn q.2).cls (qw_yn q.2) (qw_yn q.2) ∈ qw_tw ∧ ((ci = 13 ∧ (qw_yn q.2).cls = "java/lang/String") ∨ ∃ c, (qw_cl wC)[ci]? = some c ∧ c.1 = (qw_yn q.2).cls)) :=
  qw_all (List.forall_mem_cons.mpr ⟨⟨tz_461, tz_700, tz_75, by decide +kernel, fun h => (by cases h), fun ci h => (by cases h; exact ⟨tz_459, tz_460, Or.inr ⟨_, rfl, rfl⟩⟩)⟩, List.forall_mem_cons.mpr ⟨⟨tz_684, tz_681, tz_82, by decide +kernel, fun h => (by cases h), fun ci h => (by cases h; exact ⟨tz_682, tz_683, Or.inr ⟨_, rfl, rfl⟩⟩)⟩, List.forall_mem_cons.mpr ⟨⟨tz_620, tz_689, tz_79, by decide +kernel, fun h => (by cases h), fun ci h => (by cases h; exact ⟨tz_618, tz_619, Or.inr ⟨_, rfl, rfl⟩⟩)⟩, List.forall_mem_cons.mpr ⟨⟨tz_624, tz_690, tz_79, by decide +kernel, fun h => (by cases h), fun ci h => (by cases h; exact ⟨tz_622, tz_623, Or.inr ⟨_, rfl, rfl⟩⟩)⟩, List.forall_mem_cons.mpr ⟨⟨tz_694, tz_691, tz_82, by decide +kernel, fun h => (by cases h), fun ci h => (by cases h; exact ⟨tz_692, tz_693, Or.inr ⟨_, rfl, rfl⟩⟩)⟩, List.forall_mem_cons.mpr ⟨⟨tz_688, tz_685, tz_77, by decide +kernel, fun h => (by cases h), fun ci h => (by cases h; exact ⟨tz_686, tz_687, Or.inr ⟨_, rfl, rfl⟩⟩)⟩, List.forall_mem_cons.mpr ⟨⟨tz_699, tz_696, tz_77, by decide +kernel, fun h => (by cases h), fun ci h => (by cases h; exact ⟨tz_697, tz_698, Or.inr ⟨_, rfl, rfl⟩⟩)⟩, List.forall_mem_cons.mpr ⟨⟨tz_704, tz_701, tz_82, by decide +kernel, fun h => (by cases h), fun ci h => (by cases h; exact ⟨tz_702, tz_703, Or.inr ⟨_, rfl, rfl⟩⟩)⟩, List.forall_mem_cons.mpr ⟨⟨tz_768, tz_765, tz_80, by decide +kernel, fun h => (by cases h), fun ci h => (by cases h; exact ⟨tz_766, tz_767, Or.inr ⟨_, rfl, rfl⟩⟩)⟩, List.forall_mem_cons.mpr ⟨⟨tz_790, tz_787, tz_80, by decide +kernel, fun h => (by cases h), fun ci h => (by cases h; exact ⟨tz_788, tz_789, Or.inr ⟨_, rfl, rfl⟩⟩)⟩, List.forall_mem_cons.mpr ⟨⟨tz_730, tz_727, tz_77, by decide +kernel, fun h => (by cases h), fun ci h => (by cases h; exact ⟨tz_728, tz_729, Or.inr ⟨_, rfl, rfl⟩⟩)⟩, List.forall_mem_cons.mpr ⟨⟨tz_709, tz_731, tz_82, by decide +kernel, fun h => (by cases h), fun ci h => (by cases h; exact ⟨tz_707, tz_708, Or.inr ⟨_, rfl, rfl⟩⟩)⟩, List.forall_mem_cons.mpr ⟨⟨tz_743, tz_740, tz_82, by decide +kernel, fun h => (by cases h), fun ci h => (by cases h; exact ⟨tz_741, tz_742, Or.inr ⟨_, rfl, rfl⟩⟩)⟩, List.forall_mem_cons.mpr ⟨⟨tz_747, tz_744, tz_82, by decide +kernel, fun h => (by cases h), fun ci h => (by cases h; exact ⟨tz_745, tz_746, Or.inr ⟨_, rfl, rfl⟩⟩)⟩, List.forall_mem_cons.mpr ⟨⟨tz_750, tz_748, tz_93, by decide +kernel, fun _ => tz_749, fun _ h => (by cases h)⟩, List.forall_mem_cons.mpr ⟨⟨tz_756, tz_754, tz_77, by decide +kernel, fun _ => tz_755, fun _ h => (by cases h)⟩, List.forall_mem_cons.mpr ⟨⟨tz_786, tz_783, tz_77, by decide +kernel, fun h => (by cases h), fun ci h => (by cases h; exact ⟨tz_784, tz_785, Or.inr ⟨_, rfl, rfl⟩⟩)⟩, List.forall_mem_cons.mpr ⟨⟨tz_805, tz_802, tz_82, by decide +kernel, fun h => (by cases h), fun ci h => (by cases h; exact ⟨tz_803, tz_804, Or.inr ⟨_, rfl, rfl⟩⟩)⟩, List.forall_mem_cons.mpr ⟨⟨tz_773, tz_814, tz_81, by decide +kernel, fun h => (by cases h), fun ci h => (by cases h; exact ⟨tz_771, tz_772, Or.inr ⟨_, rfl, rfl⟩⟩)⟩, fun _ h => absurd h List.not_mem_nil⟩⟩⟩⟩⟩⟩⟩⟩⟩⟩⟩⟩⟩⟩⟩⟩⟩⟩⟩)
theorem qk_7_wC : qw_ok qw_tw wC qk_7 := ⟨qw_tw_good, wC_wf, wC_cok, wC_tok, qk_7_1wC, qk_7_2wC, qw_all (fun _ h => absurd h List.not_mem_nil), qw_all (fun _ h => absurd h List.not_mem_nil), fun j q z h => (by cases h), fun j h => (qw_ka0 h).elim, qw_all (fun _ h => absurd h List.not_mem_nil), qw_all (fun _ h => absurd h List.not_mem_nil)⟩
def qk_8 : qw_K := ("ShadowTheatre$Stage", [(9, 8, 1), (15, 8, 2), (18, 8, 3), (21, 8, 4), (24, 8, 5), (27, 8, 6), (33, 8, 7), (37, 8, 0), (45, 8, 8), (49, 9, 0), (52, 9, 1), (53, 9, 2), (62, 9, 4), (77, 9, 5), (80, 9, 3)], [(41, none, my_X8_rayTo), (54, some 9, my_X9_has), (58, some 8, my_X8_workOutCover), (65, some 2, my_X2_fill), (69, some 8, my_X8_coverOf), (73, some 2, my_X2_dim)], [], [], [], [], 0, [])
theorem qk_8_1wC : ∀ j q, qw_lk (qw_kf qk_8) j = some q → ∃ c, (qw_cl wC)[q.1]? = some c ∧ q.2 < c.2.2 ∧ (Cond.fieldLink (qw_kn qk_8) j (c.2.1 q.2).1 (c.2.1 q.2).2.1 (c.2.1 q.2).2.2.1 ∈ qw_tw ∨ ∃ host, (qw_kn qk_8, j, (c.2.1 q.2).1, (c.2.1 q.2).2.1, (c.2.1 q.2).2.2.1, host) ∈ qw_nst wC) :=
  qw_all (List.forall_mem_cons.mpr ⟨⟨_, rfl, by decide, Or.inl tz_242⟩, List.forall_mem_cons.mpr ⟨⟨_, rfl, by decide, Or.inl tz_243⟩, List.forall_mem_cons.mpr ⟨⟨_, rfl, by decide, Or.inl tz_244⟩, List.forall_mem_cons.mpr ⟨⟨_, rfl, by decide, Or.inl tz_245⟩, List.forall_mem_cons.mpr ⟨⟨_, rfl, by decide, Or.inl tz_246⟩, List.forall_mem_cons.mpr ⟨⟨_, rfl, by decide, Or.inl tz_247⟩, List.forall_mem_cons.mpr ⟨⟨_, rfl, by decide, Or.inl tz_248⟩, List.forall_mem_cons.mpr ⟨⟨_, rfl, by decide, Or.inl tz_241⟩, List.forall_mem_cons.mpr ⟨⟨_, rfl, by decide, Or.inl tz_254⟩, List.forall_mem_cons.mpr ⟨⟨_, rfl, by decide, Or.inr ⟨_, List.mem_of_getElem? (i := 6) rfl⟩⟩, List.forall_mem_cons.mpr ⟨⟨_, rfl, by decide, Or.inr ⟨_, List.mem_of_getElem? (i := 7) rfl⟩⟩, List.forall_mem_cons.mpr ⟨⟨_, rfl, by decide, Or.inr ⟨_, List.mem_of_getElem? (i := 8) rfl⟩⟩, List.forall_mem_cons.mpr ⟨⟨_, rfl, by decide, Or.inr ⟨_, List.mem_of_getElem? (i := 10) rfl⟩⟩, List.forall_mem_cons.mpr ⟨⟨_, rfl, by decide, Or.inr ⟨_, List.mem_of_getElem? (i := 14) rfl⟩⟩, List.forall_mem_cons.mpr ⟨⟨_, rfl, by decide, Or.inr ⟨_, List.mem_of_getElem? (i := 9) rfl⟩⟩, fun _ h => absurd h List.not_mem_nil⟩⟩⟩⟩⟩⟩⟩⟩⟩⟩⟩⟩⟩⟩⟩)
theorem qk_8_2wC : ∀ j q, qw_lk (qw_kc qk_8) j = some q → qw_yc q.2 ∈ qw_tw ∧ Cond.methodLink (qw_kn qk_8) j (qw_yn q.2) ∈ qw_tw ∧ Cond.initialized (qw_yn q.2).cls ∈ qw_tw ∧ ((qw_yn q.2).cls ≠ "java/lang/invoke/MethodHandle" ∧ (qw_yn q.2).cls ≠ "java/lang/invoke/VarHandle" ∧ (parseMethodDescriptor (qw_yn q.2).desc).map (fun d => d.parameters.length) = some (qw_yp q.2)) ∧
    (q.1 = none → Cond.static (qw_yn q.2) ∈ qw_tw) ∧ (∀ ci, q.1 = some ci → Cond.instanceMethod (qw_yn q.2) ∈ qw_tw ∧ Cond.selects (qw_yn q.2).cls (qw_yn q.2) (qw_yn q.2) ∈ qw_tw ∧ ((ci = 13 ∧ (qw_yn q.2).cls = "java/lang/String") ∨ ∃ c, (qw_cl wC)[ci]? = some c ∧ c.1 = (qw_yn q.2).cls)) :=
  qw_all (List.forall_mem_cons.mpr ⟨⟨tz_240, tz_238, tz_82, by decide +kernel, fun _ => tz_239, fun _ h => (by cases h)⟩, List.forall_mem_cons.mpr ⟨⟨tz_607, tz_695, tz_78, by decide +kernel, fun h => (by cases h), fun ci h => (by cases h; exact ⟨tz_605, tz_606, Or.inr ⟨_, rfl, rfl⟩⟩)⟩, List.forall_mem_cons.mpr ⟨⟨tz_713, tz_710, tz_82, by decide +kernel, fun h => (by cases h), fun ci h => (by cases h; exact ⟨tz_712, tz_7, Or.inr ⟨_, rfl, rfl⟩⟩)⟩, List.forall_mem_cons.mpr ⟨⟨tz_573, tz_705, tz_81, by decide +kernel, fun h => (by cases h), fun ci h => (by cases h; exact ⟨tz_571, tz_572, Or.inr ⟨_, rfl, rfl⟩⟩)⟩, List.forall_mem_cons.mpr ⟨⟨tz_709, tz_706, tz_82, by decide +kernel, fun h => (by cases h), fun ci h => (by cases h; exact ⟨tz_707, tz_708, Or.inr ⟨_, rfl, rfl⟩⟩)⟩, List.forall_mem_cons.mpr ⟨⟨tz_717, tz_714, tz_81, by decide +kernel, fun h => (by cases h), fun ci h => (by cases h; exact ⟨tz_715, tz_716, Or.inr ⟨_, rfl, rfl⟩⟩)⟩, fun _ h => absurd h List.not_mem_nil⟩⟩⟩⟩⟩⟩)
theorem qk_8_wC : qw_ok qw_tw wC qk_8 := ⟨qw_tw_good, wC_wf, wC_cok, wC_tok, qk_8_1wC, qk_8_2wC, qw_all (fun _ h => absurd h List.not_mem_nil), qw_all (fun _ h => absurd h List.not_mem_nil), fun j q z h => (by cases h), fun j h => (qw_ka0 h).elim, qw_all (fun _ h => absurd h List.not_mem_nil), qw_all (fun _ h => absurd h List.not_mem_nil)⟩
def qk_9 : qw_K := ("ShadowTheatre$Troupe", [(9, 9, 0), (15, 9, 1), (18, 9, 2), (21, 9, 3), (24, 9, 4), (27, 9, 6), (31, 5, 1), (44, 9, 5)], [(36, some 5, my_X5_item), (40, some 9, my_X9_takes), (47, some 13, my_J0_indexOf), (52, some 9, my_X9_takesMark), (56, some 9, my_X9_has)], [], [], [(45, 0)], [], 0, [])
theorem qk_9_1wC : ∀ j q, qw_lk (qw_kf qk_9) j = some q → ∃ c, (qw_cl wC)[q.1]? = some c ∧ q.2 < c.2.2 ∧ (Cond.fieldLink (qw_kn qk_9) j (c.2.1 q.2).1 (c.2.1 q.2).2.1 (c.2.1 q.2).2.2.1 ∈ qw_tw ∨ ∃ host, (qw_kn qk_9, j, (c.2.1 q.2).1, (c.2.1 q.2).2.1, (c.2.1 q.2).2.2.1, host) ∈ qw_nst wC) :=
  qw_all (List.forall_mem_cons.mpr ⟨⟨_, rfl, by decide, Or.inl tz_138⟩, List.forall_mem_cons.mpr ⟨⟨_, rfl, by decide, Or.inl tz_140⟩, List.forall_mem_cons.mpr ⟨⟨_, rfl, by decide, Or.inl tz_142⟩, List.forall_mem_cons.mpr ⟨⟨_, rfl, by decide, Or.inl tz_144⟩, List.forall_mem_cons.mpr ⟨⟨_, rfl, by decide, Or.inl tz_146⟩, List.forall_mem_cons.mpr ⟨⟨_, rfl, by decide, Or.inl tz_154⟩, List.forall_mem_cons.mpr ⟨⟨_, rfl, by decide, Or.inr ⟨_, List.mem_of_getElem? (i := 2) rfl⟩⟩, List.forall_mem_cons.mpr ⟨⟨_, rfl, by decide, Or.inl tz_148⟩, fun _ h => absurd h List.not_mem_nil⟩⟩⟩⟩⟩⟩⟩⟩)
theorem qk_9_2wC : ∀ j q, qw_lk (qw_kc qk_9) j = some q → qw_yc q.2 ∈ qw_tw ∧ Cond.methodLink (qw_kn qk_9) j (qw_yn q.2) ∈ qw_tw ∧ Cond.initialized (qw_yn q.2).cls ∈ qw_tw ∧ ((qw_yn q.2).cls ≠ "java/lang/invoke/MethodHandle" ∧ (qw_yn q.2).cls ≠ "java/lang/invoke/VarHandle" ∧ (parseMethodDescriptor (qw_yn q.2).desc).map (fun d => d.parameters.length) = some (qw_yp q.2)) ∧
    (q.1 = none → Cond.static (qw_yn q.2) ∈ qw_tw) ∧ (∀ ci, q.1 = some ci → Cond.instanceMethod (qw_yn q.2) ∈ qw_tw ∧ Cond.selects (qw_yn q.2).cls (qw_yn q.2) (qw_yn q.2) ∈ qw_tw ∧ ((ci = 13 ∧ (qw_yn q.2).cls = "java/lang/String") ∨ ∃ c, (qw_cl wC)[ci]? = some c ∧ c.1 = (qw_yn q.2).cls)) :=
  qw_all (List.forall_mem_cons.mpr ⟨⟨tz_461, tz_458, tz_75, by decide +kernel, fun h => (by cases h), fun ci h => (by cases h; exact ⟨tz_459, tz_460, Or.inr ⟨_, rfl, rfl⟩⟩)⟩, List.forall_mem_cons.mpr ⟨⟨tz_465, tz_462, tz_78, by decide +kernel, fun h => (by cases h), fun ci h => (by cases h; exact ⟨tz_464, tz_2, Or.inr ⟨_, rfl, rfl⟩⟩)⟩, List.forall_mem_cons.mpr ⟨⟨tz_470, tz_467, tz_88, by decide +kernel, fun h => (by cases h), fun ci h => (by cases h; exact ⟨tz_468, tz_469, Or.inl ⟨rfl, rfl⟩⟩)⟩, List.forall_mem_cons.mpr ⟨⟨tz_554, tz_551, tz_78, by decide +kernel, fun h => (by cases h), fun ci h => (by cases h; exact ⟨tz_553, tz_3, Or.inr ⟨_, rfl, rfl⟩⟩)⟩, List.forall_mem_cons.mpr ⟨⟨tz_607, tz_612, tz_78, by decide +kernel, fun h => (by cases h), fun ci h => (by cases h; exact ⟨tz_605, tz_606, Or.inr ⟨_, rfl, rfl⟩⟩)⟩, fun _ h => absurd h List.not_mem_nil⟩⟩⟩⟩⟩)
theorem qk_9_wC : qw_ok qw_tw wC qk_9 := ⟨qw_tw_good, wC_wf, wC_cok, wC_tok, qk_9_1wC, qk_9_2wC, qw_all (fun _ h => absurd h List.not_mem_nil), qw_all (fun _ h => absurd h List.not_mem_nil), fun j q z h => (by cases h), fun j h => (qw_ka0 h).elim, qw_all (List.forall_mem_cons.mpr ⟨⟨"krgb", List.mem_of_getElem? (i := 0) rfl⟩, fun _ h => absurd h List.not_mem_nil⟩), qw_all (fun _ h => absurd h List.not_mem_nil)⟩
def qk_10 : qw_K := ("ShadowTheatre$Witness", [(14, 10, 2), (20, 10, 3), (24, 10, 0), (28, 7, 4), (34, 10, 1), (39, 5, 1), (50, 7, 1), (79, 8, 7)], [(35, some 5, my_X5_add), (43, some 5, my_X5_item), (46, some 10, my_X10_watchedSteps), (54, some 1, my_X1_figureOf), (59, some 1, my_X1_whitherOf), (62, some 8, my_X8_move), (68, some 7, my_X7_isOut), (72, some 8, my_X8_shine), (76, some 10, my_X10_agreesIn), (83, some 2, my_X2_lightOf), (88, some 1, my_X1_steps), (91, some 7, my_X7_open), (94, some 10, my_X10_agrees), (97, some 8, my_X8_paint), (100, some 8, my_X8_placeOf), (103, some 8, my_X8_put), (107, some 10, my_X10_tallyLights), (110, none, my_J9_max), (116, some 7, my_X7_doCues)], [], [], [], [], 0, [])
theorem qk_10_1wC : ∀ j q, qw_lk (qw_kf qk_10) j = some q → ∃ c, (qw_cl wC)[q.1]? = some c ∧ q.2 < c.2.2 ∧ (Cond.fieldLink (qw_kn qk_10) j (c.2.1 q.2).1 (c.2.1 q.2).2.1 (c.2.1 q.2).2.2.1 ∈ qw_tw ∨ ∃ host, (qw_kn qk_10, j, (c.2.1 q.2).1, (c.2.1 q.2).2.1, (c.2.1 q.2).2.2.1, host) ∈ qw_nst wC) :=
  qw_all (List.forall_mem_cons.mpr ⟨⟨_, rfl, by decide, Or.inl tz_344⟩, List.forall_mem_cons.mpr ⟨⟨_, rfl, by decide, Or.inl tz_346⟩, List.forall_mem_cons.mpr ⟨⟨_, rfl, by decide, Or.inl tz_342⟩, List.forall_mem_cons.mpr ⟨⟨_, rfl, by decide, Or.inr ⟨_, List.mem_of_getElem? (i := 37) rfl⟩⟩, List.forall_mem_cons.mpr ⟨⟨_, rfl, by decide, Or.inl tz_343⟩, List.forall_mem_cons.mpr ⟨⟨_, rfl, by decide, Or.inr ⟨_, List.mem_of_getElem? (i := 5) rfl⟩⟩, List.forall_mem_cons.mpr ⟨⟨_, rfl, by decide, Or.inr ⟨_, List.mem_of_getElem? (i := 33) rfl⟩⟩, List.forall_mem_cons.mpr ⟨⟨_, rfl, by decide, Or.inr ⟨_, List.mem_of_getElem? (i := 24) rfl⟩⟩, fun _ h => absurd h List.not_mem_nil⟩⟩⟩⟩⟩⟩⟩⟩)
theorem qk_10_2wC : ∀ j q, qw_lk (qw_kc qk_10) j = some q → qw_yc q.2 ∈ qw_tw ∧ Cond.methodLink (qw_kn qk_10) j (qw_yn q.2) ∈ qw_tw ∧ Cond.initialized (qw_yn q.2).cls ∈ qw_tw ∧ ((qw_yn q.2).cls ≠ "java/lang/invoke/MethodHandle" ∧ (qw_yn q.2).cls ≠ "java/lang/invoke/VarHandle" ∧ (parseMethodDescriptor (qw_yn q.2).desc).map (fun d => d.parameters.length) = some (qw_yp q.2)) ∧
    (q.1 = none → Cond.static (qw_yn q.2) ∈ qw_tw) ∧ (∀ ci, q.1 = some ci → Cond.instanceMethod (qw_yn q.2) ∈ qw_tw ∧ Cond.selects (qw_yn q.2).cls (qw_yn q.2) (qw_yn q.2) ∈ qw_tw ∧ ((ci = 13 ∧ (qw_yn q.2).cls = "java/lang/String") ∨ ∃ c, (qw_cl wC)[ci]? = some c ∧ c.1 = (qw_yn q.2).cls)) :=
  qw_all (List.forall_mem_cons.mpr ⟨⟨tz_449, tz_898, tz_75, by decide +kernel, fun h => (by cases h), fun ci h => (by cases h; exact ⟨tz_447, tz_448, Or.inr ⟨_, rfl, rfl⟩⟩)⟩, List.forall_mem_cons.mpr ⟨⟨tz_461, tz_928, tz_75, by decide +kernel, fun h => (by cases h), fun ci h => (by cases h; exact ⟨tz_459, tz_460, Or.inr ⟨_, rfl, rfl⟩⟩)⟩, List.forall_mem_cons.mpr ⟨⟨tz_927, tz_924, tz_84, by decide +kernel, fun h => (by cases h), fun ci h => (by cases h; exact ⟨tz_926, tz_13, Or.inr ⟨_, rfl, rfl⟩⟩)⟩, List.forall_mem_cons.mpr ⟨⟨tz_620, tz_929, tz_79, by decide +kernel, fun h => (by cases h), fun ci h => (by cases h; exact ⟨tz_618, tz_619, Or.inr ⟨_, rfl, rfl⟩⟩)⟩, List.forall_mem_cons.mpr ⟨⟨tz_624, tz_930, tz_79, by decide +kernel, fun h => (by cases h), fun ci h => (by cases h; exact ⟨tz_622, tz_623, Or.inr ⟨_, rfl, rfl⟩⟩)⟩, List.forall_mem_cons.mpr ⟨⟨tz_694, tz_931, tz_82, by decide +kernel, fun h => (by cases h), fun ci h => (by cases h; exact ⟨tz_692, tz_693, Or.inr ⟨_, rfl, rfl⟩⟩)⟩, List.forall_mem_cons.mpr ⟨⟨tz_699, tz_932, tz_77, by decide +kernel, fun h => (by cases h), fun ci h => (by cases h; exact ⟨tz_697, tz_698, Or.inr ⟨_, rfl, rfl⟩⟩)⟩, List.forall_mem_cons.mpr ⟨⟨tz_704, tz_933, tz_82, by decide +kernel, fun h => (by cases h), fun ci h => (by cases h; exact ⟨tz_702, tz_703, Or.inr ⟨_, rfl, rfl⟩⟩)⟩, List.forall_mem_cons.mpr ⟨⟨tz_937, tz_934, tz_84, by decide +kernel, fun h => (by cases h), fun ci h => (by cases h; exact ⟨tz_936, tz_14, Or.inr ⟨_, rfl, rfl⟩⟩)⟩, List.forall_mem_cons.mpr ⟨⟨tz_636, tz_938, tz_81, by decide +kernel, fun h => (by cases h), fun ci h => (by cases h; exact ⟨tz_634, tz_635, Or.inr ⟨_, rfl, rfl⟩⟩)⟩, List.forall_mem_cons.mpr ⟨⟨tz_914, tz_911, tz_79, by decide +kernel, fun h => (by cases h), fun ci h => (by cases h; exact ⟨tz_912, tz_913, Or.inr ⟨_, rfl, rfl⟩⟩)⟩, List.forall_mem_cons.mpr ⟨⟨tz_919, tz_916, tz_77, by decide +kernel, fun h => (by cases h), fun ci h => (by cases h; exact ⟨tz_917, tz_918, Or.inr ⟨_, rfl, rfl⟩⟩)⟩, List.forall_mem_cons.mpr ⟨⟨tz_923, tz_920, tz_84, by decide +kernel, fun h => (by cases h), fun ci h => (by cases h; exact ⟨tz_922, tz_12, Or.inr ⟨_, rfl, rfl⟩⟩)⟩, List.forall_mem_cons.mpr ⟨⟨tz_950, tz_947, tz_82, by decide +kernel, fun h => (by cases h), fun ci h => (by cases h; exact ⟨tz_948, tz_949, Or.inr ⟨_, rfl, rfl⟩⟩)⟩, List.forall_mem_cons.mpr ⟨⟨tz_747, tz_955, tz_82, by decide +kernel, fun h => (by cases h), fun ci h => (by cases h; exact ⟨tz_745, tz_746, Or.inr ⟨_, rfl, rfl⟩⟩)⟩, List.forall_mem_cons.mpr ⟨⟨tz_831, tz_956, tz_82, by decide +kernel, fun h => (by cases h), fun ci h => (by cases h; exact ⟨tz_829, tz_830, Or.inr ⟨_, rfl, rfl⟩⟩)⟩, List.forall_mem_cons.mpr ⟨⟨tz_968, tz_965, tz_84, by decide +kernel, fun h => (by cases h), fun ci h => (by cases h; exact ⟨tz_967, tz_15, Or.inr ⟨_, rfl, rfl⟩⟩)⟩, List.forall_mem_cons.mpr ⟨⟨tz_111, tz_970, tz_76, by decide +kernel, fun _ => tz_110, fun _ h => (by cases h)⟩, List.forall_mem_cons.mpr ⟨⟨tz_688, tz_969, tz_77, by decide +kernel, fun h => (by cases h), fun ci h => (by cases h; exact ⟨tz_686, tz_687, Or.inr ⟨_, rfl, rfl⟩⟩)⟩, fun _ h => absurd h List.not_mem_nil⟩⟩⟩⟩⟩⟩⟩⟩⟩⟩⟩⟩⟩⟩⟩⟩⟩⟩⟩)
theorem qk_10_wC : qw_ok qw_tw wC qk_10 := ⟨qw_tw_good, wC_wf, wC_cok, wC_tok, qk_10_1wC, qk_10_2wC, qw_all (fun _ h => absurd h List.not_mem_nil), qw_all (fun _ h => absurd h List.not_mem_nil), fun j q z h => (by cases h), fun j h => (qw_ka0 h).elim, qw_all (fun _ h => absurd h List.not_mem_nil), qw_all (fun _ h => absurd h List.not_mem_nil)⟩
def qk_11 : qw_K := ("ShadowTheatre", [(14, 11, 0), (18, 11, 1), (21, 11, 2), (27, 11, 3), (36, 11, 4), (43, 11, 5), (50, 11, 6), (56, 11, 7), (61, 7, 4), (89, 5, 1), (100, 7, 0), (104, 9, 6), (109, 7, 1), (113, 1, 3), (116, 7, 2), (120, 3, 2), (140, 7, 5), (143, 7, 3), (156, 6, 2), (163, 8, 7), (217, 10, 2), (240, 0, 2), (244, 0, 3), (262, 6, 1), (268, 6, 0), (283, 9, 5), (287, 3, 1), (290, 11, 8)], [(65, some 8, my_X8_forgetCovers), (70, some 11, my_X11_textOf), (74, none, my_X11_isBelow), (78, some 5, my_X5_isFull), (82, some 5, my_X5_add), (86, some 11, my_X11_parse), (93, some 5, my_X5_clear), (97, some 5, my_X5_drop), (123, some 9, my_X9_has), (127, some 9, my_X9_detail), (131, some 1, my_X1_figureOf), (134, some 1, my_X1_whitherOf), (137, some 3, my_X3_lightOf), (146, some 11, my_X11_sheetOf), (150, some 6, my_X6_isLost), (153, some 11, my_X11_find), (157, some 6, my_X6_item), (160, some 7, my_X7_lightUp), (167, some 2, my_X2_lightOf), (170, some 7, my_X7_coversOf), (173, some 7, my_X7_whereabouts), (177, some 7, my_X7_falseNow), (180, some 2, my_X2_dark), (183, some 7, my_X7_shownSteps), (187, none, my_X7_leastBit), (190, none, my_J6_bitCount), (195, some 7, my_X7_firstTouch), (198, some 7, my_X7_darkestStep), (201, some 4, my_X4_planHang), (205, some 4, my_X4_answer), (208, some 4, my_X4_planShift), (211, some 4, my_X4_planMore), (214, some 4, my_X4_planLeave), (220, some 10, my_X10_add), (222, some 10, my_X10_neverSteps), (225, some 10, my_X10_colours), (228, some 10, my_X10_depths), (231, some 10, my_X10_cellToAsk), (236, some 0, my_X0_reckon), (247, some 0, my_X0_playOut), (250, some 6, my_X6_renew), (253, some 6, my_X6_drop), (254, none, my_X11_findingOf), (258, some 6, my_X6_put), (265, some 6, my_X6_hasRun), (278, none, my_J9_min), (284, some 1, my_X1_steps), (295, some 11, my_X11_count), (297, none, my_X11_mix), (301, some 11, my_X11_fault), (304, some 11, my_X11_mixStep), (308, some 11, my_X11_mixCell), (311, some 11, my_X11_mixFigure), (314, some 11, my_X11_mixShown), (318, some 11, my_X11_mixStepPlans), (321, some 11, my_X11_mixRest), (326, some 11, my_X11_screen), (329, some 11, my_X11_picture), (331, some 11, my_X11_light), (334, some 11, my_X11_covers), (337, some 11, my_X11_figure), (340, some 11, my_X11_shown), (343, some 11, my_X11_touched), (346, some 11, my_X11_darkest), (349, some 11, my_X11_never), (352, some 9, my_X9_parse), (355, some 1, my_X1_parse), (356, some 3, my_X3_parse), (357, some 6, my_X6_has)], [(261, -2147483648)], [(234, -9223372036854775806), (293, 17), (324, 31)], [], [], 272, [])
theorem qk_11_1wC : ∀ j q, qw_lk (qw_kf qk_11) j = some q → ∃ c, (qw_cl wC)[q.1]? = some c ∧ q.2 < c.2.2 ∧ (Cond.fieldLink (qw_kn qk_11) j (c.2.1 q.2).1 (c.2.1 q.2).2.1 (c.2.1 q.2).2.2.1 ∈ qw_tw ∨ ∃ host, (qw_kn qk_11, j, (c.2.1 q.2).1, (c.2.1 q.2).2.1, (c.2.1 q.2).2.2.1, host) ∈ qw_nst wC) :=
  qw_all (List.forall_mem_cons.mpr ⟨⟨_, rfl, by decide, Or.inl tz_403⟩, List.forall_mem_cons.mpr ⟨⟨_, rfl, by decide, Or.inl tz_404⟩, List.forall_mem_cons.mpr ⟨⟨_, rfl, by decide, Or.inl tz_405⟩, List.forall_mem_cons.mpr ⟨⟨_, rfl, by decide, Or.inl tz_406⟩, List.forall_mem_cons.mpr ⟨⟨_, rfl, by decide, Or.inl tz_407⟩, List.forall_mem_cons.mpr ⟨⟨_, rfl, by decide, Or.inl tz_408⟩, List.forall_mem_cons.mpr ⟨⟨_, rfl, by decide, Or.inl tz_409⟩, List.forall_mem_cons.mpr ⟨⟨_, rfl, by decide, Or.inl tz_410⟩, List.forall_mem_cons.mpr ⟨⟨_, rfl, by decide, Or.inr ⟨_, List.mem_of_getElem? (i := 39) rfl⟩⟩, List.forall_mem_cons.mpr ⟨⟨_, rfl, by decide, Or.inr ⟨_, List.mem_of_getElem? (i := 4) rfl⟩⟩, List.forall_mem_cons.mpr ⟨⟨_, rfl, by decide, Or.inr ⟨_, List.mem_of_getElem? (i := 30) rfl⟩⟩, List.forall_mem_cons.mpr ⟨⟨_, rfl, by decide, Or.inr ⟨_, List.mem_of_getElem? (i := 16) rfl⟩⟩, List.forall_mem_cons.mpr ⟨⟨_, rfl, by decide, Or.inr ⟨_, List.mem_of_getElem? (i := 34) rfl⟩⟩, List.forall_mem_cons.mpr ⟨⟨_, rfl, by decide, Or.inr ⟨_, List.mem_of_getElem? (i := 17) rfl⟩⟩, List.forall_mem_cons.mpr ⟨⟨_, rfl, by decide, Or.inr ⟨_, List.mem_of_getElem? (i := 35) rfl⟩⟩, List.forall_mem_cons.mpr ⟨⟨_, rfl, by decide, Or.inr ⟨_, List.mem_of_getElem? (i := 22) rfl⟩⟩, List.forall_mem_cons.mpr ⟨⟨_, rfl, by decide, Or.inr ⟨_, List.mem_of_getElem? (i := 41) rfl⟩⟩, List.forall_mem_cons.mpr ⟨⟨_, rfl, by decide, Or.inr ⟨_, List.mem_of_getElem? (i := 36) rfl⟩⟩, List.forall_mem_cons.mpr ⟨⟨_, rfl, by decide, Or.inr ⟨_, List.mem_of_getElem? (i := 47) rfl⟩⟩, List.forall_mem_cons.mpr ⟨⟨_, rfl, by decide, Or.inr ⟨_, List.mem_of_getElem? (i := 27) rfl⟩⟩, List.forall_mem_cons.mpr ⟨⟨_, rfl, by decide, Or.inr ⟨_, List.mem_of_getElem? (i := 42) rfl⟩⟩, List.forall_mem_cons.mpr ⟨⟨_, rfl, by decide, Or.inr ⟨_, List.mem_of_getElem? (i := 43) rfl⟩⟩, List.forall_mem_cons.mpr ⟨⟨_, rfl, by decide, Or.inr ⟨_, List.mem_of_getElem? (i := 44) rfl⟩⟩, List.forall_mem_cons.mpr ⟨⟨_, rfl, by decide, Or.inr ⟨_, List.mem_of_getElem? (i := 46) rfl⟩⟩, List.forall_mem_cons.mpr ⟨⟨_, rfl, by decide, Or.inr ⟨_, List.mem_of_getElem? (i := 45) rfl⟩⟩, List.forall_mem_cons.mpr ⟨⟨_, rfl, by decide, Or.inr ⟨_, List.mem_of_getElem? (i := 15) rfl⟩⟩, List.forall_mem_cons.mpr ⟨⟨_, rfl, by decide, Or.inr ⟨_, List.mem_of_getElem? (i := 21) rfl⟩⟩, List.forall_mem_cons.mpr ⟨⟨_, rfl, by decide, Or.inl tz_411⟩, fun _ h => absurd h List.not_mem_nil⟩⟩⟩⟩⟩⟩⟩⟩⟩⟩⟩⟩⟩⟩⟩⟩⟩⟩⟩⟩⟩⟩⟩⟩⟩⟩⟩⟩)
theorem qk_11_2wC : ∀ j q, qw_lk (qw_kc qk_11) j = some q → qw_yc q.2 ∈ qw_tw ∧ Cond.methodLink (qw_kn qk_11) j (qw_yn q.2) ∈ qw_tw ∧ Cond.initialized (qw_yn q.2).cls ∈ qw_tw ∧ ((qw_yn q.2).cls ≠ "java/lang/invoke/MethodHandle" ∧ (qw_yn q.2).cls ≠ "java/lang/invoke/VarHandle" ∧ (parseMethodDescriptor (qw_yn q.2).desc).map (fun d => d.parameters.length) = some (qw_yp q.2)) ∧
    (q.1 = none → Cond.static (qw_yn q.2) ∈ qw_tw) ∧ (∀ ci, q.1 = some ci → Cond.instanceMethod (qw_yn q.2) ∈ qw_tw ∧ Cond.selects (qw_yn q.2).cls (qw_yn q.2) (qw_yn q.2) ∈ qw_tw ∧ ((ci = 13 ∧ (qw_yn q.2).cls = "java/lang/String") ∨ ∃ c, (qw_cl wC)[ci]? = some c ∧ c.1 = (qw_yn q.2).cls)) :=
  qw_all (List.forall_mem_cons.mpr ⟨⟨tz_402, tz_399, tz_82, by decide +kernel, fun h => (by cases h), fun ci h => (by cases h; exact ⟨tz_400, tz_401, Or.inr ⟨_, rfl, rfl⟩⟩)⟩, List.forall_mem_cons.mpr ⟨⟨tz_438, tz_435, tz_74, by decide +kernel, fun h => (by cases h), fun ci h => (by cases h; exact ⟨tz_437, tz_0, Or.inr ⟨_, rfl, rfl⟩⟩)⟩, List.forall_mem_cons.mpr ⟨⟨tz_441, tz_439, tz_74, by decide +kernel, fun _ => tz_440, fun _ h => (by cases h)⟩, List.forall_mem_cons.mpr ⟨⟨tz_445, tz_442, tz_75, by decide +kernel, fun h => (by cases h), fun ci h => (by cases h; exact ⟨tz_443, tz_444, Or.inr ⟨_, rfl, rfl⟩⟩)⟩, List.forall_mem_cons.mpr ⟨⟨tz_449, tz_446, tz_75, by decide +kernel, fun h => (by cases h), fun ci h => (by cases h; exact ⟨tz_447, tz_448, Or.inr ⟨_, rfl, rfl⟩⟩)⟩, List.forall_mem_cons.mpr ⟨⟨tz_453, tz_450, tz_74, by decide +kernel, fun h => (by cases h), fun ci h => (by cases h; exact ⟨tz_452, tz_1, Or.inr ⟨_, rfl, rfl⟩⟩)⟩, List.forall_mem_cons.mpr ⟨⟨tz_587, tz_584, tz_75, by decide +kernel, fun h => (by cases h), fun ci h => (by cases h; exact ⟨tz_585, tz_586, Or.inr ⟨_, rfl, rfl⟩⟩)⟩, List.forall_mem_cons.mpr ⟨⟨tz_595, tz_592, tz_75, by decide +kernel, fun h => (by cases h), fun ci h => (by cases h; exact ⟨tz_593, tz_594, Or.inr ⟨_, rfl, rfl⟩⟩)⟩, List.forall_mem_cons.mpr ⟨⟨tz_607, tz_604, tz_78, by decide +kernel, fun h => (by cases h), fun ci h => (by cases h; exact ⟨tz_605, tz_606, Or.inr ⟨_, rfl, rfl⟩⟩)⟩, List.forall_mem_cons.mpr ⟨⟨tz_611, tz_608, tz_78, by decide +kernel, fun h => (by cases h), fun ci h => (by cases h; exact ⟨tz_609, tz_610, Or.inr ⟨_, rfl, rfl⟩⟩)⟩, List.forall_mem_cons.mpr ⟨⟨tz_620, tz_617, tz_79, by decide +kernel, fun h => (by cases h), fun ci h => (by cases h; exact ⟨tz_618, tz_619, Or.inr ⟨_, rfl, rfl⟩⟩)⟩, List.forall_mem_cons.mpr ⟨⟨tz_624, tz_621, tz_79, by decide +kernel, fun h => (by cases h), fun ci h => (by cases h; exact ⟨tz_622, tz_623, Or.inr ⟨_, rfl, rfl⟩⟩)⟩, List.forall_mem_cons.mpr ⟨⟨tz_632, tz_629, tz_80, by decide +kernel, fun h => (by cases h), fun ci h => (by cases h; exact ⟨tz_630, tz_631, Or.inr ⟨_, rfl, rfl⟩⟩)⟩, List.forall_mem_cons.mpr ⟨⟨tz_656, tz_653, tz_74, by decide +kernel, fun h => (by cases h), fun ci h => (by cases h; exact ⟨tz_655, tz_5, Or.inr ⟨_, rfl, rfl⟩⟩)⟩, List.forall_mem_cons.mpr ⟨⟨tz_660, tz_657, tz_86, by decide +kernel, fun h => (by cases h), fun ci h => (by cases h; exact ⟨tz_658, tz_659, Or.inr ⟨_, rfl, rfl⟩⟩)⟩, List.forall_mem_cons.mpr ⟨⟨tz_664, tz_661, tz_74, by decide +kernel, fun h => (by cases h), fun ci h => (by cases h; exact ⟨tz_663, tz_6, Or.inr ⟨_, rfl, rfl⟩⟩)⟩, List.forall_mem_cons.mpr ⟨⟨tz_668, tz_665, tz_86, by decide +kernel, fun h => (by cases h), fun ci h => (by cases h; exact ⟨tz_666, tz_667, Or.inr ⟨_, rfl, rfl⟩⟩)⟩, List.forall_mem_cons.mpr ⟨⟨tz_680, tz_677, tz_77, by decide +kernel, fun h => (by cases h), fun ci h => (by cases h; exact ⟨tz_678, tz_679, Or.inr ⟨_, rfl, rfl⟩⟩)⟩, List.forall_mem_cons.mpr ⟨⟨tz_636, tz_718, tz_81, by decide +kernel, fun h => (by cases h), fun ci h => (by cases h; exact ⟨tz_634, tz_635, Or.inr ⟨_, rfl, rfl⟩⟩)⟩, List.forall_mem_cons.mpr ⟨⟨tz_726, tz_723, tz_77, by decide +kernel, fun h => (by cases h), fun ci h => (by cases h; exact ⟨tz_724, tz_725, Or.inr ⟨_, rfl, rfl⟩⟩)⟩, List.forall_mem_cons.mpr ⟨⟨tz_739, tz_736, tz_77, by decide +kernel, fun h => (by cases h), fun ci h => (by cases h; exact ⟨tz_737, tz_738, Or.inr ⟨_, rfl, rfl⟩⟩)⟩, List.forall_mem_cons.mpr ⟨⟨tz_764, tz_761, tz_77, by decide +kernel, fun h => (by cases h), fun ci h => (by cases h; exact ⟨tz_762, tz_763, Or.inr ⟨_, rfl, rfl⟩⟩)⟩, List.forall_mem_cons.mpr ⟨⟨tz_773, tz_770, tz_81, by decide +kernel, fun h => (by cases h), fun ci h => (by cases h; exact ⟨tz_771, tz_772, Or.inr ⟨_, rfl, rfl⟩⟩)⟩, List.forall_mem_cons.mpr ⟨⟨tz_782, tz_779, tz_77, by decide +kernel, fun h => (by cases h), fun ci h => (by cases h; exact ⟨tz_780, tz_781, Or.inr ⟨_, rfl, rfl⟩⟩)⟩, List.forall_mem_cons.mpr ⟨⟨tz_756, tz_792, tz_77, by decide +kernel, fun _ => tz_755, fun _ h => (by cases h)⟩, List.forall_mem_cons.mpr ⟨⟨tz_750, tz_793, tz_93, by decide +kernel, fun _ => tz_749, fun _ h => (by cases h)⟩, List.forall_mem_cons.mpr ⟨⟨tz_801, tz_798, tz_77, by decide +kernel, fun h => (by cases h), fun ci h => (by cases h; exact ⟨tz_799, tz_800, Or.inr ⟨_, rfl, rfl⟩⟩)⟩, List.forall_mem_cons.mpr ⟨⟨tz_813, tz_810, tz_77, by decide +kernel, fun h => (by cases h), fun ci h => (by cases h; exact ⟨tz_811, tz_812, Or.inr ⟨_, rfl, rfl⟩⟩)⟩, List.forall_mem_cons.mpr ⟨⟨tz_822, tz_819, tz_83, by decide +kernel, fun h => (by cases h), fun ci h => (by cases h; exact ⟨tz_820, tz_821, Or.inr ⟨_, rfl, rfl⟩⟩)⟩, List.forall_mem_cons.mpr ⟨⟨tz_854, tz_851, tz_83, by decide +kernel, fun h => (by cases h), fun ci h => (by cases h; exact ⟨tz_852, tz_853, Or.inr ⟨_, rfl, rfl⟩⟩)⟩, List.forall_mem_cons.mpr ⟨⟨tz_862, tz_859, tz_83, by decide +kernel, fun h => (by cases h), fun ci h => (by cases h; exact ⟨tz_860, tz_861, Or.inr ⟨_, rfl, rfl⟩⟩)⟩, List.forall_mem_cons.mpr ⟨⟨tz_870, tz_867, tz_83, by decide +kernel, fun h => (by cases h), fun ci h => (by cases h; exact ⟨tz_868, tz_869, Or.inr ⟨_, rfl, rfl⟩⟩)⟩, List.forall_mem_cons.mpr ⟨⟨tz_885, tz_882, tz_83, by decide +kernel, fun h => (by cases h), fun ci h => (by cases h; exact ⟨tz_883, tz_884, Or.inr ⟨_, rfl, rfl⟩⟩)⟩, List.forall_mem_cons.mpr ⟨⟨tz_897, tz_894, tz_84, by decide +kernel, fun h => (by cases h), fun ci h => (by cases h; exact ⟨tz_895, tz_896, Or.inr ⟨_, rfl, rfl⟩⟩)⟩, List.forall_mem_cons.mpr ⟨⟨tz_910, tz_907, tz_84, by decide +kernel, fun h => (by cases h), fun ci h => (by cases h; exact ⟨tz_908, tz_909, Or.inr ⟨_, rfl, rfl⟩⟩)⟩, List.forall_mem_cons.mpr ⟨⟨tz_946, tz_943, tz_84, by decide +kernel, fun h => (by cases h), fun ci h => (by cases h; exact ⟨tz_944, tz_945, Or.inr ⟨_, rfl, rfl⟩⟩)⟩, List.forall_mem_cons.mpr ⟨⟨tz_954, tz_951, tz_84, by decide +kernel, fun h => (by cases h), fun ci h => (by cases h; exact ⟨tz_952, tz_953, Or.inr ⟨_, rfl, rfl⟩⟩)⟩, List.forall_mem_cons.mpr ⟨⟨tz_964, tz_961, tz_84, by decide +kernel, fun h => (by cases h), fun ci h => (by cases h; exact ⟨tz_962, tz_963, Or.inr ⟨_, rfl, rfl⟩⟩)⟩, List.forall_mem_cons.mpr ⟨⟨tz_979, tz_976, tz_85, by decide +kernel, fun h => (by cases h), fun ci h => (by cases h; exact ⟨tz_977, tz_978, Or.inr ⟨_, rfl, rfl⟩⟩)⟩, List.forall_mem_cons.mpr ⟨⟨tz_1012, tz_1009, tz_85, by decide +kernel, fun h => (by cases h), fun ci h => (by cases h; exact ⟨tz_1010, tz_1011, Or.inr ⟨_, rfl, rfl⟩⟩)⟩, List.forall_mem_cons.mpr ⟨⟨tz_1038, tz_1035, tz_86, by decide +kernel, fun h => (by cases h), fun ci h => (by cases h; exact ⟨tz_1036, tz_1037, Or.inr ⟨_, rfl, rfl⟩⟩)⟩, List.forall_mem_cons.mpr ⟨⟨tz_1047, tz_1044, tz_86, by decide +kernel, fun h => (by cases h), fun ci h => (by cases h; exact ⟨tz_1045, tz_1046, Or.inr ⟨_, rfl, rfl⟩⟩)⟩, List.forall_mem_cons.mpr ⟨⟨tz_1054, tz_1052, tz_74, by decide +kernel, fun _ => tz_1053, fun _ h => (by cases h)⟩, List.forall_mem_cons.mpr ⟨⟨tz_1059, tz_1056, tz_86, by decide +kernel, fun h => (by cases h), fun ci h => (by cases h; exact ⟨tz_1057, tz_1058, Or.inr ⟨_, rfl, rfl⟩⟩)⟩, List.forall_mem_cons.mpr ⟨⟨tz_1072, tz_1069, tz_86, by decide +kernel, fun h => (by cases h), fun ci h => (by cases h; exact ⟨tz_1070, tz_1071, Or.inr ⟨_, rfl, rfl⟩⟩)⟩, List.forall_mem_cons.mpr ⟨⟨tz_498, tz_1080, tz_76, by decide +kernel, fun _ => tz_497, fun _ h => (by cases h)⟩, List.forall_mem_cons.mpr ⟨⟨tz_914, tz_1085, tz_79, by decide +kernel, fun h => (by cases h), fun ci h => (by cases h; exact ⟨tz_912, tz_913, Or.inr ⟨_, rfl, rfl⟩⟩)⟩, List.forall_mem_cons.mpr ⟨⟨tz_1084, tz_1091, tz_74, by decide +kernel, fun h => (by cases h), fun ci h => (by cases h; exact ⟨tz_1082, tz_1083, Or.inr ⟨_, rfl, rfl⟩⟩)⟩, List.forall_mem_cons.mpr ⟨⟨tz_1094, tz_1092, tz_74, by decide +kernel, fun _ => tz_1093, fun _ h => (by cases h)⟩, List.forall_mem_cons.mpr ⟨⟨tz_599, tz_1096, tz_74, by decide +kernel, fun h => (by cases h), fun ci h => (by cases h; exact ⟨tz_597, tz_598, Or.inr ⟨_, rfl, rfl⟩⟩)⟩, List.forall_mem_cons.mpr ⟨⟨tz_1100, tz_1097, tz_74, by decide +kernel, fun h => (by cases h), fun ci h => (by cases h; exact ⟨tz_1099, tz_20, Or.inr ⟨_, rfl, rfl⟩⟩)⟩, List.forall_mem_cons.mpr ⟨⟨tz_1105, tz_1102, tz_74, by decide +kernel, fun h => (by cases h), fun ci h => (by cases h; exact ⟨tz_1104, tz_21, Or.inr ⟨_, rfl, rfl⟩⟩)⟩, List.forall_mem_cons.mpr ⟨⟨tz_1112, tz_1109, tz_74, by decide +kernel, fun h => (by cases h), fun ci h => (by cases h; exact ⟨tz_1111, tz_22, Or.inr ⟨_, rfl, rfl⟩⟩)⟩, List.forall_mem_cons.mpr ⟨⟨tz_1117, tz_1114, tz_74, by decide +kernel, fun h => (by cases h), fun ci h => (by cases h; exact ⟨tz_1116, tz_23, Or.inr ⟨_, rfl, rfl⟩⟩)⟩, List.forall_mem_cons.mpr ⟨⟨tz_1124, tz_1121, tz_74, by decide +kernel, fun h => (by cases h), fun ci h => (by cases h; exact ⟨tz_1123, tz_24, Or.inr ⟨_, rfl, rfl⟩⟩)⟩, List.forall_mem_cons.mpr ⟨⟨tz_1128, tz_1125, tz_74, by decide +kernel, fun h => (by cases h), fun ci h => (by cases h; exact ⟨tz_1127, tz_25, Or.inr ⟨_, rfl, rfl⟩⟩)⟩, List.forall_mem_cons.mpr ⟨⟨tz_760, tz_1101, tz_74, by decide +kernel, fun h => (by cases h), fun ci h => (by cases h; exact ⟨tz_758, tz_759, Or.inr ⟨_, rfl, rfl⟩⟩)⟩, List.forall_mem_cons.mpr ⟨⟨tz_628, tz_1106, tz_74, by decide +kernel, fun h => (by cases h), fun ci h => (by cases h; exact ⟨tz_626, tz_627, Or.inr ⟨_, rfl, rfl⟩⟩)⟩, List.forall_mem_cons.mpr ⟨⟨tz_676, tz_1107, tz_74, by decide +kernel, fun h => (by cases h), fun ci h => (by cases h; exact ⟨tz_674, tz_675, Or.inr ⟨_, rfl, rfl⟩⟩)⟩, List.forall_mem_cons.mpr ⟨⟨tz_722, tz_1108, tz_74, by decide +kernel, fun h => (by cases h), fun ci h => (by cases h; exact ⟨tz_720, tz_721, Or.inr ⟨_, rfl, rfl⟩⟩)⟩, List.forall_mem_cons.mpr ⟨⟨tz_603, tz_1113, tz_74, by decide +kernel, fun h => (by cases h), fun ci h => (by cases h; exact ⟨tz_601, tz_602, Or.inr ⟨_, rfl, rfl⟩⟩)⟩, List.forall_mem_cons.mpr ⟨⟨tz_778, tz_1118, tz_74, by decide +kernel, fun h => (by cases h), fun ci h => (by cases h; exact ⟨tz_776, tz_777, Or.inr ⟨_, rfl, rfl⟩⟩)⟩, List.forall_mem_cons.mpr ⟨⟨tz_797, tz_1119, tz_74, by decide +kernel, fun h => (by cases h), fun ci h => (by cases h; exact ⟨tz_795, tz_796, Or.inr ⟨_, rfl, rfl⟩⟩)⟩, List.forall_mem_cons.mpr ⟨⟨tz_809, tz_1120, tz_74, by decide +kernel, fun h => (by cases h), fun ci h => (by cases h; exact ⟨tz_807, tz_808, Or.inr ⟨_, rfl, rfl⟩⟩)⟩, List.forall_mem_cons.mpr ⟨⟨tz_906, tz_1129, tz_74, by decide +kernel, fun h => (by cases h), fun ci h => (by cases h; exact ⟨tz_904, tz_905, Or.inr ⟨_, rfl, rfl⟩⟩)⟩, List.forall_mem_cons.mpr ⟨⟨tz_457, tz_454, tz_78, by decide +kernel, fun h => (by cases h), fun ci h => (by cases h; exact ⟨tz_455, tz_456, Or.inr ⟨_, rfl, rfl⟩⟩)⟩, List.forall_mem_cons.mpr ⟨⟨tz_558, tz_555, tz_79, by decide +kernel, fun h => (by cases h), fun ci h => (by cases h; exact ⟨tz_556, tz_557, Or.inr ⟨_, rfl, rfl⟩⟩)⟩, List.forall_mem_cons.mpr ⟨⟨tz_569, tz_566, tz_80, by decide +kernel, fun h => (by cases h), fun ci h => (by cases h; exact ⟨tz_567, tz_568, Or.inr ⟨_, rfl, rfl⟩⟩)⟩, List.forall_mem_cons.mpr ⟨⟨tz_672, tz_1055, tz_86, by decide +kernel, fun h => (by cases h), fun ci h => (by cases h; exact ⟨tz_670, tz_671, Or.inr ⟨_, rfl, rfl⟩⟩)⟩, fun _ h => absurd h List.not_mem_nil⟩⟩⟩⟩⟩⟩⟩⟩⟩⟩⟩⟩⟩⟩⟩⟩⟩⟩⟩⟩⟩⟩⟩⟩⟩⟩⟩⟩⟩⟩⟩⟩⟩⟩⟩⟩⟩⟩⟩⟩⟩⟩⟩⟩⟩⟩⟩⟩⟩⟩⟩⟩⟩⟩⟩⟩⟩⟩⟩⟩⟩⟩⟩⟩⟩⟩⟩⟩⟩)
theorem qk_11_wC : qw_ok qw_tw wC qk_11 := ⟨qw_tw_good, wC_wf, wC_cok, wC_tok, qk_11_1wC, qk_11_2wC, qw_all (List.forall_mem_cons.mpr ⟨tz_1064, fun _ h => absurd h List.not_mem_nil⟩), qw_all (List.forall_mem_cons.mpr ⟨tz_975, List.forall_mem_cons.mpr ⟨tz_1090, List.forall_mem_cons.mpr ⟨tz_1095, fun _ h => absurd h List.not_mem_nil⟩⟩⟩), fun j q z h => (by cases h), fun j h => by
    have h := Nat.eq_of_beq_eq_true (Bool.and_eq_true_iff.mp h).1
    subst h
    exact ⟨tz_1073, tz_1075, tz_1074, tz_94⟩, qw_all (fun _ h => absurd h List.not_mem_nil), qw_all (fun _ h => absurd h List.not_mem_nil)⟩
def qk_12 : qw_K := ("ShadowTheatreModel", [(7, 12, 0), (13, 12, 1), (16, 12, 2), (19, 12, 3), (22, 12, 5), (25, 12, 6), (28, 12, 8), (31, 12, 9), (34, 12, 10), (37, 12, 11), (40, 12, 12), (43, 12, 15), (46, 12, 16), (49, 12, 17), (52, 12, 18), (55, 12, 19), (58, 12, 23), (61, 12, 24), (64, 12, 13), (74, 12, 4), (109, 12, 7), (169, 12, 14), (180, 12, 20), (198, 12, 21), (266, 12, 22), (303, 12, 25)], [(70, none, my_X12_in), (79, none, my_X12_isSheet), (85, some 12, my_X12_finds), (89, some 12, my_X12_lacks), (93, none, my_X12_cut), (98, none, my_X12_isText), (103, none, my_X12_figureOf), (106, none, my_X12_colourOf), (112, none, my_X12_partOf), (115, some 12, my_X12_stills), (122, none, my_X12_wayOf), (125, some 12, my_X12_blank), (132, some 12, my_X12_readsFigures), (136, some 12, my_X12_readsCues), (139, some 12, my_X12_readsPicture), (142, some 12, my_X12_readsText), (149, some 12, my_X12_isFigure), (154, some 12, my_X12_figureBy), (157, none, my_X12_isStep), (160, none, my_X12_isTwo), (163, some 12, my_X12_cueBy), (166, none, my_X12_isCell), (172, some 12, my_X12_flicker), (174, none, my_X12_greater), (177, none, my_X12_lesser), (183, none, my_X12_isIn), (187, some 12, my_X12_goes), (191, some 12, my_X12_keeps), (195, some 12, my_X12_lives), (201, some 12, my_X12_isOver), (205, some 12, my_X12_isOut), (208, some 12, my_X12_find), (211, some 12, my_X12_lightOf), (214, some 12, my_X12_coversOf), (217, some 12, my_X12_atOf), (220, some 12, my_X12_falseOf), (223, some 12, my_X12_darkOf), (226, some 12, my_X12_cellsTold), (229, some 12, my_X12_isShown), (232, some 12, my_X12_shownBy), (235, some 12, my_X12_isTouching), (238, some 12, my_X12_touchedBy), (241, some 12, my_X12_darkestNow), (244, some 12, my_X12_hangOf), (247, some 12, my_X12_shiftOf), (250, some 12, my_X12_isShownBy), (255, some 12, my_X12_moreOf), (258, some 12, my_X12_isShownWithout), (261, some 12, my_X12_leaveOf), (269, some 12, my_X12_isSeen), (273, some 12, my_X12_neverNow), (276, some 12, my_X12_colourBy), (279, some 12, my_X12_deepOf), (282, some 12, my_X12_wasOf), (285, some 12, my_X12_askOf), (288, none, my_X12_part), (294, some 12, my_X12_stumbleOf), (298, none, my_X12_no), (306, some 12, my_X12_lot), (311, some 12, my_X12_playOf), (314, some 12, my_X12_cuesTold), (317, some 12, my_X12_tellsAt), (323, some 12, my_X12_count), (326, some 12, my_X12_tellsFigure), (330, some 12, my_X12_tellsStep)], [(97, -2147483648), (302, 1103515245)], [(68, -9223372036854775808), (77, 3), (83, 2), (101, 255), (118, 97), (120, 104), (128, 48), (130, 55), (145, 19), (147, 31), (152, 9), (253, -1), (264, 7), (292, 16), (309, 20), (321, 17)], [], [], 0, [])
theorem qk_12_1wM : ∀ j q, qw_lk (qw_kf qk_12) j = some q → ∃ c, (qw_cl wM)[q.1]? = some c ∧ q.2 < c.2.2 ∧ (Cond.fieldLink (qw_kn qk_12) j (c.2.1 q.2).1 (c.2.1 q.2).2.1 (c.2.1 q.2).2.2.1 ∈ qw_tw ∨ ∃ host, (qw_kn qk_12, j, (c.2.1 q.2).1, (c.2.1 q.2).2.1, (c.2.1 q.2).2.2.1, host) ∈ qw_nst wM) :=
  qw_all (List.forall_mem_cons.mpr ⟨⟨_, rfl, by decide, Or.inl tz_1136⟩, List.forall_mem_cons.mpr ⟨⟨_, rfl, by decide, Or.inl tz_1137⟩, List.forall_mem_cons.mpr ⟨⟨_, rfl, by decide, Or.inl tz_1138⟩, List.forall_mem_cons.mpr ⟨⟨_, rfl, by decide, Or.inl tz_1139⟩, List.forall_mem_cons.mpr ⟨⟨_, rfl, by decide, Or.inl tz_1141⟩, List.forall_mem_cons.mpr ⟨⟨_, rfl, by decide, Or.inl tz_1142⟩, List.forall_mem_cons.mpr ⟨⟨_, rfl, by decide, Or.inl tz_1144⟩, List.forall_mem_cons.mpr ⟨⟨_, rfl, by decide, Or.inl tz_1145⟩, List.forall_mem_cons.mpr ⟨⟨_, rfl, by decide, Or.inl tz_1146⟩, List.forall_mem_cons.mpr ⟨⟨_, rfl, by decide, Or.inl tz_1147⟩, List.forall_mem_cons.mpr ⟨⟨_, rfl, by decide, Or.inl tz_1148⟩, List.forall_mem_cons.mpr ⟨⟨_, rfl, by decide, Or.inl tz_1151⟩, List.forall_mem_cons.mpr ⟨⟨_, rfl, by decide, Or.inl tz_1152⟩, List.forall_mem_cons.mpr ⟨⟨_, rfl, by decide, Or.inl tz_1153⟩, List.forall_mem_cons.mpr ⟨⟨_, rfl, by decide, Or.inl tz_1154⟩, List.forall_mem_cons.mpr ⟨⟨_, rfl, by decide, Or.inl tz_1155⟩, List.forall_mem_cons.mpr ⟨⟨_, rfl, by decide, Or.inl tz_1159⟩, List.forall_mem_cons.mpr ⟨⟨_, rfl, by decide, Or.inl tz_1160⟩, List.forall_mem_cons.mpr ⟨⟨_, rfl, by decide, Or.inl tz_1149⟩, List.forall_mem_cons.mpr ⟨⟨_, rfl, by decide, Or.inl tz_1140⟩, List.forall_mem_cons.mpr ⟨⟨_, rfl, by decide, Or.inl tz_1143⟩, List.forall_mem_cons.mpr ⟨⟨_, rfl, by decide, Or.inl tz_1150⟩, List.forall_mem_cons.mpr ⟨⟨_, rfl, by decide, Or.inl tz_1156⟩, List.forall_mem_cons.mpr ⟨⟨_, rfl, by decide, Or.inl tz_1157⟩, List.forall_mem_cons.mpr ⟨⟨_, rfl, by decide, Or.inl tz_1158⟩, List.forall_mem_cons.mpr ⟨⟨_, rfl, by decide, Or.inl tz_1161⟩, fun _ h => absurd h List.not_mem_nil⟩⟩⟩⟩⟩⟩⟩⟩⟩⟩⟩⟩⟩⟩⟩⟩⟩⟩⟩⟩⟩⟩⟩⟩⟩⟩)
theorem qk_12_2wM : ∀ j q, qw_lk (qw_kc qk_12) j = some q → qw_yc q.2 ∈ qw_tw ∧ Cond.methodLink (qw_kn qk_12) j (qw_yn q.2) ∈ qw_tw ∧ Cond.initialized (qw_yn q.2).cls ∈ qw_tw ∧ ((qw_yn q.2).cls ≠ "java/lang/invoke/MethodHandle" ∧ (qw_yn q.2).cls ≠ "java/lang/invoke/VarHandle" ∧ (parseMethodDescriptor (qw_yn q.2).desc).map (fun d => d.parameters.length) = some (qw_yp q.2)) ∧
    (q.1 = none → Cond.static (qw_yn q.2) ∈ qw_tw) ∧ (∀ ci, q.1 = some ci → Cond.instanceMethod (qw_yn q.2) ∈ qw_tw ∧ Cond.selects (qw_yn q.2).cls (qw_yn q.2) (qw_yn q.2) ∈ qw_tw ∧ ((ci = 13 ∧ (qw_yn q.2).cls = "java/lang/String") ∨ ∃ c, (qw_cl wM)[ci]? = some c ∧ c.1 = (qw_yn q.2).cls)) :=
  qw_all (List.forall_mem_cons.mpr ⟨⟨tz_1225, tz_1223, tz_87, by decide +kernel, fun _ => tz_1224, fun _ h => (by cases h)⟩, List.forall_mem_cons.mpr ⟨⟨tz_1221, tz_1219, tz_87, by decide +kernel, fun _ => tz_1220, fun _ h => (by cases h)⟩, List.forall_mem_cons.mpr ⟨⟨tz_1230, tz_1227, tz_87, by decide +kernel, fun h => (by cases h), fun ci h => (by cases h; exact ⟨tz_1229, tz_26, Or.inr ⟨_, rfl, rfl⟩⟩)⟩, List.forall_mem_cons.mpr ⟨⟨tz_1242, tz_1239, tz_87, by decide +kernel, fun h => (by cases h), fun ci h => (by cases h; exact ⟨tz_1241, tz_27, Or.inr ⟨_, rfl, rfl⟩⟩)⟩, List.forall_mem_cons.mpr ⟨⟨tz_1245, tz_1243, tz_87, by decide +kernel, fun _ => tz_1244, fun _ h => (by cases h)⟩, List.forall_mem_cons.mpr ⟨⟨tz_1261, tz_1259, tz_87, by decide +kernel, fun _ => tz_1260, fun _ h => (by cases h)⟩, List.forall_mem_cons.mpr ⟨⟨tz_1288, tz_1286, tz_87, by decide +kernel, fun _ => tz_1287, fun _ h => (by cases h)⟩, List.forall_mem_cons.mpr ⟨⟨tz_1291, tz_1289, tz_87, by decide +kernel, fun _ => tz_1290, fun _ h => (by cases h)⟩, List.forall_mem_cons.mpr ⟨⟨tz_1285, tz_1283, tz_87, by decide +kernel, fun _ => tz_1284, fun _ h => (by cases h)⟩, List.forall_mem_cons.mpr ⟨⟨tz_1299, tz_1296, tz_87, by decide +kernel, fun h => (by cases h), fun ci h => (by cases h; exact ⟨tz_1298, tz_31, Or.inr ⟨_, rfl, rfl⟩⟩)⟩, List.forall_mem_cons.mpr ⟨⟨tz_1304, tz_1302, tz_87, by decide +kernel, fun _ => tz_1303, fun _ h => (by cases h)⟩, List.forall_mem_cons.mpr ⟨⟨tz_1312, tz_1309, tz_87, by decide +kernel, fun h => (by cases h), fun ci h => (by cases h; exact ⟨tz_1311, tz_33, Or.inr ⟨_, rfl, rfl⟩⟩)⟩, List.forall_mem_cons.mpr ⟨⟨tz_1282, tz_1279, tz_87, by decide +kernel, fun h => (by cases h), fun ci h => (by cases h; exact ⟨tz_1281, tz_29, Or.inr ⟨_, rfl, rfl⟩⟩)⟩, List.forall_mem_cons.mpr ⟨⟨tz_1295, tz_1292, tz_87, by decide +kernel, fun h => (by cases h), fun ci h => (by cases h; exact ⟨tz_1294, tz_30, Or.inr ⟨_, rfl, rfl⟩⟩)⟩, List.forall_mem_cons.mpr ⟨⟨tz_1308, tz_1305, tz_87, by decide +kernel, fun h => (by cases h), fun ci h => (by cases h; exact ⟨tz_1307, tz_32, Or.inr ⟨_, rfl, rfl⟩⟩)⟩, List.forall_mem_cons.mpr ⟨⟨tz_1278, tz_1275, tz_87, by decide +kernel, fun h => (by cases h), fun ci h => (by cases h; exact ⟨tz_1277, tz_28, Or.inr ⟨_, rfl, rfl⟩⟩)⟩, List.forall_mem_cons.mpr ⟨⟨tz_1322, tz_1319, tz_87, by decide +kernel, fun h => (by cases h), fun ci h => (by cases h; exact ⟨tz_1321, tz_34, Or.inr ⟨_, rfl, rfl⟩⟩)⟩, List.forall_mem_cons.mpr ⟨⟨tz_1327, tz_1324, tz_87, by decide +kernel, fun h => (by cases h), fun ci h => (by cases h; exact ⟨tz_1326, tz_35, Or.inr ⟨_, rfl, rfl⟩⟩)⟩, List.forall_mem_cons.mpr ⟨⟨tz_1334, tz_1332, tz_87, by decide +kernel, fun _ => tz_1333, fun _ h => (by cases h)⟩, List.forall_mem_cons.mpr ⟨⟨tz_1338, tz_1336, tz_87, by decide +kernel, fun _ => tz_1337, fun _ h => (by cases h)⟩, List.forall_mem_cons.mpr ⟨⟨tz_1342, tz_1339, tz_87, by decide +kernel, fun h => (by cases h), fun ci h => (by cases h; exact ⟨tz_1341, tz_36, Or.inr ⟨_, rfl, rfl⟩⟩)⟩, List.forall_mem_cons.mpr ⟨⟨tz_1349, tz_1347, tz_87, by decide +kernel, fun _ => tz_1348, fun _ h => (by cases h)⟩, List.forall_mem_cons.mpr ⟨⟨tz_1358, tz_1367, tz_87, by decide +kernel, fun h => (by cases h), fun ci h => (by cases h; exact ⟨tz_1356, tz_1357, Or.inr ⟨_, rfl, rfl⟩⟩)⟩, List.forall_mem_cons.mpr ⟨⟨tz_1389, tz_1387, tz_87, by decide +kernel, fun _ => tz_1388, fun _ h => (by cases h)⟩, List.forall_mem_cons.mpr ⟨⟨tz_1392, tz_1390, tz_87, by decide +kernel, fun _ => tz_1391, fun _ h => (by cases h)⟩, List.forall_mem_cons.mpr ⟨⟨tz_1382, tz_1380, tz_87, by decide +kernel, fun _ => tz_1381, fun _ h => (by cases h)⟩, List.forall_mem_cons.mpr ⟨⟨tz_1386, tz_1383, tz_87, by decide +kernel, fun h => (by cases h), fun ci h => (by cases h; exact ⟨tz_1385, tz_39, Or.inr ⟨_, rfl, rfl⟩⟩)⟩, List.forall_mem_cons.mpr ⟨⟨tz_1396, tz_1393, tz_87, by decide +kernel, fun h => (by cases h), fun ci h => (by cases h; exact ⟨tz_1395, tz_40, Or.inr ⟨_, rfl, rfl⟩⟩)⟩, List.forall_mem_cons.mpr ⟨⟨tz_1379, tz_1376, tz_87, by decide +kernel, fun h => (by cases h), fun ci h => (by cases h; exact ⟨tz_1378, tz_38, Or.inr ⟨_, rfl, rfl⟩⟩)⟩, List.forall_mem_cons.mpr ⟨⟨tz_1408, tz_1405, tz_87, by decide +kernel, fun h => (by cases h), fun ci h => (by cases h; exact ⟨tz_1407, tz_43, Or.inr ⟨_, rfl, rfl⟩⟩)⟩, List.forall_mem_cons.mpr ⟨⟨tz_1404, tz_1401, tz_87, by decide +kernel, fun h => (by cases h), fun ci h => (by cases h; exact ⟨tz_1403, tz_42, Or.inr ⟨_, rfl, rfl⟩⟩)⟩, List.forall_mem_cons.mpr ⟨⟨tz_1375, tz_1372, tz_87, by decide +kernel, fun h => (by cases h), fun ci h => (by cases h; exact ⟨tz_1374, tz_37, Or.inr ⟨_, rfl, rfl⟩⟩)⟩, List.forall_mem_cons.mpr ⟨⟨tz_1400, tz_1397, tz_87, by decide +kernel, fun h => (by cases h), fun ci h => (by cases h; exact ⟨tz_1399, tz_41, Or.inr ⟨_, rfl, rfl⟩⟩)⟩, List.forall_mem_cons.mpr ⟨⟨tz_1416, tz_1413, tz_87, by decide +kernel, fun h => (by cases h), fun ci h => (by cases h; exact ⟨tz_1415, tz_44, Or.inr ⟨_, rfl, rfl⟩⟩)⟩, List.forall_mem_cons.mpr ⟨⟨tz_1424, tz_1421, tz_87, by decide +kernel, fun h => (by cases h), fun ci h => (by cases h; exact ⟨tz_1423, tz_45, Or.inr ⟨_, rfl, rfl⟩⟩)⟩, List.forall_mem_cons.mpr ⟨⟨tz_1432, tz_1429, tz_87, by decide +kernel, fun h => (by cases h), fun ci h => (by cases h; exact ⟨tz_1431, tz_46, Or.inr ⟨_, rfl, rfl⟩⟩)⟩, List.forall_mem_cons.mpr ⟨⟨tz_1436, tz_1433, tz_87, by decide +kernel, fun h => (by cases h), fun ci h => (by cases h; exact ⟨tz_1435, tz_47, Or.inr ⟨_, rfl, rfl⟩⟩)⟩, List.forall_mem_cons.mpr ⟨⟨tz_1452, tz_1449, tz_87, by decide +kernel, fun h => (by cases h), fun ci h => (by cases h; exact ⟨tz_1451, tz_50, Or.inr ⟨_, rfl, rfl⟩⟩)⟩, List.forall_mem_cons.mpr ⟨⟨tz_1448, tz_1445, tz_87, by decide +kernel, fun h => (by cases h), fun ci h => (by cases h; exact ⟨tz_1447, tz_49, Or.inr ⟨_, rfl, rfl⟩⟩)⟩, List.forall_mem_cons.mpr ⟨⟨tz_1444, tz_1441, tz_87, by decide +kernel, fun h => (by cases h), fun ci h => (by cases h; exact ⟨tz_1443, tz_48, Or.inr ⟨_, rfl, rfl⟩⟩)⟩, List.forall_mem_cons.mpr ⟨⟨tz_1464, tz_1461, tz_87, by decide +kernel, fun h => (by cases h), fun ci h => (by cases h; exact ⟨tz_1463, tz_52, Or.inr ⟨_, rfl, rfl⟩⟩)⟩, List.forall_mem_cons.mpr ⟨⟨tz_1460, tz_1457, tz_87, by decide +kernel, fun h => (by cases h), fun ci h => (by cases h; exact ⟨tz_1459, tz_51, Or.inr ⟨_, rfl, rfl⟩⟩)⟩, List.forall_mem_cons.mpr ⟨⟨tz_1472, tz_1469, tz_87, by decide +kernel, fun h => (by cases h), fun ci h => (by cases h; exact ⟨tz_1471, tz_53, Or.inr ⟨_, rfl, rfl⟩⟩)⟩, List.forall_mem_cons.mpr ⟨⟨tz_1480, tz_1477, tz_87, by decide +kernel, fun h => (by cases h), fun ci h => (by cases h; exact ⟨tz_1479, tz_54, Or.inr ⟨_, rfl, rfl⟩⟩)⟩, List.forall_mem_cons.mpr ⟨⟨tz_1488, tz_1485, tz_87, by decide +kernel, fun h => (by cases h), fun ci h => (by cases h; exact ⟨tz_1487, tz_55, Or.inr ⟨_, rfl, rfl⟩⟩)⟩, List.forall_mem_cons.mpr ⟨⟨tz_1501, tz_1498, tz_87, by decide +kernel, fun h => (by cases h), fun ci h => (by cases h; exact ⟨tz_1500, tz_57, Or.inr ⟨_, rfl, rfl⟩⟩)⟩, List.forall_mem_cons.mpr ⟨⟨tz_1497, tz_1494, tz_87, by decide +kernel, fun h => (by cases h), fun ci h => (by cases h; exact ⟨tz_1496, tz_56, Or.inr ⟨_, rfl, rfl⟩⟩)⟩, List.forall_mem_cons.mpr ⟨⟨tz_1513, tz_1510, tz_87, by decide +kernel, fun h => (by cases h), fun ci h => (by cases h; exact ⟨tz_1512, tz_59, Or.inr ⟨_, rfl, rfl⟩⟩)⟩, List.forall_mem_cons.mpr ⟨⟨tz_1509, tz_1506, tz_87, by decide +kernel, fun h => (by cases h), fun ci h => (by cases h; exact ⟨tz_1508, tz_58, Or.inr ⟨_, rfl, rfl⟩⟩)⟩, List.forall_mem_cons.mpr ⟨⟨tz_1534, tz_1531, tz_87, by decide +kernel, fun h => (by cases h), fun ci h => (by cases h; exact ⟨tz_1533, tz_61, Or.inr ⟨_, rfl, rfl⟩⟩)⟩, List.forall_mem_cons.mpr ⟨⟨tz_1530, tz_1527, tz_87, by decide +kernel, fun h => (by cases h), fun ci h => (by cases h; exact ⟨tz_1529, tz_60, Or.inr ⟨_, rfl, rfl⟩⟩)⟩, List.forall_mem_cons.mpr ⟨⟨tz_1546, tz_1543, tz_87, by decide +kernel, fun h => (by cases h), fun ci h => (by cases h; exact ⟨tz_1545, tz_63, Or.inr ⟨_, rfl, rfl⟩⟩)⟩, List.forall_mem_cons.mpr ⟨⟨tz_1550, tz_1547, tz_87, by decide +kernel, fun h => (by cases h), fun ci h => (by cases h; exact ⟨tz_1549, tz_64, Or.inr ⟨_, rfl, rfl⟩⟩)⟩, List.forall_mem_cons.mpr ⟨⟨tz_1542, tz_1539, tz_87, by decide +kernel, fun h => (by cases h), fun ci h => (by cases h; exact ⟨tz_1541, tz_62, Or.inr ⟨_, rfl, rfl⟩⟩)⟩, List.forall_mem_cons.mpr ⟨⟨tz_1558, tz_1555, tz_87, by decide +kernel, fun h => (by cases h), fun ci h => (by cases h; exact ⟨tz_1557, tz_65, Or.inr ⟨_, rfl, rfl⟩⟩)⟩, List.forall_mem_cons.mpr ⟨⟨tz_1570, tz_1568, tz_87, by decide +kernel, fun _ => tz_1569, fun _ h => (by cases h)⟩, List.forall_mem_cons.mpr ⟨⟨tz_1567, tz_1564, tz_87, by decide +kernel, fun h => (by cases h), fun ci h => (by cases h; exact ⟨tz_1566, tz_66, Or.inr ⟨_, rfl, rfl⟩⟩)⟩, List.forall_mem_cons.mpr ⟨⟨tz_1573, tz_1571, tz_87, by decide +kernel, fun _ => tz_1572, fun _ h => (by cases h)⟩, List.forall_mem_cons.mpr ⟨⟨tz_1587, tz_1584, tz_87, by decide +kernel, fun h => (by cases h), fun ci h => (by cases h; exact ⟨tz_1586, tz_68, Or.inr ⟨_, rfl, rfl⟩⟩)⟩, List.forall_mem_cons.mpr ⟨⟨tz_1583, tz_1580, tz_87, by decide +kernel, fun h => (by cases h), fun ci h => (by cases h; exact ⟨tz_1582, tz_67, Or.inr ⟨_, rfl, rfl⟩⟩)⟩, List.forall_mem_cons.mpr ⟨⟨tz_1600, tz_1597, tz_87, by decide +kernel, fun h => (by cases h), fun ci h => (by cases h; exact ⟨tz_1599, tz_69, Or.inr ⟨_, rfl, rfl⟩⟩)⟩, List.forall_mem_cons.mpr ⟨⟨tz_1614, tz_1611, tz_87, by decide +kernel, fun h => (by cases h), fun ci h => (by cases h; exact ⟨tz_1613, tz_71, Or.inr ⟨_, rfl, rfl⟩⟩)⟩, List.forall_mem_cons.mpr ⟨⟨tz_1596, tz_1606, tz_87, by decide +kernel, fun h => (by cases h), fun ci h => (by cases h; exact ⟨tz_1594, tz_1595, Or.inr ⟨_, rfl, rfl⟩⟩)⟩, List.forall_mem_cons.mpr ⟨⟨tz_1610, tz_1607, tz_87, by decide +kernel, fun h => (by cases h), fun ci h => (by cases h; exact ⟨tz_1609, tz_70, Or.inr ⟨_, rfl, rfl⟩⟩)⟩, List.forall_mem_cons.mpr ⟨⟨tz_1618, tz_1615, tz_87, by decide +kernel, fun h => (by cases h), fun ci h => (by cases h; exact ⟨tz_1617, tz_72, Or.inr ⟨_, rfl, rfl⟩⟩)⟩, fun _ h => absurd h List.not_mem_nil⟩⟩⟩⟩⟩⟩⟩⟩⟩⟩⟩⟩⟩⟩⟩⟩⟩⟩⟩⟩⟩⟩⟩⟩⟩⟩⟩⟩⟩⟩⟩⟩⟩⟩⟩⟩⟩⟩⟩⟩⟩⟩⟩⟩⟩⟩⟩⟩⟩⟩⟩⟩⟩⟩⟩⟩⟩⟩⟩⟩⟩⟩⟩⟩⟩)
theorem qk_12_wM : qw_ok qw_tw wM qk_12 := ⟨qw_tw_good, wM_wf, wM_cok, wM_tok, qk_12_1wM, qk_12_2wM, qw_all (List.forall_mem_cons.mpr ⟨tz_1250, List.forall_mem_cons.mpr ⟨tz_1588, fun _ h => absurd h List.not_mem_nil⟩⟩), qw_all (List.forall_mem_cons.mpr ⟨tz_1574, List.forall_mem_cons.mpr ⟨tz_1222, List.forall_mem_cons.mpr ⟨tz_1226, List.forall_mem_cons.mpr ⟨tz_1262, List.forall_mem_cons.mpr ⟨tz_1300, List.forall_mem_cons.mpr ⟨tz_1301, List.forall_mem_cons.mpr ⟨tz_1313, List.forall_mem_cons.mpr ⟨tz_1314, List.forall_mem_cons.mpr ⟨tz_1335, List.forall_mem_cons.mpr ⟨tz_1350, List.forall_mem_cons.mpr ⟨tz_1323, List.forall_mem_cons.mpr ⟨tz_1493, List.forall_mem_cons.mpr ⟨tz_1518, List.forall_mem_cons.mpr ⟨tz_1563, List.forall_mem_cons.mpr ⟨tz_1579, List.forall_mem_cons.mpr ⟨tz_1605, fun _ h => absurd h List.not_mem_nil⟩⟩⟩⟩⟩⟩⟩⟩⟩⟩⟩⟩⟩⟩⟩⟩), fun j q z h => (by cases h), fun j h => (qw_ka0 h).elim, qw_all (fun _ h => absurd h List.not_mem_nil), qw_all (fun _ h => absurd h List.not_mem_nil)⟩
def qk_Integer : qw_K := ("java/lang/Integer", [], [], [(265, 1431655765), (266, 858993459), (267, 252645135)], [], [], [], 0, [])
theorem qk_Integer_1wC : ∀ j q, qw_lk (qw_kf qk_Integer) j = some q → ∃ c, (qw_cl wC)[q.1]? = some c ∧ q.2 < c.2.2 ∧ (Cond.fieldLink (qw_kn qk_Integer) j (c.2.1 q.2).1 (c.2.1 q.2).2.1 (c.2.1 q.2).2.2.1 ∈ qw_tw ∨ ∃ host, (qw_kn qk_Integer, j, (c.2.1 q.2).1, (c.2.1 q.2).2.1, (c.2.1 q.2).2.2.1, host) ∈ qw_nst wC) :=
  qw_all (fun _ h => absurd h List.not_mem_nil)
theorem qk_Integer_2wC : ∀ j q, qw_lk (qw_kc qk_Integer) j = some q → qw_yc q.2 ∈ qw_tw ∧ Cond.methodLink (qw_kn qk_Integer) j (qw_yn q.2) ∈ qw_tw ∧ Cond.initialized (qw_yn q.2).cls ∈ qw_tw ∧ ((qw_yn q.2).cls ≠ "java/lang/invoke/MethodHandle" ∧ (qw_yn q.2).cls ≠ "java/lang/invoke/VarHandle" ∧ (parseMethodDescriptor (qw_yn q.2).desc).map (fun d => d.parameters.length) = some (qw_yp q.2)) ∧
    (q.1 = none → Cond.static (qw_yn q.2) ∈ qw_tw) ∧ (∀ ci, q.1 = some ci → Cond.instanceMethod (qw_yn q.2) ∈ qw_tw ∧ Cond.selects (qw_yn q.2).cls (qw_yn q.2) (qw_yn q.2) ∈ qw_tw ∧ ((ci = 13 ∧ (qw_yn q.2).cls = "java/lang/String") ∨ ∃ c, (qw_cl wC)[ci]? = some c ∧ c.1 = (qw_yn q.2).cls)) :=
  qw_all (fun _ h => absurd h List.not_mem_nil)
theorem qk_Integer_wC : qw_ok qw_tw wC qk_Integer := ⟨qw_tw_good, wC_wf, wC_cok, wC_tok, qk_Integer_1wC, qk_Integer_2wC, qw_all (List.forall_mem_cons.mpr ⟨tz_751, List.forall_mem_cons.mpr ⟨tz_752, List.forall_mem_cons.mpr ⟨tz_753, fun _ h => absurd h List.not_mem_nil⟩⟩⟩), qw_all (fun _ h => absurd h List.not_mem_nil), fun j q z h => (by cases h), fun j h => (qw_ka0 h).elim, qw_all (fun _ h => absurd h List.not_mem_nil), qw_all (fun _ h => absurd h List.not_mem_nil)⟩
def qk_Math : qw_K := ("java/lang/Math", [], [], [], [], [], [], 0, [])
theorem qk_Math_1wC : ∀ j q, qw_lk (qw_kf qk_Math) j = some q → ∃ c, (qw_cl wC)[q.1]? = some c ∧ q.2 < c.2.2 ∧ (Cond.fieldLink (qw_kn qk_Math) j (c.2.1 q.2).1 (c.2.1 q.2).2.1 (c.2.1 q.2).2.2.1 ∈ qw_tw ∨ ∃ host, (qw_kn qk_Math, j, (c.2.1 q.2).1, (c.2.1 q.2).2.1, (c.2.1 q.2).2.2.1, host) ∈ qw_nst wC) :=
  qw_all (fun _ h => absurd h List.not_mem_nil)
theorem qk_Math_2wC : ∀ j q, qw_lk (qw_kc qk_Math) j = some q → qw_yc q.2 ∈ qw_tw ∧ Cond.methodLink (qw_kn qk_Math) j (qw_yn q.2) ∈ qw_tw ∧ Cond.initialized (qw_yn q.2).cls ∈ qw_tw ∧ ((qw_yn q.2).cls ≠ "java/lang/invoke/MethodHandle" ∧ (qw_yn q.2).cls ≠ "java/lang/invoke/VarHandle" ∧ (parseMethodDescriptor (qw_yn q.2).desc).map (fun d => d.parameters.length) = some (qw_yp q.2)) ∧
    (q.1 = none → Cond.static (qw_yn q.2) ∈ qw_tw) ∧ (∀ ci, q.1 = some ci → Cond.instanceMethod (qw_yn q.2) ∈ qw_tw ∧ Cond.selects (qw_yn q.2).cls (qw_yn q.2) (qw_yn q.2) ∈ qw_tw ∧ ((ci = 13 ∧ (qw_yn q.2).cls = "java/lang/String") ∨ ∃ c, (qw_cl wC)[ci]? = some c ∧ c.1 = (qw_yn q.2).cls)) :=
  qw_all (fun _ h => absurd h List.not_mem_nil)
theorem qk_Math_wC : qw_ok qw_tw wC qk_Math := ⟨qw_tw_good, wC_wf, wC_cok, wC_tok, qk_Math_1wC, qk_Math_2wC, qw_all (fun _ h => absurd h List.not_mem_nil), qw_all (fun _ h => absurd h List.not_mem_nil), fun j q z h => (by cases h), fun j h => (qw_ka0 h).elim, qw_all (fun _ h => absurd h List.not_mem_nil), qw_all (fun _ h => absurd h List.not_mem_nil)⟩
def qk_String : qw_K := ("java/lang/String", [], [(335, some 13, my_J0_coder), (492, some 13, my_J0_isLatin1), (505, some 13, my_J0_length), (633, some 13, my_J0_indexOf_III), (637, none, my_J1_indexOf)], [], [], [], [(38, 0)], 0, [(15, 1), (9, 0)])
theorem qk_String_1wC : ∀ j q, qw_lk (qw_kf qk_String) j = some q → ∃ c, (qw_cl wC)[q.1]? = some c ∧ q.2 < c.2.2 ∧ (Cond.fieldLink (qw_kn qk_String) j (c.2.1 q.2).1 (c.2.1 q.2).2.1 (c.2.1 q.2).2.2.1 ∈ qw_tw ∨ ∃ host, (qw_kn qk_String, j, (c.2.1 q.2).1, (c.2.1 q.2).2.1, (c.2.1 q.2).2.2.1, host) ∈ qw_nst wC) :=
  qw_all (fun _ h => absurd h List.not_mem_nil)
theorem qk_String_2wC : ∀ j q, qw_lk (qw_kc qk_String) j = some q → qw_yc q.2 ∈ qw_tw ∧ Cond.methodLink (qw_kn qk_String) j (qw_yn q.2) ∈ qw_tw ∧ Cond.initialized (qw_yn q.2).cls ∈ qw_tw ∧ ((qw_yn q.2).cls ≠ "java/lang/invoke/MethodHandle" ∧ (qw_yn q.2).cls ≠ "java/lang/invoke/VarHandle" ∧ (parseMethodDescriptor (qw_yn q.2).desc).map (fun d => d.parameters.length) = some (qw_yp q.2)) ∧
    (q.1 = none → Cond.static (qw_yn q.2) ∈ qw_tw) ∧ (∀ ci, q.1 = some ci → Cond.instanceMethod (qw_yn q.2) ∈ qw_tw ∧ Cond.selects (qw_yn q.2).cls (qw_yn q.2) (qw_yn q.2) ∈ qw_tw ∧ ((ci = 13 ∧ (qw_yn q.2).cls = "java/lang/String") ∨ ∃ c, (qw_cl wC)[ci]? = some c ∧ c.1 = (qw_yn q.2).cls)) :=
  qw_all (List.forall_mem_cons.mpr ⟨⟨tz_488, tz_485, tz_88, by decide +kernel, fun h => (by cases h), fun ci h => (by cases h; exact ⟨tz_486, tz_487, Or.inl ⟨rfl, rfl⟩⟩)⟩, List.forall_mem_cons.mpr ⟨⟨tz_478, tz_475, tz_88, by decide +kernel, fun h => (by cases h), fun ci h => (by cases h; exact ⟨tz_476, tz_477, Or.inl ⟨rfl, rfl⟩⟩)⟩, List.forall_mem_cons.mpr ⟨⟨tz_484, tz_481, tz_88, by decide +kernel, fun h => (by cases h), fun ci h => (by cases h; exact ⟨tz_482, tz_483, Or.inl ⟨rfl, rfl⟩⟩)⟩, List.forall_mem_cons.mpr ⟨⟨tz_474, tz_471, tz_88, by decide +kernel, fun h => (by cases h), fun ci h => (by cases h; exact ⟨tz_472, tz_473, Or.inl ⟨rfl, rfl⟩⟩)⟩, List.forall_mem_cons.mpr ⟨⟨tz_491, tz_489, tz_89, by decide +kernel, fun _ => tz_490, fun _ h => (by cases h)⟩, fun _ h => absurd h List.not_mem_nil⟩⟩⟩⟩⟩)
theorem qk_String_wC : qw_ok qw_tw wC qk_String := ⟨qw_tw_good, wC_wf, wC_cok, wC_tok, qk_String_1wC, qk_String_2wC, qw_all (fun _ h => absurd h List.not_mem_nil), qw_all (fun _ h => absurd h List.not_mem_nil), fun j q z h h2 => (by
    revert h2
    exact qw_all (P := fun j q => (qw_sta wC)[q]? = some z → Cond.fieldLink (qw_kn qk_String) j z.1 z.2.1 z.2.2.1 ∈ qw_tw) (List.forall_mem_cons.mpr ⟨fun h2 => (by cases h2; exact tz_479), fun _ h => absurd h List.not_mem_nil⟩) j q h), fun j h => (qw_ka0 h).elim, qw_all (fun _ h => absurd h List.not_mem_nil), qw_all (List.forall_mem_cons.mpr ⟨⟨fun h => absurd h (by decide), fun _ => tz_1619⟩, List.forall_mem_cons.mpr ⟨⟨fun _ => tz_1620, fun h => absurd h (by decide)⟩, fun _ h => absurd h List.not_mem_nil⟩⟩)⟩
def qk_StringLatin1 : qw_K := ("java/lang/StringLatin1", [], [(38, none, my_J9_min), (88, none, my_J1_canEncode), (92, none, my_J9_max), (95, none, my_J1_indexOfChar)], [], [], [], [], 0, [])
theorem qk_StringLatin1_1wC : ∀ j q, qw_lk (qw_kf qk_StringLatin1) j = some q → ∃ c, (qw_cl wC)[q.1]? = some c ∧ q.2 < c.2.2 ∧ (Cond.fieldLink (qw_kn qk_StringLatin1) j (c.2.1 q.2).1 (c.2.1 q.2).2.1 (c.2.1 q.2).2.2.1 ∈ qw_tw ∨ ∃ host, (qw_kn qk_StringLatin1, j, (c.2.1 q.2).1, (c.2.1 q.2).2.1, (c.2.1 q.2).2.2.1, host) ∈ qw_nst wC) :=
  qw_all (fun _ h => absurd h List.not_mem_nil)
theorem qk_StringLatin1_2wC : ∀ j q, qw_lk (qw_kc qk_StringLatin1) j = some q → qw_yc q.2 ∈ qw_tw ∧ Cond.methodLink (qw_kn qk_StringLatin1) j (qw_yn q.2) ∈ qw_tw ∧ Cond.initialized (qw_yn q.2).cls ∈ qw_tw ∧ ((qw_yn q.2).cls ≠ "java/lang/invoke/MethodHandle" ∧ (qw_yn q.2).cls ≠ "java/lang/invoke/VarHandle" ∧ (parseMethodDescriptor (qw_yn q.2).desc).map (fun d => d.parameters.length) = some (qw_yp q.2)) ∧
    (q.1 = none → Cond.static (qw_yn q.2) ∈ qw_tw) ∧ (∀ ci, q.1 = some ci → Cond.instanceMethod (qw_yn q.2) ∈ qw_tw ∧ Cond.selects (qw_yn q.2).cls (qw_yn q.2) (qw_yn q.2) ∈ qw_tw ∧ ((ci = 13 ∧ (qw_yn q.2).cls = "java/lang/String") ∨ ∃ c, (qw_cl wC)[ci]? = some c ∧ c.1 = (qw_yn q.2).cls)) :=
  qw_all (List.forall_mem_cons.mpr ⟨⟨tz_498, tz_496, tz_76, by decide +kernel, fun _ => tz_497, fun _ h => (by cases h)⟩, List.forall_mem_cons.mpr ⟨⟨tz_494, tz_492, tz_89, by decide +kernel, fun _ => tz_493, fun _ h => (by cases h)⟩, List.forall_mem_cons.mpr ⟨⟨tz_111, tz_495, tz_76, by decide +kernel, fun _ => tz_110, fun _ h => (by cases h)⟩, List.forall_mem_cons.mpr ⟨⟨tz_501, tz_499, tz_89, by decide +kernel, fun _ => tz_500, fun _ h => (by cases h)⟩, fun _ h => absurd h List.not_mem_nil⟩⟩⟩⟩)
theorem qk_StringLatin1_wC : qw_ok qw_tw wC qk_StringLatin1 := ⟨qw_tw_good, wC_wf, wC_cok, wC_tok, qk_StringLatin1_1wC, qk_StringLatin1_2wC, qw_all (fun _ h => absurd h List.not_mem_nil), qw_all (fun _ h => absurd h List.not_mem_nil), fun j q z h => (by cases h), fun j h => (qw_ka0 h).elim, qw_all (fun _ h => absurd h List.not_mem_nil), qw_all (fun _ h => absurd h List.not_mem_nil)⟩
