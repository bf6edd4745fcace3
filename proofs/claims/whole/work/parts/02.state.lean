/-! the state as functions: what a field holds by its number and its object's address; what an array holds by its address and the place -/
abbrev GS : Type := (Nat → Nat → Int32) × (Nat → Nat → Int64) × (Nat → Nat → Option Nat) × (Nat → Nat → Int32) × (Nat → Nat → Int64) × (Nat → Nat → Option Nat)
def gi (G : GS) (f a : Nat) : Int32 := G.1 f a
def gl (G : GS) (f a : Nat) : Int64 := G.2.1 f a
def gr (G : GS) (f a : Nat) : Option Nat := G.2.2.1 f a
def ai (G : GS) (a j : Nat) : Int32 := G.2.2.2.1 a j
def al (G : GS) (a j : Nat) : Int64 := G.2.2.2.2.1 a j
def ar (G : GS) (a j : Nat) : Option Nat := G.2.2.2.2.2 a j
def u2 {α : Type} (F : Nat → Nat → α) (f a : Nat) (x : α) : Nat → Nat → α := fun g b => if g = f ∧ b = a then x else F g b
def si (G : GS) (f a : Nat) (x : Int32) : GS := (u2 G.1 f a x, G.2)
def sl (G : GS) (f a : Nat) (x : Int64) : GS := (G.1, u2 G.2.1 f a x, G.2.2)
def sr (G : GS) (f a : Nat) (x : Option Nat) : GS := (G.1, G.2.1, u2 G.2.2.1 f a x, G.2.2.2)
def ais (G : GS) (a j : Nat) (x : Int32) : GS := (G.1, G.2.1, G.2.2.1, u2 G.2.2.2.1 a j x, G.2.2.2.2)
def als (G : GS) (a j : Nat) (x : Int64) : GS := (G.1, G.2.1, G.2.2.1, G.2.2.2.1, u2 G.2.2.2.2.1 a j x, G.2.2.2.2.2)
def ars (G : GS) (a j : Nat) (x : Option Nat) : GS := (G.1, G.2.1, G.2.2.1, G.2.2.2.1, G.2.2.2.2.1, u2 G.2.2.2.2.2 a j x)
def acB (G : GS) (a b : Nat) (sp dp n : Int32) : GS := (G.1, G.2.1, G.2.2.1, fun c => if c = b then va_cpy (ai G a) (ai G b) sp.toNatClampNeg dp.toNatClampNeg n.toNatClampNeg else ai G c, G.2.2.2.2)
def acOk (n0 n1 : Nat) (sp dp n : Int32) : Prop := ¬ sp < 0 ∧ ¬ dp < 0 ∧ ¬ n < 0 ∧ sp.toNatClampNeg + n.toNatClampNeg ≤ n0 ∧ dp.toNatClampNeg + n.toNatClampNeg ≤ n1
def imin (x y : Int32) : Int32 := if y < x then y else x
def imax (x y : Int32) : Int32 := if x < y then y else x
def lmin (x y : Int64) : Int64 := if y < x then y else x
def isB (x : Int32) : Prop := x = 0 ∨ x = 1
/-- the types of a heap: its addresses, the kind of each (1 + number of its class, or 50 .. an array), an array's length; the constants' addresses: strings, their bytes, enum constants, USERS; the machine's numbers of classes, slots, array classes -/
abbrev TC : Type := ((Nat → Nat) × (Nat → Nat) × (Nat → Nat) × Nat) × (va_G × (Nat → ClassId)) × Nat
abbrev TY : Type := (List Nat × (Nat → Nat) × (Nat → Nat) × (Nat → Nat × Nat)) × TC
def tdom (t : TY) : List Nat := t.1.1
def tk (t : TY) (a : Nat) : Nat := t.1.2.1 a
def tn (t : TY) (a : Nat) : Nat := t.1.2.2.1 a
/-- whose part an address is, and which one (mine alone: the machine knows nothing of it) -/
def tg (t : TY) (a : Nat) : Nat × Nat := t.1.2.2.2 a
def tks (t : TY) (j : Nat) : Nat := t.2.1.1 j
def tkv (t : TY) (j : Nat) : Nat := t.2.1.2.1 j
def tad (t : TY) (i : Nat) : Nat := t.2.1.2.2.1 i
def tus (t : TY) : Nat := t.2.1.2.2.2
def tD (t : TY) : va_G := t.2.2.1.1
def tcA (t : TY) (k : Nat) : ClassId := t.2.2.1.2 k
def tsz (t : TY) : Nat := t.2.2.2
/-- what may be written: all that came behind the law's start -/
def tA (t : TY) : Nat → Prop := fun q => tsz t ≤ q
/-- a new cell -/
def adT (t : TY) (a k n : Nat) (g : Nat × Nat) : TY := ((tdom t ++ [a], fun b => if b = a then k else tk t b, fun b => if b = a then n else tn t b, fun b => if b = a then g else tg t b), t.2)
def zG (G : GS) (a : Nat) : GS := (fun f b => if b = a then 0 else gi G f b, fun f b => if b = a then 0 else gl G f b, fun f b => if b = a then none else gr G f b, fun b j => if b = a then 0 else ai G b j, fun b j => if b = a then 0 else al G b j, fun b j => if b = a then none else ar G b j)
def isU (t : TY) (a : Nat) : Prop := ∃ i, i < 3 ∧ a = tad t i
def ttl (i : Nat) : Nat := 26 + i
def slens : List Nat := [4, 4, 0, 7, 5, 6, 7, 4, 5, 4, 4, 3, 4, 4, 3, 4, 2, 5, 5, 4, 4, 4, 5, 4, 6, 4, 3, 3, 2]
def sbyts : List (List Int32) := [[116, 121, 112, 101], [102, 111, 114, 109], [], [118, 101, 114, 115, 105, 111, 110], [109, 115, 105, 122, 101], [57, 80, 50, 48, 48, 48], [117, 110, 107, 110, 111, 119, 110], [97, 117, 116, 104], [105, 110, 117, 115, 101], [102, 105, 100, 115], [117, 115, 101, 114], [102, 105, 100], [103, 111, 110, 101], [111, 112, 101, 110], [100, 105, 114], [112, 101, 114, 109], [46, 46], [110, 111, 101, 110, 116], [101, 109, 112, 116, 121], [109, 111, 100, 101], [101, 120, 99, 108], [110, 97, 109, 101], [101, 120, 105, 115, 116], [102, 117, 108, 108], [111, 102, 102, 115, 101, 116], [115, 116, 97, 116], [97, 110, 110], [98, 111, 98], [99, 121]]
def slen (j : Nat) : Nat := slens.getD j 0
def sch (j k : Nat) : Int32 := (sbyts.getD j []).getD k 0
def w_str_length (t : TY) (x : Option Nat) (K : Int32 → Prop) : Prop := ∃ j, j < 29 ∧ x = some (tks t j) ∧ K (nI (slen j))
def w_str_isEmpty (t : TY) (x : Option Nat) (K : Int32 → Prop) : Prop := ∃ j, j < 29 ∧ x = some (tks t j) ∧ K (if slen j = 0 then 1 else 0)
def w_str_charAt (t : TY) (x : Option Nat) (i : Int32) (K : Int32 → Prop) : Prop := ∃ j, j < 29 ∧ x = some (tks t j) ∧ vp_in i (slen j) ∧ K (sch j i.toNatClampNeg)
def RK0 : String := "TreeServer$Node"
def TK0 : u_T := fun k => match k with
  | 0 => ("TreeServer$Node", "path", "I", false)
  | 1 => ("TreeServer$Node", "version", "I", false)
  | 2 => ("TreeServer$Node", "mode", "I", false)
  | 3 => ("TreeServer$Node", "mtime", "I", false)
  | 4 => ("TreeServer$Node", "owner", "LTreeServer$User;", false)
  | 5 => ("TreeServer$Node", "group", "LTreeServer$User;", false)
  | 6 => ("TreeServer$Node", "changer", "LTreeServer$User;", false)
  | 7 => ("TreeServer$Node", "home", "LTreeServer$Node;", false)
  | 8 => ("TreeServer$Node", "entries", "I", false)
  | 9 => ("TreeServer$Node", "name", "[B", true)
  | 10 => ("TreeServer$Node", "nameLength", "I", false)
  | 11 => ("TreeServer$Node", "content", "[B", true)
  | _ => ("TreeServer$Node", "length", "I", false)
def yK0 : Nat → FieldType := fun k => match k with
  | 0 => .int
  | 1 => .int
  | 2 => .int
  | 3 => .int
  | 4 => .object "TreeServer$User"
  | 5 => .object "TreeServer$User"
  | 6 => .object "TreeServer$User"
  | 7 => .object "TreeServer$Node"
  | 8 => .int
  | 9 => .array .byte
  | 10 => .int
  | 11 => .array .byte
  | _ => .int
theorem nmK0 : ∀ a, a < 13 → ∀ b, b < 13 → a ≠ b → (TK0 a).2.1 ≠ (TK0 b).2.1 := by decide +kernel
theorem yK0_ok : ∀ k, k < 13 → parseFieldDescriptor (TK0 k).2.2.1 = some (yK0 k) := by decide +kernel
theorem inK0 : ∀ w ∈ u_ws RK0 TK0 13, w ∈ lw_tbl := fun w h => List.mem_append_right _ (by
  have e : u_ws RK0 TK0 13 = [89, 91, 93, 95, 97, 99, 101, 103, 105, 107, 109, 111, 113].filterMap (fun i => tables_1[i]?) := by decide +kernel
  rw [e] at h
  obtain ⟨i, -, hi⟩ := List.mem_filterMap.mp h
  exact List.mem_of_getElem? hi)
def RK1 : String := "TreeServer$Tree"
def TK1 : u_T := fun k => match k with
  | 0 => ("TreeServer$Tree", "root", "LTreeServer$Node;", true)
  | 1 => ("TreeServer$Tree", "nodes", "[LTreeServer$Node;", true)
  | 2 => ("TreeServer$Tree", "count", "I", false)
  | _ => ("TreeServer$Tree", "nextPath", "I", false)
def yK1 : Nat → FieldType := fun k => match k with
  | 0 => .object "TreeServer$Node"
  | 1 => .array (.object "TreeServer$Node")
  | 2 => .int
  | _ => .int
theorem nmK1 : ∀ a, a < 4 → ∀ b, b < 4 → a ≠ b → (TK1 a).2.1 ≠ (TK1 b).2.1 := by decide +kernel
theorem yK1_ok : ∀ k, k < 4 → parseFieldDescriptor (TK1 k).2.2.1 = some (yK1 k) := by decide +kernel
theorem inK1 : ∀ w ∈ u_ws RK1 TK1 4, w ∈ lw_tbl := fun w h => List.mem_append_right _ (by
  have e : u_ws RK1 TK1 4 = [126, 128, 130, 132].filterMap (fun i => tables_1[i]?) := by decide +kernel
  rw [e] at h
  obtain ⟨i, -, hi⟩ := List.mem_filterMap.mp h
  exact List.mem_of_getElem? hi)
def RK2 : String := "TreeServer$Log"
def TK2 : u_T := fun k => match k with
  | 0 => ("TreeServer$Log", "made", "I", false)
  | 1 => ("TreeServer$Log", "cutAfter", "I", false)
  | 2 => ("TreeServer$Log", "running", "Z", false)
  | _ => ("TreeServer$Log", "closed", "Z", false)
def yK2 : Nat → FieldType := fun k => match k with
  | 0 => .int
  | 1 => .int
  | 2 => .boolean
  | _ => .boolean
theorem nmK2 : ∀ a, a < 4 → ∀ b, b < 4 → a ≠ b → (TK2 a).2.1 ≠ (TK2 b).2.1 := by decide +kernel
theorem yK2_ok : ∀ k, k < 4 → parseFieldDescriptor (TK2 k).2.2.1 = some (yK2 k) := by decide +kernel
theorem inK2 : ∀ w ∈ u_ws RK2 TK2 4, w ∈ lw_tbl := fun w h => List.mem_append_right _ (by
  have e : u_ws RK2 TK2 4 = [149, 151, 153, 155].filterMap (fun i => tables_1[i]?) := by decide +kernel
  rw [e] at h
  obtain ⟨i, -, hi⟩ := List.mem_filterMap.mp h
  exact List.mem_of_getElem? hi)
def RK3 : String := "TreeServer$Change"
def TK3 : u_T := fun k => match k with
  | 0 => ("TreeServer$Change", "kind", "LTreeServer$Kind;", false)
  | 1 => ("TreeServer$Change", "node", "LTreeServer$Node;", false)
  | 2 => ("TreeServer$Change", "user", "LTreeServer$User;", false)
  | 3 => ("TreeServer$Change", "time", "I", false)
  | 4 => ("TreeServer$Change", "length", "I", false)
  | 5 => ("TreeServer$Change", "givesMode", "Z", false)
  | 6 => ("TreeServer$Change", "mode", "I", false)
  | 7 => ("TreeServer$Change", "givesMtime", "Z", false)
  | 8 => ("TreeServer$Change", "mtime", "I", false)
  | 9 => ("TreeServer$Change", "group", "LTreeServer$User;", false)
  | 10 => ("TreeServer$Change", "name", "[B", true)
  | 11 => ("TreeServer$Change", "nameLength", "I", false)
  | 12 => ("TreeServer$Change", "bytes", "[B", true)
  | 13 => ("TreeServer$Change", "from", "I", false)
  | _ => ("TreeServer$Change", "count", "I", false)
def yK3 : Nat → FieldType := fun k => match k with
  | 0 => .object "TreeServer$Kind"
  | 1 => .object "TreeServer$Node"
  | 2 => .object "TreeServer$User"
  | 3 => .int
  | 4 => .int
  | 5 => .boolean
  | 6 => .int
  | 7 => .boolean
  | 8 => .int
  | 9 => .object "TreeServer$User"
  | 10 => .array .byte
  | 11 => .int
  | 12 => .array .byte
  | 13 => .int
  | _ => .int
theorem nmK3 : ∀ a, a < 15 → ∀ b, b < 15 → a ≠ b → (TK3 a).2.1 ≠ (TK3 b).2.1 := by decide +kernel
theorem yK3_ok : ∀ k, k < 15 → parseFieldDescriptor (TK3 k).2.2.1 = some (yK3 k) := by decide +kernel
theorem inK3 : ∀ w ∈ u_ws RK3 TK3 15, w ∈ lw_tbl := fun w h => List.mem_append_right _ (by
  have e : u_ws RK3 TK3 15 = [193, 195, 197, 199, 201, 203, 205, 207, 209, 211, 213, 215, 217, 219, 221].filterMap (fun i => tables_1[i]?) := by decide +kernel
  rw [e] at h
  obtain ⟨i, -, hi⟩ := List.mem_filterMap.mp h
  exact List.mem_of_getElem? hi)
def RK4 : String := "TreeServer$Message"
def TK4 : u_T := fun k => match k with
  | 0 => ("TreeServer$Message", "bytes", "[B", true)
  | 1 => ("TreeServer$Message", "size", "I", false)
  | 2 => ("TreeServer$Message", "type", "I", false)
  | 3 => ("TreeServer$Message", "tag", "I", false)
  | 4 => ("TreeServer$Message", "textAt", "[I", true)
  | 5 => ("TreeServer$Message", "textLength", "[I", true)
  | 6 => ("TreeServer$Message", "texts", "I", false)
  | _ => ("TreeServer$Message", "textsEnd", "I", false)
def yK4 : Nat → FieldType := fun k => match k with
  | 0 => .array .byte
  | 1 => .int
  | 2 => .int
  | 3 => .int
  | 4 => .array .int
  | 5 => .array .int
  | 6 => .int
  | _ => .int
theorem nmK4 : ∀ a, a < 8 → ∀ b, b < 8 → a ≠ b → (TK4 a).2.1 ≠ (TK4 b).2.1 := by decide +kernel
theorem yK4_ok : ∀ k, k < 8 → parseFieldDescriptor (TK4 k).2.2.1 = some (yK4 k) := by decide +kernel
theorem inK4 : ∀ w ∈ u_ws RK4 TK4 8, w ∈ lw_tbl := fun w h => List.mem_append_right _ (by
  have e : u_ws RK4 TK4 8 = [244, 246, 248, 250, 252, 254, 256, 258].filterMap (fun i => tables_1[i]?) := by decide +kernel
  rw [e] at h
  obtain ⟨i, -, hi⟩ := List.mem_filterMap.mp h
  exact List.mem_of_getElem? hi)
def RK5 : String := "TreeServer$Answer"
def TK5 : u_T := fun k => match k with
  | 0 => ("TreeServer$Answer", "bytes", "[B", true)
  | _ => ("TreeServer$Answer", "length", "I", false)
def yK5 : Nat → FieldType := fun k => match k with
  | 0 => .array .byte
  | _ => .int
theorem nmK5 : ∀ a, a < 2 → ∀ b, b < 2 → a ≠ b → (TK5 a).2.1 ≠ (TK5 b).2.1 := by decide +kernel
theorem yK5_ok : ∀ k, k < 2 → parseFieldDescriptor (TK5 k).2.2.1 = some (yK5 k) := by decide +kernel
theorem inK5 : ∀ w ∈ u_ws RK5 TK5 2, w ∈ lw_tbl := fun w h => List.mem_append_right _ (by
  have e : u_ws RK5 TK5 2 = [270, 272].filterMap (fun i => tables_1[i]?) := by decide +kernel
  rw [e] at h
  obtain ⟨i, -, hi⟩ := List.mem_filterMap.mp h
  exact List.mem_of_getElem? hi)
def RK6 : String := "TreeServer$Fid"
def TK6 : u_T := fun k => match k with
  | 0 => ("TreeServer$Fid", "used", "Z", false)
  | 1 => ("TreeServer$Fid", "number", "J", false)
  | 2 => ("TreeServer$Fid", "node", "LTreeServer$Node;", false)
  | 3 => ("TreeServer$Fid", "path", "I", false)
  | 4 => ("TreeServer$Fid", "user", "LTreeServer$User;", false)
  | 5 => ("TreeServer$Fid", "openMode", "I", false)
  | 6 => ("TreeServer$Fid", "removes", "Z", false)
  | 7 => ("TreeServer$Fid", "nextOffset", "J", false)
  | _ => ("TreeServer$Fid", "lastRead", "I", false)
def yK6 : Nat → FieldType := fun k => match k with
  | 0 => .boolean
  | 1 => .long
  | 2 => .object "TreeServer$Node"
  | 3 => .int
  | 4 => .object "TreeServer$User"
  | 5 => .int
  | 6 => .boolean
  | 7 => .long
  | _ => .int
theorem nmK6 : ∀ a, a < 9 → ∀ b, b < 9 → a ≠ b → (TK6 a).2.1 ≠ (TK6 b).2.1 := by decide +kernel
theorem yK6_ok : ∀ k, k < 9 → parseFieldDescriptor (TK6 k).2.2.1 = some (yK6 k) := by decide +kernel
theorem inK6 : ∀ w ∈ u_ws RK6 TK6 9, w ∈ lw_tbl := fun w h => List.mem_append_right _ (by
  have e : u_ws RK6 TK6 9 = [313, 315, 317, 319, 321, 323, 325, 327, 329].filterMap (fun i => tables_1[i]?) := by decide +kernel
  rw [e] at h
  obtain ⟨i, -, hi⟩ := List.mem_filterMap.mp h
  exact List.mem_of_getElem? hi)
def RK7 : String := "TreeServer$Link"
def TK7 : u_T := fun k => match k with
  | 0 => ("TreeServer$Link", "input", "[B", true)
  | 1 => ("TreeServer$Link", "inputLength", "I", false)
  | 2 => ("TreeServer$Link", "output", "[B", true)
  | 3 => ("TreeServer$Link", "outputLength", "I", false)
  | 4 => ("TreeServer$Link", "msize", "I", false)
  | 5 => ("TreeServer$Link", "agreed", "Z", false)
  | 6 => ("TreeServer$Link", "broken", "Z", false)
  | _ => ("TreeServer$Link", "fids", "[LTreeServer$Fid;", true)
def yK7 : Nat → FieldType := fun k => match k with
  | 0 => .array .byte
  | 1 => .int
  | 2 => .array .byte
  | 3 => .int
  | 4 => .int
  | 5 => .boolean
  | 6 => .boolean
  | _ => .array (.object "TreeServer$Fid")
theorem nmK7 : ∀ a, a < 8 → ∀ b, b < 8 → a ≠ b → (TK7 a).2.1 ≠ (TK7 b).2.1 := by decide +kernel
theorem yK7_ok : ∀ k, k < 8 → parseFieldDescriptor (TK7 k).2.2.1 = some (yK7 k) := by decide +kernel
theorem inK7 : ∀ w ∈ u_ws RK7 TK7 8, w ∈ lw_tbl := fun w h => List.mem_append_right _ (by
  have e : u_ws RK7 TK7 8 = [347, 349, 351, 353, 355, 357, 359, 361].filterMap (fun i => tables_1[i]?) := by decide +kernel
  rw [e] at h
  obtain ⟨i, -, hi⟩ := List.mem_filterMap.mp h
  exact List.mem_of_getElem? hi)
def RK8 : String := "TreeServer"
def TK8 : u_T := fun k => match k with
  | 0 => ("TreeServer", "tree", "LTreeServer$Tree;", true)
  | 1 => ("TreeServer", "log", "LTreeServer$Log;", true)
  | 2 => ("TreeServer", "change", "LTreeServer$Change;", true)
  | 3 => ("TreeServer", "message", "LTreeServer$Message;", true)
  | 4 => ("TreeServer", "answer", "LTreeServer$Answer;", true)
  | 5 => ("TreeServer", "links", "[LTreeServer$Link;", true)
  | _ => ("TreeServer", "now", "I", false)
def yK8 : Nat → FieldType := fun k => match k with
  | 0 => .object "TreeServer$Tree"
  | 1 => .object "TreeServer$Log"
  | 2 => .object "TreeServer$Change"
  | 3 => .object "TreeServer$Message"
  | 4 => .object "TreeServer$Answer"
  | 5 => .array (.object "TreeServer$Link")
  | _ => .int
theorem nmK8 : ∀ a, a < 7 → ∀ b, b < 7 → a ≠ b → (TK8 a).2.1 ≠ (TK8 b).2.1 := by decide +kernel
theorem yK8_ok : ∀ k, k < 7 → parseFieldDescriptor (TK8 k).2.2.1 = some (yK8 k) := by decide +kernel
theorem inK8 : ∀ w ∈ u_ws RK8 TK8 7, w ∈ lw_tbl := fun w h => List.mem_append_right _ (by
  have e : u_ws RK8 TK8 7 = [371, 373, 375, 377, 379, 381, 383].filterMap (fun i => tables_1[i]?) := by decide +kernel
  rw [e] at h
  obtain ⟨i, -, hi⟩ := List.mem_filterMap.mp h
  exact List.mem_of_getElem? hi)
def RK9 : String := "TreeServerModel"
def TK9 : u_T := fun k => match k with
  | 0 => ("TreeServerModel", "tree", "[I", true)
  | 1 => ("TreeServerModel", "before", "[I", true)
  | 2 => ("TreeServerModel", "pending", "[I", true)
  | 3 => ("TreeServerModel", "kept", "Z", false)
  | 4 => ("TreeServerModel", "paths", "I", false)
  | 5 => ("TreeServerModel", "down", "Z", false)
  | 6 => ("TreeServerModel", "cutAt", "I", false)
  | 7 => ("TreeServerModel", "written", "I", false)
  | 8 => ("TreeServerModel", "time", "I", false)
  | 9 => ("TreeServerModel", "input", "[I", true)
  | 10 => ("TreeServerModel", "inSize", "[I", true)
  | 11 => ("TreeServerModel", "output", "[I", true)
  | 12 => ("TreeServerModel", "outSize", "[I", true)
  | 13 => ("TreeServerModel", "msize", "[I", true)
  | 14 => ("TreeServerModel", "agreed", "[Z", true)
  | 15 => ("TreeServerModel", "broken", "[Z", true)
  | 16 => ("TreeServerModel", "used", "[Z", true)
  | 17 => ("TreeServerModel", "number", "[J", true)
  | 18 => ("TreeServerModel", "node", "[I", true)
  | 19 => ("TreeServerModel", "user", "[I", true)
  | 20 => ("TreeServerModel", "mode", "[I", true)
  | 21 => ("TreeServerModel", "removes", "[Z", true)
  | 22 => ("TreeServerModel", "readTo", "[J", true)
  | 23 => ("TreeServerModel", "readLast", "[I", true)
  | 24 => ("TreeServerModel", "message", "[I", true)
  | 25 => ("TreeServerModel", "size", "I", false)
  | 26 => ("TreeServerModel", "answer", "[I", true)
  | 27 => ("TreeServerModel", "made", "I", false)
  | 28 => ("TreeServerModel", "error", "J", false)
  | _ => ("TreeServerModel", "who", "I", false)
def yK9 : Nat → FieldType := fun k => match k with
  | 0 => .array .int
  | 1 => .array .int
  | 2 => .array .int
  | 3 => .boolean
  | 4 => .int
  | 5 => .boolean
  | 6 => .int
  | 7 => .int
  | 8 => .int
  | 9 => .array .int
  | 10 => .array .int
  | 11 => .array .int
  | 12 => .array .int
  | 13 => .array .int
  | 14 => .array .boolean
  | 15 => .array .boolean
  | 16 => .array .boolean
  | 17 => .array .long
  | 18 => .array .int
  | 19 => .array .int
  | 20 => .array .int
  | 21 => .array .boolean
  | 22 => .array .long
  | 23 => .array .int
  | 24 => .array .int
  | 25 => .int
  | 26 => .array .int
  | 27 => .int
  | 28 => .long
  | _ => .int
theorem nmK9 : ∀ a, a < 30 → ∀ b, b < 30 → a ≠ b → (TK9 a).2.1 ≠ (TK9 b).2.1 := by decide +kernel
theorem yK9_ok : ∀ k, k < 30 → parseFieldDescriptor (TK9 k).2.2.1 = some (yK9 k) := by decide +kernel
theorem inK9 : ∀ w ∈ u_ws RK9 TK9 30, w ∈ lw_tbl := fun w h => List.mem_append_right _ (by
  have e : u_ws RK9 TK9 30 = [1020, 1022, 1024, 1026, 1028, 1030, 1032, 1034, 1036, 1038, 1040, 1042, 1044, 1046, 1048, 1050, 1052, 1054, 1056, 1058, 1060, 1062, 1064, 1066, 1068, 1070, 1072, 1074, 1076, 1078].filterMap (fun i => tables_1[i]?) := by decide +kernel
  rw [e] at h
  obtain ⟨i, -, hi⟩ := List.mem_filterMap.mp h
  exact List.mem_of_getElem? hi)
theorem inG0 : ∀ w ∈ u_ws RK0 TK0 13, goodWord w = true := by decide +kernel
theorem inG1 : ∀ w ∈ u_ws RK1 TK1 4, goodWord w = true := by decide +kernel
theorem inG2 : ∀ w ∈ u_ws RK2 TK2 4, goodWord w = true := by decide +kernel
theorem inG3 : ∀ w ∈ u_ws RK3 TK3 15, goodWord w = true := by decide +kernel
theorem inG4 : ∀ w ∈ u_ws RK4 TK4 8, goodWord w = true := by decide +kernel
theorem inG5 : ∀ w ∈ u_ws RK5 TK5 2, goodWord w = true := by decide +kernel
theorem inG6 : ∀ w ∈ u_ws RK6 TK6 9, goodWord w = true := by decide +kernel
theorem inG7 : ∀ w ∈ u_ws RK7 TK7 8, goodWord w = true := by decide +kernel
theorem inG8 : ∀ w ∈ u_ws RK8 TK8 7, goodWord w = true := by decide +kernel
theorem inG9 : ∀ w ∈ u_ws RK9 TK9 30, goodWord w = true := by decide +kernel
abbrev mcl : List vw_C := [(RK0, TK0, 13), (RK1, TK1, 4), (RK2, TK2, 4), (RK3, TK3, 15), (RK4, TK4, 8), (RK5, TK5, 2), (RK6, TK6, 9), (RK7, TK7, 8), (RK8, TK8, 7), (RK9, TK9, 30)]
abbrev mty (t : TY) : List (ClassId × FieldType) := [(tcA t 50, .int), (tcA t 51, .byte), (tcA t 52, .boolean), (tcA t 53, .long), (tcA t 54, .object "TreeServer$Node"), (tcA t 55, .object "TreeServer$Link"), (tcA t 56, .object "TreeServer$Fid")]
/-- what lies at an address -/
def mE (t : TY) (G : GS) (a : Nat) : va_E := match tk t a with
  | 1 => .inr (0, [.int (gi G 0 a), .int (gi G 1 a), .int (gi G 2 a), .int (gi G 3 a), va_rf (gr G 4 a), va_rf (gr G 5 a), va_rf (gr G 6 a), va_rf (gr G 7 a), .int (gi G 8 a), va_rf (gr G 9 a), .int (gi G 10 a), va_rf (gr G 11 a), .int (gi G 12 a)])
  | 2 => .inr (1, [va_rf (gr G 13 a), va_rf (gr G 14 a), .int (gi G 15 a), .int (gi G 16 a)])
  | 3 => .inr (2, [.int (gi G 17 a), .int (gi G 18 a), .int (gi G 19 a), .int (gi G 20 a)])
  | 4 => .inr (3, [va_rf (gr G 21 a), va_rf (gr G 22 a), va_rf (gr G 23 a), .int (gi G 24 a), .int (gi G 25 a), .int (gi G 26 a), .int (gi G 27 a), .int (gi G 28 a), .int (gi G 29 a), va_rf (gr G 30 a), va_rf (gr G 31 a), .int (gi G 32 a), va_rf (gr G 33 a), .int (gi G 34 a), .int (gi G 35 a)])
  | 5 => .inr (4, [va_rf (gr G 36 a), .int (gi G 37 a), .int (gi G 38 a), .int (gi G 39 a), va_rf (gr G 40 a), va_rf (gr G 41 a), .int (gi G 42 a), .int (gi G 43 a)])
  | 6 => .inr (5, [va_rf (gr G 44 a), .int (gi G 45 a)])
  | 7 => .inr (6, [.int (gi G 46 a), .long (gl G 47 a), va_rf (gr G 48 a), .int (gi G 49 a), va_rf (gr G 50 a), .int (gi G 51 a), .int (gi G 52 a), .long (gl G 53 a), .int (gi G 54 a)])
  | 8 => .inr (7, [va_rf (gr G 55 a), .int (gi G 56 a), va_rf (gr G 57 a), .int (gi G 58 a), .int (gi G 59 a), .int (gi G 60 a), .int (gi G 61 a), va_rf (gr G 62 a)])
  | 9 => .inr (8, [va_rf (gr G 63 a), va_rf (gr G 64 a), va_rf (gr G 65 a), va_rf (gr G 66 a), va_rf (gr G 67 a), va_rf (gr G 68 a), .int (gi G 69 a)])
  | 10 => .inr (9, [va_rf (gr G 70 a), va_rf (gr G 71 a), va_rf (gr G 72 a), .int (gi G 73 a), .int (gi G 74 a), .int (gi G 75 a), .int (gi G 76 a), .int (gi G 77 a), .int (gi G 78 a), va_rf (gr G 79 a), va_rf (gr G 80 a), va_rf (gr G 81 a), va_rf (gr G 82 a), va_rf (gr G 83 a), va_rf (gr G 84 a), va_rf (gr G 85 a), va_rf (gr G 86 a), va_rf (gr G 87 a), va_rf (gr G 88 a), va_rf (gr G 89 a), va_rf (gr G 90 a), va_rf (gr G 91 a), va_rf (gr G 92 a), va_rf (gr G 93 a), va_rf (gr G 94 a), .int (gi G 95 a), va_rf (gr G 96 a), .int (gi G 97 a), .long (gl G 98 a), .int (gi G 99 a)])
  | 50 => .inl (tcA t 50, tn t a, .inl (ai G a))
  | 51 => .inl (tcA t 51, tn t a, .inl (ai G a))
  | 52 => .inl (tcA t 52, tn t a, .inl (ai G a))
  | 53 => .inl (tcA t 53, tn t a, .inr (.inl (al G a)))
  | 54 => .inl (tcA t 54, tn t a, .inr (.inr (.inr (.inr (ar G a)))))
  | 55 => .inl (tcA t 55, tn t a, .inr (.inr (.inr (.inr (ar G a)))))
  | 56 => .inl (tcA t 56, tn t a, .inr (.inr (.inr (.inr (ar G a)))))
  | _ => .inr (99, [])
theorem mE_1 {t : TY} {G : GS} {a : Nat} (h : tk t a = 1) : mE t G a = .inr (0, [.int (gi G 0 a), .int (gi G 1 a), .int (gi G 2 a), .int (gi G 3 a), va_rf (gr G 4 a), va_rf (gr G 5 a), va_rf (gr G 6 a), va_rf (gr G 7 a), .int (gi G 8 a), va_rf (gr G 9 a), .int (gi G 10 a), va_rf (gr G 11 a), .int (gi G 12 a)]) := by unfold mE; rw [h]; try rfl
theorem mE_2 {t : TY} {G : GS} {a : Nat} (h : tk t a = 2) : mE t G a = .inr (1, [va_rf (gr G 13 a), va_rf (gr G 14 a), .int (gi G 15 a), .int (gi G 16 a)]) := by unfold mE; rw [h]; try rfl
theorem mE_3 {t : TY} {G : GS} {a : Nat} (h : tk t a = 3) : mE t G a = .inr (2, [.int (gi G 17 a), .int (gi G 18 a), .int (gi G 19 a), .int (gi G 20 a)]) := by unfold mE; rw [h]; try rfl
theorem mE_4 {t : TY} {G : GS} {a : Nat} (h : tk t a = 4) : mE t G a = .inr (3, [va_rf (gr G 21 a), va_rf (gr G 22 a), va_rf (gr G 23 a), .int (gi G 24 a), .int (gi G 25 a), .int (gi G 26 a), .int (gi G 27 a), .int (gi G 28 a), .int (gi G 29 a), va_rf (gr G 30 a), va_rf (gr G 31 a), .int (gi G 32 a), va_rf (gr G 33 a), .int (gi G 34 a), .int (gi G 35 a)]) := by unfold mE; rw [h]; try rfl
theorem mE_5 {t : TY} {G : GS} {a : Nat} (h : tk t a = 5) : mE t G a = .inr (4, [va_rf (gr G 36 a), .int (gi G 37 a), .int (gi G 38 a), .int (gi G 39 a), va_rf (gr G 40 a), va_rf (gr G 41 a), .int (gi G 42 a), .int (gi G 43 a)]) := by unfold mE; rw [h]; try rfl
theorem mE_6 {t : TY} {G : GS} {a : Nat} (h : tk t a = 6) : mE t G a = .inr (5, [va_rf (gr G 44 a), .int (gi G 45 a)]) := by unfold mE; rw [h]; try rfl
theorem mE_7 {t : TY} {G : GS} {a : Nat} (h : tk t a = 7) : mE t G a = .inr (6, [.int (gi G 46 a), .long (gl G 47 a), va_rf (gr G 48 a), .int (gi G 49 a), va_rf (gr G 50 a), .int (gi G 51 a), .int (gi G 52 a), .long (gl G 53 a), .int (gi G 54 a)]) := by unfold mE; rw [h]; try rfl
theorem mE_8 {t : TY} {G : GS} {a : Nat} (h : tk t a = 8) : mE t G a = .inr (7, [va_rf (gr G 55 a), .int (gi G 56 a), va_rf (gr G 57 a), .int (gi G 58 a), .int (gi G 59 a), .int (gi G 60 a), .int (gi G 61 a), va_rf (gr G 62 a)]) := by unfold mE; rw [h]; try rfl
theorem mE_9 {t : TY} {G : GS} {a : Nat} (h : tk t a = 9) : mE t G a = .inr (8, [va_rf (gr G 63 a), va_rf (gr G 64 a), va_rf (gr G 65 a), va_rf (gr G 66 a), va_rf (gr G 67 a), va_rf (gr G 68 a), .int (gi G 69 a)]) := by unfold mE; rw [h]; try rfl
theorem mE_10 {t : TY} {G : GS} {a : Nat} (h : tk t a = 10) : mE t G a = .inr (9, [va_rf (gr G 70 a), va_rf (gr G 71 a), va_rf (gr G 72 a), .int (gi G 73 a), .int (gi G 74 a), .int (gi G 75 a), .int (gi G 76 a), .int (gi G 77 a), .int (gi G 78 a), va_rf (gr G 79 a), va_rf (gr G 80 a), va_rf (gr G 81 a), va_rf (gr G 82 a), va_rf (gr G 83 a), va_rf (gr G 84 a), va_rf (gr G 85 a), va_rf (gr G 86 a), va_rf (gr G 87 a), va_rf (gr G 88 a), va_rf (gr G 89 a), va_rf (gr G 90 a), va_rf (gr G 91 a), va_rf (gr G 92 a), va_rf (gr G 93 a), va_rf (gr G 94 a), .int (gi G 95 a), va_rf (gr G 96 a), .int (gi G 97 a), .long (gl G 98 a), .int (gi G 99 a)]) := by unfold mE; rw [h]; try rfl
theorem mE_50 {t : TY} {G : GS} {a : Nat} (h : tk t a = 50) : mE t G a = .inl (tcA t 50, tn t a, .inl (ai G a)) := by unfold mE; rw [h]; try rfl
theorem mE_51 {t : TY} {G : GS} {a : Nat} (h : tk t a = 51) : mE t G a = .inl (tcA t 51, tn t a, .inl (ai G a)) := by unfold mE; rw [h]; try rfl
theorem mE_52 {t : TY} {G : GS} {a : Nat} (h : tk t a = 52) : mE t G a = .inl (tcA t 52, tn t a, .inl (ai G a)) := by unfold mE; rw [h]; try rfl
theorem mE_53 {t : TY} {G : GS} {a : Nat} (h : tk t a = 53) : mE t G a = .inl (tcA t 53, tn t a, .inr (.inl (al G a))) := by unfold mE; rw [h]; try rfl
theorem mE_54 {t : TY} {G : GS} {a : Nat} (h : tk t a = 54) : mE t G a = .inl (tcA t 54, tn t a, .inr (.inr (.inr (.inr (ar G a))))) := by unfold mE; rw [h]; try rfl
theorem mE_55 {t : TY} {G : GS} {a : Nat} (h : tk t a = 55) : mE t G a = .inl (tcA t 55, tn t a, .inr (.inr (.inr (.inr (ar G a))))) := by unfold mE; rw [h]; try rfl
theorem mE_56 {t : TY} {G : GS} {a : Nat} (h : tk t a = 56) : mE t G a = .inl (tcA t 56, tn t a, .inr (.inr (.inr (.inr (ar G a))))) := by unfold mE; rw [h]; try rfl
theorem mE_congr {t : TY} {G G' : GS} {b : Nat} (h1 : ∀ f, gi G' f b = gi G f b) (h2 : ∀ f, gl G' f b = gl G f b) (h3 : ∀ f, gr G' f b = gr G f b) (h4 : ai G' b = ai G b) (h5 : al G' b = al G b) (h6 : ar G' b = ar G b) : mE t G' b = mE t G b := by
  unfold mE
  simp only [h1, h2, h3, h4, h5, h6]
theorem u2_off {α : Type} {F : Nat → Nat → α} {f a : Nat} {x : α} {g b : Nat} (h : b ≠ a) : u2 F f a x g b = F g b := by unfold u2; rw [if_neg (fun q => h q.2)]
theorem u2_offR {α : Type} {F : Nat → Nat → α} {f a : Nat} {x : α} {g : Nat} (h : g ≠ f) : u2 F f a x g = F g := by funext b; unfold u2; rw [if_neg (fun q => h q.1)]
theorem u2_at {α : Type} {F : Nat → Nat → α} {f a : Nat} {x : α} : u2 F f a x f a = x := by unfold u2; rw [if_pos ⟨rfl, rfl⟩]
theorem u2_ne {α : Type} {F : Nat → Nat → α} {f a : Nat} {x : α} {g b : Nat} (h : g ≠ f) : u2 F f a x g b = F g b := by unfold u2; rw [if_neg (fun q => h q.1)]
theorem mE_si {t : TY} {G : GS} {f a : Nat} {x : Int32} {b : Nat} (h : b ≠ a) : mE t (si G f a x) b = mE t G b := mE_congr (fun g => u2_off h) (fun _ => rfl) (fun _ => rfl) rfl rfl rfl
theorem mE_sl {t : TY} {G : GS} {f a : Nat} {x : Int64} {b : Nat} (h : b ≠ a) : mE t (sl G f a x) b = mE t G b := mE_congr (fun _ => rfl) (fun g => u2_off h) (fun _ => rfl) rfl rfl rfl
theorem mE_sr {t : TY} {G : GS} {f a : Nat} {x : Option Nat} {b : Nat} (h : b ≠ a) : mE t (sr G f a x) b = mE t G b := mE_congr (fun _ => rfl) (fun _ => rfl) (fun g => u2_off h) rfl rfl rfl
theorem mE_ais {t : TY} {G : GS} {a j : Nat} {x : Int32} {b : Nat} (h : b ≠ a) : mE t (ais G a j x) b = mE t G b := mE_congr (fun _ => rfl) (fun _ => rfl) (fun _ => rfl) (u2_offR h) rfl rfl
theorem mE_als {t : TY} {G : GS} {a j : Nat} {x : Int64} {b : Nat} (h : b ≠ a) : mE t (als G a j x) b = mE t G b := mE_congr (fun _ => rfl) (fun _ => rfl) (fun _ => rfl) rfl (u2_offR h) rfl
theorem mE_ars {t : TY} {G : GS} {a j : Nat} {x : Option Nat} {b : Nat} (h : b ≠ a) : mE t (ars G a j x) b = mE t G b := mE_congr (fun _ => rfl) (fun _ => rfl) (fun _ => rfl) rfl rfl (u2_offR h)
theorem mE_acB {t : TY} {G : GS} {a c : Nat} {sp dp n : Int32} {b : Nat} (h : b ≠ c) : mE t (acB G a c sp dp n) b = mE t G b := mE_congr (fun _ => rfl) (fun _ => rfl) (fun _ => rfl) (by show (if b = c then _ else _) = _; rw [if_neg h]) rfl rfl
theorem ais_row {G : GS} {a j : Nat} {x : Int32} : ai (ais G a j x) a = upd (ai G a) j x := by
  funext b
  show u2 _ _ _ _ _ _ = _
  unfold u2 upd
  by_cases h : b = j
  · rw [if_pos ⟨rfl, h⟩, if_pos h]
  · rw [if_neg (fun q => h q.2), if_neg h]
    rfl
theorem als_row {G : GS} {a j : Nat} {x : Int64} : al (als G a j x) a = vp_updL (al G a) j x := by
  funext b
  show u2 _ _ _ _ _ _ = _
  unfold u2 vp_updL
  by_cases h : b = j
  · rw [if_pos ⟨rfl, h⟩, if_pos h]
  · rw [if_neg (fun q => h q.2), if_neg h]
    rfl
theorem ars_row {G : GS} {a j : Nat} {x : Option Nat} : ar (ars G a j x) a = va_up (ar G a) j x := by
  funext b
  show u2 _ _ _ _ _ _ = _
  unfold u2 va_up
  by_cases h : b = j
  · rw [if_pos ⟨rfl, h⟩, if_pos h]
  · rw [if_neg (fun q => h q.2), if_neg h]
    rfl
/-- the heap holds G; bytes are bytes -/
def HB (t : TY) (G : GS) (H : Heap) : Prop := va_P (tD t) mcl (va_pl (tdom t) (mE t G)) H ∧ va_D (tA t) (va_pl (tdom t) (mE t G)) ∧ ∀ a j, tk t a = 51 → fits .byte (.int (ai G a j)) = true
theorem HB.get {t : TY} {G : GS} {H : Heap} (h : HB t G H) {a : Nat} (ha : a ∈ tdom t) : ∃ k : Nat, (va_pl (tdom t) (mE t G))[k]? = some (a, mE t G a) := va_pl_get (X := []) ha
/-- a cell of the heap is set -/
theorem HB.set {t : TY} {G G' : GS} {H1 : Heap} {a k : Nat} {e : va_E} {hH : Heap} (h : HB t G hH) (ha : a ∈ tdom t) (hk : (va_pl (tdom t) (mE t G))[k]? = some (a, mE t G a)) (he : mE t G' a = e) (ho : ∀ b, b ≠ a → mE t G' b = mE t G b)
    (hP : va_P (tD t) mcl ((va_pl (tdom t) (mE t G)).set k (a, e)) H1) (hD : va_D (tA t) ((va_pl (tdom t) (mE t G)).set k (a, e))) (hb : ∀ a j, tk t a = 51 → fits .byte (.int (ai G' a j)) = true) : HB t G' H1 := by
  have e1 : (va_pl (tdom t) (mE t G)).set k (a, e) = va_pl (tdom t) (mE t G') := by
    have := va_pl_set (X := []) (e := e) h.2.1 ha hk
    simp only [List.nil_append] at this
    rw [this]
    apply va_pl_congr
    intro b
    by_cases hb : b = a
    · subst hb
      rw [va_up_self, he]
    · rw [va_up_ne _ _ hb, ho b hb]
  rw [e1] at hP hD
  exact ⟨hP, hD, hb⟩
