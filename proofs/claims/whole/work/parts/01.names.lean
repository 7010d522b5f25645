/-! names: classes and their fields, methods, links (by program gen01.py) -/
def ax_Ts : List Cond := lw_tbl.filter goodWord
theorem ax_mem {w : Cond} (i : Nat) (h : lw_tbl[i]? = some w) (hg : goodWord w = true) : w ∈ ax_Ts := List.mem_filter.mpr ⟨List.mem_of_getElem? h, hg⟩
theorem ax_Ts_sub : ∀ w ∈ ax_Ts, w ∈ lw_tbl := fun w h => (List.mem_filter.mp h).1
theorem ax_Ts_good : ∀ w ∈ ax_Ts, goodWord w = true := fun w h => (List.mem_filter.mp h).2
abbrev rn_0 : String := "RowsIntoPlane$Boarding"
def tb_0 : u_T := fun k => match k with
  | 0 => ("RowsIntoPlane$Boarding", "people", "LRowsIntoPlane$People;", true)
  | 1 => ("RowsIntoPlane$Boarding", "row", "[I", true)
  | 2 => ("RowsIntoPlane$Boarding", "bags", "[I", true)
  | 3 => ("RowsIntoPlane$Boarding", "coming", "[I", true)
  | 4 => ("RowsIntoPlane$Boarding", "left", "[I", true)
  | 5 => ("RowsIntoPlane$Boarding", "busy", "[I", true)
  | 6 => ("RowsIntoPlane$Boarding", "sat", "[I", true)
  | 7 => ("RowsIntoPlane$Boarding", "waited", "[I", true)
  | 8 => ("RowsIntoPlane$Boarding", "bins", "[[I", true)
  | 9 => ("RowsIntoPlane$Boarding", "aisle", "[I", true)
  | 10 => ("RowsIntoPlane$Boarding", "rows", "I", false)
  | 11 => ("RowsIntoPlane$Boarding", "room", "I", false)
  | 12 => ("RowsIntoPlane$Boarding", "many", "I", false)
  | 13 => ("RowsIntoPlane$Boarding", "seated", "I", false)
  | 14 => ("RowsIntoPlane$Boarding", "below", "I", false)
  | _ => ("RowsIntoPlane$Boarding", "seconds", "I", false)
def ft_0 : Nat → FieldType := fun k => match k with
  | 0 => .object "RowsIntoPlane$People"
  | 1 => .array .int
  | 2 => .array .int
  | 3 => .array .int
  | 4 => .array .int
  | 5 => .array .int
  | 6 => .array .int
  | 7 => .array .int
  | 8 => .array (.array .int)
  | 9 => .array .int
  | 10 => .int
  | 11 => .int
  | 12 => .int
  | 13 => .int
  | 14 => .int
  | _ => .int
abbrev rn_1 : String := "RowsIntoPlane$Cabin"
def tb_1 : u_T := fun k => match k with
  | 0 => ("RowsIntoPlane$Cabin", "rows", "I", false)
  | 1 => ("RowsIntoPlane$Cabin", "wide", "I", false)
  | 2 => ("RowsIntoPlane$Cabin", "room", "I", false)
  | _ => ("RowsIntoPlane$Cabin", "built", "I", false)
def ft_1 : Nat → FieldType := fun k => match k with
  | 0 => .int
  | 1 => .int
  | 2 => .int
  | _ => .int
abbrev rn_2 : String := "RowsIntoPlane$Call"
def tb_2 : u_T := fun k => match k with
  | 0 => ("RowsIntoPlane$Call", "keys", "[C", true)
  | 1 => ("RowsIntoPlane$Call", "numbers", "[I", true)
  | _ => ("RowsIntoPlane$Call", "size", "I", false)
def ft_2 : Nat → FieldType := fun k => match k with
  | 0 => .array .char
  | 1 => .array .int
  | _ => .int
abbrev rn_3 : String := "RowsIntoPlane$Image"
def tb_3 : u_T := fun k => match k with
  | 0 => ("RowsIntoPlane$Image", "bags", "[I", true)
  | 1 => ("RowsIntoPlane$Image", "worth", "[I", true)
  | 2 => ("RowsIntoPlane$Image", "size", "I", false)
  | _ => ("RowsIntoPlane$Image", "isKept", "Z", false)
def ft_3 : Nat → FieldType := fun k => match k with
  | 0 => .array .int
  | 1 => .array .int
  | 2 => .int
  | _ => .boolean
abbrev rn_4 : String := "RowsIntoPlane$Leaving"
def tb_4 : u_T := fun k => match k with
  | 0 => ("RowsIntoPlane$Leaving", "people", "LRowsIntoPlane$People;", true)
  | 1 => ("RowsIntoPlane$Leaving", "aisle", "[I", true)
  | 2 => ("RowsIntoPlane$Leaving", "busy", "[I", true)
  | 3 => ("RowsIntoPlane$Leaving", "isUp", "[Z", true)
  | 4 => ("RowsIntoPlane$Leaving", "wentOut", "[I", true)
  | 5 => ("RowsIntoPlane$Leaving", "rows", "I", false)
  | 6 => ("RowsIntoPlane$Leaving", "manner", "I", false)
  | 7 => ("RowsIntoPlane$Leaving", "gone", "I", false)
  | _ => ("RowsIntoPlane$Leaving", "seconds", "I", false)
def ft_4 : Nat → FieldType := fun k => match k with
  | 0 => .object "RowsIntoPlane$People"
  | 1 => .array .int
  | 2 => .array .int
  | 3 => .array .boolean
  | 4 => .array .int
  | 5 => .int
  | 6 => .int
  | 7 => .int
  | _ => .int
abbrev rn_5 : String := "RowsIntoPlane$Line"
def tb_5 : u_T := fun k => match k with
  | 0 => ("RowsIntoPlane$Line", "who", "[I", true)
  | _ => ("RowsIntoPlane$Line", "size", "I", false)
def ft_5 : Nat → FieldType := fun k => match k with
  | 0 => .array .int
  | _ => .int
abbrev rn_6 : String := "RowsIntoPlane$Page"
def tb_6 : u_T := fun k => match k with
  | 0 => ("RowsIntoPlane$Page", "letters", "[C", true)
  | 1 => ("RowsIntoPlane$Page", "size", "I", false)
  | _ => ("RowsIntoPlane$Page", "due", "I", false)
def ft_6 : Nat → FieldType := fun k => match k with
  | 0 => .array .char
  | 1 => .int
  | _ => .int
abbrev rn_7 : String := "RowsIntoPlane$People"
def tb_7 : u_T := fun k => match k with
  | 0 => ("RowsIntoPlane$People", "kind", "[I", true)
  | 1 => ("RowsIntoPlane$People", "with", "[I", true)
  | 2 => ("RowsIntoPlane$People", "row", "[I", true)
  | 3 => ("RowsIntoPlane$People", "side", "[I", true)
  | 4 => ("RowsIntoPlane$People", "depth", "[I", true)
  | 5 => ("RowsIntoPlane$People", "bags", "[I", true)
  | 6 => ("RowsIntoPlane$People", "worth", "[I", true)
  | _ => ("RowsIntoPlane$People", "size", "I", false)
def ft_7 : Nat → FieldType := fun k => match k with
  | 0 => .array .int
  | 1 => .array .int
  | 2 => .array .int
  | 3 => .array .int
  | 4 => .array .int
  | 5 => .array .int
  | 6 => .array .int
  | _ => .int
abbrev rn_8 : String := "RowsIntoPlane"
def tb_8 : u_T := fun k => match k with
  | 0 => ("RowsIntoPlane", "cabin", "LRowsIntoPlane$Cabin;", true)
  | 1 => ("RowsIntoPlane", "people", "LRowsIntoPlane$People;", true)
  | 2 => ("RowsIntoPlane", "image", "LRowsIntoPlane$Image;", true)
  | 3 => ("RowsIntoPlane", "page", "LRowsIntoPlane$Page;", true)
  | 4 => ("RowsIntoPlane", "calls", "[LRowsIntoPlane$Call;", true)
  | 5 => ("RowsIntoPlane", "line", "LRowsIntoPlane$Line;", true)
  | 6 => ("RowsIntoPlane", "best", "LRowsIntoPlane$Line;", true)
  | 7 => ("RowsIntoPlane", "boarding", "LRowsIntoPlane$Boarding;", true)
  | 8 => ("RowsIntoPlane", "leaving", "LRowsIntoPlane$Leaving;", true)
  | 9 => ("RowsIntoPlane", "callCount", "I", false)
  | _ => ("RowsIntoPlane", "bestDone", "I", false)
def ft_8 : Nat → FieldType := fun k => match k with
  | 0 => .object "RowsIntoPlane$Cabin"
  | 1 => .object "RowsIntoPlane$People"
  | 2 => .object "RowsIntoPlane$Image"
  | 3 => .object "RowsIntoPlane$Page"
  | 4 => .array (.object "RowsIntoPlane$Call")
  | 5 => .object "RowsIntoPlane$Line"
  | 6 => .object "RowsIntoPlane$Line"
  | 7 => .object "RowsIntoPlane$Boarding"
  | 8 => .object "RowsIntoPlane$Leaving"
  | 9 => .int
  | _ => .int
abbrev rn_9 : String := "RowsIntoPlaneModel"
def tb_9 : u_T := fun k => match k with
  | 0 => ("RowsIntoPlaneModel", "rows", "I", false)
  | 1 => ("RowsIntoPlaneModel", "wide", "I", false)
  | 2 => ("RowsIntoPlaneModel", "room", "I", false)
  | 3 => ("RowsIntoPlaneModel", "cabins", "I", false)
  | 4 => ("RowsIntoPlaneModel", "people", "I", false)
  | 5 => ("RowsIntoPlaneModel", "persons", "[I", true)
  | 6 => ("RowsIntoPlaneModel", "page", "[I", true)
  | 7 => ("RowsIntoPlaneModel", "pageMany", "I", false)
  | 8 => ("RowsIntoPlaneModel", "calls", "I", false)
  | 9 => ("RowsIntoPlaneModel", "keys", "[I", true)
  | 10 => ("RowsIntoPlaneModel", "state", "I", false)
  | 11 => ("RowsIntoPlaneModel", "readMany", "I", false)
  | 12 => ("RowsIntoPlaneModel", "readRow", "[I", true)
  | 13 => ("RowsIntoPlaneModel", "rowsNow", "I", false)
  | 14 => ("RowsIntoPlaneModel", "rowNow", "[I", true)
  | 15 => ("RowsIntoPlaneModel", "bagsNow", "[I", true)
  | 16 => ("RowsIntoPlaneModel", "queue", "[I", true)
  | 17 => ("RowsIntoPlaneModel", "queued", "I", false)
  | 18 => ("RowsIntoPlaneModel", "aisle", "[I", true)
  | 19 => ("RowsIntoPlaneModel", "busy", "[I", true)
  | 20 => ("RowsIntoPlaneModel", "satAt", "[I", true)
  | 21 => ("RowsIntoPlaneModel", "waited", "[I", true)
  | 22 => ("RowsIntoPlaneModel", "bins", "[I", true)
  | 23 => ("RowsIntoPlaneModel", "binOf", "[I", true)
  | 24 => ("RowsIntoPlaneModel", "belowNow", "I", false)
  | 25 => ("RowsIntoPlaneModel", "came", "I", false)
  | 26 => ("RowsIntoPlaneModel", "satMany", "I", false)
  | 27 => ("RowsIntoPlaneModel", "done", "I", false)
  | 28 => ("RowsIntoPlaneModel", "bestQueue", "[I", true)
  | 29 => ("RowsIntoPlaneModel", "whole", "[I", true)
  | 30 => ("RowsIntoPlaneModel", "seedNow", "I", false)
  | 31 => ("RowsIntoPlaneModel", "outAt", "[I", true)
  | 32 => ("RowsIntoPlaneModel", "still", "[I", true)
  | 33 => ("RowsIntoPlaneModel", "keptPeople", "I", false)
  | 34 => ("RowsIntoPlaneModel", "keptCabin", "I", false)
  | 35 => ("RowsIntoPlaneModel", "keptRows", "[I", true)
  | _ => ("RowsIntoPlaneModel", "hash", "J", false)
def ft_9 : Nat → FieldType := fun k => match k with
  | 0 => .int
  | 1 => .int
  | 2 => .int
  | 3 => .int
  | 4 => .int
  | 5 => .array .int
  | 6 => .array .int
  | 7 => .int
  | 8 => .int
  | 9 => .array .int
  | 10 => .int
  | 11 => .int
  | 12 => .array .int
  | 13 => .int
  | 14 => .array .int
  | 15 => .array .int
  | 16 => .array .int
  | 17 => .int
  | 18 => .array .int
  | 19 => .array .int
  | 20 => .array .int
  | 21 => .array .int
  | 22 => .array .int
  | 23 => .array .int
  | 24 => .int
  | 25 => .int
  | 26 => .int
  | 27 => .int
  | 28 => .array .int
  | 29 => .array .int
  | 30 => .int
  | 31 => .array .int
  | 32 => .array .int
  | 33 => .int
  | 34 => .int
  | 35 => .array .int
  | _ => .long
abbrev ax_cl : List vw_C := [(rn_0, tb_0, 16), (rn_1, tb_1, 4), (rn_2, tb_2, 3), (rn_3, tb_3, 4), (rn_4, tb_4, 9), (rn_5, tb_5, 2), (rn_6, tb_6, 3), (rn_7, tb_7, 8), (rn_8, tb_8, 11), (rn_9, tb_9, 37)]
theorem nm_0 : ∀ a, a < 16 → ∀ b, b < 16 → a ≠ b → (tb_0 a).2.1 ≠ (tb_0 b).2.1 := by decide +kernel
theorem fo_0 : ∀ k, k < 16 → parseFieldDescriptor (tb_0 k).2.2.1 = some (ft_0 k) := by decide +kernel
theorem wi_0 : ∀ w ∈ u_ws rn_0 tb_0 16, w ∈ ax_Ts := by
  have h : (List.range 16).all (fun k => decide (lw_tbl[([271, 273, 275, 277, 279, 281, 283, 285, 287, 289, 291, 293, 295, 297, 299, 301] : List Nat).getD k 0]? = some (u_lay rn_0 tb_0 k)) && goodWord (u_lay rn_0 tb_0 k)) = true := by decide +kernel
  intro w hw
  obtain ⟨k, hk, rfl⟩ := List.mem_map.mp hw
  have h1 := List.all_eq_true.mp h k hk
  simp only [Bool.and_eq_true, decide_eq_true_eq] at h1
  exact ax_mem _ h1.1 h1.2
theorem nm_1 : ∀ a, a < 4 → ∀ b, b < 4 → a ≠ b → (tb_1 a).2.1 ≠ (tb_1 b).2.1 := by decide +kernel
theorem fo_1 : ∀ k, k < 4 → parseFieldDescriptor (tb_1 k).2.2.1 = some (ft_1 k) := by decide +kernel
theorem wi_1 : ∀ w ∈ u_ws rn_1 tb_1 4, w ∈ ax_Ts := by
  have h : (List.range 4).all (fun k => decide (lw_tbl[([99, 101, 103, 105] : List Nat).getD k 0]? = some (u_lay rn_1 tb_1 k)) && goodWord (u_lay rn_1 tb_1 k)) = true := by decide +kernel
  intro w hw
  obtain ⟨k, hk, rfl⟩ := List.mem_map.mp hw
  have h1 := List.all_eq_true.mp h k hk
  simp only [Bool.and_eq_true, decide_eq_true_eq] at h1
  exact ax_mem _ h1.1 h1.2
theorem nm_2 : ∀ a, a < 3 → ∀ b, b < 3 → a ≠ b → (tb_2 a).2.1 ≠ (tb_2 b).2.1 := by decide +kernel
theorem fo_2 : ∀ k, k < 3 → parseFieldDescriptor (tb_2 k).2.2.1 = some (ft_2 k) := by decide +kernel
theorem wi_2 : ∀ w ∈ u_ws rn_2 tb_2 3, w ∈ ax_Ts := by
  have h : (List.range 3).all (fun k => decide (lw_tbl[([238, 240, 242] : List Nat).getD k 0]? = some (u_lay rn_2 tb_2 k)) && goodWord (u_lay rn_2 tb_2 k)) = true := by decide +kernel
  intro w hw
  obtain ⟨k, hk, rfl⟩ := List.mem_map.mp hw
  have h1 := List.all_eq_true.mp h k hk
  simp only [Bool.and_eq_true, decide_eq_true_eq] at h1
  exact ax_mem _ h1.1 h1.2
theorem nm_3 : ∀ a, a < 4 → ∀ b, b < 4 → a ≠ b → (tb_3 a).2.1 ≠ (tb_3 b).2.1 := by decide +kernel
theorem fo_3 : ∀ k, k < 4 → parseFieldDescriptor (tb_3 k).2.2.1 = some (ft_3 k) := by decide +kernel
theorem wi_3 : ∀ w ∈ u_ws rn_3 tb_3 4, w ∈ ax_Ts := by
  have h : (List.range 4).all (fun k => decide (lw_tbl[([179, 181, 183, 185] : List Nat).getD k 0]? = some (u_lay rn_3 tb_3 k)) && goodWord (u_lay rn_3 tb_3 k)) = true := by decide +kernel
  intro w hw
  obtain ⟨k, hk, rfl⟩ := List.mem_map.mp hw
  have h1 := List.all_eq_true.mp h k hk
  simp only [Bool.and_eq_true, decide_eq_true_eq] at h1
  exact ax_mem _ h1.1 h1.2
theorem nm_4 : ∀ a, a < 9 → ∀ b, b < 9 → a ≠ b → (tb_4 a).2.1 ≠ (tb_4 b).2.1 := by decide +kernel
theorem fo_4 : ∀ k, k < 9 → parseFieldDescriptor (tb_4 k).2.2.1 = some (ft_4 k) := by decide +kernel
theorem wi_4 : ∀ w ∈ u_ws rn_4 tb_4 9, w ∈ ax_Ts := by
  have h : (List.range 9).all (fun k => decide (lw_tbl[([321, 323, 325, 327, 329, 331, 333, 335, 337] : List Nat).getD k 0]? = some (u_lay rn_4 tb_4 k)) && goodWord (u_lay rn_4 tb_4 k)) = true := by decide +kernel
  intro w hw
  obtain ⟨k, hk, rfl⟩ := List.mem_map.mp hw
  have h1 := List.all_eq_true.mp h k hk
  simp only [Bool.and_eq_true, decide_eq_true_eq] at h1
  exact ax_mem _ h1.1 h1.2
theorem nm_5 : ∀ a, a < 2 → ∀ b, b < 2 → a ≠ b → (tb_5 a).2.1 ≠ (tb_5 b).2.1 := by decide +kernel
theorem fo_5 : ∀ k, k < 2 → parseFieldDescriptor (tb_5 k).2.2.1 = some (ft_5 k) := by decide +kernel
theorem wi_5 : ∀ w ∈ u_ws rn_5 tb_5 2, w ∈ ax_Ts := by
  have h : (List.range 2).all (fun k => decide (lw_tbl[([225, 227] : List Nat).getD k 0]? = some (u_lay rn_5 tb_5 k)) && goodWord (u_lay rn_5 tb_5 k)) = true := by decide +kernel
  intro w hw
  obtain ⟨k, hk, rfl⟩ := List.mem_map.mp hw
  have h1 := List.all_eq_true.mp h k hk
  simp only [Bool.and_eq_true, decide_eq_true_eq] at h1
  exact ax_mem _ h1.1 h1.2
theorem nm_6 : ∀ a, a < 3 → ∀ b, b < 3 → a ≠ b → (tb_6 a).2.1 ≠ (tb_6 b).2.1 := by decide +kernel
theorem fo_6 : ∀ k, k < 3 → parseFieldDescriptor (tb_6 k).2.2.1 = some (ft_6 k) := by decide +kernel
theorem wi_6 : ∀ w ∈ u_ws rn_6 tb_6 3, w ∈ ax_Ts := by
  have h : (List.range 3).all (fun k => decide (lw_tbl[([201, 203, 205] : List Nat).getD k 0]? = some (u_lay rn_6 tb_6 k)) && goodWord (u_lay rn_6 tb_6 k)) = true := by decide +kernel
  intro w hw
  obtain ⟨k, hk, rfl⟩ := List.mem_map.mp hw
  have h1 := List.all_eq_true.mp h k hk
  simp only [Bool.and_eq_true, decide_eq_true_eq] at h1
  exact ax_mem _ h1.1 h1.2
theorem nm_7 : ∀ a, a < 8 → ∀ b, b < 8 → a ≠ b → (tb_7 a).2.1 ≠ (tb_7 b).2.1 := by decide +kernel
theorem fo_7 : ∀ k, k < 8 → parseFieldDescriptor (tb_7 k).2.2.1 = some (ft_7 k) := by decide +kernel
theorem wi_7 : ∀ w ∈ u_ws rn_7 tb_7 8, w ∈ ax_Ts := by
  have h : (List.range 8).all (fun k => decide (lw_tbl[([150, 152, 154, 156, 158, 160, 162, 164] : List Nat).getD k 0]? = some (u_lay rn_7 tb_7 k)) && goodWord (u_lay rn_7 tb_7 k)) = true := by decide +kernel
  intro w hw
  obtain ⟨k, hk, rfl⟩ := List.mem_map.mp hw
  have h1 := List.all_eq_true.mp h k hk
  simp only [Bool.and_eq_true, decide_eq_true_eq] at h1
  exact ax_mem _ h1.1 h1.2
theorem nm_8 : ∀ a, a < 11 → ∀ b, b < 11 → a ≠ b → (tb_8 a).2.1 ≠ (tb_8 b).2.1 := by decide +kernel
theorem fo_8 : ∀ k, k < 11 → parseFieldDescriptor (tb_8 k).2.2.1 = some (ft_8 k) := by decide +kernel
theorem wi_8 : ∀ w ∈ u_ws rn_8 tb_8 11, w ∈ ax_Ts := by
  have h : (List.range 11).all (fun k => decide (lw_tbl[([352, 354, 356, 358, 360, 362, 364, 366, 368, 370, 372] : List Nat).getD k 0]? = some (u_lay rn_8 tb_8 k)) && goodWord (u_lay rn_8 tb_8 k)) = true := by decide +kernel
  intro w hw
  obtain ⟨k, hk, rfl⟩ := List.mem_map.mp hw
  have h1 := List.all_eq_true.mp h k hk
  simp only [Bool.and_eq_true, decide_eq_true_eq] at h1
  exact ax_mem _ h1.1 h1.2
theorem nm_9 : ∀ a, a < 37 → ∀ b, b < 37 → a ≠ b → (tb_9 a).2.1 ≠ (tb_9 b).2.1 := by decide +kernel
theorem fo_9 : ∀ k, k < 37 → parseFieldDescriptor (tb_9 k).2.2.1 = some (ft_9 k) := by decide +kernel
theorem wi_9 : ∀ w ∈ u_ws rn_9 tb_9 37, w ∈ ax_Ts := by
  have h : (List.range 37).all (fun k => decide (lw_tbl[([810, 812, 814, 816, 818, 820, 822, 824, 826, 828, 830, 832, 834, 836, 838, 840, 842, 844, 846, 848, 850, 852, 854, 856, 858, 860, 862, 864, 866, 868, 870, 872, 874, 876, 878, 880, 882] : List Nat).getD k 0]? = some (u_lay rn_9 tb_9 k)) && goodWord (u_lay rn_9 tb_9 k)) = true := by decide +kernel
  intro w hw
  obtain ⟨k, hk, rfl⟩ := List.mem_map.mp hw
  have h1 := List.all_eq_true.mp h k hk
  simp only [Bool.and_eq_true, decide_eq_true_eq] at h1
  exact ax_mem _ h1.1 h1.2
