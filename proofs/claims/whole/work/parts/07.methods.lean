/-! the cells of the two worlds; methods, their instructions, their links (by program gen2.py) -/
def shX : List ax_Sh := [.inr (.inr (8, [some (some 1), some (some 2), some (some 10), some (some 13), some (some 15), some (some 40), some (some 42), some (some 44), some (some 66), none, none])), .inr (.inr (1, [none, none, none, none])), .inr (.inr (7, [some (some 3), some (some 4), some (some 5), some (some 6), some (some 7), some (some 8), some (some 9), none])), .inl (0, 12), .inl (0, 12), .inl (0, 12), .inl (0, 12), .inl (0, 12), .inl (0, 12), .inl (0, 12), .inr (.inr (3, [some (some 11), some (some 12), none, none])), .inl (0, 12), .inl (0, 12), .inr (.inr (6, [some (some 14), none, none])), .inl (1, 16), .inr (.inl (3, [16, 19, 22, 25, 28, 31, 34, 37])), .inr (.inr (2, [some (some 17), some (some 18), none])), .inl (1, 4), .inl (0, 4), .inr (.inr (2, [some (some 20), some (some 21), none])), .inl (1, 4), .inl (0, 4), .inr (.inr (2, [some (some 23), some (some 24), none])), .inl (1, 4), .inl (0, 4), .inr (.inr (2, [some (some 26), some (some 27), none])), .inl (1, 4), .inl (0, 4), .inr (.inr (2, [some (some 29), some (some 30), none])), .inl (1, 4), .inl (0, 4), .inr (.inr (2, [some (some 32), some (some 33), none])), .inl (1, 4), .inl (0, 4), .inr (.inr (2, [some (some 35), some (some 36), none])), .inl (1, 4), .inl (0, 4), .inr (.inr (2, [some (some 38), some (some 39), none])), .inl (1, 4), .inl (0, 4), .inr (.inr (5, [some (some 41), none])), .inl (0, 12), .inr (.inr (5, [some (some 43), none])), .inl (0, 12), .inr (.inr (0, [some (some 2), some (some 45), some (some 46), some (some 47), some (some 48), some (some 49), some (some 50), some (some 51), some (some 52), some (some 53), none, none, none, none, none, none])), .inl (0, 12), .inl (0, 12), .inl (0, 12), .inl (0, 12), .inl (0, 12), .inl (0, 12), .inl (0, 12), .inr (.inl (4, [54, 55, 56, 57, 58, 59, 60, 61, 62, 63, 64, 65])), .inl (0, 12), .inl (0, 3), .inl (0, 3), .inl (0, 3), .inl (0, 3), .inl (0, 3), .inl (0, 3), .inl (0, 3), .inl (0, 3), .inl (0, 3), .inl (0, 3), .inl (0, 3), .inl (0, 3), .inr (.inr (4, [some (some 2), some (some 67), some (some 68), some (some 69), some (some 70), none, none, none, none])), .inl (0, 12), .inl (0, 12), .inl (2, 12), .inl (0, 12)]
theorem sX_0 : shX[0]? = some (.inr (.inr (8, [some (some 1), some (some 2), some (some 10), some (some 13), some (some 15), some (some 40), some (some 42), some (some 44), some (some 66), none, none]))) := rfl
theorem sX_1 : shX[1]? = some (.inr (.inr (1, [none, none, none, none]))) := rfl
theorem sX_2 : shX[2]? = some (.inr (.inr (7, [some (some 3), some (some 4), some (some 5), some (some 6), some (some 7), some (some 8), some (some 9), none]))) := rfl
theorem sX_3 : shX[3]? = some (.inl (0, 12)) := rfl
theorem sX_4 : shX[4]? = some (.inl (0, 12)) := rfl
theorem sX_5 : shX[5]? = some (.inl (0, 12)) := rfl
theorem sX_6 : shX[6]? = some (.inl (0, 12)) := rfl
theorem sX_7 : shX[7]? = some (.inl (0, 12)) := rfl
theorem sX_8 : shX[8]? = some (.inl (0, 12)) := rfl
theorem sX_9 : shX[9]? = some (.inl (0, 12)) := rfl
theorem sX_10 : shX[10]? = some (.inr (.inr (3, [some (some 11), some (some 12), none, none]))) := rfl
theorem sX_11 : shX[11]? = some (.inl (0, 12)) := rfl
theorem sX_12 : shX[12]? = some (.inl (0, 12)) := rfl
theorem sX_13 : shX[13]? = some (.inr (.inr (6, [some (some 14), none, none]))) := rfl
theorem sX_14 : shX[14]? = some (.inl (1, 16)) := rfl
theorem sX_15 : shX[15]? = some (.inr (.inl (3, [16, 19, 22, 25, 28, 31, 34, 37]))) := rfl
theorem sX_16 : shX[16]? = some (.inr (.inr (2, [some (some 17), some (some 18), none]))) := rfl
theorem sX_17 : shX[17]? = some (.inl (1, 4)) := rfl
theorem sX_18 : shX[18]? = some (.inl (0, 4)) := rfl
theorem sX_19 : shX[19]? = some (.inr (.inr (2, [some (some 20), some (some 21), none]))) := rfl
theorem sX_20 : shX[20]? = some (.inl (1, 4)) := rfl
theorem sX_21 : shX[21]? = some (.inl (0, 4)) := rfl
theorem sX_22 : shX[22]? = some (.inr (.inr (2, [some (some 23), some (some 24), none]))) := rfl
theorem sX_23 : shX[23]? = some (.inl (1, 4)) := rfl
theorem sX_24 : shX[24]? = some (.inl (0, 4)) := rfl
theorem sX_25 : shX[25]? = some (.inr (.inr (2, [some (some 26), some (some 27), none]))) := rfl
theorem sX_26 : shX[26]? = some (.inl (1, 4)) := rfl
theorem sX_27 : shX[27]? = some (.inl (0, 4)) := rfl
theorem sX_28 : shX[28]? = some (.inr (.inr (2, [some (some 29), some (some 30), none]))) := rfl
theorem sX_29 : shX[29]? = some (.inl (1, 4)) := rfl
theorem sX_30 : shX[30]? = some (.inl (0, 4)) := rfl
theorem sX_31 : shX[31]? = some (.inr (.inr (2, [some (some 32), some (some 33), none]))) := rfl
theorem sX_32 : shX[32]? = some (.inl (1, 4)) := rfl
theorem sX_33 : shX[33]? = some (.inl (0, 4)) := rfl
theorem sX_34 : shX[34]? = some (.inr (.inr (2, [some (some 35), some (some 36), none]))) := rfl
theorem sX_35 : shX[35]? = some (.inl (1, 4)) := rfl
theorem sX_36 : shX[36]? = some (.inl (0, 4)) := rfl
theorem sX_37 : shX[37]? = some (.inr (.inr (2, [some (some 38), some (some 39), none]))) := rfl
theorem sX_38 : shX[38]? = some (.inl (1, 4)) := rfl
theorem sX_39 : shX[39]? = some (.inl (0, 4)) := rfl
theorem sX_40 : shX[40]? = some (.inr (.inr (5, [some (some 41), none]))) := rfl
theorem sX_41 : shX[41]? = some (.inl (0, 12)) := rfl
theorem sX_42 : shX[42]? = some (.inr (.inr (5, [some (some 43), none]))) := rfl
theorem sX_43 : shX[43]? = some (.inl (0, 12)) := rfl
theorem sX_44 : shX[44]? = some (.inr (.inr (0, [some (some 2), some (some 45), some (some 46), some (some 47), some (some 48), some (some 49), some (some 50), some (some 51), some (some 52), some (some 53), none, none, none, none, none, none]))) := rfl
theorem sX_45 : shX[45]? = some (.inl (0, 12)) := rfl
theorem sX_46 : shX[46]? = some (.inl (0, 12)) := rfl
theorem sX_47 : shX[47]? = some (.inl (0, 12)) := rfl
theorem sX_48 : shX[48]? = some (.inl (0, 12)) := rfl
theorem sX_49 : shX[49]? = some (.inl (0, 12)) := rfl
theorem sX_50 : shX[50]? = some (.inl (0, 12)) := rfl
theorem sX_51 : shX[51]? = some (.inl (0, 12)) := rfl
theorem sX_52 : shX[52]? = some (.inr (.inl (4, [54, 55, 56, 57, 58, 59, 60, 61, 62, 63, 64, 65]))) := rfl
theorem sX_53 : shX[53]? = some (.inl (0, 12)) := rfl
theorem sX_54 : shX[54]? = some (.inl (0, 3)) := rfl
theorem sX_55 : shX[55]? = some (.inl (0, 3)) := rfl
theorem sX_56 : shX[56]? = some (.inl (0, 3)) := rfl
theorem sX_57 : shX[57]? = some (.inl (0, 3)) := rfl
theorem sX_58 : shX[58]? = some (.inl (0, 3)) := rfl
theorem sX_59 : shX[59]? = some (.inl (0, 3)) := rfl
theorem sX_60 : shX[60]? = some (.inl (0, 3)) := rfl
theorem sX_61 : shX[61]? = some (.inl (0, 3)) := rfl
theorem sX_62 : shX[62]? = some (.inl (0, 3)) := rfl
theorem sX_63 : shX[63]? = some (.inl (0, 3)) := rfl
theorem sX_64 : shX[64]? = some (.inl (0, 3)) := rfl
theorem sX_65 : shX[65]? = some (.inl (0, 3)) := rfl
theorem sX_66 : shX[66]? = some (.inr (.inr (4, [some (some 2), some (some 67), some (some 68), some (some 69), some (some 70), none, none, none, none]))) := rfl
theorem sX_67 : shX[67]? = some (.inl (0, 12)) := rfl
theorem sX_68 : shX[68]? = some (.inl (0, 12)) := rfl
theorem sX_69 : shX[69]? = some (.inl (2, 12)) := rfl
theorem sX_70 : shX[70]? = some (.inl (0, 12)) := rfl
def shM : List ax_Sh := [.inr (.inr (9, [none, none, none, none, none, some (some 1), some (some 2), none, none, some (some 3), none, none, some (some 4), none, some (some 5), some (some 6), some (some 7), none, some (some 8), some (some 9), some (some 10), some (some 11), some (some 12), some (some 13), none, none, none, none, some (some 14), some (some 15), none, some (some 16), some (some 17), none, none, some (some 18), some none])), .inl (0, 84), .inl (0, 16), .inl (0, 72), .inl (0, 8), .inl (0, 12), .inl (0, 12), .inl (0, 12), .inl (0, 12), .inl (0, 12), .inl (0, 12), .inl (0, 12), .inl (0, 12), .inl (0, 36), .inl (0, 6), .inl (0, 12), .inl (0, 12), .inl (0, 12), .inl (0, 24)]
theorem sM_0 : shM[0]? = some (.inr (.inr (9, [none, none, none, none, none, some (some 1), some (some 2), none, none, some (some 3), none, none, some (some 4), none, some (some 5), some (some 6), some (some 7), none, some (some 8), some (some 9), some (some 10), some (some 11), some (some 12), some (some 13), none, none, none, none, some (some 14), some (some 15), none, some (some 16), some (some 17), none, none, some (some 18), some none]))) := rfl
theorem sM_1 : shM[1]? = some (.inl (0, 84)) := rfl
theorem sM_2 : shM[2]? = some (.inl (0, 16)) := rfl
theorem sM_3 : shM[3]? = some (.inl (0, 72)) := rfl
theorem sM_4 : shM[4]? = some (.inl (0, 8)) := rfl
theorem sM_5 : shM[5]? = some (.inl (0, 12)) := rfl
theorem sM_6 : shM[6]? = some (.inl (0, 12)) := rfl
theorem sM_7 : shM[7]? = some (.inl (0, 12)) := rfl
theorem sM_8 : shM[8]? = some (.inl (0, 12)) := rfl
theorem sM_9 : shM[9]? = some (.inl (0, 12)) := rfl
theorem sM_10 : shM[10]? = some (.inl (0, 12)) := rfl
theorem sM_11 : shM[11]? = some (.inl (0, 12)) := rfl
theorem sM_12 : shM[12]? = some (.inl (0, 12)) := rfl
theorem sM_13 : shM[13]? = some (.inl (0, 36)) := rfl
theorem sM_14 : shM[14]? = some (.inl (0, 6)) := rfl
theorem sM_15 : shM[15]? = some (.inl (0, 12)) := rfl
theorem sM_16 : shM[16]? = some (.inl (0, 12)) := rfl
theorem sM_17 : shM[17]? = some (.inl (0, 12)) := rfl
theorem sM_18 : shM[18]? = some (.inl (0, 24)) := rfl
theorem ax_tn {i : Int} {n : Nat} (h : 0 ≤ i ∧ i < (n : Int)) : i.toNat < n := by omega
theorem sX_call0 {c : Nat} (h : c < 8) : shX[16 + 3 * c]? = some (.inr (.inr (2, [some (some (17 + 3 * c)), some (some (18 + 3 * c)), none]))) := by rcases (show c = 0 ∨ c = 1 ∨ c = 2 ∨ c = 3 ∨ c = 4 ∨ c = 5 ∨ c = 6 ∨ c = 7 by omega) with rfl | rfl | rfl | rfl | rfl | rfl | rfl | rfl <;> rfl
theorem sX_call1 {c : Nat} (h : c < 8) : shX[17 + 3 * c]? = some (.inl (1, 4)) := by rcases (show c = 0 ∨ c = 1 ∨ c = 2 ∨ c = 3 ∨ c = 4 ∨ c = 5 ∨ c = 6 ∨ c = 7 by omega) with rfl | rfl | rfl | rfl | rfl | rfl | rfl | rfl <;> rfl
theorem sX_call2 {c : Nat} (h : c < 8) : shX[18 + 3 * c]? = some (.inl (0, 4)) := by rcases (show c = 0 ∨ c = 1 ∨ c = 2 ∨ c = 3 ∨ c = 4 ∨ c = 5 ∨ c = 6 ∨ c = 7 by omega) with rfl | rfl | rfl | rfl | rfl | rfl | rfl | rfl <;> rfl
theorem sX_bin {c : Nat} (h : c < 12) : shX[54 + c]? = some (.inl (0, 3)) := by rcases (show c = 0 ∨ c = 1 ∨ c = 2 ∨ c = 3 ∨ c = 4 ∨ c = 5 ∨ c = 6 ∨ c = 7 ∨ c = 8 ∨ c = 9 ∨ c = 10 ∨ c = 11 by omega) with rfl | rfl | rfl | rfl | rfl | rfl | rfl | rfl | rfl | rfl | rfl | rfl <;> rfl
theorem sX_calls {c : Nat} (h : c < 8) : ([16, 19, 22, 25, 28, 31, 34, 37] : List Nat)[c]? = some (16 + 3 * c) := (by decide : ∀ c, c < 8 → ([16, 19, 22, 25, 28, 31, 34, 37] : List Nat)[c]? = some (16 + 3 * c)) c h
theorem sX_bins {c : Nat} (h : c < 12) : ([54, 55, 56, 57, 58, 59, 60, 61, 62, 63, 64, 65] : List Nat)[c]? = some (54 + c) := (by decide : ∀ c, c < 12 → ([54, 55, 56, 57, 58, 59, 60, 61, 62, 63, 64, 65] : List Nat)[c]? = some (54 + c)) c h
theorem ax_top {sh : List ax_Sh} {y : MethodName} {cc : ByteArray} {mL : Nat} {ret : Option FieldType} {dp : Nat} {P : Int → ax_Mem → Prop} {pc : Nat} {ls : List (Nat × ax_V)} {st : List ax_V} {M : ax_Mem} {x x' : Int} (h : x = x') (k : ax_J sh y cc mL ret dp P pc ls (.inl x' :: st) M) : ax_J sh y cc mL ret dp P pc ls (.inl x :: st) M := h ▸ k
theorem ax_topl {sh : List ax_Sh} {y : MethodName} {cc : ByteArray} {mL : Nat} {ret : Option FieldType} {dp : Nat} {P : Int → ax_Mem → Prop} {pc : Nat} {ls : List (Nat × ax_V)} {st : List ax_V} {M : ax_Mem} {x x' : Int} (h : x = x') (k : ax_J sh y cc mL ret dp P pc ls (.inr (.inl x') :: st) M) : ax_J sh y cc mL ret dp P pc ls (.inr (.inl x) :: st) M := h ▸ k
abbrev yB_openWhole : MethodName := ⟨"RowsIntoPlane$Boarding", "openWhole", "(LRowsIntoPlane$Cabin;I)V"⟩
abbrev bB_openWhole : ByteArray := prog_2_method_2_code
abbrev jB_openWhole (P : Int → ax_Mem → Prop) (pc : Nat) (ls : List (Nat × ax_V)) (st : List ax_V) (M : ax_Mem) : Prop := ax_J shX yB_openWhole bB_openWhole 4 none 2 P pc ls st M
abbrev kB_openWhole (as : List ax_V) (M : ax_Mem) (P : Int → ax_Mem → Prop) : Prop := ax_C shX yB_openWhole bB_openWhole 4 none 2 as M P
abbrev yB_openFront : MethodName := ⟨"RowsIntoPlane$Boarding", "openFront", "(LRowsIntoPlane$Cabin;I)V"⟩
abbrev bB_openFront : ByteArray := prog_2_method_3_code
abbrev jB_openFront (P : Int → ax_Mem → Prop) (pc : Nat) (ls : List (Nat × ax_V)) (st : List ax_V) (M : ax_Mem) : Prop := ax_J shX yB_openFront bB_openFront 3 none 3 P pc ls st M
abbrev kB_openFront (as : List ax_V) (M : ax_Mem) (P : Int → ax_Mem → Prop) : Prop := ax_C shX yB_openFront bB_openFront 3 none 3 as M P
abbrev yB_openBack : MethodName := ⟨"RowsIntoPlane$Boarding", "openBack", "(LRowsIntoPlane$Cabin;I)V"⟩
abbrev bB_openBack : ByteArray := prog_2_method_4_code
abbrev jB_openBack (P : Int → ax_Mem → Prop) (pc : Nat) (ls : List (Nat × ax_V)) (st : List ax_V) (M : ax_Mem) : Prop := ax_J shX yB_openBack bB_openBack 4 none 2 P pc ls st M
abbrev kB_openBack (as : List ax_V) (M : ax_Mem) (P : Int → ax_Mem → Prop) : Prop := ax_C shX yB_openBack bB_openBack 4 none 2 as M P
abbrev yB_open : MethodName := ⟨"RowsIntoPlane$Boarding", "open", "(III)V"⟩
abbrev bB_open : ByteArray := prog_2_method_5_code
abbrev jB_open (P : Int → ax_Mem → Prop) (pc : Nat) (ls : List (Nat × ax_V)) (st : List ax_V) (M : ax_Mem) : Prop := ax_J shX yB_open bB_open 5 none 1 P pc ls st M
abbrev kB_open (as : List ax_V) (M : ax_Mem) (P : Int → ax_Mem → Prop) : Prop := ax_C shX yB_open bB_open 5 none 1 as M P
abbrev yB_isThrough : MethodName := ⟨"RowsIntoPlane$Boarding", "isThrough", "(LRowsIntoPlane$Line;I)Z"⟩
abbrev bB_isThrough : ByteArray := prog_2_method_6_code
abbrev jB_isThrough (P : Int → ax_Mem → Prop) (pc : Nat) (ls : List (Nat × ax_V)) (st : List ax_V) (M : ax_Mem) : Prop := ax_J shX yB_isThrough bB_isThrough 3 (some .boolean) 4 P pc ls st M
abbrev kB_isThrough (as : List ax_V) (M : ax_Mem) (P : Int → ax_Mem → Prop) : Prop := ax_C shX yB_isThrough bB_isThrough 3 (some .boolean) 4 as M P
abbrev yB_run : MethodName := ⟨"RowsIntoPlane$Boarding", "run", "(LRowsIntoPlane$Line;I)V"⟩
abbrev bB_run : ByteArray := prog_2_method_7_code
abbrev jB_run (P : Int → ax_Mem → Prop) (pc : Nat) (ls : List (Nat × ax_V)) (st : List ax_V) (M : ax_Mem) : Prop := ax_J shX yB_run bB_run 6 none 3 P pc ls st M
abbrev kB_run (as : List ax_V) (M : ax_Mem) (P : Int → ax_Mem → Prop) : Prop := ax_C shX yB_run bB_run 6 none 3 as M P
abbrev yB_begin : MethodName := ⟨"RowsIntoPlane$Boarding", "begin", "(LRowsIntoPlane$Line;)V"⟩
abbrev bB_begin : ByteArray := prog_2_method_8_code
abbrev jB_begin (P : Int → ax_Mem → Prop) (pc : Nat) (ls : List (Nat × ax_V)) (st : List ax_V) (M : ax_Mem) : Prop := ax_J shX yB_begin bB_begin 5 none 0 P pc ls st M
abbrev kB_begin (as : List ax_V) (M : ax_Mem) (P : Int → ax_Mem → Prop) : Prop := ax_C shX yB_begin bB_begin 5 none 0 as M P
abbrev yB_goOn : MethodName := ⟨"RowsIntoPlane$Boarding", "goOn", "(I)V"⟩
abbrev bB_goOn : ByteArray := prog_2_method_9_code
abbrev jB_goOn (P : Int → ax_Mem → Prop) (pc : Nat) (ls : List (Nat × ax_V)) (st : List ax_V) (M : ax_Mem) : Prop := ax_J shX yB_goOn bB_goOn 4 none 2 P pc ls st M
abbrev kB_goOn (as : List ax_V) (M : ax_Mem) (P : Int → ax_Mem → Prop) : Prop := ax_C shX yB_goOn bB_goOn 4 none 2 as M P
abbrev yB_sitIfReady : MethodName := ⟨"RowsIntoPlane$Boarding", "sitIfReady", "(III)V"⟩
abbrev bB_sitIfReady : ByteArray := prog_2_method_10_code
abbrev jB_sitIfReady (P : Int → ax_Mem → Prop) (pc : Nat) (ls : List (Nat × ax_V)) (st : List ax_V) (M : ax_Mem) : Prop := ax_J shX yB_sitIfReady bB_sitIfReady 4 none 0 P pc ls st M
abbrev kB_sitIfReady (as : List ax_V) (M : ax_Mem) (P : Int → ax_Mem → Prop) : Prop := ax_C shX yB_sitIfReady bB_sitIfReady 4 none 0 as M P
abbrev yB_timeToSit : MethodName := ⟨"RowsIntoPlane$Boarding", "timeToSit", "(I)I"⟩
abbrev bB_timeToSit : ByteArray := prog_2_method_11_code
abbrev jB_timeToSit (P : Int → ax_Mem → Prop) (pc : Nat) (ls : List (Nat × ax_V)) (st : List ax_V) (M : ax_Mem) : Prop := ax_J shX yB_timeToSit bB_timeToSit 5 (some .int) 1 P pc ls st M
abbrev kB_timeToSit (as : List ax_V) (M : ax_Mem) (P : Int → ax_Mem → Prop) : Prop := ax_C shX yB_timeToSit bB_timeToSit 5 (some .int) 1 as M P
abbrev yB_inTheWayOf : MethodName := ⟨"RowsIntoPlane$Boarding", "inTheWayOf", "(I)I"⟩
abbrev bB_inTheWayOf : ByteArray := prog_2_method_12_code
abbrev jB_inTheWayOf (P : Int → ax_Mem → Prop) (pc : Nat) (ls : List (Nat × ax_V)) (st : List ax_V) (M : ax_Mem) : Prop := ax_J shX yB_inTheWayOf bB_inTheWayOf 5 (some .int) 0 P pc ls st M
abbrev kB_inTheWayOf (as : List ax_V) (M : ax_Mem) (P : Int → ax_Mem → Prop) : Prop := ax_C shX yB_inTheWayOf bB_inTheWayOf 5 (some .int) 0 as M P
abbrev yB_nearestBin : MethodName := ⟨"RowsIntoPlane$Boarding", "nearestBin", "(I)I"⟩
abbrev bB_nearestBin : ByteArray := prog_2_method_13_code
abbrev jB_nearestBin (P : Int → ax_Mem → Prop) (pc : Nat) (ls : List (Nat × ax_V)) (st : List ax_V) (M : ax_Mem) : Prop := ax_J shX yB_nearestBin bB_nearestBin 3 (some .int) 0 P pc ls st M
abbrev kB_nearestBin (as : List ax_V) (M : ax_Mem) (P : Int → ax_Mem → Prop) : Prop := ax_C shX yB_nearestBin bB_nearestBin 3 (some .int) 0 as M P
abbrev yB_tell : MethodName := ⟨"RowsIntoPlane$Boarding", "tell", "(I)I"⟩
abbrev bB_tell : ByteArray := prog_2_method_14_code
abbrev jB_tell (P : Int → ax_Mem → Prop) (pc : Nat) (ls : List (Nat × ax_V)) (st : List ax_V) (M : ax_Mem) : Prop := ax_J shX yB_tell bB_tell 4 (some .int) 0 P pc ls st M
abbrev kB_tell (as : List ax_V) (M : ax_Mem) (P : Int → ax_Mem → Prop) : Prop := ax_C shX yB_tell bB_tell 4 (some .int) 0 as M P
abbrev yB_tellOf : MethodName := ⟨"RowsIntoPlane$Boarding", "tellOf", "(II)I"⟩
abbrev bB_tellOf : ByteArray := prog_2_method_15_code
abbrev jB_tellOf (P : Int → ax_Mem → Prop) (pc : Nat) (ls : List (Nat × ax_V)) (st : List ax_V) (M : ax_Mem) : Prop := ax_J shX yB_tellOf bB_tellOf 3 (some .int) 0 P pc ls st M
abbrev kB_tellOf (as : List ax_V) (M : ax_Mem) (P : Int → ax_Mem → Prop) : Prop := ax_C shX yB_tellOf bB_tellOf 3 (some .int) 0 as M P
abbrev yC_build : MethodName := ⟨"RowsIntoPlane$Cabin", "build", "(III)V"⟩
abbrev bC_build : ByteArray := prog_3_method_2_code
abbrev jC_build (P : Int → ax_Mem → Prop) (pc : Nat) (ls : List (Nat × ax_V)) (st : List ax_V) (M : ax_Mem) : Prop := ax_J shX yC_build bC_build 4 none 0 P pc ls st M
abbrev kC_build (as : List ax_V) (M : ax_Mem) (P : Int → ax_Mem → Prop) : Prop := ax_C shX yC_build bC_build 4 none 0 as M P
abbrev yC_isMissing : MethodName := ⟨"RowsIntoPlane$Cabin", "isMissing", "()Z"⟩
abbrev bC_isMissing : ByteArray := prog_3_method_3_code
abbrev jC_isMissing (P : Int → ax_Mem → Prop) (pc : Nat) (ls : List (Nat × ax_V)) (st : List ax_V) (M : ax_Mem) : Prop := ax_J shX yC_isMissing bC_isMissing 1 (some .boolean) 0 P pc ls st M
abbrev kC_isMissing (as : List ax_V) (M : ax_Mem) (P : Int → ax_Mem → Prop) : Prop := ax_C shX yC_isMissing bC_isMissing 1 (some .boolean) 0 as M P
abbrev yC_seats : MethodName := ⟨"RowsIntoPlane$Cabin", "seats", "()I"⟩
abbrev bC_seats : ByteArray := prog_3_method_4_code
abbrev jC_seats (P : Int → ax_Mem → Prop) (pc : Nat) (ls : List (Nat × ax_V)) (st : List ax_V) (M : ax_Mem) : Prop := ax_J shX yC_seats bC_seats 1 (some .int) 0 P pc ls st M
abbrev kC_seats (as : List ax_V) (M : ax_Mem) (P : Int → ax_Mem → Prop) : Prop := ax_C shX yC_seats bC_seats 1 (some .int) 0 as M P
abbrev yC_hasSeat : MethodName := ⟨"RowsIntoPlane$Cabin", "hasSeat", "(III)Z"⟩
abbrev bC_hasSeat : ByteArray := prog_3_method_5_code
abbrev jC_hasSeat (P : Int → ax_Mem → Prop) (pc : Nat) (ls : List (Nat × ax_V)) (st : List ax_V) (M : ax_Mem) : Prop := ax_J shX yC_hasSeat bC_hasSeat 4 (some .boolean) 1 P pc ls st M
abbrev kC_hasSeat (as : List ax_V) (M : ax_Mem) (P : Int → ax_Mem → Prop) : Prop := ax_C shX yC_hasSeat bC_hasSeat 4 (some .boolean) 1 as M P
abbrev yC_frontRows : MethodName := ⟨"RowsIntoPlane$Cabin", "frontRows", "()I"⟩
abbrev bC_frontRows : ByteArray := prog_3_method_6_code
abbrev jC_frontRows (P : Int → ax_Mem → Prop) (pc : Nat) (ls : List (Nat × ax_V)) (st : List ax_V) (M : ax_Mem) : Prop := ax_J shX yC_frontRows bC_frontRows 1 (some .int) 0 P pc ls st M
abbrev kC_frontRows (as : List ax_V) (M : ax_Mem) (P : Int → ax_Mem → Prop) : Prop := ax_C shX yC_frontRows bC_frontRows 1 (some .int) 0 as M P
abbrev yK_read : MethodName := ⟨"RowsIntoPlane$Call", "read", "(LRowsIntoPlane$Page;)V"⟩
abbrev bK_read : ByteArray := prog_4_method_2_code
abbrev jK_read (P : Int → ax_Mem → Prop) (pc : Nat) (ls : List (Nat × ax_V)) (st : List ax_V) (M : ax_Mem) : Prop := ax_J shX yK_read bK_read 4 none 0 P pc ls st M
abbrev kK_read (as : List ax_V) (M : ax_Mem) (P : Int → ax_Mem → Prop) : Prop := ax_C shX yK_read bK_read 4 none 0 as M P
abbrev yK_arrange : MethodName := ⟨"RowsIntoPlane$Call", "arrange", "(LRowsIntoPlane$Line;LRowsIntoPlane$People;LRowsIntoPlane$Cabin;I)V"⟩
abbrev bK_arrange : ByteArray := prog_4_method_3_code
abbrev jK_arrange (P : Int → ax_Mem → Prop) (pc : Nat) (ls : List (Nat × ax_V)) (st : List ax_V) (M : ax_Mem) : Prop := ax_J shX yK_arrange bK_arrange 7 none 3 P pc ls st M
abbrev kK_arrange (as : List ax_V) (M : ax_Mem) (P : Int → ax_Mem → Prop) : Prop := ax_C shX yK_arrange bK_arrange 7 none 3 as M P
abbrev yK_isAhead : MethodName := ⟨"RowsIntoPlane$Call", "isAhead", "(IILRowsIntoPlane$People;LRowsIntoPlane$Cabin;I)Z"⟩
abbrev bK_isAhead : ByteArray := prog_4_method_4_code
abbrev jK_isAhead (P : Int → ax_Mem → Prop) (pc : Nat) (ls : List (Nat × ax_V)) (st : List ax_V) (M : ax_Mem) : Prop := ax_J shX yK_isAhead bK_isAhead 11 (some .boolean) 2 P pc ls st M
abbrev kK_isAhead (as : List ax_V) (M : ax_Mem) (P : Int → ax_Mem → Prop) : Prop := ax_C shX yK_isAhead bK_isAhead 11 (some .boolean) 2 as M P
abbrev yK_rankOf : MethodName := ⟨"RowsIntoPlane$Call", "rankOf", "(I)I"⟩
abbrev bK_rankOf : ByteArray := prog_4_method_5_code
abbrev jK_rankOf (P : Int → ax_Mem → Prop) (pc : Nat) (ls : List (Nat × ax_V)) (st : List ax_V) (M : ax_Mem) : Prop := ax_J shX yK_rankOf bK_rankOf 1 (some .int) 0 P pc ls st M
abbrev kK_rankOf (as : List ax_V) (M : ax_Mem) (P : Int → ax_Mem → Prop) : Prop := ax_C shX yK_rankOf bK_rankOf 1 (some .int) 0 as M P
abbrev yK_valueOf : MethodName := ⟨"RowsIntoPlane$Call", "valueOf", "(IILRowsIntoPlane$People;LRowsIntoPlane$Cabin;I)I"⟩
abbrev bK_valueOf : ByteArray := prog_4_method_6_code
abbrev jK_valueOf (P : Int → ax_Mem → Prop) (pc : Nat) (ls : List (Nat × ax_V)) (st : List ax_V) (M : ax_Mem) : Prop := ax_J shX yK_valueOf bK_valueOf 7 (some .int) 1 P pc ls st M
abbrev kK_valueOf (as : List ax_V) (M : ax_Mem) (P : Int → ax_Mem → Prop) : Prop := ax_C shX yK_valueOf bK_valueOf 7 (some .int) 1 as M P
abbrev yI_keep : MethodName := ⟨"RowsIntoPlane$Image", "keep", "(LRowsIntoPlane$People;)V"⟩
abbrev bI_keep : ByteArray := prog_5_method_2_code
abbrev jI_keep (P : Int → ax_Mem → Prop) (pc : Nat) (ls : List (Nat × ax_V)) (st : List ax_V) (M : ax_Mem) : Prop := ax_J shX yI_keep bI_keep 2 none 1 P pc ls st M
abbrev kI_keep (as : List ax_V) (M : ax_Mem) (P : Int → ax_Mem → Prop) : Prop := ax_C shX yI_keep bI_keep 2 none 1 as M P
abbrev yI_giveBack : MethodName := ⟨"RowsIntoPlane$Image", "giveBack", "(LRowsIntoPlane$People;)V"⟩
abbrev bI_giveBack : ByteArray := prog_5_method_3_code
abbrev jI_giveBack (P : Int → ax_Mem → Prop) (pc : Nat) (ls : List (Nat × ax_V)) (st : List ax_V) (M : ax_Mem) : Prop := ax_J shX yI_giveBack bI_giveBack 2 none 1 P pc ls st M
abbrev kI_giveBack (as : List ax_V) (M : ax_Mem) (P : Int → ax_Mem → Prop) : Prop := ax_C shX yI_giveBack bI_giveBack 2 none 1 as M P
abbrev yL_run : MethodName := ⟨"RowsIntoPlane$Leaving", "run", "(II)V"⟩
abbrev bL_run : ByteArray := prog_6_method_2_code
abbrev jL_run (P : Int → ax_Mem → Prop) (pc : Nat) (ls : List (Nat × ax_V)) (st : List ax_V) (M : ax_Mem) : Prop := ax_J shX yL_run bL_run 4 none 3 P pc ls st M
abbrev kL_run (as : List ax_V) (M : ax_Mem) (P : Int → ax_Mem → Prop) : Prop := ax_C shX yL_run bL_run 4 none 3 as M P
abbrev yL_goOn : MethodName := ⟨"RowsIntoPlane$Leaving", "goOn", "(I)V"⟩
abbrev bL_goOn : ByteArray := prog_6_method_3_code
abbrev jL_goOn (P : Int → ax_Mem → Prop) (pc : Nat) (ls : List (Nat × ax_V)) (st : List ax_V) (M : ax_Mem) : Prop := ax_J shX yL_goOn bL_goOn 4 none 0 P pc ls st M
abbrev kL_goOn (as : List ax_V) (M : ax_Mem) (P : Int → ax_Mem → Prop) : Prop := ax_C shX yL_goOn bL_goOn 4 none 0 as M P
abbrev yL_getUp : MethodName := ⟨"RowsIntoPlane$Leaving", "getUp", "()V"⟩
abbrev bL_getUp : ByteArray := prog_6_method_4_code
abbrev jL_getUp (P : Int → ax_Mem → Prop) (pc : Nat) (ls : List (Nat × ax_V)) (st : List ax_V) (M : ax_Mem) : Prop := ax_J shX yL_getUp bL_getUp 4 none 2 P pc ls st M
abbrev kL_getUp (as : List ax_V) (M : ax_Mem) (P : Int → ax_Mem → Prop) : Prop := ax_C shX yL_getUp bL_getUp 4 none 2 as M P
abbrev yL_leastTurn : MethodName := ⟨"RowsIntoPlane$Leaving", "leastTurn", "()I"⟩
abbrev bL_leastTurn : ByteArray := prog_6_method_5_code
abbrev jL_leastTurn (P : Int → ax_Mem → Prop) (pc : Nat) (ls : List (Nat × ax_V)) (st : List ax_V) (M : ax_Mem) : Prop := ax_J shX yL_leastTurn bL_leastTurn 3 (some .int) 1 P pc ls st M
abbrev kL_leastTurn (as : List ax_V) (M : ax_Mem) (P : Int → ax_Mem → Prop) : Prop := ax_C shX yL_leastTurn bL_leastTurn 3 (some .int) 1 as M P
abbrev yL_turnOf : MethodName := ⟨"RowsIntoPlane$Leaving", "turnOf", "(I)I"⟩
abbrev bL_turnOf : ByteArray := prog_6_method_6_code
abbrev jL_turnOf (P : Int → ax_Mem → Prop) (pc : Nat) (ls : List (Nat × ax_V)) (st : List ax_V) (M : ax_Mem) : Prop := ax_J shX yL_turnOf bL_turnOf 2 (some .int) 0 P pc ls st M
abbrev kL_turnOf (as : List ax_V) (M : ax_Mem) (P : Int → ax_Mem → Prop) : Prop := ax_C shX yL_turnOf bL_turnOf 2 (some .int) 0 as M P
abbrev yL_nextOf : MethodName := ⟨"RowsIntoPlane$Leaving", "nextOf", "(II)I"⟩
abbrev bL_nextOf : ByteArray := prog_6_method_7_code
abbrev jL_nextOf (P : Int → ax_Mem → Prop) (pc : Nat) (ls : List (Nat × ax_V)) (st : List ax_V) (M : ax_Mem) : Prop := ax_J shX yL_nextOf bL_nextOf 5 (some .int) 1 P pc ls st M
abbrev kL_nextOf (as : List ax_V) (M : ax_Mem) (P : Int → ax_Mem → Prop) : Prop := ax_C shX yL_nextOf bL_nextOf 5 (some .int) 1 as M P
abbrev yL_isNearer : MethodName := ⟨"RowsIntoPlane$Leaving", "isNearer", "(II)Z"⟩
abbrev bL_isNearer : ByteArray := prog_6_method_8_code
abbrev jL_isNearer (P : Int → ax_Mem → Prop) (pc : Nat) (ls : List (Nat × ax_V)) (st : List ax_V) (M : ax_Mem) : Prop := ax_J shX yL_isNearer bL_isNearer 3 (some .boolean) 0 P pc ls st M
abbrev kL_isNearer (as : List ax_V) (M : ax_Mem) (P : Int → ax_Mem → Prop) : Prop := ax_C shX yL_isNearer bL_isNearer 3 (some .boolean) 0 as M P
abbrev yN_byNumber : MethodName := ⟨"RowsIntoPlane$Line", "byNumber", "(I)V"⟩
abbrev bN_byNumber : ByteArray := prog_7_method_2_code
abbrev jN_byNumber (P : Int → ax_Mem → Prop) (pc : Nat) (ls : List (Nat × ax_V)) (st : List ax_V) (M : ax_Mem) : Prop := ax_J shX yN_byNumber bN_byNumber 3 none 1 P pc ls st M
abbrev kN_byNumber (as : List ax_V) (M : ax_Mem) (P : Int → ax_Mem → Prop) : Prop := ax_C shX yN_byNumber bN_byNumber 3 none 1 as M P
abbrev yN_copy : MethodName := ⟨"RowsIntoPlane$Line", "copy", "(LRowsIntoPlane$Line;)V"⟩
abbrev bN_copy : ByteArray := prog_7_method_3_code
abbrev jN_copy (P : Int → ax_Mem → Prop) (pc : Nat) (ls : List (Nat × ax_V)) (st : List ax_V) (M : ax_Mem) : Prop := ax_J shX yN_copy bN_copy 2 none 1 P pc ls st M
abbrev kN_copy (as : List ax_V) (M : ax_Mem) (P : Int → ax_Mem → Prop) : Prop := ax_C shX yN_copy bN_copy 2 none 1 as M P
abbrev yN_placeOf : MethodName := ⟨"RowsIntoPlane$Line", "placeOf", "(I)I"⟩
abbrev bN_placeOf : ByteArray := prog_7_method_4_code
abbrev jN_placeOf (P : Int → ax_Mem → Prop) (pc : Nat) (ls : List (Nat × ax_V)) (st : List ax_V) (M : ax_Mem) : Prop := ax_J shX yN_placeOf bN_placeOf 3 (some .int) 0 P pc ls st M
abbrev kN_placeOf (as : List ax_V) (M : ax_Mem) (P : Int → ax_Mem → Prop) : Prop := ax_C shX yN_placeOf bN_placeOf 3 (some .int) 0 as M P
abbrev yN_takeOut : MethodName := ⟨"RowsIntoPlane$Line", "takeOut", "(I)V"⟩
abbrev bN_takeOut : ByteArray := prog_7_method_5_code
abbrev jN_takeOut (P : Int → ax_Mem → Prop) (pc : Nat) (ls : List (Nat × ax_V)) (st : List ax_V) (M : ax_Mem) : Prop := ax_J shX yN_takeOut bN_takeOut 4 none 1 P pc ls st M
abbrev kN_takeOut (as : List ax_V) (M : ax_Mem) (P : Int → ax_Mem → Prop) : Prop := ax_C shX yN_takeOut bN_takeOut 4 none 1 as M P
abbrev yN_putIn : MethodName := ⟨"RowsIntoPlane$Line", "putIn", "(II)V"⟩
abbrev bN_putIn : ByteArray := prog_7_method_6_code
abbrev jN_putIn (P : Int → ax_Mem → Prop) (pc : Nat) (ls : List (Nat × ax_V)) (st : List ax_V) (M : ax_Mem) : Prop := ax_J shX yN_putIn bN_putIn 4 none 0 P pc ls st M
abbrev kN_putIn (as : List ax_V) (M : ax_Mem) (P : Int → ax_Mem → Prop) : Prop := ax_C shX yN_putIn bN_putIn 4 none 0 as M P
abbrev yN_exchange : MethodName := ⟨"RowsIntoPlane$Line", "exchange", "(II)V"⟩
abbrev bN_exchange : ByteArray := prog_7_method_7_code
abbrev jN_exchange (P : Int → ax_Mem → Prop) (pc : Nat) (ls : List (Nat × ax_V)) (st : List ax_V) (M : ax_Mem) : Prop := ax_J shX yN_exchange bN_exchange 4 none 0 P pc ls st M
abbrev kN_exchange (as : List ax_V) (M : ax_Mem) (P : Int → ax_Mem → Prop) : Prop := ax_C shX yN_exchange bN_exchange 4 none 0 as M P
abbrev yN_goToNext : MethodName := ⟨"RowsIntoPlane$Line", "goToNext", "()Z"⟩
abbrev bN_goToNext : ByteArray := prog_7_method_8_code
abbrev jN_goToNext (P : Int → ax_Mem → Prop) (pc : Nat) (ls : List (Nat × ax_V)) (st : List ax_V) (M : ax_Mem) : Prop := ax_J shX yN_goToNext bN_goToNext 5 (some .boolean) 1 P pc ls st M
abbrev kN_goToNext (as : List ax_V) (M : ax_Mem) (P : Int → ax_Mem → Prop) : Prop := ax_C shX yN_goToNext bN_goToNext 5 (some .boolean) 1 as M P
abbrev yN_mix : MethodName := ⟨"RowsIntoPlane$Line", "mix", "(I)I"⟩
abbrev bN_mix : ByteArray := prog_7_method_9_code
abbrev jN_mix (P : Int → ax_Mem → Prop) (pc : Nat) (ls : List (Nat × ax_V)) (st : List ax_V) (M : ax_Mem) : Prop := ax_J shX yN_mix bN_mix 5 (some .int) 1 P pc ls st M
abbrev kN_mix (as : List ax_V) (M : ax_Mem) (P : Int → ax_Mem → Prop) : Prop := ax_C shX yN_mix bN_mix 5 (some .int) 1 as M P
abbrev yG_lettersIn : MethodName := ⟨"RowsIntoPlane$Page", "lettersIn", "(J)I"⟩
abbrev bG_lettersIn : ByteArray := prog_8_method_2_code
abbrev jG_lettersIn (P : Int → ax_Mem → Prop) (pc : Nat) (ls : List (Nat × ax_V)) (st : List ax_V) (M : ax_Mem) : Prop := ax_J shX yG_lettersIn bG_lettersIn 6 (some .int) 1 P pc ls st M
abbrev kG_lettersIn (as : List ax_V) (M : ax_Mem) (P : Int → ax_Mem → Prop) : Prop := ax_C shX yG_lettersIn bG_lettersIn 6 (some .int) 1 as M P
abbrev yG_codeIn : MethodName := ⟨"RowsIntoPlane$Page", "codeIn", "(JI)I"⟩
abbrev bG_codeIn : ByteArray := prog_8_method_3_code
abbrev jG_codeIn (P : Int → ax_Mem → Prop) (pc : Nat) (ls : List (Nat × ax_V)) (st : List ax_V) (M : ax_Mem) : Prop := ax_J shX yG_codeIn bG_codeIn 3 (some .int) 0 P pc ls st M
abbrev kG_codeIn (as : List ax_V) (M : ax_Mem) (P : Int → ax_Mem → Prop) : Prop := ax_C shX yG_codeIn bG_codeIn 3 (some .int) 0 as M P
abbrev yG_write : MethodName := ⟨"RowsIntoPlane$Page", "write", "(JI)V"⟩
abbrev bG_write : ByteArray := prog_8_method_4_code
abbrev jG_write (P : Int → ax_Mem → Prop) (pc : Nat) (ls : List (Nat × ax_V)) (st : List ax_V) (M : ax_Mem) : Prop := ax_J shX yG_write bG_write 5 none 1 P pc ls st M
abbrev kG_write (as : List ax_V) (M : ax_Mem) (P : Int → ax_Mem → Prop) : Prop := ax_C shX yG_write bG_write 5 none 1 as M P
abbrev yG_firstFault : MethodName := ⟨"RowsIntoPlane$Page", "firstFault", "()I"⟩
abbrev bG_firstFault : ByteArray := prog_8_method_5_code
abbrev jG_firstFault (P : Int → ax_Mem → Prop) (pc : Nat) (ls : List (Nat × ax_V)) (st : List ax_V) (M : ax_Mem) : Prop := ax_J shX yG_firstFault bG_firstFault 3 (some .int) 2 P pc ls st M
abbrev kG_firstFault (as : List ax_V) (M : ax_Mem) (P : Int → ax_Mem → Prop) : Prop := ax_C shX yG_firstFault bG_firstFault 3 (some .int) 2 as M P
abbrev yG_isCall : MethodName := ⟨"RowsIntoPlane$Page", "isCall", "()Z"⟩
abbrev bG_isCall : ByteArray := prog_8_method_6_code
abbrev jG_isCall (P : Int → ax_Mem → Prop) (pc : Nat) (ls : List (Nat × ax_V)) (st : List ax_V) (M : ax_Mem) : Prop := ax_J shX yG_isCall bG_isCall 1 (some .boolean) 3 P pc ls st M
abbrev kG_isCall (as : List ax_V) (M : ax_Mem) (P : Int → ax_Mem → Prop) : Prop := ax_C shX yG_isCall bG_isCall 1 (some .boolean) 3 as M P
abbrev yG_dueBehind : MethodName := ⟨"RowsIntoPlane$Page", "dueBehind", "(CI)I"⟩
abbrev bG_dueBehind : ByteArray := prog_8_method_7_code
abbrev jG_dueBehind (P : Int → ax_Mem → Prop) (pc : Nat) (ls : List (Nat × ax_V)) (st : List ax_V) (M : ax_Mem) : Prop := ax_J shX yG_dueBehind bG_dueBehind 3 (some .int) 1 P pc ls st M
abbrev kG_dueBehind (as : List ax_V) (M : ax_Mem) (P : Int → ax_Mem → Prop) : Prop := ax_C shX yG_dueBehind bG_dueBehind 3 (some .int) 1 as M P
abbrev yG_dueBehindKey : MethodName := ⟨"RowsIntoPlane$Page", "dueBehindKey", "(C)I"⟩
abbrev bG_dueBehindKey : ByteArray := prog_8_method_8_code
abbrev jG_dueBehindKey (P : Int → ax_Mem → Prop) (pc : Nat) (ls : List (Nat × ax_V)) (st : List ax_V) (M : ax_Mem) : Prop := ax_J shX yG_dueBehindKey bG_dueBehindKey 1 (some .int) 0 P pc ls st M
abbrev kG_dueBehindKey (as : List ax_V) (M : ax_Mem) (P : Int → ax_Mem → Prop) : Prop := ax_C shX yG_dueBehindKey bG_dueBehindKey 1 (some .int) 0 as M P
abbrev yE_has : MethodName := ⟨"RowsIntoPlane$People", "has", "(I)Z"⟩
abbrev bE_has : ByteArray := prog_9_method_2_code
abbrev jE_has (P : Int → ax_Mem → Prop) (pc : Nat) (ls : List (Nat × ax_V)) (st : List ax_V) (M : ax_Mem) : Prop := ax_J shX yE_has bE_has 2 (some .boolean) 0 P pc ls st M
abbrev kE_has (as : List ax_V) (M : ax_Mem) (P : Int → ax_Mem → Prop) : Prop := ax_C shX yE_has bE_has 2 (some .boolean) 0 as M P
abbrev yE_haveSeat : MethodName := ⟨"RowsIntoPlane$People", "haveSeat", "(III)Z"⟩
abbrev bE_haveSeat : ByteArray := prog_9_method_3_code
abbrev jE_haveSeat (P : Int → ax_Mem → Prop) (pc : Nat) (ls : List (Nat × ax_V)) (st : List ax_V) (M : ax_Mem) : Prop := ax_J shX yE_haveSeat bE_haveSeat 5 (some .boolean) 0 P pc ls st M
abbrev kE_haveSeat (as : List ax_V) (M : ax_Mem) (P : Int → ax_Mem → Prop) : Prop := ax_C shX yE_haveSeat bE_haveSeat 5 (some .boolean) 0 as M P
abbrev yE_isA : MethodName := ⟨"RowsIntoPlane$People", "isA", "(II)Z"⟩
abbrev bE_isA : ByteArray := prog_9_method_4_code
abbrev jE_isA (P : Int → ax_Mem → Prop) (pc : Nat) (ls : List (Nat × ax_V)) (st : List ax_V) (M : ax_Mem) : Prop := ax_J shX yE_isA bE_isA 3 (some .boolean) 0 P pc ls st M
abbrev kE_isA (as : List ax_V) (M : ax_Mem) (P : Int → ax_Mem → Prop) : Prop := ax_C shX yE_isA bE_isA 3 (some .boolean) 0 as M P
abbrev yE_tell : MethodName := ⟨"RowsIntoPlane$People", "tell", "(II)I"⟩
abbrev bE_tell : ByteArray := prog_9_method_5_code
abbrev jE_tell (P : Int → ax_Mem → Prop) (pc : Nat) (ls : List (Nat × ax_V)) (st : List ax_V) (M : ax_Mem) : Prop := ax_J shX yE_tell bE_tell 3 (some .int) 0 P pc ls st M
abbrev kE_tell (as : List ax_V) (M : ax_Mem) (P : Int → ax_Mem → Prop) : Prop := ax_C shX yE_tell bE_tell 3 (some .int) 0 as M P
abbrev yE_thatStayFor : MethodName := ⟨"RowsIntoPlane$People", "thatStayFor", "(I)I"⟩
abbrev bE_thatStayFor : ByteArray := prog_9_method_6_code
abbrev jE_thatStayFor (P : Int → ax_Mem → Prop) (pc : Nat) (ls : List (Nat × ax_V)) (st : List ax_V) (M : ax_Mem) : Prop := ax_J shX yE_thatStayFor bE_thatStayFor 4 (some .int) 0 P pc ls st M
abbrev kE_thatStayFor (as : List ax_V) (M : ax_Mem) (P : Int → ax_Mem → Prop) : Prop := ax_C shX yE_thatStayFor bE_thatStayFor 4 (some .int) 0 as M P
abbrev yE_bagsOfAll : MethodName := ⟨"RowsIntoPlane$People", "bagsOfAll", "()I"⟩
abbrev bE_bagsOfAll : ByteArray := prog_9_method_7_code
abbrev jE_bagsOfAll (P : Int → ax_Mem → Prop) (pc : Nat) (ls : List (Nat × ax_V)) (st : List ax_V) (M : ax_Mem) : Prop := ax_J shX yE_bagsOfAll bE_bagsOfAll 3 (some .int) 0 P pc ls st M
abbrev kE_bagsOfAll (as : List ax_V) (M : ax_Mem) (P : Int → ax_Mem → Prop) : Prop := ax_C shX yE_bagsOfAll bE_bagsOfAll 3 (some .int) 0 as M P
abbrev yX_cabin : MethodName := ⟨"RowsIntoPlane", "cabin", "(III)I"⟩
abbrev bX_cabin : ByteArray := prog_1_method_2_code
abbrev jX_cabin (P : Int → ax_Mem → Prop) (pc : Nat) (ls : List (Nat × ax_V)) (st : List ax_V) (M : ax_Mem) : Prop := ax_J shX yX_cabin bX_cabin 4 (some .int) 1 P pc ls st M
abbrev kX_cabin (as : List ax_V) (M : ax_Mem) (P : Int → ax_Mem → Prop) : Prop := ax_C shX yX_cabin bX_cabin 4 (some .int) 1 as M P
abbrev yX_person : MethodName := ⟨"RowsIntoPlane", "person", "(IIIIIII)I"⟩
abbrev bX_person : ByteArray := prog_1_method_3_code
abbrev jX_person (P : Int → ax_Mem → Prop) (pc : Nat) (ls : List (Nat × ax_V)) (st : List ax_V) (M : ax_Mem) : Prop := ax_J shX yX_person bX_person 9 (some .int) 2 P pc ls st M
abbrev kX_person (as : List ax_V) (M : ax_Mem) (P : Int → ax_Mem → Prop) : Prop := ax_C shX yX_person bX_person 9 (some .int) 2 as M P
abbrev yX_as : MethodName := ⟨"RowsIntoPlane", "as", "(II)I"⟩
abbrev bX_as : ByteArray := prog_1_method_4_code
abbrev jX_as (P : Int → ax_Mem → Prop) (pc : Nat) (ls : List (Nat × ax_V)) (st : List ax_V) (M : ax_Mem) : Prop := ax_J shX yX_as bX_as 3 (some .int) 1 P pc ls st M
abbrev kX_as (as : List ax_V) (M : ax_Mem) (P : Int → ax_Mem → Prop) : Prop := ax_C shX yX_as bX_as 3 (some .int) 1 as M P
abbrev yX_about : MethodName := ⟨"RowsIntoPlane", "about", "(II)I"⟩
abbrev bX_about : ByteArray := prog_1_method_5_code
abbrev jX_about (P : Int → ax_Mem → Prop) (pc : Nat) (ls : List (Nat × ax_V)) (st : List ax_V) (M : ax_Mem) : Prop := ax_J shX yX_about bX_about 3 (some .int) 1 P pc ls st M
abbrev kX_about (as : List ax_V) (M : ax_Mem) (P : Int → ax_Mem → Prop) : Prop := ax_C shX yX_about bX_about 3 (some .int) 1 as M P
abbrev yX_change : MethodName := ⟨"RowsIntoPlane", "change", "(III)I"⟩
abbrev bX_change : ByteArray := prog_1_method_6_code
abbrev jX_change (P : Int → ax_Mem → Prop) (pc : Nat) (ls : List (Nat × ax_V)) (st : List ax_V) (M : ax_Mem) : Prop := ax_J shX yX_change bX_change 5 (some .int) 1 P pc ls st M
abbrev kX_change (as : List ax_V) (M : ax_Mem) (P : Int → ax_Mem → Prop) : Prop := ax_C shX yX_change bX_change 5 (some .int) 1 as M P
abbrev yX_letters : MethodName := ⟨"RowsIntoPlane", "letters", "(J)I"⟩
abbrev bX_letters : ByteArray := prog_1_method_7_code
abbrev jX_letters (P : Int → ax_Mem → Prop) (pc : Nat) (ls : List (Nat × ax_V)) (st : List ax_V) (M : ax_Mem) : Prop := ax_J shX yX_letters bX_letters 4 (some .int) 2 P pc ls st M
abbrev kX_letters (as : List ax_V) (M : ax_Mem) (P : Int → ax_Mem → Prop) : Prop := ax_C shX yX_letters bX_letters 4 (some .int) 2 as M P
abbrev yX_blank : MethodName := ⟨"RowsIntoPlane", "blank", "()I"⟩
abbrev bX_blank : ByteArray := prog_1_method_8_code
abbrev jX_blank (P : Int → ax_Mem → Prop) (pc : Nat) (ls : List (Nat × ax_V)) (st : List ax_V) (M : ax_Mem) : Prop := ax_J shX yX_blank bX_blank 2 (some .int) 0 P pc ls st M
abbrev kX_blank (as : List ax_V) (M : ax_Mem) (P : Int → ax_Mem → Prop) : Prop := ax_C shX yX_blank bX_blank 2 (some .int) 0 as M P
abbrev yX_fault : MethodName := ⟨"RowsIntoPlane", "fault", "()I"⟩
abbrev bX_fault : ByteArray := prog_1_method_9_code
abbrev jX_fault (P : Int → ax_Mem → Prop) (pc : Nat) (ls : List (Nat × ax_V)) (st : List ax_V) (M : ax_Mem) : Prop := ax_J shX yX_fault bX_fault 1 (some .int) 3 P pc ls st M
abbrev kX_fault (as : List ax_V) (M : ax_Mem) (P : Int → ax_Mem → Prop) : Prop := ax_C shX yX_fault bX_fault 1 (some .int) 3 as M P
abbrev yX_call : MethodName := ⟨"RowsIntoPlane", "call", "()I"⟩
abbrev bX_call : ByteArray := prog_1_method_10_code
abbrev jX_call (P : Int → ax_Mem → Prop) (pc : Nat) (ls : List (Nat × ax_V)) (st : List ax_V) (M : ax_Mem) : Prop := ax_J shX yX_call bX_call 1 (some .int) 4 P pc ls st M
abbrev kX_call (as : List ax_V) (M : ax_Mem) (P : Int → ax_Mem → Prop) : Prop := ax_C shX yX_call bX_call 1 (some .int) 4 as M P
abbrev yX_order : MethodName := ⟨"RowsIntoPlane", "order", "(II)I"⟩
abbrev bX_order : ByteArray := prog_1_method_11_code
abbrev jX_order (P : Int → ax_Mem → Prop) (pc : Nat) (ls : List (Nat × ax_V)) (st : List ax_V) (M : ax_Mem) : Prop := ax_J shX yX_order bX_order 4 (some .int) 5 P pc ls st M
abbrev kX_order (as : List ax_V) (M : ax_Mem) (P : Int → ax_Mem → Prop) : Prop := ax_C shX yX_order bX_order 4 (some .int) 5 as M P
abbrev yX_board : MethodName := ⟨"RowsIntoPlane", "board", "(II)I"⟩
abbrev bX_board : ByteArray := prog_1_method_12_code
abbrev jX_board (P : Int → ax_Mem → Prop) (pc : Nat) (ls : List (Nat × ax_V)) (st : List ax_V) (M : ax_Mem) : Prop := ax_J shX yX_board bX_board 4 (some .int) 6 P pc ls st M
abbrev kX_board (as : List ax_V) (M : ax_Mem) (P : Int → ax_Mem → Prop) : Prop := ax_C shX yX_board bX_board 4 (some .int) 6 as M P
abbrev yX_sits : MethodName := ⟨"RowsIntoPlane", "sits", "(III)I"⟩
abbrev bX_sits : ByteArray := prog_1_method_13_code
abbrev jX_sits (P : Int → ax_Mem → Prop) (pc : Nat) (ls : List (Nat × ax_V)) (st : List ax_V) (M : ax_Mem) : Prop := ax_J shX yX_sits bX_sits 4 (some .int) 6 P pc ls st M
abbrev kX_sits (as : List ax_V) (M : ax_Mem) (P : Int → ax_Mem → Prop) : Prop := ax_C shX yX_sits bX_sits 4 (some .int) 6 as M P
abbrev yX_stands : MethodName := ⟨"RowsIntoPlane", "stands", "(III)I"⟩
abbrev bX_stands : ByteArray := prog_1_method_14_code
abbrev jX_stands (P : Int → ax_Mem → Prop) (pc : Nat) (ls : List (Nat × ax_V)) (st : List ax_V) (M : ax_Mem) : Prop := ax_J shX yX_stands bX_stands 5 (some .int) 6 P pc ls st M
abbrev kX_stands (as : List ax_V) (M : ax_Mem) (P : Int → ax_Mem → Prop) : Prop := ax_C shX yX_stands bX_stands 5 (some .int) 6 as M P
abbrev yX_least : MethodName := ⟨"RowsIntoPlane", "least", "()I"⟩
abbrev bX_least : ByteArray := prog_1_method_15_code
abbrev jX_least (P : Int → ax_Mem → Prop) (pc : Nat) (ls : List (Nat × ax_V)) (st : List ax_V) (M : ax_Mem) : Prop := ax_J shX yX_least bX_least 4 (some .int) 6 P pc ls st M
abbrev kX_least (as : List ax_V) (M : ax_Mem) (P : Int → ax_Mem → Prop) : Prop := ax_C shX yX_least bX_least 4 (some .int) 6 as M P
abbrev yX_bestOrder : MethodName := ⟨"RowsIntoPlane", "bestOrder", "(I)I"⟩
abbrev bX_bestOrder : ByteArray := prog_1_method_16_code
abbrev jX_bestOrder (P : Int → ax_Mem → Prop) (pc : Nat) (ls : List (Nat × ax_V)) (st : List ax_V) (M : ax_Mem) : Prop := ax_J shX yX_bestOrder bX_bestOrder 3 (some .int) 6 P pc ls st M
abbrev kX_bestOrder (as : List ax_V) (M : ax_Mem) (P : Int → ax_Mem → Prop) : Prop := ax_C shX yX_bestOrder bX_bestOrder 3 (some .int) 6 as M P
abbrev yX_swap : MethodName := ⟨"RowsIntoPlane", "swap", "(I)I"⟩
abbrev bX_swap : ByteArray := prog_1_method_17_code
abbrev jX_swap (P : Int → ax_Mem → Prop) (pc : Nat) (ls : List (Nat × ax_V)) (st : List ax_V) (M : ax_Mem) : Prop := ax_J shX yX_swap bX_swap 7 (some .int) 6 P pc ls st M
abbrev kX_swap (as : List ax_V) (M : ax_Mem) (P : Int → ax_Mem → Prop) : Prop := ax_C shX yX_swap bX_swap 7 (some .int) 6 as M P
abbrev yX_later : MethodName := ⟨"RowsIntoPlane", "later", "(II)I"⟩
abbrev bX_later : ByteArray := prog_1_method_18_code
abbrev jX_later (P : Int → ax_Mem → Prop) (pc : Nat) (ls : List (Nat × ax_V)) (st : List ax_V) (M : ax_Mem) : Prop := ax_J shX yX_later bX_later 3 (some .int) 5 P pc ls st M
abbrev kX_later (as : List ax_V) (M : ax_Mem) (P : Int → ax_Mem → Prop) : Prop := ax_C shX yX_later bX_later 3 (some .int) 5 as M P
abbrev yX_bound : MethodName := ⟨"RowsIntoPlane", "bound", "(II)I"⟩
abbrev bX_bound : ByteArray := prog_1_method_19_code
abbrev jX_bound (P : Int → ax_Mem → Prop) (pc : Nat) (ls : List (Nat × ax_V)) (st : List ax_V) (M : ax_Mem) : Prop := ax_J shX yX_bound bX_bound 4 (some .int) 6 P pc ls st M
abbrev kX_bound (as : List ax_V) (M : ax_Mem) (P : Int → ax_Mem → Prop) : Prop := ax_C shX yX_bound bX_bound 4 (some .int) 6 as M P
abbrev yX_doors : MethodName := ⟨"RowsIntoPlane", "doors", "(I)I"⟩
abbrev bX_doors : ByteArray := prog_1_method_20_code
abbrev jX_doors (P : Int → ax_Mem → Prop) (pc : Nat) (ls : List (Nat × ax_V)) (st : List ax_V) (M : ax_Mem) : Prop := ax_J shX yX_doors bX_doors 3 (some .int) 6 P pc ls st M
abbrev kX_doors (as : List ax_V) (M : ax_Mem) (P : Int → ax_Mem → Prop) : Prop := ax_C shX yX_doors bX_doors 3 (some .int) 6 as M P
abbrev yX_mixed : MethodName := ⟨"RowsIntoPlane", "mixed", "(III)I"⟩
abbrev bX_mixed : ByteArray := prog_1_method_21_code
abbrev jX_mixed (P : Int → ax_Mem → Prop) (pc : Nat) (ls : List (Nat × ax_V)) (st : List ax_V) (M : ax_Mem) : Prop := ax_J shX yX_mixed bX_mixed 8 (some .int) 4 P pc ls st M
abbrev kX_mixed (as : List ax_V) (M : ax_Mem) (P : Int → ax_Mem → Prop) : Prop := ax_C shX yX_mixed bX_mixed 8 (some .int) 4 as M P
abbrev yX_out : MethodName := ⟨"RowsIntoPlane", "out", "(I)I"⟩
abbrev bX_out : ByteArray := prog_1_method_22_code
abbrev jX_out (P : Int → ax_Mem → Prop) (pc : Nat) (ls : List (Nat × ax_V)) (st : List ax_V) (M : ax_Mem) : Prop := ax_J shX yX_out bX_out 2 (some .int) 4 P pc ls st M
abbrev kX_out (as : List ax_V) (M : ax_Mem) (P : Int → ax_Mem → Prop) : Prop := ax_C shX yX_out bX_out 2 (some .int) 4 as M P
abbrev yX_outOf : MethodName := ⟨"RowsIntoPlane", "outOf", "(II)I"⟩
abbrev bX_outOf : ByteArray := prog_1_method_23_code
abbrev jX_outOf (P : Int → ax_Mem → Prop) (pc : Nat) (ls : List (Nat × ax_V)) (st : List ax_V) (M : ax_Mem) : Prop := ax_J shX yX_outOf bX_outOf 3 (some .int) 4 P pc ls st M
abbrev kX_outOf (as : List ax_V) (M : ax_Mem) (P : Int → ax_Mem → Prop) : Prop := ax_C shX yX_outOf bX_outOf 3 (some .int) 4 as M P
abbrev yX_missed : MethodName := ⟨"RowsIntoPlane", "missed", "(I)I"⟩
abbrev bX_missed : ByteArray := prog_1_method_24_code
abbrev jX_missed (P : Int → ax_Mem → Prop) (pc : Nat) (ls : List (Nat × ax_V)) (st : List ax_V) (M : ax_Mem) : Prop := ax_J shX yX_missed bX_missed 4 (some .int) 4 P pc ls st M
abbrev kX_missed (as : List ax_V) (M : ax_Mem) (P : Int → ax_Mem → Prop) : Prop := ax_C shX yX_missed bX_missed 4 (some .int) 4 as M P
abbrev yX_stay : MethodName := ⟨"RowsIntoPlane", "stay", "(III)I"⟩
abbrev bX_stay : ByteArray := prog_1_method_25_code
abbrev jX_stay (P : Int → ax_Mem → Prop) (pc : Nat) (ls : List (Nat × ax_V)) (st : List ax_V) (M : ax_Mem) : Prop := ax_J shX yX_stay bX_stay 5 (some .int) 1 P pc ls st M
abbrev kX_stay (as : List ax_V) (M : ax_Mem) (P : Int → ax_Mem → Prop) : Prop := ax_C shX yX_stay bX_stay 5 (some .int) 1 as M P
abbrev yX_image : MethodName := ⟨"RowsIntoPlane", "image", "()I"⟩
abbrev bX_image : ByteArray := prog_1_method_26_code
abbrev jX_image (P : Int → ax_Mem → Prop) (pc : Nat) (ls : List (Nat × ax_V)) (st : List ax_V) (M : ax_Mem) : Prop := ax_J shX yX_image bX_image 1 (some .int) 2 P pc ls st M
abbrev kX_image (as : List ax_V) (M : ax_Mem) (P : Int → ax_Mem → Prop) : Prop := ax_C shX yX_image bX_image 1 (some .int) 2 as M P
abbrev yX_restore : MethodName := ⟨"RowsIntoPlane", "restore", "()I"⟩
abbrev bX_restore : ByteArray := prog_1_method_27_code
abbrev jX_restore (P : Int → ax_Mem → Prop) (pc : Nat) (ls : List (Nat × ax_V)) (st : List ax_V) (M : ax_Mem) : Prop := ax_J shX yX_restore bX_restore 1 (some .int) 2 P pc ls st M
abbrev kX_restore (as : List ax_V) (M : ax_Mem) (P : Int → ax_Mem → Prop) : Prop := ax_C shX yX_restore bX_restore 1 (some .int) 2 as M P
abbrev yX_count : MethodName := ⟨"RowsIntoPlane", "count", "(I)I"⟩
abbrev bX_count : ByteArray := prog_1_method_28_code
abbrev jX_count (P : Int → ax_Mem → Prop) (pc : Nat) (ls : List (Nat × ax_V)) (st : List ax_V) (M : ax_Mem) : Prop := ax_J shX yX_count bX_count 2 (some .int) 1 P pc ls st M
abbrev kX_count (as : List ax_V) (M : ax_Mem) (P : Int → ax_Mem → Prop) : Prop := ax_C shX yX_count bX_count 2 (some .int) 1 as M P
abbrev yX_digest : MethodName := ⟨"RowsIntoPlane", "digest", "()J"⟩
abbrev bX_digest : ByteArray := prog_1_method_29_code
abbrev jX_digest (P : Int → ax_Mem → Prop) (pc : Nat) (ls : List (Nat × ax_V)) (st : List ax_V) (M : ax_Mem) : Prop := ax_J shX yX_digest bX_digest 5 (some .long) 7 P pc ls st M
abbrev kX_digest (as : List ax_V) (M : ax_Mem) (P : Int → ax_Mem → Prop) : Prop := ax_C shX yX_digest bX_digest 5 (some .long) 7 as M P
abbrev yX_outside : MethodName := ⟨"RowsIntoPlane", "outside", "(III)Z"⟩
abbrev bX_outside : ByteArray := prog_1_method_30_code
abbrev jX_outside (P : Int → ax_Mem → Prop) (pc : Nat) (ls : List (Nat × ax_V)) (st : List ax_V) (M : ax_Mem) : Prop := ax_J shX yX_outside bX_outside 3 (some .boolean) 0 P pc ls st M
abbrev kX_outside (as : List ax_V) (M : ax_Mem) (P : Int → ax_Mem → Prop) : Prop := ax_C shX yX_outside bX_outside 3 (some .boolean) 0 as M P
abbrev yX_hasCall : MethodName := ⟨"RowsIntoPlane", "hasCall", "(I)Z"⟩
abbrev bX_hasCall : ByteArray := prog_1_method_31_code
abbrev jX_hasCall (P : Int → ax_Mem → Prop) (pc : Nat) (ls : List (Nat × ax_V)) (st : List ax_V) (M : ax_Mem) : Prop := ax_J shX yX_hasCall bX_hasCall 2 (some .boolean) 0 P pc ls st M
abbrev kX_hasCall (as : List ax_V) (M : ax_Mem) (P : Int → ax_Mem → Prop) : Prop := ax_C shX yX_hasCall bX_hasCall 2 (some .boolean) 0 as M P
abbrev yX_refusalOf : MethodName := ⟨"RowsIntoPlane", "refusalOf", "(I)I"⟩
abbrev bX_refusalOf : ByteArray := prog_1_method_32_code
abbrev jX_refusalOf (P : Int → ax_Mem → Prop) (pc : Nat) (ls : List (Nat × ax_V)) (st : List ax_V) (M : ax_Mem) : Prop := ax_J shX yX_refusalOf bX_refusalOf 2 (some .int) 1 P pc ls st M
abbrev kX_refusalOf (as : List ax_V) (M : ax_Mem) (P : Int → ax_Mem → Prop) : Prop := ax_C shX yX_refusalOf bX_refusalOf 2 (some .int) 1 as M P
abbrev yX_lineUp : MethodName := ⟨"RowsIntoPlane", "lineUp", "(II)V"⟩
abbrev bX_lineUp : ByteArray := prog_1_method_33_code
abbrev jX_lineUp (P : Int → ax_Mem → Prop) (pc : Nat) (ls : List (Nat × ax_V)) (st : List ax_V) (M : ax_Mem) : Prop := ax_J shX yX_lineUp bX_lineUp 3 none 4 P pc ls st M
abbrev kX_lineUp (as : List ax_V) (M : ax_Mem) (P : Int → ax_Mem → Prop) : Prop := ax_C shX yX_lineUp bX_lineUp 3 none 4 as M P
abbrev yX_boardBy : MethodName := ⟨"RowsIntoPlane", "boardBy", "(III)V"⟩
abbrev bX_boardBy : ByteArray := prog_1_method_34_code
abbrev jX_boardBy (P : Int → ax_Mem → Prop) (pc : Nat) (ls : List (Nat × ax_V)) (st : List ax_V) (M : ax_Mem) : Prop := ax_J shX yX_boardBy bX_boardBy 4 none 5 P pc ls st M
abbrev kX_boardBy (as : List ax_V) (M : ax_Mem) (P : Int → ax_Mem → Prop) : Prop := ax_C shX yX_boardBy bX_boardBy 4 none 5 as M P
abbrev yX_findBest : MethodName := ⟨"RowsIntoPlane", "findBest", "()I"⟩
abbrev bX_findBest : ByteArray := prog_1_method_35_code
abbrev jX_findBest (P : Int → ax_Mem → Prop) (pc : Nat) (ls : List (Nat × ax_V)) (st : List ax_V) (M : ax_Mem) : Prop := ax_J shX yX_findBest bX_findBest 3 (some .int) 5 P pc ls st M
abbrev kX_findBest (as : List ax_V) (M : ax_Mem) (P : Int → ax_Mem → Prop) : Prop := ax_C shX yX_findBest bX_findBest 3 (some .int) 5 as M P
abbrev yX_secondsByDoors : MethodName := ⟨"RowsIntoPlane", "secondsByDoors", "(I)I"⟩
abbrev bX_secondsByDoors : ByteArray := prog_1_method_36_code
abbrev jX_secondsByDoors (P : Int → ax_Mem → Prop) (pc : Nat) (ls : List (Nat × ax_V)) (st : List ax_V) (M : ax_Mem) : Prop := ax_J shX yX_secondsByDoors bX_secondsByDoors 3 (some .int) 5 P pc ls st M
abbrev kX_secondsByDoors (as : List ax_V) (M : ax_Mem) (P : Int → ax_Mem → Prop) : Prop := ax_C shX yX_secondsByDoors bX_secondsByDoors 3 (some .int) 5 as M P
abbrev yX_withCall : MethodName := ⟨"RowsIntoPlane", "withCall", "(JI)J"⟩
abbrev bX_withCall : ByteArray := prog_1_method_37_code
abbrev jX_withCall (P : Int → ax_Mem → Prop) (pc : Nat) (ls : List (Nat × ax_V)) (st : List ax_V) (M : ax_Mem) : Prop := ax_J shX yX_withCall bX_withCall 7 (some .long) 6 P pc ls st M
abbrev kX_withCall (as : List ax_V) (M : ax_Mem) (P : Int → ax_Mem → Prop) : Prop := ax_C shX yX_withCall bX_withCall 7 (some .long) 6 as M P
abbrev yM_in : MethodName := ⟨"RowsIntoPlaneModel", "in", "(JJJ)Z"⟩
abbrev bM_in : ByteArray := prog_11_method_2_code
abbrev jM_in (P : Int → ax_Mem → Prop) (pc : Nat) (ls : List (Nat × ax_V)) (st : List ax_V) (M : ax_Mem) : Prop := ax_J shM yM_in bM_in 6 (some .boolean) 0 P pc ls st M
abbrev kM_in (as : List ax_V) (M : ax_Mem) (P : Int → ax_Mem → Prop) : Prop := ax_C shM yM_in bM_in 6 (some .boolean) 0 as M P
abbrev yM_cabin : MethodName := ⟨"RowsIntoPlaneModel", "cabin", "(III)I"⟩
abbrev bM_cabin : ByteArray := prog_11_method_3_code
abbrev jM_cabin (P : Int → ax_Mem → Prop) (pc : Nat) (ls : List (Nat × ax_V)) (st : List ax_V) (M : ax_Mem) : Prop := ax_J shM yM_cabin bM_cabin 4 (some .int) 1 P pc ls st M
abbrev kM_cabin (as : List ax_V) (M : ax_Mem) (P : Int → ax_Mem → Prop) : Prop := ax_C shM yM_cabin bM_cabin 4 (some .int) 1 as M P
abbrev yM_lacks : MethodName := ⟨"RowsIntoPlaneModel", "lacks", "()Z"⟩
abbrev bM_lacks : ByteArray := prog_11_method_4_code
abbrev jM_lacks (P : Int → ax_Mem → Prop) (pc : Nat) (ls : List (Nat × ax_V)) (st : List ax_V) (M : ax_Mem) : Prop := ax_J shM yM_lacks bM_lacks 1 (some .boolean) 0 P pc ls st M
abbrev kM_lacks (as : List ax_V) (M : ax_Mem) (P : Int → ax_Mem → Prop) : Prop := ax_C shM yM_lacks bM_lacks 1 (some .boolean) 0 as M P
abbrev yM_isPerson : MethodName := ⟨"RowsIntoPlaneModel", "isPerson", "(I)Z"⟩
abbrev bM_isPerson : ByteArray := prog_11_method_5_code
abbrev jM_isPerson (P : Int → ax_Mem → Prop) (pc : Nat) (ls : List (Nat × ax_V)) (st : List ax_V) (M : ax_Mem) : Prop := ax_J shM yM_isPerson bM_isPerson 2 (some .boolean) 1 P pc ls st M
abbrev kM_isPerson (as : List ax_V) (M : ax_Mem) (P : Int → ax_Mem → Prop) : Prop := ax_C shM yM_isPerson bM_isPerson 2 (some .boolean) 1 as M P
abbrev yM_isTaken : MethodName := ⟨"RowsIntoPlaneModel", "isTaken", "(III)Z"⟩
abbrev bM_isTaken : ByteArray := prog_11_method_6_code
abbrev jM_isTaken (P : Int → ax_Mem → Prop) (pc : Nat) (ls : List (Nat × ax_V)) (st : List ax_V) (M : ax_Mem) : Prop := ax_J shM yM_isTaken bM_isTaken 6 (some .boolean) 0 P pc ls st M
abbrev kM_isTaken (as : List ax_V) (M : ax_Mem) (P : Int → ax_Mem → Prop) : Prop := ax_C shM yM_isTaken bM_isTaken 6 (some .boolean) 0 as M P
abbrev yM_person : MethodName := ⟨"RowsIntoPlaneModel", "person", "(IIIIIII)I"⟩
abbrev bM_person : ByteArray := prog_11_method_7_code
abbrev jM_person (P : Int → ax_Mem → Prop) (pc : Nat) (ls : List (Nat × ax_V)) (st : List ax_V) (M : ax_Mem) : Prop := ax_J shM yM_person bM_person 11 (some .int) 2 P pc ls st M
abbrev kM_person (as : List ax_V) (M : ax_Mem) (P : Int → ax_Mem → Prop) : Prop := ax_C shM yM_person bM_person 11 (some .int) 2 as M P
abbrev yM_as : MethodName := ⟨"RowsIntoPlaneModel", "as", "(II)I"⟩
abbrev bM_as : ByteArray := prog_11_method_8_code
abbrev jM_as (P : Int → ax_Mem → Prop) (pc : Nat) (ls : List (Nat × ax_V)) (st : List ax_V) (M : ax_Mem) : Prop := ax_J shM yM_as bM_as 5 (some .int) 2 P pc ls st M
abbrev kM_as (as : List ax_V) (M : ax_Mem) (P : Int → ax_Mem → Prop) : Prop := ax_C shM yM_as bM_as 5 (some .int) 2 as M P
abbrev yM_about : MethodName := ⟨"RowsIntoPlaneModel", "about", "(II)I"⟩
abbrev bM_about : ByteArray := prog_11_method_9_code
abbrev jM_about (P : Int → ax_Mem → Prop) (pc : Nat) (ls : List (Nat × ax_V)) (st : List ax_V) (M : ax_Mem) : Prop := ax_J shM yM_about bM_about 3 (some .int) 2 P pc ls st M
abbrev kM_about (as : List ax_V) (M : ax_Mem) (P : Int → ax_Mem → Prop) : Prop := ax_C shM yM_about bM_about 3 (some .int) 2 as M P
abbrev yM_change : MethodName := ⟨"RowsIntoPlaneModel", "change", "(III)I"⟩
abbrev bM_change : ByteArray := prog_11_method_10_code
abbrev jM_change (P : Int → ax_Mem → Prop) (pc : Nat) (ls : List (Nat × ax_V)) (st : List ax_V) (M : ax_Mem) : Prop := ax_J shM yM_change bM_change 5 (some .int) 2 P pc ls st M
abbrev kM_change (as : List ax_V) (M : ax_Mem) (P : Int → ax_Mem → Prop) : Prop := ax_C shM yM_change bM_change 5 (some .int) 2 as M P
abbrev yM_letters : MethodName := ⟨"RowsIntoPlaneModel", "letters", "(J)I"⟩
abbrev bM_letters : ByteArray := prog_11_method_11_code
abbrev jM_letters (P : Int → ax_Mem → Prop) (pc : Nat) (ls : List (Nat × ax_V)) (st : List ax_V) (M : ax_Mem) : Prop := ax_J shM yM_letters bM_letters 9 (some .int) 0 P pc ls st M
abbrev kM_letters (as : List ax_V) (M : ax_Mem) (P : Int → ax_Mem → Prop) : Prop := ax_C shM yM_letters bM_letters 9 (some .int) 0 as M P
abbrev yM_blank : MethodName := ⟨"RowsIntoPlaneModel", "blank", "()I"⟩
abbrev bM_blank : ByteArray := prog_11_method_12_code
abbrev jM_blank (P : Int → ax_Mem → Prop) (pc : Nat) (ls : List (Nat × ax_V)) (st : List ax_V) (M : ax_Mem) : Prop := ax_J shM yM_blank bM_blank 2 (some .int) 0 P pc ls st M
abbrev kM_blank (as : List ax_V) (M : ax_Mem) (P : Int → ax_Mem → Prop) : Prop := ax_C shM yM_blank bM_blank 2 (some .int) 0 as M P
abbrev yM_isKey : MethodName := ⟨"RowsIntoPlaneModel", "isKey", "(I)Z"⟩
abbrev bM_isKey : ByteArray := prog_11_method_13_code
abbrev jM_isKey (P : Int → ax_Mem → Prop) (pc : Nat) (ls : List (Nat × ax_V)) (st : List ax_V) (M : ax_Mem) : Prop := ax_J shM yM_isKey bM_isKey 1 (some .boolean) 0 P pc ls st M
abbrev kM_isKey (as : List ax_V) (M : ax_Mem) (P : Int → ax_Mem → Prop) : Prop := ax_C shM yM_isKey bM_isKey 1 (some .boolean) 0 as M P
abbrev yM_go : MethodName := ⟨"RowsIntoPlaneModel", "go", "(I)Z"⟩
abbrev bM_go : ByteArray := prog_11_method_14_code
abbrev jM_go (P : Int → ax_Mem → Prop) (pc : Nat) (ls : List (Nat × ax_V)) (st : List ax_V) (M : ax_Mem) : Prop := ax_J shM yM_go bM_go 2 (some .boolean) 1 P pc ls st M
abbrev kM_go (as : List ax_V) (M : ax_Mem) (P : Int → ax_Mem → Prop) : Prop := ax_C shM yM_go bM_go 2 (some .boolean) 1 as M P
abbrev yM_faultOf : MethodName := ⟨"RowsIntoPlaneModel", "faultOf", "()I"⟩
abbrev bM_faultOf : ByteArray := prog_11_method_15_code
abbrev jM_faultOf (P : Int → ax_Mem → Prop) (pc : Nat) (ls : List (Nat × ax_V)) (st : List ax_V) (M : ax_Mem) : Prop := ax_J shM yM_faultOf bM_faultOf 2 (some .int) 2 P pc ls st M
abbrev kM_faultOf (as : List ax_V) (M : ax_Mem) (P : Int → ax_Mem → Prop) : Prop := ax_C shM yM_faultOf bM_faultOf 2 (some .int) 2 as M P
abbrev yM_fault : MethodName := ⟨"RowsIntoPlaneModel", "fault", "()I"⟩
abbrev bM_fault : ByteArray := prog_11_method_16_code
abbrev jM_fault (P : Int → ax_Mem → Prop) (pc : Nat) (ls : List (Nat × ax_V)) (st : List ax_V) (M : ax_Mem) : Prop := ax_J shM yM_fault bM_fault 1 (some .int) 3 P pc ls st M
abbrev kM_fault (as : List ax_V) (M : ax_Mem) (P : Int → ax_Mem → Prop) : Prop := ax_C shM yM_fault bM_fault 1 (some .int) 3 as M P
abbrev yM_call : MethodName := ⟨"RowsIntoPlaneModel", "call", "()I"⟩
abbrev bM_call : ByteArray := prog_11_method_17_code
abbrev jM_call (P : Int → ax_Mem → Prop) (pc : Nat) (ls : List (Nat × ax_V)) (st : List ax_V) (M : ax_Mem) : Prop := ax_J shM yM_call bM_call 2 (some .int) 3 P pc ls st M
abbrev kM_call (as : List ax_V) (M : ax_Mem) (P : Int → ax_Mem → Prop) : Prop := ax_C shM yM_call bM_call 2 (some .int) 3 as M P
abbrev yM_isCall : MethodName := ⟨"RowsIntoPlaneModel", "isCall", "(I)Z"⟩
abbrev bM_isCall : ByteArray := prog_11_method_18_code
abbrev jM_isCall (P : Int → ax_Mem → Prop) (pc : Nat) (ls : List (Nat × ax_V)) (st : List ax_V) (M : ax_Mem) : Prop := ax_J shM yM_isCall bM_isCall 2 (some .boolean) 1 P pc ls st M
abbrev kM_isCall (as : List ax_V) (M : ax_Mem) (P : Int → ax_Mem → Prop) : Prop := ax_C shM yM_isCall bM_isCall 2 (some .boolean) 1 as M P
abbrev yM_sideOf : MethodName := ⟨"RowsIntoPlaneModel", "sideOf", "(I)I"⟩
abbrev bM_sideOf : ByteArray := prog_11_method_19_code
abbrev jM_sideOf (P : Int → ax_Mem → Prop) (pc : Nat) (ls : List (Nat × ax_V)) (st : List ax_V) (M : ax_Mem) : Prop := ax_J shM yM_sideOf bM_sideOf 2 (some .int) 0 P pc ls st M
abbrev kM_sideOf (as : List ax_V) (M : ax_Mem) (P : Int → ax_Mem → Prop) : Prop := ax_C shM yM_sideOf bM_sideOf 2 (some .int) 0 as M P
abbrev yM_depthOf : MethodName := ⟨"RowsIntoPlaneModel", "depthOf", "(I)I"⟩
abbrev bM_depthOf : ByteArray := prog_11_method_20_code
abbrev jM_depthOf (P : Int → ax_Mem → Prop) (pc : Nat) (ls : List (Nat × ax_V)) (st : List ax_V) (M : ax_Mem) : Prop := ax_J shM yM_depthOf bM_depthOf 2 (some .int) 0 P pc ls st M
abbrev kM_depthOf (as : List ax_V) (M : ax_Mem) (P : Int → ax_Mem → Prop) : Prop := ax_C shM yM_depthOf bM_depthOf 2 (some .int) 0 as M P
abbrev yM_layPeople : MethodName := ⟨"RowsIntoPlaneModel", "layPeople", "(I)V"⟩
abbrev bM_layPeople : ByteArray := prog_11_method_21_code
abbrev jM_layPeople (P : Int → ax_Mem → Prop) (pc : Nat) (ls : List (Nat × ax_V)) (st : List ax_V) (M : ax_Mem) : Prop := ax_J shM yM_layPeople bM_layPeople 3 none 0 P pc ls st M
abbrev kM_layPeople (as : List ax_V) (M : ax_Mem) (P : Int → ax_Mem → Prop) : Prop := ax_C shM yM_layPeople bM_layPeople 3 none 0 as M P
abbrev yM_valueOf : MethodName := ⟨"RowsIntoPlaneModel", "valueOf", "(III)I"⟩
abbrev bM_valueOf : ByteArray := prog_11_method_22_code
abbrev jM_valueOf (P : Int → ax_Mem → Prop) (pc : Nat) (ls : List (Nat × ax_V)) (st : List ax_V) (M : ax_Mem) : Prop := ax_J shM yM_valueOf bM_valueOf 4 (some .int) 1 P pc ls st M
abbrev kM_valueOf (as : List ax_V) (M : ax_Mem) (P : Int → ax_Mem → Prop) : Prop := ax_C shM yM_valueOf bM_valueOf 4 (some .int) 1 as M P
abbrev yM_rank : MethodName := ⟨"RowsIntoPlaneModel", "rank", "(I)I"⟩
abbrev bM_rank : ByteArray := prog_11_method_23_code
abbrev jM_rank (P : Int → ax_Mem → Prop) (pc : Nat) (ls : List (Nat × ax_V)) (st : List ax_V) (M : ax_Mem) : Prop := ax_J shM yM_rank bM_rank 1 (some .int) 0 P pc ls st M
abbrev kM_rank (as : List ax_V) (M : ax_Mem) (P : Int → ax_Mem → Prop) : Prop := ax_C shM yM_rank bM_rank 1 (some .int) 0 as M P
abbrev yM_isAhead : MethodName := ⟨"RowsIntoPlaneModel", "isAhead", "(III)Z"⟩
abbrev bM_isAhead : ByteArray := prog_11_method_24_code
abbrev jM_isAhead (P : Int → ax_Mem → Prop) (pc : Nat) (ls : List (Nat × ax_V)) (st : List ax_V) (M : ax_Mem) : Prop := ax_J shM yM_isAhead bM_isAhead 8 (some .boolean) 2 P pc ls st M
abbrev kM_isAhead (as : List ax_V) (M : ax_Mem) (P : Int → ax_Mem → Prop) : Prop := ax_C shM yM_isAhead bM_isAhead 8 (some .boolean) 2 as M P
abbrev yM_placeOf : MethodName := ⟨"RowsIntoPlaneModel", "placeOf", "(I)I"⟩
abbrev bM_placeOf : ByteArray := prog_11_method_25_code
abbrev jM_placeOf (P : Int → ax_Mem → Prop) (pc : Nat) (ls : List (Nat × ax_V)) (st : List ax_V) (M : ax_Mem) : Prop := ax_J shM yM_placeOf bM_placeOf 3 (some .int) 0 P pc ls st M
abbrev kM_placeOf (as : List ax_V) (M : ax_Mem) (P : Int → ax_Mem → Prop) : Prop := ax_C shM yM_placeOf bM_placeOf 3 (some .int) 0 as M P
abbrev yM_put : MethodName := ⟨"RowsIntoPlaneModel", "put", "(II)V"⟩
abbrev bM_put : ByteArray := prog_11_method_26_code
abbrev jM_put (P : Int → ax_Mem → Prop) (pc : Nat) (ls : List (Nat × ax_V)) (st : List ax_V) (M : ax_Mem) : Prop := ax_J shM yM_put bM_put 6 none 1 P pc ls st M
abbrev kM_put (as : List ax_V) (M : ax_Mem) (P : Int → ax_Mem → Prop) : Prop := ax_C shM yM_put bM_put 6 none 1 as M P
abbrev yM_layOrder : MethodName := ⟨"RowsIntoPlaneModel", "layOrder", "(I)V"⟩
abbrev bM_layOrder : ByteArray := prog_11_method_27_code
abbrev jM_layOrder (P : Int → ax_Mem → Prop) (pc : Nat) (ls : List (Nat × ax_V)) (st : List ax_V) (M : ax_Mem) : Prop := ax_J shM yM_layOrder bM_layOrder 4 none 3 P pc ls st M
abbrev kM_layOrder (as : List ax_V) (M : ax_Mem) (P : Int → ax_Mem → Prop) : Prop := ax_C shM yM_layOrder bM_layOrder 4 none 3 as M P
abbrev yM_everybody : MethodName := ⟨"RowsIntoPlaneModel", "everybody", "()I"⟩
abbrev bM_everybody : ByteArray := prog_11_method_28_code
abbrev jM_everybody (P : Int → ax_Mem → Prop) (pc : Nat) (ls : List (Nat × ax_V)) (st : List ax_V) (M : ax_Mem) : Prop := ax_J shM yM_everybody bM_everybody 1 (some .int) 0 P pc ls st M
abbrev kM_everybody (as : List ax_V) (M : ax_Mem) (P : Int → ax_Mem → Prop) : Prop := ax_C shM yM_everybody bM_everybody 1 (some .int) 0 as M P
abbrev yM_order : MethodName := ⟨"RowsIntoPlaneModel", "order", "(II)I"⟩
abbrev bM_order : ByteArray := prog_11_method_29_code
abbrev jM_order (P : Int → ax_Mem → Prop) (pc : Nat) (ls : List (Nat × ax_V)) (st : List ax_V) (M : ax_Mem) : Prop := ax_J shM yM_order bM_order 3 (some .int) 4 P pc ls st M
abbrev kM_order (as : List ax_V) (M : ax_Mem) (P : Int → ax_Mem → Prop) : Prop := ax_C shM yM_order bM_order 3 (some .int) 4 as M P
abbrev yM_nearestBin : MethodName := ⟨"RowsIntoPlaneModel", "nearestBin", "(I)I"⟩
abbrev bM_nearestBin : ByteArray := prog_11_method_30_code
abbrev jM_nearestBin (P : Int → ax_Mem → Prop) (pc : Nat) (ls : List (Nat × ax_V)) (st : List ax_V) (M : ax_Mem) : Prop := ax_J shM yM_nearestBin bM_nearestBin 3 (some .int) 0 P pc ls st M
abbrev kM_nearestBin (as : List ax_V) (M : ax_Mem) (P : Int → ax_Mem → Prop) : Prop := ax_C shM yM_nearestBin bM_nearestBin 3 (some .int) 0 as M P
abbrev yM_begin : MethodName := ⟨"RowsIntoPlaneModel", "begin", "(I)I"⟩
abbrev bM_begin : ByteArray := prog_11_method_31_code
abbrev jM_begin (P : Int → ax_Mem → Prop) (pc : Nat) (ls : List (Nat × ax_V)) (st : List ax_V) (M : ax_Mem) : Prop := ax_J shM yM_begin bM_begin 6 (some .int) 1 P pc ls st M
abbrev kM_begin (as : List ax_V) (M : ax_Mem) (P : Int → ax_Mem → Prop) : Prop := ax_C shM yM_begin bM_begin 6 (some .int) 1 as M P
abbrev yM_sit : MethodName := ⟨"RowsIntoPlaneModel", "sit", "(III)V"⟩
abbrev bM_sit : ByteArray := prog_11_method_32_code
abbrev jM_sit (P : Int → ax_Mem → Prop) (pc : Nat) (ls : List (Nat × ax_V)) (st : List ax_V) (M : ax_Mem) : Prop := ax_J shM yM_sit bM_sit 4 none 0 P pc ls st M
abbrev kM_sit (as : List ax_V) (M : ax_Mem) (P : Int → ax_Mem → Prop) : Prop := ax_C shM yM_sit bM_sit 4 none 0 as M P
abbrev yM_goCell : MethodName := ⟨"RowsIntoPlaneModel", "goCell", "(II)V"⟩
abbrev bM_goCell : ByteArray := prog_11_method_33_code
abbrev jM_goCell (P : Int → ax_Mem → Prop) (pc : Nat) (ls : List (Nat × ax_V)) (st : List ax_V) (M : ax_Mem) : Prop := ax_J shM yM_goCell bM_goCell 4 none 2 P pc ls st M
abbrev kM_goCell (as : List ax_V) (M : ax_Mem) (P : Int → ax_Mem → Prop) : Prop := ax_C shM yM_goCell bM_goCell 4 none 2 as M P
abbrev yM_beginBoard : MethodName := ⟨"RowsIntoPlaneModel", "beginBoard", "()V"⟩
abbrev bM_beginBoard : ByteArray := prog_11_method_34_code
abbrev jM_beginBoard (P : Int → ax_Mem → Prop) (pc : Nat) (ls : List (Nat × ax_V)) (st : List ax_V) (M : ax_Mem) : Prop := ax_J shM yM_beginBoard bM_beginBoard 2 none 0 P pc ls st M
abbrev kM_beginBoard (as : List ax_V) (M : ax_Mem) (P : Int → ax_Mem → Prop) : Prop := ax_C shM yM_beginBoard bM_beginBoard 2 none 0 as M P
abbrev yM_goSecond : MethodName := ⟨"RowsIntoPlaneModel", "goSecond", "(I)V"⟩
abbrev bM_goSecond : ByteArray := prog_11_method_35_code
abbrev jM_goSecond (P : Int → ax_Mem → Prop) (pc : Nat) (ls : List (Nat × ax_V)) (st : List ax_V) (M : ax_Mem) : Prop := ax_J shM yM_goSecond bM_goSecond 3 none 3 P pc ls st M
abbrev kM_goSecond (as : List ax_V) (M : ax_Mem) (P : Int → ax_Mem → Prop) : Prop := ax_C shM yM_goSecond bM_goSecond 3 none 3 as M P
abbrev yM_boardAll : MethodName := ⟨"RowsIntoPlaneModel", "boardAll", "()I"⟩
abbrev bM_boardAll : ByteArray := prog_11_method_36_code
abbrev jM_boardAll (P : Int → ax_Mem → Prop) (pc : Nat) (ls : List (Nat × ax_V)) (st : List ax_V) (M : ax_Mem) : Prop := ax_J shM yM_boardAll bM_boardAll 2 (some .int) 4 P pc ls st M
abbrev kM_boardAll (as : List ax_V) (M : ax_Mem) (P : Int → ax_Mem → Prop) : Prop := ax_C shM yM_boardAll bM_boardAll 2 (some .int) 4 as M P
abbrev yM_boardBy : MethodName := ⟨"RowsIntoPlaneModel", "boardBy", "(I)I"⟩
abbrev bM_boardBy : ByteArray := prog_11_method_37_code
abbrev jM_boardBy (P : Int → ax_Mem → Prop) (pc : Nat) (ls : List (Nat × ax_V)) (st : List ax_V) (M : ax_Mem) : Prop := ax_J shM yM_boardBy bM_boardBy 2 (some .int) 5 P pc ls st M
abbrev kM_boardBy (as : List ax_V) (M : ax_Mem) (P : Int → ax_Mem → Prop) : Prop := ax_C shM yM_boardBy bM_boardBy 2 (some .int) 5 as M P
abbrev yM_boardOf : MethodName := ⟨"RowsIntoPlaneModel", "boardOf", "(II)I"⟩
abbrev bM_boardOf : ByteArray := prog_11_method_38_code
abbrev jM_boardOf (P : Int → ax_Mem → Prop) (pc : Nat) (ls : List (Nat × ax_V)) (st : List ax_V) (M : ax_Mem) : Prop := ax_J shM yM_boardOf bM_boardOf 6 (some .int) 6 P pc ls st M
abbrev kM_boardOf (as : List ax_V) (M : ax_Mem) (P : Int → ax_Mem → Prop) : Prop := ax_C shM yM_boardOf bM_boardOf 6 (some .int) 6 as M P
abbrev yM_board : MethodName := ⟨"RowsIntoPlaneModel", "board", "(II)I"⟩
abbrev bM_board : ByteArray := prog_11_method_39_code
abbrev jM_board (P : Int → ax_Mem → Prop) (pc : Nat) (ls : List (Nat × ax_V)) (st : List ax_V) (M : ax_Mem) : Prop := ax_J shM yM_board bM_board 3 (some .int) 7 P pc ls st M
abbrev kM_board (as : List ax_V) (M : ax_Mem) (P : Int → ax_Mem → Prop) : Prop := ax_C shM yM_board bM_board 3 (some .int) 7 as M P
abbrev yM_sits : MethodName := ⟨"RowsIntoPlaneModel", "sits", "(III)I"⟩
abbrev bM_sits : ByteArray := prog_11_method_40_code
abbrev jM_sits (P : Int → ax_Mem → Prop) (pc : Nat) (ls : List (Nat × ax_V)) (st : List ax_V) (M : ax_Mem) : Prop := ax_J shM yM_sits bM_sits 5 (some .int) 6 P pc ls st M
abbrev kM_sits (as : List ax_V) (M : ax_Mem) (P : Int → ax_Mem → Prop) : Prop := ax_C shM yM_sits bM_sits 5 (some .int) 6 as M P
abbrev yM_stands : MethodName := ⟨"RowsIntoPlaneModel", "stands", "(III)I"⟩
abbrev bM_stands : ByteArray := prog_11_method_41_code
abbrev jM_stands (P : Int → ax_Mem → Prop) (pc : Nat) (ls : List (Nat × ax_V)) (st : List ax_V) (M : ax_Mem) : Prop := ax_J shM yM_stands bM_stands 5 (some .int) 4 P pc ls st M
abbrev kM_stands (as : List ax_V) (M : ax_Mem) (P : Int → ax_Mem → Prop) : Prop := ax_C shM yM_stands bM_stands 5 (some .int) 4 as M P
abbrev yM_leastOf : MethodName := ⟨"RowsIntoPlaneModel", "leastOf", "()I"⟩
abbrev bM_leastOf : ByteArray := prog_11_method_42_code
abbrev jM_leastOf (P : Int → ax_Mem → Prop) (pc : Nat) (ls : List (Nat × ax_V)) (st : List ax_V) (M : ax_Mem) : Prop := ax_J shM yM_leastOf bM_leastOf 5 (some .int) 6 P pc ls st M
abbrev kM_leastOf (as : List ax_V) (M : ax_Mem) (P : Int → ax_Mem → Prop) : Prop := ax_C shM yM_leastOf bM_leastOf 5 (some .int) 6 as M P
abbrev yM_least : MethodName := ⟨"RowsIntoPlaneModel", "least", "()I"⟩
abbrev bM_least : ByteArray := prog_11_method_43_code
abbrev jM_least (P : Int → ax_Mem → Prop) (pc : Nat) (ls : List (Nat × ax_V)) (st : List ax_V) (M : ax_Mem) : Prop := ax_J shM yM_least bM_least 1 (some .int) 7 P pc ls st M
abbrev kM_least (as : List ax_V) (M : ax_Mem) (P : Int → ax_Mem → Prop) : Prop := ax_C shM yM_least bM_least 1 (some .int) 7 as M P
abbrev yM_layNumber : MethodName := ⟨"RowsIntoPlaneModel", "layNumber", "(I)Z"⟩
abbrev bM_layNumber : ByteArray := prog_11_method_44_code
abbrev jM_layNumber (P : Int → ax_Mem → Prop) (pc : Nat) (ls : List (Nat × ax_V)) (st : List ax_V) (M : ax_Mem) : Prop := ax_J shM yM_layNumber bM_layNumber 5 (some .boolean) 1 P pc ls st M
abbrev kM_layNumber (as : List ax_V) (M : ax_Mem) (P : Int → ax_Mem → Prop) : Prop := ax_C shM yM_layNumber bM_layNumber 5 (some .boolean) 1 as M P
abbrev yM_bestOrder : MethodName := ⟨"RowsIntoPlaneModel", "bestOrder", "(I)I"⟩
abbrev bM_bestOrder : ByteArray := prog_11_method_45_code
abbrev jM_bestOrder (P : Int → ax_Mem → Prop) (pc : Nat) (ls : List (Nat × ax_V)) (st : List ax_V) (M : ax_Mem) : Prop := ax_J shM yM_bestOrder bM_bestOrder 7 (some .int) 5 P pc ls st M
abbrev kM_bestOrder (as : List ax_V) (M : ax_Mem) (P : Int → ax_Mem → Prop) : Prop := ax_C shM yM_bestOrder bM_bestOrder 7 (some .int) 5 as M P
abbrev yM_exchange : MethodName := ⟨"RowsIntoPlaneModel", "exchange", "(II)V"⟩
abbrev bM_exchange : ByteArray := prog_11_method_46_code
abbrev jM_exchange (P : Int → ax_Mem → Prop) (pc : Nat) (ls : List (Nat × ax_V)) (st : List ax_V) (M : ax_Mem) : Prop := ax_J shM yM_exchange bM_exchange 4 none 0 P pc ls st M
abbrev kM_exchange (as : List ax_V) (M : ax_Mem) (P : Int → ax_Mem → Prop) : Prop := ax_C shM yM_exchange bM_exchange 4 none 0 as M P
abbrev yM_swap : MethodName := ⟨"RowsIntoPlaneModel", "swap", "(I)I"⟩
abbrev bM_swap : ByteArray := prog_11_method_47_code
abbrev jM_swap (P : Int → ax_Mem → Prop) (pc : Nat) (ls : List (Nat × ax_V)) (st : List ax_V) (M : ax_Mem) : Prop := ax_J shM yM_swap bM_swap 7 (some .int) 6 P pc ls st M
abbrev kM_swap (as : List ax_V) (M : ax_Mem) (P : Int → ax_Mem → Prop) : Prop := ax_C shM yM_swap bM_swap 7 (some .int) 6 as M P
abbrev yM_later : MethodName := ⟨"RowsIntoPlaneModel", "later", "(II)I"⟩
abbrev bM_later : ByteArray := prog_11_method_48_code
abbrev jM_later (P : Int → ax_Mem → Prop) (pc : Nat) (ls : List (Nat × ax_V)) (st : List ax_V) (M : ax_Mem) : Prop := ax_J shM yM_later bM_later 4 (some .int) 5 P pc ls st M
abbrev kM_later (as : List ax_V) (M : ax_Mem) (P : Int → ax_Mem → Prop) : Prop := ax_C shM yM_later bM_later 4 (some .int) 5 as M P
abbrev yM_bound : MethodName := ⟨"RowsIntoPlaneModel", "bound", "(II)I"⟩
abbrev bM_bound : ByteArray := prog_11_method_49_code
abbrev jM_bound (P : Int → ax_Mem → Prop) (pc : Nat) (ls : List (Nat × ax_V)) (st : List ax_V) (M : ax_Mem) : Prop := ax_J shM yM_bound bM_bound 3 (some .int) 5 P pc ls st M
abbrev kM_bound (as : List ax_V) (M : ax_Mem) (P : Int → ax_Mem → Prop) : Prop := ax_C shM yM_bound bM_bound 3 (some .int) 5 as M P
abbrev yM_layPart : MethodName := ⟨"RowsIntoPlaneModel", "layPart", "(II)V"⟩
abbrev bM_layPart : ByteArray := prog_11_method_50_code
abbrev jM_layPart (P : Int → ax_Mem → Prop) (pc : Nat) (ls : List (Nat × ax_V)) (st : List ax_V) (M : ax_Mem) : Prop := ax_J shM yM_layPart bM_layPart 4 none 1 P pc ls st M
abbrev kM_layPart (as : List ax_V) (M : ax_Mem) (P : Int → ax_Mem → Prop) : Prop := ax_C shM yM_layPart bM_layPart 4 none 1 as M P
abbrev yM_doorsOf : MethodName := ⟨"RowsIntoPlaneModel", "doorsOf", "(I)I"⟩
abbrev bM_doorsOf : ByteArray := prog_11_method_51_code
abbrev jM_doorsOf (P : Int → ax_Mem → Prop) (pc : Nat) (ls : List (Nat × ax_V)) (st : List ax_V) (M : ax_Mem) : Prop := ax_J shM yM_doorsOf bM_doorsOf 5 (some .int) 5 P pc ls st M
abbrev kM_doorsOf (as : List ax_V) (M : ax_Mem) (P : Int → ax_Mem → Prop) : Prop := ax_C shM yM_doorsOf bM_doorsOf 5 (some .int) 5 as M P
abbrev yM_doors : MethodName := ⟨"RowsIntoPlaneModel", "doors", "(I)I"⟩
abbrev bM_doors : ByteArray := prog_11_method_52_code
abbrev jM_doors (P : Int → ax_Mem → Prop) (pc : Nat) (ls : List (Nat × ax_V)) (st : List ax_V) (M : ax_Mem) : Prop := ax_J shM yM_doors bM_doors 2 (some .int) 6 P pc ls st M
abbrev kM_doors (as : List ax_V) (M : ax_Mem) (P : Int → ax_Mem → Prop) : Prop := ax_C shM yM_doors bM_doors 2 (some .int) 6 as M P
abbrev yM_draw : MethodName := ⟨"RowsIntoPlaneModel", "draw", "(I)I"⟩
abbrev bM_draw : ByteArray := prog_11_method_53_code
abbrev jM_draw (P : Int → ax_Mem → Prop) (pc : Nat) (ls : List (Nat × ax_V)) (st : List ax_V) (M : ax_Mem) : Prop := ax_J shM yM_draw bM_draw 2 (some .int) 0 P pc ls st M
abbrev kM_draw (as : List ax_V) (M : ax_Mem) (P : Int → ax_Mem → Prop) : Prop := ax_C shM yM_draw bM_draw 2 (some .int) 0 as M P
abbrev yM_mixedOf : MethodName := ⟨"RowsIntoPlaneModel", "mixedOf", "(III)I"⟩
abbrev bM_mixedOf : ByteArray := prog_11_method_54_code
abbrev jM_mixedOf (P : Int → ax_Mem → Prop) (pc : Nat) (ls : List (Nat × ax_V)) (st : List ax_V) (M : ax_Mem) : Prop := ax_J shM yM_mixedOf bM_mixedOf 8 (some .int) 5 P pc ls st M
abbrev kM_mixedOf (as : List ax_V) (M : ax_Mem) (P : Int → ax_Mem → Prop) : Prop := ax_C shM yM_mixedOf bM_mixedOf 8 (some .int) 5 as M P
abbrev yM_mixed : MethodName := ⟨"RowsIntoPlaneModel", "mixed", "(III)I"⟩
abbrev bM_mixed : ByteArray := prog_11_method_55_code
abbrev jM_mixed (P : Int → ax_Mem → Prop) (pc : Nat) (ls : List (Nat × ax_V)) (st : List ax_V) (M : ax_Mem) : Prop := ax_J shM yM_mixed bM_mixed 4 (some .int) 6 P pc ls st M
abbrev kM_mixed (as : List ax_V) (M : ax_Mem) (P : Int → ax_Mem → Prop) : Prop := ax_C shM yM_mixed bM_mixed 4 (some .int) 6 as M P
abbrev yM_mayGo : MethodName := ⟨"RowsIntoPlaneModel", "mayGo", "(III)Z"⟩
abbrev bM_mayGo : ByteArray := prog_11_method_56_code
abbrev jM_mayGo (P : Int → ax_Mem → Prop) (pc : Nat) (ls : List (Nat × ax_V)) (st : List ax_V) (M : ax_Mem) : Prop := ax_J shM yM_mayGo bM_mayGo 4 (some .boolean) 1 P pc ls st M
abbrev kM_mayGo (as : List ax_V) (M : ax_Mem) (P : Int → ax_Mem → Prop) : Prop := ax_C shM yM_mayGo bM_mayGo 4 (some .boolean) 1 as M P
abbrev yM_lowestOf : MethodName := ⟨"RowsIntoPlaneModel", "lowestOf", "(I)I"⟩
abbrev bM_lowestOf : ByteArray := prog_11_method_57_code
abbrev jM_lowestOf (P : Int → ax_Mem → Prop) (pc : Nat) (ls : List (Nat × ax_V)) (st : List ax_V) (M : ax_Mem) : Prop := ax_J shM yM_lowestOf bM_lowestOf 5 (some .int) 1 P pc ls st M
abbrev kM_lowestOf (as : List ax_V) (M : ax_Mem) (P : Int → ax_Mem → Prop) : Prop := ax_C shM yM_lowestOf bM_lowestOf 5 (some .int) 1 as M P
abbrev yM_getUp : MethodName := ⟨"RowsIntoPlaneModel", "getUp", "(I)V"⟩
abbrev bM_getUp : ByteArray := prog_11_method_58_code
abbrev jM_getUp (P : Int → ax_Mem → Prop) (pc : Nat) (ls : List (Nat × ax_V)) (st : List ax_V) (M : ax_Mem) : Prop := ax_J shM yM_getUp bM_getUp 8 none 2 P pc ls st M
abbrev kM_getUp (as : List ax_V) (M : ax_Mem) (P : Int → ax_Mem → Prop) : Prop := ax_C shM yM_getUp bM_getUp 8 none 2 as M P
abbrev yM_goOut : MethodName := ⟨"RowsIntoPlaneModel", "goOut", "(I)I"⟩
abbrev bM_goOut : ByteArray := prog_11_method_59_code
abbrev jM_goOut (P : Int → ax_Mem → Prop) (pc : Nat) (ls : List (Nat × ax_V)) (st : List ax_V) (M : ax_Mem) : Prop := ax_J shM yM_goOut bM_goOut 6 (some .int) 3 P pc ls st M
abbrev kM_goOut (as : List ax_V) (M : ax_Mem) (P : Int → ax_Mem → Prop) : Prop := ax_C shM yM_goOut bM_goOut 6 (some .int) 3 as M P
abbrev yM_out : MethodName := ⟨"RowsIntoPlaneModel", "out", "(I)I"⟩
abbrev bM_out : ByteArray := prog_11_method_60_code
abbrev jM_out (P : Int → ax_Mem → Prop) (pc : Nat) (ls : List (Nat × ax_V)) (st : List ax_V) (M : ax_Mem) : Prop := ax_J shM yM_out bM_out 2 (some .int) 4 P pc ls st M
abbrev kM_out (as : List ax_V) (M : ax_Mem) (P : Int → ax_Mem → Prop) : Prop := ax_C shM yM_out bM_out 2 (some .int) 4 as M P
abbrev yM_outOf : MethodName := ⟨"RowsIntoPlaneModel", "outOf", "(II)I"⟩
abbrev bM_outOf : ByteArray := prog_11_method_61_code
abbrev jM_outOf (P : Int → ax_Mem → Prop) (pc : Nat) (ls : List (Nat × ax_V)) (st : List ax_V) (M : ax_Mem) : Prop := ax_J shM yM_outOf bM_outOf 4 (some .int) 4 P pc ls st M
abbrev kM_outOf (as : List ax_V) (M : ax_Mem) (P : Int → ax_Mem → Prop) : Prop := ax_C shM yM_outOf bM_outOf 4 (some .int) 4 as M P
abbrev yM_missed : MethodName := ⟨"RowsIntoPlaneModel", "missed", "(I)I"⟩
abbrev bM_missed : ByteArray := prog_11_method_62_code
abbrev jM_missed (P : Int → ax_Mem → Prop) (pc : Nat) (ls : List (Nat × ax_V)) (st : List ax_V) (M : ax_Mem) : Prop := ax_J shM yM_missed bM_missed 5 (some .int) 4 P pc ls st M
abbrev kM_missed (as : List ax_V) (M : ax_Mem) (P : Int → ax_Mem → Prop) : Prop := ax_C shM yM_missed bM_missed 5 (some .int) 4 as M P
abbrev yM_stay : MethodName := ⟨"RowsIntoPlaneModel", "stay", "(III)I"⟩
abbrev bM_stay : ByteArray := prog_11_method_63_code
abbrev jM_stay (P : Int → ax_Mem → Prop) (pc : Nat) (ls : List (Nat × ax_V)) (st : List ax_V) (M : ax_Mem) : Prop := ax_J shM yM_stay bM_stay 7 (some .int) 1 P pc ls st M
abbrev kM_stay (as : List ax_V) (M : ax_Mem) (P : Int → ax_Mem → Prop) : Prop := ax_C shM yM_stay bM_stay 7 (some .int) 1 as M P
abbrev yM_image : MethodName := ⟨"RowsIntoPlaneModel", "image", "()I"⟩
abbrev bM_image : ByteArray := prog_11_method_64_code
abbrev jM_image (P : Int → ax_Mem → Prop) (pc : Nat) (ls : List (Nat × ax_V)) (st : List ax_V) (M : ax_Mem) : Prop := ax_J shM yM_image bM_image 2 (some .int) 1 P pc ls st M
abbrev kM_image (as : List ax_V) (M : ax_Mem) (P : Int → ax_Mem → Prop) : Prop := ax_C shM yM_image bM_image 2 (some .int) 1 as M P
abbrev yM_restore : MethodName := ⟨"RowsIntoPlaneModel", "restore", "()I"⟩
abbrev bM_restore : ByteArray := prog_11_method_65_code
abbrev jM_restore (P : Int → ax_Mem → Prop) (pc : Nat) (ls : List (Nat × ax_V)) (st : List ax_V) (M : ax_Mem) : Prop := ax_J shM yM_restore bM_restore 2 (some .int) 0 P pc ls st M
abbrev kM_restore (as : List ax_V) (M : ax_Mem) (P : Int → ax_Mem → Prop) : Prop := ax_C shM yM_restore bM_restore 2 (some .int) 0 as M P
abbrev yM_bagsOfAll : MethodName := ⟨"RowsIntoPlaneModel", "bagsOfAll", "()I"⟩
abbrev bM_bagsOfAll : ByteArray := prog_11_method_66_code
abbrev jM_bagsOfAll (P : Int → ax_Mem → Prop) (pc : Nat) (ls : List (Nat × ax_V)) (st : List ax_V) (M : ax_Mem) : Prop := ax_J shM yM_bagsOfAll bM_bagsOfAll 3 (some .int) 0 P pc ls st M
abbrev kM_bagsOfAll (as : List ax_V) (M : ax_Mem) (P : Int → ax_Mem → Prop) : Prop := ax_C shM yM_bagsOfAll bM_bagsOfAll 3 (some .int) 0 as M P
abbrev yM_countOf : MethodName := ⟨"RowsIntoPlaneModel", "countOf", "(I)I"⟩
abbrev bM_countOf : ByteArray := prog_11_method_67_code
abbrev jM_countOf (P : Int → ax_Mem → Prop) (pc : Nat) (ls : List (Nat × ax_V)) (st : List ax_V) (M : ax_Mem) : Prop := ax_J shM yM_countOf bM_countOf 2 (some .int) 1 P pc ls st M
abbrev kM_countOf (as : List ax_V) (M : ax_Mem) (P : Int → ax_Mem → Prop) : Prop := ax_C shM yM_countOf bM_countOf 2 (some .int) 1 as M P
abbrev yM_count : MethodName := ⟨"RowsIntoPlaneModel", "count", "(I)I"⟩
abbrev bM_count : ByteArray := prog_11_method_68_code
abbrev jM_count (P : Int → ax_Mem → Prop) (pc : Nat) (ls : List (Nat × ax_V)) (st : List ax_V) (M : ax_Mem) : Prop := ax_J shM yM_count bM_count 2 (some .int) 2 P pc ls st M
abbrev kM_count (as : List ax_V) (M : ax_Mem) (P : Int → ax_Mem → Prop) : Prop := ax_C shM yM_count bM_count 2 (some .int) 2 as M P
abbrev yM_say : MethodName := ⟨"RowsIntoPlaneModel", "say", "(J)V"⟩
abbrev bM_say : ByteArray := prog_11_method_69_code
abbrev jM_say (P : Int → ax_Mem → Prop) (pc : Nat) (ls : List (Nat × ax_V)) (st : List ax_V) (M : ax_Mem) : Prop := ax_J shM yM_say bM_say 3 none 0 P pc ls st M
abbrev kM_say (as : List ax_V) (M : ax_Mem) (P : Int → ax_Mem → Prop) : Prop := ax_C shM yM_say bM_say 3 none 0 as M P
abbrev yM_sayCalls : MethodName := ⟨"RowsIntoPlaneModel", "sayCalls", "()V"⟩
abbrev bM_sayCalls : ByteArray := prog_11_method_70_code
abbrev jM_sayCalls (P : Int → ax_Mem → Prop) (pc : Nat) (ls : List (Nat × ax_V)) (st : List ax_V) (M : ax_Mem) : Prop := ax_J shM yM_sayCalls bM_sayCalls 3 none 7 P pc ls st M
abbrev kM_sayCalls (as : List ax_V) (M : ax_Mem) (P : Int → ax_Mem → Prop) : Prop := ax_C shM yM_sayCalls bM_sayCalls 3 none 7 as M P
abbrev yM_digest : MethodName := ⟨"RowsIntoPlaneModel", "digest", "()J"⟩
abbrev bM_digest : ByteArray := prog_11_method_71_code
abbrev jM_digest (P : Int → ax_Mem → Prop) (pc : Nat) (ls : List (Nat × ax_V)) (st : List ax_V) (M : ax_Mem) : Prop := ax_J shM yM_digest bM_digest 2 (some .long) 8 P pc ls st M
abbrev kM_digest (as : List ax_V) (M : ax_Mem) (P : Int → ax_Mem → Prop) : Prop := ax_C shM yM_digest bM_digest 2 (some .long) 8 as M P
