/-! constructors (by program gen3.py) -/
theorem ia_int : Cond.arrayClass .int ∈ ax_Ts := ax_mem 167 (by decide +kernel) (by decide +kernel)
theorem ia_char : Cond.arrayClass .char ∈ ax_Ts := ax_mem 208 (by decide +kernel) (by decide +kernel)
theorem ia_boolean : Cond.arrayClass .boolean ∈ ax_Ts := ax_mem 340 (by decide +kernel) (by decide +kernel)
abbrev iy_C : MethodName := ⟨"RowsIntoPlane$Cabin", "<init>", "()V"⟩
abbrev ib_C : ByteArray := prog_3_method_1_code
theorem iw_C : cx_W iy_C ib_C 1 0 := ⟨ax_mem 87 (by decide +kernel) (by decide +kernel), ax_mem 64 (by decide +kernel) (by decide +kernel), ax_mem 86 (by decide +kernel) (by decide +kernel), rfl, ⟨by decide, by decide, by decide +kernel⟩, by decide⟩
theorem di_C_0 : decode ib_C 0 = .ok (.aload_n 0, 1) := by decide +kernel
theorem di_C_1 : decode ib_C 1 = .ok (.invokespecial 1, 3) := by decide +kernel
theorem io_C : Cond.methodLink "RowsIntoPlane$Cabin" 1 objectInit ∈ ax_Ts := ax_mem 88 (by decide +kernel) (by decide +kernel)
theorem di_C_4 : decode ib_C 4 = .ok (.return_, 1) := by decide +kernel
abbrev iy_E : MethodName := ⟨"RowsIntoPlane$People", "<init>", "()V"⟩
abbrev ib_E : ByteArray := prog_9_method_1_code
theorem iw_E : cx_W iy_E ib_E 1 0 := ⟨ax_mem 112 (by decide +kernel) (by decide +kernel), ax_mem 65 (by decide +kernel) (by decide +kernel), ax_mem 111 (by decide +kernel) (by decide +kernel), rfl, ⟨by decide, by decide, by decide +kernel⟩, by decide⟩
theorem di_E_0 : decode ib_E 0 = .ok (.aload_n 0, 1) := by decide +kernel
theorem di_E_1 : decode ib_E 1 = .ok (.invokespecial 3, 3) := by decide +kernel
theorem io_E : Cond.methodLink "RowsIntoPlane$People" 3 objectInit ∈ ax_Ts := ax_mem 113 (by decide +kernel) (by decide +kernel)
theorem di_E_4 : decode ib_E 4 = .ok (.aload_n 0, 1) := by decide +kernel
theorem di_E_5 : decode ib_E 5 = .ok (.bipush 12, 2) := by decide +kernel
theorem di_E_7 : decode ib_E 7 = .ok (.newarray .int, 2) := by decide +kernel
theorem di_E_9 : decode ib_E 9 = .ok (.putfield 9, 3) := by decide +kernel
theorem ip_E_9 : cx_FP "RowsIntoPlane$People" 9 7 0 := ⟨(rn_7, tb_7, 8), rfl, by decide, ax_mem 114 (by decide +kernel) (by decide +kernel), wi_7, rfl, rfl, ⟨.array .int, by decide +kernel, rfl⟩, ⟨ft_7, fo_7⟩, nm_7⟩
theorem di_E_12 : decode ib_E 12 = .ok (.aload_n 0, 1) := by decide +kernel
theorem di_E_13 : decode ib_E 13 = .ok (.bipush 12, 2) := by decide +kernel
theorem di_E_15 : decode ib_E 15 = .ok (.newarray .int, 2) := by decide +kernel
theorem di_E_17 : decode ib_E 17 = .ok (.putfield 15, 3) := by decide +kernel
theorem ip_E_15 : cx_FP "RowsIntoPlane$People" 15 7 1 := ⟨(rn_7, tb_7, 8), rfl, by decide, ax_mem 117 (by decide +kernel) (by decide +kernel), wi_7, rfl, rfl, ⟨.array .int, by decide +kernel, rfl⟩, ⟨ft_7, fo_7⟩, nm_7⟩
theorem di_E_20 : decode ib_E 20 = .ok (.aload_n 0, 1) := by decide +kernel
theorem di_E_21 : decode ib_E 21 = .ok (.bipush 12, 2) := by decide +kernel
theorem di_E_23 : decode ib_E 23 = .ok (.newarray .int, 2) := by decide +kernel
theorem di_E_25 : decode ib_E 25 = .ok (.putfield 18, 3) := by decide +kernel
theorem ip_E_18 : cx_FP "RowsIntoPlane$People" 18 7 2 := ⟨(rn_7, tb_7, 8), rfl, by decide, ax_mem 120 (by decide +kernel) (by decide +kernel), wi_7, rfl, rfl, ⟨.array .int, by decide +kernel, rfl⟩, ⟨ft_7, fo_7⟩, nm_7⟩
theorem di_E_28 : decode ib_E 28 = .ok (.aload_n 0, 1) := by decide +kernel
theorem di_E_29 : decode ib_E 29 = .ok (.bipush 12, 2) := by decide +kernel
theorem di_E_31 : decode ib_E 31 = .ok (.newarray .int, 2) := by decide +kernel
theorem di_E_33 : decode ib_E 33 = .ok (.putfield 21, 3) := by decide +kernel
theorem ip_E_21 : cx_FP "RowsIntoPlane$People" 21 7 3 := ⟨(rn_7, tb_7, 8), rfl, by decide, ax_mem 125 (by decide +kernel) (by decide +kernel), wi_7, rfl, rfl, ⟨.array .int, by decide +kernel, rfl⟩, ⟨ft_7, fo_7⟩, nm_7⟩
theorem di_E_36 : decode ib_E 36 = .ok (.aload_n 0, 1) := by decide +kernel
theorem di_E_37 : decode ib_E 37 = .ok (.bipush 12, 2) := by decide +kernel
theorem di_E_39 : decode ib_E 39 = .ok (.newarray .int, 2) := by decide +kernel
theorem di_E_41 : decode ib_E 41 = .ok (.putfield 24, 3) := by decide +kernel
theorem ip_E_24 : cx_FP "RowsIntoPlane$People" 24 7 4 := ⟨(rn_7, tb_7, 8), rfl, by decide, ax_mem 130 (by decide +kernel) (by decide +kernel), wi_7, rfl, rfl, ⟨.array .int, by decide +kernel, rfl⟩, ⟨ft_7, fo_7⟩, nm_7⟩
theorem di_E_44 : decode ib_E 44 = .ok (.aload_n 0, 1) := by decide +kernel
theorem di_E_45 : decode ib_E 45 = .ok (.bipush 12, 2) := by decide +kernel
theorem di_E_47 : decode ib_E 47 = .ok (.newarray .int, 2) := by decide +kernel
theorem di_E_49 : decode ib_E 49 = .ok (.putfield 27, 3) := by decide +kernel
theorem ip_E_27 : cx_FP "RowsIntoPlane$People" 27 7 5 := ⟨(rn_7, tb_7, 8), rfl, by decide, ax_mem 135 (by decide +kernel) (by decide +kernel), wi_7, rfl, rfl, ⟨.array .int, by decide +kernel, rfl⟩, ⟨ft_7, fo_7⟩, nm_7⟩
theorem di_E_52 : decode ib_E 52 = .ok (.aload_n 0, 1) := by decide +kernel
theorem di_E_53 : decode ib_E 53 = .ok (.bipush 12, 2) := by decide +kernel
theorem di_E_55 : decode ib_E 55 = .ok (.newarray .int, 2) := by decide +kernel
theorem di_E_57 : decode ib_E 57 = .ok (.putfield 30, 3) := by decide +kernel
theorem ip_E_30 : cx_FP "RowsIntoPlane$People" 30 7 6 := ⟨(rn_7, tb_7, 8), rfl, by decide, ax_mem 141 (by decide +kernel) (by decide +kernel), wi_7, rfl, rfl, ⟨.array .int, by decide +kernel, rfl⟩, ⟨ft_7, fo_7⟩, nm_7⟩
theorem di_E_60 : decode ib_E 60 = .ok (.return_, 1) := by decide +kernel
abbrev iy_I : MethodName := ⟨"RowsIntoPlane$Image", "<init>", "()V"⟩
abbrev ib_I : ByteArray := prog_5_method_1_code
theorem iw_I : cx_W iy_I ib_I 1 0 := ⟨ax_mem 172 (by decide +kernel) (by decide +kernel), ax_mem 66 (by decide +kernel) (by decide +kernel), ax_mem 171 (by decide +kernel) (by decide +kernel), rfl, ⟨by decide, by decide, by decide +kernel⟩, by decide⟩
theorem di_I_0 : decode ib_I 0 = .ok (.aload_n 0, 1) := by decide +kernel
theorem di_I_1 : decode ib_I 1 = .ok (.invokespecial 3, 3) := by decide +kernel
theorem io_I : Cond.methodLink "RowsIntoPlane$Image" 3 objectInit ∈ ax_Ts := ax_mem 173 (by decide +kernel) (by decide +kernel)
theorem di_I_4 : decode ib_I 4 = .ok (.aload_n 0, 1) := by decide +kernel
theorem di_I_5 : decode ib_I 5 = .ok (.bipush 12, 2) := by decide +kernel
theorem di_I_7 : decode ib_I 7 = .ok (.newarray .int, 2) := by decide +kernel
theorem di_I_9 : decode ib_I 9 = .ok (.putfield 9, 3) := by decide +kernel
theorem ip_I_9 : cx_FP "RowsIntoPlane$Image" 9 3 0 := ⟨(rn_3, tb_3, 4), rfl, by decide, ax_mem 174 (by decide +kernel) (by decide +kernel), wi_3, rfl, rfl, ⟨.array .int, by decide +kernel, rfl⟩, ⟨ft_3, fo_3⟩, nm_3⟩
theorem di_I_12 : decode ib_I 12 = .ok (.aload_n 0, 1) := by decide +kernel
theorem di_I_13 : decode ib_I 13 = .ok (.bipush 12, 2) := by decide +kernel
theorem di_I_15 : decode ib_I 15 = .ok (.newarray .int, 2) := by decide +kernel
theorem di_I_17 : decode ib_I 17 = .ok (.putfield 15, 3) := by decide +kernel
theorem ip_I_15 : cx_FP "RowsIntoPlane$Image" 15 3 1 := ⟨(rn_3, tb_3, 4), rfl, by decide, ax_mem 175 (by decide +kernel) (by decide +kernel), wi_3, rfl, rfl, ⟨.array .int, by decide +kernel, rfl⟩, ⟨ft_3, fo_3⟩, nm_3⟩
theorem di_I_20 : decode ib_I 20 = .ok (.return_, 1) := by decide +kernel
abbrev iy_G : MethodName := ⟨"RowsIntoPlane$Page", "<init>", "()V"⟩
abbrev ib_G : ByteArray := prog_8_method_1_code
theorem iw_G : cx_W iy_G ib_G 1 0 := ⟨ax_mem 192 (by decide +kernel) (by decide +kernel), ax_mem 67 (by decide +kernel) (by decide +kernel), ax_mem 191 (by decide +kernel) (by decide +kernel), rfl, ⟨by decide, by decide, by decide +kernel⟩, by decide⟩
theorem di_G_0 : decode ib_G 0 = .ok (.aload_n 0, 1) := by decide +kernel
theorem di_G_1 : decode ib_G 1 = .ok (.invokespecial 3, 3) := by decide +kernel
theorem io_G : Cond.methodLink "RowsIntoPlane$Page" 3 objectInit ∈ ax_Ts := ax_mem 193 (by decide +kernel) (by decide +kernel)
theorem di_G_4 : decode ib_G 4 = .ok (.aload_n 0, 1) := by decide +kernel
theorem di_G_5 : decode ib_G 5 = .ok (.bipush 16, 2) := by decide +kernel
theorem di_G_7 : decode ib_G 7 = .ok (.newarray .char, 2) := by decide +kernel
theorem di_G_9 : decode ib_G 9 = .ok (.putfield 9, 3) := by decide +kernel
theorem ip_G_9 : cx_FP "RowsIntoPlane$Page" 9 6 0 := ⟨(rn_6, tb_6, 3), rfl, by decide, ax_mem 194 (by decide +kernel) (by decide +kernel), wi_6, rfl, rfl, ⟨.array .char, by decide +kernel, rfl⟩, ⟨ft_6, fo_6⟩, nm_6⟩
theorem di_G_12 : decode ib_G 12 = .ok (.return_, 1) := by decide +kernel
abbrev iy_N : MethodName := ⟨"RowsIntoPlane$Line", "<init>", "()V"⟩
abbrev ib_N : ByteArray := prog_7_method_1_code
theorem iw_N : cx_W iy_N ib_N 1 0 := ⟨ax_mem 215 (by decide +kernel) (by decide +kernel), ax_mem 68 (by decide +kernel) (by decide +kernel), ax_mem 214 (by decide +kernel) (by decide +kernel), rfl, ⟨by decide, by decide, by decide +kernel⟩, by decide⟩
theorem di_N_0 : decode ib_N 0 = .ok (.aload_n 0, 1) := by decide +kernel
theorem di_N_1 : decode ib_N 1 = .ok (.invokespecial 3, 3) := by decide +kernel
theorem io_N : Cond.methodLink "RowsIntoPlane$Line" 3 objectInit ∈ ax_Ts := ax_mem 216 (by decide +kernel) (by decide +kernel)
theorem di_N_4 : decode ib_N 4 = .ok (.aload_n 0, 1) := by decide +kernel
theorem di_N_5 : decode ib_N 5 = .ok (.bipush 12, 2) := by decide +kernel
theorem di_N_7 : decode ib_N 7 = .ok (.newarray .int, 2) := by decide +kernel
theorem di_N_9 : decode ib_N 9 = .ok (.putfield 9, 3) := by decide +kernel
theorem ip_N_9 : cx_FP "RowsIntoPlane$Line" 9 5 0 := ⟨(rn_5, tb_5, 2), rfl, by decide, ax_mem 217 (by decide +kernel) (by decide +kernel), wi_5, rfl, rfl, ⟨.array .int, by decide +kernel, rfl⟩, ⟨ft_5, fo_5⟩, nm_5⟩
theorem di_N_12 : decode ib_N 12 = .ok (.return_, 1) := by decide +kernel
abbrev iy_K : MethodName := ⟨"RowsIntoPlane$Call", "<init>", "()V"⟩
abbrev ib_K : ByteArray := prog_4_method_1_code
theorem iw_K : cx_W iy_K ib_K 1 0 := ⟨ax_mem 233 (by decide +kernel) (by decide +kernel), ax_mem 69 (by decide +kernel) (by decide +kernel), ax_mem 232 (by decide +kernel) (by decide +kernel), rfl, ⟨by decide, by decide, by decide +kernel⟩, by decide⟩
theorem di_K_0 : decode ib_K 0 = .ok (.aload_n 0, 1) := by decide +kernel
theorem di_K_1 : decode ib_K 1 = .ok (.invokespecial 3, 3) := by decide +kernel
theorem io_K : Cond.methodLink "RowsIntoPlane$Call" 3 objectInit ∈ ax_Ts := ax_mem 234 (by decide +kernel) (by decide +kernel)
theorem di_K_4 : decode ib_K 4 = .ok (.aload_n 0, 1) := by decide +kernel
theorem di_K_5 : decode ib_K 5 = .ok (.iconst 4, 1) := by decide +kernel
theorem di_K_6 : decode ib_K 6 = .ok (.newarray .char, 2) := by decide +kernel
theorem di_K_8 : decode ib_K 8 = .ok (.putfield 9, 3) := by decide +kernel
theorem ip_K_9 : cx_FP "RowsIntoPlane$Call" 9 2 0 := ⟨(rn_2, tb_2, 3), rfl, by decide, ax_mem 235 (by decide +kernel) (by decide +kernel), wi_2, rfl, rfl, ⟨.array .char, by decide +kernel, rfl⟩, ⟨ft_2, fo_2⟩, nm_2⟩
theorem di_K_11 : decode ib_K 11 = .ok (.aload_n 0, 1) := by decide +kernel
theorem di_K_12 : decode ib_K 12 = .ok (.iconst 4, 1) := by decide +kernel
theorem di_K_13 : decode ib_K 13 = .ok (.newarray .int, 2) := by decide +kernel
theorem di_K_15 : decode ib_K 15 = .ok (.putfield 15, 3) := by decide +kernel
theorem ip_K_15 : cx_FP "RowsIntoPlane$Call" 15 2 1 := ⟨(rn_2, tb_2, 3), rfl, by decide, ax_mem 236 (by decide +kernel) (by decide +kernel), wi_2, rfl, rfl, ⟨.array .int, by decide +kernel, rfl⟩, ⟨ft_2, fo_2⟩, nm_2⟩
theorem di_K_18 : decode ib_K 18 = .ok (.return_, 1) := by decide +kernel
abbrev iy_B : MethodName := ⟨"RowsIntoPlane$Boarding", "<init>", "(LRowsIntoPlane$People;)V"⟩
abbrev ib_B : ByteArray := prog_2_method_1_code
theorem iw_B : cx_W iy_B ib_B 2 1 := ⟨ax_mem 249 (by decide +kernel) (by decide +kernel), ax_mem 70 (by decide +kernel) (by decide +kernel), ax_mem 248 (by decide +kernel) (by decide +kernel), rfl, ⟨by decide, by decide, by decide +kernel⟩, by decide⟩
theorem di_B_0 : decode ib_B 0 = .ok (.aload_n 0, 1) := by decide +kernel
theorem di_B_1 : decode ib_B 1 = .ok (.invokespecial 3, 3) := by decide +kernel
theorem io_B : Cond.methodLink "RowsIntoPlane$Boarding" 3 objectInit ∈ ax_Ts := ax_mem 250 (by decide +kernel) (by decide +kernel)
theorem di_B_4 : decode ib_B 4 = .ok (.aload_n 0, 1) := by decide +kernel
theorem di_B_5 : decode ib_B 5 = .ok (.bipush 12, 2) := by decide +kernel
theorem di_B_7 : decode ib_B 7 = .ok (.newarray .int, 2) := by decide +kernel
theorem di_B_9 : decode ib_B 9 = .ok (.putfield 9, 3) := by decide +kernel
theorem ip_B_9 : cx_FP "RowsIntoPlane$Boarding" 9 0 1 := ⟨(rn_0, tb_0, 16), rfl, by decide, ax_mem 254 (by decide +kernel) (by decide +kernel), wi_0, rfl, rfl, ⟨.array .int, by decide +kernel, rfl⟩, ⟨ft_0, fo_0⟩, nm_0⟩
theorem di_B_12 : decode ib_B 12 = .ok (.aload_n 0, 1) := by decide +kernel
theorem di_B_13 : decode ib_B 13 = .ok (.bipush 12, 2) := by decide +kernel
theorem di_B_15 : decode ib_B 15 = .ok (.newarray .int, 2) := by decide +kernel
theorem di_B_17 : decode ib_B 17 = .ok (.putfield 15, 3) := by decide +kernel
theorem ip_B_15 : cx_FP "RowsIntoPlane$Boarding" 15 0 2 := ⟨(rn_0, tb_0, 16), rfl, by decide, ax_mem 255 (by decide +kernel) (by decide +kernel), wi_0, rfl, rfl, ⟨.array .int, by decide +kernel, rfl⟩, ⟨ft_0, fo_0⟩, nm_0⟩
theorem di_B_20 : decode ib_B 20 = .ok (.aload_n 0, 1) := by decide +kernel
theorem di_B_21 : decode ib_B 21 = .ok (.bipush 12, 2) := by decide +kernel
theorem di_B_23 : decode ib_B 23 = .ok (.newarray .int, 2) := by decide +kernel
theorem di_B_25 : decode ib_B 25 = .ok (.putfield 18, 3) := by decide +kernel
theorem ip_B_18 : cx_FP "RowsIntoPlane$Boarding" 18 0 3 := ⟨(rn_0, tb_0, 16), rfl, by decide, ax_mem 256 (by decide +kernel) (by decide +kernel), wi_0, rfl, rfl, ⟨.array .int, by decide +kernel, rfl⟩, ⟨ft_0, fo_0⟩, nm_0⟩
theorem di_B_28 : decode ib_B 28 = .ok (.aload_n 0, 1) := by decide +kernel
theorem di_B_29 : decode ib_B 29 = .ok (.bipush 12, 2) := by decide +kernel
theorem di_B_31 : decode ib_B 31 = .ok (.newarray .int, 2) := by decide +kernel
theorem di_B_33 : decode ib_B 33 = .ok (.putfield 21, 3) := by decide +kernel
theorem ip_B_21 : cx_FP "RowsIntoPlane$Boarding" 21 0 4 := ⟨(rn_0, tb_0, 16), rfl, by decide, ax_mem 257 (by decide +kernel) (by decide +kernel), wi_0, rfl, rfl, ⟨.array .int, by decide +kernel, rfl⟩, ⟨ft_0, fo_0⟩, nm_0⟩
theorem di_B_36 : decode ib_B 36 = .ok (.aload_n 0, 1) := by decide +kernel
theorem di_B_37 : decode ib_B 37 = .ok (.bipush 12, 2) := by decide +kernel
theorem di_B_39 : decode ib_B 39 = .ok (.newarray .int, 2) := by decide +kernel
theorem di_B_41 : decode ib_B 41 = .ok (.putfield 24, 3) := by decide +kernel
theorem ip_B_24 : cx_FP "RowsIntoPlane$Boarding" 24 0 5 := ⟨(rn_0, tb_0, 16), rfl, by decide, ax_mem 258 (by decide +kernel) (by decide +kernel), wi_0, rfl, rfl, ⟨.array .int, by decide +kernel, rfl⟩, ⟨ft_0, fo_0⟩, nm_0⟩
theorem di_B_44 : decode ib_B 44 = .ok (.aload_n 0, 1) := by decide +kernel
theorem di_B_45 : decode ib_B 45 = .ok (.bipush 12, 2) := by decide +kernel
theorem di_B_47 : decode ib_B 47 = .ok (.newarray .int, 2) := by decide +kernel
theorem di_B_49 : decode ib_B 49 = .ok (.putfield 27, 3) := by decide +kernel
theorem ip_B_27 : cx_FP "RowsIntoPlane$Boarding" 27 0 6 := ⟨(rn_0, tb_0, 16), rfl, by decide, ax_mem 259 (by decide +kernel) (by decide +kernel), wi_0, rfl, rfl, ⟨.array .int, by decide +kernel, rfl⟩, ⟨ft_0, fo_0⟩, nm_0⟩
theorem di_B_52 : decode ib_B 52 = .ok (.aload_n 0, 1) := by decide +kernel
theorem di_B_53 : decode ib_B 53 = .ok (.bipush 12, 2) := by decide +kernel
theorem di_B_55 : decode ib_B 55 = .ok (.newarray .int, 2) := by decide +kernel
theorem di_B_57 : decode ib_B 57 = .ok (.putfield 30, 3) := by decide +kernel
theorem ip_B_30 : cx_FP "RowsIntoPlane$Boarding" 30 0 7 := ⟨(rn_0, tb_0, 16), rfl, by decide, ax_mem 260 (by decide +kernel) (by decide +kernel), wi_0, rfl, rfl, ⟨.array .int, by decide +kernel, rfl⟩, ⟨ft_0, fo_0⟩, nm_0⟩
theorem di_B_60 : decode ib_B 60 = .ok (.aload_n 0, 1) := by decide +kernel
theorem di_B_61 : decode ib_B 61 = .ok (.bipush 12, 2) := by decide +kernel
theorem di_B_63 : decode ib_B 63 = .ok (.iconst 3, 1) := by decide +kernel
theorem di_B_64 : decode ib_B 64 = .ok (.multianewarray 33 2, 4) := by decide +kernel
theorem iq_B_33 : Cond.classLink "RowsIntoPlane$Boarding" 33 "[[I" ∈ ax_Ts := ax_mem 251 (by decide +kernel) (by decide +kernel)
theorem di_B_68 : decode ib_B 68 = .ok (.putfield 35, 3) := by decide +kernel
theorem ip_B_35 : cx_FP "RowsIntoPlane$Boarding" 35 0 8 := ⟨(rn_0, tb_0, 16), rfl, by decide, ax_mem 261 (by decide +kernel) (by decide +kernel), wi_0, rfl, rfl, ⟨.array (.array .int), by decide +kernel, rfl⟩, ⟨ft_0, fo_0⟩, nm_0⟩
theorem di_B_71 : decode ib_B 71 = .ok (.aload_n 0, 1) := by decide +kernel
theorem di_B_72 : decode ib_B 72 = .ok (.bipush 12, 2) := by decide +kernel
theorem di_B_74 : decode ib_B 74 = .ok (.newarray .int, 2) := by decide +kernel
theorem di_B_76 : decode ib_B 76 = .ok (.putfield 38, 3) := by decide +kernel
theorem ip_B_38 : cx_FP "RowsIntoPlane$Boarding" 38 0 9 := ⟨(rn_0, tb_0, 16), rfl, by decide, ax_mem 262 (by decide +kernel) (by decide +kernel), wi_0, rfl, rfl, ⟨.array .int, by decide +kernel, rfl⟩, ⟨ft_0, fo_0⟩, nm_0⟩
theorem di_B_79 : decode ib_B 79 = .ok (.aload_n 0, 1) := by decide +kernel
theorem di_B_80 : decode ib_B 80 = .ok (.aload_n 1, 1) := by decide +kernel
theorem di_B_81 : decode ib_B 81 = .ok (.putfield 41, 3) := by decide +kernel
theorem ip_B_41 : cx_FP "RowsIntoPlane$Boarding" 41 0 0 := ⟨(rn_0, tb_0, 16), rfl, by decide, ax_mem 253 (by decide +kernel) (by decide +kernel), wi_0, rfl, rfl, ⟨.object "RowsIntoPlane$People", by decide +kernel, rfl⟩, ⟨ft_0, fo_0⟩, nm_0⟩
theorem di_B_84 : decode ib_B 84 = .ok (.return_, 1) := by decide +kernel
abbrev iy_L : MethodName := ⟨"RowsIntoPlane$Leaving", "<init>", "(LRowsIntoPlane$People;)V"⟩
abbrev ib_L : ByteArray := prog_6_method_1_code
theorem iw_L : cx_W iy_L ib_L 2 1 := ⟨ax_mem 308 (by decide +kernel) (by decide +kernel), ax_mem 71 (by decide +kernel) (by decide +kernel), ax_mem 307 (by decide +kernel) (by decide +kernel), rfl, ⟨by decide, by decide, by decide +kernel⟩, by decide⟩
theorem di_L_0 : decode ib_L 0 = .ok (.aload_n 0, 1) := by decide +kernel
theorem di_L_1 : decode ib_L 1 = .ok (.invokespecial 3, 3) := by decide +kernel
theorem io_L : Cond.methodLink "RowsIntoPlane$Leaving" 3 objectInit ∈ ax_Ts := ax_mem 309 (by decide +kernel) (by decide +kernel)
theorem di_L_4 : decode ib_L 4 = .ok (.aload_n 0, 1) := by decide +kernel
theorem di_L_5 : decode ib_L 5 = .ok (.bipush 12, 2) := by decide +kernel
theorem di_L_7 : decode ib_L 7 = .ok (.newarray .int, 2) := by decide +kernel
theorem di_L_9 : decode ib_L 9 = .ok (.putfield 9, 3) := by decide +kernel
theorem ip_L_9 : cx_FP "RowsIntoPlane$Leaving" 9 4 1 := ⟨(rn_4, tb_4, 9), rfl, by decide, ax_mem 311 (by decide +kernel) (by decide +kernel), wi_4, rfl, rfl, ⟨.array .int, by decide +kernel, rfl⟩, ⟨ft_4, fo_4⟩, nm_4⟩
theorem di_L_12 : decode ib_L 12 = .ok (.aload_n 0, 1) := by decide +kernel
theorem di_L_13 : decode ib_L 13 = .ok (.bipush 12, 2) := by decide +kernel
theorem di_L_15 : decode ib_L 15 = .ok (.newarray .int, 2) := by decide +kernel
theorem di_L_17 : decode ib_L 17 = .ok (.putfield 15, 3) := by decide +kernel
theorem ip_L_15 : cx_FP "RowsIntoPlane$Leaving" 15 4 2 := ⟨(rn_4, tb_4, 9), rfl, by decide, ax_mem 312 (by decide +kernel) (by decide +kernel), wi_4, rfl, rfl, ⟨.array .int, by decide +kernel, rfl⟩, ⟨ft_4, fo_4⟩, nm_4⟩
theorem di_L_20 : decode ib_L 20 = .ok (.aload_n 0, 1) := by decide +kernel
theorem di_L_21 : decode ib_L 21 = .ok (.bipush 12, 2) := by decide +kernel
theorem di_L_23 : decode ib_L 23 = .ok (.newarray .boolean, 2) := by decide +kernel
theorem di_L_25 : decode ib_L 25 = .ok (.putfield 18, 3) := by decide +kernel
theorem ip_L_18 : cx_FP "RowsIntoPlane$Leaving" 18 4 3 := ⟨(rn_4, tb_4, 9), rfl, by decide, ax_mem 313 (by decide +kernel) (by decide +kernel), wi_4, rfl, rfl, ⟨.array .boolean, by decide +kernel, rfl⟩, ⟨ft_4, fo_4⟩, nm_4⟩
theorem di_L_28 : decode ib_L 28 = .ok (.aload_n 0, 1) := by decide +kernel
theorem di_L_29 : decode ib_L 29 = .ok (.bipush 12, 2) := by decide +kernel
theorem di_L_31 : decode ib_L 31 = .ok (.newarray .int, 2) := by decide +kernel
theorem di_L_33 : decode ib_L 33 = .ok (.putfield 22, 3) := by decide +kernel
theorem ip_L_22 : cx_FP "RowsIntoPlane$Leaving" 22 4 4 := ⟨(rn_4, tb_4, 9), rfl, by decide, ax_mem 314 (by decide +kernel) (by decide +kernel), wi_4, rfl, rfl, ⟨.array .int, by decide +kernel, rfl⟩, ⟨ft_4, fo_4⟩, nm_4⟩
theorem di_L_36 : decode ib_L 36 = .ok (.aload_n 0, 1) := by decide +kernel
theorem di_L_37 : decode ib_L 37 = .ok (.aload_n 1, 1) := by decide +kernel
theorem di_L_38 : decode ib_L 38 = .ok (.putfield 25, 3) := by decide +kernel
theorem ip_L_25 : cx_FP "RowsIntoPlane$Leaving" 25 4 0 := ⟨(rn_4, tb_4, 9), rfl, by decide, ax_mem 310 (by decide +kernel) (by decide +kernel), wi_4, rfl, rfl, ⟨.object "RowsIntoPlane$People", by decide +kernel, rfl⟩, ⟨ft_4, fo_4⟩, nm_4⟩
theorem di_L_41 : decode ib_L 41 = .ok (.return_, 1) := by decide +kernel
abbrev iy_X : MethodName := ⟨"RowsIntoPlane", "<init>", "()V"⟩
abbrev ib_X : ByteArray := prog_1_method_1_code
theorem iw_X : cx_W iy_X ib_X 2 0 := ⟨ax_mem 79 (by decide +kernel) (by decide +kernel), ax_mem 63 (by decide +kernel) (by decide +kernel), ax_mem 78 (by decide +kernel) (by decide +kernel), rfl, ⟨by decide, by decide, by decide +kernel⟩, by decide⟩
theorem di_X_0 : decode ib_X 0 = .ok (.aload_n 0, 1) := by decide +kernel
theorem di_X_1 : decode ib_X 1 = .ok (.invokespecial 1, 3) := by decide +kernel
theorem io_X : Cond.methodLink "RowsIntoPlane" 1 objectInit ∈ ax_Ts := ax_mem 80 (by decide +kernel) (by decide +kernel)
theorem di_X_4 : decode ib_X 4 = .ok (.aload_n 0, 1) := by decide +kernel
theorem di_X_5 : decode ib_X 5 = .ok (.new 7, 3) := by decide +kernel
theorem in_X_7 : cx_NW "RowsIntoPlane" 7 1 4 [.int (Int32.ofInt 0), .int (Int32.ofInt 0), .int (Int32.ofInt 0), .int (Int32.ofInt 0)] := ⟨(rn_1, tb_1, 4), rfl, rfl, ax_mem 83 (by decide +kernel) (by decide +kernel), ax_mem 84 (by decide +kernel) (by decide +kernel), ax_mem 64 (by decide +kernel) (by decide +kernel), wi_1, ft_1, fo_1, by
  intro j hj
  change j < 4 at hj
  have : j = 0 ∨ j = 1 ∨ j = 2 ∨ j = 3 := by omega
  rcases this with rfl | rfl | rfl | rfl <;> rfl⟩
theorem di_X_8 : decode ib_X 8 = .ok (.dup, 1) := by decide +kernel
theorem di_X_9 : decode ib_X 9 = .ok (.invokespecial 9, 3) := by decide +kernel
theorem di_X_12 : decode ib_X 12 = .ok (.putfield 10, 3) := by decide +kernel
theorem ip_X_10 : cx_FP "RowsIntoPlane" 10 8 0 := ⟨(rn_8, tb_8, 11), rfl, by decide, ax_mem 341 (by decide +kernel) (by decide +kernel), wi_8, rfl, rfl, ⟨.object "RowsIntoPlane$Cabin", by decide +kernel, rfl⟩, ⟨ft_8, fo_8⟩, nm_8⟩
theorem di_X_15 : decode ib_X 15 = .ok (.aload_n 0, 1) := by decide +kernel
theorem di_X_16 : decode ib_X 16 = .ok (.new 16, 3) := by decide +kernel
theorem in_X_16 : cx_NW "RowsIntoPlane" 16 7 8 [.null, .null, .null, .null, .null, .null, .null, .int (Int32.ofInt 0)] := ⟨(rn_7, tb_7, 8), rfl, rfl, ax_mem 108 (by decide +kernel) (by decide +kernel), ax_mem 109 (by decide +kernel) (by decide +kernel), ax_mem 65 (by decide +kernel) (by decide +kernel), wi_7, ft_7, fo_7, by
  intro j hj
  change j < 8 at hj
  have : j = 0 ∨ j = 1 ∨ j = 2 ∨ j = 3 ∨ j = 4 ∨ j = 5 ∨ j = 6 ∨ j = 7 := by omega
  rcases this with rfl | rfl | rfl | rfl | rfl | rfl | rfl | rfl <;> rfl⟩
theorem di_X_19 : decode ib_X 19 = .ok (.dup, 1) := by decide +kernel
theorem di_X_20 : decode ib_X 20 = .ok (.invokespecial 18, 3) := by decide +kernel
theorem di_X_23 : decode ib_X 23 = .ok (.putfield 19, 3) := by decide +kernel
theorem ip_X_19 : cx_FP "RowsIntoPlane" 19 8 1 := ⟨(rn_8, tb_8, 11), rfl, by decide, ax_mem 342 (by decide +kernel) (by decide +kernel), wi_8, rfl, rfl, ⟨.object "RowsIntoPlane$People", by decide +kernel, rfl⟩, ⟨ft_8, fo_8⟩, nm_8⟩
theorem di_X_26 : decode ib_X 26 = .ok (.aload_n 0, 1) := by decide +kernel
theorem di_X_27 : decode ib_X 27 = .ok (.new 23, 3) := by decide +kernel
theorem in_X_23 : cx_NW "RowsIntoPlane" 23 3 4 [.null, .null, .int (Int32.ofInt 0), .int (Int32.ofInt 0)] := ⟨(rn_3, tb_3, 4), rfl, rfl, ax_mem 168 (by decide +kernel) (by decide +kernel), ax_mem 169 (by decide +kernel) (by decide +kernel), ax_mem 66 (by decide +kernel) (by decide +kernel), wi_3, ft_3, fo_3, by
  intro j hj
  change j < 4 at hj
  have : j = 0 ∨ j = 1 ∨ j = 2 ∨ j = 3 := by omega
  rcases this with rfl | rfl | rfl | rfl <;> rfl⟩
theorem di_X_30 : decode ib_X 30 = .ok (.dup, 1) := by decide +kernel
theorem di_X_31 : decode ib_X 31 = .ok (.invokespecial 25, 3) := by decide +kernel
theorem di_X_34 : decode ib_X 34 = .ok (.putfield 26, 3) := by decide +kernel
theorem ip_X_26 : cx_FP "RowsIntoPlane" 26 8 2 := ⟨(rn_8, tb_8, 11), rfl, by decide, ax_mem 343 (by decide +kernel) (by decide +kernel), wi_8, rfl, rfl, ⟨.object "RowsIntoPlane$Image", by decide +kernel, rfl⟩, ⟨ft_8, fo_8⟩, nm_8⟩
theorem di_X_37 : decode ib_X 37 = .ok (.aload_n 0, 1) := by decide +kernel
theorem di_X_38 : decode ib_X 38 = .ok (.new 30, 3) := by decide +kernel
theorem in_X_30 : cx_NW "RowsIntoPlane" 30 6 3 [.null, .int (Int32.ofInt 0), .int (Int32.ofInt 0)] := ⟨(rn_6, tb_6, 3), rfl, rfl, ax_mem 188 (by decide +kernel) (by decide +kernel), ax_mem 189 (by decide +kernel) (by decide +kernel), ax_mem 67 (by decide +kernel) (by decide +kernel), wi_6, ft_6, fo_6, by
  intro j hj
  change j < 3 at hj
  have : j = 0 ∨ j = 1 ∨ j = 2 := by omega
  rcases this with rfl | rfl | rfl <;> rfl⟩
theorem di_X_41 : decode ib_X 41 = .ok (.dup, 1) := by decide +kernel
theorem di_X_42 : decode ib_X 42 = .ok (.invokespecial 32, 3) := by decide +kernel
theorem di_X_45 : decode ib_X 45 = .ok (.putfield 33, 3) := by decide +kernel
theorem ip_X_33 : cx_FP "RowsIntoPlane" 33 8 3 := ⟨(rn_8, tb_8, 11), rfl, by decide, ax_mem 344 (by decide +kernel) (by decide +kernel), wi_8, rfl, rfl, ⟨.object "RowsIntoPlane$Page", by decide +kernel, rfl⟩, ⟨ft_8, fo_8⟩, nm_8⟩
theorem di_X_48 : decode ib_X 48 = .ok (.aload_n 0, 1) := by decide +kernel
theorem di_X_49 : decode ib_X 49 = .ok (.bipush 8, 2) := by decide +kernel
theorem di_X_51 : decode ib_X 51 = .ok (.anewarray 37, 3) := by decide +kernel
theorem iq_X_37 : Cond.classLink "RowsIntoPlane" 37 "RowsIntoPlane$Call" ∈ ax_Ts := ax_mem 209 (by decide +kernel) (by decide +kernel)
theorem di_X_54 : decode ib_X 54 = .ok (.putfield 39, 3) := by decide +kernel
theorem ip_X_39 : cx_FP "RowsIntoPlane" 39 8 4 := ⟨(rn_8, tb_8, 11), rfl, by decide, ax_mem 345 (by decide +kernel) (by decide +kernel), wi_8, rfl, rfl, ⟨.array (.object "RowsIntoPlane$Call"), by decide +kernel, rfl⟩, ⟨ft_8, fo_8⟩, nm_8⟩
theorem di_X_57 : decode ib_X 57 = .ok (.aload_n 0, 1) := by decide +kernel
theorem di_X_58 : decode ib_X 58 = .ok (.new 43, 3) := by decide +kernel
theorem in_X_43 : cx_NW "RowsIntoPlane" 43 5 2 [.null, .int (Int32.ofInt 0)] := ⟨(rn_5, tb_5, 2), rfl, rfl, ax_mem 211 (by decide +kernel) (by decide +kernel), ax_mem 212 (by decide +kernel) (by decide +kernel), ax_mem 68 (by decide +kernel) (by decide +kernel), wi_5, ft_5, fo_5, by
  intro j hj
  change j < 2 at hj
  have : j = 0 ∨ j = 1 := by omega
  rcases this with rfl | rfl <;> rfl⟩
theorem di_X_61 : decode ib_X 61 = .ok (.dup, 1) := by decide +kernel
theorem di_X_62 : decode ib_X 62 = .ok (.invokespecial 45, 3) := by decide +kernel
theorem di_X_65 : decode ib_X 65 = .ok (.putfield 46, 3) := by decide +kernel
theorem ip_X_46 : cx_FP "RowsIntoPlane" 46 8 5 := ⟨(rn_8, tb_8, 11), rfl, by decide, ax_mem 346 (by decide +kernel) (by decide +kernel), wi_8, rfl, rfl, ⟨.object "RowsIntoPlane$Line", by decide +kernel, rfl⟩, ⟨ft_8, fo_8⟩, nm_8⟩
theorem di_X_68 : decode ib_X 68 = .ok (.aload_n 0, 1) := by decide +kernel
theorem di_X_69 : decode ib_X 69 = .ok (.new 43, 3) := by decide +kernel
theorem di_X_72 : decode ib_X 72 = .ok (.dup, 1) := by decide +kernel
theorem di_X_73 : decode ib_X 73 = .ok (.invokespecial 45, 3) := by decide +kernel
theorem di_X_76 : decode ib_X 76 = .ok (.putfield 50, 3) := by decide +kernel
theorem ip_X_50 : cx_FP "RowsIntoPlane" 50 8 6 := ⟨(rn_8, tb_8, 11), rfl, by decide, ax_mem 347 (by decide +kernel) (by decide +kernel), wi_8, rfl, rfl, ⟨.object "RowsIntoPlane$Line", by decide +kernel, rfl⟩, ⟨ft_8, fo_8⟩, nm_8⟩
theorem di_X_79 : decode ib_X 79 = .ok (.iconst 0, 1) := by decide +kernel
theorem di_X_80 : decode ib_X 80 = .ok (.istore_n 1, 1) := by decide +kernel
theorem di_X_81 : decode ib_X 81 = .ok (.iload_n 1, 1) := by decide +kernel
theorem di_X_82 : decode ib_X 82 = .ok (.bipush 8, 2) := by decide +kernel
theorem di_X_84 : decode ib_X 84 = .ok (.if_icmp .ge 22, 3) := by decide +kernel
theorem di_X_87 : decode ib_X 87 = .ok (.aload_n 0, 1) := by decide +kernel
theorem di_X_88 : decode ib_X 88 = .ok (.getfield 39, 3) := by decide +kernel
theorem ig_X_39 : ax_FL "RowsIntoPlane" 39 8 4 := ⟨(rn_8, tb_8, 11), rfl, by decide, ax_mem 345 (by decide +kernel) (by decide +kernel), wi_8⟩
theorem di_X_91 : decode ib_X 91 = .ok (.iload_n 1, 1) := by decide +kernel
theorem di_X_92 : decode ib_X 92 = .ok (.new 37, 3) := by decide +kernel
theorem in_X_37 : cx_NW "RowsIntoPlane" 37 2 3 [.null, .null, .int (Int32.ofInt 0)] := ⟨(rn_2, tb_2, 3), rfl, rfl, ax_mem 209 (by decide +kernel) (by decide +kernel), ax_mem 230 (by decide +kernel) (by decide +kernel), ax_mem 69 (by decide +kernel) (by decide +kernel), wi_2, ft_2, fo_2, by
  intro j hj
  change j < 3 at hj
  have : j = 0 ∨ j = 1 ∨ j = 2 := by omega
  rcases this with rfl | rfl | rfl <;> rfl⟩
theorem di_X_95 : decode ib_X 95 = .ok (.dup, 1) := by decide +kernel
theorem di_X_96 : decode ib_X 96 = .ok (.invokespecial 53, 3) := by decide +kernel
theorem di_X_99 : decode ib_X 99 = .ok (.aastore, 1) := by decide +kernel
theorem di_X_100 : decode ib_X 100 = .ok (.iinc 1 1, 3) := by decide +kernel
theorem di_X_103 : decode ib_X 103 = .ok (.goto (-22), 3) := by decide +kernel
theorem di_X_106 : decode ib_X 106 = .ok (.aload_n 0, 1) := by decide +kernel
theorem di_X_107 : decode ib_X 107 = .ok (.new 54, 3) := by decide +kernel
theorem in_X_54 : cx_NW "RowsIntoPlane" 54 0 16 [.null, .null, .null, .null, .null, .null, .null, .null, .null, .null, .int (Int32.ofInt 0), .int (Int32.ofInt 0), .int (Int32.ofInt 0), .int (Int32.ofInt 0), .int (Int32.ofInt 0), .int (Int32.ofInt 0)] := ⟨(rn_0, tb_0, 16), rfl, rfl, ax_mem 245 (by decide +kernel) (by decide +kernel), ax_mem 246 (by decide +kernel) (by decide +kernel), ax_mem 70 (by decide +kernel) (by decide +kernel), wi_0, ft_0, fo_0, by
  intro j hj
  change j < 16 at hj
  have : j = 0 ∨ j = 1 ∨ j = 2 ∨ j = 3 ∨ j = 4 ∨ j = 5 ∨ j = 6 ∨ j = 7 ∨ j = 8 ∨ j = 9 ∨ j = 10 ∨ j = 11 ∨ j = 12 ∨ j = 13 ∨ j = 14 ∨ j = 15 := by omega
  rcases this with rfl | rfl | rfl | rfl | rfl | rfl | rfl | rfl | rfl | rfl | rfl | rfl | rfl | rfl | rfl | rfl <;> rfl⟩
theorem di_X_110 : decode ib_X 110 = .ok (.dup, 1) := by decide +kernel
theorem di_X_111 : decode ib_X 111 = .ok (.aload_n 0, 1) := by decide +kernel
theorem di_X_112 : decode ib_X 112 = .ok (.getfield 19, 3) := by decide +kernel
theorem ig_X_19 : ax_FL "RowsIntoPlane" 19 8 1 := ⟨(rn_8, tb_8, 11), rfl, by decide, ax_mem 342 (by decide +kernel) (by decide +kernel), wi_8⟩
theorem di_X_115 : decode ib_X 115 = .ok (.invokespecial 56, 3) := by decide +kernel
theorem il_X_56 : Cond.methodLink "RowsIntoPlane" 56 iy_B ∈ ax_Ts := ax_mem 247 (by decide +kernel) (by decide +kernel)
theorem di_X_118 : decode ib_X 118 = .ok (.putfield 59, 3) := by decide +kernel
theorem ip_X_59 : cx_FP "RowsIntoPlane" 59 8 7 := ⟨(rn_8, tb_8, 11), rfl, by decide, ax_mem 348 (by decide +kernel) (by decide +kernel), wi_8, rfl, rfl, ⟨.object "RowsIntoPlane$Boarding", by decide +kernel, rfl⟩, ⟨ft_8, fo_8⟩, nm_8⟩
theorem di_X_121 : decode ib_X 121 = .ok (.aload_n 0, 1) := by decide +kernel
theorem di_X_122 : decode ib_X 122 = .ok (.new 63, 3) := by decide +kernel
theorem in_X_63 : cx_NW "RowsIntoPlane" 63 4 9 [.null, .null, .null, .null, .null, .int (Int32.ofInt 0), .int (Int32.ofInt 0), .int (Int32.ofInt 0), .int (Int32.ofInt 0)] := ⟨(rn_4, tb_4, 9), rfl, rfl, ax_mem 304 (by decide +kernel) (by decide +kernel), ax_mem 305 (by decide +kernel) (by decide +kernel), ax_mem 71 (by decide +kernel) (by decide +kernel), wi_4, ft_4, fo_4, by
  intro j hj
  change j < 9 at hj
  have : j = 0 ∨ j = 1 ∨ j = 2 ∨ j = 3 ∨ j = 4 ∨ j = 5 ∨ j = 6 ∨ j = 7 ∨ j = 8 := by omega
  rcases this with rfl | rfl | rfl | rfl | rfl | rfl | rfl | rfl | rfl <;> rfl⟩
theorem di_X_125 : decode ib_X 125 = .ok (.dup, 1) := by decide +kernel
theorem di_X_126 : decode ib_X 126 = .ok (.aload_n 0, 1) := by decide +kernel
theorem di_X_127 : decode ib_X 127 = .ok (.getfield 19, 3) := by decide +kernel
theorem di_X_130 : decode ib_X 130 = .ok (.invokespecial 65, 3) := by decide +kernel
theorem il_X_65 : Cond.methodLink "RowsIntoPlane" 65 iy_L ∈ ax_Ts := ax_mem 306 (by decide +kernel) (by decide +kernel)
theorem di_X_133 : decode ib_X 133 = .ok (.putfield 66, 3) := by decide +kernel
theorem ip_X_66 : cx_FP "RowsIntoPlane" 66 8 8 := ⟨(rn_8, tb_8, 11), rfl, by decide, ax_mem 349 (by decide +kernel) (by decide +kernel), wi_8, rfl, rfl, ⟨.object "RowsIntoPlane$Leaving", by decide +kernel, rfl⟩, ⟨ft_8, fo_8⟩, nm_8⟩
theorem di_X_136 : decode ib_X 136 = .ok (.return_, 1) := by decide +kernel
abbrev iy_M : MethodName := ⟨"RowsIntoPlaneModel", "<init>", "()V"⟩
abbrev ib_M : ByteArray := prog_11_method_1_code
theorem iw_M : cx_W iy_M ib_M 1 0 := ⟨ax_mem 771 (by decide +kernel) (by decide +kernel), ax_mem 72 (by decide +kernel) (by decide +kernel), ax_mem 770 (by decide +kernel) (by decide +kernel), rfl, ⟨by decide, by decide, by decide +kernel⟩, by decide⟩
theorem di_M_0 : decode ib_M 0 = .ok (.aload_n 0, 1) := by decide +kernel
theorem di_M_1 : decode ib_M 1 = .ok (.invokespecial 1, 3) := by decide +kernel
theorem io_M : Cond.methodLink "RowsIntoPlaneModel" 1 objectInit ∈ ax_Ts := ax_mem 772 (by decide +kernel) (by decide +kernel)
theorem di_M_4 : decode ib_M 4 = .ok (.aload_n 0, 1) := by decide +kernel
theorem di_M_5 : decode ib_M 5 = .ok (.bipush 84, 2) := by decide +kernel
theorem di_M_7 : decode ib_M 7 = .ok (.newarray .int, 2) := by decide +kernel
theorem di_M_9 : decode ib_M 9 = .ok (.putfield 7, 3) := by decide +kernel
theorem ip_M_7 : cx_FP "RowsIntoPlaneModel" 7 9 5 := ⟨(rn_9, tb_9, 37), rfl, by decide, ax_mem 778 (by decide +kernel) (by decide +kernel), wi_9, rfl, rfl, ⟨.array .int, by decide +kernel, rfl⟩, ⟨ft_9, fo_9⟩, nm_9⟩
theorem di_M_12 : decode ib_M 12 = .ok (.aload_n 0, 1) := by decide +kernel
theorem di_M_13 : decode ib_M 13 = .ok (.bipush 16, 2) := by decide +kernel
theorem di_M_15 : decode ib_M 15 = .ok (.newarray .int, 2) := by decide +kernel
theorem di_M_17 : decode ib_M 17 = .ok (.putfield 13, 3) := by decide +kernel
theorem ip_M_13 : cx_FP "RowsIntoPlaneModel" 13 9 6 := ⟨(rn_9, tb_9, 37), rfl, by decide, ax_mem 779 (by decide +kernel) (by decide +kernel), wi_9, rfl, rfl, ⟨.array .int, by decide +kernel, rfl⟩, ⟨ft_9, fo_9⟩, nm_9⟩
theorem di_M_20 : decode ib_M 20 = .ok (.aload_n 0, 1) := by decide +kernel
theorem di_M_21 : decode ib_M 21 = .ok (.bipush 72, 2) := by decide +kernel
theorem di_M_23 : decode ib_M 23 = .ok (.newarray .int, 2) := by decide +kernel
theorem di_M_25 : decode ib_M 25 = .ok (.putfield 16, 3) := by decide +kernel
theorem ip_M_16 : cx_FP "RowsIntoPlaneModel" 16 9 9 := ⟨(rn_9, tb_9, 37), rfl, by decide, ax_mem 782 (by decide +kernel) (by decide +kernel), wi_9, rfl, rfl, ⟨.array .int, by decide +kernel, rfl⟩, ⟨ft_9, fo_9⟩, nm_9⟩
theorem di_M_28 : decode ib_M 28 = .ok (.aload_n 0, 1) := by decide +kernel
theorem di_M_29 : decode ib_M 29 = .ok (.bipush 8, 2) := by decide +kernel
theorem di_M_31 : decode ib_M 31 = .ok (.newarray .int, 2) := by decide +kernel
theorem di_M_33 : decode ib_M 33 = .ok (.putfield 19, 3) := by decide +kernel
theorem ip_M_19 : cx_FP "RowsIntoPlaneModel" 19 9 12 := ⟨(rn_9, tb_9, 37), rfl, by decide, ax_mem 785 (by decide +kernel) (by decide +kernel), wi_9, rfl, rfl, ⟨.array .int, by decide +kernel, rfl⟩, ⟨ft_9, fo_9⟩, nm_9⟩
theorem di_M_36 : decode ib_M 36 = .ok (.aload_n 0, 1) := by decide +kernel
theorem di_M_37 : decode ib_M 37 = .ok (.bipush 12, 2) := by decide +kernel
theorem di_M_39 : decode ib_M 39 = .ok (.newarray .int, 2) := by decide +kernel
theorem di_M_41 : decode ib_M 41 = .ok (.putfield 22, 3) := by decide +kernel
theorem ip_M_22 : cx_FP "RowsIntoPlaneModel" 22 9 14 := ⟨(rn_9, tb_9, 37), rfl, by decide, ax_mem 787 (by decide +kernel) (by decide +kernel), wi_9, rfl, rfl, ⟨.array .int, by decide +kernel, rfl⟩, ⟨ft_9, fo_9⟩, nm_9⟩
theorem di_M_44 : decode ib_M 44 = .ok (.aload_n 0, 1) := by decide +kernel
theorem di_M_45 : decode ib_M 45 = .ok (.bipush 12, 2) := by decide +kernel
theorem di_M_47 : decode ib_M 47 = .ok (.newarray .int, 2) := by decide +kernel
theorem di_M_49 : decode ib_M 49 = .ok (.putfield 25, 3) := by decide +kernel
theorem ip_M_25 : cx_FP "RowsIntoPlaneModel" 25 9 15 := ⟨(rn_9, tb_9, 37), rfl, by decide, ax_mem 788 (by decide +kernel) (by decide +kernel), wi_9, rfl, rfl, ⟨.array .int, by decide +kernel, rfl⟩, ⟨ft_9, fo_9⟩, nm_9⟩
theorem di_M_52 : decode ib_M 52 = .ok (.aload_n 0, 1) := by decide +kernel
theorem di_M_53 : decode ib_M 53 = .ok (.bipush 12, 2) := by decide +kernel
theorem di_M_55 : decode ib_M 55 = .ok (.newarray .int, 2) := by decide +kernel
theorem di_M_57 : decode ib_M 57 = .ok (.putfield 28, 3) := by decide +kernel
theorem ip_M_28 : cx_FP "RowsIntoPlaneModel" 28 9 16 := ⟨(rn_9, tb_9, 37), rfl, by decide, ax_mem 789 (by decide +kernel) (by decide +kernel), wi_9, rfl, rfl, ⟨.array .int, by decide +kernel, rfl⟩, ⟨ft_9, fo_9⟩, nm_9⟩
theorem di_M_60 : decode ib_M 60 = .ok (.aload_n 0, 1) := by decide +kernel
theorem di_M_61 : decode ib_M 61 = .ok (.bipush 12, 2) := by decide +kernel
theorem di_M_63 : decode ib_M 63 = .ok (.newarray .int, 2) := by decide +kernel
theorem di_M_65 : decode ib_M 65 = .ok (.putfield 31, 3) := by decide +kernel
theorem ip_M_31 : cx_FP "RowsIntoPlaneModel" 31 9 18 := ⟨(rn_9, tb_9, 37), rfl, by decide, ax_mem 791 (by decide +kernel) (by decide +kernel), wi_9, rfl, rfl, ⟨.array .int, by decide +kernel, rfl⟩, ⟨ft_9, fo_9⟩, nm_9⟩
theorem di_M_68 : decode ib_M 68 = .ok (.aload_n 0, 1) := by decide +kernel
theorem di_M_69 : decode ib_M 69 = .ok (.bipush 12, 2) := by decide +kernel
theorem di_M_71 : decode ib_M 71 = .ok (.newarray .int, 2) := by decide +kernel
theorem di_M_73 : decode ib_M 73 = .ok (.putfield 34, 3) := by decide +kernel
theorem ip_M_34 : cx_FP "RowsIntoPlaneModel" 34 9 19 := ⟨(rn_9, tb_9, 37), rfl, by decide, ax_mem 792 (by decide +kernel) (by decide +kernel), wi_9, rfl, rfl, ⟨.array .int, by decide +kernel, rfl⟩, ⟨ft_9, fo_9⟩, nm_9⟩
theorem di_M_76 : decode ib_M 76 = .ok (.aload_n 0, 1) := by decide +kernel
theorem di_M_77 : decode ib_M 77 = .ok (.bipush 12, 2) := by decide +kernel
theorem di_M_79 : decode ib_M 79 = .ok (.newarray .int, 2) := by decide +kernel
theorem di_M_81 : decode ib_M 81 = .ok (.putfield 37, 3) := by decide +kernel
theorem ip_M_37 : cx_FP "RowsIntoPlaneModel" 37 9 20 := ⟨(rn_9, tb_9, 37), rfl, by decide, ax_mem 793 (by decide +kernel) (by decide +kernel), wi_9, rfl, rfl, ⟨.array .int, by decide +kernel, rfl⟩, ⟨ft_9, fo_9⟩, nm_9⟩
theorem di_M_84 : decode ib_M 84 = .ok (.aload_n 0, 1) := by decide +kernel
theorem di_M_85 : decode ib_M 85 = .ok (.bipush 12, 2) := by decide +kernel
theorem di_M_87 : decode ib_M 87 = .ok (.newarray .int, 2) := by decide +kernel
theorem di_M_89 : decode ib_M 89 = .ok (.putfield 40, 3) := by decide +kernel
theorem ip_M_40 : cx_FP "RowsIntoPlaneModel" 40 9 21 := ⟨(rn_9, tb_9, 37), rfl, by decide, ax_mem 794 (by decide +kernel) (by decide +kernel), wi_9, rfl, rfl, ⟨.array .int, by decide +kernel, rfl⟩, ⟨ft_9, fo_9⟩, nm_9⟩
theorem di_M_92 : decode ib_M 92 = .ok (.aload_n 0, 1) := by decide +kernel
theorem di_M_93 : decode ib_M 93 = .ok (.bipush 12, 2) := by decide +kernel
theorem di_M_95 : decode ib_M 95 = .ok (.newarray .int, 2) := by decide +kernel
theorem di_M_97 : decode ib_M 97 = .ok (.putfield 43, 3) := by decide +kernel
theorem ip_M_43 : cx_FP "RowsIntoPlaneModel" 43 9 22 := ⟨(rn_9, tb_9, 37), rfl, by decide, ax_mem 795 (by decide +kernel) (by decide +kernel), wi_9, rfl, rfl, ⟨.array .int, by decide +kernel, rfl⟩, ⟨ft_9, fo_9⟩, nm_9⟩
theorem di_M_100 : decode ib_M 100 = .ok (.aload_n 0, 1) := by decide +kernel
theorem di_M_101 : decode ib_M 101 = .ok (.bipush 36, 2) := by decide +kernel
theorem di_M_103 : decode ib_M 103 = .ok (.newarray .int, 2) := by decide +kernel
theorem di_M_105 : decode ib_M 105 = .ok (.putfield 46, 3) := by decide +kernel
theorem ip_M_46 : cx_FP "RowsIntoPlaneModel" 46 9 23 := ⟨(rn_9, tb_9, 37), rfl, by decide, ax_mem 796 (by decide +kernel) (by decide +kernel), wi_9, rfl, rfl, ⟨.array .int, by decide +kernel, rfl⟩, ⟨ft_9, fo_9⟩, nm_9⟩
theorem di_M_108 : decode ib_M 108 = .ok (.aload_n 0, 1) := by decide +kernel
theorem di_M_109 : decode ib_M 109 = .ok (.bipush 6, 2) := by decide +kernel
theorem di_M_111 : decode ib_M 111 = .ok (.newarray .int, 2) := by decide +kernel
theorem di_M_113 : decode ib_M 113 = .ok (.putfield 49, 3) := by decide +kernel
theorem ip_M_49 : cx_FP "RowsIntoPlaneModel" 49 9 28 := ⟨(rn_9, tb_9, 37), rfl, by decide, ax_mem 801 (by decide +kernel) (by decide +kernel), wi_9, rfl, rfl, ⟨.array .int, by decide +kernel, rfl⟩, ⟨ft_9, fo_9⟩, nm_9⟩
theorem di_M_116 : decode ib_M 116 = .ok (.aload_n 0, 1) := by decide +kernel
theorem di_M_117 : decode ib_M 117 = .ok (.bipush 12, 2) := by decide +kernel
theorem di_M_119 : decode ib_M 119 = .ok (.newarray .int, 2) := by decide +kernel
theorem di_M_121 : decode ib_M 121 = .ok (.putfield 52, 3) := by decide +kernel
theorem ip_M_52 : cx_FP "RowsIntoPlaneModel" 52 9 29 := ⟨(rn_9, tb_9, 37), rfl, by decide, ax_mem 802 (by decide +kernel) (by decide +kernel), wi_9, rfl, rfl, ⟨.array .int, by decide +kernel, rfl⟩, ⟨ft_9, fo_9⟩, nm_9⟩
theorem di_M_124 : decode ib_M 124 = .ok (.aload_n 0, 1) := by decide +kernel
theorem di_M_125 : decode ib_M 125 = .ok (.bipush 12, 2) := by decide +kernel
theorem di_M_127 : decode ib_M 127 = .ok (.newarray .int, 2) := by decide +kernel
theorem di_M_129 : decode ib_M 129 = .ok (.putfield 55, 3) := by decide +kernel
theorem ip_M_55 : cx_FP "RowsIntoPlaneModel" 55 9 31 := ⟨(rn_9, tb_9, 37), rfl, by decide, ax_mem 804 (by decide +kernel) (by decide +kernel), wi_9, rfl, rfl, ⟨.array .int, by decide +kernel, rfl⟩, ⟨ft_9, fo_9⟩, nm_9⟩
theorem di_M_132 : decode ib_M 132 = .ok (.aload_n 0, 1) := by decide +kernel
theorem di_M_133 : decode ib_M 133 = .ok (.bipush 12, 2) := by decide +kernel
theorem di_M_135 : decode ib_M 135 = .ok (.newarray .int, 2) := by decide +kernel
theorem di_M_137 : decode ib_M 137 = .ok (.putfield 58, 3) := by decide +kernel
theorem ip_M_58 : cx_FP "RowsIntoPlaneModel" 58 9 32 := ⟨(rn_9, tb_9, 37), rfl, by decide, ax_mem 805 (by decide +kernel) (by decide +kernel), wi_9, rfl, rfl, ⟨.array .int, by decide +kernel, rfl⟩, ⟨ft_9, fo_9⟩, nm_9⟩
theorem di_M_140 : decode ib_M 140 = .ok (.aload_n 0, 1) := by decide +kernel
theorem di_M_141 : decode ib_M 141 = .ok (.bipush 24, 2) := by decide +kernel
theorem di_M_143 : decode ib_M 143 = .ok (.newarray .int, 2) := by decide +kernel
theorem di_M_145 : decode ib_M 145 = .ok (.putfield 61, 3) := by decide +kernel
theorem ip_M_61 : cx_FP "RowsIntoPlaneModel" 61 9 35 := ⟨(rn_9, tb_9, 37), rfl, by decide, ax_mem 808 (by decide +kernel) (by decide +kernel), wi_9, rfl, rfl, ⟨.array .int, by decide +kernel, rfl⟩, ⟨ft_9, fo_9⟩, nm_9⟩
theorem di_M_148 : decode ib_M 148 = .ok (.aload_n 0, 1) := by decide +kernel
theorem di_M_149 : decode ib_M 149 = .ok (.iconst (-1), 1) := by decide +kernel
theorem di_M_150 : decode ib_M 150 = .ok (.putfield 64, 3) := by decide +kernel
theorem ip_M_64 : ax_FP "RowsIntoPlaneModel" 64 9 33 .int := ⟨(rn_9, tb_9, 37), rfl, by decide, ax_mem 806 (by decide +kernel) (by decide +kernel), wi_9, by decide +kernel, by decide +kernel, ⟨ft_9, fo_9⟩, nm_9⟩
theorem di_M_153 : decode ib_M 153 = .ok (.return_, 1) := by decide +kernel
abbrev iF_C (ca : Nat → ClassId) (u : Nat → Nat) : va_W := [(u 0, .inr (1, [.int (Int32.ofInt 0), .int (Int32.ofInt 0), .int (Int32.ofInt 0), .int (Int32.ofInt 0)]))]
abbrev iF_E (ca : Nat → ClassId) (u : Nat → Nat) : va_W := [(u 0, .inr (7, [.ref (u 1), .ref (u 2), .ref (u 3), .ref (u 4), .ref (u 5), .ref (u 6), .ref (u 7), .int (Int32.ofInt 0)])), (u 1, cx_a ca 0 12), (u 2, cx_a ca 0 12), (u 3, cx_a ca 0 12), (u 4, cx_a ca 0 12), (u 5, cx_a ca 0 12), (u 6, cx_a ca 0 12), (u 7, cx_a ca 0 12)]
abbrev iF_I (ca : Nat → ClassId) (u : Nat → Nat) : va_W := [(u 0, .inr (3, [.ref (u 1), .ref (u 2), .int (Int32.ofInt 0), .int (Int32.ofInt 0)])), (u 1, cx_a ca 0 12), (u 2, cx_a ca 0 12)]
abbrev iF_G (ca : Nat → ClassId) (u : Nat → Nat) : va_W := [(u 0, .inr (6, [.ref (u 1), .int (Int32.ofInt 0), .int (Int32.ofInt 0)])), (u 1, cx_a ca 1 16)]
abbrev iF_N (ca : Nat → ClassId) (u : Nat → Nat) : va_W := [(u 0, .inr (5, [.ref (u 1), .int (Int32.ofInt 0)])), (u 1, cx_a ca 0 12)]
abbrev iF_K (ca : Nat → ClassId) (u : Nat → Nat) : va_W := [(u 0, .inr (2, [.ref (u 1), .ref (u 2), .int (Int32.ofInt 0)])), (u 1, cx_a ca 1 4), (u 2, cx_a ca 0 4)]
abbrev iF_B (ca : Nat → ClassId) (pp : Nat) (u : Nat → Nat) : va_W := [(u 0, .inr (0, [.ref pp, .ref (u 1), .ref (u 2), .ref (u 3), .ref (u 4), .ref (u 5), .ref (u 6), .ref (u 7), .ref (u 8), .ref (u 9), .int (Int32.ofInt 0), .int (Int32.ofInt 0), .int (Int32.ofInt 0), .int (Int32.ofInt 0), .int (Int32.ofInt 0), .int (Int32.ofInt 0)])), (u 1, cx_a ca 0 12), (u 2, cx_a ca 0 12), (u 3, cx_a ca 0 12), (u 4, cx_a ca 0 12), (u 5, cx_a ca 0 12), (u 6, cx_a ca 0 12), (u 7, cx_a ca 0 12), (u 8, cx_q ca 4 12 (cx_rf [10, 11, 12, 13, 14, 15, 16, 17, 18, 19, 20, 21] u)), (u 9, cx_a ca 0 12), (u 10, cx_a ca 0 3), (u 11, cx_a ca 0 3), (u 12, cx_a ca 0 3), (u 13, cx_a ca 0 3), (u 14, cx_a ca 0 3), (u 15, cx_a ca 0 3), (u 16, cx_a ca 0 3), (u 17, cx_a ca 0 3), (u 18, cx_a ca 0 3), (u 19, cx_a ca 0 3), (u 20, cx_a ca 0 3), (u 21, cx_a ca 0 3)]
abbrev iF_L (ca : Nat → ClassId) (pp : Nat) (u : Nat → Nat) : va_W := [(u 0, .inr (4, [.ref pp, .ref (u 1), .ref (u 2), .ref (u 3), .ref (u 4), .int (Int32.ofInt 0), .int (Int32.ofInt 0), .int (Int32.ofInt 0), .int (Int32.ofInt 0)])), (u 1, cx_a ca 0 12), (u 2, cx_a ca 0 12), (u 3, cx_a ca 2 12), (u 4, cx_a ca 0 12)]
def ix_m {α β : Type} (f : Nat → α → β) : Nat → List α → List β
  | _, [] => []
  | i, a :: l => f i a :: ix_m f (i + 1) l
theorem ix_m_eq {α β : Type} (f : Nat → α → β) : ∀ (l : List α) (i : Nat), ix_m f i l = l.mapIdx (fun j => f (i + j))
  | [], i => rfl
  | a :: l, i => by
    rw [ix_m, ix_m_eq f l (i + 1), List.mapIdx_cons]
    congr 2
    funext j
    congr 1
    omega
/-- the shapes' cells, written so that they compute -/
def ix_e (ca : Nat → ClassId) (ad : Nat → Nat) (f : Nat → Int) (s : ax_Sh) : va_E := match s with
  | .inl q => .inl (ca q.1, q.2, .inl (fun j => Int32.ofInt (f j)))
  | .inr (.inl q) => .inl (ca q.1, q.2.length, .inr (.inr (.inr (.inr (fun j => (q.2[j]?).map ad)))))
  | .inr (.inr q) => .inr (q.1, ix_m (ax_f ad f) 0 q.2)
def ix_w (sh : List ax_Sh) (ca : Nat → ClassId) (ad : Nat → Nat) (M : ax_Mem) : va_W := ix_m (fun k s => (ad k, ix_e ca ad (M k) s)) 0 sh
theorem ix_w_eq (sh : List ax_Sh) (ca : Nat → ClassId) (ad : Nat → Nat) (M : ax_Mem) : ix_w sh ca ad M = ax_w sh ca ad M := by
  have he : ∀ (f : Nat → Int) (s : ax_Sh), ix_e ca ad f s = ax_e ca ad f s := by
    intro f s
    rcases s with q | q | q
    · rfl
    · rfl
    · show (.inr (q.1, ix_m (ax_f ad f) 0 q.2) : va_E) = .inr (q.1, q.2.mapIdx (ax_f ad f))
      rw [ix_m_eq]
      simp only [Nat.zero_add]
  unfold ix_w ax_w
  rw [ix_m_eq]
  simp only [Nat.zero_add, he]
abbrev iF_X (ca : Nat → ClassId) (u : Nat → Nat) : va_W := ix_w shX ca u (fun _ _ => 0)
abbrev iF_M (ca : Nat → ClassId) (u : Nat → Nat) : va_W := ix_w shM ca u (ax_u (fun _ _ => 0) 0 33 (-1))
theorem cx_tower (a0 a1 a2 a3 a4 a5 a6 a7 : Nat) : (va_up (va_up (va_up (va_up (va_up (va_up (va_up (va_up ((fun _ => none) : Nat → Option Nat) (0 : Int32).toNatClampNeg (some (a0))) (1 : Int32).toNatClampNeg (some (a1))) (2 : Int32).toNatClampNeg (some (a2))) (3 : Int32).toNatClampNeg (some (a3))) (4 : Int32).toNatClampNeg (some (a4))) (5 : Int32).toNatClampNeg (some (a5))) (6 : Int32).toNatClampNeg (some (a6))) (7 : Int32).toNatClampNeg (some (a7))) = cx_rf [0, 1, 2, 3, 4, 5, 6, 7] (fun k => ([a0, a1, a2, a3, a4, a5, a6, a7] : List Nat).getD k 0) := by
  funext j
  match j with
  | 0 => rfl
  | 1 => rfl
  | 2 => rfl
  | 3 => rfl
  | 4 => rfl
  | 5 => rfl
  | 6 => rfl
  | 7 => rfl
  | n + 8 => rfl
