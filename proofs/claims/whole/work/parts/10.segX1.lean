-- by program gen2.py: one theorem a segment
-- B_open dp 1
theorem gB_open_0 {P : Int → ax_Mem → Prop} {M : ax_Mem} {a1 a2 a3 : Int} (h : jB_open P 13 [(0, .inr (.inr 44)), (3, .inl a3), (4, .inl 0)] [] (ax_u (ax_u M 44 10 a1) 44 11 a2)) : jB_open P 0 [(0, .inr (.inr 44)), (1, .inl a1), (2, .inl a2), (3, .inl a3)] [] M := by
  refine ax_aloadn 0 dB_open_0 rfl rfl ?_
  refine ax_iloadn 1 dB_open_1 rfl rfl ?_
  refine ax_puti dB_open_2 pB_72 sX_44 rfl ?_
  refine ax_aloadn 0 dB_open_5 rfl rfl ?_
  refine ax_iloadn 2 dB_open_6 rfl rfl ?_
  refine ax_puti dB_open_7 pB_73 sX_44 rfl ?_
  refine ax_iconst dB_open_10 (by decide) ?_
  refine ax_istore dB_open_11 (by decide) rfl ?_
  exact ax_sub [1, 4, 0] rfl h
theorem gB_open_13 {P : Int → ax_Mem → Prop} {M : ax_Mem} {v3 v4 : Int} (h : ((M 2 7) ≤ v4 → P 0 M) ∧ (¬ (M 2 7) ≤ v4 → (0 ≤ v4 ∧ v4 < 12) ∧ jB_open P 13 [(0, .inr (.inr 44)), (3, .inl v3), (4, .inl (v4 + 1))] [] (ax_u M 46 (v4.toNat) (min (M 8 (v4.toNat)) v3)))) : jB_open P 13 [(0, .inr (.inr 44)), (3, .inl v3), (4, .inl v4)] [] M := by
  refine ax_iload 2 dB_open_13 rfl ?_
  refine ax_aloadn 0 dB_open_15 rfl rfl ?_
  refine ax_getr dB_open_16 fB_41 sX_44 rfl ?_
  refine ax_geti dB_open_19 fB_58 sX_2 rfl ?_
  refine ax_icmp_ge (tgt := 52) dB_open_22 (by decide) (fun c2 => ?_) (fun c2 => ?_)
  · replace h := h.1 c2
    exact ax_vret dB_open_52 h
  · replace h := h.2 c2
    refine ax_aloadn 0 dB_open_25 rfl rfl ?_
    refine ax_getr dB_open_26 fB_15 sX_44 rfl ?_
    refine ax_iload 2 dB_open_29 rfl ?_
    refine ax_aloadn 0 dB_open_31 rfl rfl ?_
    refine ax_getr dB_open_32 fB_41 sX_44 rfl ?_
    refine ax_getr dB_open_35 fB_74 sX_2 rfl ?_
    refine ax_iload 2 dB_open_38 rfl ?_
    obtain ⟨q1, h⟩ := h
    refine ax_iald dB_open_40 sX_8 q1.1 q1.2 ?_
    refine ax_iloadn 1 dB_open_41 rfl rfl ?_
    refine ax_mmin dB_open_42 mB_75 (Nat.le_of_ble_eq_true rfl) (by decide) ?_
    refine ax_iast dB_open_45 sX_46 (by omega) (by omega) ?_
    refine ax_iinc (j := 2) dB_open_46 rfl (by decide) (show ax_r _ from ⟨by omega, by omega⟩) rfl ?_
    refine ax_goto (tgt := 13) dB_open_49 (by decide) ?_
    exact ax_sub [1, 2, 0] rfl h
theorem eB_open {P : Int → ax_Mem → Prop} {M : ax_Mem} {a1 a2 a3 : Int} (h : jB_open P 13 [(0, .inr (.inr 44)), (3, .inl a3), (4, .inl 0)] [] (ax_u (ax_u M 44 10 a1) 44 11 a2)) : kB_open [.inr (.inr 44), .inl a1, .inl a2, .inl a3] M P := ax_ofJ (by decide) (Nat.le_of_ble_eq_true rfl) (gB_open_0 h)
-- B_openWhole dp 2
theorem gB_openWhole_0 {P : Int → ax_Mem → Prop} {M : ax_Mem} {a2 : Int} (h : kB_open [.inr (.inr 44), .inl (M 1 0), .inl (M 1 2), .inl a2] M (fun _ M2 => jB_openWhole P 15 [(0, .inr (.inr 44)), (3, .inl 0)] [] M2)) : jB_openWhole P 0 [(0, .inr (.inr 44)), (1, .inr (.inr 1)), (2, .inl a2)] [] M := by
  refine ax_aloadn 0 dB_openWhole_0 rfl rfl ?_
  refine ax_aloadn 1 dB_openWhole_1 rfl rfl ?_
  refine ax_geti dB_openWhole_2 fB_45 sX_1 rfl ?_
  refine ax_aloadn 1 dB_openWhole_5 rfl rfl ?_
  refine ax_geti dB_openWhole_6 fB_51 sX_1 rfl ?_
  refine ax_iloadn 2 dB_openWhole_9 rfl rfl ?_
  refine ax_callV (dp2 := 1) (as := [.inl (M 1 0), .inl (M 1 2), .inl a2]) (st := []) dB_openWhole_10 lB_54 sX_44 ⟨_, _, rfl⟩ rfl rfl (Nat.le_of_ble_eq_true rfl) (by decide) ?_
  refine ax_C_mono (fun _ M2 h => ?_) h
  refine ax_iconst dB_openWhole_13 (by decide) ?_
  refine ax_istoren dB_openWhole_14 rfl (by decide) rfl ?_
  exact ax_sub [1, 0] rfl h
theorem gB_openWhole_15 {P : Int → ax_Mem → Prop} {M : ax_Mem} {v3 : Int} (h : ((M 2 7) ≤ v3 → P 0 M) ∧ (¬ (M 2 7) ≤ v3 → (0 ≤ v3 ∧ v3 < 12) ∧ jB_openWhole P 15 [(0, .inr (.inr 44)), (3, .inl (v3 + 1))] [] (ax_u M 45 (v3.toNat) (M 5 (v3.toNat))))) : jB_openWhole P 15 [(0, .inr (.inr 44)), (3, .inl v3)] [] M := by
  refine ax_iloadn 1 dB_openWhole_15 rfl rfl ?_
  refine ax_aloadn 0 dB_openWhole_16 rfl rfl ?_
  refine ax_getr dB_openWhole_17 fB_41 sX_44 rfl ?_
  refine ax_geti dB_openWhole_20 fB_58 sX_2 rfl ?_
  refine ax_icmp_ge (tgt := 47) dB_openWhole_23 (by decide) (fun c2 => ?_) (fun c2 => ?_)
  · replace h := h.1 c2
    exact ax_vret dB_openWhole_47 h
  · replace h := h.2 c2
    refine ax_aloadn 0 dB_openWhole_26 rfl rfl ?_
    refine ax_getr dB_openWhole_27 fB_9 sX_44 rfl ?_
    refine ax_iloadn 1 dB_openWhole_30 rfl rfl ?_
    refine ax_aloadn 0 dB_openWhole_31 rfl rfl ?_
    refine ax_getr dB_openWhole_32 fB_41 sX_44 rfl ?_
    refine ax_getr dB_openWhole_35 fB_63 sX_2 rfl ?_
    refine ax_iloadn 1 dB_openWhole_38 rfl rfl ?_
    obtain ⟨q1, h⟩ := h
    refine ax_iald dB_openWhole_39 sX_5 q1.1 q1.2 ?_
    refine ax_iast dB_openWhole_40 sX_45 (by omega) (by omega) ?_
    refine ax_iinc (j := 1) dB_openWhole_41 rfl (by decide) (show ax_r _ from ⟨by omega, by omega⟩) rfl ?_
    refine ax_goto (tgt := 15) dB_openWhole_44 (by decide) ?_
    exact ax_sub [1, 0] rfl h
theorem eB_openWhole {P : Int → ax_Mem → Prop} {M : ax_Mem} {a2 : Int} (h : kB_open [.inr (.inr 44), .inl (M 1 0), .inl (M 1 2), .inl a2] M (fun _ M2 => jB_openWhole P 15 [(0, .inr (.inr 44)), (3, .inl 0)] [] M2)) : kB_openWhole [.inr (.inr 44), .inr (.inr 1), .inl a2] M P := ax_ofJ (by decide) (Nat.le_of_ble_eq_true rfl) (gB_openWhole_0 h)
-- C_frontRows dp 0
theorem gC_frontRows_0 {P : Int → ax_Mem → Prop} {M : ax_Mem} (h : (-2147483648 ≤ ((M 1 0) + 1) ∧ ((M 1 0) + 1) < 2147483648) ∧ ((0 : Int) ≤ ((M 1 0) + 1) ∧ (0 : Int) < 2) ∧ P (((M 1 0) + 1) / 2) M) : jC_frontRows P 0 [(0, .inr (.inr 1))] [] M := by
  refine ax_aloadn 0 dC_frontRows_0 rfl rfl ?_
  refine ax_geti dC_frontRows_1 fC_7 sX_1 rfl ?_
  refine ax_iconst dC_frontRows_4 (by decide) ?_
  obtain ⟨q1, h⟩ := h
  refine ax_iadd dC_frontRows_5 q1 ?_
  refine ax_iconst dC_frontRows_6 (by decide) ?_
  obtain ⟨q2, h⟩ := h
  refine ax_idiv dC_frontRows_7 q2.1 q2.2 ?_
  exact ax_iret dC_frontRows_8 h
theorem eC_frontRows {P : Int → ax_Mem → Prop} {M : ax_Mem} (h : (-2147483648 ≤ ((M 1 0) + 1) ∧ ((M 1 0) + 1) < 2147483648) ∧ ((0 : Int) ≤ ((M 1 0) + 1) ∧ (0 : Int) < 2) ∧ P (((M 1 0) + 1) / 2) M) : kC_frontRows [.inr (.inr 1)] M P := ax_ofJ (by decide) (Nat.le_of_ble_eq_true rfl) (gC_frontRows_0 h)
-- B_openFront dp 3
theorem gB_openFront_0 {P : Int → ax_Mem → Prop} {M : ax_Mem} {a2 : Int} (h : kB_openWhole [.inr (.inr 44), .inr (.inr 1), .inl a2] M (fun _ M2 => kC_frontRows [.inr (.inr 1)] M2 (fun r3 M4 => P 0 (ax_u M4 44 10 r3)))) : jB_openFront P 0 [(0, .inr (.inr 44)), (1, .inr (.inr 1)), (2, .inl a2)] [] M := by
  refine ax_aloadn 0 dB_openFront_0 rfl rfl ?_
  refine ax_aloadn 1 dB_openFront_1 rfl rfl ?_
  refine ax_iloadn 2 dB_openFront_2 rfl rfl ?_
  refine ax_callV (dp2 := 2) (as := [.inr (.inr 1), .inl a2]) (st := []) dB_openFront_3 lB_64 sX_44 ⟨_, _, rfl⟩ rfl rfl (Nat.le_of_ble_eq_true rfl) (by decide) ?_
  refine ax_C_mono (fun _ M2 h => ?_) h
  refine ax_aloadn 0 dB_openFront_6 rfl rfl ?_
  refine ax_aloadn 1 dB_openFront_7 rfl rfl ?_
  refine ax_callV (dp2 := 0) (as := []) (st := [.inr (.inr 44)]) dB_openFront_8 lB_68 sX_1 ⟨_, _, rfl⟩ rfl rfl (Nat.le_of_ble_eq_true rfl) (by decide) ?_
  refine ax_C_mono (fun r3 M4 h => ?_) h
  refine ax_puti dB_openFront_11 pB_72 sX_44 rfl ?_
  exact ax_vret dB_openFront_14 h
theorem eB_openFront {P : Int → ax_Mem → Prop} {M : ax_Mem} {a2 : Int} (h : kB_openWhole [.inr (.inr 44), .inr (.inr 1), .inl a2] M (fun _ M2 => kC_frontRows [.inr (.inr 1)] M2 (fun r3 M4 => P 0 (ax_u M4 44 10 r3)))) : kB_openFront [.inr (.inr 44), .inr (.inr 1), .inl a2] M P := ax_ofJ (by decide) (Nat.le_of_ble_eq_true rfl) (gB_openFront_0 h)
-- B_openBack dp 2
theorem gB_openBack_0 {P : Int → ax_Mem → Prop} {M : ax_Mem} {a2 : Int} (h : kC_frontRows [.inr (.inr 1)] M (fun r1 M2 => (-2147483648 ≤ ((M 1 0) - r1) ∧ ((M 1 0) - r1) < 2147483648) ∧ kB_open [.inr (.inr 44), .inl ((M 1 0) - r1), .inl (M2 1 2), .inl a2] M2 (fun _ M5 => jB_openBack P 20 [(0, .inr (.inr 44)), (1, .inr (.inr 1)), (3, .inl 0)] [] M5))) : jB_openBack P 0 [(0, .inr (.inr 44)), (1, .inr (.inr 1)), (2, .inl a2)] [] M := by
  refine ax_aloadn 0 dB_openBack_0 rfl rfl ?_
  refine ax_aloadn 1 dB_openBack_1 rfl rfl ?_
  refine ax_geti dB_openBack_2 fB_45 sX_1 rfl ?_
  refine ax_aloadn 1 dB_openBack_5 rfl rfl ?_
  refine ax_callV (dp2 := 0) (as := []) (st := [.inl (M 1 0), .inr (.inr 44)]) dB_openBack_6 lB_68 sX_1 ⟨_, _, rfl⟩ rfl rfl (Nat.le_of_ble_eq_true rfl) (by decide) ?_
  refine ax_C_mono (fun r1 M2 h => ?_) h
  obtain ⟨q3, h⟩ := h
  refine ax_isub dB_openBack_9 q3 ?_
  refine ax_aloadn 1 dB_openBack_10 rfl rfl ?_
  refine ax_geti dB_openBack_11 fB_51 sX_1 rfl ?_
  refine ax_iloadn 2 dB_openBack_14 rfl rfl ?_
  refine ax_callV (dp2 := 1) (as := [.inl ((M 1 0) - r1), .inl (M2 1 2), .inl a2]) (st := []) dB_openBack_15 lB_54 sX_44 ⟨_, _, rfl⟩ rfl rfl (Nat.le_of_ble_eq_true rfl) (by decide) ?_
  refine ax_C_mono (fun _ M5 h => ?_) h
  refine ax_iconst dB_openBack_18 (by decide) ?_
  refine ax_istoren dB_openBack_19 rfl (by decide) rfl ?_
  exact ax_sub [1, 2, 0] rfl h
theorem gB_openBack_20 {P : Int → ax_Mem → Prop} {M : ax_Mem} {v3 : Int} (h : ((M 2 7) ≤ v3 → P 0 M) ∧ (¬ (M 2 7) ≤ v3 → (-2147483648 ≤ ((M 1 0) - 1) ∧ ((M 1 0) - 1) < 2147483648) ∧ (0 ≤ v3 ∧ v3 < 12) ∧ (-2147483648 ≤ (((M 1 0) - 1) - (M 5 (v3.toNat))) ∧ (((M 1 0) - 1) - (M 5 (v3.toNat))) < 2147483648) ∧ jB_openBack P 20 [(0, .inr (.inr 44)), (1, .inr (.inr 1)), (3, .inl (v3 + 1))] [] (ax_u M 45 (v3.toNat) (((M 1 0) - 1) - (M 5 (v3.toNat)))))) : jB_openBack P 20 [(0, .inr (.inr 44)), (1, .inr (.inr 1)), (3, .inl v3)] [] M := by
  refine ax_iloadn 2 dB_openBack_20 rfl rfl ?_
  refine ax_aloadn 0 dB_openBack_21 rfl rfl ?_
  refine ax_getr dB_openBack_22 fB_41 sX_44 rfl ?_
  refine ax_geti dB_openBack_25 fB_58 sX_2 rfl ?_
  refine ax_icmp_ge (tgt := 59) dB_openBack_28 (by decide) (fun c4 => ?_) (fun c4 => ?_)
  · replace h := h.1 c4
    exact ax_vret dB_openBack_59 h
  · replace h := h.2 c4
    refine ax_aloadn 0 dB_openBack_31 rfl rfl ?_
    refine ax_getr dB_openBack_32 fB_9 sX_44 rfl ?_
    refine ax_iloadn 2 dB_openBack_35 rfl rfl ?_
    refine ax_aloadn 1 dB_openBack_36 rfl rfl ?_
    refine ax_geti dB_openBack_37 fB_45 sX_1 rfl ?_
    refine ax_iconst dB_openBack_40 (by decide) ?_
    obtain ⟨q1, h⟩ := h
    refine ax_isub dB_openBack_41 q1 ?_
    refine ax_aloadn 0 dB_openBack_42 rfl rfl ?_
    refine ax_getr dB_openBack_43 fB_41 sX_44 rfl ?_
    refine ax_getr dB_openBack_46 fB_63 sX_2 rfl ?_
    refine ax_iloadn 2 dB_openBack_49 rfl rfl ?_
    obtain ⟨q2, h⟩ := h
    refine ax_iald dB_openBack_50 sX_5 q2.1 q2.2 ?_
    obtain ⟨q3, h⟩ := h
    refine ax_isub dB_openBack_51 q3 ?_
    refine ax_iast dB_openBack_52 sX_45 (by omega) (by omega) ?_
    refine ax_iinc (j := 2) dB_openBack_53 rfl (by decide) (show ax_r _ from ⟨by omega, by omega⟩) rfl ?_
    refine ax_goto (tgt := 20) dB_openBack_56 (by decide) ?_
    exact ax_sub [1, 2, 0] rfl h
theorem eB_openBack {P : Int → ax_Mem → Prop} {M : ax_Mem} {a2 : Int} (h : kC_frontRows [.inr (.inr 1)] M (fun r1 M2 => (-2147483648 ≤ ((M 1 0) - r1) ∧ ((M 1 0) - r1) < 2147483648) ∧ kB_open [.inr (.inr 44), .inl ((M 1 0) - r1), .inl (M2 1 2), .inl a2] M2 (fun _ M5 => jB_openBack P 20 [(0, .inr (.inr 44)), (1, .inr (.inr 1)), (3, .inl 0)] [] M5))) : kB_openBack [.inr (.inr 44), .inr (.inr 1), .inl a2] M P := ax_ofJ (by decide) (Nat.le_of_ble_eq_true rfl) (gB_openBack_0 h)
-- B_begin dp 0
theorem gB_begin_0 {P : Int → ax_Mem → Prop} {M : ax_Mem} (h : jB_begin P 22 [(0, .inr (.inr 44)), (1, .inr (.inr 40)), (2, .inl 0)] [] (ax_u (ax_u (ax_u (ax_u M 44 12 0) 44 13 0) 44 14 0) 44 15 0)) : jB_begin P 0 [(0, .inr (.inr 44)), (1, .inr (.inr 40))] [] M := by
  refine ax_aloadn 0 dB_begin_0 rfl rfl ?_
  refine ax_iconst dB_begin_1 (by decide) ?_
  refine ax_puti dB_begin_2 pB_88 sX_44 rfl ?_
  refine ax_aloadn 0 dB_begin_5 rfl rfl ?_
  refine ax_iconst dB_begin_6 (by decide) ?_
  refine ax_puti dB_begin_7 pB_85 sX_44 rfl ?_
  refine ax_aloadn 0 dB_begin_10 rfl rfl ?_
  refine ax_iconst dB_begin_11 (by decide) ?_
  refine ax_puti dB_begin_12 pB_99 sX_44 rfl ?_
  refine ax_aloadn 0 dB_begin_15 rfl rfl ?_
  refine ax_iconst dB_begin_16 (by decide) ?_
  refine ax_puti dB_begin_17 pB_102 sX_44 rfl ?_
  refine ax_iconst dB_begin_20 (by decide) ?_
  refine ax_istoren dB_begin_21 rfl (by decide) rfl ?_
  exact ax_sub [1, 2, 0] rfl h
theorem gB_begin_22 {P : Int → ax_Mem → Prop} {M : ax_Mem} {v2 : Int} (h : (12 ≤ v2 → jB_begin P 53 [(0, .inr (.inr 44)), (1, .inr (.inr 40)), (2, .inl 0)] [] M) ∧ (¬ 12 ≤ v2 → (0 ≤ v2 ∧ v2 < 12) ∧ jB_begin P 22 [(0, .inr (.inr 44)), (1, .inr (.inr 40)), (2, .inl (v2 + 1))] [] (ax_u (ax_u M 53 (v2.toNat) (-1)) 48 (v2.toNat) (M 44 11)))) : jB_begin P 22 [(0, .inr (.inr 44)), (1, .inr (.inr 40)), (2, .inl v2)] [] M := by
  refine ax_iloadn 2 dB_begin_22 rfl rfl ?_
  refine ax_bipush dB_begin_23 (by decide) ?_
  refine ax_icmp_ge (tgt := 51) dB_begin_25 (by decide) (fun c2 => ?_) (fun c2 => ?_)
  · replace h := h.1 c2
    refine ax_iconst dB_begin_51 (by decide) ?_
    refine ax_istoren dB_begin_52 rfl (by decide) rfl ?_
    exact ax_sub [1, 2, 0] rfl h
  · replace h := h.2 c2
    refine ax_aloadn 0 dB_begin_28 rfl rfl ?_
    refine ax_getr dB_begin_29 fB_38 sX_44 rfl ?_
    refine ax_iloadn 2 dB_begin_32 rfl rfl ?_
    refine ax_iconst dB_begin_33 (by decide) ?_
    obtain ⟨q1, h⟩ := h
    refine ax_iast dB_begin_34 sX_53 q1.1 q1.2 ?_
    refine ax_aloadn 0 dB_begin_35 rfl rfl ?_
    refine ax_getr dB_begin_36 fB_21 sX_44 rfl ?_
    refine ax_iloadn 2 dB_begin_39 rfl rfl ?_
    refine ax_aloadn 0 dB_begin_40 rfl rfl ?_
    refine ax_geti dB_begin_41 fB_73 sX_44 rfl ?_
    refine ax_top (x' := M 44 11) (by first | rfl | exact ax_u_at _ _ _ _) ?_
    refine ax_iast dB_begin_44 sX_48 (by omega) (by omega) ?_
    refine ax_iinc (j := 2) dB_begin_45 rfl (by decide) (show ax_r _ from ⟨by omega, by omega⟩) rfl ?_
    refine ax_goto (tgt := 22) dB_begin_48 (by decide) ?_
    exact ax_sub [1, 2, 0] rfl h
theorem gB_begin_53 {P : Int → ax_Mem → Prop} {M : ax_Mem} {v2 : Int} (h : ((M 40 1) ≤ v2 → P 0 M) ∧ (¬ (M 40 1) ≤ v2 → (0 ≤ v2 ∧ v2 < 12) ∧ (0 ≤ (M 41 (v2.toNat)) ∧ (M 41 (v2.toNat)) < 12) ∧ jB_begin P 92 [(0, .inr (.inr 44)), (1, .inr (.inr 40)), (2, .inl v2), (3, .inl (M 41 (v2.toNat))), (4, .inl 0)] [] (ax_u (ax_u (ax_u M 49 ((M 41 (v2.toNat)).toNat) 0) 50 ((M 41 (v2.toNat)).toNat) 0) 51 ((M 41 (v2.toNat)).toNat) 0))) : jB_begin P 53 [(0, .inr (.inr 44)), (1, .inr (.inr 40)), (2, .inl v2)] [] M := by
  refine ax_iloadn 2 dB_begin_53 rfl rfl ?_
  refine ax_aloadn 1 dB_begin_54 rfl rfl ?_
  refine ax_geti dB_begin_55 fB_105 sX_40 rfl ?_
  refine ax_icmp_ge (tgt := 153) dB_begin_58 (by decide) (fun c3 => ?_) (fun c3 => ?_)
  · replace h := h.1 c3
    exact ax_vret dB_begin_153 h
  · replace h := h.2 c3
    refine ax_aloadn 1 dB_begin_61 rfl rfl ?_
    refine ax_getr dB_begin_62 fB_108 sX_40 rfl ?_
    refine ax_iloadn 2 dB_begin_65 rfl rfl ?_
    obtain ⟨q1, h⟩ := h
    refine ax_iald dB_begin_66 sX_41 q1.1 q1.2 ?_
    refine ax_istoren dB_begin_67 rfl (by decide) rfl ?_
    refine ax_aloadn 1 dB_begin_68 rfl rfl ?_
    refine ax_getr dB_begin_69 fB_24 sX_44 rfl ?_
    refine ax_iloadn 0 dB_begin_72 rfl rfl ?_
    refine ax_iconst dB_begin_73 (by decide) ?_
    obtain ⟨q2, h⟩ := h
    refine ax_iast dB_begin_74 sX_49 q2.1 q2.2 ?_
    refine ax_aloadn 1 dB_begin_75 rfl rfl ?_
    refine ax_getr dB_begin_76 fB_27 sX_44 rfl ?_
    refine ax_iloadn 0 dB_begin_79 rfl rfl ?_
    refine ax_iconst dB_begin_80 (by decide) ?_
    refine ax_iast dB_begin_81 sX_50 (by omega) (by omega) ?_
    refine ax_aloadn 1 dB_begin_82 rfl rfl ?_
    refine ax_getr dB_begin_83 fB_30 sX_44 rfl ?_
    refine ax_iloadn 0 dB_begin_86 rfl rfl ?_
    refine ax_iconst dB_begin_87 (by decide) ?_
    refine ax_iast dB_begin_88 sX_51 (by omega) (by omega) ?_
    refine ax_iconst dB_begin_89 (by decide) ?_
    refine ax_istore dB_begin_90 (by decide) rfl ?_
    exact ax_sub [2, 3, 4, 1, 0] rfl h
theorem gB_begin_92 {P : Int → ax_Mem → Prop} {M : ax_Mem} {v2 v3 v4 : Int} (h : (3 ≤ v4 → (0 ≤ v3 ∧ v3 < 12) ∧ ((M 44 10) ≤ (M 45 (v3.toNat)) → (-2147483648 ≤ (v2 + 1) ∧ (v2 + 1) < 2147483648) ∧ jB_begin P 53 [(0, .inr (.inr 44)), (1, .inr (.inr 40)), (2, .inl (v2 + 1))] [] M) ∧ (¬ (M 44 10) ≤ (M 45 (v3.toNat)) → (0 ≤ (M 44 12) ∧ (M 44 12) < 12) ∧ (-2147483648 ≤ (v2 + 1) ∧ (v2 + 1) < 2147483648) ∧ jB_begin P 53 [(0, .inr (.inr 44)), (1, .inr (.inr 40)), (2, .inl (v2 + 1))] [] (ax_u (ax_u M 47 ((M 44 12).toNat) v3) 44 12 ((M 44 12) + 1)))) ∧ (¬ 3 ≤ v4 → (0 ≤ v3 ∧ v3 < 12) ∧ (0 ≤ v4 ∧ v4 < 3) ∧ jB_begin P 92 [(0, .inr (.inr 44)), (1, .inr (.inr 40)), (2, .inl v2), (3, .inl v3), (4, .inl (v4 + 1))] [] (ax_u M (54 + v3.toNat) (v4.toNat) (-1)))) : jB_begin P 92 [(0, .inr (.inr 44)), (1, .inr (.inr 40)), (2, .inl v2), (3, .inl v3), (4, .inl v4)] [] M := by
  refine ax_iload 4 dB_begin_92 rfl ?_
  refine ax_iconst dB_begin_94 (by decide) ?_
  refine ax_icmp_ge (tgt := 114) dB_begin_95 (by decide) (fun c8 => ?_) (fun c8 => ?_)
  · replace h := h.1 c8
    refine ax_aloadn 0 dB_begin_114 rfl rfl ?_
    refine ax_getr dB_begin_115 fB_9 sX_44 rfl ?_
    refine ax_iloadn 3 dB_begin_118 rfl rfl ?_
    obtain ⟨q1, h⟩ := h
    refine ax_iald dB_begin_119 sX_45 q1.1 q1.2 ?_
    refine ax_aloadn 0 dB_begin_120 rfl rfl ?_
    refine ax_geti dB_begin_121 fB_72 sX_44 rfl ?_
    refine ax_icmp_ge (tgt := 147) dB_begin_124 (by decide) (fun c5 => ?_) (fun c5 => ?_)
    · replace h := h.1 c5
      obtain ⟨q2, h⟩ := h
      refine ax_iinc (j := 2) dB_begin_147 rfl (by decide) q2 rfl ?_
      refine ax_goto (tgt := 53) dB_begin_150 (by decide) ?_
      exact ax_sub [1, 2, 0] rfl h
    · replace h := h.2 c5
      refine ax_aloadn 0 dB_begin_127 rfl rfl ?_
      refine ax_getr dB_begin_128 fB_18 sX_44 rfl ?_
      refine ax_aloadn 0 dB_begin_131 rfl rfl ?_
      refine ax_geti dB_begin_132 fB_88 sX_44 rfl ?_
      refine ax_iloadn 3 dB_begin_135 rfl rfl ?_
      obtain ⟨q3, h⟩ := h
      refine ax_iast dB_begin_136 sX_47 q3.1 q3.2 ?_
      refine ax_aloadn 0 dB_begin_137 rfl rfl ?_
      refine ax_dup dB_begin_138 rfl ?_
      refine ax_geti dB_begin_139 fB_88 sX_44 rfl ?_
      refine ax_top (x' := M 44 12) (by first | rfl | exact ax_u_at _ _ _ _) ?_
      refine ax_iconst dB_begin_142 (by decide) ?_
      refine ax_iadd dB_begin_143 (show ax_r _ from ⟨by omega, by omega⟩) ?_
      refine ax_puti dB_begin_144 pB_88 sX_44 rfl ?_
      obtain ⟨q4, h⟩ := h
      refine ax_iinc (j := 2) dB_begin_147 rfl (by decide) q4 rfl ?_
      refine ax_goto (tgt := 53) dB_begin_150 (by decide) ?_
      exact ax_sub [1, 2, 0] rfl h
  · replace h := h.2 c8
    refine ax_aloadn 0 dB_begin_98 rfl rfl ?_
    refine ax_getr dB_begin_99 fB_35 sX_44 rfl ?_
    refine ax_iloadn 3 dB_begin_102 rfl rfl ?_
    obtain ⟨q6, h⟩ := h
    refine ax_aald dB_begin_103 (Or.inr rfl) sX_52 q6.1 (sX_bins (ax_tn q6)) ?_
    refine ax_iload 4 dB_begin_104 rfl ?_
    refine ax_iconst dB_begin_106 (by decide) ?_
    obtain ⟨q7, h⟩ := h
    refine ax_iast dB_begin_107 (sX_bin (ax_tn q6)) q7.1 q7.2 ?_
    refine ax_iinc (j := 4) dB_begin_108 rfl (by decide) (show ax_r _ from ⟨by omega, by omega⟩) rfl ?_
    refine ax_goto (tgt := 92) dB_begin_111 (by decide) ?_
    exact ax_sub [1, 2, 3, 4, 0] rfl h
theorem eB_begin {P : Int → ax_Mem → Prop} {M : ax_Mem} (h : jB_begin P 22 [(0, .inr (.inr 44)), (1, .inr (.inr 40)), (2, .inl 0)] [] (ax_u (ax_u (ax_u (ax_u M 44 12 0) 44 13 0) 44 14 0) 44 15 0)) : kB_begin [.inr (.inr 44), .inr (.inr 40)] M P := ax_ofJ (by decide) (Nat.le_of_ble_eq_true rfl) (gB_begin_0 h)
-- B_sitIfReady dp 0
theorem gB_sitIfReady_0 {P : Int → ax_Mem → Prop} {M : ax_Mem} {a1 a2 a3 : Int} (h : (0 ≤ a1 ∧ a1 < 12) ∧ (¬ (M 49 (a1.toNat)) = 0 → P 0 M) ∧ ((M 49 (a1.toNat)) = 0 → (0 ≤ a2 ∧ a2 < 12) ∧ (-2147483648 ≤ ((M 44 13) + 1) ∧ ((M 44 13) + 1) < 2147483648) ∧ P 0 (ax_u (ax_u (ax_u (ax_u M 53 (a2.toNat) (-1)) 50 (a1.toNat) a3) 44 13 ((M 44 13) + 1)) 44 15 a3))) : jB_sitIfReady P 0 [(0, .inr (.inr 44)), (1, .inl a1), (2, .inl a2), (3, .inl a3)] [] M := by
  refine ax_aloadn 0 dB_sitIfReady_0 rfl rfl ?_
  refine ax_getr dB_sitIfReady_1 fB_24 sX_44 rfl ?_
  refine ax_iloadn 1 dB_sitIfReady_4 rfl rfl ?_
  obtain ⟨q1, h⟩ := h
  refine ax_iald dB_sitIfReady_5 sX_49 q1.1 q1.2 ?_
  refine ax_if_ne (tgt := 38) dB_sitIfReady_6 (by decide) (fun c4 => ?_) (fun c4 => ?_)
  · replace h := h.1 c4
    exact ax_vret dB_sitIfReady_38 h
  · replace h := h.2 c4
    refine ax_aloadn 0 dB_sitIfReady_9 rfl rfl ?_
    refine ax_getr dB_sitIfReady_10 fB_38 sX_44 rfl ?_
    refine ax_iloadn 2 dB_sitIfReady_13 rfl rfl ?_
    refine ax_iconst dB_sitIfReady_14 (by decide) ?_
    obtain ⟨q2, h⟩ := h
    refine ax_iast dB_sitIfReady_15 sX_53 q2.1 q2.2 ?_
    refine ax_aloadn 0 dB_sitIfReady_16 rfl rfl ?_
    refine ax_getr dB_sitIfReady_17 fB_27 sX_44 rfl ?_
    refine ax_iloadn 1 dB_sitIfReady_20 rfl rfl ?_
    refine ax_iloadn 3 dB_sitIfReady_21 rfl rfl ?_
    refine ax_iast dB_sitIfReady_22 sX_50 (by omega) (by omega) ?_
    refine ax_aloadn 0 dB_sitIfReady_23 rfl rfl ?_
    refine ax_dup dB_sitIfReady_24 rfl ?_
    refine ax_geti dB_sitIfReady_25 fB_85 sX_44 rfl ?_
    refine ax_top (x' := M 44 13) (by first | rfl | exact ax_u_at _ _ _ _) ?_
    refine ax_iconst dB_sitIfReady_28 (by decide) ?_
    obtain ⟨q3, h⟩ := h
    refine ax_iadd dB_sitIfReady_29 q3 ?_
    refine ax_puti dB_sitIfReady_30 pB_85 sX_44 rfl ?_
    refine ax_aloadn 0 dB_sitIfReady_33 rfl rfl ?_
    refine ax_iloadn 3 dB_sitIfReady_34 rfl rfl ?_
    refine ax_puti dB_sitIfReady_35 pB_102 sX_44 rfl ?_
    exact ax_vret dB_sitIfReady_38 h
theorem eB_sitIfReady {P : Int → ax_Mem → Prop} {M : ax_Mem} {a1 a2 a3 : Int} (h : (0 ≤ a1 ∧ a1 < 12) ∧ (¬ (M 49 (a1.toNat)) = 0 → P 0 M) ∧ ((M 49 (a1.toNat)) = 0 → (0 ≤ a2 ∧ a2 < 12) ∧ (-2147483648 ≤ ((M 44 13) + 1) ∧ ((M 44 13) + 1) < 2147483648) ∧ P 0 (ax_u (ax_u (ax_u (ax_u M 53 (a2.toNat) (-1)) 50 (a1.toNat) a3) 44 13 ((M 44 13) + 1)) 44 15 a3))) : kB_sitIfReady [.inr (.inr 44), .inl a1, .inl a2, .inl a3] M P := ax_ofJ (by decide) (Nat.le_of_ble_eq_true rfl) (gB_sitIfReady_0 h)
-- B_inTheWayOf dp 0
theorem gB_inTheWayOf_0 {P : Int → ax_Mem → Prop} {M : ax_Mem} {a1 : Int} (h : jB_inTheWayOf P 4 [(0, .inr (.inr 44)), (1, .inl a1), (2, .inl 0), (3, .inl 0)] [] M) : jB_inTheWayOf P 0 [(0, .inr (.inr 44)), (1, .inl a1)] [] M := by
  refine ax_iconst dB_inTheWayOf_0 (by decide) ?_
  refine ax_istoren dB_inTheWayOf_1 rfl (by decide) rfl ?_
  refine ax_iconst dB_inTheWayOf_2 (by decide) ?_
  refine ax_istoren dB_inTheWayOf_3 rfl (by decide) rfl ?_
  exact ax_sub [2, 3, 1, 0] rfl h
theorem gB_inTheWayOf_4 {P : Int → ax_Mem → Prop} {M : ax_Mem} {v1 v2 v3 : Int} (h : ((M 44 12) ≤ v3 → P v2 M) ∧ (¬ (M 44 12) ≤ v3 → (0 ≤ v3 ∧ v3 < 12) ∧ (0 ≤ (M 47 (v3.toNat)) ∧ (M 47 (v3.toNat)) < 12) ∧ ((M 50 ((M 47 (v3.toNat)).toNat)) ≤ 0 → jB_inTheWayOf P 4 [(0, .inr (.inr 44)), (1, .inl v1), (2, .inl v2), (3, .inl (v3 + 1))] [] M) ∧ (¬ (M 50 ((M 47 (v3.toNat)).toNat)) ≤ 0 → (0 ≤ v1 ∧ v1 < 12) ∧ (¬ (M 45 ((M 47 (v3.toNat)).toNat)) = (M 45 (v1.toNat)) → jB_inTheWayOf P 4 [(0, .inr (.inr 44)), (1, .inl v1), (2, .inl v2), (3, .inl (v3 + 1))] [] M) ∧ ((M 45 ((M 47 (v3.toNat)).toNat)) = (M 45 (v1.toNat)) → (¬ (M 6 ((M 47 (v3.toNat)).toNat)) = (M 6 (v1.toNat)) → jB_inTheWayOf P 4 [(0, .inr (.inr 44)), (1, .inl v1), (2, .inl v2), (3, .inl (v3 + 1))] [] M) ∧ ((M 6 ((M 47 (v3.toNat)).toNat)) = (M 6 (v1.toNat)) → ((M 7 (v1.toNat)) ≤ (M 7 ((M 47 (v3.toNat)).toNat)) → jB_inTheWayOf P 4 [(0, .inr (.inr 44)), (1, .inl v1), (2, .inl v2), (3, .inl (v3 + 1))] [] M) ∧ (¬ (M 7 (v1.toNat)) ≤ (M 7 ((M 47 (v3.toNat)).toNat)) → (-2147483648 ≤ (v2 + 1) ∧ (v2 + 1) < 2147483648) ∧ jB_inTheWayOf P 4 [(0, .inr (.inr 44)), (1, .inl v1), (2, .inl (v2 + 1)), (3, .inl (v3 + 1))] [] M)))))) : jB_inTheWayOf P 4 [(0, .inr (.inr 44)), (1, .inl v1), (2, .inl v2), (3, .inl v3)] [] M := by
  refine ax_iloadn 3 dB_inTheWayOf_4 rfl rfl ?_
  refine ax_aloadn 0 dB_inTheWayOf_5 rfl rfl ?_
  refine ax_geti dB_inTheWayOf_6 fB_88 sX_44 rfl ?_
  refine ax_icmp_ge (tgt := 99) dB_inTheWayOf_9 (by decide) (fun c9 => ?_) (fun c9 => ?_)
  · replace h := h.1 c9
    refine ax_iloadn 2 dB_inTheWayOf_99 rfl rfl ?_
    exact ax_iret dB_inTheWayOf_100 h
  · replace h := h.2 c9
    refine ax_aloadn 0 dB_inTheWayOf_12 rfl rfl ?_
    refine ax_getr dB_inTheWayOf_13 fB_18 sX_44 rfl ?_
    refine ax_iloadn 3 dB_inTheWayOf_16 rfl rfl ?_
    obtain ⟨q1, h⟩ := h
    refine ax_iald dB_inTheWayOf_17 sX_47 q1.1 q1.2 ?_
    refine ax_istore dB_inTheWayOf_18 (by decide) rfl ?_
    refine ax_aloadn 1 dB_inTheWayOf_20 rfl rfl ?_
    refine ax_getr dB_inTheWayOf_21 fB_27 sX_44 rfl ?_
    refine ax_iload 0 dB_inTheWayOf_24 rfl ?_
    obtain ⟨q2, h⟩ := h
    refine ax_iald dB_inTheWayOf_26 sX_50 q2.1 q2.2 ?_
    refine ax_if_le (tgt := 93) dB_inTheWayOf_27 (by decide) (fun c8 => ?_) (fun c8 => ?_)
    · replace h := h.1 c8
      refine ax_iinc (j := 4) dB_inTheWayOf_93 rfl (by decide) (show ax_r _ from ⟨by omega, by omega⟩) rfl ?_
      refine ax_goto (tgt := 4) dB_inTheWayOf_96 (by decide) ?_
      exact ax_sub [2, 3, 4, 0] rfl h
    · replace h := h.2 c8
      refine ax_aloadn 1 dB_inTheWayOf_30 rfl rfl ?_
      refine ax_getr dB_inTheWayOf_31 fB_9 sX_44 rfl ?_
      refine ax_iload 0 dB_inTheWayOf_34 rfl ?_
      refine ax_iald dB_inTheWayOf_36 sX_45 q2.1 q2.2 ?_
      refine ax_aloadn 1 dB_inTheWayOf_37 rfl rfl ?_
      refine ax_getr dB_inTheWayOf_38 fB_9 sX_44 rfl ?_
      refine ax_iloadn 2 dB_inTheWayOf_41 rfl rfl ?_
      obtain ⟨q3, h⟩ := h
      refine ax_iald dB_inTheWayOf_42 sX_45 q3.1 q3.2 ?_
      refine ax_icmp_ne (tgt := 93) dB_inTheWayOf_43 (by decide) (fun c7 => ?_) (fun c7 => ?_)
      · replace h := h.1 c7
        refine ax_iinc (j := 4) dB_inTheWayOf_93 rfl (by decide) (show ax_r _ from ⟨by omega, by omega⟩) rfl ?_
        refine ax_goto (tgt := 4) dB_inTheWayOf_96 (by decide) ?_
        exact ax_sub [2, 3, 4, 0] rfl h
      · replace h := h.2 c7
        refine ax_aloadn 1 dB_inTheWayOf_46 rfl rfl ?_
        refine ax_getr dB_inTheWayOf_47 fB_41 sX_44 rfl ?_
        refine ax_getr dB_inTheWayOf_50 fB_127 sX_2 rfl ?_
        refine ax_iload 0 dB_inTheWayOf_53 rfl ?_
        refine ax_iald dB_inTheWayOf_55 sX_6 q2.1 q2.2 ?_
        refine ax_aloadn 1 dB_inTheWayOf_56 rfl rfl ?_
        refine ax_getr dB_inTheWayOf_57 fB_41 sX_44 rfl ?_
        refine ax_getr dB_inTheWayOf_60 fB_127 sX_2 rfl ?_
        refine ax_iloadn 2 dB_inTheWayOf_63 rfl rfl ?_
        refine ax_iald dB_inTheWayOf_64 sX_6 q3.1 q3.2 ?_
        refine ax_icmp_ne (tgt := 93) dB_inTheWayOf_65 (by decide) (fun c6 => ?_) (fun c6 => ?_)
        · replace h := h.1 c6
          refine ax_iinc (j := 4) dB_inTheWayOf_93 rfl (by decide) (show ax_r _ from ⟨by omega, by omega⟩) rfl ?_
          refine ax_goto (tgt := 4) dB_inTheWayOf_96 (by decide) ?_
          exact ax_sub [2, 3, 4, 0] rfl h
        · replace h := h.2 c6
          refine ax_aloadn 1 dB_inTheWayOf_68 rfl rfl ?_
          refine ax_getr dB_inTheWayOf_69 fB_41 sX_44 rfl ?_
          refine ax_getr dB_inTheWayOf_72 fB_130 sX_2 rfl ?_
          refine ax_iload 0 dB_inTheWayOf_75 rfl ?_
          refine ax_iald dB_inTheWayOf_77 sX_7 q2.1 q2.2 ?_
          refine ax_aloadn 1 dB_inTheWayOf_78 rfl rfl ?_
          refine ax_getr dB_inTheWayOf_79 fB_41 sX_44 rfl ?_
          refine ax_getr dB_inTheWayOf_82 fB_130 sX_2 rfl ?_
          refine ax_iloadn 2 dB_inTheWayOf_85 rfl rfl ?_
          refine ax_iald dB_inTheWayOf_86 sX_7 q3.1 q3.2 ?_
          refine ax_icmp_ge (tgt := 93) dB_inTheWayOf_87 (by decide) (fun c5 => ?_) (fun c5 => ?_)
          · replace h := h.1 c5
            refine ax_iinc (j := 4) dB_inTheWayOf_93 rfl (by decide) (show ax_r _ from ⟨by omega, by omega⟩) rfl ?_
            refine ax_goto (tgt := 4) dB_inTheWayOf_96 (by decide) ?_
            exact ax_sub [2, 3, 4, 0] rfl h
          · replace h := h.2 c5
            obtain ⟨q4, h⟩ := h
            refine ax_iinc (j := 3) dB_inTheWayOf_90 rfl (by decide) q4 rfl ?_
            refine ax_iinc (j := 4) dB_inTheWayOf_93 rfl (by decide) (show ax_r _ from ⟨by omega, by omega⟩) rfl ?_
            refine ax_goto (tgt := 4) dB_inTheWayOf_96 (by decide) ?_
            exact ax_sub [3, 4, 1, 0] rfl h
theorem eB_inTheWayOf {P : Int → ax_Mem → Prop} {M : ax_Mem} {a1 : Int} (h : jB_inTheWayOf P 4 [(0, .inr (.inr 44)), (1, .inl a1), (2, .inl 0), (3, .inl 0)] [] M) : kB_inTheWayOf [.inr (.inr 44), .inl a1] M P := ax_ofJ (by decide) (Nat.le_of_ble_eq_true rfl) (gB_inTheWayOf_0 h)
-- B_nearestBin dp 0
theorem gB_nearestBin_0 {P : Int → ax_Mem → Prop} {M : ax_Mem} {a1 : Int} (h : jB_nearestBin P 2 [(0, .inr (.inr 44)), (1, .inl a1), (2, .inl 0)] [] M) : jB_nearestBin P 0 [(0, .inr (.inr 44)), (1, .inl a1)] [] M := by
  refine ax_iconst dB_nearestBin_0 (by decide) ?_
  refine ax_istoren dB_nearestBin_1 rfl (by decide) rfl ?_
  exact ax_sub [1, 2, 0] rfl h
theorem gB_nearestBin_2 {P : Int → ax_Mem → Prop} {M : ax_Mem} {v1 v2 : Int} (h : ((M 44 10) ≤ v2 → P (-1) M) ∧ (¬ (M 44 10) ≤ v2 → (-2147483648 ≤ (v1 - v2) ∧ (v1 - v2) < 2147483648) ∧ ((v1 - v2) < 0 → (-2147483648 ≤ (v1 + v2) ∧ (v1 + v2) < 2147483648) ∧ ((M 44 10) ≤ (v1 + v2) → (-2147483648 ≤ (v2 + 1) ∧ (v2 + 1) < 2147483648) ∧ jB_nearestBin P 2 [(0, .inr (.inr 44)), (1, .inl v1), (2, .inl (v2 + 1))] [] M) ∧ (¬ (M 44 10) ≤ (v1 + v2) → (0 ≤ (v1 + v2) ∧ (v1 + v2) < 12) ∧ ((M 48 ((v1 + v2).toNat)) ≤ 0 → (-2147483648 ≤ (v2 + 1) ∧ (v2 + 1) < 2147483648) ∧ jB_nearestBin P 2 [(0, .inr (.inr 44)), (1, .inl v1), (2, .inl (v2 + 1))] [] M) ∧ (¬ (M 48 ((v1 + v2).toNat)) ≤ 0 → P (v1 + v2) M))) ∧ (¬ (v1 - v2) < 0 → (0 ≤ (v1 - v2) ∧ (v1 - v2) < 12) ∧ ((M 48 ((v1 - v2).toNat)) ≤ 0 → (-2147483648 ≤ (v1 + v2) ∧ (v1 + v2) < 2147483648) ∧ ((M 44 10) ≤ (v1 + v2) → (-2147483648 ≤ (v2 + 1) ∧ (v2 + 1) < 2147483648) ∧ jB_nearestBin P 2 [(0, .inr (.inr 44)), (1, .inl v1), (2, .inl (v2 + 1))] [] M) ∧ (¬ (M 44 10) ≤ (v1 + v2) → (0 ≤ (v1 + v2) ∧ (v1 + v2) < 12) ∧ ((M 48 ((v1 + v2).toNat)) ≤ 0 → (-2147483648 ≤ (v2 + 1) ∧ (v2 + 1) < 2147483648) ∧ jB_nearestBin P 2 [(0, .inr (.inr 44)), (1, .inl v1), (2, .inl (v2 + 1))] [] M) ∧ (¬ (M 48 ((v1 + v2).toNat)) ≤ 0 → P (v1 + v2) M))) ∧ (¬ (M 48 ((v1 - v2).toNat)) ≤ 0 → P (v1 - v2) M)))) : jB_nearestBin P 2 [(0, .inr (.inr 44)), (1, .inl v1), (2, .inl v2)] [] M := by
  refine ax_iloadn 2 dB_nearestBin_2 rfl rfl ?_
  refine ax_aloadn 0 dB_nearestBin_3 rfl rfl ?_
  refine ax_geti dB_nearestBin_4 fB_72 sX_44 rfl ?_
  refine ax_icmp_ge (tgt := 62) dB_nearestBin_7 (by decide) (fun c17 => ?_) (fun c17 => ?_)
  · replace h := h.1 c17
    refine ax_iconst dB_nearestBin_62 (by decide) ?_
    exact ax_iret dB_nearestBin_63 h
  · replace h := h.2 c17
    refine ax_iloadn 1 dB_nearestBin_10 rfl rfl ?_
    refine ax_iloadn 2 dB_nearestBin_11 rfl rfl ?_
    obtain ⟨q1, h⟩ := h
    refine ax_isub dB_nearestBin_12 q1 ?_
    refine ax_if_lt (tgt := 31) dB_nearestBin_13 (by decide) (fun c16 => ?_) (fun c16 => ?_)
    · replace h := h.1 c16
      refine ax_iloadn 1 dB_nearestBin_31 rfl rfl ?_
      refine ax_iloadn 2 dB_nearestBin_32 rfl rfl ?_
      obtain ⟨q2, h⟩ := h
      refine ax_iadd dB_nearestBin_33 q2 ?_
      refine ax_aloadn 0 dB_nearestBin_34 rfl rfl ?_
      refine ax_geti dB_nearestBin_35 fB_72 sX_44 rfl ?_
      refine ax_icmp_ge (tgt := 56) dB_nearestBin_38 (by decide) (fun c7 => ?_) (fun c7 => ?_)
      · replace h := h.1 c7
        obtain ⟨q3, h⟩ := h
        refine ax_iinc (j := 2) dB_nearestBin_56 rfl (by decide) q3 rfl ?_
        refine ax_goto (tgt := 2) dB_nearestBin_59 (by decide) ?_
        exact ax_sub [1, 2, 0] rfl h
      · replace h := h.2 c7
        refine ax_aloadn 0 dB_nearestBin_41 rfl rfl ?_
        refine ax_getr dB_nearestBin_42 fB_21 sX_44 rfl ?_
        refine ax_iloadn 1 dB_nearestBin_45 rfl rfl ?_
        refine ax_iloadn 2 dB_nearestBin_46 rfl rfl ?_
        refine ax_iadd dB_nearestBin_47 q2 ?_
        obtain ⟨q4, h⟩ := h
        refine ax_iald dB_nearestBin_48 sX_48 q4.1 q4.2 ?_
        refine ax_if_le (tgt := 56) dB_nearestBin_49 (by decide) (fun c6 => ?_) (fun c6 => ?_)
        · replace h := h.1 c6
          obtain ⟨q5, h⟩ := h
          refine ax_iinc (j := 2) dB_nearestBin_56 rfl (by decide) q5 rfl ?_
          refine ax_goto (tgt := 2) dB_nearestBin_59 (by decide) ?_
          exact ax_sub [1, 2, 0] rfl h
        · replace h := h.2 c6
          refine ax_iloadn 1 dB_nearestBin_52 rfl rfl ?_
          refine ax_iloadn 2 dB_nearestBin_53 rfl rfl ?_
          refine ax_iadd dB_nearestBin_54 (show ax_r _ from ⟨by omega, by omega⟩) ?_
          exact ax_iret dB_nearestBin_55 h
    · replace h := h.2 c16
      refine ax_aloadn 0 dB_nearestBin_16 rfl rfl ?_
      refine ax_getr dB_nearestBin_17 fB_21 sX_44 rfl ?_
      refine ax_iloadn 1 dB_nearestBin_20 rfl rfl ?_
      refine ax_iloadn 2 dB_nearestBin_21 rfl rfl ?_
      refine ax_isub dB_nearestBin_22 q1 ?_
      obtain ⟨q8, h⟩ := h
      refine ax_iald dB_nearestBin_23 sX_48 q8.1 q8.2 ?_
      refine ax_if_le (tgt := 31) dB_nearestBin_24 (by decide) (fun c15 => ?_) (fun c15 => ?_)
      · replace h := h.1 c15
        refine ax_iloadn 1 dB_nearestBin_31 rfl rfl ?_
        refine ax_iloadn 2 dB_nearestBin_32 rfl rfl ?_
        obtain ⟨q9, h⟩ := h
        refine ax_iadd dB_nearestBin_33 q9 ?_
        refine ax_aloadn 0 dB_nearestBin_34 rfl rfl ?_
        refine ax_geti dB_nearestBin_35 fB_72 sX_44 rfl ?_
        refine ax_icmp_ge (tgt := 56) dB_nearestBin_38 (by decide) (fun c14 => ?_) (fun c14 => ?_)
        · replace h := h.1 c14
          obtain ⟨q10, h⟩ := h
          refine ax_iinc (j := 2) dB_nearestBin_56 rfl (by decide) q10 rfl ?_
          refine ax_goto (tgt := 2) dB_nearestBin_59 (by decide) ?_
          exact ax_sub [1, 2, 0] rfl h
        · replace h := h.2 c14
          refine ax_aloadn 0 dB_nearestBin_41 rfl rfl ?_
          refine ax_getr dB_nearestBin_42 fB_21 sX_44 rfl ?_
          refine ax_iloadn 1 dB_nearestBin_45 rfl rfl ?_
          refine ax_iloadn 2 dB_nearestBin_46 rfl rfl ?_
          refine ax_iadd dB_nearestBin_47 q9 ?_
          obtain ⟨q11, h⟩ := h
          refine ax_iald dB_nearestBin_48 sX_48 q11.1 q11.2 ?_
          refine ax_if_le (tgt := 56) dB_nearestBin_49 (by decide) (fun c13 => ?_) (fun c13 => ?_)
          · replace h := h.1 c13
            obtain ⟨q12, h⟩ := h
            refine ax_iinc (j := 2) dB_nearestBin_56 rfl (by decide) q12 rfl ?_
            refine ax_goto (tgt := 2) dB_nearestBin_59 (by decide) ?_
            exact ax_sub [1, 2, 0] rfl h
          · replace h := h.2 c13
            refine ax_iloadn 1 dB_nearestBin_52 rfl rfl ?_
            refine ax_iloadn 2 dB_nearestBin_53 rfl rfl ?_
            refine ax_iadd dB_nearestBin_54 (show ax_r _ from ⟨by omega, by omega⟩) ?_
            exact ax_iret dB_nearestBin_55 h
      · replace h := h.2 c15
        refine ax_iloadn 1 dB_nearestBin_27 rfl rfl ?_
        refine ax_iloadn 2 dB_nearestBin_28 rfl rfl ?_
        refine ax_isub dB_nearestBin_29 (show ax_r _ from ⟨by omega, by omega⟩) ?_
        exact ax_iret dB_nearestBin_30 h
theorem eB_nearestBin {P : Int → ax_Mem → Prop} {M : ax_Mem} {a1 : Int} (h : jB_nearestBin P 2 [(0, .inr (.inr 44)), (1, .inl a1), (2, .inl 0)] [] M) : kB_nearestBin [.inr (.inr 44), .inl a1] M P := ax_ofJ (by decide) (Nat.le_of_ble_eq_true rfl) (gB_nearestBin_0 h)
-- B_timeToSit dp 1
theorem gB_timeToSit_0 {P : Int → ax_Mem → Prop} {M : ax_Mem} {a1 : Int} (h : kB_inTheWayOf [.inr (.inr 44), .inl a1] M (fun r1 M2 => (-2147483648 ≤ (3 * r1) ∧ (3 * r1) < 2147483648) ∧ jB_timeToSit P 10 [(0, .inr (.inr 44)), (1, .inl a1), (2, .inl (3 * r1)), (3, .inl 0)] [] M2)) : jB_timeToSit P 0 [(0, .inr (.inr 44)), (1, .inl a1)] [] M := by
  refine ax_iconst dB_timeToSit_0 (by decide) ?_
  refine ax_aloadn 0 dB_timeToSit_1 rfl rfl ?_
  refine ax_iloadn 1 dB_timeToSit_2 rfl rfl ?_
  refine ax_callV (dp2 := 0) (as := [.inl a1]) (st := [.inl 3]) dB_timeToSit_3 lB_118 sX_44 ⟨_, _, rfl⟩ rfl rfl (Nat.le_of_ble_eq_true rfl) (by decide) ?_
  refine ax_C_mono (fun r1 M2 h => ?_) h
  obtain ⟨q3, h⟩ := h
  refine ax_imul dB_timeToSit_6 q3 ?_
  refine ax_istoren dB_timeToSit_7 rfl (by decide) rfl ?_
  refine ax_iconst dB_timeToSit_8 (by decide) ?_
  refine ax_istoren dB_timeToSit_9 rfl (by decide) rfl ?_
  exact ax_sub [2, 3, 1, 0] rfl h
theorem gB_timeToSit_10 {P : Int → ax_Mem → Prop} {M : ax_Mem} {v1 v2 v3 : Int} (h : (0 ≤ v1 ∧ v1 < 12) ∧ ((M 46 (v1.toNat)) ≤ v3 → P v2 M) ∧ (¬ (M 46 (v1.toNat)) ≤ v3 → kB_nearestBin [.inr (.inr 44), .inl (M 45 (v1.toNat))] M (fun r2 M3 => (0 ≤ v3 ∧ v3 < 3) ∧ (¬ r2 = (-1) → (0 ≤ r2 ∧ r2 < 12) ∧ (-2147483648 ≤ (((ax_u M3 (54 + v1.toNat) (v3.toNat) r2) 48 (r2.toNat)) - 1) ∧ (((ax_u M3 (54 + v1.toNat) (v3.toNat) r2) 48 (r2.toNat)) - 1) < 2147483648) ∧ (-2147483648 ≤ (r2 - ((ax_u M3 (54 + v1.toNat) (v3.toNat) r2) 45 (v1.toNat))) ∧ (r2 - ((ax_u M3 (54 + v1.toNat) (v3.toNat) r2) 45 (v1.toNat))) < 2147483648) ∧ (-2147483648 < (r2 - ((ax_u M3 (54 + v1.toNat) (v3.toNat) r2) 45 (v1.toNat)))) ∧ (-2147483648 ≤ (2 * (ax_abs (r2 - ((ax_u M3 (54 + v1.toNat) (v3.toNat) r2) 45 (v1.toNat))))) ∧ (2 * (ax_abs (r2 - ((ax_u M3 (54 + v1.toNat) (v3.toNat) r2) 45 (v1.toNat))))) < 2147483648) ∧ (-2147483648 ≤ (4 + (2 * (ax_abs (r2 - ((ax_u M3 (54 + v1.toNat) (v3.toNat) r2) 45 (v1.toNat)))))) ∧ (4 + (2 * (ax_abs (r2 - ((ax_u M3 (54 + v1.toNat) (v3.toNat) r2) 45 (v1.toNat)))))) < 2147483648) ∧ (-2147483648 ≤ (v2 + (4 + (2 * (ax_abs (r2 - ((ax_u M3 (54 + v1.toNat) (v3.toNat) r2) 45 (v1.toNat))))))) ∧ (v2 + (4 + (2 * (ax_abs (r2 - ((ax_u M3 (54 + v1.toNat) (v3.toNat) r2) 45 (v1.toNat))))))) < 2147483648) ∧ jB_timeToSit P 10 [(0, .inr (.inr 44)), (1, .inl v1), (2, .inl (v2 + (4 + (2 * (ax_abs (r2 - ((ax_u M3 (54 + v1.toNat) (v3.toNat) r2) 45 (v1.toNat)))))))), (3, .inl (v3 + 1))] [] (ax_u (ax_u M3 (54 + v1.toNat) (v3.toNat) r2) 48 (r2.toNat) (((ax_u M3 (54 + v1.toNat) (v3.toNat) r2) 48 (r2.toNat)) - 1))) ∧ (r2 = (-1) → (-2147483648 ≤ (((ax_u M3 (54 + v1.toNat) (v3.toNat) r2) 44 14) + 1) ∧ (((ax_u M3 (54 + v1.toNat) (v3.toNat) r2) 44 14) + 1) < 2147483648) ∧ (-2147483648 ≤ (v2 + 5) ∧ (v2 + 5) < 2147483648) ∧ jB_timeToSit P 10 [(0, .inr (.inr 44)), (1, .inl v1), (2, .inl (v2 + 5)), (3, .inl (v3 + 1))] [] (ax_u (ax_u M3 (54 + v1.toNat) (v3.toNat) r2) 44 14 (((ax_u M3 (54 + v1.toNat) (v3.toNat) r2) 44 14) + 1)))))) : jB_timeToSit P 10 [(0, .inr (.inr 44)), (1, .inl v1), (2, .inl v2), (3, .inl v3)] [] M := by
  refine ax_iloadn 3 dB_timeToSit_10 rfl rfl ?_
  refine ax_aloadn 0 dB_timeToSit_11 rfl rfl ?_
  refine ax_getr dB_timeToSit_12 fB_15 sX_44 rfl ?_
  refine ax_iloadn 1 dB_timeToSit_15 rfl rfl ?_
  obtain ⟨q1, h⟩ := h
  refine ax_iald dB_timeToSit_16 sX_46 q1.1 q1.2 ?_
  refine ax_icmp_ge (tgt := 100) dB_timeToSit_17 (by decide) (fun c15 => ?_) (fun c15 => ?_)
  · replace h := h.1 c15
    refine ax_iloadn 2 dB_timeToSit_100 rfl rfl ?_
    exact ax_iret dB_timeToSit_101 h
  · replace h := h.2 c15
    refine ax_aloadn 0 dB_timeToSit_20 rfl rfl ?_
    refine ax_aloadn 0 dB_timeToSit_21 rfl rfl ?_
    refine ax_getr dB_timeToSit_22 fB_9 sX_44 rfl ?_
    refine ax_iloadn 1 dB_timeToSit_25 rfl rfl ?_
    refine ax_iald dB_timeToSit_26 sX_45 q1.1 q1.2 ?_
    refine ax_callV (dp2 := 0) (as := [.inl (M 45 (v1.toNat))]) (st := []) dB_timeToSit_27 lB_121 sX_44 ⟨_, _, rfl⟩ rfl rfl (Nat.le_of_ble_eq_true rfl) (by decide) ?_
    refine ax_C_mono (fun r2 M3 h => ?_) h
    refine ax_istore dB_timeToSit_30 (by decide) rfl ?_
    refine ax_aloadn 1 dB_timeToSit_32 rfl rfl ?_
    refine ax_getr dB_timeToSit_33 fB_35 sX_44 rfl ?_
    refine ax_iloadn 2 dB_timeToSit_36 rfl rfl ?_
    refine ax_aald dB_timeToSit_37 (Or.inr rfl) sX_52 q1.1 (sX_bins (ax_tn q1)) ?_
    refine ax_iloadn 4 dB_timeToSit_38 rfl rfl ?_
    refine ax_iload 0 dB_timeToSit_39 rfl ?_
    obtain ⟨q4, h⟩ := h
    refine ax_iast dB_timeToSit_41 (sX_bin (ax_tn q1)) q4.1 q4.2 ?_
    refine ax_iload 0 dB_timeToSit_42 rfl ?_
    refine ax_iconst dB_timeToSit_44 (by decide) ?_
    refine ax_icmp_ne (tgt := 64) dB_timeToSit_45 (by decide) (fun c14 => ?_) (fun c14 => ?_)
    · replace h := h.1 c14
      refine ax_aloadn 1 dB_timeToSit_64 rfl rfl ?_
      refine ax_getr dB_timeToSit_65 fB_21 sX_44 rfl ?_
      refine ax_iload 0 dB_timeToSit_68 rfl ?_
      refine ax_dup2 dB_timeToSit_70 rfl rfl ?_
      obtain ⟨q5, h⟩ := h
      refine ax_iald dB_timeToSit_71 sX_48 q5.1 q5.2 ?_
      refine ax_iconst dB_timeToSit_72 (by decide) ?_
      obtain ⟨q6, h⟩ := h
      refine ax_isub dB_timeToSit_73 q6 ?_
      refine ax_iast dB_timeToSit_74 sX_48 (by omega) (by omega) ?_
      refine ax_iloadn 3 dB_timeToSit_75 rfl rfl ?_
      refine ax_iconst dB_timeToSit_76 (by decide) ?_
      refine ax_iconst dB_timeToSit_77 (by decide) ?_
      refine ax_iload 0 dB_timeToSit_78 rfl ?_
      refine ax_aloadn 1 dB_timeToSit_80 rfl rfl ?_
      refine ax_getr dB_timeToSit_81 fB_9 sX_44 rfl ?_
      refine ax_iloadn 2 dB_timeToSit_84 rfl rfl ?_
      refine ax_iald dB_timeToSit_85 sX_45 q1.1 q1.2 ?_
      refine ax_top (x' := (ax_u M3 (54 + v1.toNat) (v3.toNat) r2) 45 (v1.toNat)) (by first | rfl | exact ax_u_at _ _ _ _) ?_
      obtain ⟨q7, h⟩ := h
      refine ax_isub dB_timeToSit_86 q7 ?_
      obtain ⟨q8, h⟩ := h
      refine ax_mabs dB_timeToSit_87 mB_124 (Nat.le_of_ble_eq_true rfl) (by decide) q8 ?_
      obtain ⟨q9, h⟩ := h
      refine ax_imul dB_timeToSit_90 q9 ?_
      obtain ⟨q10, h⟩ := h
      refine ax_iadd dB_timeToSit_91 q10 ?_
      obtain ⟨q11, h⟩ := h
      refine ax_iadd dB_timeToSit_92 q11 ?_
      refine ax_istoren dB_timeToSit_93 rfl (by decide) rfl ?_
      refine ax_iinc (j := 4) dB_timeToSit_94 rfl (by decide) (show ax_r _ from ⟨by omega, by omega⟩) rfl ?_
      refine ax_goto (tgt := 10) dB_timeToSit_97 (by decide) ?_
      exact ax_sub [3, 4, 1, 0] rfl h
    · replace h := h.2 c14
      refine ax_aloadn 1 dB_timeToSit_48 rfl rfl ?_
      refine ax_dup dB_timeToSit_49 rfl ?_
      refine ax_geti dB_timeToSit_50 fB_99 sX_44 rfl ?_
      refine ax_iconst dB_timeToSit_53 (by decide) ?_
      obtain ⟨q12, h⟩ := h
      refine ax_iadd dB_timeToSit_54 q12 ?_
      refine ax_puti dB_timeToSit_55 pB_99 sX_44 rfl ?_
      obtain ⟨q13, h⟩ := h
      refine ax_iinc (j := 3) dB_timeToSit_58 rfl (by decide) q13 rfl ?_
      refine ax_goto (tgt := 94) dB_timeToSit_61 (by decide) ?_
      refine ax_iinc (j := 4) dB_timeToSit_94 rfl (by decide) (show ax_r _ from ⟨by omega, by omega⟩) rfl ?_
      refine ax_goto (tgt := 10) dB_timeToSit_97 (by decide) ?_
      exact ax_sub [3, 4, 1, 0] rfl h
theorem eB_timeToSit {P : Int → ax_Mem → Prop} {M : ax_Mem} {a1 : Int} (h : kB_inTheWayOf [.inr (.inr 44), .inl a1] M (fun r1 M2 => (-2147483648 ≤ (3 * r1) ∧ (3 * r1) < 2147483648) ∧ jB_timeToSit P 10 [(0, .inr (.inr 44)), (1, .inl a1), (2, .inl (3 * r1)), (3, .inl 0)] [] M2)) : kB_timeToSit [.inr (.inr 44), .inl a1] M P := ax_ofJ (by decide) (Nat.le_of_ble_eq_true rfl) (gB_timeToSit_0 h)
-- B_goOn dp 2
theorem gB_goOn_0 {P : Int → ax_Mem → Prop} {M : ax_Mem} {a1 : Int} (h : (-2147483648 ≤ ((M 44 10) - 1) ∧ ((M 44 10) - 1) < 2147483648) ∧ jB_goOn P 7 [(0, .inr (.inr 44)), (1, .inl a1), (2, .inl ((M 44 10) - 1))] [] M) : jB_goOn P 0 [(0, .inr (.inr 44)), (1, .inl a1)] [] M := by
  refine ax_aloadn 0 dB_goOn_0 rfl rfl ?_
  refine ax_geti dB_goOn_1 fB_72 sX_44 rfl ?_
  refine ax_iconst dB_goOn_4 (by decide) ?_
  obtain ⟨q1, h⟩ := h
  refine ax_isub dB_goOn_5 q1 ?_
  refine ax_istoren dB_goOn_6 rfl (by decide) rfl ?_
  exact ax_sub [1, 2, 0] rfl h
theorem gB_goOn_7 {P : Int → ax_Mem → Prop} {M : ax_Mem} {v1 v2 : Int} (h : (v2 < 0 → P 0 M) ∧ (¬ v2 < 0 → (0 ≤ v2 ∧ v2 < 12) ∧ (¬ (M 53 (v2.toNat)) = (-1) → (0 ≤ (M 53 (v2.toNat)) ∧ (M 53 (v2.toNat)) < 12) ∧ ((M 49 ((M 53 (v2.toNat)).toNat)) ≤ 0 → (¬ (M 45 ((M 53 (v2.toNat)).toNat)) = v2 → ((M 44 10) ≤ (v2 + 1) → (-2147483648 ≤ ((M 51 ((M 53 (v2.toNat)).toNat)) + 1) ∧ ((M 51 ((M 53 (v2.toNat)).toNat)) + 1) < 2147483648) ∧ jB_goOn P 7 [(0, .inr (.inr 44)), (1, .inl v1), (2, .inl (v2 + (-1)))] [] (ax_u M 51 ((M 53 (v2.toNat)).toNat) ((M 51 ((M 53 (v2.toNat)).toNat)) + 1))) ∧ (¬ (M 44 10) ≤ (v2 + 1) → (0 ≤ (v2 + 1) ∧ (v2 + 1) < 12) ∧ (¬ (M 53 ((v2 + 1).toNat)) = (-1) → (-2147483648 ≤ ((M 51 ((M 53 (v2.toNat)).toNat)) + 1) ∧ ((M 51 ((M 53 (v2.toNat)).toNat)) + 1) < 2147483648) ∧ jB_goOn P 7 [(0, .inr (.inr 44)), (1, .inl v1), (2, .inl (v2 + (-1)))] [] (ax_u M 51 ((M 53 (v2.toNat)).toNat) ((M 51 ((M 53 (v2.toNat)).toNat)) + 1))) ∧ ((M 53 ((v2 + 1).toNat)) = (-1) → jB_goOn P 7 [(0, .inr (.inr 44)), (1, .inl v1), (2, .inl (v2 + (-1)))] [] (ax_u (ax_u M 53 ((v2 + 1).toNat) (M 53 (v2.toNat))) 53 (v2.toNat) (-1))))) ∧ ((M 45 ((M 53 (v2.toNat)).toNat)) = v2 → kB_timeToSit [.inr (.inr 44), .inl (M 53 (v2.toNat))] M (fun r8 M9 => kB_sitIfReady [.inr (.inr 44), .inl (M 53 (v2.toNat)), .inl v2, .inl v1] (ax_u M9 49 ((M 53 (v2.toNat)).toNat) r8) (fun _ M11 => jB_goOn P 7 [(0, .inr (.inr 44)), (1, .inl v1), (2, .inl (v2 + (-1)))] [] M11)))) ∧ (¬ (M 49 ((M 53 (v2.toNat)).toNat)) ≤ 0 → (-2147483648 ≤ ((M 49 ((M 53 (v2.toNat)).toNat)) - 1) ∧ ((M 49 ((M 53 (v2.toNat)).toNat)) - 1) < 2147483648) ∧ kB_sitIfReady [.inr (.inr 44), .inl (M 53 (v2.toNat)), .inl v2, .inl v1] (ax_u M 49 ((M 53 (v2.toNat)).toNat) ((M 49 ((M 53 (v2.toNat)).toNat)) - 1)) (fun _ M15 => jB_goOn P 7 [(0, .inr (.inr 44)), (1, .inl v1), (2, .inl (v2 + (-1)))] [] M15))) ∧ ((M 53 (v2.toNat)) = (-1) → jB_goOn P 7 [(0, .inr (.inr 44)), (1, .inl v1), (2, .inl (v2 + (-1)))] [] M))) : jB_goOn P 7 [(0, .inr (.inr 44)), (1, .inl v1), (2, .inl v2)] [] M := by
  refine ax_iloadn 2 dB_goOn_7 rfl rfl ?_
  refine ax_if_lt (tgt := 143) dB_goOn_8 (by decide) (fun c18 => ?_) (fun c18 => ?_)
  · replace h := h.1 c18
    exact ax_vret dB_goOn_143 h
  · replace h := h.2 c18
    refine ax_aloadn 0 dB_goOn_11 rfl rfl ?_
    refine ax_getr dB_goOn_12 fB_38 sX_44 rfl ?_
    refine ax_iloadn 2 dB_goOn_15 rfl rfl ?_
    obtain ⟨q1, h⟩ := h
    refine ax_iald dB_goOn_16 sX_53 q1.1 q1.2 ?_
    refine ax_istoren dB_goOn_17 rfl (by decide) rfl ?_
    refine ax_iloadn 0 dB_goOn_18 rfl rfl ?_
    refine ax_iconst dB_goOn_19 (by decide) ?_
    refine ax_icmp_ne (tgt := 26) dB_goOn_20 (by decide) (fun c17 => ?_) (fun c17 => ?_)
    · replace h := h.1 c17
      refine ax_aloadn 1 dB_goOn_26 rfl rfl ?_
      refine ax_getr dB_goOn_27 fB_24 sX_44 rfl ?_
      refine ax_iloadn 0 dB_goOn_30 rfl rfl ?_
      obtain ⟨q2, h⟩ := h
      refine ax_iald dB_goOn_31 sX_49 q2.1 q2.2 ?_
      refine ax_if_le (tgt := 55) dB_goOn_32 (by decide) (fun c16 => ?_) (fun c16 => ?_)
      · replace h := h.1 c16
        refine ax_aloadn 1 dB_goOn_55 rfl rfl ?_
        refine ax_getr dB_goOn_56 fB_9 sX_44 rfl ?_
        refine ax_iloadn 0 dB_goOn_59 rfl rfl ?_
        refine ax_iald dB_goOn_60 sX_45 q2.1 q2.2 ?_
        refine ax_iloadn 3 dB_goOn_61 rfl rfl ?_
        refine ax_icmp_ne (tgt := 86) dB_goOn_62 (by decide) (fun c12 => ?_) (fun c12 => ?_)
        · replace h := h.1 c12
          refine ax_iloadn 3 dB_goOn_86 rfl rfl ?_
          refine ax_iconst dB_goOn_87 (by decide) ?_
          refine ax_iadd dB_goOn_88 (show ax_r _ from ⟨by omega, by omega⟩) ?_
          refine ax_aloadn 1 dB_goOn_89 rfl rfl ?_
          refine ax_geti dB_goOn_90 fB_72 sX_44 rfl ?_
          refine ax_icmp_ge (tgt := 127) dB_goOn_93 (by decide) (fun c7 => ?_) (fun c7 => ?_)
          · replace h := h.1 c7
            refine ax_aloadn 1 dB_goOn_127 rfl rfl ?_
            refine ax_getr dB_goOn_128 fB_30 sX_44 rfl ?_
            refine ax_iloadn 0 dB_goOn_131 rfl rfl ?_
            refine ax_dup2 dB_goOn_132 rfl rfl ?_
            refine ax_iald dB_goOn_133 sX_51 q2.1 q2.2 ?_
            refine ax_iconst dB_goOn_134 (by decide) ?_
            obtain ⟨q3, h⟩ := h
            refine ax_iadd dB_goOn_135 q3 ?_
            refine ax_iast dB_goOn_136 sX_51 (by omega) (by omega) ?_
            refine ax_iinc (j := 3) dB_goOn_137 rfl (by decide) (show ax_r _ from ⟨by omega, by omega⟩) rfl ?_
            refine ax_goto (tgt := 7) dB_goOn_140 (by decide) ?_
            exact ax_sub [2, 3, 0] rfl h
          · replace h := h.2 c7
            refine ax_aloadn 1 dB_goOn_96 rfl rfl ?_
            refine ax_getr dB_goOn_97 fB_38 sX_44 rfl ?_
            refine ax_iloadn 3 dB_goOn_100 rfl rfl ?_
            refine ax_iconst dB_goOn_101 (by decide) ?_
            refine ax_iadd dB_goOn_102 (show ax_r _ from ⟨by omega, by omega⟩) ?_
            obtain ⟨q4, h⟩ := h
            refine ax_iald dB_goOn_103 sX_53 q4.1 q4.2 ?_
            refine ax_iconst dB_goOn_104 (by decide) ?_
            refine ax_icmp_ne (tgt := 127) dB_goOn_105 (by decide) (fun c6 => ?_) (fun c6 => ?_)
            · replace h := h.1 c6
              refine ax_aloadn 1 dB_goOn_127 rfl rfl ?_
              refine ax_getr dB_goOn_128 fB_30 sX_44 rfl ?_
              refine ax_iloadn 0 dB_goOn_131 rfl rfl ?_
              refine ax_dup2 dB_goOn_132 rfl rfl ?_
              refine ax_iald dB_goOn_133 sX_51 q2.1 q2.2 ?_
              refine ax_iconst dB_goOn_134 (by decide) ?_
              obtain ⟨q5, h⟩ := h
              refine ax_iadd dB_goOn_135 q5 ?_
              refine ax_iast dB_goOn_136 sX_51 (by omega) (by omega) ?_
              refine ax_iinc (j := 3) dB_goOn_137 rfl (by decide) (show ax_r _ from ⟨by omega, by omega⟩) rfl ?_
              refine ax_goto (tgt := 7) dB_goOn_140 (by decide) ?_
              exact ax_sub [2, 3, 0] rfl h
            · replace h := h.2 c6
              refine ax_aloadn 1 dB_goOn_108 rfl rfl ?_
              refine ax_getr dB_goOn_109 fB_38 sX_44 rfl ?_
              refine ax_iloadn 3 dB_goOn_112 rfl rfl ?_
              refine ax_iconst dB_goOn_113 (by decide) ?_
              refine ax_iadd dB_goOn_114 (show ax_r _ from ⟨by omega, by omega⟩) ?_
              refine ax_iloadn 0 dB_goOn_115 rfl rfl ?_
              refine ax_iast dB_goOn_116 sX_53 (by omega) (by omega) ?_
              refine ax_aloadn 1 dB_goOn_117 rfl rfl ?_
              refine ax_getr dB_goOn_118 fB_38 sX_44 rfl ?_
              refine ax_iloadn 3 dB_goOn_121 rfl rfl ?_
              refine ax_iconst dB_goOn_122 (by decide) ?_
              refine ax_iast dB_goOn_123 sX_53 (by omega) (by omega) ?_
              refine ax_goto (tgt := 137) dB_goOn_124 (by decide) ?_
              refine ax_iinc (j := 3) dB_goOn_137 rfl (by decide) (show ax_r _ from ⟨by omega, by omega⟩) rfl ?_
              refine ax_goto (tgt := 7) dB_goOn_140 (by decide) ?_
              exact ax_sub [2, 3, 0] rfl h
        · replace h := h.2 c12
          refine ax_aloadn 1 dB_goOn_65 rfl rfl ?_
          refine ax_getr dB_goOn_66 fB_24 sX_44 rfl ?_
          refine ax_iloadn 0 dB_goOn_69 rfl rfl ?_
          refine ax_aloadn 1 dB_goOn_70 rfl rfl ?_
          refine ax_iloadn 0 dB_goOn_71 rfl rfl ?_
          refine ax_callV (dp2 := 1) (as := [.inl (M 53 (v2.toNat))]) (st := [.inl (M 53 (v2.toNat)), .inr (.inr 49)]) dB_goOn_72 lB_114 sX_44 ⟨_, _, rfl⟩ rfl rfl (Nat.le_of_ble_eq_true rfl) (by decide) ?_
          refine ax_C_mono (fun r8 M9 h => ?_) h
          refine ax_iast dB_goOn_75 sX_49 (by omega) (by omega) ?_
          refine ax_aloadn 1 dB_goOn_76 rfl rfl ?_
          refine ax_iloadn 0 dB_goOn_77 rfl rfl ?_
          refine ax_iloadn 3 dB_goOn_78 rfl rfl ?_
          refine ax_iloadn 2 dB_goOn_79 rfl rfl ?_
          refine ax_callV (dp2 := 0) (as := [.inl (M 53 (v2.toNat)), .inl v2, .inl v1]) (st := []) dB_goOn_80 lB_111 sX_44 ⟨_, _, rfl⟩ rfl rfl (Nat.le_of_ble_eq_true rfl) (by decide) ?_
          refine ax_C_mono (fun _ M11 h => ?_) h
          refine ax_goto (tgt := 137) dB_goOn_83 (by decide) ?_
          refine ax_iinc (j := 3) dB_goOn_137 rfl (by decide) (show ax_r _ from ⟨by omega, by omega⟩) rfl ?_
          refine ax_goto (tgt := 7) dB_goOn_140 (by decide) ?_
          exact ax_sub [2, 3, 0] rfl h
      · replace h := h.2 c16
        refine ax_aloadn 1 dB_goOn_35 rfl rfl ?_
        refine ax_getr dB_goOn_36 fB_24 sX_44 rfl ?_
        refine ax_iloadn 0 dB_goOn_39 rfl rfl ?_
        refine ax_dup2 dB_goOn_40 rfl rfl ?_
        refine ax_iald dB_goOn_41 sX_49 q2.1 q2.2 ?_
        refine ax_iconst dB_goOn_42 (by decide) ?_
        obtain ⟨q13, h⟩ := h
        refine ax_isub dB_goOn_43 q13 ?_
        refine ax_iast dB_goOn_44 sX_49 (by omega) (by omega) ?_
        refine ax_aloadn 1 dB_goOn_45 rfl rfl ?_
        refine ax_iloadn 0 dB_goOn_46 rfl rfl ?_
        refine ax_iloadn 3 dB_goOn_47 rfl rfl ?_
        refine ax_iloadn 2 dB_goOn_48 rfl rfl ?_
        refine ax_callV (dp2 := 0) (as := [.inl (M 53 (v2.toNat)), .inl v2, .inl v1]) (st := []) dB_goOn_49 lB_111 sX_44 ⟨_, _, rfl⟩ rfl rfl (Nat.le_of_ble_eq_true rfl) (by decide) ?_
        refine ax_C_mono (fun _ M15 h => ?_) h
        refine ax_goto (tgt := 137) dB_goOn_52 (by decide) ?_
        refine ax_iinc (j := 3) dB_goOn_137 rfl (by decide) (show ax_r _ from ⟨by omega, by omega⟩) rfl ?_
        refine ax_goto (tgt := 7) dB_goOn_140 (by decide) ?_
        exact ax_sub [2, 3, 0] rfl h
    · replace h := h.2 c17
      refine ax_goto (tgt := 137) dB_goOn_23 (by decide) ?_
      refine ax_iinc (j := 3) dB_goOn_137 rfl (by decide) (show ax_r _ from ⟨by omega, by omega⟩) rfl ?_
      refine ax_goto (tgt := 7) dB_goOn_140 (by decide) ?_
      exact ax_sub [2, 3, 0] rfl h
theorem eB_goOn {P : Int → ax_Mem → Prop} {M : ax_Mem} {a1 : Int} (h : (-2147483648 ≤ ((M 44 10) - 1) ∧ ((M 44 10) - 1) < 2147483648) ∧ jB_goOn P 7 [(0, .inr (.inr 44)), (1, .inl a1), (2, .inl ((M 44 10) - 1))] [] M) : kB_goOn [.inr (.inr 44), .inl a1] M P := ax_ofJ (by decide) (Nat.le_of_ble_eq_true rfl) (gB_goOn_0 h)
-- B_run dp 3
theorem gB_run_0 {P : Int → ax_Mem → Prop} {M : ax_Mem} {a2 : Int} (h : kB_begin [.inr (.inr 44), .inr (.inr 40)] M (fun _ M2 => jB_run P 19 [(0, .inr (.inr 44)), (3, .inl 0), (4, .inl (min a2 9999)), (5, .inl 1)] [] M2)) : jB_run P 0 [(0, .inr (.inr 44)), (1, .inr (.inr 40)), (2, .inl a2)] [] M := by
  refine ax_aloadn 0 dB_run_0 rfl rfl ?_
  refine ax_aloadn 1 dB_run_1 rfl rfl ?_
  refine ax_callV (dp2 := 0) (as := [.inr (.inr 40)]) (st := []) dB_run_2 lB_91 sX_44 ⟨_, _, rfl⟩ rfl rfl (Nat.le_of_ble_eq_true rfl) (by decide) ?_
  refine ax_C_mono (fun _ M2 h => ?_) h
  refine ax_iconst dB_run_5 (by decide) ?_
  refine ax_istoren dB_run_6 rfl (by decide) rfl ?_
  refine ax_iloadn 3 dB_run_7 rfl rfl ?_
  refine ax_sipush dB_run_8 (by decide) ?_
  refine ax_mmin dB_run_11 mB_75 (Nat.le_of_ble_eq_true rfl) (by decide) ?_
  refine ax_istore dB_run_14 (by decide) rfl ?_
  refine ax_iconst dB_run_16 (by decide) ?_
  refine ax_istore dB_run_17 (by decide) rfl ?_
  exact ax_sub [3, 2, 1, 0] rfl h
theorem gB_run_19 {P : Int → ax_Mem → Prop} {M : ax_Mem} {v3 v4 v5 : Int} (h : (v4 < v5 → P 0 M) ∧ (¬ v4 < v5 → ((M 44 12) ≤ (M 44 13) → P 0 M) ∧ (¬ (M 44 12) ≤ (M 44 13) → kB_goOn [.inr (.inr 44), .inl v5] M (fun _ M2 => ((M2 44 12) ≤ v3 → (-2147483648 ≤ (v5 + 1) ∧ (v5 + 1) < 2147483648) ∧ jB_run P 19 [(0, .inr (.inr 44)), (3, .inl v3), (4, .inl v4), (5, .inl (v5 + 1))] [] M2) ∧ (¬ (M2 44 12) ≤ v3 → (¬ (M2 53 0) = (-1) → (-2147483648 ≤ (v5 + 1) ∧ (v5 + 1) < 2147483648) ∧ jB_run P 19 [(0, .inr (.inr 44)), (3, .inl v3), (4, .inl v4), (5, .inl (v5 + 1))] [] M2) ∧ ((M2 53 0) = (-1) → (0 ≤ v3 ∧ v3 < 12) ∧ (-2147483648 ≤ (v5 + 1) ∧ (v5 + 1) < 2147483648) ∧ jB_run P 19 [(0, .inr (.inr 44)), (3, .inl (v3 + 1)), (4, .inl v4), (5, .inl (v5 + 1))] [] (ax_u M2 53 0 (M2 47 (v3.toNat))))))))) : jB_run P 19 [(0, .inr (.inr 44)), (3, .inl v3), (4, .inl v4), (5, .inl v5)] [] M := by
  refine ax_iload 3 dB_run_19 rfl ?_
  refine ax_iload 2 dB_run_21 rfl ?_
  refine ax_icmp_gt (tgt := 82) dB_run_23 (by decide) (fun c10 => ?_) (fun c10 => ?_)
  · replace h := h.1 c10
    exact ax_vret dB_run_82 h
  · replace h := h.2 c10
    refine ax_aloadn 0 dB_run_26 rfl rfl ?_
    refine ax_geti dB_run_27 fB_85 sX_44 rfl ?_
    refine ax_aloadn 0 dB_run_30 rfl rfl ?_
    refine ax_geti dB_run_31 fB_88 sX_44 rfl ?_
    refine ax_icmp_ge (tgt := 82) dB_run_34 (by decide) (fun c9 => ?_) (fun c9 => ?_)
    · replace h := h.1 c9
      exact ax_vret dB_run_82 h
    · replace h := h.2 c9
      refine ax_aloadn 0 dB_run_37 rfl rfl ?_
      refine ax_iload 3 dB_run_38 rfl ?_
      refine ax_callV (dp2 := 2) (as := [.inl v5]) (st := []) dB_run_40 lB_95 sX_44 ⟨_, _, rfl⟩ rfl rfl (Nat.le_of_ble_eq_true rfl) (by decide) ?_
      refine ax_C_mono (fun _ M2 h => ?_) h
      refine ax_iloadn 1 dB_run_43 rfl rfl ?_
      refine ax_aloadn 0 dB_run_44 rfl rfl ?_
      refine ax_geti dB_run_45 fB_88 sX_44 rfl ?_
      refine ax_icmp_ge (tgt := 76) dB_run_48 (by decide) (fun c8 => ?_) (fun c8 => ?_)
      · replace h := h.1 c8
        obtain ⟨q3, h⟩ := h
        refine ax_iinc (j := 3) dB_run_76 rfl (by decide) q3 rfl ?_
        refine ax_goto (tgt := 19) dB_run_79 (by decide) ?_
        exact ax_sub [1, 2, 3, 0] rfl h
      · replace h := h.2 c8
        refine ax_aloadn 0 dB_run_51 rfl rfl ?_
        refine ax_getr dB_run_52 fB_38 sX_44 rfl ?_
        refine ax_iconst dB_run_55 (by decide) ?_
        refine ax_iald dB_run_56 sX_53 (by decide) (by decide) ?_
        refine ax_iconst dB_run_57 (by decide) ?_
        refine ax_icmp_ne (tgt := 76) dB_run_58 (by decide) (fun c7 => ?_) (fun c7 => ?_)
        · replace h := h.1 c7
          obtain ⟨q4, h⟩ := h
          refine ax_iinc (j := 3) dB_run_76 rfl (by decide) q4 rfl ?_
          refine ax_goto (tgt := 19) dB_run_79 (by decide) ?_
          exact ax_sub [1, 2, 3, 0] rfl h
        · replace h := h.2 c7
          refine ax_aloadn 0 dB_run_61 rfl rfl ?_
          refine ax_getr dB_run_62 fB_38 sX_44 rfl ?_
          refine ax_iconst dB_run_65 (by decide) ?_
          refine ax_aloadn 0 dB_run_66 rfl rfl ?_
          refine ax_getr dB_run_67 fB_18 sX_44 rfl ?_
          refine ax_iloadn 1 dB_run_70 rfl rfl ?_
          obtain ⟨q5, h⟩ := h
          refine ax_iald dB_run_71 sX_47 q5.1 q5.2 ?_
          refine ax_iast dB_run_72 sX_53 (by decide) (by decide) ?_
          refine ax_iinc (j := 1) dB_run_73 rfl (by decide) (show ax_r _ from ⟨by omega, by omega⟩) rfl ?_
          obtain ⟨q6, h⟩ := h
          refine ax_iinc (j := 3) dB_run_76 rfl (by decide) q6 rfl ?_
          refine ax_goto (tgt := 19) dB_run_79 (by decide) ?_
          exact ax_sub [2, 1, 3, 0] rfl h
theorem eB_run {P : Int → ax_Mem → Prop} {M : ax_Mem} {a2 : Int} (h : kB_begin [.inr (.inr 44), .inr (.inr 40)] M (fun _ M2 => jB_run P 19 [(0, .inr (.inr 44)), (3, .inl 0), (4, .inl (min a2 9999)), (5, .inl 1)] [] M2)) : kB_run [.inr (.inr 44), .inr (.inr 40), .inl a2] M P := ax_ofJ (by decide) (Nat.le_of_ble_eq_true rfl) (gB_run_0 h)
-- B_isThrough dp 4
theorem gB_isThrough_0 {P : Int → ax_Mem → Prop} {M : ax_Mem} {a2 : Int} (h : kB_run [.inr (.inr 44), .inr (.inr 40), .inl a2] M (fun _ M2 => (¬ (M2 44 13) = (M2 44 12) → P 0 M2) ∧ ((M2 44 13) = (M2 44 12) → P 1 M2))) : jB_isThrough P 0 [(0, .inr (.inr 44)), (1, .inr (.inr 40)), (2, .inl a2)] [] M := by
  refine ax_aloadn 0 dB_isThrough_0 rfl rfl ?_
  refine ax_aloadn 1 dB_isThrough_1 rfl rfl ?_
  refine ax_iloadn 2 dB_isThrough_2 rfl rfl ?_
  refine ax_callV (dp2 := 3) (as := [.inr (.inr 40), .inl a2]) (st := []) dB_isThrough_3 lB_81 sX_44 ⟨_, _, rfl⟩ rfl rfl (Nat.le_of_ble_eq_true rfl) (by decide) ?_
  refine ax_C_mono (fun _ M2 h => ?_) h
  refine ax_aloadn 0 dB_isThrough_6 rfl rfl ?_
  refine ax_geti dB_isThrough_7 fB_85 sX_44 rfl ?_
  refine ax_aloadn 0 dB_isThrough_10 rfl rfl ?_
  refine ax_geti dB_isThrough_11 fB_88 sX_44 rfl ?_
  refine ax_icmp_ne (tgt := 21) dB_isThrough_14 (by decide) (fun c3 => ?_) (fun c3 => ?_)
  · replace h := h.1 c3
    refine ax_iconst dB_isThrough_21 (by decide) ?_
    exact ax_zret dB_isThrough_22 (by decide) h
  · replace h := h.2 c3
    refine ax_iconst dB_isThrough_17 (by decide) ?_
    refine ax_goto (tgt := 22) dB_isThrough_18 (by decide) ?_
    exact ax_zret dB_isThrough_22 (by decide) h
theorem eB_isThrough {P : Int → ax_Mem → Prop} {M : ax_Mem} {a2 : Int} (h : kB_run [.inr (.inr 44), .inr (.inr 40), .inl a2] M (fun _ M2 => (¬ (M2 44 13) = (M2 44 12) → P 0 M2) ∧ ((M2 44 13) = (M2 44 12) → P 1 M2))) : kB_isThrough [.inr (.inr 44), .inr (.inr 40), .inl a2] M P := ax_ofJ (by decide) (Nat.le_of_ble_eq_true rfl) (gB_isThrough_0 h)
-- B_tell dp 0
theorem gB_tell_0 {P : Int → ax_Mem → Prop} {M : ax_Mem} {a1 : Int} (h : (¬ a1 = 0 → (¬ a1 = 1 → jB_tell P 23 [(0, .inr (.inr 44)), (2, .inl 0), (3, .inl 0)] [] M) ∧ (a1 = 1 → P (M 44 14) M)) ∧ (a1 = 0 → P (M 44 15) M)) : jB_tell P 0 [(0, .inr (.inr 44)), (1, .inl a1)] [] M := by
  refine ax_iloadn 1 dB_tell_0 rfl rfl ?_
  refine ax_if_ne (tgt := 9) dB_tell_1 (by decide) (fun c2 => ?_) (fun c2 => ?_)
  · replace h := h.1 c2
    refine ax_iloadn 1 dB_tell_9 rfl rfl ?_
    refine ax_iconst dB_tell_10 (by decide) ?_
    refine ax_icmp_ne (tgt := 19) dB_tell_11 (by decide) (fun c1 => ?_) (fun c1 => ?_)
    · replace h := h.1 c1
      refine ax_iconst dB_tell_19 (by decide) ?_
      refine ax_istoren dB_tell_20 rfl (by decide) rfl ?_
      refine ax_iconst dB_tell_21 (by decide) ?_
      refine ax_istoren dB_tell_22 rfl (by decide) rfl ?_
      exact ax_sub [2, 1, 0] rfl h
    · replace h := h.2 c1
      refine ax_aloadn 0 dB_tell_14 rfl rfl ?_
      refine ax_geti dB_tell_15 fB_99 sX_44 rfl ?_
      exact ax_iret dB_tell_18 h
  · replace h := h.2 c2
    refine ax_aloadn 0 dB_tell_4 rfl rfl ?_
    refine ax_geti dB_tell_5 fB_102 sX_44 rfl ?_
    exact ax_iret dB_tell_8 h
theorem gB_tell_23 {P : Int → ax_Mem → Prop} {M : ax_Mem} {v2 v3 : Int} (h : ((M 44 12) ≤ v3 → P v2 M) ∧ (¬ (M 44 12) ≤ v3 → (0 ≤ v3 ∧ v3 < 12) ∧ (0 ≤ (M 47 (v3.toNat)) ∧ (M 47 (v3.toNat)) < 12) ∧ (-2147483648 ≤ (v2 + (M 51 ((M 47 (v3.toNat)).toNat))) ∧ (v2 + (M 51 ((M 47 (v3.toNat)).toNat))) < 2147483648) ∧ jB_tell P 23 [(0, .inr (.inr 44)), (2, .inl (v2 + (M 51 ((M 47 (v3.toNat)).toNat)))), (3, .inl (v3 + 1))] [] M)) : jB_tell P 23 [(0, .inr (.inr 44)), (2, .inl v2), (3, .inl v3)] [] M := by
  refine ax_iloadn 2 dB_tell_23 rfl rfl ?_
  refine ax_aloadn 0 dB_tell_24 rfl rfl ?_
  refine ax_geti dB_tell_25 fB_88 sX_44 rfl ?_
  refine ax_icmp_ge (tgt := 51) dB_tell_28 (by decide) (fun c4 => ?_) (fun c4 => ?_)
  · replace h := h.1 c4
    refine ax_iloadn 1 dB_tell_51 rfl rfl ?_
    exact ax_iret dB_tell_52 h
  · replace h := h.2 c4
    refine ax_iloadn 1 dB_tell_31 rfl rfl ?_
    refine ax_aloadn 0 dB_tell_32 rfl rfl ?_
    refine ax_getr dB_tell_33 fB_30 sX_44 rfl ?_
    refine ax_aloadn 0 dB_tell_36 rfl rfl ?_
    refine ax_getr dB_tell_37 fB_18 sX_44 rfl ?_
    refine ax_iloadn 2 dB_tell_40 rfl rfl ?_
    obtain ⟨q1, h⟩ := h
    refine ax_iald dB_tell_41 sX_47 q1.1 q1.2 ?_
    obtain ⟨q2, h⟩ := h
    refine ax_iald dB_tell_42 sX_51 q2.1 q2.2 ?_
    obtain ⟨q3, h⟩ := h
    refine ax_iadd dB_tell_43 q3 ?_
    refine ax_istoren dB_tell_44 rfl (by decide) rfl ?_
    refine ax_iinc (j := 2) dB_tell_45 rfl (by decide) (show ax_r _ from ⟨by omega, by omega⟩) rfl ?_
    refine ax_goto (tgt := 23) dB_tell_48 (by decide) ?_
    exact ax_sub [2, 1, 0] rfl h
theorem eB_tell {P : Int → ax_Mem → Prop} {M : ax_Mem} {a1 : Int} (h : (¬ a1 = 0 → (¬ a1 = 1 → jB_tell P 23 [(0, .inr (.inr 44)), (2, .inl 0), (3, .inl 0)] [] M) ∧ (a1 = 1 → P (M 44 14) M)) ∧ (a1 = 0 → P (M 44 15) M)) : kB_tell [.inr (.inr 44), .inl a1] M P := ax_ofJ (by decide) (Nat.le_of_ble_eq_true rfl) (gB_tell_0 h)
-- B_tellOf dp 0
theorem gB_tellOf_0 {P : Int → ax_Mem → Prop} {M : ax_Mem} {a1 a2 : Int} (h : (¬ a2 = 0 → (¬ a2 = 1 → (0 ≤ a1 ∧ a1 < 12) ∧ (-2147483648 ≤ (a2 - 2) ∧ (a2 - 2) < 2147483648) ∧ (0 ≤ (a2 - 2) ∧ (a2 - 2) < 3) ∧ P (M (54 + a1.toNat) ((a2 - 2).toNat)) M) ∧ (a2 = 1 → (0 ≤ a1 ∧ a1 < 12) ∧ P (M 51 (a1.toNat)) M)) ∧ (a2 = 0 → (0 ≤ a1 ∧ a1 < 12) ∧ P (M 50 (a1.toNat)) M)) : jB_tellOf P 0 [(0, .inr (.inr 44)), (1, .inl a1), (2, .inl a2)] [] M := by
  refine ax_iloadn 2 dB_tellOf_0 rfl rfl ?_
  refine ax_if_ne (tgt := 11) dB_tellOf_1 (by decide) (fun c7 => ?_) (fun c7 => ?_)
  · replace h := h.1 c7
    refine ax_iloadn 2 dB_tellOf_11 rfl rfl ?_
    refine ax_iconst dB_tellOf_12 (by decide) ?_
    refine ax_icmp_ne (tgt := 25) dB_tellOf_13 (by decide) (fun c5 => ?_) (fun c5 => ?_)
    · replace h := h.1 c5
      refine ax_aloadn 0 dB_tellOf_25 rfl rfl ?_
      refine ax_getr dB_tellOf_26 fB_35 sX_44 rfl ?_
      refine ax_iloadn 1 dB_tellOf_29 rfl rfl ?_
      obtain ⟨q1, h⟩ := h
      refine ax_aald dB_tellOf_30 (Or.inr rfl) sX_52 q1.1 (sX_bins (ax_tn q1)) ?_
      refine ax_iloadn 2 dB_tellOf_31 rfl rfl ?_
      refine ax_iconst dB_tellOf_32 (by decide) ?_
      obtain ⟨q2, h⟩ := h
      refine ax_isub dB_tellOf_33 q2 ?_
      obtain ⟨q3, h⟩ := h
      refine ax_iald dB_tellOf_34 (sX_bin (ax_tn q1)) q3.1 q3.2 ?_
      exact ax_iret dB_tellOf_35 h
    · replace h := h.2 c5
      refine ax_aloadn 0 dB_tellOf_16 rfl rfl ?_
      refine ax_getr dB_tellOf_17 fB_30 sX_44 rfl ?_
      refine ax_iloadn 1 dB_tellOf_20 rfl rfl ?_
      obtain ⟨q4, h⟩ := h
      refine ax_iald dB_tellOf_21 sX_51 q4.1 q4.2 ?_
      refine ax_goto (tgt := 35) dB_tellOf_22 (by decide) ?_
      exact ax_iret dB_tellOf_35 h
  · replace h := h.2 c7
    refine ax_aloadn 0 dB_tellOf_4 rfl rfl ?_
    refine ax_getr dB_tellOf_5 fB_27 sX_44 rfl ?_
    refine ax_iloadn 1 dB_tellOf_8 rfl rfl ?_
    obtain ⟨q6, h⟩ := h
    refine ax_iald dB_tellOf_9 sX_50 q6.1 q6.2 ?_
    exact ax_iret dB_tellOf_10 h
theorem eB_tellOf {P : Int → ax_Mem → Prop} {M : ax_Mem} {a1 a2 : Int} (h : (¬ a2 = 0 → (¬ a2 = 1 → (0 ≤ a1 ∧ a1 < 12) ∧ (-2147483648 ≤ (a2 - 2) ∧ (a2 - 2) < 2147483648) ∧ (0 ≤ (a2 - 2) ∧ (a2 - 2) < 3) ∧ P (M (54 + a1.toNat) ((a2 - 2).toNat)) M) ∧ (a2 = 1 → (0 ≤ a1 ∧ a1 < 12) ∧ P (M 51 (a1.toNat)) M)) ∧ (a2 = 0 → (0 ≤ a1 ∧ a1 < 12) ∧ P (M 50 (a1.toNat)) M)) : kB_tellOf [.inr (.inr 44), .inl a1, .inl a2] M P := ax_ofJ (by decide) (Nat.le_of_ble_eq_true rfl) (gB_tellOf_0 h)
-- C_build dp 0
theorem gC_build_0 {P : Int → ax_Mem → Prop} {M : ax_Mem} {a1 a2 a3 : Int} (h : (-2147483648 ≤ ((M 1 3) + 1) ∧ ((M 1 3) + 1) < 2147483648) ∧ P 0 (ax_u (ax_u (ax_u (ax_u M 1 0 a1) 1 1 a2) 1 2 a3) 1 3 ((M 1 3) + 1))) : jC_build P 0 [(0, .inr (.inr 1)), (1, .inl a1), (2, .inl a2), (3, .inl a3)] [] M := by
  refine ax_aloadn 0 dC_build_0 rfl rfl ?_
  refine ax_iloadn 1 dC_build_1 rfl rfl ?_
  refine ax_puti dC_build_2 pC_7 sX_1 rfl ?_
  refine ax_aloadn 0 dC_build_5 rfl rfl ?_
  refine ax_iloadn 2 dC_build_6 rfl rfl ?_
  refine ax_puti dC_build_7 pC_13 sX_1 rfl ?_
  refine ax_aloadn 0 dC_build_10 rfl rfl ?_
  refine ax_iloadn 3 dC_build_11 rfl rfl ?_
  refine ax_puti dC_build_12 pC_16 sX_1 rfl ?_
  refine ax_aloadn 0 dC_build_15 rfl rfl ?_
  refine ax_dup dC_build_16 rfl ?_
  refine ax_geti dC_build_17 fC_19 sX_1 rfl ?_
  refine ax_top (x' := M 1 3) (by first | rfl | exact ax_u_at _ _ _ _) ?_
  refine ax_iconst dC_build_20 (by decide) ?_
  obtain ⟨q1, h⟩ := h
  refine ax_iadd dC_build_21 q1 ?_
  refine ax_puti dC_build_22 pC_19 sX_1 rfl ?_
  exact ax_vret dC_build_25 h
theorem eC_build {P : Int → ax_Mem → Prop} {M : ax_Mem} {a1 a2 a3 : Int} (h : (-2147483648 ≤ ((M 1 3) + 1) ∧ ((M 1 3) + 1) < 2147483648) ∧ P 0 (ax_u (ax_u (ax_u (ax_u M 1 0 a1) 1 1 a2) 1 2 a3) 1 3 ((M 1 3) + 1))) : kC_build [.inr (.inr 1), .inl a1, .inl a2, .inl a3] M P := ax_ofJ (by decide) (Nat.le_of_ble_eq_true rfl) (gC_build_0 h)
-- C_isMissing dp 0
theorem gC_isMissing_0 {P : Int → ax_Mem → Prop} {M : ax_Mem} (h : (¬ (M 1 0) = 0 → P 0 M) ∧ ((M 1 0) = 0 → P 1 M)) : jC_isMissing P 0 [(0, .inr (.inr 1))] [] M := by
  refine ax_aloadn 0 dC_isMissing_0 rfl rfl ?_
  refine ax_geti dC_isMissing_1 fC_7 sX_1 rfl ?_
  refine ax_if_ne (tgt := 11) dC_isMissing_4 (by decide) (fun c1 => ?_) (fun c1 => ?_)
  · replace h := h.1 c1
    refine ax_iconst dC_isMissing_11 (by decide) ?_
    exact ax_zret dC_isMissing_12 (by decide) h
  · replace h := h.2 c1
    refine ax_iconst dC_isMissing_7 (by decide) ?_
    refine ax_goto (tgt := 12) dC_isMissing_8 (by decide) ?_
    exact ax_zret dC_isMissing_12 (by decide) h
theorem eC_isMissing {P : Int → ax_Mem → Prop} {M : ax_Mem} (h : (¬ (M 1 0) = 0 → P 0 M) ∧ ((M 1 0) = 0 → P 1 M)) : kC_isMissing [.inr (.inr 1)] M P := ax_ofJ (by decide) (Nat.le_of_ble_eq_true rfl) (gC_isMissing_0 h)
-- C_seats dp 0
theorem gC_seats_0 {P : Int → ax_Mem → Prop} {M : ax_Mem} (h : (-2147483648 ≤ (2 * (M 1 0)) ∧ (2 * (M 1 0)) < 2147483648) ∧ (-2147483648 ≤ ((2 * (M 1 0)) * (M 1 1)) ∧ ((2 * (M 1 0)) * (M 1 1)) < 2147483648) ∧ P ((2 * (M 1 0)) * (M 1 1)) M) : jC_seats P 0 [(0, .inr (.inr 1))] [] M := by
  refine ax_iconst dC_seats_0 (by decide) ?_
  refine ax_aloadn 0 dC_seats_1 rfl rfl ?_
  refine ax_geti dC_seats_2 fC_7 sX_1 rfl ?_
  obtain ⟨q1, h⟩ := h
  refine ax_imul dC_seats_5 q1 ?_
  refine ax_aloadn 0 dC_seats_6 rfl rfl ?_
  refine ax_geti dC_seats_7 fC_13 sX_1 rfl ?_
  obtain ⟨q2, h⟩ := h
  refine ax_imul dC_seats_10 q2 ?_
  exact ax_iret dC_seats_11 h
theorem eC_seats {P : Int → ax_Mem → Prop} {M : ax_Mem} (h : (-2147483648 ≤ (2 * (M 1 0)) ∧ (2 * (M 1 0)) < 2147483648) ∧ (-2147483648 ≤ ((2 * (M 1 0)) * (M 1 1)) ∧ ((2 * (M 1 0)) * (M 1 1)) < 2147483648) ∧ P ((2 * (M 1 0)) * (M 1 1)) M) : kC_seats [.inr (.inr 1)] M P := ax_ofJ (by decide) (Nat.le_of_ble_eq_true rfl) (gC_seats_0 h)
-- X_outside dp 0
theorem gX_outside_0 {P : Int → ax_Mem → Prop} {M : ax_Mem} {a1 a2 a3 : Int} (h : (a1 < a2 → P 1 M) ∧ (¬ a1 < a2 → (a1 ≤ a3 → P 0 M) ∧ (¬ a1 ≤ a3 → P 1 M))) : jX_outside P 0 [(0, .inl a1), (1, .inl a2), (2, .inl a3)] [] M := by
  refine ax_iloadn 0 dX_outside_0 rfl rfl ?_
  refine ax_iloadn 1 dX_outside_1 rfl rfl ?_
  refine ax_icmp_lt (tgt := 10) dX_outside_2 (by decide) (fun c2 => ?_) (fun c2 => ?_)
  · replace h := h.1 c2
    refine ax_iconst dX_outside_10 (by decide) ?_
    refine ax_goto (tgt := 15) dX_outside_11 (by decide) ?_
    exact ax_zret dX_outside_15 (by decide) h
  · replace h := h.2 c2
    refine ax_iloadn 0 dX_outside_5 rfl rfl ?_
    refine ax_iloadn 2 dX_outside_6 rfl rfl ?_
    refine ax_icmp_le (tgt := 14) dX_outside_7 (by decide) (fun c1 => ?_) (fun c1 => ?_)
    · replace h := h.1 c1
      refine ax_iconst dX_outside_14 (by decide) ?_
      exact ax_zret dX_outside_15 (by decide) h
    · replace h := h.2 c1
      refine ax_iconst dX_outside_10 (by decide) ?_
      refine ax_goto (tgt := 15) dX_outside_11 (by decide) ?_
      exact ax_zret dX_outside_15 (by decide) h
theorem eX_outside {P : Int → ax_Mem → Prop} {M : ax_Mem} {a1 a2 a3 : Int} (h : (a1 < a2 → P 1 M) ∧ (¬ a1 < a2 → (a1 ≤ a3 → P 0 M) ∧ (¬ a1 ≤ a3 → P 1 M))) : kX_outside [.inl a1, .inl a2, .inl a3] M P := ax_ofJ (by decide) (Nat.le_of_ble_eq_true rfl) (gX_outside_0 h)
-- C_hasSeat dp 1
theorem gC_hasSeat_0 {P : Int → ax_Mem → Prop} {M : ax_Mem} {a1 a2 a3 : Int} (h : (-2147483648 ≤ ((M 1 0) - 1) ∧ ((M 1 0) - 1) < 2147483648) ∧ kX_outside [.inl a1, .inl 0, .inl ((M 1 0) - 1)] M (fun r2 M3 => (¬ r2 = 0 → P 0 M3) ∧ (r2 = 0 → kX_outside [.inl a2, .inl 0, .inl 1] M3 (fun r4 M5 => (¬ r4 = 0 → P 0 M5) ∧ (r4 = 0 → (-2147483648 ≤ ((M5 1 1) - 1) ∧ ((M5 1 1) - 1) < 2147483648) ∧ kX_outside [.inl a3, .inl 0, .inl ((M5 1 1) - 1)] M5 (fun r7 M8 => (¬ r7 = 0 → P 0 M8) ∧ (r7 = 0 → P 1 M8))))))) : jC_hasSeat P 0 [(0, .inr (.inr 1)), (1, .inl a1), (2, .inl a2), (3, .inl a3)] [] M := by
  refine ax_iloadn 1 dC_hasSeat_0 rfl rfl ?_
  refine ax_iconst dC_hasSeat_1 (by decide) ?_
  refine ax_aloadn 0 dC_hasSeat_2 rfl rfl ?_
  refine ax_geti dC_hasSeat_3 fC_7 sX_1 rfl ?_
  refine ax_iconst dC_hasSeat_6 (by decide) ?_
  obtain ⟨q1, h⟩ := h
  refine ax_isub dC_hasSeat_7 q1 ?_
  refine ax_callSN (dp2 := 0) (as := [.inl a1, .inl 0, .inl ((M 1 0) - 1)]) (st := []) dC_hasSeat_8 rfl lC_22 rfl rfl (Nat.le_of_ble_eq_true rfl) (by decide) ?_
  refine ax_C_mono (fun r2 M3 h => ?_) h
  refine ax_if_ne (tgt := 41) dC_hasSeat_11 (by decide) (fun c11 => ?_) (fun c11 => ?_)
  · replace h := h.1 c11
    refine ax_iconst dC_hasSeat_41 (by decide) ?_
    exact ax_zret dC_hasSeat_42 (by decide) h
  · replace h := h.2 c11
    refine ax_iloadn 2 dC_hasSeat_14 rfl rfl ?_
    refine ax_iconst dC_hasSeat_15 (by decide) ?_
    refine ax_iconst dC_hasSeat_16 (by decide) ?_
    refine ax_callSN (dp2 := 0) (as := [.inl a2, .inl 0, .inl 1]) (st := []) dC_hasSeat_17 rfl lC_22 rfl rfl (Nat.le_of_ble_eq_true rfl) (by decide) ?_
    refine ax_C_mono (fun r4 M5 h => ?_) h
    refine ax_if_ne (tgt := 41) dC_hasSeat_20 (by decide) (fun c10 => ?_) (fun c10 => ?_)
    · replace h := h.1 c10
      refine ax_iconst dC_hasSeat_41 (by decide) ?_
      exact ax_zret dC_hasSeat_42 (by decide) h
    · replace h := h.2 c10
      refine ax_iloadn 3 dC_hasSeat_23 rfl rfl ?_
      refine ax_iconst dC_hasSeat_24 (by decide) ?_
      refine ax_aloadn 0 dC_hasSeat_25 rfl rfl ?_
      refine ax_geti dC_hasSeat_26 fC_13 sX_1 rfl ?_
      refine ax_iconst dC_hasSeat_29 (by decide) ?_
      obtain ⟨q6, h⟩ := h
      refine ax_isub dC_hasSeat_30 q6 ?_
      refine ax_callSN (dp2 := 0) (as := [.inl a3, .inl 0, .inl ((M5 1 1) - 1)]) (st := []) dC_hasSeat_31 rfl lC_22 rfl rfl (Nat.le_of_ble_eq_true rfl) (by decide) ?_
      refine ax_C_mono (fun r7 M8 h => ?_) h
      refine ax_if_ne (tgt := 41) dC_hasSeat_34 (by decide) (fun c9 => ?_) (fun c9 => ?_)
      · replace h := h.1 c9
        refine ax_iconst dC_hasSeat_41 (by decide) ?_
        exact ax_zret dC_hasSeat_42 (by decide) h
      · replace h := h.2 c9
        refine ax_iconst dC_hasSeat_37 (by decide) ?_
        refine ax_goto (tgt := 42) dC_hasSeat_38 (by decide) ?_
        exact ax_zret dC_hasSeat_42 (by decide) h
theorem eC_hasSeat {P : Int → ax_Mem → Prop} {M : ax_Mem} {a1 a2 a3 : Int} (h : (-2147483648 ≤ ((M 1 0) - 1) ∧ ((M 1 0) - 1) < 2147483648) ∧ kX_outside [.inl a1, .inl 0, .inl ((M 1 0) - 1)] M (fun r2 M3 => (¬ r2 = 0 → P 0 M3) ∧ (r2 = 0 → kX_outside [.inl a2, .inl 0, .inl 1] M3 (fun r4 M5 => (¬ r4 = 0 → P 0 M5) ∧ (r4 = 0 → (-2147483648 ≤ ((M5 1 1) - 1) ∧ ((M5 1 1) - 1) < 2147483648) ∧ kX_outside [.inl a3, .inl 0, .inl ((M5 1 1) - 1)] M5 (fun r7 M8 => (¬ r7 = 0 → P 0 M8) ∧ (r7 = 0 → P 1 M8))))))) : kC_hasSeat [.inr (.inr 1), .inl a1, .inl a2, .inl a3] M P := ax_ofJ (by decide) (Nat.le_of_ble_eq_true rfl) (gC_hasSeat_0 h)
-- K_read dp 0
theorem gK_read_0 {P : Int → ax_Mem → Prop} {M : ax_Mem} {c : Nat} (hc : c < 8) (h : jK_read P 7 [(0, .inr (.inr (16 + 3 * c))), (1, .inr (.inr 13)), (2, .inl 0)] [] (ax_u M (16 + 3 * c) 2 0)) : jK_read P 0 [(0, .inr (.inr (16 + 3 * c))), (1, .inr (.inr 13))] [] M := by
  refine ax_aloadn 0 dK_read_0 rfl rfl ?_
  refine ax_iconst dK_read_1 (by decide) ?_
  refine ax_puti dK_read_2 pK_19 (sX_call0 hc) rfl ?_
  refine ax_iconst dK_read_5 (by decide) ?_
  refine ax_istoren dK_read_6 rfl (by decide) rfl ?_
  exact ax_sub [1, 2, 0] rfl h
theorem gK_read_7 {P : Int → ax_Mem → Prop} {M : ax_Mem} {v2 : Int} {c : Nat} (hc : c < 8) (h : ((M 13 1) ≤ v2 → P 0 M) ∧ (¬ (M 13 1) ≤ v2 → (0 ≤ v2 ∧ v2 < 16) ∧ (¬ (M 14 (v2.toNat)) = 44 → ((M 14 (v2.toNat)) < 49 → (4 ≤ (M (16 + 3 * c) 2) → jK_read P 7 [(0, .inr (.inr (16 + 3 * c))), (1, .inr (.inr 13)), (2, .inl (v2 + 1))] [] M) ∧ (¬ 4 ≤ (M (16 + 3 * c) 2) → ((0 ≤ (M (16 + 3 * c) 2) ∧ (M (16 + 3 * c) 2) < 4) ∧ (0 ≤ (M 14 (v2.toNat)) ∧ (M 14 (v2.toNat)) < 65536)) ∧ (0 ≤ ((ax_u M (17 + 3 * c) ((M (16 + 3 * c) 2).toNat) (M 14 (v2.toNat))) (16 + 3 * c) 2) ∧ ((ax_u M (17 + 3 * c) ((M (16 + 3 * c) 2).toNat) (M 14 (v2.toNat))) (16 + 3 * c) 2) < 4) ∧ (-2147483648 ≤ (((ax_u (ax_u M (17 + 3 * c) ((M (16 + 3 * c) 2).toNat) (M 14 (v2.toNat))) (18 + 3 * c) (((ax_u M (17 + 3 * c) ((M (16 + 3 * c) 2).toNat) (M 14 (v2.toNat))) (16 + 3 * c) 2).toNat) 1) (16 + 3 * c) 2) + 1) ∧ (((ax_u (ax_u M (17 + 3 * c) ((M (16 + 3 * c) 2).toNat) (M 14 (v2.toNat))) (18 + 3 * c) (((ax_u M (17 + 3 * c) ((M (16 + 3 * c) 2).toNat) (M 14 (v2.toNat))) (16 + 3 * c) 2).toNat) 1) (16 + 3 * c) 2) + 1) < 2147483648) ∧ jK_read P 7 [(0, .inr (.inr (16 + 3 * c))), (1, .inr (.inr 13)), (2, .inl (v2 + 1))] [] (ax_u (ax_u (ax_u M (17 + 3 * c) ((M (16 + 3 * c) 2).toNat) (M 14 (v2.toNat))) (18 + 3 * c) (((ax_u M (17 + 3 * c) ((M (16 + 3 * c) 2).toNat) (M 14 (v2.toNat))) (16 + 3 * c) 2).toNat) 1) (16 + 3 * c) 2 (((ax_u (ax_u M (17 + 3 * c) ((M (16 + 3 * c) 2).toNat) (M 14 (v2.toNat))) (18 + 3 * c) (((ax_u M (17 + 3 * c) ((M (16 + 3 * c) 2).toNat) (M 14 (v2.toNat))) (16 + 3 * c) 2).toNat) 1) (16 + 3 * c) 2) + 1)))) ∧ (¬ (M 14 (v2.toNat)) < 49 → (57 < (M 14 (v2.toNat)) → (4 ≤ (M (16 + 3 * c) 2) → jK_read P 7 [(0, .inr (.inr (16 + 3 * c))), (1, .inr (.inr 13)), (2, .inl (v2 + 1))] [] M) ∧ (¬ 4 ≤ (M (16 + 3 * c) 2) → ((0 ≤ (M (16 + 3 * c) 2) ∧ (M (16 + 3 * c) 2) < 4) ∧ (0 ≤ (M 14 (v2.toNat)) ∧ (M 14 (v2.toNat)) < 65536)) ∧ (0 ≤ ((ax_u M (17 + 3 * c) ((M (16 + 3 * c) 2).toNat) (M 14 (v2.toNat))) (16 + 3 * c) 2) ∧ ((ax_u M (17 + 3 * c) ((M (16 + 3 * c) 2).toNat) (M 14 (v2.toNat))) (16 + 3 * c) 2) < 4) ∧ (-2147483648 ≤ (((ax_u (ax_u M (17 + 3 * c) ((M (16 + 3 * c) 2).toNat) (M 14 (v2.toNat))) (18 + 3 * c) (((ax_u M (17 + 3 * c) ((M (16 + 3 * c) 2).toNat) (M 14 (v2.toNat))) (16 + 3 * c) 2).toNat) 1) (16 + 3 * c) 2) + 1) ∧ (((ax_u (ax_u M (17 + 3 * c) ((M (16 + 3 * c) 2).toNat) (M 14 (v2.toNat))) (18 + 3 * c) (((ax_u M (17 + 3 * c) ((M (16 + 3 * c) 2).toNat) (M 14 (v2.toNat))) (16 + 3 * c) 2).toNat) 1) (16 + 3 * c) 2) + 1) < 2147483648) ∧ jK_read P 7 [(0, .inr (.inr (16 + 3 * c))), (1, .inr (.inr 13)), (2, .inl (v2 + 1))] [] (ax_u (ax_u (ax_u M (17 + 3 * c) ((M (16 + 3 * c) 2).toNat) (M 14 (v2.toNat))) (18 + 3 * c) (((ax_u M (17 + 3 * c) ((M (16 + 3 * c) 2).toNat) (M 14 (v2.toNat))) (16 + 3 * c) 2).toNat) 1) (16 + 3 * c) 2 (((ax_u (ax_u M (17 + 3 * c) ((M (16 + 3 * c) 2).toNat) (M 14 (v2.toNat))) (18 + 3 * c) (((ax_u M (17 + 3 * c) ((M (16 + 3 * c) 2).toNat) (M 14 (v2.toNat))) (16 + 3 * c) 2).toNat) 1) (16 + 3 * c) 2) + 1)))) ∧ (¬ 57 < (M 14 (v2.toNat)) → ((M (16 + 3 * c) 2) ≤ 0 → jK_read P 7 [(0, .inr (.inr (16 + 3 * c))), (1, .inr (.inr 13)), (2, .inl (v2 + 1))] [] M) ∧ (¬ (M (16 + 3 * c) 2) ≤ 0 → (-2147483648 ≤ ((M (16 + 3 * c) 2) - 1) ∧ ((M (16 + 3 * c) 2) - 1) < 2147483648) ∧ (0 ≤ ((M (16 + 3 * c) 2) - 1) ∧ ((M (16 + 3 * c) 2) - 1) < 4) ∧ jK_read P 7 [(0, .inr (.inr (16 + 3 * c))), (1, .inr (.inr 13)), (2, .inl (v2 + 1))] [] (ax_u M (18 + 3 * c) (((M (16 + 3 * c) 2) - 1).toNat) ((M 14 (v2.toNat)) - 48)))))) ∧ ((M 14 (v2.toNat)) = 44 → jK_read P 7 [(0, .inr (.inr (16 + 3 * c))), (1, .inr (.inr 13)), (2, .inl (v2 + 1))] [] M))) : jK_read P 7 [(0, .inr (.inr (16 + 3 * c))), (1, .inr (.inr 13)), (2, .inl v2)] [] M := by
  refine ax_iloadn 2 dK_read_7 rfl rfl ?_
  refine ax_aloadn 1 dK_read_8 rfl rfl ?_
  refine ax_geti dK_read_9 fK_23 sX_13 rfl ?_
  refine ax_icmp_ge (tgt := 112) dK_read_12 (by decide) (fun c16 => ?_) (fun c16 => ?_)
  · replace h := h.1 c16
    exact ax_vret dK_read_112 h
  · replace h := h.2 c16
    refine ax_aloadn 1 dK_read_15 rfl rfl ?_
    refine ax_getr dK_read_16 fK_26 sX_13 rfl ?_
    refine ax_iloadn 2 dK_read_19 rfl rfl ?_
    obtain ⟨q1, h⟩ := h
    refine ax_cald dK_read_20 sX_14 q1.1 q1.2 ?_
    refine ax_istoren dK_read_21 rfl (by decide) rfl ?_
    refine ax_iloadn 0 dK_read_22 rfl rfl ?_
    refine ax_bipush dK_read_23 (by decide) ?_
    refine ax_icmp_ne (tgt := 31) dK_read_25 (by decide) (fun c15 => ?_) (fun c15 => ?_)
    · replace h := h.1 c15
      refine ax_iloadn 0 dK_read_31 rfl rfl ?_
      refine ax_bipush dK_read_32 (by decide) ?_
      refine ax_icmp_lt (tgt := 68) dK_read_34 (by decide) (fun c14 => ?_) (fun c14 => ?_)
      · replace h := h.1 c14
        refine ax_aloadn 1 dK_read_68 rfl rfl ?_
        refine ax_geti dK_read_69 fK_19 (sX_call0 hc) rfl ?_
        refine ax_iconst dK_read_72 (by decide) ?_
        refine ax_icmp_ge (tgt := 106) dK_read_73 (by decide) (fun c5 => ?_) (fun c5 => ?_)
        · replace h := h.1 c5
          refine ax_iinc (j := 3) dK_read_106 rfl (by decide) (show ax_r _ from ⟨by omega, by omega⟩) rfl ?_
          refine ax_goto (tgt := 7) dK_read_109 (by decide) ?_
          exact ax_sub [2, 3, 0] rfl h
        · replace h := h.2 c5
          refine ax_aloadn 1 dK_read_76 rfl rfl ?_
          refine ax_getr dK_read_77 fK_9 (sX_call0 hc) rfl ?_
          refine ax_aloadn 1 dK_read_80 rfl rfl ?_
          refine ax_geti dK_read_81 fK_19 (sX_call0 hc) rfl ?_
          refine ax_iloadn 0 dK_read_84 rfl rfl ?_
          obtain ⟨q2, h⟩ := h
          refine ax_cast dK_read_85 (sX_call1 hc) q2.1.1 q2.1.2 q2.2.1 q2.2.2 ?_
          refine ax_aloadn 1 dK_read_86 rfl rfl ?_
          refine ax_getr dK_read_87 fK_15 (sX_call0 hc) rfl ?_
          refine ax_aloadn 1 dK_read_90 rfl rfl ?_
          refine ax_geti dK_read_91 fK_19 (sX_call0 hc) rfl ?_
          refine ax_iconst dK_read_94 (by decide) ?_
          obtain ⟨q3, h⟩ := h
          refine ax_iast dK_read_95 (sX_call2 hc) q3.1 q3.2 ?_
          refine ax_aloadn 1 dK_read_96 rfl rfl ?_
          refine ax_dup dK_read_97 rfl ?_
          refine ax_geti dK_read_98 fK_19 (sX_call0 hc) rfl ?_
          refine ax_iconst dK_read_101 (by decide) ?_
          obtain ⟨q4, h⟩ := h
          refine ax_iadd dK_read_102 q4 ?_
          refine ax_puti dK_read_103 pK_19 (sX_call0 hc) rfl ?_
          refine ax_iinc (j := 3) dK_read_106 rfl (by decide) (show ax_r _ from ⟨by omega, by omega⟩) rfl ?_
          refine ax_goto (tgt := 7) dK_read_109 (by decide) ?_
          exact ax_sub [2, 3, 0] rfl h
      · replace h := h.2 c14
        refine ax_iloadn 0 dK_read_37 rfl rfl ?_
        refine ax_bipush dK_read_38 (by decide) ?_
        refine ax_icmp_gt (tgt := 68) dK_read_40 (by decide) (fun c13 => ?_) (fun c13 => ?_)
        · replace h := h.1 c13
          refine ax_aloadn 1 dK_read_68 rfl rfl ?_
          refine ax_geti dK_read_69 fK_19 (sX_call0 hc) rfl ?_
          refine ax_iconst dK_read_72 (by decide) ?_
          refine ax_icmp_ge (tgt := 106) dK_read_73 (by decide) (fun c9 => ?_) (fun c9 => ?_)
          · replace h := h.1 c9
            refine ax_iinc (j := 3) dK_read_106 rfl (by decide) (show ax_r _ from ⟨by omega, by omega⟩) rfl ?_
            refine ax_goto (tgt := 7) dK_read_109 (by decide) ?_
            exact ax_sub [2, 3, 0] rfl h
          · replace h := h.2 c9
            refine ax_aloadn 1 dK_read_76 rfl rfl ?_
            refine ax_getr dK_read_77 fK_9 (sX_call0 hc) rfl ?_
            refine ax_aloadn 1 dK_read_80 rfl rfl ?_
            refine ax_geti dK_read_81 fK_19 (sX_call0 hc) rfl ?_
            refine ax_iloadn 0 dK_read_84 rfl rfl ?_
            obtain ⟨q6, h⟩ := h
            refine ax_cast dK_read_85 (sX_call1 hc) q6.1.1 q6.1.2 q6.2.1 q6.2.2 ?_
            refine ax_aloadn 1 dK_read_86 rfl rfl ?_
            refine ax_getr dK_read_87 fK_15 (sX_call0 hc) rfl ?_
            refine ax_aloadn 1 dK_read_90 rfl rfl ?_
            refine ax_geti dK_read_91 fK_19 (sX_call0 hc) rfl ?_
            refine ax_iconst dK_read_94 (by decide) ?_
            obtain ⟨q7, h⟩ := h
            refine ax_iast dK_read_95 (sX_call2 hc) q7.1 q7.2 ?_
            refine ax_aloadn 1 dK_read_96 rfl rfl ?_
            refine ax_dup dK_read_97 rfl ?_
            refine ax_geti dK_read_98 fK_19 (sX_call0 hc) rfl ?_
            refine ax_iconst dK_read_101 (by decide) ?_
            obtain ⟨q8, h⟩ := h
            refine ax_iadd dK_read_102 q8 ?_
            refine ax_puti dK_read_103 pK_19 (sX_call0 hc) rfl ?_
            refine ax_iinc (j := 3) dK_read_106 rfl (by decide) (show ax_r _ from ⟨by omega, by omega⟩) rfl ?_
            refine ax_goto (tgt := 7) dK_read_109 (by decide) ?_
            exact ax_sub [2, 3, 0] rfl h
        · replace h := h.2 c13
          refine ax_aloadn 1 dK_read_43 rfl rfl ?_
          refine ax_geti dK_read_44 fK_19 (sX_call0 hc) rfl ?_
          refine ax_if_le (tgt := 106) dK_read_47 (by decide) (fun c12 => ?_) (fun c12 => ?_)
          · replace h := h.1 c12
            refine ax_iinc (j := 3) dK_read_106 rfl (by decide) (show ax_r _ from ⟨by omega, by omega⟩) rfl ?_
            refine ax_goto (tgt := 7) dK_read_109 (by decide) ?_
            exact ax_sub [2, 3, 0] rfl h
          · replace h := h.2 c12
            refine ax_aloadn 1 dK_read_50 rfl rfl ?_
            refine ax_getr dK_read_51 fK_15 (sX_call0 hc) rfl ?_
            refine ax_aloadn 1 dK_read_54 rfl rfl ?_
            refine ax_geti dK_read_55 fK_19 (sX_call0 hc) rfl ?_
            refine ax_iconst dK_read_58 (by decide) ?_
            obtain ⟨q10, h⟩ := h
            refine ax_isub dK_read_59 q10 ?_
            refine ax_iloadn 0 dK_read_60 rfl rfl ?_
            refine ax_bipush dK_read_61 (by decide) ?_
            refine ax_isub dK_read_63 (show ax_r _ from ⟨by omega, by omega⟩) ?_
            obtain ⟨q11, h⟩ := h
            refine ax_iast dK_read_64 (sX_call2 hc) q11.1 q11.2 ?_
            refine ax_goto (tgt := 106) dK_read_65 (by decide) ?_
            refine ax_iinc (j := 3) dK_read_106 rfl (by decide) (show ax_r _ from ⟨by omega, by omega⟩) rfl ?_
            refine ax_goto (tgt := 7) dK_read_109 (by decide) ?_
            exact ax_sub [2, 3, 0] rfl h
    · replace h := h.2 c15
      refine ax_goto (tgt := 106) dK_read_28 (by decide) ?_
      refine ax_iinc (j := 3) dK_read_106 rfl (by decide) (show ax_r _ from ⟨by omega, by omega⟩) rfl ?_
      refine ax_goto (tgt := 7) dK_read_109 (by decide) ?_
      exact ax_sub [2, 3, 0] rfl h
theorem eK_read {P : Int → ax_Mem → Prop} {M : ax_Mem} {c : Nat} (hc : c < 8) (h : jK_read P 7 [(0, .inr (.inr (16 + 3 * c))), (1, .inr (.inr 13)), (2, .inl 0)] [] (ax_u M (16 + 3 * c) 2 0)) : kK_read [.inr (.inr (16 + 3 * c)), .inr (.inr 13)] M P := ax_ofJ (by decide) (Nat.le_of_ble_eq_true rfl) (gK_read_0 hc h)
-- K_rankOf dp 0
theorem gK_rankOf_0 {P : Int → ax_Mem → Prop} {M : ax_Mem} {a1 : Int} (h : (¬ a1 = 2 → (¬ a1 = 1 → P 1 M) ∧ (a1 = 1 → P 2 M)) ∧ (a1 = 2 → P 0 M)) : jK_rankOf P 0 [(0, .inl a1)] [] M := by
  refine ax_iloadn 0 dK_rankOf_0 rfl rfl ?_
  refine ax_iconst dK_rankOf_1 (by decide) ?_
  refine ax_icmp_ne (tgt := 7) dK_rankOf_2 (by decide) (fun c2 => ?_) (fun c2 => ?_)
  · replace h := h.1 c2
    refine ax_iloadn 0 dK_rankOf_7 rfl rfl ?_
    refine ax_iconst dK_rankOf_8 (by decide) ?_
    refine ax_icmp_ne (tgt := 16) dK_rankOf_9 (by decide) (fun c1 => ?_) (fun c1 => ?_)
    · replace h := h.1 c1
      refine ax_iconst dK_rankOf_16 (by decide) ?_
      exact ax_iret dK_rankOf_17 h
    · replace h := h.2 c1
      refine ax_iconst dK_rankOf_12 (by decide) ?_
      refine ax_goto (tgt := 17) dK_rankOf_13 (by decide) ?_
      exact ax_iret dK_rankOf_17 h
  · replace h := h.2 c2
    refine ax_iconst dK_rankOf_5 (by decide) ?_
    exact ax_iret dK_rankOf_6 h
theorem eK_rankOf {P : Int → ax_Mem → Prop} {M : ax_Mem} {a1 : Int} (h : (¬ a1 = 2 → (¬ a1 = 1 → P 1 M) ∧ (a1 = 1 → P 2 M)) ∧ (a1 = 2 → P 0 M)) : kK_rankOf [.inl a1] M P := ax_ofJ (by decide) (Nat.le_of_ble_eq_true rfl) (gK_rankOf_0 h)
-- K_valueOf dp 1
theorem gK_valueOf_0 {P : Int → ax_Mem → Prop} {M : ax_Mem} {a1 a2 a5 : Int} {c : Nat} (hc : c < 8) (h : (0 ≤ a1 ∧ a1 < 4) ∧ (((M (17 + 3 * c) (a1.toNat)) = 98) → (-2147483648 ≤ ((M 1 0) - 1) ∧ ((M 1 0) - 1) < 2147483648) ∧ (0 ≤ a2 ∧ a2 < 12) ∧ (-2147483648 ≤ (((M 1 0) - 1) - (M 5 (a2.toNat))) ∧ (((M 1 0) - 1) - (M 5 (a2.toNat))) < 2147483648) ∧ ((0 : Int) ≤ (((M 1 0) - 1) - (M 5 (a2.toNat))) ∧ (0 : Int) < (max 1 (M (18 + 3 * c) (a1.toNat)))) ∧ P ((((M 1 0) - 1) - (M 5 (a2.toNat))) / (max 1 (M (18 + 3 * c) (a1.toNat)))) M) ∧ (((M (17 + 3 * c) (a1.toNat)) = 102) → (0 ≤ a2 ∧ a2 < 12) ∧ ((0 : Int) ≤ (M 5 (a2.toNat)) ∧ (0 : Int) < (max 1 (M (18 + 3 * c) (a1.toNat)))) ∧ P ((M 5 (a2.toNat)) / (max 1 (M (18 + 3 * c) (a1.toNat)))) M) ∧ (((M (17 + 3 * c) (a1.toNat)) = 119) → (0 ≤ a2 ∧ a2 < 12) ∧ (-2147483648 ≤ (-(M 7 (a2.toNat))) ∧ (-(M 7 (a2.toNat))) < 2147483648) ∧ P (-(M 7 (a2.toNat))) M) ∧ (((M (17 + 3 * c) (a1.toNat)) = 97) → (0 ≤ a2 ∧ a2 < 12) ∧ P (M 7 (a2.toNat)) M) ∧ (((M (17 + 3 * c) (a1.toNat)) = 115) → (0 ≤ a2 ∧ a2 < 12) ∧ ((0 : Int) ≤ (M 5 (a2.toNat)) ∧ (0 : Int) < 2) ∧ P ((M 5 (a2.toNat)) % 2) M) ∧ (((M (17 + 3 * c) (a1.toNat)) = 111) → (0 ≤ a2 ∧ a2 < 12) ∧ P (M 6 (a2.toNat)) M) ∧ ((¬ (M (17 + 3 * c) (a1.toNat)) = 97 ∧ ¬ (M (17 + 3 * c) (a1.toNat)) = 98 ∧ ¬ (M (17 + 3 * c) (a1.toNat)) = 102 ∧ ¬ (M (17 + 3 * c) (a1.toNat)) = 111 ∧ ¬ (M (17 + 3 * c) (a1.toNat)) = 115 ∧ ¬ (M (17 + 3 * c) (a1.toNat)) = 119) → (0 ≤ a2 ∧ a2 < 12) ∧ P (min (M 8 (a2.toNat)) a5) M)) : jK_valueOf P 0 [(0, .inr (.inr (16 + 3 * c))), (1, .inl a1), (2, .inl a2), (3, .inr (.inr 2)), (4, .inr (.inr 1)), (5, .inl a5)] [] M := by
  refine ax_iconst dK_valueOf_0 (by decide) ?_
  refine ax_aloadn 0 dK_valueOf_1 rfl rfl ?_
  refine ax_getr dK_valueOf_2 fK_15 (sX_call0 hc) rfl ?_
  refine ax_iloadn 1 dK_valueOf_5 rfl rfl ?_
  obtain ⟨q1, h⟩ := h
  refine ax_iald dK_valueOf_6 (sX_call2 hc) q1.1 q1.2 ?_
  refine ax_mmax dK_valueOf_7 mK_67 (Nat.le_of_ble_eq_true rfl) (by decide) ?_
  refine ax_istore dK_valueOf_10 (by decide) rfl ?_
  refine ax_aloadn 1 dK_valueOf_12 rfl rfl ?_
  refine ax_getr dK_valueOf_13 fK_9 (sX_call0 hc) rfl ?_
  refine ax_iloadn 2 dK_valueOf_16 rfl rfl ?_
  refine ax_cald dK_valueOf_17 (sX_call1 hc) q1.1 q1.2 ?_
  obtain ⟨c2_0, c2_1, c2_2, c2_3, c2_4, c2_5, c2_6⟩ := h
  by_cases c2d : ¬ (M (17 + 3 * c) (a1.toNat)) = 97 ∧ ¬ (M (17 + 3 * c) (a1.toNat)) = 98 ∧ ¬ (M (17 + 3 * c) (a1.toNat)) = 102 ∧ ¬ (M (17 + 3 * c) (a1.toNat)) = 111 ∧ ¬ (M (17 + 3 * c) (a1.toNat)) = 115 ∧ ¬ (M (17 + 3 * c) (a1.toNat)) = 119
  · replace h := c2_6 c2d
    refine ax_look (tgt := 135) dK_valueOf_18 (by decide) (off := 117) (by show Op.lookupswitch.offset [(97, 94), (98, 58), (102, 76), (111, 110), (115, 101), (119, 86)] 117 (M (17 + 3 * c) (a1.toNat)) = _; rw [Op.lookupswitch.offset_cons, if_neg (by omega), Op.lookupswitch.offset_cons, if_neg (by omega), Op.lookupswitch.offset_cons, if_neg (by omega), Op.lookupswitch.offset_cons, if_neg (by omega), Op.lookupswitch.offset_cons, if_neg (by omega), Op.lookupswitch.offset_cons, if_neg (by omega)]; rfl) (by decide) ?_
    refine ax_aloadn 4 dK_valueOf_135 rfl rfl ?_
    refine ax_getr dK_valueOf_136 fK_87 sX_2 rfl ?_
    refine ax_iloadn 3 dK_valueOf_139 rfl rfl ?_
    obtain ⟨q15, h⟩ := h
    refine ax_iald dK_valueOf_140 sX_8 q15.1 q15.2 ?_
    refine ax_iload 6 dK_valueOf_141 rfl ?_
    refine ax_mmin dK_valueOf_143 mK_90 (Nat.le_of_ble_eq_true rfl) (by decide) ?_
    exact ax_iret dK_valueOf_146 h
  · rcases (show (M (17 + 3 * c) (a1.toNat)) = 97 ∨ (M (17 + 3 * c) (a1.toNat)) = 98 ∨ (M (17 + 3 * c) (a1.toNat)) = 102 ∨ (M (17 + 3 * c) (a1.toNat)) = 111 ∨ (M (17 + 3 * c) (a1.toNat)) = 115 ∨ (M (17 + 3 * c) (a1.toNat)) = 119 by omega) with c2e | c2e | c2e | c2e | c2e | c2e
    · replace h := c2_3 (by omega)
      refine ax_look (tgt := 112) (off := 94) dK_valueOf_18 (by decide) (by rw [c2e]; decide) (by decide) ?_
      refine ax_aloadn 4 dK_valueOf_112 rfl rfl ?_
      refine ax_getr dK_valueOf_113 fK_81 sX_2 rfl ?_
      refine ax_iloadn 3 dK_valueOf_116 rfl rfl ?_
      obtain ⟨q11, h⟩ := h
      refine ax_iald dK_valueOf_117 sX_7 q11.1 q11.2 ?_
      exact ax_iret dK_valueOf_118 h
    · replace h := c2_0 (by omega)
      refine ax_look (tgt := 76) (off := 58) dK_valueOf_18 (by decide) (by rw [c2e]; decide) (by decide) ?_
      refine ax_aload 5 dK_valueOf_76 rfl ?_
      refine ax_geti dK_valueOf_78 fK_73 sX_1 rfl ?_
      refine ax_iconst dK_valueOf_81 (by decide) ?_
      obtain ⟨q3, h⟩ := h
      refine ax_isub dK_valueOf_82 q3 ?_
      refine ax_aloadn 4 dK_valueOf_83 rfl rfl ?_
      refine ax_getr dK_valueOf_84 fK_78 sX_2 rfl ?_
      refine ax_iloadn 3 dK_valueOf_87 rfl rfl ?_
      obtain ⟨q4, h⟩ := h
      refine ax_iald dK_valueOf_88 sX_5 q4.1 q4.2 ?_
      obtain ⟨q5, h⟩ := h
      refine ax_isub dK_valueOf_89 q5 ?_
      refine ax_iload 0 dK_valueOf_90 rfl ?_
      obtain ⟨q6, h⟩ := h
      refine ax_idiv dK_valueOf_92 q6.1 q6.2 ?_
      exact ax_iret dK_valueOf_93 h
    · replace h := c2_1 (by omega)
      refine ax_look (tgt := 94) (off := 76) dK_valueOf_18 (by decide) (by rw [c2e]; decide) (by decide) ?_
      refine ax_aloadn 4 dK_valueOf_94 rfl rfl ?_
      refine ax_getr dK_valueOf_95 fK_78 sX_2 rfl ?_
      refine ax_iloadn 3 dK_valueOf_98 rfl rfl ?_
      obtain ⟨q7, h⟩ := h
      refine ax_iald dK_valueOf_99 sX_5 q7.1 q7.2 ?_
      refine ax_iload 0 dK_valueOf_100 rfl ?_
      obtain ⟨q8, h⟩ := h
      refine ax_idiv dK_valueOf_102 q8.1 q8.2 ?_
      exact ax_iret dK_valueOf_103 h
    · replace h := c2_5 (by omega)
      refine ax_look (tgt := 128) (off := 110) dK_valueOf_18 (by decide) (by rw [c2e]; decide) (by decide) ?_
      refine ax_aloadn 4 dK_valueOf_128 rfl rfl ?_
      refine ax_getr dK_valueOf_129 fK_84 sX_2 rfl ?_
      refine ax_iloadn 3 dK_valueOf_132 rfl rfl ?_
      obtain ⟨q14, h⟩ := h
      refine ax_iald dK_valueOf_133 sX_6 q14.1 q14.2 ?_
      exact ax_iret dK_valueOf_134 h
    · replace h := c2_4 (by omega)
      refine ax_look (tgt := 119) (off := 101) dK_valueOf_18 (by decide) (by rw [c2e]; decide) (by decide) ?_
      refine ax_aloadn 4 dK_valueOf_119 rfl rfl ?_
      refine ax_getr dK_valueOf_120 fK_78 sX_2 rfl ?_
      refine ax_iloadn 3 dK_valueOf_123 rfl rfl ?_
      obtain ⟨q12, h⟩ := h
      refine ax_iald dK_valueOf_124 sX_5 q12.1 q12.2 ?_
      refine ax_iconst dK_valueOf_125 (by decide) ?_
      obtain ⟨q13, h⟩ := h
      refine ax_irem dK_valueOf_126 q13.1 q13.2 ?_
      exact ax_iret dK_valueOf_127 h
    · replace h := c2_2 (by omega)
      refine ax_look (tgt := 104) (off := 86) dK_valueOf_18 (by decide) (by rw [c2e]; decide) (by decide) ?_
      refine ax_aloadn 4 dK_valueOf_104 rfl rfl ?_
      refine ax_getr dK_valueOf_105 fK_81 sX_2 rfl ?_
      refine ax_iloadn 3 dK_valueOf_108 rfl rfl ?_
      obtain ⟨q9, h⟩ := h
      refine ax_iald dK_valueOf_109 sX_7 q9.1 q9.2 ?_
      obtain ⟨q10, h⟩ := h
      refine ax_ineg dK_valueOf_110 q10 ?_
      exact ax_iret dK_valueOf_111 h
theorem eK_valueOf {P : Int → ax_Mem → Prop} {M : ax_Mem} {a1 a2 a5 : Int} {c : Nat} (hc : c < 8) (h : (0 ≤ a1 ∧ a1 < 4) ∧ (((M (17 + 3 * c) (a1.toNat)) = 98) → (-2147483648 ≤ ((M 1 0) - 1) ∧ ((M 1 0) - 1) < 2147483648) ∧ (0 ≤ a2 ∧ a2 < 12) ∧ (-2147483648 ≤ (((M 1 0) - 1) - (M 5 (a2.toNat))) ∧ (((M 1 0) - 1) - (M 5 (a2.toNat))) < 2147483648) ∧ ((0 : Int) ≤ (((M 1 0) - 1) - (M 5 (a2.toNat))) ∧ (0 : Int) < (max 1 (M (18 + 3 * c) (a1.toNat)))) ∧ P ((((M 1 0) - 1) - (M 5 (a2.toNat))) / (max 1 (M (18 + 3 * c) (a1.toNat)))) M) ∧ (((M (17 + 3 * c) (a1.toNat)) = 102) → (0 ≤ a2 ∧ a2 < 12) ∧ ((0 : Int) ≤ (M 5 (a2.toNat)) ∧ (0 : Int) < (max 1 (M (18 + 3 * c) (a1.toNat)))) ∧ P ((M 5 (a2.toNat)) / (max 1 (M (18 + 3 * c) (a1.toNat)))) M) ∧ (((M (17 + 3 * c) (a1.toNat)) = 119) → (0 ≤ a2 ∧ a2 < 12) ∧ (-2147483648 ≤ (-(M 7 (a2.toNat))) ∧ (-(M 7 (a2.toNat))) < 2147483648) ∧ P (-(M 7 (a2.toNat))) M) ∧ (((M (17 + 3 * c) (a1.toNat)) = 97) → (0 ≤ a2 ∧ a2 < 12) ∧ P (M 7 (a2.toNat)) M) ∧ (((M (17 + 3 * c) (a1.toNat)) = 115) → (0 ≤ a2 ∧ a2 < 12) ∧ ((0 : Int) ≤ (M 5 (a2.toNat)) ∧ (0 : Int) < 2) ∧ P ((M 5 (a2.toNat)) % 2) M) ∧ (((M (17 + 3 * c) (a1.toNat)) = 111) → (0 ≤ a2 ∧ a2 < 12) ∧ P (M 6 (a2.toNat)) M) ∧ ((¬ (M (17 + 3 * c) (a1.toNat)) = 97 ∧ ¬ (M (17 + 3 * c) (a1.toNat)) = 98 ∧ ¬ (M (17 + 3 * c) (a1.toNat)) = 102 ∧ ¬ (M (17 + 3 * c) (a1.toNat)) = 111 ∧ ¬ (M (17 + 3 * c) (a1.toNat)) = 115 ∧ ¬ (M (17 + 3 * c) (a1.toNat)) = 119) → (0 ≤ a2 ∧ a2 < 12) ∧ P (min (M 8 (a2.toNat)) a5) M)) : kK_valueOf [.inr (.inr (16 + 3 * c)), .inl a1, .inl a2, .inr (.inr 2), .inr (.inr 1), .inl a5] M P := ax_ofJ (by decide) (Nat.le_of_ble_eq_true rfl) (gK_valueOf_0 hc h)
-- K_isAhead dp 2
theorem gK_isAhead_0 {P : Int → ax_Mem → Prop} {M : ax_Mem} {a1 a2 a5 : Int} {c : Nat} (hc : c < 8) (h : (0 ≤ a1 ∧ a1 < 12) ∧ kK_rankOf [.inl (M 3 (a1.toNat))] M (fun r2 M3 => (0 ≤ a2 ∧ a2 < 12) ∧ kK_rankOf [.inl (M3 3 (a2.toNat))] M3 (fun r5 M6 => (r2 = r5 → jK_isAhead P 45 [(0, .inr (.inr (16 + 3 * c))), (1, .inl a1), (2, .inl a2), (3, .inr (.inr 2)), (4, .inr (.inr 1)), (5, .inl a5), (8, .inl 0)] [] M6) ∧ (¬ r2 = r5 → (r5 ≤ r2 → P 0 M6) ∧ (¬ r5 ≤ r2 → P 1 M6))))) : jK_isAhead P 0 [(0, .inr (.inr (16 + 3 * c))), (1, .inl a1), (2, .inl a2), (3, .inr (.inr 2)), (4, .inr (.inr 1)), (5, .inl a5)] [] M := by
  refine ax_aloadn 3 dK_isAhead_0 rfl rfl ?_
  refine ax_getr dK_isAhead_1 fK_46 sX_2 rfl ?_
  refine ax_iloadn 1 dK_isAhead_4 rfl rfl ?_
  obtain ⟨q1, h⟩ := h
  refine ax_iald dK_isAhead_5 sX_3 q1.1 q1.2 ?_
  refine ax_callS (dp2 := 0) (as := [.inl (M 3 (a1.toNat))]) (st := []) dK_isAhead_6 lK_60 rfl rfl (Nat.le_of_ble_eq_true rfl) (by decide) ?_
  refine ax_C_mono (fun r2 M3 h => ?_) h
  refine ax_istore dK_isAhead_9 (by decide) rfl ?_
  refine ax_aloadn 4 dK_isAhead_11 rfl rfl ?_
  refine ax_getr dK_isAhead_12 fK_46 sX_2 rfl ?_
  refine ax_iloadn 3 dK_isAhead_15 rfl rfl ?_
  obtain ⟨q4, h⟩ := h
  refine ax_iald dK_isAhead_16 sX_3 q4.1 q4.2 ?_
  refine ax_callS (dp2 := 0) (as := [.inl (M3 3 (a2.toNat))]) (st := []) dK_isAhead_17 lK_60 rfl rfl (Nat.le_of_ble_eq_true rfl) (by decide) ?_
  refine ax_C_mono (fun r5 M6 h => ?_) h
  refine ax_istore dK_isAhead_20 (by decide) rfl ?_
  refine ax_iload 1 dK_isAhead_22 rfl ?_
  refine ax_iload 0 dK_isAhead_24 rfl ?_
  refine ax_icmp_eq (tgt := 42) dK_isAhead_26 (by decide) (fun c8 => ?_) (fun c8 => ?_)
  · replace h := h.1 c8
    refine ax_iconst dK_isAhead_42 (by decide) ?_
    refine ax_istore dK_isAhead_43 (by decide) rfl ?_
    exact ax_sub [3, 4, 5, 6, 7, 8, 0] rfl h
  · replace h := h.2 c8
    refine ax_iload 1 dK_isAhead_29 rfl ?_
    refine ax_iload 0 dK_isAhead_31 rfl ?_
    refine ax_icmp_ge (tgt := 40) dK_isAhead_33 (by decide) (fun c7 => ?_) (fun c7 => ?_)
    · replace h := h.1 c7
      refine ax_iconst dK_isAhead_40 (by decide) ?_
      exact ax_zret dK_isAhead_41 (by decide) h
    · replace h := h.2 c7
      refine ax_iconst dK_isAhead_36 (by decide) ?_
      refine ax_goto (tgt := 41) dK_isAhead_37 (by decide) ?_
      exact ax_zret dK_isAhead_41 (by decide) h
theorem gK_isAhead_45 {P : Int → ax_Mem → Prop} {M : ax_Mem} {v1 v2 v5 v8 : Int} {c : Nat} (hc : c < 8) (h : ((M (16 + 3 * c) 2) ≤ v8 → (v2 ≤ v1 → P 0 M) ∧ (¬ v2 ≤ v1 → P 1 M)) ∧ (¬ (M (16 + 3 * c) 2) ≤ v8 → kK_valueOf [.inr (.inr (16 + 3 * c)), .inl v8, .inl v1, .inr (.inr 2), .inr (.inr 1), .inl v5] M (fun r2 M3 => kK_valueOf [.inr (.inr (16 + 3 * c)), .inl v8, .inl v2, .inr (.inr 2), .inr (.inr 1), .inl v5] M3 (fun r4 M5 => (r2 = r4 → (-2147483648 ≤ (v8 + 1) ∧ (v8 + 1) < 2147483648) ∧ jK_isAhead P 45 [(0, .inr (.inr (16 + 3 * c))), (1, .inl v1), (2, .inl v2), (3, .inr (.inr 2)), (4, .inr (.inr 1)), (5, .inl v5), (8, .inl (v8 + 1))] [] M5) ∧ (¬ r2 = r4 → (r4 ≤ r2 → P 0 M5) ∧ (¬ r4 ≤ r2 → P 1 M5)))))) : jK_isAhead P 45 [(0, .inr (.inr (16 + 3 * c))), (1, .inl v1), (2, .inl v2), (3, .inr (.inr 2)), (4, .inr (.inr 1)), (5, .inl v5), (8, .inl v8)] [] M := by
  refine ax_iload 6 dK_isAhead_45 rfl ?_
  refine ax_aloadn 0 dK_isAhead_47 rfl rfl ?_
  refine ax_geti dK_isAhead_48 fK_19 (sX_call0 hc) rfl ?_
  refine ax_icmp_ge (tgt := 108) dK_isAhead_51 (by decide) (fun c9 => ?_) (fun c9 => ?_)
  · replace h := h.1 c9
    refine ax_iloadn 1 dK_isAhead_108 rfl rfl ?_
    refine ax_iloadn 2 dK_isAhead_109 rfl rfl ?_
    refine ax_icmp_ge (tgt := 117) dK_isAhead_110 (by decide) (fun c1 => ?_) (fun c1 => ?_)
    · replace h := h.1 c1
      refine ax_iconst dK_isAhead_117 (by decide) ?_
      exact ax_zret dK_isAhead_118 (by decide) h
    · replace h := h.2 c1
      refine ax_iconst dK_isAhead_113 (by decide) ?_
      refine ax_goto (tgt := 118) dK_isAhead_114 (by decide) ?_
      exact ax_zret dK_isAhead_118 (by decide) h
  · replace h := h.2 c9
    refine ax_aloadn 0 dK_isAhead_54 rfl rfl ?_
    refine ax_iload 6 dK_isAhead_55 rfl ?_
    refine ax_iloadn 1 dK_isAhead_57 rfl rfl ?_
    refine ax_aloadn 3 dK_isAhead_58 rfl rfl ?_
    refine ax_aload 4 dK_isAhead_59 rfl ?_
    refine ax_iload 5 dK_isAhead_61 rfl ?_
    refine ax_callV (dp2 := 1) (as := [.inl v8, .inl v1, .inr (.inr 2), .inr (.inr 1), .inl v5]) (st := []) dK_isAhead_63 lK_63 (sX_call0 hc) ⟨_, _, rfl⟩ rfl rfl (Nat.le_of_ble_eq_true rfl) (by decide) ?_
    refine ax_C_mono (fun r2 M3 h => ?_) h
    refine ax_istore dK_isAhead_66 (by decide) rfl ?_
    refine ax_aloadn 1 dK_isAhead_68 rfl rfl ?_
    refine ax_iload 7 dK_isAhead_69 rfl ?_
    refine ax_iloadn 3 dK_isAhead_71 rfl rfl ?_
    refine ax_aloadn 4 dK_isAhead_72 rfl rfl ?_
    refine ax_aload 5 dK_isAhead_73 rfl ?_
    refine ax_iload 6 dK_isAhead_75 rfl ?_
    refine ax_callV (dp2 := 1) (as := [.inl v8, .inl v2, .inr (.inr 2), .inr (.inr 1), .inl v5]) (st := []) dK_isAhead_77 lK_63 (sX_call0 hc) ⟨_, _, rfl⟩ rfl rfl (Nat.le_of_ble_eq_true rfl) (by decide) ?_
    refine ax_C_mono (fun r4 M5 h => ?_) h
    refine ax_istore dK_isAhead_80 (by decide) rfl ?_
    refine ax_iload 1 dK_isAhead_82 rfl ?_
    refine ax_iload 0 dK_isAhead_84 rfl ?_
    refine ax_icmp_eq (tgt := 102) dK_isAhead_86 (by decide) (fun c8 => ?_) (fun c8 => ?_)
    · replace h := h.1 c8
      obtain ⟨q6, h⟩ := h
      refine ax_iinc (j := 8) dK_isAhead_102 rfl (by decide) q6 rfl ?_
      refine ax_goto (tgt := 45) dK_isAhead_105 (by decide) ?_
      exact ax_sub [3, 4, 5, 6, 7, 8, 0] rfl h
    · replace h := h.2 c8
      refine ax_iload 1 dK_isAhead_89 rfl ?_
      refine ax_iload 0 dK_isAhead_91 rfl ?_
      refine ax_icmp_ge (tgt := 100) dK_isAhead_93 (by decide) (fun c7 => ?_) (fun c7 => ?_)
      · replace h := h.1 c7
        refine ax_iconst dK_isAhead_100 (by decide) ?_
        exact ax_zret dK_isAhead_101 (by decide) h
      · replace h := h.2 c7
        refine ax_iconst dK_isAhead_96 (by decide) ?_
        refine ax_goto (tgt := 101) dK_isAhead_97 (by decide) ?_
        exact ax_zret dK_isAhead_101 (by decide) h
theorem eK_isAhead {P : Int → ax_Mem → Prop} {M : ax_Mem} {a1 a2 a5 : Int} {c : Nat} (hc : c < 8) (h : (0 ≤ a1 ∧ a1 < 12) ∧ kK_rankOf [.inl (M 3 (a1.toNat))] M (fun r2 M3 => (0 ≤ a2 ∧ a2 < 12) ∧ kK_rankOf [.inl (M3 3 (a2.toNat))] M3 (fun r5 M6 => (r2 = r5 → jK_isAhead P 45 [(0, .inr (.inr (16 + 3 * c))), (1, .inl a1), (2, .inl a2), (3, .inr (.inr 2)), (4, .inr (.inr 1)), (5, .inl a5), (8, .inl 0)] [] M6) ∧ (¬ r2 = r5 → (r5 ≤ r2 → P 0 M6) ∧ (¬ r5 ≤ r2 → P 1 M6))))) : kK_isAhead [.inr (.inr (16 + 3 * c)), .inl a1, .inl a2, .inr (.inr 2), .inr (.inr 1), .inl a5] M P := ax_ofJ (by decide) (Nat.le_of_ble_eq_true rfl) (gK_isAhead_0 hc h)
-- N_putIn dp 0
theorem gN_putIn_0 {P : Int → ax_Mem → Prop} {M : ax_Mem} {a1 a2 : Int} (h : (a1 < 0 → P 0 M) ∧ (¬ a1 < 0 → ((M 40 1) < a1 → P 0 M) ∧ (¬ (M 40 1) < a1 → ((M 40 1) < 12 → jN_putIn P 27 [(0, .inr (.inr 40)), (1, .inl a1), (2, .inl a2), (3, .inl (M 40 1))] [] M) ∧ (¬ (M 40 1) < 12 → P 0 M)))) : jN_putIn P 0 [(0, .inr (.inr 40)), (1, .inl a1), (2, .inl a2)] [] M := by
  refine ax_iloadn 1 dN_putIn_0 rfl rfl ?_
  refine ax_if_lt (tgt := 21) dN_putIn_1 (by decide) (fun c3 => ?_) (fun c3 => ?_)
  · replace h := h.1 c3
    exact ax_vret dN_putIn_21 h
  · replace h := h.2 c3
    refine ax_iloadn 1 dN_putIn_4 rfl rfl ?_
    refine ax_aloadn 0 dN_putIn_5 rfl rfl ?_
    refine ax_geti dN_putIn_6 fN_21 sX_40 rfl ?_
    refine ax_icmp_gt (tgt := 21) dN_putIn_9 (by decide) (fun c2 => ?_) (fun c2 => ?_)
    · replace h := h.1 c2
      exact ax_vret dN_putIn_21 h
    · replace h := h.2 c2
      refine ax_aloadn 0 dN_putIn_12 rfl rfl ?_
      refine ax_geti dN_putIn_13 fN_21 sX_40 rfl ?_
      refine ax_bipush dN_putIn_16 (by decide) ?_
      refine ax_icmp_lt (tgt := 22) dN_putIn_18 (by decide) (fun c1 => ?_) (fun c1 => ?_)
      · replace h := h.1 c1
        refine ax_aloadn 0 dN_putIn_22 rfl rfl ?_
        refine ax_geti dN_putIn_23 fN_21 sX_40 rfl ?_
        refine ax_istoren dN_putIn_26 rfl (by decide) rfl ?_
        exact ax_sub [1, 2, 3, 0] rfl h
      · replace h := h.2 c1
        exact ax_vret dN_putIn_21 h
theorem gN_putIn_27 {P : Int → ax_Mem → Prop} {M : ax_Mem} {v1 v2 v3 : Int} (h : (v3 ≤ v1 → (0 ≤ v1 ∧ v1 < 12) ∧ (-2147483648 ≤ ((M 40 1) + 1) ∧ ((M 40 1) + 1) < 2147483648) ∧ P 0 (ax_u (ax_u M 41 (v1.toNat) v2) 40 1 ((M 40 1) + 1))) ∧ (¬ v3 ≤ v1 → (-2147483648 ≤ (v3 - 1) ∧ (v3 - 1) < 2147483648) ∧ (0 ≤ (v3 - 1) ∧ (v3 - 1) < 12) ∧ (0 ≤ v3 ∧ v3 < 12) ∧ jN_putIn P 27 [(0, .inr (.inr 40)), (1, .inl v1), (2, .inl v2), (3, .inl (v3 + (-1)))] [] (ax_u M 41 (v3.toNat) (M 41 ((v3 - 1).toNat))))) : jN_putIn P 27 [(0, .inr (.inr 40)), (1, .inl v1), (2, .inl v2), (3, .inl v3)] [] M := by
  refine ax_iloadn 3 dN_putIn_27 rfl rfl ?_
  refine ax_iloadn 1 dN_putIn_28 rfl rfl ?_
  refine ax_icmp_le (tgt := 52) dN_putIn_29 (by decide) (fun c6 => ?_) (fun c6 => ?_)
  · replace h := h.1 c6
    refine ax_aloadn 0 dN_putIn_52 rfl rfl ?_
    refine ax_getr dN_putIn_53 fN_9 sX_40 rfl ?_
    refine ax_iloadn 1 dN_putIn_56 rfl rfl ?_
    refine ax_iloadn 2 dN_putIn_57 rfl rfl ?_
    obtain ⟨q1, h⟩ := h
    refine ax_iast dN_putIn_58 sX_41 q1.1 q1.2 ?_
    refine ax_aloadn 0 dN_putIn_59 rfl rfl ?_
    refine ax_dup dN_putIn_60 rfl ?_
    refine ax_geti dN_putIn_61 fN_21 sX_40 rfl ?_
    refine ax_top (x' := M 40 1) (by first | rfl | exact ax_u_at _ _ _ _) ?_
    refine ax_iconst dN_putIn_64 (by decide) ?_
    obtain ⟨q2, h⟩ := h
    refine ax_iadd dN_putIn_65 q2 ?_
    refine ax_puti dN_putIn_66 pN_21 sX_40 rfl ?_
    exact ax_vret dN_putIn_69 h
  · replace h := h.2 c6
    refine ax_aloadn 0 dN_putIn_32 rfl rfl ?_
    refine ax_getr dN_putIn_33 fN_9 sX_40 rfl ?_
    refine ax_iloadn 3 dN_putIn_36 rfl rfl ?_
    refine ax_aloadn 0 dN_putIn_37 rfl rfl ?_
    refine ax_getr dN_putIn_38 fN_9 sX_40 rfl ?_
    refine ax_iloadn 3 dN_putIn_41 rfl rfl ?_
    refine ax_iconst dN_putIn_42 (by decide) ?_
    obtain ⟨q3, h⟩ := h
    refine ax_isub dN_putIn_43 q3 ?_
    obtain ⟨q4, h⟩ := h
    refine ax_iald dN_putIn_44 sX_41 q4.1 q4.2 ?_
    obtain ⟨q5, h⟩ := h
    refine ax_iast dN_putIn_45 sX_41 q5.1 q5.2 ?_
    refine ax_iinc (j := 3) dN_putIn_46 rfl (by decide) (show ax_r _ from ⟨by omega, by omega⟩) rfl ?_
    refine ax_goto (tgt := 27) dN_putIn_49 (by decide) ?_
    exact ax_sub [1, 2, 3, 0] rfl h
theorem eN_putIn {P : Int → ax_Mem → Prop} {M : ax_Mem} {a1 a2 : Int} (h : (a1 < 0 → P 0 M) ∧ (¬ a1 < 0 → ((M 40 1) < a1 → P 0 M) ∧ (¬ (M 40 1) < a1 → ((M 40 1) < 12 → jN_putIn P 27 [(0, .inr (.inr 40)), (1, .inl a1), (2, .inl a2), (3, .inl (M 40 1))] [] M) ∧ (¬ (M 40 1) < 12 → P 0 M)))) : kN_putIn [.inr (.inr 40), .inl a1, .inl a2] M P := ax_ofJ (by decide) (Nat.le_of_ble_eq_true rfl) (gN_putIn_0 h)
-- N_placeOf dp 0
theorem gN_placeOf_0 {P : Int → ax_Mem → Prop} {M : ax_Mem} {a1 : Int} (h : jN_placeOf P 2 [(0, .inr (.inr 40)), (1, .inl a1), (2, .inl 0)] [] M) : jN_placeOf P 0 [(0, .inr (.inr 40)), (1, .inl a1)] [] M := by
  refine ax_iconst dN_placeOf_0 (by decide) ?_
  refine ax_istoren dN_placeOf_1 rfl (by decide) rfl ?_
  exact ax_sub [1, 2, 0] rfl h
theorem gN_placeOf_2 {P : Int → ax_Mem → Prop} {M : ax_Mem} {v1 v2 : Int} (h : ((M 40 1) ≤ v2 → P (-1) M) ∧ (¬ (M 40 1) ≤ v2 → (0 ≤ v2 ∧ v2 < 12) ∧ (¬ (M 41 (v2.toNat)) = v1 → jN_placeOf P 2 [(0, .inr (.inr 40)), (1, .inl v1), (2, .inl (v2 + 1))] [] M) ∧ ((M 41 (v2.toNat)) = v1 → P v2 M))) : jN_placeOf P 2 [(0, .inr (.inr 40)), (1, .inl v1), (2, .inl v2)] [] M := by
  refine ax_iloadn 2 dN_placeOf_2 rfl rfl ?_
  refine ax_aloadn 0 dN_placeOf_3 rfl rfl ?_
  refine ax_geti dN_placeOf_4 fN_21 sX_40 rfl ?_
  refine ax_icmp_ge (tgt := 28) dN_placeOf_7 (by decide) (fun c3 => ?_) (fun c3 => ?_)
  · replace h := h.1 c3
    refine ax_iconst dN_placeOf_28 (by decide) ?_
    exact ax_iret dN_placeOf_29 h
  · replace h := h.2 c3
    refine ax_aloadn 0 dN_placeOf_10 rfl rfl ?_
    refine ax_getr dN_placeOf_11 fN_9 sX_40 rfl ?_
    refine ax_iloadn 2 dN_placeOf_14 rfl rfl ?_
    obtain ⟨q1, h⟩ := h
    refine ax_iald dN_placeOf_15 sX_41 q1.1 q1.2 ?_
    refine ax_iloadn 1 dN_placeOf_16 rfl rfl ?_
    refine ax_icmp_ne (tgt := 22) dN_placeOf_17 (by decide) (fun c2 => ?_) (fun c2 => ?_)
    · replace h := h.1 c2
      refine ax_iinc (j := 2) dN_placeOf_22 rfl (by decide) (show ax_r _ from ⟨by omega, by omega⟩) rfl ?_
      refine ax_goto (tgt := 2) dN_placeOf_25 (by decide) ?_
      exact ax_sub [1, 2, 0] rfl h
    · replace h := h.2 c2
      refine ax_iloadn 2 dN_placeOf_20 rfl rfl ?_
      exact ax_iret dN_placeOf_21 h
theorem eN_placeOf {P : Int → ax_Mem → Prop} {M : ax_Mem} {a1 : Int} (h : jN_placeOf P 2 [(0, .inr (.inr 40)), (1, .inl a1), (2, .inl 0)] [] M) : kN_placeOf [.inr (.inr 40), .inl a1] M P := ax_ofJ (by decide) (Nat.le_of_ble_eq_true rfl) (gN_placeOf_0 h)
-- N_takeOut dp 1
theorem gN_takeOut_0 {P : Int → ax_Mem → Prop} {M : ax_Mem} {a1 : Int} (h : kN_placeOf [.inr (.inr 40), .inl a1] M (fun r1 M2 => (¬ r1 = (-1) → (-2147483648 ≤ ((M2 40 1) - 1) ∧ ((M2 40 1) - 1) < 2147483648) ∧ jN_takeOut P 24 [(0, .inr (.inr 40)), (3, .inl r1)] [] (ax_u M2 40 1 ((M2 40 1) - 1))) ∧ (r1 = (-1) → P 0 M2))) : jN_takeOut P 0 [(0, .inr (.inr 40)), (1, .inl a1)] [] M := by
  refine ax_aloadn 0 dN_takeOut_0 rfl rfl ?_
  refine ax_iloadn 1 dN_takeOut_1 rfl rfl ?_
  refine ax_callV (dp2 := 0) (as := [.inl a1]) (st := []) dN_takeOut_2 lN_31 sX_40 ⟨_, _, rfl⟩ rfl rfl (Nat.le_of_ble_eq_true rfl) (by decide) ?_
  refine ax_C_mono (fun r1 M2 h => ?_) h
  refine ax_istoren dN_takeOut_5 rfl (by decide) rfl ?_
  refine ax_iloadn 0 dN_takeOut_6 rfl rfl ?_
  refine ax_iconst dN_takeOut_7 (by decide) ?_
  refine ax_icmp_ne (tgt := 12) dN_takeOut_8 (by decide) (fun c4 => ?_) (fun c4 => ?_)
  · replace h := h.1 c4
    refine ax_aloadn 1 dN_takeOut_12 rfl rfl ?_
    refine ax_dup dN_takeOut_13 rfl ?_
    refine ax_geti dN_takeOut_14 fN_21 sX_40 rfl ?_
    refine ax_iconst dN_takeOut_17 (by decide) ?_
    obtain ⟨q3, h⟩ := h
    refine ax_isub dN_takeOut_18 q3 ?_
    refine ax_puti dN_takeOut_19 pN_21 sX_40 rfl ?_
    refine ax_iloadn 0 dN_takeOut_22 rfl rfl ?_
    refine ax_istoren dN_takeOut_23 rfl (by decide) rfl ?_
    exact ax_sub [2, 0] rfl h
  · replace h := h.2 c4
    exact ax_vret dN_takeOut_11 h
theorem gN_takeOut_24 {P : Int → ax_Mem → Prop} {M : ax_Mem} {v3 : Int} (h : ((M 40 1) ≤ v3 → P 0 M) ∧ (¬ (M 40 1) ≤ v3 → (-2147483648 ≤ (v3 + 1) ∧ (v3 + 1) < 2147483648) ∧ (0 ≤ (v3 + 1) ∧ (v3 + 1) < 12) ∧ (0 ≤ v3 ∧ v3 < 12) ∧ jN_takeOut P 24 [(0, .inr (.inr 40)), (3, .inl (v3 + 1))] [] (ax_u M 41 (v3.toNat) (M 41 ((v3 + 1).toNat))))) : jN_takeOut P 24 [(0, .inr (.inr 40)), (3, .inl v3)] [] M := by
  refine ax_iloadn 1 dN_takeOut_24 rfl rfl ?_
  refine ax_aloadn 0 dN_takeOut_25 rfl rfl ?_
  refine ax_geti dN_takeOut_26 fN_21 sX_40 rfl ?_
  refine ax_icmp_ge (tgt := 52) dN_takeOut_29 (by decide) (fun c4 => ?_) (fun c4 => ?_)
  · replace h := h.1 c4
    exact ax_vret dN_takeOut_52 h
  · replace h := h.2 c4
    refine ax_aloadn 0 dN_takeOut_32 rfl rfl ?_
    refine ax_getr dN_takeOut_33 fN_9 sX_40 rfl ?_
    refine ax_iloadn 1 dN_takeOut_36 rfl rfl ?_
    refine ax_aloadn 0 dN_takeOut_37 rfl rfl ?_
    refine ax_getr dN_takeOut_38 fN_9 sX_40 rfl ?_
    refine ax_iloadn 1 dN_takeOut_41 rfl rfl ?_
    refine ax_iconst dN_takeOut_42 (by decide) ?_
    obtain ⟨q1, h⟩ := h
    refine ax_iadd dN_takeOut_43 q1 ?_
    obtain ⟨q2, h⟩ := h
    refine ax_iald dN_takeOut_44 sX_41 q2.1 q2.2 ?_
    obtain ⟨q3, h⟩ := h
    refine ax_iast dN_takeOut_45 sX_41 q3.1 q3.2 ?_
    refine ax_iinc (j := 1) dN_takeOut_46 rfl (by decide) (show ax_r _ from ⟨by omega, by omega⟩) rfl ?_
    refine ax_goto (tgt := 24) dN_takeOut_49 (by decide) ?_
    exact ax_sub [1, 0] rfl h
theorem eN_takeOut {P : Int → ax_Mem → Prop} {M : ax_Mem} {a1 : Int} (h : kN_placeOf [.inr (.inr 40), .inl a1] M (fun r1 M2 => (¬ r1 = (-1) → (-2147483648 ≤ ((M2 40 1) - 1) ∧ ((M2 40 1) - 1) < 2147483648) ∧ jN_takeOut P 24 [(0, .inr (.inr 40)), (3, .inl r1)] [] (ax_u M2 40 1 ((M2 40 1) - 1))) ∧ (r1 = (-1) → P 0 M2))) : kN_takeOut [.inr (.inr 40), .inl a1] M P := ax_ofJ (by decide) (Nat.le_of_ble_eq_true rfl) (gN_takeOut_0 h)
-- K_arrange dp 3
theorem gK_arrange_0 {P : Int → ax_Mem → Prop} {M : ax_Mem} {a4 : Int} {c : Nat} (hc : c < 8) (h : jK_arrange P 8 [(0, .inr (.inr (16 + 3 * c))), (1, .inr (.inr 40)), (2, .inr (.inr 2)), (3, .inr (.inr 1)), (4, .inl a4), (5, .inl 0)] [] (ax_u M 40 1 0)) : jK_arrange P 0 [(0, .inr (.inr (16 + 3 * c))), (1, .inr (.inr 40)), (2, .inr (.inr 2)), (3, .inr (.inr 1)), (4, .inl a4)] [] M := by
  refine ax_aloadn 1 dK_arrange_0 rfl rfl ?_
  refine ax_iconst dK_arrange_1 (by decide) ?_
  refine ax_puti dK_arrange_2 pK_29 sX_40 rfl ?_
  refine ax_iconst dK_arrange_5 (by decide) ?_
  refine ax_istore dK_arrange_6 (by decide) rfl ?_
  exact ax_sub [1, 2, 3, 4, 5, 0] rfl h
theorem gK_arrange_8 {P : Int → ax_Mem → Prop} {M : ax_Mem} {v4 v5 : Int} {c : Nat} (hc : c < 8) (h : ((M 2 7) ≤ v5 → jK_arrange P 73 [(1, .inr (.inr 40)), (2, .inr (.inr 2)), (5, .inl 0)] [] M) ∧ (¬ (M 2 7) ≤ v5 → jK_arrange P 23 [(0, .inr (.inr (16 + 3 * c))), (1, .inr (.inr 40)), (2, .inr (.inr 2)), (3, .inr (.inr 1)), (4, .inl v4), (5, .inl v5), (6, .inl (M 40 1))] [] M)) : jK_arrange P 8 [(0, .inr (.inr (16 + 3 * c))), (1, .inr (.inr 40)), (2, .inr (.inr 2)), (3, .inr (.inr 1)), (4, .inl v4), (5, .inl v5)] [] M := by
  refine ax_iload 5 dK_arrange_8 rfl ?_
  refine ax_aloadn 2 dK_arrange_10 rfl rfl ?_
  refine ax_geti dK_arrange_11 fK_32 sX_2 rfl ?_
  refine ax_icmp_ge (tgt := 70) dK_arrange_14 (by decide) (fun c1 => ?_) (fun c1 => ?_)
  · replace h := h.1 c1
    refine ax_iconst dK_arrange_70 (by decide) ?_
    refine ax_istore dK_arrange_71 (by decide) rfl ?_
    exact ax_sub [2, 3, 0] rfl h
  · replace h := h.2 c1
    refine ax_aloadn 1 dK_arrange_17 rfl rfl ?_
    refine ax_geti dK_arrange_18 fK_29 sX_40 rfl ?_
    refine ax_istore dK_arrange_21 (by decide) rfl ?_
    exact ax_sub [1, 2, 3, 4, 5, 6, 0] rfl h
theorem gK_arrange_73 {P : Int → ax_Mem → Prop} {M : ax_Mem} {v5 : Int} {c : Nat} (hc : c < 8) (h : ((M 2 7) ≤ v5 → P 0 M) ∧ (¬ (M 2 7) ≤ v5 → (0 ≤ v5 ∧ v5 < 12) ∧ (¬ (M 3 (v5.toNat)) = 3 → jK_arrange P 73 [(1, .inr (.inr 40)), (2, .inr (.inr 2)), (5, .inl (v5 + 1))] [] M) ∧ ((M 3 (v5.toNat)) = 3 → kN_takeOut [.inr (.inr 40), .inl v5] M (fun _ M3 => kN_placeOf [.inr (.inr 40), .inl (M3 4 (v5.toNat))] M3 (fun r4 M5 => (-2147483648 ≤ (r4 + 1) ∧ (r4 + 1) < 2147483648) ∧ kN_putIn [.inr (.inr 40), .inl (r4 + 1), .inl v5] M5 (fun _ M8 => jK_arrange P 73 [(1, .inr (.inr 40)), (2, .inr (.inr 2)), (5, .inl (v5 + 1))] [] M8)))))) : jK_arrange P 73 [(1, .inr (.inr 40)), (2, .inr (.inr 2)), (5, .inl v5)] [] M := by
  refine ax_iload 2 dK_arrange_73 rfl ?_
  refine ax_aloadn 1 dK_arrange_75 rfl rfl ?_
  refine ax_geti dK_arrange_76 fK_32 sX_2 rfl ?_
  refine ax_icmp_ge (tgt := 124) dK_arrange_79 (by decide) (fun c10 => ?_) (fun c10 => ?_)
  · replace h := h.1 c10
    exact ax_vret dK_arrange_124 h
  · replace h := h.2 c10
    refine ax_aloadn 1 dK_arrange_82 rfl rfl ?_
    refine ax_getr dK_arrange_83 fK_46 sX_2 rfl ?_
    refine ax_iload 2 dK_arrange_86 rfl ?_
    obtain ⟨q1, h⟩ := h
    refine ax_iald dK_arrange_88 sX_3 q1.1 q1.2 ?_
    refine ax_iconst dK_arrange_89 (by decide) ?_
    refine ax_icmp_ne (tgt := 118) dK_arrange_90 (by decide) (fun c9 => ?_) (fun c9 => ?_)
    · replace h := h.1 c9
      refine ax_iinc (j := 2) dK_arrange_118 rfl (by decide) (show ax_r _ from ⟨by omega, by omega⟩) rfl ?_
      refine ax_goto (tgt := 73) dK_arrange_121 (by decide) ?_
      exact ax_sub [1, 2, 0] rfl h
    · replace h := h.2 c9
      refine ax_aloadn 0 dK_arrange_93 rfl rfl ?_
      refine ax_iload 2 dK_arrange_94 rfl ?_
      refine ax_callV (dp2 := 1) (as := [.inl v5]) (st := []) dK_arrange_96 lK_49 sX_40 ⟨_, _, rfl⟩ rfl rfl (Nat.le_of_ble_eq_true rfl) (by decide) ?_
      refine ax_C_mono (fun _ M3 h => ?_) h
      refine ax_aloadn 0 dK_arrange_99 rfl rfl ?_
      refine ax_aloadn 0 dK_arrange_100 rfl rfl ?_
      refine ax_aloadn 1 dK_arrange_101 rfl rfl ?_
      refine ax_getr dK_arrange_102 fK_53 sX_2 rfl ?_
      refine ax_iload 2 dK_arrange_105 rfl ?_
      refine ax_iald dK_arrange_107 sX_4 q1.1 q1.2 ?_
      refine ax_callV (dp2 := 0) (as := [.inl (M3 4 (v5.toNat))]) (st := [.inr (.inr 40)]) dK_arrange_108 lK_56 sX_40 ⟨_, _, rfl⟩ rfl rfl (Nat.le_of_ble_eq_true rfl) (by decide) ?_
      refine ax_C_mono (fun r4 M5 h => ?_) h
      refine ax_iconst dK_arrange_111 (by decide) ?_
      obtain ⟨q6, h⟩ := h
      refine ax_iadd dK_arrange_112 q6 ?_
      refine ax_iload 2 dK_arrange_113 rfl ?_
      refine ax_callV (dp2 := 0) (as := [.inl (r4 + 1), .inl v5]) (st := []) dK_arrange_115 lK_42 sX_40 ⟨_, _, rfl⟩ rfl rfl (Nat.le_of_ble_eq_true rfl) (by decide) ?_
      refine ax_C_mono (fun _ M8 h => ?_) h
      refine ax_iinc (j := 2) dK_arrange_118 rfl (by decide) (show ax_r _ from ⟨by omega, by omega⟩) rfl ?_
      refine ax_goto (tgt := 73) dK_arrange_121 (by decide) ?_
      exact ax_sub [1, 2, 0] rfl h
theorem gK_arrange_23 {P : Int → ax_Mem → Prop} {M : ax_Mem} {v4 v5 v6 : Int} {c : Nat} (hc : c < 8) (h : (v6 ≤ 0 → kN_putIn [.inr (.inr 40), .inl v6, .inl v5] M (fun _ M2 => (-2147483648 ≤ (v5 + 1) ∧ (v5 + 1) < 2147483648) ∧ jK_arrange P 8 [(0, .inr (.inr (16 + 3 * c))), (1, .inr (.inr 40)), (2, .inr (.inr 2)), (3, .inr (.inr 1)), (4, .inl v4), (5, .inl (v5 + 1))] [] M2)) ∧ (¬ v6 ≤ 0 → (-2147483648 ≤ (v6 - 1) ∧ (v6 - 1) < 2147483648) ∧ (0 ≤ (v6 - 1) ∧ (v6 - 1) < 12) ∧ kK_isAhead [.inr (.inr (16 + 3 * c)), .inl v5, .inl (M 41 ((v6 - 1).toNat)), .inr (.inr 2), .inr (.inr 1), .inl v4] M (fun r6 M7 => (r6 = 0 → kN_putIn [.inr (.inr 40), .inl v6, .inl v5] M7 (fun _ M9 => (-2147483648 ≤ (v5 + 1) ∧ (v5 + 1) < 2147483648) ∧ jK_arrange P 8 [(0, .inr (.inr (16 + 3 * c))), (1, .inr (.inr 40)), (2, .inr (.inr 2)), (3, .inr (.inr 1)), (4, .inl v4), (5, .inl (v5 + 1))] [] M9)) ∧ (¬ r6 = 0 → (-2147483648 ≤ (v6 + (-1)) ∧ (v6 + (-1)) < 2147483648) ∧ jK_arrange P 23 [(0, .inr (.inr (16 + 3 * c))), (1, .inr (.inr 40)), (2, .inr (.inr 2)), (3, .inr (.inr 1)), (4, .inl v4), (5, .inl v5), (6, .inl (v6 + (-1)))] [] M7)))) : jK_arrange P 23 [(0, .inr (.inr (16 + 3 * c))), (1, .inr (.inr 40)), (2, .inr (.inr 2)), (3, .inr (.inr 1)), (4, .inl v4), (5, .inl v5), (6, .inl v6)] [] M := by
  refine ax_iload 6 dK_arrange_23 rfl ?_
  refine ax_if_le (tgt := 56) dK_arrange_25 (by decide) (fun c13 => ?_) (fun c13 => ?_)
  · replace h := h.1 c13
    refine ax_aloadn 1 dK_arrange_56 rfl rfl ?_
    refine ax_iload 6 dK_arrange_57 rfl ?_
    refine ax_iload 5 dK_arrange_59 rfl ?_
    refine ax_callV (dp2 := 0) (as := [.inl v6, .inl v5]) (st := []) dK_arrange_61 lK_42 sX_40 ⟨_, _, rfl⟩ rfl rfl (Nat.le_of_ble_eq_true rfl) (by decide) ?_
    refine ax_C_mono (fun _ M2 h => ?_) h
    obtain ⟨q3, h⟩ := h
    refine ax_iinc (j := 5) dK_arrange_64 rfl (by decide) q3 rfl ?_
    refine ax_goto (tgt := 8) dK_arrange_67 (by decide) ?_
    exact ax_sub [1, 2, 3, 4, 5, 0] rfl h
  · replace h := h.2 c13
    refine ax_aloadn 0 dK_arrange_28 rfl rfl ?_
    refine ax_iload 5 dK_arrange_29 rfl ?_
    refine ax_aloadn 1 dK_arrange_31 rfl rfl ?_
    refine ax_getr dK_arrange_32 fK_35 sX_40 rfl ?_
    refine ax_iload 6 dK_arrange_35 rfl ?_
    refine ax_iconst dK_arrange_37 (by decide) ?_
    obtain ⟨q4, h⟩ := h
    refine ax_isub dK_arrange_38 q4 ?_
    obtain ⟨q5, h⟩ := h
    refine ax_iald dK_arrange_39 sX_41 q5.1 q5.2 ?_
    refine ax_aloadn 2 dK_arrange_40 rfl rfl ?_
    refine ax_aloadn 3 dK_arrange_41 rfl rfl ?_
    refine ax_iload 4 dK_arrange_42 rfl ?_
    refine ax_callV (dp2 := 2) (as := [.inl v5, .inl (M 41 ((v6 - 1).toNat)), .inr (.inr 2), .inr (.inr 1), .inl v4]) (st := []) dK_arrange_44 lK_38 (sX_call0 hc) ⟨_, _, rfl⟩ rfl rfl (Nat.le_of_ble_eq_true rfl) (by decide) ?_
    refine ax_C_mono (fun r6 M7 h => ?_) h
    refine ax_if_eq (tgt := 56) dK_arrange_47 (by decide) (fun c12 => ?_) (fun c12 => ?_)
    · replace h := h.1 c12
      refine ax_aloadn 1 dK_arrange_56 rfl rfl ?_
      refine ax_iload 6 dK_arrange_57 rfl ?_
      refine ax_iload 5 dK_arrange_59 rfl ?_
      refine ax_callV (dp2 := 0) (as := [.inl v6, .inl v5]) (st := []) dK_arrange_61 lK_42 sX_40 ⟨_, _, rfl⟩ rfl rfl (Nat.le_of_ble_eq_true rfl) (by decide) ?_
      refine ax_C_mono (fun _ M9 h => ?_) h
      obtain ⟨q10, h⟩ := h
      refine ax_iinc (j := 5) dK_arrange_64 rfl (by decide) q10 rfl ?_
      refine ax_goto (tgt := 8) dK_arrange_67 (by decide) ?_
      exact ax_sub [1, 2, 3, 4, 5, 0] rfl h
    · replace h := h.2 c12
      obtain ⟨q11, h⟩ := h
      refine ax_iinc (j := 6) dK_arrange_50 rfl (by decide) q11 rfl ?_
      refine ax_goto (tgt := 23) dK_arrange_53 (by decide) ?_
      exact ax_sub [1, 2, 3, 4, 5, 6, 0] rfl h
theorem eK_arrange {P : Int → ax_Mem → Prop} {M : ax_Mem} {a4 : Int} {c : Nat} (hc : c < 8) (h : jK_arrange P 8 [(0, .inr (.inr (16 + 3 * c))), (1, .inr (.inr 40)), (2, .inr (.inr 2)), (3, .inr (.inr 1)), (4, .inl a4), (5, .inl 0)] [] (ax_u M 40 1 0)) : kK_arrange [.inr (.inr (16 + 3 * c)), .inr (.inr 40), .inr (.inr 2), .inr (.inr 1), .inl a4] M P := ax_ofJ (by decide) (Nat.le_of_ble_eq_true rfl) (gK_arrange_0 hc h)
-- I_keep dp 1
theorem gI_keep_0 {P : Int → ax_Mem → Prop} {M : ax_Mem} (h : P 0 (ax_cp (ax_cp (ax_u (ax_u M 10 3 1) 10 2 (M 2 7)) 8 11 12) 9 12 12)) : jI_keep P 0 [(0, .inr (.inr 10)), (1, .inr (.inr 2))] [] M := by
  refine ax_aloadn 0 dI_keep_0 rfl rfl ?_
  refine ax_iconst dI_keep_1 (by decide) ?_
  refine ax_putz dI_keep_2 pI_18 sX_10 rfl (by decide) ?_
  refine ax_aloadn 0 dI_keep_5 rfl rfl ?_
  refine ax_aloadn 1 dI_keep_6 rfl rfl ?_
  refine ax_geti dI_keep_7 fI_22 sX_2 rfl ?_
  refine ax_top (x' := M 2 7) (by first | rfl | exact ax_u_at _ _ _ _) ?_
  refine ax_puti dI_keep_10 pI_28 sX_10 rfl ?_
  refine ax_aloadn 1 dI_keep_13 rfl rfl ?_
  refine ax_getr dI_keep_14 fI_29 sX_2 rfl ?_
  refine ax_iconst dI_keep_17 (by decide) ?_
  refine ax_aloadn 0 dI_keep_18 rfl rfl ?_
  refine ax_getr dI_keep_19 fI_9 sX_10 rfl ?_
  refine ax_iconst dI_keep_22 (by decide) ?_
  refine ax_bipush dI_keep_23 (by decide) ?_
  refine ax_copy dI_keep_25 mI_30 sX_8 sX_11 (by decide) (by decide) (by decide) (Nat.le_of_ble_eq_true rfl) (by decide) ?_
  refine ax_aloadn 1 dI_keep_28 rfl rfl ?_
  refine ax_getr dI_keep_29 fI_36 sX_2 rfl ?_
  refine ax_iconst dI_keep_32 (by decide) ?_
  refine ax_aloadn 0 dI_keep_33 rfl rfl ?_
  refine ax_getr dI_keep_34 fI_15 sX_10 rfl ?_
  refine ax_iconst dI_keep_37 (by decide) ?_
  refine ax_bipush dI_keep_38 (by decide) ?_
  refine ax_copy dI_keep_40 mI_30 sX_9 sX_12 (by decide) (by decide) (by decide) (Nat.le_of_ble_eq_true rfl) (by decide) ?_
  exact ax_vret dI_keep_43 h
theorem eI_keep {P : Int → ax_Mem → Prop} {M : ax_Mem} (h : P 0 (ax_cp (ax_cp (ax_u (ax_u M 10 3 1) 10 2 (M 2 7)) 8 11 12) 9 12 12)) : kI_keep [.inr (.inr 10), .inr (.inr 2)] M P := ax_ofJ (by decide) (Nat.le_of_ble_eq_true rfl) (gI_keep_0 h)
-- I_giveBack dp 1
theorem gI_giveBack_0 {P : Int → ax_Mem → Prop} {M : ax_Mem} (h : P 0 (ax_cp (ax_cp (ax_u M 2 7 (M 10 2)) 11 8 12) 12 9 12)) : jI_giveBack P 0 [(0, .inr (.inr 10)), (1, .inr (.inr 2))] [] M := by
  refine ax_aloadn 1 dI_giveBack_0 rfl rfl ?_
  refine ax_aloadn 0 dI_giveBack_1 rfl rfl ?_
  refine ax_geti dI_giveBack_2 fI_28 sX_10 rfl ?_
  refine ax_puti dI_giveBack_5 pI_22 sX_2 rfl ?_
  refine ax_aloadn 0 dI_giveBack_8 rfl rfl ?_
  refine ax_getr dI_giveBack_9 fI_9 sX_10 rfl ?_
  refine ax_iconst dI_giveBack_12 (by decide) ?_
  refine ax_aloadn 1 dI_giveBack_13 rfl rfl ?_
  refine ax_getr dI_giveBack_14 fI_29 sX_2 rfl ?_
  refine ax_iconst dI_giveBack_17 (by decide) ?_
  refine ax_bipush dI_giveBack_18 (by decide) ?_
  refine ax_copy dI_giveBack_20 mI_30 sX_11 sX_8 (by decide) (by decide) (by decide) (Nat.le_of_ble_eq_true rfl) (by decide) ?_
  refine ax_aloadn 0 dI_giveBack_23 rfl rfl ?_
  refine ax_getr dI_giveBack_24 fI_15 sX_10 rfl ?_
  refine ax_iconst dI_giveBack_27 (by decide) ?_
  refine ax_aloadn 1 dI_giveBack_28 rfl rfl ?_
  refine ax_getr dI_giveBack_29 fI_36 sX_2 rfl ?_
  refine ax_iconst dI_giveBack_32 (by decide) ?_
  refine ax_bipush dI_giveBack_33 (by decide) ?_
  refine ax_copy dI_giveBack_35 mI_30 sX_12 sX_9 (by decide) (by decide) (by decide) (Nat.le_of_ble_eq_true rfl) (by decide) ?_
  exact ax_vret dI_giveBack_38 h
theorem eI_giveBack {P : Int → ax_Mem → Prop} {M : ax_Mem} (h : P 0 (ax_cp (ax_cp (ax_u M 2 7 (M 10 2)) 11 8 12) 12 9 12)) : kI_giveBack [.inr (.inr 10), .inr (.inr 2)] M P := ax_ofJ (by decide) (Nat.le_of_ble_eq_true rfl) (gI_giveBack_0 h)
-- L_goOn dp 0
theorem gL_goOn_0 {P : Int → ax_Mem → Prop} {M : ax_Mem} {a1 : Int} (h : jL_goOn P 2 [(0, .inr (.inr 66)), (1, .inl a1), (2, .inl 0)] [] M) : jL_goOn P 0 [(0, .inr (.inr 66)), (1, .inl a1)] [] M := by
  refine ax_iconst dL_goOn_0 (by decide) ?_
  refine ax_istoren dL_goOn_1 rfl (by decide) rfl ?_
  exact ax_sub [1, 2, 0] rfl h
theorem gL_goOn_2 {P : Int → ax_Mem → Prop} {M : ax_Mem} {v1 v2 : Int} (h : ((M 66 5) ≤ v2 → P 0 M) ∧ (¬ (M 66 5) ≤ v2 → (0 ≤ v2 ∧ v2 < 12) ∧ (¬ (M 67 (v2.toNat)) = (-1) → (0 ≤ (M 67 (v2.toNat)) ∧ (M 67 (v2.toNat)) < 12) ∧ ((M 68 ((M 67 (v2.toNat)).toNat)) ≤ 0 → (¬ v2 = 0 → (0 ≤ (v2 - 1) ∧ (v2 - 1) < 12) ∧ (¬ (M 67 ((v2 - 1).toNat)) = (-1) → jL_goOn P 2 [(0, .inr (.inr 66)), (1, .inl v1), (2, .inl (v2 + 1))] [] M) ∧ ((M 67 ((v2 - 1).toNat)) = (-1) → jL_goOn P 2 [(0, .inr (.inr 66)), (1, .inl v1), (2, .inl (v2 + 1))] [] (ax_u (ax_u M 67 ((v2 - 1).toNat) (M 67 (v2.toNat))) 67 (v2.toNat) (-1)))) ∧ (v2 = 0 → (-2147483648 ≤ ((M 66 7) + 1) ∧ ((M 66 7) + 1) < 2147483648) ∧ jL_goOn P 2 [(0, .inr (.inr 66)), (1, .inl v1), (2, .inl (v2 + 1))] [] (ax_u (ax_u (ax_u (ax_u M 67 (v2.toNat) (-1)) 70 ((M 67 (v2.toNat)).toNat) v1) 66 7 ((M 66 7) + 1)) 66 8 v1))) ∧ (¬ (M 68 ((M 67 (v2.toNat)).toNat)) ≤ 0 → (-2147483648 ≤ ((M 68 ((M 67 (v2.toNat)).toNat)) - 1) ∧ ((M 68 ((M 67 (v2.toNat)).toNat)) - 1) < 2147483648) ∧ jL_goOn P 2 [(0, .inr (.inr 66)), (1, .inl v1), (2, .inl (v2 + 1))] [] (ax_u M 68 ((M 67 (v2.toNat)).toNat) ((M 68 ((M 67 (v2.toNat)).toNat)) - 1)))) ∧ ((M 67 (v2.toNat)) = (-1) → jL_goOn P 2 [(0, .inr (.inr 66)), (1, .inl v1), (2, .inl (v2 + 1))] [] M))) : jL_goOn P 2 [(0, .inr (.inr 66)), (1, .inl v1), (2, .inl v2)] [] M := by
  refine ax_iloadn 2 dL_goOn_2 rfl rfl ?_
  refine ax_aloadn 0 dL_goOn_3 rfl rfl ?_
  refine ax_geti dL_goOn_4 fL_35 sX_66 rfl ?_
  refine ax_icmp_ge (tgt := 117) dL_goOn_7 (by decide) (fun c10 => ?_) (fun c10 => ?_)
  · replace h := h.1 c10
    exact ax_vret dL_goOn_117 h
  · replace h := h.2 c10
    refine ax_aloadn 0 dL_goOn_10 rfl rfl ?_
    refine ax_getr dL_goOn_11 fL_9 sX_66 rfl ?_
    refine ax_iloadn 2 dL_goOn_14 rfl rfl ?_
    obtain ⟨q1, h⟩ := h
    refine ax_iald dL_goOn_15 sX_67 q1.1 q1.2 ?_
    refine ax_istoren dL_goOn_16 rfl (by decide) rfl ?_
    refine ax_iloadn 0 dL_goOn_17 rfl rfl ?_
    refine ax_iconst dL_goOn_18 (by decide) ?_
    refine ax_icmp_ne (tgt := 25) dL_goOn_19 (by decide) (fun c9 => ?_) (fun c9 => ?_)
    · replace h := h.1 c9
      refine ax_aloadn 1 dL_goOn_25 rfl rfl ?_
      refine ax_getr dL_goOn_26 fL_15 sX_66 rfl ?_
      refine ax_iloadn 0 dL_goOn_29 rfl rfl ?_
      obtain ⟨q2, h⟩ := h
      refine ax_iald dL_goOn_30 sX_68 q2.1 q2.2 ?_
      refine ax_if_le (tgt := 47) dL_goOn_31 (by decide) (fun c8 => ?_) (fun c8 => ?_)
      · replace h := h.1 c8
        refine ax_iloadn 3 dL_goOn_47 rfl rfl ?_
        refine ax_if_ne (tgt := 83) dL_goOn_48 (by decide) (fun c6 => ?_) (fun c6 => ?_)
        · replace h := h.1 c6
          refine ax_aloadn 1 dL_goOn_83 rfl rfl ?_
          refine ax_getr dL_goOn_84 fL_9 sX_66 rfl ?_
          refine ax_iloadn 3 dL_goOn_87 rfl rfl ?_
          refine ax_iconst dL_goOn_88 (by decide) ?_
          refine ax_isub dL_goOn_89 (show ax_r _ from ⟨by omega, by omega⟩) ?_
          obtain ⟨q3, h⟩ := h
          refine ax_iald dL_goOn_90 sX_67 q3.1 q3.2 ?_
          refine ax_iconst dL_goOn_91 (by decide) ?_
          refine ax_icmp_ne (tgt := 111) dL_goOn_92 (by decide) (fun c4 => ?_) (fun c4 => ?_)
          · replace h := h.1 c4
            refine ax_iinc (j := 3) dL_goOn_111 rfl (by decide) (show ax_r _ from ⟨by omega, by omega⟩) rfl ?_
            refine ax_goto (tgt := 2) dL_goOn_114 (by decide) ?_
            exact ax_sub [2, 3, 0] rfl h
          · replace h := h.2 c4
            refine ax_aloadn 1 dL_goOn_95 rfl rfl ?_
            refine ax_getr dL_goOn_96 fL_9 sX_66 rfl ?_
            refine ax_iloadn 3 dL_goOn_99 rfl rfl ?_
            refine ax_iconst dL_goOn_100 (by decide) ?_
            refine ax_isub dL_goOn_101 (show ax_r _ from ⟨by omega, by omega⟩) ?_
            refine ax_iloadn 0 dL_goOn_102 rfl rfl ?_
            refine ax_iast dL_goOn_103 sX_67 (by omega) (by omega) ?_
            refine ax_aloadn 1 dL_goOn_104 rfl rfl ?_
            refine ax_getr dL_goOn_105 fL_9 sX_66 rfl ?_
            refine ax_iloadn 3 dL_goOn_108 rfl rfl ?_
            refine ax_iconst dL_goOn_109 (by decide) ?_
            refine ax_iast dL_goOn_110 sX_67 (by omega) (by omega) ?_
            refine ax_iinc (j := 3) dL_goOn_111 rfl (by decide) (show ax_r _ from ⟨by omega, by omega⟩) rfl ?_
            refine ax_goto (tgt := 2) dL_goOn_114 (by decide) ?_
            exact ax_sub [2, 3, 0] rfl h
        · replace h := h.2 c6
          refine ax_aloadn 1 dL_goOn_51 rfl rfl ?_
          refine ax_getr dL_goOn_52 fL_9 sX_66 rfl ?_
          refine ax_iloadn 3 dL_goOn_55 rfl rfl ?_
          refine ax_iconst dL_goOn_56 (by decide) ?_
          refine ax_iast dL_goOn_57 sX_67 (by omega) (by omega) ?_
          refine ax_aloadn 1 dL_goOn_58 rfl rfl ?_
          refine ax_getr dL_goOn_59 fL_22 sX_66 rfl ?_
          refine ax_iloadn 0 dL_goOn_62 rfl rfl ?_
          refine ax_iloadn 2 dL_goOn_63 rfl rfl ?_
          refine ax_iast dL_goOn_64 sX_70 (by omega) (by omega) ?_
          refine ax_aloadn 1 dL_goOn_65 rfl rfl ?_
          refine ax_dup dL_goOn_66 rfl ?_
          refine ax_geti dL_goOn_67 fL_42 sX_66 rfl ?_
          refine ax_top (x' := M 66 7) (by first | rfl | exact ax_u_at _ _ _ _) ?_
          refine ax_iconst dL_goOn_70 (by decide) ?_
          obtain ⟨q5, h⟩ := h
          refine ax_iadd dL_goOn_71 q5 ?_
          refine ax_puti dL_goOn_72 pL_42 sX_66 rfl ?_
          refine ax_aloadn 1 dL_goOn_75 rfl rfl ?_
          refine ax_iloadn 2 dL_goOn_76 rfl rfl ?_
          refine ax_puti dL_goOn_77 pL_45 sX_66 rfl ?_
          refine ax_goto (tgt := 111) dL_goOn_80 (by decide) ?_
          refine ax_iinc (j := 3) dL_goOn_111 rfl (by decide) (show ax_r _ from ⟨by omega, by omega⟩) rfl ?_
          refine ax_goto (tgt := 2) dL_goOn_114 (by decide) ?_
          exact ax_sub [2, 3, 0] rfl h
      · replace h := h.2 c8
        refine ax_aloadn 1 dL_goOn_34 rfl rfl ?_
        refine ax_getr dL_goOn_35 fL_15 sX_66 rfl ?_
        refine ax_iloadn 0 dL_goOn_38 rfl rfl ?_
        refine ax_dup2 dL_goOn_39 rfl rfl ?_
        refine ax_iald dL_goOn_40 sX_68 q2.1 q2.2 ?_
        refine ax_iconst dL_goOn_41 (by decide) ?_
        obtain ⟨q7, h⟩ := h
        refine ax_isub dL_goOn_42 q7 ?_
        refine ax_iast dL_goOn_43 sX_68 (by omega) (by omega) ?_
        refine ax_goto (tgt := 111) dL_goOn_44 (by decide) ?_
        refine ax_iinc (j := 3) dL_goOn_111 rfl (by decide) (show ax_r _ from ⟨by omega, by omega⟩) rfl ?_
        refine ax_goto (tgt := 2) dL_goOn_114 (by decide) ?_
        exact ax_sub [2, 3, 0] rfl h
    · replace h := h.2 c9
      refine ax_goto (tgt := 111) dL_goOn_22 (by decide) ?_
      refine ax_iinc (j := 3) dL_goOn_111 rfl (by decide) (show ax_r _ from ⟨by omega, by omega⟩) rfl ?_
      refine ax_goto (tgt := 2) dL_goOn_114 (by decide) ?_
      exact ax_sub [2, 3, 0] rfl h
theorem eL_goOn {P : Int → ax_Mem → Prop} {M : ax_Mem} {a1 : Int} (h : jL_goOn P 2 [(0, .inr (.inr 66)), (1, .inl a1), (2, .inl 0)] [] M) : kL_goOn [.inr (.inr 66), .inl a1] M P := ax_ofJ (by decide) (Nat.le_of_ble_eq_true rfl) (gL_goOn_0 h)
-- L_turnOf dp 0
theorem gL_turnOf_0 {P : Int → ax_Mem → Prop} {M : ax_Mem} {a1 : Int} (h : (¬ (M 66 6) = 1 → (¬ (M 66 6) = 2 → P 0 M) ∧ ((M 66 6) = 2 → (0 ≤ a1 ∧ a1 < 12) ∧ P (M 5 (a1.toNat)) M)) ∧ ((M 66 6) = 1 → (0 ≤ a1 ∧ a1 < 12) ∧ P (M 7 (a1.toNat)) M)) : jL_turnOf P 0 [(0, .inr (.inr 66)), (1, .inl a1)] [] M := by
  refine ax_aloadn 0 dL_turnOf_0 rfl rfl ?_
  refine ax_geti dL_turnOf_1 fL_39 sX_66 rfl ?_
  refine ax_iconst dL_turnOf_4 (by decide) ?_
  refine ax_icmp_ne (tgt := 18) dL_turnOf_5 (by decide) (fun c4 => ?_) (fun c4 => ?_)
  · replace h := h.1 c4
    refine ax_aloadn 0 dL_turnOf_18 rfl rfl ?_
    refine ax_geti dL_turnOf_19 fL_39 sX_66 rfl ?_
    refine ax_iconst dL_turnOf_22 (by decide) ?_
    refine ax_icmp_ne (tgt := 38) dL_turnOf_23 (by decide) (fun c2 => ?_) (fun c2 => ?_)
    · replace h := h.1 c2
      refine ax_iconst dL_turnOf_38 (by decide) ?_
      exact ax_iret dL_turnOf_39 h
    · replace h := h.2 c2
      refine ax_aloadn 0 dL_turnOf_26 rfl rfl ?_
      refine ax_getr dL_turnOf_27 fL_25 sX_66 rfl ?_
      refine ax_getr dL_turnOf_30 fL_77 sX_2 rfl ?_
      refine ax_iloadn 1 dL_turnOf_33 rfl rfl ?_
      obtain ⟨q1, h⟩ := h
      refine ax_iald dL_turnOf_34 sX_5 q1.1 q1.2 ?_
      refine ax_goto (tgt := 39) dL_turnOf_35 (by decide) ?_
      exact ax_iret dL_turnOf_39 h
  · replace h := h.2 c4
    refine ax_aloadn 0 dL_turnOf_8 rfl rfl ?_
    refine ax_getr dL_turnOf_9 fL_25 sX_66 rfl ?_
    refine ax_getr dL_turnOf_12 fL_74 sX_2 rfl ?_
    refine ax_iloadn 1 dL_turnOf_15 rfl rfl ?_
    obtain ⟨q3, h⟩ := h
    refine ax_iald dL_turnOf_16 sX_7 q3.1 q3.2 ?_
    exact ax_iret dL_turnOf_17 h
theorem eL_turnOf {P : Int → ax_Mem → Prop} {M : ax_Mem} {a1 : Int} (h : (¬ (M 66 6) = 1 → (¬ (M 66 6) = 2 → P 0 M) ∧ ((M 66 6) = 2 → (0 ≤ a1 ∧ a1 < 12) ∧ P (M 5 (a1.toNat)) M)) ∧ ((M 66 6) = 1 → (0 ≤ a1 ∧ a1 < 12) ∧ P (M 7 (a1.toNat)) M)) : kL_turnOf [.inr (.inr 66), .inl a1] M P := ax_ofJ (by decide) (Nat.le_of_ble_eq_true rfl) (gL_turnOf_0 h)
-- L_leastTurn dp 1
theorem gL_leastTurn_0 {P : Int → ax_Mem → Prop} {M : ax_Mem} (h : jL_leastTurn P 5 [(0, .inr (.inr 66)), (1, .inl 12), (2, .inl 0)] [] M) : jL_leastTurn P 0 [(0, .inr (.inr 66))] [] M := by
  refine ax_bipush dL_leastTurn_0 (by decide) ?_
  refine ax_istoren dL_leastTurn_2 rfl (by decide) rfl ?_
  refine ax_iconst dL_leastTurn_3 (by decide) ?_
  refine ax_istoren dL_leastTurn_4 rfl (by decide) rfl ?_
  exact ax_sub [2, 1, 0] rfl h
theorem gL_leastTurn_5 {P : Int → ax_Mem → Prop} {M : ax_Mem} {v1 v2 : Int} (h : ((M 2 7) ≤ v2 → P v1 M) ∧ (¬ (M 2 7) ≤ v2 → (0 ≤ v2 ∧ v2 < 12) ∧ (¬ (M 69 (v2.toNat)) = 0 → jL_leastTurn P 5 [(0, .inr (.inr 66)), (1, .inl v1), (2, .inl (v2 + 1))] [] M) ∧ ((M 69 (v2.toNat)) = 0 → kL_turnOf [.inr (.inr 66), .inl v2] M (fun r2 M3 => jL_leastTurn P 5 [(0, .inr (.inr 66)), (1, .inl (min v1 r2)), (2, .inl (v2 + 1))] [] M3)))) : jL_leastTurn P 5 [(0, .inr (.inr 66)), (1, .inl v1), (2, .inl v2)] [] M := by
  refine ax_iloadn 2 dL_leastTurn_5 rfl rfl ?_
  refine ax_aloadn 0 dL_leastTurn_6 rfl rfl ?_
  refine ax_getr dL_leastTurn_7 fL_25 sX_66 rfl ?_
  refine ax_geti dL_leastTurn_10 fL_48 sX_2 rfl ?_
  refine ax_icmp_ge (tgt := 41) dL_leastTurn_13 (by decide) (fun c5 => ?_) (fun c5 => ?_)
  · replace h := h.1 c5
    refine ax_iloadn 1 dL_leastTurn_41 rfl rfl ?_
    exact ax_iret dL_leastTurn_42 h
  · replace h := h.2 c5
    refine ax_aloadn 0 dL_leastTurn_16 rfl rfl ?_
    refine ax_getr dL_leastTurn_17 fL_18 sX_66 rfl ?_
    refine ax_iloadn 2 dL_leastTurn_20 rfl rfl ?_
    obtain ⟨q1, h⟩ := h
    refine ax_zald dL_leastTurn_21 sX_69 q1.1 q1.2 ?_
    refine ax_if_ne (tgt := 35) dL_leastTurn_22 (by decide) (fun c4 => ?_) (fun c4 => ?_)
    · replace h := h.1 c4
      refine ax_iinc (j := 2) dL_leastTurn_35 rfl (by decide) (show ax_r _ from ⟨by omega, by omega⟩) rfl ?_
      refine ax_goto (tgt := 5) dL_leastTurn_38 (by decide) ?_
      exact ax_sub [1, 2, 0] rfl h
    · replace h := h.2 c4
      refine ax_iloadn 1 dL_leastTurn_25 rfl rfl ?_
      refine ax_aloadn 0 dL_leastTurn_26 rfl rfl ?_
      refine ax_iloadn 2 dL_leastTurn_27 rfl rfl ?_
      refine ax_callV (dp2 := 0) (as := [.inl v2]) (st := [.inl v1]) dL_leastTurn_28 lL_70 sX_66 ⟨_, _, rfl⟩ rfl rfl (Nat.le_of_ble_eq_true rfl) (by decide) ?_
      refine ax_C_mono (fun r2 M3 h => ?_) h
      refine ax_mmin dL_leastTurn_31 mL_29 (Nat.le_of_ble_eq_true rfl) (by decide) ?_
      refine ax_istoren dL_leastTurn_34 rfl (by decide) rfl ?_
      refine ax_iinc (j := 2) dL_leastTurn_35 rfl (by decide) (show ax_r _ from ⟨by omega, by omega⟩) rfl ?_
      refine ax_goto (tgt := 5) dL_leastTurn_38 (by decide) ?_
      exact ax_sub [2, 1, 0] rfl h
theorem eL_leastTurn {P : Int → ax_Mem → Prop} {M : ax_Mem} (h : jL_leastTurn P 5 [(0, .inr (.inr 66)), (1, .inl 12), (2, .inl 0)] [] M) : kL_leastTurn [.inr (.inr 66)] M P := ax_ofJ (by decide) (Nat.le_of_ble_eq_true rfl) (gL_leastTurn_0 h)
-- L_isNearer dp 0
theorem gL_isNearer_0 {P : Int → ax_Mem → Prop} {M : ax_Mem} {a1 a2 : Int} (h : (0 ≤ a1 ∧ a1 < 12) ∧ (0 ≤ a2 ∧ a2 < 12) ∧ ((M 7 (a1.toNat)) = (M 7 (a2.toNat)) → ((M 6 (a2.toNat)) ≤ (M 6 (a1.toNat)) → P 0 M) ∧ (¬ (M 6 (a2.toNat)) ≤ (M 6 (a1.toNat)) → P 1 M)) ∧ (¬ (M 7 (a1.toNat)) = (M 7 (a2.toNat)) → ((M 7 (a2.toNat)) ≤ (M 7 (a1.toNat)) → P 0 M) ∧ (¬ (M 7 (a2.toNat)) ≤ (M 7 (a1.toNat)) → P 1 M))) : jL_isNearer P 0 [(0, .inr (.inr 66)), (1, .inl a1), (2, .inl a2)] [] M := by
  refine ax_aloadn 0 dL_isNearer_0 rfl rfl ?_
  refine ax_getr dL_isNearer_1 fL_25 sX_66 rfl ?_
  refine ax_getr dL_isNearer_4 fL_74 sX_2 rfl ?_
  refine ax_iloadn 1 dL_isNearer_7 rfl rfl ?_
  obtain ⟨q1, h⟩ := h
  refine ax_iald dL_isNearer_8 sX_7 q1.1 q1.2 ?_
  refine ax_aloadn 0 dL_isNearer_9 rfl rfl ?_
  refine ax_getr dL_isNearer_10 fL_25 sX_66 rfl ?_
  refine ax_getr dL_isNearer_13 fL_74 sX_2 rfl ?_
  refine ax_iloadn 2 dL_isNearer_16 rfl rfl ?_
  obtain ⟨q2, h⟩ := h
  refine ax_iald dL_isNearer_17 sX_7 q2.1 q2.2 ?_
  refine ax_icmp_eq (tgt := 48) dL_isNearer_18 (by decide) (fun c5 => ?_) (fun c5 => ?_)
  · replace h := h.1 c5
    refine ax_aloadn 0 dL_isNearer_48 rfl rfl ?_
    refine ax_getr dL_isNearer_49 fL_25 sX_66 rfl ?_
    refine ax_getr dL_isNearer_52 fL_84 sX_2 rfl ?_
    refine ax_iloadn 1 dL_isNearer_55 rfl rfl ?_
    refine ax_iald dL_isNearer_56 sX_6 q1.1 q1.2 ?_
    refine ax_aloadn 0 dL_isNearer_57 rfl rfl ?_
    refine ax_getr dL_isNearer_58 fL_25 sX_66 rfl ?_
    refine ax_getr dL_isNearer_61 fL_84 sX_2 rfl ?_
    refine ax_iloadn 2 dL_isNearer_64 rfl rfl ?_
    refine ax_iald dL_isNearer_65 sX_6 q2.1 q2.2 ?_
    refine ax_icmp_ge (tgt := 73) dL_isNearer_66 (by decide) (fun c3 => ?_) (fun c3 => ?_)
    · replace h := h.1 c3
      refine ax_iconst dL_isNearer_73 (by decide) ?_
      exact ax_zret dL_isNearer_74 (by decide) h
    · replace h := h.2 c3
      refine ax_iconst dL_isNearer_69 (by decide) ?_
      refine ax_goto (tgt := 74) dL_isNearer_70 (by decide) ?_
      exact ax_zret dL_isNearer_74 (by decide) h
  · replace h := h.2 c5
    refine ax_aloadn 0 dL_isNearer_21 rfl rfl ?_
    refine ax_getr dL_isNearer_22 fL_25 sX_66 rfl ?_
    refine ax_getr dL_isNearer_25 fL_74 sX_2 rfl ?_
    refine ax_iloadn 1 dL_isNearer_28 rfl rfl ?_
    refine ax_iald dL_isNearer_29 sX_7 q1.1 q1.2 ?_
    refine ax_aloadn 0 dL_isNearer_30 rfl rfl ?_
    refine ax_getr dL_isNearer_31 fL_25 sX_66 rfl ?_
    refine ax_getr dL_isNearer_34 fL_74 sX_2 rfl ?_
    refine ax_iloadn 2 dL_isNearer_37 rfl rfl ?_
    refine ax_iald dL_isNearer_38 sX_7 q2.1 q2.2 ?_
    refine ax_icmp_ge (tgt := 46) dL_isNearer_39 (by decide) (fun c4 => ?_) (fun c4 => ?_)
    · replace h := h.1 c4
      refine ax_iconst dL_isNearer_46 (by decide) ?_
      exact ax_zret dL_isNearer_47 (by decide) h
    · replace h := h.2 c4
      refine ax_iconst dL_isNearer_42 (by decide) ?_
      refine ax_goto (tgt := 47) dL_isNearer_43 (by decide) ?_
      exact ax_zret dL_isNearer_47 (by decide) h
theorem eL_isNearer {P : Int → ax_Mem → Prop} {M : ax_Mem} {a1 a2 : Int} (h : (0 ≤ a1 ∧ a1 < 12) ∧ (0 ≤ a2 ∧ a2 < 12) ∧ ((M 7 (a1.toNat)) = (M 7 (a2.toNat)) → ((M 6 (a2.toNat)) ≤ (M 6 (a1.toNat)) → P 0 M) ∧ (¬ (M 6 (a2.toNat)) ≤ (M 6 (a1.toNat)) → P 1 M)) ∧ (¬ (M 7 (a1.toNat)) = (M 7 (a2.toNat)) → ((M 7 (a2.toNat)) ≤ (M 7 (a1.toNat)) → P 0 M) ∧ (¬ (M 7 (a2.toNat)) ≤ (M 7 (a1.toNat)) → P 1 M))) : kL_isNearer [.inr (.inr 66), .inl a1, .inl a2] M P := ax_ofJ (by decide) (Nat.le_of_ble_eq_true rfl) (gL_isNearer_0 h)
-- L_nextOf dp 1
theorem gL_nextOf_0 {P : Int → ax_Mem → Prop} {M : ax_Mem} {a1 a2 : Int} (h : jL_nextOf P 5 [(0, .inr (.inr 66)), (1, .inl a1), (2, .inl a2), (3, .inl (-1)), (4, .inl 0)] [] M) : jL_nextOf P 0 [(0, .inr (.inr 66)), (1, .inl a1), (2, .inl a2)] [] M := by
  refine ax_iconst dL_nextOf_0 (by decide) ?_
  refine ax_istoren dL_nextOf_1 rfl (by decide) rfl ?_
  refine ax_iconst dL_nextOf_2 (by decide) ?_
  refine ax_istore dL_nextOf_3 (by decide) rfl ?_
  exact ax_sub [2, 3, 4, 1, 0] rfl h
theorem gL_nextOf_5 {P : Int → ax_Mem → Prop} {M : ax_Mem} {v1 v2 v3 v4 : Int} (h : ((M 2 7) ≤ v4 → P v3 M) ∧ (¬ (M 2 7) ≤ v4 → (0 ≤ v4 ∧ v4 < 12) ∧ (¬ (M 69 (v4.toNat)) = 0 → jL_nextOf P 5 [(0, .inr (.inr 66)), (1, .inl v1), (2, .inl v2), (3, .inl v3), (4, .inl (v4 + 1))] [] M) ∧ ((M 69 (v4.toNat)) = 0 → (¬ (M 5 (v4.toNat)) = v1 → jL_nextOf P 5 [(0, .inr (.inr 66)), (1, .inl v1), (2, .inl v2), (3, .inl v3), (4, .inl (v4 + 1))] [] M) ∧ ((M 5 (v4.toNat)) = v1 → kL_turnOf [.inr (.inr 66), .inl v4] M (fun r2 M3 => (¬ r2 = v2 → jL_nextOf P 5 [(0, .inr (.inr 66)), (1, .inl v1), (2, .inl v2), (3, .inl v3), (4, .inl (v4 + 1))] [] M3) ∧ (r2 = v2 → (v3 = (-1) → jL_nextOf P 5 [(0, .inr (.inr 66)), (1, .inl v1), (2, .inl v2), (3, .inl v4), (4, .inl (v4 + 1))] [] M3) ∧ (¬ v3 = (-1) → kL_isNearer [.inr (.inr 66), .inl v4, .inl v3] M3 (fun r4 M5 => (r4 = 0 → jL_nextOf P 5 [(0, .inr (.inr 66)), (1, .inl v1), (2, .inl v2), (3, .inl v3), (4, .inl (v4 + 1))] [] M5) ∧ (¬ r4 = 0 → jL_nextOf P 5 [(0, .inr (.inr 66)), (1, .inl v1), (2, .inl v2), (3, .inl v4), (4, .inl (v4 + 1))] [] M5))))))))) : jL_nextOf P 5 [(0, .inr (.inr 66)), (1, .inl v1), (2, .inl v2), (3, .inl v3), (4, .inl v4)] [] M := by
  refine ax_iload 4 dL_nextOf_5 rfl ?_
  refine ax_aloadn 0 dL_nextOf_7 rfl rfl ?_
  refine ax_getr dL_nextOf_8 fL_25 sX_66 rfl ?_
  refine ax_geti dL_nextOf_11 fL_48 sX_2 rfl ?_
  refine ax_icmp_ge (tgt := 75) dL_nextOf_14 (by decide) (fun c11 => ?_) (fun c11 => ?_)
  · replace h := h.1 c11
    refine ax_iloadn 3 dL_nextOf_75 rfl rfl ?_
    exact ax_iret dL_nextOf_76 h
  · replace h := h.2 c11
    refine ax_aloadn 0 dL_nextOf_17 rfl rfl ?_
    refine ax_getr dL_nextOf_18 fL_18 sX_66 rfl ?_
    refine ax_iload 4 dL_nextOf_21 rfl ?_
    obtain ⟨q1, h⟩ := h
    refine ax_zald dL_nextOf_23 sX_69 q1.1 q1.2 ?_
    refine ax_if_ne (tgt := 69) dL_nextOf_24 (by decide) (fun c10 => ?_) (fun c10 => ?_)
    · replace h := h.1 c10
      refine ax_iinc (j := 4) dL_nextOf_69 rfl (by decide) (show ax_r _ from ⟨by omega, by omega⟩) rfl ?_
      refine ax_goto (tgt := 5) dL_nextOf_72 (by decide) ?_
      exact ax_sub [1, 2, 3, 4, 0] rfl h
    · replace h := h.2 c10
      refine ax_aloadn 0 dL_nextOf_27 rfl rfl ?_
      refine ax_getr dL_nextOf_28 fL_25 sX_66 rfl ?_
      refine ax_getr dL_nextOf_31 fL_77 sX_2 rfl ?_
      refine ax_iload 4 dL_nextOf_34 rfl ?_
      refine ax_iald dL_nextOf_36 sX_5 q1.1 q1.2 ?_
      refine ax_iloadn 1 dL_nextOf_37 rfl rfl ?_
      refine ax_icmp_ne (tgt := 69) dL_nextOf_38 (by decide) (fun c9 => ?_) (fun c9 => ?_)
      · replace h := h.1 c9
        refine ax_iinc (j := 4) dL_nextOf_69 rfl (by decide) (show ax_r _ from ⟨by omega, by omega⟩) rfl ?_
        refine ax_goto (tgt := 5) dL_nextOf_72 (by decide) ?_
        exact ax_sub [1, 2, 3, 4, 0] rfl h
      · replace h := h.2 c9
        refine ax_aloadn 0 dL_nextOf_41 rfl rfl ?_
        refine ax_iload 4 dL_nextOf_42 rfl ?_
        refine ax_callV (dp2 := 0) (as := [.inl v4]) (st := []) dL_nextOf_44 lL_70 sX_66 ⟨_, _, rfl⟩ rfl rfl (Nat.le_of_ble_eq_true rfl) (by decide) ?_
        refine ax_C_mono (fun r2 M3 h => ?_) h
        refine ax_iloadn 2 dL_nextOf_47 rfl rfl ?_
        refine ax_icmp_ne (tgt := 69) dL_nextOf_48 (by decide) (fun c8 => ?_) (fun c8 => ?_)
        · replace h := h.1 c8
          refine ax_iinc (j := 4) dL_nextOf_69 rfl (by decide) (show ax_r _ from ⟨by omega, by omega⟩) rfl ?_
          refine ax_goto (tgt := 5) dL_nextOf_72 (by decide) ?_
          exact ax_sub [1, 2, 3, 4, 0] rfl h
        · replace h := h.2 c8
          refine ax_iloadn 3 dL_nextOf_51 rfl rfl ?_
          refine ax_iconst dL_nextOf_52 (by decide) ?_
          refine ax_icmp_eq (tgt := 66) dL_nextOf_53 (by decide) (fun c7 => ?_) (fun c7 => ?_)
          · replace h := h.1 c7
            refine ax_iload 4 dL_nextOf_66 rfl ?_
            refine ax_istoren dL_nextOf_68 rfl (by decide) rfl ?_
            refine ax_iinc (j := 4) dL_nextOf_69 rfl (by decide) (show ax_r _ from ⟨by omega, by omega⟩) rfl ?_
            refine ax_goto (tgt := 5) dL_nextOf_72 (by decide) ?_
            exact ax_sub [2, 3, 4, 1, 0] rfl h
          · replace h := h.2 c7
            refine ax_aloadn 0 dL_nextOf_56 rfl rfl ?_
            refine ax_iload 4 dL_nextOf_57 rfl ?_
            refine ax_iloadn 3 dL_nextOf_59 rfl rfl ?_
            refine ax_callV (dp2 := 0) (as := [.inl v4, .inl v3]) (st := []) dL_nextOf_60 lL_80 sX_66 ⟨_, _, rfl⟩ rfl rfl (Nat.le_of_ble_eq_true rfl) (by decide) ?_
            refine ax_C_mono (fun r4 M5 h => ?_) h
            refine ax_if_eq (tgt := 69) dL_nextOf_63 (by decide) (fun c6 => ?_) (fun c6 => ?_)
            · replace h := h.1 c6
              refine ax_iinc (j := 4) dL_nextOf_69 rfl (by decide) (show ax_r _ from ⟨by omega, by omega⟩) rfl ?_
              refine ax_goto (tgt := 5) dL_nextOf_72 (by decide) ?_
              exact ax_sub [1, 2, 3, 4, 0] rfl h
            · replace h := h.2 c6
              refine ax_iload 4 dL_nextOf_66 rfl ?_
              refine ax_istoren dL_nextOf_68 rfl (by decide) rfl ?_
              refine ax_iinc (j := 4) dL_nextOf_69 rfl (by decide) (show ax_r _ from ⟨by omega, by omega⟩) rfl ?_
              refine ax_goto (tgt := 5) dL_nextOf_72 (by decide) ?_
              exact ax_sub [2, 3, 4, 1, 0] rfl h
theorem eL_nextOf {P : Int → ax_Mem → Prop} {M : ax_Mem} {a1 a2 : Int} (h : jL_nextOf P 5 [(0, .inr (.inr 66)), (1, .inl a1), (2, .inl a2), (3, .inl (-1)), (4, .inl 0)] [] M) : kL_nextOf [.inr (.inr 66), .inl a1, .inl a2] M P := ax_ofJ (by decide) (Nat.le_of_ble_eq_true rfl) (gL_nextOf_0 h)
-- L_getUp dp 2
theorem gL_getUp_0 {P : Int → ax_Mem → Prop} {M : ax_Mem} (h : kL_leastTurn [.inr (.inr 66)] M (fun r1 M2 => jL_getUp P 7 [(0, .inr (.inr 66)), (1, .inl r1), (2, .inl 0)] [] M2)) : jL_getUp P 0 [(0, .inr (.inr 66))] [] M := by
  refine ax_aloadn 0 dL_getUp_0 rfl rfl ?_
  refine ax_callV (dp2 := 1) (as := []) (st := []) dL_getUp_1 lL_60 sX_66 ⟨_, _, rfl⟩ rfl rfl (Nat.le_of_ble_eq_true rfl) (by decide) ?_
  refine ax_C_mono (fun r1 M2 h => ?_) h
  refine ax_istoren dL_getUp_4 rfl (by decide) rfl ?_
  refine ax_iconst dL_getUp_5 (by decide) ?_
  refine ax_istoren dL_getUp_6 rfl (by decide) rfl ?_
  exact ax_sub [2, 1, 0] rfl h
theorem gL_getUp_7 {P : Int → ax_Mem → Prop} {M : ax_Mem} {v1 v2 : Int} (h : ((M 66 5) ≤ v2 → P 0 M) ∧ (¬ (M 66 5) ≤ v2 → (0 ≤ v2 ∧ v2 < 12) ∧ (¬ (M 67 (v2.toNat)) = (-1) → jL_getUp P 7 [(0, .inr (.inr 66)), (1, .inl v1), (2, .inl (v2 + 1))] [] M) ∧ ((M 67 (v2.toNat)) = (-1) → kL_nextOf [.inr (.inr 66), .inl v2, .inl v1] M (fun r2 M3 => (r2 = (-1) → jL_getUp P 7 [(0, .inr (.inr 66)), (1, .inl v1), (2, .inl (v2 + 1))] [] M3) ∧ (¬ r2 = (-1) → (0 ≤ r2 ∧ r2 < 12) ∧ (-2147483648 ≤ (2 * (M3 8 (r2.toNat))) ∧ (2 * (M3 8 (r2.toNat))) < 2147483648) ∧ jL_getUp P 7 [(0, .inr (.inr 66)), (1, .inl v1), (2, .inl (v2 + 1))] [] (ax_u (ax_u (ax_u M3 67 (v2.toNat) r2) 69 (r2.toNat) 1) 68 (r2.toNat) (2 * (M3 8 (r2.toNat))))))))) : jL_getUp P 7 [(0, .inr (.inr 66)), (1, .inl v1), (2, .inl v2)] [] M := by
  refine ax_iloadn 2 dL_getUp_7 rfl rfl ?_
  refine ax_aloadn 0 dL_getUp_8 rfl rfl ?_
  refine ax_geti dL_getUp_9 fL_35 sX_66 rfl ?_
  refine ax_icmp_ge (tgt := 78) dL_getUp_12 (by decide) (fun c8 => ?_) (fun c8 => ?_)
  · replace h := h.1 c8
    exact ax_vret dL_getUp_78 h
  · replace h := h.2 c8
    refine ax_aloadn 0 dL_getUp_15 rfl rfl ?_
    refine ax_getr dL_getUp_16 fL_9 sX_66 rfl ?_
    refine ax_iloadn 2 dL_getUp_19 rfl rfl ?_
    obtain ⟨q1, h⟩ := h
    refine ax_iald dL_getUp_20 sX_67 q1.1 q1.2 ?_
    refine ax_iconst dL_getUp_21 (by decide) ?_
    refine ax_icmp_ne (tgt := 34) dL_getUp_22 (by decide) (fun c7 => ?_) (fun c7 => ?_)
    · replace h := h.1 c7
      refine ax_iconst dL_getUp_34 (by decide) ?_
      refine ax_istoren dL_getUp_35 rfl (by decide) rfl ?_
      refine ax_iloadn 0 dL_getUp_36 rfl rfl ?_
      refine ax_iconst dL_getUp_37 (by decide) ?_
      refine ax_icmp_eq (tgt := 72) dL_getUp_38 (by decide) (fun _ => ?_) (fun z => absurd z (by decide))
      refine ax_iinc (j := 3) dL_getUp_72 rfl (by decide) (show ax_r _ from ⟨by omega, by omega⟩) rfl ?_
      refine ax_goto (tgt := 7) dL_getUp_75 (by decide) ?_
      exact ax_sub [2, 3, 0] rfl h
    · replace h := h.2 c7
      refine ax_aloadn 0 dL_getUp_25 rfl rfl ?_
      refine ax_iloadn 2 dL_getUp_26 rfl rfl ?_
      refine ax_iloadn 1 dL_getUp_27 rfl rfl ?_
      refine ax_callV (dp2 := 1) (as := [.inl v2, .inl v1]) (st := []) dL_getUp_28 lL_64 sX_66 ⟨_, _, rfl⟩ rfl rfl (Nat.le_of_ble_eq_true rfl) (by decide) ?_
      refine ax_C_mono (fun r2 M3 h => ?_) h
      refine ax_goto (tgt := 35) dL_getUp_31 (by decide) ?_
      refine ax_istoren dL_getUp_35 rfl (by decide) rfl ?_
      refine ax_iloadn 0 dL_getUp_36 rfl rfl ?_
      refine ax_iconst dL_getUp_37 (by decide) ?_
      refine ax_icmp_eq (tgt := 72) dL_getUp_38 (by decide) (fun c6 => ?_) (fun c6 => ?_)
      · replace h := h.1 c6
        refine ax_iinc (j := 3) dL_getUp_72 rfl (by decide) (show ax_r _ from ⟨by omega, by omega⟩) rfl ?_
        refine ax_goto (tgt := 7) dL_getUp_75 (by decide) ?_
        exact ax_sub [2, 3, 0] rfl h
      · replace h := h.2 c6
        refine ax_aloadn 1 dL_getUp_41 rfl rfl ?_
        refine ax_getr dL_getUp_42 fL_9 sX_66 rfl ?_
        refine ax_iloadn 3 dL_getUp_45 rfl rfl ?_
        refine ax_iloadn 0 dL_getUp_46 rfl rfl ?_
        refine ax_iast dL_getUp_47 sX_67 (by omega) (by omega) ?_
        refine ax_aloadn 1 dL_getUp_48 rfl rfl ?_
        refine ax_getr dL_getUp_49 fL_18 sX_66 rfl ?_
        refine ax_iloadn 0 dL_getUp_52 rfl rfl ?_
        refine ax_iconst dL_getUp_53 (by decide) ?_
        obtain ⟨q4, h⟩ := h
        refine ax_zast dL_getUp_54 sX_69 q4.1 q4.2 (by decide) ?_
        refine ax_aloadn 1 dL_getUp_55 rfl rfl ?_
        refine ax_getr dL_getUp_56 fL_15 sX_66 rfl ?_
        refine ax_iloadn 0 dL_getUp_59 rfl rfl ?_
        refine ax_iconst dL_getUp_60 (by decide) ?_
        refine ax_aloadn 1 dL_getUp_61 rfl rfl ?_
        refine ax_getr dL_getUp_62 fL_25 sX_66 rfl ?_
        refine ax_getr dL_getUp_65 fL_67 sX_2 rfl ?_
        refine ax_iloadn 0 dL_getUp_68 rfl rfl ?_
        refine ax_iald dL_getUp_69 sX_8 q4.1 q4.2 ?_
        refine ax_top (x' := M3 8 (r2.toNat)) (by first | rfl | exact ax_u_at _ _ _ _) ?_
        obtain ⟨q5, h⟩ := h
        refine ax_imul dL_getUp_70 q5 ?_
        refine ax_iast dL_getUp_71 sX_68 (by omega) (by omega) ?_
        refine ax_iinc (j := 3) dL_getUp_72 rfl (by decide) (show ax_r _ from ⟨by omega, by omega⟩) rfl ?_
        refine ax_goto (tgt := 7) dL_getUp_75 (by decide) ?_
        exact ax_sub [2, 3, 0] rfl h
theorem eL_getUp {P : Int → ax_Mem → Prop} {M : ax_Mem} (h : kL_leastTurn [.inr (.inr 66)] M (fun r1 M2 => jL_getUp P 7 [(0, .inr (.inr 66)), (1, .inl r1), (2, .inl 0)] [] M2)) : kL_getUp [.inr (.inr 66)] M P := ax_ofJ (by decide) (Nat.le_of_ble_eq_true rfl) (gL_getUp_0 h)
-- L_run dp 3
theorem gL_run_0 {P : Int → ax_Mem → Prop} {M : ax_Mem} {a1 a2 : Int} (h : jL_run P 27 [(0, .inr (.inr 66)), (3, .inl 0)] [] (ax_u (ax_u (ax_u (ax_u M 66 5 (min a1 12)) 66 6 a2) 66 7 0) 66 8 0)) : jL_run P 0 [(0, .inr (.inr 66)), (1, .inl a1), (2, .inl a2)] [] M := by
  refine ax_aloadn 0 dL_run_0 rfl rfl ?_
  refine ax_iloadn 1 dL_run_1 rfl rfl ?_
  refine ax_bipush dL_run_2 (by decide) ?_
  refine ax_mmin dL_run_4 mL_29 (Nat.le_of_ble_eq_true rfl) (by decide) ?_
  refine ax_puti dL_run_7 pL_35 sX_66 rfl ?_
  refine ax_aloadn 0 dL_run_10 rfl rfl ?_
  refine ax_iloadn 2 dL_run_11 rfl rfl ?_
  refine ax_puti dL_run_12 pL_39 sX_66 rfl ?_
  refine ax_aloadn 0 dL_run_15 rfl rfl ?_
  refine ax_iconst dL_run_16 (by decide) ?_
  refine ax_puti dL_run_17 pL_42 sX_66 rfl ?_
  refine ax_aloadn 0 dL_run_20 rfl rfl ?_
  refine ax_iconst dL_run_21 (by decide) ?_
  refine ax_puti dL_run_22 pL_45 sX_66 rfl ?_
  refine ax_iconst dL_run_25 (by decide) ?_
  refine ax_istoren dL_run_26 rfl (by decide) rfl ?_
  exact ax_sub [1, 0] rfl h
theorem gL_run_27 {P : Int → ax_Mem → Prop} {M : ax_Mem} {v3 : Int} (h : ((M 66 5) ≤ v3 → jL_run P 50 [(0, .inr (.inr 66)), (3, .inl 0)] [] M) ∧ (¬ (M 66 5) ≤ v3 → (0 ≤ v3 ∧ v3 < 12) ∧ jL_run P 27 [(0, .inr (.inr 66)), (3, .inl (v3 + 1))] [] (ax_u M 67 (v3.toNat) (-1)))) : jL_run P 27 [(0, .inr (.inr 66)), (3, .inl v3)] [] M := by
  refine ax_iloadn 1 dL_run_27 rfl rfl ?_
  refine ax_aloadn 0 dL_run_28 rfl rfl ?_
  refine ax_geti dL_run_29 fL_35 sX_66 rfl ?_
  refine ax_icmp_ge (tgt := 48) dL_run_32 (by decide) (fun c2 => ?_) (fun c2 => ?_)
  · replace h := h.1 c2
    refine ax_iconst dL_run_48 (by decide) ?_
    refine ax_istoren dL_run_49 rfl (by decide) rfl ?_
    exact ax_sub [1, 0] rfl h
  · replace h := h.2 c2
    refine ax_aloadn 0 dL_run_35 rfl rfl ?_
    refine ax_getr dL_run_36 fL_9 sX_66 rfl ?_
    refine ax_iloadn 1 dL_run_39 rfl rfl ?_
    refine ax_iconst dL_run_40 (by decide) ?_
    obtain ⟨q1, h⟩ := h
    refine ax_iast dL_run_41 sX_67 q1.1 q1.2 ?_
    refine ax_iinc (j := 1) dL_run_42 rfl (by decide) (show ax_r _ from ⟨by omega, by omega⟩) rfl ?_
    refine ax_goto (tgt := 27) dL_run_45 (by decide) ?_
    exact ax_sub [1, 0] rfl h
theorem gL_run_50 {P : Int → ax_Mem → Prop} {M : ax_Mem} {v3 : Int} (h : ((M 2 7) ≤ v3 → jL_run P 83 [(0, .inr (.inr 66)), (3, .inl 1)] [] M) ∧ (¬ (M 2 7) ≤ v3 → (0 ≤ v3 ∧ v3 < 12) ∧ jL_run P 50 [(0, .inr (.inr 66)), (3, .inl (v3 + 1))] [] (ax_u (ax_u M 69 (v3.toNat) 0) 70 (v3.toNat) 0))) : jL_run P 50 [(0, .inr (.inr 66)), (3, .inl v3)] [] M := by
  refine ax_iloadn 1 dL_run_50 rfl rfl ?_
  refine ax_aloadn 0 dL_run_51 rfl rfl ?_
  refine ax_getr dL_run_52 fL_25 sX_66 rfl ?_
  refine ax_geti dL_run_55 fL_48 sX_2 rfl ?_
  refine ax_icmp_ge (tgt := 81) dL_run_58 (by decide) (fun c2 => ?_) (fun c2 => ?_)
  · replace h := h.1 c2
    refine ax_iconst dL_run_81 (by decide) ?_
    refine ax_istoren dL_run_82 rfl (by decide) rfl ?_
    exact ax_sub [1, 0] rfl h
  · replace h := h.2 c2
    refine ax_aloadn 0 dL_run_61 rfl rfl ?_
    refine ax_getr dL_run_62 fL_18 sX_66 rfl ?_
    refine ax_iloadn 1 dL_run_65 rfl rfl ?_
    refine ax_iconst dL_run_66 (by decide) ?_
    obtain ⟨q1, h⟩ := h
    refine ax_zast dL_run_67 sX_69 q1.1 q1.2 (by decide) ?_
    refine ax_aloadn 0 dL_run_68 rfl rfl ?_
    refine ax_getr dL_run_69 fL_22 sX_66 rfl ?_
    refine ax_iloadn 1 dL_run_72 rfl rfl ?_
    refine ax_iconst dL_run_73 (by decide) ?_
    refine ax_iast dL_run_74 sX_70 (by omega) (by omega) ?_
    refine ax_iinc (j := 1) dL_run_75 rfl (by decide) (show ax_r _ from ⟨by omega, by omega⟩) rfl ?_
    refine ax_goto (tgt := 50) dL_run_78 (by decide) ?_
    exact ax_sub [1, 0] rfl h
theorem gL_run_83 {P : Int → ax_Mem → Prop} {M : ax_Mem} {v3 : Int} (h : (9999 < v3 → P 0 M) ∧ (¬ 9999 < v3 → ((M 2 7) ≤ (M 66 7) → P 0 M) ∧ (¬ (M 2 7) ≤ (M 66 7) → kL_goOn [.inr (.inr 66), .inl v3] M (fun _ M2 => kL_getUp [.inr (.inr 66)] M2 (fun _ M4 => (-2147483648 ≤ (v3 + 1) ∧ (v3 + 1) < 2147483648) ∧ jL_run P 83 [(0, .inr (.inr 66)), (3, .inl (v3 + 1))] [] M4))))) : jL_run P 83 [(0, .inr (.inr 66)), (3, .inl v3)] [] M := by
  refine ax_iloadn 1 dL_run_83 rfl rfl ?_
  refine ax_sipush dL_run_84 (by decide) ?_
  refine ax_icmp_gt (tgt := 119) dL_run_87 (by decide) (fun c7 => ?_) (fun c7 => ?_)
  · replace h := h.1 c7
    exact ax_vret dL_run_119 h
  · replace h := h.2 c7
    refine ax_aloadn 0 dL_run_90 rfl rfl ?_
    refine ax_geti dL_run_91 fL_42 sX_66 rfl ?_
    refine ax_aloadn 0 dL_run_94 rfl rfl ?_
    refine ax_getr dL_run_95 fL_25 sX_66 rfl ?_
    refine ax_geti dL_run_98 fL_48 sX_2 rfl ?_
    refine ax_icmp_ge (tgt := 119) dL_run_101 (by decide) (fun c6 => ?_) (fun c6 => ?_)
    · replace h := h.1 c6
      exact ax_vret dL_run_119 h
    · replace h := h.2 c6
      refine ax_aloadn 0 dL_run_104 rfl rfl ?_
      refine ax_iloadn 1 dL_run_105 rfl rfl ?_
      refine ax_callV (dp2 := 0) (as := [.inl v3]) (st := []) dL_run_106 lL_53 sX_66 ⟨_, _, rfl⟩ rfl rfl (Nat.le_of_ble_eq_true rfl) (by decide) ?_
      refine ax_C_mono (fun _ M2 h => ?_) h
      refine ax_aloadn 0 dL_run_109 rfl rfl ?_
      refine ax_callV (dp2 := 2) (as := []) (st := []) dL_run_110 lL_57 sX_66 ⟨_, _, rfl⟩ rfl rfl (Nat.le_of_ble_eq_true rfl) (by decide) ?_
      refine ax_C_mono (fun _ M4 h => ?_) h
      obtain ⟨q5, h⟩ := h
      refine ax_iinc (j := 1) dL_run_113 rfl (by decide) q5 rfl ?_
      refine ax_goto (tgt := 83) dL_run_116 (by decide) ?_
      exact ax_sub [1, 0] rfl h
theorem eL_run {P : Int → ax_Mem → Prop} {M : ax_Mem} {a1 a2 : Int} (h : jL_run P 27 [(0, .inr (.inr 66)), (3, .inl 0)] [] (ax_u (ax_u (ax_u (ax_u M 66 5 (min a1 12)) 66 6 a2) 66 7 0) 66 8 0)) : kL_run [.inr (.inr 66), .inl a1, .inl a2] M P := ax_ofJ (by decide) (Nat.le_of_ble_eq_true rfl) (gL_run_0 h)
-- N_byNumber dp 1
theorem gN_byNumber_0 {P : Int → ax_Mem → Prop} {M : ax_Mem} {a1 : Int} (h : jN_byNumber P 12 [(0, .inr (.inr 40)), (2, .inl 0)] [] (ax_u M 40 1 (min a1 12))) : jN_byNumber P 0 [(0, .inr (.inr 40)), (1, .inl a1)] [] M := by
  refine ax_aloadn 0 dN_byNumber_0 rfl rfl ?_
  refine ax_iloadn 1 dN_byNumber_1 rfl rfl ?_
  refine ax_bipush dN_byNumber_2 (by decide) ?_
  refine ax_mmin dN_byNumber_4 mN_15 (Nat.le_of_ble_eq_true rfl) (by decide) ?_
  refine ax_puti dN_byNumber_7 pN_21 sX_40 rfl ?_
  refine ax_iconst dN_byNumber_10 (by decide) ?_
  refine ax_istoren dN_byNumber_11 rfl (by decide) rfl ?_
  exact ax_sub [1, 0] rfl h
theorem gN_byNumber_12 {P : Int → ax_Mem → Prop} {M : ax_Mem} {v2 : Int} (h : ((M 40 1) ≤ v2 → P 0 M) ∧ (¬ (M 40 1) ≤ v2 → (0 ≤ v2 ∧ v2 < 12) ∧ jN_byNumber P 12 [(0, .inr (.inr 40)), (2, .inl (v2 + 1))] [] (ax_u M 41 (v2.toNat) v2))) : jN_byNumber P 12 [(0, .inr (.inr 40)), (2, .inl v2)] [] M := by
  refine ax_iloadn 1 dN_byNumber_12 rfl rfl ?_
  refine ax_aloadn 0 dN_byNumber_13 rfl rfl ?_
  refine ax_geti dN_byNumber_14 fN_21 sX_40 rfl ?_
  refine ax_icmp_ge (tgt := 33) dN_byNumber_17 (by decide) (fun c2 => ?_) (fun c2 => ?_)
  · replace h := h.1 c2
    exact ax_vret dN_byNumber_33 h
  · replace h := h.2 c2
    refine ax_aloadn 0 dN_byNumber_20 rfl rfl ?_
    refine ax_getr dN_byNumber_21 fN_9 sX_40 rfl ?_
    refine ax_iloadn 1 dN_byNumber_24 rfl rfl ?_
    refine ax_iloadn 1 dN_byNumber_25 rfl rfl ?_
    obtain ⟨q1, h⟩ := h
    refine ax_iast dN_byNumber_26 sX_41 q1.1 q1.2 ?_
    refine ax_iinc (j := 1) dN_byNumber_27 rfl (by decide) (show ax_r _ from ⟨by omega, by omega⟩) rfl ?_
    refine ax_goto (tgt := 12) dN_byNumber_30 (by decide) ?_
    exact ax_sub [1, 0] rfl h
theorem eN_byNumber {P : Int → ax_Mem → Prop} {M : ax_Mem} {a1 : Int} (h : jN_byNumber P 12 [(0, .inr (.inr 40)), (2, .inl 0)] [] (ax_u M 40 1 (min a1 12))) : kN_byNumber [.inr (.inr 40), .inl a1] M P := ax_ofJ (by decide) (Nat.le_of_ble_eq_true rfl) (gN_byNumber_0 h)
-- N_copy dp 1
theorem gN_copy_0 {P : Int → ax_Mem → Prop} {M : ax_Mem} (h : P 0 (ax_cp (ax_u M 42 1 (M 40 1)) 41 43 12)) : jN_copy P 0 [(0, .inr (.inr 42)), (1, .inr (.inr 40))] [] M := by
  refine ax_aloadn 0 dN_copy_0 rfl rfl ?_
  refine ax_aloadn 1 dN_copy_1 rfl rfl ?_
  refine ax_geti dN_copy_2 fN_21 sX_40 rfl ?_
  refine ax_puti dN_copy_5 pN_21 sX_42 rfl ?_
  refine ax_aloadn 1 dN_copy_8 rfl rfl ?_
  refine ax_getr dN_copy_9 fN_9 sX_40 rfl ?_
  refine ax_iconst dN_copy_12 (by decide) ?_
  refine ax_aloadn 0 dN_copy_13 rfl rfl ?_
  refine ax_getr dN_copy_14 fN_9 sX_42 rfl ?_
  refine ax_iconst dN_copy_17 (by decide) ?_
  refine ax_bipush dN_copy_18 (by decide) ?_
  refine ax_copy dN_copy_20 mN_25 sX_41 sX_43 (by decide) (by decide) (by decide) (Nat.le_of_ble_eq_true rfl) (by decide) ?_
  exact ax_vret dN_copy_23 h
theorem eN_copy {P : Int → ax_Mem → Prop} {M : ax_Mem} (h : P 0 (ax_cp (ax_u M 42 1 (M 40 1)) 41 43 12)) : kN_copy [.inr (.inr 42), .inr (.inr 40)] M P := ax_ofJ (by decide) (Nat.le_of_ble_eq_true rfl) (gN_copy_0 h)
-- N_exchange dp 0
theorem gN_exchange_0 {P : Int → ax_Mem → Prop} {M : ax_Mem} {a1 a2 : Int} (h : (0 ≤ a1 ∧ a1 < 12) ∧ (0 ≤ a2 ∧ a2 < 12) ∧ P 0 (ax_u (ax_u M 41 (a1.toNat) (M 41 (a2.toNat))) 41 (a2.toNat) (M 41 (a1.toNat)))) : jN_exchange P 0 [(0, .inr (.inr 40)), (1, .inl a1), (2, .inl a2)] [] M := by
  refine ax_aloadn 0 dN_exchange_0 rfl rfl ?_
  refine ax_getr dN_exchange_1 fN_9 sX_40 rfl ?_
  refine ax_iloadn 1 dN_exchange_4 rfl rfl ?_
  obtain ⟨q1, h⟩ := h
  refine ax_iald dN_exchange_5 sX_41 q1.1 q1.2 ?_
  refine ax_istoren dN_exchange_6 rfl (by decide) rfl ?_
  refine ax_aloadn 1 dN_exchange_7 rfl rfl ?_
  refine ax_getr dN_exchange_8 fN_9 sX_40 rfl ?_
  refine ax_iloadn 2 dN_exchange_11 rfl rfl ?_
  refine ax_aloadn 1 dN_exchange_12 rfl rfl ?_
  refine ax_getr dN_exchange_13 fN_9 sX_40 rfl ?_
  refine ax_iloadn 3 dN_exchange_16 rfl rfl ?_
  obtain ⟨q2, h⟩ := h
  refine ax_iald dN_exchange_17 sX_41 q2.1 q2.2 ?_
  refine ax_iast dN_exchange_18 sX_41 (by omega) (by omega) ?_
  refine ax_aloadn 1 dN_exchange_19 rfl rfl ?_
  refine ax_getr dN_exchange_20 fN_9 sX_40 rfl ?_
  refine ax_iloadn 3 dN_exchange_23 rfl rfl ?_
  refine ax_iloadn 0 dN_exchange_24 rfl rfl ?_
  refine ax_iast dN_exchange_25 sX_41 (by omega) (by omega) ?_
  exact ax_vret dN_exchange_26 h
theorem eN_exchange {P : Int → ax_Mem → Prop} {M : ax_Mem} {a1 a2 : Int} (h : (0 ≤ a1 ∧ a1 < 12) ∧ (0 ≤ a2 ∧ a2 < 12) ∧ P 0 (ax_u (ax_u M 41 (a1.toNat) (M 41 (a2.toNat))) 41 (a2.toNat) (M 41 (a1.toNat)))) : kN_exchange [.inr (.inr 40), .inl a1, .inl a2] M P := ax_ofJ (by decide) (Nat.le_of_ble_eq_true rfl) (gN_exchange_0 h)
-- N_goToNext dp 1
theorem gN_goToNext_0 {P : Int → ax_Mem → Prop} {M : ax_Mem} (h : (-2147483648 ≤ ((M 40 1) - 2) ∧ ((M 40 1) - 2) < 2147483648) ∧ jN_goToNext P 7 [(0, .inr (.inr 40)), (1, .inl ((M 40 1) - 2))] [] M) : jN_goToNext P 0 [(0, .inr (.inr 40))] [] M := by
  refine ax_aloadn 0 dN_goToNext_0 rfl rfl ?_
  refine ax_geti dN_goToNext_1 fN_21 sX_40 rfl ?_
  refine ax_iconst dN_goToNext_4 (by decide) ?_
  obtain ⟨q1, h⟩ := h
  refine ax_isub dN_goToNext_5 q1 ?_
  refine ax_istoren dN_goToNext_6 rfl (by decide) rfl ?_
  exact ax_sub [1, 0] rfl h
theorem gN_goToNext_7 {P : Int → ax_Mem → Prop} {M : ax_Mem} {v1 : Int} (h : (v1 < 0 → (0 ≤ v1 → (-2147483648 ≤ ((M 40 1) - 1) ∧ ((M 40 1) - 1) < 2147483648) ∧ jN_goToNext P 47 [(0, .inr (.inr 40)), (1, .inl v1), (2, .inl ((M 40 1) - 1))] [] M) ∧ (¬ 0 ≤ v1 → P 0 M)) ∧ (¬ v1 < 0 → (0 ≤ v1 ∧ v1 < 12) ∧ (0 ≤ (v1 + 1) ∧ (v1 + 1) < 12) ∧ ((M 41 (v1.toNat)) ≤ (M 41 ((v1 + 1).toNat)) → (0 ≤ v1 → (-2147483648 ≤ ((M 40 1) - 1) ∧ ((M 40 1) - 1) < 2147483648) ∧ jN_goToNext P 47 [(0, .inr (.inr 40)), (1, .inl v1), (2, .inl ((M 40 1) - 1))] [] M) ∧ (¬ 0 ≤ v1 → P 0 M)) ∧ (¬ (M 41 (v1.toNat)) ≤ (M 41 ((v1 + 1).toNat)) → jN_goToNext P 7 [(0, .inr (.inr 40)), (1, .inl (v1 + (-1)))] [] M))) : jN_goToNext P 7 [(0, .inr (.inr 40)), (1, .inl v1)] [] M := by
  refine ax_iloadn 1 dN_goToNext_7 rfl rfl ?_
  refine ax_if_lt (tgt := 34) dN_goToNext_8 (by decide) (fun c8 => ?_) (fun c8 => ?_)
  · replace h := h.1 c8
    refine ax_iloadn 1 dN_goToNext_34 rfl rfl ?_
    refine ax_if_ge (tgt := 40) dN_goToNext_35 (by decide) (fun c2 => ?_) (fun c2 => ?_)
    · replace h := h.1 c2
      refine ax_aloadn 0 dN_goToNext_40 rfl rfl ?_
      refine ax_geti dN_goToNext_41 fN_21 sX_40 rfl ?_
      refine ax_iconst dN_goToNext_44 (by decide) ?_
      obtain ⟨q1, h⟩ := h
      refine ax_isub dN_goToNext_45 q1 ?_
      refine ax_istoren dN_goToNext_46 rfl (by decide) rfl ?_
      exact ax_sub [1, 2, 0] rfl h
    · replace h := h.2 c2
      refine ax_iconst dN_goToNext_38 (by decide) ?_
      exact ax_zret dN_goToNext_39 (by decide) h
  · replace h := h.2 c8
    refine ax_aloadn 0 dN_goToNext_11 rfl rfl ?_
    refine ax_getr dN_goToNext_12 fN_9 sX_40 rfl ?_
    refine ax_iloadn 1 dN_goToNext_15 rfl rfl ?_
    obtain ⟨q3, h⟩ := h
    refine ax_iald dN_goToNext_16 sX_41 q3.1 q3.2 ?_
    refine ax_aloadn 0 dN_goToNext_17 rfl rfl ?_
    refine ax_getr dN_goToNext_18 fN_9 sX_40 rfl ?_
    refine ax_iloadn 1 dN_goToNext_21 rfl rfl ?_
    refine ax_iconst dN_goToNext_22 (by decide) ?_
    refine ax_iadd dN_goToNext_23 (show ax_r _ from ⟨by omega, by omega⟩) ?_
    obtain ⟨q4, h⟩ := h
    refine ax_iald dN_goToNext_24 sX_41 q4.1 q4.2 ?_
    refine ax_icmp_le (tgt := 34) dN_goToNext_25 (by decide) (fun c7 => ?_) (fun c7 => ?_)
    · replace h := h.1 c7
      refine ax_iloadn 1 dN_goToNext_34 rfl rfl ?_
      refine ax_if_ge (tgt := 40) dN_goToNext_35 (by decide) (fun c6 => ?_) (fun c6 => ?_)
      · replace h := h.1 c6
        refine ax_aloadn 0 dN_goToNext_40 rfl rfl ?_
        refine ax_geti dN_goToNext_41 fN_21 sX_40 rfl ?_
        refine ax_iconst dN_goToNext_44 (by decide) ?_
        obtain ⟨q5, h⟩ := h
        refine ax_isub dN_goToNext_45 q5 ?_
        refine ax_istoren dN_goToNext_46 rfl (by decide) rfl ?_
        exact ax_sub [1, 2, 0] rfl h
      · replace h := h.2 c6
        refine ax_iconst dN_goToNext_38 (by decide) ?_
        exact ax_zret dN_goToNext_39 (by decide) h
    · replace h := h.2 c7
      refine ax_iinc (j := 1) dN_goToNext_28 rfl (by decide) (show ax_r _ from ⟨by omega, by omega⟩) rfl ?_
      refine ax_goto (tgt := 7) dN_goToNext_31 (by decide) ?_
      exact ax_sub [1, 0] rfl h
theorem gN_goToNext_47 {P : Int → ax_Mem → Prop} {M : ax_Mem} {v1 v2 : Int} (h : (v2 ≤ v1 → kN_exchange [.inr (.inr 40), .inl v1, .inl v2] M (fun _ M2 => (-2147483648 ≤ ((M2 40 1) - 1) ∧ ((M2 40 1) - 1) < 2147483648) ∧ (-2147483648 ≤ (v1 + 1) ∧ (v1 + 1) < 2147483648) ∧ jN_goToNext P 91 [(0, .inr (.inr 40)), (3, .inl ((M2 40 1) - 1)), (4, .inl (v1 + 1))] [] M2)) ∧ (¬ v2 ≤ v1 → (0 ≤ v2 ∧ v2 < 12) ∧ (0 ≤ v1 ∧ v1 < 12) ∧ ((M 41 (v1.toNat)) ≤ (M 41 (v2.toNat)) → kN_exchange [.inr (.inr 40), .inl v1, .inl v2] M (fun _ M8 => (-2147483648 ≤ ((M8 40 1) - 1) ∧ ((M8 40 1) - 1) < 2147483648) ∧ jN_goToNext P 91 [(0, .inr (.inr 40)), (3, .inl ((M8 40 1) - 1)), (4, .inl (v1 + 1))] [] M8)) ∧ (¬ (M 41 (v1.toNat)) ≤ (M 41 (v2.toNat)) → jN_goToNext P 47 [(0, .inr (.inr 40)), (1, .inl v1), (2, .inl (v2 + (-1)))] [] M))) : jN_goToNext P 47 [(0, .inr (.inr 40)), (1, .inl v1), (2, .inl v2)] [] M := by
  refine ax_iloadn 2 dN_goToNext_47 rfl rfl ?_
  refine ax_iloadn 1 dN_goToNext_48 rfl rfl ?_
  refine ax_icmp_le (tgt := 73) dN_goToNext_49 (by decide) (fun c11 => ?_) (fun c11 => ?_)
  · replace h := h.1 c11
    refine ax_aloadn 0 dN_goToNext_73 rfl rfl ?_
    refine ax_iloadn 1 dN_goToNext_74 rfl rfl ?_
    refine ax_iloadn 2 dN_goToNext_75 rfl rfl ?_
    refine ax_callV (dp2 := 0) (as := [.inl v1, .inl v2]) (st := []) dN_goToNext_76 lN_35 sX_40 ⟨_, _, rfl⟩ rfl rfl (Nat.le_of_ble_eq_true rfl) (by decide) ?_
    refine ax_C_mono (fun _ M2 h => ?_) h
    refine ax_aloadn 0 dN_goToNext_79 rfl rfl ?_
    refine ax_geti dN_goToNext_80 fN_21 sX_40 rfl ?_
    refine ax_iconst dN_goToNext_83 (by decide) ?_
    obtain ⟨q3, h⟩ := h
    refine ax_isub dN_goToNext_84 q3 ?_
    refine ax_istoren dN_goToNext_85 rfl (by decide) rfl ?_
    refine ax_iloadn 2 dN_goToNext_86 rfl rfl ?_
    refine ax_iconst dN_goToNext_87 (by decide) ?_
    obtain ⟨q4, h⟩ := h
    refine ax_iadd dN_goToNext_88 q4 ?_
    refine ax_istore dN_goToNext_89 (by decide) rfl ?_
    exact ax_sub [2, 1, 0] rfl h
  · replace h := h.2 c11
    refine ax_aloadn 0 dN_goToNext_52 rfl rfl ?_
    refine ax_getr dN_goToNext_53 fN_9 sX_40 rfl ?_
    refine ax_iloadn 2 dN_goToNext_56 rfl rfl ?_
    obtain ⟨q5, h⟩ := h
    refine ax_iald dN_goToNext_57 sX_41 q5.1 q5.2 ?_
    refine ax_aloadn 0 dN_goToNext_58 rfl rfl ?_
    refine ax_getr dN_goToNext_59 fN_9 sX_40 rfl ?_
    refine ax_iloadn 1 dN_goToNext_62 rfl rfl ?_
    obtain ⟨q6, h⟩ := h
    refine ax_iald dN_goToNext_63 sX_41 q6.1 q6.2 ?_
    refine ax_icmp_ge (tgt := 73) dN_goToNext_64 (by decide) (fun c10 => ?_) (fun c10 => ?_)
    · replace h := h.1 c10
      refine ax_aloadn 0 dN_goToNext_73 rfl rfl ?_
      refine ax_iloadn 1 dN_goToNext_74 rfl rfl ?_
      refine ax_iloadn 2 dN_goToNext_75 rfl rfl ?_
      refine ax_callV (dp2 := 0) (as := [.inl v1, .inl v2]) (st := []) dN_goToNext_76 lN_35 sX_40 ⟨_, _, rfl⟩ rfl rfl (Nat.le_of_ble_eq_true rfl) (by decide) ?_
      refine ax_C_mono (fun _ M8 h => ?_) h
      refine ax_aloadn 0 dN_goToNext_79 rfl rfl ?_
      refine ax_geti dN_goToNext_80 fN_21 sX_40 rfl ?_
      refine ax_iconst dN_goToNext_83 (by decide) ?_
      obtain ⟨q9, h⟩ := h
      refine ax_isub dN_goToNext_84 q9 ?_
      refine ax_istoren dN_goToNext_85 rfl (by decide) rfl ?_
      refine ax_iloadn 2 dN_goToNext_86 rfl rfl ?_
      refine ax_iconst dN_goToNext_87 (by decide) ?_
      refine ax_iadd dN_goToNext_88 (show ax_r _ from ⟨by omega, by omega⟩) ?_
      refine ax_istore dN_goToNext_89 (by decide) rfl ?_
      exact ax_sub [2, 1, 0] rfl h
    · replace h := h.2 c10
      refine ax_iinc (j := 2) dN_goToNext_67 rfl (by decide) (show ax_r _ from ⟨by omega, by omega⟩) rfl ?_
      refine ax_goto (tgt := 47) dN_goToNext_70 (by decide) ?_
      exact ax_sub [1, 2, 0] rfl h
theorem gN_goToNext_91 {P : Int → ax_Mem → Prop} {M : ax_Mem} {v3 v4 : Int} (h : (v3 ≤ v4 → P 1 M) ∧ (¬ v3 ≤ v4 → kN_exchange [.inr (.inr 40), .inl v4, .inl v3] M (fun _ M2 => (-2147483648 ≤ (v3 + (-1)) ∧ (v3 + (-1)) < 2147483648) ∧ (-2147483648 ≤ (v4 + 1) ∧ (v4 + 1) < 2147483648) ∧ jN_goToNext P 91 [(0, .inr (.inr 40)), (3, .inl (v3 + (-1))), (4, .inl (v4 + 1))] [] M2))) : jN_goToNext P 91 [(0, .inr (.inr 40)), (3, .inl v3), (4, .inl v4)] [] M := by
  refine ax_iload 2 dN_goToNext_91 rfl ?_
  refine ax_iloadn 1 dN_goToNext_93 rfl rfl ?_
  refine ax_icmp_ge (tgt := 113) dN_goToNext_94 (by decide) (fun c5 => ?_) (fun c5 => ?_)
  · replace h := h.1 c5
    refine ax_iconst dN_goToNext_113 (by decide) ?_
    exact ax_zret dN_goToNext_114 (by decide) h
  · replace h := h.2 c5
    refine ax_aloadn 0 dN_goToNext_97 rfl rfl ?_
    refine ax_iload 2 dN_goToNext_98 rfl ?_
    refine ax_iloadn 1 dN_goToNext_100 rfl rfl ?_
    refine ax_callV (dp2 := 0) (as := [.inl v4, .inl v3]) (st := []) dN_goToNext_101 lN_35 sX_40 ⟨_, _, rfl⟩ rfl rfl (Nat.le_of_ble_eq_true rfl) (by decide) ?_
    refine ax_C_mono (fun _ M2 h => ?_) h
    obtain ⟨q3, h⟩ := h
    refine ax_iinc (j := 1) dN_goToNext_104 rfl (by decide) q3 rfl ?_
    obtain ⟨q4, h⟩ := h
    refine ax_iinc (j := 2) dN_goToNext_107 rfl (by decide) q4 rfl ?_
    refine ax_goto (tgt := 91) dN_goToNext_110 (by decide) ?_
    exact ax_sub [2, 1, 0] rfl h
theorem eN_goToNext {P : Int → ax_Mem → Prop} {M : ax_Mem} (h : (-2147483648 ≤ ((M 40 1) - 2) ∧ ((M 40 1) - 2) < 2147483648) ∧ jN_goToNext P 7 [(0, .inr (.inr 40)), (1, .inl ((M 40 1) - 2))] [] M) : kN_goToNext [.inr (.inr 40)] M P := ax_ofJ (by decide) (Nat.le_of_ble_eq_true rfl) (gN_goToNext_0 h)
-- N_mix dp 1
theorem gN_mix_0 {P : Int → ax_Mem → Prop} {M : ax_Mem} {a1 : Int} (h : jN_mix P 9 [(0, .inr (.inr 40)), (2, .inr (.inl a1)), (4, .inl (M 40 1))] [] M) : jN_mix P 0 [(0, .inr (.inr 40)), (1, .inl a1)] [] M := by
  refine ax_iloadn 1 dN_mix_0 rfl rfl ?_
  refine ax_i2l dN_mix_1 ?_
  refine ax_lstoren dN_mix_2 rfl (by decide) rfl ?_
  refine ax_aloadn 1 dN_mix_3 rfl rfl ?_
  refine ax_geti dN_mix_4 fN_21 sX_40 rfl ?_
  refine ax_istore dN_mix_7 (by decide) rfl ?_
  exact ax_sub [2, 1, 0] rfl h
theorem gN_mix_9 {P : Int → ax_Mem → Prop} {M : ax_Mem} {v2 v4 : Int} (h : (v4 < 2 → (-2147483648 ≤ v2 ∧ v2 < 2147483648) ∧ P v2 M) ∧ (¬ v4 < 2 → (((0 : Int) ≤ ((1103515245 * v2) + 12345) ∧ (0 : Int) < 2147483648) ∧ (((1103515245 * v2) + 12345) < 2 ^ 63 ∧ (2147483648 : Int) < 2 ^ 63)) ∧ (-2147483648 ≤ (v4 - 1) ∧ (v4 - 1) < 2147483648) ∧ (((0 : Int) ≤ (((1103515245 * v2) + 12345) % 2147483648) ∧ (0 : Int) < 65536) ∧ ((((1103515245 * v2) + 12345) % 2147483648) < 2 ^ 63 ∧ (65536 : Int) < 2 ^ 63)) ∧ (((0 : Int) ≤ ((((1103515245 * v2) + 12345) % 2147483648) / 65536) ∧ (0 : Int) < v4) ∧ (((((1103515245 * v2) + 12345) % 2147483648) / 65536) < 2 ^ 63 ∧ (v4 : Int) < 2 ^ 63)) ∧ (-2147483648 ≤ (((((1103515245 * v2) + 12345) % 2147483648) / 65536) % v4) ∧ (((((1103515245 * v2) + 12345) % 2147483648) / 65536) % v4) < 2147483648) ∧ kN_exchange [.inr (.inr 40), .inl (v4 - 1), .inl (((((1103515245 * v2) + 12345) % 2147483648) / 65536) % v4)] M (fun _ M8 => (-2147483648 ≤ (v4 + (-1)) ∧ (v4 + (-1)) < 2147483648) ∧ jN_mix P 9 [(0, .inr (.inr 40)), (2, .inr (.inl (((1103515245 * v2) + 12345) % 2147483648))), (4, .inl (v4 + (-1)))] [] M8))) : jN_mix P 9 [(0, .inr (.inr 40)), (2, .inr (.inl v2)), (4, .inl v4)] [] M := by
  refine ax_iload 2 dN_mix_9 rfl ?_
  refine ax_iconst dN_mix_11 (by decide) ?_
  refine ax_icmp_lt (tgt := 53) dN_mix_12 (by decide) (fun c10 => ?_) (fun c10 => ?_)
  · replace h := h.1 c10
    refine ax_lloadn 1 dN_mix_53 rfl rfl ?_
    obtain ⟨q1, h⟩ := h
    refine ax_l2i dN_mix_54 q1 ?_
    exact ax_iret dN_mix_55 h
  · replace h := h.2 c10
    refine ax_ldc2 (n := 1103515245) dN_mix_15 nN_39 ?_
    refine ax_lloadn 1 dN_mix_18 rfl rfl ?_
    refine ax_lmul dN_mix_19 ?_
    refine ax_ldc2 (n := 12345) dN_mix_20 nN_41 ?_
    refine ax_ladd dN_mix_23 ?_
    refine ax_ldc2 (n := 2147483648) dN_mix_24 nN_43 ?_
    obtain ⟨q2, h⟩ := h
    refine ax_lrem dN_mix_27 q2.1.1 q2.1.2 q2.2.1 q2.2.2 ?_
    refine ax_lstoren dN_mix_28 rfl (by decide) rfl ?_
    refine ax_aloadn 1 dN_mix_29 rfl rfl ?_
    refine ax_iload 2 dN_mix_30 rfl ?_
    refine ax_iconst dN_mix_32 (by decide) ?_
    obtain ⟨q3, h⟩ := h
    refine ax_isub dN_mix_33 q3 ?_
    refine ax_lloadn 0 dN_mix_34 rfl rfl ?_
    refine ax_ldc2 (n := 65536) dN_mix_35 nN_45 ?_
    obtain ⟨q4, h⟩ := h
    refine ax_ldiv dN_mix_38 q4.1.1 q4.1.2 q4.2.1 q4.2.2 ?_
    refine ax_iload 2 dN_mix_39 rfl ?_
    refine ax_i2l dN_mix_41 ?_
    obtain ⟨q5, h⟩ := h
    refine ax_lrem dN_mix_42 q5.1.1 q5.1.2 q5.2.1 q5.2.2 ?_
    obtain ⟨q6, h⟩ := h
    refine ax_l2i dN_mix_43 q6 ?_
    refine ax_callV (dp2 := 0) (as := [.inl (v4 - 1), .inl (((((1103515245 * v2) + 12345) % 2147483648) / 65536) % v4)]) (st := []) dN_mix_44 lN_35 sX_40 ⟨_, _, rfl⟩ rfl rfl (Nat.le_of_ble_eq_true rfl) (by decide) ?_
    refine ax_C_mono (fun _ M8 h => ?_) h
    obtain ⟨q9, h⟩ := h
    refine ax_iinc (j := 2) dN_mix_47 rfl (by decide) q9 rfl ?_
    refine ax_goto (tgt := 9) dN_mix_50 (by decide) ?_
    exact ax_sub [2, 1, 0] rfl h
theorem eN_mix {P : Int → ax_Mem → Prop} {M : ax_Mem} {a1 : Int} (h : jN_mix P 9 [(0, .inr (.inr 40)), (2, .inr (.inl a1)), (4, .inl (M 40 1))] [] M) : kN_mix [.inr (.inr 40), .inl a1] M P := ax_ofJ (by decide) (Nat.le_of_ble_eq_true rfl) (gN_mix_0 h)
-- G_codeIn dp 0
theorem gG_codeIn_0 {P : Int → ax_Mem → Prop} {M : ax_Mem} {a1 a2 : Int} (h : (-2147483648 ≤ (8 * a2) ∧ (8 * a2) < 2147483648) ∧ ((0 : Int) ≤ (8 * a2) ∧ (8 * a2 : Int) < 64) ∧ (-2147483648 ≤ (((a1 % 2 ^ 64) / 2 ^ (8 * a2).toNat) % 2 ^ 8) ∧ (((a1 % 2 ^ 64) / 2 ^ (8 * a2).toNat) % 2 ^ 8) < 2147483648) ∧ P (((a1 % 2 ^ 64) / 2 ^ (8 * a2).toNat) % 2 ^ 8) M) : jG_codeIn P 0 [(0, .inr (.inl a1)), (2, .inl a2)] [] M := by
  refine ax_lloadn 0 dG_codeIn_0 rfl rfl ?_
  refine ax_bipush dG_codeIn_1 (by decide) ?_
  refine ax_iloadn 1 dG_codeIn_3 rfl rfl ?_
  obtain ⟨q1, h⟩ := h
  refine ax_imul dG_codeIn_4 q1 ?_
  obtain ⟨q2, h⟩ := h
  refine ax_lushr dG_codeIn_5 q2.1 q2.2 ?_
  refine ax_ldc2 (n := 255) dG_codeIn_6 nG_19 ?_
  refine ax_land 8 dG_codeIn_9 (by decide) (by decide) ?_
  obtain ⟨q3, h⟩ := h
  refine ax_l2i dG_codeIn_10 q3 ?_
  exact ax_iret dG_codeIn_11 h
theorem eG_codeIn {P : Int → ax_Mem → Prop} {M : ax_Mem} {a1 a2 : Int} (h : (-2147483648 ≤ (8 * a2) ∧ (8 * a2) < 2147483648) ∧ ((0 : Int) ≤ (8 * a2) ∧ (8 * a2 : Int) < 64) ∧ (-2147483648 ≤ (((a1 % 2 ^ 64) / 2 ^ (8 * a2).toNat) % 2 ^ 8) ∧ (((a1 % 2 ^ 64) / 2 ^ (8 * a2).toNat) % 2 ^ 8) < 2147483648) ∧ P (((a1 % 2 ^ 64) / 2 ^ (8 * a2).toNat) % 2 ^ 8) M) : kG_codeIn [.inr (.inl a1), .inl a2] M P := ax_ofJ (by decide) (Nat.le_of_ble_eq_true rfl) (gG_codeIn_0 h)
-- G_lettersIn dp 1
theorem gG_lettersIn_0 {P : Int → ax_Mem → Prop} {M : ax_Mem} {a1 : Int} (h : jG_lettersIn P 7 [(0, .inr (.inl a1)), (2, .inl 0), (3, .inl 0), (4, .inl 0)] [] M) : jG_lettersIn P 0 [(0, .inr (.inl a1))] [] M := by
  refine ax_iconst dG_lettersIn_0 (by decide) ?_
  refine ax_istoren dG_lettersIn_1 rfl (by decide) rfl ?_
  refine ax_iconst dG_lettersIn_2 (by decide) ?_
  refine ax_istoren dG_lettersIn_3 rfl (by decide) rfl ?_
  refine ax_iconst dG_lettersIn_4 (by decide) ?_
  refine ax_istore dG_lettersIn_5 (by decide) rfl ?_
  exact ax_sub [3, 2, 1, 0] rfl h
theorem gG_lettersIn_7 {P : Int → ax_Mem → Prop} {M : ax_Mem} {v0 v2 v3 v4 : Int} (h : (8 ≤ v4 → P v2 M) ∧ (¬ 8 ≤ v4 → kG_codeIn [.inr (.inl v0), .inl v4] M (fun r1 M2 => (126 < r1 → P (-1) M2) ∧ (¬ 126 < r1 → (v3 = 0 → (¬ r1 = 0 → (-2147483648 ≤ (v2 + 1) ∧ (v2 + 1) < 2147483648) ∧ (-2147483648 ≤ (v4 + 1) ∧ (v4 + 1) < 2147483648) ∧ jG_lettersIn P 7 [(0, .inr (.inl v0)), (2, .inl (v2 + 1)), (3, .inl v3), (4, .inl (v4 + 1))] [] M2) ∧ (r1 = 0 → (-2147483648 ≤ (v4 + 1) ∧ (v4 + 1) < 2147483648) ∧ jG_lettersIn P 7 [(0, .inr (.inl v0)), (2, .inl v2), (3, .inl 1), (4, .inl (v4 + 1))] [] M2)) ∧ (¬ v3 = 0 → (r1 = 0 → (¬ r1 = 0 → (-2147483648 ≤ (v2 + 1) ∧ (v2 + 1) < 2147483648) ∧ (-2147483648 ≤ (v4 + 1) ∧ (v4 + 1) < 2147483648) ∧ jG_lettersIn P 7 [(0, .inr (.inl v0)), (2, .inl (v2 + 1)), (3, .inl v3), (4, .inl (v4 + 1))] [] M2) ∧ (r1 = 0 → (-2147483648 ≤ (v4 + 1) ∧ (v4 + 1) < 2147483648) ∧ jG_lettersIn P 7 [(0, .inr (.inl v0)), (2, .inl v2), (3, .inl 1), (4, .inl (v4 + 1))] [] M2)) ∧ (¬ r1 = 0 → P (-1) M2)))))) : jG_lettersIn P 7 [(0, .inr (.inl v0)), (2, .inl v2), (3, .inl v3), (4, .inl v4)] [] M := by
  refine ax_iload 3 dG_lettersIn_7 rfl ?_
  refine ax_bipush dG_lettersIn_9 (by decide) ?_
  refine ax_icmp_ge (tgt := 59) dG_lettersIn_11 (by decide) (fun c14 => ?_) (fun c14 => ?_)
  · replace h := h.1 c14
    refine ax_iloadn 1 dG_lettersIn_59 rfl rfl ?_
    exact ax_iret dG_lettersIn_60 h
  · replace h := h.2 c14
    refine ax_lloadn 0 dG_lettersIn_14 rfl rfl ?_
    refine ax_iload 3 dG_lettersIn_15 rfl ?_
    refine ax_callS (dp2 := 0) (as := [.inr (.inl v0), .inl v4]) (st := []) dG_lettersIn_17 lG_15 rfl rfl (Nat.le_of_ble_eq_true rfl) (by decide) ?_
    refine ax_C_mono (fun r1 M2 h => ?_) h
    refine ax_istore dG_lettersIn_20 (by decide) rfl ?_
    refine ax_iload 0 dG_lettersIn_22 rfl ?_
    refine ax_bipush dG_lettersIn_24 (by decide) ?_
    refine ax_icmp_gt (tgt := 38) dG_lettersIn_26 (by decide) (fun c13 => ?_) (fun c13 => ?_)
    · replace h := h.1 c13
      refine ax_iconst dG_lettersIn_38 (by decide) ?_
      exact ax_iret dG_lettersIn_39 h
    · replace h := h.2 c13
      refine ax_iloadn 3 dG_lettersIn_29 rfl rfl ?_
      refine ax_if_eq (tgt := 40) dG_lettersIn_30 (by decide) (fun c12 => ?_) (fun c12 => ?_)
      · replace h := h.1 c12
        refine ax_iload 0 dG_lettersIn_40 rfl ?_
        refine ax_if_ne (tgt := 50) dG_lettersIn_42 (by decide) (fun c6 => ?_) (fun c6 => ?_)
        · replace h := h.1 c6
          obtain ⟨q3, h⟩ := h
          refine ax_iinc (j := 2) dG_lettersIn_50 rfl (by decide) q3 rfl ?_
          obtain ⟨q4, h⟩ := h
          refine ax_iinc (j := 4) dG_lettersIn_53 rfl (by decide) q4 rfl ?_
          refine ax_goto (tgt := 7) dG_lettersIn_56 (by decide) ?_
          exact ax_sub [3, 1, 4, 0] rfl h
        · replace h := h.2 c6
          refine ax_iconst dG_lettersIn_45 (by decide) ?_
          refine ax_istoren dG_lettersIn_46 rfl (by decide) rfl ?_
          refine ax_goto (tgt := 53) dG_lettersIn_47 (by decide) ?_
          obtain ⟨q5, h⟩ := h
          refine ax_iinc (j := 4) dG_lettersIn_53 rfl (by decide) q5 rfl ?_
          refine ax_goto (tgt := 7) dG_lettersIn_56 (by decide) ?_
          exact ax_sub [3, 4, 1, 0] rfl h
      · replace h := h.2 c12
        refine ax_iload 0 dG_lettersIn_33 rfl ?_
        refine ax_if_eq (tgt := 40) dG_lettersIn_35 (by decide) (fun c11 => ?_) (fun c11 => ?_)
        · replace h := h.1 c11
          refine ax_iload 0 dG_lettersIn_40 rfl ?_
          refine ax_if_ne (tgt := 50) dG_lettersIn_42 (by decide) (fun c10 => ?_) (fun c10 => ?_)
          · replace h := h.1 c10
            obtain ⟨q7, h⟩ := h
            refine ax_iinc (j := 2) dG_lettersIn_50 rfl (by decide) q7 rfl ?_
            obtain ⟨q8, h⟩ := h
            refine ax_iinc (j := 4) dG_lettersIn_53 rfl (by decide) q8 rfl ?_
            refine ax_goto (tgt := 7) dG_lettersIn_56 (by decide) ?_
            exact ax_sub [3, 1, 4, 0] rfl h
          · replace h := h.2 c10
            refine ax_iconst dG_lettersIn_45 (by decide) ?_
            refine ax_istoren dG_lettersIn_46 rfl (by decide) rfl ?_
            refine ax_goto (tgt := 53) dG_lettersIn_47 (by decide) ?_
            obtain ⟨q9, h⟩ := h
            refine ax_iinc (j := 4) dG_lettersIn_53 rfl (by decide) q9 rfl ?_
            refine ax_goto (tgt := 7) dG_lettersIn_56 (by decide) ?_
            exact ax_sub [3, 4, 1, 0] rfl h
        · replace h := h.2 c11
          refine ax_iconst dG_lettersIn_38 (by decide) ?_
          exact ax_iret dG_lettersIn_39 h
theorem eG_lettersIn {P : Int → ax_Mem → Prop} {M : ax_Mem} {a1 : Int} (h : jG_lettersIn P 7 [(0, .inr (.inl a1)), (2, .inl 0), (3, .inl 0), (4, .inl 0)] [] M) : kG_lettersIn [.inr (.inl a1)] M P := ax_ofJ (by decide) (Nat.le_of_ble_eq_true rfl) (gG_lettersIn_0 h)
-- G_write dp 1
theorem gG_write_0 {P : Int → ax_Mem → Prop} {M : ax_Mem} {a1 a2 : Int} (h : jG_write P 3 [(0, .inr (.inr 13)), (1, .inr (.inl a1)), (3, .inl a2), (4, .inl 0)] [] M) : jG_write P 0 [(0, .inr (.inr 13)), (1, .inr (.inl a1)), (3, .inl a2)] [] M := by
  refine ax_iconst dG_write_0 (by decide) ?_
  refine ax_istore dG_write_1 (by decide) rfl ?_
  exact ax_sub [1, 2, 3, 0] rfl h
theorem gG_write_3 {P : Int → ax_Mem → Prop} {M : ax_Mem} {v1 v3 v4 : Int} (h : (v3 ≤ v4 → P 0 M) ∧ (¬ v3 ≤ v4 → (16 ≤ (M 13 1) → P 0 M) ∧ (¬ 16 ≤ (M 13 1) → kG_codeIn [.inr (.inl v1), .inl v4] M (fun r1 M2 => (0 ≤ r1 ∧ r1 < 65536) ∧ ((0 ≤ (M 13 1) ∧ (M 13 1) < 16) ∧ (0 ≤ r1 ∧ r1 < 65536)) ∧ (-2147483648 ≤ ((M2 13 1) + 1) ∧ ((M2 13 1) + 1) < 2147483648) ∧ (-2147483648 ≤ (v4 + 1) ∧ (v4 + 1) < 2147483648) ∧ jG_write P 3 [(0, .inr (.inr 13)), (1, .inr (.inl v1)), (3, .inl v3), (4, .inl (v4 + 1))] [] (ax_u (ax_u M2 14 ((M 13 1).toNat) r1) 13 1 ((M2 13 1) + 1)))))) : jG_write P 3 [(0, .inr (.inr 13)), (1, .inr (.inl v1)), (3, .inl v3), (4, .inl v4)] [] M := by
  refine ax_iload 3 dG_write_3 rfl ?_
  refine ax_iloadn 2 dG_write_5 rfl rfl ?_
  refine ax_icmp_ge (tgt := 50) dG_write_6 (by decide) (fun c8 => ?_) (fun c8 => ?_)
  · replace h := h.1 c8
    exact ax_vret dG_write_50 h
  · replace h := h.2 c8
    refine ax_aloadn 0 dG_write_9 rfl rfl ?_
    refine ax_geti dG_write_10 fG_21 sX_13 rfl ?_
    refine ax_bipush dG_write_13 (by decide) ?_
    refine ax_icmp_ge (tgt := 50) dG_write_15 (by decide) (fun c7 => ?_) (fun c7 => ?_)
    · replace h := h.1 c7
      exact ax_vret dG_write_50 h
    · replace h := h.2 c7
      refine ax_aloadn 0 dG_write_18 rfl rfl ?_
      refine ax_getr dG_write_19 fG_9 sX_13 rfl ?_
      refine ax_aloadn 0 dG_write_22 rfl rfl ?_
      refine ax_geti dG_write_23 fG_21 sX_13 rfl ?_
      refine ax_lloadn 1 dG_write_26 rfl rfl ?_
      refine ax_iload 3 dG_write_27 rfl ?_
      refine ax_callS (dp2 := 0) (as := [.inr (.inl v1), .inl v4]) (st := [.inl (M 13 1), .inr (.inr 14)]) dG_write_29 lG_15 rfl rfl (Nat.le_of_ble_eq_true rfl) (by decide) ?_
      refine ax_C_mono (fun r1 M2 h => ?_) h
      obtain ⟨q3, h⟩ := h
      refine ax_i2c dG_write_32 q3.1 q3.2 ?_
      obtain ⟨q4, h⟩ := h
      refine ax_cast dG_write_33 sX_14 q4.1.1 q4.1.2 q4.2.1 q4.2.2 ?_
      refine ax_aloadn 0 dG_write_34 rfl rfl ?_
      refine ax_dup dG_write_35 rfl ?_
      refine ax_geti dG_write_36 fG_21 sX_13 rfl ?_
      refine ax_top (x' := M2 13 1) (by first | rfl | exact ax_u_at _ _ _ _) ?_
      refine ax_iconst dG_write_39 (by decide) ?_
      obtain ⟨q5, h⟩ := h
      refine ax_iadd dG_write_40 q5 ?_
      refine ax_puti dG_write_41 pG_21 sX_13 rfl ?_
      obtain ⟨q6, h⟩ := h
      refine ax_iinc (j := 3) dG_write_44 rfl (by decide) q6 rfl ?_
      refine ax_goto (tgt := 3) dG_write_47 (by decide) ?_
      exact ax_sub [1, 2, 3, 0] rfl h
theorem eG_write {P : Int → ax_Mem → Prop} {M : ax_Mem} {a1 a2 : Int} (h : jG_write P 3 [(0, .inr (.inr 13)), (1, .inr (.inl a1)), (3, .inl a2), (4, .inl 0)] [] M) : kG_write [.inr (.inr 13), .inr (.inl a1), .inl a2] M P := ax_ofJ (by decide) (Nat.le_of_ble_eq_true rfl) (gG_write_0 h)
