-- by program gen2.py: one theorem a segment
-- M_boardBy dp 5
theorem gM_boardBy_0 {P : Int → ax_Mem → Prop} {M : ax_Mem} {a1 : Int} (h : kM_layPeople [.inr (.inr 0), .inl 3] M (fun _ M2 => kM_layOrder [.inr (.inr 0), .inl a1] M2 (fun _ M4 => kM_boardAll [.inr (.inr 0)] M4 (fun r5 M6 => P r5 M6)))) : jM_boardBy P 0 [(0, .inr (.inr 0)), (1, .inl a1)] [] M := by
  refine ax_aloadn 0 dM_boardBy_0 rfl rfl ?_
  refine ax_iconst dM_boardBy_1 (by decide) ?_
  refine ax_callV (dp2 := 0) (as := [.inl 3]) (st := []) dM_boardBy_2 lM_174 sM_0 ⟨_, _, rfl⟩ rfl rfl (Nat.le_of_ble_eq_true rfl) (by decide) ?_
  refine ax_C_mono (fun _ M2 h => ?_) h
  refine ax_aloadn 0 dM_boardBy_5 rfl rfl ?_
  refine ax_iloadn 1 dM_boardBy_6 rfl rfl ?_
  refine ax_callV (dp2 := 3) (as := [.inl a1]) (st := []) dM_boardBy_7 lM_178 sM_0 ⟨_, _, rfl⟩ rfl rfl (Nat.le_of_ble_eq_true rfl) (by decide) ?_
  refine ax_C_mono (fun _ M4 h => ?_) h
  refine ax_aloadn 0 dM_boardBy_10 rfl rfl ?_
  refine ax_callV (dp2 := 4) (as := []) (st := []) dM_boardBy_11 lM_209 sM_0 ⟨_, _, rfl⟩ rfl rfl (Nat.le_of_ble_eq_true rfl) (by decide) ?_
  refine ax_C_mono (fun r5 M6 h => ?_) h
  exact ax_iret dM_boardBy_14 h
theorem eM_boardBy {P : Int → ax_Mem → Prop} {M : ax_Mem} {a1 : Int} (h : kM_layPeople [.inr (.inr 0), .inl 3] M (fun _ M2 => kM_layOrder [.inr (.inr 0), .inl a1] M2 (fun _ M4 => kM_boardAll [.inr (.inr 0)] M4 (fun r5 M6 => P r5 M6)))) : kM_boardBy [.inr (.inr 0), .inl a1] M P := ax_ofJ (by decide) (Nat.le_of_ble_eq_true rfl) (gM_boardBy_0 h)
-- M_boardOf dp 6
theorem gM_boardOf_0 {P : Int → ax_Mem → Prop} {M : ax_Mem} {a1 a2 : Int} (h : kM_boardBy [.inr (.inr 0), .inl a1] M (fun r1 M2 => jM_boardOf P 12 [(0, .inr (.inr 0)), (2, .inl a2), (3, .inl r1), (4, .inl 0), (5, .inl 0)] [] M2)) : jM_boardOf P 0 [(0, .inr (.inr 0)), (1, .inl a1), (2, .inl a2)] [] M := by
  refine ax_aloadn 0 dM_boardOf_0 rfl rfl ?_
  refine ax_iloadn 1 dM_boardOf_1 rfl rfl ?_
  refine ax_callV (dp2 := 5) (as := [.inl a1]) (st := []) dM_boardOf_2 lM_212 sM_0 ⟨_, _, rfl⟩ rfl rfl (Nat.le_of_ble_eq_true rfl) (by decide) ?_
  refine ax_C_mono (fun r1 M2 h => ?_) h
  refine ax_istoren dM_boardOf_5 rfl (by decide) rfl ?_
  refine ax_iconst dM_boardOf_6 (by decide) ?_
  refine ax_istore dM_boardOf_7 (by decide) rfl ?_
  refine ax_iconst dM_boardOf_9 (by decide) ?_
  refine ax_istore dM_boardOf_10 (by decide) rfl ?_
  exact ax_sub [3, 5, 2, 1, 0] rfl h
theorem gM_boardOf_12 {P : Int → ax_Mem → Prop} {M : ax_Mem} {v2 v3 v4 v5 : Int} (h : ((M 0 4) ≤ v5 → (¬ v2 = 0 → (¬ v2 = 1 → P v4 M) ∧ (v2 = 1 → P (M 0 24) M)) ∧ (v2 = 0 → P v3 M)) ∧ (¬ (M 0 4) ≤ v5 → (0 ≤ v5 ∧ v5 < 12) ∧ (-2147483648 ≤ (v4 + (M 11 (v5.toNat))) ∧ (v4 + (M 11 (v5.toNat))) < 2147483648) ∧ jM_boardOf P 12 [(0, .inr (.inr 0)), (2, .inl v2), (3, .inl v3), (4, .inl (v4 + (M 11 (v5.toNat)))), (5, .inl (v5 + 1))] [] M)) : jM_boardOf P 12 [(0, .inr (.inr 0)), (2, .inl v2), (3, .inl v3), (4, .inl v4), (5, .inl v5)] [] M := by
  refine ax_iload 4 dM_boardOf_12 rfl ?_
  refine ax_aloadn 0 dM_boardOf_14 rfl rfl ?_
  refine ax_geti dM_boardOf_15 fM_89 sM_0 rfl ?_
  refine ax_icmp_ge (tgt := 39) dM_boardOf_18 (by decide) (fun c5 => ?_) (fun c5 => ?_)
  · replace h := h.1 c5
    refine ax_iloadn 1 dM_boardOf_39 rfl rfl ?_
    refine ax_if_ne (tgt := 47) dM_boardOf_40 (by decide) (fun c2 => ?_) (fun c2 => ?_)
    · replace h := h.1 c2
      refine ax_iloadn 1 dM_boardOf_47 rfl rfl ?_
      refine ax_iconst dM_boardOf_48 (by decide) ?_
      refine ax_icmp_ne (tgt := 59) dM_boardOf_49 (by decide) (fun c1 => ?_) (fun c1 => ?_)
      · replace h := h.1 c1
        refine ax_iload 3 dM_boardOf_59 rfl ?_
        exact ax_iret dM_boardOf_61 h
      · replace h := h.2 c1
        refine ax_aloadn 0 dM_boardOf_52 rfl rfl ?_
        refine ax_geti dM_boardOf_53 fM_184 sM_0 rfl ?_
        refine ax_goto (tgt := 61) dM_boardOf_56 (by decide) ?_
        exact ax_iret dM_boardOf_61 h
    · replace h := h.2 c2
      refine ax_iloadn 2 dM_boardOf_43 rfl rfl ?_
      refine ax_goto (tgt := 61) dM_boardOf_44 (by decide) ?_
      exact ax_iret dM_boardOf_61 h
  · replace h := h.2 c5
    refine ax_iload 3 dM_boardOf_21 rfl ?_
    refine ax_aloadn 0 dM_boardOf_23 rfl rfl ?_
    refine ax_getr dM_boardOf_24 fM_40 sM_0 rfl ?_
    refine ax_iload 4 dM_boardOf_27 rfl ?_
    obtain ⟨q3, h⟩ := h
    refine ax_iald dM_boardOf_29 sM_11 q3.1 q3.2 ?_
    obtain ⟨q4, h⟩ := h
    refine ax_iadd dM_boardOf_30 q4 ?_
    refine ax_istore dM_boardOf_31 (by decide) rfl ?_
    refine ax_iinc (j := 4) dM_boardOf_33 rfl (by decide) (show ax_r _ from ⟨by omega, by omega⟩) rfl ?_
    refine ax_goto (tgt := 12) dM_boardOf_36 (by decide) ?_
    exact ax_sub [2, 3, 4, 1, 0] rfl h
theorem eM_boardOf {P : Int → ax_Mem → Prop} {M : ax_Mem} {a1 a2 : Int} (h : kM_boardBy [.inr (.inr 0), .inl a1] M (fun r1 M2 => jM_boardOf P 12 [(0, .inr (.inr 0)), (2, .inl a2), (3, .inl r1), (4, .inl 0), (5, .inl 0)] [] M2)) : kM_boardOf [.inr (.inr 0), .inl a1, .inl a2] M P := ax_ofJ (by decide) (Nat.le_of_ble_eq_true rfl) (gM_boardOf_0 h)
-- M_board dp 7
theorem gM_board_0 {P : Int → ax_Mem → Prop} {M : ax_Mem} {a1 a2 : Int} (h : kM_isCall [.inr (.inr 0), .inl a1] M (fun r1 M2 => (¬ r1 = 0 → kM_lacks [.inr (.inr 0)] M2 (fun r3 M4 => (r3 = 0 → kM_in [.inr (.inl a2), .inr (.inl 0), .inr (.inl 2)] M4 (fun r5 M6 => (r5 = 0 → P (-102) M6) ∧ (¬ r5 = 0 → kM_boardOf [.inr (.inr 0), .inl a1, .inl a2] M6 (fun r7 M8 => P r7 M8)))) ∧ (¬ r3 = 0 → P (-103) M4))) ∧ (r1 = 0 → P (-101) M2))) : jM_board P 0 [(0, .inr (.inr 0)), (1, .inl a1), (2, .inl a2)] [] M := by
  refine ax_aloadn 0 dM_board_0 rfl rfl ?_
  refine ax_iloadn 1 dM_board_1 rfl rfl ?_
  refine ax_callV (dp2 := 1) (as := [.inl a1]) (st := []) dM_board_2 lM_169 sM_0 ⟨_, _, rfl⟩ rfl rfl (Nat.le_of_ble_eq_true rfl) (by decide) ?_
  refine ax_C_mono (fun r1 M2 h => ?_) h
  refine ax_if_ne (tgt := 11) dM_board_5 (by decide) (fun c11 => ?_) (fun c11 => ?_)
  · replace h := h.1 c11
    refine ax_aloadn 0 dM_board_11 rfl rfl ?_
    refine ax_callV (dp2 := 0) (as := []) (st := []) dM_board_12 lM_95 sM_0 ⟨_, _, rfl⟩ rfl rfl (Nat.le_of_ble_eq_true rfl) (by decide) ?_
    refine ax_C_mono (fun r3 M4 h => ?_) h
    refine ax_if_eq (tgt := 21) dM_board_15 (by decide) (fun c10 => ?_) (fun c10 => ?_)
    · replace h := h.1 c10
      refine ax_iloadn 2 dM_board_21 rfl rfl ?_
      refine ax_i2l dM_board_22 ?_
      refine ax_lconst (i := 0) dM_board_23 rfl ?_
      refine ax_ldc2 (n := 2) dM_board_24 nM_68 ?_
      refine ax_callS (dp2 := 0) (as := [.inr (.inl a2), .inr (.inl 0), .inr (.inl 2)]) (st := []) dM_board_27 lM_72 rfl rfl (Nat.le_of_ble_eq_true rfl) (by decide) ?_
      refine ax_C_mono (fun r5 M6 h => ?_) h
      refine ax_if_eq (tgt := 42) dM_board_30 (by decide) (fun c9 => ?_) (fun c9 => ?_)
      · replace h := h.1 c9
        refine ax_bipush dM_board_42 (by decide) ?_
        exact ax_iret dM_board_44 h
      · replace h := h.2 c9
        refine ax_aloadn 0 dM_board_33 rfl rfl ?_
        refine ax_iloadn 1 dM_board_34 rfl rfl ?_
        refine ax_iloadn 2 dM_board_35 rfl rfl ?_
        refine ax_callV (dp2 := 6) (as := [.inl a1, .inl a2]) (st := []) dM_board_36 lM_215 sM_0 ⟨_, _, rfl⟩ rfl rfl (Nat.le_of_ble_eq_true rfl) (by decide) ?_
        refine ax_C_mono (fun r7 M8 h => ?_) h
        refine ax_goto (tgt := 44) dM_board_39 (by decide) ?_
        exact ax_iret dM_board_44 h
    · replace h := h.2 c10
      refine ax_bipush dM_board_18 (by decide) ?_
      exact ax_iret dM_board_20 h
  · replace h := h.2 c11
    refine ax_bipush dM_board_8 (by decide) ?_
    exact ax_iret dM_board_10 h
theorem eM_board {P : Int → ax_Mem → Prop} {M : ax_Mem} {a1 a2 : Int} (h : kM_isCall [.inr (.inr 0), .inl a1] M (fun r1 M2 => (¬ r1 = 0 → kM_lacks [.inr (.inr 0)] M2 (fun r3 M4 => (r3 = 0 → kM_in [.inr (.inl a2), .inr (.inl 0), .inr (.inl 2)] M4 (fun r5 M6 => (r5 = 0 → P (-102) M6) ∧ (¬ r5 = 0 → kM_boardOf [.inr (.inr 0), .inl a1, .inl a2] M6 (fun r7 M8 => P r7 M8)))) ∧ (¬ r3 = 0 → P (-103) M4))) ∧ (r1 = 0 → P (-101) M2))) : kM_board [.inr (.inr 0), .inl a1, .inl a2] M P := ax_ofJ (by decide) (Nat.le_of_ble_eq_true rfl) (gM_board_0 h)
-- M_sits dp 6
theorem gM_sits_0 {P : Int → ax_Mem → Prop} {M : ax_Mem} {a1 a2 a3 : Int} (h : kM_isCall [.inr (.inr 0), .inl a1] M (fun r1 M2 => (r1 = 0 → P (-101) M2) ∧ (¬ r1 = 0 → kM_isPerson [.inr (.inr 0), .inl a2] M2 (fun r3 M4 => (¬ r3 = 0 → kM_in [.inr (.inl a3), .inr (.inl 0), .inr (.inl 4)] M4 (fun r5 M6 => (¬ r5 = 0 → kM_boardBy [.inr (.inr 0), .inl a1] M6 (fun r7 M8 => (¬ a3 = 0 → (¬ a3 = 1 → (-2147483648 ≤ (3 * a2) ∧ (3 * a2) < 2147483648) ∧ (-2147483648 ≤ ((3 * a2) + a3) ∧ ((3 * a2) + a3) < 2147483648) ∧ (-2147483648 ≤ (((3 * a2) + a3) - 2) ∧ (((3 * a2) + a3) - 2) < 2147483648) ∧ (0 ≤ (((3 * a2) + a3) - 2) ∧ (((3 * a2) + a3) - 2) < 36) ∧ P (M8 13 ((((3 * a2) + a3) - 2).toNat)) M8) ∧ (a3 = 1 → (0 ≤ a2 ∧ a2 < 12) ∧ P (M8 11 (a2.toNat)) M8)) ∧ (a3 = 0 → (0 ≤ a2 ∧ a2 < 12) ∧ P (M8 10 (a2.toNat)) M8))) ∧ (r5 = 0 → P (-102) M6))) ∧ (r3 = 0 → P (-101) M4))))) : jM_sits P 0 [(0, .inr (.inr 0)), (1, .inl a1), (2, .inl a2), (3, .inl a3)] [] M := by
  refine ax_aloadn 0 dM_sits_0 rfl rfl ?_
  refine ax_iloadn 1 dM_sits_1 rfl rfl ?_
  refine ax_callV (dp2 := 1) (as := [.inl a1]) (st := []) dM_sits_2 lM_169 sM_0 ⟨_, _, rfl⟩ rfl rfl (Nat.le_of_ble_eq_true rfl) (by decide) ?_
  refine ax_C_mono (fun r1 M2 h => ?_) h
  refine ax_if_eq (tgt := 16) dM_sits_5 (by decide) (fun c19 => ?_) (fun c19 => ?_)
  · replace h := h.1 c19
    refine ax_bipush dM_sits_16 (by decide) ?_
    exact ax_iret dM_sits_18 h
  · replace h := h.2 c19
    refine ax_aloadn 0 dM_sits_8 rfl rfl ?_
    refine ax_iloadn 2 dM_sits_9 rfl rfl ?_
    refine ax_callV (dp2 := 1) (as := [.inl a2]) (st := []) dM_sits_10 lM_99 sM_0 ⟨_, _, rfl⟩ rfl rfl (Nat.le_of_ble_eq_true rfl) (by decide) ?_
    refine ax_C_mono (fun r3 M4 h => ?_) h
    refine ax_if_ne (tgt := 19) dM_sits_13 (by decide) (fun c18 => ?_) (fun c18 => ?_)
    · replace h := h.1 c18
      refine ax_iloadn 3 dM_sits_19 rfl rfl ?_
      refine ax_i2l dM_sits_20 ?_
      refine ax_lconst (i := 0) dM_sits_21 rfl ?_
      refine ax_ldc2 (n := 4) dM_sits_22 nM_219 ?_
      refine ax_callS (dp2 := 0) (as := [.inr (.inl a3), .inr (.inl 0), .inr (.inl 4)]) (st := []) dM_sits_25 lM_72 rfl rfl (Nat.le_of_ble_eq_true rfl) (by decide) ?_
      refine ax_C_mono (fun r5 M6 h => ?_) h
      refine ax_if_ne (tgt := 34) dM_sits_28 (by decide) (fun c17 => ?_) (fun c17 => ?_)
      · replace h := h.1 c17
        refine ax_aloadn 0 dM_sits_34 rfl rfl ?_
        refine ax_iloadn 1 dM_sits_35 rfl rfl ?_
        refine ax_callV (dp2 := 5) (as := [.inl a1]) (st := []) dM_sits_36 lM_212 sM_0 ⟨_, _, rfl⟩ rfl rfl (Nat.le_of_ble_eq_true rfl) (by decide) ?_
        refine ax_C_mono (fun r7 M8 h => ?_) h
        refine ax_istore dM_sits_39 (by decide) rfl ?_
        refine ax_iloadn 4 dM_sits_41 rfl rfl ?_
        refine ax_if_ne (tgt := 54) dM_sits_42 (by decide) (fun c16 => ?_) (fun c16 => ?_)
        · replace h := h.1 c16
          refine ax_iloadn 4 dM_sits_54 rfl rfl ?_
          refine ax_iconst dM_sits_55 (by decide) ?_
          refine ax_icmp_ne (tgt := 68) dM_sits_56 (by decide) (fun c14 => ?_) (fun c14 => ?_)
          · replace h := h.1 c14
            refine ax_aloadn 1 dM_sits_68 rfl rfl ?_
            refine ax_getr dM_sits_69 fM_46 sM_0 rfl ?_
            refine ax_iconst dM_sits_72 (by decide) ?_
            refine ax_iloadn 3 dM_sits_73 rfl rfl ?_
            obtain ⟨q9, h⟩ := h
            refine ax_imul dM_sits_74 q9 ?_
            refine ax_iloadn 4 dM_sits_75 rfl rfl ?_
            obtain ⟨q10, h⟩ := h
            refine ax_iadd dM_sits_76 q10 ?_
            refine ax_iconst dM_sits_77 (by decide) ?_
            obtain ⟨q11, h⟩ := h
            refine ax_isub dM_sits_78 q11 ?_
            obtain ⟨q12, h⟩ := h
            refine ax_iald dM_sits_79 sM_13 q12.1 q12.2 ?_
            exact ax_iret dM_sits_80 h
          · replace h := h.2 c14
            refine ax_aloadn 1 dM_sits_59 rfl rfl ?_
            refine ax_getr dM_sits_60 fM_40 sM_0 rfl ?_
            refine ax_iloadn 3 dM_sits_63 rfl rfl ?_
            obtain ⟨q13, h⟩ := h
            refine ax_iald dM_sits_64 sM_11 q13.1 q13.2 ?_
            refine ax_goto (tgt := 80) dM_sits_65 (by decide) ?_
            exact ax_iret dM_sits_80 h
        · replace h := h.2 c16
          refine ax_aloadn 1 dM_sits_45 rfl rfl ?_
          refine ax_getr dM_sits_46 fM_37 sM_0 rfl ?_
          refine ax_iloadn 3 dM_sits_49 rfl rfl ?_
          obtain ⟨q15, h⟩ := h
          refine ax_iald dM_sits_50 sM_10 q15.1 q15.2 ?_
          refine ax_goto (tgt := 80) dM_sits_51 (by decide) ?_
          exact ax_iret dM_sits_80 h
      · replace h := h.2 c17
        refine ax_bipush dM_sits_31 (by decide) ?_
        exact ax_iret dM_sits_33 h
    · replace h := h.2 c18
      refine ax_bipush dM_sits_16 (by decide) ?_
      exact ax_iret dM_sits_18 h
theorem eM_sits {P : Int → ax_Mem → Prop} {M : ax_Mem} {a1 a2 a3 : Int} (h : kM_isCall [.inr (.inr 0), .inl a1] M (fun r1 M2 => (r1 = 0 → P (-101) M2) ∧ (¬ r1 = 0 → kM_isPerson [.inr (.inr 0), .inl a2] M2 (fun r3 M4 => (¬ r3 = 0 → kM_in [.inr (.inl a3), .inr (.inl 0), .inr (.inl 4)] M4 (fun r5 M6 => (¬ r5 = 0 → kM_boardBy [.inr (.inr 0), .inl a1] M6 (fun r7 M8 => (¬ a3 = 0 → (¬ a3 = 1 → (-2147483648 ≤ (3 * a2) ∧ (3 * a2) < 2147483648) ∧ (-2147483648 ≤ ((3 * a2) + a3) ∧ ((3 * a2) + a3) < 2147483648) ∧ (-2147483648 ≤ (((3 * a2) + a3) - 2) ∧ (((3 * a2) + a3) - 2) < 2147483648) ∧ (0 ≤ (((3 * a2) + a3) - 2) ∧ (((3 * a2) + a3) - 2) < 36) ∧ P (M8 13 ((((3 * a2) + a3) - 2).toNat)) M8) ∧ (a3 = 1 → (0 ≤ a2 ∧ a2 < 12) ∧ P (M8 11 (a2.toNat)) M8)) ∧ (a3 = 0 → (0 ≤ a2 ∧ a2 < 12) ∧ P (M8 10 (a2.toNat)) M8))) ∧ (r5 = 0 → P (-102) M6))) ∧ (r3 = 0 → P (-101) M4))))) : kM_sits [.inr (.inr 0), .inl a1, .inl a2, .inl a3] M P := ax_ofJ (by decide) (Nat.le_of_ble_eq_true rfl) (gM_sits_0 h)
-- M_stands dp 4
theorem gM_stands_0 {P : Int → ax_Mem → Prop} {M : ax_Mem} {a1 a2 a3 : Int} (h : kM_isCall [.inr (.inr 0), .inl a1] M (fun r1 M2 => (¬ r1 = 0 → kM_lacks [.inr (.inr 0)] M2 (fun r3 M4 => (r3 = 0 → kM_in [.inr (.inl a2), .inr (.inl 1), .inr (.inl 999)] M4 (fun r5 M6 => (r5 = 0 → P (-102) M6) ∧ (¬ r5 = 0 → (-2147483648 ≤ ((M6 0 0) - 1) ∧ ((M6 0 0) - 1) < 2147483648) ∧ kM_in [.inr (.inl a3), .inr (.inl 0), .inr (.inl ((M6 0 0) - 1))] M6 (fun r8 M9 => (¬ r8 = 0 → kM_layPeople [.inr (.inr 0), .inl 3] M9 (fun _ M11 => kM_layOrder [.inr (.inr 0), .inl a1] M11 (fun _ M13 => kM_beginBoard [.inr (.inr 0)] M13 (fun _ M15 => jM_stands P 69 [(0, .inr (.inr 0)), (2, .inl a2), (3, .inl a3), (4, .inl 1)] [] M15)))) ∧ (r8 = 0 → P (-102) M9))))) ∧ (¬ r3 = 0 → P (-103) M4))) ∧ (r1 = 0 → P (-101) M2))) : jM_stands P 0 [(0, .inr (.inr 0)), (1, .inl a1), (2, .inl a2), (3, .inl a3)] [] M := by
  refine ax_aloadn 0 dM_stands_0 rfl rfl ?_
  refine ax_iloadn 1 dM_stands_1 rfl rfl ?_
  refine ax_callV (dp2 := 1) (as := [.inl a1]) (st := []) dM_stands_2 lM_169 sM_0 ⟨_, _, rfl⟩ rfl rfl (Nat.le_of_ble_eq_true rfl) (by decide) ?_
  refine ax_C_mono (fun r1 M2 h => ?_) h
  refine ax_if_ne (tgt := 11) dM_stands_5 (by decide) (fun c19 => ?_) (fun c19 => ?_)
  · replace h := h.1 c19
    refine ax_aloadn 0 dM_stands_11 rfl rfl ?_
    refine ax_callV (dp2 := 0) (as := []) (st := []) dM_stands_12 lM_95 sM_0 ⟨_, _, rfl⟩ rfl rfl (Nat.le_of_ble_eq_true rfl) (by decide) ?_
    refine ax_C_mono (fun r3 M4 h => ?_) h
    refine ax_if_eq (tgt := 21) dM_stands_15 (by decide) (fun c18 => ?_) (fun c18 => ?_)
    · replace h := h.1 c18
      refine ax_iloadn 2 dM_stands_21 rfl rfl ?_
      refine ax_i2l dM_stands_22 ?_
      refine ax_lconst (i := 1) dM_stands_23 rfl ?_
      refine ax_ldc2 (n := 999) dM_stands_24 nM_103 ?_
      refine ax_callS (dp2 := 0) (as := [.inr (.inl a2), .inr (.inl 1), .inr (.inl 999)]) (st := []) dM_stands_27 lM_72 rfl rfl (Nat.le_of_ble_eq_true rfl) (by decide) ?_
      refine ax_C_mono (fun r5 M6 h => ?_) h
      refine ax_if_eq (tgt := 49) dM_stands_30 (by decide) (fun c17 => ?_) (fun c17 => ?_)
      · replace h := h.1 c17
        refine ax_bipush dM_stands_49 (by decide) ?_
        exact ax_iret dM_stands_51 h
      · replace h := h.2 c17
        refine ax_iloadn 3 dM_stands_33 rfl rfl ?_
        refine ax_i2l dM_stands_34 ?_
        refine ax_lconst (i := 0) dM_stands_35 rfl ?_
        refine ax_aloadn 0 dM_stands_36 rfl rfl ?_
        refine ax_geti dM_stands_37 fM_80 sM_0 rfl ?_
        refine ax_iconst dM_stands_40 (by decide) ?_
        obtain ⟨q7, h⟩ := h
        refine ax_isub dM_stands_41 q7 ?_
        refine ax_i2l dM_stands_42 ?_
        refine ax_callS (dp2 := 0) (as := [.inr (.inl a3), .inr (.inl 0), .inr (.inl ((M6 0 0) - 1))]) (st := []) dM_stands_43 lM_72 rfl rfl (Nat.le_of_ble_eq_true rfl) (by decide) ?_
        refine ax_C_mono (fun r8 M9 h => ?_) h
        refine ax_if_ne (tgt := 52) dM_stands_46 (by decide) (fun c16 => ?_) (fun c16 => ?_)
        · replace h := h.1 c16
          refine ax_aloadn 0 dM_stands_52 rfl rfl ?_
          refine ax_iconst dM_stands_53 (by decide) ?_
          refine ax_callV (dp2 := 0) (as := [.inl 3]) (st := []) dM_stands_54 lM_174 sM_0 ⟨_, _, rfl⟩ rfl rfl (Nat.le_of_ble_eq_true rfl) (by decide) ?_
          refine ax_C_mono (fun _ M11 h => ?_) h
          refine ax_aloadn 0 dM_stands_57 rfl rfl ?_
          refine ax_iloadn 1 dM_stands_58 rfl rfl ?_
          refine ax_callV (dp2 := 3) (as := [.inl a1]) (st := []) dM_stands_59 lM_178 sM_0 ⟨_, _, rfl⟩ rfl rfl (Nat.le_of_ble_eq_true rfl) (by decide) ?_
          refine ax_C_mono (fun _ M13 h => ?_) h
          refine ax_aloadn 0 dM_stands_62 rfl rfl ?_
          refine ax_callV (dp2 := 0) (as := []) (st := []) dM_stands_63 lM_203 sM_0 ⟨_, _, rfl⟩ rfl rfl (Nat.le_of_ble_eq_true rfl) (by decide) ?_
          refine ax_C_mono (fun _ M15 h => ?_) h
          refine ax_iconst dM_stands_66 (by decide) ?_
          refine ax_istore dM_stands_67 (by decide) rfl ?_
          exact ax_sub [1, 3, 4, 0] rfl h
        · replace h := h.2 c16
          refine ax_bipush dM_stands_49 (by decide) ?_
          exact ax_iret dM_stands_51 h
    · replace h := h.2 c18
      refine ax_bipush dM_stands_18 (by decide) ?_
      exact ax_iret dM_stands_20 h
  · replace h := h.2 c19
    refine ax_bipush dM_stands_8 (by decide) ?_
    exact ax_iret dM_stands_10 h
theorem gM_stands_69 {P : Int → ax_Mem → Prop} {M : ax_Mem} {v2 v3 v4 : Int} (h : (v2 < v4 → (0 ≤ v3 ∧ v3 < 12) ∧ P (M 8 (v3.toNat)) M) ∧ (¬ v2 < v4 → ((M 0 17) ≤ (M 0 26) → (0 ≤ v3 ∧ v3 < 12) ∧ P (M 8 (v3.toNat)) M) ∧ (¬ (M 0 17) ≤ (M 0 26) → kM_goSecond [.inr (.inr 0), .inl v4] M (fun _ M4 => (-2147483648 ≤ (v4 + 1) ∧ (v4 + 1) < 2147483648) ∧ jM_stands P 69 [(0, .inr (.inr 0)), (2, .inl v2), (3, .inl v3), (4, .inl (v4 + 1))] [] M4)))) : jM_stands P 69 [(0, .inr (.inr 0)), (2, .inl v2), (3, .inl v3), (4, .inl v4)] [] M := by
  refine ax_iload 3 dM_stands_69 rfl ?_
  refine ax_iloadn 1 dM_stands_71 rfl rfl ?_
  refine ax_icmp_gt (tgt := 98) dM_stands_72 (by decide) (fun c7 => ?_) (fun c7 => ?_)
  · replace h := h.1 c7
    refine ax_aloadn 0 dM_stands_98 rfl rfl ?_
    refine ax_getr dM_stands_99 fM_31 sM_0 rfl ?_
    refine ax_iloadn 2 dM_stands_102 rfl rfl ?_
    obtain ⟨q1, h⟩ := h
    refine ax_iald dM_stands_103 sM_8 q1.1 q1.2 ?_
    exact ax_iret dM_stands_104 h
  · replace h := h.2 c7
    refine ax_aloadn 0 dM_stands_75 rfl rfl ?_
    refine ax_geti dM_stands_76 fM_187 sM_0 rfl ?_
    refine ax_aloadn 0 dM_stands_79 rfl rfl ?_
    refine ax_geti dM_stands_80 fM_156 sM_0 rfl ?_
    refine ax_icmp_ge (tgt := 98) dM_stands_83 (by decide) (fun c6 => ?_) (fun c6 => ?_)
    · replace h := h.1 c6
      refine ax_aloadn 0 dM_stands_98 rfl rfl ?_
      refine ax_getr dM_stands_99 fM_31 sM_0 rfl ?_
      refine ax_iloadn 2 dM_stands_102 rfl rfl ?_
      obtain ⟨q2, h⟩ := h
      refine ax_iald dM_stands_103 sM_8 q2.1 q2.2 ?_
      exact ax_iret dM_stands_104 h
    · replace h := h.2 c6
      refine ax_aloadn 0 dM_stands_86 rfl rfl ?_
      refine ax_iload 3 dM_stands_87 rfl ?_
      refine ax_callV (dp2 := 3) (as := [.inl v4]) (st := []) dM_stands_89 lM_206 sM_0 ⟨_, _, rfl⟩ rfl rfl (Nat.le_of_ble_eq_true rfl) (by decide) ?_
      refine ax_C_mono (fun _ M4 h => ?_) h
      obtain ⟨q5, h⟩ := h
      refine ax_iinc (j := 3) dM_stands_92 rfl (by decide) q5 rfl ?_
      refine ax_goto (tgt := 69) dM_stands_95 (by decide) ?_
      exact ax_sub [1, 2, 3, 0] rfl h
theorem eM_stands {P : Int → ax_Mem → Prop} {M : ax_Mem} {a1 a2 a3 : Int} (h : kM_isCall [.inr (.inr 0), .inl a1] M (fun r1 M2 => (¬ r1 = 0 → kM_lacks [.inr (.inr 0)] M2 (fun r3 M4 => (r3 = 0 → kM_in [.inr (.inl a2), .inr (.inl 1), .inr (.inl 999)] M4 (fun r5 M6 => (r5 = 0 → P (-102) M6) ∧ (¬ r5 = 0 → (-2147483648 ≤ ((M6 0 0) - 1) ∧ ((M6 0 0) - 1) < 2147483648) ∧ kM_in [.inr (.inl a3), .inr (.inl 0), .inr (.inl ((M6 0 0) - 1))] M6 (fun r8 M9 => (¬ r8 = 0 → kM_layPeople [.inr (.inr 0), .inl 3] M9 (fun _ M11 => kM_layOrder [.inr (.inr 0), .inl a1] M11 (fun _ M13 => kM_beginBoard [.inr (.inr 0)] M13 (fun _ M15 => jM_stands P 69 [(0, .inr (.inr 0)), (2, .inl a2), (3, .inl a3), (4, .inl 1)] [] M15)))) ∧ (r8 = 0 → P (-102) M9))))) ∧ (¬ r3 = 0 → P (-103) M4))) ∧ (r1 = 0 → P (-101) M2))) : kM_stands [.inr (.inr 0), .inl a1, .inl a2, .inl a3] M P := ax_ofJ (by decide) (Nat.le_of_ble_eq_true rfl) (gM_stands_0 h)
-- M_leastOf dp 6
theorem gM_leastOf_0 {P : Int → ax_Mem → Prop} {M : ax_Mem} (h : jM_leastOf P 7 [(0, .inr (.inr 0)), (1, .inl (-1)), (2, .inl 1000000), (3, .inl 0)] [] M) : jM_leastOf P 0 [(0, .inr (.inr 0))] [] M := by
  refine ax_iconst dM_leastOf_0 (by decide) ?_
  refine ax_istoren dM_leastOf_1 rfl (by decide) rfl ?_
  refine ax_ldc (n := 1000000) dM_leastOf_2 nM_221 ⟨by decide, by decide⟩ ?_
  refine ax_istoren dM_leastOf_4 rfl (by decide) rfl ?_
  refine ax_iconst dM_leastOf_5 (by decide) ?_
  refine ax_istoren dM_leastOf_6 rfl (by decide) rfl ?_
  exact ax_sub [3, 2, 1, 0] rfl h
theorem gM_leastOf_7 {P : Int → ax_Mem → Prop} {M : ax_Mem} {v1 v2 v3 : Int} (h : ((M 0 8) ≤ v3 → P v1 M) ∧ (¬ (M 0 8) ≤ v3 → kM_boardBy [.inr (.inr 0), .inl v3] M (fun r1 M2 => (v2 ≤ r1 → (v2 ≤ r1 → (-2147483648 ≤ (v3 + 1) ∧ (v3 + 1) < 2147483648) ∧ jM_leastOf P 7 [(0, .inr (.inr 0)), (1, .inl v1), (2, .inl v2), (3, .inl (v3 + 1))] [] M2) ∧ (¬ v2 ≤ r1 → (-2147483648 ≤ (v3 + 1) ∧ (v3 + 1) < 2147483648) ∧ jM_leastOf P 7 [(0, .inr (.inr 0)), (1, .inl v1), (2, .inl r1), (3, .inl (v3 + 1))] [] M2)) ∧ (¬ v2 ≤ r1 → (v2 ≤ r1 → (-2147483648 ≤ (v3 + 1) ∧ (v3 + 1) < 2147483648) ∧ jM_leastOf P 7 [(0, .inr (.inr 0)), (1, .inl v3), (2, .inl v2), (3, .inl (v3 + 1))] [] M2) ∧ (¬ v2 ≤ r1 → (-2147483648 ≤ (v3 + 1) ∧ (v3 + 1) < 2147483648) ∧ jM_leastOf P 7 [(0, .inr (.inr 0)), (1, .inl v3), (2, .inl r1), (3, .inl (v3 + 1))] [] M2))))) : jM_leastOf P 7 [(0, .inr (.inr 0)), (1, .inl v1), (2, .inl v2), (3, .inl v3)] [] M := by
  refine ax_iloadn 3 dM_leastOf_7 rfl rfl ?_
  refine ax_aloadn 0 dM_leastOf_8 rfl rfl ?_
  refine ax_geti dM_leastOf_9 fM_136 sM_0 rfl ?_
  refine ax_icmp_ge (tgt := 53) dM_leastOf_12 (by decide) (fun c10 => ?_) (fun c10 => ?_)
  · replace h := h.1 c10
    refine ax_iloadn 1 dM_leastOf_53 rfl rfl ?_
    exact ax_iret dM_leastOf_54 h
  · replace h := h.2 c10
    refine ax_aloadn 0 dM_leastOf_15 rfl rfl ?_
    refine ax_iloadn 3 dM_leastOf_16 rfl rfl ?_
    refine ax_callV (dp2 := 5) (as := [.inl v3]) (st := []) dM_leastOf_17 lM_212 sM_0 ⟨_, _, rfl⟩ rfl rfl (Nat.le_of_ble_eq_true rfl) (by decide) ?_
    refine ax_C_mono (fun r1 M2 h => ?_) h
    refine ax_istore dM_leastOf_20 (by decide) rfl ?_
    refine ax_iload 0 dM_leastOf_22 rfl ?_
    refine ax_iloadn 3 dM_leastOf_24 rfl rfl ?_
    refine ax_icmp_ge (tgt := 32) dM_leastOf_25 (by decide) (fun c9 => ?_) (fun c9 => ?_)
    · replace h := h.1 c9
      refine ax_iloadn 2 dM_leastOf_32 rfl rfl ?_
      refine ax_istoren dM_leastOf_33 rfl (by decide) rfl ?_
      refine ax_iload 1 dM_leastOf_34 rfl ?_
      refine ax_iloadn 3 dM_leastOf_36 rfl rfl ?_
      refine ax_icmp_ge (tgt := 45) dM_leastOf_37 (by decide) (fun c5 => ?_) (fun c5 => ?_)
      · replace h := h.1 c5
        refine ax_iloadn 3 dM_leastOf_45 rfl rfl ?_
        refine ax_istoren dM_leastOf_46 rfl (by decide) rfl ?_
        obtain ⟨q3, h⟩ := h
        refine ax_iinc (j := 4) dM_leastOf_47 rfl (by decide) q3 rfl ?_
        refine ax_goto (tgt := 7) dM_leastOf_50 (by decide) ?_
        exact ax_sub [4, 2, 1, 0] rfl h
      · replace h := h.2 c5
        refine ax_iload 1 dM_leastOf_40 rfl ?_
        refine ax_goto (tgt := 46) dM_leastOf_42 (by decide) ?_
        refine ax_istoren dM_leastOf_46 rfl (by decide) rfl ?_
        obtain ⟨q4, h⟩ := h
        refine ax_iinc (j := 4) dM_leastOf_47 rfl (by decide) q4 rfl ?_
        refine ax_goto (tgt := 7) dM_leastOf_50 (by decide) ?_
        exact ax_sub [4, 2, 1, 0] rfl h
    · replace h := h.2 c9
      refine ax_iloadn 4 dM_leastOf_28 rfl rfl ?_
      refine ax_goto (tgt := 33) dM_leastOf_29 (by decide) ?_
      refine ax_istoren dM_leastOf_33 rfl (by decide) rfl ?_
      refine ax_iload 1 dM_leastOf_34 rfl ?_
      refine ax_iloadn 3 dM_leastOf_36 rfl rfl ?_
      refine ax_icmp_ge (tgt := 45) dM_leastOf_37 (by decide) (fun c8 => ?_) (fun c8 => ?_)
      · replace h := h.1 c8
        refine ax_iloadn 3 dM_leastOf_45 rfl rfl ?_
        refine ax_istoren dM_leastOf_46 rfl (by decide) rfl ?_
        obtain ⟨q6, h⟩ := h
        refine ax_iinc (j := 4) dM_leastOf_47 rfl (by decide) q6 rfl ?_
        refine ax_goto (tgt := 7) dM_leastOf_50 (by decide) ?_
        exact ax_sub [4, 2, 1, 0] rfl h
      · replace h := h.2 c8
        refine ax_iload 1 dM_leastOf_40 rfl ?_
        refine ax_goto (tgt := 46) dM_leastOf_42 (by decide) ?_
        refine ax_istoren dM_leastOf_46 rfl (by decide) rfl ?_
        obtain ⟨q7, h⟩ := h
        refine ax_iinc (j := 4) dM_leastOf_47 rfl (by decide) q7 rfl ?_
        refine ax_goto (tgt := 7) dM_leastOf_50 (by decide) ?_
        exact ax_sub [4, 2, 1, 0] rfl h
theorem eM_leastOf {P : Int → ax_Mem → Prop} {M : ax_Mem} (h : jM_leastOf P 7 [(0, .inr (.inr 0)), (1, .inl (-1)), (2, .inl 1000000), (3, .inl 0)] [] M) : kM_leastOf [.inr (.inr 0)] M P := ax_ofJ (by decide) (Nat.le_of_ble_eq_true rfl) (gM_leastOf_0 h)
-- M_least dp 7
theorem gM_least_0 {P : Int → ax_Mem → Prop} {M : ax_Mem} (h : kM_lacks [.inr (.inr 0)] M (fun r1 M2 => (r1 = 0 → kM_leastOf [.inr (.inr 0)] M2 (fun r3 M4 => P r3 M4)) ∧ (¬ r1 = 0 → P (-103) M2))) : jM_least P 0 [(0, .inr (.inr 0))] [] M := by
  refine ax_aloadn 0 dM_least_0 rfl rfl ?_
  refine ax_callV (dp2 := 0) (as := []) (st := []) dM_least_1 lM_95 sM_0 ⟨_, _, rfl⟩ rfl rfl (Nat.le_of_ble_eq_true rfl) (by decide) ?_
  refine ax_C_mono (fun r1 M2 h => ?_) h
  refine ax_if_eq (tgt := 12) dM_least_4 (by decide) (fun c5 => ?_) (fun c5 => ?_)
  · replace h := h.1 c5
    refine ax_aloadn 0 dM_least_12 rfl rfl ?_
    refine ax_callV (dp2 := 6) (as := []) (st := []) dM_least_13 lM_222 sM_0 ⟨_, _, rfl⟩ rfl rfl (Nat.le_of_ble_eq_true rfl) (by decide) ?_
    refine ax_C_mono (fun r3 M4 h => ?_) h
    exact ax_iret dM_least_16 h
  · replace h := h.2 c5
    refine ax_bipush dM_least_7 (by decide) ?_
    refine ax_goto (tgt := 16) dM_least_9 (by decide) ?_
    exact ax_iret dM_least_16 h
theorem eM_least {P : Int → ax_Mem → Prop} {M : ax_Mem} (h : kM_lacks [.inr (.inr 0)] M (fun r1 M2 => (r1 = 0 → kM_leastOf [.inr (.inr 0)] M2 (fun r3 M4 => P r3 M4)) ∧ (¬ r1 = 0 → P (-103) M2))) : kM_least [.inr (.inr 0)] M P := ax_ofJ (by decide) (Nat.le_of_ble_eq_true rfl) (gM_least_0 h)
-- M_layNumber dp 1
theorem gM_layNumber_0 {P : Int → ax_Mem → Prop} {M : ax_Mem} {a1 : Int} (h : (-2147483648 ≤ ((M 0 4) - 1) ∧ ((M 0 4) - 1) < 2147483648) ∧ jM_layNumber P 20 [(0, .inr (.inr 0)), (2, .inl a1), (3, .inl 0), (4, .inl ((M 0 4) - 1))] [] (ax_u M 0 17 (M 0 4))) : jM_layNumber P 0 [(0, .inr (.inr 0)), (1, .inl a1)] [] M := by
  refine ax_iloadn 1 dM_layNumber_0 rfl rfl ?_
  refine ax_istoren dM_layNumber_1 rfl (by decide) rfl ?_
  refine ax_iconst dM_layNumber_2 (by decide) ?_
  refine ax_istoren dM_layNumber_3 rfl (by decide) rfl ?_
  refine ax_aloadn 2 dM_layNumber_4 rfl rfl ?_
  refine ax_aloadn 2 dM_layNumber_5 rfl rfl ?_
  refine ax_geti dM_layNumber_6 fM_89 sM_0 rfl ?_
  refine ax_puti dM_layNumber_9 pM_156 sM_0 rfl ?_
  refine ax_aloadn 2 dM_layNumber_12 rfl rfl ?_
  refine ax_geti dM_layNumber_13 fM_89 sM_0 rfl ?_
  refine ax_top (x' := M 0 4) (by first | rfl | exact ax_u_at _ _ _ _) ?_
  refine ax_iconst dM_layNumber_16 (by decide) ?_
  obtain ⟨q1, h⟩ := h
  refine ax_isub dM_layNumber_17 q1 ?_
  refine ax_istore dM_layNumber_18 (by decide) rfl ?_
  exact ax_sub [3, 2, 1, 0] rfl h
theorem gM_layNumber_20 {P : Int → ax_Mem → Prop} {M : ax_Mem} {v2 v3 v4 : Int} (h : (v4 < 0 → kM_everybody [.inr (.inr 0)] M (fun r1 M2 => (¬ v3 = r1 → P 0 M2) ∧ (v3 = r1 → P 1 M2))) ∧ (¬ v4 < 0 → ((0 : Int) ≤ v2 ∧ (0 : Int) < (M 0 4)) ∧ (0 ≤ v4 ∧ v4 < 12) ∧ (0 ≤ (v2 % (M 0 4)) ∧ (v2 % (M 0 4)) ≤ 30) ∧ ((0 : Int) ≤ v3 ∧ (0 : Int) ≤ ((2 : Int) ^ (v2 % (M 0 4)).toNat)) ∧ jM_layNumber P 20 [(0, .inr (.inr 0)), (2, .inl (v2 / (M 0 4))), (3, .inl ((v3.toNat ||| ((2 : Int) ^ (v2 % (M 0 4)).toNat).toNat : Nat) : Int)), (4, .inl (v4 + (-1)))] [] (ax_u M 7 (v4.toNat) (v2 % (M 0 4))))) : jM_layNumber P 20 [(0, .inr (.inr 0)), (2, .inl v2), (3, .inl v3), (4, .inl v4)] [] M := by
  refine ax_iload 3 dM_layNumber_20 rfl ?_
  refine ax_if_lt (tgt := 63) dM_layNumber_22 (by decide) (fun c8 => ?_) (fun c8 => ?_)
  · replace h := h.1 c8
    refine ax_iloadn 2 dM_layNumber_63 rfl rfl ?_
    refine ax_aloadn 0 dM_layNumber_64 rfl rfl ?_
    refine ax_callV (dp2 := 0) (as := []) (st := [.inl v3]) dM_layNumber_65 lM_225 sM_0 ⟨_, _, rfl⟩ rfl rfl (Nat.le_of_ble_eq_true rfl) (by decide) ?_
    refine ax_C_mono (fun r1 M2 h => ?_) h
    refine ax_icmp_ne (tgt := 75) dM_layNumber_68 (by decide) (fun c3 => ?_) (fun c3 => ?_)
    · replace h := h.1 c3
      refine ax_iconst dM_layNumber_75 (by decide) ?_
      exact ax_zret dM_layNumber_76 (by decide) h
    · replace h := h.2 c3
      refine ax_iconst dM_layNumber_71 (by decide) ?_
      refine ax_goto (tgt := 76) dM_layNumber_72 (by decide) ?_
      exact ax_zret dM_layNumber_76 (by decide) h
  · replace h := h.2 c8
    refine ax_aloadn 0 dM_layNumber_25 rfl rfl ?_
    refine ax_getr dM_layNumber_26 fM_28 sM_0 rfl ?_
    refine ax_iload 3 dM_layNumber_29 rfl ?_
    refine ax_iloadn 1 dM_layNumber_31 rfl rfl ?_
    refine ax_aloadn 0 dM_layNumber_32 rfl rfl ?_
    refine ax_geti dM_layNumber_33 fM_89 sM_0 rfl ?_
    obtain ⟨q4, h⟩ := h
    refine ax_irem dM_layNumber_36 q4.1 q4.2 ?_
    obtain ⟨q5, h⟩ := h
    refine ax_iast dM_layNumber_37 sM_7 q5.1 q5.2 ?_
    refine ax_iloadn 1 dM_layNumber_38 rfl rfl ?_
    refine ax_aloadn 0 dM_layNumber_39 rfl rfl ?_
    refine ax_geti dM_layNumber_40 fM_89 sM_0 rfl ?_
    refine ax_top (x' := M 0 4) (by first | rfl | exact ax_u_at _ _ _ _) ?_
    refine ax_idiv dM_layNumber_43 q4.1 q4.2 ?_
    refine ax_istoren dM_layNumber_44 rfl (by decide) rfl ?_
    refine ax_iloadn 2 dM_layNumber_45 rfl rfl ?_
    refine ax_iconst dM_layNumber_46 (by decide) ?_
    refine ax_aloadn 1 dM_layNumber_47 rfl rfl ?_
    refine ax_getr dM_layNumber_48 fM_28 sM_0 rfl ?_
    refine ax_iload 3 dM_layNumber_51 rfl ?_
    refine ax_iald dM_layNumber_53 sM_7 q5.1 q5.2 ?_
    refine ax_top (x' := v2 % (M 0 4)) (by first | rfl | exact ax_u_at _ _ _ _) ?_
    obtain ⟨q6, h⟩ := h
    refine ax_ishl1 dM_layNumber_54 q6.1 q6.2 ?_
    obtain ⟨q7, h⟩ := h
    refine ax_ior dM_layNumber_55 q7.1 q7.2 ?_
    refine ax_istoren dM_layNumber_56 rfl (by decide) rfl ?_
    refine ax_iinc (j := 3) dM_layNumber_57 rfl (by decide) (show ax_r _ from ⟨by omega, by omega⟩) rfl ?_
    refine ax_goto (tgt := 20) dM_layNumber_60 (by decide) ?_
    exact ax_sub [3, 2, 1, 0] rfl h
theorem eM_layNumber {P : Int → ax_Mem → Prop} {M : ax_Mem} {a1 : Int} (h : (-2147483648 ≤ ((M 0 4) - 1) ∧ ((M 0 4) - 1) < 2147483648) ∧ jM_layNumber P 20 [(0, .inr (.inr 0)), (2, .inl a1), (3, .inl 0), (4, .inl ((M 0 4) - 1))] [] (ax_u M 0 17 (M 0 4))) : kM_layNumber [.inr (.inr 0), .inl a1] M P := ax_ofJ (by decide) (Nat.le_of_ble_eq_true rfl) (gM_layNumber_0 h)
-- M_bestOrder dp 5
theorem gM_bestOrder_0 {P : Int → ax_Mem → Prop} {M : ax_Mem} {a1 : Int} (h : kM_lacks [.inr (.inr 0)] M (fun r1 M2 => (r1 = 0 → kM_in [.inr (.inl a1), .inr (.inl 0), .inr (.inl 6)] M2 (fun r3 M4 => (¬ r3 = 0 → (6 < (M4 0 4) → P (-103) M4) ∧ (¬ 6 < (M4 0 4) → (¬ (M4 0 27) = 20 → (-2147483648 ≤ ((M4 0 27) + 1) ∧ ((M4 0 27) + 1) < 2147483648) ∧ kM_layPeople [.inr (.inr 0), .inl 3] (ax_u M4 0 27 ((M4 0 27) + 1)) (fun _ M7 => jM_bestOrder P 65 [(0, .inr (.inr 0)), (1, .inl a1), (2, .inl 1), (3, .inl 0)] [] M7)) ∧ ((M4 0 27) = 20 → P (-103) M4))) ∧ (r3 = 0 → P (-102) M4))) ∧ (¬ r1 = 0 → P (-103) M2))) : jM_bestOrder P 0 [(0, .inr (.inr 0)), (1, .inl a1)] [] M := by
  refine ax_aloadn 0 dM_bestOrder_0 rfl rfl ?_
  refine ax_callV (dp2 := 0) (as := []) (st := []) dM_bestOrder_1 lM_95 sM_0 ⟨_, _, rfl⟩ rfl rfl (Nat.le_of_ble_eq_true rfl) (by decide) ?_
  refine ax_C_mono (fun r1 M2 h => ?_) h
  refine ax_if_eq (tgt := 10) dM_bestOrder_4 (by decide) (fun c11 => ?_) (fun c11 => ?_)
  · replace h := h.1 c11
    refine ax_iloadn 1 dM_bestOrder_10 rfl rfl ?_
    refine ax_i2l dM_bestOrder_11 ?_
    refine ax_lconst (i := 0) dM_bestOrder_12 rfl ?_
    refine ax_ldc2 (n := 6) dM_bestOrder_13 nM_78 ?_
    refine ax_callS (dp2 := 0) (as := [.inr (.inl a1), .inr (.inl 0), .inr (.inl 6)]) (st := []) dM_bestOrder_16 lM_72 rfl rfl (Nat.le_of_ble_eq_true rfl) (by decide) ?_
    refine ax_C_mono (fun r3 M4 h => ?_) h
    refine ax_if_ne (tgt := 25) dM_bestOrder_19 (by decide) (fun c10 => ?_) (fun c10 => ?_)
    · replace h := h.1 c10
      refine ax_aloadn 0 dM_bestOrder_25 rfl rfl ?_
      refine ax_geti dM_bestOrder_26 fM_89 sM_0 rfl ?_
      refine ax_bipush dM_bestOrder_29 (by decide) ?_
      refine ax_icmp_gt (tgt := 43) dM_bestOrder_31 (by decide) (fun c9 => ?_) (fun c9 => ?_)
      · replace h := h.1 c9
        refine ax_bipush dM_bestOrder_43 (by decide) ?_
        exact ax_iret dM_bestOrder_45 h
      · replace h := h.2 c9
        refine ax_aloadn 0 dM_bestOrder_34 rfl rfl ?_
        refine ax_geti dM_bestOrder_35 fM_228 sM_0 rfl ?_
        refine ax_bipush dM_bestOrder_38 (by decide) ?_
        refine ax_icmp_ne (tgt := 46) dM_bestOrder_40 (by decide) (fun c8 => ?_) (fun c8 => ?_)
        · replace h := h.1 c8
          refine ax_aloadn 0 dM_bestOrder_46 rfl rfl ?_
          refine ax_dup dM_bestOrder_47 rfl ?_
          refine ax_geti dM_bestOrder_48 fM_228 sM_0 rfl ?_
          refine ax_iconst dM_bestOrder_51 (by decide) ?_
          obtain ⟨q5, h⟩ := h
          refine ax_iadd dM_bestOrder_52 q5 ?_
          refine ax_puti dM_bestOrder_53 pM_228 sM_0 rfl ?_
          refine ax_aloadn 0 dM_bestOrder_56 rfl rfl ?_
          refine ax_iconst dM_bestOrder_57 (by decide) ?_
          refine ax_callV (dp2 := 0) (as := [.inl 3]) (st := []) dM_bestOrder_58 lM_174 sM_0 ⟨_, _, rfl⟩ rfl rfl (Nat.le_of_ble_eq_true rfl) (by decide) ?_
          refine ax_C_mono (fun _ M7 h => ?_) h
          refine ax_iconst dM_bestOrder_61 (by decide) ?_
          refine ax_istoren dM_bestOrder_62 rfl (by decide) rfl ?_
          refine ax_iconst dM_bestOrder_63 (by decide) ?_
          refine ax_istoren dM_bestOrder_64 rfl (by decide) rfl ?_
          exact ax_sub [2, 3, 1, 0] rfl h
        · replace h := h.2 c8
          refine ax_bipush dM_bestOrder_43 (by decide) ?_
          exact ax_iret dM_bestOrder_45 h
    · replace h := h.2 c10
      refine ax_bipush dM_bestOrder_22 (by decide) ?_
      exact ax_iret dM_bestOrder_24 h
  · replace h := h.2 c11
    refine ax_bipush dM_bestOrder_7 (by decide) ?_
    exact ax_iret dM_bestOrder_9 h
theorem gM_bestOrder_65 {P : Int → ax_Mem → Prop} {M : ax_Mem} {v1 v2 v3 : Int} (h : ((M 0 4) ≤ v3 → jM_bestOrder P 92 [(0, .inr (.inr 0)), (1, .inl v1), (2, .inl v2), (3, .inl 1000000), (4, .inl 0)] [] M) ∧ (¬ (M 0 4) ≤ v3 → (-2147483648 ≤ (v2 * (M 0 4)) ∧ (v2 * (M 0 4)) < 2147483648) ∧ (-2147483648 ≤ (v3 + 1) ∧ (v3 + 1) < 2147483648) ∧ jM_bestOrder P 65 [(0, .inr (.inr 0)), (1, .inl v1), (2, .inl (v2 * (M 0 4))), (3, .inl (v3 + 1))] [] M)) : jM_bestOrder P 65 [(0, .inr (.inr 0)), (1, .inl v1), (2, .inl v2), (3, .inl v3)] [] M := by
  refine ax_iloadn 3 dM_bestOrder_65 rfl rfl ?_
  refine ax_aloadn 0 dM_bestOrder_66 rfl rfl ?_
  refine ax_geti dM_bestOrder_67 fM_89 sM_0 rfl ?_
  refine ax_icmp_ge (tgt := 86) dM_bestOrder_70 (by decide) (fun c3 => ?_) (fun c3 => ?_)
  · replace h := h.1 c3
    refine ax_ldc (n := 1000000) dM_bestOrder_86 nM_221 ⟨by decide, by decide⟩ ?_
    refine ax_istoren dM_bestOrder_88 rfl (by decide) rfl ?_
    refine ax_iconst dM_bestOrder_89 (by decide) ?_
    refine ax_istore dM_bestOrder_90 (by decide) rfl ?_
    exact ax_sub [2, 3, 4, 1, 0] rfl h
  · replace h := h.2 c3
    refine ax_iloadn 2 dM_bestOrder_73 rfl rfl ?_
    refine ax_aloadn 0 dM_bestOrder_74 rfl rfl ?_
    refine ax_geti dM_bestOrder_75 fM_89 sM_0 rfl ?_
    obtain ⟨q1, h⟩ := h
    refine ax_imul dM_bestOrder_78 q1 ?_
    refine ax_istoren dM_bestOrder_79 rfl (by decide) rfl ?_
    obtain ⟨q2, h⟩ := h
    refine ax_iinc (j := 3) dM_bestOrder_80 rfl (by decide) q2 rfl ?_
    refine ax_goto (tgt := 65) dM_bestOrder_83 (by decide) ?_
    exact ax_sub [2, 3, 1, 0] rfl h
theorem gM_bestOrder_92 {P : Int → ax_Mem → Prop} {M : ax_Mem} {v1 v2 v3 v4 : Int} (h : (v2 ≤ v4 → (¬ v1 = 0 → ((M 0 4) < v1 → P (-1) M) ∧ (¬ (M 0 4) < v1 → (-2147483648 ≤ (v1 - 1) ∧ (v1 - 1) < 2147483648) ∧ (0 ≤ (v1 - 1) ∧ (v1 - 1) < 6) ∧ P (M 14 ((v1 - 1).toNat)) M)) ∧ (v1 = 0 → P v3 M)) ∧ (¬ v2 ≤ v4 → kM_layNumber [.inr (.inr 0), .inl v4] M (fun r5 M6 => (r5 = 0 → (-2147483648 ≤ (v4 + 1) ∧ (v4 + 1) < 2147483648) ∧ jM_bestOrder P 92 [(0, .inr (.inr 0)), (1, .inl v1), (2, .inl v2), (3, .inl v3), (4, .inl (v4 + 1))] [] M6) ∧ (¬ r5 = 0 → kM_boardAll [.inr (.inr 0)] M6 (fun r8 M9 => jM_bestOrder P 116 [(0, .inr (.inr 0)), (1, .inl v1), (2, .inl v2), (3, .inl v3), (4, .inl v4), (5, .inl r8), (6, .inl 0)] [] M9))))) : jM_bestOrder P 92 [(0, .inr (.inr 0)), (1, .inl v1), (2, .inl v2), (3, .inl v3), (4, .inl v4)] [] M := by
  refine ax_iload 4 dM_bestOrder_92 rfl ?_
  refine ax_iloadn 2 dM_bestOrder_94 rfl rfl ?_
  refine ax_icmp_ge (tgt := 170) dM_bestOrder_95 (by decide) (fun c11 => ?_) (fun c11 => ?_)
  · replace h := h.1 c11
    refine ax_iloadn 1 dM_bestOrder_170 rfl rfl ?_
    refine ax_if_ne (tgt := 178) dM_bestOrder_171 (by decide) (fun c4 => ?_) (fun c4 => ?_)
    · replace h := h.1 c4
      refine ax_iloadn 1 dM_bestOrder_178 rfl rfl ?_
      refine ax_aloadn 0 dM_bestOrder_179 rfl rfl ?_
      refine ax_geti dM_bestOrder_180 fM_89 sM_0 rfl ?_
      refine ax_icmp_gt (tgt := 197) dM_bestOrder_183 (by decide) (fun c3 => ?_) (fun c3 => ?_)
      · replace h := h.1 c3
        refine ax_iconst dM_bestOrder_197 (by decide) ?_
        exact ax_iret dM_bestOrder_198 h
      · replace h := h.2 c3
        refine ax_aloadn 0 dM_bestOrder_186 rfl rfl ?_
        refine ax_getr dM_bestOrder_187 fM_49 sM_0 rfl ?_
        refine ax_iloadn 1 dM_bestOrder_190 rfl rfl ?_
        refine ax_iconst dM_bestOrder_191 (by decide) ?_
        obtain ⟨q1, h⟩ := h
        refine ax_isub dM_bestOrder_192 q1 ?_
        obtain ⟨q2, h⟩ := h
        refine ax_iald dM_bestOrder_193 sM_14 q2.1 q2.2 ?_
        refine ax_goto (tgt := 198) dM_bestOrder_194 (by decide) ?_
        exact ax_iret dM_bestOrder_198 h
    · replace h := h.2 c4
      refine ax_iloadn 3 dM_bestOrder_174 rfl rfl ?_
      refine ax_goto (tgt := 198) dM_bestOrder_175 (by decide) ?_
      exact ax_iret dM_bestOrder_198 h
  · replace h := h.2 c11
    refine ax_aloadn 0 dM_bestOrder_98 rfl rfl ?_
    refine ax_iload 4 dM_bestOrder_99 rfl ?_
    refine ax_callV (dp2 := 1) (as := [.inl v4]) (st := []) dM_bestOrder_101 lM_231 sM_0 ⟨_, _, rfl⟩ rfl rfl (Nat.le_of_ble_eq_true rfl) (by decide) ?_
    refine ax_C_mono (fun r5 M6 h => ?_) h
    refine ax_if_eq (tgt := 164) dM_bestOrder_104 (by decide) (fun c10 => ?_) (fun c10 => ?_)
    · replace h := h.1 c10
      obtain ⟨q7, h⟩ := h
      refine ax_iinc (j := 4) dM_bestOrder_164 rfl (by decide) q7 rfl ?_
      refine ax_goto (tgt := 92) dM_bestOrder_167 (by decide) ?_
      exact ax_sub [1, 2, 3, 4, 0] rfl h
    · replace h := h.2 c10
      refine ax_aloadn 0 dM_bestOrder_107 rfl rfl ?_
      refine ax_callV (dp2 := 4) (as := []) (st := []) dM_bestOrder_108 lM_209 sM_0 ⟨_, _, rfl⟩ rfl rfl (Nat.le_of_ble_eq_true rfl) (by decide) ?_
      refine ax_C_mono (fun r8 M9 h => ?_) h
      refine ax_istore dM_bestOrder_111 (by decide) rfl ?_
      refine ax_iconst dM_bestOrder_113 (by decide) ?_
      refine ax_istore dM_bestOrder_114 (by decide) rfl ?_
      exact ax_sub [2, 3, 4, 5, 6, 1, 0] rfl h
theorem gM_bestOrder_116 {P : Int → ax_Mem → Prop} {M : ax_Mem} {v1 v2 v3 v4 v5 v6 : Int} (h : ((M 0 4) ≤ v6 → (v3 ≤ v5 → (-2147483648 ≤ (v4 + 1) ∧ (v4 + 1) < 2147483648) ∧ jM_bestOrder P 92 [(0, .inr (.inr 0)), (1, .inl v1), (2, .inl v2), (3, .inl v3), (4, .inl (v4 + 1))] [] M) ∧ (¬ v3 ≤ v5 → (-2147483648 ≤ (v4 + 1) ∧ (v4 + 1) < 2147483648) ∧ jM_bestOrder P 92 [(0, .inr (.inr 0)), (1, .inl v1), (2, .inl v2), (3, .inl v5), (4, .inl (v4 + 1))] [] M)) ∧ (¬ (M 0 4) ≤ v6 → (v3 ≤ v5 → (v3 ≤ v5 → (-2147483648 ≤ (v4 + 1) ∧ (v4 + 1) < 2147483648) ∧ jM_bestOrder P 92 [(0, .inr (.inr 0)), (1, .inl v1), (2, .inl v2), (3, .inl v3), (4, .inl (v4 + 1))] [] M) ∧ (¬ v3 ≤ v5 → (-2147483648 ≤ (v4 + 1) ∧ (v4 + 1) < 2147483648) ∧ jM_bestOrder P 92 [(0, .inr (.inr 0)), (1, .inl v1), (2, .inl v2), (3, .inl v5), (4, .inl (v4 + 1))] [] M)) ∧ (¬ v3 ≤ v5 → (0 ≤ v6 ∧ v6 < 12) ∧ (0 ≤ v6 ∧ v6 < 6) ∧ jM_bestOrder P 116 [(0, .inr (.inr 0)), (1, .inl v1), (2, .inl v2), (3, .inl v3), (4, .inl v4), (5, .inl v5), (6, .inl (v6 + 1))] [] (ax_u M 14 (v6.toNat) (M 7 (v6.toNat)))))) : jM_bestOrder P 116 [(0, .inr (.inr 0)), (1, .inl v1), (2, .inl v2), (3, .inl v3), (4, .inl v4), (5, .inl v5), (6, .inl v6)] [] M := by
  refine ax_iload 6 dM_bestOrder_116 rfl ?_
  refine ax_aloadn 0 dM_bestOrder_118 rfl rfl ?_
  refine ax_geti dM_bestOrder_119 fM_89 sM_0 rfl ?_
  refine ax_icmp_ge (tgt := 151) dM_bestOrder_122 (by decide) (fun c10 => ?_) (fun c10 => ?_)
  · replace h := h.1 c10
    refine ax_iload 5 dM_bestOrder_151 rfl ?_
    refine ax_iloadn 3 dM_bestOrder_153 rfl rfl ?_
    refine ax_icmp_ge (tgt := 162) dM_bestOrder_154 (by decide) (fun c3 => ?_) (fun c3 => ?_)
    · replace h := h.1 c3
      refine ax_iloadn 3 dM_bestOrder_162 rfl rfl ?_
      refine ax_istoren dM_bestOrder_163 rfl (by decide) rfl ?_
      obtain ⟨q1, h⟩ := h
      refine ax_iinc (j := 4) dM_bestOrder_164 rfl (by decide) q1 rfl ?_
      refine ax_goto (tgt := 92) dM_bestOrder_167 (by decide) ?_
      exact ax_sub [2, 3, 4, 1, 0] rfl h
    · replace h := h.2 c3
      refine ax_iload 5 dM_bestOrder_157 rfl ?_
      refine ax_goto (tgt := 163) dM_bestOrder_159 (by decide) ?_
      refine ax_istoren dM_bestOrder_163 rfl (by decide) rfl ?_
      obtain ⟨q2, h⟩ := h
      refine ax_iinc (j := 4) dM_bestOrder_164 rfl (by decide) q2 rfl ?_
      refine ax_goto (tgt := 92) dM_bestOrder_167 (by decide) ?_
      exact ax_sub [2, 3, 4, 1, 0] rfl h
  · replace h := h.2 c10
    refine ax_iload 5 dM_bestOrder_125 rfl ?_
    refine ax_iloadn 3 dM_bestOrder_127 rfl rfl ?_
    refine ax_icmp_ge (tgt := 151) dM_bestOrder_128 (by decide) (fun c9 => ?_) (fun c9 => ?_)
    · replace h := h.1 c9
      refine ax_iload 5 dM_bestOrder_151 rfl ?_
      refine ax_iloadn 3 dM_bestOrder_153 rfl rfl ?_
      refine ax_icmp_ge (tgt := 162) dM_bestOrder_154 (by decide) (fun c6 => ?_) (fun c6 => ?_)
      · replace h := h.1 c6
        refine ax_iloadn 3 dM_bestOrder_162 rfl rfl ?_
        refine ax_istoren dM_bestOrder_163 rfl (by decide) rfl ?_
        obtain ⟨q4, h⟩ := h
        refine ax_iinc (j := 4) dM_bestOrder_164 rfl (by decide) q4 rfl ?_
        refine ax_goto (tgt := 92) dM_bestOrder_167 (by decide) ?_
        exact ax_sub [2, 3, 4, 1, 0] rfl h
      · replace h := h.2 c6
        refine ax_iload 5 dM_bestOrder_157 rfl ?_
        refine ax_goto (tgt := 163) dM_bestOrder_159 (by decide) ?_
        refine ax_istoren dM_bestOrder_163 rfl (by decide) rfl ?_
        obtain ⟨q5, h⟩ := h
        refine ax_iinc (j := 4) dM_bestOrder_164 rfl (by decide) q5 rfl ?_
        refine ax_goto (tgt := 92) dM_bestOrder_167 (by decide) ?_
        exact ax_sub [2, 3, 4, 1, 0] rfl h
    · replace h := h.2 c9
      refine ax_aloadn 0 dM_bestOrder_131 rfl rfl ?_
      refine ax_getr dM_bestOrder_132 fM_49 sM_0 rfl ?_
      refine ax_iload 6 dM_bestOrder_135 rfl ?_
      refine ax_aloadn 0 dM_bestOrder_137 rfl rfl ?_
      refine ax_getr dM_bestOrder_138 fM_28 sM_0 rfl ?_
      refine ax_iload 6 dM_bestOrder_141 rfl ?_
      obtain ⟨q7, h⟩ := h
      refine ax_iald dM_bestOrder_143 sM_7 q7.1 q7.2 ?_
      obtain ⟨q8, h⟩ := h
      refine ax_iast dM_bestOrder_144 sM_14 q8.1 q8.2 ?_
      refine ax_iinc (j := 6) dM_bestOrder_145 rfl (by decide) (show ax_r _ from ⟨by omega, by omega⟩) rfl ?_
      refine ax_goto (tgt := 116) dM_bestOrder_148 (by decide) ?_
      exact ax_sub [1, 2, 3, 4, 5, 6, 0] rfl h
theorem eM_bestOrder {P : Int → ax_Mem → Prop} {M : ax_Mem} {a1 : Int} (h : kM_lacks [.inr (.inr 0)] M (fun r1 M2 => (r1 = 0 → kM_in [.inr (.inl a1), .inr (.inl 0), .inr (.inl 6)] M2 (fun r3 M4 => (¬ r3 = 0 → (6 < (M4 0 4) → P (-103) M4) ∧ (¬ 6 < (M4 0 4) → (¬ (M4 0 27) = 20 → (-2147483648 ≤ ((M4 0 27) + 1) ∧ ((M4 0 27) + 1) < 2147483648) ∧ kM_layPeople [.inr (.inr 0), .inl 3] (ax_u M4 0 27 ((M4 0 27) + 1)) (fun _ M7 => jM_bestOrder P 65 [(0, .inr (.inr 0)), (1, .inl a1), (2, .inl 1), (3, .inl 0)] [] M7)) ∧ ((M4 0 27) = 20 → P (-103) M4))) ∧ (r3 = 0 → P (-102) M4))) ∧ (¬ r1 = 0 → P (-103) M2))) : kM_bestOrder [.inr (.inr 0), .inl a1] M P := ax_ofJ (by decide) (Nat.le_of_ble_eq_true rfl) (gM_bestOrder_0 h)
-- M_exchange dp 0
theorem gM_exchange_0 {P : Int → ax_Mem → Prop} {M : ax_Mem} {a1 a2 : Int} (h : (0 ≤ a1 ∧ a1 < 12) ∧ (0 ≤ a2 ∧ a2 < 12) ∧ P 0 (ax_u (ax_u M 7 (a1.toNat) (M 7 (a2.toNat))) 7 (a2.toNat) (M 7 (a1.toNat)))) : jM_exchange P 0 [(0, .inr (.inr 0)), (1, .inl a1), (2, .inl a2)] [] M := by
  refine ax_aloadn 0 dM_exchange_0 rfl rfl ?_
  refine ax_getr dM_exchange_1 fM_28 sM_0 rfl ?_
  refine ax_iloadn 1 dM_exchange_4 rfl rfl ?_
  obtain ⟨q1, h⟩ := h
  refine ax_iald dM_exchange_5 sM_7 q1.1 q1.2 ?_
  refine ax_istoren dM_exchange_6 rfl (by decide) rfl ?_
  refine ax_aloadn 1 dM_exchange_7 rfl rfl ?_
  refine ax_getr dM_exchange_8 fM_28 sM_0 rfl ?_
  refine ax_iloadn 2 dM_exchange_11 rfl rfl ?_
  refine ax_aloadn 1 dM_exchange_12 rfl rfl ?_
  refine ax_getr dM_exchange_13 fM_28 sM_0 rfl ?_
  refine ax_iloadn 3 dM_exchange_16 rfl rfl ?_
  obtain ⟨q2, h⟩ := h
  refine ax_iald dM_exchange_17 sM_7 q2.1 q2.2 ?_
  refine ax_iast dM_exchange_18 sM_7 (by omega) (by omega) ?_
  refine ax_aloadn 1 dM_exchange_19 rfl rfl ?_
  refine ax_getr dM_exchange_20 fM_28 sM_0 rfl ?_
  refine ax_iloadn 3 dM_exchange_23 rfl rfl ?_
  refine ax_iloadn 0 dM_exchange_24 rfl rfl ?_
  refine ax_iast dM_exchange_25 sM_7 (by omega) (by omega) ?_
  exact ax_vret dM_exchange_26 h
theorem eM_exchange {P : Int → ax_Mem → Prop} {M : ax_Mem} {a1 a2 : Int} (h : (0 ≤ a1 ∧ a1 < 12) ∧ (0 ≤ a2 ∧ a2 < 12) ∧ P 0 (ax_u (ax_u M 7 (a1.toNat) (M 7 (a2.toNat))) 7 (a2.toNat) (M 7 (a1.toNat)))) : kM_exchange [.inr (.inr 0), .inl a1, .inl a2] M P := ax_ofJ (by decide) (Nat.le_of_ble_eq_true rfl) (gM_exchange_0 h)
-- M_swap dp 6
theorem gM_swap_0 {P : Int → ax_Mem → Prop} {M : ax_Mem} {a1 : Int} (h : kM_isCall [.inr (.inr 0), .inl a1] M (fun r1 M2 => (¬ r1 = 0 → kM_lacks [.inr (.inr 0)] M2 (fun r3 M4 => (r3 = 0 → kM_boardBy [.inr (.inr 0), .inl a1] M4 (fun r5 M6 => jM_swap P 32 [(0, .inr (.inr 0)), (2, .inl r5), (3, .inl (-1)), (4, .inl 0)] [] M6)) ∧ (¬ r3 = 0 → P (-103) M4))) ∧ (r1 = 0 → P (-101) M2))) : jM_swap P 0 [(0, .inr (.inr 0)), (1, .inl a1)] [] M := by
  refine ax_aloadn 0 dM_swap_0 rfl rfl ?_
  refine ax_iloadn 1 dM_swap_1 rfl rfl ?_
  refine ax_callV (dp2 := 1) (as := [.inl a1]) (st := []) dM_swap_2 lM_169 sM_0 ⟨_, _, rfl⟩ rfl rfl (Nat.le_of_ble_eq_true rfl) (by decide) ?_
  refine ax_C_mono (fun r1 M2 h => ?_) h
  refine ax_if_ne (tgt := 11) dM_swap_5 (by decide) (fun c8 => ?_) (fun c8 => ?_)
  · replace h := h.1 c8
    refine ax_aloadn 0 dM_swap_11 rfl rfl ?_
    refine ax_callV (dp2 := 0) (as := []) (st := []) dM_swap_12 lM_95 sM_0 ⟨_, _, rfl⟩ rfl rfl (Nat.le_of_ble_eq_true rfl) (by decide) ?_
    refine ax_C_mono (fun r3 M4 h => ?_) h
    refine ax_if_eq (tgt := 21) dM_swap_15 (by decide) (fun c7 => ?_) (fun c7 => ?_)
    · replace h := h.1 c7
      refine ax_aloadn 0 dM_swap_21 rfl rfl ?_
      refine ax_iloadn 1 dM_swap_22 rfl rfl ?_
      refine ax_callV (dp2 := 5) (as := [.inl a1]) (st := []) dM_swap_23 lM_212 sM_0 ⟨_, _, rfl⟩ rfl rfl (Nat.le_of_ble_eq_true rfl) (by decide) ?_
      refine ax_C_mono (fun r5 M6 h => ?_) h
      refine ax_istoren dM_swap_26 rfl (by decide) rfl ?_
      refine ax_iconst dM_swap_27 (by decide) ?_
      refine ax_istoren dM_swap_28 rfl (by decide) rfl ?_
      refine ax_iconst dM_swap_29 (by decide) ?_
      refine ax_istore dM_swap_30 (by decide) rfl ?_
      exact ax_sub [3, 2, 1, 0] rfl h
    · replace h := h.2 c7
      refine ax_bipush dM_swap_18 (by decide) ?_
      exact ax_iret dM_swap_20 h
  · replace h := h.2 c8
    refine ax_bipush dM_swap_8 (by decide) ?_
    exact ax_iret dM_swap_10 h
theorem gM_swap_32 {P : Int → ax_Mem → Prop} {M : ax_Mem} {v2 v3 v4 : Int} (h : ((M 0 17) ≤ v4 → P v3 M) ∧ (¬ (M 0 17) ≤ v4 → (-2147483648 ≤ (v4 + 1) ∧ (v4 + 1) < 2147483648) ∧ jM_swap P 47 [(0, .inr (.inr 0)), (2, .inl v2), (3, .inl v3), (4, .inl v4), (5, .inl (v4 + 1))] [] M)) : jM_swap P 32 [(0, .inr (.inr 0)), (2, .inl v2), (3, .inl v3), (4, .inl v4)] [] M := by
  refine ax_iload 3 dM_swap_32 rfl ?_
  refine ax_aloadn 0 dM_swap_34 rfl rfl ?_
  refine ax_geti dM_swap_35 fM_156 sM_0 rfl ?_
  refine ax_icmp_ge (tgt := 122) dM_swap_38 (by decide) (fun c2 => ?_) (fun c2 => ?_)
  · replace h := h.1 c2
    refine ax_iloadn 2 dM_swap_122 rfl rfl ?_
    exact ax_iret dM_swap_123 h
  · replace h := h.2 c2
    refine ax_iload 3 dM_swap_41 rfl ?_
    refine ax_iconst dM_swap_43 (by decide) ?_
    obtain ⟨q1, h⟩ := h
    refine ax_iadd dM_swap_44 q1 ?_
    refine ax_istore dM_swap_45 (by decide) rfl ?_
    exact ax_sub [1, 2, 3, 4, 0] rfl h
theorem gM_swap_47 {P : Int → ax_Mem → Prop} {M : ax_Mem} {v2 v3 v4 v5 : Int} (h : ((M 0 17) ≤ v5 → (-2147483648 ≤ (v4 + 1) ∧ (v4 + 1) < 2147483648) ∧ jM_swap P 32 [(0, .inr (.inr 0)), (2, .inl v2), (3, .inl v3), (4, .inl (v4 + 1))] [] M) ∧ (¬ (M 0 17) ≤ v5 → kM_exchange [.inr (.inr 0), .inl v4, .inl v5] M (fun _ M3 => kM_boardAll [.inr (.inr 0)] M3 (fun r4 M5 => kM_exchange [.inr (.inr 0), .inl v4, .inl v5] M5 (fun _ M7 => (v2 ≤ r4 → (v2 ≤ r4 → (-2147483648 ≤ (v5 + 1) ∧ (v5 + 1) < 2147483648) ∧ jM_swap P 47 [(0, .inr (.inr 0)), (2, .inl v2), (3, .inl v3), (4, .inl v4), (5, .inl (v5 + 1))] [] M7) ∧ (¬ v2 ≤ r4 → (-2147483648 ≤ (v5 + 1) ∧ (v5 + 1) < 2147483648) ∧ jM_swap P 47 [(0, .inr (.inr 0)), (2, .inl r4), (3, .inl v3), (4, .inl v4), (5, .inl (v5 + 1))] [] M7)) ∧ (¬ v2 ≤ r4 → (-2147483648 ≤ (16 * v4) ∧ (16 * v4) < 2147483648) ∧ (-2147483648 ≤ ((16 * v4) + v5) ∧ ((16 * v4) + v5) < 2147483648) ∧ (v2 ≤ r4 → (-2147483648 ≤ (v5 + 1) ∧ (v5 + 1) < 2147483648) ∧ jM_swap P 47 [(0, .inr (.inr 0)), (2, .inl v2), (3, .inl ((16 * v4) + v5)), (4, .inl v4), (5, .inl (v5 + 1))] [] M7) ∧ (¬ v2 ≤ r4 → (-2147483648 ≤ (v5 + 1) ∧ (v5 + 1) < 2147483648) ∧ jM_swap P 47 [(0, .inr (.inr 0)), (2, .inl r4), (3, .inl ((16 * v4) + v5)), (4, .inl v4), (5, .inl (v5 + 1))] [] M7))))))) : jM_swap P 47 [(0, .inr (.inr 0)), (2, .inl v2), (3, .inl v3), (4, .inl v4), (5, .inl v5)] [] M := by
  refine ax_iload 4 dM_swap_47 rfl ?_
  refine ax_aloadn 0 dM_swap_49 rfl rfl ?_
  refine ax_geti dM_swap_50 fM_156 sM_0 rfl ?_
  refine ax_icmp_ge (tgt := 116) dM_swap_53 (by decide) (fun c17 => ?_) (fun c17 => ?_)
  · replace h := h.1 c17
    obtain ⟨q1, h⟩ := h
    refine ax_iinc (j := 3) dM_swap_116 rfl (by decide) q1 rfl ?_
    refine ax_goto (tgt := 32) dM_swap_119 (by decide) ?_
    exact ax_sub [1, 2, 3, 0] rfl h
  · replace h := h.2 c17
    refine ax_aloadn 0 dM_swap_56 rfl rfl ?_
    refine ax_iload 3 dM_swap_57 rfl ?_
    refine ax_iload 4 dM_swap_59 rfl ?_
    refine ax_callV (dp2 := 0) (as := [.inl v4, .inl v5]) (st := []) dM_swap_61 lM_234 sM_0 ⟨_, _, rfl⟩ rfl rfl (Nat.le_of_ble_eq_true rfl) (by decide) ?_
    refine ax_C_mono (fun _ M3 h => ?_) h
    refine ax_aloadn 0 dM_swap_64 rfl rfl ?_
    refine ax_callV (dp2 := 4) (as := []) (st := []) dM_swap_65 lM_209 sM_0 ⟨_, _, rfl⟩ rfl rfl (Nat.le_of_ble_eq_true rfl) (by decide) ?_
    refine ax_C_mono (fun r4 M5 h => ?_) h
    refine ax_istore dM_swap_68 (by decide) rfl ?_
    refine ax_aloadn 1 dM_swap_70 rfl rfl ?_
    refine ax_iload 4 dM_swap_71 rfl ?_
    refine ax_iload 5 dM_swap_73 rfl ?_
    refine ax_callV (dp2 := 0) (as := [.inl v4, .inl v5]) (st := []) dM_swap_75 lM_234 sM_0 ⟨_, _, rfl⟩ rfl rfl (Nat.le_of_ble_eq_true rfl) (by decide) ?_
    refine ax_C_mono (fun _ M7 h => ?_) h
    refine ax_iload 0 dM_swap_78 rfl ?_
    refine ax_iloadn 2 dM_swap_80 rfl rfl ?_
    refine ax_icmp_ge (tgt := 95) dM_swap_81 (by decide) (fun c16 => ?_) (fun c16 => ?_)
    · replace h := h.1 c16
      refine ax_iloadn 3 dM_swap_95 rfl rfl ?_
      refine ax_istoren dM_swap_96 rfl (by decide) rfl ?_
      refine ax_iload 1 dM_swap_97 rfl ?_
      refine ax_iloadn 3 dM_swap_99 rfl rfl ?_
      refine ax_icmp_ge (tgt := 108) dM_swap_100 (by decide) (fun c10 => ?_) (fun c10 => ?_)
      · replace h := h.1 c10
        refine ax_iloadn 3 dM_swap_108 rfl rfl ?_
        refine ax_istoren dM_swap_109 rfl (by decide) rfl ?_
        obtain ⟨q8, h⟩ := h
        refine ax_iinc (j := 5) dM_swap_110 rfl (by decide) q8 rfl ?_
        refine ax_goto (tgt := 47) dM_swap_113 (by decide) ?_
        exact ax_sub [4, 1, 2, 5, 0] rfl h
      · replace h := h.2 c10
        refine ax_iload 1 dM_swap_103 rfl ?_
        refine ax_goto (tgt := 109) dM_swap_105 (by decide) ?_
        refine ax_istoren dM_swap_109 rfl (by decide) rfl ?_
        obtain ⟨q9, h⟩ := h
        refine ax_iinc (j := 5) dM_swap_110 rfl (by decide) q9 rfl ?_
        refine ax_goto (tgt := 47) dM_swap_113 (by decide) ?_
        exact ax_sub [4, 1, 2, 5, 0] rfl h
    · replace h := h.2 c16
      refine ax_bipush dM_swap_84 (by decide) ?_
      refine ax_iload 4 dM_swap_86 rfl ?_
      obtain ⟨q11, h⟩ := h
      refine ax_imul dM_swap_88 q11 ?_
      refine ax_iload 5 dM_swap_89 rfl ?_
      obtain ⟨q12, h⟩ := h
      refine ax_iadd dM_swap_91 q12 ?_
      refine ax_goto (tgt := 96) dM_swap_92 (by decide) ?_
      refine ax_istoren dM_swap_96 rfl (by decide) rfl ?_
      refine ax_iload 1 dM_swap_97 rfl ?_
      refine ax_iloadn 3 dM_swap_99 rfl rfl ?_
      refine ax_icmp_ge (tgt := 108) dM_swap_100 (by decide) (fun c15 => ?_) (fun c15 => ?_)
      · replace h := h.1 c15
        refine ax_iloadn 3 dM_swap_108 rfl rfl ?_
        refine ax_istoren dM_swap_109 rfl (by decide) rfl ?_
        obtain ⟨q13, h⟩ := h
        refine ax_iinc (j := 5) dM_swap_110 rfl (by decide) q13 rfl ?_
        refine ax_goto (tgt := 47) dM_swap_113 (by decide) ?_
        exact ax_sub [4, 1, 2, 5, 0] rfl h
      · replace h := h.2 c15
        refine ax_iload 1 dM_swap_103 rfl ?_
        refine ax_goto (tgt := 109) dM_swap_105 (by decide) ?_
        refine ax_istoren dM_swap_109 rfl (by decide) rfl ?_
        obtain ⟨q14, h⟩ := h
        refine ax_iinc (j := 5) dM_swap_110 rfl (by decide) q14 rfl ?_
        refine ax_goto (tgt := 47) dM_swap_113 (by decide) ?_
        exact ax_sub [4, 1, 2, 5, 0] rfl h
theorem eM_swap {P : Int → ax_Mem → Prop} {M : ax_Mem} {a1 : Int} (h : kM_isCall [.inr (.inr 0), .inl a1] M (fun r1 M2 => (¬ r1 = 0 → kM_lacks [.inr (.inr 0)] M2 (fun r3 M4 => (r3 = 0 → kM_boardBy [.inr (.inr 0), .inl a1] M4 (fun r5 M6 => jM_swap P 32 [(0, .inr (.inr 0)), (2, .inl r5), (3, .inl (-1)), (4, .inl 0)] [] M6)) ∧ (¬ r3 = 0 → P (-103) M4))) ∧ (r1 = 0 → P (-101) M2))) : kM_swap [.inr (.inr 0), .inl a1] M P := ax_ofJ (by decide) (Nat.le_of_ble_eq_true rfl) (gM_swap_0 h)
-- M_later dp 5
theorem gM_later_0 {P : Int → ax_Mem → Prop} {M : ax_Mem} {a1 a2 : Int} (h : kM_isCall [.inr (.inr 0), .inl a1] M (fun r1 M2 => (r1 = 0 → P (-101) M2) ∧ (¬ r1 = 0 → kM_isPerson [.inr (.inr 0), .inl a2] M2 (fun r3 M4 => (¬ r3 = 0 → kM_layPeople [.inr (.inr 0), .inl 3] M4 (fun _ M6 => kM_layOrder [.inr (.inr 0), .inl a1] M6 (fun _ M8 => (-2147483648 ≤ ((M8 0 17) - 1) ∧ ((M8 0 17) - 1) < 2147483648) ∧ (0 ≤ ((M8 0 17) - 1) ∧ ((M8 0 17) - 1) < 12) ∧ ((M8 7 (((M8 0 17) - 1).toNat)) = a2 → kM_boardAll [.inr (.inr 0)] M8 (fun r11 M12 => P r11 M12)) ∧ (¬ (M8 7 (((M8 0 17) - 1).toNat)) = a2 → kM_put [.inr (.inr 0), .inl a2, .inl (M8 7 (((M8 0 17) - 1).toNat))] M8 (fun _ M14 => kM_boardAll [.inr (.inr 0)] M14 (fun r15 M16 => P r15 M16)))))) ∧ (r3 = 0 → P (-101) M4))))) : jM_later P 0 [(0, .inr (.inr 0)), (1, .inl a1), (2, .inl a2)] [] M := by
  refine ax_aloadn 0 dM_later_0 rfl rfl ?_
  refine ax_iloadn 1 dM_later_1 rfl rfl ?_
  refine ax_callV (dp2 := 1) (as := [.inl a1]) (st := []) dM_later_2 lM_169 sM_0 ⟨_, _, rfl⟩ rfl rfl (Nat.le_of_ble_eq_true rfl) (by decide) ?_
  refine ax_C_mono (fun r1 M2 h => ?_) h
  refine ax_if_eq (tgt := 16) dM_later_5 (by decide) (fun c19 => ?_) (fun c19 => ?_)
  · replace h := h.1 c19
    refine ax_bipush dM_later_16 (by decide) ?_
    exact ax_iret dM_later_18 h
  · replace h := h.2 c19
    refine ax_aloadn 0 dM_later_8 rfl rfl ?_
    refine ax_iloadn 2 dM_later_9 rfl rfl ?_
    refine ax_callV (dp2 := 1) (as := [.inl a2]) (st := []) dM_later_10 lM_99 sM_0 ⟨_, _, rfl⟩ rfl rfl (Nat.le_of_ble_eq_true rfl) (by decide) ?_
    refine ax_C_mono (fun r3 M4 h => ?_) h
    refine ax_if_ne (tgt := 19) dM_later_13 (by decide) (fun c18 => ?_) (fun c18 => ?_)
    · replace h := h.1 c18
      refine ax_aloadn 0 dM_later_19 rfl rfl ?_
      refine ax_iconst dM_later_20 (by decide) ?_
      refine ax_callV (dp2 := 0) (as := [.inl 3]) (st := []) dM_later_21 lM_174 sM_0 ⟨_, _, rfl⟩ rfl rfl (Nat.le_of_ble_eq_true rfl) (by decide) ?_
      refine ax_C_mono (fun _ M6 h => ?_) h
      refine ax_aloadn 0 dM_later_24 rfl rfl ?_
      refine ax_iloadn 1 dM_later_25 rfl rfl ?_
      refine ax_callV (dp2 := 3) (as := [.inl a1]) (st := []) dM_later_26 lM_178 sM_0 ⟨_, _, rfl⟩ rfl rfl (Nat.le_of_ble_eq_true rfl) (by decide) ?_
      refine ax_C_mono (fun _ M8 h => ?_) h
      refine ax_aloadn 0 dM_later_29 rfl rfl ?_
      refine ax_getr dM_later_30 fM_28 sM_0 rfl ?_
      refine ax_aloadn 0 dM_later_33 rfl rfl ?_
      refine ax_geti dM_later_34 fM_156 sM_0 rfl ?_
      refine ax_iconst dM_later_37 (by decide) ?_
      obtain ⟨q9, h⟩ := h
      refine ax_isub dM_later_38 q9 ?_
      obtain ⟨q10, h⟩ := h
      refine ax_iald dM_later_39 sM_7 q10.1 q10.2 ?_
      refine ax_istoren dM_later_40 rfl (by decide) rfl ?_
      refine ax_iloadn 0 dM_later_41 rfl rfl ?_
      refine ax_iloadn 3 dM_later_42 rfl rfl ?_
      refine ax_icmp_eq (tgt := 52) dM_later_43 (by decide) (fun c17 => ?_) (fun c17 => ?_)
      · replace h := h.1 c17
        refine ax_aloadn 1 dM_later_52 rfl rfl ?_
        refine ax_callV (dp2 := 4) (as := []) (st := []) dM_later_53 lM_209 sM_0 ⟨_, _, rfl⟩ rfl rfl (Nat.le_of_ble_eq_true rfl) (by decide) ?_
        refine ax_C_mono (fun r11 M12 h => ?_) h
        exact ax_iret dM_later_56 h
      · replace h := h.2 c17
        refine ax_aloadn 1 dM_later_46 rfl rfl ?_
        refine ax_iloadn 3 dM_later_47 rfl rfl ?_
        refine ax_iloadn 0 dM_later_48 rfl rfl ?_
        refine ax_callV (dp2 := 1) (as := [.inl a2, .inl (M8 7 (((M8 0 17) - 1).toNat))]) (st := []) dM_later_49 lM_165 sM_0 ⟨_, _, rfl⟩ rfl rfl (Nat.le_of_ble_eq_true rfl) (by decide) ?_
        refine ax_C_mono (fun _ M14 h => ?_) h
        refine ax_aloadn 1 dM_later_52 rfl rfl ?_
        refine ax_callV (dp2 := 4) (as := []) (st := []) dM_later_53 lM_209 sM_0 ⟨_, _, rfl⟩ rfl rfl (Nat.le_of_ble_eq_true rfl) (by decide) ?_
        refine ax_C_mono (fun r15 M16 h => ?_) h
        exact ax_iret dM_later_56 h
    · replace h := h.2 c18
      refine ax_bipush dM_later_16 (by decide) ?_
      exact ax_iret dM_later_18 h
theorem eM_later {P : Int → ax_Mem → Prop} {M : ax_Mem} {a1 a2 : Int} (h : kM_isCall [.inr (.inr 0), .inl a1] M (fun r1 M2 => (r1 = 0 → P (-101) M2) ∧ (¬ r1 = 0 → kM_isPerson [.inr (.inr 0), .inl a2] M2 (fun r3 M4 => (¬ r3 = 0 → kM_layPeople [.inr (.inr 0), .inl 3] M4 (fun _ M6 => kM_layOrder [.inr (.inr 0), .inl a1] M6 (fun _ M8 => (-2147483648 ≤ ((M8 0 17) - 1) ∧ ((M8 0 17) - 1) < 2147483648) ∧ (0 ≤ ((M8 0 17) - 1) ∧ ((M8 0 17) - 1) < 12) ∧ ((M8 7 (((M8 0 17) - 1).toNat)) = a2 → kM_boardAll [.inr (.inr 0)] M8 (fun r11 M12 => P r11 M12)) ∧ (¬ (M8 7 (((M8 0 17) - 1).toNat)) = a2 → kM_put [.inr (.inr 0), .inl a2, .inl (M8 7 (((M8 0 17) - 1).toNat))] M8 (fun _ M14 => kM_boardAll [.inr (.inr 0)] M14 (fun r15 M16 => P r15 M16)))))) ∧ (r3 = 0 → P (-101) M4))))) : kM_later [.inr (.inr 0), .inl a1, .inl a2] M P := ax_ofJ (by decide) (Nat.le_of_ble_eq_true rfl) (gM_later_0 h)
-- M_bound dp 5
theorem gM_bound_0 {P : Int → ax_Mem → Prop} {M : ax_Mem} {a1 a2 : Int} (h : kM_isCall [.inr (.inr 0), .inl a1] M (fun r1 M2 => (¬ r1 = 0 → kM_lacks [.inr (.inr 0)] M2 (fun r3 M4 => (r3 = 0 → kM_in [.inr (.inl a2), .inr (.inl 0), .inr (.inl 3)] M4 (fun r5 M6 => (¬ r5 = 0 → kM_layPeople [.inr (.inr 0), .inl a2] M6 (fun _ M8 => kM_layOrder [.inr (.inr 0), .inl a1] M8 (fun _ M10 => kM_boardAll [.inr (.inr 0)] M10 (fun r11 M12 => P r11 M12)))) ∧ (r5 = 0 → P (-102) M6))) ∧ (¬ r3 = 0 → P (-103) M4))) ∧ (r1 = 0 → P (-101) M2))) : jM_bound P 0 [(0, .inr (.inr 0)), (1, .inl a1), (2, .inl a2)] [] M := by
  refine ax_aloadn 0 dM_bound_0 rfl rfl ?_
  refine ax_iloadn 1 dM_bound_1 rfl rfl ?_
  refine ax_callV (dp2 := 1) (as := [.inl a1]) (st := []) dM_bound_2 lM_169 sM_0 ⟨_, _, rfl⟩ rfl rfl (Nat.le_of_ble_eq_true rfl) (by decide) ?_
  refine ax_C_mono (fun r1 M2 h => ?_) h
  refine ax_if_ne (tgt := 11) dM_bound_5 (by decide) (fun c15 => ?_) (fun c15 => ?_)
  · replace h := h.1 c15
    refine ax_aloadn 0 dM_bound_11 rfl rfl ?_
    refine ax_callV (dp2 := 0) (as := []) (st := []) dM_bound_12 lM_95 sM_0 ⟨_, _, rfl⟩ rfl rfl (Nat.le_of_ble_eq_true rfl) (by decide) ?_
    refine ax_C_mono (fun r3 M4 h => ?_) h
    refine ax_if_eq (tgt := 21) dM_bound_15 (by decide) (fun c14 => ?_) (fun c14 => ?_)
    · replace h := h.1 c14
      refine ax_iloadn 2 dM_bound_21 rfl rfl ?_
      refine ax_i2l dM_bound_22 ?_
      refine ax_lconst (i := 0) dM_bound_23 rfl ?_
      refine ax_ldc2 (n := 3) dM_bound_24 nM_76 ?_
      refine ax_callS (dp2 := 0) (as := [.inr (.inl a2), .inr (.inl 0), .inr (.inl 3)]) (st := []) dM_bound_27 lM_72 rfl rfl (Nat.le_of_ble_eq_true rfl) (by decide) ?_
      refine ax_C_mono (fun r5 M6 h => ?_) h
      refine ax_if_ne (tgt := 36) dM_bound_30 (by decide) (fun c13 => ?_) (fun c13 => ?_)
      · replace h := h.1 c13
        refine ax_aloadn 0 dM_bound_36 rfl rfl ?_
        refine ax_iloadn 2 dM_bound_37 rfl rfl ?_
        refine ax_callV (dp2 := 0) (as := [.inl a2]) (st := []) dM_bound_38 lM_174 sM_0 ⟨_, _, rfl⟩ rfl rfl (Nat.le_of_ble_eq_true rfl) (by decide) ?_
        refine ax_C_mono (fun _ M8 h => ?_) h
        refine ax_aloadn 0 dM_bound_41 rfl rfl ?_
        refine ax_iloadn 1 dM_bound_42 rfl rfl ?_
        refine ax_callV (dp2 := 3) (as := [.inl a1]) (st := []) dM_bound_43 lM_178 sM_0 ⟨_, _, rfl⟩ rfl rfl (Nat.le_of_ble_eq_true rfl) (by decide) ?_
        refine ax_C_mono (fun _ M10 h => ?_) h
        refine ax_aloadn 0 dM_bound_46 rfl rfl ?_
        refine ax_callV (dp2 := 4) (as := []) (st := []) dM_bound_47 lM_209 sM_0 ⟨_, _, rfl⟩ rfl rfl (Nat.le_of_ble_eq_true rfl) (by decide) ?_
        refine ax_C_mono (fun r11 M12 h => ?_) h
        exact ax_iret dM_bound_50 h
      · replace h := h.2 c13
        refine ax_bipush dM_bound_33 (by decide) ?_
        exact ax_iret dM_bound_35 h
    · replace h := h.2 c14
      refine ax_bipush dM_bound_18 (by decide) ?_
      exact ax_iret dM_bound_20 h
  · replace h := h.2 c15
    refine ax_bipush dM_bound_8 (by decide) ?_
    exact ax_iret dM_bound_10 h
theorem eM_bound {P : Int → ax_Mem → Prop} {M : ax_Mem} {a1 a2 : Int} (h : kM_isCall [.inr (.inr 0), .inl a1] M (fun r1 M2 => (¬ r1 = 0 → kM_lacks [.inr (.inr 0)] M2 (fun r3 M4 => (r3 = 0 → kM_in [.inr (.inl a2), .inr (.inl 0), .inr (.inl 3)] M4 (fun r5 M6 => (¬ r5 = 0 → kM_layPeople [.inr (.inr 0), .inl a2] M6 (fun _ M8 => kM_layOrder [.inr (.inr 0), .inl a1] M8 (fun _ M10 => kM_boardAll [.inr (.inr 0)] M10 (fun r11 M12 => P r11 M12)))) ∧ (r5 = 0 → P (-102) M6))) ∧ (¬ r3 = 0 → P (-103) M4))) ∧ (r1 = 0 → P (-101) M2))) : kM_bound [.inr (.inr 0), .inl a1, .inl a2] M P := ax_ofJ (by decide) (Nat.le_of_ble_eq_true rfl) (gM_bound_0 h)
-- M_layPart dp 1
theorem gM_layPart_0 {P : Int → ax_Mem → Prop} {M : ax_Mem} {a1 a2 : Int} (h : jM_layPart P 7 [(0, .inr (.inr 0)), (1, .inl a1), (2, .inl a2), (3, .inl 0)] [] (ax_u M 0 17 0)) : jM_layPart P 0 [(0, .inr (.inr 0)), (1, .inl a1), (2, .inl a2)] [] M := by
  refine ax_aloadn 0 dM_layPart_0 rfl rfl ?_
  refine ax_iconst dM_layPart_1 (by decide) ?_
  refine ax_puti dM_layPart_2 pM_156 sM_0 rfl ?_
  refine ax_iconst dM_layPart_5 (by decide) ?_
  refine ax_istoren dM_layPart_6 rfl (by decide) rfl ?_
  exact ax_sub [1, 2, 3, 0] rfl h
theorem gM_layPart_7 {P : Int → ax_Mem → Prop} {M : ax_Mem} {v1 v2 v3 : Int} (h : ((M 0 4) ≤ v3 → P 0 M) ∧ (¬ (M 0 4) ≤ v3 → (0 ≤ v3 ∧ v3 < 12) ∧ (-2147483648 ≤ (7 * (M 15 (v3.toNat))) ∧ (7 * (M 15 (v3.toNat))) < 2147483648) ∧ (-2147483648 ≤ ((7 * (M 15 (v3.toNat))) + 2) ∧ ((7 * (M 15 (v3.toNat))) + 2) < 2147483648) ∧ (0 ≤ ((7 * (M 15 (v3.toNat))) + 2) ∧ ((7 * (M 15 (v3.toNat))) + 2) < 84) ∧ kM_in [.inr (.inl (M 1 (((7 * (M 15 (v3.toNat))) + 2).toNat))), .inr (.inl v1), .inr (.inl v2)] M (fun r5 M6 => (r5 = 0 → jM_layPart P 7 [(0, .inr (.inr 0)), (1, .inl v1), (2, .inl v2), (3, .inl (v3 + 1))] [] M6) ∧ (¬ r5 = 0 → (0 ≤ (M6 0 17) ∧ (M6 0 17) < 12) ∧ jM_layPart P 7 [(0, .inr (.inr 0)), (1, .inl v1), (2, .inl v2), (3, .inl (v3 + 1))] [] (ax_u (ax_u M6 7 ((M6 0 17).toNat) (M6 15 (v3.toNat))) 0 17 ((M6 0 17) + 1)))))) : jM_layPart P 7 [(0, .inr (.inr 0)), (1, .inl v1), (2, .inl v2), (3, .inl v3)] [] M := by
  refine ax_iloadn 3 dM_layPart_7 rfl rfl ?_
  refine ax_aloadn 0 dM_layPart_8 rfl rfl ?_
  refine ax_geti dM_layPart_9 fM_89 sM_0 rfl ?_
  refine ax_icmp_ge (tgt := 73) dM_layPart_12 (by decide) (fun c9 => ?_) (fun c9 => ?_)
  · replace h := h.1 c9
    exact ax_vret dM_layPart_73 h
  · replace h := h.2 c9
    refine ax_aloadn 0 dM_layPart_15 rfl rfl ?_
    refine ax_getr dM_layPart_16 fM_7 sM_0 rfl ?_
    refine ax_bipush dM_layPart_19 (by decide) ?_
    refine ax_aloadn 0 dM_layPart_21 rfl rfl ?_
    refine ax_getr dM_layPart_22 fM_52 sM_0 rfl ?_
    refine ax_iloadn 3 dM_layPart_25 rfl rfl ?_
    obtain ⟨q1, h⟩ := h
    refine ax_iald dM_layPart_26 sM_15 q1.1 q1.2 ?_
    obtain ⟨q2, h⟩ := h
    refine ax_imul dM_layPart_27 q2 ?_
    refine ax_iconst dM_layPart_28 (by decide) ?_
    obtain ⟨q3, h⟩ := h
    refine ax_iadd dM_layPart_29 q3 ?_
    obtain ⟨q4, h⟩ := h
    refine ax_iald dM_layPart_30 sM_1 q4.1 q4.2 ?_
    refine ax_i2l dM_layPart_31 ?_
    refine ax_iloadn 1 dM_layPart_32 rfl rfl ?_
    refine ax_i2l dM_layPart_33 ?_
    refine ax_iloadn 2 dM_layPart_34 rfl rfl ?_
    refine ax_i2l dM_layPart_35 ?_
    refine ax_callS (dp2 := 0) (as := [.inr (.inl (M 1 (((7 * (M 15 (v3.toNat))) + 2).toNat))), .inr (.inl v1), .inr (.inl v2)]) (st := []) dM_layPart_36 lM_72 rfl rfl (Nat.le_of_ble_eq_true rfl) (by decide) ?_
    refine ax_C_mono (fun r5 M6 h => ?_) h
    refine ax_if_eq (tgt := 67) dM_layPart_39 (by decide) (fun c8 => ?_) (fun c8 => ?_)
    · replace h := h.1 c8
      refine ax_iinc (j := 3) dM_layPart_67 rfl (by decide) (show ax_r _ from ⟨by omega, by omega⟩) rfl ?_
      refine ax_goto (tgt := 7) dM_layPart_70 (by decide) ?_
      exact ax_sub [1, 2, 3, 0] rfl h
    · replace h := h.2 c8
      refine ax_aloadn 0 dM_layPart_42 rfl rfl ?_
      refine ax_getr dM_layPart_43 fM_28 sM_0 rfl ?_
      refine ax_aloadn 0 dM_layPart_46 rfl rfl ?_
      refine ax_geti dM_layPart_47 fM_156 sM_0 rfl ?_
      refine ax_aloadn 0 dM_layPart_50 rfl rfl ?_
      refine ax_getr dM_layPart_51 fM_52 sM_0 rfl ?_
      refine ax_iloadn 3 dM_layPart_54 rfl rfl ?_
      refine ax_iald dM_layPart_55 sM_15 q1.1 q1.2 ?_
      obtain ⟨q7, h⟩ := h
      refine ax_iast dM_layPart_56 sM_7 q7.1 q7.2 ?_
      refine ax_aloadn 0 dM_layPart_57 rfl rfl ?_
      refine ax_dup dM_layPart_58 rfl ?_
      refine ax_geti dM_layPart_59 fM_156 sM_0 rfl ?_
      refine ax_top (x' := M6 0 17) (by first | rfl | exact ax_u_at _ _ _ _) ?_
      refine ax_iconst dM_layPart_62 (by decide) ?_
      refine ax_iadd dM_layPart_63 (show ax_r _ from ⟨by omega, by omega⟩) ?_
      refine ax_puti dM_layPart_64 pM_156 sM_0 rfl ?_
      refine ax_iinc (j := 3) dM_layPart_67 rfl (by decide) (show ax_r _ from ⟨by omega, by omega⟩) rfl ?_
      refine ax_goto (tgt := 7) dM_layPart_70 (by decide) ?_
      exact ax_sub [1, 2, 3, 0] rfl h
theorem eM_layPart {P : Int → ax_Mem → Prop} {M : ax_Mem} {a1 a2 : Int} (h : jM_layPart P 7 [(0, .inr (.inr 0)), (1, .inl a1), (2, .inl a2), (3, .inl 0)] [] (ax_u M 0 17 0)) : kM_layPart [.inr (.inr 0), .inl a1, .inl a2] M P := ax_ofJ (by decide) (Nat.le_of_ble_eq_true rfl) (gM_layPart_0 h)
-- M_doorsOf dp 5
theorem gM_doorsOf_0 {P : Int → ax_Mem → Prop} {M : ax_Mem} {a1 : Int} (h : (-2147483648 ≤ ((M 0 0) + 1) ∧ ((M 0 0) + 1) < 2147483648) ∧ ((0 : Int) ≤ ((M 0 0) + 1) ∧ (0 : Int) < 2) ∧ kM_layPeople [.inr (.inr 0), .inl 3] M (fun _ M4 => kM_layOrder [.inr (.inr 0), .inl a1] M4 (fun _ M6 => jM_doorsOf P 21 [(0, .inr (.inr 0)), (2, .inl (((M 0 0) + 1) / 2)), (3, .inl 0)] [] M6))) : jM_doorsOf P 0 [(0, .inr (.inr 0)), (1, .inl a1)] [] M := by
  refine ax_aloadn 0 dM_doorsOf_0 rfl rfl ?_
  refine ax_geti dM_doorsOf_1 fM_80 sM_0 rfl ?_
  refine ax_iconst dM_doorsOf_4 (by decide) ?_
  obtain ⟨q1, h⟩ := h
  refine ax_iadd dM_doorsOf_5 q1 ?_
  refine ax_iconst dM_doorsOf_6 (by decide) ?_
  obtain ⟨q2, h⟩ := h
  refine ax_idiv dM_doorsOf_7 q2.1 q2.2 ?_
  refine ax_istoren dM_doorsOf_8 rfl (by decide) rfl ?_
  refine ax_aloadn 1 dM_doorsOf_9 rfl rfl ?_
  refine ax_iconst dM_doorsOf_10 (by decide) ?_
  refine ax_callV (dp2 := 0) (as := [.inl 3]) (st := []) dM_doorsOf_11 lM_174 sM_0 ⟨_, _, rfl⟩ rfl rfl (Nat.le_of_ble_eq_true rfl) (by decide) ?_
  refine ax_C_mono (fun _ M4 h => ?_) h
  refine ax_aloadn 1 dM_doorsOf_14 rfl rfl ?_
  refine ax_iloadn 2 dM_doorsOf_15 rfl rfl ?_
  refine ax_callV (dp2 := 3) (as := [.inl a1]) (st := []) dM_doorsOf_16 lM_178 sM_0 ⟨_, _, rfl⟩ rfl rfl (Nat.le_of_ble_eq_true rfl) (by decide) ?_
  refine ax_C_mono (fun _ M6 h => ?_) h
  refine ax_iconst dM_doorsOf_19 (by decide) ?_
  refine ax_istoren dM_doorsOf_20 rfl (by decide) rfl ?_
  exact ax_sub [2, 1, 0] rfl h
theorem gM_doorsOf_21 {P : Int → ax_Mem → Prop} {M : ax_Mem} {v2 v3 : Int} (h : ((M 0 4) ≤ v3 → (-2147483648 ≤ (v2 - 1) ∧ (v2 - 1) < 2147483648) ∧ kM_layPart [.inr (.inr 0), .inl 0, .inl (v2 - 1)] M (fun _ M3 => kM_boardAll [.inr (.inr 0)] (ax_u M3 0 13 v2) (fun r4 M5 => (-2147483648 ≤ ((M5 0 0) - 1) ∧ ((M5 0 0) - 1) < 2147483648) ∧ kM_layPart [.inr (.inr 0), .inl v2, .inl ((M5 0 0) - 1)] M5 (fun _ M8 => (-2147483648 ≤ ((M8 0 0) - v2) ∧ ((M8 0 0) - v2) < 2147483648) ∧ jM_doorsOf P 89 [(0, .inr (.inr 0)), (3, .inl r4), (4, .inl 0)] [] (ax_u M8 0 13 ((M8 0 0) - v2)))))) ∧ (¬ (M 0 4) ≤ v3 → (0 ≤ v3 ∧ v3 < 12) ∧ jM_doorsOf P 21 [(0, .inr (.inr 0)), (2, .inl v2), (3, .inl (v3 + 1))] [] (ax_u M 15 (v3.toNat) (M 7 (v3.toNat))))) : jM_doorsOf P 21 [(0, .inr (.inr 0)), (2, .inl v2), (3, .inl v3)] [] M := by
  refine ax_iloadn 2 dM_doorsOf_21 rfl rfl ?_
  refine ax_aloadn 0 dM_doorsOf_22 rfl rfl ?_
  refine ax_geti dM_doorsOf_23 fM_89 sM_0 rfl ?_
  refine ax_icmp_ge (tgt := 47) dM_doorsOf_26 (by decide) (fun c11 => ?_) (fun c11 => ?_)
  · replace h := h.1 c11
    refine ax_aloadn 0 dM_doorsOf_47 rfl rfl ?_
    refine ax_iconst dM_doorsOf_48 (by decide) ?_
    refine ax_iloadn 1 dM_doorsOf_49 rfl rfl ?_
    refine ax_iconst dM_doorsOf_50 (by decide) ?_
    obtain ⟨q1, h⟩ := h
    refine ax_isub dM_doorsOf_51 q1 ?_
    refine ax_callV (dp2 := 1) (as := [.inl 0, .inl (v2 - 1)]) (st := []) dM_doorsOf_52 lM_237 sM_0 ⟨_, _, rfl⟩ rfl rfl (Nat.le_of_ble_eq_true rfl) (by decide) ?_
    refine ax_C_mono (fun _ M3 h => ?_) h
    refine ax_aloadn 0 dM_doorsOf_55 rfl rfl ?_
    refine ax_iloadn 1 dM_doorsOf_56 rfl rfl ?_
    refine ax_puti dM_doorsOf_57 pM_139 sM_0 rfl ?_
    refine ax_aloadn 0 dM_doorsOf_60 rfl rfl ?_
    refine ax_callV (dp2 := 4) (as := []) (st := []) dM_doorsOf_61 lM_209 sM_0 ⟨_, _, rfl⟩ rfl rfl (Nat.le_of_ble_eq_true rfl) (by decide) ?_
    refine ax_C_mono (fun r4 M5 h => ?_) h
    refine ax_istoren dM_doorsOf_64 rfl (by decide) rfl ?_
    refine ax_aloadn 1 dM_doorsOf_65 rfl rfl ?_
    refine ax_iloadn 2 dM_doorsOf_66 rfl rfl ?_
    refine ax_aloadn 1 dM_doorsOf_67 rfl rfl ?_
    refine ax_geti dM_doorsOf_68 fM_80 sM_0 rfl ?_
    refine ax_iconst dM_doorsOf_71 (by decide) ?_
    obtain ⟨q6, h⟩ := h
    refine ax_isub dM_doorsOf_72 q6 ?_
    refine ax_callV (dp2 := 1) (as := [.inl v2, .inl ((M5 0 0) - 1)]) (st := []) dM_doorsOf_73 lM_237 sM_0 ⟨_, _, rfl⟩ rfl rfl (Nat.le_of_ble_eq_true rfl) (by decide) ?_
    refine ax_C_mono (fun _ M8 h => ?_) h
    refine ax_aloadn 1 dM_doorsOf_76 rfl rfl ?_
    refine ax_aloadn 1 dM_doorsOf_77 rfl rfl ?_
    refine ax_geti dM_doorsOf_78 fM_80 sM_0 rfl ?_
    refine ax_iloadn 2 dM_doorsOf_81 rfl rfl ?_
    obtain ⟨q9, h⟩ := h
    refine ax_isub dM_doorsOf_82 q9 ?_
    refine ax_puti dM_doorsOf_83 pM_139 sM_0 rfl ?_
    refine ax_iconst dM_doorsOf_86 (by decide) ?_
    refine ax_istore dM_doorsOf_87 (by decide) rfl ?_
    exact ax_sub [2, 1, 0] rfl h
  · replace h := h.2 c11
    refine ax_aloadn 0 dM_doorsOf_29 rfl rfl ?_
    refine ax_getr dM_doorsOf_30 fM_52 sM_0 rfl ?_
    refine ax_iloadn 2 dM_doorsOf_33 rfl rfl ?_
    refine ax_aloadn 0 dM_doorsOf_34 rfl rfl ?_
    refine ax_getr dM_doorsOf_35 fM_28 sM_0 rfl ?_
    refine ax_iloadn 2 dM_doorsOf_38 rfl rfl ?_
    obtain ⟨q10, h⟩ := h
    refine ax_iald dM_doorsOf_39 sM_7 q10.1 q10.2 ?_
    refine ax_iast dM_doorsOf_40 sM_15 (by omega) (by omega) ?_
    refine ax_iinc (j := 2) dM_doorsOf_41 rfl (by decide) (show ax_r _ from ⟨by omega, by omega⟩) rfl ?_
    refine ax_goto (tgt := 21) dM_doorsOf_44 (by decide) ?_
    exact ax_sub [1, 2, 0] rfl h
theorem gM_doorsOf_89 {P : Int → ax_Mem → Prop} {M : ax_Mem} {v3 v4 : Int} (h : ((M 0 4) ≤ v4 → kM_boardAll [.inr (.inr 0)] M (fun r1 M2 => (v3 ≤ r1 → P r1 M2) ∧ (¬ v3 ≤ r1 → P v3 M2))) ∧ (¬ (M 0 4) ≤ v4 → (-2147483648 ≤ ((M 0 0) - 1) ∧ ((M 0 0) - 1) < 2147483648) ∧ (-2147483648 ≤ (7 * v4) ∧ (7 * v4) < 2147483648) ∧ (-2147483648 ≤ ((7 * v4) + 2) ∧ ((7 * v4) + 2) < 2147483648) ∧ (0 ≤ ((7 * v4) + 2) ∧ ((7 * v4) + 2) < 84) ∧ (-2147483648 ≤ (((M 0 0) - 1) - (M 1 (((7 * v4) + 2).toNat))) ∧ (((M 0 0) - 1) - (M 1 (((7 * v4) + 2).toNat))) < 2147483648) ∧ (0 ≤ v4 ∧ v4 < 12) ∧ jM_doorsOf P 89 [(0, .inr (.inr 0)), (3, .inl v3), (4, .inl (v4 + 1))] [] (ax_u M 5 (v4.toNat) (((M 0 0) - 1) - (M 1 (((7 * v4) + 2).toNat)))))) : jM_doorsOf P 89 [(0, .inr (.inr 0)), (3, .inl v3), (4, .inl v4)] [] M := by
  refine ax_iload 2 dM_doorsOf_89 rfl ?_
  refine ax_aloadn 0 dM_doorsOf_91 rfl rfl ?_
  refine ax_geti dM_doorsOf_92 fM_89 sM_0 rfl ?_
  refine ax_icmp_ge (tgt := 130) dM_doorsOf_95 (by decide) (fun c10 => ?_) (fun c10 => ?_)
  · replace h := h.1 c10
    refine ax_aloadn 0 dM_doorsOf_130 rfl rfl ?_
    refine ax_callV (dp2 := 4) (as := []) (st := []) dM_doorsOf_131 lM_209 sM_0 ⟨_, _, rfl⟩ rfl rfl (Nat.le_of_ble_eq_true rfl) (by decide) ?_
    refine ax_C_mono (fun r1 M2 h => ?_) h
    refine ax_istore dM_doorsOf_134 (by decide) rfl ?_
    refine ax_iloadn 2 dM_doorsOf_136 rfl rfl ?_
    refine ax_iload 0 dM_doorsOf_137 rfl ?_
    refine ax_icmp_le (tgt := 146) dM_doorsOf_139 (by decide) (fun c3 => ?_) (fun c3 => ?_)
    · replace h := h.1 c3
      refine ax_iload 0 dM_doorsOf_146 rfl ?_
      exact ax_iret dM_doorsOf_148 h
    · replace h := h.2 c3
      refine ax_iloadn 2 dM_doorsOf_142 rfl rfl ?_
      refine ax_goto (tgt := 148) dM_doorsOf_143 (by decide) ?_
      exact ax_iret dM_doorsOf_148 h
  · replace h := h.2 c10
    refine ax_aloadn 0 dM_doorsOf_98 rfl rfl ?_
    refine ax_getr dM_doorsOf_99 fM_22 sM_0 rfl ?_
    refine ax_iload 2 dM_doorsOf_102 rfl ?_
    refine ax_aloadn 0 dM_doorsOf_104 rfl rfl ?_
    refine ax_geti dM_doorsOf_105 fM_80 sM_0 rfl ?_
    refine ax_iconst dM_doorsOf_108 (by decide) ?_
    obtain ⟨q4, h⟩ := h
    refine ax_isub dM_doorsOf_109 q4 ?_
    refine ax_aloadn 0 dM_doorsOf_110 rfl rfl ?_
    refine ax_getr dM_doorsOf_111 fM_7 sM_0 rfl ?_
    refine ax_bipush dM_doorsOf_114 (by decide) ?_
    refine ax_iload 2 dM_doorsOf_116 rfl ?_
    obtain ⟨q5, h⟩ := h
    refine ax_imul dM_doorsOf_118 q5 ?_
    refine ax_iconst dM_doorsOf_119 (by decide) ?_
    obtain ⟨q6, h⟩ := h
    refine ax_iadd dM_doorsOf_120 q6 ?_
    obtain ⟨q7, h⟩ := h
    refine ax_iald dM_doorsOf_121 sM_1 q7.1 q7.2 ?_
    obtain ⟨q8, h⟩ := h
    refine ax_isub dM_doorsOf_122 q8 ?_
    obtain ⟨q9, h⟩ := h
    refine ax_iast dM_doorsOf_123 sM_5 q9.1 q9.2 ?_
    refine ax_iinc (j := 2) dM_doorsOf_124 rfl (by decide) (show ax_r _ from ⟨by omega, by omega⟩) rfl ?_
    refine ax_goto (tgt := 89) dM_doorsOf_127 (by decide) ?_
    exact ax_sub [1, 2, 0] rfl h
theorem eM_doorsOf {P : Int → ax_Mem → Prop} {M : ax_Mem} {a1 : Int} (h : (-2147483648 ≤ ((M 0 0) + 1) ∧ ((M 0 0) + 1) < 2147483648) ∧ ((0 : Int) ≤ ((M 0 0) + 1) ∧ (0 : Int) < 2) ∧ kM_layPeople [.inr (.inr 0), .inl 3] M (fun _ M4 => kM_layOrder [.inr (.inr 0), .inl a1] M4 (fun _ M6 => jM_doorsOf P 21 [(0, .inr (.inr 0)), (2, .inl (((M 0 0) + 1) / 2)), (3, .inl 0)] [] M6))) : kM_doorsOf [.inr (.inr 0), .inl a1] M P := ax_ofJ (by decide) (Nat.le_of_ble_eq_true rfl) (gM_doorsOf_0 h)
-- M_doors dp 6
theorem gM_doors_0 {P : Int → ax_Mem → Prop} {M : ax_Mem} {a1 : Int} (h : kM_isCall [.inr (.inr 0), .inl a1] M (fun r1 M2 => (¬ r1 = 0 → kM_lacks [.inr (.inr 0)] M2 (fun r3 M4 => (r3 = 0 → kM_doorsOf [.inr (.inr 0), .inl a1] M4 (fun r5 M6 => P r5 M6)) ∧ (¬ r3 = 0 → P (-103) M4))) ∧ (r1 = 0 → P (-101) M2))) : jM_doors P 0 [(0, .inr (.inr 0)), (1, .inl a1)] [] M := by
  refine ax_aloadn 0 dM_doors_0 rfl rfl ?_
  refine ax_iloadn 1 dM_doors_1 rfl rfl ?_
  refine ax_callV (dp2 := 1) (as := [.inl a1]) (st := []) dM_doors_2 lM_169 sM_0 ⟨_, _, rfl⟩ rfl rfl (Nat.le_of_ble_eq_true rfl) (by decide) ?_
  refine ax_C_mono (fun r1 M2 h => ?_) h
  refine ax_if_ne (tgt := 11) dM_doors_5 (by decide) (fun c8 => ?_) (fun c8 => ?_)
  · replace h := h.1 c8
    refine ax_aloadn 0 dM_doors_11 rfl rfl ?_
    refine ax_callV (dp2 := 0) (as := []) (st := []) dM_doors_12 lM_95 sM_0 ⟨_, _, rfl⟩ rfl rfl (Nat.le_of_ble_eq_true rfl) (by decide) ?_
    refine ax_C_mono (fun r3 M4 h => ?_) h
    refine ax_if_eq (tgt := 23) dM_doors_15 (by decide) (fun c7 => ?_) (fun c7 => ?_)
    · replace h := h.1 c7
      refine ax_aloadn 0 dM_doors_23 rfl rfl ?_
      refine ax_iloadn 1 dM_doors_24 rfl rfl ?_
      refine ax_callV (dp2 := 5) (as := [.inl a1]) (st := []) dM_doors_25 lM_240 sM_0 ⟨_, _, rfl⟩ rfl rfl (Nat.le_of_ble_eq_true rfl) (by decide) ?_
      refine ax_C_mono (fun r5 M6 h => ?_) h
      exact ax_iret dM_doors_28 h
    · replace h := h.2 c7
      refine ax_bipush dM_doors_18 (by decide) ?_
      refine ax_goto (tgt := 28) dM_doors_20 (by decide) ?_
      exact ax_iret dM_doors_28 h
  · replace h := h.2 c8
    refine ax_bipush dM_doors_8 (by decide) ?_
    exact ax_iret dM_doors_10 h
theorem eM_doors {P : Int → ax_Mem → Prop} {M : ax_Mem} {a1 : Int} (h : kM_isCall [.inr (.inr 0), .inl a1] M (fun r1 M2 => (¬ r1 = 0 → kM_lacks [.inr (.inr 0)] M2 (fun r3 M4 => (r3 = 0 → kM_doorsOf [.inr (.inr 0), .inl a1] M4 (fun r5 M6 => P r5 M6)) ∧ (¬ r3 = 0 → P (-103) M4))) ∧ (r1 = 0 → P (-101) M2))) : kM_doors [.inr (.inr 0), .inl a1] M P := ax_ofJ (by decide) (Nat.le_of_ble_eq_true rfl) (gM_doors_0 h)
-- M_draw dp 0
theorem gM_draw_0 {P : Int → ax_Mem → Prop} {M : ax_Mem} {a1 : Int} (h : (-2147483648 ≤ (((1103515245 * (M 0 30)) + 12345) % 2 ^ 31) ∧ (((1103515245 * (M 0 30)) + 12345) % 2 ^ 31) < 2147483648) ∧ ((0 : Int) ≤ (((1103515245 * (M 0 30)) + 12345) % 2 ^ 31) ∧ (0 : Int) < 65536) ∧ ((0 : Int) ≤ ((((1103515245 * (M 0 30)) + 12345) % 2 ^ 31) / 65536) ∧ (0 : Int) < a1) ∧ P (((((1103515245 * (M 0 30)) + 12345) % 2 ^ 31) / 65536) % a1) (ax_u M 0 30 (((1103515245 * (M 0 30)) + 12345) % 2 ^ 31))) : jM_draw P 0 [(0, .inr (.inr 0)), (1, .inl a1)] [] M := by
  refine ax_aloadn 0 dM_draw_0 rfl rfl ?_
  refine ax_ldc2 (n := 1103515245) dM_draw_1 nM_243 ?_
  refine ax_aloadn 0 dM_draw_4 rfl rfl ?_
  refine ax_geti dM_draw_5 fM_245 sM_0 rfl ?_
  refine ax_i2l dM_draw_8 ?_
  refine ax_lmul dM_draw_9 ?_
  refine ax_ldc2 (n := 12345) dM_draw_10 nM_248 ?_
  refine ax_ladd dM_draw_13 ?_
  refine ax_ldc2 (n := 2147483647) dM_draw_14 nM_250 ?_
  refine ax_land 31 dM_draw_17 (by decide) (by decide) ?_
  obtain ⟨q1, h⟩ := h
  refine ax_l2i dM_draw_18 q1 ?_
  refine ax_puti dM_draw_19 pM_245 sM_0 rfl ?_
  refine ax_aloadn 0 dM_draw_22 rfl rfl ?_
  refine ax_geti dM_draw_23 fM_245 sM_0 rfl ?_
  refine ax_top (x' := ((1103515245 * (M 0 30)) + 12345) % 2 ^ 31) (by first | rfl | exact ax_u_at _ _ _ _) ?_
  refine ax_ldc (n := 65536) dM_draw_26 nM_252 ⟨by decide, by decide⟩ ?_
  obtain ⟨q2, h⟩ := h
  refine ax_idiv dM_draw_28 q2.1 q2.2 ?_
  refine ax_iloadn 1 dM_draw_29 rfl rfl ?_
  obtain ⟨q3, h⟩ := h
  refine ax_irem dM_draw_30 q3.1 q3.2 ?_
  exact ax_iret dM_draw_31 h
theorem eM_draw {P : Int → ax_Mem → Prop} {M : ax_Mem} {a1 : Int} (h : (-2147483648 ≤ (((1103515245 * (M 0 30)) + 12345) % 2 ^ 31) ∧ (((1103515245 * (M 0 30)) + 12345) % 2 ^ 31) < 2147483648) ∧ ((0 : Int) ≤ (((1103515245 * (M 0 30)) + 12345) % 2 ^ 31) ∧ (0 : Int) < 65536) ∧ ((0 : Int) ≤ ((((1103515245 * (M 0 30)) + 12345) % 2 ^ 31) / 65536) ∧ (0 : Int) < a1) ∧ P (((((1103515245 * (M 0 30)) + 12345) % 2 ^ 31) / 65536) % a1) (ax_u M 0 30 (((1103515245 * (M 0 30)) + 12345) % 2 ^ 31))) : kM_draw [.inr (.inr 0), .inl a1] M P := ax_ofJ (by decide) (Nat.le_of_ble_eq_true rfl) (gM_draw_0 h)
-- M_mixedOf dp 5
theorem gM_mixedOf_0 {P : Int → ax_Mem → Prop} {M : ax_Mem} {a1 a2 a3 : Int} (h : kM_layPeople [.inr (.inr 0), .inl 3] (ax_u M 0 30 a2) (fun _ M2 => jM_mixedOf P 20 [(0, .inr (.inr 0)), (1, .inl a1), (3, .inl a3), (4, .inl 1000000), (5, .inl 0), (6, .inl 0)] [] M2)) : jM_mixedOf P 0 [(0, .inr (.inr 0)), (1, .inl a1), (2, .inl a2), (3, .inl a3)] [] M := by
  refine ax_aloadn 0 dM_mixedOf_0 rfl rfl ?_
  refine ax_iloadn 2 dM_mixedOf_1 rfl rfl ?_
  refine ax_puti dM_mixedOf_2 pM_245 sM_0 rfl ?_
  refine ax_aloadn 0 dM_mixedOf_5 rfl rfl ?_
  refine ax_iconst dM_mixedOf_6 (by decide) ?_
  refine ax_callV (dp2 := 0) (as := [.inl 3]) (st := []) dM_mixedOf_7 lM_174 sM_0 ⟨_, _, rfl⟩ rfl rfl (Nat.le_of_ble_eq_true rfl) (by decide) ?_
  refine ax_C_mono (fun _ M2 h => ?_) h
  refine ax_ldc (n := 1000000) dM_mixedOf_10 nM_221 ⟨by decide, by decide⟩ ?_
  refine ax_istore dM_mixedOf_12 (by decide) rfl ?_
  refine ax_iconst dM_mixedOf_14 (by decide) ?_
  refine ax_istore dM_mixedOf_15 (by decide) rfl ?_
  refine ax_iconst dM_mixedOf_17 (by decide) ?_
  refine ax_istore dM_mixedOf_18 (by decide) rfl ?_
  exact ax_sub [3, 4, 6, 2, 1, 0] rfl h
theorem gM_mixedOf_20 {P : Int → ax_Mem → Prop} {M : ax_Mem} {v1 v3 v4 v5 v6 : Int} (h : (v1 ≤ v6 → (¬ v3 = 0 → (¬ v3 = 1 → P (M 0 30) M) ∧ (v3 = 1 → P v5 M)) ∧ (v3 = 0 → P v4 M)) ∧ (¬ v1 ≤ v6 → jM_mixedOf P 37 [(0, .inr (.inr 0)), (1, .inl v1), (3, .inl v3), (4, .inl v4), (5, .inl v5), (6, .inl v6), (7, .inl 0)] [] (ax_u M 0 17 (M 0 4)))) : jM_mixedOf P 20 [(0, .inr (.inr 0)), (1, .inl v1), (3, .inl v3), (4, .inl v4), (5, .inl v5), (6, .inl v6)] [] M := by
  refine ax_iload 5 dM_mixedOf_20 rfl ?_
  refine ax_iloadn 1 dM_mixedOf_22 rfl rfl ?_
  refine ax_icmp_ge (tgt := 137) dM_mixedOf_23 (by decide) (fun c3 => ?_) (fun c3 => ?_)
  · replace h := h.1 c3
    refine ax_iloadn 2 dM_mixedOf_137 rfl rfl ?_
    refine ax_if_ne (tgt := 146) dM_mixedOf_138 (by decide) (fun c2 => ?_) (fun c2 => ?_)
    · replace h := h.1 c2
      refine ax_iloadn 2 dM_mixedOf_146 rfl rfl ?_
      refine ax_iconst dM_mixedOf_147 (by decide) ?_
      refine ax_icmp_ne (tgt := 156) dM_mixedOf_148 (by decide) (fun c1 => ?_) (fun c1 => ?_)
      · replace h := h.1 c1
        refine ax_aloadn 0 dM_mixedOf_156 rfl rfl ?_
        refine ax_geti dM_mixedOf_157 fM_245 sM_0 rfl ?_
        exact ax_iret dM_mixedOf_160 h
      · replace h := h.2 c1
        refine ax_iload 4 dM_mixedOf_151 rfl ?_
        refine ax_goto (tgt := 160) dM_mixedOf_153 (by decide) ?_
        exact ax_iret dM_mixedOf_160 h
    · replace h := h.2 c2
      refine ax_iload 3 dM_mixedOf_141 rfl ?_
      refine ax_goto (tgt := 160) dM_mixedOf_143 (by decide) ?_
      exact ax_iret dM_mixedOf_160 h
  · replace h := h.2 c3
    refine ax_aloadn 0 dM_mixedOf_26 rfl rfl ?_
    refine ax_aloadn 0 dM_mixedOf_27 rfl rfl ?_
    refine ax_geti dM_mixedOf_28 fM_89 sM_0 rfl ?_
    refine ax_puti dM_mixedOf_31 pM_156 sM_0 rfl ?_
    refine ax_iconst dM_mixedOf_34 (by decide) ?_
    refine ax_istore dM_mixedOf_35 (by decide) rfl ?_
    exact ax_sub [1, 2, 3, 4, 5, 6, 0] rfl h
theorem gM_mixedOf_37 {P : Int → ax_Mem → Prop} {M : ax_Mem} {v1 v3 v4 v5 v6 v7 : Int} (h : ((M 0 4) ≤ v7 → jM_mixedOf P 67 [(0, .inr (.inr 0)), (1, .inl v1), (3, .inl v3), (4, .inl v4), (5, .inl v5), (6, .inl v6), (7, .inl (M 0 4))] [] M) ∧ (¬ (M 0 4) ≤ v7 → (0 ≤ v7 ∧ v7 < 12) ∧ jM_mixedOf P 37 [(0, .inr (.inr 0)), (1, .inl v1), (3, .inl v3), (4, .inl v4), (5, .inl v5), (6, .inl v6), (7, .inl (v7 + 1))] [] (ax_u M 7 (v7.toNat) v7))) : jM_mixedOf P 37 [(0, .inr (.inr 0)), (1, .inl v1), (3, .inl v3), (4, .inl v4), (5, .inl v5), (6, .inl v6), (7, .inl v7)] [] M := by
  refine ax_iload 6 dM_mixedOf_37 rfl ?_
  refine ax_aloadn 0 dM_mixedOf_39 rfl rfl ?_
  refine ax_geti dM_mixedOf_40 fM_89 sM_0 rfl ?_
  refine ax_icmp_ge (tgt := 61) dM_mixedOf_43 (by decide) (fun c2 => ?_) (fun c2 => ?_)
  · replace h := h.1 c2
    refine ax_aloadn 0 dM_mixedOf_61 rfl rfl ?_
    refine ax_geti dM_mixedOf_62 fM_89 sM_0 rfl ?_
    refine ax_istore dM_mixedOf_65 (by decide) rfl ?_
    exact ax_sub [1, 2, 3, 4, 5, 6, 0] rfl h
  · replace h := h.2 c2
    refine ax_aloadn 0 dM_mixedOf_46 rfl rfl ?_
    refine ax_getr dM_mixedOf_47 fM_28 sM_0 rfl ?_
    refine ax_iload 6 dM_mixedOf_50 rfl ?_
    refine ax_iload 6 dM_mixedOf_52 rfl ?_
    obtain ⟨q1, h⟩ := h
    refine ax_iast dM_mixedOf_54 sM_7 q1.1 q1.2 ?_
    refine ax_iinc (j := 6) dM_mixedOf_55 rfl (by decide) (show ax_r _ from ⟨by omega, by omega⟩) rfl ?_
    refine ax_goto (tgt := 37) dM_mixedOf_58 (by decide) ?_
    exact ax_sub [1, 2, 3, 4, 5, 6, 0] rfl h
theorem gM_mixedOf_67 {P : Int → ax_Mem → Prop} {M : ax_Mem} {v1 v3 v4 v5 v6 v7 : Int} (h : (v7 < 2 → kM_boardAll [.inr (.inr 0)] M (fun r1 M2 => (v4 ≤ r1 → (r1 ≤ v5 → (-2147483648 ≤ (v6 + 1) ∧ (v6 + 1) < 2147483648) ∧ jM_mixedOf P 20 [(0, .inr (.inr 0)), (1, .inl v1), (3, .inl v3), (4, .inl v4), (5, .inl v5), (6, .inl (v6 + 1))] [] M2) ∧ (¬ r1 ≤ v5 → (-2147483648 ≤ (v6 + 1) ∧ (v6 + 1) < 2147483648) ∧ jM_mixedOf P 20 [(0, .inr (.inr 0)), (1, .inl v1), (3, .inl v3), (4, .inl v4), (5, .inl r1), (6, .inl (v6 + 1))] [] M2)) ∧ (¬ v4 ≤ r1 → (r1 ≤ v5 → (-2147483648 ≤ (v6 + 1) ∧ (v6 + 1) < 2147483648) ∧ jM_mixedOf P 20 [(0, .inr (.inr 0)), (1, .inl v1), (3, .inl v3), (4, .inl r1), (5, .inl v5), (6, .inl (v6 + 1))] [] M2) ∧ (¬ r1 ≤ v5 → (-2147483648 ≤ (v6 + 1) ∧ (v6 + 1) < 2147483648) ∧ jM_mixedOf P 20 [(0, .inr (.inr 0)), (1, .inl v1), (3, .inl v3), (4, .inl r1), (5, .inl r1), (6, .inl (v6 + 1))] [] M2)))) ∧ (¬ v7 < 2 → (-2147483648 ≤ (v7 - 1) ∧ (v7 - 1) < 2147483648) ∧ kM_draw [.inr (.inr 0), .inl v7] M (fun r11 M12 => kM_exchange [.inr (.inr 0), .inl (v7 - 1), .inl r11] M12 (fun _ M14 => (-2147483648 ≤ (v7 + (-1)) ∧ (v7 + (-1)) < 2147483648) ∧ jM_mixedOf P 67 [(0, .inr (.inr 0)), (1, .inl v1), (3, .inl v3), (4, .inl v4), (5, .inl v5), (6, .inl v6), (7, .inl (v7 + (-1)))] [] M14)))) : jM_mixedOf P 67 [(0, .inr (.inr 0)), (1, .inl v1), (3, .inl v3), (4, .inl v4), (5, .inl v5), (6, .inl v6), (7, .inl v7)] [] M := by
  refine ax_iload 6 dM_mixedOf_67 rfl ?_
  refine ax_iconst dM_mixedOf_69 (by decide) ?_
  refine ax_icmp_lt (tgt := 93) dM_mixedOf_70 (by decide) (fun c16 => ?_) (fun c16 => ?_)
  · replace h := h.1 c16
    refine ax_aloadn 0 dM_mixedOf_93 rfl rfl ?_
    refine ax_callV (dp2 := 4) (as := []) (st := []) dM_mixedOf_94 lM_209 sM_0 ⟨_, _, rfl⟩ rfl rfl (Nat.le_of_ble_eq_true rfl) (by decide) ?_
    refine ax_C_mono (fun r1 M2 h => ?_) h
    refine ax_istore dM_mixedOf_97 (by decide) rfl ?_
    refine ax_iload 0 dM_mixedOf_99 rfl ?_
    refine ax_iload 4 dM_mixedOf_101 rfl ?_
    refine ax_icmp_ge (tgt := 111) dM_mixedOf_103 (by decide) (fun c9 => ?_) (fun c9 => ?_)
    · replace h := h.1 c9
      refine ax_iload 4 dM_mixedOf_111 rfl ?_
      refine ax_istore dM_mixedOf_113 (by decide) rfl ?_
      refine ax_iload 1 dM_mixedOf_115 rfl ?_
      refine ax_iload 5 dM_mixedOf_117 rfl ?_
      refine ax_icmp_le (tgt := 127) dM_mixedOf_119 (by decide) (fun c5 => ?_) (fun c5 => ?_)
      · replace h := h.1 c5
        refine ax_iload 5 dM_mixedOf_127 rfl ?_
        refine ax_istore dM_mixedOf_129 (by decide) rfl ?_
        obtain ⟨q3, h⟩ := h
        refine ax_iinc (j := 6) dM_mixedOf_131 rfl (by decide) q3 rfl ?_
        refine ax_goto (tgt := 20) dM_mixedOf_134 (by decide) ?_
        exact ax_sub [4, 5, 6, 2, 1, 0] rfl h
      · replace h := h.2 c5
        refine ax_iload 1 dM_mixedOf_122 rfl ?_
        refine ax_goto (tgt := 129) dM_mixedOf_124 (by decide) ?_
        refine ax_istore dM_mixedOf_129 (by decide) rfl ?_
        obtain ⟨q4, h⟩ := h
        refine ax_iinc (j := 6) dM_mixedOf_131 rfl (by decide) q4 rfl ?_
        refine ax_goto (tgt := 20) dM_mixedOf_134 (by decide) ?_
        exact ax_sub [4, 5, 6, 2, 1, 0] rfl h
    · replace h := h.2 c9
      refine ax_iload 0 dM_mixedOf_106 rfl ?_
      refine ax_goto (tgt := 113) dM_mixedOf_108 (by decide) ?_
      refine ax_istore dM_mixedOf_113 (by decide) rfl ?_
      refine ax_iload 1 dM_mixedOf_115 rfl ?_
      refine ax_iload 5 dM_mixedOf_117 rfl ?_
      refine ax_icmp_le (tgt := 127) dM_mixedOf_119 (by decide) (fun c8 => ?_) (fun c8 => ?_)
      · replace h := h.1 c8
        refine ax_iload 5 dM_mixedOf_127 rfl ?_
        refine ax_istore dM_mixedOf_129 (by decide) rfl ?_
        obtain ⟨q6, h⟩ := h
        refine ax_iinc (j := 6) dM_mixedOf_131 rfl (by decide) q6 rfl ?_
        refine ax_goto (tgt := 20) dM_mixedOf_134 (by decide) ?_
        exact ax_sub [4, 5, 6, 2, 1, 0] rfl h
      · replace h := h.2 c8
        refine ax_iload 1 dM_mixedOf_122 rfl ?_
        refine ax_goto (tgt := 129) dM_mixedOf_124 (by decide) ?_
        refine ax_istore dM_mixedOf_129 (by decide) rfl ?_
        obtain ⟨q7, h⟩ := h
        refine ax_iinc (j := 6) dM_mixedOf_131 rfl (by decide) q7 rfl ?_
        refine ax_goto (tgt := 20) dM_mixedOf_134 (by decide) ?_
        exact ax_sub [4, 5, 6, 2, 1, 0] rfl h
  · replace h := h.2 c16
    refine ax_aloadn 0 dM_mixedOf_73 rfl rfl ?_
    refine ax_iload 6 dM_mixedOf_74 rfl ?_
    refine ax_iconst dM_mixedOf_76 (by decide) ?_
    obtain ⟨q10, h⟩ := h
    refine ax_isub dM_mixedOf_77 q10 ?_
    refine ax_aloadn 0 dM_mixedOf_78 rfl rfl ?_
    refine ax_iload 6 dM_mixedOf_79 rfl ?_
    refine ax_callV (dp2 := 0) (as := [.inl v7]) (st := [.inl (v7 - 1), .inr (.inr 0)]) dM_mixedOf_81 lM_253 sM_0 ⟨_, _, rfl⟩ rfl rfl (Nat.le_of_ble_eq_true rfl) (by decide) ?_
    refine ax_C_mono (fun r11 M12 h => ?_) h
    refine ax_callV (dp2 := 0) (as := [.inl (v7 - 1), .inl r11]) (st := []) dM_mixedOf_84 lM_234 sM_0 ⟨_, _, rfl⟩ rfl rfl (Nat.le_of_ble_eq_true rfl) (by decide) ?_
    refine ax_C_mono (fun _ M14 h => ?_) h
    obtain ⟨q15, h⟩ := h
    refine ax_iinc (j := 6) dM_mixedOf_87 rfl (by decide) q15 rfl ?_
    refine ax_goto (tgt := 67) dM_mixedOf_90 (by decide) ?_
    exact ax_sub [1, 2, 3, 4, 5, 6, 0] rfl h
theorem eM_mixedOf {P : Int → ax_Mem → Prop} {M : ax_Mem} {a1 a2 a3 : Int} (h : kM_layPeople [.inr (.inr 0), .inl 3] (ax_u M 0 30 a2) (fun _ M2 => jM_mixedOf P 20 [(0, .inr (.inr 0)), (1, .inl a1), (3, .inl a3), (4, .inl 1000000), (5, .inl 0), (6, .inl 0)] [] M2)) : kM_mixedOf [.inr (.inr 0), .inl a1, .inl a2, .inl a3] M P := ax_ofJ (by decide) (Nat.le_of_ble_eq_true rfl) (gM_mixedOf_0 h)
-- M_mixed dp 6
theorem gM_mixed_0 {P : Int → ax_Mem → Prop} {M : ax_Mem} {a1 a2 a3 : Int} (h : kM_lacks [.inr (.inr 0)] M (fun r1 M2 => (r1 = 0 → kM_in [.inr (.inl a1), .inr (.inl 1), .inr (.inl 9)] M2 (fun r3 M4 => (r3 = 0 → P (-102) M4) ∧ (¬ r3 = 0 → (a2 < 0 → P (-102) M4) ∧ (¬ a2 < 0 → kM_in [.inr (.inl a3), .inr (.inl 0), .inr (.inl 2)] M4 (fun r5 M6 => (r5 = 0 → P (-102) M6) ∧ (¬ r5 = 0 → kM_mixedOf [.inr (.inr 0), .inl a1, .inl a2, .inl a3] M6 (fun r7 M8 => P r7 M8))))))) ∧ (¬ r1 = 0 → P (-103) M2))) : jM_mixed P 0 [(0, .inr (.inr 0)), (1, .inl a1), (2, .inl a2), (3, .inl a3)] [] M := by
  refine ax_aloadn 0 dM_mixed_0 rfl rfl ?_
  refine ax_callV (dp2 := 0) (as := []) (st := []) dM_mixed_1 lM_95 sM_0 ⟨_, _, rfl⟩ rfl rfl (Nat.le_of_ble_eq_true rfl) (by decide) ?_
  refine ax_C_mono (fun r1 M2 h => ?_) h
  refine ax_if_eq (tgt := 10) dM_mixed_4 (by decide) (fun c12 => ?_) (fun c12 => ?_)
  · replace h := h.1 c12
    refine ax_iloadn 1 dM_mixed_10 rfl rfl ?_
    refine ax_i2l dM_mixed_11 ?_
    refine ax_lconst (i := 1) dM_mixed_12 rfl ?_
    refine ax_ldc2 (n := 9) dM_mixed_13 nM_256 ?_
    refine ax_callS (dp2 := 0) (as := [.inr (.inl a1), .inr (.inl 1), .inr (.inl 9)]) (st := []) dM_mixed_16 lM_72 rfl rfl (Nat.le_of_ble_eq_true rfl) (by decide) ?_
    refine ax_C_mono (fun r3 M4 h => ?_) h
    refine ax_if_eq (tgt := 48) dM_mixed_19 (by decide) (fun c11 => ?_) (fun c11 => ?_)
    · replace h := h.1 c11
      refine ax_bipush dM_mixed_48 (by decide) ?_
      exact ax_iret dM_mixed_50 h
    · replace h := h.2 c11
      refine ax_iloadn 2 dM_mixed_22 rfl rfl ?_
      refine ax_if_lt (tgt := 48) dM_mixed_23 (by decide) (fun c10 => ?_) (fun c10 => ?_)
      · replace h := h.1 c10
        refine ax_bipush dM_mixed_48 (by decide) ?_
        exact ax_iret dM_mixed_50 h
      · replace h := h.2 c10
        refine ax_iloadn 3 dM_mixed_26 rfl rfl ?_
        refine ax_i2l dM_mixed_27 ?_
        refine ax_lconst (i := 0) dM_mixed_28 rfl ?_
        refine ax_ldc2 (n := 2) dM_mixed_29 nM_68 ?_
        refine ax_callS (dp2 := 0) (as := [.inr (.inl a3), .inr (.inl 0), .inr (.inl 2)]) (st := []) dM_mixed_32 lM_72 rfl rfl (Nat.le_of_ble_eq_true rfl) (by decide) ?_
        refine ax_C_mono (fun r5 M6 h => ?_) h
        refine ax_if_eq (tgt := 48) dM_mixed_35 (by decide) (fun c9 => ?_) (fun c9 => ?_)
        · replace h := h.1 c9
          refine ax_bipush dM_mixed_48 (by decide) ?_
          exact ax_iret dM_mixed_50 h
        · replace h := h.2 c9
          refine ax_aloadn 0 dM_mixed_38 rfl rfl ?_
          refine ax_iloadn 1 dM_mixed_39 rfl rfl ?_
          refine ax_iloadn 2 dM_mixed_40 rfl rfl ?_
          refine ax_iloadn 3 dM_mixed_41 rfl rfl ?_
          refine ax_callV (dp2 := 5) (as := [.inl a1, .inl a2, .inl a3]) (st := []) dM_mixed_42 lM_258 sM_0 ⟨_, _, rfl⟩ rfl rfl (Nat.le_of_ble_eq_true rfl) (by decide) ?_
          refine ax_C_mono (fun r7 M8 h => ?_) h
          refine ax_goto (tgt := 50) dM_mixed_45 (by decide) ?_
          exact ax_iret dM_mixed_50 h
  · replace h := h.2 c12
    refine ax_bipush dM_mixed_7 (by decide) ?_
    exact ax_iret dM_mixed_9 h
theorem eM_mixed {P : Int → ax_Mem → Prop} {M : ax_Mem} {a1 a2 a3 : Int} (h : kM_lacks [.inr (.inr 0)] M (fun r1 M2 => (r1 = 0 → kM_in [.inr (.inl a1), .inr (.inl 1), .inr (.inl 9)] M2 (fun r3 M4 => (r3 = 0 → P (-102) M4) ∧ (¬ r3 = 0 → (a2 < 0 → P (-102) M4) ∧ (¬ a2 < 0 → kM_in [.inr (.inl a3), .inr (.inl 0), .inr (.inl 2)] M4 (fun r5 M6 => (r5 = 0 → P (-102) M6) ∧ (¬ r5 = 0 → kM_mixedOf [.inr (.inr 0), .inl a1, .inl a2, .inl a3] M6 (fun r7 M8 => P r7 M8))))))) ∧ (¬ r1 = 0 → P (-103) M2))) : kM_mixed [.inr (.inr 0), .inl a1, .inl a2, .inl a3] M P := ax_ofJ (by decide) (Nat.le_of_ble_eq_true rfl) (gM_mixed_0 h)
-- M_mayGo dp 1
theorem gM_mayGo_0 {P : Int → ax_Mem → Prop} {M : ax_Mem} {a1 a2 a3 : Int} (h : (0 ≤ a1 ∧ a1 < 12) ∧ (¬ (M 17 (a1.toNat)) = 1 → P 0 M) ∧ ((M 17 (a1.toNat)) = 1 → (a2 = 0 → P 1 M) ∧ (¬ a2 = 0 → (¬ a2 = 1 → (¬ (M 1 (((7 * a1) + 2).toNat)) = a3 → P 0 M) ∧ ((M 1 (((7 * a1) + 2).toNat)) = a3 → P 1 M)) ∧ (a2 = 1 → kM_depthOf [.inr (.inr 0), .inl a1] M (fun r3 M4 => (¬ r3 = a3 → P 0 M4) ∧ (r3 = a3 → P 1 M4)))))) : jM_mayGo P 0 [(0, .inr (.inr 0)), (1, .inl a1), (2, .inl a2), (3, .inl a3)] [] M := by
  refine ax_aloadn 0 dM_mayGo_0 rfl rfl ?_
  refine ax_getr dM_mayGo_1 fM_58 sM_0 rfl ?_
  refine ax_iloadn 1 dM_mayGo_4 rfl rfl ?_
  obtain ⟨q1, h⟩ := h
  refine ax_iald dM_mayGo_5 sM_17 q1.1 q1.2 ?_
  refine ax_iconst dM_mayGo_6 (by decide) ?_
  refine ax_icmp_ne (tgt := 46) dM_mayGo_7 (by decide) (fun c8 => ?_) (fun c8 => ?_)
  · replace h := h.1 c8
    refine ax_iconst dM_mayGo_46 (by decide) ?_
    exact ax_zret dM_mayGo_47 (by decide) h
  · replace h := h.2 c8
    refine ax_iloadn 2 dM_mayGo_10 rfl rfl ?_
    refine ax_if_eq (tgt := 42) dM_mayGo_11 (by decide) (fun c7 => ?_) (fun c7 => ?_)
    · replace h := h.1 c7
      refine ax_iconst dM_mayGo_42 (by decide) ?_
      refine ax_goto (tgt := 47) dM_mayGo_43 (by decide) ?_
      exact ax_zret dM_mayGo_47 (by decide) h
    · replace h := h.2 c7
      refine ax_iloadn 2 dM_mayGo_14 rfl rfl ?_
      refine ax_iconst dM_mayGo_15 (by decide) ?_
      refine ax_icmp_ne (tgt := 27) dM_mayGo_16 (by decide) (fun c6 => ?_) (fun c6 => ?_)
      · replace h := h.1 c6
        refine ax_aloadn 0 dM_mayGo_27 rfl rfl ?_
        refine ax_getr dM_mayGo_28 fM_7 sM_0 rfl ?_
        refine ax_bipush dM_mayGo_31 (by decide) ?_
        refine ax_iloadn 1 dM_mayGo_33 rfl rfl ?_
        refine ax_imul dM_mayGo_34 (show ax_r _ from ⟨by omega, by omega⟩) ?_
        refine ax_iconst dM_mayGo_35 (by decide) ?_
        refine ax_iadd dM_mayGo_36 (show ax_r _ from ⟨by omega, by omega⟩) ?_
        refine ax_iald dM_mayGo_37 sM_1 (by omega) (by omega) ?_
        refine ax_iloadn 3 dM_mayGo_38 rfl rfl ?_
        refine ax_icmp_ne (tgt := 46) dM_mayGo_39 (by decide) (fun c2 => ?_) (fun c2 => ?_)
        · replace h := h.1 c2
          refine ax_iconst dM_mayGo_46 (by decide) ?_
          exact ax_zret dM_mayGo_47 (by decide) h
        · replace h := h.2 c2
          refine ax_iconst dM_mayGo_42 (by decide) ?_
          refine ax_goto (tgt := 47) dM_mayGo_43 (by decide) ?_
          exact ax_zret dM_mayGo_47 (by decide) h
      · replace h := h.2 c6
        refine ax_aloadn 0 dM_mayGo_19 rfl rfl ?_
        refine ax_iloadn 1 dM_mayGo_20 rfl rfl ?_
        refine ax_callV (dp2 := 0) (as := [.inl a1]) (st := []) dM_mayGo_21 lM_142 sM_0 ⟨_, _, rfl⟩ rfl rfl (Nat.le_of_ble_eq_true rfl) (by decide) ?_
        refine ax_C_mono (fun r3 M4 h => ?_) h
        refine ax_goto (tgt := 38) dM_mayGo_24 (by decide) ?_
        refine ax_iloadn 3 dM_mayGo_38 rfl rfl ?_
        refine ax_icmp_ne (tgt := 46) dM_mayGo_39 (by decide) (fun c5 => ?_) (fun c5 => ?_)
        · replace h := h.1 c5
          refine ax_iconst dM_mayGo_46 (by decide) ?_
          exact ax_zret dM_mayGo_47 (by decide) h
        · replace h := h.2 c5
          refine ax_iconst dM_mayGo_42 (by decide) ?_
          refine ax_goto (tgt := 47) dM_mayGo_43 (by decide) ?_
          exact ax_zret dM_mayGo_47 (by decide) h
theorem eM_mayGo {P : Int → ax_Mem → Prop} {M : ax_Mem} {a1 a2 a3 : Int} (h : (0 ≤ a1 ∧ a1 < 12) ∧ (¬ (M 17 (a1.toNat)) = 1 → P 0 M) ∧ ((M 17 (a1.toNat)) = 1 → (a2 = 0 → P 1 M) ∧ (¬ a2 = 0 → (¬ a2 = 1 → (¬ (M 1 (((7 * a1) + 2).toNat)) = a3 → P 0 M) ∧ ((M 1 (((7 * a1) + 2).toNat)) = a3 → P 1 M)) ∧ (a2 = 1 → kM_depthOf [.inr (.inr 0), .inl a1] M (fun r3 M4 => (¬ r3 = a3 → P 0 M4) ∧ (r3 = a3 → P 1 M4)))))) : kM_mayGo [.inr (.inr 0), .inl a1, .inl a2, .inl a3] M P := ax_ofJ (by decide) (Nat.le_of_ble_eq_true rfl) (gM_mayGo_0 h)
-- M_lowestOf dp 1
theorem gM_lowestOf_0 {P : Int → ax_Mem → Prop} {M : ax_Mem} {a1 : Int} (h : jM_lowestOf P 5 [(0, .inr (.inr 0)), (1, .inl a1), (2, .inl 1000000), (3, .inl 0)] [] M) : jM_lowestOf P 0 [(0, .inr (.inr 0)), (1, .inl a1)] [] M := by
  refine ax_ldc (n := 1000000) dM_lowestOf_0 nM_221 ⟨by decide, by decide⟩ ?_
  refine ax_istoren dM_lowestOf_2 rfl (by decide) rfl ?_
  refine ax_iconst dM_lowestOf_3 (by decide) ?_
  refine ax_istoren dM_lowestOf_4 rfl (by decide) rfl ?_
  exact ax_sub [2, 3, 1, 0] rfl h
theorem gM_lowestOf_5 {P : Int → ax_Mem → Prop} {M : ax_Mem} {v1 v2 v3 : Int} (h : ((M 0 4) ≤ v3 → P v2 M) ∧ (¬ (M 0 4) ≤ v3 → (¬ v1 = 1 → (-2147483648 ≤ (7 * v3) ∧ (7 * v3) < 2147483648) ∧ (-2147483648 ≤ ((7 * v3) + 2) ∧ ((7 * v3) + 2) < 2147483648) ∧ (0 ≤ ((7 * v3) + 2) ∧ ((7 * v3) + 2) < 84) ∧ (0 ≤ v3 ∧ v3 < 12) ∧ (¬ (M 17 (v3.toNat)) = 1 → jM_lowestOf P 5 [(0, .inr (.inr 0)), (1, .inl v1), (2, .inl v2), (3, .inl (v3 + 1))] [] M) ∧ ((M 17 (v3.toNat)) = 1 → (v2 ≤ (M 1 (((7 * v3) + 2).toNat)) → jM_lowestOf P 5 [(0, .inr (.inr 0)), (1, .inl v1), (2, .inl v2), (3, .inl (v3 + 1))] [] M) ∧ (¬ v2 ≤ (M 1 (((7 * v3) + 2).toNat)) → jM_lowestOf P 5 [(0, .inr (.inr 0)), (1, .inl v1), (2, .inl (M 1 (((7 * v3) + 2).toNat))), (3, .inl (v3 + 1))] [] M))) ∧ (v1 = 1 → kM_depthOf [.inr (.inr 0), .inl v3] M (fun r7 M8 => (0 ≤ v3 ∧ v3 < 12) ∧ (¬ (M8 17 (v3.toNat)) = 1 → jM_lowestOf P 5 [(0, .inr (.inr 0)), (1, .inl v1), (2, .inl v2), (3, .inl (v3 + 1))] [] M8) ∧ ((M8 17 (v3.toNat)) = 1 → (v2 ≤ r7 → jM_lowestOf P 5 [(0, .inr (.inr 0)), (1, .inl v1), (2, .inl v2), (3, .inl (v3 + 1))] [] M8) ∧ (¬ v2 ≤ r7 → jM_lowestOf P 5 [(0, .inr (.inr 0)), (1, .inl v1), (2, .inl r7), (3, .inl (v3 + 1))] [] M8)))))) : jM_lowestOf P 5 [(0, .inr (.inr 0)), (1, .inl v1), (2, .inl v2), (3, .inl v3)] [] M := by
  refine ax_iloadn 3 dM_lowestOf_5 rfl rfl ?_
  refine ax_aloadn 0 dM_lowestOf_6 rfl rfl ?_
  refine ax_geti dM_lowestOf_7 fM_89 sM_0 rfl ?_
  refine ax_icmp_ge (tgt := 68) dM_lowestOf_10 (by decide) (fun c13 => ?_) (fun c13 => ?_)
  · replace h := h.1 c13
    refine ax_iloadn 2 dM_lowestOf_68 rfl rfl ?_
    exact ax_iret dM_lowestOf_69 h
  · replace h := h.2 c13
    refine ax_iloadn 1 dM_lowestOf_13 rfl rfl ?_
    refine ax_iconst dM_lowestOf_14 (by decide) ?_
    refine ax_icmp_ne (tgt := 26) dM_lowestOf_15 (by decide) (fun c12 => ?_) (fun c12 => ?_)
    · replace h := h.1 c12
      refine ax_aloadn 0 dM_lowestOf_26 rfl rfl ?_
      refine ax_getr dM_lowestOf_27 fM_7 sM_0 rfl ?_
      refine ax_bipush dM_lowestOf_30 (by decide) ?_
      refine ax_iloadn 3 dM_lowestOf_32 rfl rfl ?_
      obtain ⟨q1, h⟩ := h
      refine ax_imul dM_lowestOf_33 q1 ?_
      refine ax_iconst dM_lowestOf_34 (by decide) ?_
      obtain ⟨q2, h⟩ := h
      refine ax_iadd dM_lowestOf_35 q2 ?_
      obtain ⟨q3, h⟩ := h
      refine ax_iald dM_lowestOf_36 sM_1 q3.1 q3.2 ?_
      refine ax_istore dM_lowestOf_37 (by decide) rfl ?_
      refine ax_aloadn 1 dM_lowestOf_39 rfl rfl ?_
      refine ax_getr dM_lowestOf_40 fM_58 sM_0 rfl ?_
      refine ax_iloadn 4 dM_lowestOf_43 rfl rfl ?_
      obtain ⟨q4, h⟩ := h
      refine ax_iald dM_lowestOf_44 sM_17 q4.1 q4.2 ?_
      refine ax_iconst dM_lowestOf_45 (by decide) ?_
      refine ax_icmp_ne (tgt := 60) dM_lowestOf_46 (by decide) (fun c6 => ?_) (fun c6 => ?_)
      · replace h := h.1 c6
        refine ax_iloadn 3 dM_lowestOf_60 rfl rfl ?_
        refine ax_istoren dM_lowestOf_61 rfl (by decide) rfl ?_
        refine ax_iinc (j := 4) dM_lowestOf_62 rfl (by decide) (show ax_r _ from ⟨by omega, by omega⟩) rfl ?_
        refine ax_goto (tgt := 5) dM_lowestOf_65 (by decide) ?_
        exact ax_sub [3, 4, 1, 0] rfl h
      · replace h := h.2 c6
        refine ax_iload 0 dM_lowestOf_49 rfl ?_
        refine ax_iloadn 3 dM_lowestOf_51 rfl rfl ?_
        refine ax_icmp_ge (tgt := 60) dM_lowestOf_52 (by decide) (fun c5 => ?_) (fun c5 => ?_)
        · replace h := h.1 c5
          refine ax_iloadn 3 dM_lowestOf_60 rfl rfl ?_
          refine ax_istoren dM_lowestOf_61 rfl (by decide) rfl ?_
          refine ax_iinc (j := 4) dM_lowestOf_62 rfl (by decide) (show ax_r _ from ⟨by omega, by omega⟩) rfl ?_
          refine ax_goto (tgt := 5) dM_lowestOf_65 (by decide) ?_
          exact ax_sub [3, 4, 1, 0] rfl h
        · replace h := h.2 c5
          refine ax_iload 0 dM_lowestOf_55 rfl ?_
          refine ax_goto (tgt := 61) dM_lowestOf_57 (by decide) ?_
          refine ax_istoren dM_lowestOf_61 rfl (by decide) rfl ?_
          refine ax_iinc (j := 4) dM_lowestOf_62 rfl (by decide) (show ax_r _ from ⟨by omega, by omega⟩) rfl ?_
          refine ax_goto (tgt := 5) dM_lowestOf_65 (by decide) ?_
          exact ax_sub [3, 4, 1, 0] rfl h
    · replace h := h.2 c12
      refine ax_aloadn 0 dM_lowestOf_18 rfl rfl ?_
      refine ax_iloadn 3 dM_lowestOf_19 rfl rfl ?_
      refine ax_callV (dp2 := 0) (as := [.inl v3]) (st := []) dM_lowestOf_20 lM_142 sM_0 ⟨_, _, rfl⟩ rfl rfl (Nat.le_of_ble_eq_true rfl) (by decide) ?_
      refine ax_C_mono (fun r7 M8 h => ?_) h
      refine ax_goto (tgt := 37) dM_lowestOf_23 (by decide) ?_
      refine ax_istore dM_lowestOf_37 (by decide) rfl ?_
      refine ax_aloadn 1 dM_lowestOf_39 rfl rfl ?_
      refine ax_getr dM_lowestOf_40 fM_58 sM_0 rfl ?_
      refine ax_iloadn 4 dM_lowestOf_43 rfl rfl ?_
      obtain ⟨q9, h⟩ := h
      refine ax_iald dM_lowestOf_44 sM_17 q9.1 q9.2 ?_
      refine ax_iconst dM_lowestOf_45 (by decide) ?_
      refine ax_icmp_ne (tgt := 60) dM_lowestOf_46 (by decide) (fun c11 => ?_) (fun c11 => ?_)
      · replace h := h.1 c11
        refine ax_iloadn 3 dM_lowestOf_60 rfl rfl ?_
        refine ax_istoren dM_lowestOf_61 rfl (by decide) rfl ?_
        refine ax_iinc (j := 4) dM_lowestOf_62 rfl (by decide) (show ax_r _ from ⟨by omega, by omega⟩) rfl ?_
        refine ax_goto (tgt := 5) dM_lowestOf_65 (by decide) ?_
        exact ax_sub [3, 4, 1, 0] rfl h
      · replace h := h.2 c11
        refine ax_iload 0 dM_lowestOf_49 rfl ?_
        refine ax_iloadn 3 dM_lowestOf_51 rfl rfl ?_
        refine ax_icmp_ge (tgt := 60) dM_lowestOf_52 (by decide) (fun c10 => ?_) (fun c10 => ?_)
        · replace h := h.1 c10
          refine ax_iloadn 3 dM_lowestOf_60 rfl rfl ?_
          refine ax_istoren dM_lowestOf_61 rfl (by decide) rfl ?_
          refine ax_iinc (j := 4) dM_lowestOf_62 rfl (by decide) (show ax_r _ from ⟨by omega, by omega⟩) rfl ?_
          refine ax_goto (tgt := 5) dM_lowestOf_65 (by decide) ?_
          exact ax_sub [3, 4, 1, 0] rfl h
        · replace h := h.2 c10
          refine ax_iload 0 dM_lowestOf_55 rfl ?_
          refine ax_goto (tgt := 61) dM_lowestOf_57 (by decide) ?_
          refine ax_istoren dM_lowestOf_61 rfl (by decide) rfl ?_
          refine ax_iinc (j := 4) dM_lowestOf_62 rfl (by decide) (show ax_r _ from ⟨by omega, by omega⟩) rfl ?_
          refine ax_goto (tgt := 5) dM_lowestOf_65 (by decide) ?_
          exact ax_sub [3, 4, 1, 0] rfl h
theorem eM_lowestOf {P : Int → ax_Mem → Prop} {M : ax_Mem} {a1 : Int} (h : jM_lowestOf P 5 [(0, .inr (.inr 0)), (1, .inl a1), (2, .inl 1000000), (3, .inl 0)] [] M) : kM_lowestOf [.inr (.inr 0), .inl a1] M P := ax_ofJ (by decide) (Nat.le_of_ble_eq_true rfl) (gM_lowestOf_0 h)
-- M_getUp dp 2
theorem gM_getUp_0 {P : Int → ax_Mem → Prop} {M : ax_Mem} {a1 : Int} (h : kM_lowestOf [.inr (.inr 0), .inl a1] M (fun r1 M2 => jM_getUp P 8 [(0, .inr (.inr 0)), (1, .inl a1), (2, .inl r1), (3, .inl 0)] [] M2)) : jM_getUp P 0 [(0, .inr (.inr 0)), (1, .inl a1)] [] M := by
  refine ax_aloadn 0 dM_getUp_0 rfl rfl ?_
  refine ax_iloadn 1 dM_getUp_1 rfl rfl ?_
  refine ax_callV (dp2 := 1) (as := [.inl a1]) (st := []) dM_getUp_2 lM_261 sM_0 ⟨_, _, rfl⟩ rfl rfl (Nat.le_of_ble_eq_true rfl) (by decide) ?_
  refine ax_C_mono (fun r1 M2 h => ?_) h
  refine ax_istoren dM_getUp_5 rfl (by decide) rfl ?_
  refine ax_iconst dM_getUp_6 (by decide) ?_
  refine ax_istoren dM_getUp_7 rfl (by decide) rfl ?_
  exact ax_sub [2, 3, 1, 0] rfl h
theorem gM_getUp_8 {P : Int → ax_Mem → Prop} {M : ax_Mem} {v1 v2 v3 : Int} (h : ((M 0 0) ≤ v3 → P 0 M) ∧ (¬ (M 0 0) ≤ v3 → (0 ≤ v3 ∧ v3 < 12) ∧ (¬ (M 8 (v3.toNat)) = (-1) → jM_getUp P 189 [(0, .inr (.inr 0)), (1, .inl v1), (2, .inl v2), (3, .inl v3)] [] M) ∧ ((M 8 (v3.toNat)) = (-1) → jM_getUp P 32 [(0, .inr (.inr 0)), (1, .inl v1), (2, .inl v2), (3, .inl v3), (4, .inl (-1)), (5, .inl 0)] [] M))) : jM_getUp P 8 [(0, .inr (.inr 0)), (1, .inl v1), (2, .inl v2), (3, .inl v3)] [] M := by
  refine ax_iloadn 3 dM_getUp_8 rfl rfl ?_
  refine ax_aloadn 0 dM_getUp_9 rfl rfl ?_
  refine ax_geti dM_getUp_10 fM_80 sM_0 rfl ?_
  refine ax_icmp_ge (tgt := 195) dM_getUp_13 (by decide) (fun c3 => ?_) (fun c3 => ?_)
  · replace h := h.1 c3
    exact ax_vret dM_getUp_195 h
  · replace h := h.2 c3
    refine ax_aloadn 0 dM_getUp_16 rfl rfl ?_
    refine ax_getr dM_getUp_17 fM_31 sM_0 rfl ?_
    refine ax_iloadn 3 dM_getUp_20 rfl rfl ?_
    obtain ⟨q1, h⟩ := h
    refine ax_iald dM_getUp_21 sM_8 q1.1 q1.2 ?_
    refine ax_iconst dM_getUp_22 (by decide) ?_
    refine ax_icmp_ne (tgt := 189) dM_getUp_23 (by decide) (fun c2 => ?_) (fun c2 => ?_)
    · replace h := h.1 c2
      exact h
    · replace h := h.2 c2
      refine ax_iconst dM_getUp_26 (by decide) ?_
      refine ax_istore dM_getUp_27 (by decide) rfl ?_
      refine ax_iconst dM_getUp_29 (by decide) ?_
      refine ax_istore dM_getUp_30 (by decide) rfl ?_
      exact ax_sub [2, 3, 4, 5, 1, 0] rfl h
theorem gM_getUp_189 {P : Int → ax_Mem → Prop} {M : ax_Mem} {v1 v2 v3 : Int} (h : (-2147483648 ≤ (v3 + 1) ∧ (v3 + 1) < 2147483648) ∧ jM_getUp P 8 [(0, .inr (.inr 0)), (1, .inl v1), (2, .inl v2), (3, .inl (v3 + 1))] [] M) : jM_getUp P 189 [(0, .inr (.inr 0)), (1, .inl v1), (2, .inl v2), (3, .inl v3)] [] M := by
  obtain ⟨q1, h⟩ := h
  refine ax_iinc (j := 3) dM_getUp_189 rfl (by decide) q1 rfl ?_
  refine ax_goto (tgt := 8) dM_getUp_192 (by decide) ?_
  exact ax_sub [1, 2, 3, 0] rfl h
theorem gM_getUp_32 {P : Int → ax_Mem → Prop} {M : ax_Mem} {v1 v2 v3 v4 v5 : Int} (h : ((M 0 4) ≤ v5 → (v4 = (-1) → jM_getUp P 189 [(0, .inr (.inr 0)), (1, .inl v1), (2, .inl v2), (3, .inl v3)] [] M) ∧ (¬ v4 = (-1) → (0 ≤ v4 ∧ v4 < 12) ∧ (0 ≤ v3 ∧ v3 < 12) ∧ (-2147483648 ≤ (2 * (M 1 (((7 * v4) + 5).toNat))) ∧ (2 * (M 1 (((7 * v4) + 5).toNat))) < 2147483648) ∧ jM_getUp P 189 [(0, .inr (.inr 0)), (1, .inl v1), (2, .inl v2), (3, .inl v3)] [] (ax_u (ax_u (ax_u M 17 (v4.toNat) 0) 8 (v3.toNat) v4) 9 (v4.toNat) (2 * (M 1 (((7 * v4) + 5).toNat)))))) ∧ (¬ (M 0 4) ≤ v5 → (-2147483648 ≤ (7 * v5) ∧ (7 * v5) < 2147483648) ∧ (-2147483648 ≤ ((7 * v5) + 2) ∧ ((7 * v5) + 2) < 2147483648) ∧ (0 ≤ ((7 * v5) + 2) ∧ ((7 * v5) + 2) < 84) ∧ (¬ (M 1 (((7 * v5) + 2).toNat)) = v3 → jM_getUp P 72 [(0, .inr (.inr 0)), (1, .inl v1), (2, .inl v2), (3, .inl v3), (4, .inl v4), (5, .inl v5)] [] M) ∧ ((M 1 (((7 * v5) + 2).toNat)) = v3 → kM_mayGo [.inr (.inr 0), .inl v5, .inl v1, .inl v2] M (fun r8 M9 => (r8 = 0 → jM_getUp P 72 [(0, .inr (.inr 0)), (1, .inl v1), (2, .inl v2), (3, .inl v3), (4, .inl v4), (5, .inl v5)] [] M9) ∧ (¬ r8 = 0 → jM_getUp P 73 [(0, .inr (.inr 0)), (1, .inl v1), (2, .inl v2), (3, .inl v3), (4, .inl v4), (5, .inl v5)] [.inl 1] M9))))) : jM_getUp P 32 [(0, .inr (.inr 0)), (1, .inl v1), (2, .inl v2), (3, .inl v3), (4, .inl v4), (5, .inl v5)] [] M := by
  refine ax_iload 5 dM_getUp_32 rfl ?_
  refine ax_aloadn 0 dM_getUp_34 rfl rfl ?_
  refine ax_geti dM_getUp_35 fM_89 sM_0 rfl ?_
  refine ax_icmp_ge (tgt := 146) dM_getUp_38 (by decide) (fun c12 => ?_) (fun c12 => ?_)
  · replace h := h.1 c12
    refine ax_iload 4 dM_getUp_146 rfl ?_
    refine ax_iconst dM_getUp_148 (by decide) ?_
    refine ax_icmp_eq (tgt := 189) dM_getUp_149 (by decide) (fun c4 => ?_) (fun c4 => ?_)
    · replace h := h.1 c4
      exact ax_sub [0, 1, 2, 3] rfl h
    · replace h := h.2 c4
      refine ax_aloadn 0 dM_getUp_152 rfl rfl ?_
      refine ax_getr dM_getUp_153 fM_58 sM_0 rfl ?_
      refine ax_iload 4 dM_getUp_156 rfl ?_
      refine ax_iconst dM_getUp_158 (by decide) ?_
      obtain ⟨q1, h⟩ := h
      refine ax_iast dM_getUp_159 sM_17 q1.1 q1.2 ?_
      refine ax_aloadn 0 dM_getUp_160 rfl rfl ?_
      refine ax_getr dM_getUp_161 fM_31 sM_0 rfl ?_
      refine ax_iloadn 3 dM_getUp_164 rfl rfl ?_
      refine ax_iload 4 dM_getUp_165 rfl ?_
      obtain ⟨q2, h⟩ := h
      refine ax_iast dM_getUp_167 sM_8 q2.1 q2.2 ?_
      refine ax_aloadn 0 dM_getUp_168 rfl rfl ?_
      refine ax_getr dM_getUp_169 fM_34 sM_0 rfl ?_
      refine ax_iload 4 dM_getUp_172 rfl ?_
      refine ax_iconst dM_getUp_174 (by decide) ?_
      refine ax_aloadn 0 dM_getUp_175 rfl rfl ?_
      refine ax_getr dM_getUp_176 fM_7 sM_0 rfl ?_
      refine ax_bipush dM_getUp_179 (by decide) ?_
      refine ax_iload 4 dM_getUp_181 rfl ?_
      refine ax_imul dM_getUp_183 (show ax_r _ from ⟨by omega, by omega⟩) ?_
      refine ax_iconst dM_getUp_184 (by decide) ?_
      refine ax_iadd dM_getUp_185 (show ax_r _ from ⟨by omega, by omega⟩) ?_
      refine ax_iald dM_getUp_186 sM_1 (by omega) (by omega) ?_
      refine ax_top (x' := M 1 (((7 * v4) + 5).toNat)) (by first | rfl | exact ax_u_at _ _ _ _) ?_
      obtain ⟨q3, h⟩ := h
      refine ax_imul dM_getUp_187 q3 ?_
      refine ax_iast dM_getUp_188 sM_9 (by omega) (by omega) ?_
      exact ax_sub [0, 1, 2, 3] rfl h
  · replace h := h.2 c12
    refine ax_aloadn 0 dM_getUp_41 rfl rfl ?_
    refine ax_getr dM_getUp_42 fM_7 sM_0 rfl ?_
    refine ax_bipush dM_getUp_45 (by decide) ?_
    refine ax_iload 5 dM_getUp_47 rfl ?_
    obtain ⟨q5, h⟩ := h
    refine ax_imul dM_getUp_49 q5 ?_
    refine ax_iconst dM_getUp_50 (by decide) ?_
    obtain ⟨q6, h⟩ := h
    refine ax_iadd dM_getUp_51 q6 ?_
    obtain ⟨q7, h⟩ := h
    refine ax_iald dM_getUp_52 sM_1 q7.1 q7.2 ?_
    refine ax_iloadn 3 dM_getUp_53 rfl rfl ?_
    refine ax_icmp_ne (tgt := 72) dM_getUp_54 (by decide) (fun c11 => ?_) (fun c11 => ?_)
    · replace h := h.1 c11
      exact h
    · replace h := h.2 c11
      refine ax_aloadn 0 dM_getUp_57 rfl rfl ?_
      refine ax_iload 5 dM_getUp_58 rfl ?_
      refine ax_iloadn 1 dM_getUp_60 rfl rfl ?_
      refine ax_iloadn 2 dM_getUp_61 rfl rfl ?_
      refine ax_callV (dp2 := 1) (as := [.inl v5, .inl v1, .inl v2]) (st := []) dM_getUp_62 lM_264 sM_0 ⟨_, _, rfl⟩ rfl rfl (Nat.le_of_ble_eq_true rfl) (by decide) ?_
      refine ax_C_mono (fun r8 M9 h => ?_) h
      refine ax_if_eq (tgt := 72) dM_getUp_65 (by decide) (fun c10 => ?_) (fun c10 => ?_)
      · replace h := h.1 c10
        exact h
      · replace h := h.2 c10
        refine ax_iconst dM_getUp_68 (by decide) ?_
        refine ax_goto (tgt := 73) dM_getUp_69 (by decide) ?_
        exact h
theorem gM_getUp_72 {P : Int → ax_Mem → Prop} {M : ax_Mem} {v1 v2 v3 v4 v5 : Int} (h : jM_getUp P 73 [(0, .inr (.inr 0)), (1, .inl v1), (2, .inl v2), (3, .inl v3), (4, .inl v4), (5, .inl v5)] [.inl 0] M) : jM_getUp P 72 [(0, .inr (.inr 0)), (1, .inl v1), (2, .inl v2), (3, .inl v3), (4, .inl v4), (5, .inl v5)] [] M := by
  refine ax_iconst dM_getUp_72 (by decide) ?_
  exact h
theorem gM_getUp_73 {P : Int → ax_Mem → Prop} {M : ax_Mem} {v1 v2 v3 v4 v5 s0 : Int} (h : (v4 = (-1) → jM_getUp P 114 [(0, .inr (.inr 0)), (1, .inl v1), (2, .inl v2), (3, .inl v3), (4, .inl v4), (5, .inl v5), (6, .inl s0)] [] M) ∧ (¬ v4 = (-1) → kM_depthOf [.inr (.inr 0), .inl v5] M (fun r1 M2 => (-2147483648 ≤ (2 * r1) ∧ (2 * r1) < 2147483648) ∧ kM_sideOf [.inr (.inr 0), .inl v5] M2 (fun r4 M5 => (-2147483648 ≤ ((2 * r1) + r4) ∧ ((2 * r1) + r4) < 2147483648) ∧ kM_depthOf [.inr (.inr 0), .inl v4] M5 (fun r7 M8 => (-2147483648 ≤ (2 * r7) ∧ (2 * r7) < 2147483648) ∧ kM_sideOf [.inr (.inr 0), .inl v4] M8 (fun r10 M11 => (-2147483648 ≤ ((2 * r7) + r10) ∧ ((2 * r7) + r10) < 2147483648) ∧ (((2 * r7) + r10) ≤ ((2 * r1) + r4) → jM_getUp P 119 [(0, .inr (.inr 0)), (1, .inl v1), (2, .inl v2), (3, .inl v3), (4, .inl v4), (5, .inl v5), (6, .inl s0)] [.inl 0] M11) ∧ (¬ ((2 * r7) + r10) ≤ ((2 * r1) + r4) → jM_getUp P 114 [(0, .inr (.inr 0)), (1, .inl v1), (2, .inl v2), (3, .inl v3), (4, .inl v4), (5, .inl v5), (6, .inl s0)] [] M11))))))) : jM_getUp P 73 [(0, .inr (.inr 0)), (1, .inl v1), (2, .inl v2), (3, .inl v3), (4, .inl v4), (5, .inl v5)] [.inl s0] M := by
  refine ax_istore dM_getUp_73 (by decide) rfl ?_
  refine ax_iload 5 dM_getUp_75 rfl ?_
  refine ax_iconst dM_getUp_77 (by decide) ?_
  refine ax_icmp_eq (tgt := 114) dM_getUp_78 (by decide) (fun c14 => ?_) (fun c14 => ?_)
  · replace h := h.1 c14
    exact ax_sub [1, 2, 3, 4, 5, 6, 0] rfl h
  · replace h := h.2 c14
    refine ax_iconst dM_getUp_81 (by decide) ?_
    refine ax_aloadn 1 dM_getUp_82 rfl rfl ?_
    refine ax_iload 6 dM_getUp_83 rfl ?_
    refine ax_callV (dp2 := 0) (as := [.inl v5]) (st := [.inl 2]) dM_getUp_85 lM_142 sM_0 ⟨_, _, rfl⟩ rfl rfl (Nat.le_of_ble_eq_true rfl) (by decide) ?_
    refine ax_C_mono (fun r1 M2 h => ?_) h
    obtain ⟨q3, h⟩ := h
    refine ax_imul dM_getUp_88 q3 ?_
    refine ax_aloadn 1 dM_getUp_89 rfl rfl ?_
    refine ax_iload 6 dM_getUp_90 rfl ?_
    refine ax_callV (dp2 := 0) (as := [.inl v5]) (st := [.inl (2 * r1)]) dM_getUp_92 lM_146 sM_0 ⟨_, _, rfl⟩ rfl rfl (Nat.le_of_ble_eq_true rfl) (by decide) ?_
    refine ax_C_mono (fun r4 M5 h => ?_) h
    obtain ⟨q6, h⟩ := h
    refine ax_iadd dM_getUp_95 q6 ?_
    refine ax_iconst dM_getUp_96 (by decide) ?_
    refine ax_aloadn 1 dM_getUp_97 rfl rfl ?_
    refine ax_iload 5 dM_getUp_98 rfl ?_
    refine ax_callV (dp2 := 0) (as := [.inl v4]) (st := [.inl 2, .inl ((2 * r1) + r4)]) dM_getUp_100 lM_142 sM_0 ⟨_, _, rfl⟩ rfl rfl (Nat.le_of_ble_eq_true rfl) (by decide) ?_
    refine ax_C_mono (fun r7 M8 h => ?_) h
    obtain ⟨q9, h⟩ := h
    refine ax_imul dM_getUp_103 q9 ?_
    refine ax_aloadn 1 dM_getUp_104 rfl rfl ?_
    refine ax_iload 5 dM_getUp_105 rfl ?_
    refine ax_callV (dp2 := 0) (as := [.inl v4]) (st := [.inl (2 * r7), .inl ((2 * r1) + r4)]) dM_getUp_107 lM_146 sM_0 ⟨_, _, rfl⟩ rfl rfl (Nat.le_of_ble_eq_true rfl) (by decide) ?_
    refine ax_C_mono (fun r10 M11 h => ?_) h
    obtain ⟨q12, h⟩ := h
    refine ax_iadd dM_getUp_110 q12 ?_
    refine ax_icmp_ge (tgt := 118) dM_getUp_111 (by decide) (fun c13 => ?_) (fun c13 => ?_)
    · replace h := h.1 c13
      refine ax_iconst dM_getUp_118 (by decide) ?_
      exact ax_sub [1, 2, 3, 4, 5, 6, 0] rfl h
    · replace h := h.2 c13
      exact ax_sub [1, 2, 3, 4, 5, 6, 0] rfl h
theorem gM_getUp_114 {P : Int → ax_Mem → Prop} {M : ax_Mem} {v1 v2 v3 v4 v5 v6 : Int} (h : jM_getUp P 119 [(0, .inr (.inr 0)), (1, .inl v1), (2, .inl v2), (3, .inl v3), (4, .inl v4), (5, .inl v5), (6, .inl v6)] [.inl 1] M) : jM_getUp P 114 [(0, .inr (.inr 0)), (1, .inl v1), (2, .inl v2), (3, .inl v3), (4, .inl v4), (5, .inl v5), (6, .inl v6)] [] M := by
  refine ax_iconst dM_getUp_114 (by decide) ?_
  refine ax_goto (tgt := 119) dM_getUp_115 (by decide) ?_
  exact h
theorem gM_getUp_119 {P : Int → ax_Mem → Prop} {M : ax_Mem} {v1 v2 v3 v4 v5 v6 s0 : Int} (h : (v6 = 0 → jM_getUp P 136 [(0, .inr (.inr 0)), (1, .inl v1), (2, .inl v2), (3, .inl v3), (4, .inl v4), (5, .inl v5)] [] M) ∧ (¬ v6 = 0 → (s0 = 0 → jM_getUp P 136 [(0, .inr (.inr 0)), (1, .inl v1), (2, .inl v2), (3, .inl v3), (4, .inl v4), (5, .inl v5)] [] M) ∧ (¬ s0 = 0 → jM_getUp P 138 [(0, .inr (.inr 0)), (1, .inl v1), (2, .inl v2), (3, .inl v3), (5, .inl v5)] [.inl v5] M))) : jM_getUp P 119 [(0, .inr (.inr 0)), (1, .inl v1), (2, .inl v2), (3, .inl v3), (4, .inl v4), (5, .inl v5), (6, .inl v6)] [.inl s0] M := by
  refine ax_istore dM_getUp_119 (by decide) rfl ?_
  refine ax_iload 7 dM_getUp_121 rfl ?_
  refine ax_if_eq (tgt := 136) dM_getUp_123 (by decide) (fun c2 => ?_) (fun c2 => ?_)
  · replace h := h.1 c2
    exact ax_sub [1, 2, 3, 4, 5, 6] rfl h
  · replace h := h.2 c2
    refine ax_iload 0 dM_getUp_126 rfl ?_
    refine ax_if_eq (tgt := 136) dM_getUp_128 (by decide) (fun c1 => ?_) (fun c1 => ?_)
    · replace h := h.1 c1
      exact ax_sub [1, 2, 3, 4, 5, 6] rfl h
    · replace h := h.2 c1
      refine ax_iload 6 dM_getUp_131 rfl ?_
      refine ax_goto (tgt := 138) dM_getUp_133 (by decide) ?_
      exact ax_sub [1, 2, 3, 4, 6] rfl h
theorem gM_getUp_136 {P : Int → ax_Mem → Prop} {M : ax_Mem} {v1 v2 v3 v4 v5 : Int} (h : jM_getUp P 138 [(0, .inr (.inr 0)), (1, .inl v1), (2, .inl v2), (3, .inl v3), (5, .inl v5)] [.inl v4] M) : jM_getUp P 136 [(0, .inr (.inr 0)), (1, .inl v1), (2, .inl v2), (3, .inl v3), (4, .inl v4), (5, .inl v5)] [] M := by
  refine ax_iload 4 dM_getUp_136 rfl ?_
  exact ax_sub [0, 1, 2, 3, 5] rfl h
theorem gM_getUp_138 {P : Int → ax_Mem → Prop} {M : ax_Mem} {v1 v2 v3 v5 s0 : Int} (h : (-2147483648 ≤ (v5 + 1) ∧ (v5 + 1) < 2147483648) ∧ jM_getUp P 32 [(0, .inr (.inr 0)), (1, .inl v1), (2, .inl v2), (3, .inl v3), (4, .inl s0), (5, .inl (v5 + 1))] [] M) : jM_getUp P 138 [(0, .inr (.inr 0)), (1, .inl v1), (2, .inl v2), (3, .inl v3), (5, .inl v5)] [.inl s0] M := by
  refine ax_istore dM_getUp_138 (by decide) rfl ?_
  obtain ⟨q1, h⟩ := h
  refine ax_iinc (j := 5) dM_getUp_140 rfl (by decide) q1 rfl ?_
  refine ax_goto (tgt := 32) dM_getUp_143 (by decide) ?_
  exact ax_sub [2, 3, 4, 5, 1, 0] rfl h
theorem eM_getUp {P : Int → ax_Mem → Prop} {M : ax_Mem} {a1 : Int} (h : kM_lowestOf [.inr (.inr 0), .inl a1] M (fun r1 M2 => jM_getUp P 8 [(0, .inr (.inr 0)), (1, .inl a1), (2, .inl r1), (3, .inl 0)] [] M2)) : kM_getUp [.inr (.inr 0), .inl a1] M P := ax_ofJ (by decide) (Nat.le_of_ble_eq_true rfl) (gM_getUp_0 h)
-- M_goOut dp 3
theorem gM_goOut_0 {P : Int → ax_Mem → Prop} {M : ax_Mem} {a1 : Int} (h : jM_goOut P 7 [(0, .inr (.inr 0)), (1, .inl a1), (2, .inl (M 0 4)), (3, .inl 0)] [] M) : jM_goOut P 0 [(0, .inr (.inr 0)), (1, .inl a1)] [] M := by
  refine ax_aloadn 0 dM_goOut_0 rfl rfl ?_
  refine ax_geti dM_goOut_1 fM_89 sM_0 rfl ?_
  refine ax_istoren dM_goOut_4 rfl (by decide) rfl ?_
  refine ax_iconst dM_goOut_5 (by decide) ?_
  refine ax_istoren dM_goOut_6 rfl (by decide) rfl ?_
  exact ax_sub [2, 3, 1, 0] rfl h
theorem gM_goOut_7 {P : Int → ax_Mem → Prop} {M : ax_Mem} {v1 v2 v3 : Int} (h : (12 ≤ v3 → jM_goOut P 49 [(0, .inr (.inr 0)), (1, .inl v1), (2, .inl v2), (3, .inl 0)] [] M) ∧ (¬ 12 ≤ v3 → (0 ≤ v3 ∧ v3 < 12) ∧ jM_goOut P 7 [(0, .inr (.inr 0)), (1, .inl v1), (2, .inl v2), (3, .inl (v3 + 1))] [] (ax_u (ax_u (ax_u (ax_u M 8 (v3.toNat) (-1)) 9 (v3.toNat) 0) 17 (v3.toNat) 1) 16 (v3.toNat) 0))) : jM_goOut P 7 [(0, .inr (.inr 0)), (1, .inl v1), (2, .inl v2), (3, .inl v3)] [] M := by
  refine ax_iloadn 3 dM_goOut_7 rfl rfl ?_
  refine ax_bipush dM_goOut_8 (by decide) ?_
  refine ax_icmp_ge (tgt := 47) dM_goOut_10 (by decide) (fun c2 => ?_) (fun c2 => ?_)
  · replace h := h.1 c2
    refine ax_iconst dM_goOut_47 (by decide) ?_
    refine ax_istoren dM_goOut_48 rfl (by decide) rfl ?_
    exact ax_sub [1, 2, 3, 0] rfl h
  · replace h := h.2 c2
    refine ax_aloadn 0 dM_goOut_13 rfl rfl ?_
    refine ax_getr dM_goOut_14 fM_31 sM_0 rfl ?_
    refine ax_iloadn 3 dM_goOut_17 rfl rfl ?_
    refine ax_iconst dM_goOut_18 (by decide) ?_
    obtain ⟨q1, h⟩ := h
    refine ax_iast dM_goOut_19 sM_8 q1.1 q1.2 ?_
    refine ax_aloadn 0 dM_goOut_20 rfl rfl ?_
    refine ax_getr dM_goOut_21 fM_34 sM_0 rfl ?_
    refine ax_iloadn 3 dM_goOut_24 rfl rfl ?_
    refine ax_iconst dM_goOut_25 (by decide) ?_
    refine ax_iast dM_goOut_26 sM_9 (by omega) (by omega) ?_
    refine ax_aloadn 0 dM_goOut_27 rfl rfl ?_
    refine ax_getr dM_goOut_28 fM_58 sM_0 rfl ?_
    refine ax_iloadn 3 dM_goOut_31 rfl rfl ?_
    refine ax_iconst dM_goOut_32 (by decide) ?_
    refine ax_iast dM_goOut_33 sM_17 (by omega) (by omega) ?_
    refine ax_aloadn 0 dM_goOut_34 rfl rfl ?_
    refine ax_getr dM_goOut_35 fM_55 sM_0 rfl ?_
    refine ax_iloadn 3 dM_goOut_38 rfl rfl ?_
    refine ax_iconst dM_goOut_39 (by decide) ?_
    refine ax_iast dM_goOut_40 sM_16 (by omega) (by omega) ?_
    refine ax_iinc (j := 3) dM_goOut_41 rfl (by decide) (show ax_r _ from ⟨by omega, by omega⟩) rfl ?_
    refine ax_goto (tgt := 7) dM_goOut_44 (by decide) ?_
    exact ax_sub [1, 2, 3, 0] rfl h
theorem gM_goOut_49 {P : Int → ax_Mem → Prop} {M : ax_Mem} {v1 v2 v3 : Int} (h : (v2 ≤ 0 → P v3 M) ∧ (¬ v2 ≤ 0 → (-2147483648 ≤ (v3 + 1) ∧ (v3 + 1) < 2147483648) ∧ jM_goOut P 59 [(0, .inr (.inr 0)), (1, .inl v1), (2, .inl v2), (3, .inl (v3 + 1)), (4, .inl 0)] [] M)) : jM_goOut P 49 [(0, .inr (.inr 0)), (1, .inl v1), (2, .inl v2), (3, .inl v3)] [] M := by
  refine ax_iloadn 2 dM_goOut_49 rfl rfl ?_
  refine ax_if_le (tgt := 191) dM_goOut_50 (by decide) (fun c2 => ?_) (fun c2 => ?_)
  · replace h := h.1 c2
    refine ax_iloadn 3 dM_goOut_191 rfl rfl ?_
    exact ax_iret dM_goOut_192 h
  · replace h := h.2 c2
    obtain ⟨q1, h⟩ := h
    refine ax_iinc (j := 3) dM_goOut_53 rfl (by decide) q1 rfl ?_
    refine ax_iconst dM_goOut_56 (by decide) ?_
    refine ax_istore dM_goOut_57 (by decide) rfl ?_
    exact ax_sub [2, 3, 4, 1, 0] rfl h
theorem gM_goOut_59 {P : Int → ax_Mem → Prop} {M : ax_Mem} {v1 v2 v3 v4 : Int} (h : ((M 0 0) ≤ v4 → kM_getUp [.inr (.inr 0), .inl v1] M (fun _ M2 => jM_goOut P 49 [(0, .inr (.inr 0)), (1, .inl v1), (2, .inl v2), (3, .inl v3)] [] M2)) ∧ (¬ (M 0 0) ≤ v4 → (0 ≤ v4 ∧ v4 < 12) ∧ ((M 8 (v4.toNat)) = (-1) → jM_goOut P 107 [(0, .inr (.inr 0)), (1, .inl v1), (2, .inl v2), (3, .inl v3), (4, .inl v4), (5, .inl (M 8 (v4.toNat)))] [] M) ∧ (¬ (M 8 (v4.toNat)) = (-1) → (0 ≤ (M 8 (v4.toNat)) ∧ (M 8 (v4.toNat)) < 12) ∧ ((M 9 ((M 8 (v4.toNat)).toNat)) ≤ 0 → jM_goOut P 107 [(0, .inr (.inr 0)), (1, .inl v1), (2, .inl v2), (3, .inl v3), (4, .inl v4), (5, .inl (M 8 (v4.toNat)))] [] M) ∧ (¬ (M 9 ((M 8 (v4.toNat)).toNat)) ≤ 0 → (-2147483648 ≤ ((M 9 ((M 8 (v4.toNat)).toNat)) - 1) ∧ ((M 9 ((M 8 (v4.toNat)).toNat)) - 1) < 2147483648) ∧ jM_goOut P 177 [(0, .inr (.inr 0)), (1, .inl v1), (2, .inl v2), (3, .inl v3), (4, .inl v4)] [] (ax_u M 9 ((M 8 (v4.toNat)).toNat) ((M 9 ((M 8 (v4.toNat)).toNat)) - 1)))))) : jM_goOut P 59 [(0, .inr (.inr 0)), (1, .inl v1), (2, .inl v2), (3, .inl v3), (4, .inl v4)] [] M := by
  refine ax_iload 4 dM_goOut_59 rfl ?_
  refine ax_aloadn 0 dM_goOut_61 rfl rfl ?_
  refine ax_geti dM_goOut_62 fM_80 sM_0 rfl ?_
  refine ax_icmp_ge (tgt := 183) dM_goOut_65 (by decide) (fun c8 => ?_) (fun c8 => ?_)
  · replace h := h.1 c8
    refine ax_aloadn 0 dM_goOut_183 rfl rfl ?_
    refine ax_iloadn 1 dM_goOut_184 rfl rfl ?_
    refine ax_callV (dp2 := 2) (as := [.inl v1]) (st := []) dM_goOut_185 lM_267 sM_0 ⟨_, _, rfl⟩ rfl rfl (Nat.le_of_ble_eq_true rfl) (by decide) ?_
    refine ax_C_mono (fun _ M2 h => ?_) h
    refine ax_goto (tgt := 49) dM_goOut_188 (by decide) ?_
    exact ax_sub [0, 1, 2, 3] rfl h
  · replace h := h.2 c8
    refine ax_aloadn 0 dM_goOut_68 rfl rfl ?_
    refine ax_getr dM_goOut_69 fM_31 sM_0 rfl ?_
    refine ax_iload 4 dM_goOut_72 rfl ?_
    obtain ⟨q3, h⟩ := h
    refine ax_iald dM_goOut_74 sM_8 q3.1 q3.2 ?_
    refine ax_istore dM_goOut_75 (by decide) rfl ?_
    refine ax_iload 0 dM_goOut_77 rfl ?_
    refine ax_iconst dM_goOut_79 (by decide) ?_
    refine ax_icmp_eq (tgt := 107) dM_goOut_80 (by decide) (fun c7 => ?_) (fun c7 => ?_)
    · replace h := h.1 c7
      exact ax_sub [1, 2, 3, 4, 5, 0] rfl h
    · replace h := h.2 c7
      refine ax_aloadn 1 dM_goOut_83 rfl rfl ?_
      refine ax_getr dM_goOut_84 fM_34 sM_0 rfl ?_
      refine ax_iload 0 dM_goOut_87 rfl ?_
      obtain ⟨q4, h⟩ := h
      refine ax_iald dM_goOut_89 sM_9 q4.1 q4.2 ?_
      refine ax_if_le (tgt := 107) dM_goOut_90 (by decide) (fun c6 => ?_) (fun c6 => ?_)
      · replace h := h.1 c6
        exact ax_sub [1, 2, 3, 4, 5, 0] rfl h
      · replace h := h.2 c6
        refine ax_aloadn 1 dM_goOut_93 rfl rfl ?_
        refine ax_getr dM_goOut_94 fM_34 sM_0 rfl ?_
        refine ax_iload 0 dM_goOut_97 rfl ?_
        refine ax_dup2 dM_goOut_99 rfl rfl ?_
        refine ax_iald dM_goOut_100 sM_9 q4.1 q4.2 ?_
        refine ax_iconst dM_goOut_101 (by decide) ?_
        obtain ⟨q5, h⟩ := h
        refine ax_isub dM_goOut_102 q5 ?_
        refine ax_iast dM_goOut_103 sM_9 (by omega) (by omega) ?_
        refine ax_goto (tgt := 177) dM_goOut_104 (by decide) ?_
        exact ax_sub [1, 2, 3, 4, 5] rfl h
theorem gM_goOut_107 {P : Int → ax_Mem → Prop} {M : ax_Mem} {v1 v2 v3 v4 v5 : Int} (h : (v5 = (-1) → jM_goOut P 139 [(0, .inr (.inr 0)), (1, .inl v1), (2, .inl v2), (3, .inl v3), (4, .inl v4), (5, .inl v5)] [] M) ∧ (¬ v5 = (-1) → (¬ v4 = 0 → jM_goOut P 139 [(0, .inr (.inr 0)), (1, .inl v1), (2, .inl v2), (3, .inl v3), (4, .inl v4), (5, .inl v5)] [] M) ∧ (v4 = 0 → (0 ≤ v5 ∧ v5 < 12) ∧ (-2147483648 ≤ (v2 + (-1)) ∧ (v2 + (-1)) < 2147483648) ∧ jM_goOut P 177 [(0, .inr (.inr 0)), (1, .inl v1), (2, .inl (v2 + (-1))), (3, .inl v3), (4, .inl v4)] [] (ax_u (ax_u M 8 0 (-1)) 16 (v5.toNat) v3)))) : jM_goOut P 107 [(0, .inr (.inr 0)), (1, .inl v1), (2, .inl v2), (3, .inl v3), (4, .inl v4), (5, .inl v5)] [] M := by
  refine ax_iload 5 dM_goOut_107 rfl ?_
  refine ax_iconst dM_goOut_109 (by decide) ?_
  refine ax_icmp_eq (tgt := 139) dM_goOut_110 (by decide) (fun c4 => ?_) (fun c4 => ?_)
  · replace h := h.1 c4
    exact h
  · replace h := h.2 c4
    refine ax_iload 4 dM_goOut_113 rfl ?_
    refine ax_if_ne (tgt := 139) dM_goOut_115 (by decide) (fun c3 => ?_) (fun c3 => ?_)
    · replace h := h.1 c3
      exact h
    · replace h := h.2 c3
      refine ax_aloadn 0 dM_goOut_118 rfl rfl ?_
      refine ax_getr dM_goOut_119 fM_31 sM_0 rfl ?_
      refine ax_iconst dM_goOut_122 (by decide) ?_
      refine ax_iconst dM_goOut_123 (by decide) ?_
      refine ax_iast dM_goOut_124 sM_8 (by decide) (by decide) ?_
      refine ax_aloadn 0 dM_goOut_125 rfl rfl ?_
      refine ax_getr dM_goOut_126 fM_55 sM_0 rfl ?_
      refine ax_iload 5 dM_goOut_129 rfl ?_
      refine ax_iloadn 3 dM_goOut_131 rfl rfl ?_
      obtain ⟨q1, h⟩ := h
      refine ax_iast dM_goOut_132 sM_16 q1.1 q1.2 ?_
      obtain ⟨q2, h⟩ := h
      refine ax_iinc (j := 2) dM_goOut_133 rfl (by decide) q2 rfl ?_
      refine ax_goto (tgt := 177) dM_goOut_136 (by decide) ?_
      exact ax_sub [1, 2, 0, 3, 4] rfl h
theorem gM_goOut_177 {P : Int → ax_Mem → Prop} {M : ax_Mem} {v1 v2 v3 v4 : Int} (h : (-2147483648 ≤ (v4 + 1) ∧ (v4 + 1) < 2147483648) ∧ jM_goOut P 59 [(0, .inr (.inr 0)), (1, .inl v1), (2, .inl v2), (3, .inl v3), (4, .inl (v4 + 1))] [] M) : jM_goOut P 177 [(0, .inr (.inr 0)), (1, .inl v1), (2, .inl v2), (3, .inl v3), (4, .inl v4)] [] M := by
  obtain ⟨q1, h⟩ := h
  refine ax_iinc (j := 4) dM_goOut_177 rfl (by decide) q1 rfl ?_
  refine ax_goto (tgt := 59) dM_goOut_180 (by decide) ?_
  exact ax_sub [1, 2, 3, 4, 0] rfl h
theorem gM_goOut_139 {P : Int → ax_Mem → Prop} {M : ax_Mem} {v1 v2 v3 v4 v5 : Int} (h : (v5 = (-1) → jM_goOut P 177 [(0, .inr (.inr 0)), (1, .inl v1), (2, .inl v2), (3, .inl v3), (4, .inl v4)] [] M) ∧ (¬ v5 = (-1) → (-2147483648 ≤ (v4 - 1) ∧ (v4 - 1) < 2147483648) ∧ (0 ≤ (v4 - 1) ∧ (v4 - 1) < 12) ∧ (¬ (M 8 ((v4 - 1).toNat)) = (-1) → jM_goOut P 177 [(0, .inr (.inr 0)), (1, .inl v1), (2, .inl v2), (3, .inl v3), (4, .inl v4)] [] M) ∧ ((M 8 ((v4 - 1).toNat)) = (-1) → (0 ≤ v4 ∧ v4 < 12) ∧ jM_goOut P 177 [(0, .inr (.inr 0)), (1, .inl v1), (2, .inl v2), (3, .inl v3), (4, .inl v4)] [] (ax_u (ax_u M 8 ((v4 - 1).toNat) v5) 8 (v4.toNat) (-1))))) : jM_goOut P 139 [(0, .inr (.inr 0)), (1, .inl v1), (2, .inl v2), (3, .inl v3), (4, .inl v4), (5, .inl v5)] [] M := by
  refine ax_iload 5 dM_goOut_139 rfl ?_
  refine ax_iconst dM_goOut_141 (by decide) ?_
  refine ax_icmp_eq (tgt := 177) dM_goOut_142 (by decide) (fun c5 => ?_) (fun c5 => ?_)
  · replace h := h.1 c5
    exact ax_sub [0, 1, 2, 3, 4] rfl h
  · replace h := h.2 c5
    refine ax_aloadn 0 dM_goOut_145 rfl rfl ?_
    refine ax_getr dM_goOut_146 fM_31 sM_0 rfl ?_
    refine ax_iload 4 dM_goOut_149 rfl ?_
    refine ax_iconst dM_goOut_151 (by decide) ?_
    obtain ⟨q1, h⟩ := h
    refine ax_isub dM_goOut_152 q1 ?_
    obtain ⟨q2, h⟩ := h
    refine ax_iald dM_goOut_153 sM_8 q2.1 q2.2 ?_
    refine ax_iconst dM_goOut_154 (by decide) ?_
    refine ax_icmp_ne (tgt := 177) dM_goOut_155 (by decide) (fun c4 => ?_) (fun c4 => ?_)
    · replace h := h.1 c4
      exact ax_sub [0, 1, 2, 3, 4] rfl h
    · replace h := h.2 c4
      refine ax_aloadn 0 dM_goOut_158 rfl rfl ?_
      refine ax_getr dM_goOut_159 fM_31 sM_0 rfl ?_
      refine ax_iload 4 dM_goOut_162 rfl ?_
      refine ax_iconst dM_goOut_164 (by decide) ?_
      refine ax_isub dM_goOut_165 (show ax_r _ from ⟨by omega, by omega⟩) ?_
      refine ax_iload 5 dM_goOut_166 rfl ?_
      refine ax_iast dM_goOut_168 sM_8 (by omega) (by omega) ?_
      refine ax_aloadn 0 dM_goOut_169 rfl rfl ?_
      refine ax_getr dM_goOut_170 fM_31 sM_0 rfl ?_
      refine ax_iload 4 dM_goOut_173 rfl ?_
      refine ax_iconst dM_goOut_175 (by decide) ?_
      obtain ⟨q3, h⟩ := h
      refine ax_iast dM_goOut_176 sM_8 q3.1 q3.2 ?_
      exact ax_sub [0, 1, 2, 3, 4] rfl h
theorem eM_goOut {P : Int → ax_Mem → Prop} {M : ax_Mem} {a1 : Int} (h : jM_goOut P 7 [(0, .inr (.inr 0)), (1, .inl a1), (2, .inl (M 0 4)), (3, .inl 0)] [] M) : kM_goOut [.inr (.inr 0), .inl a1] M P := ax_ofJ (by decide) (Nat.le_of_ble_eq_true rfl) (gM_goOut_0 h)
-- M_out dp 4
theorem gM_out_0 {P : Int → ax_Mem → Prop} {M : ax_Mem} {a1 : Int} (h : kM_lacks [.inr (.inr 0)] M (fun r1 M2 => (r1 = 0 → kM_in [.inr (.inl a1), .inr (.inl 0), .inr (.inl 2)] M2 (fun r3 M4 => (r3 = 0 → P (-102) M4) ∧ (¬ r3 = 0 → kM_goOut [.inr (.inr 0), .inl a1] M4 (fun r5 M6 => P r5 M6)))) ∧ (¬ r1 = 0 → P (-103) M2))) : jM_out P 0 [(0, .inr (.inr 0)), (1, .inl a1)] [] M := by
  refine ax_aloadn 0 dM_out_0 rfl rfl ?_
  refine ax_callV (dp2 := 0) (as := []) (st := []) dM_out_1 lM_95 sM_0 ⟨_, _, rfl⟩ rfl rfl (Nat.le_of_ble_eq_true rfl) (by decide) ?_
  refine ax_C_mono (fun r1 M2 h => ?_) h
  refine ax_if_eq (tgt := 10) dM_out_4 (by decide) (fun c8 => ?_) (fun c8 => ?_)
  · replace h := h.1 c8
    refine ax_iloadn 1 dM_out_10 rfl rfl ?_
    refine ax_i2l dM_out_11 ?_
    refine ax_lconst (i := 0) dM_out_12 rfl ?_
    refine ax_ldc2 (n := 2) dM_out_13 nM_68 ?_
    refine ax_callS (dp2 := 0) (as := [.inr (.inl a1), .inr (.inl 0), .inr (.inl 2)]) (st := []) dM_out_16 lM_72 rfl rfl (Nat.le_of_ble_eq_true rfl) (by decide) ?_
    refine ax_C_mono (fun r3 M4 h => ?_) h
    refine ax_if_eq (tgt := 30) dM_out_19 (by decide) (fun c7 => ?_) (fun c7 => ?_)
    · replace h := h.1 c7
      refine ax_bipush dM_out_30 (by decide) ?_
      exact ax_iret dM_out_32 h
    · replace h := h.2 c7
      refine ax_aloadn 0 dM_out_22 rfl rfl ?_
      refine ax_iloadn 1 dM_out_23 rfl rfl ?_
      refine ax_callV (dp2 := 3) (as := [.inl a1]) (st := []) dM_out_24 lM_270 sM_0 ⟨_, _, rfl⟩ rfl rfl (Nat.le_of_ble_eq_true rfl) (by decide) ?_
      refine ax_C_mono (fun r5 M6 h => ?_) h
      refine ax_goto (tgt := 32) dM_out_27 (by decide) ?_
      exact ax_iret dM_out_32 h
  · replace h := h.2 c8
    refine ax_bipush dM_out_7 (by decide) ?_
    exact ax_iret dM_out_9 h
theorem eM_out {P : Int → ax_Mem → Prop} {M : ax_Mem} {a1 : Int} (h : kM_lacks [.inr (.inr 0)] M (fun r1 M2 => (r1 = 0 → kM_in [.inr (.inl a1), .inr (.inl 0), .inr (.inl 2)] M2 (fun r3 M4 => (r3 = 0 → P (-102) M4) ∧ (¬ r3 = 0 → kM_goOut [.inr (.inr 0), .inl a1] M4 (fun r5 M6 => P r5 M6)))) ∧ (¬ r1 = 0 → P (-103) M2))) : kM_out [.inr (.inr 0), .inl a1] M P := ax_ofJ (by decide) (Nat.le_of_ble_eq_true rfl) (gM_out_0 h)
-- M_outOf dp 4
theorem gM_outOf_0 {P : Int → ax_Mem → Prop} {M : ax_Mem} {a1 a2 : Int} (h : kM_isPerson [.inr (.inr 0), .inl a1] M (fun r1 M2 => (¬ r1 = 0 → kM_in [.inr (.inl a2), .inr (.inl 0), .inr (.inl 2)] M2 (fun r3 M4 => (¬ r3 = 0 → kM_goOut [.inr (.inr 0), .inl a2] M4 (fun r5 M6 => (0 ≤ a1 ∧ a1 < 12) ∧ P (M6 16 (a1.toNat)) M6)) ∧ (r3 = 0 → P (-102) M4))) ∧ (r1 = 0 → P (-101) M2))) : jM_outOf P 0 [(0, .inr (.inr 0)), (1, .inl a1), (2, .inl a2)] [] M := by
  refine ax_aloadn 0 dM_outOf_0 rfl rfl ?_
  refine ax_iloadn 1 dM_outOf_1 rfl rfl ?_
  refine ax_callV (dp2 := 1) (as := [.inl a1]) (st := []) dM_outOf_2 lM_99 sM_0 ⟨_, _, rfl⟩ rfl rfl (Nat.le_of_ble_eq_true rfl) (by decide) ?_
  refine ax_C_mono (fun r1 M2 h => ?_) h
  refine ax_if_ne (tgt := 11) dM_outOf_5 (by decide) (fun c9 => ?_) (fun c9 => ?_)
  · replace h := h.1 c9
    refine ax_iloadn 2 dM_outOf_11 rfl rfl ?_
    refine ax_i2l dM_outOf_12 ?_
    refine ax_lconst (i := 0) dM_outOf_13 rfl ?_
    refine ax_ldc2 (n := 2) dM_outOf_14 nM_68 ?_
    refine ax_callS (dp2 := 0) (as := [.inr (.inl a2), .inr (.inl 0), .inr (.inl 2)]) (st := []) dM_outOf_17 lM_72 rfl rfl (Nat.le_of_ble_eq_true rfl) (by decide) ?_
    refine ax_C_mono (fun r3 M4 h => ?_) h
    refine ax_if_ne (tgt := 26) dM_outOf_20 (by decide) (fun c8 => ?_) (fun c8 => ?_)
    · replace h := h.1 c8
      refine ax_aloadn 0 dM_outOf_26 rfl rfl ?_
      refine ax_iloadn 2 dM_outOf_27 rfl rfl ?_
      refine ax_callV (dp2 := 3) (as := [.inl a2]) (st := []) dM_outOf_28 lM_270 sM_0 ⟨_, _, rfl⟩ rfl rfl (Nat.le_of_ble_eq_true rfl) (by decide) ?_
      refine ax_C_mono (fun r5 M6 h => ?_) h
      refine ax_istoren dM_outOf_31 rfl (by decide) rfl ?_
      refine ax_aloadn 1 dM_outOf_32 rfl rfl ?_
      refine ax_getr dM_outOf_33 fM_55 sM_0 rfl ?_
      refine ax_iloadn 2 dM_outOf_36 rfl rfl ?_
      obtain ⟨q7, h⟩ := h
      refine ax_iald dM_outOf_37 sM_16 q7.1 q7.2 ?_
      exact ax_iret dM_outOf_38 h
    · replace h := h.2 c8
      refine ax_bipush dM_outOf_23 (by decide) ?_
      exact ax_iret dM_outOf_25 h
  · replace h := h.2 c9
    refine ax_bipush dM_outOf_8 (by decide) ?_
    exact ax_iret dM_outOf_10 h
theorem eM_outOf {P : Int → ax_Mem → Prop} {M : ax_Mem} {a1 a2 : Int} (h : kM_isPerson [.inr (.inr 0), .inl a1] M (fun r1 M2 => (¬ r1 = 0 → kM_in [.inr (.inl a2), .inr (.inl 0), .inr (.inl 2)] M2 (fun r3 M4 => (¬ r3 = 0 → kM_goOut [.inr (.inr 0), .inl a2] M4 (fun r5 M6 => (0 ≤ a1 ∧ a1 < 12) ∧ P (M6 16 (a1.toNat)) M6)) ∧ (r3 = 0 → P (-102) M4))) ∧ (r1 = 0 → P (-101) M2))) : kM_outOf [.inr (.inr 0), .inl a1, .inl a2] M P := ax_ofJ (by decide) (Nat.le_of_ble_eq_true rfl) (gM_outOf_0 h)
-- M_missed dp 4
theorem gM_missed_0 {P : Int → ax_Mem → Prop} {M : ax_Mem} {a1 : Int} (h : kM_lacks [.inr (.inr 0)] M (fun r1 M2 => (r1 = 0 → kM_in [.inr (.inl a1), .inr (.inl 0), .inr (.inl 2)] M2 (fun r3 M4 => (¬ r3 = 0 → kM_goOut [.inr (.inr 0), .inl a1] M4 (fun r5 M6 => jM_missed P 36 [(0, .inr (.inr 0)), (3, .inl 0), (4, .inl 0)] [] M6)) ∧ (r3 = 0 → P (-102) M4))) ∧ (¬ r1 = 0 → P (-103) M2))) : jM_missed P 0 [(0, .inr (.inr 0)), (1, .inl a1)] [] M := by
  refine ax_aloadn 0 dM_missed_0 rfl rfl ?_
  refine ax_callV (dp2 := 0) (as := []) (st := []) dM_missed_1 lM_95 sM_0 ⟨_, _, rfl⟩ rfl rfl (Nat.le_of_ble_eq_true rfl) (by decide) ?_
  refine ax_C_mono (fun r1 M2 h => ?_) h
  refine ax_if_eq (tgt := 10) dM_missed_4 (by decide) (fun c8 => ?_) (fun c8 => ?_)
  · replace h := h.1 c8
    refine ax_iloadn 1 dM_missed_10 rfl rfl ?_
    refine ax_i2l dM_missed_11 ?_
    refine ax_lconst (i := 0) dM_missed_12 rfl ?_
    refine ax_ldc2 (n := 2) dM_missed_13 nM_68 ?_
    refine ax_callS (dp2 := 0) (as := [.inr (.inl a1), .inr (.inl 0), .inr (.inl 2)]) (st := []) dM_missed_16 lM_72 rfl rfl (Nat.le_of_ble_eq_true rfl) (by decide) ?_
    refine ax_C_mono (fun r3 M4 h => ?_) h
    refine ax_if_ne (tgt := 25) dM_missed_19 (by decide) (fun c7 => ?_) (fun c7 => ?_)
    · replace h := h.1 c7
      refine ax_aloadn 0 dM_missed_25 rfl rfl ?_
      refine ax_iloadn 1 dM_missed_26 rfl rfl ?_
      refine ax_callV (dp2 := 3) (as := [.inl a1]) (st := []) dM_missed_27 lM_270 sM_0 ⟨_, _, rfl⟩ rfl rfl (Nat.le_of_ble_eq_true rfl) (by decide) ?_
      refine ax_C_mono (fun r5 M6 h => ?_) h
      refine ax_istoren dM_missed_30 rfl (by decide) rfl ?_
      refine ax_iconst dM_missed_31 (by decide) ?_
      refine ax_istoren dM_missed_32 rfl (by decide) rfl ?_
      refine ax_iconst dM_missed_33 (by decide) ?_
      refine ax_istore dM_missed_34 (by decide) rfl ?_
      exact ax_sub [3, 1, 0] rfl h
    · replace h := h.2 c7
      refine ax_bipush dM_missed_22 (by decide) ?_
      exact ax_iret dM_missed_24 h
  · replace h := h.2 c8
    refine ax_bipush dM_missed_7 (by decide) ?_
    exact ax_iret dM_missed_9 h
theorem gM_missed_36 {P : Int → ax_Mem → Prop} {M : ax_Mem} {v3 v4 : Int} (h : ((M 0 4) ≤ v4 → P v3 M) ∧ (¬ (M 0 4) ≤ v4 → (0 ≤ v4 ∧ v4 < 12) ∧ ((M 16 (v4.toNat)) ≤ (M 1 (((7 * v4) + 6).toNat)) → ((0 : Int) ≤ v3 ∧ (0 : Int) ≤ 0) ∧ jM_missed P 36 [(0, .inr (.inr 0)), (3, .inl ((v3.toNat ||| (0 : Int).toNat : Nat) : Int)), (4, .inl (v4 + 1))] [] M) ∧ (¬ (M 16 (v4.toNat)) ≤ (M 1 (((7 * v4) + 6).toNat)) → (0 ≤ v4 ∧ v4 ≤ 30) ∧ ((0 : Int) ≤ v3 ∧ (0 : Int) ≤ ((2 : Int) ^ v4.toNat)) ∧ jM_missed P 36 [(0, .inr (.inr 0)), (3, .inl ((v3.toNat ||| ((2 : Int) ^ v4.toNat).toNat : Nat) : Int)), (4, .inl (v4 + 1))] [] M))) : jM_missed P 36 [(0, .inr (.inr 0)), (3, .inl v3), (4, .inl v4)] [] M := by
  refine ax_iload 2 dM_missed_36 rfl ?_
  refine ax_aloadn 0 dM_missed_38 rfl rfl ?_
  refine ax_geti dM_missed_39 fM_89 sM_0 rfl ?_
  refine ax_icmp_ge (tgt := 85) dM_missed_42 (by decide) (fun c6 => ?_) (fun c6 => ?_)
  · replace h := h.1 c6
    refine ax_iloadn 1 dM_missed_85 rfl rfl ?_
    exact ax_iret dM_missed_86 h
  · replace h := h.2 c6
    refine ax_iloadn 1 dM_missed_45 rfl rfl ?_
    refine ax_aloadn 0 dM_missed_46 rfl rfl ?_
    refine ax_getr dM_missed_47 fM_55 sM_0 rfl ?_
    refine ax_iload 2 dM_missed_50 rfl ?_
    obtain ⟨q1, h⟩ := h
    refine ax_iald dM_missed_52 sM_16 q1.1 q1.2 ?_
    refine ax_aloadn 0 dM_missed_53 rfl rfl ?_
    refine ax_getr dM_missed_54 fM_7 sM_0 rfl ?_
    refine ax_bipush dM_missed_57 (by decide) ?_
    refine ax_iload 2 dM_missed_59 rfl ?_
    refine ax_imul dM_missed_61 (show ax_r _ from ⟨by omega, by omega⟩) ?_
    refine ax_bipush dM_missed_62 (by decide) ?_
    refine ax_iadd dM_missed_64 (show ax_r _ from ⟨by omega, by omega⟩) ?_
    refine ax_iald dM_missed_65 sM_1 (by omega) (by omega) ?_
    refine ax_icmp_le (tgt := 76) dM_missed_66 (by decide) (fun c5 => ?_) (fun c5 => ?_)
    · replace h := h.1 c5
      refine ax_iconst dM_missed_76 (by decide) ?_
      obtain ⟨q2, h⟩ := h
      refine ax_ior dM_missed_77 q2.1 q2.2 ?_
      refine ax_istoren dM_missed_78 rfl (by decide) rfl ?_
      refine ax_iinc (j := 2) dM_missed_79 rfl (by decide) (show ax_r _ from ⟨by omega, by omega⟩) rfl ?_
      refine ax_goto (tgt := 36) dM_missed_82 (by decide) ?_
      exact ax_sub [2, 1, 0] rfl h
    · replace h := h.2 c5
      refine ax_iconst dM_missed_69 (by decide) ?_
      refine ax_iload 2 dM_missed_70 rfl ?_
      obtain ⟨q3, h⟩ := h
      refine ax_ishl1 dM_missed_72 q3.1 q3.2 ?_
      refine ax_goto (tgt := 77) dM_missed_73 (by decide) ?_
      obtain ⟨q4, h⟩ := h
      refine ax_ior dM_missed_77 q4.1 q4.2 ?_
      refine ax_istoren dM_missed_78 rfl (by decide) rfl ?_
      refine ax_iinc (j := 2) dM_missed_79 rfl (by decide) (show ax_r _ from ⟨by omega, by omega⟩) rfl ?_
      refine ax_goto (tgt := 36) dM_missed_82 (by decide) ?_
      exact ax_sub [2, 1, 0] rfl h
theorem eM_missed {P : Int → ax_Mem → Prop} {M : ax_Mem} {a1 : Int} (h : kM_lacks [.inr (.inr 0)] M (fun r1 M2 => (r1 = 0 → kM_in [.inr (.inl a1), .inr (.inl 0), .inr (.inl 2)] M2 (fun r3 M4 => (¬ r3 = 0 → kM_goOut [.inr (.inr 0), .inl a1] M4 (fun r5 M6 => jM_missed P 36 [(0, .inr (.inr 0)), (3, .inl 0), (4, .inl 0)] [] M6)) ∧ (r3 = 0 → P (-102) M4))) ∧ (¬ r1 = 0 → P (-103) M2))) : kM_missed [.inr (.inr 0), .inl a1] M P := ax_ofJ (by decide) (Nat.le_of_ble_eq_true rfl) (gM_missed_0 h)
-- M_stay dp 1
theorem gM_stay_0 {P : Int → ax_Mem → Prop} {M : ax_Mem} {a1 a2 a3 : Int} (h : kM_in [.inr (.inl a1), .inr (.inl 1), .inr (.inl 12)] M (fun r1 M2 => (r1 = 0 → P (-102) M2) ∧ (¬ r1 = 0 → kM_in [.inr (.inl a2), .inr (.inl 1), .inr (.inl 99)] M2 (fun r3 M4 => (r3 = 0 → P (-102) M4) ∧ (¬ r3 = 0 → kM_in [.inr (.inl a3), .inr (.inl 0), .inr (.inl 1)] M4 (fun r5 M6 => (¬ r5 = 0 → (a1 ≤ (M6 0 4) → jM_stay P 53 [(0, .inr (.inr 0)), (1, .inl a1), (2, .inl a2), (3, .inl a3), (4, .inl 0), (5, .inl 0)] [] M6) ∧ (¬ a1 ≤ (M6 0 4) → P (-1) M6)) ∧ (r5 = 0 → P (-102) M6))))))) : jM_stay P 0 [(0, .inr (.inr 0)), (1, .inl a1), (2, .inl a2), (3, .inl a3)] [] M := by
  refine ax_iloadn 1 dM_stay_0 rfl rfl ?_
  refine ax_i2l dM_stay_1 ?_
  refine ax_lconst (i := 1) dM_stay_2 rfl ?_
  refine ax_ldc2 (n := 12) dM_stay_3 nM_70 ?_
  refine ax_callS (dp2 := 0) (as := [.inr (.inl a1), .inr (.inl 1), .inr (.inl 12)]) (st := []) dM_stay_6 lM_72 rfl rfl (Nat.le_of_ble_eq_true rfl) (by decide) ?_
  refine ax_C_mono (fun r1 M2 h => ?_) h
  refine ax_if_eq (tgt := 34) dM_stay_9 (by decide) (fun c10 => ?_) (fun c10 => ?_)
  · replace h := h.1 c10
    refine ax_bipush dM_stay_34 (by decide) ?_
    exact ax_iret dM_stay_36 h
  · replace h := h.2 c10
    refine ax_iloadn 2 dM_stay_12 rfl rfl ?_
    refine ax_i2l dM_stay_13 ?_
    refine ax_lconst (i := 1) dM_stay_14 rfl ?_
    refine ax_ldc2 (n := 99) dM_stay_15 nM_273 ?_
    refine ax_callS (dp2 := 0) (as := [.inr (.inl a2), .inr (.inl 1), .inr (.inl 99)]) (st := []) dM_stay_18 lM_72 rfl rfl (Nat.le_of_ble_eq_true rfl) (by decide) ?_
    refine ax_C_mono (fun r3 M4 h => ?_) h
    refine ax_if_eq (tgt := 34) dM_stay_21 (by decide) (fun c9 => ?_) (fun c9 => ?_)
    · replace h := h.1 c9
      refine ax_bipush dM_stay_34 (by decide) ?_
      exact ax_iret dM_stay_36 h
    · replace h := h.2 c9
      refine ax_iloadn 3 dM_stay_24 rfl rfl ?_
      refine ax_i2l dM_stay_25 ?_
      refine ax_lconst (i := 0) dM_stay_26 rfl ?_
      refine ax_lconst (i := 1) dM_stay_27 rfl ?_
      refine ax_callS (dp2 := 0) (as := [.inr (.inl a3), .inr (.inl 0), .inr (.inl 1)]) (st := []) dM_stay_28 lM_72 rfl rfl (Nat.le_of_ble_eq_true rfl) (by decide) ?_
      refine ax_C_mono (fun r5 M6 h => ?_) h
      refine ax_if_ne (tgt := 37) dM_stay_31 (by decide) (fun c8 => ?_) (fun c8 => ?_)
      · replace h := h.1 c8
        refine ax_aloadn 0 dM_stay_37 rfl rfl ?_
        refine ax_geti dM_stay_38 fM_89 sM_0 rfl ?_
        refine ax_iloadn 1 dM_stay_41 rfl rfl ?_
        refine ax_icmp_ge (tgt := 47) dM_stay_42 (by decide) (fun c7 => ?_) (fun c7 => ?_)
        · replace h := h.1 c7
          refine ax_iconst dM_stay_47 (by decide) ?_
          refine ax_istore dM_stay_48 (by decide) rfl ?_
          refine ax_iconst dM_stay_50 (by decide) ?_
          refine ax_istore dM_stay_51 (by decide) rfl ?_
          exact ax_sub [2, 3, 4, 5, 1, 0] rfl h
        · replace h := h.2 c7
          refine ax_iconst dM_stay_45 (by decide) ?_
          exact ax_iret dM_stay_46 h
      · replace h := h.2 c8
        refine ax_bipush dM_stay_34 (by decide) ?_
        exact ax_iret dM_stay_36 h
theorem gM_stay_53 {P : Int → ax_Mem → Prop} {M : ax_Mem} {v1 v2 v3 v4 v5 : Int} (h : (v1 ≤ v5 → (¬ v3 = 0 → (-2147483648 ≤ (v4 * v1) ∧ (v4 * v1) < 2147483648) ∧ P (v4 * v1) M) ∧ (v3 = 0 → P v4 M)) ∧ (¬ v1 ≤ v5 → jM_stay P 65 [(0, .inr (.inr 0)), (1, .inl v1), (2, .inl v2), (3, .inl v3), (4, .inl v4), (5, .inl 0), (6, .inl 0)] [] M)) : jM_stay P 53 [(0, .inr (.inr 0)), (1, .inl v1), (2, .inl v2), (3, .inl v3), (4, .inl v4), (5, .inl v5)] [] M := by
  refine ax_iload 5 dM_stay_53 rfl ?_
  refine ax_iloadn 1 dM_stay_55 rfl rfl ?_
  refine ax_icmp_ge (tgt := 127) dM_stay_56 (by decide) (fun c3 => ?_) (fun c3 => ?_)
  · replace h := h.1 c3
    refine ax_iloadn 3 dM_stay_127 rfl rfl ?_
    refine ax_if_ne (tgt := 136) dM_stay_128 (by decide) (fun c2 => ?_) (fun c2 => ?_)
    · replace h := h.1 c2
      refine ax_iload 4 dM_stay_136 rfl ?_
      refine ax_iloadn 1 dM_stay_138 rfl rfl ?_
      obtain ⟨q1, h⟩ := h
      refine ax_imul dM_stay_139 q1 ?_
      exact ax_iret dM_stay_140 h
    · replace h := h.2 c2
      refine ax_iload 4 dM_stay_131 rfl ?_
      refine ax_goto (tgt := 140) dM_stay_133 (by decide) ?_
      exact ax_iret dM_stay_140 h
  · replace h := h.2 c3
    refine ax_iconst dM_stay_59 (by decide) ?_
    refine ax_istore dM_stay_60 (by decide) rfl ?_
    refine ax_iconst dM_stay_62 (by decide) ?_
    refine ax_istore dM_stay_63 (by decide) rfl ?_
    exact ax_sub [2, 3, 4, 5, 6, 1, 0] rfl h
theorem gM_stay_65 {P : Int → ax_Mem → Prop} {M : ax_Mem} {v1 v2 v3 v4 v5 v6 : Int} (h : ((M 0 4) ≤ v6 → (v1 ≤ v5 → (-2147483648 ≤ (v4 + 0) ∧ (v4 + 0) < 2147483648) ∧ jM_stay P 53 [(0, .inr (.inr 0)), (1, .inl v1), (2, .inl v2), (3, .inl v3), (4, .inl (v4 + 0)), (5, .inl v5)] [] M) ∧ (¬ v1 ≤ v5 → (-2147483648 ≤ (v4 + v2) ∧ (v4 + v2) < 2147483648) ∧ jM_stay P 53 [(0, .inr (.inr 0)), (1, .inl v1), (2, .inl v2), (3, .inl v3), (4, .inl (v4 + v2)), (5, .inl v5)] [] M)) ∧ (¬ (M 0 4) ≤ v6 → (-2147483648 ≤ (7 * v6) ∧ (7 * v6) < 2147483648) ∧ (-2147483648 ≤ ((7 * v6) + 6) ∧ ((7 * v6) + 6) < 2147483648) ∧ (0 ≤ ((7 * v6) + 6) ∧ ((7 * v6) + 6) < 84) ∧ (v4 < (M 1 (((7 * v6) + 6).toNat)) → (-2147483648 ≤ (v5 + 0) ∧ (v5 + 0) < 2147483648) ∧ (-2147483648 ≤ (v6 + 1) ∧ (v6 + 1) < 2147483648) ∧ jM_stay P 65 [(0, .inr (.inr 0)), (1, .inl v1), (2, .inl v2), (3, .inl v3), (4, .inl v4), (5, .inl (v5 + 0)), (6, .inl (v6 + 1))] [] M) ∧ (¬ v4 < (M 1 (((7 * v6) + 6).toNat)) → (-2147483648 ≤ (v5 + 1) ∧ (v5 + 1) < 2147483648) ∧ (-2147483648 ≤ (v6 + 1) ∧ (v6 + 1) < 2147483648) ∧ jM_stay P 65 [(0, .inr (.inr 0)), (1, .inl v1), (2, .inl v2), (3, .inl v3), (4, .inl v4), (5, .inl (v5 + 1)), (6, .inl (v6 + 1))] [] M))) : jM_stay P 65 [(0, .inr (.inr 0)), (1, .inl v1), (2, .inl v2), (3, .inl v3), (4, .inl v4), (5, .inl v5), (6, .inl v6)] [] M := by
  refine ax_iload 6 dM_stay_65 rfl ?_
  refine ax_aloadn 0 dM_stay_67 rfl rfl ?_
  refine ax_geti dM_stay_68 fM_89 sM_0 rfl ?_
  refine ax_icmp_ge (tgt := 108) dM_stay_71 (by decide) (fun c12 => ?_) (fun c12 => ?_)
  · replace h := h.1 c12
    refine ax_iload 4 dM_stay_108 rfl ?_
    refine ax_iload 5 dM_stay_110 rfl ?_
    refine ax_iloadn 1 dM_stay_112 rfl rfl ?_
    refine ax_icmp_ge (tgt := 120) dM_stay_113 (by decide) (fun c3 => ?_) (fun c3 => ?_)
    · replace h := h.1 c3
      refine ax_iconst dM_stay_120 (by decide) ?_
      obtain ⟨q1, h⟩ := h
      refine ax_iadd dM_stay_121 q1 ?_
      refine ax_istore dM_stay_122 (by decide) rfl ?_
      refine ax_goto (tgt := 53) dM_stay_124 (by decide) ?_
      exact ax_sub [1, 2, 3, 4, 0, 5] rfl h
    · replace h := h.2 c3
      refine ax_iloadn 2 dM_stay_116 rfl rfl ?_
      refine ax_goto (tgt := 121) dM_stay_117 (by decide) ?_
      obtain ⟨q2, h⟩ := h
      refine ax_iadd dM_stay_121 q2 ?_
      refine ax_istore dM_stay_122 (by decide) rfl ?_
      refine ax_goto (tgt := 53) dM_stay_124 (by decide) ?_
      exact ax_sub [1, 2, 3, 4, 0, 5] rfl h
  · replace h := h.2 c12
    refine ax_iload 5 dM_stay_74 rfl ?_
    refine ax_aloadn 0 dM_stay_76 rfl rfl ?_
    refine ax_getr dM_stay_77 fM_7 sM_0 rfl ?_
    refine ax_bipush dM_stay_80 (by decide) ?_
    refine ax_iload 6 dM_stay_82 rfl ?_
    obtain ⟨q4, h⟩ := h
    refine ax_imul dM_stay_84 q4 ?_
    refine ax_bipush dM_stay_85 (by decide) ?_
    obtain ⟨q5, h⟩ := h
    refine ax_iadd dM_stay_87 q5 ?_
    obtain ⟨q6, h⟩ := h
    refine ax_iald dM_stay_88 sM_1 q6.1 q6.2 ?_
    refine ax_iload 4 dM_stay_89 rfl ?_
    refine ax_icmp_gt (tgt := 98) dM_stay_91 (by decide) (fun c11 => ?_) (fun c11 => ?_)
    · replace h := h.1 c11
      refine ax_iconst dM_stay_98 (by decide) ?_
      obtain ⟨q7, h⟩ := h
      refine ax_iadd dM_stay_99 q7 ?_
      refine ax_istore dM_stay_100 (by decide) rfl ?_
      obtain ⟨q8, h⟩ := h
      refine ax_iinc (j := 6) dM_stay_102 rfl (by decide) q8 rfl ?_
      refine ax_goto (tgt := 65) dM_stay_105 (by decide) ?_
      exact ax_sub [2, 3, 4, 5, 6, 1, 0] rfl h
    · replace h := h.2 c11
      refine ax_iconst dM_stay_94 (by decide) ?_
      refine ax_goto (tgt := 99) dM_stay_95 (by decide) ?_
      obtain ⟨q9, h⟩ := h
      refine ax_iadd dM_stay_99 q9 ?_
      refine ax_istore dM_stay_100 (by decide) rfl ?_
      obtain ⟨q10, h⟩ := h
      refine ax_iinc (j := 6) dM_stay_102 rfl (by decide) q10 rfl ?_
      refine ax_goto (tgt := 65) dM_stay_105 (by decide) ?_
      exact ax_sub [2, 3, 4, 5, 6, 1, 0] rfl h
theorem eM_stay {P : Int → ax_Mem → Prop} {M : ax_Mem} {a1 a2 a3 : Int} (h : kM_in [.inr (.inl a1), .inr (.inl 1), .inr (.inl 12)] M (fun r1 M2 => (r1 = 0 → P (-102) M2) ∧ (¬ r1 = 0 → kM_in [.inr (.inl a2), .inr (.inl 1), .inr (.inl 99)] M2 (fun r3 M4 => (r3 = 0 → P (-102) M4) ∧ (¬ r3 = 0 → kM_in [.inr (.inl a3), .inr (.inl 0), .inr (.inl 1)] M4 (fun r5 M6 => (¬ r5 = 0 → (a1 ≤ (M6 0 4) → jM_stay P 53 [(0, .inr (.inr 0)), (1, .inl a1), (2, .inl a2), (3, .inl a3), (4, .inl 0), (5, .inl 0)] [] M6) ∧ (¬ a1 ≤ (M6 0 4) → P (-1) M6)) ∧ (r5 = 0 → P (-102) M6))))))) : kM_stay [.inr (.inr 0), .inl a1, .inl a2, .inl a3] M P := ax_ofJ (by decide) (Nat.le_of_ble_eq_true rfl) (gM_stay_0 h)
-- M_image dp 1
theorem gM_image_0 {P : Int → ax_Mem → Prop} {M : ax_Mem} (h : kM_lacks [.inr (.inr 0)] M (fun r1 M2 => (r1 = 0 → jM_image P 12 [(0, .inr (.inr 0)), (1, .inl 0)] [] M2) ∧ (¬ r1 = 0 → P (-103) M2))) : jM_image P 0 [(0, .inr (.inr 0))] [] M := by
  refine ax_aloadn 0 dM_image_0 rfl rfl ?_
  refine ax_callV (dp2 := 0) (as := []) (st := []) dM_image_1 lM_95 sM_0 ⟨_, _, rfl⟩ rfl rfl (Nat.le_of_ble_eq_true rfl) (by decide) ?_
  refine ax_C_mono (fun r1 M2 h => ?_) h
  refine ax_if_eq (tgt := 10) dM_image_4 (by decide) (fun c3 => ?_) (fun c3 => ?_)
  · replace h := h.1 c3
    refine ax_iconst dM_image_10 (by decide) ?_
    refine ax_istoren dM_image_11 rfl (by decide) rfl ?_
    exact ax_sub [1, 0] rfl h
  · replace h := h.2 c3
    refine ax_bipush dM_image_7 (by decide) ?_
    exact ax_iret dM_image_9 h
theorem gM_image_12 {P : Int → ax_Mem → Prop} {M : ax_Mem} {v1 : Int} (h : ((M 0 4) ≤ v1 → P (M 0 4) (ax_u (ax_u M 0 33 (M 0 4)) 0 34 (M 0 3))) ∧ (¬ (M 0 4) ≤ v1 → (-2147483648 ≤ (2 * v1) ∧ (2 * v1) < 2147483648) ∧ (-2147483648 ≤ (7 * v1) ∧ (7 * v1) < 2147483648) ∧ (-2147483648 ≤ ((7 * v1) + 5) ∧ ((7 * v1) + 5) < 2147483648) ∧ (0 ≤ ((7 * v1) + 5) ∧ ((7 * v1) + 5) < 84) ∧ (0 ≤ (2 * v1) ∧ (2 * v1) < 24) ∧ (-2147483648 ≤ ((7 * v1) + 6) ∧ ((7 * v1) + 6) < 2147483648) ∧ (0 ≤ ((7 * v1) + 6) ∧ ((7 * v1) + 6) < 84) ∧ (0 ≤ ((2 * v1) + 1) ∧ ((2 * v1) + 1) < 24) ∧ (-2147483648 ≤ (v1 + 1) ∧ (v1 + 1) < 2147483648) ∧ jM_image P 12 [(0, .inr (.inr 0)), (1, .inl (v1 + 1))] [] (ax_u (ax_u M 18 ((2 * v1).toNat) (M 1 (((7 * v1) + 5).toNat))) 18 (((2 * v1) + 1).toNat) (M 1 (((7 * v1) + 6).toNat))))) : jM_image P 12 [(0, .inr (.inr 0)), (1, .inl v1)] [] M := by
  refine ax_iloadn 1 dM_image_12 rfl rfl ?_
  refine ax_aloadn 0 dM_image_13 rfl rfl ?_
  refine ax_geti dM_image_14 fM_89 sM_0 rfl ?_
  refine ax_icmp_ge (tgt := 67) dM_image_17 (by decide) (fun c10 => ?_) (fun c10 => ?_)
  · replace h := h.1 c10
    refine ax_aloadn 0 dM_image_67 rfl rfl ?_
    refine ax_aloadn 0 dM_image_68 rfl rfl ?_
    refine ax_geti dM_image_69 fM_89 sM_0 rfl ?_
    refine ax_puti dM_image_72 pM_64 sM_0 rfl ?_
    refine ax_aloadn 0 dM_image_75 rfl rfl ?_
    refine ax_aloadn 0 dM_image_76 rfl rfl ?_
    refine ax_geti dM_image_77 fM_92 sM_0 rfl ?_
    refine ax_top (x' := M 0 3) (by first | rfl | exact ax_u_at _ _ _ _) ?_
    refine ax_puti dM_image_80 pM_275 sM_0 rfl ?_
    refine ax_aloadn 0 dM_image_83 rfl rfl ?_
    refine ax_geti dM_image_84 fM_89 sM_0 rfl ?_
    refine ax_top (x' := M 0 4) (by first | rfl | exact ax_u_at _ _ _ _) ?_
    exact ax_iret dM_image_87 h
  · replace h := h.2 c10
    refine ax_aloadn 0 dM_image_20 rfl rfl ?_
    refine ax_getr dM_image_21 fM_61 sM_0 rfl ?_
    refine ax_iconst dM_image_24 (by decide) ?_
    refine ax_iloadn 1 dM_image_25 rfl rfl ?_
    obtain ⟨q1, h⟩ := h
    refine ax_imul dM_image_26 q1 ?_
    refine ax_aloadn 0 dM_image_27 rfl rfl ?_
    refine ax_getr dM_image_28 fM_7 sM_0 rfl ?_
    refine ax_bipush dM_image_31 (by decide) ?_
    refine ax_iloadn 1 dM_image_33 rfl rfl ?_
    obtain ⟨q2, h⟩ := h
    refine ax_imul dM_image_34 q2 ?_
    refine ax_iconst dM_image_35 (by decide) ?_
    obtain ⟨q3, h⟩ := h
    refine ax_iadd dM_image_36 q3 ?_
    obtain ⟨q4, h⟩ := h
    refine ax_iald dM_image_37 sM_1 q4.1 q4.2 ?_
    obtain ⟨q5, h⟩ := h
    refine ax_iast dM_image_38 sM_18 q5.1 q5.2 ?_
    refine ax_aloadn 0 dM_image_39 rfl rfl ?_
    refine ax_getr dM_image_40 fM_61 sM_0 rfl ?_
    refine ax_iconst dM_image_43 (by decide) ?_
    refine ax_iloadn 1 dM_image_44 rfl rfl ?_
    refine ax_imul dM_image_45 (show ax_r _ from ⟨by omega, by omega⟩) ?_
    refine ax_iconst dM_image_46 (by decide) ?_
    refine ax_iadd dM_image_47 (show ax_r _ from ⟨by omega, by omega⟩) ?_
    refine ax_aloadn 0 dM_image_48 rfl rfl ?_
    refine ax_getr dM_image_49 fM_7 sM_0 rfl ?_
    refine ax_bipush dM_image_52 (by decide) ?_
    refine ax_iloadn 1 dM_image_54 rfl rfl ?_
    refine ax_imul dM_image_55 q2 ?_
    refine ax_bipush dM_image_56 (by decide) ?_
    obtain ⟨q6, h⟩ := h
    refine ax_iadd dM_image_58 q6 ?_
    obtain ⟨q7, h⟩ := h
    refine ax_iald dM_image_59 sM_1 q7.1 q7.2 ?_
    refine ax_top (x' := M 1 (((7 * v1) + 6).toNat)) (by first | rfl | exact ax_u_at _ _ _ _) ?_
    obtain ⟨q8, h⟩ := h
    refine ax_iast dM_image_60 sM_18 q8.1 q8.2 ?_
    obtain ⟨q9, h⟩ := h
    refine ax_iinc (j := 1) dM_image_61 rfl (by decide) q9 rfl ?_
    refine ax_goto (tgt := 12) dM_image_64 (by decide) ?_
    exact ax_sub [1, 0] rfl h
theorem eM_image {P : Int → ax_Mem → Prop} {M : ax_Mem} (h : kM_lacks [.inr (.inr 0)] M (fun r1 M2 => (r1 = 0 → jM_image P 12 [(0, .inr (.inr 0)), (1, .inl 0)] [] M2) ∧ (¬ r1 = 0 → P (-103) M2))) : kM_image [.inr (.inr 0)] M P := ax_ofJ (by decide) (Nat.le_of_ble_eq_true rfl) (gM_image_0 h)
-- M_restore dp 0
theorem gM_restore_0 {P : Int → ax_Mem → Prop} {M : ax_Mem} (h : ((M 0 33) = (-1) → P (-103) M) ∧ (¬ (M 0 33) = (-1) → ((M 0 34) = (M 0 3) → jM_restore P 32 [(0, .inr (.inr 0)), (1, .inl 0)] [] (ax_u M 0 4 (M 0 33))) ∧ (¬ (M 0 34) = (M 0 3) → P (-103) M))) : jM_restore P 0 [(0, .inr (.inr 0))] [] M := by
  refine ax_aloadn 0 dM_restore_0 rfl rfl ?_
  refine ax_geti dM_restore_1 fM_64 sM_0 rfl ?_
  refine ax_iconst dM_restore_4 (by decide) ?_
  refine ax_icmp_eq (tgt := 19) dM_restore_5 (by decide) (fun c2 => ?_) (fun c2 => ?_)
  · replace h := h.1 c2
    refine ax_bipush dM_restore_19 (by decide) ?_
    exact ax_iret dM_restore_21 h
  · replace h := h.2 c2
    refine ax_aloadn 0 dM_restore_8 rfl rfl ?_
    refine ax_geti dM_restore_9 fM_275 sM_0 rfl ?_
    refine ax_aloadn 0 dM_restore_12 rfl rfl ?_
    refine ax_geti dM_restore_13 fM_92 sM_0 rfl ?_
    refine ax_icmp_eq (tgt := 22) dM_restore_16 (by decide) (fun c1 => ?_) (fun c1 => ?_)
    · replace h := h.1 c1
      refine ax_aloadn 0 dM_restore_22 rfl rfl ?_
      refine ax_aloadn 0 dM_restore_23 rfl rfl ?_
      refine ax_geti dM_restore_24 fM_64 sM_0 rfl ?_
      refine ax_puti dM_restore_27 pM_89 sM_0 rfl ?_
      refine ax_iconst dM_restore_30 (by decide) ?_
      refine ax_istoren dM_restore_31 rfl (by decide) rfl ?_
      exact ax_sub [1, 0] rfl h
    · replace h := h.2 c1
      refine ax_bipush dM_restore_19 (by decide) ?_
      exact ax_iret dM_restore_21 h
theorem gM_restore_32 {P : Int → ax_Mem → Prop} {M : ax_Mem} {v1 : Int} (h : ((M 0 4) ≤ v1 → P (M 0 4) M) ∧ (¬ (M 0 4) ≤ v1 → (-2147483648 ≤ (7 * v1) ∧ (7 * v1) < 2147483648) ∧ (-2147483648 ≤ ((7 * v1) + 5) ∧ ((7 * v1) + 5) < 2147483648) ∧ (-2147483648 ≤ (2 * v1) ∧ (2 * v1) < 2147483648) ∧ (0 ≤ (2 * v1) ∧ (2 * v1) < 24) ∧ (0 ≤ ((7 * v1) + 5) ∧ ((7 * v1) + 5) < 84) ∧ (-2147483648 ≤ ((7 * v1) + 6) ∧ ((7 * v1) + 6) < 2147483648) ∧ (0 ≤ ((2 * v1) + 1) ∧ ((2 * v1) + 1) < 24) ∧ (0 ≤ ((7 * v1) + 6) ∧ ((7 * v1) + 6) < 84) ∧ (-2147483648 ≤ (v1 + 1) ∧ (v1 + 1) < 2147483648) ∧ jM_restore P 32 [(0, .inr (.inr 0)), (1, .inl (v1 + 1))] [] (ax_u (ax_u M 1 (((7 * v1) + 5).toNat) (M 18 ((2 * v1).toNat))) 1 (((7 * v1) + 6).toNat) (M 18 (((2 * v1) + 1).toNat))))) : jM_restore P 32 [(0, .inr (.inr 0)), (1, .inl v1)] [] M := by
  refine ax_iloadn 1 dM_restore_32 rfl rfl ?_
  refine ax_aloadn 0 dM_restore_33 rfl rfl ?_
  refine ax_geti dM_restore_34 fM_89 sM_0 rfl ?_
  refine ax_icmp_ge (tgt := 87) dM_restore_37 (by decide) (fun c10 => ?_) (fun c10 => ?_)
  · replace h := h.1 c10
    refine ax_aloadn 0 dM_restore_87 rfl rfl ?_
    refine ax_geti dM_restore_88 fM_89 sM_0 rfl ?_
    exact ax_iret dM_restore_91 h
  · replace h := h.2 c10
    refine ax_aloadn 0 dM_restore_40 rfl rfl ?_
    refine ax_getr dM_restore_41 fM_7 sM_0 rfl ?_
    refine ax_bipush dM_restore_44 (by decide) ?_
    refine ax_iloadn 1 dM_restore_46 rfl rfl ?_
    obtain ⟨q1, h⟩ := h
    refine ax_imul dM_restore_47 q1 ?_
    refine ax_iconst dM_restore_48 (by decide) ?_
    obtain ⟨q2, h⟩ := h
    refine ax_iadd dM_restore_49 q2 ?_
    refine ax_aloadn 0 dM_restore_50 rfl rfl ?_
    refine ax_getr dM_restore_51 fM_61 sM_0 rfl ?_
    refine ax_iconst dM_restore_54 (by decide) ?_
    refine ax_iloadn 1 dM_restore_55 rfl rfl ?_
    obtain ⟨q3, h⟩ := h
    refine ax_imul dM_restore_56 q3 ?_
    obtain ⟨q4, h⟩ := h
    refine ax_iald dM_restore_57 sM_18 q4.1 q4.2 ?_
    obtain ⟨q5, h⟩ := h
    refine ax_iast dM_restore_58 sM_1 q5.1 q5.2 ?_
    refine ax_aloadn 0 dM_restore_59 rfl rfl ?_
    refine ax_getr dM_restore_60 fM_7 sM_0 rfl ?_
    refine ax_bipush dM_restore_63 (by decide) ?_
    refine ax_iloadn 1 dM_restore_65 rfl rfl ?_
    refine ax_imul dM_restore_66 q1 ?_
    refine ax_bipush dM_restore_67 (by decide) ?_
    obtain ⟨q6, h⟩ := h
    refine ax_iadd dM_restore_69 q6 ?_
    refine ax_aloadn 0 dM_restore_70 rfl rfl ?_
    refine ax_getr dM_restore_71 fM_61 sM_0 rfl ?_
    refine ax_iconst dM_restore_74 (by decide) ?_
    refine ax_iloadn 1 dM_restore_75 rfl rfl ?_
    refine ax_imul dM_restore_76 (show ax_r _ from ⟨by omega, by omega⟩) ?_
    refine ax_iconst dM_restore_77 (by decide) ?_
    refine ax_iadd dM_restore_78 (show ax_r _ from ⟨by omega, by omega⟩) ?_
    obtain ⟨q7, h⟩ := h
    refine ax_iald dM_restore_79 sM_18 q7.1 q7.2 ?_
    refine ax_top (x' := M 18 (((2 * v1) + 1).toNat)) (by first | rfl | exact ax_u_at _ _ _ _) ?_
    obtain ⟨q8, h⟩ := h
    refine ax_iast dM_restore_80 sM_1 q8.1 q8.2 ?_
    obtain ⟨q9, h⟩ := h
    refine ax_iinc (j := 1) dM_restore_81 rfl (by decide) q9 rfl ?_
    refine ax_goto (tgt := 32) dM_restore_84 (by decide) ?_
    exact ax_sub [1, 0] rfl h
theorem eM_restore {P : Int → ax_Mem → Prop} {M : ax_Mem} (h : ((M 0 33) = (-1) → P (-103) M) ∧ (¬ (M 0 33) = (-1) → ((M 0 34) = (M 0 3) → jM_restore P 32 [(0, .inr (.inr 0)), (1, .inl 0)] [] (ax_u M 0 4 (M 0 33))) ∧ (¬ (M 0 34) = (M 0 3) → P (-103) M))) : kM_restore [.inr (.inr 0)] M P := ax_ofJ (by decide) (Nat.le_of_ble_eq_true rfl) (gM_restore_0 h)
-- M_bagsOfAll dp 0
theorem gM_bagsOfAll_0 {P : Int → ax_Mem → Prop} {M : ax_Mem} (h : jM_bagsOfAll P 4 [(0, .inr (.inr 0)), (1, .inl 0), (2, .inl 0)] [] M) : jM_bagsOfAll P 0 [(0, .inr (.inr 0))] [] M := by
  refine ax_iconst dM_bagsOfAll_0 (by decide) ?_
  refine ax_istoren dM_bagsOfAll_1 rfl (by decide) rfl ?_
  refine ax_iconst dM_bagsOfAll_2 (by decide) ?_
  refine ax_istoren dM_bagsOfAll_3 rfl (by decide) rfl ?_
  exact ax_sub [2, 1, 0] rfl h
theorem gM_bagsOfAll_4 {P : Int → ax_Mem → Prop} {M : ax_Mem} {v1 v2 : Int} (h : ((M 0 4) ≤ v2 → P v1 M) ∧ (¬ (M 0 4) ≤ v2 → (-2147483648 ≤ (7 * v2) ∧ (7 * v2) < 2147483648) ∧ (-2147483648 ≤ ((7 * v2) + 5) ∧ ((7 * v2) + 5) < 2147483648) ∧ (0 ≤ ((7 * v2) + 5) ∧ ((7 * v2) + 5) < 84) ∧ (-2147483648 ≤ (v1 + (M 1 (((7 * v2) + 5).toNat))) ∧ (v1 + (M 1 (((7 * v2) + 5).toNat))) < 2147483648) ∧ (-2147483648 ≤ (v2 + 1) ∧ (v2 + 1) < 2147483648) ∧ jM_bagsOfAll P 4 [(0, .inr (.inr 0)), (1, .inl (v1 + (M 1 (((7 * v2) + 5).toNat)))), (2, .inl (v2 + 1))] [] M)) : jM_bagsOfAll P 4 [(0, .inr (.inr 0)), (1, .inl v1), (2, .inl v2)] [] M := by
  refine ax_iloadn 2 dM_bagsOfAll_4 rfl rfl ?_
  refine ax_aloadn 0 dM_bagsOfAll_5 rfl rfl ?_
  refine ax_geti dM_bagsOfAll_6 fM_89 sM_0 rfl ?_
  refine ax_icmp_ge (tgt := 32) dM_bagsOfAll_9 (by decide) (fun c6 => ?_) (fun c6 => ?_)
  · replace h := h.1 c6
    refine ax_iloadn 1 dM_bagsOfAll_32 rfl rfl ?_
    exact ax_iret dM_bagsOfAll_33 h
  · replace h := h.2 c6
    refine ax_iloadn 1 dM_bagsOfAll_12 rfl rfl ?_
    refine ax_aloadn 0 dM_bagsOfAll_13 rfl rfl ?_
    refine ax_getr dM_bagsOfAll_14 fM_7 sM_0 rfl ?_
    refine ax_bipush dM_bagsOfAll_17 (by decide) ?_
    refine ax_iloadn 2 dM_bagsOfAll_19 rfl rfl ?_
    obtain ⟨q1, h⟩ := h
    refine ax_imul dM_bagsOfAll_20 q1 ?_
    refine ax_iconst dM_bagsOfAll_21 (by decide) ?_
    obtain ⟨q2, h⟩ := h
    refine ax_iadd dM_bagsOfAll_22 q2 ?_
    obtain ⟨q3, h⟩ := h
    refine ax_iald dM_bagsOfAll_23 sM_1 q3.1 q3.2 ?_
    obtain ⟨q4, h⟩ := h
    refine ax_iadd dM_bagsOfAll_24 q4 ?_
    refine ax_istoren dM_bagsOfAll_25 rfl (by decide) rfl ?_
    obtain ⟨q5, h⟩ := h
    refine ax_iinc (j := 2) dM_bagsOfAll_26 rfl (by decide) q5 rfl ?_
    refine ax_goto (tgt := 4) dM_bagsOfAll_29 (by decide) ?_
    exact ax_sub [2, 1, 0] rfl h
theorem eM_bagsOfAll {P : Int → ax_Mem → Prop} {M : ax_Mem} (h : jM_bagsOfAll P 4 [(0, .inr (.inr 0)), (1, .inl 0), (2, .inl 0)] [] M) : kM_bagsOfAll [.inr (.inr 0)] M P := ax_ofJ (by decide) (Nat.le_of_ble_eq_true rfl) (gM_bagsOfAll_0 h)
-- M_countOf dp 1
theorem gM_countOf_0 {P : Int → ax_Mem → Prop} {M : ax_Mem} {a1 : Int} (h : ((a1 = 0) → P (M 0 0) M) ∧ ((a1 = 1) → (-2147483648 ≤ (2 * (M 0 0)) ∧ (2 * (M 0 0)) < 2147483648) ∧ (-2147483648 ≤ ((2 * (M 0 0)) * (M 0 1)) ∧ ((2 * (M 0 0)) * (M 0 1)) < 2147483648) ∧ P ((2 * (M 0 0)) * (M 0 1)) M) ∧ ((a1 = 2) → P (M 0 2) M) ∧ ((a1 = 3) → P (M 0 4) M) ∧ ((a1 = 4) → P (M 0 8) M) ∧ ((a1 = 5) → P (M 0 7) M) ∧ ((a1 = 6) → P (M 0 3) M) ∧ ((a1 = 7) → P (M 0 27) M) ∧ ((a1 = 8) → kM_bagsOfAll [.inr (.inr 0)] M (fun r4 M5 => P r4 M5)) ∧ ((¬ a1 = 0 ∧ ¬ a1 = 1 ∧ ¬ a1 = 2 ∧ ¬ a1 = 3 ∧ ¬ a1 = 4 ∧ ¬ a1 = 5 ∧ ¬ a1 = 6 ∧ ¬ a1 = 7 ∧ ¬ a1 = 8) → P (-102) M)) : jM_countOf P 0 [(0, .inr (.inr 0)), (1, .inl a1)] [] M := by
  refine ax_iloadn 1 dM_countOf_0 rfl rfl ?_
  obtain ⟨c1_0, c1_1, c1_2, c1_3, c1_4, c1_5, c1_6, c1_7, c1_8, c1_9⟩ := h
  by_cases c1d : ¬ a1 = 0 ∧ ¬ a1 = 1 ∧ ¬ a1 = 2 ∧ ¬ a1 = 3 ∧ ¬ a1 = 4 ∧ ¬ a1 = 5 ∧ ¬ a1 = 6 ∧ ¬ a1 = 7 ∧ ¬ a1 = 8
  · replace h := c1_9 c1d
    refine ax_tabOut (tgt := 104) dM_countOf_1 (by omega) (by decide) ?_
    refine ax_bipush dM_countOf_104 (by decide) ?_
    exact ax_iret dM_countOf_106 h
  · rcases (show a1 = 0 ∨ a1 = 1 ∨ a1 = 2 ∨ a1 = 3 ∨ a1 = 4 ∨ a1 = 5 ∨ a1 = 6 ∨ a1 = 7 ∨ a1 = 8 by omega) with c1e | c1e | c1e | c1e | c1e | c1e | c1e | c1e | c1e
    · replace h := c1_0 (by omega)
      refine ax_tabIn (tgt := 52) (off := 51) dM_countOf_1 (by omega) (by omega) (by rw [c1e]; decide) (by decide) ?_
      refine ax_aloadn 0 dM_countOf_52 rfl rfl ?_
      refine ax_geti dM_countOf_53 fM_80 sM_0 rfl ?_
      exact ax_iret dM_countOf_56 h
    · replace h := c1_1 (by omega)
      refine ax_tabIn (tgt := 57) (off := 56) dM_countOf_1 (by omega) (by omega) (by rw [c1e]; decide) (by decide) ?_
      refine ax_iconst dM_countOf_57 (by decide) ?_
      refine ax_aloadn 0 dM_countOf_58 rfl rfl ?_
      refine ax_geti dM_countOf_59 fM_80 sM_0 rfl ?_
      obtain ⟨q2, h⟩ := h
      refine ax_imul dM_countOf_62 q2 ?_
      refine ax_aloadn 0 dM_countOf_63 rfl rfl ?_
      refine ax_geti dM_countOf_64 fM_83 sM_0 rfl ?_
      obtain ⟨q3, h⟩ := h
      refine ax_imul dM_countOf_67 q3 ?_
      exact ax_iret dM_countOf_68 h
    · replace h := c1_2 (by omega)
      refine ax_tabIn (tgt := 69) (off := 68) dM_countOf_1 (by omega) (by omega) (by rw [c1e]; decide) (by decide) ?_
      refine ax_aloadn 0 dM_countOf_69 rfl rfl ?_
      refine ax_geti dM_countOf_70 fM_86 sM_0 rfl ?_
      exact ax_iret dM_countOf_73 h
    · replace h := c1_3 (by omega)
      refine ax_tabIn (tgt := 74) (off := 73) dM_countOf_1 (by omega) (by omega) (by rw [c1e]; decide) (by decide) ?_
      refine ax_aloadn 0 dM_countOf_74 rfl rfl ?_
      refine ax_geti dM_countOf_75 fM_89 sM_0 rfl ?_
      exact ax_iret dM_countOf_78 h
    · replace h := c1_4 (by omega)
      refine ax_tabIn (tgt := 79) (off := 78) dM_countOf_1 (by omega) (by omega) (by rw [c1e]; decide) (by decide) ?_
      refine ax_aloadn 0 dM_countOf_79 rfl rfl ?_
      refine ax_geti dM_countOf_80 fM_136 sM_0 rfl ?_
      exact ax_iret dM_countOf_83 h
    · replace h := c1_5 (by omega)
      refine ax_tabIn (tgt := 84) (off := 83) dM_countOf_1 (by omega) (by omega) (by rw [c1e]; decide) (by decide) ?_
      refine ax_aloadn 0 dM_countOf_84 rfl rfl ?_
      refine ax_geti dM_countOf_85 fM_113 sM_0 rfl ?_
      exact ax_iret dM_countOf_88 h
    · replace h := c1_6 (by omega)
      refine ax_tabIn (tgt := 89) (off := 88) dM_countOf_1 (by omega) (by omega) (by rw [c1e]; decide) (by decide) ?_
      refine ax_aloadn 0 dM_countOf_89 rfl rfl ?_
      refine ax_geti dM_countOf_90 fM_92 sM_0 rfl ?_
      exact ax_iret dM_countOf_93 h
    · replace h := c1_7 (by omega)
      refine ax_tabIn (tgt := 94) (off := 93) dM_countOf_1 (by omega) (by omega) (by rw [c1e]; decide) (by decide) ?_
      refine ax_aloadn 0 dM_countOf_94 rfl rfl ?_
      refine ax_geti dM_countOf_95 fM_228 sM_0 rfl ?_
      exact ax_iret dM_countOf_98 h
    · replace h := c1_8 (by omega)
      refine ax_tabIn (tgt := 99) (off := 98) dM_countOf_1 (by omega) (by omega) (by rw [c1e]; decide) (by decide) ?_
      refine ax_aloadn 0 dM_countOf_99 rfl rfl ?_
      refine ax_callV (dp2 := 0) (as := []) (st := []) dM_countOf_100 lM_278 sM_0 ⟨_, _, rfl⟩ rfl rfl (Nat.le_of_ble_eq_true rfl) (by decide) ?_
      refine ax_C_mono (fun r4 M5 h => ?_) h
      exact ax_iret dM_countOf_103 h
theorem eM_countOf {P : Int → ax_Mem → Prop} {M : ax_Mem} {a1 : Int} (h : ((a1 = 0) → P (M 0 0) M) ∧ ((a1 = 1) → (-2147483648 ≤ (2 * (M 0 0)) ∧ (2 * (M 0 0)) < 2147483648) ∧ (-2147483648 ≤ ((2 * (M 0 0)) * (M 0 1)) ∧ ((2 * (M 0 0)) * (M 0 1)) < 2147483648) ∧ P ((2 * (M 0 0)) * (M 0 1)) M) ∧ ((a1 = 2) → P (M 0 2) M) ∧ ((a1 = 3) → P (M 0 4) M) ∧ ((a1 = 4) → P (M 0 8) M) ∧ ((a1 = 5) → P (M 0 7) M) ∧ ((a1 = 6) → P (M 0 3) M) ∧ ((a1 = 7) → P (M 0 27) M) ∧ ((a1 = 8) → kM_bagsOfAll [.inr (.inr 0)] M (fun r4 M5 => P r4 M5)) ∧ ((¬ a1 = 0 ∧ ¬ a1 = 1 ∧ ¬ a1 = 2 ∧ ¬ a1 = 3 ∧ ¬ a1 = 4 ∧ ¬ a1 = 5 ∧ ¬ a1 = 6 ∧ ¬ a1 = 7 ∧ ¬ a1 = 8) → P (-102) M)) : kM_countOf [.inr (.inr 0), .inl a1] M P := ax_ofJ (by decide) (Nat.le_of_ble_eq_true rfl) (gM_countOf_0 h)
-- M_count dp 2
theorem gM_count_0 {P : Int → ax_Mem → Prop} {M : ax_Mem} {a1 : Int} (h : kM_countOf [.inr (.inr 0), .inl a1] M (fun r1 M2 => P r1 M2)) : jM_count P 0 [(0, .inr (.inr 0)), (1, .inl a1)] [] M := by
  refine ax_aloadn 0 dM_count_0 rfl rfl ?_
  refine ax_iloadn 1 dM_count_1 rfl rfl ?_
  refine ax_callV (dp2 := 1) (as := [.inl a1]) (st := []) dM_count_2 lM_281 sM_0 ⟨_, _, rfl⟩ rfl rfl (Nat.le_of_ble_eq_true rfl) (by decide) ?_
  refine ax_C_mono (fun r1 M2 h => ?_) h
  exact ax_iret dM_count_5 h
theorem eM_count {P : Int → ax_Mem → Prop} {M : ax_Mem} {a1 : Int} (h : kM_countOf [.inr (.inr 0), .inl a1] M (fun r1 M2 => P r1 M2)) : kM_count [.inr (.inr 0), .inl a1] M P := ax_ofJ (by decide) (Nat.le_of_ble_eq_true rfl) (gM_count_0 h)
-- M_say dp 0
theorem gM_say_0 {P : Int → ax_Mem → Prop} {M : ax_Mem} {a1 : Int} (h : P 0 (ax_u M 0 36 ((31 * (M 0 36)) + a1))) : jM_say P 0 [(0, .inr (.inr 0)), (1, .inr (.inl a1))] [] M := by
  refine ax_aloadn 0 dM_say_0 rfl rfl ?_
  refine ax_ldc2 (n := 31) dM_say_1 nM_284 ?_
  refine ax_aloadn 0 dM_say_4 rfl rfl ?_
  refine ax_getl dM_say_5 fM_286 sM_0 rfl ?_
  refine ax_lmul dM_say_8 ?_
  refine ax_lloadn 1 dM_say_9 rfl rfl ?_
  refine ax_ladd dM_say_10 ?_
  refine ax_putl dM_say_11 pM_286 sM_0 rfl ?_
  exact ax_vret dM_say_14 h
theorem eM_say {P : Int → ax_Mem → Prop} {M : ax_Mem} {a1 : Int} (h : P 0 (ax_u M 0 36 ((31 * (M 0 36)) + a1))) : kM_say [.inr (.inr 0), .inr (.inl a1)] M P := ax_ofJ (by decide) (Nat.le_of_ble_eq_true rfl) (gM_say_0 h)
-- M_sayCalls dp 7
theorem gM_sayCalls_0 {P : Int → ax_Mem → Prop} {M : ax_Mem} (h : jM_sayCalls P 2 [(0, .inr (.inr 0)), (1, .inl 0)] [] M) : jM_sayCalls P 0 [(0, .inr (.inr 0))] [] M := by
  refine ax_iconst dM_sayCalls_0 (by decide) ?_
  refine ax_istoren dM_sayCalls_1 rfl (by decide) rfl ?_
  exact ax_sub [1, 0] rfl h
theorem gM_sayCalls_2 {P : Int → ax_Mem → Prop} {M : ax_Mem} {v1 : Int} (h : ((M 0 8) ≤ v1 → jM_sayCalls P 89 [(0, .inr (.inr 0)), (1, .inl 0)] [] M) ∧ (¬ (M 0 8) ≤ v1 → kM_layPeople [.inr (.inr 0), .inl 3] M (fun _ M2 => kM_layOrder [.inr (.inr 0), .inl v1] M2 (fun _ M4 => jM_sayCalls P 22 [(0, .inr (.inr 0)), (1, .inl v1), (2, .inl 0)] [] M4)))) : jM_sayCalls P 2 [(0, .inr (.inr 0)), (1, .inl v1)] [] M := by
  refine ax_iloadn 1 dM_sayCalls_2 rfl rfl ?_
  refine ax_aloadn 0 dM_sayCalls_3 rfl rfl ?_
  refine ax_geti dM_sayCalls_4 fM_136 sM_0 rfl ?_
  refine ax_icmp_ge (tgt := 87) dM_sayCalls_7 (by decide) (fun c5 => ?_) (fun c5 => ?_)
  · replace h := h.1 c5
    refine ax_iconst dM_sayCalls_87 (by decide) ?_
    refine ax_istoren dM_sayCalls_88 rfl (by decide) rfl ?_
    exact ax_sub [1, 0] rfl h
  · replace h := h.2 c5
    refine ax_aloadn 0 dM_sayCalls_10 rfl rfl ?_
    refine ax_iconst dM_sayCalls_11 (by decide) ?_
    refine ax_callV (dp2 := 0) (as := [.inl 3]) (st := []) dM_sayCalls_12 lM_174 sM_0 ⟨_, _, rfl⟩ rfl rfl (Nat.le_of_ble_eq_true rfl) (by decide) ?_
    refine ax_C_mono (fun _ M2 h => ?_) h
    refine ax_aloadn 0 dM_sayCalls_15 rfl rfl ?_
    refine ax_iloadn 1 dM_sayCalls_16 rfl rfl ?_
    refine ax_callV (dp2 := 3) (as := [.inl v1]) (st := []) dM_sayCalls_17 lM_178 sM_0 ⟨_, _, rfl⟩ rfl rfl (Nat.le_of_ble_eq_true rfl) (by decide) ?_
    refine ax_C_mono (fun _ M4 h => ?_) h
    refine ax_iconst dM_sayCalls_20 (by decide) ?_
    refine ax_istoren dM_sayCalls_21 rfl (by decide) rfl ?_
    exact ax_sub [1, 2, 0] rfl h
theorem gM_sayCalls_89 {P : Int → ax_Mem → Prop} {M : ax_Mem} {v1 : Int} (h : (3 ≤ v1 → kM_leastOf [.inr (.inr 0)] M (fun r1 M2 => kM_say [.inr (.inr 0), .inr (.inl r1)] M2 (fun _ M4 => jM_sayCalls P 121 [(0, .inr (.inr 0)), (1, .inl 0)] [] M4))) ∧ (¬ 3 ≤ v1 → kM_goOut [.inr (.inr 0), .inl v1] M (fun r5 M6 => kM_say [.inr (.inr 0), .inr (.inl r5)] M6 (fun _ M8 => (-2147483648 ≤ (v1 + 1) ∧ (v1 + 1) < 2147483648) ∧ jM_sayCalls P 89 [(0, .inr (.inr 0)), (1, .inl (v1 + 1))] [] M8)))) : jM_sayCalls P 89 [(0, .inr (.inr 0)), (1, .inl v1)] [] M := by
  refine ax_iloadn 1 dM_sayCalls_89 rfl rfl ?_
  refine ax_iconst dM_sayCalls_90 (by decide) ?_
  refine ax_icmp_ge (tgt := 110) dM_sayCalls_91 (by decide) (fun c10 => ?_) (fun c10 => ?_)
  · replace h := h.1 c10
    refine ax_aloadn 0 dM_sayCalls_110 rfl rfl ?_
    refine ax_aloadn 0 dM_sayCalls_111 rfl rfl ?_
    refine ax_callV (dp2 := 6) (as := []) (st := [.inr (.inr 0)]) dM_sayCalls_112 lM_222 sM_0 ⟨_, _, rfl⟩ rfl rfl (Nat.le_of_ble_eq_true rfl) (by decide) ?_
    refine ax_C_mono (fun r1 M2 h => ?_) h
    refine ax_i2l dM_sayCalls_115 ?_
    refine ax_callV (dp2 := 0) (as := [.inr (.inl r1)]) (st := []) dM_sayCalls_116 lM_290 sM_0 ⟨_, _, rfl⟩ rfl rfl (Nat.le_of_ble_eq_true rfl) (by decide) ?_
    refine ax_C_mono (fun _ M4 h => ?_) h
    refine ax_iconst dM_sayCalls_119 (by decide) ?_
    refine ax_istoren dM_sayCalls_120 rfl (by decide) rfl ?_
    exact ax_sub [1, 0] rfl h
  · replace h := h.2 c10
    refine ax_aloadn 0 dM_sayCalls_94 rfl rfl ?_
    refine ax_aloadn 0 dM_sayCalls_95 rfl rfl ?_
    refine ax_iloadn 1 dM_sayCalls_96 rfl rfl ?_
    refine ax_callV (dp2 := 3) (as := [.inl v1]) (st := [.inr (.inr 0)]) dM_sayCalls_97 lM_270 sM_0 ⟨_, _, rfl⟩ rfl rfl (Nat.le_of_ble_eq_true rfl) (by decide) ?_
    refine ax_C_mono (fun r5 M6 h => ?_) h
    refine ax_i2l dM_sayCalls_100 ?_
    refine ax_callV (dp2 := 0) (as := [.inr (.inl r5)]) (st := []) dM_sayCalls_101 lM_290 sM_0 ⟨_, _, rfl⟩ rfl rfl (Nat.le_of_ble_eq_true rfl) (by decide) ?_
    refine ax_C_mono (fun _ M8 h => ?_) h
    obtain ⟨q9, h⟩ := h
    refine ax_iinc (j := 1) dM_sayCalls_104 rfl (by decide) q9 rfl ?_
    refine ax_goto (tgt := 89) dM_sayCalls_107 (by decide) ?_
    exact ax_sub [1, 0] rfl h
theorem gM_sayCalls_22 {P : Int → ax_Mem → Prop} {M : ax_Mem} {v1 v2 : Int} (h : ((M 0 17) ≤ v2 → jM_sayCalls P 49 [(0, .inr (.inr 0)), (1, .inl v1), (2, .inl 0)] [] M) ∧ (¬ (M 0 17) ≤ v2 → (0 ≤ v2 ∧ v2 < 12) ∧ kM_say [.inr (.inr 0), .inr (.inl (M 7 (v2.toNat)))] M (fun _ M3 => jM_sayCalls P 22 [(0, .inr (.inr 0)), (1, .inl v1), (2, .inl (v2 + 1))] [] M3))) : jM_sayCalls P 22 [(0, .inr (.inr 0)), (1, .inl v1), (2, .inl v2)] [] M := by
  refine ax_iloadn 2 dM_sayCalls_22 rfl rfl ?_
  refine ax_aloadn 0 dM_sayCalls_23 rfl rfl ?_
  refine ax_geti dM_sayCalls_24 fM_156 sM_0 rfl ?_
  refine ax_icmp_ge (tgt := 47) dM_sayCalls_27 (by decide) (fun c4 => ?_) (fun c4 => ?_)
  · replace h := h.1 c4
    refine ax_iconst dM_sayCalls_47 (by decide) ?_
    refine ax_istoren dM_sayCalls_48 rfl (by decide) rfl ?_
    exact ax_sub [1, 2, 0] rfl h
  · replace h := h.2 c4
    refine ax_aloadn 0 dM_sayCalls_30 rfl rfl ?_
    refine ax_aloadn 0 dM_sayCalls_31 rfl rfl ?_
    refine ax_getr dM_sayCalls_32 fM_28 sM_0 rfl ?_
    refine ax_iloadn 2 dM_sayCalls_35 rfl rfl ?_
    obtain ⟨q1, h⟩ := h
    refine ax_iald dM_sayCalls_36 sM_7 q1.1 q1.2 ?_
    refine ax_i2l dM_sayCalls_37 ?_
    refine ax_callV (dp2 := 0) (as := [.inr (.inl (M 7 (v2.toNat)))]) (st := []) dM_sayCalls_38 lM_290 sM_0 ⟨_, _, rfl⟩ rfl rfl (Nat.le_of_ble_eq_true rfl) (by decide) ?_
    refine ax_C_mono (fun _ M3 h => ?_) h
    refine ax_iinc (j := 2) dM_sayCalls_41 rfl (by decide) (show ax_r _ from ⟨by omega, by omega⟩) rfl ?_
    refine ax_goto (tgt := 22) dM_sayCalls_44 (by decide) ?_
    exact ax_sub [1, 2, 0] rfl h
theorem gM_sayCalls_121 {P : Int → ax_Mem → Prop} {M : ax_Mem} {v1 : Int} (h : (3 ≤ v1 → P 0 M) ∧ (¬ 3 ≤ v1 → kM_mixedOf [.inr (.inr 0), .inl 2, .inl 5, .inl v1] M (fun r1 M2 => kM_say [.inr (.inr 0), .inr (.inl r1)] M2 (fun _ M4 => (-2147483648 ≤ (v1 + 1) ∧ (v1 + 1) < 2147483648) ∧ jM_sayCalls P 121 [(0, .inr (.inr 0)), (1, .inl (v1 + 1))] [] M4)))) : jM_sayCalls P 121 [(0, .inr (.inr 0)), (1, .inl v1)] [] M := by
  refine ax_iloadn 1 dM_sayCalls_121 rfl rfl ?_
  refine ax_iconst dM_sayCalls_122 (by decide) ?_
  refine ax_icmp_ge (tgt := 144) dM_sayCalls_123 (by decide) (fun c6 => ?_) (fun c6 => ?_)
  · replace h := h.1 c6
    exact ax_vret dM_sayCalls_144 h
  · replace h := h.2 c6
    refine ax_aloadn 0 dM_sayCalls_126 rfl rfl ?_
    refine ax_aloadn 0 dM_sayCalls_127 rfl rfl ?_
    refine ax_iconst dM_sayCalls_128 (by decide) ?_
    refine ax_iconst dM_sayCalls_129 (by decide) ?_
    refine ax_iloadn 1 dM_sayCalls_130 rfl rfl ?_
    refine ax_callV (dp2 := 5) (as := [.inl 2, .inl 5, .inl v1]) (st := [.inr (.inr 0)]) dM_sayCalls_131 lM_258 sM_0 ⟨_, _, rfl⟩ rfl rfl (Nat.le_of_ble_eq_true rfl) (by decide) ?_
    refine ax_C_mono (fun r1 M2 h => ?_) h
    refine ax_i2l dM_sayCalls_134 ?_
    refine ax_callV (dp2 := 0) (as := [.inr (.inl r1)]) (st := []) dM_sayCalls_135 lM_290 sM_0 ⟨_, _, rfl⟩ rfl rfl (Nat.le_of_ble_eq_true rfl) (by decide) ?_
    refine ax_C_mono (fun _ M4 h => ?_) h
    obtain ⟨q5, h⟩ := h
    refine ax_iinc (j := 1) dM_sayCalls_138 rfl (by decide) q5 rfl ?_
    refine ax_goto (tgt := 121) dM_sayCalls_141 (by decide) ?_
    exact ax_sub [1, 0] rfl h
theorem gM_sayCalls_49 {P : Int → ax_Mem → Prop} {M : ax_Mem} {v1 v2 : Int} (h : (3 ≤ v2 → kM_doorsOf [.inr (.inr 0), .inl v1] M (fun r1 M2 => kM_say [.inr (.inr 0), .inr (.inl r1)] M2 (fun _ M4 => (-2147483648 ≤ (v1 + 1) ∧ (v1 + 1) < 2147483648) ∧ jM_sayCalls P 2 [(0, .inr (.inr 0)), (1, .inl (v1 + 1))] [] M4))) ∧ (¬ 3 ≤ v2 → kM_boardOf [.inr (.inr 0), .inl v1, .inl v2] M (fun r6 M7 => kM_say [.inr (.inr 0), .inr (.inl r6)] M7 (fun _ M9 => (-2147483648 ≤ (v2 + 1) ∧ (v2 + 1) < 2147483648) ∧ jM_sayCalls P 49 [(0, .inr (.inr 0)), (1, .inl v1), (2, .inl (v2 + 1))] [] M9)))) : jM_sayCalls P 49 [(0, .inr (.inr 0)), (1, .inl v1), (2, .inl v2)] [] M := by
  refine ax_iloadn 2 dM_sayCalls_49 rfl rfl ?_
  refine ax_iconst dM_sayCalls_50 (by decide) ?_
  refine ax_icmp_ge (tgt := 71) dM_sayCalls_51 (by decide) (fun c11 => ?_) (fun c11 => ?_)
  · replace h := h.1 c11
    refine ax_aloadn 0 dM_sayCalls_71 rfl rfl ?_
    refine ax_aloadn 0 dM_sayCalls_72 rfl rfl ?_
    refine ax_iloadn 1 dM_sayCalls_73 rfl rfl ?_
    refine ax_callV (dp2 := 5) (as := [.inl v1]) (st := [.inr (.inr 0)]) dM_sayCalls_74 lM_240 sM_0 ⟨_, _, rfl⟩ rfl rfl (Nat.le_of_ble_eq_true rfl) (by decide) ?_
    refine ax_C_mono (fun r1 M2 h => ?_) h
    refine ax_i2l dM_sayCalls_77 ?_
    refine ax_callV (dp2 := 0) (as := [.inr (.inl r1)]) (st := []) dM_sayCalls_78 lM_290 sM_0 ⟨_, _, rfl⟩ rfl rfl (Nat.le_of_ble_eq_true rfl) (by decide) ?_
    refine ax_C_mono (fun _ M4 h => ?_) h
    obtain ⟨q5, h⟩ := h
    refine ax_iinc (j := 1) dM_sayCalls_81 rfl (by decide) q5 rfl ?_
    refine ax_goto (tgt := 2) dM_sayCalls_84 (by decide) ?_
    exact ax_sub [1, 0] rfl h
  · replace h := h.2 c11
    refine ax_aloadn 0 dM_sayCalls_54 rfl rfl ?_
    refine ax_aloadn 0 dM_sayCalls_55 rfl rfl ?_
    refine ax_iloadn 1 dM_sayCalls_56 rfl rfl ?_
    refine ax_iloadn 2 dM_sayCalls_57 rfl rfl ?_
    refine ax_callV (dp2 := 6) (as := [.inl v1, .inl v2]) (st := [.inr (.inr 0)]) dM_sayCalls_58 lM_215 sM_0 ⟨_, _, rfl⟩ rfl rfl (Nat.le_of_ble_eq_true rfl) (by decide) ?_
    refine ax_C_mono (fun r6 M7 h => ?_) h
    refine ax_i2l dM_sayCalls_61 ?_
    refine ax_callV (dp2 := 0) (as := [.inr (.inl r6)]) (st := []) dM_sayCalls_62 lM_290 sM_0 ⟨_, _, rfl⟩ rfl rfl (Nat.le_of_ble_eq_true rfl) (by decide) ?_
    refine ax_C_mono (fun _ M9 h => ?_) h
    obtain ⟨q10, h⟩ := h
    refine ax_iinc (j := 2) dM_sayCalls_65 rfl (by decide) q10 rfl ?_
    refine ax_goto (tgt := 49) dM_sayCalls_68 (by decide) ?_
    exact ax_sub [1, 2, 0] rfl h
theorem eM_sayCalls {P : Int → ax_Mem → Prop} {M : ax_Mem} (h : jM_sayCalls P 2 [(0, .inr (.inr 0)), (1, .inl 0)] [] M) : kM_sayCalls [.inr (.inr 0)] M P := ax_ofJ (by decide) (Nat.le_of_ble_eq_true rfl) (gM_sayCalls_0 h)
-- M_digest dp 8
theorem gM_digest_0 {P : Int → ax_Mem → Prop} {M : ax_Mem} (h : jM_digest P 9 [(0, .inr (.inr 0)), (1, .inl 0)] [] (ax_u M 0 36 523)) : jM_digest P 0 [(0, .inr (.inr 0))] [] M := by
  refine ax_aloadn 0 dM_digest_0 rfl rfl ?_
  refine ax_ldc2 (n := 523) dM_digest_1 nM_294 ?_
  refine ax_putl dM_digest_4 pM_286 sM_0 rfl ?_
  refine ax_iconst dM_digest_7 (by decide) ?_
  refine ax_istoren dM_digest_8 rfl (by decide) rfl ?_
  exact ax_sub [1, 0] rfl h
theorem gM_digest_9 {P : Int → ax_Mem → Prop} {M : ax_Mem} {v1 : Int} (h : (-2147483648 ≤ (7 * (M 0 4)) ∧ (7 * (M 0 4)) < 2147483648) ∧ ((7 * (M 0 4)) ≤ v1 → kM_lacks [.inr (.inr 0)] M (fun r2 M3 => (¬ r2 = 0 → jM_digest P 50 [(0, .inr (.inr 0)), (1, .inl 0)] [] M3) ∧ (r2 = 0 → kM_sayCalls [.inr (.inr 0)] M3 (fun _ M5 => jM_digest P 50 [(0, .inr (.inr 0)), (1, .inl 0)] [] M5)))) ∧ (¬ (7 * (M 0 4)) ≤ v1 → (0 ≤ v1 ∧ v1 < 84) ∧ kM_say [.inr (.inr 0), .inr (.inl (M 1 (v1.toNat)))] M (fun _ M9 => jM_digest P 9 [(0, .inr (.inr 0)), (1, .inl (v1 + 1))] [] M9))) : jM_digest P 9 [(0, .inr (.inr 0)), (1, .inl v1)] [] M := by
  refine ax_iloadn 1 dM_digest_9 rfl rfl ?_
  refine ax_bipush dM_digest_10 (by decide) ?_
  refine ax_aloadn 0 dM_digest_12 rfl rfl ?_
  refine ax_geti dM_digest_13 fM_89 sM_0 rfl ?_
  obtain ⟨q1, h⟩ := h
  refine ax_imul dM_digest_16 q1 ?_
  refine ax_icmp_ge (tgt := 37) dM_digest_17 (by decide) (fun c10 => ?_) (fun c10 => ?_)
  · replace h := h.1 c10
    refine ax_aloadn 0 dM_digest_37 rfl rfl ?_
    refine ax_callV (dp2 := 0) (as := []) (st := []) dM_digest_38 lM_95 sM_0 ⟨_, _, rfl⟩ rfl rfl (Nat.le_of_ble_eq_true rfl) (by decide) ?_
    refine ax_C_mono (fun r2 M3 h => ?_) h
    refine ax_if_ne (tgt := 48) dM_digest_41 (by decide) (fun c6 => ?_) (fun c6 => ?_)
    · replace h := h.1 c6
      refine ax_iconst dM_digest_48 (by decide) ?_
      refine ax_istoren dM_digest_49 rfl (by decide) rfl ?_
      exact ax_sub [1, 0] rfl h
    · replace h := h.2 c6
      refine ax_aloadn 0 dM_digest_44 rfl rfl ?_
      refine ax_callV (dp2 := 7) (as := []) (st := []) dM_digest_45 lM_296 sM_0 ⟨_, _, rfl⟩ rfl rfl (Nat.le_of_ble_eq_true rfl) (by decide) ?_
      refine ax_C_mono (fun _ M5 h => ?_) h
      refine ax_iconst dM_digest_48 (by decide) ?_
      refine ax_istoren dM_digest_49 rfl (by decide) rfl ?_
      exact ax_sub [1, 0] rfl h
  · replace h := h.2 c10
    refine ax_aloadn 0 dM_digest_20 rfl rfl ?_
    refine ax_aloadn 0 dM_digest_21 rfl rfl ?_
    refine ax_getr dM_digest_22 fM_7 sM_0 rfl ?_
    refine ax_iloadn 1 dM_digest_25 rfl rfl ?_
    obtain ⟨q7, h⟩ := h
    refine ax_iald dM_digest_26 sM_1 q7.1 q7.2 ?_
    refine ax_i2l dM_digest_27 ?_
    refine ax_callV (dp2 := 0) (as := [.inr (.inl (M 1 (v1.toNat)))]) (st := []) dM_digest_28 lM_290 sM_0 ⟨_, _, rfl⟩ rfl rfl (Nat.le_of_ble_eq_true rfl) (by decide) ?_
    refine ax_C_mono (fun _ M9 h => ?_) h
    refine ax_iinc (j := 1) dM_digest_31 rfl (by decide) (show ax_r _ from ⟨by omega, by omega⟩) rfl ?_
    refine ax_goto (tgt := 9) dM_digest_34 (by decide) ?_
    exact ax_sub [1, 0] rfl h
theorem gM_digest_50 {P : Int → ax_Mem → Prop} {M : ax_Mem} {v1 : Int} (h : ((M 0 7) ≤ v1 → jM_digest P 77 [(0, .inr (.inr 0)), (1, .inl 0)] [] M) ∧ (¬ (M 0 7) ≤ v1 → (0 ≤ v1 ∧ v1 < 16) ∧ kM_say [.inr (.inr 0), .inr (.inl (M 2 (v1.toNat)))] M (fun _ M3 => jM_digest P 50 [(0, .inr (.inr 0)), (1, .inl (v1 + 1))] [] M3))) : jM_digest P 50 [(0, .inr (.inr 0)), (1, .inl v1)] [] M := by
  refine ax_iloadn 1 dM_digest_50 rfl rfl ?_
  refine ax_aloadn 0 dM_digest_51 rfl rfl ?_
  refine ax_geti dM_digest_52 fM_113 sM_0 rfl ?_
  refine ax_icmp_ge (tgt := 75) dM_digest_55 (by decide) (fun c4 => ?_) (fun c4 => ?_)
  · replace h := h.1 c4
    refine ax_iconst dM_digest_75 (by decide) ?_
    refine ax_istoren dM_digest_76 rfl (by decide) rfl ?_
    exact ax_sub [1, 0] rfl h
  · replace h := h.2 c4
    refine ax_aloadn 0 dM_digest_58 rfl rfl ?_
    refine ax_aloadn 0 dM_digest_59 rfl rfl ?_
    refine ax_getr dM_digest_60 fM_13 sM_0 rfl ?_
    refine ax_iloadn 1 dM_digest_63 rfl rfl ?_
    obtain ⟨q1, h⟩ := h
    refine ax_iald dM_digest_64 sM_2 q1.1 q1.2 ?_
    refine ax_i2l dM_digest_65 ?_
    refine ax_callV (dp2 := 0) (as := [.inr (.inl (M 2 (v1.toNat)))]) (st := []) dM_digest_66 lM_290 sM_0 ⟨_, _, rfl⟩ rfl rfl (Nat.le_of_ble_eq_true rfl) (by decide) ?_
    refine ax_C_mono (fun _ M3 h => ?_) h
    refine ax_iinc (j := 1) dM_digest_69 rfl (by decide) (show ax_r _ from ⟨by omega, by omega⟩) rfl ?_
    refine ax_goto (tgt := 50) dM_digest_72 (by decide) ?_
    exact ax_sub [1, 0] rfl h
theorem gM_digest_77 {P : Int → ax_Mem → Prop} {M : ax_Mem} {v1 : Int} (h : (9 ≤ v1 → P (M 0 36) M) ∧ (¬ 9 ≤ v1 → kM_countOf [.inr (.inr 0), .inl v1] M (fun r1 M2 => kM_say [.inr (.inr 0), .inr (.inl r1)] M2 (fun _ M4 => (-2147483648 ≤ (v1 + 1) ∧ (v1 + 1) < 2147483648) ∧ jM_digest P 77 [(0, .inr (.inr 0)), (1, .inl (v1 + 1))] [] M4)))) : jM_digest P 77 [(0, .inr (.inr 0)), (1, .inl v1)] [] M := by
  refine ax_iloadn 1 dM_digest_77 rfl rfl ?_
  refine ax_bipush dM_digest_78 (by decide) ?_
  refine ax_icmp_ge (tgt := 99) dM_digest_80 (by decide) (fun c6 => ?_) (fun c6 => ?_)
  · replace h := h.1 c6
    refine ax_aloadn 0 dM_digest_99 rfl rfl ?_
    refine ax_getl dM_digest_100 fM_286 sM_0 rfl ?_
    exact ax_lret dM_digest_103 h
  · replace h := h.2 c6
    refine ax_aloadn 0 dM_digest_83 rfl rfl ?_
    refine ax_aloadn 0 dM_digest_84 rfl rfl ?_
    refine ax_iloadn 1 dM_digest_85 rfl rfl ?_
    refine ax_callV (dp2 := 1) (as := [.inl v1]) (st := [.inr (.inr 0)]) dM_digest_86 lM_281 sM_0 ⟨_, _, rfl⟩ rfl rfl (Nat.le_of_ble_eq_true rfl) (by decide) ?_
    refine ax_C_mono (fun r1 M2 h => ?_) h
    refine ax_i2l dM_digest_89 ?_
    refine ax_callV (dp2 := 0) (as := [.inr (.inl r1)]) (st := []) dM_digest_90 lM_290 sM_0 ⟨_, _, rfl⟩ rfl rfl (Nat.le_of_ble_eq_true rfl) (by decide) ?_
    refine ax_C_mono (fun _ M4 h => ?_) h
    obtain ⟨q5, h⟩ := h
    refine ax_iinc (j := 1) dM_digest_93 rfl (by decide) q5 rfl ?_
    refine ax_goto (tgt := 77) dM_digest_96 (by decide) ?_
    exact ax_sub [1, 0] rfl h
theorem eM_digest {P : Int → ax_Mem → Prop} {M : ax_Mem} (h : jM_digest P 9 [(0, .inr (.inr 0)), (1, .inl 0)] [] (ax_u M 0 36 523)) : kM_digest [.inr (.inr 0)] M P := ax_ofJ (by decide) (Nat.le_of_ble_eq_true rfl) (gM_digest_0 h)
