-- by program gen2.py: one theorem a segment
-- M_in dp 0
theorem gM_in_0 {P : Int → ax_Mem → Prop} {M : ax_Mem} {a1 a2 a3 : Int} (h : ((-2 ^ 63 ≤ (a1 : Int) ∧ (a1 : Int) < 2 ^ 63) ∧ (-2 ^ 63 ≤ (a2 : Int) ∧ (a2 : Int) < 2 ^ 63)) ∧ ((ax_cmp a1 a2) < 0 → P 0 M) ∧ (¬ (ax_cmp a1 a2) < 0 → ((-2 ^ 63 ≤ (a1 : Int) ∧ (a1 : Int) < 2 ^ 63) ∧ (-2 ^ 63 ≤ (a3 : Int) ∧ (a3 : Int) < 2 ^ 63)) ∧ (0 < (ax_cmp a1 a3) → P 0 M) ∧ (¬ 0 < (ax_cmp a1 a3) → P 1 M))) : jM_in P 0 [(0, .inr (.inl a1)), (2, .inr (.inl a2)), (4, .inr (.inl a3))] [] M := by
  refine ax_lloadn 0 dM_in_0 rfl rfl ?_
  refine ax_lloadn 1 dM_in_1 rfl rfl ?_
  obtain ⟨q1, h⟩ := h
  refine ax_lcmp dM_in_2 q1.1 q1.2 ?_
  refine ax_if_lt (tgt := 17) dM_in_3 (by decide) (fun c4 => ?_) (fun c4 => ?_)
  · replace h := h.1 c4
    refine ax_iconst dM_in_17 (by decide) ?_
    exact ax_zret dM_in_18 (by decide) h
  · replace h := h.2 c4
    refine ax_lloadn 0 dM_in_6 rfl rfl ?_
    refine ax_lload 2 dM_in_7 rfl ?_
    obtain ⟨q2, h⟩ := h
    refine ax_lcmp dM_in_9 q2.1 q2.2 ?_
    refine ax_if_gt (tgt := 17) dM_in_10 (by decide) (fun c3 => ?_) (fun c3 => ?_)
    · replace h := h.1 c3
      refine ax_iconst dM_in_17 (by decide) ?_
      exact ax_zret dM_in_18 (by decide) h
    · replace h := h.2 c3
      refine ax_iconst dM_in_13 (by decide) ?_
      refine ax_goto (tgt := 18) dM_in_14 (by decide) ?_
      exact ax_zret dM_in_18 (by decide) h
theorem eM_in {P : Int → ax_Mem → Prop} {M : ax_Mem} {a1 a2 a3 : Int} (h : ((-2 ^ 63 ≤ (a1 : Int) ∧ (a1 : Int) < 2 ^ 63) ∧ (-2 ^ 63 ≤ (a2 : Int) ∧ (a2 : Int) < 2 ^ 63)) ∧ ((ax_cmp a1 a2) < 0 → P 0 M) ∧ (¬ (ax_cmp a1 a2) < 0 → ((-2 ^ 63 ≤ (a1 : Int) ∧ (a1 : Int) < 2 ^ 63) ∧ (-2 ^ 63 ≤ (a3 : Int) ∧ (a3 : Int) < 2 ^ 63)) ∧ (0 < (ax_cmp a1 a3) → P 0 M) ∧ (¬ 0 < (ax_cmp a1 a3) → P 1 M))) : kM_in [.inr (.inl a1), .inr (.inl a2), .inr (.inl a3)] M P := ax_ofJ (by decide) (Nat.le_of_ble_eq_true rfl) (gM_in_0 h)
-- M_cabin dp 1
theorem gM_cabin_0 {P : Int → ax_Mem → Prop} {M : ax_Mem} {a1 a2 a3 : Int} (h : kM_in [.inr (.inl a1), .inr (.inl 2), .inr (.inl 12)] M (fun r1 M2 => (r1 = 0 → P (-102) M2) ∧ (¬ r1 = 0 → kM_in [.inr (.inl a2), .inr (.inl 1), .inr (.inl 3)] M2 (fun r3 M4 => (r3 = 0 → P (-102) M4) ∧ (¬ r3 = 0 → kM_in [.inr (.inl a3), .inr (.inl 0), .inr (.inl 6)] M4 (fun r5 M6 => (¬ r5 = 0 → (-2147483648 ≤ ((M6 0 3) + 1) ∧ ((M6 0 3) + 1) < 2147483648) ∧ (-2147483648 ≤ (2 * a1) ∧ (2 * a1) < 2147483648) ∧ (-2147483648 ≤ ((2 * a1) * a2) ∧ ((2 * a1) * a2) < 2147483648) ∧ P ((2 * a1) * a2) (ax_u (ax_u (ax_u (ax_u (ax_u M6 0 0 a1) 0 1 a2) 0 2 a3) 0 4 0) 0 3 ((M6 0 3) + 1))) ∧ (r5 = 0 → P (-102) M6))))))) : jM_cabin P 0 [(0, .inr (.inr 0)), (1, .inl a1), (2, .inl a2), (3, .inl a3)] [] M := by
  refine ax_iloadn 1 dM_cabin_0 rfl rfl ?_
  refine ax_i2l dM_cabin_1 ?_
  refine ax_ldc2 (n := 2) dM_cabin_2 nM_68 ?_
  refine ax_ldc2 (n := 12) dM_cabin_5 nM_70 ?_
  refine ax_callS (dp2 := 0) (as := [.inr (.inl a1), .inr (.inl 2), .inr (.inl 12)]) (st := []) dM_cabin_8 lM_72 rfl rfl (Nat.le_of_ble_eq_true rfl) (by decide) ?_
  refine ax_C_mono (fun r1 M2 h => ?_) h
  refine ax_if_eq (tgt := 38) dM_cabin_11 (by decide) (fun c12 => ?_) (fun c12 => ?_)
  · replace h := h.1 c12
    refine ax_bipush dM_cabin_38 (by decide) ?_
    exact ax_iret dM_cabin_40 h
  · replace h := h.2 c12
    refine ax_iloadn 2 dM_cabin_14 rfl rfl ?_
    refine ax_i2l dM_cabin_15 ?_
    refine ax_lconst (i := 1) dM_cabin_16 rfl ?_
    refine ax_ldc2 (n := 3) dM_cabin_17 nM_76 ?_
    refine ax_callS (dp2 := 0) (as := [.inr (.inl a2), .inr (.inl 1), .inr (.inl 3)]) (st := []) dM_cabin_20 lM_72 rfl rfl (Nat.le_of_ble_eq_true rfl) (by decide) ?_
    refine ax_C_mono (fun r3 M4 h => ?_) h
    refine ax_if_eq (tgt := 38) dM_cabin_23 (by decide) (fun c11 => ?_) (fun c11 => ?_)
    · replace h := h.1 c11
      refine ax_bipush dM_cabin_38 (by decide) ?_
      exact ax_iret dM_cabin_40 h
    · replace h := h.2 c11
      refine ax_iloadn 3 dM_cabin_26 rfl rfl ?_
      refine ax_i2l dM_cabin_27 ?_
      refine ax_lconst (i := 0) dM_cabin_28 rfl ?_
      refine ax_ldc2 (n := 6) dM_cabin_29 nM_78 ?_
      refine ax_callS (dp2 := 0) (as := [.inr (.inl a3), .inr (.inl 0), .inr (.inl 6)]) (st := []) dM_cabin_32 lM_72 rfl rfl (Nat.le_of_ble_eq_true rfl) (by decide) ?_
      refine ax_C_mono (fun r5 M6 h => ?_) h
      refine ax_if_ne (tgt := 41) dM_cabin_35 (by decide) (fun c10 => ?_) (fun c10 => ?_)
      · replace h := h.1 c10
        refine ax_aloadn 0 dM_cabin_41 rfl rfl ?_
        refine ax_iloadn 1 dM_cabin_42 rfl rfl ?_
        refine ax_puti dM_cabin_43 pM_80 sM_0 rfl ?_
        refine ax_aloadn 0 dM_cabin_46 rfl rfl ?_
        refine ax_iloadn 2 dM_cabin_47 rfl rfl ?_
        refine ax_puti dM_cabin_48 pM_83 sM_0 rfl ?_
        refine ax_aloadn 0 dM_cabin_51 rfl rfl ?_
        refine ax_iloadn 3 dM_cabin_52 rfl rfl ?_
        refine ax_puti dM_cabin_53 pM_86 sM_0 rfl ?_
        refine ax_aloadn 0 dM_cabin_56 rfl rfl ?_
        refine ax_iconst dM_cabin_57 (by decide) ?_
        refine ax_puti dM_cabin_58 pM_89 sM_0 rfl ?_
        refine ax_aloadn 0 dM_cabin_61 rfl rfl ?_
        refine ax_dup dM_cabin_62 rfl ?_
        refine ax_geti dM_cabin_63 fM_92 sM_0 rfl ?_
        refine ax_top (x' := M6 0 3) (by first | rfl | exact ax_u_at _ _ _ _) ?_
        refine ax_iconst dM_cabin_66 (by decide) ?_
        obtain ⟨q7, h⟩ := h
        refine ax_iadd dM_cabin_67 q7 ?_
        refine ax_puti dM_cabin_68 pM_92 sM_0 rfl ?_
        refine ax_iconst dM_cabin_71 (by decide) ?_
        refine ax_aloadn 0 dM_cabin_72 rfl rfl ?_
        refine ax_geti dM_cabin_73 fM_80 sM_0 rfl ?_
        refine ax_top (x' := a1) (by first | rfl | exact ax_u_at _ _ _ _) ?_
        obtain ⟨q8, h⟩ := h
        refine ax_imul dM_cabin_76 q8 ?_
        refine ax_aloadn 0 dM_cabin_77 rfl rfl ?_
        refine ax_geti dM_cabin_78 fM_83 sM_0 rfl ?_
        refine ax_top (x' := a2) (by first | rfl | exact ax_u_at _ _ _ _) ?_
        obtain ⟨q9, h⟩ := h
        refine ax_imul dM_cabin_81 q9 ?_
        exact ax_iret dM_cabin_82 h
      · replace h := h.2 c10
        refine ax_bipush dM_cabin_38 (by decide) ?_
        exact ax_iret dM_cabin_40 h
theorem eM_cabin {P : Int → ax_Mem → Prop} {M : ax_Mem} {a1 a2 a3 : Int} (h : kM_in [.inr (.inl a1), .inr (.inl 2), .inr (.inl 12)] M (fun r1 M2 => (r1 = 0 → P (-102) M2) ∧ (¬ r1 = 0 → kM_in [.inr (.inl a2), .inr (.inl 1), .inr (.inl 3)] M2 (fun r3 M4 => (r3 = 0 → P (-102) M4) ∧ (¬ r3 = 0 → kM_in [.inr (.inl a3), .inr (.inl 0), .inr (.inl 6)] M4 (fun r5 M6 => (¬ r5 = 0 → (-2147483648 ≤ ((M6 0 3) + 1) ∧ ((M6 0 3) + 1) < 2147483648) ∧ (-2147483648 ≤ (2 * a1) ∧ (2 * a1) < 2147483648) ∧ (-2147483648 ≤ ((2 * a1) * a2) ∧ ((2 * a1) * a2) < 2147483648) ∧ P ((2 * a1) * a2) (ax_u (ax_u (ax_u (ax_u (ax_u M6 0 0 a1) 0 1 a2) 0 2 a3) 0 4 0) 0 3 ((M6 0 3) + 1))) ∧ (r5 = 0 → P (-102) M6))))))) : kM_cabin [.inr (.inr 0), .inl a1, .inl a2, .inl a3] M P := ax_ofJ (by decide) (Nat.le_of_ble_eq_true rfl) (gM_cabin_0 h)
-- M_lacks dp 0
theorem gM_lacks_0 {P : Int → ax_Mem → Prop} {M : ax_Mem} (h : (¬ (M 0 0) = 0 → P 0 M) ∧ ((M 0 0) = 0 → P 1 M)) : jM_lacks P 0 [(0, .inr (.inr 0))] [] M := by
  refine ax_aloadn 0 dM_lacks_0 rfl rfl ?_
  refine ax_geti dM_lacks_1 fM_80 sM_0 rfl ?_
  refine ax_if_ne (tgt := 11) dM_lacks_4 (by decide) (fun c1 => ?_) (fun c1 => ?_)
  · replace h := h.1 c1
    refine ax_iconst dM_lacks_11 (by decide) ?_
    exact ax_zret dM_lacks_12 (by decide) h
  · replace h := h.2 c1
    refine ax_iconst dM_lacks_7 (by decide) ?_
    refine ax_goto (tgt := 12) dM_lacks_8 (by decide) ?_
    exact ax_zret dM_lacks_12 (by decide) h
theorem eM_lacks {P : Int → ax_Mem → Prop} {M : ax_Mem} (h : (¬ (M 0 0) = 0 → P 0 M) ∧ ((M 0 0) = 0 → P 1 M)) : kM_lacks [.inr (.inr 0)] M P := ax_ofJ (by decide) (Nat.le_of_ble_eq_true rfl) (gM_lacks_0 h)
-- M_isPerson dp 1
theorem gM_isPerson_0 {P : Int → ax_Mem → Prop} {M : ax_Mem} {a1 : Int} (h : (-2147483648 ≤ ((M 0 4) - 1) ∧ ((M 0 4) - 1) < 2147483648) ∧ kM_in [.inr (.inl a1), .inr (.inl 0), .inr (.inl ((M 0 4) - 1))] M (fun r2 M3 => (r2 = 0 ∨ r2 = 1) ∧ P r2 M3)) : jM_isPerson P 0 [(0, .inr (.inr 0)), (1, .inl a1)] [] M := by
  refine ax_iloadn 1 dM_isPerson_0 rfl rfl ?_
  refine ax_i2l dM_isPerson_1 ?_
  refine ax_lconst (i := 0) dM_isPerson_2 rfl ?_
  refine ax_aloadn 0 dM_isPerson_3 rfl rfl ?_
  refine ax_geti dM_isPerson_4 fM_89 sM_0 rfl ?_
  refine ax_iconst dM_isPerson_7 (by decide) ?_
  obtain ⟨q1, h⟩ := h
  refine ax_isub dM_isPerson_8 q1 ?_
  refine ax_i2l dM_isPerson_9 ?_
  refine ax_callS (dp2 := 0) (as := [.inr (.inl a1), .inr (.inl 0), .inr (.inl ((M 0 4) - 1))]) (st := []) dM_isPerson_10 lM_72 rfl rfl (Nat.le_of_ble_eq_true rfl) (by decide) ?_
  refine ax_C_mono (fun r2 M3 h => ?_) h
  exact ax_zret dM_isPerson_13 h.1 h.2
theorem eM_isPerson {P : Int → ax_Mem → Prop} {M : ax_Mem} {a1 : Int} (h : (-2147483648 ≤ ((M 0 4) - 1) ∧ ((M 0 4) - 1) < 2147483648) ∧ kM_in [.inr (.inl a1), .inr (.inl 0), .inr (.inl ((M 0 4) - 1))] M (fun r2 M3 => (r2 = 0 ∨ r2 = 1) ∧ P r2 M3)) : kM_isPerson [.inr (.inr 0), .inl a1] M P := ax_ofJ (by decide) (Nat.le_of_ble_eq_true rfl) (gM_isPerson_0 h)
-- M_isTaken dp 0
theorem gM_isTaken_0 {P : Int → ax_Mem → Prop} {M : ax_Mem} {a1 a2 a3 : Int} (h : jM_isTaken P 6 [(0, .inr (.inr 0)), (1, .inl a1), (2, .inl a2), (3, .inl a3), (4, .inl 0), (5, .inl 0)] [] M) : jM_isTaken P 0 [(0, .inr (.inr 0)), (1, .inl a1), (2, .inl a2), (3, .inl a3)] [] M := by
  refine ax_iconst dM_isTaken_0 (by decide) ?_
  refine ax_istore dM_isTaken_1 (by decide) rfl ?_
  refine ax_iconst dM_isTaken_3 (by decide) ?_
  refine ax_istore dM_isTaken_4 (by decide) rfl ?_
  exact ax_sub [2, 3, 4, 5, 1, 0] rfl h
theorem gM_isTaken_6 {P : Int → ax_Mem → Prop} {M : ax_Mem} {v1 v2 v3 v4 v5 : Int} (h : ((M 0 4) ≤ v5 → (v4 = 0 ∨ v4 = 1) ∧ P v4 M) ∧ (¬ (M 0 4) ≤ v5 → (¬ v4 = 0 → (-2147483648 ≤ (v5 + 1) ∧ (v5 + 1) < 2147483648) ∧ jM_isTaken P 6 [(0, .inr (.inr 0)), (1, .inl v1), (2, .inl v2), (3, .inl v3), (4, .inl 1), (5, .inl (v5 + 1))] [] M) ∧ (v4 = 0 → (-2147483648 ≤ (7 * v5) ∧ (7 * v5) < 2147483648) ∧ (-2147483648 ≤ ((7 * v5) + 2) ∧ ((7 * v5) + 2) < 2147483648) ∧ (0 ≤ ((7 * v5) + 2) ∧ ((7 * v5) + 2) < 84) ∧ (¬ (M 1 (((7 * v5) + 2).toNat)) = v1 → (-2147483648 ≤ (v5 + 1) ∧ (v5 + 1) < 2147483648) ∧ jM_isTaken P 6 [(0, .inr (.inr 0)), (1, .inl v1), (2, .inl v2), (3, .inl v3), (4, .inl 0), (5, .inl (v5 + 1))] [] M) ∧ ((M 1 (((7 * v5) + 2).toNat)) = v1 → (-2147483648 ≤ ((7 * v5) + 3) ∧ ((7 * v5) + 3) < 2147483648) ∧ (0 ≤ ((7 * v5) + 3) ∧ ((7 * v5) + 3) < 84) ∧ (¬ (M 1 (((7 * v5) + 3).toNat)) = v2 → (-2147483648 ≤ (v5 + 1) ∧ (v5 + 1) < 2147483648) ∧ jM_isTaken P 6 [(0, .inr (.inr 0)), (1, .inl v1), (2, .inl v2), (3, .inl v3), (4, .inl 0), (5, .inl (v5 + 1))] [] M) ∧ ((M 1 (((7 * v5) + 3).toNat)) = v2 → (-2147483648 ≤ ((7 * v5) + 4) ∧ ((7 * v5) + 4) < 2147483648) ∧ (0 ≤ ((7 * v5) + 4) ∧ ((7 * v5) + 4) < 84) ∧ (¬ (M 1 (((7 * v5) + 4).toNat)) = v3 → (-2147483648 ≤ (v5 + 1) ∧ (v5 + 1) < 2147483648) ∧ jM_isTaken P 6 [(0, .inr (.inr 0)), (1, .inl v1), (2, .inl v2), (3, .inl v3), (4, .inl 0), (5, .inl (v5 + 1))] [] M) ∧ ((M 1 (((7 * v5) + 4).toNat)) = v3 → (-2147483648 ≤ (v5 + 1) ∧ (v5 + 1) < 2147483648) ∧ jM_isTaken P 6 [(0, .inr (.inr 0)), (1, .inl v1), (2, .inl v2), (3, .inl v3), (4, .inl 1), (5, .inl (v5 + 1))] [] M)))))) : jM_isTaken P 6 [(0, .inr (.inr 0)), (1, .inl v1), (2, .inl v2), (3, .inl v3), (4, .inl v4), (5, .inl v5)] [] M := by
  refine ax_iload 5 dM_isTaken_6 rfl ?_
  refine ax_aloadn 0 dM_isTaken_8 rfl rfl ?_
  refine ax_geti dM_isTaken_9 fM_89 sM_0 rfl ?_
  refine ax_icmp_ge (tgt := 81) dM_isTaken_12 (by decide) (fun c17 => ?_) (fun c17 => ?_)
  · replace h := h.1 c17
    refine ax_iload 4 dM_isTaken_81 rfl ?_
    exact ax_zret dM_isTaken_83 h.1 h.2
  · replace h := h.2 c17
    refine ax_iload 4 dM_isTaken_15 rfl ?_
    refine ax_if_ne (tgt := 68) dM_isTaken_17 (by decide) (fun c16 => ?_) (fun c16 => ?_)
    · replace h := h.1 c16
      refine ax_iconst dM_isTaken_68 (by decide) ?_
      refine ax_goto (tgt := 73) dM_isTaken_69 (by decide) ?_
      refine ax_istore dM_isTaken_73 (by decide) rfl ?_
      obtain ⟨q1, h⟩ := h
      refine ax_iinc (j := 5) dM_isTaken_75 rfl (by decide) q1 rfl ?_
      refine ax_goto (tgt := 6) dM_isTaken_78 (by decide) ?_
      exact ax_sub [2, 3, 4, 5, 1, 0] rfl h
    · replace h := h.2 c16
      refine ax_aloadn 0 dM_isTaken_20 rfl rfl ?_
      refine ax_getr dM_isTaken_21 fM_7 sM_0 rfl ?_
      refine ax_bipush dM_isTaken_24 (by decide) ?_
      refine ax_iload 5 dM_isTaken_26 rfl ?_
      obtain ⟨q2, h⟩ := h
      refine ax_imul dM_isTaken_28 q2 ?_
      refine ax_iconst dM_isTaken_29 (by decide) ?_
      obtain ⟨q3, h⟩ := h
      refine ax_iadd dM_isTaken_30 q3 ?_
      obtain ⟨q4, h⟩ := h
      refine ax_iald dM_isTaken_31 sM_1 q4.1 q4.2 ?_
      refine ax_iloadn 1 dM_isTaken_32 rfl rfl ?_
      refine ax_icmp_ne (tgt := 72) dM_isTaken_33 (by decide) (fun c15 => ?_) (fun c15 => ?_)
      · replace h := h.1 c15
        refine ax_iconst dM_isTaken_72 (by decide) ?_
        refine ax_istore dM_isTaken_73 (by decide) rfl ?_
        obtain ⟨q5, h⟩ := h
        refine ax_iinc (j := 5) dM_isTaken_75 rfl (by decide) q5 rfl ?_
        refine ax_goto (tgt := 6) dM_isTaken_78 (by decide) ?_
        exact ax_sub [2, 3, 4, 5, 1, 0] rfl h
      · replace h := h.2 c15
        refine ax_aloadn 0 dM_isTaken_36 rfl rfl ?_
        refine ax_getr dM_isTaken_37 fM_7 sM_0 rfl ?_
        refine ax_bipush dM_isTaken_40 (by decide) ?_
        refine ax_iload 5 dM_isTaken_42 rfl ?_
        refine ax_imul dM_isTaken_44 q2 ?_
        refine ax_iconst dM_isTaken_45 (by decide) ?_
        obtain ⟨q6, h⟩ := h
        refine ax_iadd dM_isTaken_46 q6 ?_
        obtain ⟨q7, h⟩ := h
        refine ax_iald dM_isTaken_47 sM_1 q7.1 q7.2 ?_
        refine ax_iloadn 2 dM_isTaken_48 rfl rfl ?_
        refine ax_icmp_ne (tgt := 72) dM_isTaken_49 (by decide) (fun c14 => ?_) (fun c14 => ?_)
        · replace h := h.1 c14
          refine ax_iconst dM_isTaken_72 (by decide) ?_
          refine ax_istore dM_isTaken_73 (by decide) rfl ?_
          obtain ⟨q8, h⟩ := h
          refine ax_iinc (j := 5) dM_isTaken_75 rfl (by decide) q8 rfl ?_
          refine ax_goto (tgt := 6) dM_isTaken_78 (by decide) ?_
          exact ax_sub [2, 3, 4, 5, 1, 0] rfl h
        · replace h := h.2 c14
          refine ax_aloadn 0 dM_isTaken_52 rfl rfl ?_
          refine ax_getr dM_isTaken_53 fM_7 sM_0 rfl ?_
          refine ax_bipush dM_isTaken_56 (by decide) ?_
          refine ax_iload 5 dM_isTaken_58 rfl ?_
          refine ax_imul dM_isTaken_60 q2 ?_
          refine ax_iconst dM_isTaken_61 (by decide) ?_
          obtain ⟨q9, h⟩ := h
          refine ax_iadd dM_isTaken_62 q9 ?_
          obtain ⟨q10, h⟩ := h
          refine ax_iald dM_isTaken_63 sM_1 q10.1 q10.2 ?_
          refine ax_iloadn 3 dM_isTaken_64 rfl rfl ?_
          refine ax_icmp_ne (tgt := 72) dM_isTaken_65 (by decide) (fun c13 => ?_) (fun c13 => ?_)
          · replace h := h.1 c13
            refine ax_iconst dM_isTaken_72 (by decide) ?_
            refine ax_istore dM_isTaken_73 (by decide) rfl ?_
            obtain ⟨q11, h⟩ := h
            refine ax_iinc (j := 5) dM_isTaken_75 rfl (by decide) q11 rfl ?_
            refine ax_goto (tgt := 6) dM_isTaken_78 (by decide) ?_
            exact ax_sub [2, 3, 4, 5, 1, 0] rfl h
          · replace h := h.2 c13
            refine ax_iconst dM_isTaken_68 (by decide) ?_
            refine ax_goto (tgt := 73) dM_isTaken_69 (by decide) ?_
            refine ax_istore dM_isTaken_73 (by decide) rfl ?_
            obtain ⟨q12, h⟩ := h
            refine ax_iinc (j := 5) dM_isTaken_75 rfl (by decide) q12 rfl ?_
            refine ax_goto (tgt := 6) dM_isTaken_78 (by decide) ?_
            exact ax_sub [2, 3, 4, 5, 1, 0] rfl h
theorem eM_isTaken {P : Int → ax_Mem → Prop} {M : ax_Mem} {a1 a2 a3 : Int} (h : jM_isTaken P 6 [(0, .inr (.inr 0)), (1, .inl a1), (2, .inl a2), (3, .inl a3), (4, .inl 0), (5, .inl 0)] [] M) : kM_isTaken [.inr (.inr 0), .inl a1, .inl a2, .inl a3] M P := ax_ofJ (by decide) (Nat.le_of_ble_eq_true rfl) (gM_isTaken_0 h)
-- M_person dp 2
theorem gM_person_0 {P : Int → ax_Mem → Prop} {M : ax_Mem} {a1 a2 a3 a4 a5 a6 a7 : Int} (h : kM_lacks [.inr (.inr 0)] M (fun r1 M2 => (r1 = 0 → kM_in [.inr (.inl a1), .inr (.inl 0), .inr (.inl 3)] M2 (fun r3 M4 => (¬ r3 = 0 → (¬ a1 = 3 → (¬ a2 = (-1) → jM_person P 48 [(0, .inr (.inr 0)), (1, .inl a1), (2, .inl a2), (3, .inl a3), (4, .inl a4), (5, .inl a5), (6, .inl a6), (7, .inl a7)] [.inl 0] M4) ∧ (a2 = (-1) → jM_person P 48 [(0, .inr (.inr 0)), (1, .inl a1), (2, .inl a2), (3, .inl a3), (4, .inl a4), (5, .inl a5), (6, .inl a6), (7, .inl a7)] [.inl 1] M4)) ∧ (a1 = 3 → kM_isPerson [.inr (.inr 0), .inl a2] M4 (fun r6 M7 => jM_person P 48 [(0, .inr (.inr 0)), (1, .inl a1), (2, .inl a2), (3, .inl a3), (4, .inl a4), (5, .inl a5), (6, .inl a6), (7, .inl a7)] [.inl r6] M7))) ∧ (r3 = 0 → P (-102) M4))) ∧ (¬ r1 = 0 → P (-103) M2))) : jM_person P 0 [(0, .inr (.inr 0)), (1, .inl a1), (2, .inl a2), (3, .inl a3), (4, .inl a4), (5, .inl a5), (6, .inl a6), (7, .inl a7)] [] M := by
  refine ax_aloadn 0 dM_person_0 rfl rfl ?_
  refine ax_callV (dp2 := 0) (as := []) (st := []) dM_person_1 lM_95 sM_0 ⟨_, _, rfl⟩ rfl rfl (Nat.le_of_ble_eq_true rfl) (by decide) ?_
  refine ax_C_mono (fun r1 M2 h => ?_) h
  refine ax_if_eq (tgt := 10) dM_person_4 (by decide) (fun c10 => ?_) (fun c10 => ?_)
  · replace h := h.1 c10
    refine ax_iloadn 1 dM_person_10 rfl rfl ?_
    refine ax_i2l dM_person_11 ?_
    refine ax_lconst (i := 0) dM_person_12 rfl ?_
    refine ax_ldc2 (n := 3) dM_person_13 nM_76 ?_
    refine ax_callS (dp2 := 0) (as := [.inr (.inl a1), .inr (.inl 0), .inr (.inl 3)]) (st := []) dM_person_16 lM_72 rfl rfl (Nat.le_of_ble_eq_true rfl) (by decide) ?_
    refine ax_C_mono (fun r3 M4 h => ?_) h
    refine ax_if_ne (tgt := 25) dM_person_19 (by decide) (fun c9 => ?_) (fun c9 => ?_)
    · replace h := h.1 c9
      refine ax_iloadn 1 dM_person_25 rfl rfl ?_
      refine ax_iconst dM_person_26 (by decide) ?_
      refine ax_icmp_ne (tgt := 38) dM_person_27 (by decide) (fun c8 => ?_) (fun c8 => ?_)
      · replace h := h.1 c8
        refine ax_iloadn 2 dM_person_38 rfl rfl ?_
        refine ax_iconst dM_person_39 (by decide) ?_
        refine ax_icmp_ne (tgt := 47) dM_person_40 (by decide) (fun c5 => ?_) (fun c5 => ?_)
        · replace h := h.1 c5
          refine ax_iconst dM_person_47 (by decide) ?_
          exact h
        · replace h := h.2 c5
          refine ax_iconst dM_person_43 (by decide) ?_
          refine ax_goto (tgt := 48) dM_person_44 (by decide) ?_
          exact h
      · replace h := h.2 c8
        refine ax_aloadn 0 dM_person_30 rfl rfl ?_
        refine ax_iloadn 2 dM_person_31 rfl rfl ?_
        refine ax_callV (dp2 := 1) (as := [.inl a2]) (st := []) dM_person_32 lM_99 sM_0 ⟨_, _, rfl⟩ rfl rfl (Nat.le_of_ble_eq_true rfl) (by decide) ?_
        refine ax_C_mono (fun r6 M7 h => ?_) h
        refine ax_goto (tgt := 48) dM_person_35 (by decide) ?_
        exact h
    · replace h := h.2 c9
      refine ax_bipush dM_person_22 (by decide) ?_
      exact ax_iret dM_person_24 h
  · replace h := h.2 c10
    refine ax_bipush dM_person_7 (by decide) ?_
    exact ax_iret dM_person_9 h
theorem gM_person_48 {P : Int → ax_Mem → Prop} {M : ax_Mem} {v1 v2 v3 v4 v5 v6 v7 s0 : Int} (h : (¬ s0 = 0 → (-2147483648 ≤ ((M 0 0) - 1) ∧ ((M 0 0) - 1) < 2147483648) ∧ kM_in [.inr (.inl v3), .inr (.inl 0), .inr (.inl ((M 0 0) - 1))] M (fun r2 M3 => (r2 = 0 → jM_person P 132 [(0, .inr (.inr 0)), (1, .inl v1), (2, .inl v2), (3, .inl v3), (4, .inl v4), (5, .inl v5), (6, .inl v6), (7, .inl v7)] [] M3) ∧ (¬ r2 = 0 → kM_in [.inr (.inl v4), .inr (.inl 0), .inr (.inl 1)] M3 (fun r4 M5 => (r4 = 0 → jM_person P 132 [(0, .inr (.inr 0)), (1, .inl v1), (2, .inl v2), (3, .inl v3), (4, .inl v4), (5, .inl v5), (6, .inl v6), (7, .inl v7)] [] M5) ∧ (¬ r4 = 0 → (-2147483648 ≤ ((M5 0 1) - 1) ∧ ((M5 0 1) - 1) < 2147483648) ∧ kM_in [.inr (.inl v5), .inr (.inl 0), .inr (.inl ((M5 0 1) - 1))] M5 (fun r7 M8 => (r7 = 0 → jM_person P 132 [(0, .inr (.inr 0)), (1, .inl v1), (2, .inl v2), (3, .inl v3), (4, .inl v4), (5, .inl v5), (6, .inl v6), (7, .inl v7)] [] M8) ∧ (¬ r7 = 0 → kM_in [.inr (.inl v6), .inr (.inl 0), .inr (.inl 3)] M8 (fun r9 M10 => (r9 = 0 → jM_person P 132 [(0, .inr (.inr 0)), (1, .inl v1), (2, .inl v2), (3, .inl v3), (4, .inl v4), (5, .inl v5), (6, .inl v6), (7, .inl v7)] [] M10) ∧ (¬ r9 = 0 → kM_in [.inr (.inl v7), .inr (.inl 0), .inr (.inl 999)] M10 (fun r11 M12 => (r11 = 0 → jM_person P 132 [(0, .inr (.inr 0)), (1, .inl v1), (2, .inl v2), (3, .inl v3), (4, .inl v4), (5, .inl v5), (6, .inl v6), (7, .inl v7)] [] M12) ∧ (¬ r11 = 0 → jM_person P 133 [(0, .inr (.inr 0)), (1, .inl v1), (2, .inl v2), (3, .inl v3), (4, .inl v4), (5, .inl v5), (6, .inl v6), (7, .inl v7)] [.inl 1] M12))))))))))) ∧ (s0 = 0 → P (-101) M)) : jM_person P 48 [(0, .inr (.inr 0)), (1, .inl v1), (2, .inl v2), (3, .inl v3), (4, .inl v4), (5, .inl v5), (6, .inl v6), (7, .inl v7)] [.inl s0] M := by
  refine ax_istore dM_person_48 (by decide) rfl ?_
  refine ax_iload 0 dM_person_50 rfl ?_
  refine ax_if_ne (tgt := 58) dM_person_52 (by decide) (fun c18 => ?_) (fun c18 => ?_)
  · replace h := h.1 c18
    refine ax_iloadn 4 dM_person_58 rfl rfl ?_
    refine ax_i2l dM_person_59 ?_
    refine ax_lconst (i := 0) dM_person_60 rfl ?_
    refine ax_aloadn 1 dM_person_61 rfl rfl ?_
    refine ax_geti dM_person_62 fM_80 sM_0 rfl ?_
    refine ax_iconst dM_person_65 (by decide) ?_
    obtain ⟨q1, h⟩ := h
    refine ax_isub dM_person_66 q1 ?_
    refine ax_i2l dM_person_67 ?_
    refine ax_callS (dp2 := 0) (as := [.inr (.inl v3), .inr (.inl 0), .inr (.inl ((M 0 0) - 1))]) (st := []) dM_person_68 lM_72 rfl rfl (Nat.le_of_ble_eq_true rfl) (by decide) ?_
    refine ax_C_mono (fun r2 M3 h => ?_) h
    refine ax_if_eq (tgt := 132) dM_person_71 (by decide) (fun c17 => ?_) (fun c17 => ?_)
    · replace h := h.1 c17
      exact ax_sub [1, 2, 3, 4, 5, 6, 7, 8] rfl h
    · replace h := h.2 c17
      refine ax_iload 5 dM_person_74 rfl ?_
      refine ax_i2l dM_person_76 ?_
      refine ax_lconst (i := 0) dM_person_77 rfl ?_
      refine ax_lconst (i := 1) dM_person_78 rfl ?_
      refine ax_callS (dp2 := 0) (as := [.inr (.inl v4), .inr (.inl 0), .inr (.inl 1)]) (st := []) dM_person_79 lM_72 rfl rfl (Nat.le_of_ble_eq_true rfl) (by decide) ?_
      refine ax_C_mono (fun r4 M5 h => ?_) h
      refine ax_if_eq (tgt := 132) dM_person_82 (by decide) (fun c16 => ?_) (fun c16 => ?_)
      · replace h := h.1 c16
        exact ax_sub [1, 2, 3, 4, 5, 6, 7, 8] rfl h
      · replace h := h.2 c16
        refine ax_iload 6 dM_person_85 rfl ?_
        refine ax_i2l dM_person_87 ?_
        refine ax_lconst (i := 0) dM_person_88 rfl ?_
        refine ax_aloadn 1 dM_person_89 rfl rfl ?_
        refine ax_geti dM_person_90 fM_83 sM_0 rfl ?_
        refine ax_iconst dM_person_93 (by decide) ?_
        obtain ⟨q6, h⟩ := h
        refine ax_isub dM_person_94 q6 ?_
        refine ax_i2l dM_person_95 ?_
        refine ax_callS (dp2 := 0) (as := [.inr (.inl v5), .inr (.inl 0), .inr (.inl ((M5 0 1) - 1))]) (st := []) dM_person_96 lM_72 rfl rfl (Nat.le_of_ble_eq_true rfl) (by decide) ?_
        refine ax_C_mono (fun r7 M8 h => ?_) h
        refine ax_if_eq (tgt := 132) dM_person_99 (by decide) (fun c15 => ?_) (fun c15 => ?_)
        · replace h := h.1 c15
          exact ax_sub [1, 2, 3, 4, 5, 6, 7, 8] rfl h
        · replace h := h.2 c15
          refine ax_iload 7 dM_person_102 rfl ?_
          refine ax_i2l dM_person_104 ?_
          refine ax_lconst (i := 0) dM_person_105 rfl ?_
          refine ax_ldc2 (n := 3) dM_person_106 nM_76 ?_
          refine ax_callS (dp2 := 0) (as := [.inr (.inl v6), .inr (.inl 0), .inr (.inl 3)]) (st := []) dM_person_109 lM_72 rfl rfl (Nat.le_of_ble_eq_true rfl) (by decide) ?_
          refine ax_C_mono (fun r9 M10 h => ?_) h
          refine ax_if_eq (tgt := 132) dM_person_112 (by decide) (fun c14 => ?_) (fun c14 => ?_)
          · replace h := h.1 c14
            exact ax_sub [1, 2, 3, 4, 5, 6, 7, 8] rfl h
          · replace h := h.2 c14
            refine ax_iload 8 dM_person_115 rfl ?_
            refine ax_i2l dM_person_117 ?_
            refine ax_lconst (i := 0) dM_person_118 rfl ?_
            refine ax_ldc2 (n := 999) dM_person_119 nM_103 ?_
            refine ax_callS (dp2 := 0) (as := [.inr (.inl v7), .inr (.inl 0), .inr (.inl 999)]) (st := []) dM_person_122 lM_72 rfl rfl (Nat.le_of_ble_eq_true rfl) (by decide) ?_
            refine ax_C_mono (fun r11 M12 h => ?_) h
            refine ax_if_eq (tgt := 132) dM_person_125 (by decide) (fun c13 => ?_) (fun c13 => ?_)
            · replace h := h.1 c13
              exact ax_sub [1, 2, 3, 4, 5, 6, 7, 8] rfl h
            · replace h := h.2 c13
              refine ax_iconst dM_person_128 (by decide) ?_
              refine ax_goto (tgt := 133) dM_person_129 (by decide) ?_
              exact ax_sub [1, 2, 3, 4, 5, 6, 7, 8] rfl h
  · replace h := h.2 c18
    refine ax_bipush dM_person_55 (by decide) ?_
    exact ax_iret dM_person_57 h
theorem gM_person_132 {P : Int → ax_Mem → Prop} {M : ax_Mem} {v1 v2 v3 v4 v5 v6 v7 : Int} (h : jM_person P 133 [(0, .inr (.inr 0)), (1, .inl v1), (2, .inl v2), (3, .inl v3), (4, .inl v4), (5, .inl v5), (6, .inl v6), (7, .inl v7)] [.inl 0] M) : jM_person P 132 [(0, .inr (.inr 0)), (1, .inl v1), (2, .inl v2), (3, .inl v3), (4, .inl v4), (5, .inl v5), (6, .inl v6), (7, .inl v7)] [] M := by
  refine ax_iconst dM_person_132 (by decide) ?_
  exact h
theorem gM_person_133 {P : Int → ax_Mem → Prop} {M : ax_Mem} {v1 v2 v3 v4 v5 v6 v7 s0 : Int} (h : (¬ s0 = 0 → kM_isTaken [.inr (.inr 0), .inl v3, .inl v4, .inl v5] M (fun r1 M2 => (r1 = 0 → (¬ (M2 0 4) = 12 → (-2147483648 ≤ (7 * (M2 0 4)) ∧ (7 * (M2 0 4)) < 2147483648) ∧ (0 ≤ (7 * (M2 0 4)) ∧ (7 * (M2 0 4)) < 84) ∧ (0 ≤ ((7 * (M2 0 4)) + 1) ∧ ((7 * (M2 0 4)) + 1) < 84) ∧ (0 ≤ ((7 * (M2 0 4)) + 2) ∧ ((7 * (M2 0 4)) + 2) < 84) ∧ (0 ≤ ((7 * (M2 0 4)) + 3) ∧ ((7 * (M2 0 4)) + 3) < 84) ∧ (0 ≤ ((7 * (M2 0 4)) + 4) ∧ ((7 * (M2 0 4)) + 4) < 84) ∧ (0 ≤ ((7 * (M2 0 4)) + 5) ∧ ((7 * (M2 0 4)) + 5) < 84) ∧ (0 ≤ ((7 * (M2 0 4)) + 6) ∧ ((7 * (M2 0 4)) + 6) < 84) ∧ (-2147483648 ≤ ((M2 0 4) + 1) ∧ ((M2 0 4) + 1) < 2147483648) ∧ (-2147483648 ≤ (((M2 0 4) + 1) - 1) ∧ (((M2 0 4) + 1) - 1) < 2147483648) ∧ P (((M2 0 4) + 1) - 1) (ax_u (ax_u (ax_u (ax_u (ax_u (ax_u (ax_u (ax_u M2 1 ((7 * (M2 0 4)).toNat) v1) 1 (((7 * (M2 0 4)) + 1).toNat) v2) 1 (((7 * (M2 0 4)) + 2).toNat) v3) 1 (((7 * (M2 0 4)) + 3).toNat) v4) 1 (((7 * (M2 0 4)) + 4).toNat) v5) 1 (((7 * (M2 0 4)) + 5).toNat) v6) 1 (((7 * (M2 0 4)) + 6).toNat) v7) 0 4 ((M2 0 4) + 1))) ∧ ((M2 0 4) = 12 → P (-104) M2)) ∧ (¬ r1 = 0 → P (-103) M2))) ∧ (s0 = 0 → P (-102) M)) : jM_person P 133 [(0, .inr (.inr 0)), (1, .inl v1), (2, .inl v2), (3, .inl v3), (4, .inl v4), (5, .inl v5), (6, .inl v6), (7, .inl v7)] [.inl s0] M := by
  refine ax_istore dM_person_133 (by decide) rfl ?_
  refine ax_iload 0 dM_person_135 rfl ?_
  refine ax_if_ne (tgt := 143) dM_person_137 (by decide) (fun c15 => ?_) (fun c15 => ?_)
  · replace h := h.1 c15
    refine ax_aloadn 1 dM_person_143 rfl rfl ?_
    refine ax_iloadn 4 dM_person_144 rfl rfl ?_
    refine ax_iload 5 dM_person_145 rfl ?_
    refine ax_iload 6 dM_person_147 rfl ?_
    refine ax_callV (dp2 := 0) (as := [.inl v3, .inl v4, .inl v5]) (st := []) dM_person_149 lM_105 sM_0 ⟨_, _, rfl⟩ rfl rfl (Nat.le_of_ble_eq_true rfl) (by decide) ?_
    refine ax_C_mono (fun r1 M2 h => ?_) h
    refine ax_if_eq (tgt := 158) dM_person_152 (by decide) (fun c14 => ?_) (fun c14 => ?_)
    · replace h := h.1 c14
      refine ax_aloadn 1 dM_person_158 rfl rfl ?_
      refine ax_geti dM_person_159 fM_89 sM_0 rfl ?_
      refine ax_bipush dM_person_162 (by decide) ?_
      refine ax_icmp_ne (tgt := 170) dM_person_164 (by decide) (fun c13 => ?_) (fun c13 => ?_)
      · replace h := h.1 c13
        refine ax_bipush dM_person_170 (by decide) ?_
        refine ax_aloadn 1 dM_person_172 rfl rfl ?_
        refine ax_geti dM_person_173 fM_89 sM_0 rfl ?_
        obtain ⟨q3, h⟩ := h
        refine ax_imul dM_person_176 q3 ?_
        refine ax_istore dM_person_177 (by decide) rfl ?_
        refine ax_aloadn 2 dM_person_179 rfl rfl ?_
        refine ax_getr dM_person_180 fM_7 sM_0 rfl ?_
        refine ax_iload 0 dM_person_183 rfl ?_
        refine ax_iloadn 3 dM_person_185 rfl rfl ?_
        obtain ⟨q4, h⟩ := h
        refine ax_iast dM_person_186 sM_1 q4.1 q4.2 ?_
        refine ax_aloadn 2 dM_person_187 rfl rfl ?_
        refine ax_getr dM_person_188 fM_7 sM_0 rfl ?_
        refine ax_iload 0 dM_person_191 rfl ?_
        refine ax_iconst dM_person_193 (by decide) ?_
        refine ax_iadd dM_person_194 (show ax_r _ from ⟨by omega, by omega⟩) ?_
        refine ax_iloadn 4 dM_person_195 rfl rfl ?_
        obtain ⟨q5, h⟩ := h
        refine ax_iast dM_person_196 sM_1 q5.1 q5.2 ?_
        refine ax_aloadn 2 dM_person_197 rfl rfl ?_
        refine ax_getr dM_person_198 fM_7 sM_0 rfl ?_
        refine ax_iload 0 dM_person_201 rfl ?_
        refine ax_iconst dM_person_203 (by decide) ?_
        refine ax_iadd dM_person_204 (show ax_r _ from ⟨by omega, by omega⟩) ?_
        refine ax_iloadn 5 dM_person_205 rfl rfl ?_
        obtain ⟨q6, h⟩ := h
        refine ax_iast dM_person_206 sM_1 q6.1 q6.2 ?_
        refine ax_aloadn 2 dM_person_207 rfl rfl ?_
        refine ax_getr dM_person_208 fM_7 sM_0 rfl ?_
        refine ax_iload 0 dM_person_211 rfl ?_
        refine ax_iconst dM_person_213 (by decide) ?_
        refine ax_iadd dM_person_214 (show ax_r _ from ⟨by omega, by omega⟩) ?_
        refine ax_iload 6 dM_person_215 rfl ?_
        obtain ⟨q7, h⟩ := h
        refine ax_iast dM_person_217 sM_1 q7.1 q7.2 ?_
        refine ax_aloadn 2 dM_person_218 rfl rfl ?_
        refine ax_getr dM_person_219 fM_7 sM_0 rfl ?_
        refine ax_iload 0 dM_person_222 rfl ?_
        refine ax_iconst dM_person_224 (by decide) ?_
        refine ax_iadd dM_person_225 (show ax_r _ from ⟨by omega, by omega⟩) ?_
        refine ax_iload 7 dM_person_226 rfl ?_
        obtain ⟨q8, h⟩ := h
        refine ax_iast dM_person_228 sM_1 q8.1 q8.2 ?_
        refine ax_aloadn 2 dM_person_229 rfl rfl ?_
        refine ax_getr dM_person_230 fM_7 sM_0 rfl ?_
        refine ax_iload 0 dM_person_233 rfl ?_
        refine ax_iconst dM_person_235 (by decide) ?_
        refine ax_iadd dM_person_236 (show ax_r _ from ⟨by omega, by omega⟩) ?_
        refine ax_iload 8 dM_person_237 rfl ?_
        obtain ⟨q9, h⟩ := h
        refine ax_iast dM_person_239 sM_1 q9.1 q9.2 ?_
        refine ax_aloadn 2 dM_person_240 rfl rfl ?_
        refine ax_getr dM_person_241 fM_7 sM_0 rfl ?_
        refine ax_iload 0 dM_person_244 rfl ?_
        refine ax_bipush dM_person_246 (by decide) ?_
        refine ax_iadd dM_person_248 (show ax_r _ from ⟨by omega, by omega⟩) ?_
        refine ax_iload 9 dM_person_249 rfl ?_
        obtain ⟨q10, h⟩ := h
        refine ax_iast dM_person_251 sM_1 q10.1 q10.2 ?_
        refine ax_aloadn 2 dM_person_252 rfl rfl ?_
        refine ax_dup dM_person_253 rfl ?_
        refine ax_geti dM_person_254 fM_89 sM_0 rfl ?_
        refine ax_top (x' := M2 0 4) (by first | rfl | exact ax_u_at _ _ _ _) ?_
        refine ax_iconst dM_person_257 (by decide) ?_
        obtain ⟨q11, h⟩ := h
        refine ax_iadd dM_person_258 q11 ?_
        refine ax_puti dM_person_259 pM_89 sM_0 rfl ?_
        refine ax_aloadn 2 dM_person_262 rfl rfl ?_
        refine ax_geti dM_person_263 fM_89 sM_0 rfl ?_
        refine ax_top (x' := (M2 0 4) + 1) (by first | rfl | exact ax_u_at _ _ _ _) ?_
        refine ax_iconst dM_person_266 (by decide) ?_
        obtain ⟨q12, h⟩ := h
        refine ax_isub dM_person_267 q12 ?_
        exact ax_iret dM_person_268 h
      · replace h := h.2 c13
        refine ax_bipush dM_person_167 (by decide) ?_
        exact ax_iret dM_person_169 h
    · replace h := h.2 c14
      refine ax_bipush dM_person_155 (by decide) ?_
      exact ax_iret dM_person_157 h
  · replace h := h.2 c15
    refine ax_bipush dM_person_140 (by decide) ?_
    exact ax_iret dM_person_142 h
theorem eM_person {P : Int → ax_Mem → Prop} {M : ax_Mem} {a1 a2 a3 a4 a5 a6 a7 : Int} (h : kM_lacks [.inr (.inr 0)] M (fun r1 M2 => (r1 = 0 → kM_in [.inr (.inl a1), .inr (.inl 0), .inr (.inl 3)] M2 (fun r3 M4 => (¬ r3 = 0 → (¬ a1 = 3 → (¬ a2 = (-1) → jM_person P 48 [(0, .inr (.inr 0)), (1, .inl a1), (2, .inl a2), (3, .inl a3), (4, .inl a4), (5, .inl a5), (6, .inl a6), (7, .inl a7)] [.inl 0] M4) ∧ (a2 = (-1) → jM_person P 48 [(0, .inr (.inr 0)), (1, .inl a1), (2, .inl a2), (3, .inl a3), (4, .inl a4), (5, .inl a5), (6, .inl a6), (7, .inl a7)] [.inl 1] M4)) ∧ (a1 = 3 → kM_isPerson [.inr (.inr 0), .inl a2] M4 (fun r6 M7 => jM_person P 48 [(0, .inr (.inr 0)), (1, .inl a1), (2, .inl a2), (3, .inl a3), (4, .inl a4), (5, .inl a5), (6, .inl a6), (7, .inl a7)] [.inl r6] M7))) ∧ (r3 = 0 → P (-102) M4))) ∧ (¬ r1 = 0 → P (-103) M2))) : kM_person [.inr (.inr 0), .inl a1, .inl a2, .inl a3, .inl a4, .inl a5, .inl a6, .inl a7] M P := ax_ofJ (by decide) (Nat.le_of_ble_eq_true rfl) (gM_person_0 h)
-- M_as dp 2
theorem gM_as_0 {P : Int → ax_Mem → Prop} {M : ax_Mem} {a1 a2 : Int} (h : kM_isPerson [.inr (.inr 0), .inl a1] M (fun r1 M2 => (¬ r1 = 0 → kM_in [.inr (.inl a2), .inr (.inl 0), .inr (.inl 3)] M2 (fun r3 M4 => (¬ r3 = 0 → (-2147483648 ≤ (7 * a1) ∧ (7 * a1) < 2147483648) ∧ (0 ≤ (7 * a1) ∧ (7 * a1) < 84) ∧ (a2 = 0 → P a1 M4) ∧ (¬ a2 = 0 → (a2 = (M4 1 ((7 * a1).toNat)) → P a1 M4) ∧ (¬ a2 = (M4 1 ((7 * a1).toNat)) → (¬ a2 = 2 → P (-1) M4) ∧ (a2 = 2 → (¬ (M4 1 ((7 * a1).toNat)) = 3 → P (-1) M4) ∧ ((M4 1 ((7 * a1).toNat)) = 3 → P a1 M4))))) ∧ (r3 = 0 → P (-102) M4))) ∧ (r1 = 0 → P (-101) M2))) : jM_as P 0 [(0, .inr (.inr 0)), (1, .inl a1), (2, .inl a2)] [] M := by
  refine ax_aloadn 0 dM_as_0 rfl rfl ?_
  refine ax_iloadn 1 dM_as_1 rfl rfl ?_
  refine ax_callV (dp2 := 1) (as := [.inl a1]) (st := []) dM_as_2 lM_99 sM_0 ⟨_, _, rfl⟩ rfl rfl (Nat.le_of_ble_eq_true rfl) (by decide) ?_
  refine ax_C_mono (fun r1 M2 h => ?_) h
  refine ax_if_ne (tgt := 11) dM_as_5 (by decide) (fun c12 => ?_) (fun c12 => ?_)
  · replace h := h.1 c12
    refine ax_iloadn 2 dM_as_11 rfl rfl ?_
    refine ax_i2l dM_as_12 ?_
    refine ax_lconst (i := 0) dM_as_13 rfl ?_
    refine ax_ldc2 (n := 3) dM_as_14 nM_76 ?_
    refine ax_callS (dp2 := 0) (as := [.inr (.inl a2), .inr (.inl 0), .inr (.inl 3)]) (st := []) dM_as_17 lM_72 rfl rfl (Nat.le_of_ble_eq_true rfl) (by decide) ?_
    refine ax_C_mono (fun r3 M4 h => ?_) h
    refine ax_if_ne (tgt := 26) dM_as_20 (by decide) (fun c11 => ?_) (fun c11 => ?_)
    · replace h := h.1 c11
      refine ax_aloadn 0 dM_as_26 rfl rfl ?_
      refine ax_getr dM_as_27 fM_7 sM_0 rfl ?_
      refine ax_bipush dM_as_30 (by decide) ?_
      refine ax_iloadn 1 dM_as_32 rfl rfl ?_
      obtain ⟨q5, h⟩ := h
      refine ax_imul dM_as_33 q5 ?_
      obtain ⟨q6, h⟩ := h
      refine ax_iald dM_as_34 sM_1 q6.1 q6.2 ?_
      refine ax_istoren dM_as_35 rfl (by decide) rfl ?_
      refine ax_iloadn 3 dM_as_36 rfl rfl ?_
      refine ax_if_eq (tgt := 55) dM_as_37 (by decide) (fun c10 => ?_) (fun c10 => ?_)
      · replace h := h.1 c10
        refine ax_iconst dM_as_55 (by decide) ?_
        refine ax_goto (tgt := 60) dM_as_56 (by decide) ?_
        refine ax_istore dM_as_60 (by decide) rfl ?_
        refine ax_iload 0 dM_as_62 rfl ?_
        refine ax_if_eq (tgt := 71) dM_as_64 (by decide) (fun z => absurd z (by decide)) (fun _ => ?_)
        refine ax_iloadn 3 dM_as_67 rfl rfl ?_
        refine ax_goto (tgt := 72) dM_as_68 (by decide) ?_
        exact ax_iret dM_as_72 h
      · replace h := h.2 c10
        refine ax_iloadn 3 dM_as_40 rfl rfl ?_
        refine ax_iloadn 0 dM_as_41 rfl rfl ?_
        refine ax_icmp_eq (tgt := 55) dM_as_42 (by decide) (fun c9 => ?_) (fun c9 => ?_)
        · replace h := h.1 c9
          refine ax_iconst dM_as_55 (by decide) ?_
          refine ax_goto (tgt := 60) dM_as_56 (by decide) ?_
          refine ax_istore dM_as_60 (by decide) rfl ?_
          refine ax_iload 0 dM_as_62 rfl ?_
          refine ax_if_eq (tgt := 71) dM_as_64 (by decide) (fun z => absurd z (by decide)) (fun _ => ?_)
          refine ax_iloadn 3 dM_as_67 rfl rfl ?_
          refine ax_goto (tgt := 72) dM_as_68 (by decide) ?_
          exact ax_iret dM_as_72 h
        · replace h := h.2 c9
          refine ax_iloadn 3 dM_as_45 rfl rfl ?_
          refine ax_iconst dM_as_46 (by decide) ?_
          refine ax_icmp_ne (tgt := 59) dM_as_47 (by decide) (fun c8 => ?_) (fun c8 => ?_)
          · replace h := h.1 c8
            refine ax_iconst dM_as_59 (by decide) ?_
            refine ax_istore dM_as_60 (by decide) rfl ?_
            refine ax_iload 0 dM_as_62 rfl ?_
            refine ax_if_eq (tgt := 71) dM_as_64 (by decide) (fun _ => ?_) (fun z => absurd z (by decide))
            refine ax_iconst dM_as_71 (by decide) ?_
            exact ax_iret dM_as_72 h
          · replace h := h.2 c8
            refine ax_iloadn 0 dM_as_50 rfl rfl ?_
            refine ax_iconst dM_as_51 (by decide) ?_
            refine ax_icmp_ne (tgt := 59) dM_as_52 (by decide) (fun c7 => ?_) (fun c7 => ?_)
            · replace h := h.1 c7
              refine ax_iconst dM_as_59 (by decide) ?_
              refine ax_istore dM_as_60 (by decide) rfl ?_
              refine ax_iload 0 dM_as_62 rfl ?_
              refine ax_if_eq (tgt := 71) dM_as_64 (by decide) (fun _ => ?_) (fun z => absurd z (by decide))
              refine ax_iconst dM_as_71 (by decide) ?_
              exact ax_iret dM_as_72 h
            · replace h := h.2 c7
              refine ax_iconst dM_as_55 (by decide) ?_
              refine ax_goto (tgt := 60) dM_as_56 (by decide) ?_
              refine ax_istore dM_as_60 (by decide) rfl ?_
              refine ax_iload 0 dM_as_62 rfl ?_
              refine ax_if_eq (tgt := 71) dM_as_64 (by decide) (fun z => absurd z (by decide)) (fun _ => ?_)
              refine ax_iloadn 3 dM_as_67 rfl rfl ?_
              refine ax_goto (tgt := 72) dM_as_68 (by decide) ?_
              exact ax_iret dM_as_72 h
    · replace h := h.2 c11
      refine ax_bipush dM_as_23 (by decide) ?_
      exact ax_iret dM_as_25 h
  · replace h := h.2 c12
    refine ax_bipush dM_as_8 (by decide) ?_
    exact ax_iret dM_as_10 h
theorem eM_as {P : Int → ax_Mem → Prop} {M : ax_Mem} {a1 a2 : Int} (h : kM_isPerson [.inr (.inr 0), .inl a1] M (fun r1 M2 => (¬ r1 = 0 → kM_in [.inr (.inl a2), .inr (.inl 0), .inr (.inl 3)] M2 (fun r3 M4 => (¬ r3 = 0 → (-2147483648 ≤ (7 * a1) ∧ (7 * a1) < 2147483648) ∧ (0 ≤ (7 * a1) ∧ (7 * a1) < 84) ∧ (a2 = 0 → P a1 M4) ∧ (¬ a2 = 0 → (a2 = (M4 1 ((7 * a1).toNat)) → P a1 M4) ∧ (¬ a2 = (M4 1 ((7 * a1).toNat)) → (¬ a2 = 2 → P (-1) M4) ∧ (a2 = 2 → (¬ (M4 1 ((7 * a1).toNat)) = 3 → P (-1) M4) ∧ ((M4 1 ((7 * a1).toNat)) = 3 → P a1 M4))))) ∧ (r3 = 0 → P (-102) M4))) ∧ (r1 = 0 → P (-101) M2))) : kM_as [.inr (.inr 0), .inl a1, .inl a2] M P := ax_ofJ (by decide) (Nat.le_of_ble_eq_true rfl) (gM_as_0 h)
-- M_about dp 2
theorem gM_about_0 {P : Int → ax_Mem → Prop} {M : ax_Mem} {a1 a2 : Int} (h : kM_isPerson [.inr (.inr 0), .inl a1] M (fun r1 M2 => (¬ r1 = 0 → kM_in [.inr (.inl a2), .inr (.inl 0), .inr (.inl 6)] M2 (fun r3 M4 => (r3 = 0 → P (-102) M4) ∧ (¬ r3 = 0 → (-2147483648 ≤ (7 * a1) ∧ (7 * a1) < 2147483648) ∧ (-2147483648 ≤ ((7 * a1) + a2) ∧ ((7 * a1) + a2) < 2147483648) ∧ (0 ≤ ((7 * a1) + a2) ∧ ((7 * a1) + a2) < 84) ∧ P (M4 1 (((7 * a1) + a2).toNat)) M4))) ∧ (r1 = 0 → P (-101) M2))) : jM_about P 0 [(0, .inr (.inr 0)), (1, .inl a1), (2, .inl a2)] [] M := by
  refine ax_aloadn 0 dM_about_0 rfl rfl ?_
  refine ax_iloadn 1 dM_about_1 rfl rfl ?_
  refine ax_callV (dp2 := 1) (as := [.inl a1]) (st := []) dM_about_2 lM_99 sM_0 ⟨_, _, rfl⟩ rfl rfl (Nat.le_of_ble_eq_true rfl) (by decide) ?_
  refine ax_C_mono (fun r1 M2 h => ?_) h
  refine ax_if_ne (tgt := 11) dM_about_5 (by decide) (fun c9 => ?_) (fun c9 => ?_)
  · replace h := h.1 c9
    refine ax_iloadn 2 dM_about_11 rfl rfl ?_
    refine ax_i2l dM_about_12 ?_
    refine ax_lconst (i := 0) dM_about_13 rfl ?_
    refine ax_ldc2 (n := 6) dM_about_14 nM_78 ?_
    refine ax_callS (dp2 := 0) (as := [.inr (.inl a2), .inr (.inl 0), .inr (.inl 6)]) (st := []) dM_about_17 lM_72 rfl rfl (Nat.le_of_ble_eq_true rfl) (by decide) ?_
    refine ax_C_mono (fun r3 M4 h => ?_) h
    refine ax_if_eq (tgt := 37) dM_about_20 (by decide) (fun c8 => ?_) (fun c8 => ?_)
    · replace h := h.1 c8
      refine ax_bipush dM_about_37 (by decide) ?_
      exact ax_iret dM_about_39 h
    · replace h := h.2 c8
      refine ax_aloadn 0 dM_about_23 rfl rfl ?_
      refine ax_getr dM_about_24 fM_7 sM_0 rfl ?_
      refine ax_bipush dM_about_27 (by decide) ?_
      refine ax_iloadn 1 dM_about_29 rfl rfl ?_
      obtain ⟨q5, h⟩ := h
      refine ax_imul dM_about_30 q5 ?_
      refine ax_iloadn 2 dM_about_31 rfl rfl ?_
      obtain ⟨q6, h⟩ := h
      refine ax_iadd dM_about_32 q6 ?_
      obtain ⟨q7, h⟩ := h
      refine ax_iald dM_about_33 sM_1 q7.1 q7.2 ?_
      refine ax_goto (tgt := 39) dM_about_34 (by decide) ?_
      exact ax_iret dM_about_39 h
  · replace h := h.2 c9
    refine ax_bipush dM_about_8 (by decide) ?_
    exact ax_iret dM_about_10 h
theorem eM_about {P : Int → ax_Mem → Prop} {M : ax_Mem} {a1 a2 : Int} (h : kM_isPerson [.inr (.inr 0), .inl a1] M (fun r1 M2 => (¬ r1 = 0 → kM_in [.inr (.inl a2), .inr (.inl 0), .inr (.inl 6)] M2 (fun r3 M4 => (r3 = 0 → P (-102) M4) ∧ (¬ r3 = 0 → (-2147483648 ≤ (7 * a1) ∧ (7 * a1) < 2147483648) ∧ (-2147483648 ≤ ((7 * a1) + a2) ∧ ((7 * a1) + a2) < 2147483648) ∧ (0 ≤ ((7 * a1) + a2) ∧ ((7 * a1) + a2) < 84) ∧ P (M4 1 (((7 * a1) + a2).toNat)) M4))) ∧ (r1 = 0 → P (-101) M2))) : kM_about [.inr (.inr 0), .inl a1, .inl a2] M P := ax_ofJ (by decide) (Nat.le_of_ble_eq_true rfl) (gM_about_0 h)
-- M_change dp 2
theorem gM_change_0 {P : Int → ax_Mem → Prop} {M : ax_Mem} {a1 a2 a3 : Int} (h : kM_isPerson [.inr (.inr 0), .inl a1] M (fun r1 M2 => (¬ r1 = 0 → kM_in [.inr (.inl a2), .inr (.inl 5), .inr (.inl 6)] M2 (fun r3 M4 => (r3 = 0 → P (-102) M4) ∧ (¬ r3 = 0 → (¬ a2 = 5 → kM_in [.inr (.inl a3), .inr (.inl 0), .inr (.inl 999)] M4 (fun r5 M6 => (¬ r5 = 0 → (-2147483648 ≤ (7 * a1) ∧ (7 * a1) < 2147483648) ∧ (-2147483648 ≤ ((7 * a1) + a2) ∧ ((7 * a1) + a2) < 2147483648) ∧ (0 ≤ ((7 * a1) + a2) ∧ ((7 * a1) + a2) < 84) ∧ P (M6 1 (((7 * a1) + a2).toNat)) (ax_u M6 1 (((7 * a1) + a2).toNat) a3)) ∧ (r5 = 0 → P (-102) M6))) ∧ (a2 = 5 → kM_in [.inr (.inl a3), .inr (.inl 0), .inr (.inl 3)] M4 (fun r11 M12 => (¬ r11 = 0 → (-2147483648 ≤ (7 * a1) ∧ (7 * a1) < 2147483648) ∧ (-2147483648 ≤ ((7 * a1) + a2) ∧ ((7 * a1) + a2) < 2147483648) ∧ (0 ≤ ((7 * a1) + a2) ∧ ((7 * a1) + a2) < 84) ∧ P (M12 1 (((7 * a1) + a2).toNat)) (ax_u M12 1 (((7 * a1) + a2).toNat) a3)) ∧ (r11 = 0 → P (-102) M12)))))) ∧ (r1 = 0 → P (-101) M2))) : jM_change P 0 [(0, .inr (.inr 0)), (1, .inl a1), (2, .inl a2), (3, .inl a3)] [] M := by
  refine ax_aloadn 0 dM_change_0 rfl rfl ?_
  refine ax_iloadn 1 dM_change_1 rfl rfl ?_
  refine ax_callV (dp2 := 1) (as := [.inl a1]) (st := []) dM_change_2 lM_99 sM_0 ⟨_, _, rfl⟩ rfl rfl (Nat.le_of_ble_eq_true rfl) (by decide) ?_
  refine ax_C_mono (fun r1 M2 h => ?_) h
  refine ax_if_ne (tgt := 11) dM_change_5 (by decide) (fun c19 => ?_) (fun c19 => ?_)
  · replace h := h.1 c19
    refine ax_iloadn 2 dM_change_11 rfl rfl ?_
    refine ax_i2l dM_change_12 ?_
    refine ax_ldc2 (n := 5) dM_change_13 nM_109 ?_
    refine ax_ldc2 (n := 6) dM_change_16 nM_78 ?_
    refine ax_callS (dp2 := 0) (as := [.inr (.inl a2), .inr (.inl 5), .inr (.inl 6)]) (st := []) dM_change_19 lM_72 rfl rfl (Nat.le_of_ble_eq_true rfl) (by decide) ?_
    refine ax_C_mono (fun r3 M4 h => ?_) h
    refine ax_if_eq (tgt := 48) dM_change_22 (by decide) (fun c18 => ?_) (fun c18 => ?_)
    · replace h := h.1 c18
      refine ax_bipush dM_change_48 (by decide) ?_
      exact ax_iret dM_change_50 h
    · replace h := h.2 c18
      refine ax_iloadn 3 dM_change_25 rfl rfl ?_
      refine ax_i2l dM_change_26 ?_
      refine ax_lconst (i := 0) dM_change_27 rfl ?_
      refine ax_iloadn 2 dM_change_28 rfl rfl ?_
      refine ax_iconst dM_change_29 (by decide) ?_
      refine ax_icmp_ne (tgt := 39) dM_change_30 (by decide) (fun c17 => ?_) (fun c17 => ?_)
      · replace h := h.1 c17
        refine ax_ldc2 (n := 999) dM_change_39 nM_103 ?_
        refine ax_callS (dp2 := 0) (as := [.inr (.inl a3), .inr (.inl 0), .inr (.inl 999)]) (st := []) dM_change_42 lM_72 rfl rfl (Nat.le_of_ble_eq_true rfl) (by decide) ?_
        refine ax_C_mono (fun r5 M6 h => ?_) h
        refine ax_if_ne (tgt := 51) dM_change_45 (by decide) (fun c10 => ?_) (fun c10 => ?_)
        · replace h := h.1 c10
          refine ax_aloadn 0 dM_change_51 rfl rfl ?_
          refine ax_getr dM_change_52 fM_7 sM_0 rfl ?_
          refine ax_bipush dM_change_55 (by decide) ?_
          refine ax_iloadn 1 dM_change_57 rfl rfl ?_
          obtain ⟨q7, h⟩ := h
          refine ax_imul dM_change_58 q7 ?_
          refine ax_iloadn 2 dM_change_59 rfl rfl ?_
          obtain ⟨q8, h⟩ := h
          refine ax_iadd dM_change_60 q8 ?_
          obtain ⟨q9, h⟩ := h
          refine ax_iald dM_change_61 sM_1 q9.1 q9.2 ?_
          refine ax_istore dM_change_62 (by decide) rfl ?_
          refine ax_aloadn 1 dM_change_64 rfl rfl ?_
          refine ax_getr dM_change_65 fM_7 sM_0 rfl ?_
          refine ax_bipush dM_change_68 (by decide) ?_
          refine ax_iloadn 2 dM_change_70 rfl rfl ?_
          refine ax_imul dM_change_71 q7 ?_
          refine ax_iloadn 3 dM_change_72 rfl rfl ?_
          refine ax_iadd dM_change_73 (show ax_r _ from ⟨by omega, by omega⟩) ?_
          refine ax_iloadn 4 dM_change_74 rfl rfl ?_
          refine ax_iast dM_change_75 sM_1 (by omega) (by omega) ?_
          refine ax_iload 0 dM_change_76 rfl ?_
          exact ax_iret dM_change_78 h
        · replace h := h.2 c10
          refine ax_bipush dM_change_48 (by decide) ?_
          exact ax_iret dM_change_50 h
      · replace h := h.2 c17
        refine ax_ldc2 (n := 3) dM_change_33 nM_76 ?_
        refine ax_goto (tgt := 42) dM_change_36 (by decide) ?_
        refine ax_callS (dp2 := 0) (as := [.inr (.inl a3), .inr (.inl 0), .inr (.inl 3)]) (st := []) dM_change_42 lM_72 rfl rfl (Nat.le_of_ble_eq_true rfl) (by decide) ?_
        refine ax_C_mono (fun r11 M12 h => ?_) h
        refine ax_if_ne (tgt := 51) dM_change_45 (by decide) (fun c16 => ?_) (fun c16 => ?_)
        · replace h := h.1 c16
          refine ax_aloadn 0 dM_change_51 rfl rfl ?_
          refine ax_getr dM_change_52 fM_7 sM_0 rfl ?_
          refine ax_bipush dM_change_55 (by decide) ?_
          refine ax_iloadn 1 dM_change_57 rfl rfl ?_
          obtain ⟨q13, h⟩ := h
          refine ax_imul dM_change_58 q13 ?_
          refine ax_iloadn 2 dM_change_59 rfl rfl ?_
          obtain ⟨q14, h⟩ := h
          refine ax_iadd dM_change_60 q14 ?_
          obtain ⟨q15, h⟩ := h
          refine ax_iald dM_change_61 sM_1 q15.1 q15.2 ?_
          refine ax_istore dM_change_62 (by decide) rfl ?_
          refine ax_aloadn 1 dM_change_64 rfl rfl ?_
          refine ax_getr dM_change_65 fM_7 sM_0 rfl ?_
          refine ax_bipush dM_change_68 (by decide) ?_
          refine ax_iloadn 2 dM_change_70 rfl rfl ?_
          refine ax_imul dM_change_71 q13 ?_
          refine ax_iloadn 3 dM_change_72 rfl rfl ?_
          refine ax_iadd dM_change_73 (show ax_r _ from ⟨by omega, by omega⟩) ?_
          refine ax_iloadn 4 dM_change_74 rfl rfl ?_
          refine ax_iast dM_change_75 sM_1 (by omega) (by omega) ?_
          refine ax_iload 0 dM_change_76 rfl ?_
          exact ax_iret dM_change_78 h
        · replace h := h.2 c16
          refine ax_bipush dM_change_48 (by decide) ?_
          exact ax_iret dM_change_50 h
  · replace h := h.2 c19
    refine ax_bipush dM_change_8 (by decide) ?_
    exact ax_iret dM_change_10 h
theorem eM_change {P : Int → ax_Mem → Prop} {M : ax_Mem} {a1 a2 a3 : Int} (h : kM_isPerson [.inr (.inr 0), .inl a1] M (fun r1 M2 => (¬ r1 = 0 → kM_in [.inr (.inl a2), .inr (.inl 5), .inr (.inl 6)] M2 (fun r3 M4 => (r3 = 0 → P (-102) M4) ∧ (¬ r3 = 0 → (¬ a2 = 5 → kM_in [.inr (.inl a3), .inr (.inl 0), .inr (.inl 999)] M4 (fun r5 M6 => (¬ r5 = 0 → (-2147483648 ≤ (7 * a1) ∧ (7 * a1) < 2147483648) ∧ (-2147483648 ≤ ((7 * a1) + a2) ∧ ((7 * a1) + a2) < 2147483648) ∧ (0 ≤ ((7 * a1) + a2) ∧ ((7 * a1) + a2) < 84) ∧ P (M6 1 (((7 * a1) + a2).toNat)) (ax_u M6 1 (((7 * a1) + a2).toNat) a3)) ∧ (r5 = 0 → P (-102) M6))) ∧ (a2 = 5 → kM_in [.inr (.inl a3), .inr (.inl 0), .inr (.inl 3)] M4 (fun r11 M12 => (¬ r11 = 0 → (-2147483648 ≤ (7 * a1) ∧ (7 * a1) < 2147483648) ∧ (-2147483648 ≤ ((7 * a1) + a2) ∧ ((7 * a1) + a2) < 2147483648) ∧ (0 ≤ ((7 * a1) + a2) ∧ ((7 * a1) + a2) < 84) ∧ P (M12 1 (((7 * a1) + a2).toNat)) (ax_u M12 1 (((7 * a1) + a2).toNat) a3)) ∧ (r11 = 0 → P (-102) M12)))))) ∧ (r1 = 0 → P (-101) M2))) : kM_change [.inr (.inr 0), .inl a1, .inl a2, .inl a3] M P := ax_ofJ (by decide) (Nat.le_of_ble_eq_true rfl) (gM_change_0 h)
-- M_letters dp 0
theorem gM_letters_0 {P : Int → ax_Mem → Prop} {M : ax_Mem} {a1 : Int} (h : jM_letters P 11 [(0, .inr (.inr 0)), (1, .inr (.inl a1)), (3, .inl 0), (4, .inl 1), (5, .inr (.inl a1)), (7, .inl 0)] [] M) : jM_letters P 0 [(0, .inr (.inr 0)), (1, .inr (.inl a1))] [] M := by
  refine ax_iconst dM_letters_0 (by decide) ?_
  refine ax_istoren dM_letters_1 rfl (by decide) rfl ?_
  refine ax_iconst dM_letters_2 (by decide) ?_
  refine ax_istore dM_letters_3 (by decide) rfl ?_
  refine ax_lloadn 3 dM_letters_5 rfl rfl ?_
  refine ax_lstore dM_letters_6 (by decide) rfl ?_
  refine ax_iconst dM_letters_8 (by decide) ?_
  refine ax_istore dM_letters_9 (by decide) rfl ?_
  exact ax_sub [4, 5, 3, 2, 1, 0] rfl h
theorem gM_letters_11 {P : Int → ax_Mem → Prop} {M : ax_Mem} {v1 v3 v4 v5 v7 : Int} (h : (8 ≤ v7 → (¬ v4 = 0 → (-2147483648 ≤ ((M 0 7) + v3) ∧ ((M 0 7) + v3) < 2147483648) ∧ (((M 0 7) + v3) ≤ 16 → jM_letters P 108 [(0, .inr (.inr 0)), (1, .inr (.inl v1)), (3, .inl v3), (7, .inl 0)] [] M) ∧ (¬ ((M 0 7) + v3) ≤ 16 → P (-104) M)) ∧ (v4 = 0 → P (-102) M)) ∧ (¬ 8 ≤ v7 → (-2147483648 ≤ (v5 % 2 ^ 8) ∧ (v5 % 2 ^ 8) < 2147483648) ∧ ((0 : Int) ≤ 8 ∧ (8 : Int) < 64) ∧ (v4 = 0 → jM_letters P 61 [(0, .inr (.inr 0)), (1, .inr (.inl v1)), (3, .inl v3), (5, .inr (.inl ((v5 % 2 ^ 64) / 2 ^ 8))), (7, .inl v7), (8, .inl (v5 % 2 ^ 8))] [] M) ∧ (¬ v4 = 0 → (126 < (v5 % 2 ^ 8) → jM_letters P 61 [(0, .inr (.inr 0)), (1, .inr (.inl v1)), (3, .inl v3), (5, .inr (.inl ((v5 % 2 ^ 64) / 2 ^ 8))), (7, .inl v7), (8, .inl (v5 % 2 ^ 8))] [] M) ∧ (¬ 126 < (v5 % 2 ^ 8) → ((v5 % 2 ^ 8) = 0 → jM_letters P 57 [(0, .inr (.inr 0)), (1, .inr (.inl v1)), (3, .inl v3), (5, .inr (.inl ((v5 % 2 ^ 64) / 2 ^ 8))), (7, .inl v7), (8, .inl (v5 % 2 ^ 8))] [] M) ∧ (¬ (v5 % 2 ^ 8) = 0 → (¬ v3 = v7 → jM_letters P 61 [(0, .inr (.inr 0)), (1, .inr (.inl v1)), (3, .inl v3), (5, .inr (.inl ((v5 % 2 ^ 64) / 2 ^ 8))), (7, .inl v7), (8, .inl (v5 % 2 ^ 8))] [] M) ∧ (v3 = v7 → jM_letters P 57 [(0, .inr (.inr 0)), (1, .inr (.inl v1)), (3, .inl v3), (5, .inr (.inl ((v5 % 2 ^ 64) / 2 ^ 8))), (7, .inl v7), (8, .inl (v5 % 2 ^ 8))] [] M)))))) : jM_letters P 11 [(0, .inr (.inr 0)), (1, .inr (.inl v1)), (3, .inl v3), (4, .inl v4), (5, .inr (.inl v5)), (7, .inl v7)] [] M := by
  refine ax_iload 5 dM_letters_11 rfl ?_
  refine ax_bipush dM_letters_13 (by decide) ?_
  refine ax_icmp_ge (tgt := 83) dM_letters_15 (by decide) (fun c10 => ?_) (fun c10 => ?_)
  · replace h := h.1 c10
    refine ax_iload 3 dM_letters_83 rfl ?_
    refine ax_if_ne (tgt := 91) dM_letters_85 (by decide) (fun c3 => ?_) (fun c3 => ?_)
    · replace h := h.1 c3
      refine ax_aloadn 0 dM_letters_91 rfl rfl ?_
      refine ax_geti dM_letters_92 fM_113 sM_0 rfl ?_
      refine ax_iloadn 2 dM_letters_95 rfl rfl ?_
      obtain ⟨q1, h⟩ := h
      refine ax_iadd dM_letters_96 q1 ?_
      refine ax_bipush dM_letters_97 (by decide) ?_
      refine ax_icmp_le (tgt := 105) dM_letters_99 (by decide) (fun c2 => ?_) (fun c2 => ?_)
      · replace h := h.1 c2
        refine ax_iconst dM_letters_105 (by decide) ?_
        refine ax_istore dM_letters_106 (by decide) rfl ?_
        exact ax_sub [1, 2, 3, 0] rfl h
      · replace h := h.2 c2
        refine ax_bipush dM_letters_102 (by decide) ?_
        exact ax_iret dM_letters_104 h
    · replace h := h.2 c3
      refine ax_bipush dM_letters_88 (by decide) ?_
      exact ax_iret dM_letters_90 h
  · replace h := h.2 c10
    refine ax_lload 4 dM_letters_18 rfl ?_
    refine ax_ldc2 (n := 255) dM_letters_20 nM_111 ?_
    refine ax_land 8 dM_letters_23 (by decide) (by decide) ?_
    obtain ⟨q4, h⟩ := h
    refine ax_l2i dM_letters_24 q4 ?_
    refine ax_istore dM_letters_25 (by decide) rfl ?_
    refine ax_lload 5 dM_letters_27 rfl ?_
    refine ax_bipush dM_letters_29 (by decide) ?_
    obtain ⟨q5, h⟩ := h
    refine ax_lushr dM_letters_31 q5.1 q5.2 ?_
    refine ax_lstore dM_letters_32 (by decide) rfl ?_
    refine ax_iload 5 dM_letters_34 rfl ?_
    refine ax_if_eq (tgt := 61) dM_letters_36 (by decide) (fun c9 => ?_) (fun c9 => ?_)
    · replace h := h.1 c9
      exact ax_sub [2, 3, 4, 0, 6, 1] rfl h
    · replace h := h.2 c9
      refine ax_iload 1 dM_letters_39 rfl ?_
      refine ax_bipush dM_letters_41 (by decide) ?_
      refine ax_icmp_gt (tgt := 61) dM_letters_43 (by decide) (fun c8 => ?_) (fun c8 => ?_)
      · replace h := h.1 c8
        exact ax_sub [2, 3, 4, 0, 6, 1] rfl h
      · replace h := h.2 c8
        refine ax_iload 1 dM_letters_46 rfl ?_
        refine ax_if_eq (tgt := 57) dM_letters_48 (by decide) (fun c7 => ?_) (fun c7 => ?_)
        · replace h := h.1 c7
          exact ax_sub [2, 3, 4, 0, 6, 1] rfl h
        · replace h := h.2 c7
          refine ax_iloadn 4 dM_letters_51 rfl rfl ?_
          refine ax_iload 6 dM_letters_52 rfl ?_
          refine ax_icmp_ne (tgt := 61) dM_letters_54 (by decide) (fun c6 => ?_) (fun c6 => ?_)
          · replace h := h.1 c6
            exact ax_sub [2, 3, 4, 0, 6, 1] rfl h
          · replace h := h.2 c6
            exact ax_sub [2, 3, 4, 0, 6, 1] rfl h
theorem gM_letters_108 {P : Int → ax_Mem → Prop} {M : ax_Mem} {v1 v3 v7 : Int} (h : (v3 ≤ v7 → P (M 0 7) M) ∧ (¬ v3 ≤ v7 → (-2147483648 ≤ (8 * v7) ∧ (8 * v7) < 2147483648) ∧ ((0 : Int) ≤ (8 * v7) ∧ (8 * v7 : Int) < 64) ∧ (-2147483648 ≤ (((v1 % 2 ^ 64) / 2 ^ (8 * v7).toNat) % 2 ^ 8) ∧ (((v1 % 2 ^ 64) / 2 ^ (8 * v7).toNat) % 2 ^ 8) < 2147483648) ∧ (0 ≤ (M 0 7) ∧ (M 0 7) < 16) ∧ (-2147483648 ≤ (v7 + 1) ∧ (v7 + 1) < 2147483648) ∧ jM_letters P 108 [(0, .inr (.inr 0)), (1, .inr (.inl v1)), (3, .inl v3), (7, .inl (v7 + 1))] [] (ax_u (ax_u M 2 ((M 0 7).toNat) (((v1 % 2 ^ 64) / 2 ^ (8 * v7).toNat) % 2 ^ 8)) 0 7 ((M 0 7) + 1)))) : jM_letters P 108 [(0, .inr (.inr 0)), (1, .inr (.inl v1)), (3, .inl v3), (7, .inl v7)] [] M := by
  refine ax_iload 3 dM_letters_108 rfl ?_
  refine ax_iloadn 2 dM_letters_110 rfl rfl ?_
  refine ax_icmp_ge (tgt := 151) dM_letters_111 (by decide) (fun c6 => ?_) (fun c6 => ?_)
  · replace h := h.1 c6
    refine ax_aloadn 0 dM_letters_151 rfl rfl ?_
    refine ax_geti dM_letters_152 fM_113 sM_0 rfl ?_
    exact ax_iret dM_letters_155 h
  · replace h := h.2 c6
    refine ax_aloadn 0 dM_letters_114 rfl rfl ?_
    refine ax_getr dM_letters_115 fM_13 sM_0 rfl ?_
    refine ax_aloadn 0 dM_letters_118 rfl rfl ?_
    refine ax_geti dM_letters_119 fM_113 sM_0 rfl ?_
    refine ax_lloadn 1 dM_letters_122 rfl rfl ?_
    refine ax_bipush dM_letters_123 (by decide) ?_
    refine ax_iload 3 dM_letters_125 rfl ?_
    obtain ⟨q1, h⟩ := h
    refine ax_imul dM_letters_127 q1 ?_
    obtain ⟨q2, h⟩ := h
    refine ax_lushr dM_letters_128 q2.1 q2.2 ?_
    refine ax_ldc2 (n := 255) dM_letters_129 nM_111 ?_
    refine ax_land 8 dM_letters_132 (by decide) (by decide) ?_
    obtain ⟨q3, h⟩ := h
    refine ax_l2i dM_letters_133 q3 ?_
    obtain ⟨q4, h⟩ := h
    refine ax_iast dM_letters_134 sM_2 q4.1 q4.2 ?_
    refine ax_aloadn 0 dM_letters_135 rfl rfl ?_
    refine ax_dup dM_letters_136 rfl ?_
    refine ax_geti dM_letters_137 fM_113 sM_0 rfl ?_
    refine ax_top (x' := M 0 7) (by first | rfl | exact ax_u_at _ _ _ _) ?_
    refine ax_iconst dM_letters_140 (by decide) ?_
    refine ax_iadd dM_letters_141 (show ax_r _ from ⟨by omega, by omega⟩) ?_
    refine ax_puti dM_letters_142 pM_113 sM_0 rfl ?_
    obtain ⟨q5, h⟩ := h
    refine ax_iinc (j := 3) dM_letters_145 rfl (by decide) q5 rfl ?_
    refine ax_goto (tgt := 108) dM_letters_148 (by decide) ?_
    exact ax_sub [1, 2, 3, 0] rfl h
theorem gM_letters_61 {P : Int → ax_Mem → Prop} {M : ax_Mem} {v1 v3 v5 v7 v8 : Int} (h : jM_letters P 62 [(0, .inr (.inr 0)), (1, .inr (.inl v1)), (3, .inl v3), (5, .inr (.inl v5)), (7, .inl v7), (8, .inl v8)] [.inl 0] M) : jM_letters P 61 [(0, .inr (.inr 0)), (1, .inr (.inl v1)), (3, .inl v3), (5, .inr (.inl v5)), (7, .inl v7), (8, .inl v8)] [] M := by
  refine ax_iconst dM_letters_61 (by decide) ?_
  exact h
theorem gM_letters_57 {P : Int → ax_Mem → Prop} {M : ax_Mem} {v1 v3 v5 v7 v8 : Int} (h : jM_letters P 62 [(0, .inr (.inr 0)), (1, .inr (.inl v1)), (3, .inl v3), (5, .inr (.inl v5)), (7, .inl v7), (8, .inl v8)] [.inl 1] M) : jM_letters P 57 [(0, .inr (.inr 0)), (1, .inr (.inl v1)), (3, .inl v3), (5, .inr (.inl v5)), (7, .inl v7), (8, .inl v8)] [] M := by
  refine ax_iconst dM_letters_57 (by decide) ?_
  refine ax_goto (tgt := 62) dM_letters_58 (by decide) ?_
  exact h
theorem gM_letters_62 {P : Int → ax_Mem → Prop} {M : ax_Mem} {v1 v3 v5 v7 v8 s0 : Int} (h : (v8 ≤ 0 → jM_letters P 75 [(0, .inr (.inr 0)), (1, .inr (.inl v1)), (4, .inl s0), (5, .inr (.inl v5)), (7, .inl v7)] [.inl 0, .inl v3] M) ∧ (¬ v8 ≤ 0 → jM_letters P 75 [(0, .inr (.inr 0)), (1, .inr (.inl v1)), (4, .inl s0), (5, .inr (.inl v5)), (7, .inl v7)] [.inl 1, .inl v3] M)) : jM_letters P 62 [(0, .inr (.inr 0)), (1, .inr (.inl v1)), (3, .inl v3), (5, .inr (.inl v5)), (7, .inl v7), (8, .inl v8)] [.inl s0] M := by
  refine ax_istore dM_letters_62 (by decide) rfl ?_
  refine ax_iloadn 3 dM_letters_64 rfl rfl ?_
  refine ax_iload 6 dM_letters_65 rfl ?_
  refine ax_if_le (tgt := 74) dM_letters_67 (by decide) (fun c1 => ?_) (fun c1 => ?_)
  · replace h := h.1 c1
    refine ax_iconst dM_letters_74 (by decide) ?_
    exact ax_sub [1, 2, 0, 4, 5] rfl h
  · replace h := h.2 c1
    refine ax_iconst dM_letters_70 (by decide) ?_
    refine ax_goto (tgt := 75) dM_letters_71 (by decide) ?_
    exact ax_sub [1, 2, 0, 4, 5] rfl h
theorem gM_letters_75 {P : Int → ax_Mem → Prop} {M : ax_Mem} {v1 v4 v5 v7 s0 s1 : Int} (h : (-2147483648 ≤ (s0 + s1) ∧ (s0 + s1) < 2147483648) ∧ (-2147483648 ≤ (v7 + 1) ∧ (v7 + 1) < 2147483648) ∧ jM_letters P 11 [(0, .inr (.inr 0)), (1, .inr (.inl v1)), (3, .inl (s0 + s1)), (4, .inl v4), (5, .inr (.inl v5)), (7, .inl (v7 + 1))] [] M) : jM_letters P 75 [(0, .inr (.inr 0)), (1, .inr (.inl v1)), (4, .inl v4), (5, .inr (.inl v5)), (7, .inl v7)] [.inl s1, .inl s0] M := by
  obtain ⟨q1, h⟩ := h
  refine ax_iadd dM_letters_75 q1 ?_
  refine ax_istoren dM_letters_76 rfl (by decide) rfl ?_
  obtain ⟨q2, h⟩ := h
  refine ax_iinc (j := 5) dM_letters_77 rfl (by decide) q2 rfl ?_
  refine ax_goto (tgt := 11) dM_letters_80 (by decide) ?_
  exact ax_sub [2, 3, 1, 4, 5, 0] rfl h
theorem eM_letters {P : Int → ax_Mem → Prop} {M : ax_Mem} {a1 : Int} (h : jM_letters P 11 [(0, .inr (.inr 0)), (1, .inr (.inl a1)), (3, .inl 0), (4, .inl 1), (5, .inr (.inl a1)), (7, .inl 0)] [] M) : kM_letters [.inr (.inr 0), .inr (.inl a1)] M P := ax_ofJ (by decide) (Nat.le_of_ble_eq_true rfl) (gM_letters_0 h)
-- M_blank dp 0
theorem gM_blank_0 {P : Int → ax_Mem → Prop} {M : ax_Mem} (h : P (M 0 7) (ax_u M 0 7 0)) : jM_blank P 0 [(0, .inr (.inr 0))] [] M := by
  refine ax_aloadn 0 dM_blank_0 rfl rfl ?_
  refine ax_geti dM_blank_1 fM_113 sM_0 rfl ?_
  refine ax_istoren dM_blank_4 rfl (by decide) rfl ?_
  refine ax_aloadn 1 dM_blank_5 rfl rfl ?_
  refine ax_iconst dM_blank_6 (by decide) ?_
  refine ax_puti dM_blank_7 pM_113 sM_0 rfl ?_
  refine ax_iloadn 0 dM_blank_10 rfl rfl ?_
  exact ax_iret dM_blank_11 h
theorem eM_blank {P : Int → ax_Mem → Prop} {M : ax_Mem} (h : P (M 0 7) (ax_u M 0 7 0)) : kM_blank [.inr (.inr 0)] M P := ax_ofJ (by decide) (Nat.le_of_ble_eq_true rfl) (gM_blank_0 h)
-- M_isKey dp 0
theorem gM_isKey_0 {P : Int → ax_Mem → Prop} {M : ax_Mem} {a1 : Int} (h : (a1 = 98 → P 1 M) ∧ (¬ a1 = 98 → (a1 = 102 → P 1 M) ∧ (¬ a1 = 102 → (a1 = 119 → P 1 M) ∧ (¬ a1 = 119 → (a1 = 97 → P 1 M) ∧ (¬ a1 = 97 → (a1 = 115 → P 1 M) ∧ (¬ a1 = 115 → (a1 = 111 → P 1 M) ∧ (¬ a1 = 111 → (¬ a1 = 103 → P 0 M) ∧ (a1 = 103 → P 1 M)))))))) : jM_isKey P 0 [(0, .inl a1)] [] M := by
  refine ax_iloadn 0 dM_isKey_0 rfl rfl ?_
  refine ax_bipush dM_isKey_1 (by decide) ?_
  refine ax_icmp_eq (tgt := 42) dM_isKey_3 (by decide) (fun c7 => ?_) (fun c7 => ?_)
  · replace h := h.1 c7
    refine ax_iconst dM_isKey_42 (by decide) ?_
    refine ax_goto (tgt := 47) dM_isKey_43 (by decide) ?_
    exact ax_zret dM_isKey_47 (by decide) h
  · replace h := h.2 c7
    refine ax_iloadn 0 dM_isKey_6 rfl rfl ?_
    refine ax_bipush dM_isKey_7 (by decide) ?_
    refine ax_icmp_eq (tgt := 42) dM_isKey_9 (by decide) (fun c6 => ?_) (fun c6 => ?_)
    · replace h := h.1 c6
      refine ax_iconst dM_isKey_42 (by decide) ?_
      refine ax_goto (tgt := 47) dM_isKey_43 (by decide) ?_
      exact ax_zret dM_isKey_47 (by decide) h
    · replace h := h.2 c6
      refine ax_iloadn 0 dM_isKey_12 rfl rfl ?_
      refine ax_bipush dM_isKey_13 (by decide) ?_
      refine ax_icmp_eq (tgt := 42) dM_isKey_15 (by decide) (fun c5 => ?_) (fun c5 => ?_)
      · replace h := h.1 c5
        refine ax_iconst dM_isKey_42 (by decide) ?_
        refine ax_goto (tgt := 47) dM_isKey_43 (by decide) ?_
        exact ax_zret dM_isKey_47 (by decide) h
      · replace h := h.2 c5
        refine ax_iloadn 0 dM_isKey_18 rfl rfl ?_
        refine ax_bipush dM_isKey_19 (by decide) ?_
        refine ax_icmp_eq (tgt := 42) dM_isKey_21 (by decide) (fun c4 => ?_) (fun c4 => ?_)
        · replace h := h.1 c4
          refine ax_iconst dM_isKey_42 (by decide) ?_
          refine ax_goto (tgt := 47) dM_isKey_43 (by decide) ?_
          exact ax_zret dM_isKey_47 (by decide) h
        · replace h := h.2 c4
          refine ax_iloadn 0 dM_isKey_24 rfl rfl ?_
          refine ax_bipush dM_isKey_25 (by decide) ?_
          refine ax_icmp_eq (tgt := 42) dM_isKey_27 (by decide) (fun c3 => ?_) (fun c3 => ?_)
          · replace h := h.1 c3
            refine ax_iconst dM_isKey_42 (by decide) ?_
            refine ax_goto (tgt := 47) dM_isKey_43 (by decide) ?_
            exact ax_zret dM_isKey_47 (by decide) h
          · replace h := h.2 c3
            refine ax_iloadn 0 dM_isKey_30 rfl rfl ?_
            refine ax_bipush dM_isKey_31 (by decide) ?_
            refine ax_icmp_eq (tgt := 42) dM_isKey_33 (by decide) (fun c2 => ?_) (fun c2 => ?_)
            · replace h := h.1 c2
              refine ax_iconst dM_isKey_42 (by decide) ?_
              refine ax_goto (tgt := 47) dM_isKey_43 (by decide) ?_
              exact ax_zret dM_isKey_47 (by decide) h
            · replace h := h.2 c2
              refine ax_iloadn 0 dM_isKey_36 rfl rfl ?_
              refine ax_bipush dM_isKey_37 (by decide) ?_
              refine ax_icmp_ne (tgt := 46) dM_isKey_39 (by decide) (fun c1 => ?_) (fun c1 => ?_)
              · replace h := h.1 c1
                refine ax_iconst dM_isKey_46 (by decide) ?_
                exact ax_zret dM_isKey_47 (by decide) h
              · replace h := h.2 c1
                refine ax_iconst dM_isKey_42 (by decide) ?_
                refine ax_goto (tgt := 47) dM_isKey_43 (by decide) ?_
                exact ax_zret dM_isKey_47 (by decide) h
theorem eM_isKey {P : Int → ax_Mem → Prop} {M : ax_Mem} {a1 : Int} (h : (a1 = 98 → P 1 M) ∧ (¬ a1 = 98 → (a1 = 102 → P 1 M) ∧ (¬ a1 = 102 → (a1 = 119 → P 1 M) ∧ (¬ a1 = 119 → (a1 = 97 → P 1 M) ∧ (¬ a1 = 97 → (a1 = 115 → P 1 M) ∧ (¬ a1 = 115 → (a1 = 111 → P 1 M) ∧ (¬ a1 = 111 → (¬ a1 = 103 → P 0 M) ∧ (a1 = 103 → P 1 M)))))))) : kM_isKey [.inl a1] M P := ax_ofJ (by decide) (Nat.le_of_ble_eq_true rfl) (gM_isKey_0 h)
-- M_go dp 1
theorem gM_go_0 {P : Int → ax_Mem → Prop} {M : ax_Mem} {a1 : Int} (h : (¬ (M 0 10) = 1 → (¬ (M 0 10) = 2 → kM_isKey [.inl a1] M (fun r1 M2 => (¬ r1 = 0 → (-2147483648 ≤ (2 * (M2 0 11)) ∧ (2 * (M2 0 11)) < 2147483648) ∧ (0 ≤ (2 * (M2 0 11)) ∧ (2 * (M2 0 11)) < 8) ∧ (0 ≤ ((2 * (M2 0 11)) + 1) ∧ ((2 * (M2 0 11)) + 1) < 8) ∧ (-2147483648 ≤ ((M2 0 11) + 1) ∧ ((M2 0 11) + 1) < 2147483648) ∧ (a1 = 98 → P 1 (ax_u (ax_u (ax_u (ax_u M2 4 ((2 * (M2 0 11)).toNat) a1) 4 (((2 * (M2 0 11)) + 1).toNat) 1) 0 11 ((M2 0 11) + 1)) 0 10 1)) ∧ (¬ a1 = 98 → (¬ a1 = 102 → P 1 (ax_u (ax_u (ax_u (ax_u M2 4 ((2 * (M2 0 11)).toNat) a1) 4 (((2 * (M2 0 11)) + 1).toNat) 1) 0 11 ((M2 0 11) + 1)) 0 10 2)) ∧ (a1 = 102 → P 1 (ax_u (ax_u (ax_u (ax_u M2 4 ((2 * (M2 0 11)).toNat) a1) 4 (((2 * (M2 0 11)) + 1).toNat) 1) 0 11 ((M2 0 11) + 1)) 0 10 1)))) ∧ (r1 = 0 → P 0 M2))) ∧ ((M 0 10) = 2 → (¬ a1 = 44 → P 0 (ax_u M 0 10 0)) ∧ (a1 = 44 → (4 ≤ (M 0 11) → P 0 (ax_u M 0 10 0)) ∧ (¬ 4 ≤ (M 0 11) → P 1 (ax_u M 0 10 0))))) ∧ ((M 0 10) = 1 → (-2147483648 ≤ (2 * (M 0 11)) ∧ (2 * (M 0 11)) < 2147483648) ∧ (-2147483648 ≤ ((2 * (M 0 11)) - 1) ∧ ((2 * (M 0 11)) - 1) < 2147483648) ∧ (-2147483648 ≤ (a1 - 48) ∧ (a1 - 48) < 2147483648) ∧ (0 ≤ ((2 * (M 0 11)) - 1) ∧ ((2 * (M 0 11)) - 1) < 8) ∧ kM_in [.inr (.inl a1), .inr (.inl 49), .inr (.inl 57)] (ax_u (ax_u M 4 (((2 * (M 0 11)) - 1).toNat) (a1 - 48)) 0 10 2) (fun r17 M18 => (r17 = 0 ∨ r17 = 1) ∧ P r17 M18))) : jM_go P 0 [(0, .inr (.inr 0)), (1, .inl a1)] [] M := by
  refine ax_aloadn 0 dM_go_0 rfl rfl ?_
  refine ax_geti dM_go_1 fM_116 sM_0 rfl ?_
  refine ax_iconst dM_go_4 (by decide) ?_
  refine ax_icmp_ne (tgt := 42) dM_go_5 (by decide) (fun c19 => ?_) (fun c19 => ?_)
  · replace h := h.1 c19
    refine ax_aloadn 0 dM_go_42 rfl rfl ?_
    refine ax_geti dM_go_43 fM_116 sM_0 rfl ?_
    refine ax_iconst dM_go_46 (by decide) ?_
    refine ax_icmp_ne (tgt := 75) dM_go_47 (by decide) (fun c12 => ?_) (fun c12 => ?_)
    · replace h := h.1 c12
      refine ax_iloadn 1 dM_go_75 rfl rfl ?_
      refine ax_callS (dp2 := 0) (as := [.inl a1]) (st := []) dM_go_76 lM_126 rfl rfl (Nat.le_of_ble_eq_true rfl) (by decide) ?_
      refine ax_C_mono (fun r1 M2 h => ?_) h
      refine ax_if_ne (tgt := 84) dM_go_79 (by decide) (fun c9 => ?_) (fun c9 => ?_)
      · replace h := h.1 c9
        refine ax_aloadn 0 dM_go_84 rfl rfl ?_
        refine ax_getr dM_go_85 fM_19 sM_0 rfl ?_
        refine ax_iconst dM_go_88 (by decide) ?_
        refine ax_aloadn 0 dM_go_89 rfl rfl ?_
        refine ax_geti dM_go_90 fM_119 sM_0 rfl ?_
        obtain ⟨q3, h⟩ := h
        refine ax_imul dM_go_93 q3 ?_
        refine ax_iloadn 1 dM_go_94 rfl rfl ?_
        obtain ⟨q4, h⟩ := h
        refine ax_iast dM_go_95 sM_4 q4.1 q4.2 ?_
        refine ax_aloadn 0 dM_go_96 rfl rfl ?_
        refine ax_getr dM_go_97 fM_19 sM_0 rfl ?_
        refine ax_iconst dM_go_100 (by decide) ?_
        refine ax_aloadn 0 dM_go_101 rfl rfl ?_
        refine ax_geti dM_go_102 fM_119 sM_0 rfl ?_
        refine ax_top (x' := M2 0 11) (by first | rfl | exact ax_u_at _ _ _ _) ?_
        refine ax_imul dM_go_105 (show ax_r _ from ⟨by omega, by omega⟩) ?_
        refine ax_iconst dM_go_106 (by decide) ?_
        refine ax_iadd dM_go_107 (show ax_r _ from ⟨by omega, by omega⟩) ?_
        refine ax_iconst dM_go_108 (by decide) ?_
        obtain ⟨q5, h⟩ := h
        refine ax_iast dM_go_109 sM_4 q5.1 q5.2 ?_
        refine ax_aloadn 0 dM_go_110 rfl rfl ?_
        refine ax_dup dM_go_111 rfl ?_
        refine ax_geti dM_go_112 fM_119 sM_0 rfl ?_
        refine ax_top (x' := M2 0 11) (by first | rfl | exact ax_u_at _ _ _ _) ?_
        refine ax_iconst dM_go_115 (by decide) ?_
        obtain ⟨q6, h⟩ := h
        refine ax_iadd dM_go_116 q6 ?_
        refine ax_puti dM_go_117 pM_119 sM_0 rfl ?_
        refine ax_aloadn 0 dM_go_120 rfl rfl ?_
        refine ax_iloadn 1 dM_go_121 rfl rfl ?_
        refine ax_bipush dM_go_122 (by decide) ?_
        refine ax_icmp_eq (tgt := 133) dM_go_124 (by decide) (fun c8 => ?_) (fun c8 => ?_)
        · replace h := h.1 c8
          refine ax_iconst dM_go_133 (by decide) ?_
          refine ax_goto (tgt := 138) dM_go_134 (by decide) ?_
          refine ax_puti dM_go_138 pM_116 sM_0 rfl ?_
          refine ax_iconst dM_go_141 (by decide) ?_
          exact ax_zret dM_go_142 (by decide) h
        · replace h := h.2 c8
          refine ax_iloadn 1 dM_go_127 rfl rfl ?_
          refine ax_bipush dM_go_128 (by decide) ?_
          refine ax_icmp_ne (tgt := 137) dM_go_130 (by decide) (fun c7 => ?_) (fun c7 => ?_)
          · replace h := h.1 c7
            refine ax_iconst dM_go_137 (by decide) ?_
            refine ax_puti dM_go_138 pM_116 sM_0 rfl ?_
            refine ax_iconst dM_go_141 (by decide) ?_
            exact ax_zret dM_go_142 (by decide) h
          · replace h := h.2 c7
            refine ax_iconst dM_go_133 (by decide) ?_
            refine ax_goto (tgt := 138) dM_go_134 (by decide) ?_
            refine ax_puti dM_go_138 pM_116 sM_0 rfl ?_
            refine ax_iconst dM_go_141 (by decide) ?_
            exact ax_zret dM_go_142 (by decide) h
      · replace h := h.2 c9
        refine ax_iconst dM_go_82 (by decide) ?_
        exact ax_zret dM_go_83 (by decide) h
    · replace h := h.2 c12
      refine ax_aloadn 0 dM_go_50 rfl rfl ?_
      refine ax_iconst dM_go_51 (by decide) ?_
      refine ax_puti dM_go_52 pM_116 sM_0 rfl ?_
      refine ax_iloadn 1 dM_go_55 rfl rfl ?_
      refine ax_bipush dM_go_56 (by decide) ?_
      refine ax_icmp_ne (tgt := 73) dM_go_58 (by decide) (fun c11 => ?_) (fun c11 => ?_)
      · replace h := h.1 c11
        refine ax_iconst dM_go_73 (by decide) ?_
        exact ax_zret dM_go_74 (by decide) h
      · replace h := h.2 c11
        refine ax_aloadn 0 dM_go_61 rfl rfl ?_
        refine ax_geti dM_go_62 fM_119 sM_0 rfl ?_
        refine ax_top (x' := M 0 11) (by first | rfl | exact ax_u_at _ _ _ _) ?_
        refine ax_iconst dM_go_65 (by decide) ?_
        refine ax_icmp_ge (tgt := 73) dM_go_66 (by decide) (fun c10 => ?_) (fun c10 => ?_)
        · replace h := h.1 c10
          refine ax_iconst dM_go_73 (by decide) ?_
          exact ax_zret dM_go_74 (by decide) h
        · replace h := h.2 c10
          refine ax_iconst dM_go_69 (by decide) ?_
          refine ax_goto (tgt := 74) dM_go_70 (by decide) ?_
          exact ax_zret dM_go_74 (by decide) h
  · replace h := h.2 c19
    refine ax_aloadn 0 dM_go_8 rfl rfl ?_
    refine ax_getr dM_go_9 fM_19 sM_0 rfl ?_
    refine ax_iconst dM_go_12 (by decide) ?_
    refine ax_aloadn 0 dM_go_13 rfl rfl ?_
    refine ax_geti dM_go_14 fM_119 sM_0 rfl ?_
    obtain ⟨q13, h⟩ := h
    refine ax_imul dM_go_17 q13 ?_
    refine ax_iconst dM_go_18 (by decide) ?_
    obtain ⟨q14, h⟩ := h
    refine ax_isub dM_go_19 q14 ?_
    refine ax_iloadn 1 dM_go_20 rfl rfl ?_
    refine ax_bipush dM_go_21 (by decide) ?_
    obtain ⟨q15, h⟩ := h
    refine ax_isub dM_go_23 q15 ?_
    obtain ⟨q16, h⟩ := h
    refine ax_iast dM_go_24 sM_4 q16.1 q16.2 ?_
    refine ax_aloadn 0 dM_go_25 rfl rfl ?_
    refine ax_iconst dM_go_26 (by decide) ?_
    refine ax_puti dM_go_27 pM_116 sM_0 rfl ?_
    refine ax_iloadn 1 dM_go_30 rfl rfl ?_
    refine ax_i2l dM_go_31 ?_
    refine ax_ldc2 (n := 49) dM_go_32 nM_122 ?_
    refine ax_ldc2 (n := 57) dM_go_35 nM_124 ?_
    refine ax_callS (dp2 := 0) (as := [.inr (.inl a1), .inr (.inl 49), .inr (.inl 57)]) (st := []) dM_go_38 lM_72 rfl rfl (Nat.le_of_ble_eq_true rfl) (by decide) ?_
    refine ax_C_mono (fun r17 M18 h => ?_) h
    exact ax_zret dM_go_41 h.1 h.2
theorem eM_go {P : Int → ax_Mem → Prop} {M : ax_Mem} {a1 : Int} (h : (¬ (M 0 10) = 1 → (¬ (M 0 10) = 2 → kM_isKey [.inl a1] M (fun r1 M2 => (¬ r1 = 0 → (-2147483648 ≤ (2 * (M2 0 11)) ∧ (2 * (M2 0 11)) < 2147483648) ∧ (0 ≤ (2 * (M2 0 11)) ∧ (2 * (M2 0 11)) < 8) ∧ (0 ≤ ((2 * (M2 0 11)) + 1) ∧ ((2 * (M2 0 11)) + 1) < 8) ∧ (-2147483648 ≤ ((M2 0 11) + 1) ∧ ((M2 0 11) + 1) < 2147483648) ∧ (a1 = 98 → P 1 (ax_u (ax_u (ax_u (ax_u M2 4 ((2 * (M2 0 11)).toNat) a1) 4 (((2 * (M2 0 11)) + 1).toNat) 1) 0 11 ((M2 0 11) + 1)) 0 10 1)) ∧ (¬ a1 = 98 → (¬ a1 = 102 → P 1 (ax_u (ax_u (ax_u (ax_u M2 4 ((2 * (M2 0 11)).toNat) a1) 4 (((2 * (M2 0 11)) + 1).toNat) 1) 0 11 ((M2 0 11) + 1)) 0 10 2)) ∧ (a1 = 102 → P 1 (ax_u (ax_u (ax_u (ax_u M2 4 ((2 * (M2 0 11)).toNat) a1) 4 (((2 * (M2 0 11)) + 1).toNat) 1) 0 11 ((M2 0 11) + 1)) 0 10 1)))) ∧ (r1 = 0 → P 0 M2))) ∧ ((M 0 10) = 2 → (¬ a1 = 44 → P 0 (ax_u M 0 10 0)) ∧ (a1 = 44 → (4 ≤ (M 0 11) → P 0 (ax_u M 0 10 0)) ∧ (¬ 4 ≤ (M 0 11) → P 1 (ax_u M 0 10 0))))) ∧ ((M 0 10) = 1 → (-2147483648 ≤ (2 * (M 0 11)) ∧ (2 * (M 0 11)) < 2147483648) ∧ (-2147483648 ≤ ((2 * (M 0 11)) - 1) ∧ ((2 * (M 0 11)) - 1) < 2147483648) ∧ (-2147483648 ≤ (a1 - 48) ∧ (a1 - 48) < 2147483648) ∧ (0 ≤ ((2 * (M 0 11)) - 1) ∧ ((2 * (M 0 11)) - 1) < 8) ∧ kM_in [.inr (.inl a1), .inr (.inl 49), .inr (.inl 57)] (ax_u (ax_u M 4 (((2 * (M 0 11)) - 1).toNat) (a1 - 48)) 0 10 2) (fun r17 M18 => (r17 = 0 ∨ r17 = 1) ∧ P r17 M18))) : kM_go [.inr (.inr 0), .inl a1] M P := ax_ofJ (by decide) (Nat.le_of_ble_eq_true rfl) (gM_go_0 h)
-- M_faultOf dp 2
theorem gM_faultOf_0 {P : Int → ax_Mem → Prop} {M : ax_Mem} (h : jM_faultOf P 12 [(0, .inr (.inr 0)), (1, .inl 0)] [] (ax_u (ax_u M 0 10 0) 0 11 0)) : jM_faultOf P 0 [(0, .inr (.inr 0))] [] M := by
  refine ax_aloadn 0 dM_faultOf_0 rfl rfl ?_
  refine ax_iconst dM_faultOf_1 (by decide) ?_
  refine ax_puti dM_faultOf_2 pM_116 sM_0 rfl ?_
  refine ax_aloadn 0 dM_faultOf_5 rfl rfl ?_
  refine ax_iconst dM_faultOf_6 (by decide) ?_
  refine ax_puti dM_faultOf_7 pM_119 sM_0 rfl ?_
  refine ax_iconst dM_faultOf_10 (by decide) ?_
  refine ax_istoren dM_faultOf_11 rfl (by decide) rfl ?_
  exact ax_sub [1, 0] rfl h
theorem gM_faultOf_12 {P : Int → ax_Mem → Prop} {M : ax_Mem} {v1 : Int} (h : ((M 0 7) ≤ v1 → P v1 M) ∧ (¬ (M 0 7) ≤ v1 → (0 ≤ v1 ∧ v1 < 16) ∧ kM_go [.inr (.inr 0), .inl (M 2 (v1.toNat))] M (fun r2 M3 => (r2 = 0 → P v1 M3) ∧ (¬ r2 = 0 → jM_faultOf P 12 [(0, .inr (.inr 0)), (1, .inl (v1 + 1))] [] M3)))) : jM_faultOf P 12 [(0, .inr (.inr 0)), (1, .inl v1)] [] M := by
  refine ax_iloadn 1 dM_faultOf_12 rfl rfl ?_
  refine ax_aloadn 0 dM_faultOf_13 rfl rfl ?_
  refine ax_geti dM_faultOf_14 fM_113 sM_0 rfl ?_
  refine ax_icmp_ge (tgt := 39) dM_faultOf_17 (by decide) (fun c5 => ?_) (fun c5 => ?_)
  · replace h := h.1 c5
    refine ax_iloadn 1 dM_faultOf_39 rfl rfl ?_
    exact ax_iret dM_faultOf_40 h
  · replace h := h.2 c5
    refine ax_aloadn 0 dM_faultOf_20 rfl rfl ?_
    refine ax_aloadn 0 dM_faultOf_21 rfl rfl ?_
    refine ax_getr dM_faultOf_22 fM_13 sM_0 rfl ?_
    refine ax_iloadn 1 dM_faultOf_25 rfl rfl ?_
    obtain ⟨q1, h⟩ := h
    refine ax_iald dM_faultOf_26 sM_2 q1.1 q1.2 ?_
    refine ax_callV (dp2 := 1) (as := [.inl (M 2 (v1.toNat))]) (st := []) dM_faultOf_27 lM_129 sM_0 ⟨_, _, rfl⟩ rfl rfl (Nat.le_of_ble_eq_true rfl) (by decide) ?_
    refine ax_C_mono (fun r2 M3 h => ?_) h
    refine ax_if_eq (tgt := 39) dM_faultOf_30 (by decide) (fun c4 => ?_) (fun c4 => ?_)
    · replace h := h.1 c4
      refine ax_iloadn 1 dM_faultOf_39 rfl rfl ?_
      exact ax_iret dM_faultOf_40 h
    · replace h := h.2 c4
      refine ax_iinc (j := 1) dM_faultOf_33 rfl (by decide) (show ax_r _ from ⟨by omega, by omega⟩) rfl ?_
      refine ax_goto (tgt := 12) dM_faultOf_36 (by decide) ?_
      exact ax_sub [1, 0] rfl h
theorem eM_faultOf {P : Int → ax_Mem → Prop} {M : ax_Mem} (h : jM_faultOf P 12 [(0, .inr (.inr 0)), (1, .inl 0)] [] (ax_u (ax_u M 0 10 0) 0 11 0)) : kM_faultOf [.inr (.inr 0)] M P := ax_ofJ (by decide) (Nat.le_of_ble_eq_true rfl) (gM_faultOf_0 h)
-- M_fault dp 3
theorem gM_fault_0 {P : Int → ax_Mem → Prop} {M : ax_Mem} (h : kM_faultOf [.inr (.inr 0)] M (fun r1 M2 => P r1 M2)) : jM_fault P 0 [(0, .inr (.inr 0))] [] M := by
  refine ax_aloadn 0 dM_fault_0 rfl rfl ?_
  refine ax_callV (dp2 := 2) (as := []) (st := []) dM_fault_1 lM_132 sM_0 ⟨_, _, rfl⟩ rfl rfl (Nat.le_of_ble_eq_true rfl) (by decide) ?_
  refine ax_C_mono (fun r1 M2 h => ?_) h
  exact ax_iret dM_fault_4 h
theorem eM_fault {P : Int → ax_Mem → Prop} {M : ax_Mem} (h : kM_faultOf [.inr (.inr 0)] M (fun r1 M2 => P r1 M2)) : kM_fault [.inr (.inr 0)] M P := ax_ofJ (by decide) (Nat.le_of_ble_eq_true rfl) (gM_fault_0 h)
-- M_call dp 3
theorem gM_call_0 {P : Int → ax_Mem → Prop} {M : ax_Mem} (h : kM_faultOf [.inr (.inr 0)] M (fun r1 M2 => (r1 < (M2 0 7) → P (-103) M2) ∧ (¬ r1 < (M2 0 7) → ((M2 0 10) = 2 → (¬ (M2 0 8) = 8 → (-2147483648 ≤ (9 * (M2 0 8)) ∧ (9 * (M2 0 8)) < 2147483648) ∧ (0 ≤ (9 * (M2 0 8)) ∧ (9 * (M2 0 8)) < 72) ∧ jM_call P 52 [(0, .inr (.inr 0)), (1, .inl 0)] [] (ax_u M2 3 ((9 * (M2 0 8)).toNat) (M2 0 11))) ∧ ((M2 0 8) = 8 → P (-104) M2)) ∧ (¬ (M2 0 10) = 2 → P (-103) M2)))) : jM_call P 0 [(0, .inr (.inr 0))] [] M := by
  refine ax_aloadn 0 dM_call_0 rfl rfl ?_
  refine ax_callV (dp2 := 2) (as := []) (st := []) dM_call_1 lM_132 sM_0 ⟨_, _, rfl⟩ rfl rfl (Nat.le_of_ble_eq_true rfl) (by decide) ?_
  refine ax_C_mono (fun r1 M2 h => ?_) h
  refine ax_aloadn 0 dM_call_4 rfl rfl ?_
  refine ax_geti dM_call_5 fM_113 sM_0 rfl ?_
  refine ax_icmp_lt (tgt := 19) dM_call_8 (by decide) (fun c7 => ?_) (fun c7 => ?_)
  · replace h := h.1 c7
    refine ax_bipush dM_call_19 (by decide) ?_
    exact ax_iret dM_call_21 h
  · replace h := h.2 c7
    refine ax_aloadn 0 dM_call_11 rfl rfl ?_
    refine ax_geti dM_call_12 fM_116 sM_0 rfl ?_
    refine ax_iconst dM_call_15 (by decide) ?_
    refine ax_icmp_eq (tgt := 22) dM_call_16 (by decide) (fun c6 => ?_) (fun c6 => ?_)
    · replace h := h.1 c6
      refine ax_aloadn 0 dM_call_22 rfl rfl ?_
      refine ax_geti dM_call_23 fM_136 sM_0 rfl ?_
      refine ax_bipush dM_call_26 (by decide) ?_
      refine ax_icmp_ne (tgt := 34) dM_call_28 (by decide) (fun c5 => ?_) (fun c5 => ?_)
      · replace h := h.1 c5
        refine ax_aloadn 0 dM_call_34 rfl rfl ?_
        refine ax_getr dM_call_35 fM_16 sM_0 rfl ?_
        refine ax_bipush dM_call_38 (by decide) ?_
        refine ax_aloadn 0 dM_call_40 rfl rfl ?_
        refine ax_geti dM_call_41 fM_136 sM_0 rfl ?_
        obtain ⟨q3, h⟩ := h
        refine ax_imul dM_call_44 q3 ?_
        refine ax_aloadn 0 dM_call_45 rfl rfl ?_
        refine ax_geti dM_call_46 fM_119 sM_0 rfl ?_
        obtain ⟨q4, h⟩ := h
        refine ax_iast dM_call_49 sM_3 q4.1 q4.2 ?_
        refine ax_iconst dM_call_50 (by decide) ?_
        refine ax_istoren dM_call_51 rfl (by decide) rfl ?_
        exact ax_sub [1, 0] rfl h
      · replace h := h.2 c5
        refine ax_bipush dM_call_31 (by decide) ?_
        exact ax_iret dM_call_33 h
    · replace h := h.2 c6
      refine ax_bipush dM_call_19 (by decide) ?_
      exact ax_iret dM_call_21 h
theorem gM_call_52 {P : Int → ax_Mem → Prop} {M : ax_Mem} {v1 : Int} (h : (8 ≤ v1 → (-2147483648 ≤ ((M 0 8) + 1) ∧ ((M 0 8) + 1) < 2147483648) ∧ (-2147483648 ≤ (((M 0 8) + 1) - 1) ∧ (((M 0 8) + 1) - 1) < 2147483648) ∧ P (((M 0 8) + 1) - 1) (ax_u (ax_u M 0 8 ((M 0 8) + 1)) 0 7 0)) ∧ (¬ 8 ≤ v1 → (-2147483648 ≤ (9 * (M 0 8)) ∧ (9 * (M 0 8)) < 2147483648) ∧ (-2147483648 ≤ ((9 * (M 0 8)) + 1) ∧ ((9 * (M 0 8)) + 1) < 2147483648) ∧ (-2147483648 ≤ (((9 * (M 0 8)) + 1) + v1) ∧ (((9 * (M 0 8)) + 1) + v1) < 2147483648) ∧ (0 ≤ v1 ∧ v1 < 8) ∧ (0 ≤ (((9 * (M 0 8)) + 1) + v1) ∧ (((9 * (M 0 8)) + 1) + v1) < 72) ∧ jM_call P 52 [(0, .inr (.inr 0)), (1, .inl (v1 + 1))] [] (ax_u M 3 ((((9 * (M 0 8)) + 1) + v1).toNat) (M 4 (v1.toNat))))) : jM_call P 52 [(0, .inr (.inr 0)), (1, .inl v1)] [] M := by
  refine ax_iloadn 1 dM_call_52 rfl rfl ?_
  refine ax_bipush dM_call_53 (by decide) ?_
  refine ax_icmp_ge (tgt := 86) dM_call_55 (by decide) (fun c8 => ?_) (fun c8 => ?_)
  · replace h := h.1 c8
    refine ax_aloadn 0 dM_call_86 rfl rfl ?_
    refine ax_dup dM_call_87 rfl ?_
    refine ax_geti dM_call_88 fM_136 sM_0 rfl ?_
    refine ax_iconst dM_call_91 (by decide) ?_
    obtain ⟨q1, h⟩ := h
    refine ax_iadd dM_call_92 q1 ?_
    refine ax_puti dM_call_93 pM_136 sM_0 rfl ?_
    refine ax_aloadn 0 dM_call_96 rfl rfl ?_
    refine ax_iconst dM_call_97 (by decide) ?_
    refine ax_puti dM_call_98 pM_113 sM_0 rfl ?_
    refine ax_aloadn 0 dM_call_101 rfl rfl ?_
    refine ax_geti dM_call_102 fM_136 sM_0 rfl ?_
    refine ax_top (x' := (M 0 8) + 1) (by first | rfl | exact ax_u_at _ _ _ _) ?_
    refine ax_iconst dM_call_105 (by decide) ?_
    obtain ⟨q2, h⟩ := h
    refine ax_isub dM_call_106 q2 ?_
    exact ax_iret dM_call_107 h
  · replace h := h.2 c8
    refine ax_aloadn 0 dM_call_58 rfl rfl ?_
    refine ax_getr dM_call_59 fM_16 sM_0 rfl ?_
    refine ax_bipush dM_call_62 (by decide) ?_
    refine ax_aloadn 0 dM_call_64 rfl rfl ?_
    refine ax_geti dM_call_65 fM_136 sM_0 rfl ?_
    obtain ⟨q3, h⟩ := h
    refine ax_imul dM_call_68 q3 ?_
    refine ax_iconst dM_call_69 (by decide) ?_
    obtain ⟨q4, h⟩ := h
    refine ax_iadd dM_call_70 q4 ?_
    refine ax_iloadn 1 dM_call_71 rfl rfl ?_
    obtain ⟨q5, h⟩ := h
    refine ax_iadd dM_call_72 q5 ?_
    refine ax_aloadn 0 dM_call_73 rfl rfl ?_
    refine ax_getr dM_call_74 fM_19 sM_0 rfl ?_
    refine ax_iloadn 1 dM_call_77 rfl rfl ?_
    obtain ⟨q6, h⟩ := h
    refine ax_iald dM_call_78 sM_4 q6.1 q6.2 ?_
    obtain ⟨q7, h⟩ := h
    refine ax_iast dM_call_79 sM_3 q7.1 q7.2 ?_
    refine ax_iinc (j := 1) dM_call_80 rfl (by decide) (show ax_r _ from ⟨by omega, by omega⟩) rfl ?_
    refine ax_goto (tgt := 52) dM_call_83 (by decide) ?_
    exact ax_sub [1, 0] rfl h
theorem eM_call {P : Int → ax_Mem → Prop} {M : ax_Mem} (h : kM_faultOf [.inr (.inr 0)] M (fun r1 M2 => (r1 < (M2 0 7) → P (-103) M2) ∧ (¬ r1 < (M2 0 7) → ((M2 0 10) = 2 → (¬ (M2 0 8) = 8 → (-2147483648 ≤ (9 * (M2 0 8)) ∧ (9 * (M2 0 8)) < 2147483648) ∧ (0 ≤ (9 * (M2 0 8)) ∧ (9 * (M2 0 8)) < 72) ∧ jM_call P 52 [(0, .inr (.inr 0)), (1, .inl 0)] [] (ax_u M2 3 ((9 * (M2 0 8)).toNat) (M2 0 11))) ∧ ((M2 0 8) = 8 → P (-104) M2)) ∧ (¬ (M2 0 10) = 2 → P (-103) M2)))) : kM_call [.inr (.inr 0)] M P := ax_ofJ (by decide) (Nat.le_of_ble_eq_true rfl) (gM_call_0 h)
-- M_isCall dp 1
theorem gM_isCall_0 {P : Int → ax_Mem → Prop} {M : ax_Mem} {a1 : Int} (h : (-2147483648 ≤ ((M 0 8) - 1) ∧ ((M 0 8) - 1) < 2147483648) ∧ kM_in [.inr (.inl a1), .inr (.inl 0), .inr (.inl ((M 0 8) - 1))] M (fun r2 M3 => (r2 = 0 ∨ r2 = 1) ∧ P r2 M3)) : jM_isCall P 0 [(0, .inr (.inr 0)), (1, .inl a1)] [] M := by
  refine ax_iloadn 1 dM_isCall_0 rfl rfl ?_
  refine ax_i2l dM_isCall_1 ?_
  refine ax_lconst (i := 0) dM_isCall_2 rfl ?_
  refine ax_aloadn 0 dM_isCall_3 rfl rfl ?_
  refine ax_geti dM_isCall_4 fM_136 sM_0 rfl ?_
  refine ax_iconst dM_isCall_7 (by decide) ?_
  obtain ⟨q1, h⟩ := h
  refine ax_isub dM_isCall_8 q1 ?_
  refine ax_i2l dM_isCall_9 ?_
  refine ax_callS (dp2 := 0) (as := [.inr (.inl a1), .inr (.inl 0), .inr (.inl ((M 0 8) - 1))]) (st := []) dM_isCall_10 lM_72 rfl rfl (Nat.le_of_ble_eq_true rfl) (by decide) ?_
  refine ax_C_mono (fun r2 M3 h => ?_) h
  exact ax_zret dM_isCall_13 h.1 h.2
theorem eM_isCall {P : Int → ax_Mem → Prop} {M : ax_Mem} {a1 : Int} (h : (-2147483648 ≤ ((M 0 8) - 1) ∧ ((M 0 8) - 1) < 2147483648) ∧ kM_in [.inr (.inl a1), .inr (.inl 0), .inr (.inl ((M 0 8) - 1))] M (fun r2 M3 => (r2 = 0 ∨ r2 = 1) ∧ P r2 M3)) : kM_isCall [.inr (.inr 0), .inl a1] M P := ax_ofJ (by decide) (Nat.le_of_ble_eq_true rfl) (gM_isCall_0 h)
-- M_sideOf dp 0
theorem gM_sideOf_0 {P : Int → ax_Mem → Prop} {M : ax_Mem} {a1 : Int} (h : (-2147483648 ≤ (7 * a1) ∧ (7 * a1) < 2147483648) ∧ (-2147483648 ≤ ((7 * a1) + 3) ∧ ((7 * a1) + 3) < 2147483648) ∧ (0 ≤ ((7 * a1) + 3) ∧ ((7 * a1) + 3) < 84) ∧ P (M 1 (((7 * a1) + 3).toNat)) M) : jM_sideOf P 0 [(0, .inr (.inr 0)), (1, .inl a1)] [] M := by
  refine ax_aloadn 0 dM_sideOf_0 rfl rfl ?_
  refine ax_getr dM_sideOf_1 fM_7 sM_0 rfl ?_
  refine ax_bipush dM_sideOf_4 (by decide) ?_
  refine ax_iloadn 1 dM_sideOf_6 rfl rfl ?_
  obtain ⟨q1, h⟩ := h
  refine ax_imul dM_sideOf_7 q1 ?_
  refine ax_iconst dM_sideOf_8 (by decide) ?_
  obtain ⟨q2, h⟩ := h
  refine ax_iadd dM_sideOf_9 q2 ?_
  obtain ⟨q3, h⟩ := h
  refine ax_iald dM_sideOf_10 sM_1 q3.1 q3.2 ?_
  exact ax_iret dM_sideOf_11 h
theorem eM_sideOf {P : Int → ax_Mem → Prop} {M : ax_Mem} {a1 : Int} (h : (-2147483648 ≤ (7 * a1) ∧ (7 * a1) < 2147483648) ∧ (-2147483648 ≤ ((7 * a1) + 3) ∧ ((7 * a1) + 3) < 2147483648) ∧ (0 ≤ ((7 * a1) + 3) ∧ ((7 * a1) + 3) < 84) ∧ P (M 1 (((7 * a1) + 3).toNat)) M) : kM_sideOf [.inr (.inr 0), .inl a1] M P := ax_ofJ (by decide) (Nat.le_of_ble_eq_true rfl) (gM_sideOf_0 h)
-- M_depthOf dp 0
theorem gM_depthOf_0 {P : Int → ax_Mem → Prop} {M : ax_Mem} {a1 : Int} (h : (-2147483648 ≤ (7 * a1) ∧ (7 * a1) < 2147483648) ∧ (-2147483648 ≤ ((7 * a1) + 4) ∧ ((7 * a1) + 4) < 2147483648) ∧ (0 ≤ ((7 * a1) + 4) ∧ ((7 * a1) + 4) < 84) ∧ P (M 1 (((7 * a1) + 4).toNat)) M) : jM_depthOf P 0 [(0, .inr (.inr 0)), (1, .inl a1)] [] M := by
  refine ax_aloadn 0 dM_depthOf_0 rfl rfl ?_
  refine ax_getr dM_depthOf_1 fM_7 sM_0 rfl ?_
  refine ax_bipush dM_depthOf_4 (by decide) ?_
  refine ax_iloadn 1 dM_depthOf_6 rfl rfl ?_
  obtain ⟨q1, h⟩ := h
  refine ax_imul dM_depthOf_7 q1 ?_
  refine ax_iconst dM_depthOf_8 (by decide) ?_
  obtain ⟨q2, h⟩ := h
  refine ax_iadd dM_depthOf_9 q2 ?_
  obtain ⟨q3, h⟩ := h
  refine ax_iald dM_depthOf_10 sM_1 q3.1 q3.2 ?_
  exact ax_iret dM_depthOf_11 h
theorem eM_depthOf {P : Int → ax_Mem → Prop} {M : ax_Mem} {a1 : Int} (h : (-2147483648 ≤ (7 * a1) ∧ (7 * a1) < 2147483648) ∧ (-2147483648 ≤ ((7 * a1) + 4) ∧ ((7 * a1) + 4) < 2147483648) ∧ (0 ≤ ((7 * a1) + 4) ∧ ((7 * a1) + 4) < 84) ∧ P (M 1 (((7 * a1) + 4).toNat)) M) : kM_depthOf [.inr (.inr 0), .inl a1] M P := ax_ofJ (by decide) (Nat.le_of_ble_eq_true rfl) (gM_depthOf_0 h)
-- M_layPeople dp 0
theorem gM_layPeople_0 {P : Int → ax_Mem → Prop} {M : ax_Mem} {a1 : Int} (h : jM_layPeople P 10 [(0, .inr (.inr 0)), (1, .inl a1), (2, .inl 0)] [] (ax_u M 0 13 (M 0 0))) : jM_layPeople P 0 [(0, .inr (.inr 0)), (1, .inl a1)] [] M := by
  refine ax_aloadn 0 dM_layPeople_0 rfl rfl ?_
  refine ax_aloadn 0 dM_layPeople_1 rfl rfl ?_
  refine ax_geti dM_layPeople_2 fM_80 sM_0 rfl ?_
  refine ax_puti dM_layPeople_5 pM_139 sM_0 rfl ?_
  refine ax_iconst dM_layPeople_8 (by decide) ?_
  refine ax_istoren dM_layPeople_9 rfl (by decide) rfl ?_
  exact ax_sub [1, 2, 0] rfl h
theorem gM_layPeople_10 {P : Int → ax_Mem → Prop} {M : ax_Mem} {v1 v2 : Int} (h : ((M 0 4) ≤ v2 → P 0 M) ∧ (¬ (M 0 4) ≤ v2 → (-2147483648 ≤ (7 * v2) ∧ (7 * v2) < 2147483648) ∧ (-2147483648 ≤ ((7 * v2) + 2) ∧ ((7 * v2) + 2) < 2147483648) ∧ (0 ≤ ((7 * v2) + 2) ∧ ((7 * v2) + 2) < 84) ∧ (0 ≤ v2 ∧ v2 < 12) ∧ (v1 ≤ (M 1 (((7 * v2) + 5).toNat)) → jM_layPeople P 10 [(0, .inr (.inr 0)), (1, .inl v1), (2, .inl (v2 + 1))] [] (ax_u (ax_u M 5 (v2.toNat) (M 1 (((7 * v2) + 2).toNat))) 6 (v2.toNat) v1)) ∧ (¬ v1 ≤ (M 1 (((7 * v2) + 5).toNat)) → jM_layPeople P 10 [(0, .inr (.inr 0)), (1, .inl v1), (2, .inl (v2 + 1))] [] (ax_u (ax_u M 5 (v2.toNat) (M 1 (((7 * v2) + 2).toNat))) 6 (v2.toNat) (M 1 (((7 * v2) + 5).toNat)))))) : jM_layPeople P 10 [(0, .inr (.inr 0)), (1, .inl v1), (2, .inl v2)] [] M := by
  refine ax_iloadn 2 dM_layPeople_10 rfl rfl ?_
  refine ax_aloadn 0 dM_layPeople_11 rfl rfl ?_
  refine ax_geti dM_layPeople_12 fM_89 sM_0 rfl ?_
  refine ax_icmp_ge (tgt := 77) dM_layPeople_15 (by decide) (fun c6 => ?_) (fun c6 => ?_)
  · replace h := h.1 c6
    exact ax_vret dM_layPeople_77 h
  · replace h := h.2 c6
    refine ax_aloadn 0 dM_layPeople_18 rfl rfl ?_
    refine ax_getr dM_layPeople_19 fM_22 sM_0 rfl ?_
    refine ax_iloadn 2 dM_layPeople_22 rfl rfl ?_
    refine ax_aloadn 0 dM_layPeople_23 rfl rfl ?_
    refine ax_getr dM_layPeople_24 fM_7 sM_0 rfl ?_
    refine ax_bipush dM_layPeople_27 (by decide) ?_
    refine ax_iloadn 2 dM_layPeople_29 rfl rfl ?_
    obtain ⟨q1, h⟩ := h
    refine ax_imul dM_layPeople_30 q1 ?_
    refine ax_iconst dM_layPeople_31 (by decide) ?_
    obtain ⟨q2, h⟩ := h
    refine ax_iadd dM_layPeople_32 q2 ?_
    obtain ⟨q3, h⟩ := h
    refine ax_iald dM_layPeople_33 sM_1 q3.1 q3.2 ?_
    obtain ⟨q4, h⟩ := h
    refine ax_iast dM_layPeople_34 sM_5 q4.1 q4.2 ?_
    refine ax_aloadn 0 dM_layPeople_35 rfl rfl ?_
    refine ax_getr dM_layPeople_36 fM_25 sM_0 rfl ?_
    refine ax_iloadn 2 dM_layPeople_39 rfl rfl ?_
    refine ax_aloadn 0 dM_layPeople_40 rfl rfl ?_
    refine ax_getr dM_layPeople_41 fM_7 sM_0 rfl ?_
    refine ax_bipush dM_layPeople_44 (by decide) ?_
    refine ax_iloadn 2 dM_layPeople_46 rfl rfl ?_
    refine ax_imul dM_layPeople_47 (show ax_r _ from ⟨by omega, by omega⟩) ?_
    refine ax_iconst dM_layPeople_48 (by decide) ?_
    refine ax_iadd dM_layPeople_49 (show ax_r _ from ⟨by omega, by omega⟩) ?_
    refine ax_iald dM_layPeople_50 sM_1 (by omega) (by omega) ?_
    refine ax_top (x' := M 1 (((7 * v2) + 5).toNat)) (by first | rfl | exact ax_u_at _ _ _ _) ?_
    refine ax_iloadn 1 dM_layPeople_51 rfl rfl ?_
    refine ax_icmp_ge (tgt := 69) dM_layPeople_52 (by decide) (fun c5 => ?_) (fun c5 => ?_)
    · replace h := h.1 c5
      refine ax_iloadn 1 dM_layPeople_69 rfl rfl ?_
      refine ax_iast dM_layPeople_70 sM_6 (by omega) (by omega) ?_
      refine ax_iinc (j := 2) dM_layPeople_71 rfl (by decide) (show ax_r _ from ⟨by omega, by omega⟩) rfl ?_
      refine ax_goto (tgt := 10) dM_layPeople_74 (by decide) ?_
      exact ax_sub [1, 2, 0] rfl h
    · replace h := h.2 c5
      refine ax_aloadn 0 dM_layPeople_55 rfl rfl ?_
      refine ax_getr dM_layPeople_56 fM_7 sM_0 rfl ?_
      refine ax_bipush dM_layPeople_59 (by decide) ?_
      refine ax_iloadn 2 dM_layPeople_61 rfl rfl ?_
      refine ax_imul dM_layPeople_62 (show ax_r _ from ⟨by omega, by omega⟩) ?_
      refine ax_iconst dM_layPeople_63 (by decide) ?_
      refine ax_iadd dM_layPeople_64 (show ax_r _ from ⟨by omega, by omega⟩) ?_
      refine ax_iald dM_layPeople_65 sM_1 (by omega) (by omega) ?_
      refine ax_top (x' := M 1 (((7 * v2) + 5).toNat)) (by first | rfl | exact ax_u_at _ _ _ _) ?_
      refine ax_goto (tgt := 70) dM_layPeople_66 (by decide) ?_
      refine ax_iast dM_layPeople_70 sM_6 (by omega) (by omega) ?_
      refine ax_iinc (j := 2) dM_layPeople_71 rfl (by decide) (show ax_r _ from ⟨by omega, by omega⟩) rfl ?_
      refine ax_goto (tgt := 10) dM_layPeople_74 (by decide) ?_
      exact ax_sub [1, 2, 0] rfl h
theorem eM_layPeople {P : Int → ax_Mem → Prop} {M : ax_Mem} {a1 : Int} (h : jM_layPeople P 10 [(0, .inr (.inr 0)), (1, .inl a1), (2, .inl 0)] [] (ax_u M 0 13 (M 0 0))) : kM_layPeople [.inr (.inr 0), .inl a1] M P := ax_ofJ (by decide) (Nat.le_of_ble_eq_true rfl) (gM_layPeople_0 h)
-- M_valueOf dp 1
theorem gM_valueOf_0 {P : Int → ax_Mem → Prop} {M : ax_Mem} {a1 a2 a3 : Int} (h : ((a1 = 98) → (-2147483648 ≤ ((M 0 13) - 1) ∧ ((M 0 13) - 1) < 2147483648) ∧ (0 ≤ a3 ∧ a3 < 12) ∧ (-2147483648 ≤ (((M 0 13) - 1) - (M 5 (a3.toNat))) ∧ (((M 0 13) - 1) - (M 5 (a3.toNat))) < 2147483648) ∧ ((0 : Int) ≤ (((M 0 13) - 1) - (M 5 (a3.toNat))) ∧ (0 : Int) < a2) ∧ P ((((M 0 13) - 1) - (M 5 (a3.toNat))) / a2) M) ∧ ((a1 = 102) → (0 ≤ a3 ∧ a3 < 12) ∧ ((0 : Int) ≤ (M 5 (a3.toNat)) ∧ (0 : Int) < a2) ∧ P ((M 5 (a3.toNat)) / a2) M) ∧ ((a1 = 119) → kM_depthOf [.inr (.inr 0), .inl a3] M (fun r8 M9 => (-2147483648 ≤ (-r8) ∧ (-r8) < 2147483648) ∧ P (-r8) M9)) ∧ ((a1 = 97) → kM_depthOf [.inr (.inr 0), .inl a3] M (fun r11 M12 => P r11 M12)) ∧ ((a1 = 115) → (0 ≤ a3 ∧ a3 < 12) ∧ ((0 : Int) ≤ (M 5 (a3.toNat)) ∧ (0 : Int) < 2) ∧ P ((M 5 (a3.toNat)) % 2) M) ∧ ((a1 = 111) → kM_sideOf [.inr (.inr 0), .inl a3] M (fun r15 M16 => P r15 M16)) ∧ ((¬ a1 = 97 ∧ ¬ a1 = 98 ∧ ¬ a1 = 102 ∧ ¬ a1 = 111 ∧ ¬ a1 = 115 ∧ ¬ a1 = 119) → (0 ≤ a3 ∧ a3 < 12) ∧ P (M 6 (a3.toNat)) M)) : jM_valueOf P 0 [(0, .inr (.inr 0)), (1, .inl a1), (2, .inl a2), (3, .inl a3)] [] M := by
  refine ax_iloadn 1 dM_valueOf_0 rfl rfl ?_
  obtain ⟨c1_0, c1_1, c1_2, c1_3, c1_4, c1_5, c1_6⟩ := h
  by_cases c1d : ¬ a1 = 97 ∧ ¬ a1 = 98 ∧ ¬ a1 = 102 ∧ ¬ a1 = 111 ∧ ¬ a1 = 115 ∧ ¬ a1 = 119
  · replace h := c1_6 c1d
    refine ax_look (tgt := 113) dM_valueOf_1 (by decide) (off := 112) (by show Op.lookupswitch.offset [(97, 91), (98, 59), (102, 75), (111, 106), (115, 97), (119, 84)] 112 a1 = _; rw [Op.lookupswitch.offset_cons, if_neg (by omega), Op.lookupswitch.offset_cons, if_neg (by omega), Op.lookupswitch.offset_cons, if_neg (by omega), Op.lookupswitch.offset_cons, if_neg (by omega), Op.lookupswitch.offset_cons, if_neg (by omega), Op.lookupswitch.offset_cons, if_neg (by omega)]; rfl) (by decide) ?_
    refine ax_aloadn 0 dM_valueOf_113 rfl rfl ?_
    refine ax_getr dM_valueOf_114 fM_25 sM_0 rfl ?_
    refine ax_iloadn 3 dM_valueOf_117 rfl rfl ?_
    obtain ⟨q17, h⟩ := h
    refine ax_iald dM_valueOf_118 sM_6 q17.1 q17.2 ?_
    exact ax_iret dM_valueOf_119 h
  · rcases (show a1 = 97 ∨ a1 = 98 ∨ a1 = 102 ∨ a1 = 111 ∨ a1 = 115 ∨ a1 = 119 by omega) with c1e | c1e | c1e | c1e | c1e | c1e
    · replace h := c1_3 (by omega)
      refine ax_look (tgt := 92) (off := 91) dM_valueOf_1 (by decide) (by rw [c1e]; decide) (by decide) ?_
      refine ax_aloadn 0 dM_valueOf_92 rfl rfl ?_
      refine ax_iloadn 3 dM_valueOf_93 rfl rfl ?_
      refine ax_callV (dp2 := 0) (as := [.inl a3]) (st := []) dM_valueOf_94 lM_142 sM_0 ⟨_, _, rfl⟩ rfl rfl (Nat.le_of_ble_eq_true rfl) (by decide) ?_
      refine ax_C_mono (fun r11 M12 h => ?_) h
      exact ax_iret dM_valueOf_97 h
    · replace h := c1_0 (by omega)
      refine ax_look (tgt := 60) (off := 59) dM_valueOf_1 (by decide) (by rw [c1e]; decide) (by decide) ?_
      refine ax_aloadn 0 dM_valueOf_60 rfl rfl ?_
      refine ax_geti dM_valueOf_61 fM_139 sM_0 rfl ?_
      refine ax_iconst dM_valueOf_64 (by decide) ?_
      obtain ⟨q2, h⟩ := h
      refine ax_isub dM_valueOf_65 q2 ?_
      refine ax_aloadn 0 dM_valueOf_66 rfl rfl ?_
      refine ax_getr dM_valueOf_67 fM_22 sM_0 rfl ?_
      refine ax_iloadn 3 dM_valueOf_70 rfl rfl ?_
      obtain ⟨q3, h⟩ := h
      refine ax_iald dM_valueOf_71 sM_5 q3.1 q3.2 ?_
      obtain ⟨q4, h⟩ := h
      refine ax_isub dM_valueOf_72 q4 ?_
      refine ax_iloadn 2 dM_valueOf_73 rfl rfl ?_
      obtain ⟨q5, h⟩ := h
      refine ax_idiv dM_valueOf_74 q5.1 q5.2 ?_
      exact ax_iret dM_valueOf_75 h
    · replace h := c1_1 (by omega)
      refine ax_look (tgt := 76) (off := 75) dM_valueOf_1 (by decide) (by rw [c1e]; decide) (by decide) ?_
      refine ax_aloadn 0 dM_valueOf_76 rfl rfl ?_
      refine ax_getr dM_valueOf_77 fM_22 sM_0 rfl ?_
      refine ax_iloadn 3 dM_valueOf_80 rfl rfl ?_
      obtain ⟨q6, h⟩ := h
      refine ax_iald dM_valueOf_81 sM_5 q6.1 q6.2 ?_
      refine ax_iloadn 2 dM_valueOf_82 rfl rfl ?_
      obtain ⟨q7, h⟩ := h
      refine ax_idiv dM_valueOf_83 q7.1 q7.2 ?_
      exact ax_iret dM_valueOf_84 h
    · replace h := c1_5 (by omega)
      refine ax_look (tgt := 107) (off := 106) dM_valueOf_1 (by decide) (by rw [c1e]; decide) (by decide) ?_
      refine ax_aloadn 0 dM_valueOf_107 rfl rfl ?_
      refine ax_iloadn 3 dM_valueOf_108 rfl rfl ?_
      refine ax_callV (dp2 := 0) (as := [.inl a3]) (st := []) dM_valueOf_109 lM_146 sM_0 ⟨_, _, rfl⟩ rfl rfl (Nat.le_of_ble_eq_true rfl) (by decide) ?_
      refine ax_C_mono (fun r15 M16 h => ?_) h
      exact ax_iret dM_valueOf_112 h
    · replace h := c1_4 (by omega)
      refine ax_look (tgt := 98) (off := 97) dM_valueOf_1 (by decide) (by rw [c1e]; decide) (by decide) ?_
      refine ax_aloadn 0 dM_valueOf_98 rfl rfl ?_
      refine ax_getr dM_valueOf_99 fM_22 sM_0 rfl ?_
      refine ax_iloadn 3 dM_valueOf_102 rfl rfl ?_
      obtain ⟨q13, h⟩ := h
      refine ax_iald dM_valueOf_103 sM_5 q13.1 q13.2 ?_
      refine ax_iconst dM_valueOf_104 (by decide) ?_
      obtain ⟨q14, h⟩ := h
      refine ax_irem dM_valueOf_105 q14.1 q14.2 ?_
      exact ax_iret dM_valueOf_106 h
    · replace h := c1_2 (by omega)
      refine ax_look (tgt := 85) (off := 84) dM_valueOf_1 (by decide) (by rw [c1e]; decide) (by decide) ?_
      refine ax_aloadn 0 dM_valueOf_85 rfl rfl ?_
      refine ax_iloadn 3 dM_valueOf_86 rfl rfl ?_
      refine ax_callV (dp2 := 0) (as := [.inl a3]) (st := []) dM_valueOf_87 lM_142 sM_0 ⟨_, _, rfl⟩ rfl rfl (Nat.le_of_ble_eq_true rfl) (by decide) ?_
      refine ax_C_mono (fun r8 M9 h => ?_) h
      obtain ⟨q10, h⟩ := h
      refine ax_ineg dM_valueOf_90 q10 ?_
      exact ax_iret dM_valueOf_91 h
theorem eM_valueOf {P : Int → ax_Mem → Prop} {M : ax_Mem} {a1 a2 a3 : Int} (h : ((a1 = 98) → (-2147483648 ≤ ((M 0 13) - 1) ∧ ((M 0 13) - 1) < 2147483648) ∧ (0 ≤ a3 ∧ a3 < 12) ∧ (-2147483648 ≤ (((M 0 13) - 1) - (M 5 (a3.toNat))) ∧ (((M 0 13) - 1) - (M 5 (a3.toNat))) < 2147483648) ∧ ((0 : Int) ≤ (((M 0 13) - 1) - (M 5 (a3.toNat))) ∧ (0 : Int) < a2) ∧ P ((((M 0 13) - 1) - (M 5 (a3.toNat))) / a2) M) ∧ ((a1 = 102) → (0 ≤ a3 ∧ a3 < 12) ∧ ((0 : Int) ≤ (M 5 (a3.toNat)) ∧ (0 : Int) < a2) ∧ P ((M 5 (a3.toNat)) / a2) M) ∧ ((a1 = 119) → kM_depthOf [.inr (.inr 0), .inl a3] M (fun r8 M9 => (-2147483648 ≤ (-r8) ∧ (-r8) < 2147483648) ∧ P (-r8) M9)) ∧ ((a1 = 97) → kM_depthOf [.inr (.inr 0), .inl a3] M (fun r11 M12 => P r11 M12)) ∧ ((a1 = 115) → (0 ≤ a3 ∧ a3 < 12) ∧ ((0 : Int) ≤ (M 5 (a3.toNat)) ∧ (0 : Int) < 2) ∧ P ((M 5 (a3.toNat)) % 2) M) ∧ ((a1 = 111) → kM_sideOf [.inr (.inr 0), .inl a3] M (fun r15 M16 => P r15 M16)) ∧ ((¬ a1 = 97 ∧ ¬ a1 = 98 ∧ ¬ a1 = 102 ∧ ¬ a1 = 111 ∧ ¬ a1 = 115 ∧ ¬ a1 = 119) → (0 ≤ a3 ∧ a3 < 12) ∧ P (M 6 (a3.toNat)) M)) : kM_valueOf [.inr (.inr 0), .inl a1, .inl a2, .inl a3] M P := ax_ofJ (by decide) (Nat.le_of_ble_eq_true rfl) (gM_valueOf_0 h)
-- M_rank dp 0
theorem gM_rank_0 {P : Int → ax_Mem → Prop} {M : ax_Mem} {a1 : Int} (h : (¬ a1 = 2 → (¬ a1 = 1 → P 1 M) ∧ (a1 = 1 → P 2 M)) ∧ (a1 = 2 → P 0 M)) : jM_rank P 0 [(0, .inl a1)] [] M := by
  refine ax_iloadn 0 dM_rank_0 rfl rfl ?_
  refine ax_iconst dM_rank_1 (by decide) ?_
  refine ax_icmp_ne (tgt := 9) dM_rank_2 (by decide) (fun c2 => ?_) (fun c2 => ?_)
  · replace h := h.1 c2
    refine ax_iloadn 0 dM_rank_9 rfl rfl ?_
    refine ax_iconst dM_rank_10 (by decide) ?_
    refine ax_icmp_ne (tgt := 18) dM_rank_11 (by decide) (fun c1 => ?_) (fun c1 => ?_)
    · replace h := h.1 c1
      refine ax_iconst dM_rank_18 (by decide) ?_
      exact ax_iret dM_rank_19 h
    · replace h := h.2 c1
      refine ax_iconst dM_rank_14 (by decide) ?_
      refine ax_goto (tgt := 19) dM_rank_15 (by decide) ?_
      exact ax_iret dM_rank_19 h
  · replace h := h.2 c2
    refine ax_iconst dM_rank_5 (by decide) ?_
    refine ax_goto (tgt := 19) dM_rank_6 (by decide) ?_
    exact ax_iret dM_rank_19 h
theorem eM_rank {P : Int → ax_Mem → Prop} {M : ax_Mem} {a1 : Int} (h : (¬ a1 = 2 → (¬ a1 = 1 → P 1 M) ∧ (a1 = 1 → P 2 M)) ∧ (a1 = 2 → P 0 M)) : kM_rank [.inl a1] M P := ax_ofJ (by decide) (Nat.le_of_ble_eq_true rfl) (gM_rank_0 h)
-- M_isAhead dp 2
theorem gM_isAhead_0 {P : Int → ax_Mem → Prop} {M : ax_Mem} {a1 a2 a3 : Int} (h : (-2147483648 ≤ (7 * a2) ∧ (7 * a2) < 2147483648) ∧ (0 ≤ (7 * a2) ∧ (7 * a2) < 84) ∧ kM_rank [.inl (M 1 ((7 * a2).toNat))] M (fun r3 M4 => (-2147483648 ≤ (7 * a3) ∧ (7 * a3) < 2147483648) ∧ (0 ≤ (7 * a3) ∧ (7 * a3) < 84) ∧ kM_rank [.inl (M4 1 ((7 * a3).toNat))] M4 (fun r7 M8 => (-2147483648 ≤ (r3 - r7) ∧ (r3 - r7) < 2147483648) ∧ jM_isAhead P 30 [(0, .inr (.inr 0)), (1, .inl a1), (2, .inl a2), (3, .inl a3), (4, .inl (r3 - r7)), (5, .inl 0)] [] M8))) : jM_isAhead P 0 [(0, .inr (.inr 0)), (1, .inl a1), (2, .inl a2), (3, .inl a3)] [] M := by
  refine ax_aloadn 0 dM_isAhead_0 rfl rfl ?_
  refine ax_getr dM_isAhead_1 fM_7 sM_0 rfl ?_
  refine ax_bipush dM_isAhead_4 (by decide) ?_
  refine ax_iloadn 2 dM_isAhead_6 rfl rfl ?_
  obtain ⟨q1, h⟩ := h
  refine ax_imul dM_isAhead_7 q1 ?_
  obtain ⟨q2, h⟩ := h
  refine ax_iald dM_isAhead_8 sM_1 q2.1 q2.2 ?_
  refine ax_callS (dp2 := 0) (as := [.inl (M 1 ((7 * a2).toNat))]) (st := []) dM_isAhead_9 lM_149 rfl rfl (Nat.le_of_ble_eq_true rfl) (by decide) ?_
  refine ax_C_mono (fun r3 M4 h => ?_) h
  refine ax_aloadn 0 dM_isAhead_12 rfl rfl ?_
  refine ax_getr dM_isAhead_13 fM_7 sM_0 rfl ?_
  refine ax_bipush dM_isAhead_16 (by decide) ?_
  refine ax_iloadn 3 dM_isAhead_18 rfl rfl ?_
  obtain ⟨q5, h⟩ := h
  refine ax_imul dM_isAhead_19 q5 ?_
  obtain ⟨q6, h⟩ := h
  refine ax_iald dM_isAhead_20 sM_1 q6.1 q6.2 ?_
  refine ax_callS (dp2 := 0) (as := [.inl (M4 1 ((7 * a3).toNat))]) (st := [.inl r3]) dM_isAhead_21 lM_149 rfl rfl (Nat.le_of_ble_eq_true rfl) (by decide) ?_
  refine ax_C_mono (fun r7 M8 h => ?_) h
  obtain ⟨q9, h⟩ := h
  refine ax_isub dM_isAhead_24 q9 ?_
  refine ax_istore dM_isAhead_25 (by decide) rfl ?_
  refine ax_iconst dM_isAhead_27 (by decide) ?_
  refine ax_istore dM_isAhead_28 (by decide) rfl ?_
  exact ax_sub [2, 3, 4, 5, 1, 0] rfl h
theorem gM_isAhead_30 {P : Int → ax_Mem → Prop} {M : ax_Mem} {v1 v2 v3 v4 v5 : Int} (h : (-2147483648 ≤ (9 * v1) ∧ (9 * v1) < 2147483648) ∧ (0 ≤ (9 * v1) ∧ (9 * v1) < 72) ∧ ((M 3 ((9 * v1).toNat)) ≤ v5 → (v4 < 0 → P 1 M) ∧ (¬ v4 < 0 → (¬ v4 = 0 → P 0 M) ∧ (v4 = 0 → (v3 ≤ v2 → P 0 M) ∧ (¬ v3 ≤ v2 → P 1 M)))) ∧ (¬ (M 3 ((9 * v1).toNat)) ≤ v5 → (¬ v4 = 0 → (v4 < 0 → P 1 M) ∧ (¬ v4 < 0 → (¬ v4 = 0 → P 0 M) ∧ (v4 = 0 → (v3 ≤ v2 → P 0 M) ∧ (¬ v3 ≤ v2 → P 1 M)))) ∧ (v4 = 0 → (-2147483648 ≤ (2 * v5) ∧ (2 * v5) < 2147483648) ∧ (-2147483648 ≤ (((9 * v1) + 1) + (2 * v5)) ∧ (((9 * v1) + 1) + (2 * v5)) < 2147483648) ∧ (0 ≤ (((9 * v1) + 1) + (2 * v5)) ∧ (((9 * v1) + 1) + (2 * v5)) < 72) ∧ (-2147483648 ≤ (((9 * v1) + 2) + (2 * v5)) ∧ (((9 * v1) + 2) + (2 * v5)) < 2147483648) ∧ (0 ≤ (((9 * v1) + 2) + (2 * v5)) ∧ (((9 * v1) + 2) + (2 * v5)) < 72) ∧ kM_valueOf [.inr (.inr 0), .inl (M 3 ((((9 * v1) + 1) + (2 * v5)).toNat)), .inl (M 3 ((((9 * v1) + 2) + (2 * v5)).toNat)), .inl v2] M (fun r14 M15 => kM_valueOf [.inr (.inr 0), .inl (M 3 ((((9 * v1) + 1) + (2 * v5)).toNat)), .inl (M 3 ((((9 * v1) + 2) + (2 * v5)).toNat)), .inl v3] M15 (fun r16 M17 => (-2147483648 ≤ (r14 - r16) ∧ (r14 - r16) < 2147483648) ∧ (-2147483648 ≤ (v5 + 1) ∧ (v5 + 1) < 2147483648) ∧ jM_isAhead P 30 [(0, .inr (.inr 0)), (1, .inl v1), (2, .inl v2), (3, .inl v3), (4, .inl (r14 - r16)), (5, .inl (v5 + 1))] [] M17))))) : jM_isAhead P 30 [(0, .inr (.inr 0)), (1, .inl v1), (2, .inl v2), (3, .inl v3), (4, .inl v4), (5, .inl v5)] [] M := by
  refine ax_iload 5 dM_isAhead_30 rfl ?_
  refine ax_aloadn 0 dM_isAhead_32 rfl rfl ?_
  refine ax_getr dM_isAhead_33 fM_16 sM_0 rfl ?_
  refine ax_bipush dM_isAhead_36 (by decide) ?_
  refine ax_iloadn 1 dM_isAhead_38 rfl rfl ?_
  obtain ⟨q1, h⟩ := h
  refine ax_imul dM_isAhead_39 q1 ?_
  obtain ⟨q2, h⟩ := h
  refine ax_iald dM_isAhead_40 sM_3 q2.1 q2.2 ?_
  refine ax_icmp_ge (tgt := 112) dM_isAhead_41 (by decide) (fun c21 => ?_) (fun c21 => ?_)
  · replace h := h.1 c21
    refine ax_iload 4 dM_isAhead_112 rfl ?_
    refine ax_if_lt (tgt := 127) dM_isAhead_114 (by decide) (fun c5 => ?_) (fun c5 => ?_)
    · replace h := h.1 c5
      refine ax_iconst dM_isAhead_127 (by decide) ?_
      refine ax_goto (tgt := 132) dM_isAhead_128 (by decide) ?_
      exact ax_zret dM_isAhead_132 (by decide) h
    · replace h := h.2 c5
      refine ax_iload 4 dM_isAhead_117 rfl ?_
      refine ax_if_ne (tgt := 131) dM_isAhead_119 (by decide) (fun c4 => ?_) (fun c4 => ?_)
      · replace h := h.1 c4
        refine ax_iconst dM_isAhead_131 (by decide) ?_
        exact ax_zret dM_isAhead_132 (by decide) h
      · replace h := h.2 c4
        refine ax_iloadn 2 dM_isAhead_122 rfl rfl ?_
        refine ax_iloadn 3 dM_isAhead_123 rfl rfl ?_
        refine ax_icmp_ge (tgt := 131) dM_isAhead_124 (by decide) (fun c3 => ?_) (fun c3 => ?_)
        · replace h := h.1 c3
          refine ax_iconst dM_isAhead_131 (by decide) ?_
          exact ax_zret dM_isAhead_132 (by decide) h
        · replace h := h.2 c3
          refine ax_iconst dM_isAhead_127 (by decide) ?_
          refine ax_goto (tgt := 132) dM_isAhead_128 (by decide) ?_
          exact ax_zret dM_isAhead_132 (by decide) h
  · replace h := h.2 c21
    refine ax_iload 4 dM_isAhead_44 rfl ?_
    refine ax_if_ne (tgt := 112) dM_isAhead_46 (by decide) (fun c20 => ?_) (fun c20 => ?_)
    · replace h := h.1 c20
      refine ax_iload 4 dM_isAhead_112 rfl ?_
      refine ax_if_lt (tgt := 127) dM_isAhead_114 (by decide) (fun c8 => ?_) (fun c8 => ?_)
      · replace h := h.1 c8
        refine ax_iconst dM_isAhead_127 (by decide) ?_
        refine ax_goto (tgt := 132) dM_isAhead_128 (by decide) ?_
        exact ax_zret dM_isAhead_132 (by decide) h
      · replace h := h.2 c8
        refine ax_iload 4 dM_isAhead_117 rfl ?_
        refine ax_if_ne (tgt := 131) dM_isAhead_119 (by decide) (fun c7 => ?_) (fun c7 => ?_)
        · replace h := h.1 c7
          refine ax_iconst dM_isAhead_131 (by decide) ?_
          exact ax_zret dM_isAhead_132 (by decide) h
        · replace h := h.2 c7
          refine ax_iloadn 2 dM_isAhead_122 rfl rfl ?_
          refine ax_iloadn 3 dM_isAhead_123 rfl rfl ?_
          refine ax_icmp_ge (tgt := 131) dM_isAhead_124 (by decide) (fun c6 => ?_) (fun c6 => ?_)
          · replace h := h.1 c6
            refine ax_iconst dM_isAhead_131 (by decide) ?_
            exact ax_zret dM_isAhead_132 (by decide) h
          · replace h := h.2 c6
            refine ax_iconst dM_isAhead_127 (by decide) ?_
            refine ax_goto (tgt := 132) dM_isAhead_128 (by decide) ?_
            exact ax_zret dM_isAhead_132 (by decide) h
    · replace h := h.2 c20
      refine ax_aloadn 0 dM_isAhead_49 rfl rfl ?_
      refine ax_getr dM_isAhead_50 fM_16 sM_0 rfl ?_
      refine ax_bipush dM_isAhead_53 (by decide) ?_
      refine ax_iloadn 1 dM_isAhead_55 rfl rfl ?_
      refine ax_imul dM_isAhead_56 (show ax_r _ from ⟨by omega, by omega⟩) ?_
      refine ax_iconst dM_isAhead_57 (by decide) ?_
      refine ax_iadd dM_isAhead_58 (show ax_r _ from ⟨by omega, by omega⟩) ?_
      refine ax_iconst dM_isAhead_59 (by decide) ?_
      refine ax_iload 5 dM_isAhead_60 rfl ?_
      obtain ⟨q9, h⟩ := h
      refine ax_imul dM_isAhead_62 q9 ?_
      obtain ⟨q10, h⟩ := h
      refine ax_iadd dM_isAhead_63 q10 ?_
      obtain ⟨q11, h⟩ := h
      refine ax_iald dM_isAhead_64 sM_3 q11.1 q11.2 ?_
      refine ax_istore dM_isAhead_65 (by decide) rfl ?_
      refine ax_aloadn 1 dM_isAhead_67 rfl rfl ?_
      refine ax_getr dM_isAhead_68 fM_16 sM_0 rfl ?_
      refine ax_bipush dM_isAhead_71 (by decide) ?_
      refine ax_iloadn 2 dM_isAhead_73 rfl rfl ?_
      refine ax_imul dM_isAhead_74 (show ax_r _ from ⟨by omega, by omega⟩) ?_
      refine ax_iconst dM_isAhead_75 (by decide) ?_
      refine ax_iadd dM_isAhead_76 (show ax_r _ from ⟨by omega, by omega⟩) ?_
      refine ax_iconst dM_isAhead_77 (by decide) ?_
      refine ax_iload 6 dM_isAhead_78 rfl ?_
      refine ax_imul dM_isAhead_80 q9 ?_
      obtain ⟨q12, h⟩ := h
      refine ax_iadd dM_isAhead_81 q12 ?_
      obtain ⟨q13, h⟩ := h
      refine ax_iald dM_isAhead_82 sM_3 q13.1 q13.2 ?_
      refine ax_istore dM_isAhead_83 (by decide) rfl ?_
      refine ax_aloadn 2 dM_isAhead_85 rfl rfl ?_
      refine ax_iload 1 dM_isAhead_86 rfl ?_
      refine ax_iload 0 dM_isAhead_88 rfl ?_
      refine ax_iloadn 4 dM_isAhead_90 rfl rfl ?_
      refine ax_callV (dp2 := 1) (as := [.inl (M 3 ((((9 * v1) + 1) + (2 * v5)).toNat)), .inl (M 3 ((((9 * v1) + 2) + (2 * v5)).toNat)), .inl v2]) (st := []) dM_isAhead_91 lM_152 sM_0 ⟨_, _, rfl⟩ rfl rfl (Nat.le_of_ble_eq_true rfl) (by decide) ?_
      refine ax_C_mono (fun r14 M15 h => ?_) h
      refine ax_aloadn 2 dM_isAhead_94 rfl rfl ?_
      refine ax_iload 1 dM_isAhead_95 rfl ?_
      refine ax_iload 0 dM_isAhead_97 rfl ?_
      refine ax_iloadn 5 dM_isAhead_99 rfl rfl ?_
      refine ax_callV (dp2 := 1) (as := [.inl (M 3 ((((9 * v1) + 1) + (2 * v5)).toNat)), .inl (M 3 ((((9 * v1) + 2) + (2 * v5)).toNat)), .inl v3]) (st := [.inl r14]) dM_isAhead_100 lM_152 sM_0 ⟨_, _, rfl⟩ rfl rfl (Nat.le_of_ble_eq_true rfl) (by decide) ?_
      refine ax_C_mono (fun r16 M17 h => ?_) h
      obtain ⟨q18, h⟩ := h
      refine ax_isub dM_isAhead_103 q18 ?_
      refine ax_istore dM_isAhead_104 (by decide) rfl ?_
      obtain ⟨q19, h⟩ := h
      refine ax_iinc (j := 7) dM_isAhead_106 rfl (by decide) q19 rfl ?_
      refine ax_goto (tgt := 30) dM_isAhead_109 (by decide) ?_
      exact ax_sub [4, 5, 6, 7, 1, 0] rfl h
theorem eM_isAhead {P : Int → ax_Mem → Prop} {M : ax_Mem} {a1 a2 a3 : Int} (h : (-2147483648 ≤ (7 * a2) ∧ (7 * a2) < 2147483648) ∧ (0 ≤ (7 * a2) ∧ (7 * a2) < 84) ∧ kM_rank [.inl (M 1 ((7 * a2).toNat))] M (fun r3 M4 => (-2147483648 ≤ (7 * a3) ∧ (7 * a3) < 2147483648) ∧ (0 ≤ (7 * a3) ∧ (7 * a3) < 84) ∧ kM_rank [.inl (M4 1 ((7 * a3).toNat))] M4 (fun r7 M8 => (-2147483648 ≤ (r3 - r7) ∧ (r3 - r7) < 2147483648) ∧ jM_isAhead P 30 [(0, .inr (.inr 0)), (1, .inl a1), (2, .inl a2), (3, .inl a3), (4, .inl (r3 - r7)), (5, .inl 0)] [] M8))) : kM_isAhead [.inr (.inr 0), .inl a1, .inl a2, .inl a3] M P := ax_ofJ (by decide) (Nat.le_of_ble_eq_true rfl) (gM_isAhead_0 h)
-- M_placeOf dp 0
theorem gM_placeOf_0 {P : Int → ax_Mem → Prop} {M : ax_Mem} {a1 : Int} (h : jM_placeOf P 2 [(0, .inr (.inr 0)), (1, .inl a1), (2, .inl 0)] [] M) : jM_placeOf P 0 [(0, .inr (.inr 0)), (1, .inl a1)] [] M := by
  refine ax_iconst dM_placeOf_0 (by decide) ?_
  refine ax_istoren dM_placeOf_1 rfl (by decide) rfl ?_
  exact ax_sub [1, 2, 0] rfl h
theorem gM_placeOf_2 {P : Int → ax_Mem → Prop} {M : ax_Mem} {v1 v2 : Int} (h : ((M 0 17) ≤ v2 → P (-1) M) ∧ (¬ (M 0 17) ≤ v2 → (0 ≤ v2 ∧ v2 < 12) ∧ (¬ (M 7 (v2.toNat)) = v1 → jM_placeOf P 2 [(0, .inr (.inr 0)), (1, .inl v1), (2, .inl (v2 + 1))] [] M) ∧ ((M 7 (v2.toNat)) = v1 → P v2 M))) : jM_placeOf P 2 [(0, .inr (.inr 0)), (1, .inl v1), (2, .inl v2)] [] M := by
  refine ax_iloadn 2 dM_placeOf_2 rfl rfl ?_
  refine ax_aloadn 0 dM_placeOf_3 rfl rfl ?_
  refine ax_geti dM_placeOf_4 fM_156 sM_0 rfl ?_
  refine ax_icmp_ge (tgt := 28) dM_placeOf_7 (by decide) (fun c3 => ?_) (fun c3 => ?_)
  · replace h := h.1 c3
    refine ax_iconst dM_placeOf_28 (by decide) ?_
    exact ax_iret dM_placeOf_29 h
  · replace h := h.2 c3
    refine ax_aloadn 0 dM_placeOf_10 rfl rfl ?_
    refine ax_getr dM_placeOf_11 fM_28 sM_0 rfl ?_
    refine ax_iloadn 2 dM_placeOf_14 rfl rfl ?_
    obtain ⟨q1, h⟩ := h
    refine ax_iald dM_placeOf_15 sM_7 q1.1 q1.2 ?_
    refine ax_iloadn 1 dM_placeOf_16 rfl rfl ?_
    refine ax_icmp_ne (tgt := 22) dM_placeOf_17 (by decide) (fun c2 => ?_) (fun c2 => ?_)
    · replace h := h.1 c2
      refine ax_iinc (j := 2) dM_placeOf_22 rfl (by decide) (show ax_r _ from ⟨by omega, by omega⟩) rfl ?_
      refine ax_goto (tgt := 2) dM_placeOf_25 (by decide) ?_
      exact ax_sub [1, 2, 0] rfl h
    · replace h := h.2 c2
      refine ax_iloadn 2 dM_placeOf_20 rfl rfl ?_
      exact ax_iret dM_placeOf_21 h
theorem eM_placeOf {P : Int → ax_Mem → Prop} {M : ax_Mem} {a1 : Int} (h : jM_placeOf P 2 [(0, .inr (.inr 0)), (1, .inl a1), (2, .inl 0)] [] M) : kM_placeOf [.inr (.inr 0), .inl a1] M P := ax_ofJ (by decide) (Nat.le_of_ble_eq_true rfl) (gM_placeOf_0 h)
-- M_put dp 1
theorem gM_put_0 {P : Int → ax_Mem → Prop} {M : ax_Mem} {a1 a2 : Int} (h : kM_placeOf [.inr (.inr 0), .inl a1] M (fun r1 M2 => jM_put P 9 [(0, .inr (.inr 0)), (1, .inl a1), (2, .inl a2), (4, .inl r1)] [] M2)) : jM_put P 0 [(0, .inr (.inr 0)), (1, .inl a1), (2, .inl a2)] [] M := by
  refine ax_aloadn 0 dM_put_0 rfl rfl ?_
  refine ax_iloadn 1 dM_put_1 rfl rfl ?_
  refine ax_callV (dp2 := 0) (as := [.inl a1]) (st := []) dM_put_2 lM_159 sM_0 ⟨_, _, rfl⟩ rfl rfl (Nat.le_of_ble_eq_true rfl) (by decide) ?_
  refine ax_C_mono (fun r1 M2 h => ?_) h
  refine ax_istoren dM_put_5 rfl (by decide) rfl ?_
  refine ax_iloadn 0 dM_put_6 rfl rfl ?_
  refine ax_istore dM_put_7 (by decide) rfl ?_
  exact ax_sub [2, 3, 4, 0] rfl h
theorem gM_put_9 {P : Int → ax_Mem → Prop} {M : ax_Mem} {v1 v2 v4 : Int} (h : (-2147483648 ≤ ((M 0 17) - 1) ∧ ((M 0 17) - 1) < 2147483648) ∧ (((M 0 17) - 1) ≤ v4 → kM_placeOf [.inr (.inr 0), .inl v2] (ax_u M 0 17 ((M 0 17) - 1)) (fun r2 M3 => (-2147483648 ≤ (r2 + 1) ∧ (r2 + 1) < 2147483648) ∧ jM_put P 67 [(0, .inr (.inr 0)), (1, .inl v1), (4, .inl (r2 + 1)), (5, .inl (M3 0 17))] [] M3)) ∧ (¬ ((M 0 17) - 1) ≤ v4 → (-2147483648 ≤ (v4 + 1) ∧ (v4 + 1) < 2147483648) ∧ (0 ≤ (v4 + 1) ∧ (v4 + 1) < 12) ∧ (0 ≤ v4 ∧ v4 < 12) ∧ jM_put P 9 [(0, .inr (.inr 0)), (1, .inl v1), (2, .inl v2), (4, .inl (v4 + 1))] [] (ax_u M 7 (v4.toNat) (M 7 ((v4 + 1).toNat))))) : jM_put P 9 [(0, .inr (.inr 0)), (1, .inl v1), (2, .inl v2), (4, .inl v4)] [] M := by
  refine ax_iload 3 dM_put_9 rfl ?_
  refine ax_aloadn 0 dM_put_11 rfl rfl ?_
  refine ax_geti dM_put_12 fM_156 sM_0 rfl ?_
  refine ax_iconst dM_put_15 (by decide) ?_
  obtain ⟨q1, h⟩ := h
  refine ax_isub dM_put_16 q1 ?_
  refine ax_icmp_ge (tgt := 42) dM_put_17 (by decide) (fun c8 => ?_) (fun c8 => ?_)
  · replace h := h.1 c8
    refine ax_aloadn 0 dM_put_42 rfl rfl ?_
    refine ax_dup dM_put_43 rfl ?_
    refine ax_geti dM_put_44 fM_156 sM_0 rfl ?_
    refine ax_iconst dM_put_47 (by decide) ?_
    refine ax_isub dM_put_48 q1 ?_
    refine ax_puti dM_put_49 pM_156 sM_0 rfl ?_
    refine ax_aloadn 0 dM_put_52 rfl rfl ?_
    refine ax_iloadn 2 dM_put_53 rfl rfl ?_
    refine ax_callV (dp2 := 0) (as := [.inl v2]) (st := []) dM_put_54 lM_159 sM_0 ⟨_, _, rfl⟩ rfl rfl (Nat.le_of_ble_eq_true rfl) (by decide) ?_
    refine ax_C_mono (fun r2 M3 h => ?_) h
    refine ax_iconst dM_put_57 (by decide) ?_
    obtain ⟨q4, h⟩ := h
    refine ax_iadd dM_put_58 q4 ?_
    refine ax_istore dM_put_59 (by decide) rfl ?_
    refine ax_aloadn 1 dM_put_61 rfl rfl ?_
    refine ax_geti dM_put_62 fM_156 sM_0 rfl ?_
    refine ax_istore dM_put_65 (by decide) rfl ?_
    exact ax_sub [2, 3, 1, 0] rfl h
  · replace h := h.2 c8
    refine ax_aloadn 0 dM_put_20 rfl rfl ?_
    refine ax_getr dM_put_21 fM_28 sM_0 rfl ?_
    refine ax_iload 3 dM_put_24 rfl ?_
    refine ax_aloadn 0 dM_put_26 rfl rfl ?_
    refine ax_getr dM_put_27 fM_28 sM_0 rfl ?_
    refine ax_iload 3 dM_put_30 rfl ?_
    refine ax_iconst dM_put_32 (by decide) ?_
    obtain ⟨q5, h⟩ := h
    refine ax_iadd dM_put_33 q5 ?_
    obtain ⟨q6, h⟩ := h
    refine ax_iald dM_put_34 sM_7 q6.1 q6.2 ?_
    obtain ⟨q7, h⟩ := h
    refine ax_iast dM_put_35 sM_7 q7.1 q7.2 ?_
    refine ax_iinc (j := 3) dM_put_36 rfl (by decide) (show ax_r _ from ⟨by omega, by omega⟩) rfl ?_
    refine ax_goto (tgt := 9) dM_put_39 (by decide) ?_
    exact ax_sub [1, 2, 3, 0] rfl h
theorem gM_put_67 {P : Int → ax_Mem → Prop} {M : ax_Mem} {v1 v4 v5 : Int} (h : (v5 ≤ v4 → (0 ≤ v4 ∧ v4 < 12) ∧ (-2147483648 ≤ ((M 0 17) + 1) ∧ ((M 0 17) + 1) < 2147483648) ∧ P 0 (ax_u (ax_u M 7 (v4.toNat) v1) 0 17 ((M 0 17) + 1))) ∧ (¬ v5 ≤ v4 → (-2147483648 ≤ (v5 - 1) ∧ (v5 - 1) < 2147483648) ∧ (0 ≤ (v5 - 1) ∧ (v5 - 1) < 12) ∧ (0 ≤ v5 ∧ v5 < 12) ∧ jM_put P 67 [(0, .inr (.inr 0)), (1, .inl v1), (4, .inl v4), (5, .inl (v5 + (-1)))] [] (ax_u M 7 (v5.toNat) (M 7 ((v5 - 1).toNat))))) : jM_put P 67 [(0, .inr (.inr 0)), (1, .inl v1), (4, .inl v4), (5, .inl v5)] [] M := by
  refine ax_iload 3 dM_put_67 rfl ?_
  refine ax_iload 2 dM_put_69 rfl ?_
  refine ax_icmp_le (tgt := 96) dM_put_71 (by decide) (fun c6 => ?_) (fun c6 => ?_)
  · replace h := h.1 c6
    refine ax_aloadn 0 dM_put_96 rfl rfl ?_
    refine ax_getr dM_put_97 fM_28 sM_0 rfl ?_
    refine ax_iload 2 dM_put_100 rfl ?_
    refine ax_iloadn 1 dM_put_102 rfl rfl ?_
    obtain ⟨q1, h⟩ := h
    refine ax_iast dM_put_103 sM_7 q1.1 q1.2 ?_
    refine ax_aloadn 0 dM_put_104 rfl rfl ?_
    refine ax_dup dM_put_105 rfl ?_
    refine ax_geti dM_put_106 fM_156 sM_0 rfl ?_
    refine ax_top (x' := M 0 17) (by first | rfl | exact ax_u_at _ _ _ _) ?_
    refine ax_iconst dM_put_109 (by decide) ?_
    obtain ⟨q2, h⟩ := h
    refine ax_iadd dM_put_110 q2 ?_
    refine ax_puti dM_put_111 pM_156 sM_0 rfl ?_
    exact ax_vret dM_put_114 h
  · replace h := h.2 c6
    refine ax_aloadn 0 dM_put_74 rfl rfl ?_
    refine ax_getr dM_put_75 fM_28 sM_0 rfl ?_
    refine ax_iload 3 dM_put_78 rfl ?_
    refine ax_aloadn 0 dM_put_80 rfl rfl ?_
    refine ax_getr dM_put_81 fM_28 sM_0 rfl ?_
    refine ax_iload 3 dM_put_84 rfl ?_
    refine ax_iconst dM_put_86 (by decide) ?_
    obtain ⟨q3, h⟩ := h
    refine ax_isub dM_put_87 q3 ?_
    obtain ⟨q4, h⟩ := h
    refine ax_iald dM_put_88 sM_7 q4.1 q4.2 ?_
    obtain ⟨q5, h⟩ := h
    refine ax_iast dM_put_89 sM_7 q5.1 q5.2 ?_
    refine ax_iinc (j := 3) dM_put_90 rfl (by decide) (show ax_r _ from ⟨by omega, by omega⟩) rfl ?_
    refine ax_goto (tgt := 67) dM_put_93 (by decide) ?_
    exact ax_sub [1, 2, 3, 0] rfl h
theorem eM_put {P : Int → ax_Mem → Prop} {M : ax_Mem} {a1 a2 : Int} (h : kM_placeOf [.inr (.inr 0), .inl a1] M (fun r1 M2 => jM_put P 9 [(0, .inr (.inr 0)), (1, .inl a1), (2, .inl a2), (4, .inl r1)] [] M2)) : kM_put [.inr (.inr 0), .inl a1, .inl a2] M P := ax_ofJ (by decide) (Nat.le_of_ble_eq_true rfl) (gM_put_0 h)
-- M_layOrder dp 3
theorem gM_layOrder_0 {P : Int → ax_Mem → Prop} {M : ax_Mem} {a1 : Int} (h : jM_layOrder P 7 [(0, .inr (.inr 0)), (1, .inl a1), (2, .inl 0)] [] (ax_u M 0 17 0)) : jM_layOrder P 0 [(0, .inr (.inr 0)), (1, .inl a1)] [] M := by
  refine ax_aloadn 0 dM_layOrder_0 rfl rfl ?_
  refine ax_iconst dM_layOrder_1 (by decide) ?_
  refine ax_puti dM_layOrder_2 pM_156 sM_0 rfl ?_
  refine ax_iconst dM_layOrder_5 (by decide) ?_
  refine ax_istoren dM_layOrder_6 rfl (by decide) rfl ?_
  exact ax_sub [1, 2, 0] rfl h
theorem gM_layOrder_7 {P : Int → ax_Mem → Prop} {M : ax_Mem} {v1 v2 : Int} (h : ((M 0 4) ≤ v2 → jM_layOrder P 86 [(0, .inr (.inr 0)), (2, .inl 0)] [] M) ∧ (¬ (M 0 4) ≤ v2 → jM_layOrder P 20 [(0, .inr (.inr 0)), (1, .inl v1), (2, .inl v2), (3, .inl (M 0 17))] [] M)) : jM_layOrder P 7 [(0, .inr (.inr 0)), (1, .inl v1), (2, .inl v2)] [] M := by
  refine ax_iloadn 2 dM_layOrder_7 rfl rfl ?_
  refine ax_aloadn 0 dM_layOrder_8 rfl rfl ?_
  refine ax_geti dM_layOrder_9 fM_89 sM_0 rfl ?_
  refine ax_icmp_ge (tgt := 84) dM_layOrder_12 (by decide) (fun c1 => ?_) (fun c1 => ?_)
  · replace h := h.1 c1
    refine ax_iconst dM_layOrder_84 (by decide) ?_
    refine ax_istoren dM_layOrder_85 rfl (by decide) rfl ?_
    exact ax_sub [1, 0] rfl h
  · replace h := h.2 c1
    refine ax_aloadn 0 dM_layOrder_15 rfl rfl ?_
    refine ax_geti dM_layOrder_16 fM_156 sM_0 rfl ?_
    refine ax_istoren dM_layOrder_19 rfl (by decide) rfl ?_
    exact ax_sub [1, 2, 3, 0] rfl h
theorem gM_layOrder_86 {P : Int → ax_Mem → Prop} {M : ax_Mem} {v2 : Int} (h : ((M 0 4) ≤ v2 → P 0 M) ∧ (¬ (M 0 4) ≤ v2 → (-2147483648 ≤ (7 * v2) ∧ (7 * v2) < 2147483648) ∧ (0 ≤ (7 * v2) ∧ (7 * v2) < 84) ∧ (¬ (M 1 ((7 * v2).toNat)) = 3 → (-2147483648 ≤ (v2 + 1) ∧ (v2 + 1) < 2147483648) ∧ jM_layOrder P 86 [(0, .inr (.inr 0)), (2, .inl (v2 + 1))] [] M) ∧ ((M 1 ((7 * v2).toNat)) = 3 → (0 ≤ ((7 * v2) + 1) ∧ ((7 * v2) + 1) < 84) ∧ kM_put [.inr (.inr 0), .inl v2, .inl (M 1 (((7 * v2) + 1).toNat))] M (fun _ M6 => (-2147483648 ≤ (v2 + 1) ∧ (v2 + 1) < 2147483648) ∧ jM_layOrder P 86 [(0, .inr (.inr 0)), (2, .inl (v2 + 1))] [] M6)))) : jM_layOrder P 86 [(0, .inr (.inr 0)), (2, .inl v2)] [] M := by
  refine ax_iloadn 1 dM_layOrder_86 rfl rfl ?_
  refine ax_aloadn 0 dM_layOrder_87 rfl rfl ?_
  refine ax_geti dM_layOrder_88 fM_89 sM_0 rfl ?_
  refine ax_icmp_ge (tgt := 129) dM_layOrder_91 (by decide) (fun c9 => ?_) (fun c9 => ?_)
  · replace h := h.1 c9
    exact ax_vret dM_layOrder_129 h
  · replace h := h.2 c9
    refine ax_aloadn 0 dM_layOrder_94 rfl rfl ?_
    refine ax_getr dM_layOrder_95 fM_7 sM_0 rfl ?_
    refine ax_bipush dM_layOrder_98 (by decide) ?_
    refine ax_iloadn 1 dM_layOrder_100 rfl rfl ?_
    obtain ⟨q1, h⟩ := h
    refine ax_imul dM_layOrder_101 q1 ?_
    obtain ⟨q2, h⟩ := h
    refine ax_iald dM_layOrder_102 sM_1 q2.1 q2.2 ?_
    refine ax_iconst dM_layOrder_103 (by decide) ?_
    refine ax_icmp_ne (tgt := 123) dM_layOrder_104 (by decide) (fun c8 => ?_) (fun c8 => ?_)
    · replace h := h.1 c8
      obtain ⟨q3, h⟩ := h
      refine ax_iinc (j := 1) dM_layOrder_123 rfl (by decide) q3 rfl ?_
      refine ax_goto (tgt := 86) dM_layOrder_126 (by decide) ?_
      exact ax_sub [1, 0] rfl h
    · replace h := h.2 c8
      refine ax_aloadn 0 dM_layOrder_107 rfl rfl ?_
      refine ax_iloadn 1 dM_layOrder_108 rfl rfl ?_
      refine ax_aloadn 0 dM_layOrder_109 rfl rfl ?_
      refine ax_getr dM_layOrder_110 fM_7 sM_0 rfl ?_
      refine ax_bipush dM_layOrder_113 (by decide) ?_
      refine ax_iloadn 1 dM_layOrder_115 rfl rfl ?_
      refine ax_imul dM_layOrder_116 (show ax_r _ from ⟨by omega, by omega⟩) ?_
      refine ax_iconst dM_layOrder_117 (by decide) ?_
      refine ax_iadd dM_layOrder_118 (show ax_r _ from ⟨by omega, by omega⟩) ?_
      obtain ⟨q4, h⟩ := h
      refine ax_iald dM_layOrder_119 sM_1 q4.1 q4.2 ?_
      refine ax_callV (dp2 := 1) (as := [.inl v2, .inl (M 1 (((7 * v2) + 1).toNat))]) (st := []) dM_layOrder_120 lM_165 sM_0 ⟨_, _, rfl⟩ rfl rfl (Nat.le_of_ble_eq_true rfl) (by decide) ?_
      refine ax_C_mono (fun _ M6 h => ?_) h
      obtain ⟨q7, h⟩ := h
      refine ax_iinc (j := 1) dM_layOrder_123 rfl (by decide) q7 rfl ?_
      refine ax_goto (tgt := 86) dM_layOrder_126 (by decide) ?_
      exact ax_sub [1, 0] rfl h
theorem gM_layOrder_20 {P : Int → ax_Mem → Prop} {M : ax_Mem} {v1 v2 v3 : Int} (h : (v3 ≤ 0 → (0 ≤ v3 ∧ v3 < 12) ∧ (-2147483648 ≤ ((M 0 17) + 1) ∧ ((M 0 17) + 1) < 2147483648) ∧ (-2147483648 ≤ (v2 + 1) ∧ (v2 + 1) < 2147483648) ∧ jM_layOrder P 7 [(0, .inr (.inr 0)), (1, .inl v1), (2, .inl (v2 + 1))] [] (ax_u (ax_u M 7 (v3.toNat) v2) 0 17 ((M 0 17) + 1))) ∧ (¬ v3 ≤ 0 → (-2147483648 ≤ (v3 - 1) ∧ (v3 - 1) < 2147483648) ∧ (0 ≤ (v3 - 1) ∧ (v3 - 1) < 12) ∧ kM_isAhead [.inr (.inr 0), .inl v1, .inl v2, .inl (M 7 ((v3 - 1).toNat))] M (fun r6 M7 => (r6 = 0 → (0 ≤ v3 ∧ v3 < 12) ∧ (-2147483648 ≤ ((M7 0 17) + 1) ∧ ((M7 0 17) + 1) < 2147483648) ∧ (-2147483648 ≤ (v2 + 1) ∧ (v2 + 1) < 2147483648) ∧ jM_layOrder P 7 [(0, .inr (.inr 0)), (1, .inl v1), (2, .inl (v2 + 1))] [] (ax_u (ax_u M7 7 (v3.toNat) v2) 0 17 ((M7 0 17) + 1))) ∧ (¬ r6 = 0 → (0 ≤ v3 ∧ v3 < 12) ∧ jM_layOrder P 20 [(0, .inr (.inr 0)), (1, .inl v1), (2, .inl v2), (3, .inl (v3 + (-1)))] [] (ax_u M7 7 (v3.toNat) (M7 7 ((v3 - 1).toNat))))))) : jM_layOrder P 20 [(0, .inr (.inr 0)), (1, .inl v1), (2, .inl v2), (3, .inl v3)] [] M := by
  refine ax_iloadn 3 dM_layOrder_20 rfl rfl ?_
  refine ax_if_le (tgt := 61) dM_layOrder_21 (by decide) (fun c13 => ?_) (fun c13 => ?_)
  · replace h := h.1 c13
    refine ax_aloadn 0 dM_layOrder_61 rfl rfl ?_
    refine ax_getr dM_layOrder_62 fM_28 sM_0 rfl ?_
    refine ax_iloadn 3 dM_layOrder_65 rfl rfl ?_
    refine ax_iloadn 2 dM_layOrder_66 rfl rfl ?_
    obtain ⟨q1, h⟩ := h
    refine ax_iast dM_layOrder_67 sM_7 q1.1 q1.2 ?_
    refine ax_aloadn 0 dM_layOrder_68 rfl rfl ?_
    refine ax_dup dM_layOrder_69 rfl ?_
    refine ax_geti dM_layOrder_70 fM_156 sM_0 rfl ?_
    refine ax_top (x' := M 0 17) (by first | rfl | exact ax_u_at _ _ _ _) ?_
    refine ax_iconst dM_layOrder_73 (by decide) ?_
    obtain ⟨q2, h⟩ := h
    refine ax_iadd dM_layOrder_74 q2 ?_
    refine ax_puti dM_layOrder_75 pM_156 sM_0 rfl ?_
    obtain ⟨q3, h⟩ := h
    refine ax_iinc (j := 2) dM_layOrder_78 rfl (by decide) q3 rfl ?_
    refine ax_goto (tgt := 7) dM_layOrder_81 (by decide) ?_
    exact ax_sub [1, 2, 0] rfl h
  · replace h := h.2 c13
    refine ax_aloadn 0 dM_layOrder_24 rfl rfl ?_
    refine ax_iloadn 1 dM_layOrder_25 rfl rfl ?_
    refine ax_iloadn 2 dM_layOrder_26 rfl rfl ?_
    refine ax_aloadn 0 dM_layOrder_27 rfl rfl ?_
    refine ax_getr dM_layOrder_28 fM_28 sM_0 rfl ?_
    refine ax_iloadn 3 dM_layOrder_31 rfl rfl ?_
    refine ax_iconst dM_layOrder_32 (by decide) ?_
    obtain ⟨q4, h⟩ := h
    refine ax_isub dM_layOrder_33 q4 ?_
    obtain ⟨q5, h⟩ := h
    refine ax_iald dM_layOrder_34 sM_7 q5.1 q5.2 ?_
    refine ax_callV (dp2 := 2) (as := [.inl v1, .inl v2, .inl (M 7 ((v3 - 1).toNat))]) (st := []) dM_layOrder_35 lM_162 sM_0 ⟨_, _, rfl⟩ rfl rfl (Nat.le_of_ble_eq_true rfl) (by decide) ?_
    refine ax_C_mono (fun r6 M7 h => ?_) h
    refine ax_if_eq (tgt := 61) dM_layOrder_38 (by decide) (fun c12 => ?_) (fun c12 => ?_)
    · replace h := h.1 c12
      refine ax_aloadn 0 dM_layOrder_61 rfl rfl ?_
      refine ax_getr dM_layOrder_62 fM_28 sM_0 rfl ?_
      refine ax_iloadn 3 dM_layOrder_65 rfl rfl ?_
      refine ax_iloadn 2 dM_layOrder_66 rfl rfl ?_
      obtain ⟨q8, h⟩ := h
      refine ax_iast dM_layOrder_67 sM_7 q8.1 q8.2 ?_
      refine ax_aloadn 0 dM_layOrder_68 rfl rfl ?_
      refine ax_dup dM_layOrder_69 rfl ?_
      refine ax_geti dM_layOrder_70 fM_156 sM_0 rfl ?_
      refine ax_top (x' := M7 0 17) (by first | rfl | exact ax_u_at _ _ _ _) ?_
      refine ax_iconst dM_layOrder_73 (by decide) ?_
      obtain ⟨q9, h⟩ := h
      refine ax_iadd dM_layOrder_74 q9 ?_
      refine ax_puti dM_layOrder_75 pM_156 sM_0 rfl ?_
      obtain ⟨q10, h⟩ := h
      refine ax_iinc (j := 2) dM_layOrder_78 rfl (by decide) q10 rfl ?_
      refine ax_goto (tgt := 7) dM_layOrder_81 (by decide) ?_
      exact ax_sub [1, 2, 0] rfl h
    · replace h := h.2 c12
      refine ax_aloadn 0 dM_layOrder_41 rfl rfl ?_
      refine ax_getr dM_layOrder_42 fM_28 sM_0 rfl ?_
      refine ax_iloadn 3 dM_layOrder_45 rfl rfl ?_
      refine ax_aloadn 0 dM_layOrder_46 rfl rfl ?_
      refine ax_getr dM_layOrder_47 fM_28 sM_0 rfl ?_
      refine ax_iloadn 3 dM_layOrder_50 rfl rfl ?_
      refine ax_iconst dM_layOrder_51 (by decide) ?_
      refine ax_isub dM_layOrder_52 (show ax_r _ from ⟨by omega, by omega⟩) ?_
      refine ax_iald dM_layOrder_53 sM_7 q5.1 q5.2 ?_
      obtain ⟨q11, h⟩ := h
      refine ax_iast dM_layOrder_54 sM_7 q11.1 q11.2 ?_
      refine ax_iinc (j := 3) dM_layOrder_55 rfl (by decide) (show ax_r _ from ⟨by omega, by omega⟩) rfl ?_
      refine ax_goto (tgt := 20) dM_layOrder_58 (by decide) ?_
      exact ax_sub [1, 2, 3, 0] rfl h
theorem eM_layOrder {P : Int → ax_Mem → Prop} {M : ax_Mem} {a1 : Int} (h : jM_layOrder P 7 [(0, .inr (.inr 0)), (1, .inl a1), (2, .inl 0)] [] (ax_u M 0 17 0)) : kM_layOrder [.inr (.inr 0), .inl a1] M P := ax_ofJ (by decide) (Nat.le_of_ble_eq_true rfl) (gM_layOrder_0 h)
-- M_everybody dp 0
theorem gM_everybody_0 {P : Int → ax_Mem → Prop} {M : ax_Mem} (h : (0 ≤ (M 0 4) ∧ (M 0 4) ≤ 30) ∧ (-2147483648 ≤ (((2 : Int) ^ (M 0 4).toNat) - 1) ∧ (((2 : Int) ^ (M 0 4).toNat) - 1) < 2147483648) ∧ P (((2 : Int) ^ (M 0 4).toNat) - 1) M) : jM_everybody P 0 [(0, .inr (.inr 0))] [] M := by
  refine ax_iconst dM_everybody_0 (by decide) ?_
  refine ax_aloadn 0 dM_everybody_1 rfl rfl ?_
  refine ax_geti dM_everybody_2 fM_89 sM_0 rfl ?_
  obtain ⟨q1, h⟩ := h
  refine ax_ishl1 dM_everybody_5 q1.1 q1.2 ?_
  refine ax_iconst dM_everybody_6 (by decide) ?_
  obtain ⟨q2, h⟩ := h
  refine ax_isub dM_everybody_7 q2 ?_
  exact ax_iret dM_everybody_8 h
theorem eM_everybody {P : Int → ax_Mem → Prop} {M : ax_Mem} (h : (0 ≤ (M 0 4) ∧ (M 0 4) ≤ 30) ∧ (-2147483648 ≤ (((2 : Int) ^ (M 0 4).toNat) - 1) ∧ (((2 : Int) ^ (M 0 4).toNat) - 1) < 2147483648) ∧ P (((2 : Int) ^ (M 0 4).toNat) - 1) M) : kM_everybody [.inr (.inr 0)] M P := ax_ofJ (by decide) (Nat.le_of_ble_eq_true rfl) (gM_everybody_0 h)
-- M_order dp 4
theorem gM_order_0 {P : Int → ax_Mem → Prop} {M : ax_Mem} {a1 a2 : Int} (h : kM_isCall [.inr (.inr 0), .inl a1] M (fun r1 M2 => (¬ r1 = 0 → kM_lacks [.inr (.inr 0)] M2 (fun r3 M4 => (r3 = 0 → kM_in [.inr (.inl a2), .inr (.inl 0), .inr (.inl 11)] M4 (fun r5 M6 => (¬ r5 = 0 → kM_layPeople [.inr (.inr 0), .inl 3] M6 (fun _ M8 => kM_layOrder [.inr (.inr 0), .inl a1] M8 (fun _ M10 => ((M10 0 17) ≤ a2 → P (-1) M10) ∧ (¬ (M10 0 17) ≤ a2 → (0 ≤ a2 ∧ a2 < 12) ∧ P (M10 7 (a2.toNat)) M10)))) ∧ (r5 = 0 → P (-102) M6))) ∧ (¬ r3 = 0 → P (-103) M4))) ∧ (r1 = 0 → P (-101) M2))) : jM_order P 0 [(0, .inr (.inr 0)), (1, .inl a1), (2, .inl a2)] [] M := by
  refine ax_aloadn 0 dM_order_0 rfl rfl ?_
  refine ax_iloadn 1 dM_order_1 rfl rfl ?_
  refine ax_callV (dp2 := 1) (as := [.inl a1]) (st := []) dM_order_2 lM_169 sM_0 ⟨_, _, rfl⟩ rfl rfl (Nat.le_of_ble_eq_true rfl) (by decide) ?_
  refine ax_C_mono (fun r1 M2 h => ?_) h
  refine ax_if_ne (tgt := 11) dM_order_5 (by decide) (fun c15 => ?_) (fun c15 => ?_)
  · replace h := h.1 c15
    refine ax_aloadn 0 dM_order_11 rfl rfl ?_
    refine ax_callV (dp2 := 0) (as := []) (st := []) dM_order_12 lM_95 sM_0 ⟨_, _, rfl⟩ rfl rfl (Nat.le_of_ble_eq_true rfl) (by decide) ?_
    refine ax_C_mono (fun r3 M4 h => ?_) h
    refine ax_if_eq (tgt := 21) dM_order_15 (by decide) (fun c14 => ?_) (fun c14 => ?_)
    · replace h := h.1 c14
      refine ax_iloadn 2 dM_order_21 rfl rfl ?_
      refine ax_i2l dM_order_22 ?_
      refine ax_lconst (i := 0) dM_order_23 rfl ?_
      refine ax_ldc2 (n := 11) dM_order_24 nM_172 ?_
      refine ax_callS (dp2 := 0) (as := [.inr (.inl a2), .inr (.inl 0), .inr (.inl 11)]) (st := []) dM_order_27 lM_72 rfl rfl (Nat.le_of_ble_eq_true rfl) (by decide) ?_
      refine ax_C_mono (fun r5 M6 h => ?_) h
      refine ax_if_ne (tgt := 36) dM_order_30 (by decide) (fun c13 => ?_) (fun c13 => ?_)
      · replace h := h.1 c13
        refine ax_aloadn 0 dM_order_36 rfl rfl ?_
        refine ax_iconst dM_order_37 (by decide) ?_
        refine ax_callV (dp2 := 0) (as := [.inl 3]) (st := []) dM_order_38 lM_174 sM_0 ⟨_, _, rfl⟩ rfl rfl (Nat.le_of_ble_eq_true rfl) (by decide) ?_
        refine ax_C_mono (fun _ M8 h => ?_) h
        refine ax_aloadn 0 dM_order_41 rfl rfl ?_
        refine ax_iloadn 1 dM_order_42 rfl rfl ?_
        refine ax_callV (dp2 := 3) (as := [.inl a1]) (st := []) dM_order_43 lM_178 sM_0 ⟨_, _, rfl⟩ rfl rfl (Nat.le_of_ble_eq_true rfl) (by decide) ?_
        refine ax_C_mono (fun _ M10 h => ?_) h
        refine ax_iloadn 2 dM_order_46 rfl rfl ?_
        refine ax_aloadn 0 dM_order_47 rfl rfl ?_
        refine ax_geti dM_order_48 fM_156 sM_0 rfl ?_
        refine ax_icmp_ge (tgt := 63) dM_order_51 (by decide) (fun c12 => ?_) (fun c12 => ?_)
        · replace h := h.1 c12
          refine ax_iconst dM_order_63 (by decide) ?_
          exact ax_iret dM_order_64 h
        · replace h := h.2 c12
          refine ax_aloadn 0 dM_order_54 rfl rfl ?_
          refine ax_getr dM_order_55 fM_28 sM_0 rfl ?_
          refine ax_iloadn 2 dM_order_58 rfl rfl ?_
          obtain ⟨q11, h⟩ := h
          refine ax_iald dM_order_59 sM_7 q11.1 q11.2 ?_
          refine ax_goto (tgt := 64) dM_order_60 (by decide) ?_
          exact ax_iret dM_order_64 h
      · replace h := h.2 c13
        refine ax_bipush dM_order_33 (by decide) ?_
        exact ax_iret dM_order_35 h
    · replace h := h.2 c14
      refine ax_bipush dM_order_18 (by decide) ?_
      exact ax_iret dM_order_20 h
  · replace h := h.2 c15
    refine ax_bipush dM_order_8 (by decide) ?_
    exact ax_iret dM_order_10 h
theorem eM_order {P : Int → ax_Mem → Prop} {M : ax_Mem} {a1 a2 : Int} (h : kM_isCall [.inr (.inr 0), .inl a1] M (fun r1 M2 => (¬ r1 = 0 → kM_lacks [.inr (.inr 0)] M2 (fun r3 M4 => (r3 = 0 → kM_in [.inr (.inl a2), .inr (.inl 0), .inr (.inl 11)] M4 (fun r5 M6 => (¬ r5 = 0 → kM_layPeople [.inr (.inr 0), .inl 3] M6 (fun _ M8 => kM_layOrder [.inr (.inr 0), .inl a1] M8 (fun _ M10 => ((M10 0 17) ≤ a2 → P (-1) M10) ∧ (¬ (M10 0 17) ≤ a2 → (0 ≤ a2 ∧ a2 < 12) ∧ P (M10 7 (a2.toNat)) M10)))) ∧ (r5 = 0 → P (-102) M6))) ∧ (¬ r3 = 0 → P (-103) M4))) ∧ (r1 = 0 → P (-101) M2))) : kM_order [.inr (.inr 0), .inl a1, .inl a2] M P := ax_ofJ (by decide) (Nat.le_of_ble_eq_true rfl) (gM_order_0 h)
-- M_nearestBin dp 0
theorem gM_nearestBin_0 {P : Int → ax_Mem → Prop} {M : ax_Mem} {a1 : Int} (h : jM_nearestBin P 2 [(0, .inr (.inr 0)), (1, .inl a1), (2, .inl 0)] [] M) : jM_nearestBin P 0 [(0, .inr (.inr 0)), (1, .inl a1)] [] M := by
  refine ax_iconst dM_nearestBin_0 (by decide) ?_
  refine ax_istoren dM_nearestBin_1 rfl (by decide) rfl ?_
  exact ax_sub [1, 2, 0] rfl h
theorem gM_nearestBin_2 {P : Int → ax_Mem → Prop} {M : ax_Mem} {v1 v2 : Int} (h : ((M 0 13) ≤ v2 → P (-1) M) ∧ (¬ (M 0 13) ≤ v2 → (-2147483648 ≤ (v1 - v2) ∧ (v1 - v2) < 2147483648) ∧ ((v1 - v2) < 0 → (-2147483648 ≤ (v1 + v2) ∧ (v1 + v2) < 2147483648) ∧ ((M 0 13) ≤ (v1 + v2) → (-2147483648 ≤ (v2 + 1) ∧ (v2 + 1) < 2147483648) ∧ jM_nearestBin P 2 [(0, .inr (.inr 0)), (1, .inl v1), (2, .inl (v2 + 1))] [] M) ∧ (¬ (M 0 13) ≤ (v1 + v2) → (0 ≤ (v1 + v2) ∧ (v1 + v2) < 12) ∧ ((M 0 2) ≤ (M 12 ((v1 + v2).toNat)) → (-2147483648 ≤ (v2 + 1) ∧ (v2 + 1) < 2147483648) ∧ jM_nearestBin P 2 [(0, .inr (.inr 0)), (1, .inl v1), (2, .inl (v2 + 1))] [] M) ∧ (¬ (M 0 2) ≤ (M 12 ((v1 + v2).toNat)) → P (v1 + v2) M))) ∧ (¬ (v1 - v2) < 0 → (0 ≤ (v1 - v2) ∧ (v1 - v2) < 12) ∧ ((M 0 2) ≤ (M 12 ((v1 - v2).toNat)) → (-2147483648 ≤ (v1 + v2) ∧ (v1 + v2) < 2147483648) ∧ ((M 0 13) ≤ (v1 + v2) → (-2147483648 ≤ (v2 + 1) ∧ (v2 + 1) < 2147483648) ∧ jM_nearestBin P 2 [(0, .inr (.inr 0)), (1, .inl v1), (2, .inl (v2 + 1))] [] M) ∧ (¬ (M 0 13) ≤ (v1 + v2) → (0 ≤ (v1 + v2) ∧ (v1 + v2) < 12) ∧ ((M 0 2) ≤ (M 12 ((v1 + v2).toNat)) → (-2147483648 ≤ (v2 + 1) ∧ (v2 + 1) < 2147483648) ∧ jM_nearestBin P 2 [(0, .inr (.inr 0)), (1, .inl v1), (2, .inl (v2 + 1))] [] M) ∧ (¬ (M 0 2) ≤ (M 12 ((v1 + v2).toNat)) → P (v1 + v2) M))) ∧ (¬ (M 0 2) ≤ (M 12 ((v1 - v2).toNat)) → P (v1 - v2) M)))) : jM_nearestBin P 2 [(0, .inr (.inr 0)), (1, .inl v1), (2, .inl v2)] [] M := by
  refine ax_iloadn 2 dM_nearestBin_2 rfl rfl ?_
  refine ax_aloadn 0 dM_nearestBin_3 rfl rfl ?_
  refine ax_geti dM_nearestBin_4 fM_139 sM_0 rfl ?_
  refine ax_icmp_ge (tgt := 70) dM_nearestBin_7 (by decide) (fun c17 => ?_) (fun c17 => ?_)
  · replace h := h.1 c17
    refine ax_iconst dM_nearestBin_70 (by decide) ?_
    exact ax_iret dM_nearestBin_71 h
  · replace h := h.2 c17
    refine ax_iloadn 1 dM_nearestBin_10 rfl rfl ?_
    refine ax_iloadn 2 dM_nearestBin_11 rfl rfl ?_
    obtain ⟨q1, h⟩ := h
    refine ax_isub dM_nearestBin_12 q1 ?_
    refine ax_if_lt (tgt := 35) dM_nearestBin_13 (by decide) (fun c16 => ?_) (fun c16 => ?_)
    · replace h := h.1 c16
      refine ax_iloadn 1 dM_nearestBin_35 rfl rfl ?_
      refine ax_iloadn 2 dM_nearestBin_36 rfl rfl ?_
      obtain ⟨q2, h⟩ := h
      refine ax_iadd dM_nearestBin_37 q2 ?_
      refine ax_aloadn 0 dM_nearestBin_38 rfl rfl ?_
      refine ax_geti dM_nearestBin_39 fM_139 sM_0 rfl ?_
      refine ax_icmp_ge (tgt := 64) dM_nearestBin_42 (by decide) (fun c7 => ?_) (fun c7 => ?_)
      · replace h := h.1 c7
        obtain ⟨q3, h⟩ := h
        refine ax_iinc (j := 2) dM_nearestBin_64 rfl (by decide) q3 rfl ?_
        refine ax_goto (tgt := 2) dM_nearestBin_67 (by decide) ?_
        exact ax_sub [1, 2, 0] rfl h
      · replace h := h.2 c7
        refine ax_aloadn 0 dM_nearestBin_45 rfl rfl ?_
        refine ax_getr dM_nearestBin_46 fM_43 sM_0 rfl ?_
        refine ax_iloadn 1 dM_nearestBin_49 rfl rfl ?_
        refine ax_iloadn 2 dM_nearestBin_50 rfl rfl ?_
        refine ax_iadd dM_nearestBin_51 q2 ?_
        obtain ⟨q4, h⟩ := h
        refine ax_iald dM_nearestBin_52 sM_12 q4.1 q4.2 ?_
        refine ax_aloadn 0 dM_nearestBin_53 rfl rfl ?_
        refine ax_geti dM_nearestBin_54 fM_86 sM_0 rfl ?_
        refine ax_icmp_ge (tgt := 64) dM_nearestBin_57 (by decide) (fun c6 => ?_) (fun c6 => ?_)
        · replace h := h.1 c6
          obtain ⟨q5, h⟩ := h
          refine ax_iinc (j := 2) dM_nearestBin_64 rfl (by decide) q5 rfl ?_
          refine ax_goto (tgt := 2) dM_nearestBin_67 (by decide) ?_
          exact ax_sub [1, 2, 0] rfl h
        · replace h := h.2 c6
          refine ax_iloadn 1 dM_nearestBin_60 rfl rfl ?_
          refine ax_iloadn 2 dM_nearestBin_61 rfl rfl ?_
          refine ax_iadd dM_nearestBin_62 (show ax_r _ from ⟨by omega, by omega⟩) ?_
          exact ax_iret dM_nearestBin_63 h
    · replace h := h.2 c16
      refine ax_aloadn 0 dM_nearestBin_16 rfl rfl ?_
      refine ax_getr dM_nearestBin_17 fM_43 sM_0 rfl ?_
      refine ax_iloadn 1 dM_nearestBin_20 rfl rfl ?_
      refine ax_iloadn 2 dM_nearestBin_21 rfl rfl ?_
      refine ax_isub dM_nearestBin_22 q1 ?_
      obtain ⟨q8, h⟩ := h
      refine ax_iald dM_nearestBin_23 sM_12 q8.1 q8.2 ?_
      refine ax_aloadn 0 dM_nearestBin_24 rfl rfl ?_
      refine ax_geti dM_nearestBin_25 fM_86 sM_0 rfl ?_
      refine ax_icmp_ge (tgt := 35) dM_nearestBin_28 (by decide) (fun c15 => ?_) (fun c15 => ?_)
      · replace h := h.1 c15
        refine ax_iloadn 1 dM_nearestBin_35 rfl rfl ?_
        refine ax_iloadn 2 dM_nearestBin_36 rfl rfl ?_
        obtain ⟨q9, h⟩ := h
        refine ax_iadd dM_nearestBin_37 q9 ?_
        refine ax_aloadn 0 dM_nearestBin_38 rfl rfl ?_
        refine ax_geti dM_nearestBin_39 fM_139 sM_0 rfl ?_
        refine ax_icmp_ge (tgt := 64) dM_nearestBin_42 (by decide) (fun c14 => ?_) (fun c14 => ?_)
        · replace h := h.1 c14
          obtain ⟨q10, h⟩ := h
          refine ax_iinc (j := 2) dM_nearestBin_64 rfl (by decide) q10 rfl ?_
          refine ax_goto (tgt := 2) dM_nearestBin_67 (by decide) ?_
          exact ax_sub [1, 2, 0] rfl h
        · replace h := h.2 c14
          refine ax_aloadn 0 dM_nearestBin_45 rfl rfl ?_
          refine ax_getr dM_nearestBin_46 fM_43 sM_0 rfl ?_
          refine ax_iloadn 1 dM_nearestBin_49 rfl rfl ?_
          refine ax_iloadn 2 dM_nearestBin_50 rfl rfl ?_
          refine ax_iadd dM_nearestBin_51 q9 ?_
          obtain ⟨q11, h⟩ := h
          refine ax_iald dM_nearestBin_52 sM_12 q11.1 q11.2 ?_
          refine ax_aloadn 0 dM_nearestBin_53 rfl rfl ?_
          refine ax_geti dM_nearestBin_54 fM_86 sM_0 rfl ?_
          refine ax_icmp_ge (tgt := 64) dM_nearestBin_57 (by decide) (fun c13 => ?_) (fun c13 => ?_)
          · replace h := h.1 c13
            obtain ⟨q12, h⟩ := h
            refine ax_iinc (j := 2) dM_nearestBin_64 rfl (by decide) q12 rfl ?_
            refine ax_goto (tgt := 2) dM_nearestBin_67 (by decide) ?_
            exact ax_sub [1, 2, 0] rfl h
          · replace h := h.2 c13
            refine ax_iloadn 1 dM_nearestBin_60 rfl rfl ?_
            refine ax_iloadn 2 dM_nearestBin_61 rfl rfl ?_
            refine ax_iadd dM_nearestBin_62 (show ax_r _ from ⟨by omega, by omega⟩) ?_
            exact ax_iret dM_nearestBin_63 h
      · replace h := h.2 c15
        refine ax_iloadn 1 dM_nearestBin_31 rfl rfl ?_
        refine ax_iloadn 2 dM_nearestBin_32 rfl rfl ?_
        refine ax_isub dM_nearestBin_33 (show ax_r _ from ⟨by omega, by omega⟩) ?_
        exact ax_iret dM_nearestBin_34 h
theorem eM_nearestBin {P : Int → ax_Mem → Prop} {M : ax_Mem} {a1 : Int} (h : jM_nearestBin P 2 [(0, .inr (.inr 0)), (1, .inl a1), (2, .inl 0)] [] M) : kM_nearestBin [.inr (.inr 0), .inl a1] M P := ax_ofJ (by decide) (Nat.le_of_ble_eq_true rfl) (gM_nearestBin_0 h)
-- M_begin dp 1
theorem gM_begin_0 {P : Int → ax_Mem → Prop} {M : ax_Mem} {a1 : Int} (h : jM_begin P 4 [(0, .inr (.inr 0)), (1, .inl a1), (2, .inl 0), (3, .inl 0)] [] M) : jM_begin P 0 [(0, .inr (.inr 0)), (1, .inl a1)] [] M := by
  refine ax_iconst dM_begin_0 (by decide) ?_
  refine ax_istoren dM_begin_1 rfl (by decide) rfl ?_
  refine ax_iconst dM_begin_2 (by decide) ?_
  refine ax_istoren dM_begin_3 rfl (by decide) rfl ?_
  exact ax_sub [2, 3, 1, 0] rfl h
theorem gM_begin_4 {P : Int → ax_Mem → Prop} {M : ax_Mem} {v1 v2 v3 : Int} (h : (0 ≤ v1 ∧ v1 < 12) ∧ ((M 6 (v1.toNat)) ≤ v3 → jM_begin P 110 [(0, .inr (.inr 0)), (1, .inl v1), (2, .inl v2), (3, .inl 0)] [] M) ∧ (¬ (M 6 (v1.toNat)) ≤ v3 → kM_nearestBin [.inr (.inr 0), .inl (M 5 (v1.toNat))] M (fun r2 M3 => (-2147483648 ≤ ((3 * v1) + v3) ∧ ((3 * v1) + v3) < 2147483648) ∧ (0 ≤ ((3 * v1) + v3) ∧ ((3 * v1) + v3) < 36) ∧ (¬ r2 = (-1) → (0 ≤ r2 ∧ r2 < 12) ∧ (-2147483648 ≤ ((M3 12 (r2.toNat)) + 1) ∧ ((M3 12 (r2.toNat)) + 1) < 2147483648) ∧ (-2147483648 ≤ (r2 - (M3 5 (v1.toNat))) ∧ (r2 - (M3 5 (v1.toNat))) < 2147483648) ∧ (0 ≤ (r2 - (M3 5 (v1.toNat))) → jM_begin P 98 [(0, .inr (.inr 0)), (1, .inl v1), (3, .inl v3)] [.inl (r2 - (M3 5 (v1.toNat))), .inl 2, .inl 4, .inl v2] (ax_u (ax_u M3 13 (((3 * v1) + v3).toNat) r2) 12 (r2.toNat) ((M3 12 (r2.toNat)) + 1))) ∧ (¬ 0 ≤ (r2 - (M3 5 (v1.toNat))) → (-2147483648 ≤ (-(r2 - (M3 5 (v1.toNat)))) ∧ (-(r2 - (M3 5 (v1.toNat)))) < 2147483648) ∧ jM_begin P 98 [(0, .inr (.inr 0)), (1, .inl v1), (3, .inl v3)] [.inl (-(r2 - (M3 5 (v1.toNat)))), .inl 2, .inl 4, .inl v2] (ax_u (ax_u M3 13 (((3 * v1) + v3).toNat) r2) 12 (r2.toNat) ((M3 12 (r2.toNat)) + 1)))) ∧ (r2 = (-1) → (-2147483648 ≤ ((M3 0 24) + 1) ∧ ((M3 0 24) + 1) < 2147483648) ∧ (-2147483648 ≤ (v2 + 5) ∧ (v2 + 5) < 2147483648) ∧ jM_begin P 102 [(0, .inr (.inr 0)), (1, .inl v1), (2, .inl (v2 + 5)), (3, .inl v3)] [] (ax_u (ax_u M3 13 (((3 * v1) + v3).toNat) r2) 0 24 ((M3 0 24) + 1)))))) : jM_begin P 4 [(0, .inr (.inr 0)), (1, .inl v1), (2, .inl v2), (3, .inl v3)] [] M := by
  refine ax_iloadn 3 dM_begin_4 rfl rfl ?_
  refine ax_aloadn 0 dM_begin_5 rfl rfl ?_
  refine ax_getr dM_begin_6 fM_25 sM_0 rfl ?_
  refine ax_iloadn 1 dM_begin_9 rfl rfl ?_
  obtain ⟨q1, h⟩ := h
  refine ax_iald dM_begin_10 sM_6 q1.1 q1.2 ?_
  refine ax_icmp_ge (tgt := 108) dM_begin_11 (by decide) (fun c14 => ?_) (fun c14 => ?_)
  · replace h := h.1 c14
    refine ax_iconst dM_begin_108 (by decide) ?_
    refine ax_istoren dM_begin_109 rfl (by decide) rfl ?_
    exact ax_sub [1, 2, 3, 0] rfl h
  · replace h := h.2 c14
    refine ax_aloadn 0 dM_begin_14 rfl rfl ?_
    refine ax_aloadn 0 dM_begin_15 rfl rfl ?_
    refine ax_getr dM_begin_16 fM_22 sM_0 rfl ?_
    refine ax_iloadn 1 dM_begin_19 rfl rfl ?_
    refine ax_iald dM_begin_20 sM_5 q1.1 q1.2 ?_
    refine ax_callV (dp2 := 0) (as := [.inl (M 5 (v1.toNat))]) (st := []) dM_begin_21 lM_181 sM_0 ⟨_, _, rfl⟩ rfl rfl (Nat.le_of_ble_eq_true rfl) (by decide) ?_
    refine ax_C_mono (fun r2 M3 h => ?_) h
    refine ax_istore dM_begin_24 (by decide) rfl ?_
    refine ax_aloadn 1 dM_begin_26 rfl rfl ?_
    refine ax_getr dM_begin_27 fM_46 sM_0 rfl ?_
    refine ax_iconst dM_begin_30 (by decide) ?_
    refine ax_iloadn 2 dM_begin_31 rfl rfl ?_
    refine ax_imul dM_begin_32 (show ax_r _ from ⟨by omega, by omega⟩) ?_
    refine ax_iloadn 4 dM_begin_33 rfl rfl ?_
    obtain ⟨q4, h⟩ := h
    refine ax_iadd dM_begin_34 q4 ?_
    refine ax_iload 0 dM_begin_35 rfl ?_
    obtain ⟨q5, h⟩ := h
    refine ax_iast dM_begin_37 sM_13 q5.1 q5.2 ?_
    refine ax_iload 0 dM_begin_38 rfl ?_
    refine ax_iconst dM_begin_40 (by decide) ?_
    refine ax_icmp_ne (tgt := 60) dM_begin_41 (by decide) (fun c13 => ?_) (fun c13 => ?_)
    · replace h := h.1 c13
      refine ax_aloadn 1 dM_begin_60 rfl rfl ?_
      refine ax_getr dM_begin_61 fM_43 sM_0 rfl ?_
      refine ax_iload 0 dM_begin_64 rfl ?_
      refine ax_dup2 dM_begin_66 rfl rfl ?_
      obtain ⟨q6, h⟩ := h
      refine ax_iald dM_begin_67 sM_12 q6.1 q6.2 ?_
      refine ax_top (x' := M3 12 (r2.toNat)) (by first | rfl | exact ax_u_at _ _ _ _) ?_
      refine ax_iconst dM_begin_68 (by decide) ?_
      obtain ⟨q7, h⟩ := h
      refine ax_iadd dM_begin_69 q7 ?_
      refine ax_iast dM_begin_70 sM_12 (by omega) (by omega) ?_
      refine ax_iload 0 dM_begin_71 rfl ?_
      refine ax_aloadn 1 dM_begin_73 rfl rfl ?_
      refine ax_getr dM_begin_74 fM_22 sM_0 rfl ?_
      refine ax_iloadn 2 dM_begin_77 rfl rfl ?_
      refine ax_iald dM_begin_78 sM_5 q1.1 q1.2 ?_
      refine ax_top (x' := M3 5 (v1.toNat)) (by first | rfl | exact ax_u_at _ _ _ _) ?_
      obtain ⟨q8, h⟩ := h
      refine ax_isub dM_begin_79 q8 ?_
      refine ax_istore dM_begin_80 (by decide) rfl ?_
      refine ax_iloadn 4 dM_begin_82 rfl rfl ?_
      refine ax_iconst dM_begin_83 (by decide) ?_
      refine ax_iconst dM_begin_84 (by decide) ?_
      refine ax_iload 0 dM_begin_85 rfl ?_
      refine ax_if_ge (tgt := 96) dM_begin_87 (by decide) (fun c10 => ?_) (fun c10 => ?_)
      · replace h := h.1 c10
        refine ax_iload 0 dM_begin_96 rfl ?_
        exact ax_sub [2, 3, 5] rfl h
      · replace h := h.2 c10
        refine ax_iload 0 dM_begin_90 rfl ?_
        obtain ⟨q9, h⟩ := h
        refine ax_ineg dM_begin_92 q9 ?_
        refine ax_goto (tgt := 98) dM_begin_93 (by decide) ?_
        exact ax_sub [2, 3, 5] rfl h
    · replace h := h.2 c13
      refine ax_aloadn 1 dM_begin_44 rfl rfl ?_
      refine ax_dup dM_begin_45 rfl ?_
      refine ax_geti dM_begin_46 fM_184 sM_0 rfl ?_
      refine ax_top (x' := M3 0 24) (by first | rfl | exact ax_u_at _ _ _ _) ?_
      refine ax_iconst dM_begin_49 (by decide) ?_
      obtain ⟨q11, h⟩ := h
      refine ax_iadd dM_begin_50 q11 ?_
      refine ax_puti dM_begin_51 pM_184 sM_0 rfl ?_
      obtain ⟨q12, h⟩ := h
      refine ax_iinc (j := 3) dM_begin_54 rfl (by decide) q12 rfl ?_
      refine ax_goto (tgt := 102) dM_begin_57 (by decide) ?_
      exact ax_sub [2, 3, 0, 4] rfl h
theorem gM_begin_110 {P : Int → ax_Mem → Prop} {M : ax_Mem} {v1 v2 v3 : Int} (h : ((M 0 17) ≤ v3 → P v2 M) ∧ (¬ (M 0 17) ≤ v3 → (0 ≤ v3 ∧ v3 < 12) ∧ (0 ≤ (M 7 (v3.toNat)) ∧ (M 7 (v3.toNat)) < 12) ∧ ((M 10 ((M 7 (v3.toNat)).toNat)) ≤ 0 → jM_begin P 184 [(0, .inr (.inr 0)), (1, .inl v1), (2, .inl v2), (3, .inl v3)] [] M) ∧ (¬ (M 10 ((M 7 (v3.toNat)).toNat)) ≤ 0 → (0 ≤ v1 ∧ v1 < 12) ∧ (¬ (M 5 ((M 7 (v3.toNat)).toNat)) = (M 5 (v1.toNat)) → jM_begin P 184 [(0, .inr (.inr 0)), (1, .inl v1), (2, .inl v2), (3, .inl v3)] [] M) ∧ ((M 5 ((M 7 (v3.toNat)).toNat)) = (M 5 (v1.toNat)) → kM_sideOf [.inr (.inr 0), .inl (M 7 (v3.toNat))] M (fun r4 M5 => kM_sideOf [.inr (.inr 0), .inl v1] M5 (fun r6 M7 => (¬ r4 = r6 → jM_begin P 184 [(0, .inr (.inr 0)), (1, .inl v1), (2, .inl v2), (3, .inl v3)] [] M7) ∧ (r4 = r6 → kM_depthOf [.inr (.inr 0), .inl (M 7 (v3.toNat))] M7 (fun r8 M9 => kM_depthOf [.inr (.inr 0), .inl v1] M9 (fun r10 M11 => (r10 ≤ r8 → jM_begin P 184 [(0, .inr (.inr 0)), (1, .inl v1), (2, .inl v2), (3, .inl v3)] [] M11) ∧ (¬ r10 ≤ r8 → jM_begin P 185 [(0, .inr (.inr 0)), (1, .inl v1), (2, .inl v2), (3, .inl v3)] [.inl 1] M11)))))))))) : jM_begin P 110 [(0, .inr (.inr 0)), (1, .inl v1), (2, .inl v2), (3, .inl v3)] [] M := by
  refine ax_iloadn 3 dM_begin_110 rfl rfl ?_
  refine ax_aloadn 0 dM_begin_111 rfl rfl ?_
  refine ax_geti dM_begin_112 fM_156 sM_0 rfl ?_
  refine ax_icmp_ge (tgt := 206) dM_begin_115 (by decide) (fun c16 => ?_) (fun c16 => ?_)
  · replace h := h.1 c16
    refine ax_iloadn 2 dM_begin_206 rfl rfl ?_
    exact ax_iret dM_begin_207 h
  · replace h := h.2 c16
    refine ax_aloadn 0 dM_begin_118 rfl rfl ?_
    refine ax_getr dM_begin_119 fM_28 sM_0 rfl ?_
    refine ax_iloadn 3 dM_begin_122 rfl rfl ?_
    obtain ⟨q1, h⟩ := h
    refine ax_iald dM_begin_123 sM_7 q1.1 q1.2 ?_
    refine ax_istore dM_begin_124 (by decide) rfl ?_
    refine ax_aloadn 1 dM_begin_126 rfl rfl ?_
    refine ax_getr dM_begin_127 fM_37 sM_0 rfl ?_
    refine ax_iload 0 dM_begin_130 rfl ?_
    obtain ⟨q2, h⟩ := h
    refine ax_iald dM_begin_132 sM_10 q2.1 q2.2 ?_
    refine ax_if_le (tgt := 184) dM_begin_133 (by decide) (fun c15 => ?_) (fun c15 => ?_)
    · replace h := h.1 c15
      exact ax_sub [1, 2, 3, 4] rfl h
    · replace h := h.2 c15
      refine ax_aloadn 1 dM_begin_136 rfl rfl ?_
      refine ax_getr dM_begin_137 fM_22 sM_0 rfl ?_
      refine ax_iload 0 dM_begin_140 rfl ?_
      refine ax_iald dM_begin_142 sM_5 q2.1 q2.2 ?_
      refine ax_aloadn 1 dM_begin_143 rfl rfl ?_
      refine ax_getr dM_begin_144 fM_22 sM_0 rfl ?_
      refine ax_iloadn 2 dM_begin_147 rfl rfl ?_
      obtain ⟨q3, h⟩ := h
      refine ax_iald dM_begin_148 sM_5 q3.1 q3.2 ?_
      refine ax_icmp_ne (tgt := 184) dM_begin_149 (by decide) (fun c14 => ?_) (fun c14 => ?_)
      · replace h := h.1 c14
        exact ax_sub [1, 2, 3, 4] rfl h
      · replace h := h.2 c14
        refine ax_aloadn 1 dM_begin_152 rfl rfl ?_
        refine ax_iload 0 dM_begin_153 rfl ?_
        refine ax_callV (dp2 := 0) (as := [.inl (M 7 (v3.toNat))]) (st := []) dM_begin_155 lM_146 sM_0 ⟨_, _, rfl⟩ rfl rfl (Nat.le_of_ble_eq_true rfl) (by decide) ?_
        refine ax_C_mono (fun r4 M5 h => ?_) h
        refine ax_aloadn 1 dM_begin_158 rfl rfl ?_
        refine ax_iloadn 2 dM_begin_159 rfl rfl ?_
        refine ax_callV (dp2 := 0) (as := [.inl v1]) (st := [.inl r4]) dM_begin_160 lM_146 sM_0 ⟨_, _, rfl⟩ rfl rfl (Nat.le_of_ble_eq_true rfl) (by decide) ?_
        refine ax_C_mono (fun r6 M7 h => ?_) h
        refine ax_icmp_ne (tgt := 184) dM_begin_163 (by decide) (fun c13 => ?_) (fun c13 => ?_)
        · replace h := h.1 c13
          exact ax_sub [1, 2, 3, 4] rfl h
        · replace h := h.2 c13
          refine ax_aloadn 1 dM_begin_166 rfl rfl ?_
          refine ax_iload 0 dM_begin_167 rfl ?_
          refine ax_callV (dp2 := 0) (as := [.inl (M 7 (v3.toNat))]) (st := []) dM_begin_169 lM_142 sM_0 ⟨_, _, rfl⟩ rfl rfl (Nat.le_of_ble_eq_true rfl) (by decide) ?_
          refine ax_C_mono (fun r8 M9 h => ?_) h
          refine ax_aloadn 1 dM_begin_172 rfl rfl ?_
          refine ax_iloadn 2 dM_begin_173 rfl rfl ?_
          refine ax_callV (dp2 := 0) (as := [.inl v1]) (st := [.inl r8]) dM_begin_174 lM_142 sM_0 ⟨_, _, rfl⟩ rfl rfl (Nat.le_of_ble_eq_true rfl) (by decide) ?_
          refine ax_C_mono (fun r10 M11 h => ?_) h
          refine ax_icmp_ge (tgt := 184) dM_begin_177 (by decide) (fun c12 => ?_) (fun c12 => ?_)
          · replace h := h.1 c12
            exact ax_sub [1, 2, 3, 4] rfl h
          · replace h := h.2 c12
            refine ax_iconst dM_begin_180 (by decide) ?_
            refine ax_goto (tgt := 185) dM_begin_181 (by decide) ?_
            exact ax_sub [1, 2, 3, 4] rfl h
theorem gM_begin_98 {P : Int → ax_Mem → Prop} {M : ax_Mem} {v1 v3 s0 s1 s2 s3 : Int} (h : (-2147483648 ≤ (s2 * s3) ∧ (s2 * s3) < 2147483648) ∧ (-2147483648 ≤ (s1 + (s2 * s3)) ∧ (s1 + (s2 * s3)) < 2147483648) ∧ (-2147483648 ≤ (s0 + (s1 + (s2 * s3))) ∧ (s0 + (s1 + (s2 * s3))) < 2147483648) ∧ jM_begin P 102 [(0, .inr (.inr 0)), (1, .inl v1), (2, .inl (s0 + (s1 + (s2 * s3)))), (3, .inl v3)] [] M) : jM_begin P 98 [(0, .inr (.inr 0)), (1, .inl v1), (3, .inl v3)] [.inl s3, .inl s2, .inl s1, .inl s0] M := by
  obtain ⟨q1, h⟩ := h
  refine ax_imul dM_begin_98 q1 ?_
  obtain ⟨q2, h⟩ := h
  refine ax_iadd dM_begin_99 q2 ?_
  obtain ⟨q3, h⟩ := h
  refine ax_iadd dM_begin_100 q3 ?_
  refine ax_istoren dM_begin_101 rfl (by decide) rfl ?_
  exact ax_sub [1, 2, 0, 3] rfl h
theorem gM_begin_102 {P : Int → ax_Mem → Prop} {M : ax_Mem} {v1 v2 v3 : Int} (h : (-2147483648 ≤ (v3 + 1) ∧ (v3 + 1) < 2147483648) ∧ jM_begin P 4 [(0, .inr (.inr 0)), (1, .inl v1), (2, .inl v2), (3, .inl (v3 + 1))] [] M) : jM_begin P 102 [(0, .inr (.inr 0)), (1, .inl v1), (2, .inl v2), (3, .inl v3)] [] M := by
  obtain ⟨q1, h⟩ := h
  refine ax_iinc (j := 3) dM_begin_102 rfl (by decide) q1 rfl ?_
  refine ax_goto (tgt := 4) dM_begin_105 (by decide) ?_
  exact ax_sub [1, 2, 3, 0] rfl h
theorem gM_begin_184 {P : Int → ax_Mem → Prop} {M : ax_Mem} {v1 v2 v3 : Int} (h : jM_begin P 185 [(0, .inr (.inr 0)), (1, .inl v1), (2, .inl v2), (3, .inl v3)] [.inl 0] M) : jM_begin P 184 [(0, .inr (.inr 0)), (1, .inl v1), (2, .inl v2), (3, .inl v3)] [] M := by
  refine ax_iconst dM_begin_184 (by decide) ?_
  exact h
theorem gM_begin_185 {P : Int → ax_Mem → Prop} {M : ax_Mem} {v1 v2 v3 s0 : Int} (h : (s0 = 0 → jM_begin P 198 [(0, .inr (.inr 0)), (1, .inl v1), (3, .inl v3)] [.inl 0, .inl v2] M) ∧ (¬ s0 = 0 → jM_begin P 198 [(0, .inr (.inr 0)), (1, .inl v1), (3, .inl v3)] [.inl 3, .inl v2] M)) : jM_begin P 185 [(0, .inr (.inr 0)), (1, .inl v1), (2, .inl v2), (3, .inl v3)] [.inl s0] M := by
  refine ax_istore dM_begin_185 (by decide) rfl ?_
  refine ax_iloadn 3 dM_begin_187 rfl rfl ?_
  refine ax_iload 0 dM_begin_188 rfl ?_
  refine ax_if_eq (tgt := 197) dM_begin_190 (by decide) (fun c1 => ?_) (fun c1 => ?_)
  · replace h := h.1 c1
    refine ax_iconst dM_begin_197 (by decide) ?_
    exact ax_sub [1, 2, 4] rfl h
  · replace h := h.2 c1
    refine ax_iconst dM_begin_193 (by decide) ?_
    refine ax_goto (tgt := 198) dM_begin_194 (by decide) ?_
    exact ax_sub [1, 2, 4] rfl h
theorem gM_begin_198 {P : Int → ax_Mem → Prop} {M : ax_Mem} {v1 v3 s0 s1 : Int} (h : (-2147483648 ≤ (s0 + s1) ∧ (s0 + s1) < 2147483648) ∧ (-2147483648 ≤ (v3 + 1) ∧ (v3 + 1) < 2147483648) ∧ jM_begin P 110 [(0, .inr (.inr 0)), (1, .inl v1), (2, .inl (s0 + s1)), (3, .inl (v3 + 1))] [] M) : jM_begin P 198 [(0, .inr (.inr 0)), (1, .inl v1), (3, .inl v3)] [.inl s1, .inl s0] M := by
  obtain ⟨q1, h⟩ := h
  refine ax_iadd dM_begin_198 q1 ?_
  refine ax_istoren dM_begin_199 rfl (by decide) rfl ?_
  obtain ⟨q2, h⟩ := h
  refine ax_iinc (j := 3) dM_begin_200 rfl (by decide) q2 rfl ?_
  refine ax_goto (tgt := 110) dM_begin_203 (by decide) ?_
  exact ax_sub [2, 3, 1, 0] rfl h
theorem eM_begin {P : Int → ax_Mem → Prop} {M : ax_Mem} {a1 : Int} (h : jM_begin P 4 [(0, .inr (.inr 0)), (1, .inl a1), (2, .inl 0), (3, .inl 0)] [] M) : kM_begin [.inr (.inr 0), .inl a1] M P := ax_ofJ (by decide) (Nat.le_of_ble_eq_true rfl) (gM_begin_0 h)
-- M_sit dp 0
theorem gM_sit_0 {P : Int → ax_Mem → Prop} {M : ax_Mem} {a1 a2 a3 : Int} (h : (0 ≤ a2 ∧ a2 < 12) ∧ (0 ≤ a1 ∧ a1 < 12) ∧ (-2147483648 ≤ ((M 0 26) + 1) ∧ ((M 0 26) + 1) < 2147483648) ∧ P 0 (ax_u (ax_u (ax_u M 8 (a2.toNat) (-1)) 10 (a1.toNat) a3) 0 26 ((M 0 26) + 1))) : jM_sit P 0 [(0, .inr (.inr 0)), (1, .inl a1), (2, .inl a2), (3, .inl a3)] [] M := by
  refine ax_aloadn 0 dM_sit_0 rfl rfl ?_
  refine ax_getr dM_sit_1 fM_31 sM_0 rfl ?_
  refine ax_iloadn 2 dM_sit_4 rfl rfl ?_
  refine ax_iconst dM_sit_5 (by decide) ?_
  obtain ⟨q1, h⟩ := h
  refine ax_iast dM_sit_6 sM_8 q1.1 q1.2 ?_
  refine ax_aloadn 0 dM_sit_7 rfl rfl ?_
  refine ax_getr dM_sit_8 fM_37 sM_0 rfl ?_
  refine ax_iloadn 1 dM_sit_11 rfl rfl ?_
  refine ax_iloadn 3 dM_sit_12 rfl rfl ?_
  obtain ⟨q2, h⟩ := h
  refine ax_iast dM_sit_13 sM_10 q2.1 q2.2 ?_
  refine ax_aloadn 0 dM_sit_14 rfl rfl ?_
  refine ax_dup dM_sit_15 rfl ?_
  refine ax_geti dM_sit_16 fM_187 sM_0 rfl ?_
  refine ax_top (x' := M 0 26) (by first | rfl | exact ax_u_at _ _ _ _) ?_
  refine ax_iconst dM_sit_19 (by decide) ?_
  obtain ⟨q3, h⟩ := h
  refine ax_iadd dM_sit_20 q3 ?_
  refine ax_puti dM_sit_21 pM_187 sM_0 rfl ?_
  exact ax_vret dM_sit_24 h
theorem eM_sit {P : Int → ax_Mem → Prop} {M : ax_Mem} {a1 a2 a3 : Int} (h : (0 ≤ a2 ∧ a2 < 12) ∧ (0 ≤ a1 ∧ a1 < 12) ∧ (-2147483648 ≤ ((M 0 26) + 1) ∧ ((M 0 26) + 1) < 2147483648) ∧ P 0 (ax_u (ax_u (ax_u M 8 (a2.toNat) (-1)) 10 (a1.toNat) a3) 0 26 ((M 0 26) + 1))) : kM_sit [.inr (.inr 0), .inl a1, .inl a2, .inl a3] M P := ax_ofJ (by decide) (Nat.le_of_ble_eq_true rfl) (gM_sit_0 h)
-- M_goCell dp 2
theorem gM_goCell_0 {P : Int → ax_Mem → Prop} {M : ax_Mem} {a1 a2 : Int} (h : (0 ≤ a1 ∧ a1 < 12) ∧ (0 ≤ (M 8 (a1.toNat)) ∧ (M 8 (a1.toNat)) < 12) ∧ ((M 9 ((M 8 (a1.toNat)).toNat)) ≤ 0 → (¬ a1 = (M 5 ((M 8 (a1.toNat)).toNat)) → (0 ≤ (a1 + 1) ∧ (a1 + 1) < 12) ∧ (¬ (M 8 ((a1 + 1).toNat)) = (-1) → (-2147483648 ≤ ((M 11 ((M 8 (a1.toNat)).toNat)) + 1) ∧ ((M 11 ((M 8 (a1.toNat)).toNat)) + 1) < 2147483648) ∧ P 0 (ax_u M 11 ((M 8 (a1.toNat)).toNat) ((M 11 ((M 8 (a1.toNat)).toNat)) + 1))) ∧ ((M 8 ((a1 + 1).toNat)) = (-1) → P 0 (ax_u (ax_u M 8 ((a1 + 1).toNat) (M 8 (a1.toNat))) 8 (a1.toNat) (-1)))) ∧ (a1 = (M 5 ((M 8 (a1.toNat)).toNat)) → kM_begin [.inr (.inr 0), .inl (M 8 (a1.toNat))] M (fun r6 M7 => (¬ r6 = 0 → P 0 (ax_u M7 9 ((M 8 (a1.toNat)).toNat) r6)) ∧ (r6 = 0 → kM_sit [.inr (.inr 0), .inl (M 8 (a1.toNat)), .inl a1, .inl a2] (ax_u M7 9 ((M 8 (a1.toNat)).toNat) r6) (fun _ M9 => P 0 M9))))) ∧ (¬ (M 9 ((M 8 (a1.toNat)).toNat)) ≤ 0 → (-2147483648 ≤ ((M 9 ((M 8 (a1.toNat)).toNat)) - 1) ∧ ((M 9 ((M 8 (a1.toNat)).toNat)) - 1) < 2147483648) ∧ (¬ ((M 9 ((M 8 (a1.toNat)).toNat)) - 1) = 0 → P 0 (ax_u M 9 ((M 8 (a1.toNat)).toNat) ((M 9 ((M 8 (a1.toNat)).toNat)) - 1))) ∧ (((M 9 ((M 8 (a1.toNat)).toNat)) - 1) = 0 → kM_sit [.inr (.inr 0), .inl (M 8 (a1.toNat)), .inl a1, .inl a2] (ax_u M 9 ((M 8 (a1.toNat)).toNat) ((M 9 ((M 8 (a1.toNat)).toNat)) - 1)) (fun _ M14 => P 0 M14)))) : jM_goCell P 0 [(0, .inr (.inr 0)), (1, .inl a1), (2, .inl a2)] [] M := by
  refine ax_aloadn 0 dM_goCell_0 rfl rfl ?_
  refine ax_getr dM_goCell_1 fM_31 sM_0 rfl ?_
  refine ax_iloadn 1 dM_goCell_4 rfl rfl ?_
  obtain ⟨q1, h⟩ := h
  refine ax_iald dM_goCell_5 sM_8 q1.1 q1.2 ?_
  refine ax_istoren dM_goCell_6 rfl (by decide) rfl ?_
  refine ax_aloadn 1 dM_goCell_7 rfl rfl ?_
  refine ax_getr dM_goCell_8 fM_34 sM_0 rfl ?_
  refine ax_iloadn 0 dM_goCell_11 rfl rfl ?_
  obtain ⟨q2, h⟩ := h
  refine ax_iald dM_goCell_12 sM_9 q2.1 q2.2 ?_
  refine ax_if_le (tgt := 45) dM_goCell_13 (by decide) (fun c16 => ?_) (fun c16 => ?_)
  · replace h := h.1 c16
    refine ax_iloadn 2 dM_goCell_45 rfl rfl ?_
    refine ax_aloadn 1 dM_goCell_46 rfl rfl ?_
    refine ax_getr dM_goCell_47 fM_22 sM_0 rfl ?_
    refine ax_iloadn 0 dM_goCell_50 rfl rfl ?_
    refine ax_iald dM_goCell_51 sM_5 q2.1 q2.2 ?_
    refine ax_icmp_ne (tgt := 85) dM_goCell_52 (by decide) (fun c11 => ?_) (fun c11 => ?_)
    · replace h := h.1 c11
      refine ax_aloadn 1 dM_goCell_85 rfl rfl ?_
      refine ax_getr dM_goCell_86 fM_31 sM_0 rfl ?_
      refine ax_iloadn 2 dM_goCell_89 rfl rfl ?_
      refine ax_iconst dM_goCell_90 (by decide) ?_
      refine ax_iadd dM_goCell_91 (show ax_r _ from ⟨by omega, by omega⟩) ?_
      obtain ⟨q3, h⟩ := h
      refine ax_iald dM_goCell_92 sM_8 q3.1 q3.2 ?_
      refine ax_iconst dM_goCell_93 (by decide) ?_
      refine ax_icmp_ne (tgt := 116) dM_goCell_94 (by decide) (fun c5 => ?_) (fun c5 => ?_)
      · replace h := h.1 c5
        refine ax_aloadn 1 dM_goCell_116 rfl rfl ?_
        refine ax_getr dM_goCell_117 fM_40 sM_0 rfl ?_
        refine ax_iloadn 0 dM_goCell_120 rfl rfl ?_
        refine ax_dup2 dM_goCell_121 rfl rfl ?_
        refine ax_iald dM_goCell_122 sM_11 q2.1 q2.2 ?_
        refine ax_iconst dM_goCell_123 (by decide) ?_
        obtain ⟨q4, h⟩ := h
        refine ax_iadd dM_goCell_124 q4 ?_
        refine ax_iast dM_goCell_125 sM_11 (by omega) (by omega) ?_
        exact ax_vret dM_goCell_126 h
      · replace h := h.2 c5
        refine ax_aloadn 1 dM_goCell_97 rfl rfl ?_
        refine ax_getr dM_goCell_98 fM_31 sM_0 rfl ?_
        refine ax_iloadn 2 dM_goCell_101 rfl rfl ?_
        refine ax_iconst dM_goCell_102 (by decide) ?_
        refine ax_iadd dM_goCell_103 (show ax_r _ from ⟨by omega, by omega⟩) ?_
        refine ax_iloadn 0 dM_goCell_104 rfl rfl ?_
        refine ax_iast dM_goCell_105 sM_8 (by omega) (by omega) ?_
        refine ax_aloadn 1 dM_goCell_106 rfl rfl ?_
        refine ax_getr dM_goCell_107 fM_31 sM_0 rfl ?_
        refine ax_iloadn 2 dM_goCell_110 rfl rfl ?_
        refine ax_iconst dM_goCell_111 (by decide) ?_
        refine ax_iast dM_goCell_112 sM_8 (by omega) (by omega) ?_
        refine ax_goto (tgt := 126) dM_goCell_113 (by decide) ?_
        exact ax_vret dM_goCell_126 h
    · replace h := h.2 c11
      refine ax_aloadn 1 dM_goCell_55 rfl rfl ?_
      refine ax_getr dM_goCell_56 fM_34 sM_0 rfl ?_
      refine ax_iloadn 0 dM_goCell_59 rfl rfl ?_
      refine ax_aloadn 1 dM_goCell_60 rfl rfl ?_
      refine ax_iloadn 0 dM_goCell_61 rfl rfl ?_
      refine ax_callV (dp2 := 1) (as := [.inl (M 8 (a1.toNat))]) (st := [.inl (M 8 (a1.toNat)), .inr (.inr 9)]) dM_goCell_62 lM_194 sM_0 ⟨_, _, rfl⟩ rfl rfl (Nat.le_of_ble_eq_true rfl) (by decide) ?_
      refine ax_C_mono (fun r6 M7 h => ?_) h
      refine ax_iast dM_goCell_65 sM_9 (by omega) (by omega) ?_
      refine ax_aloadn 1 dM_goCell_66 rfl rfl ?_
      refine ax_getr dM_goCell_67 fM_34 sM_0 rfl ?_
      refine ax_iloadn 0 dM_goCell_70 rfl rfl ?_
      refine ax_iald dM_goCell_71 sM_9 q2.1 q2.2 ?_
      refine ax_top (x' := r6) (by first | rfl | exact ax_u_at _ _ _ _) ?_
      refine ax_if_ne (tgt := 126) dM_goCell_72 (by decide) (fun c10 => ?_) (fun c10 => ?_)
      · replace h := h.1 c10
        exact ax_vret dM_goCell_126 h
      · replace h := h.2 c10
        refine ax_aloadn 1 dM_goCell_75 rfl rfl ?_
        refine ax_iloadn 0 dM_goCell_76 rfl rfl ?_
        refine ax_iloadn 2 dM_goCell_77 rfl rfl ?_
        refine ax_iloadn 3 dM_goCell_78 rfl rfl ?_
        refine ax_callV (dp2 := 0) (as := [.inl (M 8 (a1.toNat)), .inl a1, .inl a2]) (st := []) dM_goCell_79 lM_190 sM_0 ⟨_, _, rfl⟩ rfl rfl (Nat.le_of_ble_eq_true rfl) (by decide) ?_
        refine ax_C_mono (fun _ M9 h => ?_) h
        refine ax_goto (tgt := 126) dM_goCell_82 (by decide) ?_
        exact ax_vret dM_goCell_126 h
  · replace h := h.2 c16
    refine ax_aloadn 1 dM_goCell_16 rfl rfl ?_
    refine ax_getr dM_goCell_17 fM_34 sM_0 rfl ?_
    refine ax_iloadn 0 dM_goCell_20 rfl rfl ?_
    refine ax_dup2 dM_goCell_21 rfl rfl ?_
    refine ax_iald dM_goCell_22 sM_9 q2.1 q2.2 ?_
    refine ax_iconst dM_goCell_23 (by decide) ?_
    obtain ⟨q12, h⟩ := h
    refine ax_isub dM_goCell_24 q12 ?_
    refine ax_iast dM_goCell_25 sM_9 (by omega) (by omega) ?_
    refine ax_aloadn 1 dM_goCell_26 rfl rfl ?_
    refine ax_getr dM_goCell_27 fM_34 sM_0 rfl ?_
    refine ax_iloadn 0 dM_goCell_30 rfl rfl ?_
    refine ax_iald dM_goCell_31 sM_9 q2.1 q2.2 ?_
    refine ax_top (x' := (M 9 ((M 8 (a1.toNat)).toNat)) - 1) (by first | rfl | exact ax_u_at _ _ _ _) ?_
    refine ax_if_ne (tgt := 126) dM_goCell_32 (by decide) (fun c15 => ?_) (fun c15 => ?_)
    · replace h := h.1 c15
      exact ax_vret dM_goCell_126 h
    · replace h := h.2 c15
      refine ax_aloadn 1 dM_goCell_35 rfl rfl ?_
      refine ax_iloadn 0 dM_goCell_36 rfl rfl ?_
      refine ax_iloadn 2 dM_goCell_37 rfl rfl ?_
      refine ax_iloadn 3 dM_goCell_38 rfl rfl ?_
      refine ax_callV (dp2 := 0) (as := [.inl (M 8 (a1.toNat)), .inl a1, .inl a2]) (st := []) dM_goCell_39 lM_190 sM_0 ⟨_, _, rfl⟩ rfl rfl (Nat.le_of_ble_eq_true rfl) (by decide) ?_
      refine ax_C_mono (fun _ M14 h => ?_) h
      refine ax_goto (tgt := 126) dM_goCell_42 (by decide) ?_
      exact ax_vret dM_goCell_126 h
theorem eM_goCell {P : Int → ax_Mem → Prop} {M : ax_Mem} {a1 a2 : Int} (h : (0 ≤ a1 ∧ a1 < 12) ∧ (0 ≤ (M 8 (a1.toNat)) ∧ (M 8 (a1.toNat)) < 12) ∧ ((M 9 ((M 8 (a1.toNat)).toNat)) ≤ 0 → (¬ a1 = (M 5 ((M 8 (a1.toNat)).toNat)) → (0 ≤ (a1 + 1) ∧ (a1 + 1) < 12) ∧ (¬ (M 8 ((a1 + 1).toNat)) = (-1) → (-2147483648 ≤ ((M 11 ((M 8 (a1.toNat)).toNat)) + 1) ∧ ((M 11 ((M 8 (a1.toNat)).toNat)) + 1) < 2147483648) ∧ P 0 (ax_u M 11 ((M 8 (a1.toNat)).toNat) ((M 11 ((M 8 (a1.toNat)).toNat)) + 1))) ∧ ((M 8 ((a1 + 1).toNat)) = (-1) → P 0 (ax_u (ax_u M 8 ((a1 + 1).toNat) (M 8 (a1.toNat))) 8 (a1.toNat) (-1)))) ∧ (a1 = (M 5 ((M 8 (a1.toNat)).toNat)) → kM_begin [.inr (.inr 0), .inl (M 8 (a1.toNat))] M (fun r6 M7 => (¬ r6 = 0 → P 0 (ax_u M7 9 ((M 8 (a1.toNat)).toNat) r6)) ∧ (r6 = 0 → kM_sit [.inr (.inr 0), .inl (M 8 (a1.toNat)), .inl a1, .inl a2] (ax_u M7 9 ((M 8 (a1.toNat)).toNat) r6) (fun _ M9 => P 0 M9))))) ∧ (¬ (M 9 ((M 8 (a1.toNat)).toNat)) ≤ 0 → (-2147483648 ≤ ((M 9 ((M 8 (a1.toNat)).toNat)) - 1) ∧ ((M 9 ((M 8 (a1.toNat)).toNat)) - 1) < 2147483648) ∧ (¬ ((M 9 ((M 8 (a1.toNat)).toNat)) - 1) = 0 → P 0 (ax_u M 9 ((M 8 (a1.toNat)).toNat) ((M 9 ((M 8 (a1.toNat)).toNat)) - 1))) ∧ (((M 9 ((M 8 (a1.toNat)).toNat)) - 1) = 0 → kM_sit [.inr (.inr 0), .inl (M 8 (a1.toNat)), .inl a1, .inl a2] (ax_u M 9 ((M 8 (a1.toNat)).toNat) ((M 9 ((M 8 (a1.toNat)).toNat)) - 1)) (fun _ M14 => P 0 M14)))) : kM_goCell [.inr (.inr 0), .inl a1, .inl a2] M P := ax_ofJ (by decide) (Nat.le_of_ble_eq_true rfl) (gM_goCell_0 h)
-- M_beginBoard dp 0
theorem gM_beginBoard_0 {P : Int → ax_Mem → Prop} {M : ax_Mem} (h : jM_beginBoard P 2 [(0, .inr (.inr 0)), (1, .inl 0)] [] M) : jM_beginBoard P 0 [(0, .inr (.inr 0))] [] M := by
  refine ax_iconst dM_beginBoard_0 (by decide) ?_
  refine ax_istoren dM_beginBoard_1 rfl (by decide) rfl ?_
  exact ax_sub [1, 0] rfl h
theorem gM_beginBoard_2 {P : Int → ax_Mem → Prop} {M : ax_Mem} {v1 : Int} (h : (12 ≤ v1 → jM_beginBoard P 51 [(0, .inr (.inr 0)), (1, .inl 0)] [] M) ∧ (¬ 12 ≤ v1 → (0 ≤ v1 ∧ v1 < 12) ∧ jM_beginBoard P 2 [(0, .inr (.inr 0)), (1, .inl (v1 + 1))] [] (ax_u (ax_u (ax_u (ax_u (ax_u M 8 (v1.toNat) (-1)) 9 (v1.toNat) 0) 10 (v1.toNat) 0) 11 (v1.toNat) 0) 12 (v1.toNat) 0))) : jM_beginBoard P 2 [(0, .inr (.inr 0)), (1, .inl v1)] [] M := by
  refine ax_iloadn 1 dM_beginBoard_2 rfl rfl ?_
  refine ax_bipush dM_beginBoard_3 (by decide) ?_
  refine ax_icmp_ge (tgt := 49) dM_beginBoard_5 (by decide) (fun c2 => ?_) (fun c2 => ?_)
  · replace h := h.1 c2
    refine ax_iconst dM_beginBoard_49 (by decide) ?_
    refine ax_istoren dM_beginBoard_50 rfl (by decide) rfl ?_
    exact ax_sub [1, 0] rfl h
  · replace h := h.2 c2
    refine ax_aloadn 0 dM_beginBoard_8 rfl rfl ?_
    refine ax_getr dM_beginBoard_9 fM_31 sM_0 rfl ?_
    refine ax_iloadn 1 dM_beginBoard_12 rfl rfl ?_
    refine ax_iconst dM_beginBoard_13 (by decide) ?_
    obtain ⟨q1, h⟩ := h
    refine ax_iast dM_beginBoard_14 sM_8 q1.1 q1.2 ?_
    refine ax_aloadn 0 dM_beginBoard_15 rfl rfl ?_
    refine ax_getr dM_beginBoard_16 fM_34 sM_0 rfl ?_
    refine ax_iloadn 1 dM_beginBoard_19 rfl rfl ?_
    refine ax_iconst dM_beginBoard_20 (by decide) ?_
    refine ax_iast dM_beginBoard_21 sM_9 (by omega) (by omega) ?_
    refine ax_aloadn 0 dM_beginBoard_22 rfl rfl ?_
    refine ax_getr dM_beginBoard_23 fM_37 sM_0 rfl ?_
    refine ax_iloadn 1 dM_beginBoard_26 rfl rfl ?_
    refine ax_iconst dM_beginBoard_27 (by decide) ?_
    refine ax_iast dM_beginBoard_28 sM_10 (by omega) (by omega) ?_
    refine ax_aloadn 0 dM_beginBoard_29 rfl rfl ?_
    refine ax_getr dM_beginBoard_30 fM_40 sM_0 rfl ?_
    refine ax_iloadn 1 dM_beginBoard_33 rfl rfl ?_
    refine ax_iconst dM_beginBoard_34 (by decide) ?_
    refine ax_iast dM_beginBoard_35 sM_11 (by omega) (by omega) ?_
    refine ax_aloadn 0 dM_beginBoard_36 rfl rfl ?_
    refine ax_getr dM_beginBoard_37 fM_43 sM_0 rfl ?_
    refine ax_iloadn 1 dM_beginBoard_40 rfl rfl ?_
    refine ax_iconst dM_beginBoard_41 (by decide) ?_
    refine ax_iast dM_beginBoard_42 sM_12 (by omega) (by omega) ?_
    refine ax_iinc (j := 1) dM_beginBoard_43 rfl (by decide) (show ax_r _ from ⟨by omega, by omega⟩) rfl ?_
    refine ax_goto (tgt := 2) dM_beginBoard_46 (by decide) ?_
    exact ax_sub [1, 0] rfl h
theorem gM_beginBoard_51 {P : Int → ax_Mem → Prop} {M : ax_Mem} {v1 : Int} (h : (36 ≤ v1 → P 0 (ax_u (ax_u (ax_u M 0 24 0) 0 25 0) 0 26 0)) ∧ (¬ 36 ≤ v1 → (0 ≤ v1 ∧ v1 < 36) ∧ jM_beginBoard P 51 [(0, .inr (.inr 0)), (1, .inl (v1 + 1))] [] (ax_u M 13 (v1.toNat) (-1)))) : jM_beginBoard P 51 [(0, .inr (.inr 0)), (1, .inl v1)] [] M := by
  refine ax_iloadn 1 dM_beginBoard_51 rfl rfl ?_
  refine ax_bipush dM_beginBoard_52 (by decide) ?_
  refine ax_icmp_ge (tgt := 70) dM_beginBoard_54 (by decide) (fun c2 => ?_) (fun c2 => ?_)
  · replace h := h.1 c2
    refine ax_aloadn 0 dM_beginBoard_70 rfl rfl ?_
    refine ax_iconst dM_beginBoard_71 (by decide) ?_
    refine ax_puti dM_beginBoard_72 pM_184 sM_0 rfl ?_
    refine ax_aloadn 0 dM_beginBoard_75 rfl rfl ?_
    refine ax_iconst dM_beginBoard_76 (by decide) ?_
    refine ax_puti dM_beginBoard_77 pM_197 sM_0 rfl ?_
    refine ax_aloadn 0 dM_beginBoard_80 rfl rfl ?_
    refine ax_iconst dM_beginBoard_81 (by decide) ?_
    refine ax_puti dM_beginBoard_82 pM_187 sM_0 rfl ?_
    exact ax_vret dM_beginBoard_85 h
  · replace h := h.2 c2
    refine ax_aloadn 0 dM_beginBoard_57 rfl rfl ?_
    refine ax_getr dM_beginBoard_58 fM_46 sM_0 rfl ?_
    refine ax_iloadn 1 dM_beginBoard_61 rfl rfl ?_
    refine ax_iconst dM_beginBoard_62 (by decide) ?_
    obtain ⟨q1, h⟩ := h
    refine ax_iast dM_beginBoard_63 sM_13 q1.1 q1.2 ?_
    refine ax_iinc (j := 1) dM_beginBoard_64 rfl (by decide) (show ax_r _ from ⟨by omega, by omega⟩) rfl ?_
    refine ax_goto (tgt := 51) dM_beginBoard_67 (by decide) ?_
    exact ax_sub [1, 0] rfl h
theorem eM_beginBoard {P : Int → ax_Mem → Prop} {M : ax_Mem} (h : jM_beginBoard P 2 [(0, .inr (.inr 0)), (1, .inl 0)] [] M) : kM_beginBoard [.inr (.inr 0)] M P := ax_ofJ (by decide) (Nat.le_of_ble_eq_true rfl) (gM_beginBoard_0 h)
-- M_goSecond dp 3
theorem gM_goSecond_0 {P : Int → ax_Mem → Prop} {M : ax_Mem} {a1 : Int} (h : (-2147483648 ≤ ((M 0 13) - 1) ∧ ((M 0 13) - 1) < 2147483648) ∧ jM_goSecond P 7 [(0, .inr (.inr 0)), (1, .inl a1), (2, .inl ((M 0 13) - 1))] [] M) : jM_goSecond P 0 [(0, .inr (.inr 0)), (1, .inl a1)] [] M := by
  refine ax_aloadn 0 dM_goSecond_0 rfl rfl ?_
  refine ax_geti dM_goSecond_1 fM_139 sM_0 rfl ?_
  refine ax_iconst dM_goSecond_4 (by decide) ?_
  obtain ⟨q1, h⟩ := h
  refine ax_isub dM_goSecond_5 q1 ?_
  refine ax_istoren dM_goSecond_6 rfl (by decide) rfl ?_
  exact ax_sub [1, 2, 0] rfl h
theorem gM_goSecond_7 {P : Int → ax_Mem → Prop} {M : ax_Mem} {v1 v2 : Int} (h : (v2 < 0 → ((M 0 17) ≤ (M 0 25) → P 0 M) ∧ (¬ (M 0 17) ≤ (M 0 25) → (¬ (M 8 0) = (-1) → P 0 M) ∧ ((M 8 0) = (-1) → (0 ≤ (M 0 25) ∧ (M 0 25) < 12) ∧ P 0 (ax_u (ax_u M 8 0 (M 7 ((M 0 25).toNat))) 0 25 ((M 0 25) + 1))))) ∧ (¬ v2 < 0 → (0 ≤ v2 ∧ v2 < 12) ∧ ((M 8 (v2.toNat)) = (-1) → jM_goSecond P 7 [(0, .inr (.inr 0)), (1, .inl v1), (2, .inl (v2 + (-1)))] [] M) ∧ (¬ (M 8 (v2.toNat)) = (-1) → kM_goCell [.inr (.inr 0), .inl v2, .inl v1] M (fun _ M6 => jM_goSecond P 7 [(0, .inr (.inr 0)), (1, .inl v1), (2, .inl (v2 + (-1)))] [] M6)))) : jM_goSecond P 7 [(0, .inr (.inr 0)), (1, .inl v1), (2, .inl v2)] [] M := by
  refine ax_iloadn 2 dM_goSecond_7 rfl rfl ?_
  refine ax_if_lt (tgt := 33) dM_goSecond_8 (by decide) (fun c8 => ?_) (fun c8 => ?_)
  · replace h := h.1 c8
    refine ax_aloadn 0 dM_goSecond_33 rfl rfl ?_
    refine ax_geti dM_goSecond_34 fM_197 sM_0 rfl ?_
    refine ax_aloadn 0 dM_goSecond_37 rfl rfl ?_
    refine ax_geti dM_goSecond_38 fM_156 sM_0 rfl ?_
    refine ax_icmp_ge (tgt := 79) dM_goSecond_41 (by decide) (fun c3 => ?_) (fun c3 => ?_)
    · replace h := h.1 c3
      exact ax_vret dM_goSecond_79 h
    · replace h := h.2 c3
      refine ax_aloadn 0 dM_goSecond_44 rfl rfl ?_
      refine ax_getr dM_goSecond_45 fM_31 sM_0 rfl ?_
      refine ax_iconst dM_goSecond_48 (by decide) ?_
      refine ax_iald dM_goSecond_49 sM_8 (by decide) (by decide) ?_
      refine ax_iconst dM_goSecond_50 (by decide) ?_
      refine ax_icmp_ne (tgt := 79) dM_goSecond_51 (by decide) (fun c2 => ?_) (fun c2 => ?_)
      · replace h := h.1 c2
        exact ax_vret dM_goSecond_79 h
      · replace h := h.2 c2
        refine ax_aloadn 0 dM_goSecond_54 rfl rfl ?_
        refine ax_getr dM_goSecond_55 fM_31 sM_0 rfl ?_
        refine ax_iconst dM_goSecond_58 (by decide) ?_
        refine ax_aloadn 0 dM_goSecond_59 rfl rfl ?_
        refine ax_getr dM_goSecond_60 fM_28 sM_0 rfl ?_
        refine ax_aloadn 0 dM_goSecond_63 rfl rfl ?_
        refine ax_geti dM_goSecond_64 fM_197 sM_0 rfl ?_
        obtain ⟨q1, h⟩ := h
        refine ax_iald dM_goSecond_67 sM_7 q1.1 q1.2 ?_
        refine ax_iast dM_goSecond_68 sM_8 (by decide) (by decide) ?_
        refine ax_aloadn 0 dM_goSecond_69 rfl rfl ?_
        refine ax_dup dM_goSecond_70 rfl ?_
        refine ax_geti dM_goSecond_71 fM_197 sM_0 rfl ?_
        refine ax_top (x' := M 0 25) (by first | rfl | exact ax_u_at _ _ _ _) ?_
        refine ax_iconst dM_goSecond_74 (by decide) ?_
        refine ax_iadd dM_goSecond_75 (show ax_r _ from ⟨by omega, by omega⟩) ?_
        refine ax_puti dM_goSecond_76 pM_197 sM_0 rfl ?_
        exact ax_vret dM_goSecond_79 h
  · replace h := h.2 c8
    refine ax_aloadn 0 dM_goSecond_11 rfl rfl ?_
    refine ax_getr dM_goSecond_12 fM_31 sM_0 rfl ?_
    refine ax_iloadn 2 dM_goSecond_15 rfl rfl ?_
    obtain ⟨q4, h⟩ := h
    refine ax_iald dM_goSecond_16 sM_8 q4.1 q4.2 ?_
    refine ax_iconst dM_goSecond_17 (by decide) ?_
    refine ax_icmp_eq (tgt := 27) dM_goSecond_18 (by decide) (fun c7 => ?_) (fun c7 => ?_)
    · replace h := h.1 c7
      refine ax_iinc (j := 2) dM_goSecond_27 rfl (by decide) (show ax_r _ from ⟨by omega, by omega⟩) rfl ?_
      refine ax_goto (tgt := 7) dM_goSecond_30 (by decide) ?_
      exact ax_sub [1, 2, 0] rfl h
    · replace h := h.2 c7
      refine ax_aloadn 0 dM_goSecond_21 rfl rfl ?_
      refine ax_iloadn 2 dM_goSecond_22 rfl rfl ?_
      refine ax_iloadn 1 dM_goSecond_23 rfl rfl ?_
      refine ax_callV (dp2 := 2) (as := [.inl v2, .inl v1]) (st := []) dM_goSecond_24 lM_200 sM_0 ⟨_, _, rfl⟩ rfl rfl (Nat.le_of_ble_eq_true rfl) (by decide) ?_
      refine ax_C_mono (fun _ M6 h => ?_) h
      refine ax_iinc (j := 2) dM_goSecond_27 rfl (by decide) (show ax_r _ from ⟨by omega, by omega⟩) rfl ?_
      refine ax_goto (tgt := 7) dM_goSecond_30 (by decide) ?_
      exact ax_sub [1, 2, 0] rfl h
theorem eM_goSecond {P : Int → ax_Mem → Prop} {M : ax_Mem} {a1 : Int} (h : (-2147483648 ≤ ((M 0 13) - 1) ∧ ((M 0 13) - 1) < 2147483648) ∧ jM_goSecond P 7 [(0, .inr (.inr 0)), (1, .inl a1), (2, .inl ((M 0 13) - 1))] [] M) : kM_goSecond [.inr (.inr 0), .inl a1] M P := ax_ofJ (by decide) (Nat.le_of_ble_eq_true rfl) (gM_goSecond_0 h)
-- M_boardAll dp 4
theorem gM_boardAll_0 {P : Int → ax_Mem → Prop} {M : ax_Mem} (h : kM_beginBoard [.inr (.inr 0)] M (fun _ M2 => jM_boardAll P 6 [(0, .inr (.inr 0)), (1, .inl 0)] [] M2)) : jM_boardAll P 0 [(0, .inr (.inr 0))] [] M := by
  refine ax_aloadn 0 dM_boardAll_0 rfl rfl ?_
  refine ax_callV (dp2 := 0) (as := []) (st := []) dM_boardAll_1 lM_203 sM_0 ⟨_, _, rfl⟩ rfl rfl (Nat.le_of_ble_eq_true rfl) (by decide) ?_
  refine ax_C_mono (fun _ M2 h => ?_) h
  refine ax_iconst dM_boardAll_4 (by decide) ?_
  refine ax_istoren dM_boardAll_5 rfl (by decide) rfl ?_
  exact ax_sub [1, 0] rfl h
theorem gM_boardAll_6 {P : Int → ax_Mem → Prop} {M : ax_Mem} {v1 : Int} (h : ((M 0 17) ≤ (M 0 26) → P v1 M) ∧ (¬ (M 0 17) ≤ (M 0 26) → (-2147483648 ≤ (v1 + 1) ∧ (v1 + 1) < 2147483648) ∧ kM_goSecond [.inr (.inr 0), .inl (v1 + 1)] M (fun _ M3 => jM_boardAll P 6 [(0, .inr (.inr 0)), (1, .inl (v1 + 1))] [] M3))) : jM_boardAll P 6 [(0, .inr (.inr 0)), (1, .inl v1)] [] M := by
  refine ax_aloadn 0 dM_boardAll_6 rfl rfl ?_
  refine ax_geti dM_boardAll_7 fM_187 sM_0 rfl ?_
  refine ax_aloadn 0 dM_boardAll_10 rfl rfl ?_
  refine ax_geti dM_boardAll_11 fM_156 sM_0 rfl ?_
  refine ax_icmp_ge (tgt := 28) dM_boardAll_14 (by decide) (fun c4 => ?_) (fun c4 => ?_)
  · replace h := h.1 c4
    refine ax_iloadn 1 dM_boardAll_28 rfl rfl ?_
    exact ax_iret dM_boardAll_29 h
  · replace h := h.2 c4
    obtain ⟨q1, h⟩ := h
    refine ax_iinc (j := 1) dM_boardAll_17 rfl (by decide) q1 rfl ?_
    refine ax_aloadn 1 dM_boardAll_20 rfl rfl ?_
    refine ax_iloadn 0 dM_boardAll_21 rfl rfl ?_
    refine ax_callV (dp2 := 3) (as := [.inl (v1 + 1)]) (st := []) dM_boardAll_22 lM_206 sM_0 ⟨_, _, rfl⟩ rfl rfl (Nat.le_of_ble_eq_true rfl) (by decide) ?_
    refine ax_C_mono (fun _ M3 h => ?_) h
    refine ax_goto (tgt := 6) dM_boardAll_25 (by decide) ?_
    exact ax_sub [1, 0] rfl h
theorem eM_boardAll {P : Int → ax_Mem → Prop} {M : ax_Mem} (h : kM_beginBoard [.inr (.inr 0)] M (fun _ M2 => jM_boardAll P 6 [(0, .inr (.inr 0)), (1, .inl 0)] [] M2)) : kM_boardAll [.inr (.inr 0)] M P := ax_ofJ (by decide) (Nat.le_of_ble_eq_true rfl) (gM_boardAll_0 h)
