-- by program gen2.py: one theorem a segment
-- G_dueBehindKey dp 0
theorem gG_dueBehindKey_0 {P : Int → ax_Mem → Prop} {M : ax_Mem} {a1 : Int} (h : ((a1 = 98 ∨ a1 = 102) → P 1 M) ∧ ((a1 = 97 ∨ a1 = 103 ∨ a1 = 111 ∨ a1 = 115 ∨ a1 = 119) → P 2 M) ∧ ((¬ a1 = 97 ∧ ¬ a1 = 98 ∧ ¬ a1 = 102 ∧ ¬ a1 = 103 ∧ ¬ a1 = 111 ∧ ¬ a1 = 115 ∧ ¬ a1 = 119) → P 3 M)) : jG_dueBehindKey P 0 [(0, .inl a1)] [] M := by
  refine ax_iloadn 0 dG_dueBehindKey_0 rfl rfl ?_
  obtain ⟨c1_0, c1_1, c1_2⟩ := h
  by_cases c1d : ¬ a1 = 97 ∧ ¬ a1 = 98 ∧ ¬ a1 = 102 ∧ ¬ a1 = 103 ∧ ¬ a1 = 111 ∧ ¬ a1 = 115 ∧ ¬ a1 = 119
  · replace h := c1_2 c1d
    rcases (show (a1 < 97 ∨ 119 < a1) ∨ a1 = 99 ∨ a1 = 100 ∨ a1 = 101 ∨ a1 = 104 ∨ a1 = 105 ∨ a1 = 106 ∨ a1 = 107 ∨ a1 = 108 ∨ a1 = 109 ∨ a1 = 110 ∨ a1 = 112 ∨ a1 = 113 ∨ a1 = 114 ∨ a1 = 116 ∨ a1 = 117 ∨ a1 = 118 by omega) with c1e | c1e | c1e | c1e | c1e | c1e | c1e | c1e | c1e | c1e | c1e | c1e | c1e | c1e | c1e | c1e | c1e
    · refine ax_tabOut (tgt := 112) dG_dueBehindKey_1 c1e (by decide) ?_
      refine ax_iconst dG_dueBehindKey_112 (by decide) ?_
      exact ax_iret dG_dueBehindKey_113 h
    · refine ax_tabIn (tgt := 112) (off := 111) dG_dueBehindKey_1 (by omega) (by omega) (by rw [c1e]; decide) (by decide) ?_
      refine ax_iconst dG_dueBehindKey_112 (by decide) ?_
      exact ax_iret dG_dueBehindKey_113 h
    · refine ax_tabIn (tgt := 112) (off := 111) dG_dueBehindKey_1 (by omega) (by omega) (by rw [c1e]; decide) (by decide) ?_
      refine ax_iconst dG_dueBehindKey_112 (by decide) ?_
      exact ax_iret dG_dueBehindKey_113 h
    · refine ax_tabIn (tgt := 112) (off := 111) dG_dueBehindKey_1 (by omega) (by omega) (by rw [c1e]; decide) (by decide) ?_
      refine ax_iconst dG_dueBehindKey_112 (by decide) ?_
      exact ax_iret dG_dueBehindKey_113 h
    · refine ax_tabIn (tgt := 112) (off := 111) dG_dueBehindKey_1 (by omega) (by omega) (by rw [c1e]; decide) (by decide) ?_
      refine ax_iconst dG_dueBehindKey_112 (by decide) ?_
      exact ax_iret dG_dueBehindKey_113 h
    · refine ax_tabIn (tgt := 112) (off := 111) dG_dueBehindKey_1 (by omega) (by omega) (by rw [c1e]; decide) (by decide) ?_
      refine ax_iconst dG_dueBehindKey_112 (by decide) ?_
      exact ax_iret dG_dueBehindKey_113 h
    · refine ax_tabIn (tgt := 112) (off := 111) dG_dueBehindKey_1 (by omega) (by omega) (by rw [c1e]; decide) (by decide) ?_
      refine ax_iconst dG_dueBehindKey_112 (by decide) ?_
      exact ax_iret dG_dueBehindKey_113 h
    · refine ax_tabIn (tgt := 112) (off := 111) dG_dueBehindKey_1 (by omega) (by omega) (by rw [c1e]; decide) (by decide) ?_
      refine ax_iconst dG_dueBehindKey_112 (by decide) ?_
      exact ax_iret dG_dueBehindKey_113 h
    · refine ax_tabIn (tgt := 112) (off := 111) dG_dueBehindKey_1 (by omega) (by omega) (by rw [c1e]; decide) (by decide) ?_
      refine ax_iconst dG_dueBehindKey_112 (by decide) ?_
      exact ax_iret dG_dueBehindKey_113 h
    · refine ax_tabIn (tgt := 112) (off := 111) dG_dueBehindKey_1 (by omega) (by omega) (by rw [c1e]; decide) (by decide) ?_
      refine ax_iconst dG_dueBehindKey_112 (by decide) ?_
      exact ax_iret dG_dueBehindKey_113 h
    · refine ax_tabIn (tgt := 112) (off := 111) dG_dueBehindKey_1 (by omega) (by omega) (by rw [c1e]; decide) (by decide) ?_
      refine ax_iconst dG_dueBehindKey_112 (by decide) ?_
      exact ax_iret dG_dueBehindKey_113 h
    · refine ax_tabIn (tgt := 112) (off := 111) dG_dueBehindKey_1 (by omega) (by omega) (by rw [c1e]; decide) (by decide) ?_
      refine ax_iconst dG_dueBehindKey_112 (by decide) ?_
      exact ax_iret dG_dueBehindKey_113 h
    · refine ax_tabIn (tgt := 112) (off := 111) dG_dueBehindKey_1 (by omega) (by omega) (by rw [c1e]; decide) (by decide) ?_
      refine ax_iconst dG_dueBehindKey_112 (by decide) ?_
      exact ax_iret dG_dueBehindKey_113 h
    · refine ax_tabIn (tgt := 112) (off := 111) dG_dueBehindKey_1 (by omega) (by omega) (by rw [c1e]; decide) (by decide) ?_
      refine ax_iconst dG_dueBehindKey_112 (by decide) ?_
      exact ax_iret dG_dueBehindKey_113 h
    · refine ax_tabIn (tgt := 112) (off := 111) dG_dueBehindKey_1 (by omega) (by omega) (by rw [c1e]; decide) (by decide) ?_
      refine ax_iconst dG_dueBehindKey_112 (by decide) ?_
      exact ax_iret dG_dueBehindKey_113 h
    · refine ax_tabIn (tgt := 112) (off := 111) dG_dueBehindKey_1 (by omega) (by omega) (by rw [c1e]; decide) (by decide) ?_
      refine ax_iconst dG_dueBehindKey_112 (by decide) ?_
      exact ax_iret dG_dueBehindKey_113 h
    · refine ax_tabIn (tgt := 112) (off := 111) dG_dueBehindKey_1 (by omega) (by omega) (by rw [c1e]; decide) (by decide) ?_
      refine ax_iconst dG_dueBehindKey_112 (by decide) ?_
      exact ax_iret dG_dueBehindKey_113 h
  · rcases (show a1 = 97 ∨ a1 = 98 ∨ a1 = 102 ∨ a1 = 103 ∨ a1 = 111 ∨ a1 = 115 ∨ a1 = 119 by omega) with c1e | c1e | c1e | c1e | c1e | c1e | c1e
    · replace h := c1_1 (by omega)
      refine ax_tabIn (tgt := 110) (off := 109) dG_dueBehindKey_1 (by omega) (by omega) (by rw [c1e]; decide) (by decide) ?_
      refine ax_iconst dG_dueBehindKey_110 (by decide) ?_
      exact ax_iret dG_dueBehindKey_111 h
    · replace h := c1_0 (by omega)
      refine ax_tabIn (tgt := 108) (off := 107) dG_dueBehindKey_1 (by omega) (by omega) (by rw [c1e]; decide) (by decide) ?_
      refine ax_iconst dG_dueBehindKey_108 (by decide) ?_
      exact ax_iret dG_dueBehindKey_109 h
    · replace h := c1_0 (by omega)
      refine ax_tabIn (tgt := 108) (off := 107) dG_dueBehindKey_1 (by omega) (by omega) (by rw [c1e]; decide) (by decide) ?_
      refine ax_iconst dG_dueBehindKey_108 (by decide) ?_
      exact ax_iret dG_dueBehindKey_109 h
    · replace h := c1_1 (by omega)
      refine ax_tabIn (tgt := 110) (off := 109) dG_dueBehindKey_1 (by omega) (by omega) (by rw [c1e]; decide) (by decide) ?_
      refine ax_iconst dG_dueBehindKey_110 (by decide) ?_
      exact ax_iret dG_dueBehindKey_111 h
    · replace h := c1_1 (by omega)
      refine ax_tabIn (tgt := 110) (off := 109) dG_dueBehindKey_1 (by omega) (by omega) (by rw [c1e]; decide) (by decide) ?_
      refine ax_iconst dG_dueBehindKey_110 (by decide) ?_
      exact ax_iret dG_dueBehindKey_111 h
    · replace h := c1_1 (by omega)
      refine ax_tabIn (tgt := 110) (off := 109) dG_dueBehindKey_1 (by omega) (by omega) (by rw [c1e]; decide) (by decide) ?_
      refine ax_iconst dG_dueBehindKey_110 (by decide) ?_
      exact ax_iret dG_dueBehindKey_111 h
    · replace h := c1_1 (by omega)
      refine ax_tabIn (tgt := 110) (off := 109) dG_dueBehindKey_1 (by omega) (by omega) (by rw [c1e]; decide) (by decide) ?_
      refine ax_iconst dG_dueBehindKey_110 (by decide) ?_
      exact ax_iret dG_dueBehindKey_111 h
theorem eG_dueBehindKey {P : Int → ax_Mem → Prop} {M : ax_Mem} {a1 : Int} (h : ((a1 = 98 ∨ a1 = 102) → P 1 M) ∧ ((a1 = 97 ∨ a1 = 103 ∨ a1 = 111 ∨ a1 = 115 ∨ a1 = 119) → P 2 M) ∧ ((¬ a1 = 97 ∧ ¬ a1 = 98 ∧ ¬ a1 = 102 ∧ ¬ a1 = 103 ∧ ¬ a1 = 111 ∧ ¬ a1 = 115 ∧ ¬ a1 = 119) → P 3 M)) : kG_dueBehindKey [.inl a1] M P := ax_ofJ (by decide) (Nat.le_of_ble_eq_true rfl) (gG_dueBehindKey_0 h)
-- G_dueBehind dp 1
theorem gG_dueBehind_0 {P : Int → ax_Mem → Prop} {M : ax_Mem} {a1 a2 : Int} (h : (¬ (M 13 2) = 0 → (¬ (M 13 2) = 1 → (¬ a1 = 44 → P 3 M) ∧ (a1 = 44 → (4 ≤ a2 → P 3 M) ∧ (¬ 4 ≤ a2 → P 0 M))) ∧ ((M 13 2) = 1 → (a1 < 49 → P 3 M) ∧ (¬ a1 < 49 → (57 < a1 → P 3 M) ∧ (¬ 57 < a1 → P 2 M)))) ∧ ((M 13 2) = 0 → kG_dueBehindKey [.inl a1] M (fun r6 M7 => P r6 M7))) : jG_dueBehind P 0 [(0, .inr (.inr 13)), (1, .inl a1), (2, .inl a2)] [] M := by
  refine ax_aloadn 0 dG_dueBehind_0 rfl rfl ?_
  refine ax_geti dG_dueBehind_1 fG_25 sX_13 rfl ?_
  refine ax_if_ne (tgt := 12) dG_dueBehind_4 (by decide) (fun c8 => ?_) (fun c8 => ?_)
  · replace h := h.1 c8
    refine ax_aloadn 0 dG_dueBehind_12 rfl rfl ?_
    refine ax_geti dG_dueBehind_13 fG_25 sX_13 rfl ?_
    refine ax_iconst dG_dueBehind_16 (by decide) ?_
    refine ax_icmp_ne (tgt := 38) dG_dueBehind_17 (by decide) (fun c5 => ?_) (fun c5 => ?_)
    · replace h := h.1 c5
      refine ax_iloadn 1 dG_dueBehind_38 rfl rfl ?_
      refine ax_bipush dG_dueBehind_39 (by decide) ?_
      refine ax_icmp_ne (tgt := 53) dG_dueBehind_41 (by decide) (fun c2 => ?_) (fun c2 => ?_)
      · replace h := h.1 c2
        refine ax_iconst dG_dueBehind_53 (by decide) ?_
        exact ax_iret dG_dueBehind_54 h
      · replace h := h.2 c2
        refine ax_iloadn 2 dG_dueBehind_44 rfl rfl ?_
        refine ax_iconst dG_dueBehind_45 (by decide) ?_
        refine ax_icmp_ge (tgt := 53) dG_dueBehind_46 (by decide) (fun c1 => ?_) (fun c1 => ?_)
        · replace h := h.1 c1
          refine ax_iconst dG_dueBehind_53 (by decide) ?_
          exact ax_iret dG_dueBehind_54 h
        · replace h := h.2 c1
          refine ax_iconst dG_dueBehind_49 (by decide) ?_
          refine ax_goto (tgt := 54) dG_dueBehind_50 (by decide) ?_
          exact ax_iret dG_dueBehind_54 h
    · replace h := h.2 c5
      refine ax_iloadn 1 dG_dueBehind_20 rfl rfl ?_
      refine ax_bipush dG_dueBehind_21 (by decide) ?_
      refine ax_icmp_lt (tgt := 36) dG_dueBehind_23 (by decide) (fun c4 => ?_) (fun c4 => ?_)
      · replace h := h.1 c4
        refine ax_iconst dG_dueBehind_36 (by decide) ?_
        exact ax_iret dG_dueBehind_37 h
      · replace h := h.2 c4
        refine ax_iloadn 1 dG_dueBehind_26 rfl rfl ?_
        refine ax_bipush dG_dueBehind_27 (by decide) ?_
        refine ax_icmp_gt (tgt := 36) dG_dueBehind_29 (by decide) (fun c3 => ?_) (fun c3 => ?_)
        · replace h := h.1 c3
          refine ax_iconst dG_dueBehind_36 (by decide) ?_
          exact ax_iret dG_dueBehind_37 h
        · replace h := h.2 c3
          refine ax_iconst dG_dueBehind_32 (by decide) ?_
          refine ax_goto (tgt := 37) dG_dueBehind_33 (by decide) ?_
          exact ax_iret dG_dueBehind_37 h
  · replace h := h.2 c8
    refine ax_iloadn 1 dG_dueBehind_7 rfl rfl ?_
    refine ax_callS (dp2 := 0) (as := [.inl a1]) (st := []) dG_dueBehind_8 lG_36 rfl rfl (Nat.le_of_ble_eq_true rfl) (by decide) ?_
    refine ax_C_mono (fun r6 M7 h => ?_) h
    exact ax_iret dG_dueBehind_11 h
theorem eG_dueBehind {P : Int → ax_Mem → Prop} {M : ax_Mem} {a1 a2 : Int} (h : (¬ (M 13 2) = 0 → (¬ (M 13 2) = 1 → (¬ a1 = 44 → P 3 M) ∧ (a1 = 44 → (4 ≤ a2 → P 3 M) ∧ (¬ 4 ≤ a2 → P 0 M))) ∧ ((M 13 2) = 1 → (a1 < 49 → P 3 M) ∧ (¬ a1 < 49 → (57 < a1 → P 3 M) ∧ (¬ 57 < a1 → P 2 M)))) ∧ ((M 13 2) = 0 → kG_dueBehindKey [.inl a1] M (fun r6 M7 => P r6 M7))) : kG_dueBehind [.inr (.inr 13), .inl a1, .inl a2] M P := ax_ofJ (by decide) (Nat.le_of_ble_eq_true rfl) (gG_dueBehind_0 h)
-- G_firstFault dp 2
theorem gG_firstFault_0 {P : Int → ax_Mem → Prop} {M : ax_Mem} (h : jG_firstFault P 9 [(0, .inr (.inr 13)), (1, .inl 0), (2, .inl 0)] [] (ax_u M 13 2 0)) : jG_firstFault P 0 [(0, .inr (.inr 13))] [] M := by
  refine ax_aloadn 0 dG_firstFault_0 rfl rfl ?_
  refine ax_iconst dG_firstFault_1 (by decide) ?_
  refine ax_puti dG_firstFault_2 pG_25 sX_13 rfl ?_
  refine ax_iconst dG_firstFault_5 (by decide) ?_
  refine ax_istoren dG_firstFault_6 rfl (by decide) rfl ?_
  refine ax_iconst dG_firstFault_7 (by decide) ?_
  refine ax_istoren dG_firstFault_8 rfl (by decide) rfl ?_
  exact ax_sub [2, 1, 0] rfl h
theorem gG_firstFault_9 {P : Int → ax_Mem → Prop} {M : ax_Mem} {v1 v2 : Int} (h : ((M 13 1) ≤ v2 → P (M 13 1) M) ∧ (¬ (M 13 1) ≤ v2 → (¬ (M 13 2) = 0 → (0 ≤ v2 ∧ v2 < 16) ∧ kG_dueBehind [.inr (.inr 13), .inl (M 14 (v2.toNat)), .inl v1] M (fun r2 M3 => (¬ r2 = 3 → jG_firstFault P 9 [(0, .inr (.inr 13)), (1, .inl v1), (2, .inl (v2 + 1))] [] (ax_u M3 13 2 r2)) ∧ (r2 = 3 → P v2 (ax_u M3 13 2 r2)))) ∧ ((M 13 2) = 0 → (-2147483648 ≤ (v1 + 1) ∧ (v1 + 1) < 2147483648) ∧ (0 ≤ v2 ∧ v2 < 16) ∧ kG_dueBehind [.inr (.inr 13), .inl (M 14 (v2.toNat)), .inl (v1 + 1)] M (fun r7 M8 => (¬ r7 = 3 → jG_firstFault P 9 [(0, .inr (.inr 13)), (1, .inl (v1 + 1)), (2, .inl (v2 + 1))] [] (ax_u M8 13 2 r7)) ∧ (r7 = 3 → P v2 (ax_u M8 13 2 r7)))))) : jG_firstFault P 9 [(0, .inr (.inr 13)), (1, .inl v1), (2, .inl v2)] [] M := by
  refine ax_iloadn 2 dG_firstFault_9 rfl rfl ?_
  refine ax_aloadn 0 dG_firstFault_10 rfl rfl ?_
  refine ax_geti dG_firstFault_11 fG_21 sX_13 rfl ?_
  refine ax_icmp_ge (tgt := 58) dG_firstFault_14 (by decide) (fun c11 => ?_) (fun c11 => ?_)
  · replace h := h.1 c11
    refine ax_aloadn 0 dG_firstFault_58 rfl rfl ?_
    refine ax_geti dG_firstFault_59 fG_21 sX_13 rfl ?_
    exact ax_iret dG_firstFault_62 h
  · replace h := h.2 c11
    refine ax_aloadn 0 dG_firstFault_17 rfl rfl ?_
    refine ax_geti dG_firstFault_18 fG_25 sX_13 rfl ?_
    refine ax_if_ne (tgt := 27) dG_firstFault_21 (by decide) (fun c10 => ?_) (fun c10 => ?_)
    · replace h := h.1 c10
      refine ax_aloadn 0 dG_firstFault_27 rfl rfl ?_
      refine ax_aloadn 0 dG_firstFault_28 rfl rfl ?_
      refine ax_aloadn 0 dG_firstFault_29 rfl rfl ?_
      refine ax_getr dG_firstFault_30 fG_9 sX_13 rfl ?_
      refine ax_iloadn 2 dG_firstFault_33 rfl rfl ?_
      obtain ⟨q1, h⟩ := h
      refine ax_cald dG_firstFault_34 sX_14 q1.1 q1.2 ?_
      refine ax_iloadn 1 dG_firstFault_35 rfl rfl ?_
      refine ax_callV (dp2 := 1) (as := [.inl (M 14 (v2.toNat)), .inl v1]) (st := [.inr (.inr 13)]) dG_firstFault_36 lG_28 sX_13 ⟨_, _, rfl⟩ rfl rfl (Nat.le_of_ble_eq_true rfl) (by decide) ?_
      refine ax_C_mono (fun r2 M3 h => ?_) h
      refine ax_puti dG_firstFault_39 pG_25 sX_13 rfl ?_
      refine ax_aloadn 0 dG_firstFault_42 rfl rfl ?_
      refine ax_geti dG_firstFault_43 fG_25 sX_13 rfl ?_
      refine ax_top (x' := r2) (by first | rfl | exact ax_u_at _ _ _ _) ?_
      refine ax_iconst dG_firstFault_46 (by decide) ?_
      refine ax_icmp_ne (tgt := 52) dG_firstFault_47 (by decide) (fun c4 => ?_) (fun c4 => ?_)
      · replace h := h.1 c4
        refine ax_iinc (j := 2) dG_firstFault_52 rfl (by decide) (show ax_r _ from ⟨by omega, by omega⟩) rfl ?_
        refine ax_goto (tgt := 9) dG_firstFault_55 (by decide) ?_
        exact ax_sub [1, 2, 0] rfl h
      · replace h := h.2 c4
        refine ax_iloadn 2 dG_firstFault_50 rfl rfl ?_
        exact ax_iret dG_firstFault_51 h
    · replace h := h.2 c10
      obtain ⟨q5, h⟩ := h
      refine ax_iinc (j := 1) dG_firstFault_24 rfl (by decide) q5 rfl ?_
      refine ax_aloadn 1 dG_firstFault_27 rfl rfl ?_
      refine ax_aloadn 1 dG_firstFault_28 rfl rfl ?_
      refine ax_aloadn 1 dG_firstFault_29 rfl rfl ?_
      refine ax_getr dG_firstFault_30 fG_9 sX_13 rfl ?_
      refine ax_iloadn 2 dG_firstFault_33 rfl rfl ?_
      obtain ⟨q6, h⟩ := h
      refine ax_cald dG_firstFault_34 sX_14 q6.1 q6.2 ?_
      refine ax_iloadn 0 dG_firstFault_35 rfl rfl ?_
      refine ax_callV (dp2 := 1) (as := [.inl (M 14 (v2.toNat)), .inl (v1 + 1)]) (st := [.inr (.inr 13)]) dG_firstFault_36 lG_28 sX_13 ⟨_, _, rfl⟩ rfl rfl (Nat.le_of_ble_eq_true rfl) (by decide) ?_
      refine ax_C_mono (fun r7 M8 h => ?_) h
      refine ax_puti dG_firstFault_39 pG_25 sX_13 rfl ?_
      refine ax_aloadn 1 dG_firstFault_42 rfl rfl ?_
      refine ax_geti dG_firstFault_43 fG_25 sX_13 rfl ?_
      refine ax_top (x' := r7) (by first | rfl | exact ax_u_at _ _ _ _) ?_
      refine ax_iconst dG_firstFault_46 (by decide) ?_
      refine ax_icmp_ne (tgt := 52) dG_firstFault_47 (by decide) (fun c9 => ?_) (fun c9 => ?_)
      · replace h := h.1 c9
        refine ax_iinc (j := 2) dG_firstFault_52 rfl (by decide) (show ax_r _ from ⟨by omega, by omega⟩) rfl ?_
        refine ax_goto (tgt := 9) dG_firstFault_55 (by decide) ?_
        exact ax_sub [2, 1, 0] rfl h
      · replace h := h.2 c9
        refine ax_iloadn 2 dG_firstFault_50 rfl rfl ?_
        exact ax_iret dG_firstFault_51 h
theorem eG_firstFault {P : Int → ax_Mem → Prop} {M : ax_Mem} (h : jG_firstFault P 9 [(0, .inr (.inr 13)), (1, .inl 0), (2, .inl 0)] [] (ax_u M 13 2 0)) : kG_firstFault [.inr (.inr 13)] M P := ax_ofJ (by decide) (Nat.le_of_ble_eq_true rfl) (gG_firstFault_0 h)
-- G_isCall dp 3
theorem gG_isCall_0 {P : Int → ax_Mem → Prop} {M : ax_Mem} (h : kG_firstFault [.inr (.inr 13)] M (fun r1 M2 => (¬ r1 = (M2 13 1) → P 0 M2) ∧ (r1 = (M2 13 1) → (¬ (M2 13 2) = 2 → P 0 M2) ∧ ((M2 13 2) = 2 → P 1 M2)))) : jG_isCall P 0 [(0, .inr (.inr 13))] [] M := by
  refine ax_aloadn 0 dG_isCall_0 rfl rfl ?_
  refine ax_callV (dp2 := 2) (as := []) (st := []) dG_isCall_1 lG_32 sX_13 ⟨_, _, rfl⟩ rfl rfl (Nat.le_of_ble_eq_true rfl) (by decide) ?_
  refine ax_C_mono (fun r1 M2 h => ?_) h
  refine ax_aloadn 0 dG_isCall_4 rfl rfl ?_
  refine ax_geti dG_isCall_5 fG_21 sX_13 rfl ?_
  refine ax_icmp_ne (tgt := 23) dG_isCall_8 (by decide) (fun c4 => ?_) (fun c4 => ?_)
  · replace h := h.1 c4
    refine ax_iconst dG_isCall_23 (by decide) ?_
    exact ax_zret dG_isCall_24 (by decide) h
  · replace h := h.2 c4
    refine ax_aloadn 0 dG_isCall_11 rfl rfl ?_
    refine ax_geti dG_isCall_12 fG_25 sX_13 rfl ?_
    refine ax_iconst dG_isCall_15 (by decide) ?_
    refine ax_icmp_ne (tgt := 23) dG_isCall_16 (by decide) (fun c3 => ?_) (fun c3 => ?_)
    · replace h := h.1 c3
      refine ax_iconst dG_isCall_23 (by decide) ?_
      exact ax_zret dG_isCall_24 (by decide) h
    · replace h := h.2 c3
      refine ax_iconst dG_isCall_19 (by decide) ?_
      refine ax_goto (tgt := 24) dG_isCall_20 (by decide) ?_
      exact ax_zret dG_isCall_24 (by decide) h
theorem eG_isCall {P : Int → ax_Mem → Prop} {M : ax_Mem} (h : kG_firstFault [.inr (.inr 13)] M (fun r1 M2 => (¬ r1 = (M2 13 1) → P 0 M2) ∧ (r1 = (M2 13 1) → (¬ (M2 13 2) = 2 → P 0 M2) ∧ ((M2 13 2) = 2 → P 1 M2)))) : kG_isCall [.inr (.inr 13)] M P := ax_ofJ (by decide) (Nat.le_of_ble_eq_true rfl) (gG_isCall_0 h)
-- E_has dp 0
theorem gE_has_0 {P : Int → ax_Mem → Prop} {M : ax_Mem} {a1 : Int} (h : (a1 < 0 → P 0 M) ∧ (¬ a1 < 0 → ((M 2 7) ≤ a1 → P 0 M) ∧ (¬ (M 2 7) ≤ a1 → P 1 M))) : jE_has P 0 [(0, .inr (.inr 2)), (1, .inl a1)] [] M := by
  refine ax_iloadn 1 dE_has_0 rfl rfl ?_
  refine ax_if_lt (tgt := 16) dE_has_1 (by decide) (fun c2 => ?_) (fun c2 => ?_)
  · replace h := h.1 c2
    refine ax_iconst dE_has_16 (by decide) ?_
    exact ax_zret dE_has_17 (by decide) h
  · replace h := h.2 c2
    refine ax_iloadn 1 dE_has_4 rfl rfl ?_
    refine ax_aloadn 0 dE_has_5 rfl rfl ?_
    refine ax_geti dE_has_6 fE_33 sX_2 rfl ?_
    refine ax_icmp_ge (tgt := 16) dE_has_9 (by decide) (fun c1 => ?_) (fun c1 => ?_)
    · replace h := h.1 c1
      refine ax_iconst dE_has_16 (by decide) ?_
      exact ax_zret dE_has_17 (by decide) h
    · replace h := h.2 c1
      refine ax_iconst dE_has_12 (by decide) ?_
      refine ax_goto (tgt := 17) dE_has_13 (by decide) ?_
      exact ax_zret dE_has_17 (by decide) h
theorem eE_has {P : Int → ax_Mem → Prop} {M : ax_Mem} {a1 : Int} (h : (a1 < 0 → P 0 M) ∧ (¬ a1 < 0 → ((M 2 7) ≤ a1 → P 0 M) ∧ (¬ (M 2 7) ≤ a1 → P 1 M))) : kE_has [.inr (.inr 2), .inl a1] M P := ax_ofJ (by decide) (Nat.le_of_ble_eq_true rfl) (gE_has_0 h)
-- E_haveSeat dp 0
theorem gE_haveSeat_0 {P : Int → ax_Mem → Prop} {M : ax_Mem} {a1 a2 a3 : Int} (h : jE_haveSeat P 3 [(0, .inr (.inr 2)), (1, .inl a1), (2, .inl a2), (3, .inl a3), (4, .inl 0)] [] M) : jE_haveSeat P 0 [(0, .inr (.inr 2)), (1, .inl a1), (2, .inl a2), (3, .inl a3)] [] M := by
  refine ax_iconst dE_haveSeat_0 (by decide) ?_
  refine ax_istore dE_haveSeat_1 (by decide) rfl ?_
  exact ax_sub [1, 2, 3, 4, 0] rfl h
theorem gE_haveSeat_3 {P : Int → ax_Mem → Prop} {M : ax_Mem} {v1 v2 v3 v4 : Int} (h : ((M 2 7) ≤ v4 → P 0 M) ∧ (¬ (M 2 7) ≤ v4 → (0 ≤ v4 ∧ v4 < 12) ∧ (¬ (M 5 (v4.toNat)) = v1 → jE_haveSeat P 3 [(0, .inr (.inr 2)), (1, .inl v1), (2, .inl v2), (3, .inl v3), (4, .inl (v4 + 1))] [] M) ∧ ((M 5 (v4.toNat)) = v1 → (¬ (M 6 (v4.toNat)) = v2 → jE_haveSeat P 3 [(0, .inr (.inr 2)), (1, .inl v1), (2, .inl v2), (3, .inl v3), (4, .inl (v4 + 1))] [] M) ∧ ((M 6 (v4.toNat)) = v2 → (¬ (M 7 (v4.toNat)) = v3 → jE_haveSeat P 3 [(0, .inr (.inr 2)), (1, .inl v1), (2, .inl v2), (3, .inl v3), (4, .inl (v4 + 1))] [] M) ∧ ((M 7 (v4.toNat)) = v3 → P 1 M))))) : jE_haveSeat P 3 [(0, .inr (.inr 2)), (1, .inl v1), (2, .inl v2), (3, .inl v3), (4, .inl v4)] [] M := by
  refine ax_iload 4 dE_haveSeat_3 rfl ?_
  refine ax_aloadn 0 dE_haveSeat_5 rfl rfl ?_
  refine ax_geti dE_haveSeat_6 fE_33 sX_2 rfl ?_
  refine ax_icmp_ge (tgt := 53) dE_haveSeat_9 (by decide) (fun c5 => ?_) (fun c5 => ?_)
  · replace h := h.1 c5
    refine ax_iconst dE_haveSeat_53 (by decide) ?_
    exact ax_zret dE_haveSeat_54 (by decide) h
  · replace h := h.2 c5
    refine ax_aloadn 0 dE_haveSeat_12 rfl rfl ?_
    refine ax_getr dE_haveSeat_13 fE_18 sX_2 rfl ?_
    refine ax_iload 4 dE_haveSeat_16 rfl ?_
    obtain ⟨q1, h⟩ := h
    refine ax_iald dE_haveSeat_18 sX_5 q1.1 q1.2 ?_
    refine ax_iloadn 1 dE_haveSeat_19 rfl rfl ?_
    refine ax_icmp_ne (tgt := 47) dE_haveSeat_20 (by decide) (fun c4 => ?_) (fun c4 => ?_)
    · replace h := h.1 c4
      refine ax_iinc (j := 4) dE_haveSeat_47 rfl (by decide) (show ax_r _ from ⟨by omega, by omega⟩) rfl ?_
      refine ax_goto (tgt := 3) dE_haveSeat_50 (by decide) ?_
      exact ax_sub [1, 2, 3, 4, 0] rfl h
    · replace h := h.2 c4
      refine ax_aloadn 0 dE_haveSeat_23 rfl rfl ?_
      refine ax_getr dE_haveSeat_24 fE_21 sX_2 rfl ?_
      refine ax_iload 4 dE_haveSeat_27 rfl ?_
      refine ax_iald dE_haveSeat_29 sX_6 q1.1 q1.2 ?_
      refine ax_iloadn 2 dE_haveSeat_30 rfl rfl ?_
      refine ax_icmp_ne (tgt := 47) dE_haveSeat_31 (by decide) (fun c3 => ?_) (fun c3 => ?_)
      · replace h := h.1 c3
        refine ax_iinc (j := 4) dE_haveSeat_47 rfl (by decide) (show ax_r _ from ⟨by omega, by omega⟩) rfl ?_
        refine ax_goto (tgt := 3) dE_haveSeat_50 (by decide) ?_
        exact ax_sub [1, 2, 3, 4, 0] rfl h
      · replace h := h.2 c3
        refine ax_aloadn 0 dE_haveSeat_34 rfl rfl ?_
        refine ax_getr dE_haveSeat_35 fE_24 sX_2 rfl ?_
        refine ax_iload 4 dE_haveSeat_38 rfl ?_
        refine ax_iald dE_haveSeat_40 sX_7 q1.1 q1.2 ?_
        refine ax_iloadn 3 dE_haveSeat_41 rfl rfl ?_
        refine ax_icmp_ne (tgt := 47) dE_haveSeat_42 (by decide) (fun c2 => ?_) (fun c2 => ?_)
        · replace h := h.1 c2
          refine ax_iinc (j := 4) dE_haveSeat_47 rfl (by decide) (show ax_r _ from ⟨by omega, by omega⟩) rfl ?_
          refine ax_goto (tgt := 3) dE_haveSeat_50 (by decide) ?_
          exact ax_sub [1, 2, 3, 4, 0] rfl h
        · replace h := h.2 c2
          refine ax_iconst dE_haveSeat_45 (by decide) ?_
          exact ax_zret dE_haveSeat_46 (by decide) h
theorem eE_haveSeat {P : Int → ax_Mem → Prop} {M : ax_Mem} {a1 a2 a3 : Int} (h : jE_haveSeat P 3 [(0, .inr (.inr 2)), (1, .inl a1), (2, .inl a2), (3, .inl a3), (4, .inl 0)] [] M) : kE_haveSeat [.inr (.inr 2), .inl a1, .inl a2, .inl a3] M P := ax_ofJ (by decide) (Nat.le_of_ble_eq_true rfl) (gE_haveSeat_0 h)
-- E_isA dp 0
theorem gE_isA_0 {P : Int → ax_Mem → Prop} {M : ax_Mem} {a1 a2 : Int} (h : (a2 = 0 → P 1 M) ∧ (¬ a2 = 0 → (0 ≤ a1 ∧ a1 < 12) ∧ ((M 3 (a1.toNat)) = a2 → P 1 M) ∧ (¬ (M 3 (a1.toNat)) = a2 → (¬ (M 3 (a1.toNat)) = 3 → P 0 M) ∧ ((M 3 (a1.toNat)) = 3 → (¬ a2 = 2 → P 0 M) ∧ (a2 = 2 → P 1 M))))) : jE_isA P 0 [(0, .inr (.inr 2)), (1, .inl a1), (2, .inl a2)] [] M := by
  refine ax_iloadn 2 dE_isA_0 rfl rfl ?_
  refine ax_if_eq (tgt := 29) dE_isA_1 (by decide) (fun c5 => ?_) (fun c5 => ?_)
  · replace h := h.1 c5
    refine ax_iconst dE_isA_29 (by decide) ?_
    refine ax_goto (tgt := 34) dE_isA_30 (by decide) ?_
    exact ax_zret dE_isA_34 (by decide) h
  · replace h := h.2 c5
    refine ax_aloadn 0 dE_isA_4 rfl rfl ?_
    refine ax_getr dE_isA_5 fE_9 sX_2 rfl ?_
    refine ax_iloadn 1 dE_isA_8 rfl rfl ?_
    obtain ⟨q1, h⟩ := h
    refine ax_iald dE_isA_9 sX_3 q1.1 q1.2 ?_
    refine ax_iloadn 2 dE_isA_10 rfl rfl ?_
    refine ax_icmp_eq (tgt := 29) dE_isA_11 (by decide) (fun c4 => ?_) (fun c4 => ?_)
    · replace h := h.1 c4
      refine ax_iconst dE_isA_29 (by decide) ?_
      refine ax_goto (tgt := 34) dE_isA_30 (by decide) ?_
      exact ax_zret dE_isA_34 (by decide) h
    · replace h := h.2 c4
      refine ax_aloadn 0 dE_isA_14 rfl rfl ?_
      refine ax_getr dE_isA_15 fE_9 sX_2 rfl ?_
      refine ax_iloadn 1 dE_isA_18 rfl rfl ?_
      refine ax_iald dE_isA_19 sX_3 q1.1 q1.2 ?_
      refine ax_iconst dE_isA_20 (by decide) ?_
      refine ax_icmp_ne (tgt := 33) dE_isA_21 (by decide) (fun c3 => ?_) (fun c3 => ?_)
      · replace h := h.1 c3
        refine ax_iconst dE_isA_33 (by decide) ?_
        exact ax_zret dE_isA_34 (by decide) h
      · replace h := h.2 c3
        refine ax_iloadn 2 dE_isA_24 rfl rfl ?_
        refine ax_iconst dE_isA_25 (by decide) ?_
        refine ax_icmp_ne (tgt := 33) dE_isA_26 (by decide) (fun c2 => ?_) (fun c2 => ?_)
        · replace h := h.1 c2
          refine ax_iconst dE_isA_33 (by decide) ?_
          exact ax_zret dE_isA_34 (by decide) h
        · replace h := h.2 c2
          refine ax_iconst dE_isA_29 (by decide) ?_
          refine ax_goto (tgt := 34) dE_isA_30 (by decide) ?_
          exact ax_zret dE_isA_34 (by decide) h
theorem eE_isA {P : Int → ax_Mem → Prop} {M : ax_Mem} {a1 a2 : Int} (h : (a2 = 0 → P 1 M) ∧ (¬ a2 = 0 → (0 ≤ a1 ∧ a1 < 12) ∧ ((M 3 (a1.toNat)) = a2 → P 1 M) ∧ (¬ (M 3 (a1.toNat)) = a2 → (¬ (M 3 (a1.toNat)) = 3 → P 0 M) ∧ ((M 3 (a1.toNat)) = 3 → (¬ a2 = 2 → P 0 M) ∧ (a2 = 2 → P 1 M))))) : kE_isA [.inr (.inr 2), .inl a1, .inl a2] M P := ax_ofJ (by decide) (Nat.le_of_ble_eq_true rfl) (gE_isA_0 h)
-- E_tell dp 0
theorem gE_tell_0 {P : Int → ax_Mem → Prop} {M : ax_Mem} {a1 a2 : Int} (h : ((a2 = 0) → (0 ≤ a1 ∧ a1 < 12) ∧ P (M 3 (a1.toNat)) M) ∧ ((a2 = 1) → (0 ≤ a1 ∧ a1 < 12) ∧ P (M 4 (a1.toNat)) M) ∧ ((a2 = 2) → (0 ≤ a1 ∧ a1 < 12) ∧ P (M 5 (a1.toNat)) M) ∧ ((a2 = 3) → (0 ≤ a1 ∧ a1 < 12) ∧ P (M 6 (a1.toNat)) M) ∧ ((a2 = 4) → (0 ≤ a1 ∧ a1 < 12) ∧ P (M 7 (a1.toNat)) M) ∧ ((a2 = 5) → (0 ≤ a1 ∧ a1 < 12) ∧ P (M 8 (a1.toNat)) M) ∧ ((¬ a2 = 0 ∧ ¬ a2 = 1 ∧ ¬ a2 = 2 ∧ ¬ a2 = 3 ∧ ¬ a2 = 4 ∧ ¬ a2 = 5) → (0 ≤ a1 ∧ a1 < 12) ∧ P (M 9 (a1.toNat)) M)) : jE_tell P 0 [(0, .inr (.inr 2)), (1, .inl a1), (2, .inl a2)] [] M := by
  refine ax_iloadn 2 dE_tell_0 rfl rfl ?_
  obtain ⟨c1_0, c1_1, c1_2, c1_3, c1_4, c1_5, c1_6⟩ := h
  by_cases c1d : ¬ a2 = 0 ∧ ¬ a2 = 1 ∧ ¬ a2 = 2 ∧ ¬ a2 = 3 ∧ ¬ a2 = 4 ∧ ¬ a2 = 5
  · replace h := c1_6 c1d
    refine ax_tabOut (tgt := 82) dE_tell_1 (by omega) (by decide) ?_
    refine ax_aloadn 0 dE_tell_82 rfl rfl ?_
    refine ax_getr dE_tell_83 fE_30 sX_2 rfl ?_
    refine ax_iloadn 1 dE_tell_86 rfl rfl ?_
    obtain ⟨q8, h⟩ := h
    refine ax_iald dE_tell_87 sX_9 q8.1 q8.2 ?_
    exact ax_iret dE_tell_88 h
  · rcases (show a2 = 0 ∨ a2 = 1 ∨ a2 = 2 ∨ a2 = 3 ∨ a2 = 4 ∨ a2 = 5 by omega) with c1e | c1e | c1e | c1e | c1e | c1e
    · replace h := c1_0 (by omega)
      refine ax_tabIn (tgt := 40) (off := 39) dE_tell_1 (by omega) (by omega) (by rw [c1e]; decide) (by decide) ?_
      refine ax_aloadn 0 dE_tell_40 rfl rfl ?_
      refine ax_getr dE_tell_41 fE_9 sX_2 rfl ?_
      refine ax_iloadn 1 dE_tell_44 rfl rfl ?_
      obtain ⟨q2, h⟩ := h
      refine ax_iald dE_tell_45 sX_3 q2.1 q2.2 ?_
      exact ax_iret dE_tell_46 h
    · replace h := c1_1 (by omega)
      refine ax_tabIn (tgt := 47) (off := 46) dE_tell_1 (by omega) (by omega) (by rw [c1e]; decide) (by decide) ?_
      refine ax_aloadn 0 dE_tell_47 rfl rfl ?_
      refine ax_getr dE_tell_48 fE_15 sX_2 rfl ?_
      refine ax_iloadn 1 dE_tell_51 rfl rfl ?_
      obtain ⟨q3, h⟩ := h
      refine ax_iald dE_tell_52 sX_4 q3.1 q3.2 ?_
      exact ax_iret dE_tell_53 h
    · replace h := c1_2 (by omega)
      refine ax_tabIn (tgt := 54) (off := 53) dE_tell_1 (by omega) (by omega) (by rw [c1e]; decide) (by decide) ?_
      refine ax_aloadn 0 dE_tell_54 rfl rfl ?_
      refine ax_getr dE_tell_55 fE_18 sX_2 rfl ?_
      refine ax_iloadn 1 dE_tell_58 rfl rfl ?_
      obtain ⟨q4, h⟩ := h
      refine ax_iald dE_tell_59 sX_5 q4.1 q4.2 ?_
      exact ax_iret dE_tell_60 h
    · replace h := c1_3 (by omega)
      refine ax_tabIn (tgt := 61) (off := 60) dE_tell_1 (by omega) (by omega) (by rw [c1e]; decide) (by decide) ?_
      refine ax_aloadn 0 dE_tell_61 rfl rfl ?_
      refine ax_getr dE_tell_62 fE_21 sX_2 rfl ?_
      refine ax_iloadn 1 dE_tell_65 rfl rfl ?_
      obtain ⟨q5, h⟩ := h
      refine ax_iald dE_tell_66 sX_6 q5.1 q5.2 ?_
      exact ax_iret dE_tell_67 h
    · replace h := c1_4 (by omega)
      refine ax_tabIn (tgt := 68) (off := 67) dE_tell_1 (by omega) (by omega) (by rw [c1e]; decide) (by decide) ?_
      refine ax_aloadn 0 dE_tell_68 rfl rfl ?_
      refine ax_getr dE_tell_69 fE_24 sX_2 rfl ?_
      refine ax_iloadn 1 dE_tell_72 rfl rfl ?_
      obtain ⟨q6, h⟩ := h
      refine ax_iald dE_tell_73 sX_7 q6.1 q6.2 ?_
      exact ax_iret dE_tell_74 h
    · replace h := c1_5 (by omega)
      refine ax_tabIn (tgt := 75) (off := 74) dE_tell_1 (by omega) (by omega) (by rw [c1e]; decide) (by decide) ?_
      refine ax_aloadn 0 dE_tell_75 rfl rfl ?_
      refine ax_getr dE_tell_76 fE_27 sX_2 rfl ?_
      refine ax_iloadn 1 dE_tell_79 rfl rfl ?_
      obtain ⟨q7, h⟩ := h
      refine ax_iald dE_tell_80 sX_8 q7.1 q7.2 ?_
      exact ax_iret dE_tell_81 h
theorem eE_tell {P : Int → ax_Mem → Prop} {M : ax_Mem} {a1 a2 : Int} (h : ((a2 = 0) → (0 ≤ a1 ∧ a1 < 12) ∧ P (M 3 (a1.toNat)) M) ∧ ((a2 = 1) → (0 ≤ a1 ∧ a1 < 12) ∧ P (M 4 (a1.toNat)) M) ∧ ((a2 = 2) → (0 ≤ a1 ∧ a1 < 12) ∧ P (M 5 (a1.toNat)) M) ∧ ((a2 = 3) → (0 ≤ a1 ∧ a1 < 12) ∧ P (M 6 (a1.toNat)) M) ∧ ((a2 = 4) → (0 ≤ a1 ∧ a1 < 12) ∧ P (M 7 (a1.toNat)) M) ∧ ((a2 = 5) → (0 ≤ a1 ∧ a1 < 12) ∧ P (M 8 (a1.toNat)) M) ∧ ((¬ a2 = 0 ∧ ¬ a2 = 1 ∧ ¬ a2 = 2 ∧ ¬ a2 = 3 ∧ ¬ a2 = 4 ∧ ¬ a2 = 5) → (0 ≤ a1 ∧ a1 < 12) ∧ P (M 9 (a1.toNat)) M)) : kE_tell [.inr (.inr 2), .inl a1, .inl a2] M P := ax_ofJ (by decide) (Nat.le_of_ble_eq_true rfl) (gE_tell_0 h)
-- E_thatStayFor dp 0
theorem gE_thatStayFor_0 {P : Int → ax_Mem → Prop} {M : ax_Mem} {a1 : Int} (h : jE_thatStayFor P 4 [(0, .inr (.inr 2)), (1, .inl a1), (2, .inl 0), (3, .inl 0)] [] M) : jE_thatStayFor P 0 [(0, .inr (.inr 2)), (1, .inl a1)] [] M := by
  refine ax_iconst dE_thatStayFor_0 (by decide) ?_
  refine ax_istoren dE_thatStayFor_1 rfl (by decide) rfl ?_
  refine ax_iconst dE_thatStayFor_2 (by decide) ?_
  refine ax_istoren dE_thatStayFor_3 rfl (by decide) rfl ?_
  exact ax_sub [2, 3, 1, 0] rfl h
theorem gE_thatStayFor_4 {P : Int → ax_Mem → Prop} {M : ax_Mem} {v1 v2 v3 : Int} (h : ((M 2 7) ≤ v3 → P v2 M) ∧ (¬ (M 2 7) ≤ v3 → (0 ≤ v3 ∧ v3 < 12) ∧ (v1 < (M 9 (v3.toNat)) → jE_thatStayFor P 4 [(0, .inr (.inr 2)), (1, .inl v1), (2, .inl v2), (3, .inl (v3 + 1))] [] M) ∧ (¬ v1 < (M 9 (v3.toNat)) → (-2147483648 ≤ (v2 + 1) ∧ (v2 + 1) < 2147483648) ∧ jE_thatStayFor P 4 [(0, .inr (.inr 2)), (1, .inl v1), (2, .inl (v2 + 1)), (3, .inl (v3 + 1))] [] M))) : jE_thatStayFor P 4 [(0, .inr (.inr 2)), (1, .inl v1), (2, .inl v2), (3, .inl v3)] [] M := by
  refine ax_iloadn 3 dE_thatStayFor_4 rfl rfl ?_
  refine ax_aloadn 0 dE_thatStayFor_5 rfl rfl ?_
  refine ax_geti dE_thatStayFor_6 fE_33 sX_2 rfl ?_
  refine ax_icmp_ge (tgt := 31) dE_thatStayFor_9 (by decide) (fun c4 => ?_) (fun c4 => ?_)
  · replace h := h.1 c4
    refine ax_iloadn 2 dE_thatStayFor_31 rfl rfl ?_
    exact ax_iret dE_thatStayFor_32 h
  · replace h := h.2 c4
    refine ax_aloadn 0 dE_thatStayFor_12 rfl rfl ?_
    refine ax_getr dE_thatStayFor_13 fE_30 sX_2 rfl ?_
    refine ax_iloadn 3 dE_thatStayFor_16 rfl rfl ?_
    obtain ⟨q1, h⟩ := h
    refine ax_iald dE_thatStayFor_17 sX_9 q1.1 q1.2 ?_
    refine ax_iloadn 1 dE_thatStayFor_18 rfl rfl ?_
    refine ax_icmp_gt (tgt := 25) dE_thatStayFor_19 (by decide) (fun c3 => ?_) (fun c3 => ?_)
    · replace h := h.1 c3
      refine ax_iinc (j := 3) dE_thatStayFor_25 rfl (by decide) (show ax_r _ from ⟨by omega, by omega⟩) rfl ?_
      refine ax_goto (tgt := 4) dE_thatStayFor_28 (by decide) ?_
      exact ax_sub [1, 2, 3, 0] rfl h
    · replace h := h.2 c3
      obtain ⟨q2, h⟩ := h
      refine ax_iinc (j := 2) dE_thatStayFor_22 rfl (by decide) q2 rfl ?_
      refine ax_iinc (j := 3) dE_thatStayFor_25 rfl (by decide) (show ax_r _ from ⟨by omega, by omega⟩) rfl ?_
      refine ax_goto (tgt := 4) dE_thatStayFor_28 (by decide) ?_
      exact ax_sub [2, 3, 1, 0] rfl h
theorem eE_thatStayFor {P : Int → ax_Mem → Prop} {M : ax_Mem} {a1 : Int} (h : jE_thatStayFor P 4 [(0, .inr (.inr 2)), (1, .inl a1), (2, .inl 0), (3, .inl 0)] [] M) : kE_thatStayFor [.inr (.inr 2), .inl a1] M P := ax_ofJ (by decide) (Nat.le_of_ble_eq_true rfl) (gE_thatStayFor_0 h)
-- E_bagsOfAll dp 0
theorem gE_bagsOfAll_0 {P : Int → ax_Mem → Prop} {M : ax_Mem} (h : jE_bagsOfAll P 4 [(0, .inr (.inr 2)), (1, .inl 0), (2, .inl 0)] [] M) : jE_bagsOfAll P 0 [(0, .inr (.inr 2))] [] M := by
  refine ax_iconst dE_bagsOfAll_0 (by decide) ?_
  refine ax_istoren dE_bagsOfAll_1 rfl (by decide) rfl ?_
  refine ax_iconst dE_bagsOfAll_2 (by decide) ?_
  refine ax_istoren dE_bagsOfAll_3 rfl (by decide) rfl ?_
  exact ax_sub [2, 1, 0] rfl h
theorem gE_bagsOfAll_4 {P : Int → ax_Mem → Prop} {M : ax_Mem} {v1 v2 : Int} (h : ((M 2 7) ≤ v2 → P v1 M) ∧ (¬ (M 2 7) ≤ v2 → (0 ≤ v2 ∧ v2 < 12) ∧ (-2147483648 ≤ (v1 + (M 8 (v2.toNat))) ∧ (v1 + (M 8 (v2.toNat))) < 2147483648) ∧ jE_bagsOfAll P 4 [(0, .inr (.inr 2)), (1, .inl (v1 + (M 8 (v2.toNat)))), (2, .inl (v2 + 1))] [] M)) : jE_bagsOfAll P 4 [(0, .inr (.inr 2)), (1, .inl v1), (2, .inl v2)] [] M := by
  refine ax_iloadn 2 dE_bagsOfAll_4 rfl rfl ?_
  refine ax_aloadn 0 dE_bagsOfAll_5 rfl rfl ?_
  refine ax_geti dE_bagsOfAll_6 fE_33 sX_2 rfl ?_
  refine ax_icmp_ge (tgt := 27) dE_bagsOfAll_9 (by decide) (fun c3 => ?_) (fun c3 => ?_)
  · replace h := h.1 c3
    refine ax_iloadn 1 dE_bagsOfAll_27 rfl rfl ?_
    exact ax_iret dE_bagsOfAll_28 h
  · replace h := h.2 c3
    refine ax_iloadn 1 dE_bagsOfAll_12 rfl rfl ?_
    refine ax_aloadn 0 dE_bagsOfAll_13 rfl rfl ?_
    refine ax_getr dE_bagsOfAll_14 fE_27 sX_2 rfl ?_
    refine ax_iloadn 2 dE_bagsOfAll_17 rfl rfl ?_
    obtain ⟨q1, h⟩ := h
    refine ax_iald dE_bagsOfAll_18 sX_8 q1.1 q1.2 ?_
    obtain ⟨q2, h⟩ := h
    refine ax_iadd dE_bagsOfAll_19 q2 ?_
    refine ax_istoren dE_bagsOfAll_20 rfl (by decide) rfl ?_
    refine ax_iinc (j := 2) dE_bagsOfAll_21 rfl (by decide) (show ax_r _ from ⟨by omega, by omega⟩) rfl ?_
    refine ax_goto (tgt := 4) dE_bagsOfAll_24 (by decide) ?_
    exact ax_sub [2, 1, 0] rfl h
theorem eE_bagsOfAll {P : Int → ax_Mem → Prop} {M : ax_Mem} (h : jE_bagsOfAll P 4 [(0, .inr (.inr 2)), (1, .inl 0), (2, .inl 0)] [] M) : kE_bagsOfAll [.inr (.inr 2)] M P := ax_ofJ (by decide) (Nat.le_of_ble_eq_true rfl) (gE_bagsOfAll_0 h)
-- X_cabin dp 1
theorem gX_cabin_0 {P : Int → ax_Mem → Prop} {M : ax_Mem} {a1 a2 a3 : Int} (h : kX_outside [.inl a1, .inl 2, .inl 12] M (fun r1 M2 => (¬ r1 = 0 → P (-102) M2) ∧ (r1 = 0 → kX_outside [.inl a2, .inl 1, .inl 3] M2 (fun r3 M4 => (¬ r3 = 0 → P (-102) M4) ∧ (r3 = 0 → kX_outside [.inl a3, .inl 0, .inl 6] M4 (fun r5 M6 => (r5 = 0 → kC_build [.inr (.inr 1), .inl a1, .inl a2, .inl a3] M6 (fun _ M8 => kC_seats [.inr (.inr 1)] (ax_u (ax_u M8 2 7 0) 10 3 0) (fun r9 M10 => P r9 M10))) ∧ (¬ r5 = 0 → P (-102) M6))))))) : jX_cabin P 0 [(0, .inr (.inr 0)), (1, .inl a1), (2, .inl a2), (3, .inl a3)] [] M := by
  refine ax_iloadn 1 dX_cabin_0 rfl rfl ?_
  refine ax_iconst dX_cabin_1 (by decide) ?_
  refine ax_bipush dX_cabin_2 (by decide) ?_
  refine ax_callS (dp2 := 0) (as := [.inl a1, .inl 2, .inl 12]) (st := []) dX_cabin_4 lX_70 rfl rfl (Nat.le_of_ble_eq_true rfl) (by decide) ?_
  refine ax_C_mono (fun r1 M2 h => ?_) h
  refine ax_if_ne (tgt := 29) dX_cabin_7 (by decide) (fun c13 => ?_) (fun c13 => ?_)
  · replace h := h.1 c13
    refine ax_bipush dX_cabin_29 (by decide) ?_
    exact ax_iret dX_cabin_31 h
  · replace h := h.2 c13
    refine ax_iloadn 2 dX_cabin_10 rfl rfl ?_
    refine ax_iconst dX_cabin_11 (by decide) ?_
    refine ax_iconst dX_cabin_12 (by decide) ?_
    refine ax_callS (dp2 := 0) (as := [.inl a2, .inl 1, .inl 3]) (st := []) dX_cabin_13 lX_70 rfl rfl (Nat.le_of_ble_eq_true rfl) (by decide) ?_
    refine ax_C_mono (fun r3 M4 h => ?_) h
    refine ax_if_ne (tgt := 29) dX_cabin_16 (by decide) (fun c12 => ?_) (fun c12 => ?_)
    · replace h := h.1 c12
      refine ax_bipush dX_cabin_29 (by decide) ?_
      exact ax_iret dX_cabin_31 h
    · replace h := h.2 c12
      refine ax_iloadn 3 dX_cabin_19 rfl rfl ?_
      refine ax_iconst dX_cabin_20 (by decide) ?_
      refine ax_bipush dX_cabin_21 (by decide) ?_
      refine ax_callS (dp2 := 0) (as := [.inl a3, .inl 0, .inl 6]) (st := []) dX_cabin_23 lX_70 rfl rfl (Nat.le_of_ble_eq_true rfl) (by decide) ?_
      refine ax_C_mono (fun r5 M6 h => ?_) h
      refine ax_if_eq (tgt := 32) dX_cabin_26 (by decide) (fun c11 => ?_) (fun c11 => ?_)
      · replace h := h.1 c11
        refine ax_aloadn 0 dX_cabin_32 rfl rfl ?_
        refine ax_getr dX_cabin_33 fX_10 sX_0 rfl ?_
        refine ax_iloadn 1 dX_cabin_36 rfl rfl ?_
        refine ax_iloadn 2 dX_cabin_37 rfl rfl ?_
        refine ax_iloadn 3 dX_cabin_38 rfl rfl ?_
        refine ax_callV (dp2 := 0) (as := [.inl a1, .inl a2, .inl a3]) (st := []) dX_cabin_39 lX_74 sX_1 ⟨_, _, rfl⟩ rfl rfl (Nat.le_of_ble_eq_true rfl) (by decide) ?_
        refine ax_C_mono (fun _ M8 h => ?_) h
        refine ax_aloadn 0 dX_cabin_42 rfl rfl ?_
        refine ax_getr dX_cabin_43 fX_19 sX_0 rfl ?_
        refine ax_iconst dX_cabin_46 (by decide) ?_
        refine ax_puti dX_cabin_47 pX_78 sX_2 rfl ?_
        refine ax_aloadn 0 dX_cabin_50 rfl rfl ?_
        refine ax_getr dX_cabin_51 fX_26 sX_0 rfl ?_
        refine ax_iconst dX_cabin_54 (by decide) ?_
        refine ax_putz dX_cabin_55 pX_82 sX_10 rfl (by decide) ?_
        refine ax_aloadn 0 dX_cabin_58 rfl rfl ?_
        refine ax_getr dX_cabin_59 fX_10 sX_0 rfl ?_
        refine ax_callV (dp2 := 0) (as := []) (st := []) dX_cabin_62 lX_86 sX_1 ⟨_, _, rfl⟩ rfl rfl (Nat.le_of_ble_eq_true rfl) (by decide) ?_
        refine ax_C_mono (fun r9 M10 h => ?_) h
        exact ax_iret dX_cabin_65 h
      · replace h := h.2 c11
        refine ax_bipush dX_cabin_29 (by decide) ?_
        exact ax_iret dX_cabin_31 h
theorem eX_cabin {P : Int → ax_Mem → Prop} {M : ax_Mem} {a1 a2 a3 : Int} (h : kX_outside [.inl a1, .inl 2, .inl 12] M (fun r1 M2 => (¬ r1 = 0 → P (-102) M2) ∧ (r1 = 0 → kX_outside [.inl a2, .inl 1, .inl 3] M2 (fun r3 M4 => (¬ r3 = 0 → P (-102) M4) ∧ (r3 = 0 → kX_outside [.inl a3, .inl 0, .inl 6] M4 (fun r5 M6 => (r5 = 0 → kC_build [.inr (.inr 1), .inl a1, .inl a2, .inl a3] M6 (fun _ M8 => kC_seats [.inr (.inr 1)] (ax_u (ax_u M8 2 7 0) 10 3 0) (fun r9 M10 => P r9 M10))) ∧ (¬ r5 = 0 → P (-102) M6))))))) : kX_cabin [.inr (.inr 0), .inl a1, .inl a2, .inl a3] M P := ax_ofJ (by decide) (Nat.le_of_ble_eq_true rfl) (gX_cabin_0 h)
-- X_person dp 2
theorem gX_person_0 {P : Int → ax_Mem → Prop} {M : ax_Mem} {a1 a2 a3 a4 a5 a6 a7 : Int} (h : kC_isMissing [.inr (.inr 1)] M (fun r1 M2 => (r1 = 0 → kX_outside [.inl a1, .inl 0, .inl 3] M2 (fun r3 M4 => (r3 = 0 → (¬ a1 = 3 → (a2 = (-1) → kC_hasSeat [.inr (.inr 1), .inl a3, .inl a4, .inl a5] M4 (fun r5 M6 => (r5 = 0 → P (-102) M6) ∧ (¬ r5 = 0 → kX_outside [.inl a6, .inl 0, .inl 3] M6 (fun r7 M8 => (¬ r7 = 0 → P (-102) M8) ∧ (r7 = 0 → kX_outside [.inl a7, .inl 0, .inl 999] M8 (fun r9 M10 => (r9 = 0 → kE_haveSeat [.inr (.inr 2), .inl a3, .inl a4, .inl a5] M10 (fun r11 M12 => (r11 = 0 → ((M12 2 7) < 12 → (0 ≤ (M12 2 7) ∧ (M12 2 7) < 12) ∧ P (M12 2 7) (ax_u (ax_u (ax_u (ax_u (ax_u (ax_u (ax_u (ax_u M12 3 ((M12 2 7).toNat) a1) 4 ((M12 2 7).toNat) a2) 5 ((M12 2 7).toNat) a3) 6 ((M12 2 7).toNat) a4) 7 ((M12 2 7).toNat) a5) 8 ((M12 2 7).toNat) a6) 9 ((M12 2 7).toNat) a7) 2 7 ((M12 2 7) + 1))) ∧ (¬ (M12 2 7) < 12 → P (-104) M12)) ∧ (¬ r11 = 0 → P (-103) M12))) ∧ (¬ r9 = 0 → P (-102) M10))))))) ∧ (¬ a2 = (-1) → P (-101) M4)) ∧ (a1 = 3 → kE_has [.inr (.inr 2), .inl a2] M4 (fun r20 M21 => (¬ r20 = 0 → kC_hasSeat [.inr (.inr 1), .inl a3, .inl a4, .inl a5] M21 (fun r22 M23 => (r22 = 0 → P (-102) M23) ∧ (¬ r22 = 0 → kX_outside [.inl a6, .inl 0, .inl 3] M23 (fun r24 M25 => (¬ r24 = 0 → P (-102) M25) ∧ (r24 = 0 → kX_outside [.inl a7, .inl 0, .inl 999] M25 (fun r26 M27 => (r26 = 0 → kE_haveSeat [.inr (.inr 2), .inl a3, .inl a4, .inl a5] M27 (fun r28 M29 => (r28 = 0 → ((M29 2 7) < 12 → (0 ≤ (M29 2 7) ∧ (M29 2 7) < 12) ∧ P (M29 2 7) (ax_u (ax_u (ax_u (ax_u (ax_u (ax_u (ax_u (ax_u M29 3 ((M29 2 7).toNat) a1) 4 ((M29 2 7).toNat) a2) 5 ((M29 2 7).toNat) a3) 6 ((M29 2 7).toNat) a4) 7 ((M29 2 7).toNat) a5) 8 ((M29 2 7).toNat) a6) 9 ((M29 2 7).toNat) a7) 2 7 ((M29 2 7) + 1))) ∧ (¬ (M29 2 7) < 12 → P (-104) M29)) ∧ (¬ r28 = 0 → P (-103) M29))) ∧ (¬ r26 = 0 → P (-102) M27))))))) ∧ (r20 = 0 → P (-101) M21)))) ∧ (¬ r3 = 0 → P (-102) M4))) ∧ (¬ r1 = 0 → P (-103) M2))) : jX_person P 0 [(0, .inr (.inr 0)), (1, .inl a1), (2, .inl a2), (3, .inl a3), (4, .inl a4), (5, .inl a5), (6, .inl a6), (7, .inl a7)] [] M := by
  refine ax_aloadn 0 dX_person_0 rfl rfl ?_
  refine ax_getr dX_person_1 fX_10 sX_0 rfl ?_
  refine ax_callV (dp2 := 0) (as := []) (st := []) dX_person_4 lX_90 sX_1 ⟨_, _, rfl⟩ rfl rfl (Nat.le_of_ble_eq_true rfl) (by decide) ?_
  refine ax_C_mono (fun r1 M2 h => ?_) h
  refine ax_if_eq (tgt := 13) dX_person_7 (by decide) (fun c39 => ?_) (fun c39 => ?_)
  · replace h := h.1 c39
    refine ax_iloadn 1 dX_person_13 rfl rfl ?_
    refine ax_iconst dX_person_14 (by decide) ?_
    refine ax_iconst dX_person_15 (by decide) ?_
    refine ax_callS (dp2 := 0) (as := [.inl a1, .inl 0, .inl 3]) (st := []) dX_person_16 lX_70 rfl rfl (Nat.le_of_ble_eq_true rfl) (by decide) ?_
    refine ax_C_mono (fun r3 M4 h => ?_) h
    refine ax_if_eq (tgt := 25) dX_person_19 (by decide) (fun c38 => ?_) (fun c38 => ?_)
    · replace h := h.1 c38
      refine ax_iloadn 1 dX_person_25 rfl rfl ?_
      refine ax_iconst dX_person_26 (by decide) ?_
      refine ax_icmp_ne (tgt := 44) dX_person_27 (by decide) (fun c37 => ?_) (fun c37 => ?_)
      · replace h := h.1 c37
        refine ax_iloadn 2 dX_person_44 rfl rfl ?_
        refine ax_iconst dX_person_45 (by decide) ?_
        refine ax_icmp_eq (tgt := 52) dX_person_46 (by decide) (fun c19 => ?_) (fun c19 => ?_)
        · replace h := h.1 c19
          refine ax_aloadn 0 dX_person_52 rfl rfl ?_
          refine ax_getr dX_person_53 fX_10 sX_0 rfl ?_
          refine ax_iloadn 3 dX_person_56 rfl rfl ?_
          refine ax_iload 4 dX_person_57 rfl ?_
          refine ax_iload 5 dX_person_59 rfl ?_
          refine ax_callV (dp2 := 1) (as := [.inl a3, .inl a4, .inl a5]) (st := []) dX_person_61 lX_98 sX_1 ⟨_, _, rfl⟩ rfl rfl (Nat.le_of_ble_eq_true rfl) (by decide) ?_
          refine ax_C_mono (fun r5 M6 h => ?_) h
          refine ax_if_eq (tgt := 89) dX_person_64 (by decide) (fun c18 => ?_) (fun c18 => ?_)
          · replace h := h.1 c18
            refine ax_bipush dX_person_89 (by decide) ?_
            exact ax_iret dX_person_91 h
          · replace h := h.2 c18
            refine ax_iload 6 dX_person_67 rfl ?_
            refine ax_iconst dX_person_69 (by decide) ?_
            refine ax_iconst dX_person_70 (by decide) ?_
            refine ax_callS (dp2 := 0) (as := [.inl a6, .inl 0, .inl 3]) (st := []) dX_person_71 lX_70 rfl rfl (Nat.le_of_ble_eq_true rfl) (by decide) ?_
            refine ax_C_mono (fun r7 M8 h => ?_) h
            refine ax_if_ne (tgt := 89) dX_person_74 (by decide) (fun c17 => ?_) (fun c17 => ?_)
            · replace h := h.1 c17
              refine ax_bipush dX_person_89 (by decide) ?_
              exact ax_iret dX_person_91 h
            · replace h := h.2 c17
              refine ax_iload 7 dX_person_77 rfl ?_
              refine ax_iconst dX_person_79 (by decide) ?_
              refine ax_sipush dX_person_80 (by decide) ?_
              refine ax_callS (dp2 := 0) (as := [.inl a7, .inl 0, .inl 999]) (st := []) dX_person_83 lX_70 rfl rfl (Nat.le_of_ble_eq_true rfl) (by decide) ?_
              refine ax_C_mono (fun r9 M10 h => ?_) h
              refine ax_if_eq (tgt := 92) dX_person_86 (by decide) (fun c16 => ?_) (fun c16 => ?_)
              · replace h := h.1 c16
                refine ax_aloadn 0 dX_person_92 rfl rfl ?_
                refine ax_getr dX_person_93 fX_19 sX_0 rfl ?_
                refine ax_iloadn 3 dX_person_96 rfl rfl ?_
                refine ax_iload 4 dX_person_97 rfl ?_
                refine ax_iload 5 dX_person_99 rfl ?_
                refine ax_callV (dp2 := 0) (as := [.inl a3, .inl a4, .inl a5]) (st := []) dX_person_101 lX_101 sX_2 ⟨_, _, rfl⟩ rfl rfl (Nat.le_of_ble_eq_true rfl) (by decide) ?_
                refine ax_C_mono (fun r11 M12 h => ?_) h
                refine ax_if_eq (tgt := 110) dX_person_104 (by decide) (fun c15 => ?_) (fun c15 => ?_)
                · replace h := h.1 c15
                  refine ax_aloadn 0 dX_person_110 rfl rfl ?_
                  refine ax_getr dX_person_111 fX_19 sX_0 rfl ?_
                  refine ax_geti dX_person_114 fX_78 sX_2 rfl ?_
                  refine ax_bipush dX_person_117 (by decide) ?_
                  refine ax_icmp_lt (tgt := 125) dX_person_119 (by decide) (fun c14 => ?_) (fun c14 => ?_)
                  · replace h := h.1 c14
                    refine ax_aloadn 0 dX_person_125 rfl rfl ?_
                    refine ax_getr dX_person_126 fX_19 sX_0 rfl ?_
                    refine ax_geti dX_person_129 fX_78 sX_2 rfl ?_
                    refine ax_istore dX_person_132 (by decide) rfl ?_
                    refine ax_aloadn 1 dX_person_134 rfl rfl ?_
                    refine ax_getr dX_person_135 fX_19 sX_0 rfl ?_
                    refine ax_getr dX_person_138 fX_104 sX_2 rfl ?_
                    refine ax_iload 0 dX_person_141 rfl ?_
                    refine ax_iloadn 2 dX_person_143 rfl rfl ?_
                    obtain ⟨q13, h⟩ := h
                    refine ax_iast dX_person_144 sX_3 q13.1 q13.2 ?_
                    refine ax_aloadn 1 dX_person_145 rfl rfl ?_
                    refine ax_getr dX_person_146 fX_19 sX_0 rfl ?_
                    refine ax_getr dX_person_149 fX_108 sX_2 rfl ?_
                    refine ax_iload 0 dX_person_152 rfl ?_
                    refine ax_iloadn 3 dX_person_154 rfl rfl ?_
                    refine ax_iast dX_person_155 sX_4 (by omega) (by omega) ?_
                    refine ax_aloadn 1 dX_person_156 rfl rfl ?_
                    refine ax_getr dX_person_157 fX_19 sX_0 rfl ?_
                    refine ax_getr dX_person_160 fX_111 sX_2 rfl ?_
                    refine ax_iload 0 dX_person_163 rfl ?_
                    refine ax_iloadn 4 dX_person_165 rfl rfl ?_
                    refine ax_iast dX_person_166 sX_5 (by omega) (by omega) ?_
                    refine ax_aloadn 1 dX_person_167 rfl rfl ?_
                    refine ax_getr dX_person_168 fX_19 sX_0 rfl ?_
                    refine ax_getr dX_person_171 fX_114 sX_2 rfl ?_
                    refine ax_iload 0 dX_person_174 rfl ?_
                    refine ax_iload 5 dX_person_176 rfl ?_
                    refine ax_iast dX_person_178 sX_6 (by omega) (by omega) ?_
                    refine ax_aloadn 1 dX_person_179 rfl rfl ?_
                    refine ax_getr dX_person_180 fX_19 sX_0 rfl ?_
                    refine ax_getr dX_person_183 fX_117 sX_2 rfl ?_
                    refine ax_iload 0 dX_person_186 rfl ?_
                    refine ax_iload 6 dX_person_188 rfl ?_
                    refine ax_iast dX_person_190 sX_7 (by omega) (by omega) ?_
                    refine ax_aloadn 1 dX_person_191 rfl rfl ?_
                    refine ax_getr dX_person_192 fX_19 sX_0 rfl ?_
                    refine ax_getr dX_person_195 fX_120 sX_2 rfl ?_
                    refine ax_iload 0 dX_person_198 rfl ?_
                    refine ax_iload 7 dX_person_200 rfl ?_
                    refine ax_iast dX_person_202 sX_8 (by omega) (by omega) ?_
                    refine ax_aloadn 1 dX_person_203 rfl rfl ?_
                    refine ax_getr dX_person_204 fX_19 sX_0 rfl ?_
                    refine ax_getr dX_person_207 fX_123 sX_2 rfl ?_
                    refine ax_iload 0 dX_person_210 rfl ?_
                    refine ax_iload 8 dX_person_212 rfl ?_
                    refine ax_iast dX_person_214 sX_9 (by omega) (by omega) ?_
                    refine ax_aloadn 1 dX_person_215 rfl rfl ?_
                    refine ax_getr dX_person_216 fX_19 sX_0 rfl ?_
                    refine ax_dup dX_person_219 rfl ?_
                    refine ax_geti dX_person_220 fX_78 sX_2 rfl ?_
                    refine ax_top (x' := M12 2 7) (by first | rfl | exact ax_u_at _ _ _ _) ?_
                    refine ax_iconst dX_person_223 (by decide) ?_
                    refine ax_iadd dX_person_224 (show ax_r _ from ⟨by omega, by omega⟩) ?_
                    refine ax_puti dX_person_225 pX_78 sX_2 rfl ?_
                    refine ax_iload 0 dX_person_228 rfl ?_
                    exact ax_iret dX_person_230 h
                  · replace h := h.2 c14
                    refine ax_bipush dX_person_122 (by decide) ?_
                    exact ax_iret dX_person_124 h
                · replace h := h.2 c15
                  refine ax_bipush dX_person_107 (by decide) ?_
                  exact ax_iret dX_person_109 h
              · replace h := h.2 c16
                refine ax_bipush dX_person_89 (by decide) ?_
                exact ax_iret dX_person_91 h
        · replace h := h.2 c19
          refine ax_bipush dX_person_49 (by decide) ?_
          exact ax_iret dX_person_51 h
      · replace h := h.2 c37
        refine ax_aloadn 0 dX_person_30 rfl rfl ?_
        refine ax_getr dX_person_31 fX_19 sX_0 rfl ?_
        refine ax_iloadn 2 dX_person_34 rfl rfl ?_
        refine ax_callV (dp2 := 0) (as := [.inl a2]) (st := []) dX_person_35 lX_94 sX_2 ⟨_, _, rfl⟩ rfl rfl (Nat.le_of_ble_eq_true rfl) (by decide) ?_
        refine ax_C_mono (fun r20 M21 h => ?_) h
        refine ax_if_ne (tgt := 52) dX_person_38 (by decide) (fun c36 => ?_) (fun c36 => ?_)
        · replace h := h.1 c36
          refine ax_aloadn 0 dX_person_52 rfl rfl ?_
          refine ax_getr dX_person_53 fX_10 sX_0 rfl ?_
          refine ax_iloadn 3 dX_person_56 rfl rfl ?_
          refine ax_iload 4 dX_person_57 rfl ?_
          refine ax_iload 5 dX_person_59 rfl ?_
          refine ax_callV (dp2 := 1) (as := [.inl a3, .inl a4, .inl a5]) (st := []) dX_person_61 lX_98 sX_1 ⟨_, _, rfl⟩ rfl rfl (Nat.le_of_ble_eq_true rfl) (by decide) ?_
          refine ax_C_mono (fun r22 M23 h => ?_) h
          refine ax_if_eq (tgt := 89) dX_person_64 (by decide) (fun c35 => ?_) (fun c35 => ?_)
          · replace h := h.1 c35
            refine ax_bipush dX_person_89 (by decide) ?_
            exact ax_iret dX_person_91 h
          · replace h := h.2 c35
            refine ax_iload 6 dX_person_67 rfl ?_
            refine ax_iconst dX_person_69 (by decide) ?_
            refine ax_iconst dX_person_70 (by decide) ?_
            refine ax_callS (dp2 := 0) (as := [.inl a6, .inl 0, .inl 3]) (st := []) dX_person_71 lX_70 rfl rfl (Nat.le_of_ble_eq_true rfl) (by decide) ?_
            refine ax_C_mono (fun r24 M25 h => ?_) h
            refine ax_if_ne (tgt := 89) dX_person_74 (by decide) (fun c34 => ?_) (fun c34 => ?_)
            · replace h := h.1 c34
              refine ax_bipush dX_person_89 (by decide) ?_
              exact ax_iret dX_person_91 h
            · replace h := h.2 c34
              refine ax_iload 7 dX_person_77 rfl ?_
              refine ax_iconst dX_person_79 (by decide) ?_
              refine ax_sipush dX_person_80 (by decide) ?_
              refine ax_callS (dp2 := 0) (as := [.inl a7, .inl 0, .inl 999]) (st := []) dX_person_83 lX_70 rfl rfl (Nat.le_of_ble_eq_true rfl) (by decide) ?_
              refine ax_C_mono (fun r26 M27 h => ?_) h
              refine ax_if_eq (tgt := 92) dX_person_86 (by decide) (fun c33 => ?_) (fun c33 => ?_)
              · replace h := h.1 c33
                refine ax_aloadn 0 dX_person_92 rfl rfl ?_
                refine ax_getr dX_person_93 fX_19 sX_0 rfl ?_
                refine ax_iloadn 3 dX_person_96 rfl rfl ?_
                refine ax_iload 4 dX_person_97 rfl ?_
                refine ax_iload 5 dX_person_99 rfl ?_
                refine ax_callV (dp2 := 0) (as := [.inl a3, .inl a4, .inl a5]) (st := []) dX_person_101 lX_101 sX_2 ⟨_, _, rfl⟩ rfl rfl (Nat.le_of_ble_eq_true rfl) (by decide) ?_
                refine ax_C_mono (fun r28 M29 h => ?_) h
                refine ax_if_eq (tgt := 110) dX_person_104 (by decide) (fun c32 => ?_) (fun c32 => ?_)
                · replace h := h.1 c32
                  refine ax_aloadn 0 dX_person_110 rfl rfl ?_
                  refine ax_getr dX_person_111 fX_19 sX_0 rfl ?_
                  refine ax_geti dX_person_114 fX_78 sX_2 rfl ?_
                  refine ax_bipush dX_person_117 (by decide) ?_
                  refine ax_icmp_lt (tgt := 125) dX_person_119 (by decide) (fun c31 => ?_) (fun c31 => ?_)
                  · replace h := h.1 c31
                    refine ax_aloadn 0 dX_person_125 rfl rfl ?_
                    refine ax_getr dX_person_126 fX_19 sX_0 rfl ?_
                    refine ax_geti dX_person_129 fX_78 sX_2 rfl ?_
                    refine ax_istore dX_person_132 (by decide) rfl ?_
                    refine ax_aloadn 1 dX_person_134 rfl rfl ?_
                    refine ax_getr dX_person_135 fX_19 sX_0 rfl ?_
                    refine ax_getr dX_person_138 fX_104 sX_2 rfl ?_
                    refine ax_iload 0 dX_person_141 rfl ?_
                    refine ax_iloadn 2 dX_person_143 rfl rfl ?_
                    obtain ⟨q30, h⟩ := h
                    refine ax_iast dX_person_144 sX_3 q30.1 q30.2 ?_
                    refine ax_aloadn 1 dX_person_145 rfl rfl ?_
                    refine ax_getr dX_person_146 fX_19 sX_0 rfl ?_
                    refine ax_getr dX_person_149 fX_108 sX_2 rfl ?_
                    refine ax_iload 0 dX_person_152 rfl ?_
                    refine ax_iloadn 3 dX_person_154 rfl rfl ?_
                    refine ax_iast dX_person_155 sX_4 (by omega) (by omega) ?_
                    refine ax_aloadn 1 dX_person_156 rfl rfl ?_
                    refine ax_getr dX_person_157 fX_19 sX_0 rfl ?_
                    refine ax_getr dX_person_160 fX_111 sX_2 rfl ?_
                    refine ax_iload 0 dX_person_163 rfl ?_
                    refine ax_iloadn 4 dX_person_165 rfl rfl ?_
                    refine ax_iast dX_person_166 sX_5 (by omega) (by omega) ?_
                    refine ax_aloadn 1 dX_person_167 rfl rfl ?_
                    refine ax_getr dX_person_168 fX_19 sX_0 rfl ?_
                    refine ax_getr dX_person_171 fX_114 sX_2 rfl ?_
                    refine ax_iload 0 dX_person_174 rfl ?_
                    refine ax_iload 5 dX_person_176 rfl ?_
                    refine ax_iast dX_person_178 sX_6 (by omega) (by omega) ?_
                    refine ax_aloadn 1 dX_person_179 rfl rfl ?_
                    refine ax_getr dX_person_180 fX_19 sX_0 rfl ?_
                    refine ax_getr dX_person_183 fX_117 sX_2 rfl ?_
                    refine ax_iload 0 dX_person_186 rfl ?_
                    refine ax_iload 6 dX_person_188 rfl ?_
                    refine ax_iast dX_person_190 sX_7 (by omega) (by omega) ?_
                    refine ax_aloadn 1 dX_person_191 rfl rfl ?_
                    refine ax_getr dX_person_192 fX_19 sX_0 rfl ?_
                    refine ax_getr dX_person_195 fX_120 sX_2 rfl ?_
                    refine ax_iload 0 dX_person_198 rfl ?_
                    refine ax_iload 7 dX_person_200 rfl ?_
                    refine ax_iast dX_person_202 sX_8 (by omega) (by omega) ?_
                    refine ax_aloadn 1 dX_person_203 rfl rfl ?_
                    refine ax_getr dX_person_204 fX_19 sX_0 rfl ?_
                    refine ax_getr dX_person_207 fX_123 sX_2 rfl ?_
                    refine ax_iload 0 dX_person_210 rfl ?_
                    refine ax_iload 8 dX_person_212 rfl ?_
                    refine ax_iast dX_person_214 sX_9 (by omega) (by omega) ?_
                    refine ax_aloadn 1 dX_person_215 rfl rfl ?_
                    refine ax_getr dX_person_216 fX_19 sX_0 rfl ?_
                    refine ax_dup dX_person_219 rfl ?_
                    refine ax_geti dX_person_220 fX_78 sX_2 rfl ?_
                    refine ax_top (x' := M29 2 7) (by first | rfl | exact ax_u_at _ _ _ _) ?_
                    refine ax_iconst dX_person_223 (by decide) ?_
                    refine ax_iadd dX_person_224 (show ax_r _ from ⟨by omega, by omega⟩) ?_
                    refine ax_puti dX_person_225 pX_78 sX_2 rfl ?_
                    refine ax_iload 0 dX_person_228 rfl ?_
                    exact ax_iret dX_person_230 h
                  · replace h := h.2 c31
                    refine ax_bipush dX_person_122 (by decide) ?_
                    exact ax_iret dX_person_124 h
                · replace h := h.2 c32
                  refine ax_bipush dX_person_107 (by decide) ?_
                  exact ax_iret dX_person_109 h
              · replace h := h.2 c33
                refine ax_bipush dX_person_89 (by decide) ?_
                exact ax_iret dX_person_91 h
        · replace h := h.2 c36
          refine ax_goto (tgt := 49) dX_person_41 (by decide) ?_
          refine ax_bipush dX_person_49 (by decide) ?_
          exact ax_iret dX_person_51 h
    · replace h := h.2 c38
      refine ax_bipush dX_person_22 (by decide) ?_
      exact ax_iret dX_person_24 h
  · replace h := h.2 c39
    refine ax_bipush dX_person_10 (by decide) ?_
    exact ax_iret dX_person_12 h
theorem eX_person {P : Int → ax_Mem → Prop} {M : ax_Mem} {a1 a2 a3 a4 a5 a6 a7 : Int} (h : kC_isMissing [.inr (.inr 1)] M (fun r1 M2 => (r1 = 0 → kX_outside [.inl a1, .inl 0, .inl 3] M2 (fun r3 M4 => (r3 = 0 → (¬ a1 = 3 → (a2 = (-1) → kC_hasSeat [.inr (.inr 1), .inl a3, .inl a4, .inl a5] M4 (fun r5 M6 => (r5 = 0 → P (-102) M6) ∧ (¬ r5 = 0 → kX_outside [.inl a6, .inl 0, .inl 3] M6 (fun r7 M8 => (¬ r7 = 0 → P (-102) M8) ∧ (r7 = 0 → kX_outside [.inl a7, .inl 0, .inl 999] M8 (fun r9 M10 => (r9 = 0 → kE_haveSeat [.inr (.inr 2), .inl a3, .inl a4, .inl a5] M10 (fun r11 M12 => (r11 = 0 → ((M12 2 7) < 12 → (0 ≤ (M12 2 7) ∧ (M12 2 7) < 12) ∧ P (M12 2 7) (ax_u (ax_u (ax_u (ax_u (ax_u (ax_u (ax_u (ax_u M12 3 ((M12 2 7).toNat) a1) 4 ((M12 2 7).toNat) a2) 5 ((M12 2 7).toNat) a3) 6 ((M12 2 7).toNat) a4) 7 ((M12 2 7).toNat) a5) 8 ((M12 2 7).toNat) a6) 9 ((M12 2 7).toNat) a7) 2 7 ((M12 2 7) + 1))) ∧ (¬ (M12 2 7) < 12 → P (-104) M12)) ∧ (¬ r11 = 0 → P (-103) M12))) ∧ (¬ r9 = 0 → P (-102) M10))))))) ∧ (¬ a2 = (-1) → P (-101) M4)) ∧ (a1 = 3 → kE_has [.inr (.inr 2), .inl a2] M4 (fun r20 M21 => (¬ r20 = 0 → kC_hasSeat [.inr (.inr 1), .inl a3, .inl a4, .inl a5] M21 (fun r22 M23 => (r22 = 0 → P (-102) M23) ∧ (¬ r22 = 0 → kX_outside [.inl a6, .inl 0, .inl 3] M23 (fun r24 M25 => (¬ r24 = 0 → P (-102) M25) ∧ (r24 = 0 → kX_outside [.inl a7, .inl 0, .inl 999] M25 (fun r26 M27 => (r26 = 0 → kE_haveSeat [.inr (.inr 2), .inl a3, .inl a4, .inl a5] M27 (fun r28 M29 => (r28 = 0 → ((M29 2 7) < 12 → (0 ≤ (M29 2 7) ∧ (M29 2 7) < 12) ∧ P (M29 2 7) (ax_u (ax_u (ax_u (ax_u (ax_u (ax_u (ax_u (ax_u M29 3 ((M29 2 7).toNat) a1) 4 ((M29 2 7).toNat) a2) 5 ((M29 2 7).toNat) a3) 6 ((M29 2 7).toNat) a4) 7 ((M29 2 7).toNat) a5) 8 ((M29 2 7).toNat) a6) 9 ((M29 2 7).toNat) a7) 2 7 ((M29 2 7) + 1))) ∧ (¬ (M29 2 7) < 12 → P (-104) M29)) ∧ (¬ r28 = 0 → P (-103) M29))) ∧ (¬ r26 = 0 → P (-102) M27))))))) ∧ (r20 = 0 → P (-101) M21)))) ∧ (¬ r3 = 0 → P (-102) M4))) ∧ (¬ r1 = 0 → P (-103) M2))) : kX_person [.inr (.inr 0), .inl a1, .inl a2, .inl a3, .inl a4, .inl a5, .inl a6, .inl a7] M P := ax_ofJ (by decide) (Nat.le_of_ble_eq_true rfl) (gX_person_0 h)
-- X_as dp 1
theorem gX_as_0 {P : Int → ax_Mem → Prop} {M : ax_Mem} {a1 a2 : Int} (h : kE_has [.inr (.inr 2), .inl a1] M (fun r1 M2 => (¬ r1 = 0 → kX_outside [.inl a2, .inl 0, .inl 3] M2 (fun r3 M4 => (r3 = 0 → kE_isA [.inr (.inr 2), .inl a1, .inl a2] M4 (fun r5 M6 => (r5 = 0 → P (-1) M6) ∧ (¬ r5 = 0 → P a1 M6))) ∧ (¬ r3 = 0 → P (-102) M4))) ∧ (r1 = 0 → P (-101) M2))) : jX_as P 0 [(0, .inr (.inr 0)), (1, .inl a1), (2, .inl a2)] [] M := by
  refine ax_aloadn 0 dX_as_0 rfl rfl ?_
  refine ax_getr dX_as_1 fX_19 sX_0 rfl ?_
  refine ax_iloadn 1 dX_as_4 rfl rfl ?_
  refine ax_callV (dp2 := 0) (as := [.inl a1]) (st := []) dX_as_5 lX_94 sX_2 ⟨_, _, rfl⟩ rfl rfl (Nat.le_of_ble_eq_true rfl) (by decide) ?_
  refine ax_C_mono (fun r1 M2 h => ?_) h
  refine ax_if_ne (tgt := 14) dX_as_8 (by decide) (fun c9 => ?_) (fun c9 => ?_)
  · replace h := h.1 c9
    refine ax_iloadn 2 dX_as_14 rfl rfl ?_
    refine ax_iconst dX_as_15 (by decide) ?_
    refine ax_iconst dX_as_16 (by decide) ?_
    refine ax_callS (dp2 := 0) (as := [.inl a2, .inl 0, .inl 3]) (st := []) dX_as_17 lX_70 rfl rfl (Nat.le_of_ble_eq_true rfl) (by decide) ?_
    refine ax_C_mono (fun r3 M4 h => ?_) h
    refine ax_if_eq (tgt := 26) dX_as_20 (by decide) (fun c8 => ?_) (fun c8 => ?_)
    · replace h := h.1 c8
      refine ax_aloadn 0 dX_as_26 rfl rfl ?_
      refine ax_getr dX_as_27 fX_19 sX_0 rfl ?_
      refine ax_iloadn 1 dX_as_30 rfl rfl ?_
      refine ax_iloadn 2 dX_as_31 rfl rfl ?_
      refine ax_callV (dp2 := 0) (as := [.inl a1, .inl a2]) (st := []) dX_as_32 lX_126 sX_2 ⟨_, _, rfl⟩ rfl rfl (Nat.le_of_ble_eq_true rfl) (by decide) ?_
      refine ax_C_mono (fun r5 M6 h => ?_) h
      refine ax_if_eq (tgt := 42) dX_as_35 (by decide) (fun c7 => ?_) (fun c7 => ?_)
      · replace h := h.1 c7
        refine ax_iconst dX_as_42 (by decide) ?_
        exact ax_iret dX_as_43 h
      · replace h := h.2 c7
        refine ax_iloadn 1 dX_as_38 rfl rfl ?_
        refine ax_goto (tgt := 43) dX_as_39 (by decide) ?_
        exact ax_iret dX_as_43 h
    · replace h := h.2 c8
      refine ax_bipush dX_as_23 (by decide) ?_
      exact ax_iret dX_as_25 h
  · replace h := h.2 c9
    refine ax_bipush dX_as_11 (by decide) ?_
    exact ax_iret dX_as_13 h
theorem eX_as {P : Int → ax_Mem → Prop} {M : ax_Mem} {a1 a2 : Int} (h : kE_has [.inr (.inr 2), .inl a1] M (fun r1 M2 => (¬ r1 = 0 → kX_outside [.inl a2, .inl 0, .inl 3] M2 (fun r3 M4 => (r3 = 0 → kE_isA [.inr (.inr 2), .inl a1, .inl a2] M4 (fun r5 M6 => (r5 = 0 → P (-1) M6) ∧ (¬ r5 = 0 → P a1 M6))) ∧ (¬ r3 = 0 → P (-102) M4))) ∧ (r1 = 0 → P (-101) M2))) : kX_as [.inr (.inr 0), .inl a1, .inl a2] M P := ax_ofJ (by decide) (Nat.le_of_ble_eq_true rfl) (gX_as_0 h)
-- X_about dp 1
theorem gX_about_0 {P : Int → ax_Mem → Prop} {M : ax_Mem} {a1 a2 : Int} (h : kE_has [.inr (.inr 2), .inl a1] M (fun r1 M2 => (¬ r1 = 0 → kX_outside [.inl a2, .inl 0, .inl 6] M2 (fun r3 M4 => (r3 = 0 → kE_tell [.inr (.inr 2), .inl a1, .inl a2] M4 (fun r5 M6 => P r5 M6)) ∧ (¬ r3 = 0 → P (-102) M4))) ∧ (r1 = 0 → P (-101) M2))) : jX_about P 0 [(0, .inr (.inr 0)), (1, .inl a1), (2, .inl a2)] [] M := by
  refine ax_aloadn 0 dX_about_0 rfl rfl ?_
  refine ax_getr dX_about_1 fX_19 sX_0 rfl ?_
  refine ax_iloadn 1 dX_about_4 rfl rfl ?_
  refine ax_callV (dp2 := 0) (as := [.inl a1]) (st := []) dX_about_5 lX_94 sX_2 ⟨_, _, rfl⟩ rfl rfl (Nat.le_of_ble_eq_true rfl) (by decide) ?_
  refine ax_C_mono (fun r1 M2 h => ?_) h
  refine ax_if_ne (tgt := 14) dX_about_8 (by decide) (fun c8 => ?_) (fun c8 => ?_)
  · replace h := h.1 c8
    refine ax_iloadn 2 dX_about_14 rfl rfl ?_
    refine ax_iconst dX_about_15 (by decide) ?_
    refine ax_bipush dX_about_16 (by decide) ?_
    refine ax_callS (dp2 := 0) (as := [.inl a2, .inl 0, .inl 6]) (st := []) dX_about_18 lX_70 rfl rfl (Nat.le_of_ble_eq_true rfl) (by decide) ?_
    refine ax_C_mono (fun r3 M4 h => ?_) h
    refine ax_if_eq (tgt := 29) dX_about_21 (by decide) (fun c7 => ?_) (fun c7 => ?_)
    · replace h := h.1 c7
      refine ax_aloadn 0 dX_about_29 rfl rfl ?_
      refine ax_getr dX_about_30 fX_19 sX_0 rfl ?_
      refine ax_iloadn 1 dX_about_33 rfl rfl ?_
      refine ax_iloadn 2 dX_about_34 rfl rfl ?_
      refine ax_callV (dp2 := 0) (as := [.inl a1, .inl a2]) (st := []) dX_about_35 lX_130 sX_2 ⟨_, _, rfl⟩ rfl rfl (Nat.le_of_ble_eq_true rfl) (by decide) ?_
      refine ax_C_mono (fun r5 M6 h => ?_) h
      exact ax_iret dX_about_38 h
    · replace h := h.2 c7
      refine ax_bipush dX_about_24 (by decide) ?_
      refine ax_goto (tgt := 38) dX_about_26 (by decide) ?_
      exact ax_iret dX_about_38 h
  · replace h := h.2 c8
    refine ax_bipush dX_about_11 (by decide) ?_
    exact ax_iret dX_about_13 h
theorem eX_about {P : Int → ax_Mem → Prop} {M : ax_Mem} {a1 a2 : Int} (h : kE_has [.inr (.inr 2), .inl a1] M (fun r1 M2 => (¬ r1 = 0 → kX_outside [.inl a2, .inl 0, .inl 6] M2 (fun r3 M4 => (r3 = 0 → kE_tell [.inr (.inr 2), .inl a1, .inl a2] M4 (fun r5 M6 => P r5 M6)) ∧ (¬ r3 = 0 → P (-102) M4))) ∧ (r1 = 0 → P (-101) M2))) : kX_about [.inr (.inr 0), .inl a1, .inl a2] M P := ax_ofJ (by decide) (Nat.le_of_ble_eq_true rfl) (gX_about_0 h)
-- X_change dp 1
theorem gX_change_0 {P : Int → ax_Mem → Prop} {M : ax_Mem} {a1 a2 a3 : Int} (h : kE_has [.inr (.inr 2), .inl a1] M (fun r1 M2 => (¬ r1 = 0 → kX_outside [.inl a2, .inl 5, .inl 6] M2 (fun r3 M4 => (¬ r3 = 0 → P (-102) M4) ∧ (r3 = 0 → (¬ a2 = 5 → kX_outside [.inl a3, .inl 0, .inl 999] M4 (fun r5 M6 => (r5 = 0 → kE_tell [.inr (.inr 2), .inl a1, .inl a2] M6 (fun r7 M8 => (¬ a2 = 5 → (0 ≤ a1 ∧ a1 < 12) ∧ P r7 (ax_u M8 9 (a1.toNat) a3)) ∧ (a2 = 5 → (0 ≤ a1 ∧ a1 < 12) ∧ P r7 (ax_u M8 8 (a1.toNat) a3)))) ∧ (¬ r5 = 0 → P (-102) M6))) ∧ (a2 = 5 → kX_outside [.inl a3, .inl 0, .inl 3] M4 (fun r13 M14 => (r13 = 0 → kE_tell [.inr (.inr 2), .inl a1, .inl a2] M14 (fun r15 M16 => (¬ a2 = 5 → (0 ≤ a1 ∧ a1 < 12) ∧ P r15 (ax_u M16 9 (a1.toNat) a3)) ∧ (a2 = 5 → (0 ≤ a1 ∧ a1 < 12) ∧ P r15 (ax_u M16 8 (a1.toNat) a3)))) ∧ (¬ r13 = 0 → P (-102) M14)))))) ∧ (r1 = 0 → P (-101) M2))) : jX_change P 0 [(0, .inr (.inr 0)), (1, .inl a1), (2, .inl a2), (3, .inl a3)] [] M := by
  refine ax_aloadn 0 dX_change_0 rfl rfl ?_
  refine ax_getr dX_change_1 fX_19 sX_0 rfl ?_
  refine ax_iloadn 1 dX_change_4 rfl rfl ?_
  refine ax_callV (dp2 := 0) (as := [.inl a1]) (st := []) dX_change_5 lX_94 sX_2 ⟨_, _, rfl⟩ rfl rfl (Nat.le_of_ble_eq_true rfl) (by decide) ?_
  refine ax_C_mono (fun r1 M2 h => ?_) h
  refine ax_if_ne (tgt := 14) dX_change_8 (by decide) (fun c23 => ?_) (fun c23 => ?_)
  · replace h := h.1 c23
    refine ax_iloadn 2 dX_change_14 rfl rfl ?_
    refine ax_iconst dX_change_15 (by decide) ?_
    refine ax_bipush dX_change_16 (by decide) ?_
    refine ax_callS (dp2 := 0) (as := [.inl a2, .inl 5, .inl 6]) (st := []) dX_change_18 lX_70 rfl rfl (Nat.le_of_ble_eq_true rfl) (by decide) ?_
    refine ax_C_mono (fun r3 M4 h => ?_) h
    refine ax_if_ne (tgt := 44) dX_change_21 (by decide) (fun c22 => ?_) (fun c22 => ?_)
    · replace h := h.1 c22
      refine ax_bipush dX_change_44 (by decide) ?_
      exact ax_iret dX_change_46 h
    · replace h := h.2 c22
      refine ax_iloadn 3 dX_change_24 rfl rfl ?_
      refine ax_iconst dX_change_25 (by decide) ?_
      refine ax_iloadn 2 dX_change_26 rfl rfl ?_
      refine ax_iconst dX_change_27 (by decide) ?_
      refine ax_icmp_ne (tgt := 35) dX_change_28 (by decide) (fun c21 => ?_) (fun c21 => ?_)
      · replace h := h.1 c21
        refine ax_sipush dX_change_35 (by decide) ?_
        refine ax_callS (dp2 := 0) (as := [.inl a3, .inl 0, .inl 999]) (st := []) dX_change_38 lX_70 rfl rfl (Nat.le_of_ble_eq_true rfl) (by decide) ?_
        refine ax_C_mono (fun r5 M6 h => ?_) h
        refine ax_if_eq (tgt := 47) dX_change_41 (by decide) (fun c12 => ?_) (fun c12 => ?_)
        · replace h := h.1 c12
          refine ax_aloadn 0 dX_change_47 rfl rfl ?_
          refine ax_getr dX_change_48 fX_19 sX_0 rfl ?_
          refine ax_iloadn 1 dX_change_51 rfl rfl ?_
          refine ax_iloadn 2 dX_change_52 rfl rfl ?_
          refine ax_callV (dp2 := 0) (as := [.inl a1, .inl a2]) (st := []) dX_change_53 lX_130 sX_2 ⟨_, _, rfl⟩ rfl rfl (Nat.le_of_ble_eq_true rfl) (by decide) ?_
          refine ax_C_mono (fun r7 M8 h => ?_) h
          refine ax_istore dX_change_56 (by decide) rfl ?_
          refine ax_iloadn 3 dX_change_58 rfl rfl ?_
          refine ax_iconst dX_change_59 (by decide) ?_
          refine ax_icmp_ne (tgt := 76) dX_change_60 (by decide) (fun c11 => ?_) (fun c11 => ?_)
          · replace h := h.1 c11
            refine ax_aloadn 1 dX_change_76 rfl rfl ?_
            refine ax_getr dX_change_77 fX_19 sX_0 rfl ?_
            refine ax_getr dX_change_80 fX_123 sX_2 rfl ?_
            refine ax_iloadn 2 dX_change_83 rfl rfl ?_
            refine ax_iloadn 4 dX_change_84 rfl rfl ?_
            obtain ⟨q9, h⟩ := h
            refine ax_iast dX_change_85 sX_9 q9.1 q9.2 ?_
            refine ax_iload 0 dX_change_86 rfl ?_
            exact ax_iret dX_change_88 h
          · replace h := h.2 c11
            refine ax_aloadn 1 dX_change_63 rfl rfl ?_
            refine ax_getr dX_change_64 fX_19 sX_0 rfl ?_
            refine ax_getr dX_change_67 fX_120 sX_2 rfl ?_
            refine ax_iloadn 2 dX_change_70 rfl rfl ?_
            refine ax_iloadn 4 dX_change_71 rfl rfl ?_
            obtain ⟨q10, h⟩ := h
            refine ax_iast dX_change_72 sX_8 q10.1 q10.2 ?_
            refine ax_goto (tgt := 86) dX_change_73 (by decide) ?_
            refine ax_iload 0 dX_change_86 rfl ?_
            exact ax_iret dX_change_88 h
        · replace h := h.2 c12
          refine ax_bipush dX_change_44 (by decide) ?_
          exact ax_iret dX_change_46 h
      · replace h := h.2 c21
        refine ax_iconst dX_change_31 (by decide) ?_
        refine ax_goto (tgt := 38) dX_change_32 (by decide) ?_
        refine ax_callS (dp2 := 0) (as := [.inl a3, .inl 0, .inl 3]) (st := []) dX_change_38 lX_70 rfl rfl (Nat.le_of_ble_eq_true rfl) (by decide) ?_
        refine ax_C_mono (fun r13 M14 h => ?_) h
        refine ax_if_eq (tgt := 47) dX_change_41 (by decide) (fun c20 => ?_) (fun c20 => ?_)
        · replace h := h.1 c20
          refine ax_aloadn 0 dX_change_47 rfl rfl ?_
          refine ax_getr dX_change_48 fX_19 sX_0 rfl ?_
          refine ax_iloadn 1 dX_change_51 rfl rfl ?_
          refine ax_iloadn 2 dX_change_52 rfl rfl ?_
          refine ax_callV (dp2 := 0) (as := [.inl a1, .inl a2]) (st := []) dX_change_53 lX_130 sX_2 ⟨_, _, rfl⟩ rfl rfl (Nat.le_of_ble_eq_true rfl) (by decide) ?_
          refine ax_C_mono (fun r15 M16 h => ?_) h
          refine ax_istore dX_change_56 (by decide) rfl ?_
          refine ax_iloadn 3 dX_change_58 rfl rfl ?_
          refine ax_iconst dX_change_59 (by decide) ?_
          refine ax_icmp_ne (tgt := 76) dX_change_60 (by decide) (fun c19 => ?_) (fun c19 => ?_)
          · replace h := h.1 c19
            refine ax_aloadn 1 dX_change_76 rfl rfl ?_
            refine ax_getr dX_change_77 fX_19 sX_0 rfl ?_
            refine ax_getr dX_change_80 fX_123 sX_2 rfl ?_
            refine ax_iloadn 2 dX_change_83 rfl rfl ?_
            refine ax_iloadn 4 dX_change_84 rfl rfl ?_
            obtain ⟨q17, h⟩ := h
            refine ax_iast dX_change_85 sX_9 q17.1 q17.2 ?_
            refine ax_iload 0 dX_change_86 rfl ?_
            exact ax_iret dX_change_88 h
          · replace h := h.2 c19
            refine ax_aloadn 1 dX_change_63 rfl rfl ?_
            refine ax_getr dX_change_64 fX_19 sX_0 rfl ?_
            refine ax_getr dX_change_67 fX_120 sX_2 rfl ?_
            refine ax_iloadn 2 dX_change_70 rfl rfl ?_
            refine ax_iloadn 4 dX_change_71 rfl rfl ?_
            obtain ⟨q18, h⟩ := h
            refine ax_iast dX_change_72 sX_8 q18.1 q18.2 ?_
            refine ax_goto (tgt := 86) dX_change_73 (by decide) ?_
            refine ax_iload 0 dX_change_86 rfl ?_
            exact ax_iret dX_change_88 h
        · replace h := h.2 c20
          refine ax_bipush dX_change_44 (by decide) ?_
          exact ax_iret dX_change_46 h
  · replace h := h.2 c23
    refine ax_bipush dX_change_11 (by decide) ?_
    exact ax_iret dX_change_13 h
theorem eX_change {P : Int → ax_Mem → Prop} {M : ax_Mem} {a1 a2 a3 : Int} (h : kE_has [.inr (.inr 2), .inl a1] M (fun r1 M2 => (¬ r1 = 0 → kX_outside [.inl a2, .inl 5, .inl 6] M2 (fun r3 M4 => (¬ r3 = 0 → P (-102) M4) ∧ (r3 = 0 → (¬ a2 = 5 → kX_outside [.inl a3, .inl 0, .inl 999] M4 (fun r5 M6 => (r5 = 0 → kE_tell [.inr (.inr 2), .inl a1, .inl a2] M6 (fun r7 M8 => (¬ a2 = 5 → (0 ≤ a1 ∧ a1 < 12) ∧ P r7 (ax_u M8 9 (a1.toNat) a3)) ∧ (a2 = 5 → (0 ≤ a1 ∧ a1 < 12) ∧ P r7 (ax_u M8 8 (a1.toNat) a3)))) ∧ (¬ r5 = 0 → P (-102) M6))) ∧ (a2 = 5 → kX_outside [.inl a3, .inl 0, .inl 3] M4 (fun r13 M14 => (r13 = 0 → kE_tell [.inr (.inr 2), .inl a1, .inl a2] M14 (fun r15 M16 => (¬ a2 = 5 → (0 ≤ a1 ∧ a1 < 12) ∧ P r15 (ax_u M16 9 (a1.toNat) a3)) ∧ (a2 = 5 → (0 ≤ a1 ∧ a1 < 12) ∧ P r15 (ax_u M16 8 (a1.toNat) a3)))) ∧ (¬ r13 = 0 → P (-102) M14)))))) ∧ (r1 = 0 → P (-101) M2))) : kX_change [.inr (.inr 0), .inl a1, .inl a2, .inl a3] M P := ax_ofJ (by decide) (Nat.le_of_ble_eq_true rfl) (gX_change_0 h)
-- X_letters dp 2
theorem gX_letters_0 {P : Int → ax_Mem → Prop} {M : ax_Mem} {a1 : Int} (h : kG_lettersIn [.inr (.inl a1)] M (fun r1 M2 => (¬ r1 = (-1) → (-2147483648 ≤ ((M2 13 1) + r1) ∧ ((M2 13 1) + r1) < 2147483648) ∧ (((M2 13 1) + r1) ≤ 16 → kG_write [.inr (.inr 13), .inr (.inl a1), .inl r1] M2 (fun _ M5 => P (M5 13 1) M5)) ∧ (¬ ((M2 13 1) + r1) ≤ 16 → P (-104) M2)) ∧ (r1 = (-1) → P (-102) M2))) : jX_letters P 0 [(0, .inr (.inr 0)), (1, .inr (.inl a1))] [] M := by
  refine ax_lloadn 1 dX_letters_0 rfl rfl ?_
  refine ax_callS (dp2 := 1) (as := [.inr (.inl a1)]) (st := []) dX_letters_1 lX_134 rfl rfl (Nat.le_of_ble_eq_true rfl) (by decide) ?_
  refine ax_C_mono (fun r1 M2 h => ?_) h
  refine ax_istoren dX_letters_4 rfl (by decide) rfl ?_
  refine ax_iloadn 0 dX_letters_5 rfl rfl ?_
  refine ax_iconst dX_letters_6 (by decide) ?_
  refine ax_icmp_ne (tgt := 13) dX_letters_7 (by decide) (fun c7 => ?_) (fun c7 => ?_)
  · replace h := h.1 c7
    refine ax_aloadn 1 dX_letters_13 rfl rfl ?_
    refine ax_getr dX_letters_14 fX_33 sX_0 rfl ?_
    refine ax_geti dX_letters_17 fX_138 sX_13 rfl ?_
    refine ax_iloadn 0 dX_letters_20 rfl rfl ?_
    obtain ⟨q3, h⟩ := h
    refine ax_iadd dX_letters_21 q3 ?_
    refine ax_bipush dX_letters_22 (by decide) ?_
    refine ax_icmp_le (tgt := 30) dX_letters_24 (by decide) (fun c6 => ?_) (fun c6 => ?_)
    · replace h := h.1 c6
      refine ax_aloadn 1 dX_letters_30 rfl rfl ?_
      refine ax_getr dX_letters_31 fX_33 sX_0 rfl ?_
      refine ax_lloadn 2 dX_letters_34 rfl rfl ?_
      refine ax_iloadn 0 dX_letters_35 rfl rfl ?_
      refine ax_callV (dp2 := 1) (as := [.inr (.inl a1), .inl r1]) (st := []) dX_letters_36 lX_139 sX_13 ⟨_, _, rfl⟩ rfl rfl (Nat.le_of_ble_eq_true rfl) (by decide) ?_
      refine ax_C_mono (fun _ M5 h => ?_) h
      refine ax_aloadn 1 dX_letters_39 rfl rfl ?_
      refine ax_getr dX_letters_40 fX_33 sX_0 rfl ?_
      refine ax_geti dX_letters_43 fX_138 sX_13 rfl ?_
      exact ax_iret dX_letters_46 h
    · replace h := h.2 c6
      refine ax_bipush dX_letters_27 (by decide) ?_
      exact ax_iret dX_letters_29 h
  · replace h := h.2 c7
    refine ax_bipush dX_letters_10 (by decide) ?_
    exact ax_iret dX_letters_12 h
theorem eX_letters {P : Int → ax_Mem → Prop} {M : ax_Mem} {a1 : Int} (h : kG_lettersIn [.inr (.inl a1)] M (fun r1 M2 => (¬ r1 = (-1) → (-2147483648 ≤ ((M2 13 1) + r1) ∧ ((M2 13 1) + r1) < 2147483648) ∧ (((M2 13 1) + r1) ≤ 16 → kG_write [.inr (.inr 13), .inr (.inl a1), .inl r1] M2 (fun _ M5 => P (M5 13 1) M5)) ∧ (¬ ((M2 13 1) + r1) ≤ 16 → P (-104) M2)) ∧ (r1 = (-1) → P (-102) M2))) : kX_letters [.inr (.inr 0), .inr (.inl a1)] M P := ax_ofJ (by decide) (Nat.le_of_ble_eq_true rfl) (gX_letters_0 h)
-- X_blank dp 0
theorem gX_blank_0 {P : Int → ax_Mem → Prop} {M : ax_Mem} (h : P (M 13 1) (ax_u M 13 1 0)) : jX_blank P 0 [(0, .inr (.inr 0))] [] M := by
  refine ax_aloadn 0 dX_blank_0 rfl rfl ?_
  refine ax_getr dX_blank_1 fX_33 sX_0 rfl ?_
  refine ax_geti dX_blank_4 fX_138 sX_13 rfl ?_
  refine ax_istoren dX_blank_7 rfl (by decide) rfl ?_
  refine ax_aloadn 1 dX_blank_8 rfl rfl ?_
  refine ax_getr dX_blank_9 fX_33 sX_0 rfl ?_
  refine ax_iconst dX_blank_12 (by decide) ?_
  refine ax_puti dX_blank_13 pX_138 sX_13 rfl ?_
  refine ax_iloadn 0 dX_blank_16 rfl rfl ?_
  exact ax_iret dX_blank_17 h
theorem eX_blank {P : Int → ax_Mem → Prop} {M : ax_Mem} (h : P (M 13 1) (ax_u M 13 1 0)) : kX_blank [.inr (.inr 0)] M P := ax_ofJ (by decide) (Nat.le_of_ble_eq_true rfl) (gX_blank_0 h)
-- X_fault dp 3
theorem gX_fault_0 {P : Int → ax_Mem → Prop} {M : ax_Mem} (h : kG_firstFault [.inr (.inr 13)] M (fun r1 M2 => P r1 M2)) : jX_fault P 0 [(0, .inr (.inr 0))] [] M := by
  refine ax_aloadn 0 dX_fault_0 rfl rfl ?_
  refine ax_getr dX_fault_1 fX_33 sX_0 rfl ?_
  refine ax_callV (dp2 := 2) (as := []) (st := []) dX_fault_4 lX_143 sX_13 ⟨_, _, rfl⟩ rfl rfl (Nat.le_of_ble_eq_true rfl) (by decide) ?_
  refine ax_C_mono (fun r1 M2 h => ?_) h
  exact ax_iret dX_fault_7 h
theorem eX_fault {P : Int → ax_Mem → Prop} {M : ax_Mem} (h : kG_firstFault [.inr (.inr 13)] M (fun r1 M2 => P r1 M2)) : kX_fault [.inr (.inr 0)] M P := ax_ofJ (by decide) (Nat.le_of_ble_eq_true rfl) (gX_fault_0 h)
-- X_call dp 4
theorem gX_call_0 {P : Int → ax_Mem → Prop} {M : ax_Mem} (h : kG_isCall [.inr (.inr 13)] M (fun r1 M2 => (¬ r1 = 0 → ((M2 0 9) < 8 → (0 ≤ (M2 0 9) ∧ (M2 0 9) < 8) ∧ kK_read [.inr (.inr (16 + 3 * (M2 0 9).toNat)), .inr (.inr 13)] M2 (fun _ M5 => (-2147483648 ≤ ((M5 0 9) + 1) ∧ ((M5 0 9) + 1) < 2147483648) ∧ (-2147483648 ≤ (((M5 0 9) + 1) - 1) ∧ (((M5 0 9) + 1) - 1) < 2147483648) ∧ P (((M5 0 9) + 1) - 1) (ax_u (ax_u M5 13 1 0) 0 9 ((M5 0 9) + 1)))) ∧ (¬ (M2 0 9) < 8 → P (-104) M2)) ∧ (r1 = 0 → P (-103) M2))) : jX_call P 0 [(0, .inr (.inr 0))] [] M := by
  refine ax_aloadn 0 dX_call_0 rfl rfl ?_
  refine ax_getr dX_call_1 fX_33 sX_0 rfl ?_
  refine ax_callV (dp2 := 3) (as := []) (st := []) dX_call_4 lX_146 sX_13 ⟨_, _, rfl⟩ rfl rfl (Nat.le_of_ble_eq_true rfl) (by decide) ?_
  refine ax_C_mono (fun r1 M2 h => ?_) h
  refine ax_if_ne (tgt := 13) dX_call_7 (by decide) (fun c9 => ?_) (fun c9 => ?_)
  · replace h := h.1 c9
    refine ax_aloadn 0 dX_call_13 rfl rfl ?_
    refine ax_geti dX_call_14 fX_149 sX_0 rfl ?_
    refine ax_bipush dX_call_17 (by decide) ?_
    refine ax_icmp_lt (tgt := 25) dX_call_19 (by decide) (fun c8 => ?_) (fun c8 => ?_)
    · replace h := h.1 c8
      refine ax_aloadn 0 dX_call_25 rfl rfl ?_
      refine ax_getr dX_call_26 fX_39 sX_0 rfl ?_
      refine ax_aloadn 0 dX_call_29 rfl rfl ?_
      refine ax_geti dX_call_30 fX_149 sX_0 rfl ?_
      obtain ⟨q3, h⟩ := h
      refine ax_aald dX_call_33 (Or.inl rfl) sX_15 q3.1 (sX_calls (ax_tn q3)) ?_
      refine ax_aloadn 0 dX_call_34 rfl rfl ?_
      refine ax_getr dX_call_35 fX_33 sX_0 rfl ?_
      refine ax_callV (dp2 := 0) (as := [.inr (.inr 13)]) (st := []) dX_call_38 lX_152 (sX_call0 (ax_tn q3)) ⟨_, _, rfl⟩ rfl rfl (Nat.le_of_ble_eq_true rfl) (by decide) ?_
      refine ax_C_mono (fun _ M5 h => ?_) h
      refine ax_aloadn 0 dX_call_41 rfl rfl ?_
      refine ax_getr dX_call_42 fX_33 sX_0 rfl ?_
      refine ax_iconst dX_call_45 (by decide) ?_
      refine ax_puti dX_call_46 pX_138 sX_13 rfl ?_
      refine ax_aloadn 0 dX_call_49 rfl rfl ?_
      refine ax_dup dX_call_50 rfl ?_
      refine ax_geti dX_call_51 fX_149 sX_0 rfl ?_
      refine ax_top (x' := M5 0 9) (by first | rfl | exact ax_u_at _ _ _ _) ?_
      refine ax_iconst dX_call_54 (by decide) ?_
      obtain ⟨q6, h⟩ := h
      refine ax_iadd dX_call_55 q6 ?_
      refine ax_puti dX_call_56 pX_149 sX_0 rfl ?_
      refine ax_aloadn 0 dX_call_59 rfl rfl ?_
      refine ax_geti dX_call_60 fX_149 sX_0 rfl ?_
      refine ax_top (x' := (M5 0 9) + 1) (by first | rfl | exact ax_u_at _ _ _ _) ?_
      refine ax_iconst dX_call_63 (by decide) ?_
      obtain ⟨q7, h⟩ := h
      refine ax_isub dX_call_64 q7 ?_
      exact ax_iret dX_call_65 h
    · replace h := h.2 c8
      refine ax_bipush dX_call_22 (by decide) ?_
      exact ax_iret dX_call_24 h
  · replace h := h.2 c9
    refine ax_bipush dX_call_10 (by decide) ?_
    exact ax_iret dX_call_12 h
theorem eX_call {P : Int → ax_Mem → Prop} {M : ax_Mem} (h : kG_isCall [.inr (.inr 13)] M (fun r1 M2 => (¬ r1 = 0 → ((M2 0 9) < 8 → (0 ≤ (M2 0 9) ∧ (M2 0 9) < 8) ∧ kK_read [.inr (.inr (16 + 3 * (M2 0 9).toNat)), .inr (.inr 13)] M2 (fun _ M5 => (-2147483648 ≤ ((M5 0 9) + 1) ∧ ((M5 0 9) + 1) < 2147483648) ∧ (-2147483648 ≤ (((M5 0 9) + 1) - 1) ∧ (((M5 0 9) + 1) - 1) < 2147483648) ∧ P (((M5 0 9) + 1) - 1) (ax_u (ax_u M5 13 1 0) 0 9 ((M5 0 9) + 1)))) ∧ (¬ (M2 0 9) < 8 → P (-104) M2)) ∧ (r1 = 0 → P (-103) M2))) : kX_call [.inr (.inr 0)] M P := ax_ofJ (by decide) (Nat.le_of_ble_eq_true rfl) (gX_call_0 h)
-- X_hasCall dp 0
theorem gX_hasCall_0 {P : Int → ax_Mem → Prop} {M : ax_Mem} {a1 : Int} (h : (a1 < 0 → P 0 M) ∧ (¬ a1 < 0 → ((M 0 9) ≤ a1 → P 0 M) ∧ (¬ (M 0 9) ≤ a1 → P 1 M))) : jX_hasCall P 0 [(0, .inr (.inr 0)), (1, .inl a1)] [] M := by
  refine ax_iloadn 1 dX_hasCall_0 rfl rfl ?_
  refine ax_if_lt (tgt := 16) dX_hasCall_1 (by decide) (fun c2 => ?_) (fun c2 => ?_)
  · replace h := h.1 c2
    refine ax_iconst dX_hasCall_16 (by decide) ?_
    exact ax_zret dX_hasCall_17 (by decide) h
  · replace h := h.2 c2
    refine ax_iloadn 1 dX_hasCall_4 rfl rfl ?_
    refine ax_aloadn 0 dX_hasCall_5 rfl rfl ?_
    refine ax_geti dX_hasCall_6 fX_149 sX_0 rfl ?_
    refine ax_icmp_ge (tgt := 16) dX_hasCall_9 (by decide) (fun c1 => ?_) (fun c1 => ?_)
    · replace h := h.1 c1
      refine ax_iconst dX_hasCall_16 (by decide) ?_
      exact ax_zret dX_hasCall_17 (by decide) h
    · replace h := h.2 c1
      refine ax_iconst dX_hasCall_12 (by decide) ?_
      refine ax_goto (tgt := 17) dX_hasCall_13 (by decide) ?_
      exact ax_zret dX_hasCall_17 (by decide) h
theorem eX_hasCall {P : Int → ax_Mem → Prop} {M : ax_Mem} {a1 : Int} (h : (a1 < 0 → P 0 M) ∧ (¬ a1 < 0 → ((M 0 9) ≤ a1 → P 0 M) ∧ (¬ (M 0 9) ≤ a1 → P 1 M))) : kX_hasCall [.inr (.inr 0), .inl a1] M P := ax_ofJ (by decide) (Nat.le_of_ble_eq_true rfl) (gX_hasCall_0 h)
-- X_refusalOf dp 1
theorem gX_refusalOf_0 {P : Int → ax_Mem → Prop} {M : ax_Mem} {a1 : Int} (h : kX_hasCall [.inr (.inr 0), .inl a1] M (fun r1 M2 => (¬ r1 = 0 → kC_isMissing [.inr (.inr 1)] M2 (fun r3 M4 => (r3 = 0 → P 0 M4) ∧ (¬ r3 = 0 → P (-103) M4))) ∧ (r1 = 0 → P (-101) M2))) : jX_refusalOf P 0 [(0, .inr (.inr 0)), (1, .inl a1)] [] M := by
  refine ax_aloadn 0 dX_refusalOf_0 rfl rfl ?_
  refine ax_iloadn 1 dX_refusalOf_1 rfl rfl ?_
  refine ax_callV (dp2 := 0) (as := [.inl a1]) (st := []) dX_refusalOf_2 lX_173 sX_0 ⟨_, _, rfl⟩ rfl rfl (Nat.le_of_ble_eq_true rfl) (by decide) ?_
  refine ax_C_mono (fun r1 M2 h => ?_) h
  refine ax_if_ne (tgt := 11) dX_refusalOf_5 (by decide) (fun c6 => ?_) (fun c6 => ?_)
  · replace h := h.1 c6
    refine ax_aloadn 0 dX_refusalOf_11 rfl rfl ?_
    refine ax_getr dX_refusalOf_12 fX_10 sX_0 rfl ?_
    refine ax_callV (dp2 := 0) (as := []) (st := []) dX_refusalOf_15 lX_90 sX_1 ⟨_, _, rfl⟩ rfl rfl (Nat.le_of_ble_eq_true rfl) (by decide) ?_
    refine ax_C_mono (fun r3 M4 h => ?_) h
    refine ax_if_eq (tgt := 26) dX_refusalOf_18 (by decide) (fun c5 => ?_) (fun c5 => ?_)
    · replace h := h.1 c5
      refine ax_iconst dX_refusalOf_26 (by decide) ?_
      exact ax_iret dX_refusalOf_27 h
    · replace h := h.2 c5
      refine ax_bipush dX_refusalOf_21 (by decide) ?_
      refine ax_goto (tgt := 27) dX_refusalOf_23 (by decide) ?_
      exact ax_iret dX_refusalOf_27 h
  · replace h := h.2 c6
    refine ax_bipush dX_refusalOf_8 (by decide) ?_
    exact ax_iret dX_refusalOf_10 h
theorem eX_refusalOf {P : Int → ax_Mem → Prop} {M : ax_Mem} {a1 : Int} (h : kX_hasCall [.inr (.inr 0), .inl a1] M (fun r1 M2 => (¬ r1 = 0 → kC_isMissing [.inr (.inr 1)] M2 (fun r3 M4 => (r3 = 0 → P 0 M4) ∧ (¬ r3 = 0 → P (-103) M4))) ∧ (r1 = 0 → P (-101) M2))) : kX_refusalOf [.inr (.inr 0), .inl a1] M P := ax_ofJ (by decide) (Nat.le_of_ble_eq_true rfl) (gX_refusalOf_0 h)
-- X_lineUp dp 4
theorem gX_lineUp_0 {P : Int → ax_Mem → Prop} {M : ax_Mem} {a1 a2 : Int} (h : (0 ≤ a1 ∧ a1 < 8) ∧ kK_arrange [.inr (.inr (16 + 3 * a1.toNat)), .inr (.inr 40), .inr (.inr 2), .inr (.inr 1), .inl a2] M (fun _ M3 => P 0 M3)) : jX_lineUp P 0 [(0, .inr (.inr 0)), (1, .inl a1), (2, .inl a2)] [] M := by
  refine ax_aloadn 0 dX_lineUp_0 rfl rfl ?_
  refine ax_getr dX_lineUp_1 fX_39 sX_0 rfl ?_
  refine ax_iloadn 1 dX_lineUp_4 rfl rfl ?_
  obtain ⟨q1, h⟩ := h
  refine ax_aald dX_lineUp_5 (Or.inl rfl) sX_15 q1.1 (sX_calls (ax_tn q1)) ?_
  refine ax_aloadn 0 dX_lineUp_6 rfl rfl ?_
  refine ax_getr dX_lineUp_7 fX_46 sX_0 rfl ?_
  refine ax_aloadn 0 dX_lineUp_10 rfl rfl ?_
  refine ax_getr dX_lineUp_11 fX_19 sX_0 rfl ?_
  refine ax_aloadn 0 dX_lineUp_14 rfl rfl ?_
  refine ax_getr dX_lineUp_15 fX_10 sX_0 rfl ?_
  refine ax_iloadn 2 dX_lineUp_18 rfl rfl ?_
  refine ax_callV (dp2 := 3) (as := [.inr (.inr 40), .inr (.inr 2), .inr (.inr 1), .inl a2]) (st := []) dX_lineUp_19 lX_282 (sX_call0 (ax_tn q1)) ⟨_, _, rfl⟩ rfl rfl (Nat.le_of_ble_eq_true rfl) (by decide) ?_
  refine ax_C_mono (fun _ M3 h => ?_) h
  exact ax_vret dX_lineUp_22 h
theorem eX_lineUp {P : Int → ax_Mem → Prop} {M : ax_Mem} {a1 a2 : Int} (h : (0 ≤ a1 ∧ a1 < 8) ∧ kK_arrange [.inr (.inr (16 + 3 * a1.toNat)), .inr (.inr 40), .inr (.inr 2), .inr (.inr 1), .inl a2] M (fun _ M3 => P 0 M3)) : kX_lineUp [.inr (.inr 0), .inl a1, .inl a2] M P := ax_ofJ (by decide) (Nat.le_of_ble_eq_true rfl) (gX_lineUp_0 h)
-- X_order dp 5
theorem gX_order_0 {P : Int → ax_Mem → Prop} {M : ax_Mem} {a1 a2 : Int} (h : kX_refusalOf [.inr (.inr 0), .inl a1] M (fun r1 M2 => (r1 = 0 → kX_outside [.inl a2, .inl 0, .inl 11] M2 (fun r3 M4 => (r3 = 0 → kX_lineUp [.inr (.inr 0), .inl a1, .inl 3] M4 (fun _ M6 => ((M6 40 1) ≤ a2 → P (-1) M6) ∧ (¬ (M6 40 1) ≤ a2 → (0 ≤ a2 ∧ a2 < 12) ∧ P (M6 41 (a2.toNat)) M6))) ∧ (¬ r3 = 0 → P (-102) M4))) ∧ (¬ r1 = 0 → P r1 M2))) : jX_order P 0 [(0, .inr (.inr 0)), (1, .inl a1), (2, .inl a2)] [] M := by
  refine ax_aloadn 0 dX_order_0 rfl rfl ?_
  refine ax_iloadn 1 dX_order_1 rfl rfl ?_
  refine ax_callV (dp2 := 1) (as := [.inl a1]) (st := []) dX_order_2 lX_156 sX_0 ⟨_, _, rfl⟩ rfl rfl (Nat.le_of_ble_eq_true rfl) (by decide) ?_
  refine ax_C_mono (fun r1 M2 h => ?_) h
  refine ax_istoren dX_order_5 rfl (by decide) rfl ?_
  refine ax_iloadn 0 dX_order_6 rfl rfl ?_
  refine ax_if_eq (tgt := 12) dX_order_7 (by decide) (fun c10 => ?_) (fun c10 => ?_)
  · replace h := h.1 c10
    refine ax_iloadn 3 dX_order_12 rfl rfl ?_
    refine ax_iconst dX_order_13 (by decide) ?_
    refine ax_bipush dX_order_14 (by decide) ?_
    refine ax_callS (dp2 := 0) (as := [.inl a2, .inl 0, .inl 11]) (st := []) dX_order_16 lX_70 rfl rfl (Nat.le_of_ble_eq_true rfl) (by decide) ?_
    refine ax_C_mono (fun r3 M4 h => ?_) h
    refine ax_if_eq (tgt := 25) dX_order_19 (by decide) (fun c9 => ?_) (fun c9 => ?_)
    · replace h := h.1 c9
      refine ax_aloadn 1 dX_order_25 rfl rfl ?_
      refine ax_iloadn 2 dX_order_26 rfl rfl ?_
      refine ax_iconst dX_order_27 (by decide) ?_
      refine ax_callV (dp2 := 4) (as := [.inl a1, .inl 3]) (st := []) dX_order_28 lX_160 sX_0 ⟨_, _, rfl⟩ rfl rfl (Nat.le_of_ble_eq_true rfl) (by decide) ?_
      refine ax_C_mono (fun _ M6 h => ?_) h
      refine ax_iloadn 3 dX_order_31 rfl rfl ?_
      refine ax_aloadn 1 dX_order_32 rfl rfl ?_
      refine ax_getr dX_order_33 fX_46 sX_0 rfl ?_
      refine ax_geti dX_order_36 fX_164 sX_40 rfl ?_
      refine ax_icmp_ge (tgt := 54) dX_order_39 (by decide) (fun c8 => ?_) (fun c8 => ?_)
      · replace h := h.1 c8
        refine ax_iconst dX_order_54 (by decide) ?_
        exact ax_iret dX_order_55 h
      · replace h := h.2 c8
        refine ax_aloadn 1 dX_order_42 rfl rfl ?_
        refine ax_getr dX_order_43 fX_46 sX_0 rfl ?_
        refine ax_getr dX_order_46 fX_165 sX_40 rfl ?_
        refine ax_iloadn 3 dX_order_49 rfl rfl ?_
        obtain ⟨q7, h⟩ := h
        refine ax_iald dX_order_50 sX_41 q7.1 q7.2 ?_
        refine ax_goto (tgt := 55) dX_order_51 (by decide) ?_
        exact ax_iret dX_order_55 h
    · replace h := h.2 c9
      refine ax_bipush dX_order_22 (by decide) ?_
      exact ax_iret dX_order_24 h
  · replace h := h.2 c10
    refine ax_iloadn 0 dX_order_10 rfl rfl ?_
    exact ax_iret dX_order_11 h
theorem eX_order {P : Int → ax_Mem → Prop} {M : ax_Mem} {a1 a2 : Int} (h : kX_refusalOf [.inr (.inr 0), .inl a1] M (fun r1 M2 => (r1 = 0 → kX_outside [.inl a2, .inl 0, .inl 11] M2 (fun r3 M4 => (r3 = 0 → kX_lineUp [.inr (.inr 0), .inl a1, .inl 3] M4 (fun _ M6 => ((M6 40 1) ≤ a2 → P (-1) M6) ∧ (¬ (M6 40 1) ≤ a2 → (0 ≤ a2 ∧ a2 < 12) ∧ P (M6 41 (a2.toNat)) M6))) ∧ (¬ r3 = 0 → P (-102) M4))) ∧ (¬ r1 = 0 → P r1 M2))) : kX_order [.inr (.inr 0), .inl a1, .inl a2] M P := ax_ofJ (by decide) (Nat.le_of_ble_eq_true rfl) (gX_order_0 h)
-- X_boardBy dp 5
theorem gX_boardBy_0 {P : Int → ax_Mem → Prop} {M : ax_Mem} {a1 a2 a3 : Int} (h : kX_lineUp [.inr (.inr 0), .inl a1, .inl a2] M (fun _ M2 => kB_openWhole [.inr (.inr 44), .inr (.inr 1), .inl a2] M2 (fun _ M4 => kB_run [.inr (.inr 44), .inr (.inr 40), .inl a3] M4 (fun _ M6 => P 0 M6)))) : jX_boardBy P 0 [(0, .inr (.inr 0)), (1, .inl a1), (2, .inl a2), (3, .inl a3)] [] M := by
  refine ax_aloadn 0 dX_boardBy_0 rfl rfl ?_
  refine ax_iloadn 1 dX_boardBy_1 rfl rfl ?_
  refine ax_iloadn 2 dX_boardBy_2 rfl rfl ?_
  refine ax_callV (dp2 := 4) (as := [.inl a1, .inl a2]) (st := []) dX_boardBy_3 lX_160 sX_0 ⟨_, _, rfl⟩ rfl rfl (Nat.le_of_ble_eq_true rfl) (by decide) ?_
  refine ax_C_mono (fun _ M2 h => ?_) h
  refine ax_aloadn 0 dX_boardBy_6 rfl rfl ?_
  refine ax_getr dX_boardBy_7 fX_59 sX_0 rfl ?_
  refine ax_aloadn 0 dX_boardBy_10 rfl rfl ?_
  refine ax_getr dX_boardBy_11 fX_10 sX_0 rfl ?_
  refine ax_iloadn 2 dX_boardBy_14 rfl rfl ?_
  refine ax_callV (dp2 := 2) (as := [.inr (.inr 1), .inl a2]) (st := []) dX_boardBy_15 lX_208 sX_44 ⟨_, _, rfl⟩ rfl rfl (Nat.le_of_ble_eq_true rfl) (by decide) ?_
  refine ax_C_mono (fun _ M4 h => ?_) h
  refine ax_aloadn 0 dX_boardBy_18 rfl rfl ?_
  refine ax_getr dX_boardBy_19 fX_59 sX_0 rfl ?_
  refine ax_aloadn 0 dX_boardBy_22 rfl rfl ?_
  refine ax_getr dX_boardBy_23 fX_46 sX_0 rfl ?_
  refine ax_iloadn 3 dX_boardBy_26 rfl rfl ?_
  refine ax_callV (dp2 := 3) (as := [.inr (.inr 40), .inl a3]) (st := []) dX_boardBy_27 lX_212 sX_44 ⟨_, _, rfl⟩ rfl rfl (Nat.le_of_ble_eq_true rfl) (by decide) ?_
  refine ax_C_mono (fun _ M6 h => ?_) h
  exact ax_vret dX_boardBy_30 h
theorem eX_boardBy {P : Int → ax_Mem → Prop} {M : ax_Mem} {a1 a2 a3 : Int} (h : kX_lineUp [.inr (.inr 0), .inl a1, .inl a2] M (fun _ M2 => kB_openWhole [.inr (.inr 44), .inr (.inr 1), .inl a2] M2 (fun _ M4 => kB_run [.inr (.inr 44), .inr (.inr 40), .inl a3] M4 (fun _ M6 => P 0 M6)))) : kX_boardBy [.inr (.inr 0), .inl a1, .inl a2, .inl a3] M P := ax_ofJ (by decide) (Nat.le_of_ble_eq_true rfl) (gX_boardBy_0 h)
-- X_board dp 6
theorem gX_board_0 {P : Int → ax_Mem → Prop} {M : ax_Mem} {a1 a2 : Int} (h : kX_refusalOf [.inr (.inr 0), .inl a1] M (fun r1 M2 => (r1 = 0 → kX_outside [.inl a2, .inl 0, .inl 2] M2 (fun r3 M4 => (r3 = 0 → kX_boardBy [.inr (.inr 0), .inl a1, .inl 3, .inl 9999] M4 (fun _ M6 => kB_tell [.inr (.inr 44), .inl a2] M6 (fun r7 M8 => P r7 M8))) ∧ (¬ r3 = 0 → P (-102) M4))) ∧ (¬ r1 = 0 → P r1 M2))) : jX_board P 0 [(0, .inr (.inr 0)), (1, .inl a1), (2, .inl a2)] [] M := by
  refine ax_aloadn 0 dX_board_0 rfl rfl ?_
  refine ax_iloadn 1 dX_board_1 rfl rfl ?_
  refine ax_callV (dp2 := 1) (as := [.inl a1]) (st := []) dX_board_2 lX_156 sX_0 ⟨_, _, rfl⟩ rfl rfl (Nat.le_of_ble_eq_true rfl) (by decide) ?_
  refine ax_C_mono (fun r1 M2 h => ?_) h
  refine ax_istoren dX_board_5 rfl (by decide) rfl ?_
  refine ax_iloadn 0 dX_board_6 rfl rfl ?_
  refine ax_if_eq (tgt := 12) dX_board_7 (by decide) (fun c10 => ?_) (fun c10 => ?_)
  · replace h := h.1 c10
    refine ax_iloadn 3 dX_board_12 rfl rfl ?_
    refine ax_iconst dX_board_13 (by decide) ?_
    refine ax_iconst dX_board_14 (by decide) ?_
    refine ax_callS (dp2 := 0) (as := [.inl a2, .inl 0, .inl 2]) (st := []) dX_board_15 lX_70 rfl rfl (Nat.le_of_ble_eq_true rfl) (by decide) ?_
    refine ax_C_mono (fun r3 M4 h => ?_) h
    refine ax_if_eq (tgt := 24) dX_board_18 (by decide) (fun c9 => ?_) (fun c9 => ?_)
    · replace h := h.1 c9
      refine ax_aloadn 1 dX_board_24 rfl rfl ?_
      refine ax_iloadn 2 dX_board_25 rfl rfl ?_
      refine ax_iconst dX_board_26 (by decide) ?_
      refine ax_sipush dX_board_27 (by decide) ?_
      refine ax_callV (dp2 := 5) (as := [.inl a1, .inl 3, .inl 9999]) (st := []) dX_board_30 lX_168 sX_0 ⟨_, _, rfl⟩ rfl rfl (Nat.le_of_ble_eq_true rfl) (by decide) ?_
      refine ax_C_mono (fun _ M6 h => ?_) h
      refine ax_aloadn 1 dX_board_33 rfl rfl ?_
      refine ax_getr dX_board_34 fX_59 sX_0 rfl ?_
      refine ax_iloadn 3 dX_board_37 rfl rfl ?_
      refine ax_callV (dp2 := 0) (as := [.inl a2]) (st := []) dX_board_38 lX_171 sX_44 ⟨_, _, rfl⟩ rfl rfl (Nat.le_of_ble_eq_true rfl) (by decide) ?_
      refine ax_C_mono (fun r7 M8 h => ?_) h
      exact ax_iret dX_board_41 h
    · replace h := h.2 c9
      refine ax_bipush dX_board_21 (by decide) ?_
      exact ax_iret dX_board_23 h
  · replace h := h.2 c10
    refine ax_iloadn 0 dX_board_10 rfl rfl ?_
    exact ax_iret dX_board_11 h
theorem eX_board {P : Int → ax_Mem → Prop} {M : ax_Mem} {a1 a2 : Int} (h : kX_refusalOf [.inr (.inr 0), .inl a1] M (fun r1 M2 => (r1 = 0 → kX_outside [.inl a2, .inl 0, .inl 2] M2 (fun r3 M4 => (r3 = 0 → kX_boardBy [.inr (.inr 0), .inl a1, .inl 3, .inl 9999] M4 (fun _ M6 => kB_tell [.inr (.inr 44), .inl a2] M6 (fun r7 M8 => P r7 M8))) ∧ (¬ r3 = 0 → P (-102) M4))) ∧ (¬ r1 = 0 → P r1 M2))) : kX_board [.inr (.inr 0), .inl a1, .inl a2] M P := ax_ofJ (by decide) (Nat.le_of_ble_eq_true rfl) (gX_board_0 h)
-- X_sits dp 6
theorem gX_sits_0 {P : Int → ax_Mem → Prop} {M : ax_Mem} {a1 a2 a3 : Int} (h : kX_hasCall [.inr (.inr 0), .inl a1] M (fun r1 M2 => (r1 = 0 → P (-101) M2) ∧ (¬ r1 = 0 → kE_has [.inr (.inr 2), .inl a2] M2 (fun r3 M4 => (¬ r3 = 0 → kX_outside [.inl a3, .inl 0, .inl 4] M4 (fun r5 M6 => (r5 = 0 → kX_boardBy [.inr (.inr 0), .inl a1, .inl 3, .inl 9999] M6 (fun _ M8 => kB_tellOf [.inr (.inr 44), .inl a2, .inl a3] M8 (fun r9 M10 => P r9 M10))) ∧ (¬ r5 = 0 → P (-102) M6))) ∧ (r3 = 0 → P (-101) M4))))) : jX_sits P 0 [(0, .inr (.inr 0)), (1, .inl a1), (2, .inl a2), (3, .inl a3)] [] M := by
  refine ax_aloadn 0 dX_sits_0 rfl rfl ?_
  refine ax_iloadn 1 dX_sits_1 rfl rfl ?_
  refine ax_callV (dp2 := 0) (as := [.inl a1]) (st := []) dX_sits_2 lX_173 sX_0 ⟨_, _, rfl⟩ rfl rfl (Nat.le_of_ble_eq_true rfl) (by decide) ?_
  refine ax_C_mono (fun r1 M2 h => ?_) h
  refine ax_if_eq (tgt := 19) dX_sits_5 (by decide) (fun c13 => ?_) (fun c13 => ?_)
  · replace h := h.1 c13
    refine ax_bipush dX_sits_19 (by decide) ?_
    exact ax_iret dX_sits_21 h
  · replace h := h.2 c13
    refine ax_aloadn 0 dX_sits_8 rfl rfl ?_
    refine ax_getr dX_sits_9 fX_19 sX_0 rfl ?_
    refine ax_iloadn 2 dX_sits_12 rfl rfl ?_
    refine ax_callV (dp2 := 0) (as := [.inl a2]) (st := []) dX_sits_13 lX_94 sX_2 ⟨_, _, rfl⟩ rfl rfl (Nat.le_of_ble_eq_true rfl) (by decide) ?_
    refine ax_C_mono (fun r3 M4 h => ?_) h
    refine ax_if_ne (tgt := 22) dX_sits_16 (by decide) (fun c12 => ?_) (fun c12 => ?_)
    · replace h := h.1 c12
      refine ax_iloadn 3 dX_sits_22 rfl rfl ?_
      refine ax_iconst dX_sits_23 (by decide) ?_
      refine ax_iconst dX_sits_24 (by decide) ?_
      refine ax_callS (dp2 := 0) (as := [.inl a3, .inl 0, .inl 4]) (st := []) dX_sits_25 lX_70 rfl rfl (Nat.le_of_ble_eq_true rfl) (by decide) ?_
      refine ax_C_mono (fun r5 M6 h => ?_) h
      refine ax_if_eq (tgt := 34) dX_sits_28 (by decide) (fun c11 => ?_) (fun c11 => ?_)
      · replace h := h.1 c11
        refine ax_aloadn 0 dX_sits_34 rfl rfl ?_
        refine ax_iloadn 1 dX_sits_35 rfl rfl ?_
        refine ax_iconst dX_sits_36 (by decide) ?_
        refine ax_sipush dX_sits_37 (by decide) ?_
        refine ax_callV (dp2 := 5) (as := [.inl a1, .inl 3, .inl 9999]) (st := []) dX_sits_40 lX_168 sX_0 ⟨_, _, rfl⟩ rfl rfl (Nat.le_of_ble_eq_true rfl) (by decide) ?_
        refine ax_C_mono (fun _ M8 h => ?_) h
        refine ax_aloadn 0 dX_sits_43 rfl rfl ?_
        refine ax_getr dX_sits_44 fX_59 sX_0 rfl ?_
        refine ax_iloadn 2 dX_sits_47 rfl rfl ?_
        refine ax_iloadn 3 dX_sits_48 rfl rfl ?_
        refine ax_callV (dp2 := 0) (as := [.inl a2, .inl a3]) (st := []) dX_sits_49 lX_176 sX_44 ⟨_, _, rfl⟩ rfl rfl (Nat.le_of_ble_eq_true rfl) (by decide) ?_
        refine ax_C_mono (fun r9 M10 h => ?_) h
        exact ax_iret dX_sits_52 h
      · replace h := h.2 c11
        refine ax_bipush dX_sits_31 (by decide) ?_
        exact ax_iret dX_sits_33 h
    · replace h := h.2 c12
      refine ax_bipush dX_sits_19 (by decide) ?_
      exact ax_iret dX_sits_21 h
theorem eX_sits {P : Int → ax_Mem → Prop} {M : ax_Mem} {a1 a2 a3 : Int} (h : kX_hasCall [.inr (.inr 0), .inl a1] M (fun r1 M2 => (r1 = 0 → P (-101) M2) ∧ (¬ r1 = 0 → kE_has [.inr (.inr 2), .inl a2] M2 (fun r3 M4 => (¬ r3 = 0 → kX_outside [.inl a3, .inl 0, .inl 4] M4 (fun r5 M6 => (r5 = 0 → kX_boardBy [.inr (.inr 0), .inl a1, .inl 3, .inl 9999] M6 (fun _ M8 => kB_tellOf [.inr (.inr 44), .inl a2, .inl a3] M8 (fun r9 M10 => P r9 M10))) ∧ (¬ r5 = 0 → P (-102) M6))) ∧ (r3 = 0 → P (-101) M4))))) : kX_sits [.inr (.inr 0), .inl a1, .inl a2, .inl a3] M P := ax_ofJ (by decide) (Nat.le_of_ble_eq_true rfl) (gX_sits_0 h)
-- X_stands dp 6
theorem gX_stands_0 {P : Int → ax_Mem → Prop} {M : ax_Mem} {a1 a2 a3 : Int} (h : kX_refusalOf [.inr (.inr 0), .inl a1] M (fun r1 M2 => (r1 = 0 → kX_outside [.inl a2, .inl 1, .inl 999] M2 (fun r3 M4 => (¬ r3 = 0 → P (-102) M4) ∧ (r3 = 0 → (-2147483648 ≤ ((M4 1 0) - 1) ∧ ((M4 1 0) - 1) < 2147483648) ∧ kX_outside [.inl a3, .inl 0, .inl ((M4 1 0) - 1)] M4 (fun r6 M7 => (r6 = 0 → kX_boardBy [.inr (.inr 0), .inl a1, .inl 3, .inl a2] M7 (fun _ M9 => (0 ≤ a3 ∧ a3 < 12) ∧ P (M9 53 (a3.toNat)) M9)) ∧ (¬ r6 = 0 → P (-102) M7))))) ∧ (¬ r1 = 0 → P r1 M2))) : jX_stands P 0 [(0, .inr (.inr 0)), (1, .inl a1), (2, .inl a2), (3, .inl a3)] [] M := by
  refine ax_aloadn 0 dX_stands_0 rfl rfl ?_
  refine ax_iloadn 1 dX_stands_1 rfl rfl ?_
  refine ax_callV (dp2 := 1) (as := [.inl a1]) (st := []) dX_stands_2 lX_156 sX_0 ⟨_, _, rfl⟩ rfl rfl (Nat.le_of_ble_eq_true rfl) (by decide) ?_
  refine ax_C_mono (fun r1 M2 h => ?_) h
  refine ax_istore dX_stands_5 (by decide) rfl ?_
  refine ax_iload 0 dX_stands_7 rfl ?_
  refine ax_if_eq (tgt := 15) dX_stands_9 (by decide) (fun c13 => ?_) (fun c13 => ?_)
  · replace h := h.1 c13
    refine ax_iloadn 3 dX_stands_15 rfl rfl ?_
    refine ax_iconst dX_stands_16 (by decide) ?_
    refine ax_sipush dX_stands_17 (by decide) ?_
    refine ax_callS (dp2 := 0) (as := [.inl a2, .inl 1, .inl 999]) (st := []) dX_stands_20 lX_70 rfl rfl (Nat.le_of_ble_eq_true rfl) (by decide) ?_
    refine ax_C_mono (fun r3 M4 h => ?_) h
    refine ax_if_ne (tgt := 43) dX_stands_23 (by decide) (fun c12 => ?_) (fun c12 => ?_)
    · replace h := h.1 c12
      refine ax_bipush dX_stands_43 (by decide) ?_
      exact ax_iret dX_stands_45 h
    · replace h := h.2 c12
      refine ax_iloadn 4 dX_stands_26 rfl rfl ?_
      refine ax_iconst dX_stands_27 (by decide) ?_
      refine ax_aloadn 1 dX_stands_28 rfl rfl ?_
      refine ax_getr dX_stands_29 fX_10 sX_0 rfl ?_
      refine ax_geti dX_stands_32 fX_179 sX_1 rfl ?_
      refine ax_iconst dX_stands_35 (by decide) ?_
      obtain ⟨q5, h⟩ := h
      refine ax_isub dX_stands_36 q5 ?_
      refine ax_callS (dp2 := 0) (as := [.inl a3, .inl 0, .inl ((M4 1 0) - 1)]) (st := []) dX_stands_37 lX_70 rfl rfl (Nat.le_of_ble_eq_true rfl) (by decide) ?_
      refine ax_C_mono (fun r6 M7 h => ?_) h
      refine ax_if_eq (tgt := 46) dX_stands_40 (by decide) (fun c11 => ?_) (fun c11 => ?_)
      · replace h := h.1 c11
        refine ax_aloadn 1 dX_stands_46 rfl rfl ?_
        refine ax_iloadn 2 dX_stands_47 rfl rfl ?_
        refine ax_iconst dX_stands_48 (by decide) ?_
        refine ax_iloadn 3 dX_stands_49 rfl rfl ?_
        refine ax_callV (dp2 := 5) (as := [.inl a1, .inl 3, .inl a2]) (st := []) dX_stands_50 lX_168 sX_0 ⟨_, _, rfl⟩ rfl rfl (Nat.le_of_ble_eq_true rfl) (by decide) ?_
        refine ax_C_mono (fun _ M9 h => ?_) h
        refine ax_aloadn 1 dX_stands_53 rfl rfl ?_
        refine ax_getr dX_stands_54 fX_59 sX_0 rfl ?_
        refine ax_getr dX_stands_57 fX_182 sX_44 rfl ?_
        refine ax_iloadn 4 dX_stands_60 rfl rfl ?_
        obtain ⟨q10, h⟩ := h
        refine ax_iald dX_stands_61 sX_53 q10.1 q10.2 ?_
        exact ax_iret dX_stands_62 h
      · replace h := h.2 c11
        refine ax_bipush dX_stands_43 (by decide) ?_
        exact ax_iret dX_stands_45 h
  · replace h := h.2 c13
    refine ax_iload 0 dX_stands_12 rfl ?_
    exact ax_iret dX_stands_14 h
theorem eX_stands {P : Int → ax_Mem → Prop} {M : ax_Mem} {a1 a2 a3 : Int} (h : kX_refusalOf [.inr (.inr 0), .inl a1] M (fun r1 M2 => (r1 = 0 → kX_outside [.inl a2, .inl 1, .inl 999] M2 (fun r3 M4 => (¬ r3 = 0 → P (-102) M4) ∧ (r3 = 0 → (-2147483648 ≤ ((M4 1 0) - 1) ∧ ((M4 1 0) - 1) < 2147483648) ∧ kX_outside [.inl a3, .inl 0, .inl ((M4 1 0) - 1)] M4 (fun r6 M7 => (r6 = 0 → kX_boardBy [.inr (.inr 0), .inl a1, .inl 3, .inl a2] M7 (fun _ M9 => (0 ≤ a3 ∧ a3 < 12) ∧ P (M9 53 (a3.toNat)) M9)) ∧ (¬ r6 = 0 → P (-102) M7))))) ∧ (¬ r1 = 0 → P r1 M2))) : kX_stands [.inr (.inr 0), .inl a1, .inl a2, .inl a3] M P := ax_ofJ (by decide) (Nat.le_of_ble_eq_true rfl) (gX_stands_0 h)
-- X_least dp 6
theorem gX_least_0 {P : Int → ax_Mem → Prop} {M : ax_Mem} (h : kC_isMissing [.inr (.inr 1)] M (fun r1 M2 => (r1 = 0 → jX_least P 21 [(0, .inr (.inr 0)), (1, .inl (-1)), (2, .inl 10000), (3, .inl 0)] [] M2) ∧ (¬ r1 = 0 → P (-103) M2))) : jX_least P 0 [(0, .inr (.inr 0))] [] M := by
  refine ax_aloadn 0 dX_least_0 rfl rfl ?_
  refine ax_getr dX_least_1 fX_10 sX_0 rfl ?_
  refine ax_callV (dp2 := 0) (as := []) (st := []) dX_least_4 lX_90 sX_1 ⟨_, _, rfl⟩ rfl rfl (Nat.le_of_ble_eq_true rfl) (by decide) ?_
  refine ax_C_mono (fun r1 M2 h => ?_) h
  refine ax_if_eq (tgt := 13) dX_least_7 (by decide) (fun c3 => ?_) (fun c3 => ?_)
  · replace h := h.1 c3
    refine ax_iconst dX_least_13 (by decide) ?_
    refine ax_istoren dX_least_14 rfl (by decide) rfl ?_
    refine ax_sipush dX_least_15 (by decide) ?_
    refine ax_istoren dX_least_18 rfl (by decide) rfl ?_
    refine ax_iconst dX_least_19 (by decide) ?_
    refine ax_istoren dX_least_20 rfl (by decide) rfl ?_
    exact ax_sub [3, 2, 1, 0] rfl h
  · replace h := h.2 c3
    refine ax_bipush dX_least_10 (by decide) ?_
    exact ax_iret dX_least_12 h
theorem gX_least_21 {P : Int → ax_Mem → Prop} {M : ax_Mem} {v1 v2 v3 : Int} (h : ((M 0 9) ≤ v3 → P v1 M) ∧ (¬ (M 0 9) ≤ v3 → kX_boardBy [.inr (.inr 0), .inl v3, .inl 3, .inl 9999] M (fun _ M2 => (v2 ≤ (M2 44 15) → (-2147483648 ≤ (v3 + 1) ∧ (v3 + 1) < 2147483648) ∧ jX_least P 21 [(0, .inr (.inr 0)), (1, .inl v1), (2, .inl v2), (3, .inl (v3 + 1))] [] M2) ∧ (¬ v2 ≤ (M2 44 15) → (-2147483648 ≤ (v3 + 1) ∧ (v3 + 1) < 2147483648) ∧ jX_least P 21 [(0, .inr (.inr 0)), (1, .inl v3), (2, .inl (M2 44 15)), (3, .inl (v3 + 1))] [] M2)))) : jX_least P 21 [(0, .inr (.inr 0)), (1, .inl v1), (2, .inl v2), (3, .inl v3)] [] M := by
  refine ax_iloadn 3 dX_least_21 rfl rfl ?_
  refine ax_aloadn 0 dX_least_22 rfl rfl ?_
  refine ax_geti dX_least_23 fX_149 sX_0 rfl ?_
  refine ax_icmp_ge (tgt := 65) dX_least_26 (by decide) (fun c6 => ?_) (fun c6 => ?_)
  · replace h := h.1 c6
    refine ax_iloadn 1 dX_least_65 rfl rfl ?_
    exact ax_iret dX_least_66 h
  · replace h := h.2 c6
    refine ax_aloadn 0 dX_least_29 rfl rfl ?_
    refine ax_iloadn 3 dX_least_30 rfl rfl ?_
    refine ax_iconst dX_least_31 (by decide) ?_
    refine ax_sipush dX_least_32 (by decide) ?_
    refine ax_callV (dp2 := 5) (as := [.inl v3, .inl 3, .inl 9999]) (st := []) dX_least_35 lX_168 sX_0 ⟨_, _, rfl⟩ rfl rfl (Nat.le_of_ble_eq_true rfl) (by decide) ?_
    refine ax_C_mono (fun _ M2 h => ?_) h
    refine ax_aloadn 0 dX_least_38 rfl rfl ?_
    refine ax_getr dX_least_39 fX_59 sX_0 rfl ?_
    refine ax_geti dX_least_42 fX_185 sX_44 rfl ?_
    refine ax_iloadn 2 dX_least_45 rfl rfl ?_
    refine ax_icmp_ge (tgt := 59) dX_least_46 (by decide) (fun c5 => ?_) (fun c5 => ?_)
    · replace h := h.1 c5
      obtain ⟨q3, h⟩ := h
      refine ax_iinc (j := 3) dX_least_59 rfl (by decide) q3 rfl ?_
      refine ax_goto (tgt := 21) dX_least_62 (by decide) ?_
      exact ax_sub [1, 2, 3, 0] rfl h
    · replace h := h.2 c5
      refine ax_aloadn 0 dX_least_49 rfl rfl ?_
      refine ax_getr dX_least_50 fX_59 sX_0 rfl ?_
      refine ax_geti dX_least_53 fX_185 sX_44 rfl ?_
      refine ax_istoren dX_least_56 rfl (by decide) rfl ?_
      refine ax_iloadn 3 dX_least_57 rfl rfl ?_
      refine ax_istoren dX_least_58 rfl (by decide) rfl ?_
      obtain ⟨q4, h⟩ := h
      refine ax_iinc (j := 3) dX_least_59 rfl (by decide) q4 rfl ?_
      refine ax_goto (tgt := 21) dX_least_62 (by decide) ?_
      exact ax_sub [3, 1, 2, 0] rfl h
theorem eX_least {P : Int → ax_Mem → Prop} {M : ax_Mem} (h : kC_isMissing [.inr (.inr 1)] M (fun r1 M2 => (r1 = 0 → jX_least P 21 [(0, .inr (.inr 0)), (1, .inl (-1)), (2, .inl 10000), (3, .inl 0)] [] M2) ∧ (¬ r1 = 0 → P (-103) M2))) : kX_least [.inr (.inr 0)] M P := ax_ofJ (by decide) (Nat.le_of_ble_eq_true rfl) (gX_least_0 h)
-- X_findBest dp 5
theorem gX_findBest_0 {P : Int → ax_Mem → Prop} {M : ax_Mem} (h : kB_openWhole [.inr (.inr 44), .inr (.inr 1), .inl 3] M (fun _ M2 => kN_byNumber [.inr (.inr 40), .inl (M2 2 7)] M2 (fun _ M4 => kN_copy [.inr (.inr 42), .inr (.inr 40)] M4 (fun _ M6 => jX_findBest P 43 [(0, .inr (.inr 0)), (1, .inl 10000), (2, .inl 0)] [] M6)))) : jX_findBest P 0 [(0, .inr (.inr 0))] [] M := by
  refine ax_aloadn 0 dX_findBest_0 rfl rfl ?_
  refine ax_getr dX_findBest_1 fX_59 sX_0 rfl ?_
  refine ax_aloadn 0 dX_findBest_4 rfl rfl ?_
  refine ax_getr dX_findBest_5 fX_10 sX_0 rfl ?_
  refine ax_iconst dX_findBest_8 (by decide) ?_
  refine ax_callV (dp2 := 2) (as := [.inr (.inr 1), .inl 3]) (st := []) dX_findBest_9 lX_208 sX_44 ⟨_, _, rfl⟩ rfl rfl (Nat.le_of_ble_eq_true rfl) (by decide) ?_
  refine ax_C_mono (fun _ M2 h => ?_) h
  refine ax_aloadn 0 dX_findBest_12 rfl rfl ?_
  refine ax_getr dX_findBest_13 fX_46 sX_0 rfl ?_
  refine ax_aloadn 0 dX_findBest_16 rfl rfl ?_
  refine ax_getr dX_findBest_17 fX_19 sX_0 rfl ?_
  refine ax_geti dX_findBest_20 fX_78 sX_2 rfl ?_
  refine ax_callV (dp2 := 1) (as := [.inl (M2 2 7)]) (st := []) dX_findBest_23 lX_219 sX_40 ⟨_, _, rfl⟩ rfl rfl (Nat.le_of_ble_eq_true rfl) (by decide) ?_
  refine ax_C_mono (fun _ M4 h => ?_) h
  refine ax_aloadn 0 dX_findBest_26 rfl rfl ?_
  refine ax_getr dX_findBest_27 fX_50 sX_0 rfl ?_
  refine ax_aloadn 0 dX_findBest_30 rfl rfl ?_
  refine ax_getr dX_findBest_31 fX_46 sX_0 rfl ?_
  refine ax_callV (dp2 := 1) (as := [.inr (.inr 40)]) (st := []) dX_findBest_34 lX_286 sX_42 ⟨_, _, rfl⟩ rfl rfl (Nat.le_of_ble_eq_true rfl) (by decide) ?_
  refine ax_C_mono (fun _ M6 h => ?_) h
  refine ax_sipush dX_findBest_37 (by decide) ?_
  refine ax_istoren dX_findBest_40 rfl (by decide) rfl ?_
  refine ax_iconst dX_findBest_41 (by decide) ?_
  refine ax_istoren dX_findBest_42 rfl (by decide) rfl ?_
  exact ax_sub [2, 1, 0] rfl h
theorem gX_findBest_43 {P : Int → ax_Mem → Prop} {M : ax_Mem} {v1 v2 : Int} (h : (720 ≤ v2 → P v1 M) ∧ (¬ 720 ≤ v2 → (-2147483648 ≤ (v1 - 1) ∧ (v1 - 1) < 2147483648) ∧ kB_isThrough [.inr (.inr 44), .inr (.inr 40), .inl (v1 - 1)] M (fun r2 M3 => (r2 = 0 → kN_goToNext [.inr (.inr 40)] M3 (fun r4 M5 => (¬ r4 = 0 → (-2147483648 ≤ (v2 + 1) ∧ (v2 + 1) < 2147483648) ∧ jX_findBest P 43 [(0, .inr (.inr 0)), (1, .inl v1), (2, .inl (v2 + 1))] [] M5) ∧ (r4 = 0 → P v1 M5))) ∧ (¬ r2 = 0 → kN_copy [.inr (.inr 42), .inr (.inr 40)] M3 (fun _ M9 => kN_goToNext [.inr (.inr 40)] M9 (fun r10 M11 => (¬ r10 = 0 → (-2147483648 ≤ (v2 + 1) ∧ (v2 + 1) < 2147483648) ∧ jX_findBest P 43 [(0, .inr (.inr 0)), (1, .inl (M3 44 15)), (2, .inl (v2 + 1))] [] M11) ∧ (r10 = 0 → P (M3 44 15) M11))))))) : jX_findBest P 43 [(0, .inr (.inr 0)), (1, .inl v1), (2, .inl v2)] [] M := by
  refine ax_iloadn 2 dX_findBest_43 rfl rfl ?_
  refine ax_sipush dX_findBest_44 (by decide) ?_
  refine ax_icmp_ge (tgt := 105) dX_findBest_47 (by decide) (fun c15 => ?_) (fun c15 => ?_)
  · replace h := h.1 c15
    refine ax_iloadn 1 dX_findBest_105 rfl rfl ?_
    exact ax_iret dX_findBest_106 h
  · replace h := h.2 c15
    refine ax_aloadn 0 dX_findBest_50 rfl rfl ?_
    refine ax_getr dX_findBest_51 fX_59 sX_0 rfl ?_
    refine ax_aloadn 0 dX_findBest_54 rfl rfl ?_
    refine ax_getr dX_findBest_55 fX_46 sX_0 rfl ?_
    refine ax_iloadn 1 dX_findBest_58 rfl rfl ?_
    refine ax_iconst dX_findBest_59 (by decide) ?_
    obtain ⟨q1, h⟩ := h
    refine ax_isub dX_findBest_60 q1 ?_
    refine ax_callV (dp2 := 4) (as := [.inr (.inr 40), .inl (v1 - 1)]) (st := []) dX_findBest_61 lX_197 sX_44 ⟨_, _, rfl⟩ rfl rfl (Nat.le_of_ble_eq_true rfl) (by decide) ?_
    refine ax_C_mono (fun r2 M3 h => ?_) h
    refine ax_if_eq (tgt := 86) dX_findBest_64 (by decide) (fun c14 => ?_) (fun c14 => ?_)
    · replace h := h.1 c14
      refine ax_aloadn 0 dX_findBest_86 rfl rfl ?_
      refine ax_getr dX_findBest_87 fX_46 sX_0 rfl ?_
      refine ax_callV (dp2 := 1) (as := []) (st := []) dX_findBest_90 lX_290 sX_40 ⟨_, _, rfl⟩ rfl rfl (Nat.le_of_ble_eq_true rfl) (by decide) ?_
      refine ax_C_mono (fun r4 M5 h => ?_) h
      refine ax_if_ne (tgt := 99) dX_findBest_93 (by decide) (fun c7 => ?_) (fun c7 => ?_)
      · replace h := h.1 c7
        obtain ⟨q6, h⟩ := h
        refine ax_iinc (j := 2) dX_findBest_99 rfl (by decide) q6 rfl ?_
        refine ax_goto (tgt := 43) dX_findBest_102 (by decide) ?_
        exact ax_sub [1, 2, 0] rfl h
      · replace h := h.2 c7
        refine ax_goto (tgt := 105) dX_findBest_96 (by decide) ?_
        refine ax_iloadn 1 dX_findBest_105 rfl rfl ?_
        exact ax_iret dX_findBest_106 h
    · replace h := h.2 c14
      refine ax_aloadn 0 dX_findBest_67 rfl rfl ?_
      refine ax_getr dX_findBest_68 fX_59 sX_0 rfl ?_
      refine ax_geti dX_findBest_71 fX_185 sX_44 rfl ?_
      refine ax_istoren dX_findBest_74 rfl (by decide) rfl ?_
      refine ax_aloadn 1 dX_findBest_75 rfl rfl ?_
      refine ax_getr dX_findBest_76 fX_50 sX_0 rfl ?_
      refine ax_aloadn 1 dX_findBest_79 rfl rfl ?_
      refine ax_getr dX_findBest_80 fX_46 sX_0 rfl ?_
      refine ax_callV (dp2 := 1) (as := [.inr (.inr 40)]) (st := []) dX_findBest_83 lX_286 sX_42 ⟨_, _, rfl⟩ rfl rfl (Nat.le_of_ble_eq_true rfl) (by decide) ?_
      refine ax_C_mono (fun _ M9 h => ?_) h
      refine ax_aloadn 1 dX_findBest_86 rfl rfl ?_
      refine ax_getr dX_findBest_87 fX_46 sX_0 rfl ?_
      refine ax_callV (dp2 := 1) (as := []) (st := []) dX_findBest_90 lX_290 sX_40 ⟨_, _, rfl⟩ rfl rfl (Nat.le_of_ble_eq_true rfl) (by decide) ?_
      refine ax_C_mono (fun r10 M11 h => ?_) h
      refine ax_if_ne (tgt := 99) dX_findBest_93 (by decide) (fun c13 => ?_) (fun c13 => ?_)
      · replace h := h.1 c13
        obtain ⟨q12, h⟩ := h
        refine ax_iinc (j := 2) dX_findBest_99 rfl (by decide) q12 rfl ?_
        refine ax_goto (tgt := 43) dX_findBest_102 (by decide) ?_
        exact ax_sub [2, 1, 0] rfl h
      · replace h := h.2 c13
        refine ax_goto (tgt := 105) dX_findBest_96 (by decide) ?_
        refine ax_iloadn 0 dX_findBest_105 rfl rfl ?_
        exact ax_iret dX_findBest_106 h
theorem eX_findBest {P : Int → ax_Mem → Prop} {M : ax_Mem} (h : kB_openWhole [.inr (.inr 44), .inr (.inr 1), .inl 3] M (fun _ M2 => kN_byNumber [.inr (.inr 40), .inl (M2 2 7)] M2 (fun _ M4 => kN_copy [.inr (.inr 42), .inr (.inr 40)] M4 (fun _ M6 => jX_findBest P 43 [(0, .inr (.inr 0)), (1, .inl 10000), (2, .inl 0)] [] M6)))) : kX_findBest [.inr (.inr 0)] M P := ax_ofJ (by decide) (Nat.le_of_ble_eq_true rfl) (gX_findBest_0 h)
-- X_bestOrder dp 6
theorem gX_bestOrder_0 {P : Int → ax_Mem → Prop} {M : ax_Mem} {a1 : Int} (h : kC_isMissing [.inr (.inr 1)] M (fun r1 M2 => (r1 = 0 → kX_outside [.inl a1, .inl 0, .inl 6] M2 (fun r3 M4 => (r3 = 0 → (6 < (M4 2 7) → P (-103) M4) ∧ (¬ 6 < (M4 2 7) → ((M4 0 10) < 20 → (-2147483648 ≤ ((M4 0 10) + 1) ∧ ((M4 0 10) + 1) < 2147483648) ∧ kX_findBest [.inr (.inr 0)] (ax_u M4 0 10 ((M4 0 10) + 1)) (fun r6 M7 => (¬ a1 = 0 → ((M7 42 1) < a1 → P (-1) M7) ∧ (¬ (M7 42 1) < a1 → (-2147483648 ≤ (a1 - 1) ∧ (a1 - 1) < 2147483648) ∧ (0 ≤ (a1 - 1) ∧ (a1 - 1) < 12) ∧ P (M7 43 ((a1 - 1).toNat)) M7)) ∧ (a1 = 0 → P r6 M7))) ∧ (¬ (M4 0 10) < 20 → P (-103) M4))) ∧ (¬ r3 = 0 → P (-102) M4))) ∧ (¬ r1 = 0 → P (-103) M2))) : jX_bestOrder P 0 [(0, .inr (.inr 0)), (1, .inl a1)] [] M := by
  refine ax_aloadn 0 dX_bestOrder_0 rfl rfl ?_
  refine ax_getr dX_bestOrder_1 fX_10 sX_0 rfl ?_
  refine ax_callV (dp2 := 0) (as := []) (st := []) dX_bestOrder_4 lX_90 sX_1 ⟨_, _, rfl⟩ rfl rfl (Nat.le_of_ble_eq_true rfl) (by decide) ?_
  refine ax_C_mono (fun r1 M2 h => ?_) h
  refine ax_if_eq (tgt := 13) dX_bestOrder_7 (by decide) (fun c15 => ?_) (fun c15 => ?_)
  · replace h := h.1 c15
    refine ax_iloadn 1 dX_bestOrder_13 rfl rfl ?_
    refine ax_iconst dX_bestOrder_14 (by decide) ?_
    refine ax_bipush dX_bestOrder_15 (by decide) ?_
    refine ax_callS (dp2 := 0) (as := [.inl a1, .inl 0, .inl 6]) (st := []) dX_bestOrder_17 lX_70 rfl rfl (Nat.le_of_ble_eq_true rfl) (by decide) ?_
    refine ax_C_mono (fun r3 M4 h => ?_) h
    refine ax_if_eq (tgt := 26) dX_bestOrder_20 (by decide) (fun c14 => ?_) (fun c14 => ?_)
    · replace h := h.1 c14
      refine ax_aloadn 0 dX_bestOrder_26 rfl rfl ?_
      refine ax_getr dX_bestOrder_27 fX_19 sX_0 rfl ?_
      refine ax_geti dX_bestOrder_30 fX_78 sX_2 rfl ?_
      refine ax_bipush dX_bestOrder_33 (by decide) ?_
      refine ax_icmp_gt (tgt := 47) dX_bestOrder_35 (by decide) (fun c13 => ?_) (fun c13 => ?_)
      · replace h := h.1 c13
        refine ax_bipush dX_bestOrder_47 (by decide) ?_
        exact ax_iret dX_bestOrder_49 h
      · replace h := h.2 c13
        refine ax_aloadn 0 dX_bestOrder_38 rfl rfl ?_
        refine ax_geti dX_bestOrder_39 fX_188 sX_0 rfl ?_
        refine ax_bipush dX_bestOrder_42 (by decide) ?_
        refine ax_icmp_lt (tgt := 50) dX_bestOrder_44 (by decide) (fun c12 => ?_) (fun c12 => ?_)
        · replace h := h.1 c12
          refine ax_aloadn 0 dX_bestOrder_50 rfl rfl ?_
          refine ax_dup dX_bestOrder_51 rfl ?_
          refine ax_geti dX_bestOrder_52 fX_188 sX_0 rfl ?_
          refine ax_iconst dX_bestOrder_55 (by decide) ?_
          obtain ⟨q5, h⟩ := h
          refine ax_iadd dX_bestOrder_56 q5 ?_
          refine ax_puti dX_bestOrder_57 pX_188 sX_0 rfl ?_
          refine ax_aloadn 0 dX_bestOrder_60 rfl rfl ?_
          refine ax_callV (dp2 := 5) (as := []) (st := []) dX_bestOrder_61 lX_191 sX_0 ⟨_, _, rfl⟩ rfl rfl (Nat.le_of_ble_eq_true rfl) (by decide) ?_
          refine ax_C_mono (fun r6 M7 h => ?_) h
          refine ax_istoren dX_bestOrder_64 rfl (by decide) rfl ?_
          refine ax_iloadn 2 dX_bestOrder_65 rfl rfl ?_
          refine ax_if_ne (tgt := 71) dX_bestOrder_66 (by decide) (fun c11 => ?_) (fun c11 => ?_)
          · replace h := h.1 c11
            refine ax_iloadn 2 dX_bestOrder_71 rfl rfl ?_
            refine ax_aloadn 1 dX_bestOrder_72 rfl rfl ?_
            refine ax_getr dX_bestOrder_73 fX_50 sX_0 rfl ?_
            refine ax_geti dX_bestOrder_76 fX_164 sX_42 rfl ?_
            refine ax_icmp_gt (tgt := 96) dX_bestOrder_79 (by decide) (fun c10 => ?_) (fun c10 => ?_)
            · replace h := h.1 c10
              refine ax_iconst dX_bestOrder_96 (by decide) ?_
              exact ax_iret dX_bestOrder_97 h
            · replace h := h.2 c10
              refine ax_aloadn 1 dX_bestOrder_82 rfl rfl ?_
              refine ax_getr dX_bestOrder_83 fX_50 sX_0 rfl ?_
              refine ax_getr dX_bestOrder_86 fX_165 sX_42 rfl ?_
              refine ax_iloadn 2 dX_bestOrder_89 rfl rfl ?_
              refine ax_iconst dX_bestOrder_90 (by decide) ?_
              obtain ⟨q8, h⟩ := h
              refine ax_isub dX_bestOrder_91 q8 ?_
              obtain ⟨q9, h⟩ := h
              refine ax_iald dX_bestOrder_92 sX_43 q9.1 q9.2 ?_
              refine ax_goto (tgt := 97) dX_bestOrder_93 (by decide) ?_
              exact ax_iret dX_bestOrder_97 h
          · replace h := h.2 c11
            refine ax_iloadn 0 dX_bestOrder_69 rfl rfl ?_
            exact ax_iret dX_bestOrder_70 h
        · replace h := h.2 c12
          refine ax_bipush dX_bestOrder_47 (by decide) ?_
          exact ax_iret dX_bestOrder_49 h
    · replace h := h.2 c14
      refine ax_bipush dX_bestOrder_23 (by decide) ?_
      exact ax_iret dX_bestOrder_25 h
  · replace h := h.2 c15
    refine ax_bipush dX_bestOrder_10 (by decide) ?_
    exact ax_iret dX_bestOrder_12 h
theorem eX_bestOrder {P : Int → ax_Mem → Prop} {M : ax_Mem} {a1 : Int} (h : kC_isMissing [.inr (.inr 1)] M (fun r1 M2 => (r1 = 0 → kX_outside [.inl a1, .inl 0, .inl 6] M2 (fun r3 M4 => (r3 = 0 → (6 < (M4 2 7) → P (-103) M4) ∧ (¬ 6 < (M4 2 7) → ((M4 0 10) < 20 → (-2147483648 ≤ ((M4 0 10) + 1) ∧ ((M4 0 10) + 1) < 2147483648) ∧ kX_findBest [.inr (.inr 0)] (ax_u M4 0 10 ((M4 0 10) + 1)) (fun r6 M7 => (¬ a1 = 0 → ((M7 42 1) < a1 → P (-1) M7) ∧ (¬ (M7 42 1) < a1 → (-2147483648 ≤ (a1 - 1) ∧ (a1 - 1) < 2147483648) ∧ (0 ≤ (a1 - 1) ∧ (a1 - 1) < 12) ∧ P (M7 43 ((a1 - 1).toNat)) M7)) ∧ (a1 = 0 → P r6 M7))) ∧ (¬ (M4 0 10) < 20 → P (-103) M4))) ∧ (¬ r3 = 0 → P (-102) M4))) ∧ (¬ r1 = 0 → P (-103) M2))) : kX_bestOrder [.inr (.inr 0), .inl a1] M P := ax_ofJ (by decide) (Nat.le_of_ble_eq_true rfl) (gX_bestOrder_0 h)
-- X_swap dp 6
theorem gX_swap_0 {P : Int → ax_Mem → Prop} {M : ax_Mem} {a1 : Int} (h : kX_refusalOf [.inr (.inr 0), .inl a1] M (fun r1 M2 => (r1 = 0 → kX_boardBy [.inr (.inr 0), .inl a1, .inl 3, .inl 9999] M2 (fun _ M4 => jX_swap P 35 [(0, .inr (.inr 0)), (3, .inl (M4 44 15)), (4, .inl (-1)), (5, .inl 0)] [] M4)) ∧ (¬ r1 = 0 → P r1 M2))) : jX_swap P 0 [(0, .inr (.inr 0)), (1, .inl a1)] [] M := by
  refine ax_aloadn 0 dX_swap_0 rfl rfl ?_
  refine ax_iloadn 1 dX_swap_1 rfl rfl ?_
  refine ax_callV (dp2 := 1) (as := [.inl a1]) (st := []) dX_swap_2 lX_156 sX_0 ⟨_, _, rfl⟩ rfl rfl (Nat.le_of_ble_eq_true rfl) (by decide) ?_
  refine ax_C_mono (fun r1 M2 h => ?_) h
  refine ax_istoren dX_swap_5 rfl (by decide) rfl ?_
  refine ax_iloadn 0 dX_swap_6 rfl rfl ?_
  refine ax_if_eq (tgt := 12) dX_swap_7 (by decide) (fun c5 => ?_) (fun c5 => ?_)
  · replace h := h.1 c5
    refine ax_aloadn 1 dX_swap_12 rfl rfl ?_
    refine ax_iloadn 2 dX_swap_13 rfl rfl ?_
    refine ax_iconst dX_swap_14 (by decide) ?_
    refine ax_sipush dX_swap_15 (by decide) ?_
    refine ax_callV (dp2 := 5) (as := [.inl a1, .inl 3, .inl 9999]) (st := []) dX_swap_18 lX_168 sX_0 ⟨_, _, rfl⟩ rfl rfl (Nat.le_of_ble_eq_true rfl) (by decide) ?_
    refine ax_C_mono (fun _ M4 h => ?_) h
    refine ax_aloadn 1 dX_swap_21 rfl rfl ?_
    refine ax_getr dX_swap_22 fX_59 sX_0 rfl ?_
    refine ax_geti dX_swap_25 fX_185 sX_44 rfl ?_
    refine ax_istoren dX_swap_28 rfl (by decide) rfl ?_
    refine ax_iconst dX_swap_29 (by decide) ?_
    refine ax_istore dX_swap_30 (by decide) rfl ?_
    refine ax_iconst dX_swap_32 (by decide) ?_
    refine ax_istore dX_swap_33 (by decide) rfl ?_
    exact ax_sub [4, 2, 1, 0] rfl h
  · replace h := h.2 c5
    refine ax_iloadn 0 dX_swap_10 rfl rfl ?_
    exact ax_iret dX_swap_11 h
theorem gX_swap_35 {P : Int → ax_Mem → Prop} {M : ax_Mem} {v3 v4 v5 : Int} (h : ((M 40 1) ≤ v5 → P v4 M) ∧ (¬ (M 40 1) ≤ v5 → (-2147483648 ≤ (v5 + 1) ∧ (v5 + 1) < 2147483648) ∧ jX_swap P 53 [(0, .inr (.inr 0)), (3, .inl v3), (4, .inl v4), (5, .inl v5), (6, .inl (v5 + 1))] [] M)) : jX_swap P 35 [(0, .inr (.inr 0)), (3, .inl v3), (4, .inl v4), (5, .inl v5)] [] M := by
  refine ax_iload 3 dX_swap_35 rfl ?_
  refine ax_aloadn 0 dX_swap_37 rfl rfl ?_
  refine ax_getr dX_swap_38 fX_46 sX_0 rfl ?_
  refine ax_geti dX_swap_41 fX_164 sX_40 rfl ?_
  refine ax_icmp_ge (tgt := 134) dX_swap_44 (by decide) (fun c2 => ?_) (fun c2 => ?_)
  · replace h := h.1 c2
    refine ax_iload 2 dX_swap_134 rfl ?_
    exact ax_iret dX_swap_136 h
  · replace h := h.2 c2
    refine ax_iload 3 dX_swap_47 rfl ?_
    refine ax_iconst dX_swap_49 (by decide) ?_
    obtain ⟨q1, h⟩ := h
    refine ax_iadd dX_swap_50 q1 ?_
    refine ax_istore dX_swap_51 (by decide) rfl ?_
    exact ax_sub [1, 2, 3, 4, 0] rfl h
theorem gX_swap_53 {P : Int → ax_Mem → Prop} {M : ax_Mem} {v3 v4 v5 v6 : Int} (h : ((M 40 1) ≤ v6 → (-2147483648 ≤ (v5 + 1) ∧ (v5 + 1) < 2147483648) ∧ jX_swap P 35 [(0, .inr (.inr 0)), (3, .inl v3), (4, .inl v4), (5, .inl (v5 + 1))] [] M) ∧ (¬ (M 40 1) ≤ v6 → kN_exchange [.inr (.inr 40), .inl v5, .inl v6] M (fun _ M3 => (-2147483648 ≤ (v3 - 1) ∧ (v3 - 1) < 2147483648) ∧ kB_isThrough [.inr (.inr 44), .inr (.inr 40), .inl (v3 - 1)] M3 (fun r5 M6 => (r5 = 0 → kN_exchange [.inr (.inr 40), .inl v5, .inl v6] M6 (fun _ M8 => (-2147483648 ≤ (v6 + 1) ∧ (v6 + 1) < 2147483648) ∧ jX_swap P 53 [(0, .inr (.inr 0)), (3, .inl v3), (4, .inl v4), (5, .inl v5), (6, .inl (v6 + 1))] [] M8)) ∧ (¬ r5 = 0 → (-2147483648 ≤ (16 * v5) ∧ (16 * v5) < 2147483648) ∧ (-2147483648 ≤ ((16 * v5) + v6) ∧ ((16 * v5) + v6) < 2147483648) ∧ kN_exchange [.inr (.inr 40), .inl v5, .inl v6] M6 (fun _ M13 => (-2147483648 ≤ (v6 + 1) ∧ (v6 + 1) < 2147483648) ∧ jX_swap P 53 [(0, .inr (.inr 0)), (3, .inl (M6 44 15)), (4, .inl ((16 * v5) + v6)), (5, .inl v5), (6, .inl (v6 + 1))] [] M13)))))) : jX_swap P 53 [(0, .inr (.inr 0)), (3, .inl v3), (4, .inl v4), (5, .inl v5), (6, .inl v6)] [] M := by
  refine ax_iload 4 dX_swap_53 rfl ?_
  refine ax_aloadn 0 dX_swap_55 rfl rfl ?_
  refine ax_getr dX_swap_56 fX_46 sX_0 rfl ?_
  refine ax_geti dX_swap_59 fX_164 sX_40 rfl ?_
  refine ax_icmp_ge (tgt := 128) dX_swap_62 (by decide) (fun c16 => ?_) (fun c16 => ?_)
  · replace h := h.1 c16
    obtain ⟨q1, h⟩ := h
    refine ax_iinc (j := 3) dX_swap_128 rfl (by decide) q1 rfl ?_
    refine ax_goto (tgt := 35) dX_swap_131 (by decide) ?_
    exact ax_sub [1, 2, 3, 0] rfl h
  · replace h := h.2 c16
    refine ax_aloadn 0 dX_swap_65 rfl rfl ?_
    refine ax_getr dX_swap_66 fX_46 sX_0 rfl ?_
    refine ax_iload 3 dX_swap_69 rfl ?_
    refine ax_iload 4 dX_swap_71 rfl ?_
    refine ax_callV (dp2 := 0) (as := [.inl v5, .inl v6]) (st := []) dX_swap_73 lX_194 sX_40 ⟨_, _, rfl⟩ rfl rfl (Nat.le_of_ble_eq_true rfl) (by decide) ?_
    refine ax_C_mono (fun _ M3 h => ?_) h
    refine ax_aloadn 0 dX_swap_76 rfl rfl ?_
    refine ax_getr dX_swap_77 fX_59 sX_0 rfl ?_
    refine ax_aloadn 0 dX_swap_80 rfl rfl ?_
    refine ax_getr dX_swap_81 fX_46 sX_0 rfl ?_
    refine ax_iloadn 1 dX_swap_84 rfl rfl ?_
    refine ax_iconst dX_swap_85 (by decide) ?_
    obtain ⟨q4, h⟩ := h
    refine ax_isub dX_swap_86 q4 ?_
    refine ax_callV (dp2 := 4) (as := [.inr (.inr 40), .inl (v3 - 1)]) (st := []) dX_swap_87 lX_197 sX_44 ⟨_, _, rfl⟩ rfl rfl (Nat.le_of_ble_eq_true rfl) (by decide) ?_
    refine ax_C_mono (fun r5 M6 h => ?_) h
    refine ax_if_eq (tgt := 111) dX_swap_90 (by decide) (fun c15 => ?_) (fun c15 => ?_)
    · replace h := h.1 c15
      refine ax_aloadn 0 dX_swap_111 rfl rfl ?_
      refine ax_getr dX_swap_112 fX_46 sX_0 rfl ?_
      refine ax_iload 3 dX_swap_115 rfl ?_
      refine ax_iload 4 dX_swap_117 rfl ?_
      refine ax_callV (dp2 := 0) (as := [.inl v5, .inl v6]) (st := []) dX_swap_119 lX_194 sX_40 ⟨_, _, rfl⟩ rfl rfl (Nat.le_of_ble_eq_true rfl) (by decide) ?_
      refine ax_C_mono (fun _ M8 h => ?_) h
      obtain ⟨q9, h⟩ := h
      refine ax_iinc (j := 4) dX_swap_122 rfl (by decide) q9 rfl ?_
      refine ax_goto (tgt := 53) dX_swap_125 (by decide) ?_
      exact ax_sub [1, 2, 3, 4, 0] rfl h
    · replace h := h.2 c15
      refine ax_aloadn 0 dX_swap_93 rfl rfl ?_
      refine ax_getr dX_swap_94 fX_59 sX_0 rfl ?_
      refine ax_geti dX_swap_97 fX_185 sX_44 rfl ?_
      refine ax_istoren dX_swap_100 rfl (by decide) rfl ?_
      refine ax_bipush dX_swap_101 (by decide) ?_
      refine ax_iload 3 dX_swap_103 rfl ?_
      obtain ⟨q10, h⟩ := h
      refine ax_imul dX_swap_105 q10 ?_
      refine ax_iload 4 dX_swap_106 rfl ?_
      obtain ⟨q11, h⟩ := h
      refine ax_iadd dX_swap_108 q11 ?_
      refine ax_istore dX_swap_109 (by decide) rfl ?_
      refine ax_aloadn 2 dX_swap_111 rfl rfl ?_
      refine ax_getr dX_swap_112 fX_46 sX_0 rfl ?_
      refine ax_iload 3 dX_swap_115 rfl ?_
      refine ax_iload 4 dX_swap_117 rfl ?_
      refine ax_callV (dp2 := 0) (as := [.inl v5, .inl v6]) (st := []) dX_swap_119 lX_194 sX_40 ⟨_, _, rfl⟩ rfl rfl (Nat.le_of_ble_eq_true rfl) (by decide) ?_
      refine ax_C_mono (fun _ M13 h => ?_) h
      obtain ⟨q14, h⟩ := h
      refine ax_iinc (j := 4) dX_swap_122 rfl (by decide) q14 rfl ?_
      refine ax_goto (tgt := 53) dX_swap_125 (by decide) ?_
      exact ax_sub [3, 2, 1, 4, 0] rfl h
theorem eX_swap {P : Int → ax_Mem → Prop} {M : ax_Mem} {a1 : Int} (h : kX_refusalOf [.inr (.inr 0), .inl a1] M (fun r1 M2 => (r1 = 0 → kX_boardBy [.inr (.inr 0), .inl a1, .inl 3, .inl 9999] M2 (fun _ M4 => jX_swap P 35 [(0, .inr (.inr 0)), (3, .inl (M4 44 15)), (4, .inl (-1)), (5, .inl 0)] [] M4)) ∧ (¬ r1 = 0 → P r1 M2))) : kX_swap [.inr (.inr 0), .inl a1] M P := ax_ofJ (by decide) (Nat.le_of_ble_eq_true rfl) (gX_swap_0 h)
-- X_later dp 5
theorem gX_later_0 {P : Int → ax_Mem → Prop} {M : ax_Mem} {a1 a2 : Int} (h : kX_hasCall [.inr (.inr 0), .inl a1] M (fun r1 M2 => (r1 = 0 → P (-101) M2) ∧ (¬ r1 = 0 → kE_has [.inr (.inr 2), .inl a2] M2 (fun r3 M4 => (¬ r3 = 0 → kX_lineUp [.inr (.inr 0), .inl a1, .inl 3] M4 (fun _ M6 => kN_takeOut [.inr (.inr 40), .inl a2] M6 (fun _ M8 => kN_putIn [.inr (.inr 40), .inl (M8 40 1), .inl a2] M8 (fun _ M10 => kB_openWhole [.inr (.inr 44), .inr (.inr 1), .inl 3] M10 (fun _ M12 => kB_run [.inr (.inr 44), .inr (.inr 40), .inl 9999] M12 (fun _ M14 => P (M14 44 15) M14)))))) ∧ (r3 = 0 → P (-101) M4))))) : jX_later P 0 [(0, .inr (.inr 0)), (1, .inl a1), (2, .inl a2)] [] M := by
  refine ax_aloadn 0 dX_later_0 rfl rfl ?_
  refine ax_iloadn 1 dX_later_1 rfl rfl ?_
  refine ax_callV (dp2 := 0) (as := [.inl a1]) (st := []) dX_later_2 lX_173 sX_0 ⟨_, _, rfl⟩ rfl rfl (Nat.le_of_ble_eq_true rfl) (by decide) ?_
  refine ax_C_mono (fun r1 M2 h => ?_) h
  refine ax_if_eq (tgt := 19) dX_later_5 (by decide) (fun c16 => ?_) (fun c16 => ?_)
  · replace h := h.1 c16
    refine ax_bipush dX_later_19 (by decide) ?_
    exact ax_iret dX_later_21 h
  · replace h := h.2 c16
    refine ax_aloadn 0 dX_later_8 rfl rfl ?_
    refine ax_getr dX_later_9 fX_19 sX_0 rfl ?_
    refine ax_iloadn 2 dX_later_12 rfl rfl ?_
    refine ax_callV (dp2 := 0) (as := [.inl a2]) (st := []) dX_later_13 lX_94 sX_2 ⟨_, _, rfl⟩ rfl rfl (Nat.le_of_ble_eq_true rfl) (by decide) ?_
    refine ax_C_mono (fun r3 M4 h => ?_) h
    refine ax_if_ne (tgt := 22) dX_later_16 (by decide) (fun c15 => ?_) (fun c15 => ?_)
    · replace h := h.1 c15
      refine ax_aloadn 0 dX_later_22 rfl rfl ?_
      refine ax_iloadn 1 dX_later_23 rfl rfl ?_
      refine ax_iconst dX_later_24 (by decide) ?_
      refine ax_callV (dp2 := 4) (as := [.inl a1, .inl 3]) (st := []) dX_later_25 lX_160 sX_0 ⟨_, _, rfl⟩ rfl rfl (Nat.le_of_ble_eq_true rfl) (by decide) ?_
      refine ax_C_mono (fun _ M6 h => ?_) h
      refine ax_aloadn 0 dX_later_28 rfl rfl ?_
      refine ax_getr dX_later_29 fX_46 sX_0 rfl ?_
      refine ax_iloadn 2 dX_later_32 rfl rfl ?_
      refine ax_callV (dp2 := 1) (as := [.inl a2]) (st := []) dX_later_33 lX_201 sX_40 ⟨_, _, rfl⟩ rfl rfl (Nat.le_of_ble_eq_true rfl) (by decide) ?_
      refine ax_C_mono (fun _ M8 h => ?_) h
      refine ax_aloadn 0 dX_later_36 rfl rfl ?_
      refine ax_getr dX_later_37 fX_46 sX_0 rfl ?_
      refine ax_aloadn 0 dX_later_40 rfl rfl ?_
      refine ax_getr dX_later_41 fX_46 sX_0 rfl ?_
      refine ax_geti dX_later_44 fX_164 sX_40 rfl ?_
      refine ax_iloadn 2 dX_later_47 rfl rfl ?_
      refine ax_callV (dp2 := 0) (as := [.inl (M8 40 1), .inl a2]) (st := []) dX_later_48 lX_205 sX_40 ⟨_, _, rfl⟩ rfl rfl (Nat.le_of_ble_eq_true rfl) (by decide) ?_
      refine ax_C_mono (fun _ M10 h => ?_) h
      refine ax_aloadn 0 dX_later_51 rfl rfl ?_
      refine ax_getr dX_later_52 fX_59 sX_0 rfl ?_
      refine ax_aloadn 0 dX_later_55 rfl rfl ?_
      refine ax_getr dX_later_56 fX_10 sX_0 rfl ?_
      refine ax_iconst dX_later_59 (by decide) ?_
      refine ax_callV (dp2 := 2) (as := [.inr (.inr 1), .inl 3]) (st := []) dX_later_60 lX_208 sX_44 ⟨_, _, rfl⟩ rfl rfl (Nat.le_of_ble_eq_true rfl) (by decide) ?_
      refine ax_C_mono (fun _ M12 h => ?_) h
      refine ax_aloadn 0 dX_later_63 rfl rfl ?_
      refine ax_getr dX_later_64 fX_59 sX_0 rfl ?_
      refine ax_aloadn 0 dX_later_67 rfl rfl ?_
      refine ax_getr dX_later_68 fX_46 sX_0 rfl ?_
      refine ax_sipush dX_later_71 (by decide) ?_
      refine ax_callV (dp2 := 3) (as := [.inr (.inr 40), .inl 9999]) (st := []) dX_later_74 lX_212 sX_44 ⟨_, _, rfl⟩ rfl rfl (Nat.le_of_ble_eq_true rfl) (by decide) ?_
      refine ax_C_mono (fun _ M14 h => ?_) h
      refine ax_aloadn 0 dX_later_77 rfl rfl ?_
      refine ax_getr dX_later_78 fX_59 sX_0 rfl ?_
      refine ax_geti dX_later_81 fX_185 sX_44 rfl ?_
      exact ax_iret dX_later_84 h
    · replace h := h.2 c15
      refine ax_bipush dX_later_19 (by decide) ?_
      exact ax_iret dX_later_21 h
theorem eX_later {P : Int → ax_Mem → Prop} {M : ax_Mem} {a1 a2 : Int} (h : kX_hasCall [.inr (.inr 0), .inl a1] M (fun r1 M2 => (r1 = 0 → P (-101) M2) ∧ (¬ r1 = 0 → kE_has [.inr (.inr 2), .inl a2] M2 (fun r3 M4 => (¬ r3 = 0 → kX_lineUp [.inr (.inr 0), .inl a1, .inl 3] M4 (fun _ M6 => kN_takeOut [.inr (.inr 40), .inl a2] M6 (fun _ M8 => kN_putIn [.inr (.inr 40), .inl (M8 40 1), .inl a2] M8 (fun _ M10 => kB_openWhole [.inr (.inr 44), .inr (.inr 1), .inl 3] M10 (fun _ M12 => kB_run [.inr (.inr 44), .inr (.inr 40), .inl 9999] M12 (fun _ M14 => P (M14 44 15) M14)))))) ∧ (r3 = 0 → P (-101) M4))))) : kX_later [.inr (.inr 0), .inl a1, .inl a2] M P := ax_ofJ (by decide) (Nat.le_of_ble_eq_true rfl) (gX_later_0 h)
-- X_bound dp 6
theorem gX_bound_0 {P : Int → ax_Mem → Prop} {M : ax_Mem} {a1 a2 : Int} (h : kX_refusalOf [.inr (.inr 0), .inl a1] M (fun r1 M2 => (r1 = 0 → kX_outside [.inl a2, .inl 0, .inl 3] M2 (fun r3 M4 => (r3 = 0 → kX_boardBy [.inr (.inr 0), .inl a1, .inl a2, .inl 9999] M4 (fun _ M6 => P (M6 44 15) M6)) ∧ (¬ r3 = 0 → P (-102) M4))) ∧ (¬ r1 = 0 → P r1 M2))) : jX_bound P 0 [(0, .inr (.inr 0)), (1, .inl a1), (2, .inl a2)] [] M := by
  refine ax_aloadn 0 dX_bound_0 rfl rfl ?_
  refine ax_iloadn 1 dX_bound_1 rfl rfl ?_
  refine ax_callV (dp2 := 1) (as := [.inl a1]) (st := []) dX_bound_2 lX_156 sX_0 ⟨_, _, rfl⟩ rfl rfl (Nat.le_of_ble_eq_true rfl) (by decide) ?_
  refine ax_C_mono (fun r1 M2 h => ?_) h
  refine ax_istoren dX_bound_5 rfl (by decide) rfl ?_
  refine ax_iloadn 0 dX_bound_6 rfl rfl ?_
  refine ax_if_eq (tgt := 12) dX_bound_7 (by decide) (fun c8 => ?_) (fun c8 => ?_)
  · replace h := h.1 c8
    refine ax_iloadn 3 dX_bound_12 rfl rfl ?_
    refine ax_iconst dX_bound_13 (by decide) ?_
    refine ax_iconst dX_bound_14 (by decide) ?_
    refine ax_callS (dp2 := 0) (as := [.inl a2, .inl 0, .inl 3]) (st := []) dX_bound_15 lX_70 rfl rfl (Nat.le_of_ble_eq_true rfl) (by decide) ?_
    refine ax_C_mono (fun r3 M4 h => ?_) h
    refine ax_if_eq (tgt := 24) dX_bound_18 (by decide) (fun c7 => ?_) (fun c7 => ?_)
    · replace h := h.1 c7
      refine ax_aloadn 1 dX_bound_24 rfl rfl ?_
      refine ax_iloadn 2 dX_bound_25 rfl rfl ?_
      refine ax_iloadn 3 dX_bound_26 rfl rfl ?_
      refine ax_sipush dX_bound_27 (by decide) ?_
      refine ax_callV (dp2 := 5) (as := [.inl a1, .inl a2, .inl 9999]) (st := []) dX_bound_30 lX_168 sX_0 ⟨_, _, rfl⟩ rfl rfl (Nat.le_of_ble_eq_true rfl) (by decide) ?_
      refine ax_C_mono (fun _ M6 h => ?_) h
      refine ax_aloadn 1 dX_bound_33 rfl rfl ?_
      refine ax_getr dX_bound_34 fX_59 sX_0 rfl ?_
      refine ax_geti dX_bound_37 fX_185 sX_44 rfl ?_
      exact ax_iret dX_bound_40 h
    · replace h := h.2 c7
      refine ax_bipush dX_bound_21 (by decide) ?_
      exact ax_iret dX_bound_23 h
  · replace h := h.2 c8
    refine ax_iloadn 0 dX_bound_10 rfl rfl ?_
    exact ax_iret dX_bound_11 h
theorem eX_bound {P : Int → ax_Mem → Prop} {M : ax_Mem} {a1 a2 : Int} (h : kX_refusalOf [.inr (.inr 0), .inl a1] M (fun r1 M2 => (r1 = 0 → kX_outside [.inl a2, .inl 0, .inl 3] M2 (fun r3 M4 => (r3 = 0 → kX_boardBy [.inr (.inr 0), .inl a1, .inl a2, .inl 9999] M4 (fun _ M6 => P (M6 44 15) M6)) ∧ (¬ r3 = 0 → P (-102) M4))) ∧ (¬ r1 = 0 → P r1 M2))) : kX_bound [.inr (.inr 0), .inl a1, .inl a2] M P := ax_ofJ (by decide) (Nat.le_of_ble_eq_true rfl) (gX_bound_0 h)
-- X_secondsByDoors dp 5
theorem gX_secondsByDoors_0 {P : Int → ax_Mem → Prop} {M : ax_Mem} {a1 : Int} (h : kX_lineUp [.inr (.inr 0), .inl a1, .inl 3] M (fun _ M2 => kB_openFront [.inr (.inr 44), .inr (.inr 1), .inl 3] M2 (fun _ M4 => kB_run [.inr (.inr 44), .inr (.inr 40), .inl 9999] M4 (fun _ M6 => kB_openBack [.inr (.inr 44), .inr (.inr 1), .inl 3] M6 (fun _ M8 => kB_run [.inr (.inr 44), .inr (.inr 40), .inl 9999] M8 (fun _ M10 => P (max (M6 44 15) (M10 44 15)) M10)))))) : jX_secondsByDoors P 0 [(0, .inr (.inr 0)), (1, .inl a1)] [] M := by
  refine ax_aloadn 0 dX_secondsByDoors_0 rfl rfl ?_
  refine ax_iloadn 1 dX_secondsByDoors_1 rfl rfl ?_
  refine ax_iconst dX_secondsByDoors_2 (by decide) ?_
  refine ax_callV (dp2 := 4) (as := [.inl a1, .inl 3]) (st := []) dX_secondsByDoors_3 lX_160 sX_0 ⟨_, _, rfl⟩ rfl rfl (Nat.le_of_ble_eq_true rfl) (by decide) ?_
  refine ax_C_mono (fun _ M2 h => ?_) h
  refine ax_aloadn 0 dX_secondsByDoors_6 rfl rfl ?_
  refine ax_getr dX_secondsByDoors_7 fX_59 sX_0 rfl ?_
  refine ax_aloadn 0 dX_secondsByDoors_10 rfl rfl ?_
  refine ax_getr dX_secondsByDoors_11 fX_10 sX_0 rfl ?_
  refine ax_iconst dX_secondsByDoors_14 (by decide) ?_
  refine ax_callV (dp2 := 3) (as := [.inr (.inr 1), .inl 3]) (st := []) dX_secondsByDoors_15 lX_293 sX_44 ⟨_, _, rfl⟩ rfl rfl (Nat.le_of_ble_eq_true rfl) (by decide) ?_
  refine ax_C_mono (fun _ M4 h => ?_) h
  refine ax_aloadn 0 dX_secondsByDoors_18 rfl rfl ?_
  refine ax_getr dX_secondsByDoors_19 fX_59 sX_0 rfl ?_
  refine ax_aloadn 0 dX_secondsByDoors_22 rfl rfl ?_
  refine ax_getr dX_secondsByDoors_23 fX_46 sX_0 rfl ?_
  refine ax_sipush dX_secondsByDoors_26 (by decide) ?_
  refine ax_callV (dp2 := 3) (as := [.inr (.inr 40), .inl 9999]) (st := []) dX_secondsByDoors_29 lX_212 sX_44 ⟨_, _, rfl⟩ rfl rfl (Nat.le_of_ble_eq_true rfl) (by decide) ?_
  refine ax_C_mono (fun _ M6 h => ?_) h
  refine ax_aloadn 0 dX_secondsByDoors_32 rfl rfl ?_
  refine ax_getr dX_secondsByDoors_33 fX_59 sX_0 rfl ?_
  refine ax_geti dX_secondsByDoors_36 fX_185 sX_44 rfl ?_
  refine ax_istoren dX_secondsByDoors_39 rfl (by decide) rfl ?_
  refine ax_aloadn 1 dX_secondsByDoors_40 rfl rfl ?_
  refine ax_getr dX_secondsByDoors_41 fX_59 sX_0 rfl ?_
  refine ax_aloadn 1 dX_secondsByDoors_44 rfl rfl ?_
  refine ax_getr dX_secondsByDoors_45 fX_10 sX_0 rfl ?_
  refine ax_iconst dX_secondsByDoors_48 (by decide) ?_
  refine ax_callV (dp2 := 2) (as := [.inr (.inr 1), .inl 3]) (st := []) dX_secondsByDoors_49 lX_296 sX_44 ⟨_, _, rfl⟩ rfl rfl (Nat.le_of_ble_eq_true rfl) (by decide) ?_
  refine ax_C_mono (fun _ M8 h => ?_) h
  refine ax_aloadn 1 dX_secondsByDoors_52 rfl rfl ?_
  refine ax_getr dX_secondsByDoors_53 fX_59 sX_0 rfl ?_
  refine ax_aloadn 1 dX_secondsByDoors_56 rfl rfl ?_
  refine ax_getr dX_secondsByDoors_57 fX_46 sX_0 rfl ?_
  refine ax_sipush dX_secondsByDoors_60 (by decide) ?_
  refine ax_callV (dp2 := 3) (as := [.inr (.inr 40), .inl 9999]) (st := []) dX_secondsByDoors_63 lX_212 sX_44 ⟨_, _, rfl⟩ rfl rfl (Nat.le_of_ble_eq_true rfl) (by decide) ?_
  refine ax_C_mono (fun _ M10 h => ?_) h
  refine ax_iloadn 0 dX_secondsByDoors_66 rfl rfl ?_
  refine ax_aloadn 1 dX_secondsByDoors_67 rfl rfl ?_
  refine ax_getr dX_secondsByDoors_68 fX_59 sX_0 rfl ?_
  refine ax_geti dX_secondsByDoors_71 fX_185 sX_44 rfl ?_
  refine ax_mmax dX_secondsByDoors_74 mX_230 (Nat.le_of_ble_eq_true rfl) (by decide) ?_
  exact ax_iret dX_secondsByDoors_77 h
theorem eX_secondsByDoors {P : Int → ax_Mem → Prop} {M : ax_Mem} {a1 : Int} (h : kX_lineUp [.inr (.inr 0), .inl a1, .inl 3] M (fun _ M2 => kB_openFront [.inr (.inr 44), .inr (.inr 1), .inl 3] M2 (fun _ M4 => kB_run [.inr (.inr 44), .inr (.inr 40), .inl 9999] M4 (fun _ M6 => kB_openBack [.inr (.inr 44), .inr (.inr 1), .inl 3] M6 (fun _ M8 => kB_run [.inr (.inr 44), .inr (.inr 40), .inl 9999] M8 (fun _ M10 => P (max (M6 44 15) (M10 44 15)) M10)))))) : kX_secondsByDoors [.inr (.inr 0), .inl a1] M P := ax_ofJ (by decide) (Nat.le_of_ble_eq_true rfl) (gX_secondsByDoors_0 h)
-- X_doors dp 6
theorem gX_doors_0 {P : Int → ax_Mem → Prop} {M : ax_Mem} {a1 : Int} (h : kX_refusalOf [.inr (.inr 0), .inl a1] M (fun r1 M2 => (r1 = 0 → kX_secondsByDoors [.inr (.inr 0), .inl a1] M2 (fun r3 M4 => P r3 M4)) ∧ (¬ r1 = 0 → P r1 M2))) : jX_doors P 0 [(0, .inr (.inr 0)), (1, .inl a1)] [] M := by
  refine ax_aloadn 0 dX_doors_0 rfl rfl ?_
  refine ax_iloadn 1 dX_doors_1 rfl rfl ?_
  refine ax_callV (dp2 := 1) (as := [.inl a1]) (st := []) dX_doors_2 lX_156 sX_0 ⟨_, _, rfl⟩ rfl rfl (Nat.le_of_ble_eq_true rfl) (by decide) ?_
  refine ax_C_mono (fun r1 M2 h => ?_) h
  refine ax_istoren dX_doors_5 rfl (by decide) rfl ?_
  refine ax_iloadn 0 dX_doors_6 rfl rfl ?_
  refine ax_if_eq (tgt := 14) dX_doors_7 (by decide) (fun c5 => ?_) (fun c5 => ?_)
  · replace h := h.1 c5
    refine ax_aloadn 1 dX_doors_14 rfl rfl ?_
    refine ax_iloadn 2 dX_doors_15 rfl rfl ?_
    refine ax_callV (dp2 := 5) (as := [.inl a1]) (st := []) dX_doors_16 lX_216 sX_0 ⟨_, _, rfl⟩ rfl rfl (Nat.le_of_ble_eq_true rfl) (by decide) ?_
    refine ax_C_mono (fun r3 M4 h => ?_) h
    exact ax_iret dX_doors_19 h
  · replace h := h.2 c5
    refine ax_iloadn 0 dX_doors_10 rfl rfl ?_
    refine ax_goto (tgt := 19) dX_doors_11 (by decide) ?_
    exact ax_iret dX_doors_19 h
theorem eX_doors {P : Int → ax_Mem → Prop} {M : ax_Mem} {a1 : Int} (h : kX_refusalOf [.inr (.inr 0), .inl a1] M (fun r1 M2 => (r1 = 0 → kX_secondsByDoors [.inr (.inr 0), .inl a1] M2 (fun r3 M4 => P r3 M4)) ∧ (¬ r1 = 0 → P r1 M2))) : kX_doors [.inr (.inr 0), .inl a1] M P := ax_ofJ (by decide) (Nat.le_of_ble_eq_true rfl) (gX_doors_0 h)
-- X_mixed dp 4
theorem gX_mixed_0 {P : Int → ax_Mem → Prop} {M : ax_Mem} {a1 a2 a3 : Int} (h : kC_isMissing [.inr (.inr 1)] M (fun r1 M2 => (r1 = 0 → kX_outside [.inl a1, .inl 1, .inl 9] M2 (fun r3 M4 => (¬ r3 = 0 → P (-102) M4) ∧ (r3 = 0 → (a2 < 0 → P (-102) M4) ∧ (¬ a2 < 0 → kX_outside [.inl a3, .inl 0, .inl 2] M4 (fun r5 M6 => (r5 = 0 → kB_openWhole [.inr (.inr 44), .inr (.inr 1), .inl 3] M6 (fun _ M8 => jX_mixed P 65 [(0, .inr (.inr 0)), (1, .inl a1), (3, .inl a3), (4, .inl 9999), (5, .inl 0), (6, .inl a2), (7, .inl 0)] [] M8)) ∧ (¬ r5 = 0 → P (-102) M6)))))) ∧ (¬ r1 = 0 → P (-103) M2))) : jX_mixed P 0 [(0, .inr (.inr 0)), (1, .inl a1), (2, .inl a2), (3, .inl a3)] [] M := by
  refine ax_aloadn 0 dX_mixed_0 rfl rfl ?_
  refine ax_getr dX_mixed_1 fX_10 sX_0 rfl ?_
  refine ax_callV (dp2 := 0) (as := []) (st := []) dX_mixed_4 lX_90 sX_1 ⟨_, _, rfl⟩ rfl rfl (Nat.le_of_ble_eq_true rfl) (by decide) ?_
  refine ax_C_mono (fun r1 M2 h => ?_) h
  refine ax_if_eq (tgt := 13) dX_mixed_7 (by decide) (fun c12 => ?_) (fun c12 => ?_)
  · replace h := h.1 c12
    refine ax_iloadn 1 dX_mixed_13 rfl rfl ?_
    refine ax_iconst dX_mixed_14 (by decide) ?_
    refine ax_bipush dX_mixed_15 (by decide) ?_
    refine ax_callS (dp2 := 0) (as := [.inl a1, .inl 1, .inl 9]) (st := []) dX_mixed_17 lX_70 rfl rfl (Nat.le_of_ble_eq_true rfl) (by decide) ?_
    refine ax_C_mono (fun r3 M4 h => ?_) h
    refine ax_if_ne (tgt := 36) dX_mixed_20 (by decide) (fun c11 => ?_) (fun c11 => ?_)
    · replace h := h.1 c11
      refine ax_bipush dX_mixed_36 (by decide) ?_
      exact ax_iret dX_mixed_38 h
    · replace h := h.2 c11
      refine ax_iloadn 2 dX_mixed_23 rfl rfl ?_
      refine ax_if_lt (tgt := 36) dX_mixed_24 (by decide) (fun c10 => ?_) (fun c10 => ?_)
      · replace h := h.1 c10
        refine ax_bipush dX_mixed_36 (by decide) ?_
        exact ax_iret dX_mixed_38 h
      · replace h := h.2 c10
        refine ax_iloadn 3 dX_mixed_27 rfl rfl ?_
        refine ax_iconst dX_mixed_28 (by decide) ?_
        refine ax_iconst dX_mixed_29 (by decide) ?_
        refine ax_callS (dp2 := 0) (as := [.inl a3, .inl 0, .inl 2]) (st := []) dX_mixed_30 lX_70 rfl rfl (Nat.le_of_ble_eq_true rfl) (by decide) ?_
        refine ax_C_mono (fun r5 M6 h => ?_) h
        refine ax_if_eq (tgt := 39) dX_mixed_33 (by decide) (fun c9 => ?_) (fun c9 => ?_)
        · replace h := h.1 c9
          refine ax_aloadn 0 dX_mixed_39 rfl rfl ?_
          refine ax_getr dX_mixed_40 fX_59 sX_0 rfl ?_
          refine ax_aloadn 0 dX_mixed_43 rfl rfl ?_
          refine ax_getr dX_mixed_44 fX_10 sX_0 rfl ?_
          refine ax_iconst dX_mixed_47 (by decide) ?_
          refine ax_callV (dp2 := 2) (as := [.inr (.inr 1), .inl 3]) (st := []) dX_mixed_48 lX_208 sX_44 ⟨_, _, rfl⟩ rfl rfl (Nat.le_of_ble_eq_true rfl) (by decide) ?_
          refine ax_C_mono (fun _ M8 h => ?_) h
          refine ax_sipush dX_mixed_51 (by decide) ?_
          refine ax_istore dX_mixed_54 (by decide) rfl ?_
          refine ax_iconst dX_mixed_56 (by decide) ?_
          refine ax_istore dX_mixed_57 (by decide) rfl ?_
          refine ax_iloadn 4 dX_mixed_59 rfl rfl ?_
          refine ax_istore dX_mixed_60 (by decide) rfl ?_
          refine ax_iconst dX_mixed_62 (by decide) ?_
          refine ax_istore dX_mixed_63 (by decide) rfl ?_
          exact ax_sub [4, 5, 7, 3, 2, 1, 0] rfl h
        · replace h := h.2 c9
          refine ax_bipush dX_mixed_36 (by decide) ?_
          exact ax_iret dX_mixed_38 h
  · replace h := h.2 c12
    refine ax_bipush dX_mixed_10 (by decide) ?_
    exact ax_iret dX_mixed_12 h
theorem gX_mixed_65 {P : Int → ax_Mem → Prop} {M : ax_Mem} {v1 v3 v4 v5 v6 v7 : Int} (h : (v1 ≤ v7 → (¬ v3 = 0 → (¬ v3 = 1 → P v6 M) ∧ (v3 = 1 → P v5 M)) ∧ (v3 = 0 → P v4 M)) ∧ (¬ v1 ≤ v7 → kN_byNumber [.inr (.inr 40), .inl (M 2 7)] M (fun _ M4 => kN_mix [.inr (.inr 40), .inl v6] M4 (fun r5 M6 => kB_run [.inr (.inr 44), .inr (.inr 40), .inl 9999] M6 (fun _ M8 => (-2147483648 ≤ (v7 + 1) ∧ (v7 + 1) < 2147483648) ∧ jX_mixed P 65 [(0, .inr (.inr 0)), (1, .inl v1), (3, .inl v3), (4, .inl (min v4 (M8 44 15))), (5, .inl (max v5 (M8 44 15))), (6, .inl r5), (7, .inl (v7 + 1))] [] M8))))) : jX_mixed P 65 [(0, .inr (.inr 0)), (1, .inl v1), (3, .inl v3), (4, .inl v4), (5, .inl v5), (6, .inl v6), (7, .inl v7)] [] M := by
  refine ax_iload 6 dX_mixed_65 rfl ?_
  refine ax_iloadn 1 dX_mixed_67 rfl rfl ?_
  refine ax_icmp_ge (tgt := 144) dX_mixed_68 (by decide) (fun c10 => ?_) (fun c10 => ?_)
  · replace h := h.1 c10
    refine ax_iloadn 2 dX_mixed_144 rfl rfl ?_
    refine ax_if_ne (tgt := 151) dX_mixed_145 (by decide) (fun c2 => ?_) (fun c2 => ?_)
    · replace h := h.1 c2
      refine ax_iloadn 2 dX_mixed_151 rfl rfl ?_
      refine ax_iconst dX_mixed_152 (by decide) ?_
      refine ax_icmp_ne (tgt := 161) dX_mixed_153 (by decide) (fun c1 => ?_) (fun c1 => ?_)
      · replace h := h.1 c1
        refine ax_iload 5 dX_mixed_161 rfl ?_
        exact ax_iret dX_mixed_163 h
      · replace h := h.2 c1
        refine ax_iload 4 dX_mixed_156 rfl ?_
        refine ax_goto (tgt := 163) dX_mixed_158 (by decide) ?_
        exact ax_iret dX_mixed_163 h
    · replace h := h.2 c2
      refine ax_iload 3 dX_mixed_148 rfl ?_
      exact ax_iret dX_mixed_150 h
  · replace h := h.2 c10
    refine ax_aloadn 0 dX_mixed_71 rfl rfl ?_
    refine ax_getr dX_mixed_72 fX_46 sX_0 rfl ?_
    refine ax_aloadn 0 dX_mixed_75 rfl rfl ?_
    refine ax_getr dX_mixed_76 fX_19 sX_0 rfl ?_
    refine ax_geti dX_mixed_79 fX_78 sX_2 rfl ?_
    refine ax_callV (dp2 := 1) (as := [.inl (M 2 7)]) (st := []) dX_mixed_82 lX_219 sX_40 ⟨_, _, rfl⟩ rfl rfl (Nat.le_of_ble_eq_true rfl) (by decide) ?_
    refine ax_C_mono (fun _ M4 h => ?_) h
    refine ax_aloadn 0 dX_mixed_85 rfl rfl ?_
    refine ax_getr dX_mixed_86 fX_46 sX_0 rfl ?_
    refine ax_iload 5 dX_mixed_89 rfl ?_
    refine ax_callV (dp2 := 1) (as := [.inl v6]) (st := []) dX_mixed_91 lX_222 sX_40 ⟨_, _, rfl⟩ rfl rfl (Nat.le_of_ble_eq_true rfl) (by decide) ?_
    refine ax_C_mono (fun r5 M6 h => ?_) h
    refine ax_istore dX_mixed_94 (by decide) rfl ?_
    refine ax_aloadn 1 dX_mixed_96 rfl rfl ?_
    refine ax_getr dX_mixed_97 fX_59 sX_0 rfl ?_
    refine ax_aloadn 1 dX_mixed_100 rfl rfl ?_
    refine ax_getr dX_mixed_101 fX_46 sX_0 rfl ?_
    refine ax_sipush dX_mixed_104 (by decide) ?_
    refine ax_callV (dp2 := 3) (as := [.inr (.inr 40), .inl 9999]) (st := []) dX_mixed_107 lX_212 sX_44 ⟨_, _, rfl⟩ rfl rfl (Nat.le_of_ble_eq_true rfl) (by decide) ?_
    refine ax_C_mono (fun _ M8 h => ?_) h
    refine ax_iload 4 dX_mixed_110 rfl ?_
    refine ax_aloadn 1 dX_mixed_112 rfl rfl ?_
    refine ax_getr dX_mixed_113 fX_59 sX_0 rfl ?_
    refine ax_geti dX_mixed_116 fX_185 sX_44 rfl ?_
    refine ax_mmin dX_mixed_119 mX_225 (Nat.le_of_ble_eq_true rfl) (by decide) ?_
    refine ax_istore dX_mixed_122 (by decide) rfl ?_
    refine ax_iload 5 dX_mixed_124 rfl ?_
    refine ax_aloadn 2 dX_mixed_126 rfl rfl ?_
    refine ax_getr dX_mixed_127 fX_59 sX_0 rfl ?_
    refine ax_geti dX_mixed_130 fX_185 sX_44 rfl ?_
    refine ax_mmax dX_mixed_133 mX_230 (Nat.le_of_ble_eq_true rfl) (by decide) ?_
    refine ax_istore dX_mixed_136 (by decide) rfl ?_
    obtain ⟨q9, h⟩ := h
    refine ax_iinc (j := 6) dX_mixed_138 rfl (by decide) q9 rfl ?_
    refine ax_goto (tgt := 65) dX_mixed_141 (by decide) ?_
    exact ax_sub [4, 5, 6, 2, 1, 3, 0] rfl h
theorem eX_mixed {P : Int → ax_Mem → Prop} {M : ax_Mem} {a1 a2 a3 : Int} (h : kC_isMissing [.inr (.inr 1)] M (fun r1 M2 => (r1 = 0 → kX_outside [.inl a1, .inl 1, .inl 9] M2 (fun r3 M4 => (¬ r3 = 0 → P (-102) M4) ∧ (r3 = 0 → (a2 < 0 → P (-102) M4) ∧ (¬ a2 < 0 → kX_outside [.inl a3, .inl 0, .inl 2] M4 (fun r5 M6 => (r5 = 0 → kB_openWhole [.inr (.inr 44), .inr (.inr 1), .inl 3] M6 (fun _ M8 => jX_mixed P 65 [(0, .inr (.inr 0)), (1, .inl a1), (3, .inl a3), (4, .inl 9999), (5, .inl 0), (6, .inl a2), (7, .inl 0)] [] M8)) ∧ (¬ r5 = 0 → P (-102) M6)))))) ∧ (¬ r1 = 0 → P (-103) M2))) : kX_mixed [.inr (.inr 0), .inl a1, .inl a2, .inl a3] M P := ax_ofJ (by decide) (Nat.le_of_ble_eq_true rfl) (gX_mixed_0 h)
-- X_out dp 4
theorem gX_out_0 {P : Int → ax_Mem → Prop} {M : ax_Mem} {a1 : Int} (h : kC_isMissing [.inr (.inr 1)] M (fun r1 M2 => (r1 = 0 → kX_outside [.inl a1, .inl 0, .inl 2] M2 (fun r3 M4 => (r3 = 0 → kL_run [.inr (.inr 66), .inl (M4 1 0), .inl a1] M4 (fun _ M6 => P (M6 66 8) M6)) ∧ (¬ r3 = 0 → P (-102) M4))) ∧ (¬ r1 = 0 → P (-103) M2))) : jX_out P 0 [(0, .inr (.inr 0)), (1, .inl a1)] [] M := by
  refine ax_aloadn 0 dX_out_0 rfl rfl ?_
  refine ax_getr dX_out_1 fX_10 sX_0 rfl ?_
  refine ax_callV (dp2 := 0) (as := []) (st := []) dX_out_4 lX_90 sX_1 ⟨_, _, rfl⟩ rfl rfl (Nat.le_of_ble_eq_true rfl) (by decide) ?_
  refine ax_C_mono (fun r1 M2 h => ?_) h
  refine ax_if_eq (tgt := 13) dX_out_7 (by decide) (fun c8 => ?_) (fun c8 => ?_)
  · replace h := h.1 c8
    refine ax_iloadn 1 dX_out_13 rfl rfl ?_
    refine ax_iconst dX_out_14 (by decide) ?_
    refine ax_iconst dX_out_15 (by decide) ?_
    refine ax_callS (dp2 := 0) (as := [.inl a1, .inl 0, .inl 2]) (st := []) dX_out_16 lX_70 rfl rfl (Nat.le_of_ble_eq_true rfl) (by decide) ?_
    refine ax_C_mono (fun r3 M4 h => ?_) h
    refine ax_if_eq (tgt := 25) dX_out_19 (by decide) (fun c7 => ?_) (fun c7 => ?_)
    · replace h := h.1 c7
      refine ax_aloadn 0 dX_out_25 rfl rfl ?_
      refine ax_getr dX_out_26 fX_66 sX_0 rfl ?_
      refine ax_aloadn 0 dX_out_29 rfl rfl ?_
      refine ax_getr dX_out_30 fX_10 sX_0 rfl ?_
      refine ax_geti dX_out_33 fX_179 sX_1 rfl ?_
      refine ax_iloadn 1 dX_out_36 rfl rfl ?_
      refine ax_callV (dp2 := 3) (as := [.inl (M4 1 0), .inl a1]) (st := []) dX_out_37 lX_233 sX_66 ⟨_, _, rfl⟩ rfl rfl (Nat.le_of_ble_eq_true rfl) (by decide) ?_
      refine ax_C_mono (fun _ M6 h => ?_) h
      refine ax_aloadn 0 dX_out_40 rfl rfl ?_
      refine ax_getr dX_out_41 fX_66 sX_0 rfl ?_
      refine ax_geti dX_out_44 fX_235 sX_66 rfl ?_
      exact ax_iret dX_out_47 h
    · replace h := h.2 c7
      refine ax_bipush dX_out_22 (by decide) ?_
      exact ax_iret dX_out_24 h
  · replace h := h.2 c8
    refine ax_bipush dX_out_10 (by decide) ?_
    exact ax_iret dX_out_12 h
theorem eX_out {P : Int → ax_Mem → Prop} {M : ax_Mem} {a1 : Int} (h : kC_isMissing [.inr (.inr 1)] M (fun r1 M2 => (r1 = 0 → kX_outside [.inl a1, .inl 0, .inl 2] M2 (fun r3 M4 => (r3 = 0 → kL_run [.inr (.inr 66), .inl (M4 1 0), .inl a1] M4 (fun _ M6 => P (M6 66 8) M6)) ∧ (¬ r3 = 0 → P (-102) M4))) ∧ (¬ r1 = 0 → P (-103) M2))) : kX_out [.inr (.inr 0), .inl a1] M P := ax_ofJ (by decide) (Nat.le_of_ble_eq_true rfl) (gX_out_0 h)
-- X_outOf dp 4
theorem gX_outOf_0 {P : Int → ax_Mem → Prop} {M : ax_Mem} {a1 a2 : Int} (h : kE_has [.inr (.inr 2), .inl a1] M (fun r1 M2 => (¬ r1 = 0 → kX_outside [.inl a2, .inl 0, .inl 2] M2 (fun r3 M4 => (r3 = 0 → kL_run [.inr (.inr 66), .inl (M4 1 0), .inl a2] M4 (fun _ M6 => (0 ≤ a1 ∧ a1 < 12) ∧ P (M6 70 (a1.toNat)) M6)) ∧ (¬ r3 = 0 → P (-102) M4))) ∧ (r1 = 0 → P (-101) M2))) : jX_outOf P 0 [(0, .inr (.inr 0)), (1, .inl a1), (2, .inl a2)] [] M := by
  refine ax_aloadn 0 dX_outOf_0 rfl rfl ?_
  refine ax_getr dX_outOf_1 fX_19 sX_0 rfl ?_
  refine ax_iloadn 1 dX_outOf_4 rfl rfl ?_
  refine ax_callV (dp2 := 0) (as := [.inl a1]) (st := []) dX_outOf_5 lX_94 sX_2 ⟨_, _, rfl⟩ rfl rfl (Nat.le_of_ble_eq_true rfl) (by decide) ?_
  refine ax_C_mono (fun r1 M2 h => ?_) h
  refine ax_if_ne (tgt := 14) dX_outOf_8 (by decide) (fun c9 => ?_) (fun c9 => ?_)
  · replace h := h.1 c9
    refine ax_iloadn 2 dX_outOf_14 rfl rfl ?_
    refine ax_iconst dX_outOf_15 (by decide) ?_
    refine ax_iconst dX_outOf_16 (by decide) ?_
    refine ax_callS (dp2 := 0) (as := [.inl a2, .inl 0, .inl 2]) (st := []) dX_outOf_17 lX_70 rfl rfl (Nat.le_of_ble_eq_true rfl) (by decide) ?_
    refine ax_C_mono (fun r3 M4 h => ?_) h
    refine ax_if_eq (tgt := 26) dX_outOf_20 (by decide) (fun c8 => ?_) (fun c8 => ?_)
    · replace h := h.1 c8
      refine ax_aloadn 0 dX_outOf_26 rfl rfl ?_
      refine ax_getr dX_outOf_27 fX_66 sX_0 rfl ?_
      refine ax_aloadn 0 dX_outOf_30 rfl rfl ?_
      refine ax_getr dX_outOf_31 fX_10 sX_0 rfl ?_
      refine ax_geti dX_outOf_34 fX_179 sX_1 rfl ?_
      refine ax_iloadn 2 dX_outOf_37 rfl rfl ?_
      refine ax_callV (dp2 := 3) (as := [.inl (M4 1 0), .inl a2]) (st := []) dX_outOf_38 lX_233 sX_66 ⟨_, _, rfl⟩ rfl rfl (Nat.le_of_ble_eq_true rfl) (by decide) ?_
      refine ax_C_mono (fun _ M6 h => ?_) h
      refine ax_aloadn 0 dX_outOf_41 rfl rfl ?_
      refine ax_getr dX_outOf_42 fX_66 sX_0 rfl ?_
      refine ax_getr dX_outOf_45 fX_236 sX_66 rfl ?_
      refine ax_iloadn 1 dX_outOf_48 rfl rfl ?_
      obtain ⟨q7, h⟩ := h
      refine ax_iald dX_outOf_49 sX_70 q7.1 q7.2 ?_
      exact ax_iret dX_outOf_50 h
    · replace h := h.2 c8
      refine ax_bipush dX_outOf_23 (by decide) ?_
      exact ax_iret dX_outOf_25 h
  · replace h := h.2 c9
    refine ax_bipush dX_outOf_11 (by decide) ?_
    exact ax_iret dX_outOf_13 h
theorem eX_outOf {P : Int → ax_Mem → Prop} {M : ax_Mem} {a1 a2 : Int} (h : kE_has [.inr (.inr 2), .inl a1] M (fun r1 M2 => (¬ r1 = 0 → kX_outside [.inl a2, .inl 0, .inl 2] M2 (fun r3 M4 => (r3 = 0 → kL_run [.inr (.inr 66), .inl (M4 1 0), .inl a2] M4 (fun _ M6 => (0 ≤ a1 ∧ a1 < 12) ∧ P (M6 70 (a1.toNat)) M6)) ∧ (¬ r3 = 0 → P (-102) M4))) ∧ (r1 = 0 → P (-101) M2))) : kX_outOf [.inr (.inr 0), .inl a1, .inl a2] M P := ax_ofJ (by decide) (Nat.le_of_ble_eq_true rfl) (gX_outOf_0 h)
-- X_missed dp 4
theorem gX_missed_0 {P : Int → ax_Mem → Prop} {M : ax_Mem} {a1 : Int} (h : kC_isMissing [.inr (.inr 1)] M (fun r1 M2 => (r1 = 0 → kX_outside [.inl a1, .inl 0, .inl 2] M2 (fun r3 M4 => (r3 = 0 → kL_run [.inr (.inr 66), .inl (M4 1 0), .inl a1] M4 (fun _ M6 => jX_missed P 44 [(0, .inr (.inr 0)), (2, .inl 0), (3, .inl 0)] [] M6)) ∧ (¬ r3 = 0 → P (-102) M4))) ∧ (¬ r1 = 0 → P (-103) M2))) : jX_missed P 0 [(0, .inr (.inr 0)), (1, .inl a1)] [] M := by
  refine ax_aloadn 0 dX_missed_0 rfl rfl ?_
  refine ax_getr dX_missed_1 fX_10 sX_0 rfl ?_
  refine ax_callV (dp2 := 0) (as := []) (st := []) dX_missed_4 lX_90 sX_1 ⟨_, _, rfl⟩ rfl rfl (Nat.le_of_ble_eq_true rfl) (by decide) ?_
  refine ax_C_mono (fun r1 M2 h => ?_) h
  refine ax_if_eq (tgt := 13) dX_missed_7 (by decide) (fun c8 => ?_) (fun c8 => ?_)
  · replace h := h.1 c8
    refine ax_iloadn 1 dX_missed_13 rfl rfl ?_
    refine ax_iconst dX_missed_14 (by decide) ?_
    refine ax_iconst dX_missed_15 (by decide) ?_
    refine ax_callS (dp2 := 0) (as := [.inl a1, .inl 0, .inl 2]) (st := []) dX_missed_16 lX_70 rfl rfl (Nat.le_of_ble_eq_true rfl) (by decide) ?_
    refine ax_C_mono (fun r3 M4 h => ?_) h
    refine ax_if_eq (tgt := 25) dX_missed_19 (by decide) (fun c7 => ?_) (fun c7 => ?_)
    · replace h := h.1 c7
      refine ax_aloadn 0 dX_missed_25 rfl rfl ?_
      refine ax_getr dX_missed_26 fX_66 sX_0 rfl ?_
      refine ax_aloadn 0 dX_missed_29 rfl rfl ?_
      refine ax_getr dX_missed_30 fX_10 sX_0 rfl ?_
      refine ax_geti dX_missed_33 fX_179 sX_1 rfl ?_
      refine ax_iloadn 1 dX_missed_36 rfl rfl ?_
      refine ax_callV (dp2 := 3) (as := [.inl (M4 1 0), .inl a1]) (st := []) dX_missed_37 lX_233 sX_66 ⟨_, _, rfl⟩ rfl rfl (Nat.le_of_ble_eq_true rfl) (by decide) ?_
      refine ax_C_mono (fun _ M6 h => ?_) h
      refine ax_iconst dX_missed_40 (by decide) ?_
      refine ax_istoren dX_missed_41 rfl (by decide) rfl ?_
      refine ax_iconst dX_missed_42 (by decide) ?_
      refine ax_istoren dX_missed_43 rfl (by decide) rfl ?_
      exact ax_sub [2, 1, 0] rfl h
    · replace h := h.2 c7
      refine ax_bipush dX_missed_22 (by decide) ?_
      exact ax_iret dX_missed_24 h
  · replace h := h.2 c8
    refine ax_bipush dX_missed_10 (by decide) ?_
    exact ax_iret dX_missed_12 h
theorem gX_missed_44 {P : Int → ax_Mem → Prop} {M : ax_Mem} {v2 v3 : Int} (h : ((M 2 7) ≤ v3 → P v2 M) ∧ (¬ (M 2 7) ≤ v3 → (0 ≤ v3 ∧ v3 < 12) ∧ ((M 70 (v3.toNat)) ≤ (M 9 (v3.toNat)) → jX_missed P 44 [(0, .inr (.inr 0)), (2, .inl v2), (3, .inl (v3 + 1))] [] M) ∧ (¬ (M 70 (v3.toNat)) ≤ (M 9 (v3.toNat)) → (0 ≤ v3 ∧ v3 ≤ 30) ∧ ((0 : Int) ≤ v2 ∧ (0 : Int) ≤ ((2 : Int) ^ v3.toNat)) ∧ jX_missed P 44 [(0, .inr (.inr 0)), (2, .inl ((v2.toNat ||| ((2 : Int) ^ v3.toNat).toNat : Nat) : Int)), (3, .inl (v3 + 1))] [] M))) : jX_missed P 44 [(0, .inr (.inr 0)), (2, .inl v2), (3, .inl v3)] [] M := by
  refine ax_iloadn 2 dX_missed_44 rfl rfl ?_
  refine ax_aloadn 0 dX_missed_45 rfl rfl ?_
  refine ax_getr dX_missed_46 fX_19 sX_0 rfl ?_
  refine ax_geti dX_missed_49 fX_78 sX_2 rfl ?_
  refine ax_icmp_ge (tgt := 88) dX_missed_52 (by decide) (fun c5 => ?_) (fun c5 => ?_)
  · replace h := h.1 c5
    refine ax_iloadn 1 dX_missed_88 rfl rfl ?_
    exact ax_iret dX_missed_89 h
  · replace h := h.2 c5
    refine ax_aloadn 0 dX_missed_55 rfl rfl ?_
    refine ax_getr dX_missed_56 fX_66 sX_0 rfl ?_
    refine ax_getr dX_missed_59 fX_236 sX_66 rfl ?_
    refine ax_iloadn 2 dX_missed_62 rfl rfl ?_
    obtain ⟨q1, h⟩ := h
    refine ax_iald dX_missed_63 sX_70 q1.1 q1.2 ?_
    refine ax_aloadn 0 dX_missed_64 rfl rfl ?_
    refine ax_getr dX_missed_65 fX_19 sX_0 rfl ?_
    refine ax_getr dX_missed_68 fX_123 sX_2 rfl ?_
    refine ax_iloadn 2 dX_missed_71 rfl rfl ?_
    refine ax_iald dX_missed_72 sX_9 q1.1 q1.2 ?_
    refine ax_icmp_le (tgt := 82) dX_missed_73 (by decide) (fun c4 => ?_) (fun c4 => ?_)
    · replace h := h.1 c4
      refine ax_iinc (j := 2) dX_missed_82 rfl (by decide) (show ax_r _ from ⟨by omega, by omega⟩) rfl ?_
      refine ax_goto (tgt := 44) dX_missed_85 (by decide) ?_
      exact ax_sub [1, 2, 0] rfl h
    · replace h := h.2 c4
      refine ax_iloadn 1 dX_missed_76 rfl rfl ?_
      refine ax_iconst dX_missed_77 (by decide) ?_
      refine ax_iloadn 2 dX_missed_78 rfl rfl ?_
      obtain ⟨q2, h⟩ := h
      refine ax_ishl1 dX_missed_79 q2.1 q2.2 ?_
      obtain ⟨q3, h⟩ := h
      refine ax_ior dX_missed_80 q3.1 q3.2 ?_
      refine ax_istoren dX_missed_81 rfl (by decide) rfl ?_
      refine ax_iinc (j := 2) dX_missed_82 rfl (by decide) (show ax_r _ from ⟨by omega, by omega⟩) rfl ?_
      refine ax_goto (tgt := 44) dX_missed_85 (by decide) ?_
      exact ax_sub [2, 1, 0] rfl h
theorem eX_missed {P : Int → ax_Mem → Prop} {M : ax_Mem} {a1 : Int} (h : kC_isMissing [.inr (.inr 1)] M (fun r1 M2 => (r1 = 0 → kX_outside [.inl a1, .inl 0, .inl 2] M2 (fun r3 M4 => (r3 = 0 → kL_run [.inr (.inr 66), .inl (M4 1 0), .inl a1] M4 (fun _ M6 => jX_missed P 44 [(0, .inr (.inr 0)), (2, .inl 0), (3, .inl 0)] [] M6)) ∧ (¬ r3 = 0 → P (-102) M4))) ∧ (¬ r1 = 0 → P (-103) M2))) : kX_missed [.inr (.inr 0), .inl a1] M P := ax_ofJ (by decide) (Nat.le_of_ble_eq_true rfl) (gX_missed_0 h)
-- X_stay dp 1
theorem gX_stay_0 {P : Int → ax_Mem → Prop} {M : ax_Mem} {a1 a2 a3 : Int} (h : kX_outside [.inl a1, .inl 1, .inl 12] M (fun r1 M2 => (¬ r1 = 0 → P (-102) M2) ∧ (r1 = 0 → kX_outside [.inl a2, .inl 1, .inl 99] M2 (fun r3 M4 => (¬ r3 = 0 → P (-102) M4) ∧ (r3 = 0 → kX_outside [.inl a3, .inl 0, .inl 1] M4 (fun r5 M6 => (r5 = 0 → (a1 ≤ (M6 2 7) → jX_stay P 48 [(0, .inr (.inr 0)), (1, .inl a1), (2, .inl a2), (3, .inl a3), (4, .inl 0)] [] M6) ∧ (¬ a1 ≤ (M6 2 7) → P (-1) M6)) ∧ (¬ r5 = 0 → P (-102) M6))))))) : jX_stay P 0 [(0, .inr (.inr 0)), (1, .inl a1), (2, .inl a2), (3, .inl a3)] [] M := by
  refine ax_iloadn 1 dX_stay_0 rfl rfl ?_
  refine ax_iconst dX_stay_1 (by decide) ?_
  refine ax_bipush dX_stay_2 (by decide) ?_
  refine ax_callS (dp2 := 0) (as := [.inl a1, .inl 1, .inl 12]) (st := []) dX_stay_4 lX_70 rfl rfl (Nat.le_of_ble_eq_true rfl) (by decide) ?_
  refine ax_C_mono (fun r1 M2 h => ?_) h
  refine ax_if_ne (tgt := 29) dX_stay_7 (by decide) (fun c10 => ?_) (fun c10 => ?_)
  · replace h := h.1 c10
    refine ax_bipush dX_stay_29 (by decide) ?_
    exact ax_iret dX_stay_31 h
  · replace h := h.2 c10
    refine ax_iloadn 2 dX_stay_10 rfl rfl ?_
    refine ax_iconst dX_stay_11 (by decide) ?_
    refine ax_bipush dX_stay_12 (by decide) ?_
    refine ax_callS (dp2 := 0) (as := [.inl a2, .inl 1, .inl 99]) (st := []) dX_stay_14 lX_70 rfl rfl (Nat.le_of_ble_eq_true rfl) (by decide) ?_
    refine ax_C_mono (fun r3 M4 h => ?_) h
    refine ax_if_ne (tgt := 29) dX_stay_17 (by decide) (fun c9 => ?_) (fun c9 => ?_)
    · replace h := h.1 c9
      refine ax_bipush dX_stay_29 (by decide) ?_
      exact ax_iret dX_stay_31 h
    · replace h := h.2 c9
      refine ax_iloadn 3 dX_stay_20 rfl rfl ?_
      refine ax_iconst dX_stay_21 (by decide) ?_
      refine ax_iconst dX_stay_22 (by decide) ?_
      refine ax_callS (dp2 := 0) (as := [.inl a3, .inl 0, .inl 1]) (st := []) dX_stay_23 lX_70 rfl rfl (Nat.le_of_ble_eq_true rfl) (by decide) ?_
      refine ax_C_mono (fun r5 M6 h => ?_) h
      refine ax_if_eq (tgt := 32) dX_stay_26 (by decide) (fun c8 => ?_) (fun c8 => ?_)
      · replace h := h.1 c8
        refine ax_aloadn 0 dX_stay_32 rfl rfl ?_
        refine ax_getr dX_stay_33 fX_19 sX_0 rfl ?_
        refine ax_geti dX_stay_36 fX_78 sX_2 rfl ?_
        refine ax_iloadn 1 dX_stay_39 rfl rfl ?_
        refine ax_icmp_ge (tgt := 45) dX_stay_40 (by decide) (fun c7 => ?_) (fun c7 => ?_)
        · replace h := h.1 c7
          refine ax_iconst dX_stay_45 (by decide) ?_
          refine ax_istore dX_stay_46 (by decide) rfl ?_
          exact ax_sub [1, 2, 3, 4, 0] rfl h
        · replace h := h.2 c7
          refine ax_iconst dX_stay_43 (by decide) ?_
          exact ax_iret dX_stay_44 h
      · replace h := h.2 c8
        refine ax_bipush dX_stay_29 (by decide) ?_
        exact ax_iret dX_stay_31 h
theorem gX_stay_48 {P : Int → ax_Mem → Prop} {M : ax_Mem} {v1 v2 v3 v4 : Int} (h : (999 ≤ v4 → (¬ v3 = 0 → (-2147483648 ≤ (v4 * v1) ∧ (v4 * v1) < 2147483648) ∧ P (v4 * v1) M) ∧ (v3 = 0 → P v4 M)) ∧ (¬ 999 ≤ v4 → kE_thatStayFor [.inr (.inr 2), .inl v4] M (fun r3 M4 => (v1 ≤ r3 → (¬ v3 = 0 → (-2147483648 ≤ (v4 * v1) ∧ (v4 * v1) < 2147483648) ∧ P (v4 * v1) M4) ∧ (v3 = 0 → P v4 M4)) ∧ (¬ v1 ≤ r3 → (-2147483648 ≤ (v4 + v2) ∧ (v4 + v2) < 2147483648) ∧ jX_stay P 48 [(0, .inr (.inr 0)), (1, .inl v1), (2, .inl v2), (3, .inl v3), (4, .inl (v4 + v2))] [] M4)))) : jX_stay P 48 [(0, .inr (.inr 0)), (1, .inl v1), (2, .inl v2), (3, .inl v3), (4, .inl v4)] [] M := by
  refine ax_iload 4 dX_stay_48 rfl ?_
  refine ax_sipush dX_stay_50 (by decide) ?_
  refine ax_icmp_ge (tgt := 78) dX_stay_53 (by decide) (fun c9 => ?_) (fun c9 => ?_)
  · replace h := h.1 c9
    refine ax_iloadn 3 dX_stay_78 rfl rfl ?_
    refine ax_if_ne (tgt := 87) dX_stay_79 (by decide) (fun c2 => ?_) (fun c2 => ?_)
    · replace h := h.1 c2
      refine ax_iload 4 dX_stay_87 rfl ?_
      refine ax_iloadn 1 dX_stay_89 rfl rfl ?_
      obtain ⟨q1, h⟩ := h
      refine ax_imul dX_stay_90 q1 ?_
      exact ax_iret dX_stay_91 h
    · replace h := h.2 c2
      refine ax_iload 4 dX_stay_82 rfl ?_
      refine ax_goto (tgt := 91) dX_stay_84 (by decide) ?_
      exact ax_iret dX_stay_91 h
  · replace h := h.2 c9
    refine ax_aloadn 0 dX_stay_56 rfl rfl ?_
    refine ax_getr dX_stay_57 fX_19 sX_0 rfl ?_
    refine ax_iload 4 dX_stay_60 rfl ?_
    refine ax_callV (dp2 := 0) (as := [.inl v4]) (st := []) dX_stay_62 lX_239 sX_2 ⟨_, _, rfl⟩ rfl rfl (Nat.le_of_ble_eq_true rfl) (by decide) ?_
    refine ax_C_mono (fun r3 M4 h => ?_) h
    refine ax_iloadn 1 dX_stay_65 rfl rfl ?_
    refine ax_icmp_ge (tgt := 78) dX_stay_66 (by decide) (fun c8 => ?_) (fun c8 => ?_)
    · replace h := h.1 c8
      refine ax_iloadn 3 dX_stay_78 rfl rfl ?_
      refine ax_if_ne (tgt := 87) dX_stay_79 (by decide) (fun c6 => ?_) (fun c6 => ?_)
      · replace h := h.1 c6
        refine ax_iload 4 dX_stay_87 rfl ?_
        refine ax_iloadn 1 dX_stay_89 rfl rfl ?_
        obtain ⟨q5, h⟩ := h
        refine ax_imul dX_stay_90 q5 ?_
        exact ax_iret dX_stay_91 h
      · replace h := h.2 c6
        refine ax_iload 4 dX_stay_82 rfl ?_
        refine ax_goto (tgt := 91) dX_stay_84 (by decide) ?_
        exact ax_iret dX_stay_91 h
    · replace h := h.2 c8
      refine ax_iload 4 dX_stay_69 rfl ?_
      refine ax_iloadn 2 dX_stay_71 rfl rfl ?_
      obtain ⟨q7, h⟩ := h
      refine ax_iadd dX_stay_72 q7 ?_
      refine ax_istore dX_stay_73 (by decide) rfl ?_
      refine ax_goto (tgt := 48) dX_stay_75 (by decide) ?_
      exact ax_sub [1, 2, 3, 4, 0] rfl h
theorem eX_stay {P : Int → ax_Mem → Prop} {M : ax_Mem} {a1 a2 a3 : Int} (h : kX_outside [.inl a1, .inl 1, .inl 12] M (fun r1 M2 => (¬ r1 = 0 → P (-102) M2) ∧ (r1 = 0 → kX_outside [.inl a2, .inl 1, .inl 99] M2 (fun r3 M4 => (¬ r3 = 0 → P (-102) M4) ∧ (r3 = 0 → kX_outside [.inl a3, .inl 0, .inl 1] M4 (fun r5 M6 => (r5 = 0 → (a1 ≤ (M6 2 7) → jX_stay P 48 [(0, .inr (.inr 0)), (1, .inl a1), (2, .inl a2), (3, .inl a3), (4, .inl 0)] [] M6) ∧ (¬ a1 ≤ (M6 2 7) → P (-1) M6)) ∧ (¬ r5 = 0 → P (-102) M6))))))) : kX_stay [.inr (.inr 0), .inl a1, .inl a2, .inl a3] M P := ax_ofJ (by decide) (Nat.le_of_ble_eq_true rfl) (gX_stay_0 h)
-- X_image dp 2
theorem gX_image_0 {P : Int → ax_Mem → Prop} {M : ax_Mem} (h : kC_isMissing [.inr (.inr 1)] M (fun r1 M2 => (r1 = 0 → kI_keep [.inr (.inr 10), .inr (.inr 2)] M2 (fun _ M4 => P (M4 2 7) M4)) ∧ (¬ r1 = 0 → P (-103) M2))) : jX_image P 0 [(0, .inr (.inr 0))] [] M := by
  refine ax_aloadn 0 dX_image_0 rfl rfl ?_
  refine ax_getr dX_image_1 fX_10 sX_0 rfl ?_
  refine ax_callV (dp2 := 0) (as := []) (st := []) dX_image_4 lX_90 sX_1 ⟨_, _, rfl⟩ rfl rfl (Nat.le_of_ble_eq_true rfl) (by decide) ?_
  refine ax_C_mono (fun r1 M2 h => ?_) h
  refine ax_if_eq (tgt := 13) dX_image_7 (by decide) (fun c5 => ?_) (fun c5 => ?_)
  · replace h := h.1 c5
    refine ax_aloadn 0 dX_image_13 rfl rfl ?_
    refine ax_getr dX_image_14 fX_26 sX_0 rfl ?_
    refine ax_aloadn 0 dX_image_17 rfl rfl ?_
    refine ax_getr dX_image_18 fX_19 sX_0 rfl ?_
    refine ax_callV (dp2 := 1) (as := [.inr (.inr 2)]) (st := []) dX_image_21 lX_242 sX_10 ⟨_, _, rfl⟩ rfl rfl (Nat.le_of_ble_eq_true rfl) (by decide) ?_
    refine ax_C_mono (fun _ M4 h => ?_) h
    refine ax_aloadn 0 dX_image_24 rfl rfl ?_
    refine ax_getr dX_image_25 fX_19 sX_0 rfl ?_
    refine ax_geti dX_image_28 fX_78 sX_2 rfl ?_
    exact ax_iret dX_image_31 h
  · replace h := h.2 c5
    refine ax_bipush dX_image_10 (by decide) ?_
    exact ax_iret dX_image_12 h
theorem eX_image {P : Int → ax_Mem → Prop} {M : ax_Mem} (h : kC_isMissing [.inr (.inr 1)] M (fun r1 M2 => (r1 = 0 → kI_keep [.inr (.inr 10), .inr (.inr 2)] M2 (fun _ M4 => P (M4 2 7) M4)) ∧ (¬ r1 = 0 → P (-103) M2))) : kX_image [.inr (.inr 0)] M P := ax_ofJ (by decide) (Nat.le_of_ble_eq_true rfl) (gX_image_0 h)
-- X_restore dp 2
theorem gX_restore_0 {P : Int → ax_Mem → Prop} {M : ax_Mem} (h : (¬ (M 10 3) = 0 → kI_giveBack [.inr (.inr 10), .inr (.inr 2)] M (fun _ M2 => P (M2 2 7) M2)) ∧ ((M 10 3) = 0 → P (-103) M)) : jX_restore P 0 [(0, .inr (.inr 0))] [] M := by
  refine ax_aloadn 0 dX_restore_0 rfl rfl ?_
  refine ax_getr dX_restore_1 fX_26 sX_0 rfl ?_
  refine ax_geti dX_restore_4 fX_82 sX_10 rfl ?_
  refine ax_if_ne (tgt := 13) dX_restore_7 (by decide) (fun c3 => ?_) (fun c3 => ?_)
  · replace h := h.1 c3
    refine ax_aloadn 0 dX_restore_13 rfl rfl ?_
    refine ax_getr dX_restore_14 fX_26 sX_0 rfl ?_
    refine ax_aloadn 0 dX_restore_17 rfl rfl ?_
    refine ax_getr dX_restore_18 fX_19 sX_0 rfl ?_
    refine ax_callV (dp2 := 1) (as := [.inr (.inr 2)]) (st := []) dX_restore_21 lX_245 sX_10 ⟨_, _, rfl⟩ rfl rfl (Nat.le_of_ble_eq_true rfl) (by decide) ?_
    refine ax_C_mono (fun _ M2 h => ?_) h
    refine ax_aloadn 0 dX_restore_24 rfl rfl ?_
    refine ax_getr dX_restore_25 fX_19 sX_0 rfl ?_
    refine ax_geti dX_restore_28 fX_78 sX_2 rfl ?_
    exact ax_iret dX_restore_31 h
  · replace h := h.2 c3
    refine ax_bipush dX_restore_10 (by decide) ?_
    exact ax_iret dX_restore_12 h
theorem eX_restore {P : Int → ax_Mem → Prop} {M : ax_Mem} (h : (¬ (M 10 3) = 0 → kI_giveBack [.inr (.inr 10), .inr (.inr 2)] M (fun _ M2 => P (M2 2 7) M2)) ∧ ((M 10 3) = 0 → P (-103) M)) : kX_restore [.inr (.inr 0)] M P := ax_ofJ (by decide) (Nat.le_of_ble_eq_true rfl) (gX_restore_0 h)
-- X_count dp 1
theorem gX_count_0 {P : Int → ax_Mem → Prop} {M : ax_Mem} {a1 : Int} (h : ((a1 = 0) → P (M 1 0) M) ∧ ((a1 = 1) → kC_seats [.inr (.inr 1)] M (fun r2 M3 => P r2 M3)) ∧ ((a1 = 2) → P (M 1 2) M) ∧ ((a1 = 3) → P (M 2 7) M) ∧ ((a1 = 4) → P (M 0 9) M) ∧ ((a1 = 5) → P (M 13 1) M) ∧ ((a1 = 6) → P (M 1 3) M) ∧ ((a1 = 7) → P (M 0 10) M) ∧ ((a1 = 8) → kE_bagsOfAll [.inr (.inr 2)] M (fun r4 M5 => P r4 M5)) ∧ ((¬ a1 = 0 ∧ ¬ a1 = 1 ∧ ¬ a1 = 2 ∧ ¬ a1 = 3 ∧ ¬ a1 = 4 ∧ ¬ a1 = 5 ∧ ¬ a1 = 6 ∧ ¬ a1 = 7 ∧ ¬ a1 = 8) → P (-102) M)) : jX_count P 0 [(0, .inr (.inr 0)), (1, .inl a1)] [] M := by
  refine ax_iloadn 1 dX_count_0 rfl rfl ?_
  obtain ⟨c1_0, c1_1, c1_2, c1_3, c1_4, c1_5, c1_6, c1_7, c1_8, c1_9⟩ := h
  by_cases c1d : ¬ a1 = 0 ∧ ¬ a1 = 1 ∧ ¬ a1 = 2 ∧ ¬ a1 = 3 ∧ ¬ a1 = 4 ∧ ¬ a1 = 5 ∧ ¬ a1 = 6 ∧ ¬ a1 = 7 ∧ ¬ a1 = 8
  · replace h := c1_9 c1d
    refine ax_tabOut (tgt := 118) dX_count_1 (by omega) (by decide) ?_
    refine ax_bipush dX_count_118 (by decide) ?_
    exact ax_iret dX_count_120 h
  · rcases (show a1 = 0 ∨ a1 = 1 ∨ a1 = 2 ∨ a1 = 3 ∨ a1 = 4 ∨ a1 = 5 ∨ a1 = 6 ∨ a1 = 7 ∨ a1 = 8 by omega) with c1e | c1e | c1e | c1e | c1e | c1e | c1e | c1e | c1e
    · replace h := c1_0 (by omega)
      refine ax_tabIn (tgt := 52) (off := 51) dX_count_1 (by omega) (by omega) (by rw [c1e]; decide) (by decide) ?_
      refine ax_aloadn 0 dX_count_52 rfl rfl ?_
      refine ax_getr dX_count_53 fX_10 sX_0 rfl ?_
      refine ax_geti dX_count_56 fX_179 sX_1 rfl ?_
      exact ax_iret dX_count_59 h
    · replace h := c1_1 (by omega)
      refine ax_tabIn (tgt := 60) (off := 59) dX_count_1 (by omega) (by omega) (by rw [c1e]; decide) (by decide) ?_
      refine ax_aloadn 0 dX_count_60 rfl rfl ?_
      refine ax_getr dX_count_61 fX_10 sX_0 rfl ?_
      refine ax_callV (dp2 := 0) (as := []) (st := []) dX_count_64 lX_86 sX_1 ⟨_, _, rfl⟩ rfl rfl (Nat.le_of_ble_eq_true rfl) (by decide) ?_
      refine ax_C_mono (fun r2 M3 h => ?_) h
      exact ax_iret dX_count_67 h
    · replace h := c1_2 (by omega)
      refine ax_tabIn (tgt := 68) (off := 67) dX_count_1 (by omega) (by omega) (by rw [c1e]; decide) (by decide) ?_
      refine ax_aloadn 0 dX_count_68 rfl rfl ?_
      refine ax_getr dX_count_69 fX_10 sX_0 rfl ?_
      refine ax_geti dX_count_72 fX_248 sX_1 rfl ?_
      exact ax_iret dX_count_75 h
    · replace h := c1_3 (by omega)
      refine ax_tabIn (tgt := 76) (off := 75) dX_count_1 (by omega) (by omega) (by rw [c1e]; decide) (by decide) ?_
      refine ax_aloadn 0 dX_count_76 rfl rfl ?_
      refine ax_getr dX_count_77 fX_19 sX_0 rfl ?_
      refine ax_geti dX_count_80 fX_78 sX_2 rfl ?_
      exact ax_iret dX_count_83 h
    · replace h := c1_4 (by omega)
      refine ax_tabIn (tgt := 84) (off := 83) dX_count_1 (by omega) (by omega) (by rw [c1e]; decide) (by decide) ?_
      refine ax_aloadn 0 dX_count_84 rfl rfl ?_
      refine ax_geti dX_count_85 fX_149 sX_0 rfl ?_
      exact ax_iret dX_count_88 h
    · replace h := c1_5 (by omega)
      refine ax_tabIn (tgt := 89) (off := 88) dX_count_1 (by omega) (by omega) (by rw [c1e]; decide) (by decide) ?_
      refine ax_aloadn 0 dX_count_89 rfl rfl ?_
      refine ax_getr dX_count_90 fX_33 sX_0 rfl ?_
      refine ax_geti dX_count_93 fX_138 sX_13 rfl ?_
      exact ax_iret dX_count_96 h
    · replace h := c1_6 (by omega)
      refine ax_tabIn (tgt := 97) (off := 96) dX_count_1 (by omega) (by omega) (by rw [c1e]; decide) (by decide) ?_
      refine ax_aloadn 0 dX_count_97 rfl rfl ?_
      refine ax_getr dX_count_98 fX_10 sX_0 rfl ?_
      refine ax_geti dX_count_101 fX_251 sX_1 rfl ?_
      exact ax_iret dX_count_104 h
    · replace h := c1_7 (by omega)
      refine ax_tabIn (tgt := 105) (off := 104) dX_count_1 (by omega) (by omega) (by rw [c1e]; decide) (by decide) ?_
      refine ax_aloadn 0 dX_count_105 rfl rfl ?_
      refine ax_geti dX_count_106 fX_188 sX_0 rfl ?_
      exact ax_iret dX_count_109 h
    · replace h := c1_8 (by omega)
      refine ax_tabIn (tgt := 110) (off := 109) dX_count_1 (by omega) (by omega) (by rw [c1e]; decide) (by decide) ?_
      refine ax_aloadn 0 dX_count_110 rfl rfl ?_
      refine ax_getr dX_count_111 fX_19 sX_0 rfl ?_
      refine ax_callV (dp2 := 0) (as := []) (st := []) dX_count_114 lX_254 sX_2 ⟨_, _, rfl⟩ rfl rfl (Nat.le_of_ble_eq_true rfl) (by decide) ?_
      refine ax_C_mono (fun r4 M5 h => ?_) h
      exact ax_iret dX_count_117 h
theorem eX_count {P : Int → ax_Mem → Prop} {M : ax_Mem} {a1 : Int} (h : ((a1 = 0) → P (M 1 0) M) ∧ ((a1 = 1) → kC_seats [.inr (.inr 1)] M (fun r2 M3 => P r2 M3)) ∧ ((a1 = 2) → P (M 1 2) M) ∧ ((a1 = 3) → P (M 2 7) M) ∧ ((a1 = 4) → P (M 0 9) M) ∧ ((a1 = 5) → P (M 13 1) M) ∧ ((a1 = 6) → P (M 1 3) M) ∧ ((a1 = 7) → P (M 0 10) M) ∧ ((a1 = 8) → kE_bagsOfAll [.inr (.inr 2)] M (fun r4 M5 => P r4 M5)) ∧ ((¬ a1 = 0 ∧ ¬ a1 = 1 ∧ ¬ a1 = 2 ∧ ¬ a1 = 3 ∧ ¬ a1 = 4 ∧ ¬ a1 = 5 ∧ ¬ a1 = 6 ∧ ¬ a1 = 7 ∧ ¬ a1 = 8) → P (-102) M)) : kX_count [.inr (.inr 0), .inl a1] M P := ax_ofJ (by decide) (Nat.le_of_ble_eq_true rfl) (gX_count_0 h)
-- X_withCall dp 6
theorem gX_withCall_0 {P : Int → ax_Mem → Prop} {M : ax_Mem} {a1 a2 : Int} (h : kX_boardBy [.inr (.inr 0), .inl a2, .inl 3, .inl 9999] M (fun _ M2 => jX_withCall P 15 [(0, .inr (.inr 0)), (3, .inl a2), (4, .inr (.inl a1)), (6, .inl 0)] [] M2)) : jX_withCall P 0 [(0, .inr (.inr 0)), (1, .inr (.inl a1)), (3, .inl a2)] [] M := by
  refine ax_lloadn 1 dX_withCall_0 rfl rfl ?_
  refine ax_lstore dX_withCall_1 (by decide) rfl ?_
  refine ax_aloadn 1 dX_withCall_3 rfl rfl ?_
  refine ax_iloadn 3 dX_withCall_4 rfl rfl ?_
  refine ax_iconst dX_withCall_5 (by decide) ?_
  refine ax_sipush dX_withCall_6 (by decide) ?_
  refine ax_callV (dp2 := 5) (as := [.inl a2, .inl 3, .inl 9999]) (st := []) dX_withCall_9 lX_168 sX_0 ⟨_, _, rfl⟩ rfl rfl (Nat.le_of_ble_eq_true rfl) (by decide) ?_
  refine ax_C_mono (fun _ M2 h => ?_) h
  refine ax_iconst dX_withCall_12 (by decide) ?_
  refine ax_istore dX_withCall_13 (by decide) rfl ?_
  exact ax_sub [2, 4, 1, 0] rfl h
theorem gX_withCall_15 {P : Int → ax_Mem → Prop} {M : ax_Mem} {v3 v4 v6 : Int} (h : ((M 40 1) ≤ v6 → jX_withCall P 56 [(0, .inr (.inr 0)), (3, .inl v3), (4, .inr (.inl v4)), (6, .inl 0)] [] M) ∧ (¬ (M 40 1) ≤ v6 → (0 ≤ v6 ∧ v6 < 12) ∧ jX_withCall P 15 [(0, .inr (.inr 0)), (3, .inl v3), (4, .inr (.inl ((31 * v4) + (M 41 (v6.toNat))))), (6, .inl (v6 + 1))] [] M)) : jX_withCall P 15 [(0, .inr (.inr 0)), (3, .inl v3), (4, .inr (.inl v4)), (6, .inl v6)] [] M := by
  refine ax_iload 3 dX_withCall_15 rfl ?_
  refine ax_aloadn 0 dX_withCall_17 rfl rfl ?_
  refine ax_getr dX_withCall_18 fX_46 sX_0 rfl ?_
  refine ax_geti dX_withCall_21 fX_164 sX_40 rfl ?_
  refine ax_icmp_ge (tgt := 53) dX_withCall_24 (by decide) (fun c2 => ?_) (fun c2 => ?_)
  · replace h := h.1 c2
    refine ax_iconst dX_withCall_53 (by decide) ?_
    refine ax_istore dX_withCall_54 (by decide) rfl ?_
    exact ax_sub [1, 2, 3, 0] rfl h
  · replace h := h.2 c2
    refine ax_ldc2 (n := 31) dX_withCall_27 nX_259 ?_
    refine ax_lload 2 dX_withCall_30 rfl ?_
    refine ax_lmul dX_withCall_32 ?_
    refine ax_aloadn 0 dX_withCall_33 rfl rfl ?_
    refine ax_getr dX_withCall_34 fX_46 sX_0 rfl ?_
    refine ax_getr dX_withCall_37 fX_165 sX_40 rfl ?_
    refine ax_iload 3 dX_withCall_40 rfl ?_
    obtain ⟨q1, h⟩ := h
    refine ax_iald dX_withCall_42 sX_41 q1.1 q1.2 ?_
    refine ax_i2l dX_withCall_43 ?_
    refine ax_ladd dX_withCall_44 ?_
    refine ax_lstore dX_withCall_45 (by decide) rfl ?_
    refine ax_iinc (j := 3) dX_withCall_47 rfl (by decide) (show ax_r _ from ⟨by omega, by omega⟩) rfl ?_
    refine ax_goto (tgt := 15) dX_withCall_50 (by decide) ?_
    exact ax_sub [2, 3, 1, 0] rfl h
theorem gX_withCall_56 {P : Int → ax_Mem → Prop} {M : ax_Mem} {v3 v4 v6 : Int} (h : (2 < v6 → kX_secondsByDoors [.inr (.inr 0), .inl v3] M (fun r1 M2 => P ((31 * v4) + r1) M2)) ∧ (¬ 2 < v6 → kB_tell [.inr (.inr 44), .inl v6] M (fun r3 M4 => (-2147483648 ≤ (v6 + 1) ∧ (v6 + 1) < 2147483648) ∧ jX_withCall P 56 [(0, .inr (.inr 0)), (3, .inl v3), (4, .inr (.inl ((31 * v4) + r3))), (6, .inl (v6 + 1))] [] M4))) : jX_withCall P 56 [(0, .inr (.inr 0)), (3, .inl v3), (4, .inr (.inl v4)), (6, .inl v6)] [] M := by
  refine ax_iload 3 dX_withCall_56 rfl ?_
  refine ax_iconst dX_withCall_58 (by decide) ?_
  refine ax_icmp_gt (tgt := 87) dX_withCall_59 (by decide) (fun c6 => ?_) (fun c6 => ?_)
  · replace h := h.1 c6
    refine ax_ldc2 (n := 31) dX_withCall_87 nX_259 ?_
    refine ax_lload 2 dX_withCall_90 rfl ?_
    refine ax_lmul dX_withCall_92 ?_
    refine ax_aloadn 0 dX_withCall_93 rfl rfl ?_
    refine ax_iloadn 1 dX_withCall_94 rfl rfl ?_
    refine ax_callV (dp2 := 5) (as := [.inl v3]) (st := [.inr (.inl (31 * v4))]) dX_withCall_95 lX_216 sX_0 ⟨_, _, rfl⟩ rfl rfl (Nat.le_of_ble_eq_true rfl) (by decide) ?_
    refine ax_C_mono (fun r1 M2 h => ?_) h
    refine ax_i2l dX_withCall_98 ?_
    refine ax_ladd dX_withCall_99 ?_
    exact ax_lret dX_withCall_100 h
  · replace h := h.2 c6
    refine ax_ldc2 (n := 31) dX_withCall_62 nX_259 ?_
    refine ax_lload 2 dX_withCall_65 rfl ?_
    refine ax_lmul dX_withCall_67 ?_
    refine ax_aloadn 0 dX_withCall_68 rfl rfl ?_
    refine ax_getr dX_withCall_69 fX_59 sX_0 rfl ?_
    refine ax_iload 3 dX_withCall_72 rfl ?_
    refine ax_callV (dp2 := 0) (as := [.inl v6]) (st := [.inr (.inl (31 * v4))]) dX_withCall_74 lX_171 sX_44 ⟨_, _, rfl⟩ rfl rfl (Nat.le_of_ble_eq_true rfl) (by decide) ?_
    refine ax_C_mono (fun r3 M4 h => ?_) h
    refine ax_i2l dX_withCall_77 ?_
    refine ax_ladd dX_withCall_78 ?_
    refine ax_lstore dX_withCall_79 (by decide) rfl ?_
    obtain ⟨q5, h⟩ := h
    refine ax_iinc (j := 3) dX_withCall_81 rfl (by decide) q5 rfl ?_
    refine ax_goto (tgt := 56) dX_withCall_84 (by decide) ?_
    exact ax_sub [2, 3, 1, 0] rfl h
theorem eX_withCall {P : Int → ax_Mem → Prop} {M : ax_Mem} {a1 a2 : Int} (h : kX_boardBy [.inr (.inr 0), .inl a2, .inl 3, .inl 9999] M (fun _ M2 => jX_withCall P 15 [(0, .inr (.inr 0)), (3, .inl a2), (4, .inr (.inl a1)), (6, .inl 0)] [] M2)) : kX_withCall [.inr (.inr 0), .inr (.inl a1), .inl a2] M P := ax_ofJ (by decide) (Nat.le_of_ble_eq_true rfl) (gX_withCall_0 h)
-- X_digest dp 7
theorem gX_digest_0 {P : Int → ax_Mem → Prop} {M : ax_Mem} (h : jX_digest P 6 [(0, .inr (.inr 0)), (1, .inr (.inl 523)), (3, .inl 0)] [] M) : jX_digest P 0 [(0, .inr (.inr 0))] [] M := by
  refine ax_ldc2 (n := 523) dX_digest_0 nX_257 ?_
  refine ax_lstoren dX_digest_3 rfl (by decide) rfl ?_
  refine ax_iconst dX_digest_4 (by decide) ?_
  refine ax_istoren dX_digest_5 rfl (by decide) rfl ?_
  exact ax_sub [2, 1, 0] rfl h
theorem gX_digest_6 {P : Int → ax_Mem → Prop} {M : ax_Mem} {v1 v3 : Int} (h : ((M 2 7) ≤ v3 → kC_isMissing [.inr (.inr 1)] M (fun r1 M2 => (¬ r1 = 0 → jX_digest P 158 [(0, .inr (.inr 0)), (1, .inr (.inl v1)), (3, .inl 0)] [] M2) ∧ (r1 = 0 → jX_digest P 69 [(0, .inr (.inr 0)), (1, .inr (.inl v1)), (3, .inl 0)] [] M2))) ∧ (¬ (M 2 7) ≤ v3 → jX_digest P 20 [(0, .inr (.inr 0)), (1, .inr (.inl v1)), (3, .inl v3), (4, .inl 0)] [] M)) : jX_digest P 6 [(0, .inr (.inr 0)), (1, .inr (.inl v1)), (3, .inl v3)] [] M := by
  refine ax_iloadn 2 dX_digest_6 rfl rfl ?_
  refine ax_aloadn 0 dX_digest_7 rfl rfl ?_
  refine ax_getr dX_digest_8 fX_19 sX_0 rfl ?_
  refine ax_geti dX_digest_11 fX_78 sX_2 rfl ?_
  refine ax_icmp_ge (tgt := 57) dX_digest_14 (by decide) (fun c4 => ?_) (fun c4 => ?_)
  · replace h := h.1 c4
    refine ax_aloadn 0 dX_digest_57 rfl rfl ?_
    refine ax_getr dX_digest_58 fX_10 sX_0 rfl ?_
    refine ax_callV (dp2 := 0) (as := []) (st := []) dX_digest_61 lX_90 sX_1 ⟨_, _, rfl⟩ rfl rfl (Nat.le_of_ble_eq_true rfl) (by decide) ?_
    refine ax_C_mono (fun r1 M2 h => ?_) h
    refine ax_if_ne (tgt := 156) dX_digest_64 (by decide) (fun c3 => ?_) (fun c3 => ?_)
    · replace h := h.1 c3
      refine ax_iconst dX_digest_156 (by decide) ?_
      refine ax_istoren dX_digest_157 rfl (by decide) rfl ?_
      exact ax_sub [1, 2, 0] rfl h
    · replace h := h.2 c3
      refine ax_iconst dX_digest_67 (by decide) ?_
      refine ax_istoren dX_digest_68 rfl (by decide) rfl ?_
      exact ax_sub [1, 2, 0] rfl h
  · replace h := h.2 c4
    refine ax_iconst dX_digest_17 (by decide) ?_
    refine ax_istore dX_digest_18 (by decide) rfl ?_
    exact ax_sub [1, 2, 3, 0] rfl h
theorem gX_digest_158 {P : Int → ax_Mem → Prop} {M : ax_Mem} {v1 v3 : Int} (h : ((M 13 1) ≤ v3 → jX_digest P 194 [(0, .inr (.inr 0)), (1, .inr (.inl v1)), (3, .inl 0)] [] M) ∧ (¬ (M 13 1) ≤ v3 → (0 ≤ v3 ∧ v3 < 16) ∧ jX_digest P 158 [(0, .inr (.inr 0)), (1, .inr (.inl ((31 * v1) + (M 14 (v3.toNat))))), (3, .inl (v3 + 1))] [] M)) : jX_digest P 158 [(0, .inr (.inr 0)), (1, .inr (.inl v1)), (3, .inl v3)] [] M := by
  refine ax_iloadn 2 dX_digest_158 rfl rfl ?_
  refine ax_aloadn 0 dX_digest_159 rfl rfl ?_
  refine ax_getr dX_digest_160 fX_33 sX_0 rfl ?_
  refine ax_geti dX_digest_163 fX_138 sX_13 rfl ?_
  refine ax_icmp_ge (tgt := 192) dX_digest_166 (by decide) (fun c2 => ?_) (fun c2 => ?_)
  · replace h := h.1 c2
    refine ax_iconst dX_digest_192 (by decide) ?_
    refine ax_istoren dX_digest_193 rfl (by decide) rfl ?_
    exact ax_sub [1, 2, 0] rfl h
  · replace h := h.2 c2
    refine ax_ldc2 (n := 31) dX_digest_169 nX_259 ?_
    refine ax_lloadn 1 dX_digest_172 rfl rfl ?_
    refine ax_lmul dX_digest_173 ?_
    refine ax_aloadn 0 dX_digest_174 rfl rfl ?_
    refine ax_getr dX_digest_175 fX_33 sX_0 rfl ?_
    refine ax_getr dX_digest_178 fX_275 sX_13 rfl ?_
    refine ax_iloadn 2 dX_digest_181 rfl rfl ?_
    obtain ⟨q1, h⟩ := h
    refine ax_cald dX_digest_182 sX_14 q1.1 q1.2 ?_
    refine ax_i2l dX_digest_183 ?_
    refine ax_ladd dX_digest_184 ?_
    refine ax_lstoren dX_digest_185 rfl (by decide) rfl ?_
    refine ax_iinc (j := 2) dX_digest_186 rfl (by decide) (show ax_r _ from ⟨by omega, by omega⟩) rfl ?_
    refine ax_goto (tgt := 158) dX_digest_189 (by decide) ?_
    exact ax_sub [2, 1, 0] rfl h
theorem gX_digest_69 {P : Int → ax_Mem → Prop} {M : ax_Mem} {v1 v3 : Int} (h : ((M 0 9) ≤ v3 → jX_digest P 92 [(0, .inr (.inr 0)), (1, .inr (.inl v1)), (3, .inl 0)] [] M) ∧ (¬ (M 0 9) ≤ v3 → kX_withCall [.inr (.inr 0), .inr (.inl v1), .inl v3] M (fun r1 M2 => (-2147483648 ≤ (v3 + 1) ∧ (v3 + 1) < 2147483648) ∧ jX_digest P 69 [(0, .inr (.inr 0)), (1, .inr (.inl r1)), (3, .inl (v3 + 1))] [] M2))) : jX_digest P 69 [(0, .inr (.inr 0)), (1, .inr (.inl v1)), (3, .inl v3)] [] M := by
  refine ax_iloadn 2 dX_digest_69 rfl rfl ?_
  refine ax_aloadn 0 dX_digest_70 rfl rfl ?_
  refine ax_geti dX_digest_71 fX_149 sX_0 rfl ?_
  refine ax_icmp_ge (tgt := 90) dX_digest_74 (by decide) (fun c4 => ?_) (fun c4 => ?_)
  · replace h := h.1 c4
    refine ax_iconst dX_digest_90 (by decide) ?_
    refine ax_istoren dX_digest_91 rfl (by decide) rfl ?_
    exact ax_sub [1, 2, 0] rfl h
  · replace h := h.2 c4
    refine ax_aloadn 0 dX_digest_77 rfl rfl ?_
    refine ax_lloadn 1 dX_digest_78 rfl rfl ?_
    refine ax_iloadn 2 dX_digest_79 rfl rfl ?_
    refine ax_callV (dp2 := 6) (as := [.inr (.inl v1), .inl v3]) (st := []) dX_digest_80 lX_261 sX_0 ⟨_, _, rfl⟩ rfl rfl (Nat.le_of_ble_eq_true rfl) (by decide) ?_
    refine ax_C_mono (fun r1 M2 h => ?_) h
    refine ax_lstoren dX_digest_83 rfl (by decide) rfl ?_
    obtain ⟨q3, h⟩ := h
    refine ax_iinc (j := 2) dX_digest_84 rfl (by decide) q3 rfl ?_
    refine ax_goto (tgt := 69) dX_digest_87 (by decide) ?_
    exact ax_sub [2, 1, 0] rfl h
theorem gX_digest_20 {P : Int → ax_Mem → Prop} {M : ax_Mem} {v1 v3 v4 : Int} (h : (6 < v4 → (-2147483648 ≤ (v3 + 1) ∧ (v3 + 1) < 2147483648) ∧ jX_digest P 6 [(0, .inr (.inr 0)), (1, .inr (.inl v1)), (3, .inl (v3 + 1))] [] M) ∧ (¬ 6 < v4 → kE_tell [.inr (.inr 2), .inl v3, .inl v4] M (fun r2 M3 => (-2147483648 ≤ (v4 + 1) ∧ (v4 + 1) < 2147483648) ∧ jX_digest P 20 [(0, .inr (.inr 0)), (1, .inr (.inl ((31 * v1) + r2))), (3, .inl v3), (4, .inl (v4 + 1))] [] M3))) : jX_digest P 20 [(0, .inr (.inr 0)), (1, .inr (.inl v1)), (3, .inl v3), (4, .inl v4)] [] M := by
  refine ax_iload 3 dX_digest_20 rfl ?_
  refine ax_bipush dX_digest_22 (by decide) ?_
  refine ax_icmp_gt (tgt := 51) dX_digest_24 (by decide) (fun c5 => ?_) (fun c5 => ?_)
  · replace h := h.1 c5
    obtain ⟨q1, h⟩ := h
    refine ax_iinc (j := 2) dX_digest_51 rfl (by decide) q1 rfl ?_
    refine ax_goto (tgt := 6) dX_digest_54 (by decide) ?_
    exact ax_sub [1, 2, 0] rfl h
  · replace h := h.2 c5
    refine ax_ldc2 (n := 31) dX_digest_27 nX_259 ?_
    refine ax_lloadn 1 dX_digest_30 rfl rfl ?_
    refine ax_lmul dX_digest_31 ?_
    refine ax_aloadn 0 dX_digest_32 rfl rfl ?_
    refine ax_getr dX_digest_33 fX_19 sX_0 rfl ?_
    refine ax_iloadn 2 dX_digest_36 rfl rfl ?_
    refine ax_iload 3 dX_digest_37 rfl ?_
    refine ax_callV (dp2 := 0) (as := [.inl v3, .inl v4]) (st := [.inr (.inl (31 * v1))]) dX_digest_39 lX_130 sX_2 ⟨_, _, rfl⟩ rfl rfl (Nat.le_of_ble_eq_true rfl) (by decide) ?_
    refine ax_C_mono (fun r2 M3 h => ?_) h
    refine ax_i2l dX_digest_42 ?_
    refine ax_ladd dX_digest_43 ?_
    refine ax_lstoren dX_digest_44 rfl (by decide) rfl ?_
    obtain ⟨q4, h⟩ := h
    refine ax_iinc (j := 3) dX_digest_45 rfl (by decide) q4 rfl ?_
    refine ax_goto (tgt := 20) dX_digest_48 (by decide) ?_
    exact ax_sub [2, 1, 3, 0] rfl h
theorem gX_digest_194 {P : Int → ax_Mem → Prop} {M : ax_Mem} {v1 v3 : Int} (h : (8 < v3 → P v1 M) ∧ (¬ 8 < v3 → kX_count [.inr (.inr 0), .inl v3] M (fun r1 M2 => (-2147483648 ≤ (v3 + 1) ∧ (v3 + 1) < 2147483648) ∧ jX_digest P 194 [(0, .inr (.inr 0)), (1, .inr (.inl ((31 * v1) + r1))), (3, .inl (v3 + 1))] [] M2))) : jX_digest P 194 [(0, .inr (.inr 0)), (1, .inr (.inl v1)), (3, .inl v3)] [] M := by
  refine ax_iloadn 2 dX_digest_194 rfl rfl ?_
  refine ax_bipush dX_digest_195 (by decide) ?_
  refine ax_icmp_gt (tgt := 219) dX_digest_197 (by decide) (fun c4 => ?_) (fun c4 => ?_)
  · replace h := h.1 c4
    refine ax_lloadn 1 dX_digest_219 rfl rfl ?_
    exact ax_lret dX_digest_220 h
  · replace h := h.2 c4
    refine ax_ldc2 (n := 31) dX_digest_200 nX_259 ?_
    refine ax_lloadn 1 dX_digest_203 rfl rfl ?_
    refine ax_lmul dX_digest_204 ?_
    refine ax_aloadn 0 dX_digest_205 rfl rfl ?_
    refine ax_iloadn 2 dX_digest_206 rfl rfl ?_
    refine ax_callV (dp2 := 1) (as := [.inl v3]) (st := [.inr (.inl (31 * v1))]) dX_digest_207 lX_279 sX_0 ⟨_, _, rfl⟩ rfl rfl (Nat.le_of_ble_eq_true rfl) (by decide) ?_
    refine ax_C_mono (fun r1 M2 h => ?_) h
    refine ax_i2l dX_digest_210 ?_
    refine ax_ladd dX_digest_211 ?_
    refine ax_lstoren dX_digest_212 rfl (by decide) rfl ?_
    obtain ⟨q3, h⟩ := h
    refine ax_iinc (j := 2) dX_digest_213 rfl (by decide) q3 rfl ?_
    refine ax_goto (tgt := 194) dX_digest_216 (by decide) ?_
    exact ax_sub [2, 1, 0] rfl h
theorem gX_digest_92 {P : Int → ax_Mem → Prop} {M : ax_Mem} {v1 v3 : Int} (h : (2 < v3 → kX_least [.inr (.inr 0)] M (fun r1 M2 => jX_digest P 130 [(0, .inr (.inr 0)), (1, .inr (.inl ((31 * v1) + r1))), (3, .inl 0)] [] M2)) ∧ (¬ 2 < v3 → kX_out [.inr (.inr 0), .inl v3] M (fun r3 M4 => (-2147483648 ≤ (v3 + 1) ∧ (v3 + 1) < 2147483648) ∧ jX_digest P 92 [(0, .inr (.inr 0)), (1, .inr (.inl ((31 * v1) + r3))), (3, .inl (v3 + 1))] [] M4))) : jX_digest P 92 [(0, .inr (.inr 0)), (1, .inr (.inl v1)), (3, .inl v3)] [] M := by
  refine ax_iloadn 2 dX_digest_92 rfl rfl ?_
  refine ax_iconst dX_digest_93 (by decide) ?_
  refine ax_icmp_gt (tgt := 116) dX_digest_94 (by decide) (fun c6 => ?_) (fun c6 => ?_)
  · replace h := h.1 c6
    refine ax_ldc2 (n := 31) dX_digest_116 nX_259 ?_
    refine ax_lloadn 1 dX_digest_119 rfl rfl ?_
    refine ax_lmul dX_digest_120 ?_
    refine ax_aloadn 0 dX_digest_121 rfl rfl ?_
    refine ax_callV (dp2 := 6) (as := []) (st := [.inr (.inl (31 * v1))]) dX_digest_122 lX_268 sX_0 ⟨_, _, rfl⟩ rfl rfl (Nat.le_of_ble_eq_true rfl) (by decide) ?_
    refine ax_C_mono (fun r1 M2 h => ?_) h
    refine ax_i2l dX_digest_125 ?_
    refine ax_ladd dX_digest_126 ?_
    refine ax_lstoren dX_digest_127 rfl (by decide) rfl ?_
    refine ax_iconst dX_digest_128 (by decide) ?_
    refine ax_istoren dX_digest_129 rfl (by decide) rfl ?_
    exact ax_sub [2, 1, 0] rfl h
  · replace h := h.2 c6
    refine ax_ldc2 (n := 31) dX_digest_97 nX_259 ?_
    refine ax_lloadn 1 dX_digest_100 rfl rfl ?_
    refine ax_lmul dX_digest_101 ?_
    refine ax_aloadn 0 dX_digest_102 rfl rfl ?_
    refine ax_iloadn 2 dX_digest_103 rfl rfl ?_
    refine ax_callV (dp2 := 4) (as := [.inl v3]) (st := [.inr (.inl (31 * v1))]) dX_digest_104 lX_265 sX_0 ⟨_, _, rfl⟩ rfl rfl (Nat.le_of_ble_eq_true rfl) (by decide) ?_
    refine ax_C_mono (fun r3 M4 h => ?_) h
    refine ax_i2l dX_digest_107 ?_
    refine ax_ladd dX_digest_108 ?_
    refine ax_lstoren dX_digest_109 rfl (by decide) rfl ?_
    obtain ⟨q5, h⟩ := h
    refine ax_iinc (j := 2) dX_digest_110 rfl (by decide) q5 rfl ?_
    refine ax_goto (tgt := 92) dX_digest_113 (by decide) ?_
    exact ax_sub [2, 1, 0] rfl h
theorem gX_digest_130 {P : Int → ax_Mem → Prop} {M : ax_Mem} {v1 v3 : Int} (h : (2 < v3 → jX_digest P 158 [(0, .inr (.inr 0)), (1, .inr (.inl v1)), (3, .inl 0)] [] M) ∧ (¬ 2 < v3 → kX_mixed [.inr (.inr 0), .inl 2, .inl 5, .inl v3] M (fun r1 M2 => (-2147483648 ≤ (v3 + 1) ∧ (v3 + 1) < 2147483648) ∧ jX_digest P 130 [(0, .inr (.inr 0)), (1, .inr (.inl ((31 * v1) + r1))), (3, .inl (v3 + 1))] [] M2))) : jX_digest P 130 [(0, .inr (.inr 0)), (1, .inr (.inl v1)), (3, .inl v3)] [] M := by
  refine ax_iloadn 2 dX_digest_130 rfl rfl ?_
  refine ax_iconst dX_digest_131 (by decide) ?_
  refine ax_icmp_gt (tgt := 156) dX_digest_132 (by decide) (fun c4 => ?_) (fun c4 => ?_)
  · replace h := h.1 c4
    refine ax_iconst dX_digest_156 (by decide) ?_
    refine ax_istoren dX_digest_157 rfl (by decide) rfl ?_
    exact ax_sub [1, 2, 0] rfl h
  · replace h := h.2 c4
    refine ax_ldc2 (n := 31) dX_digest_135 nX_259 ?_
    refine ax_lloadn 1 dX_digest_138 rfl rfl ?_
    refine ax_lmul dX_digest_139 ?_
    refine ax_aloadn 0 dX_digest_140 rfl rfl ?_
    refine ax_iconst dX_digest_141 (by decide) ?_
    refine ax_iconst dX_digest_142 (by decide) ?_
    refine ax_iloadn 2 dX_digest_143 rfl rfl ?_
    refine ax_callV (dp2 := 4) (as := [.inl 2, .inl 5, .inl v3]) (st := [.inr (.inl (31 * v1))]) dX_digest_144 lX_271 sX_0 ⟨_, _, rfl⟩ rfl rfl (Nat.le_of_ble_eq_true rfl) (by decide) ?_
    refine ax_C_mono (fun r1 M2 h => ?_) h
    refine ax_i2l dX_digest_147 ?_
    refine ax_ladd dX_digest_148 ?_
    refine ax_lstoren dX_digest_149 rfl (by decide) rfl ?_
    obtain ⟨q3, h⟩ := h
    refine ax_iinc (j := 2) dX_digest_150 rfl (by decide) q3 rfl ?_
    refine ax_goto (tgt := 130) dX_digest_153 (by decide) ?_
    exact ax_sub [2, 1, 0] rfl h
theorem eX_digest {P : Int → ax_Mem → Prop} {M : ax_Mem} (h : jX_digest P 6 [(0, .inr (.inr 0)), (1, .inr (.inl 523)), (3, .inl 0)] [] M) : kX_digest [.inr (.inr 0)] M P := ax_ofJ (by decide) (Nat.le_of_ble_eq_true rfl) (gX_digest_0 h)
