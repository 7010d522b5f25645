/-! mixed -/
def idw : Nat → Int := fun i => (i : Int)
theorem PM_idw (n : Nat) : PM n idw := ⟨fun i hi => by unfold idw; omega, fun i j _ _ e => by unfold idw at e; omega, fun p hp => ⟨p, hp, rfl⟩⟩
def ls (s : Int) : Int := (1103515245 * s + 12345) % 2147483648
theorem ls_b (s : Int) : 0 ≤ ls s ∧ ls s < 2147483648 := ⟨Int.emod_nonneg _ (by omega), Int.emod_lt_of_pos _ (by omega)⟩
def mx : Nat → (Nat → Int) → Int → (Nat → Int) × Int
  | 0, w, s => (w, s)
  | k + 1, w, s => if k = 0 then (w, s) else mx k (xw w k (ls s / 65536 % ((k : Int) + 1)).toNat) (ls s)
theorem mx_s (k : Nat) (w : Nat → Int) (s : Int) : mx (k + 1) w s = if k = 0 then (w, s) else mx k (xw w k (ls s / 65536 % ((k : Int) + 1)).toNat) (ls s) := rfl
theorem ls_d (s : Int) (k : Nat) : 0 ≤ ls s / 65536 % ((k : Int) + 1) ∧ ls s / 65536 % ((k : Int) + 1) < (k : Int) + 1 ∧ 0 ≤ ls s / 65536 ∧ ls s / 65536 < 32768 := by
  have := ls_b s
  exact ⟨Int.emod_nonneg _ (by omega), Int.emod_lt_of_pos _ (by omega), by omega, by omega⟩
theorem PM_mx {n : Nat} : ∀ (k : Nat) (w : Nat → Int) (s : Int), k ≤ n → PM n w → PM n (mx k w s).1
  | 0, _, _, _, h => h
  | k + 1, w, s, hk, h => by
    unfold mx
    split
    · exact h
    · have := ls_d s k
      exact PM_mx k _ _ (by omega) (PM_xw h (by omega) (by omega))
theorem mx_b : ∀ (k : Nat) (w : Nat → Int) (s : Int), 0 ≤ s ∧ s < 2147483648 → 0 ≤ (mx k w s).2 ∧ (mx k w s).2 < 2147483648
  | 0, _, _, h => h
  | k + 1, w, s, h => by
    unfold mx
    split
    · exact h
    · exact mx_b k _ _ (ls_b s)
theorem hN_byNumber {V : ax_Mem} {P : Int → ax_Mem → Prop} {a : Int} (ha : 0 ≤ a ∧ a ≤ 12) (k : ∀ Z, LN Z a.toNat idw → FL V Z → P 0 Z) : kN_byNumber [.inr (.inr 40), .inl a] V P := by
  apply eN_byNumber
  refine up_loop (Q := fun i => ∀ Z : ax_Mem, Z 40 1 = a → (∀ j, j < i → Z 41 j = idw j) → FL V Z → jN_byNumber P 12 [(0, .inr (.inr 40)), (2, .inl (i : Int))] [] Z) a.toNat ?_ ?_ 0 (Nat.zero_le _) _ (by rw [ax_uu, if_pos rfl]; omega) (fun j hj => by omega) ((FL.rf V).u (Or.inl rfl))
  · intro Z h1 h2 hF
    apply gN_byNumber_12
    rw [h1]
    exact ⟨fun _ => k Z ⟨by omega, h2⟩ hF, fun c => by omega⟩
  · intro i hi hQ Z h1 h2 hF
    apply gN_byNumber_12
    simp only [Int.toNat_natCast]
    rw [h1]
    refine ⟨fun c => by omega, fun _ => ⟨by omega, ?_⟩⟩
    rw [to1]
    refine hQ _ (by rw [ax_u_cell (by omega)]; exact h1) (fun j hj => ?_) (hF.u (Or.inr rfl))
    rw [ax_uu]
    by_cases d : j = i
    · rw [if_pos d, d]; rfl
    · rw [if_neg d]; exact h2 j (by omega)
theorem hN_mix {V : ax_Mem} {P : Int → ax_Mem → Prop} {n : Nat} {w : Nat → Int} {s : Int} (hn : n ≤ 12) (h : LN V n w) (hs : 0 ≤ s ∧ s < 2147483648) (k : ∀ Z, LN Z n (mx n w s).1 → FL V Z → P (mx n w s).2 Z) : kN_mix [.inr (.inr 40), .inl s] V P := by
  apply eN_mix
  rw [h.1]
  have key : ∀ (m : Nat) (w : Nat → Int) (s : Int) (Z : ax_Mem), m ≤ n → 0 ≤ s ∧ s < 2147483648 → LN Z n w → FL V Z → (∀ Z, LN Z n (mx m w s).1 → FL V Z → P (mx m w s).2 Z) → jN_mix P 9 [(0, .inr (.inr 40)), (2, .inr (.inl s)), (4, .inl (m : Int))] [] Z := by
    intro m
    induction m with
    | zero =>
      intro w s Z hm hs hZ hF kk
      apply gN_mix_9
      exact ⟨fun _ => ⟨by omega, kk Z hZ hF⟩, fun c => by omega⟩
    | succ m ih =>
      intro w s Z hm hs hZ hF kk
      have hd := ls_d s m
      have hb := ls_b s
      apply gN_mix_9
      unfold mx at kk
      by_cases c : m = 0
      · rw [if_pos c] at kk
        exact ⟨fun _ => ⟨by omega, kk Z hZ hF⟩, fun c => by omega⟩
      · rw [if_neg c] at kk
        refine ⟨fun q => by omega, fun _ => ?_⟩
        rw [show (1103515245 * s + 12345) % 2147483648 = ls s from rfl, show ((m + 1 : Nat) : Int) = (m : Int) + 1 by omega]
        refine ⟨⟨⟨by omega, by omega⟩, by omega, by omega⟩, by omega, ⟨⟨by omega, by omega⟩, by omega, by omega⟩, ⟨⟨by omega, by omega⟩, by omega, by omega⟩, by omega, ?_⟩
        rw [show (m : Int) + 1 - 1 = (m : Int) by omega, show ls s / 65536 % ((m : Int) + 1) = (((ls s / 65536 % ((m : Int) + 1)).toNat : Nat) : Int) by omega]
        apply hN_exchange hn (show m < n by omega) (by omega) hZ
        intro Z2 hZ2 hF2
        refine ⟨by omega, ?_⟩
        rw [show (m : Int) + 1 + (-1) = (m : Int) by omega]
        exact ih _ _ Z2 (by omega) hb hZ2 (hF.tr hF2) kk
  exact key n w s V (Nat.le_refl _) hs h (FL.rf V) k
/-- least, greatest, SEED after rounds -/
def mr (X : ax_Mem) : Nat → Int × Int × Int → Int × Int × Int
  | 0, a => a
  | d + 1, a => mr X d (min a.1 (TT X 3 (mx (X 2 7).toNat idw a.2.2).1), max a.2.1 (TT X 3 (mx (X 2 7).toNat idw a.2.2).1), (mx (X 2 7).toNat idw a.2.2).2)
def ms (a : Int × Int × Int) (what : Int) : Int := if what = 0 then a.1 else if what = 1 then a.2.1 else a.2.2
def miV (X : ax_Mem) (n seed what : Int) : Int := ms (mr X n.toNat (9999, 0, seed)) what
theorem mr_far (X : ax_Mem) (d : Nat) (b s : Int) : mr X (d + 1) (1000000, b, s) = mr X (d + 1) (9999, b, s) := by
  have := TT_le X 3 (mx (X 2 7).toNat idw s).1
  simp only [mr]
  rw [show min (1000000 : Int) (TT X 3 (mx (X 2 7).toNat idw s).1) = min (9999 : Int) (TT X 3 (mx (X 2 7).toNat idw s).1) by omega]
theorem hX_mixedL {X : ax_Mem} {P : Int → ax_Mem → Prop} {n what : Int} (hw : WP X) (hr2 : 2 ≤ X 1 0) (hn : n ≤ 9) : ∀ (d i : Nat) (a : Int × Int × Int) (V : ax_Mem), (i : Int) + d = n → 0 ≤ a.2.2 ∧ a.2.2 < 2147483648 → BV X V 3 → (∀ Z, XF X Z → P (ms (mr X d a) what) Z) → jX_mixed P 65 [(0, .inr (.inr 0)), (1, .inl n), (3, .inl what), (4, .inl a.1), (5, .inl a.2.1), (6, .inl a.2.2), (7, .inl (i : Int))] [] V
  | 0, i, a, V, hi, ha, hV, k => by
    apply gX_mixed_65
    have := k V hV.1
    unfold ms mr at this
    refine ⟨fun _ => ⟨fun c => ⟨fun d => ?_, fun d => ?_⟩, fun c => ?_⟩, fun c => by omega⟩
    · rw [if_neg c, if_neg d] at this; exact this
    · rw [if_neg c, if_pos d] at this; exact this
    · rw [if_pos c] at this; exact this
  | d + 1, i, a, V, hi, ha, hV, k => by
    have hw1 := hw.1
    apply gX_mixed_65
    refine ⟨fun c => by omega, fun _ => ?_⟩
    rw [hV.1 2 (by omega)]
    apply hN_byNumber hw1
    intro Z hZ hF
    apply hN_mix (by omega) hZ ha
    intro Z2 hZ2 hF2
    have hp := PM_mx (X 2 7).toNat idw a.2.2 (Nat.le_refl _) (PM_idw (X 2 7).toNat)
    have hv := BV.w hw ((hV.fl hF).fl hF2) hZ2
    apply hB_runT hw hr2 (by omega) hv hp
    intro Z3 hZ3 e15
    refine ⟨by omega, ?_⟩
    rw [e15, to1]
    exact hX_mixedL hw hr2 hn d (i + 1) (min a.1 (TT X 3 (mx (X 2 7).toNat idw a.2.2).1), max a.2.1 (TT X 3 (mx (X 2 7).toNat idw a.2.2).1), (mx (X 2 7).toNat idw a.2.2).2) Z3 (by omega) (mx_b _ _ _ ha) hZ3.b k
theorem hX_mixed {X X2 : ax_Mem} {P : Int → ax_Mem → Prop} {n seed what : Int} (hw : WP X) (hr2 : 2 ≤ X 1 0) (hx : XF X X2) (hn : 1 ≤ n ∧ n ≤ 9) (hs : 0 ≤ seed ∧ seed < 2147483648) (hwh : 0 ≤ what ∧ what ≤ 2) (k : ∀ Z, XF X Z → P (miV X n seed what) Z) : kX_mixed [.inr (.inr 0), .inl n, .inl seed, .inl what] X2 P := by
  have hw1 := hw.1
  apply eX_mixed
  apply hC_isMissing
  rw [hx 1 (by omega), if_neg (by omega)]
  refine ⟨fun _ => ?_, fun q => absurd rfl q⟩
  apply hX_outside
  rw [if_neg (by omega)]
  refine ⟨fun q => absurd rfl q, fun _ => ⟨fun c => by omega, fun _ => ?_⟩⟩
  apply hX_outside
  rw [if_neg (by omega)]
  refine ⟨fun _ => ?_, fun q => absurd rfl q⟩
  apply hB_openWhole (by rw [hx 2 (by omega)]; exact hw1)
  exact hX_mixedL hw hr2 hn.2 n.toNat 0 (9999, 0, seed) _ (by omega) hs (bv_open hw hx) k
-- ===== the reference
/-- what mixedOf leaves -/
def MV (X Y Z : ax_Mem) : Prop := RL X Z 3 ∧ FS Y Z
theorem hM_draw {Z : ax_Mem} {P : Int → ax_Mem → Prop} {m : Nat} (k : P (ls (Z 0 30) / 65536 % ((m : Int) + 1)) (ax_u Z 0 30 (ls (Z 0 30)))) : kM_draw [.inr (.inr 0), .inl ((m : Int) + 1)] Z P := by
  apply eM_draw
  rw [show (1103515245 * Z 0 30 + 12345) % 2 ^ 31 = ls (Z 0 30) from rfl]
  have := ls_b (Z 0 30)
  have := ls_d (Z 0 30) m
  exact ⟨by omega, by omega, by omega, k⟩
theorem hM_mixedX {X Y : ax_Mem} {P : Int → ax_Mem → Prop} {n what lo hi : Int} {i : Nat} (hw : WP X) (w0 : Nat → Int) (s0 : Int) (k : ∀ Z (v7 : Int), v7 < 2 → MV X Y Z → Z 0 30 = (mx (X 2 7).toNat w0 s0).2 → QN Z (X 2 7).toNat (mx (X 2 7).toNat w0 s0).1 → jM_mixedOf P 67 [(0, .inr (.inr 0)), (1, .inl n), (3, .inl what), (4, .inl lo), (5, .inl hi), (6, .inl (i : Int)), (7, .inl v7)] [] Z) : ∀ (m : Nat) (w : Nat → Int) (s : Int) (Z : ax_Mem), m ≤ (X 2 7).toNat → mx m w s = mx (X 2 7).toNat w0 s0 → MV X Y Z → Z 0 30 = s → QN Z (X 2 7).toNat w → jM_mixedOf P 67 [(0, .inr (.inr 0)), (1, .inl n), (3, .inl what), (4, .inl lo), (5, .inl hi), (6, .inl (i : Int)), (7, .inl (m : Int))] [] Z := by
  intro m
  induction m with
  | zero =>
    intro w s Z hm e hZ h30 hq
    have e' : (w, s) = mx (X 2 7).toNat w0 s0 := e
    exact k Z _ (by omega) hZ (by rw [← e', h30]) (by rw [← e']; exact hq)
  | succ m ih =>
    intro w s Z hm e hZ h30 hq
    have hw1 := hw.1
    have hd := ls_d s m
    rw [mx_s] at e
    by_cases c : m = 0
    · rw [if_pos c] at e
      exact k Z _ (by omega) hZ (by rw [← e, h30]) (by rw [← e]; exact hq)
    · rw [if_neg c] at e
      apply gM_mixedOf_67
      refine ⟨fun q => by omega, fun _ => ⟨by omega, ?_⟩⟩
      rw [show ((m + 1 : Nat) : Int) = (m : Int) + 1 by omega]
      apply hM_draw
      rw [h30, show (m : Int) + 1 - 1 = (m : Int) by omega, show ls s / 65536 % ((m : Int) + 1) = (((ls s / 65536 % ((m : Int) + 1)).toNat : Nat) : Int) by omega]
      apply hM_exchange (by omega) (show m < (X 2 7).toNat by omega) (by omega) (w := w) ⟨by rw [ax_us (by omega)]; exact hq.1, by rw [ax_u_cell (by omega)]; exact hq.2⟩
      intro Z2 hZ2 hF2
      refine ⟨by omega, ?_⟩
      rw [show (m : Int) + 1 + (-1) = (m : Int) by omega]
      have hU : FS Z (ax_u Z 0 30 (ls s)) := ⟨⟨rfl, rfl, rfl, rfl⟩, rfl, rfl, rfl, rfl, rfl, rfl, rfl, rfl, rfl, rfl, rfl⟩
      have hRL : RL X (ax_u Z 0 30 (ls s)) 3 := hZ.1
      refine ih _ _ Z2 (by omega) e ⟨FQ_RL hF2 hRL, (hZ.2.tr hU).tr hF2.s⟩ ?_ hZ2
      rw [hF2.2 30 (by omega), ax_uu, if_pos rfl]
theorem hM_mixedL {X Y : ax_Mem} {P : Int → ax_Mem → Prop} {n what : Int} (hw : WP X) (hr2 : 2 ≤ X 1 0) (hr : RP X Y) (hn : n ≤ 9) : ∀ (d i : Nat) (a : Int × Int × Int) (Z : ax_Mem), (i : Int) + d = n → MV X Y Z → Z 0 30 = a.2.2 → (∀ Z, FS Y Z → P (ms (mr X d a) what) Z) → jM_mixedOf P 20 [(0, .inr (.inr 0)), (1, .inl n), (3, .inl what), (4, .inl a.1), (5, .inl a.2.1), (6, .inl (i : Int))] [] Z
  | 0, i, a, Z, hi, hZ, h30, k => by
    apply gM_mixedOf_20
    have := k Z hZ.2
    unfold ms mr at this
    refine ⟨fun _ => ⟨fun c => ⟨fun d => ?_, fun d => ?_⟩, fun c => ?_⟩, fun c => by omega⟩
    · rw [if_neg c, if_neg d] at this; rw [h30]; exact this
    · rw [if_neg c, if_pos d] at this; exact this
    · rw [if_pos c] at this; exact this
  | d + 1, i, a, Z, hi, hZ, h30, k => by
    have hw1 := hw.1
    apply gM_mixedOf_20
    refine ⟨fun c => by omega, fun _ => ?_⟩
    have e4 : Z 0 4 = X 2 7 := hZ.2.2.2.2.2.2.1.trans hr.1.2.2.2
    rw [e4]
    have hF0 : FS Z (ax_u Z 0 17 (X 2 7)) := ⟨⟨rfl, rfl, rfl, rfl⟩, rfl, rfl, rfl, rfl, rfl, rfl, rfl, rfl, rfl, rfl, rfl⟩
    refine up_loop (Q := fun q => ∀ U : ax_Mem, FQ (ax_u Z 0 17 (X 2 7)) U → U 0 17 = X 2 7 → (∀ j, j < q → U 7 j = idw j) → jM_mixedOf P 37 [(0, .inr (.inr 0)), (1, .inl n), (3, .inl what), (4, .inl a.1), (5, .inl a.2.1), (6, .inl (i : Int)), (7, .inl (q : Int))] [] U) (X 2 7).toNat ?_ ?_ 0 (Nat.zero_le _) _ (FQ.rf _) (by rw [ax_uu, if_pos rfl]) (fun j hj => by omega)
    · intro U hF h17 hq
      have e4 : U 0 4 = X 2 7 := by rw [hF.2 4 (by omega), ax_us (by omega)]; exact e4
      have hMV : MV X Y U := ⟨FQ_RL hF hZ.1, (hZ.2.tr hF0).tr hF.s⟩
      apply gM_mixedOf_37
      rw [e4]
      refine ⟨fun _ => ?_, fun c => by omega⟩
      have hp := PM_mx (X 2 7).toNat idw a.2.2 (Nat.le_refl _) (PM_idw (X 2 7).toNat)
      rw [show X 2 7 = (((X 2 7).toNat : Nat) : Int) by omega]
      refine hM_mixedX hw idw a.2.2 ?_ (X 2 7).toNat idw a.2.2 U (Nat.le_refl _) rfl hMV (by rw [hF.2 30 (by omega), ax_us (by omega)]; exact h30) ⟨by omega, hq⟩
      intro W v7 hv7 hW hW30 hWq
      apply gM_mixedOf_67
      refine ⟨fun _ => ?_, fun c => absurd hv7 c⟩
      have hv : VW X (gc X (X 1 0) (X 5) 3 (mx (X 2 7).toNat idw a.2.2).1) 3 (mx (X 2 7).toNat idw a.2.2).1 := gc_gv X (X 1 0) (X 5) 3 _
      have hrW : RP X W := FS_RP hW.2 hr
      have hMW : MW X W 3 (mx (X 2 7).toNat idw a.2.2).1 := ⟨hrW, hW.1, hWq⟩
      refine hM_boardAll (vw_LV hw hv hp) (vw_WB hw hr2 (by omega) hv hp) (vw_S0 hw hv hp hMW) ?_
      intro W2 _ hFC
      rw [TT_eq hw hr2 (by omega) hv hp]
      have hMV2 : MV X Y W2 := ⟨(FC_MW hFC hMW).2.1, hW.2.tr hFC.s⟩
      have h30b : W2 0 30 = (mx (X 2 7).toNat idw a.2.2).2 := by rw [hFC.2 30 (by omega) (by omega) (by omega)]; exact hW30
      have ih := hM_mixedL (P := P) (what := what) hw hr2 hr hn d (i + 1) (min a.1 (TT X 3 (mx (X 2 7).toNat idw a.2.2).1), max a.2.1 (TT X 3 (mx (X 2 7).toNat idw a.2.2).1), (mx (X 2 7).toNat idw a.2.2).2) W2 (by omega) hMV2 h30b k
      simp only at ih
      rw [to1]
      refine ⟨fun c => ⟨fun e => ⟨by omega, ?_⟩, fun e => ⟨by omega, ?_⟩⟩, fun c => ⟨fun e => ⟨by omega, ?_⟩, fun e => ⟨by omega, ?_⟩⟩⟩
      · rw [Int.min_eq_left c, Int.max_eq_left e] at ih; exact ih
      · rw [Int.min_eq_left c, Int.max_eq_right (by omega)] at ih; exact ih
      · rw [Int.min_eq_right (by omega), Int.max_eq_left e] at ih; exact ih
      · rw [Int.min_eq_right (by omega), Int.max_eq_right (by omega)] at ih; exact ih
    · intro q hq2 hQ U hF h17 hq
      have e4 : U 0 4 = X 2 7 := by rw [hF.2 4 (by omega), ax_us (by omega)]; exact e4
      apply gM_mixedOf_37
      simp only [Int.toNat_natCast]
      rw [e4]
      refine ⟨fun c => by omega, fun _ => ⟨by omega, ?_⟩⟩
      rw [to1]
      refine hQ _ hF.u (by rw [ax_u_cell (by omega)]; exact h17) (fun j hj => ?_)
      rw [ax_uu]
      by_cases c : j = q
      · rw [if_pos c, c]; rfl
      · rw [if_neg c]; exact hq j (by omega)
theorem hM_mixedOf {X Y : ax_Mem} {P : Int → ax_Mem → Prop} {n seed what : Int} (hw : WP X) (hr2 : 2 ≤ X 1 0) (hr : RP X Y) (hn : 1 ≤ n ∧ n ≤ 9) (k : ∀ Z, FS Y Z → P (miV X n seed what) Z) : kM_mixedOf [.inr (.inr 0), .inl n, .inl seed, .inl what] Y P := by
  apply eM_mixedOf
  have hF0 : FS Y (ax_u Y 0 30 seed) := ⟨⟨rfl, rfl, rfl, rfl⟩, rfl, rfl, rfl, rfl, rfl, rfl, rfl, rfl, rfl, rfl, rfl⟩
  apply hM_layPeople hw (FS_RP hF0 hr)
  intro Z hZ hF
  refine hM_mixedL hw hr2 hr hn.2 n.toNat 0 (1000000, 0, seed) Z (by omega) ⟨hZ, hF0.tr hF.s⟩ (by rw [hF.2 30 (by omega), ax_uu, if_pos rfl]) (fun Z2 hF2 => ?_)
  obtain ⟨d, hd⟩ : ∃ d, n.toNat = d + 1 := ⟨n.toNat - 1, by omega⟩
  have := k Z2 hF2
  unfold miV at this
  rw [hd] at this ⊢
  rw [mr_far]
  exact this
theorem q_mixed {t : Int} {X Y : ax_Mem} {a b d : Int} (h : INV t X Y) : kX_mixed [.inr (.inr 0), .inl a, .inl b, .inl d] X (fun r X2 => kM_mixed [.inr (.inr 0), .inl a, .inl b, .inl d] Y (fun r2 Y2 => r2 = r ∧ INV (t + 1) X2 Y2)) := by
  apply ax_Ca
  intro har
  have ha : ax_r a := har (.inl a) (by simp)
  have hb : ax_r b := har (.inl b) (by simp)
  have hd : ax_r d := har (.inl d) (by simp)
  obtain ⟨i1, i2, i3, i4, i5, i6, i7, i8⟩ := id h
  have y0 := i2.1.1
  by_cases c0 : X 1 0 = 0
  · apply eX_mixed
    apply hC_isMissing
    rw [if_pos c0]
    refine ⟨fun q => absurd q (by decide), fun _ => ?_⟩
    apply eM_mixed
    apply hM_lacks
    rw [if_pos (by omega)]
    exact ⟨fun q => absurd q (by decide), fun _ => ⟨rfl, inv_id h⟩⟩
  · have hr2 : 2 ≤ X 1 0 := by omega
    by_cases c : (1 ≤ a ∧ a ≤ 9) ∧ 0 ≤ b ∧ 0 ≤ d ∧ d ≤ 2
    · apply hX_mixed i1 hr2 (XF.rf X) c.1 ⟨c.2.1, hb.2⟩ c.2.2
      intro Z hZ
      apply eM_mixed
      apply hM_lacks
      rw [if_neg (by omega)]
      refine ⟨fun _ => ?_, fun q => absurd rfl q⟩
      apply hM_in ha (ax_r0 (by omega)) (ax_r0 (by omega))
      rw [if_pos (by omega)]
      refine ⟨fun q => absurd q (by decide), fun _ => ⟨fun q => by omega, fun _ => ?_⟩⟩
      apply hM_in hd (ax_r0 (by omega)) (ax_r0 (by omega))
      rw [if_pos (by omega)]
      refine ⟨fun q => absurd q (by decide), fun _ => ?_⟩
      apply hM_mixedOf i1 hr2 i2 c.1
      intro Z2 hF
      exact ⟨rfl, inv_fr h hZ hF (by omega)⟩
    · have fin : kM_mixed [.inr (.inr 0), .inl a, .inl b, .inl d] Y (fun r2 Y2 => r2 = -102 ∧ INV (t + 1) X Y2) := by
        apply eM_mixed
        apply hM_lacks
        rw [if_neg (by omega)]
        refine ⟨fun _ => ?_, fun q => absurd rfl q⟩
        apply hM_in ha (ax_r0 (by omega)) (ax_r0 (by omega))
        by_cases c1 : 1 ≤ a ∧ a ≤ 9
        · rw [if_pos c1]
          refine ⟨fun q => absurd q (by decide), fun _ => ⟨fun q => ⟨rfl, inv_id h⟩, fun q => ?_⟩⟩
          apply hM_in hd (ax_r0 (by omega)) (ax_r0 (by omega))
          rw [if_neg (by omega)]
          exact ⟨fun _ => ⟨rfl, inv_id h⟩, fun q => absurd rfl q⟩
        · rw [if_neg c1]
          exact ⟨fun _ => ⟨rfl, inv_id h⟩, fun q => absurd rfl q⟩
      apply eX_mixed
      apply hC_isMissing
      rw [if_neg c0]
      refine ⟨fun _ => ?_, fun q => absurd rfl q⟩
      apply hX_outside
      by_cases c1 : 1 ≤ a ∧ a ≤ 9
      · rw [if_neg (by omega)]
        refine ⟨fun q => absurd rfl q, fun _ => ⟨fun q => fin, fun q => ?_⟩⟩
        apply hX_outside
        rw [if_pos (by omega)]
        exact ⟨fun q => absurd q (by decide), fun _ => fin⟩
      · rw [if_pos (by omega)]
        exact ⟨fun _ => fin, fun q => absurd q (by decide)⟩
