/-! least, swap -/
def lb (f : Nat → Int) : Nat → Int × Int
  | 0 => (-1, 10000)
  | n + 1 => if (lb f n).2 ≤ f n then lb f n else ((n : Int), f n)
def leV (X : ax_Mem) : Int := (lb (fun c => (TT X 3 (od X c 3) : Int)) (X 0 9).toNat).1
def CK (X : ax_Mem) : Prop := (0 ≤ X 0 9 ∧ X 0 9 ≤ 8) ∧ ∀ c : Nat, (c : Int) < X 0 9 → WK X c
theorem INV.ck {t : Int} {X Y : ax_Mem} (h : INV t X Y) : CK X := ⟨h.2.2.2.2.2.1.1, fun c hc => (h.2.2.2.2.2.1.2.2 c hc).1⟩
theorem XF_CK {X Z : ax_Mem} (h : XF X Z) (hk : CK X) : CK Z := by
  unfold CK
  rw [h 0 (by omega)]
  have := hk.1
  exact ⟨hk.1, fun c hc => XF_WK h (by omega) (hk.2 c hc)⟩
/-- boardBy from a memory that has the same people and calls -/
theorem hX_boardByX {X X2 : ax_Mem} {P : Int → ax_Mem → Prop} {c : Nat} {mb : Int} (hx : XF X X2) (hc : (c : Int) < X 0 9) (hm : 0 ≤ mb ∧ mb ≤ 3) (hw : WP X) (hr2 : 2 ≤ X 1 0) (hk : CK X) (k : ∀ V, VW X V mb (od X c mb) → V 44 15 = TT X mb (od X c mb) → P 0 V) : kX_boardBy [.inr (.inr 0), .inl (c : Int), .inl mb, .inl 9999] X2 P := by
  have hk1 := hk.1
  have c8 : c < 8 := by omega
  apply hX_boardBy c8 hm (XF_WP hx hw) (by rw [hx 1 (by omega)]; exact hr2) (XF_WK hx c8 (hk.2 c hc))
  intro V hv
  have hv2 := XF_VW hx hv
  rw [XF_od hx c8] at hv2
  have hp := od_PM X c mb
  rw [show (min (9999 : Int) 9999).toNat = 9999 by omega]
  refine k _ (bE_vw hw hv2 hp) ?_
  rw [← TT_eq hw hr2 hm hv2 hp]
  exact bE_sec hw hr2 hm hv2 hp
theorem hX_leastL {X : ax_Mem} {P : Int → ax_Mem → Prop} (hw : WP X) (hr2 : 2 ≤ X 1 0) (hk : CK X) (k : ∀ Z, XF X Z → P (leV X) Z) : ∀ X2, XF X X2 → jX_least P 21 [(0, .inr (.inr 0)), (1, .inl (-1)), (2, .inl 10000), (3, .inl 0)] [] X2 := by
  have hk1 := hk.1
  refine up_loop (Q := fun i => ∀ X2, XF X X2 → jX_least P 21 [(0, .inr (.inr 0)), (1, .inl (lb (fun c => (TT X 3 (od X c 3) : Int)) i).1), (2, .inl (lb (fun c => (TT X 3 (od X c 3) : Int)) i).2), (3, .inl (i : Int))] [] X2) (X 0 9).toNat ?_ ?_ 0 (Nat.zero_le _)
  · intro X2 hx
    apply gX_least_21
    rw [hx 0 (by omega)]
    exact ⟨fun _ => k X2 hx, fun c => by omega⟩
  · intro i hi hQ X2 hx
    apply gX_least_21
    rw [hx 0 (by omega)]
    refine ⟨fun c => by omega, fun _ => ?_⟩
    apply hX_boardByX hx (by omega) (by omega) hw hr2 hk
    intro V hV h15
    have hq := hQ V hV.x
    rw [h15]
    simp only [lb, ← to1] at hq
    refine ⟨fun c => ⟨by omega, ?_⟩, fun c => ⟨by omega, ?_⟩⟩
    · rw [if_pos c] at hq; exact hq
    · rw [if_neg c] at hq; exact hq
theorem hM_leastOf {X Y : ax_Mem} {P : Int → ax_Mem → Prop} (hw : WP X) (hr2 : 2 ≤ X 1 0) (hk : CK X) (hr : RP X Y) (h8 : Y 0 8 = X 0 9) (hrk : ∀ c : Nat, (c : Int) < X 0 9 → RK X Y c) (k : ∀ Z, FS Y Z → P (leV X) Z) : kM_leastOf [.inr (.inr 0)] Y P := by
  have hk1 := hk.1
  apply eM_leastOf
  refine up_loop (Q := fun i => ∀ Y2, FS Y Y2 → jM_leastOf P 7 [(0, .inr (.inr 0)), (1, .inl (lb (fun c => (TT X 3 (od X c 3) : Int)) i).1), (2, .inl (if i = 0 then 1000000 else (lb (fun c => (TT X 3 (od X c 3) : Int)) i).2)), (3, .inl (i : Int))] [] Y2) (X 0 9).toNat ?_ ?_ 0 (Nat.zero_le _) Y (FS.rf Y)
  · intro Y2 hF
    apply gM_leastOf_7
    rw [hF.2.2.2.2.2.2.2.1, h8]
    exact ⟨fun _ => k Y2 hF, fun c => by omega⟩
  · intro i hi hQ Y2 hF
    apply gM_leastOf_7
    rw [hF.2.2.2.2.2.2.2.1, h8]
    refine ⟨fun c => by omega, fun _ => ?_⟩
    have hv : VW X (gc X (X 1 0) (X 5) 3 (od X i 3)) 3 (od X i 3) := gc_gv X (X 1 0) (X 5) 3 (od X i 3)
    apply hM_boardBy (by omega) hw hr2 (hk.2 i (by omega)) (FS_RP hF hr) (RK_of (hrk i (by omega)) hF.1.2.2.1) hv
    intro Z hZ hM hF2
    have hq := hQ Z (hF.tr hF2)
    rw [TT_eq hw hr2 (by omega) hv (od_PM X i 3)]
    have hle := TT_le X 3 (od X i 3)
    rw [if_neg (by omega)] at hq
    simp only [lb, ← to1] at hq
    by_cases c0 : i = 0
    · subst c0
      rw [if_neg (show ¬ (lb (fun c => (TT X 3 (od X c 3) : Int)) 0).2 ≤ (TT X 3 (od X 0 3) : Int) by show ¬ (10000 : Int) ≤ _; omega)] at hq
      rw [if_pos rfl]
      exact ⟨fun c => by omega, fun c => ⟨fun d => by omega, fun d => ⟨by omega, hq⟩⟩⟩
    · rw [if_neg c0]
      refine ⟨fun c => ⟨fun d => ⟨by omega, ?_⟩, fun d => absurd c d⟩, fun c => ⟨fun d => absurd d c, fun d => ⟨by omega, ?_⟩⟩⟩
      · rw [if_pos c] at hq; exact hq
      · rw [if_neg c] at hq; exact hq
theorem INV.rk {t : Int} {X Y : ax_Mem} (h : INV t X Y) : ∀ c : Nat, (c : Int) < X 0 9 → RK X Y c := fun c hc => (h.2.2.2.2.2.1.2.2 c hc).2
theorem q_least {t : Int} {X Y : ax_Mem} (h : INV t X Y) : kX_least [.inr (.inr 0)] X (fun r X2 => kM_least [.inr (.inr 0)] Y (fun r2 Y2 => r2 = r ∧ INV (t + 1) X2 Y2)) := by
  obtain ⟨i1, i2, i3, i4, i5, i6, i7, i8⟩ := id h
  have y0 := i2.1.1
  have w2 := i1.2.1
  apply eX_least
  apply hC_isMissing
  by_cases c : X 1 0 = 0
  · rw [if_pos c]
    refine ⟨fun q => absurd q (by decide), fun _ => ?_⟩
    apply eM_least
    apply hM_lacks
    rw [if_pos (by omega)]
    exact ⟨fun q => absurd q (by decide), fun _ => ⟨rfl, inv_id h⟩⟩
  · rw [if_neg c]
    refine ⟨fun _ => ?_, fun q => absurd rfl q⟩
    refine hX_leastL i1 (by omega) h.ck (fun Z hZ => ?_) X (XF.rf X)
    apply eM_least
    apply hM_lacks
    rw [if_neg (by omega)]
    refine ⟨fun _ => ?_, fun q => absurd rfl q⟩
    apply hM_leastOf i1 (by omega) h.ck i2 i6.2.1 h.rk
    intro Z2 hF
    exact ⟨rfl, inv_fr h hZ hF (by omega)⟩
-- ===== an exchange in the line
def xw (w : Nat → Int) (i j : Nat) : Nat → Int := fun k => if k = j then w i else if k = i then w j else w k
theorem xw_xw (w : Nat → Int) (i j : Nat) : xw (xw w i j) i j = w := by
  funext k
  unfold xw
  by_cases c : k = j
  · rw [if_pos c]
    by_cases d : i = j
    · rw [if_pos d, c, d]
    · rw [if_neg d, if_pos rfl, c]
  · rw [if_neg c]
    by_cases d : k = i
    · rw [if_pos d, if_pos rfl, d]
    · rw [if_neg d, if_neg c, if_neg d]
theorem PM_xw {n i j : Nat} {w : Nat → Int} (h : PM n w) (hi : i < n) (hj : j < n) : PM n (xw w i j) := by
  obtain ⟨h1, h2, h3⟩ := h
  have src : ∀ k, k < n → ∃ q, q < n ∧ xw w i j k = w q ∧ ((k = j ∧ q = i) ∨ (k ≠ j ∧ k = i ∧ q = j) ∨ (k ≠ j ∧ k ≠ i ∧ q = k)) := by
    intro k hk
    unfold xw
    by_cases c : k = j
    · rw [if_pos c]; exact ⟨i, hi, rfl, by omega⟩
    · rw [if_neg c]
      by_cases d : k = i
      · rw [if_pos d]; exact ⟨j, hj, rfl, by omega⟩
      · rw [if_neg d]; exact ⟨k, hk, rfl, by omega⟩
  refine ⟨fun k hk => ?_, fun k l hk hl e => ?_, fun p hp => ?_⟩
  · obtain ⟨q, hq, e, -⟩ := src k hk
    rw [e]; exact h1 q hq
  · obtain ⟨q, hq, e1, c1⟩ := src k hk
    obtain ⟨r, hr, e2, c2⟩ := src l hl
    have := h2 q r hq hr (by rw [← e1, ← e2]; exact e)
    omega
  · obtain ⟨q, hq, e⟩ := h3 p hp
    have back : ∃ k, k < n ∧ ((k = j ∧ q = i) ∨ (k ≠ j ∧ k = i ∧ q = j) ∨ (k ≠ j ∧ k ≠ i ∧ q = k)) := by
      by_cases c : q = i
      · exact ⟨j, hj, by omega⟩
      · by_cases d : q = j
        · exact ⟨i, hi, by omega⟩
        · exact ⟨q, hq, by omega⟩
    obtain ⟨k, hk, c⟩ := back
    obtain ⟨r, hr, e2, c2⟩ := src k hk
    exact ⟨k, hk, by rw [e2, show r = q by omega]; exact e⟩
theorem hN_exchange {V : ax_Mem} {P : Int → ax_Mem → Prop} {n i j : Nat} {w : Nat → Int} (hn : n ≤ 12) (hi : i < n) (hj : j < n) (h : LN V n w) (k : ∀ Z, LN Z n (xw w i j) → FL V Z → P 0 Z) : kN_exchange [.inr (.inr 40), .inl (i : Int), .inl (j : Int)] V P := by
  apply eN_exchange
  simp only [Int.toNat_natCast]
  refine ⟨by omega, by omega, k _ ⟨h.1, fun q hq => ?_⟩ (((FL.rf V).u (Or.inr rfl)).u (Or.inr rfl))⟩
  rw [ax_uu, ax_uu, h.2 i hi, h.2 j hj, h.2 q hq]
  rfl
theorem hM_exchange {Y : ax_Mem} {P : Int → ax_Mem → Prop} {n i j : Nat} {w : Nat → Int} (hn : n ≤ 12) (hi : i < n) (hj : j < n) (h : QN Y n w) (k : ∀ Z, QN Z n (xw w i j) → FQ Y Z → P 0 Z) : kM_exchange [.inr (.inr 0), .inl (i : Int), .inl (j : Int)] Y P := by
  apply eM_exchange
  simp only [Int.toNat_natCast]
  refine ⟨by omega, by omega, k _ ⟨h.1, fun q hq => ?_⟩ ((FQ.rf Y).u.u)⟩
  rw [ax_uu, ax_uu, h.2 i hi, h.2 j hj, h.2 q hq]
  rfl
theorem FQ.mw {X Y Z : ax_Mem} {mb : Int} {w w2 : Nat → Int} (h : FQ Y Z) (hm : MW X Y mb w) (hq : QN Z (X 2 7).toNat w2) : MW X Z mb w2 := ⟨FQ_RP h hm.1, FQ_RL h hm.2.1, hq⟩
-- ===== swap
def sj (g : Nat → Nat → Int) (i : Nat) : Nat → Nat → Int × Int → Int × Int
  | 0, _, a => a
  | d + 1, j, a => sj g i d (j + 1) (if a.1 ≤ g i j then a else (g i j, 16 * (i : Int) + j))
def si (g : Nat → Nat → Int) (n : Nat) : Nat → Nat → Int × Int → Int × Int
  | 0, _, a => a
  | d + 1, i, a => si g n d (i + 1) (sj g i (n - (i + 1)) (i + 1) a)
theorem hX_swapJ {X : ax_Mem} {P : Int → ax_Mem → Prop} {w : Nat → Int} {i : Nat} (hw : WP X) (hr2 : 2 ≤ X 1 0) (hp : PM (X 2 7).toNat w) (hi : i < 12) : ∀ (d j : Nat) (a : Int × Int), j + d = (X 2 7).toNat → i < j → (1 ≤ a.1 ∧ a.1 ≤ 9999) → (∀ Z b, VW X Z 3 w → (1 ≤ b.1 ∧ b.1 ≤ 9999) → b = sj (fun i j => (TT X 3 (xw w i j) : Int)) i d j a → jX_swap P 35 [(0, .inr (.inr 0)), (3, .inl b.1), (4, .inl b.2), (5, .inl ((i : Int) + 1))] [] Z) → ∀ Z, VW X Z 3 w → jX_swap P 53 [(0, .inr (.inr 0)), (3, .inl a.1), (4, .inl a.2), (5, .inl (i : Int)), (6, .inl (j : Int))] [] Z
  | 0, j, a, hj, hij, ha, k, Z, hZ => by
    have w1 := hw.1
    apply gX_swap_53
    rw [hZ.2.1]
    exact ⟨fun _ => ⟨by omega, k Z a hZ ha rfl⟩, fun c => by omega⟩
  | d + 1, j, a, hj, hij, ha, k, Z, hZ => by
    have w1 := hw.1
    apply gX_swap_53
    rw [hZ.2.1]
    refine ⟨fun c => by omega, fun _ => ?_⟩
    have hp2 := PM_xw hp (show i < (X 2 7).toNat by omega) (show j < (X 2 7).toNat by omega)
    apply hN_exchange (by omega) (show i < (X 2 7).toNat by omega) (show j < (X 2 7).toNat by omega) (VW.l hw hZ)
    intro Z2 hZ2 hF2
    have hv2 := BV.w hw ((VW.b hZ).fl hF2) hZ2
    refine ⟨by omega, ?_⟩
    have ih := hX_swapJ (P := P) hw hr2 hp hi d (j + 1)
    have tp := TT_pos (mb := 3) hw hp2 (by omega)
    have tl := TT_le X 3 (xw w i j)
    apply hB_thr hw hr2 (by omega) hv2 hp2 (by omega)
    · intro c Z3 hZ3 _ _
      refine ⟨fun _ => ?_, fun q => absurd rfl q⟩
      apply hN_exchange (by omega) (show i < (X 2 7).toNat by omega) (show j < (X 2 7).toNat by omega) (VW.l hw hZ3)
      intro Z4 hZ4 hF4
      rw [xw_xw] at hZ4
      refine ⟨by omega, ?_⟩
      rw [to1]
      refine ih a (by omega) (by omega) ha (fun Z5 b hZ5 hb e => k Z5 b hZ5 hb ?_) Z4 (BV.w hw ((VW.b hZ3).fl hF4) hZ4)
      rw [e]
      simp only [sj]
      rw [if_pos c]
    · intro c Z3 hZ3 _ _ e15
      refine ⟨fun q => absurd q (by decide), fun _ => ⟨by omega, by omega, ?_⟩⟩
      apply hN_exchange (by omega) (show i < (X 2 7).toNat by omega) (show j < (X 2 7).toNat by omega) (VW.l hw hZ3)
      intro Z4 hZ4 hF4
      rw [xw_xw] at hZ4
      refine ⟨by omega, ?_⟩
      rw [to1, e15]
      refine ih ((TT X 3 (xw w i j) : Int), 16 * (i : Int) + j) (by omega) (by omega) ⟨by simp only; omega, by simp only; omega⟩ (fun Z5 b hZ5 hb e => k Z5 b hZ5 hb ?_) Z4 (BV.w hw ((VW.b hZ3).fl hF4) hZ4)
      rw [e]
      simp only [sj]
      rw [if_neg (by omega)]
theorem hX_swapI {X : ax_Mem} {P : Int → ax_Mem → Prop} {w : Nat → Int} (hw : WP X) (hr2 : 2 ≤ X 1 0) (hp : PM (X 2 7).toNat w) : ∀ (d i : Nat) (a : Int × Int), i + d = (X 2 7).toNat → (i < (X 2 7).toNat → 1 ≤ a.1 ∧ a.1 ≤ 9999) → (∀ Z, VW X Z 3 w → P (si (fun i j => (TT X 3 (xw w i j) : Int)) (X 2 7).toNat d i a).2 Z) → ∀ Z, VW X Z 3 w → jX_swap P 35 [(0, .inr (.inr 0)), (3, .inl a.1), (4, .inl a.2), (5, .inl (i : Int))] [] Z
  | 0, i, a, hi, ha, k, Z, hZ => by
    have w1 := hw.1
    apply gX_swap_35
    rw [hZ.2.1]
    exact ⟨fun _ => k Z hZ, fun c => by omega⟩
  | d + 1, i, a, hi, ha, k, Z, hZ => by
    have w1 := hw.1
    apply gX_swap_35
    rw [hZ.2.1]
    refine ⟨fun c => by omega, fun _ => ⟨by omega, ?_⟩⟩
    rw [to1]
    refine hX_swapJ hw hr2 hp (by omega) ((X 2 7).toNat - (i + 1)) (i + 1) a (by omega) (by omega) (ha (by omega)) (fun Z2 b hZ2 hb e => ?_) Z hZ
    rw [to1]
    refine hX_swapI hw hr2 hp d (i + 1) b (by omega) (fun _ => hb) (fun Z3 hZ3 => ?_) Z2 hZ2
    rw [e]
    exact k Z3 hZ3
theorem hM_swapJ {X : ax_Mem} {P : Int → ax_Mem → Prop} {w : Nat → Int} {i : Nat} (hw : WP X) (hr2 : 2 ≤ X 1 0) (hp : PM (X 2 7).toNat w) (hi : i < 12) : ∀ (d j : Nat) (a : Int × Int) (Y : ax_Mem), j + d = (X 2 7).toNat → i < j → MW X Y 3 w → (∀ Z, MW X Z 3 w → FS Y Z → jM_swap P 32 [(0, .inr (.inr 0)), (2, .inl (sj (fun i j => (TT X 3 (xw w i j) : Int)) i d j a).1), (3, .inl (sj (fun i j => (TT X 3 (xw w i j) : Int)) i d j a).2), (4, .inl ((i : Int) + 1))] [] Z) → jM_swap P 47 [(0, .inr (.inr 0)), (2, .inl a.1), (3, .inl a.2), (4, .inl (i : Int)), (5, .inl (j : Int))] [] Y
  | 0, j, a, Y, hj, hij, hY, k => by
    have w1 := hw.1
    have e17 := hY.2.2.1
    apply gM_swap_47
    exact ⟨fun _ => ⟨by omega, k Y hY (FS.rf Y)⟩, fun c => by omega⟩
  | d + 1, j, a, Y, hj, hij, hY, k => by
    have w1 := hw.1
    have e17 := hY.2.2.1
    apply gM_swap_47
    refine ⟨fun c => by omega, fun _ => ?_⟩
    have hp2 := PM_xw hp (show i < (X 2 7).toNat by omega) (show j < (X 2 7).toNat by omega)
    apply hM_exchange (by omega) (show i < (X 2 7).toNat by omega) (show j < (X 2 7).toNat by omega) hY.2.2
    intro Y2 hY2 hF2
    have hv : VW X (gc X (X 1 0) (X 5) 3 (xw w i j)) 3 (xw w i j) := gc_gv X (X 1 0) (X 5) 3 (xw w i j)
    apply hM_all hw hr2 (by omega) hv hp2 (hF2.mw hY hY2)
    intro Y3 _ hY3 hF3
    rw [TT_eq hw hr2 (by omega) hv hp2]
    apply hM_exchange (by omega) (show i < (X 2 7).toNat by omega) (show j < (X 2 7).toNat by omega) hY3.2.2
    intro Y4 hY4 hF4
    rw [xw_xw] at hY4
    have hY5 := hF4.mw hY3 hY4
    have hFS := (hF2.s.tr hF3).tr hF4.s
    rw [to1]
    refine ⟨fun c => ⟨fun _ => ⟨by omega, ?_⟩, fun z => absurd c z⟩, fun c => ⟨by omega, by omega, fun z => absurd z c, fun _ => ⟨by omega, ?_⟩⟩⟩
    · refine hM_swapJ hw hr2 hp hi d (j + 1) a Y4 (by omega) (by omega) hY5 (fun Z hZ hF => ?_)
      have := k Z hZ (hFS.tr hF)
      simp only [sj] at this
      rw [if_pos c] at this
      exact this
    · refine hM_swapJ hw hr2 hp hi d (j + 1) ((TT X 3 (xw w i j) : Int), 16 * (i : Int) + j) Y4 (by omega) (by omega) hY5 (fun Z hZ hF => ?_)
      have := k Z hZ (hFS.tr hF)
      simp only [sj] at this
      rw [if_neg c] at this
      exact this
theorem hM_swapI {X : ax_Mem} {P : Int → ax_Mem → Prop} {w : Nat → Int} (hw : WP X) (hr2 : 2 ≤ X 1 0) (hp : PM (X 2 7).toNat w) : ∀ (d i : Nat) (a : Int × Int) (Y : ax_Mem), i + d = (X 2 7).toNat → MW X Y 3 w → (∀ Z, FS Y Z → P (si (fun i j => (TT X 3 (xw w i j) : Int)) (X 2 7).toNat d i a).2 Z) → jM_swap P 32 [(0, .inr (.inr 0)), (2, .inl a.1), (3, .inl a.2), (4, .inl (i : Int))] [] Y
  | 0, i, a, Y, hi, hY, k => by
    have w1 := hw.1
    have e17 := hY.2.2.1
    apply gM_swap_32
    exact ⟨fun _ => k Y (FS.rf Y), fun c => by omega⟩
  | d + 1, i, a, Y, hi, hY, k => by
    have w1 := hw.1
    have e17 := hY.2.2.1
    apply gM_swap_32
    refine ⟨fun c => by omega, fun _ => ⟨by omega, ?_⟩⟩
    rw [to1]
    refine hM_swapJ hw hr2 hp (by omega) ((X 2 7).toNat - (i + 1)) (i + 1) a Y (by omega) (by omega) hY (fun Z hZ hF => ?_)
    rw [to1]
    exact hM_swapI hw hr2 hp d (i + 1) _ Z (by omega) hZ (fun Z2 hF2 => k Z2 (hF.tr hF2))
theorem q_swap {t : Int} {X Y : ax_Mem} {a : Int} (h : INV t X Y) : kX_swap [.inr (.inr 0), .inl a] X (fun r X2 => kM_swap [.inr (.inr 0), .inl a] Y (fun r2 Y2 => r2 = r ∧ INV (t + 1) X2 Y2)) := by
  obtain ⟨i1, i2, i3, i4, i5, i6, i7, i8⟩ := id h
  have i61 := i6.1
  have w1 := i1.1
  apply eX_swap
  refine refX (P := fun r X2 => kM_swap [.inr (.inr 0), .inl a] Y (fun r2 Y2 => r2 = r ∧ INV (t + 1) X2 Y2)) (fun c1 => ?_) (fun c1 c2 => ?_) (fun c1 c2 => ?_)
  · apply eM_swap
    exact refM (P := fun r2 Y2 => r2 = (-101) ∧ INV (t + 1) X Y2) h (fun _ => ⟨rfl, inv_id h⟩) (fun z => absurd z c1) (fun z => absurd z c1)
  · apply eM_swap
    exact refM (P := fun r2 Y2 => r2 = (-103) ∧ INV (t + 1) X Y2) h (fun z => absurd c1 z) (fun _ _ => ⟨rfl, inv_id h⟩) (fun _ z => absurd c2 z)
  · have hac : ((a.toNat : Nat) : Int) = a := by omega
    have ik := i6.2.2 a.toNat (by omega)
    have hr2 : 2 ≤ X 1 0 := by omega
    have hp := od_PM X a.toNat 3
    have tl := TT_le X 3 (od X a.toNat 3)
    rw [← hac]
    apply hX_boardByX (XF.rf X) (by omega) (by omega) i1 hr2 h.ck
    intro V hV h15
    rw [h15]
    refine hX_swapI i1 hr2 hp (X 2 7).toNat 0 ((TT X 3 (od X a.toNat 3) : Int), -1) (by omega) (fun hn => ⟨?_, ?_⟩) (fun Z hZ => ?_) V hV
    · have := TT_pos (mb := 3) i1 hp (by omega)
      simp only
      omega
    · simp only
      omega
    · apply eM_swap
      rw [hac]
      refine refM (P := fun r2 Y2 => r2 = _ ∧ INV (t + 1) Z Y2) h (fun z => absurd c1 z) (fun _ z => absurd z c2) (fun _ _ => ?_)
      have hv : VW X (gc X (X 1 0) (X 5) 3 (od X a.toNat 3)) 3 (od X a.toNat 3) := gc_gv X (X 1 0) (X 5) 3 (od X a.toNat 3)
      rw [← hac]
      apply hM_boardBy (by omega) i1 hr2 ik.1 i2 ik.2 hv
      intro W _ hW hF
      rw [TT_eq i1 hr2 (by omega) hv hp]
      exact hM_swapI i1 hr2 hp (X 2 7).toNat 0 ((TT X 3 (od X a.toNat 3) : Int), -1) W (by omega) hW (fun Z2 hF2 => ⟨rfl, inv_fr h hZ.x (hF.tr hF2) (by omega)⟩)
