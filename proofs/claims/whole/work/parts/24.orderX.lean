/-! THE ORDER: the class's Line and Call over the machine -/
def LN (X : ax_Mem) (n : Nat) (w : Nat → Int) : Prop := X 40 1 = n ∧ ∀ i, i < n → X 41 i = w i
def FL (X Z : ax_Mem) : Prop := ∀ k, k ≠ 40 → k ≠ 41 → Z k = X k
theorem FL.rf (X : ax_Mem) : FL X X := fun _ _ _ => rfl
theorem FL.tr {A B C : ax_Mem} (h : FL A B) (k : FL B C) : FL A C := fun a b c => (k a b c).trans (h a b c)
theorem FL.u {X Z : ax_Mem} {k j : Nat} {v : Int} (h : FL X Z) (hk : k = 40 ∨ k = 41) : FL X (ax_u Z k j v) := fun a b c => by rw [ax_u_cell (by omega)]; exact h a b c
theorem hN_putIn {X : ax_Mem} {P : Int → ax_Mem → Prop} {n a : Nat} {w : Nat → Int} {p : Int} (hn : n < 12) (ha : a ≤ n) (h : LN X n w) (k : ∀ Z, LN Z (n + 1) (ins w a p) → FL X Z → P 0 Z) : kN_putIn [.inr (.inr 40), .inl (a : Int), .inl p] X P := by
  apply eN_putIn
  rw [h.1]
  refine ⟨fun c => by omega, fun _ => ⟨fun c => by omega, fun _ => ⟨fun _ => ?_, fun c => by omega⟩⟩⟩
  have key : ∀ (d : Nat) (Z : ax_Mem), a + d ≤ n → Z 40 1 = n → shR w n (a + d) (Z 41) → FL X Z → jN_putIn P 27 [(0, .inr (.inr 40)), (1, .inl (a : Int)), (2, .inl p), (3, .inl ((a + d : Nat) : Int))] [] Z := by
    intro d
    induction d with
    | zero =>
      intro Z hd hz hs hF
      apply gN_putIn_27
      simp only [Int.toNat_natCast]
      refine ⟨fun _ => ⟨by omega, by omega, ?_⟩, fun c => by omega⟩
      rw [hz]
      refine k _ ⟨?_, fun i hi => ?_⟩ ((hF.u (Or.inr rfl)).u (Or.inl rfl))
      · rw [ax_uu, if_pos rfl]; omega
      · rw [ax_u_cell (by omega), ax_uf]
        exact shR_end hs i hi
    | succ d ih =>
      intro Z hd hz hs hF
      apply gN_putIn_27
      simp only [Int.toNat_natCast]
      rw [show (((a + (d + 1) : Nat) : Int) - 1).toNat = a + d by omega, show ((a + (d + 1) : Nat) : Int) + (-1) = ((a + d : Nat) : Int) by omega]
      refine ⟨fun c => by omega, fun _ => ⟨by omega, by omega, by omega, ?_⟩⟩
      refine ih _ (by omega) (by rw [ax_u_cell (by omega)]; exact hz) ?_ (hF.u (Or.inr rfl))
      rw [ax_uf]
      exact shR_step hs
  have := key (n - a) X (by omega) h.1 ⟨fun j hj => h.2 j (by omega), fun j hj hj2 => by omega⟩ (FL.rf X)
  rw [show a + (n - a) = n by omega] at this
  exact this
theorem hN_placeOf {X : ax_Mem} {P : Int → ax_Mem → Prop} {n : Nat} {w : Nat → Int} {p : Int} (hn : n ≤ 12) (h : LN X n w) (k : P (plf w p n 0) X) : kN_placeOf [.inr (.inr 40), .inl p] X P := by
  apply eN_placeOf
  have key : ∀ (d i : Nat), i + d = n → P (plf w p d i) X → jN_placeOf P 2 [(0, .inr (.inr 40)), (1, .inl p), (2, .inl (i : Int))] [] X := by
    intro d
    induction d with
    | zero =>
      intro i hi hp
      apply gN_placeOf_2
      rw [h.1]
      exact ⟨fun _ => hp, fun c => by omega⟩
    | succ d ih =>
      intro i hi hp
      apply gN_placeOf_2
      unfold plf at hp
      simp only [Int.toNat_natCast]
      rw [h.1, h.2 i (by omega)]
      refine ⟨fun c => by omega, fun _ => ⟨by omega, fun c => ?_, fun c => ?_⟩⟩
      · rw [if_neg c] at hp; rw [to1]; exact ih (i + 1) (by omega) hp
      · rw [if_pos c] at hp; exact hp
  exact key n 0 (by omega) k
theorem hN_takeOut {X : ax_Mem} {P : Int → ax_Mem → Prop} {n a : Nat} {w : Nat → Int} {p : Int} (hn : n ≤ 12) (h : LN X n w) (ha : plf w p n 0 = (a : Int)) (han : a < n) (k : ∀ Z, LN Z (n - 1) (del w a) → FL X Z → P 0 Z) : kN_takeOut [.inr (.inr 40), .inl p] X P := by
  apply eN_takeOut
  apply hN_placeOf hn h
  rw [ha, h.1]
  refine ⟨fun _ => ⟨by omega, ?_⟩, fun c => by omega⟩
  have key : ∀ (d i : Nat) (Z : ax_Mem), i + d = n - 1 → a ≤ i → Z 40 1 = n - 1 → shL w n a i (Z 41) → FL X Z → jN_takeOut P 24 [(0, .inr (.inr 40)), (3, .inl (i : Int))] [] Z := by
    intro d
    induction d with
    | zero =>
      intro i Z hi hai hz hs hF
      apply gN_takeOut_24
      rw [hz]
      refine ⟨fun _ => k Z ⟨by omega, fun j hj => hs.1 j (by omega)⟩ hF, fun c => by omega⟩
    | succ d ih =>
      intro i Z hi hai hz hs hF
      apply gN_takeOut_24
      rw [hz]
      simp only [Int.toNat_natCast]
      rw [show ((i : Int) + 1).toNat = i + 1 by omega]
      refine ⟨fun c => by omega, fun _ => ⟨by omega, by omega, by omega, ?_⟩⟩
      rw [to1]
      refine ih (i + 1) _ (by omega) (by omega) (by rw [ax_u_cell (by omega)]; exact hz) ?_ (hF.u (Or.inr rfl))
      rw [ax_uf]
      exact shL_step hs hai (by omega)
  refine key (n - 1 - a) a _ (by omega) (by omega) (by rw [ax_uu, if_pos rfl]) ?_ ((FL.rf X).u (Or.inl rfl))
  rw [ax_u_cell (by omega)]
  exact shL_0 h.2 han
/-- people as they stand in a cabin; calls that were read -/
def WP (X : ax_Mem) : Prop := (0 ≤ X 2 7 ∧ X 2 7 ≤ 12) ∧ (0 ≤ X 1 0 ∧ X 1 0 ≤ 12) ∧ ∀ p : Nat, (p : Int) < X 2 7 → (0 ≤ X 3 p ∧ X 3 p ≤ 3) ∧ (X 3 p = 3 → 0 ≤ X 4 p ∧ X 4 p < p) ∧ (0 ≤ X 5 p ∧ X 5 p < X 1 0) ∧ (0 ≤ X 6 p ∧ X 6 p ≤ 1) ∧ (0 ≤ X 7 p ∧ X 7 p < 3) ∧ (0 ≤ X 8 p ∧ X 8 p ≤ 3) ∧ (0 ≤ X 9 p ∧ X 9 p ≤ 999)
def WK (X : ax_Mem) (c : Nat) : Prop := (0 ≤ X (16 + 3 * c) 2 ∧ X (16 + 3 * c) 2 ≤ 4) ∧ ∀ i : Nat, (i : Int) < X (16 + 3 * c) 2 → 1 ≤ X (18 + 3 * c) i ∧ X (18 + 3 * c) i ≤ 9
theorem hK_rankOf {X : ax_Mem} {P : Int → ax_Mem → Prop} {v : Int} (h : P (rk v) X) : kK_rankOf [.inl v] X P := by
  apply eK_rankOf
  unfold rk at h
  refine ⟨fun c => ⟨fun d => ?_, fun d => ?_⟩, fun c => ?_⟩
  · rw [if_neg c, if_neg d] at h; exact h
  · rw [if_neg c, if_pos d] at h; exact h
  · rw [if_pos c] at h; exact h
theorem hK_valueOf {X : ax_Mem} {P : Int → ax_Mem → Prop} {c p i : Nat} {mb : Int} (hc : c < 8) (hw : WP X) (hi : i < 4) (hp : (p : Int) < X 2 7) (h : P (va X c mb p i) X) : kK_valueOf [.inr (.inr (16 + 3 * c)), .inl (i : Int), .inl (p : Int), .inr (.inr 2), .inr (.inr 1), .inl mb] X P := by
  apply eK_valueOf hc
  obtain ⟨w1, w2, w3⟩ := hw
  obtain ⟨a1, a2, a3, a4, a5, a6, a7⟩ := w3 p hp
  simp only [Int.toNat_natCast]
  unfold va vl at h
  refine ⟨by omega, fun c1 => ⟨by omega, by omega, by omega, ⟨by omega, by omega⟩, ?_⟩, fun c1 => ⟨by omega, ⟨by omega, by omega⟩, ?_⟩, fun c1 => ⟨by omega, by omega, ?_⟩, fun c1 => ⟨by omega, ?_⟩, fun c1 => ⟨by omega, by omega, ?_⟩, fun c1 => ⟨by omega, ?_⟩, fun c1 => ⟨by omega, ?_⟩⟩
  · rw [if_pos c1] at h; exact h
  · rw [if_neg (by omega), if_pos c1] at h; exact h
  · rw [if_neg (by omega), if_neg (by omega), if_pos c1] at h; exact h
  · rw [if_neg (by omega), if_neg (by omega), if_neg (by omega), if_pos c1] at h; exact h
  · rw [if_neg (by omega), if_neg (by omega), if_neg (by omega), if_neg (by omega), if_pos c1] at h; exact h
  · rw [if_neg (by omega), if_neg (by omega), if_neg (by omega), if_neg (by omega), if_neg (by omega), if_pos c1] at h; exact h
  · rw [if_neg (by omega), if_neg (by omega), if_neg (by omega), if_neg (by omega), if_neg (by omega), if_neg (by omega)] at h; exact h
theorem hK_isAhead {X : ax_Mem} {P : Int → ax_Mem → Prop} {c p q : Nat} {mb : Int} (hc : c < 8) (hw : WP X) (hk : WK X c) (hp : (p : Int) < X 2 7) (hq : (q : Int) < X 2 7) (h : P (ah X c mb p q) X) : kK_isAhead [.inr (.inr (16 + 3 * c)), .inl (p : Int), .inl (q : Int), .inr (.inr 2), .inr (.inr 1), .inl mb] X P := by
  have hw1 := hw.1
  have hk1 := hk.1
  apply eK_isAhead hc
  simp only [Int.toNat_natCast]
  refine ⟨by omega, ?_⟩
  apply hK_rankOf
  refine ⟨by omega, ?_⟩
  apply hK_rankOf
  unfold ah at h
  refine ⟨fun c1 => ?_, fun c1 => ⟨fun c2 => ?_, fun c2 => ?_⟩⟩
  · rw [if_pos c1] at h
    have key : ∀ (d i : Nat), i + d = (X (16 + 3 * c) 2).toNat → P (ahf (va X c mb p) (va X c mb q) p q d i) X → jK_isAhead P 45 [(0, .inr (.inr (16 + 3 * c))), (1, .inl (p : Int)), (2, .inl (q : Int)), (3, .inr (.inr 2)), (4, .inr (.inr 1)), (5, .inl mb), (8, .inl (i : Int))] [] X := by
      intro d
      induction d with
      | zero =>
        intro i hi hp2
        apply gK_isAhead_45 hc
        unfold ahf at hp2
        refine ⟨fun _ => ⟨fun c2 => ?_, fun c2 => ?_⟩, fun c2 => by omega⟩
        · rw [if_neg (by omega)] at hp2; exact hp2
        · rw [if_pos (by omega)] at hp2; exact hp2
      | succ d ih =>
        intro i hi hp2
        apply gK_isAhead_45 hc
        unfold ahf at hp2
        refine ⟨fun c2 => by omega, fun _ => ?_⟩
        apply hK_valueOf hc hw (by omega) hp
        apply hK_valueOf hc hw (by omega) hq
        refine ⟨fun c2 => ⟨by omega, ?_⟩, fun c2 => ⟨fun c3 => ?_, fun c3 => ?_⟩⟩
        · rw [if_pos c2] at hp2; rw [to1]; exact ih (i + 1) (by omega) hp2
        · rw [if_neg c2, if_neg (by omega)] at hp2; exact hp2
        · rw [if_neg c2, if_pos (by omega)] at hp2; exact hp2
    exact key _ 0 (by omega) h
  · rw [if_neg c1, if_neg (by omega)] at h; exact h
  · rw [if_neg c1, if_pos (by omega)] at h; exact h
theorem FL_WP {X Z : ax_Mem} (h : FL X Z) (hw : WP X) : WP Z := by
  unfold WP
  rw [h 1 (by omega) (by omega), h 2 (by omega) (by omega), h 3 (by omega) (by omega), h 4 (by omega) (by omega), h 5 (by omega) (by omega), h 6 (by omega) (by omega), h 7 (by omega) (by omega), h 8 (by omega) (by omega), h 9 (by omega) (by omega)]
  exact hw
theorem FL_ah {X Z : ax_Mem} {c : Nat} {mb : Int} (h : FL X Z) (hc : c < 8) : ah Z c mb = ah X c mb := by
  funext p q
  unfold ah va
  rw [h 1 (by omega) (by omega), h 3 (by omega) (by omega), h 5 (by omega) (by omega), h 6 (by omega) (by omega), h 7 (by omega) (by omega), h 8 (by omega) (by omega), h (16 + 3 * c) (by omega) (by omega), h (17 + 3 * c) (by omega) (by omega), h (18 + 3 * c) (by omega) (by omega)]
theorem FL_WK {X Z : ax_Mem} {c : Nat} (h : FL X Z) (hc : c < 8) (hk : WK X c) : WK Z c := by
  unfold WK
  rw [h (16 + 3 * c) (by omega) (by omega), h (18 + 3 * c) (by omega) (by omega)]
  exact hk
theorem ip_eq {a w g : Nat → Int} : ∀ n, (∀ j, j < n → g j = w j) → ip a g n = ip a w n
  | 0, _ => rfl
  | n + 1, h => by
    unfold ip
    rw [h n (by omega), ip_eq n (fun j hj => h j (by omega))]
theorem hK_arrange {X : ax_Mem} {P : Int → ax_Mem → Prop} {c : Nat} {mb : Int} (hc : c < 8) (hw : WP X) (hk : WK X c) (k : ∀ Z, LN Z (X 2 7).toNat (od X c mb) → FL X Z → P 0 Z) : kK_arrange [.inr (.inr (16 + 3 * c)), .inr (.inr 40), .inr (.inr 2), .inr (.inr 1), .inl mb] X P := by
  have hw1 := hw.1
  apply eK_arrange hc
  have loop2 : ∀ Z, LN Z (X 2 7).toNat (o1 X c mb (X 2 7).toNat) → FL X Z → jK_arrange P 73 [(1, .inr (.inr 40)), (2, .inr (.inr 2)), (5, .inl 0)] [] Z := by
    refine fun Z0 hZ0 hF0 => up_loop (Q := fun i => ∀ Z, LN Z (X 2 7).toNat (o2 X (X 2 7).toNat (o1 X c mb (X 2 7).toNat) i) → FL X Z → jK_arrange P 73 [(1, .inr (.inr 40)), (2, .inr (.inr 2)), (5, .inl (i : Int))] [] Z) (X 2 7).toNat ?_ ?_ 0 (Nat.zero_le _) Z0 hZ0 hF0
    · intro Z hZ hF
      apply gK_arrange_73 hc
      rw [hF 2 (by omega) (by omega)]
      exact ⟨fun _ => k Z hZ hF, fun q => by omega⟩
    · intro i hi hQ Z hZ hF
      apply gK_arrange_73 hc
      have hPM := o2_PM (X := X) (o1_PM X c mb (X 2 7).toNat) i (by omega)
      unfold o2 at hQ
      simp only [Int.toNat_natCast]
      rw [hF 2 (by omega) (by omega), hF 3 (by omega) (by omega)]
      refine ⟨fun q => by omega, fun _ => ⟨by omega, fun q => ?_, fun q => ?_⟩⟩
      · rw [if_neg q] at hQ; rw [to1]; exact hQ Z hZ hF
      · rw [if_pos q] at hQ
        generalize o2 X (X 2 7).toNat (o1 X c mb (X 2 7).toNat) i = w at *
        have ha := oa_in hPM (show i < (X 2 7).toNat by omega)
        have hb := ob_lt (n := (X 2 7).toNat) (k := i) (w := w) (b := X 4 i) (by omega)
        apply hN_takeOut (by omega) hZ ha.1 ha.2.1
        intro Z2 hZ2 hF2
        apply hN_placeOf (by omega) hZ2
        have hF3 := hF.tr hF2
        rw [hF3 4 (by omega) (by omega), hb.1]
        refine ⟨by omega, ?_⟩
        apply hN_putIn (by omega) (by omega) hZ2
        intro Z4 hZ4 hF4
        rw [show (X 2 7).toNat - 1 + 1 = (X 2 7).toNat by omega] at hZ4
        rw [to1]
        exact hQ Z4 hZ4 (hF3.tr hF4)
  refine up_loop (Q := fun i => ∀ Z, LN Z i (o1 X c mb i) → FL X Z → jK_arrange P 8 [(0, .inr (.inr (16 + 3 * c))), (1, .inr (.inr 40)), (2, .inr (.inr 2)), (3, .inr (.inr 1)), (4, .inl mb), (5, .inl (i : Int))] [] Z) (X 2 7).toNat ?_ ?_ 0 (Nat.zero_le _) _ ⟨by rw [ax_uu, if_pos rfl]; rfl, fun i hi => by omega⟩ ((FL.rf X).u (Or.inl rfl))
  · intro Z hZ hF
    apply gK_arrange_8 hc
    rw [hF 2 (by omega) (by omega)]
    exact ⟨fun _ => loop2 Z hZ hF, fun q => by omega⟩
  · intro i hi hQ Z hZ hF
    apply gK_arrange_8 hc
    rw [hF 2 (by omega) (by omega), hZ.1]
    refine ⟨fun q => by omega, fun _ => ?_⟩
    have hPM := o1_PM X c mb i
    have hwZ := FL_WP hF hw
    have hkZ := FL_WK hF hc hk
    have hah := FL_ah (mb := mb) hF hc
    have h27 : Z 2 7 = X 2 7 := by rw [hF 2 (by omega) (by omega)]
    have key : ∀ m : Nat, m ≤ i → ip (ah X c mb i) (o1 X c mb i) m = ip (ah X c mb i) (o1 X c mb i) i → jK_arrange P 23 [(0, .inr (.inr (16 + 3 * c))), (1, .inr (.inr 40)), (2, .inr (.inr 2)), (3, .inr (.inr 1)), (4, .inl mb), (5, .inl (i : Int)), (6, .inl (m : Int))] [] Z := by
      intro m
      have fin : ∀ m2 : Nat, m2 = ip (ah X c mb i) (o1 X c mb i) i → kN_putIn [.inr (.inr 40), .inl (m2 : Int), .inl (i : Int)] Z (fun _ M2 => (-2147483648 ≤ ((i : Int) + 1) ∧ ((i : Int) + 1) < 2147483648) ∧ jK_arrange P 8 [(0, .inr (.inr (16 + 3 * c))), (1, .inr (.inr 40)), (2, .inr (.inr 2)), (3, .inr (.inr 1)), (4, .inl mb), (5, .inl ((i : Int) + 1))] [] M2) := by
        intro m2 hm2
        have hle := ip_le (ah X c mb i) (o1 X c mb i) i
        apply hN_putIn (by omega) (by omega) hZ
        intro Z2 hZ2 hF2
        refine ⟨by omega, ?_⟩
        rw [to1]
        rw [hm2] at hZ2
        exact hQ Z2 hZ2 (hF.tr hF2)
      induction m with
      | zero =>
        intro _ hip
        apply gK_arrange_23 hc
        exact ⟨fun _ => fin 0 hip, fun q => by omega⟩
      | succ m ih =>
        intro hm hip
        apply gK_arrange_23 hc
        rw [show (((m + 1 : Nat) : Int) - 1).toNat = m by omega, show ((m + 1 : Nat) : Int) + (-1) = (m : Int) by omega, hZ.2 m (by omega)]
        have hwm := hPM.1 m (by omega)
        refine ⟨fun q => by omega, fun _ => ⟨by omega, by omega, ?_⟩⟩
        have t := hK_isAhead (X := Z) (c := c) (p := i) (q := (o1 X c mb i m).toNat) (mb := mb) (P := fun r6 M7 => (r6 = 0 → kN_putIn [.inr (.inr 40), .inl ((m + 1 : Nat) : Int), .inl (i : Int)] M7 (fun _ M9 => (-2147483648 ≤ ((i : Int) + 1) ∧ ((i : Int) + 1) < 2147483648) ∧ jK_arrange P 8 [(0, .inr (.inr (16 + 3 * c))), (1, .inr (.inr 40)), (2, .inr (.inr 2)), (3, .inr (.inr 1)), (4, .inl mb), (5, .inl ((i : Int) + 1))] [] M9)) ∧ (¬ r6 = 0 → (-2147483648 ≤ (m : Int) ∧ (m : Int) < 2147483648) ∧ jK_arrange P 23 [(0, .inr (.inr (16 + 3 * c))), (1, .inr (.inr 40)), (2, .inr (.inr 2)), (3, .inr (.inr 1)), (4, .inl mb), (5, .inl (i : Int)), (6, .inl (m : Int))] [] M7)) hc hwZ hkZ (by omega) (by omega) (by
          rw [hah]
          rw [show ip (ah X c mb i) (o1 X c mb i) (m + 1) = if ah X c mb i (o1 X c mb i m).toNat = 0 then m + 1 else ip (ah X c mb i) (o1 X c mb i) m from rfl] at hip
          refine ⟨fun q => ?_, fun q => ⟨by omega, ?_⟩⟩
          · rw [if_pos q] at hip
            exact fin (m + 1) hip
          · rw [if_neg q] at hip
            exact ih (by omega) hip)
        rw [show (((o1 X c mb i m).toNat : Nat) : Int) = o1 X c mb i m by omega] at t
        exact t
    exact key i (Nat.le_refl _) rfl
