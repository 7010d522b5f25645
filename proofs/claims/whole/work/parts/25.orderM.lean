/-! THE ORDER: the reference's queue over the machine -/
def QN (Y : ax_Mem) (n : Nat) (w : Nat → Int) : Prop := Y 0 17 = n ∧ ∀ i, i < n → Y 7 i = w i
def FQ (Y Z : ax_Mem) : Prop := (∀ k, k ≠ 0 → k ≠ 7 → Z k = Y k) ∧ (∀ f, f ≠ 17 → Z 0 f = Y 0 f)
theorem FQ.rf (Y : ax_Mem) : FQ Y Y := ⟨fun _ _ _ => rfl, fun _ _ => rfl⟩
theorem FQ.tr {A B C : ax_Mem} (h : FQ A B) (k : FQ B C) : FQ A C := ⟨fun a b c => (k.1 a b c).trans (h.1 a b c), fun f a => (k.2 f a).trans (h.2 f a)⟩
theorem FQ.u {Y Z : ax_Mem} {j : Nat} {v : Int} (h : FQ Y Z) : FQ Y (ax_u Z 7 j v) := ⟨fun a b c => by rw [ax_u_cell c]; exact h.1 a b c, fun f a => by rw [ax_u_cell (by omega)]; exact h.2 f a⟩
theorem FQ.f {Y Z : ax_Mem} {v : Int} (h : FQ Y Z) : FQ Y (ax_u Z 0 17 v) := ⟨fun a b c => by rw [ax_u_cell b]; exact h.1 a b c, fun f a => by rw [ax_us a]; exact h.2 f a⟩
theorem hM_placeOf {Y : ax_Mem} {P : Int → ax_Mem → Prop} {n : Nat} {w : Nat → Int} {p : Int} (hn : n ≤ 12) (h : QN Y n w) (k : P (plf w p n 0) Y) : kM_placeOf [.inr (.inr 0), .inl p] Y P := by
  apply eM_placeOf
  have key : ∀ (d i : Nat), i + d = n → P (plf w p d i) Y → jM_placeOf P 2 [(0, .inr (.inr 0)), (1, .inl p), (2, .inl (i : Int))] [] Y := by
    intro d
    induction d with
    | zero =>
      intro i hi hp
      apply gM_placeOf_2
      rw [h.1]
      exact ⟨fun _ => hp, fun c => by omega⟩
    | succ d ih =>
      intro i hi hp
      apply gM_placeOf_2
      unfold plf at hp
      simp only [Int.toNat_natCast]
      rw [h.1, h.2 i (by omega)]
      refine ⟨fun c => by omega, fun _ => ⟨by omega, fun c => ?_, fun c => ?_⟩⟩
      · rw [if_neg c] at hp; rw [to1]; exact ih (i + 1) (by omega) hp
      · rw [if_pos c] at hp; exact hp
  exact key n 0 (by omega) k
theorem hM_put {Y : ax_Mem} {P : Int → ax_Mem → Prop} {n p a b : Nat} {w : Nat → Int} {bh : Int} (hn : n ≤ 12) (h : QN Y n w) (ha : plf w p n 0 = (a : Int)) (han : a < n) (hb : plf (del w a) bh (n - 1) 0 + 1 = (b : Int)) (hbn : b < n) (k : ∀ Z, QN Z n (ins (del w a) b p) → FQ Y Z → P 0 Z) : kM_put [.inr (.inr 0), .inl (p : Int), .inl bh] Y P := by
  apply eM_put
  apply hM_placeOf hn h
  rw [ha]
  have loop3 : ∀ (d : Nat) (Z : ax_Mem), b + d ≤ n - 1 → Z 0 17 = n - 1 → shR (del w a) (n - 1) (b + d) (Z 7) → FQ Y Z → jM_put P 67 [(0, .inr (.inr 0)), (1, .inl (p : Int)), (4, .inl (b : Int)), (5, .inl ((b + d : Nat) : Int))] [] Z := by
    intro d
    induction d with
    | zero =>
      intro Z hd hz hs hF
      apply gM_put_67
      simp only [Int.toNat_natCast]
      refine ⟨fun _ => ⟨by omega, by omega, ?_⟩, fun c => by omega⟩
      rw [hz]
      refine k _ ⟨?_, fun i hi => ?_⟩ (hF.u.f)
      · rw [ax_uu, if_pos rfl]; omega
      · rw [ax_u_cell (by omega), ax_uf]
        exact shR_end hs i (by omega)
    | succ d ih =>
      intro Z hd hz hs hF
      apply gM_put_67
      simp only [Int.toNat_natCast]
      rw [show (((b + (d + 1) : Nat) : Int) - 1).toNat = b + d by omega, show ((b + (d + 1) : Nat) : Int) + (-1) = ((b + d : Nat) : Int) by omega]
      refine ⟨fun c => by omega, fun _ => ⟨by omega, by omega, by omega, ?_⟩⟩
      refine ih _ (by omega) (by rw [ax_u_cell (by omega)]; exact hz) ?_ hF.u
      rw [ax_uf]
      exact shR_step hs
  have loop1 : ∀ (d i : Nat) (Z : ax_Mem), i + d = n - 1 → a ≤ i → Z 0 17 = n → shL w n a i (Z 7) → FQ Y Z → jM_put P 9 [(0, .inr (.inr 0)), (1, .inl (p : Int)), (2, .inl bh), (4, .inl (i : Int))] [] Z := by
    intro d
    induction d with
    | zero =>
      intro i Z hi hai hz hs hF
      apply gM_put_9
      rw [hz]
      refine ⟨by omega, fun _ => ?_, fun c => by omega⟩
      have hq : QN (ax_u Z 0 17 ((n : Int) - 1)) (n - 1) (del w a) := ⟨by rw [ax_uu, if_pos rfl]; omega, fun j hj => by rw [ax_u_cell (by omega)]; exact hs.1 j (by omega)⟩
      apply hM_placeOf (by omega) hq
      rw [hb, hq.1]
      refine ⟨by omega, ?_⟩
      have := loop3 (n - 1 - b) (ax_u Z 0 17 ((n : Int) - 1)) (by omega) (by rw [ax_uu, if_pos rfl]) ⟨fun j hj => hq.2 j (by omega), fun j hj hj2 => by omega⟩ hF.f
      rw [show b + (n - 1 - b) = n - 1 by omega] at this
      exact this
    | succ d ih =>
      intro i Z hi hai hz hs hF
      apply gM_put_9
      rw [hz]
      simp only [Int.toNat_natCast]
      rw [show ((i : Int) + 1).toNat = i + 1 by omega]
      refine ⟨by omega, fun c => by omega, fun _ => ⟨by omega, by omega, by omega, ?_⟩⟩
      rw [to1]
      refine ih (i + 1) _ (by omega) (by omega) (by rw [ax_u_cell (by omega)]; exact hz) ?_ hF.u
      rw [ax_uf]
      exact shL_step hs hai (by omega)
  exact loop1 (n - 1 - a) a Y (by omega) (by omega) h.1 (shL_0 h.2 han) (FQ.rf Y)
/-- the same cabin and people, the same call -/
def RP (X Y : ax_Mem) : Prop := (Y 0 0 = X 1 0 ∧ Y 0 1 = X 1 1 ∧ Y 0 2 = X 1 2 ∧ Y 0 4 = X 2 7) ∧ ∀ p : Nat, (p : Int) < X 2 7 → Y 1 (7 * p) = X 3 p ∧ Y 1 (7 * p + 1) = X 4 p ∧ Y 1 (7 * p + 2) = X 5 p ∧ Y 1 (7 * p + 3) = X 6 p ∧ Y 1 (7 * p + 4) = X 7 p ∧ Y 1 (7 * p + 5) = X 8 p ∧ Y 1 (7 * p + 6) = X 9 p
def RK (X Y : ax_Mem) (c : Nat) : Prop := Y 3 (9 * c) = X (16 + 3 * c) 2 ∧ ∀ i : Nat, (i : Int) < X (16 + 3 * c) 2 → Y 3 (9 * c + 1 + 2 * i) = X (17 + 3 * c) i ∧ Y 3 (9 * c + 2 + 2 * i) = X (18 + 3 * c) i
/-- laid by layPeople(mb) -/
def RL (X Y : ax_Mem) (mb : Int) : Prop := Y 0 13 = X 1 0 ∧ ∀ p : Nat, (p : Int) < X 2 7 → Y 5 p = X 5 p ∧ Y 6 p = min (X 8 p) mb
def FP (Y Z : ax_Mem) : Prop := (∀ k, k ≠ 0 → k ≠ 5 → k ≠ 6 → Z k = Y k) ∧ (∀ f, f ≠ 13 → Z 0 f = Y 0 f)
theorem RP_of {X Y Z : ax_Mem} (h : RP X Y) (h0 : Z 0 0 = Y 0 0) (h1 : Z 0 1 = Y 0 1) (h2 : Z 0 2 = Y 0 2) (h4 : Z 0 4 = Y 0 4) (hp : Z 1 = Y 1) : RP X Z := by
  unfold RP
  rw [h0, h1, h2, h4, hp]
  exact h
theorem RK_of {X Y Z : ax_Mem} {c : Nat} (h : RK X Y c) (hp : Z 3 = Y 3) : RK X Z c := by
  unfold RK
  rw [hp]
  exact h
theorem hM_layPeople {X Y : ax_Mem} {P : Int → ax_Mem → Prop} {mb : Int} (hw : WP X) (hr : RP X Y) (k : ∀ Z, RL X Z mb → FP Y Z → P 0 Z) : kM_layPeople [.inr (.inr 0), .inl mb] Y P := by
  have hw1 := hw.1
  apply eM_layPeople
  rw [hr.1.1]
  refine up_loop (Q := fun i => ∀ Z, Z 0 13 = X 1 0 → (∀ p, p < i → Z 5 p = X 5 p ∧ Z 6 p = min (X 8 p) mb) → FP Y Z → jM_layPeople P 10 [(0, .inr (.inr 0)), (1, .inl mb), (2, .inl (i : Int))] [] Z) (X 2 7).toNat ?_ ?_ 0 (Nat.zero_le _) _ ?_ ?_ ?_
  · intro Z hz hp hF
    apply gM_layPeople_10
    rw [hF.2 4 (by omega), hr.1.2.2.2]
    exact ⟨fun _ => k Z ⟨hz, fun p hq => hp p (by omega)⟩ hF, fun c => by omega⟩
  · intro i hi hQ Z hz hp hF
    apply gM_layPeople_10
    obtain ⟨a0, a1, a2, a3, a4, a5, a6⟩ := hr.2 i (by omega)
    rw [hF.2 4 (by omega), hr.1.2.2.2, hF.1 1 (by omega) (by omega) (by omega), show (7 * (i : Int) + 2).toNat = 7 * i + 2 by omega, show (7 * (i : Int) + 5).toNat = 7 * i + 5 by omega, a2, a5]
    simp only [Int.toNat_natCast]
    have next : ∀ v : Int, v = min (X 8 i) mb → jM_layPeople P 10 [(0, .inr (.inr 0)), (1, .inl mb), (2, .inl ((i : Int) + 1))] [] (ax_u (ax_u Z 5 i (X 5 i)) 6 i v) := by
      intro v hv
      rw [to1]
      refine hQ _ ?_ ?_ ?_
      · rw [ax_u_cell (by omega), ax_u_cell (by omega)]; exact hz
      · intro p hp2
        rw [ax_u_cell (show 5 ≠ 6 by omega), ax_uu, ax_uu, ax_u_cell (show 6 ≠ 5 by omega)]
        by_cases c : p = i
        · rw [if_pos c, if_pos c, c]; exact ⟨rfl, hv⟩
        · rw [if_neg c, if_neg c]; exact hp p (by omega)
      · exact ⟨fun q h0 h5 h6 => by rw [ax_u_cell h6, ax_u_cell h5]; exact hF.1 q h0 h5 h6, fun f hf => by rw [ax_u_cell (by omega), ax_u_cell (by omega)]; exact hF.2 f hf⟩
    refine ⟨fun c => by omega, fun _ => ⟨by omega, by omega, by omega, by omega, fun c => next mb (by omega), fun c => next (X 8 i) (by omega)⟩⟩
  · rw [ax_uu, if_pos rfl]
  · intro p hp; omega
  · exact ⟨fun q h0 _ _ => by rw [ax_u_cell h0], fun f hf => by rw [ax_us hf]⟩
theorem hM_rank {Y : ax_Mem} {P : Int → ax_Mem → Prop} {v : Int} (h : P (rk v) Y) : kM_rank [.inl v] Y P := by
  apply eM_rank
  unfold rk at h
  refine ⟨fun c => ⟨fun d => ?_, fun d => ?_⟩, fun c => ?_⟩
  · rw [if_neg c, if_neg d] at h; exact h
  · rw [if_neg c, if_pos d] at h; exact h
  · rw [if_pos c] at h; exact h
theorem hM_valueOf {X Y : ax_Mem} {P : Int → ax_Mem → Prop} {p : Nat} {key nm mb : Int} (hw : WP X) (hr : RP X Y) (hl : RL X Y mb) (hp : (p : Int) < X 2 7) (hnm : 1 ≤ nm) (h : P (vl key (max 1 nm) (X 1 0) (X 5 p) (X 7 p) (X 6 p) (min (X 8 p) mb)) Y) : kM_valueOf [.inr (.inr 0), .inl key, .inl nm, .inl (p : Int)] Y P := by
  apply eM_valueOf
  obtain ⟨w1, w2, w3⟩ := hw
  obtain ⟨a1, a2, a3, a4, a5, a6, a7⟩ := w3 p hp
  obtain ⟨b0, b1, b2, b3, b4, b5, b6⟩ := hr.2 p hp
  obtain ⟨c5, c6⟩ := hl.2 p hp
  simp only [Int.toNat_natCast]
  rw [hl.1, c5, c6]
  unfold vl at h
  rw [show max 1 nm = nm by omega] at h
  refine ⟨fun c1 => ⟨by omega, by omega, by omega, ⟨by omega, by omega⟩, ?_⟩, fun c1 => ⟨by omega, ⟨by omega, by omega⟩, ?_⟩, fun c1 => ?_, fun c1 => ?_, fun c1 => ⟨by omega, by omega, ?_⟩, fun c1 => ?_, fun c1 => ⟨by omega, ?_⟩⟩
  · rw [if_pos c1] at h; exact h
  · rw [if_neg (by omega), if_pos c1] at h; exact h
  · rw [if_neg (by omega), if_neg (by omega), if_pos c1] at h
    apply hM_depthOf (by omega)
    rw [Int.toNat_natCast, b4]
    exact ⟨by omega, h⟩
  · rw [if_neg (by omega), if_neg (by omega), if_neg (by omega), if_pos c1] at h
    apply hM_depthOf (by omega)
    rw [Int.toNat_natCast, b4]
    exact h
  · rw [if_neg (by omega), if_neg (by omega), if_neg (by omega), if_neg (by omega), if_pos c1] at h; exact h
  · rw [if_neg (by omega), if_neg (by omega), if_neg (by omega), if_neg (by omega), if_neg (by omega), if_pos c1] at h
    apply hM_sideOf (by omega)
    rw [Int.toNat_natCast, b3]
    exact h
  · rw [if_neg (by omega), if_neg (by omega), if_neg (by omega), if_neg (by omega), if_neg (by omega), if_neg (by omega)] at h; exact h
theorem ediv_b {a b : Int} (h0 : 0 ≤ a) (h1 : 1 ≤ b) : 0 ≤ a / b ∧ a / b ≤ a := ⟨Int.ediv_nonneg h0 (by omega), Int.ediv_le_self b h0⟩
theorem va_b {X : ax_Mem} {c p i : Nat} {mb : Int} (hw : WP X) (hp : (p : Int) < X 2 7) (hm : 0 ≤ mb ∧ mb ≤ 3) : -3 ≤ va X c mb p i ∧ va X c mb p i ≤ 12 := by
  obtain ⟨w1, w2, w3⟩ := hw
  obtain ⟨a1, a2, a3, a4, a5, a6, a7⟩ := w3 p hp
  unfold va vl
  have e1 := ediv_b (a := X 1 0 - 1 - X 5 p) (b := max 1 (X (18 + 3 * c) i)) (by omega) (by omega)
  have e2 := ediv_b (a := X 5 p) (b := max 1 (X (18 + 3 * c) i)) (by omega) (by omega)
  generalize (X 1 0 - 1 - X 5 p) / max 1 (X (18 + 3 * c) i) = d1 at *
  generalize X 5 p / max 1 (X (18 + 3 * c) i) = d2 at *
  split
  · omega
  · split
    · omega
    · split
      · omega
      · split
        · omega
        · split
          · omega
          · split <;> omega
theorem hM_isAhead {X Y : ax_Mem} {P : Int → ax_Mem → Prop} {c p q : Nat} {mb : Int} (hc : c < 8) (hm : 0 ≤ mb ∧ mb ≤ 3) (hw : WP X) (hk : WK X c) (hr : RP X Y) (hrk : RK X Y c) (hl : RL X Y mb) (hp : (p : Int) < X 2 7) (hq : (q : Int) < X 2 7) (h : P (ah X c mb p q) Y) : kM_isAhead [.inr (.inr 0), .inl (c : Int), .inl (p : Int), .inl (q : Int)] Y P := by
  have hw1 := hw.1
  have hk1 := hk.1
  apply eM_isAhead
  have rkb : ∀ v, 0 ≤ rk v ∧ rk v ≤ 2 := by intro v; unfold rk; split <;> (try split) <;> omega
  rw [show (7 * (p : Int)).toNat = 7 * p by omega, show (7 * (q : Int)).toNat = 7 * q by omega, (hr.2 p hp).1]
  refine ⟨by omega, by omega, ?_⟩
  apply hM_rank
  rw [(hr.2 q hq).1]
  refine ⟨by omega, by omega, ?_⟩
  apply hM_rank
  have r1 := rkb (X 3 p)
  have r2 := rkb (X 3 q)
  refine ⟨by omega, ?_⟩
  have key : ∀ (d i : Nat) (v : Int), i + d = (X (16 + 3 * c) 2).toNat → P (if v = 0 then ahf (va X c mb p) (va X c mb q) p q d i else if v < 0 then 1 else 0) Y → jM_isAhead P 30 [(0, .inr (.inr 0)), (1, .inl (c : Int)), (2, .inl (p : Int)), (3, .inl (q : Int)), (4, .inl v), (5, .inl (i : Int))] [] Y := by
    intro d
    induction d with
    | zero =>
      intro i v hi hp2
      apply gM_isAhead_30
      rw [show (9 * (c : Int)).toNat = 9 * c by omega, hrk.1]
      unfold ahf at hp2
      refine ⟨by omega, by omega, fun _ => ⟨fun c1 => ?_, fun c1 => ⟨fun c2 => ?_, fun c2 => ⟨fun c3 => ?_, fun c3 => ?_⟩⟩⟩, fun c1 => by omega⟩
      · rw [if_neg (by omega), if_pos c1] at hp2; exact hp2
      · rw [if_neg c2, if_neg c1] at hp2; exact hp2
      · rw [if_pos c2, if_neg (by omega)] at hp2; exact hp2
      · rw [if_pos c2, if_pos (by omega)] at hp2; exact hp2
    | succ d ih =>
      intro i v hi hp2
      apply gM_isAhead_30
      rw [show (9 * (c : Int)).toNat = 9 * c by omega, hrk.1, show (9 * (c : Int) + 1 + 2 * (i : Int)).toNat = 9 * c + 1 + 2 * i by omega, show (9 * (c : Int) + 2 + 2 * (i : Int)).toNat = 9 * c + 2 + 2 * i by omega]
      refine ⟨by omega, by omega, fun c1 => by omega, fun _ => ⟨fun c2 => ⟨fun c3 => ?_, fun c3 => ⟨fun c4 => ?_, fun c4 => by omega⟩⟩, fun c2 => ⟨by omega, by omega, by omega, by omega, by omega, ?_⟩⟩⟩
      · rw [if_neg c2, if_pos c3] at hp2; exact hp2
      · rw [if_neg c2, if_neg c3] at hp2; exact hp2
      · rw [if_pos c2] at hp2
        unfold ahf at hp2
        obtain ⟨k1, k2⟩ := hrk.2 i (by omega)
        have hn := hk.2 i (by omega)
        rw [k1, k2]
        have b1 := va_b (c := c) (i := i) hw hp hm
        have b2 := va_b (c := c) (i := i) hw hq hm
        apply hM_valueOf hw hr hl hp hn.1
        apply hM_valueOf hw hr hl hq hn.1
        rw [show vl (X (17 + 3 * c) i) (max 1 (X (18 + 3 * c) i)) (X 1 0) (X 5 p) (X 7 p) (X 6 p) (min (X 8 p) mb) = va X c mb p i from rfl, show vl (X (17 + 3 * c) i) (max 1 (X (18 + 3 * c) i)) (X 1 0) (X 5 q) (X 7 q) (X 6 q) (min (X 8 q) mb) = va X c mb q i from rfl]
        refine ⟨by omega, by omega, ?_⟩
        rw [to1]
        refine ih (i + 1) _ (by omega) ?_
        by_cases e : va X c mb p i = va X c mb q i
        · rw [if_pos e] at hp2; rw [if_pos (by omega)]; exact hp2
        · rw [if_neg e] at hp2; rw [if_neg (by omega)]
          by_cases e2 : va X c mb p i < va X c mb q i
          · rw [if_pos e2] at hp2; rw [if_pos (by omega)]; exact hp2
          · rw [if_neg e2] at hp2; rw [if_neg (by omega)]; exact hp2
  refine key (X (16 + 3 * c) 2).toNat 0 _ (by omega) ?_
  unfold ah at h
  by_cases e : rk (X 3 p) = rk (X 3 q)
  · rw [if_pos e] at h; rw [if_pos (by omega)]; exact h
  · rw [if_neg e] at h; rw [if_neg (by omega)]
    by_cases e2 : rk (X 3 p) < rk (X 3 q)
    · rw [if_pos e2] at h; rw [if_pos (by omega)]; exact h
    · rw [if_neg e2] at h; rw [if_neg (by omega)]; exact h
theorem FQ_RP {X Y Z : ax_Mem} (h : FQ Y Z) (hr : RP X Y) : RP X Z := RP_of hr (h.2 0 (by omega)) (h.2 1 (by omega)) (h.2 2 (by omega)) (h.2 4 (by omega)) (h.1 1 (by omega) (by omega))
theorem FQ_RL {X Y Z : ax_Mem} {mb : Int} (h : FQ Y Z) (hr : RL X Y mb) : RL X Z mb := by
  unfold RL
  rw [h.2 13 (by omega), h.1 5 (by omega) (by omega), h.1 6 (by omega) (by omega)]
  exact hr
theorem hM_layOrder {X Y : ax_Mem} {P : Int → ax_Mem → Prop} {c : Nat} {mb : Int} (hc : c < 8) (hm : 0 ≤ mb ∧ mb ≤ 3) (hw : WP X) (hk : WK X c) (hr : RP X Y) (hrk : RK X Y c) (hl : RL X Y mb) (k : ∀ Z, QN Z (X 2 7).toNat (od X c mb) → FQ Y Z → P 0 Z) : kM_layOrder [.inr (.inr 0), .inl (c : Int)] Y P := by
  have hw1 := hw.1
  apply eM_layOrder
  have loop2 : ∀ Z, QN Z (X 2 7).toNat (o1 X c mb (X 2 7).toNat) → FQ Y Z → jM_layOrder P 86 [(0, .inr (.inr 0)), (2, .inl 0)] [] Z := by
    refine fun Z0 hZ0 hF0 => up_loop (Q := fun i => ∀ Z, QN Z (X 2 7).toNat (o2 X (X 2 7).toNat (o1 X c mb (X 2 7).toNat) i) → FQ Y Z → jM_layOrder P 86 [(0, .inr (.inr 0)), (2, .inl (i : Int))] [] Z) (X 2 7).toNat ?_ ?_ 0 (Nat.zero_le _) Z0 hZ0 hF0
    · intro Z hZ hF
      apply gM_layOrder_86
      rw [hF.2 4 (by omega), hr.1.2.2.2]
      exact ⟨fun _ => k Z hZ hF, fun q => by omega⟩
    · intro i hi hQ Z hZ hF
      apply gM_layOrder_86
      have hPM := o2_PM (X := X) (o1_PM X c mb (X 2 7).toNat) i (by omega)
      obtain ⟨a0, a1, -⟩ := hr.2 i (by omega)
      unfold o2 at hQ
      rw [hF.2 4 (by omega), hr.1.2.2.2, hF.1 1 (by omega) (by omega), show (7 * (i : Int)).toNat = 7 * i by omega, show (7 * (i : Int) + 1).toNat = 7 * i + 1 by omega, a0, a1]
      refine ⟨fun q => by omega, fun _ => ⟨by omega, by omega, fun q => ⟨by omega, ?_⟩, fun q => ⟨by omega, ?_⟩⟩⟩
      · rw [if_neg q] at hQ; rw [to1]; exact hQ Z hZ hF
      · rw [if_pos q] at hQ
        have ha := oa_in hPM (show i < (X 2 7).toNat by omega)
        have hb := ob_lt (n := (X 2 7).toNat) (k := i) (w := o2 X (X 2 7).toNat (o1 X c mb (X 2 7).toNat) i) (b := X 4 i) (by omega)
        apply hM_put (by omega) hZ ha.1 ha.2.1 hb.1 hb.2
        intro Z2 hZ2 hF2
        refine ⟨by omega, ?_⟩
        rw [to1]
        exact hQ Z2 hZ2 (hF.tr hF2)
  refine up_loop (Q := fun i => ∀ Z, QN Z i (o1 X c mb i) → FQ Y Z → jM_layOrder P 7 [(0, .inr (.inr 0)), (1, .inl (c : Int)), (2, .inl (i : Int))] [] Z) (X 2 7).toNat ?_ ?_ 0 (Nat.zero_le _) _ ⟨by rw [ax_uu, if_pos rfl]; rfl, fun i hi => by omega⟩ ((FQ.rf Y).f)
  · intro Z hZ hF
    apply gM_layOrder_7
    rw [hF.2 4 (by omega), hr.1.2.2.2]
    exact ⟨fun _ => loop2 Z hZ hF, fun q => by omega⟩
  · intro i hi hQ Z hZ hF
    apply gM_layOrder_7
    rw [hF.2 4 (by omega), hr.1.2.2.2, hZ.1]
    refine ⟨fun q => by omega, fun _ => ?_⟩
    have hPM := o1_PM X c mb i
    have key : ∀ (m : Nat) (V : ax_Mem), m ≤ i → V 0 17 = i → shR (o1 X c mb i) i m (V 7) → FQ Y V → ip (ah X c mb i) (o1 X c mb i) m = ip (ah X c mb i) (o1 X c mb i) i → jM_layOrder P 20 [(0, .inr (.inr 0)), (1, .inl (c : Int)), (2, .inl (i : Int)), (3, .inl (m : Int))] [] V := by
      intro m
      induction m with
      | zero =>
        intro V _ hV hs hFV hip
        apply gM_layOrder_20
        refine ⟨fun _ => ⟨by omega, by omega, by omega, ?_⟩, fun q => by omega⟩
        rw [hV, to1]
        refine hQ _ ⟨by rw [ax_uu, if_pos rfl], fun j hj => ?_⟩ hFV.u.f
        rw [ax_u_cell (by omega), ax_uf]
        have := shR_end (p := (i : Int)) hs j hj
        rw [show o1 X c mb (i + 1) = ins (o1 X c mb i) (ip (ah X c mb i) (o1 X c mb i) i) i from rfl, ← hip]
        exact this
      | succ m ih =>
        intro V hm9 hV hs hFV hip
        apply gM_layOrder_20
        rw [show (((m + 1 : Nat) : Int) - 1).toNat = m by omega, show ((m + 1 : Nat) : Int) + (-1) = (m : Int) by omega, Int.toNat_natCast, hs.1 m (by omega)]
        have hwm := hPM.1 m (by omega)
        refine ⟨fun q => by omega, fun _ => ⟨by omega, by omega, ?_⟩⟩
        rw [show ip (ah X c mb i) (o1 X c mb i) (m + 1) = if ah X c mb i (o1 X c mb i m).toNat = 0 then m + 1 else ip (ah X c mb i) (o1 X c mb i) m from rfl] at hip
        have t := hM_isAhead (X := X) (Y := V) (c := c) (p := i) (q := (o1 X c mb i m).toNat) (mb := mb) (P := fun r6 M7 => (r6 = 0 → (0 ≤ ((m + 1 : Nat) : Int) ∧ ((m + 1 : Nat) : Int) < 12) ∧ (-2147483648 ≤ ((M7 0 17) + 1) ∧ ((M7 0 17) + 1) < 2147483648) ∧ (-2147483648 ≤ ((i : Int) + 1) ∧ ((i : Int) + 1) < 2147483648) ∧ jM_layOrder P 7 [(0, .inr (.inr 0)), (1, .inl (c : Int)), (2, .inl ((i : Int) + 1))] [] (ax_u (ax_u M7 7 (m + 1) i) 0 17 ((M7 0 17) + 1))) ∧ (¬ r6 = 0 → (0 ≤ ((m + 1 : Nat) : Int) ∧ ((m + 1 : Nat) : Int) < 12) ∧ jM_layOrder P 20 [(0, .inr (.inr 0)), (1, .inl (c : Int)), (2, .inl (i : Int)), (3, .inl (m : Int))] [] (ax_u M7 7 (m + 1) (M7 7 m)))) hc hm hw hk (FQ_RP hFV hr) (RK_of hrk (hFV.1 3 (by omega) (by omega))) (FQ_RL hFV hl) (by omega) (by omega) (by
          refine ⟨fun q => ⟨by omega, by omega, by omega, ?_⟩, fun q => ⟨by omega, ?_⟩⟩
          · rw [if_pos q] at hip
            rw [hV, to1]
            refine hQ _ ⟨by rw [ax_uu, if_pos rfl], fun j hj => ?_⟩ hFV.u.f
            rw [ax_u_cell (by omega), ax_uf]
            have := shR_end (p := (i : Int)) hs j hj
            rw [show o1 X c mb (i + 1) = ins (o1 X c mb i) (ip (ah X c mb i) (o1 X c mb i) i) i from rfl, ← hip]
            exact this
          · rw [if_neg q] at hip
            refine ih _ (by omega) (by rw [ax_u_cell (by omega)]; exact hV) ?_ hFV.u hip
            rw [ax_uf]
            exact shR_step hs)
        rw [show (((o1 X c mb i m).toNat : Nat) : Int) = o1 X c mb i m by omega] at t
        exact t
    exact key i Z (Nat.le_refl _) hZ.1 ⟨fun j hj => hZ.2 j hj, fun j hj hj2 => by omega⟩ hF rfl
