/-! what holds between the class and the reference from call to call; refusals -/
theorem hX_outside {X : ax_Mem} {P : Int → ax_Mem → Prop} {v a b : Int} (h : P (if v < a ∨ b < v then 1 else 0) X) : kX_outside [.inl v, .inl a, .inl b] X P := by
  apply eX_outside
  refine ⟨fun c => ?_, fun c => ⟨fun d => ?_, fun d => ?_⟩⟩
  · rw [if_pos (by omega)] at h; exact h
  · rw [if_neg (by omega)] at h; exact h
  · rw [if_pos (by omega)] at h; exact h
theorem hX_hasCall {X : ax_Mem} {P : Int → ax_Mem → Prop} {v : Int} (h : P (if 0 ≤ v ∧ v < X 0 9 then 1 else 0) X) : kX_hasCall [.inr (.inr 0), .inl v] X P := by
  apply eX_hasCall
  refine ⟨fun c => ?_, fun c => ⟨fun d => ?_, fun d => ?_⟩⟩
  · rw [if_neg (by omega)] at h; exact h
  · rw [if_neg (by omega)] at h; exact h
  · rw [if_pos (by omega)] at h; exact h
theorem hE_has {X : ax_Mem} {P : Int → ax_Mem → Prop} {v : Int} (h : P (if 0 ≤ v ∧ v < X 2 7 then 1 else 0) X) : kE_has [.inr (.inr 2), .inl v] X P := by
  apply eE_has
  refine ⟨fun c => ?_, fun c => ⟨fun d => ?_, fun d => ?_⟩⟩
  · rw [if_neg (by omega)] at h; exact h
  · rw [if_neg (by omega)] at h; exact h
  · rw [if_pos (by omega)] at h; exact h
theorem hC_isMissing {X : ax_Mem} {P : Int → ax_Mem → Prop} (h : P (if X 1 0 = 0 then 1 else 0) X) : kC_isMissing [.inr (.inr 1)] X P := by
  apply eC_isMissing
  refine ⟨fun c => ?_, fun c => ?_⟩
  · rw [if_neg c] at h; exact h
  · rw [if_pos c] at h; exact h
theorem hX_refusalOf {X : ax_Mem} {P : Int → ax_Mem → Prop} {v : Int} (h : P (if 0 ≤ v ∧ v < X 0 9 then (if X 1 0 = 0 then -103 else 0) else -101) X) : kX_refusalOf [.inr (.inr 0), .inl v] X P := by
  apply eX_refusalOf
  apply hX_hasCall
  by_cases c : 0 ≤ v ∧ v < X 0 9
  · rw [if_pos c] at h
    rw [if_pos c]
    refine ⟨fun _ => ?_, fun d => absurd d (by decide)⟩
    apply hC_isMissing
    by_cases e : X 1 0 = 0
    · rw [if_pos e] at h
      rw [if_pos e]
      exact ⟨fun d => absurd d (by decide), fun _ => h⟩
    · rw [if_neg e] at h
      rw [if_neg e]
      exact ⟨fun _ => h, fun d => absurd rfl d⟩
  · rw [if_neg c] at h
    rw [if_neg c]
    exact ⟨fun d => absurd rfl d, fun _ => h⟩
theorem hM_in {Y : ax_Mem} {P : Int → ax_Mem → Prop} {v a b : Int} (hv : ax_r v) (ha : ax_r a) (hb : ax_r b) (h : P (if a ≤ v ∧ v ≤ b then 1 else 0) Y) : kM_in [.inr (.inl v), .inr (.inl a), .inr (.inl b)] Y P := by
  apply eM_in
  obtain ⟨v1, v2⟩ := hv
  obtain ⟨a1, a2⟩ := ha
  obtain ⟨b1, b2⟩ := hb
  have e1 : ax_cmp v a < 0 ↔ v < a := by unfold ax_cmp; split <;> (try split) <;> omega
  have e2 : 0 < ax_cmp v b ↔ b < v := by unfold ax_cmp; split <;> (try split) <;> omega
  rw [e1, e2]
  refine ⟨⟨⟨by omega, by omega⟩, ⟨by omega, by omega⟩⟩, fun c => ?_, fun c => ⟨⟨⟨by omega, by omega⟩, ⟨by omega, by omega⟩⟩, fun d => ?_, fun d => ?_⟩⟩
  · rw [if_neg (by omega)] at h; exact h
  · rw [if_neg (by omega)] at h; exact h
  · rw [if_pos (by omega)] at h; exact h
theorem hM_isCall {Y : ax_Mem} {P : Int → ax_Mem → Prop} {v : Int} (hy : 0 ≤ Y 0 8 ∧ Y 0 8 ≤ 8) (h : P (if 0 ≤ v ∧ v < Y 0 8 then 1 else 0) Y) : kM_isCall [.inr (.inr 0), .inl v] Y P := by
  apply ax_Ca
  intro ha
  have hv : ax_r v := ha (.inl v) (by simp)
  apply eM_isCall
  refine ⟨by omega, ?_⟩
  apply hM_in hv ⟨by omega, by omega⟩ ⟨by omega, by omega⟩
  by_cases c : 0 ≤ v ∧ v < Y 0 8
  · rw [if_pos c] at h; rw [if_pos (by omega)]; exact ⟨Or.inr rfl, h⟩
  · rw [if_neg c] at h; rw [if_neg (by omega)]; exact ⟨Or.inl rfl, h⟩
theorem hM_isPerson {Y : ax_Mem} {P : Int → ax_Mem → Prop} {v : Int} (hy : 0 ≤ Y 0 4 ∧ Y 0 4 ≤ 12) (h : P (if 0 ≤ v ∧ v < Y 0 4 then 1 else 0) Y) : kM_isPerson [.inr (.inr 0), .inl v] Y P := by
  apply ax_Ca
  intro ha
  have hv : ax_r v := ha (.inl v) (by simp)
  apply eM_isPerson
  refine ⟨by omega, ?_⟩
  apply hM_in hv ⟨by omega, by omega⟩ ⟨by omega, by omega⟩
  by_cases c : 0 ≤ v ∧ v < Y 0 4
  · rw [if_pos c] at h; rw [if_pos (by omega)]; exact ⟨Or.inr rfl, h⟩
  · rw [if_neg c] at h; rw [if_neg (by omega)]; exact ⟨Or.inl rfl, h⟩
theorem hM_lacks {Y : ax_Mem} {P : Int → ax_Mem → Prop} (h : P (if Y 0 0 = 0 then 1 else 0) Y) : kM_lacks [.inr (.inr 0)] Y P := by
  apply eM_lacks
  refine ⟨fun c => ?_, fun c => ?_⟩
  · rw [if_neg c] at h; exact h
  · rw [if_pos c] at h; exact h
-- ===== the invariant
def PG (X Y : ax_Mem) : Prop := (0 ≤ X 13 1 ∧ X 13 1 ≤ 16) ∧ Y 0 7 = X 13 1 ∧ ∀ i : Nat, (i : Int) < X 13 1 → Y 2 i = X 14 i ∧ 1 ≤ X 14 i ∧ X 14 i ≤ 126
def CL (X Y : ax_Mem) : Prop := (0 ≤ X 0 9 ∧ X 0 9 ≤ 8) ∧ Y 0 8 = X 0 9 ∧ ∀ c : Nat, (c : Int) < X 0 9 → WK X c ∧ RK X Y c
def IM (X Y : ax_Mem) : Prop := Y 0 34 ≤ Y 0 3 ∧ ((X 10 3 = 1 ∧ Y 0 33 = X 10 2 ∧ (0 ≤ X 10 2 ∧ X 10 2 ≤ X 2 7) ∧ Y 0 34 = Y 0 3 ∧ ∀ p : Nat, (p : Int) < X 10 2 → Y 18 (2 * p) = X 11 p ∧ Y 18 (2 * p + 1) = X 12 p ∧ (0 ≤ X 11 p ∧ X 11 p ≤ 3) ∧ (0 ≤ X 12 p ∧ X 12 p ≤ 999)) ∨ (X 10 3 = 0 ∧ (Y 0 33 = -1 ∨ Y 0 34 < Y 0 3)))
def INV (t : Int) (X Y : ax_Mem) : Prop := WP X ∧ RP X Y ∧ ((X 1 0 = 0 ∨ 2 ≤ X 1 0) ∧ (0 ≤ X 1 1 ∧ X 1 1 ≤ 3) ∧ (0 ≤ X 1 2 ∧ X 1 2 ≤ 6)) ∧ (Y 0 3 = X 1 3 ∧ 0 ≤ X 1 3 ∧ X 1 3 ≤ t) ∧ PG X Y ∧ CL X Y ∧ (Y 0 27 = X 0 10 ∧ 0 ≤ X 0 10 ∧ X 0 10 ≤ 20) ∧ IM X Y
def XF (X Z : ax_Mem) : Prop := ∀ k, k < 40 → Z k = X k
theorem XF.rf (X : ax_Mem) : XF X X := fun _ _ => rfl
theorem XF.tr {A B C : ax_Mem} (h : XF A B) (k : XF B C) : XF A C := fun a b => (k a b).trans (h a b)
theorem FL.x {X Z : ax_Mem} (h : FL X Z) : XF X Z := fun k hk => h k (by omega) (by omega)
theorem XF_WP {X Z : ax_Mem} (h : XF X Z) (hw : WP X) : WP Z := by
  unfold WP
  rw [h 1 (by omega), h 2 (by omega), h 3 (by omega), h 4 (by omega), h 5 (by omega), h 6 (by omega), h 7 (by omega), h 8 (by omega), h 9 (by omega)]
  exact hw
theorem XF_WK {X Z : ax_Mem} {c : Nat} (h : XF X Z) (hc : c < 8) (hk : WK X c) : WK Z c := by
  unfold WK
  rw [h (16 + 3 * c) (by omega), h (18 + 3 * c) (by omega)]
  exact hk
theorem XF_RP {X Z Y : ax_Mem} (h : XF X Z) (hr : RP X Y) : RP Z Y := by
  unfold RP
  rw [h 1 (by omega), h 2 (by omega), h 3 (by omega), h 4 (by omega), h 5 (by omega), h 6 (by omega), h 7 (by omega), h 8 (by omega), h 9 (by omega)]
  exact hr
theorem XF_RK {X Z Y : ax_Mem} {c : Nat} (h : XF X Z) (hc : c < 8) (hr : RK X Y c) : RK Z Y c := by
  unfold RK
  rw [h (16 + 3 * c) (by omega), h (17 + 3 * c) (by omega), h (18 + 3 * c) (by omega)]
  exact hr
theorem XF_od {X Z : ax_Mem} {c : Nat} {mb : Int} (h : XF X Z) (hc : c < 8) : od Z c mb = od X c mb := by
  have hah : ah Z c mb = ah X c mb := by
    funext p q
    unfold ah va
    rw [h 1 (by omega), h 3 (by omega), h 5 (by omega), h 6 (by omega), h 7 (by omega), h 8 (by omega), h (16 + 3 * c) (by omega), h (17 + 3 * c) (by omega), h (18 + 3 * c) (by omega)]
  have h1 : ∀ k, o1 Z c mb k = o1 X c mb k := by
    intro k
    induction k with
    | zero => rfl
    | succ k ih => simp only [o1]; rw [ih, hah]
  have h2 : ∀ n w k, o2 Z n w k = o2 X n w k := by
    intro n w k
    induction k with
    | zero => rfl
    | succ k ih => simp only [o2]; rw [ih, h 3 (by omega), h 4 (by omega)]
  unfold od
  rw [h 2 (by omega), h1, h2]
theorem inv_fr {t t2 : Int} {X Y Z W : ax_Mem} (h : INV t X Y) (hx : XF X Z) (hy : FS Y W) (ht : t ≤ t2) : INV t2 Z W := by
  obtain ⟨i1, i2, i3, i4, i5, i6, i7, i8⟩ := h
  obtain ⟨⟨a1, a2, a3, a4⟩, b0, b1, b2, b3, b4, b5, b6, b7, b8, b9, b10⟩ := hy
  refine ⟨XF_WP hx i1, RP_of (XF_RP hx i2) b0 b1 b2 b4 a1, ?_, ?_, ?_, ?_, ?_, ?_⟩
  · rw [hx 1 (by omega)]; exact i3
  · rw [hx 1 (by omega), b3]; exact ⟨i4.1, i4.2.1, by omega⟩
  · unfold PG
    rw [hx 13 (by omega), hx 14 (by omega), b5, a2]
    exact i5
  · unfold CL
    rw [hx 0 (by omega), b6]
    have i61 := i6.1
    exact ⟨i6.1, i6.2.1, fun c hc => ⟨XF_WK hx (by omega) (i6.2.2 c hc).1, RK_of (XF_RK hx (by omega) (i6.2.2 c hc).2) a3⟩⟩
  · rw [hx 0 (by omega), b7]; exact i7
  · unfold IM
    rw [hx 10 (by omega), hx 11 (by omega), hx 12 (by omega), hx 2 (by omega), b3, b8, b9, a4]
    exact i8
theorem VW.x {X V : ax_Mem} {mb : Int} {w : Nat → Int} (h : VW X V mb w) : XF X V := h.1
-- ===== order, bound
theorem q_order {t : Int} {X Y : ax_Mem} {a b : Int} (h : INV t X Y) : kX_order [.inr (.inr 0), .inl a, .inl b] X (fun r X2 => kM_order [.inr (.inr 0), .inl a, .inl b] Y (fun r2 Y2 => r2 = r ∧ INV (t + 1) X2 Y2)) := by
  apply ax_Ca
  intro har
  have hb : ax_r b := har (.inl b) (by simp)
  obtain ⟨i1, i2, i3, i4, i5, i6, i7, i8⟩ := id h
  have i61 := i6.1
  have y8 := i6.2.1
  have y0 := i2.1.1
  apply eX_order
  apply hX_refusalOf
  by_cases c1 : 0 ≤ a ∧ a < X 0 9
  · rw [if_pos c1]
    by_cases c2 : X 1 0 = 0
    · rw [if_pos c2]
      refine ⟨fun q => absurd q (by decide), fun _ => ?_⟩
      apply eM_order
      apply hM_isCall (by omega)
      rw [if_pos (by omega)]
      refine ⟨fun _ => ?_, fun q => absurd q (by decide)⟩
      apply hM_lacks
      rw [if_pos (by omega)]
      exact ⟨fun q => absurd q (by decide), fun _ => ⟨rfl, inv_fr h (XF.rf X) (FS.rf Y) (by omega)⟩⟩
    · rw [if_neg c2]
      refine ⟨fun _ => ?_, fun q => absurd rfl q⟩
      apply hX_outside
      have start : ∀ P : Int → ax_Mem → Prop, kM_in [.inr (.inl b), .inr (.inl 0), .inr (.inl 11)] Y (fun r5 M6 => (¬ r5 = 0 → kM_layPeople [.inr (.inr 0), .inl 3] M6 (fun _ M8 => kM_layOrder [.inr (.inr 0), .inl a] M8 (fun _ M10 => ((M10 0 17) ≤ b → P (-1) M10) ∧ (¬ (M10 0 17) ≤ b → (0 ≤ b ∧ b < 12) ∧ P (M10 7 (b.toNat)) M10)))) ∧ (r5 = 0 → P (-102) M6)) → kM_order [.inr (.inr 0), .inl a, .inl b] Y P := by
        intro P hP
        apply eM_order
        apply hM_isCall (by omega)
        rw [if_pos (by omega)]
        refine ⟨fun _ => ?_, fun q => absurd q (by decide)⟩
        apply hM_lacks
        rw [if_neg (by omega)]
        exact ⟨fun _ => hP, fun q => absurd rfl q⟩
      by_cases c3 : b < 0 ∨ 11 < b
      · rw [if_pos c3]
        refine ⟨fun q => absurd q (by decide), fun _ => ?_⟩
        apply start
        apply hM_in hb ⟨by omega, by omega⟩ ⟨by omega, by omega⟩
        rw [if_neg (by omega)]
        exact ⟨fun q => absurd rfl q, fun _ => ⟨rfl, inv_fr h (XF.rf X) (FS.rf Y) (by omega)⟩⟩
      · rw [if_neg c3]
        refine ⟨fun _ => ?_, fun q => absurd rfl q⟩
        have hac : ((a.toNat : Nat) : Int) = a := by omega
        have ik := i6.2.2 a.toNat (by omega)
        have w1 := i1.1
        rw [← hac]
        apply hX_lineUp (by omega) i1 ik.1
        intro Z hZ hF
        have fin : ∀ r : Int, r = (if (X 2 7) ≤ b then -1 else od X a.toNat 3 b.toNat) → kM_order [.inr (.inr 0), .inl a, .inl b] Y (fun r2 Y2 => r2 = r ∧ INV (t + 1) Z Y2) := by
          intro r hr
          apply start
          apply hM_in hb ⟨by omega, by omega⟩ ⟨by omega, by omega⟩
          rw [if_pos (by omega)]
          refine ⟨fun _ => ?_, fun q => absurd q (by decide)⟩
          rw [← hac]
          refine hM_prep (P := fun _ M10 => ((M10 0 17) ≤ b → (-1 : Int) = r ∧ INV (t + 1) Z M10) ∧ (¬ (M10 0 17) ≤ b → (0 ≤ b ∧ b < 12) ∧ (M10 7 (b.toNat)) = r ∧ INV (t + 1) Z M10)) (by omega) (by omega) i1 ik.1 i2 ik.2 ?_
          intro Z2 hZ2 hF2
          have hinv := inv_fr h hF.x hF2 (show t ≤ t + 1 by omega)
          have e17 := hZ2.2.2.1
          refine ⟨fun q => ⟨?_, hinv⟩, fun q => ⟨by omega, ?_, hinv⟩⟩
          · rw [hr, if_pos (by omega)]
          · rw [hr, if_neg (by omega)]
            exact hZ2.2.2.2 _ (by omega)
        have e40 := hZ.1
        rw [hac]
        refine ⟨fun q => fin _ (by rw [if_pos (by omega)]), fun q => ⟨by omega, fin _ ?_⟩⟩
        rw [if_neg (by omega)]
        exact hZ.2 _ (by omega)
  · rw [if_neg c1]
    refine ⟨fun q => absurd q (by decide), fun _ => ?_⟩
    apply eM_order
    apply hM_isCall (by omega)
    rw [if_neg (by omega)]
    exact ⟨fun q => absurd rfl q, fun _ => ⟨rfl, inv_fr h (XF.rf X) (FS.rf Y) (by omega)⟩⟩
