/-! cabin, as, about, change, blank, count, stay, image, restore -/
theorem CL_of {X Y X2 Y2 : ax_Mem} (h : CL X Y) (hx : ∀ k, 16 ≤ k → k < 40 → X2 k = X k) (h9 : X2 0 9 = X 0 9) (hy : Y2 3 = Y 3) (h8 : Y2 0 8 = Y 0 8) : CL X2 Y2 := by
  obtain ⟨a, b, c⟩ := h
  unfold CL
  rw [h9, h8]
  refine ⟨a, b, fun q hq => ?_⟩
  obtain ⟨d, e⟩ := c q hq
  unfold WK RK
  rw [hx (16 + 3 * q) (by omega) (by omega), hx (17 + 3 * q) (by omega) (by omega), hx (18 + 3 * q) (by omega) (by omega), hy]
  exact ⟨d, e⟩
theorem seats_b {a b : Int} (ha : 0 ≤ a ∧ a ≤ 12) (hb : 0 ≤ b ∧ b ≤ 3) : -2147483648 ≤ 2 * a * b ∧ 2 * a * b < 2147483648 := by
  have : b = 0 ∨ b = 1 ∨ b = 2 ∨ b = 3 := by omega
  rcases this with z | z | z | z <;> subst z <;> omega
theorem q_cabin {t : Int} {X Y : ax_Mem} {a b c : Int} (ht : t ≤ 100000) (h : INV t X Y) : kX_cabin [.inr (.inr 0), .inl a, .inl b, .inl c] X (fun r X2 => kM_cabin [.inr (.inr 0), .inl a, .inl b, .inl c] Y (fun r2 Y2 => r2 = r ∧ INV (t + 1) X2 Y2)) := by
  apply ax_Ca
  intro har
  have ha : ax_r a := har (.inl a) (by simp)
  have hb : ax_r b := har (.inl b) (by simp)
  have hc : ax_r c := har (.inl c) (by simp)
  obtain ⟨i1, i2, i3, i4, i5, i6, i7, i8⟩ := id h
  have bad : ¬ ((2 ≤ a ∧ a ≤ 12) ∧ (1 ≤ b ∧ b ≤ 3) ∧ (0 ≤ c ∧ c ≤ 6)) → kM_cabin [.inr (.inr 0), .inl a, .inl b, .inl c] Y (fun r2 Y2 => r2 = -102 ∧ INV (t + 1) X Y2) := by
    intro hn
    apply eM_cabin
    apply hM_in ha (ax_r0 (by omega)) (ax_r0 (by omega))
    by_cases c1 : 2 ≤ a ∧ a ≤ 12
    · rw [if_pos c1]
      refine ⟨fun q => absurd q (by decide), fun _ => ?_⟩
      apply hM_in hb (ax_r0 (by omega)) (ax_r0 (by omega))
      by_cases c2 : 1 ≤ b ∧ b ≤ 3
      · rw [if_pos c2]
        refine ⟨fun q => absurd q (by decide), fun _ => ?_⟩
        apply hM_in hc (ax_r0 (by omega)) (ax_r0 (by omega))
        rw [if_neg (by omega)]
        exact ⟨fun q => absurd rfl q, fun _ => ⟨rfl, inv_id h⟩⟩
      · rw [if_neg c2]
        exact ⟨fun _ => ⟨rfl, inv_id h⟩, fun q => absurd rfl q⟩
    · rw [if_neg c1]
      exact ⟨fun _ => ⟨rfl, inv_id h⟩, fun q => absurd rfl q⟩
  apply eX_cabin
  apply hX_outside
  by_cases c1 : 2 ≤ a ∧ a ≤ 12
  · rw [if_neg (by omega)]
    refine ⟨fun q => absurd rfl q, fun _ => ?_⟩
    apply hX_outside
    by_cases c2 : 1 ≤ b ∧ b ≤ 3
    · rw [if_neg (by omega)]
      refine ⟨fun q => absurd rfl q, fun _ => ?_⟩
      apply hX_outside
      by_cases c3 : 0 ≤ c ∧ c ≤ 6
      · rw [if_neg (by omega)]
        refine ⟨fun _ => ?_, fun q => absurd rfl q⟩
        apply eC_build
        refine ⟨by omega, ?_⟩
        apply eC_seats
        have e0 : ax_u (ax_u (ax_u (ax_u (ax_u (ax_u X 1 0 a) 1 1 b) 1 2 c) 1 3 (X 1 3 + 1)) 2 7 0) 10 3 0 1 0 = a := rfl
        have e1 : ax_u (ax_u (ax_u (ax_u (ax_u (ax_u X 1 0 a) 1 1 b) 1 2 c) 1 3 (X 1 3 + 1)) 2 7 0) 10 3 0 1 1 = b := rfl
        rw [e0, e1]
        have hs := seats_b (a := a) (b := b) (by omega) (by omega)
        refine ⟨by omega, hs, ?_⟩
        apply eM_cabin
        apply hM_in ha (ax_r0 (by omega)) (ax_r0 (by omega))
        rw [if_pos c1]
        refine ⟨fun q => absurd q (by decide), fun _ => ?_⟩
        apply hM_in hb (ax_r0 (by omega)) (ax_r0 (by omega))
        rw [if_pos c2]
        refine ⟨fun q => absurd q (by decide), fun _ => ?_⟩
        apply hM_in hc (ax_r0 (by omega)) (ax_r0 (by omega))
        rw [if_pos c3]
        refine ⟨fun _ => ⟨by omega, by omega, hs, rfl, ?_⟩, fun q => absurd q (by decide)⟩
        refine ⟨⟨⟨Int.le_refl _, by show (0 : Int) ≤ 12; omega⟩, ⟨by show 0 ≤ a; omega, by show a ≤ 12; omega⟩, fun p hp => absurd hp (by show ¬ (p : Int) < 0; omega)⟩, ⟨⟨rfl, rfl, rfl, rfl⟩, fun p hp => absurd hp (by show ¬ (p : Int) < 0; omega)⟩, ⟨Or.inr c1.1, ⟨by show 0 ≤ b; omega, c2.2⟩, c3⟩, ⟨?_, ?_, ?_⟩, i5, CL_of i6 (fun k h1 h2 => ?_) rfl rfl rfl, i7, ?_, Or.inr ⟨rfl, Or.inr ?_⟩⟩
        · show Y 0 3 + 1 = X 1 3 + 1; omega
        · show 0 ≤ X 1 3 + 1; omega
        · show X 1 3 + 1 ≤ t + 1; omega
        · rw [ax_u_cell (by omega), ax_u_cell (by omega), ax_u_cell (by omega), ax_u_cell (by omega), ax_u_cell (by omega), ax_u_cell (by omega)]
        · have := i8.1
          show Y 0 34 ≤ Y 0 3 + 1; omega
        · have := i8.1
          show Y 0 34 < Y 0 3 + 1; omega
      · rw [if_pos (by omega)]
        exact ⟨fun q => absurd q (by decide), fun _ => bad (by omega)⟩
    · rw [if_pos (by omega)]
      exact ⟨fun _ => bad (by omega), fun q => absurd q (by decide)⟩
  · rw [if_pos (by omega)]
    exact ⟨fun _ => bad (by omega), fun q => absurd q (by decide)⟩
/-- what about() tells -/
def te (X : ax_Mem) (p : Nat) (w : Int) : Int := if w = 0 then X 3 p else if w = 1 then X 4 p else if w = 2 then X 5 p else if w = 3 then X 6 p else if w = 4 then X 7 p else if w = 5 then X 8 p else X 9 p
theorem hE_tell {X : ax_Mem} {P : Int → ax_Mem → Prop} {p : Nat} {w : Int} (hp : p < 12) (k : P (te X p w) X) : kE_tell [.inr (.inr 2), .inl (p : Int), .inl w] X P := by
  apply eE_tell
  simp only [Int.toNat_natCast]
  unfold te at k
  refine ⟨fun c => ⟨by omega, ?_⟩, fun c => ⟨by omega, ?_⟩, fun c => ⟨by omega, ?_⟩, fun c => ⟨by omega, ?_⟩, fun c => ⟨by omega, ?_⟩, fun c => ⟨by omega, ?_⟩, fun c => ⟨by omega, ?_⟩⟩
  · rw [if_pos c] at k; exact k
  · rw [if_neg (by omega), if_pos c] at k; exact k
  · rw [if_neg (by omega), if_neg (by omega), if_pos c] at k; exact k
  · rw [if_neg (by omega), if_neg (by omega), if_neg (by omega), if_pos c] at k; exact k
  · rw [if_neg (by omega), if_neg (by omega), if_neg (by omega), if_neg (by omega), if_pos c] at k; exact k
  · rw [if_neg (by omega), if_neg (by omega), if_neg (by omega), if_neg (by omega), if_neg (by omega), if_pos c] at k; exact k
  · rw [if_neg c.1, if_neg c.2.1, if_neg c.2.2.1, if_neg c.2.2.2.1, if_neg c.2.2.2.2.1, if_neg c.2.2.2.2.2] at k; exact k
theorem te_M {X Y : ax_Mem} {p : Nat} {w : Nat} (hr : RP X Y) (hp : (p : Int) < X 2 7) (hw : w ≤ 6) : Y 1 (7 * p + w) = te X p w := by
  obtain ⟨e0, e1, e2, e3, e4, e5, e6⟩ := hr.2 p hp
  have : w = 0 ∨ w = 1 ∨ w = 2 ∨ w = 3 ∨ w = 4 ∨ w = 5 ∨ w = 6 := by omega
  rcases this with z | z | z | z | z | z | z <;> subst z
  · exact e0
  · exact e1
  · exact e2
  · exact e3
  · exact e4
  · exact e5
  · exact e6
theorem q_about {t : Int} {X Y : ax_Mem} {p a : Int} (h : INV t X Y) : kX_about [.inr (.inr 0), .inl p, .inl a] X (fun r X2 => kM_about [.inr (.inr 0), .inl p, .inl a] Y (fun r2 Y2 => r2 = r ∧ INV (t + 1) X2 Y2)) := by
  apply ax_Ca
  intro har
  have ha : ax_r a := har (.inl a) (by simp)
  obtain ⟨i1, i2, i3, i4, i5, i6, i7, i8⟩ := id h
  have y4 := i2.1.2.2.2
  have w1 := i1.1
  apply eX_about
  apply hE_has
  by_cases c0 : 0 ≤ p ∧ p < X 2 7
  · rw [if_pos c0]
    refine ⟨fun _ => ?_, fun q => absurd q (by decide)⟩
    have hpc : ((p.toNat : Nat) : Int) = p := by omega
    refine outX (P := fun r X2 => kM_about [.inr (.inr 0), .inl p, .inl a] Y (fun r2 Y2 => r2 = r ∧ INV (t + 1) X2 Y2)) (fun c3 => ?_) (fun c3 => ?_)
    · apply eM_about
      apply hM_isPerson (by omega)
      rw [if_pos (by omega)]
      refine ⟨fun _ => ?_, fun q => absurd q (by decide)⟩
      apply hM_in ha (ax_r0 (by omega)) (ax_r0 (by omega))
      rw [if_neg (by omega)]
      exact ⟨fun _ => ⟨rfl, inv_id h⟩, fun q => absurd rfl q⟩
    · rw [← hpc]
      apply hE_tell (by omega)
      rw [hpc]
      apply eM_about
      apply hM_isPerson (by omega)
      rw [if_pos (by omega)]
      refine ⟨fun _ => ?_, fun q => absurd q (by decide)⟩
      apply hM_in ha (ax_r0 (by omega)) (ax_r0 (by omega))
      rw [if_pos (by omega)]
      refine ⟨fun q => absurd q (by decide), fun _ => ⟨by omega, by omega, by omega, ?_, inv_id h⟩⟩
      have := te_M (p := p.toNat) (w := a.toNat) i2 (by omega) (by omega)
      rw [show (7 * p + a).toNat = 7 * p.toNat + a.toNat by omega, this, show ((a.toNat : Nat) : Int) = a by omega]
  · rw [if_neg c0]
    refine ⟨fun q => absurd rfl q, fun _ => ?_⟩
    apply eM_about
    apply hM_isPerson (by omega)
    rw [if_neg (by omega)]
    exact ⟨fun q => absurd rfl q, fun _ => ⟨rfl, inv_id h⟩⟩
theorem q_as {t : Int} {X Y : ax_Mem} {p a : Int} (h : INV t X Y) : kX_as [.inr (.inr 0), .inl p, .inl a] X (fun r X2 => kM_as [.inr (.inr 0), .inl p, .inl a] Y (fun r2 Y2 => r2 = r ∧ INV (t + 1) X2 Y2)) := by
  apply ax_Ca
  intro har
  have ha : ax_r a := har (.inl a) (by simp)
  obtain ⟨i1, i2, i3, i4, i5, i6, i7, i8⟩ := id h
  have y4 := i2.1.2.2.2
  have w1 := i1.1
  apply eX_as
  apply hE_has
  by_cases c0 : 0 ≤ p ∧ p < X 2 7
  · rw [if_pos c0]
    refine ⟨fun _ => ?_, fun q => absurd q (by decide)⟩
    refine outX (P := fun r X2 => kM_as [.inr (.inr 0), .inl p, .inl a] Y (fun r2 Y2 => r2 = r ∧ INV (t + 1) X2 Y2)) (fun c3 => ?_) (fun c3 => ?_)
    · apply eM_as
      apply hM_isPerson (by omega)
      rw [if_pos (by omega)]
      refine ⟨fun _ => ?_, fun q => absurd q (by decide)⟩
      apply hM_in ha (ax_r0 (by omega)) (ax_r0 (by omega))
      rw [if_neg (by omega)]
      exact ⟨fun q => absurd rfl q, fun _ => ⟨rfl, inv_id h⟩⟩
    · have e0 := (i2.2 p.toNat (by omega)).1
      have fin : ∀ r : Int, r = (if a = 0 ∨ X 3 p.toNat = a ∨ (X 3 p.toNat = 3 ∧ a = 2) then p else -1) → kM_as [.inr (.inr 0), .inl p, .inl a] Y (fun r2 Y2 => r2 = r ∧ INV (t + 1) X Y2) := by
        intro r hr
        apply eM_as
        apply hM_isPerson (by omega)
        rw [if_pos (by omega)]
        refine ⟨fun _ => ?_, fun q => absurd q (by decide)⟩
        apply hM_in ha (ax_r0 (by omega)) (ax_r0 (by omega))
        rw [if_pos (by omega), show (7 * p).toNat = 7 * p.toNat by omega, e0]
        refine ⟨fun _ => ⟨by omega, by omega, fun d => ⟨?_, inv_id h⟩, fun d => ⟨fun e => ⟨?_, inv_id h⟩, fun e => ⟨fun g => ⟨?_, inv_id h⟩, fun g => ⟨fun i => ⟨?_, inv_id h⟩, fun i => ⟨?_, inv_id h⟩⟩⟩⟩⟩, fun q => absurd q (by decide)⟩
        · rw [hr, if_pos (Or.inl d)]
        · rw [hr, if_pos (Or.inr (Or.inl e.symm))]
        · rw [hr, if_neg (by omega)]
        · rw [hr, if_neg (by omega)]
        · rw [hr, if_pos (by omega)]
      apply eE_isA
      refine ⟨fun d => ⟨fun q => absurd q (by decide), fun _ => fin _ ?_⟩, fun d => ⟨by omega, fun e => ⟨fun q => absurd q (by decide), fun _ => fin _ ?_⟩, fun e => ⟨fun g => ⟨fun _ => fin _ ?_, fun q => absurd rfl q⟩, fun g => ⟨fun i => ⟨fun _ => fin _ ?_, fun q => absurd rfl q⟩, fun i => ⟨fun q => absurd q (by decide), fun _ => fin _ ?_⟩⟩⟩⟩⟩
      · rw [if_pos (Or.inl d)]
      · rw [if_pos (Or.inr (Or.inl e))]
      · rw [if_neg (by omega)]
      · rw [if_neg (by omega)]
      · rw [if_pos (by omega)]
  · rw [if_neg c0]
    refine ⟨fun q => absurd rfl q, fun _ => ?_⟩
    apply eM_as
    apply hM_isPerson (by omega)
    rw [if_neg (by omega)]
    exact ⟨fun q => absurd rfl q, fun _ => ⟨rfl, inv_id h⟩⟩
theorem inv_change {t : Int} {X Y : ax_Mem} {p : Nat} {w v : Int} (h : INV t X Y) (hp : (p : Int) < X 2 7) (hw : w = 5 ∧ (0 ≤ v ∧ v ≤ 3) ∨ w = 6 ∧ (0 ≤ v ∧ v ≤ 999)) : INV (t + 1) (ax_u X (if w = 5 then 8 else 9) p v) (ax_u Y 1 (7 * p + w.toNat) v) := by
  obtain ⟨i1, i2, i3, i4, i5, i6, i7, i8⟩ := h
  have w1 := i1.1
  generalize hk : (if w = 5 then 8 else 9 : Nat) = k
  have hk2 : (k = 8 ∧ w = 5 ∧ (0 ≤ v ∧ v ≤ 3)) ∨ (k = 9 ∧ w = 6 ∧ (0 ≤ v ∧ v ≤ 999)) := by
    rcases hw with z | z
    · rw [if_pos z.1] at hk; omega
    · rw [if_neg (by omega)] at hk; omega
  have e : ∀ q, q ≠ 8 → q ≠ 9 → ax_u X k p v q = X q := fun q h1 h2 => ax_u_cell (by omega)
  have ey : ∀ q, q ≠ 1 → ax_u Y 1 (7 * p + w.toNat) v q = Y q := fun q h1 => ax_u_cell h1
  have e8 : ∀ q, ax_u X k p v 8 q = if k = 8 ∧ q = p then v else X 8 q := by
    intro q
    by_cases d : k = 8
    · subst d; rw [ax_uu]; by_cases g : q = p
      · rw [if_pos g, if_pos ⟨rfl, g⟩]
      · rw [if_neg g, if_neg (fun z => g z.2)]
    · rw [ax_u_cell (by omega), if_neg (fun z => d z.1)]
  have e9 : ∀ q, ax_u X k p v 9 q = if k = 9 ∧ q = p then v else X 9 q := by
    intro q
    by_cases d : k = 9
    · subst d; rw [ax_uu]; by_cases g : q = p
      · rw [if_pos g, if_pos ⟨rfl, g⟩]
      · rw [if_neg g, if_neg (fun z => g z.2)]
    · rw [ax_u_cell (by omega), if_neg (fun z => d z.1)]
  refine ⟨?_, ?_, ?_, ?_, ?_, CL_of i6 (fun q h1 h2 => e q (by omega) (by omega)) (by rw [e 0 (by omega) (by omega)]) (ey 3 (by omega)) (by rw [ey 0 (by omega)]), ?_, ?_⟩
  · unfold WP
    rw [e 1 (by omega) (by omega), e 2 (by omega) (by omega), e 3 (by omega) (by omega), e 4 (by omega) (by omega), e 5 (by omega) (by omega), e 6 (by omega) (by omega), e 7 (by omega) (by omega)]
    refine ⟨i1.1, i1.2.1, fun q hq => ?_⟩
    obtain ⟨b1, b2, b3, b4, b5, b6, b7⟩ := i1.2.2 q hq
    refine ⟨b1, b2, b3, b4, b5, ?_, ?_⟩
    · rw [e8]; split <;> omega
    · rw [e9]; split <;> omega
  · unfold RP
    rw [e 1 (by omega) (by omega), e 2 (by omega) (by omega), e 3 (by omega) (by omega), e 4 (by omega) (by omega), e 5 (by omega) (by omega), e 6 (by omega) (by omega), e 7 (by omega) (by omega), ey 0 (by omega)]
    refine ⟨i2.1, fun q hq => ?_⟩
    obtain ⟨b0, b1, b2, b3, b4, b5, b6⟩ := i2.2 q hq
    refine ⟨?_, ?_, ?_, ?_, ?_, ?_, ?_⟩
    · rw [ax_us (by omega)]; exact b0
    · rw [ax_us (by omega)]; exact b1
    · rw [ax_us (by omega)]; exact b2
    · rw [ax_us (by omega)]; exact b3
    · rw [ax_us (by omega)]; exact b4
    · rw [ax_uu, e8, b5]
      by_cases g : k = 8 ∧ q = p
      · rw [if_pos g, if_pos (by omega)]
      · rw [if_neg g, if_neg (by omega)]
    · rw [ax_uu, e9, b6]
      by_cases g : k = 9 ∧ q = p
      · rw [if_pos g, if_pos (by omega)]
      · rw [if_neg g, if_neg (by omega)]
  · rw [e 1 (by omega) (by omega)]; exact i3
  · rw [e 1 (by omega) (by omega), ey 0 (by omega)]; exact ⟨i4.1, i4.2.1, by omega⟩
  · unfold PG; rw [e 13 (by omega) (by omega), e 14 (by omega) (by omega), ey 0 (by omega), ey 2 (by omega)]; exact i5
  · rw [e 0 (by omega) (by omega), ey 0 (by omega)]; exact i7
  · unfold IM; rw [e 10 (by omega) (by omega), e 11 (by omega) (by omega), e 12 (by omega) (by omega), e 2 (by omega) (by omega), ey 0 (by omega), ey 18 (by omega)]; exact i8
theorem q_change {t : Int} {X Y : ax_Mem} {p a v : Int} (h : INV t X Y) : kX_change [.inr (.inr 0), .inl p, .inl a, .inl v] X (fun r X2 => kM_change [.inr (.inr 0), .inl p, .inl a, .inl v] Y (fun r2 Y2 => r2 = r ∧ INV (t + 1) X2 Y2)) := by
  apply ax_Ca
  intro har
  have ha : ax_r a := har (.inl a) (by simp)
  have hv : ax_r v := har (.inl v) (by simp)
  obtain ⟨i1, i2, i3, i4, i5, i6, i7, i8⟩ := id h
  have y4 := i2.1.2.2.2
  have w1 := i1.1
  apply eX_change
  apply hE_has
  by_cases c0 : 0 ≤ p ∧ p < X 2 7
  · rw [if_pos c0]
    refine ⟨fun _ => ?_, fun q => absurd q (by decide)⟩
    have hpc : ((p.toNat : Nat) : Int) = p := by omega
    have bad : ¬ (a = 5 ∧ (0 ≤ v ∧ v ≤ 3) ∨ a = 6 ∧ (0 ≤ v ∧ v ≤ 999)) → kM_change [.inr (.inr 0), .inl p, .inl a, .inl v] Y (fun r2 Y2 => r2 = -102 ∧ INV (t + 1) X Y2) := by
      intro hn
      apply eM_change
      apply hM_isPerson (by omega)
      rw [if_pos (by omega)]
      refine ⟨fun _ => ?_, fun q => absurd q (by decide)⟩
      apply hM_in ha (ax_r0 (by omega)) (ax_r0 (by omega))
      by_cases c1 : 5 ≤ a ∧ a ≤ 6
      · rw [if_pos c1]
        refine ⟨fun q => absurd q (by decide), fun _ => ⟨fun d => ?_, fun d => ?_⟩⟩
        · apply hM_in hv (ax_r0 (by omega)) (ax_r0 (by omega))
          rw [if_neg (by omega)]
          exact ⟨fun q => absurd rfl q, fun _ => ⟨rfl, inv_id h⟩⟩
        · apply hM_in hv (ax_r0 (by omega)) (ax_r0 (by omega))
          rw [if_neg (by omega)]
          exact ⟨fun q => absurd rfl q, fun _ => ⟨rfl, inv_id h⟩⟩
      · rw [if_neg c1]
        exact ⟨fun _ => ⟨rfl, inv_id h⟩, fun q => absurd rfl q⟩
    have good : (a = 5 ∧ (0 ≤ v ∧ v ≤ 3) ∨ a = 6 ∧ (0 ≤ v ∧ v ≤ 999)) → kM_change [.inr (.inr 0), .inl p, .inl a, .inl v] Y (fun r2 Y2 => r2 = te X p.toNat a ∧ INV (t + 1) (ax_u X (if a = 5 then 8 else 9) p.toNat v) Y2) := by
      intro hg
      have hte := te_M (p := p.toNat) (w := a.toNat) i2 (by omega) (by omega)
      rw [show ((a.toNat : Nat) : Int) = a by omega] at hte
      have hinv := inv_change (p := p.toNat) h (by omega) hg
      apply eM_change
      apply hM_isPerson (by omega)
      rw [if_pos (by omega)]
      refine ⟨fun _ => ?_, fun q => absurd q (by decide)⟩
      apply hM_in ha (ax_r0 (by omega)) (ax_r0 (by omega))
      rw [if_pos (by omega), show (7 * p + a).toNat = 7 * p.toNat + a.toNat by omega]
      refine ⟨fun q => absurd q (by decide), fun _ => ⟨fun d => ?_, fun d => ?_⟩⟩
      · apply hM_in hv (ax_r0 (by omega)) (ax_r0 (by omega))
        rw [if_pos (by omega), hte]
        exact ⟨fun _ => ⟨by omega, by omega, by omega, rfl, hinv⟩, fun q => absurd q (by decide)⟩
      · apply hM_in hv (ax_r0 (by omega)) (ax_r0 (by omega))
        rw [if_pos (by omega), hte]
        exact ⟨fun _ => ⟨by omega, by omega, by omega, rfl, hinv⟩, fun q => absurd q (by decide)⟩
    apply hX_outside
    by_cases c1 : 5 ≤ a ∧ a ≤ 6
    · rw [if_neg (by omega)]
      refine ⟨fun q => absurd rfl q, fun _ => ⟨fun d => ?_, fun d => ?_⟩⟩
      · apply hX_outside
        by_cases c2 : 0 ≤ v ∧ v ≤ 999
        · rw [if_neg (by omega)]
          refine ⟨fun _ => ?_, fun q => absurd rfl q⟩
          rw [← hpc]
          apply hE_tell (by omega)
          simp only [Int.toNat_natCast]
          have g := good (by omega)
          rw [if_neg d] at g
          rw [hpc]
          exact ⟨fun _ => ⟨by omega, g⟩, fun q => absurd q d⟩
        · rw [if_pos (by omega)]
          exact ⟨fun q => absurd q (by decide), fun _ => bad (by omega)⟩
      · apply hX_outside
        by_cases c2 : 0 ≤ v ∧ v ≤ 3
        · rw [if_neg (by omega)]
          refine ⟨fun _ => ?_, fun q => absurd rfl q⟩
          rw [← hpc]
          apply hE_tell (by omega)
          simp only [Int.toNat_natCast]
          have g := good (by omega)
          rw [if_pos d] at g
          rw [hpc]
          exact ⟨fun q => absurd d q, fun _ => ⟨by omega, g⟩⟩
        · rw [if_pos (by omega)]
          exact ⟨fun q => absurd q (by decide), fun _ => bad (by omega)⟩
    · rw [if_pos (by omega)]
      exact ⟨fun _ => bad (by omega), fun q => absurd q (by decide)⟩
  · rw [if_neg c0]
    refine ⟨fun q => absurd rfl q, fun _ => ?_⟩
    apply eM_change
    apply hM_isPerson (by omega)
    rw [if_neg (by omega)]
    exact ⟨fun q => absurd rfl q, fun _ => ⟨rfl, inv_id h⟩⟩
theorem q_blank {t : Int} {X Y : ax_Mem} (h : INV t X Y) : kX_blank [.inr (.inr 0)] X (fun r X2 => kM_blank [.inr (.inr 0)] Y (fun r2 Y2 => r2 = r ∧ INV (t + 1) X2 Y2)) := by
  obtain ⟨i1, i2, i3, i4, i5, i6, i7, i8⟩ := id h
  apply eX_blank
  apply eM_blank
  refine ⟨i5.2.1, i1, i2, i3, ⟨i4.1, i4.2.1, by have := i4.2.2; show X 1 3 ≤ t + 1; omega⟩, ⟨⟨Int.le_refl _, by show (0 : Int) ≤ 16; omega⟩, rfl, fun i hi => absurd hi (by show ¬ (i : Int) < 0; omega)⟩, CL_of i6 (fun k h1 h2 => ax_u_cell (by omega)) rfl rfl rfl, i7, i8⟩
-- ===== count
def coV (X : ax_Mem) (a : Int) : Int := if a = 0 then X 1 0 else if a = 1 then 2 * X 1 0 * X 1 1 else if a = 2 then X 1 2 else if a = 3 then X 2 7 else if a = 4 then X 0 9 else if a = 5 then X 13 1 else if a = 6 then X 1 3 else if a = 7 then X 0 10 else if a = 8 then sm (X 8) (X 2 7).toNat else -102
theorem bags_b {X : ax_Mem} (hw : WP X) : ∀ i : Nat, (i : Int) ≤ X 2 7 → 0 ≤ sm (X 8) i ∧ sm (X 8) i ≤ 3 * i
  | 0, _ => by simp [sm]
  | i + 1, hi => by
    have := bags_b hw i (by omega)
    have := (hw.2.2 i (by omega)).2.2.2.2.2.1
    simp only [sm]
    omega
theorem hE_bagsOfAll {X X2 : ax_Mem} {P : Int → ax_Mem → Prop} (hw : WP X) (hx : XF X X2) (k : P (sm (X 8) (X 2 7).toNat) X2) : kE_bagsOfAll [.inr (.inr 2)] X2 P := by
  have hw1 := hw.1
  apply eE_bagsOfAll
  refine up_loop (Q := fun i => jE_bagsOfAll P 4 [(0, .inr (.inr 2)), (1, .inl (sm (X 8) i)), (2, .inl (i : Int))] [] X2) (X 2 7).toNat ?_ ?_ 0 (Nat.zero_le _)
  · apply gE_bagsOfAll_4
    rw [hx 2 (by omega)]
    exact ⟨fun _ => k, fun c => by omega⟩
  · intro i hi hQ
    have := bags_b hw i (by omega)
    have := (hw.2.2 i (by omega)).2.2.2.2.2.1
    apply gE_bagsOfAll_4
    simp only [Int.toNat_natCast]
    rw [hx 2 (by omega), hx 8 (by omega), to1]
    simp only [sm] at hQ
    exact ⟨fun c => by omega, fun _ => ⟨by omega, by omega, hQ⟩⟩
theorem hM_bagsOfAll {X Y : ax_Mem} {P : Int → ax_Mem → Prop} (hw : WP X) (hr : RP X Y) (k : P (sm (X 8) (X 2 7).toNat) Y) : kM_bagsOfAll [.inr (.inr 0)] Y P := by
  have hw1 := hw.1
  apply eM_bagsOfAll
  refine up_loop (Q := fun i => jM_bagsOfAll P 4 [(0, .inr (.inr 0)), (1, .inl (sm (X 8) i)), (2, .inl (i : Int))] [] Y) (X 2 7).toNat ?_ ?_ 0 (Nat.zero_le _)
  · apply gM_bagsOfAll_4
    rw [hr.1.2.2.2]
    exact ⟨fun _ => k, fun c => by omega⟩
  · intro i hi hQ
    have := bags_b hw i (by omega)
    have := (hw.2.2 i (by omega)).2.2.2.2.2.1
    apply gM_bagsOfAll_4
    rw [hr.1.2.2.2, show (7 * (i : Int) + 5).toNat = 7 * i + 5 by omega, (hr.2 i (by omega)).2.2.2.2.2.1, to1]
    simp only [sm] at hQ
    exact ⟨fun c => by omega, fun _ => ⟨by omega, by omega, by omega, by omega, by omega, hQ⟩⟩
theorem coV_cases {X : ax_Mem} {a : Int} {Q : Int → Prop} (k : Q (coV X a)) : (a = 0 → Q (X 1 0)) ∧ (a = 1 → Q (2 * X 1 0 * X 1 1)) ∧ (a = 2 → Q (X 1 2)) ∧ (a = 3 → Q (X 2 7)) ∧ (a = 4 → Q (X 0 9)) ∧ (a = 5 → Q (X 13 1)) ∧ (a = 6 → Q (X 1 3)) ∧ (a = 7 → Q (X 0 10)) ∧ (a = 8 → Q (sm (X 8) (X 2 7).toNat)) ∧ ((¬ a = 0 ∧ ¬ a = 1 ∧ ¬ a = 2 ∧ ¬ a = 3 ∧ ¬ a = 4 ∧ ¬ a = 5 ∧ ¬ a = 6 ∧ ¬ a = 7 ∧ ¬ a = 8) → Q (-102)) := by
  unfold coV at k
  refine ⟨fun c => ?_, fun c => ?_, fun c => ?_, fun c => ?_, fun c => ?_, fun c => ?_, fun c => ?_, fun c => ?_, fun c => ?_, fun c => ?_⟩
  · rw [if_pos c] at k; exact k
  · rw [if_neg (by omega), if_pos c] at k; exact k
  · rw [if_neg (by omega), if_neg (by omega), if_pos c] at k; exact k
  · rw [if_neg (by omega), if_neg (by omega), if_neg (by omega), if_pos c] at k; exact k
  · rw [if_neg (by omega), if_neg (by omega), if_neg (by omega), if_neg (by omega), if_pos c] at k; exact k
  · rw [if_neg (by omega), if_neg (by omega), if_neg (by omega), if_neg (by omega), if_neg (by omega), if_pos c] at k; exact k
  · rw [if_neg (by omega), if_neg (by omega), if_neg (by omega), if_neg (by omega), if_neg (by omega), if_neg (by omega), if_pos c] at k; exact k
  · rw [if_neg (by omega), if_neg (by omega), if_neg (by omega), if_neg (by omega), if_neg (by omega), if_neg (by omega), if_neg (by omega), if_pos c] at k; exact k
  · rw [if_neg (by omega), if_neg (by omega), if_neg (by omega), if_neg (by omega), if_neg (by omega), if_neg (by omega), if_neg (by omega), if_neg (by omega), if_pos c] at k; exact k
  · rw [if_neg (by omega), if_neg (by omega), if_neg (by omega), if_neg (by omega), if_neg (by omega), if_neg (by omega), if_neg (by omega), if_neg (by omega), if_neg (by omega)] at k; exact k
theorem hX_count {X X2 : ax_Mem} {P : Int → ax_Mem → Prop} {a : Int} (hw : WP X) (hwd : 0 ≤ X 1 1 ∧ X 1 1 ≤ 3) (hx : XF X X2) (k : P (coV X a) X2) : kX_count [.inr (.inr 0), .inl a] X2 P := by
  obtain ⟨k0, k1, k2, k3, k4, k5, k6, k7, k8, k9⟩ := coV_cases (Q := fun r => P r X2) k
  have hw2 := hw.2.1
  apply eX_count
  rw [hx 0 (by omega), hx 1 (by omega), hx 2 (by omega), hx 13 (by omega)]
  refine ⟨k0, fun c => ?_, k2, k3, k4, k5, k6, k7, fun c => hE_bagsOfAll hw hx (k8 c), k9⟩
  apply eC_seats
  rw [hx 1 (by omega)]
  exact ⟨by omega, seats_b hw2 hwd, k1 c⟩
theorem hM_countOf {t : Int} {X Y : ax_Mem} {P : Int → ax_Mem → Prop} {a : Int} (h : INV t X Y) (k : P (coV X a) Y) : kM_countOf [.inr (.inr 0), .inl a] Y P := by
  obtain ⟨k0, k1, k2, k3, k4, k5, k6, k7, k8, k9⟩ := coV_cases (Q := fun r => P r Y) k
  obtain ⟨i1, i2, i3, i4, i5, i6, i7, i8⟩ := id h
  have hw2 := i1.2.1
  apply eM_countOf
  rw [i2.1.1, i2.1.2.1, i2.1.2.2.1, i2.1.2.2.2, i6.2.1, i5.2.1, i4.1, i7.1]
  exact ⟨k0, fun c => ⟨by omega, seats_b hw2 i3.2.1, k1 c⟩, k2, k3, k4, k5, k6, k7, fun c => hM_bagsOfAll i1 i2 (k8 c), k9⟩
theorem q_count {t : Int} {X Y : ax_Mem} {a : Int} (h : INV t X Y) : kX_count [.inr (.inr 0), .inl a] X (fun r X2 => kM_count [.inr (.inr 0), .inl a] Y (fun r2 Y2 => r2 = r ∧ INV (t + 1) X2 Y2)) := by
  apply hX_count h.1 h.2.2.1.2.1 (XF.rf X)
  apply eM_count
  exact hM_countOf h ⟨rfl, inv_id h⟩
