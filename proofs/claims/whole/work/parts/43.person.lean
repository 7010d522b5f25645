/-! stay, image, restore, person -/
def stc (X : ax_Mem) (pr : Int) : Nat → Int
  | 0 => 0
  | i + 1 => if pr < X 9 i then stc X pr i else stc X pr i + 1
theorem stc_b (X : ax_Mem) (pr : Int) : ∀ i : Nat, 0 ≤ stc X pr i ∧ stc X pr i ≤ i
  | 0 => by simp [stc]
  | i + 1 => by have := stc_b X pr i; unfold stc; split <;> omega
theorem stc_all {X : ax_Mem} {pr : Int} (hw : WP X) (hp : 999 ≤ pr) : ∀ i : Nat, (i : Int) ≤ X 2 7 → stc X pr i = i
  | 0, _ => rfl
  | i + 1, hi => by
    have := (hw.2.2 i (by omega)).2.2.2.2.2.2
    unfold stc
    rw [if_neg (by omega), stc_all hw hp i (by omega)]
    omega
theorem hE_thatStayFor {X : ax_Mem} {P : Int → ax_Mem → Prop} {pr : Int} (hw : WP X) (k : P (stc X pr (X 2 7).toNat) X) : kE_thatStayFor [.inr (.inr 2), .inl pr] X P := by
  have hw1 := hw.1
  apply eE_thatStayFor
  refine up_loop (Q := fun i => jE_thatStayFor P 4 [(0, .inr (.inr 2)), (1, .inl pr), (2, .inl (stc X pr i)), (3, .inl (i : Int))] [] X) (X 2 7).toNat ?_ ?_ 0 (Nat.zero_le _)
  · apply gE_thatStayFor_4
    exact ⟨fun _ => k, fun c => by omega⟩
  · intro i hi hQ
    have := stc_b X pr i
    apply gE_thatStayFor_4
    simp only [Int.toNat_natCast]
    rw [to1]
    unfold stc at hQ
    refine ⟨fun c => by omega, fun _ => ⟨by omega, fun c => ?_, fun c => ⟨by omega, ?_⟩⟩⟩
    · rw [if_pos c] at hQ; exact hQ
    · rw [if_neg c] at hQ; exact hQ
def spr (X : ax_Mem) (n st : Int) : Nat → Int → Int
  | 0, p => p
  | f + 1, p => if n ≤ stc X p (X 2 7).toNat then p else spr X n st f (p + st)
theorem mul_b {a n : Int} (ha : 0 ≤ a ∧ a ≤ 1200) (hn : 1 ≤ n ∧ n ≤ 12) : -2147483648 ≤ a * n ∧ a * n < 2147483648 := by
  have h1 := Int.mul_nonneg ha.1 (show 0 ≤ n by omega)
  have h2 : a * n ≤ 1200 * 12 := Int.mul_le_mul ha.2 hn.2 (by omega) (by omega)
  omega
theorem hX_stayL {X : ax_Mem} {P : Int → ax_Mem → Prop} {n st w : Int} (hw : WP X) (hn : 1 ≤ n ∧ n ≤ 12) (hnp : n ≤ X 2 7) (hst : 1 ≤ st ∧ st ≤ 99) : ∀ (f : Nat) (p : Int), 999 ≤ p + f → 0 ≤ p ∧ p ≤ 1100 → P (if w = 0 then spr X n st f p else spr X n st f p * n) X → jX_stay P 48 [(0, .inr (.inr 0)), (1, .inl n), (2, .inl st), (3, .inl w), (4, .inl p)] [] X
  | 0, p, hp, hp0, k => by
    apply gX_stay_48
    unfold spr at k
    refine ⟨fun _ => ⟨fun c => ⟨mul_b (by omega) hn, ?_⟩, fun c => ?_⟩, fun q => by omega⟩
    · rw [if_neg c] at k; exact k
    · rw [if_pos c] at k; exact k
  | f + 1, p, hp, hp0, k => by
    have hw1 := hw.1
    apply gX_stay_48
    unfold spr at k
    refine ⟨fun q => ⟨fun c => ⟨mul_b (by omega) hn, ?_⟩, fun c => ?_⟩, fun q => ?_⟩
    · rw [if_neg c, if_pos (by rw [stc_all hw q _ (by omega)]; omega)] at k; exact k
    · rw [if_pos c, if_pos (by rw [stc_all hw q _ (by omega)]; omega)] at k; exact k
    · apply hE_thatStayFor hw
      refine ⟨fun e => ⟨fun c => ⟨mul_b (by omega) hn, ?_⟩, fun c => ?_⟩, fun e => ⟨by omega, ?_⟩⟩
      · rw [if_neg c, if_pos e] at k; exact k
      · rw [if_pos c, if_pos e] at k; exact k
      · rw [if_neg e] at k
        exact hX_stayL hw hn hnp hst f (p + st) (by omega) (by omega) k
theorem hM_stayL {X Y : ax_Mem} {P : Int → ax_Mem → Prop} {n st w : Int} (hw : WP X) (hr : RP X Y) (hn : 1 ≤ n ∧ n ≤ 12) (hnp : n ≤ X 2 7) (hst : 1 ≤ st ∧ st ≤ 99) : ∀ (f : Nat) (p m : Int), 999 ≤ p + f → 0 ≤ p ∧ (p ≤ 998 + st) → m < n → P (if w = 0 then spr X n st f p else spr X n st f p * n) Y → jM_stay P 53 [(0, .inr (.inr 0)), (1, .inl n), (2, .inl st), (3, .inl w), (4, .inl p), (5, .inl m)] [] Y := by
  have hw1 := hw.1
  have cnt : ∀ p m : Int, m < n → 0 ≤ p ∧ p ≤ 1100 → (n ≤ stc X p (X 2 7).toNat → P (if w = 0 then p else p * n) Y) → (¬ n ≤ stc X p (X 2 7).toNat → ∀ m, m < n → jM_stay P 53 [(0, .inr (.inr 0)), (1, .inl n), (2, .inl st), (3, .inl w), (4, .inl (p + st)), (5, .inl m)] [] Y) → jM_stay P 53 [(0, .inr (.inr 0)), (1, .inl n), (2, .inl st), (3, .inl w), (4, .inl p), (5, .inl m)] [] Y := by
    intro p m hm hp k1 k2
    apply gM_stay_53
    refine ⟨fun q => by omega, fun _ => ?_⟩
    refine up_loop (Q := fun i => jM_stay P 65 [(0, .inr (.inr 0)), (1, .inl n), (2, .inl st), (3, .inl w), (4, .inl p), (5, .inl (stc X p i)), (6, .inl (i : Int))] [] Y) (X 2 7).toNat ?_ ?_ 0 (Nat.zero_le _)
    · have hb := stc_b X p (X 2 7).toNat
      apply gM_stay_65
      rw [hr.1.2.2.2]
      refine ⟨fun _ => ⟨fun e => ⟨by omega, ?_⟩, fun e => ⟨by omega, k2 e _ (by omega)⟩⟩, fun q => by omega⟩
      have kk := k1 e
      apply gM_stay_53
      rw [Int.add_zero]
      refine ⟨fun _ => ⟨fun c => ⟨mul_b (by omega) hn, ?_⟩, fun c => ?_⟩, fun q => absurd e q⟩
      · rw [if_neg c] at kk; exact kk
      · rw [if_pos c] at kk; exact kk
    · intro i hi hQ
      have hb := stc_b X p i
      apply gM_stay_65
      rw [hr.1.2.2.2, show (7 * (i : Int) + 6).toNat = 7 * i + 6 by omega, (hr.2 i (by omega)).2.2.2.2.2.2, to1, Int.add_zero]
      unfold stc at hQ
      refine ⟨fun q => by omega, fun _ => ⟨by omega, by omega, by omega, fun c => ⟨by omega, by omega, ?_⟩, fun c => ⟨by omega, by omega, ?_⟩⟩⟩
      · rw [if_pos c] at hQ; rw [Int.add_zero]; exact hQ
      · rw [if_neg c] at hQ; exact hQ
  intro f
  induction f with
  | zero =>
    intro p m hp hp0 hm k
    refine cnt p m hm (by omega) (fun _ => k) (fun e => absurd (show n ≤ stc X p (X 2 7).toNat by rw [stc_all hw (by omega) _ (by omega)]; omega) e)
  | succ f ih =>
    intro p m hp hp0 hm k
    unfold spr at k
    refine cnt p m hm (by omega) (fun e => ?_) (fun e m2 hm2 => ?_)
    · rw [if_pos e] at k; exact k
    · rw [if_neg e] at k
      by_cases c : 999 ≤ p
      · exact absurd (show n ≤ stc X p (X 2 7).toNat by rw [stc_all hw c _ (by omega)]; omega) e
      · exact ih (p + st) m2 (by omega) (by omega) hm2 k
theorem q_stay {t : Int} {X Y : ax_Mem} {a b c : Int} (h : INV t X Y) : kX_stay [.inr (.inr 0), .inl a, .inl b, .inl c] X (fun r X2 => kM_stay [.inr (.inr 0), .inl a, .inl b, .inl c] Y (fun r2 Y2 => r2 = r ∧ INV (t + 1) X2 Y2)) := by
  apply ax_Ca
  intro har
  have ha : ax_r a := har (.inl a) (by simp)
  have hb : ax_r b := har (.inl b) (by simp)
  have hc : ax_r c := har (.inl c) (by simp)
  obtain ⟨i1, i2, i3, i4, i5, i6, i7, i8⟩ := id h
  have bad : ¬ ((1 ≤ a ∧ a ≤ 12) ∧ (1 ≤ b ∧ b ≤ 99) ∧ (0 ≤ c ∧ c ≤ 1)) → kM_stay [.inr (.inr 0), .inl a, .inl b, .inl c] Y (fun r2 Y2 => r2 = -102 ∧ INV (t + 1) X Y2) := by
    intro hn
    apply eM_stay
    apply hM_in ha (ax_r0 (by omega)) (ax_r0 (by omega))
    by_cases c1 : 1 ≤ a ∧ a ≤ 12
    · rw [if_pos c1]
      refine ⟨fun q => absurd q (by decide), fun _ => ?_⟩
      apply hM_in hb (ax_r0 (by omega)) (ax_r0 (by omega))
      by_cases c2 : 1 ≤ b ∧ b ≤ 99
      · rw [if_pos c2]
        refine ⟨fun q => absurd q (by decide), fun _ => ?_⟩
        apply hM_in hc (ax_r0 (by omega)) (ax_r0 (by omega))
        rw [if_neg (by omega)]
        exact ⟨fun q => absurd rfl q, fun _ => ⟨rfl, inv_id h⟩⟩
      · rw [if_neg c2]
        exact ⟨fun _ => ⟨rfl, inv_id h⟩, fun q => absurd rfl q⟩
    · rw [if_neg c1]
      exact ⟨fun _ => ⟨rfl, inv_id h⟩, fun q => absurd rfl q⟩
  apply eX_stay
  apply hX_outside
  by_cases c1 : 1 ≤ a ∧ a ≤ 12
  · rw [if_neg (by omega)]
    refine ⟨fun q => absurd rfl q, fun _ => ?_⟩
    apply hX_outside
    by_cases c2 : 1 ≤ b ∧ b ≤ 99
    · rw [if_neg (by omega)]
      refine ⟨fun q => absurd rfl q, fun _ => ?_⟩
      apply hX_outside
      by_cases c3 : 0 ≤ c ∧ c ≤ 1
      · rw [if_neg (by omega)]
        have st : ∀ P : Int → ax_Mem → Prop, ((a ≤ (Y 0 4) → jM_stay P 53 [(0, .inr (.inr 0)), (1, .inl a), (2, .inl b), (3, .inl c), (4, .inl 0), (5, .inl 0)] [] Y) ∧ (¬ a ≤ (Y 0 4) → P (-1) Y)) → kM_stay [.inr (.inr 0), .inl a, .inl b, .inl c] Y P := by
          intro P hP
          apply eM_stay
          apply hM_in ha (ax_r0 (by omega)) (ax_r0 (by omega))
          rw [if_pos c1]
          refine ⟨fun q => absurd q (by decide), fun _ => ?_⟩
          apply hM_in hb (ax_r0 (by omega)) (ax_r0 (by omega))
          rw [if_pos c2]
          refine ⟨fun q => absurd q (by decide), fun _ => ?_⟩
          apply hM_in hc (ax_r0 (by omega)) (ax_r0 (by omega))
          rw [if_pos c3]
          exact ⟨fun _ => hP, fun q => absurd q (by decide)⟩
        have y4 := i2.1.2.2.2
        refine ⟨fun _ => ⟨fun d => ?_, fun d => ?_⟩, fun q => absurd rfl q⟩
        · refine hX_stayL i1 c1 d c2 999 0 (by omega) (by omega) ?_
          apply st
          refine ⟨fun _ => ?_, fun q => by omega⟩
          exact hM_stayL i1 i2 c1 d c2 999 0 0 (by omega) (by omega) (by omega) ⟨rfl, inv_id h⟩
        · apply st
          exact ⟨fun q => by omega, fun _ => ⟨rfl, inv_id h⟩⟩
      · rw [if_pos (by omega)]
        exact ⟨fun q => absurd q (by decide), fun _ => bad (by omega)⟩
    · rw [if_pos (by omega)]
      exact ⟨fun _ => bad (by omega), fun q => absurd q (by decide)⟩
  · rw [if_pos (by omega)]
    exact ⟨fun _ => bad (by omega), fun q => absurd q (by decide)⟩
-- ===== image, restore
theorem q_image {t : Int} {X Y : ax_Mem} (h : INV t X Y) : kX_image [.inr (.inr 0)] X (fun r X2 => kM_image [.inr (.inr 0)] Y (fun r2 Y2 => r2 = r ∧ INV (t + 1) X2 Y2)) := by
  obtain ⟨i1, i2, i3, i4, i5, i6, i7, i8⟩ := id h
  have y0 := i2.1.1
  have w1 := i1.1
  apply eX_image
  apply hC_isMissing
  by_cases c0 : X 1 0 = 0
  · rw [if_pos c0]
    refine ⟨fun q => absurd q (by decide), fun _ => ?_⟩
    apply eM_image
    apply hM_lacks
    rw [if_pos (by omega)]
    exact ⟨fun q => absurd q (by decide), fun _ => ⟨rfl, inv_id h⟩⟩
  · rw [if_neg c0]
    refine ⟨fun _ => ?_, fun q => absurd rfl q⟩
    apply eI_keep
    generalize hX2 : ax_cp (ax_cp (ax_u (ax_u X 10 3 1) 10 2 (X 2 7)) 8 11 12) 9 12 12 = X2
    have e : ∀ q, q ≠ 10 → q ≠ 11 → q ≠ 12 → X2 q = X q := by
      intro q h1 h2 h3
      rw [← hX2]
      unfold ax_cp
      rw [ax_sne h3, ax_sne h2, ax_u_cell h1, ax_u_cell h1]
    have e3 : X2 10 3 = 1 := by rw [← hX2]; rfl
    have e2 : X2 10 2 = X 2 7 := by rw [← hX2]; rfl
    have e11 : ∀ p, p < 12 → X2 11 p = X 8 p := by
      intro p hp
      rw [← hX2]
      unfold ax_cp
      rw [ax_sne (by omega), ax_sat, if_pos hp]
      rfl
    have e12 : ∀ p, p < 12 → X2 12 p = X 9 p := by
      intro p hp
      rw [← hX2]
      unfold ax_cp
      rw [ax_sat, if_pos hp]
      rfl
    apply eM_image
    apply hM_lacks
    rw [if_neg (by omega)]
    refine ⟨fun _ => ?_, fun q => absurd rfl q⟩
    refine up_loop (Q := fun i => ∀ Z : ax_Mem, (∀ q, q ≠ 18 → Z q = Y q) → (∀ j : Nat, j < i → Z 18 (2 * j) = X 8 j ∧ Z 18 (2 * j + 1) = X 9 j) → jM_image (fun r2 Y2 => r2 = X2 2 7 ∧ INV (t + 1) X2 Y2) 12 [(0, .inr (.inr 0)), (1, .inl (i : Int))] [] Z) (X 2 7).toNat ?_ ?_ 0 (Nat.zero_le _) Y (fun _ _ => rfl) (fun j hj => by omega)
    · intro Z hZ hq
      apply gM_image_12
      rw [hZ 0 (by omega), i2.1.2.2.2]
      refine ⟨fun _ => ⟨by rw [e 2 (by omega) (by omega) (by omega)], ?_⟩, fun q => by omega⟩
      have z : ∀ q, q ≠ 0 → q ≠ 18 → ax_u (ax_u Z 0 33 (X 2 7)) 0 34 (Y 0 3) q = Y q := fun q h1 h2 => by rw [ax_u_cell h1, ax_u_cell h1]; exact hZ q h2
      have z0 : ∀ f, f ≠ 33 → f ≠ 34 → ax_u (ax_u Z 0 33 (X 2 7)) 0 34 (Y 0 3) 0 f = Y 0 f := fun f h1 h2 => by rw [ax_us h2, ax_us h1, hZ 0 (by omega)]
      have z33 : ax_u (ax_u Z 0 33 (X 2 7)) 0 34 (Y 0 3) 0 33 = X 2 7 := rfl
      have z34 : ax_u (ax_u Z 0 33 (X 2 7)) 0 34 (Y 0 3) 0 34 = Y 0 3 := rfl
      have z18 : ax_u (ax_u Z 0 33 (X 2 7)) 0 34 (Y 0 3) 18 = Z 18 := rfl
      generalize ax_u (ax_u Z 0 33 (X 2 7)) 0 34 (Y 0 3) = W at z z0 z33 z34 z18
      refine ⟨?_, ?_, ?_, ?_, ?_, CL_of i6 (fun q h1 h2 => e q (by omega) (by omega) (by omega)) (by rw [e 0 (by omega) (by omega) (by omega)]) (z 3 (by omega) (by omega)) (z0 8 (by omega) (by omega)), ?_, ?_, Or.inl ⟨e3, ?_, ?_, ?_, fun p hp => ?_⟩⟩
      · unfold WP
        rw [e 1 (by omega) (by omega) (by omega), e 2 (by omega) (by omega) (by omega), e 3 (by omega) (by omega) (by omega), e 4 (by omega) (by omega) (by omega), e 5 (by omega) (by omega) (by omega), e 6 (by omega) (by omega) (by omega), e 7 (by omega) (by omega) (by omega), e 8 (by omega) (by omega) (by omega), e 9 (by omega) (by omega) (by omega)]
        exact i1
      · unfold RP
        rw [e 1 (by omega) (by omega) (by omega), e 2 (by omega) (by omega) (by omega), e 3 (by omega) (by omega) (by omega), e 4 (by omega) (by omega) (by omega), e 5 (by omega) (by omega) (by omega), e 6 (by omega) (by omega) (by omega), e 7 (by omega) (by omega) (by omega), e 8 (by omega) (by omega) (by omega), e 9 (by omega) (by omega) (by omega), z0 0 (by omega) (by omega), z0 1 (by omega) (by omega), z0 2 (by omega) (by omega), z0 4 (by omega) (by omega), z 1 (by omega) (by omega)]
        exact i2
      · rw [e 1 (by omega) (by omega) (by omega)]; exact i3
      · rw [e 1 (by omega) (by omega) (by omega), z0 3 (by omega) (by omega)]; exact ⟨i4.1, i4.2.1, by omega⟩
      · unfold PG; rw [e 13 (by omega) (by omega) (by omega), e 14 (by omega) (by omega) (by omega), z0 7 (by omega) (by omega), z 2 (by omega) (by omega)]; exact i5
      · rw [e 0 (by omega) (by omega) (by omega), z0 27 (by omega) (by omega)]; exact i7
      · rw [z34, z0 3 (by omega) (by omega)]; exact Int.le_refl _
      · rw [z33, e2]
      · rw [e2, e 2 (by omega) (by omega) (by omega)]; omega
      · rw [z34, z0 3 (by omega) (by omega)]
      · rw [e2] at hp
        have := hq p (by omega)
        obtain ⟨b1, b2, b3, b4, b5, b6, b7⟩ := i1.2.2 p hp
        rw [z18, e11 p (by omega), e12 p (by omega)]
        exact ⟨this.1, this.2, b6, b7⟩
    · intro i hi hQ Z hZ hq
      obtain ⟨b0, b1, b2, b3, b4, b5, b6⟩ := i2.2 i (by omega)
      apply gM_image_12
      rw [hZ 0 (by omega), i2.1.2.2.2, show (7 * (i : Int) + 5).toNat = 7 * i + 5 by omega, show (7 * (i : Int) + 6).toNat = 7 * i + 6 by omega, show (2 * (i : Int)).toNat = 2 * i by omega, show (2 * (i : Int) + 1).toNat = 2 * i + 1 by omega, hZ 1 (by omega), b5, b6, to1]
      refine ⟨fun q => by omega, fun _ => ⟨by omega, by omega, by omega, by omega, by omega, by omega, by omega, by omega, by omega, ?_⟩⟩
      refine hQ _ (fun q hq => by rw [ax_u_cell hq, ax_u_cell hq]; exact hZ q hq) (fun j hj => ?_)
      rw [ax_uu, ax_uu, ax_uu, ax_uu]
      by_cases d : j = i
      · rw [if_neg (by omega), if_pos (by omega), if_pos (by omega), d]; exact ⟨rfl, rfl⟩
      · rw [if_neg (by omega), if_neg (by omega), if_neg (by omega), if_neg (by omega)]; exact hq j (by omega)
theorem q_restore {t : Int} {X Y : ax_Mem} (h : INV t X Y) : kX_restore [.inr (.inr 0)] X (fun r X2 => kM_restore [.inr (.inr 0)] Y (fun r2 Y2 => r2 = r ∧ INV (t + 1) X2 Y2)) := by
  obtain ⟨i1, i2, i3, i4, i5, i6, i7, i8⟩ := id h
  have w1 := i1.1
  apply eX_restore
  rcases i8.2 with ⟨m1, m2, m3, m4, m5⟩ | ⟨m1, m2⟩
  · refine ⟨fun _ => ?_, fun q => by omega⟩
    apply eI_giveBack
    generalize hX2 : ax_cp (ax_cp (ax_u X 2 7 (X 10 2)) 11 8 12) 12 9 12 = X2
    have e : ∀ q, q ≠ 2 → q ≠ 8 → q ≠ 9 → X2 q = X q := by
      intro q h1 h2 h3
      rw [← hX2]
      unfold ax_cp
      rw [ax_sne h3, ax_sne h2, ax_u_cell h1]
    have e2 : X2 2 7 = X 10 2 := by rw [← hX2]; rfl
    have e8 : ∀ p, p < 12 → X2 8 p = X 11 p := by
      intro p hp
      rw [← hX2]
      unfold ax_cp
      rw [ax_sne (by omega), ax_sat, if_pos hp]
      rfl
    have e9 : ∀ p, p < 12 → X2 9 p = X 12 p := by
      intro p hp
      rw [← hX2]
      unfold ax_cp
      rw [ax_sat, if_pos hp]
      rfl
    apply eM_restore
    refine ⟨fun q => by omega, fun _ => ⟨fun _ => ?_, fun q => absurd m4 q⟩⟩
    rw [m2]
    refine up_loop (Q := fun i => ∀ Z : ax_Mem, (∀ q, q ≠ 0 → q ≠ 1 → Z q = Y q) → (∀ f, f ≠ 4 → Z 0 f = Y 0 f) → Z 0 4 = X 10 2 → (∀ p : Nat, (p : Int) < X 10 2 → Z 1 (7 * p) = X 3 p ∧ Z 1 (7 * p + 1) = X 4 p ∧ Z 1 (7 * p + 2) = X 5 p ∧ Z 1 (7 * p + 3) = X 6 p ∧ Z 1 (7 * p + 4) = X 7 p) → (∀ p, p < i → Z 1 (7 * p + 5) = X 11 p ∧ Z 1 (7 * p + 6) = X 12 p) → jM_restore (fun r2 Y2 => r2 = X2 2 7 ∧ INV (t + 1) X2 Y2) 32 [(0, .inr (.inr 0)), (1, .inl (i : Int))] [] Z) (X 10 2).toNat ?_ ?_ 0 (Nat.zero_le _) _ (fun q h1 _ => ax_u_cell h1) (fun f hf => ax_us hf) rfl (fun p hp => ?_) (fun j hj => by omega)
    · intro Z hZ hZ0 hZ4 hZa hZb
      apply gM_restore_32
      rw [hZ4]
      refine ⟨fun _ => ⟨e2.symm, ?_⟩, fun q => by omega⟩
      refine ⟨?_, ?_, ?_, ?_, ?_, CL_of i6 (fun q h1 h2 => e q (by omega) (by omega) (by omega)) (by rw [e 0 (by omega) (by omega) (by omega)]) (hZ 3 (by omega) (by omega)) (hZ0 8 (by omega)), ?_, ?_, Or.inl ?_⟩
      · unfold WP
        rw [e 1 (by omega) (by omega) (by omega), e2, e 3 (by omega) (by omega) (by omega), e 4 (by omega) (by omega) (by omega), e 5 (by omega) (by omega) (by omega), e 6 (by omega) (by omega) (by omega), e 7 (by omega) (by omega) (by omega)]
        refine ⟨by omega, i1.2.1, fun p hp => ?_⟩
        obtain ⟨b1, b2, b3, b4, b5, b6, b7⟩ := i1.2.2 p (by omega)
        obtain ⟨n1, n2, n3, n4⟩ := m5 p hp
        rw [e8 p (by omega), e9 p (by omega)]
        exact ⟨b1, b2, b3, b4, b5, n3, n4⟩
      · unfold RP
        rw [e 1 (by omega) (by omega) (by omega), e2, e 3 (by omega) (by omega) (by omega), e 4 (by omega) (by omega) (by omega), e 5 (by omega) (by omega) (by omega), e 6 (by omega) (by omega) (by omega), e 7 (by omega) (by omega) (by omega), hZ0 0 (by omega), hZ0 1 (by omega), hZ0 2 (by omega), hZ4]
        refine ⟨⟨i2.1.1, i2.1.2.1, i2.1.2.2.1, rfl⟩, fun p hp => ?_⟩
        obtain ⟨n1, n2, n3, n4, n5⟩ := hZa p hp
        obtain ⟨n6, n7⟩ := hZb p (by omega)
        rw [e8 p (by omega), e9 p (by omega)]
        exact ⟨n1, n2, n3, n4, n5, n6, n7⟩
      · rw [e 1 (by omega) (by omega) (by omega)]; exact i3
      · rw [e 1 (by omega) (by omega) (by omega), hZ0 3 (by omega)]; exact ⟨i4.1, i4.2.1, by omega⟩
      · unfold PG; rw [e 13 (by omega) (by omega) (by omega), e 14 (by omega) (by omega) (by omega), hZ0 7 (by omega), hZ 2 (by omega) (by omega)]; exact i5
      · rw [e 0 (by omega) (by omega) (by omega), hZ0 27 (by omega)]; exact i7
      · rw [hZ0 34 (by omega), hZ0 3 (by omega)]; exact i8.1
      · rw [e 10 (by omega) (by omega) (by omega), e 11 (by omega) (by omega) (by omega), e 12 (by omega) (by omega) (by omega), e2, hZ0 33 (by omega), hZ0 34 (by omega), hZ0 3 (by omega), hZ 18 (by omega) (by omega)]
        exact ⟨m1, m2, ⟨m3.1, Int.le_refl _⟩, m4, m5⟩
    · intro i hi hQ Z hZ hZ0 hZ4 hZa hZb
      obtain ⟨n1, n2, n3, n4⟩ := m5 i (by omega)
      apply gM_restore_32
      rw [hZ4, show (7 * (i : Int) + 5).toNat = 7 * i + 5 by omega, show (7 * (i : Int) + 6).toNat = 7 * i + 6 by omega, show (2 * (i : Int)).toNat = 2 * i by omega, show (2 * (i : Int) + 1).toNat = 2 * i + 1 by omega, hZ 18 (by omega) (by omega), n1, n2, to1]
      refine ⟨fun q => by omega, fun _ => ⟨by omega, by omega, by omega, by omega, by omega, by omega, by omega, by omega, by omega, ?_⟩⟩
      refine hQ _ (fun q h0 h1 => by rw [ax_u_cell h1, ax_u_cell h1]; exact hZ q h0 h1) (fun f hf => by rw [ax_u_cell (by omega), ax_u_cell (by omega)]; exact hZ0 f hf) (by rw [ax_u_cell (by omega), ax_u_cell (by omega)]; exact hZ4) (fun p hp => ?_) (fun p hp => ?_)
      · rw [ax_us (by omega), ax_us (by omega), ax_us (by omega), ax_us (by omega), ax_us (by omega), ax_us (by omega), ax_us (by omega), ax_us (by omega), ax_us (by omega), ax_us (by omega)]
        exact hZa p hp
      · rw [ax_uu, ax_uu, ax_uu, ax_uu]
        by_cases d : p = i
        · rw [if_neg (by omega), if_pos (by omega), if_pos (by omega), d]; exact ⟨rfl, rfl⟩
        · rw [if_neg (by omega), if_neg (by omega), if_neg (by omega), if_neg (by omega)]; exact hZb p (by omega)
    · obtain ⟨b0, b1, b2, b3, b4, b5, b6⟩ := i2.2 p (by omega)
      exact ⟨b0, b1, b2, b3, b4⟩
  · refine ⟨fun q => absurd m1 q, fun _ => ?_⟩
    apply eM_restore
    exact ⟨fun _ => ⟨rfl, inv_id h⟩, fun q => ⟨fun z => by omega, fun _ => ⟨rfl, inv_id h⟩⟩⟩
