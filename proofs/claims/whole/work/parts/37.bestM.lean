/-! bestOrder: the reference -/
theorem nnn (n : Nat) : (0 : Int) ≤ (n : Int) := by omega
theorem msk_s (n k l s : Nat) : msk n (k + 1) l s = msk n k (l / n) (s ||| 2 ^ (l % n)) := rfl
theorem lf_s (n c m : Nat) : lf n c (m + 1) = lf n c m / n := rfl
theorem p2_i (r : Nat) : (2 : Int) ^ r = ((2 ^ r : Nat) : Int) := (Int.natCast_pow 2 r).symm
theorem hM_everybody {Y : ax_Mem} {P : Int → ax_Mem → Prop} {n : Nat} (h4 : Y 0 4 = n) (hn : n ≤ 12) (h : P ((2 ^ n - 1 : Nat) : Int) Y) : kM_everybody [.inr (.inr 0)] Y P := by
  apply eM_everybody
  have h1 : 1 ≤ 2 ^ n := Nat.one_le_two_pow
  have h2 : 2 ^ n ≤ 2 ^ 12 := Nat.pow_le_pow_right (by omega) hn
  rw [h4, Int.toNat_natCast, p2_i, show ((2 ^ n : Nat) : Int) - 1 = ((2 ^ n - 1 : Nat) : Int) by omega]
  have h3 : (2 ^ 12 : Nat) = 4096 := rfl
  exact ⟨by omega, by omega, h⟩
theorem hM_layNumber {Y : ax_Mem} {P : Int → ax_Mem → Prop} {n c : Nat} (h4 : Y 0 4 = n) (hn : n ≤ 12) (k : ∀ Z, QN Z n (ci (dgN n c)) → FQ Y Z → P (bif isP n c then 1 else 0) Z) : kM_layNumber [.inr (.inr 0), .inl (c : Int)] Y P := by
  apply eM_layNumber
  rw [h4]
  refine ⟨by omega, ?_⟩
  have key : ∀ (m s : Nat) (Z : ax_Mem), m ≤ n → msk n m (lf n c (n - m)) s = msk n n c 0 → Z 0 17 = n → (∀ j, m ≤ j → j < n → Z 7 j = ci (dgN n c) j) → FQ Y Z → jM_layNumber P 20 [(0, .inr (.inr 0)), (2, .inl (lf n c (n - m) : Int)), (3, .inl (s : Int)), (4, .inl ((m : Int) - 1))] [] Z := by
    intro m
    induction m with
    | zero =>
      intro s Z hm e h17 hq hF
      apply gM_layNumber_20
      refine ⟨fun _ => ?_, fun q => by omega⟩
      have e4 : Z 0 4 = n := (hF.2 4 (by omega)).trans h4
      apply hM_everybody e4 hn
      have hk := k Z ⟨h17, fun j hj => hq j (by omega) hj⟩ hF
      unfold isP at hk
      rw [← e] at hk
      have e2 : msk n 0 (lf n c (n - 0)) s = s := rfl
      rw [e2] at hk
      refine ⟨fun q => ?_, fun q => ?_⟩
      · rw [nbq (show s ≠ 2 ^ n - 1 by omega)] at hk; exact hk
      · rw [show s = 2 ^ n - 1 by omega, Nat.beq_refl] at hk; exact hk
    | succ m ih =>
      intro s Z hm e h17 hq hF
      have e4 : Z 0 4 = n := (hF.2 4 (by omega)).trans h4
      have hr : lf n c (n - (m + 1)) % n < n := Nat.mod_lt _ (by omega)
      apply gM_layNumber_20
      rw [e4, ← Int.natCast_emod, ← Int.natCast_ediv, show (((m + 1 : Nat) : Int) - 1) = (m : Int) by omega]
      simp only [Int.toNat_natCast]
      rw [p2_i, Int.toNat_natCast]
      refine ⟨fun q => by omega, fun _ => ⟨by omega, by omega, by omega, ⟨nnn _, nnn _⟩, ?_⟩⟩
      have el : lf n c (n - (m + 1)) / n = lf n c (n - m) := by rw [show n - m = (n - (m + 1)) + 1 by omega, lf_s]
      rw [el, show (m : Int) + (-1) = (m : Int) - 1 by omega]
      refine ih _ _ (by omega) ?_ (by rw [ax_u_cell (by omega)]; exact h17) (fun j hj hjn => ?_) hF.u
      · rw [← e, msk_s, el]
      · rw [ax_uu]
        by_cases d : j = m
        · rw [if_pos d, d]
          unfold ci dgN
          rw [show n - 1 - m = n - (m + 1) by omega]
        · rw [if_neg d]; exact hq j (by omega) hjn
  have := key n 0 (ax_u Y 0 17 n) (Nat.le_refl _) (by rw [Nat.sub_self]; rfl) (by rw [ax_uu, if_pos rfl]) (fun j h1 h2 => by omega) (FQ.rf Y).f
  rw [Nat.sub_self] at this
  exact this
theorem cds_s (n d c : Nat) : cds n (d + 1) c = bif isP n c then c :: cds n d (c + 1) else cds n d (c + 1) := rfl
/-- what bestOrder leaves of the reference's people -/
def MB (X Y Z : ax_Mem) : Prop := RL X Z 3 ∧ FS Y Z
theorem hM_bestL {X Y : ax_Mem} {P : Int → ax_Mem → Prop} {what : Int} {N : Nat} (hw : WP X) (hr2 : 2 ≤ X 1 0) (hr : RP X Y) (hn : X 2 7 ≤ 6) (hN : N ≤ 46656) (hpm : ∀ c, isP (X 2 7).toNat c = true → c < N → PM (X 2 7).toNat (ci (dgN (X 2 7).toNat c))) : ∀ (d c : Nat) (a : Int × Nat) (Z : ax_Mem), c + d = N → MB X Y Z → (a.1 < 1000000 → ∀ i, i < (X 2 7).toNat → Z 14 i = ci (dgN (X 2 7).toNat a.2) i) → a.1 ≤ 1000000 → (∀ W b, b = bl (TC X (X 2 7).toNat) (cds (X 2 7).toNat d c) a → FS Y W → (b.1 < 1000000 → ∀ i, i < (X 2 7).toNat → W 14 i = ci (dgN (X 2 7).toNat b.2) i) → jM_bestOrder P 92 [(0, .inr (.inr 0)), (1, .inl what), (2, .inl (N : Int)), (3, .inl b.1), (4, .inl (N : Int))] [] W) → jM_bestOrder P 92 [(0, .inr (.inr 0)), (1, .inl what), (2, .inl (N : Int)), (3, .inl a.1), (4, .inl (c : Int))] [] Z := by
  intro d
  induction d with
  | zero =>
    intro c a Z hc hZ h14 ha k
    have : c = N := by omega
    rw [this]
    exact k Z a rfl hZ.2 h14
  | succ d ih =>
    intro c a Z hc hZ h14 ha k
    have hw1 := hw.1
    have e4 : Z 0 4 = ((X 2 7).toNat : Int) := by rw [hZ.2.2.2.2.2.2.1, hr.1.2.2.2]; omega
    apply gM_bestOrder_92
    refine ⟨fun q => by omega, fun _ => ?_⟩
    apply hM_layNumber e4 (by omega)
    intro Z2 hZ2 hF2
    rw [cds_s] at k
    cases hip : isP (X 2 7).toNat c with
    | false =>
      rw [hip] at k
      refine ⟨fun _ => ⟨by omega, ?_⟩, fun q => absurd rfl q⟩
      rw [to1]
      exact ih (c + 1) a Z2 (by omega) ⟨FQ_RL hF2 hZ.1, hZ.2.tr hF2.s⟩ (by rw [hF2.1 14 (by omega) (by omega)]; exact h14) ha k
    | true =>
      rw [hip] at k
      refine ⟨fun q => absurd q (by decide), fun _ => ?_⟩
      have hp := hpm c hip (by omega)
      have hv : VW X (gc X (X 1 0) (X 5) 3 (ci (dgN (X 2 7).toNat c))) 3 (ci (dgN (X 2 7).toNat c)) := gc_gv X (X 1 0) (X 5) 3 _
      have hMW : MW X Z2 3 (ci (dgN (X 2 7).toNat c)) := ⟨FS_RP (hZ.2.tr hF2.s) hr, FQ_RL hF2 hZ.1, hZ2⟩
      have hle := TT_le X 3 (ci (dgN (X 2 7).toNat c))
      refine hM_boardAll (vw_LV hw hv hp) (vw_WB hw hr2 (by omega) hv hp) (vw_S0 hw hv hp hMW) ?_
      intro Z3 _ hFC
      rw [TT_eq hw hr2 (by omega) hv hp]
      have hMW3 := FC_MW hFC hMW
      have h143 : Z3 14 = Z 14 := by rw [hFC.1 14 (by omega) (by omega), hF2.1 14 (by omega) (by omega)]
      have hMB3 : MB X Y Z3 := ⟨hMW3.2.1, (hZ.2.tr hF2.s).tr hFC.s⟩
      have e43 : Z3 0 4 = ((X 2 7).toNat : Int) := by rw [hMB3.2.2.2.2.2.2.1, hr.1.2.2.2]; omega
      have kk : ∀ W b, b = bl (TC X (X 2 7).toNat) (cds (X 2 7).toNat d (c + 1)) (if a.1 ≤ (TT X 3 (ci (dgN (X 2 7).toNat c)) : Int) then a else ((TT X 3 (ci (dgN (X 2 7).toNat c)) : Int), c)) → FS Y W → (b.1 < 1000000 → ∀ i, i < (X 2 7).toNat → W 14 i = ci (dgN (X 2 7).toNat b.2) i) → jM_bestOrder P 92 [(0, .inr (.inr 0)), (1, .inl what), (2, .inl (N : Int)), (3, .inl b.1), (4, .inl (N : Int))] [] W := k
      by_cases hc2 : a.1 ≤ (TT X 3 (ci (dgN (X 2 7).toNat c)) : Int)
      · rw [if_pos hc2] at kk
        have nx := ih (c + 1) a Z3 (by omega) hMB3 (by rw [h143]; exact h14) ha kk
        apply gM_bestOrder_116
        rw [to1]
        exact ⟨fun _ => ⟨fun _ => ⟨by omega, nx⟩, fun q => absurd hc2 q⟩, fun _ => ⟨fun _ => ⟨fun _ => ⟨by omega, nx⟩, fun q => absurd hc2 q⟩, fun q => absurd hc2 q⟩⟩
      · rw [if_neg hc2] at kk
        refine up_loop (Q := fun q => ∀ W : ax_Mem, (∀ x, x ≠ 14 → W x = Z3 x) → (∀ j, j < q → W 14 j = ci (dgN (X 2 7).toNat c) j) → jM_bestOrder P 116 [(0, .inr (.inr 0)), (1, .inl what), (2, .inl (N : Int)), (3, .inl a.1), (4, .inl (c : Int)), (5, .inl (TT X 3 (ci (dgN (X 2 7).toNat c)) : Int)), (6, .inl (q : Int))] [] W) (X 2 7).toNat ?_ ?_ 0 (Nat.zero_le _) Z3 (fun _ _ => rfl) (fun j hj => by omega)
        · intro W hW hq
          apply gM_bestOrder_116
          rw [hW 0 (by omega), e43, to1]
          refine ⟨fun _ => ⟨fun q => absurd q hc2, fun _ => ⟨by omega, ?_⟩⟩, fun q => by omega⟩
          have hFS : FS Z3 W := ⟨⟨hW 1 (by omega), hW 2 (by omega), hW 3 (by omega), hW 18 (by omega)⟩, by rw [hW 0 (by omega)], by rw [hW 0 (by omega)], by rw [hW 0 (by omega)], by rw [hW 0 (by omega)], by rw [hW 0 (by omega)], by rw [hW 0 (by omega)], by rw [hW 0 (by omega)], by rw [hW 0 (by omega)], by rw [hW 0 (by omega)], by rw [hW 0 (by omega)], by rw [hW 0 (by omega)]⟩
          have hRL : RL X W 3 := by unfold RL; rw [hW 0 (by omega), hW 5 (by omega), hW 6 (by omega)]; exact hMB3.1
          exact ih (c + 1) ((TT X 3 (ci (dgN (X 2 7).toNat c)) : Int), c) W (by omega) ⟨hRL, hMB3.2.tr hFS⟩ (fun _ => hq) (by simp only; omega) kk
        · intro q hq2 hQ W hW hq
          apply gM_bestOrder_116
          simp only [Int.toNat_natCast]
          rw [hW 0 (by omega), e43]
          refine ⟨fun z => by omega, fun _ => ⟨fun z => absurd z hc2, fun _ => ⟨by omega, by omega, ?_⟩⟩⟩
          rw [to1]
          refine hQ _ (fun x hx => by rw [ax_u_cell hx]; exact hW x hx) (fun j hj => ?_)
          rw [ax_uu]
          by_cases e : j = q
          · rw [if_pos e, e, hW 7 (by omega)]; exact hMW3.2.2.2 q hq2
          · rw [if_neg e]; exact hq j (by omega)
theorem ckc_pm {n : Nat} : ∀ (l : List Nat), ckc n l = true → ∀ c, c ∈ l → PM n (ci (dgN n c))
  | [], _, c, h => by simp at h
  | x :: l, h, c, hc => by
    unfold ckc at h
    rw [Bool.and_eq_true, Bool.and_eq_true] at h
    rcases List.mem_cons.mp hc with e | e
    · rw [e]; exact pmB_PM h.1.1
    · exact ckc_pm l h.2 c e
theorem cds_mem {n : Nat} : ∀ (d c x : Nat), c ≤ x → x < c + d → isP n x = true → x ∈ cds n d c
  | 0, c, x, h1, h2, _ => by omega
  | d + 1, c, x, h1, h2, h => by
    rw [cds_s]
    by_cases e : x = c
    · subst e
      rw [h]
      exact List.mem_cons_self ..
    · have := cds_mem d (c + 1) x (by omega) (by omega) h
      cases isP n c with
      | true => exact List.mem_cons_of_mem _ this
      | false => exact this
theorem bl_le (T : Nat → Int) : ∀ (l : List Nat) (a : Int × Nat), (bl T l a).1 ≤ a.1
  | [], a => Int.le_refl _
  | c :: l, a => by
    unfold bl
    by_cases h : a.1 ≤ T c
    · rw [if_pos h]; exact bl_le T l a
    · rw [if_neg h]
      have := bl_le T l (T c, c)
      simp only at this
      omega
theorem nn_le : ∀ n, n ≤ 6 → n ^ n ≤ 46656
  | 0, _ => by decide
  | 1, _ => by decide
  | 2, _ => by decide
  | 3, _ => by decide
  | 4, _ => by decide
  | 5, _ => by decide
  | 6, _ => by decide
  | n + 7, h => by omega
theorem hM_best {X Y : ax_Mem} {P : Int → ax_Mem → Prop} {what : Int} (hw : WP X) (hr2 : 2 ≤ X 1 0) (hr : RP X Y) (hn : X 2 7 ≤ 6) (k : ∀ W b, b = bl (TC X (X 2 7).toNat) (cdn X) (1000000, 0) → FS Y W → (b.1 < 1000000 → ∀ i, i < (X 2 7).toNat → W 14 i = ci (dgN (X 2 7).toNat b.2) i) → jM_bestOrder P 92 [(0, .inr (.inr 0)), (1, .inl what), (2, .inl (((X 2 7).toNat ^ (X 2 7).toNat : Nat) : Int)), (3, .inl b.1), (4, .inl (((X 2 7).toNat ^ (X 2 7).toNat : Nat) : Int))] [] W) : ∀ Z, MB X Y Z → jM_bestOrder P 65 [(0, .inr (.inr 0)), (1, .inl what), (2, .inl 1), (3, .inl 0)] [] Z := by
  intro Z hZ
  have hw1 := hw.1
  have hn6 : (X 2 7).toNat ≤ 6 := by omega
  have e4 : Z 0 4 = ((X 2 7).toNat : Int) := by rw [hZ.2.2.2.2.2.2.1, hr.1.2.2.2]; omega
  obtain ⟨c0, l0, ec, hck, -, -⟩ := cdn_ok (X := X) hn6
  have hpm : ∀ c, isP (X 2 7).toNat c = true → c < (X 2 7).toNat ^ (X 2 7).toNat → PM (X 2 7).toNat (ci (dgN (X 2 7).toNat c)) := by
    intro c hc hlt
    have hm : c ∈ cdn X := cds_mem _ 0 c (by omega) (by omega) hc
    rw [ec] at hm
    exact ckc_pm _ hck c hm
  have hnn := nn_le (X 2 7).toNat hn6
  have hL := hM_bestL (P := P) (what := what) hw hr2 hr hn hnn hpm ((X 2 7).toNat ^ (X 2 7).toNat) 0 (1000000, 0) Z (by omega) hZ (fun q => absurd q (by simp)) (by simp) k
  have key : ∀ i, i ≤ (X 2 7).toNat → jM_bestOrder P 65 [(0, .inr (.inr 0)), (1, .inl what), (2, .inl (((X 2 7).toNat ^ i : Nat) : Int)), (3, .inl (i : Int))] [] Z := by
    refine up_loop (Q := fun i => jM_bestOrder P 65 [(0, .inr (.inr 0)), (1, .inl what), (2, .inl (((X 2 7).toNat ^ i : Nat) : Int)), (3, .inl (i : Int))] [] Z) (X 2 7).toNat ?_ ?_
    · apply gM_bestOrder_65
      rw [e4]
      exact ⟨fun _ => hL, fun q => by omega⟩
    · intro i hi hQ
      apply gM_bestOrder_65
      have em : (((X 2 7).toNat ^ i : Nat) : Int) * ((X 2 7).toNat : Int) = (((X 2 7).toNat ^ (i + 1) : Nat) : Int) := by rw [Nat.pow_succ, Int.natCast_mul]
      rw [e4, em]
      have hb : (X 2 7).toNat ^ (i + 1) ≤ (X 2 7).toNat ^ (X 2 7).toNat := Nat.pow_le_pow_right (by omega) (by omega)
      have hb2 := Nat.le_trans hb hnn
      refine ⟨fun q => by omega, fun _ => ⟨⟨?_, ?_⟩, by omega, ?_⟩⟩
      · have := nnn ((X 2 7).toNat ^ (i + 1))
        omega
      · exact Int.lt_of_le_of_lt (Int.ofNat_le.mpr hb2) (by decide)
      · rw [to1]; exact hQ
  exact key 0 (Nat.zero_le _)
theorem inv_best {t : Int} {X Y : ax_Mem} (h : INV t X Y) (hd : X 0 10 < 20) : INV t (ax_u X 0 10 (X 0 10 + 1)) (ax_u Y 0 27 (Y 0 27 + 1)) := by
  obtain ⟨i1, i2, i3, i4, i5, i6, i7, i8⟩ := h
  refine ⟨i1, i2, i3, i4, i5, ⟨i6.1, i6.2.1, fun c hc => ?_⟩, ⟨?_, ?_, ?_⟩, i8⟩
  · obtain ⟨a, b⟩ := i6.2.2 c hc
    have i61 := i6.1
    have hc' : (c : Int) < X 0 9 := hc
    unfold WK RK
    rw [ax_u_cell (by omega), ax_u_cell (by omega), ax_u_cell (by omega), ax_u_cell (by omega)]
    exact ⟨a, b⟩
  · rw [ax_uu, if_pos rfl, ax_uu, if_pos rfl, i7.1]
  · rw [ax_uu, if_pos rfl]; omega
  · rw [ax_uu, if_pos rfl]; omega
theorem q_bestOrder {t : Int} {X Y : ax_Mem} {a : Int} (h : INV t X Y) : kX_bestOrder [.inr (.inr 0), .inl a] X (fun r X2 => kM_bestOrder [.inr (.inr 0), .inl a] Y (fun r2 Y2 => r2 = r ∧ INV (t + 1) X2 Y2)) := by
  apply ax_Ca
  intro har
  have ha : ax_r a := har (.inl a) (by simp)
  obtain ⟨i1, i2, i3, i4, i5, i6, i7, i8⟩ := id h
  have y0 := i2.1.1
  have y4 := i2.1.2.2.2
  have w1 := i1.1
  have st : ∀ P : Int → ax_Mem → Prop, ¬ X 1 0 = 0 → kM_in [.inr (.inl a), .inr (.inl 0), .inr (.inl 6)] Y (fun r3 M4 => (¬ r3 = 0 → (6 < (M4 0 4) → P (-103) M4) ∧ (¬ 6 < (M4 0 4) → (¬ (M4 0 27) = 20 → (-2147483648 ≤ ((M4 0 27) + 1) ∧ ((M4 0 27) + 1) < 2147483648) ∧ kM_layPeople [.inr (.inr 0), .inl 3] (ax_u M4 0 27 ((M4 0 27) + 1)) (fun _ M7 => jM_bestOrder P 65 [(0, .inr (.inr 0)), (1, .inl a), (2, .inl 1), (3, .inl 0)] [] M7)) ∧ ((M4 0 27) = 20 → P (-103) M4))) ∧ (r3 = 0 → P (-102) M4)) → kM_bestOrder [.inr (.inr 0), .inl a] Y P := by
    intro P c hP
    apply eM_bestOrder
    apply hM_lacks
    rw [if_neg (by omega)]
    exact ⟨fun _ => hP, fun q => absurd rfl q⟩
  apply eX_bestOrder
  apply hC_isMissing
  by_cases c0 : X 1 0 = 0
  · rw [if_pos c0]
    refine ⟨fun q => absurd q (by decide), fun _ => ?_⟩
    apply eM_bestOrder
    apply hM_lacks
    rw [if_pos (by omega)]
    exact ⟨fun q => absurd q (by decide), fun _ => ⟨rfl, inv_id h⟩⟩
  · rw [if_neg c0]
    refine ⟨fun _ => ?_, fun q => absurd rfl q⟩
    apply hX_outside
    by_cases c1 : a < 0 ∨ 6 < a
    · rw [if_pos c1]
      refine ⟨fun q => absurd q (by decide), fun _ => ?_⟩
      apply st _ c0
      apply hM_in ha (ax_r0 (by omega)) (ax_r0 (by omega))
      rw [if_neg (by omega)]
      exact ⟨fun q => absurd rfl q, fun _ => ⟨rfl, inv_id h⟩⟩
    · rw [if_neg c1]
      have st2 : ∀ P : Int → ax_Mem → Prop, ((6 < (Y 0 4) → P (-103) Y) ∧ (¬ 6 < (Y 0 4) → (¬ (Y 0 27) = 20 → (-2147483648 ≤ ((Y 0 27) + 1) ∧ ((Y 0 27) + 1) < 2147483648) ∧ kM_layPeople [.inr (.inr 0), .inl 3] (ax_u Y 0 27 ((Y 0 27) + 1)) (fun _ M7 => jM_bestOrder P 65 [(0, .inr (.inr 0)), (1, .inl a), (2, .inl 1), (3, .inl 0)] [] M7)) ∧ ((Y 0 27) = 20 → P (-103) Y))) → kM_bestOrder [.inr (.inr 0), .inl a] Y P := by
        intro P hP
        apply st _ c0
        apply hM_in ha (ax_r0 (by omega)) (ax_r0 (by omega))
        rw [if_pos (by omega)]
        exact ⟨fun _ => hP, fun q => absurd q (by decide)⟩
      refine ⟨fun _ => ⟨fun c2 => ?_, fun c2 => ⟨fun c3 => ⟨by omega, ?_⟩, fun c3 => ?_⟩⟩, fun q => absurd rfl q⟩
      · apply st2
        exact ⟨fun _ => ⟨rfl, inv_id h⟩, fun q => by omega⟩
      · have hr2 : 2 ≤ X 1 0 := by omega
        have hI := inv_best h c3
        have hwp : WP (ax_u X 0 10 (X 0 10 + 1)) := hI.1
        have hrp : RP (ax_u X 0 10 (X 0 10 + 1)) (ax_u Y 0 27 (Y 0 27 + 1)) := hI.2.1
        have e27 : ax_u X 0 10 (X 0 10 + 1) 2 7 = X 2 7 := rfl
        apply hX_findBest hwp hr2 (by rw [e27]; omega)
        intro Z b x eb hxZ hBL
        have hle := bl_le (TC (ax_u X 0 10 (X 0 10 + 1)) ((ax_u X 0 10 (X 0 10 + 1)) 2 7).toNat) (cdn (ax_u X 0 10 (X 0 10 + 1))) (10000, x)
        rw [← eb] at hle
        simp only at hle
        have eb2 : b = bl (TC (ax_u X 0 10 (X 0 10 + 1)) ((ax_u X 0 10 (X 0 10 + 1)) 2 7).toNat) (cdn (ax_u X 0 10 (X 0 10 + 1))) (1000000, 0) := by
          obtain ⟨c4, l4, ec, -, -, -⟩ := cdn_ok (X := ax_u X 0 10 (X 0 10 + 1)) (by rw [e27]; omega)
          rw [eb, ec]
          exact bl_far (by have := TT_le (ax_u X 0 10 (X 0 10 + 1)) 3 (ci (dgN ((ax_u X 0 10 (X 0 10 + 1)) 2 7).toNat c4)); unfold TC; omega)
        have fin : ∀ r : Int, r = (if a = 0 then b.1 else if X 2 7 < a then -1 else ci (dgN (X 2 7).toNat b.2) (a - 1).toNat) → kM_bestOrder [.inr (.inr 0), .inl a] Y (fun r2 Y2 => r2 = r ∧ INV (t + 1) Z Y2) := by
          intro r hr
          apply st2
          refine ⟨fun q => by omega, fun _ => ⟨fun _ => ⟨by omega, ?_⟩, fun q => by omega⟩⟩
          apply hM_layPeople hwp hrp
          intro W hW hFW
          refine hM_best (what := a) hwp hr2 hrp (by rw [e27]; omega) ?_ W ⟨hW, hFW.s⟩
          intro W2 b2 eb3 hF2 h14
          rw [← eb2] at eb3
          subst eb3
          have h14 := h14 (by omega)
          rw [e27] at h14
          have hinv : INV (t + 1) Z W2 := inv_fr hI hxZ hF2 (by omega)
          have e4 : W2 0 4 = X 2 7 := by rw [hF2.2.2.2.2.2.1]; exact y4
          apply gM_bestOrder_92
          rw [e4]
          refine ⟨fun _ => ⟨fun d1 => ⟨fun d2 => ⟨?_, hinv⟩, fun d2 => ⟨by omega, by omega, ?_, hinv⟩⟩, fun d1 => ⟨?_, hinv⟩⟩, fun q => absurd (Int.le_refl _) q⟩
          · rw [hr, if_neg d1, if_pos d2]
          · rw [hr, if_neg d1, if_neg d2, h14 _ (by omega)]
          · rw [hr, if_pos d1]
        have z42 : Z 42 1 = X 2 7 := by rw [hBL.1, e27]; omega
        rw [z42]
        refine ⟨fun d1 => ⟨fun d2 => fin _ (by rw [if_neg d1, if_pos d2]), fun d2 => ⟨by omega, by omega, fin _ ?_⟩⟩, fun d1 => fin _ (by rw [if_pos d1])⟩
        rw [if_neg d1, if_neg d2]
        exact hBL.2 _ (by rw [e27]; omega)
      · apply st2
        exact ⟨fun q => by omega, fun _ => ⟨fun q => by omega, fun _ => ⟨rfl, inv_id h⟩⟩⟩
