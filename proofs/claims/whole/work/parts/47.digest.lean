/-! digest -/
def fo (f : Nat → Int) : Nat → Int → Int
  | 0, h => h
  | k + 1, h => 31 * fo f k h + f k
theorem fo_s (f : Nat → Int) (k : Nat) (h : Int) : fo f (k + 1) h = 31 * fo f k h + f k := rfl
def hP (X : ax_Mem) (k : Nat) : Int := fo (fun k => te X (k / 7) ((k % 7 : Nat) : Int)) k 523
def hC1 (X : ax_Mem) (c : Nat) (h : Int) : Int := fo (od X c 3) (X 2 7).toNat h
def hC2 (X : ax_Mem) (c : Nat) (k : Nat) (h : Int) : Int := fo (fun w => bW (gc X (X 1 0) (X 5) 3 (od X c 3)) (w : Int)) k (hC1 X c h)
def hC3 (X : ax_Mem) (c : Nat) (h : Int) : Int := 31 * hC2 X c 3 h + max (dF X c) (dB X c)
def hCs (X : ax_Mem) : Nat → Int → Int
  | 0, h => h
  | c + 1, h => hC3 X c (hCs X c h)
theorem hCs_s (X : ax_Mem) (c : Nat) (h : Int) : hCs X (c + 1) h = hC3 X c (hCs X c h) := rfl
def hO (X : ax_Mem) (k : Nat) (h : Int) : Int := fo (fun m => (ouT X (m : Int) : Int)) k h
def hMx (X : ax_Mem) (k : Nat) (h : Int) : Int := fo (fun w => miV X 2 5 (w : Int)) k h
def hA (X : ax_Mem) (h : Int) : Int := hMx X 3 (31 * hO X 3 (hCs X (X 0 9).toNat h) + leV X)
def hB (X : ax_Mem) : Int := if X 1 0 = 0 then hP X (7 * (X 2 7).toNat) else hA X (hP X (7 * (X 2 7).toNat))
def hD (X : ax_Mem) : Int := fo (fun a => coV X (a : Int)) 9 (fo (X 14) (X 13 1).toNat (hB X))
theorem hX_withCall {X X2 : ax_Mem} {P : Int → ax_Mem → Prop} {c : Nat} {h : Int} (hx : XF X X2) (hc : (c : Int) < X 0 9) (hw : WP X) (hr2 : 2 ≤ X 1 0) (hk : CK X) (k : ∀ Z, XF X Z → P (hC3 X c h) Z) : kX_withCall [.inr (.inr 0), .inr (.inl h), .inl (c : Int)] X2 P := by
  have hw1 := hw.1
  have hk1 := hk.1
  have c8 : c < 8 := by omega
  have hp := od_PM X c 3
  apply eX_withCall
  apply hX_boardBy c8 (by omega) (XF_WP hx hw) (by rw [hx 1 (by omega)]; exact hr2) (XF_WK hx c8 (hk.2 c hc))
  intro V hv
  have hv2 := XF_VW hx hv
  rw [XF_od hx c8] at hv2
  rw [show (min (9999 : Int) 9999).toNat = 9999 by omega, show bo_run 9999 1 0 (bo_begin V) = bE V from rfl]
  have hE := bE_vw hw hv2 hp
  refine up_loop (Q := fun i => jX_withCall P 15 [(0, .inr (.inr 0)), (3, .inl (c : Int)), (4, .inr (.inl (fo (od X c 3) i h))), (6, .inl (i : Int))] [] (bE V)) (X 2 7).toNat ?_ ?_ 0 (Nat.zero_le _)
  · apply gX_withCall_15
    rw [hE.2.1]
    refine ⟨fun _ => ?_, fun q => by omega⟩
    refine up_loop (Q := fun i => jX_withCall P 56 [(0, .inr (.inr 0)), (3, .inl (c : Int)), (4, .inr (.inl (hC2 X c i h))), (6, .inl (i : Int))] [] (bE V)) 3 ?_ ?_ 0 (Nat.zero_le _)
    · apply gX_withCall_56
      refine ⟨fun _ => ?_, fun q => by omega⟩
      apply hX_secondsByDoors hE.x hc hw hr2 hk
      intro Z hZ
      exact k Z hZ
    · intro i hi hQ
      apply gX_withCall_56
      refine ⟨fun q => by omega, fun _ => ?_⟩
      apply hB_tellE hw hr2 (by omega) hv2 hp
      rw [bW_eq hw hr2 (by omega) hv2 hp, to1]
      exact ⟨by omega, hQ⟩
  · intro i hi hQ
    apply gX_withCall_15
    simp only [Int.toNat_natCast]
    rw [hE.2.1, hE.2.2.1 i (by omega), to1]
    exact ⟨fun q => by omega, fun _ => ⟨by omega, hQ⟩⟩
theorem hX_least {X X2 : ax_Mem} {P : Int → ax_Mem → Prop} (hw : WP X) (hr2 : 2 ≤ X 1 0) (hk : CK X) (hx : XF X X2) (k : ∀ Z, XF X Z → P (leV X) Z) : kX_least [.inr (.inr 0)] X2 P := by
  apply eX_least
  apply hC_isMissing
  rw [hx 1 (by omega), if_neg (by omega)]
  exact ⟨fun _ => hX_leastL hw hr2 hk k X2 hx, fun q => absurd rfl q⟩
theorem hX_digest {t : Int} {X Y : ax_Mem} {P : Int → ax_Mem → Prop} (hi : INV t X Y) (k : ∀ Z, XF X Z → P (hD X) Z) : kX_digest [.inr (.inr 0)] X P := by
  obtain ⟨i1, i2, i3, i4, i5, i6, i7, i8⟩ := id hi
  have hw1 := i1.1
  have p1 := i5.1
  have i61 := i6.1
  -- from the letters on
  have tail : ∀ Z, XF X Z → jX_digest P 158 [(0, .inr (.inr 0)), (1, .inr (.inl (hB X))), (3, .inl 0)] [] Z := by
    intro Z hZ
    refine up_loop (Q := fun i => jX_digest P 158 [(0, .inr (.inr 0)), (1, .inr (.inl (fo (X 14) i (hB X)))), (3, .inl (i : Int))] [] Z) (X 13 1).toNat ?_ ?_ 0 (Nat.zero_le _)
    · apply gX_digest_158
      rw [hZ 13 (by omega)]
      refine ⟨fun _ => ?_, fun q => by omega⟩
      refine up_loop (Q := fun i => jX_digest P 194 [(0, .inr (.inr 0)), (1, .inr (.inl (fo (fun a => coV X (a : Int)) i (fo (X 14) (X 13 1).toNat (hB X))))), (3, .inl (i : Int))] [] Z) 9 ?_ ?_ 0 (Nat.zero_le _)
      · apply gX_digest_194
        exact ⟨fun _ => k Z hZ, fun q => by omega⟩
      · intro i hi2 hQ
        apply gX_digest_194
        refine ⟨fun q => by omega, fun _ => ?_⟩
        apply hX_count i1 i3.2.1 hZ
        rw [to1]
        exact ⟨by omega, hQ⟩
    · intro i hi2 hQ
      apply gX_digest_158
      simp only [Int.toNat_natCast]
      rw [hZ 13 (by omega), hZ 14 (by omega), to1]
      exact ⟨fun q => by omega, fun _ => ⟨by omega, hQ⟩⟩
  apply eX_digest
  refine up_loop (Q := fun p => jX_digest P 6 [(0, .inr (.inr 0)), (1, .inr (.inl (hP X (7 * p)))), (3, .inl (p : Int))] [] X) (X 2 7).toNat ?_ ?_ 0 (Nat.zero_le _)
  · apply gX_digest_6
    refine ⟨fun _ => ?_, fun q => by omega⟩
    apply hC_isMissing
    by_cases c0 : X 1 0 = 0
    · rw [if_pos c0]
      have hb : hB X = hP X (7 * (X 2 7).toNat) := by unfold hB; rw [if_pos c0]
      have := tail X (XF.rf X)
      rw [hb] at this
      exact ⟨fun _ => this, fun q => absurd q (by decide)⟩
    · rw [if_neg c0]
      have hb : hB X = hA X (hP X (7 * (X 2 7).toNat)) := by unfold hB; rw [if_neg c0]
      have hr2 : 2 ≤ X 1 0 := by omega
      generalize hP X (7 * (X 2 7).toNat) = h0 at hb
      refine ⟨fun q => absurd rfl q, fun _ => ?_⟩
      refine up_loop (Q := fun c => ∀ Z, XF X Z → jX_digest P 69 [(0, .inr (.inr 0)), (1, .inr (.inl (hCs X c h0))), (3, .inl (c : Int))] [] Z) (X 0 9).toNat ?_ ?_ 0 (Nat.zero_le _) X (XF.rf X)
      · intro Z hZ
        apply gX_digest_69
        rw [hZ 0 (by omega)]
        refine ⟨fun _ => ?_, fun q => by omega⟩
        refine up_loop (Q := fun m => ∀ Z, XF X Z → jX_digest P 92 [(0, .inr (.inr 0)), (1, .inr (.inl (hO X m (hCs X (X 0 9).toNat h0)))), (3, .inl (m : Int))] [] Z) 3 ?_ ?_ 0 (Nat.zero_le _) Z hZ
        · intro Z2 hZ2
          apply gX_digest_92
          refine ⟨fun _ => ?_, fun q => by omega⟩
          apply hX_least i1 hr2 hi.ck hZ2
          intro Z3 hZ3
          refine up_loop (Q := fun w => ∀ Z, XF X Z → jX_digest P 130 [(0, .inr (.inr 0)), (1, .inr (.inl (hMx X w (31 * hO X 3 (hCs X (X 0 9).toNat h0) + leV X)))), (3, .inl (w : Int))] [] Z) 3 ?_ ?_ 0 (Nat.zero_le _) Z3 hZ3
          · intro Z4 hZ4
            apply gX_digest_130
            have := tail Z4 hZ4
            rw [hb] at this
            exact ⟨fun _ => this, fun q => by omega⟩
          · intro w hw2 hQ Z4 hZ4
            apply gX_digest_130
            refine ⟨fun q => by omega, fun _ => ?_⟩
            apply hX_mixed i1 hr2 hZ4 (by omega) (by omega) (by omega)
            intro Z5 hZ5
            rw [to1]
            exact ⟨by omega, hQ Z5 hZ5⟩
        · intro m hm hQ Z2 hZ2
          apply gX_digest_92
          refine ⟨fun q => by omega, fun _ => ?_⟩
          apply hX_out i1 hr2 hZ2 (by omega)
          intro Z3 hZ3
          rw [to1]
          exact ⟨by omega, hQ Z3 hZ3⟩
      · intro c hc hQ Z hZ
        apply gX_digest_69
        rw [hZ 0 (by omega)]
        refine ⟨fun q => by omega, fun _ => ?_⟩
        apply hX_withCall hZ (by omega) i1 hr2 hi.ck
        intro Z2 hZ2
        rw [to1]
        exact ⟨by omega, hQ Z2 hZ2⟩
  · intro p hp hQ
    apply gX_digest_6
    refine ⟨fun q => by omega, fun _ => ?_⟩
    refine up_loop (Q := fun w => jX_digest P 20 [(0, .inr (.inr 0)), (1, .inr (.inl (hP X (7 * p + w)))), (3, .inl (p : Int)), (4, .inl (w : Int))] [] X) 7 ?_ ?_ 0 (Nat.zero_le _)
    · apply gX_digest_20
      rw [to1]
      exact ⟨fun _ => ⟨by omega, hQ⟩, fun q => by omega⟩
    · intro w hw2 hQ2
      apply gX_digest_20
      refine ⟨fun q => by omega, fun _ => ?_⟩
      apply hE_tell (by omega)
      have e : hP X (7 * p + (w + 1)) = 31 * hP X (7 * p + w) + te X p w := by
        unfold hP
        rw [show 7 * p + (w + 1) = (7 * p + w) + 1 by omega, fo_s, show (7 * p + w) / 7 = p by omega, show (7 * p + w) % 7 = w by omega]
      rw [e] at hQ2
      rw [to1]
      exact ⟨by omega, hQ2⟩
-- ===== the reference
theorem fh_say {Y Z : ax_Mem} {h v : Int} (hF : FS (ax_u Y 0 36 h) Z) : FS (ax_u Y 0 36 (31 * h + v)) (ax_u Z 0 36 (31 * Z 0 36 + v)) := by
  obtain ⟨⟨a1, a2, a3, a4⟩, b0, b1, b2, b3, b4, b5, b6, b7, b8, b9, b10⟩ := hF
  refine ⟨⟨a1, a2, a3, a4⟩, b0, b1, b2, b3, b4, b5, b6, b7, b8, b9, ?_⟩
  have e : Z 0 36 = h := b10
  show 31 * Z 0 36 + v = 31 * h + v
  rw [e]
theorem hM_say {Y Z : ax_Mem} {P : Int → ax_Mem → Prop} {h v : Int} (hF : FS (ax_u Y 0 36 h) Z) (k : FS (ax_u Y 0 36 (31 * h + v)) (ax_u Z 0 36 (31 * Z 0 36 + v)) → P 0 (ax_u Z 0 36 (31 * Z 0 36 + v))) : kM_say [.inr (.inr 0), .inr (.inl v)] Z P := eM_say (k (fh_say hF))
theorem inv_h {t : Int} {X Y : ax_Mem} {h : Int} (hi : INV t X Y) : INV t X (ax_u Y 0 36 h) := by
  obtain ⟨i1, i2, i3, i4, i5, i6, i7, i8⟩ := hi
  exact ⟨i1, i2, i3, i4, i5, CL_of i6 (fun _ _ _ => rfl) rfl rfl rfl, i7, i8⟩
theorem hM_sayCalls {t : Int} {X Y Y0 : ax_Mem} {P : Int → ax_Mem → Prop} {h0 : Int} (hi : INV t X Y) (hr2 : 2 ≤ X 1 0) (hF0 : FS (ax_u Y 0 36 h0) Y0) (k : ∀ Z, FS (ax_u Y 0 36 (hA X h0)) Z → P 0 Z) : kM_sayCalls [.inr (.inr 0)] Y0 P := by
  obtain ⟨i1, i2, i3, i4, i5, i6, i7, i8⟩ := id hi
  have hw1 := i1.1
  have i61 := i6.1
  have rp : ∀ {h : Int} {Z : ax_Mem}, FS (ax_u Y 0 36 h) Z → RP X Z := fun hF => FS_RP hF i2
  have rk : ∀ {h : Int} {Z : ax_Mem} (c : Nat), (c : Int) < X 0 9 → FS (ax_u Y 0 36 h) Z → RK X Z c := fun c hc hF => RK_of (hi.rk c hc) hF.1.2.2.1
  have y8 : ∀ {h : Int} {Z : ax_Mem}, FS (ax_u Y 0 36 h) Z → Z 0 8 = X 0 9 := fun hF => hF.2.2.2.2.2.2.2.1.trans i6.2.1
  apply eM_sayCalls
  refine up_loop (Q := fun c => ∀ Z, FS (ax_u Y 0 36 (hCs X c h0)) Z → jM_sayCalls P 2 [(0, .inr (.inr 0)), (1, .inl (c : Int))] [] Z) (X 0 9).toNat ?_ ?_ 0 (Nat.zero_le _) Y0 hF0
  · intro Z hF
    apply gM_sayCalls_2
    rw [y8 hF]
    refine ⟨fun _ => ?_, fun q => by omega⟩
    refine up_loop (Q := fun m => ∀ Z, FS (ax_u Y 0 36 (hO X m (hCs X (X 0 9).toNat h0))) Z → jM_sayCalls P 89 [(0, .inr (.inr 0)), (1, .inl (m : Int))] [] Z) 3 ?_ ?_ 0 (Nat.zero_le _) Z hF
    · intro Z2 hF2
      apply gM_sayCalls_89
      refine ⟨fun _ => ?_, fun q => by omega⟩
      apply hM_leastOf i1 hr2 hi.ck (rp hF2) (y8 hF2) (fun c hc => rk c hc hF2)
      intro Z3 hF3
      refine hM_say (hF2.tr hF3) (fun hF4 => ?_)
      refine up_loop (Q := fun w => ∀ Z, FS (ax_u Y 0 36 (hMx X w (31 * hO X 3 (hCs X (X 0 9).toNat h0) + leV X))) Z → jM_sayCalls P 121 [(0, .inr (.inr 0)), (1, .inl (w : Int))] [] Z) 3 ?_ ?_ 0 (Nat.zero_le _) _ hF4
      · intro Z5 hF5
        apply gM_sayCalls_121
        exact ⟨fun _ => k Z5 hF5, fun q => by omega⟩
      · intro w hw hQ Z5 hF5
        apply gM_sayCalls_121
        refine ⟨fun q => by omega, fun _ => ?_⟩
        apply hM_mixedOf i1 hr2 (rp hF5) (by omega)
        intro Z6 hF6
        refine hM_say (hF5.tr hF6) (fun hF7 => ?_)
        rw [to1]
        exact ⟨by omega, hQ _ hF7⟩
    · intro m hm hQ Z2 hF2
      apply gM_sayCalls_89
      refine ⟨fun q => by omega, fun _ => ?_⟩
      apply hM_goOut i1 (by omega) (rp hF2)
      intro Z3 hF3 _
      refine hM_say (hF2.tr hF3) (fun hF4 => ?_)
      rw [to1]
      exact ⟨by omega, hQ _ hF4⟩
  · intro c hc hQ Z hF
    apply gM_sayCalls_2
    rw [y8 hF]
    refine ⟨fun q => by omega, fun _ => ?_⟩
    have hQ2 : ∀ Z, FS (ax_u Y 0 36 (hC3 X c (hCs X c h0))) Z → jM_sayCalls P 2 [(0, .inr (.inr 0)), (1, .inl ((c + 1 : Nat) : Int))] [] Z := hQ
    generalize hCs X c h0 = h1 at hF hQ2
    have hcn : (c : Int) < X 0 9 := by omega
    refine hM_prep (P := fun _ M4 => jM_sayCalls P 22 [(0, .inr (.inr 0)), (1, .inl (c : Int)), (2, .inl 0)] [] M4) (by omega) (by omega) i1 (hi.ck.2 c hcn) (rp hF) (rk c hcn hF) ?_
    intro Z2 hZ2 hF2
    refine up_loop (Q := fun i => ∀ Z, QN Z (X 2 7).toNat (od X c 3) → FS (ax_u Y 0 36 (fo (od X c 3) i h1)) Z → jM_sayCalls P 22 [(0, .inr (.inr 0)), (1, .inl (c : Int)), (2, .inl (i : Int))] [] Z) (X 2 7).toNat ?_ ?_ 0 (Nat.zero_le _) Z2 hZ2.2.2 (hF.tr hF2)
    · intro Z3 hZ3 hF3
      apply gM_sayCalls_22
      rw [hZ3.1]
      refine ⟨fun _ => ?_, fun q => by omega⟩
      have hv : VW X (gc X (X 1 0) (X 5) 3 (od X c 3)) 3 (od X c 3) := gc_gv X (X 1 0) (X 5) 3 (od X c 3)
      refine up_loop (Q := fun i => ∀ Z, FS (ax_u Y 0 36 (hC2 X c i h1)) Z → jM_sayCalls P 49 [(0, .inr (.inr 0)), (1, .inl (c : Int)), (2, .inl (i : Int))] [] Z) 3 ?_ ?_ 0 (Nat.zero_le _) Z3 hF3
      · intro Z4 hF4
        apply gM_sayCalls_49
        refine ⟨fun _ => ?_, fun q => by omega⟩
        apply hM_doorsOf hcn i1 hr2 hi.ck (rp hF4) (rk c hcn hF4)
        intro Z5 hF5
        refine hM_say (hF4.tr hF5) (fun hF6 => ?_)
        rw [to1]
        exact ⟨by omega, hQ2 _ hF6⟩
      · intro i hi2 hQ3 Z4 hF4
        apply gM_sayCalls_49
        refine ⟨fun q => by omega, fun _ => ?_⟩
        apply hM_boardOf (by omega) i1 hr2 (hi.ck.2 c hcn) (rp hF4) (rk c hcn hF4) hv
        intro Z5 hF5
        refine hM_say (hF4.tr hF5) (fun hF6 => ?_)
        rw [to1]
        exact ⟨by omega, hQ3 _ hF6⟩
    · intro i hi2 hQ3 Z3 hZ3 hF3
      apply gM_sayCalls_22
      simp only [Int.toNat_natCast]
      rw [hZ3.1, hZ3.2 i hi2]
      refine ⟨fun q => by omega, fun _ => ⟨by omega, ?_⟩⟩
      refine hM_say hF3 (fun hF4 => ?_)
      rw [to1]
      exact hQ3 _ hZ3 hF4
theorem q_digest {t : Int} {X Y : ax_Mem} (hi : INV t X Y) : kX_digest [.inr (.inr 0)] X (fun r X2 => kM_digest [.inr (.inr 0)] Y (fun r2 Y2 => r2 = r ∧ INV (t + 1) X2 Y2)) := by
  obtain ⟨i1, i2, i3, i4, i5, i6, i7, i8⟩ := id hi
  have hw1 := i1.1
  have p1 := i5.1
  apply hX_digest hi
  intro V hV
  have rp : ∀ {h : Int} {Z : ax_Mem}, FS (ax_u Y 0 36 h) Z → RP X Z := fun hF => FS_RP hF i2
  have hinv : ∀ {h : Int} {Z : ax_Mem}, FS (ax_u Y 0 36 h) Z → INV (t + 1) V Z := fun {h} {Z} hF => inv_fr (inv_h (h := h) hi) hV hF (by omega)
  have hinX : ∀ {h : Int} {Z : ax_Mem}, FS (ax_u Y 0 36 h) Z → INV (t + 1) X Z := fun {h} {Z} hF => inv_fr (inv_h (h := h) hi) (XF.rf X) hF (by omega)
  have tail : ∀ Z, FS (ax_u Y 0 36 (hB X)) Z → jM_digest (fun r2 Y2 => r2 = hD X ∧ INV (t + 1) V Y2) 50 [(0, .inr (.inr 0)), (1, .inl 0)] [] Z := by
    intro Z hF
    refine up_loop (Q := fun i => ∀ Z, FS (ax_u Y 0 36 (fo (X 14) i (hB X))) Z → jM_digest (fun r2 Y2 => r2 = hD X ∧ INV (t + 1) V Y2) 50 [(0, .inr (.inr 0)), (1, .inl (i : Int))] [] Z) (X 13 1).toNat ?_ ?_ 0 (Nat.zero_le _) Z hF
    · intro Z2 hF2
      have y7 := (hinX hF2).2.2.2.2.1.2.1
      apply gM_digest_50
      rw [y7]
      refine ⟨fun _ => ?_, fun q => by omega⟩
      refine up_loop (Q := fun i => ∀ Z, FS (ax_u Y 0 36 (fo (fun a => coV X (a : Int)) i (fo (X 14) (X 13 1).toNat (hB X)))) Z → jM_digest (fun r2 Y2 => r2 = hD X ∧ INV (t + 1) V Y2) 77 [(0, .inr (.inr 0)), (1, .inl (i : Int))] [] Z) 9 ?_ ?_ 0 (Nat.zero_le _) Z2 hF2
      · intro Z3 hF3
        apply gM_digest_77
        refine ⟨fun _ => ⟨?_, hinv hF3⟩, fun q => by omega⟩
        exact hF3.2.2.2.2.2.2.2.2.2.2.2
      · intro i hi2 hQ Z3 hF3
        apply gM_digest_77
        refine ⟨fun q => by omega, fun _ => ?_⟩
        apply hM_countOf (hinX hF3)
        refine hM_say hF3 (fun hF4 => ?_)
        rw [to1]
        exact ⟨by omega, hQ _ hF4⟩
    · intro i hi2 hQ Z2 hF2
      have g := (hinX hF2).2.2.2.2.1
      apply gM_digest_50
      simp only [Int.toNat_natCast]
      rw [g.2.1, (g.2.2 i (by omega)).1]
      refine ⟨fun q => by omega, fun _ => ⟨by omega, ?_⟩⟩
      refine hM_say hF2 (fun hF4 => ?_)
      rw [to1]
      exact hQ _ hF4
  apply eM_digest
  refine up_loop (Q := fun i => ∀ Z, FS (ax_u Y 0 36 (hP X i)) Z → jM_digest (fun r2 Y2 => r2 = hD X ∧ INV (t + 1) V Y2) 9 [(0, .inr (.inr 0)), (1, .inl (i : Int))] [] Z) (7 * (X 2 7).toNat) ?_ ?_ 0 (Nat.zero_le _) _ (FS.rf _)
  · intro Z hF
    have hr := rp hF
    apply gM_digest_9
    rw [hr.1.2.2.2]
    refine ⟨by omega, fun _ => ?_, fun q => by omega⟩
    apply hM_lacks
    rw [hr.1.1]
    by_cases c0 : X 1 0 = 0
    · rw [if_pos c0]
      have hb : hB X = hP X (7 * (X 2 7).toNat) := by unfold hB; rw [if_pos c0]
      exact ⟨fun _ => tail Z (by rw [hb]; exact hF), fun q => absurd q (by decide)⟩
    · rw [if_neg c0]
      have hb : hB X = hA X (hP X (7 * (X 2 7).toNat)) := by unfold hB; rw [if_neg c0]
      refine ⟨fun q => absurd rfl q, fun _ => ?_⟩
      apply hM_sayCalls hi (by omega) hF
      intro Z2 hF2
      exact tail Z2 (by rw [hb]; exact hF2)
  · intro i hi2 hQ Z hF
    have hr := rp hF
    have hte := te_M (p := i / 7) (w := i % 7) hr (by omega) (by omega)
    rw [show 7 * (i / 7) + i % 7 = i by omega] at hte
    apply gM_digest_9
    simp only [Int.toNat_natCast]
    rw [hr.1.2.2.2, hte]
    refine ⟨by omega, fun q => by omega, fun _ => ⟨by omega, ?_⟩⟩
    refine hM_say hF (fun hF4 => ?_)
    rw [to1]
    exact hQ _ hF4
