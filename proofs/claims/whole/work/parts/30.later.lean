/-! sits, stands, later, least -/
/-- two refusals as sits, later have them -/
theorem ref2X {X : ax_Mem} {G : ax_Mem → Prop} {P : Int → ax_Mem → Prop} {a p : Int} (h1 : ¬ ((0 ≤ a ∧ a < X 0 9) ∧ (0 ≤ p ∧ p < X 2 7)) → P (-101) X) (h2 : 0 ≤ a ∧ a < X 0 9 → 0 ≤ p ∧ p < X 2 7 → G X) : kX_hasCall [.inr (.inr 0), .inl a] X (fun r1 M2 => (r1 = 0 → P (-101) M2) ∧ (¬ r1 = 0 → kE_has [.inr (.inr 2), .inl p] M2 (fun r3 M4 => (¬ r3 = 0 → G M4) ∧ (r3 = 0 → P (-101) M4)))) := by
  apply hX_hasCall
  by_cases c1 : 0 ≤ a ∧ a < X 0 9
  · rw [if_pos c1]
    refine ⟨fun q => absurd q (by decide), fun _ => ?_⟩
    apply hE_has
    by_cases c2 : 0 ≤ p ∧ p < X 2 7
    · rw [if_pos c2]; exact ⟨fun _ => h2 c1 c2, fun q => absurd q (by decide)⟩
    · rw [if_neg c2]; exact ⟨fun q => absurd rfl q, fun _ => h1 (fun z => c2 z.2)⟩
  · rw [if_neg c1]; exact ⟨fun _ => h1 (fun z => c1 z.1), fun q => absurd rfl q⟩
theorem ref2M {t : Int} {X Y : ax_Mem} {H : ax_Mem → Prop} {P : Int → ax_Mem → Prop} {a p : Int} (hi : INV t X Y) (h1 : ¬ ((0 ≤ a ∧ a < X 0 9) ∧ (0 ≤ p ∧ p < X 2 7)) → P (-101) Y) (h2 : 0 ≤ a ∧ a < X 0 9 → 0 ≤ p ∧ p < X 2 7 → H Y) : kM_isCall [.inr (.inr 0), .inl a] Y (fun r1 M2 => (r1 = 0 → P (-101) M2) ∧ (¬ r1 = 0 → kM_isPerson [.inr (.inr 0), .inl p] M2 (fun r3 M4 => (¬ r3 = 0 → H M4) ∧ (r3 = 0 → P (-101) M4)))) := by
  obtain ⟨i1, i2, i3, i4, i5, i6, i7, i8⟩ := hi
  have i61 := i6.1
  have y8 := i6.2.1
  have y4 := i2.1.2.2.2
  have w1 := i1.1
  apply hM_isCall (by omega)
  by_cases c1 : 0 ≤ a ∧ a < X 0 9
  · rw [if_pos (by omega)]
    refine ⟨fun q => absurd q (by decide), fun _ => ?_⟩
    apply hM_isPerson (by omega)
    by_cases c2 : 0 ≤ p ∧ p < X 2 7
    · rw [if_pos (by omega)]; exact ⟨fun _ => h2 c1 c2, fun q => absurd q (by decide)⟩
    · rw [if_neg (by omega)]; exact ⟨fun q => absurd rfl q, fun _ => h1 (fun z => c2 z.2)⟩
  · rw [if_neg (by omega)]; exact ⟨fun _ => h1 (fun z => c1 z.1), fun q => absurd rfl q⟩
theorem rows_of {t : Int} {X Y : ax_Mem} {p : Int} (h : INV t X Y) (hp : 0 ≤ p ∧ p < X 2 7) : 2 ≤ X 1 0 := by
  have := (h.1.2.2 p.toNat (by omega)).2.2.1
  have := h.2.2.1.1
  omega
/-- one person of a boarding, beside the reference -/
theorem rb_of {X V Z : ax_Mem} {mb : Int} {w : Nat → Int} {p : Nat} (hw : WP X) (hv : VW X V mb w) (hp : PM (X 2 7).toNat w) (hZ : RB (bE V) Z) (hpp : (p : Int) < X 2 7) : RBp (bE V) Z p := by
  obtain ⟨e12, e47⟩ := bE_47 hw hv hp
  obtain ⟨i, hi, e⟩ := hp.2.2 p (by omega)
  have q := (hZ.2.1 i (by omega)).2
  rw [e47 i hi, e, Int.toNat_natCast] at q
  exact q
theorem q_sits {t : Int} {X Y : ax_Mem} {a p b : Int} (h : INV t X Y) : kX_sits [.inr (.inr 0), .inl a, .inl p, .inl b] X (fun r X2 => kM_sits [.inr (.inr 0), .inl a, .inl p, .inl b] Y (fun r2 Y2 => r2 = r ∧ INV (t + 1) X2 Y2)) := by
  apply ax_Ca
  intro har
  have hb : ax_r b := har (.inl b) (by simp)
  obtain ⟨i1, i2, i3, i4, i5, i6, i7, i8⟩ := id h
  have i61 := i6.1
  have w1 := i1.1
  apply eX_sits
  refine ref2X (P := fun r X2 => kM_sits [.inr (.inr 0), .inl a, .inl p, .inl b] Y (fun r2 Y2 => r2 = r ∧ INV (t + 1) X2 Y2)) (fun c1 => ?_) (fun c1 c2 => ?_)
  · apply eM_sits
    exact ref2M (P := fun r2 Y2 => r2 = (-101) ∧ INV (t + 1) X Y2) h (fun _ => ⟨rfl, inv_id h⟩) (fun y z => absurd ⟨y, z⟩ c1)
  · refine outX (P := fun r X2 => kM_sits [.inr (.inr 0), .inl a, .inl p, .inl b] Y (fun r2 Y2 => r2 = r ∧ INV (t + 1) X2 Y2)) (fun c3 => ?_) (fun c3 => ?_)
    · apply eM_sits
      refine ref2M (P := fun r2 Y2 => r2 = (-102) ∧ INV (t + 1) X Y2) h (fun z => absurd ⟨c1, c2⟩ z) (fun _ _ => ?_)
      exact inM (P := fun r2 Y2 => r2 = (-102) ∧ INV (t + 1) X Y2) hb (ax_r0 (by omega)) (ax_r0 (by omega)) (fun _ => ⟨rfl, inv_id h⟩) (fun z => absurd c3 z)
    · have hac : ((a.toNat : Nat) : Int) = a := by omega
      have hpc : ((p.toNat : Nat) : Int) = p := by omega
      have ik := i6.2.2 a.toNat (by omega)
      have hr2 := rows_of h c2
      have hp := od_PM X a.toNat 3
      rw [← hac]
      apply hX_boardBy (by omega) (by omega) i1 hr2 ik.1
      intro V hv
      rw [show (min (9999 : Int) 9999).toNat = 9999 by omega, show bo_run 9999 1 0 (bo_begin V) = bE V from rfl, hac]
      have fin : ∀ r : Int, r = (if b = 0 then bE V 50 p.toNat else if b = 1 then bE V 51 p.toNat else bE V (54 + p.toNat) (b - 2).toNat) → kM_sits [.inr (.inr 0), .inl a, .inl p, .inl b] Y (fun r2 Y2 => r2 = r ∧ INV (t + 1) (bE V) Y2) := by
        intro r hr
        apply eM_sits
        refine ref2M (P := fun r2 Y2 => r2 = r ∧ INV (t + 1) (bE V) Y2) h (fun z => absurd ⟨c1, c2⟩ z) (fun _ _ => ?_)
        refine inM (P := fun r2 Y2 => r2 = r ∧ INV (t + 1) (bE V) Y2) hb (ax_r0 (by omega)) (ax_r0 (by omega)) (fun z => absurd z c3) (fun _ => ?_)
        rw [← hac]
        apply hM_boardBy (by omega) i1 hr2 ik.1 i2 ik.2 hv
        intro Z hZ hM hF
        have hinv := inv_fr h (bE_vw i1 hv hp).x hF (show t ≤ t + 1 by omega)
        obtain ⟨b1, b2, b3, b4, b5, b6, b7, b8⟩ := rb_of i1 hv hp hZ (show ((p.toNat : Nat) : Int) < X 2 7 by omega)
        refine ⟨fun d1 => ⟨fun d2 => ⟨by omega, by omega, by omega, by omega, ?_, hinv⟩, fun d2 => ⟨by omega, ?_, hinv⟩⟩, fun d1 => ⟨by omega, ?_, hinv⟩⟩
        · rw [hr, if_neg d1, if_neg d2, b8 (b - 2).toNat (by omega)]
          congr 1
          omega
        · rw [hr, if_neg d1, if_pos d2, b5]
        · rw [hr, if_pos d1, b4]
      apply eB_tellOf
      refine ⟨fun d1 => ⟨fun d2 => ⟨by omega, by omega, by omega, fin _ (by rw [if_neg d1, if_neg d2])⟩, fun d2 => ⟨by omega, fin _ (by rw [if_neg d1, if_pos d2])⟩⟩, fun d1 => ⟨by omega, fin _ (by rw [if_pos d1])⟩⟩
-- ===== stands
theorem hM_standLoop {P : Int → ax_Mem → Prop} {last : Int} {cell : Nat} (hcell : cell < 12) : ∀ (n : Nat) (N s : Int) (cm : Nat) (X Y : ax_Mem), WB N cm X → N + 36 * n ≤ 1000000 → RB X Y → Y 0 25 = cm → 1 ≤ s → s + n = last + 1 → last ≤ 9999 → (∀ Z, RB (bo_run n s cm X) Z → FC Y Z → P (bo_run n s cm X 53 cell) Z) → jM_stands P 69 [(0, .inr (.inr 0)), (2, .inl last), (3, .inl (cell : Int)), (4, .inl s)] [] Y
  | 0, N, s, cm, X, Y, hw, hN, hR, hcm, hs, hs2, hl, h => by
    apply gM_stands_69
    refine ⟨fun _ => ⟨by omega, ?_⟩, fun c => by omega⟩
    have := h Y hR (FC.rf Y)
    rw [Int.toNat_natCast, ← (hR.2.2 cell hcell).1]
    exact this
  | n + 1, N, s, cm, X, Y, hw, hN, hR, hcm, hs, hs2, hl, h => by
    apply gM_stands_69
    have h1 := hR.1
    unfold bo_run at h
    refine ⟨fun c => by omega, fun _ => ⟨fun c => ⟨by omega, ?_⟩, fun c => ?_⟩⟩
    · rw [if_pos (by omega)] at h
      have := h Y hR (FC.rf Y)
      rw [Int.toNat_natCast, ← (hR.2.2 cell hcell).1]
      exact this
    · rw [if_neg (by omega)] at h
      apply hM_goSecond hw (by omega) hR hcm
      intro Z hZ hZ25 hF
      refine ⟨by omega, ?_⟩
      exact hM_standLoop hcell n (N + 36) (s + 1) _ _ Z (wb_ent (wb_two s hw)) (by omega) hZ hZ25 (by omega) (by omega) hl (fun Z2 hZ2 hF2 => h Z2 hZ2 (hF.tr hF2))
theorem q_stands {t : Int} {X Y : ax_Mem} {a b d : Int} (h : INV t X Y) : kX_stands [.inr (.inr 0), .inl a, .inl b, .inl d] X (fun r X2 => kM_stands [.inr (.inr 0), .inl a, .inl b, .inl d] Y (fun r2 Y2 => r2 = r ∧ INV (t + 1) X2 Y2)) := by
  apply ax_Ca
  intro har
  have hb : ax_r b := har (.inl b) (by simp)
  have hd : ax_r d := har (.inl d) (by simp)
  obtain ⟨i1, i2, i3, i4, i5, i6, i7, i8⟩ := id h
  have i61 := i6.1
  have w2 := i1.2.1
  have y0 := i2.1.1
  have inM2 : ∀ {Y : ax_Mem} {P : Int → ax_Mem → Prop} {G : ax_Mem → Prop} {r : Int}, (b < 1 ∨ 999 < b → P r Y) → (¬ (b < 1 ∨ 999 < b) → G Y) → kM_in [.inr (.inl b), .inr (.inl 1), .inr (.inl 999)] Y (fun r5 M6 => (r5 = 0 → P r M6) ∧ (¬ r5 = 0 → G M6)) := by
    intro Y P G r h1 h2
    exact ax_C_mono (fun _ _ z => ⟨z.2, z.1⟩) (inM hb (ax_r0 (by omega)) (ax_r0 (by omega)) h1 h2)
  have outX2 : ∀ {X : ax_Mem} {P : Int → ax_Mem → Prop} {G : ax_Mem → Prop} {r : Int}, (b < 1 ∨ 999 < b → P r X) → (¬ (b < 1 ∨ 999 < b) → G X) → kX_outside [.inl b, .inl 1, .inl 999] X (fun r5 M6 => (¬ r5 = 0 → P r M6) ∧ (r5 = 0 → G M6)) := by
    intro Y P G r h1 h2
    exact ax_C_mono (fun _ _ z => ⟨z.2, z.1⟩) (outX h1 h2)
  apply eX_stands
  refine refX (P := fun r X2 => kM_stands [.inr (.inr 0), .inl a, .inl b, .inl d] Y (fun r2 Y2 => r2 = r ∧ INV (t + 1) X2 Y2)) (fun c1 => ?_) (fun c1 c2 => ?_) (fun c1 c2 => ?_)
  · apply eM_stands
    exact refM (P := fun r2 Y2 => r2 = (-101) ∧ INV (t + 1) X Y2) h (fun _ => ⟨rfl, inv_id h⟩) (fun z => absurd z c1) (fun z => absurd z c1)
  · apply eM_stands
    exact refM (P := fun r2 Y2 => r2 = (-103) ∧ INV (t + 1) X Y2) h (fun z => absurd c1 z) (fun _ _ => ⟨rfl, inv_id h⟩) (fun _ z => absurd c2 z)
  · refine outX2 (P := fun r X2 => kM_stands [.inr (.inr 0), .inl a, .inl b, .inl d] Y (fun r2 Y2 => r2 = r ∧ INV (t + 1) X2 Y2)) (fun c3 => ?_) (fun c3 => ⟨by omega, ?_⟩)
    · apply eM_stands
      refine refM (P := fun r2 Y2 => r2 = (-102) ∧ INV (t + 1) X Y2) h (fun z => absurd c1 z) (fun _ z => absurd z c2) (fun _ _ => ?_)
      exact inM2 (P := fun r2 Y2 => r2 = (-102) ∧ INV (t + 1) X Y2) (fun _ => ⟨rfl, inv_id h⟩) (fun z => absurd c3 z)
    · refine outX (P := fun r X2 => kM_stands [.inr (.inr 0), .inl a, .inl b, .inl d] Y (fun r2 Y2 => r2 = r ∧ INV (t + 1) X2 Y2)) (fun c4 => ?_) (fun c4 => ?_)
      · apply eM_stands
        refine refM (P := fun r2 Y2 => r2 = (-102) ∧ INV (t + 1) X Y2) h (fun z => absurd c1 z) (fun _ z => absurd z c2) (fun _ _ => ?_)
        refine inM2 (P := fun r2 Y2 => r2 = (-102) ∧ INV (t + 1) X Y2) (fun _ => ⟨rfl, inv_id h⟩) (fun _ => ⟨by omega, ?_⟩)
        exact inM (P := fun r2 Y2 => r2 = (-102) ∧ INV (t + 1) X Y2) hd (ax_r0 (by omega)) (ax_r0 (by omega)) (fun _ => ⟨rfl, inv_id h⟩) (fun z => by omega)
      · have hac : ((a.toNat : Nat) : Int) = a := by omega
        have hdc : ((d.toNat : Nat) : Int) = d := by omega
        have ik := i6.2.2 a.toNat (by omega)
        have hr2 : 2 ≤ X 1 0 := by omega
        have hp := od_PM X a.toNat 3
        rw [← hac]
        apply hX_boardBy (by omega) (by omega) i1 hr2 ik.1
        intro V hv
        refine ⟨by omega, ?_⟩
        rw [hac]
        have hlv := vw_LV i1 hv hp
        have hwb := vw_WB i1 hr2 (by omega) hv hp
        apply eM_stands
        refine refM (P := fun r2 Y2 => r2 = bo_run (min b 9999).toNat 1 0 (bo_begin V) 53 d.toNat ∧ INV (t + 1) (bo_run (min b 9999).toNat 1 0 (bo_begin V)) Y2) h (fun z => absurd c1 z) (fun _ z => absurd z c2) (fun _ _ => ?_)
        refine inM2 (P := fun r2 Y2 => r2 = bo_run (min b 9999).toNat 1 0 (bo_begin V) 53 d.toNat ∧ INV (t + 1) (bo_run (min b 9999).toNat 1 0 (bo_begin V)) Y2) (fun z => absurd z c3) (fun _ => ⟨by omega, ?_⟩)
        refine inM (P := fun r2 Y2 => r2 = bo_run (min b 9999).toNat 1 0 (bo_begin V) 53 d.toNat ∧ INV (t + 1) (bo_run (min b 9999).toNat 1 0 (bo_begin V)) Y2) hd (ax_r0 (by omega)) (ax_r0 (by omega)) (fun z => by omega) (fun _ => ?_)
        rw [← hac]
        refine hM_prep (P := fun _ M13 => kM_beginBoard [.inr (.inr 0)] M13 (fun _ M15 => jM_stands (fun r2 Y2 => r2 = bo_run (min b 9999).toNat 1 0 (bo_begin V) 53 d.toNat ∧ INV (t + 1) (bo_run (min b 9999).toNat 1 0 (bo_begin V)) Y2) 69 [(0, .inr (.inr 0)), (2, .inl b), (3, .inl d), (4, .inl 1)] [] M15)) (by omega) (by omega) i1 ik.1 i2 ik.2 ?_
        intro Z hZ hF
        apply hM_beginBoard
        rw [show (min b 9999).toNat = b.toNat by omega]
        have := hM_standLoop (P := fun r2 Y2 => r2 = bo_run b.toNat 1 0 (bo_begin V) 53 d.toNat ∧ INV (t + 1) (bo_run b.toNat 1 0 (bo_begin V)) Y2) (last := b) (cell := d.toNat) (by omega) b.toNat 0 1 0 (bo_begin V) (bb_3 Z) hwb (by omega) (rb_start hlv (vw_S0 i1 hv hp hZ)) rfl (by omega) (by omega) (by omega) (fun Z2 hZ2 hF2 => ⟨rfl, inv_fr h (vw_run hv b.toNat hlv).x (hF.tr ((FC_bb Z).tr hF2).s) (by omega)⟩)
        rw [hdc] at this
        exact this
