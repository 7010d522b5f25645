/-! later, least, swap -/
/-- a boarding that is opened, whoever stands in line -/
def BV (X V : ax_Mem) (mb : Int) : Prop := (∀ k, k < 40 → V k = X k) ∧ V 44 10 = X 1 0 ∧ V 44 11 = X 1 2 ∧ ∀ p : Nat, (p : Int) < X 2 7 → V 45 p = X 5 p ∧ V 46 p = min (X 8 p) mb
theorem VW.b {X V : ax_Mem} {mb : Int} {w : Nat → Int} (h : VW X V mb w) : BV X V mb := ⟨h.1, h.2.2.2.1, h.2.2.2.2.1, h.2.2.2.2.2⟩
theorem VW.l {X V : ax_Mem} {mb : Int} {w : Nat → Int} (hw : WP X) (h : VW X V mb w) : LN V (X 2 7).toNat w := by
  have := hw.1
  exact ⟨by rw [h.2.1]; omega, fun i hi => h.2.2.1 i (by omega)⟩
theorem BV.w {X V : ax_Mem} {mb : Int} {w : Nat → Int} (hw : WP X) (h : BV X V mb) (hl : LN V (X 2 7).toNat w) : VW X V mb w := by
  have := hw.1
  exact ⟨h.1, by rw [hl.1]; omega, fun i hi => hl.2 i (by omega), h.2.1, h.2.2.1, h.2.2.2⟩
theorem BV.f {X V Z : ax_Mem} {mb : Int} (h : BV X V mb) (hf : ∀ k, k < 40 ∨ k = 44 ∨ k = 45 ∨ k = 46 → Z k = V k) : BV X Z mb := by
  unfold BV
  rw [hf 44 (by omega), hf 45 (by omega), hf 46 (by omega)]
  exact ⟨fun k hk => (hf k (by omega)).trans (h.1 k hk), h.2⟩
theorem BV.fl {X V Z : ax_Mem} {mb : Int} (h : BV X V mb) (hf : FL V Z) : BV X Z mb := h.f (fun k _ => hf k (by omega) (by omega))
theorem bv_open {X Z : ax_Mem} {mb : Int} (hw : WP X) (hF : XF X Z) : BV X (op_w mb Z) mb := by
  have hw1 := hw.1
  have k : ∀ a, a ≠ 44 → a ≠ 45 → a ≠ 46 → op_w mb Z a = Z a := fun a h1 h2 h3 => op_w_k h1 h3 h2
  have e1 := hF 1 (by omega)
  have e2 := hF 2 (by omega)
  have e5 := hF 5 (by omega)
  have e8 := hF 8 (by omega)
  refine ⟨fun q hq => by rw [k q (by omega) (by omega) (by omega)]; exact hF q hq, ?_, ?_, fun p hp => ⟨?_, ?_⟩⟩
  · unfold op_w
    rw [op_2_k (by omega)]
    unfold op_0
    rw [op_1_k (by omega), ax_us (by omega), ax_uu, if_pos rfl, e1]
  · unfold op_w
    rw [op_2_k (by omega)]
    unfold op_0
    rw [op_1_k (by omega), ax_uu, if_pos rfl, e1]
  · unfold op_w
    rw [op_2_45, e2, if_pos (by omega), op_0_k (by omega) (by omega), e5]
  · unfold op_w
    rw [op_2_k (by omega)]
    unfold op_0
    rw [op_1_46, e2, if_pos (by omega), ax_u_cell (by omega), ax_u_cell (by omega), e8]
theorem XF_VW {X X2 V : ax_Mem} {mb : Int} {w : Nat → Int} (h : XF X X2) (hv : VW X2 V mb w) : VW X V mb w := by
  unfold VW at hv
  rw [h 1 (by omega), h 2 (by omega), h 5 (by omega), h 8 (by omega)] at hv
  exact ⟨fun k hk => (hv.1 k hk).trans (h k hk), hv.2⟩
/-- what a run keeps beside the view -/
theorem run_keep (V : ax_Mem) (n : Nat) : bo_run n 1 0 (bo_begin V) 42 = V 42 ∧ bo_run n 1 0 (bo_begin V) 43 = V 43 := by
  constructor
  · rw [bo_run_keep (by omega) (by omega) (by omega) (by omega) (by omega) (by omega) (by omega), bo_begin_k (by omega) (by omega) (by omega) (by omega) (by omega) (by omega) (by omega) (by omega)]
  · rw [bo_run_keep (by omega) (by omega) (by omega) (by omega) (by omega) (by omega) (by omega), bo_begin_k (by omega) (by omega) (by omega) (by omega) (by omega) (by omega) (by omega) (by omega)]
/-- the class boards those that stand in line -/
theorem hB_runT {X V : ax_Mem} {P : Int → ax_Mem → Prop} {mb : Int} {w : Nat → Int} (hw : WP X) (hr2 : 2 ≤ X 1 0) (hm : 0 ≤ mb ∧ mb ≤ 3) (hv : VW X V mb w) (hp : PM (X 2 7).toNat w) (k : ∀ Z, VW X Z mb w → Z 44 15 = TT X mb w → P 0 Z) : kB_run [.inr (.inr 44), .inr (.inr 40), .inl 9999] V P := by
  apply hB_run (vw_LV hw hv hp) (vw_WB hw hr2 hm hv hp)
  rw [show (min (9999 : Int) 9999).toNat = 9999 by omega]
  refine k _ (bE_vw hw hv hp) ?_
  rw [← TT_eq hw hr2 hm hv hp]
  exact bE_sec hw hr2 hm hv hp
theorem hB_thr {X V : ax_Mem} {P : Int → ax_Mem → Prop} {mb s : Int} {w : Nat → Int} (hw : WP X) (hr2 : 2 ≤ X 1 0) (hm : 0 ≤ mb ∧ mb ≤ 3) (hv : VW X V mb w) (hp : PM (X 2 7).toNat w) (hs : 1 ≤ s ∧ s ≤ 10000) (k0 : s ≤ TT X mb w → ∀ Z, VW X Z mb w → Z 42 = V 42 → Z 43 = V 43 → P 0 Z) (k1 : (TT X mb w : Int) < s → ∀ Z, VW X Z mb w → Z 42 = V 42 → Z 43 = V 43 → Z 44 15 = TT X mb w → P 1 Z) : kB_isThrough [.inr (.inr 44), .inr (.inr 40), .inl (s - 1)] V P := by
  have hl := vw_LV hw hv hp
  have hwb := vw_WB hw hr2 hm hv hp
  apply hB_isThrough hl hwb
  generalize hme : (min (s - 1) 9999).toNat = m
  have hms : (m : Int) = s - 1 := by omega
  have hdone := bE_done hwb
  have less := bo_run_less 9999 m 1 0 (bo_begin V) hdone
  have eT : bo_cnt 9999 1 0 (bo_begin V) = TT X mb w := TT_eq hw hr2 hm hv hp
  rw [eT] at less
  obtain ⟨cm2, hB⟩ := wb_run m 0 1 0 _ hwb
  have q1 := hB.2.2.1
  have q2 := hB.2.2.2.2.2.2.2.2.1
  have q3 := occ_0 (bo_run m 1 0 (bo_begin V) 53) 12
  obtain ⟨y1, y2⟩ := run_keep V m
  by_cases c : bo_run m 1 0 (bo_begin V) 44 13 = bo_run m 1 0 (bo_begin V) 44 12
  · rw [if_pos c]
    have lt := less.mp (by omega)
    refine k1 (by omega) _ (vw_run hv m hl) y1 y2 ?_
    have e15 := bo_run_15 m 0 1 0 (bo_begin V) hwb (by omega) (fun _ => by rw [(bo_begin_facts hl).2.2.2.2.2.1]; rfl)
    have mo := (bo_run_more m (9999 - m) 1 0 (bo_begin V) (by omega)).2
    rw [show m + (9999 - m) = 9999 by omega, eT] at mo
    omega
  · rw [if_neg c]
    refine k0 ?_ _ (vw_run hv m hl) y1 y2
    have : ¬ (TT X mb w ≤ m) := fun z => by have := less.mpr z; omega
    omega
theorem TT_pos {X : ax_Mem} {mb : Int} {w : Nat → Int} (hw : WP X) (hp : PM (X 2 7).toNat w) (hn : 1 ≤ X 2 7) : 1 ≤ TT X mb w := by
  have hv : VW X (gc X (X 1 0) (X 5) mb w) mb w := gc_gv X (X 1 0) (X 5) mb w
  have f := bo_begin_facts (vw_LV hw hv hp)
  have e12 := f.2.2.1
  rw [(vw_fn hw hv hp).1] at e12
  have e13 := f.2.2.2.1
  show 1 ≤ bo_cnt (9998 + 1) 1 0 (bo_begin (gc X (X 1 0) (X 5) mb w))
  unfold bo_cnt
  rw [if_neg (by omega)]
  omega
-- ===== later
theorem plf_at {w : Nat → Int} {p : Int} {n j : Nat} (hj : j < n) (e : w j = p) (hinj : ∀ i, i < n → w i = p → i = j) : plf w p n 0 = (j : Int) := by
  obtain ⟨k, e1, a, b, d⟩ := plf_in n 0 j (by omega) (by omega) e
  rw [e1, hinj k (by omega) d]
theorem q_later {t : Int} {X Y : ax_Mem} {a p : Int} (h : INV t X Y) : kX_later [.inr (.inr 0), .inl a, .inl p] X (fun r X2 => kM_later [.inr (.inr 0), .inl a, .inl p] Y (fun r2 Y2 => r2 = r ∧ INV (t + 1) X2 Y2)) := by
  obtain ⟨i1, i2, i3, i4, i5, i6, i7, i8⟩ := id h
  have i61 := i6.1
  have w1 := i1.1
  apply eX_later
  refine ref2X (P := fun r X2 => kM_later [.inr (.inr 0), .inl a, .inl p] Y (fun r2 Y2 => r2 = r ∧ INV (t + 1) X2 Y2)) (fun c1 => ?_) (fun c1 c2 => ?_)
  · apply eM_later
    exact ref2M (P := fun r2 Y2 => r2 = (-101) ∧ INV (t + 1) X Y2) h (fun _ => ⟨rfl, inv_id h⟩) (fun y z => absurd ⟨y, z⟩ c1)
  · have hac : ((a.toNat : Nat) : Int) = a := by omega
    have hpc : ((p.toNat : Nat) : Int) = p := by omega
    have ik := i6.2.2 a.toNat (by omega)
    have hr2 := rows_of h c2
    have hp := od_PM X a.toNat 3
    have hoa := oa_in hp (show p.toNat < (X 2 7).toNat by omega)
    rw [hpc] at hoa
    generalize hA : oa (od X a.toNat 3) (X 2 7).toNat p.toNat = A at hoa
    have hp2 := PM_mov (b := (X 2 7).toNat - 1) hp hoa.2.1 (by omega) hoa.2.2
    rw [← hac]
    apply hX_lineUp (by omega) i1 ik.1
    intro Z hZ hF
    apply hN_takeOut (by omega) hZ hoa.1 hoa.2.1
    intro Z2 hZ2 hF2
    rw [hZ2.1]
    apply hN_putIn (by omega) (Nat.le_refl _) hZ2
    intro Z3 hZ3 hF3
    rw [show (X 2 7).toNat - 1 + 1 = (X 2 7).toNat by omega] at hZ3
    have hx3 : XF X Z3 := ((hF.tr hF2).tr hF3).x
    apply hB_openWhole (by rw [hx3 2 (by omega)]; exact w1)
    have hv := vw_open (mb := 3) i1 hZ3 hx3
    apply hB_runT i1 hr2 (by omega) hv hp2
    intro V hV hV15
    rw [hV15, hac]
    apply eM_later
    refine ref2M (P := fun r2 Y2 => r2 = (TT X 3 (ins (del (od X a.toNat 3) A) ((X 2 7).toNat - 1) p) : Int) ∧ INV (t + 1) V Y2) h (fun z => absurd ⟨c1, c2⟩ z) (fun _ _ => ?_)
    rw [← hac]
    refine hM_prep (P := fun _ M8 => (-2147483648 ≤ ((M8 0 17) - 1) ∧ ((M8 0 17) - 1) < 2147483648) ∧ (0 ≤ ((M8 0 17) - 1) ∧ ((M8 0 17) - 1) < 12) ∧ ((M8 7 (((M8 0 17) - 1).toNat)) = p → kM_boardAll [.inr (.inr 0)] M8 (fun r11 M12 => r11 = (TT X 3 (ins (del (od X a.toNat 3) A) ((X 2 7).toNat - 1) p) : Int) ∧ INV (t + 1) V M12)) ∧ (¬ (M8 7 (((M8 0 17) - 1).toNat)) = p → kM_put [.inr (.inr 0), .inl p, .inl (M8 7 (((M8 0 17) - 1).toNat))] M8 (fun _ M14 => kM_boardAll [.inr (.inr 0)] M14 (fun r15 M16 => r15 = (TT X 3 (ins (del (od X a.toNat 3) A) ((X 2 7).toNat - 1) p) : Int) ∧ INV (t + 1) V M16)))) (by omega) (by omega) i1 ik.1 i2 ik.2 ?_
    intro W hW hFW
    have eW := hW.2.2.1
    have fin : ∀ W2, MW X W2 3 (ins (del (od X a.toNat 3) A) ((X 2 7).toNat - 1) p) → FS Y W2 → kM_boardAll [.inr (.inr 0)] W2 (fun r15 M16 => r15 = (TT X 3 (ins (del (od X a.toNat 3) A) ((X 2 7).toNat - 1) p) : Int) ∧ INV (t + 1) V M16) := by
      intro W2 hW2 hFW2
      apply hM_all i1 hr2 (by omega) hv hp2 hW2
      intro W3 hW3 hM3 hF3
      exact ⟨by rw [TT_eq i1 hr2 (by omega) hv hp2], inv_fr h hV.x (hFW2.tr hF3) (by omega)⟩
    rw [show (W 0 17 - 1).toNat = (X 2 7).toNat - 1 by omega, hW.2.2.2 _ (by omega)]
    refine ⟨by omega, by omega, fun c => ?_, fun c => ?_⟩
    · have hAe : A = (X 2 7).toNat - 1 := hp.2.1 _ _ hoa.2.1 (by omega) (by rw [hoa.2.2, c])
      refine fin W ⟨hW.1, hW.2.1, hW.2.2.1, fun i hi => ?_⟩ hFW
      rw [hW.2.2.2 i hi]
      unfold ins del
      by_cases d : i < (X 2 7).toNat - 1
      · rw [if_pos d, if_pos (by omega)]
      · rw [if_neg d, if_pos (by omega), ← c]
        congr 1
        omega
    · have hne : A ≠ (X 2 7).toNat - 1 := fun z => c (by rw [← z, hoa.2.2])
      have hde : ∀ i, i < (X 2 7).toNat - 1 → del (od X a.toNat 3) A i = od X a.toNat 3 ((X 2 7).toNat - 1) → i = (X 2 7).toNat - 2 := by
        intro i hi e
        unfold del at e
        by_cases d : i < A
        · rw [if_pos d] at e
          have := hp.2.1 _ _ (by omega) (by omega) e
          omega
        · rw [if_neg d] at e
          have := hp.2.1 _ _ (by omega) (by omega) e
          omega
      have hpl := plf_at (w := del (od X a.toNat 3) A) (p := od X a.toNat 3 ((X 2 7).toNat - 1)) (n := (X 2 7).toNat - 1) (j := (X 2 7).toNat - 2) (by omega) (by unfold del; rw [if_neg (by omega)]; congr 1; omega) hde
      rw [← hpc]
      refine hM_put (b := (X 2 7).toNat - 1) (by omega) hW.2.2 (by rw [hpc]; exact hoa.1) hoa.2.1 (by rw [hpl]; omega) (by omega) ?_
      intro W2 hW2 hF2
      rw [hpc]
      rw [hpc] at hW2
      exact fin W2 ⟨FQ_RP hF2 hW.1, FQ_RL hF2 hW.2.1, hW2⟩ (hFW.tr hF2.s)
