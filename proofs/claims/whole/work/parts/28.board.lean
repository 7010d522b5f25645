/-! board, sits, bound, later, least -/
theorem refX {X : ax_Mem} {G : ax_Mem → Prop} {P : Int → ax_Mem → Prop} {a : Int} (h1 : ¬ (0 ≤ a ∧ a < X 0 9) → P (-101) X) (h2 : 0 ≤ a ∧ a < X 0 9 → X 1 0 = 0 → P (-103) X) (h3 : 0 ≤ a ∧ a < X 0 9 → ¬ X 1 0 = 0 → G X) : kX_refusalOf [.inr (.inr 0), .inl a] X (fun r1 M2 => (r1 = 0 → G M2) ∧ (¬ r1 = 0 → P r1 M2)) := by
  apply hX_refusalOf
  by_cases c1 : 0 ≤ a ∧ a < X 0 9
  · rw [if_pos c1]
    by_cases c2 : X 1 0 = 0
    · rw [if_pos c2]; exact ⟨fun q => absurd q (by decide), fun _ => h2 c1 c2⟩
    · rw [if_neg c2]; exact ⟨fun _ => h3 c1 c2, fun q => absurd rfl q⟩
  · rw [if_neg c1]; exact ⟨fun q => absurd q (by decide), fun _ => h1 c1⟩
theorem refM {t : Int} {X Y : ax_Mem} {H : ax_Mem → Prop} {P : Int → ax_Mem → Prop} {a : Int} (hi : INV t X Y) (h1 : ¬ (0 ≤ a ∧ a < X 0 9) → P (-101) Y) (h2 : 0 ≤ a ∧ a < X 0 9 → X 1 0 = 0 → P (-103) Y) (h3 : 0 ≤ a ∧ a < X 0 9 → ¬ X 1 0 = 0 → H Y) : kM_isCall [.inr (.inr 0), .inl a] Y (fun r1 M2 => (¬ r1 = 0 → kM_lacks [.inr (.inr 0)] M2 (fun r3 M4 => (r3 = 0 → H M4) ∧ (¬ r3 = 0 → P (-103) M4))) ∧ (r1 = 0 → P (-101) M2)) := by
  obtain ⟨i1, i2, i3, i4, i5, i6, i7, i8⟩ := hi
  have i61 := i6.1
  have y8 := i6.2.1
  have y0 := i2.1.1
  apply hM_isCall (by omega)
  by_cases c1 : 0 ≤ a ∧ a < X 0 9
  · rw [if_pos (by omega)]
    refine ⟨fun _ => ?_, fun q => absurd q (by decide)⟩
    apply hM_lacks
    by_cases c2 : X 1 0 = 0
    · rw [if_pos (by omega)]; exact ⟨fun q => absurd q (by decide), fun _ => h2 c1 c2⟩
    · rw [if_neg (by omega)]; exact ⟨fun _ => h3 c1 c2, fun q => absurd rfl q⟩
  · rw [if_neg (by omega)]; exact ⟨fun q => absurd rfl q, fun _ => h1 c1⟩
theorem outX {X : ax_Mem} {P : Int → ax_Mem → Prop} {G : ax_Mem → Prop} {v a b r : Int} (h1 : v < a ∨ b < v → P r X) (h2 : ¬ (v < a ∨ b < v) → G X) : kX_outside [.inl v, .inl a, .inl b] X (fun r3 M4 => (r3 = 0 → G M4) ∧ (¬ r3 = 0 → P r M4)) := by
  apply hX_outside
  by_cases c : v < a ∨ b < v
  · rw [if_pos c]; exact ⟨fun q => absurd q (by decide), fun _ => h1 c⟩
  · rw [if_neg c]; exact ⟨fun _ => h2 c, fun q => absurd rfl q⟩
theorem inM {Y : ax_Mem} {P : Int → ax_Mem → Prop} {G : ax_Mem → Prop} {v a b r : Int} (hv : ax_r v) (ha : ax_r a) (hb : ax_r b) (h1 : v < a ∨ b < v → P r Y) (h2 : ¬ (v < a ∨ b < v) → G Y) : kM_in [.inr (.inl v), .inr (.inl a), .inr (.inl b)] Y (fun r5 M6 => (¬ r5 = 0 → G M6) ∧ (r5 = 0 → P r M6)) := by
  apply hM_in hv ha hb
  by_cases c : v < a ∨ b < v
  · rw [if_neg (by omega)]; exact ⟨fun q => absurd rfl q, fun _ => h1 c⟩
  · rw [if_pos (by omega)]; exact ⟨fun _ => h2 c, fun q => absurd q (by decide)⟩
theorem inv_id {t : Int} {X Y : ax_Mem} (h : INV t X Y) : INV (t + 1) X Y := inv_fr h (XF.rf X) (FS.rf Y) (by omega)
theorem ax_r0 {v : Int} (h : -1000000 ≤ v ∧ v ≤ 1000000) : ax_r v := ⟨by omega, by omega⟩
/-- the reference's boardBy beside a boarding of the class -/
theorem hM_boardBy {X Y V : ax_Mem} {P : Int → ax_Mem → Prop} {c : Nat} (hc : c < 8) (hw : WP X) (hr2 : 2 ≤ X 1 0) (hk : WK X c) (hr : RP X Y) (hrk : RK X Y c) (hv : VW X V 3 (od X c 3)) (k : ∀ Z, RB (bE V) Z → MW X Z 3 (od X c 3) → FS Y Z → P (bT V) Z) : kM_boardBy [.inr (.inr 0), .inl (c : Int)] Y P := by
  apply eM_boardBy
  refine hM_prep (P := fun _ M4 => kM_boardAll [.inr (.inr 0)] M4 (fun r5 M6 => P r5 M6)) hc (by omega) hw hk hr hrk ?_
  intro Z hZ hF
  apply hM_all hw hr2 (by omega) hv (od_PM X c 3) hZ
  intro Z2 hZ2 hM2 hF2
  exact k Z2 hZ2 hM2 (hF.tr hF2)
theorem bE_vw {X V : ax_Mem} {mb : Int} {w : Nat → Int} (hw : WP X) (hv : VW X V mb w) (hp : PM (X 2 7).toNat w) : VW X (bE V) mb w := vw_run hv 9999 (vw_LV hw hv hp)
theorem bE_sec {X V : ax_Mem} {mb : Int} {w : Nat → Int} (hw : WP X) (hr2 : 2 ≤ X 1 0) (hm : 0 ≤ mb ∧ mb ≤ 3) (hv : VW X V mb w) (hp : PM (X 2 7).toNat w) : bE V 44 15 = bT V := bE_15 (vw_LV hw hv hp) (vw_WB hw hr2 hm hv hp)
theorem q_bound {t : Int} {X Y : ax_Mem} {a b : Int} (h : INV t X Y) : kX_bound [.inr (.inr 0), .inl a, .inl b] X (fun r X2 => kM_bound [.inr (.inr 0), .inl a, .inl b] Y (fun r2 Y2 => r2 = r ∧ INV (t + 1) X2 Y2)) := by
  apply ax_Ca
  intro har
  have hb : ax_r b := har (.inl b) (by simp)
  obtain ⟨i1, i2, i3, i4, i5, i6, i7, i8⟩ := id h
  have i61 := i6.1
  apply eX_bound
  refine refX (P := fun r X2 => kM_bound [.inr (.inr 0), .inl a, .inl b] Y (fun r2 Y2 => r2 = r ∧ INV (t + 1) X2 Y2)) (fun c1 => ?_) (fun c1 c2 => ?_) (fun c1 c2 => ?_)
  · apply eM_bound
    exact refM (P := fun r2 Y2 => r2 = (-101) ∧ INV (t + 1) X Y2) h (fun _ => ⟨rfl, inv_id h⟩) (fun z => absurd z c1) (fun z => absurd z c1)
  · apply eM_bound
    exact refM (P := fun r2 Y2 => r2 = (-103) ∧ INV (t + 1) X Y2) h (fun z => absurd c1 z) (fun _ _ => ⟨rfl, inv_id h⟩) (fun _ z => absurd c2 z)
  · refine outX (P := fun r X2 => kM_bound [.inr (.inr 0), .inl a, .inl b] Y (fun r2 Y2 => r2 = r ∧ INV (t + 1) X2 Y2)) (fun c3 => ?_) (fun c3 => ?_)
    · apply eM_bound
      refine refM (P := fun r2 Y2 => r2 = (-102) ∧ INV (t + 1) X Y2) h (fun z => absurd c1 z) (fun _ z => absurd z c2) (fun _ _ => ?_)
      exact inM (P := fun r2 Y2 => r2 = (-102) ∧ INV (t + 1) X Y2) hb (ax_r0 (by omega)) (ax_r0 (by omega)) (fun _ => ⟨rfl, inv_id h⟩) (fun z => absurd c3 z)
    · have hac : ((a.toNat : Nat) : Int) = a := by omega
      have ik := i6.2.2 a.toNat (by omega)
      have hr2 : 2 ≤ X 1 0 := by omega
      rw [← hac]
      apply hX_boardBy (by omega) (by omega) i1 hr2 ik.1
      intro V hv
      have hp := od_PM X a.toNat b
      rw [show (min (9999 : Int) 9999).toNat = 9999 by omega, show bo_run 9999 1 0 (bo_begin V) = bE V from rfl, bE_sec i1 hr2 (by omega) hv hp, hac]
      apply eM_bound
      refine refM (P := fun r2 Y2 => r2 = (bT V : Int) ∧ INV (t + 1) (bE V) Y2) h (fun z => absurd c1 z) (fun _ z => absurd z c2) (fun _ _ => ?_)
      refine inM (P := fun r2 Y2 => r2 = (bT V : Int) ∧ INV (t + 1) (bE V) Y2) hb (ax_r0 (by omega)) (ax_r0 (by omega)) (fun z => absurd z c3) (fun _ => ?_)
      rw [← hac]
      refine hM_prep (P := fun _ M10 => kM_boardAll [.inr (.inr 0)] M10 (fun r11 M12 => r11 = (bT V : Int) ∧ INV (t + 1) (bE V) M12)) (by omega) (by omega) i1 ik.1 i2 ik.2 ?_
      intro Z hZ hF
      apply hM_all i1 hr2 (by omega) hv hp hZ
      intro Z2 hZ2 hM2 hF2
      exact ⟨rfl, inv_fr h (bE_vw i1 hv hp).x (hF.tr hF2) (by omega)⟩
-- ===== board
theorem sm_del {c : Nat → Int} : ∀ (n a : Nat), a < n → sm c n = sm (fun j => if j < a then c j else c (j + 1)) (n - 1) + c a
  | 0, a, h => by omega
  | n + 1, a, h => by
    by_cases e : a = n
    · subst e
      show sm c a + c a = sm (fun j => if j < a then c j else c (j + 1)) a + c a
      rw [sm_eq (c := c) (d := fun j => if j < a then c j else c (j + 1)) a (fun j hj => by show c j = if j < a then c j else c (j + 1); rw [if_pos hj])]
    · have ih := sm_del (c := c) n a (by omega)
      obtain ⟨m, rfl⟩ : ∃ m, n = m + 1 := ⟨n - 1, by omega⟩
      simp only [Nat.add_sub_cancel] at ih ⊢
      show sm c (m + 1) + c (m + 1) = sm (fun j => if j < a then c j else c (j + 1)) m + (if m < a then c m else c (m + 1)) + c a
      rw [ih, if_neg (by omega)]
      omega
theorem PM_del {n a : Nat} {w : Nat → Int} (h : PM (n + 1) w) (ha : a < n + 1) (e : w a = n) : PM n (del w a) := by
  obtain ⟨h1, h2, h3⟩ := h
  have hd : ∀ j, j < n → ∃ i, i < n + 1 ∧ i ≠ a ∧ del w a j = w i ∧ (i = j ∧ j < a ∨ i = j + 1 ∧ a ≤ j) := by
    intro j hj
    unfold del
    by_cases c : j < a
    · rw [if_pos c]; exact ⟨j, by omega, by omega, rfl, by omega⟩
    · rw [if_neg c]; exact ⟨j + 1, by omega, by omega, rfl, by omega⟩
  refine ⟨fun j hj => ?_, fun i j hi hj q => ?_, fun p hp => ?_⟩
  · obtain ⟨i, hi, hia, q, -⟩ := hd j hj
    have h1i := h1 i hi
    have : w i ≠ n := fun z => hia (h2 i a hi ha (by rw [z, e]))
    rw [q]
    omega
  · obtain ⟨i2, hi2, hia, q1, c1⟩ := hd i hi
    obtain ⟨j2, hj2, hja, q2, c2⟩ := hd j hj
    have := h2 i2 j2 hi2 hj2 (by rw [← q1, ← q2]; exact q)
    omega
  · obtain ⟨i, hi, q⟩ := h3 p (by omega)
    have hia : i ≠ a := fun z => by rw [z, e] at q; omega
    by_cases c : i < a
    · refine ⟨i, by omega, ?_⟩
      unfold del; rw [if_pos c]; exact q
    · refine ⟨i - 1, by omega, ?_⟩
      unfold del; rw [if_neg (by omega), show i - 1 + 1 = i by omega]; exact q
/-- a sum over a permutation -/
theorem sm_PM {f : Nat → Int} : ∀ (n : Nat) (w : Nat → Int), PM n w → sm (fun i => f (w i).toNat) n = sm f n
  | 0, _, _ => rfl
  | n + 1, w, h => by
    obtain ⟨a, ha, e⟩ := h.2.2 n (by omega)
    rw [sm_del (n + 1) a ha]
    have h2 := sm_PM (f := f) n (del w a) (PM_del h ha e)
    simp only [Nat.add_sub_cancel]
    have e3 : sm (fun j => if j < a then f (w j).toNat else f (w (j + 1)).toNat) n = sm (fun i => f (del w a i).toNat) n := sm_eq n (fun j _ => by unfold del; split <;> rfl)
    rw [e3, h2, e]
    rfl
theorem hB_tell {V : ax_Mem} {P : Int → ax_Mem → Prop} {what : Int} (hm : 0 ≤ V 44 12 ∧ V 44 12 ≤ 12) (hc : ∀ i : Nat, (i : Int) < V 44 12 → (0 ≤ V 47 i ∧ V 47 i < 12) ∧ (0 ≤ V 51 (V 47 i).toNat ∧ V 51 (V 47 i).toNat ≤ 1000000)) (h : P (if what = 0 then V 44 15 else if what = 1 then V 44 14 else sm (fun i => V 51 (V 47 i).toNat) (V 44 12).toNat) V) : kB_tell [.inr (.inr 44), .inl what] V P := by
  apply eB_tell
  refine ⟨fun c1 => ⟨fun c2 => ?_, fun c2 => ?_⟩, fun c1 => ?_⟩
  · rw [if_neg c1, if_neg c2] at h
    have bd : ∀ i : Nat, (i : Int) ≤ V 44 12 → 0 ≤ sm (fun i => V 51 (V 47 i).toNat) i ∧ sm (fun i => V 51 (V 47 i).toNat) i ≤ 1000000 * i := by
      intro i
      induction i with
      | zero => intro _; simp [sm]
      | succ i ih =>
        intro hi
        have := ih (by omega)
        have := hc i (by omega)
        simp only [sm]
        omega
    refine up_loop (Q := fun i => jB_tell P 23 [(0, .inr (.inr 44)), (2, .inl (sm (fun i => V 51 (V 47 i).toNat) i)), (3, .inl (i : Int))] [] V) (V 44 12).toNat ?_ ?_ 0 (Nat.zero_le _)
    · apply gB_tell_23
      exact ⟨fun _ => h, fun c => by omega⟩
    · intro i hi hQ
      apply gB_tell_23
      have := hc i (by omega)
      have := bd i (by omega)
      simp only [sm, ← to1] at hQ
      simp only [Int.toNat_natCast]
      exact ⟨fun c => by omega, fun _ => ⟨by omega, by omega, by omega, hQ⟩⟩
  · rw [if_neg c1, if_pos c2] at h; exact h
  · rw [if_pos c1] at h; exact h
/-- what board() tells of a boarding -/
def bW (V : ax_Mem) (what : Int) : Int := if what = 0 then bE V 44 15 else if what = 1 then bE V 44 14 else sm (bE V 51) (V 40 1).toNat
theorem bE_47 {X V : ax_Mem} {mb : Int} {w : Nat → Int} (hw : WP X) (hv : VW X V mb w) (hp : PM (X 2 7).toNat w) : bE V 44 12 = X 2 7 ∧ (∀ i, i < (X 2 7).toNat → bE V 47 i = w i) := by
  have hl := vw_LV hw hv hp
  obtain ⟨f1, f2, f3, f4, f5, f6, f7, f8, f9⟩ := bo_begin_facts hl
  have hf := vw_fn hw hv hp
  have hw1 := hw.1
  have e := (bo_run_12 9999 1 0 (bo_begin V)).1
  have e47 : bE V 47 = bo_begin V 47 := bo_run_keep (by omega) (by omega) (by omega) (by omega) (by omega) (by omega) (by omega) 9999 1 0 _
  refine ⟨?_, fun i hi => ?_⟩
  · show bo_run 9999 1 0 (bo_begin V) 44 12 = X 2 7
    rw [e, f3, hf.1]; omega
  · rw [e47, f7]; exact hf.2 i hi
theorem hB_tellE {X V : ax_Mem} {P : Int → ax_Mem → Prop} {mb what : Int} {w : Nat → Int} (hw : WP X) (hr2 : 2 ≤ X 1 0) (hm : 0 ≤ mb ∧ mb ≤ 3) (hv : VW X V mb w) (hp : PM (X 2 7).toNat w) (h : P (bW V what) (bE V)) : kB_tell [.inr (.inr 44), .inl what] (bE V) P := by
  have hw1 := hw.1
  obtain ⟨e12, e47⟩ := bE_47 hw hv hp
  obtain ⟨cm2, hB⟩ := wb_run 9999 0 1 0 _ (vw_WB hw hr2 hm hv hp)
  have hB4 := hB.2.2.2.1
  have e40 := hv.2.1
  apply hB_tell (by omega) (fun i hi => ?_)
  · unfold bW at h
    rw [show sm (fun i => bE V 51 (bE V 47 i).toNat) (bE V 44 12).toNat = sm (bE V 51) (V 40 1).toNat from ?_]
    · exact h
    · rw [e12, e40, ← sm_PM (f := bE V 51) (X 2 7).toNat w hp]
      exact sm_eq _ (fun j hj => by rw [e47 j hj])
  · have := hB4 i hi
    refine ⟨this.1, this.2.2.2.2.1.1, ?_⟩
    have := this.2.2.2.2.1.2
    show bo_run 9999 1 0 (bo_begin V) 51 (bo_run 9999 1 0 (bo_begin V) 47 i).toNat ≤ 1000000
    omega
theorem hM_boardOf {X Y V : ax_Mem} {P : Int → ax_Mem → Prop} {c : Nat} {what : Int} (hc : c < 8) (hw : WP X) (hr2 : 2 ≤ X 1 0) (hk : WK X c) (hr : RP X Y) (hrk : RK X Y c) (hv : VW X V 3 (od X c 3)) (k : ∀ Z, FS Y Z → P (bW V what) Z) : kM_boardOf [.inr (.inr 0), .inl (c : Int), .inl what] Y P := by
  have hw1 := hw.1
  have hp := od_PM X c 3
  obtain ⟨e12, e47⟩ := bE_47 hw hv hp
  obtain ⟨cm2, hB⟩ := wb_run 9999 0 1 0 _ (vw_WB hw hr2 (by omega) hv hp)
  have hB4 := hB.2.2.2.1
  have e40 := hv.2.1
  apply eM_boardOf
  apply hM_boardBy hc hw hr2 hk hr hrk hv
  intro Z hZ hM hF
  have key : ∀ p : Nat, (p : Int) < X 2 7 → Z 11 p = bE V 51 p ∧ 0 ≤ bE V 51 p ∧ bE V 51 p ≤ 1000000 := by
    intro p hpp
    obtain ⟨i, hi, e⟩ := hp.2.2 p (by omega)
    have hi2 : (i : Int) < bE V 44 12 := by omega
    have q1 := (hZ.2.1 i hi2).2.2.2.2.2.1
    have q2 := (hB4 i hi2).2.2.2.2.1
    rw [e47 i hi, e, Int.toNat_natCast] at q1
    have q3 : bo_run 9999 1 0 (bo_begin V) 47 i = (p : Int) := by
      have := e47 i hi
      rw [e] at this
      exact this
    rw [q3, Int.toNat_natCast] at q2
    refine ⟨q1.symm, q2.1, ?_⟩
    show bo_run 9999 1 0 (bo_begin V) 51 p ≤ 1000000
    omega
  have bd : ∀ i : Nat, (i : Int) ≤ X 2 7 → 0 ≤ sm (bE V 51) i ∧ sm (bE V 51) i ≤ 1000000 * i := by
    intro i
    induction i with
    | zero => intro _; simp [sm]
    | succ i ih =>
      intro hi
      have := ih (by omega)
      have := key i (by omega)
      simp only [sm]
      omega
  have z4 : Z 0 4 = X 2 7 := hM.1.1.2.2.2
  have hfin := k Z hF
  unfold bW at hfin
  rw [bE_sec hw hr2 (by omega) hv hp, e40] at hfin
  refine up_loop (Q := fun i => jM_boardOf P 12 [(0, .inr (.inr 0)), (2, .inl what), (3, .inl (bT V : Int)), (4, .inl (sm (bE V 51) i)), (5, .inl (i : Int))] [] Z) (X 2 7).toNat ?_ ?_ 0 (Nat.zero_le _)
  · apply gM_boardOf_12
    rw [z4]
    refine ⟨fun _ => ⟨fun c1 => ⟨fun c2 => ?_, fun c2 => ?_⟩, fun c1 => ?_⟩, fun q => by omega⟩
    · rw [if_neg c1, if_neg c2] at hfin; exact hfin
    · rw [if_neg c1, if_pos c2, hZ.1.2.2.2.2] at hfin; exact hfin
    · rw [if_pos c1] at hfin; exact hfin
  · intro i hi hQ
    apply gM_boardOf_12
    have := key i (by omega)
    have := bd i (by omega)
    simp only [sm, ← to1] at hQ
    simp only [Int.toNat_natCast]
    rw [z4, (key i (by omega)).1]
    exact ⟨fun q => by omega, fun _ => ⟨by omega, by omega, hQ⟩⟩
theorem q_board {t : Int} {X Y : ax_Mem} {a b : Int} (h : INV t X Y) : kX_board [.inr (.inr 0), .inl a, .inl b] X (fun r X2 => kM_board [.inr (.inr 0), .inl a, .inl b] Y (fun r2 Y2 => r2 = r ∧ INV (t + 1) X2 Y2)) := by
  apply ax_Ca
  intro har
  have hb : ax_r b := har (.inl b) (by simp)
  obtain ⟨i1, i2, i3, i4, i5, i6, i7, i8⟩ := id h
  have i61 := i6.1
  have inM2 : ∀ {Y : ax_Mem} {P : Int → ax_Mem → Prop} {G : ax_Mem → Prop} {r : Int}, (b < 0 ∨ 2 < b → P r Y) → (¬ (b < 0 ∨ 2 < b) → G Y) → kM_in [.inr (.inl b), .inr (.inl 0), .inr (.inl 2)] Y (fun r5 M6 => (r5 = 0 → P r M6) ∧ (¬ r5 = 0 → G M6)) := by
    intro Y P G r h1 h2
    exact ax_C_mono (fun _ _ z => ⟨z.2, z.1⟩) (inM hb (ax_r0 (by omega)) (ax_r0 (by omega)) h1 h2)
  apply eX_board
  refine refX (P := fun r X2 => kM_board [.inr (.inr 0), .inl a, .inl b] Y (fun r2 Y2 => r2 = r ∧ INV (t + 1) X2 Y2)) (fun c1 => ?_) (fun c1 c2 => ?_) (fun c1 c2 => ?_)
  · apply eM_board
    exact refM (P := fun r2 Y2 => r2 = (-101) ∧ INV (t + 1) X Y2) h (fun _ => ⟨rfl, inv_id h⟩) (fun z => absurd z c1) (fun z => absurd z c1)
  · apply eM_board
    exact refM (P := fun r2 Y2 => r2 = (-103) ∧ INV (t + 1) X Y2) h (fun z => absurd c1 z) (fun _ _ => ⟨rfl, inv_id h⟩) (fun _ z => absurd c2 z)
  · refine outX (P := fun r X2 => kM_board [.inr (.inr 0), .inl a, .inl b] Y (fun r2 Y2 => r2 = r ∧ INV (t + 1) X2 Y2)) (fun c3 => ?_) (fun c3 => ?_)
    · apply eM_board
      refine refM (P := fun r2 Y2 => r2 = (-102) ∧ INV (t + 1) X Y2) h (fun z => absurd c1 z) (fun _ z => absurd z c2) (fun _ _ => ?_)
      exact inM2 (P := fun r2 Y2 => r2 = (-102) ∧ INV (t + 1) X Y2) (fun _ => ⟨rfl, inv_id h⟩) (fun z => absurd c3 z)
    · have hac : ((a.toNat : Nat) : Int) = a := by omega
      have ik := i6.2.2 a.toNat (by omega)
      have hr2 : 2 ≤ X 1 0 := by omega
      rw [← hac]
      apply hX_boardBy (by omega) (by omega) i1 hr2 ik.1
      intro V hv
      have hp := od_PM X a.toNat 3
      rw [show (min (9999 : Int) 9999).toNat = 9999 by omega, show bo_run 9999 1 0 (bo_begin V) = bE V from rfl]
      apply hB_tellE i1 hr2 (by omega) hv hp
      apply eM_board
      rw [hac]
      refine refM (P := fun r2 Y2 => r2 = bW V b ∧ INV (t + 1) (bE V) Y2) h (fun z => absurd c1 z) (fun _ z => absurd z c2) (fun _ _ => ?_)
      refine inM2 (P := fun r2 Y2 => r2 = bW V b ∧ INV (t + 1) (bE V) Y2) (fun z => absurd z c3) (fun _ => ?_)
      rw [← hac]
      apply hM_boardOf (by omega) i1 hr2 ik.1 i2 ik.2 hv
      intro Z hF
      exact ⟨rfl, inv_fr h (bE_vw i1 hv hp).x hF (by omega)⟩
