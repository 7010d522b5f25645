/-! a boarding seen from the class, and from the reference: the same people in the same line -/
def VW (X V : ax_Mem) (mb : Int) (w : Nat → Int) : Prop := (∀ k, k < 40 → V k = X k) ∧ V 40 1 = X 2 7 ∧ (∀ i : Nat, (i : Int) < X 2 7 → V 41 i = w i) ∧ V 44 10 = X 1 0 ∧ V 44 11 = X 1 2 ∧ ∀ p : Nat, (p : Int) < X 2 7 → V 45 p = X 5 p ∧ V 46 p = min (X 8 p) mb
def MW (X Y : ax_Mem) (mb : Int) (w : Nat → Int) : Prop := RP X Y ∧ RL X Y mb ∧ QN Y (X 2 7).toNat w
theorem vw_LV {X V : ax_Mem} {mb : Int} {w : Nat → Int} (hw : WP X) (h : VW X V mb w) (hp : PM (X 2 7).toNat w) : LV V := by
  have hw1 := hw.1
  obtain ⟨v1, v2, v3, v4, v5, v6⟩ := h
  unfold LV
  rw [v2]
  refine ⟨hw1, fun i hi => ?_, fun i j hi hj e => ?_⟩
  · rw [v3 i hi]
    have := hp.1 i (by omega)
    omega
  · rw [v3 i hi, v3 j hj] at e
    exact hp.2.1 i j (by omega) (by omega) e
theorem vw_WB {X V : ax_Mem} {mb : Int} {w : Nat → Int} (hw : WP X) (hr : 2 ≤ X 1 0) (hm : 0 ≤ mb ∧ mb ≤ 3) (h : VW X V mb w) (hp : PM (X 2 7).toNat w) : WB 0 0 (bo_begin V) := by
  have hl := vw_LV hw h hp
  have hw2 := hw.2.1
  obtain ⟨v1, v2, v3, v4, v5, v6⟩ := h
  have wi : ∀ i : Nat, (i : Int) < V 40 1 → (((V 41 i).toNat : Int) < X 2 7) := by
    intro i hi
    rw [v2] at hi
    rw [v3 i hi]
    have := hp.1 i (by omega)
    omega
  refine wb_begin hl (by omega) (fun i hi _ => ?_) (fun i hi => ?_)
  · have := wi i hi
    rw [(v6 _ this).1]
    exact (hw.2.2 _ this).2.2.1.1
  · have := wi i hi
    rw [(v6 _ this).2]
    have := (hw.2.2 _ this).2.2.2.2.2.1
    omega
theorem fn_all {w row : Nat → Int} {rows : Int} : ∀ n, (∀ i, i < n → row (w i).toNat < rows) → fn w row rows n = n
  | 0, _ => rfl
  | n + 1, h => by
    have := h n (by omega)
    unfold fn
    rw [if_neg (by omega), fn_all n (fun i hi => h i (by omega))]
theorem fa_all {w row f0 : Nat → Int} {rows : Int} : ∀ n, (∀ i, i < n → row (w i).toNat < rows) → ∀ j, j < n → fa w row rows f0 n j = w j
  | 0, _, j, hj => by omega
  | n + 1, h, j, hj => by
    have := h n (by omega)
    show (if rows ≤ row (w n).toNat then fa w row rows f0 n j else if j = fn w row rows n then w n else fa w row rows f0 n j) = w j
    rw [if_neg (by omega), fn_all n (fun i hi => h i (by omega))]
    by_cases c : j = n
    · rw [if_pos c, c]
    · rw [if_neg c]; exact fa_all n (fun i hi => h i (by omega)) j (by omega)
theorem vw_fn {X V : ax_Mem} {mb : Int} {w : Nat → Int} (hw : WP X) (h : VW X V mb w) (hp : PM (X 2 7).toNat w) : fn (V 41) (V 45) (V 44 10) (V 40 1).toNat = (X 2 7).toNat ∧ ∀ j, j < (X 2 7).toNat → fa (V 41) (V 45) (V 44 10) (V 47) (V 40 1).toNat j = w j := by
  obtain ⟨v1, v2, v3, v4, v5, v6⟩ := h
  have hw1 := hw.1
  have hr : ∀ i, i < (V 40 1).toNat → V 45 (V 41 i).toNat < V 44 10 := by
    intro i hi
    rw [v2] at hi
    rw [v3 i (by omega)]
    have h1 := hp.1 i hi
    have h2 : ((w i).toNat : Int) < X 2 7 := by omega
    rw [(v6 _ h2).1, v4]
    exact (hw.2.2 _ h2).2.2.1.2
  refine ⟨by rw [fn_all _ hr, v2], fun j hj => ?_⟩
  rw [fa_all _ hr j (by rw [v2]; exact hj), v3 j (by omega)]
theorem vw_S0 {X V Y : ax_Mem} {mb : Int} {w : Nat → Int} (hw : WP X) (h : VW X V mb w) (hp : PM (X 2 7).toNat w) (hm : MW X Y mb w) : S0 V Y := by
  have hf := vw_fn hw h hp
  have hw1 := hw.1
  obtain ⟨v1, v2, v3, v4, v5, v6⟩ := h
  obtain ⟨m1, m2, m3⟩ := hm
  unfold S0
  rw [hf.1]
  refine ⟨by rw [v4, m2.1], by rw [v5, m1.1.2.2.1], by rw [m3.1], fun j hj => by rw [hf.2 j hj, m3.2 j hj], fun i hi => ?_⟩
  rw [v2] at hi
  rw [v3 i hi]
  have h1 := hp.1 i (by omega)
  have h2 : ((w i).toNat : Int) < X 2 7 := by omega
  obtain ⟨a, b⟩ := v6 _ h2
  obtain ⟨c, d⟩ := m2.2 _ h2
  obtain ⟨e0, e1, e2, e3, e4, e5, e6⟩ := m1.2 _ h2
  rw [a, b, c, d, e3, e4, v1 6 (by omega), v1 7 (by omega)]
  exact ⟨rfl, rfl, rfl, rfl⟩
/-- running a boarding leaves the view -/
theorem vw_run {X V : ax_Mem} {mb : Int} {w : Nat → Int} (h : VW X V mb w) (n : Nat) (hl : LV V) : VW X (bo_run n 1 0 (bo_begin V)) mb w := by
  obtain ⟨v1, v2, v3, v4, v5, v6⟩ := h
  have k : ∀ a, a ≠ 44 → a ≠ 47 → a ≠ 48 → a ≠ 49 → a ≠ 50 → a ≠ 51 → a ≠ 53 → a < 54 → bo_run n 1 0 (bo_begin V) a = V a := fun a h1 h2 h3 h4 h5 h6 h7 h8 => by rw [bo_run_keep h1 h3 h4 h5 h6 h7 h8, bo_begin_k h1 h4 h5 h6 h2 h3 h7 h8]
  have k44 := bo_run_12 n 1 0 (bo_begin V)
  obtain ⟨f1, f2, -⟩ := bo_begin_facts hl
  unfold VW
  rw [k 40 (by omega) (by omega) (by omega) (by omega) (by omega) (by omega) (by omega) (by omega), k 41 (by omega) (by omega) (by omega) (by omega) (by omega) (by omega) (by omega) (by omega), k 45 (by omega) (by omega) (by omega) (by omega) (by omega) (by omega) (by omega) (by omega), k 46 (by omega) (by omega) (by omega) (by omega) (by omega) (by omega) (by omega) (by omega), k44.2.1, k44.2.2, f1, f2]
  exact ⟨fun q hq => by rw [k q (by omega) (by omega) (by omega) (by omega) (by omega) (by omega) (by omega) (by omega)]; exact v1 q hq, v2, v3, v4, v5, v6⟩
theorem FC_MW {X Y Z : ax_Mem} {mb : Int} {w : Nat → Int} (h : FC Y Z) (hm : MW X Y mb w) : MW X Z mb w := by
  obtain ⟨m1, m2, m3⟩ := hm
  refine ⟨RP_of m1 (h.2 0 (by omega) (by omega) (by omega)) (h.2 1 (by omega) (by omega) (by omega)) (h.2 2 (by omega) (by omega) (by omega)) (h.2 4 (by omega) (by omega) (by omega)) (h.1 1 (by omega) (by omega)), ?_, ?_⟩
  · unfold RL
    rw [h.2 13 (by omega) (by omega) (by omega), h.1 5 (by omega) (by omega), h.1 6 (by omega) (by omega)]
    exact m2
  · unfold QN
    rw [h.2 17 (by omega) (by omega) (by omega), h.1 7 (by omega) (by omega)]
    exact m3
/-- what the reference's queries leave as it was -/
def FS (Y Z : ax_Mem) : Prop := (Z 1 = Y 1 ∧ Z 2 = Y 2 ∧ Z 3 = Y 3 ∧ Z 18 = Y 18) ∧ (Z 0 0 = Y 0 0 ∧ Z 0 1 = Y 0 1 ∧ Z 0 2 = Y 0 2 ∧ Z 0 3 = Y 0 3 ∧ Z 0 4 = Y 0 4 ∧ Z 0 7 = Y 0 7 ∧ Z 0 8 = Y 0 8 ∧ Z 0 27 = Y 0 27 ∧ Z 0 33 = Y 0 33 ∧ Z 0 34 = Y 0 34 ∧ Z 0 36 = Y 0 36)
theorem FS.rf (Y : ax_Mem) : FS Y Y := ⟨⟨rfl, rfl, rfl, rfl⟩, rfl, rfl, rfl, rfl, rfl, rfl, rfl, rfl, rfl, rfl, rfl⟩
theorem FS.tr {A B C : ax_Mem} (h : FS A B) (k : FS B C) : FS A C := by
  obtain ⟨⟨a1, a2, a3, a4⟩, b0, b1, b2, b3, b4, b5, b6, b7, b8, b9, b10⟩ := h
  obtain ⟨⟨c1, c2, c3, c4⟩, d0, d1, d2, d3, d4, d5, d6, d7, d8, d9, d10⟩ := k
  exact ⟨⟨c1.trans a1, c2.trans a2, c3.trans a3, c4.trans a4⟩, d0.trans b0, d1.trans b1, d2.trans b2, d3.trans b3, d4.trans b4, d5.trans b5, d6.trans b6, d7.trans b7, d8.trans b8, d9.trans b9, d10.trans b10⟩
theorem FC.s {Y Z : ax_Mem} (h : FC Y Z) : FS Y Z := ⟨⟨h.1 1 (by omega) (by omega), h.1 2 (by omega) (by omega), h.1 3 (by omega) (by omega), h.1 18 (by omega) (by omega)⟩, h.2 0 (by omega) (by omega) (by omega), h.2 1 (by omega) (by omega) (by omega), h.2 2 (by omega) (by omega) (by omega), h.2 3 (by omega) (by omega) (by omega), h.2 4 (by omega) (by omega) (by omega), h.2 7 (by omega) (by omega) (by omega), h.2 8 (by omega) (by omega) (by omega), h.2 27 (by omega) (by omega) (by omega), h.2 33 (by omega) (by omega) (by omega), h.2 34 (by omega) (by omega) (by omega), h.2 36 (by omega) (by omega) (by omega)⟩
theorem FQ.s {Y Z : ax_Mem} (h : FQ Y Z) : FS Y Z := ⟨⟨h.1 1 (by omega) (by omega), h.1 2 (by omega) (by omega), h.1 3 (by omega) (by omega), h.1 18 (by omega) (by omega)⟩, h.2 0 (by omega), h.2 1 (by omega), h.2 2 (by omega), h.2 3 (by omega), h.2 4 (by omega), h.2 7 (by omega), h.2 8 (by omega), h.2 27 (by omega), h.2 33 (by omega), h.2 34 (by omega), h.2 36 (by omega)⟩
theorem FP.s {Y Z : ax_Mem} (h : FP Y Z) : FS Y Z := ⟨⟨h.1 1 (by omega) (by omega) (by omega), h.1 2 (by omega) (by omega) (by omega), h.1 3 (by omega) (by omega) (by omega), h.1 18 (by omega) (by omega) (by omega)⟩, h.2 0 (by omega), h.2 1 (by omega), h.2 2 (by omega), h.2 3 (by omega), h.2 4 (by omega), h.2 7 (by omega), h.2 8 (by omega), h.2 27 (by omega), h.2 33 (by omega), h.2 34 (by omega), h.2 36 (by omega)⟩
theorem FS_RP {X Y Z : ax_Mem} (h : FS Y Z) (hr : RP X Y) : RP X Z := RP_of hr h.2.1 h.2.2.1 h.2.2.2.1 h.2.2.2.2.2.1 h.1.1
/-- the reference lays people and order -/
theorem hM_prep {X Y : ax_Mem} {P : Int → ax_Mem → Prop} {c : Nat} {mb : Int} (hc : c < 8) (hm : 0 ≤ mb ∧ mb ≤ 3) (hw : WP X) (hk : WK X c) (hr : RP X Y) (hrk : RK X Y c) (k : ∀ Z, MW X Z mb (od X c mb) → FS Y Z → P 0 Z) : kM_layPeople [.inr (.inr 0), .inl mb] Y (fun _ M2 => kM_layOrder [.inr (.inr 0), .inl (c : Int)] M2 (fun _ M3 => P 0 M3)) := by
  apply hM_layPeople hw hr
  intro Z hZ hF
  have hs := FP.s hF
  apply hM_layOrder hc hm hw hk (FS_RP hs hr) (RK_of hrk hs.1.2.2.1) hZ
  intro Z2 hZ2 hF2
  exact k Z2 ⟨FS_RP (hs.tr hF2.s) hr, FQ_RL hF2 hZ, hZ2⟩ (hs.tr hF2.s)
/-- the reference boards those that are laid -/
theorem hM_all {X V Y : ax_Mem} {P : Int → ax_Mem → Prop} {mb : Int} {w : Nat → Int} (hw : WP X) (hr2 : 2 ≤ X 1 0) (hm : 0 ≤ mb ∧ mb ≤ 3) (hv : VW X V mb w) (hp : PM (X 2 7).toNat w) (hy : MW X Y mb w) (k : ∀ Z, RB (bE V) Z → MW X Z mb w → FS Y Z → P (bT V) Z) : kM_boardAll [.inr (.inr 0)] Y P := by
  apply hM_boardAll (vw_LV hw hv hp) (vw_WB hw hr2 hm hv hp) (vw_S0 hw hv hp hy)
  intro Z hZ hF
  exact k Z hZ (FC_MW hF hy) hF.s
-- ===== the class
theorem hX_lineUp {X : ax_Mem} {P : Int → ax_Mem → Prop} {c : Nat} {mb : Int} (hc : c < 8) (hw : WP X) (hk : WK X c) (k : ∀ Z, LN Z (X 2 7).toNat (od X c mb) → FL X Z → P 0 Z) : kX_lineUp [.inr (.inr 0), .inl (c : Int), .inl mb] X P := by
  apply eX_lineUp
  simp only [Int.toNat_natCast]
  refine ⟨by omega, ?_⟩
  exact hK_arrange hc hw hk k
theorem vw_open {X Z : ax_Mem} {mb : Int} {w : Nat → Int} (hw : WP X) (hZ : LN Z (X 2 7).toNat w) (hF : ∀ k, k < 40 → Z k = X k) : VW X (op_w mb Z) mb w := by
  have hw1 := hw.1
  have k : ∀ a, a ≠ 44 → a ≠ 45 → a ≠ 46 → op_w mb Z a = Z a := fun a h1 h2 h3 => op_w_k h1 h3 h2
  have e1 := hF 1 (by omega)
  have e2 := hF 2 (by omega)
  have e5 := hF 5 (by omega)
  have e8 := hF 8 (by omega)
  refine ⟨fun q hq => by rw [k q (by omega) (by omega) (by omega)]; exact hF q hq, by rw [k 40 (by omega) (by omega) (by omega), hZ.1]; omega, fun i hi => by rw [k 41 (by omega) (by omega) (by omega)]; exact hZ.2 i (by omega), ?_, ?_, fun p hp => ⟨?_, ?_⟩⟩
  · unfold op_w
    rw [op_2_k (by omega)]
    unfold op_0
    rw [op_1_k (by omega), ax_us (by omega), ax_uu, if_pos rfl, e1]
  · unfold op_w
    rw [op_2_k (by omega)]
    unfold op_0
    rw [op_1_k (by omega), ax_uu, if_pos rfl, e1]
  · unfold op_w
    rw [op_2_45, e2, if_pos (by omega), op_0_k (by omega) (by omega), e5]
  · unfold op_w
    rw [op_2_k (by omega)]
    unfold op_0
    rw [op_1_46, e2, if_pos (by omega), ax_u_cell (by omega), ax_u_cell (by omega), e8]
theorem hX_boardBy {X : ax_Mem} {P : Int → ax_Mem → Prop} {c : Nat} {mb last : Int} (hc : c < 8) (hm : 0 ≤ mb ∧ mb ≤ 3) (hw : WP X) (hr2 : 2 ≤ X 1 0) (hk : WK X c) (k : ∀ V, VW X V mb (od X c mb) → P 0 (bo_run (min last 9999).toNat 1 0 (bo_begin V))) : kX_boardBy [.inr (.inr 0), .inl (c : Int), .inl mb, .inl last] X P := by
  apply eX_boardBy
  apply hX_lineUp hc hw hk
  intro Z hZ hF
  have hw1 := hw.1
  apply hB_openWhole (by rw [hF 2 (by omega) (by omega)]; exact hw1)
  have hv := vw_open (mb := mb) hw hZ (fun q hq => hF q (by omega) (by omega))
  have hp := od_PM X c mb
  exact hB_run (vw_LV hw hv hp) (vw_WB hw hr2 hm hv hp) (k _ hv)
