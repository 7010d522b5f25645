/-! doors -/
theorem gv_run {X V : ax_Mem} {rows mb : Int} {w rf : Nat → Int} (h : GV X V rows rf mb w) (n : Nat) (hl : LV V) : GV X (bo_run n 1 0 (bo_begin V)) rows rf mb w := by
  obtain ⟨v1, v2, v3, v4, v5, v6⟩ := h
  have k : ∀ a, a ≠ 44 → a ≠ 47 → a ≠ 48 → a ≠ 49 → a ≠ 50 → a ≠ 51 → a ≠ 53 → a < 54 → bo_run n 1 0 (bo_begin V) a = V a := fun a h1 h2 h3 h4 h5 h6 h7 h8 => by rw [bo_run_keep h1 h3 h4 h5 h6 h7 h8, bo_begin_k h1 h4 h5 h6 h2 h3 h7 h8]
  have k44 := bo_run_12 n 1 0 (bo_begin V)
  obtain ⟨f1, f2, -⟩ := bo_begin_facts hl
  unfold GV
  rw [k 40 (by omega) (by omega) (by omega) (by omega) (by omega) (by omega) (by omega) (by omega), k 41 (by omega) (by omega) (by omega) (by omega) (by omega) (by omega) (by omega) (by omega), k 45 (by omega) (by omega) (by omega) (by omega) (by omega) (by omega) (by omega) (by omega), k 46 (by omega) (by omega) (by omega) (by omega) (by omega) (by omega) (by omega) (by omega), k44.2.1, k44.2.2, f1, f2]
  exact ⟨fun q hq => by rw [k q (by omega) (by omega) (by omega) (by omega) (by omega) (by omega) (by omega) (by omega)]; exact v1 q hq, v2, v3, v4, v5, v6⟩
theorem hB_runG {X V : ax_Mem} {P : Int → ax_Mem → Prop} {rows mb : Int} {w rf : Nat → Int} (hw : WP X) (hr : 1 ≤ rows ∧ rows ≤ 12) (hrf : ∀ p : Nat, (p : Int) < X 2 7 → 0 ≤ rf p) (hm : 0 ≤ mb ∧ mb ≤ 3) (hv : GV X V rows rf mb w) (hp : PM (X 2 7).toNat w) (k : ∀ Z, GV X Z rows rf mb w → Z 44 15 = TG X rows rf mb w → P 0 Z) : kB_run [.inr (.inr 44), .inr (.inr 40), .inl 9999] V P := by
  have hl := gv_LV hw hv hp
  have hb := gv_WB hw hr hrf hm hv hp
  apply hB_run hl hb
  rw [show (min (9999 : Int) 9999).toNat = 9999 by omega]
  refine k _ (gv_run hv 9999 hl) ?_
  rw [← (TG_eq hw hr hrf hm hv hp).1]
  exact bE_15 hl hb
theorem gv_f {X Z : ax_Mem} {mb : Int} {w : Nat → Int} (hw : WP X) (hZ : LN Z (X 2 7).toNat w) (hF : XF X Z) : GV X (op_f mb Z) ((X 1 0 + 1) / 2) (X 5) mb w := by
  obtain ⟨v1, v2, v3, v4, v5, v6⟩ := vw_open (mb := mb) hw hZ hF
  have e1 := hF 1 (by omega)
  unfold op_f
  rw [e1]
  refine ⟨fun k hk => ?_, ?_, ?_, ?_, ?_, ?_⟩
  · rw [ax_u_cell (by omega)]; exact v1 k hk
  · rw [ax_u_cell (by omega)]; exact v2
  · rw [ax_u_cell (by omega)]; exact v3
  · rw [ax_uu, if_pos rfl]
  · rw [ax_us (by omega)]; exact v5
  · rw [ax_u_cell (by omega), ax_u_cell (by omega)]; exact v6
theorem gv_b {X Z : ax_Mem} {mb : Int} {w : Nat → Int} (hw : WP X) (hZ : LN Z (X 2 7).toNat w) (hF : XF X Z) : GV X (op_b mb Z) (X 1 0 - (X 1 0 + 1) / 2) (fun p => X 1 0 - 1 - X 5 p) mb w := by
  have hw1 := hw.1
  have e1 := hF 1 (by omega)
  have e2 := hF 2 (by omega)
  have e5 := hF 5 (by omega)
  have e8 := hF 8 (by omega)
  have k : ∀ a, a ≠ 44 → a ≠ 45 → a ≠ 46 → op_b mb Z a = Z a := fun a h1 h2 h3 => by unfold op_b; rw [op_3_k h2, op_0_k h1 h3]
  refine ⟨fun q hq => by rw [k q (by omega) (by omega) (by omega)]; exact hF q hq, by rw [k 40 (by omega) (by omega) (by omega), hZ.1]; omega, fun i hi => by rw [k 41 (by omega) (by omega) (by omega)]; exact hZ.2 i (by omega), ?_, ?_, fun p hp => ⟨?_, ?_⟩⟩
  · unfold op_b
    rw [op_3_k (by omega)]
    unfold op_0
    rw [op_1_k (by omega), ax_us (by omega), ax_uu, if_pos rfl, e1]
  · unfold op_b
    rw [op_3_k (by omega)]
    unfold op_0
    rw [op_1_k (by omega), ax_uu, if_pos rfl, e1]
  · unfold op_b
    rw [op_3_45, e2, if_pos (by omega), op_0_k (by omega) (by omega), op_0_k (by omega) (by omega), e5, e1]
  · unfold op_b
    rw [op_3_k (by omega)]
    unfold op_0
    rw [op_1_46, e2, if_pos (by omega), ax_u_cell (by omega), ax_u_cell (by omega), e8]
def dF (X : ax_Mem) (c : Nat) : Int := TG X ((X 1 0 + 1) / 2) (X 5) 3 (od X c 3)
def dB (X : ax_Mem) (c : Nat) : Int := TG X (X 1 0 - (X 1 0 + 1) / 2) (fun p => X 1 0 - 1 - X 5 p) 3 (od X c 3)
theorem hX_secondsByDoors {X X2 : ax_Mem} {P : Int → ax_Mem → Prop} {c : Nat} (hx : XF X X2) (hc : (c : Int) < X 0 9) (hw : WP X) (hr2 : 2 ≤ X 1 0) (hk : CK X) (k : ∀ Z, XF X Z → P (max (dF X c) (dB X c)) Z) : kX_secondsByDoors [.inr (.inr 0), .inl (c : Int)] X2 P := by
  have hk1 := hk.1
  have hw1 := hw.1
  have hw2 := hw.2.1
  have c8 : c < 8 := by omega
  have hp := od_PM X c 3
  apply eX_secondsByDoors
  apply hX_lineUp c8 (XF_WP hx hw) (XF_WK hx c8 (hk.2 c hc))
  intro Z hZ hF
  rw [XF_od hx c8, hx 2 (by omega)] at hZ
  have hxz := hx.tr hF.x
  apply hB_openFront (by rw [hxz 2 (by omega)]; exact hw1) (by rw [hxz 1 (by omega)]; exact hw2)
  apply hB_runG hw (by omega) (fun p hpp => (hw.2.2 p hpp).2.2.1.1) (by omega) (gv_f hw hZ hxz) hp
  intro V1 hV1 e1
  have hl1 : LN V1 (X 2 7).toNat (od X c 3) := ⟨by rw [hV1.2.1]; omega, fun i hi => hV1.2.2.1 i (by omega)⟩
  have hx1 : XF X V1 := hV1.1
  apply hB_openBack (by rw [hx1 2 (by omega)]; exact hw1) (by rw [hx1 1 (by omega)]; exact hw2) (fun i hi => by rw [hx1 2 (by omega)] at hi; rw [hx1 5 (by omega)]; have := (hw.2.2 i hi).2.2.1; omega)
  apply hB_runG hw (by omega) (fun p hpp => by have := (hw.2.2 p hpp).2.2.1; show 0 ≤ X 1 0 - 1 - X 5 p; omega) (by omega) (gv_b hw hl1 hx1) hp
  intro V2 hV2 e2
  rw [e1, e2]
  exact k V2 hV2.1
-- ===== the reference
theorem hM_layPart {X Y : ax_Mem} {P : Int → ax_Mem → Prop} {lo hi rows : Int} {w rf : Nat → Int} (hw : WP X) (hr : RP X Y) (hp : PM (X 2 7).toNat w) (h15 : ∀ i, i < (X 2 7).toNat → Y 15 i = w i) (hlo : ax_r lo) (hhi : ax_r hi) (hc : ∀ p : Nat, (p : Int) < X 2 7 → (lo ≤ X 5 p ∧ X 5 p ≤ hi ↔ rf p < rows)) (k : ∀ Z, QN Z (fn w rf rows (X 2 7).toNat) (fa w rf rows (Y 7) (X 2 7).toNat) → FQ Y Z → P 0 Z) : kM_layPart [.inr (.inr 0), .inl lo, .inl hi] Y P := by
  have hw1 := hw.1
  have hw2 := hw.2.1
  apply eM_layPart
  refine up_loop (Q := fun i => ∀ Z : ax_Mem, Z 0 17 = (fn w rf rows i : Int) → Z 7 = fa w rf rows (Y 7) i → FQ Y Z → jM_layPart P 7 [(0, .inr (.inr 0)), (1, .inl lo), (2, .inl hi), (3, .inl (i : Int))] [] Z) (X 2 7).toNat ?_ ?_ 0 (Nat.zero_le _) _ rfl (by rw [ax_u_cell (by omega)]; rfl) (FQ.rf Y).f
  · intro Z h17 h7 hF
    have e4 : Z 0 4 = X 2 7 := (hF.2 4 (by omega)).trans hr.1.2.2.2
    apply gM_layPart_7
    rw [e4]
    exact ⟨fun _ => k Z ⟨h17, fun j hj => by rw [h7]⟩ hF, fun c => by omega⟩
  · intro i hi2 hQ Z h17 h7 hF
    have e4 : Z 0 4 = X 2 7 := (hF.2 4 (by omega)).trans hr.1.2.2.2
    have hb := hp.1 i hi2
    have hbn : ((w i).toNat : Int) < X 2 7 := by omega
    have e15 : Z 15 i = w i := by rw [hF.1 15 (by omega) (by omega)]; exact h15 i hi2
    have e1 : Z 1 (7 * (w i).toNat + 2) = X 5 (w i).toNat := by rw [hF.1 1 (by omega) (by omega)]; exact (hr.2 _ hbn).2.2.1
    have hx5 := (hw.2.2 _ hbn).2.2.1
    have hfl := fn_le w rf rows i
    apply gM_layPart_7
    simp only [Int.toNat_natCast]
    rw [e4, e15, show (7 * w i + 2).toNat = 7 * (w i).toNat + 2 by omega, e1]
    refine ⟨fun c => by omega, fun _ => ⟨by omega, by omega, by omega, by omega, ?_⟩⟩
    apply hM_in ⟨by omega, by omega⟩ hlo hhi
    have hcc := hc _ hbn
    by_cases c : lo ≤ X 5 (w i).toNat ∧ X 5 (w i).toNat ≤ hi
    · rw [if_pos c]
      have d : ¬ rows ≤ rf (w i).toNat := by have := hcc.mp c; omega
      refine ⟨fun q => absurd q (by decide), fun _ => ⟨by omega, ?_⟩⟩
      rw [to1]
      refine hQ _ ?_ ?_ (hF.u.f)
      · rw [ax_uu, if_pos rfl, h17]
        show _ = ((if rows ≤ rf (w i).toNat then fn w rf rows i else fn w rf rows i + 1 : Nat) : Int)
        rw [if_neg d]
        omega
      · rw [ax_u_cell (by omega)]
        funext j
        show _ = (if rows ≤ rf (w i).toNat then fa w rf rows (Y 7) i j else if j = fn w rf rows i then w i else fa w rf rows (Y 7) i j)
        rw [if_neg d, ax_uu, h7, h17, Int.toNat_natCast, e15]
    · rw [if_neg c]
      have d : rows ≤ rf (w i).toNat := by
        have : ¬ rf (w i).toNat < rows := fun z => c (hcc.mpr z)
        omega
      refine ⟨fun _ => ?_, fun q => absurd rfl q⟩
      rw [to1]
      refine hQ Z ?_ ?_ hF
      · rw [h17]
        show _ = ((if rows ≤ rf (w i).toNat then fn w rf rows i else fn w rf rows i + 1 : Nat) : Int)
        rw [if_pos d]
      · rw [h7]
        funext j
        show _ = (if rows ≤ rf (w i).toNat then fa w rf rows (Y 7) i j else if j = fn w rf rows i then w i else fa w rf rows (Y 7) i j)
        rw [if_pos d]
/-- the reference boards a part -/
theorem hM_allG {X Y : ax_Mem} {P : Int → ax_Mem → Prop} {rows mb : Int} {w rf f0 : Nat → Int} (hw : WP X) (hr : 1 ≤ rows ∧ rows ≤ 12) (hrf : ∀ p : Nat, (p : Int) < X 2 7 → 0 ≤ rf p) (hm : 0 ≤ mb ∧ mb ≤ 3) (hp : PM (X 2 7).toNat w) (hrp : RP X Y) (h13 : Y 0 13 = rows) (h5 : ∀ p : Nat, (p : Int) < X 2 7 → Y 5 p = rf p ∧ Y 6 p = min (X 8 p) mb) (hq : QN Y (fn w rf rows (X 2 7).toNat) (fa w rf rows f0 (X 2 7).toNat)) (k : ∀ Z, FC Y Z → P (TG X rows rf mb w) Z) : kM_boardAll [.inr (.inr 0)] Y P := by
  have hv := gc_gv X rows rf mb w
  refine hM_boardAll (X := gc X rows rf mb w) (gv_LV hw hv hp) (gv_WB hw hr hrf hm hv hp) ⟨h13.symm, hrp.1.2.2.1.symm, hq.1.symm, fun j hj => ?_, fun i hi => ?_⟩ (fun Z _ hF => k Z hF)
  · rw [hq.2 j hj]
    exact fa_eq _ (fun i hi => ⟨rfl, rfl⟩) j hj
  · have hi2 : (i : Int) < X 2 7 := hi
    have hb := hp.1 i (by omega)
    have hbn : ((w i).toNat : Int) < X 2 7 := by omega
    obtain ⟨a, b⟩ := h5 _ hbn
    obtain ⟨e0, e1, e2, e3, e4, e5, e6⟩ := hrp.2 _ hbn
    exact ⟨a.symm, b.symm, e3.symm, e4.symm⟩
theorem hM_doorsOf {X Y : ax_Mem} {P : Int → ax_Mem → Prop} {c : Nat} (hc : (c : Int) < X 0 9) (hw : WP X) (hr2 : 2 ≤ X 1 0) (hk : CK X) (hr : RP X Y) (hrk : RK X Y c) (k : ∀ Z, FS Y Z → P (max (dF X c) (dB X c)) Z) : kM_doorsOf [.inr (.inr 0), .inl (c : Int)] Y P := by
  have hk1 := hk.1
  have hw1 := hw.1
  have hw2 := hw.2.1
  have y0 := hr.1.1
  have hp := od_PM X c 3
  apply eM_doorsOf
  rw [y0]
  refine ⟨by omega, by omega, ?_⟩
  refine hM_prep (P := fun _ M6 => jM_doorsOf P 21 [(0, .inr (.inr 0)), (2, .inl ((X 1 0 + 1) / 2)), (3, .inl 0)] [] M6) (by omega) (by omega) hw (hk.2 c hc) hr hrk ?_
  intro Z hZ hF
  refine up_loop (Q := fun i => ∀ W, (∀ q, q ≠ 15 → W q = Z q) → (∀ j, j < i → W 15 j = od X c 3 j) → jM_doorsOf P 21 [(0, .inr (.inr 0)), (2, .inl ((X 1 0 + 1) / 2)), (3, .inl (i : Int))] [] W) (X 2 7).toNat ?_ ?_ 0 (Nat.zero_le _) Z (fun _ _ => rfl) (fun j hj => by omega)
  · intro W hW h15
    have hrW : RP X W := RP_of hZ.1 (by rw [hW 0 (by omega)]) (by rw [hW 0 (by omega)]) (by rw [hW 0 (by omega)]) (by rw [hW 0 (by omega)]) (hW 1 (by omega))
    have hFW : FS Y W := hF.tr ⟨⟨hW 1 (by omega), hW 2 (by omega), hW 3 (by omega), hW 18 (by omega)⟩, by rw [hW 0 (by omega)], by rw [hW 0 (by omega)], by rw [hW 0 (by omega)], by rw [hW 0 (by omega)], by rw [hW 0 (by omega)], by rw [hW 0 (by omega)], by rw [hW 0 (by omega)], by rw [hW 0 (by omega)], by rw [hW 0 (by omega)], by rw [hW 0 (by omega)], by rw [hW 0 (by omega)]⟩
    have hL : ∀ p : Nat, (p : Int) < X 2 7 → W 5 p = X 5 p ∧ W 6 p = min (X 8 p) 3 := by
      rw [hW 5 (by omega), hW 6 (by omega)]; exact hZ.2.1.2
    apply gM_doorsOf_21
    rw [hrW.1.2.2.2]
    refine ⟨fun _ => ⟨by omega, ?_⟩, fun q => by omega⟩
    apply hM_layPart (rows := (X 1 0 + 1) / 2) (rf := X 5) hw hrW hp h15 ⟨by omega, by omega⟩ ⟨by omega, by omega⟩ (fun p hpp => by have := (hw.2.2 p hpp).2.2.1; omega)
    intro W2 hW2 hF2
    have g1 : ∀ q, q ≠ 0 → ax_u W2 0 13 ((X 1 0 + 1) / 2) q = W2 q := fun q hq => ax_u_cell hq
    have g0 : ∀ f, f ≠ 13 → ax_u W2 0 13 ((X 1 0 + 1) / 2) 0 f = W2 0 f := fun f hf => ax_us hf
    have hr2' : RP X W2 := FQ_RP hF2 hrW
    have hrU : RP X (ax_u W2 0 13 ((X 1 0 + 1) / 2)) := RP_of hr2' (g0 0 (by omega)) (g0 1 (by omega)) (g0 2 (by omega)) (g0 4 (by omega)) (g1 1 (by omega))
    apply hM_allG (rows := (X 1 0 + 1) / 2) (rf := X 5) (f0 := W 7) (mb := 3) hw (by omega) (fun p hpp => (hw.2.2 p hpp).2.2.1.1) (by omega) hp hrU (by rw [ax_uu, if_pos rfl]) (by rw [g1 5 (by omega), g1 6 (by omega), hF2.1 5 (by omega) (by omega), hF2.1 6 (by omega) (by omega)]; exact hL) (by unfold QN; rw [g0 17 (by omega), g1 7 (by omega)]; exact hW2)
    intro W3 hF3
    have hr3 : RP X W3 := FS_RP hF3.s hrU
    have hFU : FS W2 (ax_u W2 0 13 ((X 1 0 + 1) / 2)) := ⟨⟨rfl, rfl, rfl, rfl⟩, rfl, rfl, rfl, rfl, rfl, rfl, rfl, rfl, rfl, rfl, rfl⟩
    have hFS3 : FS Y W3 := ((hFW.tr hF2.s).tr hFU).tr hF3.s
    have k3 : ∀ q, q ≠ 0 → q ≠ 7 → (q < 8 ∨ 13 < q) → W3 q = W q := fun q h0 h7 h8 => by rw [hF3.1 q h0 (by omega), g1 q h0, hF2.1 q h0 h7]
    rw [hr3.1.1]
    refine ⟨by omega, ?_⟩
    apply hM_layPart (rows := X 1 0 - (X 1 0 + 1) / 2) (rf := fun p => X 1 0 - 1 - X 5 p) hw hr3 hp (by rw [k3 15 (by omega) (by omega) (by omega)]; exact h15) ⟨by omega, by omega⟩ ⟨by omega, by omega⟩ (fun p hpp => by have := (hw.2.2 p hpp).2.2.1; show _ ↔ X 1 0 - 1 - X 5 p < _; omega)
    intro W4 hW4 hF4
    have hr4 : RP X W4 := FQ_RP hF4 hr3
    rw [hr4.1.1]
    refine ⟨by omega, ?_⟩
    refine up_loop (Q := fun i => ∀ U, (∀ q, q ≠ 0 → q ≠ 5 → U q = W4 q) → (∀ f, f ≠ 13 → U 0 f = W4 0 f) → U 0 13 = X 1 0 - (X 1 0 + 1) / 2 → (∀ j, j < i → U 5 j = X 1 0 - 1 - X 5 j) → jM_doorsOf P 89 [(0, .inr (.inr 0)), (3, .inl (dF X c)), (4, .inl (i : Int))] [] U) (X 2 7).toNat ?_ ?_ 0 (Nat.zero_le _) _ (fun q h0 _ => ax_u_cell h0) (fun f hf => ax_us hf) (by rw [ax_uu, if_pos rfl]) (fun j hj => by omega)
    · intro U hU hU0 hU13 hU5
      have hrU : RP X U := RP_of hr4 (hU0 0 (by omega)) (hU0 1 (by omega)) (hU0 2 (by omega)) (hU0 4 (by omega)) (hU 1 (by omega) (by omega))
      have hFU : FS Y U := (hFS3.tr hF4.s).tr ⟨⟨hU 1 (by omega) (by omega), hU 2 (by omega) (by omega), hU 3 (by omega) (by omega), hU 18 (by omega) (by omega)⟩, hU0 0 (by omega), hU0 1 (by omega), hU0 2 (by omega), hU0 3 (by omega), hU0 4 (by omega), hU0 7 (by omega), hU0 8 (by omega), hU0 27 (by omega), hU0 33 (by omega), hU0 34 (by omega), hU0 36 (by omega)⟩
      apply gM_doorsOf_89
      rw [hrU.1.2.2.2]
      refine ⟨fun _ => ?_, fun q => by omega⟩
      apply hM_allG (rows := X 1 0 - (X 1 0 + 1) / 2) (rf := fun p => X 1 0 - 1 - X 5 p) (f0 := W3 7) (mb := 3) hw (by omega) (fun p hpp => by have := (hw.2.2 p hpp).2.2.1; show 0 ≤ X 1 0 - 1 - X 5 p; omega) (by omega) hp hrU hU13 (fun p hpp => ⟨hU5 p (by omega), by rw [hU 6 (by omega) (by omega), hF4.1 6 (by omega) (by omega), k3 6 (by omega) (by omega) (by omega)]; exact (hL p hpp).2⟩) (by unfold QN; rw [hU0 17 (by omega), hU 7 (by omega) (by omega)]; exact hW4)
      intro U2 hFU2
      have hk2 := k U2 (hFU.tr hFU2.s)
      refine ⟨fun q => ?_, fun q => ?_⟩
      · rw [show max (dF X c) (dB X c) = dB X c from Int.max_eq_right q] at hk2; exact hk2
      · rw [show max (dF X c) (dB X c) = dF X c from Int.max_eq_left (by unfold dB; omega)] at hk2; exact hk2
    · intro i hi hQ U hU hU0 hU13 hU5
      have hrU : RP X U := RP_of hr4 (hU0 0 (by omega)) (hU0 1 (by omega)) (hU0 2 (by omega)) (hU0 4 (by omega)) (hU 1 (by omega) (by omega))
      have e2 := (hrU.2 i (by omega)).2.2.1
      have hx5 := (hw.2.2 i (by omega)).2.2.1
      apply gM_doorsOf_89
      simp only [Int.toNat_natCast]
      rw [hrU.1.2.2.2, hrU.1.1, show (7 * (i : Int) + 2).toNat = 7 * i + 2 by omega, e2]
      refine ⟨fun q => by omega, fun _ => ⟨by omega, by omega, by omega, by omega, by omega, by omega, ?_⟩⟩
      rw [to1]
      refine hQ _ (fun q h0 h5 => by rw [ax_u_cell h5]; exact hU q h0 h5) (fun f hf => by rw [ax_u_cell (by omega)]; exact hU0 f hf) (by rw [ax_u_cell (by omega)]; exact hU13) (fun j hj => ?_)
      rw [ax_uu]
      by_cases d : j = i
      · rw [if_pos d, d]
      · rw [if_neg d]; exact hU5 j (by omega)
  · intro i hi hQ W hW h15
    have e4 : W 0 4 = X 2 7 := by rw [hW 0 (by omega)]; exact hZ.1.1.2.2.2
    have e7 : W 7 i = od X c 3 i := by rw [hW 7 (by omega)]; exact hZ.2.2.2 i hi
    apply gM_doorsOf_21
    simp only [Int.toNat_natCast]
    rw [e4, e7]
    refine ⟨fun q => by omega, fun _ => ⟨by omega, ?_⟩⟩
    rw [to1]
    refine hQ _ (fun q hq => by rw [ax_u_cell hq]; exact hW q hq) (fun j hj => ?_)
    rw [ax_uu]
    by_cases d : j = i
    · rw [if_pos d, d]
    · rw [if_neg d]; exact h15 j (by omega)
theorem q_doors {t : Int} {X Y : ax_Mem} {a : Int} (h : INV t X Y) : kX_doors [.inr (.inr 0), .inl a] X (fun r X2 => kM_doors [.inr (.inr 0), .inl a] Y (fun r2 Y2 => r2 = r ∧ INV (t + 1) X2 Y2)) := by
  obtain ⟨i1, i2, i3, i4, i5, i6, i7, i8⟩ := id h
  have i61 := i6.1
  apply eX_doors
  refine refX (P := fun r X2 => kM_doors [.inr (.inr 0), .inl a] Y (fun r2 Y2 => r2 = r ∧ INV (t + 1) X2 Y2)) (fun c1 => ?_) (fun c1 c2 => ?_) (fun c1 c2 => ?_)
  · apply eM_doors
    exact refM (P := fun r2 Y2 => r2 = (-101) ∧ INV (t + 1) X Y2) h (fun _ => ⟨rfl, inv_id h⟩) (fun z => absurd z c1) (fun z => absurd z c1)
  · apply eM_doors
    exact refM (P := fun r2 Y2 => r2 = (-103) ∧ INV (t + 1) X Y2) h (fun z => absurd c1 z) (fun _ _ => ⟨rfl, inv_id h⟩) (fun _ z => absurd c2 z)
  · have hac : ((a.toNat : Nat) : Int) = a := by omega
    have hr2 : 2 ≤ X 1 0 := by omega
    rw [← hac]
    apply hX_secondsByDoors (XF.rf X) (by omega) i1 hr2 h.ck
    intro Z hZ
    rw [hac]
    apply eM_doors
    refine refM (P := fun r2 Y2 => r2 = max (dF X a.toNat) (dB X a.toNat) ∧ INV (t + 1) Z Y2) h (fun z => absurd c1 z) (fun _ z => absurd z c2) (fun _ _ => ?_)
    rw [← hac]
    apply hM_doorsOf (by omega) i1 hr2 h.ck i2 (h.rk _ (by omega))
    intro Z2 hF
    exact ⟨rfl, inv_fr h hZ hF (by omega)⟩
