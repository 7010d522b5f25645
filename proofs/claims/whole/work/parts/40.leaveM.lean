/-! leaving: the reference -/
def LM (X Y Z S : ax_Mem) : Prop := FS Y Z ∧ (∀ k : Nat, k < 12 → Z 8 k = S 0 k) ∧ (∀ p : Nat, (p : Int) < X 2 7 → Z 17 p = 1 - S 2 p ∧ Z 16 p = S 3 p ∧ (S 2 p = 1 → Z 9 p = S 1 p))
theorem hM_depthP {X Z : ax_Mem} {P : Int → ax_Mem → Prop} {p : Nat} (hw : WP X) (hr : RP X Z) (hp : (p : Int) < X 2 7) (k : P (X 7 p) Z) : kM_depthOf [.inr (.inr 0), .inl (p : Int)] Z P := by
  have hw1 := hw.1
  apply eM_depthOf
  rw [show (7 * (p : Int) + 4).toNat = 7 * p + 4 by omega, (hr.2 p hp).2.2.2.2.1]
  exact ⟨by omega, by omega, by omega, k⟩
theorem hM_sideP {X Z : ax_Mem} {P : Int → ax_Mem → Prop} {p : Nat} (hw : WP X) (hr : RP X Z) (hp : (p : Int) < X 2 7) (k : P (X 6 p) Z) : kM_sideOf [.inr (.inr 0), .inl (p : Int)] Z P := by
  have hw1 := hw.1
  apply eM_sideOf
  rw [show (7 * (p : Int) + 3).toNat = 7 * p + 3 by omega, (hr.2 p hp).2.2.2.1]
  exact ⟨by omega, by omega, by omega, k⟩
def tm (X : ax_Mem) (mn : Int) (p : Nat) : Int := if mn = 1 then X 7 p else X 5 p
def lm (X : ax_Mem) (mn : Int) (S : ax_Mem) : Nat → Int
  | 0 => 1000000
  | i + 1 => if S 2 i = 0 then min (lm X mn S i) (tm X mn i) else lm X mn S i
theorem lm_lt {X S : ax_Mem} {mn : Int} (hw : WP X) (hm : mn = 1 ∨ mn = 2) : ∀ i : Nat, (i : Int) ≤ X 2 7 → (lt X mn S i = 12 ∧ lm X mn S i = 1000000) ∨ lt X mn S i = lm X mn S i
  | 0, _ => Or.inl ⟨rfl, rfl⟩
  | i + 1, hi => by
    have ih := lm_lt (S := S) hw hm i (by omega)
    have hb := tn_b (mn := mn) hw (show (i : Int) < X 2 7 by omega)
    have e : tm X mn i = tn X mn i := by
      unfold tm tn
      rcases hm with z | z
      · rw [if_pos z, if_pos z]
      · rw [if_neg (by omega), if_neg (by omega), if_pos z]
    unfold lt lm
    rw [e]
    by_cases c : S 2 i = 0
    · rw [if_pos c, if_pos c]; omega
    · rw [if_neg c, if_neg c]; exact ih
theorem lt_nn {X S : ax_Mem} {mn : Int} (hw : WP X) : ∀ i : Nat, (i : Int) ≤ X 2 7 → 0 ≤ lt X mn S i
  | 0, _ => by show (0 : Int) ≤ 12; omega
  | i + 1, hi => by
    have ih := lt_nn (S := S) (mn := mn) hw i (by omega)
    have hb := tn_b (mn := mn) hw (show (i : Int) < X 2 7 by omega)
    unfold lt
    split <;> omega
/-- who may, by the reference's least -/
theorem may_eq {X S : ax_Mem} {mn : Int} {p : Nat} (hw : WP X) (hm : 0 ≤ mn ∧ mn ≤ 2) (hp : (p : Int) < X 2 7) (h0 : S 2 p = 0) : (mn = 0 ∨ tm X mn p = lm X mn S (X 2 7).toNat) ↔ tn X mn p = lt X mn S (X 2 7).toNat := by
  have hw1 := hw.1
  have l1 := lt_nn (S := S) (mn := mn) hw (X 2 7).toNat (by omega)
  have l2 := lt_le (X := X) (mn := mn) (S := S) (X 2 7).toNat p (by omega) h0
  have hb := tn_b (mn := mn) hw hp
  by_cases c : mn = 0
  · have e : tn X mn p = 0 := by unfold tn; rw [if_neg (by omega), if_neg (by omega)]
    exact ⟨fun _ => by omega, fun _ => Or.inl c⟩
  · have hl := lm_lt (S := S) hw (show mn = 1 ∨ mn = 2 by omega) (X 2 7).toNat (by omega)
    have e : tm X mn p = tn X mn p := by
      unfold tm tn
      by_cases z : mn = 1
      · rw [if_pos z, if_pos z]
      · rw [if_neg z, if_neg z, if_pos (by omega)]
    rw [e]
    rcases hl with ⟨z, -⟩ | z
    · omega
    · rw [z]
      exact ⟨fun q => q.resolve_left c, fun q => Or.inr q⟩
theorem hM_lowestOf {X Y Z S : ax_Mem} {P : Int → ax_Mem → Prop} {mn : Int} (hw : WP X) (hr : RP X Y) (hs : WS X S) (h : LM X Y Z S) (k : P (lm X mn S (X 2 7).toNat) Z) : kM_lowestOf [.inr (.inr 0), .inl mn] Z P := by
  have hw1 := hw.1
  have hrz := FS_RP h.1 hr
  apply eM_lowestOf
  refine up_loop (Q := fun i => jM_lowestOf P 5 [(0, .inr (.inr 0)), (1, .inl mn), (2, .inl (lm X mn S i)), (3, .inl (i : Int))] [] Z) (X 2 7).toNat ?_ ?_ 0 (Nat.zero_le _)
  · apply gM_lowestOf_5
    rw [hrz.1.2.2.2]
    exact ⟨fun _ => k, fun c => by omega⟩
  · intro i hi hQ
    have hpi : (i : Int) < X 2 7 := by omega
    have e17 := (h.2.2 i hpi).1
    have h2 := (hs.2.1 i hpi).1
    apply gM_lowestOf_5
    simp only [Int.toNat_natCast]
    rw [hrz.1.2.2.2, show (7 * (i : Int) + 2).toNat = 7 * i + 2 by omega, (hrz.2 i hpi).2.2.1, to1]
    unfold lm at hQ
    refine ⟨fun c => by omega, fun _ => ⟨fun c => ⟨by omega, by omega, by omega, by omega, fun d => ?_, fun d => ⟨fun e => ?_, fun e => ?_⟩⟩, fun c => ?_⟩⟩
    · rw [if_neg (by omega)] at hQ; exact hQ
    · rw [if_pos (by omega), show tm X mn i = X 5 i from if_neg c, Int.min_eq_left e] at hQ; exact hQ
    · rw [if_pos (by omega), show tm X mn i = X 5 i from if_neg c, Int.min_eq_right (by omega)] at hQ; exact hQ
    · apply hM_depthP hw hrz hpi
      refine ⟨by omega, fun d => ?_, fun d => ⟨fun e => ?_, fun e => ?_⟩⟩
      · rw [if_neg (by omega)] at hQ; exact hQ
      · rw [if_pos (by omega), show tm X mn i = X 7 i from if_pos c, Int.min_eq_left e] at hQ; exact hQ
      · rw [if_pos (by omega), show tm X mn i = X 7 i from if_pos c, Int.min_eq_right (by omega)] at hQ; exact hQ
theorem hM_mayGo {X Y Z S : ax_Mem} {P : Int → ax_Mem → Prop} {mn low : Int} {p : Nat} (hw : WP X) (hr : RP X Y) (hs : WS X S) (h : LM X Y Z S) (hp : (p : Int) < X 2 7) (k0 : ¬ (S 2 p = 0 ∧ (mn = 0 ∨ tm X mn p = low)) → P 0 Z) (k1 : S 2 p = 0 ∧ (mn = 0 ∨ tm X mn p = low) → P 1 Z) : kM_mayGo [.inr (.inr 0), .inl (p : Int), .inl mn, .inl low] Z P := by
  have hw1 := hw.1
  have hrz := FS_RP h.1 hr
  have e17 := (h.2.2 p hp).1
  have h2 := (hs.2.1 p hp).1
  apply eM_mayGo
  simp only [Int.toNat_natCast]
  rw [show (7 * (p : Int) + 2).toNat = 7 * p + 2 by omega, (hrz.2 p hp).2.2.1]
  unfold tm at k0 k1
  refine ⟨by omega, fun c => k0 (by omega), fun c => ⟨fun d => k1 ⟨by omega, Or.inl d⟩, fun d => ⟨fun e => ?_, fun e => ?_⟩⟩⟩
  · rw [if_neg e] at k0 k1
    exact ⟨fun g => k0 (by omega), fun g => k1 (by omega)⟩
  · rw [if_pos e] at k0 k1
    apply hM_depthP hw hrz hp
    exact ⟨fun g => k0 (by omega), fun g => k1 (by omega)⟩
theorem hM_getUp {X Y Z S : ax_Mem} {P : Int → ax_Mem → Prop} {mn : Int} (hw : WP X) (hm : 0 ≤ mn ∧ mn ≤ 2) (hr : RP X Y) (hs : WS X S) (h : LM X Y Z S) (k : ∀ Z2, LM X Y Z2 (lo_rows X mn (lt X mn S (X 2 7).toNat) (X 1 0).toNat S) → P 0 Z2) : kM_getUp [.inr (.inr 0), .inl mn] Z P := by
  have hw1 := hw.1
  have hw2 := hw.2.1
  apply eM_getUp
  apply hM_lowestOf hw hr hs h
  have hmay : ∀ (p : Nat), (p : Int) < X 2 7 → S 2 p = 0 → ((mn = 0 ∨ tm X mn p = lm X mn S (X 2 7).toNat) ↔ tn X mn p = lt X mn S (X 2 7).toNat) := fun p hp h0 => may_eq hw hm hp h0
  generalize lm X mn S (X 2 7).toNat = low at hmay
  generalize lt X mn S (X 2 7).toNat = turn at k hmay
  refine up_loop (Q := fun r => ∀ Z2, LM X Y Z2 (lo_rows X mn turn r S) → (∀ p : Nat, lo_rows X mn turn r S 2 p = 0 → S 2 p = 0) → jM_getUp P 8 [(0, .inr (.inr 0)), (1, .inl mn), (2, .inl low), (3, .inl (r : Int))] [] Z2) (X 1 0).toNat ?_ ?_ 0 (Nat.zero_le _) Z h (fun _ z => z)
  · intro Z2 h2 _
    apply gM_getUp_8
    rw [(FS_RP h2.1 hr).1.1]
    exact ⟨fun _ => k Z2 h2, fun c => by omega⟩
  · intro r hr0 hQ Z2 h2 hup0
    have hQ2 : ∀ Z3, LM X Y Z3 (lo_row X mn turn r (lo_rows X mn turn r S)) → (∀ p : Nat, lo_row X mn turn r (lo_rows X mn turn r S) 2 p = 0 → S 2 p = 0) → jM_getUp P 8 [(0, .inr (.inr 0)), (1, .inl mn), (2, .inl low), (3, .inl ((r + 1 : Nat) : Int))] [] Z3 := hQ
    have hws := (lo_rows_ok (mn := mn) (turn := turn) hw hs r (by omega)).1
    generalize lo_rows X mn turn r S = S2 at h2 hQ2 hws hup0
    have hrz := FS_RP h2.1 hr
    unfold lo_row at hQ2
    apply gM_getUp_8
    simp only [Int.toNat_natCast]
    rw [hrz.1.1, h2.2.1 r (by omega)]
    refine ⟨fun c => by omega, fun _ => ⟨by omega, fun c => ?_, fun c => ?_⟩⟩
    · rw [if_neg c] at hQ2
      apply gM_getUp_189
      rw [to1]
      exact ⟨by omega, hQ2 Z2 h2 hup0⟩
    · rw [if_pos c] at hQ2
      refine up_loop (Q := fun i => jM_getUp P 32 [(0, .inr (.inr 0)), (1, .inl mn), (2, .inl low), (3, .inl (r : Int)), (4, .inl (nx X mn S2 r turn i)), (5, .inl (i : Int))] [] Z2) (X 2 7).toNat ?_ ?_ 0 (Nat.zero_le _)
      · apply gM_getUp_32
        rw [hrz.1.2.2.2]
        refine ⟨fun _ => ⟨fun d => ?_, fun d => ?_⟩, fun q => by omega⟩
        · rw [if_pos d] at hQ2
          apply gM_getUp_189
          rw [to1]
          exact ⟨by omega, hQ2 Z2 h2 hup0⟩
        · rw [if_neg d] at hQ2
          obtain ⟨hb1, hb2, hb3⟩ := (nx_b X mn S2 r turn (X 2 7).toNat).resolve_left d
          generalize nx X mn S2 r turn (X 2 7).toNat = p at d hb1 hb2 hb3 hQ2
          have hpn : ((p.toNat : Nat) : Int) < X 2 7 := by omega
          have hbg := (hw.2.2 _ hpn).2.2.2.2.2.1
          rw [show (7 * p + 5).toNat = 7 * p.toNat + 5 by omega, (hrz.2 _ hpn).2.2.2.2.2.1]
          simp only [Int.toNat_natCast]
          refine ⟨by omega, by omega, by omega, ?_⟩
          apply gM_getUp_189
          rw [to1]
          refine ⟨by omega, hQ2 _ ⟨h2.1.tr ⟨⟨rfl, rfl, rfl, rfl⟩, rfl, rfl, rfl, rfl, rfl, rfl, rfl, rfl, rfl, rfl, rfl⟩, fun q hq => ?_, fun q hq => ?_⟩ (fun q hq => ?_)⟩
          · show ax_u (ax_u Z2 17 p.toNat 0) 8 r p 8 q = ax_u S2 0 r p 0 q
            rw [ax_uu, ax_uu, ax_u_cell (by omega), h2.2.1 q hq]
          · obtain ⟨d1, d2, d3⟩ := h2.2.2 q hq
            refine ⟨?_, d2, ?_⟩
            · show ax_u Z2 17 p.toNat 0 17 q = 1 - ax_u (ax_u S2 0 r p) 2 p.toNat 1 2 q
              rw [ax_uu, ax_uu, ax_u_cell (by omega), d1]
              split <;> omega
            · show ax_u (ax_u S2 0 r p) 2 p.toNat 1 2 q = 1 → ax_u (ax_u (ax_u Z2 17 p.toNat 0) 8 r p) 9 p.toNat (2 * X 8 p.toNat) 9 q = ax_u (ax_u (ax_u S2 0 r p) 2 p.toNat 1) 1 p.toNat (2 * X 8 p.toNat) 1 q
              rw [ax_uu, ax_uu, ax_uu, ax_u_cell (by omega), ax_u_cell (by omega), ax_u_cell (by omega), ax_u_cell (by omega), ax_u_cell (by omega)]
              intro z
              by_cases e : q = p.toNat
              · rw [if_pos e, if_pos e]
              · rw [if_neg e] at z ⊢
                rw [if_neg e]
                exact d3 z
          · have hq2 : ax_u (ax_u S2 0 r p) 2 p.toNat 1 2 q = 0 := hq
            rw [ax_uu, ax_u_cell (by omega)] at hq2
            by_cases e : q = p.toNat
            · rw [if_pos e] at hq2; omega
            · rw [if_neg e] at hq2; exact hup0 q hq2
      · intro i hi hQi
        have hpi : (i : Int) < X 2 7 := by omega
        have hbi := nx_b X mn S2 r turn i
        have t138 : ∀ v : Int, v = nx X mn S2 r turn (i + 1) → jM_getUp P 138 [(0, .inr (.inr 0)), (1, .inl mn), (2, .inl low), (3, .inl (r : Int)), (5, .inl (i : Int))] [.inl v] Z2 := by
          intro v hv
          apply gM_getUp_138
          rw [to1, hv]
          exact ⟨by omega, hQi⟩
        have t119 : ∀ m a : Int, (if ¬ m = 0 ∧ ¬ a = 0 then (i : Int) else nx X mn S2 r turn i) = nx X mn S2 r turn (i + 1) → jM_getUp P 119 [(0, .inr (.inr 0)), (1, .inl mn), (2, .inl low), (3, .inl (r : Int)), (4, .inl (nx X mn S2 r turn i)), (5, .inl (i : Int)), (6, .inl m)] [.inl a] Z2 := by
          intro m a hv
          apply gM_getUp_119
          refine ⟨fun d => ?_, fun d => ⟨fun e => ?_, fun e => ?_⟩⟩
          · rw [if_neg (fun z => z.1 d)] at hv
            apply gM_getUp_136
            exact t138 _ hv
          · rw [if_neg (fun z => z.2 e)] at hv
            apply gM_getUp_136
            exact t138 _ hv
          · rw [if_pos ⟨d, e⟩] at hv
            exact t138 _ hv
        have t73 : ∀ m : Int, (¬ m = 0 ↔ (S2 2 i = 0 ∧ X 5 i = r ∧ tn X mn i = turn)) → jM_getUp P 73 [(0, .inr (.inr 0)), (1, .inl mn), (2, .inl low), (3, .inl (r : Int)), (4, .inl (nx X mn S2 r turn i)), (5, .inl (i : Int))] [.inl m] Z2 := by
          intro m hmm
          have ahead : (nx X mn S2 r turn i = -1 ∨ nr X i (nx X mn S2 r turn i)) → (if ¬ m = 0 ∧ ¬ (1 : Int) = 0 then (i : Int) else nx X mn S2 r turn i) = nx X mn S2 r turn (i + 1) := by
            intro ha
            by_cases d : m = 0
            · rw [if_neg (fun z => z.1 d), nx_n (fun z => (hmm.mpr ⟨z.1, z.2.1, z.2.2.1⟩) d)]
            · have := hmm.mp d
              rw [if_pos ⟨d, by decide⟩, nx_p ⟨this.1, this.2.1, this.2.2, ha⟩]
          have nahead : ¬ (nx X mn S2 r turn i = -1 ∨ nr X i (nx X mn S2 r turn i)) → (if ¬ m = 0 ∧ ¬ (0 : Int) = 0 then (i : Int) else nx X mn S2 r turn i) = nx X mn S2 r turn (i + 1) := by
            intro ha
            rw [if_neg (fun z => z.2 rfl), nx_n (fun z => ha z.2.2.2)]
          apply gM_getUp_73
          refine ⟨fun d => ?_, fun d => ?_⟩
          · apply gM_getUp_114
            exact t119 _ _ (ahead (Or.inl d))
          · have hb := hbi.resolve_left d
            have hfn : (((nx X mn S2 r turn i).toNat : Nat) : Int) < X 2 7 := by omega
            have ef : nx X mn S2 r turn i = (((nx X mn S2 r turn i).toNat : Nat) : Int) := by omega
            obtain ⟨x1, x2, x3, x4, x5, x6, x7⟩ := hw.2.2 i hpi
            obtain ⟨y1, y2, y3, y4, y5, y6, y7⟩ := hw.2.2 _ hfn
            apply hM_depthP hw hrz hpi
            refine ⟨by omega, ?_⟩
            apply hM_sideP hw hrz hpi
            refine ⟨by omega, ?_⟩
            have hd : ∀ Q : Int → ax_Mem → Prop, Q (X 7 (nx X mn S2 r turn i).toNat) Z2 → kM_depthOf [.inr (.inr 0), .inl (nx X mn S2 r turn i)] Z2 Q := by
              intro Q q
              have := hM_depthP (P := Q) hw hrz hfn q
              rw [← ef] at this
              exact this
            have hsd : ∀ Q : Int → ax_Mem → Prop, Q (X 6 (nx X mn S2 r turn i).toNat) Z2 → kM_sideOf [.inr (.inr 0), .inl (nx X mn S2 r turn i)] Z2 Q := by
              intro Q q
              have := hM_sideP (P := Q) hw hrz hfn q
              rw [← ef] at this
              exact this
            apply hd
            refine ⟨by omega, ?_⟩
            apply hsd
            refine ⟨by omega, fun e => ?_, fun e => ?_⟩
            · refine t119 _ _ (nahead (fun z => ?_))
              rcases z with z | z
              · exact d z
              · rcases z with z | z <;> omega
            · apply gM_getUp_114
              refine t119 _ _ (ahead (Or.inr ?_))
              by_cases g : X 7 i = X 7 (nx X mn S2 r turn i).toNat
              · exact Or.inr ⟨g, by omega⟩
              · exact Or.inl (by omega)
        apply gM_getUp_32
        rw [hrz.1.2.2.2, show (7 * (i : Int) + 2).toNat = 7 * i + 2 by omega, (hrz.2 i hpi).2.2.1]
        refine ⟨fun q => by omega, fun _ => ⟨by omega, by omega, by omega, fun d => ?_, fun d => ?_⟩⟩
        · apply gM_getUp_72
          exact t73 0 ⟨fun z => absurd rfl z, fun z => absurd z.2.1 d⟩
        · apply hM_mayGo hw hr hws h2 hpi
          · intro e
            refine ⟨fun _ => ?_, fun z => absurd rfl z⟩
            apply gM_getUp_72
            refine t73 0 ⟨fun z => absurd rfl z, fun z => absurd ⟨z.1, (hmay i hpi (hup0 i z.1)).mpr z.2.2⟩ e⟩
          · intro e
            refine ⟨fun z => absurd z (by decide), fun _ => ?_⟩
            exact t73 1 ⟨fun _ => ⟨e.1, d, (hmay i hpi (hup0 i e.1)).mp e.2⟩, fun _ => by decide⟩
