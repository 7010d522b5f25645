/-! out, outOf, missed -/
theorem hM_goOut {X Y : ax_Mem} {P : Int → ax_Mem → Prop} {mn : Int} (hw : WP X) (hm : 0 ≤ mn ∧ mn ≤ 2) (hr : RP X Y) (k : ∀ Z, FS Y Z → (∀ p : Nat, (p : Int) < X 2 7 → Z 16 p = ouS X mn 3 p) → P (ouT X mn) Z) : kM_goOut [.inr (.inr 0), .inl mn] Y P := by
  have hw1 := hw.1
  have hw2 := hw.2.1
  have he := ou_end (mn := mn) hw
  apply eM_goOut
  rw [hr.1.2.2.2]
  refine up_loop (Q := fun r => ∀ Z : ax_Mem, FS Y Z → (∀ j, j < r → Z 8 j = -1 ∧ Z 17 j = 1 ∧ Z 16 j = 0) → jM_goOut P 7 [(0, .inr (.inr 0)), (1, .inl mn), (2, .inl (X 2 7)), (3, .inl (r : Int))] [] Z) 12 ?_ ?_ 0 (Nat.zero_le _) Y (FS.rf Y) (fun j hj => by omega)
  · intro Z hF h0
    apply gM_goOut_7
    refine ⟨fun _ => ?_, fun c => by omega⟩
    have hLM : LM X Y Z lo_0 := ⟨hF, fun q hq => (h0 q hq).1, fun p hp => ⟨(h0 p (by omega)).2.1, (h0 p (by omega)).2.2, fun z => absurd z (by show ¬ (0 : Int) = 1; omega)⟩⟩
    have key : ∀ (f : Nat) (s : Int) (S U : ax_Mem), s + f = 10000 → 1 ≤ s → WS X S → LM X Y U S → lo_run X mn f s S = ouS X mn → s - 1 + lo_cnt X mn f s S = ouT X mn → jM_goOut P 49 [(0, .inr (.inr 0)), (1, .inl mn), (2, .inl (X 2 7 - S 4 0)), (3, .inl (s - 1))] [] U := by
      intro f
      induction f with
      | zero =>
        intro s S U hs hs1 hws hU e e2
        have e3 : S = ouS X mn := e
        have e4 : s - 1 + ((0 : Nat) : Int) = ouT X mn := e2
        apply gM_goOut_49
        have : X 2 7 ≤ S 4 0 := by rw [e3]; exact he.1
        refine ⟨fun _ => ?_, fun c => by omega⟩
        rw [show s - 1 = (ouT X mn : Int) by omega]
        exact k U hU.1 (fun p hp => by rw [(hU.2.2 p hp).2.1, e3])
      | succ f ih =>
        intro s S U hs hs1 hws hU e e2
        have hoc := hws.2.2.1
        have hoc2 := occ_le (ups S) (X 2 7).toNat
        have hoc3 := occ_0 (S 0) 12
        have h40 := hws.2.2.2
        apply gM_goOut_49
        unfold lo_run at e
        unfold lo_cnt at e2
        by_cases c : X 2 7 ≤ S 4 0
        · rw [if_pos c] at e e2
          refine ⟨fun _ => ?_, fun c => by omega⟩
          rw [show s - 1 = (ouT X mn : Int) by omega]
          exact k U hU.1 (fun p hp => by rw [(hU.2.2 p hp).2.1, e])
        · rw [if_neg c] at e e2
          refine ⟨fun q => by omega, fun _ => ⟨by omega, ?_⟩⟩
          rw [show s - 1 + 1 = s by omega]
          refine up_loop (Q := fun r => ∀ Z2, LM X Y Z2 (lo_on s r S) → jM_goOut P 59 [(0, .inr (.inr 0)), (1, .inl mn), (2, .inl (X 2 7 - lo_on s r S 4 0)), (3, .inl s), (4, .inl (r : Int))] [] Z2) (X 1 0).toNat ?_ ?_ 0 (Nat.zero_le _) U hU
          · intro Z2 h2
            apply gM_goOut_59
            rw [(FS_RP h2.1 hr).1.1]
            refine ⟨fun _ => ?_, fun q => by omega⟩
            apply hM_getUp hw hm hr (lo_on_ok (s := s) hw hws (X 1 0).toNat (by omega)).1 h2
            intro Z3 h3
            have e5 : lo_sec X mn s S 4 = lo_on s (X 1 0).toNat S 4 := lo_rows_4 _ _ _ _ _
            have := ih (s + 1) (lo_sec X mn s S) Z3 (by omega) (by omega) (lo_sec_ok hw hws (by omega)).1 h3 e (by omega)
            rw [e5, show s + 1 - 1 = s by omega] at this
            exact this
          · intro r hr0 hQ Z2 h2
            have hQ2 : ∀ Z3, LM X Y Z3 (lo_cell s r (lo_on s r S)) → jM_goOut P 59 [(0, .inr (.inr 0)), (1, .inl mn), (2, .inl (X 2 7 - lo_cell s r (lo_on s r S) 4 0)), (3, .inl s), (4, .inl ((r + 1 : Nat) : Int))] [] Z3 := hQ
            have hws2 := (lo_on_ok (s := s) hw hws r (by omega)).1
            generalize lo_on s r S = S2 at h2 hQ2 hws2
            have gc1 := hws2.2.2.1
            have gc2 := occ_le (ups S2) (X 2 7).toNat
            have gc3 := occ_0 (S2 0) 12
            have gc4 := hws2.2.2.2
            unfold lo_cell at hQ2
            have t177 : ∀ Z3 v2, jM_goOut P 59 [(0, .inr (.inr 0)), (1, .inl mn), (2, .inl v2), (3, .inl s), (4, .inl ((r + 1 : Nat) : Int))] [] Z3 → jM_goOut P 177 [(0, .inr (.inr 0)), (1, .inl mn), (2, .inl v2), (3, .inl s), (4, .inl (r : Int))] [] Z3 := by
              intro Z3 v2 q
              apply gM_goOut_177
              rw [to1]
              exact ⟨by omega, q⟩
            obtain ⟨a1, b1, d1⟩ := id h2
            apply gM_goOut_59
            simp only [Int.toNat_natCast]
            rw [(FS_RP h2.1 hr).1.1, b1 r (by omega)]
            refine ⟨fun q => by omega, fun _ => ⟨by omega, fun c => ?_, fun c => ?_⟩⟩
            · rw [if_pos c] at hQ2
              apply gM_goOut_107
              refine ⟨fun _ => ?_, fun q => absurd c q⟩
              apply gM_goOut_139
              refine ⟨fun _ => ?_, fun q => absurd c q⟩
              exact t177 _ _ (hQ2 Z2 h2)
            · rw [if_neg c] at hQ2
              obtain ⟨hp, hup, -⟩ := (hws2.1 r (by omega)).resolve_left c
              have hpn : (((S2 0 r).toNat : Nat) : Int) < X 2 7 := by omega
              have hb := (hws2.2.1 _ hpn).2
              rw [(d1 _ hpn).2.2 hup]
              refine ⟨by omega, fun g => ?_, fun g => ⟨by omega, ?_⟩⟩
              · rw [if_neg (by omega)] at hQ2
                apply gM_goOut_107
                refine ⟨fun q => absurd q c, fun _ => ⟨fun i => ?_, fun i => ⟨by omega, by omega, ?_⟩⟩⟩
                · rw [if_neg (by omega)] at hQ2
                  apply gM_goOut_139
                  simp only [Int.toNat_natCast]
                  rw [show ((r : Int) - 1).toNat = r - 1 by omega, b1 (r - 1) (by omega)]
                  refine ⟨fun q => absurd q c, fun _ => ⟨by omega, by omega, fun l => ?_, fun l => ⟨by omega, ?_⟩⟩⟩
                  · rw [if_neg l] at hQ2; exact t177 _ _ (hQ2 Z2 h2)
                  · rw [if_pos l] at hQ2
                    refine t177 _ _ (hQ2 _ ⟨a1.tr ⟨⟨rfl, rfl, rfl, rfl⟩, rfl, rfl, rfl, rfl, rfl, rfl, rfl, rfl, rfl, rfl, rfl⟩, fun q hq => ?_, d1⟩)
                    unfold lo_mov
                    rw [ax_uu, ax_uu, ax_uu, ax_uu, b1 q hq]
                · rw [if_pos (by omega)] at hQ2
                  have r0 : r = 0 := by omega
                  subst r0
                  have e40 : lo_out s S2 4 0 = S2 4 0 + 1 := by unfold lo_out; rw [ax_us (by omega), ax_uu, if_pos rfl]
                  rw [e40] at hQ2
                  rw [show X 2 7 - S2 4 0 + -1 = X 2 7 - (S2 4 0 + 1) by omega]
                  refine t177 _ _ (hQ2 _ ⟨a1.tr ⟨⟨rfl, rfl, rfl, rfl⟩, rfl, rfl, rfl, rfl, rfl, rfl, rfl, rfl, rfl, rfl, rfl⟩, fun q hq => ?_, fun q hq => ?_⟩)
                  · show ax_u Z2 8 0 (-1) 8 q = ax_u S2 0 0 (-1) 0 q
                    rw [ax_uu, ax_uu, b1 q hq]
                  · obtain ⟨d2, d3, d4⟩ := d1 q hq
                    refine ⟨d2, ?_, d4⟩
                    show ax_u (ax_u Z2 8 0 (-1)) 16 (S2 0 0).toNat s 16 q = ax_u (ax_u S2 0 0 (-1)) 3 (S2 0 0).toNat s 3 q
                    rw [ax_uu, ax_uu, ax_u_cell (by omega), ax_u_cell (by omega), d3]
              · rw [if_pos (by omega)] at hQ2
                refine t177 _ _ (hQ2 _ ⟨a1.tr ⟨⟨rfl, rfl, rfl, rfl⟩, rfl, rfl, rfl, rfl, rfl, rfl, rfl, rfl, rfl, rfl, rfl⟩, b1, fun q hq => ?_⟩)
                obtain ⟨d2, d3, d4⟩ := d1 q hq
                refine ⟨d2, d3, fun z => ?_⟩
                unfold lo_dec
                rw [ax_uu, ax_uu, d4 z]
    have := key 9999 1 lo_0 Z (by omega) (by omega) (lo_0_ok hw).1 hLM rfl (by unfold ouT; omega)
    rw [show X 2 7 - lo_0 4 0 = X 2 7 from Int.sub_zero _] at this
    exact this
  · intro r hr0 hQ Z hF h0
    apply gM_goOut_7
    simp only [Int.toNat_natCast]
    rw [to1]
    refine ⟨fun c => by omega, fun _ => ⟨by omega, ?_⟩⟩
    refine hQ _ (hF.tr ⟨⟨rfl, rfl, rfl, rfl⟩, rfl, rfl, rfl, rfl, rfl, rfl, rfl, rfl, rfl, rfl, rfl⟩) (fun j hj => ?_)
    rw [ax_u_cell (by omega), ax_u_cell (by omega), ax_u_cell (by omega), ax_uu, ax_u_cell (show (17 : Nat) ≠ 16 by omega), ax_uu, ax_u_cell (show (17 : Nat) ≠ 9 by omega), ax_u_cell (show (17 : Nat) ≠ 8 by omega), ax_uu, ax_u_cell (show (16 : Nat) ≠ 17 by omega), ax_u_cell (show (16 : Nat) ≠ 9 by omega), ax_u_cell (show (16 : Nat) ≠ 8 by omega)]
    by_cases d : j = r
    · rw [if_pos d, if_pos d, if_pos d]; exact ⟨rfl, rfl, rfl⟩
    · rw [if_neg d, if_neg d, if_neg d]; exact h0 j (by omega)
theorem inM0 {a : Int} (ha : ax_r a) : ∀ {Y : ax_Mem} {P : Int → ax_Mem → Prop} {G : ax_Mem → Prop} {r : Int}, (a < 0 ∨ 2 < a → P r Y) → (¬ (a < 0 ∨ 2 < a) → G Y) → kM_in [.inr (.inl a), .inr (.inl 0), .inr (.inl 2)] Y (fun r5 M6 => (r5 = 0 → P r M6) ∧ (¬ r5 = 0 → G M6)) := by
  intro Y P G r h1 h2
  exact ax_C_mono (fun _ _ z => ⟨z.2, z.1⟩) (inM ha (ax_r0 (by omega)) (ax_r0 (by omega)) h1 h2)
theorem hX_out {X X2 : ax_Mem} {P : Int → ax_Mem → Prop} {mn : Int} (hw : WP X) (hr2 : 2 ≤ X 1 0) (hx : XF X X2) (hm : 0 ≤ mn ∧ mn ≤ 2) (k : ∀ Z, XF X Z → P (ouT X mn) Z) : kX_out [.inr (.inr 0), .inl mn] X2 P := by
  apply eX_out
  apply hC_isMissing
  rw [hx 1 (by omega), if_neg (by omega)]
  refine ⟨fun _ => ?_, fun q => absurd rfl q⟩
  apply hX_outside
  rw [if_neg (by omega)]
  refine ⟨fun _ => ?_, fun q => absurd rfl q⟩
  rw [hx 1 (by omega)]
  apply hL_run hw hx
  intro V hV h8 _
  rw [h8]
  exact k V hV
theorem q_out {t : Int} {X Y : ax_Mem} {a : Int} (h : INV t X Y) : kX_out [.inr (.inr 0), .inl a] X (fun r X2 => kM_out [.inr (.inr 0), .inl a] Y (fun r2 Y2 => r2 = r ∧ INV (t + 1) X2 Y2)) := by
  apply ax_Ca
  intro har
  have ha : ax_r a := har (.inl a) (by simp)
  obtain ⟨i1, i2, i3, i4, i5, i6, i7, i8⟩ := id h
  have y0 := i2.1.1
  by_cases c0 : X 1 0 = 0
  · apply eX_out
    apply hC_isMissing
    rw [if_pos c0]
    refine ⟨fun q => absurd q (by decide), fun _ => ?_⟩
    apply eM_out
    apply hM_lacks
    rw [if_pos (by omega)]
    exact ⟨fun q => absurd q (by decide), fun _ => ⟨rfl, inv_id h⟩⟩
  · by_cases c1 : a < 0 ∨ 2 < a
    · apply eX_out
      apply hC_isMissing
      rw [if_neg c0]
      refine ⟨fun _ => ?_, fun q => absurd rfl q⟩
      apply hX_outside
      rw [if_pos c1]
      refine ⟨fun q => absurd q (by decide), fun _ => ?_⟩
      apply eM_out
      apply hM_lacks
      rw [if_neg (by omega)]
      refine ⟨fun _ => ?_, fun q => absurd rfl q⟩
      exact inM0 (P := fun r2 Y2 => r2 = (-102) ∧ INV (t + 1) X Y2) ha (fun _ => ⟨rfl, inv_id h⟩) (fun z => absurd c1 z)
    · apply hX_out i1 (by omega) (XF.rf X) (by omega)
      intro Z hZ
      apply eM_out
      apply hM_lacks
      rw [if_neg (by omega)]
      refine ⟨fun _ => ?_, fun q => absurd rfl q⟩
      refine inM0 (P := fun r2 Y2 => r2 = (ouT X a : Int) ∧ INV (t + 1) Z Y2) ha (fun z => absurd z c1) (fun _ => ?_)
      apply hM_goOut i1 (by omega) i2
      intro W hF _
      exact ⟨rfl, inv_fr h hZ hF (by omega)⟩
theorem q_outOf {t : Int} {X Y : ax_Mem} {p a : Int} (h : INV t X Y) : kX_outOf [.inr (.inr 0), .inl p, .inl a] X (fun r X2 => kM_outOf [.inr (.inr 0), .inl p, .inl a] Y (fun r2 Y2 => r2 = r ∧ INV (t + 1) X2 Y2)) := by
  apply ax_Ca
  intro har
  have ha : ax_r a := har (.inl a) (by simp)
  obtain ⟨i1, i2, i3, i4, i5, i6, i7, i8⟩ := id h
  have y4 := i2.1.2.2.2
  have w1 := i1.1
  apply eX_outOf
  apply hE_has
  by_cases c0 : 0 ≤ p ∧ p < X 2 7
  · rw [if_pos c0]
    refine ⟨fun _ => ?_, fun q => absurd q (by decide)⟩
    have st : ∀ P : Int → ax_Mem → Prop, kM_in [.inr (.inl a), .inr (.inl 0), .inr (.inl 2)] Y (fun r3 M4 => (¬ r3 = 0 → kM_goOut [.inr (.inr 0), .inl a] M4 (fun r5 M6 => (0 ≤ p ∧ p < 12) ∧ P (M6 16 (p.toNat)) M6)) ∧ (r3 = 0 → P (-102) M4)) → kM_outOf [.inr (.inr 0), .inl p, .inl a] Y P := by
      intro P hP
      apply eM_outOf
      apply hM_isPerson (by omega)
      rw [if_pos (by omega)]
      exact ⟨fun _ => hP, fun q => absurd q (by decide)⟩
    refine outX (P := fun r X2 => kM_outOf [.inr (.inr 0), .inl p, .inl a] Y (fun r2 Y2 => r2 = r ∧ INV (t + 1) X2 Y2)) (fun c3 => ?_) (fun c3 => ?_)
    · apply st
      exact inM (P := fun r2 Y2 => r2 = (-102) ∧ INV (t + 1) X Y2) ha (ax_r0 (by omega)) (ax_r0 (by omega)) (fun _ => ⟨rfl, inv_id h⟩) (fun z => absurd c3 z)
    · apply hL_run i1 (XF.rf X)
      intro V hV _ h70
      refine ⟨by omega, ?_⟩
      apply st
      refine inM (P := fun r2 Y2 => r2 = V 70 p.toNat ∧ INV (t + 1) V Y2) ha (ax_r0 (by omega)) (ax_r0 (by omega)) (fun z => absurd z c3) (fun _ => ?_)
      apply hM_goOut i1 (by omega) i2
      intro W hF h16
      refine ⟨by omega, ?_, inv_fr h hV hF (by omega)⟩
      rw [h16 p.toNat (by omega), h70 p.toNat (by omega)]
  · rw [if_neg c0]
    refine ⟨fun q => absurd rfl q, fun _ => ?_⟩
    apply eM_outOf
    apply hM_isPerson (by omega)
    rw [if_neg (by omega)]
    exact ⟨fun q => absurd rfl q, fun _ => ⟨rfl, inv_id h⟩⟩
def mib (X : ax_Mem) (mn : Int) : Nat → Nat
  | 0 => 0
  | i + 1 => if ouS X mn 3 i ≤ X 9 i then mib X mn i else mib X mn i ||| 2 ^ i
theorem mib_s (X : ax_Mem) (mn : Int) (i : Nat) : mib X mn (i + 1) = if ouS X mn 3 i ≤ X 9 i then mib X mn i else mib X mn i ||| 2 ^ i := rfl
theorem q_missed {t : Int} {X Y : ax_Mem} {a : Int} (h : INV t X Y) : kX_missed [.inr (.inr 0), .inl a] X (fun r X2 => kM_missed [.inr (.inr 0), .inl a] Y (fun r2 Y2 => r2 = r ∧ INV (t + 1) X2 Y2)) := by
  apply ax_Ca
  intro har
  have ha : ax_r a := har (.inl a) (by simp)
  obtain ⟨i1, i2, i3, i4, i5, i6, i7, i8⟩ := id h
  have y0 := i2.1.1
  have w1 := i1.1
  apply eX_missed
  apply hC_isMissing
  by_cases c0 : X 1 0 = 0
  · rw [if_pos c0]
    refine ⟨fun q => absurd q (by decide), fun _ => ?_⟩
    apply eM_missed
    apply hM_lacks
    rw [if_pos (by omega)]
    exact ⟨fun q => absurd q (by decide), fun _ => ⟨rfl, inv_id h⟩⟩
  · rw [if_neg c0]
    refine ⟨fun _ => ?_, fun q => absurd rfl q⟩
    have st : ∀ P : Int → ax_Mem → Prop, kM_in [.inr (.inl a), .inr (.inl 0), .inr (.inl 2)] Y (fun r3 M4 => (¬ r3 = 0 → kM_goOut [.inr (.inr 0), .inl a] M4 (fun r5 M6 => jM_missed P 36 [(0, .inr (.inr 0)), (3, .inl 0), (4, .inl 0)] [] M6)) ∧ (r3 = 0 → P (-102) M4)) → kM_missed [.inr (.inr 0), .inl a] Y P := by
      intro P hP
      apply eM_missed
      apply hM_lacks
      rw [if_neg (by omega)]
      exact ⟨fun _ => hP, fun q => absurd rfl q⟩
    refine outX (P := fun r X2 => kM_missed [.inr (.inr 0), .inl a] Y (fun r2 Y2 => r2 = r ∧ INV (t + 1) X2 Y2)) (fun c3 => ?_) (fun c3 => ?_)
    · apply st
      exact inM (P := fun r2 Y2 => r2 = (-102) ∧ INV (t + 1) X Y2) ha (ax_r0 (by omega)) (ax_r0 (by omega)) (fun _ => ⟨rfl, inv_id h⟩) (fun z => absurd c3 z)
    · apply hL_run i1 (XF.rf X)
      intro V hV _ h70
      refine up_loop (Q := fun i => jX_missed (fun r X2 => kM_missed [.inr (.inr 0), .inl a] Y (fun r2 Y2 => r2 = r ∧ INV (t + 1) X2 Y2)) 44 [(0, .inr (.inr 0)), (2, .inl (mib X a i : Int)), (3, .inl (i : Int))] [] V) (X 2 7).toNat ?_ ?_ 0 (Nat.zero_le _)
      · apply gX_missed_44
        rw [hV 2 (by omega)]
        refine ⟨fun _ => ?_, fun q => by omega⟩
        apply st
        refine inM (P := fun r2 Y2 => r2 = (mib X a (X 2 7).toNat : Int) ∧ INV (t + 1) V Y2) ha (ax_r0 (by omega)) (ax_r0 (by omega)) (fun z => absurd z c3) (fun _ => ?_)
        apply hM_goOut i1 (by omega) i2
        intro W hF h16
        have hrw := FS_RP hF i2
        refine up_loop (Q := fun i => jM_missed (fun r2 Y2 => r2 = (mib X a (X 2 7).toNat : Int) ∧ INV (t + 1) V Y2) 36 [(0, .inr (.inr 0)), (3, .inl (mib X a i : Int)), (4, .inl (i : Int))] [] W) (X 2 7).toNat ?_ ?_ 0 (Nat.zero_le _)
        · apply gM_missed_36
          rw [hrw.1.2.2.2]
          exact ⟨fun _ => ⟨rfl, inv_fr h hV hF (by omega)⟩, fun q => by omega⟩
        · intro i hi hQ
          apply gM_missed_36
          simp only [Int.toNat_natCast]
          rw [hrw.1.2.2.2, h16 i (by omega), show (7 * (i : Int) + 6).toNat = 7 * i + 6 by omega, (hrw.2 i (by omega)).2.2.2.2.2.2, to1, p2_i, Int.toNat_natCast, show (0 : Int).toNat = 0 from rfl, Nat.or_zero]
          rw [mib_s] at hQ
          refine ⟨fun q => by omega, fun _ => ⟨by omega, fun d => ⟨⟨nnn _, by omega⟩, ?_⟩, fun d => ⟨by omega, ⟨nnn _, nnn _⟩, ?_⟩⟩⟩
          · rw [if_pos d] at hQ; exact hQ
          · rw [if_neg d] at hQ; exact hQ
      · intro i hi hQ
        apply gX_missed_44
        simp only [Int.toNat_natCast]
        rw [hV 2 (by omega), h70 i (by omega), hV 9 (by omega), to1, p2_i, Int.toNat_natCast]
        rw [mib_s] at hQ
        refine ⟨fun q => by omega, fun _ => ⟨by omega, fun d => ?_, fun d => ⟨by omega, ⟨nnn _, nnn _⟩, ?_⟩⟩⟩
        · rw [if_pos d] at hQ; exact hQ
        · rw [if_neg d] at hQ; exact hQ
