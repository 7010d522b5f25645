/-! leaving: the class -/
def LX (X : ax_Mem) (mn : Int) (V S : ax_Mem) : Prop := XF X V ∧ (V 66 5 = X 1 0 ∧ V 66 6 = mn ∧ V 66 7 = S 4 0 ∧ V 66 8 = S 4 1) ∧ (∀ k : Nat, (k : Int) < X 1 0 → V 67 k = S 0 k) ∧ (∀ p : Nat, (p : Int) < X 2 7 → V 69 p = S 2 p ∧ V 70 p = S 3 p ∧ (S 2 p = 1 → V 68 p = S 1 p))
theorem hL_turnOf {X V S : ax_Mem} {P : Int → ax_Mem → Prop} {mn : Int} {p : Nat} (h : LX X mn V S) (hp : p < 12) (k : P (tn X mn p) V) : kL_turnOf [.inr (.inr 66), .inl (p : Int)] V P := by
  apply eL_turnOf
  simp only [Int.toNat_natCast]
  rw [h.2.1.2.1, h.1 5 (by omega), h.1 7 (by omega)]
  unfold tn at k
  refine ⟨fun c => ⟨fun d => ?_, fun d => ⟨by omega, ?_⟩⟩, fun c => ⟨by omega, ?_⟩⟩
  · rw [if_neg c, if_neg d] at k; exact k
  · rw [if_neg c, if_pos d] at k; exact k
  · rw [if_pos c] at k; exact k
theorem hL_leastTurn {X V S : ax_Mem} {P : Int → ax_Mem → Prop} {mn : Int} (hw : WP X) (h : LX X mn V S) (k : P (lt X mn S (X 2 7).toNat) V) : kL_leastTurn [.inr (.inr 66)] V P := by
  have hw1 := hw.1
  apply eL_leastTurn
  refine up_loop (Q := fun i => jL_leastTurn P 5 [(0, .inr (.inr 66)), (1, .inl (lt X mn S i)), (2, .inl (i : Int))] [] V) (X 2 7).toNat ?_ ?_ 0 (Nat.zero_le _)
  · apply gL_leastTurn_5
    rw [h.1 2 (by omega)]
    exact ⟨fun _ => k, fun c => by omega⟩
  · intro i hi hQ
    apply gL_leastTurn_5
    simp only [Int.toNat_natCast]
    rw [h.1 2 (by omega), (h.2.2.2 i (by omega)).1]
    unfold lt at hQ
    rw [to1]
    refine ⟨fun c => by omega, fun _ => ⟨by omega, fun c => ?_, fun c => ?_⟩⟩
    · rw [if_neg c] at hQ; exact hQ
    · rw [if_pos c] at hQ
      exact hL_turnOf h (by omega) hQ
theorem hL_isNearer {X V S : ax_Mem} {P : Int → ax_Mem → Prop} {mn : Int} {i f : Nat} (h : LX X mn V S) (hi : i < 12) (hf : f < 12) (k0 : ¬ nr X i (f : Int) → P 0 V) (k1 : nr X i (f : Int) → P 1 V) : kL_isNearer [.inr (.inr 66), .inl (i : Int), .inl (f : Int)] V P := by
  apply eL_isNearer
  unfold nr at k0 k1
  simp only [Int.toNat_natCast] at k0 k1 ⊢
  rw [h.1 6 (by omega), h.1 7 (by omega)]
  refine ⟨by omega, by omega, fun c => ⟨fun d => k0 (by omega), fun d => k1 (by omega)⟩, fun c => ⟨fun d => k0 (by omega), fun d => k1 (by omega)⟩⟩
theorem hL_nextOf {X V S : ax_Mem} {P : Int → ax_Mem → Prop} {mn row turn : Int} (hw : WP X) (h : LX X mn V S) (k : P (nx X mn S row turn (X 2 7).toNat) V) : kL_nextOf [.inr (.inr 66), .inl row, .inl turn] V P := by
  have hw1 := hw.1
  apply eL_nextOf
  refine up_loop (Q := fun i => jL_nextOf P 5 [(0, .inr (.inr 66)), (1, .inl row), (2, .inl turn), (3, .inl (nx X mn S row turn i)), (4, .inl (i : Int))] [] V) (X 2 7).toNat ?_ ?_ 0 (Nat.zero_le _)
  · apply gL_nextOf_5
    rw [h.1 2 (by omega)]
    exact ⟨fun _ => k, fun c => by omega⟩
  · intro i hi hQ
    apply gL_nextOf_5
    simp only [Int.toNat_natCast]
    rw [h.1 2 (by omega), (h.2.2.2 i (by omega)).1, h.1 5 (by omega), to1]
    refine ⟨fun c => by omega, fun _ => ⟨by omega, fun c => ?_, fun c => ⟨fun d => ?_, fun d => ?_⟩⟩⟩
    · rw [nx_n (fun z => c z.1)] at hQ; exact hQ
    · rw [nx_n (fun z => d z.2.1)] at hQ; exact hQ
    · apply hL_turnOf h (by omega)
      refine ⟨fun e => ?_, fun e => ⟨fun g => ?_, fun g => ?_⟩⟩
      · rw [nx_n (fun z => e z.2.2.1)] at hQ; exact hQ
      · rw [nx_p ⟨c, d, e, Or.inl g⟩] at hQ; exact hQ
      · have hb := (nx_b X mn S row turn i).resolve_left g
        have ef : nx X mn S row turn i = (((nx X mn S row turn i).toNat : Nat) : Int) := by omega
        rw [ef]
        refine hL_isNearer h (by omega) (by omega) (fun q => ⟨fun _ => ?_, fun z => absurd rfl z⟩) (fun q => ⟨fun z => absurd z (by decide), fun _ => ?_⟩)
        · rw [← ef] at q ⊢
          rw [nx_n (fun z => z.2.2.2.elim g q)] at hQ; exact hQ
        · rw [← ef] at q
          rw [nx_p ⟨c, d, e, Or.inr q⟩] at hQ; exact hQ
theorem lx_up {X V S : ax_Mem} {mn p : Int} {k : Nat} (h : LX X mn V S) : LX X mn (ax_u (ax_u (ax_u V 67 k p) 69 p.toNat 1) 68 p.toNat (2 * X 8 p.toNat)) (lo_up X k p S) := by
  obtain ⟨a, b, c, d⟩ := h
  refine ⟨fun q hq => by rw [ax_u_cell (by omega), ax_u_cell (by omega), ax_u_cell (by omega)]; exact a q hq, b, fun q hq => ?_, fun q hq => ?_⟩
  · show ax_u V 67 k p 67 q = ax_u S 0 k p 0 q
    rw [ax_uu, ax_uu, c q hq]
  · obtain ⟨d1, d2, d3⟩ := d q hq
    refine ⟨?_, d2, ?_⟩
    · show ax_u (ax_u V 67 k p) 69 p.toNat 1 69 q = ax_u (ax_u S 0 k p) 2 p.toNat 1 2 q
      rw [ax_uu, ax_uu, ax_u_cell (by omega), ax_u_cell (by omega), d1]
    · show ax_u (ax_u S 0 k p) 2 p.toNat 1 2 q = 1 → ax_u (ax_u (ax_u V 67 k p) 69 p.toNat 1) 68 p.toNat (2 * X 8 p.toNat) 68 q = ax_u (ax_u (ax_u S 0 k p) 2 p.toNat 1) 1 p.toNat (2 * X 8 p.toNat) 1 q
      rw [ax_uu, ax_uu, ax_uu, ax_u_cell (by omega), ax_u_cell (by omega), ax_u_cell (by omega), ax_u_cell (by omega), ax_u_cell (by omega)]
      intro z
      by_cases e : q = p.toNat
      · rw [if_pos e, if_pos e]
      · rw [if_neg e] at z ⊢
        rw [if_neg e]
        exact d3 z
theorem hL_getUp {X V S : ax_Mem} {P : Int → ax_Mem → Prop} {mn : Int} (hw : WP X) (hs : WS X S) (h : LX X mn V S) (k : ∀ V2, LX X mn V2 (lo_rows X mn (lt X mn S (X 2 7).toNat) (X 1 0).toNat S) → P 0 V2) : kL_getUp [.inr (.inr 66)] V P := by
  have hw1 := hw.1
  have hw2 := hw.2.1
  apply eL_getUp
  apply hL_leastTurn hw h
  generalize lt X mn S (X 2 7).toNat = turn at k
  refine up_loop (Q := fun r => ∀ V2, LX X mn V2 (lo_rows X mn turn r S) → jL_getUp P 7 [(0, .inr (.inr 66)), (1, .inl turn), (2, .inl (r : Int))] [] V2) (X 1 0).toNat ?_ ?_ 0 (Nat.zero_le _) V h
  · intro V2 h2
    apply gL_getUp_7
    rw [h2.2.1.1]
    exact ⟨fun _ => k V2 h2, fun c => by omega⟩
  · intro r hr hQ V2 h2
    have hQ2 : ∀ V3, LX X mn V3 (lo_row X mn turn r (lo_rows X mn turn r S)) → jL_getUp P 7 [(0, .inr (.inr 66)), (1, .inl turn), (2, .inl ((r + 1 : Nat) : Int))] [] V3 := hQ
    have hws := (lo_rows_ok (mn := mn) (turn := turn) hw hs r (by omega)).1
    generalize lo_rows X mn turn r S = S2 at h2 hQ2 hws
    unfold lo_row at hQ2
    apply gL_getUp_7
    simp only [Int.toNat_natCast]
    rw [h2.2.1.1, h2.2.2.1 r (by omega), to1]
    refine ⟨fun c => by omega, fun _ => ⟨by omega, fun c => ?_, fun c => ?_⟩⟩
    · rw [if_neg c] at hQ2; exact hQ2 V2 h2
    · rw [if_pos c] at hQ2
      apply hL_nextOf hw h2
      refine ⟨fun d => ?_, fun d => ?_⟩
      · rw [if_pos d] at hQ2; exact hQ2 V2 h2
      · rw [if_neg d] at hQ2
        have hb := (nx_b X mn S2 r turn (X 2 7).toNat).resolve_left d
        have hbg := (hw.2.2 (nx X mn S2 r turn (X 2 7).toNat).toNat (by omega)).2.2.2.2.2.1
        rw [h2.1 8 (by omega)]
        exact ⟨by omega, by omega, hQ2 _ (lx_up h2)⟩
theorem hL_goOn {X V S : ax_Mem} {P : Int → ax_Mem → Prop} {mn s : Int} (hw : WP X) (hs : WS X S) (h : LX X mn V S) (hg : S 4 0 ≤ 12) (k : ∀ V2, LX X mn V2 (lo_on s (X 1 0).toNat S) → P 0 V2) : kL_goOn [.inr (.inr 66), .inl s] V P := by
  have hw1 := hw.1
  have hw2 := hw.2.1
  apply eL_goOn
  refine up_loop (Q := fun r => ∀ V2, LX X mn V2 (lo_on s r S) → jL_goOn P 2 [(0, .inr (.inr 66)), (1, .inl s), (2, .inl (r : Int))] [] V2) (X 1 0).toNat ?_ ?_ 0 (Nat.zero_le _) V h
  · intro V2 h2
    apply gL_goOn_2
    rw [h2.2.1.1]
    exact ⟨fun _ => k V2 h2, fun c => by omega⟩
  · intro r hr hQ V2 h2
    have hQ2 : ∀ V3, LX X mn V3 (lo_cell s r (lo_on s r S)) → jL_goOn P 2 [(0, .inr (.inr 66)), (1, .inl s), (2, .inl ((r + 1 : Nat) : Int))] [] V3 := hQ
    have hws := (lo_on_ok (s := s) hw hs r (by omega)).1
    generalize lo_on s r S = S2 at h2 hQ2 hws
    have hoc := hws.2.2.1
    have hoc2 := occ_le (ups S2) (X 2 7).toNat
    have hoc3 := occ_0 (S2 0) 12
    have hg0 := hws.2.2.2
    unfold lo_cell at hQ2
    apply gL_goOn_2
    simp only [Int.toNat_natCast]
    rw [h2.2.1.1, h2.2.2.1 r (by omega), to1]
    refine ⟨fun c => by omega, fun _ => ⟨by omega, fun c => ?_, fun c => ?_⟩⟩
    · rw [if_neg c] at hQ2
      obtain ⟨hp, hup, -⟩ := (hws.1 r (by omega)).resolve_left c
      have hpn : (((S2 0 r).toNat : Nat) : Int) < X 2 7 := by omega
      have hb := (hws.2.1 _ hpn).2
      rw [(h2.2.2.2 _ hpn).2.2 hup]
      obtain ⟨a1, ⟨b1, b2, b3, b4⟩, c1, d1⟩ := id h2
      refine ⟨by omega, fun e => ?_, fun e => ⟨by omega, ?_⟩⟩
      · rw [if_neg (by omega)] at hQ2
        refine ⟨fun g => ?_, fun g => ?_⟩
        · rw [if_neg (by omega)] at hQ2
          rw [show ((r : Int) - 1).toNat = r - 1 by omega, c1 (r - 1) (by omega)]
          refine ⟨by omega, fun i => ?_, fun i => ?_⟩
          · rw [if_neg i] at hQ2; exact hQ2 V2 h2
          · rw [if_pos i] at hQ2
            refine hQ2 _ ⟨fun q hq => by rw [ax_u_cell (by omega), ax_u_cell (by omega)]; exact a1 q hq, ⟨b1, b2, b3, b4⟩, fun q hq => ?_, d1⟩
            unfold lo_mov
            rw [ax_uu, ax_uu, ax_uu, ax_uu, c1 q hq]
        · rw [if_pos (by omega)] at hQ2
          have r0 : r = 0 := by omega
          subst r0
          refine ⟨by omega, hQ2 _ ⟨fun q hq => by rw [ax_u_cell (by omega), ax_u_cell (by omega), ax_u_cell (by omega), ax_u_cell (by omega)]; exact a1 q hq, ⟨b1, b2, ?_, ?_⟩, fun q hq => ?_, fun q hq => ?_⟩⟩
          · unfold lo_out
            rw [ax_us (by omega), ax_uu, if_pos rfl, ax_us (by omega), ax_uu, if_pos rfl, b3]
          · unfold lo_out
            rw [ax_uu, if_pos rfl, ax_uu, if_pos rfl]
          · show ax_u V2 67 0 (-1) 67 q = ax_u S2 0 0 (-1) 0 q
            rw [ax_uu, ax_uu, c1 q hq]
          · obtain ⟨d2, d3, d4⟩ := d1 q hq
            refine ⟨d2, ?_, d4⟩
            show ax_u (ax_u V2 67 0 (-1)) 70 (S2 0 0).toNat s 70 q = ax_u (ax_u S2 0 0 (-1)) 3 (S2 0 0).toNat s 3 q
            rw [ax_uu, ax_uu, ax_u_cell (by omega), ax_u_cell (by omega), d3]
      · rw [if_pos (by omega)] at hQ2
        refine hQ2 _ ⟨fun q hq => by rw [ax_u_cell (by omega)]; exact a1 q hq, ⟨b1, b2, b3, b4⟩, c1, fun q hq => ?_⟩
        obtain ⟨d2, d3, d4⟩ := d1 q hq
        refine ⟨d2, d3, fun z => ?_⟩
        unfold lo_dec
        rw [ax_uu, ax_uu, d4 z]
    · rw [if_pos c] at hQ2; exact hQ2 V2 h2
theorem hL_run {X X2 : ax_Mem} {P : Int → ax_Mem → Prop} {mn : Int} (hw : WP X) (hx : XF X X2) (k : ∀ V, XF X V → V 66 8 = ouT X mn → (∀ p : Nat, (p : Int) < X 2 7 → V 70 p = ouS X mn 3 p) → P 0 V) : kL_run [.inr (.inr 66), .inl (X 1 0), .inl mn] X2 P := by
  have hw1 := hw.1
  have hw2 := hw.2.1
  have he := ou_end (mn := mn) hw
  have fin : ∀ V, LX X mn V (ouS X mn) → P 0 V := fun V hV => k V hV.1 (by rw [hV.2.1.2.2.2]; exact he.2) (fun p hp => (hV.2.2.2 p hp).2.1)
  apply eL_run
  rw [Int.min_eq_left hw2.2]
  refine up_loop (Q := fun r => ∀ V : ax_Mem, XF X V → (V 66 5 = X 1 0 ∧ V 66 6 = mn ∧ V 66 7 = 0 ∧ V 66 8 = 0) → (∀ j, j < r → V 67 j = -1) → jL_run P 27 [(0, .inr (.inr 66)), (3, .inl (r : Int))] [] V) (X 1 0).toNat ?_ ?_ 0 (Nat.zero_le _) _ (fun q hq => by rw [ax_u_cell (by omega), ax_u_cell (by omega), ax_u_cell (by omega), ax_u_cell (by omega)]; exact hx q hq) ⟨rfl, rfl, rfl, rfl⟩ (fun j hj => by omega)
  · intro V hV hV6 hV7
    apply gL_run_27
    rw [hV6.1]
    refine ⟨fun _ => ?_, fun c => by omega⟩
    refine up_loop (Q := fun r => ∀ W : ax_Mem, XF X W → (W 66 5 = X 1 0 ∧ W 66 6 = mn ∧ W 66 7 = 0 ∧ W 66 8 = 0) → (∀ j, j < (X 1 0).toNat → W 67 j = -1) → (∀ j, j < r → W 69 j = 0 ∧ W 70 j = 0) → jL_run P 50 [(0, .inr (.inr 66)), (3, .inl (r : Int))] [] W) (X 2 7).toNat ?_ ?_ 0 (Nat.zero_le _) V hV hV6 hV7 (fun j hj => by omega)
    · intro W hW hW6 hW7 hW9
      apply gL_run_50
      rw [hW 2 (by omega)]
      refine ⟨fun _ => ?_, fun c => by omega⟩
      have hLX : LX X mn W lo_0 := ⟨hW, hW6, fun q hq => hW7 q (by omega), fun p hp => ⟨(hW9 p (by omega)).1, (hW9 p (by omega)).2, fun z => absurd z (by show ¬ (0 : Int) = 1; omega)⟩⟩
      have key : ∀ (f : Nat) (s : Int) (S U : ax_Mem), s + f = 10000 → 1 ≤ s → WS X S → LX X mn U S → lo_run X mn f s S = ouS X mn → jL_run P 83 [(0, .inr (.inr 66)), (3, .inl s)] [] U := by
        intro f
        induction f with
        | zero =>
          intro s S U hs hs1 hws hU e
          apply gL_run_83
          refine ⟨fun _ => fin U ?_, fun c => by omega⟩
          rw [← e]; exact hU
        | succ f ih =>
          intro s S U hs hs1 hws hU e
          have hoc := hws.2.2.1
          have hoc2 := occ_le (ups S) (X 2 7).toNat
          have hoc3 := occ_0 (S 0) 12
          apply gL_run_83
          unfold lo_run at e
          rw [hU.1 2 (by omega), hU.2.1.2.2.1]
          refine ⟨fun c => by omega, fun _ => ⟨fun c => ?_, fun c => ?_⟩⟩
          · rw [if_pos c] at e
            refine fin U ?_
            rw [← e]; exact hU
          · rw [if_neg c] at e
            apply hL_goOn hw hws hU (by omega)
            intro U2 hU2
            apply hL_getUp hw (lo_on_ok (s := s) hw hws (X 1 0).toNat (by omega)).1 hU2
            intro U3 hU3
            exact ⟨by omega, ih (s + 1) (lo_sec X mn s S) U3 (by omega) (by omega) (lo_sec_ok hw hws (by omega)).1 hU3 e⟩
      exact key 9999 1 lo_0 W (by omega) (by omega) (lo_0_ok hw).1 hLX rfl
    · intro r hr hQ W hW hW6 hW7 hW9
      apply gL_run_50
      simp only [Int.toNat_natCast]
      rw [hW 2 (by omega), to1]
      refine ⟨fun c => by omega, fun _ => ⟨by omega, ?_⟩⟩
      refine hQ _ (fun q hq => by rw [ax_u_cell (by omega), ax_u_cell (by omega)]; exact hW q hq) hW6 hW7 (fun j hj => ?_)
      rw [ax_uu, ax_u_cell (by omega), ax_uu, ax_u_cell (by omega)]
      by_cases d : j = r
      · rw [if_pos d, if_pos d]; exact ⟨rfl, rfl⟩
      · rw [if_neg d, if_neg d]; exact hW9 j (by omega)
  · intro r hr hQ V hV hV6 hV7
    apply gL_run_27
    simp only [Int.toNat_natCast]
    rw [hV6.1, to1]
    refine ⟨fun c => by omega, fun _ => ⟨by omega, ?_⟩⟩
    refine hQ _ (fun q hq => by rw [ax_u_cell (by omega)]; exact hV q hq) hV6 (fun j hj => ?_)
    rw [ax_uu]
    by_cases d : j = r
    · rw [if_pos d]
    · rw [if_neg d]; exact hV7 j (by omega)
