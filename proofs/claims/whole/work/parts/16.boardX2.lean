/-! the class: Boarding.timeToSit, sitIfReady, goOn over the machine -/
theorem hB_timeToSit {X : ax_Mem} {P : Int → ax_Mem → Prop} {p : Nat} (hp : p < 12) (hr0 : 0 ≤ X 45 p) (hr1 : X 45 p < X 44 10) (hr2 : X 44 10 ≤ 12) (hb0 : 0 ≤ X 46 p) (hb1 : X 46 p ≤ 3) (hm0 : 0 ≤ X 44 12) (hm : X 44 12 ≤ 12) (hc : ∀ i : Nat, (i : Int) < X 44 12 → 0 ≤ X 47 i ∧ X 47 i < 12) (h14 : 0 ≤ X 44 14 ∧ X 44 14 ≤ 1000000000) (h : P (bo_tts p X) (bo_bags p (X 46 p).toNat X)) : kB_timeToSit [.inr (.inr 44), .inl (p : Int)] X P := by
  apply eB_timeToSit
  apply hB_inTheWayOf hp hm0 hm hc
  have hi := bo_iw_b p X hm0 hm
  refine ⟨by unfold bo_iw at hi; omega, ?_⟩
  have h48 : (48 : Nat) ≠ 54 + p := by omega
  have h45 : (45 : Nat) ≠ 54 + p := by omega
  have h44 : (44 : Nat) ≠ 54 + p := by omega
  have key := up_loop (Q := fun i => jB_timeToSit P 10 [(0, .inr (.inr 44)), (1, .inl (p : Int)), (2, .inl (3 * bo_iw p X + bo_time p i X)), (3, .inl (i : Int))] [] (bo_bags p i X)) (X 46 p).toNat ?_ ?_ 0 (Nat.zero_le _)
  · simp only [bo_time, Int.add_zero, bo_bags] at key
    exact key
  · apply gB_timeToSit_10
    have e46 : bo_bags p (X 46 p).toNat X 46 p = X 46 p := by rw [bo_bags_k (by omega) (by omega) (by omega)]
    simp only [Int.toNat_natCast]
    exact ⟨by omega, fun _ => h, fun c => by omega⟩
  · intro i hi2 hQ
    apply ax_Jn
    intro hn
    apply gB_timeToSit_10
    simp only [Int.toNat_natCast]
    simp only [bo_time, bo_bags, ← to1] at hQ
    have e46 : bo_bags p i X 46 p = X 46 p := by rw [bo_bags_k (by omega) (by omega) (by omega)]
    have e45 : bo_bags p i X 45 p = X 45 p := by rw [bo_bags_k (by omega) (by omega) (by omega)]
    have e10 : bo_bags p i X 44 10 = X 44 10 := bo_bags_44 (by omega) i
    have e14 := bo_bags_14 (p := p) (X := X) i
    have ht := bo_time_b hr0 hr1 hr2 i
    generalize bo_bags p i X = Z at *
    have hbb := bo_bin_b (p := p) (X := Z) (by omega) (by omega) (by omega)
    have hcb := bo_cost_b (p := p) (X := Z) (by omega) (by omega) (by omega)
    refine ⟨by omega, fun c => by omega, fun _ => ?_⟩
    apply hB_nearestBin (by omega) (by omega) (by omega)
    rw [show nb (Z 48) (Z 44 10) (Z 45 p) (Z 44 10).toNat 0 = bo_bin p Z from rfl]
    simp only [ax_u_cell h48, ax_u_cell h45, ax_u_cell h44]
    unfold bo_cost at hQ hcb
    unfold bo_bag at hQ
    refine ⟨by omega, fun c => ?_, fun c => ?_⟩
    · rw [if_neg c] at hQ hcb
      rw [if_neg c] at hQ
      rcases hbb with hbb | hbb
      · exact absurd hbb c
      · have hr := ax_na (bo_bin p Z).toNat hn sX_48
        obtain ⟨hr1', hr2'⟩ := hr
        rw [← Int.add_assoc] at hQ
        exact ⟨by omega, by omega, by omega, by omega, by omega, by omega, by omega, hQ⟩
    · rw [if_pos c] at hQ hcb
      rw [if_pos c] at hQ
      rw [← Int.add_assoc] at hQ
      exact ⟨by omega, by omega, hQ⟩
theorem hB_sitIfReady {X : ax_Mem} {P : Int → ax_Mem → Prop} {p k : Nat} {s : Int} (hp : p < 12) (hk : k < 12) (h13 : 0 ≤ X 44 13 ∧ X 44 13 ≤ 1000) (h : P 0 (bo_sit s p k X)) : kB_sitIfReady [.inr (.inr 44), .inl (p : Int), .inl (k : Int), .inl s] X P := by
  apply eB_sitIfReady
  simp only [Int.toNat_natCast]
  unfold bo_sit at h
  refine ⟨by omega, fun c => ?_, fun c => ⟨by omega, by omega, ?_⟩⟩
  · rw [if_neg c] at h; exact h
  · rw [if_pos c] at h; exact h
theorem wb_13 {N : Int} {cm : Nat} {X : ax_Mem} (h : WB N cm X) : 0 ≤ X 44 13 ∧ X 44 13 ≤ 12 := by
  obtain ⟨h1, h2, h3, h4, h5, h6, h7, h8, h9, h10⟩ := h
  have := occ_0 (X 53) 12
  omega
theorem hB_goOn {X : ax_Mem} {P : Int → ax_Mem → Prop} {s N : Int} {cm : Nat} (h : WB N cm X) (hN : N ≤ 100000000) (hp : P 0 (bo_on s (X 44 10).toNat X)) : kB_goOn [.inr (.inr 44), .inl s] X P := by
  apply eB_goOn
  have key : ∀ (n : Nat) (N : Int) (Z : ax_Mem), WB N cm Z → N + 3 * n ≤ 200000000 → (n : Int) ≤ Z 44 10 → P 0 (bo_on s n Z) → jB_goOn P 7 [(0, .inr (.inr 44)), (1, .inl s), (2, .inl ((n : Int) - 1))] [] Z := by
    intro n
    induction n with
    | zero =>
      intro N Z hW hN hn hp
      apply gB_goOn_7
      exact ⟨fun _ => hp, fun c => by omega⟩
    | succ n ih =>
      intro N Z hW hN hn hp
      have h13 := wb_13 hW
      have hW1 := hW.1
      have hC := wb_cell s hW (k := n) (by omega)
      have hC10 := bo_cell_10 s n Z
      have next := ih (N + 3) (bo_cell s n Z) hC (by omega) (by omega) hp
      clear ih hp hC
      rw [show ((n + 1 : Nat) : Int) - 1 = (n : Int) by omega]
      apply gB_goOn_7
      simp only [Int.toNat_natCast]
      rw [show (n : Int) + (-1) = (n : Int) - 1 by omega, show ((n : Int) + 1).toNat = n + 1 by omega]
      unfold bo_cell at next
      refine ⟨fun c => by omega, fun _ => ⟨by omega, fun c1 => ?_, fun c1 => ?_⟩⟩
      · obtain ⟨i0, hi0, hi1, e0, hpp, hrw, hbg, hbs, hwt⟩ := wb_at hW (show n < 12 by omega) c1
        rw [if_neg c1] at next
        refine ⟨hpp, fun c2 => ⟨fun c3 => ⟨fun c4 => ⟨by omega, ?_⟩, fun c4 => ⟨by omega, fun c5 => ⟨by omega, ?_⟩, fun c5 => ?_⟩⟩, fun c3 => ?_⟩, fun c2 => ⟨by omega, ?_⟩⟩
        · rw [if_neg (by omega), if_neg c3, if_neg (by omega)] at next
          exact next
        · rw [if_neg (by omega), if_neg c3, if_neg (by omega)] at next
          exact next
        · rw [if_neg (by omega), if_neg c3, if_pos ⟨by omega, c5⟩] at next
          exact next
        · rw [if_neg (by omega), if_pos c3] at next
          have hpe : ((Z 53 n).toNat : Int) = Z 53 n := by omega
          have hB := wb_beg hW (show n < 12 by omega) c1
          have h13' := wb_13 hB
          have t1 : kB_timeToSit [.inr (.inr 44), .inl ((Z 53 n).toNat : Int)] Z (fun r8 M9 => kB_sitIfReady [.inr (.inr 44), .inl ((Z 53 n).toNat : Int), .inl (n : Int), .inl s] (ax_u M9 49 (Z 53 n).toNat r8) (fun _ M11 => jB_goOn P 7 [(0, .inr (.inr 44)), (1, .inl s), (2, .inl ((n : Int) - 1))] [] M11)) := by
            refine hB_timeToSit (by omega) (by omega) hrw.2 hW1.2 hbg.1 hbg.2 hW.2.1.1 hW.2.1.2 (fun i hi => (hW.2.2.2.1 i hi).1) ⟨hW.2.2.2.2.2.2.2.1.1, by have := hW.2.2.2.2.2.2.2.1.2; omega⟩ ?_
            exact hB_sitIfReady (by omega) (by omega) ⟨h13'.1, by have := h13'.2; unfold bo_beg at this; omega⟩ next
          rw [hpe] at t1
          exact t1
        · rw [if_pos (by omega)] at next
          have hpe : ((Z 53 n).toNat : Int) = Z 53 n := by omega
          have t1 : kB_sitIfReady [.inr (.inr 44), .inl ((Z 53 n).toNat : Int), .inl (n : Int), .inl s] (bo_dec n Z) (fun _ M15 => jB_goOn P 7 [(0, .inr (.inr 44)), (1, .inl s), (2, .inl ((n : Int) - 1))] [] M15) := hB_sitIfReady (by omega) (by omega) ⟨h13.1, by have := h13.2; show Z 44 13 ≤ 1000; omega⟩ next
          rw [hpe] at t1
          exact t1
      · rw [if_pos c1] at next
        exact next
  have h1 := h.1
  refine ⟨by omega, ?_⟩
  have := key (X 44 10).toNat N X h (by omega) (by omega) hp
  rw [show (((X 44 10).toNat : Int)) = X 44 10 by omega] at this
  exact this
