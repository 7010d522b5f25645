/-- begin(p): the bags, and who must get up -/
theorem hM_begin {N : Int} {cm k : Nat} {X Y : ax_Mem} {P : Int → ax_Mem → Prop} (hw : WB N cm X) (hN : N ≤ 1000000000) (hk : k < 12) (hne : ¬ X 53 k = -1) (hR : RB X Y) (h : ∀ Z, RB (bo_bags (X 53 k).toNat (X 46 (X 53 k).toNat).toNat X) Z → FB Y Z → P (bo_tts (X 53 k).toNat X) Z) : kM_begin [.inr (.inr 0), .inl (X 53 k)] Y P := by
  obtain ⟨i0, hi0, hi1, e0, hpp, hrw, hbg, hbs, hwt⟩ := wb_at hw hk hne
  have hw1 := hw.1
  have hw2 := hw.2.1
  have hw8 := hw.2.2.2.2.2.2.2.1
  have hiw := bo_iw_b (X 53 k).toNat X hw2.1 hw2.2
  have hpe : ((X 53 k).toNat : Int) = X 53 k := by omega
  have hp12 : (X 53 k).toNat < 12 := by omega
  have hRp : RBp X Y (X 53 k).toNat := by rw [e0]; exact (hR.2.1 i0 hi1).2
  rw [← hpe]
  generalize hpg : (X 53 k).toNat = p at *
  apply eM_begin
  -- the second loop
  have loop2 : ∀ Z, RB (bo_bags p (X 46 p).toNat X) Z → FB Y Z → jM_begin P 110 [(0, .inr (.inr 0)), (1, .inl (p : Int)), (2, .inl (bo_time p (X 46 p).toNat X)), (3, .inl 0)] [] Z := by
    intro Z hZ hF
    have hT := bo_time_b (p := p) (X := X) (by omega) hrw.2 hw1.2 (X 46 p).toNat
    have q1 : Z 1 = Y 1 := hF.1 1 (by omega) (by omega)
    have q5 : Z 5 = Y 5 := hF.1 5 (by omega) (by omega)
    have q7 : Z 7 = Y 7 := hF.1 7 (by omega) (by omega)
    have q17 : Z 0 17 = Y 0 17 := hF.2 17 (by omega) (by omega)
    have k50 : bo_bags p (X 46 p).toNat X 50 = X 50 := bo_bags_k (by omega) (by omega) (by omega) _
    have k47 : bo_bags p (X 46 p).toNat X 47 = X 47 := bo_bags_k (by omega) (by omega) (by omega) _
    have k12 : bo_bags p (X 46 p).toNat X 44 12 = X 44 12 := bo_bags_44 (by omega) _
    have q10 : ∀ i : Nat, (i : Int) < X 44 12 → Z 10 (X 47 i).toNat = X 50 (X 47 i).toNat := fun i hi => by
      have := (hZ.2.1 i (by rw [k12]; exact hi)).2.2.2.2.1
      rw [k47, k50] at this
      exact this.symm
    have hfin := h Z hZ hF
    have hm : Y 0 17 = X 44 12 := hR.1.2.2.1.symm
    have q := up_loop (Q := fun i => jM_begin P 110 [(0, .inr (.inr 0)), (1, .inl (p : Int)), (2, .inl (bo_time p (X 46 p).toNat X + 3 * iw (X 47) (X 50) (X 45) (X 6) (X 7) p i)), (3, .inl (i : Int))] [] Z) (X 44 12).toNat ?_ ?_ 0 (Nat.zero_le _)
    · simp only [iw, Int.mul_zero, Int.add_zero] at q
      exact q
    · apply gM_begin_110
      refine ⟨fun _ => ?_, fun c => by omega⟩
      unfold bo_tts bo_iw at hfin
      rw [Int.add_comm]
      exact hfin
    · intro i hi hQ
      obtain ⟨a, b1, b2, b3, b4, b5, b6, b7, b8⟩ := hR.2.1 i (by omega)
      obtain ⟨c1, c2, c3, c4, c5, c6, c7, c8⟩ := hRp
      have hci := (hw.2.2.2.1 i (by omega)).1
      have hs := q10 i (by omega)
      have hib := iw_b (X 47) (X 50) (X 45) (X 6) (X 7) p i
      simp only [iw, ← to1] at hQ
      have next : ∀ b : Int, b = (if 0 < X 50 (X 47 i).toNat ∧ X 45 (X 47 i).toNat = X 45 p ∧ X 6 (X 47 i).toNat = X 6 p ∧ X 7 (X 47 i).toNat < X 7 p then 1 else 0) → jM_begin P 185 [(0, .inr (.inr 0)), (1, .inl (p : Int)), (2, .inl (bo_time p (X 46 p).toNat X + 3 * iw (X 47) (X 50) (X 45) (X 6) (X 7) p i)), (3, .inl (i : Int))] [.inl b] Z := by
        intro b hb
        apply gM_begin_185
        rw [← hb] at hQ
        have hb2 : b = 0 ∨ b = 1 := by rw [hb]; split <;> simp
        refine ⟨fun z => ?_, fun z => ?_⟩
        · apply gM_begin_198
          rw [z] at hQ
          simp only [Int.add_zero] at hQ
          exact ⟨by omega, by omega, by simpa only [Int.add_zero] using hQ⟩
        · apply gM_begin_198
          rw [show b = 1 by omega] at hQ
          rw [show bo_time p (X 46 p).toNat X + 3 * (iw (X 47) (X 50) (X 45) (X 6) (X 7) p i + 1) = bo_time p (X 46 p).toNat X + 3 * iw (X 47) (X 50) (X 45) (X 6) (X 7) p i + 3 by omega] at hQ
          exact ⟨by omega, by omega, hQ⟩
      apply gM_begin_110
      simp only [Int.toNat_natCast]
      rw [q5, q7, q17, ← a, hs, ← b1, ← c1]
      refine ⟨fun c => by omega, fun _ => ⟨by omega, hci, fun d1 => ?_, fun d1 => ⟨by omega, fun d2 => ?_, fun d2 => ?_⟩⟩⟩
      · apply gM_begin_184
        exact next 0 (by rw [if_neg (by omega)])
      · apply gM_begin_184
        exact next 0 (by rw [if_neg (by omega)])
      · apply hM_sideOf hci
        apply hM_sideOf (by omega)
        rw [q1, ← b6, Int.toNat_natCast, ← c6]
        refine ⟨fun d3 => ?_, fun d3 => ?_⟩
        · apply gM_begin_184
          exact next 0 (by rw [if_neg (by omega)])
        · apply hM_depthOf hci
          apply hM_depthOf (by omega)
          rw [q1, ← b7, Int.toNat_natCast, ← c7]
          refine ⟨fun d4 => ?_, fun d4 => ?_⟩
          · apply gM_begin_184
            exact next 0 (by rw [if_neg (by omega)])
          · exact next 1 (by rw [if_pos (by omega)])
  -- the first loop
  refine up_loop (Q := fun i => ∀ Z, RB (bo_bags p i X) Z → FB Y Z → jM_begin P 4 [(0, .inr (.inr 0)), (1, .inl (p : Int)), (2, .inl (bo_time p i X)), (3, .inl (i : Int))] [] Z) (X 46 p).toNat ?_ ?_ 0 (Nat.zero_le _) Y hR (FB.rf Y)
  · intro Z hZ hF
    apply gM_begin_4
    have q6 : Z 6 = Y 6 := hF.1 6 (by omega) (by omega)
    simp only [Int.toNat_natCast]
    rw [q6, ← hRp.2.1]
    exact ⟨by omega, fun _ => loop2 Z hZ hF, fun c => by omega⟩
  · intro i hi hQ Z hZ hF
    apply ax_Jn
    intro hn
    apply gM_begin_4
    have q6 : Z 6 = Y 6 := hF.1 6 (by omega) (by omega)
    have q5 : Z 5 = Y 5 := hF.1 5 (by omega) (by omega)
    have q13 : Z 0 13 = Y 0 13 := hF.2 13 (by omega) (by omega)
    have e10 : bo_bags p i X 44 10 = X 44 10 := bo_bags_44 (by omega) i
    have e45 : bo_bags p i X 45 p = X 45 p := by rw [bo_bags_k (by omega) (by omega) (by omega)]
    have e14 := bo_bags_14 (p := p) (X := X) i
    have ht := bo_time_b (p := p) (X := X) (by omega) hrw.2 hw1.2 i
    have hr13 : Y 0 13 = X 44 10 := hR.1.1.symm
    have hr5 : Y 5 p = X 45 p := hRp.1.symm
    simp only [bo_bags, bo_time, ← to1] at hQ
    generalize bo_bags p i X = V at *
    have hbb := bo_bin_b (p := p) (X := V) (by omega) (by omega) (by omega)
    have hcb := bo_cost_b (p := p) (X := V) (by omega) (by omega) (by omega)
    have hZ14 : V 44 14 = Z 0 24 := hZ.1.2.2.2.2
    simp only [Int.toNat_natCast]
    rw [q6, ← hRp.2.1, q5, hr5]
    refine ⟨by omega, fun c => by omega, fun _ => ?_⟩
    apply hM_nearestBin (V 48) (fun l hl => by have := (hZ.2.2 l hl).2; rw [hZ.1.2.1] at this; exact this) (by omega) (by omega) (by omega)
    rw [q13, hr13, ← e10, ← e45]
    rw [show nb (V 48) (V 44 10) (V 45 p) (V 44 10).toNat 0 = bo_bin p V from rfl]
    rw [show (3 * (p : Int) + (i : Int)).toNat = 3 * p + i by omega]
    have hbin := rb_bin (p := p) (j0 := i) (v := bo_bin p V) hZ (by omega)
    unfold bo_cost at hQ hcb
    unfold bo_bag at hQ
    have h45Z : Z 5 p = V 45 p := by rw [q5, hr5, e45]
    refine ⟨by omega, by omega, fun c => ?_, fun c => ?_⟩
    · rw [if_neg c] at hQ hcb
      rw [if_neg c] at hQ
      rcases hbb with hbb | hbb
      · exact absurd hbb c
      · have hr := ax_na (bo_bin p V).toNat hn sM_12
        obtain ⟨hr1', hr2'⟩ := hr
        have hl := (hZ.2.2 (bo_bin p V).toNat (by omega)).2
        have hr2 := ax_nr hn sM_0 (j := 2) rfl
        have hrm : V 44 11 = Z 0 2 := hZ.1.2.1
        obtain ⟨hrr1, hrr2⟩ := hr2
        have hlf := rb_left (k := (bo_bin p V).toNat) hbin (by omega)
        rw [ax_u_cell (show 48 ≠ 54 + p by omega), ax_u_cell (show 12 ≠ 13 by omega)] at hlf
        have next := hQ _ hlf ((hF.u (by omega) (by omega)).u (by omega) (by omega))
        rw [h45Z]
        unfold ax_abs at next hcb
        refine ⟨by omega, by omega, by omega, fun d => ?_, fun d => ⟨by omega, ?_⟩⟩
        · rw [if_pos d] at next hcb
          apply gM_begin_98
          exact ⟨by omega, by omega, by omega, by apply gM_begin_102; exact ⟨by omega, next⟩⟩
        · rw [if_neg d] at next hcb
          apply gM_begin_98
          exact ⟨by omega, by omega, by omega, by apply gM_begin_102; exact ⟨by omega, next⟩⟩
    · rw [if_pos c] at hQ hcb
      rw [if_pos c] at hQ
      have hb2 := (rb_44 (v := V 44 14 + 1) hbin).2.1
      have next := hQ _ hb2 ((hF.u (by omega) (by omega)).f (Or.inl rfl))
      rw [← hZ14]
      refine ⟨by omega, by omega, ?_⟩
      apply gM_begin_102
      exact ⟨by omega, next⟩

theorem hM_sit {Y : ax_Mem} {P : Int → ax_Mem → Prop} {p k : Nat} {s : Int} (hp : p < 12) (hk : k < 12) (h26 : 0 ≤ Y 0 26 ∧ Y 0 26 ≤ 1000) (h : P 0 (ax_u (ax_u (ax_u Y 8 k (-1)) 10 p s) 0 26 (Y 0 26 + 1))) : kM_sit [.inr (.inr 0), .inl (p : Int), .inl (k : Int), .inl s] Y P := by
  apply eM_sit
  simp only [Int.toNat_natCast]
  exact ⟨by omega, by omega, by omega, h⟩
/-- sitting down, both ways -/
theorem rb_sit {X Y : ax_Mem} {p k : Nat} {s : Int} (h : RB X Y) (h0 : X 49 p = 0) : RB (bo_sit s p k X) (ax_u (ax_u (ax_u Y 8 k (-1)) 10 p s) 0 26 (Y 0 26 + 1)) := by
  unfold bo_sit
  rw [if_pos h0, ← h.1.2.2.2.1]
  exact (rb_44 (rb_44 (rb_50 (rb_53 h))).1).2.2.1
theorem hM_goCell {N : Int} {cm k : Nat} {X Y : ax_Mem} {P : Int → ax_Mem → Prop} {s : Int} (hw : WB N cm X) (hN : N ≤ 100000000) (hk : (k : Int) < X 44 10) (hne : ¬ X 53 k = -1) (hR : RB X Y) (h : ∀ Z, RB (bo_cell s k X) Z → FB Y Z → P 0 Z) : kM_goCell [.inr (.inr 0), .inl (k : Int), .inl s] Y P := by
  have hw1 := hw.1
  have hk12 : k < 12 := by omega
  obtain ⟨i0, hi0, hi1, e0, hpp, hrw, hbg, hbs, hwt⟩ := wb_at hw hk12 hne
  have h13 := wb_13 hw
  have hR26 := hR.1.2.2.2.1
  have hY8 : Y 8 k = X 53 k := (hR.2.2 k hk12).1.symm
  have hRp : RBp X Y (X 53 k).toNat := by rw [e0]; exact (hR.2.1 i0 hi1).2
  have hpe : ((X 53 k).toNat : Int) = X 53 k := by omega
  apply eM_goCell
  simp only [Int.toNat_natCast]
  rw [hY8, ← hRp.1, ← hRp.2.2.1, ← hRp.2.2.2.2.1]
  unfold bo_cell at h
  rw [if_neg hne] at h
  refine ⟨by omega, hpp, fun c1 => ⟨fun c2 => ⟨by omega, fun c3 => ⟨by omega, ?_⟩, fun c3 => ?_⟩, fun c2 => ?_⟩, fun c1 => ⟨by omega, fun c2 => ?_, fun c2 => ?_⟩⟩
  · rw [show ((k : Int) + 1).toNat = k + 1 by omega] at c3
    rw [if_neg (by omega), if_neg (by omega), if_neg (by rw [(hR.2.2 (k + 1) (by omega)).1]; exact fun z => c3 z.2)] at h
    exact h _ (rb_51 hR) ((FB.rf Y).u (by omega) (by omega))
  · rw [show ((k : Int) + 1).toNat = k + 1 by omega] at c3 ⊢
    rw [if_neg (by omega), if_neg (by omega), if_pos ⟨by omega, by rw [(hR.2.2 (k + 1) (by omega)).1]; exact c3⟩] at h
    exact h _ (rb_53 (rb_53 hR)) (((FB.rf Y).u (by omega) (by omega)).u (by omega) (by omega))
  · rw [if_neg (by omega), if_pos (by omega)] at h
    apply hM_begin hw (by omega) hk12 hne hR
    intro Z hZ hF
    have hb := rb_49 (p := (X 53 k).toNat) (v := bo_tts (X 53 k).toNat X) hZ
    have hbt : bo_beg k X 49 (X 53 k).toNat = bo_tts (X 53 k).toNat X := by unfold bo_beg; rw [ax_uu, if_pos rfl]
    have h13b := wb_13 (wb_beg hw hk12 hne)
    have hb26 : bo_beg k X 44 13 = Z 0 26 := hb.1.2.2.2.1
    refine ⟨fun c3 => ?_, fun c3 => ?_⟩
    · have e : bo_sit s (X 53 k).toNat k (bo_beg k X) = bo_beg k X := by unfold bo_sit; rw [if_neg (by rw [hbt]; exact c3)]
      rw [e] at h
      exact h _ hb (hF.u (by omega) (by omega))
    · have hs := rb_sit (p := (X 53 k).toNat) (k := k) (s := s) hb (by show bo_beg k X 49 (X 53 k).toNat = 0; rw [hbt]; exact c3)
      have t := hM_sit (Y := ax_u Z 9 (X 53 k).toNat (bo_tts (X 53 k).toNat X)) (P := fun _ M9 => P 0 M9) (p := (X 53 k).toNat) (k := k) (s := s) (by omega) hk12 (by show 0 ≤ Z 0 26 ∧ Z 0 26 ≤ 1000; omega) (h _ hs ((((hF.u (by omega) (by omega)).u (by omega) (by omega)).u (by omega) (by omega)).f (Or.inr rfl)))
      rw [hpe] at t
      exact t
  · rw [if_pos (by omega)] at h
    have hb := rb_49 (p := (X 53 k).toNat) (v := X 49 (X 53 k).toNat - 1) hR
    have e : bo_sit s (X 53 k).toNat k (bo_dec k X) = bo_dec k X := by
      unfold bo_sit
      rw [if_neg (by unfold bo_dec; rw [ax_uu, if_pos rfl]; exact c2)]
    rw [e] at h
    exact h _ hb ((FB.rf Y).u (by omega) (by omega))
  · rw [if_pos (by omega)] at h
    have hb := rb_49 (p := (X 53 k).toNat) (v := X 49 (X 53 k).toNat - 1) hR
    have hs := rb_sit (p := (X 53 k).toNat) (k := k) (s := s) hb (by rw [ax_uu, if_pos rfl]; exact c2)
    have t := hM_sit (Y := ax_u Y 9 (X 53 k).toNat (X 49 (X 53 k).toNat - 1)) (P := fun _ M9 => P 0 M9) (p := (X 53 k).toNat) (k := k) (s := s) (by omega) hk12 (by show 0 ≤ Y 0 26 ∧ Y 0 26 ≤ 1000; omega) (h _ hs (((((FB.rf Y).u (by omega) (by omega)).u (by omega) (by omega)).u (by omega) (by omega)).f (Or.inr rfl)))
    rw [hpe] at t
    exact t
/-- what a whole boarding of the reference leaves as it was -/
def FC (Y Z : ax_Mem) : Prop := (∀ k, k ≠ 0 → k < 8 ∨ 13 < k → Z k = Y k) ∧ (∀ f, f ≠ 24 → f ≠ 25 → f ≠ 26 → Z 0 f = Y 0 f)
theorem FC.rf (Y : ax_Mem) : FC Y Y := ⟨fun _ _ _ => rfl, fun _ _ _ _ => rfl⟩
theorem FC.tr {A B C : ax_Mem} (h : FC A B) (k : FC B C) : FC A C := ⟨fun a h0 h1 => (k.1 a h0 h1).trans (h.1 a h0 h1), fun f a b c => (k.2 f a b c).trans (h.2 f a b c)⟩
theorem FB.c {Y Z : ax_Mem} (h : FB Y Z) : FC Y Z := ⟨h.1, fun f a _ c => h.2 f a c⟩
theorem FC.u {Y Z : ax_Mem} {k j : Nat} {v : Int} (h : FC Y Z) (hk : 8 ≤ k) (hk2 : k ≤ 13) : FC Y (ax_u Z k j v) := ⟨fun a h0 h1 => by rw [ax_u_cell (by omega)]; exact h.1 a h0 h1, fun f a b c => by rw [ax_u_cell (by omega)]; exact h.2 f a b c⟩
theorem FC.f {Y Z : ax_Mem} {j : Nat} {v : Int} (h : FC Y Z) (hj : j = 24 ∨ j = 25 ∨ j = 26) : FC Y (ax_u Z 0 j v) := ⟨fun a h0 h1 => by rw [ax_u_cell h0]; exact h.1 a h0 h1, fun f a b c => by rw [ax_us (by omega)]; exact h.2 f a b c⟩
theorem hM_goSecond {N : Int} {cm : Nat} {X Y : ax_Mem} {P : Int → ax_Mem → Prop} {s : Int} (hw : WB N cm X) (hN : N ≤ 10000000) (hR : RB X Y) (hcm : Y 0 25 = cm) (h : ∀ Z, RB (bo_ent cm (bo_two s X)) Z → Z 0 25 = bo_enc cm (bo_two s X) → FC Y Z → P 0 Z) : kM_goSecond [.inr (.inr 0), .inl s] Y P := by
  have hw1 := hw.1
  apply eM_goSecond
  have key : ∀ (n : Nat) (N : Int) (V Z : ax_Mem), WB N cm V → N + 3 * n ≤ 20000000 → (n : Int) ≤ V 44 10 → RB V Z → FB Y Z → bo_on s n V = bo_two s X → jM_goSecond P 7 [(0, .inr (.inr 0)), (1, .inl s), (2, .inl ((n : Int) - 1))] [] Z := by
    intro n
    induction n with
    | zero =>
      intro N V Z hW hN hn hRV hF he
      have he : V = bo_two s X := he
      have hz25 : Z 0 25 = cm := by rw [hF.2 25 (by omega) (by omega)]; exact hcm
      have hm := hRV.1.2.2.1
      have h8 := (hRV.2.2 0 (by omega)).1
      have hV2 := hW.2.1
      have hV3 := hW.2.2.1
      apply gM_goSecond_7
      unfold bo_ent bo_enc at h
      rw [← he] at h
      refine ⟨fun _ => ⟨fun c => ?_, fun c => ⟨fun c2 => ?_, fun c2 => ⟨by omega, ?_⟩⟩⟩, fun c => by omega⟩
      · rw [if_neg (by omega), if_neg (by omega)] at h
        exact h Z hRV hz25 hF.c
      · rw [if_neg (by omega), if_neg (by omega)] at h
        exact h Z hRV hz25 hF.c
      · rw [if_pos ⟨by omega, by omega⟩, if_pos ⟨by omega, by omega⟩] at h
        rw [hz25, Int.toNat_natCast, ← (hRV.2.1 cm (by omega)).1]
        refine h _ ((rb_44 (rb_53 hRV)).2.2.2) ?_ ((hF.c.u (by omega) (by omega)).f (by omega))
        show (cm : Int) + 1 = ((cm + 1 : Nat) : Int)
        omega
    | succ n ih =>
      intro N V Z hW hN hn hRV hF he
      have hV1 := hW.1
      have hC10 := bo_cell_10 s n V
      rw [show ((n + 1 : Nat) : Int) - 1 = (n : Int) by omega]
      apply gM_goSecond_7
      simp only [Int.toNat_natCast]
      rw [show (n : Int) + (-1) = (n : Int) - 1 by omega, ← (hRV.2.2 n (by omega)).1]
      refine ⟨fun c => by omega, fun _ => ⟨by omega, fun c1 => ?_, fun c1 => ?_⟩⟩
      · have e : bo_cell s n V = V := by unfold bo_cell; rw [if_pos c1]
        refine ih N V Z hW (by omega) (by omega) hRV hF ?_
        rw [← he]
        show bo_on s n V = bo_on s n (bo_cell s n V)
        rw [e]
      · apply hM_goCell hW (by omega) (by omega) c1 hRV
        intro Z2 hZ2 hF2
        exact ih (N + 3) (bo_cell s n V) Z2 (wb_cell s hW (by omega)) (by omega) (by omega) hZ2 (hF.tr hF2) he
  rw [← hR.1.1]
  refine ⟨by omega, ?_⟩
  have := key (X 44 10).toNat N X Y hw (by omega) (by omega) hR (FB.rf Y) rfl
  rw [show (((X 44 10).toNat : Int)) = X 44 10 by omega] at this
  exact this
/-- boardAll(): the seconds, and the end of it beside the class's -/
theorem hM_boardLoop {P : Int → ax_Mem → Prop} : ∀ (n : Nat) (N s : Int) (cm : Nat) (X Y : ax_Mem), WB N cm X → N + 36 * n ≤ 1000000 → RB X Y → Y 0 25 = cm → 1 ≤ s → s + n ≤ 100000 → bo_run n s cm X 44 12 ≤ bo_run n s cm X 44 13 → (∀ Z, RB (bo_run n s cm X) Z → FC Y Z → P (s - 1 + bo_cnt n s cm X) Z) → jM_boardAll P 6 [(0, .inr (.inr 0)), (1, .inl (s - 1))] [] Y
  | 0, N, s, cm, X, Y, hw, hN, hR, hcm, hs, hs2, hd, h => by
    have hd : X 44 12 ≤ X 44 13 := hd
    apply gM_boardAll_6
    have h1 := hR.1
    refine ⟨fun _ => ?_, fun c => by omega⟩
    have := h Y hR (FC.rf Y)
    rw [show s - 1 + ((bo_cnt 0 s cm X : Nat) : Int) = s - 1 by show s - 1 + ((0 : Nat) : Int) = s - 1; omega] at this
    exact this
  | n + 1, N, s, cm, X, Y, hw, hN, hR, hcm, hs, hs2, hd, h => by
    apply gM_boardAll_6
    have h1 := hR.1
    unfold bo_run bo_cnt at h
    unfold bo_run at hd
    refine ⟨fun c => ?_, fun c => ⟨by omega, ?_⟩⟩
    · rw [if_pos (by omega), if_pos (by omega)] at h
      have := h Y hR (FC.rf Y)
      rw [show s - 1 + ((0 : Nat) : Int) = s - 1 by omega] at this
      exact this
    · rw [if_neg (by omega)] at hd
      rw [if_neg (by omega), if_neg (by omega)] at h
      rw [show s - 1 + 1 = s by omega]
      apply hM_goSecond hw (by omega) hR hcm
      intro Z hZ hZ25 hF
      have := hM_boardLoop n (N + 36) (s + 1) _ _ Z (wb_ent (wb_two s hw)) (by omega) hZ hZ25 (by omega) (by omega) hd (fun Z2 hZ2 hF2 => by
        have := h Z2 hZ2 (hF.tr hF2)
        rw [show s - 1 + ((bo_cnt n (s + 1) (bo_enc cm (bo_two s X)) (bo_ent cm (bo_two s X)) + 1 : Nat) : Int) = s + 1 - 1 + (bo_cnt n (s + 1) (bo_enc cm (bo_two s X)) (bo_ent cm (bo_two s X)) : Int) by omega] at this
        exact this)
      rw [show s + 1 - 1 = s by omega] at this
      exact this
