/-! a boarding's seconds hang on people, bags and line alone -/
def EEp (X Z : ax_Mem) (p : Nat) : Prop := X 45 p = Z 45 p ∧ X 46 p = Z 46 p ∧ X 49 p = Z 49 p ∧ X 50 p = Z 50 p ∧ X 6 p = Z 6 p ∧ X 7 p = Z 7 p
def EE (X Z : ax_Mem) : Prop := (X 44 10 = Z 44 10 ∧ X 44 12 = Z 44 12 ∧ X 44 13 = Z 44 13) ∧ (∀ i : Nat, (i : Int) < X 44 12 → X 47 i = Z 47 i ∧ EEp X Z (X 47 i).toNat) ∧ (∀ k : Nat, k < 12 → X 53 k = Z 53 k ∧ X 48 k = Z 48 k)
theorem ee_49 {X Z : ax_Mem} {p : Nat} {v : Int} (h : EE X Z) : EE (ax_u X 49 p v) (ax_u Z 49 p v) := by
  obtain ⟨h1, h2, h3⟩ := h
  refine ⟨h1, fun i hi => ?_, h3⟩
  obtain ⟨a, b1, b2, b3, b4, b5, b6⟩ := h2 i hi
  refine ⟨a, b1, b2, ?_, b4, b5, b6⟩
  show ax_u X 49 p v 49 (X 47 i).toNat = ax_u Z 49 p v 49 (X 47 i).toNat
  rw [ax_uu, ax_uu, b3]
theorem ee_50 {X Z : ax_Mem} {p : Nat} {v : Int} (h : EE X Z) : EE (ax_u X 50 p v) (ax_u Z 50 p v) := by
  obtain ⟨h1, h2, h3⟩ := h
  refine ⟨h1, fun i hi => ?_, h3⟩
  obtain ⟨a, b1, b2, b3, b4, b5, b6⟩ := h2 i hi
  refine ⟨a, b1, b2, b3, ?_, b5, b6⟩
  show ax_u X 50 p v 50 (X 47 i).toNat = ax_u Z 50 p v 50 (X 47 i).toNat
  rw [ax_uu, ax_uu, b4]
theorem ee_53 {X Z : ax_Mem} {k : Nat} {v : Int} (h : EE X Z) : EE (ax_u X 53 k v) (ax_u Z 53 k v) := by
  obtain ⟨h1, h2, h3⟩ := h
  refine ⟨h1, h2, fun l hl => ?_⟩
  obtain ⟨a, b⟩ := h3 l hl
  refine ⟨?_, b⟩
  rw [ax_uu, ax_uu, a]
theorem ee_48 {X Z : ax_Mem} {k : Nat} {v : Int} (h : EE X Z) : EE (ax_u X 48 k v) (ax_u Z 48 k v) := by
  obtain ⟨h1, h2, h3⟩ := h
  refine ⟨h1, h2, fun l hl => ?_⟩
  obtain ⟨a, b⟩ := h3 l hl
  refine ⟨a, ?_⟩
  rw [ax_uu, ax_uu, b]
theorem ee_44 {X Z : ax_Mem} {v : Int} (h : EE X Z) : EE (ax_u X 44 13 v) (ax_u Z 44 13 v) := by
  obtain ⟨h1, h2, h3⟩ := h
  exact ⟨⟨h1.1, h1.2.1, rfl⟩, h2, h3⟩
theorem ee_free {X Z X2 Z2 : ax_Mem} (h : EE X Z) (hx : ∀ a, a ≠ 44 → a ≠ 51 → a < 54 → X2 a = X a) (hz : ∀ a, a ≠ 44 → a ≠ 51 → a < 54 → Z2 a = Z a) (x1 : X2 44 10 = X 44 10) (x2 : X2 44 12 = X 44 12) (x3 : X2 44 13 = X 44 13) (z1 : Z2 44 10 = Z 44 10) (z2 : Z2 44 12 = Z 44 12) (z3 : Z2 44 13 = Z 44 13) : EE X2 Z2 := by
  unfold EE EEp
  rw [x1, x2, x3, z1, z2, z3, hx 47 (by omega) (by omega) (by omega), hz 47 (by omega) (by omega) (by omega), hx 45 (by omega) (by omega) (by omega), hz 45 (by omega) (by omega) (by omega), hx 46 (by omega) (by omega) (by omega), hz 46 (by omega) (by omega) (by omega), hx 49 (by omega) (by omega) (by omega), hz 49 (by omega) (by omega) (by omega), hx 50 (by omega) (by omega) (by omega), hz 50 (by omega) (by omega) (by omega), hx 6 (by omega) (by omega) (by omega), hz 6 (by omega) (by omega) (by omega), hx 7 (by omega) (by omega) (by omega), hz 7 (by omega) (by omega) (by omega), hx 53 (by omega) (by omega) (by omega), hz 53 (by omega) (by omega) (by omega), hx 48 (by omega) (by omega) (by omega), hz 48 (by omega) (by omega) (by omega)]
  exact h
theorem nb_eq {f g : Nat → Int} {rows r : Int} (hfg : ∀ k, k < 12 → f k = g k) (hr : r < 12) (h12 : rows ≤ 12) : ∀ (n : Nat) (w : Int), 0 ≤ w → nb f rows r n w = nb g rows r n w
  | 0, _, _ => rfl
  | n + 1, w, hw => by
    have ih := nb_eq (r := r) hfg hr h12 n (w + 1) (by omega)
    have hA : (0 ≤ r - w ∧ 0 < f (r - w).toNat) ↔ (0 ≤ r - w ∧ 0 < g (r - w).toNat) := ⟨fun z => ⟨z.1, by have := hfg (r - w).toNat (by omega); omega⟩, fun z => ⟨z.1, by have := hfg (r - w).toNat (by omega); omega⟩⟩
    have hB : (r + w < rows ∧ 0 < f (r + w).toNat) ↔ (r + w < rows ∧ 0 < g (r + w).toNat) := ⟨fun z => ⟨z.1, by have := hfg (r + w).toNat (by omega); omega⟩, fun z => ⟨z.1, by have := hfg (r + w).toNat (by omega); omega⟩⟩
    show (if 0 ≤ r - w ∧ 0 < f (r - w).toNat then r - w else if r + w < rows ∧ 0 < f (r + w).toNat then r + w else nb f rows r n (w + 1)) = (if 0 ≤ r - w ∧ 0 < g (r - w).toNat then r - w else if r + w < rows ∧ 0 < g (r + w).toNat then r + w else nb g rows r n (w + 1))
    rw [ih]
    by_cases cA : 0 ≤ r - w ∧ 0 < f (r - w).toNat
    · rw [if_pos cA, if_pos (hA.mp cA)]
    · rw [if_neg cA, if_neg (fun z => cA (hA.mpr z))]
      by_cases cB : r + w < rows ∧ 0 < f (r + w).toNat
      · rw [if_pos cB, if_pos (hB.mp cB)]
      · rw [if_neg cB, if_neg (fun z => cB (hB.mpr z))]
theorem ee_bag {X Z : ax_Mem} {p j : Nat} (h : EE X Z) (hp : EEp X Z p) (h12 : X 44 10 ≤ 12) (hr : X 45 p < 12) : EE (bo_bag p j X) (bo_bag p j Z) ∧ bo_cost p X = bo_cost p Z := by
  have hb : bo_bin p X = bo_bin p Z := by
    unfold bo_bin
    rw [← h.1.1, ← hp.1]
    exact nb_eq (fun k hk => (h.2.2 k hk).2) hr h12 _ 0 (by omega)
  refine ⟨?_, by unfold bo_cost; rw [hb, hp.1]⟩
  unfold bo_bag
  rw [← hb]
  have base : ∀ W : ax_Mem, ∀ a, a < 54 → ax_u W (54 + p) j (bo_bin p X) a = W a := fun W a ha => ax_u_cell (by omega)
  have h' : EE (ax_u X (54 + p) j (bo_bin p X)) (ax_u Z (54 + p) j (bo_bin p X)) := ee_free h (fun a _ _ ha => base X a ha) (fun a _ _ ha => base Z a ha) (by rw [base X 44 (by omega)]) (by rw [base X 44 (by omega)]) (by rw [base X 44 (by omega)]) (by rw [base Z 44 (by omega)]) (by rw [base Z 44 (by omega)]) (by rw [base Z 44 (by omega)])
  split
  · refine ee_free h' (fun a ha _ _ => ax_u_cell ha) (fun a ha _ _ => ax_u_cell ha) ?_ ?_ ?_ ?_ ?_ ?_ <;> exact ax_us (by omega)
  · have hx : ax_u X (54 + p) j (bo_bin p X) 48 = X 48 := base X 48 (by omega)
    by_cases c : (bo_bin p X).toNat < 12
    · rw [(h.2.2 _ c).2]
      exact ee_48 h'
    · obtain ⟨h1, h2, h3⟩ := h'
      refine ⟨h1, h2, fun l hl => ⟨(h3 l hl).1, ?_⟩⟩
      rw [ax_us (by omega), ax_us (by omega)]
      exact (h3 l hl).2
theorem ee_bags {X Z : ax_Mem} {p : Nat} (h : EE X Z) (hp : EEp X Z p) (h12 : X 44 10 ≤ 12) (hr : X 45 p < 12) : ∀ n, EE (bo_bags p n X) (bo_bags p n Z) ∧ bo_time p n X = bo_time p n Z
  | 0 => ⟨h, rfl⟩
  | n + 1 => by
    obtain ⟨e1, e2⟩ := ee_bags h hp h12 hr n
    have hp2 : EEp (bo_bags p n X) (bo_bags p n Z) p := by
      unfold EEp
      have k : ∀ (W : ax_Mem) a, a ≠ 44 → a ≠ 48 → a < 54 → bo_bags p n W a = W a := fun W a h1 h2 h3 => bo_bags_k h1 h2 (by omega) n
      rw [k X 45 (by omega) (by omega) (by omega), k Z 45 (by omega) (by omega) (by omega), k X 46 (by omega) (by omega) (by omega), k Z 46 (by omega) (by omega) (by omega), k X 49 (by omega) (by omega) (by omega), k Z 49 (by omega) (by omega) (by omega), k X 50 (by omega) (by omega) (by omega), k Z 50 (by omega) (by omega) (by omega), k X 6 (by omega) (by omega) (by omega), k Z 6 (by omega) (by omega) (by omega), k X 7 (by omega) (by omega) (by omega), k Z 7 (by omega) (by omega) (by omega)]
      exact hp
    have := ee_bag (j := n) e1 hp2 (by rw [bo_bags_44 (by omega)]; exact h12) (by rw [bo_bags_k (by omega) (by omega) (by omega)]; exact hr)
    exact ⟨this.1, by simp only [bo_time]; rw [e2, this.2]⟩
theorem ee_iw {X Z : ax_Mem} {p : Nat} (h : EE X Z) (hp : EEp X Z p) : ∀ n : Nat, (n : Int) ≤ X 44 12 → iw (X 47) (X 50) (X 45) (X 6) (X 7) p n = iw (Z 47) (Z 50) (Z 45) (Z 6) (Z 7) p n
  | 0, _ => rfl
  | n + 1, hn => by
    obtain ⟨a, b1, b2, b3, b4, b5, b6⟩ := h.2.1 n (by omega)
    obtain ⟨c1, c2, c3, c4, c5, c6⟩ := id hp
    simp only [iw]
    rw [ee_iw h hp n (by omega), ← a, b1, b4, b5, b6, c1, c5, c6]
theorem ee_sit {X Z : ax_Mem} {s : Int} {p k : Nat} (h : EE X Z) (hp : X 49 p = Z 49 p) : EE (bo_sit s p k X) (bo_sit s p k Z) := by
  unfold bo_sit
  rw [← hp]
  split
  · rw [← h.1.2.2]
    refine ee_free (ee_44 (v := X 44 13 + 1) (ee_50 (ee_53 h))) (fun a ha _ _ => ax_u_cell ha) (fun a ha _ _ => ax_u_cell ha) ?_ ?_ ?_ ?_ ?_ ?_ <;> exact ax_us (by omega)
  · exact h
theorem ee_cell {N : Int} {cm k : Nat} {X Z : ax_Mem} {s : Int} (hw : WB N cm X) (hk : (k : Int) < X 44 10) (h : EE X Z) : EE (bo_cell s k X) (bo_cell s k Z) := by
  have hw1 := hw.1
  have hk12 : k < 12 := by omega
  have e53 := (h.2.2 k hk12).1
  unfold bo_cell
  rw [← e53, ← h.1.1]
  by_cases c1 : X 53 k = -1
  · rw [if_pos c1, if_pos c1]; exact h
  · rw [if_neg c1, if_neg c1]
    obtain ⟨i0, hi0, hi1, e0, hpp, hrw, hbg, hbs, hwt⟩ := wb_at hw hk12 c1
    have hep : EEp X Z (X 53 k).toNat := by rw [e0]; exact (h.2.1 i0 hi1).2
    rw [← hep.2.2.1, ← hep.1]
    by_cases c2 : 0 < X 49 (X 53 k).toNat
    · rw [if_pos c2, if_pos c2]
      unfold bo_dec
      rw [← e53, ← hep.2.2.1]
      exact ee_sit (ee_49 h) (by rw [ax_uu, ax_uu, if_pos rfl, if_pos rfl])
    · rw [if_neg c2, if_neg c2]
      by_cases c3 : X 45 (X 53 k).toNat = k
      · rw [if_pos c3, if_pos c3]
        have hb := ee_bags h hep hw1.2 (by omega) (X 46 (X 53 k).toNat).toNat
        have ht : bo_tts (X 53 k).toNat X = bo_tts (X 53 k).toNat Z := by
          unfold bo_tts bo_iw
          rw [ee_iw h hep _ (by have := hw.2.1; omega), ← hep.2.1, hb.2, h.1.2.1]
        unfold bo_beg
        rw [← e53, ← hep.2.1, ← ht]
        exact ee_sit (ee_49 hb.1) (by rw [ax_uu, ax_uu, if_pos rfl, if_pos rfl])
      · rw [if_neg c3, if_neg c3]
        by_cases c4 : (k : Int) + 1 < X 44 10
        · rw [← (h.2.2 (k + 1) (by omega)).1]
          by_cases c5 : (k : Int) + 1 < X 44 10 ∧ X 53 (k + 1) = -1
          · rw [if_pos c5, if_pos c5]
            unfold bo_mov
            rw [← e53]
            exact ee_53 (ee_53 h)
          · rw [if_neg c5, if_neg c5]
            unfold bo_wai
            refine ee_free h (fun a _ ha _ => ax_u_cell ha) (fun a _ ha _ => ax_u_cell ha) ?_ ?_ ?_ ?_ ?_ ?_ <;> rw [ax_u_cell (by omega)]
        · rw [if_neg (fun z => c4 z.1), if_neg (fun z => c4 z.1)]
          unfold bo_wai
          refine ee_free h (fun a _ ha _ => ax_u_cell ha) (fun a _ ha _ => ax_u_cell ha) ?_ ?_ ?_ ?_ ?_ ?_ <;> rw [ax_u_cell (by omega)]
theorem ee_on {cm : Nat} {s : Int} : ∀ (n : Nat) (N : Int) (X Z : ax_Mem), WB N cm X → (n : Int) ≤ X 44 10 → EE X Z → EE (bo_on s n X) (bo_on s n Z)
  | 0, _, _, _, _, _, h => h
  | n + 1, N, X, Z, hw, hn, h => ee_on n (N + 3) _ _ (wb_cell s hw (by omega)) (by rw [bo_cell_10]; omega) (ee_cell hw (by omega) h)
theorem ee_run : ∀ (n : Nat) (N s : Int) (cm : Nat) (X Z : ax_Mem), WB N cm X → EE X Z → bo_cnt n s cm X = bo_cnt n s cm Z ∧ (bo_run n s cm X 44 12 = bo_run n s cm Z 44 12 ∧ bo_run n s cm X 44 13 = bo_run n s cm Z 44 13)
  | 0, _, _, _, _, _, _, h => ⟨rfl, h.1.2.1, h.1.2.2⟩
  | n + 1, N, s, cm, X, Z, hw, h => by
    have hw1 := hw.1
    have h2 : EE (bo_two s X) (bo_two s Z) := by
      unfold bo_two
      rw [← h.1.1]
      exact ee_on _ N X Z hw (by omega) h
    have hwt := wb_two s hw
    have e53 := (h2.2.2 0 (by omega)).1
    have e12 := h2.1.2.1
    have henc : bo_enc cm (bo_two s X) = bo_enc cm (bo_two s Z) := by unfold bo_enc; rw [e53, e12]
    have hent : EE (bo_ent cm (bo_two s X)) (bo_ent cm (bo_two s Z)) := by
      unfold bo_ent
      rw [← e53, ← e12]
      by_cases c : (cm : Int) < bo_two s X 44 12 ∧ bo_two s X 53 0 = -1
      · rw [if_pos c, if_pos c, (h2.2.1 cm c.1).1]
        exact ee_53 h2
      · rw [if_neg c, if_neg c]; exact h2
    have ih := ee_run n (N + 36) (s + 1) _ _ _ (wb_ent hwt) hent
    unfold bo_cnt bo_run
    rw [← h.1.2.1, ← h.1.2.2]
    by_cases c : X 44 12 ≤ X 44 13
    · rw [if_pos c, if_pos c, if_pos c, if_pos c]; exact ⟨rfl, h.1.2.1, h.1.2.2⟩
    · rw [if_neg c, if_neg c, if_neg c, if_neg c, ← henc]
      exact ⟨by rw [ih.1], ih.2⟩
/-- one memory for the class that has this line laid and these bags -/
def cv (X : ax_Mem) (mb : Int) (w : Nat → Int) : ax_Mem := fun k => if k < 40 then X k else if k = 40 then (fun _ => X 2 7) else if k = 41 then w else if k = 44 then (fun j => if j = 10 then X 1 0 else X 1 2) else if k = 45 then X 5 else if k = 46 then (fun p => min (X 8 p) mb) else fun _ => 0
theorem cv_vw (X : ax_Mem) (mb : Int) (w : Nat → Int) : VW X (cv X mb w) mb w := by
  refine ⟨fun k hk => by unfold cv; rw [if_pos hk], rfl, fun _ _ => rfl, rfl, rfl, fun _ _ => ⟨rfl, rfl⟩⟩
def TT (X : ax_Mem) (mb : Int) (w : Nat → Int) : Nat := bT (cv X mb w)
theorem vw_ee {X V U : ax_Mem} {mb : Int} {w : Nat → Int} (hw : WP X) (hv : VW X V mb w) (hu : VW X U mb w) (hp : PM (X 2 7).toNat w) : EE (bo_begin V) (bo_begin U) := by
  have hw1 := hw.1
  obtain ⟨f1, f2, f3, f4, f5, f6, f7, f8, f9⟩ := bo_begin_facts (vw_LV hw hv hp)
  obtain ⟨g1, g2, g3, g4, g5, g6, g7, g8, g9⟩ := bo_begin_facts (vw_LV hw hu hp)
  have a := vw_fn hw hv hp
  have b := vw_fn hw hu hp
  have kk : ∀ (W : ax_Mem) q, q ≠ 44 → q ≠ 47 → q ≠ 48 → q ≠ 49 → q ≠ 50 → q ≠ 51 → q ≠ 53 → q < 54 → bo_begin W q = W q := fun W q h1 h2 h3 h4 h5 h6 h7 h8 => bo_begin_k h1 h4 h5 h6 h2 h3 h7 h8
  obtain ⟨v1, v2, v3, v4, v5, v6⟩ := hv
  obtain ⟨u1, u2, u3, u4, u5, u6⟩ := hu
  refine ⟨⟨by rw [f1, g1, v4, u4], by rw [f3, g3, a.1, b.1], by rw [f4, g4]⟩, fun i hi => ?_, fun k hk => ⟨by rw [(f8 k hk).1, (g8 k hk).1], by rw [(f8 k hk).2, (g8 k hk).2, v5, u5]⟩⟩
  rw [f3, a.1] at hi
  have hi2 : i < (X 2 7).toNat := by omega
  have e1 : bo_begin V 47 i = w i := by rw [f7]; exact a.2 i hi2
  have e2 : bo_begin U 47 i = w i := by rw [g7]; exact b.2 i hi2
  have hwi := hp.1 i hi2
  have hwn : ((w i).toNat : Int) < X 2 7 := by omega
  have q1 := f9 i (by rw [v2]; omega)
  have q2 := g9 i (by rw [u2]; omega)
  rw [v3 i (by omega)] at q1
  rw [u3 i (by omega)] at q2
  refine ⟨by rw [e1, e2], ?_⟩
  rw [e1]
  unfold EEp
  rw [q1.1, q1.2.1, q2.1, q2.2.1, kk V 45 (by omega) (by omega) (by omega) (by omega) (by omega) (by omega) (by omega) (by omega), kk U 45 (by omega) (by omega) (by omega) (by omega) (by omega) (by omega) (by omega) (by omega), kk V 46 (by omega) (by omega) (by omega) (by omega) (by omega) (by omega) (by omega) (by omega), kk U 46 (by omega) (by omega) (by omega) (by omega) (by omega) (by omega) (by omega) (by omega), kk V 6 (by omega) (by omega) (by omega) (by omega) (by omega) (by omega) (by omega) (by omega), kk U 6 (by omega) (by omega) (by omega) (by omega) (by omega) (by omega) (by omega) (by omega), kk V 7 (by omega) (by omega) (by omega) (by omega) (by omega) (by omega) (by omega) (by omega), kk U 7 (by omega) (by omega) (by omega) (by omega) (by omega) (by omega) (by omega) (by omega), (v6 _ hwn).1, (u6 _ hwn).1, (v6 _ hwn).2, (u6 _ hwn).2, v1 6 (by omega), u1 6 (by omega), v1 7 (by omega), u1 7 (by omega)]
  exact ⟨rfl, rfl, rfl, rfl, rfl, rfl⟩
theorem TT_eq {X V : ax_Mem} {mb : Int} {w : Nat → Int} (hw : WP X) (hr2 : 2 ≤ X 1 0) (hm : 0 ≤ mb ∧ mb ≤ 3) (hv : VW X V mb w) (hp : PM (X 2 7).toNat w) : bT V = TT X mb w := (ee_run 9999 0 1 0 _ _ (vw_WB hw hr2 hm hv hp) (vw_ee hw hv (cv_vw X mb w) hp)).1
theorem TT_le (X : ax_Mem) (mb : Int) (w : Nat → Int) : TT X mb w ≤ 9999 := bT_le _
