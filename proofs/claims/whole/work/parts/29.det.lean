/-! a boarding's seconds hang on people, bags and line alone -/
def EEp (X Z : ax_Mem) (p : Nat) : Prop := X 45 p = Z 45 p ∧ X 46 p = Z 46 p ∧ X 49 p = Z 49 p ∧ X 50 p = Z 50 p ∧ X 6 p = Z 6 p ∧ X 7 p = Z 7 p ∧ X 51 p = Z 51 p
def EE (X Z : ax_Mem) : Prop := (X 44 10 = Z 44 10 ∧ X 44 12 = Z 44 12 ∧ X 44 13 = Z 44 13 ∧ X 44 14 = Z 44 14) ∧ (∀ i : Nat, (i : Int) < X 44 12 → X 47 i = Z 47 i ∧ EEp X Z (X 47 i).toNat) ∧ (∀ k : Nat, k < 12 → X 53 k = Z 53 k ∧ X 48 k = Z 48 k)
theorem ee_49 {X Z : ax_Mem} {p : Nat} {v : Int} (h : EE X Z) : EE (ax_u X 49 p v) (ax_u Z 49 p v) := by
  obtain ⟨h1, h2, h3⟩ := h
  refine ⟨h1, fun i hi => ?_, h3⟩
  obtain ⟨a, b1, b2, b3, b4, b5, b6⟩ := h2 i hi
  refine ⟨a, b1, b2, ?_, b4, b5, b6⟩
  show ax_u X 49 p v 49 (X 47 i).toNat = ax_u Z 49 p v 49 (X 47 i).toNat
  rw [ax_uu, ax_uu, b3]
theorem ee_50 {X Z : ax_Mem} {p : Nat} {v : Int} (h : EE X Z) : EE (ax_u X 50 p v) (ax_u Z 50 p v) := by
  obtain ⟨h1, h2, h3⟩ := h
  refine ⟨h1, fun i hi => ?_, h3⟩
  obtain ⟨a, b1, b2, b3, b4, b5, b6⟩ := h2 i hi
  refine ⟨a, b1, b2, b3, ?_, b5, b6⟩
  show ax_u X 50 p v 50 (X 47 i).toNat = ax_u Z 50 p v 50 (X 47 i).toNat
  rw [ax_uu, ax_uu, b4]
theorem ee_53 {X Z : ax_Mem} {k : Nat} {v : Int} (h : EE X Z) : EE (ax_u X 53 k v) (ax_u Z 53 k v) := by
  obtain ⟨h1, h2, h3⟩ := h
  refine ⟨h1, h2, fun l hl => ?_⟩
  obtain ⟨a, b⟩ := h3 l hl
  refine ⟨?_, b⟩
  rw [ax_uu, ax_uu, a]
theorem ee_48 {X Z : ax_Mem} {k : Nat} {v : Int} (h : EE X Z) : EE (ax_u X 48 k v) (ax_u Z 48 k v) := by
  obtain ⟨h1, h2, h3⟩ := h
  refine ⟨h1, h2, fun l hl => ?_⟩
  obtain ⟨a, b⟩ := h3 l hl
  refine ⟨a, ?_⟩
  rw [ax_uu, ax_uu, b]
theorem ee_44 {X Z : ax_Mem} {v : Int} (h : EE X Z) : EE (ax_u X 44 13 v) (ax_u Z 44 13 v) := by
  obtain ⟨h1, h2, h3⟩ := h
  exact ⟨⟨h1.1, h1.2.1, rfl, h1.2.2.2⟩, h2, h3⟩
theorem ee_14 {X Z : ax_Mem} {v : Int} (h : EE X Z) : EE (ax_u X 44 14 v) (ax_u Z 44 14 v) := by
  obtain ⟨h1, h2, h3⟩ := h
  exact ⟨⟨h1.1, h1.2.1, h1.2.2.1, rfl⟩, h2, h3⟩
theorem ee_15 {X Z : ax_Mem} {v : Int} (h : EE X Z) : EE (ax_u X 44 15 v) (ax_u Z 44 15 v) := h
theorem ee_51 {X Z : ax_Mem} {p : Nat} {v : Int} (h : EE X Z) : EE (ax_u X 51 p v) (ax_u Z 51 p v) := by
  obtain ⟨h1, h2, h3⟩ := h
  refine ⟨h1, fun i hi => ?_, h3⟩
  obtain ⟨a, b1, b2, b3, b4, b5, b6, b7⟩ := h2 i hi
  refine ⟨a, b1, b2, b3, b4, b5, b6, ?_⟩
  show ax_u X 51 p v 51 (X 47 i).toNat = ax_u Z 51 p v 51 (X 47 i).toNat
  rw [ax_uu, ax_uu, b7]
theorem ee_free {X Z X2 Z2 : ax_Mem} (h : EE X Z) (hx : ∀ a, a < 54 → X2 a = X a) (hz : ∀ a, a < 54 → Z2 a = Z a) : EE X2 Z2 := by
  unfold EE EEp
  rw [hx 44 (by omega), hz 44 (by omega), hx 47 (by omega), hz 47 (by omega), hx 45 (by omega), hz 45 (by omega), hx 46 (by omega), hz 46 (by omega), hx 49 (by omega), hz 49 (by omega), hx 50 (by omega), hz 50 (by omega), hx 6 (by omega), hz 6 (by omega), hx 7 (by omega), hz 7 (by omega), hx 53 (by omega), hz 53 (by omega), hx 48 (by omega), hz 48 (by omega), hx 51 (by omega), hz 51 (by omega)]
  exact h
theorem nb_eq {f g : Nat → Int} {rows r : Int} (hfg : ∀ k, k < 12 → f k = g k) (hr : r < 12) (h12 : rows ≤ 12) : ∀ (n : Nat) (w : Int), 0 ≤ w → nb f rows r n w = nb g rows r n w
  | 0, _, _ => rfl
  | n + 1, w, hw => by
    have ih := nb_eq (r := r) hfg hr h12 n (w + 1) (by omega)
    have hA : (0 ≤ r - w ∧ 0 < f (r - w).toNat) ↔ (0 ≤ r - w ∧ 0 < g (r - w).toNat) := ⟨fun z => ⟨z.1, by have := hfg (r - w).toNat (by omega); omega⟩, fun z => ⟨z.1, by have := hfg (r - w).toNat (by omega); omega⟩⟩
    have hB : (r + w < rows ∧ 0 < f (r + w).toNat) ↔ (r + w < rows ∧ 0 < g (r + w).toNat) := ⟨fun z => ⟨z.1, by have := hfg (r + w).toNat (by omega); omega⟩, fun z => ⟨z.1, by have := hfg (r + w).toNat (by omega); omega⟩⟩
    show (if 0 ≤ r - w ∧ 0 < f (r - w).toNat then r - w else if r + w < rows ∧ 0 < f (r + w).toNat then r + w else nb f rows r n (w + 1)) = (if 0 ≤ r - w ∧ 0 < g (r - w).toNat then r - w else if r + w < rows ∧ 0 < g (r + w).toNat then r + w else nb g rows r n (w + 1))
    rw [ih]
    by_cases cA : 0 ≤ r - w ∧ 0 < f (r - w).toNat
    · rw [if_pos cA, if_pos (hA.mp cA)]
    · rw [if_neg cA, if_neg (fun z => cA (hA.mpr z))]
      by_cases cB : r + w < rows ∧ 0 < f (r + w).toNat
      · rw [if_pos cB, if_pos (hB.mp cB)]
      · rw [if_neg cB, if_neg (fun z => cB (hB.mpr z))]
theorem ee_bag {X Z : ax_Mem} {p j : Nat} (h : EE X Z) (hp : EEp X Z p) (h12 : X 44 10 ≤ 12) (hr : X 45 p < 12) : EE (bo_bag p j X) (bo_bag p j Z) ∧ bo_cost p X = bo_cost p Z := by
  have hb : bo_bin p X = bo_bin p Z := by
    unfold bo_bin
    rw [← h.1.1, ← hp.1]
    exact nb_eq (fun k hk => (h.2.2 k hk).2) hr h12 _ 0 (by omega)
  refine ⟨?_, by unfold bo_cost; rw [hb, hp.1]⟩
  unfold bo_bag
  rw [← hb]
  have base : ∀ W : ax_Mem, ∀ a, a < 54 → ax_u W (54 + p) j (bo_bin p X) a = W a := fun W a ha => ax_u_cell (by omega)
  have h' : EE (ax_u X (54 + p) j (bo_bin p X)) (ax_u Z (54 + p) j (bo_bin p X)) := ee_free h (fun a ha => base X a ha) (fun a ha => base Z a ha)
  split
  · rw [← h.1.2.2.2]; exact ee_14 h'
  · have hx : ax_u X (54 + p) j (bo_bin p X) 48 = X 48 := base X 48 (by omega)
    by_cases c : (bo_bin p X).toNat < 12
    · rw [(h.2.2 _ c).2]
      exact ee_48 h'
    · obtain ⟨h1, h2, h3⟩ := h'
      refine ⟨h1, h2, fun l hl => ⟨(h3 l hl).1, ?_⟩⟩
      rw [ax_us (by omega), ax_us (by omega)]
      exact (h3 l hl).2
theorem ee_bags {X Z : ax_Mem} {p : Nat} (h : EE X Z) (hp : EEp X Z p) (h12 : X 44 10 ≤ 12) (hr : X 45 p < 12) : ∀ n, EE (bo_bags p n X) (bo_bags p n Z) ∧ bo_time p n X = bo_time p n Z
  | 0 => ⟨h, rfl⟩
  | n + 1 => by
    obtain ⟨e1, e2⟩ := ee_bags h hp h12 hr n
    have hp2 : EEp (bo_bags p n X) (bo_bags p n Z) p := by
      unfold EEp
      have k : ∀ (W : ax_Mem) a, a ≠ 44 → a ≠ 48 → a < 54 → bo_bags p n W a = W a := fun W a h1 h2 h3 => bo_bags_k h1 h2 (by omega) n
      rw [k X 45 (by omega) (by omega) (by omega), k Z 45 (by omega) (by omega) (by omega), k X 46 (by omega) (by omega) (by omega), k Z 46 (by omega) (by omega) (by omega), k X 49 (by omega) (by omega) (by omega), k Z 49 (by omega) (by omega) (by omega), k X 50 (by omega) (by omega) (by omega), k Z 50 (by omega) (by omega) (by omega), k X 6 (by omega) (by omega) (by omega), k Z 6 (by omega) (by omega) (by omega), k X 7 (by omega) (by omega) (by omega), k Z 7 (by omega) (by omega) (by omega), k X 51 (by omega) (by omega) (by omega), k Z 51 (by omega) (by omega) (by omega)]
      exact hp
    have := ee_bag (j := n) e1 hp2 (by rw [bo_bags_44 (by omega)]; exact h12) (by rw [bo_bags_k (by omega) (by omega) (by omega)]; exact hr)
    exact ⟨this.1, by simp only [bo_time]; rw [e2, this.2]⟩
theorem ee_iw {X Z : ax_Mem} {p : Nat} (h : EE X Z) (hp : EEp X Z p) : ∀ n : Nat, (n : Int) ≤ X 44 12 → iw (X 47) (X 50) (X 45) (X 6) (X 7) p n = iw (Z 47) (Z 50) (Z 45) (Z 6) (Z 7) p n
  | 0, _ => rfl
  | n + 1, hn => by
    obtain ⟨a, b1, b2, b3, b4, b5, b6⟩ := h.2.1 n (by omega)
    obtain ⟨c1, c2, c3, c4, c5, c6, c7⟩ := id hp
    simp only [iw]
    rw [ee_iw h hp n (by omega), ← a, b1, b4, b5, b6.1, c1, c5, c6]
theorem ee_sit {X Z : ax_Mem} {s : Int} {p k : Nat} (h : EE X Z) (hp : X 49 p = Z 49 p) : EE (bo_sit s p k X) (bo_sit s p k Z) := by
  unfold bo_sit
  rw [← hp]
  split
  · rw [← h.1.2.2.1]
    exact ee_15 (ee_44 (v := X 44 13 + 1) (ee_50 (ee_53 h)))
  · exact h
theorem ee_cell {N : Int} {cm k : Nat} {X Z : ax_Mem} {s : Int} (hw : WB N cm X) (hk : (k : Int) < X 44 10) (h : EE X Z) : EE (bo_cell s k X) (bo_cell s k Z) := by
  have hw1 := hw.1
  have hk12 : k < 12 := by omega
  have e53 := (h.2.2 k hk12).1
  unfold bo_cell
  rw [← e53, ← h.1.1]
  by_cases c1 : X 53 k = -1
  · rw [if_pos c1, if_pos c1]; exact h
  · rw [if_neg c1, if_neg c1]
    obtain ⟨i0, hi0, hi1, e0, hpp, hrw, hbg, hbs, hwt⟩ := wb_at hw hk12 c1
    have hep : EEp X Z (X 53 k).toNat := by rw [e0]; exact (h.2.1 i0 hi1).2
    rw [← hep.2.2.1, ← hep.1]
    by_cases c2 : 0 < X 49 (X 53 k).toNat
    · rw [if_pos c2, if_pos c2]
      unfold bo_dec
      rw [← e53, ← hep.2.2.1]
      exact ee_sit (ee_49 h) (by rw [ax_uu, ax_uu, if_pos rfl, if_pos rfl])
    · rw [if_neg c2, if_neg c2]
      by_cases c3 : X 45 (X 53 k).toNat = k
      · rw [if_pos c3, if_pos c3]
        have hb := ee_bags h hep hw1.2 (by omega) (X 46 (X 53 k).toNat).toNat
        have ht : bo_tts (X 53 k).toNat X = bo_tts (X 53 k).toNat Z := by
          unfold bo_tts bo_iw
          rw [ee_iw h hep _ (by have := hw.2.1; omega), ← hep.2.1, hb.2, h.1.2.1]
        unfold bo_beg
        rw [← e53, ← hep.2.1, ← ht]
        exact ee_sit (ee_49 hb.1) (by rw [ax_uu, ax_uu, if_pos rfl, if_pos rfl])
      · rw [if_neg c3, if_neg c3]
        by_cases c4 : (k : Int) + 1 < X 44 10
        · rw [← (h.2.2 (k + 1) (by omega)).1]
          by_cases c5 : (k : Int) + 1 < X 44 10 ∧ X 53 (k + 1) = -1
          · rw [if_pos c5, if_pos c5]
            unfold bo_mov
            rw [← e53]
            exact ee_53 (ee_53 h)
          · rw [if_neg c5, if_neg c5]
            unfold bo_wai
            rw [← e53, ← hep.2.2.2.2.2.2]
            exact ee_51 h
        · rw [if_neg (fun z => c4 z.1), if_neg (fun z => c4 z.1)]
          unfold bo_wai
          rw [← e53, ← hep.2.2.2.2.2.2]
          exact ee_51 h
theorem ee_on {cm : Nat} {s : Int} : ∀ (n : Nat) (N : Int) (X Z : ax_Mem), WB N cm X → (n : Int) ≤ X 44 10 → EE X Z → EE (bo_on s n X) (bo_on s n Z)
  | 0, _, _, _, _, _, h => h
  | n + 1, N, X, Z, hw, hn, h => ee_on n (N + 3) _ _ (wb_cell s hw (by omega)) (by rw [bo_cell_10]; omega) (ee_cell hw (by omega) h)
theorem ee_run : ∀ (n : Nat) (N s : Int) (cm : Nat) (X Z : ax_Mem), WB N cm X → EE X Z → bo_cnt n s cm X = bo_cnt n s cm Z ∧ EE (bo_run n s cm X) (bo_run n s cm Z)
  | 0, _, _, _, _, _, _, h => ⟨rfl, h⟩
  | n + 1, N, s, cm, X, Z, hw, h => by
    have hw1 := hw.1
    have h2 : EE (bo_two s X) (bo_two s Z) := by
      unfold bo_two
      rw [← h.1.1]
      exact ee_on _ N X Z hw (by omega) h
    have hwt := wb_two s hw
    have e53 := (h2.2.2 0 (by omega)).1
    have e12 := h2.1.2.1
    have henc : bo_enc cm (bo_two s X) = bo_enc cm (bo_two s Z) := by unfold bo_enc; rw [e53, e12]
    have hent : EE (bo_ent cm (bo_two s X)) (bo_ent cm (bo_two s Z)) := by
      unfold bo_ent
      rw [← e53, ← e12]
      by_cases c : (cm : Int) < bo_two s X 44 12 ∧ bo_two s X 53 0 = -1
      · rw [if_pos c, if_pos c, (h2.2.1 cm c.1).1]
        exact ee_53 h2
      · rw [if_neg c, if_neg c]; exact h2
    have ih := ee_run n (N + 36) (s + 1) _ _ _ (wb_ent hwt) hent
    unfold bo_cnt bo_run
    rw [← h.1.2.1, ← h.1.2.2.1]
    by_cases c : X 44 12 ≤ X 44 13
    · rw [if_pos c, if_pos c, if_pos c, if_pos c]; exact ⟨rfl, h⟩
    · rw [if_neg c, if_neg c, if_neg c, if_neg c, ← henc]
      exact ⟨by rw [ih.1], ih.2⟩
/-- a boarding into a part: its rows, as numbered from its door -/
def GV (X V : ax_Mem) (rows : Int) (rf : Nat → Int) (mb : Int) (w : Nat → Int) : Prop := (∀ k, k < 40 → V k = X k) ∧ V 40 1 = X 2 7 ∧ (∀ i : Nat, (i : Int) < X 2 7 → V 41 i = w i) ∧ V 44 10 = rows ∧ V 44 11 = X 1 2 ∧ ∀ p : Nat, (p : Int) < X 2 7 → V 45 p = rf p ∧ V 46 p = min (X 8 p) mb
theorem VW.g {X V : ax_Mem} {mb : Int} {w : Nat → Int} (h : VW X V mb w) : GV X V (X 1 0) (X 5) mb w := h
theorem gv_LV {X V : ax_Mem} {rows mb : Int} {w rf : Nat → Int} (hw : WP X) (h : GV X V rows rf mb w) (hp : PM (X 2 7).toNat w) : LV V := by
  have hw1 := hw.1
  obtain ⟨v1, v2, v3, v4, v5, v6⟩ := h
  unfold LV
  rw [v2]
  refine ⟨hw1, fun i hi => ?_, fun i j hi hj e => ?_⟩
  · rw [v3 i hi]
    have := hp.1 i (by omega)
    omega
  · rw [v3 i hi, v3 j hj] at e
    exact hp.2.1 i j (by omega) (by omega) e
theorem gv_WB {X V : ax_Mem} {rows mb : Int} {w rf : Nat → Int} (hw : WP X) (hr : 1 ≤ rows ∧ rows ≤ 12) (hrf : ∀ p : Nat, (p : Int) < X 2 7 → 0 ≤ rf p) (hm : 0 ≤ mb ∧ mb ≤ 3) (h : GV X V rows rf mb w) (hp : PM (X 2 7).toNat w) : WB 0 0 (bo_begin V) := by
  have hl := gv_LV hw h hp
  obtain ⟨v1, v2, v3, v4, v5, v6⟩ := h
  have wi : ∀ i : Nat, (i : Int) < V 40 1 → (((V 41 i).toNat : Int) < X 2 7) := by
    intro i hi
    rw [v2] at hi
    rw [v3 i hi]
    have := hp.1 i (by omega)
    omega
  refine wb_begin hl (by omega) (fun i hi _ => ?_) (fun i hi => ?_)
  · have := wi i hi
    rw [(v6 _ this).1]
    exact hrf _ this
  · have := wi i hi
    rw [(v6 _ this).2]
    have := (hw.2.2 _ this).2.2.2.2.2.1
    omega
theorem fn_eq {w w2 row row2 : Nat → Int} {rows : Int} : ∀ n, (∀ i, i < n → w i = w2 i ∧ row (w i).toNat = row2 (w i).toNat) → fn w row rows n = fn w2 row2 rows n
  | 0, _ => rfl
  | n + 1, h => by
    obtain ⟨a, b⟩ := h n (by omega)
    unfold fn
    rw [fn_eq n (fun i hi => h i (by omega)), b, a]
theorem fa_eq {w w2 row row2 f0 f1 : Nat → Int} {rows : Int} : ∀ n, (∀ i, i < n → w i = w2 i ∧ row (w i).toNat = row2 (w i).toNat) → ∀ j, j < fn w row rows n → fa w row rows f0 n j = fa w2 row2 rows f1 n j
  | 0, _, j, hj => by simp [fn] at hj
  | n + 1, h, j, hj => by
    obtain ⟨a, b⟩ := h n (by omega)
    have e := fn_eq (rows := rows) n (fun i hi => h i (by omega))
    have ih := fa_eq (f0 := f0) (f1 := f1) (rows := rows) n (fun i hi => h i (by omega))
    unfold fn at hj
    unfold fa
    rw [← a, ← b, ← e]
    by_cases c : rows ≤ row (w n).toNat
    · rw [if_pos c] at hj
      rw [if_pos c, if_pos c]; exact ih j hj
    · rw [if_neg c] at hj
      rw [if_neg c, if_neg c]
      by_cases d : j = fn w row rows n
      · rw [if_pos d, if_pos d]
      · rw [if_neg d, if_neg d]; exact ih j (by omega)
theorem gv_ee {X V U : ax_Mem} {rows mb : Int} {w rf : Nat → Int} (hw : WP X) (hv : GV X V rows rf mb w) (hu : GV X U rows rf mb w) (hp : PM (X 2 7).toNat w) : EE (bo_begin V) (bo_begin U) := by
  have hw1 := hw.1
  have hlv := gv_LV hw hv hp
  obtain ⟨f1, f2, f3, f4, f5, f6, f7, f8, f9⟩ := bo_begin_facts hlv
  obtain ⟨g1, g2, g3, g4, g5, g6, g7, g8, g9⟩ := bo_begin_facts (gv_LV hw hu hp)
  have kk : ∀ (W : ax_Mem) q, q ≠ 44 → q ≠ 47 → q ≠ 48 → q ≠ 49 → q ≠ 50 → q ≠ 51 → q ≠ 53 → q < 54 → bo_begin W q = W q := fun W q h1 h2 h3 h4 h5 h6 h7 h8 => bo_begin_k h1 h4 h5 h6 h2 h3 h7 h8
  obtain ⟨v1, v2, v3, v4, v5, v6⟩ := hv
  obtain ⟨u1, u2, u3, u4, u5, u6⟩ := hu
  have hag : ∀ i, i < (X 2 7).toNat → V 41 i = U 41 i ∧ V 45 (V 41 i).toNat = U 45 (V 41 i).toNat := by
    intro i hi
    rw [v3 i (by omega), u3 i (by omega)]
    have := hp.1 i hi
    have h2 : ((w i).toNat : Int) < X 2 7 := by omega
    exact ⟨rfl, by rw [(v6 _ h2).1, (u6 _ h2).1]⟩
  have efn := fn_eq (rows := rows) (X 2 7).toNat hag
  refine ⟨⟨by rw [f1, g1, v4, u4], by rw [f3, g3, v4, u4, v2, u2, efn], by rw [f4, g4], by rw [f5, g5]⟩, fun i hi => ?_, fun k hk => ⟨by rw [(f8 k hk).1, (g8 k hk).1], by rw [(f8 k hk).2, (g8 k hk).2, v5, u5]⟩⟩
  rw [f3, v4, v2] at hi
  have hi2 : i < fn (V 41) (V 45) rows (X 2 7).toNat := by omega
  have e1 : bo_begin V 47 i = bo_begin U 47 i := by
    rw [f7, g7, v4, u4, v2, u2]
    exact fa_eq _ hag i hi2
  obtain ⟨q, hq, eq, -⟩ := fa_in (V 41) (V 45) rows (V 47) (X 2 7).toNat i hi2
  have e3 : bo_begin V 47 i = w q := by rw [f7, v4, v2, eq, v3 q (by omega)]
  have hwi := hp.1 q hq
  have hwn : ((w q).toNat : Int) < X 2 7 := by omega
  have q1 := f9 q (by rw [v2]; omega)
  have q2 := g9 q (by rw [u2]; omega)
  rw [v3 q (by omega)] at q1
  rw [u3 q (by omega)] at q2
  refine ⟨e1, ?_⟩
  rw [e3]
  unfold EEp
  rw [q1.1, q1.2.1, q1.2.2.1, q2.1, q2.2.1, q2.2.2.1, kk V 45 (by omega) (by omega) (by omega) (by omega) (by omega) (by omega) (by omega) (by omega), kk U 45 (by omega) (by omega) (by omega) (by omega) (by omega) (by omega) (by omega) (by omega), kk V 46 (by omega) (by omega) (by omega) (by omega) (by omega) (by omega) (by omega) (by omega), kk U 46 (by omega) (by omega) (by omega) (by omega) (by omega) (by omega) (by omega) (by omega), kk V 6 (by omega) (by omega) (by omega) (by omega) (by omega) (by omega) (by omega) (by omega), kk U 6 (by omega) (by omega) (by omega) (by omega) (by omega) (by omega) (by omega) (by omega), kk V 7 (by omega) (by omega) (by omega) (by omega) (by omega) (by omega) (by omega) (by omega), kk U 7 (by omega) (by omega) (by omega) (by omega) (by omega) (by omega) (by omega) (by omega), (v6 _ hwn).1, (u6 _ hwn).1, (v6 _ hwn).2, (u6 _ hwn).2, v1 6 (by omega), u1 6 (by omega), v1 7 (by omega), u1 7 (by omega)]
  exact ⟨rfl, rfl, rfl, rfl, rfl, rfl, rfl⟩
/-- one memory for the class that has this line laid and these bags -/
def gc (X : ax_Mem) (rows : Int) (rf : Nat → Int) (mb : Int) (w : Nat → Int) : ax_Mem := fun k => if k < 40 then X k else if k = 40 then (fun _ => X 2 7) else if k = 41 then w else if k = 44 then (fun j => if j = 10 then rows else X 1 2) else if k = 45 then rf else if k = 46 then (fun p => min (X 8 p) mb) else fun _ => 0
theorem gc_gv (X : ax_Mem) (rows : Int) (rf : Nat → Int) (mb : Int) (w : Nat → Int) : GV X (gc X rows rf mb w) rows rf mb w := by
  refine ⟨fun k hk => by unfold gc; rw [if_pos hk], rfl, fun _ _ => rfl, rfl, rfl, fun _ _ => ⟨rfl, rfl⟩⟩
def TG (X : ax_Mem) (rows : Int) (rf : Nat → Int) (mb : Int) (w : Nat → Int) : Nat := bT (gc X rows rf mb w)
theorem TG_eq {X V : ax_Mem} {rows mb : Int} {w rf : Nat → Int} (hw : WP X) (hr : 1 ≤ rows ∧ rows ≤ 12) (hrf : ∀ p : Nat, (p : Int) < X 2 7 → 0 ≤ rf p) (hm : 0 ≤ mb ∧ mb ≤ 3) (hv : GV X V rows rf mb w) (hp : PM (X 2 7).toNat w) : bT V = TG X rows rf mb w ∧ EE (bE V) (bE (gc X rows rf mb w)) := (ee_run 9999 0 1 0 _ _ (gv_WB hw hr hrf hm hv hp) (gv_ee hw hv (gc_gv X rows rf mb w) hp))
def TT (X : ax_Mem) (mb : Int) (w : Nat → Int) : Nat := TG X (X 1 0) (X 5) mb w
theorem TT_ee {X V : ax_Mem} {mb : Int} {w : Nat → Int} (hw : WP X) (hr2 : 2 ≤ X 1 0) (hm : 0 ≤ mb ∧ mb ≤ 3) (hv : VW X V mb w) (hp : PM (X 2 7).toNat w) : bT V = TT X mb w ∧ EE (bE V) (bE (gc X (X 1 0) (X 5) mb w)) := TG_eq hw (by have := hw.2.1; omega) (fun p hpp => (hw.2.2 p hpp).2.2.1.1) hm hv.g hp
theorem TT_eq {X V : ax_Mem} {mb : Int} {w : Nat → Int} (hw : WP X) (hr2 : 2 ≤ X 1 0) (hm : 0 ≤ mb ∧ mb ≤ 3) (hv : VW X V mb w) (hp : PM (X 2 7).toNat w) : bT V = TT X mb w := (TT_ee hw hr2 hm hv hp).1
theorem TG_le (X : ax_Mem) (rows : Int) (rf : Nat → Int) (mb : Int) (w : Nat → Int) : TG X rows rf mb w ≤ 9999 := bT_le _
theorem TT_le (X : ax_Mem) (mb : Int) (w : Nat → Int) : TT X mb w ≤ 9999 := bT_le _
/-- the line's first places alone count -/
theorem TG_w {X : ax_Mem} {rows mb : Int} {w w2 rf : Nat → Int} (hw : WP X) (hr : 1 ≤ rows ∧ rows ≤ 12) (hrf : ∀ p : Nat, (p : Int) < X 2 7 → 0 ≤ rf p) (hm : 0 ≤ mb ∧ mb ≤ 3) (hp : PM (X 2 7).toNat w) (h : ∀ i, i < (X 2 7).toNat → w2 i = w i) : TG X rows rf mb w2 = TG X rows rf mb w := by
  refine (TG_eq hw hr hrf hm ?_ hp).1
  obtain ⟨a, b, c, d⟩ := gc_gv X rows rf mb w2
  exact ⟨a, b, fun i hi => (c i hi).trans (h i (by omega)), d⟩
theorem TT_w {X : ax_Mem} {mb : Int} {w w2 : Nat → Int} (hw : WP X) (hr2 : 2 ≤ X 1 0) (hm : 0 ≤ mb ∧ mb ≤ 3) (hp : PM (X 2 7).toNat w) (h : ∀ i, i < (X 2 7).toNat → w2 i = w i) : TT X mb w2 = TT X mb w := TG_w hw (by have := hw.2.1; omega) (fun p hpp => (hw.2.2 p hpp).2.2.1.1) hm hp h
/-- what board() tells, by people, bags and line alone -/
theorem bW_eq {X V : ax_Mem} {mb : Int} {w : Nat → Int} {what : Int} (hw : WP X) (hr2 : 2 ≤ X 1 0) (hm : 0 ≤ mb ∧ mb ≤ 3) (hv : VW X V mb w) (hp : PM (X 2 7).toNat w) : bW V what = bW (gc X (X 1 0) (X 5) mb w) what := by
  have hc : VW X (gc X (X 1 0) (X 5) mb w) mb w := gc_gv X (X 1 0) (X 5) mb w
  obtain ⟨e1, e2⟩ := TT_ee hw hr2 hm hv hp
  obtain ⟨e12, e47⟩ := bE_47 hw hv hp
  unfold bW
  rw [bE_sec hw hr2 hm hv hp, bE_sec hw hr2 hm hc hp, e1, e2.1.2.2.2, hv.2.1, hc.2.1]
  rw [show sm (bE V 51) (X 2 7).toNat = sm (bE (gc X (X 1 0) (X 5) mb w) 51) (X 2 7).toNat from ?_]
  · rfl
  · refine sm_eq _ (fun p hpp => ?_)
    obtain ⟨i, hi, e⟩ := hp.2.2 p hpp
    have := (e2.2.1 i (by omega)).2.2.2.2.2.2.2
    rw [e47 i hi, e, Int.toNat_natCast] at this
    exact this
