/-! the class: boarding, second by second. Pure functions over the class's memory -/
def bo_bin (p : Nat) (X : ax_Mem) : Int := nb (X 48) (X 44 10) (X 45 p) (X 44 10).toNat 0
def bo_bag (p j : Nat) (X : ax_Mem) : ax_Mem := if bo_bin p X = -1 then ax_u (ax_u X (54 + p) j (bo_bin p X)) 44 14 (X 44 14 + 1) else ax_u (ax_u X (54 + p) j (bo_bin p X)) 48 (bo_bin p X).toNat (X 48 (bo_bin p X).toNat - 1)
def bo_cost (p : Nat) (X : ax_Mem) : Int := if bo_bin p X = -1 then 5 else 4 + 2 * ax_abs (bo_bin p X - X 45 p)
def bo_bags (p : Nat) : Nat → ax_Mem → ax_Mem
  | 0, X => X
  | n + 1, X => bo_bag p n (bo_bags p n X)
def bo_time (p : Nat) : Nat → ax_Mem → Int
  | 0, _ => 0
  | n + 1, X => bo_time p n X + bo_cost p (bo_bags p n X)
def bo_iw (p : Nat) (X : ax_Mem) : Int := iw (X 47) (X 50) (X 45) (X 6) (X 7) p (X 44 12).toNat
def bo_tts (p : Nat) (X : ax_Mem) : Int := 3 * bo_iw p X + bo_time p (X 46 p).toNat X
def bo_sit (s : Int) (p k : Nat) (X : ax_Mem) : ax_Mem := if X 49 p = 0 then ax_u (ax_u (ax_u (ax_u X 53 k (-1)) 50 p s) 44 13 (X 44 13 + 1)) 44 15 s else X
def bo_dec (k : Nat) (X : ax_Mem) : ax_Mem := ax_u X 49 (X 53 k).toNat (X 49 (X 53 k).toNat - 1)
def bo_beg (k : Nat) (X : ax_Mem) : ax_Mem := ax_u (bo_bags (X 53 k).toNat (X 46 (X 53 k).toNat).toNat X) 49 (X 53 k).toNat (bo_tts (X 53 k).toNat X)
def bo_mov (k : Nat) (X : ax_Mem) : ax_Mem := ax_u (ax_u X 53 (k + 1) (X 53 k)) 53 k (-1)
def bo_wai (k : Nat) (X : ax_Mem) : ax_Mem := ax_u X 51 (X 53 k).toNat (X 51 (X 53 k).toNat + 1)
def bo_cell (s : Int) (k : Nat) (X : ax_Mem) : ax_Mem :=
  if X 53 k = -1 then X
  else if 0 < X 49 (X 53 k).toNat then bo_sit s (X 53 k).toNat k (bo_dec k X)
  else if X 45 (X 53 k).toNat = k then bo_sit s (X 53 k).toNat k (bo_beg k X)
  else if (k : Int) + 1 < X 44 10 ∧ X 53 (k + 1) = -1 then bo_mov k X
  else bo_wai k X
def bo_on (s : Int) : Nat → ax_Mem → ax_Mem
  | 0, X => X
  | n + 1, X => bo_on s n (bo_cell s n X)
def occ (f : Nat → Int) : Nat → Int
  | 0 => 0
  | n + 1 => occ f n + (if f n = -1 then 0 else 1)
def WB (N : Int) (cm : Nat) (X : ax_Mem) : Prop :=
  (1 ≤ X 44 10 ∧ X 44 10 ≤ 12) ∧ (0 ≤ X 44 12 ∧ X 44 12 ≤ 12) ∧ ((cm : Int) ≤ X 44 12) ∧
  (∀ i : Nat, (i : Int) < X 44 12 → (0 ≤ X 47 i ∧ X 47 i < 12) ∧ (0 ≤ X 45 (X 47 i).toNat ∧ X 45 (X 47 i).toNat < X 44 10) ∧ (0 ≤ X 46 (X 47 i).toNat ∧ X 46 (X 47 i).toNat ≤ 3) ∧ (0 ≤ X 49 (X 47 i).toNat ∧ X 49 (X 47 i).toNat ≤ 200) ∧ (0 ≤ X 51 (X 47 i).toNat ∧ X 51 (X 47 i).toNat ≤ N) ∧ (cm ≤ i → X 49 (X 47 i).toNat = 0)) ∧
  (∀ i j : Nat, (i : Int) < X 44 12 → (j : Int) < X 44 12 → X 47 i = X 47 j → i = j) ∧
  (∀ k : Nat, k < 12 → X 53 k = -1 ∨ ∃ i : Nat, i < cm ∧ X 53 k = X 47 i ∧ (k : Int) ≤ X 45 (X 53 k).toNat) ∧
  (∀ k l : Nat, k < 12 → l < 12 → X 53 k = X 53 l → X 53 k = -1 ∨ k = l) ∧
  (0 ≤ X 44 14 ∧ X 44 14 ≤ N) ∧ X 44 13 + occ (X 53) 12 = cm ∧ (0 ≤ X 44 13)
theorem occ_set {f g : Nat → Int} {k : Nat} (hg : ∀ j, j ≠ k → g j = f j) : ∀ n, occ g n = occ f n + (if k < n then (if g k = -1 then 0 else 1) - (if f k = -1 then 0 else 1) else 0)
  | 0 => by simp [occ]
  | n + 1 => by
    have ih := occ_set hg n
    simp only [occ, ih]
    by_cases h : n = k
    · subst h
      simp
      omega
    · rw [hg n h]
      by_cases h2 : k < n
      · rw [if_pos h2, if_pos (show k < n + 1 by omega)]; omega
      · rw [if_neg h2, if_neg (show ¬ k < n + 1 by omega)]; omega
theorem occ_0 (f : Nat → Int) : ∀ n, 0 ≤ occ f n
  | 0 => by simp [occ]
  | n + 1 => by have := occ_0 f n; simp only [occ]; split <;> omega
theorem wb_at {N : Int} {cm k : Nat} {X : ax_Mem} (h : WB N cm X) (hk : k < 12) (hne : ¬ X 53 k = -1) : ∃ i : Nat, i < cm ∧ (i : Int) < X 44 12 ∧ X 53 k = X 47 i ∧ (0 ≤ X 53 k ∧ X 53 k < 12) ∧ ((k : Int) ≤ X 45 (X 53 k).toNat ∧ X 45 (X 53 k).toNat < X 44 10) ∧ (0 ≤ X 46 (X 53 k).toNat ∧ X 46 (X 53 k).toNat ≤ 3) ∧ (0 ≤ X 49 (X 53 k).toNat ∧ X 49 (X 53 k).toNat ≤ 200) ∧ (0 ≤ X 51 (X 53 k).toNat ∧ X 51 (X 53 k).toNat ≤ N) := by
  obtain ⟨h1, h2, h3, h4, h5, h6, h7, h8, h9, h10⟩ := h
  rcases h6 k hk with e | ⟨i, hi, e, hr⟩
  · exact absurd e hne
  · have h4i := h4 i (by omega)
    rw [← e] at h4i
    exact ⟨i, hi, by omega, e, h4i.1, ⟨hr, h4i.2.1.2⟩, h4i.2.2.1, h4i.2.2.2.1, h4i.2.2.2.2.1⟩
theorem wb_mono {N N' : Int} {cm : Nat} {X : ax_Mem} (h : WB N cm X) (hN : N ≤ N') : WB N' cm X := by
  obtain ⟨h1, h2, h3, h4, h5, h6, h7, h8, h9, h10⟩ := h
  refine ⟨h1, h2, h3, fun i hi => ?_, h5, h6, h7, ⟨h8.1, by omega⟩, h9, h10⟩
  have := h4 i hi
  exact ⟨this.1, this.2.1, this.2.2.1, this.2.2.2.1, ⟨this.2.2.2.2.1.1, by omega⟩, this.2.2.2.2.2⟩
/-- busy of one who stands in the aisle -/
theorem wb_busy {N : Int} {cm k : Nat} {X : ax_Mem} {v : Int} (h : WB N cm X) (hk : k < 12) (hne : ¬ X 53 k = -1) (hv : 0 ≤ v ∧ v ≤ 200) : WB N cm (ax_u X 49 (X 53 k).toNat v) := by
  obtain ⟨i0, hi0, hi1, e0, hp, -⟩ := wb_at h hk hne
  obtain ⟨h1, h2, h3, h4, h5, h6, h7, h8, h9, h10⟩ := h
  refine ⟨h1, h2, h3, fun i hi => ?_, h5, h6, h7, h8, h9, h10⟩
  have h4i := h4 i hi
  refine ⟨h4i.1, h4i.2.1, h4i.2.2.1, ?_, h4i.2.2.2.2.1, fun hc => ?_⟩
  · show 0 ≤ ax_u X 49 (X 53 k).toNat v 49 (X 47 i).toNat ∧ ax_u X 49 (X 53 k).toNat v 49 (X 47 i).toNat ≤ 200
    rw [ax_uu]
    split
    · exact hv
    · exact h4i.2.2.2.1
  · show ax_u X 49 (X 53 k).toNat v 49 (X 47 i).toNat = 0
    rw [ax_uu, if_neg, h4i.2.2.2.2.2 hc]
    intro hq
    have : X 47 i = X 47 i0 := by have := h4i.1; omega
    have := h5 i i0 hi hi1 this
    omega
theorem wb_sit {N : Int} {cm k : Nat} {X : ax_Mem} {s : Int} (h : WB N cm X) (hk : k < 12) (hne : ¬ X 53 k = -1) : WB N cm (bo_sit s (X 53 k).toNat k X) := by
  unfold bo_sit
  split
  · obtain ⟨h1, h2, h3, h4, h5, h6, h7, h8, h9, h10⟩ := h
    have a53 : ∀ j, (ax_u (ax_u (ax_u (ax_u X 53 k (-1)) 50 (X 53 k).toNat s) 44 13 (X 44 13 + 1)) 44 15 s) 53 j = if j = k then -1 else X 53 j := fun j => ax_uu X 53 k j (-1)
    refine ⟨h1, h2, h3, h4, h5, fun l hl => ?_, fun l q hl hq e => ?_, h8, ?_, ?_⟩
    · rw [a53]
      by_cases hlk : l = k
      · rw [if_pos hlk]; exact Or.inl rfl
      · rw [if_neg hlk]; exact h6 l hl
    · rw [a53, a53] at e
      rw [a53]
      by_cases hlk : l = k
      · rw [if_pos hlk]; exact Or.inl rfl
      · rw [if_neg hlk] at e ⊢
        by_cases hqk : q = k
        · rw [if_pos hqk] at e; exact Or.inl e
        · rw [if_neg hqk] at e; exact h7 l q hl hq e
    · show X 44 13 + 1 + occ _ 12 = cm
      have := occ_set (f := X 53) (g := (ax_u (ax_u (ax_u (ax_u X 53 k (-1)) 50 (X 53 k).toNat s) 44 13 (X 44 13 + 1)) 44 15 s) 53) (k := k) (fun j hj => by rw [a53, if_neg hj]) 12
      rw [this, if_pos hk, a53, if_pos rfl, if_pos rfl, if_neg hne]
      omega
    · show 0 ≤ X 44 13 + 1
      omega
  · exact h
/-- what a bag changes: its bin, one place of LEFT, BELOW -/
theorem bo_bag_k {p j a : Nat} {X : ax_Mem} (h1 : a ≠ 44) (h2 : a ≠ 48) (h3 : a ≠ 54 + p) : bo_bag p j X a = X a := by
  unfold bo_bag
  split
  · rw [ax_u_cell h1, ax_u_cell h3]
  · rw [ax_u_cell h2, ax_u_cell h3]
theorem bo_bag_44 {p j b : Nat} {X : ax_Mem} (h : b ≠ 14) : bo_bag p j X 44 b = X 44 b := by
  unfold bo_bag
  split
  · rw [ax_us h, ax_u_cell (by omega)]
  · rw [ax_u_cell (by omega), ax_u_cell (by omega)]
theorem bo_bag_14 {p j : Nat} {X : ax_Mem} : X 44 14 ≤ bo_bag p j X 44 14 ∧ bo_bag p j X 44 14 ≤ X 44 14 + 1 := by
  unfold bo_bag
  split
  · rw [ax_uu, if_pos rfl]; omega
  · rw [ax_u_cell (by omega), ax_u_cell (by omega)]; omega
theorem bo_bags_k {p a : Nat} {X : ax_Mem} (h1 : a ≠ 44) (h2 : a ≠ 48) (h3 : a ≠ 54 + p) : ∀ n, bo_bags p n X a = X a
  | 0 => rfl
  | n + 1 => by simp only [bo_bags]; rw [bo_bag_k h1 h2 h3, bo_bags_k h1 h2 h3 n]
theorem bo_bags_44 {p b : Nat} {X : ax_Mem} (h : b ≠ 14) : ∀ n, bo_bags p n X 44 b = X 44 b
  | 0 => rfl
  | n + 1 => by simp only [bo_bags]; rw [bo_bag_44 h, bo_bags_44 h n]
theorem bo_bags_14 {p : Nat} {X : ax_Mem} : ∀ n : Nat, X 44 14 ≤ bo_bags p n X 44 14 ∧ bo_bags p n X 44 14 ≤ X 44 14 + n
  | 0 => by simp [bo_bags]
  | n + 1 => by
    have h1 := bo_bags_14 (p := p) (X := X) n
    have h2 := bo_bag_14 (p := p) (j := n) (X := bo_bags p n X)
    simp only [bo_bags]
    omega
theorem bo_bin_b {p : Nat} {X : ax_Mem} (h0 : 0 ≤ X 45 p) (h1 : X 45 p < X 44 10) (h2 : X 44 10 ≤ 12) : bo_bin p X = -1 ∨ (0 ≤ bo_bin p X ∧ bo_bin p X < 12 ∧ 0 < X 48 (bo_bin p X).toNat) := by
  rcases nb_b (X 48) (X 44 10) (X 45 p) (by omega) h0 h1 h2 (X 44 10).toNat 0 (by omega) with h | h
  · exact Or.inl h
  · exact Or.inr ⟨h.1, by have := h.2.1; unfold bo_bin; omega, h.2.2⟩
theorem bo_cost_b {p : Nat} {X : ax_Mem} (h0 : 0 ≤ X 45 p) (h1 : X 45 p < X 44 10) (h2 : X 44 10 ≤ 12) : 4 ≤ bo_cost p X ∧ bo_cost p X ≤ 26 := by
  have := bo_bin_b h0 h1 h2
  unfold bo_cost ax_abs
  split
  · omega
  · split <;> omega
theorem bo_time_b {p : Nat} {X : ax_Mem} (h0 : 0 ≤ X 45 p) (h1 : X 45 p < X 44 10) (h2 : X 44 10 ≤ 12) : ∀ n : Nat, 0 ≤ bo_time p n X ∧ bo_time p n X ≤ 26 * n
  | 0 => by simp [bo_time]
  | n + 1 => by
    have a1 := bo_time_b h0 h1 h2 n
    have e1 : bo_bags p n X 45 p = X 45 p := by rw [bo_bags_k (by omega) (by omega) (by omega)]
    have e2 : bo_bags p n X 44 10 = X 44 10 := bo_bags_44 (by omega) n
    have a2 := bo_cost_b (p := p) (X := bo_bags p n X) (by omega) (by omega) (by omega)
    simp only [bo_time]
    omega
theorem wb_bags {N : Int} {cm p : Nat} {X : ax_Mem} (h : WB N cm X) (hp : p < 12) (n : Nat) : WB (N + n) cm (bo_bags p n X) := by
  have h' := wb_mono h (N' := N + n) (by omega)
  obtain ⟨h1, h2, h3, h4, h5, h6, h7, h8, h9, h10⟩ := h'
  have k45 : bo_bags p n X 45 = X 45 := bo_bags_k (by omega) (by omega) (by omega) n
  have k46 : bo_bags p n X 46 = X 46 := bo_bags_k (by omega) (by omega) (by omega) n
  have k47 : bo_bags p n X 47 = X 47 := bo_bags_k (by omega) (by omega) (by omega) n
  have k49 : bo_bags p n X 49 = X 49 := bo_bags_k (by omega) (by omega) (by omega) n
  have k51 : bo_bags p n X 51 = X 51 := bo_bags_k (by omega) (by omega) (by omega) n
  have k53 : bo_bags p n X 53 = X 53 := bo_bags_k (by omega) (by omega) (by omega) n
  have q10 : bo_bags p n X 44 10 = X 44 10 := bo_bags_44 (by omega) n
  have q12 : bo_bags p n X 44 12 = X 44 12 := bo_bags_44 (by omega) n
  have q13 : bo_bags p n X 44 13 = X 44 13 := bo_bags_44 (by omega) n
  have q14 := bo_bags_14 (p := p) (X := X) n
  have hb := h.2.2.2.2.2.2.2.1
  unfold WB
  rw [k45, k46, k47, k49, k51, k53, q10, q12, q13]
  exact ⟨h1, h2, h3, h4, h5, h6, h7, ⟨by omega, by omega⟩, h9, h10⟩
theorem bo_iw_b (p : Nat) (X : ax_Mem) (h0 : 0 ≤ X 44 12) (h : X 44 12 ≤ 12) : 0 ≤ bo_iw p X ∧ bo_iw p X ≤ 12 := by
  have := iw_b (X 47) (X 50) (X 45) (X 6) (X 7) p (X 44 12).toNat
  unfold bo_iw
  omega
theorem bo_tts_b {N : Int} {cm k : Nat} {X : ax_Mem} (h : WB N cm X) (hk : k < 12) (hne : ¬ X 53 k = -1) : 0 ≤ bo_tts (X 53 k).toNat X ∧ bo_tts (X 53 k).toNat X ≤ 120 := by
  obtain ⟨i0, hi0, hi1, e0, hp, hr, hb, -⟩ := wb_at h hk hne
  have a1 := bo_iw_b (X 53 k).toNat X h.2.1.1 h.2.1.2
  have a2 := bo_time_b (p := (X 53 k).toNat) (X := X) (by omega) hr.2 h.1.2 (X 46 (X 53 k).toNat).toNat
  unfold bo_tts
  omega
theorem wb_mov {N : Int} {cm k : Nat} {X : ax_Mem} (h : WB N cm X) (hk : k + 1 < 12) (hne : ¬ X 53 k = -1) (hr : ¬ X 45 (X 53 k).toNat = k) (he : X 53 (k + 1) = -1) : WB N cm (bo_mov k X) := by
  obtain ⟨i0, hi0, hi1, e0, hp, hrw, -⟩ := wb_at h (by omega) hne
  obtain ⟨h1, h2, h3, h4, h5, h6, h7, h8, h9, h10⟩ := h
  have a53 : ∀ j, bo_mov k X 53 j = if j = k then -1 else if j = k + 1 then X 53 k else X 53 j := by
    intro j
    unfold bo_mov
    rw [ax_uu, ax_uu]
  refine ⟨h1, h2, h3, h4, h5, fun l hl => ?_, fun l q hl hq e => ?_, h8, ?_, h10⟩
  · show bo_mov k X 53 l = -1 ∨ ∃ i : Nat, i < cm ∧ bo_mov k X 53 l = X 47 i ∧ (l : Int) ≤ X 45 (bo_mov k X 53 l).toNat
    rw [a53]
    by_cases c1 : l = k
    · rw [if_pos c1]; exact Or.inl rfl
    · rw [if_neg c1]
      by_cases c2 : l = k + 1
      · rw [if_pos c2]; exact Or.inr ⟨i0, hi0, e0, by omega⟩
      · rw [if_neg c2]; exact h6 l hl
  · rw [a53, a53] at e
    rw [a53]
    by_cases c1 : l = k
    · rw [if_pos c1]; exact Or.inl rfl
    · rw [if_neg c1] at e ⊢
      by_cases d1 : q = k
      · rw [if_pos d1] at e; exact Or.inl e
      · rw [if_neg d1] at e
        by_cases c2 : l = k + 1
        · rw [if_pos c2] at e ⊢
          by_cases d2 : q = k + 1
          · exact Or.inr (by omega)
          · rw [if_neg d2] at e
            rcases h7 k q (by omega) hq e with z | z
            · exact absurd z hne
            · omega
        · rw [if_neg c2] at e ⊢
          by_cases d2 : q = k + 1
          · rw [if_pos d2] at e
            rcases h7 l k hl (by omega) e with z | z
            · exact Or.inl z
            · omega
          · rw [if_neg d2] at e; exact h7 l q hl hq e
  · show X 44 13 + occ (bo_mov k X 53) 12 = cm
    have e1 := occ_set (f := X 53) (g := ax_u X 53 (k + 1) (X 53 k) 53) (k := k + 1) (fun j hj => ax_us hj) 12
    have e2 := occ_set (f := ax_u X 53 (k + 1) (X 53 k) 53) (g := bo_mov k X 53) (k := k) (fun j hj => ax_us hj) 12
    rw [if_pos hk, ax_uu, if_pos rfl, if_neg hne, if_pos he] at e1
    rw [if_pos (show k < 12 by omega), a53, if_pos rfl, if_pos rfl, ax_us (show k ≠ k + 1 by omega), if_neg hne] at e2
    omega
theorem wb_wai {N : Int} {cm k : Nat} {X : ax_Mem} (h : WB N cm X) (hk : k < 12) (hne : ¬ X 53 k = -1) : WB (N + 1) cm (bo_wai k X) := by
  obtain ⟨i0, hi0, hi1, e0, hp, hrw, -, -, hw⟩ := wb_at h (by omega) hne
  obtain ⟨h1, h2, h3, h4, h5, h6, h7, h8, h9, h10⟩ := wb_mono h (N' := N + 1) (by omega)
  refine ⟨h1, h2, h3, fun i hi => ?_, h5, h6, h7, h8, h9, h10⟩
  have h4i := h4 i hi
  refine ⟨h4i.1, h4i.2.1, h4i.2.2.1, h4i.2.2.2.1, ?_, h4i.2.2.2.2.2⟩
  show 0 ≤ bo_wai k X 51 (X 47 i).toNat ∧ bo_wai k X 51 (X 47 i).toNat ≤ N + 1
  unfold bo_wai
  rw [ax_uu]
  split
  · omega
  · exact h4i.2.2.2.2.1
theorem bo_beg_53 (k : Nat) (X : ax_Mem) : bo_beg k X 53 = X 53 := by
  unfold bo_beg
  rw [ax_u_cell (by omega)]
  by_cases h : 53 = 54 + (X 53 k).toNat
  · omega
  · exact bo_bags_k (by omega) (by omega) h _
theorem wb_beg {N : Int} {cm k : Nat} {X : ax_Mem} (h : WB N cm X) (hk : k < 12) (hne : ¬ X 53 k = -1) : WB (N + 3) cm (bo_beg k X) := by
  obtain ⟨i0, hi0, hi1, e0, hp, hrw, hb, -⟩ := wb_at h (by omega) hne
  have ht := bo_tts_b h hk hne
  have hw := wb_mono (wb_bags h (p := (X 53 k).toNat) (by omega) (X 46 (X 53 k).toNat).toNat) (N' := N + 3) (by omega)
  have e53 : bo_bags (X 53 k).toNat (X 46 (X 53 k).toNat).toNat X 53 = X 53 := bo_bags_k (by omega) (by omega) (by omega) _
  have := wb_busy (k := k) (v := bo_tts (X 53 k).toNat X) hw hk (by rw [e53]; exact hne) ⟨by omega, by omega⟩
  rw [e53] at this
  exact this
theorem wb_dec {N : Int} {cm k : Nat} {X : ax_Mem} (h : WB N cm X) (hk : k < 12) (hne : ¬ X 53 k = -1) (hb : 0 < X 49 (X 53 k).toNat) : WB N cm (bo_dec k X) := by
  obtain ⟨i0, hi0, hi1, e0, hp, hrw, -, hbb, -⟩ := wb_at h (by omega) hne
  exact wb_busy h hk hne ⟨by omega, by omega⟩
theorem wb_cell {N : Int} {cm k : Nat} {X : ax_Mem} (s : Int) (h : WB N cm X) (hk : (k : Int) < X 44 10) : WB (N + 3) cm (bo_cell s k X) := by
  have hk12 : k < 12 := by have := h.1; omega
  unfold bo_cell
  split
  · exact wb_mono h (by omega)
  · rename_i hne
    split
    · rename_i hb
      exact wb_mono (wb_sit (k := k) (wb_dec h hk12 hne hb) hk12 hne) (by omega)
    · split
      · have hw := wb_beg h hk12 hne
        have e := bo_beg_53 k X
        have := wb_sit (k := k) (s := s) hw hk12 (by rw [e]; exact hne)
        rw [e] at this
        exact this
      · rename_i hr
        split
        · rename_i hm
          exact wb_mono (wb_mov h (by have := h.1; omega) hne hr hm.2) (by omega)
        · exact wb_mono (wb_wai h hk12 hne) (by omega)
theorem bo_sit_10 (s : Int) (p k : Nat) (X : ax_Mem) : bo_sit s p k X 44 10 = X 44 10 := by
  unfold bo_sit
  split <;> rfl
theorem bo_cell_10 (s : Int) (k : Nat) (X : ax_Mem) : bo_cell s k X 44 10 = X 44 10 := by
  unfold bo_cell
  split
  · rfl
  · split
    · rw [bo_sit_10]; rfl
    · split
      · rw [bo_sit_10]
        unfold bo_beg
        rw [ax_u_cell (by omega), bo_bags_44 (by omega)]
      · split <;> rfl
theorem wb_on {cm : Nat} (s : Int) : ∀ (n : Nat) (N : Int) (X : ax_Mem), WB N cm X → (n : Int) ≤ X 44 10 → WB (N + 3 * n) cm (bo_on s n X)
  | 0, N, X, h, _ => wb_mono h (by omega)
  | n + 1, N, X, h, hn => by
    have h1 := wb_cell s h (k := n) (by omega)
    have h2 := wb_on s n (N + 3) (bo_cell s n X) h1 (by rw [bo_cell_10]; omega)
    exact wb_mono h2 (by omega)
