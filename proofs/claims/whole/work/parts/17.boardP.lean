/-! boarding ends: a measure over the cells of the aisle -/
def sm (c : Nat → Int) : Nat → Int
  | 0 => 0
  | n + 1 => sm c n + c n
theorem sm_set {c d : Nat → Int} {k : Nat} (hd : ∀ j, j ≠ k → d j = c j) : ∀ n, sm d n = sm c n + (if k < n then d k - c k else 0)
  | 0 => by simp [sm]
  | n + 1 => by
    have ih := sm_set hd n
    simp only [sm, ih]
    by_cases h : n = k
    · subst h
      rw [if_neg (Nat.lt_irrefl n), if_pos (Nat.lt_succ_self n)]
      omega
    · rw [hd n h]
      by_cases h2 : k < n
      · rw [if_pos h2, if_pos (show k < n + 1 by omega)]; omega
      · rw [if_neg h2, if_neg (show ¬ k < n + 1 by omega)]; omega
theorem sm_le {c d : Nat → Int} : ∀ n, (∀ j, j < n → c j ≤ d j) → sm c n ≤ sm d n
  | 0, _ => by simp [sm]
  | n + 1, h => by
    have := sm_le n (fun j hj => h j (by omega))
    have := h n (by omega)
    simp only [sm]
    omega
theorem sm_eq {c d : Nat → Int} : ∀ n, (∀ j, j < n → c j = d j) → sm c n = sm d n
  | 0, _ => by simp [sm]
  | n + 1, h => by
    have := sm_eq n (fun j hj => h j (by omega))
    have := h n (by omega)
    simp only [sm]
    omega
/-- what is still to do by the one who stands at k -/
def cpf (a row b : Nat → Int) (k : Nat) : Int := if a k = -1 then 0 else (row (a k).toNat - k) + (if 0 < b (a k).toNat then b (a k).toNat else 201)
def pot (X : ax_Mem) : Int := sm (cpf (X 53) (X 45) (X 49)) 12
theorem cpf_b {N : Int} {cm k : Nat} {X : ax_Mem} (h : WB N cm X) (hk : k < 12) : 0 ≤ cpf (X 53) (X 45) (X 49) k ∧ cpf (X 53) (X 45) (X 49) k ≤ 212 ∧ (¬ X 53 k = -1 → 0 < cpf (X 53) (X 45) (X 49) k) := by
  unfold cpf
  by_cases c : X 53 k = -1
  · rw [if_pos c]; exact ⟨by omega, by omega, fun z => absurd c z⟩
  · obtain ⟨i0, hi0, hi1, e0, hpp, hrw, hbg, hbs, hwt⟩ := wb_at h hk c
    have := h.1
    rw [if_neg c]
    split <;> omega
theorem pot_0 {N : Int} {cm : Nat} {X : ax_Mem} (h : WB N cm X) : 0 ≤ pot X := by
  have := sm_le (c := fun _ => 0) (d := cpf (X 53) (X 45) (X 49)) 12 (fun j hj => (cpf_b h hj).1)
  have e : sm (fun _ => 0) 12 = 0 := rfl
  unfold pot
  omega
/-- others than the one at k: their part stays, whatever its busy becomes -/
theorem cpf_other {N : Int} {cm k j : Nat} {X : ax_Mem} {v : Int} (h : WB N cm X) (hk : k < 12) (hj : j < 12) (hne : ¬ X 53 k = -1) (hjk : j ≠ k) : cpf (X 53) (X 45) (ax_u X 49 (X 53 k).toNat v 49) j = cpf (X 53) (X 45) (X 49) j := by
  unfold cpf
  by_cases c : X 53 j = -1
  · rw [if_pos c, if_pos c]
  · obtain ⟨i0, hi0, hi1, e0, hpp, -⟩ := wb_at h hk hne
    obtain ⟨i1, hj0, hj1, e1, hqq, -⟩ := wb_at h hj c
    have : (X 53 j).toNat ≠ (X 53 k).toNat := by
      intro z
      rcases h.2.2.2.2.2.2.1 j k hj hk (by omega) with q | q
      · exact c q
      · exact hjk q
    rw [if_neg c, if_neg c, ax_us this]
theorem sm_set12 {c d : Nat → Int} {k : Nat} (hk : k < 12) (hd : ∀ j, j < 12 → j ≠ k → d j = c j) : sm d 12 = sm c 12 + (d k - c k) := by
  have e1 : sm d 12 = sm (fun j => if j = k then d k else c j) 12 := sm_eq 12 (fun j hj => by
    by_cases h : j = k
    · rw [h]; simp
    · simp only [h, if_false]; exact hd j hj h)
  have e2 := sm_set (c := c) (d := fun j => if j = k then d k else c j) (k := k) (fun j hj => by simp only [hj, if_false]) 12
  rw [if_pos hk] at e2
  simp only [if_true] at e2
  omega
theorem pot_busy {N : Int} {cm k : Nat} {X : ax_Mem} {v s : Int} (h : WB N cm X) (hk : k < 12) (hne : ¬ X 53 k = -1) (hv0 : 0 ≤ v) (hv : v < (if 0 < X 49 (X 53 k).toNat then X 49 (X 53 k).toNat else 201)) : pot (bo_sit s (X 53 k).toNat k (ax_u X 49 (X 53 k).toNat v)) < pot X := by
  have hpos := (cpf_b h hk).2.2 hne
  obtain ⟨i0, hi0, hi1, e0, hpp, hrw, -⟩ := wb_at h hk hne
  unfold pot
  have hbk : ax_u X 49 (X 53 k).toNat v 49 (X 53 k).toNat = v := ax_u_at X 49 (X 53 k).toNat v
  by_cases c : v = 0
  · have e : bo_sit s (X 53 k).toNat k (ax_u X 49 (X 53 k).toNat v) = ax_u (ax_u (ax_u (ax_u (ax_u X 49 (X 53 k).toNat v) 53 k (-1)) 50 (X 53 k).toNat s) 44 13 (X 44 13 + 1)) 44 15 s := by
      unfold bo_sit
      rw [if_pos (by rw [hbk]; exact c)]
      rfl
    rw [e]
    show sm (cpf (ax_u X 53 k (-1) 53) (X 45) (ax_u X 49 (X 53 k).toNat v 49)) 12 < _
    have e2 := sm_set12 (c := cpf (X 53) (X 45) (X 49)) (d := cpf (ax_u X 53 k (-1) 53) (X 45) (ax_u X 49 (X 53 k).toNat v 49)) hk (fun j hj hjk => by
      have e3 : ax_u X 53 k (-1) 53 j = X 53 j := ax_us hjk
      have := cpf_other (v := v) h hk hj hne hjk
      rw [← this]
      unfold cpf
      rw [e3])
    have e4 : cpf (ax_u X 53 k (-1) 53) (X 45) (ax_u X 49 (X 53 k).toNat v 49) k = 0 := by
      unfold cpf
      rw [if_pos (ax_u_at X 53 k (-1))]
    omega
  · have e : bo_sit s (X 53 k).toNat k (ax_u X 49 (X 53 k).toNat v) = ax_u X 49 (X 53 k).toNat v := by
      unfold bo_sit
      rw [if_neg (by rw [hbk]; exact c)]
    rw [e]
    show sm (cpf (X 53) (X 45) (ax_u X 49 (X 53 k).toNat v 49)) 12 < _
    have e2 := sm_set12 (c := cpf (X 53) (X 45) (X 49)) (d := cpf (X 53) (X 45) (ax_u X 49 (X 53 k).toNat v 49)) hk (fun j hj hjk => cpf_other h hk hj hne hjk)
    have e4 : cpf (X 53) (X 45) (ax_u X 49 (X 53 k).toNat v 49) k < cpf (X 53) (X 45) (X 49) k := by
      unfold cpf
      rw [if_neg hne, if_neg hne, hbk, if_pos (by omega)]
      omega
    omega
theorem pot_mov {N : Int} {cm k : Nat} {X : ax_Mem} (h : WB N cm X) (hk : k + 1 < 12) (hne : ¬ X 53 k = -1) (he : X 53 (k + 1) = -1) : pot (bo_mov k X) < pot X := by
  unfold pot
  show sm (cpf (bo_mov k X 53) (X 45) (X 49)) 12 < _
  have e1 := sm_set12 (c := cpf (X 53) (X 45) (X 49)) (d := cpf (ax_u X 53 (k + 1) (X 53 k) 53) (X 45) (X 49)) hk (fun j hj hjk => by
    have : ax_u X 53 (k + 1) (X 53 k) 53 j = X 53 j := ax_us hjk
    unfold cpf
    rw [this])
  have e2 := sm_set12 (c := cpf (ax_u X 53 (k + 1) (X 53 k) 53) (X 45) (X 49)) (d := cpf (bo_mov k X 53) (X 45) (X 49)) (show k < 12 by omega) (fun j hj hjk => by
    have : bo_mov k X 53 j = ax_u X 53 (k + 1) (X 53 k) 53 j := ax_us hjk
    unfold cpf
    rw [this])
  have a1 : cpf (bo_mov k X 53) (X 45) (X 49) k = 0 := by
    unfold cpf
    rw [if_pos (show bo_mov k X 53 k = -1 from ax_u_at _ 53 k (-1))]
  have a2 : cpf (X 53) (X 45) (X 49) (k + 1) = 0 := by
    unfold cpf
    rw [if_pos he]
  have b1 : ax_u X 53 (k + 1) (X 53 k) 53 (k + 1) = X 53 k := ax_u_at X 53 (k + 1) (X 53 k)
  have b2 : ax_u X 53 (k + 1) (X 53 k) 53 k = X 53 k := ax_us (by omega)
  have a3 : cpf (ax_u X 53 (k + 1) (X 53 k) 53) (X 45) (X 49) (k + 1) = cpf (X 53) (X 45) (X 49) k - 1 := by
    unfold cpf
    rw [b1, if_neg hne, if_neg hne]
    omega
  have a4 : cpf (ax_u X 53 (k + 1) (X 53 k) 53) (X 45) (X 49) k = cpf (X 53) (X 45) (X 49) k := by
    unfold cpf
    rw [b2]
  omega
theorem pot_cell {N : Int} {cm k : Nat} {X : ax_Mem} (s : Int) (h : WB N cm X) (hk : (k : Int) < X 44 10) : pot (bo_cell s k X) ≤ pot X ∧ (¬ X 53 k = -1 → (∀ j, k < j → j < 12 → X 53 j = -1) → pot (bo_cell s k X) < pot X) := by
  have h1 := h.1
  have hk12 : k < 12 := by omega
  unfold bo_cell
  by_cases c1 : X 53 k = -1
  · rw [if_pos c1]; exact ⟨Int.le_refl _, fun z => absurd c1 z⟩
  · rw [if_neg c1]
    obtain ⟨i0, hi0, hi1, e0, hpp, hrw, hbg, hbs, hwt⟩ := wb_at h hk12 c1
    by_cases c2 : 0 < X 49 (X 53 k).toNat
    · rw [if_pos c2]
      have := pot_busy (s := s) (v := X 49 (X 53 k).toNat - 1) h hk12 c1 (by omega) (by rw [if_pos c2]; omega)
      exact ⟨Int.le_of_lt this, fun _ _ => this⟩
    · rw [if_neg c2]
      by_cases c3 : X 45 (X 53 k).toNat = k
      · rw [if_pos c3]
        have ht := bo_tts_b h hk12 c1
        have hw := wb_bags h (p := (X 53 k).toNat) (by omega) (X 46 (X 53 k).toNat).toNat
        have e53 : bo_bags (X 53 k).toNat (X 46 (X 53 k).toNat).toNat X 53 = X 53 := bo_bags_k (by omega) (by omega) (by omega) _
        have e45 : bo_bags (X 53 k).toNat (X 46 (X 53 k).toNat).toNat X 45 = X 45 := bo_bags_k (by omega) (by omega) (by omega) _
        have e49 : bo_bags (X 53 k).toNat (X 46 (X 53 k).toNat).toNat X 49 = X 49 := bo_bags_k (by omega) (by omega) (by omega) _
        have := pot_busy (k := k) (s := s) (v := bo_tts (X 53 k).toNat X) hw hk12 (by rw [e53]; exact c1) ht.1 (by rw [e53, e49, if_neg c2]; omega)
        have ep : pot (bo_bags (X 53 k).toNat (X 46 (X 53 k).toNat).toNat X) = pot X := by
          unfold pot
          rw [e53, e45, e49]
        rw [e53, ep] at this
        exact ⟨Int.le_of_lt this, fun _ _ => this⟩
      · rw [if_neg c3]
        by_cases c4 : (k : Int) + 1 < X 44 10 ∧ X 53 (k + 1) = -1
        · rw [if_pos c4]
          have := pot_mov h (by omega) c1 c4.2
          exact ⟨Int.le_of_lt this, fun _ _ => this⟩
        · rw [if_neg c4]
          refine ⟨Int.le_of_eq rfl, fun _ z => ?_⟩
          exact absurd ⟨by omega, z (k + 1) (by omega) (by omega)⟩ c4
theorem pot_on {cm : Nat} (s : Int) : ∀ (n : Nat) (N : Int) (X : ax_Mem), WB N cm X → (n : Int) ≤ X 44 10 → pot (bo_on s n X) ≤ pot X ∧ ((∀ j, n ≤ j → j < 12 → X 53 j = -1) → (∃ k, k < n ∧ ¬ X 53 k = -1) → pot (bo_on s n X) < pot X)
  | 0, N, X, h, _ => ⟨Int.le_refl _, fun _ ⟨k, hk, _⟩ => absurd hk (Nat.not_lt_zero k)⟩
  | n + 1, N, X, h, hn => by
    have h1 := wb_cell s h (k := n) (by omega)
    have h2 := pot_cell s h (k := n) (by omega)
    have h3 := pot_on s n (N + 3) (bo_cell s n X) h1 (by rw [bo_cell_10]; omega)
    refine ⟨Int.le_trans h3.1 h2.1, fun z ⟨k, hk, hkn⟩ => ?_⟩
    show pot (bo_on s n (bo_cell s n X)) < pot X
    by_cases c : X 53 n = -1
    · have e : bo_cell s n X = X := by unfold bo_cell; rw [if_pos c]
      rw [e] at h3 ⊢
      refine h3.2 (fun j hj hj2 => ?_) ⟨k, ?_, hkn⟩
      · by_cases hjn : j = n
        · rw [hjn]; exact c
        · exact z j (by omega) hj2
      · have : k ≠ n := fun q => hkn (by rw [q]; exact c)
        omega
    · have := h2.2 c (fun j hj hj2 => z j (by omega) hj2)
      omega
/-- nobody in the aisle: a second changes nothing -/
theorem bo_on_id (s : Int) : ∀ (n : Nat) (X : ax_Mem), (∀ j, j < n → X 53 j = -1) → bo_on s n X = X
  | 0, X, _ => rfl
  | n + 1, X, h => by
    have e : bo_cell s n X = X := by unfold bo_cell; rw [if_pos (h n (by omega))]
    show bo_on s n (bo_cell s n X) = X
    rw [e]
    exact bo_on_id s n X (fun j hj => h j (by omega))
theorem occ_pos {f : Nat → Int} : ∀ n, 0 < occ f n → ∃ k, k < n ∧ ¬ f k = -1
  | 0, h => by simp [occ] at h
  | n + 1, h => by
    simp only [occ] at h
    by_cases c : f n = -1
    · rw [if_pos c] at h
      obtain ⟨k, hk, hkn⟩ := occ_pos (f := f) n (by omega)
      exact ⟨k, by omega, hkn⟩
    · exact ⟨n, by omega, c⟩
theorem occ_zero {f : Nat → Int} : ∀ n, occ f n = 0 → ∀ k, k < n → f k = -1
  | 0, _, k, hk => absurd hk (Nat.not_lt_zero k)
  | n + 1, h, k, hk => by
    simp only [occ] at h
    have := occ_0 f n
    by_cases c : f n = -1
    · rw [if_pos c] at h
      by_cases hkn : k = n
      · rw [hkn]; exact c
      · exact occ_zero n (by omega) k (by omega)
    · rw [if_neg c] at h; omega
/-- what a cell's turn leaves as it was -/
theorem bo_cell_keep (s : Int) (k : Nat) (X : ax_Mem) {a : Nat} (h1 : a ≠ 44) (h2 : a ≠ 48) (h3 : a ≠ 49) (h4 : a ≠ 50) (h5 : a ≠ 51) (h6 : a ≠ 53) (h7 : a < 54) : bo_cell s k X a = X a := by
  have hsit : ∀ p k2 Z, bo_sit s p k2 Z a = Z a := by
    intro p k2 Z
    unfold bo_sit
    split
    · rw [ax_u_cell h1, ax_u_cell h1, ax_u_cell h4, ax_u_cell h6]
    · rfl
  unfold bo_cell
  split
  · rfl
  · split
    · rw [hsit]; unfold bo_dec; rw [ax_u_cell h3]
    · split
      · rw [hsit]; unfold bo_beg; rw [ax_u_cell h3, bo_bags_k h1 h2 (by omega)]
      · split
        · unfold bo_mov; rw [ax_u_cell h6, ax_u_cell h6]
        · unfold bo_wai; rw [ax_u_cell h5]
theorem bo_cell_12 (s : Int) (k : Nat) (X : ax_Mem) : bo_cell s k X 44 12 = X 44 12 ∧ bo_cell s k X 44 11 = X 44 11 := by
  have hsit : ∀ p k2 Z, bo_sit s p k2 Z 44 12 = Z 44 12 ∧ bo_sit s p k2 Z 44 11 = Z 44 11 := by
    intro p k2 Z
    unfold bo_sit
    split <;> exact ⟨rfl, rfl⟩
  unfold bo_cell
  split
  · exact ⟨rfl, rfl⟩
  · split
    · exact hsit _ _ _
    · split
      · have := hsit (X 53 k).toNat k (bo_beg k X)
        rw [this.1, this.2]
        unfold bo_beg
        rw [ax_u_cell (by omega), bo_bags_44 (by omega), bo_bags_44 (by omega)]
        exact ⟨rfl, rfl⟩
      · split <;> exact ⟨rfl, rfl⟩
/-- who sits in this second is told: seconds -/
theorem bo_cell_15 (s : Int) (k : Nat) (X : ax_Mem) : (bo_cell s k X 44 13 = X 44 13 ∧ bo_cell s k X 44 15 = X 44 15) ∨ (bo_cell s k X 44 13 = X 44 13 + 1 ∧ bo_cell s k X 44 15 = s) := by
  have hsit : ∀ p k2 Z, (bo_sit s p k2 Z 44 13 = Z 44 13 ∧ bo_sit s p k2 Z 44 15 = Z 44 15) ∨ (bo_sit s p k2 Z 44 13 = Z 44 13 + 1 ∧ bo_sit s p k2 Z 44 15 = s) := by
    intro p k2 Z
    unfold bo_sit
    split
    · exact Or.inr ⟨rfl, rfl⟩
    · exact Or.inl ⟨rfl, rfl⟩
  unfold bo_cell
  split
  · exact Or.inl ⟨rfl, rfl⟩
  · split
    · exact hsit _ _ _
    · split
      · have := hsit (X 53 k).toNat k (bo_beg k X)
        have e1 : bo_beg k X 44 13 = X 44 13 := by unfold bo_beg; rw [ax_u_cell (by omega), bo_bags_44 (by omega)]
        have e2 : bo_beg k X 44 15 = X 44 15 := by unfold bo_beg; rw [ax_u_cell (by omega), bo_bags_44 (by omega)]
        rw [e1, e2] at this
        exact this
      · split <;> exact Or.inl ⟨rfl, rfl⟩
theorem bo_on_keep (s : Int) {a : Nat} (h1 : a ≠ 44) (h2 : a ≠ 48) (h3 : a ≠ 49) (h4 : a ≠ 50) (h5 : a ≠ 51) (h6 : a ≠ 53) (h7 : a < 54) : ∀ (n : Nat) (X : ax_Mem), bo_on s n X a = X a
  | 0, _ => rfl
  | n + 1, X => by
    show bo_on s n (bo_cell s n X) a = X a
    rw [bo_on_keep s h1 h2 h3 h4 h5 h6 h7 n, bo_cell_keep s n X h1 h2 h3 h4 h5 h6 h7]
theorem bo_on_12 (s : Int) : ∀ (n : Nat) (X : ax_Mem), bo_on s n X 44 12 = X 44 12 ∧ bo_on s n X 44 11 = X 44 11 ∧ bo_on s n X 44 10 = X 44 10
  | 0, _ => ⟨rfl, rfl, rfl⟩
  | n + 1, X => by
    have h1 := bo_on_12 s n (bo_cell s n X)
    have h2 := bo_cell_12 s n X
    exact ⟨h1.1.trans h2.1, h1.2.1.trans h2.2, h1.2.2.trans (bo_cell_10 s n X)⟩
theorem bo_on_15 (s : Int) : ∀ (n : Nat) (X : ax_Mem), (bo_on s n X 44 13 = X 44 13 ∧ bo_on s n X 44 15 = X 44 15) ∨ (X 44 13 < bo_on s n X 44 13 ∧ bo_on s n X 44 15 = s)
  | 0, _ => Or.inl ⟨rfl, rfl⟩
  | n + 1, X => by
    have h1 := bo_on_15 s n (bo_cell s n X)
    have h2 := bo_cell_15 s n X
    show (bo_on s n (bo_cell s n X) 44 13 = X 44 13 ∧ bo_on s n (bo_cell s n X) 44 15 = X 44 15) ∨ (X 44 13 < bo_on s n (bo_cell s n X) 44 13 ∧ bo_on s n (bo_cell s n X) 44 15 = s)
    omega
