/-! boarding, run: seconds until all sit -/
/-- one who comes in, if one is there and the first cell is free -/
def bo_ent (cm : Nat) (X : ax_Mem) : ax_Mem := if (cm : Int) < X 44 12 ∧ X 53 0 = -1 then ax_u X 53 0 (X 47 cm) else X
def bo_enc (cm : Nat) (X : ax_Mem) : Nat := if (cm : Int) < X 44 12 ∧ X 53 0 = -1 then cm + 1 else cm
def bo_two (s : Int) (X : ax_Mem) : ax_Mem := bo_on s (X 44 10).toNat X
def bo_run : Nat → Int → Nat → ax_Mem → ax_Mem
  | 0, _, _, X => X
  | n + 1, s, cm, X => if X 44 12 ≤ X 44 13 then X else bo_run n (s + 1) (bo_enc cm (bo_two s X)) (bo_ent cm (bo_two s X))
/-- how many seconds were gone through -/
def bo_cnt : Nat → Int → Nat → ax_Mem → Nat
  | 0, _, _, _ => 0
  | n + 1, s, cm, X => if X 44 12 ≤ X 44 13 then 0 else bo_cnt n (s + 1) (bo_enc cm (bo_two s X)) (bo_ent cm (bo_two s X)) + 1
theorem wb_two {N : Int} {cm : Nat} {X : ax_Mem} (s : Int) (h : WB N cm X) : WB (N + 36) cm (bo_two s X) := by
  have h1 := h.1
  have := wb_on s (X 44 10).toNat N X h (by omega)
  exact wb_mono this (by omega)
theorem wb_ent {N : Int} {cm : Nat} {X : ax_Mem} (h : WB N cm X) : WB N (bo_enc cm X) (bo_ent cm X) := by
  unfold bo_enc bo_ent
  by_cases c : (cm : Int) < X 44 12 ∧ X 53 0 = -1
  · rw [if_pos c, if_pos c]
    obtain ⟨h1, h2, h3, h4, h5, h6, h7, h8, h9, h10⟩ := h
    have a53 : ∀ j, ax_u X 53 0 (X 47 cm) 53 j = if j = 0 then X 47 cm else X 53 j := fun j => ax_uu X 53 0 j (X 47 cm)
    have h4c := h4 cm c.1
    have hnew : ∀ k, k < 12 → ¬ X 53 k = X 47 cm := by
      intro k hk e
      rcases h6 k hk with z | ⟨i, hi, z, -⟩
      · omega
      · have := h5 i cm (by omega) c.1 (by omega)
        omega
    refine ⟨h1, h2, by show ((cm + 1 : Nat) : Int) ≤ X 44 12; omega, fun i hi => ?_, h5, fun k hk => ?_, fun k l hk hl e => ?_, h8, ?_, h10⟩
    · have h4i := h4 i hi
      exact ⟨h4i.1, h4i.2.1, h4i.2.2.1, h4i.2.2.2.1, h4i.2.2.2.2.1, fun q => h4i.2.2.2.2.2 (by omega)⟩
    · show ax_u X 53 0 (X 47 cm) 53 k = -1 ∨ ∃ i : Nat, i < cm + 1 ∧ ax_u X 53 0 (X 47 cm) 53 k = X 47 i ∧ (k : Int) ≤ X 45 (ax_u X 53 0 (X 47 cm) 53 k).toNat
      rw [a53]
      by_cases hk0 : k = 0
      · rw [if_pos hk0]; exact Or.inr ⟨cm, by omega, rfl, by omega⟩
      · rw [if_neg hk0]
        rcases h6 k hk with z | ⟨i, hi, z, q⟩
        · exact Or.inl z
        · exact Or.inr ⟨i, by omega, z, q⟩
    · rw [a53, a53] at e
      rw [a53]
      by_cases hk0 : k = 0
      · rw [if_pos hk0] at e ⊢
        by_cases hl0 : l = 0
        · exact Or.inr (by omega)
        · rw [if_neg hl0] at e; exact absurd e.symm (hnew l hl)
      · rw [if_neg hk0] at e ⊢
        by_cases hl0 : l = 0
        · rw [if_pos hl0] at e; exact absurd e (hnew k hk)
        · rw [if_neg hl0] at e; exact h7 k l hk hl e
    · show X 44 13 + occ (ax_u X 53 0 (X 47 cm) 53) 12 = ((cm + 1 : Nat) : Int)
      have e1 := occ_set (f := X 53) (g := ax_u X 53 0 (X 47 cm) 53) (k := 0) (fun j hj => ax_us hj) 12
      rw [if_pos (show 0 < 12 by omega), a53, if_pos rfl, if_neg (by omega), if_pos c.2] at e1
      omega
  · rw [if_neg c, if_neg c]; exact h
def phi (cm : Nat) (X : ax_Mem) : Int := 300 * (X 44 12 - cm) + pot X
theorem phi_ent {N : Int} {cm : Nat} {X : ax_Mem} (h : WB N cm X) : phi (bo_enc cm X) (bo_ent cm X) ≤ phi cm X ∧ ((cm : Int) < X 44 12 → X 53 0 = -1 → phi (bo_enc cm X) (bo_ent cm X) < phi cm X) := by
  unfold bo_enc bo_ent
  by_cases c : (cm : Int) < X 44 12 ∧ X 53 0 = -1
  · rw [if_pos c, if_pos c]
    have hw := wb_ent h
    unfold bo_enc bo_ent at hw
    rw [if_pos c, if_pos c] at hw
    have hc := cpf_b hw (show 0 < 12 by omega)
    have e1 := sm_set12 (c := cpf (X 53) (X 45) (X 49)) (d := cpf (ax_u X 53 0 (X 47 cm) 53) (X 45) (X 49)) (show 0 < 12 by omega) (fun j hj hjk => by
      have : ax_u X 53 0 (X 47 cm) 53 j = X 53 j := ax_us hjk
      unfold cpf
      rw [this])
    have e2 : cpf (X 53) (X 45) (X 49) 0 = 0 := by unfold cpf; rw [if_pos c.2]
    have e3 : cpf (ax_u X 53 0 (X 47 cm) 53) (X 45) (X 49) 0 ≤ 212 := hc.2.1
    have e4 : pot (ax_u X 53 0 (X 47 cm)) = sm (cpf (ax_u X 53 0 (X 47 cm) 53) (X 45) (X 49)) 12 := rfl
    have e5 : pot X = sm (cpf (X 53) (X 45) (X 49)) 12 := rfl
    have e6 : ax_u X 53 0 (X 47 cm) 44 12 = X 44 12 := rfl
    unfold phi
    rw [e6, e4, e5]
    have : ((cm + 1 : Nat) : Int) = cm + 1 := by omega
    rw [this]
    constructor
    · omega
    · intro _ _; omega
  · rw [if_neg c, if_neg c]
    exact ⟨Int.le_refl _, fun a b => absurd ⟨a, b⟩ c⟩
theorem phi_step {N : Int} {cm : Nat} {X : ax_Mem} (s : Int) (h : WB N cm X) (hs : X 44 13 < X 44 12) : phi (bo_enc cm (bo_two s X)) (bo_ent cm (bo_two s X)) < phi cm X := by
  have h1 := h.1
  have hw := wb_two s h
  have hp := phi_ent hw
  have e12 := (bo_on_12 s (X 44 10).toNat X).1
  have hpot := pot_on s (X 44 10).toNat N X h (by omega)
  have hocc := occ_0 (X 53) 12
  have h9 := h.2.2.2.2.2.2.2.2.1
  have h6 := h.2.2.2.2.2.1
  have hout : ∀ j, (X 44 10).toNat ≤ j → j < 12 → X 53 j = -1 := by
    intro j hj hj2
    rcases h6 j hj2 with z | ⟨i, hi, z, q⟩
    · exact z
    · have := (h.2.2.2.1 i (by have := h.2.2.1; omega)).2.1.2
      rw [z] at q
      omega
  have hphi : phi cm (bo_two s X) ≤ phi cm X ∧ (0 < occ (X 53) 12 → phi cm (bo_two s X) < phi cm X) := by
    unfold phi bo_two
    rw [e12]
    refine ⟨by omega, fun q => ?_⟩
    obtain ⟨k, hk, hkn⟩ := occ_pos (f := X 53) 12 q
    have : k < (X 44 10).toNat := by
      rcases Nat.lt_or_ge k (X 44 10).toNat with z | z
      · exact z
      · exact absurd (hout k z hk) hkn
    have := hpot.2 hout ⟨k, this, hkn⟩
    omega
  by_cases c : 0 < occ (X 53) 12
  · have := hphi.2 c
    omega
  · have hz : occ (X 53) 12 = 0 := by omega
    have hfree := occ_zero 12 hz
    have eid : bo_two s X = X := bo_on_id s (X 44 10).toNat X (fun j hj => hfree j (by omega))
    rw [eid] at hp ⊢
    exact hp.2 (by omega) (hfree 0 (by omega))
/-- with enough seconds all sit -/
theorem bo_run_done : ∀ (n : Nat) (N s : Int) (cm : Nat) (X : ax_Mem), WB N cm X → phi cm X ≤ n → bo_run n s cm X 44 12 ≤ bo_run n s cm X 44 13
  | 0, N, s, cm, X, h, hn => by
    show X 44 12 ≤ X 44 13
    rcases Int.lt_or_le (X 44 13) (X 44 12) with c | c
    · have h1 := phi_step s h c
      have h2 := pot_0 (wb_ent (wb_two s h))
      have h3 := (wb_ent (wb_two s h)).2.2.1
      unfold phi at h1 hn
      omega
    · exact c
  | n + 1, N, s, cm, X, h, hn => by
    unfold bo_run
    by_cases c : X 44 12 ≤ X 44 13
    · rw [if_pos c]; exact c
    · rw [if_neg c]
      have h1 := phi_step s h (by omega)
      exact bo_run_done n (N + 36) (s + 1) _ _ (wb_ent (wb_two s h)) (by omega)
/-- more seconds than needed change nothing -/
theorem bo_run_more : ∀ (n m : Nat) (s : Int) (cm : Nat) (X : ax_Mem), bo_run n s cm X 44 12 ≤ bo_run n s cm X 44 13 → bo_run (n + m) s cm X = bo_run n s cm X ∧ bo_cnt (n + m) s cm X = bo_cnt n s cm X
  | 0, m, s, cm, X, h => by
    have h : X 44 12 ≤ X 44 13 := h
    rw [Nat.zero_add]
    cases m with
    | zero => exact ⟨rfl, rfl⟩
    | succ m =>
      unfold bo_run bo_cnt
      rw [if_pos h, if_pos h]
      exact ⟨rfl, rfl⟩
  | n + 1, m, s, cm, X, h => by
    rw [show n + 1 + m = (n + m) + 1 by omega]
    unfold bo_run bo_cnt at *
    by_cases c : X 44 12 ≤ X 44 13
    · rw [if_pos c, if_pos c, if_pos c, if_pos c]; exact ⟨rfl, rfl⟩
    · rw [if_neg c] at h
      rw [if_neg c, if_neg c, if_neg c, if_neg c]
      have := bo_run_more n m (s + 1) _ _ h
      exact ⟨this.1, by rw [this.2]⟩
theorem bo_cnt_le : ∀ (n : Nat) (s : Int) (cm : Nat) (X : ax_Mem), bo_cnt n s cm X ≤ n
  | 0, _, _, _ => Nat.le_refl _
  | n + 1, s, cm, X => by
    unfold bo_cnt
    split
    · omega
    · have := bo_cnt_le n (s + 1) (bo_enc cm (bo_two s X)) (bo_ent cm (bo_two s X))
      omega
/-- fewer seconds than are gone through: not all sit -/
theorem bo_run_less : ∀ (n m : Nat) (s : Int) (cm : Nat) (X : ax_Mem), bo_run n s cm X 44 12 ≤ bo_run n s cm X 44 13 → (bo_run m s cm X 44 12 ≤ bo_run m s cm X 44 13 ↔ bo_cnt n s cm X ≤ m)
  | 0, m, s, cm, X, h => by
    have h : X 44 12 ≤ X 44 13 := h
    refine ⟨fun _ => Nat.zero_le _, fun _ => ?_⟩
    cases m with
    | zero => exact h
    | succ m => unfold bo_run; rw [if_pos h]; exact h
  | n + 1, m, s, cm, X, h => by
    unfold bo_cnt
    unfold bo_run at h
    by_cases c : X 44 12 ≤ X 44 13
    · rw [if_pos c]
      refine ⟨fun _ => Nat.zero_le _, fun _ => ?_⟩
      cases m with
      | zero => exact c
      | succ m => unfold bo_run; rw [if_pos c]; exact c
    · rw [if_neg c] at h
      rw [if_neg c]
      cases m with
      | zero => exact ⟨fun z => absurd z c, fun z => by omega⟩
      | succ m =>
        have := bo_run_less n m (s + 1) _ _ h
        unfold bo_run
        rw [if_neg c, this]
        omega
theorem bo_ent_13 (cm : Nat) (X : ax_Mem) : bo_ent cm X 44 = X 44 := by
  unfold bo_ent
  split <;> rfl
/-- the second of the last one who sat is the number of seconds -/
theorem bo_run_15 : ∀ (n : Nat) (N s : Int) (cm : Nat) (X : ax_Mem), WB N cm X → bo_run n s cm X 44 12 ≤ bo_run n s cm X 44 13 → (X 44 12 ≤ X 44 13 → X 44 15 = s - 1) → bo_run n s cm X 44 15 = s - 1 + bo_cnt n s cm X
  | 0, N, s, cm, X, _, h, h0 => by
    have h : X 44 12 ≤ X 44 13 := h
    show X 44 15 = s - 1 + ((0 : Nat) : Int)
    have := h0 h
    omega
  | n + 1, N, s, cm, X, hw, h, h0 => by
    unfold bo_run at h ⊢
    unfold bo_cnt
    by_cases c : X 44 12 ≤ X 44 13
    · rw [if_pos c, if_pos c]
      have := h0 c
      omega
    · rw [if_neg c] at h
      rw [if_neg c, if_neg c]
      have e := bo_ent_13 cm (bo_two s X)
      have e2 := bo_on_15 s (X 44 10).toNat X
      have e3 := (bo_on_12 s (X 44 10).toNat X).1
      have := bo_run_15 n (N + 36) (s + 1) _ _ (wb_ent (wb_two s hw)) h (fun q => by
        rw [e] at q ⊢
        unfold bo_two at q ⊢
        omega)
      omega
theorem wb_run : ∀ (n : Nat) (N s : Int) (cm : Nat) (X : ax_Mem), WB N cm X → ∃ cm2, WB (N + 36 * n) cm2 (bo_run n s cm X)
  | 0, N, s, cm, X, h => ⟨cm, wb_mono h (by omega)⟩
  | n + 1, N, s, cm, X, h => by
    unfold bo_run
    split
    · exact ⟨cm, wb_mono h (by omega)⟩
    · obtain ⟨cm2, h2⟩ := wb_run n (N + 36) (s + 1) _ _ (wb_ent (wb_two s h))
      exact ⟨cm2, wb_mono h2 (by omega)⟩
/-- what running leaves as it was -/
theorem bo_run_keep {a : Nat} (h1 : a ≠ 44) (h2 : a ≠ 48) (h3 : a ≠ 49) (h4 : a ≠ 50) (h5 : a ≠ 51) (h6 : a ≠ 53) (h7 : a < 54) : ∀ (n : Nat) (s : Int) (cm : Nat) (X : ax_Mem), bo_run n s cm X a = X a
  | 0, _, _, _ => rfl
  | n + 1, s, cm, X => by
    unfold bo_run
    split
    · rfl
    · rw [bo_run_keep h1 h2 h3 h4 h5 h6 h7 n]
      unfold bo_ent
      split
      · rw [ax_u_cell h6]; exact bo_on_keep s h1 h2 h3 h4 h5 h6 h7 _ X
      · exact bo_on_keep s h1 h2 h3 h4 h5 h6 h7 _ X
theorem bo_run_12 : ∀ (n : Nat) (s : Int) (cm : Nat) (X : ax_Mem), bo_run n s cm X 44 12 = X 44 12 ∧ bo_run n s cm X 44 11 = X 44 11 ∧ bo_run n s cm X 44 10 = X 44 10
  | 0, _, _, _ => ⟨rfl, rfl, rfl⟩
  | n + 1, s, cm, X => by
    unfold bo_run
    split
    · exact ⟨rfl, rfl, rfl⟩
    · have := bo_run_12 n (s + 1) (bo_enc cm (bo_two s X)) (bo_ent cm (bo_two s X))
      rw [bo_ent_13] at this
      have e3 := bo_on_12 s (X 44 10).toNat X
      exact ⟨this.1.trans e3.1, this.2.1.trans e3.2.1, this.2.2.trans e3.2.2⟩
-- ===== the class: Boarding.begin
def be_1 (X : ax_Mem) : ax_Mem := ax_u (ax_u (ax_u (ax_u X 44 12 0) 44 13 0) 44 14 0) 44 15 0
def be_2 : Nat → ax_Mem → ax_Mem
  | 0, X => X
  | n + 1, X => ax_u (ax_u (be_2 n X) 53 n (-1)) 48 n (be_2 n X 44 11)
def be_3 (p : Nat) : Nat → ax_Mem → ax_Mem
  | 0, X => X
  | n + 1, X => ax_u (be_3 p n X) (54 + p) n (-1)
def be_4 (i : Nat) (X : ax_Mem) : ax_Mem := be_3 (X 41 i).toNat 3 (ax_u (ax_u (ax_u X 49 (X 41 i).toNat 0) 50 (X 41 i).toNat 0) 51 (X 41 i).toNat 0)
def be_5 (i : Nat) (X : ax_Mem) : ax_Mem := if be_4 i X 44 10 ≤ be_4 i X 45 (X 41 i).toNat then be_4 i X else ax_u (ax_u (be_4 i X) 47 (be_4 i X 44 12).toNat (X 41 i)) 44 12 (be_4 i X 44 12 + 1)
def be_6 : Nat → ax_Mem → ax_Mem
  | 0, X => X
  | n + 1, X => be_5 n (be_6 n X)
def bo_begin (X : ax_Mem) : ax_Mem := be_6 (X 40 1).toNat (be_2 12 (be_1 X))
theorem be_2_k {a : Nat} {X : ax_Mem} (h1 : a ≠ 53) (h2 : a ≠ 48) : ∀ n, be_2 n X a = X a
  | 0 => rfl
  | n + 1 => by simp only [be_2]; rw [ax_u_cell h2, ax_u_cell h1, be_2_k h1 h2 n]
theorem be_2_53 {X : ax_Mem} : ∀ (n j : Nat), j < n → be_2 n X 53 j = -1 ∧ be_2 n X 48 j = X 44 11
  | 0, j, h => by omega
  | n + 1, j, h => by
    have e : be_2 n X 44 11 = X 44 11 := by rw [be_2_k (by omega) (by omega) n]
    simp only [be_2]
    rw [ax_u_cell (show 53 ≠ 48 by omega), ax_uu, ax_uu, e]
    by_cases hj : j = n
    · rw [if_pos hj, if_pos hj]; exact ⟨rfl, rfl⟩
    · rw [if_neg hj, if_neg hj, ax_u_cell (show 48 ≠ 53 by omega)]
      exact be_2_53 n j (by omega)
theorem be_3_k {a p : Nat} {X : ax_Mem} (h : a ≠ 54 + p) : ∀ n, be_3 p n X a = X a
  | 0 => rfl
  | n + 1 => by simp only [be_3]; rw [ax_u_cell h, be_3_k h n]
theorem be_3_at {p : Nat} {X : ax_Mem} : ∀ (n j : Nat), j < n → be_3 p n X (54 + p) j = -1
  | 0, j, h => by omega
  | n + 1, j, h => by
    simp only [be_3]
    rw [ax_uu]
    by_cases hj : j = n
    · rw [if_pos hj]
    · rw [if_neg hj]; exact be_3_at n j (by omega)
theorem be_4_k {a i : Nat} {X : ax_Mem} (h1 : a ≠ 49) (h2 : a ≠ 50) (h3 : a ≠ 51) (h4 : a < 54) : be_4 i X a = X a := by
  unfold be_4
  rw [be_3_k (by omega), ax_u_cell h3, ax_u_cell h2, ax_u_cell h1]
theorem be_5_k {a i : Nat} {X : ax_Mem} (h0 : a ≠ 44) (h1 : a ≠ 49) (h2 : a ≠ 50) (h3 : a ≠ 51) (h5 : a ≠ 47) (h4 : a < 54) : be_5 i X a = X a := by
  unfold be_5
  split
  · exact be_4_k h1 h2 h3 h4
  · rw [ax_u_cell h0, ax_u_cell h5, be_4_k h1 h2 h3 h4]
theorem be_6_k {a : Nat} {X : ax_Mem} (h0 : a ≠ 44) (h1 : a ≠ 49) (h2 : a ≠ 50) (h3 : a ≠ 51) (h5 : a ≠ 47) (h4 : a < 54) : ∀ n, be_6 n X a = X a
  | 0 => rfl
  | n + 1 => by simp only [be_6]; rw [be_5_k h0 h1 h2 h3 h5 h4, be_6_k h0 h1 h2 h3 h5 h4 n]
theorem be_5_44 {b i : Nat} {X : ax_Mem} (h : b ≠ 12) : be_5 i X 44 b = X 44 b := by
  have e : be_4 i X 44 = X 44 := be_4_k (by omega) (by omega) (by omega) (by omega)
  unfold be_5
  split
  · rw [e]
  · rw [ax_us h, ax_u_cell (by omega), e]
theorem be_6_44 {b : Nat} {X : ax_Mem} (h : b ≠ 12) : ∀ n, be_6 n X 44 b = X 44 b
  | 0 => rfl
  | n + 1 => by simp only [be_6]; rw [be_5_44 h, be_6_44 h n]
/-- the places of those who come through this door, in their order -/
def fn (w row : Nat → Int) (rows : Int) : Nat → Nat
  | 0 => 0
  | n + 1 => if rows ≤ row (w n).toNat then fn w row rows n else fn w row rows n + 1
def fa (w row : Nat → Int) (rows : Int) (f0 : Nat → Int) : Nat → Nat → Int
  | 0, j => f0 j
  | n + 1, j => if rows ≤ row (w n).toNat then fa w row rows f0 n j else if j = fn w row rows n then w n else fa w row rows f0 n j
theorem fn_le (w row : Nat → Int) (rows : Int) : ∀ n, fn w row rows n ≤ n
  | 0 => Nat.le_refl _
  | n + 1 => by have := fn_le w row rows n; unfold fn; split <;> omega
theorem fa_in (w row : Nat → Int) (rows : Int) (f0 : Nat → Int) : ∀ n j, j < fn w row rows n → ∃ i, i < n ∧ fa w row rows f0 n j = w i ∧ row (w i).toNat < rows
  | 0, j, h => by simp [fn] at h
  | n + 1, j, h => by
    unfold fn at h
    unfold fa
    by_cases c : rows ≤ row (w n).toNat
    · rw [if_pos c] at h
      rw [if_pos c]
      obtain ⟨i, hi, e, q⟩ := fa_in w row rows f0 n j h
      exact ⟨i, by omega, e, q⟩
    · rw [if_neg c] at h
      rw [if_neg c]
      by_cases d : j = fn w row rows n
      · rw [if_pos d]; exact ⟨n, by omega, rfl, by omega⟩
      · rw [if_neg d]
        obtain ⟨i, hi, e, q⟩ := fa_in w row rows f0 n j (by omega)
        exact ⟨i, by omega, e, q⟩
theorem fa_inj (w row : Nat → Int) (rows : Int) (f0 : Nat → Int) : ∀ n, (∀ i j, i < n → j < n → w i = w j → i = j) → ∀ i j, i < fn w row rows n → j < fn w row rows n → fa w row rows f0 n i = fa w row rows f0 n j → i = j
  | 0, _, i, j, h, _, _ => by simp [fn] at h
  | n + 1, hw, i, j, hi, hj, e => by
    have ih := fa_inj w row rows f0 n (fun a b ha hb => hw a b (by omega) (by omega))
    unfold fn at hi hj
    unfold fa at e
    by_cases c : rows ≤ row (w n).toNat
    · rw [if_pos c] at hi hj e
      rw [if_pos c] at e
      exact ih i j hi hj e
    · rw [if_neg c] at hi hj e
      rw [if_neg c] at e
      by_cases d1 : i = fn w row rows n
      · by_cases d2 : j = fn w row rows n
        · omega
        · rw [if_pos d1, if_neg d2] at e
          obtain ⟨q, hq, e2, -⟩ := fa_in w row rows f0 n j (by omega)
          have := hw n q (by omega) (by omega) (e.trans e2)
          omega
      · by_cases d2 : j = fn w row rows n
        · rw [if_neg d1, if_pos d2] at e
          obtain ⟨q, hq, e2, -⟩ := fa_in w row rows f0 n i (by omega)
          have := hw q n (by omega) (by omega) (e2.symm.trans e)
          omega
        · rw [if_neg d1, if_neg d2] at e
          exact ih i j (by omega) (by omega) e
theorem be_6_co {X : ax_Mem} (h0 : X 44 12 = 0) : ∀ n, be_6 n X 44 12 = fn (X 41) (X 45) (X 44 10) n ∧ be_6 n X 47 = fa (X 41) (X 45) (X 44 10) (X 47) n
  | 0 => ⟨h0, rfl⟩
  | n + 1 => by
    obtain ⟨h1, h2⟩ := be_6_co h0 n
    have k41 : be_6 n X 41 = X 41 := be_6_k (by omega) (by omega) (by omega) (by omega) (by omega) (by omega) n
    have k45 : be_6 n X 45 = X 45 := be_6_k (by omega) (by omega) (by omega) (by omega) (by omega) (by omega) n
    have k10 : be_6 n X 44 10 = X 44 10 := be_6_44 (by omega) n
    have e44 : be_4 n (be_6 n X) 44 = be_6 n X 44 := be_4_k (by omega) (by omega) (by omega) (by omega)
    have e45 : be_4 n (be_6 n X) 45 = be_6 n X 45 := be_4_k (by omega) (by omega) (by omega) (by omega)
    have e47 : be_4 n (be_6 n X) 47 = be_6 n X 47 := be_4_k (by omega) (by omega) (by omega) (by omega)
    simp only [be_6]
    unfold be_5 fn
    rw [e44, e45, k41, k45, k10, h1]
    by_cases c : X 44 10 ≤ X 45 (X 41 n).toNat
    · rw [if_pos c, if_pos c, e44, e47, h1, h2]
      refine ⟨rfl, ?_⟩
      funext j
      show _ = (if X 44 10 ≤ X 45 (X 41 n).toNat then fa (X 41) (X 45) (X 44 10) (X 47) n j else if j = fn (X 41) (X 45) (X 44 10) n then X 41 n else fa (X 41) (X 45) (X 44 10) (X 47) n j)
      rw [if_pos c]
    · rw [if_neg c, if_neg c]
      refine ⟨by rw [ax_uu, if_pos rfl]; omega, ?_⟩
      rw [ax_u_cell (show 47 ≠ 44 by omega)]
      funext j
      show _ = (if X 44 10 ≤ X 45 (X 41 n).toNat then fa (X 41) (X 45) (X 44 10) (X 47) n j else if j = fn (X 41) (X 45) (X 44 10) n then X 41 n else fa (X 41) (X 45) (X 44 10) (X 47) n j)
      rw [if_neg c, ax_uu, e47, h2, show ((fn (X 41) (X 45) (X 44 10) n : Int)).toNat = fn (X 41) (X 45) (X 44 10) n by omega]
theorem be_6_z {X : ax_Mem} : ∀ (n i : Nat), i < n → (∀ i, i < n → 0 ≤ X 41 i ∧ X 41 i < 12) → be_6 n X 49 (X 41 i).toNat = 0 ∧ be_6 n X 50 (X 41 i).toNat = 0 ∧ be_6 n X 51 (X 41 i).toNat = 0 ∧ ∀ j, j < 3 → be_6 n X (54 + (X 41 i).toNat) j = -1
  | 0, i, h, _ => by omega
  | n + 1, i, h, hw => by
    have k41 : be_6 n X 41 = X 41 := be_6_k (by omega) (by omega) (by omega) (by omega) (by omega) (by omega) n
    have key : ∀ Z : ax_Mem, (be_5 n Z 49 = be_4 n Z 49 ∧ be_5 n Z 50 = be_4 n Z 50 ∧ be_5 n Z 51 = be_4 n Z 51 ∧ ∀ q, be_5 n Z (54 + q) = be_4 n Z (54 + q)) := by
      intro Z
      unfold be_5
      split
      · exact ⟨rfl, rfl, rfl, fun _ => rfl⟩
      · exact ⟨rfl, rfl, rfl, fun q => by rw [ax_u_cell (by omega), ax_u_cell (by omega)]⟩
    obtain ⟨q1, q2, q3, q4⟩ := key (be_6 n X)
    simp only [be_6]
    rw [q1, q2, q3]
    have hn := hw n (by omega)
    have hi := hw i h
    by_cases c : (X 41 i).toNat = (X 41 n).toNat
    · rw [c]
      refine ⟨?_, ?_, ?_, fun j hj => ?_⟩
      · unfold be_4; rw [k41, be_3_k (by omega), ax_u_cell (by omega), ax_u_cell (by omega), ax_uu, if_pos rfl]
      · unfold be_4; rw [k41, be_3_k (by omega), ax_u_cell (by omega), ax_uu, if_pos rfl]
      · unfold be_4; rw [k41, be_3_k (by omega), ax_uu, if_pos rfl]
      · rw [q4]; unfold be_4; rw [k41, be_3_at 3 j hj]
    · have hin : i ≠ n := fun z => c (by rw [z])
      obtain ⟨r1, r2, r3, r4⟩ := be_6_z n i (by omega) (fun a ha => hw a (by omega))
      refine ⟨?_, ?_, ?_, fun j hj => ?_⟩
      · unfold be_4; rw [k41, be_3_k (by omega), ax_u_cell (by omega), ax_u_cell (by omega), ax_us c]; exact r1
      · unfold be_4; rw [k41, be_3_k (by omega), ax_u_cell (by omega), ax_us c, ax_u_cell (by omega)]; exact r2
      · unfold be_4; rw [k41, be_3_k (by omega), ax_us c, ax_u_cell (by omega), ax_u_cell (by omega)]; exact r3
      · rw [q4]; unfold be_4; rw [k41, be_3_k (by omega), ax_u_cell (by omega), ax_u_cell (by omega), ax_u_cell (by omega)]; exact r4 j hj
