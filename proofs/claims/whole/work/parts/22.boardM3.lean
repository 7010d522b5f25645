/-! boardAll(): from its start -/
def bb_1 : Nat → ax_Mem → ax_Mem
  | 0, Y => Y
  | n + 1, Y => ax_u (ax_u (ax_u (ax_u (ax_u (bb_1 n Y) 8 n (-1)) 9 n 0) 10 n 0) 11 n 0) 12 n 0
def bb_2 : Nat → ax_Mem → ax_Mem
  | 0, Y => Y
  | n + 1, Y => ax_u (bb_2 n Y) 13 n (-1)
def bb_3 (Y : ax_Mem) : ax_Mem := ax_u (ax_u (ax_u (bb_2 36 (bb_1 12 Y)) 0 24 0) 0 25 0) 0 26 0
theorem bb_1_k {a : Nat} {Y : ax_Mem} (h : a < 8 ∨ 12 < a) : ∀ n, bb_1 n Y a = Y a
  | 0 => rfl
  | n + 1 => by simp only [bb_1]; rw [ax_u_cell (by omega), ax_u_cell (by omega), ax_u_cell (by omega), ax_u_cell (by omega), ax_u_cell (by omega), bb_1_k h n]
theorem bb_1_at {Y : ax_Mem} : ∀ n j, j < n → bb_1 n Y 8 j = -1 ∧ bb_1 n Y 9 j = 0 ∧ bb_1 n Y 10 j = 0 ∧ bb_1 n Y 11 j = 0 ∧ bb_1 n Y 12 j = 0
  | 0, j, h => by omega
  | n + 1, j, h => by
    simp only [bb_1]
    by_cases c : j = n
    · subst c
      simp [ax_u]
    · obtain ⟨a, b, d, e, f⟩ := bb_1_at (Y := Y) n j (by omega)
      simp [ax_u, c, a, b, d, e, f]
theorem bb_2_k {a : Nat} {Y : ax_Mem} (h : a ≠ 13) : ∀ n, bb_2 n Y a = Y a
  | 0 => rfl
  | n + 1 => by simp only [bb_2]; rw [ax_u_cell h, bb_2_k h n]
theorem bb_2_at {Y : ax_Mem} : ∀ n j, j < n → bb_2 n Y 13 j = -1
  | 0, j, h => by omega
  | n + 1, j, h => by
    simp only [bb_2]
    rw [ax_uu]
    by_cases c : j = n
    · rw [if_pos c]
    · rw [if_neg c]; exact bb_2_at n j (by omega)
theorem hM_beginBoard {Y : ax_Mem} {P : Int → ax_Mem → Prop} (h : P 0 (bb_3 Y)) : kM_beginBoard [.inr (.inr 0)] Y P := by
  apply eM_beginBoard
  have loop2 : jM_beginBoard P 51 [(0, .inr (.inr 0)), (1, .inl 0)] [] (bb_1 12 Y) := by
    refine up_loop (Q := fun i => jM_beginBoard P 51 [(0, .inr (.inr 0)), (1, .inl (i : Int))] [] (bb_2 i (bb_1 12 Y))) 36 ?_ ?_ 0 (Nat.zero_le _)
    · apply gM_beginBoard_51
      exact ⟨fun _ => h, fun c => by omega⟩
    · intro i hi hQ
      apply gM_beginBoard_51
      simp only [bb_2, ← to1] at hQ
      simp only [Int.toNat_natCast]
      exact ⟨fun c => by omega, fun _ => ⟨by omega, hQ⟩⟩
  refine up_loop (Q := fun i => jM_beginBoard P 2 [(0, .inr (.inr 0)), (1, .inl (i : Int))] [] (bb_1 i Y)) 12 ?_ ?_ 0 (Nat.zero_le _)
  · apply gM_beginBoard_2
    exact ⟨fun _ => loop2, fun c => by omega⟩
  · intro i hi hQ
    apply gM_beginBoard_2
    simp only [bb_1, ← to1] at hQ
    simp only [Int.toNat_natCast]
    exact ⟨fun c => by omega, fun _ => ⟨by omega, hQ⟩⟩
theorem bb_3_k {a : Nat} {Y : ax_Mem} (h0 : a ≠ 0) (h : a < 8 ∨ 13 < a) : bb_3 Y a = Y a := by
  unfold bb_3
  rw [ax_u_cell h0, ax_u_cell h0, ax_u_cell h0, bb_2_k (by omega), bb_1_k (by omega)]
theorem bb_3_0 {f : Nat} {Y : ax_Mem} (h1 : f ≠ 24) (h2 : f ≠ 25) (h3 : f ≠ 26) : bb_3 Y 0 f = Y 0 f := by
  unfold bb_3
  rw [ax_us h3, ax_us h2, ax_us h1, bb_2_k (by omega), bb_1_k (by omega)]
theorem bb_3_at {Y : ax_Mem} {j : Nat} (hj : j < 12) : bb_3 Y 8 j = -1 ∧ bb_3 Y 9 j = 0 ∧ bb_3 Y 10 j = 0 ∧ bb_3 Y 11 j = 0 ∧ bb_3 Y 12 j = 0 := by
  unfold bb_3
  have e : ∀ a, a ≠ 0 → a ≠ 13 → ax_u (ax_u (ax_u (bb_2 36 (bb_1 12 Y)) 0 24 0) 0 25 0) 0 26 0 a = bb_1 12 Y a := fun a h0 h1 => by rw [ax_u_cell h0, ax_u_cell h0, ax_u_cell h0, bb_2_k h1]
  rw [e 8 (by omega) (by omega), e 9 (by omega) (by omega), e 10 (by omega) (by omega), e 11 (by omega) (by omega), e 12 (by omega) (by omega)]
  exact bb_1_at 12 j hj
theorem bb_3_13 {Y : ax_Mem} {j : Nat} (hj : j < 36) : bb_3 Y 13 j = -1 := by
  unfold bb_3
  rw [ax_u_cell (by omega), ax_u_cell (by omega), ax_u_cell (by omega)]
  exact bb_2_at 36 j hj
theorem FC_bb (Y : ax_Mem) : FC Y (bb_3 Y) := ⟨fun _ h0 h => bb_3_k h0 h, fun _ a b c => bb_3_0 a b c⟩
/-- the class ahead of begin() and the reference ahead of beginBoard(): the same rows, room, line -/
def S0 (X Y : ax_Mem) : Prop := X 44 10 = Y 0 13 ∧ X 44 11 = Y 0 2 ∧ (fn (X 41) (X 45) (X 44 10) (X 40 1).toNat : Int) = Y 0 17 ∧ (∀ j : Nat, j < fn (X 41) (X 45) (X 44 10) (X 40 1).toNat → fa (X 41) (X 45) (X 44 10) (X 47) (X 40 1).toNat j = Y 7 j) ∧ (∀ i : Nat, (i : Int) < X 40 1 → X 45 (X 41 i).toNat = Y 5 (X 41 i).toNat ∧ X 46 (X 41 i).toNat = Y 6 (X 41 i).toNat ∧ X 6 (X 41 i).toNat = Y 1 (7 * (X 41 i).toNat + 3) ∧ X 7 (X 41 i).toNat = Y 1 (7 * (X 41 i).toNat + 4))
theorem rb_start {X Y : ax_Mem} (hl : LV X) (h : S0 X Y) : RB (bo_begin X) (bb_3 Y) := by
  obtain ⟨f1, f2, f3, f4, f5, f6, f7, f8, f9⟩ := bo_begin_facts hl
  obtain ⟨s1, s2, s3, s4, s5⟩ := h
  have k45 : bo_begin X 45 = X 45 := bo_begin_k (by omega) (by omega) (by omega) (by omega) (by omega) (by omega) (by omega) (by omega)
  have k46 : bo_begin X 46 = X 46 := bo_begin_k (by omega) (by omega) (by omega) (by omega) (by omega) (by omega) (by omega) (by omega)
  have k6 : bo_begin X 6 = X 6 := bo_begin_k (by omega) (by omega) (by omega) (by omega) (by omega) (by omega) (by omega) (by omega)
  have k7 : bo_begin X 7 = X 7 := bo_begin_k (by omega) (by omega) (by omega) (by omega) (by omega) (by omega) (by omega) (by omega)
  unfold RB
  rw [f1, f2, f3, f4, f5, f7, bb_3_0 (by omega) (by omega) (by omega), bb_3_0 (by omega) (by omega) (by omega), bb_3_0 (by omega) (by omega) (by omega)]
  refine ⟨⟨s1, s2, s3, rfl, rfl⟩, fun i hi => ?_, fun k hk => ?_⟩
  · have hi2 : i < fn (X 41) (X 45) (X 44 10) (X 40 1).toNat := by omega
    obtain ⟨q, hq, e, hq2⟩ := fa_in (X 41) (X 45) (X 44 10) (X 47) (X 40 1).toNat i hi2
    have hl1 := hl.1
    have g := f9 q (by omega)
    have hqb := hl.2.1 q (by omega)
    have t := s5 q (by omega)
    refine ⟨by rw [bb_3_k (by omega) (by omega)]; exact s4 i hi2, ?_⟩
    rw [e]
    unfold RBp
    have z := bb_3_at (Y := Y) (j := (X 41 q).toNat) (by omega)
    rw [k45, k46, k6, k7, g.1, g.2.1, g.2.2.1, z.2.1, z.2.2.1, z.2.2.2.1, bb_3_k (by omega) (by omega), bb_3_k (by omega) (by omega), bb_3_k (by omega) (by omega)]
    exact ⟨t.1, t.2.1, rfl, rfl, rfl, t.2.2.1, t.2.2.2, fun j hj => by rw [g.2.2.2 j hj, bb_3_13 (by omega)]⟩
  · obtain ⟨a, b⟩ := f8 k hk
    have z := bb_3_at (Y := Y) (j := k) hk
    rw [a, b, z.1, z.2.2.2.2]
    exact ⟨rfl, by omega⟩
def bT (X : ax_Mem) : Nat := bo_cnt 9999 1 0 (bo_begin X)
def bE (X : ax_Mem) : ax_Mem := bo_run 9999 1 0 (bo_begin X)
theorem bT_le (X : ax_Mem) : bT X ≤ 9999 := bo_cnt_le _ _ _ _
theorem bE_done {X : ax_Mem} (hw : WB 0 0 (bo_begin X)) : bE X 44 12 ≤ bE X 44 13 := by
  refine bo_run_done 9999 0 1 0 _ hw ?_
  unfold phi pot
  have hw2 := hw.2.1
  have : sm (cpf (bo_begin X 53) (bo_begin X 45) (bo_begin X 49)) 12 = sm (fun _ => 0) 12 := by
    apply sm_eq
    intro j hj
    unfold cpf
    have hocc := hw.2.2.2.2.2.2.2.2.1
    have h10 := hw.2.2.2.2.2.2.2.2.2
    have h0 := occ_0 (bo_begin X 53) 12
    rw [if_pos (occ_zero 12 (by omega) j hj)]
  have e : sm (fun _ => 0) 12 = 0 := rfl
  omega
theorem bE_15 {X : ax_Mem} (hl : LV X) (hw : WB 0 0 (bo_begin X)) : bE X 44 15 = bT X := by
  obtain ⟨f1, f2, f3, f4, f5, f6, f7, f8, f9⟩ := bo_begin_facts hl
  have := bo_run_15 9999 0 1 0 _ hw (bE_done hw) (fun _ => by rw [f6]; rfl)
  unfold bE bT
  omega
theorem hM_boardAll {X Y : ax_Mem} {P : Int → ax_Mem → Prop} (hl : LV X) (hw : WB 0 0 (bo_begin X)) (hs : S0 X Y) (h : ∀ Z, RB (bE X) Z → FC Y Z → P (bT X) Z) : kM_boardAll [.inr (.inr 0)] Y P := by
  apply eM_boardAll
  apply hM_beginBoard
  have := hM_boardLoop (P := P) 9999 0 1 0 (bo_begin X) (bb_3 Y) hw (by omega) (rb_start hl hs) rfl (by omega) (by omega) (bE_done hw) (fun Z hZ hF => by
    have := h Z hZ ((FC_bb Y).tr hF)
    rw [show (1 : Int) - 1 + ((bo_cnt 9999 1 0 (bo_begin X) : Nat) : Int) = (bT X : Int) by unfold bT; omega]
    exact this)
  exact this
