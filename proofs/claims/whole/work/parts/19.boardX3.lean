/-! the class: Boarding.begin, open .., run, isThrough, tell, tellOf over the machine -/
/-- the line holds different people -/
def LV (X : ax_Mem) : Prop := (0 ≤ X 40 1 ∧ X 40 1 ≤ 12) ∧ (∀ i : Nat, (i : Int) < X 40 1 → 0 ≤ X 41 i ∧ X 41 i < 12) ∧ (∀ i j : Nat, (i : Int) < X 40 1 → (j : Int) < X 40 1 → X 41 i = X 41 j → i = j)
theorem be_1_k {a : Nat} {X : ax_Mem} (h : a ≠ 44) : be_1 X a = X a := by
  unfold be_1
  rw [ax_u_cell h, ax_u_cell h, ax_u_cell h, ax_u_cell h]
def be_s (X : ax_Mem) : ax_Mem := be_2 12 (be_1 X)
theorem be_s_k {a : Nat} {X : ax_Mem} (h : a ≠ 44) (h1 : a ≠ 53) (h2 : a ≠ 48) : be_s X a = X a := by
  unfold be_s
  rw [be_2_k h1 h2, be_1_k h]
theorem be_s_44 {X : ax_Mem} : be_s X 44 10 = X 44 10 ∧ be_s X 44 11 = X 44 11 ∧ be_s X 44 12 = 0 ∧ be_s X 44 13 = 0 ∧ be_s X 44 14 = 0 ∧ be_s X 44 15 = 0 := by
  unfold be_s
  rw [be_2_k (by omega) (by omega)]
  exact ⟨rfl, rfl, rfl, rfl, rfl, rfl⟩
theorem occ_free {f : Nat → Int} : ∀ n, (∀ k, k < n → f k = -1) → occ f n = 0
  | 0, _ => rfl
  | n + 1, h => by
    have := occ_free n (fun k hk => h k (by omega))
    simp only [occ]
    rw [if_pos (h n (by omega)), this]
    rfl
theorem bo_begin_facts {X : ax_Mem} (hl : LV X) : bo_begin X 44 10 = X 44 10 ∧ bo_begin X 44 11 = X 44 11 ∧ bo_begin X 44 12 = fn (X 41) (X 45) (X 44 10) (X 40 1).toNat ∧ bo_begin X 44 13 = 0 ∧ bo_begin X 44 14 = 0 ∧ bo_begin X 44 15 = 0 ∧ bo_begin X 47 = fa (X 41) (X 45) (X 44 10) (X 47) (X 40 1).toNat ∧ (∀ k, k < 12 → bo_begin X 53 k = -1 ∧ bo_begin X 48 k = X 44 11) ∧ (∀ i : Nat, (i : Int) < X 40 1 → bo_begin X 49 (X 41 i).toNat = 0 ∧ bo_begin X 50 (X 41 i).toNat = 0 ∧ bo_begin X 51 (X 41 i).toNat = 0 ∧ ∀ j, j < 3 → bo_begin X (54 + (X 41 i).toNat) j = -1) := by
  have hz := be_s_44 (X := X)
  have k41 : be_s X 41 = X 41 := be_s_k (by omega) (by omega) (by omega)
  have k45 : be_s X 45 = X 45 := be_s_k (by omega) (by omega) (by omega)
  have k47 : be_s X 47 = X 47 := be_s_k (by omega) (by omega) (by omega)
  have hco := be_6_co hz.2.2.1 (X 40 1).toNat
  rw [k41, k45, k47, hz.1] at hco
  have e : bo_begin X = be_6 (X 40 1).toNat (be_s X) := rfl
  rw [e]
  refine ⟨by rw [be_6_44 (by omega)]; exact hz.1, by rw [be_6_44 (by omega)]; exact hz.2.1, hco.1, by rw [be_6_44 (by omega)]; exact hz.2.2.2.1, by rw [be_6_44 (by omega)]; exact hz.2.2.2.2.1, by rw [be_6_44 (by omega)]; exact hz.2.2.2.2.2, hco.2, fun k hk => ?_, fun i hi => ?_⟩
  · rw [be_6_k (by omega) (by omega) (by omega) (by omega) (by omega) (by omega), be_6_k (by omega) (by omega) (by omega) (by omega) (by omega) (by omega)]
    have := be_2_53 (X := be_1 X) 12 k hk
    exact ⟨this.1, this.2⟩
  · have := be_6_z (X := be_s X) (X 40 1).toNat i (by omega) (fun a ha => by rw [k41]; exact hl.2.1 a (by omega))
    rw [k41] at this
    exact this
theorem bo_begin_k {a : Nat} {X : ax_Mem} (h0 : a ≠ 44) (h1 : a ≠ 49) (h2 : a ≠ 50) (h3 : a ≠ 51) (h5 : a ≠ 47) (h6 : a ≠ 48) (h7 : a ≠ 53) (h4 : a < 54) : bo_begin X a = X a := by
  show be_6 (X 40 1).toNat (be_s X) a = X a
  rw [be_6_k h0 h1 h2 h3 h5 h4, be_s_k h0 h7 h6]
theorem wb_begin {X : ax_Mem} (hl : LV X) (hr : 1 ≤ X 44 10 ∧ X 44 10 ≤ 12) (hp : ∀ i : Nat, (i : Int) < X 40 1 → X 45 (X 41 i).toNat < X 44 10 → 0 ≤ X 45 (X 41 i).toNat) (hb : ∀ i : Nat, (i : Int) < X 40 1 → 0 ≤ X 46 (X 41 i).toNat ∧ X 46 (X 41 i).toNat ≤ 3) : WB 0 0 (bo_begin X) := by
  obtain ⟨f1, f2, f3, f4, f5, f6, f7, f8, f9⟩ := bo_begin_facts hl
  have k45 : bo_begin X 45 = X 45 := bo_begin_k (by omega) (by omega) (by omega) (by omega) (by omega) (by omega) (by omega) (by omega)
  have k46 : bo_begin X 46 = X 46 := bo_begin_k (by omega) (by omega) (by omega) (by omega) (by omega) (by omega) (by omega) (by omega)
  have hfn := fn_le (X 41) (X 45) (X 44 10) (X 40 1).toNat
  have hl1 := hl.1
  unfold WB
  rw [f1, f3, f4, f5, f7, k45, k46]
  refine ⟨hr, by omega, by omega, fun i hi => ?_, fun i j hi hj e => ?_, fun k hk => Or.inl (f8 k hk).1, fun k l hk _ _ => Or.inl (f8 k hk).1, by omega, ?_, by omega⟩
  · obtain ⟨q, hq, e, hq2⟩ := fa_in (X 41) (X 45) (X 44 10) (X 47) (X 40 1).toNat i (by omega)
    rw [e]
    have g := f9 q (by omega)
    exact ⟨hl.2.1 q (by omega), ⟨hp q (by omega) hq2, hq2⟩, hb q (by omega), by rw [g.1]; omega, by rw [g.2.2.1]; omega, fun _ => g.1⟩
  · exact fa_inj (X 41) (X 45) (X 44 10) (X 47) (X 40 1).toNat (fun a b ha hb => hl.2.2 a b (by omega) (by omega)) i j (by omega) (by omega) e
  · rw [occ_free 12 (fun k hk => (f8 k hk).1)]
    rfl
theorem hB_begin {X : ax_Mem} {P : Int → ax_Mem → Prop} (hl : LV X) (h : P 0 (bo_begin X)) : kB_begin [.inr (.inr 44), .inr (.inr 40)] X P := by
  apply eB_begin
  have hl1 := hl.1
  have hz := be_s_44 (X := X)
  have k40 : be_s X 40 = X 40 := be_s_k (by omega) (by omega) (by omega)
  have k41 : be_s X 41 = X 41 := be_s_k (by omega) (by omega) (by omega)
  have loop2 : jB_begin P 53 [(0, .inr (.inr 44)), (1, .inr (.inr 40)), (2, .inl 0)] [] (be_s X) := by
    refine up_loop (Q := fun i => jB_begin P 53 [(0, .inr (.inr 44)), (1, .inr (.inr 40)), (2, .inl (i : Int))] [] (be_6 i (be_s X))) (X 40 1).toNat ?_ ?_ 0 (Nat.zero_le _)
    · apply gB_begin_53
      have e : be_6 (X 40 1).toNat (be_s X) 40 = X 40 := by rw [be_6_k (by omega) (by omega) (by omega) (by omega) (by omega) (by omega), k40]
      rw [e]
      exact ⟨fun _ => h, fun c => by omega⟩
    · intro i hi hQ
      apply gB_begin_53
      have e40 : be_6 i (be_s X) 40 = X 40 := by rw [be_6_k (by omega) (by omega) (by omega) (by omega) (by omega) (by omega), k40]
      have e41 : be_6 i (be_s X) 41 = X 41 := by rw [be_6_k (by omega) (by omega) (by omega) (by omega) (by omega) (by omega), k41]
      have hco := (be_6_co hz.2.2.1 i).1
      have hfn := fn_le (be_s X 41) (be_s X 45) (be_s X 44 10) i
      have hw := hl.2.1 i (by omega)
      simp only [be_6, ← to1] at hQ
      generalize be_6 i (be_s X) = Z at *
      rw [e40, e41]
      simp only [Int.toNat_natCast]
      refine ⟨fun c => by omega, fun _ => ⟨by omega, hw, ?_⟩⟩
      have hpe : ((X 41 i).toNat : Int) = X 41 i := by omega
      have hQ2 : jB_begin P 53 [(0, .inr (.inr 44)), (1, .inr (.inr 40)), (2, .inl ((i : Int) + 1))] [] (be_5 i Z) := hQ
      unfold be_5 at hQ2
      have e4 : be_4 i Z = be_3 (X 41 i).toNat 3 (ax_u (ax_u (ax_u Z 49 (X 41 i).toNat 0) 50 (X 41 i).toNat 0) 51 (X 41 i).toNat 0) := by unfold be_4; rw [e41]
      have e44 : be_4 i Z 44 = Z 44 := be_4_k (by omega) (by omega) (by omega) (by omega)
      rw [e4] at e44
      rw [e4, e41] at hQ2
      generalize ax_u (ax_u (ax_u Z 49 (X 41 i).toNat 0) 50 (X 41 i).toNat 0) 51 (X 41 i).toNat 0 = Y at *
      refine up_loop (Q := fun j => jB_begin P 92 [(0, .inr (.inr 44)), (1, .inr (.inr 40)), (2, .inl (i : Int)), (3, .inl (X 41 i)), (4, .inl (j : Int))] [] (be_3 (X 41 i).toNat j Y)) 3 ?_ ?_ 0 (Nat.zero_le _)
      · apply gB_begin_92
        refine ⟨fun _ => ⟨hw, fun c => ⟨by omega, ?_⟩, fun c => ⟨by rw [e44]; omega, by omega, ?_⟩⟩, fun c => by omega⟩
        · rw [if_pos c] at hQ2; exact hQ2
        · rw [if_neg c] at hQ2; exact hQ2
      · intro j hj hQ3
        apply gB_begin_92
        simp only [be_3, ← to1] at hQ3
        simp only [Int.toNat_natCast]
        exact ⟨fun c => by omega, fun _ => ⟨hw, by omega, hQ3⟩⟩
  refine up_loop (Q := fun i => jB_begin P 22 [(0, .inr (.inr 44)), (1, .inr (.inr 40)), (2, .inl (i : Int))] [] (be_2 i (be_1 X))) 12 ?_ ?_ 0 (Nat.zero_le _)
  · apply gB_begin_22
    exact ⟨fun _ => loop2, fun c => by omega⟩
  · intro i hi hQ
    apply gB_begin_22
    simp only [be_2, ← to1] at hQ
    simp only [Int.toNat_natCast]
    exact ⟨fun c => by omega, fun _ => ⟨by omega, hQ⟩⟩
theorem hB_run {X : ax_Mem} {P : Int → ax_Mem → Prop} {last : Int} (hl : LV X) (hw : WB 0 0 (bo_begin X)) (h : P 0 (bo_run (min last 9999).toNat 1 0 (bo_begin X))) : kB_run [.inr (.inr 44), .inr (.inr 40), .inl last] X P := by
  apply eB_run
  apply hB_begin hl
  have key : ∀ (n : Nat) (N s : Int) (cm : Nat) (Z : ax_Mem), WB N cm Z → N + 36 * n ≤ 1000000 → s + n = min last 9999 + 1 → 0 < s → P 0 (bo_run n s cm Z) → jB_run P 19 [(0, .inr (.inr 44)), (3, .inl (cm : Int)), (4, .inl (min last 9999)), (5, .inl s)] [] Z := by
    intro n
    induction n with
    | zero =>
      intro N s cm Z hW hN hn hs hp
      apply gB_run_19
      exact ⟨fun _ => hp, fun c => by omega⟩
    | succ n ih =>
      intro N s cm Z hW hN hn hs hp
      apply gB_run_19
      unfold bo_run at hp
      refine ⟨fun c => by omega, fun _ => ⟨fun c => ?_, fun c => ?_⟩⟩
      · rw [if_pos c] at hp; exact hp
      · rw [if_neg c] at hp
        have hW2 := wb_two s hW
        have next := ih (N + 36) (s + 1) (bo_enc cm (bo_two s Z)) (bo_ent cm (bo_two s Z)) (wb_ent hW2) (by omega) (by omega) (by omega) hp
        refine hB_goOn (N := N) (cm := cm) hW (by omega) ?_
        rw [show bo_on s (Z 44 10).toNat Z = bo_two s Z from rfl]
        unfold bo_enc bo_ent at next
        have hcm := hW2.2.2.1
        have hm := hW2.2.1
        refine ⟨fun c1 => ⟨by omega, ?_⟩, fun c1 => ⟨fun c2 => ⟨by omega, ?_⟩, fun c2 => ⟨by omega, by omega, ?_⟩⟩⟩
        · rw [if_neg (by omega), if_neg (by omega)] at next; exact next
        · rw [if_neg (by omega), if_neg (by omega)] at next; exact next
        · rw [if_pos ⟨by omega, c2⟩, if_pos ⟨by omega, c2⟩] at next
          simp only [Int.toNat_natCast]
          rw [to1]
          exact next
  by_cases c : 0 ≤ min last 9999
  · exact key (min last 9999).toNat 0 1 0 (bo_begin X) hw (by omega) (by omega) (by omega) h
  · rw [show (min last 9999).toNat = 0 by omega] at h
    apply gB_run_19
    exact ⟨fun _ => h, fun c2 => by omega⟩
theorem hB_isThrough {X : ax_Mem} {P : Int → ax_Mem → Prop} {last : Int} (hl : LV X) (hw : WB 0 0 (bo_begin X)) (h : P (if bo_run (min last 9999).toNat 1 0 (bo_begin X) 44 13 = bo_run (min last 9999).toNat 1 0 (bo_begin X) 44 12 then 1 else 0) (bo_run (min last 9999).toNat 1 0 (bo_begin X))) : kB_isThrough [.inr (.inr 44), .inr (.inr 40), .inl last] X P := by
  apply eB_isThrough
  apply hB_run hl hw
  refine ⟨fun c => ?_, fun c => ?_⟩
  · rw [if_neg c] at h; exact h
  · rw [if_pos c] at h; exact h
-- ===== open
def op_1 (mb : Int) : Nat → ax_Mem → ax_Mem
  | 0, X => X
  | n + 1, X => ax_u (op_1 mb n X) 46 n (min (op_1 mb n X 8 n) mb)
def op_2 : Nat → ax_Mem → ax_Mem
  | 0, X => X
  | n + 1, X => ax_u (op_2 n X) 45 n (op_2 n X 5 n)
def op_3 : Nat → ax_Mem → ax_Mem
  | 0, X => X
  | n + 1, X => ax_u (op_3 n X) 45 n (op_3 n X 1 0 - 1 - op_3 n X 5 n)
def op_0 (rows room mb : Int) (X : ax_Mem) : ax_Mem := op_1 mb (X 2 7).toNat (ax_u (ax_u X 44 10 rows) 44 11 room)
def op_w (mb : Int) (X : ax_Mem) : ax_Mem := op_2 (X 2 7).toNat (op_0 (X 1 0) (X 1 2) mb X)
def op_f (mb : Int) (X : ax_Mem) : ax_Mem := ax_u (op_w mb X) 44 10 ((X 1 0 + 1) / 2)
def op_b (mb : Int) (X : ax_Mem) : ax_Mem := op_3 (X 2 7).toNat (op_0 (X 1 0 - (X 1 0 + 1) / 2) (X 1 2) mb X)
theorem op_1_k {a : Nat} {mb : Int} {X : ax_Mem} (h : a ≠ 46) : ∀ n, op_1 mb n X a = X a
  | 0 => rfl
  | n + 1 => by simp only [op_1]; rw [ax_u_cell h, op_1_k h n]
theorem op_1_46 {mb : Int} {X : ax_Mem} : ∀ n j, op_1 mb n X 46 j = if j < n then min (X 8 j) mb else X 46 j
  | 0, j => by simp [op_1]
  | n + 1, j => by
    simp only [op_1]
    rw [ax_uu, op_1_46 n j, op_1_k (show 8 ≠ 46 by omega) n]
    by_cases h : j = n
    · subst h; simp
    · rw [if_neg h]
      by_cases h2 : j < n
      · rw [if_pos h2, if_pos (by omega)]
      · rw [if_neg h2, if_neg (by omega)]
theorem op_2_k {a : Nat} {X : ax_Mem} (h : a ≠ 45) : ∀ n, op_2 n X a = X a
  | 0 => rfl
  | n + 1 => by simp only [op_2]; rw [ax_u_cell h, op_2_k h n]
theorem op_2_45 {X : ax_Mem} : ∀ n j, op_2 n X 45 j = if j < n then X 5 j else X 45 j
  | 0, j => by simp [op_2]
  | n + 1, j => by
    simp only [op_2]
    rw [ax_uu, op_2_45 n j, op_2_k (show 5 ≠ 45 by omega) n]
    by_cases h : j = n
    · subst h; simp
    · rw [if_neg h]
      by_cases h2 : j < n
      · rw [if_pos h2, if_pos (by omega)]
      · rw [if_neg h2, if_neg (by omega)]
theorem op_3_k {a : Nat} {X : ax_Mem} (h : a ≠ 45) : ∀ n, op_3 n X a = X a
  | 0 => rfl
  | n + 1 => by simp only [op_3]; rw [ax_u_cell h, op_3_k h n]
theorem op_3_45 {X : ax_Mem} : ∀ n j, op_3 n X 45 j = if j < n then X 1 0 - 1 - X 5 j else X 45 j
  | 0, j => by simp [op_3]
  | n + 1, j => by
    simp only [op_3]
    rw [ax_uu, op_3_45 n j, op_3_k (show 5 ≠ 45 by omega) n, op_3_k (show 1 ≠ 45 by omega) n]
    by_cases h : j = n
    · subst h; simp
    · rw [if_neg h]
      by_cases h2 : j < n
      · rw [if_pos h2, if_pos (by omega)]
      · rw [if_neg h2, if_neg (by omega)]
theorem hB_open {X : ax_Mem} {P : Int → ax_Mem → Prop} {rows room mb : Int} (hn : 0 ≤ X 2 7 ∧ X 2 7 ≤ 12) (h : P 0 (op_0 rows room mb X)) : kB_open [.inr (.inr 44), .inl rows, .inl room, .inl mb] X P := by
  apply eB_open
  have e2 : ∀ i, op_1 mb i (ax_u (ax_u X 44 10 rows) 44 11 room) 2 = X 2 := fun i => by rw [op_1_k (by omega), ax_u_cell (by omega), ax_u_cell (by omega)]
  refine up_loop (Q := fun i => jB_open P 13 [(0, .inr (.inr 44)), (3, .inl mb), (4, .inl (i : Int))] [] (op_1 mb i (ax_u (ax_u X 44 10 rows) 44 11 room))) (X 2 7).toNat ?_ ?_ 0 (Nat.zero_le _)
  · apply gB_open_13
    rw [e2]
    exact ⟨fun _ => h, fun c => by omega⟩
  · intro i hi hQ
    apply gB_open_13
    simp only [op_1, ← to1] at hQ
    rw [e2]
    simp only [Int.toNat_natCast]
    exact ⟨fun c => by omega, fun _ => ⟨by omega, hQ⟩⟩
theorem op_0_k {a : Nat} {rows room mb : Int} {X : ax_Mem} (h1 : a ≠ 44) (h2 : a ≠ 46) : op_0 rows room mb X a = X a := by
  unfold op_0
  rw [op_1_k h2, ax_u_cell h1, ax_u_cell h1]
theorem hB_openWhole {X : ax_Mem} {P : Int → ax_Mem → Prop} {mb : Int} (hn : 0 ≤ X 2 7 ∧ X 2 7 ≤ 12) (h : P 0 (op_w mb X)) : kB_openWhole [.inr (.inr 44), .inr (.inr 1), .inl mb] X P := by
  apply eB_openWhole
  apply hB_open hn
  have e2 : ∀ i, op_2 i (op_0 (X 1 0) (X 1 2) mb X) 2 = X 2 := fun i => by rw [op_2_k (by omega), op_0_k (by omega) (by omega)]
  refine up_loop (Q := fun i => jB_openWhole P 15 [(0, .inr (.inr 44)), (3, .inl (i : Int))] [] (op_2 i (op_0 (X 1 0) (X 1 2) mb X))) (X 2 7).toNat ?_ ?_ 0 (Nat.zero_le _)
  · apply gB_openWhole_15
    rw [e2]
    exact ⟨fun _ => h, fun c => by omega⟩
  · intro i hi hQ
    apply gB_openWhole_15
    simp only [op_2, ← to1] at hQ
    rw [e2]
    simp only [Int.toNat_natCast]
    exact ⟨fun c => by omega, fun _ => ⟨by omega, hQ⟩⟩
theorem hC_frontRows {X : ax_Mem} {P : Int → ax_Mem → Prop} (hr : 0 ≤ X 1 0 ∧ X 1 0 ≤ 12) (h : P ((X 1 0 + 1) / 2) X) : kC_frontRows [.inr (.inr 1)] X P := by
  apply eC_frontRows
  exact ⟨by omega, by omega, h⟩
theorem op_w_k {a : Nat} {mb : Int} {X : ax_Mem} (h1 : a ≠ 44) (h2 : a ≠ 46) (h3 : a ≠ 45) : op_w mb X a = X a := by
  unfold op_w
  rw [op_2_k h3, op_0_k h1 h2]
theorem hB_openFront {X : ax_Mem} {P : Int → ax_Mem → Prop} {mb : Int} (hn : 0 ≤ X 2 7 ∧ X 2 7 ≤ 12) (hr : 0 ≤ X 1 0 ∧ X 1 0 ≤ 12) (h : P 0 (op_f mb X)) : kB_openFront [.inr (.inr 44), .inr (.inr 1), .inl mb] X P := by
  apply eB_openFront
  apply hB_openWhole hn
  have e1 : op_w mb X 1 = X 1 := op_w_k (by omega) (by omega) (by omega)
  apply hC_frontRows (by rw [e1]; exact hr)
  rw [e1]
  exact h
theorem hB_openBack {X : ax_Mem} {P : Int → ax_Mem → Prop} {mb : Int} (hn : 0 ≤ X 2 7 ∧ X 2 7 ≤ 12) (hr : 0 ≤ X 1 0 ∧ X 1 0 ≤ 12) (hp : ∀ i : Nat, (i : Int) < X 2 7 → 0 ≤ X 5 i ∧ X 5 i ≤ 12) (h : P 0 (op_b mb X)) : kB_openBack [.inr (.inr 44), .inr (.inr 1), .inl mb] X P := by
  apply eB_openBack
  apply hC_frontRows hr
  refine ⟨by omega, ?_⟩
  apply hB_open hn
  have e2 : ∀ i a, a ≠ 44 → a ≠ 46 → a ≠ 45 → op_3 i (op_0 (X 1 0 - (X 1 0 + 1) / 2) (X 1 2) mb X) a = X a := fun i a h1 h2 h3 => by rw [op_3_k h3, op_0_k h1 h2]
  refine up_loop (Q := fun i => jB_openBack P 20 [(0, .inr (.inr 44)), (1, .inr (.inr 1)), (3, .inl (i : Int))] [] (op_3 i (op_0 (X 1 0 - (X 1 0 + 1) / 2) (X 1 2) mb X))) (X 2 7).toNat ?_ ?_ 0 (Nat.zero_le _)
  · apply gB_openBack_20
    rw [e2 _ 2 (by omega) (by omega) (by omega)]
    exact ⟨fun _ => h, fun c => by omega⟩
  · intro i hi hQ
    apply gB_openBack_20
    simp only [op_3, ← to1] at hQ
    have hpi := hp i (by omega)
    have a1 := e2 i 1 (by omega) (by omega) (by omega)
    have a5 := e2 i 5 (by omega) (by omega) (by omega)
    have a2 := e2 i 2 (by omega) (by omega) (by omega)
    rw [a1, a5] at hQ
    rw [a1, a5, a2]
    simp only [Int.toNat_natCast]
    exact ⟨fun c => by omega, fun _ => ⟨by omega, by omega, by omega, hQ⟩⟩
