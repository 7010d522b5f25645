/-! leaving: pure. 0 aisle, 1 busy, 2 who is up, 3 when out, 4: 0 gone, 1 seconds -/
def tn (X : ax_Mem) (mn : Int) (p : Nat) : Int := if mn = 1 then X 7 p else if mn = 2 then X 5 p else 0
def lt (X : ax_Mem) (mn : Int) (S : ax_Mem) : Nat → Int
  | 0 => 12
  | i + 1 => if S 2 i = 0 then min (lt X mn S i) (tn X mn i) else lt X mn S i
abbrev nr (X : ax_Mem) (i : Nat) (f : Int) : Prop := X 7 i < X 7 f.toNat ∨ (X 7 i = X 7 f.toNat ∧ X 6 i < X 6 f.toNat)
def nx (X : ax_Mem) (mn : Int) (S : ax_Mem) (row turn : Int) : Nat → Int
  | 0 => -1
  | i + 1 => if S 2 i = 0 ∧ X 5 i = row ∧ tn X mn i = turn ∧ (nx X mn S row turn i = -1 ∨ nr X i (nx X mn S row turn i)) then (i : Int) else nx X mn S row turn i
theorem nx_0 (X : ax_Mem) (mn : Int) (S : ax_Mem) (row turn : Int) : nx X mn S row turn 0 = -1 := rfl
theorem nx_p {X : ax_Mem} {mn : Int} {S : ax_Mem} {row turn : Int} {i : Nat} (h : S 2 i = 0 ∧ X 5 i = row ∧ tn X mn i = turn ∧ (nx X mn S row turn i = -1 ∨ nr X i (nx X mn S row turn i))) : nx X mn S row turn (i + 1) = i := by
  show (if S 2 i = 0 ∧ X 5 i = row ∧ tn X mn i = turn ∧ (nx X mn S row turn i = -1 ∨ nr X i (nx X mn S row turn i)) then (i : Int) else nx X mn S row turn i) = i
  rw [if_pos h]
theorem nx_n {X : ax_Mem} {mn : Int} {S : ax_Mem} {row turn : Int} {i : Nat} (h : ¬ (S 2 i = 0 ∧ X 5 i = row ∧ tn X mn i = turn ∧ (nx X mn S row turn i = -1 ∨ nr X i (nx X mn S row turn i)))) : nx X mn S row turn (i + 1) = nx X mn S row turn i := by
  show (if S 2 i = 0 ∧ X 5 i = row ∧ tn X mn i = turn ∧ (nx X mn S row turn i = -1 ∨ nr X i (nx X mn S row turn i)) then (i : Int) else nx X mn S row turn i) = nx X mn S row turn i
  rw [if_neg h]
theorem nx_b (X : ax_Mem) (mn : Int) (S : ax_Mem) (row turn : Int) : ∀ n, nx X mn S row turn n = -1 ∨ ((0 ≤ nx X mn S row turn n ∧ nx X mn S row turn n < n) ∧ S 2 (nx X mn S row turn n).toNat = 0 ∧ X 5 (nx X mn S row turn n).toNat = row)
  | 0 => Or.inl rfl
  | n + 1 => by
    by_cases c : S 2 n = 0 ∧ X 5 n = row ∧ tn X mn n = turn ∧ (nx X mn S row turn n = -1 ∨ nr X n (nx X mn S row turn n))
    · rw [nx_p c, Int.toNat_natCast]
      exact Or.inr ⟨by omega, c.1, c.2.1⟩
    · rw [nx_n c]
      rcases nx_b X mn S row turn n with h | h
      · exact Or.inl h
      · exact Or.inr ⟨by omega, h.2⟩
theorem nx_ne {X : ax_Mem} {mn : Int} {S : ax_Mem} {row turn : Int} {i : Nat} (h : S 2 i = 0 ∧ X 5 i = row ∧ tn X mn i = turn) : ∀ n, i < n → nx X mn S row turn n ≠ -1
  | 0, hi => by omega
  | n + 1, hi => by
    by_cases c : S 2 n = 0 ∧ X 5 n = row ∧ tn X mn n = turn ∧ (nx X mn S row turn n = -1 ∨ nr X n (nx X mn S row turn n))
    · rw [nx_p c]; omega
    · rw [nx_n c]
      by_cases d : i = n
      · subst d
        intro z
        exact c ⟨h.1, h.2.1, h.2.2, Or.inl z⟩
      · exact nx_ne h n (by omega)
theorem lt_at {X : ax_Mem} {mn : Int} {S : ax_Mem} (hb : ∀ i, tn X mn i < 12 ∨ True) : ∀ n, lt X mn S n = 12 ∨ ∃ i, i < n ∧ S 2 i = 0 ∧ tn X mn i = lt X mn S n
  | 0 => Or.inl rfl
  | n + 1 => by
    unfold lt
    by_cases c : S 2 n = 0
    · rw [if_pos c]
      by_cases d : lt X mn S n ≤ tn X mn n
      · rw [Int.min_eq_left d]
        rcases lt_at hb n with h | ⟨i, hi, h1, h2⟩
        · exact Or.inl h
        · exact Or.inr ⟨i, by omega, h1, h2⟩
      · rw [Int.min_eq_right (by omega)]
        exact Or.inr ⟨n, by omega, c, rfl⟩
    · rw [if_neg c]
      rcases lt_at hb n with h | ⟨i, hi, h1, h2⟩
      · exact Or.inl h
      · exact Or.inr ⟨i, by omega, h1, h2⟩
theorem lt_le {X : ax_Mem} {mn : Int} {S : ax_Mem} : ∀ n i, i < n → S 2 i = 0 → lt X mn S n ≤ tn X mn i
  | 0, i, h, _ => by omega
  | n + 1, i, h, hi => by
    unfold lt
    by_cases d : i = n
    · subst d
      rw [if_pos hi]; exact Int.min_le_right _ _
    · have ih := lt_le (X := X) (mn := mn) n i (by omega) hi
      split
      · exact Int.le_trans (Int.min_le_left _ _) ih
      · exact ih
-- ===== one second
def lo_dec (k : Nat) (S : ax_Mem) : ax_Mem := ax_u S 1 (S 0 k).toNat (S 1 (S 0 k).toNat - 1)
def lo_out (s : Int) (S : ax_Mem) : ax_Mem := ax_u (ax_u (ax_u (ax_u S 0 0 (-1)) 3 (S 0 0).toNat s) 4 0 (S 4 0 + 1)) 4 1 s
def lo_mov (k : Nat) (S : ax_Mem) : ax_Mem := ax_u (ax_u S 0 (k - 1) (S 0 k)) 0 k (-1)
def lo_cell (s : Int) (k : Nat) (S : ax_Mem) : ax_Mem := if S 0 k = -1 then S else if 0 < S 1 (S 0 k).toNat then lo_dec k S else if k = 0 then lo_out s S else if S 0 (k - 1) = -1 then lo_mov k S else S
def lo_on (s : Int) : Nat → ax_Mem → ax_Mem
  | 0, S => S
  | k + 1, S => lo_cell s k (lo_on s k S)
def lo_up (X : ax_Mem) (k : Nat) (p : Int) (S : ax_Mem) : ax_Mem := ax_u (ax_u (ax_u S 0 k p) 2 p.toNat 1) 1 p.toNat (2 * X 8 p.toNat)
def lo_row (X : ax_Mem) (mn turn : Int) (k : Nat) (S : ax_Mem) : ax_Mem := if S 0 k = -1 then (if nx X mn S k turn (X 2 7).toNat = -1 then S else lo_up X k (nx X mn S k turn (X 2 7).toNat) S) else S
def lo_rows (X : ax_Mem) (mn turn : Int) : Nat → ax_Mem → ax_Mem
  | 0, S => S
  | k + 1, S => lo_row X mn turn k (lo_rows X mn turn k S)
def lo_sec (X : ax_Mem) (mn s : Int) (S : ax_Mem) : ax_Mem := lo_rows X mn (lt X mn (lo_on s (X 1 0).toNat S) (X 2 7).toNat) (X 1 0).toNat (lo_on s (X 1 0).toNat S)
def lo_run (X : ax_Mem) (mn : Int) : Nat → Int → ax_Mem → ax_Mem
  | 0, _, S => S
  | f + 1, s, S => if X 2 7 ≤ S 4 0 then S else lo_run X mn f (s + 1) (lo_sec X mn s S)
def lo_cnt (X : ax_Mem) (mn : Int) : Nat → Int → ax_Mem → Nat
  | 0, _, _ => 0
  | f + 1, s, S => if X 2 7 ≤ S 4 0 then 0 else lo_cnt X mn f (s + 1) (lo_sec X mn s S) + 1
def ups (S : ax_Mem) : Nat → Int := fun p => S 2 p - 1
def WS (X S : ax_Mem) : Prop := (∀ k, k < 12 → S 0 k = -1 ∨ ((0 ≤ S 0 k ∧ S 0 k < X 2 7) ∧ S 2 (S 0 k).toNat = 1 ∧ (k : Int) < X 1 0)) ∧ (∀ p : Nat, (p : Int) < X 2 7 → (S 2 p = 0 ∨ S 2 p = 1) ∧ (0 ≤ S 1 p ∧ S 1 p ≤ 6)) ∧ S 4 0 + occ (S 0) 12 = occ (ups S) (X 2 7).toNat ∧ 0 ≤ S 4 0
def cl (S : ax_Mem) (k : Nat) : Int := if S 0 k = -1 then 0 else (k : Int) + 1 + S 1 (S 0 k).toNat
def ph (X S : ax_Mem) : Int := sm (cl S) 12 + 100 * (X 2 7 - occ (ups S) (X 2 7).toNat)
theorem sm_lt {c d : Nat → Int} {k : Nat} : ∀ n, k < n → c k < d k → (∀ j, j < n → c j ≤ d j) → sm c n < sm d n
  | 0, h, _, _ => by omega
  | n + 1, h, hk, hj => by
    simp only [sm]
    by_cases e : k = n
    · have := sm_le n (fun j hjn => hj j (by omega))
      rw [e] at hk
      omega
    · have := sm_lt n (by omega) hk (fun j hjn => hj j (by omega))
      have := hj n (by omega)
      omega
theorem occ_eq {f g : Nat → Int} : ∀ n, (∀ k, k < n → f k = g k) → occ f n = occ g n
  | 0, _ => rfl
  | n + 1, h => by simp only [occ]; rw [occ_eq n (fun k hk => h k (by omega)), h n (by omega)]
theorem occ_le (f : Nat → Int) : ∀ n : Nat, occ f n ≤ n
  | 0 => by simp [occ]
  | n + 1 => by have := occ_le f n; simp only [occ]; split <;> omega
theorem lo_cell_ok {X S : ax_Mem} {s : Int} {k : Nat} (hw : WP X) (h : WS X S) (hk : (k : Int) < X 1 0) : WS X (lo_cell s k S) ∧ ph X (lo_cell s k S) ≤ ph X S ∧ (¬ S 0 k = -1 → (k = 0 ∨ S 0 (k - 1) = -1) → ph X (lo_cell s k S) < ph X S) := by
  have hw1 := hw.1
  have hw2 := hw.2.1
  have hk12 : k < 12 := by omega
  unfold lo_cell
  by_cases c1 : S 0 k = -1
  · rw [if_pos c1]
    exact ⟨h, Int.le_refl _, fun q => absurd c1 q⟩
  · rw [if_neg c1]
    obtain ⟨h1, h2, h3, h4⟩ := id h
    obtain ⟨hp, hup, -⟩ := (h1 k hk12).resolve_left c1
    have hpn : (((S 0 k).toNat : Nat) : Int) < X 2 7 := by omega
    have hb := (h2 _ hpn).2
    by_cases c2 : 0 < S 1 (S 0 k).toNat
    · rw [if_pos c2]
      have e0 : lo_dec k S 0 = S 0 := ax_u_cell (by omega)
      have e2 : lo_dec k S 2 = S 2 := ax_u_cell (by omega)
      have e4 : lo_dec k S 4 = S 4 := ax_u_cell (by omega)
      have eu : ups (lo_dec k S) = ups S := by unfold ups; rw [e2]
      have e1 : ∀ q, lo_dec k S 1 q = if q = (S 0 k).toNat then S 1 (S 0 k).toNat - 1 else S 1 q := fun q => by unfold lo_dec; rw [ax_uu]
      have hws : WS X (lo_dec k S) := by
        unfold WS
        rw [e0, e2, e4, eu]
        refine ⟨h1, fun p hpp => ⟨(h2 p hpp).1, ?_⟩, h3, h4⟩
        rw [e1]
        have := (h2 p hpp).2
        split <;> omega
      have hlt : ph X (lo_dec k S) < ph X S := by
        unfold ph
        rw [eu]
        have : sm (cl (lo_dec k S)) 12 < sm (cl S) 12 := by
          refine sm_lt 12 hk12 ?_ (fun j hj => ?_)
          · unfold cl
            rw [e0, if_neg c1, if_neg c1, e1, if_pos rfl]
            omega
          · unfold cl
            rw [e0]
            split
            · exact Int.le_refl _
            · rw [e1]
              split
              · rename_i q; rw [q]; omega
              · omega
        omega
      exact ⟨hws, by omega, fun _ _ => hlt⟩
    · rw [if_neg c2]
      by_cases c3 : k = 0
      · rw [if_pos c3]
        subst c3
        have e0 : ∀ j, lo_out s S 0 j = if j = 0 then -1 else S 0 j := fun j => by unfold lo_out; rw [ax_u_cell (by omega), ax_u_cell (by omega), ax_u_cell (by omega), ax_uu]
        have e1 : lo_out s S 1 = S 1 := by unfold lo_out; rw [ax_u_cell (by omega), ax_u_cell (by omega), ax_u_cell (by omega), ax_u_cell (by omega)]
        have e2 : lo_out s S 2 = S 2 := by unfold lo_out; rw [ax_u_cell (by omega), ax_u_cell (by omega), ax_u_cell (by omega), ax_u_cell (by omega)]
        have e4 : lo_out s S 4 0 = S 4 0 + 1 := by unfold lo_out; rw [ax_us (by omega), ax_uu, if_pos rfl]
        have eu : ups (lo_out s S) = ups S := by unfold ups; rw [e2]
        have eo := occ_set (f := S 0) (g := lo_out s S 0) (k := 0) (fun j hj => by rw [e0, if_neg hj]) 12
        rw [if_pos (by omega), e0 0, if_pos rfl, if_pos rfl, if_neg c1] at eo
        have hws : WS X (lo_out s S) := by
          unfold WS
          rw [e1, e2, e4, eu]
          refine ⟨fun j hj => ?_, h2, by omega, by omega⟩
          rw [e0]
          by_cases d : j = 0
          · rw [if_pos d]; exact Or.inl rfl
          · rw [if_neg d]; exact h1 j hj
        have hlt : ph X (lo_out s S) < ph X S := by
          unfold ph
          rw [eu]
          have : sm (cl (lo_out s S)) 12 < sm (cl S) 12 := by
            refine sm_lt 12 hk12 ?_ (fun j hj => ?_)
            · unfold cl
              rw [e0, if_pos rfl, if_pos rfl, if_neg c1]
              omega
            · unfold cl
              rw [e0, e1]
              by_cases d : j = 0
              · subst d
                rw [if_pos rfl, if_pos rfl, if_neg c1]
                omega
              · rw [if_neg d]
                exact Int.le_refl _
          omega
        exact ⟨hws, by omega, fun _ _ => hlt⟩
      · rw [if_neg c3]
        by_cases c4 : S 0 (k - 1) = -1
        · rw [if_pos c4]
          have e0 : ∀ j, lo_mov k S 0 j = if j = k then -1 else if j = k - 1 then S 0 k else S 0 j := fun j => by unfold lo_mov; rw [ax_uu, ax_uu]
          have e1 : lo_mov k S 1 = S 1 := by unfold lo_mov; rw [ax_u_cell (by omega), ax_u_cell (by omega)]
          have e2 : lo_mov k S 2 = S 2 := by unfold lo_mov; rw [ax_u_cell (by omega), ax_u_cell (by omega)]
          have e4 : lo_mov k S 4 = S 4 := by unfold lo_mov; rw [ax_u_cell (by omega), ax_u_cell (by omega)]
          have eu : ups (lo_mov k S) = ups S := by unfold ups; rw [e2]
          have m0 : ∀ j, ax_u S 0 (k - 1) (S 0 k) 0 j = if j = k - 1 then S 0 k else S 0 j := fun j => ax_uu _ _ _ _ _
          have eo1 := occ_set (f := S 0) (g := ax_u S 0 (k - 1) (S 0 k) 0) (k := k - 1) (fun j hj => by rw [m0, if_neg hj]) 12
          have eo2 := occ_set (f := ax_u S 0 (k - 1) (S 0 k) 0) (g := lo_mov k S 0) (k := k) (fun j hj => by rw [e0, m0, if_neg hj]) 12
          rw [if_pos (by omega), m0, if_pos rfl, if_neg c1, if_pos c4] at eo1
          rw [if_pos (by omega), e0, if_pos rfl, if_pos rfl, m0, if_neg (by omega)] at eo2
          have hws : WS X (lo_mov k S) := by
            unfold WS
            rw [e1, e2, e4, eu]
            refine ⟨fun j hj => ?_, h2, by omega, h4⟩
            rw [e0]
            by_cases d : j = k
            · rw [if_pos d]; exact Or.inl rfl
            · rw [if_neg d]
              by_cases d2 : j = k - 1
              · rw [if_pos d2]; exact Or.inr ⟨hp, hup, by omega⟩
              · rw [if_neg d2]; exact h1 j hj
          have hlt : ph X (lo_mov k S) < ph X S := by
            unfold ph
            rw [eu]
            have s1 := sm_set12 (c := cl S) (d := cl (ax_u S 0 (k - 1) (S 0 k))) (k := k - 1) (by omega) (fun j hj hjk => by unfold cl; rw [m0, if_neg hjk, ax_u_cell (by omega)])
            have s2 := sm_set12 (c := cl (ax_u S 0 (k - 1) (S 0 k))) (d := cl (lo_mov k S)) (k := k) (by omega) (fun j hj hjk => by unfold cl; rw [e0, m0, if_neg hjk, e1, ax_u_cell (by omega)])
            have v1 : cl (ax_u S 0 (k - 1) (S 0 k)) (k - 1) = ((k - 1 : Nat) : Int) + 1 + S 1 (S 0 k).toNat := by unfold cl; rw [m0, if_pos rfl, if_neg c1, ax_u_cell (by omega)]
            have v2 : cl S (k - 1) = 0 := by unfold cl; rw [if_pos c4]
            have v3 : cl (lo_mov k S) k = 0 := by unfold cl; rw [e0, if_pos rfl, if_pos rfl]
            have v4 : cl (ax_u S 0 (k - 1) (S 0 k)) k = (k : Int) + 1 + S 1 (S 0 k).toNat := by unfold cl; rw [m0, if_neg (show ¬ k = k - 1 by omega), if_neg c1, ax_u_cell (by omega)]
            omega
          exact ⟨hws, by omega, fun _ _ => hlt⟩
        · rw [if_neg c4]
          exact ⟨h, Int.le_refl _, fun _ q => by omega⟩
theorem lo_on_ok {X S : ax_Mem} {s : Int} (hw : WP X) (h : WS X S) : ∀ k : Nat, (k : Int) ≤ X 1 0 → WS X (lo_on s k S) ∧ ((lo_on s k S = S ∧ ∀ j, j < k → S 0 j = -1) ∨ ph X (lo_on s k S) < ph X S)
  | 0, _ => ⟨h, Or.inl ⟨rfl, fun j hj => by omega⟩⟩
  | k + 1, hk => by
    obtain ⟨a, b⟩ := lo_on_ok (s := s) hw h k (by omega)
    have hc := lo_cell_ok (s := s) (k := k) hw a (by omega)
    refine ⟨hc.1, ?_⟩
    rcases b with ⟨e, hj⟩ | b
    · by_cases c : S 0 k = -1
      · refine Or.inl ⟨?_, fun j hjk => ?_⟩
        · show lo_cell s k (lo_on s k S) = S
          rw [e]
          unfold lo_cell
          rw [if_pos c]
        · by_cases d : j = k
          · rw [d]; exact c
          · exact hj j (by omega)
      · refine Or.inr ?_
        have := hc.2.2 (by rw [e]; exact c) (by
          rw [e]
          by_cases d : k = 0
          · exact Or.inl d
          · exact Or.inr (hj (k - 1) (by omega)))
        rw [e] at this
        show ph X (lo_cell s k (lo_on s k S)) < ph X S
        rw [e]
        exact this
    · refine Or.inr ?_
      show ph X (lo_cell s k (lo_on s k S)) < ph X S
      have := hc.2.1
      omega
theorem lo_row_ok {X S : ax_Mem} {mn turn : Int} {k : Nat} (hw : WP X) (h : WS X S) (hk : (k : Int) < X 1 0) : WS X (lo_row X mn turn k S) ∧ ((lo_row X mn turn k S = S ∧ (S 0 k = -1 → nx X mn S k turn (X 2 7).toNat = -1)) ∨ ph X (lo_row X mn turn k S) < ph X S) := by
  have hw1 := hw.1
  have hw2 := hw.2.1
  unfold lo_row
  by_cases c1 : S 0 k = -1
  · rw [if_pos c1]
    by_cases c2 : nx X mn S k turn (X 2 7).toNat = -1
    · rw [if_pos c2]; exact ⟨h, Or.inl ⟨rfl, fun _ => c2⟩⟩
    · rw [if_neg c2]
      obtain ⟨h1, h2, h3, h4⟩ := id h
      obtain ⟨hp, hup, hrw⟩ := (nx_b X mn S k turn (X 2 7).toNat).resolve_left c2
      generalize nx X mn S k turn (X 2 7).toNat = p at c2 hp hup hrw
      have hpn : ((p.toNat : Nat) : Int) < X 2 7 := by omega
      have hbg := (hw.2.2 _ hpn).2.2.2.2.2.1
      have e0 : ∀ j, lo_up X k p S 0 j = if j = k then p else S 0 j := fun j => by unfold lo_up; rw [ax_u_cell (by omega), ax_u_cell (by omega), ax_uu]
      have e1 : ∀ j, lo_up X k p S 1 j = if j = p.toNat then 2 * X 8 p.toNat else S 1 j := fun j => by unfold lo_up; rw [ax_uu, ax_u_cell (by omega), ax_u_cell (by omega)]
      have e2 : ∀ j, lo_up X k p S 2 j = if j = p.toNat then 1 else S 2 j := fun j => by unfold lo_up; rw [ax_u_cell (by omega), ax_uu, ax_u_cell (by omega)]
      have e4 : lo_up X k p S 4 = S 4 := by unfold lo_up; rw [ax_u_cell (by omega), ax_u_cell (by omega), ax_u_cell (by omega)]
      have eo1 := occ_set (f := S 0) (g := lo_up X k p S 0) (k := k) (fun j hj => by rw [e0, if_neg hj]) 12
      have eo2 := occ_set (f := ups S) (g := ups (lo_up X k p S)) (k := p.toNat) (fun j hj => by unfold ups; rw [e2, if_neg hj]) (X 2 7).toNat
      have u1 : ups (lo_up X k p S) p.toNat = 0 := by unfold ups; rw [e2, if_pos rfl]; omega
      have u2 : ups S p.toNat = -1 := by unfold ups; rw [hup]; omega
      rw [if_pos (by omega), e0, if_pos rfl, if_neg c2, if_pos c1] at eo1
      rw [if_pos (by omega), u1, u2, if_neg (by omega), if_pos rfl] at eo2
      have oth : ∀ j, j < 12 → j ≠ k → ¬ S 0 j = -1 → (S 0 j).toNat ≠ p.toNat := by
        intro j hj _ hne z
        have := ((h1 j hj).resolve_left hne).2.1
        rw [z, hup] at this
        omega
      refine ⟨⟨fun j hj => ?_, fun q hq => ?_, ?_, by rw [e4]; exact h4⟩, Or.inr ?_⟩
      · rw [e0]
        by_cases d : j = k
        · rw [if_pos d]
          exact Or.inr ⟨by omega, by rw [e2, if_pos rfl], by omega⟩
        · rw [if_neg d]
          rcases h1 j hj with z | ⟨z1, z2, z3⟩
          · exact Or.inl z
          · refine Or.inr ⟨z1, ?_, z3⟩
            rw [e2]
            split
            · rfl
            · exact z2
      · rw [e1, e2]
        have := h2 q hq
        split
        · exact ⟨Or.inr rfl, by omega⟩
        · exact this
      · rw [e4]; omega
      · unfold ph
        have s1 := sm_set12 (c := cl S) (d := cl (lo_up X k p S)) (k := k) (by omega) (fun j hj hjk => by
          unfold cl
          rw [e0, if_neg hjk]
          by_cases d : S 0 j = -1
          · rw [if_pos d, if_pos d]
          · rw [if_neg d, if_neg d, e1, if_neg (oth j hj hjk d)])
        have v1 : cl (lo_up X k p S) k = (k : Int) + 1 + 2 * X 8 p.toNat := by unfold cl; rw [e0, if_pos rfl, if_neg c2, e1, if_pos rfl]
        have v2 : cl S k = 0 := by unfold cl; rw [if_pos c1]
        omega
  · rw [if_neg c1]; exact ⟨h, Or.inl ⟨rfl, fun q => absurd q c1⟩⟩
theorem lo_rows_ok {X S : ax_Mem} {mn turn : Int} (hw : WP X) (h : WS X S) : ∀ k : Nat, (k : Int) ≤ X 1 0 → WS X (lo_rows X mn turn k S) ∧ ((lo_rows X mn turn k S = S ∧ ∀ j, j < k → S 0 j = -1 → nx X mn S j turn (X 2 7).toNat = -1) ∨ ph X (lo_rows X mn turn k S) < ph X S)
  | 0, _ => ⟨h, Or.inl ⟨rfl, fun j hj => by omega⟩⟩
  | k + 1, hk => by
    obtain ⟨a, b⟩ := lo_rows_ok (mn := mn) (turn := turn) hw h k (by omega)
    have hc := lo_row_ok (mn := mn) (turn := turn) (k := k) hw a (by omega)
    refine ⟨hc.1, ?_⟩
    show (lo_row X mn turn k (lo_rows X mn turn k S) = S ∧ _) ∨ ph X (lo_row X mn turn k (lo_rows X mn turn k S)) < ph X S
    rcases b with ⟨e, hj⟩ | b
    · rw [e] at hc ⊢
      rcases hc.2 with ⟨e2, hn⟩ | hl
      · refine Or.inl ⟨e2, fun j hjk => ?_⟩
        by_cases d : j = k
        · rw [d]; exact hn
        · exact hj j (by omega)
      · exact Or.inr hl
    · refine Or.inr ?_
      rcases hc.2 with ⟨e2, -⟩ | hl
      · rw [e2]; exact b
      · omega
theorem tn_b {X : ax_Mem} {mn : Int} {p : Nat} (hw : WP X) (hp : (p : Int) < X 2 7) : 0 ≤ tn X mn p ∧ tn X mn p < 12 := by
  obtain ⟨a1, a2, a3, a4, a5, a6, a7⟩ := hw.2.2 p hp
  have := hw.2.1
  unfold tn
  split
  · omega
  · split <;> omega
theorem lo_sec_ok {X S : ax_Mem} {mn s : Int} (hw : WP X) (h : WS X S) (hg : S 4 0 < X 2 7) : WS X (lo_sec X mn s S) ∧ ph X (lo_sec X mn s S) < ph X S := by
  have hw1 := hw.1
  have hw2 := hw.2.1
  obtain ⟨a, b⟩ := lo_on_ok (s := s) hw h (X 1 0).toNat (by omega)
  obtain ⟨c, d⟩ := lo_rows_ok (mn := mn) (turn := lt X mn (lo_on s (X 1 0).toNat S) (X 2 7).toNat) hw a (X 1 0).toNat (by omega)
  refine ⟨c, ?_⟩
  show ph X (lo_rows X mn (lt X mn (lo_on s (X 1 0).toNat S) (X 2 7).toNat) (X 1 0).toNat (lo_on s (X 1 0).toNat S)) < ph X S
  rcases b with ⟨e, hj⟩ | b
  · rw [e] at d ⊢
    rcases d with ⟨e2, hn⟩ | hl
    · exfalso
      have hz : occ (S 0) 12 = 0 := by
        refine occ_free 12 (fun k hk => ?_)
        by_cases q : k < (X 1 0).toNat
        · exact hj k q
        · rcases h.1 k hk with z | z
          · exact z
          · omega
      have h3 := h.2.2.1
      have hne : ∃ p, p < (X 2 7).toNat ∧ S 2 p = 0 := by
        refine Classical.byContradiction (fun z => ?_)
        have hall : occ (ups S) (X 2 7).toNat = occ (fun _ => 0) (X 2 7).toNat := by
          refine occ_eq _ (fun p hp => ?_)
          unfold ups
          rcases (h.2.1 p (by omega)).1 with y | y
          · exact absurd ⟨p, hp, y⟩ z
          · rw [y]; omega
        have h0 : ∀ n : Nat, occ (fun _ => (0 : Int)) n = n := by
          intro n
          induction n with
          | zero => rfl
          | succ n ih => simp only [occ]; rw [ih, if_neg (by omega)]; omega
        rw [h0] at hall
        omega
      obtain ⟨p, hp, hp0⟩ := hne
      rcases lt_at (X := X) (mn := mn) (S := S) (fun _ => Or.inr trivial) (X 2 7).toNat with z | ⟨i, hi, hi0, hit⟩
      · have y1 := lt_le (X := X) (mn := mn) (S := S) (X 2 7).toNat p hp hp0
        have y2 := tn_b (mn := mn) hw (show (p : Int) < X 2 7 by omega)
        omega
      · have hri := (hw.2.2 i (by omega)).2.2.1
        have q1 := hn (X 5 i).toNat (by omega) (hj (X 5 i).toNat (by omega))
        exact nx_ne (X := X) (mn := mn) (S := S) (row := ((X 5 i).toNat : Int)) (turn := lt X mn S (X 2 7).toNat) (i := i) ⟨hi0, by omega, hit⟩ (X 2 7).toNat hi q1
    · exact hl
  · rcases d with ⟨e2, -⟩ | hl
    · rw [e2]; exact b
    · omega
theorem ph_0 {X S : ax_Mem} (hw : WP X) (h : WS X S) : 0 ≤ ph X S := by
  have hw1 := hw.1
  have h2 := occ_le (ups S) (X 2 7).toNat
  have h1 : sm (fun _ => (0 : Int)) 12 ≤ sm (cl S) 12 := by
    refine sm_le 12 (fun j hj => ?_)
    show (0 : Int) ≤ cl S j
    unfold cl
    split
    · exact Int.le_refl _
    · rename_i c
      have z := (h.1 j hj).resolve_left c
      have := (h.2.1 (S 0 j).toNat (by omega)).2
      omega
  have h0 : sm (fun _ => (0 : Int)) 12 = 0 := rfl
  unfold ph
  omega
theorem lo_run_done {X : ax_Mem} {mn : Int} (hw : WP X) : ∀ (f : Nat) (s : Int) (S : ax_Mem), WS X S → ph X S ≤ f → X 2 7 ≤ lo_run X mn f s S 4 0
  | 0, s, S, h, hf => by
    by_cases c : X 2 7 ≤ S 4 0
    · exact c
    · have a := lo_sec_ok (mn := mn) (s := s) hw h (by omega)
      have b := ph_0 hw a.1
      omega
  | f + 1, s, S, h, hf => by
    unfold lo_run
    by_cases c : X 2 7 ≤ S 4 0
    · rw [if_pos c]; exact c
    · rw [if_neg c]
      have a := lo_sec_ok (mn := mn) (s := s) hw h (by omega)
      exact lo_run_done hw f (s + 1) _ a.1 (by omega)
-- ===== the last one's second
theorem lo_cell_4 (s : Int) (k : Nat) (S : ax_Mem) : lo_cell s k S 4 0 = S 4 0 ∧ lo_cell s k S 4 1 = S 4 1 ∨ lo_cell s k S 4 1 = s := by
  unfold lo_cell
  split
  · exact Or.inl ⟨rfl, rfl⟩
  · split
    · exact Or.inl ⟨rfl, rfl⟩
    · split
      · refine Or.inr ?_
        unfold lo_out
        rw [ax_uu, if_pos rfl]
      · split
        · exact Or.inl ⟨rfl, rfl⟩
        · exact Or.inl ⟨rfl, rfl⟩
theorem lo_on_4 (s : Int) (S : ax_Mem) : ∀ k, lo_on s k S 4 0 = S 4 0 ∧ lo_on s k S 4 1 = S 4 1 ∨ lo_on s k S 4 1 = s
  | 0 => Or.inl ⟨rfl, rfl⟩
  | k + 1 => by
    show lo_cell s k (lo_on s k S) 4 0 = S 4 0 ∧ lo_cell s k (lo_on s k S) 4 1 = S 4 1 ∨ lo_cell s k (lo_on s k S) 4 1 = s
    rcases lo_cell_4 s k (lo_on s k S) with ⟨a, b⟩ | a
    · rcases lo_on_4 s S k with ⟨c, d⟩ | c
      · exact Or.inl ⟨a.trans c, b.trans d⟩
      · exact Or.inr (b.trans c)
    · exact Or.inr a
theorem lo_rows_4 (X : ax_Mem) (mn turn : Int) (S : ax_Mem) : ∀ k, lo_rows X mn turn k S 4 = S 4
  | 0 => rfl
  | k + 1 => by
    show lo_row X mn turn k (lo_rows X mn turn k S) 4 = S 4
    rw [← lo_rows_4 X mn turn S k]
    unfold lo_row
    split
    · split
      · rfl
      · rfl
    · rfl
theorem lo_run_4 {X : ax_Mem} {mn : Int} : ∀ (f : Nat) (s : Int) (S : ax_Mem), X 2 7 ≤ lo_run X mn f s S 4 0 → (X 2 7 ≤ S 4 0 → S 4 1 = s - 1) → lo_run X mn f s S 4 1 = s - 1 + lo_cnt X mn f s S
  | 0, s, S, h, hs => by
    have := hs h
    show S 4 1 = s - 1 + ((0 : Nat) : Int)
    omega
  | f + 1, s, S, h, hs => by
    unfold lo_run at h ⊢
    unfold lo_cnt
    by_cases c : X 2 7 ≤ S 4 0
    · rw [if_pos c] at h ⊢
      rw [if_pos c]
      have := hs c
      omega
    · rw [if_neg c] at h ⊢
      rw [if_neg c]
      have := lo_run_4 f (s + 1) _ h (fun z => by
        have e : lo_sec X mn s S 4 = lo_on s (X 1 0).toNat S 4 := lo_rows_4 _ _ _ _ _
        rw [e] at z ⊢
        rcases lo_on_4 s S (X 1 0).toNat with ⟨a, -⟩ | a
        · omega
        · omega)
      omega
/-- at the start all sit -/
def lo_0 : ax_Mem := fun k => if k = 0 then (fun _ => -1) else fun _ => 0
theorem lo_0_ok {X : ax_Mem} (hw : WP X) : WS X lo_0 ∧ ph X lo_0 ≤ 1200 := by
  have hw1 := hw.1
  have h1 : occ (lo_0 0) 12 = 0 := rfl
  have h2 : ∀ n : Nat, occ (ups lo_0) n = 0 := by
    intro n
    exact occ_free n (fun k _ => rfl)
  refine ⟨⟨fun k _ => Or.inl rfl, fun p _ => ⟨Or.inl rfl, by show (0 : Int) ≤ 0 ∧ (0 : Int) ≤ 6; omega⟩, ?_, Int.le_refl _⟩, ?_⟩
  · rw [h1, h2]; rfl
  · unfold ph
    rw [h2]
    have : sm (cl lo_0) 12 = 0 := rfl
    omega
def ouS (X : ax_Mem) (mn : Int) : ax_Mem := lo_run X mn 9999 1 lo_0
def ouT (X : ax_Mem) (mn : Int) : Nat := lo_cnt X mn 9999 1 lo_0
theorem ou_end {X : ax_Mem} {mn : Int} (hw : WP X) : X 2 7 ≤ ouS X mn 4 0 ∧ ouS X mn 4 1 = ouT X mn := by
  obtain ⟨a, b⟩ := lo_0_ok hw
  have c := lo_run_done (mn := mn) hw 9999 1 lo_0 a (by omega)
  refine ⟨c, ?_⟩
  have := lo_run_4 (mn := mn) 9999 1 lo_0 c (fun _ => rfl)
  unfold ouS ouT
  omega
