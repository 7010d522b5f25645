/-! letters -/
def bn (a i : Nat) : Nat := a / 2 ^ (8 * i) % 256
def lw (a : Nat) : Nat → Int
  | 0 => 0
  | k + 1 => if lw a k = -1 then -1 else if 126 < (bn a k : Int) ∨ (¬ lw a k = k ∧ ¬ (bn a k : Int) = 0) then -1 else if (bn a k : Int) = 0 then lw a k else lw a k + 1
theorem lw_s (a k : Nat) : lw a (k + 1) = if lw a k = -1 then -1 else if 126 < (bn a k : Int) ∨ (¬ lw a k = k ∧ ¬ (bn a k : Int) = 0) then -1 else if (bn a k : Int) = 0 then lw a k else lw a k + 1 := rfl
theorem lw_ok (a : Nat) : ∀ k : Nat, lw a k = -1 ∨ ((0 ≤ lw a k ∧ lw a k ≤ k) ∧ ∀ i : Nat, (i : Int) < lw a k → 1 ≤ bn a i ∧ bn a i ≤ 126)
  | 0 => Or.inr ⟨by simp [lw], fun i hi => by simp [lw] at hi; omega⟩
  | k + 1 => by
    rw [lw_s]
    rcases lw_ok a k with h | ⟨h1, h2⟩
    · rw [if_pos h]; exact Or.inl rfl
    · rw [if_neg (by omega)]
      by_cases c : 126 < (bn a k : Int) ∨ (¬ lw a k = k ∧ ¬ (bn a k : Int) = 0)
      · rw [if_pos c]; exact Or.inl rfl
      · rw [if_neg c]
        by_cases d : (bn a k : Int) = 0
        · rw [if_pos d]; exact Or.inr ⟨by omega, h2⟩
        · rw [if_neg d]
          refine Or.inr ⟨by omega, fun i hi => ?_⟩
          by_cases e : i = k
          · subst e; omega
          · exact h2 i (by omega)
theorem lw_stick (a k : Nat) (h : lw a k = -1) : ∀ d, lw a (k + d) = -1
  | 0 => h
  | d + 1 => by rw [show k + (d + 1) = (k + d) + 1 by omega, lw_s, if_pos (lw_stick a k h d)]
theorem bn_i {w : Int} {a i : Nat} (ha : w % 2 ^ 64 = (a : Int)) : ((w % 2 ^ 64) / 2 ^ (8 * (i : Int)).toNat) % 2 ^ 8 = (bn a i : Int) := by
  rw [ha, show (8 * (i : Int)).toNat = 8 * i by omega, p2_i, ← Int.natCast_ediv]
  unfold bn
  rw [show (2 : Int) ^ 8 = ((256 : Nat) : Int) from rfl, ← Int.natCast_emod]
theorem hG_codeIn {X : ax_Mem} {P : Int → ax_Mem → Prop} {w : Int} {a i : Nat} (ha : w % 2 ^ 64 = (a : Int)) (hi : i < 8) (k : P (bn a i) X) : kG_codeIn [.inr (.inl w), .inl (i : Int)] X P := by
  apply eG_codeIn
  rw [bn_i ha]
  have : bn a i < 256 := Nat.mod_lt _ (by omega)
  exact ⟨by omega, by omega, by omega, k⟩
theorem hG_lettersIn {X : ax_Mem} {P : Int → ax_Mem → Prop} {w : Int} {a : Nat} (ha : w % 2 ^ 64 = (a : Int)) (k : P (lw a 8) X) : kG_lettersIn [.inr (.inl w)] X P := by
  apply eG_lettersIn
  refine up_loop (Q := fun i => ∀ e : Int, ¬ lw a i = -1 → (e = 0 ↔ lw a i = i) → jG_lettersIn P 7 [(0, .inr (.inl w)), (2, .inl (lw a i)), (3, .inl e), (4, .inl (i : Int))] [] X) 8 ?_ ?_ 0 (Nat.zero_le _) 0 (by simp [lw]) (by simp [lw])
  · intro e _ _
    apply gG_lettersIn_7
    exact ⟨fun _ => k, fun c => by omega⟩
  · intro i hi hQ e hne he
    have hb := (lw_ok a i).resolve_left hne
    apply gG_lettersIn_7
    refine ⟨fun c => by omega, fun _ => ?_⟩
    apply hG_codeIn ha hi
    have hbad : (126 < (bn a i : Int) ∨ (¬ lw a i = i ∧ ¬ (bn a i : Int) = 0)) → P (-1) X := by
      intro hc
      have e1 : lw a (i + 1) = -1 := by rw [lw_s, if_neg hne, if_pos hc]
      have e2 := lw_stick a (i + 1) e1 (8 - (i + 1))
      rw [show i + 1 + (8 - (i + 1)) = 8 by omega] at e2
      rw [e2] at k
      exact k
    have go0 : (bn a i : Int) = 0 → jG_lettersIn P 7 [(0, .inr (.inl w)), (2, .inl (lw a i)), (3, .inl 1), (4, .inl ((i : Int) + 1))] [] X := by
      intro hz
      have e1 : lw a (i + 1) = lw a i := by rw [lw_s, if_neg hne, if_neg (by omega), if_pos hz]
      have := hQ 1 (by rw [e1]; exact hne) (by rw [e1]; omega)
      rw [e1, ← to1] at this
      exact this
    have go1 : ¬ (bn a i : Int) = 0 → ¬ 126 < (bn a i : Int) → lw a i = i → jG_lettersIn P 7 [(0, .inr (.inl w)), (2, .inl (lw a i + 1)), (3, .inl e), (4, .inl ((i : Int) + 1))] [] X := by
      intro h1 h2 h3
      have e1 : lw a (i + 1) = lw a i + 1 := by rw [lw_s, if_neg hne, if_neg (by omega), if_neg h1]
      have := hQ e (by rw [e1]; omega) (by rw [e1]; omega)
      rw [e1, ← to1] at this
      exact this
    refine ⟨fun c => hbad (Or.inl c), fun c => ⟨fun d => ⟨fun g => ⟨by omega, by omega, go1 g c (he.mp d)⟩, fun g => ⟨by omega, go0 g⟩⟩, fun d => ⟨fun g => ⟨fun l => absurd g l, fun _ => ⟨by omega, go0 g⟩⟩, fun g => hbad (Or.inr ⟨fun z => d (he.mpr z), g⟩)⟩⟩⟩
/-- letters on the page, class and reference -/
def PW (X Z : ax_Mem) (a m : Nat) : Prop := (∀ k, k ≠ 13 → k ≠ 14 → Z k = X k) ∧ Z 13 1 = X 13 1 + m ∧ ∀ j, Z 14 j = if (X 13 1).toNat ≤ j ∧ j < (X 13 1).toNat + m then (bn a (j - (X 13 1).toNat) : Int) else X 14 j
theorem hG_write {X : ax_Mem} {P : Int → ax_Mem → Prop} {w : Int} {a m : Nat} (ha : w % 2 ^ 64 = (a : Int)) (hm : m ≤ 8) (hs : 0 ≤ X 13 1 ∧ X 13 1 + m ≤ 16) (k : ∀ Z, PW X Z a m → P 0 Z) : kG_write [.inr (.inr 13), .inr (.inl w), .inl (m : Int)] X P := by
  apply eG_write
  refine up_loop (Q := fun i => ∀ Z : ax_Mem, PW X Z a i → jG_write P 3 [(0, .inr (.inr 13)), (1, .inr (.inl w)), (3, .inl (m : Int)), (4, .inl (i : Int))] [] Z) m ?_ ?_ 0 (Nat.zero_le _) X ⟨fun _ _ _ => rfl, by omega, fun j => by rw [if_neg (by omega)]⟩
  · intro Z hZ
    apply gG_write_3
    exact ⟨fun _ => k Z hZ, fun c => by omega⟩
  · intro i hi hQ Z hZ
    obtain ⟨z1, z2, z3⟩ := id hZ
    have hb : bn a i < 256 := Nat.mod_lt _ (by omega)
    apply gG_write_3
    rw [z2]
    refine ⟨fun c => by omega, fun _ => ⟨fun c => by omega, fun _ => ?_⟩⟩
    apply hG_codeIn ha (by omega)
    rw [z2]
    refine ⟨by omega, ⟨by omega, by omega⟩, by omega, by omega, ?_⟩
    rw [to1]
    refine hQ _ ⟨fun q h1 h2 => by rw [ax_u_cell h1, ax_u_cell h2]; exact z1 q h1 h2, by rw [ax_uu, if_pos rfl]; omega, fun j => ?_⟩
    rw [ax_u_cell (by omega), ax_uu, z3]
    by_cases d : j = (X 13 1).toNat + i
    · rw [if_pos (by omega), if_pos (by omega), show j - (X 13 1).toNat = i by omega]
    · rw [if_neg (by omega)]
      by_cases g : (X 13 1).toNat ≤ j ∧ j < (X 13 1).toNat + i
      · rw [if_pos g, if_pos (by omega)]
      · rw [if_neg g, if_neg (by omega)]
def PY (Y Z : ax_Mem) (a m : Nat) : Prop := (∀ k, k ≠ 0 → k ≠ 2 → Z k = Y k) ∧ (∀ f, f ≠ 7 → Z 0 f = Y 0 f) ∧ Z 0 7 = Y 0 7 + m ∧ ∀ j, Z 2 j = if (Y 0 7).toNat ≤ j ∧ j < (Y 0 7).toNat + m then (bn a (j - (Y 0 7).toNat) : Int) else Y 2 j
theorem hM_letW {Y : ax_Mem} {P : Int → ax_Mem → Prop} {w : Int} {a m : Nat} (ha : w % 2 ^ 64 = (a : Int)) (hm : m ≤ 8) (hs : 0 ≤ Y 0 7 ∧ Y 0 7 + m ≤ 16) (k : ∀ Z, PY Y Z a m → P (Z 0 7) Z) : jM_letters P 108 [(0, .inr (.inr 0)), (1, .inr (.inl w)), (3, .inl (m : Int)), (7, .inl 0)] [] Y := by
  refine up_loop (Q := fun i => ∀ Z : ax_Mem, PY Y Z a i → jM_letters P 108 [(0, .inr (.inr 0)), (1, .inr (.inl w)), (3, .inl (m : Int)), (7, .inl (i : Int))] [] Z) m ?_ ?_ 0 (Nat.zero_le _) Y ⟨fun _ _ _ => rfl, fun _ _ => rfl, by omega, fun j => by rw [if_neg (by omega)]⟩
  · intro Z hZ
    apply gM_letters_108
    exact ⟨fun _ => k Z hZ, fun c => by omega⟩
  · intro i hi hQ Z hZ
    obtain ⟨z1, z0, z2, z3⟩ := id hZ
    have hb : bn a i < 256 := Nat.mod_lt _ (by omega)
    apply gM_letters_108
    rw [z2, bn_i ha]
    refine ⟨fun c => by omega, fun _ => ⟨by omega, by omega, by omega, by omega, by omega, ?_⟩⟩
    rw [to1]
    refine hQ _ ⟨fun q h1 h2 => by rw [ax_u_cell h1, ax_u_cell h2]; exact z1 q h1 h2, fun f hf => by rw [ax_us hf, ax_u_cell (by omega)]; exact z0 f hf, by rw [ax_uu, if_pos rfl]; omega, fun j => ?_⟩
    rw [ax_u_cell (by omega), ax_uu, z3]
    by_cases d : j = (Y 0 7).toNat + i
    · rw [if_pos (by omega), if_pos (by omega), show j - (Y 0 7).toNat = i by omega]
    · rw [if_neg (by omega)]
      by_cases g : (Y 0 7).toNat ≤ j ∧ j < (Y 0 7).toNat + i
      · rw [if_pos g, if_pos (by omega)]
      · rw [if_neg g, if_neg (by omega)]
theorem hM_letters {Y : ax_Mem} {P : Int → ax_Mem → Prop} {w : Int} {a : Nat} (ha : w % 2 ^ 64 = (a : Int)) (hy : 0 ≤ Y 0 7 ∧ Y 0 7 ≤ 16) (k0 : lw a 8 = -1 → P (-102) Y) (k1 : ¬ lw a 8 = -1 → 16 < Y 0 7 + lw a 8 → P (-104) Y) (k2 : ¬ lw a 8 = -1 → Y 0 7 + lw a 8 ≤ 16 → ∀ Z, PY Y Z a (lw a 8).toNat → P (Z 0 7) Z) : kM_letters [.inr (.inr 0), .inr (.inl w)] Y P := by
  have hal : (a : Int) < 2 ^ 64 := by rw [← ha]; exact Int.emod_lt_of_pos _ (by decide)
  apply eM_letters
  refine up_loop (Q := fun i => ∀ m g v5 : Int, v5 % 2 ^ 64 = ((a / 2 ^ (8 * i) : Nat) : Int) → ((lw a i = -1 ∧ g = 0 ∧ 0 ≤ m ∧ m ≤ i) ∨ (¬ lw a i = -1 ∧ g = 1 ∧ m = lw a i)) → jM_letters P 11 [(0, .inr (.inr 0)), (1, .inr (.inl w)), (3, .inl m), (4, .inl g), (5, .inr (.inl v5)), (7, .inl (i : Int))] [] Y) 8 ?_ ?_ 0 (Nat.zero_le _) 0 1 w (by rw [ha]; simp) (Or.inr ⟨by simp [lw], rfl, rfl⟩)
  · intro m g v5 h5 hs
    have hb := lw_ok a 8
    apply gM_letters_11
    refine ⟨fun _ => ⟨fun c => ?_, fun c => ?_⟩, fun c => by omega⟩
    · have hs := hs.resolve_left (fun z => by omega)
      have hb := hb.resolve_left hs.1
      rw [hs.2.2]
      refine ⟨by omega, fun d => ?_, fun d => k1 hs.1 (by omega)⟩
      have := hM_letW (P := P) (m := (lw a 8).toNat) ha (by omega) (by omega) (k2 hs.1 d)
      rw [show (((lw a 8).toNat : Nat) : Int) = lw a 8 by omega] at this
      exact this
    · have hs := hs.resolve_right (fun z => by omega)
      exact k0 hs.1
  · intro i hi hQ m g v5 h5 hs
    have hbn : v5 % 2 ^ 8 = (bn a i : Int) := by
      have e1 : v5 % 2 ^ 8 = v5 % 2 ^ 64 % 2 ^ 8 := by omega
      rw [e1, h5]
      unfold bn
      rw [show (2 : Int) ^ 8 = ((256 : Nat) : Int) from rfl, ← Int.natCast_emod]
    have hb256 : bn a i < 256 := Nat.mod_lt _ (by omega)
    have hlw := lw_ok a i
    have hn5 : ((v5 % 2 ^ 64) / 2 ^ 8) % 2 ^ 64 = ((a / 2 ^ (8 * (i + 1)) : Nat) : Int) := by
      rw [h5, show (2 : Int) ^ 8 = ((2 ^ 8 : Nat) : Int) from rfl, ← Int.natCast_ediv, Nat.div_div_eq_div_mul, ← Nat.pow_add, show 8 * i + 8 = 8 * (i + 1) by omega]
      refine Int.emod_eq_of_lt (nnn _) ?_
      exact Int.lt_of_le_of_lt (Int.ofNat_le.mpr (Nat.div_le_self _ _)) hal
    -- the next step, by the letter and the flag
    have nx62 : ∀ g2 : Int, ((lw a (i + 1) = -1 ∧ g2 = 0) ∨ (¬ lw a (i + 1) = -1 ∧ g2 = 1 ∧ (if (bn a i : Int) ≤ 0 then m else m + 1) = lw a (i + 1))) → 0 ≤ m ∧ m ≤ i → jM_letters P 62 [(0, .inr (.inr 0)), (1, .inr (.inl w)), (3, .inl m), (5, .inr (.inl ((v5 % 2 ^ 64) / 2 ^ 8))), (7, .inl (i : Int)), (8, .inl (bn a i : Int))] [.inl g2] Y := by
      intro g2 hg2 hm
      apply gM_letters_62
      refine ⟨fun c => ?_, fun c => ?_⟩
      · apply gM_letters_75
        rw [to1]
        refine ⟨by omega, by omega, hQ (m + 0) g2 _ hn5 ?_⟩
        rw [if_pos c] at hg2
        rcases hg2 with z | z
        · exact Or.inl ⟨z.1, z.2, by omega⟩
        · exact Or.inr ⟨z.1, z.2.1, by omega⟩
      · apply gM_letters_75
        rw [to1]
        refine ⟨by omega, by omega, hQ (m + 1) g2 _ hn5 ?_⟩
        rw [if_neg c] at hg2
        rcases hg2 with z | z
        · exact Or.inl ⟨z.1, z.2, by omega⟩
        · exact Or.inr ⟨z.1, z.2.1, by omega⟩
    have hmb : 0 ≤ m ∧ m ≤ i := by
      rcases hs with z | z
      · omega
      · have := hlw.resolve_left z.1; omega
    apply gM_letters_11
    rw [hbn]
    have hls := lw_s a i
    refine ⟨fun c => by omega, fun _ => ⟨by omega, by omega, fun c => ?_, fun c => ?_⟩⟩
    · have hs := hs.resolve_right (fun z => by omega)
      apply gM_letters_61
      exact nx62 0 (Or.inl ⟨by rw [hls, if_pos hs.1], rfl⟩) hmb
    · have hs := hs.resolve_left (fun z => by omega)
      rw [if_neg hs.1] at hls
      refine ⟨fun d => ?_, fun d => ⟨fun e => ?_, fun e => ⟨fun l => ?_, fun l => ?_⟩⟩⟩
      · apply gM_letters_61
        exact nx62 0 (Or.inl ⟨by rw [hls, if_pos (Or.inl d)], rfl⟩) hmb
      · apply gM_letters_57
        rw [if_neg (by omega), if_pos e] at hls
        exact nx62 1 (Or.inr ⟨by rw [hls]; exact hs.1, rfl, by rw [if_pos (by omega), hls]; exact hs.2.2⟩) hmb
      · apply gM_letters_61
        exact nx62 0 (Or.inl ⟨by rw [hls, if_pos (Or.inr ⟨by omega, e⟩)], rfl⟩) hmb
      · apply gM_letters_57
        rw [if_neg (by omega), if_neg e] at hls
        have := hlw.resolve_left hs.1
        exact nx62 1 (Or.inr ⟨by omega, rfl, by rw [if_neg (by omega), hls, hs.2.2]⟩) hmb
theorem q_letters {t : Int} {X Y : ax_Mem} {w : Int} (h : INV t X Y) : kX_letters [.inr (.inr 0), .inr (.inl w)] X (fun r X2 => kM_letters [.inr (.inr 0), .inr (.inl w)] Y (fun r2 Y2 => r2 = r ∧ INV (t + 1) X2 Y2)) := by
  obtain ⟨i1, i2, i3, i4, i5, i6, i7, i8⟩ := id h
  obtain ⟨a, ha⟩ : ∃ a : Nat, w % 2 ^ 64 = (a : Int) := ⟨(w % 2 ^ 64).toNat, by have := Int.emod_nonneg w (show (2 : Int) ^ 64 ≠ 0 by decide); omega⟩
  have p1 := i5.1
  have y7 := i5.2.1
  apply eX_letters
  apply hG_lettersIn ha
  have hb := lw_ok a 8
  refine ⟨fun c => ?_, fun c => ?_⟩
  · have hb := hb.resolve_left c
    refine ⟨by omega, fun d => ?_, fun d => ?_⟩
    · have hw : (((lw a 8).toNat : Nat) : Int) = lw a 8 := by omega
      rw [← hw]
      apply hG_write ha (by omega) (by omega)
      intro Z hZ
      apply hM_letters ha (by omega) (fun z => absurd z c) (fun _ z => by omega)
      intro _ _ W hW
      obtain ⟨z1, z2, z3⟩ := hZ
      obtain ⟨v1, v0, v2, v3⟩ := hW
      refine ⟨by omega, ?_, ?_, ?_, ?_, ⟨by omega, by omega, fun j hj => ?_⟩, CL_of i6 (fun q h1 h2 => z1 q (by omega) (by omega)) (by rw [z1 0 (by omega) (by omega)]) (v1 3 (by omega) (by omega)) (v0 8 (by omega)), ?_, ?_⟩
      · unfold WP
        rw [z1 1 (by omega) (by omega), z1 2 (by omega) (by omega), z1 3 (by omega) (by omega), z1 4 (by omega) (by omega), z1 5 (by omega) (by omega), z1 6 (by omega) (by omega), z1 7 (by omega) (by omega), z1 8 (by omega) (by omega), z1 9 (by omega) (by omega)]
        exact i1
      · unfold RP
        rw [z1 1 (by omega) (by omega), z1 2 (by omega) (by omega), z1 3 (by omega) (by omega), z1 4 (by omega) (by omega), z1 5 (by omega) (by omega), z1 6 (by omega) (by omega), z1 7 (by omega) (by omega), z1 8 (by omega) (by omega), z1 9 (by omega) (by omega), v0 0 (by omega), v0 1 (by omega), v0 2 (by omega), v0 4 (by omega), v1 1 (by omega) (by omega)]
        exact i2
      · rw [z1 1 (by omega) (by omega)]; exact i3
      · rw [z1 1 (by omega) (by omega), v0 3 (by omega)]; exact ⟨i4.1, i4.2.1, by omega⟩
      · rw [v3, z3, y7]
        by_cases g : (X 13 1).toNat ≤ j ∧ j < (X 13 1).toNat + (lw a 8).toNat
        · rw [if_pos g, if_pos g]
          have := hb.2 (j - (X 13 1).toNat) (by omega)
          exact ⟨rfl, by omega, by omega⟩
        · rw [if_neg g, if_neg g]
          exact i5.2.2 j (by omega)
      · rw [z1 0 (by omega) (by omega), v0 27 (by omega)]; exact i7
      · unfold IM; rw [z1 10 (by omega) (by omega), z1 11 (by omega) (by omega), z1 12 (by omega) (by omega), z1 2 (by omega) (by omega), v0 33 (by omega), v0 34 (by omega), v0 3 (by omega), v1 18 (by omega) (by omega)]; exact i8
    · apply hM_letters ha (by omega) (fun z => absurd z c) (fun _ z => ⟨rfl, inv_id h⟩) (fun _ z => by omega)
  · apply hM_letters ha (by omega) (fun z => ⟨rfl, inv_id h⟩) (fun z => absurd c z) (fun z => absurd c z)
