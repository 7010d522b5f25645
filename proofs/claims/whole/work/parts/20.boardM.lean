/-! the reference's boarding beside the class's -/
def RBp (X Y : ax_Mem) (p : Nat) : Prop := X 45 p = Y 5 p ∧ X 46 p = Y 6 p ∧ X 49 p = Y 9 p ∧ X 50 p = Y 10 p ∧ X 51 p = Y 11 p ∧ X 6 p = Y 1 (7 * p + 3) ∧ X 7 p = Y 1 (7 * p + 4) ∧ (∀ j, j < 3 → X (54 + p) j = Y 13 (3 * p + j))
def RB (X Y : ax_Mem) : Prop := (X 44 10 = Y 0 13 ∧ X 44 11 = Y 0 2 ∧ X 44 12 = Y 0 17 ∧ X 44 13 = Y 0 26 ∧ X 44 14 = Y 0 24) ∧ (∀ i : Nat, (i : Int) < X 44 12 → X 47 i = Y 7 i ∧ RBp X Y (X 47 i).toNat) ∧ (∀ k : Nat, k < 12 → X 53 k = Y 8 k ∧ X 48 k = X 44 11 - Y 12 k)
/-- what the reference's boarding leaves as it was -/
def FB (Y Z : ax_Mem) : Prop := (∀ k, k ≠ 0 → k < 8 ∨ 13 < k → Z k = Y k) ∧ (∀ f, f ≠ 24 → f ≠ 26 → Z 0 f = Y 0 f)
theorem FB.rf (Y : ax_Mem) : FB Y Y := ⟨fun _ _ _ => rfl, fun _ _ _ => rfl⟩
theorem FB.tr {A B C : ax_Mem} (h : FB A B) (k : FB B C) : FB A C := ⟨fun a h0 h1 => (k.1 a h0 h1).trans (h.1 a h0 h1), fun f a b => (k.2 f a b).trans (h.2 f a b)⟩
theorem FB.u {Y Z : ax_Mem} {k j : Nat} {v : Int} (h : FB Y Z) (hk : 8 ≤ k) (hk2 : k ≤ 13) : FB Y (ax_u Z k j v) := ⟨fun a h0 h1 => by rw [ax_u_cell (by omega)]; exact h.1 a h0 h1, fun f a b => by rw [ax_u_cell (by omega)]; exact h.2 f a b⟩
theorem FB.f {Y Z : ax_Mem} {j : Nat} {v : Int} (h : FB Y Z) (hj : j = 24 ∨ j = 26) : FB Y (ax_u Z 0 j v) := ⟨fun a h0 h1 => by rw [ax_u_cell h0]; exact h.1 a h0 h1, fun f a b => by rw [ax_us (by omega)]; exact h.2 f a b⟩
theorem rb_49 {X Y : ax_Mem} {p : Nat} {v : Int} (h : RB X Y) : RB (ax_u X 49 p v) (ax_u Y 9 p v) := by
  obtain ⟨h1, h2, h3⟩ := h
  refine ⟨h1, fun i hi => ?_, h3⟩
  obtain ⟨a, b1, b2, b3, b4, b5, b6, b7, b8⟩ := h2 i hi
  refine ⟨a, b1, b2, ?_, b4, b5, b6, b7, fun j hj => ?_⟩
  · show ax_u X 49 p v 49 (X 47 i).toNat = ax_u Y 9 p v 9 (X 47 i).toNat
    rw [ax_uu, ax_uu, b3]
  · show ax_u X 49 p v (54 + (X 47 i).toNat) j = Y 13 (3 * (X 47 i).toNat + j)
    rw [ax_u_cell (by omega)]; exact b8 j hj
theorem rb_50 {X Y : ax_Mem} {p : Nat} {v : Int} (h : RB X Y) : RB (ax_u X 50 p v) (ax_u Y 10 p v) := by
  obtain ⟨h1, h2, h3⟩ := h
  refine ⟨h1, fun i hi => ?_, h3⟩
  obtain ⟨a, b1, b2, b3, b4, b5, b6, b7, b8⟩ := h2 i hi
  refine ⟨a, b1, b2, b3, ?_, b5, b6, b7, fun j hj => ?_⟩
  · show ax_u X 50 p v 50 (X 47 i).toNat = ax_u Y 10 p v 10 (X 47 i).toNat
    rw [ax_uu, ax_uu, b4]
  · show ax_u X 50 p v (54 + (X 47 i).toNat) j = Y 13 (3 * (X 47 i).toNat + j)
    rw [ax_u_cell (by omega)]; exact b8 j hj
theorem rb_51 {X Y : ax_Mem} {p : Nat} {v : Int} (h : RB X Y) : RB (ax_u X 51 p v) (ax_u Y 11 p v) := by
  obtain ⟨h1, h2, h3⟩ := h
  refine ⟨h1, fun i hi => ?_, h3⟩
  obtain ⟨a, b1, b2, b3, b4, b5, b6, b7, b8⟩ := h2 i hi
  refine ⟨a, b1, b2, b3, b4, ?_, b6, b7, fun j hj => ?_⟩
  · show ax_u X 51 p v 51 (X 47 i).toNat = ax_u Y 11 p v 11 (X 47 i).toNat
    rw [ax_uu, ax_uu, b5]
  · show ax_u X 51 p v (54 + (X 47 i).toNat) j = Y 13 (3 * (X 47 i).toNat + j)
    rw [ax_u_cell (by omega)]; exact b8 j hj
theorem rb_53 {X Y : ax_Mem} {k : Nat} {v : Int} (h : RB X Y) : RB (ax_u X 53 k v) (ax_u Y 8 k v) := by
  obtain ⟨h1, h2, h3⟩ := h
  refine ⟨h1, fun i hi => ?_, fun l hl => ?_⟩
  · obtain ⟨a, b1, b2, b3, b4, b5, b6, b7, b8⟩ := h2 i hi
    refine ⟨a, b1, b2, b3, b4, b5, b6, b7, fun j hj => ?_⟩
    show ax_u X 53 k v (54 + (X 47 i).toNat) j = Y 13 (3 * (X 47 i).toNat + j)
    rw [ax_u_cell (by omega)]; exact b8 j hj
  · obtain ⟨a, b⟩ := h3 l hl
    refine ⟨?_, b⟩
    rw [ax_uu, ax_uu, a]
theorem rb_44 {X Y : ax_Mem} {v : Int} (h : RB X Y) : RB (ax_u X 44 13 v) (ax_u Y 0 26 v) ∧ RB (ax_u X 44 14 v) (ax_u Y 0 24 v) ∧ RB (ax_u X 44 15 v) Y ∧ RB X (ax_u Y 0 25 v) := by
  obtain ⟨h1, h2, h3⟩ := h
  have key : ∀ b, b ≠ 12 → ∀ i : Nat, (i : Int) < X 44 12 → ∀ Z : ax_Mem, (∀ a, a ≠ 0 → Z a = Y a) → X 47 i = Z 7 i ∧ RBp (ax_u X 44 b v) Z (X 47 i).toNat := by
    intro b hb i hi Z hZ
    obtain ⟨a, b1, b2, b3, b4, b5, b6, b7, b8⟩ := h2 i hi
    refine ⟨by rw [hZ 7 (by omega)]; exact a, ?_⟩
    unfold RBp
    rw [hZ 5 (by omega), hZ 6 (by omega), hZ 9 (by omega), hZ 10 (by omega), hZ 11 (by omega), hZ 1 (by omega), hZ 13 (by omega)]
    refine ⟨b1, b2, b3, b4, b5, b6, b7, fun j hj => ?_⟩
    rw [ax_u_cell (by omega)]; exact b8 j hj
  have hz : ∀ f, ∀ a, a ≠ 0 → ax_u Y 0 f v a = Y a := fun f a ha => ax_u_cell ha
  refine ⟨⟨⟨h1.1, h1.2.1, h1.2.2.1, rfl, h1.2.2.2.2⟩, fun i hi => key 13 (by omega) i hi _ (hz 26), h3⟩, ⟨⟨h1.1, h1.2.1, h1.2.2.1, h1.2.2.2.1, rfl⟩, fun i hi => key 14 (by omega) i hi _ (hz 24), h3⟩, ⟨h1, fun i hi => key 15 (by omega) i hi _ (fun _ _ => rfl), h3⟩, ⟨h1, fun i hi => ?_, h3⟩⟩
  exact h2 i hi
theorem rb_bin {X Y : ax_Mem} {p j0 : Nat} {v : Int} (h : RB X Y) (hj0 : j0 < 3) : RB (ax_u X (54 + p) j0 v) (ax_u Y 13 (3 * p + j0) v) := by
  obtain ⟨h1, h2, h3⟩ := h
  have e : ∀ a, a < 54 → ax_u X (54 + p) j0 v a = X a := fun a ha => ax_u_cell (by omega)
  unfold RB
  rw [e 44 (by omega), e 47 (by omega), e 53 (by omega), e 48 (by omega)]
  refine ⟨h1, fun i hi => ?_, h3⟩
  obtain ⟨a, b1, b2, b3, b4, b5, b6, b7, b8⟩ := h2 i hi
  refine ⟨a, ?_⟩
  unfold RBp
  rw [e 45 (by omega), e 46 (by omega), e 49 (by omega), e 50 (by omega), e 51 (by omega), e 6 (by omega), e 7 (by omega)]
  refine ⟨b1, b2, b3, b4, b5, b6, b7, fun j hj => ?_⟩
  by_cases c : (X 47 i).toNat = p
  · rw [c, ax_uu, ax_uu]
    by_cases d : j = j0
    · rw [if_pos d, if_pos (by omega)]
    · rw [if_neg d, if_neg (by omega), ← c]; exact b8 j hj
  · rw [ax_u_cell (by omega), ax_us (by omega)]; exact b8 j hj
theorem rb_left {X Y : ax_Mem} {k : Nat} (h : RB X Y) (hk : k < 12) : RB (ax_u X 48 k (X 48 k - 1)) (ax_u Y 12 k (Y 12 k + 1)) := by
  obtain ⟨h1, h2, h3⟩ := h
  refine ⟨h1, fun i hi => ?_, fun l hl => ?_⟩
  · obtain ⟨a, b1, b2, b3, b4, b5, b6, b7, b8⟩ := h2 i hi
    refine ⟨a, b1, b2, b3, b4, b5, b6, b7, fun j hj => ?_⟩
    show ax_u X 48 k (X 48 k - 1) (54 + (X 47 i).toNat) j = Y 13 (3 * (X 47 i).toNat + j)
    rw [ax_u_cell (by omega)]; exact b8 j hj
  · obtain ⟨a, b⟩ := h3 l hl
    refine ⟨a, ?_⟩
    show ax_u X 48 k (X 48 k - 1) 48 l = X 44 11 - ax_u Y 12 k (Y 12 k + 1) 12 l
    rw [ax_uu, ax_uu]
    by_cases c : l = k
    · rw [if_pos c, if_pos c, ← c]; omega
    · rw [if_neg c, if_neg c]; exact b
theorem hM_nearestBin {Y : ax_Mem} {P : Int → ax_Mem → Prop} {r : Int} (f : Nat → Int) (hf : ∀ k, k < 12 → f k = Y 0 2 - Y 12 k) (h0 : 0 ≤ r) (h1 : r < Y 0 13) (h2 : Y 0 13 ≤ 12) (h : P (nb f (Y 0 13) r (Y 0 13).toNat 0) Y) : kM_nearestBin [.inr (.inr 0), .inl r] Y P := by
  apply eM_nearestBin
  have key : ∀ (n : Nat) (w : Int), 0 ≤ w → w + n = Y 0 13 → P (nb f (Y 0 13) r n w) Y → jM_nearestBin P 2 [(0, .inr (.inr 0)), (1, .inl r), (2, .inl w)] [] Y := by
    intro n
    induction n with
    | zero =>
      intro w hw hn hp
      apply gM_nearestBin_2
      exact ⟨fun _ => hp, fun h => absurd (show Y 0 13 ≤ w by omega) h⟩
    | succ n ih =>
      intro w hw hn hp
      unfold nb at hp
      apply gM_nearestBin_2
      have f1 : 0 ≤ r - w → f (r - w).toNat = Y 0 2 - Y 12 (r - w).toNat := fun _ => hf _ (by omega)
      have f2 : r + w < Y 0 13 → f (r + w).toNat = Y 0 2 - Y 12 (r + w).toNat := fun _ => hf _ (by omega)
      refine ⟨fun h => by omega, fun _ => ⟨by omega, fun c1 => ⟨by omega, fun c2 => ⟨by omega, ?_⟩, fun c2 => ⟨by omega, fun c3 => ⟨by omega, ?_⟩, fun c3 => ?_⟩⟩, fun c1 => ⟨by omega, fun c2 => ⟨by omega, fun c3 => ⟨by omega, ?_⟩, fun c3 => ⟨by omega, fun c4 => ⟨by omega, ?_⟩, fun c4 => ?_⟩⟩, fun c2 => ?_⟩⟩⟩
      · rw [if_neg (by omega), if_neg (by omega)] at hp
        exact ih (w + 1) (by omega) (by omega) hp
      · have := f2 (by omega)
        rw [if_neg (by omega), if_neg (by omega)] at hp
        exact ih (w + 1) (by omega) (by omega) hp
      · have := f2 (by omega)
        rw [if_neg (by omega), if_pos (by omega)] at hp
        exact hp
      · have := f1 (by omega)
        rw [if_neg (by omega), if_neg (by omega)] at hp
        exact ih (w + 1) (by omega) (by omega) hp
      · have := f1 (by omega)
        have := f2 (by omega)
        rw [if_neg (by omega), if_neg (by omega)] at hp
        exact ih (w + 1) (by omega) (by omega) hp
      · have := f1 (by omega)
        have := f2 (by omega)
        rw [if_neg (by omega), if_pos (by omega)] at hp
        exact hp
      · have := f1 (by omega)
        rw [if_pos (by omega)] at hp
        exact hp
  exact key (Y 0 13).toNat 0 (by omega) (by omega) h
theorem hM_sideOf {Y : ax_Mem} {P : Int → ax_Mem → Prop} {v : Int} (hv : 0 ≤ v ∧ v < 12) (h : P (Y 1 (7 * v.toNat + 3)) Y) : kM_sideOf [.inr (.inr 0), .inl v] Y P := by
  apply eM_sideOf
  rw [show (7 * v + 3).toNat = 7 * v.toNat + 3 by omega]
  exact ⟨by omega, by omega, by omega, h⟩
theorem hM_depthOf {Y : ax_Mem} {P : Int → ax_Mem → Prop} {v : Int} (hv : 0 ≤ v ∧ v < 12) (h : P (Y 1 (7 * v.toNat + 4)) Y) : kM_depthOf [.inr (.inr 0), .inl v] Y P := by
  apply eM_depthOf
  rw [show (7 * v + 4).toNat = 7 * v.toNat + 4 by omega]
  exact ⟨by omega, by omega, by omega, h⟩
theorem iw_eq {X Y : ax_Mem} {p : Nat} (h : RB X Y) (hp : RBp X Y p) : ∀ n : Nat, (n : Int) ≤ X 44 12 → iw (X 47) (X 50) (X 45) (X 6) (X 7) p n = iw (Y 7) (Y 10) (Y 5) (fun q => Y 1 (7 * q + 3)) (fun q => Y 1 (7 * q + 4)) p n
  | 0, _ => rfl
  | n + 1, hn => by
    obtain ⟨a, b1, b2, b3, b4, b5, b6, b7, b8⟩ := h.2.1 n (by omega)
    obtain ⟨c1, c2, c3, c4, c5, c6, c7, c8⟩ := hp
    simp only [iw]
    rw [iw_eq h ⟨c1, c2, c3, c4, c5, c6, c7, c8⟩ n (by omega), ← a, b1, b4, b6, b7, c1, c6, c7]
