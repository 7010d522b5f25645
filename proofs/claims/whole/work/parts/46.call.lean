/-! fault, call -/
def dn (due k c : Int) : Int := if due = 0 then (if c = 98 ∨ c = 102 then 1 else if c = 97 ∨ c = 103 ∨ c = 111 ∨ c = 115 ∨ c = 119 then 2 else 3) else if due = 1 then (if c < 49 then 3 else if 57 < c then 3 else 2) else (if c = 44 then (if 4 ≤ k then 3 else 0) else 3)
def kup (due k : Int) : Int := if due = 0 then k + 1 else k
def pf (L : Nat → Int) : Nat → Nat → Int → Int → Int × Int
  | 0, i, due, _ => ((i : Int), due)
  | d + 1, i, due, k => if dn due (kup due k) (L i) = 3 then ((i : Int), 3) else pf L d (i + 1) (dn due (kup due k) (L i)) (kup due k)
theorem pf_s (L : Nat → Int) (d i : Nat) (due k : Int) : pf L (d + 1) i due k = if dn due (kup due k) (L i) = 3 then ((i : Int), 3) else pf L d (i + 1) (dn due (kup due k) (L i)) (kup due k) := rfl
theorem dn_b {due k c : Int} (h : due = 0 ∨ due = 1 ∨ due = 2) : dn due k c = 0 ∨ dn due k c = 1 ∨ dn due k c = 2 ∨ dn due k c = 3 := by
  unfold dn
  split
  · split
    · omega
    · split <;> omega
  · split
    · split
      · omega
      · split <;> omega
    · split
      · split <;> omega
      · omega
theorem hG_dueBehind {X : ax_Mem} {P : Int → ax_Mem → Prop} {k c : Int} (h : P (dn (X 13 2) k c) X) : kG_dueBehind [.inr (.inr 13), .inl c, .inl k] X P := by
  apply eG_dueBehind
  unfold dn at h
  refine ⟨fun e => ⟨fun g => ⟨fun l => ?_, fun l => ⟨fun z => ?_, fun z => ?_⟩⟩, fun g => ⟨fun l => ?_, fun l => ⟨fun z => ?_, fun z => ?_⟩⟩⟩, fun e => ?_⟩
  · rw [if_neg e, if_neg g, if_neg l] at h; exact h
  · rw [if_neg e, if_neg g, if_pos l, if_pos z] at h; exact h
  · rw [if_neg e, if_neg g, if_pos l, if_neg z] at h; exact h
  · rw [if_neg e, if_pos g, if_pos l] at h; exact h
  · rw [if_neg e, if_pos g, if_neg l, if_pos z] at h; exact h
  · rw [if_neg e, if_pos g, if_neg l, if_neg z] at h; exact h
  · rw [if_pos e] at h
    apply eG_dueBehindKey
    refine ⟨fun l => ?_, fun l => ?_, fun l => ?_⟩
    · rw [if_pos l] at h; exact h
    · rw [if_neg (by omega), if_pos l] at h; exact h
    · rw [if_neg (by omega), if_neg (by omega)] at h; exact h
theorem hG_firstFault {X : ax_Mem} {P : Int → ax_Mem → Prop} (hs : 0 ≤ X 13 1 ∧ X 13 1 ≤ 16) (k : P (pf (X 14) (X 13 1).toNat 0 0 0).1 (ax_u X 13 2 (pf (X 14) (X 13 1).toNat 0 0 0).2)) : kG_firstFault [.inr (.inr 13)] X P := by
  apply eG_firstFault
  have uu : ∀ v v2 : Int, ax_u (ax_u X 13 2 v) 13 2 v2 = ax_u X 13 2 v2 := by
    intro v v2
    funext a b
    unfold ax_u
    by_cases c : a = 13
    · simp only [c, if_true]
      by_cases d : b = 2
      · simp [d]
      · simp [d]
    · simp [c]
  have key : ∀ (d i : Nat) (due ky : Int), i + d = (X 13 1).toNat → (0 ≤ ky ∧ ky ≤ i) → P (pf (X 14) d i due ky).1 (ax_u X 13 2 (pf (X 14) d i due ky).2) → jG_firstFault P 9 [(0, .inr (.inr 13)), (1, .inl ky), (2, .inl (i : Int))] [] (ax_u X 13 2 due) := by
    intro d
    induction d with
    | zero =>
      intro i due ky hi hk hp
      apply gG_firstFault_9
      rw [show ax_u X 13 2 due 13 1 = X 13 1 from rfl]
      refine ⟨fun _ => ?_, fun q => by omega⟩
      have e : pf (X 14) 0 i due ky = ((i : Int), due) := rfl
      rw [e] at hp
      rw [show X 13 1 = (i : Int) by omega]
      exact hp
    | succ d ih =>
      intro i due ky hi hk hp
      rw [pf_s] at hp
      apply gG_firstFault_9
      simp only [Int.toNat_natCast]
      rw [show ax_u X 13 2 due 13 1 = X 13 1 from rfl, show ax_u X 13 2 due 13 2 = due from rfl, show ax_u X 13 2 due 14 = X 14 from rfl, to1]
      have step : ∀ ky2, ky2 = kup due ky → kG_dueBehind [.inr (.inr 13), .inl (X 14 i), .inl ky2] (ax_u X 13 2 due) (fun r2 M3 => (¬ r2 = 3 → jG_firstFault P 9 [(0, .inr (.inr 13)), (1, .inl ky2), (2, .inl ((i + 1 : Nat) : Int))] [] (ax_u M3 13 2 r2)) ∧ (r2 = 3 → P (i : Int) (ax_u M3 13 2 r2))) := by
        intro ky2 e
        apply hG_dueBehind
        rw [show ax_u X 13 2 due 13 2 = due from rfl, e, uu]
        refine ⟨fun c => ?_, fun c => ?_⟩
        · rw [if_neg c] at hp
          refine ih (i + 1) _ _ (by omega) ?_ hp
          unfold kup
          split <;> omega
        · rw [if_pos c] at hp
          rw [c]
          exact hp
      refine ⟨fun q => by omega, fun _ => ⟨fun c => ⟨by omega, step ky (by unfold kup; rw [if_neg c])⟩, fun c => ⟨by omega, by omega, step (ky + 1) (by unfold kup; rw [if_pos c])⟩⟩⟩
  exact key _ 0 0 0 (by omega) (by omega) k
-- ===== what is read
def ks (c : Int) (a : Int × (Nat → Int) × (Nat → Int)) : Int × (Nat → Int) × (Nat → Int) := if c = 44 then a else if 49 ≤ c ∧ c ≤ 57 then (if 0 < a.1 then (a.1, a.2.1, uf a.2.2 (a.1 - 1).toNat (c - 48)) else a) else if a.1 < 4 then (a.1 + 1, uf a.2.1 a.1.toNat c, uf a.2.2 a.1.toNat 1) else a
def kr (L : Nat → Int) : Nat → Int × (Nat → Int) × (Nat → Int)
  | 0 => (0, fun _ => 0, fun _ => 0)
  | i + 1 => ks (L i) (kr L i)
theorem kr_ok (L : Nat → Int) : ∀ i : Nat, (0 ≤ (kr L i).1 ∧ (kr L i).1 ≤ 4) ∧ ∀ j : Nat, (j : Int) < (kr L i).1 → 1 ≤ (kr L i).2.2 j ∧ (kr L i).2.2 j ≤ 9
  | 0 => ⟨by simp [kr], fun j hj => by simp [kr] at hj; omega⟩
  | i + 1 => by
    obtain ⟨h1, h2⟩ := kr_ok L i
    show (0 ≤ (ks (L i) (kr L i)).1 ∧ (ks (L i) (kr L i)).1 ≤ 4) ∧ ∀ j : Nat, (j : Int) < (ks (L i) (kr L i)).1 → 1 ≤ (ks (L i) (kr L i)).2.2 j ∧ (ks (L i) (kr L i)).2.2 j ≤ 9
    unfold ks
    split
    · exact ⟨h1, h2⟩
    · split
      · rename_i c
        split
        · refine ⟨h1, fun j hj => ?_⟩
          show 1 ≤ uf (kr L i).2.2 ((kr L i).1 - 1).toNat (L i - 48) j ∧ uf (kr L i).2.2 ((kr L i).1 - 1).toNat (L i - 48) j ≤ 9
          unfold uf
          split
          · omega
          · exact h2 j hj
        · exact ⟨h1, h2⟩
      · split
        · refine ⟨by simp only; omega, fun j hj => ?_⟩
          show 1 ≤ uf (kr L i).2.2 (kr L i).1.toNat 1 j ∧ uf (kr L i).2.2 (kr L i).1.toNat 1 j ≤ 9
          have hj2 : (j : Int) < (kr L i).1 + 1 := hj
          unfold uf
          split
          · omega
          · exact h2 j (by omega)
        · exact ⟨h1, h2⟩
/-- the class's CALL c holds what is read -/
def KX (X Z : ax_Mem) (c : Nat) (a : Int × (Nat → Int) × (Nat → Int)) : Prop := (∀ q, q ≠ 16 + 3 * c → q ≠ 17 + 3 * c → q ≠ 18 + 3 * c → Z q = X q) ∧ Z (16 + 3 * c) 2 = a.1 ∧ ∀ j : Nat, (j : Int) < a.1 → Z (17 + 3 * c) j = a.2.1 j ∧ Z (18 + 3 * c) j = a.2.2 j
theorem hK_read {X : ax_Mem} {P : Int → ax_Mem → Prop} {c : Nat} (hc : c < 8) (hs : 0 ≤ X 13 1 ∧ X 13 1 ≤ 16) (hl : ∀ i : Nat, (i : Int) < X 13 1 → 1 ≤ X 14 i ∧ X 14 i ≤ 126) (k : ∀ Z, KX X Z c (kr (X 14) (X 13 1).toNat) → P 0 Z) : kK_read [.inr (.inr (16 + 3 * c)), .inr (.inr 13)] X P := by
  apply eK_read hc
  refine up_loop (Q := fun i => ∀ Z : ax_Mem, KX X Z c (kr (X 14) i) → jK_read P 7 [(0, .inr (.inr (16 + 3 * c))), (1, .inr (.inr 13)), (2, .inl (i : Int))] [] Z) (X 13 1).toNat ?_ ?_ 0 (Nat.zero_le _) _ ⟨fun q h1 h2 h3 => ax_u_cell h1, by rw [ax_uu, if_pos rfl]; rfl, fun j hj => by simp [kr] at hj; omega⟩
  · intro Z hZ
    apply gK_read_7 hc
    rw [hZ.1 13 (by omega) (by omega) (by omega)]
    exact ⟨fun _ => k Z hZ, fun q => by omega⟩
  · intro i hi hQ Z hZ
    obtain ⟨z1, z2, z3⟩ := id hZ
    have hli := hl i (by omega)
    have hkr := (kr_ok (X 14) i).1
    have hQ2 : ∀ Z2, KX X Z2 c (ks (X 14 i) (kr (X 14) i)) → jK_read P 7 [(0, .inr (.inr (16 + 3 * c))), (1, .inr (.inr 13)), (2, .inl ((i + 1 : Nat) : Int))] [] Z2 := hQ
    generalize kr (X 14) i = a at z2 z3 hkr hQ2 hZ
    unfold ks at hQ2
    have f1 : ∀ v : Int, ax_u Z (17 + 3 * c) a.1.toNat v (16 + 3 * c) 2 = a.1 := fun v => by rw [ax_u_cell (by omega)]; exact z2
    have f2 : ∀ v u : Int, ax_u (ax_u Z (17 + 3 * c) a.1.toNat v) (18 + 3 * c) a.1.toNat u (16 + 3 * c) 2 = a.1 := fun v u => by rw [ax_u_cell (by omega), ax_u_cell (by omega)]; exact z2
    have key : ¬ X 14 i = 44 → ¬ (49 ≤ X 14 i ∧ X 14 i ≤ 57) → a.1 < 4 → jK_read P 7 [(0, .inr (.inr (16 + 3 * c))), (1, .inr (.inr 13)), (2, .inl ((i + 1 : Nat) : Int))] [] (ax_u (ax_u (ax_u Z (17 + 3 * c) a.1.toNat (X 14 i)) (18 + 3 * c) a.1.toNat 1) (16 + 3 * c) 2 (a.1 + 1)) := by
      intro g1 g2 g3
      rw [if_neg g1, if_neg g2, if_pos g3] at hQ2
      refine hQ2 _ ⟨fun q h1 h2 h3 => by rw [ax_u_cell h1, ax_u_cell h3, ax_u_cell h2]; exact z1 q h1 h2 h3, by rw [ax_uu, if_pos rfl], fun j hj => ?_⟩
      have hj2 : (j : Int) < a.1 + 1 := hj
      rw [ax_u_cell (by omega), ax_u_cell (by omega), ax_uu, ax_u_cell (show 18 + 3 * c ≠ 16 + 3 * c by omega), ax_uu, ax_u_cell (show 18 + 3 * c ≠ 17 + 3 * c by omega)]
      show (if j = a.1.toNat then X 14 i else Z (17 + 3 * c) j) = uf a.2.1 a.1.toNat (X 14 i) j ∧ (if j = a.1.toNat then 1 else Z (18 + 3 * c) j) = uf a.2.2 a.1.toNat 1 j
      unfold uf
      by_cases d : j = a.1.toNat
      · rw [if_pos d, if_pos d, if_pos d, if_pos d]; exact ⟨rfl, rfl⟩
      · rw [if_neg d, if_neg d, if_neg d, if_neg d]; exact z3 j (by omega)
    apply gK_read_7 hc
    simp only [Int.toNat_natCast]
    rw [z1 13 (by omega) (by omega) (by omega), z1 14 (by omega) (by omega) (by omega), z2, f1, f2, to1]
    refine ⟨fun q => by omega, fun _ => ⟨by omega, fun g => ⟨fun l => ⟨fun z => ?_, fun z => ⟨⟨by omega, by omega⟩, by omega, by omega, key g (by omega) (by omega)⟩⟩, fun l => ⟨fun z => ⟨fun y => ?_, fun y => ⟨⟨by omega, by omega⟩, by omega, by omega, key g (by omega) (by omega)⟩⟩, fun z => ⟨fun y => ?_, fun y => ⟨by omega, by omega, ?_⟩⟩⟩⟩, fun g => ?_⟩⟩
    · rw [if_neg g, if_neg (by omega), if_neg (by omega)] at hQ2; exact hQ2 Z hZ
    · rw [if_neg g, if_neg (by omega), if_neg (by omega)] at hQ2; exact hQ2 Z hZ
    · rw [if_neg g, if_pos (by omega), if_neg (by omega)] at hQ2; exact hQ2 Z hZ
    · rw [if_neg g, if_pos (by omega), if_pos (by omega)] at hQ2
      refine hQ2 _ ⟨fun q h1 h2 h3 => by rw [ax_u_cell h3]; exact z1 q h1 h2 h3, by rw [ax_u_cell (by omega)]; exact z2, fun j hj => ?_⟩
      have hj2 : (j : Int) < a.1 := hj
      rw [ax_u_cell (by omega), ax_uu]
      obtain ⟨y1, y2⟩ := z3 j hj2
      refine ⟨y1, ?_⟩
      show _ = uf a.2.2 (a.1 - 1).toNat (X 14 i - 48) j
      unfold uf
      split
      · rfl
      · exact y2
    · rw [if_pos g] at hQ2; exact hQ2 Z hZ
/-- the reference's row of what it reads -/
def KM (Y Z : ax_Mem) (due : Int) (a : Int × (Nat → Int) × (Nat → Int)) : Prop := (∀ q, q ≠ 0 → q ≠ 4 → Z q = Y q) ∧ (∀ f, f ≠ 10 → f ≠ 11 → Z 0 f = Y 0 f) ∧ Z 0 10 = due ∧ Z 0 11 = a.1 ∧ ∀ j : Nat, (j : Int) < a.1 → Z 4 (2 * j) = a.2.1 j ∧ Z 4 (2 * j + 1) = a.2.2 j
def KF (Y Z : ax_Mem) : Prop := (∀ q, q ≠ 0 → q ≠ 4 → Z q = Y q) ∧ (∀ f, f ≠ 10 → f ≠ 11 → Z 0 f = Y 0 f)
theorem hM_isKey {Y : ax_Mem} {P : Int → ax_Mem → Prop} {c : Int} (k1 : (c = 98 ∨ c = 102 ∨ c = 97 ∨ c = 103 ∨ c = 111 ∨ c = 115 ∨ c = 119) → P 1 Y) (k0 : ¬ (c = 98 ∨ c = 102 ∨ c = 97 ∨ c = 103 ∨ c = 111 ∨ c = 115 ∨ c = 119) → P 0 Y) : kM_isKey [.inl c] Y P := by
  apply eM_isKey
  refine ⟨fun _ => k1 (by omega), fun _ => ⟨fun _ => k1 (by omega), fun _ => ⟨fun _ => k1 (by omega), fun _ => ⟨fun _ => k1 (by omega), fun _ => ⟨fun _ => k1 (by omega), fun _ => ⟨fun _ => k1 (by omega), fun _ => ⟨fun _ => k0 (by omega), fun _ => k1 (by omega)⟩⟩⟩⟩⟩⟩⟩
theorem hM_go {Y Z : ax_Mem} {P : Int → ax_Mem → Prop} {due c : Int} {a : Int × (Nat → Int) × (Nat → Int)} (h : KM Y Z due a) (hd : due = 0 ∨ due = 1 ∨ due = 2) (ha : 0 ≤ a.1 ∧ a.1 ≤ 4) (h0 : due = 0 → a.1 < 4) (h1 : ¬ due = 0 → 1 ≤ a.1) (hc : 1 ≤ c ∧ c ≤ 126) (k0 : dn due (kup due a.1) c = 3 → ∀ W, KF Y W → P 0 W) (k1 : ¬ dn due (kup due a.1) c = 3 → (ks c a).1 = kup due a.1 → (dn due (kup due a.1) c = 0 → (ks c a).1 < 4) → (¬ dn due (kup due a.1) c = 0 → 1 ≤ (ks c a).1) → ∀ W, KM Y W (dn due (kup due a.1) c) (ks c a) → P 1 W) : kM_go [.inr (.inr 0), .inl c] Z P := by
  obtain ⟨z1, z0, z10, z11, z4⟩ := id h
  have hkf : KF Y Z := ⟨z1, z0⟩
  apply eM_go
  rw [z10, z11]
  refine ⟨fun d1 => ⟨fun d2 => ?_, fun d2 => ⟨fun e => ?_, fun e => ⟨fun g => ?_, fun g => ?_⟩⟩⟩, fun d1 => ?_⟩
  · have d0 : due = 0 := by omega
    have hku : kup due a.1 = a.1 + 1 := by unfold kup; rw [if_pos d0]
    have hdn : dn due (kup due a.1) c = if c = 98 ∨ c = 102 then 1 else if c = 97 ∨ c = 103 ∨ c = 111 ∨ c = 115 ∨ c = 119 then 2 else 3 := by unfold dn; rw [if_pos d0]
    have ha4 := h0 d0
    refine hM_isKey (fun g => ⟨fun _ => ?_, fun q => absurd q (by decide)⟩) (fun g => ⟨fun q => absurd rfl q, fun _ => k0 (by rw [hdn, if_neg (by omega), if_neg (by omega)]) Z hkf⟩)
    have hks : ks c a = (a.1 + 1, uf a.2.1 a.1.toNat c, uf a.2.2 a.1.toNat 1) := by unfold ks; rw [if_neg (by omega), if_neg (by omega), if_pos ha4]
    rw [show Z 0 11 = a.1 from z11, show (2 * a.1).toNat = 2 * a.1.toNat by omega, show (2 * a.1 + 1).toNat = 2 * a.1.toNat + 1 by omega]
    have mk : ∀ st : Int, st = dn due (kup due a.1) c → P 1 (ax_u (ax_u (ax_u (ax_u Z 4 (2 * a.1.toNat) c) 4 (2 * a.1.toNat + 1) 1) 0 11 (a.1 + 1)) 0 10 st) := by
      intro st hst
      have hst2 : st = 1 ∨ st = 2 := by rw [hst, hdn]; split <;> (try split) <;> omega
      refine k1 (by omega) (by rw [hks, hku]) (fun q => by omega) (fun _ => by rw [hks]; simp only; omega) _ ⟨fun q g0 g4 => by rw [ax_u_cell g0, ax_u_cell g0, ax_u_cell g4, ax_u_cell g4]; exact z1 q g0 g4, fun f g10 g11 => by rw [ax_us g10, ax_us g11, ax_u_cell (by omega), ax_u_cell (by omega)]; exact z0 f g10 g11, ?_, ?_, fun j hj => ?_⟩
      · rw [ax_uu, if_pos rfl, hst]
      · rw [ax_us (by omega), ax_uu, if_pos rfl, hks]
      · rw [hks] at hj ⊢
        have hj2 : (j : Int) < a.1 + 1 := hj
        rw [ax_u_cell (by omega), ax_u_cell (by omega), ax_uu, ax_uu, ax_uu, ax_uu]
        show _ = uf a.2.1 a.1.toNat c j ∧ _ = uf a.2.2 a.1.toNat 1 j
        unfold uf
        by_cases d : j = a.1.toNat
        · exact ⟨by rw [if_neg (by omega), if_pos (by omega), if_pos d], by rw [if_pos (by omega), if_pos d]⟩
        · exact ⟨by rw [if_neg (by omega), if_neg (by omega), if_neg d]; exact (z4 j (by omega)).1, by rw [if_neg (by omega), if_neg (by omega), if_neg d]; exact (z4 j (by omega)).2⟩
    refine ⟨by omega, by omega, by omega, by omega, fun l => mk 1 (by rw [hdn, if_pos (by omega)]), fun l => ⟨fun y => mk 2 (by rw [hdn, if_neg (by omega), if_pos (by omega)]), fun y => mk 1 (by rw [hdn, if_pos (by omega)])⟩⟩
  · refine k0 ?_ _ ⟨fun q g0 g4 => by rw [ax_u_cell g0]; exact z1 q g0 g4, fun f g10 g11 => by rw [ax_us g10]; exact z0 f g10 g11⟩
    unfold dn
    rw [if_neg (by omega), if_neg d1, if_neg e]
  · have hku : kup due a.1 = a.1 := by unfold kup; rw [if_neg (by omega)]
    refine k0 ?_ _ ⟨fun q g0 g4 => by rw [ax_u_cell g0]; exact z1 q g0 g4, fun f g10 g11 => by rw [ax_us g10]; exact z0 f g10 g11⟩
    unfold dn
    rw [if_neg (by omega), if_neg d1, if_pos e, hku, if_pos g]
  · have hku : kup due a.1 = a.1 := by unfold kup; rw [if_neg (by omega)]
    have hdn : dn due (kup due a.1) c = 0 := by unfold dn; rw [if_neg (by omega), if_neg d1, if_pos e, hku, if_neg g]
    have hks : ks c a = a := by unfold ks; rw [if_pos e]
    refine k1 (by omega) (by rw [hks, hku]) (fun _ => by rw [hks]; omega) (fun q => absurd hdn q) _ ⟨fun q g0 g4 => by rw [ax_u_cell g0]; exact z1 q g0 g4, fun f g10 g11 => by rw [ax_us g10]; exact z0 f g10 g11, ?_, ?_, ?_⟩
    · rw [ax_uu, if_pos rfl, hdn]
    · rw [ax_us (by omega), hks]; exact z11
    · rw [hks, ax_u_cell (by omega)]; exact z4
  · have hku : kup due a.1 = a.1 := by unfold kup; rw [if_neg (by omega)]
    have ha1 := h1 (by omega)
    refine ⟨by omega, by omega, by omega, by omega, ?_⟩
    rw [show (2 * a.1 - 1).toNat = 2 * (a.1 - 1).toNat + 1 by omega]
    apply hM_in ⟨by omega, by omega⟩ ⟨by omega, by omega⟩ ⟨by omega, by omega⟩
    by_cases e : 49 ≤ c ∧ c ≤ 57
    · rw [if_pos e]
      have hdn : dn due (kup due a.1) c = 2 := by unfold dn; rw [if_neg (by omega), if_pos d1, if_neg (by omega), if_neg (by omega)]
      have hks : ks c a = (a.1, a.2.1, uf a.2.2 (a.1 - 1).toNat (c - 48)) := by unfold ks; rw [if_neg (by omega), if_pos e, if_pos (by omega)]
      refine ⟨Or.inr rfl, k1 (by omega) (by rw [hks, hku]) (fun q => by omega) (fun _ => by rw [hks]; exact ha1) _ ⟨fun q g0 g4 => by rw [ax_u_cell g0, ax_u_cell g4]; exact z1 q g0 g4, fun f g10 g11 => by rw [ax_us g10, ax_u_cell (by omega)]; exact z0 f g10 g11, ?_, ?_, fun j hj => ?_⟩⟩
      · rw [ax_uu, if_pos rfl, hdn]
      · rw [ax_us (by omega), ax_u_cell (by omega), hks]; exact z11
      · rw [hks] at hj ⊢
        have hj2 : (j : Int) < a.1 := hj
        rw [ax_u_cell (by omega), ax_uu, ax_uu]
        show _ = a.2.1 j ∧ _ = uf a.2.2 (a.1 - 1).toNat (c - 48) j
        obtain ⟨y1, y2⟩ := z4 j hj2
        unfold uf
        rw [if_neg (by omega)]
        refine ⟨y1, ?_⟩
        by_cases d : j = (a.1 - 1).toNat
        · rw [if_pos (by omega), if_pos d]
        · rw [if_neg (by omega), if_neg d]; exact y2
    · rw [if_neg e]
      refine ⟨Or.inl rfl, k0 ?_ _ ⟨fun q g0 g4 => by rw [ax_u_cell g0, ax_u_cell g4]; exact z1 q g0 g4, fun f g10 g11 => by rw [ax_us g10, ax_u_cell (by omega)]; exact z0 f g10 g11⟩⟩
      unfold dn
      rw [if_neg (by omega), if_pos d1]
      split
      · rfl
      · rw [if_pos (by omega)]
theorem hM_faultOf {X Y : ax_Mem} {P : Int → ax_Mem → Prop} (hg : PG X Y) (k0 : (pf (X 14) (X 13 1).toNat 0 0 0).2 = 3 → (pf (X 14) (X 13 1).toNat 0 0 0).1 < X 13 1 → ∀ W, KF Y W → P (pf (X 14) (X 13 1).toNat 0 0 0).1 W) (k1 : ¬ (pf (X 14) (X 13 1).toNat 0 0 0).2 = 3 → (pf (X 14) (X 13 1).toNat 0 0 0).1 = X 13 1 → ∀ W, KM Y W (pf (X 14) (X 13 1).toNat 0 0 0).2 (kr (X 14) (X 13 1).toNat) → P (X 13 1) W) : kM_faultOf [.inr (.inr 0)] Y P := by
  obtain ⟨p1, p2, p3⟩ := hg
  apply eM_faultOf
  have key : ∀ (d i : Nat) (due : Int) (Z : ax_Mem), i + d = (X 13 1).toNat → (due = 0 ∨ due = 1 ∨ due = 2) → (due = 0 → (kr (X 14) i).1 < 4) → (¬ due = 0 → 1 ≤ (kr (X 14) i).1) → KM Y Z due (kr (X 14) i) → pf (X 14) d i due (kr (X 14) i).1 = pf (X 14) (X 13 1).toNat 0 0 0 → jM_faultOf P 12 [(0, .inr (.inr 0)), (1, .inl (i : Int))] [] Z := by
    intro d
    induction d with
    | zero =>
      intro i due Z hi hd h0 h1 hZ e
      have e2 : ((i : Int), due) = pf (X 14) (X 13 1).toNat 0 0 0 := e
      rw [← e2] at k1
      apply gM_faultOf_12
      rw [hZ.2.1 7 (by omega) (by omega), p2]
      refine ⟨fun _ => ?_, fun q => by omega⟩
      have hi2 : i = (X 13 1).toNat := by omega
      have := k1 (by simp only; omega) (by simp only; omega) Z (by rw [← hi2]; exact hZ)
      rw [show (i : Int) = X 13 1 by omega]
      exact this
    | succ d ih =>
      intro i due Z hi hd h0 h1 hZ e
      have p3i := p3 i (by omega)
      have hkr := (kr_ok (X 14) i).1
      rw [pf_s] at e
      apply gM_faultOf_12
      simp only [Int.toNat_natCast]
      rw [hZ.2.1 7 (by omega) (by omega), p2, hZ.1 2 (by omega) (by omega), p3i.1, to1]
      refine ⟨fun q => by omega, fun _ => ⟨by omega, ?_⟩⟩
      refine hM_go hZ hd hkr h0 h1 p3i.2 (fun g W hW => ⟨fun _ => ?_, fun q => absurd rfl q⟩) (fun g gk g0 g1 W hW => ⟨fun q => absurd q (by decide), fun _ => ?_⟩)
      · rw [if_pos g] at e
        rw [← e] at k0
        exact k0 rfl (by simp only; omega) W hW
      · rw [if_neg g] at e
        have hdb := dn_b (k := kup due (kr (X 14) i).1) (c := X 14 i) hd
        refine ih (i + 1) _ W (by omega) (by omega) g0 g1 hW ?_
        rw [← e]
        show pf (X 14) d (i + 1) _ (ks (X 14 i) (kr (X 14) i)).1 = _
        rw [gk]
  refine key _ 0 0 _ (by omega) (Or.inl rfl) (fun _ => by simp [kr]) (fun q => absurd rfl q) ⟨fun q g0 g4 => by rw [ax_u_cell g0, ax_u_cell g0], fun f g10 g11 => by rw [ax_us g11, ax_us g10], rfl, rfl, fun j hj => by simp [kr] at hj; omega⟩ rfl
theorem pf_1 (L : Nat → Int) : ∀ (d i : Nat) (due k : Int), (due = 0 ∨ due = 1 ∨ due = 2) → ((pf L d i due k).2 = 3 ∧ (pf L d i due k).1 < (i : Int) + d) ∨ (¬ (pf L d i due k).2 = 3 ∧ (pf L d i due k).1 = (i : Int) + d)
  | 0, i, due, k, h => Or.inr ⟨by show ¬ due = 3; omega, by show (i : Int) = _; omega⟩
  | d + 1, i, due, k, h => by
    rw [pf_s]
    have hb := dn_b (k := kup due k) (c := L i) h
    split
    · exact Or.inl ⟨rfl, by simp only; omega⟩
    · rename_i c
      have := pf_1 L d (i + 1) (dn due (kup due k) (L i)) (kup due k) (by omega)
      omega
theorem inv_due {t : Int} {X Y : ax_Mem} {v : Int} (h : INV t X Y) : INV t (ax_u X 13 2 v) Y := by
  obtain ⟨i1, i2, i3, i4, i5, i6, i7, i8⟩ := h
  exact ⟨i1, i2, i3, i4, i5, CL_of i6 (fun q h1 h2 => ax_u_cell (by omega)) rfl rfl rfl, i7, i8⟩
theorem KF.s {Y Z : ax_Mem} (h : KF Y Z) : FS Y Z := ⟨⟨h.1 1 (by omega) (by omega), h.1 2 (by omega) (by omega), h.1 3 (by omega) (by omega), h.1 18 (by omega) (by omega)⟩, h.2 0 (by omega) (by omega), h.2 1 (by omega) (by omega), h.2 2 (by omega) (by omega), h.2 3 (by omega) (by omega), h.2 4 (by omega) (by omega), h.2 7 (by omega) (by omega), h.2 8 (by omega) (by omega), h.2 27 (by omega) (by omega), h.2 33 (by omega) (by omega), h.2 34 (by omega) (by omega), h.2 36 (by omega) (by omega)⟩
theorem KM.s {Y Z : ax_Mem} {due : Int} {a : Int × (Nat → Int) × (Nat → Int)} (h : KM Y Z due a) : FS Y Z := KF.s ⟨h.1, h.2.1⟩
theorem q_fault {t : Int} {X Y : ax_Mem} (h : INV t X Y) : kX_fault [.inr (.inr 0)] X (fun r X2 => kM_fault [.inr (.inr 0)] Y (fun r2 Y2 => r2 = r ∧ INV (t + 1) X2 Y2)) := by
  obtain ⟨i1, i2, i3, i4, i5, i6, i7, i8⟩ := id h
  apply eX_fault
  apply hG_firstFault i5.1
  apply eM_fault
  refine hM_faultOf i5 (fun g1 g2 W hW => ⟨rfl, inv_fr (inv_due h) (XF.rf _) hW.s (by omega)⟩) (fun g1 g2 W hW => ⟨g2.symm, inv_fr (inv_due h) (XF.rf _) hW.s (by omega)⟩)
theorem q_call {t : Int} {X Y : ax_Mem} (h : INV t X Y) : kX_call [.inr (.inr 0)] X (fun r X2 => kM_call [.inr (.inr 0)] Y (fun r2 Y2 => r2 = r ∧ INV (t + 1) X2 Y2)) := by
  obtain ⟨i1, i2, i3, i4, i5, i6, i7, i8⟩ := id h
  have i61 := i6.1
  have y8 := i6.2.1
  have p1 := i5.1
  have y7 := i5.2.1
  have hpf := pf_1 (X 14) (X 13 1).toNat 0 0 0 (Or.inl rfl)
  apply eX_call
  apply eG_isCall
  apply hG_firstFault i5.1
  rw [show ax_u X 13 2 (pf (X 14) (X 13 1).toNat 0 0 0).2 13 1 = X 13 1 from rfl, show ax_u X 13 2 (pf (X 14) (X 13 1).toNat 0 0 0).2 13 2 = (pf (X 14) (X 13 1).toNat 0 0 0).2 from rfl]
  have no : ¬ (pf (X 14) (X 13 1).toNat 0 0 0).2 = 2 → kM_call [.inr (.inr 0)] Y (fun r2 Y2 => r2 = (-103) ∧ INV (t + 1) (ax_u X 13 2 (pf (X 14) (X 13 1).toNat 0 0 0).2) Y2) := by
    intro hn
    apply eM_call
    refine hM_faultOf i5 (fun g1 g2 W hW => ?_) (fun g1 g2 W hW => ?_)
    · rw [hW.2 7 (by omega) (by omega), y7]
      exact ⟨fun _ => ⟨rfl, inv_fr (inv_due h) (XF.rf _) hW.s (by omega)⟩, fun q => absurd g2 q⟩
    · rw [hW.2.1 7 (by omega) (by omega), y7, hW.2.2.1]
      exact ⟨fun q => by omega, fun _ => ⟨fun q => absurd q hn, fun _ => ⟨rfl, inv_fr (inv_due h) (XF.rf _) hW.s (by omega)⟩⟩⟩
  refine ⟨fun c => ⟨fun q => absurd rfl q, fun _ => no (fun z => by omega)⟩, fun c => ⟨fun d => ⟨fun q => absurd rfl q, fun _ => no d⟩, fun d => ⟨fun _ => ?_, fun q => absurd q (by decide)⟩⟩⟩
  rw [show ax_u X 13 2 (pf (X 14) (X 13 1).toNat 0 0 0).2 0 9 = X 0 9 from rfl]
  have hne : ¬ (pf (X 14) (X 13 1).toNat 0 0 0).2 = 3 := by omega
  refine ⟨fun e => ⟨by omega, ?_⟩, fun e => ?_⟩
  · refine hK_read (X := ax_u X 13 2 (pf (X 14) (X 13 1).toNat 0 0 0).2) (c := (X 0 9).toNat) (by omega) p1 (fun i hi => (i5.2.2 i hi).2) ?_
    intro Z hZ
    rw [show ax_u X 13 2 (pf (X 14) (X 13 1).toNat 0 0 0).2 14 = X 14 from rfl, show ax_u X 13 2 (pf (X 14) (X 13 1).toNat 0 0 0).2 13 1 = X 13 1 from rfl] at hZ
    obtain ⟨z1, z2, z3⟩ := hZ
    have zk : ∀ q, q ≠ 13 → q ≠ 16 + 3 * (X 0 9).toNat → q ≠ 17 + 3 * (X 0 9).toNat → q ≠ 18 + 3 * (X 0 9).toNat → Z q = X q := fun q h0 h1 h2 h3 => by rw [z1 q h1 h2 h3, ax_u_cell h0]
    have zl : ∀ q, q < 16 → q ≠ 13 → Z q = X q := fun q h0 h1 => zk q h1 (by omega) (by omega) (by omega)
    have hkr := kr_ok (X 14) (X 13 1).toNat
    rw [zl 0 (by omega) (by omega)]
    refine ⟨by omega, by omega, ?_⟩
    apply eM_call
    refine hM_faultOf i5 (fun g1 g2 W hW => absurd g1 hne) (fun g1 g2 W hW => ?_)
    obtain ⟨v1, v0, v10, v11, v4⟩ := hW
    generalize kr (X 14) (X 13 1).toNat = a at z2 z3 hkr v11 v4
    rw [v0 7 (by omega) (by omega), y7, v10, v0 8 (by omega) (by omega), y8, v11]
    refine ⟨fun q => by omega, fun _ => ⟨fun _ => ⟨fun _ => ⟨by omega, by omega, ?_⟩, fun q => by omega⟩, fun q => absurd d q⟩⟩
    rw [show (9 * X 0 9).toNat = 9 * (X 0 9).toNat by omega]
    refine up_loop (Q := fun i => ∀ U : ax_Mem, (∀ q, q ≠ 3 → U q = W q) → U 3 (9 * (X 0 9).toNat) = a.1 → (∀ k, k < i → U 3 (9 * (X 0 9).toNat + 1 + k) = W 4 k) → (∀ j, j < 9 * (X 0 9).toNat → U 3 j = Y 3 j) → jM_call (fun r2 Y2 => r2 = X 0 9 + 1 - 1 ∧ INV (t + 1) (ax_u (ax_u Z 13 1 0) 0 9 (X 0 9 + 1)) Y2) 52 [(0, .inr (.inr 0)), (1, .inl (i : Int))] [] U) 8 ?_ ?_ 0 (Nat.zero_le _) _ (fun q hq => ax_u_cell hq) (by rw [ax_uu, if_pos rfl]) (fun k hk => by omega) (fun j hj => by rw [ax_us (by omega), v1 3 (by omega) (by omega)])
    · intro U hU hU0 hUk hUj
      have u0 : ∀ f, f ≠ 10 → f ≠ 11 → U 0 f = Y 0 f := fun f h1 h2 => by rw [hU 0 (by omega)]; exact v0 f h1 h2
      have uq : ∀ q, q ≠ 0 → q ≠ 3 → q ≠ 4 → U q = Y q := fun q h1 h2 h3 => by rw [hU q h2]; exact v1 q h1 h3
      apply gM_call_52
      rw [u0 8 (by omega) (by omega), y8]
      refine ⟨fun _ => ⟨by omega, by omega, rfl, ?_⟩, fun q => by omega⟩
      have x1 : ∀ q, q ≠ 0 → q ≠ 13 → ax_u (ax_u Z 13 1 0) 0 9 (X 0 9 + 1) q = Z q := fun q h1 h2 => by rw [ax_u_cell h1, ax_u_cell h2]
      have x2 : ∀ q, q ≠ 0 → q ≠ 13 → q < 16 → ax_u (ax_u Z 13 1 0) 0 9 (X 0 9 + 1) q = X q := fun q h1 h2 h3 => by rw [x1 q h1 h2]; exact zl q h3 h2
      have x09 : ax_u (ax_u Z 13 1 0) 0 9 (X 0 9 + 1) 0 9 = X 0 9 + 1 := rfl
      have x010 : ax_u (ax_u Z 13 1 0) 0 9 (X 0 9 + 1) 0 10 = X 0 10 := by rw [ax_us (by omega), ax_u_cell (by omega), zl 0 (by omega) (by omega)]
      have x13 : ax_u (ax_u Z 13 1 0) 0 9 (X 0 9 + 1) 13 1 = 0 := rfl
      have m1 : ∀ q, q ≠ 0 → ax_u (ax_u U 0 8 (X 0 9 + 1)) 0 7 0 q = U q := fun q h1 => by rw [ax_u_cell h1, ax_u_cell h1]
      have m0 : ∀ f, f ≠ 7 → f ≠ 8 → f ≠ 10 → f ≠ 11 → ax_u (ax_u U 0 8 (X 0 9 + 1)) 0 7 0 0 f = Y 0 f := fun f h1 h2 h3 h4 => by rw [ax_us h1, ax_us h2]; exact u0 f h3 h4
      have m08 : ax_u (ax_u U 0 8 (X 0 9 + 1)) 0 7 0 0 8 = X 0 9 + 1 := rfl
      have m07 : ax_u (ax_u U 0 8 (X 0 9 + 1)) 0 7 0 0 7 = 0 := rfl
      generalize ax_u (ax_u Z 13 1 0) 0 9 (X 0 9 + 1) = X3 at x1 x2 x09 x010 x13
      generalize ax_u (ax_u U 0 8 (X 0 9 + 1)) 0 7 0 = Y3 at m1 m0 m08 m07
      refine ⟨?_, ?_, ?_, ?_, ⟨by rw [x13]; omega, by rw [x13, m07], fun i hi => by rw [x13] at hi; omega⟩, ⟨by rw [x09]; omega, by rw [m08, x09], fun c' hc' => ?_⟩, ?_, ?_⟩
      · unfold WP
        rw [x2 1 (by omega) (by omega) (by omega), x2 2 (by omega) (by omega) (by omega), x2 3 (by omega) (by omega) (by omega), x2 4 (by omega) (by omega) (by omega), x2 5 (by omega) (by omega) (by omega), x2 6 (by omega) (by omega) (by omega), x2 7 (by omega) (by omega) (by omega), x2 8 (by omega) (by omega) (by omega), x2 9 (by omega) (by omega) (by omega)]
        exact i1
      · unfold RP
        rw [x2 1 (by omega) (by omega) (by omega), x2 2 (by omega) (by omega) (by omega), x2 3 (by omega) (by omega) (by omega), x2 4 (by omega) (by omega) (by omega), x2 5 (by omega) (by omega) (by omega), x2 6 (by omega) (by omega) (by omega), x2 7 (by omega) (by omega) (by omega), x2 8 (by omega) (by omega) (by omega), x2 9 (by omega) (by omega) (by omega), m0 0 (by omega) (by omega) (by omega) (by omega), m0 1 (by omega) (by omega) (by omega) (by omega), m0 2 (by omega) (by omega) (by omega) (by omega), m0 4 (by omega) (by omega) (by omega) (by omega), m1 1 (by omega), uq 1 (by omega) (by omega) (by omega)]
        exact i2
      · rw [x2 1 (by omega) (by omega) (by omega)]; exact i3
      · rw [x2 1 (by omega) (by omega) (by omega), m0 3 (by omega) (by omega) (by omega) (by omega)]; exact ⟨i4.1, i4.2.1, by omega⟩
      · rw [x09] at hc'
        by_cases g : (c' : Int) < X 0 9
        · obtain ⟨w1, w2⟩ := i6.2.2 c' g
          have w11 := w1.1
          unfold WK RK
          rw [x1 (16 + 3 * c') (by omega) (by omega), x1 (17 + 3 * c') (by omega) (by omega), x1 (18 + 3 * c') (by omega) (by omega), zk (16 + 3 * c') (by omega) (by omega) (by omega) (by omega), zk (17 + 3 * c') (by omega) (by omega) (by omega) (by omega), zk (18 + 3 * c') (by omega) (by omega) (by omega) (by omega), m1 3 (by omega)]
          refine ⟨w1, by rw [hUj (9 * c') (by omega)]; exact w2.1, fun i hi => ?_⟩
          rw [hUj _ (by omega), hUj _ (by omega)]
          exact w2.2 i hi
        · have hcc : c' = (X 0 9).toNat := by omega
          subst hcc
          unfold WK RK
          rw [x1 (16 + 3 * (X 0 9).toNat) (by omega) (by omega), x1 (17 + 3 * (X 0 9).toNat) (by omega) (by omega), x1 (18 + 3 * (X 0 9).toNat) (by omega) (by omega), z2, m1 3 (by omega)]
          refine ⟨⟨hkr.1, fun i hi => ?_⟩, hU0, fun i hi => ?_⟩
          · rw [(z3 i hi).2]; exact hkr.2 i hi
          · rw [hUk (2 * i) (by omega), show 9 * (X 0 9).toNat + 2 + 2 * i = 9 * (X 0 9).toNat + 1 + (2 * i + 1) by omega, hUk (2 * i + 1) (by omega), (z3 i hi).1, (z3 i hi).2]
            exact v4 i hi
      · rw [x010, m0 27 (by omega) (by omega) (by omega) (by omega)]; exact i7
      · unfold IM
        rw [x2 10 (by omega) (by omega) (by omega), x2 11 (by omega) (by omega) (by omega), x2 12 (by omega) (by omega) (by omega), x2 2 (by omega) (by omega) (by omega), m0 33 (by omega) (by omega) (by omega) (by omega), m0 34 (by omega) (by omega) (by omega) (by omega), m0 3 (by omega) (by omega) (by omega) (by omega), m1 18 (by omega), uq 18 (by omega) (by omega) (by omega)]
        exact i8
    · intro i hi hQ U hU hU0 hUk hUj
      have u8 : U 0 8 = X 0 9 := by rw [hU 0 (by omega), v0 8 (by omega) (by omega)]; exact y8
      apply gM_call_52
      simp only [Int.toNat_natCast]
      rw [u8, show (9 * X 0 9 + 1 + (i : Int)).toNat = 9 * (X 0 9).toNat + 1 + i by omega, to1]
      refine ⟨fun q => by omega, fun _ => ⟨by omega, by omega, by omega, by omega, by omega, ?_⟩⟩
      refine hQ _ (fun q hq => by rw [ax_u_cell hq]; exact hU q hq) (by rw [ax_us (by omega)]; exact hU0) (fun k hk => ?_) (fun j hj => by rw [ax_us (by omega)]; exact hUj j hj)
      rw [ax_uu]
      by_cases g : k = i
      · rw [if_pos (by omega), g, hU 4 (by omega)]
      · rw [if_neg (by omega)]; exact hUk k (by omega)
  · apply eM_call
    refine hM_faultOf i5 (fun g1 g2 W hW => absurd g1 hne) (fun g1 g2 W hW => ?_)
    rw [hW.2.1 7 (by omega) (by omega), y7, hW.2.2.1, hW.2.1 8 (by omega) (by omega), y8]
    exact ⟨fun q => by omega, fun _ => ⟨fun _ => ⟨fun q => by omega, fun _ => ⟨rfl, inv_fr (inv_due h) (XF.rf _) hW.s (by omega)⟩⟩, fun q => absurd d q⟩⟩
