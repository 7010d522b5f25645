/-! person -/
theorem hC_hasSeat {X : ax_Mem} {P : Int → ax_Mem → Prop} {a b c : Int} (hr : 0 ≤ X 1 0 ∧ X 1 0 ≤ 12) (hwd : 0 ≤ X 1 1 ∧ X 1 1 ≤ 3) (k1 : (0 ≤ a ∧ a < X 1 0) ∧ (0 ≤ b ∧ b ≤ 1) ∧ (0 ≤ c ∧ c < X 1 1) → P 1 X) (k0 : ¬ ((0 ≤ a ∧ a < X 1 0) ∧ (0 ≤ b ∧ b ≤ 1) ∧ (0 ≤ c ∧ c < X 1 1)) → P 0 X) : kC_hasSeat [.inr (.inr 1), .inl a, .inl b, .inl c] X P := by
  apply eC_hasSeat
  refine ⟨by omega, ?_⟩
  apply hX_outside
  by_cases c1 : 0 ≤ a ∧ a < X 1 0
  · rw [if_neg (by omega)]
    refine ⟨fun q => absurd rfl q, fun _ => ?_⟩
    apply hX_outside
    by_cases c2 : 0 ≤ b ∧ b ≤ 1
    · rw [if_neg (by omega)]
      refine ⟨fun q => absurd rfl q, fun _ => ⟨by omega, ?_⟩⟩
      apply hX_outside
      by_cases c3 : 0 ≤ c ∧ c < X 1 1
      · rw [if_neg (by omega)]
        exact ⟨fun q => absurd rfl q, fun _ => k1 ⟨c1, c2, c3⟩⟩
      · rw [if_pos (by omega)]
        exact ⟨fun _ => k0 (by omega), fun q => absurd q (by decide)⟩
    · rw [if_pos (by omega)]
      exact ⟨fun _ => k0 (by omega), fun q => absurd q (by decide)⟩
  · rw [if_pos (by omega)]
    exact ⟨fun _ => k0 (by omega), fun q => absurd q (by decide)⟩
def hsf (X : ax_Mem) (a b c : Int) : Nat → Nat → Int
  | 0, _ => 0
  | d + 1, i => if X 5 i = a ∧ X 6 i = b ∧ X 7 i = c then 1 else hsf X a b c d (i + 1)
theorem hsf_01 (X : ax_Mem) (a b c : Int) : ∀ d i, hsf X a b c d i = 0 ∨ hsf X a b c d i = 1
  | 0, _ => Or.inl rfl
  | d + 1, i => by
    unfold hsf
    split
    · exact Or.inr rfl
    · exact hsf_01 X a b c d (i + 1)
theorem hE_haveSeat {X : ax_Mem} {P : Int → ax_Mem → Prop} {a b c : Int} (hw : WP X) (k : P (hsf X a b c (X 2 7).toNat 0) X) : kE_haveSeat [.inr (.inr 2), .inl a, .inl b, .inl c] X P := by
  have hw1 := hw.1
  apply eE_haveSeat
  have key : ∀ (d i : Nat), i + d = (X 2 7).toNat → P (hsf X a b c d i) X → jE_haveSeat P 3 [(0, .inr (.inr 2)), (1, .inl a), (2, .inl b), (3, .inl c), (4, .inl (i : Int))] [] X := by
    intro d
    induction d with
    | zero =>
      intro i hi hp
      apply gE_haveSeat_3
      exact ⟨fun _ => hp, fun q => by omega⟩
    | succ d ih =>
      intro i hi hp
      apply gE_haveSeat_3
      unfold hsf at hp
      simp only [Int.toNat_natCast]
      rw [to1]
      refine ⟨fun q => by omega, fun _ => ⟨by omega, fun e => ?_, fun e => ⟨fun g => ?_, fun g => ⟨fun l => ?_, fun l => ?_⟩⟩⟩⟩
      · rw [if_neg (fun z => e z.1)] at hp; exact ih (i + 1) (by omega) hp
      · rw [if_neg (fun z => g z.2.1)] at hp; exact ih (i + 1) (by omega) hp
      · rw [if_neg (fun z => l z.2.2)] at hp; exact ih (i + 1) (by omega) hp
      · rw [if_pos ⟨e, g, l⟩] at hp; exact hp
  exact key _ 0 (by omega) k
theorem hM_isTaken {X Y : ax_Mem} {P : Int → ax_Mem → Prop} {a b c : Int} (hw : WP X) (hr : RP X Y) (k : P (hsf X a b c (X 2 7).toNat 0) Y) : kM_isTaken [.inr (.inr 0), .inl a, .inl b, .inl c] Y P := by
  have hw1 := hw.1
  apply eM_isTaken
  have key : ∀ (d i : Nat) (f : Int), i + d = (X 2 7).toNat → f = 0 ∨ f = 1 → P (if f = 0 then hsf X a b c d i else 1) Y → jM_isTaken P 6 [(0, .inr (.inr 0)), (1, .inl a), (2, .inl b), (3, .inl c), (4, .inl f), (5, .inl (i : Int))] [] Y := by
    intro d
    induction d with
    | zero =>
      intro i f hi hf hp
      apply gM_isTaken_6
      rw [hr.1.2.2.2]
      refine ⟨fun _ => ⟨hf, ?_⟩, fun q => by omega⟩
      rcases hf with z | z
      · rw [z] at hp ⊢; exact hp
      · rw [z] at hp ⊢; exact hp
    | succ d ih =>
      intro i f hi hf hp
      obtain ⟨e0, e1, e2, e3, e4, e5, e6⟩ := hr.2 i (by omega)
      apply gM_isTaken_6
      rw [hr.1.2.2.2, show (7 * (i : Int) + 2).toNat = 7 * i + 2 by omega, show (7 * (i : Int) + 3).toNat = 7 * i + 3 by omega, show (7 * (i : Int) + 4).toNat = 7 * i + 4 by omega, e2, e3, e4, to1]
      unfold hsf at hp
      refine ⟨fun q => by omega, fun _ => ⟨fun z => ⟨by omega, ?_⟩, fun z => ⟨by omega, by omega, by omega, fun e => ⟨by omega, ?_⟩, fun e => ⟨by omega, by omega, fun g => ⟨by omega, ?_⟩, fun g => ⟨by omega, by omega, fun l => ⟨by omega, ?_⟩, fun l => ⟨by omega, ?_⟩⟩⟩⟩⟩⟩
      · rw [if_neg z] at hp; exact ih (i + 1) 1 (by omega) (Or.inr rfl) hp
      · rw [if_pos z, if_neg (fun z => e z.1)] at hp; exact ih (i + 1) 0 (by omega) (Or.inl rfl) hp
      · rw [if_pos z, if_neg (fun z => g z.2.1)] at hp; exact ih (i + 1) 0 (by omega) (Or.inl rfl) hp
      · rw [if_pos z, if_neg (fun z => l z.2.2)] at hp; exact ih (i + 1) 0 (by omega) (Or.inl rfl) hp
      · rw [if_pos z, if_pos ⟨e, g, l⟩] at hp; exact ih (i + 1) 1 (by omega) (Or.inr rfl) hp
  exact key _ 0 0 (by omega) (Or.inl rfl) k
/-- one more person in the class, in the reference -/
def pX (X : ax_Mem) (a b c d e f g : Int) : ax_Mem := ax_u (ax_u (ax_u (ax_u (ax_u (ax_u (ax_u (ax_u X 3 ((X 2 7).toNat) a) 4 ((X 2 7).toNat) b) 5 ((X 2 7).toNat) c) 6 ((X 2 7).toNat) d) 7 ((X 2 7).toNat) e) 8 ((X 2 7).toNat) f) 9 ((X 2 7).toNat) g) 2 7 ((X 2 7) + 1)
def pM (Y : ax_Mem) (n : Nat) (a b c d e f g : Int) : ax_Mem := ax_u (ax_u (ax_u (ax_u (ax_u (ax_u (ax_u (ax_u Y 1 (7 * n) a) 1 (7 * n + 1) b) 1 (7 * n + 2) c) 1 (7 * n + 3) d) 1 (7 * n + 4) e) 1 (7 * n + 5) f) 1 (7 * n + 6) g) 0 4 ((n : Int) + 1)
theorem inv_person {t : Int} {X Y : ax_Mem} {a b c d e f g : Int} (h : INV t X Y) (hn : X 2 7 < 12) (ha : 0 ≤ a ∧ a ≤ 3) (hb : a = 3 → 0 ≤ b ∧ b < X 2 7) (hc : 0 ≤ c ∧ c < X 1 0) (hd : 0 ≤ d ∧ d ≤ 1) (he : 0 ≤ e ∧ e < X 1 1) (hf : 0 ≤ f ∧ f ≤ 3) (hg : 0 ≤ g ∧ g ≤ 999) : INV (t + 1) (pX X a b c d e f g) (pM Y (X 2 7).toNat a b c d e f g) := by
  obtain ⟨i1, i2, i3, i4, i5, i6, i7, i8⟩ := h
  have w1 := i1.1
  have k : ∀ q, q ≠ 2 → q < 3 ∨ 9 < q → pX X a b c d e f g q = X q := by
    intro q h1 h2
    unfold pX
    rw [ax_u_cell (by omega), ax_u_cell (by omega), ax_u_cell (by omega), ax_u_cell (by omega), ax_u_cell (by omega), ax_u_cell (by omega), ax_u_cell (by omega), ax_u_cell (by omega)]
  have k2 : pX X a b c d e f g 2 7 = X 2 7 + 1 := rfl
  have k3 : ∀ j, pX X a b c d e f g 3 j = if j = (X 2 7).toNat then a else X 3 j := fun j => by
    show ax_u X 3 ((X 2 7).toNat) a 3 j = _; rw [ax_uu]
  have k4 : ∀ j, pX X a b c d e f g 4 j = if j = (X 2 7).toNat then b else X 4 j := fun j => by
    show ax_u X 4 ((X 2 7).toNat) b 4 j = _; rw [ax_uu]
  have k5 : ∀ j, pX X a b c d e f g 5 j = if j = (X 2 7).toNat then c else X 5 j := fun j => by
    show ax_u X 5 ((X 2 7).toNat) c 5 j = _; rw [ax_uu]
  have k6 : ∀ j, pX X a b c d e f g 6 j = if j = (X 2 7).toNat then d else X 6 j := fun j => by
    show ax_u X 6 ((X 2 7).toNat) d 6 j = _; rw [ax_uu]
  have k7 : ∀ j, pX X a b c d e f g 7 j = if j = (X 2 7).toNat then e else X 7 j := fun j => by
    show ax_u X 7 ((X 2 7).toNat) e 7 j = _; rw [ax_uu]
  have k8 : ∀ j, pX X a b c d e f g 8 j = if j = (X 2 7).toNat then f else X 8 j := fun j => by
    show ax_u X 8 ((X 2 7).toNat) f 8 j = _; rw [ax_uu]
  have k9 : ∀ j, pX X a b c d e f g 9 j = if j = (X 2 7).toNat then g else X 9 j := fun j => by
    show ax_u X 9 ((X 2 7).toNat) g 9 j = _; rw [ax_uu]
  have m : ∀ q, q ≠ 0 → q ≠ 1 → pM Y (X 2 7).toNat a b c d e f g q = Y q := by
    intro q h1 h2
    unfold pM
    rw [ax_u_cell (by omega), ax_u_cell (by omega), ax_u_cell (by omega), ax_u_cell (by omega), ax_u_cell (by omega), ax_u_cell (by omega), ax_u_cell (by omega), ax_u_cell (by omega)]
  have m0 : ∀ q, q ≠ 4 → pM Y (X 2 7).toNat a b c d e f g 0 q = Y 0 q := by
    intro q h1
    unfold pM
    rw [ax_us h1, ax_u_cell (by omega), ax_u_cell (by omega), ax_u_cell (by omega), ax_u_cell (by omega), ax_u_cell (by omega), ax_u_cell (by omega), ax_u_cell (by omega)]
  have m4 : pM Y (X 2 7).toNat a b c d e f g 0 4 = X 2 7 + 1 := by
    show ((X 2 7).toNat : Int) + 1 = _; omega
  have m1 : ∀ q, pM Y (X 2 7).toNat a b c d e f g 1 q = if q = 7 * (X 2 7).toNat + 6 then g else if q = 7 * (X 2 7).toNat + 5 then f else if q = 7 * (X 2 7).toNat + 4 then e else if q = 7 * (X 2 7).toNat + 3 then d else if q = 7 * (X 2 7).toNat + 2 then c else if q = 7 * (X 2 7).toNat + 1 then b else if q = 7 * (X 2 7).toNat then a else Y 1 q := by
    intro q
    unfold pM
    rw [ax_u_cell (by omega), ax_uu, ax_uu, ax_uu, ax_uu, ax_uu, ax_uu, ax_uu]
  generalize pX X a b c d e f g = X2 at k k2 k3 k4 k5 k6 k7 k8 k9
  generalize pM Y (X 2 7).toNat a b c d e f g = Y2 at m m0 m4 m1
  refine ⟨⟨by rw [k2]; omega, by rw [k 1 (by omega) (by omega)]; exact i1.2.1, fun p hp => ?_⟩, ⟨⟨by rw [m0 0 (by omega), k 1 (by omega) (by omega)]; exact i2.1.1, by rw [m0 1 (by omega), k 1 (by omega) (by omega)]; exact i2.1.2.1, by rw [m0 2 (by omega), k 1 (by omega) (by omega)]; exact i2.1.2.2.1, by rw [m4, k2]⟩, fun p hp => ?_⟩, ?_, ?_, ?_, CL_of i6 (fun q h1 h2 => k q (by omega) (by omega)) (by rw [k 0 (by omega) (by omega)]) (m 3 (by omega) (by omega)) (m0 8 (by omega)), ?_, ?_⟩
  · rw [k2] at hp
    rw [k3, k4, k5, k6, k7, k8, k9, k 1 (by omega) (by omega)]
    by_cases z : p = (X 2 7).toNat
    · rw [if_pos z, if_pos z, if_pos z, if_pos z, if_pos z, if_pos z, if_pos z]
      exact ⟨ha, fun y => by have := hb y; omega, hc, hd, by have := i3.2.1; omega, hf, hg⟩
    · rw [if_neg z, if_neg z, if_neg z, if_neg z, if_neg z, if_neg z, if_neg z]
      exact i1.2.2 p (by omega)
  · rw [k2] at hp
    by_cases z : p = (X 2 7).toNat
    · subst z
      refine ⟨?_, ?_, ?_, ?_, ?_, ?_, ?_⟩
      · rw [m1, if_neg (by omega), if_neg (by omega), if_neg (by omega), if_neg (by omega), if_neg (by omega), if_neg (by omega), if_pos rfl, k3, if_pos rfl]
      · rw [m1, if_neg (by omega), if_neg (by omega), if_neg (by omega), if_neg (by omega), if_neg (by omega), if_pos rfl, k4, if_pos rfl]
      · rw [m1, if_neg (by omega), if_neg (by omega), if_neg (by omega), if_neg (by omega), if_pos rfl, k5, if_pos rfl]
      · rw [m1, if_neg (by omega), if_neg (by omega), if_neg (by omega), if_pos rfl, k6, if_pos rfl]
      · rw [m1, if_neg (by omega), if_neg (by omega), if_pos rfl, k7, if_pos rfl]
      · rw [m1, if_neg (by omega), if_pos rfl, k8, if_pos rfl]
      · rw [m1, if_pos rfl, k9, if_pos rfl]
    · obtain ⟨b0, b1, b2, b3, b4, b5, b6⟩ := i2.2 p (by omega)
      refine ⟨?_, ?_, ?_, ?_, ?_, ?_, ?_⟩
      · rw [m1, if_neg (by omega), if_neg (by omega), if_neg (by omega), if_neg (by omega), if_neg (by omega), if_neg (by omega), if_neg (by omega), k3, if_neg z]; exact b0
      · rw [m1, if_neg (by omega), if_neg (by omega), if_neg (by omega), if_neg (by omega), if_neg (by omega), if_neg (by omega), if_neg (by omega), k4, if_neg z]; exact b1
      · rw [m1, if_neg (by omega), if_neg (by omega), if_neg (by omega), if_neg (by omega), if_neg (by omega), if_neg (by omega), if_neg (by omega), k5, if_neg z]; exact b2
      · rw [m1, if_neg (by omega), if_neg (by omega), if_neg (by omega), if_neg (by omega), if_neg (by omega), if_neg (by omega), if_neg (by omega), k6, if_neg z]; exact b3
      · rw [m1, if_neg (by omega), if_neg (by omega), if_neg (by omega), if_neg (by omega), if_neg (by omega), if_neg (by omega), if_neg (by omega), k7, if_neg z]; exact b4
      · rw [m1, if_neg (by omega), if_neg (by omega), if_neg (by omega), if_neg (by omega), if_neg (by omega), if_neg (by omega), if_neg (by omega), k8, if_neg z]; exact b5
      · rw [m1, if_neg (by omega), if_neg (by omega), if_neg (by omega), if_neg (by omega), if_neg (by omega), if_neg (by omega), if_neg (by omega), k9, if_neg z]; exact b6
  · rw [k 1 (by omega) (by omega)]; exact i3
  · rw [k 1 (by omega) (by omega), m0 3 (by omega)]; exact ⟨i4.1, i4.2.1, by omega⟩
  · unfold PG; rw [k 13 (by omega) (by omega), k 14 (by omega) (by omega), m0 7 (by omega), m 2 (by omega) (by omega)]; exact i5
  · rw [k 0 (by omega) (by omega), m0 27 (by omega)]; exact i7
  · unfold IM
    rw [k 10 (by omega) (by omega), k 11 (by omega) (by omega), k 12 (by omega) (by omega), k2, m0 33 (by omega), m0 34 (by omega), m0 3 (by omega), m 18 (by omega) (by omega)]
    refine ⟨i8.1, ?_⟩
    rcases i8.2 with ⟨x1, x2, x3, x4, x5⟩ | x
    · exact Or.inl ⟨x1, x2, by omega, x4, x5⟩
    · exact Or.inr x
theorem q_person {t : Int} {X Y : ax_Mem} {a b c d e f g : Int} (h : INV t X Y) : kX_person [.inr (.inr 0), .inl a, .inl b, .inl c, .inl d, .inl e, .inl f, .inl g] X (fun r X2 => kM_person [.inr (.inr 0), .inl a, .inl b, .inl c, .inl d, .inl e, .inl f, .inl g] Y (fun r2 Y2 => r2 = r ∧ INV (t + 1) X2 Y2)) := by
  apply ax_Ca
  intro har
  have ha : ax_r a := har (.inl a) (by simp)
  have hc : ax_r c := har (.inl c) (by simp)
  have hd : ax_r d := har (.inl d) (by simp)
  have he : ax_r e := har (.inl e) (by simp)
  have hf : ax_r f := har (.inl f) (by simp)
  have hg : ax_r g := har (.inl g) (by simp)
  obtain ⟨i1, i2, i3, i4, i5, i6, i7, i8⟩ := id h
  have y0 := i2.1.1
  have y1 := i2.1.2.1
  have y4 := i2.1.2.2.2
  have w1 := i1.1
  have w2 := i1.2.1
  apply eX_person
  apply hC_isMissing
  by_cases c0 : X 1 0 = 0
  · rw [if_pos c0]
    refine ⟨fun q => absurd q (by decide), fun _ => ?_⟩
    apply eM_person
    apply hM_lacks
    rw [if_pos (by omega)]
    exact ⟨fun q => absurd q (by decide), fun _ => ⟨rfl, inv_id h⟩⟩
  rw [if_neg c0]
  refine ⟨fun _ => ?_, fun q => absurd rfl q⟩
  apply hX_outside
  by_cases c1 : a < 0 ∨ 3 < a
  · rw [if_pos c1]
    refine ⟨fun q => absurd q (by decide), fun _ => ?_⟩
    apply eM_person
    apply hM_lacks
    rw [if_neg (by omega)]
    refine ⟨fun _ => ?_, fun q => absurd rfl q⟩
    apply hM_in ha (ax_r0 (by omega)) (ax_r0 (by omega))
    rw [if_neg (by omega)]
    exact ⟨fun q => absurd rfl q, fun _ => ⟨rfl, inv_id h⟩⟩
  rw [if_neg c1]
  -- the reference up to whether n is known
  have st : ∀ P : Int → ax_Mem → Prop, ((if a = 3 then 0 ≤ b ∧ b < X 2 7 else b = -1) → jM_person P 48 [(0, .inr (.inr 0)), (1, .inl a), (2, .inl b), (3, .inl c), (4, .inl d), (5, .inl e), (6, .inl f), (7, .inl g)] [.inl 1] Y) → (¬ (if a = 3 then 0 ≤ b ∧ b < X 2 7 else b = -1) → P (-101) Y) → kM_person [.inr (.inr 0), .inl a, .inl b, .inl c, .inl d, .inl e, .inl f, .inl g] Y P := by
    intro P k1 k0
    apply eM_person
    apply hM_lacks
    rw [if_neg (by omega)]
    refine ⟨fun _ => ?_, fun q => absurd rfl q⟩
    apply hM_in ha (ax_r0 (by omega)) (ax_r0 (by omega))
    rw [if_pos (by omega)]
    refine ⟨fun _ => ⟨fun z => ⟨fun y => ?_, fun y => ?_⟩, fun z => ?_⟩, fun q => absurd q (by decide)⟩
    · rw [if_neg z] at k0
      apply gM_person_48
      exact ⟨fun q => absurd rfl q, fun _ => k0 y⟩
    · rw [if_neg z] at k1; exact k1 y
    · rw [if_pos z] at k0 k1
      apply hM_isPerson (by omega)
      by_cases y : 0 ≤ b ∧ b < X 2 7
      · rw [if_pos (by omega)]; exact k1 y
      · rw [if_neg (by omega)]
        apply gM_person_48
        exact ⟨fun q => absurd rfl q, fun _ => k0 y⟩
  have unk : ¬ (if a = 3 then 0 ≤ b ∧ b < X 2 7 else b = -1) → kM_person [.inr (.inr 0), .inl a, .inl b, .inl c, .inl d, .inl e, .inl f, .inl g] Y (fun r2 Y2 => r2 = -101 ∧ INV (t + 1) X Y2) := fun hn => st _ (fun z => absurd z hn) (fun _ => ⟨rfl, inv_id h⟩)
  -- behind that
  have st2 : ∀ P : Int → ax_Mem → Prop, (if a = 3 then 0 ≤ b ∧ b < X 2 7 else b = -1) → ((((0 ≤ c ∧ c < X 1 0) ∧ (0 ≤ d ∧ d ≤ 1) ∧ (0 ≤ e ∧ e < X 1 1)) ∧ (0 ≤ f ∧ f ≤ 3) ∧ (0 ≤ g ∧ g ≤ 999)) → jM_person P 133 [(0, .inr (.inr 0)), (1, .inl a), (2, .inl b), (3, .inl c), (4, .inl d), (5, .inl e), (6, .inl f), (7, .inl g)] [.inl 1] Y) → (¬ (((0 ≤ c ∧ c < X 1 0) ∧ (0 ≤ d ∧ d ≤ 1) ∧ (0 ≤ e ∧ e < X 1 1)) ∧ (0 ≤ f ∧ f ≤ 3) ∧ (0 ≤ g ∧ g ≤ 999)) → P (-102) Y) → kM_person [.inr (.inr 0), .inl a, .inl b, .inl c, .inl d, .inl e, .inl f, .inl g] Y P := by
    intro P hk k1 k0
    refine st P (fun _ => ?_) (fun z => absurd hk z)
    have no : ¬ (((0 ≤ c ∧ c < X 1 0) ∧ (0 ≤ d ∧ d ≤ 1) ∧ (0 ≤ e ∧ e < X 1 1)) ∧ (0 ≤ f ∧ f ≤ 3) ∧ (0 ≤ g ∧ g ≤ 999)) → jM_person P 132 [(0, .inr (.inr 0)), (1, .inl a), (2, .inl b), (3, .inl c), (4, .inl d), (5, .inl e), (6, .inl f), (7, .inl g)] [] Y := by
      intro z
      apply gM_person_132
      apply gM_person_133
      exact ⟨fun q => absurd rfl q, fun _ => k0 z⟩
    have w11 := i3.2.1
    apply gM_person_48
    rw [y0]
    refine ⟨fun _ => ⟨by omega, ?_⟩, fun q => absurd q (by decide)⟩
    apply hM_in hc (ax_r0 (by omega)) (ax_r0 (by omega))
    by_cases z1 : 0 ≤ c ∧ c < X 1 0
    · rw [if_pos (by omega)]
      refine ⟨fun q => absurd q (by decide), fun _ => ?_⟩
      apply hM_in hd (ax_r0 (by omega)) (ax_r0 (by omega))
      by_cases z2 : 0 ≤ d ∧ d ≤ 1
      · rw [if_pos (by omega), y1]
        refine ⟨fun q => absurd q (by decide), fun _ => ⟨by omega, ?_⟩⟩
        apply hM_in he (ax_r0 (by omega)) (ax_r0 (by omega))
        by_cases z3 : 0 ≤ e ∧ e < X 1 1
        · rw [if_pos (by omega)]
          refine ⟨fun q => absurd q (by decide), fun _ => ?_⟩
          apply hM_in hf (ax_r0 (by omega)) (ax_r0 (by omega))
          by_cases z4 : 0 ≤ f ∧ f ≤ 3
          · rw [if_pos (by omega)]
            refine ⟨fun q => absurd q (by decide), fun _ => ?_⟩
            apply hM_in hg (ax_r0 (by omega)) (ax_r0 (by omega))
            by_cases z5 : 0 ≤ g ∧ g ≤ 999
            · rw [if_pos (by omega)]
              exact ⟨fun q => absurd q (by decide), fun _ => k1 ⟨⟨z1, z2, z3⟩, z4, z5⟩⟩
            · rw [if_neg (by omega)]
              exact ⟨fun _ => no (by omega), fun q => absurd rfl q⟩
          · rw [if_neg (by omega)]
            exact ⟨fun _ => no (by omega), fun q => absurd rfl q⟩
        · rw [if_neg (by omega)]
          exact ⟨fun _ => no (by omega), fun q => absurd rfl q⟩
      · rw [if_neg (by omega)]
        exact ⟨fun _ => no (by omega), fun q => absurd rfl q⟩
    · rw [if_neg (by omega)]
      exact ⟨fun _ => no (by omega), fun q => absurd rfl q⟩
  -- the class behind that
  have tail : (if a = 3 then 0 ≤ b ∧ b < X 2 7 else b = -1) → kC_hasSeat [.inr (.inr 1), .inl c, .inl d, .inl e] X (fun r5 M6 => (r5 = 0 → kM_person [.inr (.inr 0), .inl a, .inl b, .inl c, .inl d, .inl e, .inl f, .inl g] Y (fun r2 Y2 => r2 = (-102) ∧ INV (t + 1) M6 Y2)) ∧ (¬ r5 = 0 → kX_outside [.inl f, .inl 0, .inl 3] M6 (fun r7 M8 => (¬ r7 = 0 → kM_person [.inr (.inr 0), .inl a, .inl b, .inl c, .inl d, .inl e, .inl f, .inl g] Y (fun r2 Y2 => r2 = (-102) ∧ INV (t + 1) M8 Y2)) ∧ (r7 = 0 → kX_outside [.inl g, .inl 0, .inl 999] M8 (fun r9 M10 => (r9 = 0 → kE_haveSeat [.inr (.inr 2), .inl c, .inl d, .inl e] M10 (fun r11 M12 => (r11 = 0 → ((M12 2 7) < 12 → (0 ≤ (M12 2 7) ∧ (M12 2 7) < 12) ∧ kM_person [.inr (.inr 0), .inl a, .inl b, .inl c, .inl d, .inl e, .inl f, .inl g] Y (fun r2 Y2 => r2 = (M12 2 7) ∧ INV (t + 1) (ax_u (ax_u (ax_u (ax_u (ax_u (ax_u (ax_u (ax_u M12 3 ((M12 2 7).toNat) a) 4 ((M12 2 7).toNat) b) 5 ((M12 2 7).toNat) c) 6 ((M12 2 7).toNat) d) 7 ((M12 2 7).toNat) e) 8 ((M12 2 7).toNat) f) 9 ((M12 2 7).toNat) g) 2 7 ((M12 2 7) + 1)) Y2)) ∧ (¬ (M12 2 7) < 12 → kM_person [.inr (.inr 0), .inl a, .inl b, .inl c, .inl d, .inl e, .inl f, .inl g] Y (fun r2 Y2 => r2 = (-104) ∧ INV (t + 1) M12 Y2))) ∧ (¬ r11 = 0 → kM_person [.inr (.inr 0), .inl a, .inl b, .inl c, .inl d, .inl e, .inl f, .inl g] Y (fun r2 Y2 => r2 = (-103) ∧ INV (t + 1) M12 Y2)))) ∧ (¬ r9 = 0 → kM_person [.inr (.inr 0), .inl a, .inl b, .inl c, .inl d, .inl e, .inl f, .inl g] Y (fun r2 Y2 => r2 = (-102) ∧ INV (t + 1) M10 Y2))))))) := by
    intro hk
    have bad : ¬ (((0 ≤ c ∧ c < X 1 0) ∧ (0 ≤ d ∧ d ≤ 1) ∧ (0 ≤ e ∧ e < X 1 1)) ∧ (0 ≤ f ∧ f ≤ 3) ∧ (0 ≤ g ∧ g ≤ 999)) → kM_person [.inr (.inr 0), .inl a, .inl b, .inl c, .inl d, .inl e, .inl f, .inl g] Y (fun r2 Y2 => r2 = (-102) ∧ INV (t + 1) X Y2) := fun hn => st2 _ hk (fun z => absurd z hn) (fun _ => ⟨rfl, inv_id h⟩)
    apply hC_hasSeat w2 i3.2.1
    · intro z1
      refine ⟨fun q => absurd q (by decide), fun _ => ?_⟩
      apply hX_outside
      by_cases z2 : 0 ≤ f ∧ f ≤ 3
      · rw [if_neg (by omega)]
        refine ⟨fun q => absurd rfl q, fun _ => ?_⟩
        apply hX_outside
        by_cases z3 : 0 ≤ g ∧ g ≤ 999
        · rw [if_neg (by omega)]
          refine ⟨fun _ => ?_, fun q => absurd rfl q⟩
          apply hE_haveSeat i1
          have h01 := hsf_01 X c d e (X 2 7).toNat 0
          refine ⟨fun z4 => ⟨fun z5 => ⟨by omega, ?_⟩, fun z5 => ?_⟩, fun z4 => ?_⟩
          · refine st2 _ hk (fun zz => ?_) (fun zz => absurd ⟨z1, z2, z3⟩ zz)
            apply gM_person_133
            refine ⟨fun _ => ?_, fun q => absurd q (by decide)⟩
            apply hM_isTaken i1 i2
            have hinv := inv_person (a := a) (b := b) (c := c) (d := d) (e := e) (f := f) (g := g) h z5 (by omega) (fun y => by rw [if_pos y] at hk; exact hk) z1.1 z1.2.1 z1.2.2 z2 z3
            refine ⟨fun _ => ⟨fun z6 => ?_, fun z6 => by omega⟩, fun q => absurd z4 q⟩
            rw [y4]
            refine ⟨by omega, by omega, by omega, by omega, by omega, by omega, by omega, by omega, by omega, by omega, by omega, ?_⟩
            unfold pX pM at hinv
            rw [show (7 * X 2 7).toNat = 7 * (X 2 7).toNat by omega, show (7 * X 2 7 + 1).toNat = 7 * (X 2 7).toNat + 1 by omega, show (7 * X 2 7 + 2).toNat = 7 * (X 2 7).toNat + 2 by omega, show (7 * X 2 7 + 3).toNat = 7 * (X 2 7).toNat + 3 by omega, show (7 * X 2 7 + 4).toNat = 7 * (X 2 7).toNat + 4 by omega, show (7 * X 2 7 + 5).toNat = 7 * (X 2 7).toNat + 5 by omega, show (7 * X 2 7 + 6).toNat = 7 * (X 2 7).toNat + 6 by omega]
            rw [show (((X 2 7).toNat : Nat) : Int) + 1 = X 2 7 + 1 by omega] at hinv
            exact hinv
          · refine st2 _ hk (fun zz => ?_) (fun zz => absurd ⟨z1, z2, z3⟩ zz)
            apply gM_person_133
            refine ⟨fun _ => ?_, fun q => absurd q (by decide)⟩
            apply hM_isTaken i1 i2
            exact ⟨fun _ => ⟨fun z6 => by omega, fun z6 => ⟨rfl, inv_id h⟩⟩, fun q => absurd z4 q⟩
          · refine st2 _ hk (fun zz => ?_) (fun zz => absurd ⟨z1, z2, z3⟩ zz)
            apply gM_person_133
            refine ⟨fun _ => ?_, fun q => absurd q (by decide)⟩
            apply hM_isTaken i1 i2
            exact ⟨fun q => absurd q z4, fun _ => ⟨rfl, inv_id h⟩⟩
        · rw [if_pos (by omega)]
          exact ⟨fun q => absurd q (by decide), fun _ => bad (by omega)⟩
      · rw [if_pos (by omega)]
        exact ⟨fun _ => bad (by omega), fun q => absurd q (by decide)⟩
    · intro z1
      exact ⟨fun _ => bad (fun zz => z1 zz.1), fun q => absurd rfl q⟩
  refine ⟨fun _ => ⟨fun z => ⟨fun y => tail (by rw [if_neg z]; exact y), fun y => unk (by rw [if_neg z]; exact y)⟩, fun z => ?_⟩, fun q => absurd rfl q⟩
  apply hE_has
  by_cases y : 0 ≤ b ∧ b < X 2 7
  · rw [if_pos y]
    exact ⟨fun _ => tail (by rw [if_pos z]; exact y), fun q => absurd q (by decide)⟩
  · rw [if_neg y]
    exact ⟨fun q => absurd rfl q, fun _ => unk (by rw [if_pos z]; exact y)⟩
