/-! rows for specs: loops, what may be taken for granted -/
theorem up_loop {Q : Nat → Prop} (n : Nat) (hend : Q n) (hstep : ∀ i, i < n → Q (i + 1) → Q i) : ∀ i, i ≤ n → Q i := by
  intro i hi
  obtain ⟨d, rfl⟩ : ∃ d, n = i + d := ⟨n - i, by omega⟩
  induction d generalizing i with
  | zero => exact hend
  | succ d ih =>
    refine hstep i (by omega) (ih (i + 1) ?_ ?_ (by omega))
    · rw [show i + 1 + d = i + (d + 1) by omega]; exact hend
    · intro j hj; exact hstep j (by omega)
theorem ax_Jn {sh : List ax_Sh} {y : MethodName} {cc : ByteArray} {mL : Nat} {ret : Option FieldType} {dp : Nat} {P : Int → ax_Mem → Prop} {pc : Nat} {ls : List (Nat × ax_V)} {st : List ax_V} {M : ax_Mem} (h : ax_n sh M → ax_J sh y cc mL ret dp P pc ls st M) : ax_J sh y cc mL ret dp P pc ls st M := by
  intro p l e s m args below meth c D ca ad X hn
  exact h hn p l e s m args below meth c D ca ad X hn
theorem ax_Cn {sh : List ax_Sh} {y : MethodName} {cc : ByteArray} {mL : Nat} {ret : Option FieldType} {dp : Nat} {as : List ax_V} {P : Int → ax_Mem → Prop} {M : ax_Mem} (h : ax_n sh M → ax_C sh y cc mL ret dp as M P) : ax_C sh y cc mL ret dp as M P := by
  intro l D ca ad hI hn
  exact h hn l D ca ad hI hn
/-- the arguments are in range -/
theorem ax_Ca {sh : List ax_Sh} {y : MethodName} {cc : ByteArray} {mL : Nat} {ret : Option FieldType} {dp : Nat} {as : List ax_V} {P : Int → ax_Mem → Prop} {M : ax_Mem} (h : (∀ v ∈ as, ax_vr v) → ax_C sh y cc mL ret dp as M P) : ax_C sh y cc mL ret dp as M P := by
  intro l D ca ad hI hn ha
  exact h ha l D ca ad hI hn ha
theorem ax_uu (X : ax_Mem) (k a b : Nat) (v : Int) : ax_u X k a v k b = if b = a then v else X k b := by simp [ax_u]
theorem ax_us {X : ax_Mem} {k a b : Nat} {v : Int} (h : b ≠ a) : ax_u X k a v k b = X k b := by simp [ax_u, h]
theorem ax_sat (X : ax_Mem) (k : Nat) (f : Nat → Int) : ax_s X k f k = f := by simp [ax_s]
theorem ax_sne {X : ax_Mem} {k a : Nat} {f : Nat → Int} (h : a ≠ k) : ax_s X k f a = X a := by simp [ax_s, h]
theorem to1 (i : Nat) : ((i : Int) + 1) = ((i + 1 : Nat) : Int) := by omega
theorem to0 : (0 : Int) = ((0 : Nat) : Int) := rfl
-- ===== pure: bins, who is in the way
def nb (left : Nat → Int) (rows r : Int) : Nat → Int → Int
  | 0, _ => -1
  | n + 1, w => if 0 ≤ r - w ∧ 0 < left (r - w).toNat then r - w else if r + w < rows ∧ 0 < left (r + w).toNat then r + w else nb left rows r n (w + 1)
def iw (cm sat row side depth : Nat → Int) (p : Nat) : Nat → Int
  | 0 => 0
  | n + 1 => iw cm sat row side depth p n + (if 0 < sat (cm n).toNat ∧ row (cm n).toNat = row p ∧ side (cm n).toNat = side p ∧ depth (cm n).toNat < depth p then 1 else 0)
theorem iw_b (cm sat row side depth : Nat → Int) (p : Nat) : ∀ n, 0 ≤ iw cm sat row side depth p n ∧ iw cm sat row side depth p n ≤ n
  | 0 => by simp [iw]
  | n + 1 => by
    have := iw_b cm sat row side depth p n
    simp only [iw]
    split <;> omega
theorem nb_b (left : Nat → Int) (rows r : Int) (hr : r < 12) (hr0 : 0 ≤ r) (hrs : r < rows) (h12 : rows ≤ 12) : ∀ (n : Nat) (w : Int), 0 ≤ w → nb left rows r n w = -1 ∨ (0 ≤ nb left rows r n w ∧ nb left rows r n w < rows ∧ 0 < left (nb left rows r n w).toNat)
  | 0, w, _ => Or.inl rfl
  | n + 1, w, hw => by
    unfold nb
    split
    · rename_i h; exact Or.inr ⟨h.1, by omega, h.2⟩
    · split
      · rename_i h; exact Or.inr ⟨by omega, h.1, h.2⟩
      · exact nb_b left rows r hr hr0 hrs h12 n (w + 1) (by omega)
-- ===== the class: Boarding.nearestBin, inTheWayOf
theorem hB_nearestBin {X : ax_Mem} {P : Int → ax_Mem → Prop} {r : Int} (h0 : 0 ≤ r) (h1 : r < X 44 10) (h2 : X 44 10 ≤ 12) (h : P (nb (X 48) (X 44 10) r (X 44 10).toNat 0) X) : kB_nearestBin [.inr (.inr 44), .inl r] X P := by
  apply eB_nearestBin
  have key : ∀ (n : Nat) (w : Int), 0 ≤ w → w + n = X 44 10 → P (nb (X 48) (X 44 10) r n w) X → jB_nearestBin P 2 [(0, .inr (.inr 44)), (1, .inl r), (2, .inl w)] [] X := by
    intro n
    induction n with
    | zero =>
      intro w hw hn hp
      apply gB_nearestBin_2
      exact ⟨fun _ => hp, fun h => absurd (show X 44 10 ≤ w by omega) h⟩
    | succ n ih =>
      intro w hw hn hp
      unfold nb at hp
      apply gB_nearestBin_2
      refine ⟨fun h => by omega, fun _ => ⟨by omega, fun c1 => ⟨by omega, fun c2 => ⟨by omega, ?_⟩, fun c2 => ⟨by omega, fun c3 => ⟨by omega, ?_⟩, fun c3 => ?_⟩⟩, fun c1 => ⟨by omega, fun c2 => ⟨by omega, fun c3 => ⟨by omega, ?_⟩, fun c3 => ⟨by omega, fun c4 => ⟨by omega, ?_⟩, fun c4 => ?_⟩⟩, fun c2 => ?_⟩⟩⟩
      · rw [if_neg (by omega), if_neg (by omega)] at hp
        exact ih (w + 1) (by omega) (by omega) hp
      · rw [if_neg (by omega), if_neg (by omega)] at hp
        exact ih (w + 1) (by omega) (by omega) hp
      · rw [if_neg (by omega), if_pos (by omega)] at hp
        exact hp
      · rw [if_neg (by omega), if_neg (by omega)] at hp
        exact ih (w + 1) (by omega) (by omega) hp
      · rw [if_neg (by omega), if_neg (by omega)] at hp
        exact ih (w + 1) (by omega) (by omega) hp
      · rw [if_neg (by omega), if_pos (by omega)] at hp
        exact hp
      · rw [if_pos (by omega)] at hp
        exact hp
  exact key (X 44 10).toNat 0 (by omega) (by omega) h
theorem hB_inTheWayOf {X : ax_Mem} {P : Int → ax_Mem → Prop} {p : Nat} (hp : p < 12) (hm0 : 0 ≤ X 44 12) (hm : X 44 12 ≤ 12) (hc : ∀ i : Nat, (i : Int) < X 44 12 → 0 ≤ X 47 i ∧ X 47 i < 12) (h : P (iw (X 47) (X 50) (X 45) (X 6) (X 7) p (X 44 12).toNat) X) : kB_inTheWayOf [.inr (.inr 44), .inl (p : Int)] X P := by
  apply eB_inTheWayOf
  refine up_loop (Q := fun i => jB_inTheWayOf P 4 [(0, .inr (.inr 44)), (1, .inl (p : Int)), (2, .inl (iw (X 47) (X 50) (X 45) (X 6) (X 7) p i)), (3, .inl (i : Int))] [] X) (X 44 12).toNat ?_ ?_ 0 (Nat.zero_le _)
  · apply gB_inTheWayOf_4
    exact ⟨fun _ => h, fun c => by omega⟩
  · intro i hi hQ
    apply gB_inTheWayOf_4
    have hci := hc i (by omega)
    have hb := iw_b (X 47) (X 50) (X 45) (X 6) (X 7) p i
    simp only [iw, ← to1] at hQ
    simp only [Int.toNat_natCast]
    refine ⟨fun c => by omega, fun _ => ⟨by omega, hci, fun c1 => ?_, fun c1 => ⟨by omega, fun c2 => ?_, fun c2 => ⟨fun c3 => ?_, fun c3 => ⟨fun c4 => ?_, fun c4 => ?_⟩⟩⟩⟩⟩
    · rw [if_neg (by omega), Int.add_zero] at hQ; exact hQ
    · rw [if_neg (by omega), Int.add_zero] at hQ; exact hQ
    · rw [if_neg (by omega), Int.add_zero] at hQ; exact hQ
    · rw [if_neg (by omega), Int.add_zero] at hQ; exact hQ
    · rw [if_pos (by omega)] at hQ; exact ⟨by omega, hQ⟩
