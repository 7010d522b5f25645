/-! THE ORDER: pure -/
def ins (w : Nat → Int) (a : Nat) (p : Int) : Nat → Int := fun j => if j < a then w j else if j = a then p else w (j - 1)
def del (w : Nat → Int) (a : Nat) : Nat → Int := fun j => if j < a then w j else w (j + 1)
def plf (w : Nat → Int) (p : Int) : Nat → Nat → Int
  | 0, _ => -1
  | n + 1, i => if w i = p then i else plf w p n (i + 1)
def uf (g : Nat → Int) (k : Nat) (v : Int) : Nat → Int := fun j => if j = k then v else g j
theorem ax_uf (X : ax_Mem) (k j : Nat) (v : Int) : ax_u X k j v k = uf (X k) j v := by
  funext b
  rw [ax_uu]
  rfl
def shR (w : Nat → Int) (n m : Nat) (g : Nat → Int) : Prop := (∀ j, j < m → g j = w j) ∧ (∀ j, m < j → j ≤ n → g j = w (j - 1))
def shL (w : Nat → Int) (n a i : Nat) (g : Nat → Int) : Prop := (∀ j, j < i → g j = del w a j) ∧ (∀ j, i ≤ j → j < n → g j = w j)
theorem shR_step {w g : Nat → Int} {n m : Nat} (h : shR w n (m + 1) g) : shR w n m (uf g (m + 1) (g m)) := by
  refine ⟨fun j hj => ?_, fun j hj hn => ?_⟩
  · unfold uf; rw [if_neg (by omega)]; exact h.1 j (by omega)
  · unfold uf
    by_cases c : j = m + 1
    · rw [if_pos c, h.1 m (by omega), c]; rfl
    · rw [if_neg c]; exact h.2 j (by omega) hn
theorem shR_end {w g : Nat → Int} {n a : Nat} {p : Int} (h : shR w n a g) (j : Nat) (hj : j < n + 1) : uf g a p j = ins w a p j := by
  unfold uf ins
  by_cases c : j = a
  · rw [if_pos c, if_neg (by omega), if_pos c]
  · rw [if_neg c]
    by_cases d : j < a
    · rw [if_pos d]; exact h.1 j d
    · rw [if_neg d, if_neg c]; exact h.2 j (by omega) (by omega)
theorem shL_step {w g : Nat → Int} {n a i : Nat} (h : shL w n a i g) (ha : a ≤ i) (hi : i + 1 < n) : shL w n a (i + 1) (uf g i (g (i + 1))) := by
  refine ⟨fun j hj => ?_, fun j hj hn => ?_⟩
  · unfold uf
    by_cases c : j = i
    · rw [if_pos c, h.2 (i + 1) (by omega) hi, c]
      unfold del
      rw [if_neg (by omega)]
    · rw [if_neg c]; exact h.1 j (by omega)
  · unfold uf; rw [if_neg (by omega)]; exact h.2 j (by omega) hn
theorem shL_0 {w g : Nat → Int} {n a : Nat} (h : ∀ j, j < n → g j = w j) (ha : a < n) : shL w n a a g := ⟨fun j hj => by unfold del; rw [if_pos hj]; exact h j (by omega), fun j _ hj => h j hj⟩
theorem plf_eq {w g : Nat → Int} {p : Int} : ∀ (n i : Nat), (∀ j, j < i + n → g j = w j) → plf g p n i = plf w p n i
  | 0, _, _ => rfl
  | n + 1, i, h => by
    unfold plf
    rw [h i (by omega), plf_eq n (i + 1) (fun j hj => h j (by omega))]
theorem plf_in {w : Nat → Int} {p : Int} : ∀ (n i j : Nat), i ≤ j → j < i + n → w j = p → ∃ k : Nat, plf w p n i = k ∧ i ≤ k ∧ k < i + n ∧ w k = p
  | 0, i, j, h1, h2, _ => by omega
  | n + 1, i, j, h1, h2, h3 => by
    unfold plf
    by_cases c : w i = p
    · rw [if_pos c]; exact ⟨i, rfl, by omega, by omega, c⟩
    · rw [if_neg c]
      have : j ≠ i := fun z => c (by rw [← z]; exact h3)
      obtain ⟨k, e, a, b, d⟩ := plf_in n (i + 1) j (by omega) (by omega) h3
      exact ⟨k, e, by omega, by omega, d⟩
theorem plf_b {w : Nat → Int} {p : Int} : ∀ (n i : Nat), plf w p n i = -1 ∨ ∃ k : Nat, plf w p n i = k ∧ i ≤ k ∧ k < i + n ∧ w k = p
  | 0, _ => Or.inl rfl
  | n + 1, i => by
    unfold plf
    by_cases c : w i = p
    · rw [if_pos c]; exact Or.inr ⟨i, rfl, by omega, by omega, c⟩
    · rw [if_neg c]
      rcases plf_b (w := w) (p := p) n (i + 1) with e | ⟨k, e, a, b, d⟩
      · exact Or.inl e
      · exact Or.inr ⟨k, e, by omega, by omega, d⟩
/-- the first n places hold 0 to n - 1, each once -/
def PM (n : Nat) (w : Nat → Int) : Prop := (∀ i, i < n → 0 ≤ w i ∧ w i < n) ∧ (∀ i j, i < n → j < n → w i = w j → i = j) ∧ (∀ p : Nat, p < n → ∃ i, i < n ∧ w i = p)
theorem PM_ins {n a : Nat} {w : Nat → Int} (h : PM n w) (ha : a ≤ n) : PM (n + 1) (ins w a n) := by
  obtain ⟨h1, h2, h3⟩ := h
  have val : ∀ j, j < n + 1 → (j = a ∧ ins w a n j = n) ∨ (j < a ∧ ins w a n j = w j) ∨ (a < j ∧ ins w a n j = w (j - 1)) := by
    intro j hj
    unfold ins
    by_cases c : j < a
    · rw [if_pos c]; exact Or.inr (Or.inl ⟨c, rfl⟩)
    · rw [if_neg c]
      by_cases d : j = a
      · rw [if_pos d]; exact Or.inl ⟨d, rfl⟩
      · rw [if_neg d]; exact Or.inr (Or.inr ⟨by omega, rfl⟩)
  refine ⟨fun i hi => ?_, fun i j hi hj e => ?_, fun p hp => ?_⟩
  · rcases val i hi with ⟨_, e⟩ | ⟨c, e⟩ | ⟨c, e⟩
    · omega
    · have := h1 i (by omega); omega
    · have := h1 (i - 1) (by omega); omega
  · rcases val i hi with ⟨c, e1⟩ | ⟨c, e1⟩ | ⟨c, e1⟩ <;> rcases val j hj with ⟨d, e2⟩ | ⟨d, e2⟩ | ⟨d, e2⟩
    · omega
    · have := h1 j (by omega); omega
    · have := h1 (j - 1) (by omega); omega
    · have := h1 i (by omega); omega
    · exact h2 i j (by omega) (by omega) (by omega)
    · have := h2 i (j - 1) (by omega) (by omega) (by omega); omega
    · have := h1 (i - 1) (by omega); omega
    · have := h2 (i - 1) j (by omega) (by omega) (by omega); omega
    · have := h2 (i - 1) (j - 1) (by omega) (by omega) (by omega); omega
  · by_cases c : p = n
    · refine ⟨a, by omega, ?_⟩
      unfold ins
      rw [if_neg (by omega), if_pos rfl, c]
    · obtain ⟨i, hi, e⟩ := h3 p (by omega)
      by_cases d : i < a
      · refine ⟨i, by omega, ?_⟩
        unfold ins
        rw [if_pos d]; exact e
      · refine ⟨i + 1, by omega, ?_⟩
        unfold ins
        rw [if_neg (by omega), if_neg (by omega)]
        exact e
/-- one moved to another place -/
theorem PM_mov {n a b : Nat} {w : Nat → Int} {p : Int} (h : PM n w) (ha : a < n) (hb : b < n) (hp : w a = p) : PM n (ins (del w a) b p) := by
  obtain ⟨h1, h2, h3⟩ := h
  have hd : ∀ j, (j < a ∧ del w a j = w j) ∨ (a ≤ j ∧ del w a j = w (j + 1)) := by
    intro j
    unfold del
    by_cases c : j < a
    · rw [if_pos c]; exact Or.inl ⟨c, rfl⟩
    · rw [if_neg c]; exact Or.inr ⟨by omega, rfl⟩
  have src : ∀ j, j < n → ∃ i, i < n ∧ ins (del w a) b p j = w i ∧ ((j = b ∧ i = a) ∨ (j < b ∧ j < a ∧ i = j) ∨ (j < b ∧ a ≤ j ∧ i = j + 1) ∨ (b < j ∧ j - 1 < a ∧ i = j - 1) ∨ (b < j ∧ a ≤ j - 1 ∧ i = j)) := by
    intro j hj
    unfold ins
    by_cases c : j < b
    · rw [if_pos c]
      rcases hd j with ⟨d, e⟩ | ⟨d, e⟩
      · exact ⟨j, hj, e, by omega⟩
      · exact ⟨j + 1, by omega, e, by omega⟩
    · rw [if_neg c]
      by_cases c2 : j = b
      · rw [if_pos c2]; exact ⟨a, ha, hp.symm, by omega⟩
      · rw [if_neg c2]
        rcases hd (j - 1) with ⟨d, e⟩ | ⟨d, e⟩
        · exact ⟨j - 1, by omega, e, by omega⟩
        · exact ⟨j, hj, by rw [e]; congr 1; omega, by omega⟩
  refine ⟨fun i hi => ?_, fun i j hi hj e => ?_, fun q hq => ?_⟩
  · obtain ⟨i2, hi2, e, -⟩ := src i hi
    rw [e]; exact h1 i2 hi2
  · obtain ⟨i2, hi2, e2, c2⟩ := src i hi
    obtain ⟨i3, hi3, e3, c3⟩ := src j hj
    have := h2 i2 i3 hi2 hi3 (by rw [← e2, ← e3]; exact e)
    omega
  · obtain ⟨i, hi, e⟩ := h3 q hq
    have back : ∃ j, j < n ∧ ((j = b ∧ i = a) ∨ (j < b ∧ j < a ∧ i = j) ∨ (j < b ∧ a ≤ j ∧ i = j + 1) ∨ (b < j ∧ j - 1 < a ∧ i = j - 1) ∨ (b < j ∧ a ≤ j - 1 ∧ i = j)) := by
      by_cases c : i = a
      · exact ⟨b, hb, by omega⟩
      · by_cases c2 : i < a
        · by_cases c3 : i < b
          · exact ⟨i, hi, by omega⟩
          · exact ⟨i + 1, by omega, by omega⟩
        · by_cases c3 : i - 1 < b
          · exact ⟨i - 1, by omega, by omega⟩
          · exact ⟨i, hi, by omega⟩
    obtain ⟨j, hj, hc⟩ := back
    obtain ⟨i2, hi2, e2, c2⟩ := src j hj
    refine ⟨j, hj, ?_⟩
    rw [e2, show i2 = i by omega]
    exact e
-- who comes ahead
def vl (key nm rows row depth side bags : Int) : Int := if key = 98 then (rows - 1 - row) / nm else if key = 102 then row / nm else if key = 119 then -depth else if key = 97 then depth else if key = 115 then row % 2 else if key = 111 then side else bags
def rk (kind : Int) : Int := if kind = 2 then 0 else if kind = 1 then 2 else 1
def ahf (f g : Nat → Int) (p q : Int) : Nat → Nat → Int
  | 0, _ => if p < q then 1 else 0
  | n + 1, i => if f i = g i then ahf f g p q n (i + 1) else if f i < g i then 1 else 0
def va (X : ax_Mem) (c : Nat) (mb : Int) (p i : Nat) : Int := vl (X (17 + 3 * c) i) (max 1 (X (18 + 3 * c) i)) (X 1 0) (X 5 p) (X 7 p) (X 6 p) (min (X 8 p) mb)
def ah (X : ax_Mem) (c : Nat) (mb : Int) (p q : Nat) : Int := if rk (X 3 p) = rk (X 3 q) then ahf (va X c mb p) (va X c mb q) p q (X (16 + 3 * c) 2).toNat 0 else if rk (X 3 p) < rk (X 3 q) then 1 else 0
theorem ahf_01 (f g : Nat → Int) (p q : Int) : ∀ n i, ahf f g p q n i = 0 ∨ ahf f g p q n i = 1
  | 0, _ => by unfold ahf; split <;> simp
  | n + 1, i => by
    unfold ahf
    split
    · exact ahf_01 f g p q n (i + 1)
    · split <;> simp
theorem ah_01 (X : ax_Mem) (c : Nat) (mb : Int) (p q : Nat) : ah X c mb p q = 0 ∨ ah X c mb p q = 1 := by
  unfold ah
  split
  · exact ahf_01 _ _ _ _ _ _
  · split <;> simp
/-- the place where p is put in, from behind -/
def ip (a : Nat → Int) (w : Nat → Int) : Nat → Nat
  | 0 => 0
  | n + 1 => if a (w n).toNat = 0 then n + 1 else ip a w n
theorem ip_le (a : Nat → Int) (w : Nat → Int) : ∀ n, ip a w n ≤ n
  | 0 => Nat.le_refl _
  | n + 1 => by unfold ip; have := ip_le a w n; split <;> omega
def o1 (X : ax_Mem) (c : Nat) (mb : Int) : Nat → Nat → Int
  | 0 => fun _ => 0
  | k + 1 => ins (o1 X c mb k) (ip (ah X c mb k) (o1 X c mb k) k) k
def oa (w : Nat → Int) (n k : Nat) : Nat := (plf w k n 0).toNat
def ob (w : Nat → Int) (n k : Nat) (b : Int) : Nat := (plf (del w (oa w n k)) b (n - 1) 0 + 1).toNat
def o2 (X : ax_Mem) (n : Nat) (w : Nat → Int) : Nat → Nat → Int
  | 0 => w
  | k + 1 => if X 3 k = 3 then ins (del (o2 X n w k) (oa (o2 X n w k) n k)) (ob (o2 X n w k) n k (X 4 k)) k else o2 X n w k
def od (X : ax_Mem) (c : Nat) (mb : Int) : Nat → Int := o2 X (X 2 7).toNat (o1 X c mb (X 2 7).toNat) (X 2 7).toNat
theorem o1_PM (X : ax_Mem) (c : Nat) (mb : Int) : ∀ k, PM k (o1 X c mb k)
  | 0 => ⟨fun i hi => by omega, fun i j hi _ _ => by omega, fun p hp => by omega⟩
  | k + 1 => PM_ins (o1_PM X c mb k) (ip_le _ _ k)
/-- a person of a permutation has its place -/
theorem oa_in {n k : Nat} {w : Nat → Int} (h : PM n w) (hk : k < n) : plf w k n 0 = (oa w n k : Int) ∧ oa w n k < n ∧ w (oa w n k) = k := by
  obtain ⟨i, hi, e⟩ := h.2.2 k hk
  obtain ⟨q, e1, a, b, d⟩ := plf_in n 0 i (by omega) (by omega) e
  unfold oa
  rw [e1]
  exact ⟨by omega, by omega, d⟩
theorem ob_lt {n k : Nat} {w : Nat → Int} {b : Int} (hn : 0 < n) : plf (del w (oa w n k)) b (n - 1) 0 + 1 = (ob w n k b : Int) ∧ ob w n k b < n := by
  unfold ob
  rcases plf_b (w := del w (oa w n k)) (p := b) (n - 1) 0 with e | ⟨q, e, _, c, _⟩
  · rw [e]; exact ⟨by omega, by omega⟩
  · rw [e]; exact ⟨by omega, by omega⟩
theorem o2_PM {X : ax_Mem} {n : Nat} {w : Nat → Int} (h : PM n w) : ∀ k, k ≤ n → PM n (o2 X n w k)
  | 0, _ => h
  | k + 1, hk => by
    have ih := o2_PM (X := X) h k (by omega)
    unfold o2
    split
    · have ha := oa_in ih (show k < n by omega)
      exact PM_mov ih ha.2.1 (ob_lt (by omega)).2 ha.2.2
    · exact ih
theorem od_PM (X : ax_Mem) (c : Nat) (mb : Int) : PM (X 2 7).toNat (od X c mb) := o2_PM (o1_PM X c mb _) _ (Nat.le_refl _)
