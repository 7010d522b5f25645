section AXK
variable {sh : List ax_Sh} {y : MethodName} {cc : ByteArray} {mL : Nat} {ret : Option FieldType} {dp : Nat} {P : Int → ax_Mem → Prop} {pc : Nat} {ls : List (Nat × ax_V)} {st : List ax_V} {M : ax_Mem}
theorem ax_iadd {a b : Int} (hd : decode cc pc = .ok (.iadd, 1)) (hr : ax_r (a + b)) (k : ax_J sh y cc mL ret dp P (pc + 1) ls (.inl (a + b) :: st) M) : ax_J sh y cc mL ret dp P pc ls (.inl b :: .inl a :: st) M :=
  ax_step (fun _ _ h => ax_cc (v := .inl (a + b)) hr (ax_ct (ax_ct h))) (fun X _ _ _ _ _ w => lv_iadd X.1 X.2.1 hd (by rw [← Int32.ofInt_add]; exact w)) k
theorem ax_isub {a b : Int} (hd : decode cc pc = .ok (.isub, 1)) (hr : ax_r (a - b)) (k : ax_J sh y cc mL ret dp P (pc + 1) ls (.inl (a - b) :: st) M) : ax_J sh y cc mL ret dp P pc ls (.inl b :: .inl a :: st) M :=
  ax_step (fun _ _ h => ax_cc (v := .inl (a - b)) hr (ax_ct (ax_ct h))) (fun X _ _ _ _ _ w => lv_isub X.1 X.2.1 hd (by rw [← Int32.ofInt_sub]; exact w)) k
theorem ax_imul {a b : Int} (hd : decode cc pc = .ok (.imul, 1)) (hr : ax_r (a * b)) (k : ax_J sh y cc mL ret dp P (pc + 1) ls (.inl (a * b) :: st) M) : ax_J sh y cc mL ret dp P pc ls (.inl b :: .inl a :: st) M :=
  ax_step (fun _ _ h => ax_cc (v := .inl (a * b)) hr (ax_ct (ax_ct h))) (fun X _ _ _ _ _ w => lv_imul X.1 X.2.1 hd (by rw [← Int32.ofInt_mul]; exact w)) k
theorem ax_ineg {a : Int} (hd : decode cc pc = .ok (.ineg, 1)) (hr : ax_r (-a)) (k : ax_J sh y cc mL ret dp P (pc + 1) ls (.inl (-a) :: st) M) : ax_J sh y cc mL ret dp P pc ls (.inl a :: st) M :=
  ax_step (fun _ _ h => ax_cc (v := .inl (-a)) hr (ax_ct h)) (fun X _ _ _ _ _ w => lv_ineg X.1 X.2.1 hd (by first | (rw [← Int32.ofInt_neg]; exact w) | (have e : (0 : Int32) - Int32.ofInt a = Int32.ofInt (-a) := by (rw [Int32.ofInt_neg]; simp); rw [e]; exact w))) k
theorem ax_divE {a b : Int} (ha : ax_r a) (hb : ax_r b) (h0 : 0 ≤ a) (h1 : 0 < b) : Int32.ofInt a / Int32.ofInt b = Int32.ofInt (a / b) ∧ Int32.ofInt a - Int32.ofInt a / Int32.ofInt b * Int32.ofInt b = Int32.ofInt (a % b) ∧ ¬ Int32.ofInt b = 0 := by
  have hb0 : ¬ Int32.ofInt b = 0 := fun h => by
    have h2 := ax_i32 hb
    rw [h] at h2
    have h3 : (0 : Int32).toInt = 0 := rfl
    omega
  obtain ⟨n, rfl⟩ := Int.eq_ofNat_of_zero_le h0
  obtain ⟨d, rfl⟩ := Int.eq_ofNat_of_zero_le (Int.le_of_lt h1)
  obtain ⟨ha1, ha2⟩ := ha
  obtain ⟨hb1, hb2⟩ := hb
  have e1 : nI n / nI d = nI (n / d) := pk_div (by omega) (by omega) (by omega)
  have e2 : nI n - nI n / nI d * nI d = nI (n % d) := pk_rem (by omega) (by omega) (by omega)
  exact ⟨e1, e2, hb0⟩
theorem ax_idiv {a b : Int} (hd : decode cc pc = .ok (.idiv, 1)) (h0 : 0 ≤ a) (h1 : 0 < b) (k : ax_J sh y cc mL ret dp P (pc + 1) ls (.inl (a / b) :: st) M) : ax_J sh y cc mL ret dp P pc ls (.inl b :: .inl a :: st) M := by
  intro p l e s m args below meth c D ca ad X hn hs hq H locs lsA hP hS hl
  have hb := ax_cr hs
  have ha := ax_cr (ax_ct hs)
  obtain ⟨e1, e2, e3⟩ := ax_divE ha hb h0 h1
  refine lv_idiv X.1 X.2.1 hd e3 ?_
  rw [e1]
  have hr : ax_r (a / b) := ⟨by have := Int.ediv_nonneg h0 (Int.le_of_lt h1); omega, by have := Int.ediv_le_self b h0; have := ha.2; omega⟩
  exact k p l e s m args below meth c D ca ad X hn (ax_cc (v := .inl (a / b)) hr (ax_ct (ax_ct hs))) hq H locs lsA hP hS hl
theorem ax_irem {a b : Int} (hd : decode cc pc = .ok (.irem, 1)) (h0 : 0 ≤ a) (h1 : 0 < b) (k : ax_J sh y cc mL ret dp P (pc + 1) ls (.inl (a % b) :: st) M) : ax_J sh y cc mL ret dp P pc ls (.inl b :: .inl a :: st) M := by
  intro p l e s m args below meth c D ca ad X hn hs hq H locs lsA hP hS hl
  have hb := ax_cr hs
  have ha := ax_cr (ax_ct hs)
  obtain ⟨e1, e2, e3⟩ := ax_divE ha hb h0 h1
  refine lv_irem X.1 X.2.1 hd e3 ?_
  rw [e2]
  have hr : ax_r (a % b) := ⟨by have := Int.emod_nonneg a (show b ≠ 0 by omega); omega, by have := Int.emod_lt_of_pos a h1; have := hb.2; omega⟩
  exact k p l e s m args below meth c D ca ad X hn (ax_cc (v := .inl (a % b)) hr (ax_ct (ax_ct hs))) hq H locs lsA hP hS hl
theorem ax_ladd {a b : Int} (hd : decode cc pc = .ok (.ladd, 1)) (k : ax_J sh y cc mL ret dp P (pc + 1) ls (.inr (.inl (a + b)) :: st) M) : ax_J sh y cc mL ret dp P pc ls (.inr (.inl b) :: .inr (.inl a) :: st) M :=
  ax_step (fun _ _ h => ax_cc (v := .inr (.inl (a + b))) trivial (ax_ct (ax_ct h))) (fun X _ _ _ _ _ w => lv_ladd X.1 X.2.1 hd (by rw [← Int64.ofInt_add]; exact w)) k
theorem ax_lmul {a b : Int} (hd : decode cc pc = .ok (.lmul, 1)) (k : ax_J sh y cc mL ret dp P (pc + 1) ls (.inr (.inl (a * b)) :: st) M) : ax_J sh y cc mL ret dp P pc ls (.inr (.inl b) :: .inr (.inl a) :: st) M :=
  ax_step (fun _ _ h => ax_cc (v := .inr (.inl (a * b))) trivial (ax_ct (ax_ct h))) (fun X _ _ _ _ _ w => lv_lmul X.1 X.2.1 hd (by rw [← Int64.ofInt_mul]; exact w)) k
theorem ax_i2l {a : Int} (hd : decode cc pc = .ok (.i2l, 1)) (k : ax_J sh y cc mL ret dp P (pc + 1) ls (.inr (.inl a) :: st) M) : ax_J sh y cc mL ret dp P pc ls (.inl a :: st) M := by
  intro p l e s m args below meth c D ca ad X hn hs hq H locs lsA hP hS hl
  have ha := ax_cr hs
  have e1 : (Int32.ofInt a).toInt64 = Int64.ofInt a := Int32.toInt64_ofInt ha.1 (by have := ha.2; show a ≤ 2147483647; omega)
  exact lv_i2l X.1 X.2.1 hd e1 (k p l e s m args below meth c D ca ad X hn (ax_cc (v := .inr (.inl a)) trivial (ax_ct hs)) hq H locs lsA hP hS hl)
theorem ax_l2i {a : Int} (hd : decode cc pc = .ok (.l2i, 1)) (hr : ax_r a) (k : ax_J sh y cc mL ret dp P (pc + 1) ls (.inl a :: st) M) : ax_J sh y cc mL ret dp P pc ls (.inr (.inl a) :: st) M :=
  ax_step (fun _ _ h => ax_cc (v := .inl a) hr (ax_ct h)) (fun X _ _ _ _ _ w => lv_l2i X.1 X.2.1 hd Int64.toInt32_ofInt w) k
theorem ax_icmp_eq {a b : Int} {off : Int} {tgt : Nat} (hd : decode cc pc = .ok (.if_icmp .eq off, 3)) (ht : (pc : Int) + off = (tgt : Int)) (kt : a = b → ax_J sh y cc mL ret dp P tgt ls st M) (kf : ¬ a = b → ax_J sh y cc mL ret dp P (pc + 3) ls st M) : ax_J sh y cc mL ret dp P pc ls (.inl b :: .inl a :: st) M := by
  intro p l e s m args below meth c D ca ad X hn hs hq H locs lsA hP hS hl
  have hb := ax_cr hs
  have ha := ax_cr (ax_ct hs)
  exact lv_icmp_eq X.1 X.2.1 hd ht (fun h => kt ((ax_eq ha hb).mp h) p l e s m args below meth c D ca ad X hn (ax_ct (ax_ct hs)) hq H locs lsA hP hS hl) (fun h => kf ((not_congr (ax_eq ha hb)).mp h) p l e s m args below meth c D ca ad X hn (ax_ct (ax_ct hs)) hq H locs lsA hP hS hl)
theorem ax_icmp_ne {a b : Int} {off : Int} {tgt : Nat} (hd : decode cc pc = .ok (.if_icmp .ne off, 3)) (ht : (pc : Int) + off = (tgt : Int)) (kt : ¬ a = b → ax_J sh y cc mL ret dp P tgt ls st M) (kf : a = b → ax_J sh y cc mL ret dp P (pc + 3) ls st M) : ax_J sh y cc mL ret dp P pc ls (.inl b :: .inl a :: st) M := by
  intro p l e s m args below meth c D ca ad X hn hs hq H locs lsA hP hS hl
  have hb := ax_cr hs
  have ha := ax_cr (ax_ct hs)
  exact lv_icmp_ne X.1 X.2.1 hd ht (fun h => kt ((not_congr (ax_eq ha hb)).mp h) p l e s m args below meth c D ca ad X hn (ax_ct (ax_ct hs)) hq H locs lsA hP hS hl) (fun h => kf ((ax_eq ha hb).mp h) p l e s m args below meth c D ca ad X hn (ax_ct (ax_ct hs)) hq H locs lsA hP hS hl)
theorem ax_icmp_lt {a b : Int} {off : Int} {tgt : Nat} (hd : decode cc pc = .ok (.if_icmp .lt off, 3)) (ht : (pc : Int) + off = (tgt : Int)) (kt : a < b → ax_J sh y cc mL ret dp P tgt ls st M) (kf : ¬ a < b → ax_J sh y cc mL ret dp P (pc + 3) ls st M) : ax_J sh y cc mL ret dp P pc ls (.inl b :: .inl a :: st) M := by
  intro p l e s m args below meth c D ca ad X hn hs hq H locs lsA hP hS hl
  have hb := ax_cr hs
  have ha := ax_cr (ax_ct hs)
  exact lv_icmp_lt X.1 X.2.1 hd ht (fun h => kt ((ax_lt ha hb).mp h) p l e s m args below meth c D ca ad X hn (ax_ct (ax_ct hs)) hq H locs lsA hP hS hl) (fun h => kf ((not_congr (ax_lt ha hb)).mp h) p l e s m args below meth c D ca ad X hn (ax_ct (ax_ct hs)) hq H locs lsA hP hS hl)
theorem ax_icmp_ge {a b : Int} {off : Int} {tgt : Nat} (hd : decode cc pc = .ok (.if_icmp .ge off, 3)) (ht : (pc : Int) + off = (tgt : Int)) (kt : b ≤ a → ax_J sh y cc mL ret dp P tgt ls st M) (kf : ¬ b ≤ a → ax_J sh y cc mL ret dp P (pc + 3) ls st M) : ax_J sh y cc mL ret dp P pc ls (.inl b :: .inl a :: st) M := by
  intro p l e s m args below meth c D ca ad X hn hs hq H locs lsA hP hS hl
  have hb := ax_cr hs
  have ha := ax_cr (ax_ct hs)
  exact lv_icmp_ge X.1 X.2.1 hd ht (fun h => kt ((ax_le hb ha).mp h) p l e s m args below meth c D ca ad X hn (ax_ct (ax_ct hs)) hq H locs lsA hP hS hl) (fun h => kf ((not_congr (ax_le hb ha)).mp h) p l e s m args below meth c D ca ad X hn (ax_ct (ax_ct hs)) hq H locs lsA hP hS hl)
theorem ax_icmp_gt {a b : Int} {off : Int} {tgt : Nat} (hd : decode cc pc = .ok (.if_icmp .gt off, 3)) (ht : (pc : Int) + off = (tgt : Int)) (kt : b < a → ax_J sh y cc mL ret dp P tgt ls st M) (kf : ¬ b < a → ax_J sh y cc mL ret dp P (pc + 3) ls st M) : ax_J sh y cc mL ret dp P pc ls (.inl b :: .inl a :: st) M := by
  intro p l e s m args below meth c D ca ad X hn hs hq H locs lsA hP hS hl
  have hb := ax_cr hs
  have ha := ax_cr (ax_ct hs)
  exact lv_icmp_gt X.1 X.2.1 hd ht (fun h => kt ((ax_lt hb ha).mp h) p l e s m args below meth c D ca ad X hn (ax_ct (ax_ct hs)) hq H locs lsA hP hS hl) (fun h => kf ((not_congr (ax_lt hb ha)).mp h) p l e s m args below meth c D ca ad X hn (ax_ct (ax_ct hs)) hq H locs lsA hP hS hl)
theorem ax_icmp_le {a b : Int} {off : Int} {tgt : Nat} (hd : decode cc pc = .ok (.if_icmp .le off, 3)) (ht : (pc : Int) + off = (tgt : Int)) (kt : a ≤ b → ax_J sh y cc mL ret dp P tgt ls st M) (kf : ¬ a ≤ b → ax_J sh y cc mL ret dp P (pc + 3) ls st M) : ax_J sh y cc mL ret dp P pc ls (.inl b :: .inl a :: st) M := by
  intro p l e s m args below meth c D ca ad X hn hs hq H locs lsA hP hS hl
  have hb := ax_cr hs
  have ha := ax_cr (ax_ct hs)
  exact lv_icmp_le X.1 X.2.1 hd ht (fun h => kt ((ax_le ha hb).mp h) p l e s m args below meth c D ca ad X hn (ax_ct (ax_ct hs)) hq H locs lsA hP hS hl) (fun h => kf ((not_congr (ax_le ha hb)).mp h) p l e s m args below meth c D ca ad X hn (ax_ct (ax_ct hs)) hq H locs lsA hP hS hl)
theorem ax_if_eq {a : Int} {off : Int} {tgt : Nat} (hd : decode cc pc = .ok (.ifCond .eq off, 3)) (ht : (pc : Int) + off = (tgt : Int)) (kt : a = 0 → ax_J sh y cc mL ret dp P tgt ls st M) (kf : ¬ a = 0 → ax_J sh y cc mL ret dp P (pc + 3) ls st M) : ax_J sh y cc mL ret dp P pc ls (.inl a :: st) M := by
  intro p l e s m args below meth c D ca ad X hn hs hq H locs lsA hP hS hl
  have ha := ax_cr hs
  have hb : ax_r 0 := ⟨by omega, by omega⟩
  exact lv_if_eq X.1 X.2.1 hd ht (fun h => kt ((ax_eq ha hb).mp h) p l e s m args below meth c D ca ad X hn (ax_ct hs) hq H locs lsA hP hS hl) (fun h => kf ((not_congr (ax_eq ha hb)).mp h) p l e s m args below meth c D ca ad X hn (ax_ct hs) hq H locs lsA hP hS hl)
theorem ax_if_ne {a : Int} {off : Int} {tgt : Nat} (hd : decode cc pc = .ok (.ifCond .ne off, 3)) (ht : (pc : Int) + off = (tgt : Int)) (kt : ¬ a = 0 → ax_J sh y cc mL ret dp P tgt ls st M) (kf : a = 0 → ax_J sh y cc mL ret dp P (pc + 3) ls st M) : ax_J sh y cc mL ret dp P pc ls (.inl a :: st) M := by
  intro p l e s m args below meth c D ca ad X hn hs hq H locs lsA hP hS hl
  have ha := ax_cr hs
  have hb : ax_r 0 := ⟨by omega, by omega⟩
  exact lv_if_ne X.1 X.2.1 hd ht (fun h => kt ((not_congr (ax_eq ha hb)).mp h) p l e s m args below meth c D ca ad X hn (ax_ct hs) hq H locs lsA hP hS hl) (fun h => kf ((ax_eq ha hb).mp h) p l e s m args below meth c D ca ad X hn (ax_ct hs) hq H locs lsA hP hS hl)
theorem ax_if_lt {a : Int} {off : Int} {tgt : Nat} (hd : decode cc pc = .ok (.ifCond .lt off, 3)) (ht : (pc : Int) + off = (tgt : Int)) (kt : a < 0 → ax_J sh y cc mL ret dp P tgt ls st M) (kf : ¬ a < 0 → ax_J sh y cc mL ret dp P (pc + 3) ls st M) : ax_J sh y cc mL ret dp P pc ls (.inl a :: st) M := by
  intro p l e s m args below meth c D ca ad X hn hs hq H locs lsA hP hS hl
  have ha := ax_cr hs
  have hb : ax_r 0 := ⟨by omega, by omega⟩
  exact lv_if_lt X.1 X.2.1 hd ht (fun h => kt ((ax_lt ha hb).mp h) p l e s m args below meth c D ca ad X hn (ax_ct hs) hq H locs lsA hP hS hl) (fun h => kf ((not_congr (ax_lt ha hb)).mp h) p l e s m args below meth c D ca ad X hn (ax_ct hs) hq H locs lsA hP hS hl)
theorem ax_if_ge {a : Int} {off : Int} {tgt : Nat} (hd : decode cc pc = .ok (.ifCond .ge off, 3)) (ht : (pc : Int) + off = (tgt : Int)) (kt : 0 ≤ a → ax_J sh y cc mL ret dp P tgt ls st M) (kf : ¬ 0 ≤ a → ax_J sh y cc mL ret dp P (pc + 3) ls st M) : ax_J sh y cc mL ret dp P pc ls (.inl a :: st) M := by
  intro p l e s m args below meth c D ca ad X hn hs hq H locs lsA hP hS hl
  have ha := ax_cr hs
  have hb : ax_r 0 := ⟨by omega, by omega⟩
  exact lv_if_ge X.1 X.2.1 hd ht (fun h => kt ((ax_le hb ha).mp h) p l e s m args below meth c D ca ad X hn (ax_ct hs) hq H locs lsA hP hS hl) (fun h => kf ((not_congr (ax_le hb ha)).mp h) p l e s m args below meth c D ca ad X hn (ax_ct hs) hq H locs lsA hP hS hl)
theorem ax_if_gt {a : Int} {off : Int} {tgt : Nat} (hd : decode cc pc = .ok (.ifCond .gt off, 3)) (ht : (pc : Int) + off = (tgt : Int)) (kt : 0 < a → ax_J sh y cc mL ret dp P tgt ls st M) (kf : ¬ 0 < a → ax_J sh y cc mL ret dp P (pc + 3) ls st M) : ax_J sh y cc mL ret dp P pc ls (.inl a :: st) M := by
  intro p l e s m args below meth c D ca ad X hn hs hq H locs lsA hP hS hl
  have ha := ax_cr hs
  have hb : ax_r 0 := ⟨by omega, by omega⟩
  exact lv_if_gt X.1 X.2.1 hd ht (fun h => kt ((ax_lt hb ha).mp h) p l e s m args below meth c D ca ad X hn (ax_ct hs) hq H locs lsA hP hS hl) (fun h => kf ((not_congr (ax_lt hb ha)).mp h) p l e s m args below meth c D ca ad X hn (ax_ct hs) hq H locs lsA hP hS hl)
theorem ax_if_le {a : Int} {off : Int} {tgt : Nat} (hd : decode cc pc = .ok (.ifCond .le off, 3)) (ht : (pc : Int) + off = (tgt : Int)) (kt : a ≤ 0 → ax_J sh y cc mL ret dp P tgt ls st M) (kf : ¬ a ≤ 0 → ax_J sh y cc mL ret dp P (pc + 3) ls st M) : ax_J sh y cc mL ret dp P pc ls (.inl a :: st) M := by
  intro p l e s m args below meth c D ca ad X hn hs hq H locs lsA hP hS hl
  have ha := ax_cr hs
  have hb : ax_r 0 := ⟨by omega, by omega⟩
  exact lv_if_le X.1 X.2.1 hd ht (fun h => kt ((ax_le ha hb).mp h) p l e s m args below meth c D ca ad X hn (ax_ct hs) hq H locs lsA hP hS hl) (fun h => kf ((not_congr (ax_le ha hb)).mp h) p l e s m args below meth c D ca ad X hn (ax_ct hs) hq H locs lsA hP hS hl)
theorem ax_goto {off : Int} {tgt : Nat} (hd : decode cc pc = .ok (.goto off, 3)) (ht : (pc : Int) + off = (tgt : Int)) (k : ax_J sh y cc mL ret dp P tgt ls st M) : ax_J sh y cc mL ret dp P pc ls st M :=
  ax_step (fun _ _ h => h) (fun X _ _ _ _ _ w => lv_goto X.1 X.2.1 hd ht w) k
theorem ax_dup {v : ax_V} (hd : decode cc pc = .ok (.dup, 1)) (hv : ax_lg v = false) (k : ax_J sh y cc mL ret dp P (pc + 1) ls (v :: v :: st) M) : ax_J sh y cc mL ret dp P pc ls (v :: st) M :=
  ax_step (fun _ _ h => ax_cc (h _ List.mem_cons_self) h) (fun X _ _ _ _ _ w => lv_dup X.1 X.2.1 hd (by rcases v with i | i | q <;> first | rfl | cases hv) w) k
theorem ax_dup2 {v u : ax_V} (hd : decode cc pc = .ok (.dup2, 1)) (hv : ax_lg v = false) (hu : ax_lg u = false) (k : ax_J sh y cc mL ret dp P (pc + 1) ls (v :: u :: v :: u :: st) M) : ax_J sh y cc mL ret dp P pc ls (v :: u :: st) M :=
  ax_step (fun _ _ h => ax_cc (h _ List.mem_cons_self) (ax_cc (h _ (List.mem_cons_of_mem _ List.mem_cons_self)) h)) (fun X _ _ _ _ _ w => lv_dup2_11 X.1 X.2.1 hd (by rcases v with i | i | q <;> first | rfl | cases hv) (by rcases u with i | i | q <;> first | rfl | cases hu) w) k
end AXK
