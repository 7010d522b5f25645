theorem wb_tb (n : Nat) : (lN n).toBitVec = BitVec.ofNat 64 n := rfl
theorem wb_inj {a b : Int64} (h : a.toBitVec = b.toBitVec) : a = b := Int64.toBitVec_inj.mp h
theorem wb_tn {n : Nat} (h : n < 2 ^ 64) : (lN n).toBitVec.toNat = n := by rw [wb_tb, BitVec.toNat_ofNat, Nat.mod_eq_of_lt h]
theorem wb_of (x : Int64) : ∃ n, n < 2 ^ 64 ∧ x = lN n := ⟨x.toBitVec.toNat, x.toBitVec.isLt, wb_inj (by rw [wb_tb]; simp)⟩
theorem wb_of32 (x : Int32) : ∃ n, n < 2 ^ 32 ∧ x = nI n := ⟨x.toBitVec.toNat, x.toBitVec.isLt, Int32.toBitVec_inj.mp (by show _ = BitVec.ofNat 32 _; simp)⟩
theorem wb_c : ∀ k, k < 64 → ((nI k).toInt64 &&& 63) = lN k := by decide +kernel
theorem wb_cu : ∀ k, k < 64 → ((nI k).toInt64.toUInt64 &&& Int64.toUInt64 63) = UInt64.ofNat k := by decide +kernel
theorem wb_sm : ∀ k, k < 64 → (BitVec.ofNat 64 k).smod 64 = BitVec.ofNat 64 k := by decide +kernel
theorem wb_pw {a b : Nat} (h : a ≤ b) : 2 ^ b = 2 ^ a * 2 ^ (b - a) := by rw [← Nat.pow_add]; congr 1; omega
theorem wb_lt2 {a b : Nat} (h : a < b) : 2 ^ a < 2 ^ b := Nat.pow_lt_pow_right (by decide) h
theorem wb_mod (n : Nat) : lN n = lN (n % 2 ^ 64) := wb_inj (by rw [wb_tb, wb_tb]; apply BitVec.eq_of_toNat_eq; rw [BitVec.toNat_ofNat, BitVec.toNat_ofNat, Nat.mod_mod])
theorem wb_shr {n k : Nat} (hn : n < 2 ^ 64) (hk : k < 64) : ((lN n).toUInt64 >>> ((nI k).toInt64.toUInt64 &&& Int64.toUInt64 63)).toInt64 = lN (n / 2 ^ k) := by
  rw [wb_cu k hk]
  apply wb_inj
  apply BitVec.eq_of_toNat_eq
  show ((lN n).toUInt64 >>> UInt64.ofNat k).toNat = (BitVec.ofNat 64 _).toNat
  have h1 : (UInt64.ofNat k).toNat = k := by
    show (BitVec.ofNat 64 k).toNat = k
    rw [BitVec.toNat_ofNat, Nat.mod_eq_of_lt (by omega)]
  have h2 : (lN n).toUInt64.toNat = n := wb_tn hn
  rw [UInt64.toNat_shiftRight, h1, h2, Nat.mod_eq_of_lt hk, Nat.shiftRight_eq_div_pow, BitVec.toNat_ofNat, Nat.mod_eq_of_lt (Nat.lt_of_le_of_lt (Nat.div_le_self _ _) hn)]
theorem wb_and {a b : Nat} (ha : a < 2 ^ 64) (hb : b < 2 ^ 64) : lN a &&& lN b = lN (a &&& b) := by
  apply wb_inj
  rw [Int64.toBitVec_and, wb_tb, wb_tb, wb_tb]
  apply BitVec.eq_of_toNat_eq
  rw [BitVec.toNat_and, BitVec.toNat_ofNat, BitVec.toNat_ofNat, BitVec.toNat_ofNat, Nat.mod_eq_of_lt ha, Nat.mod_eq_of_lt hb, Nat.mod_eq_of_lt (Nat.and_lt_two_pow _ hb)]
theorem wb_mask {n k : Nat} (hn : n < 2 ^ 64) (hk : k < 64) : lN n &&& lN (2 ^ k - 1) = lN (n % 2 ^ k) := by
  rw [wb_and hn (by have := wb_lt2 hk; omega), Nat.and_two_pow_sub_one_eq_mod]
/-! Math, copies, longs, bits, switches (the wb_ rows above are the kit's, given for pasting) -/
section AXR
variable {sh : List ax_Sh} {y : MethodName} {cc : ByteArray} {mL : Nat} {ret : Option FieldType} {dp : Nat} {P : Int → ax_Mem → Prop} {pc : Nat} {ls : List (Nat × ax_V)} {st : List ax_V} {M : ax_Mem}
theorem ax_min_if {a b : Int} (ha : ax_r a) (hb : ax_r b) : (if Int32.ofInt b < Int32.ofInt a then Int32.ofInt b else Int32.ofInt a) = Int32.ofInt (min a b) := by
  by_cases h : b < a
  · rw [if_pos ((ax_lt hb ha).mpr h), Int.min_eq_right (by omega)]
  · rw [if_neg (fun q => h ((ax_lt hb ha).mp q)), Int.min_eq_left (by omega)]
theorem ax_max_if {a b : Int} (ha : ax_r a) (hb : ax_r b) : (if Int32.ofInt a < Int32.ofInt b then Int32.ofInt b else Int32.ofInt a) = Int32.ofInt (max a b) := by
  by_cases h : a < b
  · rw [if_pos ((ax_lt ha hb).mpr h), Int.max_eq_right (by omega)]
  · rw [if_neg (fun q => h ((ax_lt ha hb).mp q)), Int.max_eq_left (by omega)]
def ax_MW (own : String) (idx : Nat) (y : MethodName) (cc : ByteArray) (n : Nat) : Prop := Cond.methodLink own idx y ∈ ax_Ts ∧ Cond.static y ∈ ax_Ts ∧ Cond.initialized "java/lang/Math" ∈ ax_Ts ∧ Cond.code y cc n (some .int) ∈ ax_Ts
theorem ax_mmin {a b : Int} {idx : Nat} (hd : decode cc pc = .ok (.invokestatic idx, 3)) (hl : ax_MW y.cls idx Lib.Math.min.name Lib.Math.min.code 2) (hz : ax_sz st ≤ 8) (hdp : 1 ≤ dp) (k : ax_J sh y cc mL ret dp P (pc + 3) ls (.inl (min a b) :: st) M) : ax_J sh y cc mL ret dp P pc ls (.inl b :: .inl a :: st) M := by
  intro p l e s m args below meth c D ca ad X hn hs hq H locs lsA hP hS hls
  have hb := ax_cr hs
  have ha := ax_cr (ax_ct hs)
  have hts := X.2.2.2.2.2.2.1
  refine va_mmin X.1 X.2.1 (by rw [hls.1]; exact X.2.2.2.1) X.2.2.2.2.2.1 (hts _ hl.1) (hts _ hl.2.1) (hts _ hl.2.2.1) (hts _ hl.2.2.2) hdp (by rw [ax_sz_eq]; show _ ≤ 36 * dp; omega) (Nat.le_refl _) (Nat.le_refl _) hd ?_
  rw [ax_min_if ha hb]
  exact k p l e s m args below meth c D ca ad X hn (ax_cc (v := .inl (min a b)) (show ax_r _ from ⟨by have := ha.1; have := hb.1; omega, by have := ha.2; omega⟩) (ax_ct (ax_ct hs))) hq H locs lsA hP hS hls
theorem ax_mmax {a b : Int} {idx : Nat} (hd : decode cc pc = .ok (.invokestatic idx, 3)) (hl : ax_MW y.cls idx Lib.Math.max.name Lib.Math.max.code 2) (hz : ax_sz st ≤ 8) (hdp : 1 ≤ dp) (k : ax_J sh y cc mL ret dp P (pc + 3) ls (.inl (max a b) :: st) M) : ax_J sh y cc mL ret dp P pc ls (.inl b :: .inl a :: st) M := by
  intro p l e s m args below meth c D ca ad X hn hs hq H locs lsA hP hS hls
  have hb := ax_cr hs
  have ha := ax_cr (ax_ct hs)
  have hts := X.2.2.2.2.2.2.1
  refine va_mmax X.1 X.2.1 (by rw [hls.1]; exact X.2.2.2.1) X.2.2.2.2.2.1 (hts _ hl.1) (hts _ hl.2.1) (hts _ hl.2.2.1) (hts _ hl.2.2.2) hdp (by rw [ax_sz_eq]; show _ ≤ 36 * dp; omega) (Nat.le_refl _) (Nat.le_refl _) hd ?_
  rw [ax_max_if ha hb]
  exact k p l e s m args below meth c D ca ad X hn (ax_cc (v := .inl (max a b)) (show ax_r _ from ⟨by have := ha.1; omega, by have := ha.2; have := hb.2; omega⟩) (ax_ct (ax_ct hs))) hq H locs lsA hP hS hls
def ax_abs (a : Int) : Int := if 0 ≤ a then a else -a
theorem ax_mabs {a : Int} {idx : Nat} (hd : decode cc pc = .ok (.invokestatic idx, 3)) (hl : ax_MW y.cls idx Lib.Math.abs.name Lib.Math.abs.code 1) (hz : ax_sz st ≤ 8) (hdp : 1 ≤ dp) (h0 : -2147483648 < a) (k : ax_J sh y cc mL ret dp P (pc + 3) ls (.inl (ax_abs a) :: st) M) : ax_J sh y cc mL ret dp P pc ls (.inl a :: st) M := by
  intro p l e s m args below meth c D ca ad X hn hs hq H locs lsA hP hS hls
  have ha := ax_cr hs
  have hts := X.2.2.2.2.2.2.1
  refine va_mabs X.1 X.2.1 (by rw [hls.1]; exact X.2.2.2.1) X.2.2.2.2.2.1 (hts _ hl.1) (hts _ hl.2.1) (hts _ hl.2.2.1) (hts _ hl.2.2.2) hdp (by rw [ax_sz_eq]; show _ ≤ 36 * dp; omega) (Nat.le_refl _) (Nat.le_refl _) hd ?_
  have e1 : (if 0 ≤ Int32.ofInt a then Int32.ofInt a else 0 - Int32.ofInt a) = Int32.ofInt (ax_abs a) := by
    unfold ax_abs
    have h00 : ax_r 0 := ⟨by omega, by omega⟩
    have hz : (0 : Int32) = Int32.ofInt 0 := rfl
    by_cases h : 0 ≤ a
    · rw [if_pos h, if_pos (by rw [hz]; exact (ax_le h00 ha).mpr h)]
    · rw [if_neg h, if_neg (by rw [hz]; exact fun q => h ((ax_le h00 ha).mp q)), hz, ← Int32.ofInt_sub]
      congr 1
      omega
  rw [e1]
  exact k p l e s m args below meth c D ca ad X hn (ax_cc (v := .inl (ax_abs a)) (show ax_r _ from by unfold ax_abs; have := ha.2; split <;> exact ⟨by omega, by omega⟩) (ax_ct hs)) hq H locs lsA hP hS hls
/-- System.arraycopy of whole int arrays from place 0 to place 0 -/
def ax_cp (M : ax_Mem) (k q n : Nat) : ax_Mem := ax_s M q (fun j => if j < n then M k j else M q j)
def ax_AW (own : String) (idx : Nat) : Prop := Cond.methodLink own idx arraycopyName ∈ ax_Ts ∧ Cond.native arraycopyName ∈ ax_Ts ∧ Cond.static arraycopyName ∈ ax_Ts ∧ Cond.initialized "java/lang/System" ∈ ax_Ts
theorem ax_copy {k q n0 n1 idx : Nat} {n : Int} (hd : decode cc pc = .ok (.invokestatic idx, 3)) (hl : ax_AW y.cls idx) (hk : sh[k]? = some (.inl (0, n0))) (hq0 : sh[q]? = some (.inl (0, n1))) (h0 : 0 ≤ n) (h1 : n ≤ n0) (h2 : n ≤ n1) (hz : ax_sz st ≤ 8) (hdp : 1 ≤ dp) (kk : ax_J sh y cc mL ret dp P (pc + 3) ls st (ax_cp M k q n.toNat)) : ax_J sh y cc mL ret dp P pc ls (.inl n :: .inl 0 :: .inr (.inr q) :: .inl 0 :: .inr (.inr k) :: st) M := by
  intro p l e s m args below meth c D ca ad X hn hs hq H locs lsA hP hS hls
  have hn1 := ax_cr hs
  have hts := X.2.2.2.2.2.2.1
  have h00 : ax_r 0 := ⟨by omega, by omega⟩
  have c0 : (Int32.ofInt 0).toNatClampNeg = 0 := rfl
  have cn := ax_cl0 hn1
  have hz0 : (0 : Int32) = Int32.ofInt 0 := rfl
  have hwords : nativeFrameWords "java/lang/System" "arraycopy" 5 + 11 ≤ 28 := by decide +kernel
  refine va_copyi X.1 X.2.1 (by rw [hls.1]; exact X.2.2.2.1) X.2.2.2.2.2.1 (hts _ hl.1) (hts _ hl.2.1) (hts _ hl.2.2.1) (hts _ hl.2.2.2) X.2.2.2.2.2.2.2.1 hP (ax_D M X.2.2.2.2.2.2.2.2.1) hS k q 0 0 (ax_w_get hk) (ax_w_get hq0) (ty := .int) rfl rfl rfl (by rw [hz0]; exact fun h => absurd ((ax_lt h00 h00).mp h) (by omega)) (by rw [hz0]; exact fun h => absurd ((ax_lt h00 h00).mp h) (by omega)) (by rw [hz0]; exact fun h => absurd ((ax_lt hn1 h00).mp h) (by omega)) (by rw [c0, cn]; omega) (by rw [c0, cn]; omega) (fun i _ => rfl) hdp (by rw [ax_sz_eq]; show _ ≤ 36 * dp; omega) hd (fun H1 locs1 hP1 _ hS1 => ?_)
  rw [c0, cn] at hP1
  have e2 : va_cpy (fun j => Int32.ofInt (M k j)) (fun j => Int32.ofInt (M q j)) 0 0 n.toNat = fun j => Int32.ofInt (ax_cp M k q n.toNat q j) := by
    funext j
    simp only [va_cpy, ax_cp, ax_s, if_true]
    by_cases hj : j < n.toNat <;> simp [hj]
  rw [e2] at hP1
  have e1 : (ax_w sh ca ad M).set q (ad q, ax_e ca ad (ax_cp M k q n.toNat q) (.inl (0, n1))) = ax_w sh ca ad (ax_cp M k q n.toNat) := ax_w_set hq0 (fun a ha => by simp [ax_cp, ax_s, ha])
  have hP2 : va_P D ax_cl (ax_w sh ca ad (ax_cp M k q n.toNat)) H1 := e1 ▸ hP1
  refine kk p l e s m args below meth c D ca ad X ?_ (ax_ct (ax_ct (ax_ct (ax_ct (ax_ct hs))))) hq H1 locs1 lsA hP2 hS1 hls
  intro a b hab
  unfold ax_cp ax_s
  by_cases h : a = q
  · rw [if_pos h]
    show ax_r (if b < n.toNat then M k b else M q b)
    split
    · exact ax_na b hn hk
    · exact ax_na b hn hq0
  · rw [if_neg h]; exact hn a b hab
-- longs
theorem ax_lof (a : Int) : Int64.ofInt a = lN (a % 2 ^ 64).toNat := by
  apply wb_inj
  rw [wb_tb]
  apply BitVec.eq_of_toNat_eq
  rw [BitVec.toNat_ofNat]
  show (BitVec.ofInt 64 a).toNat = _
  rw [BitVec.toNat_ofInt]
  have h1 := Int.emod_nonneg a (show (2 ^ 64 : Int) ≠ 0 by decide)
  have h2 := Int.emod_lt_of_pos a (show (0 : Int) < 2 ^ 64 by decide)
  have e : ((2 ^ 64 : Nat) : Int) = (2 ^ 64 : Int) := by decide
  rw [e, Nat.mod_eq_of_lt (by omega)]
theorem ax_lm {a : Int} {k : Nat} (hk : k < 64) : Int64.ofInt a &&& Int64.ofInt (2 ^ k - 1) = Int64.ofInt (a % 2 ^ k) := by
  have h1 := Int.emod_nonneg a (show (2 ^ 64 : Int) ≠ 0 by decide)
  have h2 := Int.emod_lt_of_pos a (show (0 : Int) < 2 ^ 64 by decide)
  have hp : (0 : Int) < 2 ^ k := Int.pow_pos (by decide)
  have h3 := Int.emod_nonneg a (show (2 ^ k : Int) ≠ 0 by omega)
  have e1 : Int64.ofInt (2 ^ k - 1) = lN (2 ^ k - 1) := by
    rw [ax_lofNat (by omega)]
    congr 1
    have : ((2 ^ k : Nat) : Int) = (2 ^ k : Int) := by simp
    omega
  rw [e1, ax_lof a, wb_mask (by omega) hk, ax_lofNat h3]
  congr 1
  have e2 : ((2 ^ k : Nat) : Int) = (2 ^ k : Int) := by simp
  have e3 : (a % 2 ^ 64) % 2 ^ k = a % 2 ^ k := Int.emod_emod_of_dvd a ⟨2 ^ (64 - k), by rw [← Int.pow_add]; congr 1; omega⟩
  have e4 : (((a % 2 ^ 64).toNat % 2 ^ k : Nat) : Int) = a % 2 ^ k := by
    rw [Int.natCast_emod, Int.toNat_of_nonneg h1, e2, e3]
  omega
theorem ax_land {a b : Int} (k0 : Nat) (hd : decode cc pc = .ok (.land, 1)) (hb : b = 2 ^ k0 - 1) (hk : k0 < 64) (k : ax_J sh y cc mL ret dp P (pc + 1) ls (.inr (.inl (a % 2 ^ k0)) :: st) M) : ax_J sh y cc mL ret dp P pc ls (.inr (.inl b) :: .inr (.inl a) :: st) M := by
  subst hb
  exact ax_step (fun _ _ h => ax_cc (v := .inr (.inl (a % 2 ^ k0))) trivial (ax_ct (ax_ct h))) (fun X _ _ _ _ _ w => lv_land X.1 X.2.1 hd (by rw [ax_lm hk]; exact w)) k
theorem ax_lushr {a b : Int} (hd : decode cc pc = .ok (.lushr, 1)) (h0 : 0 ≤ b) (h1 : b < 64) (k : ax_J sh y cc mL ret dp P (pc + 1) ls (.inr (.inl ((a % 2 ^ 64) / 2 ^ b.toNat)) :: st) M) : ax_J sh y cc mL ret dp P pc ls (.inl b :: .inr (.inl a) :: st) M := by
  refine ax_step (fun _ _ h => ax_cc (v := .inr (.inl ((a % 2 ^ 64) / 2 ^ b.toNat))) trivial (ax_ct (ax_ct h))) (fun X _ _ _ _ _ w => lv_lushr X.1 X.2.1 hd ?_ w) k
  have g1 := Int.emod_nonneg a (show (2 ^ 64 : Int) ≠ 0 by decide)
  have g2 := Int.emod_lt_of_pos a (show (0 : Int) < 2 ^ 64 by decide)
  have hp : (0 : Int) < 2 ^ b.toNat := Int.pow_pos (by decide)
  rw [ax_lof a, ax_ofNat h0, wb_shr (by omega) (by omega), ax_lofNat (Int.ediv_nonneg g1 (by omega))]
  congr 1
  have e2 : ((2 ^ b.toNat : Nat) : Int) = (2 ^ b.toNat : Int) := by simp
  have e4 : (((a % 2 ^ 64).toNat / 2 ^ b.toNat : Nat) : Int) = (a % 2 ^ 64) / 2 ^ b.toNat := by
    rw [Int.natCast_ediv, Int.toNat_of_nonneg g1, e2]
  exact Int.ofNat_inj.mp (e4.trans (Int.toNat_of_nonneg (Int.ediv_nonneg g1 (by omega))).symm)
theorem ax_ldivE {a b : Int} (h0 : 0 ≤ a) (h1 : 0 < b) (ha : a < 2 ^ 63) (hb : b < 2 ^ 63) : Int64.ofInt a / Int64.ofInt b = Int64.ofInt (a / b) ∧ Int64.ofInt a - Int64.ofInt a / Int64.ofInt b * Int64.ofInt b = Int64.ofInt (a % b) ∧ ¬ Int64.ofInt b = 0 := by
  have hb0 : ¬ Int64.ofInt b = 0 := fun h => by
    have h2 : (Int64.ofInt b).toInt = b := Int64.toInt_ofInt_of_le (by omega) hb
    rw [h] at h2
    have h3 : (0 : Int64).toInt = 0 := rfl
    omega
  obtain ⟨n, rfl⟩ := Int.eq_ofNat_of_zero_le h0
  obtain ⟨d, rfl⟩ := Int.eq_ofNat_of_zero_le (Int.le_of_lt h1)
  have e1 : lN n / lN d = lN (n / d) := pk_lDiv (by omega) (by omega) (by omega)
  have e2 : lN n - lN n / lN d * lN d = lN (n % d) := pk_lRem (by omega) (by omega) (by omega)
  exact ⟨e1, e2, hb0⟩
theorem ax_ldiv {a b : Int} (hd : decode cc pc = .ok (.ldiv, 1)) (h0 : 0 ≤ a) (h1 : 0 < b) (ha : a < 2 ^ 63) (hb : b < 2 ^ 63) (k : ax_J sh y cc mL ret dp P (pc + 1) ls (.inr (.inl (a / b)) :: st) M) : ax_J sh y cc mL ret dp P pc ls (.inr (.inl b) :: .inr (.inl a) :: st) M := by
  obtain ⟨e1, e2, e3⟩ := ax_ldivE h0 h1 ha hb
  exact ax_step (fun _ _ h => ax_cc (v := .inr (.inl (a / b))) trivial (ax_ct (ax_ct h))) (fun X _ _ _ _ _ w => lv_ldiv X.1 X.2.1 hd e3 (by rw [e1]; exact w)) k
theorem ax_lrem {a b : Int} (hd : decode cc pc = .ok (.lrem, 1)) (h0 : 0 ≤ a) (h1 : 0 < b) (ha : a < 2 ^ 63) (hb : b < 2 ^ 63) (k : ax_J sh y cc mL ret dp P (pc + 1) ls (.inr (.inl (a % b)) :: st) M) : ax_J sh y cc mL ret dp P pc ls (.inr (.inl b) :: .inr (.inl a) :: st) M := by
  obtain ⟨e1, e2, e3⟩ := ax_ldivE h0 h1 ha hb
  exact ax_step (fun _ _ h => ax_cc (v := .inr (.inl (a % b))) trivial (ax_ct (ax_ct h))) (fun X _ _ _ _ _ w => lv_lrem X.1 X.2.1 hd e3 (by rw [e2]; exact w)) k
def ax_cmp (a b : Int) : Int := if b < a then 1 else if a = b then 0 else -1
theorem ax_lcmp {a b : Int} (hd : decode cc pc = .ok (.lcmp, 1)) (ha : -2 ^ 63 ≤ a ∧ a < 2 ^ 63) (hb : -2 ^ 63 ≤ b ∧ b < 2 ^ 63) (k : ax_J sh y cc mL ret dp P (pc + 1) ls (.inl (ax_cmp a b) :: st) M) : ax_J sh y cc mL ret dp P pc ls (.inr (.inl b) :: .inr (.inl a) :: st) M := by
  have hr : ax_r (ax_cmp a b) := by unfold ax_cmp; split <;> (try split) <;> exact ⟨by omega, by omega⟩
  have i1 : (Int64.ofInt a).toInt = a := Int64.toInt_ofInt_of_le ha.1 ha.2
  have i2 : (Int64.ofInt b).toInt = b := Int64.toInt_ofInt_of_le hb.1 hb.2
  have e : lg_cmp (Int64.ofInt a) (Int64.ofInt b) = Int32.ofInt (ax_cmp a b) := by
    unfold lg_cmp ax_cmp
    simp only [gt_iff_lt, Int64.lt_iff_toInt_lt, ← Int64.toInt_inj, i1, i2]
    split
    · rfl
    · split <;> rfl
  exact ax_step (fun _ _ h => ax_cc (v := .inl (ax_cmp a b)) hr (ax_ct (ax_ct h))) (fun X _ _ _ _ _ w => W.lcmp X.1 X.2.1 hd (by rw [e]; exact w)) k
theorem ax_i2c {a : Int} (hd : decode cc pc = .ok (.i2c, 1)) (h0 : 0 ≤ a) (h1 : a < 65536) (k : ax_J sh y cc mL ret dp P (pc + 1) ls (.inl a :: st) M) : ax_J sh y cc mL ret dp P pc ls (.inl a :: st) M := by
  refine ax_step (fun _ _ h => h) (fun X _ _ _ _ _ w => lv_i2c X.1 X.2.1 hd ?_ w) k
  obtain ⟨n, rfl⟩ := Int.eq_ofNat_of_zero_le h0
  show ((nI n).toUInt32 % 65536).toInt32 = nI n
  rw [pk_char, pk_tn (by omega), Nat.mod_eq_of_lt (by omega)]
theorem ax_ishl1 {b : Int} (hd : decode cc pc = .ok (.ishl, 1)) (h0 : 0 ≤ b) (h1 : b ≤ 30) (k : ax_J sh y cc mL ret dp P (pc + 1) ls (.inl (2 ^ b.toNat) :: st) M) : ax_J sh y cc mL ret dp P pc ls (.inl b :: .inl 1 :: st) M := by
  obtain ⟨n, rfl⟩ := Int.eq_ofNat_of_zero_le h0
  have hn : n < 31 := by omega
  have key : ∀ n, n < 31 → ((1 : Int32) <<< (nI n &&& 31)) = Int32.ofInt (2 ^ n) ∧ ((1 : Int32) <<< nI n) = Int32.ofInt (2 ^ n) ∧ (0 : Int) ≤ 2 ^ n ∧ (2 ^ n : Int) < 2147483648 := by decide +kernel
  obtain ⟨e, e', r1, r2⟩ := key n hn
  refine ax_step (fun _ _ h => ax_cc (v := .inl (2 ^ n)) (show ax_r _ from ⟨by omega, r2⟩) (ax_ct (ax_ct h))) (fun X _ _ _ _ _ w => lv_ishl X.1 X.2.1 hd ?_) k
  first
    | (show W _ _ _ _ _ _ _ _ _ _ _ _ _ _ _ (F0 _ _ _ (.int ((1 : Int32) <<< (nI n &&& 31)) :: _)); rw [e]; exact w)
    | (show W _ _ _ _ _ _ _ _ _ _ _ _ _ _ _ (F0 _ _ _ (.int ((1 : Int32) <<< nI n) :: _)); rw [e']; exact w)
theorem ax_ior {a b : Int} (hd : decode cc pc = .ok (.ior, 1)) (h0 : 0 ≤ a) (h1 : 0 ≤ b) (k : ax_J sh y cc mL ret dp P (pc + 1) ls (.inl ((a.toNat ||| b.toNat : Nat) : Int) :: st) M) : ax_J sh y cc mL ret dp P pc ls (.inl b :: .inl a :: st) M := by
  intro p l e s m args below meth c D ca ad X hn hs hq H locs lsA hP hS hl
  have hb := ax_cr hs
  have ha := ax_cr (ax_ct hs)
  have hlt : (a.toNat ||| b.toNat) < 2 ^ 31 := Nat.or_lt_two_pow (by have := ha.2; omega) (by have := hb.2; omega)
  have e1 : Int32.ofInt a ||| Int32.ofInt b = Int32.ofInt ((a.toNat ||| b.toNat : Nat) : Int) := by
    rw [ax_ofNat h0, ax_ofNat h1]
    apply Int32.toBitVec_inj.mp
    rw [Int32.toBitVec_or]
    show BitVec.ofNat 32 _ ||| BitVec.ofNat 32 _ = BitVec.ofNat 32 _
    apply BitVec.eq_of_toNat_eq
    rw [BitVec.toNat_or, BitVec.toNat_ofNat, BitVec.toNat_ofNat, BitVec.toNat_ofNat, Nat.mod_eq_of_lt (by have := ha.2; omega), Nat.mod_eq_of_lt (by have := hb.2; omega), Nat.mod_eq_of_lt (by omega)]
  refine lv_ior X.1 X.2.1 hd ?_
  rw [e1]
  exact k p l e s m args below meth c D ca ad X hn (ax_cc (v := .inl ((a.toNat ||| b.toNat : Nat) : Int)) (show ax_r _ from ⟨by omega, by omega⟩) (ax_ct (ax_ct hs))) hq H locs lsA hP hS hl
-- switches
theorem ax_tabOut {x dflt lo hi : Int} {offs : Array Int} {len tgt : Nat} (hd : decode cc pc = .ok (.tableswitch dflt lo hi offs, len)) (h : x < lo ∨ hi < x) (ht : (pc : Int) + dflt = (tgt : Int)) (k : ax_J sh y cc mL ret dp P tgt ls st M) : ax_J sh y cc mL ret dp P pc ls (.inl x :: st) M :=
  ax_step (fun _ _ h => ax_ct h) (fun X _ hs _ _ _ w => lv_tableOut X.1 X.2.1 hd (by rw [ax_i32 (ax_cr hs)]; exact h) ht w) k
theorem ax_tabIn {x dflt lo hi off : Int} {offs : Array Int} {len tgt : Nat} (hd : decode cc pc = .ok (.tableswitch dflt lo hi offs, len)) (h1 : lo ≤ x) (h2 : x ≤ hi) (ho : offs[(x - lo).toNat]? = some off) (ht : (pc : Int) + off = (tgt : Int)) (k : ax_J sh y cc mL ret dp P tgt ls st M) : ax_J sh y cc mL ret dp P pc ls (.inl x :: st) M :=
  ax_step (fun _ _ h => ax_ct h) (fun X _ hs _ _ _ w => lv_tableIn X.1 X.2.1 hd (by rw [ax_i32 (ax_cr hs)]; omega) (by rw [ax_i32 (ax_cr hs)]; omega) (by rw [ax_i32 (ax_cr hs)]; exact ho) ht w) k
theorem ax_look {x dflt off : Int} {ps : Array (Int × Int)} {len tgt : Nat} (hd : decode cc pc = .ok (.lookupswitch dflt ps, len)) (hp : (ps.toList.zip (ps.toList.drop 1)).all (fun (a, next) => a.1 < next.1) = true) (ho : Op.lookupswitch.offset ps.toList dflt x = off) (ht : (pc : Int) + off = (tgt : Int)) (k : ax_J sh y cc mL ret dp P tgt ls st M) : ax_J sh y cc mL ret dp P pc ls (.inl x :: st) M :=
  ax_step (fun _ _ h => ax_ct h) (fun X _ hs _ _ _ w => lv_lookup X.1 X.2.1 hd hp (by rw [ax_i32 (ax_cr hs)]; exact ho) ht w) k
end AXR
