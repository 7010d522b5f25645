/-! rows for the law: the two worlds beside each other -/
/-- what stands fixed while the law runs, behind its two constructors -/
def lx_F (p : Program) (s : State) (m : MethodId) (meth : Method) (c : Code) (b L : Nat) (xs : Nat → Int32) (D : va_G) (ca : Nat → ClassId) (aX aM : Nat → Nat) : Prop :=
  lw_At p s m meth c b L xs ∧ va_K D ax_cl (ax_tys ca) s ∧ va_Nw ax_nest s ∧ ax_I shX aX ∧ ax_I shM aM ∧ (∀ i j, i < shX.length → j < shM.length → aX i ≠ aM j) ∧ (∀ i, i < shX.length → s.heap.size ≤ aX i) ∧ (∀ j, j < shM.length → s.heap.size ≤ aM j)
def lx_J (p : Program) (l : Launch) (e : Env) (s : State) (m : MethodId) (below : List Frame) (meth : Method) (c : Code) (b : Nat) (D : va_G) (ca : Nat → ClassId) (aX aM : Nat → Nat) (pc : Nat) (ls : List (Nat × Value)) (st : List Value) (X Y : ax_Mem) : Prop :=
  ∀ (H : Heap) (locs : List Loc) (lsA : Array Slot), ax_n shX X → ax_n shM Y → va_P D ax_cl (ax_w shX ca aX X) H → va_P D ax_cl (ax_w shM ca aM Y) H → va_S (fun q : Nat => s.heap.size ≤ q) s.heap H locs → lv_has lsA 4 ls →
    W p l e room_1 s m #[Value.ref b] below meth c H locs 90 910 (lw_Z below #[Value.ref b] s) (F0 m pc lsA st)
abbrev lx_ls (b : Nat) (aX aM : Nat → Nat) (i : Nat) : List (Nat × Value) := [(3, .int (Int32.ofInt (i : Int))), (2, .ref (aM 0)), (1, .ref (aX 0)), (0, .ref b)]
/-- the argument of letters -/
def lx_w (xs : Nat → Int32) (i : Nat) : Int64 := ((Int32.ofInt (xs (i + 1)).toInt).toInt64 <<< ((32 : Int32).toInt64 &&& 63)) ||| ((Int32.ofInt (xs (i + 2)).toInt).toInt64 &&& 4294967295)
theorem lx_r (x : Int32) : ax_r x.toInt := ⟨Int32.le_toInt x, Int32.toInt_lt x⟩
theorem lx_v0 : ∀ v ∈ ([] : List ax_V), ax_vr v := fun _ h => absurd h List.not_mem_nil
section LX
variable {p : Program} {l : Launch} {e : Env} {s : State} {m : MethodId} {below : List Frame} {meth : Method} {c : Code} {b L : Nat} {xs : Nat → Int32} {D : va_G} {ca : Nat → ClassId} {aX aM : Nat → Nat} {pc : Nat} {ls : List (Nat × Value)} {st : List Value} {X Y : ax_Mem}
theorem lx_aload (F : lx_F p s m meth c b L xs D ca aX aM) {q : Fin 4} {i a : Nat} (j : Nat) (hd : decode code pc = .ok (.aload_n q, 1)) (hi : q.val = i) (hj : ls[j]? = some (i, .ref a)) (k : lx_J p l e s m below meth c b D ca aX aM (pc + 1) ls (.ref a :: st) X Y) : lx_J p l e s m below meth c b D ca aX aM pc ls st X Y := by
  intro H locs lsA nX nY hX hY hS hl
  exact lv_aload_n F.1.1 F.1.2.1 hd hi (lv_at hl j hj) (k H locs lsA nX nY hX hY hS hl)
/-- a number of the script -/
theorem lx_at (F : lx_F p s m meth c b L xs D ca aX aM) {i k : Nat} {st' : List Value} (hi : i + k < L) (hL : L ≤ 4096) (hd : decode code pc = .ok (.iaload, 1)) (kk : lx_J p l e s m below meth c b D ca aX aM (pc + 1) ls (.int (Int32.ofInt (xs (i + k)).toInt) :: st') X Y) : lx_J p l e s m below meth c b D ca aX aM pc ls (.int (Int32.ofInt ((i : Int) + (k : Int))) :: .ref b :: st') X Y := by
  intro H locs lsA nX nY hX hY hS hl
  obtain ⟨hx, hb, hr, hml, hown, hts, hXs, hbl, hlocks, hgv⟩ := F.1
  have hr2 : ax_r ((i : Int) + (k : Int)) := ⟨by omega, by omega⟩
  refine va_sld hx hb hXs hbl (Nat.not_le.mpr hbl) hS (ax_in hr2 (by omega) (by omega)) hd ?_
  rw [ax_cl0 hr2, show ((i : Int) + (k : Int)).toNat = i + k by omega]
  have h := kk H locs lsA nX nY hX hY hS hl
  rw [Int32.ofInt_toInt] at h
  exact h
theorem lx_sc (F : lx_F p s m meth c b L xs D ca aX aM) {i k : Nat} {n : Int} (hi : i + 8 ≤ L) (hL : L ≤ 4096) (hk : k < 8) (hn : n = (k : Int)) (d0 : decode code pc = .ok (.aload_n 0, 1)) (d1 : decode code (pc + 1) = .ok (.iload_n 3, 1)) (d2 : decode code (pc + 2) = .ok (.iconst n, 1)) (d3 : decode code (pc + 3) = .ok (.iadd, 1)) (d4 : decode code (pc + 4) = .ok (.iaload, 1)) (kk : lx_J p l e s m below meth c b D ca aX aM (pc + 5) (lx_ls b aX aM i) (.int (Int32.ofInt (xs (i + k)).toInt) :: st) X Y) : lx_J p l e s m below meth c b D ca aX aM pc (lx_ls b aX aM i) st X Y := by
  subst hn
  have h4 := lx_at (pc := pc + 4) F (show i + k < L by omega) hL d4 kk
  intro H locs lsA nX nY hX hY hS hl
  have hx := F.1.1
  have hb := F.1.2.1
  refine lv_aload_n hx hb d0 rfl (lv_at hl 3 rfl) ?_
  refine lv_iload_n hx hb d1 rfl (lv_at hl 0 rfl) ?_
  refine lv_iconst hx hb d2 rfl ?_
  refine lv_iadd hx hb d3 ?_
  rw [← Int32.ofInt_add]
  exact h4 H locs lsA nX nY hX hY hS hl
theorem lx_sb (F : lx_F p s m meth c b L xs D ca aX aM) {i k : Nat} {n : Int} (hi : i + 8 ≤ L) (hL : L ≤ 4096) (hk : k < 8) (hn : n = (k : Int)) (d0 : decode code pc = .ok (.aload_n 0, 1)) (d1 : decode code (pc + 1) = .ok (.iload_n 3, 1)) (d2 : decode code (pc + 2) = .ok (.bipush n, 2)) (d3 : decode code (pc + 4) = .ok (.iadd, 1)) (d4 : decode code (pc + 5) = .ok (.iaload, 1)) (kk : lx_J p l e s m below meth c b D ca aX aM (pc + 6) (lx_ls b aX aM i) (.int (Int32.ofInt (xs (i + k)).toInt) :: st) X Y) : lx_J p l e s m below meth c b D ca aX aM pc (lx_ls b aX aM i) st X Y := by
  subst hn
  have h4 := lx_at (pc := pc + 5) F (show i + k < L by omega) hL d4 kk
  intro H locs lsA nX nY hX hY hS hl
  have hx := F.1.1
  have hb := F.1.2.1
  have hv : (Int8.ofInt (k : Int)).toInt32 = Int32.ofInt (k : Int) := by
    have h1 : (Int8.ofInt (k : Int)).toInt = (k : Int) := Int8.toInt_ofInt_of_le (by omega) (by omega)
    apply Int32.toInt_inj.mp
    rw [ax_i32 ⟨by omega, by omega⟩, Int8.toInt_toInt32, h1]
  refine lv_aload_n hx hb d0 rfl (lv_at hl 3 rfl) ?_
  refine lv_iload_n hx hb d1 rfl (lv_at hl 0 rfl) ?_
  refine lv_bipush hx hb d2 hv ?_
  refine lv_iadd hx hb d3 ?_
  rw [← Int32.ofInt_add]
  exact h4 H locs lsA nX nY hX hY hS hl
theorem lx_i2l (F : lx_F p s m meth c b L xs D ca aX aM) {x : Int32} (hd : decode code pc = .ok (.i2l, 1)) (k : lx_J p l e s m below meth c b D ca aX aM (pc + 1) ls (.long x.toInt64 :: st) X Y) : lx_J p l e s m below meth c b D ca aX aM pc ls (.int x :: st) X Y := by
  intro H locs lsA nX nY hX hY hS hl
  exact lv_i2l F.1.1 F.1.2.1 hd rfl (k H locs lsA nX nY hX hY hS hl)
theorem lx_bipush (F : lx_F p s m meth c b L xs D ca aX aM) {n : Int} {v : Int32} (hd : decode code pc = .ok (.bipush n, 2)) (hv : (Int8.ofInt n).toInt32 = v) (k : lx_J p l e s m below meth c b D ca aX aM (pc + 2) ls (.int v :: st) X Y) : lx_J p l e s m below meth c b D ca aX aM pc ls st X Y := by
  intro H locs lsA nX nY hX hY hS hl
  exact lv_bipush F.1.1 F.1.2.1 hd hv (k H locs lsA nX nY hX hY hS hl)
theorem lx_lshl (F : lx_F p s m meth c b L xs D ca aX aM) {x : Int64} {v : Int32} (hd : decode code pc = .ok (.lshl, 1)) (k : lx_J p l e s m below meth c b D ca aX aM (pc + 1) ls (.long (x <<< (v.toInt64 &&& 63)) :: st) X Y) : lx_J p l e s m below meth c b D ca aX aM pc ls (.int v :: .long x :: st) X Y := by
  intro H locs lsA nX nY hX hY hS hl
  exact lv_lshl F.1.1 F.1.2.1 hd rfl (k H locs lsA nX nY hX hY hS hl)
theorem lx_ldc2 (F : lx_F p s m meth c b L xs D ca aX aM) {idx : Nat} {v : Int64} (hd : decode code pc = .ok (.ldc2_w idx, 3)) (hc : Cond.constantLong "RowsIntoPlaneLaw" idx v ∈ ax_Ts) (k : lx_J p l e s m below meth c b D ca aX aM (pc + 3) ls (.long v :: st) X Y) : lx_J p l e s m below meth c b D ca aX aM pc ls st X Y := by
  intro H locs lsA nX nY hX hY hS hl
  exact lv_ldc2 F.1.1 F.1.2.1 F.1.2.2.2.2.1 (F.1.2.2.2.2.2.1 _ (ax_Ts_sub _ hc)) hd (k H locs lsA nX nY hX hY hS hl)
theorem lx_land (F : lx_F p s m meth c b L xs D ca aX aM) {x v : Int64} (hd : decode code pc = .ok (.land, 1)) (k : lx_J p l e s m below meth c b D ca aX aM (pc + 1) ls (.long (x &&& v) :: st) X Y) : lx_J p l e s m below meth c b D ca aX aM pc ls (.long v :: .long x :: st) X Y := by
  intro H locs lsA nX nY hX hY hS hl
  exact lv_land F.1.1 F.1.2.1 hd (k H locs lsA nX nY hX hY hS hl)
theorem lx_lor (F : lx_F p s m meth c b L xs D ca aX aM) {x v : Int64} (hd : decode code pc = .ok (.lor, 1)) (k : lx_J p l e s m below meth c b D ca aX aM (pc + 1) ls (.long (x ||| v) :: st) X Y) : lx_J p l e s m below meth c b D ca aX aM pc ls (.long v :: .long x :: st) X Y := by
  intro H locs lsA nX nY hX hY hS hl
  exact lv_lor F.1.1 F.1.2.1 hd (k H locs lsA nX nY hX hY hS hl)
theorem lx_tol {w : Int64} (k : lx_J p l e s m below meth c b D ca aX aM pc ls (.long (Int64.ofInt w.toInt) :: st) X Y) : lx_J p l e s m below meth c b D ca aX aM pc ls (.long w :: st) X Y := by
  rw [Int64.ofInt_toInt] at k
  exact k
theorem lx_eqi (F : lx_F p s m meth c b L xs D ca aX aM) {r : Int32} {off : Int} {tgt : Nat} (hd : decode code pc = .ok (.if_icmp .eq off, 3)) (ht : (pc : Int) + off = (tgt : Int)) (k : lx_J p l e s m below meth c b D ca aX aM tgt ls st X Y) : lx_J p l e s m below meth c b D ca aX aM pc ls (.int r :: .int r :: st) X Y := by
  intro H locs lsA nX nY hX hY hS hl
  exact lv_icmp_eq F.1.1 F.1.2.1 hd ht (fun _ => k H locs lsA nX nY hX hY hS hl) (fun h => absurd rfl h)
theorem lx_eql (F : lx_F p s m meth c b L xs D ca aX aM) {r : Int64} {off : Int} {tgt : Nat} (d0 : decode code pc = .ok (.lcmp, 1)) (hd : decode code (pc + 1) = .ok (.ifCond .eq off, 3)) (ht : ((pc + 1 : Nat) : Int) + off = (tgt : Int)) (k : lx_J p l e s m below meth c b D ca aX aM tgt ls st X Y) : lx_J p l e s m below meth c b D ca aX aM pc ls (.long r :: .long r :: st) X Y := by
  intro H locs lsA nX nY hX hY hS hl
  refine W.lcmp F.1.1 F.1.2.1 d0 ?_
  have e0 : lg_cmp r r = 0 := by simp [lg_cmp, Int64.lt_iff_toInt_lt]
  rw [e0]
  exact lv_if_eq F.1.1 F.1.2.1 hd ht (fun _ => k H locs lsA nX nY hX hY hS hl) (fun h => absurd rfl h)
theorem lx_notX {i : Nat} {q : Nat × va_E} (hXM : ∀ i j, i < shX.length → j < shM.length → aX i ≠ aM j) (hq : (ax_w shM ca aM Y)[i]? = some q) : ¬ ax_As shX aX q.1 := by
  obtain ⟨s', -, hj, rfl⟩ := ax_w_at hq
  rintro ⟨k, hk, e⟩
  exact hXM k i hk hj e.symm
theorem lx_notM {i : Nat} {q : Nat × va_E} (hXM : ∀ i j, i < shX.length → j < shM.length → aX i ≠ aM j) (hq : (ax_w shX ca aX X)[i]? = some q) : ¬ ax_As shM aM q.1 := by
  obtain ⟨s', -, hj, rfl⟩ := ax_w_at hq
  rintro ⟨k, hk, e⟩
  exact hXM i k hj hk e
/-- the run of a call on the class's object, on the reference's -/
theorem lx_runX {y2 : MethodName} {cc2 : ByteArray} {mL2 : Nat} {ret2 : Option FieldType} {dp2 idx n : Nat} {as : List ax_V} {st0 : List Value} {P : Int → ax_Mem → Prop} (F : lx_F p s m meth c b L xs D ca aX aM) (hd : decode code pc = .ok (.invokevirtual idx, 3)) (hl : ax_LV "RowsIntoPlaneLaw" idx y2 cc2 mL2 ret2 n) (hc : ∃ (T : u_T) (N : Nat), ax_cl[8]? = some (y2.cls, T, N)) (hn : as.length = n) (h0 : st0 = (as.map (ax_c aX)).reverse ++ .ref (aX 0) :: st) (hz : (st.map fun v => v.category).sum ≤ 8) (hdp : dp2 + 1 ≤ 11 ∧ 8 + (mL2 + 11) + 36 * dp2 ≤ 410) (has : ∀ v ∈ as, ax_vr v)
    (kk : ax_C shX y2 cc2 mL2 ret2 dp2 (.inr (.inr 0) :: as) X P) {H : Heap} {locs : List Loc} {lsA : Array Slot} (nX : ax_n shX X) (hX : va_P D ax_cl (ax_w shX ca aX X) H) (hls : lv_has lsA 4 ls) :
    va_Run p l e room_1 s m #[Value.ref b] below meth c H locs 90 910 0 0 (F0 m pc lsA st0) st (ax_Q shX ret2 D ca aX P (Value.ref (aX 0) :: as.map (ax_c aX)).toArray) (ax_As shX aX) := by
  obtain ⟨C0, hK, hNw, hIX, hIM, hXM, hbX, hbM⟩ := F
  obtain ⟨hx, hb, hr, hml, hown, hts, hXs, hbl, hlocks, hgv⟩ := C0
  have htsG : ∀ w ∈ ax_Ts, w.before #[Value.ref b] s = true := fun w h => hts w (ax_Ts_sub w h)
  obtain ⟨T, N, hc⟩ := hc
  obtain ⟨l1, l2, l3, l4, l5, l6, l7, l8, l9⟩ := hl
  subst h0
  refine va_runV (As := as.map (ax_c aX)) (b := aX 0) (C := y2.cls) (n := n) (Ts := ax_Ts) (bytes := cc2) (maxL := mL2) (ret := ret2) (own := "RowsIntoPlaneLaw") ⟨hx, hb, hml, hown, htsG⟩ (kk l D ca aX hIX nX (ax_cc (v := .inr (.inr 0)) trivial has)) ⟨?_, htsG _ l2, htsG _ l3⟩ ⟨ax_pre (as := []) _, ?_, ?_⟩ rfl (by rw [List.length_map]; exact hn) hls.1 rfl (lv_room hz) hd ⟨Nat.le_of_ble_eq_true rfl, Nat.le_of_ble_eq_true rfl⟩
  · exact callB_of n htsG (ax_good l5) rfl rfl rfl (htsG _ l4) (htsG _ l1) ⟨l6, l7, l8⟩ ⟨hdp.1, hdp.2⟩
  · exact va_recv hK hX hc (ax_w_get sX_0)
  · intro U hU hW
    exact ⟨rfl, by rw [hU]; exact hX, va_K.moved hW.alike hK, va_Nw.warmM hW hNw⟩
theorem lx_runM {y2 : MethodName} {cc2 : ByteArray} {mL2 : Nat} {ret2 : Option FieldType} {dp2 idx n : Nat} {as : List ax_V} {st0 : List Value} {P : Int → ax_Mem → Prop} (F : lx_F p s m meth c b L xs D ca aX aM) (hd : decode code pc = .ok (.invokevirtual idx, 3)) (hl : ax_LV "RowsIntoPlaneLaw" idx y2 cc2 mL2 ret2 n) (hc : ∃ (T : u_T) (N : Nat), ax_cl[9]? = some (y2.cls, T, N)) (hn : as.length = n) (h0 : st0 = (as.map (ax_c aM)).reverse ++ .ref (aM 0) :: st) (hz : (st.map fun v => v.category).sum ≤ 8) (hdp : dp2 + 1 ≤ 11 ∧ 8 + (mL2 + 11) + 36 * dp2 ≤ 410) (has : ∀ v ∈ as, ax_vr v)
    (kk : ax_C shM y2 cc2 mL2 ret2 dp2 (.inr (.inr 0) :: as) Y P) {H : Heap} {locs : List Loc} {lsA : Array Slot} (nY : ax_n shM Y) (hY : va_P D ax_cl (ax_w shM ca aM Y) H) (hls : lv_has lsA 4 ls) :
    va_Run p l e room_1 s m #[Value.ref b] below meth c H locs 90 910 0 0 (F0 m pc lsA st0) st (ax_Q shM ret2 D ca aM P (Value.ref (aM 0) :: as.map (ax_c aM)).toArray) (ax_As shM aM) := by
  obtain ⟨C0, hK, hNw, hIX, hIM, hXM, hbX, hbM⟩ := F
  obtain ⟨hx, hb, hr, hml, hown, hts, hXs, hbl, hlocks, hgv⟩ := C0
  have htsG : ∀ w ∈ ax_Ts, w.before #[Value.ref b] s = true := fun w h => hts w (ax_Ts_sub w h)
  obtain ⟨T, N, hc⟩ := hc
  obtain ⟨l1, l2, l3, l4, l5, l6, l7, l8, l9⟩ := hl
  subst h0
  refine va_runV (As := as.map (ax_c aM)) (b := aM 0) (C := y2.cls) (n := n) (Ts := ax_Ts) (bytes := cc2) (maxL := mL2) (ret := ret2) (own := "RowsIntoPlaneLaw") ⟨hx, hb, hml, hown, htsG⟩ (kk l D ca aM hIM nY (ax_cc (v := .inr (.inr 0)) trivial has)) ⟨?_, htsG _ l2, htsG _ l3⟩ ⟨ax_pre (as := []) _, ?_, ?_⟩ rfl (by rw [List.length_map]; exact hn) hls.1 rfl (lv_room hz) hd ⟨Nat.le_of_ble_eq_true rfl, Nat.le_of_ble_eq_true rfl⟩
  · exact callB_of n htsG (ax_good l5) rfl rfl rfl (htsG _ l4) (htsG _ l1) ⟨l6, l7, l8⟩ ⟨hdp.1, hdp.2⟩
  · exact va_recv hK hY hc (ax_w_get sM_0)
  · intro U hU hW
    exact ⟨rfl, by rw [hU]; exact hY, va_K.moved hW.alike hK, va_Nw.warmM hW hNw⟩
theorem lx_callXi {y2 : MethodName} {cc2 : ByteArray} {mL2 dp2 idx n : Nat} {as : List ax_V} {st0 : List Value} {P : Int → ax_Mem → Prop} (F : lx_F p s m meth c b L xs D ca aX aM) (hd : decode code pc = .ok (.invokevirtual idx, 3)) (hl : ax_LV "RowsIntoPlaneLaw" idx y2 cc2 mL2 (some .int) n) (hc : ∃ (T : u_T) (N : Nat), ax_cl[8]? = some (y2.cls, T, N)) (hn : as.length = n) (h0 : st0 = (as.map (ax_c aX)).reverse ++ .ref (aX 0) :: st) (hz : (st.map fun v => v.category).sum ≤ 8) (hdp : dp2 + 1 ≤ 11 ∧ 8 + (mL2 + 11) + 36 * dp2 ≤ 410) (has : ∀ v ∈ as, ax_vr v)
    (kk : ax_C shX y2 cc2 mL2 (some .int) dp2 (.inr (.inr 0) :: as) X P) (k : ∀ r X2, P r X2 → lx_J p l e s m below meth c b D ca aX aM (pc + 3) ls (.int (Int32.ofInt r) :: st) X2 Y) : lx_J p l e s m below meth c b D ca aX aM pc ls st0 X Y := by
  intro H locs lsA nX nY hX hY hS hls
  have hA1 : ∀ q, ax_As shX aX q → s.heap.size ≤ q := fun q ⟨k, hk, e⟩ => e ▸ F.2.2.2.2.2.2.1 k hk
  refine va_calli (S := ax_Mem) (post := fun r u => ∃ i, ax_r i ∧ r = Int32.ofInt i ∧ P i u) (B := ax_B shX D ca aX) (A1 := ax_As shX aX) (a := (Value.ref (aX 0) :: as.map (ax_c aX)).toArray) (lx_runX F hd hl hc hn h0 hz hdp has kk nX hX hls) hS (fun q _ h => hA1 q h) hA1 (fun r u t H1 locs1 ht hvm hpost hB hz1 hk1 hS1 => ?_)
  obtain ⟨i, hi, rfl, hp⟩ := hpost
  obtain ⟨hn1, hP1⟩ := hB
  rw [ht] at hP1
  exact k i u hp H1 locs1 lsA hn1 nY hP1 (hY.kept (fun j q hq => hk1 q.1 ((hY j q hq).lt) (lx_notX F.2.2.2.2.2.1 hq))) hS1 hls
theorem lx_callXl {y2 : MethodName} {cc2 : ByteArray} {mL2 dp2 idx n : Nat} {as : List ax_V} {st0 : List Value} {P : Int → ax_Mem → Prop} (F : lx_F p s m meth c b L xs D ca aX aM) (hd : decode code pc = .ok (.invokevirtual idx, 3)) (hl : ax_LV "RowsIntoPlaneLaw" idx y2 cc2 mL2 (some .long) n) (hc : ∃ (T : u_T) (N : Nat), ax_cl[8]? = some (y2.cls, T, N)) (hn : as.length = n) (h0 : st0 = (as.map (ax_c aX)).reverse ++ .ref (aX 0) :: st) (hz : (st.map fun v => v.category).sum ≤ 8) (hdp : dp2 + 1 ≤ 11 ∧ 8 + (mL2 + 11) + 36 * dp2 ≤ 410) (has : ∀ v ∈ as, ax_vr v)
    (kk : ax_C shX y2 cc2 mL2 (some .long) dp2 (.inr (.inr 0) :: as) X P) (k : ∀ r X2, P r X2 → lx_J p l e s m below meth c b D ca aX aM (pc + 3) ls (.long (Int64.ofInt r) :: st) X2 Y) : lx_J p l e s m below meth c b D ca aX aM pc ls st0 X Y := by
  intro H locs lsA nX nY hX hY hS hls
  have hA1 : ∀ q, ax_As shX aX q → s.heap.size ≤ q := fun q ⟨k, hk, e⟩ => e ▸ F.2.2.2.2.2.2.1 k hk
  refine va_calll (S := ax_Mem) (post := fun r u => ∃ i, r = Int64.ofInt i ∧ P i u) (B := ax_B shX D ca aX) (A1 := ax_As shX aX) (a := (Value.ref (aX 0) :: as.map (ax_c aX)).toArray) (lx_runX F hd hl hc hn h0 hz hdp has kk nX hX hls) hS (fun q _ h => hA1 q h) hA1 (fun r u t H1 locs1 ht hvm hpost hB hz1 hk1 hS1 => ?_)
  obtain ⟨i, rfl, hp⟩ := hpost
  obtain ⟨hn1, hP1⟩ := hB
  rw [ht] at hP1
  exact k i u hp H1 locs1 lsA hn1 nY hP1 (hY.kept (fun j q hq => hk1 q.1 ((hY j q hq).lt) (lx_notX F.2.2.2.2.2.1 hq))) hS1 hls
theorem lx_callMi {y2 : MethodName} {cc2 : ByteArray} {mL2 dp2 idx n : Nat} {as : List ax_V} {st0 : List Value} {P : Int → ax_Mem → Prop} (F : lx_F p s m meth c b L xs D ca aX aM) (hd : decode code pc = .ok (.invokevirtual idx, 3)) (hl : ax_LV "RowsIntoPlaneLaw" idx y2 cc2 mL2 (some .int) n) (hc : ∃ (T : u_T) (N : Nat), ax_cl[9]? = some (y2.cls, T, N)) (hn : as.length = n) (h0 : st0 = (as.map (ax_c aM)).reverse ++ .ref (aM 0) :: st) (hz : (st.map fun v => v.category).sum ≤ 8) (hdp : dp2 + 1 ≤ 11 ∧ 8 + (mL2 + 11) + 36 * dp2 ≤ 410) (has : ∀ v ∈ as, ax_vr v)
    (kk : ax_C shM y2 cc2 mL2 (some .int) dp2 (.inr (.inr 0) :: as) Y P) (k : ∀ r Y2, P r Y2 → lx_J p l e s m below meth c b D ca aX aM (pc + 3) ls (.int (Int32.ofInt r) :: st) X Y2) : lx_J p l e s m below meth c b D ca aX aM pc ls st0 X Y := by
  intro H locs lsA nX nY hX hY hS hls
  have hA1 : ∀ q, ax_As shM aM q → s.heap.size ≤ q := fun q ⟨k, hk, e⟩ => e ▸ F.2.2.2.2.2.2.2 k hk
  refine va_calli (S := ax_Mem) (post := fun r u => ∃ i, ax_r i ∧ r = Int32.ofInt i ∧ P i u) (B := ax_B shM D ca aM) (A1 := ax_As shM aM) (a := (Value.ref (aM 0) :: as.map (ax_c aM)).toArray) (lx_runM F hd hl hc hn h0 hz hdp has kk nY hY hls) hS (fun q _ h => hA1 q h) hA1 (fun r u t H1 locs1 ht hvm hpost hB hz1 hk1 hS1 => ?_)
  obtain ⟨i, hi, rfl, hp⟩ := hpost
  obtain ⟨hn1, hP1⟩ := hB
  rw [ht] at hP1
  exact k i u hp H1 locs1 lsA nX hn1 (hX.kept (fun j q hq => hk1 q.1 ((hX j q hq).lt) (lx_notM F.2.2.2.2.2.1 hq))) hP1 hS1 hls
theorem lx_callMl {y2 : MethodName} {cc2 : ByteArray} {mL2 dp2 idx n : Nat} {as : List ax_V} {st0 : List Value} {P : Int → ax_Mem → Prop} (F : lx_F p s m meth c b L xs D ca aX aM) (hd : decode code pc = .ok (.invokevirtual idx, 3)) (hl : ax_LV "RowsIntoPlaneLaw" idx y2 cc2 mL2 (some .long) n) (hc : ∃ (T : u_T) (N : Nat), ax_cl[9]? = some (y2.cls, T, N)) (hn : as.length = n) (h0 : st0 = (as.map (ax_c aM)).reverse ++ .ref (aM 0) :: st) (hz : (st.map fun v => v.category).sum ≤ 8) (hdp : dp2 + 1 ≤ 11 ∧ 8 + (mL2 + 11) + 36 * dp2 ≤ 410) (has : ∀ v ∈ as, ax_vr v)
    (kk : ax_C shM y2 cc2 mL2 (some .long) dp2 (.inr (.inr 0) :: as) Y P) (k : ∀ r Y2, P r Y2 → lx_J p l e s m below meth c b D ca aX aM (pc + 3) ls (.long (Int64.ofInt r) :: st) X Y2) : lx_J p l e s m below meth c b D ca aX aM pc ls st0 X Y := by
  intro H locs lsA nX nY hX hY hS hls
  have hA1 : ∀ q, ax_As shM aM q → s.heap.size ≤ q := fun q ⟨k, hk, e⟩ => e ▸ F.2.2.2.2.2.2.2 k hk
  refine va_calll (S := ax_Mem) (post := fun r u => ∃ i, r = Int64.ofInt i ∧ P i u) (B := ax_B shM D ca aM) (A1 := ax_As shM aM) (a := (Value.ref (aM 0) :: as.map (ax_c aM)).toArray) (lx_runM F hd hl hc hn h0 hz hdp has kk nY hY hls) hS (fun q _ h => hA1 q h) hA1 (fun r u t H1 locs1 ht hvm hpost hB hz1 hk1 hS1 => ?_)
  obtain ⟨i, rfl, hp⟩ := hpost
  obtain ⟨hn1, hP1⟩ := hB
  rw [ht] at hP1
  exact k i u hp H1 locs1 lsA nX hn1 (hX.kept (fun j q hq => hk1 q.1 ((hX j q hq).lt) (lx_notM F.2.2.2.2.2.1 hq))) hP1 hS1 hls
end LX
