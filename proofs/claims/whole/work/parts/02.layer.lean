/-! the layer: an abstract memory of whole numbers over the kit's worlds; judgements that quantify over the machine -/
abbrev ax_V : Type := Int ⊕ (Int ⊕ Nat)
abbrev ax_Mem : Type := Nat → Nat → Int
abbrev ax_Sh : Type := (Nat × Nat) ⊕ ((Nat × List Nat) ⊕ (Nat × List (Option (Option Nat))))
def ax_r (i : Int) : Prop := -2147483648 ≤ i ∧ i < 2147483648
def ax_vr (v : ax_V) : Prop := match v with
  | .inl i => ax_r i
  | .inr _ => True
def ax_lg (v : ax_V) : Bool := match v with
  | .inr (.inl _) => true
  | _ => false
def ax_c (ad : Nat → Nat) (v : ax_V) : Value := match v with
  | .inl i => .int (Int32.ofInt i)
  | .inr (.inl i) => .long (Int64.ofInt i)
  | .inr (.inr k) => .ref (ad k)
def ax_f (ad : Nat → Nat) (f : Nat → Int) (j : Nat) (o : Option (Option Nat)) : Value := match o with
  | none => .int (Int32.ofInt (f j))
  | some none => .long (Int64.ofInt (f j))
  | some (some r) => .ref (ad r)
def ax_e (ca : Nat → ClassId) (ad : Nat → Nat) (f : Nat → Int) (s : ax_Sh) : va_E := match s with
  | .inl q => .inl (ca q.1, q.2, .inl (fun j => Int32.ofInt (f j)))
  | .inr (.inl q) => .inl (ca q.1, q.2.length, .inr (.inr (.inr (.inr (fun j => (q.2[j]?).map ad)))))
  | .inr (.inr q) => .inr (q.1, q.2.mapIdx (ax_f ad f))
def ax_w (sh : List ax_Sh) (ca : Nat → ClassId) (ad : Nat → Nat) (M : ax_Mem) : va_W := sh.mapIdx (fun k s => (ad k, ax_e ca ad (M k) s))
theorem ax_w_get {sh : List ax_Sh} {ca : Nat → ClassId} {ad : Nat → Nat} {M : ax_Mem} {k : Nat} {s : ax_Sh} (h : sh[k]? = some s) : (ax_w sh ca ad M)[k]? = some (ad k, ax_e ca ad (M k) s) := by
  simp [ax_w, List.getElem?_mapIdx, h]
theorem ax_w_at {sh : List ax_Sh} {ca : Nat → ClassId} {ad : Nat → Nat} {M : ax_Mem} {k : Nat} {q : Nat × va_E} (h : (ax_w sh ca ad M)[k]? = some q) : ∃ s, sh[k]? = some s ∧ k < sh.length ∧ q = (ad k, ax_e ca ad (M k) s) := by
  simp only [ax_w, List.getElem?_mapIdx] at h
  cases hs : sh[k]? with
  | none => rw [hs] at h; cases h
  | some s =>
    rw [hs] at h
    exact ⟨s, rfl, (List.getElem?_eq_some_iff.mp hs).1, (Option.some.inj h).symm⟩
def ax_isl (sh : List ax_Sh) (k j : Nat) : Bool := match sh[k]? with
  | some (.inr (.inr q)) => q.2[j]? == some (some none)
  | _ => false
def ax_n (sh : List ax_Sh) (M : ax_Mem) : Prop := ∀ k j, ax_isl sh k j = false → ax_r (M k j)
def ax_I (sh : List ax_Sh) (ad : Nat → Nat) : Prop := ∀ i j, i < sh.length → j < sh.length → ad i = ad j → i = j
def ax_As (sh : List ax_Sh) (ad : Nat → Nat) (q : Nat) : Prop := ∃ k, k < sh.length ∧ q = ad k
theorem ax_D {sh : List ax_Sh} {ca : Nat → ClassId} {ad : Nat → Nat} (M : ax_Mem) (h : ax_I sh ad) : va_D (ax_As sh ad) (ax_w sh ca ad M) := by
  refine ⟨fun i j p q hi hj e => ?_, fun k q hk => ?_⟩
  · obtain ⟨s, -, h1, rfl⟩ := ax_w_at hi
    obtain ⟨t, -, h2, rfl⟩ := ax_w_at hj
    exact h i j h1 h2 e
  · obtain ⟨s, -, h1, rfl⟩ := ax_w_at hk
    exact ⟨k, h1, rfl⟩
/-- one place of one cell gets v -/
def ax_u (M : ax_Mem) (k j : Nat) (v : Int) : ax_Mem := fun a => if a = k then (fun b => if b = j then v else M a b) else M a
/-- one cell gets new contents -/
def ax_s (M : ax_Mem) (k : Nat) (f : Nat → Int) : ax_Mem := fun a => if a = k then f else M a
theorem ax_w_set {sh : List ax_Sh} {ca : Nat → ClassId} {ad : Nat → Nat} {M M' : ax_Mem} {k : Nat} {s : ax_Sh} (h : sh[k]? = some s) (hM : ∀ a, a ≠ k → M' a = M a) : (ax_w sh ca ad M).set k (ad k, ax_e ca ad (M' k) s) = ax_w sh ca ad M' := by
  have hk := (List.getElem?_eq_some_iff.mp h).1
  apply List.ext_getElem?
  intro i
  by_cases hi : i = k
  · subst hi
    rw [List.getElem?_set_self (by simpa [ax_w] using hk), ax_w_get h]
  · rw [List.getElem?_set_ne (Ne.symm hi)]
    simp only [ax_w, List.getElem?_mapIdx]
    rw [hM i hi]
def ax_nest : Cond := .methodLinkNest "RowsIntoPlane$Cabin" 22 ⟨"RowsIntoPlane", "outside", "(III)Z"⟩ "RowsIntoPlane"
def ax_tys (ca : Nat → ClassId) : List (ClassId × FieldType) := [(ca 0, .int), (ca 1, .char), (ca 2, .boolean), (ca 3, .object "RowsIntoPlane$Call"), (ca 4, .array .int)]
def ax_rm (d : Nat) : Room := { frames := d, cells := 0, slots := 0, locals := 36 * d }
def ax_B (sh : List ax_Sh) (D : va_G) (ca : Nat → ClassId) (ad : Nat → Nat) (u : ax_Mem) (t : State) : Prop := ax_n sh u ∧ va_P D ax_cl (ax_w sh ca ad u) t.heap
def ax_Q (sh : List ax_Sh) (ret : Option FieldType) (D : va_G) (ca : Nat → ClassId) (ad : Nat → Nat) (P : Int → ax_Mem → Prop) : Array Value → State → Outcome → State → Prop := match ret with
  | none => va_Qv (fun u => P 0 u) (ax_B sh D ca ad) (ax_As sh ad)
  | some .long => va_Ql (fun r u => ∃ i, r = Int64.ofInt i ∧ P i u) (ax_B sh D ca ad) (ax_As sh ad)
  | some _ => va_Qi (fun r u => ∃ i, ax_r i ∧ r = Int32.ofInt i ∧ P i u) (ax_B sh D ca ad) (ax_As sh ad)
def ax_ws (y : MethodName) (cc : ByteArray) (mL : Nat) (ret : Option FieldType) : List Cond := Cond.code y cc mL ret :: ax_Ts
/-- a call of y with these arguments over this memory returns, and P of the answer and the memory then -/
def ax_C (sh : List ax_Sh) (y : MethodName) (cc : ByteArray) (mL : Nat) (ret : Option FieldType) (dp : Nat) (as : List ax_V) (M : ax_Mem) (P : Int → ax_Mem → Prop) : Prop :=
  ∀ (l : Launch) (D : va_G) (ca : Nat → ClassId) (ad : Nat → Nat), ax_I sh ad → ax_n sh M → (∀ v ∈ as, ax_vr v) →
    Met l y (ax_ws y cc mL ret) (ax_rm dp) (va_Pc (as.map (ax_c ad)) (fun U => va_P D ax_cl (ax_w sh ca ad M) U.heap ∧ va_K D ax_cl (ax_tys ca) U ∧ va_Nw ax_nest U)) (ax_Q sh ret D ca ad P) 0 0 (ax_As sh ad)
def ax_l (ad : Nat → Nat) (ls : List (Nat × ax_V)) : List (Nat × Value) := ls.map (fun q => (q.1, ax_c ad q.2))
/-- what stands fixed while a method's body runs -/
def ax_X (sh : List ax_Sh) (y : MethodName) (cc : ByteArray) (mL : Nat) (ret : Option FieldType) (p : Program) (s : State) (m : MethodId) (args : Array Value) (meth : Method) (c : Code) (D : va_G) (ca : Nat → ClassId) (ad : Nat → Nat) : Prop :=
  p.tables.exec = Jvm.exec ∧ c.code = cc ∧ meth.sig.returnType = ret ∧ c.maxLocals = mL ∧ meth.locks = false ∧ s.vm.findClass y.cls = some m.cls ∧ (∀ w ∈ ax_Ts, w.before args s = true) ∧ va_K D ax_cl (ax_tys ca) s ∧ ax_I sh ad ∧ va_Nw ax_nest s
/-- the body of y at pc with these locals, this stack, this memory comes to y's end, and P there -/
def ax_J (sh : List ax_Sh) (y : MethodName) (cc : ByteArray) (mL : Nat) (ret : Option FieldType) (dp : Nat) (P : Int → ax_Mem → Prop) (pc : Nat) (ls : List (Nat × ax_V)) (st : List ax_V) (M : ax_Mem) : Prop :=
  ∀ (p : Program) (l : Launch) (e : Env) (s : State) (m : MethodId) (args : Array Value) (below : List Frame) (meth : Method) (c : Code) (D : va_G) (ca : Nat → ClassId) (ad : Nat → Nat), ax_X sh y cc mL ret p s m args meth c D ca ad →
    ax_n sh M → (∀ v ∈ st, ax_vr v) → (∀ q ∈ ls, ax_vr q.2) → ∀ (H : Heap) (locs : List Loc) (lsA : Array Slot), va_P D ax_cl (ax_w sh ca ad M) H → va_S (ax_As sh ad) s.heap H locs → lv_has lsA mL (ax_l ad ls) →
    W p l e (ax_rm dp) s m args below meth c H locs 0 0 (MQ below (ax_Q sh ret D ca ad P) args s 0 0 (ax_As sh ad)) (F0 m pc lsA (st.map (ax_c ad)))
theorem ax_i32 {i : Int} (h : ax_r i) : (Int32.ofInt i).toInt = i := Int32.toInt_ofInt_of_le h.1 h.2
theorem ax_lt {a b : Int} (ha : ax_r a) (hb : ax_r b) : Int32.ofInt a < Int32.ofInt b ↔ a < b := by rw [Int32.lt_iff_toInt_lt, ax_i32 ha, ax_i32 hb]
theorem ax_le {a b : Int} (ha : ax_r a) (hb : ax_r b) : Int32.ofInt a ≤ Int32.ofInt b ↔ a ≤ b := by rw [Int32.le_iff_toInt_le, ax_i32 ha, ax_i32 hb]
theorem ax_eq {a b : Int} (ha : ax_r a) (hb : ax_r b) : Int32.ofInt a = Int32.ofInt b ↔ a = b := by rw [← Int32.toInt_inj, ax_i32 ha, ax_i32 hb]
theorem ax_cl0 {i : Int} (h : ax_r i) : (Int32.ofInt i).toNatClampNeg = i.toNat := by
  show (Int32.ofInt i).toInt.toNat = i.toNat
  rw [ax_i32 h]
theorem ax_in {i : Int} {n : Nat} (h : ax_r i) (h0 : 0 ≤ i) (h1 : i < n) : vp_in (Int32.ofInt i) n := by
  rw [vp_in_iff, ax_i32 h]
  exact ⟨h0, h1⟩
theorem ax_ofNat {i : Int} (h : 0 ≤ i) : Int32.ofInt i = nI i.toNat := by
  obtain ⟨n, rfl⟩ := Int.eq_ofNat_of_zero_le h
  rfl
theorem ax_lofNat {i : Int} (h : 0 ≤ i) : Int64.ofInt i = lN i.toNat := by
  obtain ⟨n, rfl⟩ := Int.eq_ofNat_of_zero_le h
  rfl
section AXJ
variable {sh : List ax_Sh} {y : MethodName} {cc : ByteArray} {mL : Nat} {ret : Option FieldType} {dp : Nat} {P : Int → ax_Mem → Prop} {pc : Nat} {ls : List (Nat × ax_V)} {st : List ax_V} {M : ax_Mem}
theorem ax_cr {i : Int} (h : ∀ v ∈ (.inl i :: st : List ax_V), ax_vr v) : ax_r i := h _ List.mem_cons_self
theorem ax_ct {v : ax_V} (h : ∀ w ∈ (v :: st : List ax_V), ax_vr w) : ∀ w ∈ st, ax_vr w := fun w hw => h w (List.mem_cons_of_mem _ hw)
theorem ax_cc {v : ax_V} (hv : ax_vr v) (h : ∀ w ∈ st, ax_vr w) : ∀ w ∈ (v :: st : List ax_V), ax_vr w := fun w hw => (List.mem_cons.mp hw).elim (fun e => e ▸ hv) (h w)
/-- fewer locals, in another order -/
theorem ax_sub {ls' : List (Nat × ax_V)} (ks : List Nat) (hl : ks.filterMap (fun k => ls[k]?) = ls') (k : ax_J sh y cc mL ret dp P pc ls' st M) : ax_J sh y cc mL ret dp P pc ls st M := by
  intro p l e s m args below meth c D ca ad X hn hs hq H locs lsA hP hS hl'
  have hsub : ∀ q ∈ ls', q ∈ ls := by
    intro q h
    rw [← hl] at h
    obtain ⟨i, -, hi⟩ := List.mem_filterMap.mp h
    exact List.mem_of_getElem? hi
  refine k p l e s m args below meth c D ca ad X hn hs (fun q h => hq q (hsub q h)) H locs lsA hP hS ⟨hl'.1, hl'.2.1, fun q h => ?_⟩
  obtain ⟨q0, h0, rfl⟩ := List.mem_map.mp h
  exact hl'.2.2 _ (List.mem_map.mpr ⟨q0, hsub q0 h0, rfl⟩)
/-- a step that leaves locals and memory -/
theorem ax_step {pc' : Nat} {st' : List ax_V} (hr : ax_n sh M → (∀ q ∈ ls, ax_vr q.2) → (∀ v ∈ st, ax_vr v) → ∀ v ∈ st', ax_vr v)
    (h : ∀ {p : Program} {l : Launch} {e : Env} {s : State} {m : MethodId} {args : Array Value} {below : List Frame} {meth : Method} {c : Code} {D : va_G} {ca : Nat → ClassId} {ad : Nat → Nat} {H : Heap} {locs : List Loc} {lsA : Array Slot} {Q : State → Prop}, ax_X sh y cc mL ret p s m args meth c D ca ad → ax_n sh M → (∀ v ∈ st, ax_vr v) → (∀ q ∈ ls, ax_vr q.2) → va_P D ax_cl (ax_w sh ca ad M) H → lv_has lsA mL (ax_l ad ls) →
      W p l e (ax_rm dp) s m args below meth c H locs 0 0 Q (F0 m pc' lsA (st'.map (ax_c ad))) → W p l e (ax_rm dp) s m args below meth c H locs 0 0 Q (F0 m pc lsA (st.map (ax_c ad))))
    (k : ax_J sh y cc mL ret dp P pc' ls st' M) : ax_J sh y cc mL ret dp P pc ls st M := by
  intro p l e s m args below meth c D ca ad X hn hs hq H locs lsA hP hS hl
  exact h X hn hs hq hP hl (k p l e s m args below meth c D ca ad X hn (hr hn hq hs) hq H locs lsA hP hS hl)
theorem ax_iconst {n : Int} (hd : decode cc pc = .ok (.iconst n, 1)) (hv : -1 ≤ n ∧ n ≤ 5) (k : ax_J sh y cc mL ret dp P (pc + 1) ls (.inl n :: st) M) : ax_J sh y cc mL ret dp P pc ls st M :=
  ax_step (fun _ _ h => ax_cc (v := .inl n) (show ax_r n from ⟨by omega, by omega⟩) h) (fun X _ _ _ _ _ w => lv_iconst X.1 X.2.1 hd rfl w) k
theorem ax_bipush {n : Int} (hd : decode cc pc = .ok (.bipush n, 2)) (hv : -128 ≤ n ∧ n < 128) (k : ax_J sh y cc mL ret dp P (pc + 2) ls (.inl n :: st) M) : ax_J sh y cc mL ret dp P pc ls st M := by
  refine ax_step (fun _ _ h => ax_cc (v := .inl n) (show ax_r n from ⟨by omega, by omega⟩) h) (fun X _ _ _ _ _ w => lv_bipush X.1 X.2.1 hd ?_ w) k
  have h1 : (Int8.ofInt n).toInt = n := Int8.toInt_ofInt_of_le (by omega) (by omega)
  apply Int32.toInt_inj.mp
  rw [ax_i32 ⟨by omega, by omega⟩, Int8.toInt_toInt32, h1]
theorem ax_sipush {n : Int} (hd : decode cc pc = .ok (.sipush n, 3)) (hv : -32768 ≤ n ∧ n < 32768) (k : ax_J sh y cc mL ret dp P (pc + 3) ls (.inl n :: st) M) : ax_J sh y cc mL ret dp P pc ls st M := by
  refine ax_step (fun _ _ h => ax_cc (v := .inl n) (show ax_r n from ⟨by omega, by omega⟩) h) (fun X _ _ _ _ _ w => lv_sipush X.1 X.2.1 hd ?_ w) k
  have h1 : (Int16.ofInt n).toInt = n := Int16.toInt_ofInt_of_le (by omega) (by omega)
  apply Int32.toInt_inj.mp
  rw [ax_i32 ⟨by omega, by omega⟩, Int16.toInt_toInt32, h1]
theorem ax_ldc {idx : Nat} {n : Int} (hd : decode cc pc = .ok (.ldc idx, 2)) (hc : Cond.constant y.cls idx (Int32.ofInt n) ∈ ax_Ts) (hv : ax_r n) (k : ax_J sh y cc mL ret dp P (pc + 2) ls (.inl n :: st) M) : ax_J sh y cc mL ret dp P pc ls st M :=
  ax_step (fun _ _ h => ax_cc (v := .inl n) hv h) (fun X _ _ _ _ _ w => lv_ldc X.1 X.2.1 X.2.2.2.2.2.1 (X.2.2.2.2.2.2.1 _ hc) hd w) k
theorem ax_ldc2 {idx : Nat} {n : Int} (hd : decode cc pc = .ok (.ldc2_w idx, 3)) (hc : Cond.constantLong y.cls idx (Int64.ofInt n) ∈ ax_Ts) (k : ax_J sh y cc mL ret dp P (pc + 3) ls (.inr (.inl n) :: st) M) : ax_J sh y cc mL ret dp P pc ls st M :=
  ax_step (fun _ _ h => ax_cc (v := .inr (.inl n)) trivial h) (fun X _ _ _ _ _ w => lv_ldc2 X.1 X.2.1 X.2.2.2.2.2.1 (X.2.2.2.2.2.2.1 _ hc) hd w) k
theorem ax_lconst {n : Fin 2} {i : Int} (hd : decode cc pc = .ok (.lconst n, 1)) (hi : i = (n.val : Int)) (k : ax_J sh y cc mL ret dp P (pc + 1) ls (.inr (.inl i) :: st) M) : ax_J sh y cc mL ret dp P pc ls st M := by
  subst hi
  exact ax_step (fun _ _ h => ax_cc (v := .inr (.inl (n.val : Int))) trivial h) (fun X _ _ _ _ _ w => lv_lconst X.1 X.2.1 hd rfl w) k
theorem ax_lat {ad : Nat → Nat} {lsA : Array Slot} {j i : Nat} {v : ax_V} (h : lv_has lsA mL (ax_l ad ls)) (hj : ls[j]? = some (i, v)) : lsA[i]? = some (.val (ax_c ad v)) :=
  h.2.2 (i, ax_c ad v) (List.mem_map.mpr ⟨(i, v), List.mem_of_getElem? hj, rfl⟩)
theorem ax_lvr {j i : Nat} {v : ax_V} (h : ∀ q ∈ ls, ax_vr q.2) (hj : ls[j]? = some (i, v)) : ax_vr v := h _ (List.mem_of_getElem? hj)
theorem ax_iloadn {q : Fin 4} {i : Nat} {x : Int} (j : Nat) (hd : decode cc pc = .ok (.iload_n q, 1)) (hi : q.val = i) (hj : ls[j]? = some (i, .inl x)) (k : ax_J sh y cc mL ret dp P (pc + 1) ls (.inl x :: st) M) : ax_J sh y cc mL ret dp P pc ls st M :=
  ax_step (fun _ hl h => ax_cc (ax_lvr hl hj) h) (fun X _ _ _ _ hl w => lv_iload_n X.1 X.2.1 hd hi (ax_lat hl hj) w) k
theorem ax_iload {i : Nat} {x : Int} (j : Nat) (hd : decode cc pc = .ok (.iload i, 2)) (hj : ls[j]? = some (i, .inl x)) (k : ax_J sh y cc mL ret dp P (pc + 2) ls (.inl x :: st) M) : ax_J sh y cc mL ret dp P pc ls st M :=
  ax_step (fun _ hl h => ax_cc (ax_lvr hl hj) h) (fun X _ _ _ _ hl w => lv_iload X.1 X.2.1 hd (ax_lat hl hj) w) k
theorem ax_lloadn {q : Fin 4} {i : Nat} {x : Int} (j : Nat) (hd : decode cc pc = .ok (.lload_n q, 1)) (hi : q.val = i) (hj : ls[j]? = some (i, .inr (.inl x))) (k : ax_J sh y cc mL ret dp P (pc + 1) ls (.inr (.inl x) :: st) M) : ax_J sh y cc mL ret dp P pc ls st M :=
  ax_step (fun _ hl h => ax_cc (ax_lvr hl hj) h) (fun X _ _ _ _ hl w => lv_lload_n X.1 X.2.1 hd hi (ax_lat hl hj) w) k
theorem ax_lload {i : Nat} {x : Int} (j : Nat) (hd : decode cc pc = .ok (.lload i, 2)) (hj : ls[j]? = some (i, .inr (.inl x))) (k : ax_J sh y cc mL ret dp P (pc + 2) ls (.inr (.inl x) :: st) M) : ax_J sh y cc mL ret dp P pc ls st M :=
  ax_step (fun _ hl h => ax_cc (ax_lvr hl hj) h) (fun X _ _ _ _ hl w => lv_lload X.1 X.2.1 hd (ax_lat hl hj) w) k
theorem ax_aloadn {q : Fin 4} {i : Nat} {x : Nat} (j : Nat) (hd : decode cc pc = .ok (.aload_n q, 1)) (hi : q.val = i) (hj : ls[j]? = some (i, .inr (.inr x))) (k : ax_J sh y cc mL ret dp P (pc + 1) ls (.inr (.inr x) :: st) M) : ax_J sh y cc mL ret dp P pc ls st M :=
  ax_step (fun _ hl h => ax_cc (ax_lvr hl hj) h) (fun X _ _ _ _ hl w => lv_aload_n X.1 X.2.1 hd hi (ax_lat hl hj) w) k
theorem ax_aload {i : Nat} {x : Nat} (j : Nat) (hd : decode cc pc = .ok (.aload i, 2)) (hj : ls[j]? = some (i, .inr (.inr x))) (k : ax_J sh y cc mL ret dp P (pc + 2) ls (.inr (.inr x) :: st) M) : ax_J sh y cc mL ret dp P pc ls st M :=
  ax_step (fun _ hl h => ax_cc (ax_lvr hl hj) h) (fun X _ _ _ _ hl w => lv_aload X.1 X.2.1 hd (ax_lat hl hj) w) k
theorem ax_cat (ad : Nat → Nat) (v : ax_V) : ((ax_c ad v).category == 2) = ax_lg v := by
  rcases v with i | i | k <;> rfl
theorem ax_fil (ad : Nat → Nat) (i : Nat) (v : ax_V) : (i, ax_c ad v) :: (ax_l ad ls).filter (fun q => !(q.1 == i) && !(q.1 + 1 == i && q.2.category == 2)) = ax_l ad ((i, v) :: ls.filter (fun q => !(q.1 == i) && !(q.1 + 1 == i && ax_lg q.2))) := by
  simp only [ax_l, List.map_cons, List.filter_map]
  congr 3
  funext q
  simp only [Function.comp, ax_cat]
theorem ax_fil2 (ad : Nat → Nat) (i : Nat) (v : ax_V) : (i, ax_c ad v) :: (ax_l ad ls).filter (fun q => !(q.1 == i) && (!(q.1 == i + 1) && !(q.1 + 1 == i && q.2.category == 2))) = ax_l ad ((i, v) :: ls.filter (fun q => !(q.1 == i) && (!(q.1 == i + 1) && !(q.1 + 1 == i && ax_lg q.2)))) := by
  simp only [ax_l, List.map_cons, List.filter_map]
  congr 3
  funext q
  simp only [Function.comp, ax_cat]
theorem ax_lsr {i : Nat} {v : ax_V} {f : Nat × ax_V → Bool} (hv : ax_vr v) (h : ∀ q ∈ ls, ax_vr q.2) : ∀ q ∈ ((i, v) :: ls.filter f), ax_vr q.2 := fun q hq => (List.mem_cons.mp hq).elim (fun e => by rw [e]; exact hv) (fun h2 => h q (List.mem_filter.mp h2).1)
theorem ax_istoren {q : Fin 4} {i : Nat} {x : Int} {ls' : List (Nat × ax_V)} (hd : decode cc pc = .ok (.istore_n q, 1)) (hi : q.val = i) (hm : i < mL) (hl' : (i, .inl x) :: ls.filter (fun q => !(q.1 == i) && !(q.1 + 1 == i && ax_lg q.2)) = ls') (k : ax_J sh y cc mL ret dp P (pc + 1) ls' st M) : ax_J sh y cc mL ret dp P pc ls (.inl x :: st) M := by
  intro p l e s m args below meth c D ca ad X hn hs hq H locs lsA hP hS hl
  refine lv_istore_n X.1 X.2.1 hd hi hl hm (ax_fil ad i (.inl x)) (fun ls2 h2 => ?_)
  rw [hl'] at h2
  exact k p l e s m args below meth c D ca ad X hn (ax_ct hs) (hl' ▸ ax_lsr (hs _ List.mem_cons_self) hq) H locs ls2 hP hS h2
theorem ax_istore {i : Nat} {x : Int} {ls' : List (Nat × ax_V)} (hd : decode cc pc = .ok (.istore i, 2)) (hm : i < mL) (hl' : (i, .inl x) :: ls.filter (fun q => !(q.1 == i) && !(q.1 + 1 == i && ax_lg q.2)) = ls') (k : ax_J sh y cc mL ret dp P (pc + 2) ls' st M) : ax_J sh y cc mL ret dp P pc ls (.inl x :: st) M := by
  intro p l e s m args below meth c D ca ad X hn hs hq H locs lsA hP hS hl
  refine lv_istore X.1 X.2.1 hd hl hm (ax_fil ad i (.inl x)) (fun ls2 h2 => ?_)
  rw [hl'] at h2
  exact k p l e s m args below meth c D ca ad X hn (ax_ct hs) (hl' ▸ ax_lsr (hs _ List.mem_cons_self) hq) H locs ls2 hP hS h2
theorem ax_lstoren {q : Fin 4} {i : Nat} {x : Int} {ls' : List (Nat × ax_V)} (hd : decode cc pc = .ok (.lstore_n q, 1)) (hi : q.val = i) (hm : i + 1 < mL) (hl' : (i, .inr (.inl x)) :: ls.filter (fun q => !(q.1 == i) && (!(q.1 == i + 1) && !(q.1 + 1 == i && ax_lg q.2))) = ls') (k : ax_J sh y cc mL ret dp P (pc + 1) ls' st M) : ax_J sh y cc mL ret dp P pc ls (.inr (.inl x) :: st) M := by
  intro p l e s m args below meth c D ca ad X hn hs hq H locs lsA hP hS hl
  refine lv_lstore_n X.1 X.2.1 hd hi hl hm (ax_fil2 ad i (.inr (.inl x))) (fun ls2 h2 => ?_)
  rw [hl'] at h2
  exact k p l e s m args below meth c D ca ad X hn (ax_ct hs) (hl' ▸ ax_lsr (hs _ List.mem_cons_self) hq) H locs ls2 hP hS h2
theorem ax_lstore {i : Nat} {x : Int} {ls' : List (Nat × ax_V)} (hd : decode cc pc = .ok (.lstore i, 2)) (hm : i + 1 < mL) (hl' : (i, .inr (.inl x)) :: ls.filter (fun q => !(q.1 == i) && (!(q.1 == i + 1) && !(q.1 + 1 == i && ax_lg q.2))) = ls') (k : ax_J sh y cc mL ret dp P (pc + 2) ls' st M) : ax_J sh y cc mL ret dp P pc ls (.inr (.inl x) :: st) M := by
  intro p l e s m args below meth c D ca ad X hn hs hq H locs lsA hP hS hl
  refine lv_lstore X.1 X.2.1 hd hl hm (ax_fil2 ad i (.inr (.inl x))) (fun ls2 h2 => ?_)
  rw [hl'] at h2
  exact k p l e s m args below meth c D ca ad X hn (ax_ct hs) (hl' ▸ ax_lsr (hs _ List.mem_cons_self) hq) H locs ls2 hP hS h2
theorem ax_iinc {i j : Nat} {n : Int} {x : Int} {ls' : List (Nat × ax_V)} (hd : decode cc pc = .ok (.iinc i n, 3)) (hj : ls[j]? = some (i, .inl x)) (hm : i < mL) (hr : ax_r (x + n)) (hl' : (i, .inl (x + n)) :: ls.filter (fun q => !(q.1 == i) && !(q.1 + 1 == i && ax_lg q.2)) = ls') (k : ax_J sh y cc mL ret dp P (pc + 3) ls' st M) : ax_J sh y cc mL ret dp P pc ls st M := by
  intro p l e s m args below meth c D ca ad X hn hs hq H locs lsA hP hS hl
  have hk : (ax_l ad ls)[j]? = some (i, .int (Int32.ofInt x)) := by
    simp only [ax_l, List.getElem?_map, hj]
    rfl
  refine lv_iinc (v := Int32.ofInt (x + n)) X.1 X.2.1 hd hl hk (by rw [Int32.ofInt_add]) hm (ax_fil ad i (.inl (x + n))) (fun ls2 h2 => ?_)
  rw [hl'] at h2
  exact k p l e s m args below meth c D ca ad X hn hs (hl' ▸ ax_lsr hr hq) H locs ls2 hP hS h2
end AXJ
