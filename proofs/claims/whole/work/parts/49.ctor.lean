/-! constructors: a layer of their own, over worlds that grow -/
def cx_n9 : Cond := .methodLinkNest "RowsIntoPlane" 9 ⟨"RowsIntoPlane$Cabin", "<init>", "()V"⟩ "RowsIntoPlane"
def cx_n18 : Cond := .methodLinkNest "RowsIntoPlane" 18 ⟨"RowsIntoPlane$People", "<init>", "()V"⟩ "RowsIntoPlane"
def cx_n25 : Cond := .methodLinkNest "RowsIntoPlane" 25 ⟨"RowsIntoPlane$Image", "<init>", "()V"⟩ "RowsIntoPlane"
def cx_n32 : Cond := .methodLinkNest "RowsIntoPlane" 32 ⟨"RowsIntoPlane$Page", "<init>", "()V"⟩ "RowsIntoPlane"
def cx_n45 : Cond := .methodLinkNest "RowsIntoPlane" 45 ⟨"RowsIntoPlane$Line", "<init>", "()V"⟩ "RowsIntoPlane"
def cx_n53 : Cond := .methodLinkNest "RowsIntoPlane" 53 ⟨"RowsIntoPlane$Call", "<init>", "()V"⟩ "RowsIntoPlane"
/-- words that are no good words: arrays that have been made, constructors of nest mates -/
def cx_N (U : State) : Prop := mn_A U ∧ va_AO "RowsIntoPlane$Call" U ∧ va_Nw cx_n9 U ∧ va_Nw cx_n18 U ∧ va_Nw cx_n25 U ∧ va_Nw cx_n32 U ∧ va_Nw cx_n45 U ∧ va_Nw cx_n53 U
theorem cx_N.warm {s U : State} (hW : s.WarmedH U.vm) (h : cx_N s) : cx_N U := by
  obtain ⟨h1, h2, h3, h4, h5, h6, h7, h8⟩ := h
  exact ⟨h1.moved hW.alike, va_AO.moved hW.alike h2, va_Nw.warmM hW h3, va_Nw.warmM hW h4, va_Nw.warmM hW h5, va_Nw.warmM hW h6, va_Nw.warmM hW h7, va_Nw.warmM hW h8⟩
theorem cx_N.same {u U : State} (he : u.vm = U.vm) (h : cx_N u) : cx_N U := by
  obtain ⟨h1, h2, h3, h4, h5, h6, h7, h8⟩ := h
  have ha : u.vm.Alike U.vm := he ▸ Vm.Alike.refl u.vm
  exact ⟨h1.moved ha, va_AO.moved ha h2, va_Nw.same rfl he h3, va_Nw.same rfl he h4, va_Nw.same rfl he h5, va_Nw.same rfl he h6, va_Nw.same rfl he h7, va_Nw.same rfl he h8⟩
def cx_R (dp mc ms : Nat) : Room := { frames := dp, cells := mc, slots := ms, locals := 36 * dp }
/-- the references of an array, by the places L of the addresses u -/
def cx_rf (L : List Nat) (u : Nat → Nat) : Nat → Option Nat := fun j => (L[j]?).map u
theorem cx_rf_eq {L1 L2 : List Nat} {u q : Nat → Nat} (h : L1.map u = L2.map q) : cx_rf L1 u = cx_rf L2 q := by
  funext j
  unfold cx_rf
  rw [← List.getElem?_map, ← List.getElem?_map, h]
abbrev cx_a (ca : Nat → ClassId) (t n : Nat) : va_E := .inl (ca t, n, .inl (fun _ => Int32.ofInt 0))
abbrev cx_q (ca : Nat → ClassId) (t n : Nat) (f : Nat → Option Nat) : va_E := .inl (ca t, n, .inr (.inr (.inr (.inr f))))
def cx_Q (D : va_G) (F : (Nat → Nat) → va_W) (h0 : Nat) (A : Nat → Prop) : Array Value → State → Outcome → State → Prop := va_Qv (fun u : Nat → Nat => u 0 = h0) (fun u t => va_P D ax_cl (F u) t.heap ∧ va_D A (F u)) A
def cx_Pre (D : va_G) (ca : Nat → ClassId) (sz : Nat) (ws0 : va_W) (U : State) : Prop := U.heap.size = sz ∧ va_P D ax_cl ws0 U.heap ∧ va_K D ax_cl (ax_tys ca) U ∧ cx_N U ∧ va_D (fun _ => True) ws0
/-- a constructor's contract: the cell h0 (with ws0) becomes the cells F u, u 0 = h0 -/
def cx_C (D : va_G) (ca : Nat → ClassId) (y : MethodName) (cc : ByteArray) (mL dp mc ms : Nat) (as : List Value) (h0 : Nat) (ws0 : va_W) (F : (Nat → Nat) → va_W) : Prop :=
  ∀ (l : Launch) (sz : Nat), Met l y (ax_ws y cc mL none) (cx_R dp mc ms) (va_Pc as (cx_Pre D ca sz ws0)) (cx_Q D F h0 (va_A ws0 sz)) mc ms (va_A ws0 sz)
def cx_X (y : MethodName) (cc : ByteArray) (mL : Nat) (p : Program) (s : State) (m : MethodId) (args : Array Value) (meth : Method) (c : Code) (D : va_G) (ca : Nat → ClassId) (A : Nat → Prop) : Prop :=
  p.tables.exec = Jvm.exec ∧ c.code = cc ∧ meth.sig.returnType = none ∧ c.maxLocals = mL ∧ meth.locks = false ∧ s.vm.findClass y.cls = some m.cls ∧ (∀ w ∈ ax_Ts, w.before args s = true) ∧ va_K D ax_cl (ax_tys ca) s ∧ meth.name = "<init>" ∧ cx_N s ∧ (∀ q : Nat, s.heap.size ≤ q → A q)
def cx_J (D : va_G) (ca : Nat → ClassId) (y : MethodName) (cc : ByteArray) (mL dp mc ms : Nat) (h0 : Nat) (F : (Nat → Nat) → va_W) (pc : Nat) (ls : List (Nat × Value)) (st : List Value) (ws : va_W) (cells slots : Nat) : Prop :=
  ∀ (p : Program) (l : Launch) (e : Env) (s : State) (m : MethodId) (args : Array Value) (below : List Frame) (meth : Method) (c : Code) (A : Nat → Prop), cx_X y cc mL p s m args meth c D ca A →
    ∀ (H : Heap) (locs : List Loc) (lsA : Array Slot), va_P D ax_cl ws H → va_D A ws → va_S A s.heap H locs → lv_has lsA mL ls →
    W p l e (cx_R dp mc ms) s m args below meth c H locs cells slots (MQ below (cx_Q D F h0 A) args s mc ms A) (F0 m pc lsA st)
section CX
variable {D : va_G} {ca : Nat → ClassId} {y : MethodName} {cc : ByteArray} {mL dp mc ms h0 : Nat} {F : (Nat → Nat) → va_W} {pc : Nat} {ls : List (Nat × Value)} {st : List Value} {ws : va_W} {cells slots : Nat}
theorem cx_ofJ {as : List Value} {ws0 : va_W} (hy : plainName y.cls = true) (hyn : y.name = "<init>") (hz : (lg_sl as).length ≤ mL) (k : cx_J D ca y cc mL dp mc ms h0 F 0 (lv_args 0 as) [] ws0 0 0) : cx_C D ca y cc mL dp mc ms as h0 ws0 F := by
  intro l sz
  refine Met.ofW (cc := cc) (maxL := mL) (ret := none) (ws' := ax_Ts) hy rfl ?_
  intro p e s m args below meth c s₁ B hml hv
  obtain ⟨rfl, rfl, hP, hK, hN, hD0⟩ := hv
  have hts := atoms_spec (ws := ax_ws y cc mL none) B.pre
  have hown : s.vm.findClass y.cls = some m.cls := findClass_of_methodNamed B.named
  have hin : meth.name = "<init>" := (name_of_methodNamed B.named B.method).1.trans hyn
  have hD := hD0.self (sz := s.heap.size)
  have hl := lv_entry as (n := mL) hz
  rw [lg_entry_eq]
  exact k p l e s m _ below meth c _ ⟨B.exec, B.bytes, B.returns, hml, B.notSynchronized, hown, fun w hw => hts w (List.mem_cons_of_mem _ hw), hK, hin, hN, fun q h => Or.inr h⟩ s.heap [] _ hP hD va_S.rf hl
theorem cx_aload {q : Fin 4} {i a : Nat} (j : Nat) (hd : decode cc pc = .ok (.aload_n q, 1)) (hi : q.val = i) (hj : ls[j]? = some (i, .ref a)) (k : cx_J D ca y cc mL dp mc ms h0 F (pc + 1) ls (.ref a :: st) ws cells slots) : cx_J D ca y cc mL dp mc ms h0 F pc ls st ws cells slots := by
  intro p l e s m args below meth c A X H locs lsA hP hD hS hl
  exact lv_aload_n X.1 X.2.1 hd hi (lv_at hl j hj) (k p l e s m args below meth c A X H locs lsA hP hD hS hl)
theorem cx_iload {q : Fin 4} {i : Nat} {a : Int32} (j : Nat) (hd : decode cc pc = .ok (.iload_n q, 1)) (hi : q.val = i) (hj : ls[j]? = some (i, .int a)) (k : cx_J D ca y cc mL dp mc ms h0 F (pc + 1) ls (.int a :: st) ws cells slots) : cx_J D ca y cc mL dp mc ms h0 F pc ls st ws cells slots := by
  intro p l e s m args below meth c A X H locs lsA hP hD hS hl
  exact lv_iload_n X.1 X.2.1 hd hi (lv_at hl j hj) (k p l e s m args below meth c A X H locs lsA hP hD hS hl)
theorem cx_iconst {n : Int} {v : Int32} (hd : decode cc pc = .ok (.iconst n, 1)) (hv : Int32.ofInt n = v) (k : cx_J D ca y cc mL dp mc ms h0 F (pc + 1) ls (.int v :: st) ws cells slots) : cx_J D ca y cc mL dp mc ms h0 F pc ls st ws cells slots := by
  intro p l e s m args below meth c A X H locs lsA hP hD hS hl
  exact lv_iconst X.1 X.2.1 hd hv (k p l e s m args below meth c A X H locs lsA hP hD hS hl)
theorem cx_bipush {n : Int} {v : Int32} (hd : decode cc pc = .ok (.bipush n, 2)) (hv : (Int8.ofInt n).toInt32 = v) (k : cx_J D ca y cc mL dp mc ms h0 F (pc + 2) ls (.int v :: st) ws cells slots) : cx_J D ca y cc mL dp mc ms h0 F pc ls st ws cells slots := by
  intro p l e s m args below meth c A X H locs lsA hP hD hS hl
  exact lv_bipush X.1 X.2.1 hd hv (k p l e s m args below meth c A X H locs lsA hP hD hS hl)
theorem cx_dup {a : Nat} (hd : decode cc pc = .ok (.dup, 1)) (k : cx_J D ca y cc mL dp mc ms h0 F (pc + 1) ls (.ref a :: .ref a :: st) ws cells slots) : cx_J D ca y cc mL dp mc ms h0 F pc ls (.ref a :: st) ws cells slots := by
  intro p l e s m args below meth c A X H locs lsA hP hD hS hl
  exact lv_dup X.1 X.2.1 hd rfl (k p l e s m args below meth c A X H locs lsA hP hD hS hl)
theorem cx_goto {off : Int} {tgt : Nat} (hd : decode cc pc = .ok (.goto off, 3)) (ht : (pc : Int) + off = (tgt : Int)) (k : cx_J D ca y cc mL dp mc ms h0 F tgt ls st ws cells slots) : cx_J D ca y cc mL dp mc ms h0 F pc ls st ws cells slots := by
  intro p l e s m args below meth c A X H locs lsA hP hD hS hl
  exact lv_goto X.1 X.2.1 hd ht (k p l e s m args below meth c A X H locs lsA hP hD hS hl)
theorem cx_istore {q : Fin 4} {i : Nat} {x : Int32} {ls' : List (Nat × Value)} (hd : decode cc pc = .ok (.istore_n q, 1)) (hi : q.val = i) (hm : i < mL) (hl' : (i, Value.int x) :: ls.filter (fun q => !(q.1 == i) && !(q.1 + 1 == i && q.2.category == 2)) = ls') (k : cx_J D ca y cc mL dp mc ms h0 F (pc + 1) ls' st ws cells slots) : cx_J D ca y cc mL dp mc ms h0 F pc ls (.int x :: st) ws cells slots := by
  intro p l e s m args below meth c A X H locs lsA hP hD hS hl
  exact lv_istore_n X.1 X.2.1 hd hi hl hm hl' (fun ls2 h2 => k p l e s m args below meth c A X H locs ls2 hP hD hS h2)
theorem cx_iinc {i j : Nat} {n : Int} {x v : Int32} {ls' : List (Nat × Value)} (hd : decode cc pc = .ok (.iinc i n, 3)) (hj : ls[j]? = some (i, .int x)) (hv : x + Int32.ofInt n = v) (hm : i < mL) (hl' : (i, Value.int v) :: ls.filter (fun q => !(q.1 == i) && !(q.1 + 1 == i && q.2.category == 2)) = ls') (k : cx_J D ca y cc mL dp mc ms h0 F (pc + 3) ls' st ws cells slots) : cx_J D ca y cc mL dp mc ms h0 F pc ls st ws cells slots := by
  intro p l e s m args below meth c A X H locs lsA hP hD hS hl
  exact lv_iinc X.1 X.2.1 hd hl hj hv hm hl' (fun ls2 h2 => k p l e s m args below meth c A X H locs ls2 hP hD hS h2)
/-- a comparison whose outcome is known -/
theorem cx_geT {a b : Int32} {off : Int} {tgt : Nat} (hd : decode cc pc = .ok (.if_icmp .ge off, 3)) (ht : (pc : Int) + off = (tgt : Int)) (h : b ≤ a) (k : cx_J D ca y cc mL dp mc ms h0 F tgt ls st ws cells slots) : cx_J D ca y cc mL dp mc ms h0 F pc ls (.int b :: .int a :: st) ws cells slots := by
  intro p l e s m args below meth c A X H locs lsA hP hD hS hl
  exact lv_icmp_ge X.1 X.2.1 hd ht (fun _ => k p l e s m args below meth c A X H locs lsA hP hD hS hl) (fun q => absurd h q)
theorem cx_geF {a b : Int32} {off : Int} {tgt : Nat} (hd : decode cc pc = .ok (.if_icmp .ge off, 3)) (ht : (pc : Int) + off = (tgt : Int)) (h : ¬ b ≤ a) (k : cx_J D ca y cc mL dp mc ms h0 F (pc + 3) ls st ws cells slots) : cx_J D ca y cc mL dp mc ms h0 F pc ls (.int b :: .int a :: st) ws cells slots := by
  intro p l e s m args below meth c A X H locs lsA hP hD hS hl
  exact lv_icmp_ge X.1 X.2.1 hd ht (fun q => absurd q h) (fun _ => k p l e s m args below meth c A X H locs lsA hP hD hS hl)
theorem cx_o1 : Cond.instanceMethod objectInit ∈ ax_Ts := ax_mem 81 (by decide +kernel) (by decide +kernel)
theorem cx_o2 : Cond.code objectInit ⟨#[0xb1]⟩ 1 none ∈ ax_Ts := ax_mem 82 (by decide +kernel) (by decide +kernel)
theorem cx_obj {a idx : Nat} (hd : decode cc pc = .ok (.invokespecial idx, 3)) (hl0 : Cond.methodLink y.cls idx objectInit ∈ ax_Ts) (hdp : 1 ≤ dp) (k : cx_J D ca y cc mL dp mc ms h0 F (pc + 3) ls [] ws cells slots) : cx_J D ca y cc mL dp mc ms h0 F pc ls [.ref a] ws cells slots := by
  intro p l e s m args below meth c A X H locs lsA hP hD hS hl
  have hts := X.2.2.2.2.2.2.1
  refine W.objInit X.1 X.2.1 X.2.2.2.2.2.1 (hts _ hl0) (hts _ cx_o1) (hts _ cx_o2) rfl (by rw [X.2.2.2.1]; exact hl.1) rfl hd hdp (by show 2 * 0 + 0 + 12 ≤ 36 * dp; omega) ?_
  exact k p l e s m args below meth c A X H locs lsA hP hD hS hl
/-- newarray of a primitive type: its class is the one that the worlds know -/
theorem cx_newa {atype : ArrayType} {ty : FieldType} {n : Int32} {N : Nat} (t : Nat) (hd : decode cc pc = .ok (.newarray atype, 2)) (hty : newarray.typeOf atype = ty) (ht : (ax_tys ca)[t]? = some (ca t, ty)) (hp : ty = .int ∨ ty = .char ∨ ty = .boolean) (harr : Cond.arrayClass ty ∈ ax_Ts) (hn0 : ¬ n < 0) (hn : n.toNatClampNeg = N) (hN : N ≤ 100) (hc : cells + 1 ≤ mc) (hs : slots + N ≤ ms)
    (k : ∀ q : Nat, cx_J D ca y cc mL dp mc ms h0 F (pc + 2) ls (.ref q :: st) (ws ++ [(q, cx_a ca t N)]) (cells + 1) (slots + N)) : cx_J D ca y cc mL dp mc ms h0 F pc ls (.int n :: st) ws cells slots := by
  intro p l e s m args below meth c A X H locs lsA hP hD hS hl
  have hts := X.2.2.2.2.2.2.1
  have hK := X.2.2.2.2.2.2.2.1
  have hdv : defaultValue ty = .int (Int32.ofInt 0) := by rcases hp with z | z | z <;> subst z <;> rfl
  have hcb : N * componentBytes ty ≤ 536870912 := by
    have : componentBytes ty ≤ 4 := by rcases hp with z | z | z <;> subst z <;> decide
    have := Nat.mul_le_mul hN this
    omega
  subst hty
  refine va_newa (a0 := (N, .inl (fun _ => Int32.ofInt 0))) X.1 X.2.1 (hts _ harr) rfl hK hP hD hS X.2.2.2.2.2.2.2.2.2.2 (fun cA => by rw [vp_cell_i, hdv]) hn0 hn hcb hc hs hd (fun q cA H1 hK1 hP1 hD1 hS1 => ?_)
  have e : cA = ca t := by
    have h1 := (hK1.2 5 (cA, newarray.typeOf atype) rfl).2
    have h2 := (hK.2 t _ ht).2
    generalize newarray.typeOf atype = ty at h1 h2 hp
    rcases hp with z | z | z <;> subst z <;> exact Option.some.inj (Eq.trans (Eq.symm h1) h2)
  subst e
  exact k q p l e s m args below meth c A X H1 locs lsA hP1 hD1 hS1 hl
/-- the entry idx of own's file is its own final field j, a reference -/
def cx_FP (own : String) (idx ci j : Nat) : Prop := ∃ r : vw_C, ax_cl[ci]? = some r ∧ j < r.2.2 ∧ Cond.fieldLink own idx (r.2.1 j).1 (r.2.1 j).2.1 (r.2.1 j).2.2.1 ∈ ax_Ts ∧ (∀ w ∈ u_ws r.1 r.2.1 r.2.2, w ∈ ax_Ts) ∧ (r.2.1 j).2.2.2 = true ∧ (r.2.1 j).1 = own ∧ (∃ ty : FieldType, parseFieldDescriptor (r.2.1 j).2.2.1 = some ty ∧ ty.isReference = true) ∧ (∃ ty0 : Nat → FieldType, ∀ k, k < r.2.2 → parseFieldDescriptor (r.2.1 k).2.2.1 = some (ty0 k)) ∧ (∀ a, a < r.2.2 → ∀ b, b < r.2.2 → a ≠ b → (r.2.1 a).2.1 ≠ (r.2.1 b).2.1)
theorem cx_putF {idx ci j v a : Nat} {fs : List Value} {ws' : va_W} (q0 : Nat) (hd : decode cc pc = .ok (.putfield idx, 3)) (hl0 : cx_FP y.cls idx ci j) (he : ws[q0]? = some (a, .inr (ci, fs))) (hj : j < fs.length) (hw : ws.set q0 (a, .inr (ci, fs.set j (.ref v))) = ws') (k : cx_J D ca y cc mL dp mc ms h0 F (pc + 3) ls st ws' cells slots) : cx_J D ca y cc mL dp mc ms h0 F pc ls (.ref v :: .ref a :: st) ws cells slots := by
  intro p l e s m args below meth c A X H locs lsA hP hD hS hl
  have hts := X.2.2.2.2.2.2.1
  obtain ⟨r, h1, h2, h3, h4, h5, h6, ⟨ty, h7, h7'⟩, ⟨ty0, h8⟩, h9⟩ := hl0
  refine va_putF (D := D) (ci := ci) (C := r.1) (T := r.2.1) (N := r.2.2) (v := .ref v) (ty := ty) X.1 X.2.1 hts h4 ty0 h8 h9 X.2.2.2.2.2.1 X.2.2.2.2.2.2.2.1 hP hD hS q0 he h1 j h2 (hts _ h3) (fun _ q => q) h5 X.2.2.2.2.2.2.2.2.1 h6 h7 (by cases ty <;> first | rfl | cases h7') (by cases ty <;> first | rfl | cases h7') hj hd (fun H1 locs1 hP1 hD1 hS1 => ?_)
  rw [hw] at hP1 hD1
  exact k p l e s m args below meth c A X H1 locs1 lsA hP1 hD1 hS1 hl
theorem cx_puti {idx ci j a : Nat} {v : Int32} {fs : List Value} {ws' : va_W} (q0 : Nat) (hd : decode cc pc = .ok (.putfield idx, 3)) (hl0 : ax_FP y.cls idx ci j .int) (he : ws[q0]? = some (a, .inr (ci, fs))) (hj : j < fs.length) (hw : ws.set q0 (a, .inr (ci, fs.set j (.int v))) = ws') (k : cx_J D ca y cc mL dp mc ms h0 F (pc + 3) ls st ws' cells slots) : cx_J D ca y cc mL dp mc ms h0 F pc ls (.int v :: .ref a :: st) ws cells slots := by
  intro p l e s m args below meth c A X H locs lsA hP hD hS hl
  have hts := X.2.2.2.2.2.2.1
  obtain ⟨r, h1, h2, h3, h4, h5, h6, ⟨ty0, h7⟩, h8⟩ := hl0
  refine va_put (D := D) (ci := ci) (C := r.1) (T := r.2.1) (N := r.2.2) (v := .int v) (ty := .int) X.1 X.2.1 hts h4 ty0 h7 h8 X.2.2.2.2.2.1 X.2.2.2.2.2.2.2.1 hP hD hS q0 he h1 j h2 (hts _ h3) (fun _ q => q) h5 h6 rfl rfl hj hd (fun H1 locs1 hP1 hD1 hS1 => ?_)
  rw [hw] at hP1 hD1
  exact k p l e s m args below meth c A X H1 locs1 lsA hP1 hD1 hS1 hl
theorem cx_get {idx ci j a : Nat} {v : Value} {fs : List Value} (q0 : Nat) (hd : decode cc pc = .ok (.getfield idx, 3)) (hl0 : ax_FL y.cls idx ci j) (he : ws[q0]? = some (a, .inr (ci, fs))) (hv : fs[j]? = some v) (k : cx_J D ca y cc mL dp mc ms h0 F (pc + 3) ls (v :: st) ws cells slots) : cx_J D ca y cc mL dp mc ms h0 F pc ls (.ref a :: st) ws cells slots := by
  intro p l e s m args below meth c A X H locs lsA hP hD hS hl
  have hts := X.2.2.2.2.2.2.1
  obtain ⟨r, h1, h2, h3, h4⟩ := hl0
  exact va_get (D := D) (ci := ci) (C := r.1) (T := r.2.1) (N := r.2.2) (v := v) X.1 X.2.1 hts h4 X.2.2.2.2.2.1 X.2.2.2.2.2.2.2.1 hP q0 he h1 j h2 (hts _ h3) (fun _ q => q) hv hd (k p l e s m args below meth c A X H locs lsA hP hD hS hl)
/-- what the tables say of 'new': the entry idx of own's file is the class ci, whose fields begin as fs -/
def cx_NW (own : String) (idx ci N : Nat) (fs : List Value) : Prop := ∃ r : vw_C, ax_cl[ci]? = some r ∧ r.2.2 = N ∧ Cond.classLink own idx r.1 ∈ ax_Ts ∧ Cond.instantiable r.1 N ∈ ax_Ts ∧ Cond.initialized r.1 ∈ ax_Ts ∧ (∀ w ∈ u_ws r.1 r.2.1 r.2.2, w ∈ ax_Ts) ∧ ∃ ty : Nat → FieldType, (∀ k, k < r.2.2 → parseFieldDescriptor (r.2.1 k).2.2.1 = some (ty k)) ∧ ∀ j, j < r.2.2 → defaultValue (ty j) = vp_V fs j
theorem cx_new {idx ci N : Nat} {fs : List Value} (hd : decode cc pc = .ok (.new idx, 3)) (hl0 : cx_NW y.cls idx ci N fs) (hc : cells + 1 ≤ mc) (hs : slots + N ≤ ms) (k : ∀ q : Nat, cx_J D ca y cc mL dp mc ms h0 F (pc + 3) ls (.ref q :: st) (ws ++ [(q, .inr (ci, fs))]) (cells + 1) (slots + N)) : cx_J D ca y cc mL dp mc ms h0 F pc ls st ws cells slots := by
  intro p l e s m args below meth c A X H locs lsA hP hD hS hl
  have hts := X.2.2.2.2.2.2.1
  obtain ⟨r, h1, h2, h3, h4, h5, h6, ty, h7, h8⟩ := hl0
  subst h2
  exact va_new (D := D) (ci := ci) (fs := fs) (C := r.1) (T := r.2.1) (N := r.2.2) X.1 X.2.1 hts h6 ty h7 X.2.2.2.2.2.1 (hts _ h3) (hts _ h4) (hts _ h5) X.2.2.2.2.2.2.2.1 hP hD hS X.2.2.2.2.2.2.2.2.2.2 h1 h8 hc hs hd (fun q H1 hP1 hD1 hS1 => k q p l e s m args below meth c A X H1 locs lsA hP1 hD1 hS1 hl)
/-- an array of references to Calls -/
theorem cx_newq {idx : Nat} (hd : decode cc pc = .ok (.anewarray idx, 3)) (hl0 : Cond.classLink y.cls idx "RowsIntoPlane$Call" ∈ ax_Ts) (hc : cells + 1 ≤ mc) (hs : slots + 8 ≤ ms)
    (k : ∀ q : Nat, cx_J D ca y cc mL dp mc ms h0 F (pc + 3) ls (.ref q :: st) (ws ++ [(q, cx_q ca 3 8 (fun _ => none))]) (cells + 1) (slots + 8)) : cx_J D ca y cc mL dp mc ms h0 F pc ls (.int 8 :: st) ws cells slots := by
  intro p l e s m args below meth c A X H locs lsA hP hD hS hl
  have hts := X.2.2.2.2.2.2.1
  have hK := X.2.2.2.2.2.2.2.1
  refine va_newq (N' := 8) X.1 X.2.1 X.2.2.2.2.2.1 (hts _ hl0) X.2.2.2.2.2.2.2.2.2.1.2.1 hK hP hD hS X.2.2.2.2.2.2.2.2.2.2 (by decide) (by decide) (by decide) hc hs hd (fun q cA H1 hK1 hP1 hD1 hS1 => ?_)
  have e : cA = ca 3 := by
    obtain ⟨_, _, -, -, -, h1⟩ := (hK1.2 5 (cA, .object "RowsIntoPlane$Call") rfl).2
    obtain ⟨_, _, -, -, -, h2⟩ := (hK.2 3 (ca 3, .object "RowsIntoPlane$Call") rfl).2
    exact Option.some.inj (h1.symm.trans h2)
  subst e
  exact k q p l e s m args below meth c A X H1 locs lsA hP1 hD1 hS1 hl
theorem cx_astq {a v : Nat} {i : Int32} {f : Nat → Option Nat} {vs : List Value} {ws' : va_W} (q0 qk : Nat) (hd : decode cc pc = .ok (.aastore, 1)) (ha : ws[q0]? = some (a, cx_q ca 3 8 f)) (hv : ws[qk]? = some (v, .inr (2, vs))) (hin : vp_in i 8) (hw : ws.set q0 (a, cx_q ca 3 8 (va_up f i.toNatClampNeg (some v))) = ws') (k : cx_J D ca y cc mL dp mc ms h0 F (pc + 1) ls st ws' cells slots) : cx_J D ca y cc mL dp mc ms h0 F pc ls (.ref v :: .int i :: .ref a :: st) ws cells slots := by
  intro p l e s m args below meth c A X H locs lsA hP hD hS hl
  refine va_astq (r := (rn_2, tb_2, 3)) X.1 X.2.1 X.2.2.2.2.2.2.2.1 hP hD hS q0 3 qk 2 ha rfl hv rfl hin hd (fun H1 locs1 hP1 hD1 hS1 => ?_)
  rw [show (.inl (ca 3, 8, .inr (.inr (.inr (.inr (va_up f i.toNatClampNeg (some v)))))) : va_E) = cx_q ca 3 8 (va_up f i.toNatClampNeg (some v)) from rfl, hw] at hP1 hD1
  exact k p l e s m args below meth c A X H1 locs1 lsA hP1 hD1 hS1 hl
/-- another writing of the world -/
theorem cx_eqw {ws' : va_W} (h : ws = ws') (k : cx_J D ca y cc mL dp mc ms h0 F pc ls st ws' cells slots) : cx_J D ca y cc mL dp mc ms h0 F pc ls st ws cells slots := h ▸ k
/-- the bins: twelve rows of three -/
def cx_mw (ca : Nat → ClassId) (q : Nat → Nat) : va_W := (q 0, cx_q ca 4 12 (cx_rf [1, 2, 3, 4, 5, 6, 7, 8, 9, 10, 11, 12] q)) :: ((List.range 12).map (fun j => (q (1 + j), cx_a ca 0 3)))
theorem cx_multi {idx : Nat} (hd : decode cc pc = .ok (.multianewarray idx 2, 4)) (hl0 : Cond.classLink y.cls idx "[[I" ∈ ax_Ts) (harr : Cond.arrayClass .int ∈ ax_Ts) (hc : cells + 13 ≤ mc) (hs : slots + 48 ≤ ms)
    (k : ∀ q : Nat → Nat, cx_J D ca y cc mL dp mc ms h0 F (pc + 4) ls (.ref (q 0) :: st) (ws ++ cx_mw ca q) (cells + 13) (slots + 48)) : cx_J D ca y cc mL dp mc ms h0 F pc ls (.int 3 :: .int 12 :: st) ws cells slots := by
  intro p l e s m args below meth c A X H locs lsA hP hD hS hl
  have hts := X.2.2.2.2.2.2.1
  have hK := X.2.2.2.2.2.2.2.1
  have hA := X.2.2.2.2.2.2.2.2.2.2
  refine mn_row X.1 X.2.1 X.2.2.2.2.2.1 (hts _ hl0) X.2.2.2.2.2.2.2.2.2.1.1 (hts _ harr) hc hs hd (fun cA cI kA H1 L f1 f2 f3 f4 hH hL => ?_)
  obtain ⟨z1, z2, z3, z4⟩ := hH
  have e4 : cA = ca 4 := Option.some.inj (f1.symm.trans (show s.vm.findClass "[[I" = some (ca 4) from (hK.2 4 (ca 4, .array .int) rfl).2))
  have e0 : cI = ca 0 := Option.some.inj (f2.symm.trans (show s.vm.findClass "[I" = some (ca 0) from (hK.2 0 (ca 0, .int) rfl).2))
  subst e4
  subst e0
  have hlen : (cx_mw ca (fun i => H.size + i)).length = 13 := by simp [cx_mw]
  have hget : ∀ (j : Nat) (x : Nat × va_E), (cx_mw ca (fun i => H.size + i))[j]? = some x → x.1 = H.size + j ∧ va_at D ax_cl x H1 := by
    intro j x hx
    rcases j with _ | j
    · cases hx
      refine ⟨rfl, ?_⟩
      show H1[H.size + 0]? = some (vp_cell _ _)
      rw [vp_cell_q, Nat.add_zero, z3]
      unfold mn_o arrV
      congr 2
    · have hx2 : ((List.range 12).map (fun j => ((H.size + (1 + j) : Nat), cx_a ca 0 3)))[j]? = some x := hx
      rw [List.getElem?_map] at hx2
      have hj : j < 12 := by
        rcases Nat.lt_or_ge j 12 with h | h
        · exact h
        · rw [List.getElem?_eq_none (by simpa using h)] at hx2; cases hx2
      rw [List.getElem?_range hj] at hx2
      cases hx2
      refine ⟨by show H.size + (1 + j) = H.size + (j + 1); omega, ?_⟩
      show H1[H.size + (1 + j)]? = some (vp_cell _ _)
      rw [vp_cell_i, ← Nat.add_assoc, z4 j hj]
      rfl
  refine k (fun i => H.size + i) p l e s m args below meth c A X H1 (locs ++ L) lsA ((hP.kept (fun j x hx => z2 x.1 ((hP j x hx).lt))).app (fun j x hx => (hget j x hx).2)) (hD.app ⟨fun i j x z hx hz hxz => ?_, fun j x hx => ?_⟩ (fun i j x z hx hz hxz => ?_)) ⟨Nat.le_trans hS.1 (by omega), fun q h1 h2 => (z2 q (Nat.lt_of_lt_of_le h1 hS.1)).trans (hS.2.1 q h1 h2), fun x hx => ?_⟩ hl
  · have h1 := (hget i x hx).1
    have h2 := (hget j z hz).1
    omega
  · rw [(hget j x hx).1]
    exact hA _ (Nat.le_trans hS.1 (Nat.le_add_right _ _))
  · have h1 := (hP i x hx).lt
    have h2 := (hget j z hz).1
    omega
  · rcases List.mem_append.mp hx with h | h
    · exact hS.2.2 x h
    · rw [hL x h]; exact hA _ hS.1
/-- the words of a constructor that is called -/
def cx_W (y2 : MethodName) (cc2 : ByteArray) (mL2 n : Nat) : Prop := Cond.code y2 cc2 mL2 none ∈ ax_Ts ∧ Cond.initialized y2.cls ∈ ax_Ts ∧ Cond.instanceMethod y2 ∈ ax_Ts ∧ y2.name = "<init>" ∧ (y2.cls ≠ "java/lang/invoke/MethodHandle" ∧ y2.cls ≠ "java/lang/invoke/VarHandle" ∧ (parseMethodDescriptor y2.desc).map (fun d => d.parameters.length) = some n) ∧ mL2 ≤ 2
theorem cx_blind {ws0 : va_W} {sz : Nat} (av : List Value) : FrameBlind (va_Pc av (cx_Pre D ca sz ws0)) := by
  intro a U g mk h
  obtain ⟨h1, h2, h3, h4, h5, h6⟩ := h
  exact ⟨h1, h2, h3, va_K.moved (u := U) (U := U.calling g mk a) (Vm.Alike.refl U.vm) h4, cx_N.same rfl h5, h6⟩
theorem cx_back {y2 : MethodName} {mc2 ms2 b : Nat} {e0 : va_E} {F2 : (Nat → Nat) → va_W} {wr : va_W} {st0 : List Value} {a : Array Value} (qb : Nat) (isR : List Nat) (hC : ws[qb]? = some (b, e0)) (hR : isR.map (fun i => ws[i]?) = wr.map some) (hnd : va_nd isR = true) (hdis : ∀ i ∈ isR, i ∉ [qb])
    {p : Program} {l : Launch} {e : Env} {s : State} {m : MethodId} {args : Array Value} {below : List Frame} {meth : Method} {c : Code} {A : Nat → Prop} (X : cx_X y cc mL p s m args meth c D ca A) {H : Heap} {locs : List Loc} {lsA : Array Slot} (hP : va_P D ax_cl ws H) (hD : va_D A ws) (hS : va_S A s.heap H locs) (hl : lv_has lsA mL ls)
    (hr : va_Run p l e (cx_R dp mc ms) s m args below meth c H locs cells slots mc2 ms2 (F0 m pc lsA st0) st (cx_Q D F2 b (va_A [(b, e0)] H.size) a) (va_A [(b, e0)] H.size))
    (k : ∀ u : Nat → Nat, u 0 = b → cx_J D ca y cc mL dp mc ms h0 F (pc + 3) ls st (wr ++ F2 u) (cells + mc2) (slots + ms2)) :
    W p l e (cx_R dp mc ms) s m args below meth c H locs cells slots (MQ below (cx_Q D F h0 A) args s mc ms A) (F0 m pc lsA st0) := by
  have hC2 : [qb].map (fun i => ws[i]?) = ([(b, e0)] : va_W).map some := by simp [hC]
  have hFc := va_free (wc := [(b, e0)]) hD hS X.2.2.2.2.2.2.2.2.2.2 [qb] hC2
  refine va_callv hr hS (fun q _ h => hFc q h) hFc (fun u t H1 locs1 ht hvm hw hB hz1 hk1 hS1 => ?_)
  obtain ⟨hP1, hD1⟩ := hB
  rw [ht] at hP1
  obtain ⟨hP2, hD2⟩ := va_join (wr := wr) (w1 := F2 u) hP hD [qb] isR hC2 hR hnd hdis hk1 hFc hP1 hD1
  exact k u hw p l e s m args below meth c A X H1 locs1 lsA hP2 hD2 hS1 hl
/-- a call of a nest mate's private constructor -/
theorem cx_callN {y2 : MethodName} {cc2 : ByteArray} {mL2 dp2 mc2 ms2 idx n b : Nat} {e0 : va_E} {F2 : (Nat → Nat) → va_W} {wr : va_W} {as st0 : List Value} (qb : Nat) (isR : List Nat) (hd : decode cc pc = .ok (.invokespecial idx, 3)) (hw : cx_W y2 cc2 mL2 n) (hN : ∀ U, cx_N U → va_Nw (.methodLinkNest y.cls idx y2 "RowsIntoPlane") U) (hM : cx_C D ca y2 cc2 mL2 dp2 mc2 ms2 (.ref b :: as) b [(b, e0)] F2) (hC : ws[qb]? = some (b, e0)) (hR : isR.map (fun i => ws[i]?) = wr.map some) (hnd : va_nd isR = true) (hdis : ∀ i ∈ isR, i ∉ [qb]) (hn : as.length = n) (h0' : st0 = as.reverse ++ .ref b :: st) (hz : (st.map fun v => v.category).sum ≤ 8) (hdp : dp2 + 1 ≤ dp) (hc : cells + mc2 ≤ mc) (hs : slots + ms2 ≤ ms)
    (k : ∀ u : Nat → Nat, u 0 = b → cx_J D ca y cc mL dp mc ms h0 F (pc + 3) ls st (wr ++ F2 u) (cells + mc2) (slots + ms2)) : cx_J D ca y cc mL dp mc ms h0 F pc ls st0 ws cells slots := by
  intro p l e s m args below meth c A X H locs lsA hP hD hS hl
  have hts := X.2.2.2.2.2.2.1
  obtain ⟨w1, w2, w3, w4, w5, w6⟩ := hw
  subst h0'
  refine cx_back (y2 := y2) qb isR hC hR hnd hdis X hP hD hS hl (va_runIN (As := as) (b := b) (n := n) (Ts := ax_Ts) (bytes := cc2) (maxL := mL2) (own := y.cls) (host := "RowsIntoPlane") ⟨X.1, X.2.1, X.2.2.2.1, X.2.2.2.2.2.1, hts⟩ (hM l H.size) ⟨?_, w4, hts _ w3⟩ ⟨cx_blind _, ?_⟩ rfl hn hl.1 rfl (lv_room hz) hd ⟨hc, hs⟩) k
  · exact va_cnB n hts (ax_good w1) rfl rfl rfl (hN s X.2.2.2.2.2.2.2.2.2.1) (hts _ w2) w5 ⟨hdp, by show 8 + (mL2 + 11) + 36 * dp2 ≤ 36 * dp; omega⟩
  · intro U hU hW
    exact ⟨rfl, by rw [hU], by rw [hU]; exact hP.sub [qb] (by simp [hC]), va_K.moved hW.alike X.2.2.2.2.2.2.2.1, X.2.2.2.2.2.2.2.2.2.1.warm hW, (hD.sub [qb] rfl (by simp [hC])).weaken (fun _ _ _ _ => trivial)⟩
/-- a call of another constructor -/
theorem cx_callI {y2 : MethodName} {cc2 : ByteArray} {mL2 dp2 mc2 ms2 idx n b : Nat} {e0 : va_E} {F2 : (Nat → Nat) → va_W} {wr : va_W} {as st0 : List Value} (qb : Nat) (isR : List Nat) (hd : decode cc pc = .ok (.invokespecial idx, 3)) (hw : cx_W y2 cc2 mL2 n) (hN : Cond.methodLink y.cls idx y2 ∈ ax_Ts) (hM : cx_C D ca y2 cc2 mL2 dp2 mc2 ms2 (.ref b :: as) b [(b, e0)] F2) (hC : ws[qb]? = some (b, e0)) (hR : isR.map (fun i => ws[i]?) = wr.map some) (hnd : va_nd isR = true) (hdis : ∀ i ∈ isR, i ∉ [qb]) (hn : as.length = n) (h0' : st0 = as.reverse ++ .ref b :: st) (hz : (st.map fun v => v.category).sum ≤ 8) (hdp : dp2 + 1 ≤ dp) (hc : cells + mc2 ≤ mc) (hs : slots + ms2 ≤ ms)
    (k : ∀ u : Nat → Nat, u 0 = b → cx_J D ca y cc mL dp mc ms h0 F (pc + 3) ls st (wr ++ F2 u) (cells + mc2) (slots + ms2)) : cx_J D ca y cc mL dp mc ms h0 F pc ls st0 ws cells slots := by
  intro p l e s m args below meth c A X H locs lsA hP hD hS hl
  have hts := X.2.2.2.2.2.2.1
  obtain ⟨w1, w2, w3, w4, w5, w6⟩ := hw
  subst h0'
  refine cx_back (y2 := y2) qb isR hC hR hnd hdis X hP hD hS hl (va_runI (As := as) (b := b) (n := n) (Ts := ax_Ts) (bytes := cc2) (maxL := mL2) (own := y.cls) ⟨X.1, X.2.1, X.2.2.2.1, X.2.2.2.2.2.1, hts⟩ (hM l H.size) ⟨?_, w4, hts _ w3⟩ ⟨cx_blind _, ?_⟩ rfl hn hl.1 rfl (lv_room hz) hd ⟨hc, hs⟩) k
  · exact callB_of n hts (ax_good w1) rfl rfl rfl (hts _ w2) (hts _ hN) w5 ⟨hdp, by show 8 + (mL2 + 11) + 36 * dp2 ≤ 36 * dp; omega⟩
  · intro U hU hW
    exact ⟨rfl, by rw [hU], by rw [hU]; exact hP.sub [qb] (by simp [hC]), va_K.moved hW.alike X.2.2.2.2.2.2.2.1, X.2.2.2.2.2.2.2.2.2.1.warm hW, (hD.sub [qb] rfl (by simp [hC])).weaken (fun _ _ _ _ => trivial)⟩
theorem cx_ret (u : Nat → Nat) (is : List Nat) (hd : decode cc pc = .ok (.return_, 1)) (hu : u 0 = h0) (hnd : va_nd is = true) (hw : is.map (fun i => ws[i]?) = (F u).map some) (hc : cells = mc) (hs : slots = ms) : cx_J D ca y cc mL dp mc ms h0 F pc ls [] ws cells slots := by
  intro p l e s m args below meth c A X H locs lsA hP hD hS hl
  subst hc
  subst hs
  have hP2 : va_P D ax_cl (F u) H := by
    refine hP.sub is ?_
    have : is.filterMap (fun i => ws[i]?) = (is.map (fun i => ws[i]?)).filterMap id := by rw [List.filterMap_map]; rfl
    rw [this, hw, List.filterMap_map]
    simp
  have hD2 := hD.sub is hnd hw
  have hlocks : meth.locks = false := X.2.2.2.2.1
  exact W.vret X.1 X.2.1 X.2.2.1 (fun t ht hW => ⟨⟨u, rfl, hu, by rw [ht]; exact hP2, hD2⟩, hS.F ht⟩) hS.2.2 hd
end CX
