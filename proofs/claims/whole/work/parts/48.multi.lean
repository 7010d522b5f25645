/-! multianewarray of twelve rows of three ints, over the machine; what of the tables it needs -/
/-- an int[][] has been made before, and its rows are int[] -/
def mn_A (U : State) : Prop := ∃ (cA cI : ClassId) (kA : Class), U.vm.findClass "[[I" = some cA ∧ U.vm.findClass "[I" = some cI ∧ U.vm.classes[cA]? = some kA ∧ kA.kind = .array cI (.array .int)
theorem mn_A.moved {u U : State} (hvm : u.vm.Alike U.vm) (h : mn_A u) : mn_A U := by
  obtain ⟨cA, cI, kA, h1, h2, h3, h4⟩ := h
  obtain ⟨k', hk', he⟩ := hvm.2.2 _ _ h3
  exact ⟨cA, cI, k', by rw [hvm.findClass]; exact h1, by rw [hvm.findClass]; exact h2, hk', by rw [he]; exact h4⟩
/-- a row of three zeros; the outer array when i rows stand -/
def mn_r (cI : ClassId) : Cell := arrV cI 3 (fun _ => .int 0)
def mn_o (cA : ClassId) (h i : Nat) : Cell := arrV cA 12 (fun j => if j < i then .ref (h + 1 + j) else .null)
theorem mn_o_s (cA : ClassId) (h i : Nat) : (mn_o cA h i).setSlot i (.ref (h + 1 + i)) = mn_o cA h (i + 1) := by
  unfold mn_o
  rw [arrV_store]
  congr 1
  funext j
  unfold updV
  by_cases e : j = i
  · subst e; simp
  · rw [if_neg e]
    show (if j < i then Value.ref (h + 1 + j) else Value.null) = if j < i + 1 then Value.ref (h + 1 + j) else Value.null
    by_cases hj : j < i
    · rw [if_pos hj, if_pos (by omega)]
    · rw [if_neg hj, if_neg (by omega)]
def mn_U (cA cI : ClassId) (T : State) : Nat → State
  | 0 => T.pushCell (mn_o cA T.heap.size 0)
  | i + 1 => ((mn_U cA cI T i).pushCell (mn_r cI)).setCell T.heap.size (mn_o cA T.heap.size (i + 1))
/-- the heap when i rows stand -/
def mn_H (cA cI : ClassId) (H0 H : Heap) (i : Nat) : Prop := H.size = H0.size + 1 + i ∧ (∀ q : Nat, q < H0.size → H[q]? = H0[q]?) ∧ H[H0.size]? = some (mn_o cA H0.size i) ∧ ∀ j : Nat, j < i → H[H0.size + 1 + j]? = some (mn_r cI)
theorem mn_U_H (cA cI : ClassId) (T : State) : ∀ i, mn_H cA cI T.heap (mn_U cA cI T i).heap i ∧ (mn_U cA cI T i).vm = T.vm
  | 0 => ⟨⟨by simp [mn_U], fun q hq => State.heap_pushCell_of_lt _ _ hq, State.heap_pushCell_size _ _, fun j hj => absurd hj (Nat.not_lt_zero _)⟩, rfl⟩
  | i + 1 => by
    obtain ⟨⟨h1, h2, h3, h4⟩, h5⟩ := mn_U_H cA cI T i
    have hlt : T.heap.size < (mn_U cA cI T i).heap.size := by omega
    have e0 : ((mn_U cA cI T i).pushCell (mn_r cI)).heap[T.heap.size]? = some (mn_o cA T.heap.size i) := (State.heap_pushCell_of_lt _ _ hlt).trans h3
    refine ⟨⟨?_, fun q hq => ?_, State.heap_setCell_self e0, fun j hj => ?_⟩, h5⟩
    · simp [mn_U, State.setCell, h1]; omega
    · show (((mn_U cA cI T i).pushCell (mn_r cI)).setCell T.heap.size _).heap[q]? = _
      rw [State.heap_setCell_other (Nat.ne_of_gt hq), State.heap_pushCell_of_lt _ _ (show q < (mn_U cA cI T i).heap.size by omega)]
      exact h2 q hq
    · show (((mn_U cA cI T i).pushCell (mn_r cI)).setCell T.heap.size _).heap[T.heap.size + 1 + j]? = _
      rw [State.heap_setCell_other (show T.heap.size ≠ T.heap.size + 1 + j by omega)]
      by_cases e : j = i
      · rw [e, ← h1]; exact State.heap_pushCell_size _ _
      · rw [State.heap_pushCell_of_lt _ _ (show T.heap.size + 1 + j < (mn_U cA cI T i).heap.size by omega)]
        exact h4 j (by omega)
section MN
variable {p : Program} {l : Launch} {e : Env} {R : Room} {s : State} {m : MethodId} {args : Array Value} {below : List Frame} {meth : Method} {c : Code} {H : Heap} {locs : List Loc} {cells slots : Nat} {Q : State → Prop}
theorem mn_U_S {T : State} (X : Stand p l e R s m args below meth c T locs cells slots) (cA cI : ClassId) : ∀ i, ∃ L : List Loc, (∀ x ∈ L, x.base = T.heap.size) ∧ Stand p l e R s m args below meth c (mn_U cA cI T i) (locs ++ L) (cells + 1 + i) (slots + 12 + 3 * i)
  | 0 => by
    have h := X.pushed (mn_o cA T.heap.size 0)
    unfold mn_o at h
    rw [arrV_size] at h
    exact ⟨[], fun x hx => absurd hx List.not_mem_nil, by rw [List.append_nil]; exact h⟩
  | i + 1 => by
    obtain ⟨L, hL, Xi⟩ := mn_U_S X cA cI i
    obtain ⟨⟨h1, h2, h3, h4⟩, h5⟩ := mn_U_H cA cI T i
    have hlt : T.heap.size < (mn_U cA cI T i).heap.size := by omega
    have e0 : ((mn_U cA cI T i).pushCell (mn_r cI)).heap[T.heap.size]? = some (mn_o cA T.heap.size i) := (State.heap_pushCell_of_lt _ _ hlt).trans h3
    have h := (Xi.pushed (mn_r cI)).stored e0 i (.ref (T.heap.size + 1 + i))
    rw [mn_o_s] at h
    unfold mn_r at h
    rw [arrV_size] at h
    refine ⟨L ++ [⟨T.heap.size, i⟩], fun x hx => ?_, ?_⟩
    · rcases List.mem_append.mp hx with q | q
      · exact hL x q
      · rw [List.mem_singleton.mp q]
    · rw [← List.append_assoc]
      exact h
theorem mn_wp {T : State} {g : JFrame} {cA cI cc0 : ClassId} {kA kI : Class} (X : Stand p l e R s m args below meth c T locs cells slots) (hA : T.vm.classes[cA]? = some kA) (hkA : kA.kind = .array cI (.array .int)) (hI : T.vm.classes[cI]? = some kI) (hkI : kI.kind = .array cc0 .int) (hc : cells + 13 ≤ R.cells) (hs : slots + 48 ≤ R.slots)
    {E : CtlPost} {d : Bool} {acts : List Action} {Q : Addr → Jvm.Pre} (hq : ∀ d' acts', Q T.heap.size d' acts' ((mn_U cA cI T 12).setTop g)) : wp (multianewarray.make cA [12, 3]) Q E e d acts (T.setTop g) := by
  have hn : ¬ (12 : Int32) < 0 := by decide
  have hm : ¬ (3 : Int32) < 0 := by decide
  have e12 : (12 : Int32).toNatClampNeg = 12 := by decide
  have e3 : (3 : Int32).toNatClampNeg = 3 := by decide
  have hf : ([(3 : Int32)].find? (· < 0)) = none := by decide
  have lim1 : ∀ n : Nat, n ≤ 12 → ¬ n > e.platform.arrayLengthLimit := fun n hn => by rw [Launch.admits_arrayLengthLimit X.admits]; omega
  have lim2 : ∀ (n : Nat) (ty : FieldType), n * componentBytes ty ≤ 48 → ¬ n * componentBytes ty > e.platform.maxHeapBytes := fun n ty hn => by rw [Launch.admits_maxHeapBytes X.admits]; omega
  obtain ⟨r1, r2⟩ := X.roomAbove hc hs
  rw [multianewarray.make]
  simp only [wp_bind', W.ite, hn, if_false, wp_pure', W.theClass, State.vm_setTop, hA, hkA, Option.some.injEq, exists_eq_left', hf, e12]
  refine W.newArray_of (s := T.setTop g) hA hkA (lim1 12 (by omega)) (lim2 12 _ (by decide)) (by show T.heap.size < _; omega) (by show T.slotsUsed + 12 ≤ _; omega) rfl (fun acts1 => ?_)
  rw [ite_self, wp_bind', Std.Legacy.Range.forIn_eq_forIn_range']
  have hsz : ([:12] : Std.Legacy.Range).size = 12 := by decide
  rw [hsz]
  show wp (forIn (List.range' 0 12 1) PUnit.unit _) _ E e d _ _
  refine wp_forIn_inv (fun rest s' => ∃ i, i ≤ 12 ∧ rest = List.range' i (12 - i) ∧ s' = (mn_U cA cI T i).setTop g) _ _ ⟨0, Nat.zero_le _, rfl, ?_⟩ ?_ ?_
  · show (T.pushCell _).setTop g = (T.pushCell _).setTop g
    unfold mn_o
    rw [arrV_new]
    rfl
  · rintro x rest s' d' acts' Q' ⟨i, hi, hl, rfl⟩ hnext
    have hlt : i < 12 := by
      rcases Nat.lt_or_ge i 12 with h | h
      · exact h
      · rw [show 12 - i = 0 by omega] at hl; cases hl
    rw [show 12 - i = (12 - (i + 1)) + 1 by omega, List.range'_succ] at hl
    obtain ⟨rfl, hrest⟩ := List.cons.inj hl
    obtain ⟨⟨h1, h2, h3, h4⟩, h5⟩ := mn_U_H cA cI T x
    obtain ⟨L, hL, Xi⟩ := mn_U_S X cA cI x
    obtain ⟨q1, q2⟩ := Xi.roomAbove (a := 1) (b := 3) (by omega) (by omega)
    have hI' : (mn_U cA cI T x).vm.classes[cI]? = some kI := by rw [h5]; exact hI
    have hA' : (mn_U cA cI T x).vm.classes[cA]? = some kA := by rw [h5]; exact hA
    simp only [wp_bind']
    rw [multianewarray.make]
    simp only [wp_bind', W.ite, hm, if_false, wp_pure', W.theClass, State.vm_setTop, hI', hkI, Option.some.injEq, exists_eq_left', e3]
    refine W.newArray_of (s := (mn_U cA cI T x).setTop g) hI' hkI (lim1 3 (by omega)) (lim2 3 _ (by decide)) (by show (mn_U cA cI T x).heap.size < _; omega) (by show (mn_U cA cI T x).slotsUsed + 3 ≤ _; omega) rfl (fun acts2 => ?_)
    have hlt0 : T.heap.size < (mn_U cA cI T x).heap.size := by omega
    simp only [wp_bind', W.writeLoc, wp_pure']
    refine ⟨mn_o cA T.heap.size x, (State.heap_pushCell_of_lt _ _ hlt0).trans h3, by simp [mn_o, arrV], by unfold mn_o; rw [arrV_size]; exact hlt, ?_, hnext _ _ _ ⟨x + 1, by omega, hrest, ?_⟩⟩
    · simp [mn_o, arrV, State.fitsSlot, State.slotType?, hA', hkA, fits]
    · show ((((mn_U cA cI T x).pushCell _).setCell T.heap.size _).setTop g) = (((mn_U cA cI T x).pushCell _).setCell T.heap.size _).setTop g
      show ((((mn_U cA cI T x).pushCell _).setCell T.heap.size ((mn_o cA T.heap.size x).setSlot x (.ref (mn_U cA cI T x).heap.size))).setTop g) = _
      rw [h1, mn_o_s]
      unfold mn_r
      rw [← arrV_new]
      rfl
  · rintro s' d' acts' ⟨i, hi, hl, rfl⟩
    have hiN : i = 12 := by
      rcases Nat.lt_or_ge i 12 with h | h
      · rw [show 12 - i = (12 - (i + 1)) + 1 by omega, List.range'_succ] at hl; cases hl
      · omega
    subst hiN
    simp only [wp_pure']
    exact hq _ _
/-- the instruction -/
theorem mn_row {cc : ByteArray} (hexec : p.tables.exec = Jvm.exec) (hb : c.code = cc) {own : String} {index : Nat} (hown : s.vm.findClass own = some m.cls) (hcl : (Cond.classLink own index "[[I").before args s = true) (hov : mn_A s) (harr : (Cond.arrayClass .int).before args s = true)
    (hc : cells + 13 ≤ R.cells) (hs : slots + 48 ≤ R.slots) {pc : Nat} {ls : Array Slot} {rest : List Value} (hdg : decode cc pc = .ok (.multianewarray index 2, 4))
    (kk : ∀ (cA cI : ClassId) (kA : Class) (H1 : Heap) (L : List Loc), s.vm.findClass "[[I" = some cA → s.vm.findClass "[I" = some cI → s.vm.classes[cA]? = some kA → kA.kind = .array cI (.array .int) → mn_H cA cI H H1 12 → (∀ x ∈ L, x.base = H.size) →
      W p l e R s m args below meth c H1 (locs ++ L) (cells + 13) (slots + 48) Q (F0 m (pc + 4) ls (.ref H.size :: rest))) : W p l e R s m args below meth c H locs cells slots Q (F0 m pc ls (.int 3 :: .int 12 :: rest)) := by
  intro T hT X
  subst hT; subst hb
  obtain ⟨cA, cI, kA, f1, f2, f3, f4⟩ := hov
  obtain ⟨cI', kI, cc0, g1, g2, g3⟩ := Cond.arrayClass_spec harr
  have ecI : cI' = cI := Option.some.inj ((show s.vm.findClass "[I" = some cI' from g1).symm.trans f2)
  subst ecI
  have hpl : e.platform.magicAccessors = ({} : Platform).magicAccessors := by rw [X.admits.platform]
  obtain ⟨c0, hfc0, hcl2⟩ := Cond.classLink_spec hown hcl e.platform hpl
  cases f1.symm.trans hfc0
  obtain ⟨hg1, hw1, hr1⟩ := State.classEntry (e := e) X.warmed hcl2
  generalize T.vm.noted m.cls index (.cls cA) = vm1 at hg1 hw1 hr1
  obtain ⟨kA1, hkA1, heA⟩ := hw1.alike.2.2 _ _ f3
  obtain ⟨kI1, hkI1, heI⟩ := hw1.alike.2.2 _ _ g2
  have X1 := X.noted hw1
  obtain ⟨L, hL, X2⟩ := mn_U_S X1 cA cI' 12
  obtain ⟨hH, hvm⟩ := mn_U_H cA cI' (T.setVm vm1) 12
  obtain ⟨t, a1, b1⟩ := kk cA cI' kA (mn_U cA cI' (T.setVm vm1) 12).heap L f1 f2 f3 f4 hH hL (mn_U cA cI' (T.setVm vm1) 12) rfl X2
  refine ⟨t, ?_, b1⟩
  jvm_step X.here [hexec, hdg]
  simp only [multianewarray.sem, wp_bind', W.resolveClassAt_links (State.method?_setTop (F0 m pc ls (.int 3 :: .int 12 :: rest)) X.here.top) hg1]
  rw [W.popN, if_neg (by decide)]
  refine ⟨F0 m pc ls (.int 3 :: .int 12 :: rest), State.topJava?_setTop' (s := T.setVm vm1) _ X.here.top, [.int 12, .int 3], rest, rfl, rfl, ?_⟩
  simp only [List.mapM_cons, List.mapM_nil, wp_bind', wp_pure']
  have eS : ((T.setTop (F0 m pc ls (.int 3 :: .int 12 :: rest))).setVm vm1).setTop (F0 m pc ls rest) = (T.setVm vm1).setTop (F0 m pc ls rest) := by
    show ((T.setVm vm1).setTop _).setTop _ = _
    rw [State.setTop_setTop]
  show wp _ _ _ e _ _ (((T.setTop (F0 m pc ls (.int 3 :: .int 12 :: rest))).setVm vm1).setTop (F0 m pc ls rest))
  rw [eS]
  refine mn_wp (kA := kA1) (kI := kI1) (cc0 := cc0) X1 hkA1 (by rw [heA]; exact f4) hkI1 (by rw [heI]; exact g3) hc hs (fun d' acts' => ?_)
  simp only [wp_bind', W.mark, W.pushRef, State.topJava?_setTop' _ X2.here.top, Option.some.injEq, exists_eq_left', State.setTop_setTop, State.heap_setTop]
  intro acts
  simp [jvm, X2.here.top]
  exact a1
end MN
