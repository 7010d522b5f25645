/-! calls -/
section AXC
variable {sh : List ax_Sh} {y : MethodName} {cc : ByteArray} {mL : Nat} {ret : Option FieldType} {dp : Nat} {P : Int → ax_Mem → Prop} {pc : Nat} {ls : List (Nat × ax_V)} {st : List ax_V} {M : ax_Mem}
def ax_sz (st : List ax_V) : Nat := (st.map (fun v => if ax_lg v then 2 else 1)).sum
theorem ax_sz_eq (ad : Nat → Nat) (st : List ax_V) : ((st.map (ax_c ad)).map fun v => v.category).sum = ax_sz st := by
  unfold ax_sz
  rw [List.map_map]
  congr 1
  apply List.map_congr_left
  intro v _
  rcases v with i | i | k <;> rfl
def ax_push (ret : Option FieldType) (r : Int) (st : List ax_V) : List ax_V := match ret with
  | none => st
  | some .long => .inr (.inl r) :: st
  | some _ => .inl r :: st
/-- where the locals of a call begin -/
def ax_args : Nat → List ax_V → List (Nat × ax_V)
  | _, [] => []
  | i, v :: vs => (i, v) :: ax_args (if ax_lg v then i + 2 else i + 1) vs
theorem ax_args_eq (ad : Nat → Nat) : ∀ (as : List ax_V) (i : Nat), lv_args i (as.map (ax_c ad)) = ax_l ad (ax_args i as)
  | [], i => rfl
  | v :: as, i => by
    show (i, ax_c ad v) :: lv_args (if (ax_c ad v).category = 2 then i + 2 else i + 1) (as.map (ax_c ad)) = (i, ax_c ad v) :: ax_l ad (ax_args (if ax_lg v then i + 2 else i + 1) as)
    have e : (if (ax_c ad v).category = 2 then i + 2 else i + 1) = (if ax_lg v then i + 2 else i + 1) := by
      rcases v with j | j | k <;> rfl
    rw [e, ax_args_eq ad as]
theorem ax_args_vr : ∀ (as : List ax_V) (i : Nat), (∀ v ∈ as, ax_vr v) → ∀ q ∈ ax_args i as, ax_vr q.2
  | [], _, _, q, hq => by cases hq
  | v :: as, i, h, q, hq => by
    rcases List.mem_cons.mp hq with e | e
    · rw [e]; exact h v List.mem_cons_self
    · exact ax_args_vr as _ (fun w hw => h w (List.mem_cons_of_mem _ hw)) q e
theorem ax_sl_len (ad : Nat → Nat) : ∀ (as : List ax_V), (lg_sl (as.map (ax_c ad))).length = ax_sz as
  | [] => rfl
  | v :: as => by
    have ih := ax_sl_len ad as
    simp only [lg_sl, List.map_cons, List.flatMap_cons, List.length_append] at ih ⊢
    rw [ih]
    rcases v with j | j | k <;> simp [ax_sz, ax_c, ax_lg, Value.category]
/-- a method's contract out of its body -/
theorem ax_ofJ {as : List ax_V} (hy : plainName y.cls = true) (hz : ax_sz as ≤ mL) (k : ax_J sh y cc mL ret dp P 0 (ax_args 0 as) [] M) : ax_C sh y cc mL ret dp as M P := by
  intro l D ca ad hI hn ha
  refine Met.ofW (cc := cc) (maxL := mL) (ret := ret) (ws' := ax_Ts) hy rfl ?_
  intro p e s m args below meth c s₁ B hml hv
  obtain ⟨rfl, hP, hK, hN⟩ := hv
  have hts := atoms_spec (ws := ax_ws y cc mL ret) B.pre
  have hown : s.vm.findClass y.cls = some m.cls := findClass_of_methodNamed B.named
  have hl := lv_entry (as.map (ax_c ad)) (n := mL) (by rw [ax_sl_len]; exact hz)
  rw [lg_entry_eq]
  rw [ax_args_eq] at hl
  exact k p l e s m _ below meth c D ca ad ⟨B.exec, B.bytes, B.returns, hml, B.notSynchronized, hown, fun w hw => hts w (List.mem_cons_of_mem _ hw), hK, hI, hN⟩ hn (fun v h => by cases h) (ax_args_vr as 0 ha) s.heap [] _ hP va_S.rf hl
/-- what the tables say of an entry that names an instance method -/
def ax_LV (own : String) (idx : Nat) (y : MethodName) (cc : ByteArray) (mL : Nat) (ret : Option FieldType) (n : Nat) : Prop :=
  Cond.methodLink own idx y ∈ ax_Ts ∧ Cond.instanceMethod y ∈ ax_Ts ∧ Cond.selects y.cls y y ∈ ax_Ts ∧ Cond.initialized y.cls ∈ ax_Ts ∧ Cond.code y cc mL ret ∈ ax_Ts ∧ y.cls ≠ "java/lang/invoke/MethodHandle" ∧ y.cls ≠ "java/lang/invoke/VarHandle" ∧ (parseMethodDescriptor y.desc).map (fun d => d.parameters.length) = some n ∧ mL ≤ 17
def ax_LS (own : String) (idx : Nat) (y : MethodName) (cc : ByteArray) (mL : Nat) (ret : Option FieldType) (n : Nat) : Prop :=
  Cond.methodLink own idx y ∈ ax_Ts ∧ Cond.static y ∈ ax_Ts ∧ Cond.initialized y.cls ∈ ax_Ts ∧ Cond.code y cc mL ret ∈ ax_Ts ∧ y.cls ≠ "java/lang/invoke/MethodHandle" ∧ y.cls ≠ "java/lang/invoke/VarHandle" ∧ (parseMethodDescriptor y.desc).map (fun d => d.parameters.length) = some n ∧ mL ≤ 17
theorem ax_good {y : MethodName} {cc : ByteArray} {mL : Nat} {ret : Option FieldType} (h : Cond.code y cc mL ret ∈ ax_Ts) : GoodIn ax_Ts (ax_ws y cc mL ret) := by
  intro w hw
  rcases List.mem_cons.mp hw with e | e
  · rw [e]; exact ⟨h, good_of_word (ax_Ts_good _ h)⟩
  · exact ⟨e, good_of_word (ax_Ts_good _ e)⟩
theorem ax_back {y2 : MethodName} {ret2 : Option FieldType} {p : Program} {l : Launch} {e : Env} {s : State} {m : MethodId} {args : Array Value} {below : List Frame} {meth : Method} {c : Code} {D : va_G} {ca : Nat → ClassId} {ad : Nat → Nat} {H : Heap} {locs : List Loc} {lsA : Array Slot} {st0 : List Value} {a : Array Value}
    (X : ax_X sh y cc mL ret p s m args meth c D ca ad) (hs : ∀ v ∈ st, ax_vr v) (hq : ∀ q ∈ ls, ax_vr q.2) (hS : va_S (ax_As sh ad) s.heap H locs) (hl : lv_has lsA mL (ax_l ad ls))
    (hr : va_Run p l e (ax_rm dp) s m args below meth c H locs 0 0 0 0 (F0 m pc lsA st0) (st.map (ax_c ad)) (ax_Q sh ret2 D ca ad (fun r M' => ax_J sh y cc mL ret dp P (pc + 3) ls (ax_push ret2 r st) M') a) (ax_As sh ad)) :
    W p l e (ax_rm dp) s m args below meth c H locs 0 0 (MQ below (ax_Q sh ret D ca ad P) args s 0 0 (ax_As sh ad)) (F0 m pc lsA st0) := by
  have gi : va_Run p l e (ax_rm dp) s m args below meth c H locs 0 0 0 0 (F0 m pc lsA st0) (st.map (ax_c ad)) (va_Qi (fun r u => ∃ i, ax_r i ∧ r = Int32.ofInt i ∧ ax_J sh y cc mL ret dp P (pc + 3) ls (.inl i :: st) u) (ax_B sh D ca ad) (ax_As sh ad) a) (ax_As sh ad) → W p l e (ax_rm dp) s m args below meth c H locs 0 0 (MQ below (ax_Q sh ret D ca ad P) args s 0 0 (ax_As sh ad)) (F0 m pc lsA st0) := by
    intro hr
    refine va_calli hr hS (fun _ _ h => h) (fun _ h => h) (fun r u t H1 locs1 ht hvm hpost hB hz hk hS1 => ?_)
    obtain ⟨i, hi, rfl, hj⟩ := hpost
    obtain ⟨hn1, hP1⟩ := hB
    rw [ht] at hP1
    exact hj p l e s m args below meth c D ca ad X hn1 (ax_cc (v := .inl i) hi hs) hq H1 locs1 lsA hP1 hS1 hl
  rcases ret2 with _ | ty
  · refine va_callv (a := a) hr hS (fun _ _ h => h) (fun _ h => h) (fun u t H1 locs1 ht hvm hpost hB hz hk hS1 => ?_)
    obtain ⟨hn1, hP1⟩ := hB
    rw [ht] at hP1
    exact hpost p l e s m args below meth c D ca ad X hn1 hs hq H1 locs1 lsA hP1 hS1 hl
  · cases ty with
    | long =>
      refine va_calll (a := a) hr hS (fun _ _ h => h) (fun _ h => h) (fun r u t H1 locs1 ht hvm hpost hB hz hk hS1 => ?_)
      obtain ⟨i, rfl, hj⟩ := hpost
      obtain ⟨hn1, hP1⟩ := hB
      rw [ht] at hP1
      exact hj p l e s m args below meth c D ca ad X hn1 (ax_cc (v := .inr (.inl i)) trivial hs) hq H1 locs1 lsA hP1 hS1 hl
    | _ => exact gi hr
theorem ax_pre {D : va_G} {ca : Nat → ClassId} {ad : Nat → Nat} {as : List Value} (av : List Value) : FrameBlind (va_Pc av (fun U => va_P D ax_cl (ax_w sh ca ad M) U.heap ∧ va_K D ax_cl (ax_tys ca) U ∧ va_Nw ax_nest U)) := by
  intro a U g mk h
  obtain ⟨h1, h2, h3, h4⟩ := h
  exact ⟨h1, h2, va_K.moved (u := U) (U := U.calling g mk a) (Vm.Alike.refl U.vm) h3, va_Nw.same rfl rfl h4⟩
theorem ax_callV {y2 : MethodName} {cc2 : ByteArray} {mL2 : Nat} {ret2 : Option FieldType} {dp2 idx n k ci : Nat} {as st0 : List ax_V} {fs : List (Option (Option Nat))} (hd : decode cc pc = .ok (.invokevirtual idx, 3)) (hl : ax_LV y.cls idx y2 cc2 mL2 ret2 n) (hs : sh[k]? = some (.inr (.inr (ci, fs)))) (hc : ∃ (T : u_T) (N : Nat), ax_cl[ci]? = some (y2.cls, T, N)) (hn : as.length = n) (h0 : st0 = as.reverse ++ .inr (.inr k) :: st) (hz : ax_sz st ≤ 8) (hdp : dp2 + 1 ≤ dp)
    (kk : ax_C sh y2 cc2 mL2 ret2 dp2 (.inr (.inr k) :: as) M (fun r M' => ax_J sh y cc mL ret dp P (pc + 3) ls (ax_push ret2 r st) M')) : ax_J sh y cc mL ret dp P pc ls st0 M := by
  intro p l e s m args below meth c D ca ad X hn0 hv hq H locs lsA hP hS hls
  obtain ⟨T, N, hc⟩ := hc
  obtain ⟨l1, l2, l3, l4, l5, l6, l7, l8, l9⟩ := hl
  have hts := X.2.2.2.2.2.2.1
  subst h0
  have hst : ∀ v ∈ st, ax_vr v := fun v h => hv v (List.mem_append_right _ (List.mem_cons_of_mem _ h))
  have has : ∀ v ∈ (.inr (.inr k) :: as : List ax_V), ax_vr v := fun v h => by
    rcases List.mem_cons.mp h with e | e
    · rw [e]; trivial
    · exact hv v (List.mem_append_left _ (List.mem_reverse.mpr e))
  refine ax_back (y2 := y2) (ret2 := ret2) X hst hq hS hls (va_runV (As := as.map (ax_c ad)) (b := ad k) (C := y2.cls) (n := n) (Ts := ax_Ts) (bytes := cc2) (maxL := mL2) (ret := ret2) ⟨X.1, X.2.1, X.2.2.2.1, X.2.2.2.2.2.1, hts⟩ (kk l D ca ad X.2.2.2.2.2.2.2.2.1 hn0 has) ⟨?_, hts _ l2, hts _ l3⟩ ⟨ax_pre (as := []) _, ?_, ?_⟩ rfl (by rw [List.length_map]; exact hn) hls.1 ?_ ?_ hd ⟨Nat.le_refl _, Nat.le_refl _⟩)
  · exact callB_of n hts (ax_good l5) rfl rfl rfl (hts _ l4) (hts _ l1) ⟨l6, l7, l8⟩ ⟨hdp, by show 8 + (mL2 + 11) + 36 * dp2 ≤ 36 * dp; omega⟩
  · exact va_recv X.2.2.2.2.2.2.2.1 hP hc (ax_w_get hs)
  · intro U hU hW
    exact ⟨rfl, by rw [hU]; exact hP, va_K.moved hW.alike X.2.2.2.2.2.2.2.1, va_Nw.warmM hW X.2.2.2.2.2.2.2.2.2⟩
  · show (as.reverse ++ .inr (.inr k) :: st).map (ax_c ad) = _
    rw [List.map_append, List.map_reverse]
    rfl
  · exact lv_room (by rw [ax_sz_eq]; exact hz)
theorem ax_callS {y2 : MethodName} {cc2 : ByteArray} {mL2 : Nat} {ret2 : Option FieldType} {dp2 idx n : Nat} {as st0 : List ax_V} (hd : decode cc pc = .ok (.invokestatic idx, 3)) (hl : ax_LS y.cls idx y2 cc2 mL2 ret2 n) (hn : as.length = n) (h0 : st0 = as.reverse ++ st) (hz : ax_sz st ≤ 8) (hdp : dp2 + 1 ≤ dp)
    (kk : ax_C sh y2 cc2 mL2 ret2 dp2 as M (fun r M' => ax_J sh y cc mL ret dp P (pc + 3) ls (ax_push ret2 r st) M')) : ax_J sh y cc mL ret dp P pc ls st0 M := by
  intro p l e s m args below meth c D ca ad X hn0 hv hq H locs lsA hP hS hls
  obtain ⟨l1, l2, l4, l5, l6, l7, l8, l9⟩ := hl
  have hts := X.2.2.2.2.2.2.1
  subst h0
  have hst : ∀ v ∈ st, ax_vr v := fun v h => hv v (List.mem_append_right _ h)
  have has : ∀ v ∈ as, ax_vr v := fun v h => hv v (List.mem_append_left _ (List.mem_reverse.mpr h))
  refine ax_back (y2 := y2) (ret2 := ret2) X hst hq hS hls (va_runS (As := as.map (ax_c ad)) (n := n) (Ts := ax_Ts) (bytes := cc2) (maxL := mL2) (ret := ret2) ⟨X.1, X.2.1, X.2.2.2.1, X.2.2.2.2.2.1, hts⟩ (kk l D ca ad X.2.2.2.2.2.2.2.2.1 hn0 has) ⟨?_, hts _ l2⟩ ⟨ax_pre (as := []) _, ?_⟩ rfl (by rw [List.length_map]; exact hn) hls.1 ?_ ?_ hd ⟨Nat.le_refl _, Nat.le_refl _⟩)
  · exact callB_of n hts (ax_good l5) rfl rfl rfl (hts _ l4) (hts _ l1) ⟨l6, l7, l8⟩ ⟨hdp, by show 8 + (mL2 + 11) + 36 * dp2 ≤ 36 * dp; omega⟩
  · intro U hU hW
    exact ⟨rfl, by rw [hU]; exact hP, va_K.moved hW.alike X.2.2.2.2.2.2.2.1, va_Nw.warmM hW X.2.2.2.2.2.2.2.2.2⟩
  · show (as.reverse ++ st).map (ax_c ad) = _
    rw [List.map_append, List.map_reverse]
  · exact lv_room (by rw [ax_sz_eq]; exact hz)
/-- the one call of a nest mate's private method: Cabin.hasSeat calls RowsIntoPlane.outside -/
def ax_LN (y : MethodName) (cc : ByteArray) (mL : Nat) (ret : Option FieldType) (n : Nat) : Prop :=
  y = ⟨"RowsIntoPlane", "outside", "(III)Z"⟩ ∧ Cond.static y ∈ ax_Ts ∧ Cond.initialized y.cls ∈ ax_Ts ∧ Cond.code y cc mL ret ∈ ax_Ts ∧ y.cls ≠ "java/lang/invoke/MethodHandle" ∧ y.cls ≠ "java/lang/invoke/VarHandle" ∧ (parseMethodDescriptor y.desc).map (fun d => d.parameters.length) = some n ∧ mL ≤ 17
theorem ax_callSN {y2 : MethodName} {cc2 : ByteArray} {mL2 : Nat} {ret2 : Option FieldType} {dp2 n : Nat} {as st0 : List ax_V} (hd : decode cc pc = .ok (.invokestatic 22, 3)) (hown : y.cls = "RowsIntoPlane$Cabin") (hl : ax_LN y2 cc2 mL2 ret2 n) (hn : as.length = n) (h0 : st0 = as.reverse ++ st) (hz : ax_sz st ≤ 8) (hdp : dp2 + 1 ≤ dp)
    (kk : ax_C sh y2 cc2 mL2 ret2 dp2 as M (fun r M' => ax_J sh y cc mL ret dp P (pc + 3) ls (ax_push ret2 r st) M')) : ax_J sh y cc mL ret dp P pc ls st0 M := by
  intro p l e s m args below meth c D ca ad X hn0 hv hq H locs lsA hP hS hls
  obtain ⟨l1, l2, l4, l5, l6, l7, l8, l9⟩ := hl
  have hts := X.2.2.2.2.2.2.1
  subst h0
  subst l1
  have hst : ∀ v ∈ st, ax_vr v := fun v h => hv v (List.mem_append_right _ h)
  have has : ∀ v ∈ as, ax_vr v := fun v h => hv v (List.mem_append_left _ (List.mem_reverse.mpr h))
  refine ax_back (y2 := ⟨"RowsIntoPlane", "outside", "(III)Z"⟩) (ret2 := ret2) X hst hq hS hls (va_runSN (As := as.map (ax_c ad)) (n := n) (Ts := ax_Ts) (bytes := cc2) (maxL := mL2) (ret := ret2) (own := "RowsIntoPlane$Cabin") (host := "RowsIntoPlane") ⟨X.1, X.2.1, X.2.2.2.1, hown ▸ X.2.2.2.2.2.1, hts⟩ (kk l D ca ad X.2.2.2.2.2.2.2.2.1 hn0 has) ⟨?_, hts _ l2, trivial⟩ ⟨ax_pre (as := []) _, ?_⟩ rfl (by rw [List.length_map]; exact hn) hls.1 ?_ ?_ hd ⟨Nat.le_refl _, Nat.le_refl _⟩)
  · exact va_cnB n hts (ax_good l5) rfl rfl rfl X.2.2.2.2.2.2.2.2.2 (hts _ l4) ⟨l6, l7, l8⟩ ⟨hdp, by show 8 + (mL2 + 11) + 36 * dp2 ≤ 36 * dp; omega⟩
  · intro U hU hW
    exact ⟨rfl, by rw [hU]; exact hP, va_K.moved hW.alike X.2.2.2.2.2.2.2.1, va_Nw.warmM hW X.2.2.2.2.2.2.2.2.2⟩
  · show (as.reverse ++ st).map (ax_c ad) = _
    rw [List.map_append, List.map_reverse]
  · exact lv_room (by rw [ax_sz_eq]; exact hz)
end AXC
