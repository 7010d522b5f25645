/-! fields and arrays -/
section AXM
variable {sh : List ax_Sh} {y : MethodName} {cc : ByteArray} {mL : Nat} {ret : Option FieldType} {dp : Nat} {P : Int → ax_Mem → Prop} {pc : Nat} {ls : List (Nat × ax_V)} {st : List ax_V} {M : ax_Mem}
/-- the entry idx of own's file is the field j of the class ci -/
def ax_FL (own : String) (idx ci j : Nat) : Prop := ∃ r : vw_C, ax_cl[ci]? = some r ∧ j < r.2.2 ∧ Cond.fieldLink own idx (r.2.1 j).1 (r.2.1 j).2.1 (r.2.1 j).2.2.1 ∈ ax_Ts ∧ (∀ w ∈ u_ws r.1 r.2.1 r.2.2, w ∈ ax_Ts)
/-- and it may be written: its type -/
def ax_FP (own : String) (idx ci j : Nat) (ty : FieldType) : Prop := ∃ r : vw_C, ax_cl[ci]? = some r ∧ j < r.2.2 ∧ Cond.fieldLink own idx (r.2.1 j).1 (r.2.1 j).2.1 (r.2.1 j).2.2.1 ∈ ax_Ts ∧ (∀ w ∈ u_ws r.1 r.2.1 r.2.2, w ∈ ax_Ts) ∧ (r.2.1 j).2.2.2 = false ∧ parseFieldDescriptor (r.2.1 j).2.2.1 = some ty ∧ (∃ ty0 : Nat → FieldType, ∀ k, k < r.2.2 → parseFieldDescriptor (r.2.1 k).2.2.1 = some (ty0 k)) ∧ (∀ a, a < r.2.2 → ∀ b, b < r.2.2 → a ≠ b → (r.2.1 a).2.1 ≠ (r.2.1 b).2.1)
theorem ax_nr {k j ci : Nat} {fs : List (Option (Option Nat))} (hn : ax_n sh M) (hs : sh[k]? = some (.inr (.inr (ci, fs)))) (hf : fs[j]? = some none) : ax_r (M k j) := hn k j (by simp [ax_isl, hs, hf])
theorem ax_na {k t n : Nat} (j : Nat) (hn : ax_n sh M) (hs : sh[k]? = some (.inl (t, n))) : ax_r (M k j) := hn k j (by simp [ax_isl, hs])
theorem ax_fg {ad : Nat → Nat} {f : Nat → Int} {fs : List (Option (Option Nat))} {j : Nat} {o : Option (Option Nat)} (h : fs[j]? = some o) : (fs.mapIdx (ax_f ad f))[j]? = some (ax_f ad f j o) := by
  simp [List.getElem?_mapIdx, h]
theorem ax_getv {idx ci j k : Nat} {fs : List (Option (Option Nat))} {o : Option (Option Nat)} {v : ax_V} (hd : decode cc pc = .ok (.getfield idx, 3)) (hl : ax_FL y.cls idx ci j) (hs : sh[k]? = some (.inr (.inr (ci, fs)))) (hf : fs[j]? = some o) (hv : ∀ ad, ax_f ad (M k) j o = ax_c ad v) (hr : ax_n sh M → ax_vr v) (kk : ax_J sh y cc mL ret dp P (pc + 3) ls (v :: st) M) : ax_J sh y cc mL ret dp P pc ls (.inr (.inr k) :: st) M := by
  obtain ⟨r, h1, h2, h3, h4⟩ := hl
  refine ax_step (st' := v :: st) (fun hn _ h => ax_cc (hr hn) (ax_ct h)) (fun {p} {l} {e} {s} {m} {args} {below} {meth} {c} {D} {ca} {ad} {H} {locs} {lsA} {Q} X _ _ _ hP _ w => ?_) kk
  exact va_get (D := D) (ci := ci) (C := r.1) (T := r.2.1) (N := r.2.2) (v := ax_c ad v) X.1 X.2.1 X.2.2.2.2.2.2.1 h4 X.2.2.2.2.2.1 X.2.2.2.2.2.2.2.1 hP k (ax_w_get hs) h1 j h2 (X.2.2.2.2.2.2.1 _ h3) (fun _ h9 => h9) (by rw [ax_fg hf, hv ad]) hd w
theorem ax_geti {idx ci j k : Nat} {fs : List (Option (Option Nat))} (hd : decode cc pc = .ok (.getfield idx, 3)) (hl : ax_FL y.cls idx ci j) (hs : sh[k]? = some (.inr (.inr (ci, fs)))) (hf : fs[j]? = some none) (kk : ax_J sh y cc mL ret dp P (pc + 3) ls (.inl (M k j) :: st) M) : ax_J sh y cc mL ret dp P pc ls (.inr (.inr k) :: st) M :=
  ax_getv (v := .inl (M k j)) hd hl hs hf (fun _ => rfl) (fun hn => ax_nr hn hs hf) kk
theorem ax_getl {idx ci j k : Nat} {fs : List (Option (Option Nat))} (hd : decode cc pc = .ok (.getfield idx, 3)) (hl : ax_FL y.cls idx ci j) (hs : sh[k]? = some (.inr (.inr (ci, fs)))) (hf : fs[j]? = some (some none)) (kk : ax_J sh y cc mL ret dp P (pc + 3) ls (.inr (.inl (M k j)) :: st) M) : ax_J sh y cc mL ret dp P pc ls (.inr (.inr k) :: st) M :=
  ax_getv (v := .inr (.inl (M k j))) hd hl hs hf (fun _ => rfl) (fun _ => trivial) kk
theorem ax_getr {idx ci j k r : Nat} {fs : List (Option (Option Nat))} (hd : decode cc pc = .ok (.getfield idx, 3)) (hl : ax_FL y.cls idx ci j) (hs : sh[k]? = some (.inr (.inr (ci, fs)))) (hf : fs[j]? = some (some (some r))) (kk : ax_J sh y cc mL ret dp P (pc + 3) ls (.inr (.inr r) :: st) M) : ax_J sh y cc mL ret dp P pc ls (.inr (.inr k) :: st) M :=
  ax_getv (v := .inr (.inr r)) hd hl hs hf (fun _ => rfl) (fun _ => trivial) kk
theorem ax_u_at (M : ax_Mem) (k j : Nat) (v : Int) : ax_u M k j v k j = v := by simp [ax_u]
theorem ax_u_ne {M : ax_Mem} {k j a b : Nat} {v : Int} (h : a = k → b ≠ j) : ax_u M k j v a b = M a b := by
  unfold ax_u
  by_cases h1 : a = k
  · simp [h1, h h1]
  · simp [h1]
theorem ax_u_cell {M : ax_Mem} {k j a : Nat} {v : Int} (h : a ≠ k) : ax_u M k j v a = M a := by simp [ax_u, h]
theorem ax_u_n {k j : Nat} {v : Int} (hn : ax_n sh M) (hv : ax_isl sh k j = false → ax_r v) : ax_n sh (ax_u M k j v) := by
  intro a b h
  by_cases h1 : a = k
  · by_cases h2 : b = j
    · subst h1; subst h2
      rw [ax_u_at]; exact hv h
    · rw [ax_u_ne (fun _ => h2)]; exact hn a b h
  · rw [ax_u_ne (fun q => absurd q h1)]; exact hn a b h
theorem ax_fs_set {ad : Nat → Nat} {M : ax_Mem} {fs : List (Option (Option Nat))} {k j : Nat} {o : Option (Option Nat)} {v : Int} {w : Value} (h : fs[j]? = some o) (hw : ∀ f : Nat → Int, f j = v → ax_f ad f j o = w) : (fs.mapIdx (ax_f ad (M k))).set j w = fs.mapIdx (ax_f ad (ax_u M k j v k)) := by
  have hj := (List.getElem?_eq_some_iff.mp h).1
  apply List.ext_getElem?
  intro i
  by_cases hi : i = j
  · subst hi
    rw [List.getElem?_set_self (by simpa using hj), ax_fg h, hw _ (ax_u_at M k i v)]
  · rw [List.getElem?_set_ne (Ne.symm hi)]
    simp only [List.getElem?_mapIdx]
    cases hq : fs[i]? with
    | none => rfl
    | some o2 =>
      have e : ax_u M k j v k i = M k i := ax_u_ne (fun _ => hi)
      rcases o2 with _ | _ | r <;> simp [ax_f, e]
theorem ax_putv {idx ci j k : Nat} {fs : List (Option (Option Nat))} {o : Option (Option Nat)} {v : Int} {x : ax_V} {ty : FieldType} (hd : decode cc pc = .ok (.putfield idx, 3)) (hl : ax_FP y.cls idx ci j ty) (hs : sh[k]? = some (.inr (.inr (ci, fs)))) (hf : fs[j]? = some o) (hw : ∀ (ad : Nat → Nat) (f : Nat → Int), f j = v → ax_f ad f j o = ax_c ad x) (hnr : ∀ ad : Nat → Nat, narrow ty (ax_c ad x) = ax_c ad x) (hfit : ∀ ad : Nat → Nat, fits ty (ax_c ad x) = true) (hrn : ax_vr x → ax_isl sh k j = false → ax_r v) (kk : ax_J sh y cc mL ret dp P (pc + 3) ls st (ax_u M k j v)) : ax_J sh y cc mL ret dp P pc ls (x :: .inr (.inr k) :: st) M := by
  obtain ⟨r, h1, h2, h3, h4, h5, h6, ⟨ty0, h7⟩, h8⟩ := hl
  intro p l e s m args below meth c D ca ad X hn hs' hq H locs lsA hP hS hl'
  have hjl : j < (fs.mapIdx (ax_f ad (M k))).length := by simpa using (List.getElem?_eq_some_iff.mp hf).1
  refine va_put (D := D) (ci := ci) (C := r.1) (T := r.2.1) (N := r.2.2) (v := ax_c ad x) (ty := ty) X.1 X.2.1 X.2.2.2.2.2.2.1 h4 ty0 h7 h8 X.2.2.2.2.2.1 X.2.2.2.2.2.2.2.1 hP (ax_D M X.2.2.2.2.2.2.2.2.1) hS k (ax_w_get hs) h1 j h2 (X.2.2.2.2.2.2.1 _ h3) (fun _ h9 => h9) h5 h6 (hnr ad) (hfit ad) hjl hd (fun H1 locs1 hP1 _ hS1 => ?_)
  rw [ax_fs_set hf (hw ad)] at hP1
  have e1 : (ax_w sh ca ad M).set k (ad k, ax_e ca ad (ax_u M k j v k) (.inr (.inr (ci, fs)))) = ax_w sh ca ad (ax_u M k j v) := ax_w_set hs (fun a ha => ax_u_cell ha)
  have hP2 : va_P D ax_cl (ax_w sh ca ad (ax_u M k j v)) H1 := e1 ▸ hP1
  exact kk p l e s m args below meth c D ca ad X (ax_u_n hn (hrn (hs' _ List.mem_cons_self))) (ax_ct (ax_ct hs')) hq H1 locs1 lsA hP2 hS1 hl'
theorem ax_puti {idx ci j k : Nat} {fs : List (Option (Option Nat))} {v : Int} (hd : decode cc pc = .ok (.putfield idx, 3)) (hl : ax_FP y.cls idx ci j .int) (hs : sh[k]? = some (.inr (.inr (ci, fs)))) (hf : fs[j]? = some none) (kk : ax_J sh y cc mL ret dp P (pc + 3) ls st (ax_u M k j v)) : ax_J sh y cc mL ret dp P pc ls (.inl v :: .inr (.inr k) :: st) M :=
  ax_putv hd hl hs hf (fun ad f h => by simp [ax_f, ax_c, h]) (fun _ => rfl) (fun _ => rfl) (fun h _ => h) kk
theorem ax_putl {idx ci j k : Nat} {fs : List (Option (Option Nat))} {v : Int} (hd : decode cc pc = .ok (.putfield idx, 3)) (hl : ax_FP y.cls idx ci j .long) (hs : sh[k]? = some (.inr (.inr (ci, fs)))) (hf : fs[j]? = some (some none)) (kk : ax_J sh y cc mL ret dp P (pc + 3) ls st (ax_u M k j v)) : ax_J sh y cc mL ret dp P pc ls (.inr (.inl v) :: .inr (.inr k) :: st) M :=
  ax_putv hd hl hs hf (fun ad f h => by simp [ax_f, ax_c, h]) (fun _ => rfl) (fun _ => rfl) (fun _ h => by simp [ax_isl, hs, hf] at h) kk
theorem ax_nz {v : Int} (h : v = 0 ∨ v = 1) : narrow .boolean (.int (Int32.ofInt v)) = .int (Int32.ofInt v) ∧ fits .boolean (.int (Int32.ofInt v)) = true ∧ vp_nar .boolean (Int32.ofInt v) = Int32.ofInt v := by
  rcases h with rfl | rfl <;> decide
theorem ax_putz {idx ci j k : Nat} {fs : List (Option (Option Nat))} {v : Int} (hd : decode cc pc = .ok (.putfield idx, 3)) (hl : ax_FP y.cls idx ci j .boolean) (hs : sh[k]? = some (.inr (.inr (ci, fs)))) (hf : fs[j]? = some none) (hv : v = 0 ∨ v = 1) (kk : ax_J sh y cc mL ret dp P (pc + 3) ls st (ax_u M k j v)) : ax_J sh y cc mL ret dp P pc ls (.inl v :: .inr (.inr k) :: st) M :=
  ax_putv hd hl hs hf (fun ad f h => by simp [ax_f, ax_c, h]) (fun _ => (ax_nz hv).1) (fun _ => (ax_nz hv).2.1) (fun h _ => h) kk
-- arrays
theorem ax_iald {k n : Nat} {i : Int} (hd : decode cc pc = .ok (.iaload, 1)) (hs : sh[k]? = some (.inl (0, n))) (h0 : 0 ≤ i) (h1 : i < n) (kk : ax_J sh y cc mL ret dp P (pc + 1) ls (.inl (M k i.toNat) :: st) M) : ax_J sh y cc mL ret dp P pc ls (.inl i :: .inr (.inr k) :: st) M :=
  ax_step (st' := .inl (M k i.toNat) :: st) (fun hn _ h => ax_cc (v := .inl (M k i.toNat)) (ax_na _ hn hs) (ax_ct (ax_ct h))) (fun X _ hv _ hP _ w => va_iald X.1 X.2.1 X.2.2.2.2.2.2.2.1 hP k 0 (ax_w_get hs) rfl (ax_in (ax_cr hv) h0 h1) hd (by rw [ax_cl0 (ax_cr hv)]; exact w)) kk
theorem ax_cald {k n : Nat} {i : Int} (hd : decode cc pc = .ok (.caload, 1)) (hs : sh[k]? = some (.inl (1, n))) (h0 : 0 ≤ i) (h1 : i < n) (kk : ax_J sh y cc mL ret dp P (pc + 1) ls (.inl (M k i.toNat) :: st) M) : ax_J sh y cc mL ret dp P pc ls (.inl i :: .inr (.inr k) :: st) M :=
  ax_step (st' := .inl (M k i.toNat) :: st) (fun hn _ h => ax_cc (v := .inl (M k i.toNat)) (ax_na _ hn hs) (ax_ct (ax_ct h))) (fun X _ hv _ hP _ w => va_cald X.1 X.2.1 X.2.2.2.2.2.2.2.1 hP k 1 (ax_w_get hs) rfl (ax_in (ax_cr hv) h0 h1) hd (by rw [ax_cl0 (ax_cr hv)]; exact w)) kk
theorem ax_zald {k n : Nat} {i : Int} (hd : decode cc pc = .ok (.baload, 1)) (hs : sh[k]? = some (.inl (2, n))) (h0 : 0 ≤ i) (h1 : i < n) (kk : ax_J sh y cc mL ret dp P (pc + 1) ls (.inl (M k i.toNat) :: st) M) : ax_J sh y cc mL ret dp P pc ls (.inl i :: .inr (.inr k) :: st) M :=
  ax_step (st' := .inl (M k i.toNat) :: st) (fun hn _ h => ax_cc (v := .inl (M k i.toNat)) (ax_na _ hn hs) (ax_ct (ax_ct h))) (fun X _ hv _ hP _ w => va_zald X.1 X.2.1 X.2.2.2.2.2.2.2.1 hP k 2 (ax_w_get hs) rfl (ax_in (ax_cr hv) h0 h1) hd (by rw [ax_cl0 (ax_cr hv)]; exact w)) kk
theorem ax_upd {M : ax_Mem} {k j : Nat} {v : Int} : upd (fun j => Int32.ofInt (M k j)) j (Int32.ofInt v) = fun b => Int32.ofInt (ax_u M k j v k b) := by
  funext b
  by_cases h : b = j
  · subst h
    rw [ax_u_at]; simp [upd]
  · rw [ax_u_ne (fun _ => h)]; simp [upd, h]
theorem ax_iast {k n : Nat} {i v : Int} (hd : decode cc pc = .ok (.iastore, 1)) (hs : sh[k]? = some (.inl (0, n))) (h0 : 0 ≤ i) (h1 : i < n) (kk : ax_J sh y cc mL ret dp P (pc + 1) ls st (ax_u M k i.toNat v)) : ax_J sh y cc mL ret dp P pc ls (.inl v :: .inl i :: .inr (.inr k) :: st) M := by
  intro p l e s m args below meth c D ca ad X hn hv hq H locs lsA hP hS hl
  have hi := ax_cr (ax_ct hv)
  refine va_iast X.1 X.2.1 X.2.2.2.2.2.2.2.1 hP (ax_D M X.2.2.2.2.2.2.2.2.1) hS k 0 (ax_w_get hs) rfl (ax_in hi h0 h1) hd (fun H1 locs1 hP1 _ hS1 => ?_)
  rw [ax_cl0 hi, ax_upd] at hP1
  have e1 : (ax_w sh ca ad M).set k (ad k, ax_e ca ad (ax_u M k i.toNat v k) (.inl (0, n))) = ax_w sh ca ad (ax_u M k i.toNat v) := ax_w_set hs (fun a ha => ax_u_cell ha)
  have hP2 : va_P D ax_cl (ax_w sh ca ad (ax_u M k i.toNat v)) H1 := e1 ▸ hP1
  exact kk p l e s m args below meth c D ca ad X (ax_u_n hn (fun _ => ax_cr hv)) (ax_ct (ax_ct (ax_ct hv))) hq H1 locs1 lsA hP2 hS1 hl
theorem ax_nc {v : Int} (h0 : 0 ≤ v) (h1 : v < 65536) : vp_nar .char (Int32.ofInt v) = Int32.ofInt v := by
  obtain ⟨n, rfl⟩ := Int.eq_ofNat_of_zero_le h0
  have h2 := (pk_charN (q := n) (by omega)).1
  show vp_nar .char (nI n) = nI n
  unfold vp_nar
  rw [h2]
theorem ax_cast {k n : Nat} {i v : Int} (hd : decode cc pc = .ok (.castore, 1)) (hs : sh[k]? = some (.inl (1, n))) (h0 : 0 ≤ i) (h1 : i < n) (hv0 : 0 ≤ v) (hv1 : v < 65536) (kk : ax_J sh y cc mL ret dp P (pc + 1) ls st (ax_u M k i.toNat v)) : ax_J sh y cc mL ret dp P pc ls (.inl v :: .inl i :: .inr (.inr k) :: st) M := by
  intro p l e s m args below meth c D ca ad X hn hv hq H locs lsA hP hS hl
  have hi := ax_cr (ax_ct hv)
  refine va_cast X.1 X.2.1 X.2.2.2.2.2.2.2.1 hP (ax_D M X.2.2.2.2.2.2.2.2.1) hS k 1 (ax_w_get hs) rfl (ax_in hi h0 h1) hd (fun H1 locs1 hP1 _ hS1 => ?_)
  rw [ax_cl0 hi, ax_nc hv0 hv1, ax_upd] at hP1
  have e1 : (ax_w sh ca ad M).set k (ad k, ax_e ca ad (ax_u M k i.toNat v k) (.inl (1, n))) = ax_w sh ca ad (ax_u M k i.toNat v) := ax_w_set hs (fun a ha => ax_u_cell ha)
  have hP2 : va_P D ax_cl (ax_w sh ca ad (ax_u M k i.toNat v)) H1 := e1 ▸ hP1
  exact kk p l e s m args below meth c D ca ad X (ax_u_n hn (fun _ => ax_cr hv)) (ax_ct (ax_ct (ax_ct hv))) hq H1 locs1 lsA hP2 hS1 hl
theorem ax_zast {k n : Nat} {i v : Int} (hd : decode cc pc = .ok (.bastore, 1)) (hs : sh[k]? = some (.inl (2, n))) (h0 : 0 ≤ i) (h1 : i < n) (hv1 : v = 0 ∨ v = 1) (kk : ax_J sh y cc mL ret dp P (pc + 1) ls st (ax_u M k i.toNat v)) : ax_J sh y cc mL ret dp P pc ls (.inl v :: .inl i :: .inr (.inr k) :: st) M := by
  intro p l e s m args below meth c D ca ad X hn hv hq H locs lsA hP hS hl
  have hi := ax_cr (ax_ct hv)
  refine va_zast X.1 X.2.1 X.2.2.2.2.2.2.2.1 hP (ax_D M X.2.2.2.2.2.2.2.2.1) hS k 2 (ax_w_get hs) rfl (ax_in hi h0 h1) hd (fun H1 locs1 hP1 _ hS1 => ?_)
  rw [ax_cl0 hi, (ax_nz hv1).2.2, ax_upd] at hP1
  have e1 : (ax_w sh ca ad M).set k (ad k, ax_e ca ad (ax_u M k i.toNat v k) (.inl (2, n))) = ax_w sh ca ad (ax_u M k i.toNat v) := ax_w_set hs (fun a ha => ax_u_cell ha)
  have hP2 : va_P D ax_cl (ax_w sh ca ad (ax_u M k i.toNat v)) H1 := e1 ▸ hP1
  exact kk p l e s m args below meth c D ca ad X (ax_u_n hn (fun _ => ax_cr hv)) (ax_ct (ax_ct (ax_ct hv))) hq H1 locs1 lsA hP2 hS1 hl
theorem ax_aald {k t r : Nat} {rs : List Nat} {i : Int} (hd : decode cc pc = .ok (.aaload, 1)) (ht : t = 3 ∨ t = 4) (hs : sh[k]? = some (.inr (.inl (t, rs)))) (h0 : 0 ≤ i) (hi : rs[i.toNat]? = some r) (kk : ax_J sh y cc mL ret dp P (pc + 1) ls (.inr (.inr r) :: st) M) : ax_J sh y cc mL ret dp P pc ls (.inl i :: .inr (.inr k) :: st) M := by
  have hlt : i.toNat < rs.length := (List.getElem?_eq_some_iff.mp hi).1
  refine ax_step (st' := .inr (.inr r) :: st) (fun hn _ h => ax_cc (v := .inr (.inr r)) trivial (ax_ct (ax_ct h))) (fun {p} {l} {e} {s} {m} {args} {below} {meth} {c} {D} {ca} {ad} {H} {locs} {lsA} {Q} X _ hv _ hP _ w => ?_) kk
  have hK := X.2.2.2.2.2.2.2.1
  have hin := ax_in (ax_cr hv) h0 (n := rs.length) (by omega)
  have hc0 := ax_cl0 (ax_cr hv)
  have hlt' : (Int32.ofInt i).toNatClampNeg < rs.length := by rw [hc0]; exact hlt
  have hval : (fun j => va_rf ((rs[j]?).map ad)) (Int32.ofInt i).toNatClampNeg = .ref (ad r) := by
    show va_rf ((rs[(Int32.ofInt i).toNatClampNeg]?).map ad) = _
    rw [hc0, hi]; rfl
  have hcell := hP k _ (ax_w_get hs)
  rcases ht with rfl | rfl
  · exact W.aald (v := .ref (ad r)) (ty := .object "RowsIntoPlane$Call") X.1 X.2.1 hcell ((hK.2 3 _ rfl).1 rs.length (fun j => va_rf ((rs[j]?).map ad))) rfl (fun q => by cases q) (by show ¬ (_ < 0 ∨ (arrV _ _ _).slots.size ≤ _); rw [arrV_size]; exact hin) (by show (arrV _ _ _).slots[_]? = _; rw [arrV_read _ _ hlt', ← hval]) rfl rfl hd w
  · exact W.aald (v := .ref (ad r)) (ty := .array .int) X.1 X.2.1 hcell ((hK.2 4 _ rfl).1 rs.length (fun j => va_rf ((rs[j]?).map ad))) rfl (fun q => by cases q) (by show ¬ (_ < 0 ∨ (arrV _ _ _).slots.size ≤ _); rw [arrV_size]; exact hin) (by show (arrV _ _ _).slots[_]? = _; rw [arrV_read _ _ hlt', ← hval]) rfl rfl hd w
-- ends
theorem ax_iret {i : Int} {y : MethodName} {cc : ByteArray} (hd : decode cc pc = .ok (.ireturn, 1)) (h : P i M) : ax_J sh y cc mL (some .int) dp P pc ls [.inl i] M := by
  intro p l e s m args below meth c D ca ad X hn hv hq H locs lsA hP hS hl
  exact W.iret X.1 X.2.1 X.2.2.1 (fun t ht hW => ⟨⟨_, M, rfl, ⟨i, ax_cr hv, rfl, h⟩, hn, by rw [ht]; exact hP⟩, hS.F ht⟩) hS.2.2 hd X.2.2.2.2.1
theorem ax_zret {i : Int} {y : MethodName} {cc : ByteArray} (hd : decode cc pc = .ok (.ireturn, 1)) (hz : i = 0 ∨ i = 1) (h : P i M) : ax_J sh y cc mL (some .boolean) dp P pc ls [.inl i] M := by
  intro p l e s m args below meth c D ca ad X hn hv hq H locs lsA hP hS hl
  exact W.zret X.1 X.2.1 X.2.2.1 (ax_nz hz).1 (fun t ht hW => ⟨⟨_, M, rfl, ⟨i, ax_cr hv, rfl, h⟩, hn, by rw [ht]; exact hP⟩, hS.F ht⟩) hS.2.2 hd X.2.2.2.2.1
theorem ax_lret {i : Int} {y : MethodName} {cc : ByteArray} (hd : decode cc pc = .ok (.lreturn, 1)) (h : P i M) : ax_J sh y cc mL (some .long) dp P pc ls [.inr (.inl i)] M := by
  intro p l e s m args below meth c D ca ad X hn hv hq H locs lsA hP hS hl
  exact W.lret X.1 X.2.1 X.2.2.1 (fun t ht hW => ⟨⟨_, M, rfl, ⟨i, rfl, h⟩, hn, by rw [ht]; exact hP⟩, hS.F ht⟩) hS.2.2 hd X.2.2.2.2.1
theorem ax_vret {y : MethodName} {cc : ByteArray} (hd : decode cc pc = .ok (.return_, 1)) (h : P 0 M) : ax_J sh y cc mL none dp P pc ls [] M := by
  intro p l e s m args below meth c D ca ad X hn hv hq H locs lsA hP hS hl
  exact W.vret X.1 X.2.1 X.2.2.1 (fun t ht hW => ⟨⟨M, rfl, h, hn, by rw [ht]; exact hP⟩, hS.F ht⟩) hS.2.2 hd X.2.2.2.2.1
end AXM
