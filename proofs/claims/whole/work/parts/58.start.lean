/-! the law from its entry: the two constructors, then the loop -/
theorem lx_pl {D : va_G} {cl : List vw_C} {w1 w2 : va_W} {H : Heap} (h : va_P D cl (w1 ++ w2) H) : va_P D cl w1 H := fun k q hk => h k q (by rw [List.getElem?_append_left (List.getElem?_eq_some_iff.mp hk).1]; exact hk)
theorem lx_pr {D : va_G} {cl : List vw_C} {w1 w2 : va_W} {H : Heap} (h : va_P D cl (w1 ++ w2) H) : va_P D cl w2 H := fun k q hk => h (w1.length + k) q (by rw [List.getElem?_append_right (Nat.le_add_right _ _), Nat.add_sub_cancel_left]; exact hk)
theorem lx_lenw (sh : List ax_Sh) (ca : Nat → ClassId) (ad : Nat → Nat) (M : ax_Mem) : (ax_w sh ca ad M).length = sh.length := by simp [ax_w]
theorem lx_gl {sh1 sh2 : List ax_Sh} {ca : Nat → ClassId} {a1 a2 : Nat → Nat} {M1 M2 : ax_Mem} {i : Nat} (h : i < sh1.length) : ∃ e, (ax_w sh1 ca a1 M1 ++ ax_w sh2 ca a2 M2)[i]? = some (a1 i, e) := by
  have h1 := ax_w_get (ca := ca) (ad := a1) (M := M1) (List.getElem?_eq_getElem h)
  exact ⟨_, by rw [List.getElem?_append_left (by rw [lx_lenw]; exact h)]; exact h1⟩
theorem lx_gr {sh1 sh2 : List ax_Sh} {ca : Nat → ClassId} {a1 a2 : Nat → Nat} {M1 M2 : ax_Mem} {i : Nat} (h : i < sh2.length) : ∃ e, (ax_w sh1 ca a1 M1 ++ ax_w sh2 ca a2 M2)[sh1.length + i]? = some (a2 i, e) := by
  have h1 := ax_w_get (ca := ca) (ad := a2) (M := M2) (List.getElem?_eq_getElem h)
  exact ⟨_, by rw [List.getElem?_append_right (by rw [lx_lenw]; exact Nat.le_add_right _ _), lx_lenw, Nat.add_sub_cancel_left]; exact h1⟩
/-- what stands behind the two constructors -/
theorem lx_made {p : Program} {s : State} {m : MethodId} {meth : Method} {c : Code} {b L : Nat} {xs : Nat → Int32} {D : va_G} {ca : Nat → ClassId} {aX aM : Nat → Nat} {X Y : ax_Mem} (C0 : lw_At p s m meth c b L xs) (hK : va_K D ax_cl (ax_tys ca) s) (hN : va_Nw ax_nest s) (hD : va_D (fun q : Nat => s.heap.size ≤ q) (ax_w shX ca aX X ++ ax_w shM ca aM Y)) : lx_F p s m meth c b L xs D ca aX aM := by
  refine ⟨C0, hK, hN, fun i j hi hj e => ?_, fun i j hi hj e => ?_, fun i j hi hj e => ?_, fun i hi => ?_, fun i hi => ?_⟩
  · obtain ⟨e1, h1⟩ := lx_gl (sh2 := shM) (ca := ca) (a1 := aX) (a2 := aM) (M1 := X) (M2 := Y) hi
    obtain ⟨e2, h2⟩ := lx_gl (sh2 := shM) (ca := ca) (a1 := aX) (a2 := aM) (M1 := X) (M2 := Y) hj
    exact hD.1 i j _ _ h1 h2 e
  · obtain ⟨e1, h1⟩ := lx_gr (sh1 := shX) (ca := ca) (a1 := aX) (a2 := aM) (M1 := X) (M2 := Y) hi
    obtain ⟨e2, h2⟩ := lx_gr (sh1 := shX) (ca := ca) (a1 := aX) (a2 := aM) (M1 := X) (M2 := Y) hj
    have := hD.1 _ _ _ _ h1 h2 e
    omega
  · obtain ⟨e1, h1⟩ := lx_gl (sh2 := shM) (ca := ca) (a1 := aX) (a2 := aM) (M1 := X) (M2 := Y) hi
    obtain ⟨e2, h2⟩ := lx_gr (sh1 := shX) (ca := ca) (a1 := aX) (a2 := aM) (M1 := X) (M2 := Y) hj
    have := hD.1 _ _ _ _ h1 h2 e
    omega
  · obtain ⟨e1, h1⟩ := lx_gl (sh2 := shM) (ca := ca) (a1 := aX) (a2 := aM) (M1 := X) (M2 := Y) hi
    exact hD.2 i _ h1
  · obtain ⟨e1, h1⟩ := lx_gr (sh1 := shX) (ca := ca) (a1 := aX) (a2 := aM) (M1 := X) (M2 := Y) hi
    exact hD.2 _ _ h1
section LS
variable {p : Program} {l : Launch} {e : Env} {s : State} {m : MethodId} {below : List Frame} {meth : Method} {c : Code} {b L : Nat} {xs : Nat → Int32} {D : va_G} {ca : Nat → ClassId} {H : Heap} {locs : List Loc} {cells slots pc : Nat} {lsA : Array Slot} {ls : List (Nat × Value)} {st : List Value} {ws : va_W} {Q : State → Prop}
/-- new, in the law -/
theorem lx_new {idx ci N : Nat} {fs : List Value} (C0 : lw_At p s m meth c b L xs) (hK : va_K D ax_cl (ax_tys ca) s) (hl0 : cx_NW "RowsIntoPlaneLaw" idx ci N fs) (hP : va_P D ax_cl ws H) (hD : va_D (fun q : Nat => s.heap.size ≤ q) ws) (hS : va_S (fun q : Nat => s.heap.size ≤ q) s.heap H locs) (hd : decode code pc = .ok (.new idx, 3)) (hc : cells + 1 ≤ 600000) (hs : slots + N ≤ 7302250)
    (k : ∀ (q : Nat) (H1 : Heap), va_P D ax_cl (ws ++ [(q, .inr (ci, fs))]) H1 → va_D (fun q : Nat => s.heap.size ≤ q) (ws ++ [(q, .inr (ci, fs))]) → va_S (fun q : Nat => s.heap.size ≤ q) s.heap H1 locs → W p l e room_1 s m #[Value.ref b] below meth c H1 locs (cells + 1) (slots + N) Q (F0 m (pc + 3) lsA (.ref q :: st))) : W p l e room_1 s m #[Value.ref b] below meth c H locs cells slots Q (F0 m pc lsA st) := by
  obtain ⟨hx, hb, hr, hml, hown, hts, hXs, hbl, hlocks, hgv⟩ := C0
  have htsG : ∀ w ∈ ax_Ts, w.before #[Value.ref b] s = true := fun w h => hts w (ax_Ts_sub w h)
  obtain ⟨r, h1, h2, h3, h4, h5, h6, ty, h7, h8⟩ := hl0
  subst h2
  exact va_new (D := D) (ci := ci) (fs := fs) (C := r.1) (T := r.2.1) (N := r.2.2) hx hb htsG h6 ty h7 hown (htsG _ h3) (htsG _ h4) (htsG _ h5) hK hP hD hS (fun _ h => h) h1 h8 hc hs hd k
/-- a constructor's call, in the law -/
theorem lx_init {y2 : MethodName} {cc2 : ByteArray} {mL2 dp2 mc2 ms2 idx q : Nat} {e0 : va_E} {F2 : (Nat → Nat) → va_W} {wr : va_W} (C0 : lw_At p s m meth c b L xs) (hK : va_K D ax_cl (ax_tys ca) s) (hN : cx_N s) (qb : Nat) (isR : List Nat) (hd : decode code pc = .ok (.invokespecial idx, 3)) (hw : cx_W y2 cc2 mL2 0) (hl0 : Cond.methodLink "RowsIntoPlaneLaw" idx y2 ∈ ax_Ts) (hM : cx_C D ca y2 cc2 mL2 dp2 mc2 ms2 [.ref q] q [(q, e0)] F2) (hC : ws[qb]? = some (q, e0)) (hR : isR.map (fun i => ws[i]?) = wr.map some) (hnd : va_nd isR = true) (hdis : ∀ i ∈ isR, i ∉ [qb]) (hdp : dp2 ≤ 5) (hP : va_P D ax_cl ws H) (hD : va_D (fun q : Nat => s.heap.size ≤ q) ws) (hS : va_S (fun q : Nat => s.heap.size ≤ q) s.heap H locs) (hls : lv_has lsA 4 ls) (hz : (st.map fun v => v.category).sum ≤ 8) (hc : cells + mc2 ≤ 600000) (hs : slots + ms2 ≤ 7302250)
    (k : ∀ (u : Nat → Nat) (H1 : Heap) (locs1 : List Loc), u 0 = q → va_P D ax_cl (wr ++ F2 u) H1 → va_D (fun q : Nat => s.heap.size ≤ q) (wr ++ F2 u) → va_S (fun q : Nat => s.heap.size ≤ q) s.heap H1 locs1 → W p l e room_1 s m #[Value.ref b] below meth c H1 locs1 (cells + mc2) (slots + ms2) Q (F0 m (pc + 3) lsA st)) : W p l e room_1 s m #[Value.ref b] below meth c H locs cells slots Q (F0 m pc lsA (.ref q :: st)) := by
  obtain ⟨hx, hb, hr, hml, hown, hts, hXs, hbl, hlocks, hgv⟩ := C0
  have htsG : ∀ w ∈ ax_Ts, w.before #[Value.ref b] s = true := fun w h => hts w (ax_Ts_sub w h)
  obtain ⟨w1, w2, w3, w4, w5, w6⟩ := hw
  have hC2 : [qb].map (fun i => ws[i]?) = ([(q, e0)] : va_W).map some := by simp [hC]
  have hFc := va_free (wc := [(q, e0)]) hD hS (fun _ h => h) [qb] hC2
  refine va_callv (S := Nat → Nat) (post := fun u : Nat → Nat => u 0 = q) (B := fun u t => va_P D ax_cl (F2 u) t.heap ∧ va_D (va_A [(q, e0)] H.size) (F2 u)) (A1 := va_A [(q, e0)] H.size) (a := [Value.ref q].toArray) (va_runI (As := []) (b := q) (n := 0) (Ts := ax_Ts) (bytes := cc2) (maxL := mL2) (own := "RowsIntoPlaneLaw") ⟨hx, hb, hml, hown, htsG⟩ (hM l H.size) ⟨?_, w4, htsG _ w3⟩ ⟨cx_blind _, ?_⟩ rfl rfl hls.1 rfl (lv_room hz) hd ⟨hc, hs⟩) hS (fun q _ h => hFc q h) hFc (fun u t H1 locs1 ht hvm hu hB hz1 hk1 hS1 => ?_)
  · exact callB_of 0 htsG (ax_good w1) rfl rfl rfl (htsG _ w2) (htsG _ hl0) w5 ⟨by show dp2 + 1 ≤ 11; omega, by show 8 + (mL2 + 11) + 36 * dp2 ≤ 410; omega⟩
  · intro U hU hW
    exact ⟨rfl, by rw [hU], by rw [hU]; exact hP.sub [qb] (by simp [hC]), va_K.moved hW.alike hK, hN.warm hW, (hD.sub [qb] rfl (by simp [hC])).weaken (fun _ _ _ _ => trivial)⟩
  · obtain ⟨hP1, hD1⟩ := hB
    rw [ht] at hP1
    obtain ⟨hP2, hD2⟩ := va_join (wr := wr) (w1 := F2 u) hP hD [qb] isR hC2 hR hnd hdis hk1 hFc hP1 hD1
    exact k u H1 locs1 hu hP2 hD2 hS1
end LS
theorem lx_pick {ws : va_W} : (List.range ws.length).map (fun i => ws[i]?) = ws.map some := by
  apply List.ext_getElem?
  intro i
  rw [List.getElem?_map, List.getElem?_map]
  rcases Nat.lt_or_ge i ws.length with h | h
  · rw [List.getElem?_range h, List.getElem?_eq_getElem h]
    simp [h]
  · rw [List.getElem?_eq_none (by simpa using h), List.getElem?_eq_none h]
    rfl
theorem lx_pick2 {ws : va_W} {x : Nat × va_E} {n : Nat} (hn : ws.length = n) : (List.range n).map (fun i => (ws ++ [x])[i]?) = ws.map some := by
  subst hn
  rw [← lx_pick (ws := ws)]
  apply List.map_congr_left
  intro i hi
  exact List.getElem?_append_left (List.mem_range.mp hi)
theorem lx_lenX (ca : Nat → ClassId) (u : Nat → Nat) : (iF_X ca u).length = 71 := by
  rw [show iF_X ca u = ax_w shX ca u (fun _ _ => 0) from ix_w_eq _ _ _ _, lx_lenw]
  rfl
set_option maxRecDepth 20000 in
theorem whole_start {p : Program} {e : Env} {s : State} {m : MethodId} {below : List Frame} {meth : Method} {c : Code} (l : Launch) {b L : Nat} {xs : Nat → Int32} (hL : L ≤ 4096) (C0 : lw_At p s m meth c b L xs) : W p l e room_1 s m #[Value.ref b] below meth c s.heap [] 0 0 (lw_Z below #[Value.ref b] s) (entryFrame m ([Value.ref b] : List Value).toArray 4) := by
  obtain ⟨hx, hb, hr, hml, hown, hts, hXs, hbl, hlocks, hgv⟩ := id C0
  obtain ⟨D, ca, hK⟩ := lx_K hts
  obtain ⟨hN, hNn⟩ := lx_N hts
  have hS : va_S (fun q : Nat => s.heap.size ≤ q) s.heap s.heap [] := va_S.rf
  have hP : va_P D ax_cl [] s.heap := fun k q h => by simp at h
  have hD : va_D (fun q : Nat => s.heap.size ≤ q) [] := ⟨fun i j p q h => by simp at h, fun k q h => by simp at h⟩
  have hl := lv_entry ([.ref b]) (n := 4) (Nat.le_of_ble_eq_true rfl)
  rw [lg_entry_eq]
  generalize (lg_sl ([.ref b]) ++ List.replicate (4 - (lg_sl ([.ref b])).length) Slot.unset).toArray = lsA at hl ⊢
  have hl : lv_has lsA 4 [(0, .ref b)] := hl
  refine lx_new C0 hK in_W_7 hP hD hS dl_0 (by decide) (by decide) (fun q1 H1 hP1 hD1 hS1 => ?_)
  refine lv_dup hx hb dl_3 rfl ?_
  refine lx_init (wr := []) C0 hK hN 0 [] dl_4 iw_X il_W_9 (ic_X D ca q1) rfl rfl rfl (by decide) (by decide) hP1 hD1 hS1 hl (Nat.le_of_ble_eq_true rfl) (by decide) (by decide) (fun u H2 locs2 hu hP2 hD2 hS2 => ?_)
  subst hu
  refine lv_astore_n (lv' := [(1, .ref (u 0)), (0, .ref b)]) hx hb dl_7 rfl hl (by decide) rfl (fun lsA2 hl2 => ?_)
  have hP3 : va_P D ax_cl (iF_X ca u) H2 := hP2
  have hD3 : va_D (fun q : Nat => s.heap.size ≤ q) (iF_X ca u) := hD2
  refine lx_new C0 hK in_W_10 hP3 hD3 hS2 dl_8 (by decide) (by decide) (fun q4 H4 hP4 hD4 hS4 => ?_)
  refine lv_dup hx hb dl_11 rfl ?_
  refine lx_init (wr := iF_X ca u) C0 hK hN 71 (List.range 71) dl_12 iw_M il_W_12 (ic_M D ca q4) (by rw [List.getElem?_append_right (by rw [lx_lenX]; exact Nat.le_refl _), lx_lenX]; rfl) (lx_pick2 (lx_lenX ca u)) (by decide) (by decide) (by decide) hP4 hD4 hS4 hl2 (Nat.le_of_ble_eq_true rfl) (by decide) (by decide) (fun v H5 locs5 hv hP5 hD5 hS5 => ?_)
  subst hv
  refine lv_astore_n (lv' := [(2, .ref (v 0)), (1, .ref (u 0)), (0, .ref b)]) hx hb dl_15 rfl hl2 (by decide) rfl (fun lsA3 hl3 => ?_)
  refine lv_iconst (v := Int32.ofInt ((8 * 0 : Nat) : Int)) hx hb dl_16 rfl ?_
  refine lv_istore_n (lv' := lx_ls b u v (8 * 0)) hx hb dl_17 rfl hl3 (by decide) rfl (fun lsA4 hl4 => ?_)
  rw [show iF_X ca u = ax_w shX ca u (fun _ _ => 0) from ix_w_eq _ _ _ _, show iF_M ca v = ax_w shM ca v (ax_u (fun _ _ => 0) 0 33 (-1)) from ix_w_eq _ _ _ _] at hP5 hD5
  have F := lx_made C0 hK hNn hD5
  have z0 : ax_r 0 := ⟨by decide, by decide⟩
  have n0 : ∀ sh, ax_n sh (fun _ _ => 0) := fun sh k j _ => z0
  refine W.widen (k := 90) (n := 910) (by decide) (by decide) ?_
  exact lx_loop F hL 600 0 (fun _ _ => 0) (ax_u (fun _ _ => 0) 0 33 (-1)) (by omega) (by omega) inv_0 H5 locs5 lsA4 (n0 shX) (ax_u_n (n0 shM) (fun _ => ⟨by decide, by decide⟩)) (lx_pl hP5) (lx_pr hP5) hS5 hl4
