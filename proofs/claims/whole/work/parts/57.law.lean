/-! the law: what holds at its start, its loop, its walk from the entry (in part by program mk57.py) -/
theorem in_W_7 : cx_NW "RowsIntoPlaneLaw" 7 8 11 [.null, .null, .null, .null, .null, .null, .null, .null, .null, .int (Int32.ofInt 0), .int (Int32.ofInt 0)] := ⟨(rn_8, tb_8, 11), rfl, rfl, ax_mem 75 (by decide +kernel) (by decide +kernel), ax_mem 76 (by decide +kernel) (by decide +kernel), ax_mem 63 (by decide +kernel) (by decide +kernel), wi_8, ft_8, fo_8, by
  intro j hj
  change j < 11 at hj
  have : j = 0 ∨ j = 1 ∨ j = 2 ∨ j = 3 ∨ j = 4 ∨ j = 5 ∨ j = 6 ∨ j = 7 ∨ j = 8 ∨ j = 9 ∨ j = 10 := by omega
  rcases this with rfl | rfl | rfl | rfl | rfl | rfl | rfl | rfl | rfl | rfl | rfl <;> rfl⟩
theorem in_W_10 : cx_NW "RowsIntoPlaneLaw" 10 9 37 [.int (Int32.ofInt 0), .int (Int32.ofInt 0), .int (Int32.ofInt 0), .int (Int32.ofInt 0), .int (Int32.ofInt 0), .null, .null, .int (Int32.ofInt 0), .int (Int32.ofInt 0), .null, .int (Int32.ofInt 0), .int (Int32.ofInt 0), .null, .int (Int32.ofInt 0), .null, .null, .null, .int (Int32.ofInt 0), .null, .null, .null, .null, .null, .null, .int (Int32.ofInt 0), .int (Int32.ofInt 0), .int (Int32.ofInt 0), .int (Int32.ofInt 0), .null, .null, .int (Int32.ofInt 0), .null, .null, .int (Int32.ofInt 0), .int (Int32.ofInt 0), .null, .long (Int64.ofInt 0)] := ⟨(rn_9, tb_9, 37), rfl, rfl, ax_mem 767 (by decide +kernel) (by decide +kernel), ax_mem 768 (by decide +kernel) (by decide +kernel), ax_mem 72 (by decide +kernel) (by decide +kernel), wi_9, ft_9, fo_9, by
  intro j hj
  change j < 37 at hj
  have : j = 0 ∨ j = 1 ∨ j = 2 ∨ j = 3 ∨ j = 4 ∨ j = 5 ∨ j = 6 ∨ j = 7 ∨ j = 8 ∨ j = 9 ∨ j = 10 ∨ j = 11 ∨ j = 12 ∨ j = 13 ∨ j = 14 ∨ j = 15 ∨ j = 16 ∨ j = 17 ∨ j = 18 ∨ j = 19 ∨ j = 20 ∨ j = 21 ∨ j = 22 ∨ j = 23 ∨ j = 24 ∨ j = 25 ∨ j = 26 ∨ j = 27 ∨ j = 28 ∨ j = 29 ∨ j = 30 ∨ j = 31 ∨ j = 32 ∨ j = 33 ∨ j = 34 ∨ j = 35 ∨ j = 36 := by omega
  rcases this with rfl | rfl | rfl | rfl | rfl | rfl | rfl | rfl | rfl | rfl | rfl | rfl | rfl | rfl | rfl | rfl | rfl | rfl | rfl | rfl | rfl | rfl | rfl | rfl | rfl | rfl | rfl | rfl | rfl | rfl | rfl | rfl | rfl | rfl | rfl | rfl | rfl <;> rfl⟩
theorem il_W_9 : Cond.methodLink "RowsIntoPlaneLaw" 9 iy_X ∈ ax_Ts := ax_mem 77 (by decide +kernel) (by decide +kernel)
theorem il_W_12 : Cond.methodLink "RowsIntoPlaneLaw" 12 iy_M ∈ ax_Ts := ax_mem 769 (by decide +kernel) (by decide +kernel)
theorem lx_m {w : Cond} (i : Nat) (h : lw_tbl[i]? = some w) : w ∈ lw_tbl := List.mem_of_getElem? h
theorem lx_Kc {s : State} {args : Array Value} (hts : ∀ w ∈ ax_Ts, w.before args s = true) : ∀ k : Nat, ∃ (cC : ClassId) (iS : Nat → Nat), ∀ q, ax_cl[k]? = some q → u_Kn s q.1 q.2.1 q.2.2 cC iS := by
  have h0 : (Cond.instantiable rn_0 16).before args s = true := hts _ (ax_mem 246 (by decide +kernel) (by decide +kernel))
  have h1 : (Cond.instantiable rn_1 4).before args s = true := hts _ (ax_mem 84 (by decide +kernel) (by decide +kernel))
  have h2 : (Cond.instantiable rn_2 3).before args s = true := hts _ (ax_mem 230 (by decide +kernel) (by decide +kernel))
  have h3 : (Cond.instantiable rn_3 4).before args s = true := hts _ (ax_mem 169 (by decide +kernel) (by decide +kernel))
  have h4 : (Cond.instantiable rn_4 9).before args s = true := hts _ (ax_mem 305 (by decide +kernel) (by decide +kernel))
  have h5 : (Cond.instantiable rn_5 2).before args s = true := hts _ (ax_mem 212 (by decide +kernel) (by decide +kernel))
  have h6 : (Cond.instantiable rn_6 3).before args s = true := hts _ (ax_mem 189 (by decide +kernel) (by decide +kernel))
  have h7 : (Cond.instantiable rn_7 8).before args s = true := hts _ (ax_mem 109 (by decide +kernel) (by decide +kernel))
  have h8 : (Cond.instantiable rn_8 11).before args s = true := hts _ (ax_mem 76 (by decide +kernel) (by decide +kernel))
  have h9 : (Cond.instantiable rn_9 37).before args s = true := hts _ (ax_mem 768 (by decide +kernel) (by decide +kernel))
  intro k
  match k with
  | 0 =>
    obtain ⟨cC, iS, h⟩ := u_known (C := rn_0) (T := tb_0) (N := 16) hts wi_0 h0
    exact ⟨cC, iS, fun q hq => by cases hq; exact h⟩
  | 1 =>
    obtain ⟨cC, iS, h⟩ := u_known (C := rn_1) (T := tb_1) (N := 4) hts wi_1 h1
    exact ⟨cC, iS, fun q hq => by cases hq; exact h⟩
  | 2 =>
    obtain ⟨cC, iS, h⟩ := u_known (C := rn_2) (T := tb_2) (N := 3) hts wi_2 h2
    exact ⟨cC, iS, fun q hq => by cases hq; exact h⟩
  | 3 =>
    obtain ⟨cC, iS, h⟩ := u_known (C := rn_3) (T := tb_3) (N := 4) hts wi_3 h3
    exact ⟨cC, iS, fun q hq => by cases hq; exact h⟩
  | 4 =>
    obtain ⟨cC, iS, h⟩ := u_known (C := rn_4) (T := tb_4) (N := 9) hts wi_4 h4
    exact ⟨cC, iS, fun q hq => by cases hq; exact h⟩
  | 5 =>
    obtain ⟨cC, iS, h⟩ := u_known (C := rn_5) (T := tb_5) (N := 2) hts wi_5 h5
    exact ⟨cC, iS, fun q hq => by cases hq; exact h⟩
  | 6 =>
    obtain ⟨cC, iS, h⟩ := u_known (C := rn_6) (T := tb_6) (N := 3) hts wi_6 h6
    exact ⟨cC, iS, fun q hq => by cases hq; exact h⟩
  | 7 =>
    obtain ⟨cC, iS, h⟩ := u_known (C := rn_7) (T := tb_7) (N := 8) hts wi_7 h7
    exact ⟨cC, iS, fun q hq => by cases hq; exact h⟩
  | 8 =>
    obtain ⟨cC, iS, h⟩ := u_known (C := rn_8) (T := tb_8) (N := 11) hts wi_8 h8
    exact ⟨cC, iS, fun q hq => by cases hq; exact h⟩
  | 9 =>
    obtain ⟨cC, iS, h⟩ := u_known (C := rn_9) (T := tb_9) (N := 37) hts wi_9 h9
    exact ⟨cC, iS, fun q hq => by cases hq; exact h⟩
  | k + 10 =>
    obtain ⟨cC, iS, h⟩ := u_known (C := rn_0) (T := tb_0) (N := 16) hts wi_0 h0
    exact ⟨cC, iS, fun q hq => by cases hq⟩
/-- the classes and array classes at the law's start -/
theorem lx_K {s : State} {args : Array Value} (hts : ∀ w ∈ lw_tbl, w.before args s = true) : ∃ (D : va_G) (ca : Nat → ClassId), va_K D ax_cl (ax_tys ca) s := by
  have hc := lx_Kc (s := s) (args := args) (fun w h => hts w (ax_Ts_sub w h))
  obtain ⟨a0, k0, p0, x0, y0, z0⟩ := Cond.arrayClass_spec (hts (.arrayClass .int) (lx_m 167 (by decide +kernel)))
  obtain ⟨a1, k1, p1, x1, y1, z1⟩ := Cond.arrayClass_spec (hts (.arrayClass .char) (lx_m 208 (by decide +kernel)))
  obtain ⟨a2, k2, p2, x2, y2, z2⟩ := Cond.arrayClass_spec (hts (.arrayClass .boolean) (lx_m 340 (by decide +kernel)))
  obtain ⟨p3, a3, k3, w3, -, y3, z3, x3⟩ := Cond.arrayOver_spec (hts (.arrayOver (.object "RowsIntoPlane$Call")) (lx_m 210 (by decide +kernel)))
  obtain ⟨p4, a4, k4, w4, -, y4, z4, x4⟩ := arrayOverA_spec (hts (.arrayOver (.array .int)) (lx_m 252 (by decide +kernel)))
  refine ⟨(fun k => Classical.choose (hc k), fun k => Classical.choose (Classical.choose_spec (hc k))), fun k => ([a0, a1, a2, a3, a4] : List ClassId).getD k a0, fun k q hq => Classical.choose_spec (Classical.choose_spec (hc k)) q hq, fun k q hq => ?_⟩
  match k, hq with
  | 0, hq => cases hq; exact ⟨fun n z => ⟨fun k h => (by cases h), k0, y0, p0, z0⟩, x0⟩
  | 1, hq => cases hq; exact ⟨fun n z => ⟨fun k h => (by cases h), k1, y1, p1, z1⟩, x1⟩
  | 2, hq => cases hq; exact ⟨fun n z => ⟨fun k h => (by cases h), k2, y2, p2, z2⟩, x2⟩
  | 3, hq => cases hq; exact ⟨fun n z => ⟨fun k h => (by cases h), k3, y3, p3, z3⟩, k3, p3, y3, z3, w3, x3⟩
  | 4, hq => cases hq; exact ⟨fun n z => ⟨fun k h => (by cases h), k4, y4, p4, z4⟩, x4⟩
  | k + 5, hq => cases hq
/-- the words that are no good words -/
theorem lx_N {s : State} {args : Array Value} (hts : ∀ w ∈ lw_tbl, w.before args s = true) : cx_N s ∧ va_Nw ax_nest s := by
  obtain ⟨p4, a4, k4, w4, -, y4, z4, x4⟩ := arrayOverA_spec (hts (.arrayOver (.array .int)) (lx_m 252 (by decide +kernel)))
  exact ⟨⟨⟨a4, p4, k4, x4, w4, y4, z4⟩, va_AO.of (hts _ (lx_m 210 (by decide +kernel))), va_Nw.of rfl (hts cx_n9 (lx_m 85 (by decide +kernel))), va_Nw.of rfl (hts cx_n18 (lx_m 110 (by decide +kernel))), va_Nw.of rfl (hts cx_n25 (lx_m 170 (by decide +kernel))), va_Nw.of rfl (hts cx_n32 (lx_m 190 (by decide +kernel))), va_Nw.of rfl (hts cx_n45 (lx_m 213 (by decide +kernel))), va_Nw.of rfl (hts cx_n53 (lx_m 231 (by decide +kernel)))⟩, va_Nw.of rfl (hts ax_nest (lx_m 406 (by decide +kernel)))⟩
theorem lx_and31 (x : Int32) : ∃ k : Nat, k < 32 ∧ x &&& 31 = Int32.ofInt (k : Int) := by
  obtain ⟨n, hn, e⟩ := wb_of32 (x &&& 31)
  refine ⟨n, ?_, e⟩
  have h1 : (x &&& 31).toBitVec.toNat = n := by
    rw [e]
    show (BitVec.ofNat 32 n).toNat = n
    rw [BitVec.toNat_ofNat, Nat.mod_eq_of_lt hn]
  have h2 : (x &&& 31).toBitVec.toNat ≤ 31 := by
    rw [Int32.toBitVec_and, BitVec.toNat_and]
    exact Nat.and_le_right
  omega
theorem inv_0 : INV ((0 : Nat) : Int) (fun _ _ => 0) (ax_u (fun _ _ => 0) 0 33 (-1)) := by
  have n0 : ∀ {Q : Prop} {p : Nat}, (p : Int) < 0 → Q := fun h => absurd h (by omega)
  have d0 : ∀ n : Int, 0 ≤ n → (0 : Int) ≤ 0 ∧ (0 : Int) ≤ n := fun n h => ⟨Int.le_refl _, h⟩
  refine ⟨⟨d0 _ (by decide), d0 _ (by decide), fun p hp => n0 hp⟩, ⟨⟨rfl, rfl, rfl, rfl⟩, fun p hp => n0 hp⟩, ⟨Or.inl rfl, d0 _ (by decide), d0 _ (by decide)⟩, ⟨rfl, Int.le_refl _, Int.le_refl _⟩, ⟨d0 _ (by decide), rfl, fun i hi => n0 hi⟩, ⟨d0 _ (by decide), rfl, fun c hc => n0 hc⟩, ⟨rfl, d0 _ (by decide)⟩, Int.le_refl _, Or.inr ⟨rfl, Or.inl rfl⟩⟩
section LL
variable {p : Program} {l : Launch} {e : Env} {s : State} {m : MethodId} {below : List Frame} {meth : Method} {c : Code} {b L : Nat} {xs : Nat → Int32} {D : va_G} {ca : Nat → ClassId} {aX aM : Nat → Nat}
/-- the loop's test -/
theorem lx_test (F : lx_F p s m meth c b L xs D ca aX aM) (hL : L ≤ 4096) {i : Nat} (hi : i ≤ 5000) {X Y : ax_Mem} (k1 : L < i + 8 → lx_J p l e s m below meth c b D ca aX aM 1025 (lx_ls b aX aM i) [] X Y) (k2 : i + 8 ≤ L → lx_J p l e s m below meth c b D ca aX aM 27 (lx_ls b aX aM i) [] X Y) : lx_J p l e s m below meth c b D ca aX aM 18 (lx_ls b aX aM i) [] X Y := by
  intro H locs lsA nX nY hX hY hS hl
  obtain ⟨hx, hb, hr, hml, hown, hts, hXs, hbl, hlocks, hgv⟩ := F.1
  refine lv_iload_n hx hb dl_18 rfl (lv_at hl 0 rfl) ?_
  refine lv_aload_n hx hb dl_19 rfl (lv_at hl 3 rfl) ?_
  refine va_slen hx hb hXs hbl (Nat.not_le.mpr hbl) hS dl_20 ?_
  refine lv_bipush (v := 8) hx hb dl_21 (by decide) ?_
  refine lv_isub hx hb dl_23 ?_
  have e : Int32.ofNat L - 8 = Int32.ofInt ((L : Int) - 8) := by
    rw [Int32.ofInt_sub]
    rfl
  rw [e]
  have r1 : ax_r ((L : Int) - 8) := ⟨by omega, by omega⟩
  have r2 : ax_r (i : Int) := ⟨by omega, by omega⟩
  refine lv_icmp_gt (tgt := 1025) hx hb dl_24 (by decide) (fun h => ?_) (fun h => ?_)
  · have h1 := (ax_lt r1 r2).mp h
    exact k1 (by omega) H locs lsA nX nY hX hY hS hl
  · have h1 : ¬ ((L : Int) - 8 < (i : Int)) := fun q => h ((ax_lt r1 r2).mpr q)
    exact k2 (by omega) H locs lsA nX nY hX hY hS hl
/-- the end -/
theorem lx_end (F : lx_F p s m meth c b L xs D ca aX aM) {i : Nat} {X Y : ax_Mem} : lx_J p l e s m below meth c b D ca aX aM 1025 (lx_ls b aX aM i) [] X Y := by
  intro H locs lsA nX nY hX hY hS hl
  obtain ⟨hx, hb, hr, hml, hown, hts, hXs, hbl, hlocks, hgv⟩ := F.1
  refine lv_iconst (v := 1) hx hb dl_1025 (by decide) ?_
  refine va_forget (fun q hq => hS.2.2 q hq) ?_
  refine W.widen (k := 600000) (n := 7302250) (by decide) (by decide) ?_
  exact lw_ret hx hb hr hlocks dl_1026
/-- on to the next call -/
theorem lx_next (F : lx_F p s m meth c b L xs D ca aX aM) {i : Nat} {X Y : ax_Mem} (k : lx_J p l e s m below meth c b D ca aX aM 18 (lx_ls b aX aM (i + 8)) [] X Y) : lx_J p l e s m below meth c b D ca aX aM 1019 (lx_ls b aX aM i) [] X Y := by
  intro H locs lsA nX nY hX hY hS hl
  obtain ⟨hx, hb, hr, hml, hown, hts, hXs, hbl, hlocks, hgv⟩ := F.1
  have hv : Int32.ofInt (i : Int) + Int32.ofInt 8 = Int32.ofInt ((i + 8 : Nat) : Int) := by
    rw [← Int32.ofInt_add]
    rfl
  refine lv_iinc (k := 0) (lv' := lx_ls b aX aM (i + 8)) hx hb dl_1019 hl rfl hv (by decide) rfl (fun ls2 h2 => ?_)
  refine lv_goto (tgt := 18) hx hb dl_1022 (by decide) ?_
  exact k H locs ls2 nX nY hX hY hS h2
/-- the switch -/
theorem lx_switch (F : lx_F p s m meth c b L xs D ca aX aM) {i : Nat} {X Y : ax_Mem} (hi : i + 8 ≤ L) (hL : L ≤ 4096) (kd : lx_J p l e s m below meth c b D ca aX aM 1019 (lx_ls b aX aM i) [] X Y) (kc : ∀ (k : Nat) (off : Int) (tgt : Nat), (#[127, 170, 257, 290, 323, 366, 419, 432, 445, 458, 491, 524, 567, 610, 623, 646, 669, 702, 735, 758, 801, 824, 857, 880, 923, 936, 949, 972] : Array Int)[k]? = some off → (33 : Int) + off = (tgt : Int) → lx_J p l e s m below meth c b D ca aX aM tgt (lx_ls b aX aM i) [] X Y) : lx_J p l e s m below meth c b D ca aX aM 27 (lx_ls b aX aM i) [] X Y := by
  intro H locs lsA nX nY hX hY hS hl
  obtain ⟨hx, hb, hr, hml, hown, hts, hXs, hbl, hlocks, hgv⟩ := F.1
  have r2 : ax_r (i : Int) := ⟨by omega, by omega⟩
  refine lv_aload_n hx hb dl_27 rfl (lv_at hl 3 rfl) ?_
  refine lv_iload_n hx hb dl_28 rfl (lv_at hl 0 rfl) ?_
  refine va_sld hx hb hXs hbl (Nat.not_le.mpr hbl) hS (ax_in r2 (by omega) (by omega)) dl_29 ?_
  refine lv_bipush (v := 31) hx hb dl_30 (by decide) ?_
  refine lv_iand hx hb dl_32 ?_
  obtain ⟨k, hk, e⟩ := lx_and31 (xs (Int32.ofInt (i : Int)).toNatClampNeg)
  rw [e]
  have e2 : (Int32.ofInt (k : Int)).toInt = (k : Int) := ax_i32 ⟨by omega, by omega⟩
  rcases Nat.lt_or_ge k 28 with h | h
  · obtain ⟨off, ho⟩ : ∃ off, (#[127, 170, 257, 290, 323, 366, 419, 432, 445, 458, 491, 524, 567, 610, 623, 646, 669, 702, 735, 758, 801, 824, 857, 880, 923, 936, 949, 972] : Array Int)[k]? = some off := ⟨_, Array.getElem?_eq_getElem (xs := #[127, 170, 257, 290, 323, 366, 419, 432, 445, 458, 491, 524, 567, 610, 623, 646, 669, 702, 735, 758, 801, 824, 857, 880, 923, 936, 949, 972]) h⟩
    have hp : 0 ≤ 33 + off := by
      have key : ∀ k, k < 28 → ((#[127, 170, 257, 290, 323, 366, 419, 432, 445, 458, 491, 524, 567, 610, 623, 646, 669, 702, 735, 758, 801, 824, 857, 880, 923, 936, 949, 972] : Array Int)[k]?).all (fun o => decide (0 ≤ 33 + o)) = true := by decide
      have h5 := key k h
      rw [ho] at h5
      exact of_decide_eq_true h5
    refine lv_tableIn (off := off) (tgt := (33 + off).toNat) hx hb dl_33 (by rw [e2]; omega) (by rw [e2]; omega) (by rw [e2]; rw [show ((k : Int) - 0).toNat = k by omega]; exact ho) (by show (33 : Int) + off = _; omega) ?_
    exact kc k off _ ho (by omega) H locs lsA nX nY hX hY hS hl
  · refine lv_tableOut (tgt := 1019) hx hb dl_33 (Or.inr (by rw [e2]; omega)) (by decide) ?_
    exact kd H locs lsA nX nY hX hY hS hl
theorem lx_case (F : lx_F p s m meth c b L xs D ca aX aM) (hL : L ≤ 4096) {n : Nat} {X Y : ax_Mem} (hi : 8 * n + 8 ≤ L) (h : INV (n : Int) X Y) (kn : ∀ X2 Y2, INV ((n : Int) + 1) X2 Y2 → lx_J p l e s m below meth c b D ca aX aM 1019 (lx_ls b aX aM (8 * n)) [] X2 Y2) : ∀ k : Nat, k < 28 → ∃ tgt : Nat, (([160, 203, 290, 323, 356, 399, 452, 465, 478, 491, 524, 557, 600, 643, 656, 679, 702, 735, 768, 791, 834, 857, 890, 913, 956, 969, 982, 1005] : List Nat)[k]? = some tgt) ∧ lx_J p l e s m below meth c b D ca aX aM tgt (lx_ls b aX aM (8 * n)) [] X Y := by
  have ht : (n : Int) ≤ 100000 := by omega
  intro k hk
  match k, hk with
  | 0, _ => exact ⟨160, rfl, lc_cabin (J := INV ((n : Int) + 1)) F hi hL (q_cabin ht h) kn⟩
  | 1, _ => exact ⟨203, rfl, lc_person (J := INV ((n : Int) + 1)) F hi hL (q_person h) kn⟩
  | 2, _ => exact ⟨290, rfl, lc_as (J := INV ((n : Int) + 1)) F hi hL (q_as h) kn⟩
  | 3, _ => exact ⟨323, rfl, lc_about (J := INV ((n : Int) + 1)) F hi hL (q_about h) kn⟩
  | 4, _ => exact ⟨356, rfl, lc_change (J := INV ((n : Int) + 1)) F hi hL (q_change h) kn⟩
  | 5, _ => exact ⟨399, rfl, lc_letters (J := INV ((n : Int) + 1)) F hi hL (q_letters h) kn⟩
  | 6, _ => exact ⟨452, rfl, lc_blank (J := INV ((n : Int) + 1)) F hi hL (q_blank h) kn⟩
  | 7, _ => exact ⟨465, rfl, lc_fault (J := INV ((n : Int) + 1)) F hi hL (q_fault h) kn⟩
  | 8, _ => exact ⟨478, rfl, lc_call (J := INV ((n : Int) + 1)) F hi hL (q_call h) kn⟩
  | 9, _ => exact ⟨491, rfl, lc_order (J := INV ((n : Int) + 1)) F hi hL (q_order h) kn⟩
  | 10, _ => exact ⟨524, rfl, lc_board (J := INV ((n : Int) + 1)) F hi hL (q_board h) kn⟩
  | 11, _ => exact ⟨557, rfl, lc_sits (J := INV ((n : Int) + 1)) F hi hL (q_sits h) kn⟩
  | 12, _ => exact ⟨600, rfl, lc_stands (J := INV ((n : Int) + 1)) F hi hL (q_stands h) kn⟩
  | 13, _ => exact ⟨643, rfl, lc_least (J := INV ((n : Int) + 1)) F hi hL (q_least h) kn⟩
  | 14, _ => exact ⟨656, rfl, lc_bestOrder (J := INV ((n : Int) + 1)) F hi hL (q_bestOrder h) kn⟩
  | 15, _ => exact ⟨679, rfl, lc_swap (J := INV ((n : Int) + 1)) F hi hL (q_swap h) kn⟩
  | 16, _ => exact ⟨702, rfl, lc_later (J := INV ((n : Int) + 1)) F hi hL (q_later h) kn⟩
  | 17, _ => exact ⟨735, rfl, lc_bound (J := INV ((n : Int) + 1)) F hi hL (q_bound h) kn⟩
  | 18, _ => exact ⟨768, rfl, lc_doors (J := INV ((n : Int) + 1)) F hi hL (q_doors h) kn⟩
  | 19, _ => exact ⟨791, rfl, lc_mixed (J := INV ((n : Int) + 1)) F hi hL (q_mixed h) kn⟩
  | 20, _ => exact ⟨834, rfl, lc_out (J := INV ((n : Int) + 1)) F hi hL (q_out h) kn⟩
  | 21, _ => exact ⟨857, rfl, lc_outOf (J := INV ((n : Int) + 1)) F hi hL (q_outOf h) kn⟩
  | 22, _ => exact ⟨890, rfl, lc_missed (J := INV ((n : Int) + 1)) F hi hL (q_missed h) kn⟩
  | 23, _ => exact ⟨913, rfl, lc_stay (J := INV ((n : Int) + 1)) F hi hL (q_stay h) kn⟩
  | 24, _ => exact ⟨956, rfl, lc_image (J := INV ((n : Int) + 1)) F hi hL (q_image h) kn⟩
  | 25, _ => exact ⟨969, rfl, lc_restore (J := INV ((n : Int) + 1)) F hi hL (q_restore h) kn⟩
  | 26, _ => exact ⟨982, rfl, lc_count (J := INV ((n : Int) + 1)) F hi hL (q_count h) kn⟩
  | 27, _ => exact ⟨1005, rfl, lc_digest (J := INV ((n : Int) + 1)) F hi hL (q_digest h) kn⟩
  | k + 28, hk => exact absurd hk (by omega)
theorem lx_loop (F : lx_F p s m meth c b L xs D ca aX aM) (hL : L ≤ 4096) : ∀ (fuel n : Nat) (X Y : ax_Mem), L < 8 * (n + fuel) → n ≤ 600 → INV (n : Int) X Y → lx_J p l e s m below meth c b D ca aX aM 18 (lx_ls b aX aM (8 * n)) [] X Y := by
  intro fuel
  induction fuel with
  | zero =>
    intro n X Y hf hn h
    exact lx_test F hL (by omega) (fun _ => lx_end F) (fun q => absurd q (by omega))
  | succ fuel ih =>
    intro n X Y hf hn h
    refine lx_test F hL (by omega) (fun _ => lx_end F) (fun hi => ?_)
    have kn : ∀ X2 Y2, INV ((n : Int) + 1) X2 Y2 → lx_J p l e s m below meth c b D ca aX aM 1019 (lx_ls b aX aM (8 * n)) [] X2 Y2 := by
      intro X2 Y2 h2
      refine lx_next F ?_
      have h3 := ih (n + 1) X2 Y2 (by omega) (by omega) (by rw [show ((n + 1 : Nat) : Int) = (n : Int) + 1 by omega]; exact h2)
      rw [show 8 * (n + 1) = 8 * n + 8 by omega] at h3
      exact h3
    refine lx_switch F hi hL (kn X Y (inv_id h)) (fun k off tgt ho htg => ?_)
    have hk : k < 28 := by
      rcases Nat.lt_or_ge k 28 with q | q
      · exact q
      · rw [Array.getElem?_eq_none (xs := #[127, 170, 257, 290, 323, 366, 419, 432, 445, 458, 491, 524, 567, 610, 623, 646, 669, 702, 735, 758, 801, 824, 857, 880, 923, 936, 949, 972]) q] at ho; cases ho
    obtain ⟨tgt2, h1, h2⟩ := lx_case F hL hi h kn k hk
    have e : tgt2 = tgt := by
      have key : ∀ k, k < 28 → ((#[127, 170, 257, 290, 323, 366, 419, 432, 445, 458, 491, 524, 567, 610, 623, 646, 669, 702, 735, 758, 801, 824, 857, 880, 923, 936, 949, 972] : Array Int)[k]?).map (fun o => (33 + o).toNat) = ([160, 203, 290, 323, 356, 399, 452, 465, 478, 491, 524, 557, 600, 643, 656, 679, 702, 735, 768, 791, 834, 857, 890, 913, 956, 969, 982, 1005] : List Nat)[k]? := by decide
      have h3 := key k hk
      rw [ho, h1] at h3
      have h4 : (33 + off).toNat = tgt2 := Option.some.inj h3
      omega
    rw [← e]
    exact h2
end LL
