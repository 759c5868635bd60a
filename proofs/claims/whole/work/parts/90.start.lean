set_option maxHeartbeats 8000000 in
set_option maxRecDepth 100000 in
theorem law_loop {p : Program} {e : Env} {s : State} {m : MethodId} {below : List Frame} {meth : Method} {c : Code} (l : Launch) {b L : Nat} {xs : Nat → Int32} {g : fb_G} (hL : L ≤ 3072) (C0 : lw_At p s m meth c b L xs) (X : fb_X p m c code 4 s #[.ref b] RL g [0, 1, 2, 3, 4, 5, 6, 7, 8, 9, 10, 11, 12, 13, 14, 15, 16, 50, 17, 18, 19, 20, 21, 22, 23, 24, 25, 26, 27, 28, 29, 30, 31, 32, 33, 34, 35, 36, 37, 38, 39, 40, 41, 42, 43, 44, 45, 46, 47, 48, 49] (fun q : Nat => s.heap.size ≤ q)) {tz : Nat → Nat} (hz : fb_Zp (fun q : Nat => s.heap.size ≤ q) tz s) (N : Nat) (hNN : 40000 ≤ N) :
    ∀ (n i : Nat) (v3 : Int32), i ≤ L + 6 → L - i < n → v3 = nI i → ∀ (σ : fb_S), Rl σ → ∀ (H : Heap) (locs : List Loc) (ls : Array Slot), fb_H g [0, 1, 2, 3, 4, 5, 6, 7, 8, 9, 10, 11, 12, 13, 14, 15, 16, 50, 17, 18, 19, 20, 21, 22, 23, 24, 25, 26, 27, 28, 29, 30, 31, 32, 33, 34, 35, 36, 37, 38, 39, 40, 41, 42, 43, 44, 45, 46, 47, 48, 49] (fun q : Nat => s.heap.size ≤ q) s.heap σ H locs → lv_has ls 4 [(3, .int v3), (2, .ref (g.1 29)), (1, .ref (g.1 0)), (0, .ref b)] → W p l e room_1 s m #[Value.ref b] below meth c H locs 51 23562 (lw_Z below #[Value.ref b] s) (F0 m 18 ls []) := by
  obtain ⟨hx, hb, hr, hml, hown, hts, hX, hbl, hlocks, hgv⟩ := id C0
  have hbA : ¬ (fun q : Nat => s.heap.size ≤ q) b := Nat.not_le.mpr hbl
  intro n
  induction n with
  | zero => intro i v3 _ h; omega
  | succ n ih =>
    intro i v3 hi0 hn ev σ hR H locs ls h hl
    subst ev
    refine lv_iload_n hx hb dL_law_18 rfl (lv_at hl 0 rfl) ?_
    refine lv_aload_n hx hb dL_law_19 rfl (lv_at hl 3 rfl) ?_
    refine va_slen hx hb hX hbl hbA h.2 dL_law_20 ?_
    refine lv_bipush hx hb dL_law_21 kb_6 ?_
    refine lv_isub hx hb dL_law_23 ?_
    refine lv_icmp_gt hx hb dL_law_24 (tgt := 1200) (by decide) (fun hc => ?_) (fun hc => ?_)
    · refine lv_iconst hx hb dL_law_1200 ki_1 ?_
      refine va_forget (fun q hq => h.2.2.2 q hq) ?_
      exact lw_ret hx hb hr hlocks dL_law_1201
    · have hi : i + 6 ≤ L := lw_le hL (by omega) hc
      have hnx : ∀ (σ : fb_S) (H : Heap) (locs : List Loc) (ls : Array Slot), Rl σ → fb_H g [0, 1, 2, 3, 4, 5, 6, 7, 8, 9, 10, 11, 12, 13, 14, 15, 16, 50, 17, 18, 19, 20, 21, 22, 23, 24, 25, 26, 27, 28, 29, 30, 31, 32, 33, 34, 35, 36, 37, 38, 39, 40, 41, 42, 43, 44, 45, 46, 47, 48, 49] (fun q : Nat => s.heap.size ≤ q) s.heap σ H locs → lv_has ls 4 [(3, .int (nI i)), (2, .ref (g.1 29)), (1, .ref (g.1 0)), (0, .ref b)] → W p l e room_1 s m #[Value.ref b] below meth c H locs 51 23562 (lw_Z below #[Value.ref b] s) (F0 m 1194 ls []) := by
        intro σ H locs ls hR h hl
        refine lv_iinc hx hb dL_law_1194 hl (k := 0) rfl (kinc_6 _) (by decide) (lv' := [(3, .int (nI i + 6)), (2, .ref (g.1 29)), (1, .ref (g.1 0)), (0, .ref b)]) rfl (fun ls hl => ?_)
        refine lv_goto hx hb dL_law_1197 (tgt := 18) (by decide) ?_
        exact ih (i + 6) (nI i + 6) (by omega) (by omega) (nI_add i 6) σ hR _ _ _ h hl
      refine lv_aload_n hx hb dL_law_27 rfl (lv_at hl 3 rfl) ?_
      refine lv_iload_n hx hb dL_law_28 rfl (lv_at hl 0 rfl) ?_
      refine va_sld hx hb hX hbl hbA h.2 (lw_in0 hi hL) dL_law_29 ?_
      refine lv_bipush hx hb dL_law_30 kb_63 ?_
      refine lv_iand hx hb dL_law_32 ?_
      refine lv_topi (fun w hw => ?_)
      by_cases hc0 : w = 0
      · refine lv_tableIn hx hb dL_law_33 (off := 151) (tgt := 184) (by rw [hc0]; decide) (by rw [hc0]; decide) (by rw [hc0]; decide) (by decide) ?_
        exact law_c0 X hX hbl hL N hNN hi hnx σ hR H locs ls h hl
      by_cases hc1 : w = 1
      · refine lv_tableIn hx hb dL_law_33 (off := 174) (tgt := 207) (by rw [hc1]; decide) (by rw [hc1]; decide) (by rw [hc1]; decide) (by decide) ?_
        exact law_c1 X hX hbl hL N hNN hi hnx σ hR H locs ls h hl
      by_cases hc2 : w = 2
      · refine lv_tableIn hx hb dL_law_33 (off := 207) (tgt := 240) (by rw [hc2]; decide) (by rw [hc2]; decide) (by rw [hc2]; decide) (by decide) ?_
        exact law_c2 X hX hbl hL N hNN hi hnx σ hR H locs ls h hl
      by_cases hc3 : w = 3
      · refine lv_tableIn hx hb dL_law_33 (off := 240) (tgt := 273) (by rw [hc3]; decide) (by rw [hc3]; decide) (by rw [hc3]; decide) (by decide) ?_
        exact law_c3 X hX hbl hL N hNN hi hnx σ hR H locs ls h hl
      by_cases hc4 : w = 4
      · refine lv_tableIn hx hb dL_law_33 (off := 263) (tgt := 296) (by rw [hc4]; decide) (by rw [hc4]; decide) (by rw [hc4]; decide) (by decide) ?_
        exact law_c4 X hX hbl hL N hNN hi hnx σ hR H locs ls h hl
      by_cases hc5 : w = 5
      · refine lv_tableIn hx hb dL_law_33 (off := 286) (tgt := 319) (by rw [hc5]; decide) (by rw [hc5]; decide) (by rw [hc5]; decide) (by decide) ?_
        exact law_c5 X hX hbl hL N hNN hi hnx σ hR H locs ls h hl
      by_cases hc6 : w = 6
      · refine lv_tableIn hx hb dL_law_33 (off := 309) (tgt := 342) (by rw [hc6]; decide) (by rw [hc6]; decide) (by rw [hc6]; decide) (by decide) ?_
        exact law_c6 X hX hbl hL N hNN hi hnx σ hR H locs ls h hl
      by_cases hc7 : w = 7
      · refine lv_tableIn hx hb dL_law_33 (off := 362) (tgt := 395) (by rw [hc7]; decide) (by rw [hc7]; decide) (by rw [hc7]; decide) (by decide) ?_
        exact law_c7 X hX hbl hL N hNN hi hnx σ hR H locs ls h hl
      by_cases hc8 : w = 8
      · refine lv_tableIn hx hb dL_law_33 (off := 395) (tgt := 428) (by rw [hc8]; decide) (by rw [hc8]; decide) (by rw [hc8]; decide) (by decide) ?_
        exact law_c8 X hX hbl hL hz N hNN hi hnx σ hR H locs ls h hl
      by_cases hc9 : w = 9
      · refine lv_tableIn hx hb dL_law_33 (off := 428) (tgt := 461) (by rw [hc9]; decide) (by rw [hc9]; decide) (by rw [hc9]; decide) (by decide) ?_
        exact law_c9 X hX hbl hL N hNN hi hnx σ hR H locs ls h hl
      by_cases hc10 : w = 10
      · refine lv_tableIn hx hb dL_law_33 (off := 451) (tgt := 484) (by rw [hc10]; decide) (by rw [hc10]; decide) (by rw [hc10]; decide) (by decide) ?_
        exact law_c10 X hX hbl hL N hNN hi hnx σ hR H locs ls h hl
      by_cases hc11 : w = 11
      · refine lv_tableIn hx hb dL_law_33 (off := 484) (tgt := 517) (by rw [hc11]; decide) (by rw [hc11]; decide) (by rw [hc11]; decide) (by decide) ?_
        exact law_c11 X hX hbl hL N hNN hi hnx σ hR H locs ls h hl
      by_cases hc12 : w = 12
      · refine lv_tableIn hx hb dL_law_33 (off := 507) (tgt := 540) (by rw [hc12]; decide) (by rw [hc12]; decide) (by rw [hc12]; decide) (by decide) ?_
        exact law_c12 X hX hbl hL N hNN hi hnx σ hR H locs ls h hl
      by_cases hc13 : w = 13
      · refine lv_tableIn hx hb dL_law_33 (off := 540) (tgt := 573) (by rw [hc13]; decide) (by rw [hc13]; decide) (by rw [hc13]; decide) (by decide) ?_
        exact law_c13 X hX hbl hL N hNN hi hnx σ hR H locs ls h hl
      by_cases hc14 : w = 14
      · refine lv_tableIn hx hb dL_law_33 (off := 563) (tgt := 596) (by rw [hc14]; decide) (by rw [hc14]; decide) (by rw [hc14]; decide) (by decide) ?_
        exact law_c14 X hX hbl hL N hNN hi hnx σ hR H locs ls h hl
      by_cases hc15 : w = 15
      · refine lv_tableIn hx hb dL_law_33 (off := 586) (tgt := 619) (by rw [hc15]; decide) (by rw [hc15]; decide) (by rw [hc15]; decide) (by decide) ?_
        exact law_c15 X hX hbl hL N hNN hi hnx σ hR H locs ls h hl
      by_cases hc16 : w = 16
      · refine lv_tableIn hx hb dL_law_33 (off := 629) (tgt := 662) (by rw [hc16]; decide) (by rw [hc16]; decide) (by rw [hc16]; decide) (by decide) ?_
        exact law_c16 X hX hbl hL N hNN hi hnx σ hR H locs ls h hl
      by_cases hc17 : w = 17
      · refine lv_tableIn hx hb dL_law_33 (off := 678) (tgt := 711) (by rw [hc17]; decide) (by rw [hc17]; decide) (by rw [hc17]; decide) (by decide) ?_
        exact law_c17 X hX hbl hL N hNN hi hnx σ hR H locs ls h hl
      by_cases hc18 : w = 18
      · refine lv_tableIn hx hb dL_law_33 (off := 691) (tgt := 724) (by rw [hc18]; decide) (by rw [hc18]; decide) (by rw [hc18]; decide) (by decide) ?_
        exact law_c18 X hX hbl hL N hNN hi hnx σ hR H locs ls h hl
      by_cases hc19 : w = 19
      · refine lv_tableIn hx hb dL_law_33 (off := 714) (tgt := 747) (by rw [hc19]; decide) (by rw [hc19]; decide) (by rw [hc19]; decide) (by decide) ?_
        exact law_c19 X hX hbl hL hz N hNN hi hnx σ hR H locs ls h hl
      by_cases hc20 : w = 20
      · refine lv_tableIn hx hb dL_law_33 (off := 747) (tgt := 780) (by rw [hc20]; decide) (by rw [hc20]; decide) (by rw [hc20]; decide) (by decide) ?_
        exact law_c20 X hX hbl hL N hNN hi hnx σ hR H locs ls h hl
      by_cases hc21 : w = 21
      · refine lv_tableIn hx hb dL_law_33 (off := 780) (tgt := 813) (by rw [hc21]; decide) (by rw [hc21]; decide) (by rw [hc21]; decide) (by decide) ?_
        exact law_c21 X hX hbl hL N hNN hi hnx σ hR H locs ls h hl
      by_cases hc22 : w = 22
      · refine lv_tableIn hx hb dL_law_33 (off := 813) (tgt := 846) (by rw [hc22]; decide) (by rw [hc22]; decide) (by rw [hc22]; decide) (by decide) ?_
        exact law_c22 X hX hbl hL N hNN hi hnx σ hR H locs ls h hl
      by_cases hc23 : w = 23
      · refine lv_tableIn hx hb dL_law_33 (off := 846) (tgt := 879) (by rw [hc23]; decide) (by rw [hc23]; decide) (by rw [hc23]; decide) (by decide) ?_
        exact law_c23 X hX hbl hL N hNN hi hnx σ hR H locs ls h hl
      by_cases hc24 : w = 24
      · refine lv_tableIn hx hb dL_law_33 (off := 869) (tgt := 902) (by rw [hc24]; decide) (by rw [hc24]; decide) (by rw [hc24]; decide) (by decide) ?_
        exact law_c24 X hX hbl hL N hNN hi hnx σ hR H locs ls h hl
      by_cases hc25 : w = 25
      · refine lv_tableIn hx hb dL_law_33 (off := 932) (tgt := 965) (by rw [hc25]; decide) (by rw [hc25]; decide) (by rw [hc25]; decide) (by decide) ?_
        exact law_c25 X hX hbl hL N hNN hi hnx σ hR H locs ls h hl
      by_cases hc26 : w = 26
      · refine lv_tableIn hx hb dL_law_33 (off := 955) (tgt := 988) (by rw [hc26]; decide) (by rw [hc26]; decide) (by rw [hc26]; decide) (by decide) ?_
        exact law_c26 X hX hbl hL N hNN hi hnx σ hR H locs ls h hl
      by_cases hc27 : w = 27
      · refine lv_tableIn hx hb dL_law_33 (off := 968) (tgt := 1001) (by rw [hc27]; decide) (by rw [hc27]; decide) (by rw [hc27]; decide) (by decide) ?_
        exact law_c27 X hX hbl hL N hNN hi hnx σ hR H locs ls h hl
      by_cases hc28 : w = 28
      · refine lv_tableIn hx hb dL_law_33 (off := 991) (tgt := 1024) (by rw [hc28]; decide) (by rw [hc28]; decide) (by rw [hc28]; decide) (by decide) ?_
        exact law_c28 X hX hbl hL N hNN hi hnx σ hR H locs ls h hl
      by_cases hc29 : w = 29
      · refine lv_tableIn hx hb dL_law_33 (off := 1056) (tgt := 1089) (by rw [hc29]; decide) (by rw [hc29]; decide) (by rw [hc29]; decide) (by decide) ?_
        exact law_c29 X hX hbl hL N hNN hi hnx σ hR H locs ls h hl
      by_cases hc30 : w = 30
      · refine lv_tableIn hx hb dL_law_33 (off := 1079) (tgt := 1112) (by rw [hc30]; decide) (by rw [hc30]; decide) (by rw [hc30]; decide) (by decide) ?_
        exact law_c30 X hX hbl hL N hNN hi hnx σ hR H locs ls h hl
      by_cases hc31 : w = 31
      · refine lv_tableIn hx hb dL_law_33 (off := 1102) (tgt := 1135) (by rw [hc31]; decide) (by rw [hc31]; decide) (by rw [hc31]; decide) (by decide) ?_
        exact law_c31 X hX hbl hL N hNN hi hnx σ hR H locs ls h hl
      by_cases hc32 : w = 32
      · refine lv_tableIn hx hb dL_law_33 (off := 1115) (tgt := 1148) (by rw [hc32]; decide) (by rw [hc32]; decide) (by rw [hc32]; decide) (by decide) ?_
        exact law_c32 X hX hbl hL N hNN hi hnx σ hR H locs ls h hl
      by_cases hc33 : w = 33
      · refine lv_tableIn hx hb dL_law_33 (off := 1138) (tgt := 1171) (by rw [hc33]; decide) (by rw [hc33]; decide) (by rw [hc33]; decide) (by decide) ?_
        exact law_c33 X hX hbl hL N hNN hi hnx σ hR H locs ls h hl
      refine lv_tableOut hx hb dL_law_33 (tgt := 1194) (by have h9 := fb_swn (x := w) 34 (by decide) (fun j hj => match j, hj with | 0, _ => hc0 | 1, _ => hc1 | 2, _ => hc2 | 3, _ => hc3 | 4, _ => hc4 | 5, _ => hc5 | 6, _ => hc6 | 7, _ => hc7 | 8, _ => hc8 | 9, _ => hc9 | 10, _ => hc10 | 11, _ => hc11 | 12, _ => hc12 | 13, _ => hc13 | 14, _ => hc14 | 15, _ => hc15 | 16, _ => hc16 | 17, _ => hc17 | 18, _ => hc18 | 19, _ => hc19 | 20, _ => hc20 | 21, _ => hc21 | 22, _ => hc22 | 23, _ => hc23 | 24, _ => hc24 | 25, _ => hc25 | 26, _ => hc26 | 27, _ => hc27 | 28, _ => hc28 | 29, _ => hc29 | 30, _ => hc30 | 31, _ => hc31 | 32, _ => hc32 | 33, _ => hc33 | j + 34, hj => absurd hj (by omega)); omega) (by decide) ?_
      exact hnx _ _ _ _ hR h hl
theorem fb_Z_start {args : Array Value} {s : State} {A : Nat → Prop} (hts : ∀ w ∈ lw_tbl, w.before args s = true) (hgv : (Jvm.Cond.and given_1 narrow_1).before args s = true) (hA : ∀ a : Nat, a < s.heap.size → ¬ A a) : ∃ tz, fb_Zp A tz s := by
  have hs := flat_of_before _ hgv
  have key : ∀ z, z < 4 → ∃ t : Nat, va_Z "FootBridges" (fb_zn z) "[I" (.ref t) A s s.heap ∧ va_T .int t (fb_zl z) (fun j => .int (fb_rl z j)) A s s.heap := by
    intro z hz
    match z, hz with
    | 0, _ =>
      obtain ⟨t, h1, h2⟩ := va_Tof (args := args) (s := s) (tm := .static "FootBridges" "RULE_LEAST" "[I") (ty := .int) (N := 4) (f := fun j => .int (fb_rl 0 j)) (A := A) (by decide) (hs _ (by decide +kernel)) (va_eqt (z := 4) (hs _ (by decide +kernel))) (fun j hj => match j, hj with | 0, _ => va_eqt (hs _ (by decide +kernel)) | 1, _ => va_eqt (hs _ (by decide +kernel)) | 2, _ => va_eqt (hs _ (by decide +kernel)) | 3, _ => va_eqt (hs _ (by decide +kernel))) hA
      exact ⟨t, va_Zref (hts (.laysStatic "FootBridges" "RULE_LEAST" "[I") (by decide +kernel)) (hts (.initialized "FootBridges") (by decide +kernel)) h1 hA, h2⟩
    | 1, _ =>
      obtain ⟨t, h1, h2⟩ := va_Tof (args := args) (s := s) (tm := .static "FootBridges" "RULE_MOST" "[I") (ty := .int) (N := 4) (f := fun j => .int (fb_rl 1 j)) (A := A) (by decide) (hs _ (by decide +kernel)) (va_eqt (z := 4) (hs _ (by decide +kernel))) (fun j hj => match j, hj with | 0, _ => va_eqt (hs _ (by decide +kernel)) | 1, _ => va_eqt (hs _ (by decide +kernel)) | 2, _ => va_eqt (hs _ (by decide +kernel)) | 3, _ => va_eqt (hs _ (by decide +kernel))) hA
      exact ⟨t, va_Zref (hts (.laysStatic "FootBridges" "RULE_MOST" "[I") (by decide +kernel)) (hts (.initialized "FootBridges") (by decide +kernel)) h1 hA, h2⟩
    | 2, _ =>
      obtain ⟨t, h1, h2⟩ := va_Tof (args := args) (s := s) (tm := .static "FootBridges" "WAY_LEAST" "[I") (ty := .int) (N := 6) (f := fun j => .int (fb_rl 2 j)) (A := A) (by decide) (hs _ (by decide +kernel)) (va_eqt (z := 6) (hs _ (by decide +kernel))) (fun j hj => match j, hj with | 0, _ => va_eqt (hs _ (by decide +kernel)) | 1, _ => va_eqt (hs _ (by decide +kernel)) | 2, _ => va_eqt (hs _ (by decide +kernel)) | 3, _ => va_eqt (hs _ (by decide +kernel)) | 4, _ => va_eqt (hs _ (by decide +kernel)) | 5, _ => va_eqt (hs _ (by decide +kernel))) hA
      exact ⟨t, va_Zref (hts (.laysStatic "FootBridges" "WAY_LEAST" "[I") (by decide +kernel)) (hts (.initialized "FootBridges") (by decide +kernel)) h1 hA, h2⟩
    | 3, _ =>
      obtain ⟨t, h1, h2⟩ := va_Tof (args := args) (s := s) (tm := .static "FootBridges" "WAY_MOST" "[I") (ty := .int) (N := 6) (f := fun j => .int (fb_rl 3 j)) (A := A) (by decide) (hs _ (by decide +kernel)) (va_eqt (z := 6) (hs _ (by decide +kernel))) (fun j hj => match j, hj with | 0, _ => va_eqt (hs _ (by decide +kernel)) | 1, _ => va_eqt (hs _ (by decide +kernel)) | 2, _ => va_eqt (hs _ (by decide +kernel)) | 3, _ => va_eqt (hs _ (by decide +kernel)) | 4, _ => va_eqt (hs _ (by decide +kernel)) | 5, _ => va_eqt (hs _ (by decide +kernel))) hA
      exact ⟨t, va_Zref (hts (.laysStatic "FootBridges" "WAY_MOST" "[I") (by decide +kernel)) (hts (.initialized "FootBridges") (by decide +kernel)) h1 hA, h2⟩
  obtain ⟨t0, h0⟩ := key 0 (by decide)
  obtain ⟨t1, h1⟩ := key 1 (by decide)
  obtain ⟨t2, h2⟩ := key 2 (by decide)
  obtain ⟨t3, h3⟩ := key 3 (by decide)
  refine ⟨fun z => if z = 0 then t0 else if z = 1 then t1 else if z = 2 then t2 else t3, fun z hz => ?_⟩
  match z, hz with
  | 0, _ => exact h0
  | 1, _ => exact h1
  | 2, _ => exact h2
  | 3, _ => exact h3
theorem fb_arrI {args : Array Value} {s : State} (h : (Cond.arrayClass .int).before args s = true) : ∃ cA, ArrOfT s cA .int ∧ va_RA s cA .int := by
  obtain ⟨cA, kA, comp, hfind, hk, hkind⟩ := Cond.arrayClass_spec h
  exact ⟨cA, fun n z => ⟨fun k h => (by cases h), kA, hk, comp, hkind⟩, hfind⟩
theorem fb_arrJ {args : Array Value} {s : State} (h : (Cond.arrayClass .long).before args s = true) : ∃ cA, ArrOfT s cA .long ∧ va_RA s cA .long := by
  obtain ⟨cA, kA, comp, hfind, hk, hkind⟩ := Cond.arrayClass_spec h
  exact ⟨cA, fun n z => ⟨fun k h => (by cases h), kA, hk, comp, hkind⟩, hfind⟩
theorem fb_arrZ {args : Array Value} {s : State} (h : (Cond.arrayClass .boolean).before args s = true) : ∃ cA, ArrOfT s cA .boolean ∧ va_RA s cA .boolean := by
  obtain ⟨cA, kA, comp, hfind, hk, hkind⟩ := Cond.arrayClass_spec h
  exact ⟨cA, fun n z => ⟨fun k h => (by cases h), kA, hk, comp, hkind⟩, hfind⟩
set_option maxHeartbeats 8000000 in
set_option maxRecDepth 100000 in
theorem whole_start {p : Program} {e : Env} {s : State} {m : MethodId} {below : List Frame} {meth : Method} {c : Code} (l : Launch) {b L : Nat} {xs : Nat → Int32} (hL : L ≤ 3072) (C0 : lw_At p s m meth c b L xs) : W p l e room_1 s m #[Value.ref b] below meth c s.heap [] 0 0 (lw_Z below #[Value.ref b] s) (entryFrame m ([Value.ref b] : List Value).toArray 4) := by
  obtain ⟨hx, hb, hr, hml, hown, hts, hX, hbl, hlocks, hgv⟩ := id C0
  have hown : s.vm.findClass RL = some m.cls := hown
  have hA : ∀ q : Nat, s.heap.size ≤ q → (fun q : Nat => s.heap.size ≤ q) q := fun _ h => h
  have hbA : ¬ (fun q : Nat => s.heap.size ≤ q) b := Nat.not_le.mpr hbl
  have hT : ∀ w ∈ fb_tbl, w.before #[Value.ref b] s = true := fun w hw => hts w (List.mem_filter.mp hw).1
  have hN : fb_N s := fun w hw => va_Nw.of (fb_N_onT hw) (hts w (List.mem_filter.mp hw).1)
  obtain ⟨tz, hz⟩ := fb_Z_start (A := fun q : Nat => s.heap.size ≤ q) hts hgv (fun a h => Nat.not_le.mpr h)
  obtain ⟨NN, hNN⟩ : ∃ NN : Nat, 40000 ≤ NN := ⟨40000, Nat.le_refl _⟩
  obtain ⟨σB, σT, σM, hfB, hfT, hfM, hR0⟩ := st_start NN hNN
  obtain ⟨c0, iS0, hKn0⟩ := u_known (C := RX0) (T := TX0) (N := 4) hT in_X0 (hT _ ni_RX0)
  obtain ⟨c1, iS1, hKn1⟩ := u_known (C := RX1) (T := TX1) (N := 9) hT in_X1 (hT _ ni_RX1)
  obtain ⟨c2, iS2, hKn2⟩ := u_known (C := RX2) (T := TX2) (N := 11) hT in_X2 (hT _ ni_RX2)
  obtain ⟨c3, iS3, hKn3⟩ := u_known (C := RX3) (T := TX3) (N := 8) hT in_X3 (hT _ ni_RX3)
  obtain ⟨c4, iS4, hKn4⟩ := u_known (C := RX4) (T := TX4) (N := 5) hT in_X4 (hT _ ni_RX4)
  obtain ⟨c5, iS5, hKn5⟩ := u_known (C := RX5) (T := TX5) (N := 6) hT in_X5 (hT _ ni_RX5)
  obtain ⟨c6, iS6, hKn6⟩ := u_known (C := RX6) (T := TX6) (N := 35) hT in_X6 (hT _ ni_RX6)
  obtain ⟨D, hKc⟩ : ∃ D : va_G, ∀ (k : Nat) (q : vw_C), fb_cl[k]? = some q → u_Kn s q.1 q.2.1 q.2.2 (D.1 k) (D.2 k) := by
    refine ⟨(fun k => if k = 0 then c0 else if k = 1 then c1 else if k = 2 then c2 else if k = 3 then c3 else if k = 4 then c4 else if k = 5 then c5 else c6, fun k => if k = 0 then iS0 else if k = 1 then iS1 else if k = 2 then iS2 else if k = 3 then iS3 else if k = 4 then iS4 else if k = 5 then iS5 else iS6), ?_⟩
    intro k q hq
    match k, hq with
    | 0, hq => cases hq; exact hKn0
    | 1, hq => cases hq; exact hKn1
    | 2, hq => cases hq; exact hKn2
    | 3, hq => cases hq; exact hKn3
    | 4, hq => cases hq; exact hKn4
    | 5, hq => cases hq; exact hKn5
    | 6, hq => cases hq; exact hKn6
    | k + 7, hq => simp [fb_cl] at hq
  obtain ⟨cI, hI1, hI2⟩ := fb_arrI (hT _ ac_int)
  obtain ⟨cJ, hJ1, hJ2⟩ := fb_arrJ (hT _ ac_long)
  obtain ⟨cZ, hZ1, hZ2⟩ := fb_arrZ (hT _ ac_boolean)
  have hK : va_K D fb_cl (fb_ty3 cI cJ cZ) s := by
    refine ⟨hKc, fun k q hq => ?_⟩
    match k, hq with
    | 0, hq => cases hq; exact ⟨hI1, hI2⟩
    | 1, hq => cases hq; exact ⟨hJ1, hJ2⟩
    | 2, hq => cases hq; exact ⟨hZ1, hZ2⟩
    | k + 3, hq => simp at hq
  have hS : va_S (fun q : Nat => s.heap.size ≤ q) s.heap s.heap [] := va_S.rf
  have hP : va_P D fb_cl [] s.heap := fun k q h => by simp at h
  have hD : va_D (fun q : Nat => s.heap.size ≤ q) [] := ⟨fun i j p q h => by simp at h, fun k q h => by simp at h⟩
  have hl := lv_entry ([.ref b]) (n := 4) (Nat.le_of_ble_eq_true rfl)
  rw [lg_entry_eq]
  generalize (lg_sl ([.ref b]) ++ List.replicate (4 - (lg_sl ([.ref b])).length) Slot.unset).toArray = ls at hl ⊢
  have hl : lv_has ls 4 [(0, .ref b)] := hl
  refine va_new (ci := 5) (fs := [.null, .null, .null, .null, .null, .null]) (C := RX5) (T := TX5) (N := 6) hx hb hT in_X5 tyX5 tyX5_ok hown (hT _ ck_RL_7) (hT _ ni_RX5) (hT _ ii_RX5) hK hP hD hS hA rfl (by decide +kernel) (Nat.le_of_ble_eq_true rfl) (Nat.le_of_ble_eq_true rfl) dL_law_0 (fun q0 H hP hD hS => ?_)
  have hP : va_P D fb_cl [(q0, .inr (5, [.null, .null, .null, .null, .null, .null]))] H := hP
  have hD : va_D (fun q : Nat => s.heap.size ≤ q) [(q0, .inr (5, [.null, .null, .null, .null, .null, .null]))] := hD
  refine lv_dup hx hb dL_law_3 rfl ?_
  have hFc := va_free (wc := [(q0, .inr (5, [.null, .null, .null, .null, .null, .null]))]) hD hS hA [0] rfl
  refine va_callv (va_runI (As := []) (rest := [.ref q0]) ⟨hx, hb, hml, hown, hT⟩ (ci_X5 l D cI cJ cZ q0 H.size NN σB hfB σT hfT) ⟨callB_of 0 hT (fb_good _ _ _ _ mf_yX5_init.1.1) rfl rfl rfl (hT _ mf_yX5_init.1.2.2) (hT _ lm_RL_9) mf_yX5_init.2 ⟨Nat.le_of_ble_eq_true rfl, Nat.le_of_ble_eq_true rfl⟩, rfl, hT _ mf_yX5_init.1.2.1⟩ ⟨fun a U g mk q => by obtain ⟨q0, q1, qP, qK, qN⟩ := q; exact ⟨q0, q1, qP, va_K.moved (u := U) (U := U.calling g mk a) (Vm.Alike.refl U.vm) qK, fb_N_same (u := U) (U := U.calling g mk a) rfl qN⟩, fun U hU hW => ⟨rfl, by rw [hU], by rw [hU]; exact hP, va_K.moved hW.alike hK, fb_N_warm hW hN⟩⟩ rfl rfl hl.1 rfl (lv_room (Nat.le_of_ble_eq_true rfl)) dL_law_4 ⟨Nat.le_of_ble_eq_true rfl, Nat.le_of_ble_eq_true rfl⟩) hS (fun q _ h => hFc q h) hFc (fun u5 t H1 locs ht hvm hw hB hz1 hk1 hS => ?_)
  obtain ⟨⟨hP1, -⟩, hD1⟩ := hB
  rw [ht] at hP1
  obtain ⟨hP, hD⟩ := va_join (wr := []) (w1 := fb_wl (u5, D, cI, cJ, cZ) [0, 1, 2, 3, 4, 5, 6, 7, 8, 9, 10, 11, 12, 13, 14, 15, 16, 50, 17, 18, 19, 20, 21, 22, 23, 24, 25, 26, 27, 28] (fb_zX5 σB σT)) hP hD [0] [] rfl rfl (by decide) (by decide) hk1 hFc hP1 hD1
  generalize H1 = H at hP hS ⊢
  have hP : va_P D fb_cl (fb_wl (u5, D, cI, cJ, cZ) [0, 1, 2, 3, 4, 5, 6, 7, 8, 9, 10, 11, 12, 13, 14, 15, 16, 50, 17, 18, 19, 20, 21, 22, 23, 24, 25, 26, 27, 28] (fb_zX5 σB σT)) H := hP
  have hD : va_D (fun q : Nat => s.heap.size ≤ q) (fb_wl (u5, D, cI, cJ, cZ) [0, 1, 2, 3, 4, 5, 6, 7, 8, 9, 10, 11, 12, 13, 14, 15, 16, 50, 17, 18, 19, 20, 21, 22, 23, 24, 25, 26, 27, 28] (fb_zX5 σB σT)) := hD
  refine lv_astore_n (lv' := [(1, .ref q0), (0, .ref b)]) hx hb dL_law_7 rfl hl (by decide) rfl (fun ls hl => ?_)
  refine va_new (ci := 6) (fs := [.int 0, .int 0, .null, .null, .null, .null, .null, .null, .null, .int 0, .null, .int 0, .null, .null, .null, .null, .int 0, .null, .int 0, .int 0, .int 0, .null, .null, .null, .null, .int 0, .int 0, .int 0, .int 0, .int 0, .int 0, .null, .null, .int 0, .null]) (C := RX6) (T := TX6) (N := 35) hx hb hT in_X6 tyX6 tyX6_ok hown (hT _ ck_RL_10) (hT _ ni_RX6) (hT _ ii_RX6) hK hP hD hS hA rfl (by decide +kernel) (Nat.le_of_ble_eq_true rfl) (Nat.le_of_ble_eq_true rfl) dL_law_8 (fun q6 H hP hD hS => ?_)
  refine lv_dup hx hb dL_law_11 rfl ?_
  have hPc := hP.sub (ws' := [(q6, .inr (6, [.int 0, .int 0, .null, .null, .null, .null, .null, .null, .null, .int 0, .null, .int 0, .null, .null, .null, .null, .int 0, .null, .int 0, .int 0, .int 0, .null, .null, .null, .null, .int 0, .int 0, .int 0, .int 0, .int 0, .int 0, .null, .null, .int 0, .null]))]) [30] rfl
  have hFc := va_free (wc := [(q6, .inr (6, [.int 0, .int 0, .null, .null, .null, .null, .null, .null, .null, .int 0, .null, .int 0, .null, .null, .null, .null, .int 0, .null, .int 0, .int 0, .int 0, .null, .null, .null, .null, .int 0, .int 0, .int 0, .int 0, .int 0, .int 0, .null, .null, .int 0, .null]))]) hD hS hA [30] rfl
  refine va_callv (va_runI (As := []) (rest := [.ref q6]) ⟨hx, hb, hml, hown, hT⟩ (ci_X6 l D cI cJ cZ q6 H.size NN σM hfM) ⟨callB_of 0 hT (fb_good _ _ _ _ mf_yX6_init.1.1) rfl rfl rfl (hT _ mf_yX6_init.1.2.2) (hT _ lm_RL_12) mf_yX6_init.2 ⟨Nat.le_of_ble_eq_true rfl, Nat.le_of_ble_eq_true rfl⟩, rfl, hT _ mf_yX6_init.1.2.1⟩ ⟨fun a U g mk q => by obtain ⟨q0, q1, qP, qK, qN⟩ := q; exact ⟨q0, q1, qP, va_K.moved (u := U) (U := U.calling g mk a) (Vm.Alike.refl U.vm) qK, fb_N_same (u := U) (U := U.calling g mk a) rfl qN⟩, fun U hU hW => ⟨rfl, by rw [hU], by rw [hU]; exact hPc, va_K.moved hW.alike hK, fb_N_warm hW hN⟩⟩ rfl rfl hl.1 rfl (lv_room (Nat.le_of_ble_eq_true rfl)) dL_law_12 ⟨Nat.le_of_ble_eq_true rfl, Nat.le_of_ble_eq_true rfl⟩) hS (fun q _ h => hFc q h) hFc (fun u6 t H1 locs ht hvm hw6 hB hz1 hk1 hS => ?_)
  obtain ⟨⟨hP1, -⟩, hD1⟩ := hB
  rw [ht] at hP1
  obtain ⟨hP, hD⟩ := va_join (wr := fb_wl (u5, D, cI, cJ, cZ) [0, 1, 2, 3, 4, 5, 6, 7, 8, 9, 10, 11, 12, 13, 14, 15, 16, 50, 17, 18, 19, 20, 21, 22, 23, 24, 25, 26, 27, 28] (fb_zX5 σB σT)) (w1 := fb_wl (u6, D, cI, cJ, cZ) [29, 30, 31, 32, 33, 34, 35, 36, 37, 38, 39, 40, 41, 42, 43, 44, 45, 46, 47, 48, 49] σM) hP hD [30] [0, 1, 2, 3, 4, 5, 6, 7, 8, 9, 10, 11, 12, 13, 14, 15, 16, 17, 18, 19, 20, 21, 22, 23, 24, 25, 26, 27, 28, 29] rfl rfl (by decide) (by decide) hk1 hFc hP1 hD1
  generalize H1 = H at hP hS ⊢
  obtain ⟨g, hg⟩ : ∃ g : fb_G, g = (fun k => if k < 29 then u5 k else if k = 50 then u5 k else u6 k, D, cI, cJ, cZ) := ⟨_, rfl⟩
  have hP : va_P D fb_cl (fb_wl g [0, 1, 2, 3, 4, 5, 6, 7, 8, 9, 10, 11, 12, 13, 14, 15, 16, 50, 17, 18, 19, 20, 21, 22, 23, 24, 25, 26, 27, 28, 29, 30, 31, 32, 33, 34, 35, 36, 37, 38, 39, 40, 41, 42, 43, 44, 45, 46, 47, 48, 49] (fb_z0 (fb_zX5 σB σT) σM)) H := by rw [hg]; exact hP
  have hD : va_D (fun q : Nat => s.heap.size ≤ q) (fb_wl g [0, 1, 2, 3, 4, 5, 6, 7, 8, 9, 10, 11, 12, 13, 14, 15, 16, 50, 17, 18, 19, 20, 21, 22, 23, 24, 25, 26, 27, 28, 29, 30, 31, 32, 33, 34, 35, 36, 37, 38, 39, 40, 41, 42, 43, 44, 45, 46, 47, 48, 49] (fb_z0 (fb_zX5 σB σT) σM)) := by rw [hg]; exact hD
  have hg2 : g.2 = (D, cI, cJ, cZ) := by rw [hg]
  have hg0 : g.1 0 = q0 := by rw [hg]; exact hw
  have hg6 : g.1 29 = q6 := by rw [hg]; exact hw6
  refine lv_astore_n (lv' := [(2, .ref q6), (1, .ref q0), (0, .ref b)]) hx hb dL_law_15 rfl hl (by decide) rfl (fun ls hl => ?_)
  refine lv_iconst hx hb dL_law_16 ki_0 ?_
  refine lv_istore_n (lv' := [(3, .int 0), (2, .ref q6), (1, .ref q0), (0, .ref b)]) hx hb dL_law_17 rfl hl (by decide) rfl (fun ls hl => ?_)
  refine W.widen (k := 51) (n := 23562) (Nat.le_of_ble_eq_true rfl) (Nat.le_of_ble_eq_true rfl) ?_
  rw [← hg0, ← hg6] at hl
  have hKg : va_K g.2.1 fb_cl (fb_ty g) s := by rw [hg]; exact hK
  have hPg : va_P g.2.1 fb_cl (fb_wl g [0, 1, 2, 3, 4, 5, 6, 7, 8, 9, 10, 11, 12, 13, 14, 15, 16, 50, 17, 18, 19, 20, 21, 22, 23, 24, 25, 26, 27, 28, 29, 30, 31, 32, 33, 34, 35, 36, 37, 38, 39, 40, 41, 42, 43, 44, 45, 46, 47, 48, 49] (fb_z0 (fb_zX5 σB σT) σM)) H := by rw [hg2]; exact hP
  exact law_loop l hL C0 ⟨⟨hx, hb, hml, hown, hT⟩, hKg, fb_I_of (by decide) hD, fb_A_of hD, hN⟩ hz NN hNN (L + 1) 0 0 (Nat.zero_le _) (by omega) nI_0.symm _ hR0 _ _ _ ⟨hPg, hS⟩ hl

-- ===== YOUR PART ENDS =====
set_option maxHeartbeats 4000000 in
theorem lw_walk (l : Launch) (b : Addr) (xs : List Int32) : MetFree l x (headSpec (Jvm.Cond.code x code maxLocals ret :: tables_1) room_1) (lw_P b xs) (fun _ _ _ _ _ => True) lw_Q := by
  refine MetFree.of_bodyS (code := code) (maxLocals := maxLocals) (ret := ret) (by decide) ?_ ?_
  · intro args s m h hn
    obtain ⟨meth, c, h1, h2, h3, h4, h5, h6, -, -⟩ := Cond.code_spec hn (atoms_spec (ws := Jvm.Cond.code x code maxLocals ret :: tables_1) h _ List.mem_cons_self)
    exact ⟨meth, c, h1, h2, h3, h4, h5, h6⟩
  · intro p e s m args below meth c s₁ B hml0 hP _
    obtain ⟨rfl, hx, hbd, hgv⟩ := hP
    obtain ⟨scr, harrAt, hlist, hof, hsmall⟩ := hx
    obtain ⟨hcb, hkn, -, -⟩ := State.arrayAt?_spec harrAt
    have hown : s.vm.findClass R_law = some m.cls := findClass_of_methodNamed B.named
    have hts0 : ∀ c ∈ (Jvm.Cond.code x code maxLocals ret :: tables_1), c.before #[Value.ref b] s = true := atoms_spec (ws := Jvm.Cond.code x code maxLocals ret :: tables_1) B.pre
    have hts : ∀ w ∈ lw_tbl, w.before #[Value.ref b] s = true := k2_hts_sels lw_privs (fun w hw => hts0 w (List.mem_cons_of_mem _ hw)) lw_privs_ok
    have hml : c.maxLocals = 4 := B.maxLocals_eq (hts0 _ List.mem_cons_self)
    have X₀ : Stand p l e room_1 s m #[Value.ref b] below meth c s₁ [] 0 0 := Stand.of_body B
    have hh0 : s₁.heap = s.heap := by rw [B.state]; rfl
    have hsz : scr.slots.size = xs.length := by rw [← Array.length_toList, hlist, List.length_map]
    have hval : ∀ j : Nat, j < xs.length → scr.slots[j]? = some (.int (xs.getD j 0)) := fun j hj => by
      rw [← Array.getElem?_toList, hlist]
      simp [hj]
    have hbl : b < s.heap.size := (Array.getElem?_eq_some_iff.mp hcb).1
    have hX : va_X b xs.length (fun j => xs.getD j 0) s s.heap := ⟨scr, hcb, hof, hkn, hsz, hval⟩
    have K : W p l e room_1 s m #[Value.ref b] below meth c s₁.heap [] 0 0 (lw_Z below #[Value.ref b] s) (entryFrame m ([Value.ref b] : List Value).toArray 4) := by
      rw [hh0]
      exact whole_start l hbd ⟨B.exec, B.bytes, B.returns, hml, hown, hts, hX, hbl, B.notSynchronized, hgv⟩
    obtain ⟨t, a1, o, b1, b2, b3⟩ := K s₁ rfl X₀
    exact ⟨t, o, a1, b1, b2, b3⟩
theorem lw_pre_spec {args : Array Value} {s : State} (h : (Jvm.Cond.and given_1 narrow_1).before args s = true) (hr : rest_1_c.before args s = true) : ∃ (b : Addr) (xs : List Int32), lw_P b xs args s := by
  have hs := flat_of_before _ h
  have hq := flat_of_before _ hr
  have hc : (Cond.count 1).before args s = true := hs _ (by decide +kernel)
  have harr : (Cond.arrayOf (.arg 0) .int).before args s = true := hs _ (by decide +kernel)
  have hle : (Cond.le (.length (.arg 0)) (.int 3072)).before args s = true := hs _ (by decide +kernel)
  have hlen : (Cond.isInt (.length (.arg 0))).before args s = true := hq _ (by decide +kernel)
  have hall : (Cond.all (.arg 0) (.isInt (.elem (.arg 0) (.index 0)))).before args s = true := hq _ (by decide +kernel)
  obtain ⟨b, xs, hb, hx⟩ := State.ints_of_pre rfl harr hlen hall
  have hsm : xs.length < 2 ^ 31 := hx.choose_spec.2.2.2
  have hev : (Term.length (.arg 0)).eval args s none [] s = some (.int xs.length.toInt32) := hx.length_eval hb
  have hv := Cond.le_ints hev (show (Term.int 3072).eval args s none [] s = some (.int 3072) from rfl)
  have hd : xs.length.toInt32 ≤ 3072 := by
    simpa [Cond.before, Cond.holds, hv] using hle
  have hN : xs.length ≤ 3072 := (Int32.ofNat_le_ofNat hsm (by decide)).mp (show Int32.ofNat xs.length ≤ Int32.ofNat 3072 from hd)
  exact ⟨b, xs, Cond.one_arg hc (show args[0]? = some (.ref b) from hb), hx, hN, h⟩
theorem lw_comes (l : Launch) : Comes l x (Jvm.Cond.code x code maxLocals ret :: tables_1) room_1 (fun tb e args s => Calls_1 tb e args s ∧ rest_1 tb e args s ∧ Pre_1 tb e args s)
    (fun _ _ args s o t => lw_Q args s o t) := by
  intro p e ha hc hk s m args below hf hfit hheap happ hpre
  obtain ⟨b, xs, hP⟩ := lw_pre_spec hpre.2.2 hpre.2.1
  obtain ⟨k, o, h1, h2, h3, hQ⟩ := lw_walk l b xs p e ha hc hk s m args below hf ((Spec.applies_iff_loose hf).mp happ).1 hP trivial
  exact ⟨k, o, h1, h2, h3, hQ⟩
theorem lw_frame {s t : State} {o : Outcome} {args : Array Value} (h : Framed s o t [] 51 23562) :
    Framed s o t (fieldLocs frame_1_writes args s ++ arrayLocs frame_1_arrays args s ++ staticLocs frame_1_statics s) 51 23562 := h
theorem lw_limb (L : Cond) (hL : ∀ (args : Array Value) (s t : State), L.after args s (.returned (some (.int 1))) t = true) :
    ArmFor flags0 classFile x code maxLocals ret World_1 tables_1 room_1 Calls_1 rest_1 Pre_1
      (fun tb e a s o t => postC L tb e a s o t ∧ Framed s o t (fieldLocs frame_1_writes a s ++ arrayLocs frame_1_arrays a s ++ staticLocs frame_1_statics s) 51 23562) := by
  intro l _ _ _ p e ha hc hk s m args below hf hfit hheap happ hpre
  obtain ⟨k, o, h1, h2, h3, rfl, hF⟩ := lw_comes l p e ha hc hk s m args below hf hfit hheap happ hpre
  exact ⟨k, _, h1, h2, h3, hL args s _, lw_frame hF⟩
theorem i_vc : Claimed_1_1 ∧ Claimed_1_2 := ⟨lw_limb limb_1_1 (fun args s t => by simp [limb_1_1, Cond.after, Cond.holds, Cond.value]), lw_limb limb_1_2 (fun args s t => Cond.after_iff.mpr (by
  first | (rw [show limb_1_2 = Cond.eq .result (.int 1) from rfl, Cond.eq_ints (x := 1) (y := 1) rfl rfl]; simp; done) | (simp [limb_1_2, Cond.value, Term.eval]; done)))⟩
