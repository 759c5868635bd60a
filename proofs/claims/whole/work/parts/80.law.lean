-- ===== end of PART A; then your names; then what follows =====
/-! THE CLAIM OUT OF ONE WALK OF THE LAW'S BODY. Your part is whole_start (and what it stands on); all else here is the same for every law, but numbers. -/
def R_law : String := "FootBridgesLaw"
def lw_P (b : Addr) (xs : List Int32) (args : Array Value) (s : State) : Prop := args = #[.ref b] ∧ s.IntsAt b xs ∧ xs.length ≤ 3072 ∧ (Jvm.Cond.and given_1 narrow_1).before args s = true
def lw_Q (_ : Array Value) (s : State) (o : Outcome) (t : State) : Prop := o = .returned (some (.int 1)) ∧ Framed s o t [] 51 23562
def lw_Z (below : List Frame) (a : Array Value) (s : State) : State → Prop := fun t => ∃ o, t.status = .running ∧ Ended t below o ∧ lw_Q a s o t
/-- the law's own end, with 1 on the stack, nothing written that was there before, its room as the claim has it -/
theorem lw_ret {p : Program} {l : Launch} {e : Env} {s : State} {m : MethodId} {below : List Frame} {meth : Method} {c : Code} {b : Nat} (hx : p.tables.exec = Jvm.exec) (hb : c.code = code) (hr : meth.sig.returnType = ret) (hlocks : meth.locks = false) {pc : Nat} {H : Heap} {ls : Array Slot} (hdg : decode code pc = .ok (.ireturn, 1)) : W p l e room_1 s m #[Value.ref b] below meth c H [] 51 23562 (lw_Z below #[Value.ref b] s) (F0 m pc ls [.int 1]) := by
  intro T hT X
  obtain ⟨fs, hret, hrun, hended, hW, hframe⟩ := X.leave (v := some (.int 1)) (hlocks := hlocks) (fun h => by rw [hr] at h; cases h)
  have hmeth' : T.vm.method? m = some meth := X.method'
  refine ⟨T.setFrames fs, ?_, .returned (some (.int 1)), hrun, hended, rfl, ⟨_, rfl⟩, hW, hframe⟩
  jvm_step X.here [X.here.top, hx, hb, hdg, hmeth', hr, ret, narrow_b1]
  (try refine ⟨rfl, ?_⟩); (try refine ⟨rfl, ?_⟩)
  first | (intro acts; rw [hret _ acts rfl rfl rfl]) | rw [hret _ _ rfl rfl rfl]
  exact Steps.refl _
/-- what holds at the law's entry: the machine, the code, the tables' words (any of lw_tbl by 'hts w (by decide +kernel)'), the script of L ints xs at the cell b, what the Statement gives of the start (any of its parts by flat_of_before) -/
def lw_At (p : Program) (s : State) (m : MethodId) (meth : Method) (c : Code) (b L : Nat) (xs : Nat → Int32) : Prop :=
  p.tables.exec = Jvm.exec ∧ c.code = code ∧ meth.sig.returnType = ret ∧ c.maxLocals = 4 ∧ s.vm.findClass R_law = some m.cls ∧ (∀ w ∈ lw_tbl, w.before #[Value.ref b] s = true) ∧ va_X b L xs s s.heap ∧ b < s.heap.size ∧ meth.locks = false ∧ (Jvm.Cond.and given_1 narrow_1).before #[Value.ref b] s = true
theorem lw_nIadd {i j : Nat} : nI i + nI j = nI (i + j) := nI_add i j
theorem lw_in0 {i L : Nat} (hi : i + 6 ≤ L) (hL : L ≤ 3072) : vp_in (nI i) L := vp_in_nI (by omega) (by omega)
theorem lw_in {i L : Nat} {j : Nat} (hj : j < 6) (hi : i + 6 ≤ L) (hL : L ≤ 3072) : vp_in (nI i + nI j) L := by
  rw [nI_add]
  exact vp_in_nI (by omega) (by omega)
theorem lw_le {i L : Nat} (hL : L ≤ 3072) (hi : i ≤ 3100) (h : ¬ (Int32.ofNat L - 6 < nI i)) : i + 6 ≤ L := by
  have h1 : (nI L - nI 6).toInt = (L : Int) - 6 := pk_sub_toInt (by omega) (by omega)
  have h2 : (nI i).toInt = (i : Int) := nI_toInt (by omega)
  have h3 : ¬ ((nI L - nI 6).toInt < (nI i).toInt) := fun h4 => h (Int32.lt_iff_toInt_lt.mpr h4)
  rw [h1, h2] at h3
  omega
section FZ
variable {p : Program} {l : Launch} {e : Env} {R : Room} {s : State} {m : MethodId} {args : Array Value} {below : List Frame} {meth : Method} {c : Code} {H : Heap} {locs : List Loc} {cells slots : Nat} {Q : State → Prop}
variable {cc : ByteArray} {pc nL : Nat} {ls : Array Slot} {rest : List Value} {own : String} {g : fb_G} {ks : List Nat} {A : Nat → Prop} {σ : fb_S}
variable {y : MethodName} {bytes : ByteArray} {maxL fr lo n index : Nat} {ret : Option FieldType} {Qc : Array Value → State → Outcome → State → Prop} {As st0 : List Value}
theorem fb_runVZ {k ci : Nat} {C : String} {T : u_T} {N : Nat} {fs : List Value} {tz : Nat → Nat} (X : fb_X p m c cc nL s args own g ks A) (h : fb_H g ks A s.heap σ H locs) (hM : fb_MZ l y bytes maxL ret fr lo g ks (.ref (g.1 k) :: As) σ Qc) (hz : fb_Zp A tz s) (hf : (Cond.code y bytes maxL ret ∈ fb_tbl ∧ Cond.instanceMethod y ∈ fb_tbl ∧ Cond.selects C y y ∈ fb_tbl ∧ Cond.initialized y.cls ∈ fb_tbl) ∧ fb_yd y n) (hl : Cond.methodLink own index y ∈ fb_tbl) (hk : k ∈ ks) (he : fb_cell g (σ.1 k) σ.2 k = .inr (ci, fs)) (hcl : fb_cl[ci]? = some (C, T, N)) (hR : fr + 1 ≤ R.frames ∧ 8 + (maxL + 11) + lo ≤ R.locals) (hc : cells ≤ R.cells ∧ slots ≤ R.slots) (hn : As.length = n) (hsz : ls.size = nL) (hst : st0 = As.reverse ++ .ref (g.1 k) :: rest) (hW : (rest.map fun v => v.category).sum ≤ 8) (hdg : decode cc pc = .ok (.invokevirtual index, 3)) :
    va_Run p l e R s m args below meth c H locs cells slots 0 0 (F0 m pc ls st0) rest (Qc (.ref (g.1 k) :: As).toArray) (fb_A g ks) := by
  have ht := X.1.2.2.2.2
  refine va_runV (As := As) (C := C) X.1 hM ⟨callB_of n ht (fb_good y bytes maxL ret hf.1.1) rfl rfl rfl (ht _ hf.1.2.2.2) (ht _ hl) hf.2 hR, ht _ hf.1.2.1, ht _ hf.1.2.2.1⟩ ⟨fun a U fr mk q => ?_, fb_preV X h hk he hcl, fun U hU hW => ?_⟩ rfl hn hsz hst (lv_room hW) hdg hc
  · obtain ⟨q0, ⟨⟨q1, q2⟩, q3⟩, tz, q4⟩ := q
    exact ⟨q0, ⟨⟨q1, va_K.moved (u := U) (U := U.calling fr mk a) (Vm.Alike.refl U.vm) q2⟩, fb_N_same (u := U) (U := U.calling fr mk a) rfl q3⟩, tz, fun z hz => ⟨va_Z.moved (u := U) (U := U.calling fr mk a) (Vm.Alike.refl U.vm) (q4 z hz).1, va_T.moved (u := U) (U := U.calling fr mk a) (Vm.Alike.refl U.vm) (q4 z hz).2⟩⟩
  · refine ⟨rfl, ⟨⟨by rw [hU]; exact h.1, va_K.moved hW.alike X.2.1⟩, fb_N_warm hW X.2.2.2.2⟩, tz, fun z hz2 => ?_⟩
    have h3 := hz z hz2
    rw [hU]
    exact ⟨((h3.1.kept h.2.2.1).narrow X.2.2.2.1).moved hW.alike, ((h3.2.kept h.2.2.1).narrow X.2.2.2.1).moved hW.alike⟩
end FZ

section LW
variable {p : Program} {l : Launch} {e : Env} {s : State} {m : MethodId} {below : List Frame} {meth : Method} {c : Code} {g : fb_G} {b L : Nat} {xs : Nat → Int32}
set_option maxHeartbeats 8000000 in
set_option maxRecDepth 100000 in
theorem law_c0 (X : fb_X p m c code 4 s #[.ref b] RL g [0, 1, 2, 3, 4, 5, 6, 7, 8, 9, 10, 11, 12, 13, 14, 15, 16, 50, 17, 18, 19, 20, 21, 22, 23, 24, 25, 26, 27, 28, 29, 30, 31, 32, 33, 34, 35, 36, 37, 38, 39, 40, 41, 42, 43, 44, 45, 46, 47, 48, 49] (fun q : Nat => s.heap.size ≤ q)) (hX : va_X b L xs s s.heap) (hbl : b < s.heap.size) (hL : L ≤ 3072) (N : Nat) (hNN : 40000 ≤ N) {i : Nat} (hi : i + 6 ≤ L) (hnx : ∀ (σ : fb_S) (H : Heap) (locs : List Loc) (ls : Array Slot), Rl σ → fb_H g [0, 1, 2, 3, 4, 5, 6, 7, 8, 9, 10, 11, 12, 13, 14, 15, 16, 50, 17, 18, 19, 20, 21, 22, 23, 24, 25, 26, 27, 28, 29, 30, 31, 32, 33, 34, 35, 36, 37, 38, 39, 40, 41, 42, 43, 44, 45, 46, 47, 48, 49] (fun q : Nat => s.heap.size ≤ q) s.heap σ H locs → lv_has ls 4 [(3, .int (nI i)), (2, .ref (g.1 29)), (1, .ref (g.1 0)), (0, .ref b)] → W p l e room_1 s m #[Value.ref b] below meth c H locs 51 23562 (lw_Z below #[Value.ref b] s) (F0 m 1194 ls [])) (σ : fb_S) (hR : Rl σ) (H : Heap) (locs : List Loc) (ls : Array Slot) (h : fb_H g [0, 1, 2, 3, 4, 5, 6, 7, 8, 9, 10, 11, 12, 13, 14, 15, 16, 50, 17, 18, 19, 20, 21, 22, 23, 24, 25, 26, 27, 28, 29, 30, 31, 32, 33, 34, 35, 36, 37, 38, 39, 40, 41, 42, 43, 44, 45, 46, 47, 48, 49] (fun q : Nat => s.heap.size ≤ q) s.heap σ H locs) (hl : lv_has ls 4 [(3, .int (nI i)), (2, .ref (g.1 29)), (1, .ref (g.1 0)), (0, .ref b)]) : W p l e room_1 s m #[Value.ref b] below meth c H locs 51 23562 (lw_Z below #[Value.ref b] s) (F0 m 184 ls []) := by
  have hx := X.1.1
  have hb := X.1.2.1
  have hbA : ¬ (fun q : Nat => s.heap.size ≤ q) b := Nat.not_le.mpr hbl
  refine lv_aload_n hx hb dL_law_184 rfl (lv_at hl 2 rfl) ?_
  refine lv_aload_n hx hb dL_law_185 rfl (lv_at hl 3 rfl) ?_
  refine lv_iload_n hx hb dL_law_186 rfl (lv_at hl 0 rfl) ?_
  refine lv_iconst hx hb dL_law_187 ki_1 ?_
  refine lv_iadd hx hb dL_law_188 ?_
  refine va_sld hx hb hX hbl hbA h.2 (lw_in (j := 1) (by decide) hi hL) dL_law_189 ?_
  obtain ⟨r, σ1, σ2, h1, h2, hR2⟩ := st_span N hNN σ hR (xs (nI i + 1).toNatClampNeg)
  refine fb_ci X h (fb_runV (As := [.int (xs (nI i + 1).toNatClampNeg)]) (rest := []) (k := 0) X h (c_X5_span l X.2.2.1 (by decide) N (xs (nI i + 1).toNatClampNeg) σ h1) mf_yX5_span lm_RL_13 (by decide) rfl rfl ⟨Nat.le_of_ble_eq_true rfl, Nat.le_of_ble_eq_true rfl⟩ ⟨Nat.le_refl _, Nat.le_refl _⟩ rfl hl.1 rfl (Nat.le_of_ble_eq_true rfl) dL_law_190) (fun H locs h => ?_)
  refine lv_aload_n hx hb dL_law_193 rfl (lv_at hl 1 rfl) ?_
  refine lv_aload_n hx hb dL_law_194 rfl (lv_at hl 3 rfl) ?_
  refine lv_iload_n hx hb dL_law_195 rfl (lv_at hl 0 rfl) ?_
  refine lv_iconst hx hb dL_law_196 ki_1 ?_
  refine lv_iadd hx hb dL_law_197 ?_
  refine va_sld hx hb hX hbl hbA h.2 (lw_in (j := 1) (by decide) hi hL) dL_law_198 ?_
  refine fb_ci X h (fb_runV (As := [.int (xs (nI i + 1).toNatClampNeg)]) (rest := [.int r]) (k := 29) X h (c_X6_span l X.2.2.1 (by decide) N (xs (nI i + 1).toNatClampNeg) σ1 h2) mf_yX6_span lm_RL_17 (by decide) rfl rfl ⟨Nat.le_of_ble_eq_true rfl, Nat.le_of_ble_eq_true rfl⟩ ⟨Nat.le_refl _, Nat.le_refl _⟩ rfl hl.1 rfl (Nat.le_of_ble_eq_true rfl) dL_law_199) (fun H locs h => ?_)
  refine lv_icmp_eq hx hb dL_law_202 (tgt := 1194) (by decide) (fun _ => ?_) (fun h9 => absurd rfl h9)
  exact hnx _ _ _ _ hR2 h hl
set_option maxHeartbeats 8000000 in
set_option maxRecDepth 100000 in
theorem law_c1 (X : fb_X p m c code 4 s #[.ref b] RL g [0, 1, 2, 3, 4, 5, 6, 7, 8, 9, 10, 11, 12, 13, 14, 15, 16, 50, 17, 18, 19, 20, 21, 22, 23, 24, 25, 26, 27, 28, 29, 30, 31, 32, 33, 34, 35, 36, 37, 38, 39, 40, 41, 42, 43, 44, 45, 46, 47, 48, 49] (fun q : Nat => s.heap.size ≤ q)) (hX : va_X b L xs s s.heap) (hbl : b < s.heap.size) (hL : L ≤ 3072) (N : Nat) (hNN : 40000 ≤ N) {i : Nat} (hi : i + 6 ≤ L) (hnx : ∀ (σ : fb_S) (H : Heap) (locs : List Loc) (ls : Array Slot), Rl σ → fb_H g [0, 1, 2, 3, 4, 5, 6, 7, 8, 9, 10, 11, 12, 13, 14, 15, 16, 50, 17, 18, 19, 20, 21, 22, 23, 24, 25, 26, 27, 28, 29, 30, 31, 32, 33, 34, 35, 36, 37, 38, 39, 40, 41, 42, 43, 44, 45, 46, 47, 48, 49] (fun q : Nat => s.heap.size ≤ q) s.heap σ H locs → lv_has ls 4 [(3, .int (nI i)), (2, .ref (g.1 29)), (1, .ref (g.1 0)), (0, .ref b)] → W p l e room_1 s m #[Value.ref b] below meth c H locs 51 23562 (lw_Z below #[Value.ref b] s) (F0 m 1194 ls [])) (σ : fb_S) (hR : Rl σ) (H : Heap) (locs : List Loc) (ls : Array Slot) (h : fb_H g [0, 1, 2, 3, 4, 5, 6, 7, 8, 9, 10, 11, 12, 13, 14, 15, 16, 50, 17, 18, 19, 20, 21, 22, 23, 24, 25, 26, 27, 28, 29, 30, 31, 32, 33, 34, 35, 36, 37, 38, 39, 40, 41, 42, 43, 44, 45, 46, 47, 48, 49] (fun q : Nat => s.heap.size ≤ q) s.heap σ H locs) (hl : lv_has ls 4 [(3, .int (nI i)), (2, .ref (g.1 29)), (1, .ref (g.1 0)), (0, .ref b)]) : W p l e room_1 s m #[Value.ref b] below meth c H locs 51 23562 (lw_Z below #[Value.ref b] s) (F0 m 207 ls []) := by
  have hx := X.1.1
  have hb := X.1.2.1
  have hbA : ¬ (fun q : Nat => s.heap.size ≤ q) b := Nat.not_le.mpr hbl
  refine lv_aload_n hx hb dL_law_207 rfl (lv_at hl 2 rfl) ?_
  refine lv_aload_n hx hb dL_law_208 rfl (lv_at hl 3 rfl) ?_
  refine lv_iload_n hx hb dL_law_209 rfl (lv_at hl 0 rfl) ?_
  refine lv_iconst hx hb dL_law_210 ki_1 ?_
  refine lv_iadd hx hb dL_law_211 ?_
  refine va_sld hx hb hX hbl hbA h.2 (lw_in (j := 1) (by decide) hi hL) dL_law_212 ?_
  refine lv_aload_n hx hb dL_law_213 rfl (lv_at hl 3 rfl) ?_
  refine lv_iload_n hx hb dL_law_214 rfl (lv_at hl 0 rfl) ?_
  refine lv_iconst hx hb dL_law_215 ki_2 ?_
  refine lv_iadd hx hb dL_law_216 ?_
  refine va_sld hx hb hX hbl hbA h.2 (lw_in (j := 2) (by decide) hi hL) dL_law_217 ?_
  obtain ⟨r, σ1, σ2, h1, h2, hR2⟩ := st_weight N hNN σ hR (xs (nI i + 1).toNatClampNeg) (xs (nI i + 2).toNatClampNeg)
  refine fb_ci X h (fb_runV (As := [.int (xs (nI i + 1).toNatClampNeg), .int (xs (nI i + 2).toNatClampNeg)]) (rest := []) (k := 0) X h (c_X5_weight l X.2.2.1 (by decide) (xs (nI i + 1).toNatClampNeg) (xs (nI i + 2).toNatClampNeg) σ h1) mf_yX5_weight lm_RL_18 (by decide) rfl rfl ⟨Nat.le_of_ble_eq_true rfl, Nat.le_of_ble_eq_true rfl⟩ ⟨Nat.le_refl _, Nat.le_refl _⟩ rfl hl.1 rfl (Nat.le_of_ble_eq_true rfl) dL_law_218) (fun H locs h => ?_)
  refine lv_aload_n hx hb dL_law_221 rfl (lv_at hl 1 rfl) ?_
  refine lv_aload_n hx hb dL_law_222 rfl (lv_at hl 3 rfl) ?_
  refine lv_iload_n hx hb dL_law_223 rfl (lv_at hl 0 rfl) ?_
  refine lv_iconst hx hb dL_law_224 ki_1 ?_
  refine lv_iadd hx hb dL_law_225 ?_
  refine va_sld hx hb hX hbl hbA h.2 (lw_in (j := 1) (by decide) hi hL) dL_law_226 ?_
  refine lv_aload_n hx hb dL_law_227 rfl (lv_at hl 3 rfl) ?_
  refine lv_iload_n hx hb dL_law_228 rfl (lv_at hl 0 rfl) ?_
  refine lv_iconst hx hb dL_law_229 ki_2 ?_
  refine lv_iadd hx hb dL_law_230 ?_
  refine va_sld hx hb hX hbl hbA h.2 (lw_in (j := 2) (by decide) hi hL) dL_law_231 ?_
  refine fb_ci X h (fb_runV (As := [.int (xs (nI i + 1).toNatClampNeg), .int (xs (nI i + 2).toNatClampNeg)]) (rest := [.int r]) (k := 29) X h (c_X6_weight l X.2.2.1 (by decide) (xs (nI i + 1).toNatClampNeg) (xs (nI i + 2).toNatClampNeg) σ1 h2) mf_yX6_weight lm_RL_22 (by decide) rfl rfl ⟨Nat.le_of_ble_eq_true rfl, Nat.le_of_ble_eq_true rfl⟩ ⟨Nat.le_refl _, Nat.le_refl _⟩ rfl hl.1 rfl (Nat.le_of_ble_eq_true rfl) dL_law_232) (fun H locs h => ?_)
  refine lv_icmp_eq hx hb dL_law_235 (tgt := 1194) (by decide) (fun _ => ?_) (fun h9 => absurd rfl h9)
  exact hnx _ _ _ _ hR2 h hl
set_option maxHeartbeats 8000000 in
set_option maxRecDepth 100000 in
theorem law_c2 (X : fb_X p m c code 4 s #[.ref b] RL g [0, 1, 2, 3, 4, 5, 6, 7, 8, 9, 10, 11, 12, 13, 14, 15, 16, 50, 17, 18, 19, 20, 21, 22, 23, 24, 25, 26, 27, 28, 29, 30, 31, 32, 33, 34, 35, 36, 37, 38, 39, 40, 41, 42, 43, 44, 45, 46, 47, 48, 49] (fun q : Nat => s.heap.size ≤ q)) (hX : va_X b L xs s s.heap) (hbl : b < s.heap.size) (hL : L ≤ 3072) (N : Nat) (hNN : 40000 ≤ N) {i : Nat} (hi : i + 6 ≤ L) (hnx : ∀ (σ : fb_S) (H : Heap) (locs : List Loc) (ls : Array Slot), Rl σ → fb_H g [0, 1, 2, 3, 4, 5, 6, 7, 8, 9, 10, 11, 12, 13, 14, 15, 16, 50, 17, 18, 19, 20, 21, 22, 23, 24, 25, 26, 27, 28, 29, 30, 31, 32, 33, 34, 35, 36, 37, 38, 39, 40, 41, 42, 43, 44, 45, 46, 47, 48, 49] (fun q : Nat => s.heap.size ≤ q) s.heap σ H locs → lv_has ls 4 [(3, .int (nI i)), (2, .ref (g.1 29)), (1, .ref (g.1 0)), (0, .ref b)] → W p l e room_1 s m #[Value.ref b] below meth c H locs 51 23562 (lw_Z below #[Value.ref b] s) (F0 m 1194 ls [])) (σ : fb_S) (hR : Rl σ) (H : Heap) (locs : List Loc) (ls : Array Slot) (h : fb_H g [0, 1, 2, 3, 4, 5, 6, 7, 8, 9, 10, 11, 12, 13, 14, 15, 16, 50, 17, 18, 19, 20, 21, 22, 23, 24, 25, 26, 27, 28, 29, 30, 31, 32, 33, 34, 35, 36, 37, 38, 39, 40, 41, 42, 43, 44, 45, 46, 47, 48, 49] (fun q : Nat => s.heap.size ≤ q) s.heap σ H locs) (hl : lv_has ls 4 [(3, .int (nI i)), (2, .ref (g.1 29)), (1, .ref (g.1 0)), (0, .ref b)]) : W p l e room_1 s m #[Value.ref b] below meth c H locs 51 23562 (lw_Z below #[Value.ref b] s) (F0 m 240 ls []) := by
  have hx := X.1.1
  have hb := X.1.2.1
  have hbA : ¬ (fun q : Nat => s.heap.size ≤ q) b := Nat.not_le.mpr hbl
  refine lv_aload_n hx hb dL_law_240 rfl (lv_at hl 2 rfl) ?_
  refine lv_aload_n hx hb dL_law_241 rfl (lv_at hl 3 rfl) ?_
  refine lv_iload_n hx hb dL_law_242 rfl (lv_at hl 0 rfl) ?_
  refine lv_iconst hx hb dL_law_243 ki_1 ?_
  refine lv_iadd hx hb dL_law_244 ?_
  refine va_sld hx hb hX hbl hbA h.2 (lw_in (j := 1) (by decide) hi hL) dL_law_245 ?_
  refine lv_aload_n hx hb dL_law_246 rfl (lv_at hl 3 rfl) ?_
  refine lv_iload_n hx hb dL_law_247 rfl (lv_at hl 0 rfl) ?_
  refine lv_iconst hx hb dL_law_248 ki_2 ?_
  refine lv_iadd hx hb dL_law_249 ?_
  refine va_sld hx hb hX hbl hbA h.2 (lw_in (j := 2) (by decide) hi hL) dL_law_250 ?_
  obtain ⟨r, σ1, σ2, h1, h2, hR2⟩ := st_spring N hNN σ hR (xs (nI i + 1).toNatClampNeg) (xs (nI i + 2).toNatClampNeg)
  refine fb_ci X h (fb_runV (As := [.int (xs (nI i + 1).toNatClampNeg), .int (xs (nI i + 2).toNatClampNeg)]) (rest := []) (k := 0) X h (c_X5_spring l X.2.2.1 (by decide) (xs (nI i + 1).toNatClampNeg) (xs (nI i + 2).toNatClampNeg) σ h1) mf_yX5_spring lm_RL_23 (by decide) rfl rfl ⟨Nat.le_of_ble_eq_true rfl, Nat.le_of_ble_eq_true rfl⟩ ⟨Nat.le_refl _, Nat.le_refl _⟩ rfl hl.1 rfl (Nat.le_of_ble_eq_true rfl) dL_law_251) (fun H locs h => ?_)
  refine lv_aload_n hx hb dL_law_254 rfl (lv_at hl 1 rfl) ?_
  refine lv_aload_n hx hb dL_law_255 rfl (lv_at hl 3 rfl) ?_
  refine lv_iload_n hx hb dL_law_256 rfl (lv_at hl 0 rfl) ?_
  refine lv_iconst hx hb dL_law_257 ki_1 ?_
  refine lv_iadd hx hb dL_law_258 ?_
  refine va_sld hx hb hX hbl hbA h.2 (lw_in (j := 1) (by decide) hi hL) dL_law_259 ?_
  refine lv_aload_n hx hb dL_law_260 rfl (lv_at hl 3 rfl) ?_
  refine lv_iload_n hx hb dL_law_261 rfl (lv_at hl 0 rfl) ?_
  refine lv_iconst hx hb dL_law_262 ki_2 ?_
  refine lv_iadd hx hb dL_law_263 ?_
  refine va_sld hx hb hX hbl hbA h.2 (lw_in (j := 2) (by decide) hi hL) dL_law_264 ?_
  refine fb_ci X h (fb_runV (As := [.int (xs (nI i + 1).toNatClampNeg), .int (xs (nI i + 2).toNatClampNeg)]) (rest := [.int r]) (k := 29) X h (c_X6_spring l X.2.2.1 (by decide) (xs (nI i + 1).toNatClampNeg) (xs (nI i + 2).toNatClampNeg) σ1 h2) mf_yX6_spring lm_RL_26 (by decide) rfl rfl ⟨Nat.le_of_ble_eq_true rfl, Nat.le_of_ble_eq_true rfl⟩ ⟨Nat.le_refl _, Nat.le_refl _⟩ rfl hl.1 rfl (Nat.le_of_ble_eq_true rfl) dL_law_265) (fun H locs h => ?_)
  refine lv_icmp_eq hx hb dL_law_268 (tgt := 1194) (by decide) (fun _ => ?_) (fun h9 => absurd rfl h9)
  exact hnx _ _ _ _ hR2 h hl
set_option maxHeartbeats 8000000 in
set_option maxRecDepth 100000 in
theorem law_c3 (X : fb_X p m c code 4 s #[.ref b] RL g [0, 1, 2, 3, 4, 5, 6, 7, 8, 9, 10, 11, 12, 13, 14, 15, 16, 50, 17, 18, 19, 20, 21, 22, 23, 24, 25, 26, 27, 28, 29, 30, 31, 32, 33, 34, 35, 36, 37, 38, 39, 40, 41, 42, 43, 44, 45, 46, 47, 48, 49] (fun q : Nat => s.heap.size ≤ q)) (hX : va_X b L xs s s.heap) (hbl : b < s.heap.size) (hL : L ≤ 3072) (N : Nat) (hNN : 40000 ≤ N) {i : Nat} (hi : i + 6 ≤ L) (hnx : ∀ (σ : fb_S) (H : Heap) (locs : List Loc) (ls : Array Slot), Rl σ → fb_H g [0, 1, 2, 3, 4, 5, 6, 7, 8, 9, 10, 11, 12, 13, 14, 15, 16, 50, 17, 18, 19, 20, 21, 22, 23, 24, 25, 26, 27, 28, 29, 30, 31, 32, 33, 34, 35, 36, 37, 38, 39, 40, 41, 42, 43, 44, 45, 46, 47, 48, 49] (fun q : Nat => s.heap.size ≤ q) s.heap σ H locs → lv_has ls 4 [(3, .int (nI i)), (2, .ref (g.1 29)), (1, .ref (g.1 0)), (0, .ref b)] → W p l e room_1 s m #[Value.ref b] below meth c H locs 51 23562 (lw_Z below #[Value.ref b] s) (F0 m 1194 ls [])) (σ : fb_S) (hR : Rl σ) (H : Heap) (locs : List Loc) (ls : Array Slot) (h : fb_H g [0, 1, 2, 3, 4, 5, 6, 7, 8, 9, 10, 11, 12, 13, 14, 15, 16, 50, 17, 18, 19, 20, 21, 22, 23, 24, 25, 26, 27, 28, 29, 30, 31, 32, 33, 34, 35, 36, 37, 38, 39, 40, 41, 42, 43, 44, 45, 46, 47, 48, 49] (fun q : Nat => s.heap.size ≤ q) s.heap σ H locs) (hl : lv_has ls 4 [(3, .int (nI i)), (2, .ref (g.1 29)), (1, .ref (g.1 0)), (0, .ref b)]) : W p l e room_1 s m #[Value.ref b] below meth c H locs 51 23562 (lw_Z below #[Value.ref b] s) (F0 m 273 ls []) := by
  have hx := X.1.1
  have hb := X.1.2.1
  have hbA : ¬ (fun q : Nat => s.heap.size ≤ q) b := Nat.not_le.mpr hbl
  refine lv_aload_n hx hb dL_law_273 rfl (lv_at hl 2 rfl) ?_
  refine lv_aload_n hx hb dL_law_274 rfl (lv_at hl 3 rfl) ?_
  refine lv_iload_n hx hb dL_law_275 rfl (lv_at hl 0 rfl) ?_
  refine lv_iconst hx hb dL_law_276 ki_1 ?_
  refine lv_iadd hx hb dL_law_277 ?_
  refine va_sld hx hb hX hbl hbA h.2 (lw_in (j := 1) (by decide) hi hL) dL_law_278 ?_
  obtain ⟨r, σ1, σ2, h1, h2, hR2⟩ := st_below N hNN σ hR (xs (nI i + 1).toNatClampNeg)
  refine fb_ci X h (fb_runV (As := [.int (xs (nI i + 1).toNatClampNeg)]) (rest := []) (k := 0) X h (c_X5_below l X.2.2.1 (by decide) N (xs (nI i + 1).toNatClampNeg) σ h1) mf_yX5_below lm_RL_27 (by decide) rfl rfl ⟨Nat.le_of_ble_eq_true rfl, Nat.le_of_ble_eq_true rfl⟩ ⟨Nat.le_refl _, Nat.le_refl _⟩ rfl hl.1 rfl (Nat.le_of_ble_eq_true rfl) dL_law_279) (fun H locs h => ?_)
  refine lv_aload_n hx hb dL_law_282 rfl (lv_at hl 1 rfl) ?_
  refine lv_aload_n hx hb dL_law_283 rfl (lv_at hl 3 rfl) ?_
  refine lv_iload_n hx hb dL_law_284 rfl (lv_at hl 0 rfl) ?_
  refine lv_iconst hx hb dL_law_285 ki_1 ?_
  refine lv_iadd hx hb dL_law_286 ?_
  refine va_sld hx hb hX hbl hbA h.2 (lw_in (j := 1) (by decide) hi hL) dL_law_287 ?_
  refine fb_ci X h (fb_runV (As := [.int (xs (nI i + 1).toNatClampNeg)]) (rest := [.int r]) (k := 29) X h (c_X6_below l X.2.2.1 (by decide) N (xs (nI i + 1).toNatClampNeg) σ1 h2) mf_yX6_below lm_RL_30 (by decide) rfl rfl ⟨Nat.le_of_ble_eq_true rfl, Nat.le_of_ble_eq_true rfl⟩ ⟨Nat.le_refl _, Nat.le_refl _⟩ rfl hl.1 rfl (Nat.le_of_ble_eq_true rfl) dL_law_288) (fun H locs h => ?_)
  refine lv_icmp_eq hx hb dL_law_291 (tgt := 1194) (by decide) (fun _ => ?_) (fun h9 => absurd rfl h9)
  exact hnx _ _ _ _ hR2 h hl
set_option maxHeartbeats 8000000 in
set_option maxRecDepth 100000 in
theorem law_c4 (X : fb_X p m c code 4 s #[.ref b] RL g [0, 1, 2, 3, 4, 5, 6, 7, 8, 9, 10, 11, 12, 13, 14, 15, 16, 50, 17, 18, 19, 20, 21, 22, 23, 24, 25, 26, 27, 28, 29, 30, 31, 32, 33, 34, 35, 36, 37, 38, 39, 40, 41, 42, 43, 44, 45, 46, 47, 48, 49] (fun q : Nat => s.heap.size ≤ q)) (hX : va_X b L xs s s.heap) (hbl : b < s.heap.size) (hL : L ≤ 3072) (N : Nat) (hNN : 40000 ≤ N) {i : Nat} (hi : i + 6 ≤ L) (hnx : ∀ (σ : fb_S) (H : Heap) (locs : List Loc) (ls : Array Slot), Rl σ → fb_H g [0, 1, 2, 3, 4, 5, 6, 7, 8, 9, 10, 11, 12, 13, 14, 15, 16, 50, 17, 18, 19, 20, 21, 22, 23, 24, 25, 26, 27, 28, 29, 30, 31, 32, 33, 34, 35, 36, 37, 38, 39, 40, 41, 42, 43, 44, 45, 46, 47, 48, 49] (fun q : Nat => s.heap.size ≤ q) s.heap σ H locs → lv_has ls 4 [(3, .int (nI i)), (2, .ref (g.1 29)), (1, .ref (g.1 0)), (0, .ref b)] → W p l e room_1 s m #[Value.ref b] below meth c H locs 51 23562 (lw_Z below #[Value.ref b] s) (F0 m 1194 ls [])) (σ : fb_S) (hR : Rl σ) (H : Heap) (locs : List Loc) (ls : Array Slot) (h : fb_H g [0, 1, 2, 3, 4, 5, 6, 7, 8, 9, 10, 11, 12, 13, 14, 15, 16, 50, 17, 18, 19, 20, 21, 22, 23, 24, 25, 26, 27, 28, 29, 30, 31, 32, 33, 34, 35, 36, 37, 38, 39, 40, 41, 42, 43, 44, 45, 46, 47, 48, 49] (fun q : Nat => s.heap.size ≤ q) s.heap σ H locs) (hl : lv_has ls 4 [(3, .int (nI i)), (2, .ref (g.1 29)), (1, .ref (g.1 0)), (0, .ref b)]) : W p l e room_1 s m #[Value.ref b] below meth c H locs 51 23562 (lw_Z below #[Value.ref b] s) (F0 m 296 ls []) := by
  have hx := X.1.1
  have hb := X.1.2.1
  have hbA : ¬ (fun q : Nat => s.heap.size ≤ q) b := Nat.not_le.mpr hbl
  refine lv_aload_n hx hb dL_law_296 rfl (lv_at hl 2 rfl) ?_
  refine lv_aload_n hx hb dL_law_297 rfl (lv_at hl 3 rfl) ?_
  refine lv_iload_n hx hb dL_law_298 rfl (lv_at hl 0 rfl) ?_
  refine lv_iconst hx hb dL_law_299 ki_1 ?_
  refine lv_iadd hx hb dL_law_300 ?_
  refine va_sld hx hb hX hbl hbA h.2 (lw_in (j := 1) (by decide) hi hL) dL_law_301 ?_
  obtain ⟨r, σ1, σ2, h1, h2, hR2⟩ := st_tone N hNN σ hR (xs (nI i + 1).toNatClampNeg)
  refine fb_ci X h (fb_runV (As := [.int (xs (nI i + 1).toNatClampNeg)]) (rest := []) (k := 0) X h (c_X5_tone l X.2.2.1 (by decide) N (xs (nI i + 1).toNatClampNeg) σ h1) mf_yX5_tone lm_RL_31 (by decide) rfl rfl ⟨Nat.le_of_ble_eq_true rfl, Nat.le_of_ble_eq_true rfl⟩ ⟨Nat.le_refl _, Nat.le_refl _⟩ rfl hl.1 rfl (Nat.le_of_ble_eq_true rfl) dL_law_302) (fun H locs h => ?_)
  refine lv_aload_n hx hb dL_law_305 rfl (lv_at hl 1 rfl) ?_
  refine lv_aload_n hx hb dL_law_306 rfl (lv_at hl 3 rfl) ?_
  refine lv_iload_n hx hb dL_law_307 rfl (lv_at hl 0 rfl) ?_
  refine lv_iconst hx hb dL_law_308 ki_1 ?_
  refine lv_iadd hx hb dL_law_309 ?_
  refine va_sld hx hb hX hbl hbA h.2 (lw_in (j := 1) (by decide) hi hL) dL_law_310 ?_
  refine fb_ci X h (fb_runV (As := [.int (xs (nI i + 1).toNatClampNeg)]) (rest := [.int r]) (k := 29) X h (c_X6_tone l X.2.2.1 (by decide) N (xs (nI i + 1).toNatClampNeg) σ1 h2) mf_yX6_tone lm_RL_34 (by decide) rfl rfl ⟨Nat.le_of_ble_eq_true rfl, Nat.le_of_ble_eq_true rfl⟩ ⟨Nat.le_refl _, Nat.le_refl _⟩ rfl hl.1 rfl (Nat.le_of_ble_eq_true rfl) dL_law_311) (fun H locs h => ?_)
  refine lv_icmp_eq hx hb dL_law_314 (tgt := 1194) (by decide) (fun _ => ?_) (fun h9 => absurd rfl h9)
  exact hnx _ _ _ _ hR2 h hl
set_option maxHeartbeats 8000000 in
set_option maxRecDepth 100000 in
theorem law_c5 (X : fb_X p m c code 4 s #[.ref b] RL g [0, 1, 2, 3, 4, 5, 6, 7, 8, 9, 10, 11, 12, 13, 14, 15, 16, 50, 17, 18, 19, 20, 21, 22, 23, 24, 25, 26, 27, 28, 29, 30, 31, 32, 33, 34, 35, 36, 37, 38, 39, 40, 41, 42, 43, 44, 45, 46, 47, 48, 49] (fun q : Nat => s.heap.size ≤ q)) (hX : va_X b L xs s s.heap) (hbl : b < s.heap.size) (hL : L ≤ 3072) (N : Nat) (hNN : 40000 ≤ N) {i : Nat} (hi : i + 6 ≤ L) (hnx : ∀ (σ : fb_S) (H : Heap) (locs : List Loc) (ls : Array Slot), Rl σ → fb_H g [0, 1, 2, 3, 4, 5, 6, 7, 8, 9, 10, 11, 12, 13, 14, 15, 16, 50, 17, 18, 19, 20, 21, 22, 23, 24, 25, 26, 27, 28, 29, 30, 31, 32, 33, 34, 35, 36, 37, 38, 39, 40, 41, 42, 43, 44, 45, 46, 47, 48, 49] (fun q : Nat => s.heap.size ≤ q) s.heap σ H locs → lv_has ls 4 [(3, .int (nI i)), (2, .ref (g.1 29)), (1, .ref (g.1 0)), (0, .ref b)] → W p l e room_1 s m #[Value.ref b] below meth c H locs 51 23562 (lw_Z below #[Value.ref b] s) (F0 m 1194 ls [])) (σ : fb_S) (hR : Rl σ) (H : Heap) (locs : List Loc) (ls : Array Slot) (h : fb_H g [0, 1, 2, 3, 4, 5, 6, 7, 8, 9, 10, 11, 12, 13, 14, 15, 16, 50, 17, 18, 19, 20, 21, 22, 23, 24, 25, 26, 27, 28, 29, 30, 31, 32, 33, 34, 35, 36, 37, 38, 39, 40, 41, 42, 43, 44, 45, 46, 47, 48, 49] (fun q : Nat => s.heap.size ≤ q) s.heap σ H locs) (hl : lv_has ls 4 [(3, .int (nI i)), (2, .ref (g.1 29)), (1, .ref (g.1 0)), (0, .ref b)]) : W p l e room_1 s m #[Value.ref b] below meth c H locs 51 23562 (lw_Z below #[Value.ref b] s) (F0 m 319 ls []) := by
  have hx := X.1.1
  have hb := X.1.2.1
  have hbA : ¬ (fun q : Nat => s.heap.size ≤ q) b := Nat.not_le.mpr hbl
  refine lv_aload_n hx hb dL_law_319 rfl (lv_at hl 2 rfl) ?_
  refine lv_aload_n hx hb dL_law_320 rfl (lv_at hl 3 rfl) ?_
  refine lv_iload_n hx hb dL_law_321 rfl (lv_at hl 0 rfl) ?_
  refine lv_iconst hx hb dL_law_322 ki_1 ?_
  refine lv_iadd hx hb dL_law_323 ?_
  refine va_sld hx hb hX hbl hbA h.2 (lw_in (j := 1) (by decide) hi hL) dL_law_324 ?_
  obtain ⟨r, σ1, σ2, h1, h2, hR2⟩ := st_isTone N hNN σ hR (xs (nI i + 1).toNatClampNeg)
  refine fb_ci X h (fb_runV (As := [.int (xs (nI i + 1).toNatClampNeg)]) (rest := []) (k := 0) X h (c_X5_isTone l X.2.2.1 (by decide) N (xs (nI i + 1).toNatClampNeg) σ h1) mf_yX5_isTone lm_RL_35 (by decide) rfl rfl ⟨Nat.le_of_ble_eq_true rfl, Nat.le_of_ble_eq_true rfl⟩ ⟨Nat.le_refl _, Nat.le_refl _⟩ rfl hl.1 rfl (Nat.le_of_ble_eq_true rfl) dL_law_325) (fun H locs h => ?_)
  refine lv_aload_n hx hb dL_law_328 rfl (lv_at hl 1 rfl) ?_
  refine lv_aload_n hx hb dL_law_329 rfl (lv_at hl 3 rfl) ?_
  refine lv_iload_n hx hb dL_law_330 rfl (lv_at hl 0 rfl) ?_
  refine lv_iconst hx hb dL_law_331 ki_1 ?_
  refine lv_iadd hx hb dL_law_332 ?_
  refine va_sld hx hb hX hbl hbA h.2 (lw_in (j := 1) (by decide) hi hL) dL_law_333 ?_
  refine fb_ci X h (fb_runV (As := [.int (xs (nI i + 1).toNatClampNeg)]) (rest := [.int r]) (k := 29) X h (c_X6_isTone l X.2.2.1 (by decide) N (xs (nI i + 1).toNatClampNeg) σ1 h2) mf_yX6_isTone lm_RL_38 (by decide) rfl rfl ⟨Nat.le_of_ble_eq_true rfl, Nat.le_of_ble_eq_true rfl⟩ ⟨Nat.le_refl _, Nat.le_refl _⟩ rfl hl.1 rfl (Nat.le_of_ble_eq_true rfl) dL_law_334) (fun H locs h => ?_)
  refine lv_icmp_eq hx hb dL_law_337 (tgt := 1194) (by decide) (fun _ => ?_) (fun h9 => absurd rfl h9)
  exact hnx _ _ _ _ hR2 h hl
set_option maxHeartbeats 8000000 in
set_option maxRecDepth 100000 in
theorem law_c6 (X : fb_X p m c code 4 s #[.ref b] RL g [0, 1, 2, 3, 4, 5, 6, 7, 8, 9, 10, 11, 12, 13, 14, 15, 16, 50, 17, 18, 19, 20, 21, 22, 23, 24, 25, 26, 27, 28, 29, 30, 31, 32, 33, 34, 35, 36, 37, 38, 39, 40, 41, 42, 43, 44, 45, 46, 47, 48, 49] (fun q : Nat => s.heap.size ≤ q)) (hX : va_X b L xs s s.heap) (hbl : b < s.heap.size) (hL : L ≤ 3072) (N : Nat) (hNN : 40000 ≤ N) {i : Nat} (hi : i + 6 ≤ L) (hnx : ∀ (σ : fb_S) (H : Heap) (locs : List Loc) (ls : Array Slot), Rl σ → fb_H g [0, 1, 2, 3, 4, 5, 6, 7, 8, 9, 10, 11, 12, 13, 14, 15, 16, 50, 17, 18, 19, 20, 21, 22, 23, 24, 25, 26, 27, 28, 29, 30, 31, 32, 33, 34, 35, 36, 37, 38, 39, 40, 41, 42, 43, 44, 45, 46, 47, 48, 49] (fun q : Nat => s.heap.size ≤ q) s.heap σ H locs → lv_has ls 4 [(3, .int (nI i)), (2, .ref (g.1 29)), (1, .ref (g.1 0)), (0, .ref b)] → W p l e room_1 s m #[Value.ref b] below meth c H locs 51 23562 (lw_Z below #[Value.ref b] s) (F0 m 1194 ls [])) (σ : fb_S) (hR : Rl σ) (H : Heap) (locs : List Loc) (ls : Array Slot) (h : fb_H g [0, 1, 2, 3, 4, 5, 6, 7, 8, 9, 10, 11, 12, 13, 14, 15, 16, 50, 17, 18, 19, 20, 21, 22, 23, 24, 25, 26, 27, 28, 29, 30, 31, 32, 33, 34, 35, 36, 37, 38, 39, 40, 41, 42, 43, 44, 45, 46, 47, 48, 49] (fun q : Nat => s.heap.size ≤ q) s.heap σ H locs) (hl : lv_has ls 4 [(3, .int (nI i)), (2, .ref (g.1 29)), (1, .ref (g.1 0)), (0, .ref b)]) : W p l e room_1 s m #[Value.ref b] below meth c H locs 51 23562 (lw_Z below #[Value.ref b] s) (F0 m 342 ls []) := by
  have hx := X.1.1
  have hb := X.1.2.1
  have hbA : ¬ (fun q : Nat => s.heap.size ≤ q) b := Nat.not_le.mpr hbl
  refine lv_aload_n hx hb dL_law_342 rfl (lv_at hl 2 rfl) ?_
  refine lv_aload_n hx hb dL_law_343 rfl (lv_at hl 3 rfl) ?_
  refine lv_iload_n hx hb dL_law_344 rfl (lv_at hl 0 rfl) ?_
  refine lv_iconst hx hb dL_law_345 ki_1 ?_
  refine lv_iadd hx hb dL_law_346 ?_
  refine va_sld hx hb hX hbl hbA h.2 (lw_in (j := 1) (by decide) hi hL) dL_law_347 ?_
  refine lv_aload_n hx hb dL_law_348 rfl (lv_at hl 3 rfl) ?_
  refine lv_iload_n hx hb dL_law_349 rfl (lv_at hl 0 rfl) ?_
  refine lv_iconst hx hb dL_law_350 ki_2 ?_
  refine lv_iadd hx hb dL_law_351 ?_
  refine va_sld hx hb hX hbl hbA h.2 (lw_in (j := 2) (by decide) hi hL) dL_law_352 ?_
  refine lv_aload_n hx hb dL_law_353 rfl (lv_at hl 3 rfl) ?_
  refine lv_iload_n hx hb dL_law_354 rfl (lv_at hl 0 rfl) ?_
  refine lv_iconst hx hb dL_law_355 ki_3 ?_
  refine lv_iadd hx hb dL_law_356 ?_
  refine va_sld hx hb hX hbl hbA h.2 (lw_in (j := 3) (by decide) hi hL) dL_law_357 ?_
  refine lv_aload_n hx hb dL_law_358 rfl (lv_at hl 3 rfl) ?_
  refine lv_iload_n hx hb dL_law_359 rfl (lv_at hl 0 rfl) ?_
  refine lv_iconst hx hb dL_law_360 ki_4 ?_
  refine lv_iadd hx hb dL_law_361 ?_
  refine va_sld hx hb hX hbl hbA h.2 (lw_in (j := 4) (by decide) hi hL) dL_law_362 ?_
  obtain ⟨r, σ1, σ2, h1, h2, hR2⟩ := st_sort N hNN σ hR (xs (nI i + 1).toNatClampNeg) (xs (nI i + 2).toNatClampNeg) (xs (nI i + 3).toNatClampNeg) (xs (nI i + 4).toNatClampNeg)
  refine fb_ci X h (fb_runV (As := [.int (xs (nI i + 1).toNatClampNeg), .int (xs (nI i + 2).toNatClampNeg), .int (xs (nI i + 3).toNatClampNeg), .int (xs (nI i + 4).toNatClampNeg)]) (rest := []) (k := 0) X h (c_X5_sort l X.2.2.1 (by decide) (xs (nI i + 1).toNatClampNeg) (xs (nI i + 2).toNatClampNeg) (xs (nI i + 3).toNatClampNeg) (xs (nI i + 4).toNatClampNeg) σ h1) mf_yX5_sort lm_RL_39 (by decide) rfl rfl ⟨Nat.le_of_ble_eq_true rfl, Nat.le_of_ble_eq_true rfl⟩ ⟨Nat.le_refl _, Nat.le_refl _⟩ rfl hl.1 rfl (Nat.le_of_ble_eq_true rfl) dL_law_363) (fun H locs h => ?_)
  refine lv_aload_n hx hb dL_law_366 rfl (lv_at hl 1 rfl) ?_
  refine lv_aload_n hx hb dL_law_367 rfl (lv_at hl 3 rfl) ?_
  refine lv_iload_n hx hb dL_law_368 rfl (lv_at hl 0 rfl) ?_
  refine lv_iconst hx hb dL_law_369 ki_1 ?_
  refine lv_iadd hx hb dL_law_370 ?_
  refine va_sld hx hb hX hbl hbA h.2 (lw_in (j := 1) (by decide) hi hL) dL_law_371 ?_
  refine lv_aload_n hx hb dL_law_372 rfl (lv_at hl 3 rfl) ?_
  refine lv_iload_n hx hb dL_law_373 rfl (lv_at hl 0 rfl) ?_
  refine lv_iconst hx hb dL_law_374 ki_2 ?_
  refine lv_iadd hx hb dL_law_375 ?_
  refine va_sld hx hb hX hbl hbA h.2 (lw_in (j := 2) (by decide) hi hL) dL_law_376 ?_
  refine lv_aload_n hx hb dL_law_377 rfl (lv_at hl 3 rfl) ?_
  refine lv_iload_n hx hb dL_law_378 rfl (lv_at hl 0 rfl) ?_
  refine lv_iconst hx hb dL_law_379 ki_3 ?_
  refine lv_iadd hx hb dL_law_380 ?_
  refine va_sld hx hb hX hbl hbA h.2 (lw_in (j := 3) (by decide) hi hL) dL_law_381 ?_
  refine lv_aload_n hx hb dL_law_382 rfl (lv_at hl 3 rfl) ?_
  refine lv_iload_n hx hb dL_law_383 rfl (lv_at hl 0 rfl) ?_
  refine lv_iconst hx hb dL_law_384 ki_4 ?_
  refine lv_iadd hx hb dL_law_385 ?_
  refine va_sld hx hb hX hbl hbA h.2 (lw_in (j := 4) (by decide) hi hL) dL_law_386 ?_
  refine fb_ci X h (fb_runV (As := [.int (xs (nI i + 1).toNatClampNeg), .int (xs (nI i + 2).toNatClampNeg), .int (xs (nI i + 3).toNatClampNeg), .int (xs (nI i + 4).toNatClampNeg)]) (rest := [.int r]) (k := 29) X h (c_X6_sort l X.2.2.1 (by decide) (xs (nI i + 1).toNatClampNeg) (xs (nI i + 2).toNatClampNeg) (xs (nI i + 3).toNatClampNeg) (xs (nI i + 4).toNatClampNeg) σ1 h2) mf_yX6_sort lm_RL_43 (by decide) rfl rfl ⟨Nat.le_of_ble_eq_true rfl, Nat.le_of_ble_eq_true rfl⟩ ⟨Nat.le_refl _, Nat.le_refl _⟩ rfl hl.1 rfl (Nat.le_of_ble_eq_true rfl) dL_law_387) (fun H locs h => ?_)
  refine lv_icmp_eq hx hb dL_law_390 (tgt := 1194) (by decide) (fun _ => ?_) (fun h9 => absurd rfl h9)
  exact hnx _ _ _ _ hR2 h hl
set_option maxHeartbeats 8000000 in
set_option maxRecDepth 100000 in
theorem law_c7 (X : fb_X p m c code 4 s #[.ref b] RL g [0, 1, 2, 3, 4, 5, 6, 7, 8, 9, 10, 11, 12, 13, 14, 15, 16, 50, 17, 18, 19, 20, 21, 22, 23, 24, 25, 26, 27, 28, 29, 30, 31, 32, 33, 34, 35, 36, 37, 38, 39, 40, 41, 42, 43, 44, 45, 46, 47, 48, 49] (fun q : Nat => s.heap.size ≤ q)) (hX : va_X b L xs s s.heap) (hbl : b < s.heap.size) (hL : L ≤ 3072) (N : Nat) (hNN : 40000 ≤ N) {i : Nat} (hi : i + 6 ≤ L) (hnx : ∀ (σ : fb_S) (H : Heap) (locs : List Loc) (ls : Array Slot), Rl σ → fb_H g [0, 1, 2, 3, 4, 5, 6, 7, 8, 9, 10, 11, 12, 13, 14, 15, 16, 50, 17, 18, 19, 20, 21, 22, 23, 24, 25, 26, 27, 28, 29, 30, 31, 32, 33, 34, 35, 36, 37, 38, 39, 40, 41, 42, 43, 44, 45, 46, 47, 48, 49] (fun q : Nat => s.heap.size ≤ q) s.heap σ H locs → lv_has ls 4 [(3, .int (nI i)), (2, .ref (g.1 29)), (1, .ref (g.1 0)), (0, .ref b)] → W p l e room_1 s m #[Value.ref b] below meth c H locs 51 23562 (lw_Z below #[Value.ref b] s) (F0 m 1194 ls [])) (σ : fb_S) (hR : Rl σ) (H : Heap) (locs : List Loc) (ls : Array Slot) (h : fb_H g [0, 1, 2, 3, 4, 5, 6, 7, 8, 9, 10, 11, 12, 13, 14, 15, 16, 50, 17, 18, 19, 20, 21, 22, 23, 24, 25, 26, 27, 28, 29, 30, 31, 32, 33, 34, 35, 36, 37, 38, 39, 40, 41, 42, 43, 44, 45, 46, 47, 48, 49] (fun q : Nat => s.heap.size ≤ q) s.heap σ H locs) (hl : lv_has ls 4 [(3, .int (nI i)), (2, .ref (g.1 29)), (1, .ref (g.1 0)), (0, .ref b)]) : W p l e room_1 s m #[Value.ref b] below meth c H locs 51 23562 (lw_Z below #[Value.ref b] s) (F0 m 395 ls []) := by
  have hx := X.1.1
  have hb := X.1.2.1
  have hbA : ¬ (fun q : Nat => s.heap.size ≤ q) b := Nat.not_le.mpr hbl
  refine lv_aload_n hx hb dL_law_395 rfl (lv_at hl 2 rfl) ?_
  refine lv_aload_n hx hb dL_law_396 rfl (lv_at hl 3 rfl) ?_
  refine lv_iload_n hx hb dL_law_397 rfl (lv_at hl 0 rfl) ?_
  refine lv_iconst hx hb dL_law_398 ki_1 ?_
  refine lv_iadd hx hb dL_law_399 ?_
  refine va_sld hx hb hX hbl hbA h.2 (lw_in (j := 1) (by decide) hi hL) dL_law_400 ?_
  refine lv_aload_n hx hb dL_law_401 rfl (lv_at hl 3 rfl) ?_
  refine lv_iload_n hx hb dL_law_402 rfl (lv_at hl 0 rfl) ?_
  refine lv_iconst hx hb dL_law_403 ki_2 ?_
  refine lv_iadd hx hb dL_law_404 ?_
  refine va_sld hx hb hX hbl hbA h.2 (lw_in (j := 2) (by decide) hi hL) dL_law_405 ?_
  obtain ⟨r, σ1, σ2, h1, h2, hR2⟩ := st_crowd N hNN σ hR (xs (nI i + 1).toNatClampNeg) (xs (nI i + 2).toNatClampNeg)
  refine fb_ci X h (fb_runV (As := [.int (xs (nI i + 1).toNatClampNeg), .int (xs (nI i + 2).toNatClampNeg)]) (rest := []) (k := 0) X h (c_X5_crowd l X.2.2.1 (by decide) (xs (nI i + 1).toNatClampNeg) (xs (nI i + 2).toNatClampNeg) σ h1) mf_yX5_crowd lm_RL_44 (by decide) rfl rfl ⟨Nat.le_of_ble_eq_true rfl, Nat.le_of_ble_eq_true rfl⟩ ⟨Nat.le_refl _, Nat.le_refl _⟩ rfl hl.1 rfl (Nat.le_of_ble_eq_true rfl) dL_law_406) (fun H locs h => ?_)
  refine lv_aload_n hx hb dL_law_409 rfl (lv_at hl 1 rfl) ?_
  refine lv_aload_n hx hb dL_law_410 rfl (lv_at hl 3 rfl) ?_
  refine lv_iload_n hx hb dL_law_411 rfl (lv_at hl 0 rfl) ?_
  refine lv_iconst hx hb dL_law_412 ki_1 ?_
  refine lv_iadd hx hb dL_law_413 ?_
  refine va_sld hx hb hX hbl hbA h.2 (lw_in (j := 1) (by decide) hi hL) dL_law_414 ?_
  refine lv_aload_n hx hb dL_law_415 rfl (lv_at hl 3 rfl) ?_
  refine lv_iload_n hx hb dL_law_416 rfl (lv_at hl 0 rfl) ?_
  refine lv_iconst hx hb dL_law_417 ki_2 ?_
  refine lv_iadd hx hb dL_law_418 ?_
  refine va_sld hx hb hX hbl hbA h.2 (lw_in (j := 2) (by decide) hi hL) dL_law_419 ?_
  refine fb_ci X h (fb_runV (As := [.int (xs (nI i + 1).toNatClampNeg), .int (xs (nI i + 2).toNatClampNeg)]) (rest := [.int r]) (k := 29) X h (c_X6_crowd l X.2.2.1 (by decide) (xs (nI i + 1).toNatClampNeg) (xs (nI i + 2).toNatClampNeg) σ1 h2) mf_yX6_crowd lm_RL_47 (by decide) rfl rfl ⟨Nat.le_of_ble_eq_true rfl, Nat.le_of_ble_eq_true rfl⟩ ⟨Nat.le_refl _, Nat.le_refl _⟩ rfl hl.1 rfl (Nat.le_of_ble_eq_true rfl) dL_law_420) (fun H locs h => ?_)
  refine lv_icmp_eq hx hb dL_law_423 (tgt := 1194) (by decide) (fun _ => ?_) (fun h9 => absurd rfl h9)
  exact hnx _ _ _ _ hR2 h hl
set_option maxHeartbeats 8000000 in
set_option maxRecDepth 100000 in
theorem law_c8 (X : fb_X p m c code 4 s #[.ref b] RL g [0, 1, 2, 3, 4, 5, 6, 7, 8, 9, 10, 11, 12, 13, 14, 15, 16, 50, 17, 18, 19, 20, 21, 22, 23, 24, 25, 26, 27, 28, 29, 30, 31, 32, 33, 34, 35, 36, 37, 38, 39, 40, 41, 42, 43, 44, 45, 46, 47, 48, 49] (fun q : Nat => s.heap.size ≤ q)) (hX : va_X b L xs s s.heap) (hbl : b < s.heap.size) (hL : L ≤ 3072) {tz : Nat → Nat} (hz : fb_Zp (fun q : Nat => s.heap.size ≤ q) tz s) (N : Nat) (hNN : 40000 ≤ N) {i : Nat} (hi : i + 6 ≤ L) (hnx : ∀ (σ : fb_S) (H : Heap) (locs : List Loc) (ls : Array Slot), Rl σ → fb_H g [0, 1, 2, 3, 4, 5, 6, 7, 8, 9, 10, 11, 12, 13, 14, 15, 16, 50, 17, 18, 19, 20, 21, 22, 23, 24, 25, 26, 27, 28, 29, 30, 31, 32, 33, 34, 35, 36, 37, 38, 39, 40, 41, 42, 43, 44, 45, 46, 47, 48, 49] (fun q : Nat => s.heap.size ≤ q) s.heap σ H locs → lv_has ls 4 [(3, .int (nI i)), (2, .ref (g.1 29)), (1, .ref (g.1 0)), (0, .ref b)] → W p l e room_1 s m #[Value.ref b] below meth c H locs 51 23562 (lw_Z below #[Value.ref b] s) (F0 m 1194 ls [])) (σ : fb_S) (hR : Rl σ) (H : Heap) (locs : List Loc) (ls : Array Slot) (h : fb_H g [0, 1, 2, 3, 4, 5, 6, 7, 8, 9, 10, 11, 12, 13, 14, 15, 16, 50, 17, 18, 19, 20, 21, 22, 23, 24, 25, 26, 27, 28, 29, 30, 31, 32, 33, 34, 35, 36, 37, 38, 39, 40, 41, 42, 43, 44, 45, 46, 47, 48, 49] (fun q : Nat => s.heap.size ≤ q) s.heap σ H locs) (hl : lv_has ls 4 [(3, .int (nI i)), (2, .ref (g.1 29)), (1, .ref (g.1 0)), (0, .ref b)]) : W p l e room_1 s m #[Value.ref b] below meth c H locs 51 23562 (lw_Z below #[Value.ref b] s) (F0 m 428 ls []) := by
  have hx := X.1.1
  have hb := X.1.2.1
  have hbA : ¬ (fun q : Nat => s.heap.size ≤ q) b := Nat.not_le.mpr hbl
  refine lv_aload_n hx hb dL_law_428 rfl (lv_at hl 2 rfl) ?_
  refine lv_aload_n hx hb dL_law_429 rfl (lv_at hl 3 rfl) ?_
  refine lv_iload_n hx hb dL_law_430 rfl (lv_at hl 0 rfl) ?_
  refine lv_iconst hx hb dL_law_431 ki_1 ?_
  refine lv_iadd hx hb dL_law_432 ?_
  refine va_sld hx hb hX hbl hbA h.2 (lw_in (j := 1) (by decide) hi hL) dL_law_433 ?_
  refine lv_aload_n hx hb dL_law_434 rfl (lv_at hl 3 rfl) ?_
  refine lv_iload_n hx hb dL_law_435 rfl (lv_at hl 0 rfl) ?_
  refine lv_iconst hx hb dL_law_436 ki_2 ?_
  refine lv_iadd hx hb dL_law_437 ?_
  refine va_sld hx hb hX hbl hbA h.2 (lw_in (j := 2) (by decide) hi hL) dL_law_438 ?_
  obtain ⟨r, σ1, σ2, h1, h2, hR2⟩ := st_rule N hNN σ hR (xs (nI i + 1).toNatClampNeg) (xs (nI i + 2).toNatClampNeg)
  refine fb_ci X h (fb_runVZ (As := [.int (xs (nI i + 1).toNatClampNeg), .int (xs (nI i + 2).toNatClampNeg)]) (rest := []) (k := 0) X h (c_X5_rule l X.2.2.1 (by decide) (xs (nI i + 1).toNatClampNeg) (xs (nI i + 2).toNatClampNeg) σ h1) hz mf_yX5_rule lm_RL_48 (by decide) rfl rfl ⟨Nat.le_of_ble_eq_true rfl, Nat.le_of_ble_eq_true rfl⟩ ⟨Nat.le_refl _, Nat.le_refl _⟩ rfl hl.1 rfl (Nat.le_of_ble_eq_true rfl) dL_law_439) (fun H locs h => ?_)
  refine lv_aload_n hx hb dL_law_442 rfl (lv_at hl 1 rfl) ?_
  refine lv_aload_n hx hb dL_law_443 rfl (lv_at hl 3 rfl) ?_
  refine lv_iload_n hx hb dL_law_444 rfl (lv_at hl 0 rfl) ?_
  refine lv_iconst hx hb dL_law_445 ki_1 ?_
  refine lv_iadd hx hb dL_law_446 ?_
  refine va_sld hx hb hX hbl hbA h.2 (lw_in (j := 1) (by decide) hi hL) dL_law_447 ?_
  refine lv_aload_n hx hb dL_law_448 rfl (lv_at hl 3 rfl) ?_
  refine lv_iload_n hx hb dL_law_449 rfl (lv_at hl 0 rfl) ?_
  refine lv_iconst hx hb dL_law_450 ki_2 ?_
  refine lv_iadd hx hb dL_law_451 ?_
  refine va_sld hx hb hX hbl hbA h.2 (lw_in (j := 2) (by decide) hi hL) dL_law_452 ?_
  refine fb_ci X h (fb_runV (As := [.int (xs (nI i + 1).toNatClampNeg), .int (xs (nI i + 2).toNatClampNeg)]) (rest := [.int r]) (k := 29) X h (c_X6_rule l X.2.2.1 (by decide) (xs (nI i + 1).toNatClampNeg) (xs (nI i + 2).toNatClampNeg) σ1 h2) mf_yX6_rule lm_RL_51 (by decide) rfl rfl ⟨Nat.le_of_ble_eq_true rfl, Nat.le_of_ble_eq_true rfl⟩ ⟨Nat.le_refl _, Nat.le_refl _⟩ rfl hl.1 rfl (Nat.le_of_ble_eq_true rfl) dL_law_453) (fun H locs h => ?_)
  refine lv_icmp_eq hx hb dL_law_456 (tgt := 1194) (by decide) (fun _ => ?_) (fun h9 => absurd rfl h9)
  exact hnx _ _ _ _ hR2 h hl
set_option maxHeartbeats 8000000 in
set_option maxRecDepth 100000 in
theorem law_c9 (X : fb_X p m c code 4 s #[.ref b] RL g [0, 1, 2, 3, 4, 5, 6, 7, 8, 9, 10, 11, 12, 13, 14, 15, 16, 50, 17, 18, 19, 20, 21, 22, 23, 24, 25, 26, 27, 28, 29, 30, 31, 32, 33, 34, 35, 36, 37, 38, 39, 40, 41, 42, 43, 44, 45, 46, 47, 48, 49] (fun q : Nat => s.heap.size ≤ q)) (hX : va_X b L xs s s.heap) (hbl : b < s.heap.size) (hL : L ≤ 3072) (N : Nat) (hNN : 40000 ≤ N) {i : Nat} (hi : i + 6 ≤ L) (hnx : ∀ (σ : fb_S) (H : Heap) (locs : List Loc) (ls : Array Slot), Rl σ → fb_H g [0, 1, 2, 3, 4, 5, 6, 7, 8, 9, 10, 11, 12, 13, 14, 15, 16, 50, 17, 18, 19, 20, 21, 22, 23, 24, 25, 26, 27, 28, 29, 30, 31, 32, 33, 34, 35, 36, 37, 38, 39, 40, 41, 42, 43, 44, 45, 46, 47, 48, 49] (fun q : Nat => s.heap.size ≤ q) s.heap σ H locs → lv_has ls 4 [(3, .int (nI i)), (2, .ref (g.1 29)), (1, .ref (g.1 0)), (0, .ref b)] → W p l e room_1 s m #[Value.ref b] below meth c H locs 51 23562 (lw_Z below #[Value.ref b] s) (F0 m 1194 ls [])) (σ : fb_S) (hR : Rl σ) (H : Heap) (locs : List Loc) (ls : Array Slot) (h : fb_H g [0, 1, 2, 3, 4, 5, 6, 7, 8, 9, 10, 11, 12, 13, 14, 15, 16, 50, 17, 18, 19, 20, 21, 22, 23, 24, 25, 26, 27, 28, 29, 30, 31, 32, 33, 34, 35, 36, 37, 38, 39, 40, 41, 42, 43, 44, 45, 46, 47, 48, 49] (fun q : Nat => s.heap.size ≤ q) s.heap σ H locs) (hl : lv_has ls 4 [(3, .int (nI i)), (2, .ref (g.1 29)), (1, .ref (g.1 0)), (0, .ref b)]) : W p l e room_1 s m #[Value.ref b] below meth c H locs 51 23562 (lw_Z below #[Value.ref b] s) (F0 m 461 ls []) := by
  have hx := X.1.1
  have hb := X.1.2.1
  have hbA : ¬ (fun q : Nat => s.heap.size ≤ q) b := Nat.not_le.mpr hbl
  refine lv_aload_n hx hb dL_law_461 rfl (lv_at hl 2 rfl) ?_
  refine lv_aload_n hx hb dL_law_462 rfl (lv_at hl 3 rfl) ?_
  refine lv_iload_n hx hb dL_law_463 rfl (lv_at hl 0 rfl) ?_
  refine lv_iconst hx hb dL_law_464 ki_1 ?_
  refine lv_iadd hx hb dL_law_465 ?_
  refine va_sld hx hb hX hbl hbA h.2 (lw_in (j := 1) (by decide) hi hL) dL_law_466 ?_
  obtain ⟨r, σ2, h1, h2, hR2⟩ := st_net N hNN σ hR (xs (nI i + 1).toNatClampNeg)
  refine fb_ci X h (fb_runV (As := [.int (xs (nI i + 1).toNatClampNeg)]) (rest := []) (k := 0) X h (c_X5_net l X.2.2.1 (by decide) N (xs (nI i + 1).toNatClampNeg) σ h1) mf_yX5_net lm_RL_52 (by decide) rfl rfl ⟨Nat.le_of_ble_eq_true rfl, Nat.le_of_ble_eq_true rfl⟩ ⟨Nat.le_refl _, Nat.le_refl _⟩ rfl hl.1 rfl (Nat.le_of_ble_eq_true rfl) dL_law_467) (fun H locs h => ?_)
  refine lv_aload_n hx hb dL_law_470 rfl (lv_at hl 1 rfl) ?_
  refine lv_aload_n hx hb dL_law_471 rfl (lv_at hl 3 rfl) ?_
  refine lv_iload_n hx hb dL_law_472 rfl (lv_at hl 0 rfl) ?_
  refine lv_iconst hx hb dL_law_473 ki_1 ?_
  refine lv_iadd hx hb dL_law_474 ?_
  refine va_sld hx hb hX hbl hbA h.2 (lw_in (j := 1) (by decide) hi hL) dL_law_475 ?_
  refine fb_ci X h (fb_runV (As := [.int (xs (nI i + 1).toNatClampNeg)]) (rest := [.int r]) (k := 29) X h (c_X6_net l X.2.2.1 (by decide) N (xs (nI i + 1).toNatClampNeg) σ h2) mf_yX6_net lm_RL_55 (by decide) rfl rfl ⟨Nat.le_of_ble_eq_true rfl, Nat.le_of_ble_eq_true rfl⟩ ⟨Nat.le_refl _, Nat.le_refl _⟩ rfl hl.1 rfl (Nat.le_of_ble_eq_true rfl) dL_law_476) (fun H locs h => ?_)
  refine lv_icmp_eq hx hb dL_law_479 (tgt := 1194) (by decide) (fun _ => ?_) (fun h9 => absurd rfl h9)
  exact hnx _ _ _ _ hR2 h hl
set_option maxHeartbeats 8000000 in
set_option maxRecDepth 100000 in
theorem law_c10 (X : fb_X p m c code 4 s #[.ref b] RL g [0, 1, 2, 3, 4, 5, 6, 7, 8, 9, 10, 11, 12, 13, 14, 15, 16, 50, 17, 18, 19, 20, 21, 22, 23, 24, 25, 26, 27, 28, 29, 30, 31, 32, 33, 34, 35, 36, 37, 38, 39, 40, 41, 42, 43, 44, 45, 46, 47, 48, 49] (fun q : Nat => s.heap.size ≤ q)) (hX : va_X b L xs s s.heap) (hbl : b < s.heap.size) (hL : L ≤ 3072) (N : Nat) (hNN : 40000 ≤ N) {i : Nat} (hi : i + 6 ≤ L) (hnx : ∀ (σ : fb_S) (H : Heap) (locs : List Loc) (ls : Array Slot), Rl σ → fb_H g [0, 1, 2, 3, 4, 5, 6, 7, 8, 9, 10, 11, 12, 13, 14, 15, 16, 50, 17, 18, 19, 20, 21, 22, 23, 24, 25, 26, 27, 28, 29, 30, 31, 32, 33, 34, 35, 36, 37, 38, 39, 40, 41, 42, 43, 44, 45, 46, 47, 48, 49] (fun q : Nat => s.heap.size ≤ q) s.heap σ H locs → lv_has ls 4 [(3, .int (nI i)), (2, .ref (g.1 29)), (1, .ref (g.1 0)), (0, .ref b)] → W p l e room_1 s m #[Value.ref b] below meth c H locs 51 23562 (lw_Z below #[Value.ref b] s) (F0 m 1194 ls [])) (σ : fb_S) (hR : Rl σ) (H : Heap) (locs : List Loc) (ls : Array Slot) (h : fb_H g [0, 1, 2, 3, 4, 5, 6, 7, 8, 9, 10, 11, 12, 13, 14, 15, 16, 50, 17, 18, 19, 20, 21, 22, 23, 24, 25, 26, 27, 28, 29, 30, 31, 32, 33, 34, 35, 36, 37, 38, 39, 40, 41, 42, 43, 44, 45, 46, 47, 48, 49] (fun q : Nat => s.heap.size ≤ q) s.heap σ H locs) (hl : lv_has ls 4 [(3, .int (nI i)), (2, .ref (g.1 29)), (1, .ref (g.1 0)), (0, .ref b)]) : W p l e room_1 s m #[Value.ref b] below meth c H locs 51 23562 (lw_Z below #[Value.ref b] s) (F0 m 484 ls []) := by
  have hx := X.1.1
  have hb := X.1.2.1
  have hbA : ¬ (fun q : Nat => s.heap.size ≤ q) b := Nat.not_le.mpr hbl
  refine lv_aload_n hx hb dL_law_484 rfl (lv_at hl 2 rfl) ?_
  refine lv_aload_n hx hb dL_law_485 rfl (lv_at hl 3 rfl) ?_
  refine lv_iload_n hx hb dL_law_486 rfl (lv_at hl 0 rfl) ?_
  refine lv_iconst hx hb dL_law_487 ki_1 ?_
  refine lv_iadd hx hb dL_law_488 ?_
  refine va_sld hx hb hX hbl hbA h.2 (lw_in (j := 1) (by decide) hi hL) dL_law_489 ?_
  refine lv_aload_n hx hb dL_law_490 rfl (lv_at hl 3 rfl) ?_
  refine lv_iload_n hx hb dL_law_491 rfl (lv_at hl 0 rfl) ?_
  refine lv_iconst hx hb dL_law_492 ki_2 ?_
  refine lv_iadd hx hb dL_law_493 ?_
  refine va_sld hx hb hX hbl hbA h.2 (lw_in (j := 2) (by decide) hi hL) dL_law_494 ?_
  obtain ⟨r, σ2, h1, h2, hR2⟩ := st_beats N hNN σ hR (xs (nI i + 1).toNatClampNeg) (xs (nI i + 2).toNatClampNeg)
  refine fb_ci X h (fb_runV (As := [.int (xs (nI i + 1).toNatClampNeg), .int (xs (nI i + 2).toNatClampNeg)]) (rest := []) (k := 0) X h (c_X5_beats l X.2.2.1 (by decide) N (xs (nI i + 1).toNatClampNeg) (xs (nI i + 2).toNatClampNeg) σ h1) mf_yX5_beats lm_RL_56 (by decide) rfl rfl ⟨Nat.le_of_ble_eq_true rfl, Nat.le_of_ble_eq_true rfl⟩ ⟨Nat.le_refl _, Nat.le_refl _⟩ rfl hl.1 rfl (Nat.le_of_ble_eq_true rfl) dL_law_495) (fun H locs h => ?_)
  refine lv_aload_n hx hb dL_law_498 rfl (lv_at hl 1 rfl) ?_
  refine lv_aload_n hx hb dL_law_499 rfl (lv_at hl 3 rfl) ?_
  refine lv_iload_n hx hb dL_law_500 rfl (lv_at hl 0 rfl) ?_
  refine lv_iconst hx hb dL_law_501 ki_1 ?_
  refine lv_iadd hx hb dL_law_502 ?_
  refine va_sld hx hb hX hbl hbA h.2 (lw_in (j := 1) (by decide) hi hL) dL_law_503 ?_
  refine lv_aload_n hx hb dL_law_504 rfl (lv_at hl 3 rfl) ?_
  refine lv_iload_n hx hb dL_law_505 rfl (lv_at hl 0 rfl) ?_
  refine lv_iconst hx hb dL_law_506 ki_2 ?_
  refine lv_iadd hx hb dL_law_507 ?_
  refine va_sld hx hb hX hbl hbA h.2 (lw_in (j := 2) (by decide) hi hL) dL_law_508 ?_
  refine fb_ci X h (fb_runV (As := [.int (xs (nI i + 1).toNatClampNeg), .int (xs (nI i + 2).toNatClampNeg)]) (rest := [.int r]) (k := 29) X h (c_X6_beats l X.2.2.1 (by decide) N (xs (nI i + 1).toNatClampNeg) (xs (nI i + 2).toNatClampNeg) σ h2) mf_yX6_beats lm_RL_59 (by decide) rfl rfl ⟨Nat.le_of_ble_eq_true rfl, Nat.le_of_ble_eq_true rfl⟩ ⟨Nat.le_refl _, Nat.le_refl _⟩ rfl hl.1 rfl (Nat.le_of_ble_eq_true rfl) dL_law_509) (fun H locs h => ?_)
  refine lv_icmp_eq hx hb dL_law_512 (tgt := 1194) (by decide) (fun _ => ?_) (fun h9 => absurd rfl h9)
  exact hnx _ _ _ _ hR2 h hl
set_option maxHeartbeats 8000000 in
set_option maxRecDepth 100000 in
theorem law_c11 (X : fb_X p m c code 4 s #[.ref b] RL g [0, 1, 2, 3, 4, 5, 6, 7, 8, 9, 10, 11, 12, 13, 14, 15, 16, 50, 17, 18, 19, 20, 21, 22, 23, 24, 25, 26, 27, 28, 29, 30, 31, 32, 33, 34, 35, 36, 37, 38, 39, 40, 41, 42, 43, 44, 45, 46, 47, 48, 49] (fun q : Nat => s.heap.size ≤ q)) (hX : va_X b L xs s s.heap) (hbl : b < s.heap.size) (hL : L ≤ 3072) (N : Nat) (hNN : 40000 ≤ N) {i : Nat} (hi : i + 6 ≤ L) (hnx : ∀ (σ : fb_S) (H : Heap) (locs : List Loc) (ls : Array Slot), Rl σ → fb_H g [0, 1, 2, 3, 4, 5, 6, 7, 8, 9, 10, 11, 12, 13, 14, 15, 16, 50, 17, 18, 19, 20, 21, 22, 23, 24, 25, 26, 27, 28, 29, 30, 31, 32, 33, 34, 35, 36, 37, 38, 39, 40, 41, 42, 43, 44, 45, 46, 47, 48, 49] (fun q : Nat => s.heap.size ≤ q) s.heap σ H locs → lv_has ls 4 [(3, .int (nI i)), (2, .ref (g.1 29)), (1, .ref (g.1 0)), (0, .ref b)] → W p l e room_1 s m #[Value.ref b] below meth c H locs 51 23562 (lw_Z below #[Value.ref b] s) (F0 m 1194 ls [])) (σ : fb_S) (hR : Rl σ) (H : Heap) (locs : List Loc) (ls : Array Slot) (h : fb_H g [0, 1, 2, 3, 4, 5, 6, 7, 8, 9, 10, 11, 12, 13, 14, 15, 16, 50, 17, 18, 19, 20, 21, 22, 23, 24, 25, 26, 27, 28, 29, 30, 31, 32, 33, 34, 35, 36, 37, 38, 39, 40, 41, 42, 43, 44, 45, 46, 47, 48, 49] (fun q : Nat => s.heap.size ≤ q) s.heap σ H locs) (hl : lv_has ls 4 [(3, .int (nI i)), (2, .ref (g.1 29)), (1, .ref (g.1 0)), (0, .ref b)]) : W p l e room_1 s m #[Value.ref b] below meth c H locs 51 23562 (lw_Z below #[Value.ref b] s) (F0 m 517 ls []) := by
  have hx := X.1.1
  have hb := X.1.2.1
  have hbA : ¬ (fun q : Nat => s.heap.size ≤ q) b := Nat.not_le.mpr hbl
  refine lv_aload_n hx hb dL_law_517 rfl (lv_at hl 2 rfl) ?_
  refine lv_aload_n hx hb dL_law_518 rfl (lv_at hl 3 rfl) ?_
  refine lv_iload_n hx hb dL_law_519 rfl (lv_at hl 0 rfl) ?_
  refine lv_iconst hx hb dL_law_520 ki_1 ?_
  refine lv_iadd hx hb dL_law_521 ?_
  refine va_sld hx hb hX hbl hbA h.2 (lw_in (j := 1) (by decide) hi hL) dL_law_522 ?_
  obtain ⟨r, σ1, σ2, h1, h2, hR2⟩ := st_settles N hNN σ hR (xs (nI i + 1).toNatClampNeg)
  refine fb_ci X h (fb_runV (As := [.int (xs (nI i + 1).toNatClampNeg)]) (rest := []) (k := 0) X h (c_X5_settles l X.2.2.1 (by decide) N (xs (nI i + 1).toNatClampNeg) σ h1) mf_yX5_settles lm_RL_60 (by decide) rfl rfl ⟨Nat.le_of_ble_eq_true rfl, Nat.le_of_ble_eq_true rfl⟩ ⟨Nat.le_refl _, Nat.le_refl _⟩ rfl hl.1 rfl (Nat.le_of_ble_eq_true rfl) dL_law_523) (fun H locs h => ?_)
  refine lv_aload_n hx hb dL_law_526 rfl (lv_at hl 1 rfl) ?_
  refine lv_aload_n hx hb dL_law_527 rfl (lv_at hl 3 rfl) ?_
  refine lv_iload_n hx hb dL_law_528 rfl (lv_at hl 0 rfl) ?_
  refine lv_iconst hx hb dL_law_529 ki_1 ?_
  refine lv_iadd hx hb dL_law_530 ?_
  refine va_sld hx hb hX hbl hbA h.2 (lw_in (j := 1) (by decide) hi hL) dL_law_531 ?_
  refine fb_ci X h (fb_runV (As := [.int (xs (nI i + 1).toNatClampNeg)]) (rest := [.int r]) (k := 29) X h (c_X6_settles l X.2.2.1 (by decide) N (xs (nI i + 1).toNatClampNeg) σ1 h2) mf_yX6_settles lm_RL_63 (by decide) rfl rfl ⟨Nat.le_of_ble_eq_true rfl, Nat.le_of_ble_eq_true rfl⟩ ⟨Nat.le_refl _, Nat.le_refl _⟩ rfl hl.1 rfl (Nat.le_of_ble_eq_true rfl) dL_law_532) (fun H locs h => ?_)
  refine lv_icmp_eq hx hb dL_law_535 (tgt := 1194) (by decide) (fun _ => ?_) (fun h9 => absurd rfl h9)
  exact hnx _ _ _ _ hR2 h hl
set_option maxHeartbeats 8000000 in
set_option maxRecDepth 100000 in
theorem law_c12 (X : fb_X p m c code 4 s #[.ref b] RL g [0, 1, 2, 3, 4, 5, 6, 7, 8, 9, 10, 11, 12, 13, 14, 15, 16, 50, 17, 18, 19, 20, 21, 22, 23, 24, 25, 26, 27, 28, 29, 30, 31, 32, 33, 34, 35, 36, 37, 38, 39, 40, 41, 42, 43, 44, 45, 46, 47, 48, 49] (fun q : Nat => s.heap.size ≤ q)) (hX : va_X b L xs s s.heap) (hbl : b < s.heap.size) (hL : L ≤ 3072) (N : Nat) (hNN : 40000 ≤ N) {i : Nat} (hi : i + 6 ≤ L) (hnx : ∀ (σ : fb_S) (H : Heap) (locs : List Loc) (ls : Array Slot), Rl σ → fb_H g [0, 1, 2, 3, 4, 5, 6, 7, 8, 9, 10, 11, 12, 13, 14, 15, 16, 50, 17, 18, 19, 20, 21, 22, 23, 24, 25, 26, 27, 28, 29, 30, 31, 32, 33, 34, 35, 36, 37, 38, 39, 40, 41, 42, 43, 44, 45, 46, 47, 48, 49] (fun q : Nat => s.heap.size ≤ q) s.heap σ H locs → lv_has ls 4 [(3, .int (nI i)), (2, .ref (g.1 29)), (1, .ref (g.1 0)), (0, .ref b)] → W p l e room_1 s m #[Value.ref b] below meth c H locs 51 23562 (lw_Z below #[Value.ref b] s) (F0 m 1194 ls [])) (σ : fb_S) (hR : Rl σ) (H : Heap) (locs : List Loc) (ls : Array Slot) (h : fb_H g [0, 1, 2, 3, 4, 5, 6, 7, 8, 9, 10, 11, 12, 13, 14, 15, 16, 50, 17, 18, 19, 20, 21, 22, 23, 24, 25, 26, 27, 28, 29, 30, 31, 32, 33, 34, 35, 36, 37, 38, 39, 40, 41, 42, 43, 44, 45, 46, 47, 48, 49] (fun q : Nat => s.heap.size ≤ q) s.heap σ H locs) (hl : lv_has ls 4 [(3, .int (nI i)), (2, .ref (g.1 29)), (1, .ref (g.1 0)), (0, .ref b)]) : W p l e room_1 s m #[Value.ref b] below meth c H locs 51 23562 (lw_Z below #[Value.ref b] s) (F0 m 540 ls []) := by
  have hx := X.1.1
  have hb := X.1.2.1
  have hbA : ¬ (fun q : Nat => s.heap.size ≤ q) b := Nat.not_le.mpr hbl
  refine lv_aload_n hx hb dL_law_540 rfl (lv_at hl 2 rfl) ?_
  refine lv_aload_n hx hb dL_law_541 rfl (lv_at hl 3 rfl) ?_
  refine lv_iload_n hx hb dL_law_542 rfl (lv_at hl 0 rfl) ?_
  refine lv_iconst hx hb dL_law_543 ki_1 ?_
  refine lv_iadd hx hb dL_law_544 ?_
  refine va_sld hx hb hX hbl hbA h.2 (lw_in (j := 1) (by decide) hi hL) dL_law_545 ?_
  refine lv_aload_n hx hb dL_law_546 rfl (lv_at hl 3 rfl) ?_
  refine lv_iload_n hx hb dL_law_547 rfl (lv_at hl 0 rfl) ?_
  refine lv_iconst hx hb dL_law_548 ki_2 ?_
  refine lv_iadd hx hb dL_law_549 ?_
  refine va_sld hx hb hX hbl hbA h.2 (lw_in (j := 2) (by decide) hi hL) dL_law_550 ?_
  obtain ⟨r, σ1, σ2, h1, h2, hR2⟩ := st_ring N hNN σ hR (xs (nI i + 1).toNatClampNeg) (xs (nI i + 2).toNatClampNeg)
  refine fb_ci X h (fb_runV (As := [.int (xs (nI i + 1).toNatClampNeg), .int (xs (nI i + 2).toNatClampNeg)]) (rest := []) (k := 0) X h (c_X5_ring l X.2.2.1 (by decide) N (xs (nI i + 1).toNatClampNeg) (xs (nI i + 2).toNatClampNeg) σ h1) mf_yX5_ring lm_RL_64 (by decide) rfl rfl ⟨Nat.le_of_ble_eq_true rfl, Nat.le_of_ble_eq_true rfl⟩ ⟨Nat.le_refl _, Nat.le_refl _⟩ rfl hl.1 rfl (Nat.le_of_ble_eq_true rfl) dL_law_551) (fun H locs h => ?_)
  refine lv_aload_n hx hb dL_law_554 rfl (lv_at hl 1 rfl) ?_
  refine lv_aload_n hx hb dL_law_555 rfl (lv_at hl 3 rfl) ?_
  refine lv_iload_n hx hb dL_law_556 rfl (lv_at hl 0 rfl) ?_
  refine lv_iconst hx hb dL_law_557 ki_1 ?_
  refine lv_iadd hx hb dL_law_558 ?_
  refine va_sld hx hb hX hbl hbA h.2 (lw_in (j := 1) (by decide) hi hL) dL_law_559 ?_
  refine lv_aload_n hx hb dL_law_560 rfl (lv_at hl 3 rfl) ?_
  refine lv_iload_n hx hb dL_law_561 rfl (lv_at hl 0 rfl) ?_
  refine lv_iconst hx hb dL_law_562 ki_2 ?_
  refine lv_iadd hx hb dL_law_563 ?_
  refine va_sld hx hb hX hbl hbA h.2 (lw_in (j := 2) (by decide) hi hL) dL_law_564 ?_
  refine fb_ci X h (fb_runV (As := [.int (xs (nI i + 1).toNatClampNeg), .int (xs (nI i + 2).toNatClampNeg)]) (rest := [.int r]) (k := 29) X h (c_X6_ring l X.2.2.1 (by decide) N (xs (nI i + 1).toNatClampNeg) (xs (nI i + 2).toNatClampNeg) σ1 h2) mf_yX6_ring lm_RL_67 (by decide) rfl rfl ⟨Nat.le_of_ble_eq_true rfl, Nat.le_of_ble_eq_true rfl⟩ ⟨Nat.le_refl _, Nat.le_refl _⟩ rfl hl.1 rfl (Nat.le_of_ble_eq_true rfl) dL_law_565) (fun H locs h => ?_)
  refine lv_icmp_eq hx hb dL_law_568 (tgt := 1194) (by decide) (fun _ => ?_) (fun h9 => absurd rfl h9)
  exact hnx _ _ _ _ hR2 h hl
set_option maxHeartbeats 8000000 in
set_option maxRecDepth 100000 in
theorem law_c13 (X : fb_X p m c code 4 s #[.ref b] RL g [0, 1, 2, 3, 4, 5, 6, 7, 8, 9, 10, 11, 12, 13, 14, 15, 16, 50, 17, 18, 19, 20, 21, 22, 23, 24, 25, 26, 27, 28, 29, 30, 31, 32, 33, 34, 35, 36, 37, 38, 39, 40, 41, 42, 43, 44, 45, 46, 47, 48, 49] (fun q : Nat => s.heap.size ≤ q)) (hX : va_X b L xs s s.heap) (hbl : b < s.heap.size) (hL : L ≤ 3072) (N : Nat) (hNN : 40000 ≤ N) {i : Nat} (hi : i + 6 ≤ L) (hnx : ∀ (σ : fb_S) (H : Heap) (locs : List Loc) (ls : Array Slot), Rl σ → fb_H g [0, 1, 2, 3, 4, 5, 6, 7, 8, 9, 10, 11, 12, 13, 14, 15, 16, 50, 17, 18, 19, 20, 21, 22, 23, 24, 25, 26, 27, 28, 29, 30, 31, 32, 33, 34, 35, 36, 37, 38, 39, 40, 41, 42, 43, 44, 45, 46, 47, 48, 49] (fun q : Nat => s.heap.size ≤ q) s.heap σ H locs → lv_has ls 4 [(3, .int (nI i)), (2, .ref (g.1 29)), (1, .ref (g.1 0)), (0, .ref b)] → W p l e room_1 s m #[Value.ref b] below meth c H locs 51 23562 (lw_Z below #[Value.ref b] s) (F0 m 1194 ls [])) (σ : fb_S) (hR : Rl σ) (H : Heap) (locs : List Loc) (ls : Array Slot) (h : fb_H g [0, 1, 2, 3, 4, 5, 6, 7, 8, 9, 10, 11, 12, 13, 14, 15, 16, 50, 17, 18, 19, 20, 21, 22, 23, 24, 25, 26, 27, 28, 29, 30, 31, 32, 33, 34, 35, 36, 37, 38, 39, 40, 41, 42, 43, 44, 45, 46, 47, 48, 49] (fun q : Nat => s.heap.size ≤ q) s.heap σ H locs) (hl : lv_has ls 4 [(3, .int (nI i)), (2, .ref (g.1 29)), (1, .ref (g.1 0)), (0, .ref b)]) : W p l e room_1 s m #[Value.ref b] below meth c H locs 51 23562 (lw_Z below #[Value.ref b] s) (F0 m 573 ls []) := by
  have hx := X.1.1
  have hb := X.1.2.1
  have hbA : ¬ (fun q : Nat => s.heap.size ≤ q) b := Nat.not_le.mpr hbl
  refine lv_aload_n hx hb dL_law_573 rfl (lv_at hl 2 rfl) ?_
  refine lv_aload_n hx hb dL_law_574 rfl (lv_at hl 3 rfl) ?_
  refine lv_iload_n hx hb dL_law_575 rfl (lv_at hl 0 rfl) ?_
  refine lv_iconst hx hb dL_law_576 ki_1 ?_
  refine lv_iadd hx hb dL_law_577 ?_
  refine va_sld hx hb hX hbl hbA h.2 (lw_in (j := 1) (by decide) hi hL) dL_law_578 ?_
  obtain ⟨r, σ1, σ2, h1, h2, hR2⟩ := st_tooMany N hNN σ hR (xs (nI i + 1).toNatClampNeg)
  refine fb_ci X h (fb_runV (As := [.int (xs (nI i + 1).toNatClampNeg)]) (rest := []) (k := 0) X h (c_X5_tooMany l X.2.2.1 (by decide) N (xs (nI i + 1).toNatClampNeg) σ h1) mf_yX5_tooMany lm_RL_68 (by decide) rfl rfl ⟨Nat.le_of_ble_eq_true rfl, Nat.le_of_ble_eq_true rfl⟩ ⟨Nat.le_refl _, Nat.le_refl _⟩ rfl hl.1 rfl (Nat.le_of_ble_eq_true rfl) dL_law_579) (fun H locs h => ?_)
  refine lv_aload_n hx hb dL_law_582 rfl (lv_at hl 1 rfl) ?_
  refine lv_aload_n hx hb dL_law_583 rfl (lv_at hl 3 rfl) ?_
  refine lv_iload_n hx hb dL_law_584 rfl (lv_at hl 0 rfl) ?_
  refine lv_iconst hx hb dL_law_585 ki_1 ?_
  refine lv_iadd hx hb dL_law_586 ?_
  refine va_sld hx hb hX hbl hbA h.2 (lw_in (j := 1) (by decide) hi hL) dL_law_587 ?_
  refine fb_ci X h (fb_runV (As := [.int (xs (nI i + 1).toNatClampNeg)]) (rest := [.int r]) (k := 29) X h (c_X6_tooMany l X.2.2.1 (by decide) N (xs (nI i + 1).toNatClampNeg) σ1 h2) mf_yX6_tooMany lm_RL_71 (by decide) rfl rfl ⟨Nat.le_of_ble_eq_true rfl, Nat.le_of_ble_eq_true rfl⟩ ⟨Nat.le_refl _, Nat.le_refl _⟩ rfl hl.1 rfl (Nat.le_of_ble_eq_true rfl) dL_law_588) (fun H locs h => ?_)
  refine lv_icmp_eq hx hb dL_law_591 (tgt := 1194) (by decide) (fun _ => ?_) (fun h9 => absurd rfl h9)
  exact hnx _ _ _ _ hR2 h hl
set_option maxHeartbeats 8000000 in
set_option maxRecDepth 100000 in
theorem law_c14 (X : fb_X p m c code 4 s #[.ref b] RL g [0, 1, 2, 3, 4, 5, 6, 7, 8, 9, 10, 11, 12, 13, 14, 15, 16, 50, 17, 18, 19, 20, 21, 22, 23, 24, 25, 26, 27, 28, 29, 30, 31, 32, 33, 34, 35, 36, 37, 38, 39, 40, 41, 42, 43, 44, 45, 46, 47, 48, 49] (fun q : Nat => s.heap.size ≤ q)) (hX : va_X b L xs s s.heap) (hbl : b < s.heap.size) (hL : L ≤ 3072) (N : Nat) (hNN : 40000 ≤ N) {i : Nat} (hi : i + 6 ≤ L) (hnx : ∀ (σ : fb_S) (H : Heap) (locs : List Loc) (ls : Array Slot), Rl σ → fb_H g [0, 1, 2, 3, 4, 5, 6, 7, 8, 9, 10, 11, 12, 13, 14, 15, 16, 50, 17, 18, 19, 20, 21, 22, 23, 24, 25, 26, 27, 28, 29, 30, 31, 32, 33, 34, 35, 36, 37, 38, 39, 40, 41, 42, 43, 44, 45, 46, 47, 48, 49] (fun q : Nat => s.heap.size ≤ q) s.heap σ H locs → lv_has ls 4 [(3, .int (nI i)), (2, .ref (g.1 29)), (1, .ref (g.1 0)), (0, .ref b)] → W p l e room_1 s m #[Value.ref b] below meth c H locs 51 23562 (lw_Z below #[Value.ref b] s) (F0 m 1194 ls [])) (σ : fb_S) (hR : Rl σ) (H : Heap) (locs : List Loc) (ls : Array Slot) (h : fb_H g [0, 1, 2, 3, 4, 5, 6, 7, 8, 9, 10, 11, 12, 13, 14, 15, 16, 50, 17, 18, 19, 20, 21, 22, 23, 24, 25, 26, 27, 28, 29, 30, 31, 32, 33, 34, 35, 36, 37, 38, 39, 40, 41, 42, 43, 44, 45, 46, 47, 48, 49] (fun q : Nat => s.heap.size ≤ q) s.heap σ H locs) (hl : lv_has ls 4 [(3, .int (nI i)), (2, .ref (g.1 29)), (1, .ref (g.1 0)), (0, .ref b)]) : W p l e room_1 s m #[Value.ref b] below meth c H locs 51 23562 (lw_Z below #[Value.ref b] s) (F0 m 596 ls []) := by
  have hx := X.1.1
  have hb := X.1.2.1
  have hbA : ¬ (fun q : Nat => s.heap.size ≤ q) b := Nat.not_le.mpr hbl
  refine lv_aload_n hx hb dL_law_596 rfl (lv_at hl 2 rfl) ?_
  refine lv_aload_n hx hb dL_law_597 rfl (lv_at hl 3 rfl) ?_
  refine lv_iload_n hx hb dL_law_598 rfl (lv_at hl 0 rfl) ?_
  refine lv_iconst hx hb dL_law_599 ki_1 ?_
  refine lv_iadd hx hb dL_law_600 ?_
  refine va_sld hx hb hX hbl hbA h.2 (lw_in (j := 1) (by decide) hi hL) dL_law_601 ?_
  obtain ⟨r, σ2, h1, h2, hR2⟩ := st_inStep N hNN σ hR (xs (nI i + 1).toNatClampNeg)
  refine fb_ci X h (fb_runV (As := [.int (xs (nI i + 1).toNatClampNeg)]) (rest := []) (k := 0) X h (c_X5_inStep l X.2.2.1 (by decide) N (xs (nI i + 1).toNatClampNeg) σ h1) mf_yX5_inStep lm_RL_72 (by decide) rfl rfl ⟨Nat.le_of_ble_eq_true rfl, Nat.le_of_ble_eq_true rfl⟩ ⟨Nat.le_refl _, Nat.le_refl _⟩ rfl hl.1 rfl (Nat.le_of_ble_eq_true rfl) dL_law_602) (fun H locs h => ?_)
  refine lv_aload_n hx hb dL_law_605 rfl (lv_at hl 1 rfl) ?_
  refine lv_aload_n hx hb dL_law_606 rfl (lv_at hl 3 rfl) ?_
  refine lv_iload_n hx hb dL_law_607 rfl (lv_at hl 0 rfl) ?_
  refine lv_iconst hx hb dL_law_608 ki_1 ?_
  refine lv_iadd hx hb dL_law_609 ?_
  refine va_sld hx hb hX hbl hbA h.2 (lw_in (j := 1) (by decide) hi hL) dL_law_610 ?_
  refine fb_ci X h (fb_runV (As := [.int (xs (nI i + 1).toNatClampNeg)]) (rest := [.int r]) (k := 29) X h (c_X6_inStep l X.2.2.1 (by decide) N (xs (nI i + 1).toNatClampNeg) σ h2) mf_yX6_inStep lm_RL_75 (by decide) rfl rfl ⟨Nat.le_of_ble_eq_true rfl, Nat.le_of_ble_eq_true rfl⟩ ⟨Nat.le_refl _, Nat.le_refl _⟩ rfl hl.1 rfl (Nat.le_of_ble_eq_true rfl) dL_law_611) (fun H locs h => ?_)
  refine lv_icmp_eq hx hb dL_law_614 (tgt := 1194) (by decide) (fun _ => ?_) (fun h9 => absurd rfl h9)
  exact hnx _ _ _ _ hR2 h hl
set_option maxHeartbeats 8000000 in
set_option maxRecDepth 100000 in
theorem law_c15 (X : fb_X p m c code 4 s #[.ref b] RL g [0, 1, 2, 3, 4, 5, 6, 7, 8, 9, 10, 11, 12, 13, 14, 15, 16, 50, 17, 18, 19, 20, 21, 22, 23, 24, 25, 26, 27, 28, 29, 30, 31, 32, 33, 34, 35, 36, 37, 38, 39, 40, 41, 42, 43, 44, 45, 46, 47, 48, 49] (fun q : Nat => s.heap.size ≤ q)) (hX : va_X b L xs s s.heap) (hbl : b < s.heap.size) (hL : L ≤ 3072) (N : Nat) (hNN : 40000 ≤ N) {i : Nat} (hi : i + 6 ≤ L) (hnx : ∀ (σ : fb_S) (H : Heap) (locs : List Loc) (ls : Array Slot), Rl σ → fb_H g [0, 1, 2, 3, 4, 5, 6, 7, 8, 9, 10, 11, 12, 13, 14, 15, 16, 50, 17, 18, 19, 20, 21, 22, 23, 24, 25, 26, 27, 28, 29, 30, 31, 32, 33, 34, 35, 36, 37, 38, 39, 40, 41, 42, 43, 44, 45, 46, 47, 48, 49] (fun q : Nat => s.heap.size ≤ q) s.heap σ H locs → lv_has ls 4 [(3, .int (nI i)), (2, .ref (g.1 29)), (1, .ref (g.1 0)), (0, .ref b)] → W p l e room_1 s m #[Value.ref b] below meth c H locs 51 23562 (lw_Z below #[Value.ref b] s) (F0 m 1194 ls [])) (σ : fb_S) (hR : Rl σ) (H : Heap) (locs : List Loc) (ls : Array Slot) (h : fb_H g [0, 1, 2, 3, 4, 5, 6, 7, 8, 9, 10, 11, 12, 13, 14, 15, 16, 50, 17, 18, 19, 20, 21, 22, 23, 24, 25, 26, 27, 28, 29, 30, 31, 32, 33, 34, 35, 36, 37, 38, 39, 40, 41, 42, 43, 44, 45, 46, 47, 48, 49] (fun q : Nat => s.heap.size ≤ q) s.heap σ H locs) (hl : lv_has ls 4 [(3, .int (nI i)), (2, .ref (g.1 29)), (1, .ref (g.1 0)), (0, .ref b)]) : W p l e room_1 s m #[Value.ref b] below meth c H locs 51 23562 (lw_Z below #[Value.ref b] s) (F0 m 619 ls []) := by
  have hx := X.1.1
  have hb := X.1.2.1
  have hbA : ¬ (fun q : Nat => s.heap.size ≤ q) b := Nat.not_le.mpr hbl
  refine lv_aload_n hx hb dL_law_619 rfl (lv_at hl 2 rfl) ?_
  refine lv_aload_n hx hb dL_law_620 rfl (lv_at hl 3 rfl) ?_
  refine lv_iload_n hx hb dL_law_621 rfl (lv_at hl 0 rfl) ?_
  refine lv_iconst hx hb dL_law_622 ki_1 ?_
  refine lv_iadd hx hb dL_law_623 ?_
  refine va_sld hx hb hX hbl hbA h.2 (lw_in (j := 1) (by decide) hi hL) dL_law_624 ?_
  refine lv_aload_n hx hb dL_law_625 rfl (lv_at hl 3 rfl) ?_
  refine lv_iload_n hx hb dL_law_626 rfl (lv_at hl 0 rfl) ?_
  refine lv_iconst hx hb dL_law_627 ki_2 ?_
  refine lv_iadd hx hb dL_law_628 ?_
  refine va_sld hx hb hX hbl hbA h.2 (lw_in (j := 2) (by decide) hi hL) dL_law_629 ?_
  refine lv_aload_n hx hb dL_law_630 rfl (lv_at hl 3 rfl) ?_
  refine lv_iload_n hx hb dL_law_631 rfl (lv_at hl 0 rfl) ?_
  refine lv_iconst hx hb dL_law_632 ki_3 ?_
  refine lv_iadd hx hb dL_law_633 ?_
  refine va_sld hx hb hX hbl hbA h.2 (lw_in (j := 3) (by decide) hi hL) dL_law_634 ?_
  obtain ⟨r, σ1, σ2, h1, h2, hR2⟩ := st_damper N hNN σ hR (xs (nI i + 1).toNatClampNeg) (xs (nI i + 2).toNatClampNeg) (xs (nI i + 3).toNatClampNeg)
  refine fb_ci X h (fb_runV (As := [.int (xs (nI i + 1).toNatClampNeg), .int (xs (nI i + 2).toNatClampNeg), .int (xs (nI i + 3).toNatClampNeg)]) (rest := []) (k := 0) X h (c_X5_damper l X.2.2.1 (by decide) (xs (nI i + 1).toNatClampNeg) (xs (nI i + 2).toNatClampNeg) (xs (nI i + 3).toNatClampNeg) σ h1) mf_yX5_damper lm_RL_76 (by decide) rfl rfl ⟨Nat.le_of_ble_eq_true rfl, Nat.le_of_ble_eq_true rfl⟩ ⟨Nat.le_refl _, Nat.le_refl _⟩ rfl hl.1 rfl (Nat.le_of_ble_eq_true rfl) dL_law_635) (fun H locs h => ?_)
  refine lv_aload_n hx hb dL_law_638 rfl (lv_at hl 1 rfl) ?_
  refine lv_aload_n hx hb dL_law_639 rfl (lv_at hl 3 rfl) ?_
  refine lv_iload_n hx hb dL_law_640 rfl (lv_at hl 0 rfl) ?_
  refine lv_iconst hx hb dL_law_641 ki_1 ?_
  refine lv_iadd hx hb dL_law_642 ?_
  refine va_sld hx hb hX hbl hbA h.2 (lw_in (j := 1) (by decide) hi hL) dL_law_643 ?_
  refine lv_aload_n hx hb dL_law_644 rfl (lv_at hl 3 rfl) ?_
  refine lv_iload_n hx hb dL_law_645 rfl (lv_at hl 0 rfl) ?_
  refine lv_iconst hx hb dL_law_646 ki_2 ?_
  refine lv_iadd hx hb dL_law_647 ?_
  refine va_sld hx hb hX hbl hbA h.2 (lw_in (j := 2) (by decide) hi hL) dL_law_648 ?_
  refine lv_aload_n hx hb dL_law_649 rfl (lv_at hl 3 rfl) ?_
  refine lv_iload_n hx hb dL_law_650 rfl (lv_at hl 0 rfl) ?_
  refine lv_iconst hx hb dL_law_651 ki_3 ?_
  refine lv_iadd hx hb dL_law_652 ?_
  refine va_sld hx hb hX hbl hbA h.2 (lw_in (j := 3) (by decide) hi hL) dL_law_653 ?_
  refine fb_ci X h (fb_runV (As := [.int (xs (nI i + 1).toNatClampNeg), .int (xs (nI i + 2).toNatClampNeg), .int (xs (nI i + 3).toNatClampNeg)]) (rest := [.int r]) (k := 29) X h (c_X6_damper l X.2.2.1 (by decide) (xs (nI i + 1).toNatClampNeg) (xs (nI i + 2).toNatClampNeg) (xs (nI i + 3).toNatClampNeg) σ1 h2) mf_yX6_damper lm_RL_80 (by decide) rfl rfl ⟨Nat.le_of_ble_eq_true rfl, Nat.le_of_ble_eq_true rfl⟩ ⟨Nat.le_refl _, Nat.le_refl _⟩ rfl hl.1 rfl (Nat.le_of_ble_eq_true rfl) dL_law_654) (fun H locs h => ?_)
  refine lv_icmp_eq hx hb dL_law_657 (tgt := 1194) (by decide) (fun _ => ?_) (fun h9 => absurd rfl h9)
  exact hnx _ _ _ _ hR2 h hl
set_option maxHeartbeats 8000000 in
set_option maxRecDepth 100000 in
theorem law_c16 (X : fb_X p m c code 4 s #[.ref b] RL g [0, 1, 2, 3, 4, 5, 6, 7, 8, 9, 10, 11, 12, 13, 14, 15, 16, 50, 17, 18, 19, 20, 21, 22, 23, 24, 25, 26, 27, 28, 29, 30, 31, 32, 33, 34, 35, 36, 37, 38, 39, 40, 41, 42, 43, 44, 45, 46, 47, 48, 49] (fun q : Nat => s.heap.size ≤ q)) (hX : va_X b L xs s s.heap) (hbl : b < s.heap.size) (hL : L ≤ 3072) (N : Nat) (hNN : 40000 ≤ N) {i : Nat} (hi : i + 6 ≤ L) (hnx : ∀ (σ : fb_S) (H : Heap) (locs : List Loc) (ls : Array Slot), Rl σ → fb_H g [0, 1, 2, 3, 4, 5, 6, 7, 8, 9, 10, 11, 12, 13, 14, 15, 16, 50, 17, 18, 19, 20, 21, 22, 23, 24, 25, 26, 27, 28, 29, 30, 31, 32, 33, 34, 35, 36, 37, 38, 39, 40, 41, 42, 43, 44, 45, 46, 47, 48, 49] (fun q : Nat => s.heap.size ≤ q) s.heap σ H locs → lv_has ls 4 [(3, .int (nI i)), (2, .ref (g.1 29)), (1, .ref (g.1 0)), (0, .ref b)] → W p l e room_1 s m #[Value.ref b] below meth c H locs 51 23562 (lw_Z below #[Value.ref b] s) (F0 m 1194 ls [])) (σ : fb_S) (hR : Rl σ) (H : Heap) (locs : List Loc) (ls : Array Slot) (h : fb_H g [0, 1, 2, 3, 4, 5, 6, 7, 8, 9, 10, 11, 12, 13, 14, 15, 16, 50, 17, 18, 19, 20, 21, 22, 23, 24, 25, 26, 27, 28, 29, 30, 31, 32, 33, 34, 35, 36, 37, 38, 39, 40, 41, 42, 43, 44, 45, 46, 47, 48, 49] (fun q : Nat => s.heap.size ≤ q) s.heap σ H locs) (hl : lv_has ls 4 [(3, .int (nI i)), (2, .ref (g.1 29)), (1, .ref (g.1 0)), (0, .ref b)]) : W p l e room_1 s m #[Value.ref b] below meth c H locs 51 23562 (lw_Z below #[Value.ref b] s) (F0 m 662 ls []) := by
  have hx := X.1.1
  have hb := X.1.2.1
  have hbA : ¬ (fun q : Nat => s.heap.size ≤ q) b := Nat.not_le.mpr hbl
  refine lv_aload_n hx hb dL_law_662 rfl (lv_at hl 2 rfl) ?_
  refine lv_aload_n hx hb dL_law_663 rfl (lv_at hl 3 rfl) ?_
  refine lv_iload_n hx hb dL_law_664 rfl (lv_at hl 0 rfl) ?_
  refine lv_iconst hx hb dL_law_665 ki_1 ?_
  refine lv_iadd hx hb dL_law_666 ?_
  refine va_sld hx hb hX hbl hbA h.2 (lw_in (j := 1) (by decide) hi hL) dL_law_667 ?_
  refine lv_aload_n hx hb dL_law_668 rfl (lv_at hl 3 rfl) ?_
  refine lv_iload_n hx hb dL_law_669 rfl (lv_at hl 0 rfl) ?_
  refine lv_iconst hx hb dL_law_670 ki_2 ?_
  refine lv_iadd hx hb dL_law_671 ?_
  refine va_sld hx hb hX hbl hbA h.2 (lw_in (j := 2) (by decide) hi hL) dL_law_672 ?_
  refine lv_if_eq hx hb dL_law_673 (tgt := 680) (by decide) (fun hc2 => ?_) (fun hc2 => ?_)
  · refine lv_iconst hx hb dL_law_680 ki_0 ?_
    obtain ⟨r, σ1, σ2, h1, h2, hR2⟩ := st_build N hNN σ hR (xs (nI i + 1).toNatClampNeg) (0 : Int32) (by decide)
    refine fb_ci X h (fb_runV (As := [.int (xs (nI i + 1).toNatClampNeg), .int (0 : Int32)]) (rest := []) (k := 0) X h (c_X5_build l X.2.2.1 (by decide) (xs (nI i + 1).toNatClampNeg) (0 : Int32) σ h1) mf_yX5_build lm_RL_81 (by decide) rfl rfl ⟨Nat.le_of_ble_eq_true rfl, Nat.le_of_ble_eq_true rfl⟩ ⟨Nat.le_refl _, Nat.le_refl _⟩ rfl hl.1 rfl (Nat.le_of_ble_eq_true rfl) dL_law_681) (fun H locs h => ?_)
    refine lv_aload_n hx hb dL_law_684 rfl (lv_at hl 1 rfl) ?_
    refine lv_aload_n hx hb dL_law_685 rfl (lv_at hl 3 rfl) ?_
    refine lv_iload_n hx hb dL_law_686 rfl (lv_at hl 0 rfl) ?_
    refine lv_iconst hx hb dL_law_687 ki_1 ?_
    refine lv_iadd hx hb dL_law_688 ?_
    refine va_sld hx hb hX hbl hbA h.2 (lw_in (j := 1) (by decide) hi hL) dL_law_689 ?_
    refine lv_aload_n hx hb dL_law_690 rfl (lv_at hl 3 rfl) ?_
    refine lv_iload_n hx hb dL_law_691 rfl (lv_at hl 0 rfl) ?_
    refine lv_iconst hx hb dL_law_692 ki_2 ?_
    refine lv_iadd hx hb dL_law_693 ?_
    refine va_sld hx hb hX hbl hbA h.2 (lw_in (j := 2) (by decide) hi hL) dL_law_694 ?_
    refine lv_if_eq hx hb dL_law_695 (tgt := 702) (by decide) (fun _ => ?_) (fun h9 => absurd hc2 h9)
    refine lv_iconst hx hb dL_law_702 ki_0 ?_
    refine fb_ci X h (fb_runV (As := [.int (xs (nI i + 1).toNatClampNeg), .int (0 : Int32)]) (rest := [.int r]) (k := 29) X h (c_X6_build l X.2.2.1 (by decide) (xs (nI i + 1).toNatClampNeg) (0 : Int32) σ1 h2) mf_yX6_build lm_RL_85 (by decide) rfl rfl ⟨Nat.le_of_ble_eq_true rfl, Nat.le_of_ble_eq_true rfl⟩ ⟨Nat.le_refl _, Nat.le_refl _⟩ rfl hl.1 rfl (Nat.le_of_ble_eq_true rfl) dL_law_703) (fun H locs h => ?_)
    refine lv_icmp_eq hx hb dL_law_706 (tgt := 1194) (by decide) (fun _ => ?_) (fun h9 => absurd rfl h9)
    exact hnx _ _ _ _ hR2 h hl
  · refine lv_iconst hx hb dL_law_676 ki_1 ?_
    refine lv_goto hx hb dL_law_677 (tgt := 681) (by decide) ?_
    obtain ⟨r, σ1, σ2, h1, h2, hR2⟩ := st_build N hNN σ hR (xs (nI i + 1).toNatClampNeg) (1 : Int32) (by decide)
    refine fb_ci X h (fb_runV (As := [.int (xs (nI i + 1).toNatClampNeg), .int (1 : Int32)]) (rest := []) (k := 0) X h (c_X5_build l X.2.2.1 (by decide) (xs (nI i + 1).toNatClampNeg) (1 : Int32) σ h1) mf_yX5_build lm_RL_81 (by decide) rfl rfl ⟨Nat.le_of_ble_eq_true rfl, Nat.le_of_ble_eq_true rfl⟩ ⟨Nat.le_refl _, Nat.le_refl _⟩ rfl hl.1 rfl (Nat.le_of_ble_eq_true rfl) dL_law_681) (fun H locs h => ?_)
    refine lv_aload_n hx hb dL_law_684 rfl (lv_at hl 1 rfl) ?_
    refine lv_aload_n hx hb dL_law_685 rfl (lv_at hl 3 rfl) ?_
    refine lv_iload_n hx hb dL_law_686 rfl (lv_at hl 0 rfl) ?_
    refine lv_iconst hx hb dL_law_687 ki_1 ?_
    refine lv_iadd hx hb dL_law_688 ?_
    refine va_sld hx hb hX hbl hbA h.2 (lw_in (j := 1) (by decide) hi hL) dL_law_689 ?_
    refine lv_aload_n hx hb dL_law_690 rfl (lv_at hl 3 rfl) ?_
    refine lv_iload_n hx hb dL_law_691 rfl (lv_at hl 0 rfl) ?_
    refine lv_iconst hx hb dL_law_692 ki_2 ?_
    refine lv_iadd hx hb dL_law_693 ?_
    refine va_sld hx hb hX hbl hbA h.2 (lw_in (j := 2) (by decide) hi hL) dL_law_694 ?_
    refine lv_if_eq hx hb dL_law_695 (tgt := 702) (by decide) (fun h9 => absurd h9 hc2) (fun _ => ?_)
    refine lv_iconst hx hb dL_law_698 ki_1 ?_
    refine lv_goto hx hb dL_law_699 (tgt := 703) (by decide) ?_
    refine fb_ci X h (fb_runV (As := [.int (xs (nI i + 1).toNatClampNeg), .int (1 : Int32)]) (rest := [.int r]) (k := 29) X h (c_X6_build l X.2.2.1 (by decide) (xs (nI i + 1).toNatClampNeg) (1 : Int32) σ1 h2) mf_yX6_build lm_RL_85 (by decide) rfl rfl ⟨Nat.le_of_ble_eq_true rfl, Nat.le_of_ble_eq_true rfl⟩ ⟨Nat.le_refl _, Nat.le_refl _⟩ rfl hl.1 rfl (Nat.le_of_ble_eq_true rfl) dL_law_703) (fun H locs h => ?_)
    refine lv_icmp_eq hx hb dL_law_706 (tgt := 1194) (by decide) (fun _ => ?_) (fun h9 => absurd rfl h9)
    exact hnx _ _ _ _ hR2 h hl
set_option maxHeartbeats 8000000 in
set_option maxRecDepth 100000 in
theorem law_c17 (X : fb_X p m c code 4 s #[.ref b] RL g [0, 1, 2, 3, 4, 5, 6, 7, 8, 9, 10, 11, 12, 13, 14, 15, 16, 50, 17, 18, 19, 20, 21, 22, 23, 24, 25, 26, 27, 28, 29, 30, 31, 32, 33, 34, 35, 36, 37, 38, 39, 40, 41, 42, 43, 44, 45, 46, 47, 48, 49] (fun q : Nat => s.heap.size ≤ q)) (hX : va_X b L xs s s.heap) (hbl : b < s.heap.size) (hL : L ≤ 3072) (N : Nat) (hNN : 40000 ≤ N) {i : Nat} (hi : i + 6 ≤ L) (hnx : ∀ (σ : fb_S) (H : Heap) (locs : List Loc) (ls : Array Slot), Rl σ → fb_H g [0, 1, 2, 3, 4, 5, 6, 7, 8, 9, 10, 11, 12, 13, 14, 15, 16, 50, 17, 18, 19, 20, 21, 22, 23, 24, 25, 26, 27, 28, 29, 30, 31, 32, 33, 34, 35, 36, 37, 38, 39, 40, 41, 42, 43, 44, 45, 46, 47, 48, 49] (fun q : Nat => s.heap.size ≤ q) s.heap σ H locs → lv_has ls 4 [(3, .int (nI i)), (2, .ref (g.1 29)), (1, .ref (g.1 0)), (0, .ref b)] → W p l e room_1 s m #[Value.ref b] below meth c H locs 51 23562 (lw_Z below #[Value.ref b] s) (F0 m 1194 ls [])) (σ : fb_S) (hR : Rl σ) (H : Heap) (locs : List Loc) (ls : Array Slot) (h : fb_H g [0, 1, 2, 3, 4, 5, 6, 7, 8, 9, 10, 11, 12, 13, 14, 15, 16, 50, 17, 18, 19, 20, 21, 22, 23, 24, 25, 26, 27, 28, 29, 30, 31, 32, 33, 34, 35, 36, 37, 38, 39, 40, 41, 42, 43, 44, 45, 46, 47, 48, 49] (fun q : Nat => s.heap.size ≤ q) s.heap σ H locs) (hl : lv_has ls 4 [(3, .int (nI i)), (2, .ref (g.1 29)), (1, .ref (g.1 0)), (0, .ref b)]) : W p l e room_1 s m #[Value.ref b] below meth c H locs 51 23562 (lw_Z below #[Value.ref b] s) (F0 m 711 ls []) := by
  have hx := X.1.1
  have hb := X.1.2.1
  have hbA : ¬ (fun q : Nat => s.heap.size ≤ q) b := Nat.not_le.mpr hbl
  refine lv_aload_n hx hb dL_law_711 rfl (lv_at hl 2 rfl) ?_
  obtain ⟨r, σ1, σ2, h1, h2, hR2⟩ := st_cheapest N hNN σ hR 
  refine fb_ci X h (fb_runV (As := []) (rest := []) (k := 0) X h (c_X5_cheapest l X.2.2.1 (by decide) N σ h1) mf_yX5_cheapest lm_RL_86 (by decide) rfl rfl ⟨Nat.le_of_ble_eq_true rfl, Nat.le_of_ble_eq_true rfl⟩ ⟨Nat.le_refl _, Nat.le_refl _⟩ rfl hl.1 rfl (Nat.le_of_ble_eq_true rfl) dL_law_712) (fun H locs h => ?_)
  refine lv_aload_n hx hb dL_law_715 rfl (lv_at hl 1 rfl) ?_
  refine fb_ci X h (fb_runV (As := []) (rest := [.int r]) (k := 29) X h (c_X6_cheapest l X.2.2.1 (by decide) N σ1 h2) mf_yX6_cheapest lm_RL_90 (by decide) rfl rfl ⟨Nat.le_of_ble_eq_true rfl, Nat.le_of_ble_eq_true rfl⟩ ⟨Nat.le_refl _, Nat.le_refl _⟩ rfl hl.1 rfl (Nat.le_of_ble_eq_true rfl) dL_law_716) (fun H locs h => ?_)
  refine lv_icmp_eq hx hb dL_law_719 (tgt := 1194) (by decide) (fun _ => ?_) (fun h9 => absurd rfl h9)
  exact hnx _ _ _ _ hR2 h hl
set_option maxHeartbeats 8000000 in
set_option maxRecDepth 100000 in
theorem law_c18 (X : fb_X p m c code 4 s #[.ref b] RL g [0, 1, 2, 3, 4, 5, 6, 7, 8, 9, 10, 11, 12, 13, 14, 15, 16, 50, 17, 18, 19, 20, 21, 22, 23, 24, 25, 26, 27, 28, 29, 30, 31, 32, 33, 34, 35, 36, 37, 38, 39, 40, 41, 42, 43, 44, 45, 46, 47, 48, 49] (fun q : Nat => s.heap.size ≤ q)) (hX : va_X b L xs s s.heap) (hbl : b < s.heap.size) (hL : L ≤ 3072) (N : Nat) (hNN : 40000 ≤ N) {i : Nat} (hi : i + 6 ≤ L) (hnx : ∀ (σ : fb_S) (H : Heap) (locs : List Loc) (ls : Array Slot), Rl σ → fb_H g [0, 1, 2, 3, 4, 5, 6, 7, 8, 9, 10, 11, 12, 13, 14, 15, 16, 50, 17, 18, 19, 20, 21, 22, 23, 24, 25, 26, 27, 28, 29, 30, 31, 32, 33, 34, 35, 36, 37, 38, 39, 40, 41, 42, 43, 44, 45, 46, 47, 48, 49] (fun q : Nat => s.heap.size ≤ q) s.heap σ H locs → lv_has ls 4 [(3, .int (nI i)), (2, .ref (g.1 29)), (1, .ref (g.1 0)), (0, .ref b)] → W p l e room_1 s m #[Value.ref b] below meth c H locs 51 23562 (lw_Z below #[Value.ref b] s) (F0 m 1194 ls [])) (σ : fb_S) (hR : Rl σ) (H : Heap) (locs : List Loc) (ls : Array Slot) (h : fb_H g [0, 1, 2, 3, 4, 5, 6, 7, 8, 9, 10, 11, 12, 13, 14, 15, 16, 50, 17, 18, 19, 20, 21, 22, 23, 24, 25, 26, 27, 28, 29, 30, 31, 32, 33, 34, 35, 36, 37, 38, 39, 40, 41, 42, 43, 44, 45, 46, 47, 48, 49] (fun q : Nat => s.heap.size ≤ q) s.heap σ H locs) (hl : lv_has ls 4 [(3, .int (nI i)), (2, .ref (g.1 29)), (1, .ref (g.1 0)), (0, .ref b)]) : W p l e room_1 s m #[Value.ref b] below meth c H locs 51 23562 (lw_Z below #[Value.ref b] s) (F0 m 724 ls []) := by
  have hx := X.1.1
  have hb := X.1.2.1
  have hbA : ¬ (fun q : Nat => s.heap.size ≤ q) b := Nat.not_le.mpr hbl
  refine lv_aload_n hx hb dL_law_724 rfl (lv_at hl 2 rfl) ?_
  refine lv_aload_n hx hb dL_law_725 rfl (lv_at hl 3 rfl) ?_
  refine lv_iload_n hx hb dL_law_726 rfl (lv_at hl 0 rfl) ?_
  refine lv_iconst hx hb dL_law_727 ki_1 ?_
  refine lv_iadd hx hb dL_law_728 ?_
  refine va_sld hx hb hX hbl hbA h.2 (lw_in (j := 1) (by decide) hi hL) dL_law_729 ?_
  obtain ⟨r, σ1, σ2, h1, h2, hR2⟩ := st_bought N hNN σ hR (xs (nI i + 1).toNatClampNeg)
  refine fb_ci X h (fb_runV (As := [.int (xs (nI i + 1).toNatClampNeg)]) (rest := []) (k := 0) X h (c_X5_bought l X.2.2.1 (by decide) N (xs (nI i + 1).toNatClampNeg) σ h1) mf_yX5_bought lm_RL_91 (by decide) rfl rfl ⟨Nat.le_of_ble_eq_true rfl, Nat.le_of_ble_eq_true rfl⟩ ⟨Nat.le_refl _, Nat.le_refl _⟩ rfl hl.1 rfl (Nat.le_of_ble_eq_true rfl) dL_law_730) (fun H locs h => ?_)
  refine lv_aload_n hx hb dL_law_733 rfl (lv_at hl 1 rfl) ?_
  refine lv_aload_n hx hb dL_law_734 rfl (lv_at hl 3 rfl) ?_
  refine lv_iload_n hx hb dL_law_735 rfl (lv_at hl 0 rfl) ?_
  refine lv_iconst hx hb dL_law_736 ki_1 ?_
  refine lv_iadd hx hb dL_law_737 ?_
  refine va_sld hx hb hX hbl hbA h.2 (lw_in (j := 1) (by decide) hi hL) dL_law_738 ?_
  refine fb_ci X h (fb_runV (As := [.int (xs (nI i + 1).toNatClampNeg)]) (rest := [.int r]) (k := 29) X h (c_X6_bought l X.2.2.1 (by decide) N (xs (nI i + 1).toNatClampNeg) σ1 h2) mf_yX6_bought lm_RL_94 (by decide) rfl rfl ⟨Nat.le_of_ble_eq_true rfl, Nat.le_of_ble_eq_true rfl⟩ ⟨Nat.le_refl _, Nat.le_refl _⟩ rfl hl.1 rfl (Nat.le_of_ble_eq_true rfl) dL_law_739) (fun H locs h => ?_)
  refine lv_icmp_eq hx hb dL_law_742 (tgt := 1194) (by decide) (fun _ => ?_) (fun h9 => absurd rfl h9)
  exact hnx _ _ _ _ hR2 h hl
set_option maxHeartbeats 8000000 in
set_option maxRecDepth 100000 in
theorem law_c19 (X : fb_X p m c code 4 s #[.ref b] RL g [0, 1, 2, 3, 4, 5, 6, 7, 8, 9, 10, 11, 12, 13, 14, 15, 16, 50, 17, 18, 19, 20, 21, 22, 23, 24, 25, 26, 27, 28, 29, 30, 31, 32, 33, 34, 35, 36, 37, 38, 39, 40, 41, 42, 43, 44, 45, 46, 47, 48, 49] (fun q : Nat => s.heap.size ≤ q)) (hX : va_X b L xs s s.heap) (hbl : b < s.heap.size) (hL : L ≤ 3072) {tz : Nat → Nat} (hz : fb_Zp (fun q : Nat => s.heap.size ≤ q) tz s) (N : Nat) (hNN : 40000 ≤ N) {i : Nat} (hi : i + 6 ≤ L) (hnx : ∀ (σ : fb_S) (H : Heap) (locs : List Loc) (ls : Array Slot), Rl σ → fb_H g [0, 1, 2, 3, 4, 5, 6, 7, 8, 9, 10, 11, 12, 13, 14, 15, 16, 50, 17, 18, 19, 20, 21, 22, 23, 24, 25, 26, 27, 28, 29, 30, 31, 32, 33, 34, 35, 36, 37, 38, 39, 40, 41, 42, 43, 44, 45, 46, 47, 48, 49] (fun q : Nat => s.heap.size ≤ q) s.heap σ H locs → lv_has ls 4 [(3, .int (nI i)), (2, .ref (g.1 29)), (1, .ref (g.1 0)), (0, .ref b)] → W p l e room_1 s m #[Value.ref b] below meth c H locs 51 23562 (lw_Z below #[Value.ref b] s) (F0 m 1194 ls [])) (σ : fb_S) (hR : Rl σ) (H : Heap) (locs : List Loc) (ls : Array Slot) (h : fb_H g [0, 1, 2, 3, 4, 5, 6, 7, 8, 9, 10, 11, 12, 13, 14, 15, 16, 50, 17, 18, 19, 20, 21, 22, 23, 24, 25, 26, 27, 28, 29, 30, 31, 32, 33, 34, 35, 36, 37, 38, 39, 40, 41, 42, 43, 44, 45, 46, 47, 48, 49] (fun q : Nat => s.heap.size ≤ q) s.heap σ H locs) (hl : lv_has ls 4 [(3, .int (nI i)), (2, .ref (g.1 29)), (1, .ref (g.1 0)), (0, .ref b)]) : W p l e room_1 s m #[Value.ref b] below meth c H locs 51 23562 (lw_Z below #[Value.ref b] s) (F0 m 747 ls []) := by
  have hx := X.1.1
  have hb := X.1.2.1
  have hbA : ¬ (fun q : Nat => s.heap.size ≤ q) b := Nat.not_le.mpr hbl
  refine lv_aload_n hx hb dL_law_747 rfl (lv_at hl 2 rfl) ?_
  refine lv_aload_n hx hb dL_law_748 rfl (lv_at hl 3 rfl) ?_
  refine lv_iload_n hx hb dL_law_749 rfl (lv_at hl 0 rfl) ?_
  refine lv_iconst hx hb dL_law_750 ki_1 ?_
  refine lv_iadd hx hb dL_law_751 ?_
  refine va_sld hx hb hX hbl hbA h.2 (lw_in (j := 1) (by decide) hi hL) dL_law_752 ?_
  refine lv_aload_n hx hb dL_law_753 rfl (lv_at hl 3 rfl) ?_
  refine lv_iload_n hx hb dL_law_754 rfl (lv_at hl 0 rfl) ?_
  refine lv_iconst hx hb dL_law_755 ki_2 ?_
  refine lv_iadd hx hb dL_law_756 ?_
  refine va_sld hx hb hX hbl hbA h.2 (lw_in (j := 2) (by decide) hi hL) dL_law_757 ?_
  obtain ⟨r, σ1, σ2, h1, h2, hR2⟩ := st_way N hNN σ hR (xs (nI i + 1).toNatClampNeg) (xs (nI i + 2).toNatClampNeg)
  refine fb_ci X h (fb_runVZ (As := [.int (xs (nI i + 1).toNatClampNeg), .int (xs (nI i + 2).toNatClampNeg)]) (rest := []) (k := 0) X h (c_X5_way l X.2.2.1 (by decide) (xs (nI i + 1).toNatClampNeg) (xs (nI i + 2).toNatClampNeg) σ h1) hz mf_yX5_way lm_RL_95 (by decide) rfl rfl ⟨Nat.le_of_ble_eq_true rfl, Nat.le_of_ble_eq_true rfl⟩ ⟨Nat.le_refl _, Nat.le_refl _⟩ rfl hl.1 rfl (Nat.le_of_ble_eq_true rfl) dL_law_758) (fun H locs h => ?_)
  refine lv_aload_n hx hb dL_law_761 rfl (lv_at hl 1 rfl) ?_
  refine lv_aload_n hx hb dL_law_762 rfl (lv_at hl 3 rfl) ?_
  refine lv_iload_n hx hb dL_law_763 rfl (lv_at hl 0 rfl) ?_
  refine lv_iconst hx hb dL_law_764 ki_1 ?_
  refine lv_iadd hx hb dL_law_765 ?_
  refine va_sld hx hb hX hbl hbA h.2 (lw_in (j := 1) (by decide) hi hL) dL_law_766 ?_
  refine lv_aload_n hx hb dL_law_767 rfl (lv_at hl 3 rfl) ?_
  refine lv_iload_n hx hb dL_law_768 rfl (lv_at hl 0 rfl) ?_
  refine lv_iconst hx hb dL_law_769 ki_2 ?_
  refine lv_iadd hx hb dL_law_770 ?_
  refine va_sld hx hb hX hbl hbA h.2 (lw_in (j := 2) (by decide) hi hL) dL_law_771 ?_
  refine fb_ci X h (fb_runV (As := [.int (xs (nI i + 1).toNatClampNeg), .int (xs (nI i + 2).toNatClampNeg)]) (rest := [.int r]) (k := 29) X h (c_X6_way l X.2.2.1 (by decide) (xs (nI i + 1).toNatClampNeg) (xs (nI i + 2).toNatClampNeg) σ1 h2) mf_yX6_way lm_RL_98 (by decide) rfl rfl ⟨Nat.le_of_ble_eq_true rfl, Nat.le_of_ble_eq_true rfl⟩ ⟨Nat.le_refl _, Nat.le_refl _⟩ rfl hl.1 rfl (Nat.le_of_ble_eq_true rfl) dL_law_772) (fun H locs h => ?_)
  refine lv_icmp_eq hx hb dL_law_775 (tgt := 1194) (by decide) (fun _ => ?_) (fun h9 => absurd rfl h9)
  exact hnx _ _ _ _ hR2 h hl
set_option maxHeartbeats 8000000 in
set_option maxRecDepth 100000 in
theorem law_c20 (X : fb_X p m c code 4 s #[.ref b] RL g [0, 1, 2, 3, 4, 5, 6, 7, 8, 9, 10, 11, 12, 13, 14, 15, 16, 50, 17, 18, 19, 20, 21, 22, 23, 24, 25, 26, 27, 28, 29, 30, 31, 32, 33, 34, 35, 36, 37, 38, 39, 40, 41, 42, 43, 44, 45, 46, 47, 48, 49] (fun q : Nat => s.heap.size ≤ q)) (hX : va_X b L xs s s.heap) (hbl : b < s.heap.size) (hL : L ≤ 3072) (N : Nat) (hNN : 40000 ≤ N) {i : Nat} (hi : i + 6 ≤ L) (hnx : ∀ (σ : fb_S) (H : Heap) (locs : List Loc) (ls : Array Slot), Rl σ → fb_H g [0, 1, 2, 3, 4, 5, 6, 7, 8, 9, 10, 11, 12, 13, 14, 15, 16, 50, 17, 18, 19, 20, 21, 22, 23, 24, 25, 26, 27, 28, 29, 30, 31, 32, 33, 34, 35, 36, 37, 38, 39, 40, 41, 42, 43, 44, 45, 46, 47, 48, 49] (fun q : Nat => s.heap.size ≤ q) s.heap σ H locs → lv_has ls 4 [(3, .int (nI i)), (2, .ref (g.1 29)), (1, .ref (g.1 0)), (0, .ref b)] → W p l e room_1 s m #[Value.ref b] below meth c H locs 51 23562 (lw_Z below #[Value.ref b] s) (F0 m 1194 ls [])) (σ : fb_S) (hR : Rl σ) (H : Heap) (locs : List Loc) (ls : Array Slot) (h : fb_H g [0, 1, 2, 3, 4, 5, 6, 7, 8, 9, 10, 11, 12, 13, 14, 15, 16, 50, 17, 18, 19, 20, 21, 22, 23, 24, 25, 26, 27, 28, 29, 30, 31, 32, 33, 34, 35, 36, 37, 38, 39, 40, 41, 42, 43, 44, 45, 46, 47, 48, 49] (fun q : Nat => s.heap.size ≤ q) s.heap σ H locs) (hl : lv_has ls 4 [(3, .int (nI i)), (2, .ref (g.1 29)), (1, .ref (g.1 0)), (0, .ref b)]) : W p l e room_1 s m #[Value.ref b] below meth c H locs 51 23562 (lw_Z below #[Value.ref b] s) (F0 m 780 ls []) := by
  have hx := X.1.1
  have hb := X.1.2.1
  have hbA : ¬ (fun q : Nat => s.heap.size ≤ q) b := Nat.not_le.mpr hbl
  refine lv_aload_n hx hb dL_law_780 rfl (lv_at hl 2 rfl) ?_
  refine lv_aload_n hx hb dL_law_781 rfl (lv_at hl 3 rfl) ?_
  refine lv_iload_n hx hb dL_law_782 rfl (lv_at hl 0 rfl) ?_
  refine lv_iconst hx hb dL_law_783 ki_1 ?_
  refine lv_iadd hx hb dL_law_784 ?_
  refine va_sld hx hb hX hbl hbA h.2 (lw_in (j := 1) (by decide) hi hL) dL_law_785 ?_
  refine lv_aload_n hx hb dL_law_786 rfl (lv_at hl 3 rfl) ?_
  refine lv_iload_n hx hb dL_law_787 rfl (lv_at hl 0 rfl) ?_
  refine lv_iconst hx hb dL_law_788 ki_2 ?_
  refine lv_iadd hx hb dL_law_789 ?_
  refine va_sld hx hb hX hbl hbA h.2 (lw_in (j := 2) (by decide) hi hL) dL_law_790 ?_
  obtain ⟨r, σ1, σ2, h1, h2, hR2⟩ := st_arrive N hNN σ hR (xs (nI i + 1).toNatClampNeg) (xs (nI i + 2).toNatClampNeg)
  refine fb_ci X h (fb_runV (As := [.int (xs (nI i + 1).toNatClampNeg), .int (xs (nI i + 2).toNatClampNeg)]) (rest := []) (k := 0) X h (c_X5_arrive l X.2.2.1 (by decide) (xs (nI i + 1).toNatClampNeg) (xs (nI i + 2).toNatClampNeg) σ h1) mf_yX5_arrive lm_RL_99 (by decide) rfl rfl ⟨Nat.le_of_ble_eq_true rfl, Nat.le_of_ble_eq_true rfl⟩ ⟨Nat.le_refl _, Nat.le_refl _⟩ rfl hl.1 rfl (Nat.le_of_ble_eq_true rfl) dL_law_791) (fun H locs h => ?_)
  refine lv_aload_n hx hb dL_law_794 rfl (lv_at hl 1 rfl) ?_
  refine lv_aload_n hx hb dL_law_795 rfl (lv_at hl 3 rfl) ?_
  refine lv_iload_n hx hb dL_law_796 rfl (lv_at hl 0 rfl) ?_
  refine lv_iconst hx hb dL_law_797 ki_1 ?_
  refine lv_iadd hx hb dL_law_798 ?_
  refine va_sld hx hb hX hbl hbA h.2 (lw_in (j := 1) (by decide) hi hL) dL_law_799 ?_
  refine lv_aload_n hx hb dL_law_800 rfl (lv_at hl 3 rfl) ?_
  refine lv_iload_n hx hb dL_law_801 rfl (lv_at hl 0 rfl) ?_
  refine lv_iconst hx hb dL_law_802 ki_2 ?_
  refine lv_iadd hx hb dL_law_803 ?_
  refine va_sld hx hb hX hbl hbA h.2 (lw_in (j := 2) (by decide) hi hL) dL_law_804 ?_
  refine fb_ci X h (fb_runV (As := [.int (xs (nI i + 1).toNatClampNeg), .int (xs (nI i + 2).toNatClampNeg)]) (rest := [.int r]) (k := 29) X h (c_X6_arrive l X.2.2.1 (by decide) (xs (nI i + 1).toNatClampNeg) (xs (nI i + 2).toNatClampNeg) σ1 h2) mf_yX6_arrive lm_RL_102 (by decide) rfl rfl ⟨Nat.le_of_ble_eq_true rfl, Nat.le_of_ble_eq_true rfl⟩ ⟨Nat.le_refl _, Nat.le_refl _⟩ rfl hl.1 rfl (Nat.le_of_ble_eq_true rfl) dL_law_805) (fun H locs h => ?_)
  refine lv_icmp_eq hx hb dL_law_808 (tgt := 1194) (by decide) (fun _ => ?_) (fun h9 => absurd rfl h9)
  exact hnx _ _ _ _ hR2 h hl
set_option maxHeartbeats 8000000 in
set_option maxRecDepth 100000 in
theorem law_c21 (X : fb_X p m c code 4 s #[.ref b] RL g [0, 1, 2, 3, 4, 5, 6, 7, 8, 9, 10, 11, 12, 13, 14, 15, 16, 50, 17, 18, 19, 20, 21, 22, 23, 24, 25, 26, 27, 28, 29, 30, 31, 32, 33, 34, 35, 36, 37, 38, 39, 40, 41, 42, 43, 44, 45, 46, 47, 48, 49] (fun q : Nat => s.heap.size ≤ q)) (hX : va_X b L xs s s.heap) (hbl : b < s.heap.size) (hL : L ≤ 3072) (N : Nat) (hNN : 40000 ≤ N) {i : Nat} (hi : i + 6 ≤ L) (hnx : ∀ (σ : fb_S) (H : Heap) (locs : List Loc) (ls : Array Slot), Rl σ → fb_H g [0, 1, 2, 3, 4, 5, 6, 7, 8, 9, 10, 11, 12, 13, 14, 15, 16, 50, 17, 18, 19, 20, 21, 22, 23, 24, 25, 26, 27, 28, 29, 30, 31, 32, 33, 34, 35, 36, 37, 38, 39, 40, 41, 42, 43, 44, 45, 46, 47, 48, 49] (fun q : Nat => s.heap.size ≤ q) s.heap σ H locs → lv_has ls 4 [(3, .int (nI i)), (2, .ref (g.1 29)), (1, .ref (g.1 0)), (0, .ref b)] → W p l e room_1 s m #[Value.ref b] below meth c H locs 51 23562 (lw_Z below #[Value.ref b] s) (F0 m 1194 ls [])) (σ : fb_S) (hR : Rl σ) (H : Heap) (locs : List Loc) (ls : Array Slot) (h : fb_H g [0, 1, 2, 3, 4, 5, 6, 7, 8, 9, 10, 11, 12, 13, 14, 15, 16, 50, 17, 18, 19, 20, 21, 22, 23, 24, 25, 26, 27, 28, 29, 30, 31, 32, 33, 34, 35, 36, 37, 38, 39, 40, 41, 42, 43, 44, 45, 46, 47, 48, 49] (fun q : Nat => s.heap.size ≤ q) s.heap σ H locs) (hl : lv_has ls 4 [(3, .int (nI i)), (2, .ref (g.1 29)), (1, .ref (g.1 0)), (0, .ref b)]) : W p l e room_1 s m #[Value.ref b] below meth c H locs 51 23562 (lw_Z below #[Value.ref b] s) (F0 m 813 ls []) := by
  have hx := X.1.1
  have hb := X.1.2.1
  have hbA : ¬ (fun q : Nat => s.heap.size ≤ q) b := Nat.not_le.mpr hbl
  refine lv_aload_n hx hb dL_law_813 rfl (lv_at hl 2 rfl) ?_
  refine lv_aload_n hx hb dL_law_814 rfl (lv_at hl 3 rfl) ?_
  refine lv_iload_n hx hb dL_law_815 rfl (lv_at hl 0 rfl) ?_
  refine lv_iconst hx hb dL_law_816 ki_1 ?_
  refine lv_iadd hx hb dL_law_817 ?_
  refine va_sld hx hb hX hbl hbA h.2 (lw_in (j := 1) (by decide) hi hL) dL_law_818 ?_
  refine lv_aload_n hx hb dL_law_819 rfl (lv_at hl 3 rfl) ?_
  refine lv_iload_n hx hb dL_law_820 rfl (lv_at hl 0 rfl) ?_
  refine lv_iconst hx hb dL_law_821 ki_2 ?_
  refine lv_iadd hx hb dL_law_822 ?_
  refine va_sld hx hb hX hbl hbA h.2 (lw_in (j := 2) (by decide) hi hL) dL_law_823 ?_
  obtain ⟨r, σ1, σ2, h1, h2, hR2⟩ := st_day N hNN σ hR (xs (nI i + 1).toNatClampNeg) (xs (nI i + 2).toNatClampNeg)
  refine fb_ci X h (fb_runV (As := [.int (xs (nI i + 1).toNatClampNeg), .int (xs (nI i + 2).toNatClampNeg)]) (rest := []) (k := 0) X h (c_X5_day l X.2.2.1 (by decide) N (xs (nI i + 1).toNatClampNeg) (xs (nI i + 2).toNatClampNeg) σ h1) mf_yX5_day lm_RL_103 (by decide) rfl rfl ⟨Nat.le_of_ble_eq_true rfl, Nat.le_of_ble_eq_true rfl⟩ ⟨Nat.le_refl _, Nat.le_refl _⟩ rfl hl.1 rfl (Nat.le_of_ble_eq_true rfl) dL_law_824) (fun H locs h => ?_)
  refine lv_aload_n hx hb dL_law_827 rfl (lv_at hl 1 rfl) ?_
  refine lv_aload_n hx hb dL_law_828 rfl (lv_at hl 3 rfl) ?_
  refine lv_iload_n hx hb dL_law_829 rfl (lv_at hl 0 rfl) ?_
  refine lv_iconst hx hb dL_law_830 ki_1 ?_
  refine lv_iadd hx hb dL_law_831 ?_
  refine va_sld hx hb hX hbl hbA h.2 (lw_in (j := 1) (by decide) hi hL) dL_law_832 ?_
  refine lv_aload_n hx hb dL_law_833 rfl (lv_at hl 3 rfl) ?_
  refine lv_iload_n hx hb dL_law_834 rfl (lv_at hl 0 rfl) ?_
  refine lv_iconst hx hb dL_law_835 ki_2 ?_
  refine lv_iadd hx hb dL_law_836 ?_
  refine va_sld hx hb hX hbl hbA h.2 (lw_in (j := 2) (by decide) hi hL) dL_law_837 ?_
  refine fb_ci X h (fb_runV (As := [.int (xs (nI i + 1).toNatClampNeg), .int (xs (nI i + 2).toNatClampNeg)]) (rest := [.int r]) (k := 29) X h (c_X6_day l X.2.2.1 (by decide) N (xs (nI i + 1).toNatClampNeg) (xs (nI i + 2).toNatClampNeg) σ1 h2) mf_yX6_day lm_RL_106 (by decide) rfl rfl ⟨Nat.le_of_ble_eq_true rfl, Nat.le_of_ble_eq_true rfl⟩ ⟨Nat.le_refl _, Nat.le_refl _⟩ rfl hl.1 rfl (Nat.le_of_ble_eq_true rfl) dL_law_838) (fun H locs h => ?_)
  refine lv_icmp_eq hx hb dL_law_841 (tgt := 1194) (by decide) (fun _ => ?_) (fun h9 => absurd rfl h9)
  exact hnx _ _ _ _ hR2 h hl
set_option maxHeartbeats 8000000 in
set_option maxRecDepth 100000 in
theorem law_c22 (X : fb_X p m c code 4 s #[.ref b] RL g [0, 1, 2, 3, 4, 5, 6, 7, 8, 9, 10, 11, 12, 13, 14, 15, 16, 50, 17, 18, 19, 20, 21, 22, 23, 24, 25, 26, 27, 28, 29, 30, 31, 32, 33, 34, 35, 36, 37, 38, 39, 40, 41, 42, 43, 44, 45, 46, 47, 48, 49] (fun q : Nat => s.heap.size ≤ q)) (hX : va_X b L xs s s.heap) (hbl : b < s.heap.size) (hL : L ≤ 3072) (N : Nat) (hNN : 40000 ≤ N) {i : Nat} (hi : i + 6 ≤ L) (hnx : ∀ (σ : fb_S) (H : Heap) (locs : List Loc) (ls : Array Slot), Rl σ → fb_H g [0, 1, 2, 3, 4, 5, 6, 7, 8, 9, 10, 11, 12, 13, 14, 15, 16, 50, 17, 18, 19, 20, 21, 22, 23, 24, 25, 26, 27, 28, 29, 30, 31, 32, 33, 34, 35, 36, 37, 38, 39, 40, 41, 42, 43, 44, 45, 46, 47, 48, 49] (fun q : Nat => s.heap.size ≤ q) s.heap σ H locs → lv_has ls 4 [(3, .int (nI i)), (2, .ref (g.1 29)), (1, .ref (g.1 0)), (0, .ref b)] → W p l e room_1 s m #[Value.ref b] below meth c H locs 51 23562 (lw_Z below #[Value.ref b] s) (F0 m 1194 ls [])) (σ : fb_S) (hR : Rl σ) (H : Heap) (locs : List Loc) (ls : Array Slot) (h : fb_H g [0, 1, 2, 3, 4, 5, 6, 7, 8, 9, 10, 11, 12, 13, 14, 15, 16, 50, 17, 18, 19, 20, 21, 22, 23, 24, 25, 26, 27, 28, 29, 30, 31, 32, 33, 34, 35, 36, 37, 38, 39, 40, 41, 42, 43, 44, 45, 46, 47, 48, 49] (fun q : Nat => s.heap.size ≤ q) s.heap σ H locs) (hl : lv_has ls 4 [(3, .int (nI i)), (2, .ref (g.1 29)), (1, .ref (g.1 0)), (0, .ref b)]) : W p l e room_1 s m #[Value.ref b] below meth c H locs 51 23562 (lw_Z below #[Value.ref b] s) (F0 m 846 ls []) := by
  have hx := X.1.1
  have hb := X.1.2.1
  have hbA : ¬ (fun q : Nat => s.heap.size ≤ q) b := Nat.not_le.mpr hbl
  refine lv_aload_n hx hb dL_law_846 rfl (lv_at hl 2 rfl) ?_
  refine lv_aload_n hx hb dL_law_847 rfl (lv_at hl 3 rfl) ?_
  refine lv_iload_n hx hb dL_law_848 rfl (lv_at hl 0 rfl) ?_
  refine lv_iconst hx hb dL_law_849 ki_1 ?_
  refine lv_iadd hx hb dL_law_850 ?_
  refine va_sld hx hb hX hbl hbA h.2 (lw_in (j := 1) (by decide) hi hL) dL_law_851 ?_
  refine lv_aload_n hx hb dL_law_852 rfl (lv_at hl 3 rfl) ?_
  refine lv_iload_n hx hb dL_law_853 rfl (lv_at hl 0 rfl) ?_
  refine lv_iconst hx hb dL_law_854 ki_2 ?_
  refine lv_iadd hx hb dL_law_855 ?_
  refine va_sld hx hb hX hbl hbA h.2 (lw_in (j := 2) (by decide) hi hL) dL_law_856 ?_
  obtain ⟨r, σ1, σ2, h1, h2, hR2⟩ := st_on N hNN σ hR (xs (nI i + 1).toNatClampNeg) (xs (nI i + 2).toNatClampNeg)
  refine fb_ci X h (fb_runV (As := [.int (xs (nI i + 1).toNatClampNeg), .int (xs (nI i + 2).toNatClampNeg)]) (rest := []) (k := 0) X h (c_X5_on l X.2.2.1 (by decide) N (xs (nI i + 1).toNatClampNeg) (xs (nI i + 2).toNatClampNeg) σ h1) mf_yX5_on lm_RL_107 (by decide) rfl rfl ⟨Nat.le_of_ble_eq_true rfl, Nat.le_of_ble_eq_true rfl⟩ ⟨Nat.le_refl _, Nat.le_refl _⟩ rfl hl.1 rfl (Nat.le_of_ble_eq_true rfl) dL_law_857) (fun H locs h => ?_)
  refine lv_aload_n hx hb dL_law_860 rfl (lv_at hl 1 rfl) ?_
  refine lv_aload_n hx hb dL_law_861 rfl (lv_at hl 3 rfl) ?_
  refine lv_iload_n hx hb dL_law_862 rfl (lv_at hl 0 rfl) ?_
  refine lv_iconst hx hb dL_law_863 ki_1 ?_
  refine lv_iadd hx hb dL_law_864 ?_
  refine va_sld hx hb hX hbl hbA h.2 (lw_in (j := 1) (by decide) hi hL) dL_law_865 ?_
  refine lv_aload_n hx hb dL_law_866 rfl (lv_at hl 3 rfl) ?_
  refine lv_iload_n hx hb dL_law_867 rfl (lv_at hl 0 rfl) ?_
  refine lv_iconst hx hb dL_law_868 ki_2 ?_
  refine lv_iadd hx hb dL_law_869 ?_
  refine va_sld hx hb hX hbl hbA h.2 (lw_in (j := 2) (by decide) hi hL) dL_law_870 ?_
  refine fb_ci X h (fb_runV (As := [.int (xs (nI i + 1).toNatClampNeg), .int (xs (nI i + 2).toNatClampNeg)]) (rest := [.int r]) (k := 29) X h (c_X6_on l X.2.2.1 (by decide) N (xs (nI i + 1).toNatClampNeg) (xs (nI i + 2).toNatClampNeg) σ1 h2) mf_yX6_on lm_RL_110 (by decide) rfl rfl ⟨Nat.le_of_ble_eq_true rfl, Nat.le_of_ble_eq_true rfl⟩ ⟨Nat.le_refl _, Nat.le_refl _⟩ rfl hl.1 rfl (Nat.le_of_ble_eq_true rfl) dL_law_871) (fun H locs h => ?_)
  refine lv_icmp_eq hx hb dL_law_874 (tgt := 1194) (by decide) (fun _ => ?_) (fun h9 => absurd rfl h9)
  exact hnx _ _ _ _ hR2 h hl
set_option maxHeartbeats 8000000 in
set_option maxRecDepth 100000 in
theorem law_c23 (X : fb_X p m c code 4 s #[.ref b] RL g [0, 1, 2, 3, 4, 5, 6, 7, 8, 9, 10, 11, 12, 13, 14, 15, 16, 50, 17, 18, 19, 20, 21, 22, 23, 24, 25, 26, 27, 28, 29, 30, 31, 32, 33, 34, 35, 36, 37, 38, 39, 40, 41, 42, 43, 44, 45, 46, 47, 48, 49] (fun q : Nat => s.heap.size ≤ q)) (hX : va_X b L xs s s.heap) (hbl : b < s.heap.size) (hL : L ≤ 3072) (N : Nat) (hNN : 40000 ≤ N) {i : Nat} (hi : i + 6 ≤ L) (hnx : ∀ (σ : fb_S) (H : Heap) (locs : List Loc) (ls : Array Slot), Rl σ → fb_H g [0, 1, 2, 3, 4, 5, 6, 7, 8, 9, 10, 11, 12, 13, 14, 15, 16, 50, 17, 18, 19, 20, 21, 22, 23, 24, 25, 26, 27, 28, 29, 30, 31, 32, 33, 34, 35, 36, 37, 38, 39, 40, 41, 42, 43, 44, 45, 46, 47, 48, 49] (fun q : Nat => s.heap.size ≤ q) s.heap σ H locs → lv_has ls 4 [(3, .int (nI i)), (2, .ref (g.1 29)), (1, .ref (g.1 0)), (0, .ref b)] → W p l e room_1 s m #[Value.ref b] below meth c H locs 51 23562 (lw_Z below #[Value.ref b] s) (F0 m 1194 ls [])) (σ : fb_S) (hR : Rl σ) (H : Heap) (locs : List Loc) (ls : Array Slot) (h : fb_H g [0, 1, 2, 3, 4, 5, 6, 7, 8, 9, 10, 11, 12, 13, 14, 15, 16, 50, 17, 18, 19, 20, 21, 22, 23, 24, 25, 26, 27, 28, 29, 30, 31, 32, 33, 34, 35, 36, 37, 38, 39, 40, 41, 42, 43, 44, 45, 46, 47, 48, 49] (fun q : Nat => s.heap.size ≤ q) s.heap σ H locs) (hl : lv_has ls 4 [(3, .int (nI i)), (2, .ref (g.1 29)), (1, .ref (g.1 0)), (0, .ref b)]) : W p l e room_1 s m #[Value.ref b] below meth c H locs 51 23562 (lw_Z below #[Value.ref b] s) (F0 m 879 ls []) := by
  have hx := X.1.1
  have hb := X.1.2.1
  have hbA : ¬ (fun q : Nat => s.heap.size ≤ q) b := Nat.not_le.mpr hbl
  refine lv_aload_n hx hb dL_law_879 rfl (lv_at hl 2 rfl) ?_
  refine lv_aload_n hx hb dL_law_880 rfl (lv_at hl 3 rfl) ?_
  refine lv_iload_n hx hb dL_law_881 rfl (lv_at hl 0 rfl) ?_
  refine lv_iconst hx hb dL_law_882 ki_1 ?_
  refine lv_iadd hx hb dL_law_883 ?_
  refine va_sld hx hb hX hbl hbA h.2 (lw_in (j := 1) (by decide) hi hL) dL_law_884 ?_
  obtain ⟨r, σ1, σ2, h1, h2, hR2⟩ := st_bestMark N hNN σ hR (xs (nI i + 1).toNatClampNeg)
  refine fb_ci X h (fb_runV (As := [.int (xs (nI i + 1).toNatClampNeg)]) (rest := []) (k := 0) X h (c_X5_bestMark l X.2.2.1 (by decide) N (xs (nI i + 1).toNatClampNeg) σ h1) mf_yX5_bestMark lm_RL_111 (by decide) rfl rfl ⟨Nat.le_of_ble_eq_true rfl, Nat.le_of_ble_eq_true rfl⟩ ⟨Nat.le_refl _, Nat.le_refl _⟩ rfl hl.1 rfl (Nat.le_of_ble_eq_true rfl) dL_law_885) (fun H locs h => ?_)
  refine lv_aload_n hx hb dL_law_888 rfl (lv_at hl 1 rfl) ?_
  refine lv_aload_n hx hb dL_law_889 rfl (lv_at hl 3 rfl) ?_
  refine lv_iload_n hx hb dL_law_890 rfl (lv_at hl 0 rfl) ?_
  refine lv_iconst hx hb dL_law_891 ki_1 ?_
  refine lv_iadd hx hb dL_law_892 ?_
  refine va_sld hx hb hX hbl hbA h.2 (lw_in (j := 1) (by decide) hi hL) dL_law_893 ?_
  refine fb_ci X h (fb_runV (As := [.int (xs (nI i + 1).toNatClampNeg)]) (rest := [.int r]) (k := 29) X h (c_X6_bestMark l X.2.2.1 (by decide) N (xs (nI i + 1).toNatClampNeg) σ1 h2) mf_yX6_bestMark lm_RL_114 (by decide) rfl rfl ⟨Nat.le_of_ble_eq_true rfl, Nat.le_of_ble_eq_true rfl⟩ ⟨Nat.le_refl _, Nat.le_refl _⟩ rfl hl.1 rfl (Nat.le_of_ble_eq_true rfl) dL_law_894) (fun H locs h => ?_)
  refine lv_icmp_eq hx hb dL_law_897 (tgt := 1194) (by decide) (fun _ => ?_) (fun h9 => absurd rfl h9)
  exact hnx _ _ _ _ hR2 h hl
set_option maxHeartbeats 8000000 in
set_option maxRecDepth 100000 in
theorem law_c24 (X : fb_X p m c code 4 s #[.ref b] RL g [0, 1, 2, 3, 4, 5, 6, 7, 8, 9, 10, 11, 12, 13, 14, 15, 16, 50, 17, 18, 19, 20, 21, 22, 23, 24, 25, 26, 27, 28, 29, 30, 31, 32, 33, 34, 35, 36, 37, 38, 39, 40, 41, 42, 43, 44, 45, 46, 47, 48, 49] (fun q : Nat => s.heap.size ≤ q)) (hX : va_X b L xs s s.heap) (hbl : b < s.heap.size) (hL : L ≤ 3072) (N : Nat) (hNN : 40000 ≤ N) {i : Nat} (hi : i + 6 ≤ L) (hnx : ∀ (σ : fb_S) (H : Heap) (locs : List Loc) (ls : Array Slot), Rl σ → fb_H g [0, 1, 2, 3, 4, 5, 6, 7, 8, 9, 10, 11, 12, 13, 14, 15, 16, 50, 17, 18, 19, 20, 21, 22, 23, 24, 25, 26, 27, 28, 29, 30, 31, 32, 33, 34, 35, 36, 37, 38, 39, 40, 41, 42, 43, 44, 45, 46, 47, 48, 49] (fun q : Nat => s.heap.size ≤ q) s.heap σ H locs → lv_has ls 4 [(3, .int (nI i)), (2, .ref (g.1 29)), (1, .ref (g.1 0)), (0, .ref b)] → W p l e room_1 s m #[Value.ref b] below meth c H locs 51 23562 (lw_Z below #[Value.ref b] s) (F0 m 1194 ls [])) (σ : fb_S) (hR : Rl σ) (H : Heap) (locs : List Loc) (ls : Array Slot) (h : fb_H g [0, 1, 2, 3, 4, 5, 6, 7, 8, 9, 10, 11, 12, 13, 14, 15, 16, 50, 17, 18, 19, 20, 21, 22, 23, 24, 25, 26, 27, 28, 29, 30, 31, 32, 33, 34, 35, 36, 37, 38, 39, 40, 41, 42, 43, 44, 45, 46, 47, 48, 49] (fun q : Nat => s.heap.size ≤ q) s.heap σ H locs) (hl : lv_has ls 4 [(3, .int (nI i)), (2, .ref (g.1 29)), (1, .ref (g.1 0)), (0, .ref b)]) : W p l e room_1 s m #[Value.ref b] below meth c H locs 51 23562 (lw_Z below #[Value.ref b] s) (F0 m 902 ls []) := by
  have hx := X.1.1
  have hb := X.1.2.1
  have hbA : ¬ (fun q : Nat => s.heap.size ≤ q) b := Nat.not_le.mpr hbl
  refine lv_aload_n hx hb dL_law_902 rfl (lv_at hl 2 rfl) ?_
  refine lv_aload_n hx hb dL_law_903 rfl (lv_at hl 3 rfl) ?_
  refine lv_iload_n hx hb dL_law_904 rfl (lv_at hl 0 rfl) ?_
  refine lv_iconst hx hb dL_law_905 ki_1 ?_
  refine lv_iadd hx hb dL_law_906 ?_
  refine va_sld hx hb hX hbl hbA h.2 (lw_in (j := 1) (by decide) hi hL) dL_law_907 ?_
  refine lv_aload_n hx hb dL_law_908 rfl (lv_at hl 3 rfl) ?_
  refine lv_iload_n hx hb dL_law_909 rfl (lv_at hl 0 rfl) ?_
  refine lv_iconst hx hb dL_law_910 ki_2 ?_
  refine lv_iadd hx hb dL_law_911 ?_
  refine va_sld hx hb hX hbl hbA h.2 (lw_in (j := 2) (by decide) hi hL) dL_law_912 ?_
  refine lv_aload_n hx hb dL_law_913 rfl (lv_at hl 3 rfl) ?_
  refine lv_iload_n hx hb dL_law_914 rfl (lv_at hl 0 rfl) ?_
  refine lv_iconst hx hb dL_law_915 ki_3 ?_
  refine lv_iadd hx hb dL_law_916 ?_
  refine va_sld hx hb hX hbl hbA h.2 (lw_in (j := 3) (by decide) hi hL) dL_law_917 ?_
  refine lv_aload_n hx hb dL_law_918 rfl (lv_at hl 3 rfl) ?_
  refine lv_iload_n hx hb dL_law_919 rfl (lv_at hl 0 rfl) ?_
  refine lv_iconst hx hb dL_law_920 ki_4 ?_
  refine lv_iadd hx hb dL_law_921 ?_
  refine va_sld hx hb hX hbl hbA h.2 (lw_in (j := 4) (by decide) hi hL) dL_law_922 ?_
  refine lv_aload_n hx hb dL_law_923 rfl (lv_at hl 3 rfl) ?_
  refine lv_iload_n hx hb dL_law_924 rfl (lv_at hl 0 rfl) ?_
  refine lv_iconst hx hb dL_law_925 ki_5 ?_
  refine lv_iadd hx hb dL_law_926 ?_
  refine va_sld hx hb hX hbl hbA h.2 (lw_in (j := 5) (by decide) hi hL) dL_law_927 ?_
  obtain ⟨r, σ1, σ2, h1, h2, hR2⟩ := st_test N hNN σ hR (xs (nI i + 1).toNatClampNeg) (xs (nI i + 2).toNatClampNeg) (xs (nI i + 3).toNatClampNeg) (xs (nI i + 4).toNatClampNeg) (xs (nI i + 5).toNatClampNeg)
  refine fb_ci X h (fb_runV (As := [.int (xs (nI i + 1).toNatClampNeg), .int (xs (nI i + 2).toNatClampNeg), .int (xs (nI i + 3).toNatClampNeg), .int (xs (nI i + 4).toNatClampNeg), .int (xs (nI i + 5).toNatClampNeg)]) (rest := []) (k := 0) X h (c_X5_test l X.2.2.1 (by decide) N (xs (nI i + 1).toNatClampNeg) (xs (nI i + 2).toNatClampNeg) (xs (nI i + 3).toNatClampNeg) (xs (nI i + 4).toNatClampNeg) (xs (nI i + 5).toNatClampNeg) σ h1) mf_yX5_test lm_RL_115 (by decide) rfl rfl ⟨Nat.le_of_ble_eq_true rfl, Nat.le_of_ble_eq_true rfl⟩ ⟨Nat.le_refl _, Nat.le_refl _⟩ rfl hl.1 rfl (Nat.le_of_ble_eq_true rfl) dL_law_928) (fun H locs h => ?_)
  refine lv_aload_n hx hb dL_law_931 rfl (lv_at hl 1 rfl) ?_
  refine lv_aload_n hx hb dL_law_932 rfl (lv_at hl 3 rfl) ?_
  refine lv_iload_n hx hb dL_law_933 rfl (lv_at hl 0 rfl) ?_
  refine lv_iconst hx hb dL_law_934 ki_1 ?_
  refine lv_iadd hx hb dL_law_935 ?_
  refine va_sld hx hb hX hbl hbA h.2 (lw_in (j := 1) (by decide) hi hL) dL_law_936 ?_
  refine lv_aload_n hx hb dL_law_937 rfl (lv_at hl 3 rfl) ?_
  refine lv_iload_n hx hb dL_law_938 rfl (lv_at hl 0 rfl) ?_
  refine lv_iconst hx hb dL_law_939 ki_2 ?_
  refine lv_iadd hx hb dL_law_940 ?_
  refine va_sld hx hb hX hbl hbA h.2 (lw_in (j := 2) (by decide) hi hL) dL_law_941 ?_
  refine lv_aload_n hx hb dL_law_942 rfl (lv_at hl 3 rfl) ?_
  refine lv_iload_n hx hb dL_law_943 rfl (lv_at hl 0 rfl) ?_
  refine lv_iconst hx hb dL_law_944 ki_3 ?_
  refine lv_iadd hx hb dL_law_945 ?_
  refine va_sld hx hb hX hbl hbA h.2 (lw_in (j := 3) (by decide) hi hL) dL_law_946 ?_
  refine lv_aload_n hx hb dL_law_947 rfl (lv_at hl 3 rfl) ?_
  refine lv_iload_n hx hb dL_law_948 rfl (lv_at hl 0 rfl) ?_
  refine lv_iconst hx hb dL_law_949 ki_4 ?_
  refine lv_iadd hx hb dL_law_950 ?_
  refine va_sld hx hb hX hbl hbA h.2 (lw_in (j := 4) (by decide) hi hL) dL_law_951 ?_
  refine lv_aload_n hx hb dL_law_952 rfl (lv_at hl 3 rfl) ?_
  refine lv_iload_n hx hb dL_law_953 rfl (lv_at hl 0 rfl) ?_
  refine lv_iconst hx hb dL_law_954 ki_5 ?_
  refine lv_iadd hx hb dL_law_955 ?_
  refine va_sld hx hb hX hbl hbA h.2 (lw_in (j := 5) (by decide) hi hL) dL_law_956 ?_
  refine fb_ci X h (fb_runV (As := [.int (xs (nI i + 1).toNatClampNeg), .int (xs (nI i + 2).toNatClampNeg), .int (xs (nI i + 3).toNatClampNeg), .int (xs (nI i + 4).toNatClampNeg), .int (xs (nI i + 5).toNatClampNeg)]) (rest := [.int r]) (k := 29) X h (c_X6_test l X.2.2.1 (by decide) (xs (nI i + 1).toNatClampNeg) (xs (nI i + 2).toNatClampNeg) (xs (nI i + 3).toNatClampNeg) (xs (nI i + 4).toNatClampNeg) (xs (nI i + 5).toNatClampNeg) σ1 h2) mf_yX6_test lm_RL_119 (by decide) rfl rfl ⟨Nat.le_of_ble_eq_true rfl, Nat.le_of_ble_eq_true rfl⟩ ⟨Nat.le_refl _, Nat.le_refl _⟩ rfl hl.1 rfl (Nat.le_of_ble_eq_true rfl) dL_law_957) (fun H locs h => ?_)
  refine lv_icmp_eq hx hb dL_law_960 (tgt := 1194) (by decide) (fun _ => ?_) (fun h9 => absurd rfl h9)
  exact hnx _ _ _ _ hR2 h hl
set_option maxHeartbeats 8000000 in
set_option maxRecDepth 100000 in
theorem law_c25 (X : fb_X p m c code 4 s #[.ref b] RL g [0, 1, 2, 3, 4, 5, 6, 7, 8, 9, 10, 11, 12, 13, 14, 15, 16, 50, 17, 18, 19, 20, 21, 22, 23, 24, 25, 26, 27, 28, 29, 30, 31, 32, 33, 34, 35, 36, 37, 38, 39, 40, 41, 42, 43, 44, 45, 46, 47, 48, 49] (fun q : Nat => s.heap.size ≤ q)) (hX : va_X b L xs s s.heap) (hbl : b < s.heap.size) (hL : L ≤ 3072) (N : Nat) (hNN : 40000 ≤ N) {i : Nat} (hi : i + 6 ≤ L) (hnx : ∀ (σ : fb_S) (H : Heap) (locs : List Loc) (ls : Array Slot), Rl σ → fb_H g [0, 1, 2, 3, 4, 5, 6, 7, 8, 9, 10, 11, 12, 13, 14, 15, 16, 50, 17, 18, 19, 20, 21, 22, 23, 24, 25, 26, 27, 28, 29, 30, 31, 32, 33, 34, 35, 36, 37, 38, 39, 40, 41, 42, 43, 44, 45, 46, 47, 48, 49] (fun q : Nat => s.heap.size ≤ q) s.heap σ H locs → lv_has ls 4 [(3, .int (nI i)), (2, .ref (g.1 29)), (1, .ref (g.1 0)), (0, .ref b)] → W p l e room_1 s m #[Value.ref b] below meth c H locs 51 23562 (lw_Z below #[Value.ref b] s) (F0 m 1194 ls [])) (σ : fb_S) (hR : Rl σ) (H : Heap) (locs : List Loc) (ls : Array Slot) (h : fb_H g [0, 1, 2, 3, 4, 5, 6, 7, 8, 9, 10, 11, 12, 13, 14, 15, 16, 50, 17, 18, 19, 20, 21, 22, 23, 24, 25, 26, 27, 28, 29, 30, 31, 32, 33, 34, 35, 36, 37, 38, 39, 40, 41, 42, 43, 44, 45, 46, 47, 48, 49] (fun q : Nat => s.heap.size ≤ q) s.heap σ H locs) (hl : lv_has ls 4 [(3, .int (nI i)), (2, .ref (g.1 29)), (1, .ref (g.1 0)), (0, .ref b)]) : W p l e room_1 s m #[Value.ref b] below meth c H locs 51 23562 (lw_Z below #[Value.ref b] s) (F0 m 965 ls []) := by
  have hx := X.1.1
  have hb := X.1.2.1
  have hbA : ¬ (fun q : Nat => s.heap.size ≤ q) b := Nat.not_le.mpr hbl
  refine lv_aload_n hx hb dL_law_965 rfl (lv_at hl 2 rfl) ?_
  refine lv_aload_n hx hb dL_law_966 rfl (lv_at hl 3 rfl) ?_
  refine lv_iload_n hx hb dL_law_967 rfl (lv_at hl 0 rfl) ?_
  refine lv_iconst hx hb dL_law_968 ki_1 ?_
  refine lv_iadd hx hb dL_law_969 ?_
  refine va_sld hx hb hX hbl hbA h.2 (lw_in (j := 1) (by decide) hi hL) dL_law_970 ?_
  obtain ⟨r, σ1, σ2, h1, h2, hR2⟩ := st_forget N hNN σ hR (xs (nI i + 1).toNatClampNeg)
  refine fb_ci X h (fb_runV (As := [.int (xs (nI i + 1).toNatClampNeg)]) (rest := []) (k := 0) X h (c_X5_forget l X.2.2.1 (by decide) N (xs (nI i + 1).toNatClampNeg) σ h1) mf_yX5_forget lm_RL_120 (by decide) rfl rfl ⟨Nat.le_of_ble_eq_true rfl, Nat.le_of_ble_eq_true rfl⟩ ⟨Nat.le_refl _, Nat.le_refl _⟩ rfl hl.1 rfl (Nat.le_of_ble_eq_true rfl) dL_law_971) (fun H locs h => ?_)
  refine lv_aload_n hx hb dL_law_974 rfl (lv_at hl 1 rfl) ?_
  refine lv_aload_n hx hb dL_law_975 rfl (lv_at hl 3 rfl) ?_
  refine lv_iload_n hx hb dL_law_976 rfl (lv_at hl 0 rfl) ?_
  refine lv_iconst hx hb dL_law_977 ki_1 ?_
  refine lv_iadd hx hb dL_law_978 ?_
  refine va_sld hx hb hX hbl hbA h.2 (lw_in (j := 1) (by decide) hi hL) dL_law_979 ?_
  refine fb_ci X h (fb_runV (As := [.int (xs (nI i + 1).toNatClampNeg)]) (rest := [.int r]) (k := 29) X h (c_X6_forget l X.2.2.1 (by decide) N (xs (nI i + 1).toNatClampNeg) σ1 h2) mf_yX6_forget lm_RL_123 (by decide) rfl rfl ⟨Nat.le_of_ble_eq_true rfl, Nat.le_of_ble_eq_true rfl⟩ ⟨Nat.le_refl _, Nat.le_refl _⟩ rfl hl.1 rfl (Nat.le_of_ble_eq_true rfl) dL_law_980) (fun H locs h => ?_)
  refine lv_icmp_eq hx hb dL_law_983 (tgt := 1194) (by decide) (fun _ => ?_) (fun h9 => absurd rfl h9)
  exact hnx _ _ _ _ hR2 h hl
set_option maxHeartbeats 8000000 in
set_option maxRecDepth 100000 in
theorem law_c26 (X : fb_X p m c code 4 s #[.ref b] RL g [0, 1, 2, 3, 4, 5, 6, 7, 8, 9, 10, 11, 12, 13, 14, 15, 16, 50, 17, 18, 19, 20, 21, 22, 23, 24, 25, 26, 27, 28, 29, 30, 31, 32, 33, 34, 35, 36, 37, 38, 39, 40, 41, 42, 43, 44, 45, 46, 47, 48, 49] (fun q : Nat => s.heap.size ≤ q)) (hX : va_X b L xs s s.heap) (hbl : b < s.heap.size) (hL : L ≤ 3072) (N : Nat) (hNN : 40000 ≤ N) {i : Nat} (hi : i + 6 ≤ L) (hnx : ∀ (σ : fb_S) (H : Heap) (locs : List Loc) (ls : Array Slot), Rl σ → fb_H g [0, 1, 2, 3, 4, 5, 6, 7, 8, 9, 10, 11, 12, 13, 14, 15, 16, 50, 17, 18, 19, 20, 21, 22, 23, 24, 25, 26, 27, 28, 29, 30, 31, 32, 33, 34, 35, 36, 37, 38, 39, 40, 41, 42, 43, 44, 45, 46, 47, 48, 49] (fun q : Nat => s.heap.size ≤ q) s.heap σ H locs → lv_has ls 4 [(3, .int (nI i)), (2, .ref (g.1 29)), (1, .ref (g.1 0)), (0, .ref b)] → W p l e room_1 s m #[Value.ref b] below meth c H locs 51 23562 (lw_Z below #[Value.ref b] s) (F0 m 1194 ls [])) (σ : fb_S) (hR : Rl σ) (H : Heap) (locs : List Loc) (ls : Array Slot) (h : fb_H g [0, 1, 2, 3, 4, 5, 6, 7, 8, 9, 10, 11, 12, 13, 14, 15, 16, 50, 17, 18, 19, 20, 21, 22, 23, 24, 25, 26, 27, 28, 29, 30, 31, 32, 33, 34, 35, 36, 37, 38, 39, 40, 41, 42, 43, 44, 45, 46, 47, 48, 49] (fun q : Nat => s.heap.size ≤ q) s.heap σ H locs) (hl : lv_has ls 4 [(3, .int (nI i)), (2, .ref (g.1 29)), (1, .ref (g.1 0)), (0, .ref b)]) : W p l e room_1 s m #[Value.ref b] below meth c H locs 51 23562 (lw_Z below #[Value.ref b] s) (F0 m 988 ls []) := by
  have hx := X.1.1
  have hb := X.1.2.1
  have hbA : ¬ (fun q : Nat => s.heap.size ≤ q) b := Nat.not_le.mpr hbl
  refine lv_aload_n hx hb dL_law_988 rfl (lv_at hl 2 rfl) ?_
  obtain ⟨r, σ2, h1, h2, hR2⟩ := st_laws N hNN σ hR 
  refine fb_ci X h (fb_runV (As := []) (rest := []) (k := 0) X h (c_X5_laws l X.2.2.1 (by decide) σ h1) mf_yX5_laws lm_RL_124 (by decide) rfl rfl ⟨Nat.le_of_ble_eq_true rfl, Nat.le_of_ble_eq_true rfl⟩ ⟨Nat.le_refl _, Nat.le_refl _⟩ rfl hl.1 rfl (Nat.le_of_ble_eq_true rfl) dL_law_989) (fun H locs h => ?_)
  refine lv_aload_n hx hb dL_law_992 rfl (lv_at hl 1 rfl) ?_
  refine fb_ci X h (fb_runV (As := []) (rest := [.int r]) (k := 29) X h (c_X6_laws l X.2.2.1 (by decide) N σ h2) mf_yX6_laws lm_RL_127 (by decide) rfl rfl ⟨Nat.le_of_ble_eq_true rfl, Nat.le_of_ble_eq_true rfl⟩ ⟨Nat.le_refl _, Nat.le_refl _⟩ rfl hl.1 rfl (Nat.le_of_ble_eq_true rfl) dL_law_993) (fun H locs h => ?_)
  refine lv_icmp_eq hx hb dL_law_996 (tgt := 1194) (by decide) (fun _ => ?_) (fun h9 => absurd rfl h9)
  exact hnx _ _ _ _ hR2 h hl
set_option maxHeartbeats 8000000 in
set_option maxRecDepth 100000 in
theorem law_c27 (X : fb_X p m c code 4 s #[.ref b] RL g [0, 1, 2, 3, 4, 5, 6, 7, 8, 9, 10, 11, 12, 13, 14, 15, 16, 50, 17, 18, 19, 20, 21, 22, 23, 24, 25, 26, 27, 28, 29, 30, 31, 32, 33, 34, 35, 36, 37, 38, 39, 40, 41, 42, 43, 44, 45, 46, 47, 48, 49] (fun q : Nat => s.heap.size ≤ q)) (hX : va_X b L xs s s.heap) (hbl : b < s.heap.size) (hL : L ≤ 3072) (N : Nat) (hNN : 40000 ≤ N) {i : Nat} (hi : i + 6 ≤ L) (hnx : ∀ (σ : fb_S) (H : Heap) (locs : List Loc) (ls : Array Slot), Rl σ → fb_H g [0, 1, 2, 3, 4, 5, 6, 7, 8, 9, 10, 11, 12, 13, 14, 15, 16, 50, 17, 18, 19, 20, 21, 22, 23, 24, 25, 26, 27, 28, 29, 30, 31, 32, 33, 34, 35, 36, 37, 38, 39, 40, 41, 42, 43, 44, 45, 46, 47, 48, 49] (fun q : Nat => s.heap.size ≤ q) s.heap σ H locs → lv_has ls 4 [(3, .int (nI i)), (2, .ref (g.1 29)), (1, .ref (g.1 0)), (0, .ref b)] → W p l e room_1 s m #[Value.ref b] below meth c H locs 51 23562 (lw_Z below #[Value.ref b] s) (F0 m 1194 ls [])) (σ : fb_S) (hR : Rl σ) (H : Heap) (locs : List Loc) (ls : Array Slot) (h : fb_H g [0, 1, 2, 3, 4, 5, 6, 7, 8, 9, 10, 11, 12, 13, 14, 15, 16, 50, 17, 18, 19, 20, 21, 22, 23, 24, 25, 26, 27, 28, 29, 30, 31, 32, 33, 34, 35, 36, 37, 38, 39, 40, 41, 42, 43, 44, 45, 46, 47, 48, 49] (fun q : Nat => s.heap.size ≤ q) s.heap σ H locs) (hl : lv_has ls 4 [(3, .int (nI i)), (2, .ref (g.1 29)), (1, .ref (g.1 0)), (0, .ref b)]) : W p l e room_1 s m #[Value.ref b] below meth c H locs 51 23562 (lw_Z below #[Value.ref b] s) (F0 m 1001 ls []) := by
  have hx := X.1.1
  have hb := X.1.2.1
  have hbA : ¬ (fun q : Nat => s.heap.size ≤ q) b := Nat.not_le.mpr hbl
  refine lv_aload_n hx hb dL_law_1001 rfl (lv_at hl 2 rfl) ?_
  refine lv_aload_n hx hb dL_law_1002 rfl (lv_at hl 3 rfl) ?_
  refine lv_iload_n hx hb dL_law_1003 rfl (lv_at hl 0 rfl) ?_
  refine lv_iconst hx hb dL_law_1004 ki_1 ?_
  refine lv_iadd hx hb dL_law_1005 ?_
  refine va_sld hx hb hX hbl hbA h.2 (lw_in (j := 1) (by decide) hi hL) dL_law_1006 ?_
  obtain ⟨r, σ2, h1, h2, hR2⟩ := st_law N hNN σ hR (xs (nI i + 1).toNatClampNeg)
  refine fb_ci X h (fb_runV (As := [.int (xs (nI i + 1).toNatClampNeg)]) (rest := []) (k := 0) X h (c_X5_law l X.2.2.1 (by decide) N (xs (nI i + 1).toNatClampNeg) σ h1) mf_yX5_law lm_RL_128 (by decide) rfl rfl ⟨Nat.le_of_ble_eq_true rfl, Nat.le_of_ble_eq_true rfl⟩ ⟨Nat.le_refl _, Nat.le_refl _⟩ rfl hl.1 rfl (Nat.le_of_ble_eq_true rfl) dL_law_1007) (fun H locs h => ?_)
  refine lv_aload_n hx hb dL_law_1010 rfl (lv_at hl 1 rfl) ?_
  refine lv_aload_n hx hb dL_law_1011 rfl (lv_at hl 3 rfl) ?_
  refine lv_iload_n hx hb dL_law_1012 rfl (lv_at hl 0 rfl) ?_
  refine lv_iconst hx hb dL_law_1013 ki_1 ?_
  refine lv_iadd hx hb dL_law_1014 ?_
  refine va_sld hx hb hX hbl hbA h.2 (lw_in (j := 1) (by decide) hi hL) dL_law_1015 ?_
  refine fb_ci X h (fb_runV (As := [.int (xs (nI i + 1).toNatClampNeg)]) (rest := [.int r]) (k := 29) X h (c_X6_law l X.2.2.1 (by decide) N (xs (nI i + 1).toNatClampNeg) σ h2) mf_yX6_law lm_RL_131 (by decide) rfl rfl ⟨Nat.le_of_ble_eq_true rfl, Nat.le_of_ble_eq_true rfl⟩ ⟨Nat.le_refl _, Nat.le_refl _⟩ rfl hl.1 rfl (Nat.le_of_ble_eq_true rfl) dL_law_1016) (fun H locs h => ?_)
  refine lv_icmp_eq hx hb dL_law_1019 (tgt := 1194) (by decide) (fun _ => ?_) (fun h9 => absurd rfl h9)
  exact hnx _ _ _ _ hR2 h hl
set_option maxHeartbeats 8000000 in
set_option maxRecDepth 100000 in
theorem law_c28 (X : fb_X p m c code 4 s #[.ref b] RL g [0, 1, 2, 3, 4, 5, 6, 7, 8, 9, 10, 11, 12, 13, 14, 15, 16, 50, 17, 18, 19, 20, 21, 22, 23, 24, 25, 26, 27, 28, 29, 30, 31, 32, 33, 34, 35, 36, 37, 38, 39, 40, 41, 42, 43, 44, 45, 46, 47, 48, 49] (fun q : Nat => s.heap.size ≤ q)) (hX : va_X b L xs s s.heap) (hbl : b < s.heap.size) (hL : L ≤ 3072) (N : Nat) (hNN : 40000 ≤ N) {i : Nat} (hi : i + 6 ≤ L) (hnx : ∀ (σ : fb_S) (H : Heap) (locs : List Loc) (ls : Array Slot), Rl σ → fb_H g [0, 1, 2, 3, 4, 5, 6, 7, 8, 9, 10, 11, 12, 13, 14, 15, 16, 50, 17, 18, 19, 20, 21, 22, 23, 24, 25, 26, 27, 28, 29, 30, 31, 32, 33, 34, 35, 36, 37, 38, 39, 40, 41, 42, 43, 44, 45, 46, 47, 48, 49] (fun q : Nat => s.heap.size ≤ q) s.heap σ H locs → lv_has ls 4 [(3, .int (nI i)), (2, .ref (g.1 29)), (1, .ref (g.1 0)), (0, .ref b)] → W p l e room_1 s m #[Value.ref b] below meth c H locs 51 23562 (lw_Z below #[Value.ref b] s) (F0 m 1194 ls [])) (σ : fb_S) (hR : Rl σ) (H : Heap) (locs : List Loc) (ls : Array Slot) (h : fb_H g [0, 1, 2, 3, 4, 5, 6, 7, 8, 9, 10, 11, 12, 13, 14, 15, 16, 50, 17, 18, 19, 20, 21, 22, 23, 24, 25, 26, 27, 28, 29, 30, 31, 32, 33, 34, 35, 36, 37, 38, 39, 40, 41, 42, 43, 44, 45, 46, 47, 48, 49] (fun q : Nat => s.heap.size ≤ q) s.heap σ H locs) (hl : lv_has ls 4 [(3, .int (nI i)), (2, .ref (g.1 29)), (1, .ref (g.1 0)), (0, .ref b)]) : W p l e room_1 s m #[Value.ref b] below meth c H locs 51 23562 (lw_Z below #[Value.ref b] s) (F0 m 1024 ls []) := by
  have hx := X.1.1
  have hb := X.1.2.1
  have hbA : ¬ (fun q : Nat => s.heap.size ≤ q) b := Nat.not_le.mpr hbl
  refine lv_aload_n hx hb dL_law_1024 rfl (lv_at hl 2 rfl) ?_
  refine lv_aload_n hx hb dL_law_1025 rfl (lv_at hl 3 rfl) ?_
  refine lv_iload_n hx hb dL_law_1026 rfl (lv_at hl 0 rfl) ?_
  refine lv_iconst hx hb dL_law_1027 ki_1 ?_
  refine lv_iadd hx hb dL_law_1028 ?_
  refine va_sld hx hb hX hbl hbA h.2 (lw_in (j := 1) (by decide) hi hL) dL_law_1029 ?_
  refine lv_if_eq hx hb dL_law_1030 (tgt := 1037) (by decide) (fun hc1 => ?_) (fun hc1 => ?_)
  · refine lv_iconst hx hb dL_law_1037 ki_0 ?_
    refine lv_aload_n hx hb dL_law_1038 rfl (lv_at hl 3 rfl) ?_
    refine lv_iload_n hx hb dL_law_1039 rfl (lv_at hl 0 rfl) ?_
    refine lv_iconst hx hb dL_law_1040 ki_2 ?_
    refine lv_iadd hx hb dL_law_1041 ?_
    refine va_sld hx hb hX hbl hbA h.2 (lw_in (j := 2) (by decide) hi hL) dL_law_1042 ?_
    refine lv_if_eq hx hb dL_law_1043 (tgt := 1050) (by decide) (fun hc2 => ?_) (fun hc2 => ?_)
    · refine lv_iconst hx hb dL_law_1050 ki_0 ?_
      obtain ⟨r, σ2, h1, h2, hR2⟩ := st_among N hNN σ hR (0 : Int32) (0 : Int32) (by decide) (by decide)
      refine fb_ci X h (fb_runV (As := [.int (0 : Int32), .int (0 : Int32)]) (rest := []) (k := 0) X h (c_X5_among l X.2.2.1 (by decide) N (0 : Int32) (0 : Int32) σ h1) mf_yX5_among lm_RL_132 (by decide) rfl rfl ⟨Nat.le_of_ble_eq_true rfl, Nat.le_of_ble_eq_true rfl⟩ ⟨Nat.le_refl _, Nat.le_refl _⟩ rfl hl.1 rfl (Nat.le_of_ble_eq_true rfl) dL_law_1051) (fun H locs h => ?_)
      refine lv_aload_n hx hb dL_law_1054 rfl (lv_at hl 1 rfl) ?_
      refine lv_aload_n hx hb dL_law_1055 rfl (lv_at hl 3 rfl) ?_
      refine lv_iload_n hx hb dL_law_1056 rfl (lv_at hl 0 rfl) ?_
      refine lv_iconst hx hb dL_law_1057 ki_1 ?_
      refine lv_iadd hx hb dL_law_1058 ?_
      refine va_sld hx hb hX hbl hbA h.2 (lw_in (j := 1) (by decide) hi hL) dL_law_1059 ?_
      refine lv_if_eq hx hb dL_law_1060 (tgt := 1067) (by decide) (fun _ => ?_) (fun h9 => absurd hc1 h9)
      refine lv_iconst hx hb dL_law_1067 ki_0 ?_
      refine lv_aload_n hx hb dL_law_1068 rfl (lv_at hl 3 rfl) ?_
      refine lv_iload_n hx hb dL_law_1069 rfl (lv_at hl 0 rfl) ?_
      refine lv_iconst hx hb dL_law_1070 ki_2 ?_
      refine lv_iadd hx hb dL_law_1071 ?_
      refine va_sld hx hb hX hbl hbA h.2 (lw_in (j := 2) (by decide) hi hL) dL_law_1072 ?_
      refine lv_if_eq hx hb dL_law_1073 (tgt := 1080) (by decide) (fun _ => ?_) (fun h9 => absurd hc2 h9)
      refine lv_iconst hx hb dL_law_1080 ki_0 ?_
      refine fb_ci X h (fb_runV (As := [.int (0 : Int32), .int (0 : Int32)]) (rest := [.int r]) (k := 29) X h (c_X6_among l X.2.2.1 (by decide) N (0 : Int32) (0 : Int32) σ h2) mf_yX6_among lm_RL_136 (by decide) rfl rfl ⟨Nat.le_of_ble_eq_true rfl, Nat.le_of_ble_eq_true rfl⟩ ⟨Nat.le_refl _, Nat.le_refl _⟩ rfl hl.1 rfl (Nat.le_of_ble_eq_true rfl) dL_law_1081) (fun H locs h => ?_)
      refine lv_icmp_eq hx hb dL_law_1084 (tgt := 1194) (by decide) (fun _ => ?_) (fun h9 => absurd rfl h9)
      exact hnx _ _ _ _ hR2 h hl
    · refine lv_iconst hx hb dL_law_1046 ki_1 ?_
      refine lv_goto hx hb dL_law_1047 (tgt := 1051) (by decide) ?_
      obtain ⟨r, σ2, h1, h2, hR2⟩ := st_among N hNN σ hR (0 : Int32) (1 : Int32) (by decide) (by decide)
      refine fb_ci X h (fb_runV (As := [.int (0 : Int32), .int (1 : Int32)]) (rest := []) (k := 0) X h (c_X5_among l X.2.2.1 (by decide) N (0 : Int32) (1 : Int32) σ h1) mf_yX5_among lm_RL_132 (by decide) rfl rfl ⟨Nat.le_of_ble_eq_true rfl, Nat.le_of_ble_eq_true rfl⟩ ⟨Nat.le_refl _, Nat.le_refl _⟩ rfl hl.1 rfl (Nat.le_of_ble_eq_true rfl) dL_law_1051) (fun H locs h => ?_)
      refine lv_aload_n hx hb dL_law_1054 rfl (lv_at hl 1 rfl) ?_
      refine lv_aload_n hx hb dL_law_1055 rfl (lv_at hl 3 rfl) ?_
      refine lv_iload_n hx hb dL_law_1056 rfl (lv_at hl 0 rfl) ?_
      refine lv_iconst hx hb dL_law_1057 ki_1 ?_
      refine lv_iadd hx hb dL_law_1058 ?_
      refine va_sld hx hb hX hbl hbA h.2 (lw_in (j := 1) (by decide) hi hL) dL_law_1059 ?_
      refine lv_if_eq hx hb dL_law_1060 (tgt := 1067) (by decide) (fun _ => ?_) (fun h9 => absurd hc1 h9)
      refine lv_iconst hx hb dL_law_1067 ki_0 ?_
      refine lv_aload_n hx hb dL_law_1068 rfl (lv_at hl 3 rfl) ?_
      refine lv_iload_n hx hb dL_law_1069 rfl (lv_at hl 0 rfl) ?_
      refine lv_iconst hx hb dL_law_1070 ki_2 ?_
      refine lv_iadd hx hb dL_law_1071 ?_
      refine va_sld hx hb hX hbl hbA h.2 (lw_in (j := 2) (by decide) hi hL) dL_law_1072 ?_
      refine lv_if_eq hx hb dL_law_1073 (tgt := 1080) (by decide) (fun h9 => absurd h9 hc2) (fun _ => ?_)
      refine lv_iconst hx hb dL_law_1076 ki_1 ?_
      refine lv_goto hx hb dL_law_1077 (tgt := 1081) (by decide) ?_
      refine fb_ci X h (fb_runV (As := [.int (0 : Int32), .int (1 : Int32)]) (rest := [.int r]) (k := 29) X h (c_X6_among l X.2.2.1 (by decide) N (0 : Int32) (1 : Int32) σ h2) mf_yX6_among lm_RL_136 (by decide) rfl rfl ⟨Nat.le_of_ble_eq_true rfl, Nat.le_of_ble_eq_true rfl⟩ ⟨Nat.le_refl _, Nat.le_refl _⟩ rfl hl.1 rfl (Nat.le_of_ble_eq_true rfl) dL_law_1081) (fun H locs h => ?_)
      refine lv_icmp_eq hx hb dL_law_1084 (tgt := 1194) (by decide) (fun _ => ?_) (fun h9 => absurd rfl h9)
      exact hnx _ _ _ _ hR2 h hl
  · refine lv_iconst hx hb dL_law_1033 ki_1 ?_
    refine lv_goto hx hb dL_law_1034 (tgt := 1038) (by decide) ?_
    refine lv_aload_n hx hb dL_law_1038 rfl (lv_at hl 3 rfl) ?_
    refine lv_iload_n hx hb dL_law_1039 rfl (lv_at hl 0 rfl) ?_
    refine lv_iconst hx hb dL_law_1040 ki_2 ?_
    refine lv_iadd hx hb dL_law_1041 ?_
    refine va_sld hx hb hX hbl hbA h.2 (lw_in (j := 2) (by decide) hi hL) dL_law_1042 ?_
    refine lv_if_eq hx hb dL_law_1043 (tgt := 1050) (by decide) (fun hc2 => ?_) (fun hc2 => ?_)
    · refine lv_iconst hx hb dL_law_1050 ki_0 ?_
      obtain ⟨r, σ2, h1, h2, hR2⟩ := st_among N hNN σ hR (1 : Int32) (0 : Int32) (by decide) (by decide)
      refine fb_ci X h (fb_runV (As := [.int (1 : Int32), .int (0 : Int32)]) (rest := []) (k := 0) X h (c_X5_among l X.2.2.1 (by decide) N (1 : Int32) (0 : Int32) σ h1) mf_yX5_among lm_RL_132 (by decide) rfl rfl ⟨Nat.le_of_ble_eq_true rfl, Nat.le_of_ble_eq_true rfl⟩ ⟨Nat.le_refl _, Nat.le_refl _⟩ rfl hl.1 rfl (Nat.le_of_ble_eq_true rfl) dL_law_1051) (fun H locs h => ?_)
      refine lv_aload_n hx hb dL_law_1054 rfl (lv_at hl 1 rfl) ?_
      refine lv_aload_n hx hb dL_law_1055 rfl (lv_at hl 3 rfl) ?_
      refine lv_iload_n hx hb dL_law_1056 rfl (lv_at hl 0 rfl) ?_
      refine lv_iconst hx hb dL_law_1057 ki_1 ?_
      refine lv_iadd hx hb dL_law_1058 ?_
      refine va_sld hx hb hX hbl hbA h.2 (lw_in (j := 1) (by decide) hi hL) dL_law_1059 ?_
      refine lv_if_eq hx hb dL_law_1060 (tgt := 1067) (by decide) (fun h9 => absurd h9 hc1) (fun _ => ?_)
      refine lv_iconst hx hb dL_law_1063 ki_1 ?_
      refine lv_goto hx hb dL_law_1064 (tgt := 1068) (by decide) ?_
      refine lv_aload_n hx hb dL_law_1068 rfl (lv_at hl 3 rfl) ?_
      refine lv_iload_n hx hb dL_law_1069 rfl (lv_at hl 0 rfl) ?_
      refine lv_iconst hx hb dL_law_1070 ki_2 ?_
      refine lv_iadd hx hb dL_law_1071 ?_
      refine va_sld hx hb hX hbl hbA h.2 (lw_in (j := 2) (by decide) hi hL) dL_law_1072 ?_
      refine lv_if_eq hx hb dL_law_1073 (tgt := 1080) (by decide) (fun _ => ?_) (fun h9 => absurd hc2 h9)
      refine lv_iconst hx hb dL_law_1080 ki_0 ?_
      refine fb_ci X h (fb_runV (As := [.int (1 : Int32), .int (0 : Int32)]) (rest := [.int r]) (k := 29) X h (c_X6_among l X.2.2.1 (by decide) N (1 : Int32) (0 : Int32) σ h2) mf_yX6_among lm_RL_136 (by decide) rfl rfl ⟨Nat.le_of_ble_eq_true rfl, Nat.le_of_ble_eq_true rfl⟩ ⟨Nat.le_refl _, Nat.le_refl _⟩ rfl hl.1 rfl (Nat.le_of_ble_eq_true rfl) dL_law_1081) (fun H locs h => ?_)
      refine lv_icmp_eq hx hb dL_law_1084 (tgt := 1194) (by decide) (fun _ => ?_) (fun h9 => absurd rfl h9)
      exact hnx _ _ _ _ hR2 h hl
    · refine lv_iconst hx hb dL_law_1046 ki_1 ?_
      refine lv_goto hx hb dL_law_1047 (tgt := 1051) (by decide) ?_
      obtain ⟨r, σ2, h1, h2, hR2⟩ := st_among N hNN σ hR (1 : Int32) (1 : Int32) (by decide) (by decide)
      refine fb_ci X h (fb_runV (As := [.int (1 : Int32), .int (1 : Int32)]) (rest := []) (k := 0) X h (c_X5_among l X.2.2.1 (by decide) N (1 : Int32) (1 : Int32) σ h1) mf_yX5_among lm_RL_132 (by decide) rfl rfl ⟨Nat.le_of_ble_eq_true rfl, Nat.le_of_ble_eq_true rfl⟩ ⟨Nat.le_refl _, Nat.le_refl _⟩ rfl hl.1 rfl (Nat.le_of_ble_eq_true rfl) dL_law_1051) (fun H locs h => ?_)
      refine lv_aload_n hx hb dL_law_1054 rfl (lv_at hl 1 rfl) ?_
      refine lv_aload_n hx hb dL_law_1055 rfl (lv_at hl 3 rfl) ?_
      refine lv_iload_n hx hb dL_law_1056 rfl (lv_at hl 0 rfl) ?_
      refine lv_iconst hx hb dL_law_1057 ki_1 ?_
      refine lv_iadd hx hb dL_law_1058 ?_
      refine va_sld hx hb hX hbl hbA h.2 (lw_in (j := 1) (by decide) hi hL) dL_law_1059 ?_
      refine lv_if_eq hx hb dL_law_1060 (tgt := 1067) (by decide) (fun h9 => absurd h9 hc1) (fun _ => ?_)
      refine lv_iconst hx hb dL_law_1063 ki_1 ?_
      refine lv_goto hx hb dL_law_1064 (tgt := 1068) (by decide) ?_
      refine lv_aload_n hx hb dL_law_1068 rfl (lv_at hl 3 rfl) ?_
      refine lv_iload_n hx hb dL_law_1069 rfl (lv_at hl 0 rfl) ?_
      refine lv_iconst hx hb dL_law_1070 ki_2 ?_
      refine lv_iadd hx hb dL_law_1071 ?_
      refine va_sld hx hb hX hbl hbA h.2 (lw_in (j := 2) (by decide) hi hL) dL_law_1072 ?_
      refine lv_if_eq hx hb dL_law_1073 (tgt := 1080) (by decide) (fun h9 => absurd h9 hc2) (fun _ => ?_)
      refine lv_iconst hx hb dL_law_1076 ki_1 ?_
      refine lv_goto hx hb dL_law_1077 (tgt := 1081) (by decide) ?_
      refine fb_ci X h (fb_runV (As := [.int (1 : Int32), .int (1 : Int32)]) (rest := [.int r]) (k := 29) X h (c_X6_among l X.2.2.1 (by decide) N (1 : Int32) (1 : Int32) σ h2) mf_yX6_among lm_RL_136 (by decide) rfl rfl ⟨Nat.le_of_ble_eq_true rfl, Nat.le_of_ble_eq_true rfl⟩ ⟨Nat.le_refl _, Nat.le_refl _⟩ rfl hl.1 rfl (Nat.le_of_ble_eq_true rfl) dL_law_1081) (fun H locs h => ?_)
      refine lv_icmp_eq hx hb dL_law_1084 (tgt := 1194) (by decide) (fun _ => ?_) (fun h9 => absurd rfl h9)
      exact hnx _ _ _ _ hR2 h hl
set_option maxHeartbeats 8000000 in
set_option maxRecDepth 100000 in
theorem law_c29 (X : fb_X p m c code 4 s #[.ref b] RL g [0, 1, 2, 3, 4, 5, 6, 7, 8, 9, 10, 11, 12, 13, 14, 15, 16, 50, 17, 18, 19, 20, 21, 22, 23, 24, 25, 26, 27, 28, 29, 30, 31, 32, 33, 34, 35, 36, 37, 38, 39, 40, 41, 42, 43, 44, 45, 46, 47, 48, 49] (fun q : Nat => s.heap.size ≤ q)) (hX : va_X b L xs s s.heap) (hbl : b < s.heap.size) (hL : L ≤ 3072) (N : Nat) (hNN : 40000 ≤ N) {i : Nat} (hi : i + 6 ≤ L) (hnx : ∀ (σ : fb_S) (H : Heap) (locs : List Loc) (ls : Array Slot), Rl σ → fb_H g [0, 1, 2, 3, 4, 5, 6, 7, 8, 9, 10, 11, 12, 13, 14, 15, 16, 50, 17, 18, 19, 20, 21, 22, 23, 24, 25, 26, 27, 28, 29, 30, 31, 32, 33, 34, 35, 36, 37, 38, 39, 40, 41, 42, 43, 44, 45, 46, 47, 48, 49] (fun q : Nat => s.heap.size ≤ q) s.heap σ H locs → lv_has ls 4 [(3, .int (nI i)), (2, .ref (g.1 29)), (1, .ref (g.1 0)), (0, .ref b)] → W p l e room_1 s m #[Value.ref b] below meth c H locs 51 23562 (lw_Z below #[Value.ref b] s) (F0 m 1194 ls [])) (σ : fb_S) (hR : Rl σ) (H : Heap) (locs : List Loc) (ls : Array Slot) (h : fb_H g [0, 1, 2, 3, 4, 5, 6, 7, 8, 9, 10, 11, 12, 13, 14, 15, 16, 50, 17, 18, 19, 20, 21, 22, 23, 24, 25, 26, 27, 28, 29, 30, 31, 32, 33, 34, 35, 36, 37, 38, 39, 40, 41, 42, 43, 44, 45, 46, 47, 48, 49] (fun q : Nat => s.heap.size ≤ q) s.heap σ H locs) (hl : lv_has ls 4 [(3, .int (nI i)), (2, .ref (g.1 29)), (1, .ref (g.1 0)), (0, .ref b)]) : W p l e room_1 s m #[Value.ref b] below meth c H locs 51 23562 (lw_Z below #[Value.ref b] s) (F0 m 1089 ls []) := by
  have hx := X.1.1
  have hb := X.1.2.1
  have hbA : ¬ (fun q : Nat => s.heap.size ≤ q) b := Nat.not_le.mpr hbl
  refine lv_aload_n hx hb dL_law_1089 rfl (lv_at hl 2 rfl) ?_
  refine lv_aload_n hx hb dL_law_1090 rfl (lv_at hl 3 rfl) ?_
  refine lv_iload_n hx hb dL_law_1091 rfl (lv_at hl 0 rfl) ?_
  refine lv_iconst hx hb dL_law_1092 ki_1 ?_
  refine lv_iadd hx hb dL_law_1093 ?_
  refine va_sld hx hb hX hbl hbA h.2 (lw_in (j := 1) (by decide) hi hL) dL_law_1094 ?_
  obtain ⟨r, σ2, h1, h2, hR2⟩ := st_breaks N hNN σ hR (xs (nI i + 1).toNatClampNeg)
  refine fb_ci X h (fb_runV (As := [.int (xs (nI i + 1).toNatClampNeg)]) (rest := []) (k := 0) X h (c_X5_breaks l X.2.2.1 (by decide) N (xs (nI i + 1).toNatClampNeg) σ h1) mf_yX5_breaks lm_RL_137 (by decide) rfl rfl ⟨Nat.le_of_ble_eq_true rfl, Nat.le_of_ble_eq_true rfl⟩ ⟨Nat.le_refl _, Nat.le_refl _⟩ rfl hl.1 rfl (Nat.le_of_ble_eq_true rfl) dL_law_1095) (fun H locs h => ?_)
  refine lv_aload_n hx hb dL_law_1098 rfl (lv_at hl 1 rfl) ?_
  refine lv_aload_n hx hb dL_law_1099 rfl (lv_at hl 3 rfl) ?_
  refine lv_iload_n hx hb dL_law_1100 rfl (lv_at hl 0 rfl) ?_
  refine lv_iconst hx hb dL_law_1101 ki_1 ?_
  refine lv_iadd hx hb dL_law_1102 ?_
  refine va_sld hx hb hX hbl hbA h.2 (lw_in (j := 1) (by decide) hi hL) dL_law_1103 ?_
  refine fb_ci X h (fb_runV (As := [.int (xs (nI i + 1).toNatClampNeg)]) (rest := [.int r]) (k := 29) X h (c_X6_breaks l X.2.2.1 (by decide) N (xs (nI i + 1).toNatClampNeg) σ h2) mf_yX6_breaks lm_RL_140 (by decide) rfl rfl ⟨Nat.le_of_ble_eq_true rfl, Nat.le_of_ble_eq_true rfl⟩ ⟨Nat.le_refl _, Nat.le_refl _⟩ rfl hl.1 rfl (Nat.le_of_ble_eq_true rfl) dL_law_1104) (fun H locs h => ?_)
  refine lv_icmp_eq hx hb dL_law_1107 (tgt := 1194) (by decide) (fun _ => ?_) (fun h9 => absurd rfl h9)
  exact hnx _ _ _ _ hR2 h hl
set_option maxHeartbeats 8000000 in
set_option maxRecDepth 100000 in
theorem law_c30 (X : fb_X p m c code 4 s #[.ref b] RL g [0, 1, 2, 3, 4, 5, 6, 7, 8, 9, 10, 11, 12, 13, 14, 15, 16, 50, 17, 18, 19, 20, 21, 22, 23, 24, 25, 26, 27, 28, 29, 30, 31, 32, 33, 34, 35, 36, 37, 38, 39, 40, 41, 42, 43, 44, 45, 46, 47, 48, 49] (fun q : Nat => s.heap.size ≤ q)) (hX : va_X b L xs s s.heap) (hbl : b < s.heap.size) (hL : L ≤ 3072) (N : Nat) (hNN : 40000 ≤ N) {i : Nat} (hi : i + 6 ≤ L) (hnx : ∀ (σ : fb_S) (H : Heap) (locs : List Loc) (ls : Array Slot), Rl σ → fb_H g [0, 1, 2, 3, 4, 5, 6, 7, 8, 9, 10, 11, 12, 13, 14, 15, 16, 50, 17, 18, 19, 20, 21, 22, 23, 24, 25, 26, 27, 28, 29, 30, 31, 32, 33, 34, 35, 36, 37, 38, 39, 40, 41, 42, 43, 44, 45, 46, 47, 48, 49] (fun q : Nat => s.heap.size ≤ q) s.heap σ H locs → lv_has ls 4 [(3, .int (nI i)), (2, .ref (g.1 29)), (1, .ref (g.1 0)), (0, .ref b)] → W p l e room_1 s m #[Value.ref b] below meth c H locs 51 23562 (lw_Z below #[Value.ref b] s) (F0 m 1194 ls [])) (σ : fb_S) (hR : Rl σ) (H : Heap) (locs : List Loc) (ls : Array Slot) (h : fb_H g [0, 1, 2, 3, 4, 5, 6, 7, 8, 9, 10, 11, 12, 13, 14, 15, 16, 50, 17, 18, 19, 20, 21, 22, 23, 24, 25, 26, 27, 28, 29, 30, 31, 32, 33, 34, 35, 36, 37, 38, 39, 40, 41, 42, 43, 44, 45, 46, 47, 48, 49] (fun q : Nat => s.heap.size ≤ q) s.heap σ H locs) (hl : lv_has ls 4 [(3, .int (nI i)), (2, .ref (g.1 29)), (1, .ref (g.1 0)), (0, .ref b)]) : W p l e room_1 s m #[Value.ref b] below meth c H locs 51 23562 (lw_Z below #[Value.ref b] s) (F0 m 1112 ls []) := by
  have hx := X.1.1
  have hb := X.1.2.1
  have hbA : ¬ (fun q : Nat => s.heap.size ≤ q) b := Nat.not_le.mpr hbl
  refine lv_aload_n hx hb dL_law_1112 rfl (lv_at hl 2 rfl) ?_
  refine lv_aload_n hx hb dL_law_1113 rfl (lv_at hl 3 rfl) ?_
  refine lv_iload_n hx hb dL_law_1114 rfl (lv_at hl 0 rfl) ?_
  refine lv_iconst hx hb dL_law_1115 ki_1 ?_
  refine lv_iadd hx hb dL_law_1116 ?_
  refine va_sld hx hb hX hbl hbA h.2 (lw_in (j := 1) (by decide) hi hL) dL_law_1117 ?_
  obtain ⟨r, σ2, h1, h2, hR2⟩ := st_sure N hNN σ hR (xs (nI i + 1).toNatClampNeg)
  refine fb_ci X h (fb_runV (As := [.int (xs (nI i + 1).toNatClampNeg)]) (rest := []) (k := 0) X h (c_X5_sure l X.2.2.1 (by decide) N (xs (nI i + 1).toNatClampNeg) σ h1) mf_yX5_sure lm_RL_141 (by decide) rfl rfl ⟨Nat.le_of_ble_eq_true rfl, Nat.le_of_ble_eq_true rfl⟩ ⟨Nat.le_refl _, Nat.le_refl _⟩ rfl hl.1 rfl (Nat.le_of_ble_eq_true rfl) dL_law_1118) (fun H locs h => ?_)
  refine lv_aload_n hx hb dL_law_1121 rfl (lv_at hl 1 rfl) ?_
  refine lv_aload_n hx hb dL_law_1122 rfl (lv_at hl 3 rfl) ?_
  refine lv_iload_n hx hb dL_law_1123 rfl (lv_at hl 0 rfl) ?_
  refine lv_iconst hx hb dL_law_1124 ki_1 ?_
  refine lv_iadd hx hb dL_law_1125 ?_
  refine va_sld hx hb hX hbl hbA h.2 (lw_in (j := 1) (by decide) hi hL) dL_law_1126 ?_
  refine fb_ci X h (fb_runV (As := [.int (xs (nI i + 1).toNatClampNeg)]) (rest := [.int r]) (k := 29) X h (c_X6_sure l X.2.2.1 (by decide) N (xs (nI i + 1).toNatClampNeg) σ h2) mf_yX6_sure lm_RL_144 (by decide) rfl rfl ⟨Nat.le_of_ble_eq_true rfl, Nat.le_of_ble_eq_true rfl⟩ ⟨Nat.le_refl _, Nat.le_refl _⟩ rfl hl.1 rfl (Nat.le_of_ble_eq_true rfl) dL_law_1127) (fun H locs h => ?_)
  refine lv_icmp_eq hx hb dL_law_1130 (tgt := 1194) (by decide) (fun _ => ?_) (fun h9 => absurd rfl h9)
  exact hnx _ _ _ _ hR2 h hl
set_option maxHeartbeats 8000000 in
set_option maxRecDepth 100000 in
theorem law_c31 (X : fb_X p m c code 4 s #[.ref b] RL g [0, 1, 2, 3, 4, 5, 6, 7, 8, 9, 10, 11, 12, 13, 14, 15, 16, 50, 17, 18, 19, 20, 21, 22, 23, 24, 25, 26, 27, 28, 29, 30, 31, 32, 33, 34, 35, 36, 37, 38, 39, 40, 41, 42, 43, 44, 45, 46, 47, 48, 49] (fun q : Nat => s.heap.size ≤ q)) (hX : va_X b L xs s s.heap) (hbl : b < s.heap.size) (hL : L ≤ 3072) (N : Nat) (hNN : 40000 ≤ N) {i : Nat} (hi : i + 6 ≤ L) (hnx : ∀ (σ : fb_S) (H : Heap) (locs : List Loc) (ls : Array Slot), Rl σ → fb_H g [0, 1, 2, 3, 4, 5, 6, 7, 8, 9, 10, 11, 12, 13, 14, 15, 16, 50, 17, 18, 19, 20, 21, 22, 23, 24, 25, 26, 27, 28, 29, 30, 31, 32, 33, 34, 35, 36, 37, 38, 39, 40, 41, 42, 43, 44, 45, 46, 47, 48, 49] (fun q : Nat => s.heap.size ≤ q) s.heap σ H locs → lv_has ls 4 [(3, .int (nI i)), (2, .ref (g.1 29)), (1, .ref (g.1 0)), (0, .ref b)] → W p l e room_1 s m #[Value.ref b] below meth c H locs 51 23562 (lw_Z below #[Value.ref b] s) (F0 m 1194 ls [])) (σ : fb_S) (hR : Rl σ) (H : Heap) (locs : List Loc) (ls : Array Slot) (h : fb_H g [0, 1, 2, 3, 4, 5, 6, 7, 8, 9, 10, 11, 12, 13, 14, 15, 16, 50, 17, 18, 19, 20, 21, 22, 23, 24, 25, 26, 27, 28, 29, 30, 31, 32, 33, 34, 35, 36, 37, 38, 39, 40, 41, 42, 43, 44, 45, 46, 47, 48, 49] (fun q : Nat => s.heap.size ≤ q) s.heap σ H locs) (hl : lv_has ls 4 [(3, .int (nI i)), (2, .ref (g.1 29)), (1, .ref (g.1 0)), (0, .ref b)]) : W p l e room_1 s m #[Value.ref b] below meth c H locs 51 23562 (lw_Z below #[Value.ref b] s) (F0 m 1135 ls []) := by
  have hx := X.1.1
  have hb := X.1.2.1
  have hbA : ¬ (fun q : Nat => s.heap.size ≤ q) b := Nat.not_le.mpr hbl
  refine lv_aload_n hx hb dL_law_1135 rfl (lv_at hl 2 rfl) ?_
  obtain ⟨r, σ2, h1, h2, hR2⟩ := st_safe N hNN σ hR 
  refine fb_ci X h (fb_runV (As := []) (rest := []) (k := 0) X h (c_X5_safe l X.2.2.1 (by decide) N σ h1) mf_yX5_safe lm_RL_145 (by decide) rfl rfl ⟨Nat.le_of_ble_eq_true rfl, Nat.le_of_ble_eq_true rfl⟩ ⟨Nat.le_refl _, Nat.le_refl _⟩ rfl hl.1 rfl (Nat.le_of_ble_eq_true rfl) dL_law_1136) (fun H locs h => ?_)
  refine lv_aload_n hx hb dL_law_1139 rfl (lv_at hl 1 rfl) ?_
  refine fb_ci X h (fb_runV (As := []) (rest := [.int r]) (k := 29) X h (c_X6_safe l X.2.2.1 (by decide) N σ h2) mf_yX6_safe lm_RL_148 (by decide) rfl rfl ⟨Nat.le_of_ble_eq_true rfl, Nat.le_of_ble_eq_true rfl⟩ ⟨Nat.le_refl _, Nat.le_refl _⟩ rfl hl.1 rfl (Nat.le_of_ble_eq_true rfl) dL_law_1140) (fun H locs h => ?_)
  refine lv_icmp_eq hx hb dL_law_1143 (tgt := 1194) (by decide) (fun _ => ?_) (fun h9 => absurd rfl h9)
  exact hnx _ _ _ _ hR2 h hl
set_option maxHeartbeats 8000000 in
set_option maxRecDepth 100000 in
theorem law_c32 (X : fb_X p m c code 4 s #[.ref b] RL g [0, 1, 2, 3, 4, 5, 6, 7, 8, 9, 10, 11, 12, 13, 14, 15, 16, 50, 17, 18, 19, 20, 21, 22, 23, 24, 25, 26, 27, 28, 29, 30, 31, 32, 33, 34, 35, 36, 37, 38, 39, 40, 41, 42, 43, 44, 45, 46, 47, 48, 49] (fun q : Nat => s.heap.size ≤ q)) (hX : va_X b L xs s s.heap) (hbl : b < s.heap.size) (hL : L ≤ 3072) (N : Nat) (hNN : 40000 ≤ N) {i : Nat} (hi : i + 6 ≤ L) (hnx : ∀ (σ : fb_S) (H : Heap) (locs : List Loc) (ls : Array Slot), Rl σ → fb_H g [0, 1, 2, 3, 4, 5, 6, 7, 8, 9, 10, 11, 12, 13, 14, 15, 16, 50, 17, 18, 19, 20, 21, 22, 23, 24, 25, 26, 27, 28, 29, 30, 31, 32, 33, 34, 35, 36, 37, 38, 39, 40, 41, 42, 43, 44, 45, 46, 47, 48, 49] (fun q : Nat => s.heap.size ≤ q) s.heap σ H locs → lv_has ls 4 [(3, .int (nI i)), (2, .ref (g.1 29)), (1, .ref (g.1 0)), (0, .ref b)] → W p l e room_1 s m #[Value.ref b] below meth c H locs 51 23562 (lw_Z below #[Value.ref b] s) (F0 m 1194 ls [])) (σ : fb_S) (hR : Rl σ) (H : Heap) (locs : List Loc) (ls : Array Slot) (h : fb_H g [0, 1, 2, 3, 4, 5, 6, 7, 8, 9, 10, 11, 12, 13, 14, 15, 16, 50, 17, 18, 19, 20, 21, 22, 23, 24, 25, 26, 27, 28, 29, 30, 31, 32, 33, 34, 35, 36, 37, 38, 39, 40, 41, 42, 43, 44, 45, 46, 47, 48, 49] (fun q : Nat => s.heap.size ≤ q) s.heap σ H locs) (hl : lv_has ls 4 [(3, .int (nI i)), (2, .ref (g.1 29)), (1, .ref (g.1 0)), (0, .ref b)]) : W p l e room_1 s m #[Value.ref b] below meth c H locs 51 23562 (lw_Z below #[Value.ref b] s) (F0 m 1148 ls []) := by
  have hx := X.1.1
  have hb := X.1.2.1
  have hbA : ¬ (fun q : Nat => s.heap.size ≤ q) b := Nat.not_le.mpr hbl
  refine lv_aload_n hx hb dL_law_1148 rfl (lv_at hl 2 rfl) ?_
  refine lv_aload_n hx hb dL_law_1149 rfl (lv_at hl 3 rfl) ?_
  refine lv_iload_n hx hb dL_law_1150 rfl (lv_at hl 0 rfl) ?_
  refine lv_iconst hx hb dL_law_1151 ki_1 ?_
  refine lv_iadd hx hb dL_law_1152 ?_
  refine va_sld hx hb hX hbl hbA h.2 (lw_in (j := 1) (by decide) hi hL) dL_law_1153 ?_
  obtain ⟨r, σ1, σ2, h1, h2, hR2⟩ := st_next N hNN σ hR (xs (nI i + 1).toNatClampNeg)
  refine fb_ci X h (fb_runV (As := [.int (xs (nI i + 1).toNatClampNeg)]) (rest := []) (k := 0) X h (c_X5_next l X.2.2.1 (by decide) N (xs (nI i + 1).toNatClampNeg) σ h1) mf_yX5_next lm_RL_149 (by decide) rfl rfl ⟨Nat.le_of_ble_eq_true rfl, Nat.le_of_ble_eq_true rfl⟩ ⟨Nat.le_refl _, Nat.le_refl _⟩ rfl hl.1 rfl (Nat.le_of_ble_eq_true rfl) dL_law_1154) (fun H locs h => ?_)
  refine lv_aload_n hx hb dL_law_1157 rfl (lv_at hl 1 rfl) ?_
  refine lv_aload_n hx hb dL_law_1158 rfl (lv_at hl 3 rfl) ?_
  refine lv_iload_n hx hb dL_law_1159 rfl (lv_at hl 0 rfl) ?_
  refine lv_iconst hx hb dL_law_1160 ki_1 ?_
  refine lv_iadd hx hb dL_law_1161 ?_
  refine va_sld hx hb hX hbl hbA h.2 (lw_in (j := 1) (by decide) hi hL) dL_law_1162 ?_
  refine fb_ci X h (fb_runV (As := [.int (xs (nI i + 1).toNatClampNeg)]) (rest := [.int r]) (k := 29) X h (c_X6_next l X.2.2.1 (by decide) N (xs (nI i + 1).toNatClampNeg) σ1 h2) mf_yX6_next lm_RL_152 (by decide) rfl rfl ⟨Nat.le_of_ble_eq_true rfl, Nat.le_of_ble_eq_true rfl⟩ ⟨Nat.le_refl _, Nat.le_refl _⟩ rfl hl.1 rfl (Nat.le_of_ble_eq_true rfl) dL_law_1163) (fun H locs h => ?_)
  refine lv_icmp_eq hx hb dL_law_1166 (tgt := 1194) (by decide) (fun _ => ?_) (fun h9 => absurd rfl h9)
  exact hnx _ _ _ _ hR2 h hl
set_option maxHeartbeats 8000000 in
set_option maxRecDepth 100000 in
theorem law_c33 (X : fb_X p m c code 4 s #[.ref b] RL g [0, 1, 2, 3, 4, 5, 6, 7, 8, 9, 10, 11, 12, 13, 14, 15, 16, 50, 17, 18, 19, 20, 21, 22, 23, 24, 25, 26, 27, 28, 29, 30, 31, 32, 33, 34, 35, 36, 37, 38, 39, 40, 41, 42, 43, 44, 45, 46, 47, 48, 49] (fun q : Nat => s.heap.size ≤ q)) (hX : va_X b L xs s s.heap) (hbl : b < s.heap.size) (hL : L ≤ 3072) (N : Nat) (hNN : 40000 ≤ N) {i : Nat} (hi : i + 6 ≤ L) (hnx : ∀ (σ : fb_S) (H : Heap) (locs : List Loc) (ls : Array Slot), Rl σ → fb_H g [0, 1, 2, 3, 4, 5, 6, 7, 8, 9, 10, 11, 12, 13, 14, 15, 16, 50, 17, 18, 19, 20, 21, 22, 23, 24, 25, 26, 27, 28, 29, 30, 31, 32, 33, 34, 35, 36, 37, 38, 39, 40, 41, 42, 43, 44, 45, 46, 47, 48, 49] (fun q : Nat => s.heap.size ≤ q) s.heap σ H locs → lv_has ls 4 [(3, .int (nI i)), (2, .ref (g.1 29)), (1, .ref (g.1 0)), (0, .ref b)] → W p l e room_1 s m #[Value.ref b] below meth c H locs 51 23562 (lw_Z below #[Value.ref b] s) (F0 m 1194 ls [])) (σ : fb_S) (hR : Rl σ) (H : Heap) (locs : List Loc) (ls : Array Slot) (h : fb_H g [0, 1, 2, 3, 4, 5, 6, 7, 8, 9, 10, 11, 12, 13, 14, 15, 16, 50, 17, 18, 19, 20, 21, 22, 23, 24, 25, 26, 27, 28, 29, 30, 31, 32, 33, 34, 35, 36, 37, 38, 39, 40, 41, 42, 43, 44, 45, 46, 47, 48, 49] (fun q : Nat => s.heap.size ≤ q) s.heap σ H locs) (hl : lv_has ls 4 [(3, .int (nI i)), (2, .ref (g.1 29)), (1, .ref (g.1 0)), (0, .ref b)]) : W p l e room_1 s m #[Value.ref b] below meth c H locs 51 23562 (lw_Z below #[Value.ref b] s) (F0 m 1171 ls []) := by
  have hx := X.1.1
  have hb := X.1.2.1
  have hbA : ¬ (fun q : Nat => s.heap.size ≤ q) b := Nat.not_le.mpr hbl
  refine lv_aload_n hx hb dL_law_1171 rfl (lv_at hl 2 rfl) ?_
  refine lv_aload_n hx hb dL_law_1172 rfl (lv_at hl 3 rfl) ?_
  refine lv_iload_n hx hb dL_law_1173 rfl (lv_at hl 0 rfl) ?_
  refine lv_iconst hx hb dL_law_1174 ki_1 ?_
  refine lv_iadd hx hb dL_law_1175 ?_
  refine va_sld hx hb hX hbl hbA h.2 (lw_in (j := 1) (by decide) hi hL) dL_law_1176 ?_
  obtain ⟨r, σ2, h1, h2, hR2⟩ := st_count N hNN σ hR (xs (nI i + 1).toNatClampNeg)
  refine fb_ci X h (fb_runV (As := [.int (xs (nI i + 1).toNatClampNeg)]) (rest := []) (k := 0) X h (c_X5_count l X.2.2.1 (by decide) N (xs (nI i + 1).toNatClampNeg) σ h1) mf_yX5_count lm_RL_153 (by decide) rfl rfl ⟨Nat.le_of_ble_eq_true rfl, Nat.le_of_ble_eq_true rfl⟩ ⟨Nat.le_refl _, Nat.le_refl _⟩ rfl hl.1 rfl (Nat.le_of_ble_eq_true rfl) dL_law_1177) (fun H locs h => ?_)
  refine lv_aload_n hx hb dL_law_1180 rfl (lv_at hl 1 rfl) ?_
  refine lv_aload_n hx hb dL_law_1181 rfl (lv_at hl 3 rfl) ?_
  refine lv_iload_n hx hb dL_law_1182 rfl (lv_at hl 0 rfl) ?_
  refine lv_iconst hx hb dL_law_1183 ki_1 ?_
  refine lv_iadd hx hb dL_law_1184 ?_
  refine va_sld hx hb hX hbl hbA h.2 (lw_in (j := 1) (by decide) hi hL) dL_law_1185 ?_
  refine fb_ci X h (fb_runV (As := [.int (xs (nI i + 1).toNatClampNeg)]) (rest := [.int r]) (k := 29) X h (c_X6_count l X.2.2.1 (by decide) N (xs (nI i + 1).toNatClampNeg) σ h2) mf_yX6_count lm_RL_156 (by decide) rfl rfl ⟨Nat.le_of_ble_eq_true rfl, Nat.le_of_ble_eq_true rfl⟩ ⟨Nat.le_refl _, Nat.le_refl _⟩ rfl hl.1 rfl (Nat.le_of_ble_eq_true rfl) dL_law_1186) (fun H locs h => ?_)
  refine lv_icmp_eq hx hb dL_law_1189 (tgt := 1194) (by decide) (fun _ => ?_) (fun h9 => absurd rfl h9)
  exact hnx _ _ _ _ hR2 h hl
end LW
