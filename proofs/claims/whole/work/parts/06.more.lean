theorem kinc_1 (x : Int32) : x + Int32.ofInt 1 = x + 1 := congrArg (fun z => x + z) ki_1
theorem kinc_m1 (x : Int32) : x + Int32.ofInt (-1) = x + (-1) := congrArg (fun z => x + z) ki_m1
theorem kinc_6 (x : Int32) : x + Int32.ofInt 6 = x + 6 := congrArg (fun z => x + z) (by decide +kernel)
theorem kl_0 : Int64.ofNat ((0 : Fin 2) : Nat) = 0 := by decide +kernel
theorem kl_1 : Int64.ofNat ((1 : Fin 2) : Nat) = 1 := by decide +kernel
theorem kn_0 : (0 : Int32).toNatClampNeg = 0 := by decide +kernel
theorem kn_1 : (1 : Int32).toNatClampNeg = 1 := by decide +kernel
theorem kn_2 : (2 : Int32).toNatClampNeg = 2 := by decide +kernel
theorem kn_3 : (3 : Int32).toNatClampNeg = 3 := by decide +kernel
theorem kn_4 : (4 : Int32).toNatClampNeg = 4 := by decide +kernel
theorem kn_5 : (5 : Int32).toNatClampNeg = 5 := by decide +kernel
theorem fb_nz {y : Int32} (h : (y != 0) = true) : ¬ y = 0 := by simpa using h
theorem fb_swn {x : Int32} (n : Nat) (hn : n < 1000) (h : ∀ j : Nat, j < n → ¬ x = nI j) : x.toInt < 0 ∨ (n : Int) ≤ x.toInt := by
  by_cases h1 : x.toInt < 0
  · exact Or.inl h1
  · refine Or.inr (Int.not_lt.mp fun h2 => ?_)
    obtain ⟨j, hj, e⟩ := vp_in_of (x := x) (n := n) (vp_in_iff.mpr ⟨Int.not_lt.mp h1, h2⟩) (by omega)
    exact h j hj e
def mx_ (x y : Int32) : Int32 := if x < y then y else x
def mn_ (x y : Int32) : Int32 := if y < x then y else x
def fb_zn (z : Nat) : String := match z with
  | 0 => "RULE_LEAST"
  | 1 => "RULE_MOST"
  | 2 => "WAY_LEAST"
  | _ => "WAY_MOST"
def fb_zl (z : Nat) : Nat := match z with
  | 0 => 4
  | 1 => 4
  | _ => 6
def fb_rl (z j : Nat) : Int32 := match z with
  | 0 => ([1, 1, 0, 0] : List Int32).getD j 0
  | 1 => ([500, 9999, 999, 9999] : List Int32).getD j 0
  | 2 => ([1, 1, 1, 0, 0, 0] : List Int32).getD j 0
  | _ => ([8, 99, 99, 99, 999, 9] : List Int32).getD j 0
/-- the four constant rows -/
def fb_Zp (A : Nat → Prop) (tz : Nat → Nat) (U : State) : Prop := ∀ z, z < 4 → va_Z "FootBridges" (fb_zn z) "[I" (.ref (tz z)) A U U.heap ∧ va_T .int (tz z) (fb_zl z) (fun j => .int (fb_rl z j)) A U U.heap
abbrev fb_MZ (l : Launch) (y : MethodName) (cc : ByteArray) (maxL : Nat) (ret : Option FieldType) (fr lo : Nat) (g : fb_G) (ks : List Nat) (av : List Value) (σ : fb_S) (Q : Array Value → State → Outcome → State → Prop) : Prop :=
  Met l y (.code y cc maxL ret :: fb_tbl) (fb_R fr lo) (va_Pc av (fun U => fb_W g ks σ U ∧ ∃ tz, fb_Zp (fb_A g ks) tz U)) Q 0 0 (fb_A g ks)
theorem fb_metZ {l : Launch} {y : MethodName} {cc : ByteArray} {maxL : Nat} {ret : Option FieldType} {fr lo : Nat} {g : fb_G} {ks : List Nat} {av : List Value} {σ : fb_S} {Q : Array Value → State → Outcome → State → Prop} (hy : plainName y.cls = true) (hI : fb_I g ks) (hlen : (lg_sl av).length ≤ maxL)
    (body : ∀ (p : Program) (e : Env) (s : State) (m : MethodId) (below : List Frame) (meth : Method) (c : Code) (ls : Array Slot) (tz : Nat → Nat), fb_Zp (fb_A g ks) tz s → fb_X p m c cc maxL s av.toArray y.cls g ks (fb_A g ks) → fb_H g ks (fb_A g ks) s.heap σ s.heap [] → meth.sig.returnType = ret → meth.locks = false → lv_has ls maxL (lv_args 0 av) →
      W p l e (fb_R fr lo) s m av.toArray below meth c s.heap [] 0 0 (MQ below Q av.toArray s 0 0 (fb_A g ks)) (F0 m 0 ls [])) : fb_MZ l y cc maxL ret fr lo g ks av σ Q := by
  refine Met.ofW (cc := cc) (maxL := maxL) (ret := ret) hy rfl ?_
  intro p e s m args below meth c s₁ B hml hv
  obtain ⟨rfl, ⟨hw, hN⟩, tz, hz⟩ := hv
  have hts := atoms_spec (ws := .code y cc maxL ret :: fb_tbl) B.pre
  have hl := lv_entry av (n := maxL) hlen
  rw [lg_entry_eq]
  exact body p e s m below meth c _ tz hz ⟨⟨B.exec, B.bytes, hml, findClass_of_methodNamed B.named, fun w hw => hts w (List.mem_cons_of_mem _ hw)⟩, hw.2, hI, fun _ h => h, hN⟩ ⟨hw.1, va_S.rf⟩ B.returns B.notSynchronized hl
section FB2
variable {p : Program} {l : Launch} {e : Env} {R : Room} {s : State} {m : MethodId} {args : Array Value} {below : List Frame} {meth : Method} {c : Code} {H : Heap} {locs : List Loc} {cells slots : Nat} {Q : State → Prop}
variable {cc : ByteArray} {pc nL index : Nat} {ls : Array Slot} {rest : List Value} {own : String} {g : fb_G} {ks : List Nat} {A : Nat → Prop} {H0 : Heap} {σ : fb_S}
theorem fb_mxr (X : fb_X p m c cc nL s args own g ks A) (hsz : ls.size = nL) (hl : Cond.methodLink own index Lib.Math.max.name ∈ fb_tbl) (hf : 1 ≤ R.frames) (hW : (rest.map fun v => v.category).sum + 13 ≤ R.locals) (hc : cells ≤ R.cells ∧ slots ≤ R.slots) {x y : Int32} (hdg : decode cc pc = .ok (.invokestatic index, 3))
    (kk : W p l e R s m args below meth c H locs cells slots Q (F0 m (pc + 3) ls (.int (mx_ x y) :: rest))) : W p l e R s m args below meth c H locs cells slots Q (F0 m pc ls (.int y :: .int x :: rest)) := fb_max X hsz hl hf hW hc hdg kk
theorem fb_mnr (X : fb_X p m c cc nL s args own g ks A) (hsz : ls.size = nL) (hl : Cond.methodLink own index Lib.Math.min.name ∈ fb_tbl) (hf : 1 ≤ R.frames) (hW : (rest.map fun v => v.category).sum + 13 ≤ R.locals) (hc : cells ≤ R.cells ∧ slots ≤ R.slots) {x y : Int32} (hdg : decode cc pc = .ok (.invokestatic index, 3))
    (kk : W p l e R s m args below meth c H locs cells slots Q (F0 m (pc + 3) ls (.int (mn_ x y) :: rest))) : W p l e R s m args below meth c H locs cells slots Q (F0 m pc ls (.int y :: .int x :: rest)) := fb_min X hsz hl hf hW hc hdg kk
theorem fb_ialdL (X : fb_X p m c cc nL s args own g ks A) (h : fb_H g ks A H0 σ H locs) {k n j : Nat} (hk : k ∈ ks) (he : fb_cell g (σ.1 k) σ.2 k = .inl (g.2.2.1, n, .inl (σ.1 k))) {i : Int32} (hi : fb_in i n = true) (ej : i.toNatClampNeg = j) (hdg : decode cc pc = .ok (.iaload, 1))
    (kk : W p l e R s m args below meth c H locs cells slots Q (F0 m (pc + 1) ls (.int (σ.1 k j) :: rest))) : W p l e R s m args below meth c H locs cells slots Q (F0 m pc ls (.int i :: .ref (g.1 k) :: rest)) := fb_iald X h hk he hi hdg (by rw [ej]; exact kk)
theorem fb_zaldL (X : fb_X p m c cc nL s args own g ks A) (h : fb_H g ks A H0 σ H locs) {k n j : Nat} (hk : k ∈ ks) (he : fb_cell g (σ.1 k) σ.2 k = .inl (g.2.2.2.2, n, .inl (σ.1 k))) {i : Int32} (hi : fb_in i n = true) (ej : i.toNatClampNeg = j) (hdg : decode cc pc = .ok (.baload, 1))
    (kk : W p l e R s m args below meth c H locs cells slots Q (F0 m (pc + 1) ls (.int (σ.1 k j) :: rest))) : W p l e R s m args below meth c H locs cells slots Q (F0 m pc ls (.int i :: .ref (g.1 k) :: rest)) := fb_zald X h hk he hi hdg (by rw [ej]; exact kk)
theorem fb_laldL (X : fb_X p m c cc nL s args own g ks A) (h : fb_H g ks A H0 σ H locs) (hk : 5 ∈ ks) {i : Int32} {j : Nat} (hi : fb_in i 6 = true) (ej : i.toNatClampNeg = j) (hdg : decode cc pc = .ok (.laload, 1))
    (kk : W p l e R s m args below meth c H locs cells slots Q (F0 m (pc + 1) ls (.long (σ.2 j) :: rest))) : W p l e R s m args below meth c H locs cells slots Q (F0 m pc ls (.int i :: .ref (g.1 5) :: rest)) := fb_lald X h hk hi hdg (by rw [ej]; exact kk)
theorem fb_iastL (X : fb_X p m c cc nL s args own g ks A) (h : fb_H g ks A H0 σ H locs) {k n j : Nat} (hk : k ∈ ks) (he : ∀ r, fb_cell g r σ.2 k = .inl (g.2.2.1, n, .inl r)) {i x : Int32} (hi : fb_in i n = true) (ej : i.toNatClampNeg = j) (hdg : decode cc pc = .ok (.iastore, 1))
    (kk : ∀ (H1 : Heap) (locs1 : List Loc), fb_H g ks A H0 (fb_up σ k j x) H1 locs1 → W p l e R s m args below meth c H1 locs1 cells slots Q (F0 m (pc + 1) ls rest)) : W p l e R s m args below meth c H locs cells slots Q (F0 m pc ls (.int x :: .int i :: .ref (g.1 k) :: rest)) := fb_iast X h hk he hi hdg (by rw [ej]; exact kk)
theorem fb_zastL (X : fb_X p m c cc nL s args own g ks A) (h : fb_H g ks A H0 σ H locs) {k n j : Nat} (hk : k ∈ ks) (he : ∀ r, fb_cell g r σ.2 k = .inl (g.2.2.2.2, n, .inl r)) {i x : Int32} (hi : fb_in i n = true) (ej : i.toNatClampNeg = j) (hdg : decode cc pc = .ok (.bastore, 1))
    (kk : ∀ (H1 : Heap) (locs1 : List Loc), fb_H g ks A H0 (fb_up σ k j (fb_z x)) H1 locs1 → W p l e R s m args below meth c H1 locs1 cells slots Q (F0 m (pc + 1) ls rest)) : W p l e R s m args below meth c H locs cells slots Q (F0 m pc ls (.int x :: .int i :: .ref (g.1 k) :: rest)) := fb_zast X h hk he hi hdg (by rw [ej]; exact kk)
theorem fb_lastL (X : fb_X p m c cc nL s args own g ks A) (h : fb_H g ks A H0 σ H locs) (hk : 5 ∈ ks) {i : Int32} {x : Int64} {j : Nat} (hi : fb_in i 6 = true) (ej : i.toNatClampNeg = j) (hdg : decode cc pc = .ok (.lastore, 1))
    (kk : ∀ (H1 : Heap) (locs1 : List Loc), fb_H g ks A H0 (fb_upL σ j x) H1 locs1 → W p l e R s m args below meth c H1 locs1 cells slots Q (F0 m (pc + 1) ls rest)) : W p l e R s m args below meth c H locs cells slots Q (F0 m pc ls (.long x :: .int i :: .ref (g.1 5) :: rest)) := fb_last X h hk hi hdg (by rw [ej]; exact kk)
end FB2
