/-! one world: every object and array is a numbered cell; the state is what the cells hold -/
abbrev fb_S : Type := (Nat → Nat → Int32) × (Nat → Int64)
def fb_up (σ : fb_S) (k j : Nat) (v : Int32) : fb_S := (fun a => if a = k then upd (σ.1 a) j v else σ.1 a, σ.2)
def fb_upL (σ : fb_S) (j : Nat) (v : Int64) : fb_S := (σ.1, vp_updL σ.2 j v)
/-! a long in two halves -/
def hj (a b : Int32) : Int64 := Int64.ofBitVec ((b.toBitVec ++ a.toBitVec : BitVec 64))
def hlo (x : Int64) : Int32 := Int32.ofBitVec (x.toBitVec.extractLsb' 0 32)
def hhi (x : Int64) : Int32 := Int32.ofBitVec (x.toBitVec.extractLsb' 32 32)
theorem hj_bit (a b : Int32) (d : Nat) : (hj a b).toBitVec.getLsbD d = if d < 32 then a.toBitVec.getLsbD d else b.toBitVec.getLsbD (d - 32) := by
  unfold hj
  rw [Int64.toBitVec_ofBitVec]
  exact BitVec.getLsbD_append
theorem hj_hl (x : Int64) : hj (hlo x) (hhi x) = x := by
  refine Int64.toBitVec_inj.mp (BitVec.eq_of_getLsbD_eq (fun d hd => ?_))
  rw [hj_bit]
  unfold hlo hhi
  rw [Int32.toBitVec_ofBitVec, Int32.toBitVec_ofBitVec, BitVec.getLsbD_extractLsb', BitVec.getLsbD_extractLsb']
  by_cases h : d < 32
  · simp [h]
  · rw [if_neg h]
    have h2 : d - 32 < 32 := by omega
    have h3 : 32 + (d - 32) = d := by omega
    simp [h2, h3]
def hjf (r : Nat → Int32) : Nat → Int64 := fun i => hj (r (2 * i)) (r (2 * i + 1))
theorem hj_0 : hj 0 0 = 0 := by decide +kernel
theorem hjf_z : hjf (fun _ => 0) = fun _ => 0 := funext fun _ => hj_0
theorem hjf_up (r : Nat → Int32) (j : Nat) (x : Int64) : hjf (upd (upd r (2 * j) (hlo x)) (2 * j + 1) (hhi x)) = vp_updL (hjf r) j x := by
  funext i
  show hj (upd (upd r (2 * j) (hlo x)) (2 * j + 1) (hhi x) (2 * i)) (upd (upd r (2 * j) (hlo x)) (2 * j + 1) (hhi x) (2 * i + 1)) = if i = j then x else hj (r (2 * i)) (r (2 * i + 1))
  by_cases h : i = j
  · subst h
    rw [if_pos rfl]
    have e1 : upd (upd r (2 * i) (hlo x)) (2 * i + 1) (hhi x) (2 * i) = hlo x := by simp [upd]
    have e2 : upd (upd r (2 * i) (hlo x)) (2 * i + 1) (hhi x) (2 * i + 1) = hhi x := by simp [upd]
    rw [e1, e2, hj_hl]
  · rw [if_neg h]
    have e1 : upd (upd r (2 * j) (hlo x)) (2 * j + 1) (hhi x) (2 * i) = r (2 * i) := by
      unfold upd
      rw [if_neg (by omega), if_neg (by omega)]
    have e2 : upd (upd r (2 * j) (hlo x)) (2 * j + 1) (hhi x) (2 * i + 1) = r (2 * i + 1) := by
      unfold upd
      rw [if_neg (by omega), if_neg (by omega)]
    rw [e1, e2]
def fb_upH (σ : fb_S) (k j : Nat) (v : Int64) : fb_S := fb_up (fb_up σ k (2 * j) (hlo v)) k (2 * j + 1) (hhi v)
abbrev fb_G : Type := (Nat → Nat) × va_G × ClassId × ClassId × ClassId
abbrev fb_cl : List vw_C := [(RX0, TX0, 4), (RX1, TX1, 9), (RX2, TX2, 11), (RX3, TX3, 8), (RX4, TX4, 5), (RX5, TX5, 6), (RX6, TX6, 35)]
def fb_cell (g : fb_G) (r : Nat → Int32) (q : Nat → Int64) (k : Nat) : va_E := match k with
  | 0 => .inr (5, [.ref (g.1 1), .ref (g.1 2), .ref (g.1 6), .ref (g.1 11), .ref (g.1 17), .ref (g.1 22)])
  | 1 => .inl (g.2.2.1, 4, .inl r)
  | 2 => .inr (0, [.ref (g.1 3), .ref (g.1 4), .ref (g.1 5), .int (r 3)])
  | 3 => .inl (g.2.2.1, 5, .inl r)
  | 4 => .inl (g.2.2.1, 6, .inl r)
  | 5 => .inl (g.2.2.2.1, 6, .inr (.inl q))
  | 6 => .inr (4, [.ref (g.1 7), .ref (g.1 8), .ref (g.1 9), .ref (g.1 10), .int (r 4)])
  | 7 => .inl (g.2.2.1, 4, .inl r)
  | 8 => .inl (g.2.2.1, 4, .inl r)
  | 9 => .inl (g.2.2.1, 4, .inl r)
  | 10 => .inl (g.2.2.1, 4, .inl r)
  | 11 => .inr (1, [.ref (g.1 12), .ref (g.1 13), .ref (g.1 14), .ref (g.1 15), .ref (g.1 16), .ref (g.1 50), .int (r 5), .int (r 6), .int (r 7)])
  | 12 => .inl (g.2.2.1, 10, .inl r)
  | 13 => .inl (g.2.2.1, 10, .inl r)
  | 14 => .inl (g.2.2.1, 10, .inl r)
  | 15 => .inl (g.2.2.1, 10, .inl r)
  | 16 => .inl (g.2.2.2.1, 79, .inr (.inl (hjf r)))
  | 17 => .inr (2, [.ref (g.1 18), .ref (g.1 19), .ref (g.1 20), .ref (g.1 21), .int (r 4), .int (r 5), .int (r 6), .int (r 7), .int (r 8), .int (r 9), .int (r 10)])
  | 18 => .inl (g.2.2.1, 6, .inl r)
  | 19 => .inl (g.2.2.1, 60, .inl r)
  | 20 => .inl (g.2.2.1, 8, .inl r)
  | 21 => .inl (g.2.2.1, 60, .inl r)
  | 22 => .inr (3, [.ref (g.1 23), .ref (g.1 24), .ref (g.1 25), .ref (g.1 26), .ref (g.1 27), .ref (g.1 28), .int (r 6), .int (r 7)])
  | 23 => .inl (g.2.2.1, 20, .inl r)
  | 24 => .inl (g.2.2.1, 20, .inl r)
  | 25 => .inl (g.2.2.1, 20, .inl r)
  | 26 => .inl (g.2.2.2.1, 50, .inr (.inl (hjf r)))
  | 27 => .inl (g.2.2.1, 98, .inl r)
  | 28 => .inl (g.2.2.1, 98, .inl r)
  | 29 => .inr (6, [.int (r 0), .int (r 1), .ref (g.1 30), .ref (g.1 31), .ref (g.1 32), .ref (g.1 33), .ref (g.1 34), .ref (g.1 35), .ref (g.1 36), .int (r 9), .ref (g.1 37), .int (r 11), .ref (g.1 38), .ref (g.1 39), .ref (g.1 40), .ref (g.1 41), .int (r 16), .ref (g.1 42), .int (r 18), .int (r 19), .int (r 20), .ref (g.1 43), .ref (g.1 44), .ref (g.1 45), .ref (g.1 46), .int (r 25), .int (r 26), .int (r 27), .int (r 28), .int (r 29), .int (r 30), .ref (g.1 47), .ref (g.1 48), .int (r 33), .ref (g.1 49)])
  | 30 => .inl (g.2.2.1, 5, .inl r)
  | 31 => .inl (g.2.2.1, 6, .inl r)
  | 32 => .inl (g.2.2.1, 4, .inl r)
  | 33 => .inl (g.2.2.1, 4, .inl r)
  | 34 => .inl (g.2.2.1, 4, .inl r)
  | 35 => .inl (g.2.2.1, 4, .inl r)
  | 36 => .inl (g.2.2.1, 4, .inl r)
  | 37 => .inl (g.2.2.1, 4, .inl r)
  | 38 => .inl (g.2.2.1, 10, .inl r)
  | 39 => .inl (g.2.2.1, 10, .inl r)
  | 40 => .inl (g.2.2.1, 10, .inl r)
  | 41 => .inl (g.2.2.2.2, 10, .inl r)
  | 42 => .inl (g.2.2.1, 10000, .inl r)
  | 43 => .inl (g.2.2.1, 6, .inl r)
  | 44 => .inl (g.2.2.1, 60, .inl r)
  | 45 => .inl (g.2.2.1, 8, .inl r)
  | 46 => .inl (g.2.2.1, 60, .inl r)
  | 47 => .inl (g.2.2.1, 100, .inl r)
  | 48 => .inl (g.2.2.2.2, 2500, .inl r)
  | 49 => .inl (g.2.2.1, 10000, .inl r)
  | 50 => .inl (g.2.2.2.1, 79, .inr (.inl (hjf r)))
  | _ => .inl (g.2.2.1, 0, .inl r)
theorem fb_cell_q (g : fb_G) (r : Nat → Int32) (q q2 : Nat → Int64) {k : Nat} (h : k ≠ 5) : fb_cell g r q2 k = fb_cell g r q k := by
  unfold fb_cell
  split <;> first | rfl | exact absurd rfl h
def fb_len (k : Nat) : Nat := match k with
  | 1 => 4
  | 3 => 5
  | 4 => 6
  | 7 => 4
  | 8 => 4
  | 9 => 4
  | 10 => 4
  | 12 => 10
  | 13 => 10
  | 14 => 10
  | 15 => 10
  | 16 => 79
  | 18 => 6
  | 19 => 60
  | 20 => 8
  | 21 => 60
  | 23 => 20
  | 24 => 20
  | 25 => 20
  | 26 => 50
  | 27 => 98
  | 28 => 98
  | 30 => 5
  | 31 => 6
  | 32 => 4
  | 33 => 4
  | 34 => 4
  | 35 => 4
  | 36 => 4
  | 37 => 4
  | 38 => 10
  | 39 => 10
  | 40 => 10
  | 42 => 10000
  | 43 => 6
  | 44 => 60
  | 45 => 8
  | 46 => 60
  | 47 => 100
  | 49 => 10000
  | 50 => 79
  | _ => 0
def fb_ints : List Nat := [1, 3, 4, 7, 8, 9, 10, 12, 13, 14, 15, 18, 19, 20, 21, 23, 24, 25, 27, 28, 30, 31, 32, 33, 34, 35, 36, 37, 38, 39, 40, 42, 43, 44, 45, 46, 47, 49]
theorem fb_int {k : Nat} (h : k ∈ fb_ints) (g : fb_G) (r : Nat → Int32) (q : Nat → Int64) : fb_cell g r q k = .inl (g.2.2.1, fb_len k, .inl r) := by
  simp only [fb_ints, List.mem_cons, List.not_mem_nil, or_false] at h
  rcases h with rfl | rfl | rfl | rfl | rfl | rfl | rfl | rfl | rfl | rfl | rfl | rfl | rfl | rfl | rfl | rfl | rfl | rfl | rfl | rfl | rfl | rfl | rfl | rfl | rfl | rfl | rfl | rfl | rfl | rfl | rfl | rfl | rfl | rfl | rfl | rfl | rfl | rfl <;> rfl
def fb_lngs : List Nat := [16, 26, 50]
theorem fb_lng {k : Nat} (h : k ∈ fb_lngs) (g : fb_G) (r : Nat → Int32) (q : Nat → Int64) : fb_cell g r q k = .inl (g.2.2.2.1, fb_len k, .inr (.inl (hjf r))) := by
  simp only [fb_lngs, List.mem_cons, List.not_mem_nil, or_false] at h
  rcases h with rfl | rfl | rfl <;> rfl
def fb_wl (g : fb_G) (ks : List Nat) (σ : fb_S) : va_W := ks.map (fun k => (g.1 k, fb_cell g (σ.1 k) σ.2 k))
abbrev fb_ty (g : fb_G) : List (ClassId × FieldType) := [(g.2.2.1, .int), (g.2.2.2.1, .long), (g.2.2.2.2, .boolean)]
def fb_A (g : fb_G) (ks : List Nat) : Nat → Prop := fun q => ∃ k, k ∈ ks ∧ q = g.1 k
def fb_I (g : fb_G) (ks : List Nat) : Prop := ks.Nodup ∧ ∀ i, i ∈ ks → ∀ j, j ∈ ks → g.1 i = g.1 j → i = j
def fb_isN : Cond → Bool
  | .fieldLinkNest _ _ _ _ _ _ => true
  | .methodLinkNest _ _ _ _ => true
  | _ => false
def fb_tbl : List Cond := lw_tbl.filter goodWord
def fb_nest : List Cond := lw_tbl.filter fb_isN
theorem fb_mx : Cond.static Lib.Math.max.name ∈ fb_tbl ∧ Cond.code Lib.Math.max.name Lib.Math.max.code 2 (some .int) ∈ fb_tbl ∧ Cond.initialized "java/lang/Math" ∈ fb_tbl := ⟨List.mem_filter.mpr ⟨List.mem_append_right _ (List.mem_of_getElem? (i := 348) (by decide +kernel)), by decide +kernel⟩, List.mem_filter.mpr ⟨List.mem_append_right _ (List.mem_of_getElem? (i := 349) (by decide +kernel)), by decide +kernel⟩, List.mem_filter.mpr ⟨List.mem_append_right _ (List.mem_of_getElem? (i := 9) (by decide +kernel)), by decide +kernel⟩⟩
theorem fb_mn : Cond.static Lib.Math.min.name ∈ fb_tbl ∧ Cond.code Lib.Math.min.name Lib.Math.min.code 2 (some .int) ∈ fb_tbl ∧ Cond.initialized "java/lang/Math" ∈ fb_tbl := ⟨List.mem_filter.mpr ⟨List.mem_append_right _ (List.mem_of_getElem? (i := 345) (by decide +kernel)), by decide +kernel⟩, List.mem_filter.mpr ⟨List.mem_append_right _ (List.mem_of_getElem? (i := 346) (by decide +kernel)), by decide +kernel⟩, List.mem_filter.mpr ⟨List.mem_append_right _ (List.mem_of_getElem? (i := 9) (by decide +kernel)), by decide +kernel⟩⟩
theorem fb_good (y : MethodName) (b : ByteArray) (n : Nat) (r : Option FieldType) (h : Cond.code y b n r ∈ fb_tbl) : GoodIn fb_tbl (Cond.code y b n r :: fb_tbl) := by
  have h1 : ∀ w ∈ fb_tbl, w ∈ fb_tbl ∧ ((w.onTables && w.keeps) = true ∨ ∃ ty, w = .arrayClass ty) := fun w hw => ⟨hw, good_of_word (List.mem_filter.mp hw).2⟩
  intro w hw
  rcases List.mem_cons.mp hw with e | hw
  · rw [e]; exact h1 _ h
  · exact h1 w hw
def fb_N (U : State) : Prop := ∀ w ∈ fb_nest, va_Nw w U
theorem fb_N_onT {w : Cond} (h : w ∈ fb_nest) : w.onTables = true := by
  have h2 := (List.mem_filter.mp h).2
  cases w <;> first | rfl | (exact absurd h2 (by simp [fb_isN]))
theorem fb_N_warm {s U : State} (hW : s.WarmedH U.vm) (h : fb_N s) : fb_N U := by
  intro w hw
  have h1 := h w hw
  have h2 := (List.mem_filter.mp hw).2
  cases w <;> first | exact va_Nw.warmF hW h1 | exact va_Nw.warmM hW h1 | (exact absurd h2 (by simp [fb_isN]))
theorem fb_N_same {u U : State} (e : u.vm = U.vm) (h : fb_N u) : fb_N U := fun w hw => va_Nw.same (fb_N_onT hw) e (h w hw)
/-- the world behind a method -/
def fb_V (g : fb_G) (ks : List Nat) (σ : fb_S) (U : State) : Prop := va_P g.2.1 fb_cl (fb_wl g ks σ) U.heap ∧ va_K g.2.1 fb_cl (fb_ty g) U
/-- the world ahead of a method -/
def fb_W (g : fb_G) (ks : List Nat) (σ : fb_S) (U : State) : Prop := fb_V g ks σ U ∧ fb_N U
/-- the heap within a method -/
def fb_H (g : fb_G) (ks : List Nat) (A : Nat → Prop) (H0 : Heap) (σ : fb_S) (H : Heap) (locs : List Loc) : Prop := va_P g.2.1 fb_cl (fb_wl g ks σ) H ∧ va_S A H0 H locs
/-- what stays within a method -/
def fb_X (p : Program) (m : MethodId) (c : Code) (cc : ByteArray) (nL : Nat) (s : State) (args : Array Value) (own : String) (g : fb_G) (ks : List Nat) (A : Nat → Prop) : Prop :=
  CallFix p m c cc nL s args fb_tbl own ∧ va_K g.2.1 fb_cl (fb_ty g) s ∧ fb_I g ks ∧ (∀ q, fb_A g ks q → A q) ∧ fb_N s
theorem fb_H.nm {g : fb_G} {ks : List Nat} {A : Nat → Prop} {H0 : Heap} {σ t : fb_S} {H : Heap} {locs : List Loc} (e : t = σ) (h : fb_H g ks A H0 σ H locs) : fb_H g ks A H0 t H locs := by rw [e]; exact h
theorem fb_at (g : fb_G) {ks : List Nat} (σ : fb_S) {k : Nat} (h : k ∈ ks) : ∃ q0 : Nat, ks[q0]? = some k ∧ (fb_wl g ks σ)[q0]? = some (g.1 k, fb_cell g (σ.1 k) σ.2 k) := by
  obtain ⟨q0, hq⟩ := List.getElem?_of_mem h
  exact ⟨q0, hq, by simp [fb_wl, List.getElem?_map, hq]⟩
theorem fb_setL {α : Type} {E E' : Nat → α} {k : Nat} : ∀ (ks : List Nat) (q0 : Nat), ks.Nodup → ks[q0]? = some k → (∀ j, j ∈ ks → j ≠ k → E' j = E j) → (ks.map E).set q0 (E' k) = ks.map E' := by
  intro ks
  induction ks with
  | nil => intro q0 _ h; simp at h
  | cons a ks ih =>
    intro q0 hn hq hE
    rw [List.nodup_cons] at hn
    cases q0 with
    | zero =>
      simp at hq
      subst hq
      simp only [List.map_cons, List.set_cons_zero, List.cons.injEq, true_and]
      exact List.map_congr_left (fun j hj => (hE j (List.mem_cons_of_mem _ hj) (fun e => hn.1 (e ▸ hj))).symm)
    | succ q =>
      simp at hq
      have hk : k ∈ ks := List.mem_of_getElem? hq
      simp only [List.map_cons, List.set_cons_succ, List.cons.injEq]
      exact ⟨(hE a List.mem_cons_self (fun e => hn.1 (e ▸ hk))).symm, ih q hn.2 hq (fun j hj => hE j (List.mem_cons_of_mem _ hj))⟩
theorem fb_upS (σ : fb_S) (k j : Nat) (v : Int32) : (fb_up σ k j v).1 k = upd (σ.1 k) j v := by simp [fb_up]
theorem fb_upN (σ : fb_S) {k a : Nat} (j : Nat) (v : Int32) (h : a ≠ k) : (fb_up σ k j v).1 a = σ.1 a := by simp [fb_up, h]
theorem fb_set (g : fb_G) {ks : List Nat} (σ : fb_S) {k q0 : Nat} (hn : ks.Nodup) (hq : ks[q0]? = some k) (j : Nat) (v : Int32) {E : va_E} (hE : E = fb_cell g (upd (σ.1 k) j v) σ.2 k) : (fb_wl g ks σ).set q0 (g.1 k, E) = fb_wl g ks (fb_up σ k j v) := by
  have h := fb_setL (E := fun k => (g.1 k, fb_cell g (σ.1 k) σ.2 k)) (E' := fun k' => (g.1 k', fb_cell g ((fb_up σ k j v).1 k') (fb_up σ k j v).2 k')) (k := k) ks q0 hn hq (fun a _ ha => by
    show (g.1 a, fb_cell g ((fb_up σ k j v).1 a) σ.2 a) = _
    rw [fb_upN σ j v ha])
  rw [hE]
  rw [fb_upS] at h
  exact h
theorem fb_setH (g : fb_G) {ks : List Nat} (σ : fb_S) {k q0 n : Nat} (hn : ks.Nodup) (hq : ks[q0]? = some k) (j : Nat) (x : Int64) (he : ∀ r, fb_cell g r σ.2 k = .inl (g.2.2.2.1, n, .inr (.inl (hjf r)))) : (fb_wl g ks σ).set q0 (g.1 k, .inl (g.2.2.2.1, n, .inr (.inl (vp_updL (hjf (σ.1 k)) j x)))) = fb_wl g ks (fb_upH σ k j x) := by
  have e1 : (fb_upH σ k j x).1 k = upd (upd (σ.1 k) (2 * j) (hlo x)) (2 * j + 1) (hhi x) := by
    unfold fb_upH
    rw [fb_upS, fb_upS]
  have h := fb_setL (E := fun k => (g.1 k, fb_cell g (σ.1 k) σ.2 k)) (E' := fun k' => (g.1 k', fb_cell g ((fb_upH σ k j x).1 k') (fb_upH σ k j x).2 k')) (k := k) ks q0 hn hq (fun a _ ha => by
    show (g.1 a, fb_cell g ((fb_up (fb_up σ k (2 * j) (hlo x)) k (2 * j + 1) (hhi x)).1 a) σ.2 a) = _
    rw [fb_upN _ _ _ ha, fb_upN _ _ _ ha])
  have e2 : fb_cell g ((fb_upH σ k j x).1 k) (fb_upH σ k j x).2 k = .inl (g.2.2.2.1, n, .inr (.inl (vp_updL (hjf (σ.1 k)) j x))) := by
    rw [e1]
    exact (he _).trans (by rw [hjf_up])
  rw [← e2]
  exact h
theorem fb_setL5 (g : fb_G) {ks : List Nat} (σ : fb_S) {q0 : Nat} (hn : ks.Nodup) (hq : ks[q0]? = some 5) (j : Nat) (v : Int64) : (fb_wl g ks σ).set q0 (g.1 5, .inl (g.2.2.2.1, 6, .inr (.inl (vp_updL σ.2 j v)))) = fb_wl g ks (fb_upL σ j v) :=
  fb_setL (E := fun k => (g.1 k, fb_cell g (σ.1 k) σ.2 k)) (E' := fun k' => (g.1 k', fb_cell g ((fb_upL σ j v).1 k') (fb_upL σ j v).2 k')) (k := 5) ks q0 hn hq (fun a _ ha => by
    show (g.1 a, fb_cell g (σ.1 a) (vp_updL σ.2 j v) a) = _
    rw [fb_cell_q g _ _ _ ha])
theorem fb_D {g : fb_G} {ks : List Nat} {A : Nat → Prop} (hI : fb_I g ks) (hA : ∀ q, fb_A g ks q → A q) (σ : fb_S) : va_D A (fb_wl g ks σ) := by
  have key : ∀ (i : Nat) (q : Nat × va_E), (fb_wl g ks σ)[i]? = some q → ∃ k, ks[i]? = some k ∧ q.1 = g.1 k := by
    intro i q h
    simp only [fb_wl, List.getElem?_map] at h
    cases hk : ks[i]? with
    | none => rw [hk] at h; cases h
    | some k => rw [hk] at h; exact ⟨k, rfl, by rw [← Option.some.inj h]⟩
  refine ⟨fun i j a b ha hb e => ?_, fun i q h => ?_⟩
  · obtain ⟨k1, h1, e1⟩ := key i a ha
    obtain ⟨k2, h2, e2⟩ := key j b hb
    have e3 := hI.2 k1 (List.mem_of_getElem? h1) k2 (List.mem_of_getElem? h2) (by rw [← e1, ← e2, e])
    subst e3
    have hi : i < ks.length := (List.getElem?_eq_some_iff.mp h1).1
    exact (List.getElem?_inj hi hI.1).mp (h1.trans h2.symm)
  · obtain ⟨k, h1, e1⟩ := key i q h
    rw [e1]
    exact hA _ ⟨k, List.mem_of_getElem? h1, rfl⟩
/-- an index within -/
def fb_in (i : Int32) (n : Nat) : Bool := decide (0 ≤ i.toInt ∧ i.toInt < n)
theorem fb_in_vp {i : Int32} {n : Nat} (h : fb_in i n = true) : vp_in i n := vp_in_iff.mpr (of_decide_eq_true h)
/-- a value gets a name -/
def nm_ {α β : Type} (x : α) (f : α → β) : β := f x
theorem nm_s {α β : Type} {x : α} {f : α → β} {r : β} (h : nm_ x f = r) : ∃ y, y = x ∧ f y = r := ⟨x, rfl, h⟩
def ck_ {α : Type} (b : Bool) (x : Option α) : Option α := if b = true then x else none
theorem ck_s {α : Type} {b : Bool} {x : Option α} {r : α} (h : ck_ b x = some r) : b = true ∧ x = some r := by
  unfold ck_ at h
  split at h
  next hb => exact ⟨hb, h⟩
  next => cases h
theorem if_t {α : Type} {c : Prop} [Decidable c] {a b r : α} (hc : c) (h : (if c then a else b) = r) : a = r := by rw [if_pos hc] at h; exact h
theorem if_f {α : Type} {c : Prop} [Decidable c] {a b r : α} (hc : ¬ c) (h : (if c then a else b) = r) : b = r := by rw [if_neg hc] at h; exact h
theorem bd_s {α β : Type} {x : Option α} {f : α → Option β} {r : β} (h : x.bind f = some r) : ∃ y, x = some y ∧ f y = some r := Option.bind_eq_some_iff.mp h
abbrev fb_R (fr lo : Nat) : Room := { frames := fr, cells := 0, slots := 0, locals := lo }
abbrev fb_M (l : Launch) (y : MethodName) (cc : ByteArray) (maxL : Nat) (ret : Option FieldType) (fr lo : Nat) (g : fb_G) (ks : List Nat) (av : List Value) (σ : fb_S) (Q : Array Value → State → Outcome → State → Prop) : Prop :=
  Met l y (.code y cc maxL ret :: fb_tbl) (fb_R fr lo) (va_Pc av (fb_W g ks σ)) Q 0 0 (fb_A g ks)
abbrev fb_Qi (g : fb_G) (ks : List Nat) (r : Int32) (σ : fb_S) : Array Value → State → Outcome → State → Prop := va_Qi (fun x (_ : Unit) => x = r) (fun _ t => fb_V g ks σ t) (fb_A g ks)
abbrev fb_Ql (g : fb_G) (ks : List Nat) (r : Int64) (σ : fb_S) : Array Value → State → Outcome → State → Prop := va_Ql (fun x (_ : Unit) => x = r) (fun _ t => fb_V g ks σ t) (fb_A g ks)
abbrev fb_Qv (g : fb_G) (ks : List Nat) (σ : fb_S) : Array Value → State → Outcome → State → Prop := va_Qv (fun (_ : Unit) => True) (fun _ t => fb_V g ks σ t) (fb_A g ks)
/-- a method begins -/
theorem fb_met {l : Launch} {y : MethodName} {cc : ByteArray} {maxL : Nat} {ret : Option FieldType} {fr lo : Nat} {g : fb_G} {ks : List Nat} {av : List Value} {σ : fb_S} {Q : Array Value → State → Outcome → State → Prop} (hy : plainName y.cls = true) (hI : fb_I g ks) (hlen : (lg_sl av).length ≤ maxL)
    (body : ∀ (p : Program) (e : Env) (s : State) (m : MethodId) (below : List Frame) (meth : Method) (c : Code) (ls : Array Slot), fb_X p m c cc maxL s av.toArray y.cls g ks (fb_A g ks) → fb_H g ks (fb_A g ks) s.heap σ s.heap [] → meth.sig.returnType = ret → meth.locks = false → lv_has ls maxL (lv_args 0 av) →
      W p l e (fb_R fr lo) s m av.toArray below meth c s.heap [] 0 0 (MQ below Q av.toArray s 0 0 (fb_A g ks)) (F0 m 0 ls [])) : fb_M l y cc maxL ret fr lo g ks av σ Q := by
  refine Met.ofW (cc := cc) (maxL := maxL) (ret := ret) hy rfl ?_
  intro p e s m args below meth c s₁ B hml hv
  obtain ⟨rfl, hw, hN⟩ := hv
  have hts := atoms_spec (ws := .code y cc maxL ret :: fb_tbl) B.pre
  have hl := lv_entry av (n := maxL) hlen
  rw [lg_entry_eq]
  exact body p e s m below meth c _ ⟨⟨B.exec, B.bytes, hml, findClass_of_methodNamed B.named, fun w hw => hts w (List.mem_cons_of_mem _ hw)⟩, hw.2, hI, fun _ h => h, hN⟩ ⟨hw.1, va_S.rf⟩ B.returns B.notSynchronized hl
section FB
variable {p : Program} {l : Launch} {e : Env} {R : Room} {s : State} {m : MethodId} {args : Array Value} {below : List Frame} {meth : Method} {c : Code} {H : Heap} {locs : List Loc} {cells slots : Nat} {Q : State → Prop}
variable {cc : ByteArray} {pc nL : Nat} {ls : Array Slot} {rest : List Value} {own : String} {g : fb_G} {ks : List Nat} {A : Nat → Prop} {H0 : Heap} {σ : fb_S}
theorem fb_topi {x v : Int32} (ex : x = v) (k : W p l e R s m args below meth c H locs cells slots Q (F0 m pc ls (.int x :: rest))) : W p l e R s m args below meth c H locs cells slots Q (F0 m pc ls (.int v :: rest)) := by rw [← ex]; exact k
theorem fb_topl {x v : Int64} (ex : x = v) (k : W p l e R s m args below meth c H locs cells slots Q (F0 m pc ls (.long x :: rest))) : W p l e R s m args below meth c H locs cells slots Q (F0 m pc ls (.long v :: rest)) := by rw [← ex]; exact k
theorem fb_get (X : fb_X p m c cc nL s args own g ks A) (h : fb_H g ks A H0 σ H locs) {k ci f index : Nat} {C : String} {T : u_T} {N : Nat} {fs : List Value} {v : Value} (hk : k ∈ ks) (he : fb_cell g (σ.1 k) σ.2 k = .inr (ci, fs)) (hc : fb_cl[ci]? = some (C, T, N)) (hin : ∀ w ∈ u_ws C T N, w ∈ fb_tbl) (hf : f < N) (hl : Cond.fieldLink own index (T f).1 (T f).2.1 (T f).2.2.1 ∈ fb_tbl) (hv : fs[f]? = some v) (hdg : decode cc pc = .ok (.getfield index, 3))
    (kk : W p l e R s m args below meth c H locs cells slots Q (F0 m (pc + 3) ls (v :: rest))) : W p l e R s m args below meth c H locs cells slots Q (F0 m pc ls (.ref (g.1 k) :: rest)) := by
  obtain ⟨q0, -, hq⟩ := fb_at g σ hk
  rw [he] at hq
  exact va_get X.1.1 X.1.2.1 X.1.2.2.2.2 hin X.1.2.2.2.1 X.2.1 h.1 q0 hq hc f hf (X.1.2.2.2.2 _ hl) (fun _ h => h) hv hdg kk
theorem fb_getN (X : fb_X p m c cc nL s args own g ks A) (h : fb_H g ks A H0 σ H locs) {k ci f index : Nat} {C host : String} {T : u_T} {N : Nat} {fs : List Value} {v : Value} (hk : k ∈ ks) (he : fb_cell g (σ.1 k) σ.2 k = .inr (ci, fs)) (hc : fb_cl[ci]? = some (C, T, N)) (hin : ∀ w ∈ u_ws C T N, w ∈ fb_tbl) (hf : f < N) (hl : Cond.fieldLinkNest own index (T f).1 (T f).2.1 (T f).2.2.1 host ∈ fb_nest) (hv : fs[f]? = some v) (hdg : decode cc pc = .ok (.getfield index, 3))
    (kk : W p l e R s m args below meth c H locs cells slots Q (F0 m (pc + 3) ls (v :: rest))) : W p l e R s m args below meth c H locs cells slots Q (F0 m pc ls (.ref (g.1 k) :: rest)) := by
  obtain ⟨q0, -, hq⟩ := fb_at g σ hk
  rw [he] at hq
  exact va_getN X.1.1 X.1.2.1 X.1.2.2.2.2 hin X.1.2.2.2.1 X.2.1 h.1 q0 hq hc f hf (va_Nw.use rfl (X.2.2.2.2 _ hl)) (fun _ h => h) hv hdg kk
theorem fb_put (X : fb_X p m c cc nL s args own g ks A) (h : fb_H g ks A H0 σ H locs) {k ci f jp index : Nat} {C : String} {T : u_T} {ty0 : Nat → FieldType} {N : Nat} {fs : List Value} {x : Int32} {ty : FieldType} (hk : k ∈ ks) (he : fb_cell g (σ.1 k) σ.2 k = .inr (ci, fs)) (he2 : fb_cell g (upd (σ.1 k) jp x) σ.2 k = .inr (ci, fs.set f (.int x))) (hc : fb_cl[ci]? = some (C, T, N)) (hin : ∀ w ∈ u_ws C T N, w ∈ fb_tbl) (hty : ∀ k, k < N → parseFieldDescriptor (T k).2.2.1 = some (ty0 k)) (hnm : ∀ a, a < N → ∀ b, b < N → a ≠ b → (T a).2.1 ≠ (T b).2.1) (hf : f < N) (hl : Cond.fieldLink own index (T f).1 (T f).2.1 (T f).2.2.1 ∈ fb_tbl) (hfin : (T f).2.2.2 = false) (hd : parseFieldDescriptor (T f).2.2.1 = some ty) (hn : narrow ty (.int x) = .int x) (hfit : fits ty (.int x) = true) (hfl : f < fs.length) (hdg : decode cc pc = .ok (.putfield index, 3))
    (kk : ∀ (H1 : Heap) (locs1 : List Loc), fb_H g ks A H0 (fb_up σ k jp x) H1 locs1 → W p l e R s m args below meth c H1 locs1 cells slots Q (F0 m (pc + 3) ls rest)) : W p l e R s m args below meth c H locs cells slots Q (F0 m pc ls (.int x :: .ref (g.1 k) :: rest)) := by
  obtain ⟨q0, hk0, hq⟩ := fb_at g σ hk
  rw [he] at hq
  refine va_put X.1.1 X.1.2.1 X.1.2.2.2.2 hin ty0 hty hnm X.1.2.2.2.1 X.2.1 h.1 (fb_D X.2.2.1 X.2.2.2.1 σ) h.2 q0 hq hc f hf (X.1.2.2.2.2 _ hl) (fun _ h => h) hfin hd hn hfit hfl hdg (fun H1 locs1 h1 _ h3 => kk H1 locs1 ⟨?_, h3⟩)
  rw [fb_set g σ X.2.2.1.1 hk0 jp x he2.symm] at h1
  exact h1
theorem fb_iald (X : fb_X p m c cc nL s args own g ks A) (h : fb_H g ks A H0 σ H locs) {k n : Nat} (hk : k ∈ ks) (he : fb_cell g (σ.1 k) σ.2 k = .inl (g.2.2.1, n, .inl (σ.1 k))) {i : Int32} (hi : fb_in i n = true) (hdg : decode cc pc = .ok (.iaload, 1))
    (kk : W p l e R s m args below meth c H locs cells slots Q (F0 m (pc + 1) ls (.int (σ.1 k i.toNatClampNeg) :: rest))) : W p l e R s m args below meth c H locs cells slots Q (F0 m pc ls (.int i :: .ref (g.1 k) :: rest)) := by
  obtain ⟨q0, -, hq⟩ := fb_at g σ hk
  rw [he] at hq
  exact va_iald X.1.1 X.1.2.1 X.2.1 h.1 q0 0 hq rfl (fb_in_vp hi) hdg kk
theorem fb_iast (X : fb_X p m c cc nL s args own g ks A) (h : fb_H g ks A H0 σ H locs) {k n : Nat} (hk : k ∈ ks) (he : ∀ r, fb_cell g r σ.2 k = .inl (g.2.2.1, n, .inl r)) {i x : Int32} (hi : fb_in i n = true) (hdg : decode cc pc = .ok (.iastore, 1))
    (kk : ∀ (H1 : Heap) (locs1 : List Loc), fb_H g ks A H0 (fb_up σ k i.toNatClampNeg x) H1 locs1 → W p l e R s m args below meth c H1 locs1 cells slots Q (F0 m (pc + 1) ls rest)) : W p l e R s m args below meth c H locs cells slots Q (F0 m pc ls (.int x :: .int i :: .ref (g.1 k) :: rest)) := by
  obtain ⟨q0, hk0, hq⟩ := fb_at g σ hk
  rw [he] at hq
  refine va_iast X.1.1 X.1.2.1 X.2.1 h.1 (fb_D X.2.2.1 X.2.2.2.1 σ) h.2 q0 0 hq rfl (fb_in_vp hi) hdg (fun H1 locs1 h1 _ h3 => kk H1 locs1 ⟨?_, h3⟩)
  rw [fb_set g σ X.2.2.1.1 hk0 i.toNatClampNeg x (he _).symm] at h1
  exact h1
theorem fb_zald (X : fb_X p m c cc nL s args own g ks A) (h : fb_H g ks A H0 σ H locs) {k n : Nat} (hk : k ∈ ks) (he : fb_cell g (σ.1 k) σ.2 k = .inl (g.2.2.2.2, n, .inl (σ.1 k))) {i : Int32} (hi : fb_in i n = true) (hdg : decode cc pc = .ok (.baload, 1))
    (kk : W p l e R s m args below meth c H locs cells slots Q (F0 m (pc + 1) ls (.int (σ.1 k i.toNatClampNeg) :: rest))) : W p l e R s m args below meth c H locs cells slots Q (F0 m pc ls (.int i :: .ref (g.1 k) :: rest)) := by
  obtain ⟨q0, -, hq⟩ := fb_at g σ hk
  rw [he] at hq
  exact va_zald X.1.1 X.1.2.1 X.2.1 h.1 q0 2 hq rfl (fb_in_vp hi) hdg kk
def fb_z (x : Int32) : Int32 := vp_nar .boolean x
theorem fb_zast (X : fb_X p m c cc nL s args own g ks A) (h : fb_H g ks A H0 σ H locs) {k n : Nat} (hk : k ∈ ks) (he : ∀ r, fb_cell g r σ.2 k = .inl (g.2.2.2.2, n, .inl r)) {i x : Int32} (hi : fb_in i n = true) (hdg : decode cc pc = .ok (.bastore, 1))
    (kk : ∀ (H1 : Heap) (locs1 : List Loc), fb_H g ks A H0 (fb_up σ k i.toNatClampNeg (fb_z x)) H1 locs1 → W p l e R s m args below meth c H1 locs1 cells slots Q (F0 m (pc + 1) ls rest)) : W p l e R s m args below meth c H locs cells slots Q (F0 m pc ls (.int x :: .int i :: .ref (g.1 k) :: rest)) := by
  obtain ⟨q0, hk0, hq⟩ := fb_at g σ hk
  rw [he] at hq
  refine va_zast X.1.1 X.1.2.1 X.2.1 h.1 (fb_D X.2.2.1 X.2.2.2.1 σ) h.2 q0 2 hq rfl (fb_in_vp hi) hdg (fun H1 locs1 h1 _ h3 => kk H1 locs1 ⟨?_, h3⟩)
  rw [fb_set g σ X.2.2.1.1 hk0 i.toNatClampNeg (vp_nar .boolean x) (he _).symm] at h1
  exact h1
theorem fb_lald (X : fb_X p m c cc nL s args own g ks A) (h : fb_H g ks A H0 σ H locs) (hk : 5 ∈ ks) {i : Int32} (hi : fb_in i 6 = true) (hdg : decode cc pc = .ok (.laload, 1))
    (kk : W p l e R s m args below meth c H locs cells slots Q (F0 m (pc + 1) ls (.long (σ.2 i.toNatClampNeg) :: rest))) : W p l e R s m args below meth c H locs cells slots Q (F0 m pc ls (.int i :: .ref (g.1 5) :: rest)) := by
  obtain ⟨q0, -, hq⟩ := fb_at g σ hk
  exact va_lald X.1.1 X.1.2.1 X.2.1 h.1 q0 1 hq rfl (fb_in_vp hi) hdg kk
theorem fb_last (X : fb_X p m c cc nL s args own g ks A) (h : fb_H g ks A H0 σ H locs) (hk : 5 ∈ ks) {i : Int32} {x : Int64} (hi : fb_in i 6 = true) (hdg : decode cc pc = .ok (.lastore, 1))
    (kk : ∀ (H1 : Heap) (locs1 : List Loc), fb_H g ks A H0 (fb_upL σ i.toNatClampNeg x) H1 locs1 → W p l e R s m args below meth c H1 locs1 cells slots Q (F0 m (pc + 1) ls rest)) : W p l e R s m args below meth c H locs cells slots Q (F0 m pc ls (.long x :: .int i :: .ref (g.1 5) :: rest)) := by
  obtain ⟨q0, hk0, hq⟩ := fb_at g σ hk
  refine va_last X.1.1 X.1.2.1 X.2.1 h.1 (fb_D X.2.2.1 X.2.2.2.1 σ) h.2 q0 1 hq rfl (fb_in_vp hi) hdg (fun H1 locs1 h1 _ h3 => kk H1 locs1 ⟨?_, h3⟩)
  rw [fb_setL5 g σ X.2.2.1.1 hk0 i.toNatClampNeg x] at h1
  exact h1
theorem fb_hald (X : fb_X p m c cc nL s args own g ks A) (h : fb_H g ks A H0 σ H locs) {k n : Nat} (hk : k ∈ ks) (he : fb_cell g (σ.1 k) σ.2 k = .inl (g.2.2.2.1, n, .inr (.inl (hjf (σ.1 k))))) {i : Int32} (hi : fb_in i n = true) (hdg : decode cc pc = .ok (.laload, 1))
    (kk : W p l e R s m args below meth c H locs cells slots Q (F0 m (pc + 1) ls (.long (hjf (σ.1 k) i.toNatClampNeg) :: rest))) : W p l e R s m args below meth c H locs cells slots Q (F0 m pc ls (.int i :: .ref (g.1 k) :: rest)) := by
  obtain ⟨q0, -, hq⟩ := fb_at g σ hk
  rw [he] at hq
  exact va_lald X.1.1 X.1.2.1 X.2.1 h.1 q0 1 hq rfl (fb_in_vp hi) hdg kk
theorem fb_hast (X : fb_X p m c cc nL s args own g ks A) (h : fb_H g ks A H0 σ H locs) {k n : Nat} (hk : k ∈ ks) (he : ∀ r, fb_cell g r σ.2 k = .inl (g.2.2.2.1, n, .inr (.inl (hjf r)))) {i : Int32} {x : Int64} (hi : fb_in i n = true) (hdg : decode cc pc = .ok (.lastore, 1))
    (kk : ∀ (H1 : Heap) (locs1 : List Loc), fb_H g ks A H0 (fb_upH σ k i.toNatClampNeg x) H1 locs1 → W p l e R s m args below meth c H1 locs1 cells slots Q (F0 m (pc + 1) ls rest)) : W p l e R s m args below meth c H locs cells slots Q (F0 m pc ls (.long x :: .int i :: .ref (g.1 k) :: rest)) := by
  obtain ⟨q0, hk0, hq⟩ := fb_at g σ hk
  rw [he] at hq
  refine va_last X.1.1 X.1.2.1 X.2.1 h.1 (fb_D X.2.2.1 X.2.2.2.1 σ) h.2 q0 1 hq rfl (fb_in_vp hi) hdg (fun H1 locs1 h1 _ h3 => kk H1 locs1 ⟨?_, h3⟩)
  rw [fb_setH g σ X.2.2.1.1 hk0 i.toNatClampNeg x he] at h1
  exact h1
theorem fb_alenH (X : fb_X p m c cc nL s args own g ks A) (h : fb_H g ks A H0 σ H locs) {k n : Nat} (hk : k ∈ ks) (he : fb_cell g (σ.1 k) σ.2 k = .inl (g.2.2.2.1, n, .inr (.inl (hjf (σ.1 k))))) (hdg : decode cc pc = .ok (.arraylength, 1))
    (kk : W p l e R s m args below meth c H locs cells slots Q (F0 m (pc + 1) ls (.int (nI n) :: rest))) : W p l e R s m args below meth c H locs cells slots Q (F0 m pc ls (.ref (g.1 k) :: rest)) := by
  obtain ⟨q0, -, hq⟩ := fb_at g σ hk
  rw [he] at hq
  exact va_alen X.1.1 X.1.2.1 X.2.1 h.1 q0 1 hq rfl rfl hdg kk
theorem fb_alen (X : fb_X p m c cc nL s args own g ks A) (h : fb_H g ks A H0 σ H locs) {k n : Nat} (hk : k ∈ ks) (he : fb_cell g (σ.1 k) σ.2 k = .inl (g.2.2.1, n, .inl (σ.1 k))) (hdg : decode cc pc = .ok (.arraylength, 1))
    (kk : W p l e R s m args below meth c H locs cells slots Q (F0 m (pc + 1) ls (.int (nI n) :: rest))) : W p l e R s m args below meth c H locs cells slots Q (F0 m pc ls (.ref (g.1 k) :: rest)) := by
  obtain ⟨q0, -, hq⟩ := fb_at g σ hk
  rw [he] at hq
  exact va_alen X.1.1 X.1.2.1 X.2.1 h.1 q0 0 hq rfl rfl hdg kk
/-- the end of a method -/
theorem fb_ir {r : Int32} (X : fb_X p m c cc nL s args own g ks A) (h : fb_H g ks (fb_A g ks) s.heap σ H locs) (hr : meth.sig.returnType = some .int) (hlocks : meth.locks = false) (hdg : decode cc pc = .ok (.ireturn, 1)) : W p l e R s m args below meth c H locs 0 0 (MQ below (fb_Qi g ks r σ) args s 0 0 (fb_A g ks)) (F0 m pc ls [.int r]) :=
  W.iret (v := r) X.1.1 X.1.2.1 hr (fun t ht hW => ⟨⟨r, (), rfl, rfl, by rw [ht]; exact h.1, va_K.moved hW.alike X.2.1⟩, h.2.F ht⟩) h.2.2.2 hdg hlocks
theorem fb_zr {r : Int32} (X : fb_X p m c cc nL s args own g ks A) (h : fb_H g ks (fb_A g ks) s.heap σ H locs) (hr : meth.sig.returnType = some .boolean) (hn : narrow .boolean (.int r) = .int r) (hlocks : meth.locks = false) (hdg : decode cc pc = .ok (.ireturn, 1)) : W p l e R s m args below meth c H locs 0 0 (MQ below (fb_Qi g ks r σ) args s 0 0 (fb_A g ks)) (F0 m pc ls [.int r]) :=
  W.zret (v := r) X.1.1 X.1.2.1 hr hn (fun t ht hW => ⟨⟨r, (), rfl, rfl, by rw [ht]; exact h.1, va_K.moved hW.alike X.2.1⟩, h.2.F ht⟩) h.2.2.2 hdg hlocks
theorem fb_lr {r : Int64} (X : fb_X p m c cc nL s args own g ks A) (h : fb_H g ks (fb_A g ks) s.heap σ H locs) (hr : meth.sig.returnType = some .long) (hlocks : meth.locks = false) (hdg : decode cc pc = .ok (.lreturn, 1)) : W p l e R s m args below meth c H locs 0 0 (MQ below (fb_Ql g ks r σ) args s 0 0 (fb_A g ks)) (F0 m pc ls [.long r]) :=
  W.lret (v := r) X.1.1 X.1.2.1 hr (fun t ht hW => ⟨⟨r, (), rfl, rfl, by rw [ht]; exact h.1, va_K.moved hW.alike X.2.1⟩, h.2.F ht⟩) h.2.2.2 hdg hlocks
theorem fb_vr (X : fb_X p m c cc nL s args own g ks A) (h : fb_H g ks (fb_A g ks) s.heap σ H locs) (hr : meth.sig.returnType = none) (hlocks : meth.locks = false) (hdg : decode cc pc = .ok (.return_, 1)) : W p l e R s m args below meth c H locs 0 0 (MQ below (fb_Qv g ks σ) args s 0 0 (fb_A g ks)) (F0 m pc ls []) :=
  W.vret X.1.1 X.1.2.1 hr (fun t ht hW => ⟨⟨(), rfl, trivial, by rw [ht]; exact h.1, va_K.moved hW.alike X.2.1⟩, h.2.F ht⟩) h.2.2.2 hdg hlocks
/-- calls -/
theorem fb_pre (X : fb_X p m c cc nL s args own g ks A) (h : fb_H g ks A H0 σ H locs) (av : List Value) : PreS s H (va_Pc av (fb_W g ks σ)) av := by
  refine ⟨fun a U fr mk q => ?_, fun U hU hW => ?_⟩
  · obtain ⟨q0, ⟨q1, q2⟩, q3⟩ := q
    exact ⟨q0, ⟨q1, va_K.moved (u := U) (U := U.calling fr mk a) (Vm.Alike.refl U.vm) q2⟩, fb_N_same (u := U) (U := U.calling fr mk a) rfl q3⟩
  · exact ⟨rfl, ⟨by rw [hU]; exact h.1, va_K.moved hW.alike X.2.1⟩, fb_N_warm hW X.2.2.2.2⟩
abbrev fb_yd (y : MethodName) (n : Nat) : Prop := y.cls ≠ "java/lang/invoke/MethodHandle" ∧ y.cls ≠ "java/lang/invoke/VarHandle" ∧ (parseMethodDescriptor y.desc).map (fun d => d.parameters.length) = some n
variable {y : MethodName} {bytes : ByteArray} {maxL fr lo n index : Nat} {ret : Option FieldType} {Qc : Array Value → State → Outcome → State → Prop} {As st0 : List Value}
theorem fb_runS (X : fb_X p m c cc nL s args own g ks A) (h : fb_H g ks A H0 σ H locs) (hM : fb_M l y bytes maxL ret fr lo g ks As σ Qc) (hf : (Cond.code y bytes maxL ret ∈ fb_tbl ∧ Cond.static y ∈ fb_tbl ∧ Cond.initialized y.cls ∈ fb_tbl) ∧ fb_yd y n) (hl : Cond.methodLink own index y ∈ fb_tbl) (hR : fr + 1 ≤ R.frames ∧ 8 + (maxL + 11) + lo ≤ R.locals) (hc : cells ≤ R.cells ∧ slots ≤ R.slots) (hn : As.length = n) (hsz : ls.size = nL) (hst : st0 = As.reverse ++ rest) (hW : (rest.map fun v => v.category).sum ≤ 8) (hdg : decode cc pc = .ok (.invokestatic index, 3)) :
    va_Run p l e R s m args below meth c H locs cells slots 0 0 (F0 m pc ls st0) rest (Qc As.toArray) (fb_A g ks) := by
  have ht := X.1.2.2.2.2
  exact va_runS (As := As) X.1 hM ⟨callB_of n ht (fb_good y bytes maxL ret hf.1.1) rfl rfl rfl (ht _ hf.1.2.2) (ht _ hl) hf.2 hR, ht _ hf.1.2.1⟩ (fb_pre X h As) rfl hn hsz hst (lv_room hW) hdg hc
theorem fb_runSN {host : String} (X : fb_X p m c cc nL s args own g ks A) (h : fb_H g ks A H0 σ H locs) (hM : fb_M l y bytes maxL ret fr lo g ks As σ Qc) (hf : (Cond.code y bytes maxL ret ∈ fb_tbl ∧ Cond.static y ∈ fb_tbl ∧ Cond.initialized y.cls ∈ fb_tbl) ∧ fb_yd y n) (hl : Cond.methodLinkNest own index y host ∈ fb_nest) (hR : fr + 1 ≤ R.frames ∧ 8 + (maxL + 11) + lo ≤ R.locals) (hc : cells ≤ R.cells ∧ slots ≤ R.slots) (hn : As.length = n) (hsz : ls.size = nL) (hst : st0 = As.reverse ++ rest) (hW : (rest.map fun v => v.category).sum ≤ 8) (hdg : decode cc pc = .ok (.invokestatic index, 3)) :
    va_Run p l e R s m args below meth c H locs cells slots 0 0 (F0 m pc ls st0) rest (Qc As.toArray) (fb_A g ks) := by
  have ht := X.1.2.2.2.2
  exact va_runSN (As := As) X.1 hM ⟨va_cnB n ht (fb_good y bytes maxL ret hf.1.1) rfl rfl rfl (X.2.2.2.2 _ hl) (ht _ hf.1.2.2) hf.2 hR, ht _ hf.1.2.1, trivial⟩ (fb_pre X h As) rfl hn hsz hst (lv_room hW) hdg hc
theorem fb_preV (X : fb_X p m c cc nL s args own g ks A) (h : fb_H g ks A H0 σ H locs) {k ci : Nat} {C : String} {T : u_T} {N : Nat} {fs : List Value} (hk : k ∈ ks) (he : fb_cell g (σ.1 k) σ.2 k = .inr (ci, fs)) (hc : fb_cl[ci]? = some (C, T, N)) : ∃ cellB : Cell, H[g.1 k]? = some cellB ∧ cellB.vm.isStatics = false ∧ s.vm.findClass C = some cellB.cls := by
  obtain ⟨q0, -, hq⟩ := fb_at g σ hk
  rw [he] at hq
  exact va_recv X.2.1 h.1 hc hq
theorem fb_runV {k ci : Nat} {C : String} {T : u_T} {N : Nat} {fs : List Value} (X : fb_X p m c cc nL s args own g ks A) (h : fb_H g ks A H0 σ H locs) (hM : fb_M l y bytes maxL ret fr lo g ks (.ref (g.1 k) :: As) σ Qc) (hf : (Cond.code y bytes maxL ret ∈ fb_tbl ∧ Cond.instanceMethod y ∈ fb_tbl ∧ Cond.selects C y y ∈ fb_tbl ∧ Cond.initialized y.cls ∈ fb_tbl) ∧ fb_yd y n) (hl : Cond.methodLink own index y ∈ fb_tbl) (hk : k ∈ ks) (he : fb_cell g (σ.1 k) σ.2 k = .inr (ci, fs)) (hcl : fb_cl[ci]? = some (C, T, N)) (hR : fr + 1 ≤ R.frames ∧ 8 + (maxL + 11) + lo ≤ R.locals) (hc : cells ≤ R.cells ∧ slots ≤ R.slots) (hn : As.length = n) (hsz : ls.size = nL) (hst : st0 = As.reverse ++ .ref (g.1 k) :: rest) (hW : (rest.map fun v => v.category).sum ≤ 8) (hdg : decode cc pc = .ok (.invokevirtual index, 3)) :
    va_Run p l e R s m args below meth c H locs cells slots 0 0 (F0 m pc ls st0) rest (Qc (.ref (g.1 k) :: As).toArray) (fb_A g ks) := by
  have ht := X.1.2.2.2.2
  exact va_runV (As := As) (C := C) X.1 hM ⟨callB_of n ht (fb_good y bytes maxL ret hf.1.1) rfl rfl rfl (ht _ hf.1.2.2.2) (ht _ hl) hf.2 hR, ht _ hf.1.2.1, ht _ hf.1.2.2.1⟩ ⟨(fb_pre X h (.ref (g.1 k) :: As)).1, fb_preV X h hk he hcl, (fb_pre X h (.ref (g.1 k) :: As)).2⟩ rfl hn hsz hst (lv_room hW) hdg hc
theorem fb_runVN {host : String} {k ci : Nat} {C : String} {T : u_T} {N : Nat} {fs : List Value} (X : fb_X p m c cc nL s args own g ks A) (h : fb_H g ks A H0 σ H locs) (hM : fb_M l y bytes maxL ret fr lo g ks (.ref (g.1 k) :: As) σ Qc) (hf : (Cond.code y bytes maxL ret ∈ fb_tbl ∧ Cond.instanceMethod y ∈ fb_tbl ∧ Cond.selects C y y ∈ fb_tbl ∧ Cond.initialized y.cls ∈ fb_tbl) ∧ fb_yd y n) (hl : Cond.methodLinkNest own index y host ∈ fb_nest) (hk : k ∈ ks) (he : fb_cell g (σ.1 k) σ.2 k = .inr (ci, fs)) (hcl : fb_cl[ci]? = some (C, T, N)) (hR : fr + 1 ≤ R.frames ∧ 8 + (maxL + 11) + lo ≤ R.locals) (hc : cells ≤ R.cells ∧ slots ≤ R.slots) (hn : As.length = n) (hsz : ls.size = nL) (hst : st0 = As.reverse ++ .ref (g.1 k) :: rest) (hW : (rest.map fun v => v.category).sum ≤ 8) (hdg : decode cc pc = .ok (.invokevirtual index, 3)) :
    va_Run p l e R s m args below meth c H locs cells slots 0 0 (F0 m pc ls st0) rest (Qc (.ref (g.1 k) :: As).toArray) (fb_A g ks) := by
  have ht := X.1.2.2.2.2
  exact va_runVN (As := As) (C := C) X.1 hM ⟨va_cnB n ht (fb_good y bytes maxL ret hf.1.1) rfl rfl rfl (X.2.2.2.2 _ hl) (ht _ hf.1.2.2.2) hf.2 hR, ht _ hf.1.2.1, ht _ hf.1.2.2.1⟩ ⟨(fb_pre X h (.ref (g.1 k) :: As)).1, fb_preV X h hk he hcl, (fb_pre X h (.ref (g.1 k) :: As)).2⟩ rfl hn hsz hst (lv_room hW) hdg hc
theorem fb_ci {a : Array Value} {r : Int32} {σ2 : fb_S} (X : fb_X p m c cc nL s args own g ks A) (h : fb_H g ks A H0 σ H locs) (hr : va_Run p l e R s m args below meth c H locs cells slots 0 0 (F0 m pc ls st0) rest (fb_Qi g ks r σ2 a) (fb_A g ks))
    (kk : ∀ (H1 : Heap) (locs1 : List Loc), fb_H g ks A H0 σ2 H1 locs1 → W p l e R s m args below meth c H1 locs1 cells slots Q (F0 m (pc + 3) ls (.int r :: rest))) : W p l e R s m args below meth c H locs cells slots Q (F0 m pc ls st0) :=
  va_calli hr h.2 (fun q _ hq => X.2.2.2.1 q hq) X.2.2.2.1 (fun r' _ t H1 locs1 ht _ hp hB _ _ hS => by subst hp; exact kk H1 locs1 ⟨by rw [← ht]; exact hB.1, hS⟩)
theorem fb_cl' {a : Array Value} {r : Int64} {σ2 : fb_S} (X : fb_X p m c cc nL s args own g ks A) (h : fb_H g ks A H0 σ H locs) (hr : va_Run p l e R s m args below meth c H locs cells slots 0 0 (F0 m pc ls st0) rest (fb_Ql g ks r σ2 a) (fb_A g ks))
    (kk : ∀ (H1 : Heap) (locs1 : List Loc), fb_H g ks A H0 σ2 H1 locs1 → W p l e R s m args below meth c H1 locs1 cells slots Q (F0 m (pc + 3) ls (.long r :: rest))) : W p l e R s m args below meth c H locs cells slots Q (F0 m pc ls st0) :=
  va_calll hr h.2 (fun q _ hq => X.2.2.2.1 q hq) X.2.2.2.1 (fun r' _ t H1 locs1 ht _ hp hB _ _ hS => by subst hp; exact kk H1 locs1 ⟨by rw [← ht]; exact hB.1, hS⟩)
theorem fb_cv {a : Array Value} {σ2 : fb_S} (X : fb_X p m c cc nL s args own g ks A) (h : fb_H g ks A H0 σ H locs) (hr : va_Run p l e R s m args below meth c H locs cells slots 0 0 (F0 m pc ls st0) rest (fb_Qv g ks σ2 a) (fb_A g ks))
    (kk : ∀ (H1 : Heap) (locs1 : List Loc), fb_H g ks A H0 σ2 H1 locs1 → W p l e R s m args below meth c H1 locs1 cells slots Q (F0 m (pc + 3) ls rest)) : W p l e R s m args below meth c H locs cells slots Q (F0 m pc ls st0) :=
  va_callv hr h.2 (fun q _ hq => X.2.2.2.1 q hq) X.2.2.2.1 (fun _ t H1 locs1 ht _ _ hB _ _ hS => kk H1 locs1 ⟨by rw [← ht]; exact hB.1, hS⟩)
theorem fb_max (X : fb_X p m c cc nL s args own g ks A) (hsz : ls.size = nL) (hl : Cond.methodLink own index Lib.Math.max.name ∈ fb_tbl) (hf : 1 ≤ R.frames) (hW : (rest.map fun v => v.category).sum + 13 ≤ R.locals) (hc : cells ≤ R.cells ∧ slots ≤ R.slots) {x y : Int32} (hdg : decode cc pc = .ok (.invokestatic index, 3))
    (kk : W p l e R s m args below meth c H locs cells slots Q (F0 m (pc + 3) ls (.int (if x < y then y else x) :: rest))) : W p l e R s m args below meth c H locs cells slots Q (F0 m pc ls (.int y :: .int x :: rest)) :=
  va_mmax X.1.1 X.1.2.1 (X.1.2.2.1.trans hsz.symm) X.1.2.2.2.1 (X.1.2.2.2.2 _ hl) (X.1.2.2.2.2 _ fb_mx.1) (X.1.2.2.2.2 _ fb_mx.2.2) (X.1.2.2.2.2 _ fb_mx.2.1) hf hW hc.1 hc.2 hdg kk
theorem fb_min (X : fb_X p m c cc nL s args own g ks A) (hsz : ls.size = nL) (hl : Cond.methodLink own index Lib.Math.min.name ∈ fb_tbl) (hf : 1 ≤ R.frames) (hW : (rest.map fun v => v.category).sum + 13 ≤ R.locals) (hc : cells ≤ R.cells ∧ slots ≤ R.slots) {x y : Int32} (hdg : decode cc pc = .ok (.invokestatic index, 3))
    (kk : W p l e R s m args below meth c H locs cells slots Q (F0 m (pc + 3) ls (.int (if y < x then y else x) :: rest))) : W p l e R s m args below meth c H locs cells slots Q (F0 m pc ls (.int y :: .int x :: rest)) :=
  va_mmin X.1.1 X.1.2.1 (X.1.2.2.1.trans hsz.symm) X.1.2.2.2.1 (X.1.2.2.2.2 _ hl) (X.1.2.2.2.2 _ fb_mn.1) (X.1.2.2.2.2 _ fb_mn.2.2) (X.1.2.2.2.2 _ fb_mn.2.1) hf hW hc.1 hc.2 hdg kk
end FB
