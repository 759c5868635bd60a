/-! the sway: net and beat -/
theorem x32_nonneg (x : Int32) : 0 ≤ x ↔ x.toBitVec.msb = false := by
  rw [t_le]
  have : (0 : Int32).toInt = 0 := rfl
  rw [this, BitVec.msb_eq_toInt]
  show 0 ≤ x.toBitVec.toInt ↔ _
  simp
theorem xor_1000 (x : Int32) : 0 ≤ (x ^^^ (1000 : Int32)) ↔ 0 ≤ x := by
  rw [x32_nonneg, x32_nonneg]
  have : (x ^^^ (1000 : Int32)).toBitVec = x.toBitVec ^^^ (1000 : Int32).toBitVec := rfl
  rw [this, BitVec.msb_xor]
  have h : (1000 : Int32).toBitVec.msb = false := by decide
  rw [h]
  simp
theorem tdivp {a : Int} (h : 0 ≤ a) (b : Int) : a.tdiv b = a / b := Int.tdiv_eq_ediv_of_nonneg h
theorem tdivn {a : Int} (h : a < 0) : a.tdiv 1000 = -((-a) / 1000) := by
  have e : a = -(-a) := by omega
  rw [e, Int.neg_tdiv, tdivp (by omega)]
  simp
theorem fdiv_ok {a : Int} (h1 : -2000000000 ≤ a) (h2 : a ≤ 2000000000) : f_J9_floorDiv_7cf53 (iI a) 1000 = some (iI (a / 1000)) := by
  unfold f_J9_floorDiv_7cf53
  have e1000 : (1000 : Int32) = iI 1000 := iI_lit 1000
  rw [ck_t (by decide), nm_e_]
  have hq : iI a / 1000 = iI (a.tdiv 1000) := by rw [e1000]; exact iI_div (by omega) (by omega) (by omega) (by omega)
  rw [hq]
  by_cases c : 0 ≤ a
  · rw [if_pos ((xor_1000 _).mpr (by rw [show (0 : Int32) = iI 0 from rfl, iI_le (by omega) (by omega) (by omega) (by omega)]; exact c)), tdivp c]
  · rw [if_neg (fun h => c (by
      have h := (xor_1000 _).mp h
      rw [show (0 : Int32) = iI 0 from rfl, iI_le (by omega) (by omega) (by omega) (by omega)] at h
      exact h)), tdivn (by omega), e1000, iI_mul]
    by_cases d : -((-a) / 1000) * 1000 = a
    · rw [if_pos (by rw [d])]
      congr 2
      omega
    · rw [if_neg (by rw [iI_eq (by omega) (by omega) (by omega) (by omega)]; exact d), show (1 : Int32) = iI 1 from rfl, iI_sub]
      congr 2
      omega
theorem iI_nat {z : Int} (h : 0 ≤ z) : iI z = nI z.toNat := by
  rw [iI_n]
  congr 1
  omega
theorem vnet {v : Nat} {net : Int} (hv : v ≤ 9999) (h1 : -10000 ≤ net) (h2 : net ≤ 10000) : -99990000 ≤ (v : Int) * net ∧ (v : Int) * net ≤ 99990000 := by
  have a1 : (v : Int) * net ≤ (v : Int) * 10000 := Int.mul_le_mul_of_nonneg_left h2 (by omega)
  have a2 : (v : Int) * (-10000) ≤ (v : Int) * net := Int.mul_le_mul_of_nonneg_left h1 (by omega)
  omega
theorem bz_le (v : Nat) (net : Int) : bz v net ≤ 9999 := by unfold bz; omega
theorem mn_i {a b : Int} (h1 : -2147483648 ≤ a) (h2 : a ≤ 2147483647) (h3 : -2147483648 ≤ b) (h4 : b ≤ 2147483647) : mn_ (iI a) (iI b) = iI (min a b) := by
  unfold mn_
  by_cases c : b < a
  · rw [if_pos ((iI_lt h3 h4 h1 h2).mpr c)]
    congr 1
    omega
  · rw [if_neg (fun q => c ((iI_lt h3 h4 h1 h2).mp q))]
    congr 1
    omega
theorem mx_i {a b : Int} (h1 : -2147483648 ≤ a) (h2 : a ≤ 2147483647) (h3 : -2147483648 ≤ b) (h4 : b ≤ 2147483647) : mx_ (iI a) (iI b) = iI (max a b) := by
  unfold mx_
  by_cases c : a < b
  · rw [if_pos ((iI_lt h1 h2 h3 h4).mpr c)]
    congr 1
    omega
  · rw [if_neg (fun q => c ((iI_lt h1 h2 h3 h4).mp q))]
    congr 1
    omega
theorem X_beat {v : Nat} {net : Int} (hv : v ≤ 9999) (h1 : -10000 ≤ net) (h2 : net ≤ 10000) : f_X5_beat (nI v) (iI net) = some (nI (bz v net)) := by
  have hb := vnet hv h1 h2
  unfold f_X5_beat bz
  rw [iI_n, iI_mul, fdiv_ok (by omega) (by omega), Option.bind_some, nm_e_, iI_add]
  generalize hP : (v : Int) * net = P at hb ⊢
  rw [show (9999 : Int32) = iI 9999 from iI_lit 9999, show (0 : Int32) = iI 0 from rfl, mn_i (by omega) (by omega) (by omega) (by omega), mx_i (by omega) (by omega) (by omega) (by omega), iI_nat (by omega)]
theorem M_moved {v : Nat} {net : Int} (hv : v ≤ 9999) (h1 : -10000 ≤ net) (h2 : net ≤ 10000) : f_X6_moved (nI v) (iI net) = some (nI (bz v net)) := by
  have hb := vnet hv h1 h2
  unfold f_X6_moved bz
  rw [nm_e_, iI_n, iI_mul]
  generalize hP : (v : Int) * net = P at hb ⊢
  have key : ∀ s : Int, s = P / 1000 → f_X6_moved_L26 (iI v) (iI s) = some (nI (max 0 (min 9999 ((v : Int) + P / 1000))).toNat) := by
    intro s hs
    subst hs
    unfold f_X6_moved_L26 f_X6_lesser
    rw [nm_e_, iI_add, show (9999 : Int32) = iI 9999 from iI_lit 9999, show (0 : Int32) = iI 0 from rfl]
    by_cases c2 : 0 ≤ (v : Int) + P / 1000
    · rw [if_pos (by rw [iI_le (by omega) (by omega) (by omega) (by omega)]; exact c2)]
      by_cases c1 : 9999 ≤ (v : Int) + P / 1000
      · rw [if_pos (by rw [iI_le (by omega) (by omega) (by omega) (by omega)]; exact c1), Option.bind_some, iI_nat (by omega)]
        congr 2
        omega
      · rw [if_neg (by rw [iI_le (by omega) (by omega) (by omega) (by omega)]; exact c1), Option.bind_some, iI_nat (by omega)]
        congr 2
        omega
    · rw [if_neg (by rw [iI_le (by omega) (by omega) (by omega) (by omega)]; exact c2), iI_nat (by omega)]
      congr 2
      omega
  rw [show (0 : Int32) = iI 0 from rfl, show (999 : Int32) = iI 999 from iI_lit 999, show (1000 : Int32) = iI 1000 from iI_lit 1000]
  by_cases c : P < 0
  · rw [if_pos (by rw [iI_lt (by omega) (by omega) (by omega) (by omega)]; exact c), iI_sub, iI_div (by omega) (by omega) (by omega) (by omega), iI_neg]
    refine key _ ?_
    rw [tdivp (by omega)]
    omega
  · rw [if_neg (by rw [iI_lt (by omega) (by omega) (by omega) (by omega)]; exact c), iI_div (by omega) (by omega) (by omega) (by omega)]
    refine key _ ?_
    rw [tdivp (by omega)]
/-! the net -/
def Wr (pu lo st cr : Nat → Int32) : Prop := ∀ j, j < 4 → rg (pu j) 0 99 ∧ rg (lo j) 0 9999 ∧ rg (st j) 0 9999 ∧ rg (cr j) 0 999
theorem psum_b {pu lo st cr : Nat → Int32} (h : Wr pu lo st cr) (v : Int) : ∀ j, j ≤ 4 → 0 ≤ psum pu lo st cr v j ∧ psum pu lo st cr v j ≤ 98901 * j := by
  intro j
  induction j with
  | zero => intro _; exact ⟨Int.le_refl _, Int.le_refl _⟩
  | succ j ih =>
    intro hj
    have ih := ih (by omega)
    obtain ⟨a1, -, -, a4⟩ := h j (by omega)
    unfold rg at a1 a4
    have p1 : (cr j).toInt * (pu j).toInt ≤ 999 * 99 := Int.mul_le_mul (by omega) (by omega) (by omega) (by omega)
    have p2 : 0 ≤ (cr j).toInt * (pu j).toInt := Int.mul_nonneg (by omega) (by omega)
    unfold psum
    split <;> omega
theorem psum_c {pu lo st cr pu' lo' st' cr' : Nat → Int32} (v : Int) : ∀ j, (∀ i, i < j → pu' i = pu i ∧ lo' i = lo i ∧ st' i = st i ∧ cr' i = cr i) → psum pu' lo' st' cr' v j = psum pu lo st cr v j := by
  intro j
  induction j with
  | zero => intro _; rfl
  | succ j ih =>
    intro h
    obtain ⟨h1, h2, h3, h4⟩ := h j (by omega)
    unfold psum
    rw [ih (fun i hi => h i (by omega)), h1, h2, h3, h4]
theorem stp_c {pu lo st cr pu' lo' st' cr' : Nat → Int32} (h : ∀ i, i < 4 → pu' i = pu i ∧ lo' i = lo i ∧ st' i = st i ∧ cr' i = cr i) (d : Int) : stp pu' lo' st' cr' d = stp pu lo st cr d := by
  funext v
  unfold stp netz
  rw [psum_c _ 4 h]
theorem netz_b {pu lo st cr : Nat → Int32} (h : Wr pu lo st cr) {d : Int} (h1 : 0 ≤ d) (h2 : d ≤ 6000) (v : Int) : -10000 ≤ netz pu lo st cr d v ∧ netz pu lo st cr d v ≤ 10000 := by
  have := psum_b h v 4 (by omega)
  unfold netz
  omega
theorem stp_le (pu lo st cr : Nat → Int32) (d : Int) (v : Nat) : stp pu lo st cr d v ≤ 9999 := bz_le _ _
theorem X_inStep (σ : fb_S) {j : Nat} (hj : j < 4) (v : Int32) : f_X4_isInStep (nI j) v σ = some (if (σ.1 8 j).toInt ≤ v.toInt ∧ v.toInt ≤ (σ.1 9 j).toInt then 1 else 0) := by
  unfold f_X4_isInStep
  have hin : fb_in (nI j) 4 = true := in_n hj (by decide)
  rw [ck_t hin, ck_t hin, cl_n (by omega)]
  simp only [t_lt]
  split
  · rw [if_neg (by omega)]
  · split
    · rw [if_neg (by omega)]
    · rw [if_pos (by omega)]
theorem M_inStep (σ : fb_S) {j : Nat} (hj : j < 4) (v : Int32) : f_X6_inStepOf (nI j) v σ = some (if (σ.1 33 j).toInt ≤ v.toInt ∧ v.toInt ≤ (σ.1 34 j).toInt then 1 else 0) := by
  unfold f_X6_inStepOf
  have hin : fb_in (nI j) 4 = true := in_n hj (by decide)
  rw [ck_t hin, ck_t hin, cl_n (by omega)]
  simp only [t_lt]
  split
  · rw [if_neg (by omega)]
  · split
    · rw [if_neg (by omega)]
    · rw [if_pos (by omega)]
theorem mulI (x y : Int32) : x * y = iI (x.toInt * y.toInt) := by rw [← iI_mul, iI_self, iI_self]
theorem X_push (N : Nat) (σ : fb_S) (v : Int32) : ∀ (n j : Nat), j ≤ 4 → 4 - j < n → f_X4_pushAt_L4 N σ n v (iI (psum (σ.1 7) (σ.1 8) (σ.1 9) (σ.1 10) v.toInt j)) (nI j) = some (iI (psum (σ.1 7) (σ.1 8) (σ.1 9) (σ.1 10) v.toInt 4)) := by
  intro n
  induction n with
  | zero => intro j h1 h2; omega
  | succ n ih =>
    intro j h1 h2
    unfold f_X4_pushAt_L4
    by_cases hj : j = 4
    · subst hj
      rw [if_pos (by decide)]
    · rw [if_neg (lc_nle 4 (by omega) (by omega)), X_inStep σ (by omega), Option.bind_some, nI_1]
      have hin : fb_in (nI j) 4 = true := in_n (by omega) (by decide)
      have ih := ih (j + 1) (by omega) (by omega)
      unfold psum at ih
      by_cases c : (σ.1 8 j).toInt ≤ v.toInt ∧ v.toInt ≤ (σ.1 9 j).toInt
      · rw [if_pos c, if_neg z_1, ck_t hin, ck_t hin, nm_e_, cl_n (by omega), mulI, iI_add]
        rw [if_pos c] at ih
        exact ih
      · rw [if_neg c, if_pos rfl]
        rw [if_neg c, Int.add_zero] at ih
        exact ih
theorem X_push' (N : Nat) (hN : 40000 ≤ N) (σ : fb_S) (v : Int32) : f_X4_pushAt N v σ = some (iI (psum (σ.1 7) (σ.1 8) (σ.1 9) (σ.1 10) v.toInt 4)) := by
  unfold f_X4_pushAt
  exact X_push N σ v N 0 (by omega) (by omega)
theorem net_ok {pu lo st cr : Nat → Int32} (h : Wr pu lo st cr) (d v : Int) : iI (psum pu lo st cr v 4) / 100 - iI d = iI (netz pu lo st cr d v) := by
  have := psum_b h v 4 (by omega)
  rw [show (100 : Int32) = iI 100 from iI_lit 100, iI_div (by omega) (by omega) (by omega) (by omega), iI_sub, tdivp (by omega)]
  rfl
theorem X_netAt (N : Nat) (hN : 40000 ≤ N) (σ : fb_S) (h : Wr (σ.1 7) (σ.1 8) (σ.1 9) (σ.1 10)) (d : Int) (v : Int32) : f_X4_netAt N v (iI d) σ = some (iI (netz (σ.1 7) (σ.1 8) (σ.1 9) (σ.1 10) d v.toInt)) := by
  unfold f_X4_netAt
  rw [X_push' N hN, Option.bind_some, net_ok h]
theorem X_beatFrom (N : Nat) (hN : 40000 ≤ N) (σ : fb_S) (h : Wr (σ.1 7) (σ.1 8) (σ.1 9) (σ.1 10)) {d : Int} (h1 : 0 ≤ d) (h2 : d ≤ 6000) {v : Nat} (hv : v ≤ 9999) : f_X4_beatFrom N (nI v) (iI d) σ = some (nI (stp (σ.1 7) (σ.1 8) (σ.1 9) (σ.1 10) d v)) := by
  unfold f_X4_beatFrom
  rw [X_push' N hN, Option.bind_some, net_ok h, t_n (by omega)]
  have hb := netz_b h h1 h2 (v : Int)
  rw [X_beat hv hb.1 hb.2, Option.bind_some]
  rfl
/-- the reference's walkers as they are now -/
def Md (pu lo st cr : Nat → Int32) (d : Int) (τ : fb_S) : Prop := (∀ j, j < 4 → τ.1 32 j = pu j ∧ τ.1 33 j = lo j ∧ τ.1 34 j = st j ∧ τ.1 36 j = cr j) ∧ (τ.1 37 0).toInt + (τ.1 29 9).toInt = d
theorem M_net (N : Nat) (σ : fb_S) (v : Int32) : ∀ (n j : Nat), j ≤ 4 → 4 - j < n → f_X6_netAt_L4 N σ n v (iI (psum (σ.1 32) (σ.1 33) (σ.1 34) (σ.1 36) v.toInt j)) (nI j) = some (((iI (psum (σ.1 32) (σ.1 33) (σ.1 34) (σ.1 36) v.toInt 4) / 100) - σ.1 37 0) - σ.1 29 9) := by
  intro n
  induction n with
  | zero => intro j h1 h2; omega
  | succ n ih =>
    intro j h1 h2
    unfold f_X6_netAt_L4
    by_cases hj : j = 4
    · subst hj
      rw [if_pos (by decide)]
    · rw [if_neg (lc_nle 4 (by omega) (by omega)), M_inStep σ (by omega), Option.bind_some, nI_1]
      have hin : fb_in (nI j) 4 = true := in_n (by omega) (by decide)
      have ih := ih (j + 1) (by omega) (by omega)
      unfold psum at ih
      by_cases c : (σ.1 33 j).toInt ≤ v.toInt ∧ v.toInt ≤ (σ.1 34 j).toInt
      · rw [if_pos c, if_neg z_1, ck_t hin, ck_t hin, nm_e_, cl_n (by omega), mulI, iI_add]
        rw [if_pos c] at ih
        exact ih
      · rw [if_neg c, if_pos rfl, nm_e_, Int32.add_zero]
        rw [if_neg c, Int.add_zero] at ih
        exact ih
theorem M_netAt (N : Nat) (hN : 40000 ≤ N) {pu lo st cr : Nat → Int32} {d : Int} {τ : fb_S} (hm : Md pu lo st cr d τ) (h : Wr pu lo st cr) (v : Int32) : f_X6_netAt N v τ = some (iI (netz pu lo st cr d v.toInt)) := by
  unfold f_X6_netAt
  have e := M_net N τ v N 0 (by omega) (by omega)
  have e0 : iI (psum (τ.1 32) (τ.1 33) (τ.1 34) (τ.1 36) v.toInt 0) = 0 := rfl
  rw [e0] at e
  rw [show (0 : Int32) = nI 0 from rfl] at e ⊢
  rw [e, psum_c (pu := pu) (lo := lo) (st := st) (cr := cr) _ 4 hm.1]
  congr 1
  rw [← net_ok h, ← hm.2, ← iI_add, iI_self, iI_self]
  generalize iI (psum pu lo st cr v.toInt 4) / 100 = A
  rw [← iI_self A, ← iI_self (τ.1 37 0), ← iI_self (τ.1 29 9), iI_sub, iI_sub, iI_add, iI_sub]
  congr 1
  omega
theorem M_beat (N : Nat) (hN : 40000 ≤ N) {pu lo st cr : Nat → Int32} {d : Int} {τ : fb_S} (hm : Md pu lo st cr d τ) (h : Wr pu lo st cr) (h1 : 0 ≤ d) (h2 : d ≤ 6000) {v : Nat} (hv : v ≤ 9999) : f_X6_beat N (nI v) τ = some (nI (stp pu lo st cr d v)) := by
  unfold f_X6_beat
  rw [M_netAt N hN hm h, Option.bind_some, t_n (by omega)]
  have hb := netz_b h h1 h2 (v : Int)
  rw [M_moved hv hb.1 hb.2, Option.bind_some]
  rfl
