/-! numbers -/
def iI (z : Int) : Int32 := Int32.ofInt z
theorem iI_self (x : Int32) : iI x.toInt = x := Int32.ofInt_toInt x
theorem iI_t {z : Int} (h1 : -2147483648 ≤ z) (h2 : z ≤ 2147483647) : (iI z).toInt = z := Int32.toInt_ofInt_of_le (by omega) (by omega)
theorem iI_add (a b : Int) : iI a + iI b = iI (a + b) := (Int32.ofInt_add a b).symm
theorem iI_sub (a b : Int) : iI a - iI b = iI (a - b) := (Int32.ofInt_sub a b).symm
theorem iI_mul (a b : Int) : iI a * iI b = iI (a * b) := (Int32.ofInt_mul a b).symm
theorem iI_neg (a : Int) : -iI a = iI (-a) := (Int32.ofInt_neg a).symm
theorem iI_n (n : Nat) : nI n = iI (n : Int) := Int32.ofInt_eq_ofNat.symm
theorem iI_lit (n : Nat) : (OfNat.ofNat n : Int32) = iI (n : Int) := Int32.ofInt_eq_ofNat.symm
theorem t_le {x y : Int32} : x ≤ y ↔ x.toInt ≤ y.toInt := Int32.le_iff_toInt_le
theorem t_lt {x y : Int32} : x < y ↔ x.toInt < y.toInt := Int32.lt_iff_toInt_lt
theorem t_eq {x y : Int32} : x = y ↔ x.toInt = y.toInt := Int32.toInt_inj.symm
theorem t_add {x y : Int32} (h1 : -2147483648 ≤ x.toInt + y.toInt) (h2 : x.toInt + y.toInt ≤ 2147483647) : (x + y).toInt = x.toInt + y.toInt := by
  have e : x + y = iI (x.toInt + y.toInt) := by rw [← iI_add, iI_self, iI_self]
  rw [e, iI_t h1 h2]
theorem t_sub {x y : Int32} (h1 : -2147483648 ≤ x.toInt - y.toInt) (h2 : x.toInt - y.toInt ≤ 2147483647) : (x - y).toInt = x.toInt - y.toInt := by
  have e : x - y = iI (x.toInt - y.toInt) := by rw [← iI_sub, iI_self, iI_self]
  rw [e, iI_t h1 h2]
theorem t_mul {x y : Int32} (h1 : -2147483648 ≤ x.toInt * y.toInt) (h2 : x.toInt * y.toInt ≤ 2147483647) : (x * y).toInt = x.toInt * y.toInt := by
  have e : x * y = iI (x.toInt * y.toInt) := by rw [← iI_mul, iI_self, iI_self]
  rw [e, iI_t h1 h2]
theorem t_div {x y : Int32} (h : y ≠ -1) : (x / y).toInt = x.toInt.tdiv y.toInt := Int32.toInt_div_of_ne_right x y h
theorem t_lit (n : Nat) (h : n < 2147483648) : (OfNat.ofNat n : Int32).toInt = (n : Int) := by
  rw [iI_lit]; exact iI_t (by omega) (by omega)
theorem t_n {n : Nat} (h : n < 2147483648) : (nI n).toInt = (n : Int) := nI_toInt (by omega)
theorem iI_div {a b : Int} (h1 : -2147483647 ≤ a) (h2 : a ≤ 2147483647) (h3 : 1 < b) (h4 : b ≤ 2147483647) : iI a / iI b = iI (a.tdiv b) := by
  refine t_eq.mpr ?_
  have hb : (iI b).toInt = b := iI_t (by omega) h4
  rw [t_div (by intro e; have := congrArg Int32.toInt e; rw [hb] at this; have h5 : (-1 : Int32).toInt = -1 := by decide
                omega), hb, iI_t (by omega) h2]
  have hq : a.tdiv b ≤ 2147483647 ∧ -2147483648 ≤ a.tdiv b := by
    have := Int.natAbs_tdiv_le_natAbs a b
    omega
  exact (iI_t hq.2 hq.1).symm
theorem iI_le {a b : Int} (h1 : -2147483648 ≤ a) (h2 : a ≤ 2147483647) (h3 : -2147483648 ≤ b) (h4 : b ≤ 2147483647) : iI a ≤ iI b ↔ a ≤ b := by rw [t_le, iI_t h1 h2, iI_t h3 h4]
theorem iI_lt {a b : Int} (h1 : -2147483648 ≤ a) (h2 : a ≤ 2147483647) (h3 : -2147483648 ≤ b) (h4 : b ≤ 2147483647) : iI a < iI b ↔ a < b := by rw [t_lt, iI_t h1 h2, iI_t h3 h4]
theorem iI_eq {a b : Int} (h1 : -2147483648 ≤ a) (h2 : a ≤ 2147483647) (h3 : -2147483648 ≤ b) (h4 : b ≤ 2147483647) : iI a = iI b ↔ a = b := by rw [t_eq, iI_t h1 h2, iI_t h3 h4]
theorem t_m9 : (-9 : Int32).toInt = -9 := by decide
theorem t_clamp (x : Int32) : x.toNatClampNeg = x.toInt.toNat := rfl
theorem in_t {x : Int32} {n : Nat} (h1 : 0 ≤ x.toInt) (h2 : x.toInt < n) : fb_in x n = true := decide_eq_true ⟨h1, h2⟩
theorem in_n {j n : Nat} (h : j < n) (hn : n < 2147483648) : fb_in (nI j) n = true := in_t (by rw [t_n (by omega)]; omega) (by rw [t_n (by omega)]; omega)
theorem cl_n {j : Nat} (h : j < 2147483648) : (nI j).toNatClampNeg = j := nI_clamp (by omega)
theorem ck_t {α : Type} {b : Bool} {x : Option α} (h : b = true) : ck_ b x = x := by rw [h]; rfl
theorem nm_e_ {α β : Type} (x : α) (f : α → β) : nm_ x f = f x := rfl
theorem bd_t {α β : Type} {x : Option α} {a : α} {f : α → Option β} (h : x = some a) : x.bind f = f a := by rw [h]; rfl
/-! the state's places -/
theorem up_at (σ : fb_S) (k j : Nat) (v : Int32) (a b : Nat) : (fb_up σ k j v).1 a b = if a = k ∧ b = j then v else σ.1 a b := by
  by_cases h : a = k
  · subst h
    rw [fb_upS]
    by_cases h2 : b = j
    · simp [upd, h2]
    · simp [upd, h2]
  · rw [fb_upN σ j v h, if_neg (fun q => h q.1)]
theorem up_ne (σ : fb_S) {k j : Nat} (v : Int32) {a b : Nat} (h : ¬ (a = k ∧ b = j)) : (fb_up σ k j v).1 a b = σ.1 a b := by rw [up_at, if_neg h]
theorem up_eq (σ : fb_S) (k j : Nat) (v : Int32) : (fb_up σ k j v).1 k j = v := by rw [up_at, if_pos ⟨rfl, rfl⟩]
theorem up_2 (σ : fb_S) (k j : Nat) (v : Int32) : (fb_up σ k j v).2 = σ.2 := rfl
theorem upL_1 (σ : fb_S) (j : Nat) (v : Int64) : (fb_upL σ j v).1 = σ.1 := rfl
theorem upL_at (σ : fb_S) (j : Nat) (v : Int64) (b : Nat) : (fb_upL σ j v).2 b = if b = j then v else σ.2 b := rfl
def rg (x : Int32) (a b : Int) : Prop := a ≤ x.toInt ∧ x.toInt ≤ b
/-! ranges asked -/
theorem X_within (v a b : Int32) : f_X5_isWithin v a b = some (if a ≤ v ∧ v ≤ b then 1 else 0) := by
  unfold f_X5_isWithin
  simp only [t_le, t_lt]
  split
  · rw [if_neg (by omega)]
  · split
    · rw [if_neg (by omega)]
    · rw [if_pos (by omega)]
theorem M_in (v a b : Int64) : f_X6_in v a b = some (if a ≤ v ∧ v ≤ b then 1 else 0) := by
  unfold f_X6_in
  have h1 : lg_cmp v a < 0 ↔ v.toInt < a.toInt := by
    unfold lg_cmp
    simp only [gt_iff_lt, Int64.lt_iff_toInt_lt, ← Int64.toInt_inj]
    split
    · have : ¬ ((1 : Int32) < 0) := by decide
      constructor <;> intro h <;> first | exact absurd h this | omega
    · split
      · have : ¬ ((0 : Int32) < 0) := by decide
        constructor <;> intro h <;> first | exact absurd h this | omega
      · have : ((-1 : Int32) < 0) := by decide
        constructor <;> intro h <;> first | exact this | omega
  have h2 : 0 < lg_cmp v b ↔ b.toInt < v.toInt := by
    unfold lg_cmp
    simp only [gt_iff_lt, Int64.lt_iff_toInt_lt, ← Int64.toInt_inj]
    split
    · have : ((0 : Int32) < 1) := by decide
      constructor <;> intro h <;> first | exact this | omega
    · split
      · have : ¬ ((0 : Int32) < 0) := by decide
        constructor <;> intro h <;> first | exact absurd h this | omega
      · have : ¬ ((0 : Int32) < (-1)) := by decide
        constructor <;> intro h <;> first | exact absurd h this | omega
  simp only [h1, h2, Int64.le_iff_toInt_le]
  split
  · rw [if_neg (by omega)]
  · split
    · rw [if_neg (by omega)]
    · rw [if_pos (by omega)]
theorem M_in2 (v : Int32) {a b : Int64} (a' b' : Int32) (ha : a = a'.toInt64) (hb : b = b'.toInt64) : f_X6_in v.toInt64 a b = some (if a' ≤ v ∧ v ≤ b' then 1 else 0) := by
  rw [M_in, ha, hb]
  simp only [Int32.toInt64_le]
theorem z_1 : ¬ ((1 : Int32) = 0) := by decide
theorem fb_bo_if (c : Prop) [Decidable c] : fb_bo (if c then 1 else 0) = true := by split <;> rfl
theorem X_isSort (v : Int32) : f_X5_isSort v = some (if 0 ≤ v ∧ v ≤ 3 then 1 else 0) := by unfold f_X5_isSort; rw [X_within]; exact ck_t (fb_bo_if _)
theorem X_isSway (v : Int32) : f_X5_isSway v = some (if 0 ≤ v ∧ v ≤ 9999 then 1 else 0) := by unfold f_X5_isSway; rw [X_within]; exact ck_t (fb_bo_if _)
theorem X_isDay (v : Int32) : f_X5_isDay v = some (if 1 ≤ v ∧ v ≤ 60 then 1 else 0) := by unfold f_X5_isDay; rw [X_within]; exact ck_t (fb_bo_if _)
theorem X_isBeats (v : Int32) : f_X5_isBeatsOfTest v = some (if 1 ≤ v ∧ v ≤ 30 then 1 else 0) := by unfold f_X5_isBeatsOfTest; rw [X_within]; exact ck_t (fb_bo_if _)
theorem M_noSort (v : Int32) : f_X6_noSort v = some (if 0 ≤ v ∧ v ≤ 3 then 0 else 1) := by
  unfold f_X6_noSort
  rw [M_in2 v 0 3 (by decide) (by decide)]
  by_cases h : 0 ≤ v ∧ v ≤ 3
  · simp [h]
  · simp [h]
theorem M_noSway (v : Int32) : f_X6_noSway v = some (if 0 ≤ v ∧ v ≤ 9999 then 0 else 1) := by
  unfold f_X6_noSway
  rw [M_in2 v 0 9999 (by decide) (by decide)]
  by_cases h : 0 ≤ v ∧ v ≤ 9999
  · simp [h]
  · simp [h]
theorem X_exch {ka : Nat} {a b : Int32} {σ : fb_S} (h : fb_in a (fb_len ka) = true) : f_X5_exchange ka a b σ = some (σ.1 ka a.toNatClampNeg, fb_up σ ka a.toNatClampNeg b) := by
  unfold f_X5_exchange
  rw [ck_t h, nm_e_, ck_t h, nm_e_]
theorem lt_n (n : Nat) (h : n < 2147483648) : nI n = (OfNat.ofNat n : Int32) := rfl
/-! a row filled -/
theorem fill_loop (ka N : Nat) (v : Int32) (hl : fb_len ka < 2147483648) : ∀ (n j : Nat) (σ : fb_S), j ≤ fb_len ka → fb_len ka - j < n → ∃ σ', f_J7_fill_53178_L5 ka N n v (nI j) (nI (fb_len ka)) σ = some σ' ∧ σ'.2 = σ.2 ∧ ∀ a b, σ'.1 a b = if a = ka ∧ j ≤ b ∧ b < fb_len ka then v else σ.1 a b := by
  intro n
  induction n with
  | zero => intro j σ h1 h2; omega
  | succ n ih =>
    intro j σ h1 h2
    unfold f_J7_fill_53178_L5
    by_cases hj : j = fb_len ka
    · subst hj
      rw [if_pos (nI_le (Nat.le_refl _) (by omega))]
      exact ⟨σ, rfl, rfl, fun a b => by rw [if_neg (by omega)]⟩
    · rw [if_neg (nI_ge (by omega) (by omega)), ck_t (in_n (by omega) hl), nm_e_, nI_1, cl_n (by omega)]
      obtain ⟨σ', e1, e2, e3⟩ := ih (j + 1) (fb_up σ ka j v) (by omega) (by omega)
      refine ⟨σ', e1, e2, fun a b => ?_⟩
      rw [e3, up_at]
      by_cases c1 : a = ka ∧ j + 1 ≤ b ∧ b < fb_len ka
      · rw [if_pos c1, if_pos ⟨c1.1, by omega, c1.2.2⟩]
      · rw [if_neg c1]
        by_cases c2 : a = ka ∧ b = j
        · rw [if_pos c2, if_pos ⟨c2.1, by omega, by omega⟩]
        · rw [if_neg c2, if_neg (fun q => by omega)]
theorem fill_ok (ka N : Nat) (v : Int32) (hl : fb_len ka < 2147483648) (hN : fb_len ka < N) (σ : fb_S) : ∃ σ', f_J7_fill_53178 N ka v σ = some σ' ∧ σ'.2 = σ.2 ∧ ∀ a b, σ'.1 a b = if a = ka ∧ b < fb_len ka then v else σ.1 a b := by
  obtain ⟨σ', e1, e2, e3⟩ := fill_loop ka N v hl N 0 σ (Nat.zero_le _) (by omega)
  refine ⟨σ', e1, e2, fun a b => ?_⟩
  rw [e3]
  simp
theorem lc_le {j : Nat} (c : Nat) (h : c ≤ j) (hj : j < 2147483648) : (OfNat.ofNat c : Int32) ≤ nI j := by
  have : nI c ≤ nI j := nI_le h (by omega)
  exact this
theorem lc_nle {j : Nat} (c : Nat) (h : j < c) (hc : c < 2147483648) : ¬ (OfNat.ofNat c : Int32) ≤ nI j := by
  have : ¬ nI c ≤ nI j := nI_ge h (by omega)
  exact this
theorem lc_lt {j : Nat} (c : Nat) (h : c < j) (hj : j < 2147483648) : (OfNat.ofNat c : Int32) < nI j := by
  have : nI c < nI j := nI_lt h (by omega)
  exact this
theorem lc_nlt {j : Nat} (c : Nat) (h : j ≤ c) (hc : c < 2147483648) : ¬ (OfNat.ofNat c : Int32) < nI j := by
  have : ¬ nI c < nI j := nI_nlt h (by omega)
  exact this
theorem nlt0 {j : Nat} (hj : j < 2147483648) : ¬ nI j < 0 := nI_pos (by omega)
theorem le0 {j : Nat} (hj : j < 2147483648) : 0 ≤ nI j := nI_pos' (by omega)
theorem ex_n {a : Int32} {c : Nat} (hc : c < 2147483647) (h1 : 0 ≤ a) (h2 : a ≤ (OfNat.ofNat c : Int32)) : ∃ j : Nat, j ≤ c ∧ a = nI j := by
  have b1 := t_le.mp h1
  have b2 := t_le.mp h2
  rw [t_lit c (by omega)] at b2
  have b3 : (0 : Int32).toInt = 0 := rfl
  rw [b3] at b1
  obtain ⟨j, hj, e⟩ := vp_in_of (x := a) (n := c + 1) (vp_in_iff.mpr ⟨b1, by omega⟩) (by omega)
  exact ⟨j, by omega, e⟩
theorem lc_nle_z {j : Nat} (h : 0 < j) (hj : j < 2147483648) : ¬ nI j ≤ 0 := nI_nle h (by omega)
