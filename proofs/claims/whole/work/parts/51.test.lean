/-! laws and their nets -/
theorem bz_mono {v v' : Nat} {n n' : Int} (hv : v ≤ v') (hn : n ≤ n') (h : -1000 ≤ n) : bz v n ≤ bz v' n' := by
  have e : ∀ (w : Nat) (x : Int), (w : Int) + (w : Int) * x / 1000 = ((w : Int) * (1000 + x)) / 1000 := by
    intro w x
    rw [Int.mul_add]
    omega
  unfold bz
  rw [e, e]
  have h1 : (v : Int) * (1000 + n) ≤ (v' : Int) * (1000 + n') := Int.mul_le_mul (by omega) (by omega) (by omega) (by omega)
  have h2 : (v : Int) * (1000 + n) / 1000 ≤ (v' : Int) * (1000 + n') / 1000 := Int.ediv_le_ediv (by omega) h1
  omega
theorem swn_mono {n n' : Int} (hn : n ≤ n') (h : -1000 ≤ n) : ∀ (k : Nat) {v v' : Nat}, v ≤ v' → swn n k v ≤ swn n' k v' := by
  intro k
  induction k with
  | zero => intro v v' hv; exact hv
  | succ k ih => intro v v' hv; exact ih (bz_mono hv hn h)
theorem swn_le {n : Int} : ∀ (k : Nat) {v : Nat}, v ≤ 9999 → swn n k v ≤ 9999 := by
  intro k
  induction k with
  | zero => intro v hv; exact hv
  | succ k ih => intro v _; exact ih (bz_le _ _)
theorem np_b {n p : Nat} (hn : n ≤ 999) (hp : p ≤ 49) : n * p ≤ 48951 := Nat.le_trans (Nat.mul_le_mul hn hp) (by decide)
theorem lawn_b {n law : Nat} (hn : n ≤ 99) (hl : law < 2500) : -50 ≤ lawn n law ∧ lawn n law ≤ 47 := by
  unfold lawn
  have h : n * (law / 50) ≤ 99 * 49 := Nat.mul_le_mul hn (by omega)
  have h2 : n * (law / 50) / 100 ≤ 48 := by omega
  omega
theorem lawn_w {n law : Nat} (hn : n ≤ 999) (hl : law < 2500) : -50 ≤ lawn n law ∧ lawn n law ≤ 489 := by
  unfold lawn
  have h := np_b hn (show law / 50 ≤ 49 by omega)
  have h2 : n * (law / 50) / 100 ≤ 489 := by omega
  omega
theorem X_lawNet {n p d : Nat} (hn : n ≤ 999) (hp : p ≤ 49) (hd1 : 1 ≤ d) (hd : d ≤ 50) : f_X3_lawNet (nI n) (nI p) (nI d) = some (iI (lawn n (50 * p + (d - 1)))) := by
  have h := np_b hn hp
  unfold f_X3_lawNet lawn
  have e : (100 : Int32) = nI 100 := rfl
  rw [nI_mul, e, nI_div 100 (by omega) (by decide) (by decide), iI_n, iI_n d, iI_sub]
  congr 2
  have e1 : (50 * p + (d - 1)) / 50 = p := by omega
  have e2 : (50 * p + (d - 1)) % 50 = d - 1 := by omega
  rw [e1, e2]
  omega
theorem M_netBy {n law : Nat} (hn : n ≤ 999) (hl : law < 2500) : f_X6_netBy (nI n) (nI law) = some (iI (lawn n law)) := by
  have h := np_b hn (show law / 50 ≤ 49 by omega)
  unfold f_X6_netBy lawn
  have e : (100 : Int32) = nI 100 := rfl
  have e5 : (50 : Int32) = nI 50 := rfl
  rw [e, e5, nI_mod 50 (by omega) (by decide) (by decide), nI_div 50 (by omega) (by decide) (by decide), nI_mul, nI_div 100 (by omega) (by decide) (by decide), nI_1, iI_n, iI_n, iI_sub]
  congr 2
theorem X_swayL (N : Nat) {net : Int} (h1 : -10000 ≤ net) (h2 : net ≤ 10000) {k : Nat} (hk : k ≤ 100) : ∀ (n i v : Nat), i ≤ k → k - i < n → v ≤ 9999 → f_X3_swayByNet_L5 N n (iI net) (nI k) (nI v) (nI i) = some (nI (swn net (k - i) v)) := by
  intro n
  induction n with
  | zero => intro i v h1 h2; omega
  | succ n ih =>
    intro i v hi hn hv
    unfold f_X3_swayByNet_L5
    by_cases e : i = k
    · rw [if_pos (nI_le (by omega) (by omega)), e, Nat.sub_self]; rfl
    · rw [if_neg (nI_ge (by omega) (by omega)), X_beat hv h1 h2, Option.bind_some, nI_1, ih (i + 1) _ (by omega) (by omega) (bz_le _ _), show k - i = (k - (i + 1)) + 1 by omega]
      rfl
theorem X_sway (N : Nat) (hN : 40000 ≤ N) {net : Int} (h1 : -10000 ≤ net) (h2 : net ≤ 10000) {k v : Nat} (hk : k ≤ 100) (hv : v ≤ 9999) : f_X3_swayByNet N (nI v) (iI net) (nI k) = some (nI (swn net k v)) := X_swayL N h1 h2 hk N 0 v (by omega) (by omega) hv
theorem M_afterL (N : Nat) {net : Int} (h1 : -10000 ≤ net) (h2 : net ≤ 10000) {k : Nat} (hk : k ≤ 100) : ∀ (n i v : Nat), i ≤ k → k - i < n → v ≤ 9999 → f_X6_after_L13 N n (nI k) (iI net) (nI v) (nI i) = some (nI (swn net (k - i) v)) := by
  intro n
  induction n with
  | zero => intro i v h1 h2; omega
  | succ n ih =>
    intro i v hi hn hv
    unfold f_X6_after_L13
    by_cases e : i = k
    · rw [if_pos (nI_le (by omega) (by omega)), e, Nat.sub_self]; rfl
    · rw [if_neg (nI_ge (by omega) (by omega)), M_moved hv h1 h2, Option.bind_some, nI_1, ih (i + 1) _ (by omega) (by omega) (bz_le _ _), show k - i = (k - (i + 1)) + 1 by omega]
      rfl
theorem M_after (N : Nat) (hN : 40000 ≤ N) {m law k v : Nat} (hm : m ≤ 999) (hl : law < 2500) (hk : k ≤ 100) (hv : v ≤ 9999) : f_X6_after N (nI m) (nI v) (nI k) (nI law) = some (nI (swn (lawn m law) k v)) := by
  unfold f_X6_after
  have hb := lawn_w hm hl
  rw [M_netBy hm hl, Option.bind_some]
  exact M_afterL N (by omega) (by omega) hk N 0 v (by omega) (by omega) hv
/-! the first that breaks -/
def brk (ok : Nat → Bool) : Nat → Nat → Int32
  | 0, _ => -9
  | r + 1, j => if ok j = true then brk ok r (j + 1) else nI j
theorem brk_c {ok ok' : Nat → Bool} : ∀ r j, (∀ i, j ≤ i → i < j + r → ok i = ok' i) → brk ok r j = brk ok' r j := by
  intro r
  induction r with
  | zero => intro j _; rfl
  | succ r ih => intro j h; unfold brk; rw [h j (by omega) (by omega), ih (j + 1) (fun i h1 h2 => h i (by omega) (by omega))]
theorem brk_9 {ok : Nat → Bool} : ∀ r j, j + r < 2147483648 → (brk ok r j = -9 ↔ ∀ i, j ≤ i → i < j + r → ok i = true) := by
  intro r
  induction r with
  | zero => intro j _; exact ⟨fun _ i h1 h2 => by omega, fun _ => rfl⟩
  | succ r ih =>
    intro j hj
    unfold brk
    by_cases c : ok j = true
    · rw [if_pos c, ih (j + 1) (by omega)]
      constructor
      · intro h i h1 h2
        by_cases e : i = j
        · rw [e]; exact c
        · exact h i (by omega) (by omega)
      · intro h i h1 h2
        exact h i (by omega) (by omega)
    · rw [if_neg c]
      constructor
      · intro h
        have := congrArg Int32.toInt h
        rw [t_n (by omega), t_m9] at this
        omega
      · intro h
        exact absurd (h j (by omega) (by omega)) c
def lok (r23 r24 r25 : Nat → Int32) (law j : Nat) : Bool := decide ((r24 j).toInt ≤ lawn (r23 j).toNatClampNeg law ∧ lawn (r23 j).toNatClampNeg law ≤ (r25 j).toInt)
theorem fitB_iff (r23 r24 r25 : Nat → Int32) {t : Nat} (ht : t ≤ 20) (law : Nat) : fitB r23 r24 r25 t law = true ↔ brk (lok r23 r24 r25 law) t 0 = -9 := by
  rw [brk_9 t 0 (by omega)]
  unfold fitB
  rw [List.all_eq_true]
  constructor
  · intro h i _ h2
    exact h i (List.mem_range.mpr (by omega))
  · intro h i hi
    exact h i (by omega) (by have := List.mem_range.mp hi; omega)
theorem X_brkL (N : Nat) (τ : fb_S) {t : Nat} (ht : t ≤ 20) (et : τ.1 22 6 = nI t) (h23 : ∀ j, j < t → rg (τ.1 23 j) 0 99) {p d : Nat} (hp : p ≤ 49) (hd1 : 1 ≤ d) (hd : d ≤ 50) : ∀ (n j : Nat), j ≤ t → t - j < n → f_X3_firstBroken_L2 N τ n (nI p) (nI d) (nI j) = some (brk (lok (τ.1 23) (τ.1 24) (τ.1 25) (50 * p + (d - 1))) (t - j) j) := by
  intro n
  induction n with
  | zero => intro j h1 h2; omega
  | succ n ih =>
    intro j h1 h2
    unfold f_X3_firstBroken_L2
    rw [et]
    by_cases c : j = t
    · rw [if_pos (nI_le (by omega) (by omega)), c, Nat.sub_self]; rfl
    · have hin : fb_in (nI j) 20 = true := in_n (by omega) (by decide)
      have r := rgn1 0 99 (by decide) (h23 j (by omega))
      have hb := lawn_b (n := (τ.1 23 j).toNatClampNeg) r.2.2 (show 50 * p + (d - 1) < 2500 by omega)
      have e := X_lawNet (n := (τ.1 23 j).toNatClampNeg) (by omega) hp hd1 hd
      rw [← r.1] at e
      rw [if_neg (nI_ge (by omega) (by omega)), ck_t hin, cl_n (by omega), e, Option.bind_some, ck_t hin, ck_t hin, nI_1, show t - j = (t - (j + 1)) + 1 by omega]
      unfold brk lok
      simp only [t_lt, t_le, iI_t (show -2147483648 ≤ lawn (τ.1 23 j).toNatClampNeg (50 * p + (d - 1)) by omega) (by omega), decide_eq_true_eq]
      by_cases c1 : lawn (τ.1 23 j).toNatClampNeg (50 * p + (d - 1)) < (τ.1 24 j).toInt
      · rw [if_pos c1, if_neg (by omega)]
      · rw [if_neg c1]
        by_cases c2 : lawn (τ.1 23 j).toNatClampNeg (50 * p + (d - 1)) ≤ (τ.1 25 j).toInt
        · rw [if_pos c2, if_pos (by omega)]
          exact ih (j + 1) (by omega) (by omega)
        · rw [if_neg c2, if_neg (by omega)]
theorem X_brk (N : Nat) (hN : 40000 ≤ N) (τ : fb_S) {t : Nat} (ht : t ≤ 20) (et : τ.1 22 6 = nI t) (h23 : ∀ j, j < t → rg (τ.1 23 j) 0 99) {p d : Nat} (hp : p ≤ 49) (hd1 : 1 ≤ d) (hd : d ≤ 50) : f_X3_firstBroken N (nI p) (nI d) τ = some (brk (lok (τ.1 23) (τ.1 24) (τ.1 25) (50 * p + (d - 1))) t 0) := X_brkL N τ ht et h23 hp hd1 hd N 0 (by omega) (by omega)
def mok (r47 : Nat → Int32) (law j : Nat) : Bool := decide ((r47 (5 * j + 3)).toInt ≤ (swn (lawn (r47 (5 * j)).toNatClampNeg law) (r47 (5 * j + 2)).toNatClampNeg (r47 (5 * j + 1)).toNatClampNeg : Nat) ∧ ((swn (lawn (r47 (5 * j)).toNatClampNeg law) (r47 (5 * j + 2)).toNatClampNeg (r47 (5 * j + 1)).toNatClampNeg : Nat) : Int) ≤ (r47 (5 * j + 4)).toInt)
def mrg (r47 : Nat → Int32) (j : Nat) : Prop := rg (r47 (5 * j)) 0 99 ∧ rg (r47 (5 * j + 1)) 0 9999 ∧ rg (r47 (5 * j + 2)) 1 30
theorem M_brkL (N : Nat) (hN : 40000 ≤ N) (τ : fb_S) {t : Nat} (ht : t ≤ 20) (et : τ.1 29 30 = nI t) (h47 : ∀ j, j < t → mrg (τ.1 47) j) {law : Nat} (hl : law < 2500) : ∀ (n j : Nat), j ≤ t → t - j < n → f_X6_firstBreak_L2 N τ n (nI law) (nI j) = some (brk (mok (τ.1 47) law) (t - j) j) := by
  intro n
  induction n with
  | zero => intro j h1 h2; omega
  | succ n ih =>
    intro j h1 h2
    unfold f_X6_firstBreak_L2
    rw [et]
    by_cases c : j = t
    · rw [if_pos (nI_le (by omega) (by omega)), c, Nat.sub_self]; rfl
    · obtain ⟨g1, g2, g3⟩ := h47 j (by omega)
      have r1 := rgn1 0 99 (by decide) g1
      have r2 := rgn1 0 9999 (by decide) g2
      have r3 := rgn1 1 30 (by decide) g3
      have e := M_after N hN (m := (τ.1 47 (5 * j)).toNatClampNeg) (k := (τ.1 47 (5 * j + 2)).toNatClampNeg) (v := (τ.1 47 (5 * j + 1)).toNatClampNeg) (by omega) hl (by omega) r2.2.2
      rw [← r1.1, ← r2.1, ← r3.1] at e
      have hle := swn_le (n := lawn (τ.1 47 (5 * j)).toNatClampNeg law) (τ.1 47 (5 * j + 2)).toNatClampNeg r2.2.2
      have i0 : fb_in (nI (5 * j)) 100 = true := in_n (by omega) (by decide)
      have i1 : fb_in (nI (5 * j + 1)) 100 = true := in_n (by omega) (by decide)
      have i2 : fb_in (nI (5 * j + 2)) 100 = true := in_n (by omega) (by decide)
      have i3 : fb_in (nI (5 * j + 3)) 100 = true := in_n (by omega) (by decide)
      have i4 : fb_in (nI (5 * j + 4)) 100 = true := in_n (by omega) (by decide)
      have e5 : (5 : Int32) * nI j = nI (5 * j) := nI_mul 5 j
      have a1 : nI (5 * j) + 1 = nI (5 * j + 1) := nI_add _ 1
      have a2 : nI (5 * j) + 2 = nI (5 * j + 2) := nI_add _ 2
      have a3 : nI (5 * j) + 3 = nI (5 * j + 3) := nI_add _ 3
      have a4 : nI (5 * j) + 4 = nI (5 * j + 4) := nI_add _ 4
      rw [if_neg (nI_ge (by omega) (by omega)), nm_e_, e5, a1, a2, a3, a4, ck_t i0, ck_t i1, ck_t i2, cl_n (by omega), cl_n (by omega), cl_n (by omega), e, Option.bind_some, ck_t i3, ck_t i4, cl_n (by omega), cl_n (by omega), M_in2 _ _ _ rfl rfl, Option.bind_some, nI_1, show t - j = (t - (j + 1)) + 1 by omega]
      unfold brk mok
      simp only [t_le, t_n (show swn (lawn (τ.1 47 (5 * j)).toNatClampNeg law) (τ.1 47 (5 * j + 2)).toNatClampNeg (τ.1 47 (5 * j + 1)).toNatClampNeg < 2147483648 by omega), decide_eq_true_eq]
      by_cases c1 : (τ.1 47 (5 * j + 3)).toInt ≤ (swn (lawn (τ.1 47 (5 * j)).toNatClampNeg law) (τ.1 47 (5 * j + 2)).toNatClampNeg (τ.1 47 (5 * j + 1)).toNatClampNeg : Nat) ∧ ((swn (lawn (τ.1 47 (5 * j)).toNatClampNeg law) (τ.1 47 (5 * j + 2)).toNatClampNeg (τ.1 47 (5 * j + 1)).toNatClampNeg : Nat) : Int) ≤ (τ.1 47 (5 * j + 4)).toInt
      · rw [if_pos c1, if_pos c1, if_neg z_1]
        exact ih (j + 1) (by omega) (by omega)
      · rw [if_neg c1, if_neg c1, if_pos rfl]
theorem M_brk (N : Nat) (hN : 40000 ≤ N) (τ : fb_S) {t : Nat} (ht : t ≤ 20) (et : τ.1 29 30 = nI t) (h47 : ∀ j, j < t → mrg (τ.1 47) j) {law : Nat} (hl : law < 2500) : f_X6_firstBreak N (nI law) τ = some (brk (mok (τ.1 47) law) t 0) := M_brkL N hN τ ht et h47 hl N 0 (by omega) (by omega)
