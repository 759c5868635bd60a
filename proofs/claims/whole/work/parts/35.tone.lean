/-! tones -/
theorem lgc_eq0 (x y : Int64) : lg_cmp x y = 0 ↔ x = y := by
  unfold lg_cmp
  simp only [gt_iff_lt, Int64.lt_iff_toInt_lt, ← Int64.toInt_inj]
  split
  · have : ¬ ((1 : Int32) = 0) := by decide
    constructor <;> intro h <;> first | exact absurd h this | omega
  · split
    · constructor <;> intro h <;> first | assumption | rfl
    · have : ¬ ((-1 : Int32) = 0) := by decide
      constructor <;> intro h <;> first | exact absurd h this | omega
theorem lgc_le (x y : Int64) : lg_cmp x y ≤ 0 ↔ x ≤ y := by
  unfold lg_cmp
  simp only [gt_iff_lt, Int64.lt_iff_toInt_lt, Int64.le_iff_toInt_le, ← Int64.toInt_inj]
  split
  · have : ¬ ((1 : Int32) ≤ 0) := by decide
    constructor <;> intro h <;> first | exact absurd h this | omega
  · split
    · have : ((0 : Int32) ≤ 0) := by decide
      constructor <;> intro h <;> first | exact this | omega
    · have : ((-1 : Int32) ≤ 0) := by decide
      constructor <;> intro h <;> first | exact this | omega
theorem lgc_gt (x y : Int64) : 0 < lg_cmp x y ↔ y < x := by
  unfold lg_cmp
  simp only [gt_iff_lt, Int64.lt_iff_toInt_lt, ← Int64.toInt_inj]
  split
  · have : ((0 : Int32) < 1) := by decide
    constructor <;> intro h <;> first | exact this | omega
  · split
    · have : ¬ ((0 : Int32) < 0) := by decide
      constructor <;> intro h <;> first | exact absurd h this | omega
    · have : ¬ ((0 : Int32) < (-1)) := by decide
      constructor <;> intro h <;> first | exact absurd h this | omega
def ow (r4 r3 : Nat → Int32) (t i : Nat) : Int64 := Int64.ofInt ((r4 i).toInt + (r4 (i + 1)).toInt - (t : Int) * (r3 i).toInt)
def mi (r4 r3 : Nat → Int32) (t : Nat) : Nat → Int64
  | 0 => 1
  | 1 => ow r4 r3 t 0 * 1
  | i + 2 => ow r4 r3 t (i + 1) * mi r4 r3 t (i + 1) - (r4 (i + 1)).toInt64 * (r4 (i + 1)).toInt64 * mi r4 r3 t i
def sgn_ (m : Nat → Int64) : Nat → Bool
  | 0 => false
  | i + 1 => if m (i + 1) = 0 then sgn_ m i else decide (m (i + 1) < 0)
def cnt_ (m : Nat → Int64) : Nat → Nat
  | 0 => 0
  | i + 1 => cnt_ m i + (if sgn_ m (i + 1) = sgn_ m i then 0 else 1)
theorem cnt_le (m : Nat → Int64) : ∀ i, cnt_ m i ≤ i := by
  intro i
  induction i with
  | zero => exact Nat.le_refl _
  | succ i ih => unfold cnt_; split <;> omega
/-- what the tones need of the state -/
def Tn (s1 : Nat → Nat → Int32) (z : Nat) : Prop := s1 2 3 = nI z ∧ 1 ≤ z ∧ z ≤ 5 ∧ (∀ j, j < 5 → rg (s1 3 j) 1 9) ∧ (∀ j, j < 6 → rg (s1 4 j) 0 99)
theorem own_ok {s1 : Nat → Nat → Int32} {z t i : Nat} (h : Tn s1 z) (ht : t ≤ 401) (hi : i < 5) : ((s1 4 i + s1 4 (i + 1)) - nI t * s1 3 i).toInt64 = ow (s1 4) (s1 3) t i ∧ ((s1 4 i + s1 4 (i + 1)).toInt64 - (nI t).toInt64 * (s1 3 i).toInt64) = ow (s1 4) (s1 3) t i := by
  obtain ⟨-, -, -, h3, h4⟩ := h
  have a1 := h4 i (by omega)
  have a2 := h4 (i + 1) (by omega)
  have a3 := h3 i hi
  unfold rg at a1 a2 a3
  have e1 : (s1 4 i + s1 4 (i + 1)).toInt = (s1 4 i).toInt + (s1 4 (i + 1)).toInt := t_add (by omega) (by omega)
  have et : (nI t).toInt = (t : Int) := t_n (by omega)
  have p1 : (t : Int) * (s1 3 i).toInt ≤ 401 * 9 := Int.mul_le_mul (by omega) (by omega) (by omega) (by omega)
  have p2 : 0 ≤ (t : Int) * (s1 3 i).toInt := Int.mul_nonneg (by omega) (by omega)
  have e2 : (nI t * s1 3 i).toInt = (t : Int) * (s1 3 i).toInt := by rw [t_mul] <;> rw [et] <;> omega
  have e3 : ((s1 4 i + s1 4 (i + 1)) - nI t * s1 3 i).toInt = (s1 4 i).toInt + (s1 4 (i + 1)).toInt - (t : Int) * (s1 3 i).toInt := by rw [t_sub] <;> rw [e1, e2] <;> omega
  refine ⟨?_, ?_⟩
  · rw [← Int64.ofInt_int32ToInt, e3]; rfl
  · rw [← Int64.ofInt_int32ToInt, ← Int64.ofInt_int32ToInt, ← Int64.ofInt_int32ToInt, e1, et, ← Int64.ofInt_mul, ← Int64.ofInt_sub]; rfl
theorem X_fill (N : Nat) {s1 : Nat → Nat → Int32} {z t : Nat} (h : Tn s1 z) (ht : t ≤ 401) : ∀ (n i : Nat) (σ : fb_S), i ≤ z → z - i < n → σ.1 = s1 → (∀ j, j ≤ i → σ.2 j = mi (s1 4) (s1 3) t j) → ∃ τ, f_X0_fillMinors_L9 N n (nI t) (nI i) σ = some τ ∧ τ.1 = s1 ∧ ∀ j, j ≤ z → τ.2 j = mi (s1 4) (s1 3) t j := by
  have hz := h.2.2.1
  intro n
  induction n with
  | zero => intro i σ h1 h2; omega
  | succ n ih =>
    intro i σ h1 h2 hs hm
    unfold f_X0_fillMinors_L9
    rw [hs, h.1]
    by_cases hi : i = z
    · rw [if_pos (nI_le (by omega) (by omega))]
      exact ⟨σ, rfl, hs, fun j hj => hm j (by omega)⟩
    · have i6 : fb_in (nI i) 6 = true := in_n (by omega) (by decide)
      have i7 : fb_in (nI (i + 1)) 6 = true := in_n (by omega) (by decide)
      have i5 : fb_in (nI i) 5 = true := in_n (by omega) (by decide)
      rw [if_neg (nI_ge (by omega) (by omega)), nI_1, ck_t i6, ck_t i7, ck_t i5, nm_e_, ck_t i6, nm_e_, cl_n (by omega), cl_n (by omega), (own_ok h ht (show i < 5 by omega)).1, hm i (Nat.le_refl _)]
      have fin : ∀ v, v = mi (s1 4) (s1 3) t (i + 1) → ∃ τ, f_X0_fillMinors_L86 N (f_X0_fillMinors_L9 N n) (nI t) (nI i) v σ = some τ ∧ τ.1 = s1 ∧ ∀ j, j ≤ z → τ.2 j = mi (s1 4) (s1 3) t j := by
        intro v hv
        unfold f_X0_fillMinors_L86
        rw [nI_1, ck_t i7, nm_e_, cl_n (by omega)]
        refine ih (i + 1) _ (by omega) (by omega) hs (fun j hj => ?_)
        rw [upL_at]
        by_cases e : j = i + 1
        · rw [if_pos e, hv, e]
        · rw [if_neg e]
          exact hm j (by omega)
      cases i with
      | zero =>
        rw [if_pos (by decide)]
        exact fin _ rfl
      | succ i =>
        rw [if_neg (lc_nle_z (by omega) (by omega)), ck_t i6, ck_t i6, nI_pred, ck_t (in_n (show i < 6 by omega) (by decide)), nm_e_, cl_n (by omega), hm i (by omega)]
        exact fin _ rfl
theorem X_minors (N : Nat) (hN : 40000 ≤ N) {s1 : Nat → Nat → Int32} {z t : Nat} (h : Tn s1 z) (ht : t ≤ 401) (σ : fb_S) (hs : σ.1 = s1) : ∃ τ, f_X0_fillMinors N (nI t) σ = some τ ∧ τ.1 = s1 ∧ ∀ j, j ≤ z → τ.2 j = mi (s1 4) (s1 3) t j := by
  unfold f_X0_fillMinors
  rw [nm_e_]
  refine X_fill N h ht N 0 _ (Nat.zero_le _) (by have := h.2.2.1; omega) hs (fun j hj => ?_)
  rw [upL_at, if_pos (by omega), show j = 0 by omega]
  rfl
def b2i (b : Bool) : Int32 := if b then 1 else 0
theorem X_tb (N : Nat) {m : Nat → Int64} {z : Nat} (hz : z ≤ 5) (σ : fb_S) (h3 : σ.1 2 3 = nI z) (hm : ∀ j, j ≤ z → σ.2 j = m j) : ∀ (n i : Nat), i ≤ z → z - i < n → f_X0_tonesBelow_L12 N n (nI (cnt_ m i)) (b2i (sgn_ m i)) (nI (i + 1)) σ = some (nI (cnt_ m z), σ) := by
  intro n
  induction n with
  | zero => intro i h1 h2; omega
  | succ n ih =>
    intro i h1 h2
    unfold f_X0_tonesBelow_L12
    rw [h3]
    by_cases hi : i = z
    · rw [if_pos (nI_lt (by omega) (by omega)), hi]
    · have i6 : fb_in (nI (i + 1)) 6 = true := in_n (by omega) (by decide)
      rw [if_neg (nI_nlt (by omega) (by omega)), ck_t i6, nI_1, cl_n (by omega), hm (i + 1) (by omega)]
      have hc := cnt_le m i
      have ih' := ih (i + 1) (by omega) (by omega)
      by_cases e0 : m (i + 1) = 0
      · rw [if_pos ((lgc_eq0 _ _).mpr e0)]
        have e1 : sgn_ m (i + 1) = sgn_ m i := by simp [sgn_, e0]
        have e2 : cnt_ m (i + 1) = cnt_ m i := by simp [cnt_, e1]
        rw [e1, e2] at ih'
        exact ih'
      · rw [if_neg (fun q => e0 ((lgc_eq0 _ _).mp q)), ck_t i6]
        have es : sgn_ m (i + 1) = decide (m (i + 1) < 0) := by simp [sgn_, e0]
        have step : ∀ b : Bool, sgn_ m (i + 1) = b → f_X0_tonesBelow_L50 N (f_X0_tonesBelow_L12 N n) (nI (cnt_ m i)) (b2i (sgn_ m i)) (nI (i + 1)) (b2i b) σ = some (nI (cnt_ m z), σ) := by
          intro b hb
          unfold f_X0_tonesBelow_L50
          rw [nI_1, nI_1]
          by_cases e : b = sgn_ m i
          · rw [if_pos (by rw [e])]
            have e2 : cnt_ m (i + 1) = cnt_ m i := by simp [cnt_, hb, e]
            rw [hb, e2, e] at ih'
            exact ih'
          · have hne : ¬ b2i b = b2i (sgn_ m i) := by
              cases b <;> cases hq : sgn_ m i <;> simp_all [b2i]
            have e2 : cnt_ m (i + 1) = cnt_ m i + 1 := by simp [cnt_, hb, e]
            rw [if_neg hne]
            rw [hb, e2] at ih'
            cases hq : sgn_ m i with
            | false =>
              have hb1 : b = true := by cases b <;> simp_all
              rw [if_pos (show b2i false = 0 from rfl)]
              rw [hb1] at ih'
              exact ih'
            | true =>
              have hb1 : b = false := by cases b <;> simp_all
              rw [if_neg (by decide)]
              rw [hb1] at ih'
              exact ih'
        by_cases en : m (i + 1) < 0
        · rw [if_neg (by rw [lg_cmp_ge]; exact Int64.not_le.mpr en)]
          exact step true (by rw [es]; simp [en])
        · rw [if_pos (by rw [lg_cmp_ge]; exact Int64.not_lt.mp en)]
          exact step false (by rw [es]; simp [en])
theorem X_tones (N : Nat) (hN : 40000 ≤ N) {s1 : Nat → Nat → Int32} {z t : Nat} (h : Tn s1 z) (ht : t ≤ 401) (σ : fb_S) (hs : σ.1 = s1) : ∃ τ, f_X0_tonesBelow N (nI t) σ = some (nI (cnt_ (mi (s1 4) (s1 3) t) z), τ) ∧ τ.1 = s1 := by
  obtain ⟨τ, e1, e2, e3⟩ := X_minors N hN h ht σ hs
  unfold f_X0_tonesBelow
  rw [e1, Option.bind_some]
  exact ⟨τ, X_tb N h.2.2.1 τ (by rw [e2]; exact h.1) e3 N 0 (Nat.zero_le _) (by have := h.2.2.1; omega), e2⟩
def sI (b : Bool) : Int64 := if b then -1 else 1
theorem M_row (N : Nat) {s1 : Nat → Nat → Int32} {z t : Nat} (h : Tn s1 z) (ht : t ≤ 401) (lst : Int32) (σ : fb_S) (e1 : σ.1 29 1 = nI z) (e30 : ∀ j, j < 5 → σ.1 30 j = s1 3 j) (e31 : ∀ j, j < 6 → σ.1 31 j = s1 4 j) : ∀ (n i : Nat), i ≤ z → z - i < n → f_X6_row_L14 N σ n (nI t) lst (if i = 0 then 0 else mi (s1 4) (s1 3) t (i - 1)) (mi (s1 4) (s1 3) t i) (lN (cnt_ (mi (s1 4) (s1 3) t) i)) (sI (sgn_ (mi (s1 4) (s1 3) t) i)) (nI i) = some (if lst = 0 then lN (cnt_ (mi (s1 4) (s1 3) t) z) else mi (s1 4) (s1 3) t z) := by
  have hz := h.2.2.1
  generalize hm : mi (s1 4) (s1 3) t = m
  intro n
  induction n with
  | zero => intro i h1 h2; omega
  | succ n ih =>
    intro i h1 h2
    unfold f_X6_row_L14
    rw [e1]
    by_cases hi : i = z
    · rw [if_pos (nI_le (by omega) (by omega)), hi]
      split <;> rfl
    · rw [if_neg (nI_ge (by omega) (by omega))]
      have i6 : fb_in (nI i) 6 = true := in_n (by omega) (by decide)
      have i7 : fb_in (nI (i + 1)) 6 = true := in_n (by omega) (by decide)
      have i5 : fb_in (nI i) 5 = true := in_n (by omega) (by decide)
      have hc := cnt_le m i
      have ih' := ih (i + 1) (by omega) (by omega)
      rw [if_neg (by omega)] at ih'
      have e1' : i + 1 - 1 = i := by omega
      rw [e1'] at ih'
      have l118 : ∀ (a : Int64) (b : Bool), sgn_ m (i + 1) = b → a = sI b → f_X6_row_L118 N σ (f_X6_row_L14 N σ n) (nI t) lst (m i) (m (i + 1)) (lN (cnt_ m i)) (sI (sgn_ m i)) (nI i) a = some (if lst = 0 then lN (cnt_ m z) else m z) := by
        intro a b hb ha
        subst ha
        unfold f_X6_row_L118 f_X6_row_L135
        rw [nI_1, nm_e_, nm_e_]
        by_cases e : b = sgn_ m i
        · rw [if_pos ((lgc_eq0 _ _).mpr (by rw [e]))]
          have e2 : cnt_ m (i + 1) = cnt_ m i := by simp [cnt_, hb, e]
          rw [hb, e2] at ih'
          rw [Int64.add_zero]
          exact ih'
        · have hne : ¬ sI b = sI (sgn_ m i) := by
            cases b <;> cases hq : sgn_ m i <;> simp_all [sI]
          rw [if_neg (fun q => hne ((lgc_eq0 _ _).mp q))]
          have e2 : cnt_ m (i + 1) = cnt_ m i + 1 := by simp [cnt_, hb, e]
          rw [hb, e2] at ih'
          rw [lN_1]
          exact ih'
      have l40 : ∀ s0 : Int64, ((((s1 4 i + s1 4 (i + 1)).toInt64) - ((nI t).toInt64 * (s1 3 i).toInt64)) * m i) - ((s0 * s0) * (if i = 0 then 0 else m (i - 1))) = m (i + 1) → f_X6_row_L40 N σ (f_X6_row_L14 N σ n) (nI t) lst (if i = 0 then 0 else m (i - 1)) (m i) (lN (cnt_ m i)) (sI (sgn_ m i)) (nI i) s0 = some (if lst = 0 then lN (cnt_ m z) else m z) := by
        intro s0 he
        unfold f_X6_row_L40
        rw [nI_1, ck_t i6, ck_t i7, ck_t i5, nm_e_, cl_n (by omega), cl_n (by omega), e31 i (by omega), e31 (i + 1) (by omega), e30 i (by omega), he]
        by_cases q1 : m (i + 1) ≤ 0
        · rw [if_pos ((lgc_le _ _).mpr q1)]
          by_cases q2 : 0 ≤ m (i + 1)
          · rw [if_pos (by rw [lg_cmp_ge]; exact q2)]
            have e0 : m (i + 1) = 0 := by
              rw [Int64.le_iff_toInt_le] at q1 q2
              exact Int64.toInt_inj.mp (by omega)
            exact l118 _ (sgn_ m i) (by simp [sgn_, e0]) rfl
          · rw [if_neg (by rw [lg_cmp_ge]; exact q2)]
            have q3 : m (i + 1) < 0 := Int64.not_le.mp q2
            have e0 : ¬ m (i + 1) = 0 := fun e => by rw [e] at q3; exact absurd q3 (by decide)
            exact l118 _ true (by simp [sgn_, e0, q3]) rfl
        · rw [if_neg (fun q => q1 ((lgc_le _ _).mp q))]
          have q3 : 0 < m (i + 1) := Int64.not_le.mp q1
          have e0 : ¬ m (i + 1) = 0 := fun e => by rw [e] at q3; exact absurd q3 (by decide)
          have q4 : ¬ m (i + 1) < 0 := fun q => q1 (by rw [Int64.le_iff_toInt_le]; rw [Int64.lt_iff_toInt_lt] at q; omega)
          exact l118 _ false (by simp [sgn_, e0, q4]) rfl
      have ho := (own_ok h ht (show i < 5 by omega)).2
      cases i with
      | zero =>
        rw [if_pos (show nI 0 = 0 from rfl)]
        refine l40 0 ?_
        rw [ho, ← hm]
        show ow (s1 4) (s1 3) t 0 * 1 - 0 * 0 * 0 = ow (s1 4) (s1 3) t 0 * 1
        have : (0 : Int64) * 0 * 0 = 0 := by decide
        rw [this, Int64.sub_zero]
      | succ i =>
        rw [if_neg (show ¬ nI (i + 1) = 0 from nI_ne0 (by omega) (by omega)), ck_t i6, cl_n (by omega)]
        refine l40 _ ?_
        rw [ho, e31 (i + 1) (by omega), ← hm, if_neg (by omega)]
        rfl
theorem M_row' (N : Nat) (hN : 40000 ≤ N) {s1 : Nat → Nat → Int32} {z t : Nat} (h : Tn s1 z) (ht : t ≤ 401) (lst : Int32) (σ : fb_S) (e1 : σ.1 29 1 = nI z) (e30 : ∀ j, j < 5 → σ.1 30 j = s1 3 j) (e31 : ∀ j, j < 6 → σ.1 31 j = s1 4 j) : f_X6_row N (nI t) lst σ = some (if lst = 0 then lN (cnt_ (mi (s1 4) (s1 3) t) z) else mi (s1 4) (s1 3) t z) := by
  unfold f_X6_row
  exact M_row N h ht lst σ e1 e30 e31 N 0 (Nat.zero_le _) (by have := h.2.2.1; omega)
