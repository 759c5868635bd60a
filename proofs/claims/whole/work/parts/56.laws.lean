/-! sure, safe, among -/
def cntN (n : Nat) (L : List Nat) : Nat := (L.filter (fun law => decide (lawn n law < 0))).length
theorem cntN_s (n : Nat) (L : List Nat) (a : Nat) : cntN n (L ++ [a]) = cntN n L + (if lawn n a < 0 then 1 else 0) := by
  unfold cntN
  rw [List.filter_append, List.length_append]
  by_cases c : lawn n a < 0
  · rw [if_pos c, List.filter_cons_of_pos (by simpa using c)]; rfl
  · rw [if_neg c, List.filter_cons_of_neg (by simpa using c)]; rfl
theorem cntN_le (n : Nat) (L : List Nat) : cntN n L ≤ L.length := List.length_filter_le _ _
def sre (n : Nat) (L : List Nat) : Int32 := if cntN n L = 0 then 0 else if cntN n L = L.length then 2 else 1
theorem X_lawAt {n law : Nat} (hn : n ≤ 999) (hl : law < 2500) : f_X3_lawNet (nI n) (nI (law / 50)) (nI (law % 50 + 1)) = some (iI (lawn n law)) := by
  rw [X_lawNet hn (by omega) (by omega) (by omega)]
  congr 3
  omega
theorem X_sureI (N : Nat) {σ : fb_S} (hR : Rl σ) (k4 : Int32 → Int32 → Int32 → Option Int32) {a : Nat} (ha : a ≤ 999) {p : Nat} (hp : p ≤ 49) : ∀ (n d : Nat), 1 ≤ d → d ≤ 51 → 51 - d < n → f_X3_sureness_L13 N σ k4 n (nI a) (nI (cntN a (LLm σ (50 * p + (d - 1))))) (nI p) (nI d) = k4 (nI a) (nI (cntN a (LLm σ (50 * (p + 1))))) (nI (p + 1)) := by
  intro n
  induction n with
  | zero => intro d h1 h2 h3; omega
  | succ n ih =>
    intro d h1 h2 h3
    unfold f_X3_sureness_L13
    by_cases c : d = 51
    · subst c
      rw [LLm_e, if_pos (lc_lt 50 (by omega) (by omega)), nI_1]
    · have hs := LLm_n σ (p := p) h1
      have hb := lawn_w ha (show 50 * p + (d - 1) < 2500 by omega)
      have ih := ih (d + 1) (by omega) (by omega) (by omega)
      rw [if_neg (lc_nlt 50 (by omega) (by omega)), X_isF hR (fun _ => rfl) hp h1 (by omega), Option.bind_some, nI_1]
      by_cases c2 : FB σ (50 * p + (d - 1)) = true
      · rw [if_pos c2] at hs
        rw [hs, cntN_s] at ih
        rw [if_pos c2, if_neg z_1, X_lawNet ha hp h1 (by omega), Option.bind_some]
        by_cases e : 0 ≤ lawn a (50 * p + (d - 1))
        · rw [if_pos (by rw [show (0 : Int32) = iI 0 from rfl, iI_le (by omega) (by omega) (by omega) (by omega)]; exact e)]
          rw [if_neg (by omega)] at ih
          exact ih
        · rw [if_neg (by rw [show (0 : Int32) = iI 0 from rfl, iI_le (by omega) (by omega) (by omega) (by omega)]; exact e), nI_1]
          rw [if_pos (by omega)] at ih
          exact ih
      · rw [if_neg c2] at hs
        rw [hs] at ih
        rw [if_neg c2, if_pos rfl]
        exact ih
theorem X_sureL (N : Nat) (hN : 40000 ≤ N) {σ : fb_S} (hR : Rl σ) {a : Nat} (ha : a ≤ 999) : ∀ (n p : Nat), p ≤ 50 → 50 - p < n → f_X3_sureness_L4 N σ n (nI a) (nI (cntN a (LLm σ (50 * p)))) (nI p) = some (sre a (LLm σ 2500)) := by
  have hlen := LLm_len σ 2500
  intro n
  induction n with
  | zero => intro p h1 h2; omega
  | succ n ih =>
    intro p h1 h2
    unfold f_X3_sureness_L4
    by_cases c : p = 50
    · subst c
      rw [if_pos (by decide), R8_n hR]
      have h3 := cntN_le a (LLm σ 2500)
      have e50 : 50 * 50 = 2500 := rfl
      rw [e50]
      unfold sre
      by_cases d : cntN a (LLm σ 2500) = 0
      · rw [if_pos (by rw [d]; rfl), if_pos d]
      · rw [if_neg (nI_ne0 (by omega) (by omega)), if_neg d]
        by_cases e : cntN a (LLm σ 2500) = (LLm σ 2500).length
        · rw [if_pos (by rw [e]), if_pos e]
        · rw [if_neg (fun q => e ((nI_eq (by omega) (by omega)).mp q)), if_neg e]
    · rw [if_neg (lc_nlt 49 (by omega) (by omega))]
      exact (X_sureI N hR (f_X3_sureness_L4 N σ n) ha (by omega : p ≤ 49) N 1 (by omega) (by omega) (by omega)).trans (ih (p + 1) (by omega) (by omega))
theorem M_sureL (N : Nat) {σ τ : fb_S} (h33 : τ.1 29 33 = nI (LLm σ 2500).length) (h48 : M48 σ τ) {a : Nat} (ha : a ≤ 999) : ∀ (n m : Nat), m ≤ 2500 → 2500 - m < n → f_X6_surely_L4 N τ n (nI a) (nI (cntN a (LLm σ m))) (nI m) = some (sre a (LLm σ 2500)) := by
  have hlen := LLm_len σ 2500
  intro n
  induction n with
  | zero => intro m h1 h2; omega
  | succ n ih =>
    intro m h1 h2
    unfold f_X6_surely_L4
    by_cases c : m = 2500
    · subst c
      rw [if_pos (by decide), h33]
      have h3 := cntN_le a (LLm σ 2500)
      unfold sre
      by_cases d : cntN a (LLm σ 2500) = 0
      · rw [if_pos (by rw [d]; rfl), if_pos d]
      · rw [if_neg (nI_ne0 (by omega) (by omega)), if_neg d]
        by_cases e : cntN a (LLm σ 2500) = (LLm σ 2500).length
        · rw [if_pos (by rw [e]), if_pos e]
        · rw [if_neg (fun q => e ((nI_eq (by omega) (by omega)).mp q)), if_neg e]
    · have hs := LLm_s σ m
      have hb := lawn_w ha (show m < 2500 by omega)
      have ih := ih (m + 1) (by omega) (by omega)
      rw [if_neg (lc_nle 2500 (by omega) (by omega)), ck_t (in_n (by omega) (by decide)), cl_n (by omega), h48 m (by omega)]
      by_cases d : FB σ m = true
      · rw [if_pos d] at hs
        rw [hs, cntN_s] at ih
        rw [if_pos d, if_neg z_1, M_netBy ha (by omega), Option.bind_some, nm_e_, nm_e_, nI_1, nI_1, Int32.add_zero]
        by_cases e : 0 ≤ lawn a m
        · rw [if_pos (by rw [show (0 : Int32) = iI 0 from rfl, iI_le (by omega) (by omega) (by omega) (by omega)]; exact e)]
          rw [if_neg (by omega)] at ih
          exact ih
        · rw [if_neg (by rw [show (0 : Int32) = iI 0 from rfl, iI_le (by omega) (by omega) (by omega) (by omega)]; exact e)]
          rw [if_pos (by omega)] at ih
          exact ih
      · rw [if_neg d] at hs
        rw [hs] at ih
        rw [if_neg d, if_pos rfl, nm_e_, Int32.add_zero, nI_1]
        exact ih
theorem M_surely (N : Nat) (hN : 40000 ≤ N) {σ τ : fb_S} (h33 : τ.1 29 33 = nI (LLm σ 2500).length) (h48 : M48 σ τ) {a : Nat} (ha : a ≤ 999) : f_X6_surely N (nI a) τ = some (sre a (LLm σ 2500)) := M_sureL N h33 h48 ha N 0 (by omega) (by omega)
theorem st_sure (N : Nat) (hN : 40000 ≤ N) (σ : fb_S) (hR : Rl σ) (a1 : Int32) : ∃ r σ2, f_X5_sure N a1 σ = some r ∧ f_X6_sure N a1 σ = some (r, σ2) ∧ Rl σ2 := by
  have hk0 : Keep σ (fb_up σ 29 0 0) := Keep.up rfl Keep.rfl'
  have hlen := LLm_len σ 2500
  unfold f_X5_sure f_X6_sure
  rw [nm_e_, X_within, M_in2 a1 0 999 (by decide) (by decide)]
  by_cases c : 0 ≤ a1 ∧ a1 ≤ 999
  · obtain ⟨a, ha, rfl⟩ := ex_n (c := 999) (by decide) c.1 c.2
    obtain ⟨τ, e1, e2, e3, e4⟩ := M_fit' N hN hR hk0
    refine ⟨sre a (LLm σ 2500), τ, ?_, ?_, Rl_keep e2 hR⟩
    · have e : f_X3_sureness N (nI a) σ = _ := X_sureL N hN hR ha N 0 (by omega) (by omega)
      rw [if_pos c, Option.bind_some, if_neg z_1, e, Option.bind_some]
    · rw [if_pos c, Option.bind_some, if_neg z_1, e1, Option.bind_some, M_surely N hN e3 e4 ha, Option.bind_some]
  · refine ⟨-2, fb_up σ 29 0 0, ?_, ?_, Rl_keep hk0 hR⟩
    · rw [if_neg c]; rfl
    · rw [if_neg c]; rfl
/-! safe -/
def sfs (m law : Nat) : Nat := if law / 50 = 0 then m else min m ((100 * (law % 50 + 1) - 1) / (law / 50))
theorem sfs_iff (m law v : Nat) : v ≤ sfs m law ↔ v ≤ m ∧ lawn v law < 0 := by
  unfold sfs lawn
  by_cases c : law / 50 = 0
  · rw [if_pos c, c, Nat.mul_zero]
    constructor
    · intro h; exact ⟨h, by omega⟩
    · intro h; exact h.1
  · rw [if_neg c]
    have h : v ≤ (100 * (law % 50 + 1) - 1) / (law / 50) ↔ v * (law / 50) ≤ 100 * (law % 50 + 1) - 1 := Nat.le_div_iff_mul_le (by omega)
    generalize v * (law / 50) = X at h ⊢
    omega
theorem saf_iff (v : Nat) : ∀ (L : List Nat) (m : Nat), v ≤ L.foldl sfs m ↔ v ≤ m ∧ ∀ law, law ∈ L → lawn v law < 0 := by
  intro L
  induction L with
  | nil => intro m; simp
  | cons a L ih =>
    intro m
    rw [List.foldl_cons, ih, sfs_iff]
    constructor
    · rintro ⟨⟨h1, h2⟩, h3⟩
      refine ⟨h1, fun law hl => ?_⟩
      rcases List.mem_cons.mp hl with q | q
      · rw [q]; exact h2
      · exact h3 law q
    · rintro ⟨h1, h2⟩
      exact ⟨⟨h1, h2 a (List.mem_cons.mpr (Or.inl rfl))⟩, fun law hl => h2 law (List.mem_cons.mpr (Or.inr hl))⟩
theorem nI_div1 {a c : Nat} (ha : a < 2147483648) (hc : 1 ≤ c) (hc2 : c < 2147483648) : nI a / nI c = nI (a / c) := by
  by_cases h : c = 1
  · subst h
    refine t_eq.mpr ?_
    rw [t_div (by decide), Nat.div_one]
    have : (nI 1).toInt = 1 := rfl
    rw [this, Int.tdiv_one]
  · exact nI_div c ha (by omega) hc2
theorem safe_0 : ∀ (L : List Nat), (∀ law, law ∈ L → law < 50) → ∀ m, L.foldl sfs m = m := by
  intro L
  induction L with
  | nil => intro _ m; rfl
  | cons a L ih =>
    intro h m
    have ha := h a List.mem_cons_self
    rw [List.foldl_cons]
    have e : sfs m a = m := by unfold sfs; rw [if_pos (by omega)]
    rw [e]
    exact ih (fun law hl => h law (List.mem_cons_of_mem _ hl)) m
theorem X_safeI (N : Nat) {σ : fb_S} (hR : Rl σ) (k6 : Int32 → Int32 → Option Int32) {p : Nat} (hp0 : 1 ≤ p) (hp : p ≤ 49) : ∀ (n d : Nat), 1 ≤ d → d ≤ 51 → 51 - d < n → f_X3_mostSafe_L14 N σ k6 n (nI ((LLm σ (50 * p + (d - 1))).foldl sfs 999)) (nI p) (nI d) = k6 (nI ((LLm σ (50 * (p + 1))).foldl sfs 999)) (nI (p + 1)) := by
  intro n
  induction n with
  | zero => intro d h1 h2 h3; omega
  | succ n ih =>
    intro d h1 h2 h3
    unfold f_X3_mostSafe_L14
    by_cases c : d = 51
    · subst c
      rw [LLm_e, if_pos (lc_lt 50 (by omega) (by omega)), nI_1]
    · have hs := LLm_n σ (p := p) h1
      have ih := ih (d + 1) (by omega) (by omega) (by omega)
      have hS := ((saf_iff ((LLm σ (50 * p + (d - 1))).foldl sfs 999) (LLm σ (50 * p + (d - 1))) 999).mp (Nat.le_refl _)).1
      have l1 : (50 * p + (d - 1)) / 50 = p := by omega
      have l2 : (50 * p + (d - 1)) % 50 + 1 = d := by omega
      rw [if_neg (lc_nlt 50 (by omega) (by omega)), X_isF hR (fun _ => rfl) hp h1 (by omega), Option.bind_some, nI_1]
      by_cases c2 : FB σ (50 * p + (d - 1)) = true
      · rw [if_pos c2] at hs
        rw [hs, List.foldl_append, List.foldl_cons, List.foldl_nil] at ih
        unfold sfs at ih
        rw [l1, l2, if_neg (by omega)] at ih
        have hne : (nI p != 0) = true := by
          rw [bne_iff_ne]
          exact nI_ne0 (by omega) (by omega)
        have e1 : (100 : Int32) * nI d - 1 = nI (100 * d - 1) := by
          have e2 : (100 : Int32) * nI d = nI (100 * d) := nI_mul 100 _
          rw [e2]
          exact nI_sub (b := 1) (by omega)
        have hq : (100 * d - 1) / p ≤ 100 * d - 1 := Nat.div_le_self _ _
        rw [if_pos c2, if_neg z_1, ck_t hne, nm_e_, e1, nI_div1 (by omega) (by omega) (by omega), mn_n (by omega) (by omega)]
        exact ih
      · rw [if_neg c2] at hs
        rw [hs] at ih
        rw [if_neg c2, if_pos rfl]
        exact ih
theorem X_safeL (N : Nat) (hN : 40000 ≤ N) {σ : fb_S} (hR : Rl σ) : ∀ (n p : Nat), 1 ≤ p → p ≤ 50 → 50 - p < n → f_X3_mostSafe_L6 N σ n (nI ((LLm σ (50 * p)).foldl sfs 999)) (nI p) = some (nI ((LLm σ 2500).foldl sfs 999)) := by
  intro n
  induction n with
  | zero => intro p h0 h1 h2; omega
  | succ n ih =>
    intro p h0 h1 h2
    unfold f_X3_mostSafe_L6
    by_cases c : p = 50
    · subst c
      rw [if_pos (by decide)]
    · rw [if_neg (lc_nlt 49 (by omega) (by omega))]
      exact (X_safeI N hR (f_X3_mostSafe_L6 N σ n) h0 (by omega : p ≤ 49) N 1 (by omega) (by omega) (by omega)).trans (ih (p + 1) (by omega) (by omega) (by omega))
theorem X_safe (N : Nat) (hN : 40000 ≤ N) {σ : fb_S} (hR : Rl σ) : f_X3_mostSafe N σ = some (nI ((LLm σ 2500).foldl sfs 999)) := by
  have e : f_X3_mostSafe_L6 N σ N (nI ((LLm σ (50 * 1)).foldl sfs 999)) (nI 1) = _ := X_safeL N hN hR N 1 (by omega) (by omega) (by omega)
  rw [safe_0 (LLm σ (50 * 1)) (fun law h => LLm_lt h) 999] at e
  exact e
theorem sre_2 {n : Nat} {L : List Nat} (h : L ≠ []) : sre n L = 2 ↔ ∀ law, law ∈ L → lawn n law < 0 := by
  have hl : L.length ≠ 0 := fun q => h (List.length_eq_zero_iff.mp q)
  have hall : cntN n L = L.length ↔ ∀ law, law ∈ L → lawn n law < 0 := by
    unfold cntN
    rw [List.length_filter_eq_length_iff]
    simp
  rw [← hall]
  unfold sre
  by_cases c : cntN n L = 0
  · rw [if_pos c]
    constructor
    · intro q; exact absurd q (by decide)
    · intro q; omega
  · rw [if_neg c]
    by_cases d : cntN n L = L.length
    · rw [if_pos d]
      exact ⟨fun _ => d, fun _ => rfl⟩
    · rw [if_neg d]
      constructor
      · intro q; exact absurd q (by decide)
      · intro q; exact absurd q d
theorem M_safeL (N : Nat) (hN : 40000 ≤ N) {σ τ : fb_S} (h33 : τ.1 29 33 = nI (LLm σ 2500).length) (h48 : M48 σ τ) (hne : LLm σ 2500 ≠ []) : ∀ (n v : Nat), v ≤ (LLm σ 2500).foldl sfs 999 + 1 → 1000 - v < n → f_X6_safe_L11 N n (nI v) τ = some (nI ((LLm σ 2500).foldl sfs 999), τ) := by
  have hS := ((saf_iff ((LLm σ 2500).foldl sfs 999) (LLm σ 2500) 999).mp (Nat.le_refl _)).1
  intro n
  induction n with
  | zero => intro v h1 h2; omega
  | succ n ih =>
    intro v h1 h2
    have fin : v = (LLm σ 2500).foldl sfs 999 + 1 → f_X6_safe_L33 N (nI v) τ = some (nI ((LLm σ 2500).foldl sfs 999), τ) := by
      intro e
      unfold f_X6_safe_L33
      rw [e, if_neg (nI_ne0 (by omega) (by omega)), nI_pred]
    unfold f_X6_safe_L11
    by_cases c : v = 1000
    · rw [if_pos (by rw [c]; decide)]
      exact fin (by omega)
    · rw [if_neg (lc_nle 1000 (by omega) (by omega)), M_surely N hN h33 h48 (by omega), Option.bind_some]
      have h2' := sre_2 (n := v) hne
      have h3 := saf_iff v (LLm σ 2500) 999
      by_cases d : sre v (LLm σ 2500) = 2
      · rw [if_pos d, nI_1]
        have := h3.mpr ⟨by omega, h2'.mp d⟩
        exact ih (v + 1) (by omega) (by omega)
      · rw [if_neg d]
        refine fin ?_
        by_cases e : v ≤ (LLm σ 2500).foldl sfs 999
        · exact absurd (h2'.mpr (h3.mp e).2) d
        · omega
theorem st_safe (N : Nat) (hN : 40000 ≤ N) (σ : fb_S) (hR : Rl σ) : ∃ r σ2, f_X5_safe N σ = some r ∧ f_X6_safe N σ = some (r, σ2) ∧ Rl σ2 := by
  have hk0 : Keep σ (fb_up σ 29 0 0) := Keep.up rfl Keep.rfl'
  have hlen := LLm_len σ 2500
  obtain ⟨τ, e1, e2, e3, e4⟩ := M_fit' N hN hR hk0
  unfold f_X5_safe f_X6_safe
  rw [nm_e_, e1, Option.bind_some, R8_n hR]
  by_cases c : LLm σ 2500 = []
  · refine ⟨-9, τ, ?_, ?_, Rl_keep e2 hR⟩
    · rw [c, if_pos (by decide)]
    · obtain ⟨N', rfl⟩ : ∃ N', N = N' + 1 := ⟨N - 1, by omega⟩
      have e0 : (0 : Int32) = nI 0 := rfl
      rw [f_X6_safe_L11, if_neg (by decide), e0, M_surely (N' + 1) hN e3 e4 (by omega : 0 ≤ 999), Option.bind_some, c]
      have es : sre 0 [] = 0 := rfl
      rw [es, if_neg (by decide)]
      unfold f_X6_safe_L33
      rw [if_pos (by decide)]
  · have hl : (LLm σ 2500).length ≠ 0 := fun q => c (List.length_eq_zero_iff.mp q)
    refine ⟨nI ((LLm σ 2500).foldl sfs 999), τ, ?_, ?_, Rl_keep e2 hR⟩
    · rw [if_neg (nI_ne0 (by omega) (by omega)), X_safe N hN hR, Option.bind_some]
    · exact M_safeL N hN e3 e4 c N 0 (by omega) (by omega)
/-! among -/
def amv (a1 : Int32) (law : Nat) : Int32 := if a1 = 0 then nI (law % 50 + 1) else nI (law / 50)
def amg (a1 a2 : Int32) (f : Int32) (law : Nat) : Int32 := if f = -9 then amv a1 law else if a2 = 0 then (if f ≤ amv a1 law then f else amv a1 law) else (if amv a1 law ≤ f then f else amv a1 law)
theorem X_amI (N : Nat) {σ : fb_S} (hR : Rl σ) (k6 : Int32 → Int32 → Int32 → Int32 → Option Int32) (a1 a2 : Int32) {p : Nat} (hp : p ≤ 49) : ∀ (n d : Nat), 1 ≤ d → d ≤ 51 → 51 - d < n → f_X3_farthest_L16 N σ k6 n a1 a2 ((LLm σ (50 * p + (d - 1))).foldl (amg a1 a2) (-9)) (nI p) (nI d) = k6 a1 a2 ((LLm σ (50 * (p + 1))).foldl (amg a1 a2) (-9)) (nI (p + 1)) := by
  intro n
  induction n with
  | zero => intro d h1 h2 h3; omega
  | succ n ih =>
    intro d h1 h2 h3
    unfold f_X3_farthest_L16
    by_cases c : d = 51
    · subst c
      rw [LLm_e, if_pos (lc_lt 50 (by omega) (by omega)), nI_1]
    · have hs := LLm_n σ (p := p) h1
      have ih := ih (d + 1) (by omega) (by omega) (by omega)
      have l1 : (50 * p + (d - 1)) / 50 = p := by omega
      have l2 : (50 * p + (d - 1)) % 50 + 1 = d := by omega
      generalize hf : (LLm σ (50 * p + (d - 1))).foldl (amg a1 a2) (-9) = f
      generalize hG : k6 a1 a2 ((LLm σ (50 * (p + 1))).foldl (amg a1 a2) (-9)) (nI (p + 1)) = G at ih ⊢
      have go : ∀ v, v = amv a1 (50 * p + (d - 1)) → f_X3_farthest_L34 N σ k6 (f_X3_farthest_L16 N σ k6 n) a1 a2 f (nI p) (nI d) v = G := by
        intro v hv
        unfold f_X3_farthest_L34
        rw [X_isF hR (fun _ => rfl) hp h1 (by omega), Option.bind_some, nI_1]
        by_cases c2 : FB σ (50 * p + (d - 1)) = true
        · rw [if_pos c2] at hs
          have ea : amg a1 a2 f (50 * p + (d - 1)) = if f = -9 then v else if a2 = 0 then (if f ≤ v then f else v) else (if v ≤ f then f else v) := by rw [hv]; rfl
          rw [hs, List.foldl_append, List.foldl_cons, List.foldl_nil, hf, ea] at ih
          rw [if_pos c2, if_neg z_1]
          by_cases d1 : f = -9
          · rw [if_pos d1]
            rw [if_pos d1] at ih
            exact ih
          · rw [if_neg d1]
            rw [if_neg d1] at ih
            by_cases d2 : a2 = 0
            · rw [if_pos d2]
              rw [if_pos d2] at ih
              by_cases h : f ≤ v
              · rw [if_pos h] at ih ⊢; exact ih
              · rw [if_neg h] at ih ⊢; exact ih
            · rw [if_neg d2]
              rw [if_neg d2] at ih
              by_cases h : v ≤ f
              · rw [if_pos h] at ih ⊢; exact ih
              · rw [if_neg h] at ih ⊢; exact ih
        · rw [if_neg c2] at hs
          rw [hs, hf] at ih
          rw [if_neg c2, if_pos rfl]
          exact ih
      rw [if_neg (lc_nlt 50 (by omega) (by omega))]
      by_cases e : a1 = 0
      · rw [if_pos e]
        exact go _ (by unfold amv; rw [if_pos e, l2])
      · rw [if_neg e]
        exact go _ (by unfold amv; rw [if_neg e, l1])
theorem X_amL (N : Nat) (hN : 40000 ≤ N) {σ : fb_S} (hR : Rl σ) (a1 a2 : Int32) : ∀ (n p : Nat), p ≤ 50 → 50 - p < n → f_X3_farthest_L6 N σ n a1 a2 ((LLm σ (50 * p)).foldl (amg a1 a2) (-9)) (nI p) = some ((LLm σ 2500).foldl (amg a1 a2) (-9)) := by
  intro n
  induction n with
  | zero => intro p h1 h2; omega
  | succ n ih =>
    intro p h1 h2
    unfold f_X3_farthest_L6
    by_cases c : p = 50
    · subst c
      rw [if_pos (by decide)]
    · rw [if_neg (lc_nlt 49 (by omega) (by omega))]
      exact (X_amI N hR (f_X3_farthest_L6 N σ n) a1 a2 (by omega : p ≤ 49) N 1 (by omega) (by omega) (by omega)).trans (ih (p + 1) (by omega) (by omega))
theorem M_amL (N : Nat) {σ τ : fb_S} (h48 : M48 σ τ) (a1 a2 : Int32) : ∀ (n m : Nat), m ≤ 2500 → 2500 - m < n → f_X6_among_L15 N n a1 a2 ((LLm σ m).foldl (amg a1 a2) (-9)) (nI m) τ = some ((LLm σ 2500).foldl (amg a1 a2) (-9), τ) := by
  intro n
  induction n with
  | zero => intro m h1 h2; omega
  | succ n ih =>
    intro m h1 h2
    unfold f_X6_among_L15
    by_cases c : m = 2500
    · subst c
      rw [if_pos (by decide)]
    · have hs := LLm_s σ m
      have ih := ih (m + 1) (by omega) (by omega)
      have hin : fb_in (nI m) 2500 = true := in_n (by omega) (by decide)
      have e5 : (50 : Int32) = nI 50 := rfl
      rw [if_neg (lc_nle 2500 (by omega) (by omega)), e5, nI_mod 50 (by omega) (by decide) (by decide), nI_div 50 (by omega) (by decide) (by decide), nI_1]
      generalize hf : (LLm σ m).foldl (amg a1 a2) (-9) = f
      have go : ∀ v, v = amv a1 m → f_X6_among_L42 N (f_X6_among_L15 N n) a1 a2 f (nI m) v τ = some ((LLm σ 2500).foldl (amg a1 a2) (-9), τ) := by
        intro v hv
        have take : amg a1 a2 f m = v → f_X6_among_L69 N (f_X6_among_L15 N n) a1 a2 f (nI m) v τ = some ((LLm σ 2500).foldl (amg a1 a2) (-9), τ) := by
          intro e
          unfold f_X6_among_L69 f_X6_among_L74
          rw [ck_t hin, cl_n (by omega), h48 m (by omega), nI_1]
          by_cases d : FB σ m = true
          · rw [if_pos d] at hs
            rw [hs, List.foldl_append, List.foldl_cons, List.foldl_nil, hf, e] at ih
            rw [if_pos d, if_neg z_1, if_neg z_1]
            exact ih
          · rw [if_neg d] at hs
            rw [hs, hf] at ih
            rw [if_neg d, if_pos rfl]
            exact ih
        have keep : amg a1 a2 f m = f → f_X6_among_L73 N (f_X6_among_L15 N n) a1 a2 f (nI m) v τ = some ((LLm σ 2500).foldl (amg a1 a2) (-9), τ) := by
          intro e
          unfold f_X6_among_L73 f_X6_among_L74
          rw [ck_t hin, cl_n (by omega), h48 m (by omega), nI_1]
          by_cases d : FB σ m = true
          · rw [if_pos d] at hs
            rw [hs, List.foldl_append, List.foldl_cons, List.foldl_nil, hf, e] at ih
            rw [if_pos d, if_neg z_1, if_pos rfl]
            exact ih
          · rw [if_neg d] at hs
            rw [hs, hf] at ih
            rw [if_neg d, if_pos rfl]
            exact ih
        unfold f_X6_among_L42
        unfold amg at take keep
        rw [← hv] at take keep
        by_cases d1 : f = -9
        · rw [if_pos d1]
          exact take (by rw [if_pos d1])
        · rw [if_neg d1]
          by_cases d2 : a2 = 0
          · rw [if_pos d2]
            by_cases d3 : f ≤ v
            · rw [if_pos d3]; exact keep (by rw [if_neg d1, if_pos d2, if_pos d3])
            · rw [if_neg d3]; exact take (by rw [if_neg d1, if_pos d2, if_neg d3])
          · rw [if_neg d2]
            by_cases d3 : v ≤ f
            · rw [if_pos d3]; exact keep (by rw [if_neg d1, if_neg d2, if_pos d3])
            · rw [if_neg d3]; exact take (by rw [if_neg d1, if_neg d2, if_neg d3])
      by_cases d : a1 = 0
      · rw [if_pos d]
        exact go _ (by unfold amv; rw [if_pos d])
      · rw [if_neg d]
        exact go _ (by unfold amv; rw [if_neg d])
theorem st_among (N : Nat) (hN : 40000 ≤ N) (σ : fb_S) (hR : Rl σ) (a1 : Int32) (a2 : Int32) (hb1 : a1 = 0 ∨ a1 = 1) (hb2 : a2 = 0 ∨ a2 = 1) : ∃ r σ2, f_X5_among N a1 a2 σ = some r ∧ f_X6_among N a1 a2 σ = some (r, σ2) ∧ Rl σ2 := by
  have hk0 : Keep σ (fb_up σ 29 0 0) := Keep.up rfl Keep.rfl'
  have hlen := LLm_len σ 2500
  obtain ⟨τ, e1, e2, e3, e4⟩ := M_fit' N hN hR hk0
  unfold f_X5_among f_X6_among
  rw [nm_e_, e1, Option.bind_some, R8_n hR]
  refine ⟨(LLm σ 2500).foldl (amg a1 a2) (-9), τ, ?_, M_amL N e4 a1 a2 N 0 (by omega) (by omega), Rl_keep e2 hR⟩
  by_cases c : LLm σ 2500 = []
  · rw [c, if_pos (by decide)]; rfl
  · have hl : (LLm σ 2500).length ≠ 0 := fun q => c (List.length_eq_zero_iff.mp q)
    have e : f_X3_farthest N a1 a2 σ = _ := X_amL N hN hR a1 a2 N 0 (by omega) (by omega)
    rw [if_neg (nI_ne0 (by omega) (by omega)), e, Option.bind_some]
