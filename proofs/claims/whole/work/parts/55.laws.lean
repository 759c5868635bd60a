/-! laws, law, breaks, sure, among -/
def LLm (σ : fb_S) (m : Nat) : List Nat := fitL (σ.1 23) (σ.1 24) (σ.1 25) (σ.1 22 6).toNatClampNeg m
def FB (σ : fb_S) (law : Nat) : Bool := fitB (σ.1 23) (σ.1 24) (σ.1 25) (σ.1 22 6).toNatClampNeg law
theorem LLm_s (σ : fb_S) (m : Nat) : LLm σ (m + 1) = if FB σ m = true then LLm σ m ++ [m] else LLm σ m := fitL_s _ _ _ _ _
theorem LLm_len (σ : fb_S) (m : Nat) : (LLm σ m).length ≤ m := fitL_len _ _ _ _ _
theorem LLm_lt {σ : fb_S} {m law : Nat} (h : law ∈ LLm σ m) : law < m := fitL_lt _ _ _ _ _ _ h
theorem R8_n {σ : fb_S} (hR : Rl σ) : σ.1 22 7 = nI (LLm σ 2500).length := hR.2.2.2.2.2.2.2.1
theorem LLm_up {σ : fb_S} {m i law : Nat} (h : (LLm σ m)[i]? = some law) : ∀ d, (LLm σ (m + d))[i]? = some law := by
  intro d
  induction d with
  | zero => exact h
  | succ d ih =>
    show (LLm σ (m + d + 1))[i]? = some law
    rw [LLm_s]
    split
    · have hi : i < (LLm σ (m + d)).length := by
        by_cases c : i < (LLm σ (m + d)).length
        · exact c
        · rw [List.getElem?_eq_none (by omega)] at ih; cases ih
      rw [List.getElem?_append_left hi]; exact ih
    · exact ih
theorem X_isF {σ τ : fb_S} (hR : Rl σ) (h26 : ∀ j, τ.1 26 j = σ.1 26 j) {p d : Nat} (hp : p ≤ 49) (h1 : 1 ≤ d) (h2 : d ≤ 50) : f_X3_isFitting (nI p) (nI d) τ = some (if FB σ (50 * p + (d - 1)) = true then 1 else 0) := by
  unfold f_X3_isFitting
  have h : fbit (σ.1 26) (50 * p + (d - 1)) = FB σ (50 * p + (d - 1)) := hR.2.2.2.2.2.2.2.2 (50 * p + (d - 1)) (by omega)
  have l1 : (50 * p + (d - 1)) / 50 = p := by omega
  have l2 : (50 * p + (d - 1)) % 50 + 1 = d := by omega
  have hb := lb_bit (n := d) (by omega) (hjf (τ.1 26) p)
  have hx : lb (hjf (τ.1 26) p) d = FB σ (50 * p + (d - 1)) := by
    rw [hjf_c h26, ← h]
    unfold fbit
    rw [l1, l2]
  rw [hx] at hb
  rw [ck_t (in_n (by omega) (by decide)), cl_n (by omega)]
  by_cases c : FB σ (50 * p + (d - 1)) = true
  · rw [if_pos ((lgc_eq0 _ _).mpr (hb.mpr c)), if_pos c]
  · rw [if_neg (fun q => c (hb.mp ((lgc_eq0 _ _).mp q))), if_neg c]
theorem LLm_n (σ : fb_S) {p d : Nat} (h1 : 1 ≤ d) : LLm σ (50 * p + (d + 1 - 1)) = if FB σ (50 * p + (d - 1)) = true then LLm σ (50 * p + (d - 1)) ++ [50 * p + (d - 1)] else LLm σ (50 * p + (d - 1)) := by
  have e : 50 * p + (d + 1 - 1) = (50 * p + (d - 1)) + 1 := by omega
  rw [e, LLm_s]
theorem LLm_e (σ : fb_S) (p : Nat) : LLm σ (50 * p + (51 - 1)) = LLm σ (50 * (p + 1)) := by
  have e : 50 * p + (51 - 1) = 50 * (p + 1) := by omega
  rw [e]
theorem M_fit' (N : Nat) (hN : 40000 ≤ N) {σ τ : fb_S} (hR : Rl σ) (hk : Keep σ τ) : ∃ τ', f_X6_fit N τ = some τ' ∧ Keep σ τ' ∧ τ'.1 29 33 = nI (LLm σ 2500).length ∧ ∀ law, law < 2500 → τ'.1 48 law = if FB σ law = true then 1 else 0 := by
  have h7 := hR.2.2.2.2.2.2.1
  obtain ⟨t, ht, et, -⟩ := R7_t h7
  obtain ⟨τ', e1, e2, e3, e4⟩ := M_fit N hN h7 ht et hk
  have ec : (σ.1 22 6).toNatClampNeg = t := by rw [et, cl_n (by omega)]
  refine ⟨τ', e1, e2, ?_, ?_⟩
  · unfold LLm; rw [ec]; exact e3
  · unfold FB; rw [ec]; exact e4
def M48 (σ τ : fb_S) : Prop := ∀ law, law < 2500 → τ.1 48 law = if FB σ law = true then 1 else 0
theorem st_laws (N : Nat) (hN : 40000 ≤ N) (σ : fb_S) (hR : Rl σ) : ∃ r σ2, f_X5_laws σ = some r ∧ f_X6_laws N σ = some (r, σ2) ∧ Rl σ2 := by
  unfold f_X5_laws f_X6_laws
  obtain ⟨τ, e1, e2, e3, e4⟩ := M_fit' N hN hR (Keep.up rfl Keep.rfl' : Keep σ (fb_up σ 29 0 0))
  rw [nm_e_, e1, Option.bind_some, e3, R8_n hR]
  exact ⟨_, τ, rfl, rfl, Rl_keep e2 hR⟩
def lawv (σ : fb_S) (a1 : Int32) : Int32 := if 0 ≤ a1 ∧ a1 ≤ nI (LLm σ 2500).length - 1 then nI (lcode ((LLm σ 2500).getD a1.toNatClampNeg 0)) else -9
theorem law_miss {σ : fb_S} {a1 : Int32} (h3 : ∀ i, i < (LLm σ 2500).length → a1 ≠ nI i) : lawv σ a1 = -9 := by
  unfold lawv
  rw [if_neg]
  rintro ⟨q1, q2⟩
  have hl := LLm_len σ 2500
  have m1 := t_le.mp q1
  have m2 := t_le.mp q2
  have z0 : (0 : Int32).toInt = 0 := rfl
  have et1 : nI (LLm σ 2500).length - 1 = iI (((LLm σ 2500).length : Int) - 1) := by rw [iI_n, show (1 : Int32) = iI 1 from rfl, iI_sub]
  rw [et1, iI_t (by omega) (by omega)] at m2
  obtain ⟨j, hj, e⟩ := rgn 2500 (by decide) (x := a1) ⟨by omega, by omega⟩
  rw [e, t_n (by omega)] at m2
  exact h3 j (by omega) e
theorem law_hit {σ : fb_S} {a1 : Int32} {m : Nat} (hm : m < 2500) (d : FB σ m = true) (f : nI (LLm σ m).length = a1) : lawv σ a1 = nI (lcode m) := by
  have hs := LLm_s σ m
  have hl := LLm_len σ m
  rw [if_pos d] at hs
  have e0 : (LLm σ (m + 1))[(LLm σ m).length]? = some m := by
    rw [hs, List.getElem?_append_right (Nat.le_refl _), Nat.sub_self]; rfl
  have e1 := LLm_up e0 (2500 - (m + 1))
  rw [show m + 1 + (2500 - (m + 1)) = 2500 by omega] at e1
  have hlen : (LLm σ m).length < (LLm σ 2500).length := by
    by_cases q : (LLm σ m).length < (LLm σ 2500).length
    · exact q
    · rw [List.getElem?_eq_none (by omega)] at e1; cases e1
  have hl2 := LLm_len σ 2500
  obtain ⟨l', hl'⟩ : ∃ l', (LLm σ 2500).length = l' + 1 := ⟨(LLm σ 2500).length - 1, by omega⟩
  unfold lawv
  rw [← f, if_pos ⟨le0 (by omega), by rw [hl', nI_pred]; exact nI_le (by omega) (by omega)⟩, cl_n (by omega), List.getD_eq_getElem?_getD, e1]
  rfl
theorem X_lawI (N : Nat) {σ : fb_S} (hR : Rl σ) (k4 : Int32 → Int32 → Int32 → Option Int32) (a1 : Int32) {p : Nat} (hp : p ≤ 49) : ∀ (n d : Nat), 1 ≤ d → d ≤ 51 → 51 - d < n → (∀ i, i < (LLm σ (50 * p + (d - 1))).length → a1 ≠ nI i) → f_X3_codeAt_L13 N σ k4 n a1 (nI (LLm σ (50 * p + (d - 1))).length) (nI p) (nI d) = some (lawv σ a1) ∨ (f_X3_codeAt_L13 N σ k4 n a1 (nI (LLm σ (50 * p + (d - 1))).length) (nI p) (nI d) = k4 a1 (nI (LLm σ (50 * (p + 1))).length) (nI (p + 1)) ∧ ∀ i, i < (LLm σ (50 * (p + 1))).length → a1 ≠ nI i) := by
  intro n
  induction n with
  | zero => intro d h1 h2 h3; omega
  | succ n ih =>
    intro d h1 h2 h3 h4
    unfold f_X3_codeAt_L13
    by_cases c : d = 51
    · subst c
      rw [LLm_e] at h4 ⊢
      rw [if_pos (lc_lt 50 (by omega) (by omega)), nI_1]
      exact Or.inr ⟨rfl, h4⟩
    · have hs := LLm_n σ (p := p) h1
      have hl := LLm_len σ (50 * p + (d - 1))
      have ih := ih (d + 1) (by omega) (by omega) (by omega)
      rw [if_neg (lc_nlt 50 (by omega) (by omega)), X_isF hR (fun _ => rfl) hp h1 (by omega), Option.bind_some, nI_1]
      by_cases c2 : FB σ (50 * p + (d - 1)) = true
      · rw [if_pos c2] at hs
        rw [if_pos c2, if_neg z_1, nI_1]
        by_cases f : nI (LLm σ (50 * p + (d - 1))).length = a1
        · rw [if_pos f]
          refine Or.inl ?_
          rw [law_hit (by omega) c2 f]
          have e1 : (100 : Int32) * nI p = nI (100 * p) := nI_mul 100 p
          rw [e1, nI_add]
          unfold lcode
          congr 2
          omega
        · rw [if_neg f]
          have hlen : (LLm σ (50 * p + (d + 1 - 1))).length = (LLm σ (50 * p + (d - 1))).length + 1 := by rw [hs, List.length_append]; rfl
          rw [hlen] at ih
          refine ih (fun i hi q => ?_)
          by_cases e : i = (LLm σ (50 * p + (d - 1))).length
          · exact f (by rw [q, e])
          · exact h4 i (by omega) q
      · rw [if_neg c2] at hs
        rw [if_neg c2, if_pos rfl]
        rw [hs] at ih
        exact ih h4
theorem X_lawO (N : Nat) (hN : 40000 ≤ N) {σ : fb_S} (hR : Rl σ) (a1 : Int32) : ∀ (n p : Nat), p ≤ 50 → 50 - p < n → (∀ i, i < (LLm σ (50 * p)).length → a1 ≠ nI i) → f_X3_codeAt_L4 N σ n a1 (nI (LLm σ (50 * p)).length) (nI p) = some (lawv σ a1) := by
  intro n
  induction n with
  | zero => intro p h1 h2; omega
  | succ n ih =>
    intro p h1 h2 h3
    unfold f_X3_codeAt_L4
    by_cases c : p = 50
    · subst c
      rw [if_pos (by decide), law_miss h3]
    · rw [if_neg (lc_nlt 49 (by omega) (by omega))]
      rcases X_lawI N hR (f_X3_codeAt_L4 N σ n) a1 (by omega : p ≤ 49) N 1 (by omega) (by omega) (by omega) h3 with h | ⟨h, h4⟩
      · exact h
      · exact h.trans (ih (p + 1) (by omega) (by omega) h4)
theorem M_lawL (N : Nat) {σ τ : fb_S} (h48 : M48 σ τ) (a1 : Int32) : ∀ (n m : Nat), m ≤ 2500 → 2500 - m < n → (∀ i, i < (LLm σ m).length → a1 ≠ nI i) → f_X6_law_L13 N n a1 (nI (LLm σ m).length) (nI m) τ = some (lawv σ a1, τ) := by
  intro n
  induction n with
  | zero => intro m h1 h2; omega
  | succ n ih =>
    intro m h1 h2 h3
    unfold f_X6_law_L13
    by_cases c : m = 2500
    · subst c
      rw [if_pos (by decide), law_miss h3]
    · have hs := LLm_s σ m
      have hl := LLm_len σ m
      rw [if_neg (lc_nle 2500 (by omega) (by omega)), ck_t (in_n (by omega) (by decide)), cl_n (by omega), h48 m (by omega)]
      have ih := ih (m + 1) (by omega) (by omega)
      by_cases d : FB σ m = true
      · rw [if_pos d] at hs
        rw [if_pos d, if_neg z_1, nI_1, nI_1]
        by_cases f : nI (LLm σ m).length = a1
        · rw [if_pos f, law_hit (by omega) d f]
          have e5 : (50 : Int32) = nI 50 := rfl
          have e100 : (100 : Int32) = nI 100 := rfl
          rw [e5, nI_mod 50 (by omega) (by decide) (by decide), nI_div 50 (by omega) (by decide) (by decide), e100, nI_mul, nI_add, nI_1]
          rfl
        · rw [if_neg f]
          have hlen : (LLm σ (m + 1)).length = (LLm σ m).length + 1 := by rw [hs, List.length_append]; rfl
          rw [hlen] at ih
          refine ih (fun i hi q => ?_)
          by_cases e : i = (LLm σ m).length
          · exact f (by rw [q, e])
          · exact h3 i (by omega) q
      · rw [if_neg d] at hs
        rw [if_neg d, if_pos rfl, nI_1]
        rw [hs] at ih
        exact ih h3
theorem st_law (N : Nat) (hN : 40000 ≤ N) (σ : fb_S) (hR : Rl σ) (a1 : Int32) : ∃ r σ2, f_X5_law N a1 σ = some r ∧ f_X6_law N a1 σ = some (r, σ2) ∧ Rl σ2 := by
  unfold f_X5_law f_X6_law
  obtain ⟨τ, e1, e2, e3, e4⟩ := M_fit' N hN hR (Keep.up rfl Keep.rfl' : Keep σ (fb_up σ 29 0 0))
  have L : f_X6_law_L13 N N a1 0 0 τ = _ := M_lawL N e4 a1 N 0 (by omega) (by omega) (fun i hi => absurd hi (by have := LLm_len σ 0; omega))
  have K : f_X3_codeAt N a1 σ = _ := X_lawO N hN hR a1 N 0 (by omega) (by omega) (fun i hi => absurd hi (by have := LLm_len σ (50 * 0); omega))
  rw [nm_e_, e1, Option.bind_some, L, K, Option.bind_some]
  exact ⟨_, τ, rfl, rfl, Rl_keep e2 hR⟩
theorem st_breaks (N : Nat) (hN : 40000 ≤ N) (σ : fb_S) (hR : Rl σ) (a1 : Int32) : ∃ r σ2, f_X5_breaks N a1 σ = some r ∧ f_X6_breaks N a1 σ = some (r, σ2) ∧ Rl σ2 := by
  have hk0 : Keep σ (fb_up σ 29 0 0) := Keep.up rfl Keep.rfl'
  have h7 := hR.2.2.2.2.2.2.1
  obtain ⟨t, ht, et, et2⟩ := R7_t h7
  have z0 : (0 : Int32).toInt = 0 := rfl
  have o1 : (1 : Int32).toInt = 1 := rfl
  unfold f_X5_breaks f_X6_breaks
  rw [nm_e_, nm_e_, nm_e_, X_within, X_within, M_in2 a1 0 4999 (by decide) (by decide), M_in2 (a1 - a1 / 100 * 100) 1 50 (by decide) (by decide)]
  by_cases c : (0 : Int32) ≤ a1
  · obtain ⟨a, ha, rfl⟩ := nI_of (x := a1) (fun q => by have := t_lt.mp q; have := t_le.mp c; omega)
    have ha' : a < 2147483648 := ha
    have e1 : (100 : Int32) = nI 100 := rfl
    rw [e1, nI_mod 100 ha' (by decide) (by decide), nI_div 100 ha' (by decide) (by decide)]
    have q1 : (0 ≤ nI (a / 100) ∧ nI (a / 100) ≤ 49) ↔ (0 ≤ nI a ∧ nI a ≤ 4999) := by
      have h49 : nI (a / 100) ≤ 49 ↔ a / 100 ≤ 49 := nI_leI (b := 49) (by omega) (by decide)
      have h4999 : nI a ≤ 4999 ↔ a ≤ 4999 := nI_leI (b := 4999) ha (by decide)
      rw [h49, h4999]
      constructor
      · rintro ⟨-, h⟩; exact ⟨c, by omega⟩
      · rintro ⟨-, h⟩; exact ⟨le0 (by omega), by omega⟩
    by_cases d : 0 ≤ nI a ∧ nI a ≤ 4999
    · have ha4 : a ≤ 4999 := (nI_leI (b := 4999) ha (by decide)).mp d.2
      rw [if_pos (q1.mpr d), if_pos d]
      simp only [Option.bind_some, if_neg z_1]
      by_cases f : 1 ≤ nI (a % 100) ∧ nI (a % 100) ≤ 50
      · have f1 : 1 ≤ a % 100 := (nI_leI (a := 1) (by decide) (by omega)).mp f.1
        have f2 : a % 100 ≤ 50 := (nI_leI (b := 50) (by omega) (by decide)).mp f.2
        have e2 : (50 : Int32) * nI (a / 100) + nI (a % 100) - 1 = nI (50 * (a / 100) + (a % 100 - 1)) := by
          have e3 : (50 : Int32) * nI (a / 100) = nI (50 * (a / 100)) := nI_mul 50 _
          rw [e3, nI_add, show 50 * (a / 100) + a % 100 = (50 * (a / 100) + (a % 100 - 1)) + 1 by omega, nI_pred]
        rw [if_pos f]
        simp only [if_neg z_1]
        rw [e2, X_brk N hN σ ht et (fun j hj => (h7.2.2 j (by rw [et, t_n (by omega)]; omega)).2.1) (by omega) f1 f2, Option.bind_some, M_brk' N hN h7 ht et hk0 (by omega), Option.bind_some]
        exact ⟨_, _, rfl, rfl, Rl_keep hk0 hR⟩
      · rw [if_neg f]
        exact ⟨-2, fb_up σ 29 0 0, rfl, rfl, Rl_keep hk0 hR⟩
    · rw [if_neg (fun q => d (q1.mp q)), if_neg d]
      exact ⟨-2, fb_up σ 29 0 0, rfl, rfl, Rl_keep hk0 hR⟩
  · refine ⟨-2, fb_up σ 29 0 0, ?_, ?_, Rl_keep hk0 hR⟩
    · by_cases d : 0 ≤ a1 / 100 ∧ a1 / 100 ≤ 49
      · rw [if_pos d, Option.bind_some, if_neg z_1, if_neg]
        · rfl
        · rintro ⟨f, -⟩
          have m0 := t_le.mp d.1
          have hneg : a1.toInt < 0 := by
            have : ¬ (0 : Int32).toInt ≤ a1.toInt := fun q => c (t_le.mpr q)
            omega
          have h100 : (100 : Int32).toInt = 100 := rfl
          have hq : (a1 / 100).toInt = a1.toInt.tdiv 100 := by rw [t_div (by decide), h100]
          have hx : a1.toInt.tdiv 100 = -((-a1.toInt) / 100) := by
            have e : a1.toInt = -(-a1.toInt) := by omega
            rw [e, Int.neg_tdiv, tdivp (by omega)]
            simp
          have hz : (a1 / 100).toInt = 0 := by omega
          have he : a1 / 100 = 0 := t_eq.mpr (by rw [hz]; rfl)
          rw [he] at f
          have e0 : a1 - 0 * 100 = a1 := by rw [Int32.zero_mul, Int32.sub_zero]
          rw [e0] at f
          have := t_le.mp f
          omega
      · rw [if_neg d]; rfl
    · rw [if_neg (fun q => c q.1)]; rfl
