def shd (a j s : Nat) (r : Nat → Int32) : Nat → Int32 := fun i => if a ≤ i ∧ i < j then r (i + s) else r i
theorem X_dropL (N : Nat) {σ : fb_S} {a t : Nat} (ht : t ≤ 19) : ∀ (n j : Nat) (τ : fb_S), a ≤ j → j ≤ t → t - j < n → τ.1 22 6 = nI t → (∀ k i, k ≠ 23 → k ≠ 24 → k ≠ 25 → τ.1 k i = σ.1 k i) → (∀ i, τ.1 23 i = shd a j 1 (σ.1 23) i) → (∀ i, τ.1 24 i = shd a j 1 (σ.1 24) i) → (∀ i, τ.1 25 i = shd a j 1 (σ.1 25) i) → ∃ τ', f_X3_drop_L12 N n (nI j) τ = ((f_X3_findFitting N τ').bind fun q1 => some (q1.1 22 6, q1)) ∧ (∀ k i, k ≠ 23 → k ≠ 24 → k ≠ 25 → τ'.1 k i = σ.1 k i) ∧ (∀ i, τ'.1 23 i = shd a t 1 (σ.1 23) i) ∧ (∀ i, τ'.1 24 i = shd a t 1 (σ.1 24) i) ∧ (∀ i, τ'.1 25 i = shd a t 1 (σ.1 25) i) := by
  intro n
  induction n with
  | zero => intro j τ h1 h2 h3; omega
  | succ n ih =>
    intro j τ ha hj hn et hk h23 h24 h25
    unfold f_X3_drop_L12
    rw [et]
    by_cases c : j = t
    · subst c
      rw [if_pos (nI_le (Nat.le_refl _) (by omega))]
      exact ⟨τ, rfl, hk, h23, h24, h25⟩
    · have i0 : fb_in (nI j) 20 = true := in_n (by omega) (by decide)
      have i1 : fb_in (nI (j + 1)) 20 = true := in_n (by omega) (by decide)
      have key : ∀ r : Nat → Int32, (shd a j 1 r) (j + 1) = r (j + 1) := fun r => by unfold shd; rw [if_neg (by omega)]
      have nx : ∀ (r : Nat → Int32) (i : Nat), (if i = j then shd a j 1 r (j + 1) else shd a j 1 r i) = shd a (j + 1) 1 r i := fun r i => by
        rw [key]
        unfold shd
        by_cases e : i = j
        · rw [if_pos e, if_pos (by omega), e]
        · rw [if_neg e]
          by_cases f : a ≤ i ∧ i < j
          · rw [if_pos f, if_pos (by omega)]
          · rw [if_neg f, if_neg (by omega)]
      rw [if_neg (nI_ge (by omega) (by omega)), nI_1, ck_t i1, ck_t i0, nm_e_, ck_t i1, ck_t i0, nm_e_, ck_t i1, ck_t i0, nm_e_, cl_n (by omega), cl_n (by omega)]
      refine ih (j + 1) _ (by omega) (by omega) (by omega) ?_ (fun k i q1 q2 q3 => ?_) (fun i => ?_) (fun i => ?_) (fun i => ?_)
      · rw [up_ne _ _ (by omega), up_ne _ _ (by omega), up_ne _ _ (by omega), et]
      · rw [up_ne _ _ (by omega), up_ne _ _ (by omega), up_ne _ _ (by omega), hk k i q1 q2 q3]
      · rw [up_ne _ _ (by omega), up_ne _ _ (by omega), up_at, h23, h23, ← nx]
        by_cases e : i = j
        · rw [if_pos ⟨rfl, e⟩, if_pos e]
        · rw [if_neg (fun q => e q.2), if_neg e]
      · rw [up_ne _ _ (by omega), up_at, up_ne _ _ (by omega), up_ne _ _ (by omega), h24, h24, ← nx]
        by_cases e : i = j
        · rw [if_pos ⟨rfl, e⟩, if_pos e]
        · rw [if_neg (fun q => e q.2), if_neg e]
      · rw [up_at, up_ne _ _ (by omega), up_ne _ _ (by omega), up_ne _ _ (by omega), up_ne _ _ (by omega), h25, h25, ← nx]
        by_cases e : i = j
        · rw [if_pos ⟨rfl, e⟩, if_pos e]
        · rw [if_neg (fun q => e q.2), if_neg e]
theorem M_forgL (N : Nat) {σ : fb_S} {a t : Nat} (ht : t ≤ 19) : ∀ (n j : Nat) (τ : fb_S), 5 * a ≤ j → j ≤ 5 * t → 5 * t - j < n → τ.1 29 30 = nI t → (∀ k i, k ≠ 47 → τ.1 k i = σ.1 k i) → (∀ i, τ.1 47 i = shd (5 * a) j 5 (σ.1 47) i) → ∃ τ', f_X6_forget_L37 N n (nI j) τ = some (nI t, τ') ∧ (∀ k i, k ≠ 47 → τ'.1 k i = σ.1 k i) ∧ (∀ i, τ'.1 47 i = shd (5 * a) (5 * t) 5 (σ.1 47) i) := by
  intro n
  induction n with
  | zero => intro j τ h1 h2 h3; omega
  | succ n ih =>
    intro j τ ha hj hn et hk h47
    unfold f_X6_forget_L37
    have e5 : (5 : Int32) * nI t = nI (5 * t) := nI_mul 5 t
    rw [et, e5]
    by_cases c : j = 5 * t
    · subst c
      rw [if_pos (nI_le (Nat.le_refl _) (by omega))]
      exact ⟨τ, rfl, hk, h47⟩
    · have i0 : fb_in (nI j) 100 = true := in_n (by omega) (by decide)
      have i1 : fb_in (nI (j + 5)) 100 = true := in_n (by omega) (by decide)
      have a5 : nI j + 5 = nI (j + 5) := nI_add _ 5
      rw [if_neg (nI_ge (by omega) (by omega)), a5, ck_t i1, ck_t i0, nm_e_, nI_1, cl_n (by omega), cl_n (by omega)]
      refine ih (j + 1) _ (by omega) (by omega) (by omega) ?_ (fun k i q1 => ?_) (fun i => ?_)
      · rw [up_ne _ _ (by omega), et]
      · rw [up_ne _ _ (by omega), hk k i q1]
      · rw [up_at, h47, h47]
        unfold shd
        by_cases e : i = j
        · rw [if_pos ⟨rfl, e⟩, if_neg (by omega), if_pos (by omega), e]
        · rw [if_neg (fun q => e q.2)]
          by_cases f : 5 * a ≤ i ∧ i < j
          · rw [if_pos f, if_pos (by omega)]
          · rw [if_neg f, if_neg (by omega)]
theorem st_forget (N : Nat) (hN : 40000 ≤ N) (σ : fb_S) (hR : Rl σ) (a1 : Int32) : ∃ r σ1 σ2, f_X5_forget N a1 σ = some (r, σ1) ∧ f_X6_forget N a1 σ1 = some (r, σ2) ∧ Rl σ2 := by
  have hk0 : Keep σ (fb_up σ 29 0 0) := Keep.up rfl Keep.rfl'
  have h7 := hR.2.2.2.2.2.2.1
  obtain ⟨t, ht, et, et2⟩ := R7_t h7
  unfold f_X5_forget
  rw [X_within, et]
  by_cases c : 0 ≤ a1 ∧ a1 ≤ nI t - 1
  · have m1 := t_le.mp c.1
    have m2 := t_le.mp c.2
    have z0 : (0 : Int32).toInt = 0 := rfl
    have et1 : nI t - 1 = iI ((t : Int) - 1) := by rw [iI_n, show (1 : Int32) = iI 1 from rfl, iI_sub]
    have hm2 := m2
    rw [et1, iI_t (by omega) (by omega)] at hm2
    obtain ⟨t', rfl⟩ : ∃ t', t = t' + 1 := ⟨t - 1, by omega⟩
    obtain ⟨a, ha, rfl⟩ := rgn t' (by omega) (x := a1) ⟨by omega, by omega⟩
    rw [if_pos c, Option.bind_some, if_neg z_1]
    unfold f_X3_drop
    rw [nm_e_, et, nI_pred]
    obtain ⟨τ1, q1, q2, q3, q4, q5⟩ := X_dropL N (σ := fb_up σ 22 6 (nI t')) (a := a) (t := t') (by omega) N a (fb_up σ 22 6 (nI t')) (Nat.le_refl _) ha (by omega) (by rw [up_eq]) (fun _ _ _ _ _ => rfl) (fun i => by unfold shd; rw [if_neg (by omega)]) (fun i => by unfold shd; rw [if_neg (by omega)]) (fun i => by unfold shd; rw [if_neg (by omega)])
    have e6 : τ1.1 22 6 = nI t' := by rw [q2 22 6 (by decide) (by decide) (by decide), up_eq]
    have item : ∀ j, j < t' + 1 → _ := fun j (hj : j < t' + 1) => h7.2.2 j (by rw [et, t_n (by omega)]; omega)
    have s23 : ∀ i, τ1.1 23 i = if a ≤ i ∧ i < t' then σ.1 23 (i + 1) else σ.1 23 i := fun i => by rw [q3]; unfold shd; rw [up_ne _ _ (by omega), up_ne _ _ (by omega)]
    have s24 : ∀ i, τ1.1 24 i = if a ≤ i ∧ i < t' then σ.1 24 (i + 1) else σ.1 24 i := fun i => by rw [q4]; unfold shd; rw [up_ne _ _ (by omega), up_ne _ _ (by omega)]
    have s25 : ∀ i, τ1.1 25 i = if a ≤ i ∧ i < t' then σ.1 25 (i + 1) else σ.1 25 i := fun i => by rw [q5]; unfold shd; rw [up_ne _ _ (by omega), up_ne _ _ (by omega)]
    have r23 : ∀ j, j < t' → rg (τ1.1 23 j) 0 99 := fun j hj => by
      rw [s23]
      split
      · exact (item (j + 1) (by omega)).2.1
      · exact (item j (by omega)).2.1
    obtain ⟨τ2, f1, f2, f8⟩ := X_find N hN (σ := τ1) (t := t') (by omega) e6 r23
    rw [q1, f1, Option.bind_some, Option.bind_some, f2 22 6 (by decide) (by omega), e6]
    have w30 : τ2.1 29 30 = nI (t' + 1) := by rw [f2 29 30 (by decide) (by omega), q2 29 30 (by decide) (by decide) (by decide), up_ne _ _ (by omega), et2]
    have w30' : (fb_up τ2 29 0 0).1 29 30 = nI (t' + 1) := by rw [up_ne _ _ (by omega), w30]
    obtain ⟨τ3, g1, g2, g3⟩ := M_forgL N (σ := fb_up (fb_up τ2 29 0 0) 29 30 (nI t')) (a := a) (t := t') (by omega) N (5 * a) (fb_up (fb_up τ2 29 0 0) 29 30 (nI t')) (Nat.le_refl _) (by omega) (by omega) (by rw [up_eq]) (fun _ _ _ => rfl) (fun i => by unfold shd; rw [if_neg (by omega)])
    refine ⟨nI t', τ2, τ3, rfl, ?_, ?_⟩
    · unfold f_X6_forget
      have e5 : (5 : Int32) * nI a = nI (5 * a) := nI_mul 5 a
      rw [nm_e_, w30', M_in2 (nI a) 0 (nI (t' + 1) - 1) (by decide) rfl, if_pos c, Option.bind_some, if_neg z_1, nm_e_, nm_e_, nI_pred, e5]
      exact g1
    · have y0 : ∀ k j, ¬ (k = 29 ∧ (j = 0 ∨ j = 30)) → k ≠ 47 → τ3.1 k j = τ2.1 k j := fun k j p0 p1 => by rw [g2 k j p1, up_ne _ _ (by omega), up_ne _ _ (by omega)]
      have y47 : ∀ i, τ3.1 47 i = if 5 * a ≤ i ∧ i < 5 * t' then σ.1 47 (i + 5) else σ.1 47 i := fun i => by
        rw [g3]
        unfold shd
        have p : ∀ i, (fb_up (fb_up τ2 29 0 0) 29 30 (nI t')).1 47 i = σ.1 47 i := fun i => by rw [up_ne _ _ (by omega), up_ne _ _ (by omega), f2 47 i (by decide) (by omega), q2 47 i (by decide) (by decide) (by decide), up_ne _ _ (by omega)]
        rw [p, p]
      have s6 : τ3.1 22 6 = nI t' := by rw [y0 22 6 (by omega) (by decide), f2 22 6 (by decide) (by omega), e6]
      refine Rl_tests hR (fun k j p1 p2 p3 p4 p5 p6 p7 => ?_) ?_ ?_
      · rw [y0 k j p7 p6, f2 k j p5 (by omega), q2 k j p2 p3 p4, up_ne _ _ (by omega)]
      · refine ⟨?_, by rw [g2 29 30 (by decide), up_eq, s6], fun j hj => ?_⟩
        · rw [s6]; exact ⟨by rw [t_n (by omega)]; omega, by rw [t_n (by omega)]; omega⟩
        · rw [s6, t_n (by omega)] at hj
          rw [y0 23 j (by omega) (by decide), f2 23 j (by decide) (by omega), y0 24 j (by omega) (by decide), f2 24 j (by decide) (by omega), y0 25 j (by omega) (by decide), f2 25 j (by decide) (by omega), s23, s24, s25, y47, y47, y47, y47, y47]
          by_cases e : a ≤ j
          · rw [if_pos (by omega), if_pos (by omega), if_pos (by omega), if_pos (by omega), if_pos (by omega), if_pos (by omega), if_pos (by omega), if_pos (by omega)]
            exact item (j + 1) (by omega)
          · rw [if_neg (by omega), if_neg (by omega), if_neg (by omega), if_neg (by omega), if_neg (by omega), if_neg (by omega), if_neg (by omega), if_neg (by omega)]
            exact item j (by omega)
      · refine R8_c (fun k j hd => y0 k j ?_ ?_) f8
        · simp only [d8, Bool.or_eq_true, Bool.and_eq_true, beq_iff_eq] at hd; omega
        · simp only [d8, Bool.or_eq_true, Bool.and_eq_true, beq_iff_eq] at hd; omega
  · refine ⟨-1, σ, fb_up σ 29 0 0, ?_, ?_, Rl_keep hk0 hR⟩
    · rw [if_neg c]; rfl
    · unfold f_X6_forget
      have w : (fb_up σ 29 0 0).1 29 30 = nI t := by rw [up_ne _ _ (by omega), et2]
      rw [nm_e_, w, M_in2 a1 0 (nI t - 1) (by decide) rfl, if_neg c]; rfl
