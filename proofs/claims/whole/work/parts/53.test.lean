/-! test and forget -/
theorem Rl_tests {σ τ : fb_S} (hR : Rl σ) (hF : ∀ k j, k ≠ 22 → k ≠ 23 → k ≠ 24 → k ≠ 25 → k ≠ 26 → k ≠ 47 → ¬ (k = 29 ∧ (j = 0 ∨ j = 30)) → τ.1 k j = σ.1 k j) (h7 : R7 τ) (h8 : R8 τ) : Rl τ := by
  obtain ⟨a1, a2, a3, a4, a5, a6, -, -⟩ := hR
  have g : ∀ k j, (k ≠ 22 ∧ k ≠ 23 ∧ k ≠ 24 ∧ k ≠ 25 ∧ k ≠ 26 ∧ k ≠ 47 ∧ ¬ (k = 29 ∧ (j = 0 ∨ j = 30))) → τ.1 k j = σ.1 k j := fun k j h => hF k j h.1 h.2.1 h.2.2.1 h.2.2.2.1 h.2.2.2.2.1 h.2.2.2.2.2.1 h.2.2.2.2.2.2
  refine ⟨R1_c (fun k j hd => g k j ?_) a1, R2_c (fun k j hd => g k j ?_) a2, R3_c (fun k j hd => g k j ?_) a3, R4_c (fun k j hd => g k j ?_) a4, R5_c (fun k j hd => g k j ?_) a5, R6_c (fun k j hd => g k j ?_) a6, h7, h8⟩
  · simp only [d1, Bool.or_eq_true, Bool.and_eq_true, beq_iff_eq] at hd; omega
  · simp only [d2, Bool.or_eq_true, Bool.and_eq_true, beq_iff_eq] at hd; omega
  · simp only [d3, Bool.or_eq_true, Bool.and_eq_true, beq_iff_eq] at hd; omega
  · simp only [d4, Bool.or_eq_true, Bool.and_eq_true, beq_iff_eq] at hd; omega
  · simp only [d5, Bool.or_eq_true, Bool.and_eq_true, beq_iff_eq] at hd; omega
  · simp only [d6, Bool.or_eq_true, Bool.and_eq_true, beq_iff_eq] at hd; omega
theorem X_put (N : Nat) (hN : 40000 ≤ N) (v1 : Int32) {v k fr to : Nat} (hv : v ≤ 9999) (hk : k ≤ 100) (hfr : fr ≤ 9999) (hto : to ≤ 9999) (σ : fb_S) : ∀ (n : Nat) (net least most : Int), -51 ≤ net → net ≤ 47 → net + 51 < n → net + 1 ≤ least → least ≤ 48 → (most = -51 ∨ net + 1 ≤ most) → most ≤ 47 → (∀ x, net < x → x ≤ 47 → (fr ≤ swn x k v ↔ least ≤ x)) → (∀ x, net < x → x ≤ 47 → (swn x k v ≤ to ↔ x ≤ most)) → ∃ L M : Int, -50 ≤ L ∧ L ≤ 48 ∧ -51 ≤ M ∧ M ≤ 47 ∧ (∀ x, -50 ≤ x → x ≤ 47 → ((fr ≤ swn x k v ∧ swn x k v ≤ to) ↔ (L ≤ x ∧ x ≤ M))) ∧ f_X3_putNew_L12 N n v1 (nI v) (nI k) (nI fr) (nI to) (iI least) (iI most) (iI net) σ = f_X3_putNew_L12 N 1 v1 (nI v) (nI k) (nI fr) (nI to) (iI L) (iI M) (-51) σ := by
  intro n
  induction n with
  | zero => intro net least most h1 h2 h3; omega
  | succ n ih =>
    intro net least most h1 h2 h3 h4 h5 h6 h7 h8 h9
    by_cases c : net = -51
    · subst c
      refine ⟨least, most, by omega, h5, by omega, h7, fun x x1 x2 => ?_, ?_⟩
      · rw [h8 x (by omega) x2, h9 x (by omega) x2]
      · have e : iI (-51) = (-51 : Int32) := by decide
        rw [e]
        unfold f_X3_putNew_L12
        rw [if_pos (by decide), if_pos (by decide)]
    · have hlt : ¬ iI net < (-50 : Int32) := by
        have e : (-50 : Int32) = iI (-50) := by decide
        rw [e, iI_lt (by omega) (by omega) (by omega) (by omega)]
        omega
      have hle := swn_le (n := net) k hv
      have mono : ∀ x, net ≤ x → swn net k v ≤ swn x k v := fun x hx => swn_mono hx (by omega) k (Nat.le_refl v)
      have em : iI net + (-1) = iI (net - 1) := by
        have e : (-1 : Int32) = iI (-1) := by decide
        rw [e, iI_add]; congr 1
      rw [f_X3_putNew_L12, if_neg hlt, X_sway N hN (by omega) (by omega) hk hv, Option.bind_some]
      have tail : ∀ le' : Int, net ≤ le' → le' ≤ 48 → (∀ x, net - 1 < x → x ≤ 47 → (fr ≤ swn x k v ↔ le' ≤ x)) → ∃ L M : Int, -50 ≤ L ∧ L ≤ 48 ∧ -51 ≤ M ∧ M ≤ 47 ∧ (∀ x, -50 ≤ x → x ≤ 47 → ((fr ≤ swn x k v ∧ swn x k v ≤ to) ↔ (L ≤ x ∧ x ≤ M))) ∧ f_X3_putNew_L39 N (f_X3_putNew_L12 N n) v1 (nI v) (nI k) (nI fr) (nI to) (iI le') (iI most) (iI net) (nI (swn net k v)) σ = f_X3_putNew_L12 N 1 v1 (nI v) (nI k) (nI fr) (nI to) (iI L) (iI M) (-51) σ := by
        intro le' q1 q2 q3
        unfold f_X3_putNew_L39
        rw [em]
        by_cases d : to < swn net k v
        · rw [if_pos (nI_lt d (by omega))]
          refine ih (net - 1) le' most (by omega) (by omega) (by omega) (by omega) q2 ?_ h7 q3 (fun x x1 x2 => ?_)
          · by_cases e : net = 47
            · rcases h6 with h | h
              · exact Or.inl h
              · omega
            · rcases h6 with h | h
              · exact Or.inl h
              · have := (h9 (net + 1) (by omega) (by omega)).mpr (by omega)
                have := mono (net + 1) (by omega)
                omega
          · constructor
            · intro h
              have := mono x (by omega)
              omega
            · intro h
              by_cases e : x = net
              · subst e
                rcases h6 with h6 | h6
                · omega
                · have := (h9 (x + 1) (by omega) (by omega)).mpr (by omega)
                  have := mono (x + 1) (by omega)
                  omega
              · exact (h9 x (by omega) x2).mpr h
        · rw [if_neg (nI_nlt (by omega) (by omega)), nm_e_, mx_i (by omega) (by omega) (by omega) (by omega)]
          refine ih (net - 1) le' (max most net) (by omega) (by omega) (by omega) (by omega) q2 (by omega) (by omega) q3 (fun x x1 x2 => ?_)
          by_cases e : x = net
          · subst e
            constructor
            · intro _; omega
            · intro _; omega
          · rw [h9 x (by omega) x2]
            omega
      by_cases d : swn net k v < fr
      · rw [if_pos (nI_lt d (by omega))]
        refine tail least (by omega) h5 (fun x x1 x2 => ?_)
        by_cases e : x = net
        · subst e
          constructor
          · intro h; omega
          · intro h; omega
        · exact h8 x (by omega) x2
      · rw [if_neg (nI_nlt (by omega) (by omega))]
        refine tail net (by omega) (by omega) (fun x x1 x2 => ?_)
        constructor
        · intro _; omega
        · intro h
          have := mono x h
          omega
theorem st_test (N : Nat) (hN : 40000 ≤ N) (σ : fb_S) (hR : Rl σ) (a1 : Int32) (a2 : Int32) (a3 : Int32) (a4 : Int32) (a5 : Int32) : ∃ r σ1 σ2, f_X5_test N a1 a2 a3 a4 a5 σ = some (r, σ1) ∧ f_X6_test a1 a2 a3 a4 a5 σ1 = some (r, σ2) ∧ Rl σ2 := by
  have hk0 : Keep σ (fb_up σ 29 0 0) := Keep.up rfl Keep.rfl'
  have z0 : (0 : Int32).toInt = 0 := rfl
  have z9 : (9999 : Int32).toInt = 9999 := t_lit 9999 (by decide)
  unfold f_X5_test
  rw [X_within, X_isSway, X_isBeats, X_isSway, X_isSway]
  by_cases c1 : 0 ≤ a1 ∧ a1 ≤ 99
  · rw [if_pos c1, Option.bind_some, if_neg z_1]
    by_cases c2 : 0 ≤ a2 ∧ a2 ≤ 9999
    · rw [if_pos c2, Option.bind_some, if_neg z_1]
      by_cases c3 : 1 ≤ a3 ∧ a3 ≤ 30
      · rw [if_pos c3, Option.bind_some, if_neg z_1]
        have pre : ∀ τ : fb_S, f_X6_test a1 a2 a3 a4 a5 τ = ((some (if 0 ≤ a4 ∧ a4 ≤ a5 then (1 : Int32) else 0)).bind fun q5 => if q5 = 0 then (some ((-2 : Int32), fb_up τ 29 0 0)) else (if a5 ≤ (9999 : Int32) then (if ((fb_up τ 29 0 0).1 29 30) = (20 : Int32) then (some ((-4 : Int32), fb_up τ 29 0 0)) else (
              nm_ ((5 : Int32) * ((fb_up τ 29 0 0).1 29 30)) fun x6 =>
              ck_ (fb_in x6 100) <|
              nm_ (fb_up (fb_up τ 29 0 0) 47 (x6.toNatClampNeg) a1) fun t7 =>
              ck_ (fb_in (x6 + (1 : Int32)) 100) <|
              nm_ (fb_up t7 47 ((x6 + (1 : Int32)).toNatClampNeg) a2) fun t8 =>
              ck_ (fb_in (x6 + (2 : Int32)) 100) <|
              nm_ (fb_up t8 47 ((x6 + (2 : Int32)).toNatClampNeg) a3) fun t9 =>
              ck_ (fb_in (x6 + (3 : Int32)) 100) <|
              nm_ (fb_up t9 47 ((x6 + (3 : Int32)).toNatClampNeg) a4) fun t10 =>
              ck_ (fb_in (x6 + (4 : Int32)) 100) <|
              nm_ (fb_up t10 47 ((x6 + (4 : Int32)).toNatClampNeg) a5) fun t11 =>
              nm_ (fb_up t11 29 30 ((t11.1 29 30) + (1 : Int32))) fun t12 =>
              some ((t12.1 29 30) - (1 : Int32), t12))) else (some ((-2 : Int32), fb_up τ 29 0 0)))) := by
          intro τ
          unfold f_X6_test
          rw [nm_e_, M_in2 a1 0 99 (by decide) (by decide), if_pos c1, Option.bind_some, if_neg z_1, M_noSway, if_pos c2, Option.bind_some, if_pos rfl, M_in2 a3 1 30 (by decide) (by decide), if_pos c3, Option.bind_some, if_neg z_1, M_in2 a4 0 a5 (by decide) rfl]
        by_cases cm : (0 ≤ a4 ∧ a4 ≤ a5) ∧ a5 ≤ 9999
        · have m1 := t_le.mp cm.1.1
          have m2 := t_le.mp cm.1.2
          have m3 := t_le.mp cm.2
          have c4 : 0 ≤ a4 ∧ a4 ≤ 9999 := ⟨cm.1.1, t_le.mpr (by omega)⟩
          have c5 : 0 ≤ a5 ∧ a5 ≤ 9999 := ⟨t_le.mpr (by omega), cm.2⟩
          rw [if_pos c4, Option.bind_some, if_neg z_1, if_pos c5, Option.bind_some, if_neg z_1, if_pos cm.1.2]
          obtain ⟨t, ht, et, et2⟩ := R7_t hR.2.2.2.2.2.2.1
          rw [et]
          by_cases ct : t = 20
          · subst ct
            refine ⟨-4, σ, fb_up σ 29 0 0, ?_, ?_, Rl_keep hk0 hR⟩
            · rw [if_pos (by decide)]
            · rw [pre, if_pos cm.1, Option.bind_some, if_neg z_1, if_pos cm.2, up_ne _ _ (by omega), et2, if_pos (by decide)]
          · rw [if_neg (lc_nle 20 (by omega) (by omega))]
            obtain ⟨v, hv, rfl⟩ := sway_n c2
            obtain ⟨fr, hfr, rfl⟩ := sway_n c4
            obtain ⟨to, hto, rfl⟩ := sway_n c5
            obtain ⟨k, hk, rfl⟩ : ∃ k : Nat, k ≤ 30 ∧ a3 = nI k := ex_n (c := 30) (by decide) (t_le.mpr (by have := t_le.mp c3.1; have e : (1 : Int32).toInt = 1 := rfl; omega)) c3.2
            obtain ⟨L, M, l1, l2, m1', m2', hLM, ep⟩ := X_put N hN a1 (v := v) (k := k) (fr := fr) (to := to) hv (by omega) hfr hto σ N 47 48 (-51) (by omega) (by omega) (by omega) (by omega) (by omega) (by omega) (by omega) (fun x x1 x2 => by omega) (fun x x1 x2 => by omega)
            have ep' : f_X3_putNew N a1 (nI v) (nI k) (nI fr) (nI to) σ = f_X3_putNew_L12 N 1 a1 (nI v) (nI k) (nI fr) (nI to) (iI L) (iI M) (-51) σ := ep
            have hin : fb_in (nI t) 20 = true := in_n (by omega) (by decide)
            rw [ep', f_X3_putNew_L12, if_pos (by decide), et, ck_t hin, nm_e_, cl_n (by omega), up_ne _ _ (by omega : ¬ (22 = 23 ∧ 6 = t)), et, ck_t hin, nm_e_, cl_n (by omega), up_ne _ _ (by omega : ¬ (22 = 24 ∧ 6 = t)), up_ne _ _ (by omega : ¬ (22 = 23 ∧ 6 = t)), et, ck_t hin, nm_e_, cl_n (by omega), up_ne _ _ (by omega : ¬ (22 = 25 ∧ 6 = t)), up_ne _ _ (by omega : ¬ (22 = 24 ∧ 6 = t)), up_ne _ _ (by omega : ¬ (22 = 23 ∧ 6 = t)), et, nm_e_, nI_1]
            generalize hu : fb_up (fb_up (fb_up (fb_up σ 23 t a1) 24 t (iI L)) 25 t (iI M)) 22 6 (nI (t + 1)) = τ1
            have u0 : ∀ k j, ¬ (k = 22 ∧ j = 6) → k ≠ 23 → k ≠ 24 → k ≠ 25 → τ1.1 k j = σ.1 k j := fun k j q0 q1 q2 q3 => by rw [← hu, up_ne _ _ q0, up_ne _ _ (by omega), up_ne _ _ (by omega), up_ne _ _ (by omega)]
            have u6 : τ1.1 22 6 = nI (t + 1) := by rw [← hu, up_eq]
            have u23 : ∀ j, τ1.1 23 j = if j = t then a1 else σ.1 23 j := fun j => by
              rw [← hu, up_ne _ _ (by omega), up_ne _ _ (by omega), up_ne _ _ (by omega), up_at]
              by_cases e : j = t
              · rw [if_pos ⟨rfl, e⟩, if_pos e]
              · rw [if_neg (fun q => e q.2), if_neg e]
            have u24 : ∀ j, τ1.1 24 j = if j = t then iI L else σ.1 24 j := fun j => by
              rw [← hu, up_ne _ _ (by omega), up_ne _ _ (by omega), up_at]
              by_cases e : j = t
              · rw [if_pos ⟨rfl, e⟩, if_pos e]
              · rw [if_neg (fun q => e q.2), if_neg e, up_ne _ _ (by omega)]
            have u25 : ∀ j, τ1.1 25 j = if j = t then iI M else σ.1 25 j := fun j => by
              rw [← hu, up_ne _ _ (by omega), up_at]
              by_cases e : j = t
              · rw [if_pos ⟨rfl, e⟩, if_pos e]
              · rw [if_neg (fun q => e q.2), if_neg e, up_ne _ _ (by omega), up_ne _ _ (by omega)]
            have h7 := hR.2.2.2.2.2.2.1
            have ra1 : rg a1 0 99 := ⟨by have := t_le.mp c1.1; omega, by have := t_le.mp c1.2; have e : (99 : Int32).toInt = 99 := rfl; omega⟩
            have r23 : ∀ j, j < t + 1 → rg (τ1.1 23 j) 0 99 := fun j hj => by
              rw [u23]
              by_cases e : j = t
              · rw [if_pos e]; exact ra1
              · rw [if_neg e]; exact (h7.2.2 j (by rw [et, t_n (by omega)]; omega)).2.1
            obtain ⟨τ2, f1, f2, f8⟩ := X_find N hN (σ := τ1) (t := t + 1) (by omega) u6 r23
            rw [f1, Option.bind_some, Option.bind_some, f2 22 6 (by decide) (by omega), u6, nI_pred]
            have w30 : τ2.1 29 30 = nI t := by rw [f2 29 30 (by decide) (by omega), u0 29 30 (by omega) (by decide) (by decide) (by decide), et2]
            refine ⟨nI t, τ2, fb_up (fb_up (fb_up (fb_up (fb_up (fb_up (fb_up τ2 29 0 0) 47 (5 * t) a1) 47 (5 * t + 1) (nI v)) 47 (5 * t + 2) (nI k)) 47 (5 * t + 3) (nI fr)) 47 (5 * t + 4) (nI to)) 29 30 (nI (t + 1)), rfl, ?_, ?_⟩
            · have e5 : (5 : Int32) * nI t = nI (5 * t) := nI_mul 5 t
              have b1 : nI (5 * t) + 1 = nI (5 * t + 1) := nI_add _ 1
              have b2 : nI (5 * t) + 2 = nI (5 * t + 2) := nI_add _ 2
              have b3 : nI (5 * t) + 3 = nI (5 * t + 3) := nI_add _ 3
              have b4 : nI (5 * t) + 4 = nI (5 * t + 4) := nI_add _ 4
              have i0 : fb_in (nI (5 * t)) 100 = true := in_n (by omega) (by decide)
              have i1 : fb_in (nI (5 * t + 1)) 100 = true := in_n (by omega) (by decide)
              have i2 : fb_in (nI (5 * t + 2)) 100 = true := in_n (by omega) (by decide)
              have i3 : fb_in (nI (5 * t + 3)) 100 = true := in_n (by omega) (by decide)
              have i4 : fb_in (nI (5 * t + 4)) 100 = true := in_n (by omega) (by decide)
              have ne20 : ¬ nI t = (20 : Int32) := fun q => ct ((nI_eq (b := 20) (by omega) (by decide)).mp q)
              have w30' : (fb_up τ2 29 0 0).1 29 30 = nI t := by rw [up_ne _ _ (by omega), w30]
              rw [pre, if_pos cm.1, Option.bind_some, if_neg z_1, if_pos cm.2, w30', if_neg ne20, nm_e_, e5, b1, b2, b3, b4, ck_t i0, nm_e_, ck_t i1, nm_e_, ck_t i2, nm_e_, ck_t i3, nm_e_, ck_t i4, nm_e_, nm_e_, cl_n (by omega), cl_n (by omega), cl_n (by omega), cl_n (by omega), cl_n (by omega), up_eq, up_ne _ _ (by omega : ¬ (29 = 47 ∧ 30 = 5 * t + 4)), up_ne _ _ (by omega : ¬ (29 = 47 ∧ 30 = 5 * t + 3)), up_ne _ _ (by omega : ¬ (29 = 47 ∧ 30 = 5 * t + 2)), up_ne _ _ (by omega : ¬ (29 = 47 ∧ 30 = 5 * t + 1)), up_ne _ _ (by omega : ¬ (29 = 47 ∧ 30 = 5 * t)), w30', nI_1, nI_pred]
            · generalize hy : fb_up (fb_up (fb_up (fb_up (fb_up (fb_up (fb_up τ2 29 0 0) 47 (5 * t) a1) 47 (5 * t + 1) (nI v)) 47 (5 * t + 2) (nI k)) 47 (5 * t + 3) (nI fr)) 47 (5 * t + 4) (nI to)) 29 30 (nI (t + 1)) = τ3
              have y0 : ∀ k j, ¬ (k = 29 ∧ (j = 0 ∨ j = 30)) → k ≠ 47 → τ3.1 k j = τ2.1 k j := fun k j q0 q1 => by rw [← hy, up_ne _ _ (by omega), up_ne _ _ (by omega), up_ne _ _ (by omega), up_ne _ _ (by omega), up_ne _ _ (by omega), up_ne _ _ (by omega), up_ne _ _ (by omega)]
              have y30 : τ3.1 29 30 = nI (t + 1) := by rw [← hy, up_eq]
              have y47 : ∀ j, j < 5 * t → τ3.1 47 j = σ.1 47 j := fun j hj => by rw [← hy, up_ne _ _ (by omega), up_ne _ _ (by omega), up_ne _ _ (by omega), up_ne _ _ (by omega), up_ne _ _ (by omega), up_ne _ _ (by omega), up_ne _ _ (by omega), f2 47 j (by decide) (by omega), u0 47 j (by omega) (by decide) (by decide) (by decide)]
              have n0 : τ3.1 47 (5 * t) = a1 := by rw [← hy, up_ne _ _ (by omega), up_ne _ _ (by omega), up_ne _ _ (by omega), up_ne _ _ (by omega), up_ne _ _ (by omega), up_eq]
              have n1 : τ3.1 47 (5 * t + 1) = nI v := by rw [← hy, up_ne _ _ (by omega), up_ne _ _ (by omega), up_ne _ _ (by omega), up_ne _ _ (by omega), up_eq]
              have n2 : τ3.1 47 (5 * t + 2) = nI k := by rw [← hy, up_ne _ _ (by omega), up_ne _ _ (by omega), up_ne _ _ (by omega), up_eq]
              have n3 : τ3.1 47 (5 * t + 3) = nI fr := by rw [← hy, up_ne _ _ (by omega), up_ne _ _ (by omega), up_eq]
              have n4 : τ3.1 47 (5 * t + 4) = nI to := by rw [← hy, up_ne _ _ (by omega), up_eq]
              have s6 : τ3.1 22 6 = nI (t + 1) := by rw [y0 22 6 (by omega) (by decide), f2 22 6 (by decide) (by omega), u6]
              have s23 : ∀ j, τ3.1 23 j = τ1.1 23 j := fun j => by rw [y0 23 j (by omega) (by decide), f2 23 j (by decide) (by omega)]
              have s24 : ∀ j, τ3.1 24 j = τ1.1 24 j := fun j => by rw [y0 24 j (by omega) (by decide), f2 24 j (by decide) (by omega)]
              have s25 : ∀ j, τ3.1 25 j = τ1.1 25 j := fun j => by rw [y0 25 j (by omega) (by decide), f2 25 j (by decide) (by omega)]
              refine Rl_tests hR (fun k j q1 q2 q3 q4 q5 q6 q7 => ?_) ?_ ?_
              · rw [y0 k j q7 q6, f2 k j q5 (by omega), u0 k j (by omega) q2 q3 q4]
              · refine ⟨?_, by rw [y30, s6], fun j hj => ?_⟩
                · rw [s6]; exact ⟨by rw [t_n (by omega)]; omega, by rw [t_n (by omega)]; omega⟩
                · rw [s6, t_n (by omega)] at hj
                  rw [s23, s24, s25, u23, u24, u25]
                  by_cases e : j = t
                  · subst e
                    rw [if_pos rfl, if_pos rfl, if_pos rfl, n0, n1, n2, n3, n4, t_n (by omega), t_n (by omega), cl_n (by omega), cl_n (by omega), iI_t (by omega) (by omega), iI_t (by omega) (by omega)]
                    refine ⟨rfl, ra1, ⟨by rw [t_n (by omega)]; omega, by rw [t_n (by omega)]; omega⟩, ⟨by have := t_le.mp c3.1; exact this, by rw [t_n (by omega)]; omega⟩, ⟨by rw [t_n (by omega)]; omega, by rw [t_n (by omega)]; omega⟩, ⟨by rw [t_n (by omega)]; omega, by rw [t_n (by omega)]; omega⟩, ⟨by rw [iI_t (by omega) (by omega)]; omega, by rw [iI_t (by omega) (by omega)]; omega⟩, ⟨by rw [iI_t (by omega) (by omega)]; omega, by rw [iI_t (by omega) (by omega)]; omega⟩, fun x x1 x2 => ?_⟩
                    rw [← hLM x x1 x2]
                    omega
                  · rw [if_neg e, if_neg e, if_neg e, y47 (5 * j) (by omega), y47 (5 * j + 1) (by omega), y47 (5 * j + 2) (by omega), y47 (5 * j + 3) (by omega), y47 (5 * j + 4) (by omega)]
                    exact h7.2.2 j (by rw [et, t_n (by omega)]; omega)
              · refine R8_c (fun k j hd => y0 k j ?_ ?_) f8
                · simp only [d8, Bool.or_eq_true, Bool.and_eq_true, beq_iff_eq] at hd; omega
                · simp only [d8, Bool.or_eq_true, Bool.and_eq_true, beq_iff_eq] at hd; omega
        · refine ⟨-2, σ, fb_up σ 29 0 0, ?_, ?_, Rl_keep hk0 hR⟩
          · by_cases c4 : 0 ≤ a4 ∧ a4 ≤ 9999
            · rw [if_pos c4, Option.bind_some, if_neg z_1]
              by_cases c5 : 0 ≤ a5 ∧ a5 ≤ 9999
              · rw [if_pos c5, Option.bind_some, if_neg z_1, if_neg (fun q => cm ⟨⟨c4.1, q⟩, c5.2⟩)]
              · rw [if_neg c5]; rfl
            · rw [if_neg c4]; rfl
          · rw [pre]
            by_cases cc : 0 ≤ a4 ∧ a4 ≤ a5
            · rw [if_pos cc, Option.bind_some, if_neg z_1, if_neg (fun q => cm ⟨cc, q⟩)]
            · rw [if_neg cc]; rfl
      · refine ⟨-2, σ, fb_up σ 29 0 0, ?_, ?_, Rl_keep hk0 hR⟩
        · rw [if_neg c3]; rfl
        · unfold f_X6_test
          rw [nm_e_, M_in2 a1 0 99 (by decide) (by decide), if_pos c1, Option.bind_some, if_neg z_1, M_noSway, if_pos c2, Option.bind_some, if_pos rfl, M_in2 a3 1 30 (by decide) (by decide), if_neg c3]; rfl
    · refine ⟨-2, σ, fb_up σ 29 0 0, ?_, ?_, Rl_keep hk0 hR⟩
      · rw [if_neg c2]; rfl
      · unfold f_X6_test
        rw [nm_e_, M_in2 a1 0 99 (by decide) (by decide), if_pos c1, Option.bind_some, if_neg z_1, M_noSway, if_neg c2]; rfl
  · refine ⟨-2, σ, fb_up σ 29 0 0, ?_, ?_, Rl_keep hk0 hR⟩
    · rw [if_neg c1]; rfl
    · unfold f_X6_test
      rw [nm_e_, M_in2 a1 0 99 (by decide) (by decide), if_neg c1]; rfl
