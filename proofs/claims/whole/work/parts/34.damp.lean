theorem rgn {x : Int32} (c : Nat) (hc : c < 2147483647) (h : rg x 0 (c : Int)) : ∃ i : Nat, i ≤ c ∧ x = nI i := by
  obtain ⟨j, hj, e⟩ := vp_in_of (x := x) (n := c + 1) (vp_in_iff.mpr ⟨h.1, by have := h.2; omega⟩) (by omega)
  exact ⟨j, by omega, e⟩
theorem rg_n {i c : Nat} (h : i ≤ c) (hc : c < 2147483648) : rg (nI i) 0 (c : Int) := ⟨by rw [t_n (by omega)]; omega, by rw [t_n (by omega)]; omega⟩
theorem fz0 : fb_z 0 = 0 := by decide +kernel
theorem fz1 : fb_z 1 = 1 := by decide +kernel
theorem nI_s1 (i : Nat) : nI (i + 1) - 1 = nI i := nI_pred i

theorem st_damper (N : Nat) (hN : 40000 ≤ N) (σ : fb_S) (hR : Rl σ) (a1 : Int32) (a2 : Int32) (a3 : Int32) : ∃ r σ1 σ2, f_X5_damper a1 a2 a3 σ = some (r, σ1) ∧ f_X6_damper a1 a2 a3 σ1 = some (r, σ2) ∧ Rl σ2 := by
  unfold f_X5_damper f_X6_damper
  simp only [X_within, Option.bind_some, nm_e_]
  rw [M_in2 a1 1 500 (by decide) (by decide), M_in2 a2 0 9999 (by decide) (by decide), M_in2 a3 0 99 (by decide) (by decide)]
  have kk : Rl (fb_up σ 29 0 0) := Rl_keep (Keep.up rfl Keep.rfl') hR
  by_cases c1 : 1 ≤ a1 ∧ a1 ≤ 500
  · by_cases c2 : 0 ≤ a2 ∧ a2 ≤ 9999
    · by_cases c3 : 0 ≤ a3 ∧ a3 ≤ 99
      · obtain ⟨r1, r2, r3⟩ := hR.2.2.2.1
        obtain ⟨i, hi, ei⟩ := rgn 10 (by decide) r1
        simp only [c1, c2, c3, and_self, if_true, Option.bind_some, if_neg z_1]
        by_cases c4 : i = 10
        · subst c4
          refine ⟨-4, σ, fb_up σ 29 0 0, ?_, ?_, kk⟩
          · rw [ei, if_pos (by decide)]
          · have e : (fb_up σ 29 0 0).1 29 11 = nI 10 := by simp [up_at, r2, ei]
            rw [e, if_pos (by decide)]
        · have hin : fb_in (nI i) 10 = true := in_n (by omega) (by decide)
          refine ⟨nI i, fb_up (fb_up (fb_up (fb_up (fb_up σ 11 6 0) 12 i a1) 13 i a2) 14 i a3) 11 5 (nI (i + 1)), fb_up (fb_up (fb_up (fb_up (fb_up (fb_up (fb_up (fb_up (fb_up (fb_up (fb_up σ 11 6 0) 12 i a1) 13 i a2) 14 i a3) 11 5 (nI (i + 1))) 29 0 0) 38 i a1) 39 i a2) 40 i a3) 41 i (fb_z 0)) 29 11 (nI (i + 1)), ?_, ?_, ?_⟩
          · rw [ei, if_neg (lc_nle 10 (by omega) (by omega))]
            unfold f_X1_putNew f_X1_forgetChoice
            simp only [nm_e_, Option.bind_some]
            have e1 : (fb_up σ 11 6 0).1 11 5 = nI i := by simp [up_at, ei]
            rw [e1, ck_t hin, cl_n (by omega)]
            have e2 : (fb_up (fb_up σ 11 6 0) 12 i a1).1 11 5 = nI i := by simp [up_at, ei]
            rw [e2, ck_t hin, cl_n (by omega)]
            have e3 : (fb_up (fb_up (fb_up σ 11 6 0) 12 i a1) 13 i a2).1 11 5 = nI i := by simp [up_at, ei]
            rw [e3, ck_t hin, cl_n (by omega)]
            have e4 : (fb_up (fb_up (fb_up (fb_up σ 11 6 0) 12 i a1) 13 i a2) 14 i a3).1 11 5 = nI i := by simp [up_at, ei]
            rw [e4, nI_1, up_eq, nI_s1]
            rfl
          · have e0 : (fb_up (fb_up (fb_up (fb_up (fb_up (fb_up σ 11 6 0) 12 i a1) 13 i a2) 14 i a3) 11 5 (nI (i + 1))) 29 0 0).1 29 11 = nI i := by simp [up_at, r2, ei]
            rw [e0, if_neg (by intro e; exact c4 ((nI_eq (b := 10) (by omega) (by decide)).mp e)), ck_t hin, cl_n (by omega)]
            generalize hS : (fb_up (fb_up (fb_up (fb_up (fb_up (fb_up σ 11 6 0) 12 i a1) 13 i a2) 14 i a3) 11 5 (nI (i + 1))) 29 0 0) = S at e0 ⊢
            have e1 : (fb_up S 38 i a1).1 29 11 = nI i := by rw [up_ne _ _ (by omega), e0]
            rw [e1, ck_t hin, cl_n (by omega)]
            have e2 : (fb_up (fb_up S 38 i a1) 39 i a2).1 29 11 = nI i := by rw [up_ne _ _ (by omega), e1]
            rw [e2, ck_t hin, cl_n (by omega)]
            have e3 : (fb_up (fb_up (fb_up S 38 i a1) 39 i a2) 40 i a3).1 29 11 = nI i := by rw [up_ne _ _ (by omega), e2]
            rw [e3, ck_t hin, cl_n (by omega)]
            have e4 : (fb_up (fb_up (fb_up (fb_up S 38 i a1) 39 i a2) 40 i a3) 41 i (fb_z 0)).1 29 11 = nI i := by rw [up_ne _ _ (by omega), e3]
            rw [e4, nI_1, up_eq, nI_s1]
          · refine ⟨R1_c (fun k j hd => by rw [up_ne, up_ne, up_ne, up_ne, up_ne, up_ne, up_ne, up_ne, up_ne, up_ne, up_ne] <;> (rintro ⟨rfl, rfl⟩; simp [d1] at hd)) hR.1, R2_c (fun k j hd => by rw [up_ne, up_ne, up_ne, up_ne, up_ne, up_ne, up_ne, up_ne, up_ne, up_ne, up_ne] <;> (rintro ⟨rfl, rfl⟩; simp [d2] at hd)) hR.2.1, R3_c (fun k j hd => by rw [up_ne, up_ne, up_ne, up_ne, up_ne, up_ne, up_ne, up_ne, up_ne, up_ne, up_ne] <;> (rintro ⟨rfl, rfl⟩; simp [d3] at hd)) hR.2.2.1, ⟨?_, ?_, fun j hj => ?_⟩, R5_off (by simp [up_at]), R6_c (fun k j hd => by rw [up_ne, up_ne, up_ne, up_ne, up_ne, up_ne, up_ne, up_ne, up_ne, up_ne, up_ne] <;> (rintro ⟨rfl, rfl⟩; simp [d6] at hd)) hR.2.2.2.2.2.1, R7_c (fun k j hd => by rw [up_ne, up_ne, up_ne, up_ne, up_ne, up_ne, up_ne, up_ne, up_ne, up_ne, up_ne] <;> (rintro ⟨rfl, rfl⟩; simp [d7] at hd)) hR.2.2.2.2.2.2.1, R8_c (fun k j hd => by rw [up_ne, up_ne, up_ne, up_ne, up_ne, up_ne, up_ne, up_ne, up_ne, up_ne, up_ne] <;> (rintro ⟨rfl, rfl⟩; simp [d8] at hd)) hR.2.2.2.2.2.2.2⟩
            · simp only [up_at]
              simp
              exact rg_n (c := 10) (by omega) (by decide)
            · simp [up_at]
            · have h := r3 j hj
              have hb1 := rg_of c1
              have hb2 := rg_of c2
              have hb3 := rg_of c3
              by_cases e : j = i
              · subst e
                have hz : σ.1 15 j = 0 := h.2.2.2.2 (by rw [ei, t_n (by omega)]; omega)
                simp only [up_at]
                simp [hz, fz0]
                exact ⟨⟨by have := hb1.1; have t1 : (1 : Int32).toInt = 1 := rfl; omega, hb1.2⟩, hb2, hb3, by decide, by decide⟩
              · simp only [up_at]
                simp [e]
                refine ⟨h.1, h.2.1, h.2.2.1, h.2.2.2.1, fun h5 => h.2.2.2.2 ?_⟩
                rw [t_n (by omega)] at h5
                rw [ei, t_n (by omega)]
                omega
      · refine ⟨-2, σ, fb_up σ 29 0 0, ?_, ?_, kk⟩ <;> simp [c1, c2, c3]
    · refine ⟨-2, σ, fb_up σ 29 0 0, ?_, ?_, kk⟩ <;> simp [c1, c2]
  · refine ⟨-2, σ, fb_up σ 29 0 0, ?_, ?_, kk⟩ <;> simp [c1]

theorem bool_n {x : Int32} (h : rg x 0 1) : x = 0 ∨ x = 1 := by
  obtain ⟨i, hi, e⟩ := rgn 1 (by decide) h
  have : i = 0 ∨ i = 1 := by omega
  rcases this with rfl | rfl
  · exact Or.inl e
  · exact Or.inr e
theorem st_build (N : Nat) (hN : 40000 ≤ N) (σ : fb_S) (hR : Rl σ) (a1 : Int32) (a2 : Int32) (hb2 : a2 = 0 ∨ a2 = 1) : ∃ r σ1 σ2, f_X5_build a1 a2 σ = some (r, σ1) ∧ f_X6_build a1 a2 σ1 = some (r, σ2) ∧ Rl σ2 := by
  unfold f_X5_build f_X6_build
  obtain ⟨r1, r2, r3⟩ := hR.2.2.2.1
  have kk : Rl (fb_up σ 29 0 0) := Rl_keep (Keep.up rfl Keep.rfl') hR
  rw [X_within]
  by_cases c1 : 0 ≤ a1 ∧ a1 ≤ σ.1 11 5 - 1
  · have t1 : (1 : Int32).toInt = 1 := rfl
    have t0 : (0 : Int32).toInt = 0 := rfl
    have b1 := t_le.mp c1.1
    have b2 := t_le.mp c1.2
    have hs : (σ.1 11 5 - 1).toInt = (σ.1 11 5).toInt - 1 := by rw [t_sub] <;> rw [t1] <;> have := r1.1 <;> have := r1.2 <;> omega
    obtain ⟨i, hi, rfl⟩ := vp_in_of (x := a1) (n := 10) (vp_in_iff.mpr ⟨by omega, by have := r1.2; omega⟩) (by decide)
    have hin : fb_in (nI i) 10 = true := in_n hi (by decide)
    have ha : f_X5_asNumber a2 = some a2 := by rcases hb2 with rfl | rfl <;> rfl
    have hz : fb_z a2 = a2 := by rcases hb2 with rfl | rfl <;> decide +kernel
    have h15 := r3 i hi
    refine ⟨σ.1 15 i, fb_up σ 15 i a2, fb_up (fb_up (fb_up σ 15 i a2) 29 0 0) 41 i a2, ?_, ?_, ?_⟩
    · rw [if_pos c1, Option.bind_some, if_neg z_1, ha, Option.bind_some, X_exch (show fb_in (nI i) (fb_len 15) = true from hin), Option.bind_some, cl_n (by omega)]
    · have e29 : (fb_up (fb_up σ 15 i a2) 29 0 0).1 29 11 = σ.1 11 5 := by simp [up_at, r2]
      have e41 : (fb_up (fb_up σ 15 i a2) 29 0 0).1 41 i = σ.1 15 i := by simp [up_at, h15.2.2.2.1.1]
      rw [nm_e_, e29, M_in2 (nI i) 0 (σ.1 11 5 - 1) (by decide) rfl, if_pos c1, Option.bind_some, if_neg z_1, ck_t hin, cl_n (by omega), e41]
      unfold f_X6_build_L37
      rw [ck_t hin, ck_t hin, nm_e_, nm_e_, cl_n (by omega), hz]
      rcases bool_n h15.2.2.2.1.2 with e | e
      · rw [if_pos e, e]
      · rw [if_neg (by rw [e]; exact z_1), e]
    · refine ⟨R1_c (fun k j hd => by rw [up_ne, up_ne, up_ne] <;> (rintro ⟨rfl, rfl⟩; simp [d1] at hd)) hR.1, R2_c (fun k j hd => by rw [up_ne, up_ne, up_ne] <;> (rintro ⟨rfl, rfl⟩; simp [d2] at hd)) hR.2.1, R3_c (fun k j hd => by rw [up_ne, up_ne, up_ne] <;> (rintro ⟨rfl, rfl⟩; simp [d3] at hd)) hR.2.2.1, ⟨?_, ?_, fun j hj => ?_⟩, R5_c (fun k j hd => by rw [up_ne, up_ne, up_ne] <;> (rintro ⟨rfl, rfl⟩; simp [d5] at hd)) hR.2.2.2.2.1, R6_c (fun k j hd => by rw [up_ne, up_ne, up_ne] <;> (rintro ⟨rfl, rfl⟩; simp [d6] at hd)) hR.2.2.2.2.2.1, R7_c (fun k j hd => by rw [up_ne, up_ne, up_ne] <;> (rintro ⟨rfl, rfl⟩; simp [d7] at hd)) hR.2.2.2.2.2.2.1, R8_c (fun k j hd => by rw [up_ne, up_ne, up_ne] <;> (rintro ⟨rfl, rfl⟩; simp [d8] at hd)) hR.2.2.2.2.2.2.2⟩
      · simpa [up_at] using r1
      · simpa [up_at] using r2
      · have h := r3 j hj
        by_cases e : j = i
        · subst e
          simp only [up_at]
          simp
          refine ⟨h.1, h.2.1, h.2.2.1, ?_, fun h5 => ?_⟩
          · rcases hb2 with rfl | rfl <;> exact ⟨by decide, by decide⟩
          · rw [hs, t_n (by omega)] at b2
            omega
        · simp only [up_at]
          simp [e]
          exact h
  · rw [if_neg c1]
    refine ⟨-1, σ, fb_up σ 29 0 0, rfl, ?_, kk⟩
    have e29 : (fb_up σ 29 0 0).1 29 11 = σ.1 11 5 := by simp [up_at, r2]
    rw [nm_e_, e29, M_in2 a1 0 (σ.1 11 5 - 1) (by decide) rfl, if_neg c1]
    rfl
def sumI (r : Nat → Int32) : Nat → Int32
  | 0 => 0
  | j + 1 => sumI r j + r j
theorem X_sum (ka N : Nat) (σ : fb_S) (hl : fb_len ka < 2147483648) : ∀ (n j : Nat), j ≤ fb_len ka → fb_len ka - j < n → f_X5_sum_L10 ka N σ n (sumI (σ.1 ka) j) (nI (fb_len ka)) (nI j) = some (sumI (σ.1 ka) (fb_len ka)) := by
  intro n
  induction n with
  | zero => intro j h1 h2; omega
  | succ n ih =>
    intro j h1 h2
    unfold f_X5_sum_L10
    by_cases hj : j = fb_len ka
    · rw [if_pos (nI_le (by omega) (by omega)), hj]
    · rw [if_neg (nI_ge (by omega) (by omega)), ck_t (in_n (by omega) hl), nm_e_, nm_e_, nI_1, cl_n (by omega)]
      exact ih (j + 1) (by omega) (by omega)
theorem X_sum' (ka N : Nat) (σ : fb_S) (hl : fb_len ka < 2147483648) (hN : fb_len ka < N) : f_X5_sum N ka σ = some (sumI (σ.1 ka) (fb_len ka)) := by
  unfold f_X5_sum
  rw [nm_e_]
  exact X_sum ka N σ hl N 0 (Nat.zero_le _) (by omega)
def cntv (a1 b c d : Int32) (σ : fb_S) : Int32 := if a1 = 0 then σ.1 29 1 else if a1 = 1 then σ.1 29 11 else if a1 = 2 then b else if a1 = 3 then σ.1 29 30 else if a1 = 4 then c else if a1 = 5 then d else -2
theorem M_cnt76 (N : Nat) (σ : fb_S) (a1 b c : Int32) : ∀ (n j : Nat), j ≤ 60 → 60 - j < n → f_X6_count_L76 N n a1 b c (sumI (σ.1 44) j) (nI j) σ = some (cntv a1 b c (sumI (σ.1 44) 60) σ, σ) := by
  intro n
  induction n with
  | zero => intro j h1 h2; omega
  | succ n ih =>
    intro j h1 h2
    unfold f_X6_count_L76
    by_cases hj : j = 60
    · subst hj
      rw [if_pos (by decide)]
      unfold cntv
      repeat (first | rfl | (split))
    · rw [if_neg (lc_nle 60 (by omega) (by omega)), ck_t (in_n (by omega) (by decide)), nm_e_, nI_1, cl_n (by omega)]
      exact ih (j + 1) (by omega) (by omega)
theorem M_cnt51 (N : Nat) (hN : 40000 ≤ N) (σ : fb_S) (a1 b : Int32) : ∀ (n j : Nat), j ≤ 4 → 4 - j < n → f_X6_count_L51 N n a1 b (sumI (σ.1 35) j) 0 (nI j) σ = some (cntv a1 b (sumI (σ.1 35) 4) (sumI (σ.1 44) 60) σ, σ) := by
  intro n
  induction n with
  | zero => intro j h1 h2; omega
  | succ n ih =>
    intro j h1 h2
    unfold f_X6_count_L51
    by_cases hj : j = 4
    · subst hj
      rw [if_pos (by decide)]
      exact M_cnt76 N σ a1 b _ N 0 (by omega) (by omega)
    · rw [if_neg (lc_nle 4 (by omega) (by omega)), ck_t (in_n (by omega) (by decide)), nm_e_, nI_1, cl_n (by omega)]
      exact ih (j + 1) (by omega) (by omega)
theorem M_cnt15 (N : Nat) (hN : 40000 ≤ N) (σ : fb_S) (a1 : Int32) {c : Nat} (hc : c ≤ 10) (ec : σ.1 29 11 = nI c) (hb : ∀ j, j < 10 → σ.1 41 j = 0 ∨ σ.1 41 j = 1) : ∀ (n j : Nat), j ≤ c → c - j < n → f_X6_count_L15 N n a1 (sumI (σ.1 41) j) 0 0 (nI j) σ = some (cntv a1 (sumI (σ.1 41) c) (sumI (σ.1 35) 4) (sumI (σ.1 44) 60) σ, σ) := by
  intro n
  induction n with
  | zero => intro j h1 h2; omega
  | succ n ih =>
    intro j h1 h2
    unfold f_X6_count_L15
    rw [ec]
    by_cases hj : j = c
    · rw [if_pos (nI_le (by omega) (by omega)), hj]
      exact M_cnt51 N hN σ a1 _ N 0 (by omega) (by omega)
    · rw [if_neg (nI_ge (by omega) (by omega)), ck_t (in_n (by omega) (by decide)), nI_1, cl_n (by omega)]
      have h := ih (j + 1) (by omega) (by omega)
      have es : sumI (σ.1 41) (j + 1) = sumI (σ.1 41) j + σ.1 41 j := rfl
      rw [es] at h
      rcases hb j (by omega) with e | e
      · rw [if_pos e, nm_e_]
        rw [e] at h
        exact h
      · rw [if_neg (by rw [e]; exact z_1), nm_e_]
        rw [e] at h
        exact h
theorem sumI_c {r q : Nat → Int32} : ∀ n, (∀ j, j < n → r j = q j) → sumI r n = sumI q n := by
  intro n
  induction n with
  | zero => intro _; rfl
  | succ n ih => intro h; unfold sumI; rw [ih (fun j hj => h j (by omega)), h n (by omega)]
theorem sumI_z {r : Nat → Int32} {c : Nat} : ∀ n, c ≤ n → (∀ j, c ≤ j → j < n → r j = 0) → sumI r n = sumI r c := by
  intro n
  induction n with
  | zero => intro h _; have : c = 0 := by omega
            subst this; rfl
  | succ n ih =>
    intro h hz
    by_cases e : c = n + 1
    · rw [e]
    · unfold sumI
      rw [ih (by omega) (fun j h1 h2 => hz j h1 (by omega)), hz n (by omega) (by omega), Int32.add_zero]
      cases c <;> rfl
theorem st_count (N : Nat) (hN : 40000 ≤ N) (σ : fb_S) (hR : Rl σ) (a1 : Int32) : ∃ r σ2, f_X5_count N a1 σ = some r ∧ f_X6_count N a1 σ = some (r, σ2) ∧ Rl σ2 := by
  obtain ⟨r1, r2, r3⟩ := hR.2.2.2.1
  obtain ⟨c, hc, ec⟩ := rgn 10 (by decide) r1
  have hM := M_cnt15 N hN (fb_up σ 29 0 0) a1 (c := c) hc (by simp [up_at, r2, ec]) (fun j hj => by
    have h := (r3 j hj).2.2.2.1
    have e : (fb_up σ 29 0 0).1 41 j = σ.1 15 j := by simp [up_at, h.1]
    rw [e]
    exact bool_n h.2) N 0 (by omega) (by omega)
  refine ⟨_, fb_up σ 29 0 0, ?_, by unfold f_X6_count; rw [nm_e_]; exact hM, Rl_keep (Keep.up rfl Keep.rfl') hR⟩
  have s1 : sumI ((fb_up σ 29 0 0).1 41) c = sumI (σ.1 15) 10 := by
    rw [sumI_z (c := c) 10 hc (fun j h1 h2 => (r3 j h2).2.2.2.2 (by rw [ec, t_n (by omega)]; omega))]
    exact sumI_c c (fun j hj => by simp [up_at, (r3 j (by omega)).2.2.2.1.1])
  have s2 : sumI ((fb_up σ 29 0 0).1 35) 4 = sumI (σ.1 10) 4 := sumI_c 4 (fun j hj => by simp [up_at, (hR.2.1 j hj).2.2.2.1])
  have s3 : sumI ((fb_up σ 29 0 0).1 44) 60 = sumI (σ.1 19) 60 := sumI_c 60 (fun j hj => by simp [up_at, (hR.2.2.2.2.2.1.2.2.2.2.2.2.2 j hj).1])
  rw [s1, s2, s3]
  unfold f_X5_count cntv
  rw [X_sum' 15 N σ (by decide) (by have : fb_len 15 = 10 := rfl; omega), X_sum' 10 N σ (by decide) (by have : fb_len 10 = 4 := rfl; omega), X_sum' 19 N σ (by decide) (by have : fb_len 19 = 60 := rfl; omega)]
  have q1 : (fb_up σ 29 0 0).1 29 1 = σ.1 2 3 := by simp [up_at, hR.1.2.1]
  have q2 : (fb_up σ 29 0 0).1 29 11 = σ.1 11 5 := by simp [up_at, r2]
  have q3 : (fb_up σ 29 0 0).1 29 30 = σ.1 22 6 := by simp [up_at, hR.2.2.2.2.2.2.1.2.1]
  rw [q1, q2, q3]
  repeat (first | rfl | split)
