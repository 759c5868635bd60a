theorem X_spring (σ : fb_S) (hR : Rl σ) {i : Nat} (hi : i < 6) (a2 lo : Int32) : f_X5_spring_L37 (nI i) a2 lo σ = if lo ≤ a2 ∧ a2 ≤ 99 then some (σ.1 4 i, fb_up σ 4 i a2) else some (-2, σ) := by
  unfold f_X5_spring_L37
  rw [X_within]
  by_cases c : lo ≤ a2 ∧ a2 ≤ 99
  · rw [if_pos c, if_pos c, Option.bind_some, if_neg z_1, X_exch (show fb_in (nI i) (fb_len 4) = true from in_n hi (by decide)), Option.bind_some, cl_n (by omega)]
  · rw [if_neg c, if_neg c]; rfl
theorem M_spring (σ : fb_S) {i : Nat} (hi : i < 6) (a2 lo : Int32) {l : Int64} (hl : l = lo.toInt64) : f_X6_spring_L40 (nI i) a2 a2.toInt64 l σ = if lo ≤ a2 ∧ a2 ≤ 99 then some (σ.1 31 i, fb_up σ 31 i a2) else some (-2, σ) := by
  unfold f_X6_spring_L40
  rw [M_in2 a2 lo 99 hl (by decide)]
  by_cases c : lo ≤ a2 ∧ a2 ≤ 99
  · rw [if_pos c, if_pos c, Option.bind_some, if_neg z_1, ck_t (in_n hi (by decide)), nm_e_, ck_t (in_n hi (by decide)), nm_e_, cl_n (by omega)]
  · rw [if_neg c, if_neg c]; rfl
theorem st_spring_x (σ : fb_S) (hR : Rl σ) {i : Nat} (hi : i < 6) (a2 lo : Int32) (hlo : 0 ≤ lo.toInt) : ∃ r σ1 σ2, (if lo ≤ a2 ∧ a2 ≤ 99 then some (σ.1 4 i, fb_up σ 4 i a2) else some (-2, σ)) = some (r, σ1) ∧ (if lo ≤ a2 ∧ a2 ≤ 99 then some ((fb_up σ1 29 0 0).1 31 i, fb_up (fb_up σ1 29 0 0) 31 i a2) else some (-2, fb_up σ1 29 0 0)) = some (r, σ2) ∧ σ1.1 2 3 = σ.1 2 3 ∧ σ1.1 29 1 = σ.1 29 1 ∧ Rl σ2 := by
  obtain ⟨n1, n2, n3, n4⟩ := hR.1
  by_cases c : lo ≤ a2 ∧ a2 ≤ 99
  · rw [if_pos c]
    refine ⟨_, _, fb_up (fb_up (fb_up σ 4 i a2) 29 0 0) 31 i a2, rfl, ?_, by simp [up_at], by simp [up_at], ⟨?_, ?_, fun j hj => ?_, fun j hj => ?_⟩, R2_c (fun k j hd => by rw [up_ne, up_ne, up_ne] <;> (rintro ⟨rfl, rfl⟩; simp [d2] at hd)) hR.2.1, R3_c (fun k j hd => by rw [up_ne, up_ne, up_ne] <;> (rintro ⟨rfl, rfl⟩; simp [d3] at hd)) hR.2.2.1, R4_c (fun k j hd => by rw [up_ne, up_ne, up_ne] <;> (rintro ⟨rfl, rfl⟩; simp [d4] at hd)) hR.2.2.2.1, R5_c (fun k j hd => by rw [up_ne, up_ne, up_ne] <;> (rintro ⟨rfl, rfl⟩; simp [d5] at hd)) hR.2.2.2.2.1, R6_c (fun k j hd => by rw [up_ne, up_ne, up_ne] <;> (rintro ⟨rfl, rfl⟩; simp [d6] at hd)) hR.2.2.2.2.2.1, R7_c (fun k j hd => by rw [up_ne, up_ne, up_ne] <;> (rintro ⟨rfl, rfl⟩; simp [d7] at hd)) hR.2.2.2.2.2.2.1, R8_c (fun k j hd => by rw [up_ne, up_ne, up_ne] <;> (rintro ⟨rfl, rfl⟩; simp [d8] at hd)) hR.2.2.2.2.2.2.2⟩
    · rw [if_pos c]
      have e : (fb_up (fb_up σ 4 i a2) 29 0 0).1 31 i = σ.1 4 i := by simp [up_at, (n4 i hi).1]
      rw [e]
    · simpa [up_at] using n1
    · simpa [up_at] using n2
    · simpa [up_at] using n3 j hj
    · by_cases e : j = i
      · subst e
        simp only [up_at]
        simp
        have h1 := t_le.mp c.1
        have h2 := t_le.mp c.2
        have h3 : (99 : Int32).toInt = 99 := rfl
        exact ⟨by omega, by omega⟩
      · simpa [up_at, e] using n4 j hj
  · rw [if_neg c]
    exact ⟨-2, σ, fb_up σ 29 0 0, rfl, by rw [if_neg c], rfl, rfl, Rl_keep (Keep.up rfl Keep.rfl') hR⟩
theorem st_spring (N : Nat) (hN : 40000 ≤ N) (σ : fb_S) (hR : Rl σ) (a1 : Int32) (a2 : Int32) : ∃ r σ1 σ2, f_X5_spring a1 a2 σ = some (r, σ1) ∧ f_X6_spring a1 a2 σ1 = some (r, σ2) ∧ Rl σ2 := by
  obtain ⟨n1, n2, n3, n4⟩ := hR.1
  unfold f_X5_spring f_X6_spring
  rw [X_within]
  by_cases c1 : 0 ≤ a1 ∧ a1 ≤ σ.1 2 3
  · rw [if_pos c1, Option.bind_some, if_neg z_1]
    have b1 := t_le.mp c1.1
    have b2 := t_le.mp c1.2
    have b3 : (0 : Int32).toInt = 0 := rfl
    obtain ⟨i, hi, rfl⟩ := vp_in_of (x := a1) (n := 6) (vp_in_iff.mpr ⟨by omega, by have := n1.2; omega⟩) (by decide)
    have key : ∀ σ1 : fb_S, σ1.1 29 1 = σ.1 29 1 → f_X6_in (nI i).toInt64 0 ((fb_up σ1 29 0 0).1 29 1).toInt64 = some 1 := by
      intro σ1 e
      have e29 : (fb_up σ1 29 0 0).1 29 1 = σ.1 2 3 := by rw [up_ne _ _ (by decide), e, n2]
      rw [e29, M_in2 (nI i) 0 (σ.1 2 3) (by decide) rfl, if_pos c1]
    have kn : ∀ σ1 : fb_S, σ1.1 29 1 = σ.1 29 1 → (fb_up σ1 29 0 0).1 29 1 = σ.1 2 3 := by
      intro σ1 e
      rw [up_ne _ _ (by decide), e, n2]
    by_cases e0 : nI i = 0
    · rw [if_pos e0]
      unfold f_X5_spring_L32
      rw [X_spring σ hR hi a2 0]
      obtain ⟨r, σ1, σ2, h1, h2, h3, h4, h5⟩ := st_spring_x σ hR hi a2 0 (by decide)
      refine ⟨r, σ1, σ2, h1, ?_, h5⟩
      rw [nm_e_, key σ1 h4, Option.bind_some, if_neg z_1, if_pos e0]
      unfold f_X6_spring_L35
      rw [M_spring _ hi a2 0 (by decide)]
      exact h2
    · rw [if_neg e0]
      by_cases e1 : nI i = σ.1 2 3
      · rw [if_pos e1]
        unfold f_X5_spring_L32
        rw [X_spring σ hR hi a2 0]
        obtain ⟨r, σ1, σ2, h1, h2, h3, h4, h5⟩ := st_spring_x σ hR hi a2 0 (by decide)
        refine ⟨r, σ1, σ2, h1, ?_, h5⟩
        rw [nm_e_, key σ1 h4, Option.bind_some, if_neg z_1, if_neg e0, kn σ1 h4, if_pos e1]
        unfold f_X6_spring_L35
        rw [M_spring _ hi a2 0 (by decide)]
        exact h2
      · rw [if_neg e1, X_spring σ hR hi a2 1]
        obtain ⟨r, σ1, σ2, h1, h2, h3, h4, h5⟩ := st_spring_x σ hR hi a2 1 (by decide)
        refine ⟨r, σ1, σ2, h1, ?_, h5⟩
        rw [nm_e_, key σ1 h4, Option.bind_some, if_neg z_1, if_neg e0, kn σ1 h4, if_neg e1, M_spring _ hi a2 1 (by decide)]
        exact h2
  · rw [if_neg c1]
    refine ⟨-1, σ, fb_up σ 29 0 0, rfl, ?_, Rl_keep (Keep.up rfl Keep.rfl') hR⟩
    have e29 : (fb_up σ 29 0 0).1 29 1 = σ.1 2 3 := by simp [up_at, n2]
    rw [nm_e_, e29, M_in2 a1 0 (σ.1 2 3) (by decide) rfl, if_neg c1]
    rfl

theorem R5_off {σ : fb_S} (h : σ.1 11 6 = 0) : R5 σ := Or.inl h
theorem st_sort (N : Nat) (hN : 40000 ≤ N) (σ : fb_S) (hR : Rl σ) (a1 : Int32) (a2 : Int32) (a3 : Int32) (a4 : Int32) : ∃ r σ1 σ2, f_X5_sort a1 a2 a3 a4 σ = some (r, σ1) ∧ f_X6_sort a1 a2 a3 a4 σ1 = some (r, σ2) ∧ Rl σ2 := by
  unfold f_X5_sort f_X6_sort
  simp only [X_isSort, X_isSway, X_within, M_noSort, M_noSway, Option.bind_some, nm_e_]
  rw [M_in2 a2 0 99 (by decide) (by decide)]
  have kk : Rl (fb_up σ 29 0 0) := Rl_keep (Keep.up rfl Keep.rfl') hR
  by_cases c1 : 0 ≤ a1 ∧ a1 ≤ 3
  · by_cases c2 : 0 ≤ a2 ∧ a2 ≤ 99
    · by_cases c3 : 0 ≤ a3 ∧ a3 ≤ 9999
      · by_cases c4 : 0 ≤ a4 ∧ a4 ≤ 9999
        · obtain ⟨i, hi, rfl⟩ := ex_n (c := 3) (by decide) c1.1 c1.2
          have hin : fb_in (nI i) 4 = true := in_n (by omega) (by decide)
          refine ⟨σ.1 7 i, fb_up (fb_up (fb_up (fb_up σ 11 6 0) 8 i a3) 9 i a4) 7 i a2, fb_up (fb_up (fb_up (fb_up (fb_up (fb_up (fb_up (fb_up σ 11 6 0) 8 i a3) 9 i a4) 7 i a2) 29 0 0) 32 i a2) 33 i a3) 34 i a4, ?_, ?_, ?_⟩
          · unfold f_X1_forgetChoice
            simp only [c1, c2, c3, c4, and_self, if_true, Option.bind_some, if_neg z_1, nm_e_, ck_t hin, cl_n (show i < 2147483648 by omega), X_exch (show fb_in (nI i) (fb_len 7) = true from hin)]
            simp [up_at]
          · simp only [c1, c2, c3, c4, and_self, if_true, Option.bind_some, if_neg z_1, nm_e_, ck_t hin, cl_n (show i < 2147483648 by omega)]
            have e : (fb_up (fb_up (fb_up (fb_up (fb_up σ 11 6 0) 8 i a3) 9 i a4) 7 i a2) 29 0 0).1 32 i = σ.1 7 i := by
              simp [up_at, (hR.2.1 i (by omega)).1.1]
            rw [e]
          · refine ⟨R1_c (fun k j hd => by rw [up_ne, up_ne, up_ne, up_ne, up_ne, up_ne, up_ne, up_ne] <;> (rintro ⟨rfl, rfl⟩; simp [d1] at hd)) hR.1, fun j hj => ?_, R3_c (fun k j hd => by rw [up_ne, up_ne, up_ne, up_ne, up_ne, up_ne, up_ne, up_ne] <;> (rintro ⟨rfl, rfl⟩; simp [d3] at hd)) hR.2.2.1, R4_c (fun k j hd => by rw [up_ne, up_ne, up_ne, up_ne, up_ne, up_ne, up_ne, up_ne] <;> (rintro ⟨rfl, rfl⟩; simp [d4] at hd)) hR.2.2.2.1, R5_off (by simp [up_at]), R6_c (fun k j hd => by rw [up_ne, up_ne, up_ne, up_ne, up_ne, up_ne, up_ne, up_ne] <;> (rintro ⟨rfl, rfl⟩; simp [d6] at hd)) hR.2.2.2.2.2.1, R7_c (fun k j hd => by rw [up_ne, up_ne, up_ne, up_ne, up_ne, up_ne, up_ne, up_ne] <;> (rintro ⟨rfl, rfl⟩; simp [d7] at hd)) hR.2.2.2.2.2.2.1, R8_c (fun k j hd => by rw [up_ne, up_ne, up_ne, up_ne, up_ne, up_ne, up_ne, up_ne] <;> (rintro ⟨rfl, rfl⟩; simp [d8] at hd)) hR.2.2.2.2.2.2.2⟩
            by_cases e : j = i
            · subst e
              have h := hR.2.1 j hj
              simp only [up_at]
              simp
              exact ⟨rg_of c2, rg_of c3, rg_of c4, h.2.2.2.1, h.2.2.2.2⟩
            · simpa [up_at, e] using hR.2.1 j hj
        · refine ⟨-2, σ, fb_up σ 29 0 0, ?_, ?_, kk⟩ <;> simp [c1, c2, c3, c4]
      · refine ⟨-2, σ, fb_up σ 29 0 0, ?_, ?_, kk⟩ <;> simp [c1, c2, c3]
    · refine ⟨-2, σ, fb_up σ 29 0 0, ?_, ?_, kk⟩ <;> simp [c1, c2]
  · refine ⟨-1, σ, fb_up σ 29 0 0, ?_, ?_, kk⟩ <;> simp [c1]

theorem st_crowd (N : Nat) (hN : 40000 ≤ N) (σ : fb_S) (hR : Rl σ) (a1 : Int32) (a2 : Int32) : ∃ r σ1 σ2, f_X5_crowd a1 a2 σ = some (r, σ1) ∧ f_X6_crowd a1 a2 σ1 = some (r, σ2) ∧ Rl σ2 := by
  unfold f_X5_crowd f_X6_crowd
  simp only [X_isSort, X_within, M_noSort, Option.bind_some, nm_e_]
  rw [M_in2 a2 0 999 (by decide) (by decide)]
  have kk : Rl (fb_up σ 29 0 0) := Rl_keep (Keep.up rfl Keep.rfl') hR
  by_cases c1 : 0 ≤ a1 ∧ a1 ≤ 3
  · by_cases c2 : 0 ≤ a2 ∧ a2 ≤ 999
    · obtain ⟨i, hi, rfl⟩ := ex_n (c := 3) (by decide) c1.1 c1.2
      have hin : fb_in (nI i) 4 = true := in_n (by omega) (by decide)
      refine ⟨σ.1 10 i, fb_up (fb_up σ 11 6 0) 10 i a2, fb_up (fb_up (fb_up (fb_up σ 11 6 0) 10 i a2) 29 0 0) 35 i a2, ?_, ?_, ?_⟩
      · unfold f_X1_forgetChoice
        simp only [c1, c2, and_self, if_true, Option.bind_some, if_neg z_1, nm_e_, X_exch (show fb_in (nI i) (fb_len 10) = true from hin), cl_n (show i < 2147483648 by omega)]
        simp [up_at]
      · simp only [c1, c2, and_self, if_true, Option.bind_some, if_neg z_1, nm_e_, ck_t hin, cl_n (show i < 2147483648 by omega)]
        have e : (fb_up (fb_up (fb_up σ 11 6 0) 10 i a2) 29 0 0).1 35 i = σ.1 10 i := by
          simp [up_at, (hR.2.1 i (by omega)).2.2.2.1]
        rw [e]
      · refine ⟨R1_c (fun k j hd => by rw [up_ne, up_ne, up_ne, up_ne] <;> (rintro ⟨rfl, rfl⟩; simp [d1] at hd)) hR.1, fun j hj => ?_, R3_c (fun k j hd => by rw [up_ne, up_ne, up_ne, up_ne] <;> (rintro ⟨rfl, rfl⟩; simp [d3] at hd)) hR.2.2.1, R4_c (fun k j hd => by rw [up_ne, up_ne, up_ne, up_ne] <;> (rintro ⟨rfl, rfl⟩; simp [d4] at hd)) hR.2.2.2.1, R5_off (by simp [up_at]), R6_c (fun k j hd => by rw [up_ne, up_ne, up_ne, up_ne] <;> (rintro ⟨rfl, rfl⟩; simp [d6] at hd)) hR.2.2.2.2.2.1, R7_c (fun k j hd => by rw [up_ne, up_ne, up_ne, up_ne] <;> (rintro ⟨rfl, rfl⟩; simp [d7] at hd)) hR.2.2.2.2.2.2.1, R8_c (fun k j hd => by rw [up_ne, up_ne, up_ne, up_ne] <;> (rintro ⟨rfl, rfl⟩; simp [d8] at hd)) hR.2.2.2.2.2.2.2⟩
        by_cases e : j = i
        · subst e
          have h := hR.2.1 j hj
          simp only [up_at]
          simp
          exact ⟨⟨h.1.1, h.1.2⟩, ⟨h.2.1.1, h.2.1.2⟩, ⟨h.2.2.1.1, h.2.2.1.2⟩, rg_of c2⟩
        · simpa [up_at, e] using hR.2.1 j hj
    · refine ⟨-2, σ, fb_up σ 29 0 0, ?_, ?_, kk⟩ <;> simp [c1, c2]
  · refine ⟨-1, σ, fb_up σ 29 0 0, ?_, ?_, kk⟩ <;> simp [c1]

theorem st_arrive (N : Nat) (hN : 40000 ≤ N) (σ : fb_S) (hR : Rl σ) (a1 : Int32) (a2 : Int32) : ∃ r σ1 σ2, f_X5_arrive a1 a2 σ = some (r, σ1) ∧ f_X6_arrive a1 a2 σ1 = some (r, σ2) ∧ Rl σ2 := by
  unfold f_X5_arrive f_X6_arrive
  simp only [X_within, Option.bind_some, nm_e_]
  rw [M_in2 a2 0 99 (by decide) (by decide), M_in2 a1 0 59 (by decide) (by decide)]
  have kk : Rl (fb_up σ 29 0 0) := Rl_keep (Keep.up rfl Keep.rfl') hR
  by_cases c1 : 0 ≤ a1 ∧ a1 ≤ 59
  · by_cases c2 : 0 ≤ a2 ∧ a2 ≤ 99
    · obtain ⟨i, hi, rfl⟩ := ex_n (c := 59) (by decide) c1.1 c1.2
      have hin : fb_in (nI i) 60 = true := in_n (by omega) (by decide)
      have h6 := hR.2.2.2.2.2.1
      refine ⟨σ.1 19 i, fb_up σ 19 i a2, fb_up (fb_up (fb_up σ 19 i a2) 29 0 0) 44 i a2, ?_, ?_, ?_⟩
      · simp only [c1, c2, and_self, if_true, Option.bind_some, if_neg z_1, nm_e_, X_exch (show fb_in (nI i) (fb_len 19) = true from hin), cl_n (show i < 2147483648 by omega)]
      · simp only [c1, c2, and_self, if_true, Option.bind_some, if_neg z_1, nm_e_, ck_t hin, cl_n (show i < 2147483648 by omega)]
        have e : (fb_up (fb_up σ 19 i a2) 29 0 0).1 44 i = σ.1 19 i := by
          simp [up_at, (h6.2.2.2.2.2.2.2 i (by omega)).1]
        rw [e]
      · refine ⟨R1_c (fun k j hd => by rw [up_ne, up_ne, up_ne] <;> (rintro ⟨rfl, rfl⟩; simp [d1] at hd)) hR.1, R2_c (fun k j hd => by rw [up_ne, up_ne, up_ne] <;> (rintro ⟨rfl, rfl⟩; simp [d2] at hd)) hR.2.1, R3_c (fun k j hd => by rw [up_ne, up_ne, up_ne] <;> (rintro ⟨rfl, rfl⟩; simp [d3] at hd)) hR.2.2.1, R4_c (fun k j hd => by rw [up_ne, up_ne, up_ne] <;> (rintro ⟨rfl, rfl⟩; simp [d4] at hd)) hR.2.2.2.1, R5_c (fun k j hd => by rw [up_ne, up_ne, up_ne] <;> (rintro ⟨rfl, rfl⟩; simp [d5] at hd)) hR.2.2.2.2.1, ⟨?_, ?_, ?_, ?_, ?_, ?_, ?_, fun j hj => ?_⟩, R7_c (fun k j hd => by rw [up_ne, up_ne, up_ne] <;> (rintro ⟨rfl, rfl⟩; simp [d7] at hd)) hR.2.2.2.2.2.2.1, R8_c (fun k j hd => by rw [up_ne, up_ne, up_ne] <;> (rintro ⟨rfl, rfl⟩; simp [d8] at hd)) hR.2.2.2.2.2.2.2⟩
        · intro j hj; simpa [up_at] using h6.1 j hj
        · simpa [up_at] using h6.2.1
        · simpa [up_at] using h6.2.2.1
        · simpa [up_at] using h6.2.2.2.1
        · simpa [up_at] using h6.2.2.2.2.1
        · simpa [up_at] using h6.2.2.2.2.2.1
        · simpa [up_at] using h6.2.2.2.2.2.2.1
        · by_cases e : j = i
          · subst e
            simp only [up_at]
            simp
            exact rg_of c2
          · simpa [up_at, e] using h6.2.2.2.2.2.2.2 j hj
    · refine ⟨-2, σ, fb_up σ 29 0 0, ?_, ?_, kk⟩ <;> simp [c1, c2]
  · refine ⟨-2, σ, fb_up σ 29 0 0, ?_, ?_, kk⟩ <;> simp [c1]

theorem X_rule (σ : fb_S) {i : Nat} (hi : i ≤ 3) (a2 : Int32) : f_X5_rule (nI i) a2 σ = if fb_rl 0 i ≤ a2 ∧ a2 ≤ fb_rl 1 i then some (σ.1 1 i, fb_up (fb_up σ 11 6 0) 1 i a2) else some (-2, σ) := by
  unfold f_X5_rule
  have hin : fb_in (nI i) 4 = true := in_n (by omega) (by decide)
  rw [X_within, if_pos ⟨le0 (by omega), (nI_le hi (by decide) : nI i ≤ nI 3)⟩, Option.bind_some, if_neg z_1, ck_t hin, ck_t hin, X_within, cl_n (by omega)]
  by_cases c : fb_rl 0 i ≤ a2 ∧ a2 ≤ fb_rl 1 i
  · rw [if_pos c, if_pos c, Option.bind_some, if_neg z_1]
    unfold f_X1_forgetChoice
    rw [nm_e_, Option.bind_some, X_exch (show fb_in (nI i) (fb_len 1) = true from hin), Option.bind_some, cl_n (by omega)]
    simp [up_at]
  · rw [if_neg c, if_neg c]; rfl
theorem M_rule54 (τ : fb_S) {i : Nat} (hi : i ≤ 3) (a2 hi2 lo : Int32) {l : Int64} (hl : l = lo.toInt64) : f_X6_rule_L54 (nI i) a2 hi2 a2.toInt64 l τ = if lo ≤ a2 ∧ a2 ≤ hi2 then some (τ.1 37 i, fb_up τ 37 i a2) else some (-2, τ) := by
  unfold f_X6_rule_L54
  have hin : fb_in (nI i) 4 = true := in_n (by omega) (by decide)
  rw [M_in2 a2 lo hi2 hl rfl]
  by_cases c : lo ≤ a2 ∧ a2 ≤ hi2
  · rw [if_pos c, if_pos c, Option.bind_some, if_neg z_1, ck_t hin, nm_e_, ck_t hin, nm_e_, cl_n (by omega)]
  · rw [if_neg c, if_neg c]; rfl
theorem M_rule (τ : fb_S) {i : Nat} (hi : i ≤ 3) (a2 : Int32) : f_X6_rule (nI i) a2 τ = if fb_rl 0 i ≤ a2 ∧ a2 ≤ fb_rl 1 i then some ((fb_up τ 29 0 0).1 37 i, fb_up (fb_up τ 29 0 0) 37 i a2) else some (-2, fb_up τ 29 0 0) := by
  unfold f_X6_rule
  rw [nm_e_]
  have hin : f_X6_in (nI i).toInt64 0 3 = some 1 := by rw [M_in2 (nI i) 0 3 (by decide) (by decide), if_pos ⟨le0 (by omega), (nI_le hi (by decide) : nI i ≤ nI 3)⟩]
  match i, hi, hin with
  | 0, hi, hin =>
    rw [if_pos (by decide)]
    unfold f_X6_rule_L29
    rw [hin, Option.bind_some, if_neg z_1, if_neg (by decide), M_rule54 _ hi a2 500 1 (by decide)]
    rfl
  | 1, hi, hin =>
    rw [if_neg (by decide), if_neg (by decide)]
    unfold f_X6_rule_L29
    rw [hin, Option.bind_some, if_neg z_1, if_neg (by decide), M_rule54 _ hi a2 9999 1 (by decide)]
    rfl
  | 2, hi, hin =>
    rw [if_neg (by decide), if_pos (by decide)]
    unfold f_X6_rule_L29
    rw [hin, Option.bind_some, if_neg z_1, if_pos (by decide), M_rule54 _ hi a2 999 0 (by decide)]
    rfl
  | 3, hi, hin =>
    rw [if_neg (by decide), if_neg (by decide)]
    unfold f_X6_rule_L29
    rw [hin, Option.bind_some, if_neg z_1, if_pos (by decide), M_rule54 _ hi a2 9999 0 (by decide)]
    rfl
theorem M_rule_bad (τ : fb_S) (a1 a2 : Int32) (c : ¬ (0 ≤ a1 ∧ a1 ≤ 3)) : f_X6_rule a1 a2 τ = some (-2, fb_up τ 29 0 0) := by
  unfold f_X6_rule
  rw [nm_e_]
  have hin : f_X6_in a1.toInt64 0 3 = some 0 := by rw [M_in2 a1 0 3 (by decide) (by decide), if_neg c]
  have h : ∀ x, f_X6_rule_L29 a1 a2 x (fb_up τ 29 0 0) = some (-2, fb_up τ 29 0 0) := by
    intro x
    unfold f_X6_rule_L29
    rw [hin]
    rfl
  rw [h, h, h]
  split
  · rfl
  · split <;> rfl
theorem rl_rg (σ τ : fb_S) {i : Nat} (hi : i ≤ 3) {a2 : Int32} (c : fb_rl 0 i ≤ a2 ∧ a2 ≤ fb_rl 1 i) (h3 : R3 σ) (h37 : ∀ j, τ.1 37 j = if j = i then a2 else σ.1 37 j) (h1 : ∀ j, τ.1 1 j = if j = i then a2 else σ.1 1 j) : R3 τ := by
  obtain ⟨q1, q2, q3, q4, q5⟩ := h3
  have b1 := t_le.mp c.1
  have b2 := t_le.mp c.2
  refine ⟨fun j hj => by rw [h37, h1]; split; rfl; exact q1 j hj, ?_, ?_, ?_, ?_⟩
  · rw [h1]; split
    · next e => subst e; exact ⟨b1, b2⟩
    · exact q2
  · rw [h1]; split
    · next e => subst e; exact ⟨b1, b2⟩
    · exact q3
  · rw [h1]; split
    · next e => subst e; exact ⟨b1, b2⟩
    · exact q4
  · rw [h1]; split
    · next e => subst e; exact ⟨b1, b2⟩
    · exact q5
theorem st_rule (N : Nat) (hN : 40000 ≤ N) (σ : fb_S) (hR : Rl σ) (a1 : Int32) (a2 : Int32) : ∃ r σ1 σ2, f_X5_rule a1 a2 σ = some (r, σ1) ∧ f_X6_rule a1 a2 σ1 = some (r, σ2) ∧ Rl σ2 := by
  have kk : Rl (fb_up σ 29 0 0) := Rl_keep (Keep.up rfl Keep.rfl') hR
  by_cases c1 : 0 ≤ a1 ∧ a1 ≤ 3
  · obtain ⟨i, hi, rfl⟩ := ex_n (c := 3) (by decide) c1.1 c1.2
    rw [X_rule σ hi]
    by_cases c : fb_rl 0 i ≤ a2 ∧ a2 ≤ fb_rl 1 i
    · rw [if_pos c]
      refine ⟨_, _, fb_up (fb_up (fb_up (fb_up σ 11 6 0) 1 i a2) 29 0 0) 37 i a2, rfl, ?_, ?_⟩
      · rw [M_rule _ hi, if_pos c]
        have e : (fb_up (fb_up (fb_up σ 11 6 0) 1 i a2) 29 0 0).1 37 i = σ.1 1 i := by simp [up_at, hR.2.2.1.1 i (by omega)]
        rw [e]
      · exact ⟨R1_c (fun k j hd => by rw [up_ne, up_ne, up_ne, up_ne] <;> (rintro ⟨rfl, rfl⟩; simp [d1] at hd)) hR.1, R2_c (fun k j hd => by rw [up_ne, up_ne, up_ne, up_ne] <;> (rintro ⟨rfl, rfl⟩; simp [d2] at hd)) hR.2.1, rl_rg σ _ hi c hR.2.2.1 (fun j => by simp [up_at]) (fun j => by simp [up_at]), R4_c (fun k j hd => by rw [up_ne, up_ne, up_ne, up_ne] <;> (rintro ⟨rfl, rfl⟩; simp [d4] at hd)) hR.2.2.2.1, R5_off (by simp [up_at]), R6_c (fun k j hd => by rw [up_ne, up_ne, up_ne, up_ne] <;> (rintro ⟨rfl, rfl⟩; simp [d6] at hd)) hR.2.2.2.2.2.1, R7_c (fun k j hd => by rw [up_ne, up_ne, up_ne, up_ne] <;> (rintro ⟨rfl, rfl⟩; simp [d7] at hd)) hR.2.2.2.2.2.2.1, R8_c (fun k j hd => by rw [up_ne, up_ne, up_ne, up_ne] <;> (rintro ⟨rfl, rfl⟩; simp [d8] at hd)) hR.2.2.2.2.2.2.2⟩
    · rw [if_neg c]
      refine ⟨-2, σ, fb_up σ 29 0 0, rfl, ?_, kk⟩
      rw [M_rule _ hi, if_neg c]
  · refine ⟨-2, σ, fb_up σ 29 0 0, ?_, M_rule_bad σ a1 a2 c1, kk⟩
    unfold f_X5_rule
    rw [X_within, if_neg c1]
    rfl

theorem X_way (σ : fb_S) {i : Nat} (hi : i ≤ 5) (a2 : Int32) : f_X5_way (nI i) a2 σ = if fb_rl 2 i ≤ a2 ∧ a2 ≤ fb_rl 3 i then some (σ.1 18 i, fb_up σ 18 i a2) else some (-2, σ) := by
  unfold f_X5_way
  have hin : fb_in (nI i) 6 = true := in_n (by omega) (by decide)
  rw [X_within, if_pos ⟨le0 (by omega), (nI_le hi (by decide) : nI i ≤ nI 5)⟩, Option.bind_some, if_neg z_1, ck_t hin, ck_t hin, X_within, cl_n (by omega)]
  by_cases c : fb_rl 2 i ≤ a2 ∧ a2 ≤ fb_rl 3 i
  · rw [if_pos c, if_pos c, Option.bind_some, if_neg z_1, X_exch (show fb_in (nI i) (fb_len 18) = true from hin), Option.bind_some, cl_n (by omega)]
  · rw [if_neg c, if_neg c]; rfl
theorem M_way48 (τ : fb_S) {i : Nat} (hi : i ≤ 5) (a2 lo hi2 : Int32) : f_X6_way_L48 (nI i) a2 lo hi2 τ = if lo ≤ a2 ∧ a2 ≤ hi2 then some (τ.1 43 i, fb_up τ 43 i a2) else some (-2, τ) := by
  unfold f_X6_way_L48
  have hin : fb_in (nI i) 6 = true := in_n (by omega) (by decide)
  rw [M_in2 (nI i) 0 5 (by decide) (by decide), if_pos ⟨le0 (by omega), (nI_le hi (by decide) : nI i ≤ nI 5)⟩, Option.bind_some, if_neg z_1, M_in2 a2 lo hi2 rfl rfl]
  by_cases c : lo ≤ a2 ∧ a2 ≤ hi2
  · rw [if_pos c, if_pos c, Option.bind_some, if_neg z_1, ck_t hin, nm_e_, ck_t hin, nm_e_, cl_n (by omega)]
  · rw [if_neg c, if_neg c]; rfl
theorem M_way (τ : fb_S) {i : Nat} (hi : i ≤ 5) (a2 : Int32) : f_X6_way (nI i) a2 τ = if fb_rl 2 i ≤ a2 ∧ a2 ≤ fb_rl 3 i then some ((fb_up τ 29 0 0).1 43 i, fb_up (fb_up τ 29 0 0) 43 i a2) else some (-2, fb_up τ 29 0 0) := by
  unfold f_X6_way f_X6_way_L15
  rw [nm_e_]
  simp only [M_way48 _ hi]
  match i, hi with
  | 0, hi => rw [if_neg (by decide), if_pos (by decide)]; rfl
  | 1, hi => rw [if_neg (by decide), if_neg (by decide), if_neg (by decide), if_neg (by decide)]; rfl
  | 2, hi => rw [if_neg (by decide), if_neg (by decide), if_neg (by decide), if_neg (by decide)]; rfl
  | 3, hi => rw [if_pos (by decide), if_neg (by decide), if_neg (by decide), if_neg (by decide)]; rfl
  | 4, hi => rw [if_pos (by decide), if_neg (by decide), if_pos (by decide)]; rfl
  | 5, hi => rw [if_pos (by decide), if_neg (by decide), if_neg (by decide), if_pos (by decide)]; rfl
theorem M_way_bad (τ : fb_S) (a1 a2 : Int32) (c : ¬ (0 ≤ a1 ∧ a1 ≤ 5)) : f_X6_way a1 a2 τ = some (-2, fb_up τ 29 0 0) := by
  unfold f_X6_way f_X6_way_L15
  rw [nm_e_]
  have h : ∀ x y, f_X6_way_L48 a1 a2 x y (fb_up τ 29 0 0) = some (-2, fb_up τ 29 0 0) := by
    intro x y
    unfold f_X6_way_L48
    rw [M_in2 a1 0 5 (by decide) (by decide), if_neg c]
    rfl
  simp only [h, ite_self]
theorem st_way (N : Nat) (hN : 40000 ≤ N) (σ : fb_S) (hR : Rl σ) (a1 : Int32) (a2 : Int32) : ∃ r σ1 σ2, f_X5_way a1 a2 σ = some (r, σ1) ∧ f_X6_way a1 a2 σ1 = some (r, σ2) ∧ Rl σ2 := by
  have kk : Rl (fb_up σ 29 0 0) := Rl_keep (Keep.up rfl Keep.rfl') hR
  by_cases c1 : 0 ≤ a1 ∧ a1 ≤ 5
  · obtain ⟨i, hi, rfl⟩ := ex_n (c := 5) (by decide) c1.1 c1.2
    rw [X_way σ hi]
    by_cases c : fb_rl 2 i ≤ a2 ∧ a2 ≤ fb_rl 3 i
    · rw [if_pos c]
      refine ⟨_, _, fb_up (fb_up (fb_up σ 18 i a2) 29 0 0) 43 i a2, rfl, ?_, ?_⟩
      · rw [M_way _ hi, if_pos c]
        have e : (fb_up (fb_up σ 18 i a2) 29 0 0).1 43 i = σ.1 18 i := by simp [up_at, hR.2.2.2.2.2.1.1 i (by omega)]
        rw [e]
      · have b1 := t_le.mp c.1
        have b2 := t_le.mp c.2
        obtain ⟨q1, q2, q3, q4, q5, q6, q7, q8⟩ := hR.2.2.2.2.2.1
        have h18 : ∀ j, (fb_up (fb_up (fb_up σ 18 i a2) 29 0 0) 43 i a2).1 18 j = if j = i then a2 else σ.1 18 j := fun j => by simp [up_at]
        refine ⟨R1_c (fun k j hd => by rw [up_ne, up_ne, up_ne] <;> (rintro ⟨rfl, rfl⟩; simp [d1] at hd)) hR.1, R2_c (fun k j hd => by rw [up_ne, up_ne, up_ne] <;> (rintro ⟨rfl, rfl⟩; simp [d2] at hd)) hR.2.1, R3_c (fun k j hd => by rw [up_ne, up_ne, up_ne] <;> (rintro ⟨rfl, rfl⟩; simp [d3] at hd)) hR.2.2.1, R4_c (fun k j hd => by rw [up_ne, up_ne, up_ne] <;> (rintro ⟨rfl, rfl⟩; simp [d4] at hd)) hR.2.2.2.1, R5_c (fun k j hd => by rw [up_ne, up_ne, up_ne] <;> (rintro ⟨rfl, rfl⟩; simp [d5] at hd)) hR.2.2.2.2.1, ⟨fun j hj => ?_, ?_, ?_, ?_, ?_, ?_, ?_, fun j hj => ?_⟩, R7_c (fun k j hd => by rw [up_ne, up_ne, up_ne] <;> (rintro ⟨rfl, rfl⟩; simp [d7] at hd)) hR.2.2.2.2.2.2.1, R8_c (fun k j hd => by rw [up_ne, up_ne, up_ne] <;> (rintro ⟨rfl, rfl⟩; simp [d8] at hd)) hR.2.2.2.2.2.2.2⟩
        · rw [h18]
          have h43 : (fb_up (fb_up (fb_up σ 18 i a2) 29 0 0) 43 i a2).1 43 j = if j = i then a2 else σ.1 43 j := by simp [up_at]
          rw [h43]
          split
          · rfl
          · exact q1 j hj
        · rw [h18]; split
          · next e => subst e; exact ⟨b1, b2⟩
          · exact q2
        · rw [h18]; split
          · next e => subst e; exact ⟨b1, b2⟩
          · exact q3
        · rw [h18]; split
          · next e => subst e; exact ⟨b1, b2⟩
          · exact q4
        · rw [h18]; split
          · next e => subst e; exact ⟨b1, b2⟩
          · exact q5
        · rw [h18]; split
          · next e => subst e; exact ⟨b1, b2⟩
          · exact q6
        · rw [h18]; split
          · next e => subst e; exact ⟨b1, b2⟩
          · exact q7
        · simpa [up_at] using q8 j hj
    · rw [if_neg c]
      refine ⟨-2, σ, fb_up σ 29 0 0, rfl, ?_, kk⟩
      rw [M_way _ hi, if_neg c]
  · refine ⟨-2, σ, fb_up σ 29 0 0, ?_, M_way_bad σ a1 a2 c1, kk⟩
    unfold f_X5_way
    rw [X_within, if_neg c1]
    rfl
