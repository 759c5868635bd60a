theorem sr29 : scr 29 0 = true := rfl
theorem z_0 : (0 : Int32) = 0 := rfl
theorem makeAnew_ok (N : Nat) (hN : 40000 ≤ N) (v : Int32) (σ : fb_S) : ∃ τ, f_X0_makeAnew N v σ = some τ ∧ τ.2 = σ.2 ∧ ∀ a b, τ.1 a b = if a = 4 ∧ b < 6 then 1 else if a = 3 ∧ b < 5 then 1 else if a = 2 ∧ b = 3 then v else σ.1 a b := by
  unfold f_X0_makeAnew
  rw [nm_e_]
  obtain ⟨τ1, e1, e2, e3⟩ := fill_ok 3 N 1 (by decide) (by have : fb_len 3 = 5 := rfl; omega) (fb_up σ 2 3 v)
  obtain ⟨τ2, g1, g2, g3⟩ := fill_ok 4 N 1 (by decide) (by have : fb_len 4 = 6 := rfl; omega) τ1
  refine ⟨τ2, ?_, by rw [g2, e2, up_2], fun a b => ?_⟩
  · rw [e1, Option.bind_some, g1, Option.bind_some]
  · rw [g3, e3, up_at]
    have l3 : fb_len 3 = 5 := rfl
    have l4 : fb_len 4 = 6 := rfl
    rw [l3, l4]
theorem Mspan52 (N : Nat) (w : Int32) : ∀ (n j : Nat) (σ : fb_S), j ≤ 6 → 6 - j < n → ∃ τ, f_X6_span_L52 N n w (nI j) σ = some (w, τ) ∧ ∀ a b, τ.1 a b = if a = 31 ∧ j ≤ b ∧ b < 6 then 1 else σ.1 a b := by
  intro n
  induction n with
  | zero => intro j σ h1 h2; omega
  | succ n ih =>
    intro j σ h1 h2
    unfold f_X6_span_L52
    by_cases hj : j = 6
    · subst hj
      rw [if_pos (by decide)]
      exact ⟨σ, rfl, fun a b => by rw [if_neg (by omega)]⟩
    · rw [if_neg (lc_nle 6 (by omega) (by omega)), ck_t (in_n (by omega) (by omega)), nm_e_, nI_1, cl_n (by omega)]
      obtain ⟨τ, e1, e3⟩ := ih (j + 1) (fb_up σ 31 j 1) (by omega) (by omega)
      refine ⟨τ, e1, fun a b => ?_⟩
      rw [e3, up_at]
      by_cases c1 : a = 31 ∧ j + 1 ≤ b ∧ b < 6
      · rw [if_pos c1, if_pos ⟨c1.1, by omega, c1.2.2⟩]
      · rw [if_neg c1]
        by_cases c2 : a = 31 ∧ b = j
        · rw [if_pos c2, if_pos ⟨c2.1, by omega, by omega⟩]
        · rw [if_neg c2, if_neg (fun q => by omega)]
theorem Mspan32 (N : Nat) (hN : 40000 ≤ N) (w : Int32) : ∀ (n j : Nat) (σ : fb_S), j ≤ 5 → 5 - j < n → ∃ τ, f_X6_span_L32 N n w (nI j) σ = some (w, τ) ∧ ∀ a b, τ.1 a b = if a = 31 ∧ b < 6 then 1 else if a = 30 ∧ j ≤ b ∧ b < 5 then 1 else σ.1 a b := by
  intro n
  induction n with
  | zero => intro j σ h1 h2; omega
  | succ n ih =>
    intro j σ h1 h2
    unfold f_X6_span_L32
    by_cases hj : j = 5
    · subst hj
      rw [if_pos (by decide)]
      obtain ⟨τ, e1, e3⟩ := Mspan52 N w N 0 σ (by omega) (by omega)
      refine ⟨τ, e1, fun a b => ?_⟩
      rw [e3]
      by_cases c1 : a = 31 ∧ b < 6
      · rw [if_pos c1, if_pos ⟨c1.1, by omega, c1.2⟩]
      · rw [if_neg c1, if_neg (fun q => by omega), if_neg (by omega)]
    · rw [if_neg (lc_nle 5 (by omega) (by omega)), ck_t (in_n (by omega) (by omega)), nm_e_, nI_1, cl_n (by omega)]
      obtain ⟨τ, e1, e3⟩ := ih (j + 1) (fb_up σ 30 j 1) (by omega) (by omega)
      refine ⟨τ, e1, fun a b => ?_⟩
      rw [e3, up_at]
      by_cases c0 : a = 31 ∧ b < 6
      · rw [if_pos c0, if_pos c0]
      · rw [if_neg c0, if_neg c0]
        by_cases c1 : a = 30 ∧ j + 1 ≤ b ∧ b < 5
        · rw [if_pos c1, if_pos ⟨c1.1, by omega, c1.2.2⟩]
        · rw [if_neg c1]
          by_cases c2 : a = 30 ∧ b = j
          · rw [if_pos c2, if_pos ⟨c2.1, by omega, by omega⟩]
          · rw [if_neg c2, if_neg (fun q => by omega)]
theorem rg_1_5 {a : Int32} (c : 1 ≤ a ∧ a ≤ 5) : rg a 1 5 := ⟨by have := t_le.mp c.1; rwa [t_lit 1 (by decide)] at this, by have := t_le.mp c.2; rwa [t_lit 5 (by decide)] at this⟩
theorem rg_of {a l h : Int32} (c : l ≤ a ∧ a ≤ h) : rg a l.toInt h.toInt := ⟨t_le.mp c.1, t_le.mp c.2⟩

theorem span_fr {d : Nat → Nat → Bool} {σ τ1 τ2 : fb_S} {v : Int32} (p1 : ∀ a b, τ1.1 a b = if a = 4 ∧ b < 6 then 1 else if a = 3 ∧ b < 5 then 1 else if a = 2 ∧ b = 3 then v else σ.1 a b) (p2 : ∀ a b, τ2.1 a b = if a = 31 ∧ b < 6 then 1 else if a = 30 ∧ 0 ≤ b ∧ b < 5 then 1 else (fb_up (fb_up τ1 29 0 0) 29 1 v).1 a b)
    (h4 : ∀ b, d 4 b = false) (h3 : ∀ b, d 3 b = false) (h2 : d 2 3 = false) (h31 : ∀ b, d 31 b = false) (h30 : ∀ b, d 30 b = false) (h290 : d 29 0 = false) (h291 : d 29 1 = false) : ∀ k j, d k j = true → τ2.1 k j = σ.1 k j := by
  intro k j hd
  rw [p2, if_neg, if_neg, up_ne, up_ne, p1, if_neg, if_neg, if_neg]
  · rintro ⟨rfl, rfl⟩; rw [h2] at hd; cases hd
  · rintro ⟨rfl, -⟩; rw [h3] at hd; cases hd
  · rintro ⟨rfl, -⟩; rw [h4] at hd; cases hd
  · rintro ⟨rfl, rfl⟩; rw [h290] at hd; cases hd
  · rintro ⟨rfl, rfl⟩; rw [h291] at hd; cases hd
  · rintro ⟨rfl, -⟩; rw [h30] at hd; cases hd
  · rintro ⟨rfl, -⟩; rw [h31] at hd; cases hd
theorem st_span (N : Nat) (hN : 40000 ≤ N) (σ : fb_S) (hR : Rl σ) (a1 : Int32) : ∃ r σ1 σ2, f_X5_span N a1 σ = some (r, σ1) ∧ f_X6_span N a1 σ1 = some (r, σ2) ∧ Rl σ2 := by
  unfold f_X5_span f_X6_span
  rw [X_within]
  by_cases c1 : 1 ≤ a1 ∧ a1 ≤ 5
  · obtain ⟨τ1, e1, -, p1⟩ := makeAnew_ok N hN a1 σ
    obtain ⟨τ2, e2, p2⟩ := Mspan32 N hN ((fb_up τ1 29 0 0).1 29 1) N 0 (fb_up (fb_up τ1 29 0 0) 29 1 a1) (by omega) (by omega)
    refine ⟨σ.1 2 3, τ1, τ2, ?_, ?_, ?_⟩
    · rw [if_pos c1, Option.bind_some, if_neg z_1, nm_e_, e1, Option.bind_some]
    · rw [nm_e_, M_in2 a1 1 5 (by decide) (by decide), if_pos c1, Option.bind_some, if_neg z_1, nm_e_, nm_e_]
      have e3 : (fb_up τ1 29 0 0).1 29 1 = σ.1 2 3 := by
        rw [up_ne _ _ (by decide), p1, if_neg (by decide), if_neg (by decide), if_neg (by decide)]
        exact hR.1.2.1
      rw [← e3]
      exact e2
    · refine ⟨?_, R2_c (span_fr p1 p2 (fun _ => rfl) (fun _ => rfl) rfl (fun _ => rfl) (fun _ => rfl) rfl rfl) hR.2.1, R3_c (span_fr p1 p2 (fun _ => rfl) (fun _ => rfl) rfl (fun _ => rfl) (fun _ => rfl) rfl rfl) hR.2.2.1, R4_c (span_fr p1 p2 (fun _ => rfl) (fun _ => rfl) rfl (fun _ => rfl) (fun _ => rfl) rfl rfl) hR.2.2.2.1, R5_c (span_fr p1 p2 (fun _ => rfl) (fun _ => rfl) rfl (fun _ => rfl) (fun _ => rfl) rfl rfl) hR.2.2.2.2.1, R6_c (span_fr p1 p2 (fun _ => rfl) (fun _ => rfl) rfl (fun _ => rfl) (fun _ => rfl) rfl rfl) hR.2.2.2.2.2.1, R7_c (span_fr p1 p2 (fun _ => rfl) (fun _ => rfl) rfl (fun _ => rfl) (fun _ => rfl) rfl rfl) hR.2.2.2.2.2.2.1, R8_c (span_fr p1 p2 (fun _ => rfl) (fun _ => rfl) rfl (fun _ => rfl) (fun _ => rfl) rfl rfl) hR.2.2.2.2.2.2.2⟩
      have q1 : τ2.1 2 3 = a1 := by simp [p2, p1, up_at]
      have q2 : τ2.1 29 1 = a1 := by simp [p2, up_at]
      refine ⟨by rw [q1]; exact rg_1_5 c1, by rw [q1, q2], fun j hj => ?_, fun j hj => ?_⟩
      · have e3 : τ2.1 3 j = 1 := by simp [p2, p1, up_at, hj]
        have e30 : τ2.1 30 j = 1 := by simp [p2, hj]
        rw [e3, e30]
        exact ⟨rfl, by decide, by decide⟩
      · have e3 : τ2.1 4 j = 1 := by simp [p2, p1, up_at, hj]
        have e30 : τ2.1 31 j = 1 := by simp [p2, hj]
        rw [e3, e30]
        exact ⟨rfl, by decide, by decide⟩
  · refine ⟨-2, σ, fb_up σ 29 0 0, ?_, ?_, Rl_keep (Keep.up rfl Keep.rfl') hR⟩
    · rw [if_neg c1]; rfl
    · rw [nm_e_, M_in2 a1 1 5 (by decide) (by decide), if_neg c1]; rfl

theorem st_weight (N : Nat) (hN : 40000 ≤ N) (σ : fb_S) (hR : Rl σ) (a1 : Int32) (a2 : Int32) : ∃ r σ1 σ2, f_X5_weight a1 a2 σ = some (r, σ1) ∧ f_X6_weight a1 a2 σ1 = some (r, σ2) ∧ Rl σ2 := by
  obtain ⟨n1, n2, n3, n4⟩ := hR.1
  unfold f_X5_weight f_X6_weight
  rw [X_within]
  by_cases c1 : 0 ≤ a1 ∧ a1 ≤ σ.1 2 3 - 1
  · rw [if_pos c1, Option.bind_some, if_neg z_1, X_within]
    have t0 : (0 : Int32).toInt = 0 := rfl
    have t1 : (1 : Int32).toInt = 1 := rfl
    have hs : (σ.1 2 3 - 1).toInt = (σ.1 2 3).toInt - 1 := by rw [t_sub] <;> rw [t1] <;> have := n1 <;> unfold rg at this <;> omega
    have b1 := t_le.mp c1.1
    have b2 := t_le.mp c1.2
    rw [hs] at b2
    rw [t0] at b1
    have hi : fb_in a1 5 = true := in_t b1 (by have := n1.2; omega)
    have hlt : a1.toNatClampNeg < 5 := by rw [t_clamp]; have := n1.2; omega
    by_cases c2 : 1 ≤ a2 ∧ a2 ≤ 9
    · rw [if_pos c2, Option.bind_some, if_neg z_1, X_exch (show fb_in a1 (fb_len 3) = true from hi), Option.bind_some]
      refine ⟨_, _, fb_up (fb_up (fb_up σ 3 a1.toNatClampNeg a2) 29 0 0) 30 a1.toNatClampNeg a2, rfl, ?_, ?_⟩
      · have e29 : (fb_up (fb_up σ 3 a1.toNatClampNeg a2) 29 0 0).1 29 1 = σ.1 2 3 := by simp [up_at, n2]
        have e30 : (fb_up (fb_up σ 3 a1.toNatClampNeg a2) 29 0 0).1 30 a1.toNatClampNeg = σ.1 3 a1.toNatClampNeg := by simp [up_at, (n3 _ hlt).1]
        rw [nm_e_, e29, M_in2 a1 0 (σ.1 2 3 - 1) (by decide) rfl, if_pos c1, Option.bind_some, if_neg z_1, M_in2 a2 1 9 (by decide) (by decide), if_pos c2, Option.bind_some, if_neg z_1, ck_t hi, nm_e_, ck_t hi, nm_e_, e30]
      · refine ⟨⟨?_, ?_, fun j hj => ?_, fun j hj => ?_⟩, R2_c (fun k j hd => by rw [up_ne, up_ne, up_ne] <;> (rintro ⟨rfl, rfl⟩; simp [d2] at hd)) hR.2.1, R3_c (fun k j hd => by rw [up_ne, up_ne, up_ne] <;> (rintro ⟨rfl, rfl⟩; simp [d3] at hd)) hR.2.2.1, R4_c (fun k j hd => by rw [up_ne, up_ne, up_ne] <;> (rintro ⟨rfl, rfl⟩; simp [d4] at hd)) hR.2.2.2.1, R5_c (fun k j hd => by rw [up_ne, up_ne, up_ne] <;> (rintro ⟨rfl, rfl⟩; simp [d5] at hd)) hR.2.2.2.2.1, R6_c (fun k j hd => by rw [up_ne, up_ne, up_ne] <;> (rintro ⟨rfl, rfl⟩; simp [d6] at hd)) hR.2.2.2.2.2.1, R7_c (fun k j hd => by rw [up_ne, up_ne, up_ne] <;> (rintro ⟨rfl, rfl⟩; simp [d7] at hd)) hR.2.2.2.2.2.2.1, R8_c (fun k j hd => by rw [up_ne, up_ne, up_ne] <;> (rintro ⟨rfl, rfl⟩; simp [d8] at hd)) hR.2.2.2.2.2.2.2⟩
        · simpa [up_at] using n1
        · simpa [up_at] using n2
        · by_cases e : j = a1.toNatClampNeg
          · subst e
            simp only [up_at]
            simp
            exact rg_of c2
          · simpa [up_at, e] using n3 j hj
        · simpa [up_at] using n4 j hj
    · rw [if_neg c2]
      refine ⟨-2, σ, fb_up σ 29 0 0, rfl, ?_, Rl_keep (Keep.up rfl Keep.rfl') hR⟩
      have e29 : (fb_up σ 29 0 0).1 29 1 = σ.1 2 3 := by simp [up_at, n2]
      rw [nm_e_, e29, M_in2 a1 0 (σ.1 2 3 - 1) (by decide) rfl, if_pos c1, Option.bind_some, if_neg z_1, M_in2 a2 1 9 (by decide) (by decide), if_neg c2]
      rfl
  · rw [if_neg c1]
    refine ⟨-1, σ, fb_up σ 29 0 0, rfl, ?_, Rl_keep (Keep.up rfl Keep.rfl') hR⟩
    have e29 : (fb_up σ 29 0 0).1 29 1 = σ.1 2 3 := by simp [up_at, n2]
    rw [nm_e_, e29, M_in2 a1 0 (σ.1 2 3 - 1) (by decide) rfl, if_neg c1]
    rfl
