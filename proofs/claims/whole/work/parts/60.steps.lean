/-! the start -/
def fb_z0 (σX σM : fb_S) : fb_S := (fun k => if k < 29 then σX.1 k else if k = 50 then σX.1 k else σM.1 k, σX.2)
theorem M_i208 (N : Nat) : ∀ (n j : Nat) (τ : fb_S), j ≤ 4 → 4 - j < n → (∀ i, i < j → τ.1 34 i = 9999) → ∃ τ', f_X6_init_L208 N n (nI j) τ = some τ' ∧ (∀ i, i < 4 → τ'.1 34 i = 9999) ∧ (τ'.1 37 0 = 10 ∧ τ'.1 37 1 = 10 ∧ τ'.1 37 2 = 100 ∧ τ'.1 37 3 = 100) ∧ (τ'.1 43 0 = 4 ∧ τ'.1 43 1 = 20 ∧ τ'.1 43 2 = 10 ∧ τ'.1 43 3 = 10 ∧ τ'.1 43 4 = 999 ∧ τ'.1 43 5 = 1) ∧ ∀ k i, k ≠ 34 → k ≠ 37 → k ≠ 43 → τ'.1 k i = τ.1 k i := by
  intro n
  induction n with
  | zero => intro j τ h1 h2; omega
  | succ n ih =>
    intro j τ h1 h2 h
    unfold f_X6_init_L208
    by_cases c : j = 4
    · subst c
      rw [if_pos (by decide), nm_e_, nm_e_, nm_e_, nm_e_, nm_e_, nm_e_, nm_e_, nm_e_, nm_e_, nm_e_]
      refine ⟨_, rfl, fun i hi => ?_, ⟨?_, ?_, ?_, ?_⟩, ⟨?_, ?_, ?_, ?_, ?_, ?_⟩, fun k i q1 q2 q3 => ?_⟩
      · rw [up_ne _ _ (by omega), up_ne _ _ (by omega), up_ne _ _ (by omega), up_ne _ _ (by omega), up_ne _ _ (by omega), up_ne _ _ (by omega), up_ne _ _ (by omega), up_ne _ _ (by omega), up_ne _ _ (by omega), up_ne _ _ (by omega)]; exact h i hi
      · simp only [up_at]; rfl
      · simp only [up_at]; rfl
      · simp only [up_at]; rfl
      · simp only [up_at]; rfl
      · simp only [up_at]; rfl
      · simp only [up_at]; rfl
      · simp only [up_at]; rfl
      · simp only [up_at]; rfl
      · simp only [up_at]; rfl
      · simp only [up_at]; rfl
      · rw [up_ne _ _ (by omega), up_ne _ _ (by omega), up_ne _ _ (by omega), up_ne _ _ (by omega), up_ne _ _ (by omega), up_ne _ _ (by omega), up_ne _ _ (by omega), up_ne _ _ (by omega), up_ne _ _ (by omega), up_ne _ _ (by omega)]
    · rw [if_neg (lc_nle 4 (by omega) (by omega)), ck_t (in_n (by omega) (by decide)), nm_e_, nI_1, cl_n (by omega)]
      obtain ⟨τ', a1, a2, a3, a4, a5⟩ := ih (j + 1) (fb_up τ 34 j 9999) (by omega) (by omega) (fun i hi => by
        rw [up_at]
        by_cases e : i = j
        · rw [if_pos ⟨rfl, e⟩]
        · rw [if_neg (fun q => e q.2)]; exact h i (by omega))
      exact ⟨τ', a1, a2, a3, a4, fun k i q1 q2 q3 => by rw [a5 k i q1 q2 q3, up_ne _ _ (by omega)]⟩
theorem M_i187 (N : Nat) : ∀ (n j : Nat) (τ : fb_S), j ≤ 6 → 6 - j < n → (∀ i, i < j → τ.1 31 i = 1) → ∃ τ', f_X6_init_L187 N n (nI j) τ = f_X6_init_L208 N N 0 τ' ∧ (∀ i, i < 6 → τ'.1 31 i = 1) ∧ ∀ k i, k ≠ 31 → τ'.1 k i = τ.1 k i := by
  intro n
  induction n with
  | zero => intro j τ h1 h2; omega
  | succ n ih =>
    intro j τ h1 h2 h
    unfold f_X6_init_L187
    by_cases c : j = 6
    · subst c
      rw [if_pos (by decide)]
      exact ⟨τ, rfl, h, fun _ _ _ => rfl⟩
    · rw [if_neg (lc_nle 6 (by omega) (by omega)), ck_t (in_n (by omega) (by decide)), nm_e_, nI_1, cl_n (by omega)]
      obtain ⟨τ', a1, a2, a3⟩ := ih (j + 1) (fb_up τ 31 j 1) (by omega) (by omega) (fun i hi => by
        rw [up_at]
        by_cases e : i = j
        · rw [if_pos ⟨rfl, e⟩]
        · rw [if_neg (fun q => e q.2)]; exact h i (by omega))
      exact ⟨τ', a1, a2, fun k i q1 => by rw [a3 k i q1, up_ne _ _ (by omega)]⟩
theorem M_i167 (N : Nat) : ∀ (n j : Nat) (τ : fb_S), j ≤ 5 → 5 - j < n → (∀ i, i < j → τ.1 30 i = 1) → ∃ τ', f_X6_init_L167 N n (nI j) τ = f_X6_init_L187 N N 0 τ' ∧ (∀ i, i < 5 → τ'.1 30 i = 1) ∧ ∀ k i, k ≠ 30 → τ'.1 k i = τ.1 k i := by
  intro n
  induction n with
  | zero => intro j τ h1 h2; omega
  | succ n ih =>
    intro j τ h1 h2 h
    unfold f_X6_init_L167
    by_cases c : j = 5
    · subst c
      rw [if_pos (by decide)]
      exact ⟨τ, rfl, h, fun _ _ _ => rfl⟩
    · rw [if_neg (lc_nle 5 (by omega) (by omega)), ck_t (in_n (by omega) (by decide)), nm_e_, nI_1, cl_n (by omega)]
      obtain ⟨τ', a1, a2, a3⟩ := ih (j + 1) (fb_up τ 30 j 1) (by omega) (by omega) (fun i hi => by
        rw [up_at]
        by_cases e : i = j
        · rw [if_pos ⟨rfl, e⟩]
        · rw [if_neg (fun q => e q.2)]; exact h i (by omega))
      exact ⟨τ', a1, a2, fun k i q1 => by rw [a3 k i q1, up_ne _ _ (by omega)]⟩
theorem M_init (N : Nat) (hN : 40000 ≤ N) (τ : fb_S) : ∃ τ', f_X6_init N τ = some τ' ∧ (∀ i, i < 5 → τ'.1 30 i = 1) ∧ (∀ i, i < 6 → τ'.1 31 i = 1) ∧ (∀ i, i < 4 → τ'.1 34 i = 9999) ∧ (τ'.1 37 0 = 10 ∧ τ'.1 37 1 = 10 ∧ τ'.1 37 2 = 100 ∧ τ'.1 37 3 = 100) ∧ (τ'.1 43 0 = 4 ∧ τ'.1 43 1 = 20 ∧ τ'.1 43 2 = 10 ∧ τ'.1 43 3 = 10 ∧ τ'.1 43 4 = 999 ∧ τ'.1 43 5 = 1) ∧ ∀ k i, k ≠ 30 → k ≠ 31 → k ≠ 34 → k ≠ 37 → k ≠ 43 → τ'.1 k i = τ.1 k i := by
  obtain ⟨τ1, a1, a2, a3⟩ := M_i167 N N 0 τ (by omega) (by omega) (fun i hi => by omega)
  obtain ⟨τ2, b1, b2, b3⟩ := M_i187 N N 0 τ1 (by omega) (by omega) (fun i hi => by omega)
  obtain ⟨τ3, c1, c2, c3, c4, c5⟩ := M_i208 N N 0 τ2 (by omega) (by omega) (fun i hi => by omega)
  refine ⟨τ3, ?_, fun i hi => ?_, fun i hi => ?_, c2, c3, c4, fun k i q1 q2 q3 q4 q5 => ?_⟩
  · have a1' : f_X6_init N τ = _ := a1
    have b1' : f_X6_init_L187 N N 0 τ1 = _ := b1
    have c1' : f_X6_init_L208 N N 0 τ2 = _ := c1
    rw [a1', b1', c1']
  · rw [c5 30 i (by decide) (by decide) (by decide), b3 30 i (by decide), a2 i hi]
  · rw [c5 31 i (by decide) (by decide) (by decide), b2 i hi]
  · rw [c5 k i q3 q4 q5, b3 k i q2, a3 k i q1]
theorem st_start (N : Nat) (hN : 40000 ≤ N) : ∃ σB σT σM, f_X0_makeAnew N 1 fb_zX0 = some σB ∧ f_X3_findFitting N fb_zX3 = some σT ∧ f_X6_init N fb_zX6 = some σM ∧ Rl (fb_z0 (fb_zX5 σB σT) σM) := by
  obtain ⟨σB, b1, -, b2⟩ := makeAnew_ok N hN 1 fb_zX0
  obtain ⟨σT, t1, t2, t3⟩ := X_find N hN (σ := fb_zX3) (t := 0) (by omega) rfl (fun j hj => by omega)
  obtain ⟨σM, m1, m30, m31, m34, ⟨m370, m371, m372, m373⟩, ⟨w0, w1, w2, w3, w4, w5⟩, mf⟩ := M_init N hN fb_zX6
  refine ⟨σB, σT, σM, b1, t1, m1, ?_⟩
  have o3 : ∀ j, j < 5 → σB.1 3 j = 1 := fun j hj => by rw [b2, if_neg (by omega), if_pos ⟨rfl, hj⟩]
  have o4 : ∀ j, j < 6 → σB.1 4 j = 1 := fun j hj => by rw [b2, if_pos ⟨rfl, hj⟩]
  have o2 : σB.1 2 3 = 1 := by rw [b2, if_neg (by omega), if_neg (by omega), if_pos ⟨rfl, rfl⟩]
  have z : ∀ k i, k ≠ 29 → k ≠ 30 → k ≠ 31 → k ≠ 34 → k ≠ 37 → k ≠ 43 → σM.1 k i = 0 := fun k i q0 q1 q2 q3 q4 q5 => by
    rw [mf k i q1 q2 q3 q4 q5]
    show (if k = 29 then (upd (fun _ => 0) 1 1 : Nat → Int32) else fun _ => 0) i = 0
    rw [if_neg q0]
  have y : ∀ i, σM.1 29 i = (upd (fun _ => 0) 1 1 : Nat → Int32) i := fun i => mf 29 i (by decide) (by decide) (by decide) (by decide) (by decide)
  have r0 : ∀ a b : Int, a ≤ 0 → 0 ≤ b → rg (0 : Int32) a b := fun a b h1 h2 => ⟨by have e : (0 : Int32).toInt = 0 := rfl; omega, by have e : (0 : Int32).toInt = 0 := rfl; omega⟩
  have e6 : σT.1 22 6 = 0 := t2 22 6 (by decide) (by omega)
  refine ⟨⟨?_, ?_, fun j hj => ?_, fun j hj => ?_⟩, fun j hj => ⟨⟨?_, ?_⟩, ⟨?_, ?_⟩, ⟨?_, ?_⟩, ⟨?_, ?_⟩⟩, ⟨fun j hj => ?_, ?_, ?_, ?_, ?_⟩, ⟨?_, ?_, fun j hj => ⟨⟨?_, ?_⟩, ⟨?_, ?_⟩, ⟨?_, ?_⟩, ⟨?_, ?_⟩, fun _ => ?_⟩⟩, ?_, ⟨fun j hj => ?_, ?_, ?_, ?_, ?_, ?_, ?_, fun j hj => ⟨?_, ?_⟩⟩, ⟨?_, ?_, fun j hj => ?_⟩, ?_⟩
  · show rg (σB.1 2 3) 1 5
    rw [o2]; exact ⟨by decide, by decide⟩
  · show σM.1 29 1 = σB.1 2 3
    rw [o2, y]; rfl
  · show σM.1 30 j = σB.1 3 j ∧ rg (σB.1 3 j) 1 9
    rw [o3 j hj, m30 j hj]; exact ⟨rfl, by decide, by decide⟩
  · show σM.1 31 j = σB.1 4 j ∧ rg (σB.1 4 j) 0 99
    rw [o4 j hj, m31 j hj]; exact ⟨rfl, by decide, by decide⟩
  · show σM.1 32 j = 0
    exact z 32 j (by decide) (by decide) (by decide) (by decide) (by decide) (by decide)
  · exact r0 _ _ (by omega) (by omega)
  · show σM.1 33 j = 0
    exact z 33 j (by decide) (by decide) (by decide) (by decide) (by decide) (by decide)
  · exact r0 _ _ (by omega) (by omega)
  · show σM.1 34 j = (upd (upd (upd (upd (fun _ => 0) 0 9999) 1 9999) 2 9999) 3 9999 : Nat → Int32) j
    rw [m34 j hj]
    have : j = 0 ∨ j = 1 ∨ j = 2 ∨ j = 3 := by omega
    rcases this with rfl | rfl | rfl | rfl <;> rfl
  · show rg ((upd (upd (upd (upd (fun _ => 0) 0 9999) 1 9999) 2 9999) 3 9999 : Nat → Int32) j) 0 9999
    have : j = 0 ∨ j = 1 ∨ j = 2 ∨ j = 3 := by omega
    rcases this with rfl | rfl | rfl | rfl <;> exact ⟨by decide, by decide⟩
  · show σM.1 35 j = 0
    exact z 35 j (by decide) (by decide) (by decide) (by decide) (by decide) (by decide)
  · exact r0 _ _ (by omega) (by omega)
  · show σM.1 37 j = (upd (upd (upd (upd (fun _ => 0) 0 10) 1 10) 2 100) 3 100 : Nat → Int32) j
    have : j = 0 ∨ j = 1 ∨ j = 2 ∨ j = 3 := by omega
    rcases this with rfl | rfl | rfl | rfl
    · rw [m370]; rfl
    · rw [m371]; rfl
    · rw [m372]; rfl
    · rw [m373]; rfl
  · show rg (10 : Int32) 1 500; exact ⟨by decide, by decide⟩
  · show rg (10 : Int32) 1 9999; exact ⟨by decide, by decide⟩
  · show rg (100 : Int32) 0 999; exact ⟨by decide, by decide⟩
  · show rg (100 : Int32) 0 9999; exact ⟨by decide, by decide⟩
  · exact r0 _ _ (by omega) (by omega)
  · show σM.1 29 11 = 0
    rw [y]; rfl
  · show σM.1 38 j = 0
    exact z 38 j (by decide) (by decide) (by decide) (by decide) (by decide) (by decide)
  · exact r0 _ _ (by omega) (by omega)
  · show σM.1 39 j = 0
    exact z 39 j (by decide) (by decide) (by decide) (by decide) (by decide) (by decide)
  · exact r0 _ _ (by omega) (by omega)
  · show σM.1 40 j = 0
    exact z 40 j (by decide) (by decide) (by decide) (by decide) (by decide) (by decide)
  · exact r0 _ _ (by omega) (by omega)
  · show σM.1 41 j = 0
    exact z 41 j (by decide) (by decide) (by decide) (by decide) (by decide) (by decide)
  · exact r0 _ _ (by omega) (by omega)
  · rfl
  · exact Or.inl rfl
  · show σM.1 43 j = (upd (upd (upd (upd (upd (upd (fun _ => 0) 0 4) 1 20) 2 10) 3 10) 4 999) 5 1 : Nat → Int32) j
    have : j = 0 ∨ j = 1 ∨ j = 2 ∨ j = 3 ∨ j = 4 ∨ j = 5 := by omega
    rcases this with rfl | rfl | rfl | rfl | rfl | rfl
    · rw [w0]; rfl
    · rw [w1]; rfl
    · rw [w2]; rfl
    · rw [w3]; rfl
    · rw [w4]; rfl
    · rw [w5]; rfl
  · show rg (4 : Int32) 1 8; exact ⟨by decide, by decide⟩
  · show rg (20 : Int32) 1 99; exact ⟨by decide, by decide⟩
  · show rg (10 : Int32) 1 99; exact ⟨by decide, by decide⟩
  · show rg (10 : Int32) 0 99; exact ⟨by decide, by decide⟩
  · show rg (999 : Int32) 0 999; exact ⟨by decide, by decide⟩
  · show rg (1 : Int32) 0 9; exact ⟨by decide, by decide⟩
  · show σM.1 44 j = 0
    exact z 44 j (by decide) (by decide) (by decide) (by decide) (by decide) (by decide)
  · exact r0 _ _ (by omega) (by omega)
  · show rg (σT.1 22 6) 0 20
    rw [e6]; exact r0 _ _ (by omega) (by omega)
  · show σM.1 29 30 = σT.1 22 6
    rw [e6, y]; rfl
  · have hj' : (j : Int) < (σT.1 22 6).toInt := hj
    rw [e6] at hj'
    exact absurd hj' (by have e : (0 : Int32).toInt = 0 := rfl; omega)
  · refine R8_c (σ := σT) (fun k j hd => ?_) t3
    have hk : k = 22 ∨ k = 23 ∨ k = 24 ∨ k = 25 ∨ k = 26 := by
      simp only [d8, Bool.or_eq_true, Bool.and_eq_true, beq_iff_eq] at hd; omega
    rcases hk with rfl | rfl | rfl | rfl | rfl <;> rfl
