theorem Tn_of {σ : fb_S} (hR : Rl σ) : ∃ z, Tn σ.1 z := by
  obtain ⟨n1, n2, n3, n4⟩ := hR.1
  obtain ⟨z, hz, e⟩ := rgn 5 (by decide) ⟨by have := n1.1; omega, n1.2⟩
  refine ⟨z, e, ?_, hz, fun j hj => (n3 j hj).2, fun j hj => (n4 j hj).2⟩
  have := n1.1
  rw [e, t_n (by omega)] at this
  omega
/-- of a state that differs in nothing that lasts -/
theorem M_rowR (N : Nat) (hN : 40000 ≤ N) {σ : fb_S} (hR : Rl σ) {z t : Nat} (h : Tn σ.1 z) (ht : t ≤ 401) (lst : Int32) {τ : fb_S} (hk : Keep σ τ) : f_X6_row N (nI t) lst τ = some (if lst = 0 then lN (cnt_ (mi (σ.1 4) (σ.1 3) t) z) else mi (σ.1 4) (σ.1 3) t z) := by
  obtain ⟨n1, n2, n3, n4⟩ := hR.1
  refine M_row' N hN h ht lst τ ?_ (fun j hj => ?_) (fun j hj => ?_)
  · rw [hk 29 1 rfl, n2]; exact h.1
  · rw [hk 30 j rfl]; exact (n3 j hj).1
  · rw [hk 31 j rfl]; exact (n4 j hj).1
theorem Keep.of1 {σ τ : fb_S} (h : τ.1 = σ.1) : Keep σ τ := fun k j _ => by rw [h]
theorem st_below (N : Nat) (hN : 40000 ≤ N) (σ : fb_S) (hR : Rl σ) (a1 : Int32) : ∃ r σ1 σ2, f_X5_below N a1 σ = some (r, σ1) ∧ f_X6_below N a1 σ1 = some (r, σ2) ∧ Rl σ2 := by
  unfold f_X5_below f_X6_below
  rw [X_within]
  by_cases c1 : 0 ≤ a1 ∧ a1 ≤ 400
  · obtain ⟨t, ht, rfl⟩ := ex_n (c := 400) (by decide) c1.1 c1.2
    obtain ⟨z, hz⟩ := Tn_of hR
    obtain ⟨τ, e1, e2⟩ := X_tones N hN hz (show t ≤ 401 by omega) σ rfl
    have hk : Keep σ (fb_up τ 29 0 0) := Keep.up rfl (Keep.of1 e2)
    refine ⟨nI (cnt_ (mi (σ.1 4) (σ.1 3) t) z), τ, fb_up τ 29 0 0, ?_, ?_, Rl_keep hk hR⟩
    · rw [if_pos c1, Option.bind_some, if_neg z_1, e1, Option.bind_some]
    · rw [nm_e_, M_in2 (nI t) 0 400 (by decide) (by decide), if_pos c1, Option.bind_some, if_neg z_1, M_rowR N hN hR hz (by omega) 0 hk, Option.bind_some, if_pos rfl, lN_i]
  · rw [if_neg c1]
    refine ⟨-2, σ, fb_up σ 29 0 0, rfl, ?_, Rl_keep (Keep.up rfl Keep.rfl') hR⟩
    rw [nm_e_, M_in2 a1 0 400 (by decide) (by decide), if_neg c1]
    rfl
theorem st_isTone (N : Nat) (hN : 40000 ≤ N) (σ : fb_S) (hR : Rl σ) (a1 : Int32) : ∃ r σ1 σ2, f_X5_isTone N a1 σ = some (r, σ1) ∧ f_X6_isTone N a1 σ1 = some (r, σ2) ∧ Rl σ2 := by
  unfold f_X5_isTone f_X6_isTone
  rw [X_within]
  by_cases c1 : 0 ≤ a1 ∧ a1 ≤ 400
  · obtain ⟨t, ht, rfl⟩ := ex_n (c := 400) (by decide) c1.1 c1.2
    obtain ⟨z, hz⟩ := Tn_of hR
    obtain ⟨τ, e1, e2, e3⟩ := X_minors N hN hz (show t ≤ 401 by omega) σ rfl
    have hk : Keep σ (fb_up τ 29 0 0) := Keep.up rfl (Keep.of1 e2)
    have hz5 := hz.2.2.1
    refine ⟨if mi (σ.1 4) (σ.1 3) t z = 0 then 1 else 0, τ, fb_up τ 29 0 0, ?_, ?_, Rl_keep hk hR⟩
    · rw [if_pos c1, Option.bind_some, if_neg z_1]
      unfold f_X0_hasTone
      have e4 : τ.1 2 3 = nI z := by rw [e2]; exact hz.1
      rw [e1, Option.bind_some, e4, ck_t (in_n (by omega) (by decide)), cl_n (by omega), e3 z (Nat.le_refl _)]
      by_cases e0 : mi (σ.1 4) (σ.1 3) t z = 0
      · rw [if_pos ((lgc_eq0 _ _).mpr e0), if_pos e0]; rfl
      · rw [if_neg (fun q => e0 ((lgc_eq0 _ _).mp q)), if_neg e0]; rfl
    · rw [nm_e_, M_in2 (nI t) 0 400 (by decide) (by decide), if_pos c1, Option.bind_some, if_neg z_1, M_rowR N hN hR hz (by omega) 1 hk, Option.bind_some, if_neg z_1]
      by_cases e0 : mi (σ.1 4) (σ.1 3) t z = 0
      · rw [if_pos ((lgc_eq0 _ _).mpr e0), if_pos e0]
      · rw [if_neg (fun q => e0 ((lgc_eq0 _ _).mp q)), if_neg e0]
  · rw [if_neg c1]
    refine ⟨-2, σ, fb_up σ 29 0 0, rfl, ?_, Rl_keep (Keep.up rfl Keep.rfl') hR⟩
    rw [nm_e_, M_in2 a1 0 400 (by decide) (by decide), if_neg c1]
    rfl
/-- the greatest whole number that is no more than tone k, found from u on -/
theorem tone_loops (N : Nat) (hN : 40000 ≤ N) {σ : fb_S} (hR : Rl σ) {z : Nat} (hz : Tn σ.1 z) (v1 : Int32) {τm : fb_S} (hk : Keep σ τm) : ∀ (n u : Nat) (τ : fb_S), u ≤ 400 → 400 - u < n → τ.1 = σ.1 → ∃ r τ', f_X0_wholeTone_L4 N n v1 (nI u) (nI (u + 1)) τ = some (r, τ') ∧ τ'.1 = σ.1 ∧ f_X6_tone_L25 N n v1 (nI u) τm = some (r, τm) := by
  intro n
  induction n with
  | zero => intro u τ h1 h2; omega
  | succ n ih =>
    intro u τ h1 h2 hs
    unfold f_X0_wholeTone_L4 f_X6_tone_L25
    by_cases hu : u = 400
    · subst hu
      rw [if_pos (by decide), if_pos (by decide)]
      exact ⟨_, τ, rfl, hs, rfl⟩
    · rw [if_neg (lc_nlt 400 (by omega) (by omega)), if_neg (lc_nle 400 (by omega) (by omega))]
      obtain ⟨τ1, e1, e2⟩ := X_tones N hN hz (show u + 1 ≤ 401 by omega) τ hs
      rw [e1, Option.bind_some]
      simp only [nI_1]
      rw [M_rowR N hN hR hz (t := u + 1) (by omega) 0 hk, Option.bind_some, if_pos rfl]
      have hc := cnt_le (mi (σ.1 4) (σ.1 3) (u + 1)) z
      have hz5 := hz.2.2.1
      have key : (0 < lg_cmp (lN (cnt_ (mi (σ.1 4) (σ.1 3) (u + 1)) z)) v1.toInt64) ↔ v1 < nI (cnt_ (mi (σ.1 4) (σ.1 3) (u + 1)) z) := by
        rw [lg_cmp_gt, ← nI_l (by omega), Int32.toInt64_lt]
      by_cases c : v1 < nI (cnt_ (mi (σ.1 4) (σ.1 3) (u + 1)) z)
      · rw [if_pos c, if_pos (key.mpr c)]
        exact ⟨_, τ1, rfl, e2, rfl⟩
      · rw [if_neg c, if_neg (fun q => c (key.mp q))]
        exact ih (u + 1) τ1 (by omega) (by omega) e2
theorem st_tone (N : Nat) (hN : 40000 ≤ N) (σ : fb_S) (hR : Rl σ) (a1 : Int32) : ∃ r σ1 σ2, f_X5_tone N a1 σ = some (r, σ1) ∧ f_X6_tone N a1 σ1 = some (r, σ2) ∧ Rl σ2 := by
  unfold f_X5_tone f_X6_tone
  rw [X_within]
  have n2 := hR.1.2.1
  by_cases c1 : 0 ≤ a1 ∧ a1 ≤ σ.1 2 3 - 1
  · obtain ⟨z, hz⟩ := Tn_of hR
    -- the state behind the first loop is not known yet: the reference's loop does not depend on it
    obtain ⟨r, τ, e1, e2, -⟩ := tone_loops N hN hR hz a1 (Keep.rfl' (σ := σ)) N 0 σ (by omega) (by omega) rfl
    have hk : Keep σ (fb_up τ 29 0 0) := Keep.up rfl (Keep.of1 e2)
    obtain ⟨r', τ', e1', -, e3⟩ := tone_loops N hN hR hz a1 hk N 0 σ (by omega) (by omega) rfl
    have er : r' = r := by
      rw [e1] at e1'
      exact (congrArg Prod.fst (Option.some.inj e1')).symm
    rw [er] at e3
    refine ⟨r, τ, fb_up τ 29 0 0, ?_, ?_, Rl_keep hk hR⟩
    · rw [if_pos c1, Option.bind_some, if_neg z_1]
      unfold f_X0_wholeTone
      have e1 : f_X0_wholeTone_L4 N N a1 0 1 σ = some (r, τ) := e1
      rw [e1, Option.bind_some]
    · have e29 : (fb_up τ 29 0 0).1 29 1 = σ.1 2 3 := by rw [hk 29 1 rfl, n2]
      rw [nm_e_, e29, M_in2 a1 0 (σ.1 2 3 - 1) (by decide) rfl, if_pos c1, Option.bind_some, if_neg z_1]
      exact e3
  · rw [if_neg c1]
    refine ⟨-1, σ, fb_up σ 29 0 0, rfl, ?_, Rl_keep (Keep.up rfl Keep.rfl') hR⟩
    have e29 : (fb_up σ 29 0 0).1 29 1 = σ.1 2 3 := by simp [up_at, n2]
    rw [nm_e_, e29, M_in2 a1 0 (σ.1 2 3 - 1) (by decide) rfl, if_neg c1]
    rfl
