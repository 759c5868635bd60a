def DM (s : Dy) (t : Nat) (σ τ : fb_S) : Prop := Keep σ τ ∧ (τ.1 37 0).toInt + (τ.1 29 9).toInt = dmp σ ∧ Row τ 45 8 s.1 ∧ Row τ 46 t s.2.1 ∧ τ.1 29 25 = nI s.2.2.1 ∧ τ.1 29 26 = nI s.2.2.2.1 ∧ τ.1 29 27 = nI s.2.2.2.2.1 ∧ τ.1 29 28 = nI s.2.2.2.2.2.1 ∧ τ.1 29 29 = nI s.2.2.2.2.2.2 ∧ ∀ j, 1 ≤ j → j < 4 → τ.1 36 j = 0
theorem M_ways {σ τ : fb_S} (hR : Rl σ) (hk : Keep σ τ) {j : Nat} (hj : j < 6) : τ.1 43 j = σ.1 18 j := by rw [hk 43 j rfl]; exact hR.2.2.2.2.2.1.1 j hj
theorem M_L412 (N : Nat) (hN : 40000 ≤ N) (k87 : Int32 → Int32 → Int32 → Int32 → fb_S → Option fb_S) (v1 v2 v3 : Int32) {σ : fb_S} (hR : Rl σ) {t h sw wo : Nat} (fu : Int32) (ht : t < 60) (hh : h ≤ 999) (hsw : sw ≤ 9999) (hwo : wo ≤ 9999) {τ : fb_S} (hk : Keep σ τ) (hd : (τ.1 37 0).toInt + (τ.1 29 9).toInt = dmp σ) (e46 : τ.1 46 t = nI h) (e27 : τ.1 29 27 = nI sw) (e28 : τ.1 29 28 = nI wo) (e36 : ∀ j, 1 ≤ j → j < 4 → τ.1 36 j = 0) : f_X6_live_L412 N k87 v1 v2 v3 (nI t) fu τ = k87 v1 v2 v3 (nI (t + 1)) (fb_up (fb_up (fb_up (fb_up τ 29 29 fu) 36 0 (nI h)) 29 27 (nI ((DP σ).2.2 h sw))) 29 28 (nI (max wo ((DP σ).2.2 h sw)))) := by
  unfold f_X6_live_L412
  have hin : fb_in (nI t) 60 = true := in_n ht (by decide)
  rw [nm_e_, ck_t hin, nm_e_, cl_n (by omega), up_ne _ _ (by omega : ¬ (46 = 29 ∧ t = 29)), e46]
  have hb := dmp_b σ hR
  have hW := Wr0 hR hh
  have hR2 := hR.2.1
  have hm : Md (σ.1 7) (σ.1 8) (σ.1 9) (cr0 h) (dmp σ) (fb_up (fb_up τ 29 29 fu) 36 0 (nI h)) := by
    refine ⟨fun j hj => ⟨?_, ?_, ?_, ?_⟩, ?_⟩
    · rw [up_ne _ _ (by omega), up_ne _ _ (by omega), hk 32 j rfl]; exact (hR2 j hj).1.1
    · rw [up_ne _ _ (by omega), up_ne _ _ (by omega), hk 33 j rfl]; exact (hR2 j hj).2.1.1
    · rw [up_ne _ _ (by omega), up_ne _ _ (by omega), hk 34 j rfl]; exact (hR2 j hj).2.2.1.1
    · unfold cr0
      by_cases c : j = 0
      · rw [if_pos c, c, up_eq]
      · rw [if_neg c, up_ne _ _ (by omega), up_ne _ _ (by omega)]; exact e36 j (by omega) hj
    · rw [up_ne _ _ (by omega), up_ne _ _ (by omega), up_ne _ _ (by omega), up_ne _ _ (by omega)]; exact hd
  rw [up_ne _ _ (by omega : ¬ (29 = 36 ∧ 27 = 0)), up_ne _ _ (by omega : ¬ (29 = 29 ∧ 27 = 29)), e27, M_beat N hN hm hW (by omega) (by omega) hsw, Option.bind_some, nm_e_]
  have hle := stp_le (σ.1 7) (σ.1 8) (σ.1 9) (cr0 h) (dmp σ) sw
  have eb : (DP σ).2.2 h sw = stp (σ.1 7) (σ.1 8) (σ.1 9) (cr0 h) (dmp σ) sw := rfl
  rw [← eb] at hle ⊢
  have e28' : (fb_up (fb_up (fb_up τ 29 29 fu) 36 0 (nI h)) 29 27 (nI ((DP σ).2.2 h sw))).1 29 28 = nI wo := by
    rw [up_ne _ _ (by omega), up_ne _ _ (by omega), up_ne _ _ (by omega), e28]
  rw [up_eq, e28', nI_1]
  by_cases c : (DP σ).2.2 h sw ≤ wo
  · rw [if_pos (nI_le c (by omega)), nm_e_, show max wo ((DP σ).2.2 h sw) = wo by omega]
  · rw [if_neg (nI_ge (by omega) (by omega)), nm_e_, show max wo ((DP σ).2.2 h sw) = (DP σ).2.2 h sw by omega]
theorem M_days (N : Nat) (hN : 40000 ≤ N) {σ : fb_S} (hR : Rl σ) {m mk : Nat} (hm : m ≤ 60) (hmk : mk ≤ 1000) : ∀ (n t : Nat) (τ : fb_S), t ≤ m → m - t < n → DM (dys (DP σ) mk t) t σ τ → ∃ τ', f_X6_live_L87 N n (nI m) (nI mk) (nI ((DP σ).1 0 - 1)) (nI t) τ = some τ' ∧ DM (dys (DP σ) mk m) m σ τ' := by
  have hP := PX_q hR
  obtain ⟨x0, x1, x2, x3, x5, x6, xa⟩ := PX_p hR
  intro n
  induction n with
  | zero => intro t τ h1 h2; omega
  | succ n ih =>
    intro t τ ht hn hD
    have hI := dys_inv hP mk t (by omega)
    obtain ⟨i1, i2, i3, i4, i5, i6, i7⟩ := id hI
    obtain ⟨dk, dd, d45, d46, d25, d26, d27, d28, d29, d36⟩ := id hD
    unfold f_X6_live_L87
    by_cases c1 : t = m
    · rw [if_pos (nI_le (by omega) (by omega))]
      subst c1
      exact ⟨τ, rfl, hD⟩
    · have hin : fb_in (nI t) 60 = true := in_n (by omega) (by decide)
      have e44 : τ.1 44 t = nI ((DP σ).2.1 t) := by rw [dk 44 t rfl, (hR.2.2.2.2.2.1.2.2.2.2.2.2.2 t (by omega)).1, xa t (by omega)]
      rw [if_neg (nI_ge (by omega) (by omega)), ck_t hin, nm_e_, cl_n (by omega), d26, e44, nI_add]
      generalize hu : fb_up τ 29 26 (nI ((dys (DP σ) mk t).2.2.2.1 + (DP σ).2.1 t)) = τ1
      have u0 : ∀ k j, ¬ (k = 29 ∧ j = 26) → τ1.1 k j = τ.1 k j := fun k j hk => by rw [← hu, up_ne _ _ hk]
      have u2 : τ1.1 29 26 = nI (pqu (DP σ) (dys (DP σ) mk t) t) := by rw [← hu, up_eq]; rfl
      have k1 : Keep σ τ1 := by rw [← hu]; exact Keep.up rfl dk
      obtain ⟨τ2, g1, g2, g3, g4⟩ := M_go N hN (f_X6_live_L87 N n) (nI m) (nI mk) (nI t) hP hI (by omega) (τ := τ1) (by rw [M_ways hR k1 (by decide), x1]) (by rw [M_ways hR k1 (by decide), x2]) (fun j hj => by rw [u0 45 j (by omega)]; exact d45 j hj) (by rw [u0 29 25 (by omega), d25])
      have k2 : Keep σ τ2 := fun k j h => by
        by_cases c : k = 45
        · subst c; cases h
        · by_cases c2 : k = 29 ∧ j = 25
          · obtain ⟨rfl, rfl⟩ := c2; cases h
          · rw [g4 k j c c2]; exact k1 k j h
      rw [g1, M_known N hN _ _ _ _ hP (by omega : t < 60) (s := dys (DP σ) mk t) (by rw [M_ways hR k2 (by decide), x0]) (by rw [M_ways hR k2 (by decide), x5]) g2 (fun j hj => by rw [g4 46 j (by decide) (by omega), u0 46 j (by omega)]; exact d46 j hj)]
      obtain ⟨o', qu', τ3, m1, m2, m3, m4, m5, m6, m7⟩ := M_let N (f_X6_live_L87 N n) (nI m) (nI ((DP σ).1 0 - 1)) (nI t) hP (by omega : t < 60) hmk hI (τ := τ2) (by rw [M_ways hR k2 (by decide), x1]) (by rw [M_ways hR k2 (by decide), x3]) (by rw [g4 29 26 (by decide) (by omega), u2]) g2
      have k3 : Keep σ τ3 := fun k j h => by
        by_cases c : k = 45
        · subst c; cases h
        · by_cases c2 : k = 29 ∧ j = 26
          · obtain ⟨rfl, rfl⟩ := c2; cases h
          · rw [m7 k j c c2]; exact k2 k j h
      have w : ∀ k j, k ≠ 45 → ¬ (k = 29 ∧ (j = 25 ∨ j = 26)) → τ3.1 k j = τ.1 k j := fun k j h1 h2 => by rw [m7 k j h1 (by omega), g4 k j h1 (by omega), u0 k j (by omega)]
      have hsum := osum792 hP m2
      have p0 := hP.1
      have hb := hP.2.2.2.2.2.2.2 (osum o' ((DP σ).1 0)) (dys (DP σ) mk t).2.2.2.2.1
      rw [m4]
      unfold f_X6_live_L372
      rw [M_onBridge N hN p0.2 (by rw [M_ways hR k3 (by decide), x0]) m5, Option.bind_some, ck_t hin, nm_e_, ck_t hin, ck_t hin, cl_n (by omega)]
      generalize hv : fb_up τ3 46 t (nI (osum o' ((DP σ).1 0))) = τ4
      have k4 : Keep σ τ4 := by rw [← hv]; exact Keep.up rfl k3
      have v0 : ∀ k j, k ≠ 46 → τ4.1 k j = τ3.1 k j := fun k j h => by rw [← hv, up_ne _ _ (by omega)]
      have v1 : τ4.1 46 t = nI (osum o' ((DP σ).1 0)) := by rw [← hv, up_eq]
      have v2 : Row τ4 46 (t + 1) (up1 (dys (DP σ) mk t).2.1 t (osum o' ((DP σ).1 0))) := by
        rw [← hv]
        intro j hj
        rw [up_at]
        by_cases e : j = t
        · rw [if_pos ⟨rfl, e⟩, e, up1_eq]
        · rw [if_neg (fun q => e q.2), up1_ne _ _ e, w 46 j (by decide) (by omega)]; exact d46 j (by omega)
      have e29 : τ4.1 29 29 = nI (dys (DP σ) mk t).2.2.2.2.2.2 := by rw [v0 29 29 (by decide), w 29 29 (by decide) (by omega), d29]
      have L := fun fu => M_L412 N hN (f_X6_live_L87 N n) (nI m) (nI mk) (nI ((DP σ).1 0 - 1)) hR fu (by omega : t < 60) (by omega : osum o' ((DP σ).1 0) ≤ 999) i5 i6 k4 (by rw [v0 37 0 (by decide), v0 29 9 (by decide), w 37 0 (by decide) (by omega), w 29 9 (by decide) (by omega)]; exact dd) v1 (by rw [v0 29 27 (by decide), w 29 27 (by decide) (by omega), d27]) (by rw [v0 29 28 (by decide), w 29 28 (by decide) (by omega), d28]) (fun j h1 h2 => by rw [v0 36 j (by decide), w 36 j (by decide) (by omega)]; exact d36 j h1 h2)
      rw [v1, e29]
      have fin : ∀ fu, fu = nI (max (dys (DP σ) mk t).2.2.2.2.2.2 (osum o' ((DP σ).1 0))) → ∃ τ', f_X6_live_L412 N (f_X6_live_L87 N n) (nI m) (nI mk) (nI ((DP σ).1 0 - 1)) (nI t) fu τ4 = some τ' ∧ DM (dys (DP σ) mk m) m σ τ' := by
        intro fu hfu
        rw [L fu]
        refine ih (t + 1) _ (by omega) (by omega) ?_
        show DM (min1 (DP σ) mk (dys (DP σ) mk t) t) (t + 1) σ _
        rw [m1]
        refine ⟨Keep.up rfl (Keep.up rfl (Keep.up rfl (Keep.up rfl k4))), ?_, ?_, ?_, ?_, ?_, ?_, ?_, ?_, fun j h1 h2 => ?_⟩
        · rw [up_ne _ _ (by omega), up_ne _ _ (by omega), up_ne _ _ (by omega), up_ne _ _ (by omega), up_ne _ _ (by omega), up_ne _ _ (by omega), up_ne _ _ (by omega), up_ne _ _ (by omega), v0 37 0 (by decide), v0 29 9 (by decide), w 37 0 (by decide) (by omega), w 29 9 (by decide) (by omega)]; exact dd
        · refine Row_ne (Row_ne (Row_ne (Row_ne (fun j hj => ?_) (by decide) _ _) (by decide) _ _) (by decide) _ _) (by decide) _ _
          rw [v0 45 j (by decide)]; exact m5 j hj
        · exact Row_ne (Row_ne (Row_ne (Row_ne v2 (by decide) _ _) (by decide) _ _) (by decide) _ _) (by decide) _ _
        · rw [up_ne _ _ (by omega), up_ne _ _ (by omega), up_ne _ _ (by omega), up_ne _ _ (by omega), v0 29 25 (by decide), m7 29 25 (by decide) (by omega)]; exact g3
        · rw [up_ne _ _ (by omega), up_ne _ _ (by omega), up_ne _ _ (by omega), up_ne _ _ (by omega), v0 29 26 (by decide)]; exact m6
        · rw [up_ne _ _ (by omega), up_eq]; rfl
        · rw [up_eq]; rfl
        · rw [up_ne _ _ (by omega), up_ne _ _ (by omega), up_ne _ _ (by omega), up_eq, hfu]; rfl
        · rw [up_ne _ _ (by omega), up_ne _ _ (by omega), up_ne _ _ (by omega), up_ne _ _ (by omega), v0 36 j (by decide), w 36 j (by decide) (by omega)]; exact d36 j h1 h2
      by_cases c : osum o' ((DP σ).1 0) ≤ (dys (DP σ) mk t).2.2.2.2.2.2
      · rw [if_pos (nI_le c (by omega))]
        exact fin _ (by congr 1; omega)
      · rw [if_neg (nI_ge (by omega) (by omega))]
        exact fin _ (by congr 1; omega)
theorem M_L57 (N : Nat) (v1 v2 : Int32) : ∀ (n j : Nat) (τ : fb_S), j ≤ 4 → 4 - j < n → (∀ i, i < j → τ.1 36 i = 0) → ∃ τ', f_X6_live_L57 N n v1 v2 (nI j) τ = f_X6_live_L87 N N v1 v2 (τ'.1 43 0 - 1) 0 τ' ∧ (∀ i, i < 4 → τ'.1 36 i = 0) ∧ ∀ k i, k ≠ 36 → τ'.1 k i = τ.1 k i := by
  intro n
  induction n with
  | zero => intro j τ h1 h2; omega
  | succ n ih =>
    intro j τ h1 h2 h
    unfold f_X6_live_L57
    by_cases c : j = 4
    · subst c
      rw [if_pos (by decide), nm_e_]
      exact ⟨τ, rfl, h, fun _ _ _ => rfl⟩
    · rw [if_neg (lc_nle 4 (by omega) (by omega)), ck_t (in_n (by omega) (by decide)), nm_e_, nI_1, cl_n (by omega)]
      obtain ⟨τ', q1, q2, q3⟩ := ih (j + 1) (fb_up τ 36 j 0) (by omega) (by omega) (fun i hi => by
        rw [up_at]
        by_cases e : i = j
        · rw [if_pos ⟨rfl, e⟩]
        · rw [if_neg (fun q => e q.2)]; exact h i (by omega))
      exact ⟨τ', q1, q2, fun k i hk => by rw [q3 k i hk, up_ne _ _ (fun q => hk q.1)]⟩
theorem M_L36 (N : Nat) (v1 v2 : Int32) : ∀ (n j : Nat) (τ : fb_S), j ≤ 8 → 8 - j < n → (∀ i, i < j → τ.1 45 i = 0) → ∃ τ', f_X6_live_L36 N n v1 v2 (nI j) τ = f_X6_live_L57 N N v1 v2 0 τ' ∧ (∀ i, i < 8 → τ'.1 45 i = 0) ∧ ∀ k i, k ≠ 45 → τ'.1 k i = τ.1 k i := by
  intro n
  induction n with
  | zero => intro j τ h1 h2; omega
  | succ n ih =>
    intro j τ h1 h2 h
    unfold f_X6_live_L36
    by_cases c : j = 8
    · subst c
      rw [if_pos (by decide)]
      exact ⟨τ, rfl, h, fun _ _ _ => rfl⟩
    · rw [if_neg (lc_nle 8 (by omega) (by omega)), ck_t (in_n (by omega) (by decide)), nm_e_, nI_1, cl_n (by omega)]
      obtain ⟨τ', q1, q2, q3⟩ := ih (j + 1) (fb_up τ 45 j 0) (by omega) (by omega) (fun i hi => by
        rw [up_at]
        by_cases e : i = j
        · rw [if_pos ⟨rfl, e⟩]
        · rw [if_neg (fun q => e q.2)]; exact h i (by omega))
      exact ⟨τ', q1, q2, fun k i hk => by rw [q3 k i hk, up_ne _ _ (fun q => hk q.1)]⟩
theorem M_live (N : Nat) (hN : 40000 ≤ N) {σ : fb_S} (hR : Rl σ) {m mk : Nat} (hm : m ≤ 60) (hmk : mk ≤ 1000) {τ : fb_S} (hk : Keep σ τ) : ∃ τ', f_X6_live N (nI m) (nI mk) τ = some τ' ∧ DM (dys (DP σ) mk m) m σ τ' := by
  obtain ⟨x0, x1, x2, x3, x5, x6, xa⟩ := PX_p hR
  have p0 := (PX_q hR).1
  unfold f_X6_live
  obtain ⟨τ1, e1, e2, e3, e4⟩ := M_asIs N hN hR hk
  rw [e1, Option.bind_some, nm_e_, nm_e_, nm_e_, nm_e_, nm_e_]
  generalize hu : fb_up (fb_up (fb_up (fb_up (fb_up τ1 29 25 0) 29 26 0) 29 27 ((fb_up (fb_up τ1 29 25 0) 29 26 0).1 37 1)) 29 28 0) 29 29 0 = τ2
  have k2 : Keep σ τ2 := by rw [← hu]; exact Keep.up rfl (Keep.up rfl (Keep.up rfl (Keep.up rfl (Keep.up rfl e2))))
  have u0 : ∀ k j, ¬ (k = 29 ∧ 25 ≤ j ∧ j ≤ 29) → τ2.1 k j = τ1.1 k j := fun k j h => by
    rw [← hu, up_ne _ _ (by omega), up_ne _ _ (by omega), up_ne _ _ (by omega), up_ne _ _ (by omega), up_ne _ _ (by omega)]
  obtain ⟨τ3, f1, f2, f3⟩ := M_L36 N (nI m) (nI mk) N 0 τ2 (by omega) (by omega) (fun i hi => by omega)
  obtain ⟨τ4, g1, g2, g3⟩ := M_L57 N (nI m) (nI mk) N 0 τ3 (by omega) (by omega) (fun i hi => by omega)
  have w : ∀ k j, k ≠ 36 → k ≠ 45 → τ4.1 k j = τ2.1 k j := fun k j h1 h2 => by rw [g3 k j h1, f3 k j h2]
  have k4 : Keep σ τ4 := fun k j h => by
    by_cases c1 : k = 36
    · subst c1; cases h
    · by_cases c2 : k = 45
      · subst c2; cases h
      · rw [w k j c1 c2]; exact k2 k j h
  have e0 : (0 : Int32) = nI 0 := rfl
  rw [e0, f1, e0, g1]
  have ex : τ4.1 43 0 - 1 = nI ((DP σ).1 0 - 1) := by
    rw [M_ways hR k4 (by decide), x0]
    have hl : (DP σ).1 0 = (DP σ).1 0 - 1 + 1 := by omega
    rw [hl, nI_pred]; rfl
  rw [ex]
  refine M_days N hN hR hm hmk N 0 τ4 (by omega) (by omega) ⟨k4, ?_, fun j hj => ?_, fun j hj => by omega, ?_, ?_, ?_, ?_, ?_, fun j h1 h2 => g2 j h2⟩
  · rw [w 37 0 (by decide) (by decide), w 29 9 (by decide) (by decide), u0 37 0 (by omega), u0 29 9 (by omega)]; exact e3.2
  · rw [g3 45 j (by decide), f2 j hj]; rfl
  · rw [w 29 25 (by decide) (by decide), ← hu, up_ne _ _ (by omega), up_ne _ _ (by omega), up_ne _ _ (by omega), up_ne _ _ (by omega), up_eq]; rfl
  · rw [w 29 26 (by decide) (by decide), ← hu, up_ne _ _ (by omega), up_ne _ _ (by omega), up_ne _ _ (by omega), up_eq]; rfl
  · rw [w 29 27 (by decide) (by decide), ← hu, up_ne _ _ (by omega), up_ne _ _ (by omega), up_eq, up_ne _ _ (by omega), up_ne _ _ (by omega), e2 37 1 rfl, hR.2.2.1.1 1 (by decide), x6]; rfl
  · rw [w 29 28 (by decide) (by decide), ← hu, up_ne _ _ (by omega), up_eq]; rfl
  · rw [w 29 29 (by decide) (by decide), ← hu, up_eq]; rfl
