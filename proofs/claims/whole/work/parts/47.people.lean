theorem X_let {P : Dp} (hP : Pq P) {s : Dy} {t mk lk : Nat} (ht : t < 60) (hmk : mk ≤ 1000) (hlk : lk ≤ 1000) (hI : Dinv P s t) {τ : fb_S} (e1 : τ.1 18 1 = nI (P.1 1)) (e3 : τ.1 18 3 = nI (P.1 3)) (e5 : τ.1 18 5 = nI (P.1 5)) (e17 : τ.1 17 5 = nI (osum (pon P s) (P.1 0))) (e6 : τ.1 17 6 = nI (pqu P s t)) (e10 : τ.1 17 10 = nI lk) (h20 : Row τ 20 8 (pon P s)) (h21 : Row τ 21 t s.2.1) : ∃ o' qu' τ', min1 P mk s t = fin1 P s t o' qu' ∧ (∀ j, j < 8 → o' j ≤ P.1 1) ∧ qu' ≤ pqu P s t ∧ f_X2_letIn (nI t) (nI mk) τ = some τ' ∧ Row τ' 20 8 o' ∧ τ'.1 17 5 = nI (osum o' (P.1 0)) ∧ τ'.1 17 6 = nI qu' ∧ τ'.1 17 10 = nI (if knw P s t < mk then lk else min lk (knw P s t)) ∧ ∀ k j, k ≠ 20 → ¬ (k = 17 ∧ (j = 5 ∨ j = 6 ∨ j = 10)) → τ'.1 k j = τ.1 k j := by
  have hk := knw_le hP hI
  have hq : pqu P s t ≤ 99 * t + 99 := by
    have a := hI.2.2.2.1
    have b := hP.2.2.2.2.2.2.1 t ht
    unfold pqu
    omega
  have hq' : pqu P s t ≤ 6039 := by omega
  have h0 := pon_le hP hI.1 0 (by omega)
  have ph := hP.2.1
  have pl := hP.2.2.2.1
  have p0 := hP.1
  have hs := osum792 hP (pon_le hP hI.1)
  unfold f_X2_letIn min1
  rw [X_known hP ht e5 e17 h21, Option.bind_some]
  by_cases c : knw P s t < mk
  · rw [if_pos c, if_pos (nI_lt c (by omega)), if_pos c]
    have ee : ent P s t = min (min (pqu P s t) (P.1 3)) (P.1 1 - pon P s 0) := rfl
    have hsum := osum_up (pon P s) 0 (pon P s 0 + ent P s t) (P.1 0) (by omega)
    refine ⟨_, _, fb_up (fb_up (fb_up τ 17 6 (nI (pqu P s t - ent P s t))) 20 0 (nI (pon P s 0 + ent P s t))) 17 5 (nI (osum (pon P s) (P.1 0) + ent P s t)), rfl, ponL_le hP hI.1, Nat.sub_le _ _, ?_, ?_, ?_, ?_, ?_, fun k j hk hj => ?_⟩
    rotate_left
    · exact Row_ne (Row_up (Row_ne h20 (by decide) _ _) _ _) (by decide) _ _
    · rw [up_eq]
      congr 1
      omega
    · rw [up_ne _ _ (by omega), up_ne _ _ (by omega), up_eq]
    · rw [up_ne _ _ (by omega), up_ne _ _ (by omega), up_ne _ _ (by omega)]; exact e10
    · rw [up_ne _ _ (by omega), up_ne _ _ (by omega), up_ne _ _ (by omega)]
    · rw [nm_e_, nm_e_, nm_e_, nm_e_, nm_e_, e1, h20 0 (by omega), nI_sub h0, e6, e3, mn_n (by omega) (by omega), mn_n (by omega) (by omega), ← ee, nI_sub (by omega), up_ne _ _ (by omega : ¬ (20 = 17 ∧ 0 = 6)), h20 0 (by omega), nI_add, up_ne _ _ (by omega : ¬ (17 = 20 ∧ 5 = 0)), up_ne _ _ (by omega : ¬ (17 = 17 ∧ 5 = 6)), e17, nI_add]
  · rw [if_neg c, if_neg (nI_nlt (by omega) (by omega)), if_neg c, nm_e_, e10, mn_n (by omega) (by omega)]
    refine ⟨_, _, _, rfl, pon_le hP hI.1, Nat.le_refl _, rfl, Row_ne h20 (by decide) _ _, ?_, ?_, ?_, fun k j hk hj => ?_⟩
    · rw [up_ne _ _ (by omega)]; exact e17
    · rw [up_ne _ _ (by omega)]; exact e6
    · rw [up_eq]
    · rw [up_ne _ _ (by omega)]
def DX (P : Dp) (s : Dy) (t lk : Nat) (σ τ : fb_S) : Prop := (∀ k j, k ≠ 17 → k ≠ 20 → k ≠ 21 → τ.1 k j = σ.1 k j) ∧ Row τ 20 8 s.1 ∧ Row τ 21 t s.2.1 ∧ τ.1 17 4 = nI s.2.2.1 ∧ τ.1 17 5 = nI (osum s.1 (P.1 0)) ∧ τ.1 17 6 = nI s.2.2.2.1 ∧ τ.1 17 7 = nI s.2.2.2.2.1 ∧ τ.1 17 8 = nI s.2.2.2.2.2.1 ∧ τ.1 17 9 = nI s.2.2.2.2.2.2 ∧ τ.1 17 10 = nI lk
theorem X_walk (N : Nat) (hN : 40000 ≤ N) {σ : fb_S} (hR : Rl σ) {m mk ms : Nat} (hm : m ≤ 60) (hmk : mk ≤ 1000) (hms : ms ≤ 9999) : ∀ (n t : Nat) (τ : fb_S), t ≤ m → m - t < n → DX (DP σ) (dys (DP σ) mk t) t (lks (DP σ) mk t) σ τ → ∃ T τ', t ≤ T ∧ T ≤ m ∧ f_X2_walkDay_L9 N n (nI m) (nI mk) (nI ms) (iI (dmp σ)) (nI t) τ = some τ' ∧ DX (DP σ) (dys (DP σ) mk T) T (lks (DP σ) mk T) σ τ' ∧ (T = m ∨ ms < (dys (DP σ) mk T).2.2.2.2.2.1) := by
  have hP := PX_q hR
  obtain ⟨x0, x1, x2, x3, x5, x6, xa⟩ := PX_p hR
  intro n
  induction n with
  | zero => intro t τ h1 h2; omega
  | succ n ih =>
    intro t τ ht hn hD
    have hI := dys_inv hP mk t (by omega)
    have hlk := lks_le (P := DP σ) (mk := mk) t
    obtain ⟨i1, i2, i3, i4, i5, i6, i7⟩ := id hI
    obtain ⟨d0, d20, d21, d4, d5, d6, d7, d8, d9, d10⟩ := id hD
    unfold f_X2_walkDay_L9
    by_cases c1 : t = m
    · rw [if_pos (nI_le (by omega) (by omega))]
      exact ⟨t, τ, Nat.le_refl _, ht, rfl, hD, Or.inl c1⟩
    · rw [if_neg (nI_ge (by omega) (by omega)), d8]
      by_cases c2 : ms < (dys (DP σ) mk t).2.2.2.2.2.1
      · rw [if_pos (nI_lt c2 (by omega))]
        exact ⟨t, τ, Nat.le_refl _, ht, rfl, hD, Or.inr c2⟩
      · have hin : fb_in (nI t) 60 = true := in_n (by omega) (by decide)
        rw [if_neg (nI_nlt (by omega) (by omega)), ck_t hin, nm_e_, cl_n (by omega), d6, d0 19 t (by decide) (by decide) (by decide), xa t (by omega), nI_add]
        generalize hu : fb_up τ 17 6 (nI ((dys (DP σ) mk t).2.2.2.1 + (DP σ).2.1 t)) = τ1
        have u0 : ∀ k j, k ≠ 17 → τ1.1 k j = τ.1 k j := fun k j hk => by rw [← hu, up_ne _ _ (by omega)]
        have u1 : ∀ j, j ≠ 6 → τ1.1 17 j = τ.1 17 j := fun j hj => by rw [← hu, up_ne _ _ (by omega)]
        have u2 : τ1.1 17 6 = nI (pqu (DP σ) (dys (DP σ) mk t) t) := by rw [← hu, up_eq]; rfl
        have hy : ∀ j, τ1.1 18 j = σ.1 18 j := fun j => by rw [u0 18 j (by decide), d0 18 j (by decide) (by decide) (by decide)]
        obtain ⟨τ2, g1, g2, g3, g4, g5⟩ := X_go N hN hP hI (by omega) (τ := τ1) (by rw [hy, x0]) (by rw [hy, x1]) (by rw [hy, x2]) (fun j hj => by rw [u0 20 j (by decide)]; exact d20 j hj) (by rw [u1 4 (by decide), d4]) (by rw [u1 5 (by decide), d5])
        rw [g1, Option.bind_some]
        have hz : ∀ j, τ2.1 18 j = σ.1 18 j := fun j => by rw [g5 18 j (by decide) (by omega), hy]
        obtain ⟨o', qu', τ3, m1, m2, m3, m4, m5, m6, m7, m8, m9⟩ := X_let hP (by omega : t < 60) hmk hlk hI (τ := τ2) (by rw [hz, x1]) (by rw [hz, x3]) (by rw [hz, x5]) g4 (by rw [g5 17 6 (by decide) (by omega), u2]) (by rw [g5 17 10 (by decide) (by omega), u1 10 (by decide), d10]) g2 (fun j hj => by rw [g5 21 j (by decide) (by omega), u0 21 j (by decide)]; exact d21 j hj)
        rw [m4, Option.bind_some, ck_t hin, nm_e_, nm_e_]
        have hsum := osum792 hP m2
        have w : ∀ j, j ≠ 4 → j ≠ 5 → j ≠ 6 → j ≠ 10 → τ3.1 17 j = τ.1 17 j := fun j q1 q2 q3 q4 => by rw [m9 17 j (by decide) (by omega), g5 17 j (by decide) (by omega), u1 j q3]
        have w0 : ∀ k j, k ≠ 17 → k ≠ 20 → τ3.1 k j = τ.1 k j := fun k j q1 q2 => by rw [m9 k j q2 (by omega), g5 k j q2 (by omega), u0 k j q1]
        rw [up_ne _ _ (by omega : ¬ (17 = 21 ∧ 9 = t)), up_ne _ _ (by omega : ¬ (17 = 21 ∧ 5 = t)), w 9 (by decide) (by decide) (by decide) (by decide), m6, d9, mx_n (by omega) (by omega)]
        generalize hv : fb_up (fb_up τ3 21 t (nI (osum o' ((DP σ).1 0)))) 17 9 (nI (max (dys (DP σ) mk t).2.2.2.2.2.2 (osum o' ((DP σ).1 0)))) = τ4
        have v0 : ∀ k j, k ≠ 17 → k ≠ 21 → τ4.1 k j = τ3.1 k j := fun k j q1 q2 => by rw [← hv, up_ne _ _ (by omega), up_ne _ _ (by omega)]
        have v1 : ∀ j, j ≠ 9 → τ4.1 17 j = τ3.1 17 j := fun j q => by rw [← hv, up_ne _ _ (by omega), up_ne _ _ (by omega)]
        have v2 : τ4.1 17 9 = nI (max (dys (DP σ) mk t).2.2.2.2.2.2 (osum o' ((DP σ).1 0))) := by rw [← hv, up_eq]
        have v3 : Row τ4 21 (t + 1) (up1 (dys (DP σ) mk t).2.1 t (osum o' ((DP σ).1 0))) := by
          rw [← hv]
          refine Row_ne (fun j hj => ?_) (by decide) _ _
          rw [up_at]
          by_cases e : j = t
          · rw [if_pos ⟨rfl, e⟩, e, up1_eq]
          · rw [if_neg (fun q => e q.2), up1_ne _ _ e, w0 21 j (by decide) (by decide)]; exact d21 j (by omega)
        rw [v1 5 (by decide), m6, v1 7 (by decide), w 7 (by decide) (by decide) (by decide) (by decide), d7]
        obtain ⟨q, q1, q2⟩ := X_first hR (τ := τ4) (by rw [v0 7 0 (by decide) (by decide), w0 7 0 (by decide) (by decide), d0 7 0 (by decide) (by decide) (by decide)]) (by rw [v0 8 0 (by decide) (by decide), w0 8 0 (by decide) (by decide), d0 8 0 (by decide) (by decide) (by decide)]) (by rw [v0 9 0 (by decide) (by decide), w0 9 0 (by decide) (by decide), d0 9 0 (by decide) (by decide) (by decide)]) (by omega : osum o' ((DP σ).1 0) ≤ 999) i5
        have hb := hP.2.2.2.2.2.2.2 (osum o' ((DP σ).1 0)) (dys (DP σ) mk t).2.2.2.2.1
        rw [q1, Option.bind_some, q2, Option.bind_some, nm_e_, nm_e_, nI_1, up_eq, up_ne _ _ (by omega : ¬ (17 = 17 ∧ 8 = 7)), v1 8 (by decide), w 8 (by decide) (by decide) (by decide) (by decide), d8, mx_n (by omega) (by omega)]
        obtain ⟨T, τ', r1, r2, r3, r4, r5⟩ := ih (t + 1) (fb_up (fb_up τ4 17 7 (nI ((DP σ).2.2 (osum o' ((DP σ).1 0)) (dys (DP σ) mk t).2.2.2.2.1))) 17 8 (nI (max (dys (DP σ) mk t).2.2.2.2.2.1 ((DP σ).2.2 (osum o' ((DP σ).1 0)) (dys (DP σ) mk t).2.2.2.2.1)))) (by omega) (by omega) (by
          show DX (DP σ) (min1 (DP σ) mk (dys (DP σ) mk t) t) (t + 1) (lks (DP σ) mk (t + 1)) σ _
          rw [m1]
          refine ⟨fun k j h1 h2 h3 => ?_, ?_, ?_, ?_, ?_, ?_, ?_, ?_, ?_, ?_⟩
          · rw [up_ne _ _ (by omega), up_ne _ _ (by omega), v0 k j h1 h3, w0 k j h1 h2, d0 k j h1 h2 h3]
          · refine Row_ne (Row_ne (fun j hj => ?_) (by decide) _ _) (by decide) _ _
            rw [v0 20 j (by decide) (by decide)]; exact m5 j hj
          · exact Row_ne (Row_ne v3 (by decide) _ _) (by decide) _ _
          · rw [up_ne _ _ (by omega), up_ne _ _ (by omega), v1 4 (by decide), m9 17 4 (by decide) (by omega)]; exact g3
          · rw [up_ne _ _ (by omega), up_ne _ _ (by omega), v1 5 (by decide)]; exact m6
          · rw [up_ne _ _ (by omega), up_ne _ _ (by omega), v1 6 (by decide)]; exact m7
          · rw [up_ne _ _ (by omega), up_eq]; rfl
          · rw [up_eq]; rfl
          · rw [up_ne _ _ (by omega), up_ne _ _ (by omega)]; exact v2
          · rw [up_ne _ _ (by omega), up_ne _ _ (by omega), v1 10 (by decide), m8]; rfl)
        exact ⟨T, τ', by omega, r2, r3, r4, r5⟩
theorem X_day (N : Nat) (hN : 40000 ≤ N) {σ : fb_S} (hR : Rl σ) {m mk ms : Nat} (hm : m ≤ 60) (hmk : mk ≤ 1000) (hms : ms ≤ 9999) (τ : fb_S) (hk : ∀ k j, k ≠ 17 → k ≠ 20 → k ≠ 21 → τ.1 k j = σ.1 k j) : ∃ T τ', T ≤ m ∧ f_X2_walkDay N (nI m) (nI mk) (nI ms) (σ.1 1 1) (iI (dmp σ)) τ = some τ' ∧ DX (DP σ) (dys (DP σ) mk T) T (lks (DP σ) mk T) σ τ' ∧ (T = m ∨ ms < (dys (DP σ) mk T).2.2.2.2.2.1) := by
  unfold f_X2_walkDay f_X2_clear
  obtain ⟨τ1, f1, -, f3⟩ := fill_ok 20 N 0 (by decide) (by show 8 < N; omega) τ
  have x6 := (PX_p hR).2.2.2.2.2.1
  rw [f1, Option.bind_some, nm_e_, nm_e_, nm_e_, nm_e_, nm_e_, nm_e_, nm_e_, Option.bind_some]
  obtain ⟨T, τ', r1, r2, r3, r4, r5⟩ := X_walk N hN hR hm hmk hms N 0 (fb_up (fb_up (fb_up (fb_up (fb_up (fb_up (fb_up τ1 17 4 0) 17 5 0) 17 6 0) 17 7 (σ.1 1 1)) 17 8 0) 17 9 0) 17 10 1000) (by omega) (by omega) (by
    refine ⟨fun k j h1 h2 h3 => ?_, fun j hj => ?_, fun j hj => by omega, ?_, ?_, ?_, ?_, ?_, ?_, ?_⟩
    · simp only [up_at]
      rw [if_neg (by omega), if_neg (by omega), if_neg (by omega), if_neg (by omega), if_neg (by omega), if_neg (by omega), if_neg (by omega), f3, if_neg (by omega), hk k j h1 h2 h3]
    · simp only [up_at]
      rw [if_neg (by omega), if_neg (by omega), if_neg (by omega), if_neg (by omega), if_neg (by omega), if_neg (by omega), if_neg (by omega), f3, if_pos ⟨rfl, hj⟩]; rfl
    · simp only [up_at]; rfl
    · simp only [up_at]
      rw [if_neg (by omega), if_neg (by omega), if_neg (by omega), if_neg (by omega), if_neg (by omega), if_pos (by decide)]
      have : ∀ n, osum (fun _ => 0) n = 0 := fun n => by induction n with
        | zero => rfl
        | succ n ih => unfold osum; rw [ih]
      show _ = nI (osum (fun _ => 0) _)
      rw [this]; rfl
    · simp only [up_at]; rfl
    · simp only [up_at]; exact x6
    · simp only [up_at]; rfl
    · simp only [up_at]; rfl
    · simp only [up_at]; rfl)
  exact ⟨T, τ', r2, r3, r4, r5⟩
